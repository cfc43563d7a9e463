/-! THE MODEL's methods, 6: the search of patterns -/
section M6
variable {d : Nat} {S : bSt}
theorem mP_12 (a : Acc) (f : NV) : mP S a f 40 0 0 12 = a.2.2.1 := by simp [mP]
theorem mP_13 (a : Acc) (f : NV) : mP S a f 40 0 0 13 = a.2.1 := by simp [mP]
theorem mP_14 (a : Acc) (f : NV) : mP S a f 40 0 0 14 = a.1 := by simp [mP]
theorem mP_46 (a : Acc) (f : NV) (m : Nat) : mP S a f 46 0 0 m = f m := by simp [mP]
theorem mP_47 (a : Acc) (f : NV) (m : Nat) : mP S a f 47 0 0 m = a.2.2.2 m := by simp [mP]
theorem mP_k {k : Nat} (a : Acc) (f : NV) (h : k ≠ 40) (h6 : k ≠ 46) (h7 : k ≠ 47) (i j : Nat) : mP S a f k i j = S k i j := by
  funext m
  simp [mP, h, h6, h7]
theorem mP_40 {m : Nat} (a : Acc) (f : NV) (h1 : m ≠ 12) (h2 : m ≠ 13) (h3 : m ≠ 14) : mP S a f 40 0 0 m = S 40 0 0 m := by simp [mP, h1, h2, h3]
theorem mP_41 (a : Acc) (f : NV) : mP S a f 41 0 0 = S 41 0 0 := mP_k a f (by decide) (by decide) (by decide) 0 0
theorem mP_48 (a : Acc) (f : NV) : mP S a f 48 0 0 = S 48 0 0 := mP_k a f (by decide) (by decide) (by decide) 0 0
theorem mP_up14 (a : Acc) (f : NV) (x : Int32) : sUp (mP S a f) 40 0 0 14 x = mP S (x, a.2) f := by
  funext k i j m
  unfold sUp mP
  by_cases h : k = 40 ∧ i = 0 ∧ j = 0
  · obtain ⟨rfl, rfl, rfl⟩ := h
    by_cases h1 : m = 12
    · subst h1; simp
    · by_cases h2 : m = 13
      · subst h2; simp
      · by_cases h3 : m = 14
        · subst h3; simp
        · simp [h1, h2, h3]
  · have e : ∀ z, ¬ (k = 40 ∧ i = 0 ∧ j = 0 ∧ m = z) := fun z q => h ⟨q.1, q.2.1, q.2.2.1⟩
    simp only [e, if_false]
theorem mP_up13 (a : Acc) (f : NV) (x : Int32) : sUp (mP S a f) 40 0 0 13 x = mP S (a.1, x, a.2.2) f := by
  funext k i j m
  unfold sUp mP
  by_cases h : k = 40 ∧ i = 0 ∧ j = 0
  · obtain ⟨rfl, rfl, rfl⟩ := h
    by_cases h1 : m = 12
    · subst h1; simp
    · by_cases h2 : m = 13
      · subst h2; simp
      · simp [h1, h2]
  · have e : ∀ z, ¬ (k = 40 ∧ i = 0 ∧ j = 0 ∧ m = z) := fun z q => h ⟨q.1, q.2.1, q.2.2.1⟩
    simp only [e, if_false]
theorem mP_up12 (a : Acc) (f : NV) (x : Int32) : sUp (mP S a f) 40 0 0 12 x = mP S (a.1, a.2.1, x, a.2.2.2) f := by
  funext k i j m
  unfold sUp mP
  by_cases h : k = 40 ∧ i = 0 ∧ j = 0
  · obtain ⟨rfl, rfl, rfl⟩ := h
    by_cases h1 : m = 12
    · subst h1; simp
    · simp [h1]
  · have e : ∀ z, ¬ (k = 40 ∧ i = 0 ∧ j = 0 ∧ m = z) := fun z q => h ⟨q.1, q.2.1, q.2.2.1⟩
    simp only [e, if_false]
theorem mP_up47 (a : Acc) (f : NV) (n : Nat) (x : Int32) : sUp (mP S a f) 47 0 0 n x = mP S (a.1, a.2.1, a.2.2.1, upd a.2.2.2 n x) f := by
  funext k i j m
  unfold sUp mP upd
  by_cases h : k = 47 ∧ i = 0 ∧ j = 0
  · obtain ⟨rfl, rfl, rfl⟩ := h
    by_cases h1 : m = n <;> simp [h1]
  · have e : ¬ (k = 47 ∧ i = 0 ∧ j = 0 ∧ m = n) := fun q => h ⟨q.1, q.2.1, q.2.2.1⟩
    simp only [e, h, if_false]
theorem mP_up46 (a : Acc) (f : NV) (n : Nat) (x : Int32) : sUp (mP S a f) 46 0 0 n x = mP S a (upd f n x) := by
  funext k i j m
  unfold sUp mP upd
  by_cases h : k = 46 ∧ i = 0 ∧ j = 0
  · obtain ⟨rfl, rfl, rfl⟩ := h
    by_cases h1 : m = n <;> simp [h1]
  · have e : ¬ (k = 46 ∧ i = 0 ∧ j = 0 ∧ m = n) := fun q => h ⟨q.1, q.2.1, q.2.2.1⟩
    simp only [e, h, if_false]
theorem c_min {a b : Nat} (ha : a < 2 ^ 31) (hb : b < 2 ^ 31) : Ret d 265 [vI (nI a), vI (nI b)] S (some (vI (nI (min a b)))) S := by
  refine E_265 ?_
  refine (B_265_0).mpr ?_
  by_cases h : b < a
  · rw [if_pos (by rw [qI_lt hb ha]; exact h)]
    refine (B_265_9).mpr ?_
    refine (B_265_10).mpr ?_
    exact ⟨by rw [Nat.min_eq_right (by omega)], rfl⟩
  · rw [if_neg (by rw [qI_lt hb ha]; exact h)]
    refine (B_265_5).mpr ?_
    refine (B_265_10).mpr ?_
    exact ⟨by rw [Nat.min_eq_left (by omega)], rfl⟩
theorem c_offers (hd : 2 ≤ d) {s rest : Nat} {a : Acc} {f : NV} : Ret d 176 [vR 40 0 0, vI (nI s), vI (nI rest)] (mP S a f) none (mP S (offA (S 41 0 0) f s rest a) f) := by
  refine E_176 ?_
  have hp := c_isPossible (d := d - 1) (S := mP S a f) (by omega) (x1 := nI s) (x2 := nI rest)
  rw [mP_41] at hp
  refine (B_176_0 (by omega) hp).mpr ?_
  unfold offA
  by_cases g : aPoss (S 41 0 0) (nI s) (nI rest) = false
  · rw [if_pos (tf_0.mpr g), if_neg (by rw [g]; decide)]
    refine (B_176_9).mpr ?_
    exact ⟨rfl, rfl⟩
  have g' : aPoss (S 41 0 0) (nI s) (nI rest) = true := by simpa using g
  rw [if_neg (by rw [tf_0, g']; decide), if_pos g']
  obtain ⟨a1, a2, a3, a4⟩ := a
  have take : ∀ {x u3 : Option bV} {Q : Option bV → bSt → Prop}, Q none (mP S (a1 + 1, nI s, nI rest, fun m => if m < 8 then f m else a4 m) f) → Wp d 176 51 [some (vR 40 0 0), some (vI (nI s)), some (vI (nI rest)), u3] [] (mP S (a1 + 1, a2, a3, a4) f) Q := by
    intro x u3 Q hQ
    refine (B_176_51).mpr ?_
    rw [mP_up12, mP_up13]
    have e0 : (fun m => if m < 0 then f m else a4 m) = a4 := by funext m; simp
    have key := wloop (d := d) (k := 176) (pc := 63) (Q := Q) 8 (fun m => [some (vR 40 0 0), some (vI (nI s)), some (vI (nI rest)), some (vI (nI m))]) (fun n => mP S (a1 + 1, nI s, nI rest, fun m => if m < n then f m else a4 m) f) ?_ ?_
    · simp only [e0] at key
      exact key
    · refine (B_176_63).mpr ?_
      rw [if_pos (by exact Int32.le_refl _)]
      refine (B_176_87).mpr ?_
      exact hQ
    · intro m hm hn
      refine (B_176_63).mpr ?_
      rw [if_neg (by rw [show (8 : Int32) = nI 8 from rfl, qI_le (by omega) (by omega)]; omega)]
      refine (B_176_69 (n1_ := m) (n2_ := m) rfl hm rfl hm).mpr ?_
      rw [mP_46, mP_up47, qI_succ]
      have e : (upd (fun q => if q < m then f q else a4 q) m (f m)) = (fun q => if q < m + 1 then f q else a4 q) := by
        funext q
        unfold upd
        by_cases h1 : q = m
        · subst h1; simp
        · by_cases h2 : q < m
          · simp [h1, h2, Nat.lt_succ_of_lt h2]
          · have : ¬ q < m + 1 := by omega
            simp [h1, h2, this]
      rw [e]
      exact hn
  have skip : ∀ {u3 : Option bV} {Q : Option bV → bSt → Prop}, Q none (mP S (a1 + 1, a2, a3, a4) f) → Wp d 176 87 [some (vR 40 0 0), some (vI (nI s)), some (vI (nI rest)), u3] [] (mP S (a1 + 1, a2, a3, a4) f) Q := by
    intro u3 Q hQ
    refine (B_176_87).mpr ?_
    exact hQ
  refine (B_176_10).mpr ?_
  rw [mP_14, mP_up14, mP_13]
  dsimp only
  by_cases k1 : a2 = 0
  · rw [if_pos k1, if_pos (Or.inl k1)]
    exact take (x := none) ⟨rfl, rfl⟩
  rw [if_neg k1]
  refine (B_176_27).mpr ?_
  rw [mP_12]
  dsimp only
  by_cases k2 : nI rest < a3
  · rw [if_pos k2, if_pos (Or.inr (Or.inl k2))]
    exact take (x := none) ⟨rfl, rfl⟩
  rw [if_neg k2]
  refine (B_176_35).mpr ?_
  rw [mP_12]
  dsimp only
  by_cases k3 : nI rest = a3
  · rw [if_pos k3]
    refine (B_176_43).mpr ?_
    rw [mP_13]
    dsimp only
    by_cases k4 : a2 ≤ nI s
    · rw [if_pos k4, if_neg (by rintro (h | h | ⟨-, h⟩); exact k1 h; exact k2 h; exact Int32.not_lt.mpr k4 h)]
      exact skip ⟨rfl, rfl⟩
    · rw [if_neg k4, if_pos (Or.inr (Or.inr ⟨k3, Int32.not_le.mp k4⟩))]
      exact take (x := none) ⟨rfl, rfl⟩
  · rw [if_neg k3, if_neg (by rintro (h | h | ⟨h, -⟩); exact k1 h; exact k2 h; exact k3 h)]
    exact skip ⟨rfl, rfl⟩
theorem c_tries : ∀ (k : Nat) {d o s rest : Nat} {a : Acc} {f : NV} {w L : Nat → Nat} {S : bSt}, k + 3 ≤ d → o + k = cO (S 41 0 0) → cO (S 41 0 0) ≤ 8 → S 41 0 0 3 = nI (cO (S 41 0 0)) → (∀ o, o < cO (S 41 0 0) → S 41 0 0 (7 + 6 * o) = nI (w o) ∧ 10 ≤ w o ∧ w o ≤ 150) → (∀ o, o < cO (S 41 0 0) → S 48 0 0 o = nI (L o) ∧ L o < 10000) → s ≤ 8 → rest ≤ 300 → (∀ m, o ≤ m → m < 8 → f m = 0) →
    Ret d 175 [vR 40 0 0, vI (nI o), vI (nI s), vI (nI rest)] (mP S a f) none (mP S (trA (S 41 0 0) w L k o s rest f a) f) := by
  intro k
  induction k with
  | zero =>
    intro d o s rest a f w L S hd hk hc h3 hw hL hs hr hf
    refine E_175 ?_
    refine (B_175_0).mpr ?_
    rw [mP_41, if_pos (by rw [h3, show o = cO (S 41 0 0) by omega])]
    refine (B_175_10 (by omega) (c_offers (by omega))).mpr ?_
    exact ⟨rfl, rfl⟩
  | succ k ih =>
    intro d o s rest a f w L S hd hk hc h3 hw hL hs hr hf
    obtain ⟨w1, w2, w3⟩ := hw o (by omega)
    obtain ⟨l1, l2⟩ := hL o (by omega)
    have hrd : rest / w o ≤ rest := Nat.div_le_self _ _
    have e1 : (8 : Int32) - nI s = nI (8 - s) := qI_sub hs
    have e2 : nI rest / nI (w o) = nI (rest / w o) := qI_div (by omega) (by omega) (by omega)
    refine E_175 ?_
    refine (B_175_0).mpr ?_
    rw [mP_41, if_neg (by rw [h3, qI_eq (by omega) (by omega)]; omega)]
    have ho := c_o (d := d - 1) (S := mP S a f) (x1 := nI o) (x2 := 1) (n := 7 + 6 * o) (by first | rfl | (simp only [qI_add, qI_mul, qI_lits]; done) | (simp only [qI_add, qI_mul, qI_lits]; grind)) (by omega)
    rw [mP_41, w1] at ho
    refine (B_175_17 (n1_ := o) (by omega) rfl (by omega) ho (by rw [show (0 : Int32) = nI 0 from rfl, qI_eq (by omega) (by omega)]; omega) (by rw [e1, e2]; exact c_min (by omega) (by omega)) (by rw [mP_48, l1]; exact c_min (by omega) (by omega))).mpr ?_
    generalize hM : min (L o) (min (8 - s) (rest / w o)) = M
    have hM8 : M ≤ 8 - s := by omega
    have hMr : M ≤ rest / w o := by omega
    have hMw : M * w o ≤ rest := Nat.le_trans (Nat.mul_le_mul_right _ hMr) (Nat.div_mul_le_self _ _)
    show Wp d 175 47 [some (vR 40 0 0), some (vI (nI o)), some (vI (nI s)), some (vI (nI rest)), some (vI (nI M)), some (vI (nI M))] [] (mP S a f) _
    have hres : trA (S 41 0 0) w L (k + 1) o s rest f a = (dn M).foldl (fun a n => trA (S 41 0 0) w L k (o + 1) (s + n) (rest - n * w o) (upd f o (nI n)) a) a := by
      rw [← hM]
      rfl
    rw [hres]
    have fin : ∀ (b : Acc) (g : NV) {u4 u5 x4 x5 : Int32} {Q : Option bV → bSt → Prop}, (∀ q, q ≠ o → g q = f q) → Q none (mP S b f) → Wp d 175 88 [some (vR 40 0 0), some (vI (nI o)), some (vI (nI s)), some (vI (nI rest)), some (vI x4), some (vI x5)] [] (mP S b g) Q := by
      intro b g u4 u5 x4 x5 Q hg hQ
      refine (B_175_88 (n1_ := o) rfl (by omega)).mpr ?_
      rw [mP_up46]
      have e : upd g o 0 = f := by
        funext q
        unfold upd
        by_cases h : q = o
        · rw [if_pos h, h, hf o (Nat.le_refl _) (by omega)]
        · rw [if_neg h, hg q h]
      rw [e]
      exact hQ
    have down : ∀ (m : Nat) (b : Acc) (g : NV) {x4 : Int32} {Q : Option bV → bSt → Prop}, m ≤ M → (∀ q, q ≠ o → g q = f q) → Q none (mP S ((dn m).foldl (fun a n => trA (S 41 0 0) w L k (o + 1) (s + n) (rest - n * w o) (upd f o (nI n)) a) b) f) → Wp d 175 47 [some (vR 40 0 0), some (vI (nI o)), some (vI (nI s)), some (vI (nI rest)), some (vI x4), some (vI (nI m))] [] (mP S b g) Q := by
      intro m
      induction m with
      | zero =>
        intro b g x4 Q hm hg hQ
        have eu : upd g o (nI 0) = upd f o (nI 0) := by
          funext q
          unfold upd
          by_cases h : q = o
          · rw [if_pos h, if_pos h]
          · rw [if_neg h, if_neg h, hg q h]
        refine (B_175_47).mpr ?_
        rw [if_neg (nI_pos (by omega))]
        have ho2 := c_o (d := d - 1) (S := mP S b (upd f o (nI 0))) (x1 := nI o) (x2 := 1) (n := 7 + 6 * o) (by first | rfl | (simp only [qI_add, qI_mul, qI_lits]; done) | (simp only [qI_add, qI_mul, qI_lits]; grind)) (by omega)
        rw [mP_41, w1] at ho2
        have hrec := ih (d := d - 1) (o := o + 1) (s := s + 0) (rest := rest - 0 * w o) (a := b) (f := upd f o (nI 0)) (w := w) (L := L) (S := S) (by omega) (by omega) hc h3 hw hL (by omega) (by omega) (fun q hq hq8 => by unfold upd; rw [if_neg (by omega)]; exact hf q (by omega) hq8)
        refine (B_175_52 (n1_ := o) (S1_ := mP S b (upd f o (nI 0))) (r1_ := nI (w o)) (S2_ := mP S (trA (S 41 0 0) w L k (o + 1) (s + 0) (rest - 0 * w o) (upd f o (nI 0)) b) (upd f o (nI 0))) (by omega) rfl (by omega) (by rw [mP_up46, eu]; exact ho2) (by rw [qI_succ, ← qI_add, ← qI_mul, qI_sub (by omega)]; exact hrec)).mpr ?_
        rw [show nI 0 + (-1 : Int32) = -1 from rfl]
        refine (B_175_47).mpr ?_
        rw [if_pos (by decide)]
        exact fin _ _ (u4 := 0) (u5 := 0) (fun q hq => by unfold upd; rw [if_neg hq]) hQ
      | succ m ihm =>
        intro b g x4 Q hm hg hQ
        have eu : upd g o (nI (m + 1)) = upd f o (nI (m + 1)) := by
          funext q
          unfold upd
          by_cases h : q = o
          · rw [if_pos h, if_pos h]
          · rw [if_neg h, if_neg h, hg q h]
        have hmw : (m + 1) * w o ≤ rest := Nat.le_trans (Nat.mul_le_mul_right _ hm) hMw
        refine (B_175_47).mpr ?_
        rw [if_neg (nI_pos (by omega))]
        have ho2 := c_o (d := d - 1) (S := mP S b (upd f o (nI (m + 1)))) (x1 := nI o) (x2 := 1) (n := 7 + 6 * o) (by first | rfl | (simp only [qI_add, qI_mul, qI_lits]; done) | (simp only [qI_add, qI_mul, qI_lits]; grind)) (by omega)
        rw [mP_41, w1] at ho2
        have hrec := ih (d := d - 1) (o := o + 1) (s := s + (m + 1)) (rest := rest - (m + 1) * w o) (a := b) (f := upd f o (nI (m + 1))) (w := w) (L := L) (S := S) (by omega) (by omega) hc h3 hw hL (by omega) (by omega) (fun q hq hq8 => by unfold upd; rw [if_neg (by omega)]; exact hf q (by omega) hq8)
        refine (B_175_52 (n1_ := o) (S1_ := mP S b (upd f o (nI (m + 1)))) (r1_ := nI (w o)) (S2_ := mP S (trA (S 41 0 0) w L k (o + 1) (s + (m + 1)) (rest - (m + 1) * w o) (upd f o (nI (m + 1))) b) (upd f o (nI (m + 1)))) (by omega) rfl (by omega) (by rw [mP_up46, eu]; exact ho2) (by rw [qI_succ, ← qI_add, ← qI_mul, qI_sub hmw]; exact hrec)).mpr ?_
        rw [show nI (m + 1) + (-1 : Int32) = nI m from by rw [qI_add, qI_lits.2.1]; grind]
        refine ihm _ _ (by omega) (fun q hq => by unfold upd; rw [if_neg hq]) ?_
        rw [dn_succ] at hQ
        exact hQ
    exact down M a f (Nat.le_refl _) (fun _ _ => rfl) ⟨rfl, rfl⟩
end M6
