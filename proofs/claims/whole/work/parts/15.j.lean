/-! THE MODEL's methods, 18: words, numbers, commands -/
section M15j
def wch (i : Nat) : Nat := [111, 114, 100, 101, 114, 32, 114, 111, 108, 108, 32, 99, 117, 116, 32, 97, 108, 108, 32, 97, 114, 114, 97, 110, 103, 101, 32, 98, 101, 116, 116, 101, 114, 32].getD i 0
def mW (S : bSt) : Prop := ∀ i, i < 34 → S 56 0 0 i = nI (wch i)
def leN (tx : Nat → Nat) (e : Nat) : Nat → Nat → Nat
  | 0, p => p
  | n + 1, p => if isA tx e (p, false) 97 122 = true then leN tx e n (p + 1) else p
/-- where the letters end -/
def leE (tx : Nat → Nat) (e p : Nat) : Nat := leN tx e (e - p) p
def mtB (tx : Nat → Nat) (p q b : Nat) : Nat → Bool
  | 0 => true
  | i + 1 => mtB tx p q b i && (decide (p + i < q) && decide (tx (p + i) = wch (b + i)))
def isW (tx : Nat → Nat) (p q b l : Nat) : Bool := mtB tx p q b l && decide (l = q - p)
/-- the number of the word between two places; 6 if it is none -/
def wrd (tx : Nat → Nat) (p q : Nat) : Nat := if isW tx p q 0 5 = true then 0 else if isW tx p q 6 4 = true then 1 else if isW tx p q 11 3 = true then 2 else if isW tx p q 15 3 = true then 3 else if isW tx p q 19 7 = true then 4 else if isW tx p q 27 6 = true then 5 else 6
def wlen (w : Nat) : Nat := [5, 4, 3, 3, 7, 6].getD w 0
theorem wrd_le (tx : Nat → Nat) (p q : Nat) : wrd tx p q ≤ 6 := by
  unfold wrd
  repeat' split
  all_goals omega
theorem wrd_len {tx : Nat → Nat} {p q : Nat} (h : wrd tx p q ≠ 6) : wlen (wrd tx p q) = q - p := by
  have hw : ∀ {b l}, isW tx p q b l = true → l = q - p := by
    intro b l h
    unfold isW at h
    simp only [Bool.and_eq_true, decide_eq_true_eq] at h
    exact h.2
  unfold wrd at *
  by_cases h0 : isW tx p q 0 5 = true
  · rw [if_pos h0]; exact hw h0
  rw [if_neg h0] at h ⊢
  by_cases h1 : isW tx p q 6 4 = true
  · rw [if_pos h1]; exact hw h1
  rw [if_neg h1] at h ⊢
  by_cases h2 : isW tx p q 11 3 = true
  · rw [if_pos h2]; exact hw h2
  rw [if_neg h2] at h ⊢
  by_cases h3 : isW tx p q 15 3 = true
  · rw [if_pos h3]; exact hw h3
  rw [if_neg h3] at h ⊢
  by_cases h4 : isW tx p q 19 7 = true
  · rw [if_pos h4]; exact hw h4
  rw [if_neg h4] at h ⊢
  by_cases h5 : isW tx p q 27 6 = true
  · rw [if_pos h5]; exact hw h5
  rw [if_neg h5] at h
  exact absurd rfl h
theorem leN_le {tx : Nat → Nat} {e : Nat} : ∀ n p, p ≤ e → p ≤ leN tx e n p ∧ leN tx e n p ≤ e := by
  intro n
  induction n with
  | zero => intro p hp; exact ⟨Nat.le_refl _, hp⟩
  | succ n ih =>
    intro p hp
    unfold leN
    split
    · rename_i h
      have := ih (p + 1) (isA_lt h).2.1
      omega
    · exact ⟨Nat.le_refl _, hp⟩
theorem leE_le {tx : Nat → Nat} {e p : Nat} (hp : p ≤ e) : p ≤ leE tx e p ∧ leE tx e p ≤ e := leN_le _ _ hp
variable {d : Nat} {S : bSt} {tx : Nat → Nat} {e : Nat}
theorem c_le_go : ∀ (n : Nat) {d : Nat} {S S0 : bSt} {p : Nat} {x1 : Int32} {u2 u3 u4 u5 : Option bV} {Q : Option bV → bSt → Prop}, 2 ≤ d → mT tx e (p, false) S → e = p + n → fP S0 S → (∀ S', fP S0 S' → mT tx e (leN tx e n p, false) S' → Wp d 239 29 [some (vR 40 0 0), some (vI x1), u2, u3, u4, u5] [] S' Q) → Wp d 239 5 [some (vR 40 0 0), some (vI x1), u2, u3, u4, u5] [] S Q := by
  intro n
  induction n with
  | zero =>
    intro d S S0 p x1 u2 u3 u4 u5 Q hd h hp hf hQ
    refine (B_239_5 (by omega) (c_isAt (lo := 97) (hi := 122) (by omega) h (by omega) (by omega))).mpr ?_
    refine icb (fun g => ?_) (fun g => ?_)
    · exact hQ S hf h
    have := (isA_lt g).2.1
    dsimp only at this
    omega
  | succ n ih =>
    intro d S S0 p x1 u2 u3 u4 u5 Q hd h hp hf hQ
    refine (B_239_5 (by omega) (c_isAt (lo := 97) (hi := 122) (by omega) h (by omega) (by omega))).mpr ?_
    unfold leN at hQ
    refine icb (fun g => ?_) (fun g => ?_)
    · rw [if_neg (by rw [g]; decide)] at hQ
      exact hQ S hf h
    rw [if_pos g] at hQ
    refine (B_239_16).mpr ?_
    rw [h.2.2.2.2.2.1, qI_succ]
    exact ih (S0 := S0) hd (mT_at h (by omega)) (by omega) (fP_up hf rfl) hQ
/-- one word is held against the text -/
theorem c_one (hW : mW S) {p q b l w : Nat} (hm : mT tx e (q, false) S) (hp : p ≤ q) (hb : b + l < 34) (hl : ∀ i, i < l → wch (b + i) ≠ 32) (hl2 : wch (b + l) = 32) {u4 u5 : Option bV} {Q : Option bV → bSt → Prop} (hy : isW tx p q b l = true → Q (some (vI (nI w))) S) (hno : isW tx p q b l = false → ∀ u4 u5, Wp d 239 33 [some (vR 40 0 0), some (vI (nI p)), some (vI (nI (b + l + 1))), some (vI (nI (w + 1))), u4, u5] [] S Q) : Wp d 239 39 [some (vR 40 0 0), some (vI (nI p)), some (vI (nI b)), some (vI (nI w)), u4, u5] [] S Q := by
  have hwb : ∀ i, i < 34 → wch i < 200 := by decide
  obtain ⟨h1, h2, h3, h4, h5, h6, h7⟩ := hm
  dsimp only at h1 h6
  refine (B_239_39).mpr ?_
  refine wloopI l (fun i ls T => T = S ∧ ls = [some (vR 40 0 0), some (vI (nI p)), some (vI (nI b)), some (vI (nI w)), some (vI (nI (b + i))), some (vI (tf (mtB tx p q b i)))]) ?_ ?_ ⟨rfl, rfl⟩
  · rintro ls T ⟨rfl, rfl⟩
    refine (B_239_45 (n1_ := b + l) rfl hb).mpr ?_
    rw [if_pos (by rw [hW _ hb, hl2]; rfl)]
    refine (B_239_109).mpr ?_
    have no : isW tx p q b l = false → ∀ u5, Wp d 239 129 [some (vR 40 0 0), some (vI (nI p)), some (vI (nI b)), some (vI (nI w)), some (vI (nI (b + l))), some (vI u5)] [] T Q := by
      intro hf u5
      refine (B_239_129).mpr ?_
      rw [qI_succ, qI_succ]
      exact hno hf _ _
    refine icb (fun g => ?_) (fun g => ?_)
    · exact no (by unfold isW; rw [g]; rfl) _
    refine (B_239_114).mpr ?_
    rw [h6, qI_sub (by omega), qI_sub hp]
    refine icT (qI_eq (by omega) (by omega)) (fun g2 => ?_) (fun g2 => ?_)
    · refine (B_239_127).mpr ?_
      exact hy (by unfold isW; rw [g]; simp; omega)
    exact no (by unfold isW; rw [g]; simp; omega) _
  · rintro i hi ls T ⟨rfl, rfl⟩ hn
    have hwi := hwb (b + i) (by omega)
    refine (B_239_45 (n1_ := b + i) rfl (by omega)).mpr ?_
    rw [if_neg (by rw [hW _ (by omega), show (32 : Int32) = nI 32 from rfl, qI_eq (by omega) (by omega)]; exact hl i hi)]
    have no : mtB tx p q b (i + 1) = false → Wp d 239 100 [some (vR 40 0 0), some (vI (nI p)), some (vI (nI b)), some (vI (nI w)), some (vI (nI (b + i))), some (vI (tf (mtB tx p q b i)))] [] T Q := by
      intro hf
      refine (B_239_100).mpr ?_
      refine (B_239_101).mpr ?_
      rw [qI_succ]
      refine hn _ _ ⟨rfl, ?_⟩
      rw [hf]
      rfl
    refine (B_239_57).mpr ?_
    refine icb (fun g => ?_) (fun g => ?_)
    · exact no (by rw [mtB, g]; rfl)
    refine (B_239_62).mpr ?_
    have hpi : nI p + nI (b + i) - nI b = nI (p + i) := by
      rw [← qI_add, qI_sub (by omega)]
      congr 1
      omega
    rw [h6, hpi]
    refine icT (qI_le (by omega) (by omega)) (fun g1 => ?_) (fun g1 => ?_)
    · exact no (by rw [mtB]; simp [show ¬ p + i < q by omega])
    refine (B_239_75 (n1_ := p + i) (n2_ := b + i) hpi (by omega) rfl (by omega)).mpr ?_
    have htx := h3 (p + i) (by omega)
    rw [h4 _ (by omega), hW _ (by omega)]
    refine icT (qI_eq (by omega) (by omega)) (fun g2 => ?_) (fun g2 => ?_)
    · refine (B_239_96).mpr ?_
      refine (B_239_101).mpr ?_
      rw [qI_succ]
      refine hn _ _ ⟨rfl, ?_⟩
      rw [mtB, g, g2]
      simp [show p + i < q by omega]
      exact ⟨rfl, rfl⟩
    exact no (by rw [mtB]; simp [g2])
theorem c_word (hd : 2 ≤ d) {p : Nat} (h : mT tx e (p, false) S) (hW : mW S) : Wm d 239 [vR 40 0 0] S (fun r S' => r = some (vI (if wrd tx p (leE tx e p) = 6 then -1 else nI (wrd tx p (leE tx e p)))) ∧ fP S S' ∧ mT tx e (if wrd tx p (leE tx e p) = 6 then p else leE tx e p, false) S') := by
  refine EW_239 ?_
  have hp : p ≤ e := h.1
  have he := h.2.1
  refine (B_239_0).mpr ?_
  rw [h.2.2.2.2.2.1]
  refine c_le_go (e - p) (S0 := S) hd h (by omega) (fP_refl S) (fun S1 hf hm => ?_)
  have hW1 : mW S1 := fun i hi => by rw [hf _ _ _ _ rfl]; exact hW i hi
  have hle := leE_le (tx := tx) hp
  have hm' : mT tx e (leE tx e p, false) S1 := hm
  show Wp d 239 29 [some (vR 40 0 0), some (vI (nI p)), none, none, none, none] [] S1 _
  generalize leE tx e p = q at *
  refine (B_239_29).mpr ?_
  show Wp d 239 33 [some (vR 40 0 0), some (vI (nI p)), some (vI (nI 0)), some (vI (nI 0)), none, none] [] S1 _
  refine (B_239_33).mpr ?_
  rw [if_neg (by decide)]
  refine c_one (b := 0) (l := 5) (w := 0) hW1 hm' hle.1 (by omega) (by decide) (by decide) (fun g0 => ?_) (fun g0 u4 u5 => ?_)
  · have ew : wrd tx p q = 0 := by simp [wrd, g0]
    rw [ew]
    exact ⟨rfl, hf, hm'⟩
  refine (B_239_33).mpr ?_
  rw [if_neg (by decide)]
  refine c_one (b := 6) (l := 4) (w := 1) hW1 hm' hle.1 (by omega) (by decide) (by decide) (fun g1 => ?_) (fun g1 u4 u5 => ?_)
  · have ew : wrd tx p q = 1 := by simp [wrd, g0, g1]
    rw [ew]
    exact ⟨rfl, hf, hm'⟩
  refine (B_239_33).mpr ?_
  rw [if_neg (by decide)]
  refine c_one (b := 11) (l := 3) (w := 2) hW1 hm' hle.1 (by omega) (by decide) (by decide) (fun g2 => ?_) (fun g2 u4 u5 => ?_)
  · have ew : wrd tx p q = 2 := by simp [wrd, g0, g1, g2]
    rw [ew]
    exact ⟨rfl, hf, hm'⟩
  refine (B_239_33).mpr ?_
  rw [if_neg (by decide)]
  refine c_one (b := 15) (l := 3) (w := 3) hW1 hm' hle.1 (by omega) (by decide) (by decide) (fun g3 => ?_) (fun g3 u4 u5 => ?_)
  · have ew : wrd tx p q = 3 := by simp [wrd, g0, g1, g2, g3]
    rw [ew]
    exact ⟨rfl, hf, hm'⟩
  refine (B_239_33).mpr ?_
  rw [if_neg (by decide)]
  refine c_one (b := 19) (l := 7) (w := 4) hW1 hm' hle.1 (by omega) (by decide) (by decide) (fun g4 => ?_) (fun g4 u4 u5 => ?_)
  · have ew : wrd tx p q = 4 := by simp [wrd, g0, g1, g2, g3, g4]
    rw [ew]
    exact ⟨rfl, hf, hm'⟩
  refine (B_239_33).mpr ?_
  rw [if_neg (by decide)]
  refine c_one (b := 27) (l := 6) (w := 5) hW1 hm' hle.1 (by omega) (by decide) (by decide) (fun g5 => ?_) (fun g5 u4 u5 => ?_)
  · have ew : wrd tx p q = 5 := by simp [wrd, g0, g1, g2, g3, g4, g5]
    rw [ew]
    exact ⟨rfl, hf, hm'⟩
  have ew : wrd tx p q = 6 := by simp [wrd, g0, g1, g2, g3, g4, g5]
  rw [ew]
  refine (B_239_33).mpr ?_
  rw [if_pos (by decide)]
  refine (B_239_140).mpr ?_
  exact ⟨rfl, fP_up hf rfl, mT_at hm' hp⟩
/-- digits from a place on: n more at most -/
def nUl (tx : Nat → Nat) (e : Nat) : Nat → (Nat × Bool) → Nat → (Nat × Bool) × Nat
  | 0, q, v => (q, v)
  | n + 1, q, v => if isA tx e q 48 57 = true then nUl tx e n (dG tx e 48 q).1 (10 * v + (dG tx e 48 q).2) else (q, v)
def nU (tx : Nat → Nat) (e : Nat) (q : Nat × Bool) : (Nat × Bool) × Nat := nUl tx e 2 (dG tx e 48 q).1 (dG tx e 48 q).2
theorem nUl_le {b : Nat} : ∀ n q v, v ≤ b → (nUl tx e n q v).2 ≤ 10 ^ n * b + (10 ^ n - 1) := by
  intro n
  induction n with
  | zero => intro q v hv; simp only [nUl]; omega
  | succ n ih =>
    intro q v hv
    unfold nUl
    have hpos : 1 ≤ 10 ^ n := Nat.one_le_pow _ _ (by omega)
    have e10 : 10 ^ (n + 1) = 10 ^ n * 10 := Nat.pow_succ ..
    have hm : 10 ^ n * b ≤ 10 ^ n * 10 * b := by
      rw [Nat.mul_assoc]
      exact Nat.mul_le_mul_left _ (by omega)
    split
    · have h9 := dG_le (tx := tx) (e := e) (q := q) (l := 48) (by omega)
      -- the bound grows by a digit
      have h2 : ∀ m q v c, v ≤ c → (nUl tx e m q v).2 ≤ 10 ^ m * c + (10 ^ m - 1) := by
        intro m
        induction m with
        | zero => intro q v c hv; simp only [nUl]; omega
        | succ m ihm =>
          intro q v c hv
          unfold nUl
          have hpos : 1 ≤ 10 ^ m := Nat.one_le_pow _ _ (by omega)
          have e10 : 10 ^ (m + 1) = 10 ^ m * 10 := Nat.pow_succ ..
          split
          · have h9 := dG_le (tx := tx) (e := e) (q := q) (l := 48) (by omega)
            have := ihm (dG tx e 48 q).1 (10 * v + (dG tx e 48 q).2) (10 * c + 9) (by omega)
            have e1 : 10 ^ m * (10 * c + 9) = 10 ^ m * 10 * c + 10 ^ m * 9 := by rw [Nat.mul_add, Nat.mul_assoc]
            rw [e10]
            omega
          · have hm : c ≤ 10 ^ (m + 1) * c := Nat.le_mul_of_pos_left _ (by omega)
            dsimp only
            omega
      have := h2 n (dG tx e 48 q).1 (10 * v + (dG tx e 48 q).2) (10 * b + 9) (by omega)
      have e1 : 10 ^ n * (10 * b + 9) = 10 ^ n * 10 * b + 10 ^ n * 9 := by rw [Nat.mul_add, Nat.mul_assoc]
      rw [e10]
      omega
    · have hm : b ≤ 10 ^ (n + 1) * b := Nat.le_mul_of_pos_left _ (by omega)
      dsimp only
      omega
theorem nU_le (q : Nat × Bool) : (nU tx e q).2 ≤ 999 := by
  have h9 := dG_le (tx := tx) (e := e) (q := q) (l := 48) (by omega)
  have := nUl_le (tx := tx) (e := e) (b := 9) 2 (dG tx e 48 q).1 (dG tx e 48 q).2 h9
  unfold nU
  omega
theorem c_number (hd : 3 ≤ d) {q : Nat × Bool} (h : mT tx e q S) : Wm d 240 [vR 40 0 0] S (fun r S' => r = some (vI (nI (nU tx e q).2)) ∧ fP S S' ∧ mT tx e (nU tx e q).1 S') := by
  refine EW_240 ?_
  obtain ⟨r, S1, e1, rfl, f1, m1⟩ := Wm_ex (c_digit (d := d - 1) (by omega) h (l := 48) (by omega) (by omega))
  refine (B_240_0 (by omega) e1).mpr ?_
  have go : ∀ (n : Nat) (T : bSt) (q' : Nat × Bool) (v : Nat), n ≤ 2 → fP S T → mT tx e q' T → (nUl tx e n q' v) = nU tx e q → Wp d 240 9 [some (vR 40 0 0), some (vI (nI v)), some (vI (nI (3 - n)))] [] T (fun r S' => r = some (vI (nI (nU tx e q).2)) ∧ fP S S' ∧ mT tx e (nU tx e q).1 S') := by
    intro n
    induction n with
    | zero =>
      intro T q' v hn hf hm he
      refine (B_240_9).mpr ?_
      rw [if_pos (by decide)]
      refine (B_240_43).mpr ?_
      rw [← he]
      exact ⟨rfl, hf, hm⟩
    | succ n ih =>
      intro T q' v hn hf hm he
      refine (B_240_9).mpr ?_
      rw [if_neg (by rw [show (3 : Int32) = nI 3 from rfl, qI_le (by omega) (by omega)]; omega)]
      refine (B_240_14 (by omega) (c_isAt (lo := 48) (hi := 57) (by omega) hm (by omega) (by omega))).mpr ?_
      unfold nUl at he
      refine icb (fun g => ?_) (fun g => ?_)
      · rw [if_neg (by rw [g]; decide)] at he
        refine (B_240_43).mpr ?_
        rw [← he]
        exact ⟨rfl, hf, hm⟩
      rw [if_pos g] at he
      obtain ⟨r, T2, e2, rfl, f2, m2⟩ := Wm_ex (c_digit (d := d - 1) (by omega) hm (l := 48) (by omega) (by omega))
      refine (B_240_25 (by omega) e2).mpr ?_
      rw [show (10 : Int32) = nI 10 from rfl, ← qI_mul, ← qI_add, qI_succ, show 3 - (n + 1) + 1 = 3 - n by omega]
      exact ih T2 _ _ (by omega) (fP_trans hf f2) m2 he
  exact go 2 S1 _ _ (Nat.le_refl _) f1 m1 rfl
def nbO (w : Nat) : Nat := [5, 3, 1, 0, 1].getD w 1
theorem c_numbersOf {w : Nat} (hw : w ≤ 4) : Ret d 241 [vI (nI w)] S (some (vI (nI (nbO w)))) S := by
  refine E_241 ?_
  refine (B_241_0).mpr ?_
  have : w = 0 ∨ w = 1 ∨ w = 2 ∨ w = 3 ∨ w = 4 := by omega
  rcases this with rfl | rfl | rfl | rfl | rfl
  · rw [if_pos (by decide)]
    refine (B_241_4).mpr ?_
    refine (B_241_27).mpr ?_
    exact ⟨rfl, rfl⟩
  · rw [if_neg (by decide)]
    refine (B_241_8).mpr ?_
    rw [if_pos (by decide)]
    refine (B_241_13).mpr ?_
    refine (B_241_27).mpr ?_
    exact ⟨rfl, rfl⟩
  · rw [if_neg (by decide)]
    refine (B_241_8).mpr ?_
    rw [if_neg (by decide)]
    refine (B_241_17).mpr ?_
    rw [if_neg (by decide)]
    refine (B_241_26).mpr ?_
    refine (B_241_27).mpr ?_
    exact ⟨rfl, rfl⟩
  · rw [if_neg (by decide)]
    refine (B_241_8).mpr ?_
    rw [if_neg (by decide)]
    refine (B_241_17).mpr ?_
    rw [if_pos (by decide)]
    refine (B_241_22).mpr ?_
    refine (B_241_27).mpr ?_
    exact ⟨rfl, rfl⟩
  · rw [if_neg (by decide)]
    refine (B_241_8).mpr ?_
    rw [if_neg (by decide)]
    refine (B_241_17).mpr ?_
    rw [if_neg (by decide)]
    refine (B_241_26).mpr ?_
    refine (B_241_27).mpr ?_
    exact ⟨rfl, rfl⟩
theorem c_lengthOf {w : Nat} (hw : w ≤ 4) : Ret d 243 [vI (nI w)] S (some (vI (nI (wlen w)))) S := by
  refine E_243 ?_
  refine (B_243_0).mpr ?_
  have : w = 0 ∨ w = 1 ∨ w = 2 ∨ w = 3 ∨ w = 4 := by omega
  rcases this with rfl | rfl | rfl | rfl | rfl
  · rw [if_pos (by decide)]
    refine (B_243_4).mpr ?_
    refine (B_243_28).mpr ?_
    exact ⟨rfl, rfl⟩
  · rw [if_neg (by decide)]
    refine (B_243_8).mpr ?_
    rw [if_pos (by decide)]
    refine (B_243_13).mpr ?_
    refine (B_243_28).mpr ?_
    exact ⟨rfl, rfl⟩
  · rw [if_neg (by decide)]
    refine (B_243_8).mpr ?_
    rw [if_neg (by decide)]
    refine (B_243_17).mpr ?_
    rw [if_neg (by decide)]
    refine (B_243_27).mpr ?_
    refine (B_243_28).mpr ?_
    exact ⟨rfl, rfl⟩
  · rw [if_neg (by decide)]
    refine (B_243_8).mpr ?_
    rw [if_neg (by decide)]
    refine (B_243_17).mpr ?_
    rw [if_neg (by decide)]
    refine (B_243_27).mpr ?_
    refine (B_243_28).mpr ?_
    exact ⟨rfl, rfl⟩
  · rw [if_neg (by decide)]
    refine (B_243_8).mpr ?_
    rw [if_neg (by decide)]
    refine (B_243_17).mpr ?_
    rw [if_pos (by decide)]
    refine (B_243_22).mpr ?_
    refine (B_243_28).mpr ?_
    exact ⟨rfl, rfl⟩
end M15j
