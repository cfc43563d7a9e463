/-! THE MODEL's search: what it finds -/
section M7
/-- the same answer of a search: the row counts only where a pattern was found -/
def Rl (a b : Acc) : Prop := a.1 = b.1 ∧ a.2.1 = b.2.1 ∧ a.2.2.1 = b.2.2.1 ∧ (a.2.1 = 0 ∨ ∀ m, m < 8 → a.2.2.2 m = b.2.2.2 m)
theorem foldl_rel {α β γ : Type} {R : α → β → Prop} {F : α → γ → α} {G : β → γ → β} : ∀ (l : List γ) (a : α) (b : β), R a b → (∀ n, n ∈ l → ∀ a b, R a b → R (F a n) (G b n)) → R (l.foldl F a) (l.foldl G b) := by
  intro l
  induction l with
  | nil => intro a b h _; exact h
  | cons x l ih =>
    intro a b h hs
    exact ih _ _ (hs x (List.mem_cons_self) a b h) (fun n hn => hs n (List.mem_cons_of_mem _ hn))
theorem foldl_inv {α γ : Type} {R : α → Prop} {F : α → γ → α} : ∀ (l : List γ) (a : α), R a → (∀ n, n ∈ l → ∀ a, R a → R (F a n)) → R (l.foldl F a) := by
  intro l
  induction l with
  | nil => intro a h _; exact h
  | cons x l ih =>
    intro a h hs
    exact ih _ (hs x (List.mem_cons_self) a h) (fun n hn => hs n (List.mem_cons_of_mem _ hn))
theorem mem_dn {m n : Nat} : m ∈ dn n ↔ m ≤ n := by
  unfold dn
  rw [List.mem_reverse, List.mem_range]
  omega
theorem offA_rel {N : NV} {f g : NV} {s rest : Nat} {a b : Acc} (hf : ∀ m, m < 8 → f m = g m) (h : Rl a b) : Rl (offA N f s rest a) (offA N g s rest b) := by
  obtain ⟨h1, h2, h3, h4⟩ := h
  unfold offA
  by_cases hp : aPoss N (nI s) (nI rest) = true
  · rw [if_pos hp, if_pos hp, ← h2, ← h3]
    by_cases ht : a.2.1 = 0 ∨ nI rest < a.2.2.1 ∨ (nI rest = a.2.2.1 ∧ nI s < a.2.1)
    · rw [if_pos ht, if_pos ht]
      exact ⟨by rw [h1], rfl, rfl, Or.inr (fun m hm => by simp [hm, hf m hm])⟩
    · rw [if_neg ht, if_neg ht]
      exact ⟨by rw [h1], h2, h3, h4⟩
  · rw [if_neg hp, if_neg hp]
    exact ⟨h1, h2, h3, h4⟩
theorem trA_rel {N : NV} {w L : Nat → Nat} : ∀ (k o s rest : Nat) (f g : NV) (a b : Acc), (∀ m, m < 8 → f m = g m) → Rl a b → Rl (trA N w L k o s rest f a) (trA N w L k o s rest g b) := by
  intro k
  induction k with
  | zero => intro o s rest f g a b hf h; exact offA_rel hf h
  | succ k ih =>
    intro o s rest f g a b hf h
    unfold trA
    refine foldl_rel _ _ _ h (fun n _ a b hab => ih _ _ _ _ _ _ _ (fun m hm => ?_) hab)
    unfold upd
    split
    · rfl
    · exact hf m hm
theorem sumN_upd {g : Nat → Nat} {o v : Nat} : ∀ n, g o = 0 → sumN (fun m => if m = o then v else g m) n = sumN g n + (if o < n then v else 0) := by
  intro n
  induction n with
  | zero => intro _; simp [sumN]
  | succ n ih =>
    intro h
    rw [sumN, sumN, ih h]
    by_cases h1 : n = o
    · subst h1
      simp [h]
    · by_cases h2 : o < n
      · simp only [h1, if_false, h2, if_true, show o < n + 1 by omega]
        omega
      · simp only [h1, if_false, h2, show ¬ o < n + 1 by omega]
        omega
/-- a pattern that may be cut: its strips, its rest, its row -/
def gPat (N : NV) (w L : Nat → Nat) (W c : Nat) (s rest : Nat) (g : Nat → Nat) : Prop := 1 ≤ s ∧ s ≤ 8 ∧ aPoss N (nI s) (nI rest) = true ∧ sumN g 8 = s ∧ sumN (fun m => g m * w m) 8 + rest = W ∧ (∀ m, m < c → g m ≤ L m) ∧ (∀ m, c ≤ m → g m = 0)
def gAcc (N : NV) (w L : Nat → Nat) (W c : Nat) (a : Acc) : Prop := a.2.1 = 0 ∨ ∃ s rest g, a.2.1 = nI s ∧ a.2.2.1 = nI rest ∧ (∀ m, m < 8 → a.2.2.2 m = nI (g m)) ∧ gPat N w L W c s rest g
theorem poss_s {N : NV} {s : Nat} {rest : Int32} (h : aPoss N (nI s) rest = true) : s ≠ 0 := by
  intro h0
  subst h0
  unfold aPoss at h
  simp at h
  exact absurd h.1 (by decide)
theorem trA_good {N : NV} {w L : Nat → Nat} {W c : Nat} (hc : c ≤ 8) (hw : ∀ o, o < c → 0 < w o) : ∀ (k o s rest : Nat) (f : NV) (g : Nat → Nat) (a : Acc), o + k = c → s ≤ 8 → (∀ m, m < 8 → f m = nI (g m)) → sumN g 8 = s → sumN (fun m => g m * w m) 8 + rest = W → (∀ m, m < c → g m ≤ L m) → (∀ m, o ≤ m → g m = 0) → gAcc N w L W c a → gAcc N w L W c (trA N w L k o s rest f a) := by
  intro k
  induction k with
  | zero =>
    intro o s rest f g a hk hs hf h1 h2 h3 h4 ha
    show gAcc N w L W c (offA N f s rest a)
    unfold offA
    by_cases hp : aPoss N (nI s) (nI rest) = true
    · rw [if_pos hp]
      by_cases ht : a.2.1 = 0 ∨ nI rest < a.2.2.1 ∨ (nI rest = a.2.2.1 ∧ nI s < a.2.1)
      · rw [if_pos ht]
        have := poss_s hp
        exact Or.inr ⟨s, rest, g, rfl, rfl, fun m hm => by simp [hm, hf m hm], by omega, hs, hp, h1, h2, h3, fun m hm => h4 m (by omega)⟩
      · rw [if_neg ht]; exact ha
    · rw [if_neg hp]; exact ha
  | succ k ih =>
    intro o s rest f g a hk hs hf h1 h2 h3 h4 ha
    unfold trA
    refine foldl_inv _ _ ha (fun n hn b hb => ?_)
    rw [mem_dn] at hn
    have ho := hw o (by omega)
    have hnr : n * w o ≤ rest := by
      have : n * w o ≤ rest / w o * w o := Nat.mul_le_mul_right _ (by omega)
      exact Nat.le_trans this (Nat.div_mul_le_self _ _)
    refine ih (o + 1) (s + n) (rest - n * w o) _ (fun m => if m = o then n else g m) b (by omega) (by omega) ?_ ?_ ?_ ?_ ?_ hb
    · intro m hm
      unfold upd
      split
      · rfl
      · exact hf m hm
    · rw [sumN_upd 8 (h4 o (Nat.le_refl _)), h1, if_pos (by omega)]
    · have e : (fun m => (if m = o then n else g m) * w m) = (fun m => if m = o then n * w o else g m * w m) := by
        funext m
        by_cases hm : m = o
        · subst hm; simp
        · simp [hm]
      rw [e, sumN_upd 8 (by rw [h4 o (Nat.le_refl _), Nat.zero_mul]), if_pos (by omega)]
      omega
    · intro m hm
      split
      · subst m; omega
      · exact h3 m hm
    · intro m hm
      rw [if_neg (by omega)]
      exact h4 m (by omega)
/-- what is left of a room for an order on a roll -/
def rmI (N : NV) (r o : Nat) : Int32 := if o < cO N ∧ aWant N o = true ∧ aCan N r o = true then aRoom N o else 0
def lO (N : NV) (r o : Nat) : Nat := (rmI N r o).toNatClampNeg
def wN (N : NV) (o : Nat) : Nat := nv N (7 + 6 * o)
def acc0 : Acc := (0, 0, 0, fun _ => 0)
def aLook (N : NV) (r : Nat) : Acc := trA N (wN N) (lO N r) (cO N) 0 0 (nv N (55 + 3 * r)) (fun _ => 0) acc0
theorem rmI_n {N : NV} (h : WF N) (r o : Nat) : rmI N r o = nI (lO N r o) ∧ lO N r o < 10000 := by
  unfold lO
  by_cases hg : o < cO N ∧ aWant N o = true ∧ aCan N r o = true
  · have e : rmI N r o = aRoom N o := if_pos hg
    rw [e, aRoom_n h hg.1 hg.2.1]
    obtain ⟨-, -, h2⟩ := (h.2.2.1 o hg.1).2.2.1
    have := alN_le (h.2.2.1 o hg.1)
    rw [nI_clamp (by omega)]
    exact ⟨rfl, by omega⟩
  · have e : rmI N r o = 0 := if_neg hg
    rw [e]
    exact ⟨rfl, by decide⟩
theorem aLook_good {N : NV} (h : WF N) (r : Nat) : gAcc N (wN N) (lO N r) (nv N (55 + 3 * r)) (cO N) (aLook N r) := by
  have hz : ∀ (v : Nat → Nat) n, sumN (fun m => 0 * v m) n = 0 := by
    intro v n
    induction n with
    | zero => rfl
    | succ n ih => rw [sumN, ih]; simp
  refine trA_good h.1.2.1 (fun o ho => ?_) (cO N) 0 0 _ (fun _ => 0) (fun _ => 0) acc0 (by omega) (by omega) (fun m _ => rfl) (by rfl) ?_ (fun m _ => Nat.zero_le _) (fun m _ => rfl) (Or.inl rfl)
  · have := (h.2.2.1 o ho).2.1
    unfold wN
    have := this.2.1
    omega
  · rw [hz]; omega
/-- the slots that a search, a run or an arrangement may change -/
def sc (k m : Nat) : Bool := k == 41 || k == 46 || k == 47 || k == 48 || k == 49 || k == 51 || k == 52 || k == 53 || k == 54 || k == 55 || (k == 40 && (m == 12 || m == 13 || m == 14 || m == 25))
def fM (S S' : bSt) : Prop := ∀ k i j m, sc k m = false → S' k i j m = S k i j m
theorem fM_refl (S : bSt) : fM S S := fun _ _ _ _ _ => rfl
theorem fM_trans {S T U : bSt} (h : fM S T) (g : fM T U) : fM S U := fun k i j m hm => (g k i j m hm).trans (h k i j m hm)
theorem fM_up {S T : bSt} {k i j m : Nat} {x : Int32} (h : fM S T) (hk : sc k m = true) : fM S (sUp T k i j m x) := by
  intro k' i' j' m' hs
  rw [← h k' i' j' m' hs]
  unfold sUp
  rw [if_neg]
  rintro ⟨rfl, -, -, rfl⟩
  rw [hk] at hs
  exact absurd hs (by decide)
theorem fM_mP {S T : bSt} {a : Acc} {f : NV} (h : fM S T) : fM S (mP T a f) := by
  intro k i j m hs
  rw [← h k i j m hs]
  unfold mP
  rw [if_neg, if_neg, if_neg, if_neg, if_neg]
  all_goals
    intro q
    obtain ⟨rfl, -, -, q⟩ := q <;> simp_all [sc]
theorem mP_id {S : bSt} {a : Acc} {f : NV} (h1 : S 40 0 0 14 = a.1) (h2 : S 40 0 0 13 = a.2.1) (h3 : S 40 0 0 12 = a.2.2.1) (h4 : S 47 0 0 = a.2.2.2) (h5 : S 46 0 0 = f) : mP S a f = S := by
  funext k i j m
  unfold mP
  by_cases g1 : k = 40 ∧ i = 0 ∧ j = 0 ∧ m = 12
  · rw [if_pos g1]; obtain ⟨rfl, rfl, rfl, rfl⟩ := g1; exact h3.symm
  rw [if_neg g1]
  by_cases g2 : k = 40 ∧ i = 0 ∧ j = 0 ∧ m = 13
  · rw [if_pos g2]; obtain ⟨rfl, rfl, rfl, rfl⟩ := g2; exact h2.symm
  rw [if_neg g2]
  by_cases g3 : k = 40 ∧ i = 0 ∧ j = 0 ∧ m = 14
  · rw [if_pos g3]; obtain ⟨rfl, rfl, rfl, rfl⟩ := g3; exact h1.symm
  rw [if_neg g3]
  by_cases g4 : k = 47 ∧ i = 0 ∧ j = 0
  · rw [if_pos g4]; obtain ⟨rfl, rfl, rfl⟩ := g4; rw [h4]
  rw [if_neg g4]
  by_cases g5 : k = 46 ∧ i = 0 ∧ j = 0
  · rw [if_pos g5]; obtain ⟨rfl, rfl, rfl⟩ := g5; rw [h5]
  rw [if_neg g5]
/-- the memory behind a search on the roll r -/
def Lk (r : Nat) (S S' : bSt) : Prop := fM S S' ∧ S' 41 0 0 = S 41 0 0 ∧ S' 40 0 0 14 = (aLook (S 41 0 0) r).1 ∧ S' 40 0 0 13 = (aLook (S 41 0 0) r).2.1 ∧ S' 40 0 0 12 = (aLook (S 41 0 0) r).2.2.1 ∧ ((aLook (S 41 0 0) r).2.1 ≠ 0 → ∀ m, m < 8 → S' 47 0 0 m = (aLook (S 41 0 0) r).2.2.2 m) ∧ (∀ o, o < 8 → S' 48 0 0 o = rmI (S 41 0 0) r o)
variable {d : Nat} {S : bSt}
theorem c_looks (hd : 12 ≤ d) (hw : WF (S 41 0 0)) {r : Nat} (hr : r < 12) (hrW : nv (S 41 0 0) (55 + 3 * r) ≤ 300 ∧ S 41 0 0 (55 + 3 * r) = nI (nv (S 41 0 0) (55 + 3 * r))) : Wm d 177 [vR 40 0 0, vI (nI r)] S (fun q S' => q = none ∧ Lk r S S') := by
  refine EW_177 ?_
  have h3 := hw.1.1
  have hc := hw.1.2.1
  refine (B_177_0).mpr ?_
  refine wloopI 8 (fun m ls S' => ls = [some (vR 40 0 0), some (vI (nI r)), some (vI (nI m))] ∧ fM S S' ∧ S' 41 0 0 = S 41 0 0 ∧ S' 40 0 0 14 = 0 ∧ S' 40 0 0 13 = 0 ∧ S' 40 0 0 12 = 0 ∧ (∀ q, q < m → S' 46 0 0 q = 0 ∧ S' 48 0 0 q = rmI (S 41 0 0) r q)) ?_ ?_ ⟨rfl, fM_up (fM_up (fM_up (fM_refl S) rfl) rfl) rfl, ?_, ?_, ?_, ?_, ?_⟩
  · rintro ls S' ⟨rfl, hf, hN, h14, h13, h12, hz⟩
    refine (B_177_17).mpr ?_
    rw [if_pos (by decide)]
    have hm : S' = mP S' (0, 0, 0, S' 47 0 0) (S' 46 0 0) := (mP_id h14 h13 h12 rfl rfl).symm
    have ht := c_tries (cO (S 41 0 0)) (d := d - 1) (o := 0) (s := 0) (rest := nv (S 41 0 0) (55 + 3 * r)) (a := (0, 0, 0, S' 47 0 0)) (f := S' 46 0 0) (w := wN (S 41 0 0)) (L := lO (S 41 0 0) r) (S := S') (by omega) (by rw [hN]; omega) (by rw [hN]; omega) (by rw [hN]; exact h3) (by rw [hN]; exact fun o ho => (hw.2.2.1 o ho).2.1) (by rw [hN]; exact fun o ho => ⟨by rw [(hz o (by omega)).2]; exact (rmI_n hw r o).1, (rmI_n hw r o).2⟩) (by omega) hrW.1 (fun m _ hm => (hz m hm).1)
    rw [← hm] at ht
    refine (B_177_76 (by omega) (c_r (n := 55 + 3 * r) (by first | rfl | (simp only [qI_add, qI_mul, qI_lits]; done) | (simp only [qI_add, qI_mul, qI_lits]; grind)) (by omega)) (by rw [hN, hrW.2]; exact ht)).mpr ?_
    have hrel : Rl (trA (S 41 0 0) (wN (S 41 0 0)) (lO (S 41 0 0) r) (cO (S 41 0 0)) 0 0 (nv (S 41 0 0) (55 + 3 * r)) (S' 46 0 0) (0, 0, 0, S' 47 0 0)) (aLook (S 41 0 0) r) := trA_rel _ _ _ _ _ _ _ _ (fun m hm => (hz m hm).1) ⟨rfl, rfl, rfl, Or.inl rfl⟩
    rw [hN]
    obtain ⟨r1, r2, r3, r4⟩ := hrel
    refine ⟨rfl, fM_mP hf, by rw [mP_41, hN], by rw [mP_14, r1], by rw [mP_13, r2], by rw [mP_12, r3], fun hne m hm => ?_, fun o ho => by rw [mP_48]; exact (hz o ho).2⟩
    rw [mP_47]
    rcases r4 with r4 | r4
    · exact absurd (r2.symm.trans r4) hne
    · exact r4 m hm
  · rintro m hm ls S' ⟨rfl, hf, hN, h14, h13, h12, hz⟩ hn
    refine (B_177_17).mpr ?_
    rw [if_neg (by rw [show (8 : Int32) = nI 8 from rfl, qI_le (by omega) (by omega)]; omega)]
    have next : ∀ (x : Int32), x = rmI (S 41 0 0) r m → Wp d 177 69 [some (vR 40 0 0), some (vI (nI r)), some (vI (nI m))] [vI x, vI (nI m), vR 48 0 0] (sUp S' 46 0 0 m 0) (fun q S' => q = none ∧ Lk r S S') := by
      intro x hx
      refine (B_177_69 (n1_ := m) rfl hm).mpr ?_
      rw [qI_succ]
      refine hn _ _ ⟨rfl, fM_up (fM_up hf rfl) rfl, ?_, ?_, ?_, ?_, ?_⟩
      · funext q; rw [sUp_kind (by decide), sUp_kind (by decide), hN]
      · rw [sUp_kind (by decide), sUp_kind (by decide), h14]
      · rw [sUp_kind (by decide), sUp_kind (by decide), h13]
      · rw [sUp_kind (by decide), sUp_kind (by decide), h12]
      · intro q hq
        by_cases hqm : q = m
        · subst hqm
          exact ⟨by rw [sUp_kind (by decide), sUp_same], by rw [sUp_same, hx]⟩
        · rw [sUp_kind (by decide), sUp_slot hqm, sUp_slot hqm, sUp_kind (by decide)]
          exact hz q (by omega)
    have hN' : sUp S' 46 0 0 m 0 41 0 0 = S 41 0 0 := by funext q; rw [sUp_kind (by decide), hN]
    have co := c_isOrder (d := d - 1) (S := sUp S' 46 0 0 m 0) (x1 := nI m) (by omega)
    rw [hN'] at co
    refine (B_177_23 (n1_ := m) (by omega) rfl hm co).mpr ?_
    rw [inR_tf]
    refine icb (fun g1 => ?_) (fun g1 => ?_)
    · refine (B_177_68).mpr ?_
      refine next _ (if_neg ?_).symm
      rintro ⟨q, -⟩
      have : inR (nI m) 0 (S 41 0 0 3 - 1) = true := by
        unfold inR
        rw [Bool.and_eq_true, decide_eq_true_iff, decide_eq_true_iff, h3, show nI (cO (S 41 0 0)) - 1 = nI (cO (S 41 0 0) - 1) from qI_sub (b := 1) (by omega), qI_le (by omega) (by omega), show (0 : Int32) = nI 0 from rfl, qI_le (by omega) (by omega)]
        omega
      rw [this] at g1
      exact absurd g1 (by decide)
    have hmo : m < cO (S 41 0 0) := by
      rw [h3] at g1
      obtain ⟨n, hn1, hn2⟩ := ix_of (by omega) g1
      rw [qI_eq (by omega) (by omega)] at hn1
      omega
    have cw := c_isWanting (d := d - 1) (S := sUp S' 46 0 0 m 0) (by omega) hm (by rw [hN']; exact hw.1)
    rw [hN'] at cw
    refine (B_177_43 (by omega) cw).mpr ?_
    refine icb (fun g2 => ?_) (fun g2 => ?_)
    · refine (B_177_68).mpr ?_
      exact next _ (if_neg (by rw [g2]; simp)).symm
    have cc := c_canUse (d := d - 1) (S := sUp S' 46 0 0 m 0) (by omega) hr hm
    rw [hN'] at cc
    refine (B_177_51 (by omega) cc).mpr ?_
    refine icb (fun g3 => ?_) (fun g3 => ?_)
    · refine (B_177_68).mpr ?_
      exact next _ (if_neg (by rw [g3]; simp)).symm
    have cr := c_roomOf (d := d - 1) (S := sUp S' 46 0 0 m 0) (by omega) hm (by rw [hN']; exact hw.1)
    rw [hN'] at cr
    refine (B_177_60 (by omega) cr).mpr ?_
    exact next _ (if_pos ⟨hmo, g2, g3⟩).symm
  · funext q
    rw [sUp_kind (by decide), sUp_kind (by decide), sUp_kind (by decide)]
  · rw [sUp_slot (by decide), sUp_slot (by decide), sUp_same]
  · rw [sUp_slot (by decide), sUp_same]
  · rw [sUp_same]
  · intro q hq; omega
end M7
