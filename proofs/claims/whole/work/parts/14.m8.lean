/-! THE MODEL's methods, 8: best, cut -/
section M8
theorem vO_ix {N : NV} (h : cW N) {x : Int32} (g : inR x 0 (N 3 - 1) = true) : ∃ o, x = nI o ∧ o < cO N ∧ o < 8 := by
  obtain ⟨h3, h8, -⟩ := h
  rw [h3] at g
  obtain ⟨n, e, hn⟩ := ix_of (by omega) g
  exact ⟨n, e, hn, by omega⟩
theorem vR_ix {N : NV} (h : cW N) {x : Int32} (g : inR x 0 (N 4 - 1) = true) : ∃ r, x = nI r ∧ r < cR N ∧ r < 12 := by
  obtain ⟨-, -, h4, h12, -⟩ := h
  rw [h4] at g
  obtain ⟨n, e, hn⟩ := ix_of (by omega) g
  exact ⟨n, e, hn, by omega⟩
theorem vU_ix {N : NV} (h : cW N) {x : Int32} (g : inR x 0 (N 5 - 1) = true) : ∃ u, x = nI u ∧ u < cU N ∧ u < 16 := by
  obtain ⟨-, -, -, -, h5, h16⟩ := h
  rw [h5] at g
  obtain ⟨n, e, hn⟩ := ix_of (by omega) g
  exact ⟨n, e, hn, by omega⟩
theorem wf_roll {N : NV} (h : WF N) {r : Nat} (hr : r < cR N) : r < 12 ∧ nv N (55 + 3 * r) ≤ 300 ∧ N (55 + 3 * r) = nI (nv N (55 + 3 * r)) := by
  have := h.1.2.2.2.1
  obtain ⟨h1, -, h2⟩ := (h.2.2.2.1 r hr).2.1
  exact ⟨by omega, h2, h1⟩
def iMin (a b : Int32) : Int32 := if b < a then b else a
def mnTo (x : Int32) (row f : NV) : Nat → Int32
  | 0 => x
  | n + 1 => if 0 < row n then iMin (mnTo x row f n) (f n / row n) else mnTo x row f n
def aHas (N : NV) (r : Nat) : Bool := decide (0 < (aLook N r).2.1) && decide (0 < aLeft N r)
/-- the length of the best pattern -/
def aBLen (N : NV) (r : Nat) : Int32 := mnTo (aLeft N r) (aLook N r).2.2.2 (rmI N r) (cO N)
def aBestW (N : NV) (r : Nat) (x : Int32) : Int32 := if x = 0 then (aLook N r).2.2.1 else if x = 1 then (aLook N r).2.1 else if x = 2 then aKn (aLook N r).2.1 (aLook N r).2.2.1 else if x = 3 then aBLen N r else (aLook N r).2.2.2 (x - 10).toNatClampNeg
def aBst (N : NV) (x1 x2 : Int32) : Int32 := if vR_ N x1 = true then (if inR x2 0 3 = true ∨ vO N (x2 - 10) = true then (if aHas N x1.toNatClampNeg = true then aBestW N x1.toNatClampNeg x2 else -5) else -2) else -1
def aPatn (N : NV) (x1 : Int32) : Int32 := if vR_ N x1 = true then (aLook N x1.toNatClampNeg).1 else -1
theorem aHas_ne {N : NV} {r : Nat} (h : aHas N r = true) : (aLook N r).2.1 ≠ 0 := by
  unfold aHas at h
  rw [Bool.and_eq_true, decide_eq_true_iff] at h
  intro q
  rw [q] at h
  exact absurd h.1 (by decide)
theorem mnTo_congr {x : Int32} {row row' f f' : NV} : ∀ n, (∀ m, m < n → row m = row' m ∧ f m = f' m) → mnTo x row f n = mnTo x row' f' n := by
  intro n
  induction n with
  | zero => intro _; rfl
  | succ n ih =>
    intro h
    obtain ⟨h1, h2⟩ := h n (by omega)
    unfold mnTo
    rw [h1, h2, ih (fun m hm => h m (by omega))]
def nRun (N : NV) (x l : Int32) (P : NV) : NV := fun k => if k = 5 then N 5 + 1 else if 94 + 12 * cU N ≤ k ∧ k < 102 + 12 * cU N then P (k - (94 + 12 * cU N)) else if k = 90 + 12 * cU N then x else if k = 91 + 12 * cU N then l else if k = 92 + 12 * cU N then N 1 else if k = 93 + 12 * cU N then -5 else N k
theorem nRun_congr {N : NV} {x l : Int32} {P P' : NV} (h : ∀ m, m < 8 → P m = P' m) : nRun N x l P = nRun N x l P' := by
  funext k
  unfold nRun
  by_cases h1 : k = 5
  · rw [if_pos h1, if_pos h1]
  rw [if_neg h1, if_neg h1]
  by_cases h2 : 94 + 12 * cU N ≤ k ∧ k < 102 + 12 * cU N
  · rw [if_pos h2, if_pos h2, h _ (by omega)]
  rw [if_neg h2, if_neg h2]
def aCut (N : NV) (r : Nat) : NV := nRun N (nI r) (aBLen N r) (aLook N r).2.2.2
def aTry (N : NV) (x1 : Int32) : Int32 × NV := if vR_ N x1 = true then (if N 5 = 16 then (-3, N) else if aHas N x1.toNatClampNeg = true then (N 5, aCut N x1.toNatClampNeg) else (-5, N)) else (-1, N)
variable {d : Nat} {S : bSt}
theorem c_minI {a b : Int32} : Ret d 265 [vI a, vI b] S (some (vI (iMin a b))) S := by
  refine E_265 ?_
  refine (B_265_0).mpr ?_
  unfold iMin
  refine ic (fun h => ?_) (fun h => ?_)
  · refine (B_265_9).mpr ?_
    refine (B_265_10).mpr ?_
    exact ⟨by simp [h], rfl⟩
  refine (B_265_5).mpr ?_
  refine (B_265_10).mpr ?_
  exact ⟨by simp [h], rfl⟩
theorem c_hasBest (hd : 13 ≤ d) (hw : WF (S 41 0 0)) {r : Nat} (hr : r < cR (S 41 0 0)) : Wm d 178 [vR 40 0 0, vI (nI r)] S (fun q S' => q = some (vI (tf (aHas (S 41 0 0) r))) ∧ Lk r S S') := by
  obtain ⟨hr12, hrW⟩ := wf_roll hw hr
  refine EW_178 ?_
  obtain ⟨q, S1, h1, rfl, hL⟩ := Wm_ex (c_looks (d := d - 1) (by omega) hw hr12 hrW)
  have hL' := hL
  obtain ⟨-, hN, -, h13, -⟩ := hL'
  refine (B_178_0 (by omega) h1).mpr ?_
  rw [h13]
  unfold aHas
  refine ic (fun g1 => ?_) (fun g1 => ?_)
  · refine (B_178_24).mpr ?_
    refine (B_178_25 (Or.inl rfl)).mpr ?_
    exact ⟨by simp [tf, Int32.not_lt.mpr g1], hL⟩
  have hl := c_leftOf (d := d - 1) (S := S1) (by omega) hr12 (by rw [hN]; exact hw.1)
  rw [hN] at hl
  refine (B_178_12 (by omega) hl).mpr ?_
  refine ic (fun g2 => ?_) (fun g2 => ?_)
  · refine (B_178_24).mpr ?_
    refine (B_178_25 (Or.inl rfl)).mpr ?_
    exact ⟨by simp [tf, Int32.not_lt.mpr g2], hL⟩
  refine (B_178_20).mpr ?_
  refine (B_178_25 (Or.inr rfl)).mpr ?_
  exact ⟨by simp [tf, Int32.not_le.mp g1, Int32.not_le.mp g2], hL⟩
theorem c_bestLength (hd : 2 ≤ d) {N : NV} (hN : S 41 0 0 = N) (hw : WF N) {r : Nat} (hr : r < 12) {row : NV} (h47 : ∀ m, m < 8 → S 47 0 0 m = row m) (h48 : ∀ o, o < 8 → S 48 0 0 o = rmI N r o) : Ret d 179 [vR 40 0 0, vI (nI r)] S (some (vI (mnTo (aLeft N r) row (rmI N r) (cO N)))) S := by
  subst hN
  refine E_179 ?_
  have h3 := hw.1.1
  have hc := hw.1.2.1
  refine (B_179_0 (by omega) (c_leftOf (by omega) hr hw.1)).mpr ?_
  refine wloop (cO (S 41 0 0)) (fun m => [some (vR 40 0 0), some (vI (nI r)), some (vI (mnTo (aLeft (S 41 0 0) r) row (rmI (S 41 0 0) r) m)), some (vI (nI m))]) (fun _ => S) ?_ ?_
  · refine (B_179_8).mpr ?_
    rw [if_pos (by rw [h3]; exact Int32.le_refl _)]
    refine (B_179_55).mpr ?_
    exact ⟨rfl, rfl⟩
  · intro m hm hn
    refine (B_179_8).mpr ?_
    rw [if_neg (by rw [h3, qI_le (by omega) (by omega)]; omega)]
    refine (B_179_18 (n1_ := m) rfl (by omega)).mpr ?_
    rw [h47 m (by omega)]
    simp only [mnTo] at hn
    refine ic (fun g => ?_) (fun g => ?_)
    · refine (B_179_47).mpr ?_
      refine (B_179_48).mpr ?_
      rw [if_neg (Int32.not_lt.mpr g)] at hn
      rw [qI_succ]
      exact hn
    have g' := Int32.not_le.mp g
    refine (B_179_27 (n1_ := m) (n2_ := m) (by omega) rfl (by omega) rfl (by omega) (by rw [h47 m (by omega)]; intro q; rw [q] at g'; exact absurd g' (by decide)) c_minI).mpr ?_
    refine (B_179_48).mpr ?_
    rw [if_pos g'] at hn
    rw [qI_succ, h47 m (by omega), h48 m (by omega)]
    exact hn
theorem c_best (hd : 14 ≤ d) (hw : WF (S 41 0 0)) {x1 x2 : Int32} : Wm d 180 [vR 40 0 0, vI x1, vI x2] S (fun q S' => q = some (vI (aBst (S 41 0 0) x1 x2)) ∧ fM S S' ∧ S' 41 0 0 = S 41 0 0) := by
  refine EW_180 ?_
  refine (B_180_0 (by omega) (c_isRoll (by omega))).mpr ?_
  unfold aBst vR_
  rw [inR_tf]
  refine icb (fun g => ?_) (fun g => ?_)
  · refine (B_180_8).mpr ?_
    exact ⟨by rw [g]; rfl, fM_refl S, rfl⟩
  obtain ⟨r, rfl, hr, hr12⟩ := vR_ix hw.1 g
  rw [if_pos g, nI_clamp (by omega)]
  have main : (inR x2 0 3 = true ∨ vO (S 41 0 0) (x2 - 10) = true) → Wp d 180 33 [some (vR 40 0 0), some (vI (nI r)), some (vI x2)] [] S (fun q S' => q = some (vI (if inR x2 0 3 = true ∨ vO (S 41 0 0) (x2 - 10) = true then (if aHas (S 41 0 0) r = true then aBestW (S 41 0 0) r x2 else -5) else -2)) ∧ fM S S' ∧ S' 41 0 0 = S 41 0 0) := by
    intro ha
    rw [if_pos ha]
    obtain ⟨q, S1, h1, rfl, hf, hN, h14, h13, h12, h47, h48⟩ := Wm_ex (c_hasBest (d := d - 1) (by omega) hw hr)
    refine (B_180_33 (by omega) h1).mpr ?_
    refine icb (fun gh => ?_) (fun gh => ?_)
    · refine (B_180_41).mpr ?_
      exact ⟨by rw [gh]; rfl, hf, hN⟩
    have h47' := h47 (aHas_ne gh)
    rw [if_pos gh]
    refine (B_180_44).mpr ?_
    rw [X_180_45]
    unfold aBestW
    refine ic (fun q0 => ?_) (fun q0 => ?_)
    · refine (B_180_76).mpr ?_
      rw [if_pos q0, h12]
      exact ⟨rfl, hf, hN⟩
    rw [if_neg q0]
    refine ic (fun q1 => ?_) (fun q1 => ?_)
    · refine (B_180_81).mpr ?_
      rw [if_pos q1, h13]
      exact ⟨rfl, hf, hN⟩
    rw [if_neg q1]
    refine ic (fun q2 => ?_) (fun q2 => ?_)
    · refine (B_180_86 (by omega) c_knivesFor).mpr ?_
      rw [if_pos q2, h12, h13]
      exact ⟨rfl, hf, hN⟩
    rw [if_neg q2]
    refine ic (fun q3 => ?_) (fun q3 => ?_)
    · refine (B_180_98 (by omega) (c_bestLength (by omega) hN hw hr12 h47' h48)).mpr ?_
      rw [if_pos q3]
      exact ⟨rfl, hf, hN⟩
    rw [if_neg q3]
    rcases ha with ha | ha
    · obtain ⟨n, rfl, -, hn⟩ := inR_n (a := 0) (b := 3) ha (by decide) (by decide)
      have : n = 0 ∨ n = 1 ∨ n = 2 ∨ n = 3 := by omega
      rcases this with rfl | rfl | rfl | rfl
      · exact absurd rfl q0
      · exact absurd rfl q1
      · exact absurd rfl q2
      · exact absurd rfl q3
    · obtain ⟨o, ho, ho1, ho8⟩ := vO_ix hw.1 ha
      refine (B_180_104 (n1_ := o) ho ho8).mpr ?_
      rw [h47' o ho8, ho, nI_clamp (by omega)]
      exact ⟨rfl, hf, hN⟩
  refine (B_180_10 (by omega) c_isIn).mpr ?_
  rw [inR_tf]
  refine icb (fun g1 => ?_) (fun g1 => ?_)
  · refine (B_180_19 (by omega) (c_isOrder (by omega))).mpr ?_
    rw [inR_tf]
    refine icb (fun g2 => ?_) (fun g2 => ?_)
    · refine (B_180_30).mpr ?_
      rw [if_neg]
      · exact ⟨rfl, fM_refl S, rfl⟩
      · rintro (q | q)
        · rw [q] at g1; exact absurd g1 (by decide)
        · unfold vO at q; rw [q] at g2; exact absurd g2 (by decide)
    exact main (Or.inr g2)
  exact main (Or.inl g1)
theorem c_again (hd : 15 ≤ d) (hw : WF (S 41 0 0)) {x1 : Int32} : Wm d 181 [vR 40 0 0, vI x1] S (fun q S' => q = some (vI (aBst (S 41 0 0) x1 0)) ∧ fM S S' ∧ S' 41 0 0 = S 41 0 0) := by
  refine EW_181 ?_
  obtain ⟨q, S1, h1, rfl, hf⟩ := Wm_ex (c_best (d := d - 1) (by omega) hw (x1 := x1) (x2 := 0))
  refine (B_181_0 (by omega) h1).mpr ?_
  exact ⟨rfl, hf⟩
theorem c_patterns (hd : 14 ≤ d) (hw : WF (S 41 0 0)) {x1 : Int32} : Wm d 182 [vR 40 0 0, vI x1] S (fun q S' => q = some (vI (aPatn (S 41 0 0) x1)) ∧ fM S S' ∧ S' 41 0 0 = S 41 0 0) := by
  refine EW_182 ?_
  refine (B_182_0 (by omega) (c_isRoll (by omega))).mpr ?_
  unfold aPatn vR_
  rw [inR_tf]
  refine icb (fun g => ?_) (fun g => ?_)
  · refine (B_182_8).mpr ?_
    exact ⟨by rw [g]; rfl, fM_refl S, rfl⟩
  obtain ⟨r, rfl, hr, hr12⟩ := vR_ix hw.1 g
  rw [if_pos g, nI_clamp (by omega)]
  obtain ⟨q, S1, h1, rfl, hf, hN, h14, -⟩ := Wm_ex (c_looks (d := d - 1) (by omega) hw hr12 (wf_roll hw hr).2)
  refine (B_182_10 (by omega) h1).mpr ?_
  exact ⟨by rw [h14], hf, hN⟩
theorem c_comesRun (h5 : S 41 0 0 5 = nI (cU (S 41 0 0))) (hc : cU (S 41 0 0) < 16) {x1 x2 : Int32} : Ret d 192 [vR 40 0 0, vI x1, vI x2] S (some (vI (S 41 0 0 5))) (sN S (nRun (S 41 0 0) x1 x2 (S 49 0 0))) := by
  refine E_192 ?_
  refine (B_192_0 (n1_ := 90 + 12 * cU (S 41 0 0)) (n2_ := 91 + 12 * cU (S 41 0 0)) (n3_ := 92 + 12 * cU (S 41 0 0)) (n4_ := 93 + 12 * cU (S 41 0 0)) (by rw [h5]; exact (by first | rfl | (simp only [qI_add, qI_mul, qI_lits]; done) | (simp only [qI_add, qI_mul, qI_lits]; grind))) (by omega) (by rw [h5]; exact (by first | rfl | (simp only [qI_add, qI_mul, qI_lits]; done) | (simp only [qI_add, qI_mul, qI_lits]; grind))) (by omega) (by rw [h5]; exact (by first | rfl | (simp only [qI_add, qI_mul, qI_lits]; done) | (simp only [qI_add, qI_mul, qI_lits]; grind))) (by omega) (by rw [h5]; exact (by first | rfl | (simp only [qI_add, qI_mul, qI_lits]; done) | (simp only [qI_add, qI_mul, qI_lits]; grind))) (by omega)).mpr ?_
  generalize hc' : cU (S 41 0 0) = c at *
  rw [sUp_sN0 S, sUp_sN, sUp_sN, sUp_sN, h5, show (90 : Int32) + 12 * nI c = nI (90 + 12 * c) from (by first | rfl | (simp only [qI_add, qI_mul, qI_lits]; done) | (simp only [qI_add, qI_mul, qI_lits]; grind))]
  have e1 : sN S (upd (upd (S 41 0 0) (90 + 12 * c) x1) (91 + 12 * c) x2) 41 0 0 1 = S 41 0 0 1 := by
    rw [sN_41]
    unfold upd
    rw [if_neg (by omega), if_neg (by omega)]
  rw [e1]
  let T : Nat → NV := fun n k => if 94 + 12 * c ≤ k ∧ k < 94 + 12 * c + n then S 49 0 0 (k - (94 + 12 * c)) else upd (upd (upd (upd (S 41 0 0) (90 + 12 * c) x1) (91 + 12 * c) x2) (92 + 12 * c) (S 41 0 0 1)) (93 + 12 * c) (-5) k
  have e0 : upd (upd (upd (upd (S 41 0 0) (90 + 12 * c) x1) (91 + 12 * c) x2) (92 + 12 * c) (S 41 0 0 1)) (93 + 12 * c) (-5) = T 0 := by
    funext k
    show _ = if 94 + 12 * c ≤ k ∧ k < 94 + 12 * c + 0 then _ else _
    rw [if_neg (by omega)]
  rw [e0]
  refine wloop 8 (fun m => [some (vR 40 0 0), some (vI x1), some (vI x2), some (vI (nI (90 + 12 * c))), some (vI (nI m))]) (fun m => sN S (T m)) ?_ ?_
  · refine (B_192_56).mpr ?_
    rw [if_pos (by decide)]
    refine (B_192_87).mpr ?_
    rw [sUp_sN, sN_41, sN_41]
    have t5 : T 8 5 = nI c := by
      show (if 94 + 12 * c ≤ 5 ∧ 5 < 94 + 12 * c + 8 then _ else _) = _
      rw [if_neg (by omega)]
      unfold upd
      rw [if_neg (by omega), if_neg (by omega), if_neg (by omega), if_neg (by omega)]
      exact h5
    refine ⟨?_, ?_⟩
    · unfold upd
      rw [if_pos rfl, t5]
      congr 2
      grind
    · congr 1
      funext k
      unfold nRun
      rw [hc', t5]
      by_cases k5 : k = 5
      · rw [if_pos k5, k5]
        unfold upd
        rw [if_pos rfl, h5]
      · rw [if_neg k5]
        unfold upd
        rw [if_neg k5]
        show T 8 k = _
        show (if 94 + 12 * c ≤ k ∧ k < 94 + 12 * c + 8 then _ else _) = _
        by_cases kr : 94 + 12 * c ≤ k ∧ k < 102 + 12 * c
        · rw [if_pos kr, if_pos (by omega)]
        · rw [if_neg kr, if_neg (by omega)]
          unfold upd
          by_cases k3 : k = 93 + 12 * c
          · rw [if_pos k3, if_neg (by omega), if_neg (by omega), if_neg (by omega), if_pos k3]
          rw [if_neg k3]
          by_cases k2 : k = 92 + 12 * c
          · rw [if_pos k2, if_neg (by omega), if_neg (by omega), if_pos k2]
          rw [if_neg k2]
          by_cases k1 : k = 91 + 12 * c
          · rw [if_pos k1, if_neg (by omega), if_pos k1]
          rw [if_neg k1]
          by_cases k0 : k = 90 + 12 * c
          · rw [if_pos k0, if_pos k0]
          rw [if_neg k0, if_neg k0, if_neg k1, if_neg k2, if_neg k3]
  · intro m hm hn
    refine (B_192_56).mpr ?_
    rw [if_neg (by rw [show (8 : Int32) = nI 8 from rfl, qI_le (by omega) (by omega)]; omega)]
    refine (B_192_63 (n1_ := m) (n2_ := 94 + 12 * c + m) rfl (by omega) (by first | rfl | (simp only [qI_add, qI_mul, qI_lits]; done) | (simp only [qI_add, qI_mul, qI_lits]; grind)) (by omega)).mpr ?_
    rw [sUp_sN, sN_k _ _ (by decide), qI_succ]
    have e : upd (T m) (94 + 12 * c + m) (S 49 0 0 m) = T (m + 1) := by
      funext k
      unfold upd
      show (if _ then _ else (if 94 + 12 * c ≤ k ∧ k < 94 + 12 * c + m then _ else _)) = (if 94 + 12 * c ≤ k ∧ k < 94 + 12 * c + (m + 1) then _ else _)
      by_cases k1 : k = 94 + 12 * c + m
      · rw [if_pos k1, if_pos (by omega), k1]
        congr 1
        omega
      · rw [if_neg k1]
        by_cases k2 : 94 + 12 * c ≤ k ∧ k < 94 + 12 * c + m
        · rw [if_pos k2, if_pos (by omega)]
        · rw [if_neg k2, if_neg (by omega)]
    rw [e]
    exact hn
theorem fM_sN {S T : bSt} {N : NV} (h : fM S T) : fM S (sN T N) := by
  intro k i j m hs
  have : k ≠ 41 := by
    intro q
    subst q
    exact absurd hs (by simp [sc])
  rw [sN_k _ _ this]
  exact h k i j m hs
theorem c_cuts (hd : 13 ≤ d) (hw : WF (S 41 0 0)) (hu : cU (S 41 0 0) < 16) {r : Nat} (hr : r < cR (S 41 0 0)) (hb : aHas (S 41 0 0) r = true) : Wm d 194 [vR 40 0 0, vI (nI r)] S (fun q S' => q = some (vI (S 41 0 0 5)) ∧ fM S S' ∧ S' 41 0 0 = aCut (S 41 0 0) r) := by
  obtain ⟨hr12, hrW⟩ := wf_roll hw hr
  refine EW_194 ?_
  obtain ⟨q, S1, h1, rfl, hf, hN, h14, h13, h12, h47, h48⟩ := Wm_ex (c_looks (d := d - 1) (by omega) hw hr12 hrW)
  have h47' := h47 (aHas_ne hb)
  refine (B_194_0 (by omega) h1 (c_bestLength (by omega) hN hw hr12 h47' h48)).mpr ?_
  refine wloopI 10 (fun m ls S' => ls = [some (vR 40 0 0), some (vI (nI r)), some (vI (aBLen (S 41 0 0) r)), some (vI (nI m))] ∧ fM S S' ∧ S' 41 0 0 = S 41 0 0 ∧ (∀ q, q < 8 → S' 47 0 0 q = (aLook (S 41 0 0) r).2.2.2 q) ∧ (∀ q, q < m → q < 8 → S' 49 0 0 q = (aLook (S 41 0 0) r).2.2.2 q)) ?_ ?_ ⟨rfl, hf, hN, h47', fun q hq => absurd hq (Nat.not_lt_zero _)⟩
  · rintro ls S' ⟨rfl, hf, hN, -, h49⟩
    refine (B_194_13).mpr ?_
    rw [if_pos (by decide)]
    have hc := c_comesRun (d := d - 1) (S := S') (by rw [hN]; exact hw.1.2.2.2.2.1) (by rw [hN]; exact hu) (x1 := nI r) (x2 := aBLen (S 41 0 0) r)
    refine (B_194_47 (by omega) hc).mpr ?_
    refine ⟨by rw [hN], fM_sN hf, ?_⟩
    rw [sN_41, hN]
    exact nRun_congr (fun m hm => h49 m (by omega) hm)
  · rintro m hm ls S' ⟨rfl, hf, hN, h47, h49⟩ hn
    refine (B_194_13).mpr ?_
    rw [if_neg (by rw [show (10 : Int32) = nI 10 from rfl, qI_le (by omega) (by omega)]; omega)]
    refine (B_194_19).mpr ?_
    have next : ∀ (x : Int32), (m < 8 → x = (aLook (S 41 0 0) r).2.2.2 m) → Wp d 194 40 [some (vR 40 0 0), some (vI (nI r)), some (vI (aBLen (S 41 0 0) r)), some (vI (nI m))] [vI x, vI (nI m), vR 49 0 0] S' (fun q S' => q = some (vI (S 41 0 0 5)) ∧ fM S S' ∧ S' 41 0 0 = aCut (S 41 0 0) r) := by
      intro x hx
      refine (B_194_40 (n1_ := m) rfl (by omega)).mpr ?_
      rw [qI_succ]
      refine hn _ _ ⟨rfl, fM_up hf rfl, ?_, ?_, ?_⟩
      · funext q; rw [sUp_kind (by decide), hN]
      · intro q hq; rw [sUp_kind (by decide)]; exact h47 q hq
      · intro q hq hq8
        by_cases hqm : q = m
        · subst hqm; rw [sUp_same]; exact hx hq8
        · rw [sUp_slot hqm]; exact h49 q (by omega) hq8
    refine icT (qI_le (a := 8) (b := m) (by omega) (by omega)) (fun g => ?_) (fun g => ?_)
    · refine (B_194_39).mpr ?_
      exact next _ (fun h => absurd h (by omega))
    refine (B_194_30 (n1_ := m) rfl (by omega)).mpr ?_
    exact next _ (fun h => h47 m h)
theorem c_tryCut (hd : 14 ≤ d) (hw : WF (S 41 0 0)) {x1 : Int32} : Wm d 195 [vR 40 0 0, vI x1] S (fun q S' => q = some (vI (aTry (S 41 0 0) x1).1) ∧ fM S S' ∧ S' 41 0 0 = (aTry (S 41 0 0) x1).2) := by
  refine EW_195 ?_
  refine (B_195_0 (by omega) (c_isRoll (by omega))).mpr ?_
  unfold aTry vR_
  rw [inR_tf]
  refine icb (fun g => ?_) (fun g => ?_)
  · refine (B_195_8).mpr ?_
    rw [g]
    exact ⟨rfl, fM_refl S, rfl⟩
  obtain ⟨r, rfl, hr, hr12⟩ := vR_ix hw.1 g
  rw [if_pos g, nI_clamp (by omega)]
  refine (B_195_10).mpr ?_
  refine ic (fun g16 => ?_) (fun g16 => ?_)
  · refine (B_195_21).mpr ?_
    refine (B_195_44).mpr ?_
    rw [if_pos g16]
    exact ⟨rfl, fM_refl S, rfl⟩
  rw [if_neg g16]
  have hu : cU (S 41 0 0) < 16 := by
    rcases Nat.lt_or_ge (cU (S 41 0 0)) 16 with h | h
    · exact h
    · have := hw.1.2.2.2.2.2
      exact absurd (by rw [hw.1.2.2.2.2.1, show cU (S 41 0 0) = 16 by omega]; rfl) g16
  obtain ⟨q, S1, h1, rfl, hL⟩ := Wm_ex (c_hasBest (d := d - 1) (by omega) hw hr)
  refine (B_195_26 (by omega) h1).mpr ?_
  refine icb (fun gh => ?_) (fun gh => ?_)
  · refine (B_195_34).mpr ?_
    refine (B_195_44).mpr ?_
    rw [gh]
    exact ⟨rfl, hL.1, hL.2.1⟩
  rw [if_pos gh]
  have hN := hL.2.1
  obtain ⟨q, S2, h2, rfl, hf, hN2⟩ := Wm_ex (c_cuts (d := d - 1) (S := S1) (by omega) (by rw [hN]; exact hw) (by rw [hN]; exact hu) (r := r) (by rw [hN]; exact hr) (by rw [hN]; exact gh))
  refine (B_195_39 (by omega) h2).mpr ?_
  refine (B_195_44).mpr ?_
  rw [hN] at hN2 ⊢
  exact ⟨rfl, fM_trans hL.1 hf, hN2⟩
end M8
