/-! THE CLASS: a plan stands for a row; what is read off it, 1 -/
section M16a
def jx (S : bSt) (i u : Nat) : Nat := (S 7 i 0 u).toNatClampNeg
def RR (S : bSt) (i j : Nat) (N : NV) (u : Nat) : Prop := S 8 i j 0 = N (90 + 12 * u) ∧ S 8 i j 1 = N (91 + 12 * u) ∧ S 8 i j 2 = N (92 + 12 * u) ∧ S 8 i j 3 = nI (aRest N u) ∧ S 8 i j 4 = N (93 + 12 * u) ∧ S 8 i j 5 = nI (aPos N u) ∧ (∀ o, o < 8 → S 9 i j o = N (94 + 12 * u + o)) ∧ (∀ k, k < aPos N u → S 10 i j k = nI (aPosAt N u k))
def OR (S : bSt) (i : Nat) (N : NV) (o : Nat) : Prop := (S 4 i o 0 = N (6 + 6 * o) ∧ S 4 i o 1 = N (7 + 6 * o) ∧ S 4 i o 2 = N (8 + 6 * o) ∧ S 4 i o 3 = N (9 + 6 * o) ∧ S 4 i o 4 = N (10 + 6 * o) ∧ S 4 i o 5 = N (11 + 6 * o)) ∧ S 4 i o 6 = aLeast N o ∧ S 4 i o 7 = aMost N o
/-- the plan i stands for the row N -/
def PR (S : bSt) (i : Nat) (N : NV) : Prop := (S 2 i 0 0 = N 0 ∧ S 2 i 0 1 = N 1 ∧ S 2 i 0 2 = N 2) ∧ (S 1 i 0 4 = N 3 ∧ S 1 i 0 5 = N 4 ∧ S 1 i 0 6 = N 5) ∧ (∀ o, o < cO N → OR S i N o) ∧ (∀ r, r < cR N → S 6 i r 0 = N (54 + 3 * r) ∧ S 6 i r 1 = N (55 + 3 * r) ∧ S 6 i r 2 = N (56 + 3 * r)) ∧ (∀ u, u < 16 → S 7 i 0 u = nI (jx S i u) ∧ jx S i u < 16) ∧ (∀ u v, u < 16 → v < 16 → jx S i u = jx S i v → u = v) ∧ (∀ u, u < cU N → RR S i (jx S i u) N u)
theorem bk1 {i : Nat} (h : i < 12) : bok 1 i 0 = true := by simp [bok, kDim, h]
theorem bk2 {i : Nat} (h : i < 12) : bok 2 i 0 = true := by simp [bok, kDim, h]
theorem bk3 {i : Nat} (h : i < 12) : bok 3 i 0 = true := by simp [bok, kDim, h]
theorem bk5 {i : Nat} (h : i < 12) : bok 5 i 0 = true := by simp [bok, kDim, h]
theorem bk7 {i : Nat} (h : i < 12) : bok 7 i 0 = true := by simp [bok, kDim, h]
theorem bk4 {i o : Nat} (h : i < 12) (ho : o < 8) : bok 4 i o = true := by simp [bok, kDim, h, ho]
theorem bk6 {i r : Nat} (h : i < 12) (hr : r < 12) : bok 6 i r = true := by simp [bok, kDim, h, hr]
theorem bk8 {i j : Nat} (h : i < 12) (hj : j < 16) : bok 8 i j = true := by simp [bok, kDim, h, hj]
theorem bk9 {i j : Nat} (h : i < 12) (hj : j < 16) : bok 9 i j = true := by simp [bok, kDim, h, hj]
theorem bk10 {i j : Nat} (h : i < 12) (hj : j < 16) : bok 10 i j = true := by simp [bok, kDim, h, hj]
variable {d : Nat} {S : bSt} {N : NV} {i : Nat}
theorem P_j (hP : PR S i N) {u : Nat} (hu : u < 16) : jx S i u < 16 := (hP.2.2.2.2.1 u hu).2
theorem P_u (hP : PR S i N) {u : Nat} (hu : u < cU N) : RR S i (jx S i u) N u := hP.2.2.2.2.2.2 u hu
theorem P_o (hP : PR S i N) {o : Nat} (ho : o < cO N) : OR S i N o := hP.2.2.1 o ho
theorem P_r (hP : PR S i N) {r : Nat} (hr : r < cR N) : S 6 i r 0 = N (54 + 3 * r) ∧ S 6 i r 1 = N (55 + 3 * r) ∧ S 6 i r 2 = N (56 + 3 * r) := hP.2.2.2.1 r hr
theorem P_4 (hP : PR S i N) (hw : WF N) : S 1 i 0 4 = nI (cO N) := hP.2.1.1.trans hw.1.1
theorem P_5 (hP : PR S i N) (hw : WF N) : S 1 i 0 5 = nI (cR N) := hP.2.1.2.1.trans hw.1.2.2.1
theorem P_6 (hP : PR S i N) (hw : WF N) : S 1 i 0 6 = nI (cU N) := hP.2.1.2.2.trans hw.1.2.2.2.2.1
theorem lt_inR {x : Int32} {c : Nat} (hc : c < 2 ^ 31) : x < nI c ↔ x ≤ nI c - 1 := by
  rcases Nat.eq_zero_or_pos c with h | h
  · subst h
    rw [Int32.lt_iff_toInt_lt, Int32.le_iff_toInt_le, show (nI 0).toInt = 0 from rfl, show (nI 0 - 1).toInt = -1 from by decide]
    omega
  · rw [show nI c - 1 = nI (c - 1) from qI_sub (b := 1) h, Int32.lt_iff_toInt_lt, Int32.le_iff_toInt_le, nI_toInt hc, nI_toInt (by omega)]
    omega
theorem k_hasOrder (hi : i < 12) (hP : PR S i N) (hw : WF N) {x1 : Int32} : Ret d 14 [vR 1 i 0, vI x1] S (some (vI (tf (vO N x1)))) S := by
  have hc := hw.1.2.1
  refine E_14 ?_
  refine (B_14_0).mpr ?_
  unfold vO inR
  refine ic (fun g => ?_) (fun g => ?_)
  · refine (B_14_16).mpr ?_
    refine (B_14_17 (Or.inl rfl)).mpr ?_
    exact ⟨by simp [tf, Int32.not_le.mpr g], rfl⟩
  refine (B_14_4 (bk1 hi)).mpr ?_
  rw [P_4 hP hw, hw.1.1]
  refine ic (fun g2 => ?_) (fun g2 => ?_)
  · refine (B_14_16).mpr ?_
    refine (B_14_17 (Or.inl rfl)).mpr ?_
    exact ⟨by rw [decide_eq_false (fun q => absurd ((lt_inR (by omega)).mpr q) (Int32.not_lt.mpr g2) : ¬ x1 ≤ nI (cO N) - 1), Bool.and_false]; rfl, rfl⟩
  refine (B_14_12).mpr ?_
  refine (B_14_17 (Or.inr rfl)).mpr ?_
  exact ⟨by simp [tf, Int32.not_lt.mp g, (lt_inR (by omega)).mp (Int32.not_le.mp g2)], rfl⟩
theorem k_hasRoll (hi : i < 12) (hP : PR S i N) (hw : WF N) {x1 : Int32} : Ret d 15 [vR 1 i 0, vI x1] S (some (vI (tf (vR_ N x1)))) S := by
  have hc := hw.1.2.2.2.1
  refine E_15 ?_
  refine (B_15_0).mpr ?_
  unfold vR_ inR
  refine ic (fun g => ?_) (fun g => ?_)
  · refine (B_15_16).mpr ?_
    refine (B_15_17 (Or.inl rfl)).mpr ?_
    exact ⟨by simp [tf, Int32.not_le.mpr g], rfl⟩
  refine (B_15_4 (bk1 hi)).mpr ?_
  rw [P_5 hP hw, hw.1.2.2.1]
  refine ic (fun g2 => ?_) (fun g2 => ?_)
  · refine (B_15_16).mpr ?_
    refine (B_15_17 (Or.inl rfl)).mpr ?_
    exact ⟨by rw [decide_eq_false (fun q => absurd ((lt_inR (by omega)).mpr q) (Int32.not_lt.mpr g2) : ¬ x1 ≤ nI (cR N) - 1), Bool.and_false]; rfl, rfl⟩
  refine (B_15_12).mpr ?_
  refine (B_15_17 (Or.inr rfl)).mpr ?_
  exact ⟨by simp [tf, Int32.not_lt.mp g, (lt_inR (by omega)).mp (Int32.not_le.mp g2)], rfl⟩
theorem k_hasRun (hi : i < 12) (hP : PR S i N) (hw : WF N) {x1 : Int32} : Ret d 16 [vR 1 i 0, vI x1] S (some (vI (tf (vU N x1)))) S := by
  have hc := hw.1.2.2.2.2.2
  refine E_16 ?_
  refine (B_16_0).mpr ?_
  unfold vU inR
  refine ic (fun g => ?_) (fun g => ?_)
  · refine (B_16_16).mpr ?_
    refine (B_16_17 (Or.inl rfl)).mpr ?_
    exact ⟨by simp [tf, Int32.not_le.mpr g], rfl⟩
  refine (B_16_4 (bk1 hi)).mpr ?_
  rw [P_6 hP hw, hw.1.2.2.2.2.1]
  refine ic (fun g2 => ?_) (fun g2 => ?_)
  · refine (B_16_16).mpr ?_
    refine (B_16_17 (Or.inl rfl)).mpr ?_
    exact ⟨by rw [decide_eq_false (fun q => absurd ((lt_inR (by omega)).mpr q) (Int32.not_lt.mpr g2) : ¬ x1 ≤ nI (cU N) - 1), Bool.and_false]; rfl, rfl⟩
  refine (B_16_12).mpr ?_
  refine (B_16_17 (Or.inr rfl)).mpr ?_
  exact ⟨by simp [tf, Int32.not_lt.mp g, (lt_inR (by omega)).mp (Int32.not_le.mp g2)], rfl⟩
theorem k_inRange {x0 x1 x2 : Int32} : Ret d 133 [vI x0, vI x1, vI x2] S (some (vI (tf (inR x0 x1 x2)))) S := by
  refine E_133 ?_
  refine (B_133_0).mpr ?_
  unfold inR
  refine ic (fun g => ?_) (fun g => ?_)
  · refine (B_133_14).mpr ?_
    refine (B_133_15 (Or.inl rfl)).mpr ?_
    exact ⟨by simp [tf, Int32.not_le.mpr g], rfl⟩
  refine (B_133_5).mpr ?_
  refine ic (fun g2 => ?_) (fun g2 => ?_)
  · refine (B_133_14).mpr ?_
    refine (B_133_15 (Or.inl rfl)).mpr ?_
    exact ⟨by simp [tf, Int32.not_le.mpr g2], rfl⟩
  refine (B_133_10).mpr ?_
  refine (B_133_15 (Or.inr rfl)).mpr ?_
  exact ⟨by simp [tf, Int32.not_lt.mp g, Int32.not_lt.mp g2], rfl⟩
theorem k_knivesFor {x0 x1 : Int32} : Ret d 134 [vI x0, vI x1] S (some (vI (aKn x0 x1))) S := by
  refine E_134 ?_
  refine (B_134_0).mpr ?_
  unfold aKn
  refine ic (fun g => ?_) (fun g => ?_)
  · refine (B_134_4).mpr ?_
    refine (B_134_13).mpr ?_
    exact ⟨by simp [g], rfl⟩
  refine (B_134_10).mpr ?_
  refine (B_134_13).mpr ?_
  exact ⟨by simp [g], rfl⟩
theorem k_madeFor (hi : i < 12) (hP : PR S i N) (hw : WF N) {o : Nat} (ho : o < 8) : Ret d 21 [vR 1 i 0, vI (nI o)] S (some (vI (aMade N o))) S := by
  have hc := hw.1.2.2.2.2.2
  refine E_21 ?_
  refine (B_21_0).mpr ?_
  refine wloop (cU N) (fun m => [some (vR 1 i 0), some (vI (nI o)), some (vI (sumTo (fun u => N (94 + 12 * u + o) * N (91 + 12 * u)) m)), some (vI (nI m))]) (fun _ => S) ?_ ?_
  · refine (B_21_4 (bk1 hi)).mpr ?_
    rw [if_pos (by rw [P_6 hP hw]; exact Int32.le_refl _)]
    refine (B_21_42).mpr ?_
    exact ⟨rfl, rfl⟩
  · intro m hm hn
    have hj := P_j hP (u := m) (by omega)
    obtain ⟨r0, r1, r2, r3, r4, r5, r6, r7⟩ := P_u hP hm
    refine (B_21_4 (bk1 hi)).mpr ?_
    rw [if_neg (by rw [P_6 hP hw, qI_le (by omega) (by omega)]; omega)]
    refine (B_21_12 (n1_ := m) (m2_ := jx S i m) (n3_ := o) (bk1 hi) rfl (by omega) rfl (bk7 hi) (bk8 hi hj) rfl ho (bk9 hi hj)).mpr ?_
    rw [r6 o ho, r1, qI_succ]
    exact hn
theorem k_roomOf (hi : i < 12) (hP : PR S i N) (hw : WF N) (hd : 1 ≤ d) {o : Nat} (ho : o < cO N) : Ret d 22 [vR 1 i 0, vI (nI o)] S (some (vI (aRoom N o))) S := by
  have h8 := hw.1.2.1
  refine E_22 ?_
  refine (B_22_0 (n1_ := o) (by omega) (bk1 hi) rfl (by omega) (bk3 hi) (bk4 hi (by omega)) (k_madeFor hi hP hw (by omega))).mpr ?_
  rw [(P_o hP ho).2.2]
  exact ⟨rfl, rfl⟩
theorem k_isMet (hi : i < 12) (hP : PR S i N) (hw : WF N) (hd : 1 ≤ d) {o : Nat} (ho : o < cO N) : Ret d 23 [vR 1 i 0, vI (nI o)] S (some (vI (tf (aMet N o)))) S := by
  have h8 := hw.1.2.1
  refine E_23 ?_
  refine (B_23_0 (n1_ := o) (by omega) (k_madeFor hi hP hw (by omega)) (bk1 hi) rfl (by omega) (bk3 hi) (bk4 hi (by omega))).mpr ?_
  rw [(P_o hP ho).2.1]
  unfold aMet
  refine ic (fun g => ?_) (fun g => ?_)
  · refine (B_23_21).mpr ?_
    refine (B_23_22 (Or.inl rfl)).mpr ?_
    exact ⟨by simp [tf, Int32.not_le.mpr g], rfl⟩
  refine (B_23_17).mpr ?_
  refine (B_23_22 (Or.inr rfl)).mpr ?_
  exact ⟨by simp [tf, Int32.not_lt.mp g], rfl⟩
theorem k_runsFor (hi : i < 12) (hP : PR S i N) (hw : WF N) {o : Nat} (ho : o < 8) : Ret d 24 [vR 1 i 0, vI (nI o)] S (some (vI (aRunsFor N o))) S := by
  have hc := hw.1.2.2.2.2.2
  refine E_24 ?_
  refine (B_24_0).mpr ?_
  refine wloop (cU N) (fun m => [some (vR 1 i 0), some (vI (nI o)), some (vI (sumTo (fun u => if 0 < N (94 + 12 * u + o) then 1 else 0) m)), some (vI (nI m))]) (fun _ => S) ?_ ?_
  · refine (B_24_4 (bk1 hi)).mpr ?_
    rw [if_pos (by rw [P_6 hP hw]; exact Int32.le_refl _)]
    refine (B_24_35).mpr ?_
    exact ⟨rfl, rfl⟩
  · intro m hm hn
    have hj := P_j hP (u := m) (by omega)
    obtain ⟨r0, r1, r2, r3, r4, r5, r6, r7⟩ := P_u hP hm
    refine (B_24_4 (bk1 hi)).mpr ?_
    rw [if_neg (by rw [P_6 hP hw, qI_le (by omega) (by omega)]; omega)]
    refine (B_24_12 (n1_ := m) (m2_ := jx S i m) (n3_ := o) (bk1 hi) rfl (by omega) rfl (bk7 hi) (bk8 hi hj) rfl ho (bk9 hi hj)).mpr ?_
    rw [r6 o ho]
    rw [sumTo, ← qI_succ] at hn
    refine ic (fun g => ?_) (fun g => ?_)
    · refine (B_24_29).mpr ?_
      rw [if_neg (Int32.not_lt.mpr g), Int32.add_zero] at hn
      exact hn
    refine (B_24_26).mpr ?_
    refine (B_24_29).mpr ?_
    rw [if_pos (Int32.not_le.mp g)] at hn
    exact hn
theorem k_leftOf (hi : i < 12) (hP : PR S i N) (hw : WF N) {r : Nat} (hr : r < cR N) : Ret d 26 [vR 1 i 0, vI (nI r)] S (some (vI (aLeft N r))) S := by
  have hc := hw.1.2.2.2.2.2
  have h12 := hw.1.2.2.2.1
  refine E_26 ?_
  refine (B_26_0 (n1_ := r) (bk1 hi) rfl (by omega) (bk5 hi) (bk6 hi (by omega))).mpr ?_
  rw [(P_r hP hr).2.2]
  refine wloop (cU N) (fun m => [some (vR 1 i 0), some (vI (nI r)), some (vI (subTo (N (56 + 3 * r)) (fun u => if N (90 + 12 * u) = nI r then N (91 + 12 * u) else 0) m)), some (vI (nI m))]) (fun _ => S) ?_ ?_
  · refine (B_26_12 (bk1 hi)).mpr ?_
    rw [if_pos (by rw [P_6 hP hw]; exact Int32.le_refl _)]
    refine (B_26_51).mpr ?_
    exact ⟨rfl, rfl⟩
  · intro m hm hn
    have hj := P_j hP (u := m) (by omega)
    obtain ⟨r0, r1, r2, r3, r4, r5, r6, r7⟩ := P_u hP hm
    refine (B_26_12 (bk1 hi)).mpr ?_
    rw [if_neg (by rw [P_6 hP hw, qI_le (by omega) (by omega)]; omega)]
    refine (B_26_20 (n1_ := m) (m2_ := jx S i m) (bk1 hi) rfl (by omega) rfl (bk7 hi) (bk8 hi hj)).mpr ?_
    rw [r0]
    rw [subTo, ← qI_succ] at hn
    refine ic (fun g => ?_) (fun g => ?_)
    · refine (B_26_33 (n1_ := m) (m2_ := jx S i m) (bk1 hi) rfl (by omega) rfl (bk7 hi) (bk8 hi hj)).mpr ?_
      refine (B_26_45).mpr ?_
      rw [if_pos g] at hn
      rw [r1]
      exact hn
    refine (B_26_45).mpr ?_
    rw [if_neg g, Int32.sub_zero] at hn
    exact hn
theorem k_runsOf (hi : i < 12) (hP : PR S i N) (hw : WF N) {r : Nat} : Ret d 27 [vR 1 i 0, vI (nI r)] S (some (vI (aRunsOf N r))) S := by
  have hc := hw.1.2.2.2.2.2
  refine E_27 ?_
  refine (B_27_0).mpr ?_
  refine wloop (cU N) (fun m => [some (vR 1 i 0), some (vI (nI r)), some (vI (sumTo (fun u => if N (90 + 12 * u) = nI r then 1 else 0) m)), some (vI (nI m))]) (fun _ => S) ?_ ?_
  · refine (B_27_4 (bk1 hi)).mpr ?_
    rw [if_pos (by rw [P_6 hP hw]; exact Int32.le_refl _)]
    refine (B_27_34).mpr ?_
    exact ⟨rfl, rfl⟩
  · intro m hm hn
    have hj := P_j hP (u := m) (by omega)
    obtain ⟨r0, r1, r2, r3, r4, r5, r6, r7⟩ := P_u hP hm
    refine (B_27_4 (bk1 hi)).mpr ?_
    rw [if_neg (by rw [P_6 hP hw, qI_le (by omega) (by omega)]; omega)]
    refine (B_27_12 (n1_ := m) (m2_ := jx S i m) (bk1 hi) rfl (by omega) rfl (bk7 hi) (bk8 hi hj)).mpr ?_
    rw [r0]
    rw [sumTo, ← qI_succ] at hn
    refine ic (fun g => ?_) (fun g => ?_)
    · refine (B_27_25).mpr ?_
      refine (B_27_28).mpr ?_
      rw [if_pos g] at hn
      exact hn
    refine (B_27_28).mpr ?_
    rw [if_neg g, Int32.add_zero] at hn
    exact hn
theorem k_sourceOf (hi : i < 12) (hP : PR S i N) (hw : WF N) {r : Nat} : Ret d 28 [vR 1 i 0, vI (nI r)] S (some (vI (aRem N r))) S := by
  have hc := hw.1.2.2.2.2.2
  refine E_28 ?_
  refine (B_28_0).mpr ?_
  have go : ∀ n u, u + n = cU N → Wp d 28 2 [some (vR 1 i 0), some (vI (nI r)), some (vI (nI u))] [] S (fun r1 S1 => r1 = some (vI (aRemFrom N (nI r) u n)) ∧ S1 = S) := by
    intro n
    induction n with
    | zero =>
      intro u hu
      refine (B_28_2 (bk1 hi)).mpr ?_
      rw [if_pos (by rw [P_6 hP hw, show u = cU N by omega]; exact Int32.le_refl _)]
      refine (B_28_31).mpr ?_
      exact ⟨rfl, rfl⟩
    | succ n ih =>
      intro u hu
      have hj := P_j hP (u := u) (by omega)
      obtain ⟨r0, r1, r2, r3, r4, r5, r6, r7⟩ := P_u hP (u := u) (by omega)
      refine (B_28_2 (bk1 hi)).mpr ?_
      rw [if_neg (by rw [P_6 hP hw, qI_le (by omega) (by omega)]; omega)]
      refine (B_28_10 (n1_ := u) (m2_ := jx S i u) (bk1 hi) rfl (by omega) rfl (bk7 hi) (bk8 hi hj)).mpr ?_
      rw [r4]
      unfold aRemFrom
      refine ic (fun g => ?_) (fun g => ?_)
      · refine (B_28_23).mpr ?_
        exact ⟨by simp [g], rfl⟩
      refine (B_28_25).mpr ?_
      rw [if_neg g, qI_succ]
      exact ih (u + 1) (by omega)
  exact go (cU N) 0 (by omega)
theorem k_canBeUsedFor (hi : i < 12) (hP : PR S i N) (hw : WF N) {r o : Nat} (hr : r < cR N) (ho : o < cO N) : Ret d 65 [vR 6 i r, vR 4 i o] S (some (vI (tf (aCan N r o)))) S := by
  have h8 := hw.1.2.1
  have h12 := hw.1.2.2.2.1
  have hb6 := bk6 (r := r) hi (by omega)
  have hb4 := bk4 (o := o) hi (by omega)
  obtain ⟨⟨o0, o1, o2, o3, o4, o5⟩, -, -⟩ := P_o hP ho
  refine E_65 ?_
  refine (B_65_0 hb6 hb4).mpr ?_
  rw [(P_r hP hr).1, o0]
  unfold aCan
  refine ic (fun g => ?_) (fun g => ?_)
  · refine (B_65_30).mpr ?_
    refine (B_65_35 (Or.inr rfl)).mpr ?_
    exact ⟨by simp [tf, g], rfl⟩
  refine (B_65_11 hb6 hb4).mpr ?_
  rw [(P_r hP hr).1, o0]
  refine ic (fun g2 => ?_) (fun g2 => ?_)
  · refine (B_65_34).mpr ?_
    refine (B_65_35 (Or.inl rfl)).mpr ?_
    exact ⟨by simp [tf, g, Int32.not_lt.mpr g2], rfl⟩
  refine (B_65_22 hb4).mpr ?_
  rw [o5]
  refine ic (fun g3 => ?_) (fun g3 => ?_)
  · refine (B_65_30).mpr ?_
    refine (B_65_35 (Or.inr rfl)).mpr ?_
    exact ⟨by simp [tf, g3, Int32.not_le.mp g2], rfl⟩
  refine (B_65_34).mpr ?_
  refine (B_65_35 (Or.inl rfl)).mpr ?_
  exact ⟨by simp [tf, g, g3], rfl⟩
def ahS (N : NV) (a b : Nat) : Bool := if N (10 + 6 * a) = N (10 + 6 * b) then decide (N (7 + 6 * b) < N (7 + 6 * a)) else decide (N (10 + 6 * a) < N (10 + 6 * b))
theorem k_isAheadOf (hi : i < 12) (hP : PR S i N) (hw : WF N) {a b : Nat} (ha : a < cO N) (hb : b < cO N) : Ret d 11 [vR 4 i a, vR 4 i b] S (some (vI (tf (ahS N a b)))) S := by
  have h8 := hw.1.2.1
  have b4 := bk4 (o := a) hi (by omega)
  have b4' := bk4 (o := b) hi (by omega)
  obtain ⟨⟨o0, o1, o2, o3, o4, o5⟩, -, -⟩ := P_o hP ha
  obtain ⟨⟨p0, p1, p2, p3, p4, p5⟩, -, -⟩ := P_o hP hb
  refine E_11 ?_
  refine (B_11_0 b4 b4').mpr ?_
  rw [o4, p4]
  unfold ahS
  refine ic (fun g => ?_) (fun g => ?_)
  · refine (B_11_30 b4 b4').mpr ?_
    rw [o1, p1]
    refine ic (fun g2 => ?_) (fun g2 => ?_)
    · refine (B_11_45).mpr ?_
      refine (B_11_46 (Or.inl rfl)).mpr ?_
      exact ⟨by simp [tf, g, Int32.not_lt.mpr g2], rfl⟩
    refine (B_11_41).mpr ?_
    refine (B_11_46 (Or.inr rfl)).mpr ?_
    exact ⟨by simp [tf, g, Int32.not_le.mp g2], rfl⟩
  refine (B_11_11 b4 b4').mpr ?_
  rw [o4, p4]
  refine ic (fun g2 => ?_) (fun g2 => ?_)
  · refine (B_11_26).mpr ?_
    refine (B_11_46 (Or.inl rfl)).mpr ?_
    exact ⟨by simp [tf, g, Int32.not_lt.mpr g2], rfl⟩
  refine (B_11_22).mpr ?_
  refine (B_11_46 (Or.inr rfl)).mpr ?_
  exact ⟨by simp [tf, g, Int32.not_le.mp g2], rfl⟩
theorem ahS_ah (N : NV) (a b : Nat) : aAhead N a b = (ahS N a b || (!ahS N b a && decide (a < b))) := by
  unfold aAhead ahS
  by_cases h1 : N (10 + 6 * a) = N (10 + 6 * b)
  · rw [if_pos h1, if_pos h1, if_pos h1.symm]
    by_cases h2 : N (7 + 6 * a) = N (7 + 6 * b)
    · rw [if_pos h2, h2]
      simp [Int32.lt_irrefl]
    · rw [if_neg h2]
      by_cases h3 : N (7 + 6 * b) < N (7 + 6 * a)
      · simp [h3]
      · have h4 : N (7 + 6 * a) < N (7 + 6 * b) := Int32.lt_of_le_of_ne (Int32.not_lt.mp h3) h2
        simp [h3, h4]
  · rw [if_neg h1, if_neg h1, if_neg (fun q => h1 q.symm)]
    by_cases h3 : N (10 + 6 * a) < N (10 + 6 * b)
    · simp [h3]
    · have h4 : N (10 + 6 * b) < N (10 + 6 * a) := Int32.lt_of_le_of_ne (Int32.not_lt.mp h3) (fun q => h1 q.symm)
      simp [h3, h4]
theorem k_rankOf (hi : i < 12) (hP : PR S i N) (hw : WF N) (hd : 1 ≤ d) {o : Nat} (ho : o < cO N) : Ret d 25 [vR 1 i 0, vI (nI o)] S (some (vI (aRank N o))) S := by
  have h8 := hw.1.2.1
  refine E_25 ?_
  refine (B_25_0).mpr ?_
  refine wloopI (cO N) (fun m ls T => T = S ∧ ∃ w4 w5, ls = [some (vR 1 i 0), some (vI (nI o)), some (vI (sumTo (fun a => tf (aAhead N a o)) m)), some (vI (nI m)), w4, w5]) ?_ ?_ ⟨rfl, none, none, rfl⟩
  · rintro ls T ⟨rfl, w4, w5, rfl⟩
    refine (B_25_4 (bk1 hi)).mpr ?_
    rw [if_pos (by rw [P_4 hP hw]; exact Int32.le_refl _)]
    refine (B_25_70).mpr ?_
    exact ⟨rfl, rfl⟩
  · rintro m hm ls T ⟨rfl, w4, w5, rfl⟩ hn
    refine (B_25_4 (bk1 hi)).mpr ?_
    rw [if_neg (by rw [P_4 hP hw, qI_le (by omega) (by omega)]; omega)]
    refine (B_25_12 (n1_ := m) (n2_ := o) (by omega) (bk1 hi) rfl (by omega) (bk3 hi) rfl (by omega) (k_isAheadOf hi hP hw hm ho) (bk4 hi (by omega)) (k_isAheadOf hi hP hw ho hm) (bk4 hi (by omega))).mpr ?_
    have up : aAhead N m o = true → Wp d 25 61 [some (vR 1 i 0), some (vI (nI o)), some (vI (sumTo (fun a => tf (aAhead N a o)) m)), some (vI (nI m)), some (vI (tf (ahS N m o))), some (vI (tf (ahS N o m)))] [] T (fun r1 S1 => r1 = some (vI (aRank N o)) ∧ S1 = T) := by
      intro h
      refine (B_25_61).mpr ?_
      refine (B_25_64).mpr ?_
      rw [qI_succ]
      refine hn _ _ ⟨rfl, some (vI (tf (ahS N m o))), some (vI (tf (ahS N o m))), ?_⟩
      rw [sumTo, h]
      rfl
    have no : aAhead N m o = false → Wp d 25 64 [some (vR 1 i 0), some (vI (nI o)), some (vI (sumTo (fun a => tf (aAhead N a o)) m)), some (vI (nI m)), some (vI (tf (ahS N m o))), some (vI (tf (ahS N o m)))] [] T (fun r1 S1 => r1 = some (vI (aRank N o)) ∧ S1 = T) := by
      intro h
      refine (B_25_64).mpr ?_
      rw [qI_succ]
      refine hn _ _ ⟨rfl, some (vI (tf (ahS N m o))), some (vI (tf (ahS N o m))), ?_⟩
      rw [sumTo, h, show tf false = 0 from rfl, Int32.add_zero]
    have hah := ahS_ah N m o
    refine icb (fun g => ?_) (fun g => ?_)
    · refine (B_25_51).mpr ?_
      rw [g, Bool.false_or] at hah
      rotate_left
      refine icb (fun g2 => ?_) (fun g2 => ?_)
      · refine (B_25_56).mpr ?_
        rw [g2] at hah
        refine icT (qI_le (by omega) (by omega)) (fun g3 => ?_) (fun g3 => ?_)
        · exact no (by rw [hah]; simp; omega)
        exact up (by rw [hah]; simp; omega)
      rw [g2] at hah
      exact no hah
    exact up (by rw [hah, g]; rfl)
end M16a
