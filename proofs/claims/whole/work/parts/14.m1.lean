/-! THE MODEL's methods, one contract each, 1: what reads the row -/
section M1
variable {d : Nat} {S : bSt}
theorem c_isIn {x0 x1 x2 : Int32} : Ret d 137 [vI x0, vI x1, vI x2] S (some (vI (tf (decide (x1 ≤ x0) && decide (x0 ≤ x2))))) S := by
  refine E_137 ?_
  refine (B_137_0).mpr ?_
  by_cases h1 : x0 < x1
  · rw [if_pos h1]
    refine (B_137_14).mpr ?_
    refine (B_137_15 (Or.inl rfl)).mpr ?_
    have : ¬ x1 ≤ x0 := Int32.not_le.mpr h1
    exact ⟨by simp [tf, this], rfl⟩
  · rw [if_neg h1]
    refine (B_137_5).mpr ?_
    have h1' : x1 ≤ x0 := Int32.not_lt.mp h1
    by_cases h2 : x2 < x0
    · rw [if_pos h2]
      refine (B_137_14).mpr ?_
      refine (B_137_15 (Or.inl rfl)).mpr ?_
      have : ¬ x0 ≤ x2 := Int32.not_le.mpr h2
      exact ⟨by simp [tf, this], rfl⟩
    · rw [if_neg h2]
      refine (B_137_10).mpr ?_
      refine (B_137_15 (Or.inr rfl)).mpr ?_
      have : x0 ≤ x2 := Int32.not_lt.mp h2
      exact ⟨by simp [tf, this, h1'], rfl⟩
theorem c_o {x1 x2 : Int32} {n : Nat} (h : 6 + 6 * x1 + x2 = nI n) (hn : n < 282) : Ret d 141 [vR 40 0 0, vI x1, vI x2] S (some (vI (S 41 0 0 n))) S := by
  refine E_141 ?_
  refine (B_141_0 h hn).mpr ?_
  exact ⟨rfl, rfl⟩
theorem c_r {x1 x2 : Int32} {n : Nat} (h : 54 + 3 * x1 + x2 = nI n) (hn : n < 282) : Ret d 142 [vR 40 0 0, vI x1, vI x2] S (some (vI (S 41 0 0 n))) S := by
  refine E_142 ?_
  refine (B_142_0 h hn).mpr ?_
  exact ⟨rfl, rfl⟩
theorem c_u {x1 x2 : Int32} {n : Nat} (h : 90 + 12 * x1 + x2 = nI n) (hn : n < 282) : Ret d 143 [vR 40 0 0, vI x1, vI x2] S (some (vI (S 41 0 0 n))) S := by
  refine E_143 ?_
  refine (B_143_0 h hn).mpr ?_
  exact ⟨rfl, rfl⟩
theorem c_strips (hd : 1 ≤ d) {x1 x2 : Int32} {n : Nat} (h : 94 + 12 * x1 + x2 = nI n) (hn : n < 282) : Ret d 144 [vR 40 0 0, vI x1, vI x2] S (some (vI (S 41 0 0 n))) S := by
  refine E_144 ?_
  refine (B_144_0 (by omega) (c_u (n := n) (by rw [← h]; grind) hn)).mpr ?_
  exact ⟨rfl, rfl⟩
theorem c_isOrder (hd : 1 ≤ d) {x1 : Int32} : Ret d 145 [vR 40 0 0, vI x1] S (some (vI (tf (decide (0 ≤ x1) && decide (x1 ≤ S 41 0 0 3 - 1))))) S := by
  refine E_145 ?_
  refine (B_145_0 (by omega) c_isIn (tf_01 _)).mpr ?_
  exact ⟨rfl, rfl⟩
theorem c_isRoll (hd : 1 ≤ d) {x1 : Int32} : Ret d 146 [vR 40 0 0, vI x1] S (some (vI (tf (decide (0 ≤ x1) && decide (x1 ≤ S 41 0 0 4 - 1))))) S := by
  refine E_146 ?_
  refine (B_146_0 (by omega) c_isIn (tf_01 _)).mpr ?_
  exact ⟨rfl, rfl⟩
theorem c_isRun (hd : 1 ≤ d) {x1 : Int32} : Ret d 147 [vR 40 0 0, vI x1] S (some (vI (tf (decide (0 ≤ x1) && decide (x1 ≤ S 41 0 0 5 - 1))))) S := by
  refine E_147 ?_
  refine (B_147_0 (by omega) c_isIn (tf_01 _)).mpr ?_
  exact ⟨rfl, rfl⟩
theorem c_madeFor (hd : 2 ≤ d) {o : Nat} (ho : o < 8) (hw : cW (S 41 0 0)) : Ret d 148 [vR 40 0 0, vI (nI o)] S (some (vI (aMade (S 41 0 0) o))) S := by
  obtain ⟨-, -, -, -, h5, hc⟩ := hw
  refine E_148 ?_
  refine (B_148_0).mpr ?_
  refine wloop (cU (S 41 0 0)) (fun m => [some (vR 40 0 0), some (vI (nI o)), some (vI (sumTo (fun u => S 41 0 0 (94 + 12 * u + o) * S 41 0 0 (91 + 12 * u)) m)), some (vI (nI m))]) (fun _ => S) ?_ ?_
  · refine (B_148_4).mpr ?_
    rw [if_pos (by rw [h5]; exact Int32.le_refl _)]
    refine (B_148_36).mpr ?_
    exact ⟨rfl, rfl⟩
  · intro m hm hn
    refine (B_148_4).mpr ?_
    rw [if_neg (by rw [h5, qI_le (by omega) (by omega)]; omega)]
    refine (B_148_14 (by omega) (c_strips (n := 94 + 12 * m + o) (by omega) (by first | rfl | (simp only [qI_add, qI_mul, qI_lits]; done) | (simp only [qI_add, qI_mul, qI_lits]; grind)) (by omega)) (c_u (n := 91 + 12 * m) (by first | rfl | (simp only [qI_add, qI_mul, qI_lits]; done) | (simp only [qI_add, qI_mul, qI_lits]; grind)) (by omega))).mpr ?_
    rw [qI_succ]
    exact hn
theorem c_allowance (hd : 1 ≤ d) {o : Nat} (ho : o < 8) : Ret d 149 [vR 40 0 0, vI (nI o)] S (some (vI (aAlw (S 41 0 0) o))) S := by
  refine E_149 ?_
  refine (B_149_0 (by omega) (c_o (n := 8 + 6 * o) (by first | rfl | (simp only [qI_add, qI_mul, qI_lits]; done) | (simp only [qI_add, qI_mul, qI_lits]; grind)) (by omega)) (c_o (n := 9 + 6 * o) (by first | rfl | (simp only [qI_add, qI_mul, qI_lits]; done) | (simp only [qI_add, qI_mul, qI_lits]; grind)) (by omega))).mpr ?_
  exact ⟨rfl, rfl⟩
end M1
