/-! THE MODEL's methods, 2: orders and rolls -/
section M2
variable {d : Nat} {S : bSt}
theorem c_leastOf (hd : 2 ≤ d) {o : Nat} (ho : o < 8) : Ret d 150 [vR 40 0 0, vI (nI o)] S (some (vI (aLeast (S 41 0 0) o))) S := by
  refine E_150 ?_
  refine (B_150_0 (by omega) (c_o (n := 8 + 6 * o) (by first | rfl | (simp only [qI_add, qI_mul, qI_lits]; done) | (simp only [qI_add, qI_mul, qI_lits]; grind)) (by omega)) (c_allowance (by omega) ho)).mpr ?_
  exact ⟨rfl, rfl⟩
theorem c_roomOf (hd : 3 ≤ d) {o : Nat} (ho : o < 8) (hw : cW (S 41 0 0)) : Ret d 151 [vR 40 0 0, vI (nI o)] S (some (vI (aRoom (S 41 0 0) o))) S := by
  refine E_151 ?_
  refine (B_151_0 (by omega) (c_o (n := 8 + 6 * o) (by first | rfl | (simp only [qI_add, qI_mul, qI_lits]; done) | (simp only [qI_add, qI_mul, qI_lits]; grind)) (by omega)) (c_allowance (by omega) ho) (c_madeFor (by omega) ho hw)).mpr ?_
  exact ⟨rfl, rfl⟩
theorem c_isMet (hd : 3 ≤ d) {o : Nat} (ho : o < 8) (hw : cW (S 41 0 0)) : Ret d 152 [vR 40 0 0, vI (nI o)] S (some (vI (tf (aMet (S 41 0 0) o)))) S := by
  refine E_152 ?_
  refine (B_152_0 (by omega) (c_madeFor (by omega) ho hw) (c_leastOf (by omega) ho)).mpr ?_
  by_cases h : aMade (S 41 0 0) o < aLeast (S 41 0 0) o
  · rw [if_pos h]
    refine (B_152_17).mpr ?_
    refine (B_152_18 (Or.inl rfl)).mpr ?_
    have : ¬ aLeast (S 41 0 0) o ≤ aMade (S 41 0 0) o := Int32.not_le.mpr h
    exact ⟨by simp [tf, aMet, this], rfl⟩
  · rw [if_neg h]
    refine (B_152_13).mpr ?_
    refine (B_152_18 (Or.inr rfl)).mpr ?_
    have : aLeast (S 41 0 0) o ≤ aMade (S 41 0 0) o := Int32.not_lt.mp h
    exact ⟨by simp [tf, aMet, this], rfl⟩
theorem c_isWanting (hd : 3 ≤ d) {o : Nat} (ho : o < 8) (hw : cW (S 41 0 0)) : Ret d 153 [vR 40 0 0, vI (nI o)] S (some (vI (tf (aWant (S 41 0 0) o)))) S := by
  refine E_153 ?_
  refine (B_153_0 (by omega) (c_madeFor (by omega) ho hw) (c_o (n := 8 + 6 * o) (by first | rfl | (simp only [qI_add, qI_mul, qI_lits]; done) | (simp only [qI_add, qI_mul, qI_lits]; grind)) (by omega))).mpr ?_
  by_cases h : S 41 0 0 (8 + 6 * o) ≤ aMade (S 41 0 0) o
  · rw [if_pos h]
    refine (B_153_18).mpr ?_
    refine (B_153_19 (Or.inl rfl)).mpr ?_
    have : ¬ aMade (S 41 0 0) o < S 41 0 0 (8 + 6 * o) := Int32.not_lt.mpr h
    exact ⟨by simp [tf, aWant, this], rfl⟩
  · rw [if_neg h]
    refine (B_153_14).mpr ?_
    refine (B_153_19 (Or.inr rfl)).mpr ?_
    have : aMade (S 41 0 0) o < S 41 0 0 (8 + 6 * o) := Int32.not_le.mp h
    exact ⟨by simp [tf, aWant, this], rfl⟩
theorem c_leftOf (hd : 1 ≤ d) {r : Nat} (hr : r < 12) (hw : cW (S 41 0 0)) : Ret d 154 [vR 40 0 0, vI (nI r)] S (some (vI (aLeft (S 41 0 0) r))) S := by
  obtain ⟨-, -, -, -, h5, hc⟩ := hw
  refine E_154 ?_
  refine (B_154_0 (by omega) (c_r (n := 56 + 3 * r) (by first | rfl | (simp only [qI_add, qI_mul, qI_lits]; done) | (simp only [qI_add, qI_mul, qI_lits]; grind)) (by omega))).mpr ?_
  refine wloop (cU (S 41 0 0)) (fun m => [some (vR 40 0 0), some (vI (nI r)), some (vI (subTo (S 41 0 0 (56 + 3 * r)) (fun u => if S 41 0 0 (90 + 12 * u) = nI r then S 41 0 0 (91 + 12 * u) else 0) m)), some (vI (nI m))]) (fun _ => S) ?_ ?_
  · refine (B_154_9).mpr ?_
    rw [if_pos (by rw [h5]; exact Int32.le_refl _)]
    refine (B_154_48).mpr ?_
    exact ⟨rfl, rfl⟩
  · intro m hm hn
    refine (B_154_9).mpr ?_
    rw [if_neg (by rw [h5, qI_le (by omega) (by omega)]; omega)]
    refine (B_154_19 (by omega) (c_u (n := 90 + 12 * m) (by first | rfl | (simp only [qI_add, qI_mul, qI_lits]; done) | (simp only [qI_add, qI_mul, qI_lits]; grind)) (by omega))).mpr ?_
    by_cases h : S 41 0 0 (90 + 12 * m) = nI r
    · rw [if_pos h]
      refine (B_154_30 (by omega) (c_u (n := 91 + 12 * m) (by first | rfl | (simp only [qI_add, qI_mul, qI_lits]; done) | (simp only [qI_add, qI_mul, qI_lits]; grind)) (by omega))).mpr ?_
      refine (B_154_40).mpr ?_
      simpa only [subTo, h, if_true, qI_succ] using hn
    · rw [if_neg h]
      refine (B_154_39).mpr ?_
      refine (B_154_40).mpr ?_
      simpa only [subTo, h, if_false, qI_succ] using hn
theorem c_canUse (hd : 1 ≤ d) {r o : Nat} (hr : r < 12) (ho : o < 8) : Ret d 155 [vR 40 0 0, vI (nI r), vI (nI o)] S (some (vI (tf (aCan (S 41 0 0) r o)))) S := by
  refine E_155 ?_
  refine (B_155_0 (by omega) (c_r (n := 54 + 3 * r) (by first | rfl | (simp only [qI_add, qI_mul, qI_lits]; done) | (simp only [qI_add, qI_mul, qI_lits]; grind)) (by omega)) (c_o (n := 6 + 6 * o) (by first | rfl | (simp only [qI_add, qI_mul, qI_lits]; done) | (simp only [qI_add, qI_mul, qI_lits]; grind)) (by omega))).mpr ?_
  by_cases h : S 41 0 0 (54 + 3 * r) = S 41 0 0 (6 + 6 * o)
  · rw [if_pos h]
    refine (B_155_40).mpr ?_
    refine (B_155_45 (Or.inr rfl)).mpr ?_
    exact ⟨by simp [tf, aCan, h], rfl⟩
  · rw [if_neg h]
    refine (B_155_15 (by omega) (c_r (n := 54 + 3 * r) (by first | rfl | (simp only [qI_add, qI_mul, qI_lits]; done) | (simp only [qI_add, qI_mul, qI_lits]; grind)) (by omega)) (c_o (n := 6 + 6 * o) (by first | rfl | (simp only [qI_add, qI_mul, qI_lits]; done) | (simp only [qI_add, qI_mul, qI_lits]; grind)) (by omega))).mpr ?_
    by_cases h2 : S 41 0 0 (6 + 6 * o) ≤ S 41 0 0 (54 + 3 * r)
    · rw [if_pos h2]
      refine (B_155_44).mpr ?_
      refine (B_155_45 (Or.inl rfl)).mpr ?_
      have := Int32.not_lt.mpr h2
      exact ⟨by simp [tf, aCan, h, this], rfl⟩
    · rw [if_neg h2]
      refine (B_155_30 (by omega) (c_o (n := 11 + 6 * o) (by first | rfl | (simp only [qI_add, qI_mul, qI_lits]; done) | (simp only [qI_add, qI_mul, qI_lits]; grind)) (by omega))).mpr ?_
      have h2' := Int32.not_le.mp h2
      by_cases h3 : S 41 0 0 (11 + 6 * o) = 1
      · rw [if_pos h3]
        refine (B_155_40).mpr ?_
        refine (B_155_45 (Or.inr rfl)).mpr ?_
        exact ⟨by simp [tf, aCan, h2', h3], rfl⟩
      · rw [if_neg h3]
        refine (B_155_44).mpr ?_
        refine (B_155_45 (Or.inl rfl)).mpr ?_
        exact ⟨by simp [tf, aCan, h, h3], rfl⟩
theorem aRem_go {N : NV} {x : Int32} {k c : Nat} (hc : c ≤ 16) {u n : Nat} (hn : u + n = c) {Q : Option bV → bSt → Prop} {d : Nat} {S : bSt} (hd : 1 ≤ d) (hN : S 41 0 0 = N) (h5 : N 5 = nI c) (h : Q (some (vI (aRemFrom N x u n))) S) : Wp d 156 2 [some (vR 40 0 0), some (vI x), some (vI (nI u))] [] S Q := by
  subst hN
  induction n generalizing u with
  | zero =>
    refine (B_156_2).mpr ?_
    rw [if_pos (by rw [h5, qI_le (by omega) (by omega)]; omega)]
    refine (B_156_30).mpr ?_
    exact h
  | succ n ih =>
    refine (B_156_2).mpr ?_
    rw [if_neg (by rw [h5, qI_le (by omega) (by omega)]; omega)]
    refine (B_156_12 (by omega) (c_u (n := 93 + 12 * u) (by first | rfl | (simp only [qI_add, qI_mul, qI_lits]; done) | (simp only [qI_add, qI_mul, qI_lits]; grind)) (by omega))).mpr ?_
    unfold aRemFrom at h
    by_cases hx : S 41 0 0 (93 + 12 * u) = x
    · rw [if_pos hx] at h ⊢
      refine (B_156_22).mpr ?_
      exact h
    · rw [if_neg hx] at h ⊢
      refine (B_156_24).mpr ?_
      rw [qI_succ]
      exact ih (by omega) h
theorem c_remnantOf (hd : 1 ≤ d) {r : Nat} (hw : cW (S 41 0 0)) : Ret d 156 [vR 40 0 0, vI (nI r)] S (some (vI (aRem (S 41 0 0) r))) S := by
  obtain ⟨-, -, -, -, h5, hc⟩ := hw
  refine E_156 ?_
  refine (B_156_0).mpr ?_
  exact aRem_go (k := 0) (c := cU (S 41 0 0)) hc (u := 0) (by omega) hd rfl h5 ⟨rfl, rfl⟩
theorem c_runsFor (hd : 2 ≤ d) {o : Nat} (ho : o < 8) (hw : cW (S 41 0 0)) : Ret d 164 [vR 40 0 0, vI (nI o)] S (some (vI (aRunsFor (S 41 0 0) o))) S := by
  obtain ⟨-, -, -, -, h5, hc⟩ := hw
  refine E_164 ?_
  refine (B_164_0).mpr ?_
  refine wloop (cU (S 41 0 0)) (fun m => [some (vR 40 0 0), some (vI (nI o)), some (vI (sumTo (fun u => if 0 < S 41 0 0 (94 + 12 * u + o) then 1 else 0) m)), some (vI (nI m))]) (fun _ => S) ?_ ?_
  · refine (B_164_4).mpr ?_
    rw [if_pos (by rw [h5]; exact Int32.le_refl _)]
    refine (B_164_37).mpr ?_
    exact ⟨rfl, rfl⟩
  · intro m hm hn
    refine (B_164_4).mpr ?_
    rw [if_neg (by rw [h5, qI_le (by omega) (by omega)]; omega)]
    refine (B_164_14 (by omega) (c_strips (n := 94 + 12 * m + o) (by omega) (by first | rfl | (simp only [qI_add, qI_mul, qI_lits]; done) | (simp only [qI_add, qI_mul, qI_lits]; grind)) (by omega))).mpr ?_
    by_cases h : S 41 0 0 (94 + 12 * m + o) ≤ 0
    · rw [if_pos h]
      refine (B_164_28).mpr ?_
      refine (B_164_29).mpr ?_
      have h' := Int32.not_lt.mpr h
      simpa only [sumTo, h', if_false, qI_succ] using hn
    · rw [if_neg h]
      refine (B_164_24).mpr ?_
      refine (B_164_29).mpr ?_
      have h' := Int32.not_le.mp h
      simpa only [sumTo, h', if_true, qI_succ] using hn
theorem c_runsOf (hd : 1 ≤ d) {r : Nat} (hw : cW (S 41 0 0)) : Ret d 166 [vR 40 0 0, vI (nI r)] S (some (vI (aRunsOf (S 41 0 0) r))) S := by
  obtain ⟨-, -, -, -, h5, hc⟩ := hw
  refine E_166 ?_
  refine (B_166_0).mpr ?_
  refine wloop (cU (S 41 0 0)) (fun m => [some (vR 40 0 0), some (vI (nI r)), some (vI (sumTo (fun u => if S 41 0 0 (90 + 12 * u) = nI r then 1 else 0) m)), some (vI (nI m))]) (fun _ => S) ?_ ?_
  · refine (B_166_4).mpr ?_
    rw [if_pos (by rw [h5]; exact Int32.le_refl _)]
    refine (B_166_38).mpr ?_
    exact ⟨rfl, rfl⟩
  · intro m hm hn
    refine (B_166_4).mpr ?_
    rw [if_neg (by rw [h5, qI_le (by omega) (by omega)]; omega)]
    refine (B_166_14 (by omega) (c_u (n := 90 + 12 * m) (by first | rfl | (simp only [qI_add, qI_mul, qI_lits]; done) | (simp only [qI_add, qI_mul, qI_lits]; grind)) (by omega))).mpr ?_
    by_cases h : S 41 0 0 (90 + 12 * m) = nI r
    · rw [if_pos h]
      refine (B_166_25).mpr ?_
      refine (B_166_30).mpr ?_
      simpa only [sumTo, h, if_true, qI_succ] using hn
    · rw [if_neg h]
      refine (B_166_29).mpr ?_
      refine (B_166_30).mpr ?_
      simpa only [sumTo, h, if_false, qI_succ] using hn
end M2
