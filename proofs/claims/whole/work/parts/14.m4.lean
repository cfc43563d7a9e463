/-! THE MODEL's methods, 4: orders and rolls come in; the ranking; explain -/
section M4
variable {d : Nat} {S : bSt}
def chg (S : bSt) (r : Int32) (c : Nat) : bSt := if r < 0 then S else sRem S c
theorem c_changed (hd : 1 ≤ d) {r : Int32} {c : Nat} (hc : c ≤ 8) (h2 : S 40 0 0 2 = nI c) : Ret d 161 [vR 40 0 0, vI r] S (some (vI r)) (chg S r c) := by
  refine E_161 ?_
  refine (B_161_0).mpr ?_
  unfold chg
  by_cases h : r < 0
  · rw [if_pos h, if_pos h]
    refine (B_161_8).mpr ?_
    exact ⟨rfl, rfl⟩
  · rw [if_neg h, if_neg h]
    refine (B_161_4 (by omega) (c_remember hc h2)).mpr ?_
    refine (B_161_8).mpr ?_
    exact ⟨rfl, rfl⟩
theorem c_comesRoll (h4 : S 41 0 0 4 = nI (cR (S 41 0 0))) (hc : cR (S 41 0 0) < 12) {x1 x2 x3 : Int32} : Ret d 159 [vR 40 0 0, vI x1, vI x2, vI x3] S (some (vI (S 41 0 0 4))) (sN S (nRoll (S 41 0 0) x1 x2 x3)) := by
  refine E_159 ?_
  generalize hcR : cR (S 41 0 0) = b at h4 hc
  refine (B_159_0 (n1_ := 54 + 3 * b) (n2_ := 55 + 3 * b) (n3_ := 56 + 3 * b) (by rw [h4]; first | rfl | (simp only [qI_add, qI_mul, qI_lits]; done) | (simp only [qI_add, qI_mul, qI_lits]; grind)) (by omega) (by rw [h4]; first | rfl | (simp only [qI_add, qI_mul, qI_lits]; done) | (simp only [qI_add, qI_mul, qI_lits]; grind)) (by omega) (by rw [h4]; first | rfl | (simp only [qI_add, qI_mul, qI_lits]; done) | (simp only [qI_add, qI_mul, qI_lits]; grind)) (by omega)).mpr ?_
  simp only [sUp_sN0, sUp_sN, sN_41, sN_sN]
  have e : ∀ y, upd (upd (upd (S 41 0 0) (54 + 3 * b) x1) (55 + 3 * b) x2) (56 + 3 * b) y 4 = S 41 0 0 4 := fun y => by
    simp [upd, show ¬ 4 = 56 + 3 * b by omega, show ¬ 4 = 55 + 3 * b by omega, show ¬ 4 = 54 + 3 * b by omega]
  rw [e]
  refine ⟨?_, ?_⟩
  · rw [show ∀ f y, upd f 4 y 4 = y from fun f y => by simp [upd]]
    congr 2
    grind
  · unfold nRoll
    rw [hcR]
theorem inR_tf (x a b : Int32) : tf (decide (a ≤ x) && decide (x ≤ b)) = tf (inR x a b) := rfl
theorem tf_0 {b : Bool} : tf b = 0 ↔ b = false := by cases b <;> simp [tf]
theorem c_layOrder (hd : 1 ≤ d) (hw : cW (S 41 0 0)) {x1 x2 x3 x4 x5 x6 : Int32} : Ret d 158 [vR 40 0 0, vI x1, vI x2, vI x3, vI x4, vI x5, vI x6] S (some (vI (aLayO (S 41 0 0) x1 x2 x3 x4 x5 x6).1)) (sN S (aLayO (S 41 0 0) x1 x2 x3 x4 x5 x6).2) := by
  obtain ⟨h3, hc, -⟩ := hw
  refine E_158 ?_
  have bad : okOrd x1 x2 x3 x4 x5 x6 = false → Wp d 158 64 [some (vR 40 0 0), some (vI x1), some (vI x2), some (vI x3), some (vI x4), some (vI x5), some (vI x6), none] [] S (fun r1 S1 => r1 = some (vI (aLayO (S 41 0 0) x1 x2 x3 x4 x5 x6).1) ∧ S1 = sN S (aLayO (S 41 0 0) x1 x2 x3 x4 x5 x6).2) := by
    intro h
    refine (B_158_64).mpr ?_
    unfold aLayO
    rw [if_neg (by rw [h]; decide)]
    exact ⟨rfl, (sN_id S).symm⟩
  refine (B_158_0 (by omega) c_isIn).mpr ?_
  rw [inR_tf]
  by_cases g1' : inR x1 0 3 = false
  · rw [if_pos (tf_0.mpr g1')]
    exact bad (by simp [okOrd, g1'])
  have g1 : inR x1 0 3 = true := by simpa using g1'
  rw [if_neg (by rw [tf_0, g1]; decide)]
  refine (B_158_9 (by omega) c_isIn).mpr ?_
  rw [inR_tf]
  by_cases g2' : inR x2 10 150 = false
  · rw [if_pos (tf_0.mpr g2')]
    exact bad (by simp [okOrd, g2'])
  have g2 : inR x2 10 150 = true := by simpa using g2'
  rw [if_neg (by rw [tf_0, g2]; decide)]
  refine (B_158_21 (by omega) c_isIn).mpr ?_
  rw [inR_tf]
  by_cases g3' : inR x3 1 999 = false
  · rw [if_pos (tf_0.mpr g3')]
    exact bad (by simp [okOrd, g3'])
  have g3 : inR x3 1 999 = true := by simpa using g3'
  rw [if_neg (by rw [tf_0, g3]; decide)]
  refine (B_158_32 (by omega) c_isIn).mpr ?_
  rw [inR_tf]
  by_cases g4' : inR x4 0 50 = false
  · rw [if_pos (tf_0.mpr g4')]
    exact bad (by simp [okOrd, g4'])
  have g4 : inR x4 0 50 = true := by simpa using g4'
  rw [if_neg (by rw [tf_0, g4]; decide)]
  refine (B_158_43 (by omega) c_isIn).mpr ?_
  rw [inR_tf]
  by_cases g5' : inR x5 0 99 = false
  · rw [if_pos (tf_0.mpr g5')]
    exact bad (by simp [okOrd, g5'])
  have g5 : inR x5 0 99 = true := by simpa using g5'
  rw [if_neg (by rw [tf_0, g5]; decide)]
  refine (B_158_54 (by omega) c_isIn).mpr ?_
  rw [inR_tf]
  by_cases g6' : inR x6 0 1 = false
  · rw [if_pos (tf_0.mpr g6')]
    exact bad (by simp [okOrd, g6'])
  have g6 : inR x6 0 1 = true := by simpa using g6'
  rw [if_neg (by rw [tf_0, g6]; decide)]
  have hok : okOrd x1 x2 x3 x4 x5 x6 = true := by simp [okOrd, g1, g2, g3, g4, g5, g6]
  refine (B_158_67).mpr ?_
  by_cases h8 : S 41 0 0 3 = 8
  · rw [if_pos h8]
    refine (B_158_78).mpr ?_
    unfold aLayO
    rw [if_pos hok, if_pos h8]
    exact ⟨rfl, (sN_id S).symm⟩
  · rw [if_neg h8]
    generalize hcO : cO (S 41 0 0) = b at h3 hc
    have hb : b < 8 := by
      rcases Nat.lt_or_ge b 8 with h | h
      · exact h
      · exact absurd (by rw [h3, show b = 8 by omega]; rfl) h8
    refine (B_158_81 (n1_ := 6 + 6 * b) (n2_ := 7 + 6 * b) (n3_ := 8 + 6 * b) (n4_ := 9 + 6 * b) (n5_ := 10 + 6 * b) (n6_ := 11 + 6 * b) (by rw [h3]; first | rfl | (simp only [qI_add, qI_mul, qI_lits]; done) | (simp only [qI_add, qI_mul, qI_lits]; grind)) (by omega) (by rw [h3]; first | rfl | (simp only [qI_add, qI_mul, qI_lits]; done) | (simp only [qI_add, qI_mul, qI_lits]; grind)) (by omega) (by rw [h3]; first | rfl | (simp only [qI_add, qI_mul, qI_lits]; done) | (simp only [qI_add, qI_mul, qI_lits]; grind)) (by omega) (by rw [h3]; first | rfl | (simp only [qI_add, qI_mul, qI_lits]; done) | (simp only [qI_add, qI_mul, qI_lits]; grind)) (by omega) (by rw [h3]; first | rfl | (simp only [qI_add, qI_mul, qI_lits]; done) | (simp only [qI_add, qI_mul, qI_lits]; grind)) (by omega) (by rw [h3]; first | rfl | (simp only [qI_add, qI_mul, qI_lits]; done) | (simp only [qI_add, qI_mul, qI_lits]; grind)) (by omega)).mpr ?_
    simp only [sUp_sN0, sUp_sN, sN_41, sN_sN]
    have e : upd (upd (upd (upd (upd (upd (S 41 0 0) (6 + 6 * b) x1) (7 + 6 * b) x2) (8 + 6 * b) x3) (9 + 6 * b) x4) (10 + 6 * b) x5) (11 + 6 * b) x6 3 = S 41 0 0 3 := by
      simp [upd, show ¬ 3 = 6 + 6 * b by omega, show ¬ 3 = 7 + 6 * b by omega, show ¬ 3 = 8 + 6 * b by omega, show ¬ 3 = 9 + 6 * b by omega, show ¬ 3 = 10 + 6 * b by omega, show ¬ 3 = 11 + 6 * b by omega]
    rw [e]
    unfold aLayO
    rw [if_pos hok, if_neg h8]
    refine ⟨?_, ?_⟩
    · rw [show ∀ f y, upd f 3 y 3 = y from fun f y => by simp [upd]]
      congr 2
      grind
    · show _ = sN S (nOrder _ _ _ _ _ _ _)
      unfold nOrder
      rw [hcO]
theorem c_layRoll (hd : 1 ≤ d) (hw : cW (S 41 0 0)) {x1 x2 x3 : Int32} : Ret d 160 [vR 40 0 0, vI x1, vI x2, vI x3] S (some (vI (aLayR (S 41 0 0) x1 x2 x3).1)) (sN S (aLayR (S 41 0 0) x1 x2 x3).2) := by
  obtain ⟨-, -, h4, hc, -⟩ := hw
  refine E_160 ?_
  have bad : okRoll x1 x2 x3 = false → Wp d 160 32 [some (vR 40 0 0), some (vI x1), some (vI x2), some (vI x3)] [] S (fun r1 S1 => r1 = some (vI (aLayR (S 41 0 0) x1 x2 x3).1) ∧ S1 = sN S (aLayR (S 41 0 0) x1 x2 x3).2) := by
    intro h
    refine (B_160_32).mpr ?_
    unfold aLayR
    rw [if_neg (by rw [h]; decide)]
    exact ⟨rfl, (sN_id S).symm⟩
  refine (B_160_0 (by omega) c_isIn).mpr ?_
  rw [inR_tf]
  by_cases g1' : inR x1 0 3 = false
  · rw [if_pos (tf_0.mpr g1')]
    exact bad (by simp [okRoll, g1'])
  have g1 : inR x1 0 3 = true := by simpa using g1'
  rw [if_neg (by rw [tf_0, g1]; decide)]
  refine (B_160_9 (by omega) c_isIn).mpr ?_
  rw [inR_tf]
  by_cases g2' : inR x2 50 300 = false
  · rw [if_pos (tf_0.mpr g2')]
    exact bad (by simp [okRoll, g2'])
  have g2 : inR x2 50 300 = true := by simpa using g2'
  rw [if_neg (by rw [tf_0, g2]; decide)]
  refine (B_160_21 (by omega) c_isIn).mpr ?_
  rw [inR_tf]
  by_cases g3' : inR x3 1 999 = false
  · rw [if_pos (tf_0.mpr g3')]
    exact bad (by simp [okRoll, g3'])
  have g3 : inR x3 1 999 = true := by simpa using g3'
  rw [if_neg (by rw [tf_0, g3]; decide)]
  have hok : okRoll x1 x2 x3 = true := by simp [okRoll, g1, g2, g3]
  refine (B_160_35).mpr ?_
  by_cases h8 : S 41 0 0 4 = 12
  · rw [if_pos h8]
    refine (B_160_46).mpr ?_
    refine (B_160_58).mpr ?_
    unfold aLayR
    rw [if_pos hok, if_pos h8]
    exact ⟨rfl, (sN_id S).symm⟩
  · rw [if_neg h8]
    have hb : cR (S 41 0 0) < 12 := by
      rcases Nat.lt_or_ge (cR (S 41 0 0)) 12 with h | h
      · exact h
      · exact absurd (by rw [h4, show cR (S 41 0 0) = 12 by omega]; rfl) h8
    refine (B_160_51 (by omega) (c_comesRoll h4 hb)).mpr ?_
    refine (B_160_58).mpr ?_
    unfold aLayR
    rw [if_pos hok, if_neg h8]
    exact ⟨rfl, rfl⟩
theorem sRow_41 (f : NV) (n : Nat) : sRow S 44 0 0 n f 41 0 0 = S 41 0 0 := sRow_k S f (by decide)
theorem c_addOrder (hd : 2 ≤ d) (hw : cW (S 41 0 0)) {c : Nat} (hc : c ≤ 8) (h2 : S 40 0 0 2 = nI c) {x1 x2 x3 x4 x5 x6 : Int32} : Ret d 162 [vR 40 0 0, vI x1, vI x2, vI x3, vI x4, vI x5, vI x6] S (some (vI (aLayO (S 41 0 0) x1 x2 x3 x4 x5 x6).1)) (chg (sN (sRow S 44 0 0 282 (S 41 0 0)) (aLayO (S 41 0 0) x1 x2 x3 x4 x5 x6).2) (aLayO (S 41 0 0) x1 x2 x3 x4 x5 x6).1 c) := by
  refine E_162 ?_
  have h := c_layOrder (d := d - 1) (S := sRow S 44 0 0 282 (S 41 0 0)) (by omega) (by rw [sRow_41]; exact hw) (x1 := x1) (x2 := x2) (x3 := x3) (x4 := x4) (x5 := x5) (x6 := x6)
  rw [sRow_41] at h
  refine (B_162_0 (by omega) c_keepBefore h (c_changed (by omega) hc (by rw [sN_k _ _ (by decide), sRow_k _ _ (by decide)]; exact h2))).mpr ?_
  exact ⟨rfl, rfl⟩
theorem c_addRoll (hd : 2 ≤ d) (hw : cW (S 41 0 0)) {c : Nat} (hc : c ≤ 8) (h2 : S 40 0 0 2 = nI c) {x1 x2 x3 : Int32} : Ret d 163 [vR 40 0 0, vI x1, vI x2, vI x3] S (some (vI (aLayR (S 41 0 0) x1 x2 x3).1)) (chg (sN (sRow S 44 0 0 282 (S 41 0 0)) (aLayR (S 41 0 0) x1 x2 x3).2) (aLayR (S 41 0 0) x1 x2 x3).1 c) := by
  refine E_163 ?_
  have h := c_layRoll (d := d - 1) (S := sRow S 44 0 0 282 (S 41 0 0)) (by omega) (by rw [sRow_41]; exact hw) (x1 := x1) (x2 := x2) (x3 := x3)
  rw [sRow_41] at h
  refine (B_163_0 (by omega) c_keepBefore h (c_changed (by omega) hc (by rw [sN_k _ _ (by decide), sRow_k _ _ (by decide)]; exact h2))).mpr ?_
  exact ⟨rfl, rfl⟩
theorem c_isAhead (hd : 1 ≤ d) {a b : Nat} (ha : a < 8) (hb : b < 8) : Ret d 168 [vR 40 0 0, vI (nI a), vI (nI b)] S (some (vI (tf (aAhead (S 41 0 0) a b)))) S := by
  refine E_168 ?_
  refine (B_168_0 (by omega) (c_o (n := 10 + 6 * a) (by first | rfl | (simp only [qI_add, qI_mul, qI_lits]; done) | (simp only [qI_add, qI_mul, qI_lits]; grind)) (by omega)) (c_o (n := 10 + 6 * b) (by first | rfl | (simp only [qI_add, qI_mul, qI_lits]; done) | (simp only [qI_add, qI_mul, qI_lits]; grind)) (by omega))).mpr ?_
  unfold aAhead
  by_cases h1 : S 41 0 0 (10 + 6 * a) = S 41 0 0 (10 + 6 * b)
  · rw [if_pos h1, if_pos h1]
    refine (B_168_36 (by omega) (c_o (n := 7 + 6 * a) (by first | rfl | (simp only [qI_add, qI_mul, qI_lits]; done) | (simp only [qI_add, qI_mul, qI_lits]; grind)) (by omega)) (c_o (n := 7 + 6 * b) (by first | rfl | (simp only [qI_add, qI_mul, qI_lits]; done) | (simp only [qI_add, qI_mul, qI_lits]; grind)) (by omega))).mpr ?_
    by_cases h2 : S 41 0 0 (7 + 6 * a) = S 41 0 0 (7 + 6 * b)
    · rw [if_pos h2, if_pos h2]
      refine (B_168_74).mpr ?_
      by_cases h3 : a < b
      · rw [if_neg (by rw [qI_le (by omega) (by omega)]; omega)]
        refine (B_168_79).mpr ?_
        refine (B_168_84 (Or.inr rfl)).mpr ?_
        exact ⟨by simp [tf, h3], rfl⟩
      · rw [if_pos (by rw [qI_le (by omega) (by omega)]; omega)]
        refine (B_168_83).mpr ?_
        refine (B_168_84 (Or.inl rfl)).mpr ?_
        exact ⟨by simp [tf, h3], rfl⟩
    · rw [if_neg h2, if_neg h2]
      refine (B_168_51 (by omega) (c_o (n := 7 + 6 * a) (by first | rfl | (simp only [qI_add, qI_mul, qI_lits]; done) | (simp only [qI_add, qI_mul, qI_lits]; grind)) (by omega)) (c_o (n := 7 + 6 * b) (by first | rfl | (simp only [qI_add, qI_mul, qI_lits]; done) | (simp only [qI_add, qI_mul, qI_lits]; grind)) (by omega))).mpr ?_
      by_cases h3 : S 41 0 0 (7 + 6 * a) ≤ S 41 0 0 (7 + 6 * b)
      · rw [if_pos h3]
        refine (B_168_70).mpr ?_
        refine (B_168_84 (Or.inl rfl)).mpr ?_
        have := Int32.not_lt.mpr h3
        exact ⟨by simp [tf, this], rfl⟩
      · rw [if_neg h3]
        refine (B_168_66).mpr ?_
        refine (B_168_84 (Or.inr rfl)).mpr ?_
        have := Int32.not_le.mp h3
        exact ⟨by simp [tf, this], rfl⟩
  · rw [if_neg h1, if_neg h1]
    refine (B_168_15 (by omega) (c_o (n := 10 + 6 * a) (by first | rfl | (simp only [qI_add, qI_mul, qI_lits]; done) | (simp only [qI_add, qI_mul, qI_lits]; grind)) (by omega)) (c_o (n := 10 + 6 * b) (by first | rfl | (simp only [qI_add, qI_mul, qI_lits]; done) | (simp only [qI_add, qI_mul, qI_lits]; grind)) (by omega))).mpr ?_
    by_cases h3 : S 41 0 0 (10 + 6 * b) ≤ S 41 0 0 (10 + 6 * a)
    · rw [if_pos h3]
      refine (B_168_34).mpr ?_
      refine (B_168_35 (Or.inl rfl)).mpr ?_
      have := Int32.not_lt.mpr h3
      exact ⟨by simp [tf, this], rfl⟩
    · rw [if_neg h3]
      refine (B_168_30).mpr ?_
      refine (B_168_35 (Or.inr rfl)).mpr ?_
      have := Int32.not_le.mp h3
      exact ⟨by simp [tf, this], rfl⟩
theorem c_rnk_inner (hd : 2 ≤ d) (hw : cW (S 41 0 0)) {x1 : Int32} {o : Nat} (ho : o < 8) {u3 u4 : Option bV} {Q : Option bV → bSt → Prop} (h : Wp d 169 52 [some (vR 40 0 0), some (vI x1), some (vI (nI o)), some (vI (aRank (S 41 0 0) o)), some (vI (nI (cO (S 41 0 0))))] [] S Q) : Wp d 169 12 [some (vR 40 0 0), some (vI x1), some (vI (nI o)), u3, u4] [] S Q := by
  obtain ⟨h3, hc, -⟩ := hw
  refine (B_169_12).mpr ?_
  refine wloop (cO (S 41 0 0)) (fun m => [some (vR 40 0 0), some (vI x1), some (vI (nI o)), some (vI (sumTo (fun a => tf (aAhead (S 41 0 0) a o)) m)), some (vI (nI m))]) (fun _ => S) ?_ ?_
  · refine (B_169_17).mpr ?_
    rw [if_pos (by rw [h3]; exact Int32.le_refl _)]
    exact h
  · intro m hm hn
    refine (B_169_17).mpr ?_
    rw [if_neg (by rw [h3, qI_le (by omega) (by omega)]; omega)]
    refine (B_169_28 (by omega) (c_isAhead (by omega) (by omega) ho)).mpr ?_
    by_cases g : aAhead (S 41 0 0) m o = true
    · rw [if_neg (by rw [tf_0, g]; decide)]
      refine (B_169_39).mpr ?_
      refine (B_169_44).mpr ?_
      simpa only [sumTo, g, tf, if_true, qI_succ] using hn
    · have g' : aAhead (S 41 0 0) m o = false := by simpa using g
      rw [if_pos (by rw [tf_0]; exact g')]
      refine (B_169_43).mpr ?_
      refine (B_169_44).mpr ?_
      simpa only [sumTo, g', tf, Bool.false_eq_true, if_false, qI_succ] using hn
theorem c_rnk_go (hd : 2 ≤ d) (hw : cW (S 41 0 0)) {x1 : Int32} {o n : Nat} (hn : o + n = cO (S 41 0 0)) {u3 u4 : Option bV} {Q : Option bV → bSt → Prop} (h : Q (some (vI (aRnkFrom (S 41 0 0) x1 o n))) S) : Wp d 169 2 [some (vR 40 0 0), some (vI x1), some (vI (nI o)), u3, u4] [] S Q := by
  have hw' := hw
  obtain ⟨h3, hc, -⟩ := hw'
  induction n generalizing o u3 u4 with
  | zero =>
    refine (B_169_2).mpr ?_
    rw [if_pos (by rw [h3, qI_le (by omega) (by omega)]; omega)]
    refine (B_169_65).mpr ?_
    exact h
  | succ n ih =>
    refine (B_169_2).mpr ?_
    rw [if_neg (by rw [h3, qI_le (by omega) (by omega)]; omega)]
    refine c_rnk_inner hd hw (by omega) ?_
    refine (B_169_52).mpr ?_
    unfold aRnkFrom at h
    by_cases g : aRank (S 41 0 0) o = x1
    · rw [if_pos g] at h ⊢
      refine (B_169_57).mpr ?_
      exact h
    · rw [if_neg g] at h ⊢
      refine (B_169_59).mpr ?_
      rw [qI_succ]
      exact ih (by omega) h
theorem c_ranked (hd : 2 ≤ d) (hw : cW (S 41 0 0)) {x1 : Int32} : Ret d 169 [vR 40 0 0, vI x1] S (some (vI (aRnkFrom (S 41 0 0) x1 0 (cO (S 41 0 0))))) S := by
  refine E_169 ?_
  refine (B_169_0).mpr ?_
  exact c_rnk_go (o := 0) hd hw (by omega) ⟨rfl, rfl⟩
theorem c_knivesFor {x0 x1 : Int32} : Ret d 170 [vI x0, vI x1] S (some (vI (aKn x0 x1))) S := by
  refine E_170 ?_
  refine (B_170_0).mpr ?_
  unfold aKn
  by_cases h : x1 = 0
  · rw [if_pos h, if_pos h]
    refine (B_170_4).mpr ?_
    refine (B_170_13).mpr ?_
    exact ⟨rfl, rfl⟩
  · rw [if_neg h, if_neg h]
    refine (B_170_10).mpr ?_
    refine (B_170_13).mpr ?_
    exact ⟨rfl, rfl⟩
theorem c_isPossible (hd : 1 ≤ d) {x1 x2 : Int32} : Ret d 171 [vR 40 0 0, vI x1, vI x2] S (some (vI (tf (aPoss (S 41 0 0) x1 x2)))) S := by
  refine E_171 ?_
  have no : aPoss (S 41 0 0) x1 x2 = false → Wp d 171 34 [some (vR 40 0 0), some (vI x1), some (vI x2)] [] S (fun r1 S1 => r1 = some (vI (tf (aPoss (S 41 0 0) x1 x2))) ∧ S1 = S) := by
    intro h
    refine (B_171_34).mpr ?_
    refine (B_171_35 (Or.inl rfl)).mpr ?_
    rw [h]
    exact ⟨rfl, rfl⟩
  refine (B_171_0).mpr ?_
  by_cases h1 : x1 ≤ 0
  · rw [if_pos h1]
    exact no (by simp [aPoss, Int32.not_lt.mpr h1])
  rw [if_neg h1]
  refine (B_171_4).mpr ?_
  by_cases h2 : x2 < 2 * S 41 0 0 1
  · rw [if_pos h2]
    exact no (by simp [aPoss, Int32.not_le.mpr h2])
  rw [if_neg h2]
  refine (B_171_16 (by omega) c_knivesFor).mpr ?_
  by_cases h3 : S 41 0 0 0 < aKn x1 x2
  · rw [if_pos h3]
    exact no (by simp [aPoss, Int32.not_le.mpr h3])
  rw [if_neg h3]
  refine (B_171_30).mpr ?_
  refine (B_171_35 (Or.inr rfl)).mpr ?_
  exact ⟨by simp [tf, aPoss, Int32.not_le.mp h1, Int32.not_lt.mp h2, Int32.not_lt.mp h3], rfl⟩
end M4
