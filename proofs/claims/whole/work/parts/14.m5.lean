/-! THE MODEL's methods, 5: set, order, roll, alone, explain, append -/
section M5
variable {d : Nat} {S : bSt}
theorem c_set_go (hd : 2 ≤ d) {c : Nat} (hc : c ≤ 8) (h2 : S 40 0 0 2 = nI c) {x v : Int32} {Q0 : Option bV → bSt → Prop} (hQ0 : Q0 (some (vI (if okSet x v = true then S 41 0 0 x.toNatClampNeg else -2))) (if okSet x v = true then sN (sRem (sRow S 44 0 0 282 (S 41 0 0)) c) (upd (S 41 0 0) x.toNatClampNeg v) else S)) : Wp d 157 0 [some (vR 40 0 0), some (vI x), some (vI v), none, none, none] [] S Q0 := by
  have tail : ∀ (Q : Option bV → bSt → Prop) (u5 : Option bV), (Q (some (vI (if okSet x v = true then S 41 0 0 x.toNatClampNeg else -2))) (if okSet x v = true then sN (sRem (sRow S 44 0 0 282 (S 41 0 0)) c) (upd (S 41 0 0) x.toNatClampNeg v) else S)) → Wp d 157 41 [some (vR 40 0 0), some (vI x), some (vI v), some (vI (sLo x)), none, u5] [vI (sHi x)] S Q := by
    intro Q u5 hQ
    refine (B_157_41 (by omega) c_isIn).mpr ?_
    rw [inR_tf]
    by_cases g : inR x 0 2 = false
    · rw [if_pos (tf_0.mpr g)]
      refine (B_157_62).mpr ?_
      have hk : okSet x v = false := by simp [okSet, g]
      simpa [hk] using hQ
    · have g' : inR x 0 2 = true := by simpa using g
      rw [if_neg (by rw [tf_0, g']; decide)]
      refine (B_157_52 (by omega) c_isIn).mpr ?_
      rw [inR_tf]
      by_cases g2 : inR v (sLo x) (sHi x) = false
      · rw [if_pos (tf_0.mpr g2)]
        refine (B_157_62).mpr ?_
        have hk : okSet x v = false := by simp [okSet, g2]
        simpa [hk] using hQ
      · have g2' : inR v (sLo x) (sHi x) = true := by simpa using g2
        rw [if_neg (by rw [tf_0, g2']; decide)]
        have hk : okSet x v = true := by simp [okSet, g', g2']
        obtain ⟨n, hn, -, hn2⟩ := inR_n (a := 0) (b := 2) g' (by decide) (by decide)
        have h40 : sRow S 44 0 0 282 (S 41 0 0) 40 0 0 2 = nI c := by rw [sRow_k _ _ (by decide)]; exact h2
        refine (B_157_65 (n1_ := n) (by omega) c_keepBefore (c_remember hc h40) hn (by omega)).mpr ?_
        simp only [hk, if_true] at hQ
        have e41 : sRem (sRow S 44 0 0 282 (S 41 0 0)) c 41 0 0 = S 41 0 0 := by
          funext m
          unfold sRem
          split <;> simp [sRem0, sSh, sRow]
        rw [sUp_sN0, e41]
        rw [hn, nI_clamp (by omega)] at hQ
        exact hQ
  refine (B_157_0).mpr ?_
  by_cases h0 : x = 0
  · rw [if_pos h0]
    refine (B_157_4).mpr ?_
    refine (B_157_19).mpr ?_
    rw [if_pos h0]
    refine (B_157_24).mpr ?_
    have := tail _ none hQ0
    rw [show sLo x = 2 from if_pos h0, show sHi x = 7 from if_pos h0] at this
    exact this
  · rw [if_neg h0]
    refine (B_157_8).mpr ?_
    by_cases h1 : x = 1
    · rw [if_pos h1]
      refine (B_157_13).mpr ?_
      refine (B_157_19).mpr ?_
      rw [if_neg h0]
      refine (B_157_29).mpr ?_
      rw [if_pos h1]
      refine (B_157_34).mpr ?_
      have := tail _ none hQ0
      rw [show sLo x = 0 from by simp [sLo, h0, h1], show sHi x = 20 from by simp [sHi, h0, h1]] at this
      exact this
    · rw [if_neg h1]
      refine (B_157_17).mpr ?_
      refine (B_157_19).mpr ?_
      rw [if_neg h0]
      refine (B_157_29).mpr ?_
      rw [if_neg h1]
      refine (B_157_39).mpr ?_
      have := tail _ none hQ0
      rw [show sLo x = 10 from by simp [sLo, h0, h1], show sHi x = 99 from by simp [sHi, h0, h1]] at this
      exact this
theorem c_set (hd : 2 ≤ d) {c : Nat} (hc : c ≤ 8) (h2 : S 40 0 0 2 = nI c) {x v : Int32} : Ret d 157 [vR 40 0 0, vI x, vI v] S (some (vI (if okSet x v = true then S 41 0 0 x.toNatClampNeg else -2))) (if okSet x v = true then sN (sRem (sRow S 44 0 0 282 (S 41 0 0)) c) (upd (S 41 0 0) x.toNatClampNeg v) else S) := E_157 (c_set_go hd hc h2 ⟨rfl, rfl⟩)
theorem c_order (hd : 4 ≤ d) (hw : cW (S 41 0 0)) {x1 x2 : Int32} : Ret d 165 [vR 40 0 0, vI x1, vI x2] S (some (vI (aOrd (S 41 0 0) x1 x2))) S := by
  refine E_165 ?_
  refine (B_165_0 (by omega) (c_isOrder (by omega))).mpr ?_
  unfold aOrd vO
  rw [inR_tf]
  by_cases g : inR x1 0 (S 41 0 0 3 - 1) = false
  · rw [if_pos (tf_0.mpr g), if_neg (by rw [g]; decide)]
    refine (B_165_8).mpr ?_
    exact ⟨rfl, rfl⟩
  · have g' : inR x1 0 (S 41 0 0 3 - 1) = true := by simpa using g
    rw [if_neg (by rw [tf_0, g']; decide), if_pos g']
    have hw' := hw
    obtain ⟨h3, hc, -⟩ := hw'
    rw [h3] at g'
    obtain ⟨o, rfl, ho⟩ := ix_of (by omega) g'
    rw [nI_clamp (by omega)]
    have ho8 : o < 8 := by omega
    unfold aOrdW
    refine (B_165_10 (by omega) c_isIn).mpr ?_
    rw [inR_tf]
    by_cases g5 : inR x2 0 5 = false
    · rw [if_pos (tf_0.mpr g5), if_neg (by rw [g5]; decide)]
      refine (B_165_26).mpr ?_
      rw [X_165_27]
      by_cases q6 : x2 = 6
      · rw [if_pos q6, if_pos q6]
        refine (B_165_64 (by omega) (c_leastOf (by omega) ho8)).mpr ?_
        exact ⟨rfl, rfl⟩
      rw [if_neg q6, if_neg q6]
      by_cases q7 : x2 = 7
      · rw [if_pos q7, if_pos q7]
        refine (B_165_70 (by omega) (c_o (n := 8 + 6 * o) (by first | rfl | (simp only [qI_add, qI_mul, qI_lits]; done) | (simp only [qI_add, qI_mul, qI_lits]; grind)) (by omega)) (c_allowance (by omega) ho8)).mpr ?_
        exact ⟨rfl, rfl⟩
      rw [if_neg q7, if_neg q7]
      by_cases q8 : x2 = 8
      · rw [if_pos q8, if_pos q8]
        refine (B_165_83 (by omega) (c_madeFor (by omega) ho8 hw)).mpr ?_
        exact ⟨rfl, rfl⟩
      rw [if_neg q8, if_neg q8]
      by_cases q9 : x2 = 9
      · rw [if_pos q9, if_pos q9]
        refine (B_165_89 (by omega) (c_roomOf (by omega) ho8 hw)).mpr ?_
        exact ⟨rfl, rfl⟩
      rw [if_neg q9, if_neg q9]
      by_cases q10 : x2 = 10
      · rw [if_pos q10, if_pos q10]
        refine (B_165_95 (by omega) (c_isMet (by omega) ho8 hw)).mpr ?_
        by_cases gm : aMet (S 41 0 0) o = false
        · rw [if_pos (tf_0.mpr gm)]
          refine (B_165_107).mpr ?_
          refine (B_165_108).mpr ?_
          rw [gm]
          exact ⟨rfl, rfl⟩
        · have gm' : aMet (S 41 0 0) o = true := by simpa using gm
          rw [if_neg (by rw [tf_0, gm']; decide)]
          refine (B_165_103).mpr ?_
          refine (B_165_108).mpr ?_
          rw [gm']
          exact ⟨rfl, rfl⟩
      rw [if_neg q10, if_neg q10]
      by_cases q11 : x2 = 11
      · rw [if_pos q11, if_pos q11]
        refine (B_165_109 (by omega) (c_runsFor (by omega) ho8 hw)).mpr ?_
        exact ⟨rfl, rfl⟩
      rw [if_neg q11, if_neg q11]
      refine (B_165_115).mpr ?_
      exact ⟨rfl, rfl⟩
    · have g5' : inR x2 0 5 = true := by simpa using g5
      rw [if_neg (by rw [tf_0, g5']; decide), if_pos g5']
      obtain ⟨n, rfl, -, hn⟩ := inR_n (a := 0) (b := 5) g5' (by decide) (by decide)
      rw [nI_clamp (by omega)]
      refine (B_165_19 (by omega) (c_o (n := 6 + 6 * o + n) (by first | rfl | (simp only [qI_add, qI_mul, qI_lits]; done) | (simp only [qI_add, qI_mul, qI_lits]; grind)) (by omega))).mpr ?_
      exact ⟨rfl, rfl⟩
theorem c_roll (hd : 2 ≤ d) (hw : cW (S 41 0 0)) {x1 x2 : Int32} : Ret d 167 [vR 40 0 0, vI x1, vI x2] S (some (vI (aRol (S 41 0 0) x1 x2))) S := by
  refine E_167 ?_
  refine (B_167_0 (by omega) (c_isRoll (by omega))).mpr ?_
  unfold aRol vR_
  rw [inR_tf]
  by_cases g : inR x1 0 (S 41 0 0 4 - 1) = false
  · rw [if_pos (tf_0.mpr g), if_neg (by rw [g]; decide)]
    refine (B_167_8).mpr ?_
    exact ⟨rfl, rfl⟩
  · have g' : inR x1 0 (S 41 0 0 4 - 1) = true := by simpa using g
    rw [if_neg (by rw [tf_0, g']; decide), if_pos g']
    have hw' := hw
    obtain ⟨-, -, h4, hc, -⟩ := hw'
    rw [h4] at g'
    obtain ⟨r, rfl, hr⟩ := ix_of (by omega) g'
    rw [nI_clamp (by omega)]
    have hr8 : r < 12 := by omega
    unfold aRolW
    refine (B_167_10 (by omega) c_isIn).mpr ?_
    rw [inR_tf]
    by_cases g5 : inR x2 0 2 = false
    · rw [if_pos (tf_0.mpr g5), if_neg (by rw [g5]; decide)]
      refine (B_167_26).mpr ?_
      by_cases q3 : x2 = 3
      · rw [if_pos q3, if_pos q3]
        refine (B_167_31 (by omega) (c_leftOf (by omega) hr8 hw)).mpr ?_
        refine (B_167_67).mpr ?_
        exact ⟨rfl, rfl⟩
      rw [if_neg q3, if_neg q3]
      refine (B_167_39).mpr ?_
      by_cases q4 : x2 = 4
      · rw [if_pos q4, if_pos q4]
        refine (B_167_44 (by omega) (c_runsOf (by omega) hw)).mpr ?_
        refine (B_167_67).mpr ?_
        exact ⟨rfl, rfl⟩
      rw [if_neg q4, if_neg q4]
      refine (B_167_52).mpr ?_
      by_cases q5 : x2 = 5
      · rw [if_pos q5, if_pos q5]
        refine (B_167_57 (by omega) (c_remnantOf (by omega) hw)).mpr ?_
        refine (B_167_67).mpr ?_
        exact ⟨rfl, rfl⟩
      rw [if_neg q5, if_neg q5]
      refine (B_167_65).mpr ?_
      refine (B_167_67).mpr ?_
      exact ⟨rfl, rfl⟩
    · have g5' : inR x2 0 2 = true := by simpa using g5
      rw [if_neg (by rw [tf_0, g5']; decide), if_pos g5']
      obtain ⟨n, rfl, -, hn⟩ := inR_n (a := 0) (b := 2) g5' (by decide) (by decide)
      rw [nI_clamp (by omega)]
      refine (B_167_19 (by omega) (c_r (n := 54 + 3 * r + n) (by first | rfl | (simp only [qI_add, qI_mul, qI_lits]; done) | (simp only [qI_add, qI_mul, qI_lits]; grind)) (by omega))).mpr ?_
      exact ⟨rfl, rfl⟩
/-- the widths are as they come in -/
def wO (N : NV) (o : Nat) : Prop := ∃ w, N (7 + 6 * o) = nI w ∧ 10 ≤ w ∧ w ≤ 150
def wR (N : NV) (r : Nat) : Prop := ∃ w, N (55 + 3 * r) = nI w ∧ w ≤ 300
theorem c_al_go (hd : 2 ≤ d) {r o w W : Nat} (hr : r < 12) (ho : o < 8) (hw : S 41 0 0 (7 + 6 * o) = nI w) (hw1 : 10 ≤ w) (hw2 : w ≤ 150) (hW : S 41 0 0 (55 + 3 * r) = nI W) (hW2 : W ≤ 300) {s m n : Nat} (hs : s + n = 41) (hs1 : 1 ≤ s) {Q : Option bV → bSt → Prop} (h : Q (some (vI (nI (aAlFrom (S 41 0 0) w W s m n)))) S) : Wp d 172 5 [some (vR 40 0 0), some (vI (nI r)), some (vI (nI o)), some (vI (nI m)), some (vI (nI s))] [] S Q := by
  induction n generalizing s m with
  | zero =>
    refine (B_172_5 (by omega) (c_o (n := 7 + 6 * o) (by first | rfl | (simp only [qI_add, qI_mul, qI_lits]; done) | (simp only [qI_add, qI_mul, qI_lits]; grind)) (by omega)) (c_r (n := 55 + 3 * r) (by first | rfl | (simp only [qI_add, qI_mul, qI_lits]; done) | (simp only [qI_add, qI_mul, qI_lits]; grind)) (by omega))).mpr ?_
    have hs40 : s = 41 := by omega
    subst hs40
    rw [hw, hW, show nI 41 * nI w = nI (41 * w) from (qI_mul 41 w).symm, if_pos (by rw [qI_lt (by omega) (by omega)]; omega)]
    refine (B_172_61).mpr ?_
    exact h
  | succ n ih =>
    refine (B_172_5 (by omega) (c_o (n := 7 + 6 * o) (by first | rfl | (simp only [qI_add, qI_mul, qI_lits]; done) | (simp only [qI_add, qI_mul, qI_lits]; grind)) (by omega)) (c_r (n := 55 + 3 * r) (by first | rfl | (simp only [qI_add, qI_mul, qI_lits]; done) | (simp only [qI_add, qI_mul, qI_lits]; grind)) (by omega))).mpr ?_
    unfold aAlFrom at h
    have hsw : s * w ≤ 40 * 150 := Nat.mul_le_mul (by omega) hw2
    rw [hw, hW, ← qI_mul]
    by_cases g : W < s * w
    · rw [if_pos g] at h
      rw [if_pos (by rw [qI_lt (by omega) (by omega)]; exact g)]
      refine (B_172_61).mpr ?_
      exact h
    · rw [if_neg g] at h
      rw [if_neg (by rw [qI_lt (by omega) (by omega)]; exact g)]
      refine (B_172_23 (by omega) (c_r (n := 55 + 3 * r) (by first | rfl | (simp only [qI_add, qI_mul, qI_lits]; done) | (simp only [qI_add, qI_mul, qI_lits]; grind)) (by omega)) (c_o (n := 7 + 6 * o) (by first | rfl | (simp only [qI_add, qI_mul, qI_lits]; done) | (simp only [qI_add, qI_mul, qI_lits]; grind)) (by omega)) (c_isPossible (by omega))).mpr ?_
      rw [hw, hW]
      by_cases gp : aPoss (S 41 0 0) (nI s) (nI W - nI s * nI w) = false
      · rw [if_pos (tf_0.mpr gp)]
        refine (B_172_53).mpr ?_
        refine (B_172_54).mpr ?_
        rw [qI_succ]
        rw [if_neg (by rw [gp]; decide)] at h
        exact ih (by omega) (by omega) h
      · have gp' : aPoss (S 41 0 0) (nI s) (nI W - nI s * nI w) = true := by simpa using gp
        rw [if_neg (by rw [tf_0, gp']; decide)]
        refine (B_172_48).mpr ?_
        refine (B_172_54).mpr ?_
        rw [qI_succ]
        rw [if_pos gp'] at h
        exact ih (by omega) (by omega) h
theorem c_alone (hd : 2 ≤ d) {r o : Nat} (hr : r < 12) (ho : o < 8) (hwo : wO (S 41 0 0) o) (hwr : wR (S 41 0 0) r) : Ret d 172 [vR 40 0 0, vI (nI r), vI (nI o)] S (some (vI (nI (aAlone (S 41 0 0) r o)))) S := by
  obtain ⟨w, hw, hw1, hw2⟩ := hwo
  obtain ⟨W, hW, hW2⟩ := hwr
  refine E_172 ?_
  refine (B_172_0).mpr ?_
  refine c_al_go (m := 0) (s := 1) (n := 40) hd hr ho hw hw1 hw2 hW hW2 (by omega) (by omega) ⟨?_, rfl⟩
  unfold aAlone
  rw [hw, hW, nI_clamp (by omega), nI_clamp (by omega)]
theorem aAl_le {N : NV} {w W s m n : Nat} (hm : m ≤ s) : aAlFrom N w W s m n ≤ s + n := by
  induction n generalizing s m with
  | zero => exact hm
  | succ n ih =>
    unfold aAlFrom
    split
    · omega
    · have := ih (s := s + 1) (m := if aPoss N (nI s) (nI W - nI s * nI w) = true then s else m) (by split <;> omega)
      omega
theorem aAlone_lt (N : NV) (r o : Nat) : aAlone N r o ≤ 41 := aAl_le (by omega)
theorem c_explain (hd : 4 ≤ d) (hw : cW (S 41 0 0)) (hwo : ∀ o, o < cO (S 41 0 0) → wO (S 41 0 0) o) (hwr : ∀ r, r < cR (S 41 0 0) → wR (S 41 0 0) r) {x1 : Int32} : Ret d 173 [vR 40 0 0, vI x1] S (some (vI (if vO (S 41 0 0) x1 = true then aExpl (S 41 0 0) x1.toNatClampNeg else -1))) S := by
  refine E_173 ?_
  refine (B_173_0 (by omega) (c_isOrder (by omega))).mpr ?_
  unfold vO
  rw [inR_tf]
  by_cases g : inR x1 0 (S 41 0 0 3 - 1) = false
  · rw [if_pos (tf_0.mpr g), if_neg (by rw [g]; decide)]
    refine (B_173_8).mpr ?_
    exact ⟨rfl, rfl⟩
  have g' : inR x1 0 (S 41 0 0 3 - 1) = true := by simpa using g
  rw [if_neg (by rw [tf_0, g']; decide), if_pos g']
  have hw' := hw
  obtain ⟨h3, hc, h4, hc4, -⟩ := hw'
  rw [h3] at g'
  obtain ⟨o, rfl, ho⟩ := ix_of (by omega) g'
  rw [nI_clamp (by omega)]
  have ho8 : o < 8 := by omega
  refine (B_173_10 (by omega) (c_isMet (by omega) ho8 hw)).mpr ?_
  unfold aExpl
  by_cases gm : aMet (S 41 0 0) o = false
  rotate_left
  · have gm' : aMet (S 41 0 0) o = true := by simpa using gm
    rw [if_neg (by rw [tf_0, gm']; decide), if_pos gm']
    refine (B_173_18).mpr ?_
    exact ⟨rfl, rfl⟩
  rw [if_pos (tf_0.mpr gm), if_neg (by rw [gm]; decide)]
  refine (B_173_20).mpr ?_
  refine wloop (cR (S 41 0 0)) (fun m => [some (vR 40 0 0), some (vI (nI o)), some (vI (tf (eHas (S 41 0 0) o m))), some (vI (tf (eWide (S 41 0 0) o m))), some (vI (eSum (S 41 0 0) o m)), some (vI (nI m))]) (fun _ => S) ?_ ?_
  · refine (B_173_30).mpr ?_
    rw [if_pos (by rw [h4]; exact Int32.le_refl _)]
    refine (B_173_105).mpr ?_
    by_cases k1 : eHas (S 41 0 0) o (cR (S 41 0 0)) = false
    · rw [if_pos (tf_0.mpr k1), if_pos k1]
      refine (B_173_109).mpr ?_
      refine (B_173_142).mpr ?_
      exact ⟨rfl, rfl⟩
    rw [if_neg (by rw [tf_0]; exact k1), if_neg k1]
    refine (B_173_113).mpr ?_
    by_cases k2 : eWide (S 41 0 0) o (cR (S 41 0 0)) = false
    · rw [if_pos (tf_0.mpr k2), if_pos k2]
      refine (B_173_117).mpr ?_
      refine (B_173_142).mpr ?_
      exact ⟨rfl, rfl⟩
    rw [if_neg (by rw [tf_0]; exact k2), if_neg k2]
    refine (B_173_121 (by omega) (c_leastOf (by omega) ho8) (c_madeFor (by omega) ho8 hw)).mpr ?_
    by_cases k3 : aLeast (S 41 0 0) o - aMade (S 41 0 0) o ≤ eSum (S 41 0 0) o (cR (S 41 0 0))
    · rw [if_pos k3, if_neg (Int32.not_lt.mpr k3)]
      refine (B_173_141).mpr ?_
      refine (B_173_142).mpr ?_
      exact ⟨rfl, rfl⟩
    · rw [if_neg k3, if_pos (Int32.not_le.mp k3)]
      refine (B_173_137).mpr ?_
      refine (B_173_142).mpr ?_
      exact ⟨rfl, rfl⟩
  · intro m hm hn
    refine (B_173_30).mpr ?_
    rw [if_neg (by rw [h4, qI_le (by omega) (by omega)]; omega)]
    refine (B_173_41 (by omega) (c_canUse (by omega) (by omega) ho8)).mpr ?_
    have skip : ∀ {Q : Option bV → bSt → Prop}, eU (S 41 0 0) o m = false → Wp d 173 30 [some (vR 40 0 0), some (vI (nI o)), some (vI (tf (eHas (S 41 0 0) o (m + 1)))), some (vI (tf (eWide (S 41 0 0) o (m + 1)))), some (vI (eSum (S 41 0 0) o (m + 1))), some (vI (nI (m + 1)))] [] S Q → Wp d 173 99 [some (vR 40 0 0), some (vI (nI o)), some (vI (tf (eHas (S 41 0 0) o m))), some (vI (tf (eWide (S 41 0 0) o m))), some (vI (eSum (S 41 0 0) o m)), some (vI (nI m))] [] S Q := by
      intro Q hu hn
      refine (B_173_99).mpr ?_
      have hn' := hn
      simp only [eHas, eWide, eSum, hu, Bool.or_false, Bool.false_and, Bool.false_eq_true, if_false] at hn'
      rw [Int32.add_zero] at hn'
      rw [qI_succ]
      exact hn'
    by_cases gc : aCan (S 41 0 0) m o = false
    · rw [if_pos (tf_0.mpr gc)]
      exact skip (by simp [eU, gc]) hn
    have gc' : aCan (S 41 0 0) m o = true := by simpa using gc
    rw [if_neg (by rw [tf_0, gc']; decide)]
    refine (B_173_51 (by omega) (c_leftOf (by omega) (by omega) hw)).mpr ?_
    by_cases gl : aLeft (S 41 0 0) m ≤ 0
    · rw [if_pos gl]
      exact skip (by simp [eU, Int32.not_lt.mpr gl]) hn
    rw [if_neg gl]
    have hu : eU (S 41 0 0) o m = true := by simp [eU, gc', Int32.not_le.mp gl]
    refine (B_173_60 (by omega) (c_alone (by omega) (by omega) ho8 (hwo o ho) (hwr m hm))).mpr ?_
    have hal := aAlone_lt (S 41 0 0) m o
    have hn' := hn
    simp only [eHas, eWide, eSum, hu, Bool.or_true, Bool.true_and, if_true] at hn'
    by_cases ga : aAlone (S 41 0 0) m o = 0
    · rw [if_pos (by rw [ga]; exact Int32.le_refl _)]
      refine (B_173_77).mpr ?_
      refine (B_173_78 (by omega) (c_alone (by omega) (by omega) ho8 (hwo o ho) (hwr m hm)) (c_leftOf (by omega) (by omega) hw)).mpr ?_
      refine (B_173_99).mpr ?_
      rw [qI_succ, show tf (eWide (S 41 0 0) o m) ||| 0 = tf (eWide (S 41 0 0) o m) by cases eWide (S 41 0 0) o m <;> rfl]
      simp only [ga, Nat.lt_irrefl, decide_false, Bool.or_false] at hn' ⊢
      exact hn'
    · rw [if_neg (nI_nle (by omega) (by omega))]
      refine (B_173_73).mpr ?_
      refine (B_173_78 (by omega) (c_alone (by omega) (by omega) ho8 (hwo o ho) (hwr m hm)) (c_leftOf (by omega) (by omega) hw)).mpr ?_
      refine (B_173_99).mpr ?_
      rw [qI_succ, show tf (eWide (S 41 0 0) o m) ||| 1 = 1 by cases eWide (S 41 0 0) o m <;> rfl]
      simp only [show 0 < aAlone (S 41 0 0) m o by omega, decide_true, Bool.or_true] at hn'
      exact hn'
theorem ch_ok : ∀ n, n < 127 → ((nI n).toUInt32 % 65536).toInt32 = nI n ∧ narrow .char (.int (nI n)) = .int (nI n) := by decide +kernel
theorem c_append (hd : 1 ≤ d) {t : Nat} (ht : t ≤ 80) (h7 : S 40 0 0 7 = nI t) {x1 : Int32} : Ret d 174 [vR 40 0 0, vI x1] S (some (vI (if inR x1 32 126 = true then (if t = 80 then -3 else nI (t + 1)) else -2))) (if inR x1 32 126 = true ∧ t < 80 then sUp (sUp S 45 0 0 t x1) 40 0 0 7 (nI (t + 1)) else S) := by
  refine E_174 ?_
  refine (B_174_0 (by omega) c_isIn).mpr ?_
  rw [inR_tf]
  by_cases g : inR x1 32 126 = false
  · rw [if_pos (tf_0.mpr g), if_neg (by rw [g]; decide), if_neg (by rw [g]; simp)]
    refine (B_174_11).mpr ?_
    exact ⟨rfl, rfl⟩
  have g' : inR x1 32 126 = true := by simpa using g
  rw [if_neg (by rw [tf_0, g']; decide), if_pos g']
  obtain ⟨n, rfl, -, hn⟩ := inR_n (a := 32) (b := 126) g' (by decide) (by decide)
  refine (B_174_14).mpr ?_
  by_cases h8 : t = 80
  · rw [if_pos (by rw [h7, h8]; rfl), if_pos h8, if_neg (by omega)]
    refine (B_174_23).mpr ?_
    exact ⟨rfl, rfl⟩
  · rw [if_neg (by rw [h7, show (80 : Int32) = nI 80 from rfl, qI_eq (by omega) (by omega)]; exact h8), if_neg h8, if_pos ⟨g', by omega⟩]
    obtain ⟨e1, e2⟩ := ch_ok n (by omega)
    refine (B_174_26 (n1_ := t) h7 (by omega) (by rw [e1]; exact e2)).mpr ?_
    rw [e1, sUp_same, sUp_kind (by decide), h7, qI_succ]
    exact ⟨rfl, rfl⟩
end M5
