/-! THE CLASS, 5: the calls that ask -/
section M16e
variable {d : Nat} {S : bSt} {N : NV}
theorem inR_no {x : Int32} {b : Nat} (hb : b < 1000) (h : ∀ n, n ≤ b → x ≠ nI n) : inR x 0 (nI b) = false := by
  cases hx : inR x 0 (nI b) with
  | false => rfl
  | true =>
    obtain ⟨n, e, -, hn⟩ := inR_n (a := 0) hx (by omega) (by omega)
    exact absurd e (h n hn)
theorem K_order (hP : PR S 0 N) (hw : WF N) (hd : 3 ≤ d) {x1 x2 : Int32} : Ret d 99 [vR 0 0 0, vI x1, vI x2] S (some (vI (aOrd N x1 x2))) S := by
  refine E_99 ?_
  refine (B_99_0 (by omega) (k_hasOrder (by omega) hP hw)).mpr ?_
  unfold aOrd
  refine icb (fun g => ?_) (fun g => ?_)
  · refine (B_99_11).mpr ?_
    rw [if_neg (by rw [g]; decide)]
    exact ⟨rfl, rfl⟩
  rw [if_pos g]
  obtain ⟨o, rfl, ho, h8⟩ := vO_ix hw.1 g
  rw [nI_clamp (by omega)]
  obtain ⟨⟨o0, o1, o2, o3, o4, o5⟩, ol, om⟩ := P_o hP ho
  have b4 := bk4 (i := 0) (o := o) (by omega) h8
  refine (B_99_13 (n1_ := o) rfl h8).mpr ?_
  rw [X_99_24]
  unfold aOrdW
  refine ic (fun q0 => ?_) (fun q0 => ?_)
  · subst q0
    refine (B_99_88 b4).mpr ?_
    rw [o0, if_pos (show inR 0 0 5 = true from by decide), show Int32.toNatClampNeg 0 = 0 from by decide, show 6 + 6 * o + 0 = 6 + 6 * o by omega]
    exact ⟨rfl, rfl⟩
  refine ic (fun q1 => ?_) (fun q1 => ?_)
  · subst q1
    refine (B_99_93 b4).mpr ?_
    rw [o1, if_pos (show inR 1 0 5 = true from by decide), show Int32.toNatClampNeg 1 = 1 from by decide, show 6 + 6 * o + 1 = 7 + 6 * o by omega]
    exact ⟨rfl, rfl⟩
  refine ic (fun q2 => ?_) (fun q2 => ?_)
  · subst q2
    refine (B_99_98 b4).mpr ?_
    rw [o2, if_pos (show inR 2 0 5 = true from by decide), show Int32.toNatClampNeg 2 = 2 from by decide, show 6 + 6 * o + 2 = 8 + 6 * o by omega]
    exact ⟨rfl, rfl⟩
  refine ic (fun q3 => ?_) (fun q3 => ?_)
  · subst q3
    refine (B_99_103 b4).mpr ?_
    rw [o3, if_pos (show inR 3 0 5 = true from by decide), show Int32.toNatClampNeg 3 = 3 from by decide, show 6 + 6 * o + 3 = 9 + 6 * o by omega]
    exact ⟨rfl, rfl⟩
  refine ic (fun q4 => ?_) (fun q4 => ?_)
  · subst q4
    refine (B_99_108 b4).mpr ?_
    rw [o4, if_pos (show inR 4 0 5 = true from by decide), show Int32.toNatClampNeg 4 = 4 from by decide, show 6 + 6 * o + 4 = 10 + 6 * o by omega]
    exact ⟨rfl, rfl⟩
  refine ic (fun q5 => ?_) (fun q5 => ?_)
  · subst q5
    refine (B_99_113 b4).mpr ?_
    rw [o5, if_pos (show inR 5 0 5 = true from by decide), show Int32.toNatClampNeg 5 = 5 from by decide, show 6 + 6 * o + 5 = 11 + 6 * o by omega]
    exact ⟨rfl, rfl⟩
  rw [if_neg (show ¬ inR x2 0 5 = true from by
    rw [show (5 : Int32) = nI 5 from rfl, inR_no (by omega) (fun n hn => ?_)]
    · decide
    · rcases (show n = 0 ∨ n = 1 ∨ n = 2 ∨ n = 3 ∨ n = 4 ∨ n = 5 by omega) with rfl | rfl | rfl | rfl | rfl | rfl
      · exact q0
      · exact q1
      · exact q2
      · exact q3
      · exact q4
      · exact q5)]
  refine ic (fun q6 => ?_) (fun q6 => ?_)
  · refine (B_99_118 b4).mpr ?_
    rw [if_pos q6, ol]
    exact ⟨rfl, rfl⟩
  rw [if_neg q6]
  refine ic (fun q7 => ?_) (fun q7 => ?_)
  · refine (B_99_123 b4).mpr ?_
    rw [if_pos q7, om]
    exact ⟨rfl, rfl⟩
  rw [if_neg q7]
  refine ic (fun q8 => ?_) (fun q8 => ?_)
  · refine (B_99_128 (by omega) (k_madeFor (by omega) hP hw h8)).mpr ?_
    rw [if_pos q8]
    exact ⟨rfl, rfl⟩
  rw [if_neg q8]
  refine ic (fun q9 => ?_) (fun q9 => ?_)
  · refine (B_99_137 (by omega) (k_roomOf (by omega) hP hw (by omega) ho)).mpr ?_
    rw [if_pos q9]
    exact ⟨rfl, rfl⟩
  rw [if_neg q9]
  refine ic (fun q10 => ?_) (fun q10 => ?_)
  · refine (B_99_146 (by omega) (k_isMet (by omega) hP hw (by omega) ho)).mpr ?_
    rw [if_pos q10]
    refine icb (fun g2 => ?_) (fun g2 => ?_)
    · refine (B_99_161).mpr ?_
      refine (B_99_162).mpr ?_
      rw [g2]
      exact ⟨rfl, rfl⟩
    refine (B_99_157).mpr ?_
    refine (B_99_162).mpr ?_
    rw [g2]
    exact ⟨rfl, rfl⟩
  rw [if_neg q10]
  refine ic (fun q11 => ?_) (fun q11 => ?_)
  · refine (B_99_163 (by omega) (k_runsFor (by omega) hP hw h8)).mpr ?_
    rw [if_pos q11]
    exact ⟨rfl, rfl⟩
  rw [if_neg q11]
  refine (B_99_172).mpr ?_
  exact ⟨rfl, rfl⟩
theorem K_roll (hP : PR S 0 N) (hw : WF N) (hd : 3 ≤ d) {x1 x2 : Int32} : Ret d 100 [vR 0 0 0, vI x1, vI x2] S (some (vI (aRol N x1 x2))) S := by
  refine E_100 ?_
  refine (B_100_0 (by omega) (k_hasRoll (by omega) hP hw)).mpr ?_
  unfold aRol
  refine icb (fun g => ?_) (fun g => ?_)
  · refine (B_100_11).mpr ?_
    rw [if_neg (by rw [g]; decide)]
    exact ⟨rfl, rfl⟩
  rw [if_pos g]
  obtain ⟨r, rfl, hr, h12⟩ := vR_ix hw.1 g
  rw [nI_clamp (by omega)]
  obtain ⟨p0, p1, p2⟩ := P_r hP hr
  have b6 := bk6 (i := 0) (r := r) (by omega) h12
  refine (B_100_13 (n1_ := r) rfl h12).mpr ?_
  rw [X_100_24]
  unfold aRolW
  refine ic (fun q0 => ?_) (fun q0 => ?_)
  · subst q0
    refine (B_100_64 b6).mpr ?_
    rw [p0, if_pos (show inR 0 0 2 = true from by decide), show Int32.toNatClampNeg 0 = 0 from by decide, show 54 + 3 * r + 0 = 54 + 3 * r by omega]
    exact ⟨rfl, rfl⟩
  refine ic (fun q1 => ?_) (fun q1 => ?_)
  · subst q1
    refine (B_100_69 b6).mpr ?_
    rw [p1, if_pos (show inR 1 0 2 = true from by decide), show Int32.toNatClampNeg 1 = 1 from by decide, show 54 + 3 * r + 1 = 55 + 3 * r by omega]
    exact ⟨rfl, rfl⟩
  refine ic (fun q2 => ?_) (fun q2 => ?_)
  · subst q2
    refine (B_100_74 b6).mpr ?_
    rw [p2, if_pos (show inR 2 0 2 = true from by decide), show Int32.toNatClampNeg 2 = 2 from by decide, show 54 + 3 * r + 2 = 56 + 3 * r by omega]
    exact ⟨rfl, rfl⟩
  rw [if_neg (show ¬ inR x2 0 2 = true from by
    rw [show (2 : Int32) = nI 2 from rfl, inR_no (by omega) (fun n hn => ?_)]
    · decide
    · rcases (show n = 0 ∨ n = 1 ∨ n = 2 by omega) with rfl | rfl | rfl
      · exact q0
      · exact q1
      · exact q2)]
  refine ic (fun q3 => ?_) (fun q3 => ?_)
  · refine (B_100_79 (by omega) (k_leftOf (by omega) hP hw hr)).mpr ?_
    rw [if_pos q3]
    exact ⟨rfl, rfl⟩
  rw [if_neg q3]
  refine ic (fun q4 => ?_) (fun q4 => ?_)
  · refine (B_100_88 (by omega) (k_runsOf (by omega) hP hw)).mpr ?_
    rw [if_pos q4]
    exact ⟨rfl, rfl⟩
  rw [if_neg q4]
  refine ic (fun q5 => ?_) (fun q5 => ?_)
  · refine (B_100_97 (by omega) (k_sourceOf (by omega) hP hw)).mpr ?_
    rw [if_pos q5]
    exact ⟨rfl, rfl⟩
  rw [if_neg q5]
  refine (B_100_106).mpr ?_
  exact ⟨rfl, rfl⟩
theorem K_ranked (hP : PR S 0 N) (hw : WF N) (hd : 3 ≤ d) {x1 : Int32} : Ret d 101 [vR 0 0 0, vI x1] S (some (vI (aRnkFrom N x1 0 (cO N)))) S := by
  have h8 := hw.1.2.1
  refine E_101 ?_
  refine (B_101_0).mpr ?_
  have go : ∀ n o, o + n = cO N → Wp d 101 2 [some (vR 0 0 0), some (vI x1), some (vI (nI o))] [] S (fun r1 S1 => r1 = some (vI (aRnkFrom N x1 o n)) ∧ S1 = S) := by
    intro n
    induction n with
    | zero =>
      intro o ho
      refine (B_101_2).mpr ?_
      rw [if_pos (by rw [P_4 hP hw, show o = cO N by omega]; exact Int32.le_refl _)]
      refine (B_101_33).mpr ?_
      exact ⟨rfl, rfl⟩
    | succ n ih =>
      intro o ho
      refine (B_101_2).mpr ?_
      rw [if_neg (by rw [P_4 hP hw, qI_le (by omega) (by omega)]; omega)]
      refine (B_101_13 (by omega) (k_rankOf (by omega) hP hw (by omega) (by omega))).mpr ?_
      unfold aRnkFrom
      refine ic (fun g => ?_) (fun g => ?_)
      · refine (B_101_25).mpr ?_
        exact ⟨by simp [g], rfl⟩
      refine (B_101_27).mpr ?_
      rw [if_neg g, qI_succ]
      exact ih (o + 1) (by omega)
  exact go (cO N) 0 (by omega)
theorem K_explain (hP : PR S 0 N) (hw : WF N) (hd : 5 ≤ d) {x1 : Int32} : Ret d 102 [vR 0 0 0, vI x1] S (some (vI (if vO N x1 = true then aExpl N x1.toNatClampNeg else -1))) S := by
  refine E_102 ?_
  refine (B_102_0 (by omega) (k_hasOrder (by omega) hP hw)).mpr ?_
  refine icb (fun g => ?_) (fun g => ?_)
  · refine (B_102_22).mpr ?_
    refine (B_102_23).mpr ?_
    rw [if_neg (by rw [g]; decide)]
    exact ⟨rfl, rfl⟩
  rw [if_pos g]
  obtain ⟨o, rfl, ho, h8⟩ := vO_ix hw.1 g
  rw [nI_clamp (by omega)]
  refine (B_102_11 (by omega) (k_whyNotMet (by omega) hP hw (by omega) ho)).mpr ?_
  refine (B_102_23).mpr ?_
  exact ⟨rfl, rfl⟩
theorem k_strips9 {i j u : Nat} (hi : i < 12) (hj : j < 16) (hR : RR S i j N u) (hw : WF N) (hu : u < cU N) : Ret d 135 [vR 9 i j] S (some (vI (nI (str N u)))) S := by
  obtain ⟨-, -, -, -, -, -, -, -, -, hs, -⟩ := wf_run hw hu
  refine E_135 ?_
  refine (B_135_0 (by decide) rfl (bk9 hi hj)).mpr ?_
  refine wloopI 8 (fun m ls T => T = S ∧ ∃ w5, ls = [some (vR 9 i j), some (vI (nI (sumN (fun o => nv N (94 + 12 * u + o)) m))), some (vR 9 i j), some (vI (nI 8)), some (vI (nI m)), w5]) ?_ ?_ ⟨rfl, none, rfl⟩
  · rintro ls T ⟨rfl, w5, rfl⟩
    refine (B_135_10).mpr ?_
    rw [if_pos (by decide)]
    refine (B_135_33).mpr ?_
    exact ⟨rfl, rfl⟩
  · rintro m hm ls T ⟨rfl, w5, rfl⟩ hn
    refine (B_135_10).mpr ?_
    rw [if_neg (by rw [qI_le (by omega) (by omega)]; omega)]
    refine (B_135_16 (k2 := 9) (i2 := i) (j2 := j) (n1_ := m) (by decide) rfl hm rfl (bk9 hi hj)).mpr ?_
    rw [hR.2.2.2.2.2.2.1 m hm, (hs m hm).1, qI_succ, ← qI_add]
    exact hn _ _ ⟨rfl, some (vI (nI (nv N (94 + 12 * u + m)))), rfl⟩
theorem K_made (hP : PR S 0 N) (hw : WF N) (hd : 4 ≤ d) {x1 x2 : Int32} : Ret d 111 [vR 0 0 0, vI x1, vI x2] S (some (vI (aMd N x1 x2))) S := by
  refine E_111 ?_
  refine (B_111_0 (by omega) (k_hasRun (by omega) hP hw)).mpr ?_
  unfold aMd
  refine icb (fun g => ?_) (fun g => ?_)
  · refine (B_111_11).mpr ?_
    rw [if_neg (by rw [g]; decide)]
    exact ⟨rfl, rfl⟩
  rw [if_pos g]
  obtain ⟨u, rfl, hu, h16⟩ := vU_ix hw.1 g
  rw [nI_clamp (by omega)]
  have hj := P_j hP h16
  have hR := P_u hP hu
  have hR' := hR
  obtain ⟨r0, r1, r2, r3, r4, r5, r6, r7⟩ := hR'
  have b8 := bk8 (i := 0) (by omega) hj
  refine (B_111_13 (n1_ := u) (m2_ := jx S 0 u) rfl h16 rfl).mpr ?_
  rw [X_111_24]
  unfold aMdR
  refine ic (fun q0 => ?_) (fun q0 => ?_)
  · refine (B_111_76 b8).mpr ?_
    rw [if_pos q0]
    rw [r0]
    exact ⟨rfl, rfl⟩
  rw [if_neg q0]
  refine ic (fun q1 => ?_) (fun q1 => ?_)
  · refine (B_111_81 b8).mpr ?_
    rw [if_pos q1]
    rw [r1]
    exact ⟨rfl, rfl⟩
  rw [if_neg q1]
  refine ic (fun q2 => ?_) (fun q2 => ?_)
  · refine (B_111_86 (by omega) b8 (k_strips9 (by omega) hj hR hw hu)).mpr ?_
    rw [if_pos q2]
    exact ⟨rfl, rfl⟩
  rw [if_neg q2]
  refine ic (fun q3 => ?_) (fun q3 => ?_)
  · refine (B_111_94 b8).mpr ?_
    rw [if_pos q3]
    rw [r3]
    exact ⟨rfl, rfl⟩
  rw [if_neg q3]
  refine ic (fun q4 => ?_) (fun q4 => ?_)
  · refine (B_111_99 b8).mpr ?_
    rw [if_pos q4]
    rw [r5]
    exact ⟨rfl, rfl⟩
  rw [if_neg q4]
  refine ic (fun q5 => ?_) (fun q5 => ?_)
  · refine (B_111_104 (by omega) (k_setupB (by omega) hP hw (by omega) hu (by omega))).mpr ?_
    rw [if_pos q5]
    exact ⟨rfl, rfl⟩
  rw [if_neg q5]
  refine ic (fun q6 => ?_) (fun q6 => ?_)
  · refine (B_111_116 (by omega) (k_wasteR (by omega) hj hR hw hu (by omega)) b8).mpr ?_
    rw [if_pos q6]
    exact ⟨rfl, rfl⟩
  rw [if_neg q6]
  refine ic (fun q7 => ?_) (fun q7 => ?_)
  · refine (B_111_121 b8).mpr ?_
    rw [if_pos q7]
    rw [r4]
    exact ⟨rfl, rfl⟩
  rw [if_neg q7]
  refine ic (fun q8 => ?_) (fun q8 => ?_)
  · refine (B_111_126 (by omega) (k_remW (by omega) hj hR hw hu) b8).mpr ?_
    rw [if_pos q8]
    exact ⟨rfl, rfl⟩
  rw [if_neg q8]
  refine (B_111_131 (by omega) (k_hasOrder (by omega) hP hw)).mpr ?_
  refine icb (fun g9 => ?_) (fun g9 => ?_)
  · refine (B_111_157).mpr ?_
    refine (B_111_159).mpr ?_
    rw [if_neg (by rw [g9]; decide)]
    exact ⟨rfl, rfl⟩
  obtain ⟨o, ho, hoc, ho8⟩ := vO_ix hw.1 g9
  refine (B_111_145 (n1_ := o) b8 ho ho8 (bk9 (by omega) hj)).mpr ?_
  refine (B_111_159).mpr ?_
  rw [if_pos g9, r6 o ho8, ho, nI_clamp (by omega)]
  exact ⟨rfl, rfl⟩
theorem K_position (hP : PR S 0 N) (hw : WF N) (hd : 4 ≤ d) {x1 x2 : Int32} : Ret d 112 [vR 0 0 0, vI x1, vI x2] S (some (vI (aPstn N x1 x2))) S := by
  refine E_112 ?_
  refine (B_112_0 (by omega) (k_hasRun (by omega) hP hw)).mpr ?_
  unfold aPstn
  refine icb (fun g => ?_) (fun g => ?_)
  · refine (B_112_11).mpr ?_
    rw [if_neg (by rw [g]; decide)]
    exact ⟨rfl, rfl⟩
  rw [if_pos g]
  obtain ⟨u, rfl, hu, h16⟩ := vU_ix hw.1 g
  rw [nI_clamp (by omega)]
  have hj := P_j hP h16
  obtain ⟨r0, r1, r2, r3, r4, r5, r6, r7⟩ := P_u hP hu
  have b8 := bk8 (i := 0) (by omega) hj
  have h7 := aPos_le hw hu
  refine (B_112_13 (n1_ := u) (m2_ := jx S 0 u) rfl h16 rfl).mpr ?_
  refine ic (fun g1 => ?_) (fun g1 => ?_)
  · refine (B_112_44).mpr ?_
    refine (B_112_45).mpr ?_
    rw [if_neg (by unfold inR; rw [decide_eq_false (Int32.not_le.mpr g1), Bool.false_and]; decide)]
    exact ⟨rfl, rfl⟩
  refine (B_112_27 b8).mpr ?_
  rw [r5]
  refine ic (fun g2 => ?_) (fun g2 => ?_)
  · refine (B_112_44).mpr ?_
    refine (B_112_45).mpr ?_
    rw [if_neg (by unfold inR; rw [decide_eq_false (fun q => absurd ((lt_inR (by omega)).mpr q) (Int32.not_lt.mpr g2) : ¬ x2 ≤ nI (aPos N u) - 1), Bool.and_false]; decide)]
    exact ⟨rfl, rfl⟩
  have hin : inR x2 0 (nI (aPos N u) - 1) = true := by
    unfold inR
    rw [decide_eq_true (Int32.not_lt.mp g1), decide_eq_true ((lt_inR (by omega)).mp (Int32.not_le.mp g2))]
    rfl
  obtain ⟨k, rfl, hk⟩ := ix_of (by omega) hin
  refine (B_112_35 (n1_ := k) b8 rfl (by omega) (bk10 (by omega) hj)).mpr ?_
  refine (B_112_45).mpr ?_
  rw [if_pos hin, nI_clamp (by omega), r7 k hk]
  exact ⟨rfl, rfl⟩
theorem K_setup (hP : PR S 0 N) (hw : WF N) (hd : 4 ≤ d) {x1 x2 : Int32} : Ret d 113 [vR 0 0 0, vI x1, vI x2] S (some (vI (aStp N x1 x2))) S := by
  refine E_113 ?_
  refine (B_113_0 (by omega) (k_hasRun (by omega) hP hw)).mpr ?_
  unfold aStp
  refine icb (fun g => ?_) (fun g => ?_)
  · refine (B_113_16).mpr ?_
    rw [if_neg (fun q => by rw [g] at q; exact absurd q.1 (by decide))]
    exact ⟨rfl, rfl⟩
  obtain ⟨u, rfl, hu, h16⟩ := vU_ix hw.1 g
  refine (B_113_11).mpr ?_
  refine ic (fun g2 => ?_) (fun g2 => ?_)
  · refine (B_113_16).mpr ?_
    rw [if_neg (fun q => q.2.1 g2)]
    exact ⟨rfl, rfl⟩
  refine (B_113_18).mpr ?_
  refine ic (fun g3 => ?_) (fun g3 => ?_)
  · subst g3
    refine (B_113_36 (by omega) (k_setupFirst (by omega) hP hw (by omega) hu)).mpr ?_
    rw [if_pos ⟨g, g2, Or.inl rfl⟩, if_pos rfl, nI_clamp (by omega)]
    exact ⟨rfl, rfl⟩
  refine (B_113_23 (by omega) (k_hasRun (by omega) hP hw)).mpr ?_
  refine icb (fun g4 => ?_) (fun g4 => ?_)
  · refine (B_113_34).mpr ?_
    rw [if_neg]
    · exact ⟨rfl, rfl⟩
    · rintro ⟨-, -, q | q⟩
      · exact g3 q
      · rw [g4] at q; exact absurd q (by decide)
  obtain ⟨v, rfl, hv, h16'⟩ := vU_ix hw.1 g4
  refine (B_113_36 (by omega) (k_setupBehind (by omega) hP hw (by omega) hu hv)).mpr ?_
  rw [if_pos ⟨g, g2, Or.inr g4⟩, if_neg g3, nI_clamp (by omega), nI_clamp (by omega)]
  exact ⟨rfl, rfl⟩
theorem K_account (hP : PR S 0 N) (hw : WF N) (hd : 4 ≤ d) {x1 : Int32} : Ret d 122 [vR 0 0 0, vI x1] S (some (vI (aAcc N x1))) S := by
  refine E_122 ?_
  refine (B_122_0).mpr ?_
  rw [X_122_1]
  unfold aAcc
  refine ic (fun q0 => ?_) (fun q0 => ?_)
  · refine (B_122_56 (by omega) (k_areaOfRolls (by omega) hP hw (by omega))).mpr ?_
    rw [if_pos q0]
    exact ⟨rfl, rfl⟩
  rw [if_neg q0]
  refine ic (fun q1 => ?_) (fun q1 => ?_)
  · refine (B_122_64 (by omega) (k_areaMade (by omega) hP hw (by omega))).mpr ?_
    rw [if_pos q1]
    exact ⟨rfl, rfl⟩
  rw [if_neg q1]
  refine ic (fun q2 => ?_) (fun q2 => ?_)
  · refine (B_122_72 (by omega) (k_wasteOfAll (by omega) hP hw (by omega))).mpr ?_
    rw [if_pos q2]
    exact ⟨rfl, rfl⟩
  rw [if_neg q2]
  refine ic (fun q3 => ?_) (fun q3 => ?_)
  · refine (B_122_80 (by omega) (k_areaLeft (by omega) hP hw (by omega))).mpr ?_
    rw [if_pos q3]
    exact ⟨rfl, rfl⟩
  rw [if_neg q3]
  refine ic (fun q4 => ?_) (fun q4 => ?_)
  · refine (B_122_88 (by omega) (k_sumOfSetups (by omega) hP hw (by omega))).mpr ?_
    rw [if_pos q4]
    exact ⟨rfl, rfl⟩
  rw [if_neg q4]
  refine ic (fun q5 => ?_) (fun q5 => ?_)
  · refine (B_122_96 (by omega) (k_areaKept (by omega) hP hw (by omega))).mpr ?_
    rw [if_pos q5]
    exact ⟨rfl, rfl⟩
  rw [if_neg q5]
  refine ic (fun q6 => ?_) (fun q6 => ?_)
  · refine (B_122_104 (by omega) (k_ordersMet (by omega) hP hw (by omega))).mpr ?_
    rw [if_pos q6]
    exact ⟨rfl, rfl⟩
  rw [if_neg q6]
  refine ic (fun q7 => ?_) (fun q7 => ?_)
  · refine (B_122_112).mpr ?_
    rw [if_pos q7, hP.2.1.2.2]
    exact ⟨rfl, rfl⟩
  rw [if_neg q7]
  refine ic (fun q8 => ?_) (fun q8 => ?_)
  · refine (B_122_120).mpr ?_
    rw [if_pos q8, hP.2.1.2.1]
    exact ⟨rfl, rfl⟩
  rw [if_neg q8]
  refine ic (fun q9 => ?_) (fun q9 => ?_)
  · refine (B_122_128).mpr ?_
    rw [if_pos q9, hP.2.1.1]
    exact ⟨rfl, rfl⟩
  rw [if_neg q9]
  refine (B_122_136).mpr ?_
  exact ⟨rfl, rfl⟩
theorem K_grade (hP : PR S 0 N) (hw : WF N) (hd : 4 ≤ d) {x1 x2 : Int32} : Ret d 123 [vR 0 0 0, vI x1, vI x2] S (some (vI (aGrd N x1 x2))) S := by
  refine E_123 ?_
  refine (B_123_0 (by omega) k_inRange).mpr ?_
  unfold aGrd
  refine icb (fun g => ?_) (fun g => ?_)
  · refine (B_123_9).mpr ?_
    rw [if_neg (by rw [g]; decide)]
    exact ⟨rfl, rfl⟩
  rw [if_pos g]
  refine (B_123_12).mpr ?_
  rw [X_123_13]
  unfold aGrdW
  refine ic (fun q0 => ?_) (fun q0 => ?_)
  · refine (B_123_52 (by omega) (k_ordersOfGrade (by omega) hP hw)).mpr ?_
    rw [if_pos q0]
    exact ⟨rfl, rfl⟩
  rw [if_neg q0]
  refine ic (fun q1 => ?_) (fun q1 => ?_)
  · refine (B_123_61 (by omega) (k_metOfGrade (by omega) hP hw (by omega))).mpr ?_
    rw [if_pos q1]
    exact ⟨rfl, rfl⟩
  rw [if_neg q1]
  refine ic (fun q2 => ?_) (fun q2 => ?_)
  · refine (B_123_70 (by omega) (k_rollsLeftOfGrade (by omega) hP hw (by omega))).mpr ?_
    rw [if_pos q2]
    exact ⟨rfl, rfl⟩
  rw [if_neg q2]
  refine ic (fun q3 => ?_) (fun q3 => ?_)
  · refine (B_123_79 (by omega) (k_areaLeftOfGrade (by omega) hP hw (by omega))).mpr ?_
    rw [if_pos q3]
    exact ⟨rfl, rfl⟩
  rw [if_neg q3]
  refine ic (fun q4 => ?_) (fun q4 => ?_)
  · refine (B_123_88 (by omega) (k_wasteOfGrade (by omega) hP hw (by omega))).mpr ?_
    rw [if_pos q4]
    exact ⟨rfl, rfl⟩
  rw [if_neg q4]
  refine ic (fun q5 => ?_) (fun q5 => ?_)
  · refine (B_123_97 (by omega) (k_areaForWorse (by omega) hP hw (by omega))).mpr ?_
    rw [if_pos q5]
    exact ⟨rfl, rfl⟩
  rw [if_neg q5]
  refine (B_123_106).mpr ?_
  exact ⟨rfl, rfl⟩
end M16e
