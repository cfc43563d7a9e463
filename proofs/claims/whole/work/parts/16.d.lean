/-! THE CLASS, 4: accounts and grades -/
section M16d
variable {d : Nat} {S : bSt} {N : NV} {i : Nat}
theorem k_areaOfRolls (hi : i < 12) (hP : PR S i N) (hw : WF N) (hd : 1 ≤ d) : Ret d 50 [vR 1 i 0] S (some (vI (aAreaOf N 0))) S := by
  have hc := hw.1.2.2.2.1
  refine E_50 ?_
  refine (B_50_0).mpr ?_
  refine wloop (cR N) (fun m => [some (vR 1 i 0), some (vI (sumTo (fun r => if tf (!decide (aRem N r = -5)) = 0 then N (55 + 3 * r) * N (56 + 3 * r) else 0) m)), some (vI (nI m))]) (fun _ => S) ?_ ?_
  · refine (B_50_4 (bk1 hi)).mpr ?_
    rw [if_pos (by rw [P_5 hP hw]; exact Int32.le_refl _)]
    refine (B_50_50).mpr ?_
    exact ⟨rfl, rfl⟩
  · intro m hm hn
    obtain ⟨p0, p1, p2⟩ := P_r hP hm
    refine (B_50_4 (bk1 hi)).mpr ?_
    rw [if_neg (by rw [P_5 hP hw, qI_le (by omega) (by omega)]; omega)]
    refine (B_50_12 (by omega) (k_sourceOf hi hP hw) (bk1 hi)).mpr ?_
    rw [sumTo, ← qI_succ] at hn
    refine ic (fun g => ?_) (fun g => ?_)
    · refine (B_50_22 (n1_ := m) (bk1 hi) rfl (by omega) (bk5 hi) (bk6 hi (by omega))).mpr ?_
      refine (B_50_44).mpr ?_
      rw [if_pos (by rw [g]; rfl)] at hn
      rw [p1, p2]
      exact hn
    refine (B_50_44).mpr ?_
    rw [if_neg (by rw [tf_0]; simpa using g), Int32.add_zero] at hn
    exact hn
theorem k_areaMade (hi : i < 12) (hP : PR S i N) (hw : WF N) (hd : 1 ≤ d) : Ret d 51 [vR 1 i 0] S (some (vI (aAreaM N))) S := by
  have hc := hw.1.2.1
  refine E_51 ?_
  refine (B_51_0).mpr ?_
  refine wloop (cO N) (fun m => [some (vR 1 i 0), some (vI (sumTo (fun o => N (7 + 6 * o) * aMade N o) m)), some (vI (nI m))]) (fun _ => S) ?_ ?_
  · refine (B_51_4 (bk1 hi)).mpr ?_
    rw [if_pos (by rw [P_4 hP hw]; exact Int32.le_refl _)]
    refine (B_51_36).mpr ?_
    exact ⟨rfl, rfl⟩
  · intro m hm hn
    obtain ⟨⟨o0, o1, o2, o3, o4, o5⟩, ol, om⟩ := P_o hP hm
    refine (B_51_4 (bk1 hi)).mpr ?_
    rw [if_neg (by rw [P_4 hP hw, qI_le (by omega) (by omega)]; omega)]
    refine (B_51_12 (n1_ := m) (by omega) (bk1 hi) rfl (by omega) (bk3 hi) (bk4 hi (by omega)) (k_madeFor hi hP hw (by omega))).mpr ?_
    rw [o1, qI_succ]
    exact hn
theorem k_wasteOfAll (hi : i < 12) (hP : PR S i N) (hw : WF N) (hd : 2 ≤ d) : Ret d 52 [vR 1 i 0] S (some (vI (aWaste N))) S := by
  have hc := hw.1.2.2.2.2.2
  refine E_52 ?_
  refine (B_52_0).mpr ?_
  refine wloop (cU N) (fun m => [some (vR 1 i 0), some (vI (sumTo (fun u => nI (aWas N u)) m)), some (vI (nI m))]) (fun _ => S) ?_ ?_
  · refine (B_52_4 (bk1 hi)).mpr ?_
    rw [if_pos (by rw [P_6 hP hw]; exact Int32.le_refl _)]
    refine (B_52_30).mpr ?_
    exact ⟨rfl, rfl⟩
  · intro m hm hn
    have hj := P_j hP (u := m) (by omega)
    refine (B_52_4 (bk1 hi)).mpr ?_
    rw [if_neg (by rw [P_6 hP hw, qI_le (by omega) (by omega)]; omega)]
    refine (B_52_12 (n1_ := m) (m2_ := jx S i m) (by omega) (bk1 hi) rfl (by omega) rfl (bk7 hi) (k_wasteR hi hj (P_u hP hm) hw hm (by omega)) (bk8 hi hj)).mpr ?_
    rw [qI_succ]
    exact hn
theorem k_areaLeft (hi : i < 12) (hP : PR S i N) (hw : WF N) (hd : 1 ≤ d) : Ret d 53 [vR 1 i 0] S (some (vI (aAreaL N))) S := by
  have hc := hw.1.2.2.2.1
  refine E_53 ?_
  refine (B_53_0).mpr ?_
  refine wloop (cR N) (fun m => [some (vR 1 i 0), some (vI (sumTo (fun r => N (55 + 3 * r) * aLeft N r) m)), some (vI (nI m))]) (fun _ => S) ?_ ?_
  · refine (B_53_4 (bk1 hi)).mpr ?_
    rw [if_pos (by rw [P_5 hP hw]; exact Int32.le_refl _)]
    refine (B_53_36).mpr ?_
    exact ⟨rfl, rfl⟩
  · intro m hm hn
    obtain ⟨p0, p1, p2⟩ := P_r hP hm
    refine (B_53_4 (bk1 hi)).mpr ?_
    rw [if_neg (by rw [P_5 hP hw, qI_le (by omega) (by omega)]; omega)]
    refine (B_53_12 (n1_ := m) (by omega) (bk1 hi) rfl (by omega) (bk5 hi) (bk6 hi (by omega)) (k_leftOf hi hP hw hm)).mpr ?_
    rw [p1, qI_succ]
    exact hn
/-! the area of the remnants: by rolls and by runs -/
theorem sumTo_one {P : Nat → Prop} [DecidablePred P] {g : Nat → Int32} {q : Nat} : ∀ c, ¬ P q → sumTo (fun r => if P r ∨ r = q then g r else 0) c = sumTo (fun r => if P r then g r else 0) c + (if q < c then g q else 0) := by
  intro c
  induction c with
  | zero => intro _; rfl
  | succ c ih =>
    intro h
    rw [sumTo, sumTo, ih h]
    by_cases hq : c = q
    · subst hq
      rw [if_pos (Or.inr rfl), if_neg h, if_neg (Nat.lt_irrefl _), if_pos (Nat.lt_succ_self _), Int32.add_zero]
    · by_cases hp : P c
      · rw [if_pos (Or.inl hp), if_pos hp]
        by_cases hl : q < c
        · rw [if_pos hl, if_pos (by omega)]
          grind
        · rw [if_neg hl, if_neg (by omega)]
          grind
      · rw [if_neg (show ¬ (P c ∨ c = q) from fun z => z.elim hp hq), if_neg hp]
        by_cases hl : q < c
        · rw [if_pos hl, if_pos (by omega)]
          grind
        · rw [if_neg hl, if_neg (by omega)]
theorem aRem_iff (hw : WF N) {r : Nat} (hr : r < 12) : aRem N r ≠ -5 ↔ ∃ u, u < cU N ∧ N (93 + 12 * u) = nI r := by
  have hc := hw.1.2.2.2.2.2
  have key : ∀ n u, u + n ≤ 16 → (aRemFrom N (nI r) u n ≠ -5 ↔ ∃ v, u ≤ v ∧ v < u + n ∧ N (93 + 12 * v) = nI r) := by
    intro n
    induction n with
    | zero => intro u hu; exact ⟨fun h => absurd rfl h, fun ⟨v, h1, h2, _⟩ => by omega⟩
    | succ n ih =>
      intro u hu
      unfold aRemFrom
      by_cases g : N (93 + 12 * u) = nI r
      · rw [if_pos g]
        exact ⟨fun _ => ⟨u, Nat.le_refl _, by omega, g⟩, fun _ => nI_ne_m5 (by omega)⟩
      · rw [if_neg g, ih (u + 1) (by omega)]
        constructor
        · rintro ⟨v, h1, h2, h3⟩
          exact ⟨v, by omega, by omega, h3⟩
        · rintro ⟨v, h1, h2, h3⟩
          refine ⟨v, ?_, by omega, h3⟩
          rcases Nat.eq_or_lt_of_le h1 with q | q
          · exact absurd (q ▸ h3) g
          · omega
  have := key (cU N) 0 (by omega)
  rw [aRem, this]
  constructor
  · rintro ⟨v, -, h2, h3⟩
    exact ⟨v, by omega, h3⟩
  · rintro ⟨v, h2, h3⟩
    exact ⟨v, by omega, by omega, h3⟩
def aKep (N : NV) : Nat → Int32 := sumTo (fun u => if N (93 + 12 * u) = -5 then 0 else nI (aRemW N u) * N (91 + 12 * u))
theorem aKep_eq (hw : WF N) : aKep N (cU N) = aAreaOf N 1 := by
  have h12 := hw.1.2.2.2.1
  have key : ∀ n, n ≤ cU N → aKep N n = sumTo (fun r => if (∃ u, u < n ∧ N (93 + 12 * u) = nI r) then N (55 + 3 * r) * N (56 + 3 * r) else 0) (cR N) := by
    intro n
    induction n with
    | zero =>
      intro _
      have : ∀ c, sumTo (fun r => if (∃ u, u < 0 ∧ N (93 + 12 * u) = nI r) then N (55 + 3 * r) * N (56 + 3 * r) else 0) c = 0 := by
        intro c
        induction c with
        | zero => rfl
        | succ c ih => rw [sumTo, ih, if_neg (fun ⟨u, h, _⟩ => absurd h (Nat.not_lt_zero _))]; rfl
      rw [this]
      rfl
    | succ n ih =>
      intro hn
      show aKep N n + (if N (93 + 12 * n) = -5 then 0 else nI (aRemW N n) * N (91 + 12 * n)) = _
      rw [ih (by omega)]
      rcases (hw.2.2.2.2.1 n (by omega)).2.2.2.2.2 with q | ⟨q1, q2, q3, q4⟩
      · rw [if_pos q, Int32.add_zero]
        refine sumTo_congr _ (fun r hr => ?_)
        have : (∃ u, u < n + 1 ∧ N (93 + 12 * u) = nI r) ↔ (∃ u, u < n ∧ N (93 + 12 * u) = nI r) := by
          constructor
          · rintro ⟨u, h1, h2⟩
            refine ⟨u, ?_, h2⟩
            rcases Nat.lt_or_ge u n with g | g
            · exact g
            · obtain rfl : u = n := by omega
              rw [q] at h2
              exact absurd h2.symm (nI_ne_m5 (by omega))
          · rintro ⟨u, h1, h2⟩
            exact ⟨u, by omega, h2⟩
        simp only [this]
      · rw [if_neg (by rw [q1]; exact nI_ne_m5 (by omega))]
        have hnot : ¬ (∃ u, u < n ∧ N (93 + 12 * u) = nI (nv N (93 + 12 * n))) := by
          rintro ⟨u, h1, h2⟩
          have := hw.2.2.2.2.2 u n (by omega) (by omega) (by rw [h2]; exact nI_ne_m5 (by omega)) (by rw [h2]; exact q1.symm)
          omega
        have hone := sumTo_one (P := fun r => ∃ u, u < n ∧ N (93 + 12 * u) = nI r) (g := fun r => N (55 + 3 * r) * N (56 + 3 * r)) (q := nv N (93 + 12 * n)) (cR N) hnot
        rw [if_pos q2] at hone
        have e1 : N (55 + 3 * nv N (93 + 12 * n)) = nI (aRemW N n) := by
          rw [(hw.2.2.2.1 _ q2).2.1.1]
          congr 1
          unfold aRemW aRest
          omega
        have e2 : N (56 + 3 * nv N (93 + 12 * n)) = N (91 + 12 * n) := by
          rw [(hw.2.2.2.1 _ q2).2.2.1, q4]
          exact (hw.2.2.2.2.1 n (by omega)).2.1.1.symm
        rw [e1, e2] at hone
        rw [← hone]
        refine sumTo_congr _ (fun r hr => ?_)
        have : ((∃ u, u < n ∧ N (93 + 12 * u) = nI r) ∨ r = nv N (93 + 12 * n)) ↔ (∃ u, u < n + 1 ∧ N (93 + 12 * u) = nI r) := by
          constructor
          · rintro (⟨u, h1, h2⟩ | h)
            · exact ⟨u, by omega, h2⟩
            · exact ⟨n, by omega, by rw [h]; exact q1⟩
          · rintro ⟨u, h1, h2⟩
            rcases Nat.lt_or_ge u n with g | g
            · exact Or.inl ⟨u, g, h2⟩
            · obtain rfl : u = n := by omega
              right
              rw [q1, qI_eq (by omega) (by omega)] at h2
              exact h2.symm
        by_cases hx : (∃ u, u < n + 1 ∧ N (93 + 12 * u) = nI r)
        · rw [if_pos hx, if_pos (this.mpr hx)]
        · rw [if_neg hx, if_neg (fun q => hx (this.mp q))]
  rw [key (cU N) (Nat.le_refl _)]
  refine sumTo_congr _ (fun r hr => ?_)
  have := aRem_iff hw (r := r) (by omega)
  by_cases g : ∃ u, u < cU N ∧ N (93 + 12 * u) = nI r
  · rw [if_pos g, if_pos]
    have := this.mpr g
    rw [decide_eq_false this]
    rfl
  · rw [if_neg g, if_neg]
    have : aRem N r = -5 := Decidable.not_not.mp (fun q => g (this.mp q))
    rw [decide_eq_true this]
    decide
theorem k_areaKept (hi : i < 12) (hP : PR S i N) (hw : WF N) (hd : 1 ≤ d) : Ret d 54 [vR 1 i 0] S (some (vI (aAreaOf N 1))) S := by
  have hc := hw.1.2.2.2.2.2
  rw [← aKep_eq hw]
  refine E_54 ?_
  refine (B_54_0).mpr ?_
  refine wloop (cU N) (fun m => [some (vR 1 i 0), some (vI (aKep N m)), some (vI (nI m))]) (fun _ => S) ?_ ?_
  · refine (B_54_4 (bk1 hi)).mpr ?_
    rw [if_pos (by rw [P_6 hP hw]; exact Int32.le_refl _)]
    refine (B_54_52).mpr ?_
    exact ⟨rfl, rfl⟩
  · intro m hm hn
    have hj := P_j hP (u := m) (by omega)
    have hR := P_u hP hm
    refine (B_54_4 (bk1 hi)).mpr ?_
    rw [if_neg (by rw [P_6 hP hw, qI_le (by omega) (by omega)]; omega)]
    refine (B_54_12 (n1_ := m) (m2_ := jx S i m) (by omega) (bk1 hi) rfl (by omega) rfl (bk7 hi) (k_isKept hi hj hR hw hm) (bk8 hi hj)).mpr ?_
    rw [show aKep N (m + 1) = aKep N m + (if N (93 + 12 * m) = -5 then 0 else nI (aRemW N m) * N (91 + 12 * m)) from rfl, ← qI_succ] at hn
    refine icb (fun g => ?_) (fun g => ?_)
    · refine (B_54_46).mpr ?_
      rw [if_pos (by simpa using g), Int32.add_zero] at hn
      exact hn
    refine (B_54_24 (n1_ := m) (m2_ := jx S i m) (m3_ := jx S i m) (by omega) (bk1 hi) rfl (by omega) rfl (bk7 hi) (k_remW hi hj hR hw hm) (bk8 hi hj) rfl (bk8 hi hj)).mpr ?_
    refine (B_54_46).mpr ?_
    rw [if_neg (by simpa using g)] at hn
    rw [hR.2.1]
    exact hn
theorem k_ordersMet (hi : i < 12) (hP : PR S i N) (hw : WF N) (hd : 2 ≤ d) : Ret d 55 [vR 1 i 0] S (some (vI (aMetO N))) S := by
  have hc := hw.1.2.1
  refine E_55 ?_
  refine (B_55_0).mpr ?_
  refine wloop (cO N) (fun m => [some (vR 1 i 0), some (vI (sumTo (fun o => tf (aMet N o)) m)), some (vI (nI m))]) (fun _ => S) ?_ ?_
  · refine (B_55_4 (bk1 hi)).mpr ?_
    rw [if_pos (by rw [P_4 hP hw]; exact Int32.le_refl _)]
    refine (B_55_29).mpr ?_
    exact ⟨rfl, rfl⟩
  · intro m hm hn
    refine (B_55_4 (bk1 hi)).mpr ?_
    rw [if_neg (by rw [P_4 hP hw, qI_le (by omega) (by omega)]; omega)]
    refine (B_55_12 (by omega) (k_isMet hi hP hw (by omega) hm) (bk1 hi)).mpr ?_
    rw [sumTo, ← qI_succ] at hn
    refine icb (fun g => ?_) (fun g => ?_)
    · refine (B_55_23).mpr ?_
      rw [g, show tf false = 0 from rfl, Int32.add_zero] at hn
      exact hn
    refine (B_55_20).mpr ?_
    refine (B_55_23).mpr ?_
    rw [g] at hn
    exact hn
theorem k_ordersOfGrade (hi : i < 12) (hP : PR S i N) (hw : WF N) {x1 : Int32} : Ret d 56 [vR 1 i 0, vI x1] S (some (vI (aOrdsOf N x1 0))) S := by
  have hc := hw.1.2.1
  refine E_56 ?_
  refine (B_56_0).mpr ?_
  refine wloop (cO N) (fun m => [some (vR 1 i 0), some (vI x1), some (vI (sumTo (fun o => if N (6 + 6 * o) = x1 ∧ ((0 : Int32) = 0 ∨ aMet N o = true) then 1 else 0) m)), some (vI (nI m))]) (fun _ => S) ?_ ?_
  · refine (B_56_4 (bk1 hi)).mpr ?_
    rw [if_pos (by rw [P_4 hP hw]; exact Int32.le_refl _)]
    refine (B_56_34).mpr ?_
    exact ⟨rfl, rfl⟩
  · intro m hm hn
    obtain ⟨⟨o0, o1, o2, o3, o4, o5⟩, ol, om⟩ := P_o hP hm
    refine (B_56_4 (bk1 hi)).mpr ?_
    rw [if_neg (by rw [P_4 hP hw, qI_le (by omega) (by omega)]; omega)]
    refine (B_56_12 (n1_ := m) (bk1 hi) rfl (by omega) (bk3 hi) (bk4 hi (by omega))).mpr ?_
    rw [o0]
    rw [sumTo, ← qI_succ] at hn
    refine ic (fun g => ?_) (fun g => ?_)
    · refine (B_56_25).mpr ?_
      refine (B_56_28).mpr ?_
      rw [if_pos ⟨g, Or.inl rfl⟩] at hn
      exact hn
    refine (B_56_28).mpr ?_
    rw [if_neg (fun q => g q.1), Int32.add_zero] at hn
    exact hn
theorem k_metOfGrade (hi : i < 12) (hP : PR S i N) (hw : WF N) (hd : 2 ≤ d) {x1 : Int32} : Ret d 57 [vR 1 i 0, vI x1] S (some (vI (aOrdsOf N x1 1))) S := by
  have hc := hw.1.2.1
  refine E_57 ?_
  refine (B_57_0).mpr ?_
  refine wloop (cO N) (fun m => [some (vR 1 i 0), some (vI x1), some (vI (sumTo (fun o => if N (6 + 6 * o) = x1 ∧ ((1 : Int32) = 0 ∨ aMet N o = true) then 1 else 0) m)), some (vI (nI m))]) (fun _ => S) ?_ ?_
  · refine (B_57_4 (bk1 hi)).mpr ?_
    rw [if_pos (by rw [P_4 hP hw]; exact Int32.le_refl _)]
    refine (B_57_42).mpr ?_
    exact ⟨rfl, rfl⟩
  · intro m hm hn
    obtain ⟨⟨o0, o1, o2, o3, o4, o5⟩, ol, om⟩ := P_o hP hm
    refine (B_57_4 (bk1 hi)).mpr ?_
    rw [if_neg (by rw [P_4 hP hw, qI_le (by omega) (by omega)]; omega)]
    refine (B_57_12 (n1_ := m) (bk1 hi) rfl (by omega) (bk3 hi) (bk4 hi (by omega))).mpr ?_
    rw [o0]
    rw [sumTo, ← qI_succ] at hn
    refine ic (fun g => ?_) (fun g => ?_)
    · refine (B_57_25 (by omega) (k_isMet hi hP hw (by omega) hm) (bk1 hi)).mpr ?_
      refine icb (fun g2 => ?_) (fun g2 => ?_)
      · refine (B_57_36).mpr ?_
        rw [if_neg (fun q => by rcases q.2 with q | q; exact absurd q (by decide); rw [g2] at q; exact absurd q (by decide)), Int32.add_zero] at hn
        exact hn
      refine (B_57_33).mpr ?_
      refine (B_57_36).mpr ?_
      rw [if_pos ⟨g, Or.inr g2⟩] at hn
      exact hn
    refine (B_57_36).mpr ?_
    rw [if_neg (fun q => g q.1), Int32.add_zero] at hn
    exact hn
theorem k_rollsLeftOfGrade (hi : i < 12) (hP : PR S i N) (hw : WF N) (hd : 1 ≤ d) {x1 : Int32} : Ret d 58 [vR 1 i 0, vI x1] S (some (vI (aRollsOf N x1 0))) S := by
  have hc := hw.1.2.2.2.1
  refine E_58 ?_
  refine (B_58_0).mpr ?_
  refine wloop (cR N) (fun m => [some (vR 1 i 0), some (vI x1), some (vI (sumTo (fun r => if N (54 + 3 * r) = x1 then (if (0 : Int32) = 0 then (if 0 < aLeft N r then 1 else 0) else N (55 + 3 * r) * aLeft N r) else 0) m)), some (vI (nI m))]) (fun _ => S) ?_ ?_
  · refine (B_58_4 (bk1 hi)).mpr ?_
    rw [if_pos (by rw [P_5 hP hw]; exact Int32.le_refl _)]
    refine (B_58_42).mpr ?_
    exact ⟨rfl, rfl⟩
  · intro m hm hn
    obtain ⟨p0, p1, p2⟩ := P_r hP hm
    refine (B_58_4 (bk1 hi)).mpr ?_
    rw [if_neg (by rw [P_5 hP hw, qI_le (by omega) (by omega)]; omega)]
    refine (B_58_12 (n1_ := m) (bk1 hi) rfl (by omega) (bk5 hi) (bk6 hi (by omega))).mpr ?_
    rw [p0]
    rw [sumTo, ← qI_succ] at hn
    refine ic (fun g => ?_) (fun g => ?_)
    · refine (B_58_25 (by omega) (k_leftOf hi hP hw hm) (bk1 hi)).mpr ?_
      rw [if_pos g, if_pos rfl] at hn
      refine ic (fun g2 => ?_) (fun g2 => ?_)
      · refine (B_58_36).mpr ?_
        rw [if_neg (Int32.not_lt.mpr g2), Int32.add_zero] at hn
        exact hn
      refine (B_58_33).mpr ?_
      refine (B_58_36).mpr ?_
      rw [if_pos (Int32.not_le.mp g2)] at hn
      exact hn
    refine (B_58_36).mpr ?_
    rw [if_neg g, Int32.add_zero] at hn
    exact hn
theorem k_areaLeftOfGrade (hi : i < 12) (hP : PR S i N) (hw : WF N) (hd : 1 ≤ d) {x1 : Int32} : Ret d 59 [vR 1 i 0, vI x1] S (some (vI (aRollsOf N x1 1))) S := by
  have hc := hw.1.2.2.2.1
  refine E_59 ?_
  refine (B_59_0).mpr ?_
  refine wloop (cR N) (fun m => [some (vR 1 i 0), some (vI x1), some (vI (sumTo (fun r => if N (54 + 3 * r) = x1 then (if (1 : Int32) = 0 then (if 0 < aLeft N r then 1 else 0) else N (55 + 3 * r) * aLeft N r) else 0) m)), some (vI (nI m))]) (fun _ => S) ?_ ?_
  · refine (B_59_4 (bk1 hi)).mpr ?_
    rw [if_pos (by rw [P_5 hP hw]; exact Int32.le_refl _)]
    refine (B_59_49).mpr ?_
    exact ⟨rfl, rfl⟩
  · intro m hm hn
    obtain ⟨p0, p1, p2⟩ := P_r hP hm
    refine (B_59_4 (bk1 hi)).mpr ?_
    rw [if_neg (by rw [P_5 hP hw, qI_le (by omega) (by omega)]; omega)]
    refine (B_59_12 (n1_ := m) (bk1 hi) rfl (by omega) (bk5 hi) (bk6 hi (by omega))).mpr ?_
    rw [p0]
    rw [sumTo, ← qI_succ] at hn
    refine ic (fun g => ?_) (fun g => ?_)
    · refine (B_59_25 (n1_ := m) (by omega) (bk1 hi) rfl (by omega) (bk5 hi) (bk6 hi (by omega)) (k_leftOf hi hP hw hm)).mpr ?_
      refine (B_59_43).mpr ?_
      rw [if_pos g, if_neg (by decide)] at hn
      rw [p1]
      exact hn
    refine (B_59_43).mpr ?_
    rw [if_neg g, Int32.add_zero] at hn
    exact hn
theorem k_wasteOfGrade (hi : i < 12) (hP : PR S i N) (hw : WF N) (hd : 2 ≤ d) {x1 : Int32} : Ret d 60 [vR 1 i 0, vI x1] S (some (vI (aWasG N x1))) S := by
  have hc := hw.1.2.2.2.2.2
  refine E_60 ?_
  refine (B_60_0).mpr ?_
  refine wloop (cU N) (fun m => [some (vR 1 i 0), some (vI x1), some (vI (sumTo (fun u => if grR N u = x1 then nI (aWas N u) else 0) m)), some (vI (nI m))]) (fun _ => S) ?_ ?_
  · refine (B_60_4 (bk1 hi)).mpr ?_
    rw [if_pos (by rw [P_6 hP hw]; exact Int32.le_refl _)]
    refine (B_60_51).mpr ?_
    exact ⟨rfl, rfl⟩
  · intro m hm hn
    have hj := P_j hP (u := m) (by omega)
    have hR := P_u hP hm
    obtain ⟨-, e0, hr, hr12, -⟩ := wf_run hw hm
    refine (B_60_4 (bk1 hi)).mpr ?_
    rw [if_neg (by rw [P_6 hP hw, qI_le (by omega) (by omega)]; omega)]
    refine (B_60_12 (n1_ := m) (m2_ := jx S i m) (n3_ := nv N (90 + 12 * m)) (bk1 hi) rfl (by omega) rfl (bk7 hi) (bk8 hi hj) (hR.1.trans e0) hr12 (bk5 hi) (bk6 hi hr12)).mpr ?_
    rw [(P_r hP hr).1]
    rw [sumTo, ← qI_succ] at hn
    refine ic (fun g => ?_) (fun g => ?_)
    · refine (B_60_33 (n1_ := m) (m2_ := jx S i m) (by omega) (bk1 hi) rfl (by omega) rfl (bk7 hi) (k_wasteR hi hj hR hw hm (by omega)) (bk8 hi hj)).mpr ?_
      refine (B_60_45).mpr ?_
      rw [if_pos (show grR N m = x1 from g)] at hn
      exact hn
    refine (B_60_45).mpr ?_
    rw [if_neg (show ¬ grR N m = x1 from g), Int32.add_zero] at hn
    exact hn
/-- what a run's strips for better orders are wide -/
def aWor (N : NV) (g : Int32) (u : Nat) : Nat → Int32 := sumTo (fun o => if g < N (6 + 6 * o) then N (94 + 12 * u + o) * N (7 + 6 * o) else 0)
theorem aGivU_eq (g : Int32) (u : Nat) (x : Int32) : ∀ n, aGivU N g u x n = x + (if grR N u = g then aWor N g u n * N (91 + 12 * u) else 0) := by
  intro n
  induction n with
  | zero =>
    show x = _
    split
    · rw [show aWor N g u 0 = 0 from rfl]; grind
    · rw [Int32.add_zero]
  | succ n ih =>
    rw [aGivU, ih]
    by_cases h : grR N u = g
    · rw [if_pos h, if_pos h, show aWor N g u (n + 1) = aWor N g u n + (if g < N (6 + 6 * n) then N (94 + 12 * u + n) * N (7 + 6 * n) else 0) from rfl]
      by_cases h2 : g < N (6 + 6 * n)
      · rw [if_pos ⟨h, h2⟩, if_pos h2]; grind
      · rw [if_neg (fun q => h2 q.2), if_neg h2]; grind
    · rw [if_neg h, if_neg h, if_neg (fun q => h q.1)]; grind
theorem k_worseIn (hi : i < 12) (hP : PR S i N) (hw : WF N) {j u : Nat} (hj : j < 16) (hR : RR S i j N u) {x2 : Int32} : Ret d 62 [vR 1 i 0, vR 8 i j, vI x2] S (some (vI (aWor N x2 u (cO N) * N (91 + 12 * u)))) S := by
  have hc := hw.1.2.1
  refine E_62 ?_
  refine (B_62_0).mpr ?_
  refine wloop (cO N) (fun m => [some (vR 1 i 0), some (vR 8 i j), some (vI x2), some (vI (aWor N x2 u m)), some (vI (nI m))]) (fun _ => S) ?_ ?_
  · refine (B_62_5 (bk1 hi)).mpr ?_
    rw [if_pos (by rw [P_4 hP hw]; exact Int32.le_refl _)]
    refine (B_62_55 (bk8 hi hj)).mpr ?_
    rw [hR.2.1]
    exact ⟨rfl, rfl⟩
  · intro m hm hn
    obtain ⟨⟨o0, o1, o2, o3, o4, o5⟩, ol, om⟩ := P_o hP hm
    refine (B_62_5 (bk1 hi)).mpr ?_
    rw [if_neg (by rw [P_4 hP hw, qI_le (by omega) (by omega)]; omega)]
    refine (B_62_14 (n1_ := m) (bk1 hi) rfl (by omega) (bk3 hi) (bk4 hi (by omega))).mpr ?_
    rw [o0]
    rw [show aWor N x2 u (m + 1) = aWor N x2 u m + (if x2 < N (6 + 6 * m) then N (94 + 12 * u + m) * N (7 + 6 * m) else 0) from rfl, ← qI_succ] at hn
    refine ic (fun g => ?_) (fun g => ?_)
    · refine (B_62_49).mpr ?_
      rw [if_neg (Int32.not_lt.mpr g), Int32.add_zero] at hn
      exact hn
    refine (B_62_28 (n1_ := m) (n2_ := m) (bk8 hi hj) rfl (by omega) (bk9 hi hj) (bk1 hi) rfl (by omega) (bk3 hi) (bk4 hi (by omega))).mpr ?_
    refine (B_62_49).mpr ?_
    rw [if_pos (Int32.not_le.mp g)] at hn
    rw [hR.2.2.2.2.2.2.1 m (by omega), o1]
    exact hn
theorem k_areaForWorse (hi : i < 12) (hP : PR S i N) (hw : WF N) (hd : 1 ≤ d) {x1 : Int32} : Ret d 61 [vR 1 i 0, vI x1] S (some (vI (aGiv N x1))) S := by
  have hc := hw.1.2.2.2.2.2
  refine E_61 ?_
  refine (B_61_0).mpr ?_
  refine wloop (cU N) (fun m => [some (vR 1 i 0), some (vI x1), some (vI (aGivTo N x1 m)), some (vI (nI m))]) (fun _ => S) ?_ ?_
  · refine (B_61_4 (bk1 hi)).mpr ?_
    rw [if_pos (by rw [P_6 hP hw]; exact Int32.le_refl _)]
    refine (B_61_53).mpr ?_
    exact ⟨rfl, rfl⟩
  · intro m hm hn
    have hj := P_j hP (u := m) (by omega)
    have hR := P_u hP hm
    obtain ⟨-, e0, hr, hr12, -⟩ := wf_run hw hm
    refine (B_61_4 (bk1 hi)).mpr ?_
    rw [if_neg (by rw [P_6 hP hw, qI_le (by omega) (by omega)]; omega)]
    refine (B_61_12 (n1_ := m) (m2_ := jx S i m) (n3_ := nv N (90 + 12 * m)) (bk1 hi) rfl (by omega) rfl (bk7 hi) (bk8 hi hj) (hR.1.trans e0) hr12 (bk5 hi) (bk6 hi hr12)).mpr ?_
    rw [(P_r hP hr).1]
    rw [show aGivTo N x1 (m + 1) = aGivU N x1 m (aGivTo N x1 m) (cO N) from rfl, aGivU_eq, ← qI_succ] at hn
    refine ic (fun g => ?_) (fun g => ?_)
    · refine (B_61_33 (n1_ := m) (m2_ := jx S i m) (by omega) (bk1 hi) rfl (by omega) rfl (bk7 hi) (k_worseIn hi hP hw hj hR)).mpr ?_
      refine (B_61_47).mpr ?_
      rw [if_pos (show grR N m = x1 from g)] at hn
      exact hn
    refine (B_61_47).mpr ?_
    rw [if_neg (show ¬ grR N m = x1 from g), Int32.add_zero] at hn
    exact hn
end M16d
