/-! THE CLASS, 12: split, keep; remove, swap, split, keep as calls -/
section M17g
variable {d : Nat} {S : bSt} {N : NV} {i : Nat}
theorem k_divide (hi : i < 12) (hP : PR S i N) (hw : WF N) (hd : 2 ≤ d) {x1 x2 : Int32} : Wm d 44 [vR 1 i 0, vI x1, vI x2] S (fun q S' => q = some (vI (aSplt N x1 x2).1) ∧ fK i S S' ∧ PR S' i (aSplt N x1 x2).2) := by
  refine EW_44 ?_
  refine (B_44_0 (by omega) (k_hasRun hi hP hw) (bk1 hi)).mpr ?_
  unfold aSplt
  refine icb (fun g => ?_) (fun g => ?_)
  · refine (B_44_8).mpr ?_
    rw [if_neg (by rw [g]; decide)]
    exact ⟨rfl, fK_refl _ _, hP⟩
  rw [if_pos g]
  obtain ⟨u, rfl, hu, h16⟩ := vU_ix hw.1 g
  rw [nI_clamp (by omega)]
  have hj := P_j hP h16
  have c16 := hw.1.2.2.2.2.2
  have hR := P_u hP hu
  refine (B_44_10 (n1_ := u) (m2_ := jx S i u) (bk1 hi) rfl h16 rfl (bk7 hi)).mpr ?_
  refine ic (fun g1 => ?_) (fun g1 => ?_)
  · refine (B_44_30).mpr ?_
    rw [if_pos (Or.inl g1)]
    exact ⟨rfl, fK_refl _ _, hP⟩
  refine (B_44_22 (bk8 hi hj)).mpr ?_
  rw [hR.2.1]
  rotate_left
  refine ic (fun g2 => ?_) (fun g2 => ?_)
  · rw [if_neg (fun q => by rcases q with q | q; exact g1 q; exact q g2)]
    refine (B_44_33 (by omega) (k_isKept hi hj hR hw hu) (bk8 hi hj)).mpr ?_
    refine icb (fun g3 => ?_) (fun g3 => ?_)
    · have hk : N (93 + 12 * u) = -5 := by simpa using g3
      rw [if_pos hk]
      refine (B_44_43 (bk1 hi)).mpr ?_
      rw [P_6 hP hw]
      rotate_left
      refine icT (qI_lt (b := 16) (by omega) (by omega)) (fun g4 => ?_) (fun g4 => ?_)
      · rw [if_neg (show ¬ N 5 = 16 from by rw [hw.1.2.2.2.2.1, show (16 : Int32) = nI 16 from rfl, qI_eq (by omega) (by omega)]; omega)]
        have hj2 := P_j hP g4
        have hX := PR_IX hP
        have hne : jx S i u ≠ jx S i (cU N) := fun q => by have := hX.2 u (cU N) h16 g4 q; omega
        obtain ⟨q, S1, e1, rfl, f1, r1⟩ := Wm_ex (k_copyR (d := d - 1) (S := S) (a := i) (b := i) (j := jx S i (cU N)) (j' := jx S i u) hi hi (fun q => hne q.2) hj2 hj)
        -- behind the copy: lengths, count
        have same1 : ∀ k j m, ¬ ((k = 8 ∨ k = 9 ∨ k = 10) ∧ j = jx S i (cU N)) → S1 k i j m = S k i j m := fun k j m h => f1 k i j m (fun q => h ⟨q.1, q.2.2⟩)
        have e6 : S1 1 i 0 6 = nI (cU N) := by rw [same1 _ _ _ (by omega)]; exact P_6 hP hw
        have e81 : S1 8 i (jx S i u) 1 = N (91 + 12 * u) := by rw [same1 _ _ _ (fun q => hne q.2)]; exact hR.2.1
        let T : bSt := sUp (sUp (sUp S1 8 i (jx S i (cU N)) 1 (N (91 + 12 * u) - x2)) 8 i (jx S i u) 1 x2) 1 i 0 6 (nI (cU N + 1))
        have eT : sUp (sUp (sUp S1 8 i (jx S i (cU N)) 1 (S1 8 i (jx S i u) 1 - x2)) 8 i (jx S i u) 1 x2) 1 i 0 6 ((sUp (sUp S1 8 i (jx S i (cU N)) 1 (S1 8 i (jx S i u) 1 - x2)) 8 i (jx S i u) 1 x2) 1 i 0 6 + 1) = T := by
          rw [sUp_kind (by decide), sUp_kind (by decide), e6, qI_succ, e81]
        have t7 : ∀ m, T 7 i 0 m = S 7 i 0 m := fun m => by
          show sUp _ 1 i 0 6 _ 7 i 0 m = _
          rw [sUp_kind (by decide), sUp_kind (by decide), sUp_kind (by decide), same1 _ _ _ (by omega)]
        have hXT : IX T i := IX_eq t7 hX
        have ejT : ∀ u, jx T i u = jx S i u := fun u => by unfold jx; rw [t7]
        obtain ⟨q, S2, e2, rfl, f2, h2⟩ := Wm_ex (k_moveRun (d := d - 1) hi hXT (a := cU N) (b := u + 1) g4 (by omega))
        refine (B_44_55 (n1_ := cU N) (m2_ := jx S i (cU N)) (by omega) (bk1 hi) (P_6 hP hw) g4 rfl (bk7 hi) e1 (bk8 hi hj2) (bk8 hi hj) (by rw [eT, show T 1 i 0 6 = nI (cU N + 1) from sUp_same, nI_m1, qI_succ]; exact e2)).mpr ?_
        have hy : (1 : Int32) ≤ x2 := Int32.not_lt.mp g1
        have s2 : ∀ k j m, k ≠ 7 → S2 k i j m = T k i j m := fun k j m h => f2 k i j m (fun q => h q.1)
        have t8 : ∀ k j m, k ≠ 1 → (k = 8 → ¬ (j = jx S i (cU N) ∧ m = 1) ∧ ¬ (j = jx S i u ∧ m = 1)) → T k i j m = S1 k i j m := by
          intro k j m h1 h8
          show sUp (sUp (sUp S1 8 i (jx S i (cU N)) 1 (N (91 + 12 * u) - x2)) 8 i (jx S i u) 1 x2) 1 i 0 6 (nI (cU N + 1)) k i j m = _
          rw [sUp_kind h1]
          unfold sUp
          rw [if_neg (fun q => (h8 q.1).2 ⟨q.2.2.1, q.2.2.2⟩), if_neg (fun q => (h8 q.1).1 ⟨q.2.2.1, q.2.2.2⟩)]
        have fT : fK i S T := by
          refine fK_up (fK_up (fK_up (fun k i' j m hk => f1 k i' j m (fun q => hk ⟨by omega, by omega, q.2.1⟩)) (by omega) (by omega)) (by omega) (by omega)) (by omega) (by omega)
        have ej2 : ∀ v, v < 16 → jx S2 i v = jx S i (mvI (cU N) (u + 1) v) := fun v hv => by rw [jx_of (h2 v hv) (by rw [ejT]; exact (hX.1 _ (mvI_lt g4 (by omega) hv)).2), ejT]
        refine ⟨rfl, fK_trans fT (fAd_K f2 (by omega) (by omega)), ?_⟩
        show PR S2 i (nSpl N u x2)
        have hP' := hP
        obtain ⟨⟨a0, a1, a2⟩, ⟨b4, b5, b6⟩, co, cr, ex, ey, cu⟩ := hP'
        have low : ∀ k j m, k ≠ 7 → k ≠ 8 → k ≠ 9 → k ≠ 10 → ¬ (k = 1 ∧ j = 0 ∧ m = 6) → S2 k i j m = S k i j m := by
          intro k j m q7 q8 q9 q10 q1
          rw [s2 k j m q7]
          show sUp (sUp (sUp S1 8 i (jx S i (cU N)) 1 (N (91 + 12 * u) - x2)) 8 i (jx S i u) 1 x2) 1 i 0 6 (nI (cU N + 1)) k i j m = _
          have : ∀ X : bSt, sUp X 1 i 0 6 (nI (cU N + 1)) k i j m = X k i j m := fun X => by
            unfold sUp
            rw [if_neg (fun q => q1 ⟨q.1, q.2.2.1, q.2.2.2⟩)]
          rw [this, sUp_kind q8, sUp_kind q8, same1 _ _ _ (by omega)]
        have hcUs : cU (nSpl N u x2) = cU N + 1 := cU_n (by unfold nSpl; rw [if_pos rfl, hw.1.2.2.2.2.1, qI_succ]) (by omega)
        refine ⟨⟨by rw [low _ _ _ (by omega) (by omega) (by omega) (by omega) (by omega), nSpl_lo (by omega) (by omega)]; exact a0, by rw [low _ _ _ (by omega) (by omega) (by omega) (by omega) (by omega), nSpl_lo (by omega) (by omega)]; exact a1, by rw [low _ _ _ (by omega) (by omega) (by omega) (by omega) (by omega), nSpl_lo (by omega) (by omega)]; exact a2⟩, ⟨by rw [low _ _ _ (by omega) (by omega) (by omega) (by omega) (by omega), nSpl_lo (by omega) (by omega)]; exact b4, by rw [low _ _ _ (by omega) (by omega) (by omega) (by omega) (by omega), nSpl_lo (by omega) (by omega)]; exact b5, ?_⟩, fun o ho => ?_, fun r hr => ?_, fun v hv => ?_, fun v w hv hw' he => ?_, fun v hv => ?_⟩
        · rw [s2 _ _ _ (by omega), show T 1 i 0 6 = nI (cU N + 1) from sUp_same]
          unfold nSpl
          rw [if_pos rfl, hw.1.2.2.2.2.1, qI_succ]
        · rw [cO_c (N := N) (nSpl_lo (by omega) (by omega))] at ho
          have c8 := hw.1.2.1
          have := OR_c (N' := nSpl N u x2) (fun k h1 h2 => nSpl_lo (by omega) (by omega)) (co o ho)
          unfold OR at *
          simp only [show ∀ j m, S2 4 i j m = S 4 i j m from fun j m => low 4 j m (by omega) (by omega) (by omega) (by omega) (by omega)]
          exact this
        · rw [cR_c (N := N) (nSpl_lo (by omega) (by omega))] at hr
          have c12 := hw.1.2.2.2.1
          rw [low 6 _ _ (by omega) (by omega) (by omega) (by omega) (by omega), low 6 _ _ (by omega) (by omega) (by omega) (by omega) (by omega), low 6 _ _ (by omega) (by omega) (by omega) (by omega) (by omega), nSpl_lo (by omega) (by omega), nSpl_lo (by omega) (by omega), nSpl_lo (by omega) (by omega)]
          exact cr r hr
        · rw [ej2 v hv, h2 v hv, ejT]
          exact ⟨rfl, (hX.1 _ (mvI_lt g4 (by omega) hv)).2⟩
        · rw [ej2 v hv, ej2 w hw'] at he
          exact mvI_inj (hX.2 _ _ (mvI_lt g4 (by omega) hv) (mvI_lt g4 (by omega) hw') he)
        · rw [hcUs] at hv
          rw [ej2 v (by omega)]
          have c8 := hw.1.2.1
          have c12 := hw.1.2.2.2.1
          -- the rows of the new runs
          have src : (if v ≤ u then v else v - 1) < cU N := by split <;> omega
          generalize hsv : (if v ≤ u then v else v - 1) = w at src
          have rr : ∀ m, m < 12 → m ≠ 1 → nSpl N u x2 (90 + 12 * v + m) = N (90 + 12 * w + m) := fun m hm h1 => by rw [nSpl_run hm (by omega) (fun q => absurd q h1), hsv]
          have r2 := rr 2 (by omega) (by omega)
          have r3 := rr 3 (by omega) (by omega)
          rw [show 90 + 12 * v + 2 = 92 + 12 * v by omega, show 90 + 12 * w + 2 = 92 + 12 * w by omega] at r2
          rw [show 90 + 12 * v + 3 = 93 + 12 * v by omega, show 90 + 12 * w + 3 = 93 + 12 * w by omega] at r3
          have rs : ∀ o, o < 8 → nSpl N u x2 (94 + 12 * v + o) = N (94 + 12 * w + o) := fun o ho => by
            have := rr (4 + o) (by omega) (by omega)
            rw [show 90 + 12 * v + (4 + o) = 94 + 12 * v + o by omega, show 90 + 12 * w + (4 + o) = 94 + 12 * w + o by omega] at this
            exact this
          obtain ⟨-, -, hq, hq12, -⟩ := wf_run hw src
          have h7w := aPos_le hw src
          have hwi : w < 16 := by omega
          by_cases gv : v = u + 1
          · -- the second part
            subst gv
            rw [show mvI (cU N) (u + 1) (u + 1) = cU N from by unfold mvI; rw [if_pos rfl]]
            obtain rfl : w = u := by rw [← hsv, if_neg (by omega)]; omega
            obtain ⟨q1, q2, q3⟩ := r1
            have tk : ∀ k m, k = 9 ∨ k = 10 → S2 k i (jx S i (cU N)) m = S1 k i (jx S i (cU N)) m := fun k m h => by rw [s2 _ _ _ (by omega), t8 _ _ _ (by omega) (by omega)]
            have t8' : ∀ m, m ≠ 1 → S2 8 i (jx S i (cU N)) m = S1 8 i (jx S i (cU N)) m := fun m h => by rw [s2 _ _ _ (by omega), t8 _ _ _ (by omega) (fun _ => ⟨fun q => h q.2, fun q => h q.2⟩)]
            refine RR_g (S := S) (j' := jx S i w) (by rw [t8' _ (by omega)]; exact q1 0 (by omega)) (by rw [t8' _ (by omega)]; exact q1 2 (by omega)) (by rw [t8' _ (by omega)]; exact q1 3 (by omega)) (by rw [t8' _ (by omega)]; exact q1 5 (by omega)) (fun o ho => by rw [tk _ _ (by omega)]; exact q2 o ho) (fun k hk => by rw [tk _ _ (by omega)]; exact q3 k hk) h7w (rr 0 (by omega) (by omega)) ?_ r2 (by rw [t8' _ (by omega), r3]; exact (q1 4 (by omega)).trans (cu w src).2.2.2.2.1) rs (nSpl_lo (by omega) (by omega)) (fun o ho hz => by have := wf_s7 hw src ho hz; exact nSpl_lo (by omega) (by omega)) (cu w src)
            rw [nSpl_l2, s2 _ _ _ (by omega)]
            show sUp (sUp (sUp S1 8 i (jx S i (cU N)) 1 (N (91 + 12 * w) - x2)) 8 i (jx S i w) 1 x2) 1 i 0 6 (nI (cU N + 1)) 8 i (jx S i (cU N)) 1 = _
            rw [sUp_kind (by decide), sUp_j (fun q => hne q.symm), sUp_same]
          · have emv : mvI (cU N) (u + 1) v = w := by
              rw [← hsv]
              unfold mvI
              rw [if_neg gv, if_neg (by omega)]
              by_cases gl : v ≤ u
              · rw [if_neg (by omega), if_pos gl]
              · rw [if_pos (by omega), if_neg gl]
            rw [emv]
            have hwc : jx S i w ≠ jx S i (cU N) := fun q => by have := hX.2 w (cU N) hwi g4 q; omega
            have tk : ∀ k m, k = 9 ∨ k = 10 → S2 k i (jx S i w) m = S k i (jx S i w) m := fun k m h => by rw [s2 _ _ _ (by omega), t8 _ _ _ (by omega) (by omega), same1 _ _ _ (fun q => hwc q.2)]
            have t8' : ∀ m, m ≠ 1 → S2 8 i (jx S i w) m = S 8 i (jx S i w) m := fun m h => by rw [s2 _ _ _ (by omega), t8 _ _ _ (by omega) (fun _ => ⟨fun q => h q.2, fun q => h q.2⟩), same1 _ _ _ (fun q => hwc q.2)]
            refine RR_g (S := S) (j' := jx S i w) (t8' _ (by omega)) (t8' _ (by omega)) (t8' _ (by omega)) (t8' _ (by omega)) (fun o ho => tk _ _ (by omega)) (fun k hk => tk _ _ (by omega)) h7w (rr 0 (by omega) (by omega)) ?_ r2 (by rw [t8' _ (by omega), r3]; exact (cu w src).2.2.2.2.1) rs (nSpl_lo (by omega) (by omega)) (fun o ho hz => by have := wf_s7 hw src ho hz; exact nSpl_lo (by omega) (by omega)) (cu w src)
            rw [s2 _ _ _ (by omega)]
            show sUp (sUp (sUp S1 8 i (jx S i (cU N)) 1 (N (91 + 12 * u) - x2)) 8 i (jx S i u) 1 x2) 1 i 0 6 (nI (cU N + 1)) 8 i (jx S i w) 1 = _
            rw [sUp_kind (by decide)]
            by_cases gw : w = u
            · subst gw
              have : v = w := by
                rw [← hsv]
                by_cases gl : v ≤ w
                · rw [if_pos gl]
                · rw [if_neg gl] at hsv; omega
              rw [sUp_same, this, nSpl_l1]
            · have hwu : jx S i w ≠ jx S i u := fun q => gw (hX.2 w u hwi h16 q)
              rw [sUp_j hwu, sUp_j hwc, same1 _ _ _ (fun q => hwc q.2)]
              have hvu : v ≠ u := fun q => by
                apply gw
                rw [← hsv, q, if_pos (Nat.le_refl _)]
              have r11 := nSpl_run (N := N) (u := u) (v := v) (i := 1) (l := x2) (by omega) (by omega) (fun _ => ⟨hvu, gv⟩)
              rw [hsv, show 90 + 12 * v + 1 = 91 + 12 * v by omega, show 90 + 12 * w + 1 = 91 + 12 * w by omega] at r11
              rw [r11]
              exact (cu w src).2.1
      refine (B_44_52).mpr ?_
      rw [if_pos (show N 5 = 16 from by rw [hw.1.2.2.2.2.1, show cU N = 16 by omega]; rfl)]
      exact ⟨rfl, fK_refl _ _, hP⟩
    refine (B_44_40).mpr ?_
    rw [if_neg (by simpa using g3)]
    exact ⟨rfl, fK_refl _ _, hP⟩
  refine (B_44_30).mpr ?_
  rw [if_pos (Or.inr g2)]
  exact ⟨rfl, fK_refl _ _, hP⟩
theorem k_keepRemnant (hi : i < 12) (hP : PR S i N) (hw : WF N) (hd : 1 ≤ d) {x1 : Int32} : Wm d 45 [vR 1 i 0, vI x1] S (fun q S' => q = some (vI (aKeep N x1).1) ∧ fK i S S' ∧ PR S' i (aKeep N x1).2) := by
  refine EW_45 ?_
  refine (B_45_0 (by omega) (k_hasRun hi hP hw) (bk1 hi)).mpr ?_
  unfold aKeep
  refine icb (fun g => ?_) (fun g => ?_)
  · refine (B_45_8).mpr ?_
    rw [if_neg (by rw [g]; decide)]
    exact ⟨rfl, fK_refl _ _, hP⟩
  rw [if_pos g]
  obtain ⟨u, rfl, hu, h16⟩ := vU_ix hw.1 g
  rw [nI_clamp (by omega)]
  have hj := P_j hP h16
  have c16 := hw.1.2.2.2.2.2
  have c12 := hw.1.2.2.2.1
  have hR := P_u hP hu
  refine (B_45_10 (n1_ := u) (m2_ := jx S i u) (by omega) (bk1 hi) rfl h16 rfl (bk7 hi) (k_isKept hi hj hR hw hu) (bk8 hi hj)).mpr ?_
  refine icb (fun g2 => ?_) (fun g2 => ?_)
  · have hk : N (93 + 12 * u) = -5 := by simpa using g2
    refine (B_45_24 (by omega) (k_remW hi hj hR hw hu) (bk8 hi hj) (bk1 hi) (bk2 hi)).mpr ?_
    rw [hP.1.2.2]
    rotate_left
    refine ic (fun g3 => ?_) (fun g3 => ?_)
    · rw [if_neg (fun q => by rcases q with q | q; exact q hk; exact Int32.not_lt.mpr g3 q)]
      refine (B_45_40 (bk1 hi)).mpr ?_
      rw [P_5 hP hw]
      rotate_left
      refine icT (qI_lt (b := 12) (by omega) (by omega)) (fun g4 => ?_) (fun g4 => ?_)
      · rw [if_neg (show ¬ N 4 = 12 from by rw [hw.1.2.2.1, show (12 : Int32) = nI 12 from rfl, qI_eq (by omega) (by omega)]; omega)]
        obtain ⟨-, e0, hq, hq12, -⟩ := wf_run hw hu
        obtain ⟨q, S1, e1, rfl, f1, s8, p1⟩ := Wm_ex (k_storeRoll (d := d - 1) hi hP hw g4 (x1 := grR N u) (x2 := nI (aRemW N u)) (x3 := N (91 + 12 * u)))
        refine (B_45_52 (n1_ := nv N (90 + 12 * u)) (by omega) (bk1 hi) (bk8 hi hj) (hR.1.trans e0) hq12 (bk5 hi) (bk6 hi hq12) (k_remW hi hj hR hw hu) (by rw [(P_r hP hq).1, hR.2.1]; exact e1)).mpr ?_
        refine ⟨by rw [sUp_same], fK_up f1 (by omega) (by omega), ?_⟩
        show PR (sUp S1 8 i (jx S i u) 4 (N 4)) i (upd (nRoll N (grR N u) (nI (aRemW N u)) (N (91 + 12 * u))) (93 + 12 * u) (N 4))
        have hMU : cU (nRoll N (grR N u) (nI (aRemW N u)) (N (91 + 12 * u))) = cU N := cU_c (nRoll_ne (by omega) (by omega))
        have ej1 : jx S1 i u = jx S i u := by
          unfold jx
          rw [s8 7 _ _ (Or.inl rfl)]
        generalize hM : nRoll N (grR N u) (nI (aRemW N u)) (N (91 + 12 * u)) = M at *
        have hMO : cO M = cO N := cO_c (by rw [← hM]; exact nRoll_ne (by omega) (by omega))
        have c8 := hw.1.2.1
        obtain ⟨⟨a0, a1, a2⟩, ⟨b4, b5, b6⟩, co, cr, ex, ey, cu⟩ := p1
        have hM4 : M 4 = nI (cR N + 1) := by rw [← hM, nRoll_4, hw.1.2.2.1, qI_succ]
        have ej : ∀ v, jx (sUp S1 8 i (jx S i u) 4 (N 4)) i v = jx S1 i v := fun v => by unfold jx; rw [sUp_kind (by decide)]
        refine ⟨⟨by rw [sUp_kind (by decide), upd_ne (by omega)]; exact a0, by rw [sUp_kind (by decide), upd_ne (by omega)]; exact a1, by rw [sUp_kind (by decide), upd_ne (by omega)]; exact a2⟩, ⟨by rw [sUp_kind (by decide), upd_ne (by omega)]; exact b4, by rw [sUp_kind (by decide), upd_ne (by omega)]; exact b5, by rw [sUp_kind (by decide), upd_ne (by omega)]; exact b6⟩, fun o ho => ?_, fun r hr => ?_, fun v hv => ?_, fun v w hv hw' he => ?_, fun v hv => ?_⟩
        · rw [cO_c (N := M) (upd_ne (by omega))] at ho
          have := OR_c (N' := upd M (93 + 12 * u) (N 4)) (fun k h1 h2 => upd_ne (by omega)) (co o ho)
          unfold OR at *
          simp only [sUp_kind (show 4 ≠ 8 by decide)]
          exact this
        · rw [cR_c (N := M) (upd_ne (by omega))] at hr
          have hr' := hr
          rw [cR_n hM4 (by omega)] at hr'
          rw [sUp_kind (by decide), sUp_kind (by decide), sUp_kind (by decide), upd_ne (by omega), upd_ne (by omega), upd_ne (by omega)]
          exact cr r hr
        · rw [sUp_kind (by decide), ej]; exact ex v hv
        · rw [ej, ej] at he; exact ey v w hv hw' he
        · rw [cU_c (N := M) (upd_ne (by omega)), hMU] at hv
          have hRv := cu v (by rw [hMU]; exact hv)
          rw [ej]
          have hMw : WF M := by
            obtain ⟨hg1, -, hg3⟩ := (hw.2.2.2.1 _ hq).1
            obtain ⟨hl1, hl2, hl3⟩ := (hw.2.2.2.2.1 u hu).2.1
            obtain ⟨hs1, hs2, hs3⟩ := hw.2.1.2.2
            have h300 : aRemW N u ≤ 300 := by have := aRest_le hw hu; unfold aRemW; omega
            have g3' := g3
            rw [hs1, qI_le (by omega) (by omega)] at g3'
            rw [← hM, show grR N u = nI (nv N (54 + 3 * nv N (90 + 12 * u))) from hg1, hl1]
            exact WF_nRoll hw g4 hg3 ⟨by omega, h300⟩ ⟨hl2, hl3⟩
          have hv' : v < cU M := by rw [hMU]; exact hv
          obtain ⟨-, -, hqv, hqv12, -⟩ := wf_run hMw hv'
          have h7v := aPos_le hMw hv'
          refine RR_g (S := S1) (S' := sUp S1 8 i (jx S i u) 4 (N 4)) (N := M) (N' := upd M (93 + 12 * u) (N 4)) (u := v) (v := v) (j' := jx S1 i v) ?_ ?_ ?_ ?_ (fun o ho => sUp_kind (by decide)) (fun k hk => sUp_kind (by decide)) h7v (upd_ne (by omega)) ?_ (upd_ne (by omega)) ?_ (fun o ho => upd_ne (by omega)) (upd_ne (by omega)) (fun o ho hz => upd_ne (by omega)) hRv
          · by_cases gj : jx S1 i v = jx S i u
            · rw [gj, sUp_slot (by decide)]
            · rw [sUp_j gj]
          · by_cases gj : jx S1 i v = jx S i u
            · rw [gj, sUp_slot (by decide)]
            · rw [sUp_j gj]
          · by_cases gj : jx S1 i v = jx S i u
            · rw [gj, sUp_slot (by decide)]
            · rw [sUp_j gj]
          · by_cases gj : jx S1 i v = jx S i u
            · rw [gj, sUp_slot (by decide)]
            · rw [sUp_j gj]
          · rw [upd_ne (by omega)]
            by_cases gj : jx S1 i v = jx S i u
            · rw [gj, sUp_slot (by decide), ← gj]; exact hRv.2.1
            · rw [sUp_j gj]; exact hRv.2.1
          · by_cases gj : jx S1 i v = jx S i u
            · have : v = u := ey v u (by omega) h16 (gj.trans ej1.symm)
              subst this
              rw [gj, sUp_same, upd_same]
            · have : v ≠ u := fun q => gj (by rw [q]; exact ej1)
              rw [sUp_j gj, upd_ne (by omega)]
              exact hRv.2.2.2.2.1
      refine (B_45_49).mpr ?_
      rw [if_pos (show N 4 = 12 from by rw [hw.1.2.2.1, show cR N = 12 by omega]; rfl)]
      exact ⟨rfl, fK_refl _ _, hP⟩
    refine (B_45_37).mpr ?_
    rw [if_pos (Or.inr (Int32.not_le.mp g3))]
    exact ⟨rfl, fK_refl _ _, hP⟩
  refine (B_45_37).mpr ?_
  rw [if_pos (Or.inl (by simpa using g2))]
  exact ⟨rfl, fK_refl _ _, hP⟩
end M17g
