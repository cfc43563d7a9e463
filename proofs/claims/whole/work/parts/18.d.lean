/-! THE CLASS: rolls are cut; cut, cutAll, best, patterns, ifAll -/
section M18d
variable {d : Nat} {S : bSt} {N : NV} {i : Nat}
theorem k_greatest (hi : i < 12) (hP : PR S i N) (hw : WF N) (hd : 2 ≤ d) {k3 : Nat} (hk3 : k3 = 16 ∨ k3 = 28) {r : Nat} (hr : r < cR N) {row : NV} (hrow : ∀ m, m < 8 → S k3 0 0 m = row m) : Ret d 34 [vR 1 i 0, vI (nI r), vR k3 0 0] S (some (vI (mnTo (aLeft N r) row (aRoom N) (cO N)))) S := by
  have h8 := hw.1.2.1
  have ha : bArr k3 0 = true := by rcases hk3 with rfl | rfl <;> rfl
  have hb : bok k3 0 0 = true := by rcases hk3 with rfl | rfl <;> rfl
  have hl : 8 ≤ bLen k3 := by rcases hk3 with rfl | rfl <;> decide
  refine E_34 ?_
  refine (B_34_0 (by omega) (k_leftOf hi hP hw hr) (bk1 hi)).mpr ?_
  refine wloop (cO N) (fun m => [some (vR 1 i 0), some (vI (nI r)), some (vR k3 0 0), some (vI (mnTo (aLeft N r) row (aRoom N) m)), some (vI (nI m))]) (fun _ => S) ?_ ?_
  · refine (B_34_9 (bk1 hi)).mpr ?_
    rw [if_pos (by rw [P_4 hP hw]; exact Int32.le_refl _)]
    refine (B_34_47).mpr ?_
    exact ⟨rfl, rfl⟩
  · intro m hm hn
    refine (B_34_9 (bk1 hi)).mpr ?_
    rw [if_neg (by rw [P_4 hP hw, qI_le (by omega) (by omega)]; omega)]
    refine (B_34_18 (n1_ := m) (by omega) rfl (by omega) ha hb).mpr ?_
    rw [hrow m (by omega)]
    rw [mnTo, ← qI_succ] at hn
    refine ic (fun g => ?_) (fun g => ?_)
    · refine (B_34_41).mpr ?_
      rw [if_neg (Int32.not_lt.mpr g)] at hn
      exact hn
    have g' : 0 < row m := Int32.not_le.mp g
    refine (B_34_25 (n1_ := m) (by omega) (k_roomOf hi hP hw (by omega) hm) (bk1 hi) (by omega) rfl (by omega) ha hb (by rw [hrow m (by omega)]; intro q; rw [q] at g'; exact absurd g' (by decide)) c_minI).mpr ?_
    refine (B_34_41).mpr ?_
    rw [if_pos g'] at hn
    rw [hrow m (by omega)]
    exact hn
theorem aBLen_room (hw : WF N) {r : Nat} (hb : aHas N r = true) : mnTo (aLeft N r) (aLook N r).2.2.2 (aRoom N) (cO N) = aBLen N r := by
  have h8 := hw.1.2.1
  obtain ⟨s, rest, g, e1, e2, hrow, hs1, hs8, hp, hsum, hwd, hL, hz⟩ := aHas_pat hw hb
  unfold aBLen
  have key : ∀ n, n ≤ cO N → mnTo (aLeft N r) (aLook N r).2.2.2 (aRoom N) n = mnTo (aLeft N r) (aLook N r).2.2.2 (rmI N r) n := by
    intro n
    induction n with
    | zero => intro _; rfl
    | succ n ih =>
      intro hn
      unfold mnTo
      rw [ih (by omega)]
      by_cases gp : 0 < (aLook N r).2.2.2 n
      · rw [if_pos gp, if_pos gp]
        rw [hrow n (by omega)] at gp
        have hg8 := sumN_ge (g := g) (i := n) 8 (by omega)
        rw [show (0 : Int32) = nI 0 from rfl, qI_lt (by omega) (by omega)] at gp
        have hLn := hL n (by omega)
        have e : rmI N r n = aRoom N n := by
          by_cases hc : n < cO N ∧ aWant N n = true ∧ aCan N r n = true
          · unfold rmI
            rw [if_pos hc]
          · exfalso
            have : lO N r n = 0 := by
              unfold lO rmI
              rw [if_neg hc]
              rfl
            omega
        rw [e]
      · rw [if_neg gp, if_neg gp]
  exact key (cO N) (Nat.le_refl _)
/-- the plan a and the searches are written -/
def fKs (a : Nat) (S S' : bSt) : Prop := ∀ k i j m, ¬ (1 ≤ k ∧ k ≤ 10 ∧ i = a) → ¬ (12 ≤ k ∧ k ≤ 25) → S' k i j m = S k i j m
theorem fKs_refl (a : Nat) (S : bSt) : fKs a S S := fun _ _ _ _ _ _ => rfl
theorem fKs_trans {a : Nat} {S T U : bSt} (h : fKs a S T) (g : fKs a T U) : fKs a S U := fun k i j m h1 h2 => (g k i j m h1 h2).trans (h k i j m h1 h2)
theorem fSr_Ks {a : Nat} {S T : bSt} (h : fSr S T) : fKs a S T := fun k i j m _ h2 => h k i j m (by omega)
theorem fK_Ks {a : Nat} {S T : bSt} (h : fK a S T) : fKs a S T := fun k i j m h1 _ => h k i j m h1
theorem k_cutRoll (hi : i < 12) (hP : PR S i N) (hw : WF N) (hd : 14 ≤ d) {x1 : Int32} : Wm d 35 [vR 1 i 0, vI x1, vR 12 0 0] S (fun q S' => q = some (vI (aTry N x1).1) ∧ fKs i S S' ∧ PR S' i (aTry N x1).2) := by
  have c16 := hw.1.2.2.2.2.2
  refine EW_35 ?_
  refine (B_35_0 (by omega) (k_hasRoll hi hP hw) (bk1 hi)).mpr ?_
  unfold aTry
  refine icb (fun g => ?_) (fun g => ?_)
  · refine (B_35_8).mpr ?_
    rw [if_neg (by rw [g]; decide)]
    exact ⟨rfl, fKs_refl _ _, hP⟩
  rw [if_pos g]
  obtain ⟨r, rfl, hr, hr12⟩ := vR_ix hw.1 g
  rw [nI_clamp (by omega)]
  refine (B_35_10 (bk1 hi)).mpr ?_
  rw [P_6 hP hw]
  rotate_left
  refine icT (qI_lt (b := 16) (by omega) (by omega)) (fun g16 => ?_) (fun g16 => ?_)
  · rw [if_neg (show ¬ N 5 = 16 from by rw [hw.1.2.2.2.2.1, show (16 : Int32) = nI 16 from rfl, qI_eq (by omega) (by omega)]; omega)]
    obtain ⟨q, S1, e1, rfl, f1, b1⟩ := Wm_ex (k_findBest (d := d - 1) hi hP hw (by omega) hr)
    refine (B_35_22 (by omega) e1 (bk1 hi)).mpr ?_
    have hP1 := fSr_PR f1 hP
    refine icb (fun gh => ?_) (fun gh => ?_)
    · refine (B_35_31).mpr ?_
      rw [if_neg (by rw [gh]; decide)]
      exact ⟨rfl, fSr_Ks f1, hP1⟩
    rw [if_pos gh]
    obtain ⟨-, -, hrow⟩ := b1 gh
    have hgr := k_greatest (d := d - 1) hi hP1 hw (by omega) (k3 := 16) (Or.inl rfl) hr hrow
    rw [aBLen_room hw gh] at hgr
    obtain ⟨q, S2, e2, rfl, f2, p2⟩ := Wm_ex (k_makeRun (d := d - 1) hi hP1 hw (by omega) g16 (k3 := 16) (Or.inl rfl) hr (x2 := aBLen N r) hrow (WF_aCut hw g16 hr gh))
    refine (B_35_34 (by omega) hgr (bk1 hi) e2).mpr ?_
    exact ⟨rfl, fKs_trans (fSr_Ks f1) (fK_Ks f2), p2⟩
  refine (B_35_19).mpr ?_
  rw [if_pos (show N 5 = 16 from by rw [hw.1.2.2.2.2.1, show cU N = 16 by omega]; rfl)]
  exact ⟨rfl, fKs_refl _ _, hP⟩
theorem k_rollToCut (hi : i < 12) (hP : PR S i N) (hw : WF N) (hd : 14 ≤ d) : Wm d 37 [vR 1 i 0, vR 12 0 0] S (fun q S' => q = some (vI (nxTo N (cR N)).1) ∧ fSr S S') := by
  have h12 := hw.1.2.2.2.1
  refine EW_37 ?_
  refine (B_37_0).mpr ?_
  refine wloopI (cR N) (fun m ls T => (∃ w5, ls = [some (vR 1 i 0), some (vR 12 0 0), some (vI (nxTo N m).1), some (vI (nxTo N m).2), some (vI (nI m)), w5]) ∧ fSr S T) ?_ ?_ ⟨⟨none, rfl⟩, fSr_refl S⟩
  · rintro ls T ⟨⟨w5, rfl⟩, hf⟩
    refine (B_37_7 (bk1 hi)).mpr ?_
    rw [if_pos (by rw [P_5 (fSr_PR hf hP) hw]; exact Int32.le_refl _)]
    refine (B_37_95).mpr ?_
    exact ⟨rfl, hf⟩
  · rintro m hm ls T ⟨⟨w5, rfl⟩, hf⟩ hn
    have hPT := fSr_PR hf hP
    refine (B_37_7 (bk1 hi)).mpr ?_
    rw [if_neg (by rw [P_5 hPT hw, qI_le (by omega) (by omega)]; omega)]
    obtain ⟨q, T1, e1, rfl, f1, b1⟩ := Wm_ex (k_findBest (d := d - 1) hi hPT hw (by omega) hm)
    have hP1 := fSr_PR f1 hPT
    refine (B_37_16 (by omega) e1 (bk1 hi)).mpr ?_
    have stay : nxTo N (m + 1) = nxTo N m → ∀ w5, Wp d 37 89 [some (vR 1 i 0), some (vR 12 0 0), some (vI (nxTo N m).1), some (vI (nxTo N m).2), some (vI (nI m)), w5] [] T1 (fun q S' => q = some (vI (nxTo N (cR N)).1) ∧ fSr S S') := by
      intro he w5
      refine (B_37_89).mpr ?_
      rw [qI_succ]
      exact hn _ _ ⟨⟨w5, by rw [he]⟩, fSr_trans hf f1⟩
    refine icb (fun gh => ?_) (fun gh => ?_)
    · refine stay ?_ _
      show nxStep N (nxTo N m) m = _
      unfold nxStep
      rw [if_neg (fun q => by rw [gh] at q; exact absurd q.1 (by decide))]
    obtain ⟨s13, -, -⟩ := b1 gh
    have take : ((nxTo N m).1 = -1 ∨ (aLook N m).2.2.1 < (nxTo N m).2 ∨ ((aLook N m).2.2.1 = (nxTo N m).2 ∧ N (55 + 3 * m) < N (55 + 3 * (nxTo N m).1.toNatClampNeg))) → Wp d 37 69 [some (vR 1 i 0), some (vR 12 0 0), some (vI (nxTo N m).1), some (vI (nxTo N m).2), some (vI (nI m)), w5] [] T1 (fun q S' => q = some (vI (nxTo N (cR N)).1) ∧ fSr S S') := by
      intro h
      refine (B_37_69).mpr ?_
      refine (B_37_74).mpr ?_
      rw [if_neg (by decide)]
      refine (B_37_81).mpr ?_
      refine (B_37_89).mpr ?_
      rw [qI_succ, s13]
      refine hn _ _ ⟨⟨some (vI 1), ?_⟩, fSr_trans hf f1⟩
      have e : nxTo N (m + 1) = (nI m, (aLook N m).2.2.1) := by
        show nxStep N (nxTo N m) m = _
        unfold nxStep
        rw [if_pos ⟨gh, h⟩]
      rw [e]
    have skip : ¬ ((nxTo N m).1 = -1 ∨ (aLook N m).2.2.1 < (nxTo N m).2 ∨ ((aLook N m).2.2.1 = (nxTo N m).2 ∧ N (55 + 3 * m) < N (55 + 3 * (nxTo N m).1.toNatClampNeg))) → Wp d 37 73 [some (vR 1 i 0), some (vR 12 0 0), some (vI (nxTo N m).1), some (vI (nxTo N m).2), some (vI (nI m)), w5] [] T1 (fun q S' => q = some (vI (nxTo N (cR N)).1) ∧ fSr S S') := by
      intro h
      refine (B_37_73).mpr ?_
      refine (B_37_74).mpr ?_
      rw [if_pos (rfl)]
      refine stay ?_ _
      show nxStep N (nxTo N m) m = _
      unfold nxStep
      rw [if_neg (fun q => h q.2)]
    refine (B_37_26).mpr ?_
    refine ic (fun g1 => ?_) (fun g1 => ?_)
    · exact take (Or.inl g1)
    refine (B_37_31).mpr ?_
    rw [s13]
    refine ic (fun g2 => ?_) (fun g2 => ?_)
    · exact take (Or.inr (Or.inl g2))
    refine (B_37_39).mpr ?_
    rw [s13]
    rotate_left
    refine ic (fun g3 => ?_) (fun g3 => ?_)
    · obtain ⟨r', hr', er, -⟩ := (nxTo_ok (N := N) m).resolve_left g1
      refine (B_37_47 (n1_ := m) (n2_ := r') (bk1 hi) rfl (by omega) (bk5 hi) (bk6 hi (by omega)) er (by omega) (bk6 hi (by omega))).mpr ?_
      rw [(P_r hP1 hm).2.1, (P_r hP1 (show r' < cR N by omega)).2.1]
      have ec : (nxTo N m).1.toNatClampNeg = r' := by rw [er, nI_clamp (by omega)]
      refine ic (fun g4 => ?_) (fun g4 => ?_)
      · refine skip ?_
        rw [ec]
        rintro (q | q | q)
        · exact g1 q
        · exact g2 q
        · exact Int32.not_lt.mpr g4 q.2
      refine take (Or.inr (Or.inr ⟨g3, ?_⟩))
      rw [ec]
      exact Int32.not_le.mp g4
    refine skip ?_
    rintro (q | q | q)
    · exact g1 q
    · exact g2 q
    · exact g3 q.1
theorem aTry_has {r : Nat} (hw : WF N) (hr : r < cR N) (hu : cU N < 16) (hb : aHas N r = true) : aTry N (nI r) = (N 5, aCut N r) := by
  have h12 := hw.1.2.2.2.1
  have hv : vR_ N (nI r) = true := by
    unfold vR_ inR
    rw [hw.1.2.2.1, decide_eq_true (show (0 : Int32) ≤ nI r from by rw [show (0 : Int32) = nI 0 from rfl, qI_le (by omega) (by omega)]; omega), decide_eq_true ((lt_inR (by omega)).mp (show nI r < nI (cR N) from by rw [qI_lt (by omega) (by omega)]; exact hr))]
    rfl
  unfold aTry
  rw [if_pos hv, nI_clamp (by omega), if_neg (show ¬ N 5 = 16 from by rw [hw.1.2.2.2.2.1, show (16 : Int32) = nI 16 from rfl, qI_eq (by omega) (by omega)]; omega), if_pos hb]
theorem k_ce_go (hi : i < 12) : ∀ (n : Nat) {d : Nat} {S S0 : bSt} {N : NV} {m : Nat} {u3 : Option bV} {Q : Option bV → bSt → Prop}, 15 ≤ d → PR S i N → WF N → 17 ≤ n + cU N → m ≤ cU N → fKs i S0 S → (∀ S', fKs i S0 S' → PR S' i (aCutsF n (nI m) N).2 → Q (some (vI (aCutsF n (nI m) N).1)) S') → Wp d 36 2 [some (vR 1 i 0), some (vR 12 0 0), some (vI (nI m)), u3] [] S Q := by
  intro n
  induction n with
  | zero =>
    intro d S S0 N m u3 Q hd hP hw hn hm hf hQ
    have := hw.1.2.2.2.2.2
    omega
  | succ n ih =>
    intro d S S0 N m u3 Q hd hP hw hn hm hf hQ
    have c16 := hw.1.2.2.2.2.2
    have c12 := hw.1.2.2.2.1
    unfold aCutsF at hQ
    have full : cU N = 16 → Q (some (vI (nI m))) S := by
      intro h
      have : aNext N = -1 := by
        unfold aNext
        rw [if_pos (by rw [hw.1.2.2.2.2.1, h]; rfl)]
      rw [if_pos this] at hQ
      exact hQ S hf hP
    refine (B_36_2).mpr ?_
    refine icT (qI_le (a := 16) (by omega) (by omega)) (fun g1 => ?_) (fun g1 => ?_)
    · refine (B_36_43).mpr ?_
      exact full (by omega)
    refine (B_36_8 (bk1 hi)).mpr ?_
    rw [P_6 hP hw]
    refine icT (qI_le (a := 16) (by omega) (by omega)) (fun g2 => ?_) (fun g2 => ?_)
    · refine (B_36_43).mpr ?_
      exact full (by omega)
    have hnx : aNext N = (nxTo N (cR N)).1 := by
      unfold aNext
      rw [if_neg (show ¬ N 5 = 16 from by rw [hw.1.2.2.2.2.1, show (16 : Int32) = nI 16 from rfl, qI_eq (by omega) (by omega)]; omega)]
    obtain ⟨q, S1, e1, rfl, f1⟩ := Wm_ex (k_rollToCut (d := d - 1) hi hP hw (by omega))
    have hP1 := fSr_PR f1 hP
    refine (B_36_17 (by omega) e1 (bk1 hi)).mpr ?_
    rw [← hnx]
    refine ic (fun g3 => ?_) (fun g3 => ?_)
    · refine (B_36_28).mpr ?_
      rw [if_pos g3] at hQ
      exact hQ S1 (fKs_trans hf (fSr_Ks f1)) hP1
    rw [if_neg g3] at hQ
    obtain ⟨r, h1, h2, h3, h4, h5⟩ := aNext_ok hw.1 g3
    rw [h3, nI_clamp (by omega)] at hQ
    obtain ⟨q, S2, e2, rfl, f2, p2⟩ := Wm_ex (k_cutRoll (d := d - 1) hi hP1 hw (by omega) (x1 := nI r))
    rw [aTry_has hw h1 h5 h4] at e2 p2
    rw [h3]
    refine (B_36_30 (by omega) e2 (bk1 hi)).mpr ?_
    rw [qI_succ]
    rw [qI_succ] at hQ
    have ec := cU_aCut hw.1 (r := r) h5
    have p2' : PR S2 i (aCut N r) := p2
    exact ih (S0 := S0) hd p2' (WF_aCut hw h5 h1 h4) (by omega) (by omega) (fKs_trans (fKs_trans hf (fSr_Ks f1)) f2) hQ
theorem k_cutEverything (hi : i < 12) (hP : PR S i N) (hw : WF N) (hd : 15 ≤ d) : Wm d 36 [vR 1 i 0, vR 12 0 0] S (fun q S' => q = some (vI (aCuts N).1) ∧ fKs i S S' ∧ PR S' i (aCuts N).2) := by
  refine EW_36 ?_
  refine (B_36_0).mpr ?_
  exact k_ce_go hi 17 (m := 0) (S0 := S) hd hP hw (by omega) (by omega) (fKs_refl _ _) (fun S' h1 h2 => ⟨rfl, h1, h2⟩)
theorem K_cut (hd : 15 ≤ d) {c : Nat} {P : Nat → NV} (hC : CS S N c P) {x1 : Int32} : Wm d 108 [vR 0 0 0, vI x1] S (fun q S' => q = some (vI (aTry N x1).1) ∧ Dc S S' N c P (aTry N x1).1 (aTry N x1).2) := by
  refine EW_108 ?_
  obtain ⟨S1, e1, f1, p1, c1⟩ := k_earlier (d := d - 1) (by omega) hC (a := 1) (Or.inl rfl)
  have hw := CS_W hC
  obtain ⟨q, S2, e2, rfl, f2, p2⟩ := Wm_ex (k_cutRoll (d := d - 1) (i := 0) (by omega) (CS_P c1) hw (by omega) (x1 := x1))
  obtain ⟨q, S3, e3, rfl, f3, h3⟩ := Wm_ex (K_settled (d := d - 1) (by omega) (CS_op c1 f2 p2 (WF_aTry hw x1)) (fO_PR f2 (by omega) p1) hw (r := (aTry N x1).1))
  refine (B_108_0 (by omega) e1 e2 e3).mpr ?_
  exact ⟨rfl, fC_trans (fC_trans (fK_C (by omega) f1) (fO_C f2)) f3, h3⟩
theorem K_cutAll (hd : 16 ≤ d) {c : Nat} {P : Nat → NV} (hC : CS S N c P) : Wm d 109 [vR 0 0 0] S (fun q S' => q = some (vI (aCuts N).1) ∧ Dc S S' N c P (aCuts N).1 (aCuts N).2) := by
  refine EW_109 ?_
  obtain ⟨S1, e1, f1, p1, c1⟩ := k_earlier (d := d - 1) (by omega) hC (a := 1) (Or.inl rfl)
  have hw := CS_W hC
  obtain ⟨q, S2, e2, rfl, f2, p2⟩ := Wm_ex (k_cutEverything (d := d - 1) (i := 0) (by omega) (CS_P c1) hw (by omega))
  obtain ⟨q, S3, e3, rfl, f3, h3⟩ := Wm_ex (K_settled (d := d - 1) (by omega) (CS_op c1 f2 p2 (WF_aCutsF 17 0 N hw)) (fO_PR f2 (by omega) p1) hw (r := (aCuts N).1))
  refine (B_109_0 (by omega) e1 e2 e3).mpr ?_
  exact ⟨rfl, fC_trans (fC_trans (fK_C (by omega) f1) (fO_C f2)) f3, h3⟩
theorem K_best (hP : PR S 0 N) (hw : WF N) (hd : 14 ≤ d) {x1 x2 : Int32} : Wm d 104 [vR 0 0 0, vI x1, vI x2] S (fun q S' => q = some (vI (aBst N x1 x2)) ∧ fSr S S') := by
  refine EW_104 ?_
  refine (B_104_0 (by omega) (k_hasRoll (by omega) hP hw)).mpr ?_
  unfold aBst
  refine icb (fun g => ?_) (fun g => ?_)
  · refine (B_104_11).mpr ?_
    rw [if_neg (by rw [g]; decide)]
    exact ⟨rfl, fSr_refl S⟩
  rw [if_pos g]
  obtain ⟨r, rfl, hr, hr12⟩ := vR_ix hw.1 g
  rw [nI_clamp (by omega)]
  refine (B_104_13 (by omega) (k_hasOrder (by omega) hP hw)).mpr ?_
  have main : (inR x2 0 3 = true ∨ vO N (x2 - 10) = true) → Wp d 104 41 [some (vR 0 0 0), some (vI (nI r)), some (vI x2), some (vI (tf (vO N (x2 - 10))))] [] S (fun q S' => q = some (vI (if inR x2 0 3 = true ∨ vO N (x2 - 10) = true then (if aHas N r = true then aBestW N r x2 else -5) else -2)) ∧ fSr S S') := by
    intro ha
    rw [if_pos ha]
    obtain ⟨q, S1, e1, rfl, f1, b1⟩ := Wm_ex (k_findBest (d := d - 1) (i := 0) (by omega) hP hw (by omega) hr)
    refine (B_104_41 (by omega) e1).mpr ?_
    have hP1 := fSr_PR f1 hP
    refine icb (fun gh => ?_) (fun gh => ?_)
    · refine (B_104_56).mpr ?_
      rw [if_neg (by rw [gh]; decide)]
      exact ⟨rfl, f1⟩
    rw [if_pos gh]
    obtain ⟨s13, s14, hrow⟩ := b1 gh
    refine (B_104_59).mpr ?_
    rw [X_104_60]
    unfold aBestW
    refine ic (fun q0 => ?_) (fun q0 => ?_)
    · refine (B_104_92).mpr ?_
      rw [if_pos q0, s13]
      exact ⟨rfl, f1⟩
    rw [if_neg q0]
    refine ic (fun q1 => ?_) (fun q1 => ?_)
    · refine (B_104_100).mpr ?_
      rw [if_pos q1, s14]
      exact ⟨rfl, f1⟩
    rw [if_neg q1]
    refine ic (fun q2 => ?_) (fun q2 => ?_)
    · refine (B_104_108 (by omega) k_knivesFor).mpr ?_
      rw [if_pos q2, s13, s14]
      exact ⟨rfl, f1⟩
    rw [if_neg q2]
    refine ic (fun q3 => ?_) (fun q3 => ?_)
    · have hgr := k_greatest (d := d - 1) (i := 0) (by omega) hP1 hw (by omega) (k3 := 16) (Or.inl rfl) hr hrow
      rw [aBLen_room hw gh] at hgr
      refine (B_104_126 (by omega) hgr).mpr ?_
      rw [if_pos q3]
      exact ⟨rfl, f1⟩
    rw [if_neg q3]
    refine (B_104_142).mpr ?_
    have hin : ¬ inR x2 0 3 = true := by
      rw [show (3 : Int32) = nI 3 from rfl, inR_no (by omega) (fun n hn => ?_)]
      · decide
      · rcases (show n = 0 ∨ n = 1 ∨ n = 2 ∨ n = 3 by omega) with rfl | rfl | rfl | rfl
        · exact q0
        · exact q1
        · exact q2
        · exact q3
    have hv := ha.resolve_left hin
    obtain ⟨o, ho, hoc, ho8⟩ := vO_ix hw.1 hv
    rw [if_neg (by rw [hv]; decide)]
    refine (B_104_146 (n1_ := o) ho ho8).mpr ?_
    refine (B_104_163).mpr ?_
    rw [hrow o ho8, ho, nI_clamp (by omega)]
    exact ⟨rfl, f1⟩
  refine icb (fun g2 => ?_) (fun g2 => ?_)
  · refine (B_104_29).mpr ?_
    have bad : inR x2 0 3 = false → Wp d 104 38 [some (vR 0 0 0), some (vI (nI r)), some (vI x2), some (vI (tf (vO N (x2 - 10))))] [] S (fun q S' => q = some (vI (if inR x2 0 3 = true ∨ vO N (x2 - 10) = true then (if aHas N r = true then aBestW N r x2 else -5) else -2)) ∧ fSr S S') := by
      intro h
      refine (B_104_38).mpr ?_
      rw [if_neg (fun q => by rcases q with q | q; rw [h] at q; exact absurd q (by decide); rw [g2] at q; exact absurd q (by decide))]
      exact ⟨rfl, fSr_refl S⟩
    refine ic (fun g3 => ?_) (fun g3 => ?_)
    · exact bad (by unfold inR; rw [decide_eq_false (Int32.not_le.mpr g3), Bool.false_and])
    refine (B_104_33).mpr ?_
    rotate_left
    refine ic (fun g4 => ?_) (fun g4 => ?_)
    · refine main (Or.inl ?_)
      unfold inR
      rw [decide_eq_true (Int32.not_lt.mp g3), decide_eq_true g4]
      rfl
    exact bad (by unfold inR; rw [decide_eq_false g4, Bool.and_false])
  exact main (Or.inr g2)
theorem K_patterns (hP : PR S 0 N) (hw : WF N) (hd : 13 ≤ d) {x1 : Int32} : Wm d 106 [vR 0 0 0, vI x1] S (fun q S' => q = some (vI (aPatn N x1)) ∧ fSr S S') := by
  refine EW_106 ?_
  refine (B_106_0 (by omega) (k_hasRoll (by omega) hP hw)).mpr ?_
  unfold aPatn
  refine icb (fun g => ?_) (fun g => ?_)
  · refine (B_106_11).mpr ?_
    rw [if_neg (by rw [g]; decide)]
    exact ⟨rfl, fSr_refl S⟩
  rw [if_pos g]
  obtain ⟨r, rfl, hr, hr12⟩ := vR_ix hw.1 g
  rw [nI_clamp (by omega)]
  obtain ⟨q, S1, e1, rfl, f1, d0, d1, d2, d3, d4⟩ := Wm_ex (k_describe (d := d - 1) (i := 0) (by omega) hP hw (by omega) hr)
  obtain ⟨q, S2, e2, rfl, f2, m2⟩ := Wm_ex (k_seek (d := d - 1) (S := S1) hw (by omega) (cnt := true) hr d0 d1 d2 d3 d4)
  refine (B_106_13 (by omega) e1 e2).mpr ?_
  rw [(bS_RB hw (cnt := true) hr (S1 16 0 0)).2 rfl]
  exact ⟨rfl, fSr_trans f1 f2⟩
theorem CS_trial {S' : bSt} {c : Nat} {P : Nat → NV} (h : CS S N c P) (hf : fKs 2 S S') (hX2 : IX S' 2) : CS S' N c P := by
  obtain ⟨f, f8, h10, h11, c8, h0, hX, hp, hw⟩ := h
  have PT : ∀ {i : Nat} {M : NV}, i ≠ 2 → PR S i M → PR S' i M := fun hne h => PR_eq (fun k j m h1 h2 => hf k _ j m (fun q => hne q.2.2) (by omega)) h
  refine ⟨f, f8, by rw [hf _ _ _ _ (by omega) (by omega)]; exact h10, by rw [hf _ _ _ _ (by omega) (by omega)]; exact h11, c8, PT (by omega) h0, fun i hi => ?_, fun p hpc => ⟨PT (by omega) (hp p hpc).1, (hp p hpc).2⟩, hw⟩
  by_cases g : i = 2
  · subst g; exact hX2
  · exact IX_eq (fun m => hf 7 i 0 m (fun q => g q.2.2) (by omega)) (hX i hi)
theorem fKs_C {a : Nat} {S T : bSt} (ha : a ≠ 3) (h : fKs a S T) : fC S T := fun k i j m h1 h2 _ => h k i j m (fun q => h1 ⟨q.1, q.2.1, by omega⟩) h2
theorem K_ifAll (hd : 16 ≤ d) {c : Nat} {P : Nat → NV} (hC : CS S N c P) {x1 : Int32} : Wm d 121 [vR 0 0 0, vI x1] S (fun q S' => q = some (vI (aIf N x1)) ∧ fC S S' ∧ CS S' N c P) := by
  have hw := CS_W hC
  have hw2 := WF_aCutsF 17 0 N hw
  refine EW_121 ?_
  unfold aIf
  have bad : inR x1 0 4 = false → ∀ u2, Wp d 121 9 [some (vR 0 0 0), some (vI x1), u2] [] S (fun q S' => q = some (vI (if inR x1 0 4 = true then aIfW N x1 else -2)) ∧ fC S S' ∧ CS S' N c P) := by
    intro h u2
    refine (B_121_9).mpr ?_
    rw [if_neg (by rw [h]; decide)]
    exact ⟨rfl, fC_refl S, hC⟩
  refine (B_121_0).mpr ?_
  refine ic (fun g3 => ?_) (fun g3 => ?_)
  · exact bad (by unfold inR; rw [decide_eq_false (Int32.not_le.mpr g3), Bool.false_and]) _
  refine (B_121_4).mpr ?_
  rotate_left
  refine ic (fun g4 => ?_) (fun g4 => ?_)
  · rw [if_pos (show inR x1 0 4 = true from by unfold inR; rw [decide_eq_true (Int32.not_lt.mp g3), decide_eq_true g4]; rfl)]
    obtain ⟨S1, e1, f1, p1, c1⟩ := k_earlier (d := d - 1) (by omega) hC (a := 2) (Or.inr rfl)
    obtain ⟨q, S2, e2, rfl, f2, p2⟩ := Wm_ex (k_cutEverything (d := d - 1) (i := 2) (by omega) p1 hw (by omega))
    have c2 := CS_trial c1 f2 (PR_IX p2)
    have ff := fC_trans (fK_C (by omega) f1) (fKs_C (by omega) f2)
    refine (B_121_12 (by omega) e1 e2).mpr ?_
    rw [X_121_36]
    unfold aIfW
    refine ic (fun q0 => ?_) (fun q0 => ?_)
    · refine (B_121_68).mpr ?_
      rw [if_pos q0]
      exact ⟨rfl, ff, c2⟩
    rw [if_neg q0]
    refine ic (fun q1 => ?_) (fun q1 => ?_)
    · refine (B_121_70 (by omega) (k_ordersMet (by omega) p2 hw2 (by omega))).mpr ?_
      rw [if_pos q1]
      exact ⟨rfl, ff, c2⟩
    rw [if_neg q1]
    refine ic (fun q2 => ?_) (fun q2 => ?_)
    · refine (B_121_78 (by omega) (k_wasteOfAll (by omega) p2 hw2 (by omega))).mpr ?_
      rw [if_pos q2]
      exact ⟨rfl, ff, c2⟩
    rw [if_neg q2]
    refine ic (fun q3 => ?_) (fun q3 => ?_)
    · refine (B_121_86 (by omega) (k_sumOfSetups (by omega) p2 hw2 (by omega))).mpr ?_
      rw [if_pos q3]
      exact ⟨rfl, ff, c2⟩
    rw [if_neg q3]
    refine (B_121_94 (by omega) (k_areaLeft (by omega) p2 hw2 (by omega))).mpr ?_
    exact ⟨rfl, ff, c2⟩
  exact bad (by unfold inR; rw [decide_eq_false g4, Bool.and_false]) _
end M18d
