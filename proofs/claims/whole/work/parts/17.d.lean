/-! THE CLASS, 9: runs change their places: remove, swap, split; a remnant is kept -/
section M17d
variable {d : Nat} {S : bSt} {N : NV} {i : Nat}
/-- whose place it was before a run moved from a to b -/
def mvI (a b u : Nat) : Nat := if u = b then a else if a ≤ u ∧ u < b then u + 1 else if b < u ∧ u ≤ a then u - 1 else u
theorem jx_of {S : bSt} {i u j : Nat} (h : S 7 i 0 u = nI j) (hj : j < 16) : jx S i u = j := by
  unfold jx
  rw [h, nI_clamp (by omega)]
theorem eC7 {i j : Nat} (hj : j < 16) : eCode 7 i (8, i, j) = some (nI j) := by
  unfold eCode
  simp [hj]
  rfl
theorem k_moveRun (hi : i < 12) (hX : IX S i) {a b : Nat} (ha : a < 16) (hb : b < 16) : Wm d 42 [vR 1 i 0, vI (nI a), vI (nI b)] S (fun q S' => q = none ∧ fAd 7 i 0 S S' ∧ ∀ u, u < 16 → S' 7 i 0 u = nI (jx S i (mvI a b u))) := by
  refine EW_42 ?_
  have hj := fun u hu => (hX.1 u hu).2
  have hs := fun u hu => (hX.1 u hu).1
  refine (B_42_0 (n1_ := a) (m2_ := jx S i a) (bk1 hi) rfl ha rfl (bk7 hi)).mpr ?_
  -- upwards
  refine wloopI (b - a) (fun m ls T => ls = [some (vR 1 i 0), some (vI (nI a)), some (vI (nI b)), some (vR 8 i (jx S i a)), some (vI (nI (a + m)))] ∧ fAd 7 i 0 S T ∧ (∀ u, u < 16 → T 7 i 0 u = nI (jx S i (if a ≤ u ∧ u < a + m then u + 1 else u)))) ?_ ?_ ⟨rfl, fAd_refl _ _ _ S, fun u hu => by rw [if_neg (by omega)]; exact hs u hu⟩
  · rintro ls T ⟨rfl, hf, hT⟩
    refine (B_42_10).mpr ?_
    rw [if_pos (by rw [qI_le (by omega) (by omega)]; omega)]
    refine (B_42_38).mpr ?_
    -- downwards
    refine wloopI (a - b) (fun m ls U => ls = [some (vR 1 i 0), some (vI (nI a)), some (vI (nI b)), some (vR 8 i (jx S i a)), some (vI (nI (a - m)))] ∧ fAd 7 i 0 S U ∧ (∀ u, u < 16 → U 7 i 0 u = nI (jx S i (if a ≤ u ∧ u < b then u + 1 else if a - m < u ∧ u ≤ a then u - 1 else u)))) ?_ ?_ ⟨by rw [Nat.sub_zero], hf, fun u hu => ?_⟩
    · rintro ls U ⟨rfl, hf, hU⟩
      refine (B_42_41).mpr ?_
      rw [if_pos (by rw [qI_le (by omega) (by omega)]; omega)]
      refine (B_42_69 (n1_ := b) (y2_ := nI (jx S i a)) (bk1 hi) rfl hb (eC7 (hj a ha)) (bk7 hi) (bk8 hi (hj a ha))).mpr ?_
      refine ⟨rfl, fAd_up hf, fun u hu => ?_⟩
      unfold mvI
      by_cases g : u = b
      · subst g
        rw [sUp_same, if_pos rfl]
      · rw [sUp_slot g, hU u hu, if_neg g]
        congr 2
        by_cases g1 : a ≤ u ∧ u < b
        · rw [if_pos g1, if_pos g1]
        · rw [if_neg g1, if_neg g1]
          by_cases g2 : b < u ∧ u ≤ a
          · rw [if_pos g2, if_pos (by omega)]
          · rw [if_neg g2, if_neg (by omega)]
    · rintro m hm ls U ⟨rfl, hf, hU⟩ hn
      refine (B_42_41).mpr ?_
      rw [if_neg (by rw [qI_le (by omega) (by omega)]; omega)]
      have hsrc := hU (a - m - 1) (by omega)
      rw [if_neg (by omega), if_neg (by omega)] at hsrc
      refine (B_42_47 (n1_ := a - m - 1) (m2_ := jx S i (a - m - 1)) (n3_ := a - m) (y4_ := nI (jx S i (a - m - 1))) (bk1 hi) (qI_test3 _ (by omega)) (by omega) (by rw [hsrc]; show some (8, i, (nI (jx S i (a - m - 1))).toNatClampNeg) = _; rw [nI_clamp (by have := hj (a - m - 1) (by omega); omega)]) (bk7 hi) rfl (by omega) (eC7 (hj _ (by omega))) (bk8 hi (hj _ (by omega)))).mpr ?_
      rw [show nI (a - m) + (-1 : Int32) = nI (a - (m + 1)) from by rw [show a - (m + 1) = a - m - 1 by omega, ← qI_test3 _ (by omega)]; grind]
      refine hn _ _ ⟨rfl, fAd_up hf, fun u hu => ?_⟩
      by_cases g : u = a - m
      · subst g
        rw [sUp_same, if_neg (by omega), if_pos (by omega)]
      · rw [sUp_slot g, hU u hu]
        congr 2
        by_cases g1 : a ≤ u ∧ u < b
        · rw [if_pos g1, if_pos g1]
        · rw [if_neg g1, if_neg g1]
          by_cases g2 : a - m < u ∧ u ≤ a
          · rw [if_pos g2, if_pos (by omega)]
          · rw [if_neg g2, if_neg (by omega)]
    · rw [hT u hu]
      congr 2
      by_cases g1 : a ≤ u ∧ u < b
      · rw [if_pos g1, if_pos (by omega)]
      · rw [if_neg g1, if_neg (by omega), if_neg (by omega)]
  · rintro m hm ls T ⟨rfl, hf, hT⟩ hn
    refine (B_42_10).mpr ?_
    rw [if_neg (by rw [qI_le (by omega) (by omega)]; omega)]
    have hsrc := hT (a + m + 1) (by omega)
    rw [if_neg (by omega)] at hsrc
    refine (B_42_16 (n1_ := a + m + 1) (m2_ := jx S i (a + m + 1)) (n3_ := a + m) (y4_ := nI (jx S i (a + m + 1))) (bk1 hi) (qI_succ _) (by omega) (by rw [hsrc]; show some (8, i, (nI (jx S i (a + m + 1))).toNatClampNeg) = _; rw [nI_clamp (by have := hj (a + m + 1) (by omega); omega)]) (bk7 hi) rfl (by omega) (eC7 (hj _ (by omega))) (bk8 hi (hj _ (by omega)))).mpr ?_
    rw [qI_succ]
    refine hn _ _ ⟨rfl, fAd_up hf, fun u hu => ?_⟩
    by_cases g : u = a + m
    · subst g
      rw [sUp_same, if_pos (by omega)]
    · rw [sUp_slot g, hT u hu]
      congr 2
      by_cases g1 : a ≤ u ∧ u < a + m
      · rw [if_pos g1, if_pos (by omega)]
      · rw [if_neg g1, if_neg (by omega)]
theorem mvI_lt {a b u : Nat} (ha : a < 16) (hb : b < 16) (hu : u < 16) : mvI a b u < 16 := by
  unfold mvI
  repeat' split
  all_goals omega
theorem mvI_inj {a b u v : Nat} (h : mvI a b u = mvI a b v) : u = v := by
  unfold mvI at h
  by_cases h1 : u = b
  · by_cases h2 : v = b
    · omega
    · rw [if_pos h1, if_neg h2] at h
      split at h
      · omega
      · split at h <;> omega
  · by_cases h2 : v = b
    · rw [if_neg h1, if_pos h2] at h
      split at h
      · omega
      · split at h <;> omega
    · rw [if_neg h1, if_neg h2] at h
      split at h <;> split at h <;> (try split at h) <;> (try split at h) <;> omega
/-- the runs in other places -/
theorem PR_perm {S' : bSt} {N' : NV} (hw : WF N) (hP : PR S i N) (g : Nat → Nat) (hg : ∀ u, u < 16 → g u < 16) (hgi : ∀ u v, u < 16 → v < 16 → g u = g v → u = v) (h7 : ∀ u, u < 16 → S' 7 i 0 u = nI (jx S i (g u))) (hf : ∀ k j m, k ≠ 7 → ¬ (k = 1 ∧ j = 0 ∧ m = 6) → S' k i j m = S k i j m) {c : Nat} (hc : c ≤ 16) (hcnt : S' 1 i 0 6 = nI c) (h5 : N' 5 = nI c) (hk : ∀ k, k < 90 → k ≠ 5 → N' k = N k) (hgc : ∀ u, u < c → g u < cU N) (hr : ∀ u m, u < c → m < 12 → N' (90 + 12 * u + m) = N (90 + 12 * g u + m)) : PR S' i N' := by
  have c8 := hw.1.2.1
  have c12 := hw.1.2.2.2.1
  have ej : ∀ u, u < 16 → jx S' i u = jx S i (g u) := fun u hu => jx_of (h7 u hu) (P_j hP (hg u hu))
  have hP' := hP
  obtain ⟨⟨a0, a1, a2⟩, ⟨b4, b5, b6⟩, co, cr, e, f, hu⟩ := hP'
  refine ⟨⟨by rw [hf _ _ _ (by omega) (by omega), hk _ (by omega) (by omega)]; exact a0, by rw [hf _ _ _ (by omega) (by omega), hk _ (by omega) (by omega)]; exact a1, by rw [hf _ _ _ (by omega) (by omega), hk _ (by omega) (by omega)]; exact a2⟩, ⟨by rw [hf _ _ _ (by omega) (by omega), hk _ (by omega) (by omega)]; exact b4, by rw [hf _ _ _ (by omega) (by omega), hk _ (by omega) (by omega)]; exact b5, by rw [hcnt, h5]⟩, fun o ho => ?_, fun r hr' => ?_, fun u hu' => ?_, fun u v hu' hv he => ?_, fun u hu' => ?_⟩
  · rw [cO_c (hk 3 (by omega) (by omega))] at ho
    have := OR_c (N' := N') (fun k h1 h2 => hk k (by omega) (by omega)) (co o ho)
    unfold OR at *
    simp only [show ∀ j m, S' 4 i j m = S 4 i j m from fun j m => hf 4 j m (by omega) (by omega)]
    exact this
  · rw [cR_c (hk 4 (by omega) (by omega))] at hr'
    rw [hf 6 _ _ (by omega) (by omega), hf 6 _ _ (by omega) (by omega), hf 6 _ _ (by omega) (by omega), hk _ (by omega) (by omega), hk _ (by omega) (by omega), hk _ (by omega) (by omega)]
    exact cr r hr'
  · rw [ej u hu']
    exact ⟨h7 u hu', P_j hP (hg u hu')⟩
  · rw [ej u hu', ej v hv] at he
    exact hgi u v hu' hv (f _ _ (hg u hu') (hg v hv) he)
  · rw [cU_n h5 (by omega)] at hu'
    have hgu := hgc u hu'
    rw [ej u (by omega)]
    obtain ⟨-, -, hq, hq12, -⟩ := wf_run hw hgu
    have e1 := hr u 1 hu' (by omega)
    have e2 := hr u 2 hu' (by omega)
    have e3 := hr u 3 hu' (by omega)
    rw [show 90 + 12 * u + 1 = 91 + 12 * u by omega, show 90 + 12 * g u + 1 = 91 + 12 * g u by omega] at e1
    rw [show 90 + 12 * u + 2 = 92 + 12 * u by omega, show 90 + 12 * g u + 2 = 92 + 12 * g u by omega] at e2
    rw [show 90 + 12 * u + 3 = 93 + 12 * u by omega, show 90 + 12 * g u + 3 = 93 + 12 * g u by omega] at e3
    have := RR_c (N' := N') (u := u) (hr u 0 hu' (by omega)) e1 e2 e3 (fun o ho => by
      have := hr u (4 + o) hu' (by omega)
      rw [show 90 + 12 * u + (4 + o) = 94 + 12 * u + o by omega, show 90 + 12 * g u + (4 + o) = 94 + 12 * g u + o by omega] at this
      exact this) (hk _ (by omega) (by omega)) (fun o ho hz => by have := wf_s7 hw hgu ho hz; exact hk _ (by omega) (by omega)) (hu (g u) hgu)
    unfold RR at *
    simp only [show ∀ j m, S' 8 i j m = S 8 i j m from fun j m => hf 8 j m (by omega) (by omega), show ∀ j m, S' 9 i j m = S 9 i j m from fun j m => hf 9 j m (by omega) (by omega), show ∀ j m, S' 10 i j m = S 10 i j m from fun j m => hf 10 j m (by omega) (by omega)]
    exact this
theorem k_takeOut (hi : i < 12) (hP : PR S i N) (hw : WF N) (hd : 1 ≤ d) {x1 : Int32} : Wm d 41 [vR 1 i 0, vI x1] S (fun q S' => q = some (vI (aRemv N x1).1) ∧ fK i S S' ∧ PR S' i (aRemv N x1).2) := by
  refine EW_41 ?_
  refine (B_41_0 (by omega) (k_hasRun hi hP hw) (bk1 hi)).mpr ?_
  unfold aRemv
  refine icb (fun g => ?_) (fun g => ?_)
  · refine (B_41_8).mpr ?_
    rw [if_neg (by rw [g]; decide)]
    exact ⟨rfl, fK_refl _ _, hP⟩
  rw [if_pos g]
  obtain ⟨u, rfl, hu, h16⟩ := vU_ix hw.1 g
  rw [nI_clamp (by omega)]
  have hj := P_j hP h16
  have c16 := hw.1.2.2.2.2.2
  refine (B_41_10 (n1_ := u) (m2_ := jx S i u) (by omega) (bk1 hi) rfl h16 rfl (bk7 hi) (k_isKept hi hj (P_u hP hu) hw hu) (bk8 hi hj)).mpr ?_
  refine icb (fun g2 => ?_) (fun g2 => ?_)
  · rw [if_pos (by simpa using g2)]
    obtain ⟨q, S1, e1, rfl, f1, h1⟩ := Wm_ex (k_moveRun (d := d - 1) hi (PR_IX hP) (a := u) (b := cU N - 1) h16 (by omega))
    have e6 := P_6 hP hw
    refine (B_41_25 (by omega) (bk1 hi) (by rw [e6, show nI (cU N) - 1 = nI (cU N - 1) from qI_sub (b := 1) (by omega)]; exact e1)).mpr ?_
    rw [f1 _ _ _ _ (by omega), e6, show nI (cU N) - 1 = nI (cU N - 1) from qI_sub (b := 1) (by omega), sUp_same]
    refine ⟨by rw [hw.1.2.2.2.2.1]; exact congrArg (fun z => some (vI z)) (qI_sub (b := 1) (by omega)).symm, fK_up (fAd_K f1 (by omega) (by omega)) (by omega) (by omega), ?_⟩
    refine PR_perm hw hP (mvI u (cU N - 1)) (fun v hv => mvI_lt h16 (by omega) hv) (fun v w _ _ h => mvI_inj h) (fun v hv => by rw [sUp_kind (by decide)]; exact h1 v hv) (fun k j m hk7 hk1 => ?_) (c := cU N - 1) (by omega) sUp_same ?_ (fun k hk h5 => nRem_lo hk h5) (fun v hv => ?_) (fun v m hv hm => ?_)
    · have : sUp S1 1 i 0 6 (nI (cU N - 1)) k i j m = S1 k i j m := by
        unfold sUp
        rw [if_neg]
        rintro ⟨rfl, -, rfl, rfl⟩
        exact hk1 ⟨rfl, rfl, rfl⟩
      rw [this, f1 _ _ _ _ (fun q => hk7 q.1)]
    · show nRem N u 5 = _
      unfold nRem
      rw [if_pos rfl, hw.1.2.2.2.2.1]
      exact qI_sub (b := 1) (by omega)
    · unfold mvI
      repeat' split
      all_goals omega
    · show nRem N u _ = _
      rw [nRem_run hm hv]
      congr 3
      unfold mvI
      by_cases g3 : v < u
      · rw [if_pos g3, if_neg (by omega), if_neg (by omega), if_neg (by omega)]
      · rw [if_neg g3, if_neg (by omega), if_pos (by omega)]
  refine (B_41_22).mpr ?_
  rw [if_neg (by simpa using g2)]
  exact ⟨rfl, fK_refl _ _, hP⟩
theorem k_exchange (hi : i < 12) (hP : PR S i N) (hw : WF N) (hd : 3 ≤ d) {x1 x2 : Int32} : Wm d 43 [vR 1 i 0, vI x1, vI x2] S (fun q S' => q = some (vI (aSwap N x1 x2).1) ∧ fK i S S' ∧ PR S' i (aSwap N x1 x2).2) := by
  refine EW_43 ?_
  refine (B_43_0 (by omega) (k_hasRun hi hP hw) (bk1 hi)).mpr ?_
  unfold aSwap
  refine icb (fun g => ?_) (fun g => ?_)
  · refine (B_43_16).mpr ?_
    rw [if_neg (fun q => by rw [g] at q; exact absurd q.1 (by decide))]
    exact ⟨rfl, fK_refl _ _, hP⟩
  refine (B_43_8 (by omega) (k_hasRun hi hP hw) (bk1 hi)).mpr ?_
  refine icb (fun g2 => ?_) (fun g2 => ?_)
  · refine (B_43_16).mpr ?_
    rw [if_neg (fun q => by rw [g2] at q; exact absurd q.2 (by decide))]
    exact ⟨rfl, fK_refl _ _, hP⟩
  obtain ⟨u, rfl, hu, h16⟩ := vU_ix hw.1 g
  obtain ⟨v, rfl, hv, h16'⟩ := vU_ix hw.1 g2
  rw [if_pos ⟨g, g2⟩, nI_clamp (by omega), nI_clamp (by omega)]
  have hj := P_j hP h16
  have hj' := P_j hP h16'
  have hwf := WF_nSw hw hu hv
  have hPR : PR (sUp (sUp S 7 i 0 u (nI (jx S i v))) 7 i 0 v (nI (jx S i u))) i (nSw N u v) := by
    refine PR_perm hw hP (fun w => if w = u then v else if w = v then u else w) (fun w hw' => by split <;> first | omega | (split <;> omega)) (fun w z _ _ h => ?_) (fun w hw' => ?_) (fun k j m hk7 hk1 => ?_) (c := cU N) hw.1.2.2.2.2.2 ?_ (by rw [nSw_5 (by omega)]; exact hw.1.2.2.2.2.1) (fun k hk _ => nSw_5 hk) (fun w hw' => by split <;> first | omega | (split <;> omega)) (fun w m _ hm => nSw_run hm)
    · split at h <;> split at h <;> (try split at h) <;> (try split at h) <;> omega
    · by_cases g3 : w = v
      · subst g3
        rw [sUp_same]
        by_cases g4 : w = u
        · subst g4; rw [if_pos rfl]
        · rw [if_neg g4, if_pos rfl]
      · rw [sUp_slot g3]
        by_cases g4 : w = u
        · subst g4; rw [sUp_same, if_pos rfl]
        · rw [sUp_slot g4, if_neg g4, if_neg g3]
          exact (PR_IX hP).1 w hw' |>.1
    · rw [sUp_kind hk7, sUp_kind hk7]
    · rw [sUp_kind (by decide), sUp_kind (by decide)]; exact P_6 hP hw
  refine (B_43_18 (n1_ := u) (m2_ := jx S i u) (n3_ := v) (m4_ := jx S i v) (y5_ := nI (jx S i v)) (y6_ := nI (jx S i u)) (by omega) (bk1 hi) rfl h16 rfl (bk7 hi) rfl h16' rfl (eC7 hj') (bk8 hi hj') (eC7 hj) (bk8 hi hj) (k_sumOfSetups hi hPR hwf (by omega))).mpr ?_
  exact ⟨rfl, fK_up (fK_up (fK_refl i S) (by omega) (by omega)) (by omega) (by omega), hPR⟩
end M17d
