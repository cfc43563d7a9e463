/-! THE CLASS: reachSums, leastRestBySums; again -/
section M18j
variable {d : Nat} {S : bSt} {N : NV} {i : Nat}
theorem fwn_lt {f : Nat → Nat} {w sum : Nat} (h : sum < w) : ∀ m, fwn f w sum m = f sum := by
  intro m
  have := fwn_stop (f := f) (w := w) (sum := sum) m 0 (by omega)
  rw [Nat.zero_add] at this
  exact this
theorem k_reachSums (hd : 1 ≤ d) {W w L : Nat} (hW : W ≤ 300) (hw10 : 1 ≤ w) (hw300 : w ≤ 300) (hL8 : L ≤ 8) (h0 : S 12 0 0 0 = nI W) {f : Nat → Nat} (hf1 : ∀ m, f m ≤ 1000) (hf : ∀ m, m ≤ W → S 18 0 0 m = nI (f m)) : Wm d 79 [vR 12 0 0, vI (nI w), vI (nI L)] S (fun q S' => q = none ∧ (∀ k i j m, k ≠ 18 → S' k i j m = S k i j m) ∧ ∀ m, m ≤ W → S' 18 0 0 m = nI (fwn f w m L)) := by
  refine EW_79 ?_
  refine (B_79_0).mpr ?_
  rw [h0]
  refine wloopI (W + 1 - w) (fun j ls T => (∃ u4, ls = [some (vR 12 0 0), some (vI (nI w)), some (vI (nI L)), some (vI (nI (W - j))), u4]) ∧ (∀ k i j m, k ≠ 18 → T k i j m = S k i j m) ∧ ∀ m, m ≤ W → T 18 0 0 m = nI (if W - j < m then fwn f w m L else f m)) ?_ ?_ ⟨⟨none, rfl⟩, fun _ _ _ _ _ => rfl, fun m hm => by rw [Nat.sub_zero, if_neg (by omega)]; exact hf m hm⟩
  · rintro ls T ⟨⟨u4, rfl⟩, hk, hT⟩
    refine (B_79_5).mpr ?_
    rw [if_pos (by rw [qI_lt (by omega) (by omega)]; omega)]
    refine (B_79_68).mpr ?_
    refine ⟨rfl, hk, fun m hm => ?_⟩
    rw [hT m hm]
    by_cases g : W - (W + 1 - w) < m
    · rw [if_pos g]
    · rw [if_neg g, fwn_lt (by omega)]
  · rintro j hj ls T ⟨⟨u4, rfl⟩, hk, hT⟩ hn
    refine (B_79_5).mpr ?_
    rw [if_neg (by rw [qI_lt (by omega) (by omega)]; omega)]
    refine (B_79_10).mpr ?_
    generalize hs : W - j = s at *
    have hws : w ≤ s := by omega
    have hsW : s ≤ W := by omega
    have hdiv : s / w ≤ s := Nat.div_le_self _ _
    refine wloopI (min L (s / w)) (fun n ls U => ls = [some (vR 12 0 0), some (vI (nI w)), some (vI (nI L)), some (vI (nI s)), some (vI (nI (n + 1)))] ∧ (∀ k i j m, k ≠ 18 → U k i j m = S k i j m) ∧ ∀ m, m ≤ W → U 18 0 0 m = nI (if s < m then fwn f w m L else if m = s then fwn f w s n else f m)) ?_ ?_ ⟨rfl, hk, fun m hm => ?_⟩
    · rintro ls U ⟨rfl, hk, hU⟩
      have hfin : fwn f w s (min L (s / w)) = fwn f w s L := by
        rcases Nat.le_total L (s / w) with q | q
        · rw [Nat.min_eq_left q]
        · rw [Nat.min_eq_right q]
          obtain ⟨z, rfl⟩ : ∃ z, L = s / w + z := ⟨L - s / w, by omega⟩
          exact (fwn_stop z _ (Nat.lt_mul_of_div_lt (by omega) (by omega))).symm
      have out : Wp d 79 62 [some (vR 12 0 0), some (vI (nI w)), some (vI (nI L)), some (vI (nI s)), some (vI (nI (min L (s / w) + 1)))] [] U (fun q S' => q = none ∧ (∀ k i j m, k ≠ 18 → S' k i j m = S k i j m) ∧ ∀ m, m ≤ W → S' 18 0 0 m = nI (fwn f w m L)) := by
        refine (B_79_62).mpr ?_
        rw [show nI s + (-1 : Int32) = nI (W - (j + 1)) from by rw [show W - (j + 1) = s - 1 by omega, ← qI_test3 _ (by omega)]; grind]
        refine hn _ _ ⟨⟨_, rfl⟩, hk, fun m hm => ?_⟩
        rw [hU m hm]
        by_cases g : s < m
        · rw [if_pos g, if_pos (by omega)]
        · rw [if_neg g]
          by_cases g2 : m = s
          · rw [if_pos g2, if_pos (by omega), g2, hfin]
          · rw [if_neg g2, if_neg (by omega)]
      refine (B_79_13).mpr ?_
      refine icT (qI_lt (by omega) (by omega)) (fun g => ?_) (fun g => ?_)
      · exact out
      refine (B_79_19).mpr ?_
      have hmul : (min L (s / w) + 1) * w ≤ 9 * 300 := Nat.mul_le_mul (by omega) hw300
      have hex : nI s < nI (min L (s / w) + 1) * nI w := by
        have := Nat.lt_mul_of_div_lt (Nat.lt_succ_self (s / w)) (show 0 < w by omega)
        rw [← qI_mul, qI_lt (by omega) (by omega), Nat.min_eq_right (by omega)]
        exact this
      rw [if_pos (hex)]
      exact out
    · rintro n hnn ls U ⟨rfl, hk, hU⟩ hn2
      have hnw : (n + 1) * w ≤ s := (Nat.le_div_iff_mul_le (by omega)).mp (by omega)
      refine (B_79_13).mpr ?_
      rw [if_neg (by rw [qI_lt (by omega) (by omega)]; omega)]
      refine (B_79_19).mpr ?_
      rw [if_neg (by rw [← qI_mul, qI_lt (by omega) (by omega)]; omega)]
      have u1 := hU s hsW
      rw [if_neg (Nat.lt_irrefl _), if_pos rfl] at u1
      have hmw : 1 ≤ (n + 1) * w := Nat.mul_pos (by omega) (by omega)
      have u2 := hU (s - (n + 1) * w) (by omega)
      rw [if_neg (by omega), if_neg (by omega)] at u2
      have l1 : fwn f w s n ≤ 1000 := Nat.le_trans (fwn_le n).1 (hf1 s)
      have l2 := hf1 (s - (n + 1) * w)
      have hmin := c_min (d := d - 1) (S := U) (a := fwn f w s n) (b := f (s - (n + 1) * w) + (n + 1)) (by omega) (by omega)
      refine (B_79_27 (n1_ := s) (n2_ := s - (n + 1) * w) (r1_ := nI (min (fwn f w s n) (f (s - (n + 1) * w) + (n + 1)))) (S1_ := U) (by omega) rfl (by omega) (by rw [← qI_mul, qI_sub hnw]) (by omega) (by rw [u1, u2, ← qI_add]; exact hmin)).mpr ?_
      rw [qI_succ]
      refine hn2 _ _ ⟨rfl, fun k i j m hk' => by rw [sUp_kind hk']; exact hk k i j m hk', fun m hm => ?_⟩
      by_cases g : m = s
      · subst g
        rw [sUp_same, if_neg (Nat.lt_irrefl _), if_pos rfl, fwn, if_pos hnw]
      · rw [sUp_slot g, hU m hm, if_neg g, if_neg g]
    · rw [hT m hm]
      by_cases g : s < m
      · rw [if_pos g, if_pos g]
      · rw [if_neg g, if_neg g]
        by_cases g2 : m = s
        · rw [if_pos g2, g2]; rfl
        · rw [if_neg g2]
theorem k_bySums (hw : WF N) (hd : 2 ≤ d) {r : Nat} (hr : r < cR N) (h0 : S 12 0 0 0 = nI (nv N (55 + 3 * r))) (h1 : S 12 0 0 1 = nI (nv N 0)) (h2 : S 12 0 0 2 = nI (2 * nv N 1)) (h3 : S 12 0 0 3 = nI (cO N)) (h4 : ∀ o, o < cO N → S 13 0 0 o = nI (wN N o) ∧ S 14 0 0 o = nI (min 8 (lO N r o))) : Wm d 78 [vR 12 0 0] S (fun q S' => q = some (vI (if 0 < (aLook N r).2.1 then (aLook N r).2.2.1 else -5)) ∧ fSr S S') := by
  have h8 := hw.1.2.1
  have hW := (hw.2.2.2.1 r hr).2.1.2.2
  obtain ⟨-, kk1, kk2⟩ := hw.2.1.1
  have e2 := hw.2.1.2.1.2.2
  refine EW_78 ?_
  obtain ⟨q, T1, r1, rfl, r2, r3⟩ := Wm_ex (k_fill (d := d - 1) (S := S) (k0 := 18) (by decide) rfl rfl (x := 1000))
  refine (B_78_0 (by omega) r1).mpr ?_
  have r3' : ∀ m, m < 301 → T1 18 0 0 m = 1000 := r3
  have f1 : fSr S T1 := fAd_r r2 (by omega) (by omega)
  refine wloopI (cO N) (fun o ls T => ls = [some (vR 12 0 0), some (vI (nI o))] ∧ (∀ k i j m, k ≠ 18 → T k i j m = S k i j m) ∧ ∀ m, m ≤ nv N (55 + 3 * r) → T 18 0 0 m = nI (fw (wN N) (fun o => min 8 (lO N r o)) o m)) ?_ ?_ ⟨rfl, fun k i j m hk => by rw [sUp_kind hk]; exact r2 k i j m (fun z => hk z.1), fun m hm => ?_⟩
  · rintro ls T ⟨rfl, hk, hT⟩
    have hfr : fSr S T := fun k i j m q => hk k i j m (by omega)
    refine (B_78_19).mpr ?_
    rw [hk _ _ _ _ (by decide), h3]
    rw [if_pos (Int32.le_refl _)]
    refine (B_78_49).mpr ?_
    rw [hk _ _ _ _ (by decide), hk _ _ _ _ (by decide), h0, h2]
    have go : ∀ k, k ≤ nv N (55 + 3 * r) → Wp d 78 59 [some (vR 12 0 0), some (vI (nI k))] [] T (fun q S' => q = some (vI (rsF N (nv N (55 + 3 * r)) (fw (wN N) (fun o => min 8 (lO N r o)) (cO N)) k)) ∧ fSr S S') := by
      intro k
      induction k with
      | zero =>
        intro _
        refine (B_78_59).mpr ?_
        rw [if_pos (by decide)]
        refine (B_78_99).mpr ?_
        exact ⟨rfl, hfr⟩
      | succ k ih =>
        intro hkk
        refine (B_78_59).mpr ?_
        rw [if_neg (by rw [show (1 : Int32) = nI 1 from rfl, qI_lt (by omega) (by omega)]; omega)]
        have hFk := fw_1000 (w := wN N) (L := fun o => min 8 (lO N r o)) (cO N) (k + 1)
        have tk := hT (k + 1) hkk
        have hpos : 1 ≤ fw (wN N) (fun o => min 8 (lO N r o)) (cO N) (k + 1) := by
          rcases Nat.eq_zero_or_pos (fw (wN N) (fun o => min 8 (lO N r o)) (cO N) (k + 1)) with q | q
          · exfalso
            obtain ⟨g, -, g2, g3⟩ := fw_at (cO N) (k + 1) (by rw [q]; omega)
            rw [q] at g3
            have hz : ∀ z, z < cO N → g z = 0 := fun z hz => by have := sumN_ge (g := g) (i := z) (cO N) hz; omega
            have : sumN (fun m => g m * wN N m) (cO N) = sumN (fun _ => 0) (cO N) := sumN_congr _ (fun z hz' => by rw [hz z hz', Nat.zero_mul])
            have h0 := sumN_le (f := fun _ => 0) (b := 0) (cO N) (fun _ _ => Nat.le_refl _)
            omega
          · exact q
        refine (B_78_64 (n1_ := k + 1) (by omega) rfl (by omega) k_knivesFor).mpr ?_
        rw [hk 12 _ _ _ (by decide), hk 12 _ _ _ (by decide), h0, h1, tk, qI_sub hkk, aKn_n hpos (by omega)]
        rw [rsF]
        refine icT (qI_lt (by omega) (by split <;> omega)) (fun g => ?_) (fun g => ?_)
        · refine (B_78_93).mpr ?_
          rw [show nI (k + 1) + (-1 : Int32) = nI k from by rw [qI_add, qI_lits.2.1]; grind, if_neg (by omega)]
          exact ih (by omega)
        refine (B_78_86).mpr ?_
        rw [if_pos (by omega), hk 12 _ _ _ (by decide), h0, qI_sub hkk]
        exact ⟨rfl, hfr⟩
    by_cases hle : 2 * nv N 1 ≤ nv N (55 + 3 * r)
    · rw [qI_sub hle, ← rsF_look hw hr hle]
      exact go _ (by omega)
    · have hlt : nI (nv N (55 + 3 * r)) - nI (2 * nv N 1) < 1 := by
        rw [Int32.lt_iff_toInt_lt, Int32.toInt_sub, nI_toInt (by omega), nI_toInt (by omega), show (1 : Int32).toInt = 1 from by decide, bm32 (by omega) (by omega)]
        omega
      refine (B_78_59).mpr ?_
      rw [if_pos (hlt)]
      refine (B_78_99).mpr ?_
      have hno : aLook N r = acc0 := by
        unfold aLook
        exact trA_noop hw _ _ _ _ _ _ (by omega) hW (Or.inl (by omega))
      rw [hno]
      exact ⟨rfl, hfr⟩
  · rintro o ho ls T ⟨rfl, hk, hT⟩ hn
    refine (B_78_19).mpr ?_
    rw [hk _ _ _ _ (by decide), h3]
    rw [if_neg (by rw [qI_le (by omega) (by omega)]; omega)]
    obtain ⟨w1, -, w2⟩ := (hw.2.2.1 o ho).2.1
    have w10 := (hw.2.2.1 o ho).2.1.2.1
    obtain ⟨a1, a2⟩ := h4 o ho
    obtain ⟨q, U, u1, rfl, u2, u3⟩ := Wm_ex (k_reachSums (d := d - 1) (S := T) (by omega) (W := nv N (55 + 3 * r)) (w := wN N o) (L := min 8 (lO N r o)) hW (by unfold wN; omega) (by unfold wN; omega) (Nat.min_le_left _ _) (by rw [hk _ _ _ _ (by decide)]; exact h0) (fun m => fw_1000 o m) hT)
    refine (B_78_27 (n1_ := o) (n2_ := o) (S1_ := U) (by omega) rfl (by omega) rfl (by omega) (by rw [hk _ _ _ _ (by decide), hk _ _ _ _ (by decide), a1, a2]; exact u1)).mpr ?_
    rw [qI_succ]
    exact hn _ _ ⟨rfl, fun k i j m hk' => by rw [u2 k i j m hk']; exact hk k i j m hk', u3⟩
  · unfold fw
    by_cases g : m = 0
    · subst g
      rw [sUp_same, if_pos rfl]
      rfl
    · rw [sUp_slot g, if_neg g, r3' m (by omega)]
      rfl
theorem K_again (hP : PR S 0 N) (hw : WF N) (hd : 4 ≤ d) {x1 : Int32} : Wm d 105 [vR 0 0 0, vI x1] S (fun q S' => q = some (vI (aBst N x1 0)) ∧ fSr S S') := by
  refine EW_105 ?_
  refine (B_105_0 (by omega) (k_hasRoll (by omega) hP hw)).mpr ?_
  unfold aBst
  refine icb (fun g => ?_) (fun g => ?_)
  · refine (B_105_11).mpr ?_
    rw [if_neg (by rw [g]; decide)]
    exact ⟨rfl, fSr_refl S⟩
  rw [if_pos g, if_pos (Or.inl (by decide))]
  obtain ⟨r, rfl, hr, hr12⟩ := vR_ix hw.1 g
  rw [nI_clamp (by omega)]
  refine (B_105_13 (by omega) (k_leftOf (by omega) hP hw hr)).mpr ?_
  rotate_left
  refine icT (one_le) (fun gl => ?_) (fun gl => ?_)
  · obtain ⟨q, S1, e1, rfl, f1, d0, d1, d2, d3, d4⟩ := Wm_ex (k_describe (d := d - 1) (i := 0) (by omega) hP hw (by omega) hr)
    obtain ⟨q, S2, e2, rfl, f2⟩ := Wm_ex (k_bySums (d := d - 1) (S := S1) hw (by omega) hr d0 d1 d2 d3 d4)
    refine (B_105_28 (by omega) e1 e2).mpr ?_
    refine ⟨?_, fSr_trans f1 f2⟩
    unfold aHas
    rw [decide_eq_true gl, Bool.and_true]
    by_cases gh : 0 < (aLook N r).2.1
    · rw [if_pos gh, if_pos (decide_eq_true gh)]
      rfl
    · rw [if_neg gh, if_neg (by rw [decide_eq_false gh]; decide)]
  refine (B_105_25).mpr ?_
  unfold aHas
  rw [decide_eq_false gl, Bool.and_false, if_neg (by decide)]
  exact ⟨rfl, fSr_refl S⟩
end M18j
