/-! THE CLASS: leastOf, leastWithLast, leastBySets; leastSetups -/
section M18h
variable {d : Nat} {S : bSt} {N : NV} {i : Nat}
theorem k_leastOf (hd : 1 ≤ d) (hw : WF N) (hc : cU N ≤ 7) (hT : tB N S) {t : Nat} (ht : t < 128) {V X : Nat → Nat} (hV : ∀ l, l < cU N → t.testBit l = true → S 24 0 0 (7 * t + l) = nI (V l) ∧ V l ≤ 84 ∧ X l ≤ 12) {x2 : Int32} (hX : (x2 = -1 ∧ ∀ l, X l = 0) ∨ ∃ nx, nx < cU N ∧ x2 = nI nx ∧ ∀ l, l < cU N → X l = aBt N (l + 1) nx) : Ret d 7 [vR 19 0 0, vI (nI t), vI x2] S (some (vI (nI (LoF (fun l => V l + X l) t (cU N))))) S := by
  refine E_7 ?_
  refine (B_7_0).mpr ?_
  refine wloopI (cU N) (fun m ls T => T = S ∧ ∃ w5, ls = [some (vR 19 0 0), some (vI (nI t)), some (vI x2), some (vI (nI (LoF (fun l => V l + X l) t m))), some (vI (nI m)), w5]) ?_ ?_ ⟨rfl, none, rfl⟩
  · rintro ls T ⟨rfl, w5, rfl⟩
    refine (B_7_7).mpr ?_
    rw [hT.1]
    rw [if_pos (Int32.le_refl _)]
    refine (B_7_72).mpr ?_
    exact ⟨rfl, rfl⟩
  · rintro m hm ls T ⟨rfl, w5, rfl⟩ hn
    obtain ⟨m1, m2, m3, -⟩ := msk_t t ht m (by omega)
    refine (B_7_7).mpr ?_
    rw [hT.1]
    rw [if_neg (by rw [qI_le (by omega) (by omega)]; omega)]
    refine (B_7_16).mpr ?_
    refine icT (m1) (fun gb => ?_) (fun gb => ?_)
    · refine (B_7_66).mpr ?_
      rw [qI_succ]
      exact hn _ _ ⟨rfl, w5, by rw [LoF, if_neg (by rw [gb]; decide)]⟩
    have hb : t.testBit m = true := by simpa using gb
    obtain ⟨v1, v2, v3⟩ := hV m hm hb
    have hle := LoF_le (f := fun l => V l + X l) (t := t) m
    have fin : ∀ y, y = X m → Wp d 7 44 [some (vR 19 0 0), some (vI (nI t)), some (vI x2), some (vI (nI (LoF (fun l => V l + X l) t m))), some (vI (nI m)), w5] [vI (nI y)] T (fun r1 S1 => r1 = some (vI (nI (LoF (fun l => V l + X l) t (cU N)))) ∧ S1 = T) := by
      rintro y rfl
      have hmin := c_min (d := d - 1) (S := T) (a := LoF (fun l => V l + X l) t m) (b := V m + X m) (by omega) (by omega)
      refine (B_7_44 (n1_ := 7 * t + m) (r1_ := nI (min (LoF (fun l => V l + X l) t m) (V m + X m))) (S1_ := T) (by omega) (by first | rfl | (simp only [qI_add, qI_mul, qI_lits]; done) | (simp only [qI_add, qI_mul, qI_lits]; grind)) (by omega) (by rw [v1, ← qI_add]; exact hmin)).mpr ?_
      refine (B_7_66).mpr ?_
      rw [qI_succ]
      exact hn _ _ ⟨rfl, _, by rw [LoF, if_pos hb]⟩
    refine (B_7_25).mpr ?_
    rcases hX with ⟨rfl, h0⟩ | ⟨nx, hnx, rfl, hx⟩
    · rw [if_neg (by decide)]
      refine (B_7_29).mpr ?_
      exact fin 0 (h0 m).symm
    · rw [if_pos (Int32.not_lt.mp (nI_n0 (by omega)))]
      refine (B_7_33 (n1_ := m + 1) (n2_ := nx) (qI_succ m) (by omega) rfl (by omega) (bk21 (by omega))).mpr ?_
      rw [hT.2 (m + 1) nx (by omega) hnx]
      exact fin _ (hx m hm).symm
/-- the table of the sets up to t -/
def tL (N : NV) (t : Nat) (S : bSt) : Prop := ∀ t', 1 ≤ t' → t' < t → ∀ l, l < cU N → t'.testBit l = true → ∃ v, S 24 0 0 (7 * t' + l) = nI v ∧ isM (aBt N) (cU N) t' l v
theorem tL_V (hw : WF N) (hc : cU N ≤ 7) {t : Nat} {l : Nat} (h : ∃ v, S 24 0 0 (7 * t + l) = nI v ∧ isM (aBt N) (cU N) t l v) : S 24 0 0 (7 * t + l) = nI (S 24 0 0 (7 * t + l)).toNatClampNeg ∧ (S 24 0 0 (7 * t + l)).toNatClampNeg ≤ 84 ∧ isM (aBt N) (cU N) t l (S 24 0 0 (7 * t + l)).toNatClampNeg := by
  obtain ⟨v, h1, h2⟩ := h
  have h84 := isM_lt (fun a u hu => aBt_le hw hu) hc h2
  rw [h1, nI_clamp (by omega)]
  exact ⟨rfl, h84, h2⟩
theorem k_leastWithLast (hd : 2 ≤ d) (hw : WF N) (hc : cU N ≤ 7) (hT : tB N S) {t l : Nat} (ht : t < 2 ^ cU N) (hl : l < cU N) (hb : t.testBit l = true) (hL : tL N t S) : Wm d 6 [vR 19 0 0, vI (nI t), vI (nI l)] S (fun q S' => S' = S ∧ ∃ v, q = some (vI (nI v)) ∧ isM (aBt N) (cU N) t l v) := by
  have h128 := (msk3 (cU N) (by omega)).2.1
  obtain ⟨-, -, -, m4⟩ := msk_t t (by omega) l (by omega)
  obtain ⟨m5, m6⟩ := msk2 t (by omega) l (by omega) hb
  rw [if_pos hb] at m4
  have ht' : ∀ v, v < cU N → ((t - 2 ^ l).testBit v = true ↔ t.testBit v = true ∧ v ≠ l) := by
    intro v hv
    rw [m6 v (by omega)]
    simp
  have hpow : 1 ≤ 2 ^ l := Nat.one_le_two_pow
  refine EW_6 ?_
  refine (B_6_0).mpr ?_
  rw [m4]
  refine icT ((show nI (t - 2 ^ l) = 0 ↔ t - 2 ^ l = 0 from qI_eq (b := 0) (by omega) (by omega))) (fun g => ?_) (fun g => ?_)
  · refine (B_6_12 (n1_ := l) rfl (by omega)).mpr ?_
    refine (B_6_29).mpr ?_
    rw [hT.2 0 l (by omega) hl]
    refine ⟨rfl, _, rfl, isM_one hl (fun v hv => ?_)⟩
    have := ht' v hv
    rw [g, Nat.zero_testBit] at this
    constructor
    · intro h
      by_cases z : v = l
      · exact z
      · exact absurd (this.mpr ⟨h, z⟩) (by decide)
    · rintro rfl; exact hb
  have hV : ∀ l', l' < cU N → (t - 2 ^ l).testBit l' = true → _ := fun l' h1 h2 => tL_V (S := S) hw hc (hL (t - 2 ^ l) (by omega) (by omega) l' h1 h2)
  have hlo := k_leastOf (d := d - 1) (by omega) hw hc hT (t := t - 2 ^ l) (by omega) (V := fun l' => (S 24 0 0 (7 * (t - 2 ^ l) + l')).toNatClampNeg) (X := fun l' => aBt N (l' + 1) l) (fun l' h1 h2 => ⟨(hV l' h1 h2).1, (hV l' h1 h2).2.1, aBt_le hw hl⟩) (x2 := nI l) (Or.inr ⟨l, hl, rfl, fun _ _ => rfl⟩)
  refine (B_6_23 (by omega) hlo).mpr ?_
  refine (B_6_29).mpr ?_
  refine ⟨rfl, _, rfl, isM_step (fun a u hu => aBt_le hw hu) hc hl hb ht' ?_ (fun l' h1 h2 => (hV l' h1 h2).2.2)⟩
  have := msk4 (t - 2 ^ l) (by omega) (cU N) (by omega) (by omega) g
  rw [List.any_eq_true] at this
  obtain ⟨v, hv, h⟩ := this
  exact ⟨v, List.mem_range.mp hv, h⟩
theorem k_leastBySets (hd : 3 ≤ d) (hw : WF N) (hc : cU N ≤ 7) (hT : tB N S) : Wm d 5 [vR 19 0 0] S (fun q S' => q = some (vI (nI (arS N))) ∧ fAr S S') := by
  obtain ⟨s1, s2, s3⟩ := msk3 (cU N) (by omega)
  obtain ⟨⟨oS, hoS, eS⟩, lS⟩ := arS_char N
  have tBf : ∀ {T : bSt}, (∀ k i j m, k ≠ 24 → T k i j m = S k i j m) → tB N T := fun h => ⟨by rw [h _ _ _ _ (by decide)]; exact hT.1, fun a u ha hu => by rw [h _ _ _ _ (by decide)]; exact hT.2 a u ha hu⟩
  refine EW_5 ?_
  refine (B_5_0).mpr ?_
  rw [hT.1, s1]
  refine wloopI (2 ^ cU N - 1) (fun m ls T => (∃ w3, ls = [some (vR 19 0 0), some (vI (nI (2 ^ cU N - 1))), some (vI (nI (m + 1))), w3]) ∧ (∀ k i j m, k ≠ 24 → T k i j m = S k i j m) ∧ tL N (m + 1) T) ?_ ?_ ⟨⟨none, rfl⟩, fun _ _ _ _ _ => rfl, fun t' h1 h2 => absurd h2 (by omega)⟩
  · rintro ls T ⟨⟨w3, rfl⟩, hf, hL⟩
    have hTT := tBf hf
    refine (B_5_11).mpr ?_
    rw [if_pos (by rw [qI_lt (by omega) (by omega)]; omega)]
    refine (B_5_63).mpr ?_
    rw [hTT.1]
    have hfA : fAr S T := fun k i j m q => hf k i j m (by omega)
    refine icT ((show nI (cU N) = 0 ↔ cU N = 0 from qI_eq (b := 0) (by omega) (by omega))) (fun g => ?_) (fun g => ?_)
    · refine (B_5_70).mpr ?_
      refine (B_5_80).mpr ?_
      rw [eS, g]
      exact ⟨rfl, hfA⟩
    have hbits : ∀ v, v < cU N → (2 ^ cU N - 1).testBit v = true := fun v hv => by rw [Nat.testBit_two_pow_sub_one]; exact decide_eq_true hv
    have h2c : 2 ≤ 2 ^ cU N := by
      have : 2 ^ 1 ≤ 2 ^ cU N := Nat.pow_le_pow_right (by omega) (by omega)
      omega
    have hV := fun l' h1 => tL_V (S := T) hw hc (hL (2 ^ cU N - 1) (by omega) (by omega) l' h1 (hbits l' h1))
    have hlo := k_leastOf (d := d - 1) (by omega) hw hc hTT (t := 2 ^ cU N - 1) (by omega) (V := fun l' => (T 24 0 0 (7 * (2 ^ cU N - 1) + l')).toNatClampNeg) (X := fun _ => 0) (fun l' h1 _ => ⟨(hV l' h1).1, (hV l' h1).2.1, Nat.zero_le _⟩) (x2 := -1) (Or.inl ⟨rfl, fun _ => rfl⟩)
    refine (B_5_74 (by omega) hlo).mpr ?_
    refine (B_5_80).mpr ?_
    refine ⟨?_, hfA⟩
    obtain ⟨⟨o, ho, eo⟩, lo⟩ := isM_all (fun a u hu => aBt_le hw hu) hc (by omega) hbits (fun l h1 => (hV l h1).2.2)
    have e : LoF (fun l' => (T 24 0 0 (7 * (2 ^ cU N - 1) + l')).toNatClampNeg + 0) (2 ^ cU N - 1) (cU N) = arS N := by
      show LoF (fun l' => (T 24 0 0 (7 * (2 ^ cU N - 1) + l')).toNatClampNeg) (2 ^ cU N - 1) (cU N) = arS N
      refine Nat.le_antisymm ?_ ?_
      · rw [eS]; exact lo oS hoS
      · rw [eo]; exact lS o ho
    rw [e]
  · rintro m hm ls T ⟨⟨w3, rfl⟩, hf, hL⟩ hn
    refine (B_5_11).mpr ?_
    rw [if_neg (by rw [qI_lt (by omega) (by omega)]; omega)]
    refine (B_5_16).mpr ?_
    refine wloopI (cU N) (fun l ls U => ls = [some (vR 19 0 0), some (vI (nI (2 ^ cU N - 1))), some (vI (nI (m + 1))), some (vI (nI l))] ∧ (∀ k i j m, k ≠ 24 → U k i j m = S k i j m) ∧ tL N (m + 1) U ∧ ∀ l', l' < l → (m + 1).testBit l' = true → ∃ v, U 24 0 0 (7 * (m + 1) + l') = nI v ∧ isM (aBt N) (cU N) (m + 1) l' v) ?_ ?_ ⟨rfl, hf, hL, fun l' h => absurd h (Nat.not_lt_zero _)⟩
    · rintro ls U ⟨rfl, hf, hL, hU⟩
      refine (B_5_18).mpr ?_
      rw [(tBf hf).1]
      rw [if_pos (Int32.le_refl _)]
      refine (B_5_57).mpr ?_
      rw [qI_succ]
      refine hn _ _ ⟨⟨_, rfl⟩, hf, fun t' h1 h2 l hl hb => ?_⟩
      by_cases g : t' = m + 1
      · subst g; exact hU l hl hb
      · exact hL t' h1 (by omega) l hl hb
    · rintro l hl ls U ⟨rfl, hf, hL, hU⟩ hn2
      obtain ⟨m1, -, -, -⟩ := msk_t (m + 1) (by omega) l (by omega)
      refine (B_5_18).mpr ?_
      rw [(tBf hf).1]
      rw [if_neg (by rw [qI_le (by omega) (by omega)]; omega)]
      refine (B_5_26).mpr ?_
      refine icT (m1) (fun gb => ?_) (fun gb => ?_)
      · refine (B_5_51).mpr ?_
        rw [qI_succ]
        refine hn2 _ _ ⟨rfl, hf, hL, fun l' hl' hb => ?_⟩
        by_cases g : l' = l
        · subst g; rw [gb] at hb; exact absurd hb (by decide)
        · exact hU l' (by omega) hb
      have hb : (m + 1).testBit l = true := by simpa using gb
      obtain ⟨q, U1, e1, rfl, v, rfl, hv⟩ := Wm_ex (k_leastWithLast (d := d - 1) (by omega) hw hc (tBf hf) (t := m + 1) (l := l) (by omega) hl hb hL)
      refine (B_5_34 (n1_ := 7 * (m + 1) + l) (by omega) e1 (by first | rfl | (simp only [qI_add, qI_mul, qI_lits]; done) | (simp only [qI_add, qI_mul, qI_lits]; grind)) (by omega)).mpr ?_
      refine (B_5_51).mpr ?_
      rw [qI_succ]
      refine hn2 _ _ ⟨rfl, fun k i j m' hk => by rw [sUp_kind hk]; exact hf k i j m' hk, fun t' h1 h2 l' hl' hb' => ?_, fun l' hl' hb' => ?_⟩
      · rw [sUp_slot (by omega)]
        exact hL t' h1 h2 l' hl' hb'
      · by_cases g : l' = l
        · subst g; rw [sUp_same]; exact ⟨v, rfl, hv⟩
        · rw [sUp_slot (by omega)]
          exact hU l' (by omega) hb'
theorem K_leastSetups (hP : PR S 0 N) (hw : WF N) (hd : 4 ≤ d) : Wm d 119 [vR 0 0 0] S (fun q S' => q = some (vI (if N 5 ≤ 7 then nI (arS N) else -4)) ∧ fAr S S') := by
  have c16 := hw.1.2.2.2.2.2
  refine EW_119 ?_
  refine (B_119_0).mpr ?_
  rw [P_6 hP hw, hw.1.2.2.2.2.1]
  rotate_left
  refine icT (qI_le (b := 7) (by omega) (by omega)) (fun g => ?_) (fun g => ?_)
  · obtain ⟨q, S1, e1, rfl, f1, t1⟩ := Wm_ex (k_look (d := d - 1) (i := 0) (by omega) hP hw g (by omega))
    obtain ⟨q, S2, e2, rfl, f2⟩ := Wm_ex (k_leastBySets (d := d - 1) (by omega) hw g t1)
    refine (B_119_15 (by omega) e1 e2).mpr ?_
    rw [if_pos (show nI (cU N) ≤ 7 from by rw [show (7 : Int32) = nI 7 from rfl, qI_le (by omega) (by omega)]; exact g)]
    exact ⟨rfl, fAr_trans f1 f2⟩
  refine (B_119_12).mpr ?_
  rw [if_neg (show ¬ nI (cU N) ≤ 7 from by rw [show (7 : Int32) = nI 7 from rfl, qI_le (by omega) (by omega)]; exact g)]
  exact ⟨rfl, fAr_refl S⟩
end M18h
