/-! THE CLASS, 10: knives are placed, a run is made -/
section M17e
variable {d : Nat} {S : bSt} {N : NV} {i : Nat}
theorem paTo_at {u k o n : Nat} (ho : o < 8) (hn : n ≤ nv N (94 + 12 * u + o)) (ht : (paTo N u k 0).1 = sumN (fun o => nv N (94 + 12 * u + o)) o + n) : aPosAt N u k = (paTo N u k 0).2 + sumN (fun o => nv N (94 + 12 * u + o) * nv N (7 + 6 * o)) o + n * nv N (7 + 6 * o) := by
  have h1 : ∀ m, m ≤ o → (paTo N u k m).1 = (paTo N u k 0).1 - sumN (fun o => nv N (94 + 12 * u + o)) m := fun m _ => paTo_rem m
  have mono : ∀ m, m ≤ o → sumN (fun o => nv N (94 + 12 * u + o)) m ≤ sumN (fun o => nv N (94 + 12 * u + o)) o := by
    intro m hm
    induction o with
    | zero => rw [show m = 0 by omega]; exact Nat.le_refl _
    | succ o ih =>
      rcases Nat.eq_or_lt_of_le hm with q | q
      · rw [q]; exact Nat.le_refl _
      · clear ih
        have : ∀ z, sumN (fun o => nv N (94 + 12 * u + o)) m ≤ sumN (fun o => nv N (94 + 12 * u + o)) (m + z) := by
          intro z
          induction z with
          | zero => exact Nat.le_refl _
          | succ z ih => rw [show m + (z + 1) = m + z + 1 by omega, sumN]; omega
        have := this (o + 1 - m)
        rw [show m + (o + 1 - m) = o + 1 by omega] at this
        exact this
  have h2 : ∀ m, m ≤ o → (paTo N u k m).2 = (paTo N u k 0).2 + sumN (fun o => nv N (94 + 12 * u + o) * nv N (7 + 6 * o)) m := by
    intro m
    induction m with
    | zero => intro _; rw [sumN, Nat.add_zero]
    | succ m ih =>
      intro hm
      show (paTo N u k m).2 + min (paTo N u k m).1 (nv N (94 + 12 * u + m)) * nv N (7 + 6 * m) = _
      have hmm := mono (m + 1) hm
      rw [sumN] at hmm
      rw [ih (by omega), h1 m (by omega), show min ((paTo N u k 0).1 - sumN (fun o => nv N (94 + 12 * u + o)) m) (nv N (94 + 12 * u + m)) = nv N (94 + 12 * u + m) by omega, sumN]
      omega
  have h3 : ∀ z, o + 1 + z ≤ 8 → (paTo N u k (o + 1 + z)).2 = (paTo N u k 0).2 + sumN (fun o => nv N (94 + 12 * u + o) * nv N (7 + 6 * o)) o + n * nv N (7 + 6 * o) ∧ (paTo N u k (o + 1 + z)).1 = 0 := by
    intro z
    induction z with
    | zero =>
      intro _
      rw [Nat.add_zero]
      show (paTo N u k o).2 + min (paTo N u k o).1 (nv N (94 + 12 * u + o)) * nv N (7 + 6 * o) = _ ∧ (paTo N u k o).1 - min (paTo N u k o).1 (nv N (94 + 12 * u + o)) = 0
      rw [h1 o (Nat.le_refl _), h2 o (Nat.le_refl _), ht, show min (sumN (fun o => nv N (94 + 12 * u + o)) o + n - sumN (fun o => nv N (94 + 12 * u + o)) o) (nv N (94 + 12 * u + o)) = n by omega]
      exact ⟨rfl, by omega⟩
    | succ z ih =>
      intro hz
      obtain ⟨i1, i2⟩ := ih (by omega)
      rw [show o + 1 + (z + 1) = o + 1 + z + 1 by omega]
      show (paTo N u k (o + 1 + z)).2 + min (paTo N u k (o + 1 + z)).1 (nv N (94 + 12 * u + (o + 1 + z))) * nv N (7 + 6 * (o + 1 + z)) = _ ∧ (paTo N u k (o + 1 + z)).1 - min (paTo N u k (o + 1 + z)).1 (nv N (94 + 12 * u + (o + 1 + z))) = 0
      rw [i2, Nat.zero_min, Nat.zero_mul, Nat.add_zero]
      exact ⟨i1, rfl⟩
  have := (h3 (7 - o) (by omega)).1
  rw [show o + 1 + (7 - o) = 8 by omega] at this
  exact this
/-- where the strips end so far: at most what all use; less, if some are still to come -/
theorem cw_le (hw : WF N) {u o n : Nat} (hu : u < cU N) (ho : o < 8) (hn : n ≤ nv N (94 + 12 * u + o)) : sumN (fun o => nv N (94 + 12 * u + o) * nv N (7 + 6 * o)) o + n * nv N (7 + 6 * o) + 10 * str N u ≤ usd N u + 10 * (sumN (fun o => nv N (94 + 12 * u + o)) o + n) := by
  have s10 : ∀ o, o < 8 → 10 * nv N (94 + 12 * u + o) ≤ nv N (94 + 12 * u + o) * nv N (7 + 6 * o) := by
    intro o ho
    by_cases g : nv N (94 + 12 * u + o) = 0
    · rw [g]; omega
    · have := (hw.2.2.1 o (wf_s7 hw hu ho g)).2.1.2.1
      rw [Nat.mul_comm]
      exact Nat.mul_le_mul_left _ this
  have h1 : ∀ z, o + 1 + z ≤ 8 → sumN (fun o => nv N (94 + 12 * u + o) * nv N (7 + 6 * o)) (o + 1) + 10 * sumN (fun o => nv N (94 + 12 * u + o)) (o + 1 + z) ≤ sumN (fun o => nv N (94 + 12 * u + o) * nv N (7 + 6 * o)) (o + 1 + z) + 10 * sumN (fun o => nv N (94 + 12 * u + o)) (o + 1) := by
    intro z
    induction z with
    | zero => intro _; exact Nat.le_refl _
    | succ z ih =>
      intro hz
      have := ih (by omega)
      have := s10 (o + 1 + z) (by omega)
      rw [show o + 1 + (z + 1) = o + 1 + z + 1 by omega]
      have s1 : sumN (fun o => nv N (94 + 12 * u + o) * nv N (7 + 6 * o)) (o + 1 + z + 1) = sumN (fun o => nv N (94 + 12 * u + o) * nv N (7 + 6 * o)) (o + 1 + z) + nv N (94 + 12 * u + (o + 1 + z)) * nv N (7 + 6 * (o + 1 + z)) := rfl
      have s2 : sumN (fun o => nv N (94 + 12 * u + o)) (o + 1 + z + 1) = sumN (fun o => nv N (94 + 12 * u + o)) (o + 1 + z) + nv N (94 + 12 * u + (o + 1 + z)) := rfl
      rw [s1, s2]
      omega
  have h2 := h1 (7 - o) (by omega)
  have s1 : sumN (fun o => nv N (94 + 12 * u + o) * nv N (7 + 6 * o)) (o + 1) = sumN (fun o => nv N (94 + 12 * u + o) * nv N (7 + 6 * o)) o + nv N (94 + 12 * u + o) * nv N (7 + 6 * o) := rfl
  have s2 : sumN (fun o => nv N (94 + 12 * u + o)) (o + 1) = sumN (fun o => nv N (94 + 12 * u + o)) o + nv N (94 + 12 * u + o) := rfl
  rw [show o + 1 + (7 - o) = 8 by omega, s1, s2] at h2
  have e1 : sumN (fun o => nv N (94 + 12 * u + o) * nv N (7 + 6 * o)) 8 = usd N u := rfl
  have e2 : sumN (fun o => nv N (94 + 12 * u + o)) 8 = str N u := rfl
  rw [e1, e2] at h2
  have h3 : n * nv N (7 + 6 * o) + 10 * (nv N (94 + 12 * u + o) - n) ≤ nv N (94 + 12 * u + o) * nv N (7 + 6 * o) := by
    obtain ⟨z, hz⟩ : ∃ z, nv N (94 + 12 * u + o) = n + z := ⟨nv N (94 + 12 * u + o) - n, by omega⟩
    by_cases gz : z = 0
    · rw [hz, gz, Nat.add_zero, Nat.sub_self]; omega
    · have := (hw.2.2.1 o (wf_s7 hw hu ho (by omega))).2.1.2.1
      rw [hz, Nat.add_mul, show n + z - n = z by omega]
      have : 10 * z ≤ z * nv N (7 + 6 * o) := by rw [Nat.mul_comm]; exact Nat.mul_le_mul_left _ this
      omega
  omega
theorem sumN_part {f : Nat → Nat} {o : Nat} : ∀ {n : Nat}, o < n → sumN f o + f o ≤ sumN f n := by
  intro n
  induction n with
  | zero => intro h; exact absurd h (Nat.not_lt_zero _)
  | succ n ih =>
    intro h
    rw [sumN]
    rcases Nat.lt_or_ge o n with g | g
    · have := ih g; omega
    · obtain rfl : o = n := by omega
      exact Nat.le_refl _
/-- all strips so far are all there are -/
theorem cw_all (hw : WF N) {u o n : Nat} (hu : u < cU N) (ho : o < 8) (hn : n ≤ nv N (94 + 12 * u + o)) (h : str N u ≤ sumN (fun o => nv N (94 + 12 * u + o)) o + n) : usd N u ≤ sumN (fun o => nv N (94 + 12 * u + o) * nv N (7 + 6 * o)) o + n * nv N (7 + 6 * o) := by
  have e2 : sumN (fun o => nv N (94 + 12 * u + o)) 8 = str N u := rfl
  have hp := sumN_part (f := fun o => nv N (94 + 12 * u + o)) (o := o) (n := 8) ho
  rw [e2] at hp
  have hno : n = nv N (94 + 12 * u + o) := by omega
  have hz : ∀ m, o < m → m < 8 → nv N (94 + 12 * u + m) = 0 := by
    intro m hm hm8
    have h1 := sumN_part (f := fun o => nv N (94 + 12 * u + o)) (o := m) (n := 8) hm8
    have h2 := sumN_part (f := fun o => nv N (94 + 12 * u + o)) (o := o) (n := m) hm
    rw [e2] at h1
    omega
  have : ∀ z, o + 1 + z ≤ 8 → sumN (fun o => nv N (94 + 12 * u + o) * nv N (7 + 6 * o)) (o + 1 + z) = sumN (fun o => nv N (94 + 12 * u + o) * nv N (7 + 6 * o)) (o + 1) := by
    intro z
    induction z with
    | zero => intro _; rfl
    | succ z ih =>
      intro hz'
      rw [show o + 1 + (z + 1) = o + 1 + z + 1 by omega, sumN, ih (by omega), hz _ (by omega) (by omega), Nat.zero_mul, Nat.add_zero]
  have := this (7 - o) (by omega)
  have s1 : sumN (fun o => nv N (94 + 12 * u + o) * nv N (7 + 6 * o)) (o + 1) = sumN (fun o => nv N (94 + 12 * u + o) * nv N (7 + 6 * o)) o + nv N (94 + 12 * u + o) * nv N (7 + 6 * o) := rfl
  rw [show o + 1 + (7 - o) = 8 by omega, s1] at this
  have e1 : sumN (fun o => nv N (94 + 12 * u + o) * nv N (7 + 6 * o)) 8 = usd N u := rfl
  rw [e1] at this
  rw [this, hno]
  exact Nat.le_refl _
theorem k_addPos (hi : i < 12) {j c : Nat} (hj : j < 16) (hc : c < 7) (h5 : S 8 i j 5 = nI c) {x : Int32} : Ret d 68 [vR 8 i j, vI x] S none (sUp (sUp S 10 i j c x) 8 i j 5 (nI (c + 1))) := by
  refine E_68 ?_
  refine (B_68_0 (bk8 hi hj)).mpr ?_
  rw [if_neg (by rw [h5, show (7 : Int32) = nI 7 from rfl, qI_le (by omega) (by omega)]; omega)]
  refine (B_68_9 (n1_ := c) (bk8 hi hj) h5 hc (bk10 hi hj)).mpr ?_
  refine (B_68_29).mpr ?_
  rw [sUp_kind (by decide), h5, qI_succ]
  exact ⟨rfl, rfl⟩
def cnP (N : NV) (u t : Nat) : Nat := if aRest N u = 0 then min t (str N u - 1) else t + 1
theorem k_placeKnives (hi : i < 12) {j : Nat} (hj : j < 16) {M : NV} (hw : WF M) {u : Nat} (hu : u < cU M) (h4 : S 1 i 0 4 = nI (cO M)) (ho : ∀ o, o < cO M → S 4 i o 1 = M (7 + 6 * o)) (hr : S 6 i (nv M (90 + 12 * u)) 1 = M (55 + 3 * nv M (90 + 12 * u))) (q0 : S 8 i j 0 = M (90 + 12 * u)) (q2 : S 8 i j 2 = M (92 + 12 * u)) (q3 : S 8 i j 3 = nI (aRest M u)) (q9 : ∀ o, o < 8 → S 9 i j o = M (94 + 12 * u + o)) (hd : 1 ≤ d) : Wm d 40 [vR 1 i 0, vR 8 i j] S (fun q S' => q = none ∧ (∀ k i' m n, ¬ ((k = 8 ∧ n = 5 ∨ k = 10) ∧ i' = i ∧ m = j) → S' k i' m n = S k i' m n) ∧ S' 8 i j 5 = nI (aPos M u) ∧ ∀ k, k < aPos M u → S' 10 i j k = nI (aPosAt M u k)) := by
  obtain ⟨h16, e0, hq, hq12, hW, eW, hle, hs1, hs8, hs, hp7, ⟨he, he20⟩, h2e⟩ := wf_run hw hu
  have c8 := hw.1.2.1
  have hrest : aRest M u = rW M u - usd M u := rfl
  refine EW_40 ?_
  refine (B_40_0 (bk8 hi hj)).mpr ?_
  rw [sUp_slot (by decide), q3]
  have base : ∀ k, (paTo M u k 0).2 = if aRest M u = 0 then 0 else nv M (92 + 12 * u) := by
    intro k; unfold paTo; split <;> rfl
  have start : ∀ k, (paTo M u k 0).1 = if aRest M u = 0 then k + 1 else k := by
    intro k; unfold paTo; split <;> rfl
  generalize hb0 : (if aRest M u = 0 then 0 else nv M (92 + 12 * u)) = b0 at base
  have hb20 : b0 ≤ 20 := by
    rw [← hb0]
    split <;> omega
  let I : bSt → Prop := fun T => ∀ k i' m n, ¬ ((k = 8 ∧ n = 5 ∨ k = 10) ∧ i' = i ∧ m = j) → T k i' m n = S k i' m n
  -- the strips, order by order
  have loop : ∀ (T : bSt), I T → T 8 i j 5 = nI (cnP M u 0) → (∀ k, k < cnP M u 0 → T 10 i j k = nI (aPosAt M u k)) → ∀ u3 u4, Wp d 40 24 [some (vR 1 i 0), some (vR 8 i j), some (vI (nI b0)), u3, u4] [] T (fun q S' => q = none ∧ (∀ k i' m n, ¬ ((k = 8 ∧ n = 5 ∨ k = 10) ∧ i' = i ∧ m = j) → S' k i' m n = S k i' m n) ∧ S' 8 i j 5 = nI (aPos M u) ∧ ∀ k, k < aPos M u → S' 10 i j k = nI (aPosAt M u k)) := by
    intro T hI h5 hpos u3 u4
    refine (B_40_24).mpr ?_
    refine wloopI (cO M) (fun o ls U => (∃ w4, ls = [some (vR 1 i 0), some (vR 8 i j), some (vI (nI (b0 + sumN (fun o => nv M (94 + 12 * u + o) * nv M (7 + 6 * o)) o))), some (vI (nI o)), w4]) ∧ I U ∧ U 8 i j 5 = nI (cnP M u (sumN (fun o => nv M (94 + 12 * u + o)) o)) ∧ (∀ k, k < cnP M u (sumN (fun o => nv M (94 + 12 * u + o)) o) → U 10 i j k = nI (aPosAt M u k))) ?_ ?_ ⟨⟨u4, rfl⟩, hI, h5, hpos⟩
    · rintro ls U ⟨⟨w4, rfl⟩, hI, h5, hpos⟩
      refine (B_40_26 (bk1 hi)).mpr ?_
      rw [if_pos (by rw [hI _ _ _ _ (by omega), h4]; exact Int32.le_refl _)]
      refine (B_40_93).mpr ?_
      have et : sumN (fun o => nv M (94 + 12 * u + o)) (cO M) = str M u := by
        have : ∀ z, cO M + z ≤ 8 → sumN (fun o => nv M (94 + 12 * u + o)) (cO M + z) = sumN (fun o => nv M (94 + 12 * u + o)) (cO M) := by
          intro z
          induction z with
          | zero => intro _; rfl
          | succ z ih =>
            intro hz
            rw [show cO M + (z + 1) = cO M + z + 1 by omega, sumN, ih (by omega), (hs (cO M + z) (by omega)).2.2 (by omega), Nat.add_zero]
        have := this (8 - cO M) (by omega)
        rw [show cO M + (8 - cO M) = 8 by omega] at this
        exact this.symm
      rw [et] at h5 hpos
      have ec : cnP M u (str M u) = aPos M u := by
        unfold cnP aPos
        split <;> omega
      rw [ec] at h5 hpos
      exact ⟨rfl, hI, h5, hpos⟩
    · rintro o hoc ls U ⟨⟨w4, rfl⟩, hI, h5, hpos⟩ hn
      refine (B_40_26 (bk1 hi)).mpr ?_
      rw [if_neg (by rw [hI _ _ _ _ (by omega), h4, qI_le (by omega) (by omega)]; omega)]
      refine (B_40_34).mpr ?_
      have hso := (hs o (by omega)).1
      have hso8 := (hs o (by omega)).2.1
      obtain ⟨w7, -, w7b⟩ := (hw.2.2.1 o hoc).2.1
      rw [show nI (b0 + sumN (fun o => nv M (94 + 12 * u + o) * nv M (7 + 6 * o)) o) = nI (b0 + sumN (fun o => nv M (94 + 12 * u + o) * nv M (7 + 6 * o)) o + 0 * nv M (7 + 6 * o)) by rw [Nat.zero_mul, Nat.add_zero]]
      refine wloopI (nv M (94 + 12 * u + o)) (fun n ls V => ls = [some (vR 1 i 0), some (vR 8 i j), some (vI (nI (b0 + sumN (fun o => nv M (94 + 12 * u + o) * nv M (7 + 6 * o)) o + n * nv M (7 + 6 * o)))), some (vI (nI o)), some (vI (nI n))] ∧ I V ∧ V 8 i j 5 = nI (cnP M u (sumN (fun o => nv M (94 + 12 * u + o)) o + n)) ∧ (∀ k, k < cnP M u (sumN (fun o => nv M (94 + 12 * u + o)) o + n) → V 10 i j k = nI (aPosAt M u k))) ?_ ?_ ⟨rfl, hI, by rw [Nat.add_zero]; exact h5, by rw [Nat.add_zero]; exact hpos⟩
      · rintro ls V ⟨rfl, hI, h5, hpos⟩
        refine (B_40_37 (n1_ := o) (bk8 hi hj) rfl (by omega) (bk9 hi hj)).mpr ?_
        rw [if_pos (by rw [hI _ _ _ _ (by omega), q9 o (by omega), hso]; exact Int32.le_refl _)]
        refine (B_40_87).mpr ?_
        rw [qI_succ]
        refine hn _ _ ⟨⟨some (vI (nI (nv M (94 + 12 * u + o)))), ?_⟩, hI, ?_, ?_⟩
        · rw [sumN, Nat.add_assoc]
        · rw [sumN]; exact h5
        · rw [sumN]; exact hpos
      · rintro n hns ls V ⟨rfl, hI, h5, hpos⟩ hn2
        refine (B_40_37 (n1_ := o) (bk8 hi hj) rfl (by omega) (bk9 hi hj)).mpr ?_
        rw [if_neg (by rw [hI _ _ _ _ (by omega), q9 o (by omega), hso, qI_le (by omega) (by omega)]; omega)]
        refine (B_40_48 (n1_ := o) (n2_ := nv M (90 + 12 * u)) (bk1 hi) rfl (by omega) (bk3 hi) (bk4 hi (by omega)) (bk8 hi hj) (by rw [hI _ _ _ _ (by omega), q0]; exact e0) hq12 (bk5 hi) (bk6 hi hq12)).mpr ?_
        rw [hI 6 _ _ _ (by omega), hI 4 _ _ _ (by omega), hr, eW, ho o hoc, w7, ← qI_add]
        have hcw := cw_le hw hu (o := o) (n := n + 1) (by omega) (by omega)
        have hcw0 := cw_le hw hu (o := o) (n := n) (by omega) (by omega)
        have e7 : nv M (7 + 6 * o) = nv M (7 + 6 * o) := rfl
        rw [Nat.add_mul, Nat.one_mul] at hcw
        have eplace : b0 + sumN (fun o => nv M (94 + 12 * u + o) * nv M (7 + 6 * o)) o + n * nv M (7 + 6 * o) + nv M (7 + 6 * o) = b0 + sumN (fun o => nv M (94 + 12 * u + o) * nv M (7 + 6 * o)) o + (n + 1) * nv M (7 + 6 * o) := by rw [Nat.add_mul, Nat.one_mul]; omega
        have hat : ∀ k, (if aRest M u = 0 then k + 1 else k) = sumN (fun o => nv M (94 + 12 * u + o)) o + (n + 1) → aPosAt M u k = b0 + sumN (fun o => nv M (94 + 12 * u + o) * nv M (7 + 6 * o)) o + (n + 1) * nv M (7 + 6 * o) := by
          intro k hk
          rw [paTo_at (o := o) (n := n + 1) (by omega) (by omega) (by rw [start]; exact hk), base]
        rw [eplace]
        have hstr : sumN (fun o => nv M (94 + 12 * u + o)) o + (n + 1) ≤ str M u := by
          have := sumN_part (f := fun o => nv M (94 + 12 * u + o)) (o := o) (n := 8) (by omega)
          have e2 : sumN (fun o => nv M (94 + 12 * u + o)) 8 = str M u := rfl
          rw [e2] at this
          omega
        generalize hA : sumN (fun o => nv M (94 + 12 * u + o) * nv M (7 + 6 * o)) o = A at *
        generalize hB : sumN (fun o => nv M (94 + 12 * u + o)) o = B at *
        have hmul : n * nv M (7 + 6 * o) + nv M (7 + 6 * o) = (n + 1) * nv M (7 + 6 * o) := by rw [Nat.add_mul, Nat.one_mul]
        generalize hCC : (n + 1) * nv M (7 + 6 * o) = C at *
        have add : ¬ rW M u ≤ b0 + A + C → cnP M u (B + n) < 7 → cnP M u (B + (n + 1)) = cnP M u (B + n) + 1 → aPosAt M u (cnP M u (B + n)) = b0 + A + C → Wp d 40 76 [some (vR 1 i 0), some (vR 8 i j), some (vI (nI (b0 + A + C))), some (vI (nI o)), some (vI (nI n))] [] V (fun q S' => q = none ∧ (∀ k i' m n, ¬ ((k = 8 ∧ n = 5 ∨ k = 10) ∧ i' = i ∧ m = j) → S' k i' m n = S k i' m n) ∧ S' 8 i j 5 = nI (aPos M u) ∧ ∀ k, k < aPos M u → S' 10 i j k = nI (aPosAt M u k)) := by
          intro _ h7 hc hpa
          refine (B_40_76 (by omega) (k_addPos hi hj h7 h5) (bk8 hi hj)).mpr ?_
          refine (B_40_81).mpr ?_
          rw [qI_succ n]
          refine hn2 _ _ ⟨rfl, fun k i' m n' hk => ?_, by rw [sUp_same, hc], fun k hk => ?_⟩
          · have : sUp (sUp V 10 i j (cnP M u (B + n)) (nI (b0 + A + C))) 8 i j 5 (nI (cnP M u (B + n) + 1)) k i' m n' = V k i' m n' := by
              unfold sUp
              rw [if_neg, if_neg]
              · rintro ⟨rfl, rfl, rfl, -⟩; exact hk ⟨Or.inr rfl, rfl, rfl⟩
              · rintro ⟨rfl, rfl, rfl, rfl⟩; exact hk ⟨Or.inl ⟨rfl, rfl⟩, rfl, rfl⟩
            rw [this]
            exact hI k i' m n' hk
          · rw [sUp_kind (by decide)]
            by_cases gk : k = cnP M u (B + n)
            · subst gk; rw [sUp_same, hpa]
            · rw [sUp_slot gk]; exact hpos k (by omega)
        refine icT (qI_le (by omega) (by omega)) (fun g => ?_) (fun g => ?_)
        · -- at the roll's own edge
          refine (B_40_81).mpr ?_
          rw [qI_succ n]
          have hz : aRest M u = 0 ∧ B + (n + 1) = str M u := by
            by_cases hz : aRest M u = 0
            · refine ⟨hz, ?_⟩
              rw [if_pos hz] at hb0
              omega
            · exfalso
              rw [if_neg hz] at hb0
              omega
          have hc : cnP M u (B + (n + 1)) = cnP M u (B + n) := by
            unfold cnP
            rw [if_pos hz.1, if_pos hz.1]
            omega
          exact hn2 _ _ ⟨rfl, hI, by rw [hc]; exact h5, by rw [hc]; exact hpos⟩
        by_cases hz : aRest M u = 0
        · rw [if_pos hz] at hb0
          have hlt : B + (n + 1) < str M u := by
            rcases Nat.lt_or_ge (B + (n + 1)) (str M u) with q | q
            · exact q
            · exfalso
              -- all strips are cut, so the place is the edge
              apply g
              have hall := cw_all hw hu (o := o) (n := n + 1) (by omega) (by omega) (by rw [hB]; omega)
              rw [hA, hCC] at hall
              omega
          have hc1 : cnP M u (B + n) = B + n := by unfold cnP; rw [if_pos hz]; omega
          have hc2 : cnP M u (B + (n + 1)) = B + n + 1 := by unfold cnP; rw [if_pos hz]; omega
          exact add g (by omega) (by omega) (by rw [hc1]; exact hat _ (by rw [if_pos hz]; omega))
        · have hc1 : cnP M u (B + n) = B + n + 1 := by unfold cnP; rw [if_neg hz]
          have hc2 : cnP M u (B + (n + 1)) = B + n + 1 + 1 := by unfold cnP; rw [if_neg hz]; omega
          have h6 : str M u ≤ 6 := by
            have hap : aPos M u = str M u + 1 := by unfold aPos; rw [if_neg hz]
            omega
          exact add g (by omega) (by omega) (by rw [hc1]; exact hat _ (by rw [if_neg hz]; omega))
  have h5' : sUp S 8 i j 5 0 8 i j 5 = nI 0 := sUp_same
  have hI0 : I (sUp S 8 i j 5 0) := by
    intro k i' m n hk
    unfold sUp
    rw [if_neg]
    rintro ⟨rfl, rfl, rfl, rfl⟩
    exact hk ⟨Or.inl ⟨rfl, rfl⟩, rfl, rfl⟩
  have hrest300 := aRest_le hw hu
  refine icT ((qI_le (b := 0) (by omega) (by omega))) (fun g => ?_) (fun g => ?_)
  · have hz : aRest M u = 0 := by omega
    rw [if_pos hz] at hb0
    subst hb0
    have hc0 : cnP M u 0 = 0 := by unfold cnP; rw [if_pos hz]; omega
    exact loop _ hI0 (by rw [hc0]; exact h5') (fun k hk => by rw [hc0] at hk; exact absurd hk (Nat.not_lt_zero _)) _ _
  have hz : ¬ aRest M u = 0 := by omega
  rw [if_neg hz] at hb0
  refine (B_40_14 (by omega) (bk8 hi hj) (k_addPos hi hj (c := 0) (by omega) h5')).mpr ?_
  rw [sUp_slot (by decide), q2, he, hb0]
  have hc0 : cnP M u 0 = 1 := by unfold cnP; rw [if_neg hz]
  refine loop _ (fun k i' m n hk => ?_) (by rw [hc0]; exact sUp_same) (fun k hk => ?_) _ _
  · have : sUp (sUp (sUp S 8 i j 5 0) 10 i j 0 (nI b0)) 8 i j 5 (nI (0 + 1)) k i' m n = sUp S 8 i j 5 0 k i' m n := by
      conv => lhs; unfold sUp
      rw [if_neg, if_neg]
      · rfl
      · rintro ⟨rfl, rfl, rfl, -⟩; exact hk ⟨Or.inr rfl, rfl, rfl⟩
      · rintro ⟨rfl, rfl, rfl, rfl⟩; exact hk ⟨Or.inl ⟨rfl, rfl⟩, rfl, rfl⟩
    rw [this]
    exact hI0 k i' m n hk
  · rw [hc0] at hk
    obtain rfl : k = 0 := by omega
    rw [sUp_kind (by decide), sUp_same]
    rw [paTo_at (o := 0) (n := 0) (by omega) (by omega) (by rw [start, if_neg hz]; rfl), base, Nat.zero_mul]
    rfl
end M17e
