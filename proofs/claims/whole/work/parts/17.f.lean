/-! THE CLASS, 11: a run is made; split; a remnant is kept -/
section M17f
variable {d : Nat} {S : bSt} {N : NV} {i : Nat}
/-- a run object that holds what another one held, but for its length and what it is kept as -/
theorem RR_g {S' : bSt} {N' : NV} {j j' u v : Nat} (c0 : S' 8 i j 0 = S 8 i j' 0) (c2 : S' 8 i j 2 = S 8 i j' 2) (c3 : S' 8 i j 3 = S 8 i j' 3) (c5 : S' 8 i j 5 = S 8 i j' 5) (c9 : ∀ o, o < 8 → S' 9 i j o = S 9 i j' o) (c10 : ∀ k, k < 7 → S' 10 i j k = S 10 i j' k) (h7p : aPos N v ≤ 7) (h90 : N' (90 + 12 * u) = N (90 + 12 * v)) (h91 : S' 8 i j 1 = N' (91 + 12 * u)) (h92 : N' (92 + 12 * u) = N (92 + 12 * v)) (h93 : S' 8 i j 4 = N' (93 + 12 * u)) (hs : ∀ o, o < 8 → N' (94 + 12 * u + o) = N (94 + 12 * v + o)) (h55 : N' (55 + 3 * nv N (90 + 12 * v)) = N (55 + 3 * nv N (90 + 12 * v))) (h7 : ∀ o, o < 8 → nv N (94 + 12 * v + o) ≠ 0 → N' (7 + 6 * o) = N (7 + 6 * o)) (h : RR S i j' N v) : RR S' i j N' u := by
  obtain ⟨g1, g2, g3⟩ := geo_c h90 h92 hs h55 h7
  obtain ⟨r0, r1, r2, r3, r4, r5, r6, r7⟩ := h
  exact ⟨by rw [h90, c0]; exact r0, h91, by rw [h92, c2]; exact r2, by rw [g1, c3]; exact r3, h93, by rw [g2, c5]; exact r5, fun o ho => by rw [hs o ho, c9 o ho]; exact r6 o ho, fun k hk => by rw [g3]; rw [g2] at hk; rw [c10 k (by omega)]; exact r7 k hk⟩
theorem k_makeRun (hi : i < 12) (hP : PR S i N) (hw : WF N) (hd : 2 ≤ d) (hlt : cU N < 16) {k3 : Nat} (hk3 : k3 = 16 ∨ k3 = 28) {r : Nat} {x2 : Int32} {P : NV} (hr : r < cR N) (hPm : ∀ m, m < 8 → S k3 0 0 m = P m) (hM : WF (nRun N (nI r) x2 P)) : Wm d 39 [vR 1 i 0, vI (nI r), vI x2, vR k3 0 0] S (fun q S' => q = some (vI (N 5)) ∧ fK i S S' ∧ PR S' i (nRun N (nI r) x2 P)) := by
  have c8 := hw.1.2.1
  have c12 := hw.1.2.2.2.1
  have ha : bArr k3 0 = true := by rcases hk3 with rfl | rfl <;> rfl
  have hb : bok k3 0 0 = true := by rcases hk3 with rfl | rfl <;> rfl
  have hl : 8 ≤ bLen k3 := by rcases hk3 with rfl | rfl <;> decide
  have hj := P_j hP hlt
  have hMU : cU (nRun N (nI r) x2 P) = cU N + 1 := cU_n (by rw [nRun_5, hw.1.2.2.2.2.1, qI_succ]) (by omega)
  have hMO : cO (nRun N (nI r) x2 P) = cO N := cO_c (nRun_lo (by omega) (by omega))
  have hMR : cR (nRun N (nI r) x2 P) = cR N := cR_c (nRun_lo (by omega) (by omega))
  have e90 : nv (nRun N (nI r) x2 P) (90 + 12 * cU N) = r := nv_n nRun_x (by omega)
  obtain ⟨-, -, -, -, hW, eW, hle, -, -, hs, -⟩ := wf_run hM (u := cU N) (by omega)
  have hrW : rW (nRun N (nI r) x2 P) (cU N) = nv N (55 + 3 * r) := by
    unfold rW
    rw [e90]
    exact nv_c (nRun_lo (by omega) (by omega))
  have hPs : ∀ m, m < 8 → P m = nI (nv (nRun N (nI r) x2 P) (94 + 12 * cU N + m)) := fun m hm => by rw [← (hs m hm).1, nRun_s hm]
  refine EW_39 ?_
  refine (B_39_0 (bk1 hi)).mpr ?_
  rw [P_6 hP hw]
  rw [if_pos (by rw [show (16 : Int32) = nI 16 from rfl, qI_lt (by omega) (by omega)]; exact hlt)]
  refine (B_39_12 (n1_ := cU N) (m2_ := jx S i (cU N)) (n4_ := r) (bk1 hi) (P_6 hP hw) hlt rfl (bk7 hi) (bk8 hi hj) (bk2 hi) (by omega) (by omega) (by omega) ha hb (bk9 hi hj) rfl (by omega) (bk5 hi) (bk6 hi (by omega))).mpr ?_
  generalize hjj : jx S i (cU N) = j at *
  have hne : ¬ k3 = 8 ∧ ¬ k3 = 9 ∧ ¬ k3 = 10 := by omega
  -- what the memory holds before the rest is counted
  have hP' := hP
  obtain ⟨⟨a0, a1, a2⟩, ⟨b4, b5, b6⟩, co, cr, ex, ey, cu⟩ := hP'
  refine wloopI (cO N) (fun m ls T => ls = [some (vR 1 i 0), some (vI (nI r)), some (vI x2), some (vR k3 0 0), some (vR 8 i j), some (vI (nI m))] ∧ (∀ k i' j' n, ¬ ((k = 8 ∨ k = 9) ∧ i' = i ∧ j' = j) → T k i' j' n = S k i' j' n) ∧ T 8 i j 0 = nI r ∧ T 8 i j 1 = x2 ∧ T 8 i j 2 = N 1 ∧ T 8 i j 4 = -5 ∧ (∀ o, o < 8 → T 9 i j o = P o) ∧ T 8 i j 3 = nI (nv N (55 + 3 * r)) - nI (sumN (fun o => nv (nRun N (nI r) x2 P) (94 + 12 * cU N + o) * nv (nRun N (nI r) x2 P) (7 + 6 * o)) m)) ?_ ?_ ⟨rfl, fun k i' j' n hk => ?_, ?_, ?_, ?_, ?_, fun o ho => ?_, ?_⟩
  · rintro ls T ⟨rfl, hf, t0, t1, t2, t4, t9, t3⟩
    refine (B_39_83 (bk1 hi)).mpr ?_
    rw [if_pos (by rw [hf _ _ _ _ (by omega), b4, hw.1.1]; exact Int32.le_refl _)]
    have et : sumN (fun o => nv (nRun N (nI r) x2 P) (94 + 12 * cU N + o) * nv (nRun N (nI r) x2 P) (7 + 6 * o)) (cO N) = usd (nRun N (nI r) x2 P) (cU N) := by
      have : ∀ z, cO N + z ≤ 8 → sumN (fun o => nv (nRun N (nI r) x2 P) (94 + 12 * cU N + o) * nv (nRun N (nI r) x2 P) (7 + 6 * o)) (cO N + z) = sumN (fun o => nv (nRun N (nI r) x2 P) (94 + 12 * cU N + o) * nv (nRun N (nI r) x2 P) (7 + 6 * o)) (cO N) := by
        intro z
        induction z with
        | zero => intro _; rfl
        | succ z ih =>
          intro hz
          rw [show cO N + (z + 1) = cO N + z + 1 by omega, sumN, ih (by omega), (hs (cO N + z) (by omega)).2.2 (by omega), Nat.zero_mul, Nat.add_zero]
      have := this (8 - cO N) (by omega)
      rw [show cO N + (8 - cO N) = 8 by omega] at this
      exact this.symm
    rw [et] at t3
    have t3' : T 8 i j 3 = nI (aRest (nRun N (nI r) x2 P) (cU N)) := by
      rw [t3, qI_sub (by omega)]
      unfold aRest
      rw [hrW]
    obtain ⟨q, S1, e1, rfl, f1, s5, s10⟩ := Wm_ex (k_placeKnives (d := d - 1) (S := T) hi hj hM (u := cU N) (by omega) (by rw [hf _ _ _ _ (by omega), hMO, b4, hw.1.1]) (fun o ho => by rw [hf _ _ _ _ (by omega), nRun_lo (by omega) (by omega)]; exact (co o (by omega)).1.2.1) (by rw [e90, hf _ _ _ _ (by omega), nRun_lo (by omega) (by omega)]; exact (cr r hr).2.1) (by rw [t0, nRun_x]) (by rw [t2, nRun_e]) t3' (fun o ho => by rw [t9 o ho, nRun_s ho]) (by omega))
    refine (B_39_123 (by omega) e1 (bk1 hi)).mpr ?_
    have s6 : S1 1 i 0 6 = nI (cU N) := by rw [f1 _ _ _ _ (by omega), hf _ _ _ _ (by omega)]; exact P_6 hP hw
    rw [s6, qI_succ, sUp_same, nI_m1]
    -- the memory, place by place
    have g : ∀ k i' j' n, ¬ ((k = 8 ∨ k = 9 ∨ k = 10) ∧ i' = i ∧ j' = j) → ¬ (k = 1 ∧ i' = i ∧ j' = 0 ∧ n = 6) → sUp S1 1 i 0 6 (nI (cU N + 1)) k i' j' n = S k i' j' n := by
      intro k i' j' n h1 h2
      have : sUp S1 1 i 0 6 (nI (cU N + 1)) k i' j' n = S1 k i' j' n := by
        unfold sUp
        rw [if_neg h2]
      rw [this, f1 _ _ _ _ (by omega), hf _ _ _ _ (by omega)]
    have own : ∀ k n, k = 8 ∧ n ≠ 5 ∨ k = 9 → sUp S1 1 i 0 6 (nI (cU N + 1)) k i j n = T k i j n := by
      intro k n h
      rw [sUp_kind (by omega), f1 _ _ _ _ (by omega)]
    have ej : ∀ u, jx (sUp S1 1 i 0 6 (nI (cU N + 1))) i u = jx S i u := by
      intro u
      unfold jx
      rw [g 7 _ _ _ (by omega) (by omega)]
    refine ⟨by rw [hw.1.2.2.2.2.1], fun k i' j' n hk => g k i' j' n (by omega) (by omega), ⟨?_, ?_, ?_⟩, ⟨?_, ?_, ?_⟩, fun o ho => ?_, fun q hq => ?_, fun u hu => ?_, fun u v hu hv he => ?_, fun u hu => ?_⟩
    · rw [g _ _ _ _ (by omega) (by omega), nRun_lo (by omega) (by omega)]; exact a0
    · rw [g _ _ _ _ (by omega) (by omega), nRun_lo (by omega) (by omega)]; exact a1
    · rw [g _ _ _ _ (by omega) (by omega), nRun_lo (by omega) (by omega)]; exact a2
    · rw [g _ _ _ _ (by omega) (by omega), nRun_lo (by omega) (by omega)]; exact b4
    · rw [g _ _ _ _ (by omega) (by omega), nRun_lo (by omega) (by omega)]; exact b5
    · rw [sUp_same, nRun_5, hw.1.2.2.2.2.1, qI_succ]
    · rw [hMO] at ho
      have := OR_c (N' := nRun N (nI r) x2 P) (fun k h1 h2 => nRun_lo (by omega) (by omega)) (co o ho)
      unfold OR at *
      simp only [show ∀ j' n, sUp S1 1 i 0 6 (nI (cU N + 1)) 4 i j' n = S 4 i j' n from fun j' n => g 4 i j' n (by omega) (by omega)]
      exact this
    · rw [hMR] at hq
      rw [g _ _ _ _ (by omega) (by omega), g _ _ _ _ (by omega) (by omega), g _ _ _ _ (by omega) (by omega), nRun_lo (by omega) (by omega), nRun_lo (by omega) (by omega), nRun_lo (by omega) (by omega)]
      exact cr q hq
    · rw [g _ _ _ _ (by omega) (by omega), ej]; exact ex u hu
    · rw [ej, ej] at he; exact ey u v hu hv he
    · rw [hMU] at hu
      rw [ej]
      by_cases gu : u = cU N
      · subst gu
        rw [hjj]
        refine ⟨by rw [own _ _ (by omega), t0, nRun_x], by rw [own _ _ (by omega), t1, nRun_l], by rw [own _ _ (by omega), t2, nRun_e], by rw [own _ _ (by omega)]; exact t3', by rw [own _ _ (by omega), t4, nRun_k], by rw [sUp_kind (by decide)]; exact s5, fun o ho => by rw [own _ _ (by omega), t9 o ho, nRun_s ho], fun k hk => by rw [sUp_kind (by decide)]; exact s10 k hk⟩
      · have hne : jx S i u ≠ j := fun q => gu (ey u (cU N) (by omega) hlt (q.trans hjj.symm))
        have := RR_same (N' := nRun N (nI r) x2 P) hw (v := u) (by omega) (fun k h1 h2 => nRun_lo (by omega) (by omega)) (fun r hr => nRun_lo (by omega) (by omega)) (fun o ho => nRun_lo (by omega) (by omega)) (cu u (by omega))
        unfold RR at *
        simp only [show ∀ n, sUp S1 1 i 0 6 (nI (cU N + 1)) 8 i (jx S i u) n = S 8 i (jx S i u) n from fun n => g 8 i _ n (by omega) (by omega), show ∀ n, sUp S1 1 i 0 6 (nI (cU N + 1)) 9 i (jx S i u) n = S 9 i (jx S i u) n from fun n => g 9 i _ n (by omega) (by omega), show ∀ n, sUp S1 1 i 0 6 (nI (cU N + 1)) 10 i (jx S i u) n = S 10 i (jx S i u) n from fun n => g 10 i _ n (by omega) (by omega)]
        exact this
  · rintro m hm ls T ⟨rfl, hf, t0, t1, t2, t4, t9, t3⟩ hn
    refine (B_39_83 (bk1 hi)).mpr ?_
    rw [if_neg (by rw [hf _ _ _ _ (by omega), b4, hw.1.1, qI_le (by omega) (by omega)]; omega)]
    refine (B_39_92 (n1_ := m) (n2_ := m) (bk8 hi hj) (by omega) rfl (by omega) ha hb (bk1 hi) rfl (by omega) (bk3 hi) (bk4 hi (by omega))).mpr ?_
    rw [t3, hf k3 _ _ _ (by omega), hf 4 _ _ _ (by omega), hPm m (by omega), hPs m (by omega), (co m hm).1.2.1, qI_succ]
    have e7 : N (7 + 6 * m) = nI (nv (nRun N (nI r) x2 P) (7 + 6 * m)) := by
      rw [nv_c (N := N) (nRun_lo (by omega) (by omega))]
      exact (hw.2.2.1 m hm).2.1.1
    rw [e7]
    refine hn _ _ ⟨rfl, fun k i' j' n hk => ?_, ?_, ?_, ?_, ?_, fun o ho => ?_, ?_⟩
    · have : ∀ x, sUp T 8 i j 3 x k i' j' n = T k i' j' n := by
        intro x
        unfold sUp
        rw [if_neg]
        rintro ⟨rfl, rfl, rfl, -⟩
        exact hk ⟨Or.inl rfl, rfl, rfl⟩
      rw [this]
      exact hf k i' j' n hk
    · rw [sUp_slot (by decide)]; exact t0
    · rw [sUp_slot (by decide)]; exact t1
    · rw [sUp_slot (by decide)]; exact t2
    · rw [sUp_slot (by decide)]; exact t4
    · rw [sUp_kind (by decide)]; exact t9 o ho
    · rw [sUp_same, sumN, qI_add, qI_mul]
      grind
  · unfold sCp
    simp only [sUp]
    have h8 : ¬ (k = 8 ∧ i' = i ∧ j' = j) := fun q => hk ⟨Or.inl q.1, q.2⟩
    have h9 : ¬ (k = 9 ∧ i' = i ∧ j' = j) := fun q => hk ⟨Or.inr q.1, q.2⟩
    have h8' : ∀ z, ¬ (k = 8 ∧ i' = i ∧ j' = j ∧ n = z) := fun z q => h8 ⟨q.1, q.2.1, q.2.2.1⟩
    have h9' : ¬ (k = 9 ∧ i' = i ∧ j' = j ∧ 0 ≤ n ∧ n < 0 + 8) := fun q => h9 ⟨q.1, q.2.1, q.2.2.1⟩
    simp only [h8', h9', if_false]
  · simp [sUp, sCp]
  · simp [sUp, sCp]
  · simp [sUp, sCp, a1]
  · simp [sUp, sCp]
  · have := hPm o ho
    simp [sUp, sCp, ho, hne.1]
    exact this
  · simp [sUp, sCp]
    rw [(cr r hr).2.1, (hw.2.2.2.1 r hr).2.1.1]
    exact (Int32.sub_zero _).symm
end M17f
