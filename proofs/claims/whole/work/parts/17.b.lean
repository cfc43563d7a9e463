/-! THE CLASS, 7: what a run is in another row; settings, orders and rolls come in -/
section M17b
variable {d : Nat} {S : bSt} {N : NV} {i : Nat}
theorem geo_c {N N' : NV} {u v : Nat} (h90 : N' (90 + 12 * u) = N (90 + 12 * v)) (h92 : N' (92 + 12 * u) = N (92 + 12 * v)) (hs : ∀ o, o < 8 → N' (94 + 12 * u + o) = N (94 + 12 * v + o)) (h55 : N' (55 + 3 * nv N (90 + 12 * v)) = N (55 + 3 * nv N (90 + 12 * v))) (h7 : ∀ o, o < 8 → nv N (94 + 12 * v + o) ≠ 0 → N' (7 + 6 * o) = N (7 + 6 * o)) : aRest N' u = aRest N v ∧ aPos N' u = aPos N v ∧ ∀ k, aPosAt N' u k = aPosAt N v k := by
  have es : str N' u = str N v := sumN_congr _ (fun o ho => nv_c (hs o ho))
  have term : ∀ o, o < 8 → ∀ x, (nv N (94 + 12 * v + o) = 0 → x = 0) → x * nv N' (7 + 6 * o) = x * nv N (7 + 6 * o) := by
    intro o ho x hx
    by_cases g : nv N (94 + 12 * v + o) = 0
    · rw [hx g, Nat.zero_mul, Nat.zero_mul]
    · rw [nv_c (h7 o ho g)]
  have eu : usd N' u = usd N v := sumN_congr _ (fun o ho => by
    rw [nv_c (hs o ho)]
    exact term o ho _ (fun h => h))
  have ew : rW N' u = rW N v := by
    unfold rW
    rw [nv_c h90, nv_c h55]
  have er : aRest N' u = aRest N v := by unfold aRest; rw [eu, ew]
  refine ⟨er, by unfold aPos; rw [er, es], fun k => ?_⟩
  have key : ∀ n, n ≤ 8 → paTo N' u k n = paTo N v k n := by
    intro n
    induction n with
    | zero =>
      intro _
      unfold paTo
      rw [er, nv_c h92]
    | succ n ih =>
      intro hn
      unfold paTo
      rw [ih (by omega), nv_c (hs n (by omega))]
      congr 1
      congr 1
      exact term n (by omega) _ (fun h => by rw [h]; omega)
  unfold aPosAt
  rw [key 8 (Nat.le_refl _)]
theorem RR_c {j u v : Nat} {N' : NV} (h90 : N' (90 + 12 * u) = N (90 + 12 * v)) (h91 : N' (91 + 12 * u) = N (91 + 12 * v)) (h92 : N' (92 + 12 * u) = N (92 + 12 * v)) (h93 : N' (93 + 12 * u) = N (93 + 12 * v)) (hs : ∀ o, o < 8 → N' (94 + 12 * u + o) = N (94 + 12 * v + o)) (h55 : N' (55 + 3 * nv N (90 + 12 * v)) = N (55 + 3 * nv N (90 + 12 * v))) (h7 : ∀ o, o < 8 → nv N (94 + 12 * v + o) ≠ 0 → N' (7 + 6 * o) = N (7 + 6 * o)) (h : RR S i j N v) : RR S i j N' u := by
  obtain ⟨g1, g2, g3⟩ := geo_c h90 h92 hs h55 h7
  obtain ⟨r0, r1, r2, r3, r4, r5, r6, r7⟩ := h
  exact ⟨by rw [h90]; exact r0, by rw [h91]; exact r1, by rw [h92]; exact r2, by rw [g1]; exact r3, by rw [h93]; exact r4, by rw [g2]; exact r5, fun o ho => by rw [hs o ho]; exact r6 o ho, fun k hk => by rw [g3]; rw [g2] at hk; exact r7 k hk⟩
/-- a strip is of an order that is there -/
theorem wf_s7 (hw : WF N) {v o : Nat} (hv : v < cU N) (ho : o < 8) (h : nv N (94 + 12 * v + o) ≠ 0) : o < cO N := by
  obtain ⟨-, -, -, -, -, -, -, -, -, hs, -⟩ := wf_run hw hv
  rcases Nat.lt_or_ge o (cO N) with q | q
  · exact q
  · exact absurd ((hs o ho).2.2 q) h
/-- the same run in a row that has all of it -/
theorem RR_same {j v : Nat} {N' : NV} (hw : WF N) (hv : v < cU N) (hr : ∀ k, 90 + 12 * v ≤ k → k < 102 + 12 * v → N' k = N k) (hl : ∀ r, r < cR N → N' (55 + 3 * r) = N (55 + 3 * r)) (ho : ∀ o, o < cO N → N' (7 + 6 * o) = N (7 + 6 * o)) (h : RR S i j N v) : RR S i j N' v := by
  obtain ⟨-, -, hq, -⟩ := wf_run hw hv
  exact RR_c (hr _ (by omega) (by omega)) (hr _ (by omega) (by omega)) (hr _ (by omega) (by omega)) (hr _ (by omega) (by omega)) (fun o _ => hr _ (by omega) (by omega)) (hl _ hq) (fun o ho' hz => ho o (wf_s7 hw hv ho' hz)) h
theorem OR_c {o : Nat} {N' : NV} (h : ∀ k, 6 + 6 * o ≤ k → k < 12 + 6 * o → N' k = N k) (hO : OR S i N o) : OR S i N' o := by
  obtain ⟨⟨o0, o1, o2, o3, o4, o5⟩, ol, om⟩ := hO
  have e8 := h (8 + 6 * o) (by omega) (by omega)
  have e9 := h (9 + 6 * o) (by omega) (by omega)
  refine ⟨⟨by rw [h _ (by omega) (by omega)]; exact o0, by rw [h _ (by omega) (by omega)]; exact o1, by rw [h _ (by omega) (by omega)]; exact o2, by rw [h _ (by omega) (by omega)]; exact o3, by rw [h _ (by omega) (by omega)]; exact o4, by rw [h _ (by omega) (by omega)]; exact o5⟩, ?_, ?_⟩
  · unfold aLeast aAlw at *
    rw [e8, e9]
    exact ol
  · unfold aMost aAlw at *
    rw [e8, e9]
    exact om
theorem PR_282 {N' : NV} (hw : WF N) (h : ∀ m, m < 282 → N' m = N m) (hP : PR S i N) : PR S i N' := by
  have c8 := hw.1.2.1
  have c12 := hw.1.2.2.2.1
  have c16 := hw.1.2.2.2.2.2
  obtain ⟨⟨a0, a1, a2⟩, ⟨b4, b5, b6⟩, c, dd, e, f, g⟩ := hP
  refine ⟨⟨by rw [h _ (by omega)]; exact a0, by rw [h _ (by omega)]; exact a1, by rw [h _ (by omega)]; exact a2⟩, ⟨by rw [h _ (by omega)]; exact b4, by rw [h _ (by omega)]; exact b5, by rw [h _ (by omega)]; exact b6⟩, fun o ho => ?_, fun r hr => ?_, e, f, fun u hu => ?_⟩
  · rw [cO_c (h 3 (by omega))] at ho
    exact OR_c (fun k h1 h2 => h k (by omega)) (c o ho)
  · rw [cR_c (h 4 (by omega))] at hr
    rw [h _ (by omega), h _ (by omega), h _ (by omega)]
    exact dd r hr
  · rw [cU_c (h 5 (by omega))] at hu
    exact RR_same hw hu (fun k h1 h2 => h k (by omega)) (fun r hr => h _ (by omega)) (fun o ho => h _ (by omega)) (g u hu)
/-- the plan with its orders, rolls and runs, in a row that has more -/
theorem PR_more {N' : NV} {S' : bSt} (hw : WF N) (hP : PR S i N) (hf : ∀ k j m, k = 7 ∨ k = 8 ∨ k = 9 ∨ k = 10 → S' k i j m = S k i j m) (hset : S' 2 i 0 0 = N' 0 ∧ S' 2 i 0 1 = N' 1 ∧ S' 2 i 0 2 = N' 2) (hcnt : S' 1 i 0 4 = N' 3 ∧ S' 1 i 0 5 = N' 4 ∧ S' 1 i 0 6 = N' 5) (hU : N' 5 = N 5) (hO : ∀ o, o < cO N' → OR S' i N' o) (hR : ∀ r, r < cR N' → S' 6 i r 0 = N' (54 + 3 * r) ∧ S' 6 i r 1 = N' (55 + 3 * r) ∧ S' 6 i r 2 = N' (56 + 3 * r)) (hru : ∀ k, 90 ≤ k → k < 90 + 12 * cU N → N' k = N k) (hl : ∀ r, r < cR N → N' (55 + 3 * r) = N (55 + 3 * r)) (ho : ∀ o, o < cO N → N' (7 + 6 * o) = N (7 + 6 * o)) : PR S' i N' := by
  have hX := IX_eq (S' := S') (fun m => hf 7 0 m (Or.inl rfl)) (PR_IX hP)
  have ej : ∀ u, jx S' i u = jx S i u := fun u => by unfold jx; rw [hf 7 0 u (Or.inl rfl)]
  refine ⟨hset, hcnt, hO, hR, hX.1, hX.2, fun u hu => ?_⟩
  rw [cU_c hU] at hu
  rw [ej]
  have := RR_same hw hu (fun k h1 h2 => hru k (by omega) (by omega)) hl ho (P_u hP hu)
  unfold RR at *
  simp only [hf 8 _ _ (by omega), hf 9 _ _ (by omega), hf 10 _ _ (by omega)]
  exact this
/-- the settings' bounds, as the class keeps them -/
def Stc (S : bSt) : Prop := (S 34 0 0 0 = 2 ∧ S 34 0 0 1 = 0 ∧ S 34 0 0 2 = 10) ∧ (S 35 0 0 0 = 7 ∧ S 35 0 0 1 = 20 ∧ S 35 0 0 2 = 99)
theorem k_changeSetting (hi : i < 12) (hP : PR S i N) (hw : WF N) (hS : Stc S) (hd : 1 ≤ d) {x1 x2 : Int32} : Wm d 17 [vR 1 i 0, vI x1, vI x2] S (fun q S' => q = some (vI (aSt N x1 x2).1) ∧ fK i S S' ∧ PR S' i (aSt N x1 x2).2) := by
  refine EW_17 ?_
  refine (B_17_0).mpr ?_
  have c8 := hw.1.2.1
  have no : okSet x1 x2 = false → ∀ S', S' = S → (some (vI (-2)) = some (vI (aSt N x1 x2).1) ∧ fK i S S' ∧ PR S' i (aSt N x1 x2).2) := by
    rintro h S' rfl
    unfold aSt
    rw [if_neg (by rw [h]; decide)]
    exact ⟨rfl, fK_refl _ _, hP⟩
  refine ic (fun g1 => ?_) (fun g1 => ?_)
  · refine (B_17_9).mpr ?_
    exact no (by unfold okSet inR; rw [decide_eq_false (Int32.not_le.mpr g1), Bool.false_and, Bool.false_and]) _ rfl
  refine (B_17_4).mpr ?_
  rotate_left
  refine ic (fun g2 => ?_) (fun g2 => ?_)
  · have hin : inR x1 0 2 = true := by
      unfold inR
      rw [decide_eq_true (Int32.not_lt.mp g1), show (2 : Int32) = nI 3 - 1 from by decide, decide_eq_true ((lt_inR (c := 3) (by omega)).mp g2)]
      rfl
    obtain ⟨n, rfl, -, hn⟩ := inR_n (a := 0) (b := 2) hin (by decide) (by decide)
    have hlo : S 34 0 0 n = sLo (nI n) ∧ S 35 0 0 n = sHi (nI n) := by
      obtain ⟨⟨a0, a1, a2⟩, b0, b1, b2⟩ := hS
      rcases (show n = 0 ∨ n = 1 ∨ n = 2 by omega) with rfl | rfl | rfl
      · exact ⟨a0, b0⟩
      · exact ⟨a1, b1⟩
      · exact ⟨a2, b2⟩
    refine (B_17_12 (n1_ := n) (n2_ := n) (by omega) rfl (by omega) rfl (by omega) k_inRange).mpr ?_
    rw [hlo.1, hlo.2]
    refine icb (fun g3 => ?_) (fun g3 => ?_)
    · refine (B_17_29).mpr ?_
      exact no (by unfold okSet; rw [hin, g3]; rfl) _ rfl
    refine (B_17_32 (n1_ := n) (bk1 hi) rfl (by omega) (bk2 hi)).mpr ?_
    have hok : okSet (nI n) x2 = true := by unfold okSet; rw [hin, g3]; rfl
    unfold aSt
    rw [if_pos hok, nI_clamp (by omega)]
    dsimp only
    obtain ⟨⟨a0, a1, a2⟩, ⟨b4, b5, b6⟩, c, dd, e, f, g⟩ := hP
    have hv : S 2 i 0 n = N n := by
      rcases (show n = 0 ∨ n = 1 ∨ n = 2 by omega) with rfl | rfl | rfl
      · exact a0
      · exact a1
      · exact a2
    refine ⟨by rw [hv], fK_up (fK_refl _ _) (by omega) (by omega), PR_more (N := N) hw ⟨⟨a0, a1, a2⟩, ⟨b4, b5, b6⟩, c, dd, e, f, g⟩ (fun k j m hk => sUp_kind (by omega)) ?_ ?_ (upd_ne (by omega)) (fun o ho => ?_) (fun r hr => ?_) (fun k _ _ => upd_ne (by omega)) (fun r hr => upd_ne (by omega)) (fun o ho => upd_ne (by omega))⟩
    · rcases (show n = 0 ∨ n = 1 ∨ n = 2 by omega) with rfl | rfl | rfl
      · exact ⟨by rw [sUp_same, upd_same], by rw [sUp_slot (by omega), upd_ne (by omega)]; exact a1, by rw [sUp_slot (by omega), upd_ne (by omega)]; exact a2⟩
      · exact ⟨by rw [sUp_slot (by omega), upd_ne (by omega)]; exact a0, by rw [sUp_same, upd_same], by rw [sUp_slot (by omega), upd_ne (by omega)]; exact a2⟩
      · exact ⟨by rw [sUp_slot (by omega), upd_ne (by omega)]; exact a0, by rw [sUp_slot (by omega), upd_ne (by omega)]; exact a1, by rw [sUp_same, upd_same]⟩
    · rw [upd_ne (by omega), upd_ne (by omega), upd_ne (by omega), sUp_kind (by decide), sUp_kind (by decide), sUp_kind (by decide)]
      exact ⟨b4, b5, b6⟩
    · rw [cO_c (N := N) (upd_ne (by omega))] at ho
      have := OR_c (N' := upd N n x2) (fun k h1 h2 => upd_ne (by omega)) (c o ho)
      unfold OR at *
      simp only [sUp_kind (show 4 ≠ 2 by decide)]
      exact this
    · rw [cR_c (N := N) (upd_ne (by omega))] at hr
      rw [upd_ne (by omega), upd_ne (by omega), upd_ne (by omega), sUp_kind (by decide), sUp_kind (by decide), sUp_kind (by decide)]
      exact dd r hr
  refine (B_17_9).mpr ?_
  refine no ?_ _ rfl
  unfold okSet inR
  rw [show (2 : Int32) = nI 3 - 1 from by decide, decide_eq_false (fun q => g2 ((lt_inR (c := 3) (by omega)).mpr q)), Bool.and_false, Bool.false_and]
theorem nOrder_ne {x1 x2 x3 x4 x5 x6 : Int32} {k : Nat} (h3 : k ≠ 3) (h : k < 6 + 6 * cO N ∨ 12 + 6 * cO N ≤ k) : nOrder N x1 x2 x3 x4 x5 x6 k = N k := by
  unfold nOrder
  rw [upd_ne h3, upd_ne (by omega), upd_ne (by omega), upd_ne (by omega), upd_ne (by omega), upd_ne (by omega), upd_ne (by omega)]
theorem nOrder_at {x1 x2 x3 x4 x5 x6 : Int32} : nOrder N x1 x2 x3 x4 x5 x6 3 = N 3 + 1 ∧ nOrder N x1 x2 x3 x4 x5 x6 (6 + 6 * cO N) = x1 ∧ nOrder N x1 x2 x3 x4 x5 x6 (7 + 6 * cO N) = x2 ∧ nOrder N x1 x2 x3 x4 x5 x6 (8 + 6 * cO N) = x3 ∧ nOrder N x1 x2 x3 x4 x5 x6 (9 + 6 * cO N) = x4 ∧ nOrder N x1 x2 x3 x4 x5 x6 (10 + 6 * cO N) = x5 ∧ nOrder N x1 x2 x3 x4 x5 x6 (11 + 6 * cO N) = x6 := by
  unfold nOrder
  refine ⟨upd_same, ?_, ?_, ?_, ?_, ?_, ?_⟩
  · rw [upd_ne (by omega), upd_ne (by omega), upd_ne (by omega), upd_ne (by omega), upd_ne (by omega), upd_ne (by omega), upd_same]
  · rw [upd_ne (by omega), upd_ne (by omega), upd_ne (by omega), upd_ne (by omega), upd_ne (by omega), upd_same]
  · rw [upd_ne (by omega), upd_ne (by omega), upd_ne (by omega), upd_ne (by omega), upd_same]
  · rw [upd_ne (by omega), upd_ne (by omega), upd_ne (by omega), upd_same]
  · rw [upd_ne (by omega), upd_ne (by omega), upd_same]
  · rw [upd_ne (by omega), upd_same]
theorem k_putOrder (hi : i < 12) (hP : PR S i N) (hw : WF N) (hd : 1 ≤ d) {x1 x2 x3 x4 x5 x6 : Int32} : Wm d 18 [vR 1 i 0, vI x1, vI x2, vI x3, vI x4, vI x5, vI x6] S (fun q S' => q = some (vI (aLayO N x1 x2 x3 x4 x5 x6).1) ∧ fK i S S' ∧ PR S' i (aLayO N x1 x2 x3 x4 x5 x6).2) := by
  have c8 := hw.1.2.1
  refine EW_18 ?_
  unfold aLayO
  have no : okOrd x1 x2 x3 x4 x5 x6 = false → Wp d 18 68 [some (vR 1 i 0), some (vI x1), some (vI x2), some (vI x3), some (vI x4), some (vI x5), some (vI x6), none, none, none] [] S (fun q S' => q = some (vI (if okOrd x1 x2 x3 x4 x5 x6 = true then (if N 3 = 8 then (-3, N) else (N 3, nOrder N x1 x2 x3 x4 x5 x6)) else (-2, N)).1) ∧ fK i S S' ∧ PR S' i (if okOrd x1 x2 x3 x4 x5 x6 = true then (if N 3 = 8 then (-3, N) else (N 3, nOrder N x1 x2 x3 x4 x5 x6)) else (-2, N)).2) := by
    intro h
    refine (B_18_68).mpr ?_
    refine (B_18_69).mpr ?_
    rw [if_pos (rfl)]
    refine (B_18_76).mpr ?_
    rw [if_neg (by rw [h]; decide)]
    exact ⟨rfl, fK_refl _ _, hP⟩
  refine (B_18_0 (by omega) k_inRange).mpr ?_
  refine icb (fun g1 => ?_) (fun g1 => ?_)
  · exact no (by simp [okOrd, g1])
  refine (B_18_9 (by omega) k_inRange).mpr ?_
  refine icb (fun g2 => ?_) (fun g2 => ?_)
  · exact no (by simp [okOrd, g2])
  refine (B_18_21 (by omega) k_inRange).mpr ?_
  refine icb (fun g3 => ?_) (fun g3 => ?_)
  · exact no (by simp [okOrd, g3])
  refine (B_18_32 (by omega) k_inRange).mpr ?_
  refine icb (fun g4 => ?_) (fun g4 => ?_)
  · exact no (by simp [okOrd, g4])
  refine (B_18_43 (by omega) k_inRange).mpr ?_
  refine icb (fun g5 => ?_) (fun g5 => ?_)
  · exact no (by simp [okOrd, g5])
  refine (B_18_54 (by omega) k_inRange).mpr ?_
  refine icb (fun g6 => ?_) (fun g6 => ?_)
  · exact no (by simp [okOrd, g6])
  clear no
  have hok : okOrd x1 x2 x3 x4 x5 x6 = true := by simp [okOrd, g1, g2, g3, g4, g5, g6]
  rw [if_pos hok]
  refine (B_18_64).mpr ?_
  refine (B_18_69).mpr ?_
  rw [if_neg (by decide)]
  refine (B_18_79 (bk1 hi)).mpr ?_
  rw [P_4 hP hw, hw.1.1]
  rotate_left
  refine icT (qI_lt (b := 8) (by omega) (by omega)) (fun gl => ?_) (fun gl => ?_)
  · rw [if_neg (show ¬ nI (cO N) = 8 from by rw [show (8 : Int32) = nI 8 from rfl, qI_eq (by omega) (by omega)]; omega)]
    refine (B_18_91 (n1_ := cO N) (bk1 hi) (P_4 hP hw) gl (bk3 hi) (bk4 hi gl)).mpr ?_
    obtain ⟨q3, q4, q5, q6, q7, q8, q9⟩ := nOrder_at (N := N) (x1 := x1) (x2 := x2) (x3 := x3) (x4 := x4) (x5 := x5) (x6 := x6)
    dsimp only
    have hP' := hP
    obtain ⟨⟨a0, a1, a2⟩, ⟨b4, b5, b6⟩, c, dd, e, f, g⟩ := hP'
    refine ⟨?_, fK_up (fK_up (fK_up (fK_up (fK_up (fK_up (fK_up (fK_up (fK_up (fK_refl i S) (by omega) (by omega)) (by omega) (by omega)) (by omega) (by omega)) (by omega) (by omega)) (by omega) (by omega)) (by omega) (by omega)) (by omega) (by omega)) (by omega) (by omega)) (by omega) (by omega), PR_more hw hP (fun k j m hk => ?_) ?_ ?_ (nOrder_ne (by omega) (by omega)) (fun o ho => ?_) (fun r hr => ?_) (fun k _ _ => nOrder_ne (by omega) (by omega)) (fun r hr => nOrder_ne (by omega) (by omega)) (fun o ho => nOrder_ne (by omega) (by omega))⟩
    · simp [sUp, P_4 hP hw, qI_succ, nI_m1]
    · rw [sUp_kind (by omega), sUp_kind (by omega), sUp_kind (by omega), sUp_kind (by omega), sUp_kind (by omega), sUp_kind (by omega), sUp_kind (by omega), sUp_kind (by omega), sUp_kind (by omega)]
    · rw [nOrder_ne (by omega) (by omega), nOrder_ne (by omega) (by omega), nOrder_ne (by omega) (by omega)]
      simp [sUp, a0, a1, a2]
    · rw [q3, nOrder_ne (by omega) (by omega), nOrder_ne (by omega) (by omega)]
      simp [sUp, b4, b5, b6]
    · rw [cO_n (n := cO N + 1) (by rw [q3, hw.1.1, qI_succ]) (by omega)] at ho
      by_cases go : o = cO N
      · subst go
        refine ⟨⟨?_, ?_, ?_, ?_, ?_, ?_⟩, ?_, ?_⟩
        · rw [q4]; simp [sUp]
        · rw [q5]; simp [sUp]
        · rw [q6]; simp [sUp]
        · rw [q7]; simp [sUp]
        · rw [q8]; simp [sUp]
        · rw [q9]; simp [sUp]
        · unfold aLeast aAlw; rw [q6, q7]; simp [sUp]
        · unfold aMost aAlw; rw [q6, q7]; simp [sUp]
      · have := OR_c (N' := nOrder N x1 x2 x3 x4 x5 x6) (fun k h1 h2 => nOrder_ne (by omega) (by omega)) (c o (by omega))
        unfold OR at *
        simp [sUp, go]
        exact this
    · rw [cR_c (N := N) (nOrder_ne (by omega) (by omega))] at hr
      rw [nOrder_ne (by omega) (by omega), nOrder_ne (by omega) (by omega), nOrder_ne (by omega) (by omega)]
      have := dd r hr
      simp [sUp]
      exact this
  refine (B_18_88).mpr ?_
  rw [if_pos (show nI (cO N) = 8 from by rw [show cO N = 8 by omega]; rfl)]
  exact ⟨rfl, fK_refl _ _, hP⟩
theorem k_storeRoll (hi : i < 12) (hP : PR S i N) (hw : WF N) (hlt : cR N < 12) {x1 x2 x3 : Int32} : Wm d 20 [vR 1 i 0, vI x1, vI x2, vI x3] S (fun q S' => q = some (vI (N 4)) ∧ fK i S S' ∧ (∀ k j m, k = 7 ∨ k = 8 → S' k i j m = S k i j m) ∧ PR S' i (nRoll N x1 x2 x3)) := by
  have c8 := hw.1.2.1
  have c16 := hw.1.2.2.2.2.2
  refine EW_20 ?_
  refine (B_20_0 (n1_ := cR N) (bk1 hi) (P_5 hP hw) hlt (bk5 hi) (bk6 hi hlt)).mpr ?_
  have hP' := hP
  obtain ⟨⟨a0, a1, a2⟩, ⟨b4, b5, b6⟩, c, dd, e, f, g⟩ := hP'
  refine ⟨?_, fK_up (fK_up (fK_up (fK_up (fK_refl i S) (by omega) (by omega)) (by omega) (by omega)) (by omega) (by omega)) (by omega) (by omega), fun k j m hk => by rw [sUp_kind (by omega), sUp_kind (by omega), sUp_kind (by omega), sUp_kind (by omega)], PR_more hw hP (fun k j m hk => ?_) ?_ ?_ (nRoll_ne (by omega) (by omega)) (fun o ho => ?_) (fun r hr => ?_) (fun k _ _ => nRoll_ne (by omega) (by omega)) (fun r hr => nRoll_ne (by omega) (by omega)) (fun o ho => nRoll_ne (by omega) (by omega))⟩
  · simp [sUp, P_5 hP hw, qI_succ, nI_m1, hw.1.2.2.1]
  · rw [sUp_kind (by omega), sUp_kind (by omega), sUp_kind (by omega), sUp_kind (by omega)]
  · rw [nRoll_ne (by omega) (by omega), nRoll_ne (by omega) (by omega), nRoll_ne (by omega) (by omega)]
    simp [sUp, a0, a1, a2]
  · rw [nRoll_4, nRoll_ne (by omega) (by omega), nRoll_ne (by omega) (by omega)]
    simp [sUp, b4, b5, b6]
  · rw [cO_c (N := N) (nRoll_ne (by omega) (by omega))] at ho
    have := OR_c (N' := nRoll N x1 x2 x3) (fun k h1 h2 => nRoll_ne (by omega) (by omega)) (c o ho)
    unfold OR at *
    simp [sUp]
    exact this
  · rw [cR_n (n := cR N + 1) (by rw [nRoll_4, hw.1.2.2.1, qI_succ]) (by omega)] at hr
    by_cases go : r = cR N
    · subst go
      rw [nRoll_g, nRoll_w, nRoll_l]
      simp [sUp]
    · rw [nRoll_ne (by omega) (by omega), nRoll_ne (by omega) (by omega), nRoll_ne (by omega) (by omega)]
      have := dd r (by omega)
      simp [sUp, go]
      exact this
theorem k_putRoll (hi : i < 12) (hP : PR S i N) (hw : WF N) (hd : 1 ≤ d) {x1 x2 x3 : Int32} : Wm d 19 [vR 1 i 0, vI x1, vI x2, vI x3] S (fun q S' => q = some (vI (aLayR N x1 x2 x3).1) ∧ fK i S S' ∧ PR S' i (aLayR N x1 x2 x3).2) := by
  have c12 := hw.1.2.2.2.1
  refine EW_19 ?_
  unfold aLayR
  have no : okRoll x1 x2 x3 = false → Wp d 19 36 [some (vR 1 i 0), some (vI x1), some (vI x2), some (vI x3), none] [] S (fun q S' => q = some (vI (if okRoll x1 x2 x3 = true then (if N 4 = 12 then (-3, N) else (N 4, nRoll N x1 x2 x3)) else (-2, N)).1) ∧ fK i S S' ∧ PR S' i (if okRoll x1 x2 x3 = true then (if N 4 = 12 then (-3, N) else (N 4, nRoll N x1 x2 x3)) else (-2, N)).2) := by
    intro h
    refine (B_19_36).mpr ?_
    refine (B_19_37).mpr ?_
    rw [if_pos (rfl)]
    refine (B_19_44).mpr ?_
    rw [if_neg (by rw [h]; decide)]
    exact ⟨rfl, fK_refl _ _, hP⟩
  refine (B_19_0 (by omega) k_inRange).mpr ?_
  refine icb (fun g1 => ?_) (fun g1 => ?_)
  · exact no (by simp [okRoll, g1])
  refine (B_19_9 (by omega) k_inRange).mpr ?_
  refine icb (fun g2 => ?_) (fun g2 => ?_)
  · exact no (by simp [okRoll, g2])
  refine (B_19_21 (by omega) k_inRange).mpr ?_
  refine icb (fun g3 => ?_) (fun g3 => ?_)
  · exact no (by simp [okRoll, g3])
  clear no
  have hok : okRoll x1 x2 x3 = true := by simp [okRoll, g1, g2, g3]
  rw [if_pos hok]
  refine (B_19_32).mpr ?_
  refine (B_19_37).mpr ?_
  rw [if_neg (by decide)]
  refine (B_19_47 (bk1 hi)).mpr ?_
  rw [P_5 hP hw]
  rotate_left
  refine icT (qI_lt (b := 12) (by omega) (by omega)) (fun gl => ?_) (fun gl => ?_)
  · rw [if_neg (show ¬ N 4 = 12 from by rw [hw.1.2.2.1, show (12 : Int32) = nI 12 from rfl, qI_eq (by omega) (by omega)]; omega)]
    obtain ⟨q, S1, e1, rfl, h1, -, h2⟩ := Wm_ex (k_storeRoll (d := d - 1) hi hP hw gl (x1 := x1) (x2 := x2) (x3 := x3))
    refine (B_19_61 (by omega) e1 (bk1 hi)).mpr ?_
    refine (B_19_68).mpr ?_
    exact ⟨rfl, h1, h2⟩
  refine (B_19_56).mpr ?_
  refine (B_19_68).mpr ?_
  rw [if_pos (show N 4 = 12 from by rw [hw.1.2.2.1, show cR N = 12 by omega]; rfl)]
  exact ⟨rfl, fK_refl _ _, hP⟩
end M17b
