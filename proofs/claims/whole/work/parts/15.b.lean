/-! THE MODEL's methods, 10: what a run is: its rest, strips, positions, setups, waste -/
section M15b
def aRest (N : NV) (u : Nat) : Nat := rW N u - usd N u
def aPos (N : NV) (u : Nat) : Nat := if aRest N u = 0 then str N u - 1 else str N u + 1
/-- strips to go and the place, behind the first n orders -/
def paTo (N : NV) (u k : Nat) : Nat → Nat × Nat
  | 0 => if aRest N u = 0 then (k + 1, 0) else (k, nv N (92 + 12 * u))
  | o + 1 => ((paTo N u k o).1 - min (paTo N u k o).1 (nv N (94 + 12 * u + o)), (paTo N u k o).2 + min (paTo N u k o).1 (nv N (94 + 12 * u + o)) * nv N (7 + 6 * o))
def aPosAt (N : NV) (u k : Nat) : Nat := (paTo N u k 8).2
def hpB (N : NV) (u p : Nat) : Nat → Bool
  | 0 => false
  | n + 1 => hpB N u p n || decide (aPosAt N u n = p)
def aHasP (N : NV) (u p : Nat) : Bool := hpB N u p (aPos N u)
def grR (N : NV) (u : Nat) : Int32 := N (54 + 3 * nv N (90 + 12 * u))
def aSet (N : NV) (u v : Nat) : Nat := (if grR N u = grR N v then 0 else 5) + sumN (fun k => if aHasP N v (aPosAt N u k) = true then 0 else 1) (aPos N u)
def aSet1 (N : NV) (u : Nat) : Nat := if u = 0 then aPos N u else aSet N u (u - 1)
def aSets (N : NV) : Nat := sumN (aSet1 N) (cU N)
def aRemW (N : NV) (u : Nat) : Nat := aRest N u - 2 * nv N (92 + 12 * u)
def aWas (N : NV) (u : Nat) : Nat := nv N (91 + 12 * u) * (aRest N u - (if N (93 + 12 * u) = -5 then 0 else aRemW N u))
theorem hpB_iff {N : NV} {u p : Nat} : ∀ n, hpB N u p n = true ↔ ∃ k, k < n ∧ aPosAt N u k = p := by
  intro n
  induction n with
  | zero => simp [hpB]
  | succ n ih =>
    rw [hpB, Bool.or_eq_true, ih, decide_eq_true_iff]
    constructor
    · rintro (⟨k, h1, h2⟩ | h)
      · exact ⟨k, by omega, h2⟩
      · exact ⟨n, by omega, h⟩
    · rintro ⟨k, h1, h2⟩
      rcases Nat.lt_or_ge k n with g | g
      · exact Or.inl ⟨k, g, h2⟩
      · obtain rfl : k = n := by omega
        exact Or.inr h2
theorem wf_run {N : NV} (h : WF N) {u : Nat} (hu : u < cU N) : u < 16 ∧ N (90 + 12 * u) = nI (nv N (90 + 12 * u)) ∧ nv N (90 + 12 * u) < cR N ∧ nv N (90 + 12 * u) < 12 ∧ rW N u ≤ 300 ∧ N (55 + 3 * nv N (90 + 12 * u)) = nI (rW N u) ∧ usd N u ≤ rW N u ∧ 1 ≤ str N u ∧ str N u ≤ 8 ∧ (∀ o, o < 8 → N (94 + 12 * u + o) = nI (nv N (94 + 12 * u + o)) ∧ nv N (94 + 12 * u + o) ≤ 8 ∧ (cO N ≤ o → nv N (94 + 12 * u + o) = 0)) ∧ aPos N u ≤ 7 ∧ (N (92 + 12 * u) = nI (nv N (92 + 12 * u)) ∧ nv N (92 + 12 * u) ≤ 20) ∧ 2 * nv N (92 + 12 * u) ≤ aRest N u := by
  obtain ⟨⟨q1, q2⟩, q3, q4, q5, ⟨q6, q7, q8, q9⟩, q10⟩ := h.2.2.2.2.1 u hu
  have h16 := h.1.2.2.2.2.2
  have h12 := h.1.2.2.2.1
  obtain ⟨w1, -, w2⟩ := (h.2.2.2.1 _ q2).2.1
  refine ⟨by omega, q1, q2, by omega, w2, w1, by omega, q6, q7, fun o ho => ⟨(q5 o ho).1.1, (q5 o ho).1.2.2, (q5 o ho).2⟩, ?_, ⟨q4.1, q4.2.2⟩, by unfold aRest; omega⟩
  unfold aPos aRest
  split <;> omega
theorem aPos_le {N : NV} (h : WF N) {u : Nat} (hu : u < cU N) : aPos N u ≤ 7 := by
  obtain ⟨-, -, -, -, -, -, -, -, -, -, h1, -⟩ := wf_run h hu
  exact h1
variable {d : Nat} {S : bSt}
theorem c_restOf (hd : 2 ≤ d) (hw : WF (S 41 0 0)) {u : Nat} (hu : u < cU (S 41 0 0)) : Ret d 207 [vR 40 0 0, vI (nI u)] S (some (vI (nI (aRest (S 41 0 0) u)))) S := by
  obtain ⟨h16, e0, -, hr12, hW, eW, hle, -, -, hs, -⟩ := wf_run hw hu
  generalize hN : S 41 0 0 = N at *
  refine E_207 ?_
  have cr := c_r (d := d - 1) (S := S) (x1 := S 41 0 0 (90 + 12 * u)) (x2 := 1) (n := 55 + 3 * nv N (90 + 12 * u)) (by rw [hN, e0]; exact (by first | rfl | (simp only [qI_add, qI_mul, qI_lits]; done) | (simp only [qI_add, qI_mul, qI_lits]; grind))) (by omega)
  rw [hN, eW] at cr
  refine (B_207_0 (by omega) (c_u (n := 90 + 12 * u) (by first | rfl | (simp only [qI_add, qI_mul, qI_lits]; done) | (simp only [qI_add, qI_mul, qI_lits]; grind)) (by omega)) (by rw [hN]; exact cr)).mpr ?_
  rw [show some (vI (nI (rW N u))) = some (vI (nI (rW N u) - nI (sumN (fun o => nv N (94 + 12 * u + o) * nv N (7 + 6 * o)) 0))) from by rw [show nI (sumN (fun o => nv N (94 + 12 * u + o) * nv N (7 + 6 * o)) 0) = 0 from rfl, Int32.sub_zero]]
  refine wloop 8 (fun m => [some (vR 40 0 0), some (vI (nI u)), some (vI (nI (rW N u) - nI (sumN (fun o => nv N (94 + 12 * u + o) * nv N (7 + 6 * o)) m))), some (vI (nI m))]) (fun _ => S) ?_ ?_
  · refine (B_207_14).mpr ?_
    rw [if_pos (by decide)]
    refine (B_207_55).mpr ?_
    refine ⟨?_, rfl⟩
    exact congrArg (fun z => some (vI z)) (qI_sub hle)
  · intro m hm hn
    refine (B_207_14).mpr ?_
    rw [if_neg (by rw [show (8 : Int32) = nI 8 from rfl, qI_le (by omega) (by omega)]; omega)]
    have hst := c_strips (d := d - 1) (S := S) (x1 := nI u) (x2 := nI m) (n := 94 + 12 * u + m) (by omega) (by first | rfl | (simp only [qI_add, qI_mul, qI_lits]; done) | (simp only [qI_add, qI_mul, qI_lits]; grind)) (by omega)
    rw [hN, (hs m hm).1] at hst
    refine (B_207_20 (by omega) hst).mpr ?_
    rw [sumN] at hn
    refine ic (fun g => ?_) (fun g => ?_)
    · refine (B_207_30).mpr ?_
      refine (B_207_47).mpr ?_
      have g0 : nv N (94 + 12 * u + m) = 0 := by
        rw [show (0 : Int32) = nI 0 from rfl, qI_eq (by have := (hs m hm).2.1; omega) (by omega)] at g
        exact g
      rw [g0, Nat.zero_mul, Nat.add_zero] at hn
      rw [qI_succ, Int32.sub_zero]
      exact hn
    have hmo : m < cO N := by
      rcases Nat.lt_or_ge m (cO N) with q | q
      · exact q
      · exfalso
        apply g
        rw [(hs m hm).2.2 q]
        rfl
    have ho := c_o (d := d - 1) (S := S) (x1 := nI m) (x2 := 1) (n := 7 + 6 * m) (by first | rfl | (simp only [qI_add, qI_mul, qI_lits]; done) | (simp only [qI_add, qI_mul, qI_lits]; grind)) (by omega)
    rw [hN, (hw.2.2.1 m hmo).2.1.1] at ho
    refine (B_207_34 (by omega) hst ho).mpr ?_
    refine (B_207_47).mpr ?_
    rw [qI_add, qI_mul] at hn
    rw [qI_succ, show nI (rW N u) - nI (sumN (fun o => nv N (94 + 12 * u + o) * nv N (7 + 6 * o)) m) - nI (nv N (94 + 12 * u + m)) * nI (nv N (7 + 6 * m)) = nI (rW N u) - (nI (sumN (fun o => nv N (94 + 12 * u + o) * nv N (7 + 6 * o)) m) + nI (nv N (94 + 12 * u + m)) * nI (nv N (7 + 6 * m))) by grind]
    exact hn
theorem c_stripsOf (hd : 2 ≤ d) (hw : WF (S 41 0 0)) {u : Nat} (hu : u < cU (S 41 0 0)) : Ret d 208 [vR 40 0 0, vI (nI u)] S (some (vI (nI (str (S 41 0 0) u)))) S := by
  obtain ⟨h16, -, -, -, -, -, -, -, -, hs, -⟩ := wf_run hw hu
  generalize hN : S 41 0 0 = N at *
  refine E_208 ?_
  refine (B_208_0).mpr ?_
  refine wloop 8 (fun m => [some (vR 40 0 0), some (vI (nI u)), some (vI (nI (sumN (fun o => nv N (94 + 12 * u + o)) m))), some (vI (nI m))]) (fun _ => S) ?_ ?_
  · refine (B_208_4).mpr ?_
    rw [if_pos (by decide)]
    refine (B_208_25).mpr ?_
    exact ⟨rfl, rfl⟩
  · intro m hm hn
    refine (B_208_4).mpr ?_
    rw [if_neg (by rw [show (8 : Int32) = nI 8 from rfl, qI_le (by omega) (by omega)]; omega)]
    have hst := c_strips (d := d - 1) (S := S) (x1 := nI u) (x2 := nI m) (n := 94 + 12 * u + m) (by omega) (by first | rfl | (simp only [qI_add, qI_mul, qI_lits]; done) | (simp only [qI_add, qI_mul, qI_lits]; grind)) (by omega)
    rw [hN, (hs m hm).1] at hst
    refine (B_208_10 (by omega) hst).mpr ?_
    rw [sumN, qI_add] at hn
    rw [qI_succ]
    exact hn
theorem aKn_n {s rest : Nat} (hs : 1 ≤ s) (hr : rest < 2 ^ 31) : aKn (nI s) (nI rest) = nI (if rest = 0 then s - 1 else s + 1) := by
  unfold aKn
  by_cases h : rest = 0
  · subst h
    rw [if_pos (show nI 0 = 0 from rfl), if_pos rfl]
    exact qI_sub (b := 1) hs
  · rw [if_neg h, if_neg (by rw [show (0 : Int32) = nI 0 from rfl, qI_eq hr (by omega)]; exact h), qI_succ]
theorem aRest_le {N : NV} (h : WF N) {u : Nat} (hu : u < cU N) : aRest N u ≤ 300 := by
  obtain ⟨-, -, -, -, h1, -⟩ := wf_run h hu
  unfold aRest
  omega
theorem c_positionsOf (hd : 3 ≤ d) (hw : WF (S 41 0 0)) {u : Nat} (hu : u < cU (S 41 0 0)) : Ret d 209 [vR 40 0 0, vI (nI u)] S (some (vI (nI (aPos (S 41 0 0) u)))) S := by
  refine E_209 ?_
  refine (B_209_0 (by omega) (c_stripsOf (by omega) hw hu) (c_restOf (by omega) hw hu) c_knivesFor).mpr ?_
  obtain ⟨-, -, -, -, h1, -, -, h2, -⟩ := wf_run hw hu
  rw [aKn_n h2 (by have := aRest_le hw hu; omega)]
  exact ⟨rfl, rfl⟩
theorem paTo_le {N : NV} {u k : Nat} : ∀ n, (paTo N u k n).1 ≤ k + 1 := by
  intro n
  induction n with
  | zero => unfold paTo; split <;> dsimp only <;> omega
  | succ n ih => simp only [paTo]; omega
theorem c_positionAt (hd : 3 ≤ d) (hw : WF (S 41 0 0)) {u k : Nat} (hu : u < cU (S 41 0 0)) (hk : k < 100) : Ret d 210 [vR 40 0 0, vI (nI u), vI (nI k)] S (some (vI (nI (aPosAt (S 41 0 0) u k)))) S := by
  obtain ⟨h16, -, -, -, -, -, -, -, -, hs, -, ⟨he, he2⟩, -⟩ := wf_run hw hu
  have hrest := aRest_le hw hu
  have cr := c_restOf (d := d - 1) (by omega) hw hu
  generalize hN : S 41 0 0 = N at *
  refine E_210 ?_
  have e0 : nI (aRest N u) = 0 ↔ aRest N u = 0 := by rw [show (0 : Int32) = nI 0 from rfl, qI_eq (by omega) (by omega)]
  have loop : ∀ u6, Wp d 210 39 [some (vR 40 0 0), some (vI (nI u)), some (vI (nI k)), some (vI (nI (paTo N u k 0).1)), some (vI (nI (paTo N u k 0).2)), some (vI (nI 0)), u6] [] S (fun r1 S1 => r1 = some (vI (nI (aPosAt N u k))) ∧ S1 = S) := by
    intro u6
    refine wloopI 8 (fun m ls T => T = S ∧ ∃ w6, ls = [some (vR 40 0 0), some (vI (nI u)), some (vI (nI k)), some (vI (nI (paTo N u k m).1)), some (vI (nI (paTo N u k m).2)), some (vI (nI m)), w6]) ?_ ?_ ⟨rfl, u6, rfl⟩
    · rintro ls T ⟨rfl, w6, rfl⟩
      refine (B_210_39).mpr ?_
      rw [if_pos (by decide)]
      refine (B_210_94).mpr ?_
      exact ⟨rfl, rfl⟩
    · rintro m hm ls T ⟨rfl, w6, rfl⟩ hn
      refine (B_210_39).mpr ?_
      rw [if_neg (by rw [show (8 : Int32) = nI 8 from rfl, qI_le (by omega) (by omega)]; omega)]
      have hst := c_strips (d := d - 1) (S := T) (x1 := nI u) (x2 := nI m) (n := 94 + 12 * u + m) (by omega) (by first | rfl | (simp only [qI_add, qI_mul, qI_lits]; done) | (simp only [qI_add, qI_mul, qI_lits]; grind)) (by omega)
      rw [hN, (hs m hm).1] at hst
      have hp := paTo_le (N := N) (u := u) (k := k) m
      have h8 := (hs m hm).2.1
      refine (B_210_46 (by omega) hst (c_min (by omega) (by omega))).mpr ?_
      generalize hM : min (paTo N u k m).1 (nv N (94 + 12 * u + m)) = M
      have hM1 : M ≤ (paTo N u k m).1 := by omega
      have hn' := hn
      simp only [paTo, hM] at hn'
      refine ic (fun g => ?_) (fun g => ?_)
      · refine (B_210_66).mpr ?_
        refine (B_210_80).mpr ?_
        have g0 : M = 0 := by
          rw [show (0 : Int32) = nI 0 from rfl, qI_eq (by omega) (by omega)] at g
          exact g
        rw [qI_sub hM1, qI_succ, Int32.add_zero]
        have := hn' _ T ⟨rfl, some (vI (nI M)), rfl⟩
        rw [show (paTo N u k m).2 + M * nv N (7 + 6 * m) = (paTo N u k m).2 by rw [g0]; omega] at this
        exact this
      have hmo : m < cO N := by
        rcases Nat.lt_or_ge m (cO N) with q | q
        · exact q
        · exfalso
          apply g
          rw [show M = 0 by have := (hs m hm).2.2 q; omega]
          rfl
      have ho := c_o (d := d - 1) (S := T) (x1 := nI m) (x2 := 1) (n := 7 + 6 * m) (by first | rfl | (simp only [qI_add, qI_mul, qI_lits]; done) | (simp only [qI_add, qI_mul, qI_lits]; grind)) (by omega)
      rw [hN, (hw.2.2.1 m hmo).2.1.1] at ho
      refine (B_210_70 (by omega) ho).mpr ?_
      refine (B_210_80).mpr ?_
      rw [qI_sub hM1, qI_succ, ← qI_mul, ← qI_add]
      exact hn' _ T ⟨rfl, _, rfl⟩
  refine (B_210_0 (by omega) cr).mpr ?_
  refine icT (e0) (fun g => ?_) (fun g => ?_)
  · refine (B_210_8).mpr ?_
    refine (B_210_15 (by omega) cr).mpr ?_
    rw [if_pos (e0.mpr g)]
    refine (B_210_24).mpr ?_
    refine (B_210_34).mpr ?_
    have := loop none
    simp only [paTo, g, if_true] at this
    rw [qI_succ]
    exact this
  refine (B_210_14).mpr ?_
  refine (B_210_15 (by omega) cr).mpr ?_
  rw [if_neg (fun q => g (e0.mp q))]
  have cu := c_u (d := d - 1) (S := S) (x1 := nI u) (x2 := 2) (n := 92 + 12 * u) (by first | rfl | (simp only [qI_add, qI_mul, qI_lits]; done) | (simp only [qI_add, qI_mul, qI_lits]; grind)) (by omega)
  rw [hN, he] at cu
  refine (B_210_28 (by omega) cu).mpr ?_
  refine (B_210_34).mpr ?_
  have := loop none
  simp only [paTo, g, if_false] at this
  exact this
theorem paTo_2 {N : NV} (h : WF N) {u : Nat} (hu : u < cU N) {k : Nat} : ∀ n, n ≤ 8 → (paTo N u k n).2 ≤ nv N (92 + 12 * u) + sumN (fun o => nv N (94 + 12 * u + o) * nv N (7 + 6 * o)) n := by
  intro n
  induction n with
  | zero => intro _; unfold paTo; split <;> dsimp only <;> omega
  | succ n ih =>
    intro hn
    have := ih (by omega)
    simp only [paTo, sumN]
    have h2 : min (paTo N u k n).1 (nv N (94 + 12 * u + n)) * nv N (7 + 6 * n) ≤ nv N (94 + 12 * u + n) * nv N (7 + 6 * n) := Nat.mul_le_mul_right _ (Nat.min_le_right _ _)
    omega
theorem aPosAt_le {N : NV} (h : WF N) {u : Nat} (hu : u < cU N) (k : Nat) : aPosAt N u k ≤ 300 := by
  have := paTo_2 h hu (k := k) 8 (Nat.le_refl _)
  obtain ⟨-, -, -, -, h1, -, h2, -, -, -, -, ⟨-, h3⟩, h4⟩ := wf_run h hu
  have e : sumN (fun o => nv N (94 + 12 * u + o) * nv N (7 + 6 * o)) 8 = usd N u := rfl
  unfold aRest at h4
  unfold aPosAt
  omega
theorem c_hasPosition (hd : 4 ≤ d) (hw : WF (S 41 0 0)) {u p : Nat} (hu : u < cU (S 41 0 0)) (hp : p ≤ 300) : Ret d 211 [vR 40 0 0, vI (nI u), vI (nI p)] S (some (vI (tf (aHasP (S 41 0 0) u p)))) S := by
  have h7 := aPos_le hw hu
  refine E_211 ?_
  refine (B_211_0).mpr ?_
  have go : ∀ (n m : Nat), m + n = aPos (S 41 0 0) u → hpB (S 41 0 0) u p m = false → Wp d 211 2 [some (vR 40 0 0), some (vI (nI u)), some (vI (nI p)), some (vI (nI m))] [] S (fun r1 S1 => r1 = some (vI (tf (aHasP (S 41 0 0) u p))) ∧ S1 = S) := by
    intro n
    induction n with
    | zero =>
      intro m hm hf
      refine (B_211_2 (by omega) (c_positionsOf (by omega) hw hu)).mpr ?_
      rw [if_pos (by rw [qI_le (by omega) (by omega)]; omega)]
      refine (B_211_29).mpr ?_
      refine ⟨?_, rfl⟩
      unfold aHasP
      rw [show aPos (S 41 0 0) u = m by omega, hf]
      rfl
    | succ n ih =>
      intro m hm hf
      refine (B_211_2 (by omega) (c_positionsOf (by omega) hw hu)).mpr ?_
      rw [if_neg (by rw [qI_le (by omega) (by omega)]; omega)]
      refine (B_211_11 (by omega) (c_positionAt (by omega) hw hu (by omega))).mpr ?_
      have := aPosAt_le hw hu m
      refine icT (qI_eq (by omega) (by omega)) (fun g => ?_) (fun g => ?_)
      · refine (B_211_21).mpr ?_
        refine ⟨?_, rfl⟩
        have : aHasP (S 41 0 0) u p = true := (hpB_iff _).mpr ⟨m, by omega, g⟩
        rw [this]
        rfl
      refine (B_211_23).mpr ?_
      rw [qI_succ]
      refine ih (m + 1) (by omega) ?_
      simp [hpB, hf, g]
  exact go (aPos (S 41 0 0) u) 0 (by omega) rfl
theorem c_setupOf (hd : 5 ≤ d) (hw : WF (S 41 0 0)) {u v : Nat} (hu : u < cU (S 41 0 0)) (hv : v < cU (S 41 0 0)) : Ret d 212 [vR 40 0 0, vI (nI u), vI (nI v)] S (some (vI (nI (aSet (S 41 0 0) u v)))) S := by
  have h7 := aPos_le hw hu
  obtain ⟨h16, e0, -, hr12, -⟩ := wf_run hw hu
  obtain ⟨h16', e0', -, hr12', -⟩ := wf_run hw hv
  refine E_212 ?_
  refine (B_212_0).mpr ?_
  rw [if_neg (nI_ne_m1 (by omega))]
  have cr1 := c_r (d := d - 1) (S := S) (x1 := S 41 0 0 (90 + 12 * u)) (x2 := 0) (n := 54 + 3 * nv (S 41 0 0) (90 + 12 * u)) (by rw [e0]; exact (by first | rfl | (simp only [qI_add, qI_mul, qI_lits]; done) | (simp only [qI_add, qI_mul, qI_lits]; grind))) (by omega)
  have cr2 := c_r (d := d - 1) (S := S) (x1 := S 41 0 0 (90 + 12 * v)) (x2 := 0) (n := 54 + 3 * nv (S 41 0 0) (90 + 12 * v)) (by rw [e0']; exact (by first | rfl | (simp only [qI_add, qI_mul, qI_lits]; done) | (simp only [qI_add, qI_mul, qI_lits]; grind))) (by omega)
  refine (B_212_11 (by omega) (c_u (n := 90 + 12 * u) (by first | rfl | (simp only [qI_add, qI_mul, qI_lits]; done) | (simp only [qI_add, qI_mul, qI_lits]; grind)) (by omega)) cr1 (c_u (n := 90 + 12 * v) (by first | rfl | (simp only [qI_add, qI_mul, qI_lits]; done) | (simp only [qI_add, qI_mul, qI_lits]; grind)) (by omega)) cr2).mpr ?_
  have loop : ∀ (g : Nat), g = (if grR (S 41 0 0) u = grR (S 41 0 0) v then 0 else 5) → Wp d 212 41 [some (vR 40 0 0), some (vI (nI u)), some (vI (nI v)), none, none] [vI (nI g)] S (fun r1 S1 => r1 = some (vI (nI (aSet (S 41 0 0) u v))) ∧ S1 = S) := by
    intro g hg
    refine (B_212_41).mpr ?_
    refine wloop (aPos (S 41 0 0) u) (fun m => [some (vR 40 0 0), some (vI (nI u)), some (vI (nI v)), some (vI (nI (g + sumN (fun k => if aHasP (S 41 0 0) v (aPosAt (S 41 0 0) u k) = true then 0 else 1) m))), some (vI (nI m))]) (fun _ => S) ?_ ?_
    · refine (B_212_45 (by omega) (c_positionsOf (by omega) hw hu)).mpr ?_
      rw [if_pos (by exact Int32.le_refl _)]
      refine (B_212_84).mpr ?_
      rw [hg]
      exact ⟨rfl, rfl⟩
    · intro m hm hn
      refine (B_212_45 (by omega) (c_positionsOf (by omega) hw hu)).mpr ?_
      rw [if_neg (by rw [qI_le (by omega) (by omega)]; omega)]
      refine (B_212_55 (by omega) (c_positionAt (by omega) hw hu (by omega)) (c_hasPosition (by omega) hw hv (aPosAt_le hw hu m))).mpr ?_
      rw [sumN] at hn
      refine icb (fun gb => ?_) (fun gb => ?_)
      · refine (B_212_75).mpr ?_
        refine (B_212_76).mpr ?_
        rw [gb, if_neg (by decide), ← Nat.add_assoc, ← qI_succ] at hn
        rw [qI_succ m]
        exact hn
      refine (B_212_71).mpr ?_
      refine (B_212_76).mpr ?_
      rw [gb, if_pos rfl, Nat.add_zero] at hn
      rw [qI_succ m, Int32.add_zero]
      exact hn
  refine ic (fun g => ?_) (fun g => ?_)
  · refine (B_212_36).mpr ?_
    exact loop 0 (if_pos g).symm
  refine (B_212_40).mpr ?_
  exact loop 5 (if_neg g).symm
theorem c_setupOf1 (hd : 5 ≤ d) (hw : WF (S 41 0 0)) {u : Nat} (hu : u < cU (S 41 0 0)) : Ret d 212 [vR 40 0 0, vI (nI u), vI (-1)] S (some (vI (nI (aPos (S 41 0 0) u)))) S := by
  refine E_212 ?_
  refine (B_212_0).mpr ?_
  rw [if_pos (rfl)]
  refine (B_212_5 (by omega) (c_positionsOf (by omega) hw hu)).mpr ?_
  exact ⟨rfl, rfl⟩
theorem c_setupB (hd : 5 ≤ d) (hw : WF (S 41 0 0)) {u : Nat} (hu : u < cU (S 41 0 0)) : Ret d 212 [vR 40 0 0, vI (nI u), vI (nI u - 1)] S (some (vI (nI (aSet1 (S 41 0 0) u)))) S := by
  unfold aSet1
  by_cases g : u = 0
  · subst g
    rw [if_pos rfl]
    exact c_setupOf1 hd hw hu
  · rw [if_neg g, qI_test3 u (by omega)]
    exact c_setupOf hd hw hu (by omega)
theorem c_setups (hd : 6 ≤ d) (hw : WF (S 41 0 0)) : Ret d 213 [vR 40 0 0] S (some (vI (nI (aSets (S 41 0 0))))) S := by
  have h5 := hw.1.2.2.2.2.1
  have h16 := hw.1.2.2.2.2.2
  refine E_213 ?_
  refine (B_213_0).mpr ?_
  refine wloop (cU (S 41 0 0)) (fun m => [some (vR 40 0 0), some (vI (nI (sumN (aSet1 (S 41 0 0)) m))), some (vI (nI m))]) (fun _ => S) ?_ ?_
  · refine (B_213_4).mpr ?_
    rw [if_pos (by rw [h5]; exact Int32.le_refl _)]
    refine (B_213_31).mpr ?_
    exact ⟨rfl, rfl⟩
  · intro m hm hn
    refine (B_213_4).mpr ?_
    rw [if_neg (by rw [h5, qI_le (by omega) (by omega)]; omega)]
    refine (B_213_14 (by omega) (c_setupB (by omega) hw hm)).mpr ?_
    rw [sumN, qI_add] at hn
    rw [qI_succ]
    exact hn
theorem c_remnantWidth (hd : 3 ≤ d) (hw : WF (S 41 0 0)) {u : Nat} (hu : u < cU (S 41 0 0)) : Ret d 214 [vR 40 0 0, vI (nI u)] S (some (vI (nI (aRemW (S 41 0 0) u)))) S := by
  obtain ⟨h16, -, -, -, -, -, -, -, -, -, -, ⟨he, -⟩, h2⟩ := wf_run hw hu
  refine E_214 ?_
  refine (B_214_0 (by omega) (c_restOf (by omega) hw hu) (c_u (n := 92 + 12 * u) (by first | rfl | (simp only [qI_add, qI_mul, qI_lits]; done) | (simp only [qI_add, qI_mul, qI_lits]; grind)) (by omega))).mpr ?_
  unfold aRemW
  rw [he, show (2 : Int32) = nI 2 from rfl, ← qI_mul, qI_sub h2]
  exact ⟨rfl, rfl⟩
theorem c_wasteOf (hd : 4 ≤ d) (hw : WF (S 41 0 0)) {u : Nat} (hu : u < cU (S 41 0 0)) : Ret d 215 [vR 40 0 0, vI (nI u)] S (some (vI (nI (aWas (S 41 0 0) u)))) S := by
  obtain ⟨h16, -, -, -, -, -, -, -, -, -, -, ⟨he, -⟩, h2⟩ := wf_run hw hu
  have hl := (hw.2.2.2.2.1 u hu).2.1.1
  refine E_215 ?_
  refine (B_215_0 (by omega) (c_u (n := 91 + 12 * u) (by first | rfl | (simp only [qI_add, qI_mul, qI_lits]; done) | (simp only [qI_add, qI_mul, qI_lits]; grind)) (by omega)) (c_restOf (by omega) hw hu) (c_u (n := 93 + 12 * u) (by first | rfl | (simp only [qI_add, qI_mul, qI_lits]; done) | (simp only [qI_add, qI_mul, qI_lits]; grind)) (by omega))).mpr ?_
  unfold aWas
  refine ic (fun g => ?_) (fun g => ?_)
  · refine (B_215_22).mpr ?_
    refine (B_215_31).mpr ?_
    rw [if_pos g, qI_mul, ← hl, Nat.sub_zero, Int32.sub_zero]
    exact ⟨rfl, rfl⟩
  refine (B_215_26 (by omega) (c_remnantWidth (by omega) hw hu)).mpr ?_
  refine (B_215_31).mpr ?_
  rw [if_neg g, qI_mul, ← hl, qI_sub (by unfold aRemW; omega)]
  exact ⟨rfl, rfl⟩
def aMdR (N : NV) (u : Nat) (x : Int32) : Int32 := if x = 0 then N (90 + 12 * u) else if x = 1 then N (91 + 12 * u) else if x = 2 then nI (str N u) else if x = 3 then nI (aRest N u) else if x = 4 then nI (aPos N u) else if x = 5 then nI (aSet1 N u) else if x = 6 then nI (aWas N u) else if x = 7 then N (93 + 12 * u) else if x = 8 then nI (aRemW N u) else if vO N (x - 10) = true then N (94 + 12 * u + (x - 10).toNatClampNeg) else -2
def aMd (N : NV) (x1 x2 : Int32) : Int32 := if vU N x1 = true then aMdR N x1.toNatClampNeg x2 else -1
theorem c_made (hd : 6 ≤ d) (hw : WF (S 41 0 0)) {x1 x2 : Int32} : Ret d 216 [vR 40 0 0, vI x1, vI x2] S (some (vI (aMd (S 41 0 0) x1 x2))) S := by
  refine E_216 ?_
  refine (B_216_0 (by omega) (c_isRun (by omega))).mpr ?_
  unfold aMd vU
  rw [inR_tf]
  refine icb (fun g => ?_) (fun g => ?_)
  · refine (B_216_8).mpr ?_
    rw [g]
    exact ⟨rfl, rfl⟩
  obtain ⟨u, rfl, hu, h16⟩ := vU_ix hw.1 g
  rw [if_pos g, nI_clamp (by omega)]
  refine (B_216_10).mpr ?_
  rw [X_216_11]
  unfold aMdR
  refine ic (fun q0 => ?_) (fun q0 => ?_)
  · subst q0
    refine (B_216_60 (by omega) (c_u (n := 90 + 12 * u) (by first | rfl | (simp only [qI_add, qI_mul, qI_lits]; done) | (simp only [qI_add, qI_mul, qI_lits]; grind)) (by omega))).mpr ?_
    exact ⟨rfl, rfl⟩
  rw [if_neg q0]
  refine ic (fun q1 => ?_) (fun q1 => ?_)
  · subst q1
    refine (B_216_60 (by omega) (c_u (n := 91 + 12 * u) (by first | rfl | (simp only [qI_add, qI_mul, qI_lits]; done) | (simp only [qI_add, qI_mul, qI_lits]; grind)) (by omega))).mpr ?_
    exact ⟨rfl, rfl⟩
  rw [if_neg q1]
  refine ic (fun q2 => ?_) (fun q2 => ?_)
  · refine (B_216_67 (by omega) (c_stripsOf (by omega) hw hu)).mpr ?_
    rw [if_pos q2]
    exact ⟨rfl, rfl⟩
  rw [if_neg q2]
  refine ic (fun q3 => ?_) (fun q3 => ?_)
  · refine (B_216_73 (by omega) (c_restOf (by omega) hw hu)).mpr ?_
    rw [if_pos q3]
    exact ⟨rfl, rfl⟩
  rw [if_neg q3]
  refine ic (fun q4 => ?_) (fun q4 => ?_)
  · refine (B_216_79 (by omega) (c_positionsOf (by omega) hw hu)).mpr ?_
    rw [if_pos q4]
    exact ⟨rfl, rfl⟩
  rw [if_neg q4]
  refine ic (fun q5 => ?_) (fun q5 => ?_)
  · refine (B_216_85 (by omega) (c_setupB (by omega) hw hu)).mpr ?_
    rw [if_pos q5]
    exact ⟨rfl, rfl⟩
  rw [if_neg q5]
  refine ic (fun q6 => ?_) (fun q6 => ?_)
  · refine (B_216_94 (by omega) (c_wasteOf (by omega) hw hu)).mpr ?_
    rw [if_pos q6]
    exact ⟨rfl, rfl⟩
  rw [if_neg q6]
  refine ic (fun q7 => ?_) (fun q7 => ?_)
  · refine (B_216_100 (by omega) (c_u (n := 93 + 12 * u) (by first | rfl | (simp only [qI_add, qI_mul, qI_lits]; done) | (simp only [qI_add, qI_mul, qI_lits]; grind)) (by omega))).mpr ?_
    rw [if_pos q7]
    exact ⟨rfl, rfl⟩
  rw [if_neg q7]
  refine ic (fun q8 => ?_) (fun q8 => ?_)
  · refine (B_216_107 (by omega) (c_remnantWidth (by omega) hw hu)).mpr ?_
    rw [if_pos q8]
    exact ⟨rfl, rfl⟩
  rw [if_neg q8]
  refine (B_216_113 (by omega) (c_isOrder (by omega))).mpr ?_
  unfold vO
  rw [inR_tf]
  refine icb (fun g9 => ?_) (fun g9 => ?_)
  · refine (B_216_136).mpr ?_
    refine (B_216_138).mpr ?_
    rw [g9]
    exact ⟨rfl, rfl⟩
  obtain ⟨o, ho, hoc, ho8⟩ := vO_ix hw.1 g9
  refine (B_216_124 (by omega) (c_strips (n := 94 + 12 * u + o) (by omega) (by rw [ho]; exact (by first | rfl | (simp only [qI_add, qI_mul, qI_lits]; done) | (simp only [qI_add, qI_mul, qI_lits]; grind))) (by omega))).mpr ?_
  refine (B_216_138).mpr ?_
  rw [if_pos g9, ho, nI_clamp (by omega)]
  exact ⟨rfl, rfl⟩
def aPstn (N : NV) (x1 x2 : Int32) : Int32 := if vU N x1 = true then (if inR x2 0 (nI (aPos N x1.toNatClampNeg) - 1) = true then nI (aPosAt N x1.toNatClampNeg x2.toNatClampNeg) else -1) else -1
theorem c_position (hd : 5 ≤ d) (hw : WF (S 41 0 0)) {x1 x2 : Int32} : Ret d 217 [vR 40 0 0, vI x1, vI x2] S (some (vI (aPstn (S 41 0 0) x1 x2))) S := by
  refine E_217 ?_
  refine (B_217_0 (by omega) (c_isRun (by omega))).mpr ?_
  unfold aPstn vU
  rw [inR_tf]
  refine icb (fun g => ?_) (fun g => ?_)
  · refine (B_217_32).mpr ?_
    refine (B_217_33).mpr ?_
    rw [g]
    exact ⟨rfl, rfl⟩
  obtain ⟨u, rfl, hu, h16⟩ := vU_ix hw.1 g
  rw [if_pos g, nI_clamp (by omega)]
  refine (B_217_8 (by omega) (c_positionsOf (by omega) hw hu) c_isIn).mpr ?_
  rw [inR_tf]
  refine icb (fun g2 => ?_) (fun g2 => ?_)
  · refine (B_217_32).mpr ?_
    refine (B_217_33).mpr ?_
    rw [g2]
    exact ⟨rfl, rfl⟩
  have h7 := aPos_le hw hu
  obtain ⟨k, rfl, hk⟩ := ix_of (by omega) g2
  rw [if_pos g2, nI_clamp (by omega)]
  refine (B_217_23 (by omega) (c_positionAt (by omega) hw hu (by omega))).mpr ?_
  refine (B_217_33).mpr ?_
  exact ⟨rfl, rfl⟩
def aStp (N : NV) (x1 x2 : Int32) : Int32 := if vU N x1 = true ∧ x1 ≠ x2 ∧ (x2 = -1 ∨ vU N x2 = true) then (if x2 = -1 then nI (aPos N x1.toNatClampNeg) else nI (aSet N x1.toNatClampNeg x2.toNatClampNeg)) else -1
theorem c_setup (hd : 6 ≤ d) (hw : WF (S 41 0 0)) {x1 x2 : Int32} : Ret d 218 [vR 40 0 0, vI x1, vI x2] S (some (vI (aStp (S 41 0 0) x1 x2))) S := by
  refine E_218 ?_
  refine (B_218_0 (by omega) (c_isRun (by omega))).mpr ?_
  unfold aStp vU
  rw [inR_tf]
  refine icb (fun g => ?_) (fun g => ?_)
  · refine (B_218_35).mpr ?_
    refine (B_218_36).mpr ?_
    rw [if_neg (fun q => by rw [g] at q; exact absurd q.1 (by decide))]
    exact ⟨rfl, rfl⟩
  obtain ⟨u, rfl, hu, h16⟩ := vU_ix hw.1 g
  refine (B_218_8).mpr ?_
  refine ic (fun g2 => ?_) (fun g2 => ?_)
  · refine (B_218_35).mpr ?_
    refine (B_218_36).mpr ?_
    rw [if_neg (fun q => q.2.1 g2)]
    exact ⟨rfl, rfl⟩
  refine (B_218_13).mpr ?_
  refine ic (fun g3 => ?_) (fun g3 => ?_)
  · subst g3
    refine (B_218_26 (by omega) (c_setupOf1 (by omega) hw hu)).mpr ?_
    refine (B_218_36).mpr ?_
    rw [if_pos ⟨g, g2, Or.inl rfl⟩, if_pos rfl, nI_clamp (by omega)]
    exact ⟨rfl, rfl⟩
  refine (B_218_18 (by omega) (c_isRun (by omega))).mpr ?_
  rw [inR_tf]
  refine icb (fun g4 => ?_) (fun g4 => ?_)
  · refine (B_218_35).mpr ?_
    refine (B_218_36).mpr ?_
    rw [if_neg]
    · exact ⟨rfl, rfl⟩
    · rintro ⟨-, -, q | q⟩
      · exact g3 q
      · rw [g4] at q; exact absurd q (by decide)
  obtain ⟨v, rfl, hv, h16'⟩ := vU_ix hw.1 g4
  refine (B_218_26 (by omega) (c_setupOf (by omega) hw hu hv)).mpr ?_
  refine (B_218_36).mpr ?_
  rw [if_pos ⟨g, g2, Or.inr g4⟩, if_neg g3, nI_clamp (by omega), nI_clamp (by omega)]
  exact ⟨rfl, rfl⟩
end M15b
