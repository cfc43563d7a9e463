/-! THE CLASS, 3: runs: kept, waste, positions beyond another's, setups -/
section M16c
variable {d : Nat} {S : bSt} {N : NV} {i : Nat}
theorem k_isKept (hi : i < 12) {j u : Nat} (hj : j < 16) (hR : RR S i j N u) (hw : WF N) (hu : u < cU N) : Ret d 69 [vR 8 i j] S (some (vI (tf (!decide (N (93 + 12 * u) = -5))))) S := by
  refine E_69 ?_
  refine (B_69_0 (bk8 hi hj)).mpr ?_
  rw [hR.2.2.2.2.1]
  have hc := hw.1.2.2.2.1
  rcases (hw.2.2.2.2.1 u hu).2.2.2.2.2 with q | ⟨q1, q2, -⟩
  · rw [q]
    rw [if_pos (by decide)]
    refine (B_69_11).mpr ?_
    refine (B_69_12 (Or.inl rfl)).mpr ?_
    exact ⟨rfl, rfl⟩
  · rw [q1]
    rw [if_neg (nI_n0 (by omega))]
    refine (B_69_7).mpr ?_
    refine (B_69_12 (Or.inr rfl)).mpr ?_
    rw [decide_eq_false (nI_ne_m5 (by omega))]
    exact ⟨rfl, rfl⟩
theorem k_remW (hi : i < 12) {j u : Nat} (hj : j < 16) (hR : RR S i j N u) (hw : WF N) (hu : u < cU N) : Ret d 70 [vR 8 i j] S (some (vI (nI (aRemW N u)))) S := by
  obtain ⟨-, -, -, -, -, -, -, -, -, -, -, ⟨he, -⟩, h2⟩ := wf_run hw hu
  refine E_70 ?_
  refine (B_70_0 (bk8 hi hj)).mpr ?_
  rw [hR.2.2.1, hR.2.2.2.1, he, show (2 : Int32) = nI 2 from rfl, ← qI_mul, qI_sub h2]
  exact ⟨rfl, rfl⟩
theorem k_wasteR (hi : i < 12) {j u : Nat} (hj : j < 16) (hR : RR S i j N u) (hw : WF N) (hu : u < cU N) (hd : 1 ≤ d) : Ret d 71 [vR 8 i j] S (some (vI (nI (aWas N u)))) S := by
  have hl := (hw.2.2.2.2.1 u hu).2.1.1
  refine E_71 ?_
  refine (B_71_0 (by omega) (bk8 hi hj) (k_isKept hi hj hR hw hu)).mpr ?_
  rw [hR.2.1]
  unfold aWas
  refine icb (fun g => ?_) (fun g => ?_)
  · refine (B_71_23 (bk8 hi hj)).mpr ?_
    refine (B_71_27).mpr ?_
    rw [hR.2.2.2.1, qI_mul, ← hl, if_pos (by simpa using g), Nat.sub_zero]
    exact ⟨rfl, rfl⟩
  refine (B_71_11 (by omega) (bk8 hi hj) (k_remW hi hj hR hw hu)).mpr ?_
  refine (B_71_27).mpr ?_
  rw [hR.2.2.2.1, qI_mul, ← hl, if_neg (by simpa using g), qI_sub (by unfold aRemW; omega)]
  exact ⟨rfl, rfl⟩
/-! positions go up, so they are all different -/
theorem paTo_rem {u k : Nat} : ∀ n, (paTo N u k n).1 = (paTo N u k 0).1 - sumN (fun o => nv N (94 + 12 * u + o)) n := by
  intro n
  induction n with
  | zero => rw [sumN, Nat.sub_zero]
  | succ n ih =>
    show (paTo N u k n).1 - min (paTo N u k n).1 (nv N (94 + 12 * u + n)) = _
    rw [ih, sumN]
    omega
theorem paTo_step (hw : WF N) {u k : Nat} (hu : u < cU N) : ∀ n, n ≤ 8 → (paTo N u k n).2 ≤ (paTo N u (k + 1) n).2 ∧ ((paTo N u k 0).1 < sumN (fun o => nv N (94 + 12 * u + o)) n → (paTo N u k n).2 + 10 ≤ (paTo N u (k + 1) n).2) := by
  have h0 : (paTo N u (k + 1) 0).1 = (paTo N u k 0).1 + 1 ∧ (paTo N u (k + 1) 0).2 = (paTo N u k 0).2 := by
    unfold paTo
    split <;> exact ⟨rfl, rfl⟩
  obtain ⟨-, -, -, -, -, -, -, -, -, hs, -⟩ := wf_run hw hu
  intro n
  induction n with
  | zero => intro _; exact ⟨by rw [h0.2]; exact Nat.le_refl _, fun h => absurd h (Nat.not_lt_zero _)⟩
  | succ n ih =>
    intro hn
    obtain ⟨i1, i2⟩ := ih (by omega)
    have ra := paTo_rem (N := N) (u := u) (k := k) n
    have rb := paTo_rem (N := N) (u := u) (k := k + 1) n
    rw [h0.1] at rb
    show (paTo N u k n).2 + min (paTo N u k n).1 (nv N (94 + 12 * u + n)) * nv N (7 + 6 * n) ≤ (paTo N u (k + 1) n).2 + min (paTo N u (k + 1) n).1 (nv N (94 + 12 * u + n)) * nv N (7 + 6 * n) ∧ (_ → (paTo N u k n).2 + min (paTo N u k n).1 (nv N (94 + 12 * u + n)) * nv N (7 + 6 * n) + 10 ≤ (paTo N u (k + 1) n).2 + min (paTo N u (k + 1) n).1 (nv N (94 + 12 * u + n)) * nv N (7 + 6 * n))
    rw [sumN]
    generalize sumN (fun o => nv N (94 + 12 * u + o)) n = A at *
    generalize (paTo N u k 0).1 = t at *
    generalize (paTo N u k n).2 = p at *
    generalize (paTo N u (k + 1) n).2 = q at *
    generalize (paTo N u k n).1 = ra' at *
    generalize (paTo N u (k + 1) n).1 = rb' at *
    have hmn : min ra' (nv N (94 + 12 * u + n)) ≤ min rb' (nv N (94 + 12 * u + n)) := by omega
    have hmul : min ra' (nv N (94 + 12 * u + n)) * nv N (7 + 6 * n) ≤ min rb' (nv N (94 + 12 * u + n)) * nv N (7 + 6 * n) := Nat.mul_le_mul_right _ hmn
    refine ⟨by omega, fun hlt => ?_⟩
    rcases Nat.lt_or_ge t A with g | g
    · have := i2 g
      omega
    · -- the next strip is one of this order's
      have hs0 : 0 < nv N (94 + 12 * u + n) := by omega
      have hno : n < cO N := by
        rcases Nat.lt_or_ge n (cO N) with q | q
        · exact q
        · have := (hs n (by omega)).2.2 q
          omega
      have hw10 := (hw.2.2.1 n hno).2.1.2.1
      have hm1 : min rb' (nv N (94 + 12 * u + n)) = min ra' (nv N (94 + 12 * u + n)) + 1 := by omega
      rw [hm1, Nat.add_mul, Nat.one_mul]
      have e7 : nv N (7 + 6 * n) = nv N (7 + 6 * n) := rfl
      omega
theorem aPosAt_lt (hw : WF N) {u k : Nat} (hu : u < cU N) (hk : k + 1 < aPos N u) : aPosAt N u k < aPosAt N u (k + 1) := by
  have h := (paTo_step hw hu (k := k) 8 (Nat.le_refl _)).2
  have hstr : sumN (fun o => nv N (94 + 12 * u + o)) 8 = str N u := rfl
  rw [hstr] at h
  have h0 : (paTo N u k 0).1 < str N u := by
    unfold aPos at hk
    unfold paTo
    split
    · rename_i g
      rw [if_pos g] at hk
      dsimp only
      omega
    · rename_i g
      rw [if_neg g] at hk
      dsimp only
      omega
  have := h h0
  unfold aPosAt
  omega
theorem aPosAt_mono (hw : WF N) {u : Nat} (hu : u < cU N) : ∀ (n k : Nat), k + n < aPos N u → 0 < n → aPosAt N u k < aPosAt N u (k + n) := by
  intro n
  induction n with
  | zero => intro k _ h; omega
  | succ n ih =>
    intro k hk _
    rcases Nat.eq_zero_or_pos n with h | h
    · subst h
      exact aPosAt_lt hw hu hk
    · have h1 := ih k (by omega) h
      have h2 := aPosAt_lt hw hu (k := k + n) (by omega)
      rw [show k + (n + 1) = k + n + 1 by omega]
      omega
theorem aPosAt_inj (hw : WF N) {u k k' : Nat} (hu : u < cU N) (hk : k < aPos N u) (hk' : k' < aPos N u) (h : aPosAt N u k = aPosAt N u k') : k = k' := by
  rcases Nat.lt_trichotomy k k' with g | g | g
  · have := aPosAt_mono hw hu (k' - k) k (by omega) (by omega)
    rw [show k + (k' - k) = k' by omega] at this
    omega
  · exact g
  · have := aPosAt_mono hw hu (k - k') k' (by omega) (by omega)
    rw [show k' + (k - k') = k by omega] at this
    omega
theorem sumN_not (f : Nat → Bool) : ∀ n, sumN (fun k => if f k = true then 0 else 1) n + sumN (fun k => if f k = true then 1 else 0) n = n := by
  intro n
  induction n with
  | zero => rfl
  | succ n ih =>
    rw [sumN, sumN]
    cases f n <;> simp <;> omega
theorem k_beyond (hi : i < 12) {j u j' v : Nat} (hj : j < 16) (hR : RR S i j N u) (hj' : j' < 16) (hR' : RR S i j' N v) (hw : WF N) (hu : u < cU N) (hv : v < cU N) : Ret d 72 [vR 8 i j, vR 8 i j'] S (some (vI (nI (sumN (fun k => if aHasP N v (aPosAt N u k) = true then 0 else 1) (aPos N u))))) S := by
  have h7 := aPos_le hw hu
  have h7' := aPos_le hw hv
  obtain ⟨-, -, -, -, -, c5, -, c7⟩ := hR
  obtain ⟨-, -, -, -, -, c5', -, c7'⟩ := hR'
  refine E_72 ?_
  refine (B_72_0 (bk8 hi hj)).mpr ?_
  rw [c5]
  have hfin : nI (aPos N u) - nI (sumN (fun k => if aHasP N v (aPosAt N u k) = true then 1 else 0) (aPos N u)) = nI (sumN (fun k => if aHasP N v (aPosAt N u k) = true then 0 else 1) (aPos N u)) := by
    have := sumN_not (fun k => aHasP N v (aPosAt N u k)) (aPos N u)
    rw [qI_sub (by omega)]
    congr 1
    omega
  rw [show some (vI (nI (aPos N u))) = some (vI (nI (aPos N u) - nI (sumN (fun k => if aHasP N v (aPosAt N u k) = true then 1 else 0) 0))) from by rw [show nI (sumN (fun k => if aHasP N v (aPosAt N u k) = true then 1 else 0) 0) = 0 from rfl, Int32.sub_zero]]
  refine wloopI (aPos N u) (fun m ls T => T = S ∧ ∃ w4, ls = [some (vR 8 i j), some (vR 8 i j'), some (vI (nI (aPos N u) - nI (sumN (fun k => if aHasP N v (aPosAt N u k) = true then 1 else 0) m))), some (vI (nI m)), w4]) ?_ ?_ ⟨rfl, none, rfl⟩
  · rintro ls T ⟨rfl, w4, rfl⟩
    refine (B_72_7 (bk8 hi hj)).mpr ?_
    rw [if_pos (by rw [c5]; exact Int32.le_refl _)]
    refine (B_72_58).mpr ?_
    exact ⟨congrArg (fun z => some (vI z)) hfin, rfl⟩
  · rintro m hm ls T ⟨rfl, w4, rfl⟩ hn
    refine (B_72_7 (bk8 hi hj)).mpr ?_
    rw [if_neg (by rw [c5, qI_le (by omega) (by omega)]; omega)]
    refine (B_72_15).mpr ?_
    have hx := aPosAt_le hw hu m
    generalize hA : nI (aPos N u) - nI (sumN (fun k => if aHasP N v (aPosAt N u k) = true then 1 else 0) m) = A at *
    rw [show some (vI A) = some (vI (A - nI (if hpB N v (aPosAt N u m) 0 = true then 1 else 0))) from by rw [show nI (if hpB N v (aPosAt N u m) 0 = true then 1 else 0) = 0 from rfl, Int32.sub_zero]]
    refine wloop (aPos N v) (fun n => [some (vR 8 i j), some (vR 8 i j'), some (vI (A - nI (if hpB N v (aPosAt N u m) n = true then 1 else 0))), some (vI (nI m)), some (vI (nI n))]) (fun _ => T) ?_ ?_
    · refine (B_72_18 (bk8 hi hj')).mpr ?_
      rw [if_pos (by rw [c5']; exact Int32.le_refl _)]
      refine (B_72_52).mpr ?_
      rw [qI_succ]
      refine hn _ _ ⟨rfl, some (vI (nI (aPos N v))), ?_⟩
      rw [sumN, ← hA]
      have : nI (aPos N u) - nI (sumN (fun k => if aHasP N v (aPosAt N u k) = true then 1 else 0) m) - nI (if hpB N v (aPosAt N u m) (aPos N v) = true then 1 else 0) = nI (aPos N u) - (nI (sumN (fun k => if aHasP N v (aPosAt N u k) = true then 1 else 0) m) + nI (if aHasP N v (aPosAt N u m) = true then 1 else 0)) := by
        show _ - nI (if aHasP N v (aPosAt N u m) = true then 1 else 0) = _
        grind
      rw [this, ← qI_add]
    · intro n hn' hn2
      have hy := aPosAt_le hw hv n
      refine (B_72_18 (bk8 hi hj')).mpr ?_
      rw [if_neg (by rw [c5', qI_le (by omega) (by omega)]; omega)]
      refine (B_72_27 (n1_ := m) (n2_ := n) (bk8 hi hj) rfl (by omega) (bk10 hi hj) (bk8 hi hj') rfl (by omega) (bk10 hi hj')).mpr ?_
      rw [c7 m hm, c7' n hn']
      refine icT (qI_eq (by omega) (by omega)) (fun g => ?_) (fun g => ?_)
      · refine (B_72_43).mpr ?_
        refine (B_72_46).mpr ?_
        have hnot : hpB N v (aPosAt N u m) n = false := by
          cases hb : hpB N v (aPosAt N u m) n with
          | false => rfl
          | true =>
            obtain ⟨k, k1, k2⟩ := (hpB_iff n).mp hb
            have := aPosAt_inj hw hv (k := k) (k' := n) (by omega) hn' (k2.trans g)
            omega
        have hyes : hpB N v (aPosAt N u m) (n + 1) = true := by rw [hpB, hnot]; simp [g]
        rw [hyes, if_pos rfl] at hn2
        rw [hnot, if_neg (by decide), qI_succ]
        rw [show A - nI 0 + (-1 : Int32) = A - nI 1 from by rw [show nI 0 = 0 from rfl, show nI 1 = 1 from rfl]; grind]
        exact hn2
      refine (B_72_46).mpr ?_
      have hsame : hpB N v (aPosAt N u m) (n + 1) = hpB N v (aPosAt N u m) n := by
        rw [hpB, decide_eq_false (fun q => g q.symm), Bool.or_false]
      rw [hsame] at hn2
      rw [qI_succ]
      exact hn2
theorem k_setupBehind (hi : i < 12) (hP : PR S i N) (hw : WF N) (hd : 1 ≤ d) {u v : Nat} (hu : u < cU N) (hv : v < cU N) : Ret d 46 [vR 1 i 0, vI (nI u), vI (nI v)] S (some (vI (nI (aSet N u v)))) S := by
  have h16 := hw.1.2.2.2.2.2
  have hj := P_j hP (u := u) (by omega)
  have hj' := P_j hP (u := v) (by omega)
  have hR := P_u hP hu
  have hR' := P_u hP hv
  obtain ⟨-, e0, hr, hr12, -⟩ := wf_run hw hu
  obtain ⟨-, e0', hr', hr12', -⟩ := wf_run hw hv
  refine E_46 ?_
  have hv' : vU N (nI v) = true := by
    unfold vU inR
    rw [Bool.and_eq_true, decide_eq_true_iff, decide_eq_true_iff, hw.1.2.2.2.2.1, ← lt_inR (by omega), qI_lt (by omega) (by omega), show (0 : Int32) = nI 0 from rfl, qI_le (by omega) (by omega)]
    omega
  have hr1 := k_hasRun (d := d - 1) hi hP hw (x1 := nI v)
  rw [hv'] at hr1
  refine (B_46_0 (by omega) hr1 (bk1 hi)).mpr ?_
  rw [if_neg (by decide)]
  refine (B_46_18 (n1_ := u) (m2_ := jx S i u) (n3_ := nv N (90 + 12 * u)) (n4_ := v) (m5_ := jx S i v) (n6_ := nv N (90 + 12 * v)) (bk1 hi) rfl (by omega) rfl (bk7 hi) (bk8 hi hj) (hR.1.trans e0) (by omega) (bk5 hi) (bk6 hi (by omega)) rfl (by omega) rfl (bk8 hi hj') (hR'.1.trans e0') (by omega) (bk6 hi (by omega))).mpr ?_
  rw [(P_r hP hr).1, (P_r hP hr').1]
  have hb := k_beyond (d := d - 1) hi hj hR hj' hR' hw hu hv
  unfold aSet
  refine ic (fun g => ?_) (fun g => ?_)
  · refine (B_46_55).mpr ?_
    refine (B_46_60 (n1_ := u) (m2_ := jx S i u) (n3_ := v) (m4_ := jx S i v) (by omega) (bk1 hi) rfl (by omega) rfl (bk7 hi) rfl (by omega) rfl hb (bk8 hi hj)).mpr ?_
    rw [if_neg (by decide)]
    refine (B_46_80).mpr ?_
    refine (B_46_85).mpr ?_
    rw [if_pos (show grR N u = grR N v from g), Nat.zero_add, Int32.add_zero]
    exact ⟨rfl, rfl⟩
  refine (B_46_59).mpr ?_
  refine (B_46_60 (n1_ := u) (m2_ := jx S i u) (n3_ := v) (m4_ := jx S i v) (by omega) (bk1 hi) rfl (by omega) rfl (bk7 hi) rfl (by omega) rfl hb (bk8 hi hj)).mpr ?_
  rw [if_pos (rfl)]
  refine (B_46_84).mpr ?_
  refine (B_46_85).mpr ?_
  rw [if_neg (show ¬ grR N u = grR N v from g), Nat.add_comm, qI_add]
  exact ⟨rfl, rfl⟩
theorem k_setupFirst (hi : i < 12) (hP : PR S i N) (hw : WF N) (hd : 1 ≤ d) {u : Nat} (hu : u < cU N) : Ret d 46 [vR 1 i 0, vI (nI u), vI (-1)] S (some (vI (nI (aPos N u)))) S := by
  have h16 := hw.1.2.2.2.2.2
  have hj := P_j hP (u := u) (by omega)
  have hR := P_u hP hu
  refine E_46 ?_
  have hv' : vU N (-1) = false := by
    unfold vU inR
    rw [decide_eq_false (by decide), Bool.false_and]
  have hr1 := k_hasRun (d := d - 1) hi hP hw (x1 := -1)
  rw [hv'] at hr1
  refine (B_46_0 (by omega) hr1 (bk1 hi)).mpr ?_
  rw [if_pos (show tf false = 0 from rfl)]
  refine (B_46_8 (n1_ := u) (m2_ := jx S i u) (bk1 hi) rfl (by omega) rfl (bk7 hi) (bk8 hi hj)).mpr ?_
  rw [hR.2.2.2.2.2.1]
  exact ⟨rfl, rfl⟩
/-- behind the run a − 1, or as the first one -/
theorem k_setupB (hi : i < 12) (hP : PR S i N) (hw : WF N) (hd : 1 ≤ d) {a u : Nat} (hu : u < cU N) (ha : a ≤ cU N) : Ret d 46 [vR 1 i 0, vI (nI u), vI (nI a - 1)] S (some (vI (nI (aBt N a u)))) S := by
  unfold aBt
  by_cases g : a = 0
  · subst g
    rw [if_pos rfl]
    exact k_setupFirst hi hP hw hd hu
  · rw [if_neg g, qI_test3 a (by omega)]
    exact k_setupBehind hi hP hw hd hu (by omega)
theorem k_sumOfSetups (hi : i < 12) (hP : PR S i N) (hw : WF N) (hd : 2 ≤ d) : Ret d 47 [vR 1 i 0] S (some (vI (nI (aSets N)))) S := by
  have h16 := hw.1.2.2.2.2.2
  refine E_47 ?_
  refine (B_47_0).mpr ?_
  refine wloop (cU N) (fun m => [some (vR 1 i 0), some (vI (nI (sumN (aSet1 N) m))), some (vI (nI m))]) (fun _ => S) ?_ ?_
  · refine (B_47_4 (bk1 hi)).mpr ?_
    rw [if_pos (by rw [P_6 hP hw]; exact Int32.le_refl _)]
    refine (B_47_29).mpr ?_
    exact ⟨rfl, rfl⟩
  · intro m hm hn
    refine (B_47_4 (bk1 hi)).mpr ?_
    rw [if_neg (by rw [P_6 hP hw, qI_le (by omega) (by omega)]; omega)]
    refine (B_47_12 (by omega) (k_setupB hi hP hw (by omega) hm (by omega)) (bk1 hi)).mpr ?_
    rw [sumN, qI_add] at hn
    rw [qI_succ]
    exact hn
end M16c
