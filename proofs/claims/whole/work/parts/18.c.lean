/-! THE CLASS's search: fill, max; a roll is described; seek; the best pattern is found -/
section M18c
variable {d : Nat} {S : bSt} {N : NV} {i : Nat}
theorem k_fill {k0 : Nat} (h9 : k0 ≠ 39) (ha : bArr k0 0 = true) (hk : bok k0 0 0 = true) {x : Int32} : Wm d 263 [vR k0 0 0, vI x] S (fun q S' => q = none ∧ fAd k0 0 0 S S' ∧ ∀ m, m < bLen k0 → S' k0 0 0 m = x) := by
  have hl := bLen_lt k0
  refine EW_263 ?_
  refine (B_263_0 h9 (by rw [bArr_eq ha]; rfl) hk).mpr ?_
  refine wloopI (bLen k0) (fun m ls T => ls = [some (vR k0 0 0), some (vI x), some (vI (nI m)), some (vI (nI (bLen k0)))] ∧ fAd k0 0 0 S T ∧ ∀ q, q < m → T k0 0 0 q = x) ?_ ?_ ⟨rfl, fAd_refl _ _ _ S, fun q h => absurd h (Nat.not_lt_zero _)⟩
  · rintro ls T ⟨rfl, hf, hT⟩
    refine (B_263_5).mpr ?_
    rw [if_pos (Int32.le_refl _)]
    refine (B_263_20).mpr ?_
    exact ⟨rfl, hf, hT⟩
  · rintro m hm ls T ⟨rfl, hf, hT⟩ hn
    refine (B_263_5).mpr ?_
    rw [if_neg (by rw [qI_le (by omega) (by omega)]; omega)]
    refine (B_263_10 (n1_ := m) h9 rfl hm ha hk).mpr ?_
    rw [qI_succ]
    refine hn _ _ ⟨rfl, fAd_up hf, fun q hq => ?_⟩
    by_cases g : q = m
    · subst g; exact sUp_same
    · rw [sUp_slot g]; exact hT q (by omega)
theorem k_max {a b : Nat} (ha : a < 2 ^ 31) (hb : b < 2 ^ 31) : Ret d 264 [vI (nI a), vI (nI b)] S (some (vI (nI (max a b)))) S := by
  refine E_264 ?_
  refine (B_264_0).mpr ?_
  by_cases h : a < b
  · rw [if_pos (by rw [qI_lt ha hb]; exact h)]
    refine (B_264_9).mpr ?_
    refine (B_264_10).mpr ?_
    exact ⟨by rw [Nat.max_eq_right (by omega)], rfl⟩
  · rw [if_neg (by rw [qI_lt ha hb]; exact h)]
    refine (B_264_5).mpr ?_
    refine (B_264_10).mpr ?_
    exact ⟨by rw [Nat.max_eq_left (by omega)], rfl⟩
/-- only the search is written -/
def fSr (S S' : bSt) : Prop := ∀ k i j m, ¬ (12 ≤ k ∧ k ≤ 18) → S' k i j m = S k i j m
theorem fSr_refl (S : bSt) : fSr S S := fun _ _ _ _ _ => rfl
theorem fSr_trans {S T U : bSt} (h : fSr S T) (g : fSr T U) : fSr S U := fun k i j m hm => (g k i j m hm).trans (h k i j m hm)
theorem fSr_up {S T : bSt} {k i j m : Nat} {x : Int32} (h : fSr S T) (h1 : 12 ≤ k) (h2 : k ≤ 18) : fSr S (sUp T k i j m x) := by
  intro k' i' j' m' hs
  rw [← h k' i' j' m' hs]
  exact sUp_kind (by omega)
theorem fS_r {S T : bSt} (h : fS S T) : fSr S T := by
  intro k i j m hs
  refine h k i j m ?_
  unfold scS
  simp only [Bool.or_eq_false_iff, Bool.and_eq_false_iff, beq_eq_false_iff_ne]
  omega
theorem fAd_r {k i j : Nat} {S T : bSt} (h : fAd k i j S T) (h1 : 12 ≤ k) (h2 : k ≤ 18) : fSr S T := fun k' i' j' m hs => h k' i' j' m (by omega)
theorem fSr_PR {S' : bSt} (h : fSr S S') (hP : PR S i N) : PR S' i N := PR_eq (fun k j m _ _ => h k i j m (by omega)) hP
theorem k_limitOf (hi : i < 12) (hP : PR S i N) (hw : WF N) (hd : 1 ≤ d) {r o : Nat} (hr : r < cR N) (ho : o < cO N) : Ret d 32 [vR 1 i 0, vI (nI o), vR 6 i r] S (some (vI (nI (min 8 (lO N r o))))) S := by
  have h8 := hw.1.2.1
  have h12 := hw.1.2.2.2.1
  obtain ⟨⟨o0, o1, o2, o3, o4, o5⟩, ol, om⟩ := P_o hP ho
  obtain ⟨l1, l2⟩ := rmI_n hw r o
  have no : ¬ (o < cO N ∧ aWant N o = true ∧ aCan N r o = true) → nI (min 8 (lO N r o)) = 0 := by
    intro h
    unfold lO rmI
    rw [if_neg h]
    rfl
  refine E_32 ?_
  refine (B_32_0 (n1_ := o) (by omega) (k_madeFor hi hP hw (by omega)) (bk1 hi) rfl (by omega) (bk3 hi) (bk4 hi (by omega))).mpr ?_
  rw [o2]
  refine ic (fun g => ?_) (fun g => ?_)
  · refine (B_32_32).mpr ?_
    rw [no]
    · exact ⟨rfl, rfl⟩
    · rintro ⟨-, h, -⟩
      unfold aWant at h
      exact absurd g (Int32.not_le.mpr (of_decide_eq_true h))
  refine (B_32_19 (n1_ := o) (by omega) (bk1 hi) rfl (by omega) (bk3 hi) (k_canBeUsedFor hi hP hw hr ho) (bk6 hi (by omega))).mpr ?_
  refine icb (fun g2 => ?_) (fun g2 => ?_)
  · refine (B_32_32).mpr ?_
    rw [no]
    · exact ⟨rfl, rfl⟩
    · rintro ⟨-, -, h⟩
      rw [g2] at h
      exact absurd h (by decide)
  have hgr : o < cO N ∧ aWant N o = true ∧ aCan N r o = true := ⟨ho, decide_eq_true (Int32.not_le.mp g), g2⟩
  have hm : aMost N o - aMade N o = nI (lO N r o) := by
    rw [← l1]
    unfold rmI
    rw [if_pos hgr]
    rfl
  have h9 := c_min (d := d - 1) (S := S) (a := 8) (b := lO N r o) (by omega) (by omega)
  refine (B_32_34 (n1_ := o) (r1_ := nI (min 8 (lO N r o))) (S1_ := S) (by omega) (bk1 hi) rfl (by omega) (bk3 hi) (bk4 hi (by omega)) (by rw [om, hm]; exact h9)).mpr ?_
  exact ⟨rfl, rfl⟩
theorem k_describe (hi : i < 12) (hP : PR S i N) (hw : WF N) (hd : 2 ≤ d) {r : Nat} (hr : r < cR N) : Wm d 31 [vR 1 i 0, vI (nI r), vR 12 0 0] S (fun q S' => q = none ∧ fSr S S' ∧ S' 12 0 0 0 = nI (nv N (55 + 3 * r)) ∧ S' 12 0 0 1 = nI (nv N 0) ∧ S' 12 0 0 2 = nI (2 * nv N 1) ∧ S' 12 0 0 3 = nI (cO N) ∧ ∀ o, o < cO N → S' 13 0 0 o = nI (wN N o) ∧ S' 14 0 0 o = nI (min 8 (lO N r o))) := by
  have h8 := hw.1.2.1
  have h12 := hw.1.2.2.2.1
  obtain ⟨W1, -, W2⟩ := (hw.2.2.2.1 r hr).2.1
  obtain ⟨s0, s1, s2⟩ := hP.1
  have k0 := hw.2.1.1.1
  have e0 := hw.2.1.2.1.1
  have p1 := (P_r hP hr).2.1
  have p4 := P_4 hP hw
  refine EW_31 ?_
  refine (B_31_0 (n1_ := r) (bk1 hi) rfl (by omega) (bk5 hi) (bk6 hi (by omega)) (bk2 hi)).mpr ?_
  refine wloopI (cO N) (fun m ls T => ls = [some (vR 1 i 0), some (vI (nI r)), some (vR 12 0 0), some (vI (nI m))] ∧ fSr S T ∧ T 12 0 0 0 = nI (nv N (55 + 3 * r)) ∧ T 12 0 0 1 = nI (nv N 0) ∧ T 12 0 0 2 = nI (2 * nv N 1) ∧ T 12 0 0 3 = nI (cO N) ∧ ∀ o, o < m → T 13 0 0 o = nI (wN N o) ∧ T 14 0 0 o = nI (min 8 (lO N r o))) ?_ ?_ ⟨rfl, fSr_up (fSr_up (fSr_up (fSr_up (fSr_refl S) (by omega) (by omega)) (by omega) (by omega)) (by omega) (by omega)) (by omega) (by omega), ?_, ?_, ?_, ?_, fun o h => absurd h (Nat.not_lt_zero _)⟩
  · rintro ls T ⟨rfl, hf, t0, t1, t2, t3, hT⟩
    have hPT := fSr_PR hf hP
    refine (B_31_45 (bk1 hi)).mpr ?_
    rw [if_pos (by rw [P_4 hPT hw]; exact Int32.le_refl _)]
    refine (B_31_91).mpr ?_
    exact ⟨rfl, hf, t0, t1, t2, t3, hT⟩
  · rintro m hm ls T ⟨rfl, hf, t0, t1, t2, t3, hT⟩ hn
    have hPT := fSr_PR hf hP
    refine (B_31_45 (bk1 hi)).mpr ?_
    rw [if_neg (by rw [P_4 hPT hw, qI_le (by omega) (by omega)]; omega)]
    have hPU : PR (sUp T 13 0 0 m (T 4 i m 1)) i N := PR_eq (fun k j m' _ h2 => sUp_kind (by omega)) hPT
    refine (B_31_53 (n1_ := m) (n2_ := m) (n3_ := r) (n4_ := m) (by omega) (bk1 hi) rfl (by omega) (bk3 hi) (bk4 hi (by omega)) rfl (by omega) rfl (by omega) (bk5 hi) (k_limitOf hi hPU hw (by omega) hr hm) rfl (by omega)).mpr ?_
    rw [qI_succ]
    refine hn _ _ ⟨rfl, fSr_up (fSr_up hf (by omega) (by omega)) (by omega) (by omega), by rw [sUp_kind (by decide), sUp_kind (by decide)]; exact t0, by rw [sUp_kind (by decide), sUp_kind (by decide)]; exact t1, by rw [sUp_kind (by decide), sUp_kind (by decide)]; exact t2, by rw [sUp_kind (by decide), sUp_kind (by decide)]; exact t3, fun o ho => ?_⟩
    by_cases g : o = m
    · subst g
      refine ⟨?_, sUp_same⟩
      rw [sUp_kind (by decide), sUp_same, (P_o hPT hm).1.2.1]
      exact (hw.2.2.1 o hm).2.1.1
    · rw [sUp_kind (by decide), sUp_slot g, sUp_slot g, sUp_kind (by decide)]
      exact hT o (by omega)
  · simp [sUp, p1]
    exact W1
  · simp [sUp, s0]
    exact k0
  · simp [sUp, s1]
    rw [e0, qI_mul]
    rfl
  · simp [sUp]
    exact p4
/-- the widest order from the n-th last on that may have strips -/
def vmx (w L : Nat → Nat) (c : Nat) : Nat → Nat
  | 0 => 0
  | n + 1 => max (vmx w L c n) (if 0 < L (c - (n + 1)) then w (c - (n + 1)) else 0)
theorem vmx_le {w L : Nat → Nat} {c : Nat} (hw : ∀ o, o < c → w o ≤ 150) : ∀ n, n ≤ c → vmx w L c n ≤ 150 := by
  intro n
  induction n with
  | zero => intro _; exact Nat.zero_le _
  | succ n ih =>
    intro hn
    have h1 := ih (by omega)
    have h2 := hw (c - (n + 1)) (by omega)
    unfold vmx
    split <;> omega
theorem vmx_ge {w L : Nat → Nat} {c : Nat} : ∀ n, n ≤ c → ∀ o, c - n ≤ o → o < c → 0 < L o → w o ≤ vmx w L c n := by
  intro n
  induction n with
  | zero => intro _ o h1 h2; omega
  | succ n ih =>
    intro hn o h1 h2 h3
    unfold vmx
    by_cases g : o = c - (n + 1)
    · subst g
      rw [if_pos h3]
      omega
    · have := ih (by omega) o (by omega) h2 h3
      omega
def vS (N : NV) (r o : Nat) : Nat := vmx (wN N) (fun o => min 8 (lO N r o)) (cO N) (cO N - o)
/-- what the class's search comes to -/
def bS (N : NV) (cnt : Bool) (r : Nat) (row : NV) : Bcc := if nv N (55 + 3 * r) < 2 * nv N 1 then (0, 1000, 301, row) else trC N cnt (wN N) (fun o => min 8 (lO N r o)) (vS N r) (cO N) 0 0 (nv N (55 + 3 * r)) (fun _ => 0) (0, 1000, 301, row)
theorem bS_RB (hw : WF N) {cnt : Bool} {r : Nat} (hr : r < cR N) (row : NV) : RB cnt (aLook N r) (bS N cnt r row) := by
  have hW := (hw.2.2.2.1 r hr).2.1.2.2
  have h0 : RB cnt acc0 ((0, 1000, 301, row) : Bcc) := ⟨Or.inl ⟨rfl, rfl, rfl, rfl⟩, fun _ => rfl⟩
  unfold aLook bS
  by_cases g : nv N (55 + 3 * r) < 2 * nv N 1
  · rw [if_pos g, trA_noop hw _ _ _ _ _ _ (by omega) hW (Or.inl g)]
    exact h0
  · rw [if_neg g]
    refine trC_ok hw (cO N) 0 0 _ _ _ _ (by omega) (by omega) hW (fun o _ h2 => ?_) (fun o o' _ h2 h3 h4 => ?_) h0
    · have := (hw.2.2.1 o (by omega)).2.1.2.1
      unfold wN nv at *
      omega
    · unfold vS
      exact vmx_ge (cO N - o) (by omega) o' (by omega) (by omega) (by omega)
theorem bS_vb (hw : WF N) {cnt : Bool} {r : Nat} (hr : r < cR N) (row : NV) : (bS N cnt r row).1 < 2 ^ 31 := by
  have h8 := hw.1.2.1
  unfold bS
  split
  · show 0 < 2 ^ 31
    omega
  · have := trC_cnt (N := N) (cnt := cnt) (w := wN N) (L := fun o => min 8 (lO N r o)) (v := vS N r) (fun o => Nat.min_le_left _ _) (cO N) 0 0 (nv N (55 + 3 * r)) (fun _ => 0) (0, 1000, 301, row)
    have h9 : 9 ^ cO N ≤ 9 ^ 8 := Nat.pow_le_pow_right (by omega) h8
    have e9 : (9 : Nat) ^ 8 = 43046721 := by decide
    dsimp only at this
    omega
theorem k_seek (hw : WF N) (hd : 12 ≤ d) {cnt : Bool} {r : Nat} (hr : r < cR N) (h0 : S 12 0 0 0 = nI (nv N (55 + 3 * r))) (h1 : S 12 0 0 1 = nI (nv N 0)) (h2 : S 12 0 0 2 = nI (2 * nv N 1)) (h3 : S 12 0 0 3 = nI (cO N)) (h4 : ∀ o, o < cO N → S 13 0 0 o = nI (wN N o) ∧ S 14 0 0 o = nI (min 8 (lO N r o))) : Wm d 74 [vR 12 0 0, vI (tf cnt)] S (fun q S' => q = some (vI (nI (bS N cnt r (S 16 0 0)).1)) ∧ fSr S S' ∧ mS (bS N cnt r (S 16 0 0)) S') := by
  have h8 := hw.1.2.1
  have hW := (hw.2.2.2.1 r hr).2.1.2.2
  obtain ⟨-, kk1, kk2⟩ := hw.2.1.1
  have e2 := hw.2.1.2.1.2.2
  have hw150 : ∀ o, o < cO N → wN N o ≤ 150 := fun o ho => (hw.2.2.1 o ho).2.1.2.2
  refine EW_74 ?_
  refine (B_74_0 (tf_01 cnt)).mpr ?_
  generalize hT0 : sUp (sUp (sUp (sUp S 12 0 0 10 (tf cnt)) 12 0 0 12 0) 12 0 0 13 301) 12 0 0 14 1000 = T0
  have f0 : fSr S T0 := by rw [← hT0]; exact fSr_up (fSr_up (fSr_up (fSr_up (fSr_refl S) (by omega) (by omega)) (by omega) (by omega)) (by omega) (by omega)) (by omega) (by omega)
  have t0 : T0 12 0 0 0 = nI (nv N (55 + 3 * r)) := by rw [← hT0]; simp [sUp]; exact h0
  have t1 : T0 12 0 0 1 = nI (nv N 0) := by rw [← hT0]; simp [sUp]; exact h1
  have t2 : T0 12 0 0 2 = nI (2 * nv N 1) := by rw [← hT0]; simp [sUp]; exact h2
  have t3 : T0 12 0 0 3 = nI (cO N) := by rw [← hT0]; simp [sUp]; exact h3
  have t10 : T0 12 0 0 10 = tf cnt := by rw [← hT0]; simp [sUp]
  have t12 : T0 12 0 0 12 = 0 := by rw [← hT0]; simp [sUp]
  have t13 : T0 12 0 0 13 = 301 := by rw [← hT0]; simp [sUp]
  have t14 : T0 12 0 0 14 = 1000 := by rw [← hT0]; simp [sUp]
  have tk : ∀ k m, k ≠ 12 → T0 k 0 0 m = S k 0 0 m := fun k m hk => by rw [← hT0, sUp_kind hk, sUp_kind hk, sUp_kind hk, sUp_kind hk]
  clear hT0
  have mid : ∀ x, x = nI (mxN N) → Wp d 74 47 [some (vR 12 0 0), some (vI (tf cnt)), none] [vI x, vR 12 0 0] T0 (fun q S' => q = some (vI (nI (bS N cnt r (S 16 0 0)).1)) ∧ fSr S S' ∧ mS (bS N cnt r (S 16 0 0)) S') := by
    rintro x rfl
    obtain ⟨q, T1, r1, rfl, r2, r3⟩ := Wm_ex (k_fill (d := d - 1) (S := sUp T0 12 0 0 11 (nI (mxN N))) (k0 := 15) (by decide) rfl rfl (x := 0))
    have u : ∀ k m, k ≠ 15 → k ≠ 12 → T1 k 0 0 m = T0 k 0 0 m := fun k m q1 q2 => by rw [r2 k 0 0 m (fun z => q1 z.1), sUp_kind q2]
    have u12 : ∀ m, m ≠ 11 → T1 12 0 0 m = T0 12 0 0 m := fun m q1 => by rw [r2 12 0 0 m (by omega), sUp_slot q1]
    have f1 : fSr S T1 := fSr_trans (fSr_up f0 (by omega) (by omega)) (fAd_r r2 (by omega) (by omega))
    refine (B_74_47 (n1_ := cO N) (by omega) r1 (by rw [u12 _ (by omega)]; exact t3) (by omega)).mpr ?_
    rw [sUp_kind (by decide), u12 3 (by omega), t3]
    -- the widest widths, from the last order on
    refine wloopI (cO N) (fun m ls T => ls = [some (vR 12 0 0), some (vI (tf cnt)), some (vI (nI (cO N - m) - 1))] ∧ (∀ k j i m, k ≠ 17 → T k j i m = T1 k j i m) ∧ ∀ z, z ≤ m → T 17 0 0 (cO N - z) = nI (vmx (wN N) (fun o => min 8 (lO N r o)) (cO N) z)) ?_ ?_ ⟨rfl, fun k j i m hk => sUp_kind hk, fun z hz => by rw [show z = 0 by omega, Nat.sub_zero, sUp_same]; rfl⟩
    · rintro ls T ⟨rfl, hk, hv⟩
      rw [Nat.sub_self]
      refine (B_74_75).mpr ?_
      rw [if_pos (by decide)]
      refine (B_74_121).mpr ?_
      have v12 : ∀ m, m ≠ 11 → T 12 0 0 m = T0 12 0 0 m := fun m q1 => by rw [hk _ _ _ _ (by decide), u12 m q1]
      rw [v12 0 (by omega), v12 2 (by omega), t0, t2]
      have fT : fSr S T := fSr_trans f1 (fun k i j m q => hk k i j m (by omega))
      have hms : mS ((0, 1000, 301, S 16 0 0) : Bcc) T := ⟨by rw [v12 _ (by omega), t12]; rfl, by rw [v12 _ (by omega), t13]; rfl, by rw [v12 _ (by omega), t14]; rfl, fun m _ => by rw [hk _ _ _ _ (by decide), u _ _ (by decide) (by decide), tk _ _ (by decide)]⟩
      refine icT (qI_lt (by omega) (by omega)) (fun g => ?_) (fun g => ?_)
      · refine (B_74_142).mpr ?_
        have eb : bS N cnt r (S 16 0 0) = (0, 1000, 301, S 16 0 0) := if_pos g
        rw [eb]
        exact ⟨by rw [v12 _ (by omega), t12]; rfl, fT, hms⟩
      have hD : dS N cnt (wN N) (fun o => min 8 (lO N r o)) (vS N r) T := by
        refine ⟨by rw [v12 _ (by omega)]; exact t1, by rw [v12 _ (by omega)]; exact t2, by rw [v12 _ (by omega)]; exact t3, by rw [v12 _ (by omega)]; exact t10, ?_, fun o ho => ?_, fun o ho => ?_⟩
        · rw [hk _ _ _ _ (by decide), r2 12 0 0 11 (by omega), sUp_same]
        · rw [hk _ _ _ _ (by decide), hk _ _ _ _ (by decide), u _ _ (by decide) (by decide), u _ _ (by decide) (by decide), tk _ _ (by decide), tk _ _ (by decide)]
          exact h4 o ho
        · have := hv (cO N - o) (by omega)
          rw [show cO N - (cO N - o) = o by omega] at this
          exact this
      have hB : bL N (fun o => min 8 (lO N r o)) (wN N) (vS N r) := ⟨fun o => Nat.min_le_left _ _, hw150, fun o => vmx_le hw150 _ (by omega)⟩
      obtain ⟨q, T2, w1, rfl, w2, w3, -⟩ := Wm_ex (k_try hw hB (fun o ho => by have := (hw.2.2.1 o ho).2.1.2.1; unfold wN; omega) (cO N) (d := d - 1) (o := 0) (s := 0) (rest := nv N (55 + 3 * r)) (b := (0, 1000, 301, S 16 0 0)) (f := fun _ => 0) (S := T) (by omega) (by omega) hD hms ⟨Nat.le_refl _, Nat.le_refl _⟩ (by omega) (by omega) hW (fun m hm _ => by rw [hk _ _ _ _ (by decide)]; exact r3 m (by show m < 8; omega)))
      refine (B_74_132 (by omega) (by rw [v12 0 (by omega), t0]; exact w1)).mpr ?_
      refine (B_74_142).mpr ?_
      have eb : bS N cnt r (S 16 0 0) = trC N cnt (wN N) (fun o => min 8 (lO N r o)) (vS N r) (cO N) 0 0 (nv N (55 + 3 * r)) (fun _ => 0) (0, 1000, 301, S 16 0 0) := if_neg g
      rw [eb]
      exact ⟨by rw [w3.1], fSr_trans fT (fS_r w2), w3⟩
    · rintro m hm ls T ⟨rfl, hk, hv⟩ hn
      have ix : nI (cO N - m) - 1 = nI (cO N - (m + 1)) := qI_sub (b := 1) (by omega)
      rw [ix]
      refine (B_74_75).mpr ?_
      rw [if_neg (nI_n0 (by omega))]
      have e14 : T 14 0 0 (cO N - (m + 1)) = nI (min 8 (lO N r (cO N - (m + 1)))) := by
        rw [hk _ _ _ _ (by decide), u _ _ (by decide) (by decide), tk _ _ (by decide)]
        exact (h4 _ (by omega)).2
      have e13 : T 13 0 0 (cO N - (m + 1)) = nI (wN N (cO N - (m + 1))) := by
        rw [hk _ _ _ _ (by decide), u _ _ (by decide) (by decide), tk _ _ (by decide)]
        exact (h4 _ (by omega)).1
      have hvm := hv m (Nat.le_refl _)
      have hle := vmx_le (L := fun o => min 8 (lO N r o)) hw150 m (by omega)
      have hwl := hw150 (cO N - (m + 1)) (by omega)
      refine (B_74_79 (n1_ := cO N - m) (n2_ := cO N - (m + 1)) (by rw [qI_succ]; congr 1; omega) (by omega) rfl (by omega)).mpr ?_
      rw [e14, hvm]
      have fin : ∀ y, y = (if 0 < min 8 (lO N r (cO N - (m + 1))) then wN N (cO N - (m + 1)) else 0) → Wp d 74 111 [some (vR 12 0 0), some (vI (tf cnt)), some (vI (nI (cO N - (m + 1))))] [vI (nI y), vI (nI (vmx (wN N) (fun o => min 8 (lO N r o)) (cO N) m)), vI (nI (cO N - (m + 1))), vR 17 0 0] T (fun q S' => q = some (vI (nI (bS N cnt r (S 16 0 0)).1)) ∧ fSr S S' ∧ mS (bS N cnt r (S 16 0 0)) S') := by
        intro y hy
        have hy150 : y ≤ 150 := by rw [hy]; split <;> omega
        refine (B_74_111 (n1_ := cO N - (m + 1)) (by omega) (k_max (by omega) (by omega)) rfl (by omega)).mpr ?_
        refine hn _ _ ⟨by rw [show nI (cO N - (m + 1)) + (-1 : Int32) = nI (cO N - (m + 1)) - 1 from by grind], fun k j i m' hk' => by rw [sUp_kind hk']; exact hk k j i m' hk', fun z hz => ?_⟩
        by_cases gz : z = m + 1
        · subst gz
          rw [sUp_same]
          show nI (max (vmx _ _ _ m) y) = nI (max (vmx _ _ _ m) _)
          rw [hy]
        · rw [sUp_slot (by omega)]
          exact hv z (by omega)
      refine icT (qI_le (b := 0) (by omega) (by omega)) (fun g => ?_) (fun g => ?_)
      · refine (B_74_110).mpr ?_
        exact fin 0 (by rw [if_neg (by omega)])
      refine (B_74_101 (n1_ := cO N - (m + 1)) rfl (by omega)).mpr ?_
      rw [e13]
      exact fin _ (by rw [if_pos (by omega)])
  rw [t2]
  refine icT ((show nI (2 * nv N 1) = 0 ↔ 2 * nv N 1 = 0 from qI_eq (b := 0) (by omega) (by omega))) (fun g => ?_) (fun g => ?_)
  · refine (B_74_32).mpr ?_
    refine mid _ ?_
    unfold mxN
    rw [t1, if_pos (by omega), qI_succ]
  refine (B_74_41).mpr ?_
  refine mid _ ?_
  unfold mxN
  rw [t1, if_neg (by omega)]
  exact qI_sub (b := 1) (by omega)
theorem one_le {x : Int32} : (1 : Int32) ≤ x ↔ 0 < x := by
  rw [Int32.le_iff_toInt_le, Int32.lt_iff_toInt_lt, show (1 : Int32).toInt = 1 from by decide, show (0 : Int32).toInt = 0 from by decide]
  omega
/-- the search holds the best pattern for a roll -/
def SB (N : NV) (r : Nat) (S : bSt) : Prop := S 12 0 0 13 = (aLook N r).2.2.1 ∧ S 12 0 0 14 = (aLook N r).2.1 ∧ ∀ m, m < 8 → S 16 0 0 m = (aLook N r).2.2.2 m
theorem k_findBest (hi : i < 12) (hP : PR S i N) (hw : WF N) (hd : 13 ≤ d) {r : Nat} (hr : r < cR N) : Wm d 33 [vR 1 i 0, vI (nI r), vR 12 0 0] S (fun q S' => q = some (vI (tf (aHas N r))) ∧ fSr S S' ∧ (aHas N r = true → SB N r S')) := by
  refine EW_33 ?_
  refine (B_33_0 (by omega) (k_leftOf hi hP hw hr) (bk1 hi)).mpr ?_
  rotate_left
  refine icT (one_le) (fun g => ?_) (fun g => ?_)
  · obtain ⟨q, S1, e1, rfl, f1, d0, d1, d2, d3, d4⟩ := Wm_ex (k_describe (d := d - 1) hi hP hw (by omega) hr)
    obtain ⟨q, S2, e2, rfl, f2, m2⟩ := Wm_ex (k_seek (d := d - 1) (S := S1) hw (by omega) (cnt := false) hr d0 d1 d2 d3 d4)
    refine (B_33_11 (by omega) e1 (bk1 hi) e2).mpr ?_
    obtain ⟨hrb, -⟩ := bS_RB hw (cnt := false) hr (S1 16 0 0)
    have hlt := bS_vb hw (cnt := false) hr (S1 16 0 0)
    generalize bS N false r (S1 16 0 0) = b at *
    refine icT (qI_le (b := 0) hlt (by omega)) (fun g2 => ?_) (fun g2 => ?_)
    · refine (B_33_29).mpr ?_
      refine (B_33_30 (Or.inl rfl)).mpr ?_
      have h0 : (aLook N r).2.1 = 0 := by
        rcases hrb with ⟨h, -⟩ | ⟨-, -, -, -, -, -, h⟩
        · exact h
        · omega
      have hno : aHas N r = false := by
        unfold aHas
        rw [h0]
        rfl
      rw [hno]
      exact ⟨rfl, fSr_trans f1 f2, fun h => absurd h (by decide)⟩
    refine (B_33_25).mpr ?_
    refine (B_33_30 (Or.inr rfl)).mpr ?_
    rcases hrb with ⟨-, -, -, h⟩ | ⟨a1, a2, a3, a4, a5, a6, a7⟩
    · exact absurd g2 (by omega)
    have hyes : aHas N r = true := by
      unfold aHas
      rw [a1, decide_eq_true g, decide_eq_true (show (0 : Int32) < nI b.2.1 from by rw [show (0 : Int32) = nI 0 from rfl, qI_lt (by omega) (by omega)]; omega)]
      rfl
    rw [hyes]
    exact ⟨rfl, fSr_trans f1 f2, fun _ => ⟨by rw [a2]; exact m2.2.1, by rw [a1]; exact m2.2.2.1, fun m hm => by rw [a6 m hm]; exact m2.2.2.2 m hm⟩⟩
  refine (B_33_9).mpr ?_
  have hno : aHas N r = false := by
    unfold aHas
    rw [decide_eq_false g, Bool.and_false]
  rw [hno]
  exact ⟨rfl, fSr_refl S, fun h => absurd h (by decide)⟩
end M18c
