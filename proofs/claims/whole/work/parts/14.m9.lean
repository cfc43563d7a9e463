/-! WHAT COMES ABOUT KEEPS THE BOUNDS: a run more, runs in another order, an order or a roll more -/
section M9
theorem nv_c {N N' : NV} {k k' : Nat} (h : N' k' = N k) : nv N' k' = nv N k := by unfold nv; rw [h]
theorem ok_c {N N' : NV} {k k' a b : Nat} (h : N' k' = N k) (g : ok N k a b) : ok N' k' a b := by
  unfold ok at *
  rw [nv_c h, h]
  exact g
theorem ok_n {N : NV} {k n a b : Nat} (h : N k = nI n) (h1 : a ≤ n) (h2 : n ≤ b) (hb : b < 2 ^ 31) : ok N k a b := by
  unfold ok nv
  rw [h, nI_clamp (by omega)]
  exact ⟨rfl, h1, h2⟩
theorem nv_n {N : NV} {k n : Nat} (h : N k = nI n) (hb : n < 2 ^ 31) : nv N k = n := by
  unfold nv
  rw [h, nI_clamp hb]
theorem wOrd_c {N N' : NV} {o : Nat} (hk : ∀ k, 6 + 6 * o ≤ k → k < 12 + 6 * o → N' k = N k) (h : wOrd N o) : wOrd N' o := by
  obtain ⟨h1, h2, h3, h4, h5, h6⟩ := h
  exact ⟨ok_c (hk _ (by omega) (by omega)) h1, ok_c (hk _ (by omega) (by omega)) h2, ok_c (hk _ (by omega) (by omega)) h3, ok_c (hk _ (by omega) (by omega)) h4, ok_c (hk _ (by omega) (by omega)) h5, ok_c (hk _ (by omega) (by omega)) h6⟩
theorem wRol_c {N N' : NV} {r : Nat} (hk : ∀ k, 54 + 3 * r ≤ k → k < 57 + 3 * r → N' k = N k) (h : wRol N r) : wRol N' r := by
  obtain ⟨h1, h2, h3⟩ := h
  exact ⟨ok_c (hk _ (by omega) (by omega)) h1, ok_c (hk _ (by omega) (by omega)) h2, ok_c (hk _ (by omega) (by omega)) h3⟩
theorem wSet_c {N N' : NV} (hk : ∀ k, k < 3 → N' k = N k) (h : wSet N) : wSet N' := by
  obtain ⟨h1, h2, h3⟩ := h
  exact ⟨ok_c (hk _ (by omega)) h1, ok_c (hk _ (by omega)) h2, ok_c (hk _ (by omega)) h3⟩
theorem cO_c {N N' : NV} (h : N' 3 = N 3) : cO N' = cO N := by unfold cO; rw [h]
theorem cR_c {N N' : NV} (h : N' 4 = N 4) : cR N' = cR N := by unfold cR; rw [h]
theorem cU_c {N N' : NV} (h : N' 5 = N 5) : cU N' = cU N := by unfold cU; rw [h]
theorem cU_n {N : NV} {n : Nat} (h : N 5 = nI n) (hn : n < 2 ^ 31) : cU N = n := by unfold cU; rw [h, nI_clamp hn]
theorem cR_n {N : NV} {n : Nat} (h : N 4 = nI n) (hn : n < 2 ^ 31) : cR N = n := by unfold cR; rw [h, nI_clamp hn]
theorem cO_n {N : NV} {n : Nat} (h : N 3 = nI n) (hn : n < 2 ^ 31) : cO N = n := by unfold cO; rw [h, nI_clamp hn]
/-- a run of another row: the same strips, the same roll; orders and rolls stand (there may be more) -/
theorem wRun_c {N N' : NV} {u v : Nat} (hO : cO N ≤ cO N') (hR : cR N ≤ cR N') (ho : ∀ o, o < cO N → N' (7 + 6 * o) = N (7 + 6 * o)) (hr : ∀ r, r < cR N → N' (55 + 3 * r) = N (55 + 3 * r) ∧ N' (56 + 3 * r) = N (56 + 3 * r)) (h0 : N' (90 + 12 * u) = N (90 + 12 * v)) (h1 : ok N' (91 + 12 * u) 1 999) (h2 : N' (92 + 12 * u) = N (92 + 12 * v)) (hs : ∀ o, o < 8 → N' (94 + 12 * u + o) = N (94 + 12 * v + o)) (hkp : (N' (93 + 12 * u) = N (93 + 12 * v) ∧ (N (93 + 12 * v) = -5 ∨ N' (91 + 12 * u) = N (91 + 12 * v))) ∨ wKept N' u) (h : wRun N v) : wRun N' u := by
  obtain ⟨⟨q1, q2⟩, q3, q4, q5, ⟨q6, q7, q8, q9⟩, q10⟩ := h
  have es : str N' u = str N v := sumN_congr _ (fun o ho' => nv_c (hs o ho'))
  have eu : usd N' u = usd N v := by
    refine sumN_congr _ (fun o ho' => ?_)
    rw [nv_c (hs o ho')]
    rcases Nat.lt_or_ge o (cO N) with g | g
    · rw [nv_c (ho o g)]
    · rw [(q5 o ho').2 g, Nat.zero_mul, Nat.zero_mul]
  have e0 : nv N' (90 + 12 * u) = nv N (90 + 12 * v) := nv_c h0
  have ew : rW N' u = rW N v := by
    unfold rW
    rw [e0, nv_c (hr _ q2).1]
  have e2 : nv N' (92 + 12 * u) = nv N (92 + 12 * v) := nv_c h2
  refine ⟨⟨by rw [e0, h0]; exact q1, by rw [e0]; omega⟩, h1, ok_c h2 q4, fun o ho' => ⟨ok_c (hs o ho') (q5 o ho').1, fun g => by rw [nv_c (hs o ho')]; exact (q5 o ho').2 (by omega)⟩, ⟨by rw [es]; exact q6, by rw [es]; exact q7, by rw [eu, e2, ew]; exact q8, by rw [eu, ew, es]; exact q9⟩, ?_⟩
  rcases hkp with ⟨h3, hl⟩ | hkp
  · rcases q10 with q10 | ⟨p1, p2, p3, p4⟩
    · exact Or.inl (h3.trans q10)
    · right
      have e3 : nv N' (93 + 12 * u) = nv N (93 + 12 * v) := nv_c h3
      have e1 : nv N' (91 + 12 * u) = nv N (91 + 12 * v) := by
        rcases hl with hl | hl
        · exfalso
          rw [hl] at p1
          rw [show nv N (93 + 12 * v) = 0 from by unfold nv; rw [hl]; rfl] at p1
          exact absurd p1 (by decide)
        · exact nv_c hl
      rw [e3, nv_c (hr _ p2).1, nv_c (hr _ p2).2, e2, eu, ew, e1]
      exact ⟨h3.trans p1, by omega, p3, p4⟩
  · exact hkp
/-- the same orders and rolls, other runs -/
theorem WF_runs {N N' : NV} (h : WF N) (hk : ∀ k, k < 90 → k ≠ 5 → N' k = N k) {c : Nat} (h5 : N' 5 = nI c) (hc : c ≤ 16) (hu : ∀ u, u < c → wRun N' u) (hi : ∀ u v, u < c → v < c → N' (93 + 12 * u) ≠ -5 → N' (93 + 12 * u) = N' (93 + 12 * v) → u = v) : WF N' := by
  obtain ⟨⟨a1, a2, a3, a4, a5, a6⟩, b, co, cr, -, -⟩ := h
  have eO := cO_c (hk 3 (by omega) (by omega))
  have eR := cR_c (hk 4 (by omega) (by omega))
  have eU := cU_n h5 (by omega)
  refine ⟨⟨by rw [eO, hk 3 (by omega) (by omega)]; exact a1, by rw [eO]; exact a2, by rw [eR, hk 4 (by omega) (by omega)]; exact a3, by rw [eR]; exact a4, by rw [eU]; exact h5, by rw [eU]; exact hc⟩, wSet_c (fun k hk' => hk k (by omega) (by omega)) b, fun o ho => ?_, fun r hr => ?_, by rw [eU]; exact hu, ?_⟩
  · rw [eO] at ho
    exact wOrd_c (fun k _ _ => hk k (by omega) (by omega)) (co o ho)
  · rw [eR] at hr
    exact wRol_c (fun k _ _ => hk k (by omega) (by omega)) (cr r hr)
  · unfold wInj
    rw [eU]
    exact hi
theorem nRun_lo {N : NV} {x l : Int32} {P : NV} {k : Nat} (h : k ≠ 5) (h2 : k < 90 + 12 * cU N) : nRun N x l P k = N k := by
  unfold nRun
  rw [if_neg h, if_neg (by omega), if_neg (by omega), if_neg (by omega), if_neg (by omega), if_neg (by omega)]
theorem nRun_5 {N : NV} {x l : Int32} {P : NV} : nRun N x l P 5 = N 5 + 1 := by simp [nRun]
theorem nRun_x {N : NV} {x l : Int32} {P : NV} : nRun N x l P (90 + 12 * cU N) = x := by
  unfold nRun
  rw [if_neg (by omega), if_neg (by omega), if_pos rfl]
theorem nRun_l {N : NV} {x l : Int32} {P : NV} : nRun N x l P (91 + 12 * cU N) = l := by
  unfold nRun
  rw [if_neg (by omega), if_neg (by omega), if_neg (by omega), if_pos rfl]
theorem nRun_e {N : NV} {x l : Int32} {P : NV} : nRun N x l P (92 + 12 * cU N) = N 1 := by
  unfold nRun
  rw [if_neg (by omega), if_neg (by omega), if_neg (by omega), if_neg (by omega), if_pos rfl]
theorem nRun_k {N : NV} {x l : Int32} {P : NV} : nRun N x l P (93 + 12 * cU N) = -5 := by
  unfold nRun
  rw [if_neg (by omega), if_neg (by omega), if_neg (by omega), if_neg (by omega), if_neg (by omega), if_pos rfl]
theorem nRun_s {N : NV} {x l : Int32} {P : NV} {o : Nat} (ho : o < 8) : nRun N x l P (94 + 12 * cU N + o) = P o := by
  unfold nRun
  rw [if_neg (by omega), if_pos (by omega)]
  congr 1
  omega
theorem WF_nRun {N : NV} (h : WF N) (hu : cU N < 16) {r l : Nat} (hr : r < cR N) (hl : 1 ≤ l ∧ l ≤ 999) {P : NV} {g : Nat → Nat} (hP : ∀ m, m < 8 → P m = nI (g m)) (hg : ∀ m, m < 8 → g m ≤ 8 ∧ (cO N ≤ m → g m = 0)) (hs : 1 ≤ sumN g 8 ∧ sumN g 8 ≤ 8) (hw : sumN (fun m => g m * nv N (7 + 6 * m)) 8 + 2 * nv N 1 ≤ nv N (55 + 3 * r)) (hk : sumN (fun m => g m * nv N (7 + 6 * m)) 8 < nv N (55 + 3 * r) → sumN g 8 ≤ 6) : WF (nRun N (nI r) (nI l) P) := by
  have h5 : nRun N (nI r) (nI l) P 5 = nI (cU N + 1) := by rw [nRun_5, h.1.2.2.2.2.1, qI_succ]
  have hc := h.1.2.1
  have hcR := h.1.2.2.2.1
  refine WF_runs h (fun k hk h5 => nRun_lo h5 (by omega)) h5 (by omega) (fun u hu' => ?_) (fun u v hu' hv hne he => ?_)
  · rcases Nat.lt_or_ge u (cU N) with g1 | g1
    · have hwr := h.2.2.2.2.1 u g1
      refine wRun_c (v := u) (by rw [cO_c (N := N) (nRun_lo (by omega) (by omega))]; exact Nat.le_refl _) (by rw [cR_c (N := N) (nRun_lo (by omega) (by omega))]; exact Nat.le_refl _) (fun o ho => nRun_lo (by omega) (by omega)) (fun r hr => ⟨nRun_lo (by omega) (by omega), nRun_lo (by omega) (by omega)⟩) (nRun_lo (by omega) (by omega)) (ok_c (nRun_lo (by omega) (by omega)) hwr.2.1) (nRun_lo (by omega) (by omega)) (fun o ho => nRun_lo (by omega) (by omega)) (Or.inl ⟨nRun_lo (by omega) (by omega), Or.inr (nRun_lo (by omega) (by omega))⟩) hwr
    · obtain rfl : u = cU N := by omega
      have e1 : nv (nRun N (nI r) (nI l) P) (90 + 12 * cU N) = r := nv_n nRun_x (by omega)
      have eW : rW (nRun N (nI r) (nI l) P) (cU N) = nv N (55 + 3 * r) := by
        unfold rW
        rw [e1]
        exact nv_c (nRun_lo (by omega) (by omega))
      have eS : ∀ o, o < 8 → nv (nRun N (nI r) (nI l) P) (94 + 12 * cU N + o) = g o := fun o ho => nv_n ((nRun_s ho).trans (hP o ho)) (by have := (hg o ho).1; omega)
      have es : str (nRun N (nI r) (nI l) P) (cU N) = sumN g 8 := sumN_congr _ eS
      have eu : usd (nRun N (nI r) (nI l) P) (cU N) = sumN (fun m => g m * nv N (7 + 6 * m)) 8 := by
        refine sumN_congr _ (fun o ho => ?_)
        rw [eS o ho]
        rcases Nat.lt_or_ge o (cO N) with g2 | g2
        · rw [nv_c (N := N) (nRun_lo (by omega) (by omega))]
        · rw [(hg o ho).2 g2, Nat.zero_mul, Nat.zero_mul]
      have ee : nv (nRun N (nI r) (nI l) P) (92 + 12 * cU N) = nv N 1 := nv_c nRun_e
      refine ⟨⟨by rw [e1]; exact nRun_x, by rw [e1, cR_c (N := N) (nRun_lo (by omega) (by omega))]; exact hr⟩, ok_n nRun_l hl.1 hl.2 (by omega), ok_c nRun_e h.2.1.2.1, fun o ho => ⟨ok_n ((nRun_s ho).trans (hP o ho)) (by omega) (hg o ho).1 (by omega), fun q => ?_⟩, ⟨by rw [es]; exact hs.1, by rw [es]; exact hs.2, by rw [eu, ee, eW]; exact hw, by rw [eu, eW, es]; exact hk⟩, Or.inl nRun_k⟩
      rw [eS o ho]
      rw [cO_c (N := N) (nRun_lo (by omega) (by omega))] at q
      exact (hg o ho).2 q
  · rcases Nat.lt_or_ge u (cU N) with g1 | g1
    · rw [nRun_lo (by omega) (by omega)] at hne he
      rcases Nat.lt_or_ge v (cU N) with g2 | g2
      · rw [nRun_lo (by omega) (by omega)] at he
        exact h.2.2.2.2.2 u v g1 g2 hne he
      · obtain rfl : v = cU N := by omega
        rw [nRun_k] at he
        exact absurd he hne
    · obtain rfl : u = cU N := by omega
      exact absurd nRun_k hne
/-- the length of a best pattern is in its bounds -/
theorem aKn_le {s rest : Nat} {k : Nat} (hs : s ≤ 8) (hr : rest ≤ 300) (hk : k ≤ 7) (h : aKn (nI s) (nI rest) ≤ nI k) : 0 < rest → s ≤ 6 := by
  intro hr0
  unfold aKn at h
  rw [if_neg (by rw [show (0 : Int32) = nI 0 from rfl, qI_eq (by omega) (by omega)]; omega), qI_succ, qI_le (by omega) (by omega)] at h
  omega
theorem bm32 {x : Int} (h1 : -2147483648 ≤ x) (h2 : x < 2147483648) : x.bmod (2 ^ 32) = x := by
  unfold Int.bmod
  simp only []
  split <;> omega
theorem aLeft_le {N : NV} (h : WF N) {r : Nat} (hr : r < cR N) (hp : 0 < aLeft N r) : ∃ l, aLeft N r = nI l ∧ 1 ≤ l ∧ l ≤ 999 := by
  have key : ∀ n, n ≤ cU N → ∃ x : Int, (subTo (N (56 + 3 * r)) (fun u => if N (90 + 12 * u) = nI r then N (91 + 12 * u) else 0) n).toInt = x ∧ x ≤ 999 ∧ -(999 * (n : Int)) ≤ x := by
    intro n
    induction n with
    | zero =>
      intro _
      obtain ⟨h1, h2, h3⟩ := (h.2.2.2.1 r hr).2.2
      refine ⟨_, rfl, ?_, ?_⟩
      · show (N (56 + 3 * r)).toInt ≤ 999
        rw [h1, nI_toInt (by omega)]; omega
      · show _ ≤ (N (56 + 3 * r)).toInt
        rw [h1, nI_toInt (by omega)]; omega
    | succ n ih =>
      intro hn
      obtain ⟨x, e, x1, x2⟩ := ih (by omega)
      have h16 := h.1.2.2.2.2.2
      show ∃ y : Int, (subTo _ _ n - (if N (90 + 12 * n) = nI r then N (91 + 12 * n) else 0)).toInt = y ∧ _
      obtain ⟨l1, l2, l3⟩ := (h.2.2.2.2.1 n (by omega)).2.1
      by_cases g : N (90 + 12 * n) = nI r
      · rw [if_pos g, Int32.toInt_sub, e, l1, nI_toInt (by omega), bm32 (by omega) (by omega)]
        exact ⟨_, rfl, by omega, by omega⟩
      · rw [if_neg g, Int32.sub_zero]
        exact ⟨x, e, x1, by omega⟩
  obtain ⟨x, e, x1, -⟩ := key (cU N) (Nat.le_refl _)
  have hp' : (0 : Int) < (aLeft N r).toInt := by simpa using Int32.lt_iff_toInt_lt.mp hp
  have e' : (aLeft N r).toInt = x := e
  rw [e'] at hp'
  refine ⟨x.toNat, ?_, by omega, by omega⟩
  apply Int32.toInt_inj.mp
  rw [e', nI_toInt (by omega)]
  omega
theorem mnTo_ok {N : NV} (h : WF N) {r : Nat} {row : NV} {g : Nat → Nat} (hrow : ∀ m, m < 8 → row m = nI (g m)) (hL : ∀ m, m < cO N → g m ≤ lO N r m) (h8 : ∀ m, m < 8 → g m ≤ 8) {l : Nat} (hl : 1 ≤ l ∧ l ≤ 999) : ∀ n, n ≤ cO N → ∃ y, mnTo (nI l) row (rmI N r) n = nI y ∧ 1 ≤ y ∧ y ≤ 999 := by
  have hc := h.1.2.1
  intro n
  induction n with
  | zero => intro _; exact ⟨l, rfl, hl⟩
  | succ n ih =>
    intro hn
    obtain ⟨y, e, y1, y2⟩ := ih (by omega)
    simp only [mnTo]
    rw [e, hrow n (by omega)]
    have hgl := hL n (by omega)
    have hg8 := h8 n (by omega)
    obtain ⟨e2, e3⟩ := rmI_n h r n
    by_cases gp : 0 < nI (g n)
    · rw [if_pos gp]
      have g0 : 0 < g n := by
        rw [show (0 : Int32) = nI 0 from rfl, qI_lt (by omega) (by omega)] at gp
        exact gp
      rw [e2, qI_div (by omega) (by omega) g0]
      have hd : 1 ≤ lO N r n / g n := (Nat.one_le_div_iff g0).mpr hgl
      have hd2 : lO N r n / g n ≤ lO N r n := Nat.div_le_self _ _
      unfold iMin
      by_cases gm : nI (lO N r n / g n) < nI y
      · rw [if_pos gm]
        rw [qI_lt (by omega) (by omega)] at gm
        exact ⟨_, rfl, hd, by omega⟩
      · rw [if_neg gm]
        exact ⟨_, rfl, y1, y2⟩
    · rw [if_neg gp]
      exact ⟨y, rfl, y1, y2⟩
theorem sumN_ge {g : Nat → Nat} {i : Nat} : ∀ n, i < n → g i ≤ sumN g n := by
  intro n
  induction n with
  | zero => intro h; exact absurd h (Nat.not_lt_zero _)
  | succ n ih =>
    intro h
    rw [sumN]
    rcases Nat.lt_or_ge i n with g1 | g1
    · have := ih g1; omega
    · obtain rfl : i = n := by omega
      omega
/-- what a best pattern is -/
theorem aHas_pat {N : NV} (h : WF N) {r : Nat} (hb : aHas N r = true) : ∃ s rest g, (aLook N r).2.1 = nI s ∧ (aLook N r).2.2.1 = nI rest ∧ (∀ m, m < 8 → (aLook N r).2.2.2 m = nI (g m)) ∧ gPat N (wN N) (lO N r) (nv N (55 + 3 * r)) (cO N) s rest g := by
  rcases aLook_good h r with q | q
  · exact absurd q (aHas_ne hb)
  · exact q
theorem aBLen_n {N : NV} (h : WF N) {r : Nat} (hr : r < cR N) (hb : aHas N r = true) : ∃ l, aBLen N r = nI l ∧ 1 ≤ l ∧ l ≤ 999 := by
  obtain ⟨s, rest, g, -, -, hrow, -, hs8, -, hsum, -, hL, -⟩ := aHas_pat h hb
  unfold aHas at hb
  rw [Bool.and_eq_true, decide_eq_true_iff, decide_eq_true_iff] at hb
  obtain ⟨l, e, hl⟩ := aLeft_le h hr hb.2
  unfold aBLen
  rw [e]
  exact mnTo_ok h hrow hL (fun m hm => by have := sumN_ge (g := g) 8 hm; omega) hl _ (Nat.le_refl _)
theorem WF_aCut {N : NV} (h : WF N) (hu : cU N < 16) {r : Nat} (hr : r < cR N) (hb : aHas N r = true) : WF (aCut N r) := by
  obtain ⟨l, e, hl⟩ := aBLen_n h hr hb
  obtain ⟨s, rest, g, e1, e2, hrow, hs1, hs8, hp, hsum, hw, hL, hz⟩ := aHas_pat h hb
  unfold aCut
  rw [e]
  obtain ⟨k1, -, k3⟩ := h.2.1.1
  obtain ⟨k4, -, k5⟩ := h.2.1.2.1
  have hW := (h.2.2.2.1 r hr).2.1.2.2
  unfold aPoss at hp
  rw [Bool.and_eq_true, Bool.and_eq_true, decide_eq_true_iff, decide_eq_true_iff, decide_eq_true_iff] at hp
  obtain ⟨-, p1, p2⟩ := hp
  unfold wN at hw
  rw [k4, show (2 : Int32) = nI 2 from rfl, ← qI_mul, qI_le (by omega) (by omega)] at p1
  rw [k1] at p2
  have hk := aKn_le hs8 (by omega) (k := nv N 0) (by omega) p2
  refine WF_nRun h hu hr hl hrow (fun m hm => ⟨by have := sumN_ge (g := g) 8 hm; omega, hz m⟩) (by omega) (by omega) (fun q => ?_)
  have := hk (by omega)
  omega
theorem WF_aTry {N : NV} (h : WF N) (x : Int32) : WF (aTry N x).2 := by
  unfold aTry
  by_cases g : vR_ N x = true
  · rw [if_pos g]
    obtain ⟨r, rfl, hr, -⟩ := vR_ix h.1 g
    rw [nI_clamp (by have := h.1.2.2.2.1; omega)]
    by_cases g16 : N 5 = 16
    · rw [if_pos g16]; exact h
    · rw [if_neg g16]
      by_cases gb : aHas N r = true
      · rw [if_pos gb]
        refine WF_aCut h ?_ hr gb
        rcases Nat.lt_or_ge (cU N) 16 with q | q
        · exact q
        · have := h.1.2.2.2.2.2
          exact absurd (by rw [h.1.2.2.2.2.1, show cU N = 16 by omega]; rfl) g16
      · rw [if_neg gb]; exact h
  · rw [if_neg g]; exact h
end M9
