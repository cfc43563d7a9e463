/-! THE MODEL's methods, 12: split, write, keep -/
section M15d
theorem aSets_le {N : NV} (hwf : WF N) : aSets N ≤ 192 := by
  have h1 : aSets N ≤ cU N * 12 := by
    refine sumN_le _ (fun i hi => ?_)
    unfold aSet1 aSet
    have h7 := aPos_le hwf hi
    split
    · omega
    · have : sumN (fun k => if aHasP N (i - 1) (aPosAt N i k) = true then 0 else 1) (aPos N i) ≤ aPos N i * 1 := sumN_le _ (fun k _ => by split <;> omega)
      split <;> omega
  have := hwf.1.2.2.2.2.2
  omega
/-- orders and rolls change, runs stand, but for what they are kept as -/
theorem WF_more {N N' : NV} (h : WF N) (hset : wSet N') (hO : ∃ c, N' 3 = nI c ∧ cO N ≤ c ∧ c ≤ 8) (hR : ∃ c, N' 4 = nI c ∧ cR N ≤ c ∧ c ≤ 12) (h5 : N' 5 = N 5) (ho : ∀ k, 6 ≤ k → k < 6 + 6 * cO N → N' k = N k) (ho' : ∀ o, cO N ≤ o → o < cO N' → wOrd N' o) (hr : ∀ k, 54 ≤ k → k < 54 + 3 * cR N → N' k = N k) (hr' : ∀ r, cR N ≤ r → r < cR N' → wRol N' r) (hu : ∀ u i, u < cU N → i < 12 → i ≠ 3 → N' (90 + 12 * u + i) = N (90 + 12 * u + i)) (hk : ∀ u, u < cU N → N' (93 + 12 * u) = N (93 + 12 * u) ∨ (N' (93 + 12 * u) = nI (cR N) ∧ wKept N' u)) (hone : ∀ u v, u < cU N → v < cU N → N' (93 + 12 * u) = nI (cR N) → N' (93 + 12 * v) = nI (cR N) → u = v) : WF N' := by
  obtain ⟨⟨a1, a2, a3, a4, a5, a6⟩, b, co, cr, cu, ci⟩ := h
  obtain ⟨c3, e3, p3, q3⟩ := hO
  obtain ⟨c4, e4, p4, q4⟩ := hR
  have eO := cO_n e3 (by omega)
  have eR := cR_n e4 (by omega)
  have eU := cU_c h5
  have r1 : ∀ u i, u < cU N → i < 12 → i ≠ 3 → ∀ b, b = 90 + i → N' (b + 12 * u) = N (b + 12 * u) := by
    intro u i hu' hi h3 b hb
    have := hu u i hu' hi h3
    rw [show 90 + 12 * u + i = b + 12 * u by omega] at this
    exact this
  refine ⟨⟨by rw [eO]; exact e3, by omega, by rw [eR]; exact e4, by omega, by rw [eU, h5]; exact a5, by rw [eU]; exact a6⟩, hset, fun o ho2 => ?_, fun r hr2 => ?_, fun u hu2 => ?_, fun u v hu2 hv2 hne he => ?_⟩
  · rcases Nat.lt_or_ge o (cO N) with g | g
    · exact wOrd_c (fun k _ _ => ho k (by omega) (by omega)) (co o g)
    · exact ho' o g ho2
  · rcases Nat.lt_or_ge r (cR N) with g | g
    · exact wRol_c (fun k _ _ => hr k (by omega) (by omega)) (cr r g)
    · exact hr' r g hr2
  · rw [eU] at hu2
    have hw := cu u hu2
    refine wRun_c (v := u) (by omega) (by omega) (fun o ho2 => ho _ (by omega) (by omega)) (fun r hr2 => ⟨hr _ (by omega) (by omega), hr _ (by omega) (by omega)⟩) (hu u 0 hu2 (by omega) (by omega)) (ok_c (r1 u 1 hu2 (by omega) (by omega) _ rfl) hw.2.1) (r1 u 2 hu2 (by omega) (by omega) _ rfl) (fun o ho2 => ?_) ?_ hw
    · have := hu u (4 + o) hu2 (by omega) (by omega)
      rw [show 90 + 12 * u + (4 + o) = 94 + 12 * u + o by omega] at this
      exact this
    · rcases hk u hu2 with g | g
      · exact Or.inl ⟨g, Or.inr (r1 u 1 hu2 (by omega) (by omega) _ rfl)⟩
      · exact Or.inr g.2
  · rw [eU] at hu2 hv2
    have old : ∀ w, w < cU N → N' (93 + 12 * w) = N (93 + 12 * w) → N' (93 + 12 * w) ≠ -5 → ∃ q, q < cR N ∧ N' (93 + 12 * w) = nI q := by
      intro w hw2 e hne2
      rcases (cu w hw2).2.2.2.2.2 with g | ⟨g1, g2, -⟩
      · rw [e] at hne2; exact absurd g hne2
      · exact ⟨_, g2, by rw [e]; exact g1⟩
    rcases hk u hu2 with g | ⟨g, -⟩
    · rcases hk v hv2 with g' | ⟨g', -⟩
      · rw [g] at hne he
        rw [g'] at he
        exact ci u v hu2 hv2 hne he
      · obtain ⟨q, q1, q2⟩ := old u hu2 g hne
        rw [q2, g', qI_eq (by omega) (by omega)] at he
        omega
    · rcases hk v hv2 with g' | ⟨g', -⟩
      · obtain ⟨q, q1, q2⟩ := old v hv2 g' (he ▸ hne)
        rw [q2, g, qI_eq (by omega) (by omega)] at he
        omega
      · exact hone u v hu2 hv2 g g'
theorem WF_282 {N N' : NV} (h : WF N) (hk : ∀ k, k < 282 → N' k = N k) : WF N' := by
  have h16 := h.1.2.2.2.2.2
  exact WF_perm h (fun k hk' _ => hk k (by omega)) (c := cU N) (by rw [hk 5 (by omega)]; exact h.1.2.2.2.2.1) h16 id (fun u hu => hu) (fun u i hu hi => hk _ (by omega)) (fun u v _ _ e => e)
def aKeep (N : NV) (x1 : Int32) : Int32 × NV := if vU N x1 = true then (if N (93 + 12 * x1.toNatClampNeg) ≠ -5 ∨ nI (aRemW N x1.toNatClampNeg) < N 2 then (-4, N) else if N 4 = 12 then (-3, N) else (N 4, upd (nRoll N (grR N x1.toNatClampNeg) (nI (aRemW N x1.toNatClampNeg)) (N (91 + 12 * x1.toNatClampNeg))) (93 + 12 * x1.toNatClampNeg) (N 4))) else (-1, N)
theorem upd_same {f : NV} {k : Nat} {x : Int32} : upd f k x k = x := if_pos rfl
theorem upd_ne {f : NV} {k m : Nat} {x : Int32} (h : m ≠ k) : upd f k x m = f m := if_neg h
theorem nRoll_ne {N : NV} {g w l : Int32} {k : Nat} (h4 : k ≠ 4) (h : k < 54 + 3 * cR N ∨ 57 + 3 * cR N ≤ k) : nRoll N g w l k = N k := by
  unfold nRoll
  rw [upd_ne h4, upd_ne (by omega), upd_ne (by omega), upd_ne (by omega)]
theorem nRoll_4 {N : NV} {g w l : Int32} : nRoll N g w l 4 = N 4 + 1 := upd_same
theorem nRoll_g {N : NV} {g w l : Int32} : nRoll N g w l (54 + 3 * cR N) = g := by
  unfold nRoll
  rw [upd_ne (by omega), upd_ne (by omega), upd_ne (by omega), upd_same]
theorem nRoll_w {N : NV} {g w l : Int32} : nRoll N g w l (55 + 3 * cR N) = w := by
  unfold nRoll
  rw [upd_ne (by omega), upd_ne (by omega), upd_same]
theorem nRoll_l {N : NV} {g w l : Int32} : nRoll N g w l (56 + 3 * cR N) = l := by
  unfold nRoll
  rw [upd_ne (by omega), upd_same]
theorem WF_nRoll {N : NV} (h : WF N) (h12 : cR N < 12) {g w l : Nat} (hg : g ≤ 3) (hw : 10 ≤ w ∧ w ≤ 300) (hl : 1 ≤ l ∧ l ≤ 999) : WF (nRoll N (nI g) (nI w) (nI l)) := by
  have hO := h.1.2.1
  have e4 : nRoll N (nI g) (nI w) (nI l) 4 = nI (cR N + 1) := by rw [nRoll_4, h.1.2.2.1, qI_succ]
  refine WF_more h (wSet_c (fun k hk => nRoll_ne (by omega) (by omega)) h.2.1) ⟨cO N, by rw [nRoll_ne (by omega) (by omega)]; exact h.1.1, Nat.le_refl _, hO⟩ ⟨cR N + 1, e4, by omega, by omega⟩ (nRoll_ne (by omega) (by omega)) (fun k _ _ => nRoll_ne (by omega) (by omega)) (fun o ho ho2 => ?_) (fun k _ _ => nRoll_ne (by omega) (by omega)) (fun r hr hr2 => ?_) (fun u i hu hi h3 => nRoll_ne (by omega) (by omega)) (fun u hu => Or.inl (nRoll_ne (by omega) (by omega))) (fun u v hu hv e1 e2 => ?_)
  · rw [cO_c (N := N) (nRoll_ne (by omega) (by omega))] at ho2
    omega
  · rw [cR_n e4 (by omega)] at hr2
    obtain rfl : r = cR N := by omega
    exact ⟨ok_n nRoll_g (by omega) hg (by omega), ok_n nRoll_w hw.1 hw.2 (by omega), ok_n nRoll_l hl.1 hl.2 (by omega)⟩
  · rw [nRoll_ne (by omega) (by omega)] at e1
    rcases (h.2.2.2.2.1 u hu).2.2.2.2.2 with q | ⟨q1, q2, -⟩
    · rw [q] at e1
      exact absurd e1.symm (by
        intro q
        have := congrArg Int32.toInt q
        rw [nI_toInt (by omega), show (-5 : Int32).toInt = -5 from by decide] at this
        omega)
    · rw [q1, qI_eq (by omega) (by omega)] at e1
      omega
theorem nI_ne_m5 {n : Nat} (h : n < 2 ^ 31) : nI n ≠ -5 := by
  intro q
  have := congrArg Int32.toInt q
  rw [nI_toInt h, show (-5 : Int32).toInt = -5 from by decide] at this
  omega
theorem WF_aKeep {N : NV} (h : WF N) (x : Int32) : WF (aKeep N x).2 := by
  unfold aKeep
  by_cases g : vU N x = true
  · obtain ⟨u, rfl, hu, hu16⟩ := vU_ix h.1 g
    rw [if_pos g, nI_clamp (by omega)]
    by_cases g1 : N (93 + 12 * u) ≠ -5 ∨ nI (aRemW N u) < N 2
    · rw [if_pos g1]; exact h
    · rw [if_neg g1]
      by_cases g2 : N 4 = 12
      · rw [if_pos g2]; exact h
      · rw [if_neg g2]
        have h12 : cR N < 12 := by
          rcases Nat.lt_or_ge (cR N) 12 with q | q
          · exact q
          · have := h.1.2.2.2.1
            exact absurd (by rw [h.1.2.2.1, show cR N = 12 by omega]; rfl) g2
        have hO := h.1.2.1
        obtain ⟨-, e0, hr, -, hW, -, hus, -, -, -, -, ⟨-, he⟩, hre⟩ := wf_run h hu
        obtain ⟨hl1, hl2, hl3⟩ := (h.2.2.2.2.1 u hu).2.1
        obtain ⟨hg1, -, hg3⟩ := (h.2.2.2.1 _ hr).1
        obtain ⟨hs1, hs2, hs3⟩ := h.2.1.2.2
        have hw10 : 10 ≤ aRemW N u := by
          have : ¬ nI (aRemW N u) < N 2 := fun q => g1 (Or.inr q)
          have hb : aRemW N u ≤ 300 := by have := aRest_le h hu; unfold aRemW; omega
          rw [hs1, qI_lt (by omega) (by omega)] at this
          omega
        have hw300 : aRemW N u ≤ 300 := by have := aRest_le h hu; unfold aRemW; omega
        have e4 : nRoll N (grR N u) (nI (aRemW N u)) (N (91 + 12 * u)) 4 = nI (cR N + 1) := by rw [nRoll_4, h.1.2.2.1, qI_succ]
        have kk : ∀ k, k ≠ 4 → k ≠ 93 + 12 * u → (k < 54 + 3 * cR N ∨ 57 + 3 * cR N ≤ k) → upd (nRoll N (grR N u) (nI (aRemW N u)) (N (91 + 12 * u))) (93 + 12 * u) (N 4) k = N k := fun k h1 h2 h3 => (upd_ne h2).trans (nRoll_ne h1 h3)
        have k4 : upd (nRoll N (grR N u) (nI (aRemW N u)) (N (91 + 12 * u))) (93 + 12 * u) (N 4) 4 = nI (cR N + 1) := (upd_ne (by omega)).trans e4
        have kg : upd (nRoll N (grR N u) (nI (aRemW N u)) (N (91 + 12 * u))) (93 + 12 * u) (N 4) (54 + 3 * cR N) = nI (nv N (54 + 3 * nv N (90 + 12 * u))) := (upd_ne (by omega)).trans (nRoll_g.trans hg1)
        have kw : upd (nRoll N (grR N u) (nI (aRemW N u)) (N (91 + 12 * u))) (93 + 12 * u) (N 4) (55 + 3 * cR N) = nI (aRemW N u) := (upd_ne (by omega)).trans nRoll_w
        have kl : upd (nRoll N (grR N u) (nI (aRemW N u)) (N (91 + 12 * u))) (93 + 12 * u) (N 4) (56 + 3 * cR N) = nI (nv N (91 + 12 * u)) := (upd_ne (by omega)).trans (nRoll_l.trans hl1)
        have kn : upd (nRoll N (grR N u) (nI (aRemW N u)) (N (91 + 12 * u))) (93 + 12 * u) (N 4) (93 + 12 * u) = nI (cR N) := upd_same.trans h.1.2.2.1
        generalize upd (nRoll N (grR N u) (nI (aRemW N u)) (N (91 + 12 * u))) (93 + 12 * u) (N 4) = M at *
        show WF M
        refine WF_more h (wSet_c (fun k hk => kk k (by omega) (by omega) (by omega)) h.2.1) ⟨cO N, by rw [kk 3 (by omega) (by omega) (by omega)]; exact h.1.1, Nat.le_refl _, hO⟩ ⟨cR N + 1, k4, by omega, by omega⟩ (kk 5 (by omega) (by omega) (by omega)) (fun k _ _ => kk k (by omega) (by omega) (by omega)) (fun o ho ho2 => ?_) (fun k _ _ => kk k (by omega) (by omega) (by omega)) (fun r hr hr2 => ?_) (fun v i hv hi h3 => kk _ (by omega) (by omega) (by omega)) (fun v hv => ?_) (fun v w hv hw e1 e2 => ?_)
        · rw [cO_c (kk 3 (by omega) (by omega) (by omega))] at ho2
          omega
        · rw [cR_n k4 (by omega)] at hr2
          obtain rfl : r = cR N := by omega
          exact ⟨ok_n kg (by omega) hg3 (by omega), ok_n kw hw10 hw300 (by omega), ok_n kl hl2 hl3 (by omega)⟩
        · by_cases gv : v = u
          · subst gv
            refine Or.inr ⟨kn, Or.inr ?_⟩
            have n93 : nv M (93 + 12 * v) = cR N := nv_n kn (by omega)
            rw [n93]
            have eu : usd M v = usd N v := by
              refine sumN_congr _ (fun o ho => ?_)
              rw [nv_c (kk (94 + 12 * v + o) (by omega) (by omega) (by omega)), nv_c (kk (7 + 6 * o) (by omega) (by omega) (by omega))]
            have e90 : nv M (90 + 12 * v) = nv N (90 + 12 * v) := nv_c (kk (90 + 12 * v) (by omega) (by omega) (by omega))
            have ew : rW M v = rW N v := by
              unfold rW
              rw [e90, nv_c (kk (55 + 3 * nv N (90 + 12 * v)) (by omega) (by omega) (by omega))]
            refine ⟨kn, by rw [cR_n k4 (by omega)]; omega, ?_, ?_⟩
            · rw [nv_n kw (by omega), nv_c (kk (92 + 12 * v) (by omega) (by omega) (by omega)), eu, ew]
              unfold aRemW aRest
              unfold aRest at hre
              omega
            · rw [nv_n kl (by omega), nv_c (kk (91 + 12 * v) (by omega) (by omega) (by omega))]
          · exact Or.inl (kk _ (by omega) (by omega) (by omega))
        · have old : ∀ w, w < cU N → M (93 + 12 * w) = nI (cR N) → w = u := by
            intro w hw2 e
            by_cases gw : w = u
            · exact gw
            · rw [kk _ (by omega) (by omega) (by omega)] at e
              rcases (h.2.2.2.2.1 w hw2).2.2.2.2.2 with q | ⟨q1, q2, -⟩
              · rw [q] at e
                exact absurd e.symm (nI_ne_m5 (by omega))
              · rw [q1, qI_eq (by omega) (by omega)] at e
                omega
          rw [old v hv e1, old w hw e2]
  · rw [if_neg g]; exact h
variable {d : Nat} {S : bSt}
theorem c_split (hd : 2 ≤ d) (hw : WF (S 41 0 0)) {c : Nat} (hc : c ≤ 8) (h2 : S 40 0 0 2 = nI c) {x1 x2 : Int32} : Wm d 203 [vR 40 0 0, vI x1, vI x2] S (fun q S' => q = some (vI (aSplt (S 41 0 0) x1 x2).1) ∧ Dn c S S' (aSplt (S 41 0 0) x1 x2).1 (aSplt (S 41 0 0) x1 x2).2) := by
  refine EW_203 ?_
  refine (B_203_0 (by omega) (c_isRun (by omega))).mpr ?_
  unfold aSplt vU
  rw [inR_tf]
  refine icb (fun g => ?_) (fun g => ?_)
  · refine (B_203_8).mpr ?_
    rw [if_neg (by rw [g]; decide)]
    exact ⟨rfl, Dn_no (r := -1) h2 (by decide)⟩
  obtain ⟨u, rfl, hu, h16⟩ := vU_ix hw.1 g
  rw [if_pos g, nI_clamp (by omega)]
  refine (B_203_10).mpr ?_
  refine ic (fun g1 => ?_) (fun g1 => ?_)
  · refine (B_203_25).mpr ?_
    rw [if_pos (Or.inl g1)]
    exact ⟨rfl, Dn_no (r := -2) h2 (by decide)⟩
  refine (B_203_15 (by omega) (c_u (n := 91 + 12 * u) (by first | rfl | (simp only [qI_add, qI_mul, qI_lits]; done) | (simp only [qI_add, qI_mul, qI_lits]; grind)) (by omega))).mpr ?_
  rotate_left
  refine ic (fun g2 => ?_) (fun g2 => ?_)
  · rw [if_neg (fun q => by rcases q with q | q; exact g1 q; exact q g2)]
    refine (B_203_28 (by omega) (c_u (n := 93 + 12 * u) (by first | rfl | (simp only [qI_add, qI_mul, qI_lits]; done) | (simp only [qI_add, qI_mul, qI_lits]; grind)) (by omega))).mpr ?_
    rotate_left
    refine ic (fun g3 => ?_) (fun g3 => ?_)
    · rw [if_pos g3]
      refine (B_203_42).mpr ?_
      refine ic (fun g4 => ?_) (fun g4 => ?_)
      · refine (B_203_53).mpr ?_
        rw [if_pos g4]
        exact ⟨rfl, Dn_no (r := -3) h2 (by decide)⟩
      rw [if_neg g4]
      have h5 := hw.1.2.2.2.2.1
      have hlt : cU (S 41 0 0) < 16 := by
        rcases Nat.lt_or_ge (cU (S 41 0 0)) 16 with q | q
        · exact q
        · have := hw.1.2.2.2.2.2
          exact absurd (by rw [h5, show cU (S 41 0 0) = 16 by omega]; rfl) g4
      have h40 : sRow S 44 0 0 282 (S 41 0 0) 40 0 0 2 = nI c := by rw [sRow_k _ _ (by decide)]; exact h2
      refine (B_203_56 (by omega) c_keepBefore (c_remember hc h40)).mpr ?_
      have hD := Dn_kr (S := S) hc h2 (r := nI u + 1) (by rw [qI_succ]; exact nI_n0 (by omega))
      have e41 := sRem_41 (T := S) hc
      generalize sRem (sRow S 44 0 0 282 (S 41 0 0)) c = T at *
      rw [e41, h5]
      let F : Nat → NV := fun n k => if 102 + 12 * cU (S 41 0 0) - n ≤ k ∧ k < 102 + 12 * cU (S 41 0 0) then S 41 0 0 (k - 12) else S 41 0 0 k
      have eT : T = sN T (F 0) := by
        have : F 0 = T 41 0 0 := by
          funext k
          show (if _ then _ else _) = _
          rw [if_neg (by omega), e41]
        rw [this, sN_id]
      rw [eT, show (90 : Int32) + 12 * nI (cU (S 41 0 0)) - 1 = nI (89 + 12 * cU (S 41 0 0) - 0) from (by rw [Nat.sub_zero]; simp only [qI_add, qI_mul, show nI 89 = 89 from rfl, qI_lits]; grind)]
      refine wloop (12 * (cU (S 41 0 0) - u)) (fun m => [some (vR 40 0 0), some (vI (nI u)), some (vI x2), some (vI (nI (89 + 12 * cU (S 41 0 0) - m)))]) (fun m => sN T (F m)) ?_ ?_
      · refine (B_203_79).mpr ?_
        rw [if_pos (by rw [show (90 : Int32) = nI 90 from rfl, show (12 : Int32) = nI 12 from rfl, ← qI_mul, ← qI_add, qI_lt (by omega) (by omega)]; omega)]
        refine (B_203_111 (n1_ := 91 + 12 * (u + 1)) (n2_ := 91 + 12 * u) (by first | rfl | (simp only [qI_add, qI_mul, qI_lits]; done) | (simp only [qI_add, qI_mul, qI_lits]; grind)) (by omega) (by first | rfl | (simp only [qI_add, qI_mul, qI_lits]; done) | (simp only [qI_add, qI_mul, qI_lits]; grind)) (by omega)).mpr ?_
        rw [sUp_sN, sN_41, sN_41, sUp_sN, sUp_sN]
        refine ⟨rfl, ?_⟩
        have en : upd (upd (upd (F (12 * (cU (S 41 0 0) - u))) 5 (F (12 * (cU (S 41 0 0) - u)) 5 + 1)) (91 + 12 * (u + 1)) (upd (F (12 * (cU (S 41 0 0) - u))) 5 (F (12 * (cU (S 41 0 0) - u)) 5 + 1) (91 + 12 * (u + 1)) - x2)) (91 + 12 * u) x2 = nSpl (S 41 0 0) u x2 := by
          have f5 : F (12 * (cU (S 41 0 0) - u)) 5 = S 41 0 0 5 := by
            show (if _ then _ else _) = _
            rw [if_neg (by omega)]
          rw [f5]
          funext k
          unfold upd nSpl
          by_cases k1 : k = 91 + 12 * u
          · rw [if_pos k1, if_neg (by omega), if_pos k1]
          rw [if_neg k1]
          by_cases k2 : k = 91 + 12 * (u + 1)
          · rw [if_pos k2, if_neg (show ¬ 91 + 12 * (u + 1) = 5 from by omega), if_neg (show ¬ k = 5 from by omega), if_neg k1, if_pos (show k = 103 + 12 * u from by omega)]
            show (if _ then _ else _) - _ = _
            rw [if_pos (by omega)]
            congr 2
          rw [if_neg k2]
          by_cases k5 : k = 5
          · rw [if_pos k5, if_pos k5]
          rw [if_neg k5, if_neg k5, if_neg k1, if_neg (show ¬ k = 103 + 12 * u from by omega)]
          show (if _ then _ else _) = _
          by_cases k3 : 102 + 12 * u ≤ k ∧ k < 102 + 12 * cU (S 41 0 0)
          · rw [if_pos k3, if_pos (by omega)]
          · rw [if_neg k3, if_neg (by omega)]
        rw [en]
        exact Dn_sN hD Iff.rfl
      · intro m hm hn
        refine (B_203_79).mpr ?_
        rw [if_neg (by rw [show (90 : Int32) = nI 90 from rfl, show (12 : Int32) = nI 12 from rfl, ← qI_mul, ← qI_add, qI_lt (by omega) (by omega)]; omega)]
        refine (B_203_90 (n1_ := 89 + 12 * cU (S 41 0 0) - m) (n2_ := 89 + 12 * cU (S 41 0 0) - m + 12) rfl (by omega) (by first | rfl | (simp only [qI_add, qI_mul, qI_lits]; done) | (simp only [qI_add, qI_mul, qI_lits]; grind)) (by omega)).mpr ?_
        rw [sUp_sN, sN_41]
        have e : upd (F m) (89 + 12 * cU (S 41 0 0) - m + 12) (F m (89 + 12 * cU (S 41 0 0) - m)) = F (m + 1) := by
          funext k
          unfold upd
          show (if _ then (if _ then _ else _) else (if _ then _ else _)) = (if _ then _ else _)
          by_cases k1 : k = 89 + 12 * cU (S 41 0 0) - m + 12
          · rw [if_pos k1, if_neg (by omega), if_pos (by omega), k1]
            congr 1
          · rw [if_neg k1]
            by_cases k2 : 102 + 12 * cU (S 41 0 0) - m ≤ k ∧ k < 102 + 12 * cU (S 41 0 0)
            · rw [if_pos k2, if_pos (by omega)]
            · rw [if_neg k2, if_neg (by omega)]
        rw [e, show nI (89 + 12 * cU (S 41 0 0) - m) + (-1 : Int32) = nI (89 + 12 * cU (S 41 0 0) - (m + 1)) from by rw [show 89 + 12 * cU (S 41 0 0) - (m + 1) = 89 + 12 * cU (S 41 0 0) - m - 1 by omega, ← qI_test3 _ (by omega)]; grind]
        exact hn
    rw [if_neg g3]
    refine (B_203_39).mpr ?_
    exact ⟨rfl, Dn_no (r := -4) h2 (by decide)⟩
  refine (B_203_25).mpr ?_
  rw [if_pos (Or.inr g2)]
  exact ⟨rfl, Dn_no (r := -2) h2 (by decide)⟩
theorem c_keep (hd : 5 ≤ d) (hw : WF (S 41 0 0)) {c : Nat} (hc : c ≤ 8) (h2 : S 40 0 0 2 = nI c) {x1 : Int32} : Wm d 226 [vR 40 0 0, vI x1] S (fun q S' => q = some (vI (aKeep (S 41 0 0) x1).1) ∧ Dn c S S' (aKeep (S 41 0 0) x1).1 (aKeep (S 41 0 0) x1).2) := by
  refine EW_226 ?_
  refine (B_226_0 (by omega) (c_isRun (by omega))).mpr ?_
  unfold aKeep vU
  rw [inR_tf]
  refine icb (fun g => ?_) (fun g => ?_)
  · refine (B_226_8).mpr ?_
    rw [if_neg (by rw [g]; decide)]
    exact ⟨rfl, Dn_no (r := -1) h2 (by decide)⟩
  obtain ⟨u, rfl, hu, h16⟩ := vU_ix hw.1 g
  rw [if_pos g, nI_clamp (by omega)]
  refine (B_226_10 (by omega) (c_u (n := 93 + 12 * u) (by first | rfl | (simp only [qI_add, qI_mul, qI_lits]; done) | (simp only [qI_add, qI_mul, qI_lits]; grind)) (by omega))).mpr ?_
  rotate_left
  refine ic (fun g1 => ?_) (fun g1 => ?_)
  · refine (B_226_21 (by omega) (c_remnantWidth (by omega) hw hu)).mpr ?_
    rotate_left
    refine ic (fun g2 => ?_) (fun g2 => ?_)
    · rw [if_neg (fun q => by rcases q with q | q; exact q g1; exact Int32.not_lt.mpr g2 q)]
      refine (B_226_38).mpr ?_
      refine ic (fun g3 => ?_) (fun g3 => ?_)
      · refine (B_226_49).mpr ?_
        rw [if_pos g3]
        exact ⟨rfl, Dn_no (r := -3) h2 (by decide)⟩
      rw [if_neg g3]
      have h4 := hw.1.2.2.1
      have hlt : cR (S 41 0 0) < 12 := by
        rcases Nat.lt_or_ge (cR (S 41 0 0)) 12 with q | q
        · exact q
        · have := hw.1.2.2.2.1
          exact absurd (by rw [h4, show cR (S 41 0 0) = 12 by omega]; rfl) g3
      have h40 : sRow S 44 0 0 282 (S 41 0 0) 40 0 0 2 = nI c := by rw [sRow_k _ _ (by decide)]; exact h2
      have hD := Dn_kr (S := S) hc h2 (r := S 41 0 0 4) (by rw [h4]; exact nI_n0 (by omega))
      have e41 := sRem_41 (T := S) hc
      have hrem := c_remember (d := d - 1) hc h40
      generalize sRem (sRow S 44 0 0 282 (S 41 0 0)) c = T at *
      obtain ⟨-, e0, -, hr12, -⟩ := wf_run hw hu
      have cr := c_r (d := d - 1) (S := T) (x1 := S 41 0 0 (90 + 12 * u)) (x2 := 0) (n := 54 + 3 * nv (S 41 0 0) (90 + 12 * u)) (by rw [e0]; exact (by first | rfl | (simp only [qI_add, qI_mul, qI_lits]; done) | (simp only [qI_add, qI_mul, qI_lits]; grind))) (by omega)
      rw [e41] at cr
      have cu := c_u (d := d - 1) (S := T) (x1 := nI u) (x2 := 0) (n := 90 + 12 * u) (by first | rfl | (simp only [qI_add, qI_mul, qI_lits]; done) | (simp only [qI_add, qI_mul, qI_lits]; grind)) (by omega)
      have cu1 := c_u (d := d - 1) (S := T) (x1 := nI u) (x2 := 1) (n := 91 + 12 * u) (by first | rfl | (simp only [qI_add, qI_mul, qI_lits]; done) | (simp only [qI_add, qI_mul, qI_lits]; grind)) (by omega)
      have cw := c_remnantWidth (d := d - 1) (S := T) (by omega) (by rw [e41]; exact hw) (u := u) (by rw [e41]; exact hu)
      have cc := c_comesRoll (d := d - 1) (S := T) (by rw [e41]; exact h4) (by rw [e41]; exact hlt) (x1 := grR (S 41 0 0) u) (x2 := nI (aRemW (S 41 0 0) u)) (x3 := S 41 0 0 (91 + 12 * u))
      rw [e41] at cu cu1 cw cc
      refine (B_226_52 (n1_ := 93 + 12 * u) (by omega) c_keepBefore hrem cu cr cw cu1 cc (by first | rfl | (simp only [qI_add, qI_mul, qI_lits]; done) | (simp only [qI_add, qI_mul, qI_lits]; grind)) (by omega)).mpr ?_
      rw [sUp_sN]
      exact ⟨rfl, Dn_sN hD Iff.rfl⟩
    refine (B_226_35).mpr ?_
    rw [if_pos (Or.inr (Int32.not_le.mp g2))]
    exact ⟨rfl, Dn_no (r := -4) h2 (by decide)⟩
  refine (B_226_35).mpr ?_
  rw [if_pos (Or.inl g1)]
  exact ⟨rfl, Dn_no (r := -4) h2 (by decide)⟩
end M15d
