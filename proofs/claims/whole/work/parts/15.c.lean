/-! THE MODEL's methods, 11: remove, swap, split, write -/
section M15c
def nRem (N : NV) (u : Nat) : NV := fun k => if k = 5 then N 5 - 1 else if 90 + 12 * u ≤ k ∧ k < 90 + 12 * (cU N - 1) then N (k + 12) else N k
def nSw (N : NV) (a b : Nat) : NV := fun k => if 90 + 12 * a ≤ k ∧ k < 102 + 12 * a then N (k - 12 * a + 12 * b) else if 90 + 12 * b ≤ k ∧ k < 102 + 12 * b then N (k - 12 * b + 12 * a) else N k
def nSpl (N : NV) (u : Nat) (l : Int32) : NV := fun k => if k = 5 then N 5 + 1 else if k = 91 + 12 * u then l else if k = 103 + 12 * u then N (91 + 12 * u) - l else if 102 + 12 * u ≤ k ∧ k < 102 + 12 * cU N then N (k - 12) else N k
def aRemv (N : NV) (x1 : Int32) : Int32 × NV := if vU N x1 = true then (if N (93 + 12 * x1.toNatClampNeg) = -5 then (N 5 - 1, nRem N x1.toNatClampNeg) else (-4, N)) else (-1, N)
def aSwap (N : NV) (x1 x2 : Int32) : Int32 × NV := if vU N x1 = true ∧ vU N x2 = true then (nI (aSets (nSw N x1.toNatClampNeg x2.toNatClampNeg)), nSw N x1.toNatClampNeg x2.toNatClampNeg) else (-1, N)
def aSplt (N : NV) (x1 x2 : Int32) : Int32 × NV := if vU N x1 = true then (if x2 < 1 ∨ ¬ x2 < N (91 + 12 * x1.toNatClampNeg) then (-2, N) else if N (93 + 12 * x1.toNatClampNeg) = -5 then (if N 5 = 16 then (-3, N) else (x1 + 1, nSpl N x1.toNatClampNeg x2)) else (-4, N)) else (-1, N)
theorem nSw_5 {N : NV} {a b k : Nat} (h : k < 90) : nSw N a b k = N k := by
  unfold nSw
  rw [if_neg (by omega), if_neg (by omega)]
theorem nSw_run {N : NV} {a b u i : Nat} (hi : i < 12) : nSw N a b (90 + 12 * u + i) = N (90 + 12 * (if u = a then b else if u = b then a else u) + i) := by
  unfold nSw
  by_cases h1 : u = a
  · subst h1
    rw [if_pos rfl, if_pos (by omega)]
    congr 1
    omega
  · rw [if_neg h1, if_neg (by omega)]
    by_cases h2 : u = b
    · subst h2
      rw [if_pos rfl, if_pos (by omega)]
      congr 1
      omega
    · rw [if_neg h2, if_neg (by omega)]
theorem nRem_lo {N : NV} {u k : Nat} (h : k < 90) (h5 : k ≠ 5) : nRem N u k = N k := by
  unfold nRem
  rw [if_neg h5, if_neg (by omega)]
theorem nRem_run {N : NV} {u v i : Nat} (hi : i < 12) (hv : v < cU N - 1) : nRem N u (90 + 12 * v + i) = N (90 + 12 * (if v < u then v else v + 1) + i) := by
  unfold nRem
  rw [if_neg (by omega)]
  by_cases h1 : v < u
  · rw [if_pos h1, if_neg (by omega)]
  · rw [if_neg h1, if_pos (by omega)]
    congr 1
    omega
theorem nSpl_lo {N : NV} {u k : Nat} {l : Int32} (h : k < 90) (h5 : k ≠ 5) : nSpl N u l k = N k := by
  unfold nSpl
  rw [if_neg h5, if_neg (by omega), if_neg (by omega), if_neg (by omega)]
theorem nSpl_run {N : NV} {u v i : Nat} {l : Int32} (hi : i < 12) (hv : v < cU N + 1) (h1 : i = 1 → v ≠ u ∧ v ≠ u + 1) : nSpl N u l (90 + 12 * v + i) = N (90 + 12 * (if v ≤ u then v else v - 1) + i) := by
  unfold nSpl
  rw [if_neg (by omega), if_neg (by omega), if_neg (by omega)]
  by_cases h1 : v ≤ u
  · rw [if_pos h1, if_neg (by omega)]
  · rw [if_neg h1, if_pos (by omega)]
    congr 1
    omega
theorem nSpl_l1 {N : NV} {u : Nat} {l : Int32} : nSpl N u l (91 + 12 * u) = l := by
  unfold nSpl
  rw [if_neg (by omega), if_pos rfl]
theorem nSpl_l2 {N : NV} {u : Nat} {l : Int32} : nSpl N u l (91 + 12 * (u + 1)) = N (91 + 12 * u) - l := by
  unfold nSpl
  rw [if_neg (by omega), if_neg (by omega), if_pos (by omega)]
/-- the runs in another order, or some of them -/
theorem WF_perm {N N' : NV} (h : WF N) (hk : ∀ k, k < 90 → k ≠ 5 → N' k = N k) {c : Nat} (h5 : N' 5 = nI c) (hc : c ≤ 16) (f : Nat → Nat) (hf : ∀ u, u < c → f u < cU N) (hr : ∀ u i, u < c → i < 12 → N' (90 + 12 * u + i) = N (90 + 12 * f u + i)) (hi : ∀ u v, u < c → v < c → f u = f v → u = v) : WF N' := by
  have e3 : N' 3 = N 3 := hk 3 (by omega) (by omega)
  have e4 : N' 4 = N 4 := hk 4 (by omega) (by omega)
  have r93 : ∀ u, u < c → N' (93 + 12 * u) = N (93 + 12 * f u) := by
    intro u hu
    have := hr u 3 hu (by omega)
    rw [show 90 + 12 * u + 3 = 93 + 12 * u by omega, show 90 + 12 * f u + 3 = 93 + 12 * f u by omega] at this
    exact this
  have r91 : ∀ u, u < c → N' (91 + 12 * u) = N (91 + 12 * f u) := by
    intro u hu
    have := hr u 1 hu (by omega)
    rw [show 90 + 12 * u + 1 = 91 + 12 * u by omega, show 90 + 12 * f u + 1 = 91 + 12 * f u by omega] at this
    exact this
  have r92 : ∀ u, u < c → N' (92 + 12 * u) = N (92 + 12 * f u) := by
    intro u hu
    have := hr u 2 hu (by omega)
    rw [show 90 + 12 * u + 2 = 92 + 12 * u by omega, show 90 + 12 * f u + 2 = 92 + 12 * f u by omega] at this
    exact this
  refine WF_runs h hk h5 hc (fun u hu => ?_) (fun u v hu hv hne he => ?_)
  · have hw := h.2.2.2.2.1 (f u) (hf u hu)
    have hO := h.1.2.1
    have hR := h.1.2.2.2.1
    refine wRun_c (v := f u) (by rw [cO_c e3]; exact Nat.le_refl _) (by rw [cR_c e4]; exact Nat.le_refl _) (fun o ho => hk _ (by omega) (by omega)) (fun r hr => ⟨hk _ (by omega) (by omega), hk _ (by omega) (by omega)⟩) (hr u 0 hu (by omega)) (ok_c (r91 u hu) hw.2.1) (r92 u hu) (fun o ho => ?_) (Or.inl ⟨r93 u hu, Or.inr (r91 u hu)⟩) hw
    have := hr u (4 + o) hu (by omega)
    rw [show 90 + 12 * u + (4 + o) = 94 + 12 * u + o by omega, show 90 + 12 * f u + (4 + o) = 94 + 12 * f u + o by omega] at this
    exact this
  · rw [r93 u hu] at hne he
    rw [r93 v hv] at he
    exact hi u v hu hv (h.2.2.2.2.2 _ _ (hf u hu) (hf v hv) hne he)
theorem WF_nSw {N : NV} (h : WF N) {a b : Nat} (ha : a < cU N) (hb : b < cU N) : WF (nSw N a b) := by
  refine WF_perm h (fun k hk _ => nSw_5 hk) (c := cU N) (by rw [nSw_5 (by omega)]; exact h.1.2.2.2.2.1) h.1.2.2.2.2.2 (fun u => if u = a then b else if u = b then a else u) (fun u hu => ?_) (fun u i _ hi => nSw_run hi) (fun u v hu hv he => ?_)
  · split
    · exact hb
    · split
      · exact ha
      · exact hu
  · split at he <;> split at he <;> (try split at he) <;> (try split at he) <;> omega
theorem WF_nRem {N : NV} (h : WF N) {u : Nat} (hu : u < cU N) : WF (nRem N u) := by
  have h16 := h.1.2.2.2.2.2
  refine WF_perm h (fun k hk h5 => nRem_lo hk h5) (c := cU N - 1) ?_ (by omega) (fun v => if v < u then v else v + 1) (fun v hv => by split <;> omega) (fun v i hv hi => nRem_run hi hv) (fun v w hv hw he => ?_)
  · unfold nRem
    rw [if_pos rfl, h.1.2.2.2.2.1]
    rw [show cU N = cU N from rfl]
    exact qI_sub (b := 1) (by omega)
  · split at he <;> split at he <;> omega
theorem WF_nSpl {N : NV} (h : WF N) {u l : Nat} (hu : u < cU N) (h16 : cU N < 16) (hl : 1 ≤ l) (hl2 : l < nv N (91 + 12 * u)) (hk : N (93 + 12 * u) = -5) : WF (nSpl N u (nI l)) := by
  have hcO := h.1.2.1
  have hcR := h.1.2.2.2.1
  have h5 : nSpl N u (nI l) 5 = nI (cU N + 1) := by
    unfold nSpl
    rw [if_pos rfl, h.1.2.2.2.2.1, qI_succ]
  have rr : ∀ v i, i < 12 → v < cU N + 1 → i ≠ 1 → nSpl N u (nI l) (90 + 12 * v + i) = N (90 + 12 * (if v ≤ u then v else v - 1) + i) := fun v i hi hv h1 => nSpl_run hi hv (fun q => absurd q h1)
  have r93 : ∀ v, v < cU N + 1 → nSpl N u (nI l) (93 + 12 * v) = N (93 + 12 * (if v ≤ u then v else v - 1)) := by
    intro v hv
    have := rr v 3 (by omega) hv (by omega)
    rw [show 90 + 12 * v + 3 = 93 + 12 * v by omega, show 90 + 12 * (if v ≤ u then v else v - 1) + 3 = 93 + 12 * (if v ≤ u then v else v - 1) by omega] at this
    exact this
  have r92 : ∀ v, v < cU N + 1 → nSpl N u (nI l) (92 + 12 * v) = N (92 + 12 * (if v ≤ u then v else v - 1)) := by
    intro v hv
    have := rr v 2 (by omega) hv (by omega)
    rw [show 90 + 12 * v + 2 = 92 + 12 * v by omega, show 90 + 12 * (if v ≤ u then v else v - 1) + 2 = 92 + 12 * (if v ≤ u then v else v - 1) by omega] at this
    exact this
  have r91 : ∀ v, v < cU N + 1 → v ≠ u → v ≠ u + 1 → nSpl N u (nI l) (91 + 12 * v) = N (91 + 12 * (if v ≤ u then v else v - 1)) := by
    intro v hv g1 g2
    have := nSpl_run (N := N) (u := u) (v := v) (i := 1) (l := nI l) (by omega) hv (fun _ => ⟨g1, g2⟩)
    rw [show 90 + 12 * v + 1 = 91 + 12 * v by omega, show 90 + 12 * (if v ≤ u then v else v - 1) + 1 = 91 + 12 * (if v ≤ u then v else v - 1) by omega] at this
    exact this
  obtain ⟨hlk, -, hl3⟩ := (h.2.2.2.2.1 u hu).2.1
  refine WF_runs h (fun k hk h5 => nSpl_lo hk h5) h5 (by omega) (fun v hv => ?_) (fun v w hv hw hne he => ?_)
  · have hf : (if v ≤ u then v else v - 1) < cU N := by split <;> omega
    have hw := h.2.2.2.2.1 _ hf
    have e91 : ok (nSpl N u (nI l)) (91 + 12 * v) 1 999 := by
      by_cases g1 : v = u
      · subst g1
        exact ok_n nSpl_l1 hl (by omega) (by omega)
      · by_cases g2 : v = u + 1
        · subst g2
          exact ok_n (n := nv N (91 + 12 * u) - l) (by rw [nSpl_l2, hlk]; exact qI_sub (by omega)) (by omega) (by omega) (by omega)
        · exact ok_c (r91 v hv g1 g2) hw.2.1
    refine wRun_c (v := if v ≤ u then v else v - 1) (by rw [cO_c (N := N) (nSpl_lo (by omega) (by omega))]; exact Nat.le_refl _) (by rw [cR_c (N := N) (nSpl_lo (by omega) (by omega))]; exact Nat.le_refl _) (fun o ho => nSpl_lo (by omega) (by omega)) (fun r hr => ⟨nSpl_lo (by omega) (by omega), nSpl_lo (by omega) (by omega)⟩) (rr v 0 (by omega) hv (by omega)) e91 (r92 v hv) (fun o ho => ?_) (Or.inl ⟨r93 v hv, ?_⟩) hw
    · have := rr v (4 + o) (by omega) hv (by omega)
      rw [show 90 + 12 * v + (4 + o) = 94 + 12 * v + o by omega, show 90 + 12 * (if v ≤ u then v else v - 1) + (4 + o) = 94 + 12 * (if v ≤ u then v else v - 1) + o by omega] at this
      exact this
    · by_cases g1 : v = u
      · subst g1
        rw [if_pos (Nat.le_refl _)]
        exact Or.inl hk
      · by_cases g2 : v = u + 1
        · subst g2
          rw [if_neg (by omega), Nat.add_sub_cancel]
          exact Or.inl hk
        · exact Or.inr (r91 v hv g1 g2)
  · rw [r93 v hv] at hne he
    rw [r93 w hw] at he
    have := h.2.2.2.2.2 _ _ (by split <;> omega) (by split <;> omega) hne he
    by_cases g1 : v = u ∨ v = u + 1
    · exfalso
      apply hne
      rw [show (if v ≤ u then v else v - 1) = u by split <;> omega]
      exact hk
    · by_cases g2 : w = u ∨ w = u + 1
      · exfalso
        apply hne
        rw [this, show (if w ≤ u then w else w - 1) = u by split <;> omega]
        exact hk
      · split at this <;> split at this <;> omega
theorem WF_aRemv {N : NV} (h : WF N) (x : Int32) : WF (aRemv N x).2 := by
  unfold aRemv
  by_cases g : vU N x = true
  · obtain ⟨u, rfl, hu, hu16⟩ := vU_ix h.1 g
    rw [if_pos g, nI_clamp (by omega)]
    by_cases g2 : N (93 + 12 * u) = -5
    · rw [if_pos g2]; exact WF_nRem h hu
    · rw [if_neg g2]; exact h
  · rw [if_neg g]; exact h
theorem WF_aSwap {N : NV} (h : WF N) (x y : Int32) : WF (aSwap N x y).2 := by
  unfold aSwap
  by_cases g : vU N x = true ∧ vU N y = true
  · obtain ⟨u, rfl, hu, hu16⟩ := vU_ix h.1 g.1
    obtain ⟨v, rfl, hv, hv16⟩ := vU_ix h.1 g.2
    rw [if_pos g, nI_clamp (by omega), nI_clamp (by omega)]
    exact WF_nSw h hu hv
  · rw [if_neg g]; exact h
theorem WF_aSplt {N : NV} (h : WF N) (x y : Int32) : WF (aSplt N x y).2 := by
  unfold aSplt
  by_cases g : vU N x = true
  · obtain ⟨u, rfl, hu, hu16⟩ := vU_ix h.1 g
    rw [if_pos g, nI_clamp (by omega)]
    by_cases g1 : y < 1 ∨ ¬ y < N (91 + 12 * u)
    · rw [if_pos g1]; exact h
    · rw [if_neg g1]
      by_cases g2 : N (93 + 12 * u) = -5
      · rw [if_pos g2]
        by_cases g3 : N 5 = 16
        · rw [if_pos g3]; exact h
        · rw [if_neg g3]
          have h1 : ¬ y < 1 := fun q => g1 (Or.inl q)
          have h2 : y < N (91 + 12 * u) := by
            rcases Decidable.em (y < N (91 + 12 * u)) with q | q
            · exact q
            · exact absurd (Or.inr q) g1
          obtain ⟨hlk, -, hl3⟩ := (h.2.2.2.2.1 u hu).2.1
          have h1' : (1 : Int32) ≤ y := Int32.not_lt.mp h1
          have hy := nn_of (x := y) (Int32.le_trans (by decide) h1')
          have hyl : y.toNatClampNeg < 2 ^ 31 := by
            have := y.toInt_lt
            have e2 : y.toNatClampNeg = y.toInt.toNat := rfl
            omega
          rw [hy] at h1' h2 ⊢
          rw [hlk, qI_lt hyl (by omega)] at h2
          rw [show (1 : Int32) = nI 1 from rfl, qI_le (by omega) hyl] at h1'
          refine WF_nSpl h hu ?_ h1' h2 g2
          rcases Nat.lt_or_ge (cU N) 16 with q | q
          · exact q
          · have := h.1.2.2.2.2.2
            exact absurd (by rw [h.1.2.2.2.2.1, show cU N = 16 by omega]; rfl) g3
      · rw [if_neg g2]; exact h
  · rw [if_neg g]; exact h
variable {d : Nat} {S : bSt}
theorem sRem_41 {T : bSt} {c : Nat} (hc : c ≤ 8) : sRem (sRow T 44 0 0 282 (T 41 0 0)) c 41 0 0 = T 41 0 0 := by
  rw [(sRem_facts hc).2.1, sRow_k _ _ (by decide)]
theorem c_remove (hd : 2 ≤ d) (hw : WF (S 41 0 0)) {c : Nat} (hc : c ≤ 8) (h2 : S 40 0 0 2 = nI c) {x1 : Int32} : Wm d 200 [vR 40 0 0, vI x1] S (fun q S' => q = some (vI (aRemv (S 41 0 0) x1).1) ∧ Dn c S S' (aRemv (S 41 0 0) x1).1 (aRemv (S 41 0 0) x1).2) := by
  refine EW_200 ?_
  refine (B_200_0 (by omega) (c_isRun (by omega))).mpr ?_
  unfold aRemv vU
  rw [inR_tf]
  refine icb (fun g => ?_) (fun g => ?_)
  · refine (B_200_8).mpr ?_
    rw [if_neg (by rw [g]; decide)]
    exact ⟨rfl, Dn_no (r := -1) h2 (by decide)⟩
  obtain ⟨u, rfl, hu, h16⟩ := vU_ix hw.1 g
  rw [if_pos g, nI_clamp (by omega)]
  refine (B_200_10 (by omega) (c_u (n := 93 + 12 * u) (by first | rfl | (simp only [qI_add, qI_mul, qI_lits]; done) | (simp only [qI_add, qI_mul, qI_lits]; grind)) (by omega))).mpr ?_
  rotate_left
  refine ic (fun g2 => ?_) (fun g2 => ?_)
  · have h5 := hw.1.2.2.2.2.1
    have h16c := hw.1.2.2.2.2.2
    rw [if_pos g2]
    have hpos : S 41 0 0 5 - 1 = nI (cU (S 41 0 0) - 1) := by rw [h5]; exact qI_sub (b := 1) (by omega)
    have h40 : sRow S 44 0 0 282 (S 41 0 0) 40 0 0 2 = nI c := by rw [sRow_k _ _ (by decide)]; exact h2
    refine (B_200_24 (by omega) c_keepBefore (c_remember hc h40)).mpr ?_
    have hD := Dn_kr (S := S) hc h2 (r := S 41 0 0 5 - 1) (by rw [hpos]; exact nI_n0 (by omega))
    have e41 := sRem_41 (T := S) hc
    generalize sRem (sRow S 44 0 0 282 (S 41 0 0)) c = T at *
    let F : Nat → NV := fun n k => if 90 + 12 * u ≤ k ∧ k < 90 + 12 * u + n then S 41 0 0 (k + 12) else S 41 0 0 k
    have eT : T = sN T (F 0) := by
      have : F 0 = T 41 0 0 := by
        funext k
        show (if _ then _ else _) = _
        rw [if_neg (by omega), e41]
      rw [this, sN_id]
    rw [eT, show (90 : Int32) + 12 * nI u = nI (90 + 12 * u) from (by first | rfl | (simp only [qI_add, qI_mul, qI_lits]; done) | (simp only [qI_add, qI_mul, qI_lits]; grind))]
    refine wloop (12 * (cU (S 41 0 0) - 1 - u)) (fun m => [some (vR 40 0 0), some (vI (nI u)), some (vI (nI (90 + 12 * u + m)))]) (fun m => sN T (F m)) ?_ ?_
    · refine (B_200_40).mpr ?_
      have f5 : F (12 * (cU (S 41 0 0) - 1 - u)) 5 = S 41 0 0 5 := by
        show (if _ then _ else _) = _
        rw [if_neg (by omega)]
      rw [if_pos (by rw [sN_41, f5, hpos, show (90 : Int32) = nI 90 from rfl, show (12 : Int32) = nI 12 from rfl, ← qI_mul, ← qI_add, qI_le (by omega) (by omega)]; omega)]
      refine (B_200_79).mpr ?_
      rw [sUp_sN, sN_41, sN_41, f5]
      refine ⟨?_, ?_⟩
      · simp [upd]
      · have en : upd (F (12 * (cU (S 41 0 0) - 1 - u))) 5 (S 41 0 0 5 - 1) = nRem (S 41 0 0) u := by
          funext k
          unfold upd nRem
          by_cases k5 : k = 5
          · rw [if_pos k5, if_pos k5]
          · rw [if_neg k5, if_neg k5]
            show (if _ then _ else _) = _
            by_cases kr : 90 + 12 * u ≤ k ∧ k < 90 + 12 * (cU (S 41 0 0) - 1)
            · rw [if_pos kr, if_pos (by omega)]
            · rw [if_neg kr, if_neg (by omega)]
        rw [en]
        exact Dn_sN hD Iff.rfl
    · intro m hm hn
      refine (B_200_40).mpr ?_
      have f5 : F m 5 = S 41 0 0 5 := by
        show (if _ then _ else _) = _
        rw [if_neg (by omega)]
      rw [if_neg (by rw [sN_41, f5, hpos, show (90 : Int32) = nI 90 from rfl, show (12 : Int32) = nI 12 from rfl, ← qI_mul, ← qI_add, qI_le (by omega) (by omega)]; omega)]
      refine (B_200_58 (n1_ := 90 + 12 * u + m + 12) (n2_ := 90 + 12 * u + m) (by first | rfl | (simp only [qI_add, qI_mul, qI_lits]; done) | (simp only [qI_add, qI_mul, qI_lits]; grind)) (by omega) rfl (by omega)).mpr ?_
      rw [sUp_sN, sN_41, qI_succ]
      have e : upd (F m) (90 + 12 * u + m) (F m (90 + 12 * u + m + 12)) = F (m + 1) := by
        funext k
        unfold upd
        show (if _ then (if _ then _ else _) else (if _ then _ else _)) = (if _ then _ else _)
        by_cases k1 : k = 90 + 12 * u + m
        · rw [if_pos k1, if_neg (by omega), if_pos (by omega), k1]
        · rw [if_neg k1]
          by_cases k2 : 90 + 12 * u ≤ k ∧ k < 90 + 12 * u + m
          · rw [if_pos k2, if_pos (by omega)]
          · rw [if_neg k2, if_neg (by omega)]
      rw [e]
      exact hn
  rw [if_neg g2]
  refine (B_200_21).mpr ?_
  exact ⟨rfl, Dn_no (r := -4) h2 (by decide)⟩
theorem c_exchanges {a b : Nat} (ha : a < 16) (hb : b < 16) : Ret d 201 [vR 40 0 0, vI (nI a), vI (nI b)] S none (sN S (nSw (S 41 0 0) a b)) := by
  refine E_201 ?_
  refine (B_201_0).mpr ?_
  let F : Nat → NV := fun n k => if 90 + 12 * a ≤ k ∧ k < 90 + 12 * a + n then S 41 0 0 (k - 12 * a + 12 * b) else if 90 + 12 * b ≤ k ∧ k < 90 + 12 * b + n then S 41 0 0 (k - 12 * b + 12 * a) else S 41 0 0 k
  have eT : S = sN S (F 0) := by
    have : F 0 = S 41 0 0 := by
      funext k
      show (if _ then _ else (if _ then _ else _)) = _
      rw [if_neg (by omega), if_neg (by omega)]
    rw [this, sN_id]
  have start : Wp d 201 2 [some (vR 40 0 0), some (vI (nI a)), some (vI (nI b)), some (vI (nI 0)), none] [] (sN S (F 0)) (fun r1 S1 => r1 = none ∧ S1 = sN S (nSw (S 41 0 0) a b)) := by
    refine wloopI 12 (fun m ls T => T = sN S (F m) ∧ ∃ w4, ls = [some (vR 40 0 0), some (vI (nI a)), some (vI (nI b)), some (vI (nI m)), w4]) ?_ ?_ ⟨rfl, none, rfl⟩
    · rintro ls T ⟨rfl, w4, rfl⟩
      refine (B_201_2).mpr ?_
      rw [if_pos (by decide)]
      refine (B_201_74).mpr ?_
      refine ⟨rfl, ?_⟩
      congr 1
      funext k
      show (if _ then _ else (if _ then _ else _)) = _
      unfold nSw
      by_cases k1 : 90 + 12 * a ≤ k ∧ k < 102 + 12 * a
      · rw [if_pos k1, if_pos (by omega)]
      · rw [if_neg k1, if_neg (by omega)]
        by_cases k2 : 90 + 12 * b ≤ k ∧ k < 102 + 12 * b
        · rw [if_pos k2, if_pos (by omega)]
        · rw [if_neg k2, if_neg (by omega)]
    · rintro m hm ls T ⟨rfl, w4, rfl⟩ hn
      refine (B_201_2).mpr ?_
      rw [if_neg (by rw [show (12 : Int32) = nI 12 from rfl, qI_le (by omega) (by omega)]; omega)]
      refine (B_201_8 (n1_ := 90 + 12 * a + m) (n2_ := 90 + 12 * b + m) (by first | rfl | (simp only [qI_add, qI_mul, qI_lits]; done) | (simp only [qI_add, qI_mul, qI_lits]; grind)) (by omega) (by first | rfl | (simp only [qI_add, qI_mul, qI_lits]; done) | (simp only [qI_add, qI_mul, qI_lits]; grind)) (by omega)).mpr ?_
      rw [sUp_sN, sUp_sN, sN_41, qI_succ]
      refine hn _ _ ⟨?_, _, rfl⟩
      congr 1
      funext k
      unfold upd
      show (if _ then (if _ then _ else (if _ then _ else _)) else (if _ then (if _ then _ else (if _ then _ else _)) else (if _ then _ else (if _ then _ else _)))) = (if _ then _ else (if _ then _ else _))
      by_cases k2 : k = 90 + 12 * b + m
      · rw [if_pos k2]
        by_cases hab : a = b
        · subst hab
          rw [if_neg (by omega), if_neg (by omega), if_pos (by omega), k2]
          congr 1
          omega
        · rw [if_neg (by omega), if_neg (by omega), if_neg (by omega), if_pos (by omega), k2]
          congr 1
          omega
      · rw [if_neg k2]
        by_cases k1 : k = 90 + 12 * a + m
        · rw [if_pos k1]
          have hab : a ≠ b := fun q => k2 (by rw [k1, q])
          rw [if_neg (by omega), if_neg (by omega), if_pos (by omega), k1]
          congr 1
          omega
        · rw [if_neg k1]
          by_cases k3 : 90 + 12 * a ≤ k ∧ k < 90 + 12 * a + m
          · rw [if_pos k3, if_pos (show 90 + 12 * a ≤ k ∧ k < 90 + 12 * a + (m + 1) from by omega)]
          · rw [if_neg k3, if_neg (show ¬ (90 + 12 * a ≤ k ∧ k < 90 + 12 * a + (m + 1)) from by omega)]
            by_cases k4 : 90 + 12 * b ≤ k ∧ k < 90 + 12 * b + m
            · rw [if_pos k4, if_pos (show 90 + 12 * b ≤ k ∧ k < 90 + 12 * b + (m + 1) from by omega)]
            · rw [if_neg k4, if_neg (show ¬ (90 + 12 * b ≤ k ∧ k < 90 + 12 * b + (m + 1)) from by omega)]
  rw [← eT] at start
  exact start
theorem c_swap (hd : 7 ≤ d) (hw : WF (S 41 0 0)) {c : Nat} (hc : c ≤ 8) (h2 : S 40 0 0 2 = nI c) {x1 x2 : Int32} : Wm d 202 [vR 40 0 0, vI x1, vI x2] S (fun q S' => q = some (vI (aSwap (S 41 0 0) x1 x2).1) ∧ Dn c S S' (aSwap (S 41 0 0) x1 x2).1 (aSwap (S 41 0 0) x1 x2).2) := by
  refine EW_202 ?_
  refine (B_202_0 (by omega) (c_isRun (by omega))).mpr ?_
  unfold aSwap vU
  rw [inR_tf]
  refine icb (fun g => ?_) (fun g => ?_)
  · refine (B_202_16).mpr ?_
    rw [if_neg (fun q => by rw [g] at q; exact absurd q.1 (by decide))]
    exact ⟨rfl, Dn_no (r := -1) h2 (by decide)⟩
  refine (B_202_8 (by omega) (c_isRun (by omega))).mpr ?_
  rw [inR_tf]
  refine icb (fun g2 => ?_) (fun g2 => ?_)
  · refine (B_202_16).mpr ?_
    rw [if_neg (fun q => by rw [g2] at q; exact absurd q.2 (by decide))]
    exact ⟨rfl, Dn_no (r := -1) h2 (by decide)⟩
  obtain ⟨u, rfl, hu, h16⟩ := vU_ix hw.1 g
  obtain ⟨v, rfl, hv, h16'⟩ := vU_ix hw.1 g2
  rw [if_pos ⟨g, g2⟩, nI_clamp (by omega), nI_clamp (by omega)]
  have h40 : sRow S 44 0 0 282 (S 41 0 0) 40 0 0 2 = nI c := by rw [sRow_k _ _ (by decide)]; exact h2
  have e41 := sRem_41 (T := S) hc
  have hwf := WF_nSw hw hu hv
  have hex := c_exchanges (d := d - 1) (S := sRem (sRow S 44 0 0 282 (S 41 0 0)) c) h16 h16'
  rw [e41] at hex
  have hse := c_setups (d := d - 1) (S := sN (sRem (sRow S 44 0 0 282 (S 41 0 0)) c) (nSw (S 41 0 0) u v)) (by omega) (by rw [sN_41]; exact hwf)
  rw [sN_41] at hse
  refine (B_202_18 (by omega) c_keepBefore (c_remember hc h40) hex hse).mpr ?_
  refine ⟨rfl, Dn_sN (Dn_kr hc h2 (r := 0) (by decide)) ⟨fun q => absurd q (by decide), fun q => ?_⟩⟩
  have hb : aSets (nSw (S 41 0 0) u v) < 2 ^ 31 := by
    have h1 : aSets (nSw (S 41 0 0) u v) ≤ cU (nSw (S 41 0 0) u v) * 12 := by
      refine sumN_le _ (fun i hi => ?_)
      unfold aSet1 aSet
      have h7 := aPos_le hwf hi
      split
      · omega
      · have : sumN (fun k => if aHasP (nSw (S 41 0 0) u v) (i - 1) (aPosAt (nSw (S 41 0 0) u v) i k) = true then 0 else 1) (aPos (nSw (S 41 0 0) u v) i) ≤ aPos (nSw (S 41 0 0) u v) i * 1 := sumN_le _ (fun k _ => by split <;> omega)
        split <;> omega
    have := hwf.1.2.2.2.2.2
    omega
  exact absurd q (nI_n0 hb)
end M15c
