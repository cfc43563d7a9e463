/-! THE MODEL's methods, 9: changes that are remembered; cut, cutAll, remove, exchanges, split -/
section M15a
def sc2 (k m : Nat) : Bool := sc k m || k == 42 || k == 44 || (k == 40 && m == 2)
def fM2 (S S' : bSt) : Prop := ∀ k i j m, sc2 k m = false → S' k i j m = S k i j m
theorem sc_2 {k m : Nat} (h : sc2 k m = false) : sc k m = false ∧ k ≠ 42 ∧ k ≠ 44 ∧ ¬ (k = 40 ∧ m = 2) := by
  unfold sc2 at h
  simp only [Bool.or_eq_false_iff, beq_eq_false_iff_ne, Bool.and_eq_false_iff] at h
  obtain ⟨⟨⟨h1, h2⟩, h3⟩, h4⟩ := h
  exact ⟨h1, h2, h3, fun q => by rcases h4 with h4 | h4; exact h4 q.1; exact h4 q.2⟩
theorem fM_2 {S T : bSt} (h : fM S T) : fM2 S T := fun k i j m hs => h k i j m (sc_2 hs).1
theorem fM2_trans {S T U : bSt} (h : fM2 S T) (g : fM2 T U) : fM2 S U := fun k i j m hm => (g k i j m hm).trans (h k i j m hm)
theorem fM2_sN {S T : bSt} {N : NV} (h : fM2 S T) : fM2 S (sN T N) := by
  intro k i j m hs
  have : k ≠ 41 := by
    intro q
    subst q
    exact absurd hs (by simp [sc2, sc])
  rw [sN_k _ _ this]
  exact h k i j m hs
/-- the past with a row more: the first one goes if there are eight -/
def psh (P : NV) (c : Nat) (N : NV) : NV := if c = 8 then (fun m => if 1974 ≤ m ∧ m < 2256 then N (m - 1974) else if m < 1974 then P (m + 282) else P m) else (fun m => if 282 * c ≤ m ∧ m < 282 * c + 282 then N (m - 282 * c) else P m)
theorem psh_congr {P : NV} {c : Nat} {N N' : NV} (h : ∀ m, m < 282 → N m = N' m) : psh P c N = psh P c N' := by
  unfold psh
  by_cases h8 : c = 8
  · rw [if_pos h8, if_pos h8]
    funext m
    by_cases g : 1974 ≤ m ∧ m < 2256
    · rw [if_pos g, if_pos g, h _ (by omega)]
    · rw [if_neg g, if_neg g]
  · rw [if_neg h8, if_neg h8]
    funext m
    by_cases g : 282 * c ≤ m ∧ m < 282 * c + 282
    · rw [if_pos g, if_pos g, h _ (by omega)]
    · rw [if_neg g, if_neg g]
theorem sRem_facts {T : bSt} {c : Nat} (hc : c ≤ 8) : fM2 T (sRem T c) ∧ sRem T c 41 0 0 = T 41 0 0 ∧ sRem T c 42 0 0 = psh (T 42 0 0) c (T 44 0 0) ∧ sRem T c 40 0 0 2 = nI (min (c + 1) 8) := by
  unfold sRem psh
  by_cases h8 : c = 8
  · subst h8
    rw [if_pos rfl, if_pos rfl]
    refine ⟨fun k i j m hs => ?_, ?_, ?_, ?_⟩
    · obtain ⟨-, h2, h3, h4⟩ := sc_2 hs
      unfold sRem0 sSh
      rw [if_neg (fun q => h2 q.1), if_neg (fun q => h4 ⟨q.1, q.2.2.2⟩), if_neg (fun q => h2 q.1)]
    · funext m; simp [sRem0, sSh]
    · funext m
      simp only [sRem0, sSh, true_and]
      by_cases g : 1974 ≤ m ∧ m < 2256
      · rw [if_pos (by omega), if_pos g]
        simp
      · rw [if_neg (by omega), if_neg g]
        simp
    · simp [sRem0, sSh]
  · rw [if_neg h8, if_neg h8]
    refine ⟨fun k i j m hs => ?_, ?_, ?_, ?_⟩
    · obtain ⟨-, h2, h3, h4⟩ := sc_2 hs
      unfold sRem0
      rw [if_neg (fun q => h2 q.1), if_neg (fun q => h4 ⟨q.1, q.2.2.2⟩)]
    · funext m; simp [sRem0]
    · funext m
      simp only [sRem0, true_and]
      by_cases g : 282 * c ≤ m ∧ m < 282 * c + 282
      · rw [if_pos g, if_pos g]
      · rw [if_neg g, if_neg g]; simp
    · rw [Nat.min_eq_left (by omega)]
      simp [sRem0]
/-- a change is done: its answer, the row behind it; it is remembered if the answer is no error -/
def Dn (c : Nat) (S S' : bSt) (r : Int32) (N' : NV) : Prop := fM2 S S' ∧ S' 41 0 0 = N' ∧ ((r < 0 ∧ S' 42 0 0 = S 42 0 0 ∧ S' 40 0 0 2 = nI c) ∨ (¬ r < 0 ∧ S' 42 0 0 = psh (S 42 0 0) c (S 41 0 0) ∧ S' 40 0 0 2 = nI (min (c + 1) 8)))
theorem Dn_chg {S T : bSt} {c : Nat} {r : Int32} {N' : NV} (hc : c ≤ 8) (hf : fM2 S T) (h42 : T 42 0 0 = S 42 0 0) (h2 : T 40 0 0 2 = nI c) (h44 : ∀ m, m < 282 → T 44 0 0 m = S 41 0 0 m) (hN : T 41 0 0 = N') : Dn c S (chg T r c) r N' := by
  unfold chg
  by_cases h : r < 0
  · rw [if_pos h]
    exact ⟨hf, hN, Or.inl ⟨h, h42, h2⟩⟩
  · rw [if_neg h]
    obtain ⟨h1, h3, h4, h5⟩ := sRem_facts (T := T) hc
    exact ⟨fM2_trans hf h1, h3.trans hN, Or.inr ⟨h, by rw [h4, h42]; exact psh_congr h44, h5⟩⟩
theorem Dn_sN {S T : bSt} {c : Nat} {r r' : Int32} {N N' : NV} (h : Dn c S T r N) (hr : r < 0 ↔ r' < 0) : Dn c S (sN T N') r' N' := by
  obtain ⟨h1, h2, h3⟩ := h
  refine ⟨fM2_sN h1, sN_41 _ _, ?_⟩
  rw [sN_k _ _ (by decide), sN_k _ _ (by decide), ← hr]
  exact h3
theorem Dn_no {S : bSt} {c : Nat} {r : Int32} (h2 : S 40 0 0 2 = nI c) (hr : r < 0) : Dn c S S r (S 41 0 0) := ⟨fun _ _ _ _ _ => rfl, rfl, Or.inl ⟨hr, rfl, h2⟩⟩
theorem kb_facts {S : bSt} : fM2 S (sRow S 44 0 0 282 (S 41 0 0)) ∧ sRow S 44 0 0 282 (S 41 0 0) 41 0 0 = S 41 0 0 ∧ sRow S 44 0 0 282 (S 41 0 0) 42 0 0 = S 42 0 0 ∧ sRow S 44 0 0 282 (S 41 0 0) 40 0 0 2 = S 40 0 0 2 ∧ ∀ m, m < 282 → sRow S 44 0 0 282 (S 41 0 0) 44 0 0 m = S 41 0 0 m := by
  refine ⟨fun k i j m hs => ?_, sRow_k _ _ (by decide), sRow_k _ _ (by decide), by rw [sRow_k _ _ (by decide)], fun m hm => sRow_in _ _ hm⟩
  rw [sRow_k _ _ (sc_2 hs).2.2.1]
/-- keepBefore and remember -/
theorem Dn_kr {S : bSt} {c : Nat} (hc : c ≤ 8) (h2 : S 40 0 0 2 = nI c) {r : Int32} (hr : ¬ r < 0) : Dn c S (sRem (sRow S 44 0 0 282 (S 41 0 0)) c) r (S 41 0 0) := by
  obtain ⟨k1, k2, k3, k4, k5⟩ := kb_facts (S := S)
  have := Dn_chg (r := r) hc k1 k3 (by rw [k4]; exact h2) k5 k2
  unfold chg at this
  rw [if_neg hr] at this
  exact this
/-- the roll that is cut next -/
def nxStep (N : NV) (p : Int32 × Int32) (r : Nat) : Int32 × Int32 := if aHas N r = true ∧ (p.1 = -1 ∨ (aLook N r).2.2.1 < p.2 ∨ ((aLook N r).2.2.1 = p.2 ∧ N (55 + 3 * r) < N (55 + 3 * p.1.toNatClampNeg))) then (nI r, (aLook N r).2.2.1) else p
def nxTo (N : NV) : Nat → Int32 × Int32
  | 0 => (-1, 0)
  | n + 1 => nxStep N (nxTo N n) n
def aNext (N : NV) : Int32 := if N 5 = 16 then -1 else (nxTo N (cR N)).1
theorem nxTo_ok {N : NV} : ∀ n, (nxTo N n).1 = -1 ∨ ∃ r, r < n ∧ (nxTo N n).1 = nI r ∧ aHas N r = true := by
  intro n
  induction n with
  | zero => exact Or.inl rfl
  | succ n ih =>
    show (nxStep N (nxTo N n) n).1 = -1 ∨ ∃ r, r < n + 1 ∧ (nxStep N (nxTo N n) n).1 = nI r ∧ aHas N r = true
    unfold nxStep
    split
    · rename_i h
      exact Or.inr ⟨n, by omega, rfl, h.1⟩
    · rcases ih with ih | ⟨r, h1, h2, h3⟩
      · exact Or.inl ih
      · exact Or.inr ⟨r, by omega, h2, h3⟩
def aCutsF : Nat → Int32 → NV → Int32 × NV
  | 0, m, N => (m, N)
  | n + 1, m, N => if aNext N = -1 then (m, N) else aCutsF n (m + 1) (aCut N (aNext N).toNatClampNeg)
def aCuts (N : NV) : Int32 × NV := aCutsF 17 0 N
theorem nI_ne_m1 {n : Nat} (h : n < 2 ^ 31) : nI n ≠ -1 := by
  intro q
  have := congrArg Int32.toInt q
  rw [nI_toInt h] at this
  rw [show (-1 : Int32).toInt = -1 from by decide] at this
  omega
theorem nI_n0 {n : Nat} (h : n < 2 ^ 31) : ¬ nI n < 0 := by
  rw [show (0 : Int32) = nI 0 from rfl, qI_lt h (by omega)]
  omega
theorem aNext_ok {N : NV} (hw : cW N) (h : aNext N ≠ -1) : ∃ r, r < cR N ∧ r < 12 ∧ aNext N = nI r ∧ aHas N r = true ∧ cU N < 16 := by
  unfold aNext at *
  by_cases g : N 5 = 16
  · rw [if_pos g] at h; exact absurd rfl h
  · rw [if_neg g] at h ⊢
    rcases nxTo_ok (N := N) (cR N) with q | ⟨r, h1, h2, h3⟩
    · exact absurd q h
    · refine ⟨r, h1, by have := hw.2.2.2.1; omega, h2, h3, ?_⟩
      rcases Nat.lt_or_ge (cU N) 16 with q | q
      · exact q
      · have := hw.2.2.2.2.2
        exact absurd (by rw [hw.2.2.2.2.1, show cU N = 16 by omega]; rfl) g
theorem WF_aCutsF : ∀ n m (N : NV), WF N → WF (aCutsF n m N).2 := by
  intro n
  induction n with
  | zero => intro m N h; exact h
  | succ n ih =>
    intro m N h
    unfold aCutsF
    by_cases g : aNext N = -1
    · rw [if_pos g]; exact h
    · rw [if_neg g]
      obtain ⟨r, h1, h2, h3, h4, h5⟩ := aNext_ok h.1 g
      refine ih _ _ ?_
      rw [h3, nI_clamp (by omega)]
      exact WF_aCut h h5 h1 h4
variable {d : Nat} {S : bSt}
theorem c_cut (hd : 15 ≤ d) (hw : WF (S 41 0 0)) {c : Nat} (hc : c ≤ 8) (h2 : S 40 0 0 2 = nI c) {x1 : Int32} : Wm d 196 [vR 40 0 0, vI x1] S (fun q S' => q = some (vI (aTry (S 41 0 0) x1).1) ∧ Dn c S S' (aTry (S 41 0 0) x1).1 (aTry (S 41 0 0) x1).2) := by
  refine EW_196 ?_
  obtain ⟨k1, k2, k3, k4, k5⟩ := kb_facts (S := S)
  obtain ⟨q, S2, e2, rfl, hf, hN⟩ := Wm_ex (c_tryCut (d := d - 1) (S := sRow S 44 0 0 282 (S 41 0 0)) (by omega) (by rw [k2]; exact hw) (x1 := x1))
  rw [k2] at e2 hN
  refine (B_196_0 (by omega) c_keepBefore e2 (c_changed (by omega) hc (by rw [hf _ _ _ _ rfl, k4]; exact h2))).mpr ?_
  refine ⟨rfl, Dn_chg hc (fM2_trans k1 (fM_2 hf)) ?_ ?_ ?_ hN⟩
  · funext m; rw [hf _ _ _ _ rfl, k3]
  · rw [hf _ _ _ _ rfl, k4]; exact h2
  · intro m hm; rw [hf _ _ _ _ rfl]; exact k5 m hm
theorem c_nextRoll (hd : 14 ≤ d) (hw : WF (S 41 0 0)) : Wm d 197 [vR 40 0 0] S (fun q S' => q = some (vI (nxTo (S 41 0 0) (cR (S 41 0 0))).1) ∧ fM S S' ∧ S' 41 0 0 = S 41 0 0) := by
  refine EW_197 ?_
  refine (B_197_0).mpr ?_
  have h4 := hw.1.2.2.1
  have hc := hw.1.2.2.2.1
  refine wloopI (cR (S 41 0 0)) (fun m ls S' => ls = [some (vR 40 0 0), some (vI (nxTo (S 41 0 0) m).1), some (vI (nxTo (S 41 0 0) m).2), some (vI (nI m))] ∧ fM S S' ∧ S' 41 0 0 = S 41 0 0) ?_ ?_ ⟨rfl, fM_refl S, rfl⟩
  · rintro ls S' ⟨rfl, hf, hN⟩
    refine (B_197_6).mpr ?_
    rw [if_pos (by rw [hN, h4]; exact Int32.le_refl _)]
    refine (B_197_73).mpr ?_
    exact ⟨rfl, hf, hN⟩
  · rintro m hm ls S' ⟨rfl, hf, hN⟩ hn
    refine (B_197_6).mpr ?_
    rw [if_neg (by rw [hN, h4, qI_le (by omega) (by omega)]; omega)]
    obtain ⟨q, S1, e1, rfl, hL⟩ := Wm_ex (c_hasBest (d := d - 1) (S := S') (by omega) (by rw [hN]; exact hw) (r := m) (by rw [hN]; exact hm))
    rw [hN] at e1
    refine (B_197_16 (by omega) e1).mpr ?_
    have hL2 := hL.2.1
    have h12 := hL.2.2.2.2.1
    rw [hN] at hL2 h12
    have next : ∀ {x1 x2 : Int32}, x1 = (nxTo (S 41 0 0) (m + 1)).1 → x2 = (nxTo (S 41 0 0) (m + 1)).2 → Wp d 197 67 [some (vR 40 0 0), some (vI x1), some (vI x2), some (vI (nI m))] [] S1 (fun q S' => q = some (vI (nxTo (S 41 0 0) (cR (S 41 0 0))).1) ∧ fM S S' ∧ S' 41 0 0 = S 41 0 0) := by
      intro x1 x2 hx1 hx2
      refine (B_197_67).mpr ?_
      rw [qI_succ, hx1, hx2]
      exact hn _ _ ⟨rfl, fM_trans hf hL.1, hL2⟩
    have take : (aHas (S 41 0 0) m = true ∧ ((nxTo (S 41 0 0) m).1 = -1 ∨ (aLook (S 41 0 0) m).2.2.1 < (nxTo (S 41 0 0) m).2 ∨ ((aLook (S 41 0 0) m).2.2.1 = (nxTo (S 41 0 0) m).2 ∧ S 41 0 0 (55 + 3 * m) < S 41 0 0 (55 + 3 * (nxTo (S 41 0 0) m).1.toNatClampNeg)))) → Wp d 197 60 [some (vR 40 0 0), some (vI (nxTo (S 41 0 0) m).1), some (vI (nxTo (S 41 0 0) m).2), some (vI (nI m))] [] S1 (fun q S' => q = some (vI (nxTo (S 41 0 0) (cR (S 41 0 0))).1) ∧ fM S S' ∧ S' 41 0 0 = S 41 0 0) := by
      intro ht
      refine (B_197_60).mpr ?_
      have e : nxTo (S 41 0 0) (m + 1) = (nI m, (aLook (S 41 0 0) m).2.2.1) := if_pos ht
      rw [h12]
      exact next (by rw [e]) (by rw [e])
    have skip : ¬ (aHas (S 41 0 0) m = true ∧ ((nxTo (S 41 0 0) m).1 = -1 ∨ (aLook (S 41 0 0) m).2.2.1 < (nxTo (S 41 0 0) m).2 ∨ ((aLook (S 41 0 0) m).2.2.1 = (nxTo (S 41 0 0) m).2 ∧ S 41 0 0 (55 + 3 * m) < S 41 0 0 (55 + 3 * (nxTo (S 41 0 0) m).1.toNatClampNeg)))) → Wp d 197 67 [some (vR 40 0 0), some (vI (nxTo (S 41 0 0) m).1), some (vI (nxTo (S 41 0 0) m).2), some (vI (nI m))] [] S1 (fun q S' => q = some (vI (nxTo (S 41 0 0) (cR (S 41 0 0))).1) ∧ fM S S' ∧ S' 41 0 0 = S 41 0 0) := by
      intro ht
      have e : nxTo (S 41 0 0) (m + 1) = nxTo (S 41 0 0) m := if_neg ht
      exact next (by rw [e]) (by rw [e])
    refine icb (fun gb => ?_) (fun gb => ?_)
    · exact skip (fun q => by rw [gb] at q; exact absurd q.1 (by decide))
    refine (B_197_24).mpr ?_
    refine ic (fun g1 => ?_) (fun g1 => ?_)
    · exact take ⟨gb, Or.inl g1⟩
    refine (B_197_29).mpr ?_
    rw [h12]
    refine ic (fun g2 => ?_) (fun g2 => ?_)
    · exact take ⟨gb, Or.inr (Or.inl g2)⟩
    refine (B_197_37).mpr ?_
    rw [h12]
    refine ic (fun g3 => ?_) (fun g3 => ?_)
    · rcases nxTo_ok (N := S 41 0 0) m with q | ⟨r, hr1, hr2, -⟩
      · exact absurd q g1
      refine (B_197_45 (by omega) (c_r (n := 55 + 3 * m) (by first | rfl | (simp only [qI_add, qI_mul, qI_lits]; done) | (simp only [qI_add, qI_mul, qI_lits]; grind)) (by omega)) (c_r (n := 55 + 3 * r) (by rw [hr2]; exact (by first | rfl | (simp only [qI_add, qI_mul, qI_lits]; done) | (simp only [qI_add, qI_mul, qI_lits]; grind))) (by omega))).mpr ?_
      rw [hL2]
      refine ic (fun g4 => ?_) (fun g4 => ?_)
      · refine skip (fun q => ?_)
        rcases q.2 with q | q | q
        · exact g1 q
        · exact g2 q
        · rw [hr2, nI_clamp (by omega)] at q
          exact Int32.not_lt.mpr g4 q.2
      refine take ⟨gb, Or.inr (Or.inr ⟨g3, ?_⟩)⟩
      rw [hr2, nI_clamp (by omega)]
      exact Int32.not_le.mp g4
    refine skip (fun q => ?_)
    rcases q.2 with q | q | q
    · exact g1 q
    · exact g2 q
    · exact g3 q.1
theorem cU_aCut {N : NV} (hw : cW N) {r : Nat} (hu : cU N < 16) : cU (aCut N r) = cU N + 1 := by
  unfold aCut
  exact cU_n (by rw [nRun_5, hw.2.2.2.2.1, qI_succ]) (by omega)
theorem c_ca_go : ∀ (n : Nat) {d : Nat} {S S0 : bSt} {m : Int32} {Q : Option bV → bSt → Prop}, 15 ≤ d → WF (S 41 0 0) → 17 ≤ n + cU (S 41 0 0) → fM S0 S → (∀ S', fM S0 S' → S' 41 0 0 = (aCutsF n m (S 41 0 0)).2 → Q (some (vI (aCutsF n m (S 41 0 0)).1)) S') → Wp d 198 22 [some (vR 40 0 0), some (vI m), some (vI (aNext (S 41 0 0)))] [] S Q := by
  intro n
  induction n with
  | zero =>
    intro d S S0 m Q hd hw hn hf hQ
    have := hw.1.2.2.2.2.2
    omega
  | succ n ih =>
    intro d S S0 m Q hd hw hn hf hQ
    unfold aCutsF at hQ
    refine (B_198_22).mpr ?_
    refine ic (fun g => ?_) (fun g => ?_)
    · refine (B_198_66).mpr ?_
      rw [if_pos g] at hQ
      exact hQ S hf rfl
    rw [if_neg g] at hQ
    obtain ⟨r, h1, h2, h3, h4, h5⟩ := aNext_ok hw.1 g
    rw [h3, nI_clamp (by omega)] at hQ
    obtain ⟨q, S1, e1, rfl, hf1, hN1⟩ := Wm_ex (c_cuts (d := d - 1) (by omega) hw h5 h1 h4)
    have hw1 : WF (S1 41 0 0) := by rw [hN1]; exact WF_aCut hw h5 h1 h4
    rw [h3]
    refine (B_198_27 (by omega) e1).mpr ?_
    rw [if_neg (by rw [hw.1.2.2.2.2.1]; exact nI_n0 (by omega))]
    refine (B_198_36).mpr ?_
    refine (B_198_41).mpr ?_
    have fin : ∀ (T : bSt) (x : Int32), fM S1 T → T 41 0 0 = S1 41 0 0 → x = aNext (S1 41 0 0) → Wp d 198 62 [some (vR 40 0 0), some (vI (m + 1)), some (vI (nI r))] [vI x] T Q := by
      intro T x hfT hNT hx
      refine (B_198_62).mpr ?_
      rw [hx, ← hNT]
      refine ih (S0 := S0) hd (by rw [hNT]; exact hw1) ?_ (fM_trans (fM_trans hf hf1) hfT) ?_
      · rw [hNT, hN1, cU_aCut hw.1 h5]; omega
      · rw [hNT, hN1]; exact hQ
    refine ic (fun g16 => ?_) (fun g16 => ?_)
    · refine (B_198_54).mpr ?_
      exact fin _ _ (fM_refl _) rfl (by unfold aNext; rw [if_pos g16])
    obtain ⟨q, S2, e2, rfl, hf2, hN2⟩ := Wm_ex (c_nextRoll (d := d - 1) (S := S1) (by omega) hw1)
    refine (B_198_58 (by omega) e2).mpr ?_
    exact fin _ _ hf2 hN2 (by unfold aNext; rw [if_neg g16])
theorem c_cutsAll (hd : 15 ≤ d) (hw : WF (S 41 0 0)) : Wm d 198 [vR 40 0 0] S (fun q S' => q = some (vI (aCuts (S 41 0 0)).1) ∧ fM S S' ∧ S' 41 0 0 = (aCuts (S 41 0 0)).2) := by
  refine EW_198 ?_
  refine (B_198_0).mpr ?_
  have fin : ∀ (T : bSt) (x : Int32), fM S T → T 41 0 0 = S 41 0 0 → x = aNext (S 41 0 0) → Wp d 198 21 [some (vR 40 0 0), some (vI 0), none] [vI x] T (fun q S' => q = some (vI (aCuts (S 41 0 0)).1) ∧ fM S S' ∧ S' 41 0 0 = (aCuts (S 41 0 0)).2) := by
    intro T x hf hN hx
    refine (B_198_21).mpr ?_
    rw [hx, ← hN]
    refine c_ca_go 17 (S0 := S) hd (by rw [hN]; exact hw) (by omega) hf (fun S' h1 h2 => ?_)
    rw [hN] at h2 ⊢
    exact ⟨rfl, h1, h2⟩
  refine ic (fun g16 => ?_) (fun g16 => ?_)
  · refine (B_198_13).mpr ?_
    exact fin _ _ (fM_refl _) rfl (by unfold aNext; rw [if_pos g16])
  obtain ⟨q, S2, e2, rfl, hf2, hN2⟩ := Wm_ex (c_nextRoll (d := d - 1) (S := S) (by omega) hw)
  refine (B_198_17 (by omega) e2).mpr ?_
  exact fin _ _ hf2 hN2 (by unfold aNext; rw [if_neg g16])
theorem c_cutAll (hd : 16 ≤ d) (hw : WF (S 41 0 0)) {c : Nat} (hc : c ≤ 8) (h2 : S 40 0 0 2 = nI c) : Wm d 199 [vR 40 0 0] S (fun q S' => q = some (vI (aCuts (S 41 0 0)).1) ∧ Dn c S S' (aCuts (S 41 0 0)).1 (aCuts (S 41 0 0)).2) := by
  refine EW_199 ?_
  obtain ⟨k1, k2, k3, k4, k5⟩ := kb_facts (S := S)
  obtain ⟨q, S2, e2, rfl, hf, hN⟩ := Wm_ex (c_cutsAll (d := d - 1) (S := sRow S 44 0 0 282 (S 41 0 0)) (by omega) (by rw [k2]; exact hw))
  rw [k2] at e2 hN
  refine (B_199_0 (by omega) c_keepBefore e2 (c_changed (by omega) hc (by rw [hf _ _ _ _ rfl, k4]; exact h2))).mpr ?_
  refine ⟨rfl, Dn_chg hc (fM2_trans k1 (fM_2 hf)) ?_ ?_ ?_ hN⟩
  · funext m; rw [hf _ _ _ _ rfl, k3]
  · rw [hf _ _ _ _ rfl, k4]; exact h2
  · intro m hm; rw [hf _ _ _ _ rfl]; exact k5 m hm
end M15a
