/-! THE MODEL's methods, 21: run, the commands carried out, execute; set, addOrder, addRoll -/
section M15m
variable {d : Nat} {S : bSt} {tx : Nat → Nat} {e : Nat}
theorem WF_nOrder {N : NV} (h : WF N) (h8 : cO N < 8) {x1 x2 x3 x4 x5 x6 : Int32} (hok : okOrd x1 x2 x3 x4 x5 x6 = true) : WF (nOrder N x1 x2 x3 x4 x5 x6) := by
  unfold okOrd at hok
  simp only [Bool.and_eq_true] at hok
  obtain ⟨k1, k2, k3, k4, k5, k6⟩ := hok
  obtain ⟨n1, rfl, -, b1⟩ := inR_n (a := 0) (b := 3) k1 (by decide) (by decide)
  obtain ⟨n2, rfl, a2, b2⟩ := inR_n (a := 10) (b := 150) k2 (by decide) (by decide)
  obtain ⟨n3, rfl, a3, b3⟩ := inR_n (a := 1) (b := 999) k3 (by decide) (by decide)
  obtain ⟨n4, rfl, -, b4⟩ := inR_n (a := 0) (b := 50) k4 (by decide) (by decide)
  obtain ⟨n5, rfl, -, b5⟩ := inR_n (a := 0) (b := 99) k5 (by decide) (by decide)
  obtain ⟨n6, rfl, -, b6⟩ := inR_n (a := 0) (b := 1) k6 (by decide) (by decide)
  have hR := h.1.2.2.2.1
  have far : ∀ k, k ≠ 3 → (k < 6 + 6 * cO N ∨ 12 + 6 * cO N ≤ k) → nOrder N (nI n1) (nI n2) (nI n3) (nI n4) (nI n5) (nI n6) k = N k := by
    intro k k3 hk
    unfold nOrder
    rw [upd_ne k3, upd_ne (by omega), upd_ne (by omega), upd_ne (by omega), upd_ne (by omega), upd_ne (by omega), upd_ne (by omega)]
  have e3 : nOrder N (nI n1) (nI n2) (nI n3) (nI n4) (nI n5) (nI n6) 3 = nI (cO N + 1) := by
    show upd _ 3 _ 3 = _
    rw [upd_same, h.1.1, qI_succ]
  have g1 : nOrder N (nI n1) (nI n2) (nI n3) (nI n4) (nI n5) (nI n6) (6 + 6 * cO N) = nI n1 := by
    unfold nOrder
    rw [upd_ne (by omega), upd_ne (by omega), upd_ne (by omega), upd_ne (by omega), upd_ne (by omega), upd_ne (by omega), upd_same]
  have g2 : nOrder N (nI n1) (nI n2) (nI n3) (nI n4) (nI n5) (nI n6) (7 + 6 * cO N) = nI n2 := by
    unfold nOrder
    rw [upd_ne (by omega), upd_ne (by omega), upd_ne (by omega), upd_ne (by omega), upd_ne (by omega), upd_same]
  have g3 : nOrder N (nI n1) (nI n2) (nI n3) (nI n4) (nI n5) (nI n6) (8 + 6 * cO N) = nI n3 := by
    unfold nOrder
    rw [upd_ne (by omega), upd_ne (by omega), upd_ne (by omega), upd_ne (by omega), upd_same]
  have g4 : nOrder N (nI n1) (nI n2) (nI n3) (nI n4) (nI n5) (nI n6) (9 + 6 * cO N) = nI n4 := by
    unfold nOrder
    rw [upd_ne (by omega), upd_ne (by omega), upd_ne (by omega), upd_same]
  have g5 : nOrder N (nI n1) (nI n2) (nI n3) (nI n4) (nI n5) (nI n6) (10 + 6 * cO N) = nI n5 := by
    unfold nOrder
    rw [upd_ne (by omega), upd_ne (by omega), upd_same]
  have g6 : nOrder N (nI n1) (nI n2) (nI n3) (nI n4) (nI n5) (nI n6) (11 + 6 * cO N) = nI n6 := by
    unfold nOrder
    rw [upd_ne (by omega), upd_same]
  generalize nOrder N (nI n1) (nI n2) (nI n3) (nI n4) (nI n5) (nI n6) = M at *
  refine WF_more h (wSet_c (fun k hk => far k (by omega) (by omega)) h.2.1) ⟨cO N + 1, e3, by omega, by omega⟩ ⟨cR N, by rw [far 4 (by omega) (by omega)]; exact h.1.2.2.1, Nat.le_refl _, hR⟩ (far 5 (by omega) (by omega)) (fun k _ _ => far k (by omega) (by omega)) (fun o ho ho2 => ?_) (fun k _ _ => far k (by omega) (by omega)) (fun r hr hr2 => ?_) (fun u i hu hi h3 => far _ (by omega) (by omega)) (fun u hu => Or.inl (far _ (by omega) (by omega))) (fun u v hu hv e1 e2 => ?_)
  · rw [cO_n e3 (by omega)] at ho2
    obtain rfl : o = cO N := by omega
    exact ⟨ok_n g1 (by omega) b1 (by omega), ok_n g2 a2 b2 (by omega), ok_n g3 a3 b3 (by omega), ok_n g4 (by omega) b4 (by omega), ok_n g5 (by omega) b5 (by omega), ok_n g6 (by omega) b6 (by omega)⟩
  · rw [cR_c (far 4 (by omega) (by omega))] at hr2
    omega
  · rw [far _ (by omega) (by omega)] at e1
    rcases (h.2.2.2.2.1 u hu).2.2.2.2.2 with q | ⟨q1, q2, -⟩
    · rw [q] at e1; exact absurd e1.symm (nI_ne_m5 (by omega))
    · rw [q1, qI_eq (by omega) (by omega)] at e1; omega
theorem WF_aLayO {N : NV} (h : WF N) (x1 x2 x3 x4 x5 x6 : Int32) : WF (aLayO N x1 x2 x3 x4 x5 x6).2 := by
  unfold aLayO
  by_cases g : okOrd x1 x2 x3 x4 x5 x6 = true
  · rw [if_pos g]
    by_cases g8 : N 3 = 8
    · rw [if_pos g8]; exact h
    · rw [if_neg g8]
      refine WF_nOrder h ?_ g
      rcases Nat.lt_or_ge (cO N) 8 with q | q
      · exact q
      · have := h.1.2.1
        exact absurd (by rw [h.1.1, show cO N = 8 by omega]; rfl) g8
  · rw [if_neg g]; exact h
theorem WF_aLayR {N : NV} (h : WF N) (x1 x2 x3 : Int32) : WF (aLayR N x1 x2 x3).2 := by
  unfold aLayR
  by_cases g : okRoll x1 x2 x3 = true
  · rw [if_pos g]
    by_cases g8 : N 4 = 12
    · rw [if_pos g8]; exact h
    · rw [if_neg g8]
      unfold okRoll at g
      simp only [Bool.and_eq_true] at g
      obtain ⟨k1, k2, k3⟩ := g
      obtain ⟨n1, rfl, -, b1⟩ := inR_n (a := 0) (b := 3) k1 (by decide) (by decide)
      obtain ⟨n2, rfl, a2, b2⟩ := inR_n (a := 50) (b := 300) k2 (by decide) (by decide)
      obtain ⟨n3, rfl, a3, b3⟩ := inR_n (a := 1) (b := 999) k3 (by decide) (by decide)
      refine WF_nRoll h ?_ b1 ⟨by omega, b2⟩ ⟨a3, b3⟩
      rcases Nat.lt_or_ge (cR N) 12 with q | q
      · exact q
      · have := h.1.2.2.2.1
        exact absurd (by rw [h.1.2.2.1, show cR N = 12 by omega]; rfl) g8
  · rw [if_neg g]; exact h
def aSt (N : NV) (x v : Int32) : Int32 × NV := if okSet x v = true then (N x.toNatClampNeg, upd N x.toNatClampNeg v) else (-2, N)
theorem aSt_ok {N : NV} (h : WF N) (x v : Int32) : WF (aSt N x v).2 ∧ (okSet x v = true → ¬ (aSt N x v).1 < 0) := by
  unfold aSt
  by_cases g : okSet x v = true
  · rw [if_pos g]
    have g' := g
    unfold okSet at g'
    rw [Bool.and_eq_true] at g'
    obtain ⟨n, rfl, -, hn⟩ := inR_n (a := 0) (b := 2) g'.1 (by decide) (by decide)
    rw [nI_clamp (by omega)]
    have hv : ∃ m, v = nI m ∧ (n = 0 → 2 ≤ m ∧ m ≤ 7) ∧ (n = 1 → m ≤ 20) ∧ (n = 2 → 10 ≤ m ∧ m ≤ 99) := by
      have : n = 0 ∨ n = 1 ∨ n = 2 := by omega
      rcases this with rfl | rfl | rfl
      · obtain ⟨m, e, a, b⟩ := inR_n (a := 2) (b := 7) g'.2 (by decide) (by decide)
        exact ⟨m, e, fun _ => ⟨a, b⟩, fun q => absurd q (by decide), fun q => absurd q (by decide)⟩
      · obtain ⟨m, e, a, b⟩ := inR_n (a := 0) (b := 20) g'.2 (by decide) (by decide)
        exact ⟨m, e, fun q => absurd q (by decide), fun _ => b, fun q => absurd q (by decide)⟩
      · obtain ⟨m, e, a, b⟩ := inR_n (a := 10) (b := 99) g'.2 (by decide) (by decide)
        exact ⟨m, e, fun q => absurd q (by decide), fun q => absurd q (by decide), fun _ => ⟨a, b⟩⟩
    obtain ⟨m, rfl, m0, m1, m2⟩ := hv
    have hset := h.2.1
    have hR := h.1.2.2.2.1
    refine ⟨?_, fun _ => ?_⟩
    · show WF (upd N n (nI m))
      refine WF_more h ⟨?_, ?_, ?_⟩ ⟨cO N, by rw [upd_ne (by omega)]; exact h.1.1, Nat.le_refl _, h.1.2.1⟩ ⟨cR N, by rw [upd_ne (by omega)]; exact h.1.2.2.1, Nat.le_refl _, hR⟩ (upd_ne (by omega)) (fun k _ _ => upd_ne (by omega)) (fun o ho ho2 => ?_) (fun k _ _ => upd_ne (by omega)) (fun r hr hr2 => ?_) (fun u i hu hi h3 => upd_ne (by omega)) (fun u hu => Or.inl (upd_ne (by omega))) (fun u v hu hv e1 e2 => ?_)
      · by_cases q : n = 0
        · subst q; exact ok_n upd_same (m0 rfl).1 (m0 rfl).2 (by omega)
        · exact ok_c (upd_ne (by omega)) hset.1
      · by_cases q : n = 1
        · subst q; exact ok_n upd_same (by omega) (m1 rfl) (by omega)
        · exact ok_c (upd_ne (by omega)) hset.2.1
      · by_cases q : n = 2
        · subst q; exact ok_n upd_same (m2 rfl).1 (m2 rfl).2 (by omega)
        · exact ok_c (upd_ne (by omega)) hset.2.2
      · rw [cO_c (N := N) (upd_ne (by omega))] at ho2
        omega
      · rw [cR_c (N := N) (upd_ne (by omega))] at hr2
        omega
      · rw [upd_ne (by omega)] at e1
        rcases (h.2.2.2.2.1 u hu).2.2.2.2.2 with q | ⟨q1, q2, -⟩
        · rw [q] at e1; exact absurd e1.symm (nI_ne_m5 (by omega))
        · rw [q1, qI_eq (by omega) (by omega)] at e1; omega
    · show ¬ N n < 0
      have : n = 0 ∨ n = 1 ∨ n = 2 := by omega
      rcases this with rfl | rfl | rfl
      · rw [hset.1.1]; exact nI_n0 (by have := hset.1.2.2; omega)
      · rw [hset.2.1.1]; exact nI_n0 (by have := hset.2.1.2.2; omega)
      · rw [hset.2.2.1]; exact nI_n0 (by have := hset.2.2.2.2; omega)
  · rw [if_neg g]
    exact ⟨h, fun q => absurd q g⟩
theorem d_set (hd : 2 ≤ d) (hw : WF (S 41 0 0)) {c : Nat} (hc : c ≤ 8) (h2 : S 40 0 0 2 = nI c) {x1 x2 : Int32} : Wm d 157 [vR 40 0 0, vI x1, vI x2] S (fun q S' => q = some (vI (aSt (S 41 0 0) x1 x2).1) ∧ Dn c S S' (aSt (S 41 0 0) x1 x2).1 (aSt (S 41 0 0) x1 x2).2) := by
  have hok := (aSt_ok hw x1 x2).2
  refine Wm_of (c_set hd hc h2) ?_
  unfold aSt at *
  by_cases g : okSet x1 x2 = true
  · rw [if_pos g] at hok
    rw [if_pos g, if_pos g, if_pos g]
    exact ⟨rfl, Dn_sN (Dn_kr hc h2 (r := S 41 0 0 x1.toNatClampNeg) (hok g)) Iff.rfl⟩
  · rw [if_neg g, if_neg g, if_neg g]
    exact ⟨rfl, Dn_no (r := -2) h2 (by decide)⟩
theorem d_addOrder (hd : 2 ≤ d) (hw : WF (S 41 0 0)) {c : Nat} (hc : c ≤ 8) (h2 : S 40 0 0 2 = nI c) {x1 x2 x3 x4 x5 x6 : Int32} : Wm d 162 [vR 40 0 0, vI x1, vI x2, vI x3, vI x4, vI x5, vI x6] S (fun q S' => q = some (vI (aLayO (S 41 0 0) x1 x2 x3 x4 x5 x6).1) ∧ Dn c S S' (aLayO (S 41 0 0) x1 x2 x3 x4 x5 x6).1 (aLayO (S 41 0 0) x1 x2 x3 x4 x5 x6).2) := by
  refine Wm_of (c_addOrder hd hw.1 hc h2) ⟨rfl, ?_⟩
  obtain ⟨k1, k2, k3, k4, k5⟩ := kb_facts (S := S)
  refine Dn_chg hc (fM2_sN k1) ?_ ?_ (fun m hm => ?_) (sN_41 _ _)
  · rw [sN_k _ _ (by decide)]; exact k3
  · rw [sN_k _ _ (by decide), k4]; exact h2
  · rw [sN_k _ _ (by decide)]; exact k5 m hm
theorem d_addRoll (hd : 2 ≤ d) (hw : WF (S 41 0 0)) {c : Nat} (hc : c ≤ 8) (h2 : S 40 0 0 2 = nI c) {x1 x2 x3 : Int32} : Wm d 163 [vR 40 0 0, vI x1, vI x2, vI x3] S (fun q S' => q = some (vI (aLayR (S 41 0 0) x1 x2 x3).1) ∧ Dn c S S' (aLayR (S 41 0 0) x1 x2 x3).1 (aLayR (S 41 0 0) x1 x2 x3).2) := by
  refine Wm_of (c_addRoll hd hw.1 hc h2) ⟨rfl, ?_⟩
  obtain ⟨k1, k2, k3, k4, k5⟩ := kb_facts (S := S)
  refine Dn_chg hc (fM2_sN k1) ?_ ?_ (fun m hm => ?_) (sN_41 _ _)
  · rw [sN_k _ _ (by decide)]; exact k3
  · rw [sN_k _ _ (by decide), k4]; exact h2
  · rw [sN_k _ _ (by decide)]; exact k5 m hm
/-- what a reading call may change -/
def scE (k m : Nat) : Bool := sc2 k m || (scR k m || (k == 40 && (m == 8 || m == 9)))
def fE (S S' : bSt) : Prop := ∀ k i j m, scE k m = false → S' k i j m = S k i j m
theorem fE_trans {S T U : bSt} (h : fE S T) (g : fE T U) : fE S U := fun k i j m hm => (g k i j m hm).trans (h k i j m hm)
theorem fR_E {S T : bSt} (h : fR S T) : fE S T := by
  intro k i j m hs
  refine h k i j m ?_
  unfold scE at hs
  simp only [Bool.or_eq_false_iff] at hs
  exact hs.2.1
theorem f2_E {S T : bSt} (h : fM2 S T) : fE S T := by
  intro k i j m hs
  refine h k i j m ?_
  unfold scE at hs
  simp only [Bool.or_eq_false_iff] at hs
  exact hs.1
theorem fE_up {S T : bSt} {k i j m : Nat} {x : Int32} (h : fE S T) (hk : scE k m = true) : fE S (sUp T k i j m x) := by
  intro k' i' j' m' hs
  rw [← h k' i' j' m' hs]
  unfold sUp
  rw [if_neg]
  rintro ⟨rfl, -, -, rfl⟩
  rw [hk] at hs
  exact absurd hs (by decide)
/-- a reading call is done: its answer, the row, a reason if it was refused -/
def Dr (c : Nat) (S S' : bSt) (A : Int32 × NV × Option (Int32 × Int32)) : Prop := fE S S' ∧ S' 40 0 0 7 = 0 ∧ (∀ m, m < 282 → S' 41 0 0 m = A.2.1 m) ∧ ((A.1 < 0 ∧ S' 42 0 0 = S 42 0 0 ∧ S' 40 0 0 2 = nI c) ∨ (¬ A.1 < 0 ∧ S' 42 0 0 = psh (S 42 0 0) c (S 41 0 0) ∧ S' 40 0 0 2 = nI (min (c + 1) 8))) ∧ (match A.2.2 with
  | none => S' 40 0 0 8 = S 40 0 0 8 ∧ S' 40 0 0 9 = S 40 0 0 9
  | some (a, i) => S' 40 0 0 8 = a ∧ S' 40 0 0 9 = i)
def aRun (tx : Nat → Nat) (t : Nat) (N : NV) (x1 x2 : Int32) : Int32 × NV × Option (Int32 × Int32) :=
  if vR_ N x1 = true then (if 1 ≤ x2 then (if (rP tx t).1.2 = true then (-1000 - nI (rP tx t).1.1, N, none) else if aRefu N x1.toNatClampNeg x2 (rP tx t).2 = 0 then (N 5, nRun N x1 x2 (fun o => nI ((rP tx t).2 o)), none) else (-4, N, some (aRefu N x1.toNatClampNeg x2 (rP tx t).2, -5))) else (-2, N, none)) else (-1, N, none)
theorem rS_m (tx : Nat → Nat) (e : Nat) (q : Nat × Bool) : (rS tx e q).2.2 ≤ 9 := by
  unfold rS
  have h9 := dG_le (tx := tx) (e := e) (q := q) (l := 49) (by omega)
  dsimp only
  split <;> omega
theorem rPl_b {b : Nat} : ∀ n q P, (∀ o, P o ≤ b) → ∀ o, (rPl tx e n q P).2 o ≤ b + 9 * n := by
  intro n
  induction n generalizing b with
  | zero => intro q P h o; simp only [rPl]; have := h o; omega
  | succ n ih =>
    intro q P h o
    unfold rPl
    split
    · split
      · have := h o; dsimp only; omega
      · have := ih (b := b + 9) (rS tx e (eX tx e 43 q)).1 (addN P (rS tx e (eX tx e 43 q)).2.1 (rS tx e (eX tx e 43 q)).2.2) (fun o => by
          have h1 := rS_m tx e (eX tx e 43 q)
          have h2 := h o
          unfold addN
          split <;> omega) o
        omega
    · have := h o; dsimp only; omega
theorem rP_b (o : Nat) : (rP tx e).2 o < 10000 := by
  have := rPl_b (tx := tx) (e := e) (b := 9) 100 (rS tx e (0, false)).1 (addN (fun _ => 0) (rS tx e (0, false)).2.1 (rS tx e (0, false)).2.2) (fun o => by
    have h1 := rS_m tx e (0, false)
    unfold addN
    split <;> dsimp only <;> omega) o
  unfold rP
  omega
theorem c_run (hd : 6 ≤ d) (hw : WF (S 41 0 0)) {c : Nat} (hc : c ≤ 8) (h2 : S 40 0 0 2 = nI c) {t : Nat} (ht : t ≤ 80) (h7 : S 40 0 0 7 = nI t) (h3 : ∀ m, m < 80 → tx m < 127) (h4 : ∀ m, m < 80 → S 45 0 0 m = nI (tx m)) {x1 x2 : Int32} : Wm d 193 [vR 40 0 0, vI x1, vI x2] S (fun q S' => q = some (vI (aRun tx t (S 41 0 0) x1 x2).1) ∧ Dr c S S' (aRun tx t (S 41 0 0) x1 x2)) := by
  refine EW_193 ?_
  obtain ⟨q, S1, e1, rfl, f1, s7, m1, p1⟩ := Wm_ex (c_readsPattern (d := d - 1) (by omega) ht h7 h3 h4)
  have hN : S1 41 0 0 = S 41 0 0 := by funext m; exact f1 _ _ _ _ rfl
  have hP : S1 42 0 0 = S 42 0 0 := by funext m; exact f1 _ _ _ _ rfl
  have hc1 : S1 40 0 0 2 = nI c := by rw [f1 _ _ _ _ rfl]; exact h2
  have h8 : S1 40 0 0 8 = S 40 0 0 8 := f1 _ _ _ _ rfl
  have h9 : S1 40 0 0 9 = S 40 0 0 9 := f1 _ _ _ _ rfl
  have hi := c_isRoll (d := d - 1) (S := S1) (x1 := x1) (by omega)
  rw [hN] at hi
  refine (B_193_0 (by omega) e1 hi).mpr ?_
  unfold aRun vR_
  rw [inR_tf]
  refine icb (fun g => ?_) (fun g => ?_)
  · refine (B_193_12).mpr ?_
    rw [if_neg (by rw [g]; decide)]
    exact ⟨rfl, fR_E f1, s7, fun m _ => by rw [hN], Or.inl ⟨(show (-1 : Int32) < 0 from by decide), hP, hc1⟩, h8, h9⟩
  obtain ⟨r, rfl, hr, hr12⟩ := vR_ix hw.1 g
  rw [if_pos g, nI_clamp (by omega)]
  refine (B_193_14).mpr ?_
  rotate_left
  refine ic (fun g1 => ?_) (fun g1 => ?_)
  · rw [if_pos g1]
    refine (B_193_22).mpr ?_
    rw [m1.2.2.2.2.2.2]
    rotate_left
    refine icb (fun gw => ?_) (fun gw => ?_)
    · rw [if_neg (by rw [gw]; decide)]
      have cf := c_refusal (d := d - 1) (S := S1) (by omega) (by rw [hN]; exact hw) p1 (fun o => rP_b o) hr12 (l := x2)
      rw [hN] at cf
      refine (B_193_38 (by omega) cf).mpr ?_
      refine ic (fun gr => ?_) (fun gr => ?_)
      · rw [if_pos gr]
        obtain ⟨k1, k2, k3, k4, k5⟩ := kb_facts (S := S1)
        have h40 : sRow S1 44 0 0 282 (S1 41 0 0) 40 0 0 2 = nI c := by rw [k4]; exact hc1
        have hD := Dn_kr (S := S1) hc hc1 (r := S 41 0 0 5) (by rw [hw.1.2.2.2.2.1]; exact nI_n0 (by have := hw.1.2.2.2.2.2; omega))
        have e41 := sRem_41 (T := S1) hc
        have hrem := c_remember (d := d - 1) hc h40
        have g49 : ∀ m, sRem (sRow S1 44 0 0 282 (S1 41 0 0)) c 49 0 0 m = S1 49 0 0 m := by
          intro m
          have : sRem (sRow S1 44 0 0 282 (S1 41 0 0)) c 49 0 0 m = sRow S1 44 0 0 282 (S1 41 0 0) 49 0 0 m := by
            unfold sRem
            split <;> simp [sRem0, sSh]
          rw [this, sRow_k _ _ (by decide)]
        have g8 : ∀ m, m ≠ 2 → sRem (sRow S1 44 0 0 282 (S1 41 0 0)) c 40 0 0 m = S1 40 0 0 m := by
          intro m hm
          have : sRem (sRow S1 44 0 0 282 (S1 41 0 0)) c 40 0 0 m = sRow S1 44 0 0 282 (S1 41 0 0) 40 0 0 m := by
            unfold sRem
            split <;> simp [sRem0, sSh, hm]
          rw [this, sRow_k _ _ (by decide)]
        generalize sRem (sRow S1 44 0 0 282 (S1 41 0 0)) c = T at *
        have hlt : cU (S 41 0 0) < 16 := by
          rcases Nat.lt_or_ge (cU (S 41 0 0)) 16 with q | q
          · exact q
          · exfalso
            have h16 := hw.1.2.2.2.2.2
            have : S 41 0 0 5 = 16 := by rw [hw.1.2.2.2.2.1, show cU (S 41 0 0) = 16 by omega]; rfl
            unfold aRefu at gr
            rw [if_pos this] at gr
            exact absurd gr (by decide)
        have cc := c_comesRun (d := d - 1) (S := T) (by rw [e41, hN]; exact hw.1.2.2.2.2.1) (by rw [e41, hN]; exact hlt) (x1 := nI r) (x2 := x2)
        rw [e41, hN] at cc
        refine (B_193_63 (by omega) c_keepBefore hrem cc).mpr ?_
        have hD' := Dn_sN (N' := nRun (S 41 0 0) (nI r) x2 (T 49 0 0)) hD Iff.rfl
        obtain ⟨d1, d2, d3⟩ := hD'
        refine ⟨rfl, fE_trans (fR_E f1) (f2_E d1), ?_, fun m _ => ?_, ?_, ?_, ?_⟩
        · rw [sN_k _ _ (by decide), g8 7 (by decide)]; exact s7
        · rw [d2]
          dsimp only
          rw [nRun_congr (P' := fun o => nI ((rP tx t).2 o)) (fun o ho => by rw [g49, p1 o (by omega)])]
        · rw [hP, hN] at d3
          exact d3
        · rw [sN_k _ _ (by decide), g8 8 (by decide)]; exact h8
        · rw [sN_k _ _ (by decide), g8 9 (by decide)]; exact h9
      rw [if_neg gr]
      refine (B_193_49).mpr ?_
      refine ⟨rfl, fE_up (fE_up (fR_E f1) rfl) rfl, ?_, fun m _ => ?_, Or.inl ⟨(show (-4 : Int32) < 0 from by decide), ?_, ?_⟩, ?_, sUp_same⟩
      · rw [sUp_slot (by decide), sUp_slot (by decide)]; exact s7
      · rw [sUp_kind (by decide), sUp_kind (by decide), hN]
      · funext m; rw [sUp_kind (by decide), sUp_kind (by decide), hP]
      · rw [sUp_slot (by decide), sUp_slot (by decide)]; exact hc1
      · rw [sUp_slot (by decide), sUp_same]
    rw [if_pos gw]
    refine (B_193_29).mpr ?_
    rw [m1.2.2.2.2.2.1]
    refine ⟨rfl, fR_E f1, s7, fun m _ => by rw [hN], Or.inl ⟨?_, hP, hc1⟩, h8, h9⟩
    have hle := m1.1
    generalize (rP tx t).1.1 = n at *
    show (-1000 - nI n : Int32) < 0
    have : ∀ n, n ≤ 80 → (-1000 - nI n : Int32) < 0 := by decide
    exact this n (by omega)
  refine (B_193_19).mpr ?_
  rw [if_neg g1]
  exact ⟨rfl, fR_E f1, s7, fun m _ => by rw [hN], Or.inl ⟨(show (-2 : Int32) < 0 from by decide), hP, hc1⟩, h8, h9⟩
end M15m
