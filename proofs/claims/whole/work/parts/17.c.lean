/-! THE CLASS, 8: the past; set, addOrder, addRoll, undo, save, restore -/
section M17c
variable {d : Nat} {S : bSt} {N : NV}
/-- the plan, its past of c plans, all run objects in place -/
def CS (S : bSt) (N : NV) (c : Nat) (P : Nat → NV) : Prop := ∃ f, f < 8 ∧ S 0 0 0 10 = nI f ∧ S 0 0 0 11 = nI c ∧ c ≤ 8 ∧ PR S 0 N ∧ (∀ i, i < 12 → IX S i) ∧ (∀ p, p < c → PR S (4 + (f + p) % 8) (P p) ∧ WF (P p)) ∧ WF N
def fC (S S' : bSt) : Prop := ∀ k i j m, ¬ (1 ≤ k ∧ k ≤ 10 ∧ i ≠ 3) → ¬ (12 ≤ k ∧ k ≤ 25) → ¬ (k = 0 ∧ (m = 10 ∨ m = 11)) → S' k i j m = S k i j m
/-- what an act on the plan itself may change -/
def fO (S S' : bSt) : Prop := ∀ k i j m, ¬ (1 ≤ k ∧ k ≤ 10 ∧ i = 0) → ¬ (12 ≤ k ∧ k ≤ 25) → S' k i j m = S k i j m
theorem fC_refl (S : bSt) : fC S S := fun _ _ _ _ _ _ _ => rfl
theorem fC_trans {S T U : bSt} (h : fC S T) (g : fC T U) : fC S U := fun k i j m h1 h2 h3 => (g k i j m h1 h2 h3).trans (h k i j m h1 h2 h3)
theorem fO_C {S T : bSt} (h : fO S T) : fC S T := fun k i j m h1 h2 _ => h k i j m (fun q => h1 ⟨q.1, q.2.1, by omega⟩) h2
theorem fK_C {a : Nat} {S T : bSt} (ha : a ≠ 3) (h : fK a S T) : fC S T := fun k i j m h1 _ _ => h k i j m (fun q => h1 ⟨q.1, q.2.1, by omega⟩)
theorem fK_O {S T : bSt} (h : fK 0 S T) : fO S T := fun k i j m h1 _ => h k i j m h1
theorem fO_trans {S T U : bSt} (h : fO S T) (g : fO T U) : fO S U := fun k i j m h1 h2 => (g k i j m h1 h2).trans (h k i j m h1 h2)
theorem fO_refl (S : bSt) : fO S S := fun _ _ _ _ _ _ => rfl
theorem fO_PR {i : Nat} {S' : bSt} (h : fO S S') (hi : i ≠ 0) (hP : PR S i N) : PR S' i N := PR_eq (fun k j m _ _ => h k i j m (fun q => hi q.2.2) (by omega)) hP
theorem fO_IX {i : Nat} {S' : bSt} (h : fO S S') (hi : i ≠ 0) (hP : IX S i) : IX S' i := IX_eq (fun m => h 7 i 0 m (fun q => hi q.2.2) (by omega)) hP
theorem fK_IX {a i : Nat} {S' : bSt} (h : fK a S S') (hi : i ≠ a) (hP : IX S i) : IX S' i := IX_eq (fun m => h 7 i 0 m (fun q => hi q.2.2)) hP
theorem CS_op {S' : bSt} {N' : NV} {c : Nat} {P : Nat → NV} (h : CS S N c P) (hf : fO S S') (hP : PR S' 0 N') (hw : WF N') : CS S' N' c P := by
  obtain ⟨f, f8, h10, h11, c8, -, hX, hp, -⟩ := h
  refine ⟨f, f8, by rw [hf _ _ _ _ (by omega) (by omega)]; exact h10, by rw [hf _ _ _ _ (by omega) (by omega)]; exact h11, c8, hP, fun i hi => ?_, fun p hpc => ⟨fO_PR hf (by omega) (hp p hpc).1, (hp p hpc).2⟩, hw⟩
  by_cases g : i = 0
  · subst g; exact PR_IX hP
  · exact fO_IX hf g (hX i hi)
/-- the plan is kept as it was -/
theorem CS_earlier {S' : bSt} {c : Nat} {P : Nat → NV} {a : Nat} (h : CS S N c P) (hf : fK a S S') (ha : a = 1 ∨ a = 2) (hP : PR S' a N) : CS S' N c P := by
  obtain ⟨f, f8, h10, h11, c8, h0, hX, hp, hw⟩ := h
  refine ⟨f, f8, by rw [hf _ _ _ _ (by omega)]; exact h10, by rw [hf _ _ _ _ (by omega)]; exact h11, c8, fK_PR hf (by omega) h0, fun i hi => ?_, fun p hpc => ⟨fK_PR hf (by omega) (hp p hpc).1, (hp p hpc).2⟩, hw⟩
  by_cases g : i = a
  · subst g; exact PR_IX hP
  · exact fK_IX hf g (hX i hi)
def pushP (c : Nat) (P : Nat → NV) (N : NV) : Nat → NV := fun p => if c = 8 then (if p < 7 then P (p + 1) else N) else (if p < c then P p else N)
theorem mod8 {a : Nat} (h : a < 1000) : nI a - nI a / 8 * 8 = nI (a % 8) := by
  rw [show (8 : Int32) = nI 8 from rfl, qI_div (by omega) (by omega) (by omega), ← qI_mul, qI_sub (by omega)]
  congr 1
  omega
theorem K_settled (hd : 2 ≤ d) {N' : NV} {c : Nat} {P : Nat → NV} (hC : CS S N' c P) (h1 : PR S 1 N) (hw : WF N) {r : Int32} : Wm d 130 [vR 0 0 0, vI r] S (fun q S' => q = some (vI r) ∧ fC S S' ∧ ((r < 0 ∧ CS S' N' c P) ∨ (¬ r < 0 ∧ CS S' N' (min (c + 1) 8) (pushP c P N)))) := by
  refine EW_130 ?_
  refine (B_130_0).mpr ?_
  rotate_left
  refine ic (fun g => ?_) (fun g => ?_)
  · have hr : ¬ r < 0 := Int32.not_lt.mpr g
    obtain ⟨f, f8, h10, h11, c8, h0, hX, hp, hw'⟩ := hC
    refine (B_130_6).mpr ?_
    -- the copy goes behind the past
    have push : ∀ (T : bSt) (f' c' : Nat), f' < 8 → c' < 8 → T 0 0 0 10 = nI f' → T 0 0 0 11 = nI c' → (∀ k i j m, k ≠ 0 → T k i j m = S k i j m) → (∀ m, m ≠ 10 → m ≠ 11 → T 0 0 0 m = S 0 0 0 m) → (∀ k i j m, ¬ (k = 0 ∧ i = 0 ∧ j = 0) → T k i j m = S k i j m) → (∀ p, p < c' → PR S (4 + (f' + p) % 8) (pushP c P N p) ∧ WF (pushP c P N p)) → pushP c P N c' = N → c' + 1 = min (c + 1) 8 → Wp d 130 38 [some (vR 0 0 0), some (vI r)] [] T (fun q S' => q = some (vI r) ∧ fC S S' ∧ ((r < 0 ∧ CS S' N' c P) ∨ (¬ r < 0 ∧ CS S' N' (min (c + 1) 8) (pushP c P N)))) := by
      intro T f' c' hf' hc' t10 t11 tk t0 ta hpp hlast hcc
      have hidx : (f' + c') % 8 < 8 := Nat.mod_lt _ (by omega)
      have PT : ∀ {i : Nat} {M : NV}, PR S i M → PR T i M := fun h => PR_eq (fun k j m h1 _ => tk k _ j m (by omega)) h
      have XT : ∀ {i : Nat}, IX S i → IX T i := fun h => IX_eq (fun m => tk 7 _ 0 m (by omega)) h
      obtain ⟨q, S1, e1, rfl, g1, g2⟩ := Wm_ex (k_copyFrom (d := d - 1) (S := T) (a := (f' + c') % 8 + 4) (b := 1) (by omega) (by omega) (by omega) (by omega) (XT (hX _ (by omega))) (PT h1) hw)
      refine (B_130_38 (n1_ := (f' + c') % 8) (by omega) (by rw [t10, t11, ← qI_add]; exact mod8 (by omega)) hidx e1 (bk1 (by omega))).mpr ?_
      have s11 : S1 0 0 0 11 = nI c' := by rw [g1 _ _ _ _ (by omega)]; exact t11
      rw [s11, qI_succ]
      have PU : ∀ {i : Nat} {M : NV}, i ≠ (f' + c') % 8 + 4 → PR S i M → PR (sUp S1 0 0 0 11 (nI (c' + 1))) i M := fun hne h => PR_eq (fun k j m h1 _ => sUp_kind (by omega)) (fK_PR g1 hne (PT h))
      have PN : PR (sUp S1 0 0 0 11 (nI (c' + 1))) ((f' + c') % 8 + 4) N := PR_eq (fun k j m h1 _ => sUp_kind (by omega)) g2
      refine ⟨rfl, fun k i j m q1 q2 q3 => ?_, Or.inr ⟨hr, f', hf', ?_, by rw [← hcc]; exact sUp_same, Nat.min_le_right _ _, PU (by omega) h0, fun i hi => ?_, fun p hpc => ?_, hw'⟩⟩
      · have : sUp S1 0 0 0 11 (nI (c' + 1)) k i j m = S1 k i j m := by
          unfold sUp
          rw [if_neg]
          rintro ⟨rfl, rfl, rfl, rfl⟩
          exact q3 ⟨rfl, Or.inr rfl⟩
        rw [this, g1 _ _ _ _ (fun z => q1 ⟨z.1, z.2.1, by omega⟩)]
        by_cases z : k = 0 ∧ i = 0 ∧ j = 0
        · obtain ⟨rfl, rfl, rfl⟩ := z
          exact t0 m (fun z => q3 ⟨rfl, Or.inl z⟩) (fun z => q3 ⟨rfl, Or.inr z⟩)
        · exact ta k i j m z
      · rw [sUp_slot (by decide), g1 _ _ _ _ (by omega)]; exact t10
      · by_cases gi : i = (f' + c') % 8 + 4
        · subst gi; exact PR_IX PN
        · exact IX_eq (fun m => sUp_kind (by decide)) (fK_IX g1 gi (XT (hX i hi)))
      · by_cases gp : p = c'
        · subst gp
          rw [hlast, show 4 + (f' + p) % 8 = (f' + p) % 8 + 4 by omega]
          exact ⟨PN, hw⟩
        · exact ⟨PU (by omega) (hpp p (by omega)).1, (hpp p (by omega)).2⟩
    rw [h11]
    refine icT ((show nI c = 8 ↔ c = 8 from qI_eq (b := 8) (by omega) (by omega))) (fun g8 => ?_) (fun g8 => ?_)
    · subst g8
      refine (B_130_15).mpr ?_
      rw [h10, show nI f + 1 = nI (f + 1) from qI_succ f, mod8 (by omega), sUp_slot (by decide), h11, show nI 8 - 1 = nI 7 from by decide]
      refine push _ ((f + 1) % 8) 7 (Nat.mod_lt _ (by omega)) (by omega) (by rw [sUp_slot (by decide), sUp_same]) sUp_same (fun k i j m hk => by rw [sUp_kind hk, sUp_kind hk]) (fun m m1 m2 => by rw [sUp_slot m2, sUp_slot m1]) (fun k i j m z => ?_) (fun p hp7 => ?_) rfl (by omega)
      · unfold sUp
        rw [if_neg (fun q => z ⟨q.1, q.2.1, q.2.2.1⟩), if_neg (fun q => z ⟨q.1, q.2.1, q.2.2.1⟩)]
      · have e : pushP 8 P N p = P (p + 1) := by
          unfold pushP
          rw [if_pos rfl, if_pos hp7]
        rw [e, show 4 + ((f + 1) % 8 + p) % 8 = 4 + (f + (p + 1)) % 8 by omega]
        exact hp (p + 1) (by omega)
    refine push S f c f8 (by omega) h10 h11 (fun _ _ _ _ _ => rfl) (fun _ _ _ => rfl) (fun _ _ _ _ _ => rfl) (fun p hpc => ?_) ?_ (by omega)
    · have e : pushP c P N p = P p := by
        unfold pushP
        rw [if_neg g8, if_pos hpc]
      rw [e]
      exact hp p hpc
    · unfold pushP
      rw [if_neg g8, if_neg (Nat.lt_irrefl _)]
  refine (B_130_4).mpr ?_
  exact ⟨rfl, fC_refl S, Or.inl ⟨Int32.not_le.mp g, hC⟩⟩
/-- what a change of the class comes to -/
def Dc (S S' : bSt) (N : NV) (c : Nat) (P : Nat → NV) (r : Int32) (N' : NV) : Prop := fC S S' ∧ ((r < 0 ∧ CS S' N' c P) ∨ (¬ r < 0 ∧ CS S' N' (min (c + 1) 8) (pushP c P N)))
theorem k_earlier (hd : 1 ≤ d) {c : Nat} {P : Nat → NV} (hC : CS S N c P) {a : Nat} (ha : a = 1 ∨ a = 2) : ∃ S', Ret d 13 [vR 1 a 0, vR 1 0 0] S none S' ∧ fK a S S' ∧ PR S' a N ∧ CS S' N c P := by
  have hC' := hC
  obtain ⟨f, f8, h10, h11, c8, h0, hX, hp, hw⟩ := hC'
  obtain ⟨q, S1, e1, rfl, g1, g2⟩ := Wm_ex (k_copyFrom (d := d) (S := S) (a := a) (b := 0) (by omega) (by omega) (by omega) hd (hX _ (by omega)) h0 hw)
  exact ⟨S1, e1, g1, g2, CS_earlier hC g1 ha g2⟩
theorem CS_P {c : Nat} {P : Nat → NV} (h : CS S N c P) : PR S 0 N := by
  obtain ⟨f, f8, h10, h11, c8, h0, hX, hp, hw⟩ := h
  exact h0
theorem CS_W {c : Nat} {P : Nat → NV} (h : CS S N c P) : WF N := by
  obtain ⟨f, f8, h10, h11, c8, h0, hX, hp, hw⟩ := h
  exact hw
theorem K_set (hd : 3 ≤ d) {c : Nat} {P : Nat → NV} (hC : CS S N c P) (hS : Stc S) {x1 x2 : Int32} : Wm d 96 [vR 0 0 0, vI x1, vI x2] S (fun q S' => q = some (vI (aSt N x1 x2).1) ∧ Dc S S' N c P (aSt N x1 x2).1 (aSt N x1 x2).2) := by
  refine EW_96 ?_
  obtain ⟨S1, e1, f1, p1, c1⟩ := k_earlier (d := d - 1) (by omega) hC (a := 1) (Or.inl rfl)
  have hw := CS_W hC
  have hS1 : Stc S1 := by
    unfold Stc at *
    simp only [show ∀ m, S1 34 0 0 m = S 34 0 0 m from fun m => f1 34 0 0 m (by omega), show ∀ m, S1 35 0 0 m = S 35 0 0 m from fun m => f1 35 0 0 m (by omega)]
    exact hS
  obtain ⟨q, S2, e2, rfl, f2, p2⟩ := Wm_ex (k_changeSetting (d := d - 1) (i := 0) (by omega) (CS_P c1) hw hS1 (by omega) (x1 := x1) (x2 := x2))
  obtain ⟨q, S3, e3, rfl, f3, h3⟩ := Wm_ex (K_settled (d := d - 1) (by omega) (CS_op c1 (fK_O f2) p2 (aSt_ok hw x1 x2).1) (fK_PR f2 (by omega) p1) hw (r := (aSt N x1 x2).1))
  refine (B_96_0 (by omega) e1 e2 e3).mpr ?_
  exact ⟨rfl, fC_trans (fC_trans (fK_C (by omega) f1) (fK_C (by omega) f2)) f3, h3⟩
theorem K_addOrder (hd : 3 ≤ d) {c : Nat} {P : Nat → NV} (hC : CS S N c P) {x1 x2 x3 x4 x5 x6 : Int32} : Wm d 97 [vR 0 0 0, vI x1, vI x2, vI x3, vI x4, vI x5, vI x6] S (fun q S' => q = some (vI (aLayO N x1 x2 x3 x4 x5 x6).1) ∧ Dc S S' N c P (aLayO N x1 x2 x3 x4 x5 x6).1 (aLayO N x1 x2 x3 x4 x5 x6).2) := by
  refine EW_97 ?_
  obtain ⟨S1, e1, f1, p1, c1⟩ := k_earlier (d := d - 1) (by omega) hC (a := 1) (Or.inl rfl)
  have hw := CS_W hC
  obtain ⟨q, S2, e2, rfl, f2, p2⟩ := Wm_ex (k_putOrder (d := d - 1) (i := 0) (by omega) (CS_P c1) hw (by omega) (x1 := x1) (x2 := x2) (x3 := x3) (x4 := x4) (x5 := x5) (x6 := x6))
  obtain ⟨q, S3, e3, rfl, f3, h3⟩ := Wm_ex (K_settled (d := d - 1) (by omega) (CS_op c1 (fK_O f2) p2 (WF_aLayO hw _ _ _ _ _ _)) (fK_PR f2 (by omega) p1) hw (r := (aLayO N x1 x2 x3 x4 x5 x6).1))
  refine (B_97_0 (by omega) e1 e2 e3).mpr ?_
  exact ⟨rfl, fC_trans (fC_trans (fK_C (by omega) f1) (fK_C (by omega) f2)) f3, h3⟩
theorem K_addRoll (hd : 3 ≤ d) {c : Nat} {P : Nat → NV} (hC : CS S N c P) {x1 x2 x3 : Int32} : Wm d 98 [vR 0 0 0, vI x1, vI x2, vI x3] S (fun q S' => q = some (vI (aLayR N x1 x2 x3).1) ∧ Dc S S' N c P (aLayR N x1 x2 x3).1 (aLayR N x1 x2 x3).2) := by
  refine EW_98 ?_
  obtain ⟨S1, e1, f1, p1, c1⟩ := k_earlier (d := d - 1) (by omega) hC (a := 1) (Or.inl rfl)
  have hw := CS_W hC
  obtain ⟨q, S2, e2, rfl, f2, p2⟩ := Wm_ex (k_putRoll (d := d - 1) (i := 0) (by omega) (CS_P c1) hw (by omega) (x1 := x1) (x2 := x2) (x3 := x3))
  obtain ⟨q, S3, e3, rfl, f3, h3⟩ := Wm_ex (K_settled (d := d - 1) (by omega) (CS_op c1 (fK_O f2) p2 (WF_aLayR hw _ _ _)) (fK_PR f2 (by omega) p1) hw (r := (aLayR N x1 x2 x3).1))
  refine (B_98_0 (by omega) e1 e2 e3).mpr ?_
  exact ⟨rfl, fC_trans (fC_trans (fK_C (by omega) f1) (fK_C (by omega) f2)) f3, h3⟩
theorem K_undo0 {P : Nat → NV} (hC : CS S N 0 P) : Ret d 126 [vR 0 0 0] S (some (vI (-5))) S := by
  obtain ⟨f, f8, h10, h11, c8, h0, hX, hp, hw⟩ := hC
  refine E_126 ?_
  refine (B_126_0).mpr ?_
  rw [if_pos (by rw [h11]; rfl)]
  refine (B_126_7).mpr ?_
  exact ⟨rfl, rfl⟩
theorem K_undo1 (hd : 2 ≤ d) {c : Nat} {P : Nat → NV} (hC : CS S N (c + 1) P) : Wm d 126 [vR 0 0 0] S (fun q S' => q = some (vI (nI c)) ∧ fC S S' ∧ CS S' (P c) c P) := by
  obtain ⟨f, f8, h10, h11, c8, h0, hX, hp, hw⟩ := hC
  refine EW_126 ?_
  refine (B_126_0).mpr ?_
  rw [if_neg (by rw [h11, show (0 : Int32) = nI 0 from rfl, qI_eq (by omega) (by omega)]; omega)]
  have e11 : S 0 0 0 11 - 1 = nI c := by rw [h11]; exact nI_m1
  have hidx : (f + c) % 8 < 8 := Nat.mod_lt _ (by omega)
  have tk : ∀ k i j m, k ≠ 0 → sUp S 0 0 0 11 (S 0 0 0 11 - 1) k i j m = S k i j m := fun k i j m hk => sUp_kind hk
  have PT : ∀ {i : Nat} {M : NV}, PR S i M → PR (sUp S 0 0 0 11 (S 0 0 0 11 - 1)) i M := fun h => PR_eq (fun k j m h1 _ => tk k _ j m (by omega)) h
  have XT : ∀ {i : Nat}, IX S i → IX (sUp S 0 0 0 11 (S 0 0 0 11 - 1)) i := fun h => IX_eq (fun m => tk 7 _ 0 m (by omega)) h
  have t10 : sUp S 0 0 0 11 (S 0 0 0 11 - 1) 0 0 0 10 = nI f := by rw [sUp_slot (by decide)]; exact h10
  have t11 : sUp S 0 0 0 11 (S 0 0 0 11 - 1) 0 0 0 11 = nI c := by rw [sUp_same]; exact e11
  obtain ⟨q, S1, e1, rfl, g1, g2⟩ := Wm_ex (k_copyFrom (d := d - 1) (S := sUp S 0 0 0 11 (S 0 0 0 11 - 1)) (a := 0) (b := (f + c) % 8 + 4) (by omega) (by omega) (by omega) (by omega) (XT (hX _ (by omega))) (N := P c) (PT (by rw [Nat.add_comm]; exact (hp c (by omega)).1)) (hp c (by omega)).2)
  refine (B_126_10 (n1_ := (f + c) % 8) (by omega) (by rw [t10, t11, ← qI_add]; exact mod8 (by omega)) hidx e1).mpr ?_
  have s11 : S1 0 0 0 11 = nI c := by rw [g1 _ _ _ _ (by omega)]; exact t11
  rw [s11]
  refine ⟨rfl, fun k i j m q1 q2 q3 => ?_, f, f8, by rw [g1 _ _ _ _ (by omega)]; exact t10, s11, by omega, g2, fun i hi => ?_, fun p hpc => ⟨fK_PR g1 (by omega) (PT (hp p (by omega)).1), (hp p (by omega)).2⟩, (hp c (by omega)).2⟩
  · rw [g1 _ _ _ _ (fun z => q1 ⟨z.1, z.2.1, by omega⟩)]
    unfold sUp
    rw [if_neg]
    rintro ⟨rfl, rfl, rfl, rfl⟩
    exact q3 ⟨rfl, Or.inr rfl⟩
  · by_cases gi : i = 0
    · subst gi; exact PR_IX g2
    · exact fK_IX g1 gi (XT (hX i hi))
theorem K_save (hd : 2 ≤ d) {c : Nat} {P : Nat → NV} (hC : CS S N c P) : Wm d 127 [vR 0 0 0] S (fun q S' => q = some (vI (N 5)) ∧ (∀ k i j m, ¬ (1 ≤ k ∧ k ≤ 10 ∧ i = 3) → ¬ (k = 0 ∧ m = 12) → S' k i j m = S k i j m) ∧ S' 0 0 0 12 = 1 ∧ CS S' N c P ∧ PR S' 3 N) := by
  obtain ⟨f, f8, h10, h11, c8, h0, hX, hp, hw⟩ := hC
  refine EW_127 ?_
  obtain ⟨q, S1, e1, rfl, g1, g2⟩ := Wm_ex (k_copyFrom (d := d - 1) (S := S) (a := 3) (b := 0) (by omega) (by omega) (by omega) (by omega) (hX _ (by omega)) h0 hw)
  refine (B_127_0 (by omega) e1).mpr ?_
  have PU : ∀ {i : Nat} {M : NV}, PR S1 i M → PR (sUp S1 0 0 0 12 1) i M := fun h => PR_eq (fun k j m h1 _ => sUp_kind (by omega)) h
  refine ⟨?_, fun k i j m q1 q2 => ?_, sUp_same, ⟨f, f8, ?_, ?_, c8, PU (fK_PR g1 (by omega) h0), fun i hi => ?_, fun p hpc => ⟨PU (fK_PR g1 (by omega) (hp p hpc).1), (hp p hpc).2⟩, hw⟩, PU g2⟩
  · rw [sUp_kind (by decide), g1 _ _ _ _ (by omega), h0.2.1.2.2]
  · have : sUp S1 0 0 0 12 1 k i j m = S1 k i j m := by
      unfold sUp
      rw [if_neg]
      rintro ⟨rfl, rfl, rfl, rfl⟩
      exact q2 ⟨rfl, rfl⟩
    rw [this, g1 _ _ _ _ q1]
  · rw [sUp_slot (by decide), g1 _ _ _ _ (by omega)]; exact h10
  · rw [sUp_slot (by decide), g1 _ _ _ _ (by omega)]; exact h11
  · by_cases gi : i = 3
    · subst gi; exact PR_IX (PU g2)
    · exact IX_eq (fun m => sUp_kind (by decide)) (fK_IX g1 gi (hX i hi))
theorem K_restore0 (h : S 0 0 0 12 = 0) : Ret d 128 [vR 0 0 0] S (some (vI (-5))) S := by
  refine E_128 ?_
  refine (B_128_0).mpr ?_
  rw [if_pos (h)]
  refine (B_128_7).mpr ?_
  exact ⟨rfl, rfl⟩
theorem K_restore1 (hd : 2 ≤ d) {c : Nat} {P : Nat → NV} {V : NV} (hC : CS S N c P) (h : S 0 0 0 12 ≠ 0) (hV : PR S 3 V) (hwV : WF V) (P' : Nat → NV) : Wm d 128 [vR 0 0 0] S (fun q S' => q = some (vI (V 5)) ∧ fC S S' ∧ CS S' V 0 P') := by
  obtain ⟨f, f8, h10, h11, c8, h0, hX, hp, hw⟩ := hC
  refine EW_128 ?_
  refine (B_128_0).mpr ?_
  rw [if_neg (h)]
  obtain ⟨q, S1, e1, rfl, g1, g2⟩ := Wm_ex (k_copyFrom (d := d - 1) (S := S) (a := 0) (b := 3) (by omega) (by omega) (by omega) (by omega) (hX _ (by omega)) hV hwV)
  refine (B_128_10 (by omega) e1).mpr ?_
  have PU : ∀ {i : Nat} {M : NV}, PR S1 i M → PR (sUp S1 0 0 0 11 0) i M := fun h => PR_eq (fun k j m h1 _ => sUp_kind (by omega)) h
  refine ⟨?_, fun k i j m q1 q2 q3 => ?_, f, f8, ?_, sUp_same, by omega, PU g2, fun i hi => ?_, fun p hpc => absurd hpc (Nat.not_lt_zero _), hwV⟩
  · rw [sUp_kind (by decide), g2.2.1.2.2]
  · have : sUp S1 0 0 0 11 0 k i j m = S1 k i j m := by
      unfold sUp
      rw [if_neg]
      rintro ⟨rfl, rfl, rfl, rfl⟩
      exact q3 ⟨rfl, Or.inr rfl⟩
    rw [this, g1 _ _ _ _ (fun z => q1 ⟨z.1, z.2.1, by omega⟩)]
  · rw [sUp_slot (by decide), g1 _ _ _ _ (by omega)]; exact h10
  · by_cases gi : i = 0
    · subst gi; exact PR_IX (PU g2)
    · exact IX_eq (fun m => sUp_kind (by decide)) (fK_IX g1 gi (hX i hi))
end M17c
