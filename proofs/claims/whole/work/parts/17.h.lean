/-! THE CLASS, 13: remove, swap, split, keep as calls -/
section M17h
variable {d : Nat} {S : bSt} {N : NV}
theorem K_remove (hd : 3 ≤ d) {c : Nat} {P : Nat → NV} (hC : CS S N c P) {x1 : Int32} : Wm d 110 [vR 0 0 0, vI x1] S (fun q S' => q = some (vI (aRemv N x1).1) ∧ Dc S S' N c P (aRemv N x1).1 (aRemv N x1).2) := by
  refine EW_110 ?_
  obtain ⟨S1, e1, f1, p1, c1⟩ := k_earlier (d := d - 1) (by omega) hC (a := 1) (Or.inl rfl)
  have hw := CS_W hC
  obtain ⟨q, S2, e2, rfl, f2, p2⟩ := Wm_ex (k_takeOut (d := d - 1) (i := 0) (by omega) (CS_P c1) hw (by omega) (x1 := x1))
  obtain ⟨q, S3, e3, rfl, f3, h3⟩ := Wm_ex (K_settled (d := d - 1) (by omega) (CS_op c1 (fK_O f2) p2 (WF_aRemv hw x1)) (fK_PR f2 (by omega) p1) hw (r := (aRemv N x1).1))
  refine (B_110_0 (by omega) e1 e2 e3).mpr ?_
  exact ⟨rfl, fC_trans (fC_trans (fK_C (by omega) f1) (fK_C (by omega) f2)) f3, h3⟩
theorem K_swap (hd : 4 ≤ d) {c : Nat} {P : Nat → NV} (hC : CS S N c P) {x1 x2 : Int32} : Wm d 114 [vR 0 0 0, vI x1, vI x2] S (fun q S' => q = some (vI (aSwap N x1 x2).1) ∧ Dc S S' N c P (aSwap N x1 x2).1 (aSwap N x1 x2).2) := by
  refine EW_114 ?_
  obtain ⟨S1, e1, f1, p1, c1⟩ := k_earlier (d := d - 1) (by omega) hC (a := 1) (Or.inl rfl)
  have hw := CS_W hC
  obtain ⟨q, S2, e2, rfl, f2, p2⟩ := Wm_ex (k_exchange (d := d - 1) (i := 0) (by omega) (CS_P c1) hw (by omega) (x1 := x1) (x2 := x2))
  obtain ⟨q, S3, e3, rfl, f3, h3⟩ := Wm_ex (K_settled (d := d - 1) (by omega) (CS_op c1 (fK_O f2) p2 (WF_aSwap hw x1 x2)) (fK_PR f2 (by omega) p1) hw (r := (aSwap N x1 x2).1))
  refine (B_114_0 (by omega) e1 e2 e3).mpr ?_
  exact ⟨rfl, fC_trans (fC_trans (fK_C (by omega) f1) (fK_C (by omega) f2)) f3, h3⟩
theorem K_split (hd : 3 ≤ d) {c : Nat} {P : Nat → NV} (hC : CS S N c P) {x1 x2 : Int32} : Wm d 115 [vR 0 0 0, vI x1, vI x2] S (fun q S' => q = some (vI (aSplt N x1 x2).1) ∧ Dc S S' N c P (aSplt N x1 x2).1 (aSplt N x1 x2).2) := by
  refine EW_115 ?_
  obtain ⟨S1, e1, f1, p1, c1⟩ := k_earlier (d := d - 1) (by omega) hC (a := 1) (Or.inl rfl)
  have hw := CS_W hC
  obtain ⟨q, S2, e2, rfl, f2, p2⟩ := Wm_ex (k_divide (d := d - 1) (i := 0) (by omega) (CS_P c1) hw (by omega) (x1 := x1) (x2 := x2))
  obtain ⟨q, S3, e3, rfl, f3, h3⟩ := Wm_ex (K_settled (d := d - 1) (by omega) (CS_op c1 (fK_O f2) p2 (WF_aSplt hw x1 x2)) (fK_PR f2 (by omega) p1) hw (r := (aSplt N x1 x2).1))
  refine (B_115_0 (by omega) e1 e2 e3).mpr ?_
  exact ⟨rfl, fC_trans (fC_trans (fK_C (by omega) f1) (fK_C (by omega) f2)) f3, h3⟩
theorem K_keep (hd : 3 ≤ d) {c : Nat} {P : Nat → NV} (hC : CS S N c P) {x1 : Int32} : Wm d 120 [vR 0 0 0, vI x1] S (fun q S' => q = some (vI (aKeep N x1).1) ∧ Dc S S' N c P (aKeep N x1).1 (aKeep N x1).2) := by
  refine EW_120 ?_
  obtain ⟨S1, e1, f1, p1, c1⟩ := k_earlier (d := d - 1) (by omega) hC (a := 1) (Or.inl rfl)
  have hw := CS_W hC
  obtain ⟨q, S2, e2, rfl, f2, p2⟩ := Wm_ex (k_keepRemnant (d := d - 1) (i := 0) (by omega) (CS_P c1) hw (by omega) (x1 := x1))
  obtain ⟨q, S3, e3, rfl, f3, h3⟩ := Wm_ex (K_settled (d := d - 1) (by omega) (CS_op c1 (fK_O f2) p2 (WF_aKeep hw x1)) (fK_PR f2 (by omega) p1) hw (r := (aKeep N x1).1))
  refine (B_120_0 (by omega) e1 e2 e3).mpr ?_
  exact ⟨rfl, fC_trans (fC_trans (fK_C (by omega) f1) (fK_C (by omega) f2)) f3, h3⟩
end M17h
