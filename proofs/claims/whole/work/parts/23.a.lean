/-! THE LAW: the memory at the loop's start holds the relation -/
section M23a
/-- the first memory: the script xs of L numbers, the three lists of settings -/
def bS0 (L : Nat) (xs : Nat → Int32) : bSt := fun k i _ m => if k = 36 then (if i = 0 then xs m else nI L) else if k = 33 then ([6, 3, 20] : List Int32).getD m 0 else if k = 34 then ([2, 0, 10] : List Int32).getD m 0 else if k = 35 then ([7, 20, 99] : List Int32).getD m 0 else kS0 k m
variable {L : Nat} {xs : Nat → Int32}
theorem bS0_k {k i j m : Nat} (h : k < 33 ∨ 36 < k) : bS0 L xs k i j m = kS0 k m := by
  unfold bS0
  rw [if_neg (by omega), if_neg (by omega), if_neg (by omega), if_neg (by omega)]
theorem bS0_41 : ∀ m, bS0 L xs 41 0 0 m = ([6, 3, 20] : List Int32).getD m 0 := fun m => by
  rw [bS0_k (by omega)]
  rfl
theorem bS0_z {k i j m : Nat} (h : k < 33 ∨ 36 < k) (h2 : k ≠ 2 ∧ k ≠ 41 ∧ k ≠ 7 ∧ k ≠ 25 ∧ k ≠ 56) (h3 : ¬ (k = 0 ∧ (m = 13 ∨ m = 14)) ∧ ¬ (k = 40 ∧ (m = 8 ∨ m = 9))) : bS0 L xs k i j m = 0 := by
  rw [bS0_k h]
  unfold kS0
  rw [if_neg (by omega), if_neg (by omega), if_neg (by omega), if_neg (by omega), if_neg (by omega)]
theorem g3_z {m : Nat} (h : 3 ≤ m) : ([6, 3, 20] : List Int32).getD m 0 = 0 := by
  obtain ⟨n, rfl⟩ : ∃ n, m = n + 3 := ⟨m - 3, by omega⟩
  rfl
theorem bS0_jx {i u : Nat} (h : u < 16) : bS0 L xs 7 i 0 u = nI u := by
  rw [bS0_k (by omega)]
  rfl
theorem bS0_PR {i : Nat} : PR (bS0 L xs) i (bS0 L xs 41 0 0) := by
  have hj : ∀ u, u < 16 → jx (bS0 L xs) i u = u := by
    intro u hu
    unfold jx
    rw [bS0_jx hu, nI_clamp (by omega)]
  have c0 : cO (bS0 L xs 41 0 0) = 0 := by
    unfold cO
    rw [bS0_41, g3_z (by omega)]
    rfl
  have c1 : cR (bS0 L xs 41 0 0) = 0 := by
    unfold cR
    rw [bS0_41, g3_z (by omega)]
    rfl
  have c2 : cU (bS0 L xs 41 0 0) = 0 := by
    unfold cU
    rw [bS0_41, g3_z (by omega)]
    rfl
  refine ⟨⟨?_, ?_, ?_⟩, ⟨?_, ?_, ?_⟩, fun o ho => absurd ho (by rw [c0]; omega), fun r hr => absurd hr (by rw [c1]; omega), fun u hu => ?_, fun u v hu hv h => ?_, fun u hu => absurd hu (by rw [c2]; omega)⟩
  · rw [bS0_41, bS0_k (by omega)]; rfl
  · rw [bS0_41, bS0_k (by omega)]; rfl
  · rw [bS0_41, bS0_k (by omega)]; rfl
  · rw [bS0_41, bS0_z (by omega) (by omega) (by omega), g3_z (by omega)]
  · rw [bS0_41, bS0_z (by omega) (by omega) (by omega), g3_z (by omega)]
  · rw [bS0_41, bS0_z (by omega) (by omega) (by omega), g3_z (by omega)]
  · rw [hj u hu]
    exact ⟨bS0_jx hu, hu⟩
  · rw [hj u hu, hj v hv] at h
    exact h
theorem bS0_WF : WF (bS0 L xs 41 0 0) := by
  have c0 : cO (bS0 L xs 41 0 0) = 0 := by
    unfold cO
    rw [bS0_41, g3_z (by omega)]
    rfl
  have c1 : cR (bS0 L xs 41 0 0) = 0 := by
    unfold cR
    rw [bS0_41, g3_z (by omega)]
    rfl
  have c2 : cU (bS0 L xs 41 0 0) = 0 := by
    unfold cU
    rw [bS0_41, g3_z (by omega)]
    rfl
  refine ⟨⟨?_, by omega, ?_, by omega, ?_, by omega⟩, ?_, fun o ho => absurd ho (by rw [c0]; omega), fun r hr => absurd hr (by rw [c1]; omega), fun u hu => absurd hu (by rw [c2]; omega), ?_⟩
  · rw [c0, bS0_41, g3_z (by omega)]; rfl
  · rw [c1, bS0_41, g3_z (by omega)]; rfl
  · rw [c2, bS0_41, g3_z (by omega)]; rfl
  · refine ⟨⟨?_, ?_, ?_⟩, ⟨?_, ?_, ?_⟩, ⟨?_, ?_, ?_⟩⟩ <;> first | (rw [bS0_41]; unfold nv; rw [bS0_41]; decide) | (unfold nv; rw [bS0_41]; decide)
  · intro u v hu
    rw [c2] at hu
    omega
theorem bS0_REL : REL (bS0 L xs) := by
  have hP := bS0_PR (L := L) (xs := xs) (i := 0)
  refine ⟨⟨0, fun _ => bS0 L xs 41 0 0, ⟨0, by decide, ?_, ?_, by decide, hP, fun i hi => ?_, fun p hp => absurd hp (Nat.not_lt_zero _), bS0_WF⟩, fun p m hp => absurd hp (Nat.not_lt_zero _), ?_⟩, ⟨?_, fun h => absurd ?_ h⟩, ⟨0, fun _ => 0, ⟨?_, by decide, fun m _ => (show (0 : Nat) < 127 by decide), fun m _ => ?_⟩, ?_, fun m _ => ?_⟩, ⟨[], ⟨?_, fun m hm => absurd hm (Nat.not_lt_zero _)⟩, ⟨?_, fun m hm => absurd hm (Nat.not_lt_zero _)⟩, by decide⟩, ⟨?_, ?_⟩, ⟨⟨⟨?_, ?_, ?_⟩, ?_, ?_, ?_⟩, fun i hi => ?_⟩⟩
  · rw [bS0_z (by omega) (by omega) (by omega)]; rfl
  · rw [bS0_z (by omega) (by omega) (by omega)]; rfl
  · have h := bS0_PR (L := L) (xs := xs) (i := i)
    exact ⟨h.2.2.2.2.1, h.2.2.2.2.2.1⟩
  · rw [bS0_z (by omega) (by omega) (by omega)]; rfl
  · rw [bS0_z (by omega) (by omega) (by omega), bS0_z (by omega) (by omega) (by omega)]
  · exact bS0_z (by omega) (by omega) (by omega)
  · rw [bS0_z (by omega) (by omega) (by omega)]; rfl
  · rw [bS0_z (by omega) (by omega) (by omega)]; rfl
  · rw [bS0_z (by omega) (by omega) (by omega)]; rfl
  · rw [bS0_z (by omega) (by omega) (by omega)]; rfl
  · rw [bS0_z (by omega) (by omega) (by omega)]; rfl
  · rw [bS0_z (by omega) (by omega) (by omega)]; rfl
  · rfl
  · rfl
  · rfl
  · rfl
  · rfl
  · rfl
  · rfl
  · rfl
  · rw [bS0_k (by omega)]; rfl
end M23a
