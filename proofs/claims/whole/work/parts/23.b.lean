/-! THE LAW: the first memory is what the constructors made -/
section M23b
def kPt (i : Nat) : List (Nat × Nat × Nat) := [(1, i, 0), (2, i, 0), (3, i, 0), (5, i, 0), (7, i, 0)] ++ ((List.range 8).map (fun j => (4, i, j)) ++ ((List.range 12).map (fun j => (6, i, j)) ++ (List.range 16).flatMap fun j => [(8, i, j), (9, i, j), (10, i, j)]))
/-- the cells in their order -/
def kTr : List (Nat × Nat × Nat) := (0, 0, 0) :: ((List.range 4).flatMap kPt ++ ((11, 0, 0) :: ((List.range 9).map (fun n => (12 + n, 0, 0)) ++ ((List.range 8).map (fun i => (21, i, 0)) ++ ((List.range 8).map (fun n => (22 + n, 0, 0)) ++ ((List.range 20).flatMap (fun i => [(30, i, 0), (31, i, 0)]) ++ ((32, 0, 0) :: ((List.range 8).flatMap (fun i => kPt (i + 4)) ++ (List.range 18).map fun n => (40 + n, 0, 0)))))))))
def kTrA (k : Nat) : Bool := (List.range (kDim k).1).all fun i => (List.range (kDim k).2).all fun j => decide (kTr[kOff k i j]? = some (k, i, j))
set_option maxRecDepth 100000 in
theorem kTr_all : ∀ k, k < 58 → kTrA k = true := by decide +kernel
theorem kTr_ok {k i j : Nat} (h : bok k i j = true) : kTr[kOff k i j]? = some (k, i, j) := by
  have hA := kTr_all k (bok_58 h)
  simp only [bok, Bool.and_eq_true, decide_eq_true_eq] at h
  exact of_decide_eq_true (List.all_eq_true.mp (List.all_eq_true.mp hA i (List.mem_range.mpr h.1)) j (List.mem_range.mpr h.2))
theorem kOff_inj {k i j k' i' j' : Nat} (h : bok k i j = true) (h' : bok k' i' j' = true) (e : kOff k i j = kOff k' i' j') : k = k' ∧ i = i' ∧ j = j' := by
  have h1 := kTr_ok h
  have h2 := kTr_ok h'
  rw [e, h2] at h1
  cases h1
  exact ⟨rfl, rfl, rfl⟩
/-- where everything stands -/
def kAd (b a33 a34 a35 bx : Nat) (sa sb : Nat → Nat) : bAdT := fun k i j => if k = 33 then a33 else if k = 34 then a34 else if k = 35 then a35 else if k = 36 then bx else if k = 37 then sa i else if k = 38 then sb i else b + kOff k i j
variable {b a33 a34 a35 bx : Nat} {sa sb : Nat → Nat} {D : va_G} {cy : Nat → ClassId} {oq : Value} {L : Nat} {xs : Nat → Int32} {H : Heap}
theorem bok_ne {k i j : Nat} (h : bok k i j = true) : k < 33 ∨ 39 < k := by
  by_cases g : k < 33 ∨ 39 < k
  · exact g
  · exfalso
    have h1 : kDim k = (0, 0) := by
      rcases (show k = 33 ∨ k = 34 ∨ k = 35 ∨ k = 36 ∨ k = 37 ∨ k = 38 ∨ k = 39 by omega) with rfl | rfl | rfl | rfl | rfl | rfl | rfl <;> rfl
    simp [bok, h1] at h
theorem kAd_b {k i j : Nat} (h : k < 33 ∨ 39 < k) : kAd b a33 a34 a35 bx sa sb k i j = b + kOff k i j := by
  unfold kAd
  rw [if_neg (by omega), if_neg (by omega), if_neg (by omega), if_neg (by omega), if_neg (by omega), if_neg (by omega)]
theorem kAd_inj : bInj (kAd b a33 a34 a35 bx sa sb) := by
  intro k i j k' i' j' h h' e
  rw [kAd_b (bok_ne h), kAd_b (bok_ne h')] at e
  exact kOff_inj h h' (by omega)
theorem fRef_b : ∀ k, k < 58 → ∀ f, f < 31 → ∀ i, i < 20 → ∀ j, j < 1 → (match fRef k i j f with
  | some a => decide (a.1 < 33 ∨ 39 < a.1)
  | none => true) = true := by decide +kernel
end M23b
