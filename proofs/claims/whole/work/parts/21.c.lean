/-! THE CONSTRUCTORS: the law's first steps; the memory at the loop -/
def kAll : List kE := kC_95 ++ kC_136.map (keS 944)
def kLq (a : Option kF) : Bool := match a with
  | some (pc, ls, st, es) => decide (pc = 16) && decide (ls = [some kX, some (kR 0), some (kR 944), none]) && st.isEmpty && @decide (es = kAll) (@instDecidableEqList kE kqE es kAll)
  | none => false
theorem kLq_eq {a : Option kF} (h : kLq a = true) : a = some (16, [some kX, some (kR 0), some (kR 944), none], [], kAll) := by
  cases a with
  | none => exact absurd h (by simp [kLq])
  | some q =>
    obtain ⟨pc, ls, st, es⟩ := q
    simp only [kLq, Bool.and_eq_true, decide_eq_true_eq] at h
    obtain ⟨⟨⟨h1, h2⟩, h3⟩, h4⟩ := h
    have h5 : es = kAll := h4
    have h6 : st = [] := by simpa using h3
    rw [h1, h2, h5, h6]
set_option maxRecDepth 100000 in
theorem kG_L : krn kT2 266 16 0 0 kAll.length (kSm kAll) 20 (0, [some kX, none, none, none], [], []) = some (16, [some kX, some (kR 0), some (kR 944), none], [], kAll) := kLq_eq (by decide +kernel)
def kPb (i : Nat) : Nat := if i < 4 then 1 + 73 * i else 360 + 73 * (i - 4)
/-- where each cell stands -/
def kOff (k i j : Nat) : Nat := match k with
  | 0 => 0
  | 1 => kPb i
  | 2 => kPb i + 1
  | 3 => kPb i + 2
  | 4 => kPb i + 5 + j
  | 5 => kPb i + 3
  | 6 => kPb i + 13 + j
  | 7 => kPb i + 4
  | 8 => kPb i + 25 + 3 * j
  | 9 => kPb i + 26 + 3 * j
  | 10 => kPb i + 27 + 3 * j
  | 11 => 293
  | 12 => 294
  | 13 => 295
  | 14 => 296
  | 15 => 297
  | 16 => 298
  | 17 => 299
  | 18 => 300
  | 19 => 301
  | 20 => 302
  | 21 => 303 + i
  | 22 => 311
  | 23 => 312
  | 24 => 313
  | 25 => 314
  | 26 => 315
  | 27 => 316
  | 28 => 317
  | 29 => 318
  | 30 => 319 + 2 * i
  | 31 => 320 + 2 * i
  | 32 => 359
  | 40 => 944
  | k => 904 + k
/-- the first values -/
def kS0 (k m : Nat) : Int32 := if k = 2 ∨ k = 41 then ([6, 3, 20] : List Int32).getD m 0 else if k = 7 then nI m else if k = 25 then -1 else if (k = 0 ∧ (m = 13 ∨ m = 14)) ∨ (k = 40 ∧ (m = 8 ∨ m = 9)) then -5 else if k = 56 then nI (wch m) else 0
def kCk (e : Option kE) (k i j : Nat) : Bool := match e with
  | some (.inl (ci, fs)) => decide (kObj k = some ci) && decide (fs = (List.range (bNF ci)).map fun f => match fRef k i j f with
    | some a => if a.1 = 39 then kNu else kR (kOff a.1 a.2.1 a.2.2)
    | none => kI (kS0 k f))
  | some (.inr (t, N, .inl l)) => decide (kObj k = none) && decide (kArr k = some (t, N)) && decide (t < 3) && (List.range N).all (fun m => decide (l.getD m 0 = kS0 k m))
  | some (.inr (t, N, .inr l)) => decide (kObj k = none) && decide (kArr k = some (t, N)) && decide (3 ≤ t) && (List.range N).all (fun m => decide (l.getD m none = (eRef k i m (kS0 k m)).map fun a => kOff a.1 a.2.1 a.2.2))
  | none => false
def kCkA (k : Nat) : Bool := (List.range (kDim k).1).all fun i => (List.range (kDim k).2).all fun j => kCk kAll[kOff k i j]? k i j
set_option maxRecDepth 100000 in
theorem kCk_1 : ∀ k, k < 4 → kCkA k = true := by decide +kernel
set_option maxRecDepth 100000 in
theorem kCk_2 : ∀ k, k < 4 → kCkA (4 + k) = true := by decide +kernel
set_option maxRecDepth 100000 in
theorem kCk_3 : ∀ k, k < 3 → kCkA (8 + k) = true := by decide +kernel
set_option maxRecDepth 100000 in
theorem kCk_4 : ∀ k, k < 30 → kCkA (11 + k) = true := by decide +kernel
set_option maxRecDepth 100000 in
theorem kCk_5 : ∀ k, k < 17 → kCkA (41 + k) = true := by decide +kernel
theorem kCk_all : ∀ k, k < 58 → kCkA k = true := by
  intro k hk
  by_cases h1 : k < 4
  · exact kCk_1 k h1
  by_cases h2 : k < 8
  · rw [show k = 4 + (k - 4) by omega]; exact kCk_2 _ (by omega)
  by_cases h3 : k < 11
  · rw [show k = 8 + (k - 8) by omega]; exact kCk_3 _ (by omega)
  by_cases h4 : k < 41
  · rw [show k = 11 + (k - 11) by omega]; exact kCk_4 _ (by omega)
  · rw [show k = 41 + (k - 41) by omega]; exact kCk_5 _ (by omega)
theorem bok_58 {k i j : Nat} (h : bok k i j = true) : k < 58 := by
  by_cases g : k < 58
  · exact g
  · obtain ⟨n, rfl⟩ : ∃ n, k = n + 58 := ⟨k - 58, by omega⟩
    have : kDim (n + 58) = (0, 0) := rfl
    simp [bok, this] at h
theorem kCk_ok {k i j : Nat} (h : bok k i j = true) : kCk kAll[kOff k i j]? k i j = true := by
  have h58 := bok_58 h
  have hA := kCk_all k h58
  simp only [bok, Bool.and_eq_true, decide_eq_true_eq] at h
  exact List.all_eq_true.mp (List.all_eq_true.mp hA i (List.mem_range.mpr h.1)) j (List.mem_range.mpr h.2)
