/-! numbers: nI is a map of rings; loops; the memory read back -/
theorem qI_add (a b : Nat) : nI (a + b) = nI a + nI b := Int32.ofNat_add a b
theorem qI_mul (a b : Nat) : nI (a * b) = nI a * nI b := Int32.ofNat_mul a b
theorem qI_lits : nI 0 = 0 ∧ nI 1 = 1 ∧ nI 2 = 2 ∧ nI 3 = 3 ∧ nI 4 = 4 ∧ nI 5 = 5 ∧ nI 6 = 6 ∧ nI 7 = 7 ∧ nI 8 = 8 ∧ nI 9 = 9 ∧ nI 10 = 10 ∧ nI 11 = 11 ∧ nI 12 = 12 ∧ nI 13 = 13 ∧ nI 14 = 14 ∧ nI 15 = 15 ∧ nI 16 = 16 ∧ nI 17 = 17 ∧ nI 18 = 18 ∧ nI 19 = 19 ∧ nI 20 = 20 ∧ nI 21 = 21 ∧ nI 22 = 22 ∧ nI 23 = 23 ∧ nI 24 = 24 ∧ nI 25 = 25 ∧ nI 26 = 26 ∧ nI 27 = 27 ∧ nI 28 = 28 ∧ nI 29 = 29 ∧ nI 30 = 30 ∧ nI 43 = 43 ∧ nI 48 = 48 ∧ nI 49 = 49 ∧ nI 54 = 54 ∧ nI 55 = 55 ∧ nI 56 = 56 ∧ nI 57 = 57 ∧ nI 58 = 58 ∧ nI 80 = 80 ∧ nI 90 = 90 ∧ nI 91 = 91 ∧ nI 92 = 92 ∧ nI 93 = 93 ∧ nI 94 = 94 ∧ nI 95 = 95 ∧ nI 96 = 96 ∧ nI 97 = 97 ∧ nI 98 = 98 ∧ nI 99 = 99 ∧ nI 100 = 100 ∧ nI 101 = 101 ∧ nI 102 = 102 ∧ nI 103 = 103 ∧ nI 112 = 112 ∧ nI 120 = 120 ∧ nI 192 = 192 ∧ nI 272 = 272 ∧ nI 282 = 282 ∧ nI 301 = 301 ∧ nI 896 = 896 ∧ nI 1000 = 1000 ∧ nI 2256 = 2256 ∧ nI 65535 = 65535 := ⟨rfl, rfl, rfl, rfl, rfl, rfl, rfl, rfl, rfl, rfl, rfl, rfl, rfl, rfl, rfl, rfl, rfl, rfl, rfl, rfl, rfl, rfl, rfl, rfl, rfl, rfl, rfl, rfl, rfl, rfl, rfl, rfl, rfl, rfl, rfl, rfl, rfl, rfl, rfl, rfl, rfl, rfl, rfl, rfl, rfl, rfl, rfl, rfl, rfl, rfl, rfl, rfl, rfl, rfl, rfl, rfl, rfl, rfl, rfl, rfl, rfl, rfl, rfl, rfl⟩
theorem qI_test (u o : Nat) : 90 + 12 * nI u + (4 + nI o) = nI (94 + 12 * u + o) := by
  simp only [qI_add, qI_mul, qI_lits]
  grind
theorem qI_succ (u : Nat) : nI u + 1 = nI (u + 1) := by
  simp only [qI_add, qI_lits]
theorem qI_test3 (u : Nat) (h : 0 < u) : nI u - 1 = nI (u - 1) := by
  obtain ⟨v, rfl⟩ : ∃ v, u = v + 1 := ⟨u - 1, by omega⟩
  simp only [qI_add, qI_lits, Nat.add_sub_cancel]
  grind
theorem qI_le {a b : Nat} (ha : a < 2 ^ 31) (hb : b < 2 ^ 31) : nI a ≤ nI b ↔ a ≤ b := by
  rw [Int32.le_iff_toInt_le, nI_toInt ha, nI_toInt hb]
  omega
theorem qI_lt {a b : Nat} (ha : a < 2 ^ 31) (hb : b < 2 ^ 31) : nI a < nI b ↔ a < b := by
  rw [Int32.lt_iff_toInt_lt, nI_toInt ha, nI_toInt hb]
  omega
theorem qI_eq {a b : Nat} (ha : a < 2 ^ 31) (hb : b < 2 ^ 31) : nI a = nI b ↔ a = b := by
  constructor
  · intro h
    have := congrArg Int32.toInt h
    rw [nI_toInt ha, nI_toInt hb] at this
    omega
  · intro h; rw [h]
theorem qI_div {a b : Nat} (ha : a < 2 ^ 31) (hb : b < 2 ^ 31) (h0 : 0 < b) : nI a / nI b = nI (a / b) := by
  have hne : nI b ≠ -1 := by
    intro h
    have h1 := congrArg Int32.toInt h
    rw [nI_toInt hb, show (-1 : Int32).toInt = -1 from by decide] at h1
    omega
  have hd : a / b ≤ a := Nat.div_le_self _ _
  apply Int32.toInt_inj.mp
  rw [Int32.toInt_div_of_ne_right _ _ hne, nI_toInt ha, nI_toInt hb, nI_toInt (by omega)]
  exact (Int.ofNat_tdiv a b).symm
theorem qI_sub {a b : Nat} (h : b ≤ a) : nI a - nI b = nI (a - b) := by
  obtain ⟨c, rfl⟩ : ∃ c, a = b + c := ⟨a - b, by omega⟩
  rw [qI_add, Nat.add_sub_cancel_left]
  grind
/-- n rounds of a loop -/
theorem wloop {d k pc : Nat} {Q : Option bV → bSt → Prop} (n : Nat) (F : Nat → List (Option bV)) (T : Nat → bSt) (hend : Wp d k pc (F n) [] (T n) Q) (hstep : ∀ m, m < n → Wp d k pc (F (m + 1)) [] (T (m + 1)) Q → Wp d k pc (F m) [] (T m) Q) : Wp d k pc (F 0) [] (T 0) Q := by
  have h : ∀ j, j ≤ n → Wp d k pc (F (n - j)) [] (T (n - j)) Q := by
    intro j
    induction j with
    | zero => intro _; exact hend
    | succ j ih =>
      intro hj
      have e : n - j = n - (j + 1) + 1 := by omega
      have h1 := ih (by omega)
      rw [e] at h1
      exact hstep _ (by omega) h1
  have := h n (Nat.le_refl n)
  rwa [Nat.sub_self] at this
theorem sUp_same {S : bSt} {k i j n : Nat} {x : Int32} : sUp S k i j n x k i j n = x := by simp [sUp]
theorem sUp_slot {S : bSt} {k i j n m : Nat} {x : Int32} (h : m ≠ n) : sUp S k i j n x k i j m = S k i j m := by simp [sUp, h]
theorem sUp_kind {S : bSt} {k i j n k' i' j' m : Nat} {x : Int32} (h : k' ≠ k) : sUp S k i j n x k' i' j' m = S k' i' j' m := by simp [sUp, h]
theorem sUp_i {S : bSt} {k i j n k' i' j' m : Nat} {x : Int32} (h : i' ≠ i) : sUp S k i j n x k' i' j' m = S k' i' j' m := by simp [sUp, h]
theorem sUp_j {S : bSt} {k i j n k' i' j' m : Nat} {x : Int32} (h : j' ≠ j) : sUp S k i j n x k' i' j' m = S k' i' j' m := by simp [sUp, h]
