/-! ROWS THAT COME ABOUT: the bounds of settings, orders, rolls and runs -/
theorem ic {c : Prop} [Decidable c] {P R : Prop} (h0 : c → P) (h1 : ¬ c → R) : if c then P else R := by
  split
  · exact h0 ‹_›
  · exact h1 ‹_›
theorem icT {c c' : Prop} [Decidable c] {P R : Prop} (h : c ↔ c') (h0 : c' → P) (h1 : ¬ c' → R) : if c then P else R := by
  split
  · exact h0 (h.mp ‹_›)
  · exact h1 (fun q => ‹¬ c› (h.mpr q))
theorem tf_0' {b : Bool} : tf b = 0 ↔ b = false := by cases b <;> simp [tf]
theorem icb {b : Bool} {P R : Prop} (h0 : b = false → P) (h1 : b = true → R) : if tf b = 0 then P else R := by
  cases b
  · exact h0 rfl
  · exact h1 rfl
theorem Wm_ex {d k : Nat} {as : List bV} {S : bSt} {P : Option bV → bSt → Prop} (h : Wm d k as S P) : ∃ r S', Ret d k as S r S' ∧ P r S' := by
  obtain ⟨n, h⟩ := h
  obtain ⟨r, S', h1, h2⟩ := bwp_det h
  exact ⟨r, S', ⟨n, h2 _ ⟨rfl, rfl⟩⟩, h1⟩
theorem Wm_of {d k : Nat} {as : List bV} {S S' : bSt} {r : Option bV} {P : Option bV → bSt → Prop} (h : Ret d k as S r S') (hp : P r S') : Wm d k as S P := (Wm_iff h P).mpr hp
/-- n rounds of a loop, what holds between them only described -/
theorem wloopI {d k pc : Nat} {Q : Option bV → bSt → Prop} (n : Nat) (I : Nat → List (Option bV) → bSt → Prop) (hend : ∀ ls S, I n ls S → Wp d k pc ls [] S Q) (hstep : ∀ m, m < n → ∀ ls S, I m ls S → (∀ ls' S', I (m + 1) ls' S' → Wp d k pc ls' [] S' Q) → Wp d k pc ls [] S Q) {ls : List (Option bV)} {S : bSt} (h0 : I 0 ls S) : Wp d k pc ls [] S Q := by
  have h : ∀ j, j ≤ n → ∀ ls S, I (n - j) ls S → Wp d k pc ls [] S Q := by
    intro j
    induction j with
    | zero => intro _; exact hend
    | succ j ih =>
      intro hj ls S hi
      refine hstep _ (by omega) ls S hi ?_
      rw [show n - (j + 1) + 1 = n - j by omega]
      exact ih (by omega)
  have := h n (Nat.le_refl n)
  rw [Nat.sub_self] at this
  exact this ls S h0
def nv (N : NV) (k : Nat) : Nat := (N k).toNatClampNeg
def ok (N : NV) (k a b : Nat) : Prop := N k = nI (nv N k) ∧ a ≤ nv N k ∧ nv N k ≤ b
def sumN (f : Nat → Nat) : Nat → Nat
  | 0 => 0
  | n + 1 => sumN f n + f n
theorem sumN_le {f : Nat → Nat} {b : Nat} : ∀ n, (∀ i, i < n → f i ≤ b) → sumN f n ≤ n * b := by
  intro n
  induction n with
  | zero => intro _; simp [sumN]
  | succ n ih =>
    intro h
    have h1 := ih (fun i hi => h i (by omega))
    have h2 := h n (by omega)
    rw [sumN, Nat.succ_mul]
    omega
theorem sumTo_nI {f : Nat → Int32} {g : Nat → Nat} : ∀ n, (∀ i, i < n → f i = nI (g i)) → sumTo f n = nI (sumN g n) := by
  intro n
  induction n with
  | zero => intro _; rfl
  | succ n ih =>
    intro h
    rw [sumTo, sumN, ih (fun i hi => h i (by omega)), h n (by omega), qI_add]
theorem sumTo_congr {f g : Nat → Int32} : ∀ n, (∀ i, i < n → f i = g i) → sumTo f n = sumTo g n := by
  intro n
  induction n with
  | zero => intro _; rfl
  | succ n ih =>
    intro h
    rw [sumTo, sumTo, ih (fun i hi => h i (by omega)), h n (by omega)]
theorem sumN_congr {f g : Nat → Nat} : ∀ n, (∀ i, i < n → f i = g i) → sumN f n = sumN g n := by
  intro n
  induction n with
  | zero => intro _; rfl
  | succ n ih =>
    intro h
    rw [sumN, sumN, ih (fun i hi => h i (by omega)), h n (by omega)]
def wSet (N : NV) : Prop := ok N 0 2 7 ∧ ok N 1 0 20 ∧ ok N 2 10 99
def wOrd (N : NV) (o : Nat) : Prop := ok N (6 + 6 * o) 0 3 ∧ ok N (7 + 6 * o) 10 150 ∧ ok N (8 + 6 * o) 1 999 ∧ ok N (9 + 6 * o) 0 50 ∧ ok N (10 + 6 * o) 0 99 ∧ ok N (11 + 6 * o) 0 1
def wRol (N : NV) (r : Nat) : Prop := ok N (54 + 3 * r) 0 3 ∧ ok N (55 + 3 * r) 10 300 ∧ ok N (56 + 3 * r) 1 999
/-- the width of a run's roll, what its strips use, how many strips it has -/
def rW (N : NV) (u : Nat) : Nat := nv N (55 + 3 * nv N (90 + 12 * u))
def usd (N : NV) (u : Nat) : Nat := sumN (fun o => nv N (94 + 12 * u + o) * nv N (7 + 6 * o)) 8
def str (N : NV) (u : Nat) : Nat := sumN (fun o => nv N (94 + 12 * u + o)) 8
def wKept (N : NV) (u : Nat) : Prop := N (93 + 12 * u) = -5 ∨ (N (93 + 12 * u) = nI (nv N (93 + 12 * u)) ∧ nv N (93 + 12 * u) < cR N ∧ nv N (55 + 3 * nv N (93 + 12 * u)) + 2 * nv N (92 + 12 * u) + usd N u = rW N u ∧ nv N (56 + 3 * nv N (93 + 12 * u)) = nv N (91 + 12 * u))
def wRun (N : NV) (u : Nat) : Prop := (N (90 + 12 * u) = nI (nv N (90 + 12 * u)) ∧ nv N (90 + 12 * u) < cR N) ∧ ok N (91 + 12 * u) 1 999 ∧ ok N (92 + 12 * u) 0 20 ∧ (∀ o, o < 8 → ok N (94 + 12 * u + o) 0 8 ∧ (cO N ≤ o → nv N (94 + 12 * u + o) = 0)) ∧ (1 ≤ str N u ∧ str N u ≤ 8 ∧ usd N u + 2 * nv N (92 + 12 * u) ≤ rW N u ∧ (usd N u < rW N u → str N u ≤ 6)) ∧ wKept N u
def wInj (N : NV) : Prop := ∀ u v, u < cU N → v < cU N → N (93 + 12 * u) ≠ -5 → N (93 + 12 * u) = N (93 + 12 * v) → u = v
def WF (N : NV) : Prop := cW N ∧ wSet N ∧ (∀ o, o < cO N → wOrd N o) ∧ (∀ r, r < cR N → wRol N r) ∧ (∀ u, u < cU N → wRun N u) ∧ wInj N
def mdN (N : NV) (o : Nat) : Nat := sumN (fun u => nv N (94 + 12 * u + o) * nv N (91 + 12 * u)) (cU N)
def alN (N : NV) (o : Nat) : Nat := nv N (8 + 6 * o) * nv N (9 + 6 * o) / 100
theorem mdN_le {N : NV} (h : WF N) {o : Nat} (ho : o < 8) : mdN N o ≤ 127872 := by
  obtain ⟨⟨-, -, -, -, -, hc⟩, -, -, -, hu, -⟩ := h
  have h1 : mdN N o ≤ cU N * (8 * 999) := by
    refine sumN_le _ (fun u hu' => ?_)
    obtain ⟨-, ⟨-, -, h2⟩, -, h3, -⟩ := hu u hu'
    exact Nat.mul_le_mul (h3 o ho).1.2.2 h2
  omega
theorem aMade_n {N : NV} (h : WF N) {o : Nat} (ho : o < 8) : aMade N o = nI (mdN N o) := by
  obtain ⟨-, -, -, -, hu, -⟩ := h
  refine sumTo_nI _ (fun u hu' => ?_)
  obtain ⟨-, ⟨h2, -⟩, -, h3, -⟩ := hu u hu'
  rw [qI_mul, ← h2, ← (h3 o ho).1.1]
theorem alN_le {N : NV} {o : Nat} (h : wOrd N o) : 2 * alN N o ≤ nv N (8 + 6 * o) := by
  obtain ⟨-, -, -, ⟨-, -, h2⟩, -⟩ := h
  unfold alN
  have : nv N (8 + 6 * o) * nv N (9 + 6 * o) ≤ nv N (8 + 6 * o) * 50 := Nat.mul_le_mul_left _ h2
  omega
theorem aAlw_n {N : NV} {o : Nat} (h : wOrd N o) : aAlw N o = nI (alN N o) := by
  obtain ⟨-, -, ⟨h1, -, h2⟩, ⟨h3, -, h4⟩, -⟩ := h
  unfold aAlw alN
  have : nv N (8 + 6 * o) * nv N (9 + 6 * o) ≤ 999 * 50 := Nat.mul_le_mul h2 h4
  rw [h1, h3, ← qI_mul, show (100 : Int32) = nI 100 from rfl, qI_div (by omega) (by omega) (by omega)]
theorem aMost_n {N : NV} {o : Nat} (h : wOrd N o) : aMost N o = nI (nv N (8 + 6 * o) + alN N o) := by
  unfold aMost
  rw [aAlw_n h, qI_add, ← h.2.2.1.1]
theorem aLeast_n {N : NV} {o : Nat} (h : wOrd N o) : aLeast N o = nI (nv N (8 + 6 * o) - alN N o) := by
  unfold aLeast
  have := alN_le h
  rw [aAlw_n h, ← qI_sub (by omega), ← h.2.2.1.1]
theorem aWant_n {N : NV} (h : WF N) {o : Nat} (ho : o < cO N) : aWant N o = true ↔ mdN N o < nv N (8 + 6 * o) := by
  have h8 : o < 8 := by have := h.1.2.1; omega
  obtain ⟨h1, -, h2⟩ := (h.2.2.1 o ho).2.2.1
  have := mdN_le h h8
  unfold aWant
  rw [decide_eq_true_iff, aMade_n h h8, h1, qI_lt (by omega) (by omega)]
theorem aRoom_n {N : NV} (h : WF N) {o : Nat} (ho : o < cO N) (hw : aWant N o = true) : aRoom N o = nI (nv N (8 + 6 * o) + alN N o - mdN N o) := by
  have h8 : o < 8 := by have := h.1.2.1; omega
  have := (aWant_n h ho).mp hw
  unfold aRoom
  rw [aMost_n (h.2.2.1 o ho), aMade_n h h8, qI_sub (by omega)]
