/-! THE CLASS's search, pure: the narrower bounds and the pruning change nothing in what it finds -/
section M18a
variable {N : NV}
def pB (N : NV) (s rest : Nat) : Bool := decide (1 ≤ s) && (decide (2 * nv N 1 ≤ rest) && decide ((if rest = 0 then s - 1 else s + 1) ≤ nv N 0))
theorem poss_n (hw : WF N) {s rest : Nat} (hs : s ≤ 1000) (hr : rest ≤ 1000) : aPoss N (nI s) (nI rest) = pB N s rest := by
  obtain ⟨a0, -, a2⟩ := hw.2.1.1
  obtain ⟨e0, -, e2⟩ := hw.2.1.2.1
  unfold aPoss pB
  rcases Nat.eq_zero_or_pos s with h | h
  · subst h
    rw [decide_eq_false (show ¬ (0 : Int32) < nI 0 from by decide), decide_eq_false (show ¬ 1 ≤ 0 from by omega), Bool.false_and, Bool.false_and]
  · rw [aKn_n h (by omega), a0, e0, show (2 : Int32) = nI 2 from rfl, ← qI_mul]
    have h1 : decide ((0 : Int32) < nI s) = decide (1 ≤ s) := decide_eq_decide.mpr (by rw [show (0 : Int32) = nI 0 from rfl, qI_lt (by omega) (by omega)]; omega)
    have h2 : decide (nI (2 * nv N 1) ≤ nI rest) = decide (2 * nv N 1 ≤ rest) := decide_eq_decide.mpr (qI_le (by omega) (by omega))
    have h3 : decide (nI (if rest = 0 then s - 1 else s + 1) ≤ nI (nv N 0)) = decide ((if rest = 0 then s - 1 else s + 1) ≤ nv N 0) := decide_eq_decide.mpr (qI_le (by split <;> omega) (by omega))
    rw [h1, h2, h3]
/-- the greatest number of strips -/
def mxN (N : NV) : Nat := if nv N 1 = 0 then nv N 0 + 1 else nv N 0 - 1
theorem mxN_le (hw : WF N) : 1 ≤ mxN N ∧ mxN N ≤ 8 := by
  obtain ⟨-, a1, a2⟩ := hw.2.1.1
  unfold mxN
  split <;> omega
theorem foldl_id {α γ : Type} {F : α → γ → α} (l : List γ) (a : α) (h : ∀ n, n ∈ l → ∀ a, F a n = a) : l.foldl F a = a := by
  induction l with
  | nil => rfl
  | cons x l ih =>
    rw [List.foldl_cons, h x List.mem_cons_self]
    exact ih (fun n hn => h n (List.mem_cons_of_mem _ hn))
theorem pB_no (hw : WF N) {s rest : Nat} (h : rest < 2 * nv N 1 ∨ mxN N < s) : pB N s rest = false := by
  obtain ⟨-, a1, a2⟩ := hw.2.1.1
  cases hp : pB N s rest with
  | false => rfl
  | true =>
    exfalso
    unfold pB at hp
    simp only [Bool.and_eq_true, decide_eq_true_eq] at hp
    obtain ⟨h1, h2, h3⟩ := hp
    unfold mxN at h
    by_cases g : nv N 1 = 0
    · rw [if_pos g] at h
      split at h3 <;> omega
    · rw [if_neg g] at h
      rw [if_neg (by omega)] at h3
      omega
theorem trA_noop (hw : WF N) {w L : Nat → Nat} : ∀ (k o s rest : Nat) (f : NV) (a : Acc), s ≤ 8 → rest ≤ 300 → (rest < 2 * nv N 1 ∨ mxN N < s) → trA N w L k o s rest f a = a := by
  intro k
  induction k with
  | zero =>
    intro o s rest f a hs hr h
    show offA N f s rest a = a
    unfold offA
    rw [poss_n hw (by omega) (by omega), pB_no hw h, if_neg (by decide)]
  | succ k ih =>
    intro o s rest f a hs hr h
    unfold trA
    refine foldl_id _ _ (fun n hn b => ?_)
    rw [mem_dn] at hn
    exact ih _ _ _ _ _ (by omega) (by omega) (by omega)
theorem dn_drop {α : Type} {F : α → Nat → α} {M : Nat} : ∀ (j : Nat) (a : α), (∀ n, M < n → n ≤ M + j → ∀ a, F a n = a) → (dn (M + j)).foldl F a = (dn M).foldl F a := by
  intro j
  induction j with
  | zero => intro a _; rfl
  | succ j ih =>
    intro a h
    rw [show M + (j + 1) = M + j + 1 by omega, dn_succ, List.foldl_cons, h (M + j + 1) (by omega) (by omega)]
    exact ih a (fun n h1 h2 => h n h1 (by omega))
/-- found, strips, rest, row -/
abbrev Bcc : Type := Nat × Nat × Nat × NV
def jdC (N : NV) (f : NV) (s rest : Nat) (b : Bcc) : Bcc := if pB N s rest = true then (b.1 + 1, if rest < b.2.2.1 ∨ (rest = b.2.2.1 ∧ s < b.2.1) then (s, rest, fun m => if m < 8 then f m else b.2.2.2 m) else b.2) else b
def hop (N : NV) (v : Nat → Nat) (o s rest : Nat) (b : Bcc) : Bool := decide (b.2.2.1 + (mxN N - s) * v o < rest) || (decide (b.2.2.1 = 2 * nv N 1) && decide (b.2.1 ≤ s))
def trC (N : NV) (cnt : Bool) (w L v : Nat → Nat) : Nat → Nat → Nat → Nat → NV → Bcc → Bcc
  | 0, _, s, rest, f, b => jdC N f s rest b
  | k + 1, o, s, rest, f, b => if cnt = false ∧ hop N v o s rest b = true then b else (dn (min (min (L o) (mxN N - s)) ((rest - 2 * nv N 1) / w o))).foldl (fun b n => trC N cnt w L v k (o + 1) (s + n) (rest - n * w o) (upd f o (nI n)) b) b
def RB (cnt : Bool) (a : Acc) (b : Bcc) : Prop := ((a.2.1 = 0 ∧ b.2.1 = 1000 ∧ b.2.2.1 = 301 ∧ b.1 = 0) ∨ (a.2.1 = nI b.2.1 ∧ a.2.2.1 = nI b.2.2.1 ∧ 1 ≤ b.2.1 ∧ b.2.1 ≤ 8 ∧ b.2.2.1 ≤ 300 ∧ (∀ m, m < 8 → a.2.2.2 m = b.2.2.2 m) ∧ 1 ≤ b.1)) ∧ (cnt = true → a.1 = nI b.1)
theorem RB_leaf (hw : WF N) {cnt : Bool} {f : NV} {s rest : Nat} {a : Acc} {b : Bcc} (hs : s ≤ 8) (hr : rest ≤ 300) (h : RB cnt a b) : RB cnt (offA N f s rest a) (jdC N f s rest b) := by
  unfold offA jdC
  rw [poss_n hw (by omega) (by omega)]
  by_cases hp : pB N s rest = true
  · have hs1 : 1 ≤ s := by
      unfold pB at hp
      simp only [Bool.and_eq_true, decide_eq_true_eq] at hp
      exact hp.1
    rw [if_pos hp, if_pos hp]
    obtain ⟨h1, h2⟩ := h
    refine ⟨?_, fun hc => by show a.1 + 1 = nI (b.1 + 1); rw [h2 hc, qI_succ]⟩
    rcases h1 with ⟨a1, b1, b2, b3⟩ | ⟨a1, a2, b1, b2, b3, b4, b5⟩
    · right
      rw [if_pos (Or.inl a1), if_pos (Or.inl (by omega))]
      exact ⟨rfl, rfl, hs1, hs, hr, fun m hm => by simp [hm], by show 1 ≤ b.1 + 1; omega⟩
    · right
      have hcond : (a.2.1 = 0 ∨ nI rest < a.2.2.1 ∨ (nI rest = a.2.2.1 ∧ nI s < a.2.1)) ↔ (rest < b.2.2.1 ∨ (rest = b.2.2.1 ∧ s < b.2.1)) := by
        rw [a1, a2, show (0 : Int32) = nI 0 from rfl, qI_eq (by omega) (by omega), qI_lt (by omega) (by omega), qI_eq (by omega) (by omega), qI_lt (by omega) (by omega)]
        omega
      by_cases hc : rest < b.2.2.1 ∨ (rest = b.2.2.1 ∧ s < b.2.1)
      · rw [if_pos (hcond.mpr hc), if_pos hc]
        exact ⟨rfl, rfl, hs1, hs, hr, fun m hm => by simp [hm], by show 1 ≤ b.1 + 1; omega⟩
      · rw [if_neg (fun q => hc (hcond.mp q)), if_neg hc]
        exact ⟨a1, a2, b1, b2, b3, b4, by show 1 ≤ b.1 + 1; omega⟩
  · rw [if_neg hp, if_neg hp]
    exact h
theorem trA_noimp (hw : WF N) {w L : Nat → Nat} {b : Bcc} {v : Nat} : ∀ (k o s rest : Nat) (f : NV) (a : Acc), s ≤ 8 → rest ≤ 300 → (∀ o', o ≤ o' → o' < o + k → 0 < L o' → w o' ≤ v) → ((s ≤ mxN N ∧ b.2.2.1 + (mxN N - s) * v < rest) ∨ (b.2.2.1 = 2 * nv N 1 ∧ b.2.1 ≤ s)) → RB false a b → RB false (trA N w L k o s rest f a) b := by
  obtain ⟨-, -, e2⟩ := hw.2.1.2.1
  intro k
  induction k with
  | zero =>
    intro o s rest f a hs hr _ hC h
    show RB false (offA N f s rest a) b
    unfold offA
    rw [poss_n hw (by omega) (by omega)]
    by_cases hp : pB N s rest = true
    · rw [if_pos hp]
      have hlr : 2 * nv N 1 ≤ rest := by
        unfold pB at hp
        simp only [Bool.and_eq_true, decide_eq_true_eq] at hp
        exact hp.2.1
      obtain ⟨h1, h2⟩ := h
      refine ⟨?_, fun hc => absurd hc (by decide)⟩
      rcases h1 with ⟨a1, b1, b2, b3⟩ | ⟨a1, a2, b1, b2, b3, b4, b5⟩
      · exfalso
        rcases hC with ⟨-, hC⟩ | ⟨hC, -⟩ <;> omega
      · right
        rw [if_neg]
        · exact ⟨a1, a2, b1, b2, b3, b4, b5⟩
        · rw [a1, a2, show (0 : Int32) = nI 0 from rfl, qI_eq (by omega) (by omega), qI_lt (by omega) (by omega), qI_eq (by omega) (by omega), qI_lt (by omega) (by omega)]
          rcases hC with ⟨-, hC⟩ | ⟨hC, hC2⟩ <;> omega
    · rw [if_neg hp]
      exact h
  | succ k ih =>
    intro o s rest f a hs hr hv hC h
    unfold trA
    refine foldl_inv (R := fun a => RB false a b) _ _ h (fun n hn c hc => ?_)
    rw [mem_dn] at hn
    by_cases g : mxN N < s + n
    · rw [trA_noop hw _ _ _ _ _ _ (by omega) (by omega) (Or.inr g)]
      exact hc
    · refine ih (o + 1) (s + n) _ _ _ (by omega) (by omega) (fun o' h1 h2 h3 => hv o' (by omega) (by omega) h3) ?_ hc
      rcases hC with ⟨c1, c2⟩ | ⟨c1, c2⟩
      · left
        have hnw : n * w o ≤ n * v := by
          rcases Nat.eq_zero_or_pos n with q | q
          · rw [q, Nat.zero_mul, Nat.zero_mul]; exact Nat.le_refl _
          · exact Nat.mul_le_mul_left _ (hv o (Nat.le_refl _) (by omega) (by omega))
        have e : (mxN N - s) * v = (mxN N - (s + n)) * v + n * v := by
          rw [← Nat.add_mul]
          congr 1
          omega
        refine ⟨by omega, ?_⟩
        omega
      · exact Or.inr ⟨c1, by omega⟩
theorem RB_301 {cnt : Bool} {a : Acc} {b : Bcc} (h : RB cnt a b) : b.2.2.1 ≤ 301 ∧ b.2.1 ≤ 1000 := by
  obtain ⟨h1, -⟩ := h
  omega
theorem trC_ok (hw : WF N) {cnt : Bool} {w L v : Nat → Nat} : ∀ (k o s rest : Nat) (f : NV) (a : Acc) (b : Bcc), s ≤ mxN N → 2 * nv N 1 ≤ rest → rest ≤ 300 → (∀ o', o ≤ o' → o' < o + k → 1 ≤ w o') → (∀ o' o'', o ≤ o' → o' ≤ o'' → o'' < o + k → 0 < L o'' → w o'' ≤ v o') → RB cnt a b → RB cnt (trA N w L k o s rest f a) (trC N cnt w (fun o => min 8 (L o)) v k o s rest f b) := by
  have hm8 := mxN_le hw
  intro k
  induction k with
  | zero => intro o s rest f a b hs hlr hr _ _ h; exact RB_leaf hw (by omega) hr h
  | succ k ih =>
    intro o s rest f a b hs hlr hr hw1 hv h
    unfold trC
    by_cases hh : cnt = false ∧ hop N v o s rest b = true
    · rw [if_pos hh]
      obtain ⟨rfl, hh⟩ := hh
      refine trA_noimp hw (v := v o) (k + 1) o s rest f a (by omega) hr (fun o' h1 h2 h3 => hv o o' (Nat.le_refl _) h1 h2 h3) ?_ h
      unfold hop at hh
      simp only [Bool.or_eq_true, Bool.and_eq_true, decide_eq_true_eq] at hh
      rcases hh with hh | hh
      · exact Or.inl ⟨hs, hh⟩
      · exact Or.inr hh
    · rw [if_neg hh]
      unfold trA
      have hwo := hw1 o (Nat.le_refl _) (by omega)
      have hd1 : (rest - 2 * nv N 1) / w o ≤ rest / w o := Nat.div_le_div_right (by omega)
      generalize hm : min (min (min 8 (L o)) (mxN N - s)) ((rest - 2 * nv N 1) / w o) = m
      generalize hM : min (L o) (min (8 - s) (rest / w o)) = M
      obtain ⟨j, rfl⟩ : ∃ j, M = m + j := ⟨M - m, by omega⟩
      rw [dn_drop j a (fun n h1 h2 b => ?_)]
      · refine foldl_rel _ _ _ h (fun n hn a b hab => ?_)
        rw [mem_dn] at hn
        have hnw : n * w o ≤ rest - 2 * nv N 1 := (Nat.le_div_iff_mul_le hwo).mp (by omega)
        exact ih (o + 1) (s + n) _ _ _ _ (by omega) (by omega) (by omega) (fun o' h1 h2 => hw1 o' (by omega) (by omega)) (fun o' o'' h1 h2 h3 h4 => hv o' o'' (by omega) h2 (by omega) h4) hab
      · have hnw : n * w o ≤ rest := (Nat.le_div_iff_mul_le hwo).mp (by omega)
        refine trA_noop hw _ _ _ _ _ _ (by omega) (by omega) ?_
        by_cases g : mxN N < s + n
        · exact Or.inr g
        · left
          have : rest - 2 * nv N 1 < n * w o := (Nat.div_lt_iff_lt_mul hwo).mp (by omega)
          omega
theorem foldl_cnt {F : Bcc → Nat → Bcc} {X : Nat} : ∀ (l : List Nat) (b : Bcc), (∀ n, n ∈ l → ∀ b, (F b n).1 ≤ b.1 + X) → (l.foldl F b).1 ≤ b.1 + l.length * X := by
  intro l
  induction l with
  | nil => intro b _; simp
  | cons x l ih =>
    intro b h
    have h1 := h x List.mem_cons_self b
    have h2 := ih (F b x) (fun n hn => h n (List.mem_cons_of_mem _ hn))
    rw [List.foldl_cons, List.length_cons, Nat.add_mul, Nat.one_mul]
    omega
theorem dn_len (n : Nat) : (dn n).length = n + 1 := by
  unfold dn
  rw [List.length_reverse, List.length_range]
theorem trC_cnt {cnt : Bool} {w L v : Nat → Nat} (hL : ∀ o, L o ≤ 8) : ∀ (k o s rest : Nat) (f : NV) (b : Bcc), (trC N cnt w L v k o s rest f b).1 ≤ b.1 + 9 ^ k := by
  intro k
  induction k with
  | zero =>
    intro o s rest f b
    unfold trC jdC
    split
    · show b.1 + 1 ≤ b.1 + 9 ^ 0
      omega
    · omega
  | succ k ih =>
    intro o s rest f b
    unfold trC
    split
    · exact Nat.le_add_right _ _
    · have := foldl_cnt (X := 9 ^ k) (dn (min (min (L o) (mxN N - s)) ((rest - 2 * nv N 1) / w o))) b (F := fun b n => trC N cnt w L v k (o + 1) (s + n) (rest - n * w o) (upd f o (nI n)) b) (fun n _ b => ih _ _ _ _ _)
      rw [dn_len] at this
      have h8 := hL o
      have h9 : (min (min (L o) (mxN N - s)) ((rest - 2 * nv N 1) / w o) + 1) * 9 ^ k ≤ 9 * 9 ^ k := Nat.mul_le_mul_right _ (by omega)
      rw [Nat.pow_succ, Nat.mul_comm (9 ^ k) 9]
      omega
def vb (b : Bcc) : Prop := b.2.1 ≤ 1000 ∧ b.2.2.1 ≤ 301
theorem trC_vb {cnt : Bool} {w L v : Nat → Nat} : ∀ (k o s rest : Nat) (f : NV) (b : Bcc), s ≤ mxN N → mxN N ≤ 8 → rest ≤ 300 → vb b → vb (trC N cnt w L v k o s rest f b) := by
  intro k
  induction k with
  | zero =>
    intro o s rest f b hs hm hr h
    unfold trC jdC
    split
    · dsimp only [vb]
      split
      · exact ⟨by show s ≤ 1000; omega, by show rest ≤ 301; omega⟩
      · exact h
    · exact h
  | succ k ih =>
    intro o s rest f b hs hm hr h
    unfold trC
    split
    · exact h
    · refine foldl_inv _ _ h (fun n hn c hc => ?_)
      rw [mem_dn] at hn
      exact ih _ _ _ _ _ (by omega) hm (by omega) hc
end M18a
