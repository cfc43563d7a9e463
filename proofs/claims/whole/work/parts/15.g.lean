/-! THE MODEL's methods, 15: the order of the runs -/
section M15g
/-- the setup of a run behind another one (one less), or as the first one -/
def aBt (N : NV) (a u : Nat) : Nat := if a = 0 then aPos N u else aSet N u (a - 1)
theorem aBt_le {N : NV} (h : WF N) {a u : Nat} (hu : u < cU N) : aBt N a u ≤ 12 := by
  have h7 := aPos_le h hu
  unfold aBt aSet
  split
  · omega
  · have : sumN (fun k => if aHasP N (a - 1) (aPosAt N u k) = true then 0 else 1) (aPos N u) ≤ aPos N u * 1 := sumN_le _ (fun k _ => by split <;> omega)
    split <;> omega
def updB (f : Nat → Bool) (k : Nat) : Nat → Bool := fun j => if j = k then true else f j
def updN (f : Nat → Nat) (k x : Nat) : Nat → Nat := fun j => if j = k then x else f j
def nrPick (ch : Nat → Bool) (B : Nat → Nat) : Nat → Option Nat
  | 0 => none
  | n + 1 => match nrPick ch B n with
    | none => if ch n = false then some n else none
    | some p => if ch n = false ∧ B n < B p then some n else some p
theorem nrPick_ok {ch : Nat → Bool} {B : Nat → Nat} : ∀ n, (∀ u, nrPick ch B n = some u → u < n ∧ ch u = false) ∧ (nrPick ch B n = none → ∀ u, u < n → ch u = true) := by
  intro n
  induction n with
  | zero => exact ⟨fun u h => by simp [nrPick] at h, fun _ u hu => absurd hu (Nat.not_lt_zero _)⟩
  | succ n ih =>
    obtain ⟨i1, i2⟩ := ih
    unfold nrPick
    split
    · rename_i hn
      split
      · rename_i hc
        exact ⟨fun u h => by obtain rfl := Option.some.inj h; exact ⟨by omega, hc⟩, fun h => by simp at h⟩
      · rename_i hc
        refine ⟨fun u h => by simp at h, fun _ u hu => ?_⟩
        rcases Nat.lt_or_ge u n with g | g
        · exact i2 hn u g
        · obtain rfl : u = n := by omega
          simpa using hc
    · rename_i p hp
      split
      · rename_i hc
        exact ⟨fun u h => by obtain rfl := Option.some.inj h; exact ⟨by omega, hc.1⟩, fun h => by simp at h⟩
      · refine ⟨fun u h => ?_, fun h => by simp at h⟩
        obtain rfl := Option.some.inj h
        exact ⟨by have := (i1 p hp).1; omega, (i1 p hp).2⟩
def cntB (ch : Nat → Bool) : Nat → Nat := sumN (fun u => if ch u = true then 1 else 0)
theorem cntB_le (ch : Nat → Bool) (n : Nat) : cntB ch n ≤ n := by
  have := sumN_le (f := fun u => if ch u = true then 1 else 0) (b := 1) n (fun u _ => by split <;> omega)
  unfold cntB
  omega
theorem cntB_all {ch : Nat → Bool} : ∀ n, (∀ u, u < n → ch u = true) → cntB ch n = n := by
  intro n
  induction n with
  | zero => intro _; rfl
  | succ n ih =>
    intro h
    unfold cntB at ih ⊢
    rw [sumN, ih (fun u hu => h u (by omega)), if_pos (h n (by omega))]
theorem cntB_upd {ch : Nat → Bool} {u : Nat} (hu : ch u = false) : ∀ n, cntB (updB ch u) n = cntB ch n + (if u < n then 1 else 0) := by
  intro n
  induction n with
  | zero => rfl
  | succ n ih =>
    unfold cntB at ih ⊢
    rw [sumN, sumN, ih]
    unfold updB
    by_cases h1 : n = u
    · subst h1
      simp [hu]
    · by_cases h2 : u < n
      · simp only [h1, if_false, h2, if_true, show u < n + 1 by omega]
        omega
      · simp only [h1, if_false, h2, show ¬ u < n + 1 by omega]
        omega
/-- places given so far: who stands ahead (one more), who is chosen, the order -/
def nrSt (B : Nat → Nat → Nat) (c : Nat) : Nat → Nat × (Nat → Bool) × (Nat → Nat)
  | 0 => (0, fun _ => false, fun _ => 0)
  | m + 1 => (((nrPick (nrSt B c m).2.1 (B (nrSt B c m).1) c).getD 0) + 1, updB (nrSt B c m).2.1 ((nrPick (nrSt B c m).2.1 (B (nrSt B c m).1) c).getD 0), updN (nrSt B c m).2.2 m ((nrPick (nrSt B c m).2.1 (B (nrSt B c m).1) c).getD 0))
theorem nrSt_ok {B : Nat → Nat → Nat} {c : Nat} : ∀ m, m ≤ c → cntB (nrSt B c m).2.1 c = m ∧ (nrSt B c m).1 ≤ c ∧ (∀ u, (nrSt B c m).2.1 u = true ↔ ∃ i, i < m ∧ (nrSt B c m).2.2 i = u) ∧ (∀ i, i < m → (nrSt B c m).2.2 i < c) ∧ (∀ i j, i < m → j < m → (nrSt B c m).2.2 i = (nrSt B c m).2.2 j → i = j) ∧ (m < c → ∃ u, nrPick (nrSt B c m).2.1 (B (nrSt B c m).1) c = some u ∧ u < c ∧ (nrSt B c m).2.1 u = false) := by
  have pick : ∀ m, m < c → cntB (nrSt B c m).2.1 c = m → ∃ u, nrPick (nrSt B c m).2.1 (B (nrSt B c m).1) c = some u ∧ u < c ∧ (nrSt B c m).2.1 u = false := by
    intro m hm hc
    cases h : nrPick (nrSt B c m).2.1 (B (nrSt B c m).1) c with
    | none =>
      have := cntB_all c ((nrPick_ok c).2 h)
      omega
    | some u => exact ⟨u, rfl, (nrPick_ok c).1 u h⟩
  intro m
  induction m with
  | zero =>
    intro _
    have h0 : cntB (nrSt B c 0).2.1 c = 0 := by
      show sumN (fun u => if (fun _ => false) u = true then 1 else 0) c = 0
      have := sumN_le (f := fun u => if (fun _ => false) u = true then 1 else 0) (b := 0) c (fun u _ => by simp)
      omega
    refine ⟨h0, Nat.zero_le _, fun u => ⟨fun h => by simp [nrSt] at h, fun ⟨i, h, _⟩ => absurd h (Nat.not_lt_zero _)⟩, fun i h => absurd h (Nat.not_lt_zero _), fun i j h => absurd h (Nat.not_lt_zero _), fun h => pick 0 h h0⟩
  | succ m ih =>
    intro hm
    obtain ⟨h1, h2, h3, h4, h5, h6⟩ := ih (by omega)
    obtain ⟨u, e, hu, hf⟩ := h6 (by omega)
    have es : nrSt B c (m + 1) = (u + 1, updB (nrSt B c m).2.1 u, updN (nrSt B c m).2.2 m u) := by
      show (_, _, _) = _
      rw [e]
      rfl
    have hcnt : cntB (nrSt B c (m + 1)).2.1 c = m + 1 := by
      rw [es]
      show cntB (updB (nrSt B c m).2.1 u) c = m + 1
      rw [cntB_upd hf, h1, if_pos hu]
    refine ⟨hcnt, by rw [es]; exact hu, fun v => ?_, fun i hi => ?_, fun i j hi hj he => ?_, fun h => pick (m + 1) h hcnt⟩
    · rw [es]
      show updB (nrSt B c m).2.1 u v = true ↔ ∃ i, i < m + 1 ∧ updN (nrSt B c m).2.2 m u i = v
      unfold updB updN
      constructor
      · intro h
        by_cases hv : v = u
        · exact ⟨m, by omega, by rw [if_pos rfl, hv]⟩
        · rw [if_neg hv] at h
          obtain ⟨i, hi, he⟩ := (h3 v).mp h
          exact ⟨i, by omega, by rw [if_neg (by omega)]; exact he⟩
      · rintro ⟨i, hi, he⟩
        by_cases hv : v = u
        · rw [if_pos hv]
        · rw [if_neg hv]
          by_cases him : i = m
          · rw [if_pos him] at he; exact absurd he.symm hv
          · rw [if_neg him] at he
            exact (h3 v).mpr ⟨i, by omega, he⟩
    · rw [es]
      show updN (nrSt B c m).2.2 m u i < c
      unfold updN
      split
      · exact hu
      · exact h4 i (by omega)
    · rw [es] at he
      have he' : updN (nrSt B c m).2.2 m u i = updN (nrSt B c m).2.2 m u j := he
      unfold updN at he'
      have fresh : ∀ i, i < m → (nrSt B c m).2.2 i ≠ u := by
        intro i hi q
        have := (h3 u).mpr ⟨i, hi, q⟩
        rw [hf] at this
        exact absurd this (by decide)
      by_cases hi1 : i = m
      · rw [if_pos hi1] at he'
        by_cases hj1 : j = m
        · omega
        · rw [if_neg hj1] at he'
          exact absurd he'.symm (fresh j (by omega))
      · rw [if_neg hi1] at he'
        by_cases hj1 : j = m
        · rw [if_pos hj1] at he'
          exact absurd he' (fresh i (by omega))
        · rw [if_neg hj1] at he'
          exact h5 i j (by omega) (by omega) he'
abbrev Seq : Type := Option (Nat × (Nat → Nat))
/-- all orders of the runs from a place on, the first ones first; the first of the best ones is kept -/
def arA (B : Nat → Nat → Nat) (c : Nat) : Nat → Nat → Nat → Nat → (Nat → Bool) → (Nat → Nat) → Seq → Seq
  | 0, _, _, s, _, cs, acc => match acc with
    | none => some (s, cs)
    | some (b, o) => if s < b then some (s, cs) else some (b, o)
  | k + 1, p, a, s, ch, cs, acc => (List.range c).foldl (fun acc u => if ch u = true then acc else arA B c k (p + 1) (u + 1) (s + B a u) (updB ch u) (updN cs p u) acc) acc
def arBest (B : Nat → Nat → Nat) (c : Nat) : Seq := arA B c c 0 0 0 (fun _ => false) (fun _ => 0) none
def gSeq (c : Nat) (acc : Seq) : Prop := match acc with
  | none => True
  | some (_, o) => (∀ i, i < c → o i < c) ∧ (∀ i j, i < c → j < c → o i = o j → i = j)
theorem arA_ok {B : Nat → Nat → Nat} {c : Nat} : ∀ (k p a s : Nat) (ch : Nat → Bool) (cs : Nat → Nat) (acc : Seq), p + k = c → cntB ch c = p → (∀ i, i < p → cs i < c) → (∀ i j, i < p → j < p → cs i = cs j → i = j) → (∀ u, ch u = true ↔ ∃ i, i < p ∧ cs i = u) → gSeq c acc → gSeq c (arA B c k p a s ch cs acc) ∧ arA B c k p a s ch cs acc ≠ none := by
  intro k
  induction k with
  | zero =>
    intro p a s ch cs acc hp hc h1 h2 h3 hg
    obtain rfl : p = c := by omega
    unfold arA
    cases acc with
    | none => exact ⟨⟨h1, h2⟩, by simp⟩
    | some q =>
      obtain ⟨b, o⟩ := q
      dsimp only
      split
      · exact ⟨⟨h1, h2⟩, by simp⟩
      · exact ⟨hg, by simp⟩
  | succ k ih =>
    intro p a s ch cs acc hp hc h1 h2 h3 hg
    unfold arA
    have stepg : ∀ u, ch u = false → u < c → ∀ acc, gSeq c acc → gSeq c (arA B c k (p + 1) (u + 1) (s + B a u) (updB ch u) (updN cs p u) acc) ∧ arA B c k (p + 1) (u + 1) (s + B a u) (updB ch u) (updN cs p u) acc ≠ none := by
      intro u hu huc acc hacc
      have fresh : ∀ i, i < p → cs i ≠ u := by
        intro i hi q
        have := (h3 u).mpr ⟨i, hi, q⟩
        rw [hu] at this
        exact absurd this (by decide)
      refine ih (p + 1) (u + 1) _ _ _ acc (by omega) (by rw [cntB_upd hu, if_pos huc]; omega) (fun i hi => ?_) (fun i j hi hj he => ?_) (fun v => ?_) hacc
      · unfold updN
        split
        · exact huc
        · exact h1 i (by omega)
      · unfold updN at he
        by_cases hi1 : i = p
        · rw [if_pos hi1] at he
          by_cases hj1 : j = p
          · omega
          · rw [if_neg hj1] at he
            exact absurd he.symm (fresh j (by omega))
        · rw [if_neg hi1] at he
          by_cases hj1 : j = p
          · rw [if_pos hj1] at he
            exact absurd he (fresh i (by omega))
          · rw [if_neg hj1] at he
            exact h2 i j (by omega) (by omega) he
      · unfold updB updN
        constructor
        · intro h
          by_cases hv : v = u
          · exact ⟨p, by omega, by rw [if_pos rfl, hv]⟩
          · rw [if_neg hv] at h
            obtain ⟨i, hi, he⟩ := (h3 v).mp h
            exact ⟨i, by omega, by rw [if_neg (by omega)]; exact he⟩
        · rintro ⟨i, hi, he⟩
          by_cases hv : v = u
          · rw [if_pos hv]
          · rw [if_neg hv]
            by_cases him : i = p
            · rw [if_pos him] at he; exact absurd he.symm hv
            · rw [if_neg him] at he
              exact (h3 v).mpr ⟨i, by omega, he⟩
    have key : ∀ n, n ≤ c → gSeq c ((List.range n).foldl (fun acc u => if ch u = true then acc else arA B c k (p + 1) (u + 1) (s + B a u) (updB ch u) (updN cs p u) acc) acc) ∧ ((∃ u, u < n ∧ ch u = false) → (List.range n).foldl (fun acc u => if ch u = true then acc else arA B c k (p + 1) (u + 1) (s + B a u) (updB ch u) (updN cs p u) acc) acc ≠ none) := by
      intro n
      induction n with
      | zero => intro _; exact ⟨hg, fun ⟨u, hu, _⟩ => absurd hu (Nat.not_lt_zero _)⟩
      | succ n ihn =>
        intro hn
        obtain ⟨i1, i2⟩ := ihn (by omega)
        rw [List.range_succ, List.foldl_append]
        show gSeq c (if ch n = true then _ else _) ∧ (_ → (if ch n = true then _ else _) ≠ none)
        by_cases hb : ch n = true
        · rw [if_pos hb]
          refine ⟨i1, fun ⟨u, hu, hf⟩ => i2 ⟨u, ?_, hf⟩⟩
          rcases Nat.lt_or_ge u n with g | g
          · exact g
          · obtain rfl : u = n := by omega
            rw [hb] at hf
            exact absurd hf (by decide)
        · rw [if_neg hb]
          have := stepg n (by simpa using hb) (by omega) _ i1
          exact ⟨this.1, fun _ => this.2⟩
    refine ⟨(key c (Nat.le_refl _)).1, (key c (Nat.le_refl _)).2 ?_⟩
    rcases Classical.em (∃ u, u < c ∧ ch u = false) with h | h
    · exact h
    · exfalso
      have : cntB ch c = c := cntB_all c (fun u hu => by
        cases hb : ch u with
        | true => rfl
        | false => exact absurd ⟨u, hu, hb⟩ h)
      omega
theorem arBest_ok (B : Nat → Nat → Nat) (c : Nat) : ∃ s o, arBest B c = some (s, o) ∧ (∀ i, i < c → o i < c) ∧ (∀ i j, i < c → j < c → o i = o j → i = j) := by
  have h0 : cntB (fun _ => false) c = 0 := by
    have := sumN_le (f := fun u => if (fun _ => false) u = true then 1 else 0) (b := 0) c (fun u _ => by simp)
    unfold cntB
    omega
  obtain ⟨h1, h2⟩ := arA_ok (B := B) c 0 0 0 (fun _ => false) (fun _ => 0) none (by omega) h0 (fun i hi => absurd hi (Nat.not_lt_zero _)) (fun i j hi => absurd hi (Nat.not_lt_zero _)) (fun u => ⟨fun h => by simp at h, fun ⟨i, h, _⟩ => absurd h (Nat.not_lt_zero _)⟩) trivial
  unfold arBest
  cases h : arA B c c 0 0 0 (fun _ => false) (fun _ => 0) none with
  | none => exact absurd h h2
  | some q =>
    obtain ⟨s, o⟩ := q
    rw [h] at h1
    exact ⟨s, o, rfl, h1⟩
/-- the runs in another order -/
def nPerm (N : NV) (o : Nat → Nat) : NV := fun k => if 90 ≤ k ∧ k < 90 + 12 * cU N then N (90 + 12 * o ((k - 90) / 12) + (k - 90) % 12) else N k
theorem nPerm_lo {N : NV} {o : Nat → Nat} {k : Nat} (h : k < 90) : nPerm N o k = N k := by
  unfold nPerm
  rw [if_neg (by omega)]
theorem nPerm_run {N : NV} {o : Nat → Nat} {u i : Nat} (hu : u < cU N) (hi : i < 12) : nPerm N o (90 + 12 * u + i) = N (90 + 12 * o u + i) := by
  unfold nPerm
  rw [if_pos (by omega), show (90 + 12 * u + i - 90) / 12 = u by omega, show (90 + 12 * u + i - 90) % 12 = i by omega]
theorem WF_nPerm {N : NV} (h : WF N) {o : Nat → Nat} (h1 : ∀ i, i < cU N → o i < cU N) (h2 : ∀ i j, i < cU N → j < cU N → o i = o j → i = j) : WF (nPerm N o) :=
  WF_perm h (fun k hk _ => nPerm_lo hk) (c := cU N) (by rw [nPerm_lo (by omega)]; exact h.1.2.2.2.2.1) h.1.2.2.2.2.2 o h1 (fun u i hu hi => nPerm_run hu hi) h2
def nrO (N : NV) : Nat → Nat := (nrSt (aBt N) (cU N) (cU N)).2.2
def arO (N : NV) : Nat → Nat := match arBest (aBt N) (cU N) with
  | some (_, o) => o
  | none => fun _ => 0
def arS (N : NV) : Nat := match arBest (aBt N) (cU N) with
  | some (s, _) => s
  | none => 0
def aArrO (N : NV) (x : Int32) : Nat → Nat := if x = 0 then nrO N else arO N
def aArr (N : NV) (x : Int32) : Int32 × NV := if inR x 0 1 = true then (if x = 1 ∧ ¬ N 5 ≤ 7 then (-4, N) else (nI (aSets (nPerm N (aArrO N x))), nPerm N (aArrO N x))) else (-2, N)
theorem aArrO_ok (N : NV) (x : Int32) : (∀ i, i < cU N → aArrO N x i < cU N) ∧ (∀ i j, i < cU N → j < cU N → aArrO N x i = aArrO N x j → i = j) := by
  unfold aArrO
  split
  · obtain ⟨-, -, -, h1, h2, -⟩ := nrSt_ok (B := aBt N) (c := cU N) (cU N) (Nat.le_refl _)
    exact ⟨h1, h2⟩
  · obtain ⟨s, o, e, h1, h2⟩ := arBest_ok (aBt N) (cU N)
    unfold arO
    rw [e]
    exact ⟨h1, h2⟩
theorem WF_aArr {N : NV} (h : WF N) (x : Int32) : WF (aArr N x).2 := by
  unfold aArr
  split
  · split
    · exact h
    · exact WF_nPerm h (aArrO_ok N x).1 (aArrO_ok N x).2
  · exact h
end M15g
