/-! THE CLASS: the best rest by sums; again -/
section M18i
variable {d : Nat} {S : bSt} {N : NV} {i : Nat}
/-- strips and widths of a row from o on, k orders -/
def tS (g : Nat → Nat) : Nat → Nat → Nat
  | 0, _ => 0
  | k + 1, o => g o + tS g k (o + 1)
def leR (a : Acc) (v : Nat) : Prop := a.2.1 ≠ 0 ∧ ∃ y, a.2.2.1 = nI y ∧ y ≤ v ∧ y ≤ 300
theorem offA_le (hw : WF N) {f : NV} {s rest : Nat} {a : Acc} {v : Nat} (hs : s ≤ 8) (hr : rest ≤ 300) (h : leR a v) : leR (offA N f s rest a) v := by
  unfold offA
  rw [poss_n hw (by omega) (by omega)]
  by_cases hp : pB N s rest = true
  · rw [if_pos hp]
    have hs1 : 1 ≤ s := by
      unfold pB at hp
      simp only [Bool.and_eq_true, decide_eq_true_eq] at hp
      exact hp.1
    obtain ⟨h1, y, h2, h3, h4⟩ := h
    split
    · rename_i hc
      refine ⟨?_, rest, rfl, ?_, hr⟩
      · show nI s ≠ 0
        rw [show (0 : Int32) = nI 0 from rfl]
        intro q
        rw [qI_eq (by omega) (by omega)] at q
        omega
      · rcases hc with hc | hc | hc
        · exact absurd hc h1
        · rw [h2, qI_lt (by omega) (by omega)] at hc; omega
        · have := hc.1
          rw [h2, qI_eq (by omega) (by omega)] at this
          omega
    · exact ⟨h1, y, h2, h3, h4⟩
  · rw [if_neg hp]; exact h
theorem trA_le (hw : WF N) {w L : Nat → Nat} : ∀ (k o s rest : Nat) (f : NV) (a : Acc) (v : Nat), s ≤ 8 → rest ≤ 300 → leR a v → leR (trA N w L k o s rest f a) v := by
  intro k
  induction k with
  | zero => intro o s rest f a v hs hr h; exact offA_le hw hs hr h
  | succ k ih =>
    intro o s rest f a v hs hr h
    unfold trA
    refine foldl_inv (R := fun a => leR a v) _ _ h (fun n hn c hc => ?_)
    rw [mem_dn] at hn
    exact ih _ _ _ _ _ _ (by omega) (by omega) hc
theorem foldl_hit {α : Type} {F : α → Nat → α} {R : α → Prop} {x : Nat} : ∀ (l : List Nat) (a : α), x ∈ l → (∀ n, n ∈ l → ∀ a, R a → R (F a n)) → (∀ a, R (F a x)) → R (l.foldl F a) := by
  intro l
  induction l with
  | nil => intro a h; cases h
  | cons y l ih =>
    intro a h h1 h2
    rw [List.foldl_cons]
    rcases List.mem_cons.mp h with h | h
    · subst h
      exact foldl_inv _ _ (h2 a) (fun n hn => h1 n (List.mem_cons_of_mem _ hn))
    · exact ih _ h (fun n hn => h1 n (List.mem_cons_of_mem _ hn)) h2
theorem trA_min (hw : WF N) {w L : Nat → Nat} {g : Nat → Nat} : ∀ (k o s rest : Nat) (f : NV) (a : Acc), s ≤ 8 → rest ≤ 300 → (∀ m, o ≤ m → m < o + k → g m ≤ L m ∧ 1 ≤ w m) → s + tS g k o ≤ 8 → tS (fun m => g m * w m) k o ≤ rest → pB N (s + tS g k o) (rest - tS (fun m => g m * w m) k o) = true → (a.2.1 = 0 ∨ ∃ y, leR a y) → leR (trA N w L k o s rest f a) (rest - tS (fun m => g m * w m) k o) := by
  intro k
  induction k with
  | zero =>
    intro o s rest f a hs hr _ h8 hW hp ha
    show leR (offA N f s rest a) (rest - 0)
    have hp' : pB N s rest = true := hp
    have hs1 : 1 ≤ s := by
      unfold pB at hp'
      simp only [Bool.and_eq_true, decide_eq_true_eq] at hp'
      exact hp'.1
    have hs0 : nI s ≠ 0 := by
      rw [show (0 : Int32) = nI 0 from rfl]
      intro q
      rw [qI_eq (by omega) (by omega)] at q
      omega
    unfold offA
    rw [poss_n hw (by omega) (by omega), if_pos hp']
    split
    · exact ⟨hs0, rest, rfl, by omega, hr⟩
    · rename_i hc
      rcases ha with ha | ⟨y', h1, y, h2, h3, h4⟩
      · exact absurd (Or.inl ha) hc
      · refine ⟨h1, y, h2, ?_, h4⟩
        rcases Nat.lt_or_ge rest y with q | q
        · exact absurd (Or.inr (Or.inl (by rw [h2, qI_lt (by omega) (by omega)]; exact q))) hc
        · omega
  | succ k ih =>
    intro o s rest f a hs hr hL h8 hW hp ha
    have e1 : tS g (k + 1) o = g o + tS g k (o + 1) := rfl
    have e2 : tS (fun m => g m * w m) (k + 1) o = g o * w o + tS (fun m => g m * w m) k (o + 1) := rfl
    rw [e1] at h8 hp
    rw [e2] at hW hp ⊢
    obtain ⟨l1, l2⟩ := hL o (Nat.le_refl _) (by omega)
    unfold trA
    have hmem : g o ∈ dn (min (L o) (min (8 - s) (rest / w o))) := by
      rw [mem_dn]
      have : g o ≤ rest / w o := (Nat.le_div_iff_mul_le (by omega)).mpr (by omega)
      omega
    have hgen : ∀ (l : List Nat) (b : Acc), g o ∈ l → (∀ n, n ∈ l → n ≤ min (L o) (min (8 - s) (rest / w o))) → (b.2.1 = 0 ∨ ∃ y, leR b y) → leR (l.foldl (fun a n => trA N w L k (o + 1) (s + n) (rest - n * w o) (upd f o (nI n)) a) b) (rest - (g o * w o + tS (fun m => g m * w m) k (o + 1))) := by
      intro l
      induction l with
      | nil => intro b h; cases h
      | cons y l ihl =>
        intro b h hl hb
        have hy := hl y List.mem_cons_self
        rw [List.foldl_cons]
        by_cases gy : y = g o
        · subst gy
          refine foldl_inv (R := fun a => leR a (rest - (g o * w o + tS (fun m => g m * w m) k (o + 1)))) _ _ ?_ (fun n hn c hc => ?_)
          · have := ih (o + 1) (s + g o) (rest - g o * w o) (upd f o (nI (g o))) b (by omega) (by omega) (fun m h1 h2 => hL m (by omega) (by omega)) (by omega) (by omega) (by rw [Nat.add_assoc, Nat.sub_sub]; exact hp) hb
            rw [Nat.sub_sub] at this
            exact this
          · have := hl n (List.mem_cons_of_mem _ hn)
            exact trA_le hw _ _ _ _ _ _ _ (by omega) (by omega) hc
        · refine ihl _ ((List.mem_cons.mp h).resolve_left (fun q => gy q.symm)) (fun n hn => hl n (List.mem_cons_of_mem _ hn)) ?_
          -- what was found stays found
          have keep : ∀ (k o s rest : Nat) (f : NV) (a : Acc), s ≤ 8 → rest ≤ 300 → (a.2.1 = 0 ∨ ∃ y, leR a y) → ((trA N w L k o s rest f a).2.1 = 0 ∨ ∃ y, leR (trA N w L k o s rest f a) y) := by
            intro k
            induction k with
            | zero =>
              intro o s rest f a hs hr h
              show (offA N f s rest a).2.1 = 0 ∨ ∃ y, leR (offA N f s rest a) y
              rcases h with h | ⟨y, h⟩
              · unfold offA
                rw [poss_n hw (by omega) (by omega)]
                by_cases hp : pB N s rest = true
                · rw [if_pos hp, if_pos (Or.inl h)]
                  have hs1 : 1 ≤ s := by
                    unfold pB at hp
                    simp only [Bool.and_eq_true, decide_eq_true_eq] at hp
                    exact hp.1
                  refine Or.inr ⟨rest, ?_, rest, rfl, Nat.le_refl _, hr⟩
                  show nI s ≠ 0
                  rw [show (0 : Int32) = nI 0 from rfl]
                  intro q
                  rw [qI_eq (by omega) (by omega)] at q
                  omega
                · rw [if_neg hp]; exact Or.inl h
              · exact Or.inr ⟨y, offA_le hw hs hr h⟩
            | succ k ih =>
              intro o s rest f a hs hr h
              unfold trA
              refine foldl_inv (R := fun a => a.2.1 = 0 ∨ ∃ y, leR a y) _ _ h (fun n hn c hc => ?_)
              rw [mem_dn] at hn
              exact ih _ _ _ _ _ (by omega) (by omega) hc
          exact keep _ _ _ _ _ _ (by omega) (by omega) hb
    exact hgen _ a hmem (fun n hn => mem_dn.mp hn) ha
theorem tS_sum {g : Nat → Nat} : ∀ k o, sumN g o + tS g k o = sumN g (o + k) := by
  intro k
  induction k with
  | zero => intro o; rfl
  | succ k ih =>
    intro o
    have := ih (o + 1)
    rw [show o + (k + 1) = o + 1 + k by omega, ← this]
    show sumN g o + (g o + tS g k (o + 1)) = (sumN g o + g o) + tS g k (o + 1)
    omega
/-- every pattern that may be cut leaves at least the best one's rest -/
theorem aLook_min (hw : WF N) {r : Nat} (hr : r < cR N) {g : Nat → Nat} (hg : ∀ m, m < cO N → g m ≤ lO N r m) (h8 : sumN g (cO N) ≤ 8) (hW : sumN (fun m => g m * wN N m) (cO N) ≤ nv N (55 + 3 * r)) (hp : pB N (sumN g (cO N)) (nv N (55 + 3 * r) - sumN (fun m => g m * wN N m) (cO N)) = true) : leR (aLook N r) (nv N (55 + 3 * r) - sumN (fun m => g m * wN N m) (cO N)) := by
  have hWr := (hw.2.2.2.1 r hr).2.1.2.2
  have e1 := tS_sum (g := g) (cO N) 0
  have e2 := tS_sum (g := fun m => g m * wN N m) (cO N) 0
  have z1 : sumN g 0 = 0 := rfl
  have z2 : sumN (fun m => g m * wN N m) 0 = 0 := rfl
  rw [z1, Nat.zero_add, Nat.zero_add] at e1
  rw [z2, Nat.zero_add, Nat.zero_add] at e2
  have := trA_min hw (w := wN N) (L := lO N r) (g := g) (cO N) 0 0 (nv N (55 + 3 * r)) (fun _ => 0) acc0 (by omega) hWr (fun m _ hm => ⟨hg m (by omega), by have := (hw.2.2.1 m (by omega)).2.1.2.1; unfold wN; omega⟩) (by omega) (by rw [e2]; exact hW) (by rw [e1, e2, Nat.zero_add]; exact hp) (Or.inl rfl)
  rw [e2] at this
  exact this
/-- the fewest strips for a sum: one order more, up to m strips of it -/
def fwn (f : Nat → Nat) (w sum : Nat) : Nat → Nat
  | 0 => f sum
  | m + 1 => if (m + 1) * w ≤ sum then min (fwn f w sum m) (f (sum - (m + 1) * w) + (m + 1)) else fwn f w sum m
def fw (w L : Nat → Nat) : Nat → Nat → Nat
  | 0 => fun sum => if sum = 0 then 0 else 1000
  | o + 1 => fun sum => fwn (fw w L o) (w o) sum (L o)
theorem fwn_le {f : Nat → Nat} {w sum : Nat} : ∀ m, fwn f w sum m ≤ f sum ∧ ∀ n, 1 ≤ n → n ≤ m → n * w ≤ sum → fwn f w sum m ≤ f (sum - n * w) + n := by
  intro m
  induction m with
  | zero => exact ⟨Nat.le_refl _, fun n h1 h2 => by omega⟩
  | succ m ih =>
    obtain ⟨i1, i2⟩ := ih
    unfold fwn
    by_cases g : (m + 1) * w ≤ sum
    · rw [if_pos g]
      refine ⟨Nat.le_trans (Nat.min_le_left _ _) i1, fun n h1 h2 h3 => ?_⟩
      by_cases gn : n = m + 1
      · subst gn; exact Nat.min_le_right _ _
      · exact Nat.le_trans (Nat.min_le_left _ _) (i2 n h1 (by omega) h3)
    · rw [if_neg g]
      refine ⟨i1, fun n h1 h2 h3 => ?_⟩
      by_cases gn : n = m + 1
      · subst gn; exact absurd h3 g
      · exact i2 n h1 (by omega) h3
theorem fwn_at {f : Nat → Nat} {w sum : Nat} : ∀ m, ∃ n, n ≤ m ∧ n * w ≤ sum ∧ fwn f w sum m = f (sum - n * w) + n := by
  intro m
  induction m with
  | zero => exact ⟨0, Nat.le_refl _, by omega, by rw [Nat.zero_mul, Nat.sub_zero]; rfl⟩
  | succ m ih =>
    obtain ⟨n, h1, h2, h3⟩ := ih
    unfold fwn
    by_cases g : (m + 1) * w ≤ sum
    · rw [if_pos g]
      rcases Nat.le_total (fwn f w sum m) (f (sum - (m + 1) * w) + (m + 1)) with q | q
      · rw [Nat.min_eq_left q]; exact ⟨n, by omega, h2, h3⟩
      · rw [Nat.min_eq_right q]; exact ⟨m + 1, Nat.le_refl _, g, rfl⟩
    · rw [if_neg g]; exact ⟨n, by omega, h2, h3⟩
theorem fwn_stop {f : Nat → Nat} {w sum : Nat} : ∀ j m, sum < (m + 1) * w → fwn f w sum (m + j) = fwn f w sum m := by
  intro j
  induction j with
  | zero => intro m _; rfl
  | succ j ih =>
    intro m h
    rw [show m + (j + 1) = m + j + 1 by omega, fwn, if_neg, ih m h]
    have : (m + 1) * w ≤ (m + j + 1) * w := Nat.mul_le_mul_right _ (by omega)
    omega
theorem fw_1000 {w L : Nat → Nat} : ∀ o sum, fw w L o sum ≤ 1000 := by
  intro o
  induction o with
  | zero => intro sum; unfold fw; split <;> omega
  | succ o ih => intro sum; exact Nat.le_trans (fwn_le _).1 (ih sum)
theorem fw_low {w L g : Nat → Nat} : ∀ o, (∀ m, m < o → g m ≤ L m) → fw w L o (sumN (fun m => g m * w m) o) ≤ sumN g o := by
  intro o
  induction o with
  | zero => intro _; exact Nat.le_refl _
  | succ o ih =>
    intro h
    have hi := ih (fun m hm => h m (by omega))
    have hg := h o (by omega)
    show fwn (fw w L o) (w o) (sumN (fun m => g m * w m) o + g o * w o) (L o) ≤ sumN g o + g o
    rcases Nat.eq_zero_or_pos (g o) with q | q
    · rw [q, Nat.zero_mul, Nat.add_zero, Nat.add_zero]
      exact Nat.le_trans (fwn_le _).1 hi
    · have := (fwn_le (f := fw w L o) (w := w o) (sum := sumN (fun m => g m * w m) o + g o * w o) (L o)).2 (g o) q hg (Nat.le_add_left _ _)
      rw [Nat.add_sub_cancel] at this
      omega
theorem fw_at {w L : Nat → Nat} : ∀ o sum, fw w L o sum < 1000 → ∃ g : Nat → Nat, (∀ m, m < o → g m ≤ L m) ∧ sumN (fun m => g m * w m) o = sum ∧ sumN g o = fw w L o sum := by
  intro o
  induction o with
  | zero =>
    intro sum h
    unfold fw at h ⊢
    by_cases g : sum = 0
    · subst g
      exact ⟨fun _ => 0, fun m hm => absurd hm (Nat.not_lt_zero _), rfl, by rw [if_pos rfl]; rfl⟩
    · rw [if_neg g] at h; omega
  | succ o ih =>
    intro sum h
    obtain ⟨n, h1, h2, h3⟩ := fwn_at (f := fw w L o) (w := w o) (sum := sum) (L o)
    have e : fw w L (o + 1) sum = fw w L o (sum - n * w o) + n := h3
    rw [e] at h ⊢
    obtain ⟨g, g1, g2, g3⟩ := ih (sum - n * w o) (by omega)
    refine ⟨fun m => if m = o then n else g m, fun m hm => ?_, ?_, ?_⟩
    · show (if m = o then n else g m) ≤ L m
      split
      · subst m; exact h1
      · exact g1 m (by omega)
    · show sumN (fun m => (if m = o then n else g m) * w m) o + (if o = o then n else g o) * w o = sum
      rw [if_pos rfl, sumN_congr (g := fun m => g m * w m) o (fun m hm => by rw [if_neg (by omega)]), g2]
      omega
    · show sumN (fun m => if m = o then n else g m) o + (if o = o then n else g o) = _
      rw [if_pos rfl, sumN_congr (g := g) o (fun m hm => by rw [if_neg (by omega)]), g3]
/-- the best rest, from a sum downwards -/
def rsF (N : NV) (W : Nat) (f : Nat → Nat) : Nat → Int32
  | 0 => -5
  | k + 1 => if (if W - (k + 1) = 0 then f (k + 1) - 1 else f (k + 1) + 1) ≤ nv N 0 then nI (W - (k + 1)) else rsF N W f k
theorem rsF_ok {W : Nat} {f : Nat → Nat} : ∀ k, (rsF N W f k = -5 ∧ ∀ m, 1 ≤ m → m ≤ k → ¬ (if W - m = 0 then f m - 1 else f m + 1) ≤ nv N 0) ∨ ∃ m, 1 ≤ m ∧ m ≤ k ∧ rsF N W f k = nI (W - m) ∧ (if W - m = 0 then f m - 1 else f m + 1) ≤ nv N 0 ∧ ∀ m', m < m' → m' ≤ k → ¬ (if W - m' = 0 then f m' - 1 else f m' + 1) ≤ nv N 0 := by
  intro k
  induction k with
  | zero => exact Or.inl ⟨rfl, fun m h1 h2 => by omega⟩
  | succ k ih =>
    unfold rsF
    by_cases g : (if W - (k + 1) = 0 then f (k + 1) - 1 else f (k + 1) + 1) ≤ nv N 0
    · rw [if_pos g]
      exact Or.inr ⟨k + 1, by omega, Nat.le_refl _, rfl, g, fun m' h1 h2 => by omega⟩
    · rw [if_neg g]
      rcases ih with ⟨i1, i2⟩ | ⟨m, m1, m2, m3, m4, m5⟩
      · refine Or.inl ⟨i1, fun m h1 h2 => ?_⟩
        by_cases gm : m = k + 1
        · subst gm; exact g
        · exact i2 m h1 (by omega)
      · refine Or.inr ⟨m, m1, by omega, m3, m4, fun m' h1 h2 => ?_⟩
        by_cases gm : m' = k + 1
        · subst gm; exact g
        · exact m5 m' h1 (by omega)
theorem sumN_tail {g : Nat → Nat} {c : Nat} : ∀ k, (∀ m, c ≤ m → g m = 0) → sumN g (c + k) = sumN g c := by
  intro k
  induction k with
  | zero => intro _; rfl
  | succ k ih =>
    intro h
    rw [show c + (k + 1) = c + k + 1 by omega, sumN, ih h, h (c + k) (by omega), Nat.add_zero]
theorem rsF_look (hw : WF N) {r : Nat} (hr : r < cR N) (hle : 2 * nv N 1 ≤ nv N (55 + 3 * r)) : rsF N (nv N (55 + 3 * r)) (fw (wN N) (fun o => min 8 (lO N r o)) (cO N)) (nv N (55 + 3 * r) - 2 * nv N 1) = if 0 < (aLook N r).2.1 then (aLook N r).2.2.1 else -5 := by
  have h8 := hw.1.2.1
  obtain ⟨-, -, k7⟩ := hw.2.1.1
  have hW := (hw.2.2.2.1 r hr).2.1.2.2
  generalize hWW : nv N (55 + 3 * r) = W at *
  generalize hF : fw (wN N) (fun o => min 8 (lO N r o)) (cO N) = F
  -- a sum that will do gives a pattern
  have pat : ∀ m, 1 ≤ m → m ≤ W - 2 * nv N 1 → (if W - m = 0 then F m - 1 else F m + 1) ≤ nv N 0 → leR (aLook N r) (W - m) := by
    intro m m1 m2 m3
    have hlt : F m < 1000 := by split at m3 <;> omega
    rw [← hF] at hlt
    obtain ⟨g, g1, g2, g3⟩ := fw_at (cO N) m hlt
    rw [hF] at g3
    have hs8 : sumN g (cO N) ≤ 8 := by rw [g3]; split at m3 <;> omega
    have hs1 : 1 ≤ sumN g (cO N) := by
      rcases Nat.eq_zero_or_pos (sumN g (cO N)) with q | q
      · exfalso
        have hz : ∀ z, z < cO N → g z = 0 := fun z hz => by have := sumN_ge (g := g) (i := z) (cO N) hz; omega
        have : sumN (fun m => g m * wN N m) (cO N) = sumN (fun _ => 0) (cO N) := sumN_congr _ (fun z hz' => by rw [hz z hz', Nat.zero_mul])
        have h0 := sumN_le (f := fun _ => 0) (b := 0) (cO N) (fun _ _ => Nat.le_refl _)
        omega
      · exact q
    have := aLook_min hw hr (g := g) (fun z hz => Nat.le_trans (g1 z hz) (Nat.min_le_right _ _)) hs8 (by rw [g2, hWW]; omega) (by
      rw [g2, hWW]
      unfold pB
      rw [decide_eq_true hs1, decide_eq_true (show 2 * nv N 1 ≤ W - m by omega), decide_eq_true (by rw [g3]; exact m3)]
      rfl)
    rw [g2, hWW] at this
    exact this
  rcases aLook_good hw r with h0 | ⟨s, rest, g, a1, a2, a3, s1, s8, hp, gs, gw, gL, gz⟩
  · rw [if_neg (by rw [h0]; decide)]
    rcases rsF_ok (N := N) (W := W) (f := F) (W - 2 * nv N 1) with ⟨e, -⟩ | ⟨m, m1, m2, -, m4, -⟩
    · exact e
    · exact absurd h0 (pat m m1 m2 m4).1
  · rw [a1, if_pos (show (0 : Int32) < nI s from by rw [show (0 : Int32) = nI 0 from rfl, qI_lt (by omega) (by omega)]; omega), a2]
    rw [hWW] at gw
    obtain ⟨z, hz⟩ : ∃ z, 8 = cO N + z := ⟨8 - cO N, by omega⟩
    have gs' : sumN g (cO N) = s := by
      rw [← gs, hz]
      exact (sumN_tail z gz).symm
    have gw' : sumN (fun m => g m * wN N m) (cO N) + rest = W := by
      rw [← gw, hz]
      congr 1
      exact (sumN_tail z (fun m hm => by rw [gz m hm, Nat.zero_mul])).symm
    have hr300 : rest ≤ 300 := by omega
    rw [poss_n hw (by omega) (by omega)] at hp
    unfold pB at hp
    simp only [Bool.and_eq_true, decide_eq_true_eq] at hp
    obtain ⟨-, p2, p3⟩ := hp
    have hlow := fw_low (w := wN N) (L := fun o => min 8 (lO N r o)) (g := g) (cO N) (fun m hm => by
      have := gL m hm
      have := sumN_ge (g := g) (i := m) (cO N) hm
      omega)
    rw [hF, gs'] at hlow
    have hsum : sumN (fun m => g m * wN N m) (cO N) = W - rest := by omega
    rw [hsum] at hlow
    have hpos : 1 ≤ W - rest := by
      rcases Nat.eq_zero_or_pos (W - rest) with q | q
      · exfalso
        have hz : ∀ z, z < cO N → g z = 0 := fun z hz => by
          have h1 := sumN_ge (g := fun m => g m * wN N m) (i := z) (cO N) hz
          have h2 : 10 ≤ wN N z := (hw.2.2.1 z hz).2.1.2.1
          have h3 : g z * 10 ≤ g z * wN N z := Nat.mul_le_mul_left _ h2
          omega
        have : sumN g (cO N) = sumN (fun _ => 0) (cO N) := sumN_congr _ (fun z hz' => hz z hz')
        have h0 := sumN_le (f := fun _ => 0) (b := 0) (cO N) (fun _ _ => Nat.le_refl _)
        omega
      · exact q
    have ok : (if W - (W - rest) = 0 then F (W - rest) - 1 else F (W - rest) + 1) ≤ nv N 0 := by
      rw [show W - (W - rest) = rest by omega]
      by_cases q : rest = 0
      · rw [if_pos q] at p3 ⊢; omega
      · rw [if_neg q] at p3 ⊢; omega
    rcases rsF_ok (N := N) (W := W) (f := F) (W - 2 * nv N 1) with ⟨-, e⟩ | ⟨m, m1, m2, m3, m4, m5⟩
    · exact absurd ok (e (W - rest) hpos (by omega))
    · rw [m3]
      have hge : W - rest ≤ m := by
        rcases Nat.lt_or_ge m (W - rest) with q | q
        · exact absurd ok (m5 _ q (by omega))
        · exact q
      obtain ⟨-, y, y1, y2, y3⟩ := pat m m1 m2 m4
      rw [a2, qI_eq (by omega) (by omega)] at y1
      congr 1
      omega
end M18i
