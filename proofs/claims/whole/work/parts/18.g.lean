/-! THE CLASS: the least sum of setups by sets of runs -/
section M18g
variable {d : Nat} {S : bSt} {N : NV} {i : Nat}
/-- what a sequence costs -/
def cst (B : Nat → Nat → Nat) (o : Nat → Nat) : Nat → Nat
  | 0 => 0
  | m + 1 => cst B o m + B (if m = 0 then 0 else o (m - 1) + 1) (o m)
theorem cst_congr {B : Nat → Nat → Nat} {o o' : Nat → Nat} : ∀ m, (∀ j, j < m → o j = o' j) → cst B o m = cst B o' m := by
  intro m
  induction m with
  | zero => intro _; rfl
  | succ m ih =>
    intro h
    unfold cst
    rw [ih (fun j hj => h j (by omega)), h m (by omega)]
    by_cases g : m = 0
    · rw [if_pos g, if_pos g]
    · rw [if_neg g, if_neg g, h (m - 1) (by omega)]
theorem cst_le {B : Nat → Nat → Nat} {c : Nat} (hB : ∀ a u, u < c → B a u ≤ 12) {o : Nat → Nat} : ∀ m, (∀ j, j < m → o j < c) → cst B o m ≤ 12 * m := by
  intro m
  induction m with
  | zero => intro _; exact Nat.le_refl _
  | succ m ih =>
    intro h
    have h1 := ih (fun j hj => h j (by omega))
    have h2 := hB (if m = 0 then 0 else o (m - 1) + 1) (o m) (h m (by omega))
    unfold cst
    omega
def flg (o : Nat → Nat) : Nat → Nat → Bool
  | 0 => fun _ => false
  | m + 1 => updB (flg o m) (o m)
theorem flg_iff {o : Nat → Nat} : ∀ m v, flg o m v = true ↔ ∃ j, j < m ∧ o j = v := by
  intro m
  induction m with
  | zero => exact fun v => ⟨fun h => by simp [flg] at h, fun ⟨j, h, _⟩ => absurd h (Nat.not_lt_zero _)⟩
  | succ m ih =>
    intro v
    unfold flg updB
    by_cases g : v = o m
    · rw [if_pos g]
      exact ⟨fun _ => ⟨m, by omega, g.symm⟩, fun _ => rfl⟩
    · rw [if_neg g, ih]
      constructor
      · rintro ⟨j, h1, h2⟩; exact ⟨j, by omega, h2⟩
      · rintro ⟨j, h1, h2⟩
        refine ⟨j, ?_, h2⟩
        rcases Nat.lt_or_ge j m with z | z
        · exact z
        · obtain rfl : j = m := by omega
          exact absurd h2.symm g
theorem inj_le {o : Nat → Nat} {c : Nat} : ∀ m, (∀ j, j < m → o j < c) → (∀ j j', j < m → j' < m → o j = o j' → j = j') → cntB (flg o m) c = m ∧ m ≤ c := by
  intro m
  induction m with
  | zero =>
    intro _ _
    have := sumN_le (f := fun u => if (fun _ => false) u = true then 1 else 0) (b := 0) c (fun u _ => by simp)
    refine ⟨?_, Nat.zero_le _⟩
    show sumN (fun u => if (fun _ => false) u = true then 1 else 0) c = 0
    omega
  | succ m ih =>
    intro h1 h2
    obtain ⟨i1, i2⟩ := ih (fun j hj => h1 j (by omega)) (fun j j' hj hj' => h2 j j' (by omega) (by omega))
    have hf : flg o m (o m) = false := by
      cases hb : flg o m (o m) with
      | false => rfl
      | true =>
        obtain ⟨j, hj, he⟩ := (flg_iff m _).mp hb
        have := h2 j m (by omega) (by omega) he
        omega
    have e : cntB (flg o (m + 1)) c = m + 1 := by
      show cntB (updB (flg o m) (o m)) c = m + 1
      rw [cntB_upd hf, i1, if_pos (h1 m (by omega))]
    exact ⟨e, by have := cntB_le (flg o (m + 1)) c; omega⟩
/-- all the runs in some order -/
def prm (c : Nat) (o : Nat → Nat) : Prop := (∀ j, j < c → o j < c) ∧ ∀ j j', j < c → j' < c → o j = o j' → j = j'
def gA (B : Nat → Nat → Nat) (c : Nat) (acc : Seq) : Prop := acc = none ∨ ∃ s o, acc = some (s, o) ∧ prm c o ∧ s = cst B o c
def leA (acc : Seq) (v : Nat) : Prop := ∃ s o, acc = some (s, o) ∧ s ≤ v
theorem arA_char {B : Nat → Nat → Nat} {c : Nat} : ∀ (k p a s : Nat) (ch : Nat → Bool) (cs : Nat → Nat) (acc : Seq), p + k = c → a = (if p = 0 then 0 else cs (p - 1) + 1) → s = cst B cs p → (∀ j, j < p → cs j < c) → (∀ j j', j < p → j' < p → cs j = cs j' → j = j') → (∀ u, ch u = true ↔ ∃ j, j < p ∧ cs j = u) → gA B c acc →
    gA B c (arA B c k p a s ch cs acc) ∧ (∀ v, leA acc v → leA (arA B c k p a s ch cs acc) v) ∧ ∀ o', prm c o' → (∀ j, j < p → o' j = cs j) → leA (arA B c k p a s ch cs acc) (cst B o' c) := by
  intro k
  induction k with
  | zero =>
    intro p a s ch cs acc hk ha hs h1 h2 hch hg
    obtain rfl : p = c := by omega
    rcases hg with rfl | ⟨s', o, rfl, hp, hs'⟩
    · show gA B p (some (s, cs)) ∧ (∀ v, leA none v → leA (some (s, cs)) v) ∧ ∀ o', prm p o' → (∀ j, j < p → o' j = cs j) → leA (some (s, cs)) (cst B o' p)
      exact ⟨Or.inr ⟨s, cs, rfl, ⟨h1, h2⟩, hs⟩, fun v ⟨s, o, h, _⟩ => (by cases h), fun o' _ ho => ⟨s, cs, rfl, by rw [hs, cst_congr p ho]; exact Nat.le_refl _⟩⟩
    · show gA B p (if s < s' then some (s, cs) else some (s', o)) ∧ (∀ v, leA (some (s', o)) v → leA (if s < s' then some (s, cs) else some (s', o)) v) ∧ ∀ o', prm p o' → (∀ j, j < p → o' j = cs j) → leA (if s < s' then some (s, cs) else some (s', o)) (cst B o' p)
      by_cases g : s < s'
      · rw [if_pos g]
        exact ⟨Or.inr ⟨s, cs, rfl, ⟨h1, h2⟩, hs⟩, fun v ⟨s1, o1, h, hv⟩ => by cases h; exact ⟨s, cs, rfl, by omega⟩, fun o' _ ho => ⟨s, cs, rfl, by rw [hs, cst_congr p ho]; exact Nat.le_refl _⟩⟩
      · rw [if_neg g]
        exact ⟨Or.inr ⟨s', o, rfl, hp, hs'⟩, fun v h => h, fun o' _ ho => ⟨s', o, rfl, by rw [cst_congr p ho, ← hs]; omega⟩⟩
  | succ k ih =>
    intro p a s ch cs acc hk ha hs h1 h2 hch hg
    unfold arA
    have key : ∀ n, n ≤ c → gA B c ((List.range n).foldl (fun acc u => if ch u = true then acc else arA B c k (p + 1) (u + 1) (s + B a u) (updB ch u) (updN cs p u) acc) acc) ∧ (∀ v, leA acc v → leA ((List.range n).foldl (fun acc u => if ch u = true then acc else arA B c k (p + 1) (u + 1) (s + B a u) (updB ch u) (updN cs p u) acc) acc) v) ∧ ∀ o', prm c o' → (∀ j, j < p → o' j = cs j) → o' p < n → leA ((List.range n).foldl (fun acc u => if ch u = true then acc else arA B c k (p + 1) (u + 1) (s + B a u) (updB ch u) (updN cs p u) acc) acc) (cst B o' c) := by
      intro n
      induction n with
      | zero => exact fun _ => ⟨hg, fun v h => h, fun o' _ _ h => absurd h (Nat.not_lt_zero _)⟩
      | succ n ihn =>
        intro hn
        obtain ⟨k1, k2, k3⟩ := ihn (by omega)
        rw [List.range_succ, List.foldl_append, List.foldl_cons, List.foldl_nil]
        generalize (List.range n).foldl (fun acc u => if ch u = true then acc else arA B c k (p + 1) (u + 1) (s + B a u) (updB ch u) (updN cs p u) acc) acc = acc1 at *
        by_cases hb : ch n = true
        · rw [if_pos hb]
          refine ⟨k1, k2, fun o' hp ho hlt => ?_⟩
          rcases Nat.lt_or_ge (o' p) n with z | z
          · exact k3 o' hp ho z
          · exfalso
            obtain ⟨j, hj, he⟩ := (hch n).mp hb
            have := hp.2 j p (by omega) (by omega) (by rw [ho j hj, he]; omega)
            omega
        · rw [if_neg hb]
          have fresh : ∀ j, j < p → cs j ≠ n := fun j hj q => hb ((hch n).mpr ⟨j, hj, q⟩)
          have ecs : ∀ j, j < p → updN cs p n j = cs j := fun j hj => if_neg (by omega)
          have ep : updN cs p n p = n := if_pos rfl
          obtain ⟨q1, q2, q3⟩ := ih (p + 1) (n + 1) (s + B a n) (updB ch n) (updN cs p n) acc1 (by omega) (by rw [if_neg (by omega), Nat.add_sub_cancel, ep]) (by
            show _ = cst B (updN cs p n) p + B (if p = 0 then 0 else updN cs p n (p - 1) + 1) (updN cs p n p)
            rw [cst_congr p ecs, ep, ← hs, ha]
            by_cases g : p = 0
            · rw [if_pos g, if_pos g]
            · rw [if_neg g, if_neg g, ecs (p - 1) (by omega)]) (fun j hj => by
            by_cases g : j = p
            · subst g; rw [ep]; omega
            · rw [ecs j (by omega)]; exact h1 j (by omega)) (fun j j' hj hj' he => by
            by_cases g : j = p
            · subst g
              rw [ep] at he
              by_cases g' : j' = j
              · exact g'.symm
              · rw [ecs j' (by omega)] at he
                exact absurd he.symm (fresh j' (by omega))
            · rw [ecs j (by omega)] at he
              by_cases g' : j' = p
              · subst g'
                rw [ep] at he
                exact absurd he (fresh j (by omega))
              · rw [ecs j' (by omega)] at he
                exact h2 j j' (by omega) (by omega) he) (fun u => by
            unfold updB
            by_cases g : u = n
            · rw [if_pos g]
              exact ⟨fun _ => ⟨p, by omega, by rw [ep, g]⟩, fun _ => rfl⟩
            · rw [if_neg g, hch u]
              constructor
              · rintro ⟨j, hj, he⟩; exact ⟨j, by omega, by rw [ecs j hj]; exact he⟩
              · rintro ⟨j, hj, he⟩
                by_cases gj : j = p
                · subst gj; rw [ep] at he; exact absurd he.symm g
                · rw [ecs j (by omega)] at he; exact ⟨j, by omega, he⟩) k1
          refine ⟨q1, fun v h => q2 v (k2 v h), fun o' hp ho hlt => ?_⟩
          rcases Nat.lt_or_ge (o' p) n with z | z
          · exact q2 _ (k3 o' hp ho z)
          · refine q3 o' hp (fun j hj => ?_)
            by_cases g : j = p
            · subst g; rw [ep]; omega
            · rw [ecs j (by omega)]; exact ho j (by omega)
    obtain ⟨k1, k2, k3⟩ := key c (Nat.le_refl _)
    exact ⟨k1, k2, fun o' hp ho => k3 o' hp ho (hp.1 p (by omega))⟩
theorem arS_char (N : NV) : (∃ o, prm (cU N) o ∧ arS N = cst (aBt N) o (cU N)) ∧ ∀ o, prm (cU N) o → arS N ≤ cst (aBt N) o (cU N) := by
  obtain ⟨s, o, he, -, -⟩ := arBest_ok (aBt N) (cU N)
  obtain ⟨h1, -, h3⟩ := arA_char (B := aBt N) (c := cU N) (cU N) 0 0 0 (fun _ => false) (fun _ => 0) none (by omega) rfl rfl (fun j h => absurd h (Nat.not_lt_zero _)) (fun j j' h => absurd h (Nat.not_lt_zero _)) (fun u => ⟨fun h => absurd h (by decide), fun ⟨j, h, _⟩ => absurd h (Nat.not_lt_zero _)⟩) (Or.inl rfl)
  have hs : arS N = s := by
    unfold arS
    rw [he]
  unfold arBest at he
  rw [he] at h1 h3
  rw [hs]
  refine ⟨?_, fun o' hp => ?_⟩
  · rcases h1 with h1 | ⟨s', o', h1, h2, h4⟩
    · cases h1
    · cases h1
      exact ⟨o, h2, h4⟩
  · obtain ⟨s', o'', h4, h5⟩ := h3 o' hp (fun j h => absurd h (Nat.not_lt_zero _))
    cases h4
    exact h5
/-- a sequence of m + 1 runs, the set t, that ends with l -/
def Pth (c t l : Nat) (o : Nat → Nat) (m : Nat) : Prop := (∀ j, j < m + 1 → o j < c) ∧ (∀ j j', j < m + 1 → j' < m + 1 → o j = o j' → j = j') ∧ (∀ v, v < c → (t.testBit v = true ↔ ∃ j, j < m + 1 ∧ o j = v)) ∧ o m = l
def isM (B : Nat → Nat → Nat) (c t l v : Nat) : Prop := (∀ o m, Pth c t l o m → v ≤ cst B o (m + 1)) ∧ ∃ o m, Pth c t l o m ∧ cst B o (m + 1) = v
theorem isM_lt {B : Nat → Nat → Nat} {c t l v : Nat} (hB : ∀ a u, u < c → B a u ≤ 12) (hc : c ≤ 7) (h : isM B c t l v) : v ≤ 84 := by
  obtain ⟨-, o, m, ⟨h1, h2, -, -⟩, h3⟩ := h
  have := cst_le hB (m + 1) h1
  have := (inj_le (m + 1) h1 h2).2
  omega
theorem msk2 : ∀ t, t < 128 → ∀ l, l < 7 → t.testBit l = true → 2 ^ l ≤ t ∧ ∀ v, v < 7 → (t - 2 ^ l).testBit v = (t.testBit v && !(v == l)) := by decide +kernel
theorem msk3 : ∀ c, c < 8 → ((1 : Int32) <<< (nI c &&& 31)) - 1 = nI (2 ^ c - 1) ∧ 2 ^ c ≤ 128 ∧ 1 ≤ 2 ^ c := by decide +kernel
theorem msk4 : ∀ t, t < 128 → ∀ c, c < 8 → t < 2 ^ c → t ≠ 0 → (List.range c).any (fun v => t.testBit v) = true := by decide +kernel
theorem isM_one {B : Nat → Nat → Nat} {c t l : Nat} (hl : l < c) (ht : ∀ v, v < c → (t.testBit v = true ↔ v = l)) : isM B c t l (B 0 l) := by
  refine ⟨fun o m ⟨h1, h2, h3, h4⟩ => ?_, fun _ => l, 0, ⟨fun j _ => hl, fun j j' hj hj' _ => by omega, fun v hv => ?_, rfl⟩, ?_⟩
  · have hm : m = 0 := by
      have e0 := (ht (o 0) (h1 0 (by omega))).mp ((h3 _ (h1 0 (by omega))).mpr ⟨0, by omega, rfl⟩)
      have := h2 0 m (by omega) (by omega) (by rw [e0, h4])
      omega
    subst hm
    show B 0 l ≤ cst B o 0 + B (if 0 = 0 then 0 else _) (o 0)
    rw [if_pos rfl, h4]
    exact Nat.le_add_left _ _
  · rw [ht v hv]
    exact ⟨fun h => ⟨0, by omega, h.symm⟩, fun ⟨_, _, h⟩ => h.symm⟩
  · show cst B (fun _ => l) 0 + B (if 0 = 0 then 0 else _) l = B 0 l
    rw [if_pos rfl]
    exact Nat.zero_add _
/-- the least of the members of a set -/
def LoF (f : Nat → Nat) (t : Nat) : Nat → Nat
  | 0 => 1000
  | m + 1 => if t.testBit m = true then min (LoF f t m) (f m) else LoF f t m
theorem LoF_ok {f : Nat → Nat} {t : Nat} : ∀ c, (∀ l, l < c → t.testBit l = true → LoF f t c ≤ f l) ∧ (LoF f t c = 1000 ∨ ∃ l, l < c ∧ t.testBit l = true ∧ LoF f t c = f l) := by
  intro c
  induction c with
  | zero => exact ⟨fun l h => absurd h (Nat.not_lt_zero _), Or.inl rfl⟩
  | succ c ih =>
    obtain ⟨i1, i2⟩ := ih
    unfold LoF
    by_cases g : t.testBit c = true
    · rw [if_pos g]
      refine ⟨fun l hl hb => ?_, ?_⟩
      · by_cases gl : l = c
        · subst gl; exact Nat.min_le_right _ _
        · exact Nat.le_trans (Nat.min_le_left _ _) (i1 l (by omega) hb)
      · rcases Nat.le_total (LoF f t c) (f c) with z | z
        · rw [Nat.min_eq_left z]
          rcases i2 with i2 | ⟨l, h1, h2, h3⟩
          · exact Or.inl i2
          · exact Or.inr ⟨l, by omega, h2, h3⟩
        · rw [Nat.min_eq_right z]
          exact Or.inr ⟨c, by omega, g, rfl⟩
    · rw [if_neg g]
      refine ⟨fun l hl hb => ?_, ?_⟩
      · by_cases gl : l = c
        · subst gl; exact absurd hb g
        · exact i1 l (by omega) hb
      · rcases i2 with i2 | ⟨l, h1, h2, h3⟩
        · exact Or.inl i2
        · exact Or.inr ⟨l, by omega, h2, h3⟩
theorem LoF_le {f : Nat → Nat} {t : Nat} : ∀ c, LoF f t c ≤ 1000 := by
  intro c
  induction c with
  | zero => exact Nat.le_refl _
  | succ c ih =>
    unfold LoF
    split
    · omega
    · exact ih
theorem isM_step {B : Nat → Nat → Nat} {c t t' l : Nat} (hB : ∀ a u, u < c → B a u ≤ 12) (hc : c ≤ 7) (hl : l < c) (htl : t.testBit l = true) (ht' : ∀ v, v < c → (t'.testBit v = true ↔ t.testBit v = true ∧ v ≠ l)) (hne : ∃ v, v < c ∧ t'.testBit v = true) {V : Nat → Nat} (hV : ∀ l', l' < c → t'.testBit l' = true → isM B c t' l' (V l')) : isM B c t l (LoF (fun l' => V l' + B (l' + 1) l) t' c) := by
  obtain ⟨q1, q2⟩ := LoF_ok (f := fun l' => V l' + B (l' + 1) l) (t := t') c
  refine ⟨fun o m ⟨h1, h2, h3, h4⟩ => ?_, ?_⟩
  · have hm : m ≠ 0 := by
      rintro rfl
      obtain ⟨v, hv, hb⟩ := hne
      obtain ⟨b1, b2⟩ := (ht' v hv).mp hb
      obtain ⟨j, hj, he⟩ := (h3 v hv).mp b1
      obtain rfl : j = 0 := by omega
      exact b2 (he.symm.trans h4)
    obtain ⟨z, rfl⟩ : ∃ z, m = z + 1 := ⟨m - 1, by omega⟩
    have hz := h1 z (by omega)
    have pz : Pth c t' (o z) o z := by
      refine ⟨fun j hj => h1 j (by omega), fun j j' hj hj' => h2 j j' (by omega) (by omega), fun v hv => ?_, rfl⟩
      rw [ht' v hv, h3 v hv]
      constructor
      · rintro ⟨⟨j, hj, he⟩, hvl⟩
        refine ⟨j, ?_, he⟩
        rcases Nat.lt_or_ge j (z + 1) with y | y
        · exact y
        · obtain rfl : j = z + 1 := by omega
          exact absurd (he.symm.trans h4) hvl
      · rintro ⟨j, hj, he⟩
        refine ⟨⟨j, by omega, he⟩, fun hvl => ?_⟩
        have := h2 j (z + 1) (by omega) (by omega) (by rw [he, hvl, h4])
        omega
    have hb : t'.testBit (o z) = true := (pz.2.2.1 _ hz).mpr ⟨z, by omega, rfl⟩
    have g1 := (hV (o z) hz hb).1 o z pz
    have g2 := q1 (o z) hz hb
    show _ ≤ cst B o (z + 1) + B (if z + 1 = 0 then 0 else o (z + 1 - 1) + 1) (o (z + 1))
    rw [if_neg (by omega), Nat.add_sub_cancel, h4]
    omega
  · obtain ⟨v, hv, hb⟩ := hne
    have g2 := q1 v hv hb
    have g3 := isM_lt hB hc (hV v hv hb)
    have g4 := hB (v + 1) l hl
    rcases q2 with q2 | ⟨l', y1, y2, y3⟩
    · omega
    · obtain ⟨-, o, m, ⟨h1, h2, h3, h4⟩, h5⟩ := hV l' y1 y2
      have eo : ∀ j, j < m + 1 → (fun j => if j < m + 1 then o j else l) j = o j := fun j hj => if_pos hj
      have el : (fun j => if j < m + 1 then o j else l) (m + 1) = l := if_neg (by omega)
      have fresh : ∀ j, j < m + 1 → o j ≠ l := by
        intro j hj q
        have := (ht' (o j) (h1 j hj)).mp ((h3 _ (h1 j hj)).mpr ⟨j, hj, rfl⟩)
        exact this.2 q
      refine ⟨fun j => if j < m + 1 then o j else l, m + 1, ⟨fun j hj => ?_, fun j j' hj hj' he => ?_, fun v hv => ?_, el⟩, ?_⟩
      · by_cases g : j < m + 1
        · rw [eo j g]; exact h1 j g
        · rw [show j = m + 1 by omega, el]; exact hl
      · by_cases g : j < m + 1
        · rw [eo j g] at he
          by_cases g' : j' < m + 1
          · rw [eo j' g'] at he; exact h2 j j' g g' he
          · rw [show j' = m + 1 by omega, el] at he; exact absurd he (fresh j g)
        · by_cases g' : j' < m + 1
          · rw [eo j' g', show j = m + 1 by omega, el] at he; exact absurd he.symm (fresh j' g')
          · omega
      · constructor
        · intro hb
          by_cases gv : v = l
          · exact ⟨m + 1, by omega, by rw [el, gv]⟩
          · obtain ⟨j, hj, he⟩ := (h3 v hv).mp ((ht' v hv).mpr ⟨hb, gv⟩)
            exact ⟨j, by omega, by rw [eo j hj]; exact he⟩
        · rintro ⟨j, hj, he⟩
          by_cases g : j < m + 1
          · rw [eo j g] at he
            exact ((ht' v hv).mp ((h3 v hv).mpr ⟨j, g, he⟩)).1
          · rw [show j = m + 1 by omega, el] at he
            rw [← he]; exact htl
      · show cst B _ (m + 1) + B (if m + 1 = 0 then 0 else (fun j => if j < m + 1 then o j else l) (m + 1 - 1) + 1) ((fun j => if j < m + 1 then o j else l) (m + 1)) = _
        rw [cst_congr (m + 1) eo, h5, if_neg (by omega), Nat.add_sub_cancel, el, eo m (by omega), h4, y3]
theorem isM_all {B : Nat → Nat → Nat} {c t : Nat} (hB : ∀ a u, u < c → B a u ≤ 12) (hc : c ≤ 7) (h0 : 1 ≤ c) (ht : ∀ v, v < c → t.testBit v = true) {V : Nat → Nat} (hV : ∀ l, l < c → isM B c t l (V l)) : (∃ o, prm c o ∧ LoF V t c = cst B o c) ∧ ∀ o, prm c o → LoF V t c ≤ cst B o c := by
  obtain ⟨q1, q2⟩ := LoF_ok (f := V) (t := t) c
  have full : ∀ o m l, Pth c t l o m → m + 1 = c := by
    rintro o m l ⟨h1, h2, h3, h4⟩
    obtain ⟨y1, y2⟩ := inj_le (m + 1) h1 h2
    have : cntB (flg o (m + 1)) c = c := cntB_all c (fun u hu => (flg_iff _ _).mpr ((h3 u hu).mp (ht u hu)))
    omega
  refine ⟨?_, fun o hp => ?_⟩
  · have g2 := q1 0 (by omega) (ht 0 (by omega))
    have g3 := isM_lt hB hc (hV 0 (by omega))
    rcases q2 with q2 | ⟨l, y1, y2, y3⟩
    · omega
    · obtain ⟨-, o, m, hP, h5⟩ := hV l y1
      have := full o m l hP
      subst this
      exact ⟨o, ⟨hP.1, hP.2.1⟩, by rw [y3, h5]⟩
  · obtain ⟨z, rfl⟩ : ∃ z, c = z + 1 := ⟨c - 1, by omega⟩
    have hz := hp.1 z (by omega)
    refine Nat.le_trans (q1 (o z) hz (ht _ hz)) ((hV (o z) hz).1 o z ⟨hp.1, hp.2, fun v hv => ⟨fun _ => ?_, fun _ => ht v hv⟩, rfl⟩)
    -- every run stands somewhere
    have e := (inj_le (z + 1) hp.1 hp.2).1
    rcases Classical.em (∃ j, j < z + 1 ∧ o j = v) with q | q
    · exact q
    · exfalso
      have hf : flg o (z + 1) v = false := by
        cases hb : flg o (z + 1) v with
        | false => rfl
        | true => exact absurd ((flg_iff _ _).mp hb) q
      have h1 := cntB_upd hf (z + 1)
      rw [if_pos hv, e] at h1
      have h2 := cntB_le (updB (flg o (z + 1)) v) (z + 1)
      omega
end M18g
