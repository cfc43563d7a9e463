/-! THE CLASS: the runs are arranged by the nearest -/
section M18e
variable {d : Nat} {S : bSt} {N : NV} {i : Nat}
theorem nrPick_min {ch : Nat → Bool} {B : Nat → Nat} : ∀ n u, nrPick ch B n = some u → ∀ v, v < n → ch v = false → B u < B v ∨ (B u = B v ∧ u ≤ v) := by
  intro n
  induction n with
  | zero => intro u h; simp [nrPick] at h
  | succ n ih =>
    intro u h v hv hc
    have h0 := nrPick_ok (ch := ch) (B := B) n
    cases hp : nrPick ch B n with
    | none =>
      simp only [nrPick, hp] at h
      split at h
      · obtain rfl := Option.some.inj h
        rcases Nat.lt_or_ge v n with g | g
        · have := h0.2 hp v g
          rw [hc] at this
          exact absurd this (by decide)
        · obtain rfl : v = n := by omega
          exact Or.inr ⟨rfl, Nat.le_refl _⟩
      · simp at h
    | some p =>
      have hpn := (h0.1 p hp).1
      simp only [nrPick, hp] at h
      split at h
      · rename_i hcn
        obtain rfl := Option.some.inj h
        rcases Nat.lt_or_ge v n with g | g
        · have := ih p hp v g hc
          omega
        · obtain rfl : v = n := by omega
          exact Or.inr ⟨rfl, Nat.le_refl _⟩
      · rename_i hcn
        obtain rfl := Option.some.inj h
        rcases Nat.lt_or_ge v n with g | g
        · exact ih p hp v g hc
        · obtain rfl : v = n := by omega
          have : ¬ B v < B p := fun q => hcn ⟨hc, q⟩
          omega
/-- the place that the class picks, from p on, having looked at n more -/
def pkC (B : Nat → Nat) (g : Nat → Nat) (p : Nat) : Nat → Nat
  | 0 => p
  | n + 1 => if B (g (p + 1 + n)) < B (g (pkC B g p n)) then p + 1 + n else pkC B g p n
theorem pkC_ok {B g : Nat → Nat} {p : Nat} : ∀ n, p ≤ pkC B g p n ∧ pkC B g p n ≤ p + n ∧ ∀ r, p ≤ r → r ≤ p + n → B (g (pkC B g p n)) < B (g r) ∨ (B (g (pkC B g p n)) = B (g r) ∧ pkC B g p n ≤ r) := by
  intro n
  induction n with
  | zero => exact ⟨Nat.le_refl _, Nat.le_refl _, fun r h1 h2 => by
      have e : r = p := by omega
      rw [e]
      exact Or.inr ⟨rfl, Nat.le_refl _⟩⟩
  | succ n ih =>
    obtain ⟨i1, i2, i3⟩ := ih
    unfold pkC
    split
    · rename_i h
      refine ⟨by omega, by omega, fun r h1 h2 => ?_⟩
      by_cases gr : r = p + 1 + n
      · subst gr; exact Or.inr ⟨rfl, Nat.le_refl _⟩
      · have := i3 r h1 (by omega)
        omega
    · rename_i h
      refine ⟨i1, by omega, fun r h1 h2 => ?_⟩
      by_cases gr : r = p + 1 + n
      · subst gr; omega
      · exact i3 r h1 (by omega)
/-- from p on stand those that aren't chosen, in their order -/
def Lft (c p : Nat) (ch : Nat → Bool) (g : Nat → Nat) : Prop := (∀ r, p ≤ r → r < c → g r < c ∧ ch (g r) = false) ∧ (∀ r r', p ≤ r → r < r' → r' < c → g r < g r') ∧ (∀ u, u < c → ch u = false → ∃ r, p ≤ r ∧ r < c ∧ g r = u)
theorem Lft_pick {B : Nat → Nat} {c p : Nat} {ch : Nat → Bool} {g : Nat → Nat} (h : Lft c p ch g) (hp : p < c) {u : Nat} (hu : nrPick ch B c = some u) : g (pkC B g p (c - 1 - p)) = u := by
  obtain ⟨q1, q2, q3⟩ := pkC_ok (B := B) (g := g) (p := p) (c - 1 - p)
  generalize pkC B g p (c - 1 - p) = q at *
  obtain ⟨l1, l2, l3⟩ := h
  obtain ⟨hu1, hu2⟩ := (nrPick_ok c).1 u hu
  obtain ⟨r, r1, r2, rfl⟩ := l3 u hu1 hu2
  have h1 := nrPick_min c _ hu (g q) (l1 q q1 (by omega)).1 (l1 q q1 (by omega)).2
  have h2 := q3 r r1 (by omega)
  rcases Nat.lt_trichotomy q r with z | z | z
  · have := l2 q r q1 z r2
    omega
  · rw [z]
  · omega
theorem Lft_step {c p q : Nat} {ch : Nat → Bool} {g : Nat → Nat} (h : Lft c p ch g) (hp : p ≤ q) (hq : q < c) : Lft c (p + 1) (updB ch (g q)) (fun u => g (mvI q p u)) := by
  obtain ⟨l1, l2, l3⟩ := h
  have mv : ∀ r, p + 1 ≤ r → mvI q p r = if r ≤ q then r - 1 else r := by
    intro r hr
    unfold mvI
    rw [if_neg (by omega), if_neg (by omega)]
    by_cases g1 : r ≤ q
    · rw [if_pos (by omega), if_pos g1]
    · rw [if_neg (by omega), if_neg g1]
  refine ⟨fun r h1 h2 => ?_, fun r r' h1 h2 h3 => ?_, fun u hu hc => ?_⟩
  · show g (mvI q p r) < c ∧ updB ch (g q) (g (mvI q p r)) = false
    rw [mv r h1]
    unfold updB
    by_cases g1 : r ≤ q
    · rw [if_pos g1]
      have a := l1 (r - 1) (by omega) (by omega)
      have b := l2 (r - 1) q (by omega) (by omega) hq
      refine ⟨a.1, ?_⟩
      rw [if_neg (by omega)]
      exact a.2
    · rw [if_neg g1]
      have a := l1 r (by omega) h2
      have b := l2 q r hp (by omega) h2
      refine ⟨a.1, ?_⟩
      rw [if_neg (by omega)]
      exact a.2
  · show g (mvI q p r) < g (mvI q p r')
    rw [mv r h1, mv r' (by omega)]
    by_cases g1 : r ≤ q
    · rw [if_pos g1]
      by_cases g2 : r' ≤ q
      · rw [if_pos g2]; exact l2 _ _ (by omega) (by omega) (by omega)
      · rw [if_neg g2]; exact l2 _ _ (by omega) (by omega) (by omega)
    · rw [if_neg g1, if_neg (by omega)]
      exact l2 _ _ (by omega) h2 h3
  · unfold updB at hc
    by_cases g1 : u = g q
    · rw [if_pos g1] at hc; exact absurd hc (by decide)
    · rw [if_neg g1] at hc
      obtain ⟨r, r1, r2, rfl⟩ := l3 u hu hc
      have hrq : r ≠ q := fun z => g1 (by rw [z])
      rcases Nat.lt_or_gt_of_ne hrq with z | z
      · exact ⟨r + 1, by omega, by omega, by show g (mvI q p (r + 1)) = g r; rw [mv _ (by omega), if_pos (by omega), Nat.add_sub_cancel]⟩
      · exact ⟨r, by omega, r2, by show g (mvI q p r) = g r; rw [mv _ (by omega), if_neg (by omega)]⟩
/-- whose place it was, once p places are given -/
def chG (N : NV) : Nat → Nat → Nat
  | 0 => fun u => u
  | p + 1 => fun u => chG N p (mvI (pkC (aBt N (nrSt (aBt N) (cU N) p).1) (chG N p) p (cU N - 1 - p)) p u)
theorem mvI_c {a b c u : Nat} (ha : a < c) (hb : b < c) (hu : u < c) : mvI a b u < c := by
  unfold mvI
  repeat' split
  all_goals omega
theorem chG_ok : ∀ p, p ≤ cU N → Lft (cU N) p (nrSt (aBt N) (cU N) p).2.1 (chG N p) ∧ (∀ j, j < p → chG N p j = (nrSt (aBt N) (cU N) p).2.2 j) ∧ (nrSt (aBt N) (cU N) p).1 = (if p = 0 then 0 else chG N p (p - 1) + 1) ∧ (∀ u, u < cU N → chG N p u < cU N) ∧ (∀ u v, chG N p u = chG N p v → u = v) := by
  intro p
  induction p with
  | zero => exact fun _ => ⟨⟨fun r _ h => ⟨h, rfl⟩, fun r r' _ h _ => h, fun u hu _ => ⟨u, Nat.zero_le _, hu, rfl⟩⟩, fun j h => absurd h (Nat.not_lt_zero _), rfl, fun u h => h, fun u v h => h⟩
  | succ p ih =>
    intro hp
    obtain ⟨i1, i2, i3, i4, i5⟩ := ih (by omega)
    obtain ⟨-, -, -, -, -, hpick⟩ := nrSt_ok (B := aBt N) (c := cU N) p (by omega)
    obtain ⟨u, hu, hu1, hu2⟩ := hpick (by omega)
    have hg := Lft_pick i1 (by omega) hu
    obtain ⟨q1, q2, -⟩ := pkC_ok (B := aBt N (nrSt (aBt N) (cU N) p).1) (g := chG N p) (p := p) (cU N - 1 - p)
    have es : nrSt (aBt N) (cU N) (p + 1) = (u + 1, updB (nrSt (aBt N) (cU N) p).2.1 u, updN (nrSt (aBt N) (cU N) p).2.2 p u) := by
      show (_, _, _) = _
      rw [hu]
      rfl
    have eG : chG N (p + 1) = fun u => chG N p (mvI (pkC (aBt N (nrSt (aBt N) (cU N) p).1) (chG N p) p (cU N - 1 - p)) p u) := rfl
    rw [es, eG]
    generalize pkC (aBt N (nrSt (aBt N) (cU N) p).1) (chG N p) p (cU N - 1 - p) = q at *
    have hmp : mvI q p p = q := by unfold mvI; rw [if_pos rfl]
    refine ⟨by rw [← hg]; exact Lft_step i1 q1 (by omega), fun j hj => ?_, ?_, fun v hv => i4 _ (mvI_c (by omega) (by omega) hv), fun v w h => mvI_inj (i5 _ _ h)⟩
    · show chG N p (mvI q p j) = updN (nrSt (aBt N) (cU N) p).2.2 p u j
      unfold updN
      by_cases gj : j = p
      · subst gj
        rw [if_pos rfl, hmp, hg]
      · rw [if_neg gj, show mvI q p j = j from by unfold mvI; rw [if_neg gj, if_neg (by omega), if_neg (by omega)]]
        exact i2 j (by omega)
    · show u + 1 = if p + 1 = 0 then 0 else chG N p (mvI q p (p + 1 - 1)) + 1
      rw [if_neg (by omega), Nat.add_sub_cancel, hmp, hg]
theorem geo_perm (hw : WF N) {g : Nat → Nat} (hg : ∀ u, u < cU N → g u < cU N) {u : Nat} (hu : u < cU N) : aPos (nPerm N g) u = aPos N (g u) ∧ (∀ k, aPosAt (nPerm N g) u k = aPosAt N (g u) k) ∧ grR (nPerm N g) u = grR N (g u) := by
  have c8 := hw.1.2.1
  have c12 := hw.1.2.2.2.1
  obtain ⟨-, -, hq, hq12, -⟩ := wf_run hw (hg u hu)
  have r0 := nPerm_run (N := N) (o := g) (u := u) (i := 0) hu (by omega)
  have r2 := nPerm_run (N := N) (o := g) (u := u) (i := 2) hu (by omega)
  rw [show 90 + 12 * u + 2 = 92 + 12 * u by omega, show 90 + 12 * g u + 2 = 92 + 12 * g u by omega] at r2
  have h0 : nPerm N g (90 + 12 * u) = N (90 + 12 * g u) := r0
  obtain ⟨-, g2, g3⟩ := geo_c (N := N) (N' := nPerm N g) (u := u) (v := g u) h0 r2 (fun o ho => by
    have := nPerm_run (N := N) (o := g) (u := u) (i := 4 + o) hu (by omega)
    rw [show 90 + 12 * u + (4 + o) = 94 + 12 * u + o by omega, show 90 + 12 * g u + (4 + o) = 94 + 12 * g u + o by omega] at this
    exact this) (nPerm_lo (by omega)) (fun o ho hz => by have := wf_s7 hw (hg u hu) ho hz; exact nPerm_lo (by omega))
  refine ⟨g2, g3, ?_⟩
  unfold grR
  rw [nv_c h0, nPerm_lo (by omega)]
theorem hpB_perm {N' : NV} {u v p : Nat} (h : ∀ k, aPosAt N' u k = aPosAt N v k) : ∀ n, hpB N' u p n = hpB N v p n := by
  intro n
  induction n with
  | zero => rfl
  | succ n ih =>
    unfold hpB
    rw [ih, h]
theorem aSet_perm (hw : WF N) {g : Nat → Nat} (hg : ∀ u, u < cU N → g u < cU N) {u v : Nat} (hu : u < cU N) (hv : v < cU N) : aSet (nPerm N g) u v = aSet N (g u) (g v) := by
  obtain ⟨a1, a2, a3⟩ := geo_perm hw hg hu
  obtain ⟨b1, b2, b3⟩ := geo_perm hw hg hv
  unfold aSet aHasP
  rw [a1, a3, b1, b3]
  congr 1
  refine sumN_congr _ (fun k _ => ?_)
  rw [a2, hpB_perm b2]
theorem aBt_perm (hw : WF N) {p r : Nat} (hp : p ≤ cU N) (hr : r < cU N) : aBt (nPerm N (chG N p)) p r = aBt N (nrSt (aBt N) (cU N) p).1 (chG N p r) := by
  obtain ⟨-, -, i3, i4, -⟩ := chG_ok (N := N) p hp
  rw [i3]
  unfold aBt
  by_cases h : p = 0
  · rw [if_pos h, if_pos h, if_pos rfl]
    exact (geo_perm hw i4 hr).1
  · rw [if_neg h, if_neg h, if_neg (by omega), Nat.add_sub_cancel]
    exact aSet_perm hw i4 hr (by omega)
theorem cU_perm {g : Nat → Nat} : cU (nPerm N g) = cU N := cU_c (nPerm_lo (by omega))
theorem nPerm_id : nPerm N (chG N 0) = N := by
  funext k
  unfold nPerm chG
  split
  · congr 1
    omega
  · rfl
theorem nPerm_congr {g g' : Nat → Nat} (h : ∀ u, u < cU N → g u = g' u) : nPerm N g = nPerm N g' := by
  funext k
  unfold nPerm
  split
  · rw [h _ (by omega)]
  · rfl
theorem k_chainRuns (hi : i < 12) (hP : PR S i N) (hw : WF N) (hd : 2 ≤ d) : Wm d 49 [vR 1 i 0] S (fun q S' => q = none ∧ fK i S S' ∧ PR S' i (nPerm N (nrO N))) := by
  have c16 := hw.1.2.2.2.2.2
  refine EW_49 ?_
  refine (B_49_0).mpr ?_
  refine wloopI (cU N) (fun p ls T => (∃ w2 w3, ls = [some (vR 1 i 0), some (vI (nI p)), w2, w3]) ∧ fK i S T ∧ PR T i (nPerm N (chG N p))) ?_ ?_ ⟨⟨none, none, rfl⟩, fK_refl _ _, by rw [nPerm_id]; exact hP⟩
  · rintro ls T ⟨⟨w2, w3, rfl⟩, hf, hT⟩
    obtain ⟨-, i2, -, i4, i5⟩ := chG_ok (N := N) (cU N) (Nat.le_refl _)
    have hwT := WF_nPerm hw i4 (fun u v _ _ h => i5 u v h)
    refine (B_49_2 (bk1 hi)).mpr ?_
    rw [if_pos (by rw [P_6 hT hwT, cU_perm]; exact Int32.le_refl _)]
    refine (B_49_63).mpr ?_
    refine ⟨rfl, hf, ?_⟩
    have e : nPerm N (chG N (cU N)) = nPerm N (nrO N) := nPerm_congr (fun u hu => i2 u hu)
    rw [← e]
    exact hT
  · rintro p hp ls T ⟨⟨w2, w3, rfl⟩, hf, hT⟩ hn
    obtain ⟨-, i2, -, i4, i5⟩ := chG_ok (N := N) p (by omega)
    have hwT := WF_nPerm hw i4 (fun u v _ _ h => i5 u v h)
    have h6 := P_6 hT hwT
    rw [cU_perm] at h6
    refine (B_49_2 (bk1 hi)).mpr ?_
    rw [if_neg (by rw [h6, qI_le (by omega) (by omega)]; omega)]
    refine (B_49_10).mpr ?_
    rw [qI_succ]
    refine wloopI (cU N - 1 - p) (fun n ls U => ls = [some (vR 1 i 0), some (vI (nI p)), some (vI (nI (pkC (aBt N (nrSt (aBt N) (cU N) p).1) (chG N p) p n))), some (vI (nI (p + 1 + n)))] ∧ U = T) ?_ ?_ ⟨rfl, rfl⟩
    · rintro ls U ⟨rfl, rfl⟩
      refine (B_49_16 (bk1 hi)).mpr ?_
      rw [if_pos (by rw [h6, qI_le (by omega) (by omega)]; omega)]
      obtain ⟨q1, q2, -⟩ := pkC_ok (B := aBt N (nrSt (aBt N) (cU N) p).1) (g := chG N p) (p := p) (cU N - 1 - p)
      have eG : chG N (p + 1) = fun u => chG N p (mvI (pkC (aBt N (nrSt (aBt N) (cU N) p).1) (chG N p) p (cU N - 1 - p)) p u) := rfl
      generalize pkC (aBt N (nrSt (aBt N) (cU N) p).1) (chG N p) p (cU N - 1 - p) = q at *
      obtain ⟨z, U1, e1, rfl, f1, h1⟩ := Wm_ex (k_moveRun (d := d - 1) (S := U) hi (PR_IX hT) (a := q) (b := p) (by omega) (by omega))
      refine (B_49_51 (by omega) e1 (bk1 hi)).mpr ?_
      rw [qI_succ]
      refine hn _ _ ⟨⟨some (vI (nI q)), _, rfl⟩, fK_trans hf (fAd_K f1 (by omega) (by omega)), ?_⟩
      refine PR_perm hwT hT (mvI q p) (fun v hv => mvI_lt (by omega) (by omega) hv) (fun v w _ _ h => mvI_inj h) h1 (fun k j m hk _ => f1 k i j m (fun z => hk z.1)) (c := cU N) c16 (by rw [f1 _ _ _ _ (by omega)]; exact h6) (by rw [nPerm_lo (by omega)]; exact hw.1.2.2.2.2.1) (fun k hk _ => by rw [nPerm_lo hk, nPerm_lo hk]) (fun v hv => by rw [cU_perm]; exact mvI_c (by omega) (by omega) hv) (fun v m hv hm => ?_)
      rw [nPerm_run hv hm, nPerm_run (mvI_c (by omega) (by omega) hv) hm, eG]
    · rintro n hnl ls U ⟨rfl, rfl⟩ hn2
      obtain ⟨q1, q2, -⟩ := pkC_ok (B := aBt N (nrSt (aBt N) (cU N) p).1) (g := chG N p) (p := p) n
      have b1 := k_setupB (d := d - 1) hi hT hwT (by omega) (a := p) (u := p + 1 + n) (by rw [cU_perm]; omega) (by rw [cU_perm]; omega)
      have b2 := k_setupB (d := d - 1) hi hT hwT (by omega) (a := p) (u := pkC (aBt N (nrSt (aBt N) (cU N) p).1) (chG N p) p n) (by rw [cU_perm]; omega) (by rw [cU_perm]; omega)
      rw [aBt_perm hw (by omega) (by omega)] at b1 b2
      refine (B_49_16 (bk1 hi)).mpr ?_
      rw [if_neg (by rw [h6, qI_le (by omega) (by omega)]; omega)]
      refine (B_49_24 (by omega) b1 (bk1 hi) b2).mpr ?_
      have l1 := aBt_le hw (a := (nrSt (aBt N) (cU N) p).1) (i4 (p + 1 + n) (by omega))
      have l2 := aBt_le hw (a := (nrSt (aBt N) (cU N) p).1) (i4 (pkC (aBt N (nrSt (aBt N) (cU N) p).1) (chG N p) p n) (by omega))
      refine icT (qI_le (by omega) (by omega)) (fun g => ?_) (fun g => ?_)
      · refine (B_49_45).mpr ?_
        rw [qI_succ]
        refine hn2 _ _ ⟨?_, rfl⟩
        rw [pkC, if_neg (by omega)]
        rfl
      refine (B_49_43).mpr ?_
      refine (B_49_45).mpr ?_
      rw [qI_succ]
      refine hn2 _ _ ⟨?_, rfl⟩
      rw [pkC, if_pos (by omega)]
      rfl
end M18e
