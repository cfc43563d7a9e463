/-! THE MODEL's methods, 16: arrange, leastSetups -/
section M15h
theorem nI_m1 {a : Nat} : nI (a + 1) - 1 = nI a := qI_sub (b := 1) (by omega)
/-- the matrix of setups stands -/
def mB (N : NV) (S : bSt) : Prop := ∀ a u, a ≤ cU N → u < cU N → S 54 0 0 (16 * a + u) = nI (aBt N a u)
def mC (ch : Nat → Bool) (c : Nat) (S : bSt) : Prop := ∀ u, u < c → S 52 0 0 u = tf (ch u)
variable {d : Nat} {S : bSt}
theorem c_setupI (hd : 5 ≤ d) (hw : WF (S 41 0 0)) {a u : Nat} (ha : a ≤ cU (S 41 0 0)) (hu : u < cU (S 41 0 0)) : Ret d 212 [vR 40 0 0, vI (nI u), vI (nI a - 1)] S (some (vI (nI (aBt (S 41 0 0) a u)))) S := by
  unfold aBt
  by_cases g : a = 0
  · subst g
    rw [if_pos rfl]
    exact c_setupOf1 hd hw hu
  · rw [if_neg g, qI_test3 a (by omega)]
    exact c_setupOf hd hw hu (by omega)
theorem c_findsSetups (hd : 6 ≤ d) (hw : WF (S 41 0 0)) : Wm d 219 [vR 40 0 0] S (fun q S' => q = none ∧ fM S S' ∧ S' 41 0 0 = S 41 0 0 ∧ mB (S 41 0 0) S' ∧ mC (fun _ => false) (cU (S 41 0 0)) S') := by
  refine EW_219 ?_
  have h5 := hw.1.2.2.2.2.1
  have hc := hw.1.2.2.2.2.2
  generalize hN : S 41 0 0 = N at *
  refine (B_219_0).mpr ?_
  refine wloopI (cU N) (fun m ls T => (∃ w2, ls = [some (vR 40 0 0), some (vI (nI m)), w2]) ∧ fM S T ∧ T 41 0 0 = N ∧ (∀ a u, a ≤ cU N → u < m → T 54 0 0 (16 * a + u) = nI (aBt N a u)) ∧ (∀ u, u < m → T 52 0 0 u = 0)) ?_ ?_ ⟨⟨none, rfl⟩, fM_refl S, hN, fun a u _ h => absurd h (Nat.not_lt_zero _), fun u h => absurd h (Nat.not_lt_zero _)⟩
  · rintro ls T ⟨⟨w2, rfl⟩, hf, hT, hB, hC⟩
    refine (B_219_2).mpr ?_
    rw [if_pos (by rw [hT, h5]; exact Int32.le_refl _)]
    refine (B_219_62).mpr ?_
    exact ⟨rfl, hf, hT, hB, fun u hu => hC u hu⟩
  · rintro m hm ls T ⟨⟨w2, rfl⟩, hf, hT, hB, hC⟩ hn
    refine (B_219_2).mpr ?_
    rw [if_neg (by rw [hT, h5, qI_le (by omega) (by omega)]; omega)]
    refine (B_219_12 (n1_ := m) rfl (by omega)).mpr ?_
    refine wloopI (cU N + 1) (fun a ls U => ls = [some (vR 40 0 0), some (vI (nI m)), some (vI (nI a - 1))] ∧ fM S U ∧ U 41 0 0 = N ∧ (∀ a u, a ≤ cU N → u < m → U 54 0 0 (16 * a + u) = nI (aBt N a u)) ∧ (∀ b, b < a → U 54 0 0 (16 * b + m) = nI (aBt N b m)) ∧ (∀ u, u < m + 1 → U 52 0 0 u = 0)) ?_ ?_ ⟨rfl, fM_up hf rfl, ?_, ?_, ?_, ?_⟩
    · rintro ls U ⟨rfl, hf, hT, hB, hB2, hC⟩
      refine (B_219_21).mpr ?_
      rw [if_pos (by rw [hT, h5, nI_m1]; exact Int32.le_refl _)]
      refine (B_219_56).mpr ?_
      rw [qI_succ]
      refine hn _ _ ⟨⟨_, rfl⟩, hf, hT, fun a u ha hu => ?_, hC⟩
      rcases Nat.lt_or_ge u m with g | g
      · exact hB a u ha g
      · obtain rfl : u = m := by omega
        exact hB2 a (by omega)
    · rintro a ha ls U ⟨rfl, hf, hT, hB, hB2, hC⟩ hn2
      refine (B_219_21).mpr ?_
      have hcond : ¬ U 41 0 0 5 ≤ nI a - 1 := by
        rw [hT, h5]
        by_cases g : a = 0
        · subst g
          intro q
          exact absurd (Int32.le_trans (Int32.not_lt.mp (nI_n0 (n := cU N) (by omega))) q) (by decide)
        · rw [qI_test3 a (by omega), qI_le (by omega) (by omega)]
          omega
      rw [if_neg (hcond)]
      have cs := c_setupI (d := d - 1) (S := U) (by omega) (by rw [hT]; exact hw) (a := a) (u := m) (by rw [hT]; omega) (by rw [hT]; exact hm)
      rw [hT] at cs
      refine (B_219_31 (n1_ := 16 * a + m) (by omega) cs (by first | rfl | (simp only [qI_add, qI_mul, qI_lits]; done) | (simp only [qI_add, qI_mul, qI_lits]; grind)) (by omega)).mpr ?_
      rw [show nI a - 1 + 1 = nI (a + 1) - 1 from by rw [qI_add, qI_lits.2.1]; grind]
      refine hn2 _ _ ⟨rfl, fM_up hf rfl, ?_, fun b u hb hu => ?_, fun b hb => ?_, fun u hu => ?_⟩
      · funext q; rw [sUp_kind (by decide), hT]
      · rw [sUp_slot (by omega)]; exact hB b u hb hu
      · by_cases g : b = a
        · subst g; exact sUp_same
        · rw [sUp_slot (by omega)]; exact hB2 b (by omega)
      · rw [sUp_kind (by decide)]; exact hC u hu
    · funext q; rw [sUp_kind (by decide), hT]
    · intro a u ha hu; rw [sUp_kind (by decide)]; exact hB a u ha hu
    · intro b hb; exact absurd hb (Nat.not_lt_zero _)
    · intro u hu
      by_cases g : u = m
      · subst g; exact sUp_same
      · rw [sUp_slot g]; exact hC u (by omega)
def vOpt : Option Nat → Int32
  | none => -1
  | some u => nI u
theorem c_nearest (hd : 1 ≤ d) (hw : WF (S 41 0 0)) (hB : mB (S 41 0 0) S) (hC : mC (fun _ => false) (cU (S 41 0 0)) S) : Wm d 220 [vR 40 0 0] S (fun q S' => q = none ∧ fM S S' ∧ S' 41 0 0 = S 41 0 0 ∧ ∀ i, i < cU (S 41 0 0) → S' 53 0 0 i = nI (nrO (S 41 0 0) i)) := by
  refine EW_220 ?_
  have h5 := hw.1.2.2.2.2.1
  have hc := hw.1.2.2.2.2.2
  have hBl : ∀ a u, u < cU (S 41 0 0) → aBt (S 41 0 0) a u ≤ 12 := fun a u hu => aBt_le hw hu
  generalize hN : S 41 0 0 = N at *
  refine (B_220_0).mpr ?_
  have hst := fun m hm => nrSt_ok (B := aBt N) (c := cU N) m hm
  refine wloopI (cU N) (fun m ls T => (∃ w3 w4 w5, ls = [some (vR 40 0 0), some (vI (nI (nrSt (aBt N) (cU N) m).1 - 1)), some (vI (nI m)), w3, w4, w5]) ∧ fM S T ∧ T 41 0 0 = N ∧ mB N T ∧ mC (nrSt (aBt N) (cU N) m).2.1 (cU N) T ∧ (∀ i, i < m → T 53 0 0 i = nI ((nrSt (aBt N) (cU N) m).2.2 i))) ?_ ?_ ⟨⟨none, none, none, rfl⟩, fM_refl S, hN, hB, hC, fun i h => absurd h (Nat.not_lt_zero _)⟩
  · rintro ls T ⟨⟨w3, w4, w5, rfl⟩, hf, hT, -, -, hO⟩
    refine (B_220_4).mpr ?_
    rw [if_pos (by rw [hT, h5]; exact Int32.le_refl _)]
    refine (B_220_122).mpr ?_
    exact ⟨rfl, hf, hT, hO⟩
  · rintro m hm ls T ⟨⟨w3, w4, w5, rfl⟩, hf, hT, hB, hC, hO⟩ hn
    obtain ⟨-, ha, -, hlt, -, hpick⟩ := hst m (by omega)
    obtain ⟨u, hpu, hu, huf⟩ := hpick hm
    have es : nrSt (aBt N) (cU N) (m + 1) = (u + 1, updB (nrSt (aBt N) (cU N) m).2.1 u, updN (nrSt (aBt N) (cU N) m).2.2 m u) := by
      show (_, _, _) = _
      rw [hpu]
      rfl
    generalize nrSt (aBt N) (cU N) m = st at *
    obtain ⟨a, ch, o⟩ := st
    dsimp only at *
    refine (B_220_4).mpr ?_
    rw [if_neg (by rw [hT, h5, qI_le (by omega) (by omega)]; omega)]
    refine (B_220_14).mpr ?_
    refine wloopI (cU N) (fun n ls U => U = T ∧ ∃ w5, ls = [some (vR 40 0 0), some (vI (nI a - 1)), some (vI (nI m)), some (vI (vOpt (nrPick ch (aBt N a) n))), some (vI (nI n)), w5]) ?_ ?_ ⟨rfl, w5, rfl⟩
    · rintro ls U ⟨rfl, w5, rfl⟩
      refine (B_220_19).mpr ?_
      rw [if_pos (by rw [hT, h5]; exact Int32.le_refl _)]
      rw [hpu]
      refine (B_220_100 (n1_ := u) (n2_ := m) rfl (by omega) rfl (by omega)).mpr ?_
      rw [qI_succ]
      refine hn _ _ ⟨⟨some (vI (nI u)), some (vI (nI (cU N))), w5, ?_⟩, fM_up (fM_up hf rfl) rfl, ?_, ?_, ?_, ?_⟩
      · rw [es]
        show _ = [some (vR 40 0 0), some (vI (nI (u + 1) - 1)), some (vI (nI (m + 1))), _, _, _]
        rw [nI_m1]
      · funext q; rw [sUp_kind (by decide), sUp_kind (by decide), hT]
      · intro b v hb hv; rw [sUp_kind (by decide), sUp_kind (by decide)]; exact hB b v hb hv
      · intro v hv
        rw [es]
        show _ = tf (updB ch u v)
        rw [sUp_kind (by decide)]
        unfold updB
        by_cases g : v = u
        · subst g; rw [sUp_same, if_pos rfl]; rfl
        · rw [sUp_slot g, if_neg g]; exact hC v hv
      · intro i hi
        rw [es]
        show _ = nI (updN o m u i)
        unfold updN
        by_cases g : i = m
        · subst g; rw [sUp_same, if_pos rfl]
        · rw [sUp_slot g, if_neg g, sUp_kind (by decide)]; exact hO i (by omega)
    · rintro n hn' ls U ⟨rfl, w5, rfl⟩ hn2
      have htake : ∀ (w5 : Option bV), nrPick ch (aBt N a) (n + 1) = some n → Wp d 220 75 [some (vR 40 0 0), some (vI (nI a - 1)), some (vI (nI m)), some (vI (vOpt (nrPick ch (aBt N a) n))), some (vI (nI n)), w5] [] U (fun q S' => q = none ∧ fM S S' ∧ S' 41 0 0 = N ∧ ∀ i, i < cU N → S' 53 0 0 i = nI (nrO N i)) := by
        intro w5 e
        refine (B_220_75).mpr ?_
        refine (B_220_80).mpr ?_
        rw [if_neg (by decide)]
        refine (B_220_87).mpr ?_
        refine (B_220_93).mpr ?_
        rw [qI_succ]
        refine hn2 _ _ ⟨rfl, some (vI 1), ?_⟩
        rw [e]
        rfl
      have hskip : ∀ (w5 : Option bV), nrPick ch (aBt N a) (n + 1) = nrPick ch (aBt N a) n → Wp d 220 79 [some (vR 40 0 0), some (vI (nI a - 1)), some (vI (nI m)), some (vI (vOpt (nrPick ch (aBt N a) n))), some (vI (nI n)), w5] [] U (fun q S' => q = none ∧ fM S S' ∧ S' 41 0 0 = N ∧ ∀ i, i < cU N → S' 53 0 0 i = nI (nrO N i)) := by
        intro w5 e
        refine (B_220_79).mpr ?_
        refine (B_220_80).mpr ?_
        rw [if_pos (rfl)]
        refine (B_220_92).mpr ?_
        refine (B_220_93).mpr ?_
        rw [qI_succ]
        refine hn2 _ _ ⟨rfl, some (vI 0), ?_⟩
        rw [e]
      refine (B_220_19).mpr ?_
      rw [if_neg (by rw [hT, h5, qI_le (by omega) (by omega)]; omega)]
      refine (B_220_30 (n1_ := n) rfl (by omega)).mpr ?_
      rw [hC n hn']
      refine icb (fun gc => ?_) (fun gc => ?_)
      · refine (B_220_40).mpr ?_
        have hok := (nrPick_ok (ch := ch) (B := aBt N a) n).1
        cases hp : nrPick ch (aBt N a) n with
        | none =>
          rw [hp] at htake
          rw [if_pos (show vOpt none = -1 from rfl)]
          exact htake _ (by rw [nrPick, hp]; simp [gc])
        | some p =>
          obtain ⟨hpn, -⟩ := hok p hp
          rw [hp] at htake hskip
          rw [if_neg (show ¬ vOpt (some p) = -1 from nI_ne_m1 (n := p) (by omega))]
          refine (B_220_45 (n1_ := 16 * a + n) (n2_ := 16 * a + p) (by first | rfl | (simp only [qI_add, qI_mul, qI_lits]; done) | (simp only [qI_add, qI_mul, qI_lits]; grind)) (by omega) (by show (16 : Int32) * (nI a - 1 + 1) + nI p = _; exact (by first | rfl | (simp only [qI_add, qI_mul, qI_lits]; done) | (simp only [qI_add, qI_mul, qI_lits]; grind))) (by omega)).mpr ?_
          rw [hB a n ha hn', hB a p ha (by omega)]
          have hb1 := hBl a n hn'
          have hb2 := hBl a p (by omega)
          refine icT (qI_le (by omega) (by omega)) (fun g => ?_) (fun g => ?_)
          · exact hskip _ (by rw [nrPick, hp]; simp [gc]; omega)
          exact htake _ (by rw [nrPick, hp]; simp [gc]; omega)
      exact hskip _ (by rw [nrPick]; cases nrPick ch (aBt N a) n <;> simp [gc])
def mAcc (c : Nat) (acc : Seq) (S : bSt) : Prop := match acc with
  | none => S 40 0 0 25 = -1
  | some (s, o) => S 40 0 0 25 = nI s ∧ s < 10000 ∧ ∀ i, i < c → S 53 0 0 i = nI (o i)
def scA (k m : Nat) : Bool := k == 51 || k == 52 || k == 53 || (k == 40 && m == 25)
def fA (S S' : bSt) : Prop := ∀ k i j m, scA k m = false → S' k i j m = S k i j m
theorem fA_refl (S : bSt) : fA S S := fun _ _ _ _ _ => rfl
theorem fA_trans {S T U : bSt} (h : fA S T) (g : fA T U) : fA S U := fun k i j m hm => (g k i j m hm).trans (h k i j m hm)
theorem fA_up {S T : bSt} {k i j m : Nat} {x : Int32} (h : fA S T) (hk : scA k m = true) : fA S (sUp T k i j m x) := by
  intro k' i' j' m' hs
  rw [← h k' i' j' m' hs]
  unfold sUp
  rw [if_neg]
  rintro ⟨rfl, -, -, rfl⟩
  rw [hk] at hs
  exact absurd hs (by decide)
theorem fA_M {S T : bSt} (h : fA S T) : fM S T := by
  intro k i j m hs
  refine h k i j m ?_
  unfold sc at hs
  simp only [Bool.or_eq_false_iff, beq_eq_false_iff_ne, Bool.and_eq_false_iff] at hs
  unfold scA
  simp only [Bool.or_eq_false_iff, beq_eq_false_iff_ne, Bool.and_eq_false_iff]
  refine ⟨⟨⟨hs.1.1.1.1.1.2, hs.1.1.1.1.2⟩, hs.1.1.1.2⟩, ?_⟩
  rcases hs.2 with q | q
  · exact Or.inl q
  · exact Or.inr q.2
theorem c_arranges : ∀ (k : Nat) {d p a s : Nat} {ch : Nat → Bool} {cs : Nat → Nat} {acc : Seq} {S : bSt} {N : NV} {c : Nat}, k + 1 ≤ d → S 41 0 0 = N → N 5 = nI c → c ≤ 16 → p + k = c → a ≤ c → s ≤ 12 * p → (∀ a u, u < c → aBt N a u ≤ 12) → (∀ a u, a ≤ c → u < c → S 54 0 0 (16 * a + u) = nI (aBt N a u)) → mC ch c S → (∀ i, i < p → S 51 0 0 i = nI (cs i)) → mAcc c acc S →
    Wm d 221 [vR 40 0 0, vI (nI p), vI (nI a - 1), vI (nI s)] S (fun q S' => q = none ∧ fA S S' ∧ mC ch c S' ∧ (∀ i, i < p → S' 51 0 0 i = nI (cs i)) ∧ mAcc c (arA (aBt N) c k p a s ch cs acc) S') := by
  intro k
  induction k with
  | zero =>
    intro d p a s ch cs acc S N c hd hN h5 hc hp ha hs hBl hB hC hcs hacc
    refine EW_221 ?_
    refine (B_221_0).mpr ?_
    rw [if_pos (by rw [hN, h5, show p = c by omega])]
    refine (B_221_10).mpr ?_
    have store : ∀ u4, arA (aBt N) c 0 p a s ch cs acc = some (s, cs) → Wp d 221 25 [some (vR 40 0 0), some (vI (nI p)), some (vI (nI a - 1)), some (vI (nI s)), u4] [] S (fun q S' => q = none ∧ fA S S' ∧ mC ch c S' ∧ (∀ i, i < p → S' 51 0 0 i = nI (cs i)) ∧ mAcc c (arA (aBt N) c 0 p a s ch cs acc) S') := by
      intro u4 e
      rw [e]
      refine (B_221_25).mpr ?_
      refine wloopI p (fun m ls T => ls = [some (vR 40 0 0), some (vI (nI p)), some (vI (nI a - 1)), some (vI (nI s)), some (vI (nI m))] ∧ fA S T ∧ mC ch c T ∧ (∀ i, i < p → T 51 0 0 i = nI (cs i)) ∧ T 40 0 0 25 = nI s ∧ (∀ i, i < m → T 53 0 0 i = nI (cs i))) ?_ ?_ ⟨rfl, fA_up (fA_refl S) rfl, ?_, ?_, sUp_same, fun i h => absurd h (Nat.not_lt_zero _)⟩
      · rintro ls T ⟨rfl, h1, h2, h3, h4, h6⟩
        refine (B_221_33).mpr ?_
        rw [if_pos (by exact Int32.le_refl _)]
        refine (B_221_59).mpr ?_
        exact ⟨rfl, h1, h2, h3, h4, by omega, fun i hi => h6 i (by omega)⟩
      · rintro m hm ls T ⟨rfl, h1, h2, h3, h4, h6⟩ hn
        refine (B_221_33).mpr ?_
        rw [if_neg (by rw [qI_le (by omega) (by omega)]; omega)]
        refine (B_221_39 (n1_ := m) (n2_ := m) rfl (by omega) rfl (by omega)).mpr ?_
        rw [qI_succ]
        refine hn _ _ ⟨rfl, fA_up h1 rfl, fun v hv => ?_, fun i hi => ?_, ?_, fun i hi => ?_⟩
        · rw [sUp_kind (by decide)]; exact h2 v hv
        · rw [sUp_kind (by decide)]; exact h3 i hi
        · rw [sUp_kind (by decide)]; exact h4
        · by_cases g : i = m
          · subst g; rw [sUp_same]; exact h3 i hm
          · rw [sUp_slot g]; exact h6 i (by omega)
      · intro v hv; rw [sUp_kind (by decide)]; exact hC v hv
      · intro i hi; rw [sUp_kind (by decide)]; exact hcs i hi
    cases acc with
    | none =>
      have e : S 40 0 0 25 = -1 := hacc
      rw [e]
      rw [if_pos (by decide)]
      exact store _ rfl
    | some q =>
      obtain ⟨b, o⟩ := q
      obtain ⟨e, hb, ho⟩ := hacc
      rw [e]
      rw [if_neg (nI_n0 (by omega))]
      refine (B_221_17).mpr ?_
      rw [e]
      refine icT (qI_le (by omega) (by omega)) (fun g => ?_) (fun g => ?_)
      · refine (B_221_59).mpr ?_
        have er : arA (aBt N) c 0 p a s ch cs (some (b, o)) = some (b, o) := if_neg (by omega)
        rw [er]
        exact ⟨rfl, fA_refl S, hC, hcs, e, hb, ho⟩
      exact store _ (if_pos (by omega))
  | succ k ih =>
    intro d p a s ch cs acc S N c hd hN h5 hc hp ha hs hBl hB hC hcs hacc
    refine EW_221 ?_
    refine (B_221_0).mpr ?_
    rw [if_neg (by rw [hN, h5, qI_eq (by omega) (by omega)]; omega)]
    refine (B_221_60).mpr ?_
    refine wloopI c (fun u ls T => ls = [some (vR 40 0 0), some (vI (nI p)), some (vI (nI a - 1)), some (vI (nI s)), some (vI (nI u))] ∧ fA S T ∧ mC ch c T ∧ (∀ i, i < p → T 51 0 0 i = nI (cs i)) ∧ mAcc c ((List.range u).foldl (fun acc u => if ch u = true then acc else arA (aBt N) c k (p + 1) (u + 1) (s + aBt N a u) (updB ch u) (updN cs p u) acc) acc) T) ?_ ?_ ⟨rfl, fA_refl S, hC, hcs, hacc⟩
    · rintro ls T ⟨rfl, h1, h2, h3, h4⟩
      refine (B_221_63).mpr ?_
      rw [if_pos (by rw [h1 _ _ _ _ rfl, hN, h5]; exact Int32.le_refl _)]
      refine (B_221_139).mpr ?_
      exact ⟨rfl, h1, h2, h3, h4⟩
    · rintro u hu ls T ⟨rfl, h1, h2, h3, h4⟩ hn
      refine (B_221_63).mpr ?_
      rw [if_neg (by rw [h1 _ _ _ _ rfl, hN, h5, qI_le (by omega) (by omega)]; omega)]
      refine (B_221_74 (n1_ := u) rfl (by omega)).mpr ?_
      rw [h2 u hu]
      rw [List.range_succ, List.foldl_append] at hn
      generalize (List.range u).foldl (fun acc u => if ch u = true then acc else arA (aBt N) c k (p + 1) (u + 1) (s + aBt N a u) (updB ch u) (updN cs p u) acc) acc = acc1 at *
      refine icb (fun gc => ?_) (fun gc => ?_)
      · have hNT : (sUp (sUp T 52 0 0 u 1) 51 0 0 p (nI u)) 41 0 0 = N := by
          funext q; rw [sUp_kind (by decide), sUp_kind (by decide), h1 _ _ _ _ rfl, hN]
        have hBT : ∀ a' u', a' ≤ c → u' < c → (sUp (sUp T 52 0 0 u 1) 51 0 0 p (nI u)) 54 0 0 (16 * a' + u') = nI (aBt N a' u') := by
          intro a' u' ha' hu'
          rw [sUp_kind (by decide), sUp_kind (by decide), h1 _ _ _ _ rfl]
          exact hB a' u' ha' hu'
        have hb := hBl a u hu
        obtain ⟨q, T2, e2, rfl, g1, g2, g3, g4⟩ := Wm_ex (ih (d := d - 1) (p := p + 1) (a := u + 1) (s := s + aBt N a u) (ch := updB ch u) (cs := updN cs p u) (acc := acc1) (S := sUp (sUp T 52 0 0 u 1) 51 0 0 p (nI u)) (N := N) (c := c) (by omega) hNT h5 hc (by omega) (by omega) (by omega) hBl hBT (by
          intro v hv
          rw [sUp_kind (by decide)]
          unfold updB
          by_cases g : v = u
          · subst g; rw [sUp_same, if_pos rfl]; rfl
          · rw [sUp_slot g, if_neg g]; exact h2 v hv) (by
          intro i hi
          unfold updN
          by_cases g : i = p
          · subst g; rw [sUp_same, if_pos rfl]
          · rw [sUp_slot g, if_neg g, sUp_kind (by decide)]; exact h3 i (by omega)) (by
          unfold mAcc at h4 ⊢
          cases acc1 with
          | none => exact h4
          | some q => exact ⟨h4.1, h4.2.1, fun i hi => by rw [sUp_kind (by decide), sUp_kind (by decide)]; exact h4.2.2 i hi⟩))
        rw [nI_m1] at e2
        refine (B_221_84 (n1_ := u) (n2_ := p) (n3_ := 16 * a + u) (by omega) rfl (by omega) rfl (by omega) (by first | rfl | (simp only [qI_add, qI_mul, qI_lits]; done) | (simp only [qI_add, qI_mul, qI_lits]; grind)) (by omega) (by rw [hBT a u ha hu, qI_succ, ← qI_add]; exact e2)).mpr ?_
        refine (B_221_133).mpr ?_
        rw [qI_succ]
        refine hn _ _ ⟨rfl, fA_up (fA_trans (fA_up (fA_up h1 rfl) rfl) g1) rfl, fun v hv => ?_, fun i hi => ?_, ?_⟩
        · by_cases g : v = u
          · subst g; rw [sUp_same, gc]; rfl
          · rw [sUp_slot g, g2 v hv]; unfold updB; rw [if_neg g]
        · rw [sUp_kind (by decide), g3 i (by omega)]; unfold updN; rw [if_neg (by omega)]
        · show mAcc c (if ch u = true then acc1 else _) _
          rw [if_neg (by rw [gc]; decide)]
          unfold mAcc at g4 ⊢
          cases hr : arA (aBt N) c k (p + 1) (u + 1) (s + aBt N a u) (updB ch u) (updN cs p u) acc1 with
          | none => rw [hr] at g4; rw [sUp_kind (by decide)]; exact g4
          | some q =>
            rw [hr] at g4
            exact ⟨by rw [sUp_kind (by decide)]; exact g4.1, g4.2.1, fun i hi => by rw [sUp_kind (by decide)]; exact g4.2.2 i hi⟩
      refine (B_221_133).mpr ?_
      rw [qI_succ]
      refine hn _ _ ⟨rfl, h1, h2, h3, ?_⟩
      show mAcc c (if ch u = true then acc1 else _) _
      rw [if_pos gc]
      exact h4
theorem c_findsBest (hd : 18 ≤ d) (hw : WF (S 41 0 0)) : Wm d 222 [vR 40 0 0] S (fun q S' => q = none ∧ fM S S' ∧ S' 41 0 0 = S 41 0 0 ∧ S' 40 0 0 25 = nI (arS (S 41 0 0)) ∧ ∀ i, i < cU (S 41 0 0) → S' 53 0 0 i = nI (arO (S 41 0 0) i)) := by
  refine EW_222 ?_
  have h5 := hw.1.2.2.2.2.1
  have hc := hw.1.2.2.2.2.2
  have hBl : ∀ a u, u < cU (S 41 0 0) → aBt (S 41 0 0) a u ≤ 12 := fun a u hu => aBt_le hw hu
  obtain ⟨q, S1, e1, rfl, hf, hN, hB, hC⟩ := Wm_ex (c_findsSetups (d := d - 1) (by omega) hw)
  generalize S 41 0 0 = N at *
  obtain ⟨q, S2, e2, rfl, g1, -, -, g4⟩ := Wm_ex (c_arranges (cU N) (d := d - 1) (p := 0) (a := 0) (s := 0) (ch := fun _ => false) (cs := fun _ => 0) (acc := none) (S := sUp S1 40 0 0 25 (-1)) (N := N) (c := cU N) (by omega) (by funext q; rw [sUp_kind (by decide), hN]) h5 hc (by omega) (by omega) (by omega) hBl (by intro a u ha hu; rw [sUp_kind (by decide)]; exact hB a u ha hu) (by intro u hu; rw [sUp_kind (by decide)]; exact hC u hu) (fun i h => absurd h (Nat.not_lt_zero _)) sUp_same)
  refine (B_222_0 (by omega) e1 e2).mpr ?_
  obtain ⟨s, o, eb, -, -⟩ := arBest_ok (aBt N) (cU N)
  have eb' : arA (aBt N) (cU N) (cU N) 0 0 0 (fun _ => false) (fun _ => 0) none = some (s, o) := eb
  rw [eb'] at g4
  unfold arS arO
  rw [eb]
  refine ⟨rfl, fM_trans (fM_up hf rfl) (fA_M g1), ?_, g4.1, g4.2.2⟩
  funext q
  rw [g1 _ _ _ _ rfl, sUp_kind (by decide), hN]
theorem c_leastSetups (hd : 19 ≤ d) (hw : WF (S 41 0 0)) : Wm d 225 [vR 40 0 0] S (fun q S' => q = some (vI (if S 41 0 0 5 ≤ 7 then nI (arS (S 41 0 0)) else -4)) ∧ fM S S' ∧ S' 41 0 0 = S 41 0 0) := by
  refine EW_225 ?_
  refine (B_225_0).mpr ?_
  refine ic (fun g => ?_) (fun g => ?_)
  · obtain ⟨q, S1, e1, rfl, hf, hN, h25, -⟩ := Wm_ex (c_findsBest (d := d - 1) (by omega) hw)
    refine (B_225_14 (by omega) e1).mpr ?_
    rw [if_pos g, h25]
    exact ⟨rfl, hf, hN⟩
  refine (B_225_11).mpr ?_
  rw [if_neg g]
  exact ⟨rfl, fM_refl S, rfl⟩
theorem c_arr_tail (hd : 7 ≤ d) {N : NV} (hw : WF N) (hN : S 41 0 0 = N) {o : Nat → Nat} (ho : ∀ i, i < cU N → S 53 0 0 i = nI (o i)) (h1 : ∀ i, i < cU N → o i < cU N) (h2 : ∀ i j, i < cU N → j < cU N → o i = o j → i = j) {x1 : Int32} {u2 : Option bV} {Q : Option bV → bSt → Prop} (hQ : ∀ S', fM S S' → S' 41 0 0 = nPerm N o → Q (some (vI (nI (aSets (nPerm N o))))) S') : Wp d 223 50 [some (vR 40 0 0), some (vI x1), u2] [] S Q := by
  have h5 := hw.1.2.2.2.2.1
  have hc := hw.1.2.2.2.2.2
  have c12 : (12 : Int32) * nI (cU N) = nI (12 * cU N) := (by first | rfl | (simp only [qI_add, qI_mul, qI_lits]; done) | (simp only [qI_add, qI_mul, qI_lits]; grind))
  refine (B_223_50).mpr ?_
  refine wloopI (12 * cU N) (fun m ls T => ls = [some (vR 40 0 0), some (vI x1), some (vI (nI m))] ∧ fM S T ∧ T 41 0 0 = N ∧ (∀ i, i < cU N → T 53 0 0 i = nI (o i)) ∧ (∀ q, q < m → T 55 0 0 q = N (90 + 12 * o (q / 12) + q % 12))) ?_ ?_ ⟨rfl, fM_refl S, hN, ho, fun q h => absurd h (Nat.not_lt_zero _)⟩
  · rintro ls T ⟨rfl, hf, hT, -, hm⟩
    refine (B_223_52).mpr ?_
    rw [if_pos (by rw [hT, h5, c12]; exact Int32.le_refl _)]
    refine (B_223_102).mpr ?_
    refine wloopI (12 * cU N) (fun m ls U => ls = [some (vR 40 0 0), some (vI x1), some (vI (nI m))] ∧ fM S U ∧ (∀ q, q < 12 * cU N → U 55 0 0 q = N (90 + 12 * o (q / 12) + q % 12)) ∧ (∀ q, U 41 0 0 q = if 90 ≤ q ∧ q < 90 + m then N (90 + 12 * o ((q - 90) / 12) + (q - 90) % 12) else N q)) ?_ ?_ ⟨rfl, hf, hm, fun q => by rw [if_neg (by omega), hT]⟩
    · rintro ls U ⟨rfl, hf, -, hU⟩
      refine (B_223_104).mpr ?_
      have hU5 : U 41 0 0 5 = nI (cU N) := by rw [hU 5, if_neg (by omega), h5]
      rw [if_pos (by rw [hU5, c12]; exact Int32.le_refl _)]
      have eU : U 41 0 0 = nPerm N o := by
        funext q
        rw [hU q]
        rfl
      have cs := c_setups (d := d - 1) (S := U) (by omega) (by rw [eU]; exact WF_nPerm hw h1 h2)
      rw [eU] at cs
      refine (B_223_138 (by omega) cs).mpr ?_
      exact hQ U hf eU
    · rintro m hm' ls U ⟨rfl, hf, h55, hU⟩ hn
      refine (B_223_104).mpr ?_
      have hU5 : U 41 0 0 5 = nI (cU N) := by rw [hU 5, if_neg (by omega), h5]
      rw [if_neg (by rw [hU5, c12, qI_le (by omega) (by omega)]; omega)]
      refine (B_223_117 (n1_ := m) (n2_ := 90 + m) rfl (by omega) (by first | rfl | (simp only [qI_add, qI_mul, qI_lits]; done) | (simp only [qI_add, qI_mul, qI_lits]; grind)) (by omega)).mpr ?_
      rw [qI_succ]
      refine hn _ _ ⟨rfl, fM_up hf rfl, fun q hq => ?_, fun q => ?_⟩
      · rw [sUp_kind (by decide)]; exact h55 q hq
      · by_cases g : q = 90 + m
        · subst g
          rw [sUp_same, if_pos (by omega), h55 m hm', show 90 + m - 90 = m by omega]
        · rw [sUp_slot g, hU q]
          by_cases g2 : 90 ≤ q ∧ q < 90 + m
          · rw [if_pos g2, if_pos (by omega)]
          · rw [if_neg g2, if_neg (by omega)]
  · rintro m hm ls T ⟨rfl, hf, hT, hO, hq⟩ hn
    refine (B_223_52).mpr ?_
    rw [if_neg (by rw [hT, h5, c12, qI_le (by omega) (by omega)]; omega)]
    have hd12 : nI m / 12 = nI (m / 12) := qI_div (b := 12) (by omega) (by omega) (by omega)
    have hmod : nI m - nI m / 12 * 12 = nI (m % 12) := by
      rw [hd12, show (12 : Int32) = nI 12 from rfl, ← qI_mul, qI_sub (by omega)]
      congr 1
      omega
    have ho1 := h1 (m / 12) (by omega)
    refine (B_223_65 (n1_ := m / 12) (n2_ := 90 + 12 * o (m / 12) + m % 12) (n3_ := m) hd12 (by omega) (by rw [hmod, hO _ (by omega)]; exact (by first | rfl | (simp only [qI_add, qI_mul, qI_lits]; done) | (simp only [qI_add, qI_mul, qI_lits]; grind))) (by omega) rfl (by omega)).mpr ?_
    rw [qI_succ]
    refine hn _ _ ⟨rfl, fM_up hf rfl, ?_, fun i hi => ?_, fun q hq' => ?_⟩
    · funext q; rw [sUp_kind (by decide), hT]
    · rw [sUp_kind (by decide)]; exact hO i hi
    · by_cases g : q = m
      · subst g; rw [sUp_same, hT]
      · rw [sUp_slot g]; exact hq q (by omega)
theorem c_arrangesIn (hd : 19 ≤ d) (hw : WF (S 41 0 0)) {x1 : Int32} : Wm d 223 [vR 40 0 0, vI x1] S (fun q S' => q = some (vI (aArr (S 41 0 0) x1).1) ∧ fM S S' ∧ S' 41 0 0 = (aArr (S 41 0 0) x1).2) := by
  refine EW_223 ?_
  refine (B_223_0 (by omega) c_isIn).mpr ?_
  unfold aArr
  rw [inR_tf]
  refine icb (fun g => ?_) (fun g => ?_)
  · refine (B_223_9).mpr ?_
    rw [if_neg (by rw [g]; decide)]
    exact ⟨rfl, fM_refl S, rfl⟩
  rw [if_pos g]
  refine (B_223_12).mpr ?_
  have main : ¬ (x1 = 1 ∧ ¬ S 41 0 0 5 ≤ 7) → Wp d 223 31 [some (vR 40 0 0), some (vI x1), none] [] S (fun q S' => q = some (vI (if x1 = 1 ∧ ¬ S 41 0 0 5 ≤ 7 then (-4, S 41 0 0) else (nI (aSets (nPerm (S 41 0 0) (aArrO (S 41 0 0) x1))), nPerm (S 41 0 0) (aArrO (S 41 0 0) x1))).1) ∧ fM S S' ∧ S' 41 0 0 = (if x1 = 1 ∧ ¬ S 41 0 0 5 ≤ 7 then (-4, S 41 0 0) else (nI (aSets (nPerm (S 41 0 0) (aArrO (S 41 0 0) x1))), nPerm (S 41 0 0) (aArrO (S 41 0 0) x1))).2) := by
    intro hx
    rw [if_neg hx]
    refine (B_223_31).mpr ?_
    have hok := aArrO_ok (S 41 0 0) x1
    refine ic (fun g0 => ?_) (fun g0 => ?_)
    · obtain ⟨q, S1, e1, rfl, hf, hN, hB, hC⟩ := Wm_ex (c_findsSetups (d := d - 1) (by omega) hw)
      obtain ⟨q, S2, e2, rfl, hf2, hN2, hO⟩ := Wm_ex (c_nearest (d := d - 1) (S := S1) (by omega) (by rw [hN]; exact hw) (by rw [hN]; exact hB) (by rw [hN]; exact hC))
      rw [hN] at hN2 hO
      have ea : aArrO (S 41 0 0) x1 = nrO (S 41 0 0) := if_pos g0
      rw [ea] at hok ⊢
      refine (B_223_35 (by omega) e1 e2).mpr ?_
      exact c_arr_tail (by omega) hw hN2 hO hok.1 hok.2 (fun S' h1 h2 => ⟨rfl, fM_trans (fM_trans hf hf2) h1, h2⟩)
    obtain ⟨q, S1, e1, rfl, hf, hN, -, hO⟩ := Wm_ex (c_findsBest (d := d - 1) (by omega) hw)
    have ea : aArrO (S 41 0 0) x1 = arO (S 41 0 0) := if_neg g0
    rw [ea] at hok ⊢
    refine (B_223_46 (by omega) e1).mpr ?_
    exact c_arr_tail (by omega) hw hN hO hok.1 hok.2 (fun S' h1 h2 => ⟨rfl, fM_trans hf h1, h2⟩)
  refine ic (fun g1 => ?_) (fun g1 => ?_)
  · refine (B_223_17).mpr ?_
    refine ic (fun g2 => ?_) (fun g2 => ?_)
    · exact main (fun q => q.2 g2)
    refine (B_223_28).mpr ?_
    rw [if_pos ⟨g1, g2⟩]
    exact ⟨rfl, fM_refl S, rfl⟩
  exact main (fun q => g1 q.1)
theorem c_arrange (hd : 20 ≤ d) (hw : WF (S 41 0 0)) {c : Nat} (hc : c ≤ 8) (h2 : S 40 0 0 2 = nI c) {x1 : Int32} : Wm d 224 [vR 40 0 0, vI x1] S (fun q S' => q = some (vI (aArr (S 41 0 0) x1).1) ∧ Dn c S S' (aArr (S 41 0 0) x1).1 (aArr (S 41 0 0) x1).2) := by
  refine EW_224 ?_
  obtain ⟨k1, k2, k3, k4, k5⟩ := kb_facts (S := S)
  obtain ⟨q, S2, e2, rfl, hf, hN⟩ := Wm_ex (c_arrangesIn (d := d - 1) (S := sRow S 44 0 0 282 (S 41 0 0)) (by omega) (by rw [k2]; exact hw) (x1 := x1))
  rw [k2] at e2 hN
  refine (B_224_0 (by omega) c_keepBefore e2 (c_changed (by omega) hc (by rw [hf _ _ _ _ rfl, k4]; exact h2))).mpr ?_
  refine ⟨rfl, Dn_chg hc (fM2_trans k1 (fM_2 hf)) ?_ ?_ ?_ hN⟩
  · funext m; rw [hf _ _ _ _ rfl, k3]
  · rw [hf _ _ _ _ rfl, k4]; exact h2
  · intro m hm; rw [hf _ _ _ _ rfl]; exact k5 m hm
end M15h
