/-! THE LAW: what holds between the two between the calls -/
section M20b
variable {d : Nat} {S T U : bSt}
/-- the plan and the earlier ones -/
def rlA (S : bSt) : Prop := ∃ c P, CS S (S 41 0 0) c P ∧ (∀ p m, p < c → m < 282 → P p m = S 42 0 0 (282 * p + m)) ∧ S 40 0 0 2 = nI c
/-- the plan put by -/
def rlB (S : bSt) : Prop := S 0 0 0 12 = S 40 0 0 4 ∧ (S 40 0 0 4 ≠ 0 → PR S 3 (S 43 0 0) ∧ WF (S 43 0 0))
/-- the text -/
def rlC (S : bSt) : Prop := ∃ t tx, cT tx t S ∧ S 40 0 0 7 = nI t ∧ ∀ m, m < 80 → S 45 0 0 m = nI (tx m)
/-- what was written -/
def rlD (S : bSt) : Prop := ∃ l, WtC l S ∧ WtM l S ∧ l.length ≤ 31
/-- the reason -/
def rlE (S : bSt) : Prop := S 0 0 0 13 = S 40 0 0 8 ∧ S 0 0 0 14 = S 40 0 0 9
/-- what never changes -/
def rlF (S : bSt) : Prop := Stc S ∧ mW S
def REL (S : bSt) : Prop := rlA S ∧ rlB S ∧ rlC S ∧ rlD S ∧ rlE S ∧ rlF S
theorem rlA_c (h : ∀ k i j m, (1 ≤ k ∧ k ≤ 10) ∨ (k = 0 ∧ (m = 10 ∨ m = 11)) ∨ k = 41 ∨ k = 42 ∨ (k = 40 ∧ m = 2) → T k i j m = S k i j m) (hR : rlA S) : rlA T := by
  obtain ⟨c, P, h1, h2, h3⟩ := hR
  have e1 : T 41 0 0 = S 41 0 0 := funext fun m => h 41 0 0 m (by omega)
  refine ⟨c, P, ?_, fun p m hp hm => ?_, ?_⟩
  · rw [e1]; exact CS_eq (fun k i j m hk => h k i j m (by omega)) h1
  · rw [h 42 0 0 _ (by omega)]; exact h2 p m hp hm
  · rw [h 40 0 0 2 (by omega)]; exact h3
theorem rlB_c (h : ∀ k i j m, (k = 0 ∧ m = 12) ∨ (1 ≤ k ∧ k ≤ 10 ∧ i = 3) ∨ (k = 40 ∧ m = 4) ∨ k = 43 → T k i j m = S k i j m) (hR : rlB S) : rlB T := by
  have e1 : T 43 0 0 = S 43 0 0 := funext fun m => h 43 0 0 m (by omega)
  unfold rlB
  rw [h 0 0 0 12 (by omega), h 40 0 0 4 (by omega), e1]
  exact ⟨hR.1, fun hn => ⟨PR_eq (fun k j m h1 h2 => h k 3 j m (by omega)) (hR.2 hn).1, (hR.2 hn).2⟩⟩
theorem rlC_c (h : ∀ k i j m, (k = 26 ∧ m = 1) ∨ k = 27 ∨ (k = 40 ∧ m = 7) ∨ k = 45 → T k i j m = S k i j m) (hR : rlC S) : rlC T := by
  obtain ⟨t, tx, h1, h2, h3⟩ := hR
  exact ⟨t, tx, cT_f (fun k i j m hk => h k i j m (by omega)) h1, by rw [h 40 0 0 7 (by omega)]; exact h2, fun m hm => by rw [h 45 0 0 m (by omega)]; exact h3 m hm⟩
theorem rlD_c (h : ∀ k i j m, (k = 0 ∧ m = 9) ∨ k = 32 ∨ (k = 40 ∧ m = 21) ∨ k = 50 → T k i j m = S k i j m) (hR : rlD S) : rlD T := by
  obtain ⟨l, h1, h2, h3⟩ := hR
  exact ⟨l, ⟨by rw [h 0 0 0 9 (by omega)]; exact h1.1, fun m hm => by rw [h 32 0 0 m (by omega)]; exact h1.2 m hm⟩, ⟨by rw [h 40 0 0 21 (by omega)]; exact h2.1, fun m hm => by rw [h 50 0 0 m (by omega)]; exact h2.2 m hm⟩, h3⟩
theorem rlE_c (h : ∀ k i j m, (k = 0 ∧ (m = 13 ∨ m = 14)) ∨ (k = 40 ∧ (m = 8 ∨ m = 9)) → T k i j m = S k i j m) (hR : rlE S) : rlE T := by
  unfold rlE
  rw [h 0 0 0 13 (by omega), h 0 0 0 14 (by omega), h 40 0 0 8 (by omega), h 40 0 0 9 (by omega)]
  exact hR
theorem rlF_c (h : ∀ k i j m, k = 34 ∨ k = 35 ∨ k = 56 → T k i j m = S k i j m) (hR : rlF S) : rlF T := by
  obtain ⟨⟨⟨a1, a2, a3⟩, b1, b2, b3⟩, hm⟩ := hR
  refine ⟨⟨⟨?_, ?_, ?_⟩, ?_, ?_, ?_⟩, fun i hi => ?_⟩
  · rw [h 34 0 0 0 (by omega)]; exact a1
  · rw [h 34 0 0 1 (by omega)]; exact a2
  · rw [h 34 0 0 2 (by omega)]; exact a3
  · rw [h 35 0 0 0 (by omega)]; exact b1
  · rw [h 35 0 0 1 (by omega)]; exact b2
  · rw [h 35 0 0 2 (by omega)]; exact b3
  · rw [h 56 0 0 i (by omega)]; exact hm i hi
theorem CS_282 {N N' : NV} {c : Nat} {P : Nat → NV} (hC : CS S N c P) (h : ∀ m, m < 282 → N' m = N m) : CS S N' c P := by
  obtain ⟨f, f8, h10, h11, c8, h0, hX, hp, hw⟩ := hC
  exact ⟨f, f8, h10, h11, c8, PR_282 hw h h0, hX, hp, WF_282 hw h⟩
theorem CS_c8 {N : NV} {c : Nat} {P : Nat → NV} (hC : CS S N c P) : c ≤ 8 := by
  obtain ⟨f, f8, h10, h11, c8, h0, hX, hp, hw⟩ := hC
  exact c8
theorem rlA_mk {N : NV} {c : Nat} {P : Nat → NV} (hC : CS T N c P) (h : ∀ m, m < 282 → T 41 0 0 m = N m) (hP : ∀ p m, p < c → m < 282 → P p m = T 42 0 0 (282 * p + m)) (h2 : T 40 0 0 2 = nI c) : rlA T :=
  ⟨c, P, CS_282 hC h, hP, h2⟩
/-- the last eight -/
theorem psh_push {N A : NV} {c : Nat} {P : Nat → NV} (hc : c ≤ 8) (hP : ∀ p m, p < c → m < 282 → P p m = A (282 * p + m)) : ∀ p m, p < min (c + 1) 8 → m < 282 → pushP c P N p m = psh A c N (282 * p + m) := by
  intro p m hp hm
  unfold pushP psh
  by_cases g : c = 8
  · subst g
    rw [if_pos rfl, if_pos rfl]
    by_cases g7 : p < 7
    · rw [if_pos g7, if_neg (by omega), if_pos (by omega), hP _ _ (by omega) hm]
      congr 1
      omega
    · rw [if_neg g7, if_pos (by omega), show 282 * p + m - 1974 = m by omega]
  · rw [if_neg g, if_neg g]
    by_cases g7 : p < c
    · rw [if_pos g7, if_neg (by omega), hP _ _ g7 hm]
    · rw [if_neg g7, if_pos (by omega), show 282 * p + m - 282 * c = m by omega]
theorem frM (h : fM S T) {k i j m : Nat} (hk : k < 40 ∨ k = 42 ∨ k = 43 ∨ k = 45 ∨ k = 50 ∨ k = 56 ∨ (k = 40 ∧ (m = 2 ∨ m = 4 ∨ m = 7 ∨ m = 8 ∨ m = 9 ∨ m = 21))) : T k i j m = S k i j m :=
  h k i j m (by unfold sc; simp; omega)
theorem frM2 (h : fM2 S T) {k i j m : Nat} (hk : k < 40 ∨ k = 43 ∨ k = 45 ∨ k = 50 ∨ k = 56 ∨ (k = 40 ∧ (m = 4 ∨ m = 7 ∨ m = 8 ∨ m = 9 ∨ m = 21))) : T k i j m = S k i j m :=
  h k i j m (by unfold sc2 sc; simp; omega)
theorem frE (h : fE S T) {k i j m : Nat} (hk : k < 40 ∨ k = 43 ∨ k = 45 ∨ k = 50 ∨ k = 56 ∨ (k = 40 ∧ (m = 4 ∨ m = 21))) : T k i j m = S k i j m :=
  h k i j m (by unfold scE scR scT sc2 sc; simp; omega)
theorem frW (h : fW S T) {k i j m : Nat} (hk : k < 40 ∨ k = 41 ∨ k = 42 ∨ k = 43 ∨ k = 45 ∨ k = 56 ∨ (k = 40 ∧ (m = 2 ∨ m = 4 ∨ m = 7 ∨ m = 8 ∨ m = 9))) : T k i j m = S k i j m :=
  h k i j m (by unfold scW; simp; omega)
/-- a call at both -/
def twoC (d kc kr : Nat) (as : List bV) (S : bSt) : Prop := ∃ r S1 S2, Ret d kc (vR 0 0 0 :: as) S (some (vI r)) S1 ∧ Ret d kr (vR 40 0 0 :: as) S1 (some (vI r)) S2 ∧ REL S2 ∧ (∀ i j m, S1 36 i j m = S 36 i j m) ∧ ∀ i j m, S2 36 i j m = S 36 i j m
theorem twoC_q {kc kr : Nat} {as : List bV} {r : Int32} (hR : REL S) (h1 : Ret d kc (vR 0 0 0 :: as) S (some (vI r)) S) (h2 : Ret d kr (vR 40 0 0 :: as) S (some (vI r)) S) : twoC d kc kr as S :=
  ⟨r, S, S, h1, h2, hR, fun _ _ _ => rfl, fun _ _ _ => rfl⟩
theorem twoC_op {kc kr : Nat} {as : List bV} {r : Int32} {N' : NV} (hR : REL S) (h1 : ∀ c P, CS S (S 41 0 0) c P → Wm d kc (vR 0 0 0 :: as) S (fun q S' => q = some (vI r) ∧ Dc S S' (S 41 0 0) c P r N')) (h2 : ∀ T c, WF (T 41 0 0) → c ≤ 8 → T 40 0 0 2 = nI c → T 41 0 0 = S 41 0 0 → Wm d kr (vR 40 0 0 :: as) T (fun q S' => q = some (vI r) ∧ Dn c T S' r N')) : twoC d kc kr as S := by
  obtain ⟨⟨c, P, hC, hP, hc2⟩, hB, hCt, hD, hE, hF⟩ := hR
  obtain ⟨q, S1, e1, rfl, f1, a1⟩ := Wm_ex (h1 c P hC)
  have c8 := CS_c8 hC
  have u : ∀ k i j m, 11 ≤ k ∧ ¬ (12 ≤ k ∧ k ≤ 25) ∨ (k = 0 ∧ m ≠ 10 ∧ m ≠ 11) ∨ i = 3 ∧ 1 ≤ k ∧ k ≤ 10 → S1 k i j m = S k i j m := fun k i j m h => f1 k i j m (by omega) (by omega) (by omega)
  have e41 : S1 41 0 0 = S 41 0 0 := funext fun m => u 41 0 0 m (by omega)
  have e42 : S1 42 0 0 = S 42 0 0 := funext fun m => u 42 0 0 m (by omega)
  obtain ⟨q, S2, e2, rfl, f2, g1, g2⟩ := Wm_ex (h2 S1 c (by rw [e41]; exact CS_W hC) c8 (by rw [u 40 0 0 2 (by omega)]; exact hc2) e41)
  have v : ∀ k i j m, (k < 40 ∨ k = 43 ∨ k = 45 ∨ k = 50 ∨ k = 56 ∨ (k = 40 ∧ (m = 4 ∨ m = 7 ∨ m = 8 ∨ m = 9 ∨ m = 21))) ∧ (11 ≤ k ∧ ¬ (12 ≤ k ∧ k ≤ 25) ∨ (k = 0 ∧ m ≠ 10 ∧ m ≠ 11) ∨ i = 3 ∧ 1 ≤ k ∧ k ≤ 10) → S2 k i j m = S k i j m := fun k i j m h => (frM2 f2 h.1).trans (u k i j m h.2)
  have hC2 : ∀ {N c P}, CS S1 N c P → CS S2 N c P := fun h => CS_eq (fun k i j m hk => frM2 f2 (by omega)) h
  refine ⟨r, S1, S2, e1, e2, ⟨?_, rlB_c (fun k i j m h => v k i j m (by omega)) hB, rlC_c (fun k i j m h => v k i j m (by omega)) hCt, rlD_c (fun k i j m h => v k i j m (by omega)) hD, rlE_c (fun k i j m h => v k i j m (by omega)) hE, rlF_c (fun k i j m h => v k i j m (by omega)) hF⟩, fun i j m => u 36 i j m (by omega), fun i j m => v 36 i j m (by omega)⟩
  rcases a1 with ⟨b1, b2⟩ | ⟨b1, b2⟩
  · rcases g2 with ⟨b3, b4, b5⟩ | ⟨b3, b4, b5⟩
    · exact rlA_mk (hC2 b2) (fun m _ => by rw [g1]) (by rw [b4, e42]; exact hP) b5
    · exact absurd b1 b3
  · rcases g2 with ⟨b3, b4, b5⟩ | ⟨b3, b4, b5⟩
    · exact absurd b3 b1
    · exact rlA_mk (hC2 b2) (fun m _ => by rw [g1]) (by rw [b4, e42, e41]; exact psh_push c8 hP) b5
theorem twoC_r {kc kr : Nat} {as : List bV} {A : Nat → (Nat → Nat) → Int32 × NV × Option (Int32 × Int32)} (hR : REL S) (h1 : ∀ c P t tx, CS S (S 41 0 0) c P → cT tx t S → Wm d kc (vR 0 0 0 :: as) S (fun q S' => q = some (vI (A t tx).1) ∧ DrC S S' (S 41 0 0) c P (A t tx))) (h2 : ∀ T c t tx, WF (T 41 0 0) → c ≤ 8 → T 40 0 0 2 = nI c → t ≤ 80 → T 40 0 0 7 = nI t → (∀ m, m < 80 → tx m < 127) → (∀ m, m < 80 → T 45 0 0 m = nI (tx m)) → mW T → T 41 0 0 = S 41 0 0 → Wm d kr (vR 40 0 0 :: as) T (fun q S' => q = some (vI (A t tx).1) ∧ Dr c T S' (A t tx))) : twoC d kc kr as S := by
  obtain ⟨⟨c, P, hC, hP, hc2⟩, hB, ⟨t, tx, hT, h7, h45⟩, hD, hE, hF⟩ := hR
  obtain ⟨q, S1, e1, rfl, f1, z1, a1, r1⟩ := Wm_ex (h1 c P t tx hC hT)
  have c8 := CS_c8 hC
  have u : ∀ k i j m, 32 ≤ k ∨ k = 11 ∨ k = 27 ∨ (k = 0 ∧ m ≠ 10 ∧ m ≠ 11 ∧ m ≠ 13 ∧ m ≠ 14) ∨ i = 3 ∧ 1 ≤ k ∧ k ≤ 10 → S1 k i j m = S k i j m := fun k i j m h => f1 k i j m (by omega) (by omega) (by omega) (by omega)
  have e41 : S1 41 0 0 = S 41 0 0 := funext fun m => u 41 0 0 m (by omega)
  have e42 : S1 42 0 0 = S 42 0 0 := funext fun m => u 42 0 0 m (by omega)
  have hF1 : rlF S1 := rlF_c (fun k i j m h => u k i j m (by omega)) hF
  obtain ⟨q, S2, e2, rfl, f2, y1, g1, g2, r2⟩ := Wm_ex (h2 S1 c t tx (by rw [e41]; exact CS_W hC) c8 (by rw [u 40 0 0 2 (by omega)]; exact hc2) hT.2.1 (by rw [u 40 0 0 7 (by omega)]; exact h7) hT.2.2.1 (fun m hm => by rw [u 45 0 0 m (by omega)]; exact h45 m hm) hF1.2 e41)
  have v : ∀ k i j m, (k < 40 ∨ k = 43 ∨ k = 45 ∨ k = 50 ∨ k = 56 ∨ (k = 40 ∧ (m = 4 ∨ m = 21))) ∧ (32 ≤ k ∨ k = 11 ∨ k = 27 ∨ (k = 0 ∧ m ≠ 10 ∧ m ≠ 11 ∧ m ≠ 13 ∧ m ≠ 14) ∨ i = 3 ∧ 1 ≤ k ∧ k ≤ 10) → S2 k i j m = S k i j m := fun k i j m h => (frE f2 h.1).trans (u k i j m h.2)
  have hC2 : ∀ {N c P}, CS S1 N c P → CS S2 N c P := fun h => CS_eq (fun k i j m hk => frE f2 (by omega)) h
  refine ⟨(A t tx).1, S1, S2, e1, e2, ⟨?_, rlB_c (fun k i j m h => v k i j m (by omega)) hB, ⟨0, tx, ⟨?_, Nat.zero_le _, hT.2.2.1, fun m hm => ?_⟩, y1, fun m hm => ?_⟩, rlD_c (fun k i j m h => v k i j m (by omega)) hD, ?_, rlF_c (fun k i j m h => v k i j m (by omega)) hF⟩, fun i j m => u 36 i j m (by omega), fun i j m => v 36 i j m (by omega)⟩
  · rcases a1 with ⟨b1, b2⟩ | ⟨b1, b2⟩
    · rcases g2 with ⟨b3, b4, b5⟩ | ⟨b3, b4, b5⟩
      · exact rlA_mk (hC2 b2) g1 (by rw [b4, e42]; exact hP) b5
      · exact absurd b1 b3
    · rcases g2 with ⟨b3, b4, b5⟩ | ⟨b3, b4, b5⟩
      · exact absurd b3 b1
      · exact rlA_mk (hC2 b2) g1 (by rw [b4, e42, e41]; exact psh_push c8 hP) b5
  · rw [frE f2 (by omega)]; exact z1
  · rw [v 27 0 0 m (by omega)]; exact hT.2.2.2 m hm
  · rw [v 45 0 0 m (by omega)]; exact h45 m hm
  · generalize A t tx = B at r1 r2
    obtain ⟨B1, B2, B3⟩ := B
    cases B3 with
    | none =>
      obtain ⟨p1, p2⟩ := r1
      obtain ⟨p3, p4⟩ := r2
      unfold rlE
      rw [p3, p4, frE f2 (k := 0) (by omega), frE f2 (k := 0) (by omega), p1, p2, u 40 0 0 8 (by omega), u 40 0 0 9 (by omega)]
      exact hE
    | some w =>
      obtain ⟨w1, w2⟩ := w
      obtain ⟨p1, p2⟩ := r1
      obtain ⟨p3, p4⟩ := r2
      unfold rlE
      rw [p3, p4, frE f2 (k := 0) (by omega), frE f2 (k := 0) (by omega), p1, p2]
      exact ⟨rfl, rfl⟩
theorem twoC_n {kc kr : Nat} {as : List bV} {r : Int32} (hR : REL S) (h1 : PR S 0 (S 41 0 0) → WF (S 41 0 0) → Wm d kc (vR 0 0 0 :: as) S (fun q S' => q = some (vI r) ∧ ∀ k i j m, ¬ (12 ≤ k ∧ k ≤ 25) → S' k i j m = S k i j m)) (h2 : ∀ T, WF (T 41 0 0) → T 41 0 0 = S 41 0 0 → Wm d kr (vR 40 0 0 :: as) T (fun q S' => q = some (vI r) ∧ fM T S' ∧ S' 41 0 0 = T 41 0 0)) : twoC d kc kr as S := by
  obtain ⟨⟨c, P, hC, hP, hc2⟩, hB, hCt, hD, hE, hF⟩ := hR
  obtain ⟨q, S1, e1, rfl, u⟩ := Wm_ex (h1 (CS_P hC) (CS_W hC))
  have e41 : S1 41 0 0 = S 41 0 0 := funext fun m => u 41 0 0 m (by omega)
  obtain ⟨q, S2, e2, rfl, f2, g1⟩ := Wm_ex (h2 S1 (by rw [e41]; exact CS_W hC) e41)
  have v : ∀ k i j m, k ≤ 11 ∨ (26 ≤ k ∧ k ≤ 39) ∨ k = 42 ∨ k = 43 ∨ k = 45 ∨ k = 50 ∨ k = 56 ∨ (k = 40 ∧ (m = 2 ∨ m = 4 ∨ m = 7 ∨ m = 8 ∨ m = 9 ∨ m = 21)) → S2 k i j m = S k i j m := fun k i j m h => (frM f2 (by omega)).trans (u k i j m (by omega))
  refine ⟨r, S1, S2, e1, e2, ⟨?_, rlB_c (fun k i j m h => v k i j m (by omega)) hB, rlC_c (fun k i j m h => v k i j m (by omega)) hCt, rlD_c (fun k i j m h => v k i j m (by omega)) hD, rlE_c (fun k i j m h => v k i j m (by omega)) hE, rlF_c (fun k i j m h => v k i j m (by omega)) hF⟩, fun i j m => u 36 i j m (by omega), fun i j m => v 36 i j m (by omega)⟩
  exact rlA_mk (CS_eq (fun k i j m hk => v k i j m (by omega)) hC) (fun m _ => by rw [g1, e41]) (fun p m hp hm => by rw [v 42 0 0 _ (by omega)]; exact hP p m hp hm) (by rw [v 40 0 0 2 (by omega)]; exact hc2)
end M20b
