/-! THE CLASS: the runs are arranged by the least sum -/
section M18f
variable {d : Nat} {S : bSt} {N : NV} {i : Nat}
/-- the least sum so far, its sequence -/
abbrev Qcc : Type := Nat × (Nat → Nat)
def arC (B : Nat → Nat → Nat) (c : Nat) : Nat → Nat → Nat → Nat → (Nat → Bool) → (Nat → Nat) → Qcc → Qcc
  | 0, _, _, s, _, cs, b => if s < b.1 then (s, cs) else b
  | k + 1, p, a, s, ch, cs, b => if s < b.1 then (List.range c).foldl (fun b u => if ch u = true then b else arC B c k (p + 1) (u + 1) (s + B a u) (updB ch u) (updN cs p u) b) b else b
def RQ (c : Nat) (acc : Seq) (b : Qcc) : Prop := (acc = none ∧ b.1 = 1000) ∨ ∃ s o, acc = some (s, o) ∧ b.1 = s ∧ s < 1000 ∧ ∀ j, j < c → o j = b.2 j
theorem arA_noimp {B : Nat → Nat → Nat} {c b : Nat} {o : Nat → Nat} : ∀ (k p a s : Nat) (ch : Nat → Bool) (cs : Nat → Nat), b ≤ s → arA B c k p a s ch cs (some (b, o)) = some (b, o) := by
  intro k
  induction k with
  | zero =>
    intro p a s ch cs h
    show (if s < b then some (s, cs) else some (b, o)) = _
    rw [if_neg (by omega)]
  | succ k ih =>
    intro p a s ch cs h
    unfold arA
    have : ∀ l : List Nat, l.foldl (fun acc u => if ch u = true then acc else arA B c k (p + 1) (u + 1) (s + B a u) (updB ch u) (updN cs p u) acc) (some (b, o)) = some (b, o) := by
      intro l
      induction l with
      | nil => rfl
      | cons u l ihl =>
        rw [List.foldl_cons]
        by_cases hu : ch u = true
        · rw [if_pos hu]; exact ihl
        · rw [if_neg hu, ih _ _ _ _ _ (by omega)]; exact ihl
    exact this _
theorem arC_ok {B : Nat → Nat → Nat} {c : Nat} (hB : ∀ a u, u < c → B a u ≤ 12) (hc : c ≤ 7) : ∀ (k p a s : Nat) (ch : Nat → Bool) (cs : Nat → Nat) (acc : Seq) (b : Qcc), p + k = c → s ≤ 12 * p → RQ c acc b → RQ c (arA B c k p a s ch cs acc) (arC B c k p a s ch cs b) := by
  intro k
  induction k with
  | zero =>
    intro p a s ch cs acc b hk hs h
    rcases h with ⟨rfl, h2⟩ | ⟨s', o, rfl, h2, h3, h4⟩
    · show RQ c (some (s, cs)) (if s < b.1 then (s, cs) else b)
      rw [if_pos (by omega)]
      exact Or.inr ⟨s, cs, rfl, rfl, by omega, fun _ _ => rfl⟩
    · show RQ c (if s < s' then some (s, cs) else some (s', o)) (if s < b.1 then (s, cs) else b)
      rw [h2]
      by_cases g : s < s'
      · rw [if_pos g, if_pos g]
        exact Or.inr ⟨s, cs, rfl, rfl, by omega, fun _ _ => rfl⟩
      · rw [if_neg g, if_neg g]
        exact Or.inr ⟨s', o, rfl, h2, h3, h4⟩
  | succ k ih =>
    intro p a s ch cs acc b hk hs h
    by_cases g : s < b.1
    · unfold arA arC
      rw [if_pos g]
      refine foldl_rel (R := RQ c) _ _ _ h (fun u hu acc b hab => ?_)
      have huc : u < c := List.mem_range.mp hu
      by_cases hb : ch u = true
      · rw [if_pos hb, if_pos hb]; exact hab
      · rw [if_neg hb, if_neg hb]
        have := hB a u huc
        exact ih _ _ _ _ _ _ _ (by omega) (by omega) hab
    · have e : arC B c (k + 1) p a s ch cs b = b := by
        show (if s < b.1 then _ else b) = b
        rw [if_neg g]
      rw [e]
      have h0 := h
      rcases h with ⟨rfl, h2⟩ | ⟨s', o, rfl, h2, h3, h4⟩
      · omega
      · rw [arA_noimp _ _ _ _ _ _ (by omega)]
        exact h0
theorem msk_t : ∀ t, t < 128 → ∀ u, u < 7 → (((nI t) &&& ((1 : Int32) <<< (nI u &&& 31)) = 0) ↔ t.testBit u = false) ∧ ((nI t) ||| ((1 : Int32) <<< (nI u &&& 31))) = nI (t ||| 2 ^ u) ∧ t ||| 2 ^ u < 128 ∧ ((nI t) &&& (((1 : Int32) <<< (nI u &&& 31)) ^^^ (-1))) = nI (t - (if t.testBit u = true then 2 ^ u else 0)) := by decide +kernel
theorem tb_or (t u v : Nat) : (t ||| 2 ^ u).testBit v = if v = u then true else t.testBit v := by
  rw [Nat.testBit_or, Nat.testBit_two_pow]
  by_cases h : v = u
  · rw [if_pos h, decide_eq_true h.symm, Bool.or_true]
  · rw [if_neg h, decide_eq_false (fun q => h q.symm), Bool.or_false]
def scQ (k m : Nat) : Bool := (k == 19 && m == 6) || k == 22 || k == 23
def fQ (S S' : bSt) : Prop := ∀ k i j m, scQ k m = false → S' k i j m = S k i j m
theorem fQ_refl (S : bSt) : fQ S S := fun _ _ _ _ _ => rfl
theorem fQ_trans {S T U : bSt} (h : fQ S T) (g : fQ T U) : fQ S U := fun k i j m hm => (g k i j m hm).trans (h k i j m hm)
theorem fQ_up {S T : bSt} {k i j m : Nat} {x : Int32} (h : fQ S T) (hk : scQ k m = true) : fQ S (sUp T k i j m x) := by
  intro k' i' j' m' hs
  rw [← h k' i' j' m' hs]
  unfold sUp
  rw [if_neg]
  rintro ⟨rfl, -, -, rfl⟩
  rw [hk] at hs
  exact absurd hs (by decide)
/-- the class's table of setups -/
def tB (N : NV) (S : bSt) : Prop := S 19 0 0 0 = nI (cU N) ∧ ∀ a u, a ≤ cU N → u < cU N → S 21 a 0 u = nI (aBt N a u)
theorem tB_f {S' : bSt} (h : tB N S) (hf : fQ S S') : tB N S' := ⟨by rw [hf _ _ _ _ rfl]; exact h.1, fun a u ha hu => by rw [hf _ _ _ _ rfl]; exact h.2 a u ha hu⟩
def mQ (c : Nat) (b : Qcc) (S : bSt) : Prop := S 19 0 0 6 = nI b.1 ∧ b.1 ≤ 1000 ∧ (b.1 < 1000 → ∀ j, j < c → S 23 0 0 j = nI (b.2 j))
theorem bk21 {a : Nat} (h : a < 8) : bok 21 a 0 = true := by simp [bok, kDim, h]
theorem k_trySeq (hw : WF N) (hc : cU N ≤ 7) : ∀ (k : Nat) {d p a s t : Nat} {ch : Nat → Bool} {cs : Nat → Nat} {b : Qcc} {S : bSt}, k + 1 ≤ d → p + k = cU N → tB N S → s ≤ 12 * p → t < 128 → (∀ u, u < cU N → ch u = t.testBit u) → (∀ j, j < p → S 22 0 0 j = nI (cs j)) → (a = if p = 0 then 0 else cs (p - 1) + 1) → a ≤ cU N → mQ (cU N) b S →
    Wm d 3 [vR 19 0 0, vI (nI p), vI (nI t), vI (nI s)] S (fun q S' => q = none ∧ fQ S S' ∧ mQ (cU N) (arC (aBt N) (cU N) k p a s ch cs b) S' ∧ ∀ j, j < p → S' 22 0 0 j = S 22 0 0 j) := by
  intro k
  induction k with
  | zero =>
    intro d p a s t ch cs b S hd hk hT hs ht hch hcs ha hac hb
    obtain ⟨b1, b2, b3⟩ := hb
    refine EW_3 ?_
    refine (B_3_0).mpr ?_
    rw [b1]
    show if _ then _ else _
    rotate_left
    refine icT (qI_lt (by omega) (by omega)) (fun g => ?_) (fun g => ?_)
    · refine (B_3_9).mpr ?_
      rw [hT.1]
      rw [if_pos (by rw [qI_le (by omega) (by omega)]; omega)]
      refine (B_3_23).mpr ?_
      have e : arC (aBt N) (cU N) 0 p a s ch cs b = (s, cs) := by
        show (if s < b.1 then (s, cs) else b) = _
        rw [if_pos g]
      rw [e]
      refine ⟨rfl, fun k i j m hs' => ?_, ⟨by simp [sCp, sUp], by show s ≤ 1000; omega, fun _ j hj => ?_⟩, fun j _ => by simp [sCp, sUp]⟩
      · have : sCp (sUp S 19 0 0 6 (nI s)) (22, 0, 0) (23, 0, 0) 0 0 7 k i j m = sUp S 19 0 0 6 (nI s) k i j m := by
          unfold sCp
          rw [if_neg]
          rintro ⟨rfl, -⟩
          exact absurd hs' (by simp [scQ])
        rw [this]
        exact fQ_up (fQ_refl S) rfl k i j m hs'
      · have hj7 : j < 7 := by omega
        simp [sCp, sUp, hj7]
        exact hcs j (by omega)
    refine (B_3_8).mpr ?_
    have e : arC (aBt N) (cU N) 0 p a s ch cs b = b := by
      show (if s < b.1 then (s, cs) else b) = _
      rw [if_neg g]
    rw [e]
    exact ⟨rfl, fQ_refl S, ⟨b1, b2, b3⟩, fun _ _ => rfl⟩
  | succ k ih =>
    intro d p a s t ch cs b S hd hk hT hs ht hch hcs ha hac hb
    have hb' := hb
    obtain ⟨b1, b2, b3⟩ := hb'
    refine EW_3 ?_
    refine (B_3_0).mpr ?_
    rw [b1]
    rotate_left
    refine icT (qI_lt (by omega) (by omega)) (fun g => ?_) (fun g => ?_)
    · refine (B_3_9).mpr ?_
      rw [hT.1]
      rw [if_neg (by rw [qI_le (by omega) (by omega)]; omega)]
      refine (B_3_17).mpr ?_
      rw [if_pos (by rw [show (7 : Int32) = nI 7 from rfl, qI_lt (by omega) (by omega)]; omega)]
      refine (B_3_44).mpr ?_
      have e : arC (aBt N) (cU N) (k + 1) p a s ch cs b = (List.range (cU N)).foldl (fun b u => if ch u = true then b else arC (aBt N) (cU N) k (p + 1) (u + 1) (s + aBt N a u) (updB ch u) (updN cs p u) b) b := by
        show (if s < b.1 then _ else b) = _
        rw [if_pos g]
      rw [e]
      have main : Wp d 3 62 [some (vR 19 0 0), some (vI (nI p)), some (vI (nI t)), some (vI (nI s)), none, none] [vI (nI a)] S (fun q S' => q = none ∧ fQ S S' ∧ mQ (cU N) ((List.range (cU N)).foldl (fun b u => if ch u = true then b else arC (aBt N) (cU N) k (p + 1) (u + 1) (s + aBt N a u) (updB ch u) (updN cs p u) b) b) S' ∧ ∀ j, j < p → S' 22 0 0 j = S 22 0 0 j) := by
        refine (B_3_62).mpr ?_
        refine wloopI (cU N) (fun m ls T => ls = [some (vR 19 0 0), some (vI (nI p)), some (vI (nI t)), some (vI (nI s)), some (vI (nI a)), some (vI (nI m))] ∧ fQ S T ∧ mQ (cU N) ((List.range m).foldl (fun b u => if ch u = true then b else arC (aBt N) (cU N) k (p + 1) (u + 1) (s + aBt N a u) (updB ch u) (updN cs p u) b) b) T ∧ ∀ j, j < p → T 22 0 0 j = S 22 0 0 j) ?_ ?_ ⟨rfl, fQ_refl S, hb, fun _ _ => rfl⟩
        · rintro ls T ⟨rfl, hf, hm, h22⟩
          refine (B_3_67).mpr ?_
          rw [(tB_f hT hf).1]
          rw [if_pos (Int32.le_refl _)]
          refine (B_3_124).mpr ?_
          exact ⟨rfl, hf, hm, h22⟩
        · rintro m hm ls T ⟨rfl, hf, hmq, h22⟩ hn
          have hTT := tB_f hT hf
          rw [List.range_succ, List.foldl_append, List.foldl_cons, List.foldl_nil] at hn
          obtain ⟨m1, m2, m3, -⟩ := msk_t t ht m (by omega)
          refine (B_3_67).mpr ?_
          rw [hTT.1]
          rw [if_neg (by rw [qI_le (by omega) (by omega)]; omega)]
          refine (B_3_76).mpr ?_
          rotate_left
          refine icT (m1) (fun gb => ?_) (fun gb => ?_)
          · have hcm : ¬ ch m = true := by rw [hch m hm, gb]; decide
            rw [if_neg hcm] at hn
            have hle := aBt_le hw (a := a) hm
            have hT2 := tB_f hT (fQ_up hf (i := 0) (j := 0) (m := p) (x := nI m) (show scQ 22 p = true from rfl))
            obtain ⟨q, T1, r1, rfl, r2, r3, r4⟩ := Wm_ex (ih (d := d - 1) (p := p + 1) (a := m + 1) (s := s + aBt N a m) (t := t ||| 2 ^ m) (ch := updB ch m) (cs := updN cs p m) (b := (List.range m).foldl (fun b u => if ch u = true then b else arC (aBt N) (cU N) k (p + 1) (u + 1) (s + aBt N a u) (updB ch u) (updN cs p u) b) b) (S := sUp T 22 0 0 p (nI m)) (by omega) (by omega) hT2 (by omega) m3 (fun u hu => by
              rw [tb_or]
              unfold updB
              split
              · rfl
              · exact hch u hu) (fun j hj => by
              unfold updN
              by_cases gj : j = p
              · subst gj; rw [sUp_same, if_pos rfl]
              · rw [sUp_slot gj, if_neg gj, h22 j (by omega)]
                exact hcs j (by omega)) (by rw [if_neg (by omega), Nat.add_sub_cancel]; unfold updN; rw [if_pos rfl]) (by omega) ⟨by rw [sUp_kind (by decide)]; exact hmq.1, hmq.2.1, fun h j hj => by rw [sUp_kind (by decide)]; exact hmq.2.2 h j hj⟩)
            refine (B_3_85 (n1_ := p) (n2_ := a) (n3_ := m) (S1_ := T1) (by omega) rfl (by omega) rfl (by omega) rfl (by omega) (bk21 (by omega)) (by rw [hT2.2 a m hac hm, m2, qI_succ, ← qI_add]; exact r1)).mpr ?_
            refine (B_3_118).mpr ?_
            rw [qI_succ]
            refine hn _ _ ⟨rfl, fQ_trans (fQ_up hf rfl) r2, r3, fun j hj => ?_⟩
            rw [r4 j (by omega), sUp_slot (by omega)]
            exact h22 j hj
          have hcm : ch m = true := by rw [hch m hm]; simpa using gb
          rw [if_pos hcm] at hn
          refine (B_3_118).mpr ?_
          rw [qI_succ]
          exact hn _ _ ⟨rfl, hf, hmq, h22⟩
      refine icT ((show nI p = 0 ↔ p = 0 from qI_eq (b := 0) (by omega) (by omega))) (fun gp => ?_) (fun gp => ?_)
      · refine (B_3_48).mpr ?_
        have e0 : nI a = 0 := by rw [ha, if_pos gp]; rfl
        rw [e0] at main
        exact main
      refine (B_3_52 (n1_ := p - 1) (qI_test3 _ (by omega)) (by omega)).mpr ?_
      rw [hcs (p - 1) (by omega), qI_succ]
      rw [if_neg gp] at ha
      rw [← ha]
      exact main
    refine (B_3_8).mpr ?_
    have e : arC (aBt N) (cU N) (k + 1) p a s ch cs b = b := by
      show (if s < b.1 then _ else b) = _
      rw [if_neg g]
    rw [e]
    exact ⟨rfl, fQ_refl S, hb, fun _ _ => rfl⟩
/-- only the arranger is written -/
def fAr (S S' : bSt) : Prop := ∀ k i j m, ¬ (19 ≤ k ∧ k ≤ 25) → S' k i j m = S k i j m
theorem fAr_refl (S : bSt) : fAr S S := fun _ _ _ _ _ => rfl
theorem fAr_trans {S T U : bSt} (h : fAr S T) (g : fAr T U) : fAr S U := fun k i j m hm => (g k i j m hm).trans (h k i j m hm)
theorem fAr_up {S T : bSt} {k i j m : Nat} {x : Int32} (h : fAr S T) (h1 : 19 ≤ k) (h2 : k ≤ 25) : fAr S (sUp T k i j m x) := by
  intro k' i' j' m' hs
  rw [← h k' i' j' m' hs]
  exact sUp_kind (by omega)
theorem fAr_PR {S' : bSt} (h : fAr S S') (hP : PR S i N) : PR S' i N := PR_eq (fun k j m _ _ => h k i j m (by omega)) hP
theorem fQ_Ar {S T : bSt} (h : fQ S T) : fAr S T := by
  intro k i j m hs
  refine h k i j m ?_
  unfold scQ
  simp only [Bool.or_eq_false_iff, Bool.and_eq_false_iff, beq_eq_false_iff_ne]
  omega
theorem fAr_Ks {a : Nat} {S T : bSt} (h : fAr S T) : fKs a S T := fun k i j m _ h2 => h k i j m (by omega)
theorem k_look (hi : i < 12) (hP : PR S i N) (hw : WF N) (hc : cU N ≤ 7) (hd : 2 ≤ d) : Wm d 1 [vR 19 0 0, vR 1 i 0] S (fun q S' => q = none ∧ fAr S S' ∧ tB N S') := by
  have h6 := P_6 hP hw
  refine EW_1 ?_
  have hmin := c_min (d := d - 1) (S := S) (a := cU N) (b := 7) (by omega) (by omega)
  rw [Nat.min_eq_left hc] at hmin
  refine (B_1_0 (r1_ := nI (cU N)) (S1_ := S) (by omega) (bk1 hi) (by rw [h6]; exact hmin)).mpr ?_
  refine wloopI (cU N + 1) (fun a ls T => (∃ w3, ls = [some (vR 19 0 0), some (vR 1 i 0), some (vI (nI a - 1)), w3]) ∧ fAr S T ∧ T 19 0 0 0 = nI (cU N) ∧ ∀ a' u, a' < a → u < cU N → T 21 a' 0 u = nI (aBt N a' u)) ?_ ?_ ⟨⟨none, rfl⟩, fAr_up (fAr_refl S) (by omega) (by omega), sUp_same, fun a' u h => absurd h (Nat.not_lt_zero _)⟩
  · rintro ls T ⟨⟨w3, rfl⟩, hf, h0, hB⟩
    rw [nI_m1]
    refine (B_1_15).mpr ?_
    rw [h0]
    rw [if_pos (Int32.le_refl _)]
    refine (B_1_61).mpr ?_
    exact ⟨rfl, hf, h0, fun a u ha hu => hB a u (by omega) hu⟩
  · rintro a ha ls T ⟨⟨w3, rfl⟩, hf, h0, hB⟩ hn
    have e1 : nI a - 1 + 1 = nI a := by grind
    have hle : ¬ nI (cU N) ≤ nI a - 1 := by
      rw [Int32.le_iff_toInt_le, Int32.toInt_sub, nI_toInt (by omega), nI_toInt (by omega), show (1 : Int32).toInt = 1 from by decide, bm32 (by omega) (by omega)]
      omega
    refine (B_1_15).mpr ?_
    rw [h0]
    rw [if_neg (hle)]
    refine (B_1_23).mpr ?_
    refine wloopI (cU N) (fun m ls U => ls = [some (vR 19 0 0), some (vR 1 i 0), some (vI (nI a - 1)), some (vI (nI m))] ∧ fAr S U ∧ U 19 0 0 0 = nI (cU N) ∧ (∀ a' u, a' < a → u < cU N → U 21 a' 0 u = nI (aBt N a' u)) ∧ ∀ u, u < m → U 21 a 0 u = nI (aBt N a u)) ?_ ?_ ⟨rfl, hf, h0, hB, fun u h => absurd h (Nat.not_lt_zero _)⟩
    · rintro ls U ⟨rfl, hf, h0, hB, hU⟩
      refine (B_1_25).mpr ?_
      rw [h0]
      rw [if_pos (Int32.le_refl _)]
      refine (B_1_55).mpr ?_
      refine hn _ _ ⟨⟨_, by rw [show nI a - 1 + 1 = nI (a + 1) - 1 from by rw [nI_m1]; exact e1]⟩, hf, h0, fun a' u h1 hu => ?_⟩
      by_cases g : a' = a
      · subst g; exact hU u hu
      · exact hB a' u (by omega) hu
    · rintro m hm ls U ⟨rfl, hf, h0, hB, hU⟩ hn2
      refine (B_1_25).mpr ?_
      rw [h0]
      rw [if_neg (by rw [qI_le (by omega) (by omega)]; omega)]
      refine (B_1_33 (n1_ := a) (n2_ := m) (by omega) e1 (by omega) (k_setupB hi (fAr_PR hf hP) hw (by omega) hm (by omega)) (bk1 hi) rfl (by omega) (bk21 (by omega))).mpr ?_
      rw [qI_succ]
      refine hn2 _ _ ⟨rfl, fAr_up hf (by omega) (by omega), by rw [sUp_kind (by decide)]; exact h0, fun a' u h1 hu => by rw [sUp_i (by omega)]; exact hB a' u h1 hu, fun u hu => ?_⟩
      by_cases g : u = m
      · subst g; exact sUp_same
      · rw [sUp_slot g]; exact hU u (by omega)
theorem k_seekLeast (hw : WF N) (hc : cU N ≤ 7) (hT : tB N S) (hd : 9 ≤ d) : Wm d 2 [vR 19 0 0] S (fun q S' => q = none ∧ fQ S S' ∧ ∀ j, j < cU N → S' 23 0 0 j = nI (arO N j)) := by
  refine EW_2 ?_
  have h0 : RQ (cU N) none ((1000, fun _ => 0) : Qcc) := Or.inl ⟨rfl, rfl⟩
  have hq := arC_ok (B := aBt N) (c := cU N) (fun a u hu => aBt_le hw hu) hc (cU N) 0 0 0 (fun _ => false) (fun _ => 0) none (1000, fun _ => 0) (by omega) (by omega) h0
  have hf1 : fQ S (sUp S 19 0 0 6 1000) := fQ_up (fQ_refl S) rfl
  obtain ⟨q, S1, e1, rfl, f1, m1, -⟩ := Wm_ex (k_trySeq hw hc (cU N) (d := d - 1) (p := 0) (a := 0) (s := 0) (t := 0) (ch := fun _ => false) (cs := fun _ => 0) (b := (1000, fun _ => 0)) (S := sUp S 19 0 0 6 1000) (by omega) (by omega) (tB_f hT hf1) (by omega) (by omega) (fun u _ => by rw [Nat.zero_testBit]) (fun j h => absurd h (Nat.not_lt_zero _)) rfl (by omega) ⟨sUp_same, Nat.le_refl _, fun h => absurd h (by decide)⟩)
  refine (B_2_0 (by omega) e1).mpr ?_
  refine ⟨rfl, fQ_trans hf1 f1, fun j hj => ?_⟩
  obtain ⟨s, o, he, -, -⟩ := arBest_ok (aBt N) (cU N)
  unfold arO
  rw [he]
  show _ = nI (o j)
  unfold arBest at he
  rw [he] at hq
  rcases hq with ⟨h, -⟩ | ⟨s', o', h1, h2, h3, h4⟩
  · cases h
  · cases h1
    rw [h4 j hj]
    exact m1.2.2 (by omega) j hj
theorem eR25 {n j : Nat} (hj : j < 16) : eRef 25 0 n (nI j) = some (8, 0, j) := by
  unfold eRef
  show (if nI j < 0 then none else some (8, 0, (nI j).toNatClampNeg)) = _
  rw [if_neg (nI_n0 (by omega)), nI_clamp (by omega)]
theorem eC25 {j : Nat} (hj : j < 16) : eCode 25 0 (8, 0, j) = some (nI j) := by
  unfold eCode
  simp [hj]
  rfl
theorem k_reorder (hX : IX S 0) {c : Nat} (hc : c ≤ 7) {o : Nat → Nat} (h0 : S 19 0 0 0 = nI c) (ho : ∀ j, j < c → S 23 0 0 j = nI (o j) ∧ o j < c) : Wm d 4 [vR 19 0 0, vR 7 0 0] S (fun q S' => q = none ∧ (∀ k i j m, k ≠ 25 → ¬ (k = 7 ∧ i = 0 ∧ j = 0) → S' k i j m = S k i j m) ∧ ∀ u, u < 16 → S' 7 0 0 u = nI (jx S 0 (if u < c then o u else u))) := by
  have hj := fun u hu => (hX.1 u hu).2
  have hs := fun u hu => (hX.1 u hu).1
  refine EW_4 ?_
  refine (B_4_0).mpr ?_
  refine wloopI c (fun m ls T => ls = [some (vR 19 0 0), some (vR 7 0 0), some (vI (nI m))] ∧ (∀ k i j n, k ≠ 25 → T k i j n = S k i j n) ∧ ∀ u, u < m → T 25 0 0 u = nI (jx S 0 (o u))) ?_ ?_ ⟨rfl, fun _ _ _ _ _ => rfl, fun u h => absurd h (Nat.not_lt_zero _)⟩
  · rintro ls T ⟨rfl, hf, hT⟩
    refine (B_4_2).mpr ?_
    rw [hf _ _ _ _ (by decide), h0]
    rw [if_pos (Int32.le_refl _)]
    refine (B_4_30).mpr ?_
    refine wloopI c (fun m ls U => ls = [some (vR 19 0 0), some (vR 7 0 0), some (vI (nI m))] ∧ (∀ k i j n, k ≠ 25 → ¬ (k = 7 ∧ i = 0 ∧ j = 0) → U k i j n = S k i j n) ∧ (∀ u, u < c → U 25 0 0 u = nI (jx S 0 (o u))) ∧ ∀ u, u < 16 → U 7 0 0 u = nI (jx S 0 (if u < m then o u else u))) ?_ ?_ ⟨rfl, fun k i j n h _ => hf k i j n h, hT, fun u hu => by rw [if_neg (Nat.not_lt_zero _), hf _ _ _ _ (by decide)]; exact hs u hu⟩
    · rintro ls U ⟨rfl, hfU, h25, hU⟩
      refine (B_4_32).mpr ?_
      rw [hfU _ _ _ _ (by decide) (by decide), h0]
      rw [if_pos (Int32.le_refl _)]
      refine (B_4_55).mpr ?_
      exact ⟨rfl, hfU, hU⟩
    · rintro m hm ls U ⟨rfl, hfU, h25, hU⟩ hn
      refine (B_4_32).mpr ?_
      rw [hfU _ _ _ _ (by decide) (by decide), h0]
      rw [if_neg (by rw [qI_le (by omega) (by omega)]; omega)]
      have hjm := hj (o m) (by have := (ho m hm).2; omega)
      refine (B_4_40 (n1_ := m) (m2_ := jx S 0 (o m)) (n3_ := m) (y4_ := nI (jx S 0 (o m))) rfl (by omega) (by rw [h25 m hm]; exact eR25 hjm) rfl (by omega) (eC7 hjm) (bk7 (by omega)) (bk8 (by omega) hjm)).mpr ?_
      rw [qI_succ]
      refine hn _ _ ⟨rfl, fun k i j n h1 h2 => ?_, fun u hu => by rw [sUp_kind (by decide)]; exact h25 u hu, fun u hu => ?_⟩
      · rw [← hfU k i j n h1 h2]
        unfold sUp
        rw [if_neg (fun q => h2 ⟨q.1, q.2.1, q.2.2.1⟩)]
      · by_cases g : u = m
        · subst g; rw [sUp_same, if_pos (by omega)]
        · rw [sUp_slot g, hU u hu]
          congr 2
          by_cases g2 : u < m
          · rw [if_pos g2, if_pos (by omega)]
          · rw [if_neg g2, if_neg (by omega)]
  · rintro m hm ls T ⟨rfl, hf, hT⟩ hn
    refine (B_4_2).mpr ?_
    rw [hf _ _ _ _ (by decide), h0]
    rw [if_neg (by rw [qI_le (by omega) (by omega)]; omega)]
    obtain ⟨o1, o2⟩ := ho m hm
    have hjm := hj (o m) (by omega)
    refine (B_4_10 (n1_ := m) (n2_ := o m) (m3_ := jx S 0 (o m)) (n4_ := m) (y5_ := nI (jx S 0 (o m))) rfl (by omega) (by rw [hf _ _ _ _ (by decide)]; exact o1) (by omega) (by rw [hf _ _ _ _ (by decide)]; rfl) (bk7 (by omega)) rfl (by omega) (eC25 hjm) (bk8 (by omega) hjm)).mpr ?_
    rw [qI_succ]
    refine hn _ _ ⟨rfl, fun k i j n h => by rw [sUp_kind h]; exact hf k i j n h, fun u hu => ?_⟩
    by_cases g : u = m
    · subst g; exact sUp_same
    · rw [sUp_slot g]; exact hT u (by omega)
theorem k_putInOrder (hP : PR S 0 N) (hw : WF N) (hd : 10 ≤ d) {x1 : Int32} : Wm d 48 [vR 1 0 0, vI x1, vR 19 0 0] S (fun q S' => q = some (vI (aArr N x1).1) ∧ fKs 0 S S' ∧ PR S' 0 (aArr N x1).2) := by
  have c16 := hw.1.2.2.2.2.2
  have h6 := P_6 hP hw
  obtain ⟨oo1, oo2⟩ := aArrO_ok N x1
  refine EW_48 ?_
  unfold aArr
  have hwf := WF_nPerm hw oo1 oo2
  have hin : ∀ x : Int32, inR x 0 1 = true ↔ x = 0 ∨ x = 1 := by
    intro x
    constructor
    · intro h
      obtain ⟨n, rfl, -, hn⟩ := inR_n (a := 0) (b := 1) h (by omega) (by omega)
      rcases (show n = 0 ∨ n = 1 by omega) with rfl | rfl
      · exact Or.inl rfl
      · exact Or.inr rfl
    · rintro (rfl | rfl) <;> decide
  refine (B_48_0).mpr ?_
  refine ic (fun g0 => ?_) (fun g0 => ?_)
  · subst g0
    rw [if_pos (by decide), if_neg (fun q => absurd q.1 (by decide))]
    refine (B_48_12).mpr ?_
    rw [if_pos (rfl)]
    have e0 : aArrO N 0 = nrO N := if_pos rfl
    rw [e0] at hwf ⊢
    obtain ⟨q, S1, e1, rfl, f1, p1⟩ := Wm_ex (k_chainRuns (d := d - 1) (i := 0) (by omega) hP hw (by omega))
    refine (B_48_16 (by omega) e1 (bk1 (by omega)) (k_sumOfSetups (by omega) p1 hwf (by omega))).mpr ?_
    exact ⟨rfl, fK_Ks f1, p1⟩
  refine (B_48_4).mpr ?_
  rotate_left
  refine ic (fun g1 => ?_) (fun g1 => ?_)
  · subst g1
    rw [if_pos (by decide)]
    refine (B_48_12).mpr ?_
    rw [if_neg (by decide)]
    refine (B_48_25 (bk1 (by omega))).mpr ?_
    rw [h6]
    rotate_left
    refine icT (qI_le (b := 7) (by omega) (by omega)) (fun g7 => ?_) (fun g7 => ?_)
    · rw [if_neg (fun q => q.2 (by rw [hw.1.2.2.2.2.1, show (7 : Int32) = nI 7 from rfl, qI_le (by omega) (by omega)]; exact g7))]
      have e0 : aArrO N 1 = arO N := if_neg (by decide)
      rw [e0] at hwf oo1 oo2 ⊢
      obtain ⟨q, S1, e1, rfl, f1, t1⟩ := Wm_ex (k_look (d := d - 1) (i := 0) (by omega) hP hw g7 (by omega))
      obtain ⟨q, S2, e2, rfl, f2, b2⟩ := Wm_ex (k_seekLeast (d := d - 1) hw g7 t1 (by omega))
      have t2 := tB_f t1 f2
      have f12 := fAr_trans f1 (fQ_Ar f2)
      have hP2 := fAr_PR f12 hP
      obtain ⟨q, S3, e3, rfl, f3, h3⟩ := Wm_ex (k_reorder (d := d - 1) (PR_IX hP2) g7 t2.1 (o := arO N) (fun j hj => ⟨b2 j hj, oo1 j hj⟩))
      have hP3 : PR S3 0 (nPerm N (arO N)) := by
        refine PR_eq (S := fun k i j m => if k = 25 then S2 k i j m else S3 k i j m) (fun k j m _ h2 => (if_neg (show ¬ k = 25 by omega)).symm) ?_
        refine PR_perm (S' := fun k i j m => if k = 25 then S2 k i j m else S3 k i j m) hw hP2 (fun u => if u < cU N then arO N u else u) (fun u hu => ?_) (fun u v hu hv h => ?_) h3 (fun k j m hk _ => ?_) (c := cU N) c16 ?_ (by rw [nPerm_lo (by omega)]; exact hw.1.2.2.2.2.1) (fun k hk _ => nPerm_lo hk) (fun u hu => by show (if u < cU N then arO N u else u) < cU N; rw [if_pos hu]; exact oo1 u hu) (fun u m hu hm => by show nPerm N (arO N) _ = N (90 + 12 * (if u < cU N then arO N u else u) + m); rw [if_pos hu]; exact nPerm_run hu hm)
        · show (if u < cU N then arO N u else u) < 16
          split
          · rename_i hh; have := oo1 u hh; omega
          · exact hu
        · have h' : (if u < cU N then arO N u else u) = (if v < cU N then arO N v else v) := h
          by_cases gu : u < cU N
          · rw [if_pos gu] at h'
            have := oo1 u gu
            by_cases gv : v < cU N
            · rw [if_pos gv] at h'; exact oo2 u v gu gv h'
            · rw [if_neg gv] at h'; omega
          · rw [if_neg gu] at h'
            by_cases gv : v < cU N
            · rw [if_pos gv] at h'; have := oo1 v gv; omega
            · rw [if_neg gv] at h'; exact h'
        · show (if k = 25 then S2 k 0 j m else S3 k 0 j m) = S2 k 0 j m
          by_cases gk : k = 25
          · rw [if_pos gk]
          · rw [if_neg gk]
            exact f3 k 0 j m gk (fun q => hk q.1)
        · show S3 1 0 0 6 = _
          rw [f3 1 0 0 6 (by decide) (by decide)]; exact P_6 hP2 hw
      refine (B_48_37 (by omega) e1 e2 (bk1 (by omega)) e3 (k_sumOfSetups (by omega) hP3 hwf (by omega))).mpr ?_
      refine ⟨rfl, fKs_trans (fAr_Ks f12) (fun k i j m q1 q2 => f3 k i j m (by omega) (fun q => q1 ⟨by omega, by omega, q.2.1⟩)), hP3⟩
    refine (B_48_34).mpr ?_
    rw [if_pos ⟨rfl, by rw [hw.1.2.2.2.2.1, show (7 : Int32) = nI 7 from rfl, qI_le (by omega) (by omega)]; exact g7⟩]
    exact ⟨rfl, fKs_refl _ _, hP⟩
  refine (B_48_9).mpr ?_
  rw [if_neg (fun q => by rcases (hin x1).mp q with q | q; exact g0 q; exact g1 q)]
  exact ⟨rfl, fKs_refl _ _, hP⟩
theorem K_arrange (hd : 11 ≤ d) {c : Nat} {P : Nat → NV} (hC : CS S N c P) {x1 : Int32} : Wm d 118 [vR 0 0 0, vI x1] S (fun q S' => q = some (vI (aArr N x1).1) ∧ Dc S S' N c P (aArr N x1).1 (aArr N x1).2) := by
  refine EW_118 ?_
  obtain ⟨S1, e1, f1, p1, c1⟩ := k_earlier (d := d - 1) (by omega) hC (a := 1) (Or.inl rfl)
  have hw := CS_W hC
  obtain ⟨q, S2, e2, rfl, f2, p2⟩ := Wm_ex (k_putInOrder (d := d - 1) (CS_P c1) hw (by omega) (x1 := x1))
  obtain ⟨q, S3, e3, rfl, f3, h3⟩ := Wm_ex (K_settled (d := d - 1) (by omega) (CS_op c1 f2 p2 (WF_aArr hw x1)) (fO_PR f2 (by omega) p1) hw (r := (aArr N x1).1))
  refine (B_118_0 (by omega) e1 e2 e3).mpr ?_
  exact ⟨rfl, fC_trans (fC_trans (fK_C (by omega) f1) (fO_C f2)) f3, h3⟩
end M18f
