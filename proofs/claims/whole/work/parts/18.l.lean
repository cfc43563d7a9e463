/-! THE CLASS: append, written, write, reason, count; run -/
section M18l
variable {d : Nat} {S : bSt} {N : NV} {i : Nat} {tx : Nat → Nat} {e : Nat}
/-- what a call may change at all -/
def fCt (S S' : bSt) : Prop := ∀ k i j m, ¬ (1 ≤ k ∧ k ≤ 10 ∧ i ≠ 3) → ¬ (12 ≤ k ∧ k ≤ 26) → ¬ (28 ≤ k ∧ k ≤ 31) → ¬ (k = 0 ∧ (m = 10 ∨ m = 11 ∨ m = 13 ∨ m = 14)) → S' k i j m = S k i j m
theorem fCt_refl (S : bSt) : fCt S S := fun _ _ _ _ _ _ _ _ => rfl
theorem fCt_trans {S T U : bSt} (h : fCt S T) (g : fCt T U) : fCt S U := fun k i j m h1 h2 h3 h4 => (g k i j m h1 h2 h3 h4).trans (h k i j m h1 h2 h3 h4)
theorem fC_Ct {S T : bSt} (h : fC S T) : fCt S T := fun k i j m h1 h2 _ h4 => h k i j m h1 (by omega) (by omega)
theorem fRd_Ct {S T : bSt} (h : fRd S T) : fCt S T := fun k i j m _ h2 h3 _ => h k i j m (by omega) (by omega)
theorem CS_eq {S' : bSt} {c : Nat} {P : Nat → NV} (hf : ∀ k i j m, (1 ≤ k ∧ k ≤ 10) ∨ (k = 0 ∧ (m = 10 ∨ m = 11)) → S' k i j m = S k i j m) (h : CS S N c P) : CS S' N c P := by
  obtain ⟨f, f8, h10, h11, c8, h0, hX, hp, hw⟩ := h
  have PT : ∀ {i : Nat} {M : NV}, PR S i M → PR S' i M := fun h => PR_eq (fun k j m h1 h2 => hf k _ j m (Or.inl ⟨h1, h2⟩)) h
  exact ⟨f, f8, by rw [hf _ _ _ _ (by omega)]; exact h10, by rw [hf _ _ _ _ (by omega)]; exact h11, c8, PT h0, fun i hi => IX_eq (fun m => hf 7 i 0 m (by omega)) (hX i hi), fun p hpc => ⟨PT (hp p hpc).1, (hp p hpc).2⟩, hw⟩
theorem k_add (hd : 1 ≤ d) {t : Nat} (ht : t ≤ 80) (h1 : S 26 0 0 1 = nI t) {x1 : Int32} : Ret d 81 [vR 26 0 0, vI x1] S (some (vI (if inR x1 32 126 = true then (if t = 80 then -3 else nI (t + 1)) else -2))) (if inR x1 32 126 = true ∧ t < 80 then sUp (sUp S 27 0 0 t x1) 26 0 0 1 (nI (t + 1)) else S) := by
  refine E_81 ?_
  refine (B_81_0 (by omega) k_inRange).mpr ?_
  refine icb (fun g => ?_) (fun g => ?_)
  · refine (B_81_11).mpr ?_
    rw [if_neg (by rw [g]; decide), if_neg (by rw [g]; simp)]
    exact ⟨rfl, rfl⟩
  rw [if_pos g]
  obtain ⟨n, rfl, -, hn⟩ := inR_n (a := 32) (b := 126) g (by decide) (by decide)
  refine (B_81_14).mpr ?_
  rw [h1]
  rotate_left
  refine icT (qI_lt (b := 80) (by omega) (by omega)) (fun g8 => ?_) (fun g8 => ?_)
  · obtain ⟨e1, e2⟩ := ch_ok n (by omega)
    refine (B_81_26 (n1_ := t) h1 g8 (by rw [e1]; exact e2)).mpr ?_
    rw [e1, sUp_same, sUp_kind (by decide), h1, qI_succ, if_neg (by omega), if_pos ⟨g, g8⟩]
    exact ⟨rfl, rfl⟩
  refine (B_81_23).mpr ?_
  rw [if_pos (by omega), if_neg (fun q => g8 q.2)]
  exact ⟨rfl, rfl⟩
theorem K_append (hd : 2 ≤ d) {t : Nat} (ht : t ≤ 80) (h1 : S 26 0 0 1 = nI t) {x1 : Int32} : Ret d 103 [vR 0 0 0, vI x1] S (some (vI (if inR x1 32 126 = true then (if t = 80 then -3 else nI (t + 1)) else -2))) (if inR x1 32 126 = true ∧ t < 80 then sUp (sUp S 27 0 0 t x1) 26 0 0 1 (nI (t + 1)) else S) := by
  refine E_103 ?_
  refine (B_103_0 (by omega) (k_add (by omega) ht h1)).mpr ?_
  exact ⟨rfl, rfl⟩
def WtC (l : List Int32) (S : bSt) : Prop := S 0 0 0 9 = nI l.length ∧ ∀ m, m < l.length → S 32 0 0 m = l.getD m 0
theorem K_written {x1 : Int32} {l : List Int32} (h : WtC l S) (hl : l.length ≤ 31) : Ret d 117 [vR 0 0 0, vI x1] S (some (vI (aWrn l x1))) S := by
  refine E_117 ?_
  unfold aWrn
  have bad : inR x1 0 (nI l.length - 1) = false → Wp d 117 21 [some (vR 0 0 0), some (vI x1)] [] S (fun r1 S1 => r1 = some (vI (if inR x1 0 (nI l.length - 1) = true then l.getD x1.toNatClampNeg 0 else -1)) ∧ S1 = S) := by
    intro hb
    refine (B_117_21).mpr ?_
    refine (B_117_22).mpr ?_
    rw [if_neg (by rw [hb]; decide)]
    exact ⟨rfl, rfl⟩
  refine (B_117_0).mpr ?_
  refine ic (fun g1 => ?_) (fun g1 => ?_)
  · exact bad (by unfold inR; rw [decide_eq_false (Int32.not_le.mpr g1), Bool.false_and])
  refine (B_117_4).mpr ?_
  rw [h.1]
  refine ic (fun g2 => ?_) (fun g2 => ?_)
  · exact bad (by unfold inR; rw [decide_eq_false (fun q => absurd ((lt_inR (by omega)).mpr q) (Int32.not_lt.mpr g2) : ¬ x1 ≤ nI l.length - 1), Bool.and_false])
  have hin : inR x1 0 (nI l.length - 1) = true := by
    unfold inR
    rw [decide_eq_true (Int32.not_lt.mp g1), decide_eq_true ((lt_inR (by omega)).mp (Int32.not_le.mp g2))]
    rfl
  rw [if_pos hin]
  obtain ⟨n, rfl, hn⟩ := ix_of (by omega) hin
  refine (B_117_12 (n1_ := n) rfl (by omega)).mpr ?_
  refine (B_117_22).mpr ?_
  rw [h.2 n hn, nI_clamp (by omega)]
  exact ⟨rfl, rfl⟩
def fWC (S S' : bSt) : Prop := ∀ k i j m, k ≠ 32 → ¬ (k = 0 ∧ m = 9) → S' k i j m = S k i j m
theorem fWC_refl (S : bSt) : fWC S S := fun _ _ _ _ _ _ => rfl
theorem fWC_trans {S T U : bSt} (h : fWC S T) (g : fWC T U) : fWC S U := fun k i j m h1 h2 => (g k i j m h1 h2).trans (h k i j m h1 h2)
theorem WtC_app {l : List Int32} {x : Int32} {T : bSt} (h : WtC l T) : WtC (l ++ [x]) (sUp (sUp T 32 0 0 l.length x) 0 0 0 9 (nI (l.length + 1))) := by
  refine ⟨by rw [sUp_same, List.length_append]; rfl, fun m hm => ?_⟩
  rw [sUp_kind (by decide)]
  rw [List.length_append] at hm
  rcases Nat.lt_or_ge m l.length with g | g
  · rw [sUp_slot (by omega), h.2 m g, List.getD_eq_getElem?_getD, List.getD_eq_getElem?_getD, List.getElem?_append_left g]
  · have : m = l.length := by simp at hm; omega
    subst this
    rw [sUp_same, List.getD_eq_getElem?_getD, List.getElem?_append_right (Nat.le_refl _), Nat.sub_self]
    rfl
theorem k_writeSign {l : List Int32} {n : Nat} (hn : n < 127) (hl : l.length < 31) (h : WtC l S) : Wm d 132 [vR 0 0 0, vI (nI n)] S (fun q S' => q = none ∧ fWC S S' ∧ WtC (l ++ [nI n]) S') := by
  refine EW_132 ?_
  obtain ⟨e1, e2⟩ := ch_ok n hn
  refine (B_132_0).mpr ?_
  rw [h.1]
  rw [if_neg (by rw [show (31 : Int32) = nI 31 from rfl, qI_le (by omega) (by omega)]; omega)]
  refine (B_132_9 (n1_ := l.length) h.1 hl e2).mpr ?_
  refine (B_132_29).mpr ?_
  rw [sUp_kind (by decide), h.1, qI_succ]
  refine ⟨rfl, fun k i j m h1 h2 => ?_, WtC_app h⟩
  unfold sUp
  rw [if_neg (fun q => h2 ⟨q.1, q.2.2.2⟩), if_neg (fun q => h1 q.1)]
theorem k_writeStrips (hd : 1 ≤ d) {l : List Int32} {s o : Nat} (hs : s ≤ 8) (ho : o < 8) (hl : l.length ≤ 27) (h : WtC l S) : Wm d 131 [vR 0 0 0, vI (nI s), vI (nI o)] S (fun q S' => q = none ∧ fWC S S' ∧ WtC (l ++ (if l = [] then [] else [43]) ++ [nI (48 + s), nI 120, nI (48 + o)]) S') := by
  refine EW_131 ?_
  have ec : ∀ z, z < 79 → (((48 : Int32) + nI z).toUInt32 % 65536).toInt32 = nI (48 + z) := fun z hz => by
    rw [show (48 : Int32) = nI 48 from rfl, ← qI_add]
    exact (ch_ok (48 + z) (by omega)).1
  have tail : ∀ (T : bSt) (l' : List Int32), fWC S T → WtC l' T → l'.length ≤ 28 → Wp d 131 13 [some (vR 0 0 0), some (vI (nI s)), some (vI (nI o))] [] T (fun q S' => q = none ∧ fWC S S' ∧ WtC (l' ++ [nI (48 + s), nI 120, nI (48 + o)]) S') := by
    intro T l' hf hT hl'
    obtain ⟨q, T1, e1, rfl, f1, w1⟩ := Wm_ex (k_writeSign (d := d - 1) (n := 48 + s) (by omega) (by omega) hT)
    obtain ⟨q, T2, e2, rfl, f2, w2⟩ := Wm_ex (k_writeSign (d := d - 1) (n := 120) (by omega) (by simp; omega) w1)
    obtain ⟨q, T3, e3, rfl, f3, w3⟩ := Wm_ex (k_writeSign (d := d - 1) (n := 48 + o) (by omega) (by simp; omega) w2)
    refine (B_131_13 (by omega) (by rw [ec s (by omega)]; exact e1) e2 (by rw [ec o (by omega)]; exact e3)).mpr ?_
    refine ⟨rfl, fWC_trans (fWC_trans (fWC_trans hf f1) f2) f3, ?_⟩
    simp only [List.append_assoc, List.cons_append, List.nil_append] at w3
    exact w3
  refine (B_131_0).mpr ?_
  rw [h.1]
  refine icT (qI_le (b := 0) (by omega) (by omega)) (fun g => ?_) (fun g => ?_)
  · have hnil : l = [] := List.length_eq_zero_iff.mp (by omega)
    subst hnil
    exact tail S [] (fWC_refl S) h (by simp)
  have hne : l ≠ [] := by rintro rfl; exact g (Nat.le_refl _)
  obtain ⟨q, T1, e1, rfl, f1, w1⟩ := Wm_ex (k_writeSign (d := d - 1) (n := 43) (by omega) (by omega) h)
  refine (B_131_7 (by omega) e1).mpr ?_
  rw [if_neg hne]
  exact tail T1 _ f1 w1 (by simp; omega)
theorem K_write (hP : PR S 0 N) (hw : WF N) (hd : 2 ≤ d) {x1 : Int32} {l0 : List Int32} (h0 : WtC l0 S) : Wm d 116 [vR 0 0 0, vI x1] S (fun q S' => q = some (vI (aWrtA N x1)) ∧ fWC S S' ∧ WtC (aWrtL N x1 l0) S') := by
  refine EW_116 ?_
  refine (B_116_0 (by omega) (k_hasRun (by omega) hP hw)).mpr ?_
  unfold aWrtA aWrtL
  refine icb (fun g => ?_) (fun g => ?_)
  · refine (B_116_11).mpr ?_
    rw [if_neg (by rw [g]; decide), if_neg (by rw [g]; decide)]
    exact ⟨rfl, fWC_refl S, h0⟩
  obtain ⟨u, rfl, hu, h16⟩ := vU_ix hw.1 g
  rw [if_pos g, if_pos g, nI_clamp (by omega)]
  obtain ⟨-, -, -, -, -, -, -, -, -, hs, -⟩ := wf_run hw hu
  have hj := P_j hP h16
  have hR := P_u hP hu
  refine (B_116_13 (n1_ := u) (m2_ := jx S 0 u) rfl h16 rfl (bk8 (by omega) hj)).mpr ?_
  refine wloopI 8 (fun m ls T => ls = [some (vR 0 0 0), some (vI (nI u)), some (vR 9 0 (jx S 0 u)), some (vI (nI m))] ∧ fWC S T ∧ WtC (wrL N u m) T) ?_ ?_ ⟨rfl, ?_, sUp_same, fun m hm => absurd hm (Nat.not_lt_zero _)⟩
  · rintro ls T ⟨rfl, hf, hT⟩
    refine (B_116_33).mpr ?_
    rw [if_pos (by decide)]
    refine (B_116_59).mpr ?_
    exact ⟨by rw [hT.1], hf, hT⟩
  · rintro m hm ls T ⟨rfl, hf, hT⟩ hn
    refine (B_116_33).mpr ?_
    rw [if_neg (by rw [show (8 : Int32) = nI 8 from rfl, qI_le (by omega) (by omega)]; omega)]
    have e9 : T 9 0 (jx S 0 u) m = nI (nv N (94 + 12 * u + m)) := by
      rw [hf _ _ _ _ (by decide) (by omega), hR.2.2.2.2.2.2.1 m hm]
      exact (hs m hm).1
    have h8 := (hs m hm).2.1
    have hlen := wrL_len (N := N) (u := u) m
    have hlen2 : (wrL N u m).length ≤ 27 := by
      rcases hlen with q | q
      · rw [q]; simp
      · omega
    refine (B_116_39 (n1_ := m) rfl hm (bk9 (by omega) hj)).mpr ?_
    rw [e9]
    refine ic (fun g1 => ?_) (fun g1 => ?_)
    · refine (B_116_53).mpr ?_
      rw [qI_succ]
      refine hn _ _ ⟨rfl, hf, ?_⟩
      unfold wrL
      rw [if_neg (by rw [(hs m hm).1]; exact Int32.not_lt.mpr g1)]
      exact hT
    have g1' := Int32.not_le.mp g1
    obtain ⟨q, T1, r1, rfl, f1, w1⟩ := Wm_ex (k_writeStrips (d := d - 1) (by omega) (s := nv N (94 + 12 * u + m)) (o := m) h8 hm hlen2 hT)
    refine (B_116_45 (n1_ := m) (S1_ := T1) (by omega) rfl hm (bk9 (by omega) hj) (by rw [e9]; exact r1)).mpr ?_
    refine (B_116_53).mpr ?_
    rw [qI_succ]
    refine hn _ _ ⟨rfl, fWC_trans hf f1, ?_⟩
    have hres : wrL N u (m + 1) = wrL N u m ++ (if wrL N u m = [] then [] else [43]) ++ [nI (48 + nv N (94 + 12 * u + m)), nI 120, nI (48 + m)] := by
      rw [wrL, if_pos (by rw [(hs m hm).1]; exact g1'), (hs m hm).1, qI_add, qI_add]
      rfl
    rw [hres]
    exact w1
  · intro k i j m h1 h2
    unfold sUp
    rw [if_neg (fun q => h2 ⟨q.1, q.2.2.2⟩)]
theorem in01 {x : Int32} : inR x 0 1 = true ↔ x = 0 ∨ x = 1 := by
  constructor
  · intro h
    obtain ⟨n, rfl, -, hn⟩ := inR_n (a := 0) (b := 1) h (by omega) (by omega)
    rcases (show n = 0 ∨ n = 1 by omega) with rfl | rfl
    · exact Or.inl rfl
    · exact Or.inr rfl
  · rintro (rfl | rfl) <;> decide
theorem K_reason {x1 : Int32} : Ret d 125 [vR 0 0 0, vI x1] S (some (vI (if inR x1 0 1 = true then (if x1 = 0 then S 0 0 0 13 else S 0 0 0 14) else -2))) S := by
  refine E_125 ?_
  refine (B_125_0).mpr ?_
  refine ic (fun g0 => ?_) (fun g0 => ?_)
  · subst g0
    refine (B_125_12).mpr ?_
    rw [if_pos (rfl)]
    refine (B_125_16).mpr ?_
    refine (B_125_27).mpr ?_
    exact ⟨rfl, rfl⟩
  refine (B_125_4).mpr ?_
  refine ic (fun g1 => ?_) (fun g1 => ?_)
  · subst g1
    refine (B_125_12).mpr ?_
    rw [if_neg (by decide)]
    refine (B_125_23).mpr ?_
    refine (B_125_27).mpr ?_
    exact ⟨rfl, rfl⟩
  refine (B_125_9).mpr ?_
  rw [if_neg (fun q => by rcases in01.mp q with q | q; exact g0 q; exact g1 q)]
  exact ⟨rfl, rfl⟩
theorem K_count {x1 : Int32} : Ret d 129 [vR 0 0 0, vI x1] S (some (vI (if x1 = 0 then S 0 0 0 11 else if x1 = 1 then S 26 0 0 1 else if x1 = 2 then S 2 0 0 0 else if x1 = 3 then S 2 0 0 1 else if x1 = 4 then S 2 0 0 2 else -2))) S := by
  refine E_129 ?_
  refine (B_129_0).mpr ?_
  rw [X_129_1]
  refine ic (fun q0 => ?_) (fun q0 => ?_)
  · refine (B_129_36).mpr ?_
    rw [if_pos q0]
    exact ⟨rfl, rfl⟩
  rw [if_neg q0]
  refine ic (fun q1 => ?_) (fun q1 => ?_)
  · refine (B_129_41).mpr ?_
    rw [if_pos q1]
    exact ⟨rfl, rfl⟩
  rw [if_neg q1]
  refine ic (fun q2 => ?_) (fun q2 => ?_)
  · refine (B_129_49).mpr ?_
    rw [if_pos q2]
    exact ⟨rfl, rfl⟩
  rw [if_neg q2]
  refine ic (fun q3 => ?_) (fun q3 => ?_)
  · refine (B_129_59).mpr ?_
    rw [if_pos q3]
    exact ⟨rfl, rfl⟩
  rw [if_neg q3]
  refine ic (fun q4 => ?_) (fun q4 => ?_)
  · refine (B_129_69).mpr ?_
    rw [if_pos q4]
    exact ⟨rfl, rfl⟩
  rw [if_neg q4]
  refine (B_129_79).mpr ?_
  exact ⟨rfl, rfl⟩
/-! a pattern that was read has a strip -/
theorem sum_addN {P : Nat → Nat} {o x : Nat} : ∀ n, sumN (addN P o x) n = sumN P n + (if o < n then x else 0) := by
  intro n
  induction n with
  | zero => rfl
  | succ n ih =>
    rw [sumN, sumN, ih]
    unfold addN
    by_cases h1 : n = o
    · rw [if_pos h1, if_neg (by omega), if_pos (by omega)]; omega
    · rw [if_neg h1]
      by_cases h2 : o < n
      · rw [if_pos h2, if_pos (by omega)]; omega
      · rw [if_neg h2, if_neg (by omega)]; omega
theorem rPl_sum : ∀ n (q : Nat × Bool) (P : Nat → Nat), sumN P 10 ≤ sumN (rPl tx e n q P).2 10 := by
  intro n
  induction n with
  | zero => intro q P; exact Nat.le_refl _
  | succ n ih =>
    intro q P
    unfold rPl
    split
    · split
      · exact Nat.le_refl _
      · refine Nat.le_trans ?_ (ih _ _)
        rw [sum_addN]
        omega
    · exact Nat.le_refl _
theorem rP_pos (h : (rP tx e).1.2 = false) : 1 ≤ sumN (rP tx e).2 10 := by
  have hr : (rS tx e (0, false)).1.2 = false := by
    cases hb : (rS tx e (0, false)).1.2 with
    | false => rfl
    | true =>
      unfold rP rPl at h
      rw [if_neg (fun z => by rw [hb] at z; exact absurd z.1 (by decide)), hb] at h
      exact absurd h (by decide)
  have hd0 : isA tx e (0, false) 49 57 = true := by
    cases hb : isA tx e (0, false) 49 57 with
    | true => rfl
    | false =>
      have h1 : dG tx e 49 (0, false) = ((0, true), 0) := by unfold dG; rw [hb, if_neg (by decide)]
      unfold rS at hr
      rw [h1] at hr
      dsimp only at hr
      rw [eX_w, dG_w] at hr
      exact absurd hr (by decide)
  have h49 := (isA_lt hd0).2.2.1
  have hm : (rS tx e (0, false)).2.2 = tx 0 - 48 := by
    have h1 : (dG tx e 49 (0, false)).2 = tx 0 - 48 := by unfold dG; rw [hd0, if_pos rfl]
    have : (rS tx e (0, false)).2.2 = (if (rS tx e (0, false)).1.2 = true then 0 else (dG tx e 49 (0, false)).2) := rfl
    rw [this, hr, if_neg (by decide), h1]
  have ho : (rS tx e (0, false)).2.1 ≤ 9 := dG_le (by omega)
  have := rPl_sum (tx := tx) (e := e) 100 (rS tx e (0, false)).1 (addN (fun _ => 0) (rS tx e (0, false)).2.1 (rS tx e (0, false)).2.2)
  rw [sum_addN, if_pos (by omega), hm] at this
  unfold rP
  rw [hm]
  dsimp only at h49
  omega
theorem rfW_n (hw : WF N) {r : Nat} (hr : r < cR N) {P : Nat → Nat} : ∀ n, n ≤ cO N → subTo (N (55 + 3 * r)) (fun o => nI (P o) * N (7 + 6 * o)) n = nI (nv N (55 + 3 * r)) - nI (sumN (fun m => P m * nv N (7 + 6 * m)) n) := by
  intro n
  induction n with
  | zero =>
    intro _
    show N (55 + 3 * r) = nI (nv N (55 + 3 * r)) - nI 0
    rw [show nI 0 = (0 : Int32) from rfl, Int32.sub_zero]
    exact (hw.2.2.2.1 r hr).2.1.1
  | succ n ih =>
    intro hn
    rw [subTo, ih (by omega), sumN, qI_add, qI_mul, ← (hw.2.2.1 n (by omega)).2.1.1]
    grind
theorem WF_run (hw : WF N) {r : Nat} (hr : r < cR N) {x2 : Int32} (hl : 1 ≤ x2) {P : Nat → Nat} (hPb : ∀ o, P o < 10000) (hs1 : 1 ≤ sumN P 10) (h0 : aRefu N r x2 P = 0) : WF (nRun N (nI r) x2 (fun o => nI (P o))) := by
  have c8 := hw.1.2.1
  have c16 := hw.1.2.2.2.2.2
  obtain ⟨k0, k1, k2⟩ := hw.2.1.1
  obtain ⟨e0, -, e2⟩ := hw.2.1.2.1
  have hW := (hw.2.2.2.1 r hr).2.1.2.2
  unfold aRefu at h0
  by_cases a1 : N 5 = 16
  · rw [if_pos a1] at h0; exact absurd h0 (by decide)
  rw [if_neg a1] at h0
  by_cases a2 : rfT N P 10 = false
  · rw [if_pos a2] at h0; exact absurd h0 (by decide)
  rw [if_neg a2] at h0
  by_cases a3 : rfU N r P 10 = false
  · rw [if_pos a3] at h0; exact absurd h0 (by decide)
  rw [if_neg a3] at h0
  by_cases a4 : rfW N r P < 2 * N 1
  · rw [if_pos a4] at h0; exact absurd h0 (by decide)
  rw [if_neg a4] at h0
  by_cases a5 : N 0 < aKn (nI (sumN P 10)) (rfW N r P)
  · rw [if_pos a5] at h0; exact absurd h0 (by decide)
  rw [if_neg a5] at h0
  by_cases a6 : aLeft N r < x2
  · rw [if_pos a6] at h0; exact absurd h0 (by decide)
  clear h0
  have hlt : cU N < 16 := by
    rcases Nat.lt_or_ge (cU N) 16 with q | q
    · exact q
    · exact absurd (by rw [hw.1.2.2.2.2.1, show cU N = 16 by omega]; rfl) a1
  have hT := (rfT_iff 10).mp (by simpa using a2)
  have hz : ∀ m, cO N ≤ m → m < 10 → P m = 0 := by
    intro m h1 h2
    rcases Nat.eq_zero_or_pos (P m) with q | q
    · exact q
    · have := hT m h2 q; omega
  have s10 : sumN P 10 = sumN P 8 := by
    show sumN P 8 + P 8 + P 9 = _
    rw [hz 8 c8 (by omega), hz 9 (by omega) (by omega)]
    omega
  -- the widths
  have hbig : sumN (fun m => P m * nv N (7 + 6 * m)) (cO N) ≤ cO N * 1500000 := sumN_le _ (fun m hm => by
    have h1 := hPb m
    have h2 := (hw.2.2.1 m hm).2.1.2.2
    have : P m * nv N (7 + 6 * m) ≤ 10000 * 150 := Nat.mul_le_mul (by omega) h2
    omega)
  have hbig2 : cO N * 1500000 ≤ 8 * 1500000 := Nat.mul_le_mul_right _ c8
  have eW := rfW_n hw hr (P := P) (cO N) (Nat.le_refl _)
  have eW' : rfW N r P = nI (nv N (55 + 3 * r)) - nI (sumN (fun m => P m * nv N (7 + 6 * m)) (cO N)) := eW
  have hsum8 : sumN (fun m => P m * nv N (7 + 6 * m)) 8 = sumN (fun m => P m * nv N (7 + 6 * m)) (cO N) := by
    have : ∀ z, cO N + z ≤ 8 → sumN (fun m => P m * nv N (7 + 6 * m)) (cO N + z) = sumN (fun m => P m * nv N (7 + 6 * m)) (cO N) := by
      intro z
      induction z with
      | zero => intro _; rfl
      | succ z ih =>
        intro hz'
        rw [show cO N + (z + 1) = cO N + z + 1 by omega, sumN, ih (by omega), hz (cO N + z) (by omega) (by omega), Nat.zero_mul, Nat.add_zero]
    have := this (8 - cO N) (by omega)
    rw [show cO N + (8 - cO N) = 8 by omega] at this
    exact this
  generalize hA : sumN (fun m => P m * nv N (7 + 6 * m)) (cO N) = A at *
  have hle : A + 2 * nv N 1 ≤ nv N (55 + 3 * r) := by
    have h1 := Int32.not_lt.mp a4
    rw [eW', e0, show (2 : Int32) = nI 2 from rfl, ← qI_mul, Int32.le_iff_toInt_le, Int32.toInt_sub, nI_toInt (by omega), nI_toInt (by omega), nI_toInt (by omega), bm32 (by omega) (by omega)] at h1
    omega
  rw [qI_sub (by omega)] at eW'
  have hkn := Int32.not_lt.mp a5
  have hsb : sumN P 10 ≤ 100000 := by
    have := sumN_le (f := P) (b := 10000) 10 (fun m _ => by have := hPb m; omega)
    omega
  rw [eW', aKn_n hs1 (by omega), k0, qI_le (by split <;> omega) (by omega)] at hkn
  have hs8 : sumN P 10 ≤ 8 := by split at hkn <;> omega
  -- the length
  obtain ⟨y, y1, y2, y3⟩ := aLeft_le hw hr (by
    have h1 := Int32.not_lt.mp a6
    rw [Int32.le_iff_toInt_le] at h1 hl
    rw [Int32.lt_iff_toInt_lt, show (0 : Int32).toInt = 0 from by decide]
    rw [show (1 : Int32).toInt = 1 from by decide] at hl
    omega)
  have hx0 : (0 : Int32) ≤ x2 := Int32.le_trans (by decide) hl
  have ex := nn_of hx0
  have hxl : x2.toNatClampNeg < 2 ^ 31 := by
    have e2 : x2.toNatClampNeg = x2.toInt.toNat := rfl
    have := x2.toInt_lt
    omega
  have hx1 : 1 ≤ x2.toNatClampNeg := by
    rw [ex, show (1 : Int32) = nI 1 from rfl, qI_le (by omega) hxl] at hl
    exact hl
  have hx2 : x2.toNatClampNeg ≤ 999 := by
    have h1 := Int32.not_lt.mp a6
    rw [y1, ex, qI_le hxl (by omega)] at h1
    omega
  rw [ex]
  refine WF_nRun hw hlt hr ⟨hx1, hx2⟩ (g := P) (fun m _ => rfl) (fun m hm => ⟨?_, fun h => hz m h (by omega)⟩) ⟨by omega, by omega⟩ (by rw [hsum8]; exact hle) (fun q => ?_)
  · have := sumN_ge (g := P) (i := m) 10 (by omega)
    omega
  · rw [hsum8] at q
    rw [if_neg (by omega)] at hkn
    omega
/-- what a reading call of the class comes to -/
def DrC (S S' : bSt) (N : NV) (c : Nat) (P : Nat → NV) (A : Int32 × NV × Option (Int32 × Int32)) : Prop := fCt S S' ∧ S' 26 0 0 1 = 0 ∧ ((A.1 < 0 ∧ CS S' A.2.1 c P) ∨ (¬ A.1 < 0 ∧ CS S' A.2.1 (min (c + 1) 8) (pushP c P N))) ∧ (match A.2.2 with
  | none => S' 0 0 0 13 = S 0 0 0 13 ∧ S' 0 0 0 14 = S 0 0 0 14
  | some (a, i) => S' 0 0 0 13 = a ∧ S' 0 0 0 14 = i)
theorem k_empty : Ret d 82 [vR 26 0 0] S none (sUp S 26 0 0 1 0) := by
  refine E_82 ?_
  refine (B_82_0).mpr ?_
  exact ⟨rfl, rfl⟩
theorem K_run (hd : 5 ≤ d) {c : Nat} {P : Nat → NV} (hC : CS S N c P) {t : Nat} (hT : cT tx t S) {x1 x2 : Int32} : Wm d 107 [vR 0 0 0, vI x1, vI x2] S (fun q S' => q = some (vI (aRun tx t N x1 x2).1) ∧ DrC S S' N c P (aRun tx t N x1 x2)) := by
  have hw := CS_W hC
  have ht := hT.2.1
  refine EW_107 ?_
  obtain ⟨q, S1, e1, rfl, f1, m1, m2⟩ := Wm_ex (k_readPattern (d := d - 1) (by omega) hT)
  have f2 : ∀ k i j m, k ≠ 28 → ¬ (k = 26 ∧ (m = 1 ∨ m = 2)) → sUp S1 26 0 0 1 0 k i j m = S k i j m := by
    intro k i j m h1 h2
    have : sUp S1 26 0 0 1 0 k i j m = S1 k i j m := by
      unfold sUp
      rw [if_neg (fun q => h2 ⟨q.1, Or.inl q.2.2.2⟩)]
    rw [this, f1 k i j m h1 (fun q => h2 ⟨q.1, Or.inr q.2⟩)]
  have ff : fCt S (sUp S1 26 0 0 1 0) := fun k i j m _ h2 h3 _ => f2 k i j m (by omega) (by omega)
  have hC2 : CS (sUp S1 26 0 0 1 0) N c P := CS_eq (fun k i j m h => f2 k i j m (by omega) (by omega)) hC
  have z1 : sUp S1 26 0 0 1 0 26 0 0 1 = 0 := sUp_same
  have z2 : sUp S1 26 0 0 1 0 26 0 0 2 = nI (rP tx t).1.1 := by rw [sUp_slot (by decide)]; exact m1
  have z3 : ∀ m, sUp S1 26 0 0 1 0 0 0 0 m = S 0 0 0 m := fun m => f2 _ _ _ _ (by decide) (by omega)
  have z28 : (rP tx t).1.2 = false → ∀ o, o < 10 → sUp S1 26 0 0 1 0 28 0 0 o = nI ((rP tx t).2 o) := fun h o ho => by rw [sUp_kind (by decide)]; exact m2 h o ho
  generalize hU : sUp S1 26 0 0 1 0 = U at *
  have hP := CS_P hC2
  refine (B_107_0 (by omega) e1 k_empty (by rw [hU]; exact k_hasRoll (by omega) hP hw)).mpr ?_
  unfold aRun
  refine icb (fun g => ?_) (fun g => ?_)
  · refine (B_107_26).mpr ?_
    rw [if_neg (by rw [g]; decide)]
    exact ⟨rfl, ff, z1, Or.inl ⟨(show (-1 : Int32) < 0 from by decide), hC2⟩, z3 13, z3 14⟩
  rw [if_pos g]
  obtain ⟨r, rfl, hr, hr12⟩ := vR_ix hw.1 g
  rw [nI_clamp (by omega)]
  refine (B_107_28).mpr ?_
  rotate_left
  refine ic (fun g1 => ?_) (fun g1 => ?_)
  · rw [if_pos g1]
    refine (B_107_36).mpr ?_
    have htf : tf (!(rP tx t).1.2) = 0 ↔ (rP tx t).1.2 = true := by cases (rP tx t).1.2 <;> simp [tf]
    refine icT (htf) (fun gw => ?_) (fun gw => ?_)
    · refine (B_107_40).mpr ?_
      rw [if_pos gw, z2]
      refine ⟨rfl, ff, z1, Or.inl ⟨?_, hC2⟩, z3 13, z3 14⟩
      have hq : (rP tx t).1.1 ≤ 10000 := by
        -- the place is one of the text
        have := (cP_run (tx := tx) ht).1
        rw [← this]
        have key : ∀ n p P, p + n = t → (cP tx t n p P).1.1 ≤ t := by
          intro n
          induction n with
          | zero => intro p P h; show p ≤ t; omega
          | succ n ih =>
            intro p P h
            unfold cP
            split
            · exact ih _ _ (by omega)
            · show p ≤ t; omega
        have := key t 0 (fun _ => 0) (by omega)
        omega
      show (-1000 : Int32) - nI (rP tx t).1.1 < 0
      rw [Int32.lt_iff_toInt_lt, Int32.toInt_sub, nI_toInt (by omega), show (-1000 : Int32).toInt = -1000 from by decide, show (0 : Int32).toInt = 0 from by decide, bm32 (by omega) (by omega)]
      omega
    have gw' : (rP tx t).1.2 = false := by simpa using gw
    rw [if_neg (by rw [gw']; decide)]
    have hp28 := z28 gw'
    refine (B_107_52 (by omega) (k_refusal (i := 0) (by omega) hP hw (by omega) hr g1 (fun o => rP_b o) hp28)).mpr ?_
    rotate_left
    refine ic (fun gr => ?_) (fun gr => ?_)
    · rw [if_pos gr]
      have hwf := WF_run hw hr g1 (fun o => rP_b o) (rP_pos gw') gr
      have hlt : cU N < 16 := by
        have h16 := hw.1.2.2.2.2.2
        rcases Nat.lt_or_ge (cU N) 16 with q | q
        · exact q
        · exfalso
          have : N 5 = 16 := by rw [hw.1.2.2.2.2.1, show cU N = 16 by omega]; rfl
          unfold aRefu at gr
          rw [if_pos this] at gr
          exact absurd gr (by decide)
      obtain ⟨S3, e3, f3, p3, c3⟩ := k_earlier (d := d - 1) (by omega) hC2 (a := 1) (Or.inl rfl)
      obtain ⟨q, S4, e4, rfl, f4, p4⟩ := Wm_ex (k_makeRun (d := d - 1) (i := 0) (by omega) (CS_P c3) hw (by omega) hlt (k3 := 28) (Or.inr rfl) hr (x2 := x2) (P := fun o => nI ((rP tx t).2 o)) (fun m hm => by rw [f3 _ _ _ _ (by omega)]; exact hp28 m (by omega)) hwf)
      obtain ⟨q, S5, e5, rfl, f5, h5⟩ := Wm_ex (K_settled (d := d - 1) (by omega) (CS_op c3 (fK_O f4) p4 hwf) (fK_PR f4 (by omega) p3) hw (r := N 5))
      refine (B_107_90 (by omega) e3 e4 e5).mpr ?_
      have f35 := fC_trans (fC_trans (fK_C (by omega) f3) (fK_C (by omega) f4)) f5
      refine ⟨rfl, fCt_trans ff (fC_Ct f35), ?_, h5, ?_, ?_⟩
      · rw [f35 _ _ _ _ (by omega) (by omega) (by omega)]; exact z1
      · rw [f35 _ _ _ _ (by omega) (by omega) (by omega)]; exact z3 13
      · rw [f35 _ _ _ _ (by omega) (by omega) (by omega)]; exact z3 14
    rw [if_neg gr]
    refine (B_107_75).mpr ?_
    refine ⟨rfl, ?_, ?_, Or.inl ⟨(show (-4 : Int32) < 0 from by decide), ?_⟩, ?_, ?_⟩
    · intro k i j m h1 h2 h3 h4
      have : ∀ x y, sUp (sUp U 0 0 0 13 x) 0 0 0 14 y k i j m = U k i j m := by
        intro x y
        unfold sUp
        rw [if_neg (fun q => h4 ⟨q.1, by omega⟩), if_neg (fun q => h4 ⟨q.1, by omega⟩)]
      rw [this]
      exact ff k i j m h1 h2 h3 h4
    · rw [sUp_kind (by decide), sUp_kind (by decide)]; exact z1
    · refine CS_eq (fun k i j m h => ?_) hC2
      unfold sUp
      rw [if_neg (by omega), if_neg (by omega)]
    · rw [sUp_slot (by decide), sUp_same]
    · rw [sUp_same]
  refine (B_107_33).mpr ?_
  rw [if_neg g1]
  exact ⟨rfl, ff, z1, Or.inl ⟨(show (-2 : Int32) < 0 from by decide), hC2⟩, z3 13, z3 14⟩
end M18l
