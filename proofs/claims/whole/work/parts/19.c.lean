/-! THE CLASS: a text of commands; execute -/
section M19c
variable {d : Nat} {S : bSt} {N : NV} {i : Nat} {tx : Nat → Nat} {e : Nat}
theorem leE_e : leE tx e e = e := by
  unfold leE
  rw [Nat.sub_self]
  rfl
theorem cM_end : cM tx e e = ((e, true), 9, (fun _ => 0), false) := by
  refine cM_n ?_
  rw [leE_e]
  have no : ∀ b l, 0 < l → ¬ isW tx e e b l = true := fun b l hl h => by have := isW_len h; omega
  have hl : 0 < wlen 0 ∧ 0 < wlen 1 ∧ 0 < wlen 2 ∧ 0 < wlen 3 ∧ 0 < wlen 4 ∧ 0 < wlen 5 := by decide
  rw [wrd_eq, if_neg (no _ _ hl.1), if_neg (no _ _ hl.2.1), if_neg (no _ _ hl.2.2.1), if_neg (no _ _ hl.2.2.2.1), if_neg (no _ _ hl.2.2.2.2.1), if_neg (no _ _ hl.2.2.2.2.2)]
  omega
def fCm (S S' : bSt) : Prop := ∀ k i j m, k ≠ 30 → k ≠ 31 → ¬ (k = 26 ∧ (m = 2 ∨ m = 5)) → S' k i j m = S k i j m
theorem fCm_refl (S : bSt) : fCm S S := fun _ _ _ _ _ _ _ => rfl
theorem fCm_trans {S T U : bSt} (h : fCm S T) (g : fCm T U) : fCm S U := fun k i j m h1 h2 h3 => (g k i j m h1 h2 h3).trans (h k i j m h1 h2 h3)
theorem fCi_m {i : Nat} {S T : bSt} (h : fCi i S T) : fCm S T := fun k i' j m h1 h2 h3 => h k i' j m (by omega) (by omega)
theorem fCm_26 {m0 : Nat} {S T : bSt} {x : Int32} (hm : m0 = 2 ∨ m0 = 5) (h : fCm S T) : fCm S (sUp T 26 0 0 m0 x) := by
  intro k i j m h1 h2 h3
  rw [← h k i j m h1 h2 h3]
  unfold sUp
  rw [if_neg (fun q => h3 ⟨q.1, by omega⟩)]
theorem cS_26 {p m0 : Nat} {x : Int32} (hm : m0 = 5) (h : cS tx e p S) : cS tx e p (sUp S 26 0 0 m0 x) :=
  ⟨cT_f (fun k i j m hk => by unfold sUp; rw [if_neg (by omega)]) h.1, by rw [sUp_slot (by omega)]; exact h.2.1, h.2.2⟩
theorem mCmd_eq {i : Nat} {c : Cmd} {S' : bSt} (h : ∀ k m, k = 30 ∨ k = 31 → S' k i 0 m = S k i 0 m) (hc : mCmd i c S) : mCmd i c S' :=
  ⟨by rw [h _ _ (Or.inl rfl)]; exact hc.1, hc.2.1, fun m hm => by rw [h _ _ (Or.inr rfl)]; exact hc.2.2.1 m hm, fun hz => by rw [h _ _ (Or.inr rfl)]; exact hc.2.2.2 hz⟩
/-- the commands from k on -/
def hCs (k : Nat) (l : List Cmd) (S : bSt) : Prop := ∀ j c, l[j]? = some c → mCmd (k + j) c S
/-- what the reading of a text comes to -/
def rtQ (S : bSt) (tx : Nat → Nat) (e k : Nat) (A : (Nat × Bool) × List Cmd) (T : bSt) (q : Option bV) (S' : bSt) : Prop := q = some (vI (tf (!A.1.2))) ∧ fCm S S' ∧ S' 26 0 0 2 = nI A.1.1 ∧ (∀ i' k' m, i' < k → k' = 30 ∨ k' = 31 → S' k' i' 0 m = T k' i' 0 m) ∧ (A.1.2 = false → S' 26 0 0 5 = nI (k + A.2.length) ∧ k + A.2.length ≤ 20 ∧ hCs k A.2 S')
theorem k_rt_go (hd : 7 ≤ d) : ∀ (n k p : Nat) (T : bSt), fCm S T → cS tx e p T → T 26 0 0 5 = nI k → 4 * k ≤ p → k ≤ 20 → e + 1 ≤ n + p → Wp d 87 10 [some (vR 26 0 0)] [] T (rtQ S tx e k (pA tx e n p) T) := by
  intro n
  induction n with
  | zero =>
    intro k p T hf hT h5 h4 hk hn
    have := hT.2.2
    omega
  | succ n ih =>
    intro k p T hf hT h5 h4 hk hn
    have he80 := hT.1.2.1
    have hp := hT.2.2
    refine (B_87_10).mpr ?_
    rw [h5]
    refine icT (qI_le (a := 20) (by omega) (by omega)) (fun g => ?_) (fun g => ?_)
    · refine (B_87_84).mpr ?_
      obtain rfl : p = e := by omega
      have er : pA tx p (n + 1) p = ((p, true), []) := by
        show (if _ then _ else _) = _
        rw [cM_end, if_pos rfl]
      rw [er]
      exact ⟨rfl, hf, hT.2.1, fun _ _ _ _ _ => rfl, fun hh => absurd (show true = false from hh) (by decide)⟩
    obtain ⟨q, T1, e1, rfl, f1, s1, c1⟩ := Wm_ex (k_readCommand (d := d - 1) (by omega) hT (i := k) (by omega))
    refine (B_87_19 (n1_ := k) (by omega) h5 (by omega) e1).mpr ?_
    have hadv := cM_adv (tx := tx) (e := e) (p := p)
    have er : pA tx e (n + 1) p = if (cM tx e p).1.2 = true then ((cM tx e p).1, []) else if isA tx e (cM tx e p).1 59 59 = true then ((pA tx e n ((cM tx e p).1.1 + 1)).1, cM tx e p :: (pA tx e n ((cM tx e p).1.1 + 1)).2) else if (cM tx e p).1.1 < e then (((cM tx e p).1.1, true), []) else ((cM tx e p).1, [cM tx e p]) := rfl
    rw [er]
    generalize cM tx e p = C at *
    obtain ⟨⟨cp, cw⟩, cc⟩ := C
    have low : ∀ i' k' m, i' < k → k' = 30 ∨ k' = 31 → T1 k' i' 0 m = T k' i' 0 m := fun i' k' m h1 h2 => f1 k' i' 0 m (by omega) (by omega)
    cases cw with
    | true =>
      rw [if_pos (show tf (!true) = 0 from rfl)]
      refine (B_87_35).mpr ?_
      rw [if_pos rfl]
      exact ⟨rfl, fCm_trans hf (fCi_m f1), s1.2.1, low, fun hh => absurd (show true = false from hh) (by decide)⟩
    | false =>
      have hadv' : p + 3 ≤ cp := hadv rfl
      have hc1 : mCmd k ((cp, false), cc) T1 := c1 rfl
      have s1' : cS tx e cp T1 := s1
      have hcp := s1'.2.2
      have t5 : T1 26 0 0 5 = nI k := by rw [f1 _ _ _ _ (by omega) (by omega)]; exact h5
      rw [if_neg (show ¬ tf (!false) = 0 by decide)]
      refine (B_87_37).mpr ?_
      rw [t5, qI_succ, sUp_slot (show 2 ≠ 5 by decide), sUp_slot (show 1 ≠ 5 by decide), s1'.2.1, s1'.1.1]
      have s2 : cS tx e cp (sUp T1 26 0 0 5 (nI (k + 1))) := cS_26 rfl s1'
      have f2 : fCm S (sUp T1 26 0 0 5 (nI (k + 1))) := fCm_26 (Or.inr rfl) (fCm_trans hf (fCi_m f1))
      have low2 : ∀ i' k' m, i' < k → k' = 30 ∨ k' = 31 → sUp T1 26 0 0 5 (nI (k + 1)) k' i' 0 m = T k' i' 0 m := fun i' k' m h1 h2 => by rw [sUp_kind (by omega)]; exact low i' k' m h1 h2
      have hc2 : mCmd k ((cp, false), cc) (sUp T1 26 0 0 5 (nI (k + 1))) := mCmd_eq (fun k' m h => sUp_kind (by omega)) hc1
      generalize hU : sUp T1 26 0 0 5 (nI (k + 1)) = U at *
      have u5 : U 26 0 0 5 = nI (k + 1) := by rw [← hU]; exact sUp_same
      rw [if_neg (fun z => absurd (show false = true from z) (by decide))]
      refine icT (qI_eq (by omega) (by omega)) (fun ge => ?_) (fun ge => ?_)
      · subst ge
        refine (B_87_58).mpr ?_
        rw [isA_e, if_neg (by decide), if_neg (show ¬ ((cp, false) : Nat × Bool).1 < cp from Nat.lt_irrefl _)]
        refine ⟨rfl, f2, s2.2.1, low2, fun _ => ⟨u5, by show k + 1 ≤ 20; omega, fun j c hj => ?_⟩⟩
        cases j with
        | zero => cases hj; exact hc2
        | succ j => simp at hj
      refine (B_87_60 (by omega) (by rw [show (59 : Int32) = nI 59 from rfl]; exact k_stands s2 (by omega))).mpr ?_
      refine icb (fun gs => ?_) (fun gs => ?_)
      · refine (B_87_69).mpr ?_
        rw [gs, if_neg (by decide), if_pos (show ((cp, false) : Nat × Bool).1 < e from by show cp < e; omega)]
        exact ⟨rfl, f2, s2.2.1, low2, fun hh => absurd (show true = false from hh) (by decide)⟩
      refine (B_87_71).mpr ?_
      rw [gs, if_pos rfl, s2.2.1, qI_succ]
      have hlt := (isA_lt gs).2.1
      dsimp only at hlt
      obtain ⟨m, hm⟩ := ih (k + 1) (cp + 1) (sUp U 26 0 0 2 (nI (cp + 1))) (fCm_26 (Or.inl rfl) f2) (cS_up s2 (by omega)) (by rw [sUp_slot (by decide)]; exact u5) (by omega) (by omega) (by omega)
      refine ⟨m, bwp_mono hm ?_⟩
      rintro q S' ⟨r1, r2, r3, r4, r5⟩
      have low3 : ∀ i' k' m, i' < k + 1 → k' = 30 ∨ k' = 31 → S' k' i' 0 m = U k' i' 0 m := fun i' k' m h1 h2 => by rw [r4 i' k' m h1 h2, sUp_kind (by omega)]
      refine ⟨r1, r2, r3, fun i' k' m h1 h2 => by rw [low3 i' k' m (by omega) h2]; exact low2 i' k' m h1 h2, fun hh => ?_⟩
      obtain ⟨w1, w2, w3⟩ := r5 hh
      refine ⟨?_, ?_, fun j c hj => ?_⟩
      · rw [w1]
        congr 1
        show k + 1 + (pA tx e n (cp + 1)).2.length = k + ((pA tx e n (cp + 1)).2.length + 1)
        omega
      · show k + ((pA tx e n (cp + 1)).2.length + 1) ≤ 20
        omega
      · cases j with
        | zero => cases hj; exact mCmd_eq (fun k' m h => low3 k k' m (by omega) h) hc2
        | succ j =>
          have := w3 j c (by simpa using hj)
          rw [show k + (j + 1) = k + 1 + j by omega]
          exact this
theorem k_readCommands (hd : 7 ≤ d) {t : Nat} (hT : cT tx t S) : Wm d 87 [vR 26 0 0] S (rtQ S tx t 0 (pA tx t (t + 1) 0) S) := by
  refine EW_87 ?_
  refine (B_87_0).mpr ?_
  have s0 : cS tx t 0 (sUp S 26 0 0 2 (nI 0)) := ⟨cT_f (fun k i j m hk => by unfold sUp; rw [if_neg (by omega)]) hT, sUp_same, Nat.zero_le _⟩
  obtain ⟨m, hm⟩ := k_rt_go (S := S) hd (t + 1) 0 0 (sUp (sUp S 26 0 0 2 (nI 0)) 26 0 0 5 (nI 0)) (fCm_26 (Or.inr rfl) (fCm_26 (Or.inl rfl) (fCm_refl S))) (cS_26 rfl s0) sUp_same (by omega) (by omega) (by omega)
  refine ⟨m, bwp_mono hm ?_⟩
  rintro q S' ⟨r1, r2, r3, r4, r5⟩
  exact ⟨r1, r2, r3, fun i' k' m h1 => absurd h1 (Nat.not_lt_zero _), r5⟩
/-- what the commands come to -/
def exA (N : NV) (l : List Cmd) (k n : Nat) (M : NV) : Int32 × NV × Option (Int32 × Int32) := match (exL l k M).1 with
  | none => (nI n, (exL l k M).2, none)
  | some (a, i) => (-4, N, some (a, nI i))
theorem exA_cons {l : List Cmd} {c : Cmd} {k n : Nat} {M : NV} : exA N (c :: l) k n M = if (exC M c).1 < 0 then (-4, N, some ((exC M c).1, nI k)) else exA N l (k + 1) n (exC M c).2 := by
  have e1 : exL (c :: l) k M = if (exC M c).1 < 0 then (some ((exC M c).1, k), (exC M c).2) else exL l (k + 1) (exC M c).2 := rfl
  by_cases g : (exC M c).1 < 0
  · rw [if_pos g]
    unfold exA
    rw [e1, if_pos g]
  · rw [if_neg g]
    unfold exA
    rw [e1, if_neg g]
theorem K_ex_go (hd : 16 ≤ d) {c0 : Nat} {P : Nat → NV} (hwN : WF N) : ∀ (l : List Cmd) (k n : Nat) (T : bSt) (M : NV) (x1 : Int32) (u3 u4 : Option bV), CS T M c0 P → PR T 1 N → hCs k l T → T 26 0 0 5 = nI n → k + l.length = n → n ≤ 20 → fCt S T → T 26 0 0 1 = 0 → T 0 0 0 13 = S 0 0 0 13 → T 0 0 0 14 = S 0 0 0 14 → Wp d 124 44 [some (vR 0 0 0), some (vI x1), some (vI (nI k)), u3, u4] [] T (fun q S' => q = some (vI (exA N l k n M).1) ∧ DrC S S' N c0 P (exA N l k n M)) := by
  intro l
  induction l with
  | nil =>
    intro k n T M x1 u3 u4 hC h1 hcs h5 hl hn hf z1 z13 z14
    have hlen : k = n := hl
    subst hlen
    refine (B_124_44).mpr ?_
    rw [h5]
    rw [if_pos (Int32.le_refl _)]
    obtain ⟨q, S5, e5, rfl, f5, g5⟩ := Wm_ex (K_settled (d := d - 1) (by omega) hC h1 hwN (r := nI k))
    refine (B_124_250 (by omega) (by rw [h5]; exact e5)).mpr ?_
    refine ⟨rfl, fCt_trans hf (fC_Ct f5), ?_, g5, ?_, ?_⟩
    · rw [f5 _ _ _ _ (by omega) (by omega) (by omega)]; exact z1
    · rw [f5 _ _ _ _ (by omega) (by omega) (by omega)]; exact z13
    · rw [f5 _ _ _ _ (by omega) (by omega) (by omega)]; exact z14
  | cons c l ih =>
    intro k n T M x1 u3 u4 hC h1 hcs h5 hl hn hf z1 z13 z14
    have hlen : k + (l.length + 1) = n := hl
    have hw := CS_W hC
    have hP := CS_P hC
    obtain ⟨m1, m2, m3, m4⟩ := hcs 0 c rfl
    rw [Nat.add_zero] at m1 m3 m4
    refine (B_124_44).mpr ?_
    rw [h5]
    rw [if_neg (by rw [qI_le (by omega) (by omega)]; omega)]
    refine (B_124_55 (n1_ := k) rfl (by omega) (bk30 (by omega))).mpr ?_
    rw [X_124_80, m1]
    rw [exA_cons]
    -- behind a command
    have fin : ∀ (T' : bSt) (u : Option bV), fKs 0 T T' → PR T' 0 (exC M c).2 → Wp d 124 214 [some (vR 0 0 0), some (vI x1), some (vI (nI k)), some (vR 31 k 0), some (vI (exC M c).1)] [] T' (fun q S' => q = some (vI (if (exC M c).1 < 0 then (-4, N, some ((exC M c).1, nI k)) else exA N l (k + 1) n (exC M c).2).1) ∧ DrC S S' N c0 P (if (exC M c).1 < 0 then (-4, N, some ((exC M c).1, nI k)) else exA N l (k + 1) n (exC M c).2)) := by
      intro T' u fT pT
      have hw' := WF_exC hw c
      have hC' : CS T' (exC M c).2 c0 P := CS_op hC fT pT hw'
      have h1' : PR T' 1 N := fO_PR fT (by omega) h1
      have ff : fCt S T' := fCt_trans hf (fC_Ct (fO_C fT))
      have kp : ∀ k' i m, 26 ≤ k' ∨ k' = 0 → T' k' i 0 m = T k' i 0 m := fun k' i m h => fT k' i 0 m (by omega) (by omega)
      refine (B_124_214).mpr ?_
      rotate_left
      refine ic (fun g => ?_) (fun g => ?_)
      · refine (B_124_244).mpr ?_
        rw [if_neg (Int32.not_lt.mpr g), qI_succ]
        exact ih (k + 1) n T' (exC M c).2 x1 _ _ hC' h1' (fun j c' hj => by
          have := hcs (j + 1) c' (by simpa using hj)
          rw [show k + (j + 1) = k + 1 + j by omega] at this
          exact mCmd_eq (fun k' m h => kp k' _ m (by omega)) this) (by rw [kp _ _ _ (by omega)]; exact h5) (by omega) hn ff (by rw [kp _ _ _ (by omega)]; exact z1) (by rw [kp _ _ _ (by omega)]; exact z13) (by rw [kp _ _ _ (by omega)]; exact z14)
      rw [if_pos (Int32.not_le.mp g)]
      obtain ⟨q, S1, e1, rfl, g1, g2⟩ := Wm_ex (k_copyFrom (d := d - 1) (S := T') (a := 0) (b := 1) (by omega) (by omega) (by omega) (by omega) (PR_IX pT) h1' hwN)
      refine (B_124_219 (by omega) e1).mpr ?_
      have hC1 : CS S1 N c0 P := CS_op hC' (fK_O g1) g2 hwN
      refine ⟨rfl, ?_, ?_, Or.inl ⟨(show (-4 : Int32) < 0 from by decide), ?_⟩, ?_, ?_⟩
      · intro k' i j m q1 q2 q3 q4
        have : ∀ x y, sUp (sUp S1 0 0 0 13 x) 0 0 0 14 y k' i j m = S1 k' i j m := by
          intro x y
          unfold sUp
          rw [if_neg (fun q => q4 ⟨q.1, by omega⟩), if_neg (fun q => q4 ⟨q.1, by omega⟩)]
        rw [this, g1 _ _ _ _ (fun z => q1 ⟨z.1, z.2.1, by omega⟩)]
        exact ff k' i j m q1 q2 q3 q4
      · rw [sUp_kind (by decide), sUp_kind (by decide), g1 _ _ _ _ (by omega), kp _ _ _ (by omega)]; exact z1
      · refine CS_eq (fun k' i j m h => ?_) hC1
        unfold sUp
        rw [if_neg (by omega), if_neg (by omega)]
      · rw [sUp_slot (by decide), sUp_same]
      · rw [sUp_same]
    have eqc : ∀ z, c.2.1 = z → (nI c.2.1 = nI z) := fun z h => by rw [h]
    refine icT ((show nI c.2.1 = 0 ↔ c.2.1 = 0 from qI_eq (b := 0) (by omega) (by omega))) (fun w0 => ?_) (fun w0 => ?_)
    · have b5 : nbO c.2.1 = 5 := by rw [w0]; rfl
      have ec : exC M c = aLayO M (nI (c.2.2.1 0)) (nI (c.2.2.1 1)) (nI (c.2.2.1 2)) (nI (c.2.2.1 3)) (nI (c.2.2.1 4)) (tf c.2.2.2) := by unfold exC; rw [if_pos w0]
      rw [ec] at fin ⊢
      obtain ⟨q, T1, e1, rfl, f1, p1⟩ := Wm_ex (k_putOrder (d := d - 1) (i := 0) (by omega) hP hw (by omega) (x1 := nI (c.2.2.1 0)) (x2 := nI (c.2.2.1 1)) (x3 := nI (c.2.2.1 2)) (x4 := nI (c.2.2.1 3)) (x5 := nI (c.2.2.1 4)) (x6 := tf c.2.2.2))
      refine (B_124_112 (by omega) (bk31 (by omega)) (by rw [m3 0 (by omega), m3 1 (by omega), m3 2 (by omega), m3 3 (by omega), m3 4 (by omega), m4 w0]; exact e1)).mpr ?_
      exact fin T1 none (fK_Ks f1) p1
    refine icT ((show nI c.2.1 = 1 ↔ c.2.1 = 1 from qI_eq (b := 1) (by omega) (by omega))) (fun w1 => ?_) (fun w1 => ?_)
    · have b3 : nbO c.2.1 = 3 := by rw [w1]; rfl
      have ec : exC M c = aLayR M (nI (c.2.2.1 0)) (nI (c.2.2.1 1)) (nI (c.2.2.1 2)) := by unfold exC; rw [if_neg w0, if_pos w1]
      rw [ec] at fin ⊢
      obtain ⟨q, T1, e1, rfl, f1, p1⟩ := Wm_ex (k_putRoll (d := d - 1) (i := 0) (by omega) hP hw (by omega) (x1 := nI (c.2.2.1 0)) (x2 := nI (c.2.2.1 1)) (x3 := nI (c.2.2.1 2)))
      refine (B_124_142 (by omega) (bk31 (by omega)) (by rw [m3 0 (by omega), m3 1 (by omega), m3 2 (by omega)]; exact e1)).mpr ?_
      exact fin T1 none (fK_Ks f1) p1
    refine icT ((show nI c.2.1 = 2 ↔ c.2.1 = 2 from qI_eq (b := 2) (by omega) (by omega))) (fun w2 => ?_) (fun w2 => ?_)
    · have b1 : nbO c.2.1 = 1 := by rw [w2]; rfl
      have ec : exC M c = aTry M (nI (c.2.2.1 0)) := by unfold exC; rw [if_neg w0, if_neg w1, if_pos w2]
      rw [ec] at fin ⊢
      obtain ⟨q, T1, e1, rfl, f1, p1⟩ := Wm_ex (k_cutRoll (d := d - 1) (i := 0) (by omega) hP hw (by omega) (x1 := nI (c.2.2.1 0)))
      refine (B_124_163 (by omega) (bk31 (by omega)) (by rw [m3 0 (by omega)]; exact e1)).mpr ?_
      exact fin T1 none f1 p1
    refine icT ((show nI c.2.1 = 3 ↔ c.2.1 = 3 from qI_eq (b := 3) (by omega) (by omega))) (fun w3 => ?_) (fun w3 => ?_)
    · have ec : exC M c = aCuts M := by unfold exC; rw [if_neg w0, if_neg w1, if_neg w2, if_pos w3]
      rw [ec] at fin ⊢
      obtain ⟨q, T1, e1, rfl, f1, p1⟩ := Wm_ex (k_cutEverything (d := d - 1) (i := 0) (by omega) hP hw (by omega))
      refine (B_124_182 (by omega) e1).mpr ?_
      exact fin T1 none f1 p1
    have b1 : nbO c.2.1 = 1 := by rw [show c.2.1 = 4 by omega]; rfl
    have ec : exC M c = aArr M (nI (c.2.2.1 0)) := by unfold exC; rw [if_neg w0, if_neg w1, if_neg w2, if_neg w3]
    rw [ec] at fin ⊢
    obtain ⟨q, T1, e1, rfl, f1, p1⟩ := Wm_ex (k_putInOrder (d := d - 1) hP hw (by omega) (x1 := nI (c.2.2.1 0)))
    refine (B_124_198 (by omega) (bk31 (by omega)) (by rw [m3 0 (by omega)]; exact e1)).mpr ?_
    exact fin T1 none f1 p1
theorem K_execute (hd : 16 ≤ d) {c : Nat} {P : Nat → NV} (hC : CS S N c P) {t : Nat} (hT : cT tx t S) : Wm d 124 [vR 0 0 0] S (fun q S' => q = some (vI (aExe tx t N).1) ∧ DrC S S' N c P (aExe tx t N)) := by
  have hw := CS_W hC
  have ht := hT.2.1
  refine EW_124 ?_
  obtain ⟨q, S1, e1, rfl, f1, m1, -, m2⟩ := Wm_ex (k_readCommands (d := d - 1) (by omega) hT)
  have f2 : ∀ k i j m, k ≠ 30 → k ≠ 31 → ¬ (k = 26 ∧ (m = 1 ∨ m = 2 ∨ m = 5)) → sUp S1 26 0 0 1 0 k i j m = S k i j m := by
    intro k i j m h1 h2 h3
    have : sUp S1 26 0 0 1 0 k i j m = S1 k i j m := by
      unfold sUp
      rw [if_neg (fun q => h3 ⟨q.1, Or.inl q.2.2.2⟩)]
    rw [this, f1 k i j m h1 h2 (fun q => h3 ⟨q.1, Or.inr q.2⟩)]
  have ff : fCt S (sUp S1 26 0 0 1 0) := fun k i j m _ h2 h3 _ => f2 k i j m (by omega) (by omega) (by omega)
  have hC2 : CS (sUp S1 26 0 0 1 0) N c P := CS_eq (fun k i j m h => f2 k i j m (by omega) (by omega) (by omega)) hC
  have z1 : sUp S1 26 0 0 1 0 26 0 0 1 = 0 := sUp_same
  have z2 : sUp S1 26 0 0 1 0 26 0 0 2 = nI (pA tx t (t + 1) 0).1.1 := by rw [sUp_slot (by decide)]; exact m1
  have z3 : ∀ m, sUp S1 26 0 0 1 0 0 0 0 m = S 0 0 0 m := fun m => f2 _ _ _ _ (by decide) (by decide) (by omega)
  have zc : (pA tx t (t + 1) 0).1.2 = false → sUp S1 26 0 0 1 0 26 0 0 5 = nI (pA tx t (t + 1) 0).2.length ∧ (pA tx t (t + 1) 0).2.length ≤ 20 ∧ hCs 0 (pA tx t (t + 1) 0).2 (sUp S1 26 0 0 1 0) := by
    intro hh
    obtain ⟨w1, w2, w3⟩ := m2 hh
    rw [Nat.zero_add] at w1 w2
    exact ⟨by rw [sUp_slot (by decide)]; exact w1, w2, fun j c' hj => mCmd_eq (fun k' m h => sUp_kind (by omega)) (w3 j c' hj)⟩
  generalize hU : sUp S1 26 0 0 1 0 = U at *
  refine (B_124_0 (by omega) e1 k_empty).mpr ?_
  rw [hU]
  have eA : aExe tx t N = if (pA tx t (t + 1) 0).1.2 = true then (-1000 - nI (pA tx t (t + 1) 0).1.1, N, none) else exA N (pA tx t (t + 1) 0).2 0 (pA tx t (t + 1) 0).2.length N := rfl
  rw [eA]
  have hq : (pA tx t (t + 1) 0).1.1 ≤ 10000 := by
    have := pA_q (tx := tx) ht (t + 1) 0 (Nat.zero_le _) (fun p hp => by
      have hS : cS tx t p (sUp S 26 0 0 2 (nI p)) := ⟨cT_f (fun k i j m hk => by unfold sUp; rw [if_neg (by omega)]) hT, sUp_same, hp⟩
      obtain ⟨q, S9, -, -, -, s9, -⟩ := Wm_ex (k_readCommand (d := 6) (by omega) hS (i := 0) (by omega))
      exact s9.2.2)
    omega
  generalize pA tx t (t + 1) 0 = A at *
  obtain ⟨⟨ap, aw⟩, al⟩ := A
  have hq' : ap ≤ 10000 := hq
  cases aw with
  | true =>
    rw [if_pos (rfl)]
    refine (B_124_19).mpr ?_
    rw [z2]
    refine ⟨rfl, ff, z1, Or.inl ⟨?_, hC2⟩, z3 13, z3 14⟩
    show (-1000 : Int32) - nI ap < 0
    rw [Int32.lt_iff_toInt_lt, Int32.toInt_sub, nI_toInt (by omega), show (-1000 : Int32).toInt = -1000 from by decide, show (0 : Int32).toInt = 0 from by decide, bm32 (by omega) (by omega)]
    omega
  | false =>
    rw [if_neg (show ¬ tf (!false) = 0 by decide)]
    rw [if_neg (fun z => absurd (show false = true from z) (by decide))]
    obtain ⟨w1, w2, w3⟩ := zc rfl
    obtain ⟨S3, e3, f3, p3, c3⟩ := k_earlier (d := d - 1) (by omega) hC2 (a := 1) (Or.inl rfl)
    refine (B_124_31 (by omega) e3).mpr ?_
    have kp : ∀ k' i m, 26 ≤ k' ∨ k' = 0 → S3 k' i 0 m = U k' i 0 m := fun k' i m h => f3 k' i 0 m (by omega)
    exact K_ex_go hd hw al 0 al.length S3 N _ _ _ c3 p3 (fun j c' hj => mCmd_eq (fun k' m h => kp k' _ m (by omega)) (w3 j c' hj)) (by rw [kp _ _ _ (by omega)]; exact w1) (Nat.zero_add _) w2 (fCt_trans ff (fC_Ct (fK_C (by omega) f3))) (by rw [kp _ _ _ (by omega)]; exact z1) (by rw [kp _ _ _ (by omega)]; exact z3 13) (by rw [kp _ _ _ (by omega)]; exact z3 14)
end M19c
