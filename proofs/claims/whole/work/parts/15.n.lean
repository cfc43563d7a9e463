/-! THE MODEL's methods, 22: the commands carried out, execute -/
section M15n
/-- all commands from a place on, and where the reading ends -/
def pA (tx : Nat → Nat) (e : Nat) : Nat → Nat → (Nat × Bool) × List Cmd
  | 0, p => ((p, true), [])
  | n + 1, p => if (cM tx e p).1.2 = true then ((cM tx e p).1, []) else if isA tx e (cM tx e p).1 59 59 = true then ((pA tx e n ((cM tx e p).1.1 + 1)).1, cM tx e p :: (pA tx e n ((cM tx e p).1.1 + 1)).2) else if (cM tx e p).1.1 < e then (((cM tx e p).1.1, true), []) else ((cM tx e p).1, [cM tx e p])
def exC (N : NV) (c : Cmd) : Int32 × NV := if c.2.1 = 0 then aLayO N (nI (c.2.2.1 0)) (nI (c.2.2.1 1)) (nI (c.2.2.1 2)) (nI (c.2.2.1 3)) (nI (c.2.2.1 4)) (tf c.2.2.2) else if c.2.1 = 1 then aLayR N (nI (c.2.2.1 0)) (nI (c.2.2.1 1)) (nI (c.2.2.1 2)) else if c.2.1 = 2 then aTry N (nI (c.2.2.1 0)) else if c.2.1 = 3 then aCuts N else aArr N (nI (c.2.2.1 0))
def exL : List Cmd → Nat → NV → Option (Int32 × Nat) × NV
  | [], _, N => (none, N)
  | c :: cs, i, N => if (exC N c).1 < 0 then (some ((exC N c).1, i), (exC N c).2) else exL cs (i + 1) (exC N c).2
theorem WF_exC {N : NV} (h : WF N) (c : Cmd) : WF (exC N c).2 := by
  unfold exC
  split
  · exact WF_aLayO h _ _ _ _ _ _
  · split
    · exact WF_aLayR h _ _ _
    · split
      · exact WF_aTry h _
      · split
        · exact WF_aCutsF _ _ _ h
        · exact WF_aArr h _
theorem WF_exL : ∀ (cs : List Cmd) (i : Nat) (N : NV), WF N → WF (exL cs i N).2 := by
  intro cs
  induction cs with
  | nil => intro i N h; exact h
  | cons c cs ih =>
    intro i N h
    unfold exL
    split
    · exact WF_exC h c
    · exact ih _ _ (WF_exC h c)
variable {d : Nat} {S : bSt} {tx : Nat → Nat} {e : Nat}
theorem nUl_mono : ∀ n q v, q.1 ≤ (nUl tx e n q v).1.1 := by
  intro n
  induction n with
  | zero => intro q v; exact Nat.le_refl _
  | succ n ih =>
    intro q v
    unfold nUl
    split
    · have := ih (dG tx e 48 q).1 (10 * v + (dG tx e 48 q).2)
      have h2 : q.1 ≤ (dG tx e 48 q).1.1 := by
        unfold dG
        split <;> dsimp only <;> omega
      omega
    · exact Nat.le_refl _
theorem nU_mono (q : Nat × Bool) : q.1 ≤ (nU tx e q).1.1 := by
  unfold nU
  have := nUl_mono (tx := tx) (e := e) 2 (dG tx e 48 q).1 (dG tx e 48 q).2
  have h2 : q.1 ≤ (dG tx e 48 q).1.1 := by
    unfold dG
    split <;> dsimp only <;> omega
  omega
theorem eX_mono {s : Nat} (q : Nat × Bool) : q.1 ≤ (eX tx e s q).1 := by
  unfold eX
  split <;> dsimp only <;> omega
theorem nmL_mono : ∀ n k q nu, q.1 ≤ (nmL tx e n k q nu).1.1 := by
  intro n
  induction n with
  | zero => intro k q nu; exact Nat.le_refl _
  | succ n ih =>
    intro k q nu
    unfold nmL
    have h1 := eX_mono (tx := tx) (e := e) (s := 32) q
    split
    · exact Nat.le_refl _
    · split
      · exact Nat.le_trans h1 (ih _ _ _)
      · exact Nat.le_trans (Nat.le_trans h1 (nU_mono _)) (ih _ _ _)
theorem wlen_ge {w : Nat} (h : w < 6) : 3 ≤ wlen w := by
  have : ∀ w, w < 6 → 3 ≤ wlen w := by decide
  exact this w h
theorem cM_adv {p : Nat} (h : (cM tx e p).1.2 = false) : p + 3 ≤ (cM tx e p).1.1 := by
  unfold cM at *
  by_cases g : wrd tx p (leE tx e p) ≤ 4
  · rw [if_pos g] at h ⊢
    have h1 := wrd_len (tx := tx) (p := p) (q := leE tx e p) (by omega)
    have h2 := wlen_ge (w := wrd tx p (leE tx e p)) (by omega)
    have h3 := nmL_mono (tx := tx) (e := e) (nbO (wrd tx p (leE tx e p))) 0 (leE tx e p, false) (fun _ => 0)
    dsimp only at h h3 ⊢
    by_cases g2 : wrd tx p (leE tx e p) = 0 ∧ isA tx e (nmL tx e (nbO (wrd tx p (leE tx e p))) 0 (leE tx e p, false) (fun _ => 0)).1 32 32 = true
    · rw [if_pos g2] at h ⊢
      by_cases g3 : wrd tx ((nmL tx e (nbO (wrd tx p (leE tx e p))) 0 (leE tx e p, false) (fun _ => 0)).1.1 + 1) (leE tx e ((nmL tx e (nbO (wrd tx p (leE tx e p))) 0 (leE tx e p, false) (fun _ => 0)).1.1 + 1)) = 5
      · rw [if_pos g3]
        have h4 := wrd_len (tx := tx) (p := (nmL tx e (nbO (wrd tx p (leE tx e p))) 0 (leE tx e p, false) (fun _ => 0)).1.1 + 1) (q := leE tx e ((nmL tx e (nbO (wrd tx p (leE tx e p))) 0 (leE tx e p, false) (fun _ => 0)).1.1 + 1)) (by omega)
        rw [g3] at h4
        have : wlen 5 = 6 := rfl
        dsimp only
        omega
      · rw [if_neg g3] at h
        exact absurd h (by simp)
    · rw [if_neg g2]
      dsimp only
      omega
  · rw [if_neg g] at h
    exact absurd h (by simp)
theorem c_carriesOut (hd : 20 ≤ d) (hw : WF (S 41 0 0)) {c : Cmd} (hc : c.2.1 ≤ 4) (hn : mNum (nbO c.2.1) c.2.2.1 S) (hb : S 40 0 0 30 = tf c.2.2.2) : Wm d 244 [vR 40 0 0, vI (nI c.2.1)] S (fun q S' => q = some (vI (exC (S 41 0 0) c).1) ∧ fM S S' ∧ S' 41 0 0 = (exC (S 41 0 0) c).2) := by
  obtain ⟨q0, w, nu, b⟩ := c
  dsimp only at hc hn hb
  refine EW_244 ?_
  refine (B_244_0).mpr ?_
  rw [X_244_1]
  unfold exC
  dsimp only
  have : w = 0 ∨ w = 1 ∨ w = 2 ∨ w = 3 ∨ w = 4 := by omega
  rcases this with rfl | rfl | rfl | rfl | rfl
  · rw [if_pos (show nI 0 = 0 from rfl)]
    rw [if_pos rfl]
    have n0 := (hn 0 (by decide)).1
    have n1 := (hn 1 (by decide)).1
    have n2 := (hn 2 (by decide)).1
    have n3 := (hn 3 (by decide)).1
    have n4 := (hn 4 (by decide)).1
    refine (B_244_32).mpr ?_
    rw [hb, n0, n1, n2, n3, n4]
    refine icb (fun g => ?_) (fun g => ?_)
    · refine (B_244_74).mpr ?_
      refine (B_244_75 (by omega) (c_layOrder (by omega) hw.1)).mpr ?_
      rw [g]
      exact ⟨rfl, fM_sN (fM_refl S), sN_41 _ _⟩
    refine (B_244_70).mpr ?_
    refine (B_244_75 (by omega) (c_layOrder (by omega) hw.1)).mpr ?_
    rw [g]
    exact ⟨rfl, fM_sN (fM_refl S), sN_41 _ _⟩
  · rw [if_neg (show ¬ nI 1 = 0 from by decide)]
    rw [if_pos (show nI 1 = 1 from rfl)]
    rw [if_neg (by decide), if_pos rfl]
    have n0 := (hn 0 (by decide)).1
    have n1 := (hn 1 (by decide)).1
    have n2 := (hn 2 (by decide)).1
    refine (B_244_79 (by omega) (c_layRoll (by omega) hw.1)).mpr ?_
    rw [n0, n1, n2]
    exact ⟨rfl, fM_sN (fM_refl S), sN_41 _ _⟩
  · rw [if_neg (show ¬ nI 2 = 0 from by decide)]
    rw [if_neg (show ¬ nI 2 = 1 from by decide)]
    rw [if_pos (show nI 2 = 2 from rfl)]
    rw [if_neg (by decide), if_neg (by decide), if_pos rfl]
    have n0 := (hn 0 (by decide)).1
    obtain ⟨q, S1, e1, rfl, h1, h2⟩ := Wm_ex (c_tryCut (d := d - 1) (by omega) hw (x1 := S 57 0 0 0))
    refine (B_244_102 (by omega) e1).mpr ?_
    rw [n0] at h2 ⊢
    exact ⟨rfl, h1, h2⟩
  · rw [if_neg (show ¬ nI 3 = 0 from by decide)]
    rw [if_neg (show ¬ nI 3 = 1 from by decide)]
    rw [if_neg (show ¬ nI 3 = 2 from by decide)]
    rw [if_pos (show nI 3 = 3 from rfl)]
    rw [if_neg (by decide), if_neg (by decide), if_neg (by decide), if_pos rfl]
    obtain ⟨q, S1, e1, rfl, h1, h2⟩ := Wm_ex (c_cutsAll (d := d - 1) (by omega) hw)
    refine (B_244_113 (by omega) e1).mpr ?_
    exact ⟨rfl, h1, h2⟩
  · rw [if_neg (show ¬ nI 4 = 0 from by decide)]
    rw [if_neg (show ¬ nI 4 = 1 from by decide)]
    rw [if_neg (show ¬ nI 4 = 2 from by decide)]
    rw [if_neg (show ¬ nI 4 = 3 from by decide)]
    rw [if_neg (by decide), if_neg (by decide), if_neg (by decide), if_neg (by decide)]
    have n0 := (hn 0 (by decide)).1
    obtain ⟨q, S1, e1, rfl, h1, h2⟩ := Wm_ex (c_arrangesIn (d := d - 1) (by omega) hw (x1 := S 57 0 0 0))
    refine (B_244_118 (by omega) e1).mpr ?_
    rw [n0] at h2 ⊢
    exact ⟨rfl, h1, h2⟩
/-- behind a command: the sign that may follow -/
theorem c_sep (hd : 2 ≤ d) {q : Nat × Bool} (h : mT tx e q S) {x1 x2 x3 x5 a : Int32} {x4 : Int32} {Q : Option bV → bSt → Prop} (hQ : ∀ (w' : Bool), w' = (q.2 || (!isA tx e q 59 59 && decide (q.1 < e))) → Wp d 245 7 [some (vR 40 0 0), some (vI x1), some (vI (x2 + 1)), some (vI a), some (vI (tf (isA tx e q 59 59))), some (vI x5)] [] (sUp (sUp S 40 0 0 18 (tf w')) 40 0 0 17 (nI (if isA tx e q 59 59 = true then q.1 + 1 else q.1))) Q) : Wp d 245 50 [some (vR 40 0 0), some (vI x1), some (vI x2), some (vI x3), some (vI x4), some (vI x5)] [vI a] S Q := by
  refine (B_245_50 (by omega) (c_isAt (lo := 59) (hi := 59) (by omega) h (by omega) (by omega))).mpr ?_
  rw [h.2.2.2.2.2.2]
  have fin : ∀ (w' : Bool), w' = (q.2 || (!isA tx e q 59 59 && decide (q.1 < e))) → Wp d 245 90 [some (vR 40 0 0), some (vI x1), some (vI x2), some (vI a), some (vI (tf (isA tx e q 59 59))), some (vI x5)] [vI (tf w'), vR 40 0 0] S Q := by
    intro w' hw'
    refine (B_245_90 (tf_01 _)).mpr ?_
    rw [sUp_slot (by decide), h.2.2.2.2.2.1]
    have := hQ w' hw'
    refine icb (fun g => ?_) (fun g => ?_)
    · refine (B_245_107).mpr ?_
      refine (B_245_108).mpr ?_
      rw [if_neg (by rw [g]; decide)] at this
      rw [Int32.add_zero]
      exact this
    refine (B_245_103).mpr ?_
    refine (B_245_108).mpr ?_
    rw [if_pos g] at this
    rw [qI_succ]
    exact this
  rotate_left
  refine icb (fun g => ?_) (fun g => ?_)
  · refine (B_245_69).mpr ?_
    refine icb (fun g2 => ?_) (fun g2 => ?_)
    · refine (B_245_74).mpr ?_
      rw [h.2.2.2.2.1, h.2.2.2.2.2.1]
      have := h.1
      have := h.2.1
      refine icT (qI_le (by omega) (by omega)) (fun g3 => ?_) (fun g3 => ?_)
      · refine (B_245_89).mpr ?_
        exact fin false (by rw [g, g2, decide_eq_false (by omega)]; rfl)
      refine (B_245_85).mpr ?_
      exact fin true (by rw [g, g2, decide_eq_true (by omega)]; rfl)
    refine (B_245_89).mpr ?_
    exact fin false (by rw [g, g2]; rfl)
  refine (B_245_85).mpr ?_
  exact fin true (by rw [g]; rfl)
theorem m_sep {q : Nat × Bool} (h : mT tx e q S) {w' : Bool} : mT tx e (if isA tx e q 59 59 = true then q.1 + 1 else q.1, w') (sUp (sUp S 40 0 0 18 (tf w')) 40 0 0 17 (nI (if isA tx e q 59 59 = true then q.1 + 1 else q.1))) := by
  refine mT_at (mT_wr (w' := w') (p := q.1) (w := q.2) h) ?_
  split
  · rename_i g
    have := (isA_lt g).2.1
    omega
  · exact h.1
theorem f_sep {T : bSt} {w x : Int32} (h : fT S T) : fT S (sUp (sUp T 40 0 0 18 w) 40 0 0 17 x) := fT_up (fT_up h rfl) rfl
/-- the first pass: the text is only read -/
theorem c_cmds0 : ∀ (n : Nat) {d : Nat} {S S0 : bSt} {p k : Nat} {u5 : Option bV} {Q : Option bV → bSt → Prop}, 7 ≤ d → mT tx e (p, false) S → mW S → e + 1 ≤ n + p → 1 ≤ n → fT S0 S → (∀ S' y, fT S0 S' → mT tx e (pA tx e n p).1 S' → ((pA tx e n p).1.2 = false → y = nI (k + (pA tx e n p).2.length)) → Q (some (vI y)) S') → Wp d 245 7 [some (vR 40 0 0), some (vI 0), some (vI (nI k)), some (vI 0), some (vI 1), u5] [] S Q := by
  intro n
  induction n with
  | zero => intro d S S0 p k u5 Q hd h hW hn hn1; omega
  | succ n ih =>
    intro d S S0 p k u5 Q hd h hW hn hn1 hf hQ
    unfold pA at hQ
    have hp := h.1
    have h80 := h.2.1
    refine (B_245_7).mpr ?_
    rw [if_neg (by decide)]
    refine (B_245_12).mpr ?_
    rw [h.2.2.2.2.2.2]
    rw [if_pos (show tf false = 0 from rfl)]
    refine (B_245_19).mpr ?_
    rw [if_neg (by decide)]
    obtain ⟨r, S1, e1, f1, m1, x, rfl, hx⟩ := Wm_ex (c_command (d := d - 1) (by omega) h hW)
    have hadv := cM_adv (tx := tx) (e := e) (p := p)
    generalize cM tx e p = c at *
    refine (B_245_23 (by omega) e1).mpr ?_
    have f1' := fT_trans hf f1
    have nxt : ∀ u5, Wp d 245 50 [some (vR 40 0 0), some (vI 0), some (vI (nI k)), some (vI 0), some (vI 1), some (vI u5)] [vI 0] S1 Q := by
      intro u5
      refine c_sep (by omega) m1 (fun w' hw' => ?_)
      have m2 := m_sep m1 (w' := w')
      have f2 := f_sep (w := tf w') (x := nI (if isA tx e c.1 59 59 = true then c.1.1 + 1 else c.1.1)) f1'
      have hW2 : mW (sUp (sUp S1 40 0 0 18 (tf w')) 40 0 0 17 (nI (if isA tx e c.1 59 59 = true then c.1.1 + 1 else c.1.1))) := fun i hi => by rw [sUp_kind (by decide), sUp_kind (by decide), f1 _ _ _ _ rfl]; exact hW i hi
      generalize sUp (sUp S1 40 0 0 18 (tf w')) 40 0 0 17 (nI (if isA tx e c.1 59 59 = true then c.1.1 + 1 else c.1.1)) = T at *
      rw [qI_succ]
      by_cases gi : isA tx e c.1 59 59 = true
      · obtain ⟨gw, glt, -, -⟩ := isA_lt gi
        rw [if_neg (by rw [gw]; decide), if_pos gi] at hQ
        rw [if_pos gi] at m2
        have ew : w' = false := by rw [hw', gw, gi]; rfl
        rw [ew] at m2
        rw [gi]
        have ha := hadv gw
        refine ih (S0 := S0) (p := c.1.1 + 1) (k := k + 1) hd m2 hW2 (by omega) (by omega) f2 (fun S' y h1 h2 h3 => hQ S' y h1 h2 (fun hq => ?_))
        rw [h3 hq]
        congr 1
        simp only [List.length_cons]
        omega
      · have gi' : isA tx e c.1 59 59 = false := by simpa using gi
        rw [gi', if_neg (by decide)] at m2
        rw [gi'] at hw' ⊢
        refine (B_245_7).mpr ?_
        rw [if_pos (show tf false = 0 from rfl)]
        refine (B_245_118).mpr ?_
        rw [if_pos (by decide)]
        refine (B_245_137).mpr ?_
        by_cases gw : c.1.2 = true
        · rw [if_pos gw] at hQ
          refine hQ T _ f2 ?_ (fun q => absurd q (by rw [gw]; decide))
          have : w' = true := by rw [hw', gw]; rfl
          rw [this] at m2
          rw [show c.1 = (c.1.1, true) from by rw [← gw]]
          exact m2
        · have gw' : c.1.2 = false := by simpa using gw
          rw [if_neg gw, if_neg gi] at hQ
          by_cases gl : c.1.1 < e
          · rw [if_pos gl] at hQ
            refine hQ T _ f2 ?_ (fun q => absurd q (by simp))
            have : w' = true := by rw [hw', gw', decide_eq_true gl]; rfl
            rw [this] at m2
            exact m2
          · rw [if_neg gl] at hQ
            refine hQ T _ f2 ?_ (fun _ => rfl)
            have : w' = false := by rw [hw', gw', decide_eq_false gl]; rfl
            rw [this] at m2
            rw [show c.1 = (c.1.1, false) from by rw [← gw']]
            exact m2
    rw [m1.2.2.2.2.2.2]
    refine icb (fun g => ?_) (fun g => ?_)
    · refine (B_245_36).mpr ?_
      rw [if_pos (rfl)]
      refine (B_245_40).mpr ?_
      exact nxt _
    refine (B_245_40).mpr ?_
    exact nxt _
def scX (k m : Nat) : Bool := sc k m || scT k m
def fX (S S' : bSt) : Prop := ∀ k i j m, scX k m = false → S' k i j m = S k i j m
theorem fX_trans {S T U : bSt} (h : fX S T) (g : fX T U) : fX S U := fun k i j m hm => (g k i j m hm).trans (h k i j m hm)
theorem fT_X {S T : bSt} (h : fT S T) : fX S T := fun k i j m hs => h k i j m (by unfold scX at hs; simp only [Bool.or_eq_false_iff] at hs; exact hs.2)
theorem fM_X {S T : bSt} (h : fM S T) : fX S T := fun k i j m hs => h k i j m (by unfold scX at hs; simp only [Bool.or_eq_false_iff] at hs; exact hs.1)
theorem fX_up {S T : bSt} {k i j m : Nat} {x : Int32} (h : fX S T) (hk : scX k m = true) : fX S (sUp T k i j m x) := by
  intro k' i' j' m' hs
  rw [← h k' i' j' m' hs]
  unfold sUp
  rw [if_neg]
  rintro ⟨rfl, -, -, rfl⟩
  rw [hk] at hs
  exact absurd hs (by decide)
/-- the second pass: they are carried out -/
theorem c_cmds1 : ∀ (n : Nat) {d : Nat} {S S0 : bSt} {p k : Nat} {u5 : Option bV} {Q : Option bV → bSt → Prop}, 21 ≤ d → mT tx e (p, false) S → mW S → e + 1 ≤ n + p → 1 ≤ n → fX S0 S → WF (S 41 0 0) → (pA tx e n p).1.2 = false → (∀ S', fX S0 S' → S' 41 0 0 = (exL (pA tx e n p).2 k (S 41 0 0)).2 → (exL (pA tx e n p).2 k (S 41 0 0)).1 = none → Q (some (vI (nI (k + (pA tx e n p).2.length)))) S') → (∀ S' a i, fX S0 S' → (exL (pA tx e n p).2 k (S 41 0 0)).1 = some (a, i) → Q (some (vI (-4))) (sUp (sUp S' 40 0 0 8 a) 40 0 0 9 (nI i))) → Wp d 245 7 [some (vR 40 0 0), some (vI 1), some (vI (nI k)), some (vI 0), some (vI 1), u5] [] S Q := by
  intro n
  induction n with
  | zero => intro d S S0 p k u5 Q hd h hW hn hn1; omega
  | succ n ih =>
    intro d S S0 p k u5 Q hd h hW hn hn1 hf hwf hok hQ hQ2
    unfold pA at hok hQ hQ2
    have hp := h.1
    have h80 := h.2.1
    refine (B_245_7).mpr ?_
    rw [if_neg (by decide)]
    refine (B_245_12).mpr ?_
    rw [h.2.2.2.2.2.2]
    rw [if_pos (show tf false = 0 from rfl)]
    refine (B_245_19).mpr ?_
    rw [if_neg (by decide)]
    obtain ⟨r, S1, e1, f1, m1, x, rfl, hx⟩ := Wm_ex (c_command (d := d - 1) (by omega) h hW)
    have hadv := cM_adv (tx := tx) (e := e) (p := p)
    generalize cM tx e p = c at *
    by_cases gw : c.1.2 = true
    · rw [if_pos gw, gw] at hok
      exact absurd hok (by decide)
    have gw' : c.1.2 = false := by simpa using gw
    rw [if_neg gw] at hok hQ hQ2
    obtain ⟨rfl, hw4, hnum, hbt⟩ := hx gw'
    have hN1 : S1 41 0 0 = S 41 0 0 := by funext m; exact f1 _ _ _ _ rfl
    refine (B_245_23 (by omega) e1).mpr ?_
    rw [m1.2.2.2.2.2.2, gw']
    rw [if_pos (show tf false = 0 from rfl)]
    refine (B_245_36).mpr ?_
    rw [if_neg (by decide)]
    obtain ⟨q, S2, e2, rfl, f2, hN2⟩ := Wm_ex (c_carriesOut (d := d - 1) (S := S1) (by omega) (by rw [hN1]; exact hwf) hw4 hnum hbt)
    refine (B_245_44 (by omega) e2).mpr ?_
    rw [hN1] at hN2 ⊢
    have m2 : mT tx e c.1 S2 := mT_fP m1 (fun k i j m hk => f2 _ _ _ _ (by rcases hk with rfl | ⟨rfl, rfl | rfl | rfl⟩ <;> rfl))
    have f2' := fX_trans (fX_trans hf (fT_X f1)) (fM_X f2)
    refine c_sep (by omega) m2 (fun w' hw' => ?_)
    have m3 := m_sep m2 (w' := w')
    have f3 : fX S0 (sUp (sUp S2 40 0 0 18 (tf w')) 40 0 0 17 (nI (if isA tx e c.1 59 59 = true then c.1.1 + 1 else c.1.1))) := fX_up (fX_up f2' rfl) rfl
    have hW3 : mW (sUp (sUp S2 40 0 0 18 (tf w')) 40 0 0 17 (nI (if isA tx e c.1 59 59 = true then c.1.1 + 1 else c.1.1))) := fun i hi => by rw [sUp_kind (by decide), sUp_kind (by decide), f2 _ _ _ _ rfl, f1 _ _ _ _ rfl]; exact hW i hi
    have hN3 : sUp (sUp S2 40 0 0 18 (tf w')) 40 0 0 17 (nI (if isA tx e c.1 59 59 = true then c.1.1 + 1 else c.1.1)) 41 0 0 = (exC (S 41 0 0) c).2 := by funext m; rw [sUp_kind (by decide), sUp_kind (by decide), hN2]
    generalize sUp (sUp S2 40 0 0 18 (tf w')) 40 0 0 17 (nI (if isA tx e c.1 59 59 = true then c.1.1 + 1 else c.1.1)) = T at *
    rw [qI_succ]
    -- an error ends it
    have bad : (exC (S 41 0 0) c).1 < 0 → (exL (c :: (if isA tx e c.1 59 59 = true then (pA tx e n (c.1.1 + 1)).2 else [])) k (S 41 0 0)).1 = some ((exC (S 41 0 0) c).1, k) → (∀ S' a i, fX S0 S' → some ((exC (S 41 0 0) c).1, k) = some (a, i) → Q (some (vI (-4))) (sUp (sUp S' 40 0 0 8 a) 40 0 0 9 (nI i))) → Wp d 245 7 [some (vR 40 0 0), some (vI 1), some (vI (nI (k + 1))), some (vI (exC (S 41 0 0) c).1), some (vI (tf (isA tx e c.1 59 59))), some (vI (nI c.2.1))] [] T Q := by
      intro hneg _ hq
      have stop : Wp d 245 118 [some (vR 40 0 0), some (vI 1), some (vI (nI (k + 1))), some (vI (exC (S 41 0 0) c).1), some (vI (tf (isA tx e c.1 59 59))), some (vI (nI c.2.1))] [] T Q := by
        refine (B_245_118).mpr ?_
        rw [if_neg (Int32.not_le.mpr hneg)]
        refine (B_245_122).mpr ?_
        rw [nI_m1]
        exact hq T _ _ f3 rfl
      refine (B_245_7).mpr ?_
      refine icb (fun g1 => ?_) (fun g1 => ?_)
      · exact stop
      refine (B_245_12).mpr ?_
      rw [m3.2.2.2.2.2.2]
      rotate_left
      refine icb (fun g2 => ?_) (fun g2 => ?_)
      · refine (B_245_19).mpr ?_
        rw [if_pos (hneg)]
        exact stop
      exact stop
    by_cases gi : isA tx e c.1 59 59 = true
    · obtain ⟨-, glt, -, -⟩ := isA_lt gi
      rw [if_pos gi] at hok hQ hQ2 m3
      dsimp only at hok hQ hQ2
      by_cases gneg : (exC (S 41 0 0) c).1 < 0
      · have er : exL (c :: (pA tx e n (c.1.1 + 1)).2) k (S 41 0 0) = (some ((exC (S 41 0 0) c).1, k), (exC (S 41 0 0) c).2) := by rw [exL, if_pos gneg]
        rw [er] at hQ2
        refine bad gneg (by rw [if_pos gi, er]) (fun S' a i h1 h2 => hQ2 S' a i h1 h2)
      · have er : exL (c :: (pA tx e n (c.1.1 + 1)).2) k (S 41 0 0) = exL (pA tx e n (c.1.1 + 1)).2 (k + 1) (exC (S 41 0 0) c).2 := by rw [exL, if_neg gneg]
        rw [er] at hQ hQ2
        have ew : w' = false := by rw [hw', gw', gi]; rfl
        rw [ew] at m3
        rw [gi]
        have ha := hadv gw'
        -- the answer is no error, so the next command comes
        have ih' := ih (d := d) (S := T) (S0 := S0) (p := c.1.1 + 1) (k := k + 1) (u5 := some (vI (nI c.2.1))) (Q := Q) hd m3 hW3 (by omega) (by omega) f3 (by rw [hN3]; exact WF_exC hwf c) hok (fun S' h1 h2 h3 => by
          rw [hN3] at h2 h3
          have := hQ S' h1 h2 h3
          simp only [List.length_cons] at this
          rw [show k + 1 + (pA tx e n (c.1.1 + 1)).2.length = k + ((pA tx e n (c.1.1 + 1)).2.length + 1) by omega]
          exact this) (fun S' a i h1 h2 => by rw [hN3] at h2; exact hQ2 S' a i h1 h2)
        -- with the answer in place of the zero
        rw [B_245_7] at ih'
        rw [if_neg (by decide)] at ih'
        rw [B_245_12, m3.2.2.2.2.2.2] at ih'
        rw [if_pos (show tf false = 0 from rfl)] at ih'
        rw [B_245_19, if_neg (by decide)] at ih'
        refine (B_245_7).mpr ?_
        rw [if_neg (by decide)]
        refine (B_245_12).mpr ?_
        rw [m3.2.2.2.2.2.2]
        rw [if_pos (show tf false = 0 from rfl)]
        refine (B_245_19).mpr ?_
        rw [if_neg (gneg)]
        -- the command overwrites what the answer was
        obtain ⟨r, S4, e4, f4, m4, x, rfl, hx4⟩ := Wm_ex (c_command (d := d - 1) (S := T) (by omega) m3 hW3)
        rw [B_245_23 (by omega) e4] at ih'
        refine (B_245_23 (by omega) e4).mpr ?_
        have hgo : (S4 40 0 0 18 = 0 → ∃ y S5, Ret (d - 1) 244 [vR 40 0 0, vI x] S4 (some (vI y)) S5 ∧ mT tx e (cM tx e (c.1.1 + 1)).1 S5) := by
          intro h0
          rw [m4.2.2.2.2.2.2, tf_0] at h0
          obtain ⟨rfl, hw4', hnum', hbt'⟩ := hx4 h0
          have hN4 : S4 41 0 0 = (exC (S 41 0 0) c).2 := by rw [← hN3]; funext m; exact f4 _ _ _ _ rfl
          obtain ⟨q, S5, e5, rfl, f5, -⟩ := Wm_ex (c_carriesOut (d := d - 1) (S := S4) (by omega) (by rw [hN4]; exact WF_exC hwf c) hw4' hnum' hbt')
          exact ⟨_, S5, e5, mT_fP m4 (fun k i j m hk => f5 _ _ _ _ (by rcases hk with rfl | ⟨rfl, rfl | rfl | rfl⟩ <;> rfl))⟩
        by_cases h0 : S4 40 0 0 18 = 0
        · obtain ⟨y, S5, e5, m5⟩ := hgo h0
          rw [if_pos h0] at ih' ⊢
          rw [B_245_36, if_neg (by decide), B_245_44 (by omega) e5, B_245_50 (by omega) (c_isAt (lo := 59) (hi := 59) (by omega) m5 (by omega) (by omega))] at ih'
          refine (B_245_36).mpr ?_
          rw [if_neg (by decide)]
          refine (B_245_44 (by omega) e5).mpr ?_
          refine (B_245_50 (by omega) (c_isAt (lo := 59) (hi := 59) (by omega) m5 (by omega) (by omega))).mpr ?_
          exact ih'
        · rw [if_neg h0] at ih' ⊢
          rw [B_245_40, B_245_50 (by omega) (c_isAt (lo := 59) (hi := 59) (by omega) m4 (by omega) (by omega))] at ih'
          refine (B_245_40).mpr ?_
          refine (B_245_50 (by omega) (c_isAt (lo := 59) (hi := 59) (by omega) m4 (by omega) (by omega))).mpr ?_
          exact ih'
    · have gi' : isA tx e c.1 59 59 = false := by simpa using gi
      rw [if_neg gi] at hok hQ hQ2 m3
      by_cases gl : c.1.1 < e
      · rw [if_pos gl] at hok
        exact absurd hok (by simp)
      rw [if_neg gl] at hok hQ hQ2
      dsimp only at hQ hQ2
      by_cases gneg : (exC (S 41 0 0) c).1 < 0
      · have er : exL [c] k (S 41 0 0) = (some ((exC (S 41 0 0) c).1, k), (exC (S 41 0 0) c).2) := by rw [exL, if_pos gneg]
        rw [er] at hQ2
        exact bad gneg (by rw [if_neg gi, er]) (fun S' a i h1 h2 => hQ2 S' a i h1 h2)
      · have er : exL [c] k (S 41 0 0) = (none, (exC (S 41 0 0) c).2) := by rw [exL, if_neg gneg]; rfl
        rw [er] at hQ
        rw [gi']
        refine (B_245_7).mpr ?_
        rw [if_pos (show tf false = 0 from rfl)]
        refine (B_245_118).mpr ?_
        rw [if_pos (Int32.not_lt.mp gneg)]
        refine (B_245_137).mpr ?_
        exact hQ T f3 hN3 rfl
end M15n
