/-! THE MODEL's methods, 17: the text -/
section M15i
def isA (tx : Nat → Nat) (e : Nat) (q : Nat × Bool) (lo hi : Nat) : Bool := !q.2 && (decide (q.1 < e) && (decide (lo ≤ tx q.1) && decide (tx q.1 ≤ hi)))
def mT (tx : Nat → Nat) (e : Nat) (q : Nat × Bool) (S : bSt) : Prop := q.1 ≤ e ∧ e ≤ 80 ∧ (∀ m, m < 80 → tx m < 127) ∧ (∀ m, m < 80 → S 45 0 0 m = nI (tx m)) ∧ S 40 0 0 16 = nI e ∧ S 40 0 0 17 = nI q.1 ∧ S 40 0 0 18 = tf q.2
def scT (k m : Nat) : Bool := (k == 40 && (m == 17 || m == 18 || m == 30)) || k == 57 || k == 49
def fT (S S' : bSt) : Prop := ∀ k i j m, scT k m = false → S' k i j m = S k i j m
theorem fT_refl (S : bSt) : fT S S := fun _ _ _ _ _ => rfl
theorem fT_trans {S T U : bSt} (h : fT S T) (g : fT T U) : fT S U := fun k i j m hm => (g k i j m hm).trans (h k i j m hm)
theorem fT_up {S T : bSt} {k i j m : Nat} {x : Int32} (h : fT S T) (hk : scT k m = true) : fT S (sUp T k i j m x) := by
  intro k' i' j' m' hs
  rw [← h k' i' j' m' hs]
  unfold sUp
  rw [if_neg]
  rintro ⟨rfl, -, -, rfl⟩
  rw [hk] at hs
  exact absurd hs (by decide)
/-- only the place and whether it is wrong -/
def scP (k m : Nat) : Bool := k == 40 && (m == 17 || m == 18)
def fP (S S' : bSt) : Prop := ∀ k i j m, scP k m = false → S' k i j m = S k i j m
theorem fP_refl (S : bSt) : fP S S := fun _ _ _ _ _ => rfl
theorem fP_trans {S T U : bSt} (h : fP S T) (g : fP T U) : fP S U := fun k i j m hm => (g k i j m hm).trans (h k i j m hm)
theorem fP_up {S T : bSt} {k i j m : Nat} {x : Int32} (h : fP S T) (hk : scP k m = true) : fP S (sUp T k i j m x) := by
  intro k' i' j' m' hs
  rw [← h k' i' j' m' hs]
  unfold sUp
  rw [if_neg]
  rintro ⟨rfl, -, -, rfl⟩
  rw [hk] at hs
  exact absurd hs (by decide)
theorem fP_T {S T : bSt} (h : fP S T) : fT S T := by
  intro k i j m hs
  refine h k i j m ?_
  unfold scT at hs
  unfold scP
  revert hs
  cases (k == 40) <;> cases (m == 17) <;> cases (m == 18) <;> simp
theorem mT_at {tx : Nat → Nat} {e p p' : Nat} {w : Bool} {S : bSt} (h : mT tx e (p, w) S) (hp : p' ≤ e) : mT tx e (p', w) (sUp S 40 0 0 17 (nI p')) := by
  obtain ⟨h1, h2, h3, h4, h5, h6, h7⟩ := h
  refine ⟨hp, h2, h3, fun m hm => ?_, ?_, sUp_same, ?_⟩
  · rw [sUp_kind (by decide)]; exact h4 m hm
  · rw [sUp_slot (by decide)]; exact h5
  · rw [sUp_slot (by decide)]; exact h7
theorem mT_wr {tx : Nat → Nat} {e p : Nat} {w w' : Bool} {S : bSt} (h : mT tx e (p, w) S) : mT tx e (p, w') (sUp S 40 0 0 18 (tf w')) := by
  obtain ⟨h1, h2, h3, h4, h5, h6, h7⟩ := h
  refine ⟨h1, h2, h3, fun m hm => ?_, ?_, ?_, sUp_same⟩
  · rw [sUp_kind (by decide)]; exact h4 m hm
  · rw [sUp_slot (by decide)]; exact h5
  · rw [sUp_slot (by decide)]; exact h6
def eX (tx : Nat → Nat) (e s : Nat) (q : Nat × Bool) : Nat × Bool := if isA tx e q s s = true then (q.1 + 1, q.2) else (q.1, true)
def dG (tx : Nat → Nat) (e l : Nat) (q : Nat × Bool) : (Nat × Bool) × Nat := if isA tx e q l 57 = true then ((q.1 + 1, q.2), tx q.1 - 48) else ((q.1, true), 0)
theorem isA_lt {tx : Nat → Nat} {e lo hi : Nat} {q : Nat × Bool} (h : isA tx e q lo hi = true) : q.2 = false ∧ q.1 < e ∧ lo ≤ tx q.1 ∧ tx q.1 ≤ hi := by
  unfold isA at h
  simpa using h
variable {d : Nat} {S : bSt} {tx : Nat → Nat} {e : Nat}
theorem c_isAt (hd : 1 ≤ d) {q : Nat × Bool} (h : mT tx e q S) {lo hi : Nat} (hlo : lo < 1000) (hhi : hi < 1000) : Ret d 184 [vR 40 0 0, vI (nI lo), vI (nI hi)] S (some (vI (tf (isA tx e q lo hi)))) S := by
  obtain ⟨p, w⟩ := q
  obtain ⟨h1, h2, h3, h4, h5, h6, h7⟩ := h
  dsimp only at h1 h6 h7
  refine E_184 ?_
  refine (B_184_0).mpr ?_
  rw [h7]
  unfold isA
  rotate_left
  refine icb (fun g => ?_) (fun g => ?_)
  · refine (B_184_7).mpr ?_
    rw [h5, h6]
    refine icT (qI_le (by omega) (by omega)) (fun g1 => ?_) (fun g1 => ?_)
    · refine (B_184_39).mpr ?_
      refine (B_184_40 (Or.inl rfl)).mpr ?_
      exact ⟨by simp [g, show ¬ p < e by omega, tf], rfl⟩
    have h8 := h3 p (by omega)
    refine (B_184_18 (n1_ := p) (by omega) h6 (by omega) c_isIn).mpr ?_
    rw [h4 p (by omega), show tf (decide (nI lo ≤ nI (tx p)) && decide (nI (tx p) ≤ nI hi)) = tf (decide (lo ≤ tx p) && decide (tx p ≤ hi)) by rw [decide_eq_decide.mpr (qI_le (by omega) (by omega)), decide_eq_decide.mpr (qI_le (by omega) (by omega))]]
    refine icb (fun g2 => ?_) (fun g2 => ?_)
    · refine (B_184_39).mpr ?_
      refine (B_184_40 (Or.inl rfl)).mpr ?_
      exact ⟨by simp [g, g2, tf], rfl⟩
    refine (B_184_35).mpr ?_
    refine (B_184_40 (Or.inr rfl)).mpr ?_
    exact ⟨by simp [g, g2, tf, show p < e by omega], rfl⟩
  refine (B_184_39).mpr ?_
  refine (B_184_40 (Or.inl rfl)).mpr ?_
  exact ⟨by simp [g, tf], rfl⟩
theorem c_expects (hd : 2 ≤ d) {q : Nat × Bool} (h : mT tx e q S) {s : Nat} (hs : s < 1000) : Wm d 185 [vR 40 0 0, vI (nI s)] S (fun r S' => r = none ∧ fP S S' ∧ mT tx e (eX tx e s q) S') := by
  refine EW_185 ?_
  refine (B_185_0 (by omega) (c_isAt (by omega) h hs hs)).mpr ?_
  unfold eX
  refine icb (fun g => ?_) (fun g => ?_)
  · refine (B_185_22).mpr ?_
    refine (B_185_27).mpr ?_
    rw [if_neg (by rw [g]; decide)]
    exact ⟨rfl, fP_up (fP_refl S) rfl, mT_wr (w' := true) h⟩
  refine (B_185_9).mpr ?_
  refine (B_185_27).mpr ?_
  rw [if_pos g, h.2.2.2.2.2.1, qI_succ]
  exact ⟨rfl, fP_up (fP_refl S) rfl, mT_at h (isA_lt g).2.1⟩
theorem c_digit (hd : 2 ≤ d) {q : Nat × Bool} (h : mT tx e q S) {l : Nat} (hl : l < 1000) (h48 : 48 ≤ l) : Wm d 186 [vR 40 0 0, vI (nI l)] S (fun r S' => r = some (vI (nI (dG tx e l q).2)) ∧ fP S S' ∧ mT tx e (dG tx e l q).1 S') := by
  refine EW_186 ?_
  refine (B_186_0 (by omega) (c_isAt (hi := 57) (by omega) h hl (by omega))).mpr ?_
  unfold dG
  refine icb (fun g => ?_) (fun g => ?_)
  · refine (B_186_10).mpr ?_
    rw [if_neg (by rw [g]; decide)]
    exact ⟨rfl, fP_up (fP_refl S) rfl, mT_wr (w' := true) h⟩
  obtain ⟨-, g1, g2, g3⟩ := isA_lt g
  have h80 := h.2.1
  rw [if_pos g]
  refine (B_186_17 (n1_ := q.1) (by rw [sUp_same, h.2.2.2.2.2.1, qI_succ, nI_m1]) (by omega)).mpr ?_
  rw [h.2.2.2.2.2.1, qI_succ, sUp_kind (by decide), h.2.2.2.1 _ (by omega), show (48 : Int32) = nI 48 from rfl, qI_sub (by omega)]
  exact ⟨rfl, fP_up (fP_refl S) rfl, mT_at h g1⟩
theorem dG_le {l : Nat} {q : Nat × Bool} (h48 : 48 ≤ l) : (dG tx e l q).2 ≤ 9 := by
  unfold dG
  split
  · rename_i h
    have := isA_lt h
    dsimp only
    omega
  · exact Nat.zero_le _
theorem mT_fP {q : Nat × Bool} {T : bSt} (h : mT tx e q S) (hf : ∀ k i j m, (k = 45 ∨ k = 40 ∧ (m = 16 ∨ m = 17 ∨ m = 18)) → T k i j m = S k i j m) : mT tx e q T := by
  obtain ⟨h1, h2, h3, h4, h5, h6, h7⟩ := h
  exact ⟨h1, h2, h3, fun m hm => by rw [hf _ _ _ _ (Or.inl rfl)]; exact h4 m hm, by rw [hf _ _ _ _ (Or.inr ⟨rfl, Or.inl rfl⟩)]; exact h5, by rw [hf _ _ _ _ (Or.inr ⟨rfl, Or.inr (Or.inl rfl)⟩)]; exact h6, by rw [hf _ _ _ _ (Or.inr ⟨rfl, Or.inr (Or.inr rfl)⟩)]; exact h7⟩
/-- strips, x, order: the place behind them, the order, how many (0 if it is wrong) -/
def rS (tx : Nat → Nat) (e : Nat) (q : Nat × Bool) : (Nat × Bool) × Nat × Nat := ((dG tx e 48 (eX tx e 120 (dG tx e 49 q).1)).1, (dG tx e 48 (eX tx e 120 (dG tx e 49 q).1)).2, if (dG tx e 48 (eX tx e 120 (dG tx e 49 q).1)).1.2 = true then 0 else (dG tx e 49 q).2)
def mPat (P : Nat → Nat) (S : bSt) : Prop := ∀ o, o < 10 → S 49 0 0 o = nI (P o)
def addN (P : Nat → Nat) (o x : Nat) : Nat → Nat := fun j => if j = o then P j + x else P j
theorem c_readsStrips (hd : 3 ≤ d) {q : Nat × Bool} (h : mT tx e q S) {P : Nat → Nat} (hP : mPat P S) : Wm d 187 [vR 40 0 0] S (fun r S' => r = none ∧ fT S S' ∧ mT tx e (rS tx e q).1 S' ∧ mPat (addN P (rS tx e q).2.1 (rS tx e q).2.2) S') := by
  refine EW_187 ?_
  obtain ⟨r, S1, e1, rfl, f1, m1⟩ := Wm_ex (c_digit (d := d - 1) (by omega) h (l := 49) (by omega) (by omega))
  obtain ⟨r, S2, e2, rfl, f2, m2⟩ := Wm_ex (c_expects (d := d - 1) (by omega) m1 (s := 120) (by omega))
  obtain ⟨r, S3, e3, rfl, f3, m3⟩ := Wm_ex (c_digit (d := d - 1) (by omega) m2 (l := 48) (by omega) (by omega))
  have hd9 := dG_le (tx := tx) (e := e) (l := 48) (q := eX tx e 120 (dG tx e 49 q).1) (by omega)
  have f123 := fP_trans (fP_trans f1 f2) f3
  refine (B_187_0 (n1_ := (dG tx e 48 (eX tx e 120 (dG tx e 49 q).1)).2) (by omega) e1 e2 e3 rfl (by omega)).mpr ?_
  unfold rS
  have h49 : S3 49 0 0 (dG tx e 48 (eX tx e 120 (dG tx e 49 q).1)).2 = nI (P (dG tx e 48 (eX tx e 120 (dG tx e 49 q).1)).2) := by
    rw [f123 _ _ _ _ rfl]; exact hP _ (by omega)
  rw [m3.2.2.2.2.2.2, h49]
  have fin : ∀ x : Nat, x = (if (dG tx e 48 (eX tx e 120 (dG tx e 49 q).1)).1.2 = true then 0 else (dG tx e 49 q).2) → Wp d 187 39 [some (vR 40 0 0), some (vI (nI (dG tx e 49 q).2)), some (vI (nI (dG tx e 48 (eX tx e 120 (dG tx e 49 q).1)).2))] [vI (nI x), vI (nI (P (dG tx e 48 (eX tx e 120 (dG tx e 49 q).1)).2)), vI (nI (dG tx e 48 (eX tx e 120 (dG tx e 49 q).1)).2), vR 49 0 0] S3 (fun r S' => r = none ∧ fT S S' ∧ mT tx e (dG tx e 48 (eX tx e 120 (dG tx e 49 q).1)).1 S' ∧ mPat (addN P (dG tx e 48 (eX tx e 120 (dG tx e 49 q).1)).2 (if (dG tx e 48 (eX tx e 120 (dG tx e 49 q).1)).1.2 = true then 0 else (dG tx e 49 q).2)) S') := by
    intro x hx
    refine (B_187_39 (n1_ := (dG tx e 48 (eX tx e 120 (dG tx e 49 q).1)).2) rfl (by omega)).mpr ?_
    rw [← hx]
    refine ⟨rfl, fT_up (fP_T f123) rfl, mT_fP m3 (fun k i j m hk => ?_), fun o ho => ?_⟩
    · rw [sUp_kind]
      rcases hk with rfl | ⟨rfl, -⟩ <;> decide
    · unfold addN
      by_cases g : o = (dG tx e 48 (eX tx e 120 (dG tx e 49 q).1)).2
      · rw [if_pos g, ← g, sUp_same, g, qI_add]
      · rw [if_neg g, sUp_slot g, f123 _ _ _ _ rfl]; exact hP o ho
  refine icb (fun g => ?_) (fun g => ?_)
  · refine (B_187_38).mpr ?_
    exact fin _ (by rw [g]; rfl)
  refine (B_187_34).mpr ?_
  exact fin 0 (by rw [if_pos g])
/-- the rest of a pattern: "+" and strips while there are any -/
def rPl (tx : Nat → Nat) (e : Nat) : Nat → (Nat × Bool) → (Nat → Nat) → (Nat × Bool) × (Nat → Nat)
  | 0, q, P => (q, P)
  | n + 1, q, P => if q.2 = false ∧ q.1 < e then (if (eX tx e 43 q).2 = true then (eX tx e 43 q, P) else rPl tx e n (rS tx e (eX tx e 43 q)).1 (addN P (rS tx e (eX tx e 43 q)).2.1 (rS tx e (eX tx e 43 q)).2.2)) else (q, P)
def rP (tx : Nat → Nat) (e : Nat) : (Nat × Bool) × (Nat → Nat) := rPl tx e 100 (rS tx e (0, false)).1 (addN (fun _ => 0) (rS tx e (0, false)).2.1 (rS tx e (0, false)).2.2)
theorem eX_adv {s : Nat} {q : Nat × Bool} (h : (eX tx e s q).2 = false) : (eX tx e s q).1 = q.1 + 1 ∧ q.2 = false := by
  unfold eX at *
  split at h
  · rename_i g
    rw [if_pos g]
    exact ⟨rfl, h⟩
  · exact absurd h (by simp)
theorem dG_adv {s : Nat} {q : Nat × Bool} (h : (dG tx e s q).1.2 = false) : (dG tx e s q).1.1 = q.1 + 1 ∧ q.2 = false := by
  unfold dG at *
  split at h
  · rename_i g
    rw [if_pos g]
    exact ⟨rfl, h⟩
  · exact absurd h (by simp)
theorem rS_adv {q : Nat × Bool} (h : (rS tx e q).1.2 = false) : (rS tx e q).1.1 = q.1 + 3 := by
  unfold rS at *
  obtain ⟨h1, h2⟩ := dG_adv h
  obtain ⟨h3, h4⟩ := eX_adv h2
  obtain ⟨h5, h6⟩ := dG_adv h4
  show (dG tx e 48 (eX tx e 120 (dG tx e 49 q).1)).1.1 = _
  omega
theorem c_rp_go : ∀ (n : Nat) {d : Nat} {S S0 : bSt} {q : Nat × Bool} {P : Nat → Nat} {x1 : Int32} {Q : Option bV → bSt → Prop}, 4 ≤ d → mT tx e q S → mPat P S → (q.2 = false → e + 1 ≤ n + q.1) → 1 ≤ n → fT S0 S → (∀ S', fT S0 S' → mT tx e (rPl tx e n q P).1 S' → mPat (rPl tx e n q P).2 S' → Q none S') → Wp d 188 29 [some (vR 40 0 0), some (vI x1)] [] S Q := by
  intro n
  induction n with
  | zero => intro d S S0 q P x1 Q hd h hP hn hn1; omega
  | succ n ih =>
    intro d S S0 q P x1 Q hd h hP hn hn1 hf hQ
    unfold rPl at hQ
    refine (B_188_29).mpr ?_
    rw [h.2.2.2.2.2.2]
    rotate_left
    refine icb (fun g => ?_) (fun g => ?_)
    · refine (B_188_36).mpr ?_
      have he := h.2.1
      have hq := h.1
      rw [h.2.2.2.2.1, h.2.2.2.2.2.1]
      refine icT (qI_le (by omega) (by omega)) (fun g1 => ?_) (fun g1 => ?_)
      · refine (B_188_67).mpr ?_
        rw [if_neg (by omega)] at hQ
        exact hQ S hf h hP
      rw [if_pos ⟨g, by omega⟩] at hQ
      obtain ⟨r, S1, e1, rfl, f1, m1⟩ := Wm_ex (c_expects (d := d - 1) (by omega) h (s := 43) (by omega))
      have hP1 : mPat P S1 := fun o ho => by rw [f1 _ _ _ _ rfl]; exact hP o ho
      refine (B_188_47 (by omega) e1).mpr ?_
      rw [m1.2.2.2.2.2.2]
      refine icb (fun g2 => ?_) (fun g2 => ?_)
      · rw [if_neg (by rw [g2]; decide)] at hQ
        obtain ⟨r, S2, e2, rfl, f2, m2, p2⟩ := Wm_ex (c_readsStrips (d := d - 1) (by omega) m1 hP1)
        refine (B_188_60 (by omega) e2).mpr ?_
        have hadv := (eX_adv g2).1
        have hn' := hn g
        refine ih (S0 := S0) hd m2 p2 (fun hw => ?_) (by omega) (fT_trans (fT_trans hf (fP_T f1)) f2) hQ
        have := rS_adv hw
        omega
      rw [if_pos g2] at hQ
      -- the loop's test ends it
      refine (B_188_29).mpr ?_
      rw [m1.2.2.2.2.2.2]
      rw [if_neg (by rw [g2]; decide)]
      refine (B_188_67).mpr ?_
      exact hQ S1 (fT_trans hf (fP_T f1)) m1 hP1
    refine (B_188_67).mpr ?_
    rw [if_neg (by rw [g]; simp)] at hQ
    exact hQ S hf h hP
theorem c_takes {t : Nat} (ht : t ≤ 80) (h7 : S 40 0 0 7 = nI t) (h3 : ∀ m, m < 80 → tx m < 127) (h4 : ∀ m, m < 80 → S 45 0 0 m = nI (tx m)) : Ret d 183 [vR 40 0 0] S none (sUp (sUp (sUp (sUp S 40 0 0 16 (nI t)) 40 0 0 7 0) 40 0 0 17 0) 40 0 0 18 0) ∧ mT tx t (0, false) (sUp (sUp (sUp (sUp S 40 0 0 16 (nI t)) 40 0 0 7 0) 40 0 0 17 0) 40 0 0 18 0) := by
  refine ⟨E_183 ?_, Nat.zero_le _, ht, h3, fun m hm => ?_, ?_, ?_, ?_⟩
  · refine (B_183_0).mpr ?_
    rw [h7]
    exact ⟨rfl, rfl⟩
  · rw [sUp_kind (by decide), sUp_kind (by decide), sUp_kind (by decide), sUp_kind (by decide)]; exact h4 m hm
  · rw [sUp_slot (by decide), sUp_slot (by decide), sUp_slot (by decide), sUp_same]
  · rw [sUp_slot (by decide), sUp_same]; rfl
  · rw [sUp_same]; rfl
/-- what the reading of the text changes -/
def scR (k m : Nat) : Bool := scT k m || (k == 40 && (m == 16 || m == 7))
def fR (S S' : bSt) : Prop := ∀ k i j m, scR k m = false → S' k i j m = S k i j m
theorem fR_trans {S T U : bSt} (h : fR S T) (g : fR T U) : fR S U := fun k i j m hm => (g k i j m hm).trans (h k i j m hm)
theorem fT_R {S T : bSt} (h : fT S T) : fR S T := by
  intro k i j m hs
  refine h k i j m ?_
  unfold scR at hs
  simp only [Bool.or_eq_false_iff] at hs
  exact hs.1
theorem fR_up {S T : bSt} {k i j m : Nat} {x : Int32} (h : fR S T) (hk : scR k m = true) : fR S (sUp T k i j m x) := by
  intro k' i' j' m' hs
  rw [← h k' i' j' m' hs]
  unfold sUp
  rw [if_neg]
  rintro ⟨rfl, -, -, rfl⟩
  rw [hk] at hs
  exact absurd hs (by decide)
theorem c_readsPattern (hd : 4 ≤ d) {t : Nat} (ht : t ≤ 80) (h7 : S 40 0 0 7 = nI t) (h3 : ∀ m, m < 80 → tx m < 127) (h4 : ∀ m, m < 80 → S 45 0 0 m = nI (tx m)) : Wm d 188 [vR 40 0 0] S (fun r S' => r = none ∧ fR S S' ∧ S' 40 0 0 7 = 0 ∧ mT tx t (rP tx t).1 S' ∧ mPat (rP tx t).2 S') := by
  refine EW_188 ?_
  obtain ⟨e1, m1⟩ := c_takes (d := d - 1) ht h7 h3 h4
  refine (B_188_0 (by omega) e1).mpr ?_
  have f1 : fR S (sUp (sUp (sUp (sUp S 40 0 0 16 (nI t)) 40 0 0 7 0) 40 0 0 17 0) 40 0 0 18 0) := fR_up (fR_up (fR_up (fR_up (fun _ _ _ _ _ => rfl) rfl) rfl) rfl) rfl
  have s7 : sUp (sUp (sUp (sUp S 40 0 0 16 (nI t)) 40 0 0 7 0) 40 0 0 17 0) 40 0 0 18 0 40 0 0 7 = 0 := by
    rw [sUp_slot (by decide), sUp_slot (by decide), sUp_same]
  generalize sUp (sUp (sUp (sUp S 40 0 0 16 (nI t)) 40 0 0 7 0) 40 0 0 17 0) 40 0 0 18 0 = T at *
  refine wloopI 10 (fun m ls U => ls = [some (vR 40 0 0), some (vI (nI m))] ∧ fT T U ∧ mT tx t (0, false) U ∧ (∀ o, o < m → U 49 0 0 o = 0)) ?_ ?_ ⟨rfl, fT_refl T, m1, fun o h => absurd h (Nat.not_lt_zero _)⟩
  · rintro ls U ⟨rfl, hf, hm, hp⟩
    refine (B_188_6).mpr ?_
    rw [if_pos (by decide)]
    obtain ⟨r, S2, e2, rfl, f2, m2, p2⟩ := Wm_ex (c_readsStrips (d := d - 1) (by omega) hm (P := fun _ => 0) (fun o ho => hp o ho))
    refine (B_188_25 (by omega) e2).mpr ?_
    refine c_rp_go 100 (S0 := T) hd m2 p2 (fun _ => by omega) (by omega) (fT_trans hf f2) (fun S' h1 h2 h3 => ⟨rfl, fR_trans f1 (fT_R h1), ?_, h2, h3⟩)
    rw [h1 _ _ _ _ rfl]
    exact s7
  · rintro m hm ls U ⟨rfl, hf, hm', hp⟩ hn
    refine (B_188_6).mpr ?_
    rw [if_neg (by rw [show (10 : Int32) = nI 10 from rfl, qI_le (by omega) (by omega)]; omega)]
    refine (B_188_12 (n1_ := m) rfl hm).mpr ?_
    rw [qI_succ]
    refine hn _ _ ⟨rfl, fT_up hf rfl, mT_fP hm' (fun k i j m hk => ?_), fun o ho => ?_⟩
    · rw [sUp_kind]
      rcases hk with rfl | ⟨rfl, -⟩ <;> decide
    · by_cases g : o = m
      · subst g; exact sUp_same
      · rw [sUp_slot g]; exact hp o (by omega)
end M15i
