/-! THE CLASS: commands are read -/
section M19b
variable {d : Nat} {S : bSt} {i : Nat} {tx : Nat → Nat} {e : Nat}
theorem bk30 {i : Nat} (h : i < 20) : bok 30 i 0 = true := by simp [bok, kDim, h]
theorem bk31 {i : Nat} (h : i < 20) : bok 31 i 0 = true := by simp [bok, kDim, h]
/-- a command and the place are written -/
def fCi (i : Nat) (S S' : bSt) : Prop := ∀ k i' j m, ¬ ((k = 30 ∨ k = 31) ∧ i' = i) → ¬ (k = 26 ∧ m = 2) → S' k i' j m = S k i' j m
theorem fCi_refl (i : Nat) (S : bSt) : fCi i S S := fun _ _ _ _ _ _ => rfl
theorem fCi_trans {i : Nat} {S T U : bSt} (h : fCi i S T) (g : fCi i T U) : fCi i S U := fun k i' j m h1 h2 => (g k i' j m h1 h2).trans (h k i' j m h1 h2)
theorem fCi_26 {i : Nat} {S T : bSt} {x : Int32} (h : fCi i S T) : fCi i S (sUp T 26 0 0 2 x) := by
  intro k i' j m h1 h2
  rw [← h k i' j m h1 h2]
  unfold sUp
  rw [if_neg (fun q => h2 ⟨q.1, q.2.2.2⟩)]
theorem fCi_30 {i k0 m0 : Nat} {S T : bSt} {x : Int32} (hk : k0 = 30 ∨ k0 = 31) (h : fCi i S T) : fCi i S (sUp T k0 i 0 m0 x) := by
  intro k i' j m h1 h2
  rw [← h k i' j m h1 h2]
  unfold sUp
  rw [if_neg (fun q => h1 ⟨by omega, q.2.1⟩)]
theorem cT_f {S' : bSt} (hf : ∀ k i j m, (k = 26 ∧ m = 1) ∨ k = 27 → S' k i j m = S k i j m) {t : Nat} (h : cT tx t S) : cT tx t S' :=
  ⟨by rw [hf _ _ _ _ (by omega)]; exact h.1, h.2.1, h.2.2.1, fun m hm => by rw [hf _ _ _ _ (by omega)]; exact h.2.2.2 m hm⟩
theorem cS_up {p p' : Nat} (h : cS tx e p S) (hp : p' ≤ e) : cS tx e p' (sUp S 26 0 0 2 (nI p')) :=
  ⟨cT_f (fun k i j m hk => by unfold sUp; rw [if_neg (by omega)]) h.1, sUp_same, hp⟩
theorem cS_30 {i k0 m0 p : Nat} {x : Int32} (hk : k0 = 30 ∨ k0 = 31) (h : cS tx e p S) : cS tx e p (sUp S k0 i 0 m0 x) :=
  ⟨cT_f (fun k i j m hk' => sUp_kind (by omega)) h.1, by rw [sUp_kind (by omega)]; exact h.2.1, h.2.2⟩
theorem nUl_ok : ∀ n p v, (nUl tx e n (p, false) v).1.2 = false := by
  intro n
  induction n with
  | zero => intro p v; rfl
  | succ n ih =>
    intro p v
    unfold nUl
    split
    · rename_i h
      have : dG tx e 48 (p, false) = ((p + 1, false), tx p - 48) := by unfold dG; rw [h, if_pos rfl]
      rw [this]
      exact ih _ _
    · rfl
theorem nUl_w : ∀ n p v, nUl tx e n (p, true) v = ((p, true), v) := by
  intro n
  cases n with
  | zero => intro p v; rfl
  | succ n => intro p v; unfold nUl; rw [isA_w, if_neg (by decide)]
theorem nUl_e : ∀ n p v, p ≤ e → (nUl tx e n (p, false) v).1.1 ≤ e := by
  intro n
  induction n with
  | zero => intro p v h; exact h
  | succ n ih =>
    intro p v hp
    unfold nUl
    split
    · rename_i h
      have : dG tx e 48 (p, false) = ((p + 1, false), tx p - 48) := by unfold dG; rw [h, if_pos rfl]
      rw [this]
      have := (isA_lt h).2.1
      exact ih _ _ this
    · exact hp
/-- a blank and a number -/
def rdN (tx : Nat → Nat) (e p : Nat) : (Nat × Bool) × Nat := if (eX tx e 32 (p, false)).2 = true then (eX tx e 32 (p, false), 0) else nU tx e (eX tx e 32 (p, false))
theorem k_readNumber (hd : 2 ≤ d) {p n : Nat} (h : cS tx e p S) (hi : i < 20) (hn : n < 6) : Wm d 93 [vR 26 0 0, vR 30 i 0, vI (nI n)] S (fun q S' => q = some (vI (tf (!(rdN tx e p).1.2))) ∧ fCi i S S' ∧ (∀ m, m ≠ n → S' 31 i 0 m = S 31 i 0 m) ∧ (∀ m, S' 30 i 0 m = S 30 i 0 m) ∧ cS tx e (rdN tx e p).1.1 S' ∧ ((rdN tx e p).1.2 = false → S' 31 i 0 n = nI (rdN tx e p).2)) := by
  have h' := h
  obtain ⟨⟨t1, t2, t3, t4⟩, h2, hp⟩ := h'
  refine EW_93 ?_
  refine (B_93_0 (by omega) (by rw [show (32 : Int32) = nI 32 from rfl]; exact k_stands h (by omega))).mpr ?_
  unfold rdN
  refine icb (fun g => ?_) (fun g => ?_)
  · refine (B_93_9).mpr ?_
    have : eX tx e 32 (p, false) = (p, true) := by unfold eX; rw [g, if_neg (by decide)]
    rw [this, if_pos rfl]
    exact ⟨rfl, fCi_refl i S, fun _ _ => rfl, fun _ => rfl, h, fun hh => absurd (show true = false from hh) (by decide)⟩
  have ex : eX tx e 32 (p, false) = (p + 1, false) := by unfold eX; rw [g, if_pos rfl]
  have hpe := (isA_lt g).2.1
  dsimp only at hpe
  rw [ex, if_neg (fun z => absurd (show false = true from z) (by decide))]
  refine (B_93_11).mpr ?_
  rw [h2, qI_succ]
  -- up to three digits
  have loop : ∀ (k c0 p' v : Nat) (T : bSt), c0 + k = 3 → fCi i S T → (∀ m, T 31 i 0 m = S 31 i 0 m) → (∀ m, T 30 i 0 m = S 30 i 0 m) → cS tx e p' T → ∀ {Q : Option bV → bSt → Prop}, (∀ (T' : bSt) (c1 : Nat), fCi i S T' → (∀ m, T' 31 i 0 m = S 31 i 0 m) → (∀ m, T' 30 i 0 m = S 30 i 0 m) → cS tx e (nUl tx e k (p', false) v).1.1 T' → ((c1 = c0 ∧ (k = 0 ∨ isA tx e (p', false) 48 57 = false)) ∨ (c0 < c1 ∧ c1 ≤ 3 ∧ isA tx e (p', false) 48 57 = true)) → Wp d 93 92 [some (vR 26 0 0), some (vR 30 i 0), some (vI (nI n)), some (vI (nI (nUl tx e k (p', false) v).2)), some (vI (nI c1))] [] T' Q) → Wp d 93 26 [some (vR 26 0 0), some (vR 30 i 0), some (vI (nI n)), some (vI (nI v)), some (vI (nI c0))] [] T Q := by
    intro k
    induction k with
    | zero =>
      intro c0 p' v T hk hf h31 h30 hT Q hQ
      refine (B_93_26).mpr ?_
      rw [if_pos (by rw [show (3 : Int32) = nI 3 from rfl, qI_le (by omega) (by omega)]; omega)]
      exact hQ T c0 hf h31 h30 hT (Or.inl ⟨rfl, Or.inl rfl⟩)
    | succ k ih =>
      intro c0 p' v T hk hf h31 h30 hT Q hQ
      obtain ⟨⟨u1, u2, u3, u4⟩, g2, hp'⟩ := hT
      refine (B_93_26).mpr ?_
      rw [if_neg (by rw [show (3 : Int32) = nI 3 from rfl, qI_le (by omega) (by omega)]; omega)]
      refine (B_93_32).mpr ?_
      rw [u1, g2]
      have stop : isA tx e (p', false) 48 57 = false → Wp d 93 92 [some (vR 26 0 0), some (vR 30 i 0), some (vI (nI n)), some (vI (nI v)), some (vI (nI c0))] [] T Q := by
        intro hA
        have er : nUl tx e (k + 1) (p', false) v = ((p', false), v) := by
          unfold nUl
          rw [hA, if_neg (by decide)]
        have := hQ T c0 hf h31 h30 (by rw [er]; exact ⟨⟨u1, u2, u3, u4⟩, g2, hp'⟩) (Or.inl ⟨rfl, Or.inr hA⟩)
        rw [er] at this
        exact this
      refine icT (qI_le (by omega) (by omega)) (fun gl => ?_) (fun gl => ?_)
      · refine stop ?_
        obtain rfl : p' = e := by omega
        exact isA_e
      have tb := u3 p' (by omega)
      refine (B_93_43 (n1_ := p') (by omega) g2 (by omega) (by rw [u4 p' (by omega)]; exact k_isDigit (by omega))).mpr ?_
      have eA := isA_f (tx := tx) (e := e) (q := p') (lo := 48) (hi := 57) (by omega)
      rw [← eA]
      refine icb (fun gd => ?_) (fun gd => ?_)
      · exact stop gd
      have h48 := (isA_lt gd).2.2.1
      have h57 := (isA_lt gd).2.2.2
      dsimp only at h48 h57
      refine (B_93_58 (n1_ := p') g2 (by omega)).mpr ?_
      have ed : dG tx e 48 (p', false) = ((p' + 1, false), tx p' - 48) := by unfold dG; rw [gd, if_pos rfl]
      have er : nUl tx e (k + 1) (p', false) v = nUl tx e k (p' + 1, false) (10 * v + (tx p' - 48)) := by
        show (if _ then _ else _) = _
        rw [if_pos gd, ed]
      rw [er] at hQ
      rw [g2, qI_succ, qI_succ, u4 p' (by omega), show nI (tx p') - 48 = nI (tx p' - 48) from qI_sub (b := 48) h48, show (10 : Int32) = nI 10 from rfl, ← qI_mul, ← qI_add]
      exact ih (c0 + 1) (p' + 1) (10 * v + (tx p' - 48)) _ (by omega) (fCi_26 hf) (fun m => by rw [sUp_kind (by decide)]; exact h31 m) (fun m => by rw [sUp_kind (by decide)]; exact h30 m) (cS_up ⟨⟨u1, u2, u3, u4⟩, g2, hp'⟩ (by omega)) (fun T' c1 q1 q2 q3 q4 q5 => hQ T' c1 q1 q2 q3 q4 (Or.inr ⟨by omega, by omega, gd⟩))
  refine loop 3 0 (p + 1) 0 _ rfl (fCi_26 (fCi_refl i S)) (fun m => sUp_kind (by decide)) (fun m => sUp_kind (by decide)) (cS_up h (by omega)) (fun T' c1 q1 q2 q3 q4 q5 => ?_)
  refine (B_93_92 (n1_ := n) (bk30 hi) rfl hn (bk31 hi)).mpr ?_
  have m31 : ∀ x m, m ≠ n → sUp T' 31 i 0 n x 31 i 0 m = S 31 i 0 m := fun x m hm => by rw [sUp_slot hm]; exact q2 m
  have m30 : ∀ x m, sUp T' 31 i 0 n x 30 i 0 m = S 30 i 0 m := fun x m => by rw [sUp_kind (by decide)]; exact q3 m
  rcases q5 with ⟨rfl, q5⟩ | ⟨q5, q6, q7⟩
  · have hA : isA tx e (p + 1, false) 48 57 = false := by
      rcases q5 with q5 | q5
      · omega
      · exact q5
    have e3 : nUl tx e 3 (p + 1, false) 0 = ((p + 1, false), 0) := by
      unfold nUl
      rw [hA, if_neg (by decide)]
    have en : nU tx e (p + 1, false) = ((p + 1, true), 0) := by
      unfold nU
      have : dG tx e 48 (p + 1, false) = ((p + 1, true), 0) := by unfold dG; rw [hA, if_neg (by decide)]
      rw [this]
      exact nUl_w 2 _ _
    rw [if_pos (by decide)]
    refine (B_93_108).mpr ?_
    refine (B_93_109 (Or.inl rfl)).mpr ?_
    rw [en]
    rw [e3] at q4
    exact ⟨rfl, fCi_30 (Or.inr rfl) q1, m31 _, m30 _, cS_30 (Or.inr rfl) q4, fun hh => absurd (show true = false from hh) (by decide)⟩
  · have ed : dG tx e 48 (p + 1, false) = ((p + 2, false), tx (p + 1) - 48) := by unfold dG; rw [q7, if_pos rfl]
    have en : nUl tx e 3 (p + 1, false) 0 = nU tx e (p + 1, false) := by
      show (if _ then _ else _) = _
      rw [if_pos q7]
      unfold nU
      rw [Nat.mul_zero, Nat.zero_add]
    have eok : (nU tx e (p + 1, false)).1.2 = false := by
      rw [← en]
      exact nUl_ok 3 _ _
    rw [if_neg (by rw [show (0 : Int32) = nI 0 from rfl, qI_le (by omega) (by omega)]; omega)]
    refine (B_93_104).mpr ?_
    refine (B_93_109 (Or.inr rfl)).mpr ?_
    rw [en] at q4 ⊢
    rw [eok]
    exact ⟨rfl, fCi_30 (Or.inr rfl) q1, m31 _, m30 _, cS_30 (Or.inr rfl) q4, fun _ => sUp_same⟩
theorem isW_len {p q b l : Nat} (h : isW tx p q b l = true) : l = q - p := by
  unfold isW at h
  rw [Bool.and_eq_true, decide_eq_true_eq] at h
  exact h.2
theorem wrd_5 {p q : Nat} : wrd tx p q = 5 ↔ isW tx p q (wb 5) (wlen 5) = true := by
  have hl : wlen 0 = 5 ∧ wlen 1 = 4 ∧ wlen 2 = 3 ∧ wlen 3 = 3 ∧ wlen 4 = 7 ∧ wlen 5 = 6 := by decide
  obtain ⟨l0, l1, l2, l3, l4, l5⟩ := hl
  rw [wrd_eq]
  constructor
  · intro h
    split at h
    · cases h
    · split at h
      · cases h
      · split at h
        · cases h
        · split at h
          · cases h
          · split at h
            · cases h
            · split at h
              · assumption
              · cases h
  · intro h
    have h6 := isW_len h
    have no : ∀ b l, l ≠ 6 → ¬ isW tx p q b l = true := fun b l hl hh => by have := isW_len hh; omega
    rw [if_neg (no _ _ (by omega)), if_neg (no _ _ (by omega)), if_neg (no _ _ (by omega)), if_neg (no _ _ (by omega)), if_neg (no _ _ (by omega)), if_pos h]
/-- the end of an order -/
def rdB (tx : Nat → Nat) (e p : Nat) : (Nat × Bool) × Bool := if isA tx e (p, false) 32 32 = true then (if wrd tx (p + 1) (leE tx e (p + 1)) = 5 then ((leE tx e (p + 1), false), true) else ((p + 1, true), false)) else ((p, false), false)
theorem k_readBetter (hd : 5 ≤ d) {p : Nat} (h : cS tx e p S) (hi : i < 20) : Wm d 94 [vR 26 0 0, vR 30 i 0] S (fun q S' => q = some (vI (tf (!(rdB tx e p).1.2))) ∧ fCi i S S' ∧ (∀ m, m ≠ 5 → S' 31 i 0 m = S 31 i 0 m) ∧ (∀ m, S' 30 i 0 m = S 30 i 0 m) ∧ cS tx e (rdB tx e p).1.1 S' ∧ S' 31 i 0 5 = tf (rdB tx e p).2) := by
  refine EW_94 ?_
  have h1 : cS tx e p (sUp S 31 i 0 5 0) := cS_30 (Or.inr rfl) h
  refine (B_94_0 (by omega) (bk30 hi) (bk31 hi) (by rw [show (32 : Int32) = nI 32 from rfl]; exact k_stands h1 (by omega))).mpr ?_
  unfold rdB
  refine icb (fun g => ?_) (fun g => ?_)
  · refine (B_94_16).mpr ?_
    rw [g, if_neg (by decide)]
    exact ⟨rfl, fCi_30 (Or.inr rfl) (fCi_refl i S), fun m hm => sUp_slot hm, fun m => sUp_kind (by decide), h1, sUp_same⟩
  have hpe := (isA_lt g).2.1
  dsimp only at hpe
  rw [if_pos g]
  have h2 : cS tx e (p + 1) (sUp (sUp S 31 i 0 5 0) 26 0 0 2 (nI (p + 1))) := cS_up h1 hpe
  have hh := k_isHere (d := d - 1) (S := sUp (sUp S 31 i 0 5 0) 26 0 0 2 (nI (p + 1))) (by omega) (n := 5) h2 (by omega)
  refine (B_94_18 (by omega) (by rw [h1.2.1, qI_succ]; exact hh)).mpr ?_
  have hle := leE_le (tx := tx) (e := e) (p := p + 1) hpe
  refine icb (fun g2 => ?_) (fun g2 => ?_)
  · refine (B_94_37).mpr ?_
    rw [if_neg (fun z => by rw [wrd_5.mp z] at g2; exact absurd g2 (by decide))]
    exact ⟨rfl, fCi_26 (fCi_30 (Or.inr rfl) (fCi_refl i S)), fun m hm => by rw [sUp_kind (by decide), sUp_slot hm], fun m => by rw [sUp_kind (by decide), sUp_kind (by decide)], h2, by rw [sUp_kind (by decide), sUp_same]; rfl⟩
  rw [if_pos (wrd_5.mpr g2)]
  have hl := isW_len g2
  have l5 : wlen 5 = 6 := by decide
  have ele : nI (p + 1) + nI (bTl.getD 5 0) = nI (leE tx e (p + 1)) := by
    rw [← qI_add]
    congr 1
    show p + 1 + 6 = _
    omega
  refine (B_94_39 (by omega) (s_length (by omega) (by omega)) (by decide) (bk30 hi) (bk31 hi)).mpr ?_
  rw [sUp_same, ele]
  refine ⟨rfl, fCi_30 (Or.inr rfl) (fCi_26 (fCi_26 (fCi_30 (Or.inr rfl) (fCi_refl i S)))), fun m hm => by rw [sUp_slot hm, sUp_kind (by decide), sUp_kind (by decide), sUp_slot hm], fun m => by rw [sUp_kind (by decide), sUp_kind (by decide), sUp_kind (by decide), sUp_kind (by decide)], cS_30 (Or.inr rfl) (cS_up h2 hle.2), sUp_same⟩
/-- the class's command i -/
def mCmd (i : Nat) (c : Cmd) (S : bSt) : Prop := S 30 i 0 0 = nI c.2.1 ∧ c.2.1 ≤ 4 ∧ (∀ m, m < nbO c.2.1 → S 31 i 0 m = nI (c.2.2.1 m)) ∧ (c.2.1 = 0 → S 31 i 0 5 = tf c.2.2.2)
theorem nmL_rd {n k p : Nat} {nu : Nat → Nat} : nmL tx e (n + 1) k (p, false) nu = if (rdN tx e p).1.2 = true then ((rdN tx e p).1, (nmL tx e (n + 1) k (p, false) nu).2) else nmL tx e n (k + 1) (rdN tx e p).1 (updN nu k (rdN tx e p).2) := by
  have wr : ∀ (n k p : Nat) (nu : Nat → Nat), (nmL tx e n k (p, true) nu).1 = (p, true) := by
    intro n k p nu
    cases n with
    | zero => rfl
    | succ n => unfold nmL; rw [if_pos rfl]
  have e1 : nmL tx e (n + 1) k (p, false) nu = if (eX tx e 32 (p, false)).2 = true then nmL tx e n (k + 1) (eX tx e 32 (p, false)) (updN nu k 0) else nmL tx e n (k + 1) (nU tx e (eX tx e 32 (p, false))).1 (updN nu k (nU tx e (eX tx e 32 (p, false))).2) := by
    show (if _ then _ else _) = _
    rw [if_neg (fun z => absurd (show false = true from z) (by decide))]
  rw [e1]
  unfold rdN
  by_cases g : (eX tx e 32 (p, false)).2 = true
  · rw [if_pos g, if_pos g, if_pos g]
    obtain ⟨q1, q2⟩ : ∃ q, eX tx e 32 (p, false) = (q, true) := ⟨(eX tx e 32 (p, false)).1, by rw [← g]⟩
    rw [q2, Prod.ext_iff]
    exact ⟨wr _ _ _ _, rfl⟩
  · rw [if_neg g, if_neg g]
    by_cases g2 : (nU tx e (eX tx e 32 (p, false))).1.2 = true
    · rw [if_pos g2]
      obtain ⟨q1, q2⟩ : ∃ q, (nU tx e (eX tx e 32 (p, false))).1 = (q, true) := ⟨(nU tx e (eX tx e 32 (p, false))).1.1, by rw [← g2]⟩
      rw [q2, Prod.ext_iff]
      exact ⟨wr _ _ _ _, rfl⟩
    · rw [if_neg g2]
theorem nmL_keep : ∀ n k (q : Nat × Bool) (nu : Nat → Nat) j, j < k → (nmL tx e n k q nu).2 j = nu j := by
  intro n
  induction n with
  | zero => intro k q nu j _; rfl
  | succ n ih =>
    intro k q nu j hj
    unfold nmL
    have up : ∀ x, updN nu k x j = nu j := fun x => if_neg (by omega)
    split
    · rfl
    · split
      · rw [ih _ _ _ _ (by omega), up]
      · rw [ih _ _ _ _ (by omega), up]
theorem k_nums (hd : 3 ≤ d) {w : Nat} (hw : w ≤ 4) (hi : i < 20) : ∀ (n k p : Nat) (nu : Nat → Nat) (T : bSt), k + n = nbO w → fCi i S T → (∀ m, T 30 i 0 m = S 30 i 0 m) → cS tx e p T → (∀ m, m < k → T 31 i 0 m = nI (nu m)) → ∀ {Q : Option bV → bSt → Prop}, ((nmL tx e n k (p, false) nu).1.2 = true → ∀ T' x3, fCi i S T' → cS tx e (nmL tx e n k (p, false) nu).1.1 T' → Wp d 88 52 [some (vR 26 0 0), some (vR 30 i 0), some (vI (nI w)), some (vI x3)] [] T' Q) → ((nmL tx e n k (p, false) nu).1.2 = false → ∀ T' x3, fCi i S T' → (∀ m, T' 30 i 0 m = S 30 i 0 m) → cS tx e (nmL tx e n k (p, false) nu).1.1 T' → (∀ m, m < nbO w → T' 31 i 0 m = nI ((nmL tx e n k (p, false) nu).2 m)) → Wp d 88 60 [some (vR 26 0 0), some (vR 30 i 0), some (vI (nI w)), some (vI x3)] [] T' Q) → Wp d 88 35 [some (vR 26 0 0), some (vR 30 i 0), some (vI (nI w)), some (vI (nI k))] [] T Q := by
  have h5 := nbO_le w
  intro n
  induction n with
  | zero =>
    intro k p nu T hk hf h30 hT hnu Q hbad hgood
    refine (B_88_35 (by omega) (k_numbersOf hw)).mpr ?_
    rw [if_pos (by rw [qI_le (by omega) (by omega)]; omega)]
    exact hgood rfl T _ hf h30 hT (fun m hm => hnu m (by omega))
  | succ n ih =>
    intro k p nu T hk hf h30 hT hnu Q hbad hgood
    refine (B_88_35 (by omega) (k_numbersOf hw)).mpr ?_
    rw [if_neg (by rw [qI_le (by omega) (by omega)]; omega)]
    obtain ⟨q, T1, e1, rfl, f1, m1, m0, s1, v1⟩ := Wm_ex (k_readNumber (d := d - 1) (by omega) hT hi (n := k) (by omega))
    refine (B_88_43 (by omega) e1).mpr ?_
    have er := nmL_rd (tx := tx) (e := e) (n := n) (k := k) (p := p) (nu := nu)
    cases hb : (rdN tx e p).1.2 with
    | true =>
      rw [if_pos hb] at er
      have e0 : (nmL tx e (n + 1) k (p, false) nu).1 = (rdN tx e p).1 := by rw [er]
      rw [if_pos (show tf (!true) = 0 from rfl)]
      exact hbad (by rw [e0]; exact hb) T1 _ (fCi_trans hf f1) (by rw [e0]; exact s1)
    | false =>
      rw [if_neg (by rw [hb]; decide)] at er
      obtain ⟨p', hp'⟩ : ∃ p', (rdN tx e p).1 = (p', false) := ⟨(rdN tx e p).1.1, by rw [← hb]⟩
      rw [hp'] at er s1
      rw [er] at hbad hgood
      rw [if_neg (by decide)]
      refine (B_88_54).mpr ?_
      rw [qI_succ]
      refine ih (k + 1) p' (updN nu k (rdN tx e p).2) T1 (by omega) (fCi_trans hf f1) (fun m => by rw [m0]; exact h30 m) s1 (fun m hm => ?_) hbad hgood
      unfold updN
      by_cases g : m = k
      · subst g; rw [if_pos rfl]; exact v1 hb
      · rw [if_neg g, m1 m g]; exact hnu m (by omega)
/-- a command once its numbers are read -/
def cMf (tx : Nat → Nat) (e w : Nat) (R : (Nat × Bool) × (Nat → Nat)) : Cmd := if w = 0 ∧ isA tx e R.1 32 32 = true then (if wrd tx (R.1.1 + 1) (leE tx e (R.1.1 + 1)) = 5 then ((leE tx e (R.1.1 + 1), false), 0, R.2, true) else ((R.1.1 + 1, true), 0, R.2, false)) else (R.1, w, R.2, false)
theorem cM_f {p : Nat} (g : wrd tx p (leE tx e p) ≤ 4) : cM tx e p = cMf tx e (wrd tx p (leE tx e p)) (nmL tx e (nbO (wrd tx p (leE tx e p))) 0 (leE tx e p, false) (fun _ => 0)) := by
  unfold cM
  rw [if_pos g]
  rfl
theorem cM_n {p : Nat} (g : ¬ wrd tx p (leE tx e p) ≤ 4) : cM tx e p = ((p, true), 9, (fun _ => 0), false) := by
  unfold cM
  rw [if_neg g]
theorem cMf_w {w p : Nat} {nu : Nat → Nat} : cMf tx e w ((p, true), nu) = ((p, true), w, nu, false) := by
  unfold cMf
  rw [if_neg (fun z => by rw [isA_w] at z; exact absurd z.2 (by decide))]
theorem cMf_s {w p : Nat} {nu : Nat → Nat} (h : w ≠ 0) : cMf tx e w ((p, false), nu) = ((p, false), w, nu, false) := by
  unfold cMf
  rw [if_neg (fun z => h z.1)]
theorem cMf_0 {p : Nat} {nu : Nat → Nat} : cMf tx e 0 ((p, false), nu) = ((rdB tx e p).1, 0, nu, (rdB tx e p).2) := by
  unfold cMf rdB
  by_cases z : isA tx e (p, false) 32 32 = true
  · rw [if_pos ⟨rfl, z⟩, if_pos z]
    by_cases z2 : wrd tx (p + 1) (leE tx e (p + 1)) = 5
    · rw [if_pos z2, if_pos z2]
    · rw [if_neg z2, if_neg z2]
  · rw [if_neg (fun q => z q.2), if_neg z]
/-- what a command's reading comes to -/
def rdQ (tx : Nat → Nat) (e i : Nat) (S : bSt) (c : Cmd) (q : Option bV) (S' : bSt) : Prop := q = some (vI (tf (!c.1.2))) ∧ fCi i S S' ∧ cS tx e c.1.1 S' ∧ (c.1.2 = false → mCmd i c S')
theorem k_readCommand (hd : 6 ≤ d) {p : Nat} (h : cS tx e p S) (hi : i < 20) : Wm d 88 [vR 26 0 0, vR 30 i 0] S (rdQ tx e i S (cM tx e p)) := by
  have hp := h.2.2
  have hle := leE_le (tx := tx) hp
  refine EW_88 ?_
  refine (B_88_0 (by omega) (k_wordHere (by omega) h)).mpr ?_
  by_cases g : wrd tx p (leE tx e p) ≤ 4
  · rw [cM_f g]
    have hlen := wrd_len (tx := tx) (p := p) (q := leE tx e p) (by omega)
    generalize hw : wrd tx p (leE tx e p) = w at *
    rw [if_pos g]
    rw [if_neg (nI_ne_m1 (by omega))]
    have hwl : wlen w = bTl.getD w 0 := (bTl_7 w (by omega)).2
    have s0 : cS tx e p (sUp S 30 i 0 0 (nI w)) := cS_30 (Or.inl rfl) h
    refine (B_88_12 (by omega) (bk30 hi) (k_nameOf g) (s_length (by omega) (by omega)) (by omega)).mpr ?_
    rw [s0.2.1, ← qI_add, show p + bTl.getD w 0 = leE tx e p by omega]
    have s1 : cS tx e (leE tx e p) (sUp (sUp S 30 i 0 0 (nI w)) 26 0 0 2 (nI (leE tx e p))) := cS_up s0 hle.2
    have f1 : fCi i S (sUp (sUp S 30 i 0 0 (nI w)) 26 0 0 2 (nI (leE tx e p))) := fCi_26 (fCi_30 (Or.inl rfl) (fCi_refl i S))
    have w1 : sUp (sUp S 30 i 0 0 (nI w)) 26 0 0 2 (nI (leE tx e p)) 30 i 0 0 = nI w := by rw [sUp_kind (by decide), sUp_same]
    generalize sUp (sUp S 30 i 0 0 (nI w)) 26 0 0 2 (nI (leE tx e p)) = T1 at *
    refine k_nums (S := T1) (by omega) g hi (nbO w) 0 (leE tx e p) (fun _ => 0) T1 (by omega) (fCi_refl i T1) (fun _ => rfl) s1 (fun m hm => absurd hm (Nat.not_lt_zero _)) ?_ ?_
    · generalize nmL tx e (nbO w) 0 (leE tx e p, false) (fun _ => 0) = R
      intro hw1 T' x3 hf hs
      obtain ⟨⟨rp, rw_⟩, rn⟩ := R
      have hr : rw_ = true := hw1
      subst hr
      rw [cMf_w]
      refine (B_88_52).mpr ?_
      exact ⟨rfl, fCi_trans f1 hf, hs, fun hh => absurd (show true = false from hh) (by decide)⟩
    · generalize nmL tx e (nbO w) 0 (leE tx e p, false) (fun _ => 0) = R
      intro hw1 T' x3 hf h30 hs hnum
      obtain ⟨⟨rp, rw_⟩, rn⟩ := R
      have hr : rw_ = false := hw1
      subst hr
      have hs' : cS tx e rp T' := hs
      have hnum' : ∀ m, m < nbO w → T' 31 i 0 m = nI (rn m) := hnum
      refine (B_88_60).mpr ?_
      refine icT ((show nI w = 0 ↔ w = 0 from qI_eq (b := 0) (by omega) (by omega))) (fun g0 => ?_) (fun g0 => ?_)
      · subst g0
        rw [cMf_0]
        obtain ⟨q, T2, e2, rfl, f2, m2, m3, s2, v2⟩ := Wm_ex (k_readBetter (d := d - 1) (by omega) hs' hi)
        refine (B_88_64 (by omega) e2).mpr ?_
        have fin : fCi i S T2 := fCi_trans (fCi_trans f1 hf) f2
        generalize rdB tx e rp = RB at *
        obtain ⟨⟨bp, bw⟩, bb⟩ := RB
        cases bw with
        | true =>
          rw [if_pos (show tf (!true) = 0 from rfl)]
          refine (B_88_76).mpr ?_
          refine (B_88_77 (Or.inl rfl)).mpr ?_
          exact ⟨rfl, fin, s2, fun hh => absurd (show true = false from hh) (by decide)⟩
        | false =>
          rw [if_neg (show ¬ tf (!false) = 0 by decide)]
          refine (B_88_72).mpr ?_
          refine (B_88_77 (Or.inr rfl)).mpr ?_
          refine ⟨rfl, fin, s2, fun _ => ⟨?_, Nat.zero_le _, fun m hm => ?_, fun _ => v2⟩⟩
          · rw [m3, h30]; exact w1
          · have hm5 : m < 5 := hm
            rw [m2 m (by omega)]; exact hnum' m hm
      rw [cMf_s g0]
      refine (B_88_72).mpr ?_
      refine (B_88_77 (Or.inr rfl)).mpr ?_
      exact ⟨rfl, fCi_trans f1 hf, hs', fun _ => ⟨by rw [h30]; exact w1, g, hnum', fun z => absurd z g0⟩⟩
  · rw [cM_n g, if_neg g]
    rw [if_pos (rfl)]
    refine (B_88_10).mpr ?_
    exact ⟨rfl, fCi_refl i S, h, fun hh => absurd (show true = false from hh) (by decide)⟩
end M19b
