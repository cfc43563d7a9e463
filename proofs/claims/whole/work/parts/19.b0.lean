/-! THE CLASS: commands are read -/
section M19b
variable {d : Nat} {S : bSt} {i : Nat} {tx : Nat → Nat} {e : Nat}
theorem bk30 {i : Nat} (h : i < 20) : bok 30 i 0 = true := by simp [bok, kDim, h]
theorem bk31 {i : Nat} (h : i < 20) : bok 31 i 0 = true := by simp [bok, kDim, h]
/-- a command and the place are written -/
def fCi (i : Nat) (S S' : bSt) : Prop := ∀ k i' j m, ¬ ((k = 30 ∨ k = 31) ∧ i' = i) → ¬ (k = 26 ∧ m = 2) → S' k i' j m = S k i' j m
theorem fCi_refl (i : Nat) (S : bSt) : fCi i S S := fun _ _ _ _ _ _ => rfl
theorem fCi_trans {i : Nat} {S T U : bSt} (h : fCi i S T) (g : fCi i T U) : fCi i S U := fun k i' j m h1 h2 => (g k i' j m h1 h2).trans (h k i' j m h1 h2)
theorem fCi_26 {i : Nat} {S T : bSt} {x : Int32} (h : fCi i S T) : fCi i S (sUp T 26 0 0 2 x) := by
  intro k i' j m h1 h2
  rw [← h k i' j m h1 h2]
  unfold sUp
  rw [if_neg (fun q => h2 ⟨q.1, q.2.2.2⟩)]
theorem fCi_30 {i k0 m0 : Nat} {S T : bSt} {x : Int32} (hk : k0 = 30 ∨ k0 = 31) (h : fCi i S T) : fCi i S (sUp T k0 i 0 m0 x) := by
  intro k i' j m h1 h2
  rw [← h k i' j m h1 h2]
  unfold sUp
  rw [if_neg (fun q => h1 ⟨by omega, q.2.1⟩)]
theorem cT_f {S' : bSt} (hf : ∀ k i j m, (k = 26 ∧ m = 1) ∨ k = 27 → S' k i j m = S k i j m) {t : Nat} (h : cT tx t S) : cT tx t S' :=
  ⟨by rw [hf _ _ _ _ (by omega)]; exact h.1, h.2.1, h.2.2.1, fun m hm => by rw [hf _ _ _ _ (by omega)]; exact h.2.2.2 m hm⟩
theorem cS_up {p p' : Nat} (h : cS tx e p S) (hp : p' ≤ e) : cS tx e p' (sUp S 26 0 0 2 (nI p')) :=
  ⟨cT_f (fun k i j m hk => by unfold sUp; rw [if_neg (by omega)]) h.1, sUp_same, hp⟩
theorem cS_30 {i k0 m0 p : Nat} {x : Int32} (hk : k0 = 30 ∨ k0 = 31) (h : cS tx e p S) : cS tx e p (sUp S k0 i 0 m0 x) :=
  ⟨cT_f (fun k i j m hk' => sUp_kind (by omega)) h.1, by rw [sUp_kind (by omega)]; exact h.2.1, h.2.2⟩
theorem nUl_ok : ∀ n p v, (nUl tx e n (p, false) v).1.2 = false := by
  intro n
  induction n with
  | zero => intro p v; rfl
  | succ n ih =>
    intro p v
    unfold nUl
    split
    · rename_i h
      have : dG tx e 48 (p, false) = ((p + 1, false), tx p - 48) := by unfold dG; rw [h, if_pos rfl]
      rw [this]
      exact ih _ _
    · rfl
theorem nUl_w : ∀ n p v, nUl tx e n (p, true) v = ((p, true), v) := by
  intro n
  cases n with
  | zero => intro p v; rfl
  | succ n => intro p v; unfold nUl; rw [isA_w, if_neg (by decide)]
theorem nUl_e : ∀ n p v, p ≤ e → (nUl tx e n (p, false) v).1.1 ≤ e := by
  intro n
  induction n with
  | zero => intro p v h; exact h
  | succ n ih =>
    intro p v hp
    unfold nUl
    split
    · rename_i h
      have : dG tx e 48 (p, false) = ((p + 1, false), tx p - 48) := by unfold dG; rw [h, if_pos rfl]
      rw [this]
      have := (isA_lt h).2.1
      exact ih _ _ this
    · exact hp
/-- a blank and a number -/
def rdN (tx : Nat → Nat) (e p : Nat) : (Nat × Bool) × Nat := if (eX tx e 32 (p, false)).2 = true then (eX tx e 32 (p, false), 0) else nU tx e (eX tx e 32 (p, false))
theorem k_readNumber (hd : 2 ≤ d) {p n : Nat} (h : cS tx e p S) (hi : i < 20) (hn : n < 6) : Wm d 93 [vR 26 0 0, vR 30 i 0, vI (nI n)] S (fun q S' => q = some (vI (tf (!(rdN tx e p).1.2))) ∧ fCi i S S' ∧ (∀ m, m ≠ n → S' 31 i 0 m = S 31 i 0 m) ∧ (∀ m, S' 30 i 0 m = S 30 i 0 m) ∧ cS tx e (rdN tx e p).1.1 S' ∧ ((rdN tx e p).1.2 = false → S' 31 i 0 n = nI (rdN tx e p).2)) := by
  have h' := h
  obtain ⟨⟨t1, t2, t3, t4⟩, h2, hp⟩ := h'
  refine EW_93 ?_
  refine (B_93_0 (by omega) (by rw [show (32 : Int32) = nI 32 from rfl]; exact k_stands h (by omega))).mpr ?_
  unfold rdN
  refine icb (fun g => ?_) (fun g => ?_)
  · refine (B_93_9).mpr ?_
    have : eX tx e 32 (p, false) = (p, true) := by unfold eX; rw [g, if_neg (by decide)]
    rw [this, if_pos rfl]
    exact ⟨rfl, fCi_refl i S, fun _ _ => rfl, fun _ => rfl, h, fun hh => absurd (show true = false from hh) (by decide)⟩
  have ex : eX tx e 32 (p, false) = (p + 1, false) := by unfold eX; rw [g, if_pos rfl]
  have hpe := (isA_lt g).2.1
  dsimp only at hpe
  rw [ex, if_neg (fun z => absurd (show false = true from z) (by decide))]
  refine (B_93_11).mpr ?_
  rw [h2, qI_succ]
  -- up to three digits
  have loop : ∀ (k c0 p' v : Nat) (T : bSt), c0 + k = 3 → fCi i S T → (∀ m, T 31 i 0 m = S 31 i 0 m) → (∀ m, T 30 i 0 m = S 30 i 0 m) → cS tx e p' T → ∀ {Q : Option bV → bSt → Prop}, (∀ (T' : bSt) (c1 : Nat), fCi i S T' → (∀ m, T' 31 i 0 m = S 31 i 0 m) → (∀ m, T' 30 i 0 m = S 30 i 0 m) → cS tx e (nUl tx e k (p', false) v).1.1 T' → ((c1 = c0 ∧ (k = 0 ∨ isA tx e (p', false) 48 57 = false)) ∨ (c0 < c1 ∧ c1 ≤ 3 ∧ isA tx e (p', false) 48 57 = true)) → Wp d 93 92 [some (vR 26 0 0), some (vR 30 i 0), some (vI (nI n)), some (vI (nI (nUl tx e k (p', false) v).2)), some (vI (nI c1))] [] T' Q) → Wp d 93 26 [some (vR 26 0 0), some (vR 30 i 0), some (vI (nI n)), some (vI (nI v)), some (vI (nI c0))] [] T Q := by
    intro k
    induction k with
    | zero =>
      intro c0 p' v T hk hf h31 h30 hT Q hQ
      refine (B_93_26).mpr ?_
      rw [if_pos (by rw [show (3 : Int32) = nI 3 from rfl, qI_le (by omega) (by omega)]; omega)]
      exact hQ T c0 hf h31 h30 hT (Or.inl ⟨rfl, Or.inl rfl⟩)
    | succ k ih =>
      intro c0 p' v T hk hf h31 h30 hT Q hQ
      obtain ⟨⟨u1, u2, u3, u4⟩, g2, hp'⟩ := hT
      refine (B_93_26).mpr ?_
      rw [if_neg (by rw [show (3 : Int32) = nI 3 from rfl, qI_le (by omega) (by omega)]; omega)]
      refine (B_93_32).mpr ?_
      rw [u1, g2]
      have stop : isA tx e (p', false) 48 57 = false → Wp d 93 92 [some (vR 26 0 0), some (vR 30 i 0), some (vI (nI n)), some (vI (nI v)), some (vI (nI c0))] [] T Q := by
        intro hA
        have er : nUl tx e (k + 1) (p', false) v = ((p', false), v) := by
          unfold nUl
          rw [hA, if_neg (by decide)]
        have := hQ T c0 hf h31 h30 (by rw [er]; exact ⟨⟨u1, u2, u3, u4⟩, g2, hp'⟩) (Or.inl ⟨rfl, Or.inr hA⟩)
        rw [er] at this
        exact this
      refine icT (qI_le (by omega) (by omega)) (fun gl => ?_) (fun gl => ?_)
      · refine stop ?_
        obtain rfl : p' = e := by omega
        exact isA_e
      have tb := u3 p' (by omega)
      refine (B_93_43 (n1_ := p') (by omega) g2 (by omega) (by rw [u4 p' (by omega)]; exact k_isDigit (by omega))).mpr ?_
      have eA := isA_f (tx := tx) (e := e) (q := p') (lo := 48) (hi := 57) (by omega)
      rw [← eA]
      refine icb (fun gd => ?_) (fun gd => ?_)
      · exact stop gd
      have h48 := (isA_lt gd).2.2.1
      have h57 := (isA_lt gd).2.2.2
      dsimp only at h48 h57
      refine (B_93_58 (n1_ := p') g2 (by omega)).mpr ?_
      have ed : dG tx e 48 (p', false) = ((p' + 1, false), tx p' - 48) := by unfold dG; rw [gd, if_pos rfl]
      have er : nUl tx e (k + 1) (p', false) v = nUl tx e k (p' + 1, false) (10 * v + (tx p' - 48)) := by
        show (if _ then _ else _) = _
        rw [if_pos gd, ed]
      rw [er] at hQ
      rw [g2, qI_succ, qI_succ, u4 p' (by omega), show nI (tx p') - 48 = nI (tx p' - 48) from qI_sub (b := 48) h48, show (10 : Int32) = nI 10 from rfl, ← qI_mul, ← qI_add]
      exact ih (c0 + 1) (p' + 1) (10 * v + (tx p' - 48)) _ (by omega) (fCi_26 hf) (fun m => by rw [sUp_kind (by decide)]; exact h31 m) (fun m => by rw [sUp_kind (by decide)]; exact h30 m) (cS_up ⟨⟨u1, u2, u3, u4⟩, g2, hp'⟩ (by omega)) (fun T' c1 q1 q2 q3 q4 q5 => hQ T' c1 q1 q2 q3 q4 (Or.inr ⟨by omega, by omega, gd⟩))
  refine loop 3 0 (p + 1) 0 _ rfl (fCi_26 (fCi_refl i S)) (fun m => sUp_kind (by decide)) (fun m => sUp_kind (by decide)) (cS_up h (by omega)) (fun T' c1 q1 q2 q3 q4 q5 => ?_)
  refine (B_93_92 (n1_ := n) (bk30 hi) rfl hn (bk31 hi)).mpr ?_
  have m31 : ∀ x m, m ≠ n → sUp T' 31 i 0 n x 31 i 0 m = S 31 i 0 m := fun x m hm => by rw [sUp_slot hm]; exact q2 m
  have m30 : ∀ x m, sUp T' 31 i 0 n x 30 i 0 m = S 30 i 0 m := fun x m => by rw [sUp_kind (by decide)]; exact q3 m
  rcases q5 with ⟨rfl, q5⟩ | ⟨q5, q6, q7⟩
  · have hA : isA tx e (p + 1, false) 48 57 = false := by
      rcases q5 with q5 | q5
      · omega
      · exact q5
    have e3 : nUl tx e 3 (p + 1, false) 0 = ((p + 1, false), 0) := by
      unfold nUl
      rw [hA, if_neg (by decide)]
    have en : nU tx e (p + 1, false) = ((p + 1, true), 0) := by
      unfold nU
      have : dG tx e 48 (p + 1, false) = ((p + 1, true), 0) := by unfold dG; rw [hA, if_neg (by decide)]
      rw [this]
      exact nUl_w 2 _ _
    rw [if_pos (by decide)]
    refine (B_93_108).mpr ?_
    refine (B_93_109 (Or.inl rfl)).mpr ?_
    rw [en]
    rw [e3] at q4
    exact ⟨rfl, fCi_30 (Or.inr rfl) q1, m31 _, m30 _, cS_30 (Or.inr rfl) q4, fun hh => absurd (show true = false from hh) (by decide)⟩
  · have ed : dG tx e 48 (p + 1, false) = ((p + 2, false), tx (p + 1) - 48) := by unfold dG; rw [q7, if_pos rfl]
    have en : nUl tx e 3 (p + 1, false) 0 = nU tx e (p + 1, false) := by
      show (if _ then _ else _) = _
      rw [if_pos q7]
      unfold nU
      rw [Nat.mul_zero, Nat.zero_add]
    have eok : (nU tx e (p + 1, false)).1.2 = false := by
      rw [← en]
      exact nUl_ok 3 _ _
    rw [if_neg (by rw [show (0 : Int32) = nI 0 from rfl, qI_le (by omega) (by omega)]; omega)]
    refine (B_93_104).mpr ?_
    refine (B_93_109 (Or.inr rfl)).mpr ?_
    rw [en] at q4 ⊢
    rw [eok]
    exact ⟨rfl, fCi_30 (Or.inr rfl) q1, m31 _, m30 _, cS_30 (Or.inr rfl) q4, fun _ => sUp_same⟩
end M19b
