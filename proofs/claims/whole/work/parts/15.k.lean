/-! THE MODEL's methods, 19: command, commands, execute -/
section M15k
theorem sUp_m {S : bSt} {k i j n k' i' j' m : Nat} {x : Int32} (h : m ≠ n) : sUp S k i j n x k' i' j' m = S k' i' j' m := by simp [sUp, h]
/-- the numbers of a command: n more, from the k-th on -/
def nmL (tx : Nat → Nat) (e : Nat) : Nat → Nat → (Nat × Bool) → (Nat → Nat) → (Nat × Bool) × (Nat → Nat)
  | 0, _, q, nu => (q, nu)
  | n + 1, k, q, nu => if q.2 = true then (q, nu) else if (eX tx e 32 q).2 = true then nmL tx e n (k + 1) (eX tx e 32 q) (updN nu k 0) else nmL tx e n (k + 1) (nU tx e (eX tx e 32 q)).1 (updN nu k (nU tx e (eX tx e 32 q)).2)
abbrev Cmd : Type := (Nat × Bool) × Nat × (Nat → Nat) × Bool
def cM (tx : Nat → Nat) (e p : Nat) : Cmd :=
  if wrd tx p (leE tx e p) ≤ 4 then
    (let r := nmL tx e (nbO (wrd tx p (leE tx e p))) 0 (leE tx e p, false) (fun _ => 0)
     if wrd tx p (leE tx e p) = 0 ∧ isA tx e r.1 32 32 = true then
       (if wrd tx (r.1.1 + 1) (leE tx e (r.1.1 + 1)) = 5 then ((leE tx e (r.1.1 + 1), false), 0, r.2, true) else ((r.1.1 + 1, true), 0, r.2, false))
     else (r.1, wrd tx p (leE tx e p), r.2, false))
  else ((p, true), 9, (fun _ => 0), false)
def mNum (n : Nat) (nu : Nat → Nat) (S : bSt) : Prop := ∀ i, i < n → S 57 0 0 i = nI (nu i) ∧ nu i ≤ 999
variable {d : Nat} {S : bSt} {tx : Nat → Nat} {e : Nat}
theorem c_nums_go : ∀ (n : Nat) {d : Nat} {S S0 : bSt} {k w : Nat} {q : Nat × Bool} {nu : Nat → Nat} {Q : Option bV → bSt → Prop}, 5 ≤ d → w ≤ 4 → k + n = nbO w → nbO w ≤ 5 → mT tx e q S → fT S0 S → (q.2 = false → mNum k nu S) → (∀ S' x2, fT S0 S' → mT tx e (nmL tx e n k q nu).1 S' → ((nmL tx e n k q nu).1.2 = false → mNum (nbO w) (nmL tx e n k q nu).2 S') → Wp d 242 91 [some (vR 40 0 0), some (vI (nI w)), some (vI x2)] [] S' Q) → Wp d 242 43 [some (vR 40 0 0), some (vI (nI w)), some (vI (nI k))] [] S Q := by
  intro n
  induction n with
  | zero =>
    intro d S S0 k w q nu Q hd hw hk h5 h hf hnu hQ
    refine (B_242_43 (by omega) (c_numbersOf hw)).mpr ?_
    rw [if_pos (by rw [show k = nbO w by omega]; exact Int32.le_refl _)]
    exact hQ S _ hf h (fun hq => by rw [← show k = nbO w by omega]; exact hnu hq)
  | succ n ih =>
    intro d S S0 k w q nu Q hd hw hk h5 h hf hnu hQ
    refine (B_242_43 (by omega) (c_numbersOf hw)).mpr ?_
    rw [if_neg (by rw [qI_le (by omega) (by omega)]; omega)]
    refine (B_242_51).mpr ?_
    rw [h.2.2.2.2.2.2]
    unfold nmL at hQ
    rotate_left
    refine icb (fun g => ?_) (fun g => ?_)
    · rw [if_neg (by rw [g]; decide)] at hQ
      obtain ⟨r, S1, e1, rfl, f1, m1⟩ := Wm_ex (c_expects (d := d - 1) (by omega) h (s := 32) (by omega))
      refine (B_242_58 (by omega) e1).mpr ?_
      rw [m1.2.2.2.2.2.2]
      have hnu1 : mNum k nu S1 := fun i hi => by rw [f1 _ _ _ _ rfl]; exact hnu g i hi
      refine icb (fun g2 => ?_) (fun g2 => ?_)
      · rw [if_neg (by rw [g2]; decide)] at hQ
        obtain ⟨r, S2, e2, rfl, f2, m2⟩ := Wm_ex (c_number (d := d - 1) (by omega) m1)
        refine (B_242_80 (by omega) e2).mpr ?_
        refine (B_242_84 (n1_ := k) rfl (by omega)).mpr ?_
        rw [qI_succ]
        refine ih (S0 := S0) hd hw (by omega) h5 (mT_fP m2 (fun k i j m hk => ?_)) (fT_up (fT_trans (fT_trans hf (fP_T f1)) (fP_T f2)) rfl) (fun hq i hi => ?_) hQ
        · rw [sUp_kind]
          rcases hk with rfl | ⟨rfl, -⟩ <;> decide
        · unfold updN
          by_cases gi : i = k
          · subst gi; rw [sUp_same, if_pos rfl]; exact ⟨rfl, nU_le _⟩
          · rw [sUp_slot gi, if_neg gi, f2 _ _ _ _ rfl]; exact hnu1 i (by omega)
      rw [if_pos g2] at hQ
      refine (B_242_76).mpr ?_
      refine (B_242_84 (n1_ := k) rfl (by omega)).mpr ?_
      rw [qI_succ]
      refine ih (S0 := S0) hd hw (by omega) h5 (mT_fP m1 (fun k i j m hk => ?_)) (fT_up (fT_trans hf (fP_T f1)) rfl) (fun hq i hi => ?_) hQ
      · rw [sUp_kind]
        rcases hk with rfl | ⟨rfl, -⟩ <;> decide
      · rw [g2] at hq; exact absurd hq (by decide)
    rw [if_pos g] at hQ
    exact hQ S _ hf h (fun hq => by rw [g] at hq; exact absurd hq (by decide))
theorem nbO_le (w : Nat) : nbO w ≤ 5 := by
  unfold nbO
  rcases w with _ | _ | _ | _ | _ | w <;> simp
theorem c_command (hd : 6 ≤ d) {p : Nat} (h : mT tx e (p, false) S) (hW : mW S) : Wm d 242 [vR 40 0 0] S (fun r S' => fT S S' ∧ mT tx e (cM tx e p).1 S' ∧ ∃ x, r = some (vI x) ∧ ((cM tx e p).1.2 = false → x = nI (cM tx e p).2.1 ∧ (cM tx e p).2.1 ≤ 4 ∧ mNum (nbO (cM tx e p).2.1) (cM tx e p).2.2.1 S' ∧ S' 40 0 0 30 = tf (cM tx e p).2.2.2)) := by
  refine EW_242 ?_
  have h80 := h.2.1
  obtain ⟨r, S1, e1, rfl, f1, m1⟩ := Wm_ex (c_word (d := d - 1) (by omega) h hW)
  have hle := wrd_le tx p (leE tx e p)
  have hlen := wrd_len (tx := tx) (p := p) (q := leE tx e p)
  have hpq := leE_le (tx := tx) (e := e) (p := p) h.1
  unfold cM
  generalize wrd tx p (leE tx e p) = w at *
  generalize leE tx e p = q at *
  refine (B_242_0 (by omega) e1 c_isIn).mpr ?_
  rw [inR_tf]
  by_cases g4 : w ≤ 4
  · have hin : inR (if w = 6 then -1 else nI w) 0 4 = true := by
      rw [if_neg (by omega)]
      unfold inR
      rw [Bool.and_eq_true, decide_eq_true_iff, decide_eq_true_iff, show (0 : Int32) = nI 0 from rfl, show (4 : Int32) = nI 4 from rfl, qI_le (by omega) (by omega), qI_le (by omega) (by omega)]
      omega
    rw [if_neg (by rw [hin]; decide), if_pos g4, if_neg (by omega)]
    rw [if_neg (by omega)] at m1
    refine (B_242_41).mpr ?_
    refine c_nums_go (nbO w) (S0 := S) (k := 0) (nu := fun _ => 0) (by omega) g4 (by omega) (nbO_le w) m1 (fP_T f1) (fun _ i hi => absurd hi (Nat.not_lt_zero _)) (fun S2 x2 f2 m2 hnu => ?_)
    generalize nmL tx e (nbO w) 0 (q, false) (fun _ => 0) = R at *
    obtain ⟨q2, nu⟩ := R
    dsimp only at m2 hnu ⊢
    have m3 : mT tx e q2 (sUp S2 40 0 0 30 0) := mT_fP m2 (fun k i j m hk => by
      rcases hk with rfl | ⟨rfl, rfl | rfl | rfl⟩
      · rw [sUp_kind (by decide)]
      · rw [sUp_m (by decide)]
      · rw [sUp_m (by decide)]
      · rw [sUp_m (by decide)])
    have f3 : fT S (sUp S2 40 0 0 30 0) := fT_up f2 rfl
    have n3 : q2.2 = false → mNum (nbO w) nu (sUp S2 40 0 0 30 0) := fun hq i hi => by rw [sUp_kind (by decide)]; exact hnu hq i hi
    have b3 : sUp S2 40 0 0 30 0 40 0 0 30 = 0 := sUp_same
    refine (B_242_91).mpr ?_
    generalize sUp S2 40 0 0 30 0 = T at *
    have fin : ∀ x2, ¬ (w = 0 ∧ isA tx e q2 32 32 = true) → Wp d 242 182 [some (vR 40 0 0), some (vI (nI w)), some (vI x2)] [] T (fun r S' => fT S S' ∧ mT tx e (if w = 0 ∧ isA tx e q2 32 32 = true then (if wrd tx (q2.1 + 1) (leE tx e (q2.1 + 1)) = 5 then (((leE tx e (q2.1 + 1), false), 0, nu, true) : Cmd) else ((q2.1 + 1, true), 0, nu, false)) else (q2, w, nu, false)).1 S' ∧ ∃ x, r = some (vI x) ∧ ((if w = 0 ∧ isA tx e q2 32 32 = true then (if wrd tx (q2.1 + 1) (leE tx e (q2.1 + 1)) = 5 then (((leE tx e (q2.1 + 1), false), 0, nu, true) : Cmd) else ((q2.1 + 1, true), 0, nu, false)) else (q2, w, nu, false)).1.2 = false → x = nI (if w = 0 ∧ isA tx e q2 32 32 = true then (if wrd tx (q2.1 + 1) (leE tx e (q2.1 + 1)) = 5 then (((leE tx e (q2.1 + 1), false), 0, nu, true) : Cmd) else ((q2.1 + 1, true), 0, nu, false)) else (q2, w, nu, false)).2.1 ∧ (if w = 0 ∧ isA tx e q2 32 32 = true then (if wrd tx (q2.1 + 1) (leE tx e (q2.1 + 1)) = 5 then (((leE tx e (q2.1 + 1), false), 0, nu, true) : Cmd) else ((q2.1 + 1, true), 0, nu, false)) else (q2, w, nu, false)).2.1 ≤ 4 ∧ mNum (nbO (if w = 0 ∧ isA tx e q2 32 32 = true then (if wrd tx (q2.1 + 1) (leE tx e (q2.1 + 1)) = 5 then (((leE tx e (q2.1 + 1), false), 0, nu, true) : Cmd) else ((q2.1 + 1, true), 0, nu, false)) else (q2, w, nu, false)).2.1) (if w = 0 ∧ isA tx e q2 32 32 = true then (if wrd tx (q2.1 + 1) (leE tx e (q2.1 + 1)) = 5 then (((leE tx e (q2.1 + 1), false), 0, nu, true) : Cmd) else ((q2.1 + 1, true), 0, nu, false)) else (q2, w, nu, false)).2.2.1 S' ∧ S' 40 0 0 30 = tf (if w = 0 ∧ isA tx e q2 32 32 = true then (if wrd tx (q2.1 + 1) (leE tx e (q2.1 + 1)) = 5 then (((leE tx e (q2.1 + 1), false), 0, nu, true) : Cmd) else ((q2.1 + 1, true), 0, nu, false)) else (q2, w, nu, false)).2.2.2)) := by
      intro x2 hn
      rw [if_neg hn]
      refine (B_242_182).mpr ?_
      exact ⟨f3, m3, _, rfl, fun hq => ⟨rfl, g4, n3 hq, b3⟩⟩
    by_cases g0 : w = 0
    · subst g0
      rw [if_pos (show nI 0 = 0 from rfl)]
      refine (B_242_100 (by omega) (c_isAt (lo := 32) (hi := 32) (by omega) m3 (by omega) (by omega))).mpr ?_
      refine icb (fun gs => ?_) (fun gs => ?_)
      · exact fin _ (fun q => by rw [gs] at q; exact absurd q.2 (by decide))
      clear fin
      rw [if_pos ⟨rfl, gs⟩]
      obtain ⟨hs1, hs2, -, -⟩ := isA_lt gs
      have m4 : mT tx e (q2.1 + 1, false) (sUp T 40 0 0 17 (nI (q2.1 + 1))) := by
        have := mT_at (p := q2.1) (w := q2.2) m3 (p' := q2.1 + 1) hs2
        rw [hs1] at this
        exact this
      have hW4 : mW (sUp T 40 0 0 17 (nI (q2.1 + 1))) := fun i hi => by rw [sUp_kind (by decide), f3 _ _ _ _ rfl]; exact hW i hi
      obtain ⟨r, S5, e5, rfl, f5, m5⟩ := Wm_ex (c_word (d := d - 1) (by omega) m4 hW4)
      have hle2 := wrd_le tx (q2.1 + 1) (leE tx e (q2.1 + 1))
      have hlen2 := wrd_len (tx := tx) (p := q2.1 + 1) (q := leE tx e (q2.1 + 1))
      have hpq2 := leE_le (tx := tx) (e := e) (p := q2.1 + 1) hs2
      have b5 : S5 40 0 0 30 = 0 := by rw [f5 _ _ _ _ rfl, sUp_slot (by decide)]; exact b3
      have n5 : mNum (nbO 0) nu S5 := fun i hi => by rw [f5 _ _ _ _ rfl, sUp_kind (by decide)]; exact n3 hs1 i hi
      generalize wrd tx (q2.1 + 1) (leE tx e (q2.1 + 1)) = w2 at *
      generalize leE tx e (q2.1 + 1) = q3 at *
      have f5' : fT S S5 := fT_trans (fT_up f3 rfl) (fP_T f5)
      refine (B_242_111 (by omega) (by rw [m3.2.2.2.2.2.1, qI_succ]; exact e5) c_isIn).mpr ?_
      rw [inR_tf, m5.2.2.2.2.2.1]
      -- the place stands behind the blank, unless it is "better"
      have tail : ∀ (y x2 : Int32), x2 = (if w2 = 6 then -1 else nI w2) → nI (if w2 = 6 then q2.1 + 1 else q3) - y = nI (if w2 = 5 then q3 else q2.1 + 1) → Wp d 242 148 [some (vR 40 0 0), some (vI (nI 0)), some (vI x2)] [vI y, vI (nI (if w2 = 6 then q2.1 + 1 else q3)), vR 40 0 0] S5 (fun r S' => fT S S' ∧ mT tx e (if w2 = 5 then (((q3, false), 0, nu, true) : Cmd) else ((q2.1 + 1, true), 0, nu, false)).1 S' ∧ ∃ x, r = some (vI x) ∧ ((if w2 = 5 then (((q3, false), 0, nu, true) : Cmd) else ((q2.1 + 1, true), 0, nu, false)).1.2 = false → x = nI (if w2 = 5 then (((q3, false), 0, nu, true) : Cmd) else ((q2.1 + 1, true), 0, nu, false)).2.1 ∧ (if w2 = 5 then (((q3, false), 0, nu, true) : Cmd) else ((q2.1 + 1, true), 0, nu, false)).2.1 ≤ 4 ∧ mNum (nbO (if w2 = 5 then (((q3, false), 0, nu, true) : Cmd) else ((q2.1 + 1, true), 0, nu, false)).2.1) (if w2 = 5 then (((q3, false), 0, nu, true) : Cmd) else ((q2.1 + 1, true), 0, nu, false)).2.2.1 S' ∧ S' 40 0 0 30 = tf (if w2 = 5 then (((q3, false), 0, nu, true) : Cmd) else ((q2.1 + 1, true), 0, nu, false)).2.2.2)) := by
        intro y x2 hx hy
        refine (B_242_148).mpr ?_
        rw [hy]
        by_cases g5 : w2 = 5
        · subst g5
          rw [hx]
          rw [if_pos (show (if 5 = 6 then (-1 : Int32) else nI 5) = 5 from rfl)]
          rw [if_pos rfl, if_pos rfl]
          have m6 := mT_at (p' := q3) m5 hpq2.2
          refine (B_242_158).mpr ?_
          refine (B_242_163 (Or.inr rfl)).mpr ?_
          rw [if_neg (by rw [sUp_same]; decide)]
          refine (B_242_178).mpr ?_
          refine (B_242_179 (Or.inl rfl)).mpr ?_
          refine (B_242_182).mpr ?_
          have m7 : mT tx e (q3, false) (sUp (sUp S5 40 0 0 17 (nI q3)) 40 0 0 30 1) := mT_fP m6 (fun k i j m hk => by
            rcases hk with rfl | ⟨rfl, rfl | rfl | rfl⟩
            · rw [sUp_kind (by decide)]
            · rw [sUp_m (by decide)]
            · rw [sUp_m (by decide)]
            · rw [sUp_m (by decide)])
          refine ⟨fT_up (fT_up (fT_up f5' rfl) rfl) rfl, mT_wr (w' := false) m7, _, rfl, fun _ => ⟨rfl, Nat.zero_le _, fun i hi => ?_, ?_⟩⟩
          · rw [sUp_kind (by decide), sUp_kind (by decide), sUp_kind (by decide)]; exact n5 i hi
          · rw [sUp_slot (by decide), sUp_same]; rfl
        · have hx5 : ¬ x2 = 5 := by
            rw [hx]
            split
            · decide
            · rw [show (5 : Int32) = nI 5 from rfl, qI_eq (by omega) (by omega)]; exact g5
          rw [if_neg (hx5)]
          rw [if_neg g5, if_neg g5]
          have m6 := mT_at (p' := q2.1 + 1) m5 hs2
          refine (B_242_162).mpr ?_
          refine (B_242_163 (Or.inl rfl)).mpr ?_
          rw [if_pos (by rw [sUp_same])]
          refine (B_242_174).mpr ?_
          refine (B_242_179 (Or.inr rfl)).mpr ?_
          refine (B_242_182).mpr ?_
          have m7 : mT tx e (q2.1 + 1, false) (sUp (sUp S5 40 0 0 17 (nI (q2.1 + 1))) 40 0 0 30 0) := mT_fP m6 (fun k i j m hk => by
            rcases hk with rfl | ⟨rfl, rfl | rfl | rfl⟩
            · rw [sUp_kind (by decide)]
            · rw [sUp_m (by decide)]
            · rw [sUp_m (by decide)]
            · rw [sUp_m (by decide)])
          exact ⟨fT_up (fT_up (fT_up f5' rfl) rfl) rfl, mT_wr (w' := true) m7, _, rfl, fun q => absurd q (by simp)⟩
      refine icb (fun gi => ?_) (fun gi => ?_)
      · refine (B_242_147).mpr ?_
        have hw56 : w2 = 5 ∨ w2 = 6 := by
          rcases Nat.lt_or_ge w2 5 with q | q
          · exfalso
            rw [if_neg (by omega)] at gi
            have : inR (nI w2) 0 4 = true := by
              unfold inR
              rw [Bool.and_eq_true, decide_eq_true_iff, decide_eq_true_iff, show (0 : Int32) = nI 0 from rfl, show (4 : Int32) = nI 4 from rfl, qI_le (by omega) (by omega), qI_le (by omega) (by omega)]
              omega
            rw [this] at gi
            exact absurd gi (by decide)
          · omega
        refine tail 0 _ rfl ?_
        rw [Int32.sub_zero]
        rcases hw56 with q | q <;> rw [q] <;> rfl
      have hw4 : w2 ≤ 4 := by
        rcases Nat.lt_or_ge 4 w2 with q | q
        · exfalso
          have hw56 : w2 = 5 ∨ w2 = 6 := by omega
          rcases hw56 with q | q
          · rw [q] at gi; exact absurd gi (by decide)
          · rw [q] at gi; exact absurd gi (by decide)
        · exact q
      have n6 : ¬ w2 = 6 := by omega
      have := tail (nI (wlen w2)) (nI w2) (by rw [if_neg n6]) (by rw [if_neg (by omega), if_neg (by omega), hlen2 (by omega), qI_sub (by omega)]; congr 1; omega)
      simp only [n6, if_false] at this ⊢
      refine (B_242_140 (by omega) (c_lengthOf hw4)).mpr ?_
      exact this
    · rw [if_neg (by rw [show (0 : Int32) = nI 0 from rfl, qI_eq (by omega) (by omega)]; exact g0)]
      exact fin _ (fun q => g0 q.1)
  · have hw56 : w = 5 ∨ w = 6 := by omega
    have hin : inR (if w = 6 then -1 else nI w) 0 4 = false := by rcases hw56 with q | q <;> rw [q] <;> decide
    rw [if_pos (by rw [hin]; rfl), if_neg g4]
    have fin : ∀ (xs1 xs2 : Int32) (x1 : Int32), xs1 - xs2 = nI p → Wp d 242 30 [some (vR 40 0 0), some (vI x1), none] [vI xs2, vI xs1, vR 40 0 0] S1 (fun r S' => fT S S' ∧ mT tx e (((p, true), 9, (fun _ => 0), false) : Cmd).1 S' ∧ ∃ x, r = some (vI x) ∧ ((((p, true), 9, (fun _ => 0), false) : Cmd).1.2 = false → x = nI (((p, true), 9, (fun _ => 0), false) : Cmd).2.1 ∧ (((p, true), 9, (fun _ => 0), false) : Cmd).2.1 ≤ 4 ∧ mNum (nbO (((p, true), 9, (fun _ => 0), false) : Cmd).2.1) (((p, true), 9, (fun _ => 0), false) : Cmd).2.2.1 S' ∧ S' 40 0 0 30 = tf (((p, true), 9, (fun _ => 0), false) : Cmd).2.2.2)) := by
      intro xs1 xs2 x1 hx
      refine (B_242_30).mpr ?_
      rw [hx]
      exact ⟨fT_up (fT_up (fP_T f1) rfl) rfl, mT_wr (w' := true) (mT_at m1 h.1), _, rfl, fun q => absurd q (by simp)⟩
    refine (B_242_14).mpr ?_
    rcases hw56 with q5 | q6
    · subst q5
      rw [if_pos (show (if 5 = 6 then (-1 : Int32) else nI 5) = 5 from rfl)]
      refine (B_242_24).mpr ?_
      refine fin _ _ _ ?_
      have := hlen (by decide)
      rw [m1.2.2.2.2.2.1]
      show nI q - nI 6 = _
      have : 6 = q - p := this
      rw [qI_sub (by omega)]
      congr 1
      omega
    · subst q6
      rw [if_neg (by decide)]
      refine (B_242_29).mpr ?_
      refine fin _ _ _ ?_
      rw [m1.2.2.2.2.2.1, Int32.sub_zero]
      rfl
end M15k
