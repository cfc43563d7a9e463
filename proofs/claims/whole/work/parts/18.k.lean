/-! THE CLASS: the text; a pattern is read; why a run is refused -/
section M18k
variable {d : Nat} {S : bSt} {N : NV} {i : Nat} {tx : Nat → Nat} {e : Nat}
/-- the class's text -/
def cT (tx : Nat → Nat) (t : Nat) (S : bSt) : Prop := S 26 0 0 1 = nI t ∧ t ≤ 80 ∧ (∀ m, m < 80 → tx m < 127) ∧ ∀ m, m < 80 → S 27 0 0 m = nI (tx m)
theorem k_isDigit {ch : Nat} (hc : ch < 1000) : Ret d 84 [vI (nI ch)] S (some (vI (tf (decide (48 ≤ ch) && decide (ch ≤ 57))))) S := by
  refine E_84 ?_
  refine (B_84_0).mpr ?_
  refine icT (qI_lt (b := 48) (by omega) (by omega)) (fun g => ?_) (fun g => ?_)
  · refine (B_84_16).mpr ?_
    refine (B_84_17 (Or.inl rfl)).mpr ?_
    rw [decide_eq_false (by omega)]
    exact ⟨rfl, rfl⟩
  refine (B_84_6).mpr ?_
  refine icT (qI_lt (a := 57) (by omega) (by omega)) (fun g2 => ?_) (fun g2 => ?_)
  · refine (B_84_16).mpr ?_
    refine (B_84_17 (Or.inl rfl)).mpr ?_
    rw [decide_eq_false (show ¬ ch ≤ 57 by omega), Bool.and_false]
    exact ⟨rfl, rfl⟩
  refine (B_84_12).mpr ?_
  refine (B_84_17 (Or.inr rfl)).mpr ?_
  rw [decide_eq_true (show 48 ≤ ch by omega), decide_eq_true (show ch ≤ 57 by omega)]
  exact ⟨rfl, rfl⟩
def fitP (t ch : Nat) : Bool := if t = 0 then decide (49 ≤ ch) && decide (ch ≤ 57) else if t = 1 then decide (ch = 120) else if t = 2 then decide (48 ≤ ch) && decide (ch ≤ 57) else decide (ch = 43)
theorem k_fits (hd : 1 ≤ d) {t ch : Nat} (ht : t < 4) (hc : ch < 1000) : Ret d 86 [vI (nI t), vI (nI ch)] S (some (vI (tf (fitP t ch)))) S := by
  refine E_86 ?_
  refine (B_86_0).mpr ?_
  rw [X_86_1]
  unfold fitP
  refine icT ((show nI t = 0 ↔ t = 0 from qI_eq (b := 0) (by omega) (by omega))) (fun g0 => ?_) (fun g0 => ?_)
  · rw [if_pos g0]
    refine (B_86_28 (by omega) (k_isDigit hc)).mpr ?_
    refine icb (fun g => ?_) (fun g => ?_)
    · refine (B_86_45).mpr ?_
      refine (B_86_46 (Or.inl rfl)).mpr ?_
      have : (decide (49 ≤ ch) && decide (ch ≤ 57)) = false := by
        simp only [Bool.and_eq_false_iff, decide_eq_false_iff_not] at g ⊢
        omega
      rw [this]
      exact ⟨rfl, rfl⟩
    simp only [Bool.and_eq_true, decide_eq_true_eq] at g
    refine (B_86_35).mpr ?_
    refine icT (qI_eq (b := 48) (by omega) (by omega)) (fun g2 => ?_) (fun g2 => ?_)
    · refine (B_86_45).mpr ?_
      refine (B_86_46 (Or.inl rfl)).mpr ?_
      rw [decide_eq_false (by omega)]
      exact ⟨rfl, rfl⟩
    refine (B_86_41).mpr ?_
    refine (B_86_46 (Or.inr rfl)).mpr ?_
    rw [decide_eq_true (show 49 ≤ ch by omega), decide_eq_true (show ch ≤ 57 by omega)]
    exact ⟨rfl, rfl⟩
  rw [if_neg g0]
  refine icT ((show nI t = 1 ↔ t = 1 from qI_eq (b := 1) (by omega) (by omega))) (fun g1 => ?_) (fun g1 => ?_)
  · rw [if_pos g1]
    refine (B_86_47).mpr ?_
    refine icT (qI_eq (b := 120) (by omega) (by omega)) (fun g => ?_) (fun g => ?_)
    · refine (B_86_53).mpr ?_
      refine (B_86_58 (Or.inr rfl)).mpr ?_
      rw [decide_eq_true g]
      exact ⟨rfl, rfl⟩
    refine (B_86_57).mpr ?_
    refine (B_86_58 (Or.inl rfl)).mpr ?_
    rw [decide_eq_false g]
    exact ⟨rfl, rfl⟩
  rw [if_neg g1]
  refine icT ((show nI t = 2 ↔ t = 2 from qI_eq (b := 2) (by omega) (by omega))) (fun g2 => ?_) (fun g2 => ?_)
  · rw [if_pos g2]
    refine (B_86_59 (by omega) (k_isDigit hc) (tf_01 _)).mpr ?_
    exact ⟨rfl, rfl⟩
  rw [if_neg g2]
  refine (B_86_64).mpr ?_
  refine icT (qI_eq (b := 43) (by omega) (by omega)) (fun g => ?_) (fun g => ?_)
  · refine (B_86_70).mpr ?_
    refine (B_86_75 (Or.inr rfl)).mpr ?_
    rw [decide_eq_true g]
    exact ⟨rfl, rfl⟩
  refine (B_86_74).mpr ?_
  refine (B_86_75 (Or.inl rfl)).mpr ?_
  rw [decide_eq_false g]
  exact ⟨rfl, rfl⟩
/-- what the class reads, n characters from p on -/
def cP (tx : Nat → Nat) (e : Nat) : Nat → Nat → (Nat → Nat) → (Nat × Bool) × (Nat → Nat)
  | 0, p, P => ((p, !decide (e % 4 = 3)), P)
  | n + 1, p, P => if fitP (p % 4) (tx p) = true then cP tx e n (p + 1) (if p % 4 = 2 then addN P (tx p - 48) (tx (p - 2) - 48) else P) else ((p, true), P)
theorem isA_f {q : Nat} {lo hi : Nat} (h : q < e) : isA tx e (q, false) lo hi = (decide (lo ≤ tx q) && decide (tx q ≤ hi)) := by
  unfold isA
  rw [decide_eq_true h]
  rfl
theorem isA_e {lo hi : Nat} {w : Bool} : isA tx e (e, w) lo hi = false := by
  unfold isA
  rw [decide_eq_false (show ¬ (e, w).1 < e from Nat.lt_irrefl _), Bool.false_and, Bool.and_false]
theorem isA_w {p lo hi : Nat} : isA tx e (p, true) lo hi = false := by
  unfold isA
  rfl
theorem dG_w {l p : Nat} : dG tx e l (p, true) = ((p, true), 0) := by
  unfold dG
  rw [isA_w, if_neg (by decide)]
theorem eX_w {s p : Nat} : eX tx e s (p, true) = (p, true) := by
  unfold eX
  rw [isA_w, if_neg (by decide)]
theorem cP_rP : ∀ (n k p : Nat) (P : Nat → Nat), p + n = e → p % 4 = 0 → n < k → (cP tx e n p P).1 = (rPl tx e k (rS tx e (p, false)).1 (addN P (rS tx e (p, false)).2.1 (rS tx e (p, false)).2.2)).1 ∧ ((cP tx e n p P).1.2 = false → (cP tx e n p P).2 = (rPl tx e k (rS tx e (p, false)).1 (addN P (rS tx e (p, false)).2.1 (rS tx e (p, false)).2.2)).2) := by
  intro n
  induction n using Nat.strongRecOn with
  | _ n ih =>
    intro k p P hn hp hk
    obtain ⟨k', rfl⟩ : ∃ k', k = k' + 1 := ⟨k - 1, by omega⟩
    have wrongR : ∀ (q : Nat) (P : Nat → Nat), rPl tx e (k' + 1) (q, true) P = ((q, true), P) := fun q P => by
      unfold rPl
      rw [if_neg (fun z => absurd (show true = false from z.1) (by decide))]
    -- the first digit
    by_cases c0 : n = 0
    · subst c0
      have hs : (rS tx e (p, false)).1 = (p, true) := by
        obtain rfl : p = e := by omega
        unfold rS
        have h1 : dG tx p 49 (p, false) = ((p, true), 0) := by unfold dG; rw [isA_e, if_neg (by decide)]
        rw [h1]
        dsimp only
        rw [eX_w, dG_w]
      rw [hs, wrongR]
      have : (cP tx e 0 p P) = ((p, true), P) := by
        unfold cP
        rw [decide_eq_false (by omega)]
        rfl
      rw [this]
      exact ⟨rfl, fun h => absurd (show true = false from h) (by decide)⟩
    obtain ⟨n1, rfl⟩ : ∃ n1, n = n1 + 1 := ⟨n - 1, by omega⟩
    by_cases f0 : fitP (p % 4) (tx p) = true
    rotate_left
    · have f0' := f0
      rw [hp] at f0'
      have hA : isA tx e (p, false) 49 57 = false := by
        rw [isA_f (by omega)]
        simpa [fitP] using f0'
      have hs : (rS tx e (p, false)).1 = (p, true) := by
        unfold rS
        have h1 : dG tx e 49 (p, false) = ((p, true), 0) := by unfold dG; rw [hA, if_neg (by decide)]
        rw [h1]
        dsimp only
        rw [eX_w, dG_w]
      rw [hs, wrongR]
      unfold cP
      rw [if_neg f0]
      exact ⟨rfl, fun h => absurd (show true = false from h) (by decide)⟩
    have f0' := f0
    rw [hp] at f0'
    have hA0 : isA tx e (p, false) 49 57 = true := by
      rw [isA_f (by omega)]
      simpa [fitP] using f0'
    have hd0 : dG tx e 49 (p, false) = ((p + 1, false), tx p - 48) := by unfold dG; rw [hA0, if_pos rfl]
    have ec0 : cP tx e (n1 + 1) p P = cP tx e n1 (p + 1) P := by
      show (if _ then _ else _) = _
      rw [if_pos f0, if_neg (by omega)]
    rw [ec0]
    -- the x
    by_cases c1 : n1 = 0
    · subst c1
      have hs : (rS tx e (p, false)).1 = (p + 1, true) := by
        obtain rfl : p + 1 = e := by omega
        unfold rS
        rw [hd0]
        dsimp only
        have h1 : eX tx (p + 1) 120 (p + 1, false) = (p + 1, true) := by unfold eX; rw [isA_e, if_neg (by decide)]
        rw [h1, dG_w]
      rw [hs, wrongR]
      have : (cP tx e 0 (p + 1) P) = ((p + 1, true), P) := by
        unfold cP
        rw [decide_eq_false (by omega)]
        rfl
      rw [this]
      exact ⟨rfl, fun h => absurd (show true = false from h) (by decide)⟩
    obtain ⟨n2, rfl⟩ : ∃ n2, n1 = n2 + 1 := ⟨n1 - 1, by omega⟩
    by_cases f1 : fitP ((p + 1) % 4) (tx (p + 1)) = true
    rotate_left
    · have f1' := f1
      rw [show (p + 1) % 4 = 1 by omega] at f1'
      have hne : tx (p + 1) ≠ 120 := by simpa [fitP] using f1'
      have hs : (rS tx e (p, false)).1 = (p + 1, true) := by
        unfold rS
        rw [hd0]
        dsimp only
        have h1 : eX tx e 120 (p + 1, false) = (p + 1, true) := by
          unfold eX
          rw [isA_f (by omega), if_neg]
          simp only [Bool.and_eq_true, decide_eq_true_eq]
          omega
        rw [h1, dG_w]
      rw [hs, wrongR]
      unfold cP
      rw [if_neg f1]
      exact ⟨rfl, fun h => absurd (show true = false from h) (by decide)⟩
    have f1' := f1
    rw [show (p + 1) % 4 = 1 by omega] at f1'
    have heq : tx (p + 1) = 120 := by simpa [fitP] using f1'
    have hx1 : eX tx e 120 (p + 1, false) = (p + 2, false) := by
      unfold eX
      rw [isA_f (by omega), if_pos]
      simp only [Bool.and_eq_true, decide_eq_true_eq]
      omega
    have ec1 : cP tx e (n2 + 1) (p + 1) P = cP tx e n2 (p + 2) P := by
      show (if _ then _ else _) = _
      rw [if_pos f1, if_neg (by omega)]
    rw [ec1]
    -- the order
    by_cases c2 : n2 = 0
    · subst c2
      have hs : (rS tx e (p, false)).1 = (p + 2, true) := by
        unfold rS
        rw [hd0]
        dsimp only
        rw [hx1]
        obtain rfl : p + 2 = e := by omega
        have h1 : dG tx (p + 2) 48 (p + 2, false) = ((p + 2, true), 0) := by unfold dG; rw [isA_e, if_neg (by decide)]
        rw [h1]
      rw [hs, wrongR]
      have : (cP tx e 0 (p + 2) P) = ((p + 2, true), P) := by
        unfold cP
        rw [decide_eq_false (by omega)]
        rfl
      rw [this]
      exact ⟨rfl, fun h => absurd (show true = false from h) (by decide)⟩
    obtain ⟨n3, rfl⟩ : ∃ n3, n2 = n3 + 1 := ⟨n2 - 1, by omega⟩
    by_cases f2 : fitP ((p + 2) % 4) (tx (p + 2)) = true
    rotate_left
    · have f2' := f2
      rw [show (p + 2) % 4 = 2 by omega] at f2'
      have hA : isA tx e (p + 2, false) 48 57 = false := by
        rw [isA_f (by omega)]
        simpa [fitP] using f2'
      have hs : (rS tx e (p, false)).1 = (p + 2, true) := by
        unfold rS
        rw [hd0]
        dsimp only
        rw [hx1]
        have h1 : dG tx e 48 (p + 2, false) = ((p + 2, true), 0) := by unfold dG; rw [hA, if_neg (by decide)]
        rw [h1]
      rw [hs, wrongR]
      unfold cP
      rw [if_neg f2]
      exact ⟨rfl, fun h => absurd (show true = false from h) (by decide)⟩
    have f2' := f2
    rw [show (p + 2) % 4 = 2 by omega] at f2'
    have hA2 : isA tx e (p + 2, false) 48 57 = true := by
      rw [isA_f (by omega)]
      simpa [fitP] using f2'
    have hd2 : dG tx e 48 (p + 2, false) = ((p + 3, false), tx (p + 2) - 48) := by unfold dG; rw [hA2, if_pos rfl]
    have hs : rS tx e (p, false) = ((p + 3, false), tx (p + 2) - 48, tx p - 48) := by
      unfold rS
      rw [hd0]
      dsimp only
      rw [hx1, hd2]
      rfl
    rw [hs]
    dsimp only
    have ec2 : cP tx e (n3 + 1) (p + 2) P = cP tx e n3 (p + 3) (addN P (tx (p + 2) - 48) (tx p - 48)) := by
      show (if _ then _ else _) = _
      rw [if_pos f2, if_pos (by omega), Nat.add_sub_cancel]
    rw [ec2]
    generalize addN P (tx (p + 2) - 48) (tx p - 48) = P'
    -- the plus
    by_cases c3 : n3 = 0
    · subst c3
      have e1 : rPl tx e (k' + 1) (p + 3, false) P' = ((p + 3, false), P') := by
        unfold rPl
        rw [if_neg (fun z => by have := z.2; dsimp only at this; omega)]
      have e2 : cP tx e 0 (p + 3) P' = ((p + 3, false), P') := by
        unfold cP
        rw [decide_eq_true (by omega)]
        rfl
      rw [e1, e2]
      exact ⟨rfl, fun _ => rfl⟩
    obtain ⟨n4, rfl⟩ : ∃ n4, n3 = n4 + 1 := ⟨n3 - 1, by omega⟩
    have er : rPl tx e (k' + 1) (p + 3, false) P' = (if (eX tx e 43 (p + 3, false)).2 = true then (eX tx e 43 (p + 3, false), P') else rPl tx e k' (rS tx e (eX tx e 43 (p + 3, false))).1 (addN P' (rS tx e (eX tx e 43 (p + 3, false))).2.1 (rS tx e (eX tx e 43 (p + 3, false))).2.2)) := by
      show (if _ then _ else _) = _
      rw [if_pos ⟨rfl, by show p + 3 < e; omega⟩]
    rw [er]
    by_cases f3 : fitP ((p + 3) % 4) (tx (p + 3)) = true
    rotate_left
    · have f3' := f3
      rw [show (p + 3) % 4 = 3 by omega] at f3'
      have hne : tx (p + 3) ≠ 43 := by simpa [fitP] using f3'
      have h1 : eX tx e 43 (p + 3, false) = (p + 3, true) := by
        unfold eX
        rw [isA_f (by omega), if_neg]
        simp only [Bool.and_eq_true, decide_eq_true_eq]
        omega
      rw [h1, if_pos rfl]
      unfold cP
      rw [if_neg f3]
      exact ⟨rfl, fun h => absurd (show true = false from h) (by decide)⟩
    have f3' := f3
    rw [show (p + 3) % 4 = 3 by omega] at f3'
    have heq3 : tx (p + 3) = 43 := by simpa [fitP] using f3'
    have h1 : eX tx e 43 (p + 3, false) = (p + 4, false) := by
      unfold eX
      rw [isA_f (by omega), if_pos]
      simp only [Bool.and_eq_true, decide_eq_true_eq]
      omega
    rw [h1, if_neg (fun z => absurd (show false = true from z) (by decide))]
    have ec3 : cP tx e (n4 + 1) (p + 3) P' = cP tx e n4 (p + 4) P' := by
      show (if _ then _ else _) = _
      rw [if_pos f3, if_neg (by omega)]
    rw [ec3]
    exact ih n4 (by omega) k' (p + 4) P' (by omega) (by omega) (by omega)
theorem cP_run {t : Nat} (ht : t ≤ 80) : (cP tx t t 0 (fun _ => 0)).1 = (rP tx t).1 ∧ ((cP tx t t 0 (fun _ => 0)).1.2 = false → (cP tx t t 0 (fun _ => 0)).2 = (rP tx t).2) := cP_rP t 100 0 (fun _ => 0) (by omega) rfl (by omega)
theorem mod4 {a : Nat} (h : a < 1000) : nI a - nI a / 4 * 4 = nI (a % 4) := by
  rw [show (4 : Int32) = nI 4 from rfl, qI_div (by omega) (by omega) (by omega), ← qI_mul, qI_sub (by omega)]
  congr 1
  omega
/-- a reading changes the place and the strips -/
def fRd (S S' : bSt) : Prop := ∀ k i j m, k ≠ 28 → ¬ (k = 26 ∧ m = 2) → S' k i j m = S k i j m
theorem fRd_up28 {S T : bSt} {m : Nat} {x : Int32} (h : fRd S T) : fRd S (sUp T 28 0 0 m x) := fun k i j n h1 h2 => by rw [sUp_kind h1]; exact h k i j n h1 h2
theorem fRd_up26 {S T : bSt} {x : Int32} (h : fRd S T) : fRd S (sUp T 26 0 0 2 x) := by
  intro k i j n h1 h2
  rw [← h k i j n h1 h2]
  unfold sUp
  rw [if_neg (fun q => h2 ⟨q.1, q.2.2.2⟩)]
theorem fitP_d {ch : Nat} (h : fitP 2 ch = true) : 48 ≤ ch ∧ ch ≤ 57 := by
  simpa [fitP] using h
theorem fitP_0 {ch : Nat} (h : fitP 0 ch = true) : 49 ≤ ch ∧ ch ≤ 57 := by
  simpa [fitP] using h
theorem k_rp_go (hd : 2 ≤ d) : ∀ (n : Nat) {p : Nat} {P : Nat → Nat} {T : bSt}, p + n = e → e ≤ 80 → fRd S T → cT tx e S → T 26 0 0 2 = nI p → (∀ o, o < 10 → T 28 0 0 o = nI (P o)) → (1 ≤ p % 4 → p % 4 ≤ 2 → 49 ≤ tx (p - p % 4)) → Wp d 85 13 [some (vR 26 0 0)] [] T (fun q S' => q = some (vI (tf (!(cP tx e n p P).1.2))) ∧ fRd S S' ∧ S' 26 0 0 2 = nI (cP tx e n p P).1.1 ∧ ∀ o, o < 10 → S' 28 0 0 o = nI ((cP tx e n p P).2 o)) := by
  intro n
  induction n with
  | zero =>
    intro p P T hp he hf hT h2 hP _
    obtain ⟨t1, t2, t3, t4⟩ := hT
    refine (B_85_13).mpr ?_
    rw [hf _ _ _ _ (by decide) (by decide), t1, h2]
    rw [if_pos (by rw [qI_le (by omega) (by omega)]; omega)]
    refine (B_85_104).mpr ?_
    rw [hf _ _ _ _ (by decide) (by decide), t1, mod4 (by omega)]
    unfold cP
    refine icT ((show nI (e % 4) = 3 ↔ e % 4 = 3 from qI_eq (b := 3) (by omega) (by omega))) (fun g => ?_) (fun g => ?_)
    · refine (B_85_114).mpr ?_
      refine (B_85_119 (Or.inr rfl)).mpr ?_
      rw [decide_eq_true g]
      exact ⟨rfl, hf, h2, hP⟩
    refine (B_85_118).mpr ?_
    refine (B_85_119 (Or.inl rfl)).mpr ?_
    rw [decide_eq_false g]
    exact ⟨rfl, hf, h2, hP⟩
  | succ n ih =>
    intro p P T hp he hf hT h2 hP hinv
    have hT' := hT
    obtain ⟨t1, t2, t3, t4⟩ := hT'
    have t27 : ∀ m, m < 80 → T 27 0 0 m = nI (tx m) := fun m hm => by rw [hf _ _ _ _ (by decide) (by omega)]; exact t4 m hm
    have tb := t3 p (by omega)
    refine (B_85_13).mpr ?_
    rw [hf 26 0 0 1 (by decide) (by decide), t1, h2]
    rw [if_neg (by rw [qI_le (by omega) (by omega)]; omega)]
    have hft := k_fits (d := d - 1) (S := T) (t := p % 4) (ch := tx p) (by omega) (by omega) (by omega)
    refine (B_85_24 (n1_ := p) (by omega) h2 (by omega) (by rw [h2, mod4 (by omega), t27 p (by omega)]; exact hft)).mpr ?_
    refine icb (fun g => ?_) (fun g => ?_)
    · refine (B_85_45).mpr ?_
      have : cP tx e (n + 1) p P = ((p, true), P) := by
        show (if _ then _ else _) = _
        rw [if_neg (by rw [g]; decide)]
      rw [this]
      exact ⟨rfl, hf, h2, hP⟩
    have ec : cP tx e (n + 1) p P = cP tx e n (p + 1) (if p % 4 = 2 then addN P (tx p - 48) (tx (p - 2) - 48) else P) := by
      show (if _ then _ else _) = _
      rw [if_pos g]
    rw [ec]
    refine (B_85_47).mpr ?_
    rw [h2, mod4 (by omega)]
    have hinv' : 1 ≤ (p + 1) % 4 → (p + 1) % 4 ≤ 2 → 49 ≤ tx (p + 1 - (p + 1) % 4) := by
      intro q1 q2
      by_cases z : p % 4 = 0
      · rw [z] at g
        have := fitP_0 g
        rw [show p + 1 - (p + 1) % 4 = p by omega]
        omega
      · have := hinv (by omega) (by omega)
        rw [show p + 1 - (p + 1) % 4 = p - p % 4 by omega]
        exact this
    refine icT ((show nI (p % 4) = 2 ↔ p % 4 = 2 from qI_eq (b := 2) (by omega) (by omega))) (fun g2 => ?_) (fun g2 => ?_)
    · rw [if_pos g2]
      have h49 := hinv (by omega) (by omega)
      rw [g2] at h49 g
      obtain ⟨d1, d2⟩ := fitP_d g
      have e1 : nI (tx p) - 48 = nI (tx p - 48) := qI_sub (b := 48) d1
      have e3 : nI (tx (p - 2)) - 48 = nI (tx (p - 2) - 48) := qI_sub (b := 48) (by omega)
      refine (B_85_57 (n1_ := p) (n2_ := tx p - 48) (n3_ := p - 2) h2 (by omega) (by rw [t27 p (by omega)]; exact e1) (by omega) (by rw [h2]; exact qI_sub (b := 2) (by omega)) (by omega)).mpr ?_
      refine (B_85_91).mpr ?_
      rw [sUp_kind (show 26 ≠ 28 by decide), h2, qI_succ, hP _ (by omega), t27 _ (by omega), e3, ← qI_add]
      refine ih (by omega) he (fRd_up26 (fRd_up28 hf)) hT sUp_same (fun o ho => ?_) hinv'
      rw [sUp_kind (by decide)]
      unfold addN
      by_cases go : o = tx p - 48
      · rw [if_pos go, ← go, sUp_same]
      · rw [if_neg go, sUp_slot go]
        exact hP o ho
    rw [if_neg g2]
    refine (B_85_91).mpr ?_
    rw [h2, qI_succ]
    exact ih (by omega) he (fRd_up26 hf) hT sUp_same (fun o ho => by rw [sUp_kind (by decide)]; exact hP o ho) hinv'
theorem k_readPattern (hd : 3 ≤ d) {t : Nat} (hT : cT tx t S) : Wm d 85 [vR 26 0 0] S (fun q S' => q = some (vI (tf (!(rP tx t).1.2))) ∧ fRd S S' ∧ S' 26 0 0 2 = nI (rP tx t).1.1 ∧ ((rP tx t).1.2 = false → ∀ o, o < 10 → S' 28 0 0 o = nI ((rP tx t).2 o))) := by
  have ht := hT.2.1
  obtain ⟨e1, e2⟩ := cP_run (tx := tx) ht
  refine EW_85 ?_
  obtain ⟨q, T1, r1, rfl, r2, r3⟩ := Wm_ex (k_fill (d := d - 1) (S := S) (k0 := 28) (by decide) rfl rfl (x := 0))
  refine (B_85_0 (by omega) r1).mpr ?_
  have hf : fRd S (sUp T1 26 0 0 2 0) := fRd_up26 (fun k i j m h1 _ => r2 k i j m (fun z => h1 z.1))
  have := k_rp_go (d := d) (S := S) (tx := tx) (e := t) (by omega) t (p := 0) (P := fun _ => 0) (T := sUp T1 26 0 0 2 0) (by omega) ht hf hT sUp_same (fun o ho => by rw [sUp_kind (by decide)]; exact r3 o ho) (fun h => absurd h (by decide))
  rw [e1] at this e2
  obtain ⟨m, hm⟩ := this
  refine ⟨m, bwp_mono hm ?_⟩
  rintro q S' ⟨h1, h2, h3, h4⟩
  exact ⟨h1, h2, h3, fun hw => by rw [← e2 hw]; exact h4⟩
theorem k_strips28 {P : Nat → Nat} (hP : ∀ o, o < 10 → S 28 0 0 o = nI (P o)) : Ret d 135 [vR 28 0 0] S (some (vI (nI (sumN P 10)))) S := by
  refine E_135 ?_
  refine (B_135_0 (by decide) rfl rfl).mpr ?_
  refine wloopI 10 (fun m ls T => T = S ∧ ∃ w5, ls = [some (vR 28 0 0), some (vI (nI (sumN P m))), some (vR 28 0 0), some (vI (nI 10)), some (vI (nI m)), w5]) ?_ ?_ ⟨rfl, none, rfl⟩
  · rintro ls T ⟨rfl, w5, rfl⟩
    refine (B_135_10).mpr ?_
    rw [if_pos (by decide)]
    refine (B_135_33).mpr ?_
    exact ⟨rfl, rfl⟩
  · rintro m hm ls T ⟨rfl, w5, rfl⟩ hn
    refine (B_135_10).mpr ?_
    rw [if_neg (by rw [qI_le (by omega) (by omega)]; omega)]
    refine (B_135_16 (k2 := 28) (i2 := 0) (j2 := 0) (n1_ := m) (by decide) rfl hm rfl rfl).mpr ?_
    rw [hP m hm, qI_succ, ← qI_add]
    exact hn _ _ ⟨rfl, some (vI (nI (P m))), rfl⟩
theorem rfT_iff {P : Nat → Nat} : ∀ n, rfT N P n = true ↔ ∀ o, o < n → 0 < P o → o < cO N := by
  intro n
  induction n with
  | zero => exact ⟨fun _ o h => absurd h (Nat.not_lt_zero _), fun _ => rfl⟩
  | succ n ih =>
    unfold rfT
    rw [Bool.and_eq_true, ih, Bool.or_eq_true, Bool.not_eq_true', decide_eq_false_iff_not, decide_eq_true_eq]
    constructor
    · rintro ⟨h1, h2⟩ o ho hp
      by_cases g : o = n
      · subst g; rcases h2 with h2 | h2
        · exact absurd hp h2
        · exact h2
      · exact h1 o (by omega) hp
    · intro h
      refine ⟨fun o ho => h o (by omega), ?_⟩
      by_cases g : 0 < P n
      · exact Or.inr (h n (by omega) g)
      · exact Or.inl g
theorem rfU_iff {r : Nat} {P : Nat → Nat} : ∀ n, rfU N r P n = true ↔ ∀ o, o < n → 0 < P o → o < cO N → aCan N r o = true := by
  intro n
  induction n with
  | zero => exact ⟨fun _ o h => absurd h (Nat.not_lt_zero _), fun _ => rfl⟩
  | succ n ih =>
    unfold rfU
    rw [Bool.and_eq_true, ih, Bool.or_eq_true, Bool.or_eq_true, Bool.not_eq_true', Bool.not_eq_true', decide_eq_false_iff_not, decide_eq_false_iff_not]
    constructor
    · rintro ⟨h1, h2⟩ o ho hp hc
      by_cases g : o = n
      · subst g; rcases h2 with h2 | h2 | h2
        · exact absurd hp h2
        · exact absurd hc h2
        · exact h2
      · exact h1 o (by omega) hp hc
    · intro h
      refine ⟨fun o ho => h o (by omega), ?_⟩
      by_cases g : 0 < P n
      · by_cases g2 : n < cO N
        · exact Or.inr (Or.inr (h n (by omega) g g2))
        · exact Or.inr (Or.inl g2)
      · exact Or.inl g
theorem rfR_iff {l : Int32} {P : Nat → Nat} : ∀ n, rfR N l P n = true ↔ ∀ o, o < n → 0 < P o → o < cO N → (P o : Int) * l.toInt ≤ (aRoom N o).toInt := by
  intro n
  induction n with
  | zero => exact ⟨fun _ o h => absurd h (Nat.not_lt_zero _), fun _ => rfl⟩
  | succ n ih =>
    unfold rfR
    rw [Bool.and_eq_true, ih, Bool.or_eq_true, Bool.or_eq_true, Bool.not_eq_true', Bool.not_eq_true', decide_eq_false_iff_not, decide_eq_false_iff_not, decide_eq_true_eq]
    constructor
    · rintro ⟨h1, h2⟩ o ho hp hc
      by_cases g : o = n
      · subst g; rcases h2 with h2 | h2 | h2
        · exact absurd hp h2
        · exact absurd hc h2
        · exact h2
      · exact h1 o (by omega) hp hc
    · intro h
      refine ⟨fun o ho => h o (by omega), ?_⟩
      by_cases g : 0 < P n
      · by_cases g2 : n < cO N
        · exact Or.inr (Or.inr (h n (by omega) g g2))
        · exact Or.inr (Or.inl g2)
      · exact Or.inl g
theorem div_le {p : Nat} (hp : 0 < p) (hp2 : p < 10000) {l x : Int32} (hl : 1 ≤ l) : l ≤ x / nI p ↔ (p : Int) * l.toInt ≤ x.toInt := by
  have hne : nI p ≠ -1 := nI_ne_m1 (by omega)
  have hl' : 1 ≤ l.toInt := by
    rw [Int32.le_iff_toInt_le, show (1 : Int32).toInt = 1 from by decide] at hl
    exact hl
  rw [Int32.le_iff_toInt_le, Int32.toInt_div_of_ne_right _ _ hne, nI_toInt (by omega)]
  rcases Int.lt_or_le x.toInt 0 with h | h
  · have h1 : (x.toInt).tdiv (p : Int) ≤ 0 := by
      obtain ⟨y, hy⟩ : ∃ y : Nat, x.toInt = -(y : Int) := ⟨(-x.toInt).toNat, by omega⟩
      rw [hy, Int.neg_tdiv]
      have : 0 ≤ (y : Int).tdiv (p : Int) := Int.tdiv_nonneg (by omega) (by omega)
      omega
    have h2 : 0 ≤ (p : Int) * l.toInt := Int.mul_nonneg (by omega) (by omega)
    omega
  · rw [Int.tdiv_eq_ediv_of_nonneg h, Int.le_ediv_iff_mul_le (by omega), Int.mul_comm]
theorem iMin_le {l a b : Int32} : l ≤ iMin a b ↔ l ≤ a ∧ l ≤ b := by
  unfold iMin
  by_cases h : b < a
  · rw [if_pos h]
    exact ⟨fun q => ⟨Int32.le_trans q (Int32.le_of_lt h), q⟩, fun q => q.2⟩
  · rw [if_neg h]
    exact ⟨fun q => ⟨q, Int32.le_trans q (Int32.not_lt.mp h)⟩, fun q => q.1⟩
theorem mnTo_le {l x : Int32} (hl : 1 ≤ l) {P : Nat → Nat} (hP : ∀ o, P o < 10000) : ∀ n, l ≤ mnTo x (fun o => nI (P o)) (aRoom N) n ↔ l ≤ x ∧ ∀ o, o < n → 0 < P o → (P o : Int) * l.toInt ≤ (aRoom N o).toInt := by
  intro n
  induction n with
  | zero => exact ⟨fun h => ⟨h, fun o h => absurd h (Nat.not_lt_zero _)⟩, fun h => h.1⟩
  | succ n ih =>
    have hPn := hP n
    unfold mnTo
    by_cases g : 0 < P n
    · rw [if_pos (show (0 : Int32) < nI (P n) from by rw [show (0 : Int32) = nI 0 from rfl, qI_lt (by omega) (by omega)]; exact g), iMin_le, ih, div_le g hPn hl]
      constructor
      · rintro ⟨⟨h1, h2⟩, h3⟩
        refine ⟨h1, fun o ho hp => ?_⟩
        by_cases go : o = n
        · subst go; exact h3
        · exact h2 o (by omega) hp
      · rintro ⟨h1, h2⟩
        exact ⟨⟨h1, fun o ho => h2 o (by omega)⟩, h2 n (by omega) g⟩
    · rw [if_neg (show ¬ (0 : Int32) < nI (P n) from by rw [show (0 : Int32) = nI 0 from rfl, qI_lt (by omega) (by omega)]; exact g), ih]
      constructor
      · rintro ⟨h1, h2⟩
        refine ⟨h1, fun o ho hp => ?_⟩
        by_cases go : o = n
        · subst go; exact absurd hp g
        · exact h2 o (by omega) hp
      · rintro ⟨h1, h2⟩
        exact ⟨h1, fun o ho => h2 o (by omega)⟩
theorem k_refusal (hi : i < 12) (hP : PR S i N) (hw : WF N) (hd : 3 ≤ d) {r : Nat} (hr : r < cR N) {l : Int32} (hl : 1 ≤ l) {P : Nat → Nat} (hPb : ∀ o, P o < 10000) (h28 : ∀ o, o < 10 → S 28 0 0 o = nI (P o)) : Ret d 38 [vR 1 i 0, vI (nI r), vI l, vR 28 0 0] S (some (vI (aRefu N r l P))) S := by
  have c8 := hw.1.2.1
  have c12 := hw.1.2.2.2.1
  have c16 := hw.1.2.2.2.2.2
  obtain ⟨s0, s1, s2⟩ := hP.1
  refine E_38 ?_
  refine (B_38_0 (bk1 hi)).mpr ?_
  rw [P_6 hP hw]
  unfold aRefu
  rotate_left
  refine icT (qI_lt (b := 16) (by omega) (by omega)) (fun g1 => ?_) (fun g1 => ?_)
  · rw [if_neg (show ¬ N 5 = 16 from by rw [hw.1.2.2.2.2.1, show (16 : Int32) = nI 16 from rfl, qI_eq (by omega) (by omega)]; omega)]
    refine (B_38_11 (bk1 hi)).mpr ?_
    rw [P_4 hP hw]
    have hpos : ∀ o, o < 10 → (nI (P o) ≤ 0 ↔ ¬ 0 < P o) := fun o _ => by
      rw [show (0 : Int32) = nI 0 from rfl, qI_le (by have := hPb o; omega) (by omega)]
      omega
    refine wloopI (10 - cO N) (fun m ls T => T = S ∧ (∃ w5, ls = [some (vR 1 i 0), some (vI (nI r)), some (vI l), some (vR 28 0 0), some (vI (nI (cO N + m))), w5]) ∧ ∀ o, cO N ≤ o → o < cO N + m → ¬ 0 < P o) ?_ ?_ ⟨rfl, ⟨none, rfl⟩, fun o h1 h2 => by omega⟩
    · rintro ls T ⟨rfl, ⟨w5, rfl⟩, hno⟩
      refine (B_38_17 (by decide) rfl rfl).mpr ?_
      rw [if_pos (by rw [qI_le (by decide) (by omega)]; show 10 ≤ _; omega)]
      have hT : rfT N P 10 = true := (rfT_iff 10).mpr (fun o ho hp => by
        rcases Nat.lt_or_ge o (cO N) with q | q
        · exact q
        · exact absurd hp (hno o q (by omega)))
      rw [if_neg (by rw [hT]; decide)]
      refine (B_38_39 (n1_ := r) (bk1 hi) rfl (by omega) (bk5 hi) (bk6 hi (by omega))).mpr ?_
      rw [(P_r hP hr).2.1]
      refine wloopI (cO N) (fun m ls U => U = T ∧ ls = [some (vR 1 i 0), some (vI (nI r)), some (vI l), some (vR 28 0 0), some (vI (subTo (N (55 + 3 * r)) (fun o => nI (P o) * N (7 + 6 * o)) m)), some (vI (nI m))] ∧ ∀ o, o < m → 0 < P o → aCan N r o = true) ?_ ?_ ⟨rfl, rfl, fun o h => absurd h (Nat.not_lt_zero _)⟩
      · rintro ls U ⟨rfl, rfl, hcan⟩
        refine (B_38_53 (bk1 hi)).mpr ?_
        rw [if_pos (by rw [P_4 hP hw]; exact Int32.le_refl _)]
        have hU : rfU N r P 10 = true := (rfU_iff 10).mpr (fun o _ hp hc => hcan o hc hp)
        rw [if_neg (by rw [hU]; decide)]
        have eW : subTo (N (55 + 3 * r)) (fun o => nI (P o) * N (7 + 6 * o)) (cO N) = rfW N r P := rfl
        rw [eW]
        refine (B_38_116 (bk1 hi) (bk2 hi)).mpr ?_
        rw [s1]
        rotate_left
        refine ic (fun g4 => ?_) (fun g4 => ?_)
        · rw [if_neg (Int32.not_lt.mpr g4)]
          refine (B_38_131 (by omega) (by decide) (k_strips28 h28) k_knivesFor (bk1 hi) (bk2 hi)).mpr ?_
          rw [s0]
          rotate_left
          refine ic (fun g5 => ?_) (fun g5 => ?_)
          · rw [if_neg (Int32.not_lt.mpr g5)]
            refine (B_38_151 (by omega) (k_leftOf hi hP hw hr) (bk1 hi)).mpr ?_
            rotate_left
            refine ic (fun g6 => ?_) (fun g6 => ?_)
            · rw [if_neg (Int32.not_lt.mpr g6)]
              refine (B_38_163 (by omega) (by decide) (k_greatest hi hP hw (by omega) (k3 := 28) (Or.inr rfl) hr (row := fun o => nI (P o)) (fun m hm => h28 m (by omega))) (bk1 hi)).mpr ?_
              rotate_left
              refine ic (fun g7 => ?_) (fun g7 => ?_)
              · refine (B_38_178).mpr ?_
                refine (B_38_179).mpr ?_
                have hR : rfR N l P 10 = true := (rfR_iff 10).mpr (fun o _ hp hc => ((mnTo_le hl hPb (cO N)).mp g7).2 o hc hp)
                rw [if_neg (by rw [hR]; decide)]
                exact ⟨rfl, rfl⟩
              refine (B_38_173).mpr ?_
              refine (B_38_179).mpr ?_
              have hR : rfR N l P 10 = false := by
                cases h : rfR N l P 10 with
                | false => rfl
                | true => exact absurd ((mnTo_le hl hPb (cO N)).mpr ⟨g6, fun o ho hp => (rfR_iff 10).mp h o (by omega) hp ho⟩) g7
              rw [if_pos hR]
              exact ⟨rfl, rfl⟩
            refine (B_38_160).mpr ?_
            rw [if_pos (Int32.not_le.mp g6)]
            exact ⟨rfl, rfl⟩
          refine (B_38_149).mpr ?_
          rw [if_pos (Int32.not_le.mp g5)]
          exact ⟨rfl, rfl⟩
        refine (B_38_129).mpr ?_
        rw [if_pos (Int32.not_le.mp g4)]
        exact ⟨rfl, rfl⟩
      · rintro m hm ls U ⟨rfl, rfl, hcan⟩ hn
        refine (B_38_53 (bk1 hi)).mpr ?_
        rw [if_neg (by rw [P_4 hP hw, qI_le (by omega) (by omega)]; omega)]
        refine (B_38_62 (n1_ := m) (by decide) rfl (by show m < 10; omega) rfl rfl).mpr ?_
        rw [h28 m (by omega)]
        have next : (0 < P m → aCan N r m = true) → Wp d 38 90 [some (vR 1 i 0), some (vI (nI r)), some (vI l), some (vR 28 0 0), some (vI (subTo (N (55 + 3 * r)) (fun o => nI (P o) * N (7 + 6 * o)) m)), some (vI (nI m))] [] U (fun r1 S1 => r1 = some (vI (if rfU N r P 10 = false then 3 else if rfW N r P < 2 * N 1 then 4 else if N 0 < aKn (nI (sumN P 10)) (rfW N r P) then 5 else if aLeft N r < l then 6 else if rfR N l P 10 = false then 7 else 0)) ∧ S1 = U) := by
          intro hc
          refine (B_38_90 (n1_ := m) (n2_ := m) (by decide) rfl (by show m < 10; omega) rfl rfl (bk1 hi) rfl (by omega) (bk3 hi) (bk4 hi (by omega))).mpr ?_
          rw [h28 m (by omega), (P_o hP hm).1.2.1, qI_succ]
          refine hn _ _ ⟨rfl, rfl, fun o ho hp => ?_⟩
          by_cases g : o = m
          · subst g; exact hc hp
          · exact hcan o (by omega) hp
        refine icT (hpos m (by omega)) (fun gp => ?_) (fun gp => ?_)
        · exact next (fun q => absurd q gp)
        refine (B_38_69 (n1_ := r) (n2_ := m) (by omega) (bk1 hi) rfl (by omega) (bk5 hi) rfl (by omega) (bk3 hi) (k_canBeUsedFor hi hP hw hr hm) (bk6 hi (by omega))).mpr ?_
        refine icb (fun gc => ?_) (fun gc => ?_)
        · refine (B_38_88).mpr ?_
          have hU : rfU N r P 10 = false := by
            cases h : rfU N r P 10 with
            | false => rfl
            | true =>
              have := (rfU_iff 10).mp h m (by omega) (by omega) hm
              rw [gc] at this
              exact absurd this (by decide)
          rw [if_pos hU]
          exact ⟨rfl, rfl⟩
        exact next (fun _ => gc)
    · rintro m hm ls T ⟨rfl, ⟨w5, rfl⟩, hno⟩ hn
      refine (B_38_17 (by decide) rfl rfl).mpr ?_
      rw [if_neg (by rw [qI_le (by decide) (by omega)]; show ¬ 10 ≤ _; omega)]
      refine (B_38_24 (n1_ := cO N + m) (by decide) rfl (by show cO N + m < 10; omega) rfl rfl).mpr ?_
      rw [h28 _ (by omega)]
      refine icT (hpos (cO N + m) (by omega)) (fun gp => ?_) (fun gp => ?_)
      · refine (B_38_33).mpr ?_
        rw [qI_succ, Nat.add_assoc]
        refine hn _ _ ⟨rfl, ⟨w5, rfl⟩, fun o h1 h2 => ?_⟩
        by_cases g : o = cO N + m
        · subst g; exact gp
        · exact hno o h1 (by omega)
      refine (B_38_31).mpr ?_
      have hT : rfT N P 10 = false := by
        cases h : rfT N P 10 with
        | false => rfl
        | true =>
          have := (rfT_iff 10).mp h (cO N + m) (by omega) (by omega)
          omega
      rw [if_pos hT]
      exact ⟨rfl, rfl⟩
  refine (B_38_9).mpr ?_
  rw [if_pos (show N 5 = 16 from by rw [hw.1.2.2.2.2.1, show cU N = 16 by omega]; rfl)]
  exact ⟨rfl, rfl⟩
end M18k
