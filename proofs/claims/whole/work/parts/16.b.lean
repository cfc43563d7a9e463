/-! THE CLASS, 2: why an order isn't met; what is read off a run; setups -/
section M16b
variable {d : Nat} {S : bSt} {N : NV} {i : Nat}
/-- a number of strips of width w that a roll of width W can be cut into alone -/
def pN (N : NV) (w W n : Nat) : Bool := decide (n * w ≤ W) && aPoss N (nI n) (nI W - nI n * nI w)
/-- the greatest one from n downwards -/
def mdn (N : NV) (w W : Nat) : Nat → Nat
  | 0 => 0
  | n + 1 => if pN N w W (n + 1) = true then n + 1 else mdn N w W n
theorem aAl_char {N : NV} {w W : Nat} : ∀ (n s m : Nat), aAlFrom N w W s m n = m ∧ (∀ k, s ≤ k → k < s + n → (∀ j, s ≤ j → j ≤ k → j * w ≤ W) → pN N w W k = false) ∨ (∃ k, s ≤ k ∧ k < s + n ∧ aAlFrom N w W s m n = k ∧ pN N w W k = true ∧ (∀ k', k < k' → k' < s + n → (∀ j, s ≤ j → j ≤ k' → j * w ≤ W) → pN N w W k' = false)) := by
  intro n
  induction n with
  | zero => intro s m; exact Or.inl ⟨rfl, fun k h1 h2 => by omega⟩
  | succ n ih =>
    intro s m
    unfold aAlFrom
    by_cases hW : W < s * w
    · rw [if_pos hW]
      exact Or.inl ⟨rfl, fun k h1 h2 h3 => absurd (h3 s (Nat.le_refl _) h1) (by omega)⟩
    · rw [if_neg hW]
      have hp : pN N w W s = aPoss N (nI s) (nI W - nI s * nI w) := by
        unfold pN
        rw [decide_eq_true (show s * w ≤ W by omega), Bool.true_and]
      rcases ih (s + 1) (if aPoss N (nI s) (nI W - nI s * nI w) = true then s else m) with ⟨e, h⟩ | ⟨k, k1, k2, e, k3, k4⟩
      · by_cases hs : aPoss N (nI s) (nI W - nI s * nI w) = true
        · rw [if_pos hs] at e ⊢
          refine Or.inr ⟨s, Nat.le_refl _, by omega, e, hp.trans hs, fun k' h1 h2 h3 => ?_⟩
          exact h k' (by omega) (by omega) (fun j j1 j2 => h3 j (by omega) j2)
        · rw [if_neg hs] at e ⊢
          refine Or.inl ⟨e, fun k h1 h2 h3 => ?_⟩
          rcases Nat.eq_or_lt_of_le h1 with q | q
          · rw [← q, hp]; simpa using hs
          · exact h k (by omega) (by omega) (fun j j1 j2 => h3 j (by omega) j2)
      · exact Or.inr ⟨k, by omega, by omega, e, k3, fun k' h1 h2 h3 => k4 k' h1 (by omega) (fun j j1 j2 => h3 j (by omega) j2)⟩
theorem mdn_char {N : NV} {w W : Nat} : ∀ n, (mdn N w W n = 0 ∧ ∀ k, 1 ≤ k → k ≤ n → pN N w W k = false) ∨ (1 ≤ mdn N w W n ∧ mdn N w W n ≤ n ∧ pN N w W (mdn N w W n) = true ∧ ∀ k, mdn N w W n < k → k ≤ n → pN N w W k = false) := by
  intro n
  induction n with
  | zero => exact Or.inl ⟨rfl, fun k h1 h2 => by omega⟩
  | succ n ih =>
    unfold mdn
    by_cases h : pN N w W (n + 1) = true
    · rw [if_pos h]
      exact Or.inr ⟨by omega, Nat.le_refl _, h, fun k h1 h2 => by omega⟩
    · rw [if_neg h]
      have h' : pN N w W (n + 1) = false := by simpa using h
      rcases ih with ⟨e, g⟩ | ⟨g1, g2, g3, g4⟩
      · refine Or.inl ⟨e, fun k h1 h2 => ?_⟩
        rcases Nat.eq_or_lt_of_le h2 with q | q
        · rw [q]; exact h'
        · exact g k h1 (by omega)
      · refine Or.inr ⟨g1, by omega, g3, fun k h1 h2 => ?_⟩
        rcases Nat.eq_or_lt_of_le h2 with q | q
        · rw [q]; exact h'
        · exact g4 k h1 (by omega)
theorem pN_8 {N : NV} {w W n : Nat} (hW : W < 1000) (hn : n < 1000) (h7 : ok N 0 2 7) (h : pN N w W n = true) : n ≤ 8 := by
  unfold pN at h
  rw [Bool.and_eq_true, decide_eq_true_iff] at h
  obtain ⟨h1, h2⟩ := h
  rw [← qI_mul, qI_sub h1] at h2
  unfold aPoss at h2
  simp only [Bool.and_eq_true, decide_eq_true_eq] at h2
  obtain ⟨a1, -, a3⟩ := h2
  rw [show (0 : Int32) = nI 0 from rfl, qI_lt (by omega) (by omega)] at a1
  rw [aKn_n (by omega) (by omega), h7.1, qI_le (by split <;> omega) (by have := h7.2.2; omega)] at a3
  have := h7.2.2
  split at a3 <;> omega
theorem aAl_mdn {N : NV} {w W : Nat} (hW : W < 1000) (hw : 1 ≤ w) (h7 : ok N 0 2 7) : aAlFrom N w W 1 0 40 = mdn N w W 8 := by
  have mono : ∀ k, pN N w W k = true → ∀ j, 1 ≤ j → j ≤ k → j * w ≤ W := by
    intro k hk j _ hj
    unfold pN at hk
    rw [Bool.and_eq_true, decide_eq_true_iff] at hk
    exact Nat.le_trans (Nat.mul_le_mul_right _ hj) hk.1
  rcases aAl_char (N := N) (w := w) (W := W) 40 1 0 with ⟨e, h⟩ | ⟨k, k1, k2, e, k3, k4⟩
  · rw [e]
    rcases mdn_char (N := N) (w := w) (W := W) 8 with ⟨g, -⟩ | ⟨g1, g2, g3, -⟩
    · exact g.symm
    · have := h (mdn N w W 8) g1 (by omega) (mono _ g3)
      rw [g3] at this
      exact absurd this (by decide)
  · rw [e]
    have k8 := pN_8 hW (by omega) h7 k3
    rcases mdn_char (N := N) (w := w) (W := W) 8 with ⟨-, g⟩ | ⟨g1, g2, g3, g4⟩
    · rw [g k k1 k8] at k3
      exact absurd k3 (by decide)
    · rcases Nat.lt_trichotomy k (mdn N w W 8) with q | q | q
      · have := k4 _ q (by omega) (mono _ g3)
        rw [g3] at this
        exact absurd this (by decide)
      · exact q
      · rw [g4 k q k8] at k3
        exact absurd k3 (by decide)
theorem k_mostAlone (hi : i < 12) (hP : PR S i N) (hw : WF N) (hd : 1 ≤ d) {w W : Nat} (hW : W < 1000) (hw1 : w < 1000) : Ret d 30 [vR 1 i 0, vI (nI W), vI (nI w)] S (some (vI (nI (mdn N w W 8)))) S := by
  refine E_30 ?_
  refine (B_30_0).mpr ?_
  obtain ⟨s0, s1, s2⟩ := hP.1
  have ok0 := hw.2.1.1
  have ok1 := hw.2.1.2.1
  have h0 := ok0.1
  have h02 := ok0.2.2
  have h1 := ok1.1
  have h12 := ok1.2.2
  have go : ∀ n, n ≤ 8 → ∀ u4, Wp d 30 3 [some (vR 1 i 0), some (vI (nI W)), some (vI (nI w)), some (vI (nI n)), u4] [] S (fun r1 S1 => r1 = some (vI (nI (mdn N w W n))) ∧ S1 = S) := by
    intro n
    induction n with
    | zero =>
      intro _ u4
      refine (B_30_3).mpr ?_
      rw [if_pos (by decide)]
      refine (B_30_50).mpr ?_
      exact ⟨rfl, rfl⟩
    | succ n ih =>
      intro hn u4
      refine (B_30_3).mpr ?_
      rw [if_neg (by rw [show (0 : Int32) = nI 0 from rfl, qI_le (by omega) (by omega)]; omega)]
      refine (B_30_7 (bk1 hi) (bk2 hi)).mpr ?_
      have nxt : pN N w W (n + 1) = false → Wp d 30 44 [some (vR 1 i 0), some (vI (nI W)), some (vI (nI w)), some (vI (nI (n + 1))), some (vI (nI W - nI (n + 1) * nI w))] [] S (fun r1 S1 => r1 = some (vI (nI (mdn N w W (n + 1)))) ∧ S1 = S) := by
        intro hf
        refine (B_30_44).mpr ?_
        rw [show nI (n + 1) + (-1 : Int32) = nI n from by rw [qI_add, qI_lits.2.1]; grind, mdn, if_neg (by rw [hf]; decide)]
        exact ih (by omega) _
      rw [s1]
      have hmw : (n + 1) * w ≤ 8 * 1000 := Nat.mul_le_mul hn (by omega)
      -- the rest may fall below nothing
      by_cases hle : (n + 1) * w ≤ W
      · have er : nI W - nI (n + 1) * nI w = nI (W - (n + 1) * w) := by rw [← qI_mul, qI_sub hle]
        refine ic (fun g => ?_) (fun g => ?_)
        · refine nxt ?_
          unfold pN aPoss
          rw [decide_eq_false (Int32.not_le.mpr g)]
          simp
        refine (B_30_27 (by omega) k_knivesFor (bk1 hi) (bk2 hi)).mpr ?_
        rw [s0]
        refine ic (fun g2 => ?_) (fun g2 => ?_)
        · refine nxt ?_
          unfold pN aPoss
          rw [decide_eq_false (Int32.not_le.mpr g2)]
          simp
        refine (B_30_42).mpr ?_
        rw [mdn, if_pos]
        · exact ⟨rfl, rfl⟩
        · unfold pN aPoss
          rw [decide_eq_true hle, decide_eq_true (Int32.not_lt.mp g), decide_eq_true (Int32.not_lt.mp g2), decide_eq_true (show (0 : Int32) < nI (n + 1) from by rw [show (0 : Int32) = nI 0 from rfl, qI_lt (by omega) (by omega)]; omega)]
          rfl
      · have hneg : nI W - nI (n + 1) * nI w < 2 * N 1 := by
          rw [h1, ← qI_mul, show (2 : Int32) = nI 2 from rfl, ← qI_mul, Int32.lt_iff_toInt_lt, Int32.toInt_sub, nI_toInt (by omega), nI_toInt (by omega), nI_toInt (by omega), bm32 (by omega) (by omega)]
          omega
        rw [if_pos (hneg)]
        exact nxt (by unfold pN; rw [decide_eq_false hle]; rfl)
  exact go 8 (Nat.le_refl _) none
theorem aAlone_mdn (hw : WF N) {r o : Nat} (hr : r < cR N) (ho : o < cO N) : aAlone N r o = mdn N (nv N (7 + 6 * o)) (nv N (55 + 3 * r)) 8 := by
  have h1 := (hw.2.2.1 o ho).2.1.2
  have h2 := (hw.2.2.2.1 r hr).2.1.2.2
  exact aAl_mdn (by unfold nv at *; omega) (by unfold nv at *; omega) hw.2.1.1
theorem k_whyNotMet (hi : i < 12) (hP : PR S i N) (hw : WF N) (hd : 3 ≤ d) {o : Nat} (ho : o < cO N) : Ret d 29 [vR 1 i 0, vI (nI o)] S (some (vI (aExpl N o))) S := by
  have h8 := hw.1.2.1
  have h12 := hw.1.2.2.2.1
  obtain ⟨⟨o0, o1, o2, o3, o4, o5⟩, ol, om⟩ := P_o hP ho
  obtain ⟨w1, -, w2⟩ := (hw.2.2.1 o ho).2.1
  refine E_29 ?_
  refine (B_29_0 (by omega) (k_isMet hi hP hw (by omega) ho) (bk1 hi)).mpr ?_
  unfold aExpl
  rotate_left
  refine icb (fun g => ?_) (fun g => ?_)
  · rw [if_neg (by rw [g]; decide)]
    refine (B_29_10).mpr ?_
    refine wloopI (cR N) (fun m ls T => T = S ∧ ∃ w6 w7, ls = [some (vR 1 i 0), some (vI (nI o)), some (vI (tf (eHas N o m))), some (vI (tf (eWide N o m))), some (vI (eSum N o m)), some (vI (nI m)), w6, w7]) ?_ ?_ ⟨rfl, none, none, rfl⟩
    · rintro ls T ⟨rfl, w6, w7, rfl⟩
      refine (B_29_20 (bk1 hi)).mpr ?_
      rw [if_pos (by rw [P_5 hP hw]; exact Int32.le_refl _)]
      refine (B_29_119).mpr ?_
      refine icb (fun g1 => ?_) (fun g1 => ?_)
      · refine (B_29_123).mpr ?_
        rw [if_pos g1]
        exact ⟨rfl, rfl⟩
      rw [if_neg (by rw [g1]; decide)]
      refine (B_29_125).mpr ?_
      refine icb (fun g2 => ?_) (fun g2 => ?_)
      · refine (B_29_129).mpr ?_
        rw [if_pos g2]
        exact ⟨rfl, rfl⟩
      rw [if_neg (by rw [g2]; decide)]
      refine (B_29_131 (n1_ := o) (by omega) (bk1 hi) rfl (by omega) (bk3 hi) (bk4 hi (by omega)) (k_madeFor hi hP hw (by omega))).mpr ?_
      rw [ol]
      refine ic (fun g3 => ?_) (fun g3 => ?_)
      · refine (B_29_155).mpr ?_
        refine (B_29_156).mpr ?_
        rw [if_neg (Int32.not_lt.mpr g3)]
        exact ⟨rfl, rfl⟩
      refine (B_29_151).mpr ?_
      refine (B_29_156).mpr ?_
      rw [if_pos (Int32.not_le.mp g3)]
      exact ⟨rfl, rfl⟩
    · rintro m hm ls T ⟨rfl, w6, w7, rfl⟩ hn
      obtain ⟨p0, p1, p2⟩ := P_r hP hm
      obtain ⟨W1, -, W2⟩ := (hw.2.2.2.1 m hm).2.1
      refine (B_29_20 (bk1 hi)).mpr ?_
      rw [if_neg (by rw [P_5 hP hw, qI_le (by omega) (by omega)]; omega)]
      refine (B_29_29 (by omega) (k_leftOf hi hP hw hm) (bk1 hi)).mpr ?_
      have skip : eU N o m = false → ∀ u7, Wp d 29 113 [some (vR 1 i 0), some (vI (nI o)), some (vI (tf (eHas N o m))), some (vI (tf (eWide N o m))), some (vI (eSum N o m)), some (vI (nI m)), some (vI (aLeft N m)), u7] [] T (fun r1 S1 => r1 = some (vI (if eHas N o (cR N) = false then 1 else if eWide N o (cR N) = false then 2 else if eSum N o (cR N) < aLeast N o - aMade N o then 3 else 4)) ∧ S1 = T) := by
        intro hf u7
        refine (B_29_113).mpr ?_
        rw [qI_succ]
        refine hn _ _ ⟨rfl, some (vI (aLeft N m)), u7, ?_⟩
        rw [eHas, eWide, eSum, hf, Bool.or_false, Bool.false_and, Bool.or_false, if_neg (by decide), Int32.add_zero]
      refine ic (fun g1 => ?_) (fun g1 => ?_)
      · exact skip (by unfold eU; rw [decide_eq_false (Int32.not_lt.mpr g1), Bool.and_false]) _
      refine (B_29_42 (n1_ := m) (n2_ := o) (by omega) (bk1 hi) rfl (by omega) (bk5 hi) rfl (by omega) (bk3 hi) (k_canBeUsedFor hi hP hw hm ho) (bk6 hi (by omega))).mpr ?_
      refine icb (fun g2 => ?_) (fun g2 => ?_)
      · exact skip (by unfold eU; rw [g2]; rfl) _
      have hu : eU N o m = true := by unfold eU; rw [g2, decide_eq_true (Int32.not_le.mp g1)]; rfl
      refine (B_29_61 (n1_ := m) (n2_ := o) (by omega) (bk1 hi) rfl (by omega) (bk5 hi) (bk6 hi (by omega)) rfl (by omega) (bk3 hi) (bk4 hi (by omega)) (by rw [p1, o1, W1, w1]; exact k_mostAlone hi hP hw (by omega) (by omega) (by omega))).mpr ?_
      have hal := aAlone_mdn hw hm ho
      rw [← hal]
      have tail : ∀ b : Bool, b = eWide N o (m + 1) → ∀ x3, Wp d 29 102 [some (vR 1 i 0), some (vI (nI o)), some (vI 1), some (vI x3), some (vI (eSum N o m)), some (vI (nI m)), some (vI (aLeft N m)), some (vI (nI (aAlone N m o)))] [vI (tf b)] T (fun r1 S1 => r1 = some (vI (if eHas N o (cR N) = false then 1 else if eWide N o (cR N) = false then 2 else if eSum N o (cR N) < aLeast N o - aMade N o then 3 else 4)) ∧ S1 = T) := by
        intro b hb x3
        refine (B_29_102).mpr ?_
        refine (B_29_113).mpr ?_
        rw [qI_succ]
        refine hn _ _ ⟨rfl, some (vI (aLeft N m)), some (vI (nI (aAlone N m o))), ?_⟩
        rw [hb, eHas, hu, Bool.or_true, eSum, if_pos hu]
        rfl
      have hm8 : aAlone N m o < 1000 := by have := aAlone_lt N m o; omega
      refine icb (fun g3 => ?_) (fun g3 => ?_)
      · refine (B_29_92).mpr ?_
        refine icT ((qI_le (b := 0) (by omega) (by omega))) (fun g4 => ?_) (fun g4 => ?_)
        · refine (B_29_101).mpr ?_
          exact tail false (by rw [eWide, g3, hu, decide_eq_false (by omega)]; rfl) _
        refine (B_29_97).mpr ?_
        exact tail true (by rw [eWide, g3, hu, decide_eq_true (by omega)]; rfl) _
      refine (B_29_97).mpr ?_
      exact tail true (by rw [eWide, g3]; rfl) _
  refine (B_29_8).mpr ?_
  rw [if_pos g]
  exact ⟨rfl, rfl⟩
end M16b
