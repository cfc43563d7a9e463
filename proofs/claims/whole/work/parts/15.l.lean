/-! THE MODEL's methods, 20: why a run is refused; run -/
section M15l
def rfT (N : NV) (P : Nat → Nat) : Nat → Bool
  | 0 => true
  | n + 1 => rfT N P n && (!decide (0 < P n) || decide (n < cO N))
def rfU (N : NV) (r : Nat) (P : Nat → Nat) : Nat → Bool
  | 0 => true
  | n + 1 => rfU N r P n && (!decide (0 < P n) || (!decide (n < cO N) || aCan N r n))
def rfR (N : NV) (l : Int32) (P : Nat → Nat) : Nat → Bool
  | 0 => true
  | n + 1 => rfR N l P n && (!decide (0 < P n) || (!decide (n < cO N) || decide ((P n : Int) * l.toInt ≤ (aRoom N n).toInt)))
def rfW (N : NV) (r : Nat) (P : Nat → Nat) : Int32 := subTo (N (55 + 3 * r)) (fun o => nI (P o) * N (7 + 6 * o)) (cO N)
def aRefu (N : NV) (r : Nat) (l : Int32) (P : Nat → Nat) : Int32 := if N 5 = 16 then 1 else if rfT N P 10 = false then 2 else if rfU N r P 10 = false then 3 else if rfW N r P < 2 * N 1 then 4 else if N 0 < aKn (nI (sumN P 10)) (rfW N r P) then 5 else if aLeft N r < l then 6 else if rfR N l P 10 = false then 7 else 0
theorem tf_and (a b : Bool) : tf a &&& tf b = tf (a && b) := by cases a <;> cases b <;> rfl
variable {d : Nat} {S : bSt}
theorem c_stripsIn {P : Nat → Nat} (hP : mPat P S) : Ret d 189 [vR 40 0 0] S (some (vI (nI (sumN P 10)))) S := by
  refine E_189 ?_
  refine (B_189_0).mpr ?_
  refine wloop 10 (fun m => [some (vR 40 0 0), some (vI (nI (sumN P m))), some (vI (nI m))]) (fun _ => S) ?_ ?_
  · refine (B_189_4).mpr ?_
    rw [if_pos (by decide)]
    refine (B_189_25).mpr ?_
    exact ⟨rfl, rfl⟩
  · intro m hm hn
    refine (B_189_4).mpr ?_
    rw [if_neg (by rw [show (10 : Int32) = nI 10 from rfl, qI_le (by omega) (by omega)]; omega)]
    refine (B_189_10 (n1_ := m) rfl hm).mpr ?_
    rw [hP m hm, ← qI_add, qI_succ]
    exact hn
theorem c_restOn (hd : 1 ≤ d) (hw : cW (S 41 0 0)) {P : Nat → Nat} (hP : mPat P S) {r : Nat} (hr : r < 12) : Ret d 190 [vR 40 0 0, vI (nI r)] S (some (vI (rfW (S 41 0 0) r P))) S := by
  obtain ⟨h3, hc, -⟩ := hw
  refine E_190 ?_
  refine (B_190_0 (by omega) (c_r (n := 55 + 3 * r) (by first | rfl | (simp only [qI_add, qI_mul, qI_lits]; done) | (simp only [qI_add, qI_mul, qI_lits]; grind)) (by omega))).mpr ?_
  refine wloop (cO (S 41 0 0)) (fun m => [some (vR 40 0 0), some (vI (nI r)), some (vI (subTo (S 41 0 0 (55 + 3 * r)) (fun o => nI (P o) * S 41 0 0 (7 + 6 * o)) m)), some (vI (nI m))]) (fun _ => S) ?_ ?_
  · refine (B_190_9).mpr ?_
    rw [if_pos (by rw [h3]; exact Int32.le_refl _)]
    refine (B_190_41).mpr ?_
    exact ⟨rfl, rfl⟩
  · intro m hm hn
    refine (B_190_9).mpr ?_
    rw [if_neg (by rw [h3, qI_le (by omega) (by omega)]; omega)]
    refine (B_190_19 (n1_ := m) (by omega) rfl (by omega) (c_o (n := 7 + 6 * m) (by first | rfl | (simp only [qI_add, qI_mul, qI_lits]; done) | (simp only [qI_add, qI_mul, qI_lits]; grind)) (by omega))).mpr ?_
    rw [hP m (by omega), qI_succ]
    exact hn
theorem long_cmp {p : Nat} (hp : p < 10000) (l x : Int32) : 0 < lg_cmp ((nI p).toInt64 * l.toInt64) x.toInt64 ↔ ¬ (p : Int) * l.toInt ≤ x.toInt := by
  rw [lg_cmp_gt, Int64.lt_iff_toInt_lt, Int64.toInt_mul, Int32.toInt_toInt64, Int32.toInt_toInt64, Int32.toInt_toInt64, nI_toInt (by omega)]
  have h1 := l.toInt_lt
  have h2 := l.le_toInt
  have hb : ((p : Int) * l.toInt).bmod (2 ^ 64) = (p : Int) * l.toInt := by
    have a1 : (p : Int) * l.toInt ≤ (p : Int) * 2147483648 := Int.mul_le_mul_of_nonneg_left (by omega) (by omega)
    have a2 : (p : Int) * (-2147483648) ≤ (p : Int) * l.toInt := Int.mul_le_mul_of_nonneg_left (by omega) (by omega)
    unfold Int.bmod
    generalize (p : Int) * l.toInt = z at *
    simp only []
    split <;> omega
  rw [hb]
  omega
theorem vO_tf {N : NV} (hw : cW N) (n : Nat) (hn : n < 1000) : inR (nI n) 0 (N 3 - 1) = decide (n < cO N) := by
  obtain ⟨h3, hc, -⟩ := hw
  by_cases h : n < cO N
  · rw [decide_eq_true h]
    unfold inR
    rw [Bool.and_eq_true, decide_eq_true_iff, decide_eq_true_iff, h3, show nI (cO N) - 1 = nI (cO N - 1) from qI_sub (b := 1) (by omega), show (0 : Int32) = nI 0 from rfl, qI_le (by omega) (by omega), qI_le (by omega) (by omega)]
    omega
  · rw [decide_eq_false h]
    cases hb : inR (nI n) 0 (N 3 - 1) with
    | false => rfl
    | true =>
      rw [h3] at hb
      obtain ⟨m, e, hm⟩ := ix_of (by omega) hb
      rw [qI_eq (by omega) (by omega)] at e
      omega
theorem c_refusal (hd : 4 ≤ d) (hw : WF (S 41 0 0)) {P : Nat → Nat} (hP : mPat P S) (hPb : ∀ o, P o < 10000) {r : Nat} (hr : r < 12) {l : Int32} : Ret d 191 [vR 40 0 0, vI (nI r), vI l] S (some (vI (aRefu (S 41 0 0) r l P))) S := by
  refine E_191 ?_
  refine (B_191_0).mpr ?_
  unfold aRefu
  refine ic (fun g16 => ?_) (fun g16 => ?_)
  · refine (B_191_11).mpr ?_
    rw [if_pos g16]
    exact ⟨rfl, rfl⟩
  rw [if_neg g16]
  refine (B_191_13).mpr ?_
  refine wloopI 10 (fun n ls T => T = S ∧ ∃ w7, ls = [some (vR 40 0 0), some (vI (nI r)), some (vI l), some (vI (tf (rfT (S 41 0 0) P n))), some (vI (tf (rfU (S 41 0 0) r P n))), some (vI (tf (rfR (S 41 0 0) l P n))), some (vI (nI n)), w7]) ?_ ?_ ⟨rfl, none, rfl⟩
  · rintro ls T ⟨rfl, w7, rfl⟩
    refine (B_191_24).mpr ?_
    rw [if_pos (by decide)]
    refine (B_191_156).mpr ?_
    refine icb (fun g2 => ?_) (fun g2 => ?_)
    · refine (B_191_160).mpr ?_
      rw [if_pos g2]
      exact ⟨rfl, rfl⟩
    rw [if_neg (by rw [g2]; decide)]
    refine (B_191_162).mpr ?_
    refine icb (fun g3 => ?_) (fun g3 => ?_)
    · refine (B_191_167).mpr ?_
      rw [if_pos g3]
      exact ⟨rfl, rfl⟩
    rw [if_neg (by rw [g3]; decide)]
    refine (B_191_169 (by omega) (c_restOn (by omega) hw.1 hP hr)).mpr ?_
    rotate_left
    refine ic (fun g4 => ?_) (fun g4 => ?_)
    · rw [if_neg (Int32.not_lt.mpr g4)]
      refine (B_191_191 (by omega) (c_stripsIn hP) c_knivesFor).mpr ?_
      rotate_left
      refine ic (fun g5 => ?_) (fun g5 => ?_)
      · rw [if_neg (Int32.not_lt.mpr g5)]
        refine (B_191_211 (by omega) (c_leftOf (by omega) hr hw.1)).mpr ?_
        rotate_left
        refine ic (fun g6 => ?_) (fun g6 => ?_)
        · rw [if_neg (Int32.not_lt.mpr g6)]
          refine (B_191_225).mpr ?_
          refine icb (fun g7 => ?_) (fun g7 => ?_)
          · refine (B_191_230).mpr ?_
            refine (B_191_236).mpr ?_
            rw [if_pos g7]
            exact ⟨rfl, rfl⟩
          refine (B_191_235).mpr ?_
          refine (B_191_236).mpr ?_
          rw [if_neg (by rw [g7]; decide)]
          exact ⟨rfl, rfl⟩
        refine (B_191_220).mpr ?_
        refine (B_191_236).mpr ?_
        rw [if_pos (Int32.not_le.mp g6)]
        exact ⟨rfl, rfl⟩
      refine (B_191_209).mpr ?_
      rw [if_pos (Int32.not_le.mp g5)]
      exact ⟨rfl, rfl⟩
    refine (B_191_189).mpr ?_
    rw [if_pos (Int32.not_le.mp g4)]
    exact ⟨rfl, rfl⟩
  · rintro n hn ls T ⟨rfl, w7, rfl⟩ hnx
    have hPn := hPb n
    have hor := c_isOrder (d := d - 1) (S := T) (by omega) (x1 := nI n)
    rw [inR_tf, vO_tf hw.1 n (by omega)] at hor
    -- the three parts, each by what it adds
    have p3 : ∀ (h : Bool) (b5 : Bool), (b5 = (!decide (0 < P n) || (!decide (n < cO (T 41 0 0)) || decide ((P n : Int) * l.toInt ≤ (aRoom (T 41 0 0) n).toInt)))) → ∀ x7, Wp d 191 147 [some (vR 40 0 0), some (vI (nI r)), some (vI l), some (vI (tf (rfT (T 41 0 0) P (n + 1)))), some (vI (tf (rfU (T 41 0 0) r P (n + 1)))), some (vI (tf (rfR (T 41 0 0) l P n))), some (vI (nI n)), some (vI x7)] [vI (tf b5), vI (tf (rfR (T 41 0 0) l P n))] T (fun r1 S1 => r1 = some (vI (if rfT (T 41 0 0) P 10 = false then 2 else if rfU (T 41 0 0) r P 10 = false then 3 else if rfW (T 41 0 0) r P < 2 * T 41 0 0 1 then 4 else if T 41 0 0 0 < aKn (nI (sumN P 10)) (rfW (T 41 0 0) r P) then 5 else if aLeft (T 41 0 0) r < l then 6 else if rfR (T 41 0 0) l P 10 = false then 7 else 0)) ∧ S1 = T) := by
      intro h b5 hb x7
      refine (B_191_147).mpr ?_
      rw [qI_succ, tf_and]
      refine hnx _ _ ⟨rfl, some (vI x7), ?_⟩
      rw [hb]
      rfl
    have p2 : ∀ (b4 : Bool), (b4 = (!decide (0 < P n) || (!decide (n < cO (T 41 0 0)) || aCan (T 41 0 0) r n))) → Wp d 191 101 [some (vR 40 0 0), some (vI (nI r)), some (vI l), some (vI (tf (rfT (T 41 0 0) P (n + 1)))), some (vI (tf (rfU (T 41 0 0) r P n))), some (vI (tf (rfR (T 41 0 0) l P n))), some (vI (nI n)), some (vI (tf (decide (0 < P n))))] [vI (tf b4), vI (tf (rfU (T 41 0 0) r P n))] T (fun r1 S1 => r1 = some (vI (if rfT (T 41 0 0) P 10 = false then 2 else if rfU (T 41 0 0) r P 10 = false then 3 else if rfW (T 41 0 0) r P < 2 * T 41 0 0 1 then 4 else if T 41 0 0 0 < aKn (nI (sumN P 10)) (rfW (T 41 0 0) r P) then 5 else if aLeft (T 41 0 0) r < l then 6 else if rfR (T 41 0 0) l P 10 = false then 7 else 0)) ∧ S1 = T) := by
      intro b4 hb
      refine (B_191_101).mpr ?_
      rw [tf_and, show (rfU (T 41 0 0) r P n && b4) = rfU (T 41 0 0) r P (n + 1) by rw [hb]; rfl]
      refine icb (fun gh => ?_) (fun gh => ?_)
      · refine (B_191_142).mpr ?_
        exact p3 true true (by rw [gh]; rfl) _
      refine (B_191_111 (by omega) hor).mpr ?_
      refine icb (fun go => ?_) (fun go => ?_)
      · refine (B_191_142).mpr ?_
        exact p3 true true (by rw [go]; simp) _
      have hno : n < cO (T 41 0 0) := of_decide_eq_true go
      have hc8 := hw.1.2.1
      refine (B_191_120 (n1_ := n) (by omega) rfl hn (c_roomOf (by omega) (by omega) hw.1)).mpr ?_
      rw [hP n hn]
      refine icT (long_cmp hPn l _) (fun gl => ?_) (fun gl => ?_)
      · refine (B_191_146).mpr ?_
        exact p3 true false (by rw [gh, go, decide_eq_false gl]; rfl) _
      refine (B_191_142).mpr ?_
      have gl' := Decidable.not_not.mp gl
      exact p3 true true (by rw [gh, go, decide_eq_true gl']; rfl) _
    have p1 : ∀ (b3 : Bool), (b3 = (!decide (0 < P n) || decide (n < cO (T 41 0 0)))) → Wp d 191 68 [some (vR 40 0 0), some (vI (nI r)), some (vI l), some (vI (tf (rfT (T 41 0 0) P n))), some (vI (tf (rfU (T 41 0 0) r P n))), some (vI (tf (rfR (T 41 0 0) l P n))), some (vI (nI n)), some (vI (tf (decide (0 < P n))))] [vI (tf b3), vI (tf (rfT (T 41 0 0) P n))] T (fun r1 S1 => r1 = some (vI (if rfT (T 41 0 0) P 10 = false then 2 else if rfU (T 41 0 0) r P 10 = false then 3 else if rfW (T 41 0 0) r P < 2 * T 41 0 0 1 then 4 else if T 41 0 0 0 < aKn (nI (sumN P 10)) (rfW (T 41 0 0) r P) then 5 else if aLeft (T 41 0 0) r < l then 6 else if rfR (T 41 0 0) l P 10 = false then 7 else 0)) ∧ S1 = T) := by
      intro b3 hb
      refine (B_191_68).mpr ?_
      rw [tf_and, show (rfT (T 41 0 0) P n && b3) = rfT (T 41 0 0) P (n + 1) by rw [hb]; rfl]
      refine icb (fun gh => ?_) (fun gh => ?_)
      · refine (B_191_96).mpr ?_
        exact p2 true (by rw [gh]; rfl)
      refine (B_191_77 (by omega) hor).mpr ?_
      refine icb (fun go => ?_) (fun go => ?_)
      · refine (B_191_96).mpr ?_
        exact p2 true (by rw [go]; simp)
      have hno : n < cO (T 41 0 0) := of_decide_eq_true go
      have hc8 := hw.1.2.1
      refine (B_191_86 (by omega) (c_canUse (by omega) hr (by omega))).mpr ?_
      refine icb (fun gc => ?_) (fun gc => ?_)
      · refine (B_191_100).mpr ?_
        exact p2 false (by rw [gh, go, gc]; rfl)
      refine (B_191_96).mpr ?_
      exact p2 true (by rw [gh, go, gc]; rfl)
    have p0 : Wp d 191 46 [some (vR 40 0 0), some (vI (nI r)), some (vI l), some (vI (tf (rfT (T 41 0 0) P n))), some (vI (tf (rfU (T 41 0 0) r P n))), some (vI (tf (rfR (T 41 0 0) l P n))), some (vI (nI n)), w7] [vI (tf (decide (0 < P n)))] T (fun r1 S1 => r1 = some (vI (if rfT (T 41 0 0) P 10 = false then 2 else if rfU (T 41 0 0) r P 10 = false then 3 else if rfW (T 41 0 0) r P < 2 * T 41 0 0 1 then 4 else if T 41 0 0 0 < aKn (nI (sumN P 10)) (rfW (T 41 0 0) r P) then 5 else if aLeft (T 41 0 0) r < l then 6 else if rfR (T 41 0 0) l P 10 = false then 7 else 0)) ∧ S1 = T) := by
      refine (B_191_46).mpr ?_
      refine icb (fun gh => ?_) (fun gh => ?_)
      · refine (B_191_63).mpr ?_
        exact p1 true (by rw [gh]; rfl)
      refine (B_191_54 (by omega) hor).mpr ?_
      refine icb (fun go => ?_) (fun go => ?_)
      · refine (B_191_67).mpr ?_
        exact p1 false (by rw [gh, go]; rfl)
      refine (B_191_63).mpr ?_
      exact p1 true (by rw [gh, go]; rfl)
    refine (B_191_24).mpr ?_
    rw [if_neg (by rw [show (10 : Int32) = nI 10 from rfl, qI_le (by omega) (by omega)]; omega)]
    refine (B_191_31 (n1_ := n) rfl hn).mpr ?_
    rw [hP n hn]
    refine icT ((qI_le (b := 0) (by omega) (by omega))) (fun g => ?_) (fun g => ?_)
    · refine (B_191_45).mpr ?_
      rw [show decide (0 < P n) = false from decide_eq_false (by omega)] at p0
      exact p0
    refine (B_191_41).mpr ?_
    rw [show decide (0 < P n) = true from decide_eq_true (by omega)] at p0
    exact p0
end M15l
