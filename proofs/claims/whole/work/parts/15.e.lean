/-! THE MODEL's methods, 13: sums, accounts, grades, the written text -/
section M15e
def aMetO (N : NV) : Int32 := sumTo (fun o => tf (aMet N o)) (cO N)
def aWaste (N : NV) : Int32 := sumTo (fun u => nI (aWas N u)) (cU N)
def aAreaL (N : NV) : Int32 := sumTo (fun r => N (55 + 3 * r) * aLeft N r) (cR N)
def aAreaOf (N : NV) (b : Int32) : Int32 := sumTo (fun r => if tf (!decide (aRem N r = -5)) = b then N (55 + 3 * r) * N (56 + 3 * r) else 0) (cR N)
def aAreaM (N : NV) : Int32 := sumTo (fun o => N (7 + 6 * o) * aMade N o) (cO N)
def aAcc (N : NV) (x : Int32) : Int32 := if x = 0 then aAreaOf N 0 else if x = 1 then aAreaM N else if x = 2 then aWaste N else if x = 3 then aAreaL N else if x = 4 then nI (aSets N) else if x = 5 then aAreaOf N 1 else if x = 6 then aMetO N else if x = 7 then N 5 else if x = 8 then N 4 else if x = 9 then N 3 else -2
def aOrdsOf (N : NV) (g b : Int32) : Int32 := sumTo (fun o => if N (6 + 6 * o) = g ∧ (b = 0 ∨ aMet N o = true) then 1 else 0) (cO N)
def aRollsOf (N : NV) (g b : Int32) : Int32 := sumTo (fun r => if N (54 + 3 * r) = g then (if b = 0 then (if 0 < aLeft N r then 1 else 0) else N (55 + 3 * r) * aLeft N r) else 0) (cR N)
def aWasG (N : NV) (g : Int32) : Int32 := sumTo (fun u => if grR N u = g then nI (aWas N u) else 0) (cU N)
def aGivU (N : NV) (g : Int32) (u : Nat) (x : Int32) : Nat → Int32
  | 0 => x
  | o + 1 => aGivU N g u x o + (if grR N u = g ∧ g < N (6 + 6 * o) then N (94 + 12 * u + o) * N (91 + 12 * u) * N (7 + 6 * o) else 0)
def aGivTo (N : NV) (g : Int32) : Nat → Int32
  | 0 => 0
  | u + 1 => aGivU N g u (aGivTo N g u) (cO N)
def aGiv (N : NV) (g : Int32) : Int32 := aGivTo N g (cU N)
def aGrdW (N : NV) (g x : Int32) : Int32 := if x = 0 then aOrdsOf N g 0 else if x = 1 then aOrdsOf N g 1 else if x = 2 then aRollsOf N g 0 else if x = 3 then aRollsOf N g 1 else if x = 4 then aWasG N g else if x = 5 then aGiv N g else -2
def aGrd (N : NV) (g x : Int32) : Int32 := if inR g 0 3 = true then aGrdW N g x else -2
variable {d : Nat} {S : bSt}
theorem c_metOrders (hd : 4 ≤ d) (hw : WF (S 41 0 0)) : Ret d 227 [vR 40 0 0] S (some (vI (aMetO (S 41 0 0)))) S := by
  have h3 := hw.1.1
  have hc := hw.1.2.1
  refine E_227 ?_
  refine (B_227_0).mpr ?_
  refine wloop (cO (S 41 0 0)) (fun m => [some (vR 40 0 0), some (vI (sumTo (fun o => tf (aMet (S 41 0 0) o)) m)), some (vI (nI m))]) (fun _ => S) ?_ ?_
  · refine (B_227_4).mpr ?_
    rw [if_pos (by rw [h3]; exact Int32.le_refl _)]
    refine (B_227_36).mpr ?_
    exact ⟨rfl, rfl⟩
  · intro m hm hn
    refine (B_227_4).mpr ?_
    rw [if_neg (by rw [h3, qI_le (by omega) (by omega)]; omega)]
    refine (B_227_14 (by omega) (c_isMet (by omega) (by omega) hw.1)).mpr ?_
    rw [sumTo] at hn
    refine icb (fun g => ?_) (fun g => ?_)
    · refine (B_227_27).mpr ?_
      refine (B_227_28).mpr ?_
      rw [g] at hn
      rw [qI_succ]
      exact hn
    refine (B_227_23).mpr ?_
    refine (B_227_28).mpr ?_
    rw [g] at hn
    rw [qI_succ]
    exact hn
theorem c_waste (hd : 5 ≤ d) (hw : WF (S 41 0 0)) : Ret d 228 [vR 40 0 0] S (some (vI (aWaste (S 41 0 0)))) S := by
  have h5 := hw.1.2.2.2.2.1
  have hc := hw.1.2.2.2.2.2
  refine E_228 ?_
  refine (B_228_0).mpr ?_
  refine wloop (cU (S 41 0 0)) (fun m => [some (vR 40 0 0), some (vI (sumTo (fun u => nI (aWas (S 41 0 0) u)) m)), some (vI (nI m))]) (fun _ => S) ?_ ?_
  · refine (B_228_4).mpr ?_
    rw [if_pos (by rw [h5]; exact Int32.le_refl _)]
    refine (B_228_28).mpr ?_
    exact ⟨rfl, rfl⟩
  · intro m hm hn
    refine (B_228_4).mpr ?_
    rw [if_neg (by rw [h5, qI_le (by omega) (by omega)]; omega)]
    refine (B_228_14 (by omega) (c_wasteOf (by omega) hw hm)).mpr ?_
    rw [qI_succ]
    exact hn
theorem c_areaLeft (hd : 2 ≤ d) (hw : WF (S 41 0 0)) : Ret d 229 [vR 40 0 0] S (some (vI (aAreaL (S 41 0 0)))) S := by
  have h4 := hw.1.2.2.1
  have hc := hw.1.2.2.2.1
  refine E_229 ?_
  refine (B_229_0).mpr ?_
  refine wloop (cR (S 41 0 0)) (fun m => [some (vR 40 0 0), some (vI (sumTo (fun r => S 41 0 0 (55 + 3 * r) * aLeft (S 41 0 0) r) m)), some (vI (nI m))]) (fun _ => S) ?_ ?_
  · refine (B_229_4).mpr ?_
    rw [if_pos (by rw [h4]; exact Int32.le_refl _)]
    refine (B_229_35).mpr ?_
    exact ⟨rfl, rfl⟩
  · intro m hm hn
    refine (B_229_4).mpr ?_
    rw [if_neg (by rw [h4, qI_le (by omega) (by omega)]; omega)]
    refine (B_229_14 (by omega) (c_r (n := 55 + 3 * m) (by first | rfl | (simp only [qI_add, qI_mul, qI_lits]; done) | (simp only [qI_add, qI_mul, qI_lits]; grind)) (by omega)) (c_leftOf (by omega) (by omega) hw.1)).mpr ?_
    rw [qI_succ]
    exact hn
theorem c_areaOf (hd : 2 ≤ d) (hw : WF (S 41 0 0)) {x1 : Int32} : Ret d 231 [vR 40 0 0, vI x1] S (some (vI (aAreaOf (S 41 0 0) x1))) S := by
  have h4 := hw.1.2.2.1
  have hc := hw.1.2.2.2.1
  refine E_231 ?_
  refine (B_231_0).mpr ?_
  refine wloop (cR (S 41 0 0)) (fun m => [some (vR 40 0 0), some (vI x1), some (vI (sumTo (fun r => if tf (!decide (aRem (S 41 0 0) r = -5)) = x1 then S 41 0 0 (55 + 3 * r) * S 41 0 0 (56 + 3 * r) else 0) m)), some (vI (nI m))]) (fun _ => S) ?_ ?_
  · refine (B_231_4).mpr ?_
    rw [if_pos (by rw [h4]; exact Int32.le_refl _)]
    refine (B_231_59).mpr ?_
    exact ⟨rfl, rfl⟩
  · intro m hm hn
    refine (B_231_4).mpr ?_
    rw [if_neg (by rw [h4, qI_le (by omega) (by omega)]; omega)]
    refine (B_231_14 (by omega) (c_remnantOf (by omega) hw.1)).mpr ?_
    rw [sumTo] at hn
    have tail : ∀ (b : Int32), b = tf (!decide (aRem (S 41 0 0) m = -5)) → Wp d 231 30 [some (vR 40 0 0), some (vI x1), some (vI (sumTo (fun r => if tf (!decide (aRem (S 41 0 0) r = -5)) = x1 then S 41 0 0 (55 + 3 * r) * S 41 0 0 (56 + 3 * r) else 0) m)), some (vI (nI m))] [vI b, vI (sumTo (fun r => if tf (!decide (aRem (S 41 0 0) r = -5)) = x1 then S 41 0 0 (55 + 3 * r) * S 41 0 0 (56 + 3 * r) else 0) m)] S (fun r1 S1 => r1 = some (vI (aAreaOf (S 41 0 0) x1)) ∧ S1 = S) := by
      intro b hb
      refine (B_231_30).mpr ?_
      rw [← hb] at hn
      refine ic (fun g => ?_) (fun g => ?_)
      · refine (B_231_34 (by omega) (c_r (n := 55 + 3 * m) (by first | rfl | (simp only [qI_add, qI_mul, qI_lits]; done) | (simp only [qI_add, qI_mul, qI_lits]; grind)) (by omega)) (c_r (n := 56 + 3 * m) (by first | rfl | (simp only [qI_add, qI_mul, qI_lits]; done) | (simp only [qI_add, qI_mul, qI_lits]; grind)) (by omega))).mpr ?_
        refine (B_231_51).mpr ?_
        rw [if_pos g] at hn
        rw [qI_succ]
        exact hn
      refine (B_231_50).mpr ?_
      refine (B_231_51).mpr ?_
      rw [if_neg g] at hn
      rw [qI_succ]
      exact hn
    refine ic (fun g => ?_) (fun g => ?_)
    · refine (B_231_29).mpr ?_
      exact tail 0 (by rw [g]; rfl)
    refine (B_231_25).mpr ?_
    exact tail 1 (by simp [g, tf])
theorem c_areaMade (hd : 3 ≤ d) (hw : WF (S 41 0 0)) : Ret d 232 [vR 40 0 0] S (some (vI (aAreaM (S 41 0 0)))) S := by
  have h3 := hw.1.1
  have hc := hw.1.2.1
  refine E_232 ?_
  refine (B_232_0).mpr ?_
  refine wloop (cO (S 41 0 0)) (fun m => [some (vR 40 0 0), some (vI (sumTo (fun o => S 41 0 0 (7 + 6 * o) * aMade (S 41 0 0) o) m)), some (vI (nI m))]) (fun _ => S) ?_ ?_
  · refine (B_232_4).mpr ?_
    rw [if_pos (by rw [h3]; exact Int32.le_refl _)]
    refine (B_232_35).mpr ?_
    exact ⟨rfl, rfl⟩
  · intro m hm hn
    refine (B_232_4).mpr ?_
    rw [if_neg (by rw [h3, qI_le (by omega) (by omega)]; omega)]
    refine (B_232_14 (by omega) (c_o (n := 7 + 6 * m) (by first | rfl | (simp only [qI_add, qI_mul, qI_lits]; done) | (simp only [qI_add, qI_mul, qI_lits]; grind)) (by omega)) (c_madeFor (by omega) (by omega) hw.1)).mpr ?_
    rw [qI_succ]
    exact hn
theorem c_account (hd : 7 ≤ d) (hw : WF (S 41 0 0)) {x1 : Int32} : Ret d 233 [vR 40 0 0, vI x1] S (some (vI (aAcc (S 41 0 0) x1))) S := by
  refine E_233 ?_
  refine (B_233_0).mpr ?_
  rw [X_233_1]
  unfold aAcc
  refine ic (fun q0 => ?_) (fun q0 => ?_)
  · refine (B_233_56 (by omega) (c_areaOf (by omega) hw)).mpr ?_
    exact ⟨by simp [q0], rfl⟩
  rw [if_neg q0]
  refine ic (fun q1 => ?_) (fun q1 => ?_)
  · refine (B_233_62 (by omega) (c_areaMade (by omega) hw)).mpr ?_
    exact ⟨by simp [q0, q1], rfl⟩
  rw [if_neg q1]
  refine ic (fun q2 => ?_) (fun q2 => ?_)
  · refine (B_233_67 (by omega) (c_waste (by omega) hw)).mpr ?_
    exact ⟨by simp [q0, q1, q2], rfl⟩
  rw [if_neg q2]
  refine ic (fun q3 => ?_) (fun q3 => ?_)
  · refine (B_233_72 (by omega) (c_areaLeft (by omega) hw)).mpr ?_
    exact ⟨by simp [q0, q1, q2, q3], rfl⟩
  rw [if_neg q3]
  refine ic (fun q4 => ?_) (fun q4 => ?_)
  · refine (B_233_77 (by omega) (c_setups (by omega) hw)).mpr ?_
    exact ⟨by simp [q0, q1, q2, q3, q4], rfl⟩
  rw [if_neg q4]
  refine ic (fun q5 => ?_) (fun q5 => ?_)
  · refine (B_233_82 (by omega) (c_areaOf (by omega) hw)).mpr ?_
    exact ⟨by simp [q0, q1, q2, q3, q4, q5], rfl⟩
  rw [if_neg q5]
  refine ic (fun q6 => ?_) (fun q6 => ?_)
  · refine (B_233_88 (by omega) (c_metOrders (by omega) hw)).mpr ?_
    exact ⟨by simp [q0, q1, q2, q3, q4, q5, q6], rfl⟩
  rw [if_neg q6]
  refine ic (fun q7 => ?_) (fun q7 => ?_)
  · refine (B_233_93).mpr ?_
    exact ⟨by simp [q0, q1, q2, q3, q4, q5, q6, q7], rfl⟩
  rw [if_neg q7]
  refine ic (fun q8 => ?_) (fun q8 => ?_)
  · refine (B_233_100).mpr ?_
    exact ⟨by simp [q0, q1, q2, q3, q4, q5, q6, q7, q8], rfl⟩
  rw [if_neg q8]
  refine ic (fun q9 => ?_) (fun q9 => ?_)
  · refine (B_233_107).mpr ?_
    exact ⟨by simp [q0, q1, q2, q3, q4, q5, q6, q7, q8, q9], rfl⟩
  rw [if_neg q9]
  refine (B_233_114).mpr ?_
  exact ⟨rfl, rfl⟩
theorem c_ordersOf (hd : 4 ≤ d) (hw : WF (S 41 0 0)) {x1 x2 : Int32} : Ret d 234 [vR 40 0 0, vI x1, vI x2] S (some (vI (aOrdsOf (S 41 0 0) x1 x2))) S := by
  have h3 := hw.1.1
  have hc := hw.1.2.1
  refine E_234 ?_
  refine (B_234_0).mpr ?_
  refine wloop (cO (S 41 0 0)) (fun m => [some (vR 40 0 0), some (vI x1), some (vI x2), some (vI (sumTo (fun o => if S 41 0 0 (6 + 6 * o) = x1 ∧ (x2 = 0 ∨ aMet (S 41 0 0) o = true) then 1 else 0) m)), some (vI (nI m))]) (fun _ => S) ?_ ?_
  · refine (B_234_5).mpr ?_
    rw [if_pos (by rw [h3]; exact Int32.le_refl _)]
    refine (B_234_54).mpr ?_
    exact ⟨rfl, rfl⟩
  · intro m hm hn
    refine (B_234_5).mpr ?_
    rw [if_neg (by rw [h3, qI_le (by omega) (by omega)]; omega)]
    refine (B_234_16 (by omega) (c_o (n := 6 + 6 * m) (by first | rfl | (simp only [qI_add, qI_mul, qI_lits]; done) | (simp only [qI_add, qI_mul, qI_lits]; grind)) (by omega))).mpr ?_
    rw [sumTo, ← qI_succ] at hn
    rotate_left
    refine ic (fun g => ?_) (fun g => ?_)
    · refine (B_234_28).mpr ?_
      refine ic (fun g2 => ?_) (fun g2 => ?_)
      · refine (B_234_41).mpr ?_
        refine (B_234_46).mpr ?_
        rw [if_pos ⟨g, Or.inl g2⟩] at hn
        exact hn
      refine (B_234_32 (by omega) (c_isMet (by omega) (by omega) hw.1)).mpr ?_
      refine icb (fun g3 => ?_) (fun g3 => ?_)
      · refine (B_234_45).mpr ?_
        refine (B_234_46).mpr ?_
        rw [if_neg (fun q => by rcases q.2 with q | q; exact g2 q; rw [g3] at q; exact absurd q (by decide))] at hn
        exact hn
      refine (B_234_41).mpr ?_
      refine (B_234_46).mpr ?_
      rw [if_pos ⟨g, Or.inr g3⟩] at hn
      exact hn
    refine (B_234_45).mpr ?_
    refine (B_234_46).mpr ?_
    rw [if_neg (fun q => g q.1)] at hn
    exact hn
theorem c_rollsOf (hd : 2 ≤ d) (hw : WF (S 41 0 0)) {x1 x2 : Int32} : Ret d 235 [vR 40 0 0, vI x1, vI x2] S (some (vI (aRollsOf (S 41 0 0) x1 x2))) S := by
  have h4 := hw.1.2.2.1
  have hc := hw.1.2.2.2.1
  refine E_235 ?_
  refine (B_235_0).mpr ?_
  refine wloopI (cR (S 41 0 0)) (fun m ls T => T = S ∧ ∃ w5, ls = [some (vR 40 0 0), some (vI x1), some (vI x2), some (vI (sumTo (fun r => if S 41 0 0 (54 + 3 * r) = x1 then (if x2 = 0 then (if 0 < aLeft (S 41 0 0) r then 1 else 0) else S 41 0 0 (55 + 3 * r) * aLeft (S 41 0 0) r) else 0) m)), some (vI (nI m)), w5]) ?_ ?_ ⟨rfl, none, rfl⟩
  · rintro ls T ⟨rfl, w5, rfl⟩
    refine (B_235_5).mpr ?_
    rw [if_pos (by rw [h4]; exact Int32.le_refl _)]
    refine (B_235_79).mpr ?_
    exact ⟨rfl, rfl⟩
  · rintro m hm ls T ⟨rfl, w5, rfl⟩ hn
    refine (B_235_5).mpr ?_
    rw [if_neg (by rw [h4, qI_le (by omega) (by omega)]; omega)]
    have tail : ∀ (y : Int32), y = (if x2 = 0 then (if 0 < aLeft (T 41 0 0) m then 1 else 0) else T 41 0 0 (55 + 3 * m) * aLeft (T 41 0 0) m) → Wp d 235 51 [some (vR 40 0 0), some (vI x1), some (vI x2), some (vI (sumTo (fun r => if T 41 0 0 (54 + 3 * r) = x1 then (if x2 = 0 then (if 0 < aLeft (T 41 0 0) r then 1 else 0) else T 41 0 0 (55 + 3 * r) * aLeft (T 41 0 0) r) else 0) m)), some (vI (nI m)), w5] [vI y] T (fun r1 S1 => r1 = some (vI (aRollsOf (T 41 0 0) x1 x2)) ∧ S1 = T) := by
      intro y hy
      refine (B_235_51 (by omega) (c_r (n := 54 + 3 * m) (by first | rfl | (simp only [qI_add, qI_mul, qI_lits]; done) | (simp only [qI_add, qI_mul, qI_lits]; grind)) (by omega))).mpr ?_
      rotate_left
      refine ic (fun g => ?_) (fun g => ?_)
      · refine (B_235_65).mpr ?_
        refine (B_235_71).mpr ?_
        rw [qI_succ]
        refine hn _ _ ⟨rfl, some (vI y), ?_⟩
        rw [sumTo, if_pos g, ← hy]
      refine (B_235_70).mpr ?_
      refine (B_235_71).mpr ?_
      rw [qI_succ]
      refine hn _ _ ⟨rfl, some (vI y), ?_⟩
      rw [sumTo, if_neg g]
    refine (B_235_16).mpr ?_
    refine ic (fun g => ?_) (fun g => ?_)
    · refine (B_235_37 (by omega) (c_leftOf (by omega) (by omega) hw.1)).mpr ?_
      refine ic (fun g2 => ?_) (fun g2 => ?_)
      · refine (B_235_50).mpr ?_
        exact tail 0 (by rw [if_pos g, if_neg (Int32.not_lt.mpr g2)])
      refine (B_235_46).mpr ?_
      exact tail 1 (by rw [if_pos g, if_pos (Int32.not_le.mp g2)])
    refine (B_235_20 (by omega) (c_r (n := 55 + 3 * m) (by first | rfl | (simp only [qI_add, qI_mul, qI_lits]; done) | (simp only [qI_add, qI_mul, qI_lits]; grind)) (by omega)) (c_leftOf (by omega) (by omega) hw.1)).mpr ?_
    exact tail _ (by rw [if_neg g])
theorem c_grR {u : Nat} (hw : WF (S 41 0 0)) (hu : u < cU (S 41 0 0)) : Ret d 142 [vR 40 0 0, vI (S 41 0 0 (90 + 12 * u)), vI 0] S (some (vI (grR (S 41 0 0) u))) S := by
  obtain ⟨-, e0, -, hr12, -⟩ := wf_run hw hu
  exact c_r (n := 54 + 3 * nv (S 41 0 0) (90 + 12 * u)) (by rw [e0]; exact (by first | rfl | (simp only [qI_add, qI_mul, qI_lits]; done) | (simp only [qI_add, qI_mul, qI_lits]; grind))) (by omega)
theorem c_wasteOfGrade (hd : 5 ≤ d) (hw : WF (S 41 0 0)) {x1 : Int32} : Ret d 236 [vR 40 0 0, vI x1] S (some (vI (aWasG (S 41 0 0) x1))) S := by
  have h5 := hw.1.2.2.2.2.1
  have hc := hw.1.2.2.2.2.2
  refine E_236 ?_
  refine (B_236_0).mpr ?_
  refine wloop (cU (S 41 0 0)) (fun m => [some (vR 40 0 0), some (vI x1), some (vI (sumTo (fun u => if grR (S 41 0 0) u = x1 then nI (aWas (S 41 0 0) u) else 0) m)), some (vI (nI m))]) (fun _ => S) ?_ ?_
  · refine (B_236_4).mpr ?_
    rw [if_pos (by rw [h5]; exact Int32.le_refl _)]
    refine (B_236_47).mpr ?_
    exact ⟨rfl, rfl⟩
  · intro m hm hn
    refine (B_236_4).mpr ?_
    rw [if_neg (by rw [h5, qI_le (by omega) (by omega)]; omega)]
    refine (B_236_14 (by omega) (c_u (n := 90 + 12 * m) (by first | rfl | (simp only [qI_add, qI_mul, qI_lits]; done) | (simp only [qI_add, qI_mul, qI_lits]; grind)) (by omega)) (c_grR hw hm)).mpr ?_
    rw [sumTo, ← qI_succ] at hn
    refine ic (fun g => ?_) (fun g => ?_)
    · refine (B_236_30 (by omega) (c_wasteOf (by omega) hw hm)).mpr ?_
      refine (B_236_39).mpr ?_
      rw [if_pos g] at hn
      exact hn
    refine (B_236_38).mpr ?_
    refine (B_236_39).mpr ?_
    rw [if_neg g] at hn
    exact hn
theorem c_givenBy (hd : 3 ≤ d) (hw : WF (S 41 0 0)) {x1 : Int32} : Ret d 237 [vR 40 0 0, vI x1] S (some (vI (aGiv (S 41 0 0) x1))) S := by
  have h5 := hw.1.2.2.2.2.1
  have hc := hw.1.2.2.2.2.2
  have h3 := hw.1.1
  have h8 := hw.1.2.1
  refine E_237 ?_
  refine (B_237_0).mpr ?_
  refine wloopI (cU (S 41 0 0)) (fun m ls T => T = S ∧ ∃ w4 w5, ls = [some (vR 40 0 0), some (vI x1), some (vI (aGivTo (S 41 0 0) x1 m)), some (vI (nI m)), w4, w5]) ?_ ?_ ⟨rfl, none, none, rfl⟩
  · rintro ls T ⟨rfl, w4, w5, rfl⟩
    refine (B_237_4).mpr ?_
    rw [if_pos (by rw [h5]; exact Int32.le_refl _)]
    refine (B_237_107).mpr ?_
    exact ⟨rfl, rfl⟩
  · rintro m hm ls T ⟨rfl, w4, w5, rfl⟩ hn
    refine (B_237_4).mpr ?_
    rw [if_neg (by rw [h5, qI_le (by omega) (by omega)]; omega)]
    refine (B_237_14).mpr ?_
    refine wloopI (cO (T 41 0 0)) (fun o ls T' => T' = T ∧ ∃ w5, ls = [some (vR 40 0 0), some (vI x1), some (vI (aGivU (T 41 0 0) x1 m (aGivTo (T 41 0 0) x1 m) o)), some (vI (nI m)), some (vI (nI o)), w5]) ?_ ?_ ⟨rfl, w5, rfl⟩
    · rintro ls T' ⟨rfl, w5, rfl⟩
      refine (B_237_17).mpr ?_
      rw [if_pos (by rw [h3]; exact Int32.le_refl _)]
      refine (B_237_101).mpr ?_
      rw [qI_succ]
      exact hn _ _ ⟨rfl, _, _, rfl⟩
    · rintro o ho ls T' ⟨rfl, w5, rfl⟩ hn2
      refine (B_237_17).mpr ?_
      rw [if_neg (by rw [h3, qI_le (by omega) (by omega)]; omega)]
      refine (B_237_28 (by omega) (c_u (n := 90 + 12 * m) (by first | rfl | (simp only [qI_add, qI_mul, qI_lits]; done) | (simp only [qI_add, qI_mul, qI_lits]; grind)) (by omega)) (c_grR hw hm)).mpr ?_
      have no : ∀ (x5 : Option bV), ¬ (grR (T' 41 0 0) m = x1 ∧ x1 < T' 41 0 0 (6 + 6 * o)) → Wp d 237 58 [some (vR 40 0 0), some (vI x1), some (vI (aGivU (T' 41 0 0) x1 m (aGivTo (T' 41 0 0) x1 m) o)), some (vI (nI m)), some (vI (nI o)), x5] [] T' (fun r1 S1 => r1 = some (vI (aGiv (T' 41 0 0) x1)) ∧ S1 = T') := by
        intro x5 h
        refine (B_237_58).mpr ?_
        refine (B_237_59).mpr ?_
        rw [if_pos (rfl)]
        refine (B_237_92).mpr ?_
        refine (B_237_93).mpr ?_
        rw [qI_succ]
        refine hn2 _ _ ⟨rfl, some (vI 0), ?_⟩
        rw [aGivU, if_neg h]
      refine ic (fun g => ?_) (fun g => ?_)
      · refine (B_237_43 (by omega) (c_o (n := 6 + 6 * o) (by first | rfl | (simp only [qI_add, qI_mul, qI_lits]; done) | (simp only [qI_add, qI_mul, qI_lits]; grind)) (by omega))).mpr ?_
        refine ic (fun g2 => ?_) (fun g2 => ?_)
        · exact no _ (fun q => Int32.not_lt.mpr g2 q.2)
        refine (B_237_54).mpr ?_
        refine (B_237_59).mpr ?_
        rw [if_neg (by decide)]
        refine (B_237_67 (by omega) (c_strips (n := 94 + 12 * m + o) (by omega) (by first | rfl | (simp only [qI_add, qI_mul, qI_lits]; done) | (simp only [qI_add, qI_mul, qI_lits]; grind)) (by omega)) (c_u (n := 91 + 12 * m) (by first | rfl | (simp only [qI_add, qI_mul, qI_lits]; done) | (simp only [qI_add, qI_mul, qI_lits]; grind)) (by omega)) (c_o (n := 7 + 6 * o) (by first | rfl | (simp only [qI_add, qI_mul, qI_lits]; done) | (simp only [qI_add, qI_mul, qI_lits]; grind)) (by omega))).mpr ?_
        refine (B_237_93).mpr ?_
        rw [qI_succ]
        refine hn2 _ _ ⟨rfl, some (vI 1), ?_⟩
        rw [aGivU, if_pos ⟨g, Int32.not_le.mp g2⟩]
      exact no _ (fun q => g q.1)
end M15e
