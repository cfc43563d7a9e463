/-! THE LAW: append, write, written, ifAll, undo, save, restore -/
section M20d
variable {d : Nat} {S : bSt} {x1 : Int32}
theorem T_7 (hR : REL S) (hd : 30 ≤ d) : twoC d 103 174 [vI x1] S := by
  obtain ⟨hA, hB, ⟨t, tx, hT, h7, h45⟩, hD, hE, hF⟩ := hR
  have ht := hT.2.1
  by_cases g : inR x1 32 126 = true ∧ t < 80
  · have e1 := K_append (d := d) (by omega) ht hT.1 (x1 := x1)
    rw [if_pos g] at e1
    generalize hS1 : sUp (sUp S 27 0 0 t x1) 26 0 0 1 (nI (t + 1)) = S1 at e1
    have u : ∀ k i j m, ¬ (k = 27 ∧ m = t) → ¬ (k = 26 ∧ m = 1) → S1 k i j m = S k i j m := by
      intro k i j m q1 q2
      rw [← hS1]
      unfold sUp
      rw [if_neg (fun q => q2 ⟨q.1, q.2.2.2⟩), if_neg (fun q => q1 ⟨q.1, q.2.2.2⟩)]
    have u1 : S1 27 0 0 t = x1 := by rw [← hS1, sUp_kind (by decide), sUp_same]
    have u2 : S1 26 0 0 1 = nI (t + 1) := by rw [← hS1, sUp_same]
    have e2 := c_append (d := d) (S := S1) (by omega) ht (by rw [u _ _ _ _ (by omega) (by omega)]; exact h7) (x1 := x1)
    rw [if_pos g] at e2
    generalize hS2 : sUp (sUp S1 45 0 0 t x1) 40 0 0 7 (nI (t + 1)) = S2 at e2
    have v : ∀ k i j m, ¬ (k = 45 ∧ m = t) → ¬ (k = 40 ∧ m = 7) → S2 k i j m = S1 k i j m := by
      intro k i j m q1 q2
      rw [← hS2]
      unfold sUp
      rw [if_neg (fun q => q2 ⟨q.1, q.2.2.2⟩), if_neg (fun q => q1 ⟨q.1, q.2.2.2⟩)]
    have v1 : S2 45 0 0 t = x1 := by rw [← hS2, sUp_kind (by decide), sUp_same]
    have v2 : S2 40 0 0 7 = nI (t + 1) := by rw [← hS2, sUp_same]
    have w : ∀ k i j m, k ≠ 27 → k ≠ 45 → ¬ (k = 26 ∧ m = 1) → ¬ (k = 40 ∧ m = 7) → S2 k i j m = S k i j m := fun k i j m q1 q2 q3 q4 => (v k i j m (by omega) (by omega)).trans (u k i j m (by omega) (by omega))
    obtain ⟨n, hn, n1, n2⟩ := inR_n (x := x1) (a := 32) (b := 126) g.1 (by omega) (by omega)
    refine ⟨_, S1, S2, e1, e2, ⟨rlA_c (fun k i j m h => w k i j m (by omega) (by omega) (by omega) (by omega)) hA, rlB_c (fun k i j m h => w k i j m (by omega) (by omega) (by omega) (by omega)) hB, ⟨t + 1, (fun m => if m = t then n else tx m), ⟨?_, by omega, fun m hm => ?_, fun m hm => ?_⟩, v2, fun m hm => ?_⟩, rlD_c (fun k i j m h => w k i j m (by omega) (by omega) (by omega) (by omega)) hD, rlE_c (fun k i j m h => w k i j m (by omega) (by omega) (by omega) (by omega)) hE, rlF_c (fun k i j m h => w k i j m (by omega) (by omega) (by omega) (by omega)) hF⟩, fun i j m => u _ _ _ _ (by omega) (by omega), fun i j m => w _ _ _ _ (by omega) (by omega) (by omega) (by omega)⟩
    · rw [v _ _ _ _ (by omega) (by omega)]; exact u2
    · show (if m = t then n else tx m) < 127
      by_cases q : m = t
      · rw [if_pos q]; omega
      · rw [if_neg q]; exact hT.2.2.1 m hm
    · show S2 27 0 0 m = nI (if m = t then n else tx m)
      rw [v _ _ _ _ (by omega) (by omega)]
      by_cases q : m = t
      · rw [if_pos q, q, u1, hn]
      · rw [if_neg q, u _ _ _ _ (by omega) (by omega)]; exact hT.2.2.2 m hm
    · show S2 45 0 0 m = nI (if m = t then n else tx m)
      by_cases q : m = t
      · rw [if_pos q, q, v1, hn]
      · rw [if_neg q, v _ _ _ _ (by omega) (by omega), u _ _ _ _ (by omega) (by omega)]; exact h45 m hm
  · have e1 := K_append (d := d) (by omega) ht hT.1 (x1 := x1)
    have e2 := c_append (d := d) (S := S) (by omega) ht h7 (x1 := x1)
    rw [if_neg g] at e1 e2
    exact twoC_q ⟨hA, hB, ⟨t, tx, hT, h7, h45⟩, hD, hE, hF⟩ e1 e2
theorem T_20 (hR : REL S) (hd : 30 ≤ d) : twoC d 116 205 [vI x1] S := by
  have hPW := REL_q hR
  obtain ⟨hA, hB, hC, ⟨l, l1, l2, l3⟩, hE, hF⟩ := hR
  obtain ⟨q, S1, e1, rfl, f1, w1⟩ := Wm_ex (K_write (d := d) hPW.1 hPW.2 (by omega) (x1 := x1) l1)
  have u : ∀ k i j m, k ≠ 32 → ¬ (k = 0 ∧ m = 9) → S1 k i j m = S k i j m := f1
  have e41 : S1 41 0 0 = S 41 0 0 := funext fun m => u _ _ _ _ (by omega) (by omega)
  have l2' : WtM l S1 := ⟨by rw [u _ _ _ _ (by omega) (by omega)]; exact l2.1, fun m hm => by rw [u _ _ _ _ (by omega) (by omega)]; exact l2.2 m hm⟩
  obtain ⟨q, S2, e2, rfl, f2, w2⟩ := Wm_ex (c_write (d := d) (S := S1) (by omega) (by rw [e41]; exact hPW.2) (x1 := x1) l2')
  rw [e41] at e2 w2
  have v : ∀ k i j m, k ≠ 32 → k ≠ 50 → ¬ (k = 0 ∧ m = 9) → ¬ (k = 40 ∧ m = 21) → S2 k i j m = S k i j m := fun k i j m q1 q2 q3 q4 => (f2 k i j m (by unfold scW; simp; omega)).trans (u k i j m q1 q3)
  have hlen : (aWrtL (S 41 0 0) x1 l).length ≤ 31 := by
    unfold aWrtL
    split
    · rcases wrL_len (N := S 41 0 0) (u := x1.toNatClampNeg) 8 with q | q
      · rw [q]; exact Nat.zero_le _
      · omega
    · exact l3
  refine ⟨_, S1, S2, e1, e2, ⟨rlA_c (fun k i j m h => v k i j m (by omega) (by omega) (by omega) (by omega)) hA, rlB_c (fun k i j m h => v k i j m (by omega) (by omega) (by omega) (by omega)) hB, rlC_c (fun k i j m h => v k i j m (by omega) (by omega) (by omega) (by omega)) hC, ⟨_, ⟨?_, fun m hm => ?_⟩, w2, hlen⟩, rlE_c (fun k i j m h => v k i j m (by omega) (by omega) (by omega) (by omega)) hE, rlF_c (fun k i j m h => v k i j m (by omega) (by omega) (by omega) (by omega)) hF⟩, fun i j m => u _ _ _ _ (by omega) (by omega), fun i j m => v _ _ _ _ (by omega) (by omega) (by omega) (by omega)⟩
  · rw [f2 0 0 0 9 (by decide)]; exact w1.1
  · rw [f2 32 0 0 m (by unfold scW; simp)]; exact w1.2 m hm
theorem T_21 (hR : REL S) (hd : 30 ≤ d) : twoC d 117 206 [vI x1] S := by
  obtain ⟨l, l1, l2, l3⟩ := hR.2.2.2.1
  exact twoC_q hR (K_written l1 l3) (c_written (by omega) l2 (by omega))
theorem T_25 (hR : REL S) (hd : 30 ≤ d) : twoC d 121 230 [vI x1] S := by
  obtain ⟨⟨c, P, hC, hP, hc2⟩, hB, hCt, hD, hE, hF⟩ := hR
  obtain ⟨q, S1, e1, rfl, f1, a1⟩ := Wm_ex (K_ifAll (d := d) (by omega) hC (x1 := x1))
  have u : ∀ k i j m, 11 ≤ k ∧ ¬ (12 ≤ k ∧ k ≤ 25) ∨ (k = 0 ∧ m ≠ 10 ∧ m ≠ 11) ∨ i = 3 ∧ 1 ≤ k ∧ k ≤ 10 → S1 k i j m = S k i j m := fun k i j m h => f1 k i j m (by omega) (by omega) (by omega)
  have e41 : S1 41 0 0 = S 41 0 0 := funext fun m => u 41 0 0 m (by omega)
  have e42 : S1 42 0 0 = S 42 0 0 := funext fun m => u 42 0 0 m (by omega)
  obtain ⟨q, S2, e2, rfl, f2, g1, g2, g3⟩ := Wm_ex (c_ifAll (d := d) (S := S1) (by omega) (by rw [e41]; exact CS_W hC) (x1 := x1))
  rw [e41] at e2 g3
  have v : ∀ k i j m, (k < 40 ∨ k = 43 ∨ k = 45 ∨ k = 50 ∨ k = 56 ∨ (k = 40 ∧ (m = 4 ∨ m = 7 ∨ m = 8 ∨ m = 9 ∨ m = 21))) ∧ (11 ≤ k ∧ ¬ (12 ≤ k ∧ k ≤ 25) ∨ (k = 0 ∧ m ≠ 10 ∧ m ≠ 11) ∨ i = 3 ∧ 1 ≤ k ∧ k ≤ 10) → S2 k i j m = S k i j m := fun k i j m h => (frM2 f2 h.1).trans (u k i j m h.2)
  refine ⟨_, S1, S2, e1, e2, ⟨?_, rlB_c (fun k i j m h => v k i j m (by omega)) hB, rlC_c (fun k i j m h => v k i j m (by omega)) hCt, rlD_c (fun k i j m h => v k i j m (by omega)) hD, rlE_c (fun k i j m h => v k i j m (by omega)) hE, rlF_c (fun k i j m h => v k i j m (by omega)) hF⟩, fun i j m => u 36 i j m (by omega), fun i j m => v 36 i j m (by omega)⟩
  exact rlA_mk (CS_eq (fun k i j m hk => frM2 f2 (by omega)) a1) g3 (by rw [g1, e42]; exact hP) (by rw [g2, u 40 0 0 2 (by omega)]; exact hc2)
theorem T_30 (hR : REL S) (hd : 30 ≤ d) : twoC d 126 248 [] S := by
  have hR' := hR
  obtain ⟨⟨c, P, hC, hP, hc2⟩, hB, hCt, hD, hE, hF⟩ := hR
  cases c with
  | zero => exact twoC_q hR' (K_undo0 hC) (c_undo0 hc2)
  | succ c =>
    have c8 := CS_c8 hC
    obtain ⟨q, S1, e1, rfl, f1, a1⟩ := Wm_ex (K_undo1 (d := d) (by omega) hC)
    have u : ∀ k i j m, 11 ≤ k ∧ ¬ (12 ≤ k ∧ k ≤ 25) ∨ (k = 0 ∧ m ≠ 10 ∧ m ≠ 11) ∨ i = 3 ∧ 1 ≤ k ∧ k ≤ 10 → S1 k i j m = S k i j m := fun k i j m h => f1 k i j m (by omega) (by omega) (by omega)
    have e2 := c_undo1 (d := d) (S := S1) (c := c) (by omega) (by rw [u 40 0 0 2 (by omega)]; exact hc2)
    generalize hS2 : sRow (sUp S1 40 0 0 2 (nI c)) 41 0 0 282 (fun m => S1 42 0 0 (282 * c + m)) = S2 at e2
    have v : ∀ k i j m, k ≠ 41 → ¬ (k = 40 ∧ m = 2) → S2 k i j m = S1 k i j m := by
      intro k i j m q1 q2
      rw [← hS2, sRow_k _ _ q1]
      unfold sUp
      rw [if_neg (fun q => q2 ⟨q.1, q.2.2.2⟩)]
    have v2 : S2 40 0 0 2 = nI c := by rw [← hS2, sRow_k _ _ (by decide), sUp_same]
    have v41 : ∀ m, m < 282 → S2 41 0 0 m = S1 42 0 0 (282 * c + m) := fun m hm => by rw [← hS2, sRow_in _ _ hm]
    have w : ∀ k i j m, (k ≠ 41 ∧ ¬ (k = 40 ∧ m = 2)) ∧ (11 ≤ k ∧ ¬ (12 ≤ k ∧ k ≤ 25) ∨ (k = 0 ∧ m ≠ 10 ∧ m ≠ 11) ∨ i = 3 ∧ 1 ≤ k ∧ k ≤ 10) → S2 k i j m = S k i j m := fun k i j m h => (v k i j m h.1.1 h.1.2).trans (u k i j m h.2)
    refine ⟨_, S1, S2, e1, e2, ⟨?_, rlB_c (fun k i j m h => w k i j m (by omega)) hB, rlC_c (fun k i j m h => w k i j m (by omega)) hCt, rlD_c (fun k i j m h => w k i j m (by omega)) hD, rlE_c (fun k i j m h => w k i j m (by omega)) hE, rlF_c (fun k i j m h => w k i j m (by omega)) hF⟩, fun i j m => u 36 i j m (by omega), fun i j m => w 36 i j m (by omega)⟩
    refine rlA_mk (CS_eq (fun k i j m hk => v k i j m (by omega) (by omega)) a1) (fun m hm => ?_) (fun p m hp hm => ?_) v2
    · rw [v41 m hm, u 42 0 0 _ (by omega), hP c m (by omega) hm]
    · rw [w 42 0 0 _ (by omega)]
      exact hP p m (by omega) hm
theorem T_31 (hR : REL S) (hd : 30 ≤ d) : twoC d 127 249 [] S := by
  obtain ⟨⟨c, P, hC, hP, hc2⟩, hB, hCt, hD, hE, hF⟩ := hR
  have hW := CS_W hC
  obtain ⟨q, S1, e1, rfl, f1, z1, a1, p1⟩ := Wm_ex (K_save (d := d) (by omega) hC)
  have e41 : S1 41 0 0 = S 41 0 0 := funext fun m => f1 41 0 0 m (by omega) (by omega)
  have e2 := c_save (d := d) (S := S1)
  generalize hS2 : sRow (sUp S1 40 0 0 4 1) 43 0 0 282 (S1 41 0 0) = S2 at e2
  have v : ∀ k i j m, k ≠ 43 → ¬ (k = 40 ∧ m = 4) → S2 k i j m = S1 k i j m := by
    intro k i j m q1 q2
    rw [← hS2, sRow_k _ _ q1]
    unfold sUp
    rw [if_neg (fun q => q2 ⟨q.1, q.2.2.2⟩)]
  have v2 : S2 40 0 0 4 = 1 := by rw [← hS2, sRow_k _ _ (by decide), sUp_same]
  have v43 : ∀ m, m < 282 → S2 43 0 0 m = S 41 0 0 m := fun m hm => by rw [← hS2, sRow_in _ _ hm, e41]
  have w : ∀ k i j m, (k ≠ 43 ∧ ¬ (k = 40 ∧ m = 4)) ∧ ¬ (1 ≤ k ∧ k ≤ 10 ∧ i = 3) ∧ ¬ (k = 0 ∧ m = 12) → S2 k i j m = S k i j m := fun k i j m h => (v k i j m h.1.1 h.1.2).trans (f1 k i j m h.2.1 h.2.2)
  rw [e41] at e2
  refine ⟨_, S1, S2, e1, e2, ⟨?_, ⟨?_, fun _ => ⟨?_, WF_282 hW v43⟩⟩, rlC_c (fun k i j m h => w k i j m (by omega)) hCt, rlD_c (fun k i j m h => w k i j m (by omega)) hD, rlE_c (fun k i j m h => w k i j m (by omega)) hE, rlF_c (fun k i j m h => w k i j m (by omega)) hF⟩, fun i j m => f1 36 i j m (by omega) (by omega), fun i j m => w 36 i j m (by omega)⟩
  · exact rlA_mk (CS_eq (fun k i j m hk => v k i j m (by omega) (by omega)) a1) (fun m _ => w 41 0 0 m (by omega)) (fun p m hp hm => by rw [w 42 0 0 _ (by omega)]; exact hP p m hp hm) (by rw [w 40 0 0 2 (by omega)]; exact hc2)
  · rw [v2, v _ _ _ _ (by omega) (by omega)]; exact z1
  · exact PR_282 hW v43 (PR_eq (fun k j m h1 h2 => v k 3 j m (by omega) (by omega)) p1)
theorem T_32 (hR : REL S) (hd : 30 ≤ d) : twoC d 128 250 [] S := by
  have hR' := hR
  obtain ⟨⟨c, P, hC, hP, hc2⟩, hB, hCt, hD, hE, hF⟩ := hR
  by_cases g : S 40 0 0 4 = 0
  · exact twoC_q hR' (K_restore0 (by rw [hB.1]; exact g)) (c_restore0 g)
  obtain ⟨q3, w3⟩ := hB.2 g
  obtain ⟨q, S1, e1, rfl, f1, a1⟩ := Wm_ex (K_restore1 (d := d) (by omega) hC (by rw [hB.1]; exact g) q3 w3 P)
  have u : ∀ k i j m, 11 ≤ k ∧ ¬ (12 ≤ k ∧ k ≤ 25) ∨ (k = 0 ∧ m ≠ 10 ∧ m ≠ 11) ∨ i = 3 ∧ 1 ≤ k ∧ k ≤ 10 → S1 k i j m = S k i j m := fun k i j m h => f1 k i j m (by omega) (by omega) (by omega)
  have e43 : S1 43 0 0 = S 43 0 0 := funext fun m => u 43 0 0 m (by omega)
  have e2 := c_restore1 (d := d) (S := S1) (by rw [u 40 0 0 4 (by omega)]; exact g)
  generalize hS2 : sUp (sRow S1 41 0 0 282 (S1 43 0 0)) 40 0 0 2 0 = S2 at e2
  have v : ∀ k i j m, k ≠ 41 → ¬ (k = 40 ∧ m = 2) → S2 k i j m = S1 k i j m := by
    intro k i j m q1 q2
    rw [← hS2]
    unfold sUp
    rw [if_neg (fun q => q2 ⟨q.1, q.2.2.2⟩), sRow_k _ _ q1]
  have v2 : S2 40 0 0 2 = nI 0 := by rw [← hS2, sUp_same]; rfl
  have v41 : ∀ m, m < 282 → S2 41 0 0 m = S 43 0 0 m := fun m hm => by rw [← hS2, sUp_kind (by decide), sRow_in _ _ hm, e43]
  have w : ∀ k i j m, (k ≠ 41 ∧ ¬ (k = 40 ∧ m = 2)) ∧ (11 ≤ k ∧ ¬ (12 ≤ k ∧ k ≤ 25) ∨ (k = 0 ∧ m ≠ 10 ∧ m ≠ 11) ∨ i = 3 ∧ 1 ≤ k ∧ k ≤ 10) → S2 k i j m = S k i j m := fun k i j m h => (v k i j m h.1.1 h.1.2).trans (u k i j m h.2)
  rw [e43] at e2
  refine ⟨_, S1, S2, e1, e2, ⟨?_, rlB_c (fun k i j m h => w k i j m (by omega)) hB, rlC_c (fun k i j m h => w k i j m (by omega)) hCt, rlD_c (fun k i j m h => w k i j m (by omega)) hD, rlE_c (fun k i j m h => w k i j m (by omega)) hE, rlF_c (fun k i j m h => w k i j m (by omega)) hF⟩, fun i j m => u 36 i j m (by omega), fun i j m => w 36 i j m (by omega)⟩
  exact rlA_mk (CS_eq (fun k i j m hk => v k i j m (by omega) (by omega)) a1) v41 (fun p m hp => absurd hp (Nat.not_lt_zero _)) v2
end M20d
