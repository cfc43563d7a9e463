/-! THE CLASS, 6: a plan is copied -/
section M17a
variable {d : Nat} {S : bSt} {N : NV} {i : Nat}
/-- only one address is written -/
def fAd (k0 i0 j0 : Nat) (S S' : bSt) : Prop := ∀ k i j m, ¬ (k = k0 ∧ i = i0 ∧ j = j0) → S' k i j m = S k i j m
/-- only the plan a is written -/
def fK (a : Nat) (S S' : bSt) : Prop := ∀ k i j m, ¬ (1 ≤ k ∧ k ≤ 10 ∧ i = a) → S' k i j m = S k i j m
theorem fK_refl (a : Nat) (S : bSt) : fK a S S := fun _ _ _ _ _ => rfl
theorem fK_trans {a : Nat} {S T U : bSt} (h : fK a S T) (g : fK a T U) : fK a S U := fun k i j m hm => (g k i j m hm).trans (h k i j m hm)
theorem fAd_K {a k0 j0 : Nat} {S T : bSt} (h : fAd k0 a j0 S T) (h1 : 1 ≤ k0) (h2 : k0 ≤ 10) : fK a S T := fun k i j m hm => h k i j m (fun q => hm ⟨by omega, by omega, q.2.1⟩)
theorem fK_up {a : Nat} {S T : bSt} {k j m : Nat} {x : Int32} (h : fK a S T) (h1 : 1 ≤ k) (h2 : k ≤ 10) : fK a S (sUp T k a j m x) := by
  intro k' i' j' m' hs
  rw [← h k' i' j' m' hs]
  unfold sUp
  rw [if_neg]
  rintro ⟨rfl, rfl, -, -⟩
  exact hs ⟨h1, h2, rfl⟩
theorem fAd_up {k i j n : Nat} {x : Int32} {S T : bSt} (h : fAd k i j S T) : fAd k i j S (sUp T k i j n x) := by
  intro k' i' j' m' hs
  rw [← h k' i' j' m' hs]
  unfold sUp
  rw [if_neg (fun q => hs ⟨q.1, q.2.1, q.2.2.1⟩)]
theorem fAd_refl (k i j : Nat) (S : bSt) : fAd k i j S S := fun _ _ _ _ _ => rfl
theorem PR_eq {S' : bSt} (h : ∀ k j m, 1 ≤ k → k ≤ 10 → S' k i j m = S k i j m) (hP : PR S i N) : PR S' i N := by
  have ej : ∀ u, jx S' i u = jx S i u := fun u => by unfold jx; rw [h 7 0 u (by omega) (by omega)]
  obtain ⟨⟨a0, a1, a2⟩, ⟨b4, b5, b6⟩, c, d, e, f, g⟩ := hP
  refine ⟨⟨by rw [h _ _ _ (by omega) (by omega)]; exact a0, by rw [h _ _ _ (by omega) (by omega)]; exact a1, by rw [h _ _ _ (by omega) (by omega)]; exact a2⟩, ⟨by rw [h _ _ _ (by omega) (by omega)]; exact b4, by rw [h _ _ _ (by omega) (by omega)]; exact b5, by rw [h _ _ _ (by omega) (by omega)]; exact b6⟩, fun o ho => ?_, fun r hr => ?_, fun u hu => ?_, fun u v hu hv he => ?_, fun u hu => ?_⟩
  · have := c o ho
    unfold OR at *
    simp only [h 4 _ _ (by omega) (by omega)]
    exact this
  · have := d r hr
    simp only [h 6 _ _ (by omega) (by omega)]
    exact this
  · rw [h 7 _ _ (by omega) (by omega), ej]; exact e u hu
  · rw [ej, ej] at he; exact f u v hu hv he
  · rw [ej]
    have := g u hu
    unfold RR at *
    simp only [h 8 _ _ (by omega) (by omega), h 9 _ _ (by omega) (by omega), h 10 _ _ (by omega) (by omega)]
    exact this
theorem fK_PR {a : Nat} {S' : bSt} (h : fK a S S') (hi : i ≠ a) (hP : PR S i N) : PR S' i N := PR_eq (fun k j m _ _ => h k i j m (fun q => hi q.2.2)) hP
/-- the run objects of a plan: one for each place -/
def IX (S : bSt) (i : Nat) : Prop := (∀ u, u < 16 → S 7 i 0 u = nI (jx S i u) ∧ jx S i u < 16) ∧ (∀ u v, u < 16 → v < 16 → jx S i u = jx S i v → u = v)
theorem PR_IX (hP : PR S i N) : IX S i := ⟨hP.2.2.2.2.1, hP.2.2.2.2.2.1⟩
theorem IX_eq {S' : bSt} (h : ∀ m, S' 7 i 0 m = S 7 i 0 m) (hP : IX S i) : IX S' i := by
  have ej : ∀ u, jx S' i u = jx S i u := fun u => by unfold jx; rw [h u]
  refine ⟨fun u hu => by rw [h, ej]; exact hP.1 u hu, fun u v hu hv he => ?_⟩
  rw [ej, ej] at he
  exact hP.2 u v hu hv he
theorem k_copyO {a b o : Nat} (ha : a < 12) (hb : b < 12) (hab : b ≠ a) (ho : o < 8) : Wm d 10 [vR 4 a o, vR 4 b o] S (fun q S' => q = none ∧ fAd 4 a o S S' ∧ ∀ f, f < 8 → S' 4 a o f = S 4 b o f) := by
  refine EW_10 ?_
  refine (B_10_0 (bk4 hb ho) (bk4 ha ho)).mpr ?_
  refine ⟨rfl, fAd_up (fAd_up (fAd_up (fAd_up (fAd_up (fAd_up (fAd_up (fAd_up (fAd_refl 4 a o S)))))))), fun f hf => ?_⟩
  rcases (show f = 0 ∨ f = 1 ∨ f = 2 ∨ f = 3 ∨ f = 4 ∨ f = 5 ∨ f = 6 ∨ f = 7 by omega) with rfl | rfl | rfl | rfl | rfl | rfl | rfl | rfl <;> simp [sUp, hab]
theorem k_copyL {a b o : Nat} (ha : a < 12) (hb : b < 12) (hab : b ≠ a) (ho : o < 12) : Wm d 64 [vR 6 a o, vR 6 b o] S (fun q S' => q = none ∧ fAd 6 a o S S' ∧ ∀ f, f < 3 → S' 6 a o f = S 6 b o f) := by
  refine EW_64 ?_
  refine (B_64_0 (bk6 hb ho) (bk6 ha ho)).mpr ?_
  refine ⟨rfl, fAd_up (fAd_up (fAd_up (fAd_refl 6 a o S))), fun f hf => ?_⟩
  rcases (show f = 0 ∨ f = 1 ∨ f = 2 by omega) with rfl | rfl | rfl <;> simp [sUp, hab]
/-- a run object takes what another one holds -/
def RC (a j b j' : Nat) (S S' : bSt) : Prop := (∀ f, f < 6 → S' 8 a j f = S 8 b j' f) ∧ (∀ o, o < 8 → S' 9 a j o = S 9 b j' o) ∧ (∀ k, k < 7 → S' 10 a j k = S 10 b j' k)
theorem k_copyR {a b j j' : Nat} (ha : a < 12) (hb : b < 12) (hab : ¬ (b = a ∧ j' = j)) (hj : j < 16) (hj' : j' < 16) : Wm d 67 [vR 8 a j, vR 8 b j'] S (fun q S' => q = none ∧ (∀ k i m n, ¬ ((k = 8 ∨ k = 9 ∨ k = 10) ∧ i = a ∧ m = j) → S' k i m n = S k i m n) ∧ RC a j b j' S S') := by
  refine EW_67 ?_
  refine (B_67_0 (bk8 hb hj') (bk8 ha hj) (fun q => hab q.2) (bk9 hb hj') (bk9 ha hj) (fun q => hab q.2) (bk10 hb hj') (bk10 ha hj)).mpr ?_
  refine ⟨rfl, fun k i m n hs => ?_, fun f hf => ?_, fun o ho => ?_, fun o ho => ?_⟩
  · have h8 : ¬ (k = 8 ∧ i = a ∧ m = j) := fun q => hs ⟨Or.inl q.1, q.2⟩
    have h9 : ¬ (k = 9 ∧ i = a ∧ m = j) := fun q => hs ⟨Or.inr (Or.inl q.1), q.2⟩
    have h10 : ¬ (k = 10 ∧ i = a ∧ m = j) := fun q => hs ⟨Or.inr (Or.inr q.1), q.2⟩
    unfold sCp
    rw [if_neg (fun q => h10 ⟨q.1, q.2.1, q.2.2.1⟩), if_neg (fun q => h9 ⟨q.1, q.2.1, q.2.2.1⟩)]
    exact (fAd_up (fAd_up (fAd_up (fAd_up (fAd_up (fAd_up (fAd_refl 8 a j S))))))) k i m n h8
  · rcases (show f = 0 ∨ f = 1 ∨ f = 2 ∨ f = 3 ∨ f = 4 ∨ f = 5 by omega) with rfl | rfl | rfl | rfl | rfl | rfl <;> simp [sCp, sUp, hab]
  · simp [sCp, sUp, ho]
  · simp [sCp, sUp, ho]
theorem RR_copy {a j b j' u : Nat} {S' : bSt} (h : RC a j b j' S S') (hw : WF N) (hu : u < cU N) (hR : RR S b j' N u) : RR S' a j N u := by
  have h7 := aPos_le hw hu
  obtain ⟨r0, r1, r2, r3, r4, r5, r6, r7⟩ := hR
  obtain ⟨c1, c2, c3⟩ := h
  exact ⟨by rw [c1 0 (by omega)]; exact r0, by rw [c1 1 (by omega)]; exact r1, by rw [c1 2 (by omega)]; exact r2, by rw [c1 3 (by omega)]; exact r3, by rw [c1 4 (by omega)]; exact r4, by rw [c1 5 (by omega)]; exact r5, fun o ho => by rw [c2 o ho]; exact r6 o ho, fun k hk => by rw [c3 k (by omega)]; exact r7 k hk⟩
theorem k_copyFrom {a b : Nat} (ha : a < 12) (hb : b < 12) (hab : b ≠ a) (hd : 1 ≤ d) (hX : IX S a) (hP : PR S b N) (hw : WF N) : Wm d 13 [vR 1 a 0, vR 1 b 0] S (fun q S' => q = none ∧ fK a S S' ∧ PR S' a N) := by
  have c8 := hw.1.2.1
  have c12 := hw.1.2.2.2.1
  have c16 := hw.1.2.2.2.2.2
  refine EW_13 ?_
  refine (B_13_0 (bk1 hb) (bk1 ha) (fun q => hab q.2.1) (bk2 hb) (bk2 ha)).mpr ?_
  -- the settings and the counts
  refine wloopI (cO N) (fun m ls T => ls = [some (vR 1 a 0), some (vR 1 b 0), some (vI (nI m))] ∧ fK a S T ∧ (∀ n, T 7 a 0 n = S 7 a 0 n) ∧ (T 2 a 0 0 = N 0 ∧ T 2 a 0 1 = N 1 ∧ T 2 a 0 2 = N 2) ∧ (T 1 a 0 4 = N 3 ∧ T 1 a 0 5 = N 4 ∧ T 1 a 0 6 = N 5) ∧ (∀ o, o < m → ∀ f, f < 8 → T 4 a o f = S 4 b o f)) ?_ ?_ ⟨rfl, ?_, ?_, ?_, ?_, fun o h => absurd h (Nat.not_lt_zero _)⟩
  · rintro ls T ⟨rfl, hf, h7, hset, hcnt, hO⟩
    refine (B_13_40 (bk1 ha)).mpr ?_
    rw [if_pos (by rw [hcnt.1, hw.1.1]; exact Int32.le_refl _)]
    refine (B_13_69).mpr ?_
    -- the rolls
    refine wloopI (cR N) (fun m ls U => ls = [some (vR 1 a 0), some (vR 1 b 0), some (vI (nI m))] ∧ fK a S U ∧ (∀ n, U 7 a 0 n = S 7 a 0 n) ∧ (U 2 a 0 0 = N 0 ∧ U 2 a 0 1 = N 1 ∧ U 2 a 0 2 = N 2) ∧ (U 1 a 0 4 = N 3 ∧ U 1 a 0 5 = N 4 ∧ U 1 a 0 6 = N 5) ∧ (∀ o, o < cO N → ∀ f, f < 8 → U 4 a o f = S 4 b o f) ∧ (∀ r, r < m → ∀ f, f < 3 → U 6 a r f = S 6 b r f)) ?_ ?_ ⟨rfl, hf, h7, hset, hcnt, hO, fun o h => absurd h (Nat.not_lt_zero _)⟩
    · rintro ls U ⟨rfl, hf, h7, hset, hcnt, hO, hL⟩
      refine (B_13_71 (bk1 ha)).mpr ?_
      rw [if_pos (by rw [hcnt.2.1, hw.1.2.2.1]; exact Int32.le_refl _)]
      refine (B_13_100).mpr ?_
      -- the runs
      refine wloopI (cU N) (fun m ls V => ls = [some (vR 1 a 0), some (vR 1 b 0), some (vI (nI m))] ∧ fK a S V ∧ (∀ n, V 7 a 0 n = S 7 a 0 n) ∧ (V 2 a 0 0 = N 0 ∧ V 2 a 0 1 = N 1 ∧ V 2 a 0 2 = N 2) ∧ (V 1 a 0 4 = N 3 ∧ V 1 a 0 5 = N 4 ∧ V 1 a 0 6 = N 5) ∧ (∀ o, o < cO N → ∀ f, f < 8 → V 4 a o f = S 4 b o f) ∧ (∀ r, r < cR N → ∀ f, f < 3 → V 6 a r f = S 6 b r f) ∧ (∀ u, u < m → RR V a (jx S a u) N u)) ?_ ?_ ⟨rfl, hf, h7, hset, hcnt, hO, hL, fun o h => absurd h (Nat.not_lt_zero _)⟩
      · rintro ls V ⟨rfl, hf, h7, hset, hcnt, hO, hL, hU⟩
        refine (B_13_102 (bk1 ha)).mpr ?_
        rw [if_pos (by rw [hcnt.2.2, hw.1.2.2.2.2.1]; exact Int32.le_refl _)]
        refine (B_13_131).mpr ?_
        have hX' := IX_eq h7 hX
        have ej : ∀ u, jx V a u = jx S a u := fun u => by unfold jx; rw [h7 u]
        refine ⟨rfl, hf, hset, hcnt, fun o ho => ?_, fun r hr => ?_, hX'.1, hX'.2, fun u hu => by rw [ej]; exact hU u hu⟩
        · obtain ⟨⟨o0, o1, o2, o3, o4, o5⟩, ol, om⟩ := P_o hP ho
          exact ⟨⟨by rw [hO o ho 0 (by omega)]; exact o0, by rw [hO o ho 1 (by omega)]; exact o1, by rw [hO o ho 2 (by omega)]; exact o2, by rw [hO o ho 3 (by omega)]; exact o3, by rw [hO o ho 4 (by omega)]; exact o4, by rw [hO o ho 5 (by omega)]; exact o5⟩, by rw [hO o ho 6 (by omega)]; exact ol, by rw [hO o ho 7 (by omega)]; exact om⟩
        · obtain ⟨p0, p1, p2⟩ := P_r hP hr
          exact ⟨by rw [hL r hr 0 (by omega)]; exact p0, by rw [hL r hr 1 (by omega)]; exact p1, by rw [hL r hr 2 (by omega)]; exact p2⟩
      · rintro m hm ls V ⟨rfl, hf, h7, hset, hcnt, hO, hL, hU⟩ hn
        have hja := (hX.1 m (by omega)).2
        have hjb := P_j hP (u := m) (by omega)
        refine (B_13_102 (bk1 ha)).mpr ?_
        rw [if_neg (by rw [hcnt.2.2, hw.1.2.2.2.2.1, qI_le (by omega) (by omega)]; omega)]
        have hRb : RR V b (jx S b m) N m := by
          have := P_u hP hm
          unfold RR at *
          simp only [hf _ b _ _ (fun q => hab q.2.2)]
          exact this
        obtain ⟨q, V1, e1, rfl, g1, g2⟩ := Wm_ex (k_copyR (d := d - 1) (S := V) (a := a) (b := b) (j := jx S a m) (j' := jx S b m) ha hb (fun q => hab q.1) hja hjb)
        refine (B_13_110 (n1_ := m) (m2_ := jx S a m) (m3_ := jx S b m) (by omega) (bk1 ha) rfl (by omega) (by rw [h7]; rfl) (bk7 ha) (bk1 hb) (by rw [hf _ _ _ _ (fun q => hab q.2.2)]; rfl) (bk7 hb) e1 (bk8 ha hja)).mpr ?_
        rw [qI_succ]
        have keep : ∀ k m' n, ¬ (k = 8 ∨ k = 9 ∨ k = 10) → V1 k a m' n = V k a m' n := fun k m' n h => g1 k a m' n (fun q => h q.1)
        refine hn _ _ ⟨rfl, fK_trans hf (fun k i j m' hm' => g1 k i j m' (fun q => hm' ⟨by omega, by omega, q.2.1⟩)), fun n => by rw [keep _ _ _ (by omega)]; exact h7 n, ⟨by rw [keep _ _ _ (by omega)]; exact hset.1, by rw [keep _ _ _ (by omega)]; exact hset.2.1, by rw [keep _ _ _ (by omega)]; exact hset.2.2⟩, ⟨by rw [keep _ _ _ (by omega)]; exact hcnt.1, by rw [keep _ _ _ (by omega)]; exact hcnt.2.1, by rw [keep _ _ _ (by omega)]; exact hcnt.2.2⟩, fun o ho f hf' => by rw [keep _ _ _ (by omega)]; exact hO o ho f hf', fun r hr f hf' => by rw [keep _ _ _ (by omega)]; exact hL r hr f hf', fun u hu => ?_⟩
        by_cases gu : u = m
        · subst gu
          exact RR_copy g2 hw hm hRb
        · have hne : jx S a u ≠ jx S a m := fun q => gu (hX.2 u m (by omega) (by omega) q)
          have := hU u (by omega)
          have same : ∀ k n, V1 k a (jx S a u) n = V k a (jx S a u) n := fun k n => g1 k a _ n (fun q => hne q.2.2)
          unfold RR at *
          simp only [same]
          exact this
    · rintro m hm ls U ⟨rfl, hf, h7, hset, hcnt, hO, hL⟩ hn
      refine (B_13_71 (bk1 ha)).mpr ?_
      rw [if_neg (by rw [hcnt.2.1, hw.1.2.2.1, qI_le (by omega) (by omega)]; omega)]
      obtain ⟨q, V1, e1, rfl, g1, g2⟩ := Wm_ex (k_copyL (d := d - 1) (S := U) (a := a) (b := b) (o := m) ha hb hab (by omega))
      refine (B_13_79 (n1_ := m) (by omega) (bk1 ha) rfl (by omega) (bk5 ha) (bk1 hb) (bk5 hb) e1 (bk6 ha (by omega))).mpr ?_
      rw [qI_succ]
      have keep : ∀ k m' n, k ≠ 6 → V1 k a m' n = U k a m' n := fun k m' n h => g1 k a m' n (fun q => h q.1)
      refine hn _ _ ⟨rfl, fK_trans hf (fAd_K g1 (by omega) (by omega)), fun n => by rw [keep _ _ _ (by omega)]; exact h7 n, ⟨by rw [keep _ _ _ (by omega)]; exact hset.1, by rw [keep _ _ _ (by omega)]; exact hset.2.1, by rw [keep _ _ _ (by omega)]; exact hset.2.2⟩, ⟨by rw [keep _ _ _ (by omega)]; exact hcnt.1, by rw [keep _ _ _ (by omega)]; exact hcnt.2.1, by rw [keep _ _ _ (by omega)]; exact hcnt.2.2⟩, fun o ho f hf' => by rw [keep _ _ _ (by omega)]; exact hO o ho f hf', fun r hr f hf' => ?_⟩
      by_cases gr : r = m
      · subst gr
        rw [g2 f hf', hf _ _ _ _ (fun q => hab q.2.2)]
      · rw [g1 6 a r f (fun q => gr q.2.2)]
        exact hL r (by omega) f hf'
  · rintro m hm ls T ⟨rfl, hf, h7, hset, hcnt, hO⟩ hn
    refine (B_13_40 (bk1 ha)).mpr ?_
    rw [if_neg (by rw [hcnt.1, hw.1.1, qI_le (by omega) (by omega)]; omega)]
    obtain ⟨q, V1, e1, rfl, g1, g2⟩ := Wm_ex (k_copyO (d := d - 1) (S := T) (a := a) (b := b) (o := m) ha hb hab (by omega))
    refine (B_13_48 (n1_ := m) (by omega) (bk1 ha) rfl (by omega) (bk3 ha) (bk1 hb) (bk3 hb) e1 (bk4 ha (by omega))).mpr ?_
    rw [qI_succ]
    have keep : ∀ k m' n, k ≠ 4 → V1 k a m' n = T k a m' n := fun k m' n h => g1 k a m' n (fun q => h q.1)
    refine hn _ _ ⟨rfl, fK_trans hf (fAd_K g1 (by omega) (by omega)), fun n => by rw [keep _ _ _ (by omega)]; exact h7 n, ⟨by rw [keep _ _ _ (by omega)]; exact hset.1, by rw [keep _ _ _ (by omega)]; exact hset.2.1, by rw [keep _ _ _ (by omega)]; exact hset.2.2⟩, ⟨by rw [keep _ _ _ (by omega)]; exact hcnt.1, by rw [keep _ _ _ (by omega)]; exact hcnt.2.1, by rw [keep _ _ _ (by omega)]; exact hcnt.2.2⟩, fun r hr f hf' => ?_⟩
    by_cases gr : r = m
    · subst gr
      rw [g2 f hf', hf _ _ _ _ (fun q => hab q.2.2)]
    · rw [g1 4 a r f (fun q => gr q.2.2)]
      exact hO r (by omega) f hf'
  · refine fK_up (fK_up (fK_up (fun k i' j m hs => ?_) (by omega) (by omega)) (by omega) (by omega)) (by omega) (by omega)
    unfold sCp
    rw [if_neg]
    rintro ⟨rfl, rfl, -⟩
    exact hs ⟨by omega, by omega, rfl⟩
  · intro n
    simp [sUp, sCp]
  · obtain ⟨⟨s0, s1, s2⟩, -⟩ := hP
    simp [sUp, sCp, s0, s1, s2]
  · obtain ⟨-, ⟨s0, s1, s2⟩, -⟩ := hP
    simp [sUp, sCp, hab, s0, s1, s2]
end M17a
