/-! THE MODEL's methods, 23: execute -/
section M15o
variable {d : Nat} {S : bSt} {tx : Nat → Nat}
def aExe (tx : Nat → Nat) (t : Nat) (N : NV) : Int32 × NV × Option (Int32 × Int32) := if (pA tx t (t + 1) 0).1.2 = true then (-1000 - nI (pA tx t (t + 1) 0).1.1, N, none) else match (exL (pA tx t (t + 1) 0).2 0 N).1 with
  | none => (nI (pA tx t (t + 1) 0).2.length, (exL (pA tx t (t + 1) 0).2 0 N).2, none)
  | some (a, i) => (-4, N, some (a, nI i))
theorem pA_len {e : Nat} : ∀ n p, (pA tx e n p).2.length ≤ n := by
  intro n
  induction n with
  | zero => intro p; exact Nat.le_refl _
  | succ n ih =>
    intro p
    unfold pA
    split
    · exact Nat.zero_le _
    · split
      · have := ih ((cM tx e p).1.1 + 1)
        simp only [List.length_cons]
        omega
      · split
        · exact Nat.zero_le _
        · simp
theorem pA_q {e : Nat} (h80 : e ≤ 80) : ∀ n p, p ≤ e → (∀ p, p ≤ e → (cM tx e p).1.1 ≤ e) → (pA tx e n p).1.1 ≤ e := by
  intro n
  induction n with
  | zero => intro p hp _; exact hp
  | succ n ih =>
    intro p hp hc
    unfold pA
    have := hc p hp
    split
    · exact this
    · split
      · rename_i g
        exact ih _ (isA_lt g).2.1 hc
      · split <;> exact this
theorem fX_E {S T : bSt} (h : fX S T) : fE S T := by
  intro k i j m hs
  refine h k i j m ?_
  unfold scE sc2 scR at hs
  unfold scX
  simp only [Bool.or_eq_false_iff] at hs ⊢
  exact ⟨hs.1.1.1.1, hs.2.1.1⟩
theorem c_execute (hd : 22 ≤ d) (hw : WF (S 41 0 0)) {c : Nat} (hc : c ≤ 8) (h2 : S 40 0 0 2 = nI c) {t : Nat} (ht : t ≤ 80) (h7 : S 40 0 0 7 = nI t) (h3 : ∀ m, m < 80 → tx m < 127) (h4 : ∀ m, m < 80 → S 45 0 0 m = nI (tx m)) (hW : mW S) : Wm d 246 [vR 40 0 0] S (fun q S' => q = some (vI (aExe tx t (S 41 0 0)).1) ∧ Dr c S S' (aExe tx t (S 41 0 0))) := by
  refine EW_246 ?_
  obtain ⟨e1, m1⟩ := c_takes (d := d - 1) ht h7 h3 h4
  have f1 : fR S (sUp (sUp (sUp (sUp S 40 0 0 16 (nI t)) 40 0 0 7 0) 40 0 0 17 0) 40 0 0 18 0) := fR_up (fR_up (fR_up (fR_up (fun _ _ _ _ _ => rfl) rfl) rfl) rfl) rfl
  have s7 : sUp (sUp (sUp (sUp S 40 0 0 16 (nI t)) 40 0 0 7 0) 40 0 0 17 0) 40 0 0 18 0 40 0 0 7 = 0 := by
    rw [sUp_slot (by decide), sUp_slot (by decide), sUp_same]
  generalize sUp (sUp (sUp (sUp S 40 0 0 16 (nI t)) 40 0 0 7 0) 40 0 0 17 0) 40 0 0 18 0 = T at *
  have hWT : mW T := fun i hi => by rw [f1 _ _ _ _ rfl]; exact hW i hi
  -- the first pass
  have hp1 : Wm (d - 1) 245 [vR 40 0 0, vI 0] T (fun q S' => ∃ y, q = some (vI y) ∧ fT T S' ∧ mT tx t (pA tx t (t + 1) 0).1 S' ∧ ((pA tx t (t + 1) 0).1.2 = false → y = nI (pA tx t (t + 1) 0).2.length)) := by
    refine EW_245 ?_
    refine (B_245_0).mpr ?_
    exact c_cmds0 (t + 1) (S0 := T) (p := 0) (k := 0) (by omega) m1 hWT (by omega) (by omega) (fT_refl T) (fun S' y h1 h2 h3 => ⟨y, rfl, h1, h2, fun hq => by rw [h3 hq, Nat.zero_add]⟩)
  obtain ⟨r, S2, e2, y, rfl, f2, m2, hy⟩ := Wm_ex hp1
  have f2' : fR S S2 := fR_trans f1 (fT_R f2)
  have hN2 : S2 41 0 0 = S 41 0 0 := by funext m; exact f2' _ _ _ _ rfl
  have hP2 : S2 42 0 0 = S 42 0 0 := by funext m; exact f2' _ _ _ _ rfl
  have hc2 : S2 40 0 0 2 = nI c := by rw [f2' _ _ _ _ rfl]; exact h2
  have h82 : S2 40 0 0 8 = S 40 0 0 8 := f2' _ _ _ _ rfl
  have h92 : S2 40 0 0 9 = S 40 0 0 9 := f2' _ _ _ _ rfl
  have s72 : S2 40 0 0 7 = 0 := by rw [f2 _ _ _ _ rfl]; exact s7
  refine (B_246_0 (by omega) e1 e2).mpr ?_
  rw [m2.2.2.2.2.2.2]
  unfold aExe
  rotate_left
  refine icb (fun gw => ?_) (fun gw => ?_)
  · rw [if_neg (by rw [gw]; decide)]
    obtain ⟨k1, k2, k3, k4, k5⟩ := kb_facts (S := S2)
    -- what was kept before
    have m3 : mT tx t (0, false) (sUp (sRow S2 44 0 0 282 (S2 41 0 0)) 40 0 0 17 0) := by
      have m2' : mT tx t ((pA tx t (t + 1) 0).1.1, false) (sRow S2 44 0 0 282 (S2 41 0 0)) := by
        have := mT_fP m2 (T := sRow S2 44 0 0 282 (S2 41 0 0)) (fun k i j m hk => by
          rw [sRow_k]
          rcases hk with rfl | ⟨rfl, -⟩ <;> decide)
        rw [← gw]
        exact this
      exact mT_at (p' := 0) m2' (Nat.zero_le _)
    have hW3 : mW (sUp (sRow S2 44 0 0 282 (S2 41 0 0)) 40 0 0 17 0) := fun i hi => by rw [sUp_kind (by decide), sRow_k _ _ (by decide), f2' _ _ _ _ rfl]; exact hW i hi
    have hN3 : sUp (sRow S2 44 0 0 282 (S2 41 0 0)) 40 0 0 17 0 41 0 0 = S 41 0 0 := by
      funext m
      rw [sUp_kind (by decide), sRow_k _ _ (by decide), hN2]
    have h44 : ∀ m, m < 282 → sUp (sRow S2 44 0 0 282 (S2 41 0 0)) 40 0 0 17 0 44 0 0 m = S 41 0 0 m := by
      intro m hm
      rw [sUp_kind (by decide), k5 m hm, hN2]
    have h42 : sUp (sRow S2 44 0 0 282 (S2 41 0 0)) 40 0 0 17 0 42 0 0 = S 42 0 0 := by
      funext m
      rw [sUp_kind (by decide), sRow_k _ _ (by decide), hP2]
    have h40 : ∀ m, m ≠ 17 → sUp (sRow S2 44 0 0 282 (S2 41 0 0)) 40 0 0 17 0 40 0 0 m = S2 40 0 0 m := by
      intro m hm
      rw [sUp_slot hm, sRow_k _ _ (by decide)]
    have hfE : fE S (sUp (sRow S2 44 0 0 282 (S2 41 0 0)) 40 0 0 17 0) := fE_up (fE_trans (fR_E f2') (f2_E k1)) rfl
    generalize hU : sUp (sRow S2 44 0 0 282 (S2 41 0 0)) 40 0 0 17 0 = U at *
    have hp2 : Wm (d - 1) 245 [vR 40 0 0, vI 1] U (fun q S' => ((exL (pA tx t (t + 1) 0).2 0 (S 41 0 0)).1 = none ∧ q = some (vI (nI (pA tx t (t + 1) 0).2.length)) ∧ fX U S' ∧ S' 41 0 0 = (exL (pA tx t (t + 1) 0).2 0 (S 41 0 0)).2) ∨ (∃ a i S3, (exL (pA tx t (t + 1) 0).2 0 (S 41 0 0)).1 = some (a, i) ∧ q = some (vI (-4)) ∧ fX U S3 ∧ S' = sUp (sUp S3 40 0 0 8 a) 40 0 0 9 (nI i))) := by
      refine EW_245 ?_
      refine (B_245_0).mpr ?_
      refine c_cmds1 (t + 1) (S0 := U) (p := 0) (k := 0) (by omega) m3 hW3 (by omega) (by omega) (fun _ _ _ _ _ => rfl) (by rw [hN3]; exact hw) gw (fun S' h1 h2' h3' => ?_) (fun S' a i h1 h2' => ?_)
      · rw [hN3] at h2' h3'
        rw [Nat.zero_add]
        exact Or.inl ⟨h3', rfl, h1, h2'⟩
      · rw [hN3] at h2'
        exact Or.inr ⟨a, i, S', h2', rfl, h1, rfl⟩
    obtain ⟨r, S4, e4, hh⟩ := Wm_ex hp2
    have hlen := pA_len (tx := tx) (e := t) (t + 1) 0
    rcases hh with ⟨hx, rfl, fx, hN4⟩ | ⟨a, i, S3, hx, rfl, fx, rfl⟩
    · rw [hx]
      refine (B_246_26 (by omega) c_keepBefore (by rw [hU]; exact e4)).mpr ?_
      have hne : nI (pA tx t (t + 1) 0).2.length ≠ -4 := by
        intro q
        have := congrArg Int32.toInt q
        rw [nI_toInt (by omega), show (-4 : Int32).toInt = -4 from by decide] at this
        omega
      rw [if_neg (hne)]
      have h404 : ∀ m, scX 40 m = false → m ≠ 17 → S4 40 0 0 m = S2 40 0 0 m := fun m h1 h2' => by rw [fx _ _ _ _ h1, h40 m h2']
      refine (B_246_54 (by omega) (c_remember hc (by rw [h404 2 rfl (by decide)]; exact hc2))).mpr ?_
      rw [hy gw]
      obtain ⟨g1, g2, g3, g4⟩ := sRem_facts (T := S4) hc
      have g5 : ∀ m, m ≠ 2 → sRem S4 c 40 0 0 m = S4 40 0 0 m := by
        intro m hm
        unfold sRem
        split <;> simp [sRem0, sSh, hm]
      refine ⟨rfl, fE_trans (fE_trans hfE (fX_E fx)) (f2_E g1), ?_, fun m _ => ?_, Or.inr ⟨nI_n0 (by omega), ?_, g4⟩, ?_, ?_⟩
      · rw [g5 7 (by decide), h404 7 rfl (by decide)]; exact s72
      · rw [g2, hN4]
      · rw [g3, show S4 42 0 0 = S 42 0 0 from by funext m; rw [fx _ _ _ _ rfl, h42]]
        exact psh_congr (fun m hm => by rw [fx _ _ _ _ rfl]; exact h44 m hm)
      · rw [g5 8 (by decide), h404 8 rfl (by decide)]; exact h82
      · rw [g5 9 (by decide), h404 9 rfl (by decide)]; exact h92
    · rw [hx]
      refine (B_246_26 (by omega) c_keepBefore (by rw [hU]; exact e4)).mpr ?_
      rw [if_pos (rfl)]
      refine (B_246_47 (by omega) c_goesBack).mpr ?_
      have h403 : ∀ m, scX 40 m = false → m ≠ 17 → S3 40 0 0 m = S2 40 0 0 m := fun m h1 h2' => by rw [fx _ _ _ _ h1, h40 m h2']
      refine ⟨rfl, fun k i' j m hs => ?_, ?_, fun m hm => ?_, Or.inl ⟨(show (-4 : Int32) < 0 from by decide), ?_, ?_⟩, ?_, ?_⟩
      · have h41 : k ≠ 41 := by
          intro q
          subst q
          exact absurd hs (by simp [scE, sc2, sc])
        rw [sRow_k _ _ h41]
        exact fE_up (fE_up (fE_trans hfE (fX_E fx)) rfl) rfl k i' j m hs
      · rw [sRow_k _ _ (by decide), sUp_slot (by decide), sUp_slot (by decide), h403 7 rfl (by decide)]; exact s72
      · rw [sRow_in _ _ hm, sUp_kind (by decide), sUp_kind (by decide), fx _ _ _ _ rfl]
        exact h44 m hm
      · funext m
        rw [sRow_k _ _ (by decide), sUp_kind (by decide), sUp_kind (by decide), fx _ _ _ _ rfl, h42]
      · rw [sRow_k _ _ (by decide), sUp_slot (by decide), sUp_slot (by decide), h403 2 rfl (by decide)]; exact hc2
      · rw [sRow_k _ _ (by decide), sUp_slot (by decide), sUp_same]
      · rw [sRow_k _ _ (by decide), sUp_same]
  rw [if_pos gw]
  refine (B_246_17).mpr ?_
  rw [m2.2.2.2.2.2.1]
  refine ⟨rfl, fR_E f2', s72, fun m _ => by rw [hN2], Or.inl ⟨?_, hP2, hc2⟩, h82, h92⟩
  have hle := m2.1
  generalize (pA tx t (t + 1) 0).1.1 = n at *
  show (-1000 - nI n : Int32) < 0
  have : ∀ n, n ≤ 80 → (-1000 - nI n : Int32) < 0 := by decide
  exact this n (by omega)
end M15o
