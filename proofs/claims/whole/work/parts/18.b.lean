/-! THE CLASS's search: judge, isHopeless, tryStrips -/
section M18b
variable {d : Nat} {S : bSt} {N : NV}
def scS (k m : Nat) : Bool := (k == 12 && (m == 12 || m == 13 || m == 14)) || k == 15 || k == 16
def fS (S S' : bSt) : Prop := ∀ k i j m, scS k m = false → S' k i j m = S k i j m
theorem fS_refl (S : bSt) : fS S S := fun _ _ _ _ _ => rfl
theorem fS_trans {S T U : bSt} (h : fS S T) (g : fS T U) : fS S U := fun k i j m hm => (g k i j m hm).trans (h k i j m hm)
theorem fS_up {S T : bSt} {k i j m : Nat} {x : Int32} (h : fS S T) (hk : scS k m = true) : fS S (sUp T k i j m x) := by
  intro k' i' j' m' hs
  rw [← h k' i' j' m' hs]
  unfold sUp
  rw [if_neg]
  rintro ⟨rfl, -, -, rfl⟩
  rw [hk] at hs
  exact absurd hs (by decide)
def mS (b : Bcc) (S : bSt) : Prop := S 12 0 0 12 = nI b.1 ∧ S 12 0 0 13 = nI b.2.2.1 ∧ S 12 0 0 14 = nI b.2.1 ∧ ∀ m, m < 8 → S 16 0 0 m = b.2.2.2 m
/-- what the search was told -/
def dS (N : NV) (cnt : Bool) (w L v : Nat → Nat) (S : bSt) : Prop := S 12 0 0 1 = nI (nv N 0) ∧ S 12 0 0 2 = nI (2 * nv N 1) ∧ S 12 0 0 3 = nI (cO N) ∧ S 12 0 0 10 = tf cnt ∧ S 12 0 0 11 = nI (mxN N) ∧ (∀ o, o < cO N → S 13 0 0 o = nI (w o) ∧ S 14 0 0 o = nI (L o)) ∧ (∀ o, o ≤ cO N → S 17 0 0 o = nI (v o))
theorem dS_f {cnt : Bool} {w L v : Nat → Nat} {S' : bSt} (h : dS N cnt w L v S) (hf : fS S S') : dS N cnt w L v S' := by
  obtain ⟨h1, h2, h3, h4, h5, h6, h7⟩ := h
  exact ⟨by rw [hf _ _ _ _ rfl]; exact h1, by rw [hf _ _ _ _ rfl]; exact h2, by rw [hf _ _ _ _ rfl]; exact h3, by rw [hf _ _ _ _ rfl]; exact h4, by rw [hf _ _ _ _ rfl]; exact h5, fun o ho => by rw [hf _ _ _ _ rfl, hf _ _ _ _ rfl]; exact h6 o ho, fun o ho => by rw [hf _ _ _ _ rfl]; exact h7 o ho⟩
def bL (N : NV) (L w v : Nat → Nat) : Prop := (∀ o, L o ≤ 8) ∧ (∀ o, o < cO N → w o ≤ 150) ∧ ∀ o, v o ≤ 150
theorem k_judge (hw : WF N) (hd : 1 ≤ d) {cnt : Bool} {w L v : Nat → Nat} (hD : dS N cnt w L v S) {b : Bcc} (hb : mS b S) (hv : vb b) {s rest : Nat} (hs : s ≤ 8) (hr : rest ≤ 300) {f : NV} (hf : ∀ m, m < 8 → S 15 0 0 m = f m) : Wm d 77 [vR 12 0 0, vI (nI s), vI (nI rest)] S (fun q S' => q = none ∧ fS S S' ∧ mS (jdC N f s rest b) S' ∧ ∀ m, S' 15 0 0 m = S 15 0 0 m) := by
  obtain ⟨-, -, k0⟩ := hw.2.1.1
  obtain ⟨-, -, e2⟩ := hw.2.1.2.1
  obtain ⟨d1, d2, d3, d4, d5, d6, d7⟩ := hD
  obtain ⟨b1, b2, b3, b4⟩ := hb
  obtain ⟨v1, v2⟩ := hv
  have no : pB N s rest = false → Wp d 77 25 [some (vR 12 0 0), some (vI (nI s)), some (vI (nI rest))] [] S (fun q S' => q = none ∧ fS S S' ∧ mS (jdC N f s rest b) S' ∧ ∀ m, S' 15 0 0 m = S 15 0 0 m) := by
    intro h
    refine (B_77_25).mpr ?_
    refine ⟨rfl, fS_refl S, ?_, fun _ => rfl⟩
    unfold jdC
    rw [if_neg (by rw [h]; decide)]
    exact ⟨b1, b2, b3, b4⟩
  refine EW_77 ?_
  refine (B_77_0).mpr ?_
  refine icT ((show nI s < (1 : Int32) ↔ s < 1 from by rw [show (1 : Int32) = nI 1 from rfl, qI_lt (by omega) (by omega)])) (fun g1 => ?_) (fun g1 => ?_)
  · exact no (by unfold pB; rw [decide_eq_false (by omega)]; rfl)
  refine (B_77_5).mpr ?_
  rw [d2]
  refine icT (qI_lt (by omega) (by omega)) (fun g2 => ?_) (fun g2 => ?_)
  · exact no (pB_no hw (Or.inl g2))
  refine (B_77_13 (by omega) k_knivesFor).mpr ?_
  rw [d1, aKn_n (by omega) (by omega)]
  rotate_left
  refine icT (qI_le (by split <;> omega) (by omega)) (fun g3 => ?_) (fun g3 => ?_)
  · have hp : pB N s rest = true := by
      unfold pB
      rw [decide_eq_true (show 1 ≤ s by omega), decide_eq_true (show 2 * nv N 1 ≤ rest by omega), decide_eq_true g3]
      rfl
    refine (B_77_26).mpr ?_
    rw [sUp_slot (by decide), b2, b1, qI_succ]
    have res : jdC N f s rest b = (b.1 + 1, if rest < b.2.2.1 ∨ (rest = b.2.2.1 ∧ s < b.2.1) then (s, rest, fun m => if m < 8 then f m else b.2.2.2 m) else b.2) := by unfold jdC; rw [if_pos hp]
    rw [res]
    have hit : (rest < b.2.2.1 ∨ (rest = b.2.2.1 ∧ s < b.2.1)) → Wp d 77 60 [some (vR 12 0 0), some (vI (nI s)), some (vI (nI rest))] [] (sUp S 12 0 0 12 (nI (b.1 + 1))) (fun q S' => q = none ∧ fS S S' ∧ mS (b.1 + 1, if rest < b.2.2.1 ∨ (rest = b.2.2.1 ∧ s < b.2.1) then (s, rest, fun m => if m < 8 then f m else b.2.2.2 m) else b.2) S' ∧ ∀ m, S' 15 0 0 m = S 15 0 0 m) := by
      intro h
      refine (B_77_60).mpr ?_
      refine (B_77_85).mpr ?_
      rw [if_pos h]
      refine ⟨rfl, fun k i j m hk => ?_, ⟨by simp [sCp, sUp], by simp [sCp, sUp], by simp [sCp, sUp], fun m hm => ?_⟩, fun m => by simp [sCp, sUp]⟩
      · have : sCp (sUp (sUp (sUp S 12 0 0 12 (nI (b.1 + 1))) 12 0 0 13 (nI rest)) 12 0 0 14 (nI s)) (15, 0, 0) (16, 0, 0) 0 0 8 k i j m = sUp (sUp (sUp S 12 0 0 12 (nI (b.1 + 1))) 12 0 0 13 (nI rest)) 12 0 0 14 (nI s) k i j m := by
          unfold sCp
          rw [if_neg]
          rintro ⟨rfl, -⟩
          exact absurd hk (by simp [scS])
        rw [this]
        exact fS_up (fS_up (fS_up (fS_refl S) rfl) rfl) rfl k i j m hk
      · simp [sCp, sUp, hm]
        exact hf m hm
    have miss : ¬ (rest < b.2.2.1 ∨ (rest = b.2.2.1 ∧ s < b.2.1)) → Wp d 77 85 [some (vR 12 0 0), some (vI (nI s)), some (vI (nI rest))] [] (sUp S 12 0 0 12 (nI (b.1 + 1))) (fun q S' => q = none ∧ fS S S' ∧ mS (b.1 + 1, if rest < b.2.2.1 ∨ (rest = b.2.2.1 ∧ s < b.2.1) then (s, rest, fun m => if m < 8 then f m else b.2.2.2 m) else b.2) S' ∧ ∀ m, S' 15 0 0 m = S 15 0 0 m) := by
      intro h
      refine (B_77_85).mpr ?_
      rw [if_neg h]
      exact ⟨rfl, fS_up (fS_refl S) rfl, ⟨sUp_same, by rw [sUp_slot (by decide)]; exact b2, by rw [sUp_slot (by decide)]; exact b3, fun m hm => by rw [sUp_kind (by decide)]; exact b4 m hm⟩, fun m => sUp_kind (by decide)⟩
    refine icT (qI_lt (by omega) (by omega)) (fun g4 => ?_) (fun g4 => ?_)
    · exact hit (Or.inl g4)
    refine (B_77_44).mpr ?_
    rw [sUp_slot (by decide), b2]
    rotate_left
    refine icT (qI_eq (by omega) (by omega)) (fun g5 => ?_) (fun g5 => ?_)
    · refine (B_77_52).mpr ?_
      rw [sUp_slot (by decide), b3]
      refine icT (qI_le (by omega) (by omega)) (fun g6 => ?_) (fun g6 => ?_)
      · exact miss (by omega)
      exact hit (Or.inr ⟨g5, by omega⟩)
    exact miss (by omega)
  refine no ?_
  unfold pB
  rw [decide_eq_false g3, Bool.and_false, Bool.and_false]
theorem k_hop (hw : WF N) {cnt : Bool} {w L v : Nat → Nat} (hD : dS N cnt w L v S) (hB : bL N L w v) {b : Bcc} (hb : mS b S) (hv : vb b) {o s rest : Nat} (ho : o ≤ cO N) (hs : s ≤ mxN N) (hr : rest ≤ 300) : Ret d 76 [vR 12 0 0, vI (nI o), vI (nI s), vI (nI rest)] S (some (vI (tf (hop N v o s rest b)))) S := by
  obtain ⟨-, -, e2⟩ := hw.2.1.2.1
  obtain ⟨d1, d2, d3, d4, d5, d6, d7⟩ := hD
  obtain ⟨b1, b2, b3, b4⟩ := hb
  obtain ⟨v1, v2⟩ := hv
  have hm8 := (mxN_le hw).2
  have c8 := hw.1.2.1
  have hv150 := hB.2.2 o
  have hmul : (mxN N - s) * v o ≤ 8 * 150 := Nat.mul_le_mul (by omega) hv150
  refine E_76 ?_
  refine (B_76_0 (n1_ := o) rfl (by omega)).mpr ?_
  rw [b2, d5, d7 o ho, qI_sub hs, ← qI_mul]
  have key : nI b.2.2.1 < nI rest - nI ((mxN N - s) * v o) ↔ b.2.2.1 + (mxN N - s) * v o < rest := by
    rw [Int32.lt_iff_toInt_lt, Int32.toInt_sub, nI_toInt (by omega), nI_toInt (by omega), nI_toInt (by omega), bm32 (by omega) (by omega)]
    omega
  unfold hop
  refine icT (key) (fun g1 => ?_) (fun g1 => ?_)
  · refine (B_76_45).mpr ?_
    refine (B_76_50 (Or.inr rfl)).mpr ?_
    rw [decide_eq_true g1]
    exact ⟨rfl, rfl⟩
  rw [decide_eq_false g1, Bool.false_or]
  refine (B_76_26).mpr ?_
  rw [b2, d2]
  rotate_left
  refine icT (qI_eq (by omega) (by omega)) (fun g2 => ?_) (fun g2 => ?_)
  · refine (B_76_37).mpr ?_
    rw [b3, decide_eq_true g2, Bool.true_and]
    refine icT (qI_lt (by omega) (by omega)) (fun g3 => ?_) (fun g3 => ?_)
    · refine (B_76_49).mpr ?_
      refine (B_76_50 (Or.inl rfl)).mpr ?_
      rw [decide_eq_false (by omega)]
      exact ⟨rfl, rfl⟩
    refine (B_76_45).mpr ?_
    refine (B_76_50 (Or.inr rfl)).mpr ?_
    rw [decide_eq_true (by omega)]
    exact ⟨rfl, rfl⟩
  refine (B_76_49).mpr ?_
  refine (B_76_50 (Or.inl rfl)).mpr ?_
  rw [decide_eq_false g2, Bool.false_and]
  exact ⟨rfl, rfl⟩
theorem k_try (hw : WF N) {cnt : Bool} {w L v : Nat → Nat} (hB : bL N L w v) (hw1 : ∀ o, o < cO N → 1 ≤ w o) : ∀ (k : Nat) {d o s rest : Nat} {b : Bcc} {f : NV} {S : bSt}, k + 3 ≤ d → o + k = cO N → dS N cnt w L v S → mS b S → vb b → s ≤ mxN N → 2 * nv N 1 ≤ rest → rest ≤ 300 → (∀ m, m < 8 → (m < o ∨ cO N ≤ m) → S 15 0 0 m = f m) →
    Wm d 75 [vR 12 0 0, vI (nI o), vI (nI s), vI (nI rest)] S (fun q S' => q = none ∧ fS S S' ∧ mS (trC N cnt w L v k o s rest f b) S' ∧ ∀ m, (m < o ∨ cO N ≤ m) → S' 15 0 0 m = S 15 0 0 m) := by
  have c8 := hw.1.2.1
  have hm8 := (mxN_le hw).2
  intro k
  induction k with
  | zero =>
    intro d o s rest b f S hd hk hD hb hv hs hlr hr hf
    refine EW_75 ?_
    refine (B_75_0).mpr ?_
    rw [hD.2.2.1]
    rw [if_pos (by rw [show o = cO N by omega]; exact Int32.le_refl _)]
    obtain ⟨q, S1, e1, rfl, h1, h2, h3⟩ := Wm_ex (k_judge (d := d - 1) hw (by omega) hD hb hv (s := s) (rest := rest) (by omega) hr (fun m hm => hf m hm (by omega)))
    refine (B_75_14 (by omega) e1).mpr ?_
    exact ⟨rfl, h1, h2, fun m _ => h3 m⟩
  | succ k ih =>
    intro d o s rest b f S hd hk hD hb hv hs hlr hr hf
    have hwo := hw1 o (by omega)
    have hw150 := hB.2.1 o (by omega)
    have hL8 := hB.1 o
    refine EW_75 ?_
    refine (B_75_0).mpr ?_
    rw [hD.2.2.1]
    rw [if_neg (by rw [qI_le (by omega) (by omega)]; omega)]
    refine (B_75_8).mpr ?_
    rw [if_pos (by rw [show (8 : Int32) = nI 8 from rfl, qI_lt (by omega) (by omega)]; omega)]
    refine (B_75_21).mpr ?_
    rw [hD.2.2.2.1]
    generalize hM : min (min (L o) (mxN N - s)) ((rest - 2 * nv N 1) / w o) = M
    have go : ¬ (cnt = false ∧ hop N v o s rest b = true) → Wp d 75 39 [some (vR 12 0 0), some (vI (nI o)), some (vI (nI s)), some (vI (nI rest)), none, none] [] S (fun q S' => q = none ∧ fS S S' ∧ mS (trC N cnt w L v (k + 1) o s rest f b) S' ∧ ∀ m, (m < o ∨ cO N ≤ m) → S' 15 0 0 m = S 15 0 0 m) := by
      intro hh
      have hres : trC N cnt w L v (k + 1) o s rest f b = (dn M).foldl (fun b n => trC N cnt w L v k (o + 1) (s + n) (rest - n * w o) (upd f o (nI n)) b) b := by
        rw [← hM]
        show (if _ then _ else _) = _
        rw [if_neg hh]
      rw [hres]
      obtain ⟨wo, lo⟩ := hD.2.2.2.2.2.1 o (by omega)
      have e1 : nI (mxN N) - nI s = nI (mxN N - s) := qI_sub hs
      refine (B_75_39 (n1_ := o) (n2_ := o) (by omega) rfl (by omega) (by rw [lo, hD.2.2.2.2.1, e1]; exact c_min (by omega) (by omega)) rfl (by omega)).mpr ?_
      rw [wo]
      rw [if_neg (by rw [show (0 : Int32) = nI 0 from rfl, qI_le (by omega) (by omega)]; omega)]
      have e2 : (nI rest - nI (2 * nv N 1)) / nI (w o) = nI ((rest - 2 * nv N 1) / w o) := by
        rw [qI_sub hlr, qI_div (by omega) (by omega) (by omega)]
      have hdr : (rest - 2 * nv N 1) / w o ≤ rest - 2 * nv N 1 := Nat.div_le_self _ _
      refine (B_75_65 (n1_ := o) (by omega) rfl (by omega) (by rw [wo, show (0 : Int32) = nI 0 from rfl, qI_eq (by omega) (by omega)]; omega) (by rw [hD.2.1, wo, e2]; exact c_min (by omega) (by omega))).mpr ?_
      rw [hM]
      refine (B_75_85).mpr ?_
      have hM8 : M ≤ mxN N - s := by omega
      have hMw : M * w o ≤ rest - 2 * nv N 1 := (Nat.le_div_iff_mul_le hwo).mp (by omega)
      -- the numbers of strips, the greatest first
      have body : ∀ (n : Nat) (c : Bcc) (T : bSt), n ≤ M → fS S T → mS c T → vb c → (∀ m, (m < o ∨ cO N ≤ m) → T 15 0 0 m = S 15 0 0 m) → ∀ {Q : Option bV → bSt → Prop}, (∀ T', fS S T' → mS (trC N cnt w L v k (o + 1) (s + n) (rest - n * w o) (upd f o (nI n)) c) T' → vb (trC N cnt w L v k (o + 1) (s + n) (rest - n * w o) (upd f o (nI n)) c) → (∀ m, (m < o ∨ cO N ≤ m) → T' 15 0 0 m = S 15 0 0 m) → Wp d 75 89 [some (vR 12 0 0), some (vI (nI o)), some (vI (nI s)), some (vI (nI rest)), some (vI (nI M)), some (vI (nI n + -1))] [] T' Q) → Wp d 75 89 [some (vR 12 0 0), some (vI (nI o)), some (vI (nI s)), some (vI (nI rest)), some (vI (nI M)), some (vI (nI n))] [] T Q := by
        intro n c T hn hfT hc hvc hrow Q next
        have hnw : n * w o ≤ M * w o := Nat.mul_le_mul_right _ hn
        refine (B_75_89).mpr ?_
        rw [if_neg (nI_n0 (by omega))]
        have hU : fS S (sUp T 15 0 0 o (nI n)) := fS_up hfT rfl
        have hUc : mS c (sUp T 15 0 0 o (nI n)) := ⟨by rw [sUp_kind (by decide)]; exact hc.1, by rw [sUp_kind (by decide)]; exact hc.2.1, by rw [sUp_kind (by decide)]; exact hc.2.2.1, fun m hm => by rw [sUp_kind (by decide)]; exact hc.2.2.2 m hm⟩
        obtain ⟨q, T1, r1, rfl, r2, r3, r4⟩ := Wm_ex (ih (d := d - 1) (o := o + 1) (s := s + n) (rest := rest - n * w o) (b := c) (f := upd f o (nI n)) (S := sUp T 15 0 0 o (nI n)) (by omega) (by omega) (dS_f hD hU) hUc hvc (by omega) (by omega) (by omega) (fun m hm hmo => by
          by_cases g : m = o
          · subst g; rw [sUp_same, upd_same]
          · rw [sUp_slot g, upd_ne g, hrow m (by omega)]
            exact hf m hm (by omega)))
        refine (B_75_94 (n1_ := o) (n2_ := o) (S1_ := T1) (by omega) rfl (by omega) rfl (by omega) (by rw [sUp_kind (show 13 ≠ 15 by decide), hfT _ _ _ _ rfl, wo, qI_succ, ← qI_add, ← qI_mul, qI_sub (by omega)]; exact r1)).mpr ?_
        refine next T1 (fS_trans hU r2) r3 (trC_vb _ _ _ _ _ _ (by omega) hm8 (by omega) hvc) (fun m hm => ?_)
        rw [r4 m (by omega), sUp_slot (by omega)]
        exact hrow m hm
      have loop : ∀ (n : Nat) (c : Bcc) (T : bSt), n ≤ M → fS S T → mS c T → vb c → (∀ m, (m < o ∨ cO N ≤ m) → T 15 0 0 m = S 15 0 0 m) → Wp d 75 89 [some (vR 12 0 0), some (vI (nI o)), some (vI (nI s)), some (vI (nI rest)), some (vI (nI M)), some (vI (nI n))] [] T (fun q S' => q = none ∧ fS S S' ∧ mS ((dn n).foldl (fun b n => trC N cnt w L v k (o + 1) (s + n) (rest - n * w o) (upd f o (nI n)) b) c) S' ∧ ∀ m, (m < o ∨ cO N ≤ m) → S' 15 0 0 m = S 15 0 0 m) := by
        intro n
        induction n with
        | zero =>
          intro c T hn h1 h2 h3 h4
          refine body 0 c T hn h1 h2 h3 h4 (fun T' g1 g2 g3 g4 => ?_)
          refine (B_75_89).mpr ?_
          rw [if_pos (by decide)]
          refine (B_75_130).mpr ?_
          exact ⟨rfl, g1, g2, g4⟩
        | succ n ih2 =>
          intro c T hn h1 h2 h3 h4
          refine body (n + 1) c T hn h1 h2 h3 h4 (fun T' g1 g2 g3 g4 => ?_)
          rw [show nI (n + 1) + (-1 : Int32) = nI n from by rw [qI_add, qI_lits.2.1]; grind, dn_succ, List.foldl_cons]
          exact ih2 _ T' (by omega) g1 g2 g3 g4
      exact loop M b S (Nat.le_refl _) (fS_refl S) hb hv (fun _ _ => rfl)
    refine icb (fun g => ?_) (fun g => ?_)
    · refine (B_75_28 (by omega) (k_hop hw hD hB hb hv (by omega) hs hr)).mpr ?_
      refine icb (fun g2 => ?_) (fun g2 => ?_)
      · exact go (by rw [g2]; rintro ⟨-, h⟩; exact absurd h (by decide))
      refine (B_75_38).mpr ?_
      refine ⟨rfl, fS_refl S, ?_, fun _ _ => rfl⟩
      show mS (if _ then _ else _) S
      rw [if_pos ⟨g, g2⟩]
      exact hb
    exact go (by rw [g]; rintro ⟨h, -⟩; exact absurd h (by decide))
end M18b
