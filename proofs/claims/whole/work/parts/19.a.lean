/-! THE CLASS: strings, words -/
section M19a
variable {d : Nat} {S : bSt} {i : Nat} {tx : Nat → Nat} {e : Nat}
theorem w_sgetv {k pc n : Nat} {ls : List (Option bV)} {st : List bV} {Q : Option bV → bSt → Prop} (hi : ins k pc = some (.getfield 9, 3)) (ho : (bCe k).1 = 10) (h6 : n < 6) : Wp d k pc ls (vR 37 n 0 :: st) S Q ↔ Wp d k (pc + 3) ls (vR 38 n 0 :: st) S Q :=
  Wp_step (P := n < 6) hi (by simp [stp, ho]) h6
theorem w_sgetc {k pc n : Nat} {ls : List (Option bV)} {st : List bV} {Q : Option bV → bSt → Prop} (hi : ins k pc = some (.getfield 15, 3)) (ho : (bCe k).1 = 10) (h6 : n < 6) : Wp d k pc ls (vR 37 n 0 :: st) S Q ↔ Wp d k (pc + 3) ls (vI 0 :: st) S Q :=
  Wp_step (P := n < 6) hi (by simp [stp, ho]) h6
theorem w_scomp {k pc : Nat} {ls : List (Option bV)} {st : List bV} {Q : Option bV → bSt → Prop} (hi : ins k pc = some (.getstatic 38, 3)) (ho : (bCe k).1 = 10) : Wp d k pc ls st S Q ↔ Wp d k (pc + 3) ls (vI 1 :: st) S Q :=
  Wp_step (P := True) hi (by simp [stp, ho]) trivial
theorem w_sform {k pc : Nat} {ls : List (Option bV)} {st : List bV} {Q : Option bV → bSt → Prop} (hi : ins k pc = some (.getstatic 1053, 3)) (ho : (bCe k).1 = 10) : Wp d k pc ls st S Q ↔ Wp d k (pc + 3) ls (vR 39 0 0 :: st) S Q :=
  Wp_step (P := True) hi (by simp [stp, ho]) trivial
theorem s_coder {n : Nat} (h6 : n < 6) : Ret d 254 [vR 37 n 0] S (some (vI 0)) S := by
  refine Ret_intro ((Wm_entry (ls := [some (vR 37 n 0)]) rfl).mpr ?_)
  refine (w_scomp (show ins 254 0 = some (.getstatic 38, 3) from by decide +kernel) (by decide +kernel)).mpr ?_
  refine (w_ifeq (t := 13) (show ins 254 3 = some (.ifCond .eq 10, 3) from by decide +kernel) (by decide)).mpr ?_
  rw [if_neg (by decide)]
  refine (w_aload_n (show ins 254 6 = some (.aload_n 0, 1) from by decide +kernel) rfl (by decide)).mpr ?_
  refine (w_sgetc (show ins 254 7 = some (.getfield 15, 3) from by decide +kernel) (by decide +kernel) h6).mpr ?_
  refine (w_goto (t := 14) (show ins 254 10 = some (.goto 4, 3) from by decide +kernel) (by decide)).mpr ?_
  exact (w_tret (ty := .byte) (show ins 254 14 = some (.ireturn, 1) from by decide +kernel) (by decide +kernel) rfl).mpr ⟨rfl, rfl⟩
theorem s_latin {n : Nat} (h6 : n < 6) : Ret d 255 [vR 37 n 0] S (some (vI 1)) S := by
  refine Ret_intro ((Wm_entry (ls := [some (vR 37 n 0)]) rfl).mpr ?_)
  refine (w_scomp (show ins 255 0 = some (.getstatic 38, 3) from by decide +kernel) (by decide +kernel)).mpr ?_
  refine (w_ifeq (t := 17) (show ins 255 3 = some (.ifCond .eq 14, 3) from by decide +kernel) (by decide)).mpr ?_
  rw [if_neg (by decide)]
  refine (w_aload_n (show ins 255 6 = some (.aload_n 0, 1) from by decide +kernel) rfl (by decide)).mpr ?_
  refine (w_sgetc (show ins 255 7 = some (.getfield 15, 3) from by decide +kernel) (by decide +kernel) h6).mpr ?_
  refine (w_ifne (t := 17) (show ins 255 10 = some (.ifCond .ne 7, 3) from by decide +kernel) (by decide)).mpr ?_
  rw [if_pos rfl]
  refine (w_iconst (x := 1) (show ins 255 13 = some (.iconst 1, 1) from by decide +kernel) (by decide)).mpr ?_
  refine (w_goto (t := 18) (show ins 255 14 = some (.goto 4, 3) from by decide +kernel) (by decide)).mpr ?_
  exact (w_zret (show ins 255 18 = some (.ireturn, 1) from by decide +kernel) (by decide +kernel) (Or.inr rfl)).mpr ⟨rfl, rfl⟩
theorem s_sh : ∀ n, n < 6 → (nI (bTl.getD n 0)) >>> ((0 : Int32) &&& 31) = nI (bTl.getD n 0) := by decide +kernel
theorem s_length (hd : 1 ≤ d) {n : Nat} (h6 : n < 6) : Ret d 252 [vR 37 n 0] S (some (vI (nI (bTl.getD n 0)))) S := by
  refine Ret_intro ((Wm_entry (ls := [some (vR 37 n 0)]) rfl).mpr ?_)
  refine (w_aload_n (show ins 252 0 = some (.aload_n 0, 1) from by decide +kernel) rfl (by decide)).mpr ?_
  refine (w_sgetv (show ins 252 1 = some (.getfield 9, 3) from by decide +kernel) (by decide +kernel) h6).mpr ?_
  refine (w_slen (show ins 252 4 = some (.arraylength, 1) from by decide +kernel) h6).mpr ?_
  refine (w_aload_n (show ins 252 5 = some (.aload_n 0, 1) from by decide +kernel) rfl (by decide)).mpr ?_
  refine (w_callT (As := []) (n0 := n) (k' := 254) (st' := [vI (nI (bTl.getD n 0))]) (by omega) (show ins 252 6 = some (.invokevirtual 335, 3) from by decide +kernel) (by decide +kernel) rfl rfl (by simp [bCat]) (by decide +kernel) h6 (s_coder h6)).mpr ?_
  refine (w_ishr (x := nI (bTl.getD n 0)) (y := 0) (st := []) (show ins 252 9 = some (.ishr, 1) from by decide +kernel)).mpr ?_
  rw [s_sh n h6]
  exact (w_iret (show ins 252 10 = some (.ireturn, 1) from by decide +kernel) (by decide +kernel)).mpr ⟨rfl, rfl⟩
theorem s_pre {x1 x2 : Int32} (h0 : ¬ x1 < 0) (h1 : x1 < x2) : Ret d 262 [vI x1, vI x2, vR 39 0 0] S (some (vI x1)) S := by
  refine Ret_intro ((Wm_entry (ls := [some (vI x1), some (vI x2), some (vR 39 0 0)]) rfl).mpr ?_)
  refine (w_iload_n (show ins 262 0 = some (.iload_n 0, 1) from by decide +kernel) rfl).mpr ?_
  refine (w_iflt (t := 9) (show ins 262 1 = some (.ifCond .lt 8, 3) from by decide +kernel) (by decide)).mpr ?_
  rw [if_neg h0]
  refine (w_iload_n (show ins 262 4 = some (.iload_n 0, 1) from by decide +kernel) rfl).mpr ?_
  refine (w_iload_n (show ins 262 5 = some (.iload_n 1, 1) from by decide +kernel) rfl).mpr ?_
  refine (w_icmplt (t := 16) (show ins 262 6 = some (.if_icmp .lt 10, 3) from by decide +kernel) (by decide)).mpr ?_
  rw [if_pos h1]
  refine (w_iload_n (show ins 262 16 = some (.iload_n 0, 1) from by decide +kernel) rfl).mpr ?_
  exact (w_iret (show ins 262 17 = some (.ireturn, 1) from by decide +kernel) (by decide +kernel)).mpr ⟨rfl, rfl⟩
theorem s_check (hd : 1 ≤ d) {x1 x2 : Int32} (h0 : ¬ x1 < 0) (h1 : x1 < x2) : Ret d 256 [vI x1, vI x2] S none S := by
  refine Ret_intro ((Wm_entry (ls := [some (vI x1), some (vI x2)]) rfl).mpr ?_)
  refine (w_iload_n (show ins 256 0 = some (.iload_n 0, 1) from by decide +kernel) rfl).mpr ?_
  refine (w_iload_n (show ins 256 1 = some (.iload_n 1, 1) from by decide +kernel) rfl).mpr ?_
  refine (w_sform (show ins 256 2 = some (.getstatic 1053, 3) from by decide +kernel) (by decide +kernel)).mpr ?_
  refine (w_callS (as := [vI x1, vI x2, vR 39 0 0]) (k' := 262) (st' := []) (by omega) (show ins 256 5 = some (.invokestatic 1059, 3) from by decide +kernel) (show bck1 256 1059 262 3 true = true from by decide +kernel) rfl rfl (by decide) (s_pre h0 h1)).mpr ?_
  refine (w_pop (show ins 256 8 = some (.pop, 1) from by decide +kernel) rfl).mpr ?_
  exact (w_vret (show ins 256 9 = some (.return_, 1) from by decide +kernel) (by decide +kernel)).mpr ⟨rfl, rfl⟩
theorem s_ch : ∀ n, n < 6 → ∀ k, k < bTl.getD n 0 → ((((bTx.getD n []).getD k 0) &&& (255 : Int32)).toUInt32 % 65536).toInt32 = nI (wch ([0, 6, 11, 15, 19, 27].getD n 0 + k)) ∧ narrow .char (.int (nI (wch ([0, 6, 11, 15, 19, 27].getD n 0 + k)))) = .int (nI (wch ([0, 6, 11, 15, 19, 27].getD n 0 + k))) := by decide +kernel
theorem bTl_7 : ∀ n, n < 6 → bTl.getD n 0 ≤ 7 ∧ wlen n = bTl.getD n 0 := by decide +kernel
theorem s_charL (hd : 2 ≤ d) {n k : Nat} (h6 : n < 6) (hk : k < bTl.getD n 0) : Ret d 257 [vR 38 n 0, vI (nI k)] S (some (vI (nI (wch ([0, 6, 11, 15, 19, 27].getD n 0 + k))))) S := by
  have h7 := (bTl_7 n h6).1
  obtain ⟨c1, c2⟩ := s_ch n h6 k hk
  refine Ret_intro ((Wm_entry (ls := [some (vR 38 n 0), some (vI (nI k))]) rfl).mpr ?_)
  refine (w_iload_n (show ins 257 0 = some (.iload_n 1, 1) from by decide +kernel) rfl).mpr ?_
  refine (w_aload_n (show ins 257 1 = some (.aload_n 0, 1) from by decide +kernel) rfl (by decide)).mpr ?_
  refine (w_slen (show ins 257 2 = some (.arraylength, 1) from by decide +kernel) h6).mpr ?_
  refine (w_callS (as := [vI (nI k), vI (nI (bTl.getD n 0))]) (k' := 256) (st' := []) (by omega) (show ins 257 3 = some (.invokestatic 9, 3) from by decide +kernel) (show bck1 257 9 256 2 true = true from by decide +kernel) rfl rfl (by decide) (s_check (by omega) (nI_n0 (by omega)) (by rw [qI_lt (by omega) (by omega)]; exact hk))).mpr ?_
  refine (w_aload_n (show ins 257 6 = some (.aload_n 0, 1) from by decide +kernel) rfl (by decide)).mpr ?_
  refine (w_iload_n (show ins 257 7 = some (.iload_n 1, 1) from by decide +kernel) rfl).mpr ?_
  refine (w_sbld (n := k) (show ins 257 8 = some (.baload, 1) from by decide +kernel) rfl h6 hk).mpr ?_
  refine (w_sipush (x := 255) (show ins 257 9 = some (.sipush 255, 3) from by decide +kernel) (by decide)).mpr ?_
  refine (w_iand (show ins 257 12 = some (.iand, 1) from by decide +kernel)).mpr ?_
  refine (w_i2c (show ins 257 13 = some (.i2c, 1) from by decide +kernel)).mpr ?_
  rw [c1]
  exact (w_tret (ty := .char) (show ins 257 14 = some (.ireturn, 1) from by decide +kernel) (by decide +kernel) c2).mpr ⟨rfl, rfl⟩
theorem s_charAt (hd : 3 ≤ d) {n k : Nat} (h6 : n < 6) (hk : k < bTl.getD n 0) : Ret d 253 [vR 37 n 0, vI (nI k)] S (some (vI (nI (wch ([0, 6, 11, 15, 19, 27].getD n 0 + k))))) S := by
  obtain ⟨c1, c2⟩ := s_ch n h6 k hk
  refine Ret_intro ((Wm_entry (ls := [some (vR 37 n 0), some (vI (nI k))]) rfl).mpr ?_)
  refine (w_aload_n (show ins 253 0 = some (.aload_n 0, 1) from by decide +kernel) rfl (by decide)).mpr ?_
  refine (w_callT (As := []) (n0 := n) (k' := 255) (st' := []) (by omega) (show ins 253 1 = some (.invokevirtual 492, 3) from by decide +kernel) (by decide +kernel) rfl rfl (by decide) (by decide +kernel) h6 (s_latin h6)).mpr ?_
  refine (w_ifeq (t := 16) (x := 1) (st := []) (show ins 253 4 = some (.ifCond .eq 12, 3) from by decide +kernel) (by decide)).mpr ?_
  rw [if_neg (by decide)]
  refine (w_aload_n (show ins 253 7 = some (.aload_n 0, 1) from by decide +kernel) rfl (by decide)).mpr ?_
  refine (w_sgetv (show ins 253 8 = some (.getfield 9, 3) from by decide +kernel) (by decide +kernel) h6).mpr ?_
  refine (w_iload_n (show ins 253 11 = some (.iload_n 1, 1) from by decide +kernel) rfl).mpr ?_
  refine (w_callS (as := [vR 38 n 0, vI (nI k)]) (k' := 257) (st' := []) (by omega) (show ins 253 12 = some (.invokestatic 495, 3) from by decide +kernel) (show bck1 253 495 257 2 true = true from by decide +kernel) rfl rfl (by decide) (s_charL (by omega) h6 hk)).mpr ?_
  exact (w_tret (ty := .char) (show ins 253 15 = some (.ireturn, 1) from by decide +kernel) (by decide +kernel) c2).mpr ⟨rfl, rfl⟩
/-- the class's text, read up to p -/
def cS (tx : Nat → Nat) (e p : Nat) (S : bSt) : Prop := cT tx e S ∧ S 26 0 0 2 = nI p ∧ p ≤ e
theorem k_stands {p ch : Nat} (h : cS tx e p S) (hc : ch < 1000) : Ret d 83 [vR 26 0 0, vI (nI ch)] S (some (vI (tf (isA tx e (p, false) ch ch)))) S := by
  obtain ⟨⟨t1, t2, t3, t4⟩, h2, hp⟩ := h
  refine E_83 ?_
  refine (B_83_0).mpr ?_
  rw [t1, h2]
  refine icT (qI_le (by omega) (by omega)) (fun g => ?_) (fun g => ?_)
  · refine (B_83_28).mpr ?_
    refine (B_83_29 (Or.inl rfl)).mpr ?_
    obtain rfl : p = e := by omega
    rw [isA_e]
    exact ⟨rfl, rfl⟩
  have tb := t3 p (by omega)
  refine (B_83_11 (n1_ := p) h2 (by omega)).mpr ?_
  rw [t4 p (by omega), isA_f (by omega)]
  refine icT (qI_eq (by omega) (by omega)) (fun g2 => ?_) (fun g2 => ?_)
  · refine (B_83_24).mpr ?_
    refine (B_83_29 (Or.inr rfl)).mpr ?_
    rw [decide_eq_true (show ch ≤ tx p by omega), decide_eq_true (show tx p ≤ ch by omega)]
    exact ⟨rfl, rfl⟩
  refine (B_83_28).mpr ?_
  refine (B_83_29 (Or.inl rfl)).mpr ?_
  have : (decide (ch ≤ tx p) && decide (tx p ≤ ch)) = false := by
    simp only [Bool.and_eq_false_iff, decide_eq_false_iff_not]
    omega
  rw [this]
  exact ⟨rfl, rfl⟩
theorem k_nameOf {w : Nat} (hw : w ≤ 4) : Ret d 91 [vI (nI w)] S (some (vR 37 w 0)) S := by
  refine E_91 ?_
  refine (B_91_0).mpr ?_
  rw [X_91_1]
  rcases (show w = 0 ∨ w = 1 ∨ w = 2 ∨ w = 3 ∨ w = 4 by omega) with rfl | rfl | rfl | rfl | rfl
  · rw [if_pos (by decide)]
    refine (B_91_32).mpr ?_
    exact ⟨rfl, rfl⟩
  · rw [if_neg (by decide), if_pos (by decide)]
    refine (B_91_35).mpr ?_
    exact ⟨rfl, rfl⟩
  · rw [if_neg (by decide), if_neg (by decide), if_pos (by decide)]
    refine (B_91_38).mpr ?_
    exact ⟨rfl, rfl⟩
  · rw [if_neg (by decide), if_neg (by decide), if_neg (by decide), if_pos (by decide)]
    refine (B_91_41).mpr ?_
    exact ⟨rfl, rfl⟩
  · rw [if_neg (by decide), if_neg (by decide), if_neg (by decide), if_neg (by decide)]
    refine (B_91_44).mpr ?_
    exact ⟨rfl, rfl⟩
theorem k_numbersOf {w : Nat} (hw : w ≤ 4) : Ret d 92 [vI (nI w)] S (some (vI (nI (nbO w)))) S := by
  refine E_92 ?_
  refine (B_92_0).mpr ?_
  rw [X_92_1]
  rcases (show w = 0 ∨ w = 1 ∨ w = 2 ∨ w = 3 ∨ w = 4 by omega) with rfl | rfl | rfl | rfl | rfl
  · rw [if_pos (by decide)]
    refine (B_92_32).mpr ?_
    exact ⟨rfl, rfl⟩
  · rw [if_neg (by decide), if_pos (by decide)]
    refine (B_92_34).mpr ?_
    exact ⟨rfl, rfl⟩
  · rw [if_neg (by decide), if_neg (by decide), if_pos (by decide)]
    refine (B_92_38).mpr ?_
    exact ⟨rfl, rfl⟩
  · rw [if_neg (by decide), if_neg (by decide), if_neg (by decide), if_pos (by decide)]
    refine (B_92_36).mpr ?_
    exact ⟨rfl, rfl⟩
  · rw [if_neg (by decide), if_neg (by decide), if_neg (by decide), if_neg (by decide)]
    refine (B_92_38).mpr ?_
    exact ⟨rfl, rfl⟩
def wb (n : Nat) : Nat := [0, 6, 11, 15, 19, 27].getD n 0
theorem mtB_iff {p q b : Nat} : ∀ l, mtB tx p q b l = true ↔ ∀ i, i < l → p + i < q ∧ tx (p + i) = wch (b + i) := by
  intro l
  induction l with
  | zero => exact ⟨fun _ i h => absurd h (Nat.not_lt_zero _), fun _ => rfl⟩
  | succ l ih =>
    unfold mtB
    rw [Bool.and_eq_true, Bool.and_eq_true, ih, decide_eq_true_eq, decide_eq_true_eq]
    constructor
    · rintro ⟨h1, h2⟩ i hi
      by_cases g : i = l
      · subst g; exact h2
      · exact h1 i (by omega)
    · intro h
      exact ⟨fun i hi => h i (by omega), h l (by omega)⟩
theorem wch_lt : ∀ i, wch i < 127 := by
  intro i
  have h : ∀ i, i < 34 → wch i < 127 := by decide
  by_cases g : i < 34
  · exact h i g
  · unfold wch
    rw [List.getD_eq_getElem?_getD, List.getElem?_eq_none (by show 34 ≤ i; omega)]
    decide
theorem k_isHere (hd : 4 ≤ d) {p n : Nat} (h : cS tx e p S) (h6 : n < 6) : Ret d 90 [vR 26 0 0, vR 37 n 0] S (some (vI (tf (isW tx p (leE tx e p) (wb n) (wlen n))))) S := by
  obtain ⟨⟨t1, t2, t3, t4⟩, h2, hp⟩ := h
  obtain ⟨l7, lw⟩ := bTl_7 n h6
  obtain ⟨q1, q2⟩ := leE_le (tx := tx) hp
  refine E_90 ?_
  refine (B_90_0).mpr ?_
  rw [h2]
  -- the letters
  have mid : Wp d 90 41 [some (vR 26 0 0), some (vR 37 n 0), some (vI (nI (leE tx e p))), none] [] S (fun r1 S1 => r1 = some (vI (tf (isW tx p (leE tx e p) (wb n) (wlen n)))) ∧ S1 = S) := by
    generalize leE tx e p = q at *
    refine (B_90_41 (by omega) (s_length (by omega) h6) h6).mpr ?_
    rw [h2, qI_sub q1]
    unfold isW
    rw [lw]
    rotate_left
    refine icT (qI_eq (by omega) (by omega)) (fun g => ?_) (fun g => ?_)
    · rw [decide_eq_true g.symm, Bool.and_true]
      refine (B_90_56).mpr ?_
      rw [h2]
      have go : ∀ m j, j + m = bTl.getD n 0 → (∀ i, i < j → p + i < q ∧ tx (p + i) = wch (wb n + i)) → Wp d 90 61 [some (vR 26 0 0), some (vR 37 n 0), some (vI (nI q)), some (vI (nI (p + j)))] [] S (fun r1 S1 => r1 = some (vI (tf (mtB tx p q (wb n) (bTl.getD n 0)))) ∧ S1 = S) := by
        intro m
        induction m with
        | zero =>
          intro j hj hall
          refine (B_90_61).mpr ?_
          rw [if_pos (by rw [qI_le (by omega) (by omega)]; omega)]
          refine (B_90_93).mpr ?_
          rw [(mtB_iff _).mpr (fun i hi => hall i (by omega))]
          exact ⟨rfl, rfl⟩
        | succ m ih =>
          intro j hj hall
          have tb := t3 (p + j) (by omega)
          have wl := wch_lt (wb n + j)
          refine (B_90_61).mpr ?_
          rw [if_neg (by rw [qI_le (by omega) (by omega)]; omega)]
          have hch := s_charAt (d := d - 1) (S := S) (by omega) h6 (show j < bTl.getD n 0 by omega)
          refine (B_90_66 (n1_ := p + j) (by omega) rfl (by omega) (by rw [h2, qI_sub (by omega), show p + j - p = j by omega]; exact hch) h6).mpr ?_
          rw [t4 (p + j) (by omega)]
          rotate_left
          refine icT (qI_eq (by omega) (by have := wch_lt (wb n + j); unfold wb at this; omega)) (fun gc => ?_) (fun gc => ?_)
          · refine (B_90_87).mpr ?_
            rw [qI_succ, Nat.add_assoc]
            refine ih (j + 1) (by omega) (fun i hi => ?_)
            by_cases gi : i = j
            · subst gi; exact ⟨by omega, gc⟩
            · exact hall i (by omega)
          refine (B_90_85).mpr ?_
          have hno : mtB tx p q (wb n) (bTl.getD n 0) = false := by
            cases hb : mtB tx p q (wb n) (bTl.getD n 0) with
            | false => rfl
            | true => exact absurd ((mtB_iff _).mp hb j (by omega)).2 gc
          rw [hno]
          exact ⟨rfl, rfl⟩
      exact go (bTl.getD n 0) 0 (by omega) (fun i hi => absurd hi (Nat.not_lt_zero _))
    refine (B_90_54).mpr ?_
    rw [decide_eq_false (fun z => g z.symm), Bool.and_false]
    exact ⟨rfl, rfl⟩
  have run : ∀ m z, z + m = e → p ≤ z → Wp d 90 41 [some (vR 26 0 0), some (vR 37 n 0), some (vI (nI (leN tx e m z))), none] [] S (fun r1 S1 => r1 = some (vI (tf (isW tx p (leE tx e p) (wb n) (wlen n)))) ∧ S1 = S) → Wp d 90 5 [some (vR 26 0 0), some (vR 37 n 0), some (vI (nI z)), none] [] S (fun r1 S1 => r1 = some (vI (tf (isW tx p (leE tx e p) (wb n) (wlen n)))) ∧ S1 = S) := by
    intro m
    induction m with
    | zero =>
      intro z hz hpz hk
      refine (B_90_5).mpr ?_
      rw [t1]
      rw [if_pos (by rw [qI_le (by omega) (by omega)]; omega)]
      exact hk
    | succ m ih =>
      intro z hz hpz hk
      have tb := t3 z (by omega)
      refine (B_90_5).mpr ?_
      rw [t1]
      rw [if_neg (by rw [qI_le (by omega) (by omega)]; omega)]
      unfold leN at hk
      rw [isA_f (by omega)] at hk
      refine (B_90_13 (n1_ := z) rfl (by omega)).mpr ?_
      rw [t4 z (by omega)]
      refine icT (qI_lt (b := 97) (by omega) (by omega)) (fun ga => ?_) (fun ga => ?_)
      · rw [decide_eq_false (by omega), Bool.false_and, if_neg (by decide)] at hk
        exact hk
      refine (B_90_24 (n1_ := z) rfl (by omega)).mpr ?_
      rw [t4 z (by omega)]
      refine icT (qI_lt (a := 122) (by omega) (by omega)) (fun gb => ?_) (fun gb => ?_)
      · rw [decide_eq_false (show ¬ tx z ≤ 122 by omega), Bool.and_false, if_neg (by decide)] at hk
        exact hk
      rw [decide_eq_true (show 97 ≤ tx z by omega), decide_eq_true (show tx z ≤ 122 by omega), if_pos (by decide)] at hk
      refine (B_90_35).mpr ?_
      rw [qI_succ]
      exact ih (z + 1) (by omega) (by omega) hk
  exact run (e - p) p (by omega) (Nat.le_refl _) mid
theorem wrd_eq (p q : Nat) : wrd tx p q = if isW tx p q (wb 0) (wlen 0) = true then 0 else if isW tx p q (wb 1) (wlen 1) = true then 1 else if isW tx p q (wb 2) (wlen 2) = true then 2 else if isW tx p q (wb 3) (wlen 3) = true then 3 else if isW tx p q (wb 4) (wlen 4) = true then 4 else if isW tx p q (wb 5) (wlen 5) = true then 5 else 6 := rfl
theorem k_wordHere (hd : 5 ≤ d) {p : Nat} (h : cS tx e p S) : Ret d 89 [vR 26 0 0] S (some (vI (if wrd tx p (leE tx e p) ≤ 4 then nI (wrd tx p (leE tx e p)) else -1))) S := by
  refine E_89 ?_
  refine (B_89_0).mpr ?_
  have step : ∀ n, n < 5 → ∀ {R : Prop}, (isW tx p (leE tx e p) (wb n) (wlen n) = true → (some (vI (nI n)) = some (vI (if wrd tx p (leE tx e p) ≤ 4 then nI (wrd tx p (leE tx e p)) else -1)))) → (isW tx p (leE tx e p) (wb n) (wlen n) = false → Wp d 89 2 [some (vR 26 0 0), some (vI (nI (n + 1)))] [] S (fun r1 S1 => r1 = some (vI (if wrd tx p (leE tx e p) ≤ 4 then nI (wrd tx p (leE tx e p)) else -1)) ∧ S1 = S)) → Wp d 89 2 [some (vR 26 0 0), some (vI (nI n))] [] S (fun r1 S1 => r1 = some (vI (if wrd tx p (leE tx e p) ≤ 4 then nI (wrd tx p (leE tx e p)) else -1)) ∧ S1 = S) := by
    intro n hn _ hy hno
    refine (B_89_2).mpr ?_
    rw [if_neg (by rw [show (5 : Int32) = nI 5 from rfl, qI_le (by omega) (by omega)]; omega)]
    refine (B_89_7 (by omega) (k_nameOf (by omega)) (k_isHere (by omega) h (by omega))).mpr ?_
    refine icb (fun g => ?_) (fun g => ?_)
    · refine (B_89_20).mpr ?_
      rw [qI_succ]
      exact hno g
    refine (B_89_18).mpr ?_
    exact ⟨hy g, rfl⟩
  have i0 : ∀ b l, isW tx p (leE tx e p) b l = false → ¬ isW tx p (leE tx e p) b l = true := fun b l h => by rw [h]; decide
  refine step 0 (by omega) (R := True) (fun g => ?_) (fun g0 => ?_)
  · have : wrd tx p (leE tx e p) = 0 := by rw [wrd_eq, if_pos g]
    rw [this, if_pos (by omega)]
  refine step 1 (by omega) (R := True) (fun g => ?_) (fun g1 => ?_)
  · have : wrd tx p (leE tx e p) = 1 := by rw [wrd_eq, if_neg (i0 _ _ g0), if_pos g]
    rw [this, if_pos (by omega)]
  refine step 2 (by omega) (R := True) (fun g => ?_) (fun g2 => ?_)
  · have : wrd tx p (leE tx e p) = 2 := by rw [wrd_eq, if_neg (i0 _ _ g0), if_neg (i0 _ _ g1), if_pos g]
    rw [this, if_pos (by omega)]
  refine step 3 (by omega) (R := True) (fun g => ?_) (fun g3 => ?_)
  · have : wrd tx p (leE tx e p) = 3 := by rw [wrd_eq, if_neg (i0 _ _ g0), if_neg (i0 _ _ g1), if_neg (i0 _ _ g2), if_pos g]
    rw [this, if_pos (by omega)]
  refine step 4 (by omega) (R := True) (fun g => ?_) (fun g4 => ?_)
  · have : wrd tx p (leE tx e p) = 4 := by rw [wrd_eq, if_neg (i0 _ _ g0), if_neg (i0 _ _ g1), if_neg (i0 _ _ g2), if_neg (i0 _ _ g3), if_pos g]
    rw [this, if_pos (by omega)]
  refine (B_89_2).mpr ?_
  rw [if_pos (by decide)]
  refine (B_89_26).mpr ?_
  have : ¬ wrd tx p (leE tx e p) ≤ 4 := by
    rw [wrd_eq, if_neg (i0 _ _ g0), if_neg (i0 _ _ g1), if_neg (i0 _ _ g2), if_neg (i0 _ _ g3), if_neg (i0 _ _ g4)]
    split <;> omega
  rw [if_neg this]
  exact ⟨rfl, rfl⟩
end M19a
