/-! THE MODEL's methods, 14: grade, ifAll, the written text, undo, save, restore, count -/
section M15f
def aIfW (N : NV) (x : Int32) : Int32 := if x = 0 then (aCuts N).1 else if x = 1 then aMetO (aCuts N).2 else if x = 2 then aWaste (aCuts N).2 else if x = 3 then nI (aSets (aCuts N).2) else aAreaL (aCuts N).2
def aIf (N : NV) (x : Int32) : Int32 := if inR x 0 4 = true then aIfW N x else -2
def wrL (N : NV) (u : Nat) : Nat → List Int32
  | 0 => []
  | n + 1 => if 0 < N (94 + 12 * u + n) then wrL N u n ++ (if wrL N u n = [] then [] else [43]) ++ [48 + N (94 + 12 * u + n), 120, 48 + nI n] else wrL N u n
theorem wrL_len {N : NV} {u : Nat} : ∀ n, wrL N u n = [] ∨ (wrL N u n).length + 1 ≤ 4 * n := by
  intro n
  induction n with
  | zero => exact Or.inl rfl
  | succ n ih =>
    unfold wrL
    split
    · right
      rcases ih with ih | ih
      · rw [if_pos ih, ih]; simp; omega
      · split <;> simp <;> omega
    · rcases ih with ih | ih
      · exact Or.inl ih
      · right; omega
/-- the text that stands written -/
def Wt (k f : Nat) (a : Nat × Nat) (l : List Int32) (S : bSt) : Prop := S a.1 a.2 0 f = nI l.length ∧ ∀ m, m < l.length → S k 0 0 m = l.getD m 0
def scW (k m : Nat) : Bool := k == 50 || (k == 40 && m == 21)
def fW (S S' : bSt) : Prop := ∀ k i j m, scW k m = false → S' k i j m = S k i j m
theorem fW_trans {S T U : bSt} (h : fW S T) (g : fW T U) : fW S U := fun k i j m hm => (g k i j m hm).trans (h k i j m hm)
theorem fW_up {S T : bSt} {k i j m : Nat} {x : Int32} (h : fW S T) (hk : scW k m = true) : fW S (sUp T k i j m x) := by
  intro k' i' j' m' hs
  rw [← h k' i' j' m' hs]
  unfold sUp
  rw [if_neg]
  rintro ⟨rfl, -, -, rfl⟩
  rw [hk] at hs
  exact absurd hs (by decide)
def WtM (l : List Int32) (S : bSt) : Prop := S 40 0 0 21 = nI l.length ∧ ∀ m, m < l.length → S 50 0 0 m = l.getD m 0
def aWrtL (N : NV) (x : Int32) (l : List Int32) : List Int32 := if vU N x = true then wrL N x.toNatClampNeg 8 else l
def aWrtA (N : NV) (x : Int32) : Int32 := if vU N x = true then nI (wrL N x.toNatClampNeg 8).length else -1
def aWrn (l : List Int32) (x : Int32) : Int32 := if inR x 0 (nI l.length - 1) = true then l.getD x.toNatClampNeg 0 else -1
variable {d : Nat} {S : bSt}
theorem c_grade (hd : 6 ≤ d) (hw : WF (S 41 0 0)) {x1 x2 : Int32} : Ret d 238 [vR 40 0 0, vI x1, vI x2] S (some (vI (aGrd (S 41 0 0) x1 x2))) S := by
  refine E_238 ?_
  refine (B_238_0 (by omega) c_isIn).mpr ?_
  unfold aGrd
  rw [inR_tf]
  refine icb (fun g => ?_) (fun g => ?_)
  · refine (B_238_9).mpr ?_
    rw [if_neg (by rw [g]; decide)]
    exact ⟨rfl, rfl⟩
  rw [if_pos g]
  refine (B_238_12).mpr ?_
  rw [X_238_13]
  unfold aGrdW
  refine ic (fun q0 => ?_) (fun q0 => ?_)
  · refine (B_238_52).mpr ?_
    rw [if_neg (by rw [q0]; decide)]
    refine (B_238_63).mpr ?_
    refine (B_238_64 (by omega) (c_ordersOf (by omega) hw)).mpr ?_
    exact ⟨by simp [g, q0], rfl⟩
  rw [if_neg q0]
  refine ic (fun q1 => ?_) (fun q1 => ?_)
  · refine (B_238_52).mpr ?_
    rw [if_pos (q1)]
    refine (B_238_59).mpr ?_
    refine (B_238_64 (by omega) (c_ordersOf (by omega) hw)).mpr ?_
    exact ⟨by simp [g, q0, q1], rfl⟩
  rw [if_neg q1]
  refine ic (fun q2 => ?_) (fun q2 => ?_)
  · refine (B_238_68).mpr ?_
    rw [if_neg (by rw [q2]; decide)]
    refine (B_238_79).mpr ?_
    refine (B_238_80 (by omega) (c_rollsOf (by omega) hw)).mpr ?_
    exact ⟨by simp [g, q0, q1, q2], rfl⟩
  rw [if_neg q2]
  refine ic (fun q3 => ?_) (fun q3 => ?_)
  · refine (B_238_68).mpr ?_
    rw [if_pos (q3)]
    refine (B_238_75).mpr ?_
    refine (B_238_80 (by omega) (c_rollsOf (by omega) hw)).mpr ?_
    exact ⟨by simp [g, q0, q1, q2, q3], rfl⟩
  rw [if_neg q3]
  refine ic (fun q4 => ?_) (fun q4 => ?_)
  · refine (B_238_84 (by omega) (c_wasteOfGrade (by omega) hw)).mpr ?_
    exact ⟨by simp [g, q0, q1, q2, q3, q4], rfl⟩
  rw [if_neg q4]
  refine ic (fun q5 => ?_) (fun q5 => ?_)
  · refine (B_238_90 (by omega) (c_givenBy (by omega) hw)).mpr ?_
    exact ⟨by simp [g, q0, q1, q2, q3, q4, q5], rfl⟩
  rw [if_neg q5]
  refine (B_238_96).mpr ?_
  exact ⟨rfl, rfl⟩
theorem c_ifAll (hd : 16 ≤ d) (hw : WF (S 41 0 0)) {x1 : Int32} : Wm d 230 [vR 40 0 0, vI x1] S (fun q S' => q = some (vI (aIf (S 41 0 0) x1)) ∧ fM2 S S' ∧ S' 42 0 0 = S 42 0 0 ∧ S' 40 0 0 2 = S 40 0 0 2 ∧ ∀ m, m < 282 → S' 41 0 0 m = S 41 0 0 m) := by
  refine EW_230 ?_
  refine (B_230_0 (by omega) c_isIn).mpr ?_
  unfold aIf
  rw [inR_tf]
  refine icb (fun g => ?_) (fun g => ?_)
  · refine (B_230_9).mpr ?_
    rw [if_neg (by rw [g]; decide)]
    exact ⟨rfl, fun _ _ _ _ _ => rfl, rfl, rfl, fun _ _ => rfl⟩
  rw [if_pos g]
  obtain ⟨k1, k2, k3, k4, k5⟩ := kb_facts (S := S)
  obtain ⟨q, S2, e2, rfl, hf, hN⟩ := Wm_ex (c_cutsAll (d := d - 1) (S := sRow S 44 0 0 282 (S 41 0 0)) (by omega) (by rw [k2]; exact hw))
  rw [k2] at e2 hN
  refine (B_230_12 (by omega) c_keepBefore e2).mpr ?_
  have hw2 : WF (S2 41 0 0) := by rw [hN]; exact WF_aCutsF _ _ _ hw
  have fin : ∀ {y x2 : Int32} {u3 : Option bV}, y = aIfW (S 41 0 0) x1 → Wp d 230 69 [some (vR 40 0 0), some (vI x1), some (vI x2), u3] [vI y] S2 (fun q S' => q = some (vI (aIfW (S 41 0 0) x1)) ∧ fM2 S S' ∧ S' 42 0 0 = S 42 0 0 ∧ S' 40 0 0 2 = S 40 0 0 2 ∧ ∀ m, m < 282 → S' 41 0 0 m = S 41 0 0 m) := by
    intro y x2 u3 hy
    refine (B_230_69 (by omega) c_goesBack).mpr ?_
    refine ⟨by rw [hy], fun k i j m hs => ?_, ?_, ?_, fun m hm => ?_⟩
    · have h41 : k ≠ 41 := by
        intro q
        subst q
        exact absurd hs (by simp [sc2, sc])
      rw [sRow_k _ _ h41]
      exact fM2_trans k1 (fM_2 hf) k i j m hs
    · funext m
      rw [sRow_k _ _ (by decide), hf _ _ _ _ rfl, k3]
    · rw [sRow_k _ _ (by decide), hf _ _ _ _ rfl, k4]
    · rw [sRow_in _ _ hm, hf _ _ _ _ rfl, k5 m hm]
  unfold aIfW at fin ⊢
  refine ic (fun q0 => ?_) (fun q0 => ?_)
  · refine (B_230_25).mpr ?_
    exact fin (by rw [if_pos q0])
  refine (B_230_29).mpr ?_
  refine ic (fun q1 => ?_) (fun q1 => ?_)
  · refine (B_230_34 (by omega) (c_metOrders (by omega) hw2)).mpr ?_
    exact fin (by rw [if_neg q0, if_pos q1, hN])
  refine (B_230_41).mpr ?_
  refine ic (fun q2 => ?_) (fun q2 => ?_)
  · refine (B_230_46 (by omega) (c_waste (by omega) hw2)).mpr ?_
    exact fin (by rw [if_neg q0, if_neg q1, if_pos q2, hN])
  refine (B_230_53).mpr ?_
  refine ic (fun q3 => ?_) (fun q3 => ?_)
  · refine (B_230_58 (by omega) (c_setups (by omega) hw2)).mpr ?_
    exact fin (by rw [if_neg q0, if_neg q1, if_neg q2, if_pos q3, hN])
  refine (B_230_65 (by omega) (c_areaLeft (by omega) hw2)).mpr ?_
  exact fin (by rw [if_neg q0, if_neg q1, if_neg q2, if_neg q3, hN])
theorem WtM_app {l : List Int32} {x : Int32} {T : bSt} (h : WtM l T) : WtM (l ++ [x]) (sUp (sUp T 50 0 0 l.length x) 40 0 0 21 (nI (l.length + 1))) := by
  refine ⟨by rw [sUp_same, List.length_append]; rfl, fun m hm => ?_⟩
  rw [sUp_kind (by decide)]
  rw [List.length_append] at hm
  rcases Nat.lt_or_ge m l.length with g | g
  · rw [sUp_slot (by omega), h.2 m g, List.getD_eq_getElem?_getD, List.getD_eq_getElem?_getD, List.getElem?_append_left g]
  · have : m = l.length := by simp at hm; omega
    subst this
    rw [sUp_same, List.getD_eq_getElem?_getD, List.getElem?_append_right (Nat.le_refl _), Nat.sub_self]
    rfl
theorem c_writes {l : List Int32} {n : Nat} (hn : n < 127) (hl : l.length < 40) (h : WtM l S) : Wm d 204 [vR 40 0 0, vI (nI n)] S (fun q S' => q = none ∧ fW S S' ∧ WtM (l ++ [nI n]) S') := by
  refine EW_204 ?_
  obtain ⟨e1, e2⟩ := ch_ok n hn
  refine (B_204_0 (n1_ := l.length) h.1 hl (by rw [e1]; exact e2)).mpr ?_
  rw [e1, sUp_kind (by decide), h.1, qI_succ]
  exact ⟨rfl, fW_up (fW_up (fun _ _ _ _ _ => rfl) rfl) rfl, WtM_app h⟩
theorem c_write (hd : 2 ≤ d) (hw : WF (S 41 0 0)) {x1 : Int32} {l0 : List Int32} (h0 : WtM l0 S) : Wm d 205 [vR 40 0 0, vI x1] S (fun q S' => q = some (vI (aWrtA (S 41 0 0) x1)) ∧ fW S S' ∧ WtM (aWrtL (S 41 0 0) x1 l0) S') := by
  refine EW_205 ?_
  refine (B_205_0 (by omega) (c_isRun (by omega))).mpr ?_
  unfold aWrtA aWrtL vU
  rw [inR_tf]
  refine icb (fun g => ?_) (fun g => ?_)
  · refine (B_205_8).mpr ?_
    rw [if_neg (by rw [g]; decide), if_neg (by rw [g]; decide)]
    exact ⟨rfl, fun _ _ _ _ _ => rfl, h0⟩
  obtain ⟨u, rfl, hu, h16⟩ := vU_ix hw.1 g
  rw [if_pos g, if_pos g, nI_clamp (by omega)]
  obtain ⟨-, -, -, -, -, -, -, -, -, hs, -⟩ := wf_run hw hu
  refine (B_205_10).mpr ?_
  refine wloopI 8 (fun m ls T => ls = [some (vR 40 0 0), some (vI (nI u)), some (vI (nI m))] ∧ fW S T ∧ WtM (wrL (S 41 0 0) u m) T) ?_ ?_ ⟨rfl, fW_up (fun _ _ _ _ _ => rfl) rfl, sUp_same, fun m hm => absurd hm (Nat.not_lt_zero _)⟩
  · rintro ls T ⟨rfl, hf, hT⟩
    refine (B_205_17).mpr ?_
    rw [if_pos (by decide)]
    refine (B_205_78).mpr ?_
    exact ⟨by rw [hT.1], hf, hT⟩
  · rintro m hm ls T ⟨rfl, hf, hT⟩ hn
    refine (B_205_17).mpr ?_
    rw [if_neg (by rw [show (8 : Int32) = nI 8 from rfl, qI_le (by omega) (by omega)]; omega)]
    have hst : ∀ T', fW S T' → Ret (d - 1) 144 [vR 40 0 0, vI (nI u), vI (nI m)] T' (some (vI (nI (nv (S 41 0 0) (94 + 12 * u + m))))) T' := by
      intro T' hf'
      have := c_strips (d := d - 1) (S := T') (x1 := nI u) (x2 := nI m) (n := 94 + 12 * u + m) (by omega) (by first | rfl | (simp only [qI_add, qI_mul, qI_lits]; done) | (simp only [qI_add, qI_mul, qI_lits]; grind)) (by omega)
      rw [hf' _ _ _ _ rfl, (hs m hm).1] at this
      exact this
    have h8 := (hs m hm).2.1
    refine (B_205_23 (by omega) (hst T hf)).mpr ?_
    have hlen := wrL_len (N := S 41 0 0) (u := u) m
    have hlen2 : (wrL (S 41 0 0) u m).length ≤ 28 := by
      rcases hlen with q | q
      · rw [q]; simp
      · omega
    refine ic (fun g1 => ?_) (fun g1 => ?_)
    · refine (B_205_72).mpr ?_
      rw [qI_succ]
      refine hn _ _ ⟨rfl, hf, ?_⟩
      unfold wrL
      rw [if_neg (by rw [(hs m hm).1]; exact Int32.not_lt.mpr g1)]
      exact hT
    have g1' := Int32.not_le.mp g1
    have tail : ∀ (T' : bSt) (l : List Int32), fW S T' → WtM l T' → l.length ≤ 29 → wrL (S 41 0 0) u (m + 1) = l ++ [nI (48 + nv (S 41 0 0) (94 + 12 * u + m))] ++ [nI 120] ++ [nI (48 + m)] → Wp d 205 45 [some (vR 40 0 0), some (vI (nI u)), some (vI (nI m))] [] T' (fun q S' => q = some (vI (nI (wrL (S 41 0 0) u 8).length)) ∧ fW S S' ∧ WtM (wrL (S 41 0 0) u 8) S') := by
      intro T' l hf' hl hll hres
      obtain ⟨q, T1, e1, rfl, f1, w1⟩ := Wm_ex (c_writes (d := d - 1) (n := 48 + nv (S 41 0 0) (94 + 12 * u + m)) (by omega) (by omega) hl)
      obtain ⟨q, T2, e2, rfl, f2, w2⟩ := Wm_ex (c_writes (d := d - 1) (n := 120) (by omega) (by simp; omega) w1)
      obtain ⟨q, T3, e3, rfl, f3, w3⟩ := Wm_ex (c_writes (d := d - 1) (n := 48 + m) (by omega) (by simp; omega) w2)
      refine (B_205_45 (by omega) (hst T' hf') (by rw [show (48 : Int32) = nI 48 from rfl, ← qI_add]; exact e1) e2 (by rw [show (48 : Int32) = nI 48 from rfl, ← qI_add]; exact e3)).mpr ?_
      refine (B_205_72).mpr ?_
      rw [qI_succ]
      refine hn _ _ ⟨rfl, fW_trans (fW_trans (fW_trans hf' f1) f2) f3, ?_⟩
      rw [hres]
      exact w3
    have hres : wrL (S 41 0 0) u (m + 1) = wrL (S 41 0 0) u m ++ (if wrL (S 41 0 0) u m = [] then [] else [43]) ++ [nI (48 + nv (S 41 0 0) (94 + 12 * u + m)), nI 120, nI (48 + m)] := by
      rw [wrL, if_pos (by rw [(hs m hm).1]; exact g1'), (hs m hm).1, qI_add, qI_add]
      rfl
    refine (B_205_32).mpr ?_
    rw [hT.1]
    refine icT (qI_le (b := 0) (by omega) (by omega)) (fun g2 => ?_) (fun g2 => ?_)
    · have hnil : wrL (S 41 0 0) u m = [] := List.length_eq_zero_iff.mp (by omega)
      refine tail T _ hf hT (by omega) ?_
      rw [hres, if_pos hnil, hnil]
      rfl
    obtain ⟨q, T1, e1, rfl, f1, w1⟩ := Wm_ex (c_writes (d := d - 1) (n := 43) (by omega) (by omega) hT)
    refine (B_205_39 (by omega) e1).mpr ?_
    refine tail T1 _ (fW_trans hf f1) w1 (by simp; omega) ?_
    rw [hres, if_neg (fun q => g2 (by rw [q]; exact Nat.le_refl _))]
    simp
    rfl
theorem c_written (hd : 1 ≤ d) {x1 : Int32} {l : List Int32} (h : WtM l S) (hl : l.length < 40) : Ret d 206 [vR 40 0 0, vI x1] S (some (vI (aWrn l x1))) S := by
  refine E_206 ?_
  refine (B_206_0 (by omega) c_isIn).mpr ?_
  unfold aWrn
  rw [inR_tf, h.1]
  refine icb (fun g => ?_) (fun g => ?_)
  · refine (B_206_23).mpr ?_
    refine (B_206_24).mpr ?_
    rw [if_neg (by rw [g]; decide)]
    exact ⟨rfl, rfl⟩
  rw [if_pos g]
  obtain ⟨n, rfl, hn⟩ := ix_of (by omega) g
  refine (B_206_14 (n1_ := n) rfl (by omega)).mpr ?_
  refine (B_206_24).mpr ?_
  rw [h.2 n hn, nI_clamp (by omega)]
  exact ⟨rfl, rfl⟩
def aRsn (S : bSt) (x : Int32) : Int32 := if inR x 0 1 = true then (if x = 0 then S 40 0 0 8 else S 40 0 0 9) else -2
theorem c_reason (hd : 1 ≤ d) {x1 : Int32} : Ret d 247 [vR 40 0 0, vI x1] S (some (vI (aRsn S x1))) S := by
  refine E_247 ?_
  refine (B_247_0 (by omega) c_isIn).mpr ?_
  unfold aRsn
  rw [inR_tf]
  refine icb (fun g => ?_) (fun g => ?_)
  · refine (B_247_9).mpr ?_
    rw [if_neg (by rw [g]; decide)]
    exact ⟨rfl, rfl⟩
  rw [if_pos g]
  refine (B_247_12).mpr ?_
  refine ic (fun q0 => ?_) (fun q0 => ?_)
  · refine (B_247_16).mpr ?_
    refine (B_247_27).mpr ?_
    exact ⟨by simp [g, q0], rfl⟩
  refine (B_247_23).mpr ?_
  refine (B_247_27).mpr ?_
  exact ⟨by simp [g, q0], rfl⟩
def aCnt (S : bSt) (x : Int32) : Int32 := if x = 0 then S 40 0 0 2 else if x = 1 then S 40 0 0 7 else if x = 2 then S 41 0 0 0 else if x = 3 then S 41 0 0 1 else if x = 4 then S 41 0 0 2 else -2
theorem c_count {x1 : Int32} : Ret d 251 [vR 40 0 0, vI x1] S (some (vI (aCnt S x1))) S := by
  refine E_251 ?_
  refine (B_251_0).mpr ?_
  rw [X_251_1]
  unfold aCnt
  refine ic (fun q0 => ?_) (fun q0 => ?_)
  · refine (B_251_36).mpr ?_
    exact ⟨by simp [q0], rfl⟩
  rw [if_neg q0]
  refine ic (fun q1 => ?_) (fun q1 => ?_)
  · refine (B_251_41).mpr ?_
    exact ⟨by simp [q0, q1], rfl⟩
  rw [if_neg q1]
  refine ic (fun q2 => ?_) (fun q2 => ?_)
  · refine (B_251_46).mpr ?_
    exact ⟨by simp [q0, q1, q2], rfl⟩
  rw [if_neg q2]
  refine ic (fun q3 => ?_) (fun q3 => ?_)
  · refine (B_251_53).mpr ?_
    exact ⟨by simp [q0, q1, q2, q3], rfl⟩
  rw [if_neg q3]
  refine ic (fun q4 => ?_) (fun q4 => ?_)
  · refine (B_251_60).mpr ?_
    exact ⟨by simp [q0, q1, q2, q3, q4], rfl⟩
  rw [if_neg q4]
  refine (B_251_67).mpr ?_
  exact ⟨rfl, rfl⟩
/-- the row as far as n from another one -/
theorem c_undo0 (h : S 40 0 0 2 = 0) : Ret d 248 [vR 40 0 0] S (some (vI (-5))) S := by
  refine E_248 ?_
  refine (B_248_0).mpr ?_
  rw [if_pos (h)]
  refine (B_248_7).mpr ?_
  exact ⟨rfl, rfl⟩
theorem c_undo1 {c : Nat} (hc : c < 8) (h : S 40 0 0 2 = nI (c + 1)) : Ret d 248 [vR 40 0 0] S (some (vI (nI c))) (sRow (sUp S 40 0 0 2 (nI c)) 41 0 0 282 (fun m => S 42 0 0 (282 * c + m))) := by
  refine E_248 ?_
  refine (B_248_0).mpr ?_
  rw [if_neg (by rw [h, show (0 : Int32) = nI 0 from rfl, qI_eq (by omega) (by omega)]; omega)]
  refine (B_248_10).mpr ?_
  rw [h, show nI (c + 1) - 1 = nI c from qI_sub (b := 1) (by omega)]
  generalize hT : sUp S 40 0 0 2 (nI c) = T
  have t2 : T 40 0 0 2 = nI c := by rw [← hT, sUp_same]
  have t42 : ∀ m, T 42 0 0 m = S 42 0 0 m := fun m => by rw [← hT, sUp_kind (by decide)]
  have h0 := sRow_0 T 41 0 0 (fun m => S 42 0 0 (282 * c + m))
  have start : Wp d 248 22 [some (vR 40 0 0), some (vI (nI 0))] [] (sRow T 41 0 0 0 (fun m => S 42 0 0 (282 * c + m))) (fun r1 S1 => r1 = some (vI (nI c)) ∧ S1 = sRow T 41 0 0 282 (fun m => S 42 0 0 (282 * c + m))) := by
    refine wloop 282 (fun m => [some (vR 40 0 0), some (vI (nI m))]) (fun n => sRow T 41 0 0 n (fun m => S 42 0 0 (282 * c + m))) ?_ ?_
    · refine (B_248_22).mpr ?_
      rw [if_pos (by decide)]
      refine (B_248_56).mpr ?_
      rw [sRow_k _ _ (by decide), t2]
      exact ⟨rfl, rfl⟩
    · intro m hm hn
      refine (B_248_22).mpr ?_
      rw [if_neg (by rw [show (282 : Int32) = nI 282 from rfl, qI_le (by omega) (by omega)]; omega)]
      refine (B_248_29 (n1_ := 282 * c + m) (n2_ := m) (by rw [sRow_k _ _ (by decide), t2]; exact (by first | rfl | (simp only [qI_add, qI_mul, qI_lits]; done) | (simp only [qI_add, qI_mul, qI_lits]; grind))) (by omega) rfl hm).mpr ?_
      rw [qI_succ, sRow_succ _ _ _ _ _ _ (by rw [sRow_k _ _ (by decide), t42])]
      exact hn
  rw [h0] at start
  exact start
theorem c_save : Ret d 249 [vR 40 0 0] S (some (vI (S 41 0 0 5))) (sRow (sUp S 40 0 0 4 1) 43 0 0 282 (S 41 0 0)) := by
  refine E_249 ?_
  refine (B_249_0).mpr ?_
  generalize hT : sUp S 40 0 0 4 1 = T
  have t41 : ∀ m, T 41 0 0 m = S 41 0 0 m := fun m => by rw [← hT, sUp_kind (by decide)]
  have h0 := sRow_0 T 43 0 0 (S 41 0 0)
  have start : Wp d 249 7 [some (vR 40 0 0), some (vI (nI 0))] [] (sRow T 43 0 0 0 (S 41 0 0)) (fun r1 S1 => r1 = some (vI (S 41 0 0 5)) ∧ S1 = sRow T 43 0 0 282 (S 41 0 0)) := by
    refine wloop 282 (fun m => [some (vR 40 0 0), some (vI (nI m))]) (fun n => sRow T 43 0 0 n (S 41 0 0)) ?_ ?_
    · refine (B_249_7).mpr ?_
      rw [if_pos (by decide)]
      refine (B_249_32).mpr ?_
      rw [sRow_k _ _ (by decide), t41]
      exact ⟨rfl, rfl⟩
    · intro m hm hn
      refine (B_249_7).mpr ?_
      rw [if_neg (by rw [show (282 : Int32) = nI 282 from rfl, qI_le (by omega) (by omega)]; omega)]
      refine (B_249_14 (n1_ := m) (n2_ := m) rfl hm rfl hm).mpr ?_
      rw [qI_succ, sRow_succ _ _ _ _ _ _ (by rw [sRow_k _ _ (by decide), t41])]
      exact hn
  rw [h0] at start
  exact start
theorem c_restore0 (h : S 40 0 0 4 = 0) : Ret d 250 [vR 40 0 0] S (some (vI (-5))) S := by
  refine E_250 ?_
  refine (B_250_0).mpr ?_
  rw [if_pos (h)]
  refine (B_250_7).mpr ?_
  exact ⟨rfl, rfl⟩
theorem c_restore1 (h : S 40 0 0 4 ≠ 0) : Ret d 250 [vR 40 0 0] S (some (vI (S 43 0 0 5))) (sUp (sRow S 41 0 0 282 (S 43 0 0)) 40 0 0 2 0) := by
  refine E_250 ?_
  refine (B_250_0).mpr ?_
  rw [if_neg (h)]
  refine (B_250_10).mpr ?_
  have h0 := sRow_0 S 41 0 0 (S 43 0 0)
  have start : Wp d 250 12 [some (vR 40 0 0), some (vI (nI 0))] [] (sRow S 41 0 0 0 (S 43 0 0)) (fun r1 S1 => r1 = some (vI (S 43 0 0 5)) ∧ S1 = sUp (sRow S 41 0 0 282 (S 43 0 0)) 40 0 0 2 0) := by
    refine wloop 282 (fun m => [some (vR 40 0 0), some (vI (nI m))]) (fun n => sRow S 41 0 0 n (S 43 0 0)) ?_ ?_
    · refine (B_250_12).mpr ?_
      rw [if_pos (by decide)]
      refine (B_250_37).mpr ?_
      rw [sUp_kind (by decide), sRow_in _ _ (by decide)]
      exact ⟨rfl, rfl⟩
    · intro m hm hn
      refine (B_250_12).mpr ?_
      rw [if_neg (by rw [show (282 : Int32) = nI 282 from rfl, qI_le (by omega) (by omega)]; omega)]
      refine (B_250_19 (n1_ := m) (n2_ := m) rfl hm rfl hm).mpr ?_
      rw [qI_succ, sRow_succ _ _ _ _ _ _ (by rw [sRow_k _ _ (by decide)])]
      exact hn
  rw [h0] at start
  exact start
end M15f
