/-! THE CONSTRUCTORS: the machine is sound; what is made -/
section K22c
variable {p : Program} {l : Launch} {e : Env} {R : Room} {s : State} {m : MethodId} {args : Array Value} {below : List Frame} {meth : Method} {c : Code} {H : Heap} {locs : List Loc} {cells slots : Nat} {Z : State → Prop}
variable {D : va_G} {cy : Nat → ClassId} {A0 : Nat → Prop} {H0 : Heap} {k pc b bx e0 s0 : Nat} {ls : List (Option kV)} {lsR : Array Slot} {st : List kV} {es : List kE}
theorem kGrow {A : Nat → Prop} {H0 H H1 : Heap} {locs : List Loc} (hS : va_S A H0 H locs) (hz : H.size ≤ H1.size) (hq : ∀ q, q < H.size → H1[q]? = H[q]?) : va_S A H0 H1 locs :=
  ⟨Nat.le_trans hS.1 hz, fun q h1 h2 => (hq q (Nat.lt_of_lt_of_le h1 hS.1)).trans (hS.2.1 q h1 h2), hS.2.2⟩
theorem kk_app {y : kE} (kk : kGW p l e R s m args below meth c Z D cy b bx e0 s0 A0 H0 (pc, ls, st, es ++ [y])) (he : e0 ≤ es.length) (hs : s0 ≤ kSm es) (H1 : Heap) (locs1 : List Loc) (lsR : Array Slot) (hL : kLR b bx ls lsR c.maxLocals) (hH : kHR D cy b bx (es ++ [y]) H1) (hS : va_S A0 H0 H1 locs1) : W p l e R s m args below meth c H1 locs1 (es.length - e0 + 1) (kSm es - s0 + keN y) Z (F0 m pc lsR (st.map (kVal b bx))) := by
  have this := kk H1 locs1 lsR hL hH hS
  dsimp only at this
  rw [kSm_app, List.length_append, show ([y] : List kE).length = 1 from rfl, show es.length + 1 - e0 = es.length - e0 + 1 by omega, show kSm es + keN y - s0 = kSm es - s0 + keN y by omega] at this
  exact this
/-- the words of the makings -/
theorem kNw_ok {own idx ci : Nat} (h : kNw own idx = some ci) : ci < 10 ∧ Cond.classLink (bRN own) idx (bRN ci) ∈ tables_1 ∧ Cond.instantiable (bRN ci) (bNF ci) ∈ tables_1 ∧ Cond.initialized (bRN ci) ∈ tables_1 := by
  unfold kNw at h
  split at h <;> first | (cases h; done) | (cases h; exact ⟨by decide, by decide +kernel, by decide +kernel, by decide +kernel⟩)
theorem kDf_ok : ∀ ci, ci < 10 → ∀ f, f < bNF ci → defaultValue (btyX ci f) = (if (bTX ci f).2.2.1 = "I" ∨ (bTX ci f).2.2.1 = "Z" then Value.int 0 else Value.null) := by decide +kernel
theorem kDf_val {ci : Nat} (h : ci < 10) : ∀ j, j < bNF ci → defaultValue (btyX ci j) = vp_V ((kDf ci).map (kVal b bx)) j := by
  intro j hj
  rw [kDf_ok ci h j hj]
  have : ((kDf ci).map (kVal b bx))[j]? = some (if (bTX ci j).2.2.1 = "I" ∨ (bTX ci j).2.2.1 = "Z" then Value.int 0 else Value.null) := by
    unfold kDf
    rw [List.map_map, List.getElem?_map, List.getElem?_range hj]
    show some _ = some _
    congr 1
    by_cases g : (bTX ci j).2.2.1 = "I" ∨ (bTX ci j).2.2.1 = "Z"
    · rw [if_pos g]
      show kVal b bx (if _ then _ else _) = _
      rw [if_pos g]
      rfl
    · rw [if_neg g]
      show kVal b bx (if _ then _ else _) = _
      rw [if_neg g]
      rfl
  unfold vp_V
  rw [List.getD, this]
  rfl
theorem kDf_len {ci : Nat} : (kDf ci).length = bNF ci := by
  unfold kDf
  rw [List.length_map, List.length_range]
theorem ks_new (C : kCx p R s m args meth c D cy b A0 k) {idx ci : Nat} (hdg : decode (bCe k).2.2.1 pc = .ok (.new idx, 3)) (hw : kNw (bCe k).1 idx = some ci) (he : e0 ≤ es.length) (hs : s0 ≤ kSm es) (hrc : es.length - e0 + 1 ≤ R.cells) (hrs : kSm es - s0 + bNF ci ≤ R.slots) (kk : kGW p l e R s m args below meth c Z D cy b bx e0 s0 A0 H0 (pc + 3, ls, kR es.length :: st, es ++ [.inl (ci, kDf ci)])) : kGW p l e R s m args below meth c Z D cy b bx e0 s0 A0 H0 (pc, ls, st, es) := by
  intro H locs lsR hL hH hS
  obtain ⟨hx, hb, -, hown, hts, hK, hA, hin, -⟩ := C
  obtain ⟨h2, w1, w2, w3⟩ := kNw_ok hw
  have hKn := hK.1.1 ci _ (bcl ci h2)
  refine W.newcK hx hb hown (hts _ (bGW_in w1 rfl)) (hts _ (bGW_in w2 rfl)) (hts _ (bGW_in w3 rfl)) rfl hdg hrc hrs hKn.2.1 rfl fun H1 kC hkC e1 z1 o1 => ?_
  have hz : H.size = b + es.length := hH.1
  have hy : va_at D vwCl (b + es.length, kEv cy b bx (.inl (ci, kDf ci))) H1 := by
    rw [← hz]
    exact ⟨_, bcl ci h2, (u_born (btyX ci) hts (bcw ci h2) hKn hkC e1 (btyX_ok ci h2)).to (kDf_val h2)⟩
  have := kk_app kk he hs H1 locs lsR hL (kHR_app hH z1 o1 hy) (kGrow hS (by omega) o1)
  rw [show keN (.inl (ci, kDf ci)) = bNF ci from kDf_len] at this
  rw [hz]
  exact this
theorem ks_newa (C : kCx p R s m args meth c D cy b A0 k) {ty : ArrayType} {t : Nat} {n : Int32} (hdg : decode (bCe k).2.2.1 pc = .ok (.newarray ty, 2)) (hw : kAt ty = some t) (h0 : 0 ≤ n) (h9 : n ≤ 4096) (he : e0 ≤ es.length) (hs : s0 ≤ kSm es) (hrc : es.length - e0 + 1 ≤ R.cells) (hrs : kSm es - s0 + n.toNatClampNeg ≤ R.slots) (kk : kGW p l e R s m args below meth c Z D cy b bx e0 s0 A0 H0 (pc + 2, ls, kR es.length :: st, es ++ [.inr (t, n.toNatClampNeg, .inl [])])) : kGW p l e R s m args below meth c Z D cy b bx e0 s0 A0 H0 (pc, ls, kI n :: st, es) := by
  intro H locs lsR hL hH hS
  obtain ⟨hx, hb, -, hown, hts, hK, hA, hin, -⟩ := C
  have hn0 : ¬ n < 0 := Int32.not_lt.mpr h0
  have hn9 : n.toNatClampNeg ≤ 4096 := by
    have := Int32.le_iff_toInt_le.mp h9
    have e9 : (4096 : Int32).toInt = 4096 := by decide
    show n.toInt.toNat ≤ 4096
    omega
  have hz : H.size = b + es.length := hH.1
  obtain ⟨w1, w2, w3, w4⟩ : Cond.arrayClass (newarray.typeOf ty) ∈ tables_1 ∧ (bTys cy)[t]? = some (cy t, newarray.typeOf ty) ∧ defaultValue (newarray.typeOf ty) = .int 0 ∧ n.toNatClampNeg * componentBytes (newarray.typeOf ty) ≤ 536870912 := by
    unfold kAt at hw
    split at hw <;> first | (cases hw; done) | (cases hw; refine ⟨by decide +kernel, rfl, rfl, ?_⟩; show _ * _ ≤ _; first | (show n.toNatClampNeg * 4 ≤ _; omega) | (show n.toNatClampNeg * 2 ≤ _; omega) | (show n.toNatClampNeg * 1 ≤ _; omega))
  refine va_newaK hx hb (hts _ (bGW_in w1 rfl)) rfl hdg rfl hn0 rfl w4 hrc hrs hz fun H1 cA e1 z1 o1 hAr hNm => ?_
  have hcA : cA = cy t := by
    have h := (hK.1.2 t _ w2).2
    have h' : s.vm.findClass ("[" ++ (newarray.typeOf ty).toString) = some (cy t) := by
      unfold kAt at hw
      split at hw <;> first | (cases hw; done) | exact h
    exact Option.some.inj (hNm.symm.trans h')
  subst hcA
  have hy : va_at D vwCl (b + es.length, kEv cy b bx (.inr (t, n.toNatClampNeg, .inl []))) H1 := by
    show H1[_]? = some (vp_cell _ _)
    rw [e1, vp_cell_i, w3]
    rfl
  have := kk_app kk he hs H1 locs lsR hL (kHR_app hH (by rw [z1, hz]) (fun q hq => o1 q (by rw [← hz]; exact hq)) hy) (kGrow hS (by omega) (fun q hq => o1 q (by rw [← hz]; exact hq)))
  exact this
theorem kAw_ok {own idx t : Nat} (h : kAw own idx = some t) : ∃ C : String, Cond.classLink (bRN own) idx C ∈ tables_1 ∧ (∀ cy : Nat → ClassId, (bTys cy)[t]? = some (cy t, .object C)) ∧ (C = "PaperCutter$Order" ∨ C = "PaperCutter$Roll" ∨ C = "PaperCutter$Run" ∨ C = "PaperCutter$Plan" ∨ C = "PaperCutter$Command") := by
  unfold kAw at h
  split at h <;> first | (cases h; done) | (cases h; first | exact ⟨"PaperCutter$Run", by decide +kernel, fun _ => rfl, by decide⟩ | exact ⟨"PaperCutter$Order", by decide +kernel, fun _ => rfl, by decide⟩ | exact ⟨"PaperCutter$Roll", by decide +kernel, fun _ => rfl, by decide⟩ | exact ⟨"PaperCutter$Command", by decide +kernel, fun _ => rfl, by decide⟩ | exact ⟨"PaperCutter$Plan", by decide +kernel, fun _ => rfl, by decide⟩)
theorem ks_anew (C : kCx p R s m args meth c D cy b A0 k) {idx t : Nat} {n : Int32} (hdg : decode (bCe k).2.2.1 pc = .ok (.anewarray idx, 3)) (hw : kAw (bCe k).1 idx = some t) (h0 : 0 ≤ n) (h9 : n ≤ 4096) (he : e0 ≤ es.length) (hs : s0 ≤ kSm es) (hrc : es.length - e0 + 1 ≤ R.cells) (hrs : kSm es - s0 + n.toNatClampNeg ≤ R.slots) (kk : kGW p l e R s m args below meth c Z D cy b bx e0 s0 A0 H0 (pc + 3, ls, kR es.length :: st, es ++ [.inr (t, n.toNatClampNeg, .inr [])])) : kGW p l e R s m args below meth c Z D cy b bx e0 s0 A0 H0 (pc, ls, kI n :: st, es) := by
  intro H locs lsR hL hH hS
  obtain ⟨hx, hb, -, hown, hts, hK, hA, hin, -⟩ := C
  have hn0 : ¬ n < 0 := Int32.not_lt.mpr h0
  have hn9 : n.toNatClampNeg ≤ 4096 := by
    have := Int32.le_iff_toInt_le.mp h9
    have e9 : (4096 : Int32).toInt = 4096 := by decide
    show n.toInt.toNat ≤ 4096
    omega
  have hz : H.size = b + es.length := hH.1
  obtain ⟨C, w1, w2, w3⟩ := kAw_ok hw
  have hao : va_AO C s := by
    obtain ⟨a1, a2, a3, a4, a5⟩ := hK.2.2.1
    rcases w3 with rfl | rfl | rfl | rfl | rfl <;> assumption
  refine W.anew hx hb hown (hts _ (bGW_in w1 rfl)) (va_AO.use hao) rfl hdg rfl hn0 (by omega) hrc hrs fun cA kA comp f1 f2 f3 f4 => ?_
  generalize hH1 : H.push ({ cls := cA, slots := Array.replicate n.toNatClampNeg .null, vm := .none } : Cell) = H1
  have z1 : H1.size = H.size + 1 := by rw [← hH1, Array.size_push]
  have e1 : H1[H.size]? = some (arrV cA n.toNatClampNeg (fun _ => .null)) := by rw [← hH1, Array.getElem?_push_size, ← arrV_new]
  have o1 : ∀ q : Nat, q < H.size → H1[q]? = H[q]? := fun q hq => by rw [← hH1, Array.getElem?_push, if_neg (Nat.ne_of_lt hq)]
  have hcA : cA = cy t := by
    obtain ⟨kA', comp', -, -, -, g4⟩ := (hK.1.2 t _ (w2 cy)).2
    exact Option.some.inj (f1.symm.trans g4)
  subst hcA
  have hy : va_at D vwCl (b + es.length, kEv cy b bx (.inr (t, n.toNatClampNeg, .inr []))) H1 := by
    show H1[_]? = some (vp_cell _ _)
    rw [← hz, e1, vp_cell_q]
    rfl
  have := kk_app kk he hs H1 locs lsR hL (kHR_app hH z1 o1 hy) (kGrow hS (by omega) o1)
  rw [hz]
  exact this
theorem kVal_sum : ∀ q : List kV, ((q.map (kVal b bx)).map fun v => v.category).sum = q.length := by
  intro q
  induction q with
  | nil => rfl
  | cons a q ih =>
    simp only [List.map_cons, List.sum_cons, kVal_cat, List.length_cons]
    rw [ih]
    omega
theorem kOi_ok {own idx : Nat} (h : kOi own idx = true) : Cond.methodLink (bRN own) idx Lib.objectInit ∈ tables_1 ∧ own ≠ 16 := by
  unfold kOi at h
  split at h <;> first | (cases h; done) | exact ⟨by decide +kernel, by decide⟩
theorem kOi_w : Cond.instanceMethod Lib.objectInit ∈ tables_1 ∧ Cond.code Lib.objectInit ⟨#[0xb1]⟩ 1 none ∈ tables_1 := by
  constructor
  · decide +kernel
  · decide +kernel
theorem ks_oinit (C : kCx p R s m args meth c D cy b A0 k) {idx r : Nat} (hdg : decode (bCe k).2.2.1 pc = .ok (.invokespecial idx, 3)) (hw : kOi (bCe k).1 idx = true) (hst : st.length ≤ 8) (kk : kGW p l e R s m args below meth c Z D cy b bx e0 s0 A0 H0 (pc + 3, ls, st, es)) : kGW p l e R s m args below meth c Z D cy b bx e0 s0 A0 H0 (pc, ls, kR r :: st, es) := by
  intro H locs lsR hL hH hS
  obtain ⟨hx, hb, hml, hown, hts, hK, hA, hin, hR1, hR2⟩ := C
  obtain ⟨w1, -⟩ := kOi_ok hw
  have hsz : lsR.size = c.maxLocals := by
    obtain ⟨-, lv, h, -⟩ := hL
    exact h.1
  exact W.objInit hx hb hown (hts _ (bGW_in w1 rfl)) (hts _ (bGW_in kOi_w.1 rfl)) (hts _ (bGW_in kOi_w.2 rfl)) rfl hsz rfl hdg hR1 (by show 2 * 0 + ((st.map (kVal b bx)).map fun v => v.category).sum + 12 ≤ R.locals; rw [kVal_sum]; omega) (kk H locs lsR hL hH hS)
end K22c
