/-! THE CONSTRUCTORS: the machine is sound; the first settings are copied -/
section K22e
variable {p : Program} {l : Launch} {e : Env} {R : Room} {s : State} {m : MethodId} {args : Array Value} {below : List Frame} {meth : Method} {c : Code} {H : Heap} {locs : List Loc} {cells slots : Nat} {Z : State → Prop}
variable {D : va_G} {cy : Nat → ClassId} {A0 : Nat → Prop} {H0 : Heap} {k pc b bx e0 s0 : Nat} {ls : List (Option kV)} {lsR : Array Slot} {st : List kV} {es : List kE}
theorem kClone {cc : ByteArray} (hexec : p.tables.exec = Jvm.exec) (hb : c.code = cc) {lsR : Array Slot} (hml : c.maxLocals = lsR.size) {own : String} {index a : Nat} {rest : List Value} (hown : s.vm.findClass own = some m.cls)
    (hlink : (Cond.methodLink own index ⟨"[I", "clone", "()Ljava/lang/Object;"⟩).before args s = true) (hsame : (Cond.sameMethod "[I" "java/lang/Object" "clone" "()Ljava/lang/Object;").before args s = true)
    (hnat : (Cond.native ⟨"java/lang/Object", "clone", "()Ljava/lang/Object;"⟩).before args s = true) (hinst : (Cond.instanceMethod ⟨"java/lang/Object", "clone", "()Ljava/lang/Object;"⟩).before args s = true)
    (hsel : (Cond.selects "[I" ⟨"[I", "clone", "()Ljava/lang/Object;"⟩ ⟨"java/lang/Object", "clone", "()Ljava/lang/Object;"⟩).before args s = true) (hcl : va_Nw (.castable "[I" "java/lang/Cloneable") s)
    (hA : ArrOfT s (cy 0) .int) (hnm : s.vm.findClass "[I" = some (cy 0)) {N : Nat} {f : Nat → Int32} {cell : Cell} (ha : H[a]? = some cell) (hv1 : ∀ q, cell.vm ≠ .statics q) (hv2 : cell.vm ≠ .unknown) (hv3 : cell.cls = cy 0) (hv4 : cell.slots = (vp_cell (cy 0) (N, .inl f)).slots)
    (hframes : 1 ≤ R.frames) (hlocals : (rest.map fun v => v.category).sum + 14 ≤ R.locals) (hcells : cells + 1 ≤ R.cells) (hslots : slots + N ≤ R.slots) (hdg : decode cc pc = .ok (.invokevirtual index, 3))
    (kk : ∀ H1 : Heap, H1.size = H.size + 1 → H1[H.size]? = some (vp_cell (cy 0) (N, .inl f)) → (∀ q, q < H.size → H1[q]? = H[q]?) → W p l e R s m args below meth c H1 locs (cells + 1) (slots + N) Z (F0 m (pc + 3) lsR (.ref H.size :: rest))) : W p l e R s m args below meth c H locs cells slots Z (F0 m pc lsR (.ref a :: rest)) := by
  have hsz : cell.slots.size = N := by rw [hv4]; exact arrV_size _ _ _
  have hcellE : ({ cls := cell.cls, slots := cell.slots } : Cell) = vp_cell (cy 0) (N, .inl f) := by rw [hv3, hv4]; rfl
  obtain ⟨c0, t0', f1, f2, f3⟩ := Cond.castable_spec (va_Nw.use (A := args) rfl hcl)
  cases hnm.symm.trans f1
  intro T hT X
  have hcellT : T.heap[a]? = some cell := by rw [hT]; exact ha
  obtain ⟨-, kA, hkA, comp, hkind⟩ := State.isArrayOf_alike X.warmed.alike (hA 0 (fun _ => .null))
  obtain ⟨-, kS, hkS, compS, hkindS⟩ := hA 0 (fun _ => .null)
  obtain ⟨vm', X', st⟩ := X.cloneArray hexec hown hlink hsame hnat hinst hsel (a := a) (cell := cell) hcellT hv1 hv2 (by rw [hv3]; exact hnm) f2 (by rw [hv3]; exact f3)
    (fun i v hv => by
      rw [hv3]
      have hk' : T.vm.classes[cy 0]? = some kA := hkA
      have hv' : ∃ x, v = .int x := by
        have hi : i < N := by
          have := (Array.getElem?_eq_some_iff.mp hv).1
          rw [hsz] at this
          exact this
        have h2 : (arrV (cy 0) N fun j => .int (f j)).slots[i]? = some (.int (f i)) := arrV_read _ _ hi
        have h3 : cell.slots[i]? = some (.int (f i)) := by rw [hv4]; exact h2
        exact ⟨f i, Option.some.inj (hv.symm.trans h3)⟩
      obtain ⟨x, rfl⟩ := hv'
      simp [State.fitsSlot, State.slotType?, hk', hkind, fits])
    (g := F0 m pc lsR (.ref a :: rest)) rfl (by rw [hml]) rfl (by rw [hb]; exact hdg) hframes (by show 2 * 0 + _ + 14 ≤ _; omega) hcells (by rw [hsz]; exact hslots) (hloader := by rw [hv3]; exact Vm.clonesLoader_of_array hkS hkindS)
  rw [hcellE, hsz] at X'
  obtain ⟨t, b1, b2⟩ := kk (H.push (vp_cell (cy 0) (N, .inl f))) (by rw [Array.size_push]) (by rw [Array.getElem?_push_size]) (fun q hq => by rw [Array.getElem?_push, if_neg (Nat.ne_of_lt hq)]) ((T.setVm vm').pushCell (vp_cell (cy 0) (N, .inl f))) (by rw [← hT]; rfl) X'
  refine ⟨t, st t ?_, b2⟩
  rw [hcellE, hT]
  exact b1
theorem kK12 : (bCe 12).1 = 3 ∧ decode (bCe 12).2.2.1 5 = .ok (.getstatic 9, 3) ∧ decode (bCe 12).2.2.1 8 = .ok (.invokevirtual 13, 3) ∧ decode (bCe 12).2.2.1 11 = .ok (.checkcast 14, 3) := by decide +kernel
theorem ks_first (C : kCx p R s m args meth c D cy b A0 12) (hF : kFS cy A0 s H0) (hst : st.length ≤ 8) (he : e0 ≤ es.length) (hs : s0 ≤ kSm es) (hrc : es.length - e0 + 1 ≤ R.cells) (hrs : kSm es - s0 + 3 ≤ R.slots) (kk : kGW p l e R s m args below meth c Z D cy b bx e0 s0 A0 H0 (14, ls, kR es.length :: st, es ++ [.inr (0, 3, .inl [6, 3, 20])])) : kGW p l e R s m args below meth c Z D cy b bx e0 s0 A0 H0 (5, ls, st, es) := by
  intro H locs lsR hL hH hS
  obtain ⟨hx, hb, hml, hown, hts, hK, hA, hin, hR1, hR2⟩ := C
  obtain ⟨k1, k2, k3, k4⟩ := kK12
  rw [k1] at hown
  have hz : H.size = b + es.length := hH.1
  obtain ⟨a, hZ, g2, g3, cl0, g4, g5, g6, g7, g8⟩ := hF.next (B := A0) hS.1 hS.2.1 (fun _ h => h)
  obtain ⟨cf, kf, fi, f, a2, cell, h1, h2, h3, h4, h5, h6, h7, h8⟩ := hZ
  have hnm : s.vm.findClass "[I" = some (cy 0) := (hK.1.2 0 _ rfl).2
  have hsz : c.maxLocals = lsR.size := by
    obtain ⟨-, lv, h, -⟩ := hL
    exact h.1.symm
  refine va_WgetsN (own := "PaperCutter$Plan") (ref := "PaperCutter") (name := "FIRST_SETTING") (desc := "[I") (host := "PaperCutter") (index := 9) hx hb hown (va_Nw.use rfl (hK.2.1 _ (List.mem_of_getElem? (i := 32) (by decide +kernel)) rfl)) h1 h2 h3 h4 h5 (fun e => by rw [e] at h6; cases h6) h7 rfl k2 ?_
  refine kClone (pc := 8) hx hb hsz hown (hts _ (bGW_in (by decide +kernel) rfl)) (hts _ (bGW_in (by decide +kernel) rfl)) (hts _ (bGW_in (by decide +kernel) rfl)) (hts _ (bGW_in (by decide +kernel) rfl)) (hts _ (bGW_in (by decide +kernel) rfl)) hK.2.2.2.2 (hK.1.2 0 _ rfl).1 hnm g4 g5 g6 g7 g8 hR1 (by show ((st.map (kVal b bx)).map fun v => v.category).sum + 14 ≤ R.locals; rw [kVal_sum]; omega) hrc hrs k3 (fun H1 z1 e1 o1 => ?_)
  have hP1 : va_P D vwCl [(H.size, .inl (cy 0, 3, .inl fun m => ([6, 3, 20] : List Int32).getD m 0))] H1 := bP1 e1
  refine va_castA (pc := 11) hx hb hown (hts _ (bGW_in (by decide +kernel) rfl)) hP1 0 rfl hnm k4 ?_
  have hy : va_at D vwCl (b + es.length, kEv cy b bx (.inr (0, 3, .inl [6, 3, 20]))) H1 := by
    rw [← hz]
    exact e1
  have := kk_app kk he hs H1 locs lsR hL (kHR_app hH z1 o1 hy) (kGrow hS (by omega) o1)
  rw [hz]
  exact this
end K22e
