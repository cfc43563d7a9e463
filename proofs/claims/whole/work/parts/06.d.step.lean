section BSTQ
variable {p : Program} {l : Launch} {e : Env} {R : Room} {s : State} {m : MethodId} {args : Array Value} {below : List Frame} {meth : Method} {c : Code} {H : Heap} {locs : List Loc} {cells slots : Nat} {Z : State → Prop}
variable {D : va_G} {cy : Nat → ClassId} {ad : bAdT} {oq : Value} {A0 : Nat → Prop} {H0 : Heap} {k pc : Nat} {ls ls' : List (Option bV)} {lsR : Array Slot} {st : List bV} {S : bSt} {P : Prop} {f' : bFr}
theorem bacp_w : ∀ own idx : Nat, bAcp own idx = true → Jvm.Cond.methodLink (bRN own) idx arraycopyName ∈ tables_1 := by
  intro own idx h
  simp only [bAcp, Bool.or_eq_true, Bool.and_eq_true, beq_iff_eq] at h
  rcases h with ((⟨rfl, rfl⟩ | ⟨rfl, rfl⟩) | ⟨rfl, rfl⟩) | ⟨rfl, rfl⟩
  · exact List.mem_of_getElem? (i := 388) (by decide +kernel)
  · exact List.mem_of_getElem? (i := 403) (by decide +kernel)
  · exact List.mem_of_getElem? (i := 563) (by decide +kernel)
  · exact List.mem_of_getElem? (i := 770) (by decide +kernel)
theorem bcopy (C : bCx p R s m args c D cy ad oq A0 k) {idx : Nat} (hdg : decode (bCe k).2.2.1 pc = .ok (.invokestatic idx, 3)) (hac : bAcp (bCe k).1 idx = true) {n dp sp : Int32} {k0 i0 j0 k2 i2 j2 : Nat} {st' : List bV} (ht : bArr k0 0 = true) (ht2 : bArr k2 0 = true) (hsum : (st'.map bCat).sum ≤ 8) (hok : bok k0 i0 j0 = true) (hok2 : bok k2 i2 j2 = true) (hne : ¬ (k0, i0, j0) = (k2, i2, j2)) (g1 : ¬ sp < 0) (g2 : ¬ dp < 0) (g3 : ¬ n < 0) (g4 : sp.toNatClampNeg + n.toNatClampNeg ≤ bLen k0) (g5 : dp.toNatClampNeg + n.toNatClampNeg ≤ bLen k2) (hL : bLR ad oq ls lsR c.maxLocals) (hH : bHR D cy ad oq S s H) (hS : va_S A0 H0 H locs)
    (kk : bGo p l e R s m args below meth c cells slots Z D cy ad oq A0 H0 (pc + 3, ls, st', sCp S (k0, i0, j0) (k2, i2, j2) sp.toNatClampNeg dp.toNatClampNeg n.toNatClampNeg)) : W p l e R s m args below meth c H locs cells slots Z (F0 m pc lsR (.int n :: .int dp :: .ref (ad k2 i2 j2) :: .int sp :: .ref (ad k0 i0 j0) :: st'.map (bVal ad oq))) := by
  obtain ⟨hx, hb, -, hown, hts, hK, hinj, hA, ho, hR1, hR2⟩ := C
  have nn : ∀ z : Int32, ¬ z < 0 → z.toInt = (z.toNatClampNeg : Int) := by
    intro z hz
    have hz0 : (0 : Int) ≤ z.toInt := by
      have := Int32.not_lt.mp hz
      simpa using Int32.le_iff_toInt_le.mp this
    show z.toInt = ((z.toInt.toNat : Nat) : Int)
    omega
  have hc0 : H[ad k0 i0 j0]? = some (vp_cell (cy 0) (bLen k0, .inl (S k0 i0 j0))) := barr_at hH ht (by decide) hok
  have hc1 : H[ad k2 i2 j2]? = some (vp_cell (cy 0) (bLen k2, .inl (S k2 i2 j2))) := barr_at hH ht2 (by decide) hok2
  have hT0 : ArrOfT s (cy 0) .int := bty_get (t := 0) hK rfl
  obtain ⟨-, q0, hk0, cm0, hkk0⟩ := hT0 (bLen k0) (fun j => .int (S k0 i0 j0 j))
  obtain ⟨-, q1, hk1, cm1, hkk1⟩ := hT0 (bLen k2) (fun j => .int (S k2 i2 j2 j))
  have hml : lsR.size = c.maxLocals := by obtain ⟨-, lv, h, -⟩ := hL; exact h.1
  have hsum2 : ((st'.map (bVal ad oq)).map fun v => v.category).sum ≤ 8 := by
    rw [List.map_map]
    have : (List.map ((fun v => Value.category v) ∘ bVal ad oq) st') = st'.map bCat := List.map_congr_left (fun v _ => bcat_val ho v)
    rw [this]
    exact hsum
  intro T hT X
  obtain ⟨vm', X', step⟩ := X.arraycopy hx hown (hts _ (bGW_in (bacp_w _ _ hac) rfl)) (hts _ (bGW_in (List.mem_of_getElem? (i := 390) (by decide +kernel)) rfl)) (hts _ (bGW_in (List.mem_of_getElem? (i := 389) (by decide +kernel)) rfl)) (hts _ (bGW_in (List.mem_of_getElem? (i := 11) (by decide +kernel)) rfl)) (src := ad k0 i0 j0) (dst := ad k2 i2 j2) (cs := vp_cell (cy 0) (bLen k0, .inl (S k0 i0 j0))) (cd := vp_cell (cy 0) (bLen k2, .inl (S k2 i2 j2))) (srcPos := sp) (destPos := dp) (n := n) (by rw [hT]; exact hc0) (by rw [hT]; exact hc1)
    (fun _ h => by cases h) (fun _ h => by cases h) (fun h => by cases h) (fun h => by cases h) hk0 hk1 hkk0 hkk1 (by simp [refKind]) g1 g2 g3
    (by rw [nn sp g1, nn n g3]; show ¬ _ > ((arrV (cy 0) (bLen k0) (fun j => .int (S k0 i0 j0 j))).slots.size : Int); rw [arrV_size]; omega)
    (by rw [nn dp g2, nn n g3]; show ¬ _ > ((arrV (cy 0) (bLen k2) (fun j => .int (S k2 i2 j2 j))).slots.size : Int); rw [arrV_size]; omega)
    (fun vm₁ _ i hi => by
      have e : (vp_cell (cy 0) (bLen k0, .inl (S k0 i0 j0))).slots.getD (sp.toNatClampNeg + i) .null = .int (S k0 i0 j0 (sp.toNatClampNeg + i)) := by
        show (arrV (cy 0) (bLen k0) (fun j => .int (S k0 i0 j0 j))).slots.getD _ _ = _
        rw [Array.getD_eq_getD_getElem?, arrV_read _ _ (by omega)]
        rfl
      refine ⟨?_, ?_⟩
      · rw [e]
        rfl
      · rw [e]
        exact trivial)
    (g := F0 m pc lsR (.int n :: .int dp :: .ref (ad k2 i2 j2) :: .int sp :: .ref (ad k0 i0 j0) :: st'.map (bVal ad oq))) rfl (by rw [← hml]) (rest := st'.map (bVal ad oq)) rfl (by rw [hb]; exact hdg) hR1 (by show 2 * 0 + _ + _ ≤ _; have h9 : nativeFrameWords "java/lang/System" "arraycopy" 5 ≤ 40 := (by decide +kernel); omega)
  have e1 : copied (vp_cell (cy 0) (bLen k0, .inl (S k0 i0 j0))) (vp_cell (cy 0) (bLen k2, .inl (S k2 i2 j2))) sp dp n = vp_cell (cy 0) (bLen k2, .inl (va_cpy (S k0 i0 j0) (S k2 i2 j2) sp.toNatClampNeg dp.toNatClampNeg n.toNatClampNeg)) := va_copied (fun z => .int z) (cy 0) (cy 0) (S k0 i0 j0) (S k2 i2 j2) g4
  rw [e1] at X' step
  have hl : ad k2 i2 j2 < H.size := (Array.getElem?_eq_some_iff.mp hc1).1
  have oq1 : ∀ q : Nat, q ≠ ad k2 i2 j2 → (H.setIfInBounds (ad k2 i2 j2) (vp_cell (cy 0) (bLen k2, .inl (va_cpy (S k0 i0 j0) (S k2 i2 j2) sp.toNatClampNeg dp.toNatClampNeg n.toNatClampNeg))))[q]? = H[q]? := fun q hq => by simp [Array.getElem?_setIfInBounds, Ne.symm hq]
  have hheap : ((T.setVm vm').setCell (ad k2 i2 j2) (vp_cell (cy 0) (bLen k2, .inl (va_cpy (S k0 i0 j0) (S k2 i2 j2) sp.toNatClampNeg dp.toNatClampNeg n.toNatClampNeg)))).heap = H.setIfInBounds (ad k2 i2 j2) (vp_cell (cy 0) (bLen k2, .inl (va_cpy (S k0 i0 j0) (S k2 i2 j2) sp.toNatClampNeg dp.toNatClampNeg n.toNatClampNeg))) := by rw [← hT]; rfl
  obtain ⟨t, a1, b1⟩ := kk (H.setIfInBounds (ad k2 i2 j2) (vp_cell (cy 0) (bLen k2, .inl (va_cpy (S k0 i0 j0) (S k2 i2 j2) sp.toNatClampNeg dp.toNatClampNeg n.toNatClampNeg)))) _ lsR hL (bHR_put hinj hok2 hH sCp_ne (by
      dsimp only
      rw [bcell_a (bArr_eq ht2) (by decide), sCp_at]
      show (H.setIfInBounds _ _)[_]? = some _
      simp [Array.getElem?_setIfInBounds, hl]) oq1)
    ⟨by simp; exact hS.1, fun q h1 h2 => by
      rw [oq1 q (fun e => h2 (by rw [e]; exact hA _ ⟨k2, i2, j2, hok2, rfl⟩))]
      exact hS.2.1 q h1 h2, fun q hq => by
      rcases List.mem_append.mp hq with h | h
      · exact hS.2.2 q h
      · obtain ⟨z, -, hz⟩ := List.mem_map.mp h
        rw [← hz]
        exact hA _ ⟨k2, i2, j2, hok2, rfl⟩⟩ _ hheap X'
  exact ⟨t, step t a1, b1⟩
theorem bstp (C : bCx p R s m args c D cy ad oq A0 k) {x : Instr} {len : Nat} (hi : ins k pc = some (x, len)) (hs : stp (bCe k).1 x (pc, ls, st, S) = some (P, f')) (hP : P) (hL : bLR ad oq ls lsR c.maxLocals) (hH : bHR D cy ad oq S s H) (hS : va_S A0 H0 H locs) (kk : bGo p l e R s m args below meth c cells slots Z D cy ad oq A0 H0 f') : W p l e R s m args below meth c H locs cells slots Z (F0 m pc lsR (st.map (bVal ad oq))) := by
  obtain ⟨hdg, hlen⟩ := bdec hi
  have hx := C.1
  have hb := C.2.1
  have ho : oq.category = 1 := C.2.2.2.2.2.2.2.2.1
  cases x
  case iconst c0 =>
    have hl0 : len = 1 := by simpa [blen] using hlen
    subst hl0
    simp only [stp] at hs
    simp only [Option.some.injEq, Prod.mk.injEq] at hs
    obtain ⟨rfl, rfl⟩ := hs
    exact lv_iconst hx hb hdg rfl (kk H locs lsR hL hH hS)
  case bipush c0 =>
    have hl0 : len = 2 := by simpa [blen] using hlen
    subst hl0
    simp only [stp] at hs
    simp only [Option.some.injEq, Prod.mk.injEq] at hs
    obtain ⟨rfl, rfl⟩ := hs
    exact lv_bipush hx hb hdg rfl (kk H locs lsR hL hH hS)
  case sipush c0 =>
    have hl0 : len = 3 := by simpa [blen] using hlen
    subst hl0
    simp only [stp] at hs
    simp only [Option.some.injEq, Prod.mk.injEq] at hs
    obtain ⟨rfl, rfl⟩ := hs
    exact lv_sipush hx hb hdg rfl (kk H locs lsR hL hH hS)
  case iload_n n0 =>
    have hl0 : len = 1 := by simpa [blen] using hlen
    subst hl0
    simp only [stp] at hs
    obtain ⟨v, hv, rfl, h⟩ := bh_ld hs
    rcases h with ⟨-, x, rfl⟩ | ⟨h, -⟩
    · exact lv_iload_n hx hb hdg rfl (bLR_at hL hv) (kk H locs lsR hL hH hS)
    · cases h
  case iload n0 =>
    have hl0 : len = 2 := by simpa [blen] using hlen
    subst hl0
    simp only [stp] at hs
    obtain ⟨v, hv, rfl, h⟩ := bh_ld hs
    rcases h with ⟨-, x, rfl⟩ | ⟨h, -⟩
    · exact lv_iload hx hb hdg (bLR_at hL hv) (kk H locs lsR hL hH hS)
    · cases h
  case aload_n n0 =>
    have hl0 : len = 1 := by simpa [blen] using hlen
    subst hl0
    simp only [stp] at hs
    obtain ⟨v, hv, rfl, h⟩ := bh_ld hs
    rcases h with ⟨h, -⟩ | ⟨-, a, rfl, h9⟩
    · cases h
    · have hr := bLR_at hL hv
      have kk' := kk H locs lsR hL hH hS
      have e9 : bVal ad oq (.inr (.inl a)) = .ref (ad a.1 a.2.1 a.2.2) := if_neg h9
      simp only [List.map_cons, e9] at kk'
      rw [e9] at hr
      exact lv_aload_n hx hb hdg rfl hr kk'
  case aload n0 =>
    have hl0 : len = 2 := by simpa [blen] using hlen
    subst hl0
    simp only [stp] at hs
    obtain ⟨v, hv, rfl, h⟩ := bh_ld hs
    rcases h with ⟨h, -⟩ | ⟨-, a, rfl, h9⟩
    · cases h
    · have hr := bLR_at hL hv
      have kk' := kk H locs lsR hL hH hS
      have e9 : bVal ad oq (.inr (.inl a)) = .ref (ad a.1 a.2.1 a.2.2) := if_neg h9
      simp only [List.map_cons, e9] at kk'
      rw [e9] at hr
      exact lv_aload hx hb hdg hr kk'
  case istore_n n0 =>
    have hl0 : len = 1 := by simpa [blen] using hlen
    subst hl0
    simp only [stp] at hs
    obtain ⟨v, st', rfl, hn, rfl, h⟩ := bh_sv hs
    rcases h with ⟨-, x, rfl⟩ | ⟨h, -⟩
    · obtain ⟨hLn, lv, h1, h2⟩ := hL
      exact lv_istore_n (x := x) hx hb hdg rfl h1 (by rw [← hLn]; exact hn) rfl (fun lsR' hl' => kk H locs lsR' (bLR_set ho hLn h2 rfl hl') hH hS)
    · cases h
  case istore n0 =>
    have hl0 : len = 2 := by simpa [blen] using hlen
    subst hl0
    simp only [stp] at hs
    obtain ⟨v, st', rfl, hn, rfl, h⟩ := bh_sv hs
    rcases h with ⟨-, x, rfl⟩ | ⟨h, -⟩
    · obtain ⟨hLn, lv, h1, h2⟩ := hL
      exact lv_istore (x := x) hx hb hdg h1 (by rw [← hLn]; exact hn) rfl (fun lsR' hl' => kk H locs lsR' (bLR_set ho hLn h2 rfl hl') hH hS)
    · cases h
  case astore_n n0 =>
    have hl0 : len = 1 := by simpa [blen] using hlen
    subst hl0
    simp only [stp] at hs
    obtain ⟨v, st', rfl, hn, rfl, h⟩ := bh_sv hs
    rcases h with ⟨h, -⟩ | ⟨-, a, rfl, h9⟩
    · cases h
    · obtain ⟨hLn, lv, h1, h2⟩ := hL
      have e9 : bVal ad oq (.inr (.inl a)) = .ref (ad a.1 a.2.1 a.2.2) := if_neg h9
      rw [List.map_cons, e9]
      exact lv_astore_n hx hb hdg rfl h1 (by rw [← hLn]; exact hn) rfl (fun lsR' hl' => kk H locs lsR' (bLR_set (v := .inr (.inl a)) ho hLn h2 rfl (by rw [e9]; exact hl')) hH hS)
  case astore n0 =>
    have hl0 : len = 2 := by simpa [blen] using hlen
    subst hl0
    simp only [stp] at hs
    obtain ⟨v, st', rfl, hn, rfl, h⟩ := bh_sv hs
    rcases h with ⟨h, -⟩ | ⟨-, a, rfl, h9⟩
    · cases h
    · obtain ⟨hLn, lv, h1, h2⟩ := hL
      have e9 : bVal ad oq (.inr (.inl a)) = .ref (ad a.1 a.2.1 a.2.2) := if_neg h9
      rw [List.map_cons, e9]
      exact lv_astore hx hb hdg h1 (by rw [← hLn]; exact hn) rfl (fun lsR' hl' => kk H locs lsR' (bLR_set (v := .inr (.inl a)) ho hLn h2 rfl (by rw [e9]; exact hl')) hH hS)
  case iinc n0 c0 =>
    have hl0 : len = 3 := by simpa [blen] using hlen
    subst hl0
    simp only [stp] at hs
    split at hs
    · rename_i v hv
      simp only [Option.some.injEq, Prod.mk.injEq] at hs
      obtain ⟨rfl, rfl⟩ := hs
      have hn : n0 < ls.length := (List.getElem?_eq_some_iff.mp hv).1
      obtain ⟨hLn, lv, h1, h2⟩ := hL
      obtain ⟨q, hq⟩ := List.getElem?_of_mem (h2 _ _ hv).2
      exact lv_iinc hx hb hdg h1 hq rfl (by rw [← hLn]; exact hn) rfl (fun lsR' hl' => kk H locs lsR' (bLR_set ho hLn h2 rfl hl') hH hS)
    · cases hs
  case iadd =>
    have hl0 : len = 1 := by simpa [blen] using hlen
    subst hl0
    simp only [stp] at hs
    obtain ⟨x, y, st', rfl, rfl, rfl⟩ := bh_bin hs
    exact lv_iadd hx hb hdg (kk H locs lsR hL hH hS)
  case isub =>
    have hl0 : len = 1 := by simpa [blen] using hlen
    subst hl0
    simp only [stp] at hs
    obtain ⟨x, y, st', rfl, rfl, rfl⟩ := bh_bin hs
    exact lv_isub hx hb hdg (kk H locs lsR hL hH hS)
  case imul =>
    have hl0 : len = 1 := by simpa [blen] using hlen
    subst hl0
    simp only [stp] at hs
    obtain ⟨x, y, st', rfl, rfl, rfl⟩ := bh_bin hs
    exact lv_imul hx hb hdg (kk H locs lsR hL hH hS)
  case iand =>
    have hl0 : len = 1 := by simpa [blen] using hlen
    subst hl0
    simp only [stp] at hs
    obtain ⟨x, y, st', rfl, rfl, rfl⟩ := bh_bin hs
    exact lv_iand hx hb hdg (kk H locs lsR hL hH hS)
  case ior =>
    have hl0 : len = 1 := by simpa [blen] using hlen
    subst hl0
    simp only [stp] at hs
    obtain ⟨x, y, st', rfl, rfl, rfl⟩ := bh_bin hs
    exact lv_ior hx hb hdg (kk H locs lsR hL hH hS)
  case ixor =>
    have hl0 : len = 1 := by simpa [blen] using hlen
    subst hl0
    simp only [stp] at hs
    obtain ⟨x, y, st', rfl, rfl, rfl⟩ := bh_bin hs
    exact lv_ixor hx hb hdg (kk H locs lsR hL hH hS)
  case ishl =>
    have hl0 : len = 1 := by simpa [blen] using hlen
    subst hl0
    simp only [stp] at hs
    obtain ⟨x, y, st', rfl, rfl, rfl⟩ := bh_bin hs
    exact lv_ishl hx hb hdg (kk H locs lsR hL hH hS)
  case ishr =>
    have hl0 : len = 1 := by simpa [blen] using hlen
    subst hl0
    simp only [stp] at hs
    obtain ⟨x, y, st', rfl, rfl, rfl⟩ := bh_bin hs
    exact lv_ishr hx hb hdg (kk H locs lsR hL hH hS)
  case idiv =>
    have hl0 : len = 1 := by simpa [blen] using hlen
    subst hl0
    simp only [stp] at hs
    obtain ⟨x, y, st', rfl, rfl, rfl⟩ := bh_bin hs
    exact lv_idiv hx hb hdg hP (kk H locs lsR hL hH hS)
  case irem =>
    have hl0 : len = 1 := by simpa [blen] using hlen
    subst hl0
    simp only [stp] at hs
    obtain ⟨x, y, st', rfl, rfl, rfl⟩ := bh_bin hs
    exact lv_irem hx hb hdg hP (kk H locs lsR hL hH hS)
  case i2c =>
    have hl0 : len = 1 := by simpa [blen] using hlen
    subst hl0
    simp only [stp] at hs
    split at hs
    · simp only [Option.some.injEq, Prod.mk.injEq] at hs
      obtain ⟨rfl, rfl⟩ := hs
      exact lv_i2c hx hb hdg rfl (kk H locs lsR hL hH hS)
    · cases hs
  case i2l =>
    have hl0 : len = 1 := by simpa [blen] using hlen
    subst hl0
    simp only [stp] at hs
    split at hs
    · simp only [Option.some.injEq, Prod.mk.injEq] at hs
      obtain ⟨rfl, rfl⟩ := hs
      exact lv_i2l hx hb hdg rfl (kk H locs lsR hL hH hS)
    · cases hs
  case lmul =>
    have hl0 : len = 1 := by simpa [blen] using hlen
    subst hl0
    simp only [stp] at hs
    split at hs
    · simp only [Option.some.injEq, Prod.mk.injEq] at hs
      obtain ⟨rfl, rfl⟩ := hs
      exact lv_lmul hx hb hdg (kk H locs lsR hL hH hS)
    · cases hs
  case lcmp =>
    have hl0 : len = 1 := by simpa [blen] using hlen
    subst hl0
    simp only [stp] at hs
    split at hs
    · simp only [Option.some.injEq, Prod.mk.injEq] at hs
      obtain ⟨rfl, rfl⟩ := hs
      exact W.lcmp hx hb hdg (kk H locs lsR hL hH hS)
    · cases hs
  case ifCond c0 off =>
    have hl0 : len = 3 := by simpa [blen] using hlen
    subst hl0
    simp only [stp] at hs
    split at hs
    · simp only [Option.some.injEq, Prod.mk.injEq] at hs
      obtain ⟨rfl, rfl⟩ := hs
      have ht := btg_ok hP
      have kk' := kk H locs lsR hL hH hS
      dsimp only at kk'
      cases c0
      case eq => exact lv_if_eq hx hb hdg ht (fun h => by simpa [bH, h] using kk') (fun h => by simpa [bH, h] using kk')
      case ne => exact lv_if_ne hx hb hdg ht (fun h => by simpa [bH, h] using kk') (fun h => by simpa [bH, h] using kk')
      case lt => exact lv_if_lt hx hb hdg ht (fun h => by simpa [bH, h] using kk') (fun h => by simpa [bH, h] using kk')
      case ge => exact lv_if_ge hx hb hdg ht (fun h => by simpa [bH, h] using kk') (fun h => by simpa [bH, h] using kk')
      case gt => exact lv_if_gt hx hb hdg ht (fun h => by simpa [bH, h] using kk') (fun h => by simpa [bH, h] using kk')
      case le => exact lv_if_le hx hb hdg ht (fun h => by simpa [bH, h] using kk') (fun h => by simpa [bH, h] using kk')
    · cases hs
  case if_icmp c0 off =>
    have hl0 : len = 3 := by simpa [blen] using hlen
    subst hl0
    simp only [stp] at hs
    split at hs
    · simp only [Option.some.injEq, Prod.mk.injEq] at hs
      obtain ⟨rfl, rfl⟩ := hs
      have ht := btg_ok hP
      have kk' := kk H locs lsR hL hH hS
      dsimp only at kk'
      cases c0
      case eq => exact lv_icmp_eq hx hb hdg ht (fun h => by simpa [bH, h] using kk') (fun h => by simpa [bH, h] using kk')
      case ne => exact lv_icmp_ne hx hb hdg ht (fun h => by simpa [bH, h] using kk') (fun h => by simpa [bH, h] using kk')
      case lt => exact lv_icmp_lt hx hb hdg ht (fun h => by simpa [bH, h] using kk') (fun h => by simpa [bH, h] using kk')
      case ge => exact lv_icmp_ge hx hb hdg ht (fun h => by simpa [bH, h] using kk') (fun h => by simpa [bH, h] using kk')
      case gt => exact lv_icmp_gt hx hb hdg ht (fun h => by simpa [bH, h] using kk') (fun h => by simpa [bH, h] using kk')
      case le => exact lv_icmp_le hx hb hdg ht (fun h => by simpa [bH, h] using kk') (fun h => by simpa [bH, h] using kk')
    · cases hs
  case goto off =>
    have hl0 : len = 3 := by simpa [blen] using hlen
    subst hl0
    simp only [stp] at hs
    simp only [Option.some.injEq, Prod.mk.injEq] at hs
    obtain ⟨rfl, rfl⟩ := hs
    exact lv_goto hx hb hdg (btg_ok hP) (kk H locs lsR hL hH hS)
  case tableswitch d lo up offs =>
    simp only [stp] at hs
    split at hs
    · rename_i v st'
      simp only [Option.some.injEq, Prod.mk.injEq] at hs
      obtain ⟨rfl, rfl⟩ := hs
      have kk' := kk H locs lsR hL hH hS
      dsimp only at kk'
      by_cases h : v.toInt < lo ∨ up < v.toInt
      · rw [if_pos h] at kk'
        exact lv_tableOut hx hb hdg h (btg_ok (hP.1 h)) kk'
      · rw [if_neg h] at kk'
        have h1 : ¬ v.toInt < lo := fun q => h (Or.inl q)
        have h2 : ¬ up < v.toInt := fun q => h (Or.inr q)
        obtain ⟨g1, g2⟩ := hP.2 h1 h2
        exact lv_tableIn hx hb hdg h1 h2 (off := offs.getD (v.toInt - lo).toNat 0) (by simp [Array.getD, g1]) (btg_ok g2) kk'
    · cases hs
  case dup =>
    have hl0 : len = 1 := by simpa [blen] using hlen
    subst hl0
    simp only [stp] at hs
    split at hs
    · split at hs
      · rename_i h
        simp only [Option.some.injEq, Prod.mk.injEq] at hs
        obtain ⟨rfl, rfl⟩ := hs
        exact lv_dup hx hb hdg (by rw [bcat_val ho]; exact h) (kk H locs lsR hL hH hS)
      · cases hs
    · cases hs
  case dup2 =>
    have hl0 : len = 1 := by simpa [blen] using hlen
    subst hl0
    simp only [stp] at hs
    split at hs
    · split at hs
      · rename_i h
        simp only [Option.some.injEq, Prod.mk.injEq] at hs
        obtain ⟨rfl, rfl⟩ := hs
        exact lv_dup2_11 hx hb hdg (by rw [bcat_val ho]; exact h.1) (by rw [bcat_val ho]; exact h.2) (kk H locs lsR hL hH hS)
      · cases hs
    · cases hs
  case pop =>
    have hl0 : len = 1 := by simpa [blen] using hlen
    subst hl0
    simp only [stp] at hs
    split at hs
    · split at hs
      · rename_i h
        simp only [Option.some.injEq, Prod.mk.injEq] at hs
        obtain ⟨rfl, rfl⟩ := hs
        exact lv_pop hx hb hdg (by rw [bcat_val ho]; exact h) (kk H locs lsR hL hH hS)
      · cases hs
    · cases hs
  case getfield idx =>
    have hl0 : len = 3 := by simpa [blen] using hlen
    subst hl0
    simp only [stp] at hs
    have hown := C.2.2.2.1
    have hts := C.2.2.2.2.1
    split at hs
    · rename_i k0 i0 j0 st'
      split at hs
      · rename_i h10
        rw [h10] at hown
        split at hs
        · rename_i h
          obtain ⟨rfl, rfl, rfl⟩ := h
          simp only [Option.some.injEq, Prod.mk.injEq] at hs
          obtain ⟨rfl, rfl⟩ := hs
          obtain ⟨cf, kf, fi, fd, cell, h1, h2, h3, h4, h5, h6⟩ := (hH.2.2.2.2.1 i0 hP).2.2.1
          exact W.getf (own := "java/lang/String") (ref := "java/lang/String") (name := "value") (desc := "[B") (index := 9) hx hb hown (hts _ (bGW_in (List.mem_of_getElem? (i := 1541) (by decide +kernel)) rfl)) h1 h2 h3 h4 h5 rfl rfl hdg (kk H locs lsR hL hH hS)
        · split at hs
          · rename_i h
            obtain ⟨rfl, rfl, rfl⟩ := h
            simp only [Option.some.injEq, Prod.mk.injEq] at hs
            obtain ⟨rfl, rfl⟩ := hs
            obtain ⟨cf, kf, fi, fd, cell, h1, h2, h3, h4, h5, h6⟩ := (hH.2.2.2.2.1 i0 hP).2.1
            exact W.getf (own := "java/lang/String") (ref := "java/lang/String") (name := "coder") (desc := "B") (index := 15) hx hb hown (hts _ (bGW_in (List.mem_of_getElem? (i := 1542) (by decide +kernel)) rfl)) h1 h2 h3 h4 h5 rfl rfl hdg (kk H locs lsR hL hH hS)
          · cases hs
      · split at hs
        · rename_i ci f b hf
          split at hs
          · rename_i hk
            simp only [Option.some.injEq, Prod.mk.injEq] at hs
            obtain ⟨rfl, rfl⟩ := hs
            rw [List.map_cons, bval_ok (bbok_ne hP)]
            exact bgetf C hdg hf hk hP hL hH hS kk
          · cases hs
        · cases hs
    · cases hs
  case putfield idx =>
    have hl0 : len = 3 := by simpa [blen] using hlen
    subst hl0
    simp only [stp] at hs
    split at hs
    · rename_i v k0 i0 j0 st'
      split at hs
      · rename_i ci f b hf
        split at hs
        · rename_i hk
          simp only [Option.some.injEq, Prod.mk.injEq] at hs
          obtain ⟨rfl, rfl⟩ := hs
          rw [List.map_cons, List.map_cons, bval_ok (bbok_ne hP.1)]
          exact bputf C hdg hf hk.1 hk.2.1 hk.2.2 hP.1 hP.2 hL hH hS kk
        · cases hs
      · cases hs
    · cases hs
  case iaload =>
    have hl0 : len = 1 := by simpa [blen] using hlen
    subst hl0
    simp only [stp] at hs
    obtain ⟨n, k0, i0, j0, st', rfl, h⟩ := bh_xld hs
    rcases h with ⟨ht, rfl, rfl⟩ | ⟨-, hro, rfl, rfl, rfl, rfl⟩ | ⟨h, -⟩
    · rw [List.map_cons, List.map_cons, bval_ok (bbok_ne hP.1)]
      exact va_iald hx hb C.2.2.2.2.2.1.1 (barr_P hH ht (by decide) hP.1) 0 0 rfl rfl hP.2 hdg (kk H locs lsR hL hH hS)
    · rw [List.map_cons, List.map_cons, bval_ok (bro_ne hro)]
      exact bxld_ro C hdg hro hP hL hH hS kk
    · cases h
  case caload =>
    have hl0 : len = 1 := by simpa [blen] using hlen
    subst hl0
    simp only [stp] at hs
    obtain ⟨n, k0, i0, j0, st', rfl, h⟩ := bh_xld hs
    rcases h with ⟨ht, rfl, rfl⟩ | ⟨h, -⟩ | ⟨h, -⟩
    · rw [List.map_cons, List.map_cons, bval_ok (bbok_ne hP.1)]
      exact va_cald hx hb C.2.2.2.2.2.1.1 (barr_P hH ht (by decide) hP.1) 0 1 rfl rfl hP.2 hdg (kk H locs lsR hL hH hS)
    · cases h
    · cases h
  case baload =>
    have hl0 : len = 1 := by simpa [blen] using hlen
    subst hl0
    simp only [stp] at hs
    split at hs
    · rename_i r hr
      have hs2 : bXld 2 pc ls st S = some (P, f') := by rw [hr]; exact hs
      obtain ⟨n, k0, i0, j0, st', rfl, h⟩ := bh_xld hs2
      rcases h with ⟨ht, rfl, rfl⟩ | ⟨h, -⟩ | ⟨h, -⟩
      · rw [List.map_cons, List.map_cons, bval_ok (bbok_ne hP.1)]
        exact va_zald hx hb C.2.2.2.2.2.1.1 (barr_P hH ht (by decide) hP.1) 0 2 rfl rfl hP.2 hdg (kk H locs lsR hL hH hS)
      · cases h
      · cases h
    · obtain ⟨n, k0, i0, j0, st', rfl, h⟩ := bh_xld hs
      rcases h with ⟨ht, -⟩ | ⟨h, -⟩ | ⟨-, rfl, rfl, rfl, rfl⟩
      · exfalso
        have h9 := bArr_eq ht
        unfold kArr at h9
        split at h9 <;> first | (cases h9; done) | (simp at h9; done)
      · cases h
      · rw [List.map_cons, List.map_cons, bval_ok (by decide)]
        exact bxld_sb C hdg hP.1 hP.2 hL hH hS kk
  case iastore =>
    have hl0 : len = 1 := by simpa [blen] using hlen
    subst hl0
    simp only [stp] at hs
    obtain ⟨x, n, k0, i0, j0, st', rfl, ht, rfl, rfl⟩ := bh_xst hs
    rw [List.map_cons, List.map_cons, List.map_cons, bval_ok (bbok_ne hP.1)]
    exact bxst_int C hdg ht hP.1 hP.2.1 hL hH hS kk
  case castore =>
    have hl0 : len = 1 := by simpa [blen] using hlen
    subst hl0
    simp only [stp] at hs
    obtain ⟨x, n, k0, i0, j0, st', rfl, ht, rfl, rfl⟩ := bh_xst hs
    rw [List.map_cons, List.map_cons, List.map_cons, bval_ok (bbok_ne hP.1)]
    exact bxst_char C hdg ht hP.1 hP.2.1 (hP.2.2.1 rfl) hL hH hS kk
  case bastore =>
    have hl0 : len = 1 := by simpa [blen] using hlen
    subst hl0
    simp only [stp] at hs
    obtain ⟨x, n, k0, i0, j0, st', rfl, ht, rfl, rfl⟩ := bh_xst hs
    rw [List.map_cons, List.map_cons, List.map_cons, bval_ok (bbok_ne hP.1)]
    exact bxst_bool C hdg ht hP.1 hP.2.1 (hP.2.2.2 rfl) hL hH hS kk
  case aaload =>
    have hl0 : len = 1 := by simpa [blen] using hlen
    subst hl0
    simp only [stp] at hs
    split at hs
    · split at hs
      · rename_i n k0 i0 j0 st' h3
        split at hs
        · rename_i a ha
          simp only [Option.some.injEq, Prod.mk.injEq] at hs
          obtain ⟨rfl, rfl⟩ := hs
          rw [List.map_cons, List.map_cons, bval_ok (bbok_ne hP.1)]
          exact baald C hdg h3 ha hP.1 hP.2 hL hH hS kk
        · cases hs
      · cases hs
    · cases hs
  case aastore =>
    have hl0 : len = 1 := by simpa [blen] using hlen
    subst hl0
    simp only [stp] at hs
    split at hs
    · split at hs
      · rename_i a n k0 i0 j0 st' h3
        split at hs
        · rename_i v hv
          simp only [Option.some.injEq, Prod.mk.injEq] at hs
          obtain ⟨rfl, rfl⟩ := hs
          rw [List.map_cons, List.map_cons, List.map_cons, bval_ok (k0 := k0) (bbok_ne hP.1)]
          exact baast C hdg h3 hv hP.1 hP.2.1 hP.2.2 hL hH hS kk
        · cases hs
      · cases hs
    · cases hs
  case arraylength =>
    have hl0 : len = 1 := by simpa [blen] using hlen
    subst hl0
    simp only [stp] at hs
    split at hs
    · rename_i k0 i0 j0 st'
      split at hs
      · rename_i h
        simp only [Option.some.injEq, Prod.mk.injEq] at hs
        obtain ⟨rfl, rfl⟩ := hs
        rw [List.map_cons, bval_ok (bbok_ne hP)]
        cases hk : kArr k0 with
        | none => rw [hk] at h; cases h
        | some q =>
          obtain ⟨t, N⟩ := q
          have hN : bLen k0 = N := by unfold bLen; rw [hk]
          have hat := hH.1 k0 i0 j0 hP
          by_cases h3 : t < 3
          · rw [bcell_a hk h3] at hat
            have hty : ∃ ty : FieldType, (bTys cy)[t]? = some (cy t, ty) := by
              match t, h3 with
              | 0, _ => exact ⟨_, rfl⟩
              | 1, _ => exact ⟨_, rfl⟩
              | 2, _ => exact ⟨_, rfl⟩
            obtain ⟨ty, hty⟩ := hty
            exact va_alen hx hb C.2.2.2.2.2.1.1 (bP1 hat) 0 t rfl hty (by rw [hN]) hdg (kk H locs lsR hL hH hS)
          · rw [bcell_q hk h3] at hat
            obtain ⟨ty, hty, -⟩ := bref_ty hk (by omega)
            exact va_alen hx hb C.2.2.2.2.2.1.1 (bP1 hat) 0 t rfl (hty cy) (by rw [hN]) hdg (kk H locs lsR hL hH hS)
      · split at hs
        · rename_i h
          obtain ⟨hro, rfl, rfl⟩ := h
          simp only [Option.some.injEq, Prod.mk.injEq] at hs
          obtain ⟨rfl, rfl⟩ := hs
          rw [List.map_cons, bval_ok (bro_ne hro)]
          obtain ⟨cell, h1, h2, h3, h4, h5, h6, h7⟩ := hH.2.1 k0 hro
          exact W.alen (n := Int32.ofNat (bROl S k0)) hx hb h1 h2 h5 rfl rfl hdg (kk H locs lsR hL hH hS)
        · split at hs
          · rename_i h
            obtain ⟨rfl, rfl⟩ := h
            simp only [Option.some.injEq, Prod.mk.injEq] at hs
            obtain ⟨rfl, rfl⟩ := hs
            rw [List.map_cons, bval_ok (by decide)]
            obtain ⟨cell, h1, h2, h3, h4, h5, h6, h7⟩ := (hH.2.2.2.2.1 i0 hP).2.2.2
            exact W.alen (n := Int32.ofNat (bTl.getD i0 0)) hx hb h1 h2 h5 rfl rfl hdg (kk H locs lsR hL hH hS)
          · cases hs
    · cases hs
  case getstatic idx =>
    have hl0 : len = 3 := by simpa [blen] using hlen
    subst hl0
    simp only [stp] at hs
    have hown := C.2.2.2.1
    have hts := C.2.2.2.2.1
    have hK := C.2.2.2.2.2.1
    split at hs
    · rename_i h10
      rw [h10] at hown
      split at hs
      · rename_i h
        subst h
        simp only [Option.some.injEq, Prod.mk.injEq] at hs
        obtain ⟨rfl, rfl⟩ := hs
        obtain ⟨cf, kf, fi, f, a, cell, h1, h2, h3, h4, h5, h6, h7, h8⟩ := hH.2.2.2.1.1
        exact W.gets (own := "java/lang/String") (ref := "java/lang/String") (name := "COMPACT_STRINGS") (desc := "Z") (index := 38) hx hb hown (hts _ (bGW_in (List.mem_of_getElem? (i := 905) (by decide +kernel)) rfl)) h1 h2 h3 h4 h5 (fun e => by rw [e] at h6; cases h6) h7 rfl hdg (kk H locs lsR hL hH hS)
      · split at hs
        · rename_i h
          subst h
          simp only [Option.some.injEq, Prod.mk.injEq] at hs
          obtain ⟨rfl, rfl⟩ := hs
          obtain ⟨cf, kf, fi, f, a, cell, h1, h2, h3, h4, h5, h6, h7, h8⟩ := hH.2.2.2.1.2
          exact W.gets (own := "java/lang/String") (ref := "jdk/internal/util/Preconditions") (name := "SIOOBE_FORMATTER") (desc := "Ljava/util/function/BiFunction;") (index := 1053) hx hb hown (hts _ (bGW_in (List.mem_of_getElem? (i := 921) (by decide +kernel)) rfl)) h1 h2 h3 h4 h5 (fun e => by rw [e] at h6; cases h6) h7 rfl hdg (kk H locs lsR hL hH hS)
        · cases hs
    · split at hs
      · rename_i k0 hk0
        simp only [Option.some.injEq, Prod.mk.injEq] at hs
        obtain ⟨rfl, rfl⟩ := hs
        unfold bSf at hk0
        split at hk0
        · rename_i h3
          rw [h3] at hown
          split at hk0
          · cases hk0
            obtain ⟨cf, kf, fi, f, a, cell, h1, h2, h3, h4, h5, h6, h7, h8⟩ := hH.2.2.1.1
            exact va_WgetsN (own := "PaperCutter$Plan") (ref := "PaperCutter") (name := "FIRST_SETTING") (desc := "[I") (host := "PaperCutter") (index := 9) hx hb hown (va_Nw.use rfl (hK.2.1 _ (List.mem_of_getElem? (i := 32) (by decide +kernel)) rfl)) h1 h2 h3 h4 h5 (fun e => by rw [e] at h6; cases h6) h7 rfl hdg (kk H locs lsR hL hH hS)
          · cases hk0
            obtain ⟨cf, kf, fi, f, a, cell, h1, h2, h3, h4, h5, h6, h7, h8⟩ := hH.2.2.1.2.1
            exact va_WgetsN (own := "PaperCutter$Plan") (ref := "PaperCutter") (name := "LOWEST_SETTING") (desc := "[I") (host := "PaperCutter") (index := 70) hx hb hown (va_Nw.use rfl (hK.2.1 _ (List.mem_of_getElem? (i := 408) (by decide +kernel)) rfl)) h1 h2 h3 h4 h5 (fun e => by rw [e] at h6; cases h6) h7 rfl hdg (kk H locs lsR hL hH hS)
          · cases hk0
            obtain ⟨cf, kf, fi, f, a, cell, h1, h2, h3, h4, h5, h6, h7, h8⟩ := hH.2.2.1.2.2
            exact va_WgetsN (own := "PaperCutter$Plan") (ref := "PaperCutter") (name := "HIGHEST_SETTING") (desc := "[I") (host := "PaperCutter") (index := 73) hx hb hown (va_Nw.use rfl (hK.2.1 _ (List.mem_of_getElem? (i := 410) (by decide +kernel)) rfl)) h1 h2 h3 h4 h5 (fun e => by rw [e] at h6; cases h6) h7 rfl hdg (kk H locs lsR hL hH hS)
          · cases hk0
        · cases hk0
      · cases hs
  case ldc idx =>
    have hl0 : len = 2 := by simpa [blen] using hlen
    subst hl0
    simp only [stp] at hs
    have hown := C.2.2.2.1
    split at hs
    · rename_i n0 hn0
      simp only [Option.some.injEq, Prod.mk.injEq] at hs
      obtain ⟨rfl, rfl⟩ := hs
      have h7 : (bCe k).1 = 7 := by
        unfold bLdc at hn0
        split at hn0
        · rename_i h; exact h
        · cases hn0
      rw [h7] at hn0 hown
      exact va_ldcS (own := "PaperCutter$Text") hx hb hown (C.2.2.2.2.2.1.2.2 idx n0 hn0) hdg (kk H locs lsR hL hH hS)
    · cases hs
  case invokestatic idx =>
    have hl0 : len = 3 := by simpa [blen] using hlen
    subst hl0
    simp only [stp] at hs
    split at hs
    · rename_i hac
      split at hs
      · rename_i n dp k2 i2 j2 sp k0 i0 j0 st'
        split at hs
        · rename_i h
          simp only [Option.some.injEq, Prod.mk.injEq] at hs
          obtain ⟨rfl, rfl⟩ := hs
          obtain ⟨p1, p2, p3, p4, p5, p6, p7, p8⟩ := hP
          simp only [List.map_cons]
          rw [bval_ok (bbok_ne p1), bval_ok (bbok_ne p2)]
          exact bcopy C hdg hac h.1 h.2.1 h.2.2 p1 p2 (fun z => p3 (by simp only [Prod.mk.injEq] at z; exact z)) p4 p5 p6 p7 p8 hL hH hS kk
        · cases hs
      · cases hs
    · cases hs
  all_goals exact absurd hs (by simp [stp])
end BSTQ
