/-! SOUNDNESS, part 2: calls, returns, a whole method -/
theorem bHR.moved {D : va_G} {cy : Nat → ClassId} {ad : bAdT} {oq : Value} {S : bSt} {u U : State} {H : Heap} (hvm : u.vm.Alike U.vm) (h : bHR D cy ad oq S u H) : bHR D cy ad oq S U H := by
  obtain ⟨h1, h2, ⟨z1, z2, z3⟩, ⟨z4, z5⟩, h3⟩ := h
  exact ⟨h1, fun k hk => (h2 k hk).moved hvm, ⟨z1.moved hvm, z2.moved hvm, z3.moved hvm⟩, ⟨z4.moved hvm, z5.moved hvm⟩, h3.moved hvm⟩
theorem bKN.same {D : va_G} {cy : Nat → ClassId} {ad : bAdT} {u U : State} (hvm : u.vm = U.vm) (h : bKN D cy ad u) : bKN D cy ad U := by
  obtain ⟨h1, h2, h3⟩ := h
  refine ⟨va_K.moved (by rw [hvm]; exact Vm.Alike.refl _) h1, fun w hw hn => ?_, fun idx n hn => vk_R.same hvm.symm (h3 idx n hn)⟩
  refine va_Nw.same ?_ hvm (h2 w hw hn)
  cases w <;> first | rfl | cases hn
theorem bKN.warm {D : va_G} {cy : Nat → ClassId} {ad : bAdT} {s U : State} (hW : s.WarmedH U.vm) (h : bKN D cy ad s) : bKN D cy ad U := by
  obtain ⟨h1, h2, h3⟩ := h
  refine ⟨va_K.moved hW.alike h1, fun w hw hn => ?_, fun idx n hn => vk_R.warm hW (h3 idx n hn)⟩
  have h9 := h2 w hw hn
  cases w <;> first | exact va_Nw.warmF hW h9 | exact va_Nw.warmM hW h9 | cases hn
def bPc (D : va_G) (cy : Nat → ClassId) (ad : bAdT) (oq : Value) (vs : List Value) (S : bSt) : Array Value → State → Prop := va_Pc vs (fun U => bHR D cy ad oq S U U.heap ∧ bKN D cy ad U)
def bQc (D : va_G) (cy : Nat → ClassId) (ad : bAdT) (oq : Value) (Q : Option bV → bSt → Prop) : Array Value → State → Outcome → State → Prop := fun _ st o t => (∃ r S', o = .returned (r.map (bVal ad oq)) ∧ Q r S' ∧ bHR D cy ad oq S' t t.heap) ∧ va_F (bA ad) st t
theorem bPc_blind {D : va_G} {cy : Nat → ClassId} {ad : bAdT} {oq : Value} {vs : List Value} {S : bSt} : FrameBlind (bPc D cy ad oq vs S) := by
  intro a U g mk h
  obtain ⟨h1, h2, h3⟩ := h
  exact ⟨h1, bHR.moved (Vm.Alike.refl U.vm) h2, bKN.same (u := U) (U := U.calling g mk a) rfl h3⟩
def bRm (d : Nat) : Room := { frames := d + 2, cells := 0, slots := 0, locals := 40 * (d + 3) }
def bWS (k : Nat) : List Jvm.Cond := Jvm.Cond.code (bCe k).2.1 (bCe k).2.2.1 (bCe k).2.2.2.1 (bCe k).2.2.2.2.1 :: bGW
theorem bmk {k : Nat} (h : k < 267) (h16 : (bCe k).1 ≠ 16) : bMk1 (bCe k) := (bMk _ (bmg h)).resolve_left h16
theorem bC_16 : ∀ e ∈ bCt, (bCe e.2.2.1).1 ≠ 16 := by decide +kernel
theorem bC_n16 {own idx k : Nat} {b : Bool} (h : bC own idx = some (k, b)) : (bCe k).1 ≠ 16 := by
  unfold bC at h
  cases hf : bCt.find? (fun e => e.1 == own && e.2.1 == idx) with
  | none => rw [hf] at h; cases h
  | some e =>
    rw [hf] at h
    have he := List.mem_of_find?_eq_some hf
    obtain ⟨e1, e2, e3, e4⟩ := e
    cases h
    exact bC_16 _ he
theorem bmk_code {k : Nat} (h : bMk1 (bCe k)) : Jvm.Cond.code (bCe k).2.1 (bCe k).2.2.1 (bCe k).2.2.2.1 (bCe k).2.2.2.2.1 ∈ bGW := bGW_in (h.1 _ (by simp [bMw])) rfl
theorem bmk_ini {k : Nat} (h : bMk1 (bCe k)) : Jvm.Cond.initialized (bCe k).2.1.cls ∈ bGW := bGW_in (h.1 _ (by simp [bMw])) rfl
theorem bWS_good {k : Nat} (h : bMk1 (bCe k)) : GoodIn bGW (bWS k) := by
  intro w hw
  have h1 : w ∈ bGW := by
    rcases List.mem_cons.mp hw with rfl | hw
    · exact bmk_code h
    · exact hw
  exact ⟨h1, good_of_word (List.mem_filter.mp h1).2⟩
theorem bMb_spec {m : bEnt} (h : bMb m = true) : m.2.1.cls = bRN m.1 ∧ plainFor m.2.1 = true ∧ m.2.1.cls ≠ "java/lang/invoke/MethodHandle" ∧ m.2.1.cls ≠ "java/lang/invoke/VarHandle" ∧ m.2.2.2.1 ≤ 12 ∧ (parseMethodDescriptor m.2.1.desc).map (fun d => d.parameters.length) = some (if m.2.2.2.2.2.2 = true then m.2.2.2.2.2.1 else m.2.2.2.2.2.1 - 1) ∧ (m.2.2.2.2.2.2 = true ∨ 0 < m.2.2.2.2.2.1) := by
  unfold bMb at h
  simp only [Bool.and_eq_true, Bool.or_eq_true, decide_eq_true_eq] at h
  obtain ⟨⟨⟨⟨⟨⟨h1, h2⟩, h3⟩, h4⟩, h5⟩, h6⟩, h7⟩ := h
  exact ⟨h1, h2, h3, h4, h5, h6, h7⟩
section BCALL
variable {p : Program} {l : Launch} {e : Env} {R : Room} {s : State} {m : MethodId} {args : Array Value} {below : List Frame} {meth : Method} {c : Code} {H : Heap} {locs : List Loc} {cells slots : Nat} {Z : State → Prop}
variable {D : va_G} {cy : Nat → ClassId} {ad : bAdT} {oq : Value} {A0 : Nat → Prop} {H0 : Heap} {k pc : Nat} {ls ls' : List (Option bV)} {lsR : Array Slot} {st : List bV} {S : bSt} {P : Prop} {f' : bFr}
/-- behind a call -/
theorem bback (C : bCx p R s m args c D cy ad oq A0 k) {Q' : Option bV → bSt → Prop} {a : Array Value} {st0 : List Value} {st' : List bV} (hr : va_Run p l e R s m args below meth c H locs cells slots 0 0 (F0 m pc lsR st0) (st'.map (bVal ad oq)) (bQc D cy ad oq Q' a) (bA ad)) (hL : bLR ad oq ls lsR c.maxLocals) (hS : va_S A0 H0 H locs)
    (kk : ∀ r S', Q' r S' → bGo p l e R s m args below meth c cells slots Z D cy ad oq A0 H0 (pc + 3, ls, r.toList ++ st', S')) : W p l e R s m args below meth c H locs cells slots Z (F0 m pc lsR st0) := by
  have hA := C.2.2.2.2.2.2.2.1
  intro T hT X
  obtain ⟨v, st₀, t, T', L, h0, X', hL2, e1, e2, ⟨⟨r, S', hv, hQ, hb⟩, hz, hk⟩, st⟩ := hr T hT X
  have hv2 : v = r.map (bVal ad oq) := by cases hv; rfl
  subst hv2
  rw [h0] at hz hk
  have hB : bHR D cy ad oq S' s T'.heap := by
    rw [e1]
    exact bHR.moved (by rw [← e2]; exact X'.warmed.alike.symm) hb
  obtain ⟨t2, a1, b1⟩ := kk r S' hQ T'.heap (locs ++ L) lsR hL hB
    ⟨Nat.le_trans hS.1 (by rw [e1]; exact hz), fun q h1 h2 => by rw [e1, hk q (Nat.lt_of_lt_of_le h1 hS.1) (fun z => h2 (hA q z))]; exact hS.2.1 q h1 h2, fun q hq => by
      rcases List.mem_append.mp hq with h | h
      · exact hS.2.2 q h
      · exact hA _ (hL2 q h)⟩ T' rfl X'
  refine ⟨t2, st t2 ?_, b1⟩
  have e9 : (r.map (bVal ad oq)).toList ++ st'.map (bVal ad oq) = (r.toList ++ st').map (bVal ad oq) := by
    cases r <;> simp
  show Steps p.tables e below (T'.setTop (F0 m (pc + 3) lsR ((r.map (bVal ad oq)).toList ++ st'.map (bVal ad oq)))) t2
  rw [e9]
  exact a1
theorem bsum_le (ho : oq.category = 1) (l : List bV) : ((l.map (bVal ad oq)).map fun v => v.category).sum = (l.map bCat).sum := by
  rw [List.map_map]
  have : (List.map ((fun v => Value.category v) ∘ bVal ad oq) l) = l.map bCat := List.map_congr_left (fun v _ => bcat_val ho v)
  rw [this]
/-- a call, its callee's contract at hand -/
theorem bcallW (C : bCx p R s m args c D cy ad oq A0 k) {d len : Nat} {x : Instr} (hi : ins k pc = some (x, len)) {k' : Nat} {as st' : List bV} (hs : bcall (bCe k).1 x (pc, ls, st, S) = some (P, k', as, st')) (hd : 0 < d) (hR1 : d + 2 ≤ R.frames) (hR2 : 40 * (d + 3) ≤ R.locals) (hc : cells ≤ R.cells) (hsl : slots ≤ R.slots) {Q' : Option bV → bSt → Prop}
    (hM : Met l (bCe k').2.1 (bWS k') (bRm (d - 1)) (bPc D cy ad oq (as.map (bVal ad oq)) S) (bQc D cy ad oq Q') 0 0 (bA ad)) (hL : bLR ad oq ls lsR c.maxLocals) (hH : bHR D cy ad oq S s H) (hS : va_S A0 H0 H locs)
    (kk : ∀ r S', Q' r S' → bGo p l e R s m args below meth c cells slots Z D cy ad oq A0 H0 (pc + 3, ls, r.toList ++ st', S')) : W p l e R s m args below meth c H locs cells slots Z (F0 m pc lsR (st.map (bVal ad oq))) := by
  obtain ⟨hdg, hlen⟩ := bdec hi
  have C0 := C
  obtain ⟨hx, hb, hml, hown, hts, hK, hinj, hA, ho, -, -⟩ := C
  have hsz : lsR.size = (bCe k).2.2.2.1 := by
    obtain ⟨-, lv, h, -⟩ := hL
    rw [← hml]
    exact h.1
  have hroom : ∀ {N : Nat}, N ≤ 12 → (bRm (d - 1)).frames + 1 ≤ R.frames ∧ 8 + (N + 11) + (bRm (d - 1)).locals ≤ R.locals := by
    intro N hN
    refine ⟨?_, ?_⟩
    · show d - 1 + 2 + 1 ≤ R.frames
      omega
    · show 8 + (N + 11) + 40 * (d - 1 + 3) ≤ R.locals
      omega
  have hpre : ∀ U : State, U.heap = H → s.WarmedH U.vm → bHR D cy ad oq S U U.heap ∧ bKN D cy ad U := fun U hU hW => ⟨by rw [hU]; exact bHR.moved hW.alike hH, bKN.warm hW hK⟩
  cases x
  case invokestatic idx =>
    have hl0 : len = 3 := by simpa [blen] using hlen
    subst hl0
    simp only [bcall] at hs
    split at hs
    · cases hs
    · rename_i k2 b2 hC
      split at hs
      · rename_i hcd
        simp only [Option.some.injEq, Prod.mk.injEq] at hs
        obtain ⟨-, rfl, rfl, rfl⟩ := hs
        obtain ⟨q1, q2, q3, q4, q5⟩ := hcd
        obtain ⟨w1, w2⟩ := bC_ok hC
        have hmk := bmk w2 (bC_n16 hC)
        obtain ⟨b1, b2', b3, b4, b5, b6, b7⟩ := bMb_spec hmk.2.1
        rw [if_pos q1] at b6
        have hstt : (Jvm.Cond.static (bCe k2).2.1).before args s = true := hts _ (bGW_in (hmk.1 _ (by simp [bMw, q1])) rfl)
        have hini := hts _ (bmk_ini hmk)
        have hPS : PreS s H (bPc D cy ad oq (((st.take (bCe k2).2.2.2.2.2.1).reverse).map (bVal ad oq)) S) (((st.take (bCe k2).2.2.2.2.2.1).reverse).map (bVal ad oq)) := ⟨bPc_blind, fun U hU hW => ⟨rfl, hpre U hU hW⟩⟩
        have hstk : (F0 m pc lsR (st.map (bVal ad oq))).stack = (((st.take (bCe k2).2.2.2.2.2.1).reverse).map (bVal ad oq)).reverse ++ (st.drop (bCe k2).2.2.2.2.2.1).map (bVal ad oq) := by
          show st.map (bVal ad oq) = _
          rw [← List.map_reverse, List.reverse_reverse, ← List.map_append, List.take_append_drop]
        have hlenA : (((st.take (bCe k2).2.2.2.2.2.1).reverse).map (bVal ad oq)).length = (bCe k2).2.2.2.2.2.1 := by
          simp
          omega
        cases b2 with
        | false =>
          exact bback C0 (va_runS (own := bRN (bCe k).1) ⟨hx, hb, hml, hown, hts⟩ hM ⟨callB_of _ hts (bWS_good hmk) rfl rfl rfl hini (hts _ (bGW_in w1 rfl)) ⟨b3, b4, b6⟩ (hroom b5), hstt⟩ hPS rfl hlenA hsz hstk (by show 2 * 0 + _ ≤ 8; rw [bsum_le ho]; omega) hdg ⟨hc, hsl⟩) hL hS kk
        | true =>
          exact bback C0 (va_runSN (own := bRN (bCe k).1) (host := "PaperCutter") ⟨hx, hb, hml, hown, hts⟩ hM ⟨va_cnB _ hts (bWS_good hmk) rfl rfl rfl (hK.2.1 _ w1 rfl) hini ⟨b3, b4, b6⟩ (hroom b5), hstt, trivial⟩ hPS rfl hlenA hsz hstk (by show 2 * 0 + _ ≤ 8; rw [bsum_le ho]; omega) hdg ⟨hc, hsl⟩) hL hS kk
      · cases hs
  case invokevirtual idx =>
    have hl0 : len = 3 := by simpa [blen] using hlen
    subst hl0
    simp only [bcall] at hs
    split at hs
    · cases hs
    · rename_i k2 b2 hC
      split at hs
      · rename_i hcd
        obtain ⟨q1, qn, q2, q3, q4, q5⟩ := hcd
        split at hs
        · rename_i kk0 i0 j0 As hAs
          split at hs
          · rename_i hrec
            simp only [Option.some.injEq, Prod.mk.injEq] at hs
            obtain ⟨-, rfl, rfl, rfl⟩ := hs
            obtain ⟨w1, w2⟩ := bC_ok hC
            have hmk := bmk w2 (bC_n16 hC)
            obtain ⟨b1, b2', b3, b4, b5, b6, b7⟩ := bMb_spec hmk.2.1
            rw [if_neg (by rw [q1]; decide)] at b6
            have hini := hts _ (bmk_ini hmk)
            have hins : (Jvm.Cond.instanceMethod (bCe k2).2.1).before args s = true := hts _ (bGW_in (hmk.1 _ (by simp [bMw, q1])) rfl)
            have hsel : (Jvm.Cond.selects (bCe k2).2.1.cls (bCe k2).2.1 (bCe k2).2.1).before args s = true := by
              rcases hmk.2.2 with h | h | h
              · rw [q1] at h; cases h
              · exact absurd h qn
              · exact hts _ (List.mem_filter.mpr ⟨h, rfl⟩)
            have hne : kk0 ≠ 39 := by
              rcases hrec with ⟨-, h⟩ | ⟨h, -⟩
              · exact bbok_ne h
              · rw [h]; decide
            have hcell : ∃ cellB : Cell, H[ad kk0 i0 j0]? = some cellB ∧ cellB.vm.isStatics = false ∧ s.vm.findClass (bCe k2).2.1.cls = some cellB.cls := by
              rcases hrec with ⟨h1, h2⟩ | ⟨rfl, h2, h3, rfl⟩
              · have hat := hH.1 kk0 i0 j0 h2
                rw [bcell_o h1] at hat
                obtain ⟨r, g1, cell, g2, g3, g4, -⟩ := hat
                refine ⟨cell, g2, by rw [g4]; rfl, ?_⟩
                have hr10 : (bCe k2).1 < 10 := by
                  have := (List.getElem?_eq_some_iff.mp g1).1
                  simpa [vwCl] using this
                have hcl := (hK.1.1 _ _ (bcl _ hr10)).2.1
                rw [b1, g3]
                exact hcl
              · obtain ⟨cell, g1, g2, g3, -⟩ := (hH.2.2.2.2.1 i0 h3).1
                refine ⟨cell, g1, g2, ?_⟩
                rw [b1, h2]
                exact g3
            have hmap : ((Sum.inr (Sum.inl (kk0, i0, j0)) : bV) :: As).map (bVal ad oq) = .ref (ad kk0 i0 j0) :: As.map (bVal ad oq) := by
              rw [List.map_cons, bval_ok hne]
            rw [hmap] at hM
            have hPV : PreV s H (bCe k2).2.1.cls (ad kk0 i0 j0) (bPc D cy ad oq (.ref (ad kk0 i0 j0) :: As.map (bVal ad oq)) S) (As.map (bVal ad oq)) := ⟨bPc_blind, hcell, fun U hU hW => ⟨rfl, hpre U hU hW⟩⟩
            have htk : st.take (bCe k2).2.2.2.2.2.1 = As.reverse ++ [.inr (.inl (kk0, i0, j0))] := by
              have := congrArg List.reverse hAs
              rw [List.reverse_reverse] at this
              rw [this, List.reverse_cons]
            have hstk : (F0 m pc lsR (st.map (bVal ad oq))).stack = (As.map (bVal ad oq)).reverse ++ .ref (ad kk0 i0 j0) :: (st.drop (bCe k2).2.2.2.2.2.1).map (bVal ad oq) := by
              show st.map (bVal ad oq) = _
              conv => lhs; rw [← List.take_append_drop (bCe k2).2.2.2.2.2.1 st, htk]
              rw [List.map_append, List.map_append, List.map_cons, List.map_nil, bval_ok hne, List.map_reverse]
              simp
            have hlenA : (As.map (bVal ad oq)).length = (bCe k2).2.2.2.2.2.1 - 1 := by
              have h1 := congrArg List.length htk
              simp at h1 ⊢
              omega
            cases b2 with
            | false =>
              exact bback C0 (va_runV (own := bRN (bCe k).1) (C := (bCe k2).2.1.cls) ⟨hx, hb, hml, hown, hts⟩ hM ⟨callB_of _ hts (bWS_good hmk) rfl rfl rfl hini (hts _ (bGW_in w1 rfl)) ⟨b3, b4, b6⟩ (hroom b5), hins, hsel⟩ hPV rfl hlenA hsz hstk (by show 2 * 0 + _ ≤ 8; rw [bsum_le ho]; omega) hdg ⟨hc, hsl⟩) hL hS kk
            | true =>
              exact bback C0 (va_runVN (own := bRN (bCe k).1) (C := (bCe k2).2.1.cls) (host := "PaperCutter") ⟨hx, hb, hml, hown, hts⟩ hM ⟨va_cnB _ hts (bWS_good hmk) rfl rfl rfl (hK.2.1 _ w1 rfl) hini ⟨b3, b4, b6⟩ (hroom b5), hins, hsel⟩ hPV rfl hlenA hsz hstk (by show 2 * 0 + _ ≤ 8; rw [bsum_le ho]; omega) hdg ⟨hc, hsl⟩) hL hS kk
          · cases hs
        · cases hs
      · cases hs
  all_goals exact absurd hs (by simp [bcall])
/-- a return of an ordinary method -/
theorem bretW (C : bCx p R s m args c D cy ad oq (bA ad) k) (hr : meth.sig.returnType = (bCe k).2.2.2.2.1) (hlocks : meth.locks = false) {len : Nat} {x : Instr} (hi : ins k pc = some (x, len)) {r : Option bV} (hs : bret (bCe k).2.2.2.2.1 x (pc, ls, st, S) = some (P, r)) (hP : P) {Q : Option bV → bSt → Prop} (hQ : Q r S) (hH : bHR D cy ad oq S s H) (hS : va_S (bA ad) s.heap H locs) : W p l e R s m args below meth c H locs cells slots (MQ below (bQc D cy ad oq Q) args s cells slots (bA ad)) (F0 m pc lsR (st.map (bVal ad oq))) := by
  obtain ⟨hdg, hlen⟩ := bdec hi
  obtain ⟨hx, hb, -⟩ := C
  have key : ∀ (v : Option Value), v = r.map (bVal ad oq) → ∀ t : State, t.heap = H → s.WarmedH t.vm → bQc D cy ad oq Q args s (.returned v) t := by
    intro v hv t ht hW
    subst hv
    exact ⟨⟨r, S, rfl, hQ, by rw [ht]; exact bHR.moved hW.alike hH⟩, hS.F ht⟩
  cases x
  case ireturn =>
    have hl0 : len = 1 := by simpa [blen] using hlen
    subst hl0
    simp only [bret] at hs
    split at hs
    · rename_i v
      split at hs
      · rename_i ty hty
        simp only [Option.some.injEq, Prod.mk.injEq] at hs
        obtain ⟨rfl, rfl⟩ := hs
        exact W.zret hx hb (hr.trans hty) hP (key _ rfl) hS.2.2 hdg hlocks
      · cases hs
    · cases hs
  case areturn =>
    have hl0 : len = 1 := by simpa [blen] using hlen
    subst hl0
    simp only [bret] at hs
    split at hs
    · rename_i a
      split at hs
      · cases hs
      · rename_i h9
        have e9 : bVal ad oq (.inr (.inl a)) = .ref (ad a.1 a.2.1 a.2.2) := if_neg h9
        split at hs
        · rename_i nn hty
          simp only [Option.some.injEq, Prod.mk.injEq] at hs
          obtain ⟨rfl, rfl⟩ := hs
          rw [List.map_cons, e9]
          exact W.aret hx hb (hr.trans hty) (Or.inl ⟨_, rfl⟩) (Or.inr ⟨_, rfl⟩) (key _ (by rw [Option.map_some, e9])) hS.2.2 hdg hlocks
        · rename_i nn hty
          simp only [Option.some.injEq, Prod.mk.injEq] at hs
          obtain ⟨rfl, rfl⟩ := hs
          rw [List.map_cons, e9]
          exact W.aret hx hb (hr.trans hty) (Or.inr ⟨_, rfl⟩) (Or.inr ⟨_, rfl⟩) (key _ (by rw [Option.map_some, e9])) hS.2.2 hdg hlocks
        · cases hs
    · cases hs
  case return_ =>
    have hl0 : len = 1 := by simpa [blen] using hlen
    subst hl0
    simp only [bret] at hs
    split at hs
    · split at hs
      · rename_i hty
        simp only [Option.some.injEq, Prod.mk.injEq] at hs
        obtain ⟨rfl, rfl⟩ := hs
        exact W.vret hx hb (hr.trans hty) (key _ rfl) hS.2.2 hdg hlocks
      · cases hs
    · cases hs
  all_goals exact absurd hs (by simp [bret])
end BCALL
theorem bofW {l : Launch} {y : MethodName} {ws ws' : List Jvm.Cond} {rm : Room} {Pc : Array Value → State → Prop} {Qc : Array Value → State → Outcome → State → Prop} {mc ms : Nat} {free : Addr → Prop} {cc : ByteArray} {maxL : Nat} {ret : Option FieldType}
    (hy : plainFor y = true) (hw : ws = Jvm.Cond.code y cc maxL ret :: ws')
    (body : ∀ p e s m args below meth c s₁, BodyLoose p l y (headSpec ws rm) cc maxL ret e s m args below meth c s₁ → c.maxLocals = maxL → Pc args s →
      W p l e (headSpec ws rm).room s m args below meth c s.heap [] 0 0 (MQ below Qc args s mc ms free) (entryFrame m args maxL)) : Met l y ws rm Pc Qc mc ms free := by
  refine MetFree.of_bodySF (code := cc) (maxLocals := maxL) (ret := ret) hy ?_ ?_
  · intro args s m h hn
    obtain ⟨meth, c, h1, h2, h3, h4, h5, h6, -, -⟩ := Cond.code_spec hn (atoms_spec (ws := ws) h _ (by rw [hw]; exact List.mem_cons_self))
    exact ⟨meth, c, h1, h2, h3, h4, h5, h6⟩
  · intro p e s m args below meth c s₁ B hml hP _
    have hh0 : s₁.heap = s.heap := by rw [B.state]; rfl
    obtain ⟨t, a1, o, b1, b2, b3⟩ := body p e s m args below meth c s₁ B hml hP s₁ hh0 (Stand.of_body B)
    exact ⟨t, o, a1, b1, b2, ⟨b3.1, b3.2⟩⟩
theorem bLR_entry {ad : bAdT} {oq : Value} (ho : oq.category = 1) {as : List bV} {n : Nat} (hc : (as.map bCat).sum = as.length) (hn : as.length ≤ n) (mi : MethodId) : ∃ lsR : Array Slot, entryFrame mi (as.map (bVal ad oq)).toArray n = F0 mi 0 lsR [] ∧ bLR ad oq (as.map some ++ List.replicate (n - as.length) none) lsR n := by
  have hcat : ∀ v ∈ as, bCat v = 1 := by
    clear hn
    induction as with
    | nil => intro v hv; cases hv
    | cons a as ih =>
      have h1 : 1 ≤ bCat a := by unfold bCat; split <;> omega
      have h2 : as.length ≤ (as.map bCat).sum := by
        clear ih hc
        induction as with
        | nil => simp
        | cons b as ih2 =>
          have : 1 ≤ bCat b := by unfold bCat; split <;> omega
          simp only [List.map_cons, List.sum_cons, List.length_cons]
          omega
      simp only [List.map_cons, List.sum_cons, List.length_cons] at hc
      intro v hv
      rcases List.mem_cons.mp hv with rfl | hv
      · omega
      · exact ih (by omega) v hv
  have hsl : ∀ l : List bV, (∀ v ∈ l, bCat v = 1) → lg_sl (l.map (bVal ad oq)) = l.map (fun v => Slot.val (bVal ad oq v)) := by
    intro l hl
    induction l with
    | nil => rfl
    | cons a l ih =>
      have h1 : (bVal ad oq a).category = 1 := by rw [bcat_val ho]; exact hl a List.mem_cons_self
      have h2 := ih (fun v hv => hl v (List.mem_cons_of_mem _ hv))
      unfold lg_sl at h2 ⊢
      rw [List.map_cons, List.flatMap_cons, h2, h1]
      rfl
  have hla : ∀ (l : List bV) (i0 : Nat), (∀ v ∈ l, bCat v = 1) → ∀ (i : Nat) (v : bV), l[i]? = some v → (i0 + i, bVal ad oq v) ∈ lv_args i0 (l.map (bVal ad oq)) := by
    intro l
    induction l with
    | nil => intro i0 _ i v h; simp at h
    | cons a l ih =>
      intro i0 hl i v h
      have h1 : (bVal ad oq a).category = 1 := by rw [bcat_val ho]; exact hl a List.mem_cons_self
      simp only [List.map_cons, lv_args, h1]
      cases i with
      | zero =>
        cases h
        exact List.mem_cons_self
      | succ i =>
        refine List.mem_cons_of_mem _ ?_
        have := ih (i0 + 1) (fun v hv => hl v (List.mem_cons_of_mem _ hv)) i v (by simpa using h)
        rw [show i0 + (i + 1) = i0 + 1 + i by omega]
        exact this
  have hlen : (lg_sl (as.map (bVal ad oq))).length = as.length := by rw [hsl as hcat]; simp
  refine ⟨_, lg_entry_eq mi (as.map (bVal ad oq)) n, ?_, _, lv_entry (as.map (bVal ad oq)) (by rw [hlen]; exact hn), fun i v hv => ?_⟩
  · simp
    omega
  · by_cases hi : i < as.length
    · rw [List.getElem?_append_left (by simpa using hi)] at hv
      have hv2 : as[i]? = some v := by
        rw [List.getElem?_map] at hv
        cases ha : as[i]? with
        | none => rw [ha] at hv; cases hv
        | some w => rw [ha] at hv; cases hv; rfl
      refine ⟨hcat v (List.mem_of_getElem? hv2), ?_⟩
      have := hla as 0 hcat i v hv2
      rwa [Nat.zero_add] at this
    · rw [List.getElem?_append_right (by simpa using hi)] at hv
      have := List.mem_of_getElem? hv
      simp at this
/-- THE SOUNDNESS: what the abstract machine comes to, the machine comes to -/
theorem bsound {l : Launch} {D : va_G} {cy : Nat → ClassId} {ad : bAdT} {oq : Value} : ∀ (n d k : Nat) (f : bFr) (Q : Option bV → bSt → Prop), bwp n d k f Q → ∀ {p : Program} {e : Env} {R : Room} {s : State} {m : MethodId} {args : Array Value} {below : List Frame} {meth : Method} {c : Code} {cells slots : Nat} {Z : State → Prop} {A0 : Nat → Prop} {H0 : Heap},
    bCx p R s m args c D cy ad oq A0 k → d + 2 ≤ R.frames → 40 * (d + 3) ≤ R.locals → cells ≤ R.cells → slots ≤ R.slots →
    (∀ (x : Instr) (len pc : Nat) (ls : List (Option bV)) (st : List bV) (S : bSt) (P : Prop) (r : Option bV) (H : Heap) (locs : List Loc) (lsR : Array Slot), ins k pc = some (x, len) → bret (bCe k).2.2.2.2.1 x (pc, ls, st, S) = some (P, r) → P → Q r S → bLR ad oq ls lsR c.maxLocals → bHR D cy ad oq S s H → va_S A0 H0 H locs → W p l e R s m args below meth c H locs cells slots Z (F0 m pc lsR (st.map (bVal ad oq)))) →
    bGo p l e R s m args below meth c cells slots Z D cy ad oq A0 H0 f := by
  intro n
  induction n with
  | zero => intro d k f Q h; exact h.elim
  | succ n ih =>
    intro d k f Q h p e R s m args below meth c cells slots Z A0 H0 C hR1 hR2 hc hsl hret H locs lsR hL hH hS
    obtain ⟨pc, ls, st, S⟩ := f
    simp only [bwp] at h
    split at h
    · exact h.elim
    · rename_i x len hi
      split at h
      · rename_i P f' hs
        exact bstp C hi hs h.1 hL hH hS (ih d k f' Q h.2 C hR1 hR2 hc hsl hret)
      · split at h
        · rename_i P r hs
          exact hret x len pc ls st S P r H locs lsR hi hs h.1 h.2 hL hH hS
        · split at h
          · rename_i P k' as st' hs
            obtain ⟨hP, hd, hw⟩ := h
            refine bcallW C hi hs hd hR1 hR2 hc hsl (Q' := fun r S' => bwp n d k (pc + 3, ls, r.toList ++ st', S') Q) ?_ hL hH hS (fun r S' hq => ih d k _ Q hq C hR1 hR2 hc hsl hret)
            -- the callee's contract
            have hk' : k' < 267 ∧ (bCe k').1 ≠ 16 ∧ as.length ≤ (bCe k').2.2.2.1 ∧ (as.map bCat).sum = as.length := by
              cases x
              case invokestatic idx =>
                simp only [bcall] at hs
                split at hs
                · cases hs
                · rename_i k2 b2 hC
                  split at hs
                  · rename_i hcd
                    simp only [Option.some.injEq, Prod.mk.injEq] at hs
                    obtain ⟨-, rfl, rfl, rfl⟩ := hs
                    refine ⟨(bC_ok hC).2, bC_n16 hC, ?_, ?_⟩
                    · simp
                      omega
                    · rw [List.map_reverse, List.sum_reverse, hcd.2.2.1]
                      simp
                      omega
                  · cases hs
              case invokevirtual idx =>
                simp only [bcall] at hs
                split at hs
                · cases hs
                · rename_i k2 b2 hC
                  split at hs
                  · rename_i hcd
                    split at hs
                    · rename_i kk0 i0 j0 As hAs
                      split at hs
                      · simp only [Option.some.injEq, Prod.mk.injEq] at hs
                        obtain ⟨-, rfl, rfl, rfl⟩ := hs
                        rw [← hAs]
                        refine ⟨(bC_ok hC).2, bC_n16 hC, ?_, ?_⟩
                        · simp
                          omega
                        · rw [List.map_reverse, List.sum_reverse, hcd.2.2.2.1]
                          simp
                          omega
                      · cases hs
                    · cases hs
                  · cases hs
              all_goals exact absurd hs (by simp [bcall])
            obtain ⟨g1, g2, g3, g4⟩ := hk'
            have hmk := bmk g1 g2
            obtain ⟨b1, b2', b3, b4, b5, b6, b7⟩ := bMb_spec hmk.2.1
            have hinj := C.2.2.2.2.2.2.1
            have ho := C.2.2.2.2.2.2.2.2.1
            refine bofW (cc := (bCe k').2.2.1) (maxL := (bCe k').2.2.2.1) (ret := (bCe k').2.2.2.2.1) b2' rfl ?_
            intro p2 e2 s2 m2 args2 below2 meth2 c2 s₁ B hml hv
            obtain ⟨rfl, hH2, hK2⟩ := hv
            obtain ⟨lsR2, he, hL2⟩ := bLR_entry (ad := ad) ho g4 g3 m2
            rw [he]
            have hts := atoms_spec (ws := bWS k') B.pre
            have hcls : s2.vm.findClass (bRN (bCe k').1) = some m2.cls := by
              rw [← b1]
              exact findClass_of_methodNamed B.named
            have C2 : bCx p2 (bRm (d - 1)) s2 m2 (as.map (bVal ad oq)).toArray c2 D cy ad oq (bA ad) k' := ⟨B.exec, B.bytes, hml, hcls, fun w hw => hts w (List.mem_cons_of_mem _ hw), hK2, hinj, fun _ h => h, ho, by show 1 ≤ d - 1 + 2; omega, by show 100 ≤ 40 * (d - 1 + 3); omega⟩
            have hgo := ih (d - 1) k' (bent k' as S) _ hw (Z := MQ below2 (bQc D cy ad oq (fun r S' => bwp n d k (pc + 3, ls, r.toList ++ st', S') Q)) (as.map (bVal ad oq)).toArray s2 0 0 (bA ad)) (below := below2) (meth := meth2) (e := e2) (cells := 0) (slots := 0) (H0 := s2.heap) C2 (Nat.le_refl _) (Nat.le_refl _) (Nat.zero_le _) (Nat.zero_le _)
              (fun x len pc ls st S P r H locs lsR hi hs hP hQ _ hH hS => bretW C2 B.returns B.notSynchronized hi hs hP hQ hH hS)
            exact hgo s2.heap [] lsR2 (by rw [hml]; exact hL2) hH2 va_S.rf
          · exact h.elim
