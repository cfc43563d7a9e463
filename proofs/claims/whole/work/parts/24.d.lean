/-! THE CLAIM OUT OF ONE WALK OF THE LAW'S BODY. Your part is whole_start (and what it stands on); all else here is the same for every law, but numbers. -/
def R_law : String := "PaperCutterLaw"
def lw_P (b : Addr) (xs : List Int32) (args : Array Value) (s : State) : Prop := args = #[.ref b] ∧ s.IntsAt b xs ∧ xs.length ≤ 3584 ∧ (Jvm.Cond.and given_1 narrow_1).before args s = true
def lw_Q (_ : Array Value) (s : State) (o : Outcome) (t : State) : Prop := o = .returned (some (.int 1)) ∧ Framed s o t [] 600000 7302250
def lw_Z (below : List Frame) (a : Array Value) (s : State) : State → Prop := fun t => ∃ o, t.status = .running ∧ Ended t below o ∧ lw_Q a s o t
/-- the law's own end, with 1 on the stack, nothing written that was there before, its room as the claim has it -/
theorem lw_ret {p : Program} {l : Launch} {e : Env} {s : State} {m : MethodId} {below : List Frame} {meth : Method} {c : Code} {b : Nat} (hx : p.tables.exec = Jvm.exec) (hb : c.code = code) (hr : meth.sig.returnType = ret) (hlocks : meth.locks = false) {pc : Nat} {H : Heap} {ls : Array Slot} (hdg : decode code pc = .ok (.ireturn, 1)) : W p l e room_1 s m #[Value.ref b] below meth c H [] 600000 7302250 (lw_Z below #[Value.ref b] s) (F0 m pc ls [.int 1]) := by
  intro T hT X
  obtain ⟨fs, hret, hrun, hended, hW, hframe⟩ := X.leave (v := some (.int 1)) (hlocks := hlocks) (fun h => by rw [hr] at h; cases h)
  have hmeth' : T.vm.method? m = some meth := X.method'
  refine ⟨T.setFrames fs, ?_, .returned (some (.int 1)), hrun, hended, rfl, ⟨_, rfl⟩, hW, hframe⟩
  jvm_step X.here [X.here.top, hx, hb, hdg, hmeth', hr, ret, narrow_b1]
  (try refine ⟨rfl, ?_⟩); (try refine ⟨rfl, ?_⟩)
  first | (intro acts; rw [hret _ acts rfl rfl rfl]) | rw [hret _ _ rfl rfl rfl]
  exact Steps.refl _
/-- what holds at the law's entry: the machine, the code, the tables' words (any of lw_tbl by 'hts w (by decide +kernel)'), the script of L ints xs at the cell b, what the Statement gives of the start (any of its parts by flat_of_before) -/
def lw_At (p : Program) (s : State) (m : MethodId) (meth : Method) (c : Code) (b L : Nat) (xs : Nat → Int32) : Prop :=
  p.tables.exec = Jvm.exec ∧ c.code = code ∧ meth.sig.returnType = ret ∧ c.maxLocals = 4 ∧ s.vm.findClass R_law = some m.cls ∧ (∀ w ∈ lw_tbl, w.before #[Value.ref b] s = true) ∧ va_X b L xs s s.heap ∧ b < s.heap.size ∧ meth.locks = false ∧ (Jvm.Cond.and given_1 narrow_1).before #[Value.ref b] s = true
section M24d
theorem bret_i {rt : Option FieldType} {x : Instr} {f : bFr} {P : Prop} {v : Int32} (h : bret rt x f = some (P, some (vI v))) : x = .ireturn ∧ f.2.2.1 = [.inl v] := by
  unfold bret at h
  split at h
  · split at h
    · rename_i w hw
      split at h
      · simp only [Option.some.injEq, Prod.mk.injEq] at h
        have h2 : w = v := Sum.inl.inj h.2
        subst h2
        exact ⟨rfl, hw⟩
      · cases h
    · cases h
  · split at h
    · split at h
      · cases h
      · split at h <;> cases h
    · cases h
  · split at h
    · split at h <;> cases h
    · cases h
  · cases h
theorem kLR_law {b bx : Nat} (mi : MethodId) : ∃ lsR : Array Slot, entryFrame mi ([Value.ref bx] : List Value).toArray 4 = F0 mi 0 lsR [] ∧ kLR b bx [some kX, none, none, none] lsR 4 := by
  have hl := lv_entry ([Value.ref bx]) (n := 4) (Nat.le_of_ble_eq_true rfl)
  refine ⟨_, lg_entry_eq mi [Value.ref bx] 4, rfl, _, hl, fun i v hv => ?_⟩
  cases i with
  | zero =>
    cases hv
    exact List.mem_cons_self
  | succ i =>
    rw [List.getElem?_cons_succ] at hv
    have h := List.mem_of_getElem? hv
    simp at h
theorem kce_c : (bCe 266).2.2.1 = code := by first | rfl | decide +kernel
theorem kce_l : (bCe 266).2.2.2.1 = 4 := by decide +kernel
theorem kce_n : bRN (bCe 266).1 = R_law := by decide +kernel
theorem kce_1 : (bCe 266).1 = 16 := by decide +kernel
theorem kAll_n : kAll.length ≤ 600000 := by decide +kernel
theorem kAll_s : kSm kAll ≤ 7302250 := by decide +kernel
/-- from the entry, for every script of at most 3584 ints, the law comes to its end with true -/
theorem whole_start {p : Program} {e : Env} {s : State} {m : MethodId} {below : List Frame} {meth : Method} {c : Code} (l : Launch) (hflags : l.flags = flags0) {b L : Nat} {xs : Nat → Int32} (hL : L ≤ 3584) (C0 : lw_At p s m meth c b L xs) : W p l e room_1 s m #[Value.ref b] below meth c s.heap [] 0 0 (lw_Z below #[Value.ref b] s) (entryFrame m ([Value.ref b] : List Value).toArray 4) := by
  obtain ⟨hx, hb, hr, hml, hown, hts, hX, hbl, hlocks, hgv⟩ := C0
  have ht : ∀ w ∈ tables_1, w.before #[Value.ref b] s = true := fun w hw => hts w (List.mem_append_right _ hw)
  have hgw : ∀ w ∈ bGW, w.before #[Value.ref b] s = true := fun w hw => hts w (List.mem_filter.mp hw).1
  have hs : ∀ c ∈ kNar, c.before #[Value.ref b] s = true := flat_of_before _ hgv
  obtain ⟨D, cy, hK⟩ := kKN_ex ht
  have hF := kFS_ex ht hs (va_nm_int (hK.1.2 0 _ rfl).2)
  obtain ⟨a33, e33, t33⟩ := kT33 hs
  obtain ⟨a34, e34, t34⟩ := kT34 hs
  obtain ⟨a35, e35, t35⟩ := kT35 hs
  have z33 := kZ3 ht (by decide +kernel) e33
  have z34 := kZ3 ht (by decide +kernel) e34
  have z35 := kZ3 ht (by decide +kernel) e35
  have zc := kCS ht hs
  obtain ⟨oq, hoq, zq⟩ := kSI ht hs
  obtain ⟨sa, sb, hst, hev⟩ := kStr hs
  have hbc : c.code = (bCe 266).2.2.1 := hb.trans kce_c.symm
  have hmc : c.maxLocals = (bCe 266).2.2.2.1 := hml.trans kce_l.symm
  have hoc : s.vm.findClass (bRN (bCe 266).1) = some m.cls := by rw [kce_n]; exact hown
  have hf1 : 1 ≤ room_1.frames := Nat.le_of_ble_eq_true rfl
  have hl1 : 100 ≤ room_1.locals := Nat.le_of_ble_eq_true rfl
  have C : kCx p room_1 s m #[Value.ref b] meth c D cy s.heap.size (kFr s) 266 := ⟨hx, hbc, hmc, hoc, hgw, hK, fun _ h => h, fun h => absurd rfl h, hf1, hl1⟩
  have C2 : bCx p room_1 s m #[Value.ref b] c D cy (kAd s.heap.size a33 a34 a35 b sa sb) oq (kFr s) 266 := ⟨hx, hbc, hmc, hoc, hgw, kbKN ht hK hev, kAd_inj, kA_fr, hoq, hf1, hl1⟩
  obtain ⟨lsR, he, hLR⟩ := kLR_law (b := s.heap.size) (bx := b) m
  rw [he]
  have hMu : kMul l := kMul_ok
  have hrun := ks_run (l := l) (e := e) (R := room_1) (below := below) (H0 := s.heap) (bx := b) (Z := lw_Z below #[Value.ref b] s) C hF (Or.inl kce_1) (kT2_ok 0 hMu) hMu (Nat.le_of_ble_eq_true rfl) (Nat.le_of_ble_eq_true rfl) kAll_n kAll_s _ _ _ kG_L (fun _ => ?_)
  · exact hrun s.heap [] lsR (by rw [hml]; exact hLR) ⟨rfl, fun n x hn => by simp at hn⟩ va_S.rf
  · intro H locs lsR2 hL2 hH2 hS2
    refine W.widen (k := 600000) (n := 7302250) (Nat.le_trans (Nat.sub_le _ _) kAll_n) (Nat.le_trans (Nat.sub_le _ _) kAll_s) ?_
    obtain ⟨n, hw⟩ := law_16 (L := L) (xs := xs) (by omega)
    refine bsound (l := l) (D := D) (cy := cy) (ad := kAd s.heap.size a33 a34 a35 b sa sb) (oq := oq) n 40 266 _ _ hw (R := room_1) (H0 := s.heap) C2 (Nat.le_of_ble_eq_true rfl) (Nat.le_of_ble_eq_true rfl) (Nat.le_refl _) (Nat.le_refl _) ?_ H locs lsR2 ?_ (kbHR (by omega) hX hbl t33 t34 t35 z33 z34 z35 zc zq hst hH2 hS2) hS2
    · intro x len pc ls st S P r H3 locs3 lsR3 hi hret hP hQ hL3 hH3 hS3
      subst hQ
      obtain ⟨rfl, hst3⟩ := bret_i hret
      obtain ⟨hdg, hlen⟩ := bdec hi
      have hl0 : len = 1 := by simpa [blen] using hlen
      subst hl0
      rw [kce_c] at hdg
      dsimp only at hst3
      subst hst3
      have hw3 := (lw_ret (p := p) (l := l) (e := e) (s := s) (m := m) (below := below) (b := b) (H := H3) (ls := lsR3) hx hb hr hlocks hdg).forget (L := locs3) hS3.2.2
      exact hw3
    · obtain ⟨g1, lv, g2, g3⟩ := hL2
      refine ⟨g1, lv, g2, fun i v hv => ?_⟩
      rcases (show i = 0 ∨ i = 1 ∨ i = 2 ∨ i = 3 ∨ 4 ≤ i by omega) with rfl | rfl | rfl | rfl | h4
      · cases hv
        exact ⟨rfl, g3 0 kX rfl⟩
      · cases hv
        exact ⟨rfl, g3 1 (kR 0) rfl⟩
      · cases hv
        exact ⟨rfl, g3 2 (kR 944) rfl⟩
      · cases hv
      · rw [List.getElem?_eq_none h4] at hv
        cases hv
end M24d
