/-! THE CONSTRUCTORS: the machine is sound; numbers, locals, jumps, numbers' stores -/
section K22
variable {p : Program} {l : Launch} {e : Env} {R : Room} {s : State} {m : MethodId} {args : Array Value} {below : List Frame} {meth : Method} {c : Code} {H : Heap} {locs : List Loc} {cells slots : Nat} {Z : State → Prop}
variable {D : va_G} {cy : Nat → ClassId} {A0 : Nat → Prop} {H0 : Heap} {k pc b bx e0 s0 : Nat} {ls : List (Option kV)} {lsR : Array Slot} {st : List kV} {es : List kE}
def kVal (b bx : Nat) (v : kV) : Value := match v with
  | .inl x => .int x
  | .inr (.inl none) => .null
  | .inr (.inl (some n)) => .ref (b + n)
  | .inr (.inr _) => .ref bx
theorem kVal_cat {v : kV} : (kVal b bx v).category = 1 := by
  rcases v with x | (_ | n) | u <;> rfl
def kEv (cy : Nat → ClassId) (b bx : Nat) (e : kE) : va_E := match e with
  | .inl o => .inr (o.1, o.2.map (kVal b bx))
  | .inr (t, N, .inl l) => .inl (cy t, N, .inl fun m => l.getD m 0)
  | .inr (t, N, .inr l) => .inl (cy t, N, .inr (.inr (.inr (.inr fun m => (l.getD m none).map fun n => b + n))))
def kHR (D : va_G) (cy : Nat → ClassId) (b bx : Nat) (es : List kE) (H : Heap) : Prop := H.size = b + es.length ∧ ∀ n x, es[n]? = some x → va_at D vwCl (b + n, kEv cy b bx x) H
def kLR (b bx : Nat) (ls : List (Option kV)) (lsR : Array Slot) (nL : Nat) : Prop := ls.length = nL ∧ ∃ lv, lv_has lsR nL lv ∧ ∀ i v, ls[i]? = some (some v) → (i, kVal b bx v) ∈ lv
def kKN (D : va_G) (cy : Nat → ClassId) (U : State) : Prop := va_K D vwCl (bTys cy) U ∧ (∀ w ∈ tables_1, bNest w = true → va_Nw w U) ∧ (va_AO "PaperCutter$Order" U ∧ va_AO "PaperCutter$Roll" U ∧ va_AO "PaperCutter$Run" U ∧ va_AO "PaperCutter$Plan" U ∧ va_AO "PaperCutter$Command" U) ∧ (Cond.arrayOver (.array .int)).before #[] U = true ∧ va_Nw (.castable "[I" "java/lang/Cloneable") U
def kCx (p : Program) (R : Room) (s : State) (m : MethodId) (args : Array Value) (meth : Method) (c : Code) (D : va_G) (cy : Nat → ClassId) (b : Nat) (A0 : Nat → Prop) (k : Nat) : Prop :=
  p.tables.exec = Jvm.exec ∧ c.code = (bCe k).2.2.1 ∧ c.maxLocals = (bCe k).2.2.2.1 ∧ s.vm.findClass (bRN (bCe k).1) = some m.cls ∧ (∀ w ∈ bGW, w.before args s = true) ∧ kKN D cy s ∧ (∀ q, b ≤ q → A0 q) ∧ (k ≠ 266 → meth.name = "<init>") ∧ 1 ≤ R.frames ∧ 100 ≤ R.locals
/-- from here on it goes well -/
def kGW (p : Program) (l : Launch) (e : Env) (R : Room) (s : State) (m : MethodId) (args : Array Value) (below : List Frame) (meth : Method) (c : Code) (Z : State → Prop) (D : va_G) (cy : Nat → ClassId) (b bx e0 s0 : Nat) (A0 : Nat → Prop) (H0 : Heap) (f : kF) : Prop := ∀ (H : Heap) (locs : List Loc) (lsR : Array Slot), kLR b bx f.2.1 lsR c.maxLocals → kHR D cy b bx f.2.2.2 H → va_S A0 H0 H locs → W p l e R s m args below meth c H locs (f.2.2.2.length - e0) (kSm f.2.2.2 - s0) Z (F0 m f.1 lsR (f.2.2.1.map (kVal b bx)))
theorem kLR_at {nL : Nat} (h : kLR b bx ls lsR nL) {i : Nat} {v : kV} (hv : ls[i]? = some (some v)) : lsR[i]? = some (.val (kVal b bx v)) := by
  obtain ⟨h1, lv, h2, h3⟩ := h
  obtain ⟨q, hq⟩ := List.getElem?_of_mem (h3 _ _ hv)
  exact lv_at h2 q hq
theorem kLR_set {nL i : Nat} {v : kV} {lv : List (Nat × Value)} {lsR' : Array Slot} (hn : ls.length = nL) (h2 : ∀ i v, ls[i]? = some (some v) → (i, kVal b bx v) ∈ lv)
    (h : lv_has lsR' nL ((i, kVal b bx v) :: lv.filter (fun q => !(q.1 == i) && !(q.1 + 1 == i && q.2.category == 2)))) : kLR b bx (ls.set i (some v)) lsR' nL := by
  refine ⟨by simpa using hn, _, h, fun j w hj => ?_⟩
  by_cases hji : j = i
  · subst hji
    have hl : j < ls.length := by
      have := (List.getElem?_eq_some_iff.mp hj).1
      simpa using this
    rw [List.getElem?_set_self hl] at hj
    cases hj
    exact List.mem_cons_self
  · rw [List.getElem?_set_ne (Ne.symm hji)] at hj
    refine List.mem_cons_of_mem _ (List.mem_filter.mpr ⟨h2 j w hj, ?_⟩)
    simp only [kVal_cat]
    simp [hji]
theorem ks_aload (C : kCx p R s m args meth c D cy b A0 k) {n0 : Fin 4} (hdg : decode (bCe k).2.2.1 pc = .ok (.aload_n n0, 1)) {v : Nat} (hv : ls[(n0 : Nat)]? = some (some (kR v))) (kk : kGW p l e R s m args below meth c Z D cy b bx e0 s0 A0 H0 (pc + 1, ls, kR v :: st, es)) : kGW p l e R s m args below meth c Z D cy b bx e0 s0 A0 H0 (pc, ls, st, es) :=
  fun H locs lsR hL hH hS => lv_aload_n C.1 C.2.1 hdg rfl (kLR_at hL hv) (kk H locs lsR hL hH hS)
theorem ks_iload (C : kCx p R s m args meth c D cy b A0 k) {n0 : Fin 4} (hdg : decode (bCe k).2.2.1 pc = .ok (.iload_n n0, 1)) {v : Int32} (hv : ls[(n0 : Nat)]? = some (some (kI v))) (kk : kGW p l e R s m args below meth c Z D cy b bx e0 s0 A0 H0 (pc + 1, ls, kI v :: st, es)) : kGW p l e R s m args below meth c Z D cy b bx e0 s0 A0 H0 (pc, ls, st, es) :=
  fun H locs lsR hL hH hS => lv_iload_n C.1 C.2.1 hdg rfl (kLR_at hL hv) (kk H locs lsR hL hH hS)
theorem ks_iconst (C : kCx p R s m args meth c D cy b A0 k) {n0 : Int} (hdg : decode (bCe k).2.2.1 pc = .ok (.iconst n0, 1)) (kk : kGW p l e R s m args below meth c Z D cy b bx e0 s0 A0 H0 (pc + 1, ls, kI (Int32.ofInt n0) :: st, es)) : kGW p l e R s m args below meth c Z D cy b bx e0 s0 A0 H0 (pc, ls, st, es) :=
  fun H locs lsR hL hH hS => lv_iconst C.1 C.2.1 hdg rfl (kk H locs lsR hL hH hS)
theorem ks_bipush (C : kCx p R s m args meth c D cy b A0 k) {n0 : Int} (hdg : decode (bCe k).2.2.1 pc = .ok (.bipush n0, 2)) (kk : kGW p l e R s m args below meth c Z D cy b bx e0 s0 A0 H0 (pc + 2, ls, kI (Int8.ofInt n0).toInt32 :: st, es)) : kGW p l e R s m args below meth c Z D cy b bx e0 s0 A0 H0 (pc, ls, st, es) :=
  fun H locs lsR hL hH hS => lv_bipush C.1 C.2.1 hdg rfl (kk H locs lsR hL hH hS)
theorem ks_sipush (C : kCx p R s m args meth c D cy b A0 k) {n0 : Int} (hdg : decode (bCe k).2.2.1 pc = .ok (.sipush n0, 3)) (kk : kGW p l e R s m args below meth c Z D cy b bx e0 s0 A0 H0 (pc + 3, ls, kI (Int16.ofInt n0).toInt32 :: st, es)) : kGW p l e R s m args below meth c Z D cy b bx e0 s0 A0 H0 (pc, ls, st, es) :=
  fun H locs lsR hL hH hS => lv_sipush C.1 C.2.1 hdg rfl (kk H locs lsR hL hH hS)
theorem ks_istore (C : kCx p R s m args meth c D cy b A0 k) {n0 : Fin 4} (hdg : decode (bCe k).2.2.1 pc = .ok (.istore_n n0, 1)) {v : Int32} (hn : (n0 : Nat) < ls.length) (kk : kGW p l e R s m args below meth c Z D cy b bx e0 s0 A0 H0 (pc + 1, ls.set (n0 : Nat) (some (kI v)), st, es)) : kGW p l e R s m args below meth c Z D cy b bx e0 s0 A0 H0 (pc, ls, kI v :: st, es) := by
  intro H locs lsR hL hH hS
  obtain ⟨hLn, lv, h1, h2⟩ := hL
  exact lv_istore_n (x := v) C.1 C.2.1 hdg rfl h1 (by rw [← hLn]; exact hn) rfl (fun lsR' hl' => kk H locs lsR' (kLR_set (v := kI v) hLn h2 hl') hH hS)
theorem ks_astore (C : kCx p R s m args meth c D cy b A0 k) {n0 : Fin 4} (hdg : decode (bCe k).2.2.1 pc = .ok (.astore_n n0, 1)) {v : Nat} (hn : (n0 : Nat) < ls.length) (kk : kGW p l e R s m args below meth c Z D cy b bx e0 s0 A0 H0 (pc + 1, ls.set (n0 : Nat) (some (kR v)), st, es)) : kGW p l e R s m args below meth c Z D cy b bx e0 s0 A0 H0 (pc, ls, kR v :: st, es) := by
  intro H locs lsR hL hH hS
  obtain ⟨hLn, lv, h1, h2⟩ := hL
  exact lv_astore_n (x := b + v) C.1 C.2.1 hdg rfl h1 (by rw [← hLn]; exact hn) rfl (fun lsR' hl' => kk H locs lsR' (kLR_set (v := kR v) hLn h2 hl') hH hS)
theorem ks_iinc (C : kCx p R s m args meth c D cy b A0 k) {n0 : Nat} {c0 : Int} (hdg : decode (bCe k).2.2.1 pc = .ok (.iinc n0 c0, 3)) {v : Int32} (hv : ls[n0]? = some (some (kI v))) (kk : kGW p l e R s m args below meth c Z D cy b bx e0 s0 A0 H0 (pc + 3, ls.set n0 (some (kI (v + Int32.ofInt c0))), st, es)) : kGW p l e R s m args below meth c Z D cy b bx e0 s0 A0 H0 (pc, ls, st, es) := by
  intro H locs lsR hL hH hS
  have hn : n0 < ls.length := (List.getElem?_eq_some_iff.mp hv).1
  obtain ⟨hLn, lv, h1, h2⟩ := hL
  obtain ⟨q, hq⟩ := List.getElem?_of_mem (h2 _ _ hv)
  exact lv_iinc (x := v) C.1 C.2.1 hdg h1 hq rfl (by rw [← hLn]; exact hn) rfl (fun lsR' hl' => kk H locs lsR' (kLR_set (v := kI (v + Int32.ofInt c0)) hLn h2 hl') hH hS)
theorem ks_goto (C : kCx p R s m args meth c D cy b A0 k) {off : Int} (hdg : decode (bCe k).2.2.1 pc = .ok (.goto off, 3)) (h0 : 0 ≤ (pc : Int) + off) (kk : kGW p l e R s m args below meth c Z D cy b bx e0 s0 A0 H0 (bTg pc off, ls, st, es)) : kGW p l e R s m args below meth c Z D cy b bx e0 s0 A0 H0 (pc, ls, st, es) :=
  fun H locs lsR hL hH hS => lv_goto C.1 C.2.1 hdg (btg_ok h0) (kk H locs lsR hL hH hS)
theorem ks_icmp (C : kCx p R s m args meth c D cy b A0 k) {off : Int} {x y : Int32} (hdg : decode (bCe k).2.2.1 pc = .ok (.if_icmp .ge off, 3)) (h0 : 0 ≤ (pc : Int) + off) (kk : kGW p l e R s m args below meth c Z D cy b bx e0 s0 A0 H0 (if y ≤ x then bTg pc off else pc + 3, ls, st, es)) : kGW p l e R s m args below meth c Z D cy b bx e0 s0 A0 H0 (pc, ls, kI y :: kI x :: st, es) := by
  intro H locs lsR hL hH hS
  have kk' := kk H locs lsR hL hH hS
  dsimp only at kk'
  exact lv_icmp_ge C.1 C.2.1 hdg (btg_ok h0) (fun h => by simpa [h] using kk') (fun h => by simpa [h] using kk')
theorem ks_dup (C : kCx p R s m args meth c D cy b A0 k) {v : kV} (hdg : decode (bCe k).2.2.1 pc = .ok (.dup, 1)) (kk : kGW p l e R s m args below meth c Z D cy b bx e0 s0 A0 H0 (pc + 1, ls, v :: v :: st, es)) : kGW p l e R s m args below meth c Z D cy b bx e0 s0 A0 H0 (pc, ls, v :: st, es) :=
  fun H locs lsR hL hH hS => lv_dup C.1 C.2.1 hdg kVal_cat (kk H locs lsR hL hH hS)
/-- one cell is written -/
theorem kHR_set {r : Nat} {x y : kE} {H H1 : Heap} (h : kHR D cy b bx es H) (hr : es[r]? = some x) (hz : H1.size = H.size) (hq : ∀ q, q ≠ b + r → H1[q]? = H[q]?) (hy : va_at D vwCl (b + r, kEv cy b bx y) H1) : kHR D cy b bx (es.set r y) H1 := by
  refine ⟨by rw [hz, h.1, List.length_set], fun n z hn => ?_⟩
  by_cases g : n = r
  · subst g
    have hl : n < es.length := (List.getElem?_eq_some_iff.mp hr).1
    rw [List.getElem?_set_self hl] at hn
    cases hn
    exact hy
  · rw [List.getElem?_set_ne (Ne.symm g)] at hn
    exact (h.2 n z hn).kept (hq _ (by omega))
theorem kSm_set {r : Nat} {x y : kE} (hr : es[r]? = some x) (hxy : keN x = keN y) : kSm (es.set r y) = kSm es := by
  have hm : (es.set r y).map keN = es.map keN := by
    refine List.ext_getElem? (fun n => ?_)
    rw [List.getElem?_map, List.getElem?_map]
    by_cases g : n = r
    · subst g
      have hl : n < es.length := (List.getElem?_eq_some_iff.mp hr).1
      rw [List.getElem?_set_self hl, hr]
      simp [hxy]
    · rw [List.getElem?_set_ne (Ne.symm g)]
  unfold kSm
  rw [hm]
/-- one cell is made -/
theorem kHR_app {y : kE} {H H1 : Heap} (h : kHR D cy b bx es H) (hz : H1.size = H.size + 1) (hq : ∀ q, q < H.size → H1[q]? = H[q]?) (hy : va_at D vwCl (b + es.length, kEv cy b bx y) H1) : kHR D cy b bx (es ++ [y]) H1 := by
  refine ⟨by rw [hz, h.1, List.length_append]; rfl, fun n z hn => ?_⟩
  by_cases g : n < es.length
  · rw [List.getElem?_append_left g] at hn
    exact (h.2 n z hn).kept (hq _ (by rw [h.1]; show b + n < b + es.length; omega))
  · have hl : n < (es ++ [y]).length := (List.getElem?_eq_some_iff.mp hn).1
    rw [List.length_append] at hl
    have : n = es.length := by
      have : ([y] : List kE).length = 1 := rfl
      omega
    subst this
    rw [List.getElem?_append_right (Nat.le_refl _), Nat.sub_self] at hn
    cases hn
    exact hy
theorem kSm_app {x : kE} : kSm (es ++ [x]) = kSm es + keN x := by
  unfold kSm
  rw [List.map_append, List.sum_append]
  simp
theorem kk_set {r : Nat} {x y : kE} (kk : kGW p l e R s m args below meth c Z D cy b bx e0 s0 A0 H0 (pc, ls, st, es.set r y)) (hr : es[r]? = some x) (hxy : keN x = keN y) (H1 : Heap) (locs1 : List Loc) (lsR : Array Slot) (hL : kLR b bx ls lsR c.maxLocals) (hH : kHR D cy b bx (es.set r y) H1) (hS : va_S A0 H0 H1 locs1) : W p l e R s m args below meth c H1 locs1 (es.length - e0) (kSm es - s0) Z (F0 m pc lsR (st.map (kVal b bx))) := by
  have this := kk H1 locs1 lsR hL hH hS
  dsimp only at this
  rw [List.length_set, kSm_set hr hxy] at this
  exact this
theorem kUp_at {α : Type} {l : List α} {d x : α} {n : Nat} : (kUp l d n x).getD n d = x := by
  unfold kUp
  split
  · rename_i h
    simp [List.getD, h]
  · rename_i h
    simp only [List.getD]
    rw [List.getElem?_append_right (by simp; omega)]
    have : n - (l ++ List.replicate (n - l.length) d).length = 0 := by simp; omega
    rw [this]
    rfl
theorem kUp_ne {α : Type} {l : List α} {d x : α} {n q : Nat} (h : ¬ q = n) : (kUp l d n x).getD q d = l.getD q d := by
  unfold kUp
  split
  · simp only [List.getD]
    rw [List.getElem?_set_ne (Ne.symm h)]
  · rename_i hn
    simp only [List.getD]
    by_cases g : q < l.length
    · rw [List.append_assoc, List.getElem?_append_left g]
    · rw [List.getElem?_eq_none (Nat.not_lt.mp g)]
      by_cases g2 : q < n
      · rw [List.getElem?_append_left (by simp; omega), List.getElem?_append_right (Nat.not_lt.mp g)]
        rw [List.getElem?_replicate, if_pos (by omega)]
        rfl
      · rw [List.getElem?_eq_none (by simp; omega)]
theorem ks_iast (C : kCx p R s m args meth c D cy b A0 k) {x n : Int32} {r N : Nat} {lx : List Int32} (hdg : decode (bCe k).2.2.1 pc = .ok (.iastore, 1)) (hr : es[r]? = some (.inr (0, N, .inl lx))) (h0 : 0 ≤ n) (hN : n.toNatClampNeg < N) (kk : kGW p l e R s m args below meth c Z D cy b bx e0 s0 A0 H0 (pc + 1, ls, st, es.set r (.inr (0, N, .inl (kUp lx 0 n.toNatClampNeg x))))) : kGW p l e R s m args below meth c Z D cy b bx e0 s0 A0 H0 (pc, ls, kI x :: kI n :: kR r :: st, es) := by
  intro H locs lsR hL hH hS
  have ha := hH.2 r _ hr
  have hn0 : ¬ n < 0 := Int32.not_lt.mpr h0
  refine W.iast C.1 C.2.1 ha ((C.2.2.2.2.2.1.1.2 0 _ rfl).1 N (fun j => .int (lx.getD j 0))) (fun q => by cases q) (by show ¬ (n < 0 ∨ (arrV _ _ _).slots.size ≤ _); rw [arrV_size]; intro q; rcases q with q | q; exact hn0 q; exact Nat.not_le.mpr hN q) rfl rfl hdg fun H1 e1 z1 oq1 => ?_
  have key : va_at D vwCl (b + r, kEv cy b bx (.inr (0, N, .inl (kUp lx 0 n.toNatClampNeg x)))) H1 := by
    show H1[_]? = some (vp_cell _ _)
    rw [e1, vp_cell_i, vp_cell_i, arrV_store]
    congr 2
    funext q
    by_cases hq : q = n.toNatClampNeg
    · subst hq
      simp only [updV, if_true]
      rw [kUp_at]
    · simp only [updV, if_neg hq]
      rw [kUp_ne hq]
  exact kk_set kk hr rfl H1 _ lsR hL (kHR_set hH hr z1 oq1 key) (hS.put z1 oq1 (C.2.2.2.2.2.2.1 _ (Nat.le_add_right _ _)))
end K22
