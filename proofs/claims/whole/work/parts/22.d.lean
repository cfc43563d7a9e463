/-! THE CONSTRUCTORS: the machine is sound; a constructor is called -/
section K22d
variable {p : Program} {l : Launch} {e : Env} {R : Room} {s : State} {m : MethodId} {args : Array Value} {below : List Frame} {meth : Method} {c : Code} {H : Heap} {locs : List Loc} {cells slots : Nat} {Z : State → Prop}
variable {D : va_G} {cy : Nat → ClassId} {A0 : Nat → Prop} {H0 : Heap} {k pc b bx e0 s0 : Nat} {ls : List (Option kV)} {lsR : Array Slot} {st : List kV} {es : List kE}
theorem kAOA_moved {u U : State} (hvm : u.vm.Alike U.vm) (h : (Cond.arrayOver (.array .int)).before #[] u = true) : (Cond.arrayOver (.array .int)).before #[] U = true := by
  obtain ⟨comp, c, k, h1, h2, h3, h4, h5⟩ := arrayOverA_spec h
  obtain ⟨k', hk', he⟩ := hvm.2.2 _ _ h3
  have hi : (U.vm.classes.findIdx? fun (x : Class) => match x.kind with | .array component _ => component == comp | _ => false) = some c := by
    rw [hvm.findIdx?_eq _ (fun _ => rfl)]
    exact h2
  have hkind : k'.kind = .array comp (.array .int) := by rw [he]; exact h4
  have f1 : U.vm.findClass (FieldType.array .int).toString = some comp := by rw [hvm.findClass]; exact h1
  have f2 : U.vm.findClass ("[" ++ (FieldType.array .int).toString) = some c := by rw [hvm.findClass]; exact h5
  unfold Cond.before Cond.holds
  simp only [Cond.value]
  rw [f1, Option.bind_some]
  refine (congrArg (fun o : Option Nat => (o.bind (fun c => (U.vm.classes[c]?).map fun (k : Class) => match k.kind with | .array _ ty => decide (ty = FieldType.array .int) && decide (U.vm.findClass ("[" ++ (FieldType.array .int).toString) = some c) | _ => false) == some true)) hi).trans ?_
  simp [hk', hkind, f2]
theorem kKN.warm {s U : State} (hW : s.WarmedH U.vm) (h : kKN D cy s) : kKN D cy U := by
  obtain ⟨h1, h2, ⟨a1, a2, a3, a4, a5⟩, h3, h4⟩ := h
  refine ⟨va_K.moved hW.alike h1, fun w hw hn => ?_, ⟨a1.moved hW.alike, a2.moved hW.alike, a3.moved hW.alike, a4.moved hW.alike, a5.moved hW.alike⟩, kAOA_moved hW.alike h3, h4.warmC hW⟩
  have h9 := h2 w hw hn
  cases w <;> first | exact va_Nw.warmF hW h9 | exact va_Nw.warmM hW h9 | cases hn
theorem kKN.same {u U : State} (hvm : u.vm = U.vm) (h : kKN D cy u) : kKN D cy U := by
  obtain ⟨h1, h2, ⟨a1, a2, a3, a4, a5⟩, h3, h4⟩ := h
  have hA : u.vm.Alike U.vm := by rw [hvm]; exact Vm.Alike.refl _
  refine ⟨va_K.moved hA h1, fun w hw hn => ?_, ⟨a1.moved hA, a2.moved hA, a3.moved hA, a4.moved hA, a5.moved hA⟩, kAOA_moved hA h3, va_Nw.same rfl hvm h4⟩
  refine va_Nw.same ?_ hvm (h2 w hw hn)
  cases w <;> first | rfl | cases hn
/-- the first settings stand where nothing is written -/
def kFS (cy : Nat → ClassId) (A : Nat → Prop) (U : State) (H : Heap) : Prop := ∃ a, va_Z "PaperCutter" "FIRST_SETTING" "[I" (.ref a) A U H ∧ a < H.size ∧ ¬ A a ∧ ∃ cell : Cell, H[a]? = some cell ∧ (∀ q, cell.vm ≠ .statics q) ∧ cell.vm ≠ .unknown ∧ cell.cls = cy 0 ∧ cell.slots = (vp_cell (cy 0) (3, .inl fun m => ([6, 3, 20] : List Int32).getD m 0)).slots
theorem kFS.moved {A : Nat → Prop} {u U : State} (hvm : u.vm.Alike U.vm) (h : kFS cy A u H) : kFS cy A U H := by
  obtain ⟨a, h1, h2, h3, h4⟩ := h
  exact ⟨a, h1.moved hvm, h2, h3, h4⟩
theorem kFS.next {A B : Nat → Prop} {U : State} {H H1 : Heap} (h : kFS cy A U H) (hz : H.size ≤ H1.size) (hq : ∀ q, q < H.size → ¬ A q → H1[q]? = H[q]?) (hAB : ∀ q, B q → A q) : kFS cy B U H1 := by
  obtain ⟨a, h1, h2, h3, cell, h4, h5⟩ := h
  exact ⟨a, (h1.kept hq).narrow hAB, Nat.lt_of_lt_of_le h2 hz, fun q => h3 (hAB a q), cell, by rw [hq a h2 h3]; exact h4, h5⟩
def kRm (us : List kE) (dd : Nat) : Room := { frames := dd + 2, cells := us.length - 1, slots := kSm us - bNF (kHd us), locals := 40 * (dd + 3) }
def kPc (D : va_G) (cy : Nat → ClassId) (b bx : Nat) (us : List kE) : Array Value → State → Prop := va_Pc [.ref b] (fun U => kHR D cy b bx [.inl (kHd us, kDf (kHd us))] U.heap ∧ kKN D cy U ∧ kFS cy (fun q => b ≤ q) U U.heap)
def kQc (D : va_G) (cy : Nat → ClassId) (b bx : Nat) (us : List kE) : Array Value → State → Outcome → State → Prop := va_Qv (fun _ : Unit => True) (fun _ t => kHR D cy b bx us t.heap) (fun q => b ≤ q)
/-- a constructor's contract -/
def kM (l : Launch) (k dd : Nat) (us : List kE) : Prop := ∀ (D : va_G) (cy : Nat → ClassId) (b bx : Nat), Met l (bCe k).2.1 (bWS k) (kRm us dd) (kPc D cy b bx us) (kQc D cy b bx us) (us.length - 1) (kSm us - bNF (kHd us)) (fun q => b ≤ q)
theorem kPc_blind {us : List kE} : FrameBlind (kPc D cy b bx us) := by
  intro a U g mk h
  obtain ⟨h1, h2, h3, h4⟩ := h
  exact ⟨h1, h2, kKN.same (u := U) (U := U.calling g mk a) rfl h3, kFS.moved (u := U) (U := U.calling g mk a) (Vm.Alike.refl U.vm) h4⟩
theorem kvS_val {r : Nat} (v : kV) : kVal (b + r) bx v = kVal b bx (kvS r v) := by
  rcases v with x | (_ | n) | u
  · rfl
  · rfl
  · show Value.ref (b + r + n) = Value.ref (b + (n + r))
    rw [Nat.add_assoc, Nat.add_comm r n]
  · rfl
theorem keS_ev {r : Nat} (x : kE) : kEv cy (b + r) bx x = kEv cy b bx (keS r x) := by
  rcases x with ⟨ci, fs⟩ | ⟨t, N, lx | lx⟩
  · show (.inr (ci, fs.map (kVal (b + r) bx)) : va_E) = .inr (ci, (fs.map (kvS r)).map (kVal b bx))
    rw [List.map_map]
    congr 2
    exact List.map_congr_left (fun v _ => kvS_val v)
  · rfl
  · show (.inl (cy t, N, .inr (.inr (.inr (.inr fun m => (lx.getD m none).map fun n => b + r + n)))) : va_E) = .inl (cy t, N, .inr (.inr (.inr (.inr fun m => ((lx.map fun q => q.map fun n => n + r).getD m none).map fun n => b + n))))
    refine congrArg (fun f : Nat → Option Nat => (Sum.inl (cy t, N, Sum.inr (Sum.inr (Sum.inr (Sum.inr f)))) : va_E)) (funext fun m => ?_)
    simp only [List.getD, List.getElem?_map]
    cases lx[m]? with
    | none => rfl
    | some q =>
      cases q with
      | none => rfl
      | some n =>
        show some (b + r + n) = some (b + (n + r))
        rw [Nat.add_assoc, Nat.add_comm r n]
theorem keS_n {r : Nat} (x : kE) : keN (keS r x) = keN x := by
  rcases x with ⟨ci, fs⟩ | ⟨t, N, lx | lx⟩
  · show (fs.map (kvS r)).length = fs.length
    rw [List.length_map]
  · rfl
  · rfl
theorem kCl_ok {own idx k' : Nat} (h : kCl own idx = some k') : k' < 267 ∧ (bCe k').1 ≠ 16 ∧ (bCe k').2.1.name = "<init>" ∧ (bCe k').2.2.2.2.1 = none ∧ (bCe k').2.2.2.2.2.2 = false ∧ (bCe k').2.2.2.2.2.1 = 1 ∧ ((own = 16 ∧ Cond.methodLink (bRN own) idx (bCe k').2.1 ∈ tables_1) ∨ (own ≠ 16 ∧ Cond.methodLinkNest (bRN own) idx (bCe k').2.1 "PaperCutter" ∈ tables_1)) := by
  unfold kCl at h
  split at h <;> first | (cases h; done) | (cases h; exact ⟨by decide, by decide +kernel, by decide +kernel, by decide +kernel, by decide +kernel, by decide +kernel, by decide +kernel⟩)
theorem kSm_map {r : Nat} : ∀ us : List kE, kSm (us.map (keS r)) = kSm us := by
  intro us
  unfold kSm
  rw [List.map_map]
  congr 1
  exact List.map_congr_left (fun x _ => keS_n x)
/-- a constructor is called -/
theorem ks_ctor (C : kCx p R s m args meth c D cy b A0 k) (hF : kFS cy A0 s H0) (hown16 : (bCe k).1 = 16 ∨ (bCe k).1 < 10) {idx k' r dd : Nat} {us : List kE} (hdg : decode (bCe k).2.2.1 pc = .ok (.invokespecial idx, 3)) (hw : kCl (bCe k).1 idx = some k') (hM : kM l k' dd us) (hr : r + 1 = es.length) (he : es[r]? = some (.inl (kHd us, kDf (kHd us)))) (hu : 1 ≤ us.length) (hus : bNF (kHd us) ≤ kSm us) (hfr : dd + 3 ≤ R.frames) (hlo : 40 * (dd + 3) + 40 ≤ R.locals) (hst : st.length ≤ 8) (hc0 : e0 ≤ es.length) (hs0 : s0 ≤ kSm es) (hrc : es.length - e0 + (us.length - 1) ≤ R.cells) (hrs : kSm es - s0 + (kSm us - bNF (kHd us)) ≤ R.slots) (kk : kGW p l e R s m args below meth c Z D cy b bx e0 s0 A0 H0 (pc + 3, ls, st, es.take r ++ us.map (keS r))) : kGW p l e R s m args below meth c Z D cy b bx e0 s0 A0 H0 (pc, ls, kR r :: st, es) := by
  intro H locs lsR hL hH hS
  have C0 := C
  obtain ⟨hx, hb, hml, hown, hts, hK, hA, hin, hR1, hR2⟩ := C
  obtain ⟨w1, w2, w3, w4, w5, w6, w7⟩ := kCl_ok hw
  have hmk := bmk w1 w2
  obtain ⟨b1, b2', b3, b4, b5, b6, b7⟩ := bMb_spec hmk.2.1
  rw [if_neg (by rw [w5]; decide), w6] at b6
  have hini := hts _ (bmk_ini hmk)
  have hins : (Jvm.Cond.instanceMethod (bCe k').2.1).before args s = true := hts _ (bGW_in (hmk.1 _ (by simp [bMw, w5])) rfl)
  have hsz : lsR.size = (bCe k).2.2.2.1 := by
    obtain ⟨-, lv, h, -⟩ := hL
    rw [← hml]
    exact h.1
  have hz : H.size = b + es.length := hH.1
  have hat : va_at D vwCl (b + r + 0, kEv cy (b + r) bx (.inl (kHd us, kDf (kHd us)))) H := by
    have h := hH.2 r _ he
    have e : kEv cy (b + r) bx (.inl (kHd us, kDf (kHd us))) = kEv cy b bx (.inl (kHd us, kDf (kHd us))) := by
      show (.inr (_, (kDf _).map (kVal (b + r) bx)) : va_E) = .inr (_, (kDf _).map (kVal b bx))
      congr 2
      unfold kDf
      rw [List.map_map, List.map_map]
      refine List.map_congr_left (fun f _ => ?_)
      show kVal (b + r) bx (if _ then _ else _) = kVal b bx (if _ then _ else _)
      split <;> rfl
    rw [e]
    exact h
  have hpre : ∀ U : State, U.heap = H → s.WarmedH U.vm → kHR D cy (b + r) bx [.inl (kHd us, kDf (kHd us))] U.heap ∧ kKN D cy U ∧ kFS cy (fun q => b + r ≤ q) U U.heap := by
    intro U hU hW
    rw [hU]
    refine ⟨⟨by rw [hz]; show b + es.length = b + r + 1; omega, fun n x hn => ?_⟩, kKN.warm hW hK, kFS.moved hW.alike (hF.next hS.1 hS.2.1 (fun q hq => hA q (by omega)))⟩
    cases n with
    | zero => cases hn; exact hat
    | succ n => simp at hn
  have hPS : PreS s H (kPc D cy (b + r) bx us) [.ref (b + r)] := ⟨kPc_blind, fun U hU hW => ⟨rfl, hpre U hU hW⟩⟩
  have hroom : (kRm us dd).frames + 1 ≤ R.frames ∧ 8 + ((bCe k').2.2.2.1 + 11) + (kRm us dd).locals ≤ R.locals := by
    refine ⟨?_, ?_⟩
    · show dd + 2 + 1 ≤ R.frames
      omega
    · show 8 + ((bCe k').2.2.2.1 + 11) + 40 * (dd + 3) ≤ R.locals
      omega
  have hM' := hM D cy (b + r) bx
  have hws : bWS k' = Jvm.Cond.code (bCe k').2.1 (bCe k').2.2.1 (bCe k').2.2.2.1 none :: bGW := by unfold bWS; rw [w4]
  have back : va_Run p l e R s m args below meth c H locs (es.length - e0) (kSm es - s0) (us.length - 1) (kSm us - bNF (kHd us)) (F0 m pc lsR ((kR r :: st).map (kVal b bx))) (st.map (kVal b bx)) (kQc D cy (b + r) bx us [.ref (b + r)].toArray) (fun q => b + r ≤ q) := by
    rcases w7 with ⟨-, w7⟩ | ⟨-, w7⟩
    · exact va_runI (As := []) (own := bRN (bCe k).1) ⟨hx, hb, hml, hown, hts⟩ hM' ⟨callB_of _ hts (bWS_good hmk) hws rfl rfl hini (hts _ (bGW_in w7 rfl)) ⟨b3, b4, b6⟩ hroom, w3, hins⟩ hPS rfl rfl hsz rfl (by show 2 * 0 + ((st.map (kVal b bx)).map fun v => v.category).sum ≤ 8; rw [kVal_sum]; omega) hdg ⟨hrc, hrs⟩
    · exact va_runIN (As := []) (own := bRN (bCe k).1) (host := "PaperCutter") ⟨hx, hb, hml, hown, hts⟩ hM' ⟨va_cnB _ hts (bWS_good hmk) hws rfl rfl (hK.2.1 _ w7 rfl) hini ⟨b3, b4, b6⟩ hroom, w3, hins⟩ hPS rfl rfl hsz rfl (by show 2 * 0 + ((st.map (kVal b bx)).map fun v => v.category).sum ≤ 8; rw [kVal_sum]; omega) hdg ⟨hrc, hrs⟩
  refine va_callv back hS (fun q _ h => hA q (by omega)) (fun q h => hA q (by omega)) (fun u t H1 locs1 ht hvm _ hB hz1 hk1 hS1 => ?_)
  rw [ht] at hB
  have hH1 : kHR D cy b bx (es.take r ++ us.map (keS r)) H1 := by
    have hrl : (es.take r).length = r := by rw [List.length_take]; omega
    refine ⟨by rw [hB.1, List.length_append, hrl, List.length_map]; omega, fun n x hn => ?_⟩
    by_cases g : n < r
    · rw [List.getElem?_append_left (by rw [hrl]; exact g), List.getElem?_take, if_pos g] at hn
      exact (hH.2 n x hn).kept (hk1 (b + n) (by omega) (by show ¬ b + r ≤ b + n; omega))
    · rw [List.getElem?_append_right (by rw [hrl]; omega), hrl, List.getElem?_map] at hn
      cases hux : us[n - r]? with
      | none => rw [hux] at hn; cases hn
      | some y =>
        rw [hux] at hn
        cases hn
        have := hB.2 (n - r) y hux
        rw [keS_ev, show b + r + (n - r) = b + n by omega] at this
        exact this
  have this := kk H1 locs1 lsR hL hH1 hS1
  dsimp only at this
  have e1 : (es.take r ++ us.map (keS r)).length - e0 = es.length - e0 + (us.length - 1) := by
    rw [List.length_append, List.length_take, List.length_map]
    omega
  have e2 : kSm (es.take r ++ us.map (keS r)) - s0 = kSm es - s0 + (kSm us - bNF (kHd us)) := by
    have h1 : kSm (es.take r ++ us.map (keS r)) = kSm (es.take r) + kSm us := by
      rw [← kSm_map (r := r) us]
      unfold kSm
      rw [List.map_append, List.sum_append]
    have h2 : kSm es = kSm (es.take r) + bNF (kHd us) := by
      have h3 : es = es.take r ++ [.inl (kHd us, kDf (kHd us))] := by
        have h4 : r < es.length := by omega
        have h5 := List.take_append_drop r es
        rw [List.drop_eq_getElem_cons h4, (List.getElem?_eq_some_iff.mp he).2, List.drop_eq_nil_of_le (by omega)] at h5
        exact h5.symm
      conv => lhs; rw [h3]
      rw [kSm_app]
      congr 1
      exact kDf_len
    rw [h1]
    omega
  rw [e1, e2] at this
  exact this
end K22d
