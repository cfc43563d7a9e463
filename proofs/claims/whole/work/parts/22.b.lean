/-! THE CONSTRUCTORS: the machine is sound; characters, references, fields -/
section K22b
variable {p : Program} {l : Launch} {e : Env} {R : Room} {s : State} {m : MethodId} {args : Array Value} {below : List Frame} {meth : Method} {c : Code} {H : Heap} {locs : List Loc} {cells slots : Nat} {Z : State → Prop}
variable {D : va_G} {cy : Nat → ClassId} {A0 : Nat → Prop} {H0 : Heap} {k pc b bx e0 s0 : Nat} {ls : List (Option kV)} {lsR : Array Slot} {st : List kV} {es : List kE}
theorem ks_cast (C : kCx p R s m args meth c D cy b A0 k) {x n : Int32} {r N : Nat} {lx : List Int32} (hdg : decode (bCe k).2.2.1 pc = .ok (.castore, 1)) (hr : es[r]? = some (.inr (1, N, .inl lx))) (h0 : 0 ≤ n) (hN : n.toNatClampNeg < N) (hx : (x.toUInt32 % 65536).toInt32 = x) (kk : kGW p l e R s m args below meth c Z D cy b bx e0 s0 A0 H0 (pc + 1, ls, st, es.set r (.inr (1, N, .inl (kUp lx 0 n.toNatClampNeg x))))) : kGW p l e R s m args below meth c Z D cy b bx e0 s0 A0 H0 (pc, ls, kI x :: kI n :: kR r :: st, es) := by
  intro H locs lsR hL hH hS
  have ha := hH.2 r _ hr
  have hn0 : ¬ n < 0 := Int32.not_lt.mpr h0
  have hnr : narrow .char (.int x) = .int x := congrArg Value.int hx
  refine W.cast C.1 C.2.1 ha ((C.2.2.2.2.2.1.1.2 1 _ rfl).1 N (fun j => .int (lx.getD j 0))) (fun q => by cases q) (by show ¬ (n < 0 ∨ (arrV _ _ _).slots.size ≤ _); rw [arrV_size]; intro q; rcases q with q | q; exact hn0 q; exact Nat.not_le.mpr hN q) rfl rfl hdg fun H1 e1 z1 oq1 => ?_
  have key : va_at D vwCl (b + r, kEv cy b bx (.inr (1, N, .inl (kUp lx 0 n.toNatClampNeg x)))) H1 := by
    show H1[_]? = some (vp_cell _ _)
    rw [e1, hnr, vp_cell_i, vp_cell_i, arrV_store]
    congr 2
    funext q
    by_cases hq : q = n.toNatClampNeg
    · subst hq
      simp only [updV, if_true]
      rw [kUp_at]
    · simp only [updV, if_neg hq]
      rw [kUp_ne hq]
  exact kk_set kk hr rfl H1 _ lsR hL (kHR_set hH hr z1 oq1 key) (hS.put z1 oq1 (C.2.2.2.2.2.2.1 _ (Nat.le_add_right _ _)))
/-- a class's array -/
theorem ks_aast (C : kCx p R s m args meth c D cy b A0 k) {n : Int32} {r v N t cj : Nat} {lx : List (Option Nat)} {fs : List kV} (hdg : decode (bCe k).2.2.1 pc = .ok (.aastore, 1)) (hr : es[r]? = some (.inr (t, N, .inr lx))) (hv : es[v]? = some (.inl (cj, fs))) (h0 : 0 ≤ n) (hN : n.toNatClampNeg < N) (ht : (t = 3 ∧ cj = 2) ∨ (t = 4 ∧ cj = 4) ∨ (t = 5 ∧ cj = 5) ∨ (t = 6 ∧ cj = 3) ∨ (t = 7 ∧ cj = 1)) (kk : kGW p l e R s m args below meth c Z D cy b bx e0 s0 A0 H0 (pc + 1, ls, st, es.set r (.inr (t, N, .inr (kUp lx none n.toNatClampNeg (some v)))))) : kGW p l e R s m args below meth c Z D cy b bx e0 s0 A0 H0 (pc, ls, kR v :: kI n :: kR r :: st, es) := by
  intro H locs lsR hL hH hS
  have ha := hH.2 r _ hr
  obtain ⟨r', hr', cellV, g1, g2, g3, -⟩ := hH.2 v _ hv
  have hn0 : ¬ n < 0 := Int32.not_lt.mpr h0
  have hK := C.2.2.2.2.2.1.1
  obtain ⟨hcj, nm, hty, hnm⟩ : cj < 10 ∧ ∃ nm, (bTys cy)[t]? = some (cy t, .object nm) ∧ nm = bRN cj := by
    rcases ht with ⟨rfl, rfl⟩ | ⟨rfl, rfl⟩ | ⟨rfl, rfl⟩ | ⟨rfl, rfl⟩ | ⟨rfl, rfl⟩ <;> exact ⟨by decide, _, rfl, rfl⟩
  have hcls := (hK.1 cj _ (bcl cj hcj)).2
  obtain ⟨kA, comp, k1, k2, k3, -⟩ := (hK.2 t _ hty).2
  have hcomp : comp = D.1 cj := Option.some.inj (k3.symm.trans (by rw [hnm]; exact hcls.1))
  subst hcomp
  obtain ⟨kC, hkC, -⟩ := hcls.2
  have ev : kEv cy b bx (.inr (t, N, .inr lx)) = .inl (cy t, N, .inr (.inr (.inr (.inr fun m => (lx.getD m none).map fun n => b + n)))) := rfl
  rw [ev] at ha
  refine W.aast C.1 C.2.1 ha (fun q h => by cases h) (fun h => by cases h) k1 k2 rfl hkC ⟨hn0, by show _ < (arrV _ _ _).slots.size; rw [arrV_size]; exact hN⟩ g1 (fun q h => by rw [g3] at h; cases h) (by rw [g2]; exact hkC) (by rw [g2]; exact va_assign hcls) rfl rfl hdg fun H1 e1 z1 oq1 => ?_
  have key : va_at D vwCl (b + r, kEv cy b bx (.inr (t, N, .inr (kUp lx none n.toNatClampNeg (some v))))) H1 := by
    show H1[_]? = some (vp_cell _ _)
    rw [e1, vp_cell_q, vp_cell_q, arrV_store]
    congr 2
    funext q
    by_cases hq : q = n.toNatClampNeg
    · subst hq
      simp only [updV, if_true]
      rw [kUp_at]
      rfl
    · simp only [updV, if_neg hq]
      rw [kUp_ne hq]
  exact kk_set kk hr rfl H1 _ lsR hL (kHR_set hH hr z1 oq1 key) (hS.put z1 oq1 (C.2.2.2.2.2.2.1 _ (Nat.le_add_right _ _)))
theorem ks_getf (C : kCx p R s m args meth c D cy b A0 k) {idx r ci f : Nat} {nb : Bool} {fs : List kV} {v : kV} (hdg : decode (bCe k).2.2.1 pc = .ok (.getfield idx, 3)) (hf : bF (bCe k).1 idx = some (ci, f, nb)) (hr : es[r]? = some (.inl (ci, fs))) (hv : fs[f]? = some v) (kk : kGW p l e R s m args below meth c Z D cy b bx e0 s0 A0 H0 (pc + 3, ls, v :: st, es)) : kGW p l e R s m args below meth c Z D cy b bx e0 s0 A0 H0 (pc, ls, kR r :: st, es) := by
  intro H locs lsR hL hH hS
  obtain ⟨hx, hb, -, hown, hts, hK, -⟩ := C
  obtain ⟨h1, h2, h3⟩ := bF_ok hf
  have hP : va_P D vwCl [(b + r, .inr (ci, fs.map (kVal b bx)))] H := bP1 (hH.2 r _ hr)
  have hsame : ∀ x, s.fieldFound? (bTX ci f).1 (bTX ci f).2.1 (bTX ci f).2.2.1 = some x → s.fieldFound? (bRN ci) (bTX ci f).2.1 (bTX ci f).2.2.1 = some x := fun x hx => by rw [← bow ci h2 f h3]; exact hx
  have hv' : (fs.map (kVal b bx))[f]? = some (kVal b bx v) := by rw [List.getElem?_map, hv]; rfl
  cases nb with
  | false =>
    exact va_get (ci := ci) (ref := bRN ci) (index := idx) hx hb hts (bcw ci h2) hown hK.1 hP 0 rfl (bcl ci h2) f h3 (hts _ (bGW_in h1 rfl)) hsame hv' hdg (kk H locs lsR hL hH hS)
  | true =>
    exact va_getN (ci := ci) (ref := bRN ci) (index := idx) (host := "PaperCutter") hx hb hts (bcw ci h2) hown hK.1 hP 0 rfl (bcl ci h2) f h3 (va_Nw.use rfl (hK.2.1 _ h1 rfl)) hsame hv' hdg (kk H locs lsR hL hH hS)
theorem kFt_ok {ci f : Nat} {v : kV} (h : kFt ci f v = true) (h2 : ci < 10) (h3 : f < bNF ci) : narrow (btyX ci f) (kVal b bx v) = kVal b bx v ∧ fits (btyX ci f) (kVal b bx v) = true := by
  have hp := btyX_ok ci h2 f h3
  rcases v with x | (_ | n) | u
  · simp only [kFt, Bool.or_eq_true, Bool.and_eq_true, beq_iff_eq] at h
    rcases h with h | ⟨h, hz⟩
    · rw [h, show parseFieldDescriptor "I" = some .int from by decide +kernel] at hp
      rw [← Option.some.inj hp]
      exact ⟨rfl, rfl⟩
    · rw [h, show parseFieldDescriptor "Z" = some .boolean from by decide +kernel] at hp
      rw [← Option.some.inj hp]
      exact bnz hz
  · cases h
  · have hr : (btyX ci f).isReference = true := h
    cases hty : btyX ci f with
    | object C => exact ⟨rfl, rfl⟩
    | array t => exact ⟨rfl, rfl⟩
    | _ => rw [hty] at hr; exact absurd hr (by decide)
  · cases h
theorem ks_putf (C : kCx p R s m args meth c D cy b A0 k) {idx r ci f : Nat} {fs : List kV} {v : kV} (hdg : decode (bCe k).2.2.1 pc = .ok (.putfield idx, 3)) (hf : bF (bCe k).1 idx = some (ci, f, false)) (hr : es[r]? = some (.inl (ci, fs))) (hci : ci = (bCe k).1) (hft : kFt ci f v = true) (hl : f < fs.length) (kk : kGW p l e R s m args below meth c Z D cy b bx e0 s0 A0 H0 (pc + 3, ls, st, es.set r (.inl (ci, fs.set f v)))) : kGW p l e R s m args below meth c Z D cy b bx e0 s0 A0 H0 (pc, ls, v :: kR r :: st, es) := by
  intro H locs lsR hL hH hS
  obtain ⟨hx, hb, -, hown, hts, hK, hA, hin, -⟩ := C
  obtain ⟨h1, h2, h3⟩ := bF_ok hf
  have hat := hH.2 r _ hr
  obtain ⟨rr, g1, cell, q1, q2, q3, q4⟩ := hat
  have hrr : rr = (bRN ci, bTX ci, bNF ci) := Option.some.inj (g1.symm.trans (bcl ci h2))
  subst hrr
  have hap := va_apart (own := bRN (bCe k).1) hts (bcw ci h2) (btyX ci) (btyX_ok ci h2) (bnmX ci h2) hK.1 (bcl ci h2)
  obtain ⟨hSl, hfc, kC, hkC, hkind⟩ := hK.1.1 ci _ (bcl ci h2)
  obtain ⟨cf, kf, fi, fd, hi, hsl⟩ := hSl f h3
  have hlay := hts _ (bcw ci h2 _ (u_in_lay h3))
  have hst := (u_facts hfc hkC (u_lays hts (bcw ci h2) h3) hi).1
  obtain ⟨n1, n2⟩ := kFt_ok (b := b) (bx := bx) hft h2 h3
  have hsame : s.fieldFound? (bRN ci) (bTX ci f).2.1 (bTX ci f).2.2.1 = some (cf, kf, fi, fd) := by rw [← bow ci h2 f h3]; exact hi
  have key : ∀ H' : Heap, H'[b + r]? = some (cell.setSlot fd.slot (kVal b bx v)) → H'.size = H.size → (∀ q, q ≠ b + r → H'[q]? = H[q]?) → W p l e R s m args below meth c H' (locs ++ [⟨b + r, fd.slot⟩]) (es.length - e0) (kSm es - s0) Z (F0 m (pc + 3) lsR (st.map (kVal b bx))) := by
    intro H' e1 e2 e3
    have hy : va_at D vwCl (b + r, kEv cy b bx (.inl (ci, fs.set f v))) H' := by
      rw [hsl] at e1
      refine ⟨_, bcl ci h2, t_OB.to (V := updV (vp_V (fs.map (kVal b bx))) f (kVal b bx v)) ⟨_, e1, q2, q3, t_set q4 hap h3 (kVal b bx v)⟩ (fun j hj => ?_)⟩
      show _ = vp_V ((fs.set f v).map (kVal b bx)) j
      rw [List.map_set]
      exact vp_updV_set (by simpa using hl) _ j
    exact kk_set kk hr (by show fs.length = (fs.set f v).length; rw [List.length_set]) H' _ lsR hL (kHR_set hH hr e2 e3 hy) (hS.put e2 e3 (hA _ (Nat.le_add_right _ _)))
  by_cases hfin : (bTX ci f).2.2.2 = true
  · unfold u_lay at hlay
    rw [if_pos hfin] at hlay
    have hcf : m.cls = cf := by
      obtain ⟨_, _, c', _, _, _, -, -, hf', -, -, -, hown2, -⟩ := Cond.laysFinal_spec hlay
      have e1 : c' = cf := by have := hi.symm.trans hf'; simp at this; exact this.1.symm
      rw [bow ci h2 f h3] at hown2
      rw [← e1]
      rw [← hci] at hown
      exact Option.some.inj (hown.symm.trans hown2)
    have h6 := u_fits hfc hkC hkind (Or.inr hlay) hi (btyX_ok ci h2 f h3) n1 n2
    have h266 : k ≠ 266 := by
      rintro rfl
      have : (bCe 266).1 = 16 := by decide +kernel
      omega
    exact W.putFinK (own := bRN (bCe k).1) (ref := bRN ci) hx hb hown (hts _ (bGW_in h1 rfl)) hsame hst hcf (hin h266) (by rw [q2]; exact h6) q1 q3 (by rw [hsl]; exact k2_hasslot (q4 f h3)) rfl rfl hdg key
  · have hfin' : (bTX ci f).2.2.2 = false := by simpa using hfin
    unfold u_lay at hlay
    rw [if_neg hfin] at hlay
    have h6 : k2_Sd s fd (D.1 ci) (kVal b bx v) := u_store (ty := btyX ci f) hfc hkC hkind hlay hi (btyX_ok ci h2 f h3) n1 n2
    exact W.putK (own := bRN (bCe k).1) (ref := bRN ci) (name := (bTX ci f).2.1) (desc := (bTX ci f).2.2.1) (index := idx) hx hb (f := fd) ⟨hown, hts _ (bGW_in h1 rfl), ⟨_, _, _, hsame⟩, hst⟩ (by rw [q2]; exact h6) q1 q3 (by rw [hsl]; exact k2_hasslot (q4 f h3)) rfl rfl hdg key
end K22b
