section BSTP
variable {p : Program} {l : Launch} {e : Env} {R : Room} {s : State} {m : MethodId} {args : Array Value} {below : List Frame} {meth : Method} {c : Code} {H : Heap} {locs : List Loc} {cells slots : Nat} {Z : State → Prop}
variable {D : va_G} {cy : Nat → ClassId} {ad : bAdT} {oq : Value} {A0 : Nat → Prop} {H0 : Heap} {k pc : Nat} {ls ls' : List (Option bV)} {lsR : Array Slot} {st : List bV} {S : bSt} {P : Prop} {f' : bFr}
theorem btg_ok {pc : Nat} {off : Int} (h : 0 ≤ (pc : Int) + off) : (pc : Int) + off = (bTg pc off : Nat) := (Int.toNat_of_nonneg h).symm
theorem bgetf (C : bCx p R s m args c D cy ad oq A0 k) {idx : Nat} (hdg : decode (bCe k).2.2.1 pc = .ok (.getfield idx, 3)) {k0 i0 j0 ci f : Nat} {b : Bool} {st' : List bV} (hf : bF (bCe k).1 idx = some (ci, f, b)) (ho : kObj k0 = some ci) (hok : bok k0 i0 j0 = true) (hL : bLR ad oq ls lsR c.maxLocals) (hH : bHR D cy ad oq S s H) (hS : va_S A0 H0 H locs)
    (kk : bGo p l e R s m args below meth c cells slots Z D cy ad oq A0 H0 (pc + 3, ls, bFv k0 i0 j0 f (S k0 i0 j0 f) :: st', S)) : W p l e R s m args below meth c H locs cells slots Z (F0 m pc lsR (.ref (ad k0 i0 j0) :: st'.map (bVal ad oq))) := by
  obtain ⟨hx, hb, -, hown, hts, hK, -⟩ := C
  obtain ⟨h1, h2, h3⟩ := bF_ok hf
  have hP : va_P D vwCl [(ad k0 i0 j0, .inr (ci, (List.range (bNF ci)).map fun f => bVal ad oq (bFv k0 i0 j0 f (S k0 i0 j0 f))))] H := by
    intro q x hq
    have h := hH.1 k0 i0 j0 hok
    rw [bcell_o ho] at h
    cases q with
    | zero => cases hq; exact h
    | succ q => simp at hq
  have hsame : ∀ x, s.fieldFound? (bTX ci f).1 (bTX ci f).2.1 (bTX ci f).2.2.1 = some x → s.fieldFound? (bRN ci) (bTX ci f).2.1 (bTX ci f).2.2.1 = some x := fun x hx => by rw [← bow ci h2 f h3]; exact hx
  have hv : ((List.range (bNF ci)).map fun f => bVal ad oq (bFv k0 i0 j0 f (S k0 i0 j0 f)))[f]? = some (bVal ad oq (bFv k0 i0 j0 f (S k0 i0 j0 f))) := by
    simp [h3]
  cases b with
  | false =>
    exact va_get (ci := ci) (ref := bRN ci) (index := idx) hx hb hts (bcw ci h2) hown hK.1 hP 0 rfl (bcl ci h2) f h3 (hts _ (bGW_in h1 rfl)) hsame hv hdg (kk H locs lsR hL hH hS)
  | true =>
    exact va_getN (ci := ci) (ref := bRN ci) (index := idx) (host := "PaperCutter") hx hb hts (bcw ci h2) hown hK.1 hP 0 rfl (bcl ci h2) f h3 (va_Nw.use rfl (hK.2.1 _ h1 rfl)) hsame hv hdg (kk H locs lsR hL hH hS)
theorem bputf (C : bCx p R s m args c D cy ad oq A0 k) {idx : Nat} (hdg : decode (bCe k).2.2.1 pc = .ok (.putfield idx, 3)) {k0 i0 j0 ci f : Nat} {b : Bool} {x : Int32} {st' : List bV} (hf : bF (bCe k).1 idx = some (ci, f, b)) (ho : kObj k0 = some ci) (hr : fRef k0 i0 j0 f = none) (hfk : bFw ci f ≠ 0) (hok : bok k0 i0 j0 = true) (hnr : bFw ci f = 2 → x = 0 ∨ x = 1) (hL : bLR ad oq ls lsR c.maxLocals) (hH : bHR D cy ad oq S s H) (hS : va_S A0 H0 H locs)
    (kk : bGo p l e R s m args below meth c cells slots Z D cy ad oq A0 H0 (pc + 3, ls, st', sUp S k0 i0 j0 f x)) : W p l e R s m args below meth c H locs cells slots Z (F0 m pc lsR (.int x :: .ref (ad k0 i0 j0) :: st'.map (bVal ad oq))) := by
  obtain ⟨hx, hb, -, hown, hts, hK, hinj, hA, -⟩ := C
  obtain ⟨h1, h2, h3⟩ := bF_ok hf
  have hat := hH.1 k0 i0 j0 hok
  rw [bcell_o ho] at hat
  obtain ⟨r, g1, cell, q1, q2, q3, q4⟩ := hat
  have hrr : r = (bRN ci, bTX ci, bNF ci) := Option.some.inj (g1.symm.trans (bcl ci h2))
  subst hrr
  have hap := va_apart (own := bRN (bCe k).1) hts (bcw ci h2) (btyX ci) (btyX_ok ci h2) (bnmX ci h2) hK.1 (bcl ci h2)
  obtain ⟨hSl, hfc, kC, hkC, hkind⟩ := hK.1.1 ci _ (bcl ci h2)
  obtain ⟨cf, kf, fi, fd, hi, hsl⟩ := hSl f h3
  have hfin : (bTX ci f).2.2.2 = false := by
    by_cases h9 : (bTX ci f).2.2.2 = true
    · exact absurd (if_pos h9) hfk
    · simpa using h9
  have hlay := hts _ (bcw ci h2 _ (u_in_lay h3))
  unfold u_lay at hlay
  rw [if_neg (by rw [hfin]; decide)] at hlay
  have hst := (u_facts hfc hkC (u_lays hts (bcw ci h2) h3) hi).1
  have h6 : k2_Sd s fd (D.1 ci) (.int x) := by
    by_cases e1 : (bTX ci f).2.2.1 = "I"
    · exact u_store (ty := .int) hfc hkC hkind hlay hi (by rw [e1]; decide +kernel) rfl rfl
    · by_cases e2 : (bTX ci f).2.2.1 = "Z"
      · have e3 : bFw ci f = 2 := by
          unfold bFw
          rw [if_neg (by rw [hfin]; decide), if_neg e1, if_pos e2]
        exact u_store (ty := .boolean) hfc hkC hkind hlay hi (by rw [e2]; decide +kernel) (bnz (hnr e3)).1 (bnz (hnr e3)).2
      · exact absurd (by unfold bFw; rw [if_neg (by rw [hfin]; decide), if_neg e1, if_neg e2]) hfk
  have hsame : s.fieldFound? (bRN ci) (bTX ci f).2.1 (bTX ci f).2.2.1 = some (cf, kf, fi, fd) := by rw [← bow ci h2 f h3]; exact hi
  have key : ∀ H' : Heap, H'[ad k0 i0 j0]? = some (cell.setSlot fd.slot (.int x)) → H'.size = H.size → (∀ q, q ≠ ad k0 i0 j0 → H'[q]? = H[q]?) → W p l e R s m args below meth c H' (locs ++ [⟨ad k0 i0 j0, fd.slot⟩]) cells slots Z (F0 m (pc + 3) lsR (st'.map (bVal ad oq))) := by
    intro H' e1 e2 e3
    refine kk H' _ lsR hL (bHR_put hinj hok hH sUp_ne ?_ e3) (hS.put e2 e3 (hA _ ⟨k0, i0, j0, hok, rfl⟩))
    dsimp only
    rw [bcell_o ho, sUp_at]
    rw [hsl] at e1
    refine ⟨_, bcl ci h2, t_OB.to (V := updV (vp_V ((List.range (bNF ci)).map fun f => bVal ad oq (bFv k0 i0 j0 f (S k0 i0 j0 f)))) f (.int x)) ⟨_, e1, q2, q3, t_set q4 hap h3 (.int x)⟩ (fun j hj => ?_)⟩
    by_cases hjf : j = f
    · subst hjf
      have : bFv k0 i0 j0 j x = .inl x := by unfold bFv; rw [hr]
      simp [updV, vp_V, upd, hj, this, bVal]
    · simp [updV, vp_V, upd, hj, hjf]
  cases b with
  | false =>
    exact W.putK (own := bRN (bCe k).1) (ref := bRN ci) (name := (bTX ci f).2.1) (desc := (bTX ci f).2.2.1) (index := idx) hx hb (f := fd) ⟨hown, hts _ (bGW_in h1 rfl), ⟨_, _, _, hsame⟩, hst⟩ (by rw [q2]; exact h6) q1 q3 (by rw [hsl]; exact k2_hasslot (q4 f h3)) rfl rfl hdg key
  | true =>
    exact va_WputK (own := bRN (bCe k).1) (ref := bRN ci) (name := (bTX ci f).2.1) (desc := (bTX ci f).2.2.1) (host := "PaperCutter") (index := idx) hx hb (f := fd) hown (va_Nw.use rfl (hK.2.1 _ h1 rfl)) hsame hst (by rw [q2]; exact h6) q1 q3 (by rw [hsl]; exact k2_hasslot (q4 f h3)) rfl rfl hdg key
theorem bxld_ro (C : bCx p R s m args c D cy ad oq A0 k) (hdg : decode (bCe k).2.2.1 pc = .ok (.iaload, 1)) {n : Int32} {k0 : Nat} {st' : List bV} (hro : bRO k0 = true) (hin : vp_in n (bROl S k0)) (hL : bLR ad oq ls lsR c.maxLocals) (hH : bHR D cy ad oq S s H) (hS : va_S A0 H0 H locs)
    (kk : bGo p l e R s m args below meth c cells slots Z D cy ad oq A0 H0 (pc + 1, ls, vI (S k0 0 0 n.toNatClampNeg) :: st', S)) : W p l e R s m args below meth c H locs cells slots Z (F0 m pc lsR (.int n :: .ref (ad k0 0 0) :: st'.map (bVal ad oq))) := by
  obtain ⟨hx, hb, -⟩ := C
  obtain ⟨cell, h1, h2, h3, h4, h5, h6, h7⟩ := hH.2.1 k0 hro
  have hlt : n.toNatClampNeg < bROl S k0 := Nat.not_le.mp fun q => hin (Or.inr q)
  exact W.iald (v := .int (S k0 0 0 n.toNatClampNeg)) hx hb h1 h2 h3 (fun q => q.elim (fun q => hin (Or.inl q)) (fun q => by omega)) (h6 _ hlt) rfl rfl hdg (kk H locs lsR hL hH hS)
theorem bxld_sb (C : bCx p R s m args c D cy ad oq A0 k) (hdg : decode (bCe k).2.2.1 pc = .ok (.baload, 1)) {n : Int32} {i0 : Nat} {st' : List bV} (hi6 : i0 < 6) (hin : vp_in n (bTl.getD i0 0)) (hL : bLR ad oq ls lsR c.maxLocals) (hH : bHR D cy ad oq S s H) (hS : va_S A0 H0 H locs)
    (kk : bGo p l e R s m args below meth c cells slots Z D cy ad oq A0 H0 (pc + 1, ls, vI ((bTx.getD i0 []).getD n.toNatClampNeg 0) :: st', S)) : W p l e R s m args below meth c H locs cells slots Z (F0 m pc lsR (.int n :: .ref (ad 38 i0 0) :: st'.map (bVal ad oq))) := by
  obtain ⟨hx, hb, -⟩ := C
  obtain ⟨cell, h1, h2, h3, h4, h5, h6, h7⟩ := (hH.2.2.2.2.1 i0 hi6).2.2.2
  have hlt : n.toNatClampNeg < bTl.getD i0 0 := Nat.not_le.mp fun q => hin (Or.inr q)
  exact W.bald (v := .int ((bTx.getD i0 []).getD n.toNatClampNeg 0)) hx hb h1 h2 h3 (fun q => q.elim (fun q => hin (Or.inl q)) (fun q => by omega)) (h6 _ hlt) rfl rfl hdg (kk H locs lsR hL hH hS)
theorem bP1 {a : Nat} {x : va_E} {H : Heap} (h : va_at D vwCl (a, x) H) : va_P D vwCl [(a, x)] H := by
  intro q y hq
  cases q with
  | zero => cases hq; exact h
  | succ q => simp at hq
theorem barr_P (hH : bHR D cy ad oq S s H) {k0 i0 j0 t : Nat} (ht : bArr k0 t = true) (h3 : t < 3) (hok : bok k0 i0 j0 = true) : va_P D vwCl [(ad k0 i0 j0, .inl (cy t, bLen k0, .inl (S k0 i0 j0)))] H := by
  have h := hH.1 k0 i0 j0 hok
  rw [bcell_a (bArr_eq ht) h3] at h
  exact bP1 h
theorem bref_ty {t n k0 : Nat} (h : kArr k0 = some (t, n)) (h3 : 3 ≤ t) : ∃ ty : FieldType, (∀ cy : Nat → ClassId, (bTys cy)[t]? = some (cy t, ty)) ∧ ty.isReference = true := by
  unfold kArr at h
  split at h <;> first | (cases h; done) | (cases h; first | (omega) | exact ⟨_, fun _ => rfl, rfl⟩)
theorem baald (C : bCx p R s m args c D cy ad oq A0 k) (hdg : decode (bCe k).2.2.1 pc = .ok (.aaload, 1)) {n : Int32} {k0 i0 j0 : Nat} {a : bAd} {st' : List bV} (ht : 3 ≤ ((kArr k0).getD (0, 0)).1) (ha : eRef k0 i0 n.toNatClampNeg (S k0 i0 j0 n.toNatClampNeg) = some a) (hok : bok k0 i0 j0 = true) (hin : vp_in n (bLen k0)) (hL : bLR ad oq ls lsR c.maxLocals) (hH : bHR D cy ad oq S s H) (hS : va_S A0 H0 H locs)
    (kk : bGo p l e R s m args below meth c cells slots Z D cy ad oq A0 H0 (pc + 1, ls, .inr (.inl a) :: st', S)) : W p l e R s m args below meth c H locs cells slots Z (F0 m pc lsR (.int n :: .ref (ad k0 i0 j0) :: st'.map (bVal ad oq))) := by
  obtain ⟨hx, hb, -, -, -, hK, -⟩ := C
  cases hk : kArr k0 with
  | none => rw [hk] at ht; simp at ht
  | some q =>
    obtain ⟨t, N⟩ := q
    rw [hk] at ht
    have h3 : 3 ≤ t := ht
    have hN : bLen k0 = N := by unfold bLen; rw [hk]
    rw [hN] at hin
    have hat := hH.1 k0 i0 j0 hok
    rw [bcell_q hk (by omega)] at hat
    obtain ⟨ty, hty, hre⟩ := bref_ty hk h3
    have hlt : n.toNatClampNeg < N := Nat.not_le.mp fun q => hin (Or.inr q)
    have h9 := eRef_39 ha
    have kk' := kk H locs lsR hL hH hS
    have e9 : bVal ad oq (.inr (.inl a)) = .ref (ad a.1 a.2.1 a.2.2) := if_neg h9
    simp only [List.map_cons, e9] at kk'
    exact W.aald (v := .ref (ad a.1 a.2.1 a.2.2)) (ty := ty) hx hb hat ((hK.1.2 t _ (hty cy)).1 N (fun j => va_rf ((eRef k0 i0 j (S k0 i0 j0 j)).map fun a => ad a.1 a.2.1 a.2.2))) hre (fun q => by cases q) (by show ¬ (n < 0 ∨ (arrV _ _ _).slots.size ≤ _); rw [arrV_size]; exact hin)
      (by show (arrV _ _ _).slots[_]? = _; rw [arrV_read _ _ hlt]; show some (va_rf (Option.map _ (eRef k0 i0 n.toNatClampNeg (S k0 i0 j0 n.toNatClampNeg)))) = _; rw [ha]; rfl) rfl rfl hdg kk'
theorem bcode_ref {k0 i0 : Nat} {a : bAd} {v : Int32} (h : eCode k0 i0 a = some v) (n : Nat) : eRef k0 i0 n v = some a ∧ a.1 = 8 := by
  obtain ⟨a1, a2, a3⟩ := a
  unfold eCode at h
  split at h
  · split at h
    · rename_i hc
      obtain ⟨h1, h2, h3⟩ := hc
      dsimp only at h1 h2 h3
      subst h1; subst h2
      cases h
      refine ⟨?_, rfl⟩
      show some (8, a2, (Int32.ofNat a3).toNatClampNeg) = some (8, a2, a3)
      rw [Int32.toNatClampNeg_ofNat_of_lt (by omega)]
    · cases h
  · split at h
    · rename_i hc
      obtain ⟨h1, h2, h3⟩ := hc
      dsimp only at h1 h2 h3
      subst h1; subst h2
      cases h
      refine ⟨?_, rfl⟩
      show (if Int32.ofNat a3 < 0 then none else some (8, 0, (Int32.ofNat a3).toNatClampNeg)) = some (8, 0, a3)
      rw [if_neg (show ¬ Int32.ofNat a3 < 0 from nI_pos (n := a3) (by omega)), Int32.toNatClampNeg_ofNat_of_lt (by omega)]
    · cases h
  · cases h
theorem baast (C : bCx p R s m args c D cy ad oq A0 k) (hdg : decode (bCe k).2.2.1 pc = .ok (.aastore, 1)) {n v : Int32} {k0 i0 j0 : Nat} {a : bAd} {st' : List bV} (ht : bArr k0 5 = true) (hv : eCode k0 i0 a = some v) (hok : bok k0 i0 j0 = true) (hoka : bok a.1 a.2.1 a.2.2 = true) (hin : vp_in n (bLen k0)) (hL : bLR ad oq ls lsR c.maxLocals) (hH : bHR D cy ad oq S s H) (hS : va_S A0 H0 H locs)
    (kk : bGo p l e R s m args below meth c cells slots Z D cy ad oq A0 H0 (pc + 1, ls, st', sUp S k0 i0 j0 n.toNatClampNeg v)) : W p l e R s m args below meth c H locs cells slots Z (F0 m pc lsR (bVal ad oq (.inr (.inl a)) :: .int n :: .ref (ad k0 i0 j0) :: st'.map (bVal ad oq))) := by
  obtain ⟨hx, hb, -, -, -, hK, hinj, hA, -⟩ := C
  obtain ⟨hr, h8⟩ := bcode_ref hv n.toNatClampNeg
  have hk := bArr_eq ht
  have hat := hH.1 k0 i0 j0 hok
  rw [bcell_q hk (by omega)] at hat
  have hatv := hH.1 a.1 a.2.1 a.2.2 hoka
  rw [bcell_o (ci := 5) (by rw [h8]; rfl)] at hatv
  obtain ⟨r', hr', cellV, g1, g2, g3, -⟩ := hatv
  have hlt : n.toNatClampNeg < bLen k0 := Nat.not_le.mp fun q => hin (Or.inr q)
  have h0 : ¬ n < 0 := fun q => hin (Or.inl q)
  have hcls := (hK.1.1 5 _ (bcl 5 (by decide))).2
  obtain ⟨kA, comp, k1, k2, k3, -⟩ := (hK.1.2 5 (cy 5, .object "PaperCutter$Run") rfl).2
  have hcomp : comp = D.1 5 := Option.some.inj (k3.symm.trans hcls.1)
  subst hcomp
  obtain ⟨kC, hkC, -⟩ := hcls.2
  rw [show bVal ad oq (.inr (.inl a)) = .ref (ad a.1 a.2.1 a.2.2) from if_neg (bbok_ne hoka)]
  refine W.aast hx hb hat (fun q h => by cases h) (fun h => by cases h) k1 k2 rfl hkC ⟨h0, by show _ < (arrV _ _ _).slots.size; rw [arrV_size]; exact hlt⟩ g1 (fun q h => by rw [g3] at h; cases h) (by rw [g2]; exact hkC) (by rw [g2]; exact va_assign hcls) rfl rfl hdg fun H1 e1 z1 oq1 => ?_
  refine kk H1 _ lsR hL (bHR_put hinj hok hH sUp_ne ?_ oq1) (hS.put z1 oq1 (hA _ ⟨k0, i0, j0, hok, rfl⟩))
  dsimp only
  rw [bcell_q hk (by omega), sUp_at]
  show H1[_]? = some (vp_cell _ _)
  rw [e1, vp_cell_q, vp_cell_q, arrV_store]
  congr 2
  funext q
  by_cases hq : q = n.toNatClampNeg
  · subst hq
    simp [updV, upd, hr, va_rf]
  · simp [updV, upd, hq]
end BSTP
