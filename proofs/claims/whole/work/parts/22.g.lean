/-! THE CONSTRUCTORS: the machine is sound; a run, a contract -/
section K22g
variable {p : Program} {l : Launch} {e : Env} {R : Room} {s : State} {m : MethodId} {args : Array Value} {below : List Frame} {meth : Method} {c : Code} {H : Heap} {locs : List Loc} {cells slots : Nat} {Z : State → Prop}
variable {D : va_G} {cy : Nat → ClassId} {A0 : Nat → Prop} {H0 : Heap} {k pc b bx e0 s0 mb ms dd : Nat} {ls : List (Option kV)} {lsR : Array Slot} {st : List kV} {es : List kE} {T : Nat → Option (List kE)}
theorem krn_bd {stop : Nat} : ∀ (n : Nat) (f f' : kF), krn T k stop e0 s0 mb ms n f = some f' → kBd e0 s0 mb ms f.2.2.2 = true ∧ f.2.2.1.length ≤ 8 := by
  intro n
  cases n with
  | zero => intro f f' h; cases h
  | succ n =>
    intro f f' h
    unfold krn at h
    split at h
    · assumption
    · cases h
theorem ks_run (C : kCx p R s m args meth c D cy b A0 k) (hF : kFS cy A0 s H0) (hk : (bCe k).1 = 16 ∨ (bCe k).1 < 10) (hT : kTM l dd T) (hMu : kMul l) (hfr : dd + 3 ≤ R.frames) (hlo : 40 * (dd + 3) + 40 ≤ R.locals) (hRc : mb ≤ R.cells) (hRs : ms ≤ R.slots) {stop : Nat} : ∀ (n : Nat) (f f' : kF), krn T k stop e0 s0 mb ms n f = some f' → (f'.1 = stop → kGW p l e R s m args below meth c Z D cy b bx e0 s0 A0 H0 f') → kGW p l e R s m args below meth c Z D cy b bx e0 s0 A0 H0 f := by
  intro n
  induction n with
  | zero => intro f f' h; cases h
  | succ n ih =>
    intro f f' h kk
    have hb := krn_bd (n + 1) f f' h
    unfold krn at h
    rw [if_pos hb] at h
    by_cases hs : f.1 = stop
    · rw [if_pos hs] at h
      cases h
      exact kk hs
    · rw [if_neg hs] at h
      cases hg : kst T k f with
      | none => rw [hg] at h; cases h
      | some g =>
        rw [hg] at h
        exact ks_step C hF hk hT hMu hfr hlo hg hb.2 hb.1 (krn_bd n g f' h).1 hRc hRs (ih g f' h kk)
theorem krn_stop {stop : Nat} : ∀ (n : Nat) (f f' : kF), krn T k stop e0 s0 mb ms n f = some f' → f'.1 = stop := by
  intro n
  induction n with
  | zero => intro f f' h; cases h
  | succ n ih =>
    intro f f' h
    have hb := krn_bd (n + 1) f f' h
    unfold krn at h
    rw [if_pos hb] at h
    by_cases hs : f.1 = stop
    · rw [if_pos hs] at h
      cases h
      exact hs
    · rw [if_neg hs] at h
      cases hg : kst T k f with
      | none => rw [hg] at h; cases h
      | some g =>
        rw [hg] at h
        exact ih g f' h
theorem kLR_entry {n : Nat} (h1 : 1 ≤ n) (mi : MethodId) : ∃ lsR : Array Slot, entryFrame mi ([Value.ref b] : List Value).toArray n = F0 mi 0 lsR [] ∧ kLR b bx (some (kR 0) :: List.replicate (n - 1) none) lsR n := by
  have hl := lv_entry ([Value.ref b]) (n := n) h1
  refine ⟨_, lg_entry_eq mi [Value.ref b] n, ?_, _, hl, fun i v hv => ?_⟩
  · rw [List.length_cons, List.length_replicate]
    omega
  · cases i with
    | zero =>
      cases hv
      exact List.mem_cons_self
    | succ i =>
      rw [List.getElem?_cons_succ, List.getElem?_replicate] at hv
      split at hv <;> cases hv
theorem kM_of {k stop fuel nl : Nat} {us : List kE} (hk : k < 267) (hown : (bCe k).1 < 10) (hin : (bCe k).2.1.name = "<init>") (hret : (bCe k).2.2.2.2.1 = none) (hnl : (bCe k).2.2.2.1 = nl) (h1 : 1 ≤ nl) (hdg : decode (bCe k).2.2.1 stop = .ok (.return_, 1)) (hT : kTM l dd T) (hMu : kMul l) (hg : kGo T k (kHd us) stop fuel nl (us.length - 1) (kSm us - bNF (kHd us)) = some us) : kM l k (dd + 1) us := by
  intro D cy b bx
  have hmk := bmk hk (by omega)
  obtain ⟨b1, b2', b3, b4, b5, b6, b7⟩ := bMb_spec hmk.2.1
  refine bofW (cc := (bCe k).2.2.1) (maxL := (bCe k).2.2.2.1) (ret := (bCe k).2.2.2.2.1) b2' rfl ?_
  intro p2 e2 s2 m2 args2 below2 meth2 c2 s₁ B hml hv
  obtain ⟨rfl, hH2, hK2, hF2⟩ := hv
  have hts := atoms_spec (ws := bWS k) B.pre
  have hcls : s2.vm.findClass (bRN (bCe k).1) = some m2.cls := by
    rw [← b1]
    exact findClass_of_methodNamed B.named
  have hnm : meth2.name = "<init>" := by
    rw [(name_of_methodNamed B.named B.method).1]
    exact hin
  have C2 : kCx p2 (kRm us (dd + 1)) s2 m2 ([Value.ref b] : List Value).toArray meth2 c2 D cy b (fun q => b ≤ q) k := ⟨B.exec, B.bytes, hml, hcls, fun w hw => hts w (List.mem_cons_of_mem _ hw), hK2, fun _ h => h, fun _ => hnm, by show 1 ≤ dd + 1 + 2; omega, by show 100 ≤ 40 * (dd + 1 + 3); omega⟩
  obtain ⟨lsR, he, hL⟩ := kLR_entry (b := b) (bx := bx) (n := nl) h1 m2
  rw [hnl, he]
  unfold kGo at hg
  rw [Option.bind_eq_some_iff] at hg
  obtain ⟨f', hr, hf⟩ := hg
  obtain ⟨pc', ls', st', es'⟩ := f'
  dsimp only at hf
  split at hf
  · rename_i hst
    cases hf
    have hstop : pc' = stop := krn_stop _ _ _ hr
    subst hstop
    have hgo := ks_run (l := l) (e := e2) (R := kRm us (dd + 1)) (below := below2) (H0 := s2.heap) (bx := bx) (Z := MQ below2 (kQc D cy b bx us) ([Value.ref b] : List Value).toArray s2 (us.length - 1) (kSm us - bNF (kHd us)) (fun q => b ≤ q)) C2 hF2 (Or.inr hown) hT hMu (by show dd + 3 ≤ dd + 1 + 2; omega) (by show 40 * (dd + 3) + 40 ≤ 40 * (dd + 1 + 3); omega) (Nat.le_refl _) (Nat.le_refl _) _ _ _ hr (fun _ => ?_)
    · have := hgo s2.heap [] lsR (by rw [hml, hnl]; exact hL) hH2 va_S.rf
      dsimp only at this
      have e1 : ([(.inl (kHd us, kDf (kHd us)))] : List kE).length - 1 = 0 := rfl
      have e2' : kSm [(.inl (kHd us, kDf (kHd us)))] - bNF (kHd us) = 0 := by
        have : kSm [(.inl (kHd us, kDf (kHd us)))] = bNF (kHd us) := by
          show (kDf (kHd us)).length + 0 = _
          rw [kDf_len, Nat.add_zero]
        rw [this, Nat.sub_self]
      rw [e1, e2'] at this
      exact this
    · intro H locs lsR2 hL2 hH3 hS
      exact W.vret B.exec B.bytes (B.returns.trans hret) (fun t ht hW => ⟨⟨(), rfl, trivial, by show kHR D cy b bx us t.heap; rw [ht]; exact hH3⟩, hS.F ht⟩) hS.2.2 hdg B.notSynchronized
  · cases hf
end K22g
