/-! THE CONSTRUCTORS: the machine is sound; a step -/
section K22f
variable {p : Program} {l : Launch} {e : Env} {R : Room} {s : State} {m : MethodId} {args : Array Value} {below : List Frame} {meth : Method} {c : Code} {H : Heap} {locs : List Loc} {cells slots : Nat} {Z : State → Prop}
variable {D : va_G} {cy : Nat → ClassId} {A0 : Nat → Prop} {H0 : Heap} {k pc b bx e0 s0 mb ms dd : Nat} {ls : List (Option kV)} {lsR : Array Slot} {st : List kV} {es : List kE} {T : Nat → Option (List kE)}
/-- the table of rows is made -/
def kMul (l : Launch) : Prop := ∀ (p : Program) (e : Env) (R : Room) (s : State) (m : MethodId) (args : Array Value) (below : List Frame) (meth : Method) (c : Code) (Z : State → Prop) (D : va_G) (cy : Nat → ClassId) (A0 : Nat → Prop) (H0 : Heap) (k pc b bx e0 s0 : Nat) (ls : List (Option kV)) (st : List kV) (es : List kE) (x y : Int32), kCx p R s m args meth c D cy b A0 k → (bCe k).1 = 0 → decode (bCe k).2.2.1 pc = .ok (.multianewarray 9 2, 4) → 0 ≤ x → x ≤ 16 → 0 ≤ y → y ≤ 16 → e0 ≤ es.length → s0 ≤ kSm es → es.length - e0 + (1 + x.toNatClampNeg) ≤ R.cells → kSm es - s0 + (x.toNatClampNeg + x.toNatClampNeg * y.toNatClampNeg) ≤ R.slots → kGW p l e R s m args below meth c Z D cy b bx e0 s0 A0 H0 (pc + 4, ls, kR es.length :: st, es ++ [.inr (8, x.toNatClampNeg, .inr ((List.range x.toNatClampNeg).map fun j => some (es.length + 1 + j)))] ++ List.replicate x.toNatClampNeg (.inr (0, y.toNatClampNeg, .inl []))) → kGW p l e R s m args below meth c Z D cy b bx e0 s0 A0 H0 (pc, ls, kI y :: kI x :: st, es)
theorem kBd_ok (h : kBd e0 s0 mb ms es = true) : e0 ≤ es.length ∧ es.length ≤ e0 + mb ∧ s0 ≤ kSm es ∧ kSm es ≤ s0 + ms := by
  simp only [kBd, Bool.and_eq_true, decide_eq_true_eq] at h
  obtain ⟨⟨⟨h1, h2⟩, h3⟩, h4⟩ := h
  exact ⟨h1, h2, h3, h4⟩
theorem kSum_rep (a b : Nat) : (List.replicate a b).sum = a * b := by
  induction a with
  | zero => simp
  | succ a ih => rw [List.replicate_succ, List.sum_cons, ih, Nat.succ_mul, Nat.add_comm]
theorem kSm_app2 {us : List kE} : kSm (es ++ us) = kSm es + kSm us := by
  unfold kSm
  rw [List.map_append, List.sum_append]
theorem kSm_last {r ci : Nat} (hr : r + 1 = es.length) (he : es[r]? = some (.inl (ci, kDf ci))) : kSm es = kSm (es.take r) + bNF ci := by
  have h3 : es = es.take r ++ [.inl (ci, kDf ci)] := by
    have h4 : r < es.length := by omega
    have h5 := List.take_append_drop r es
    rw [List.drop_eq_getElem_cons h4, (List.getElem?_eq_some_iff.mp he).2, List.drop_eq_nil_of_le (by omega)] at h5
    exact h5.symm
  conv => lhs; rw [h3]
  rw [kSm_app]
  congr 1
  exact kDf_len
def kTM (l : Launch) (dd : Nat) (T : Nat → Option (List kE)) : Prop := ∀ k us, T k = some us → kM l k dd us ∧ 1 ≤ us.length ∧ bNF (kHd us) ≤ kSm us
theorem ks_step (C : kCx p R s m args meth c D cy b A0 k) (hF : kFS cy A0 s H0) (hk : (bCe k).1 = 16 ∨ (bCe k).1 < 10) (hT : kTM l dd T) (hMu : kMul l) (hfr : dd + 3 ≤ R.frames) (hlo : 40 * (dd + 3) + 40 ≤ R.locals) {f f' : kF} (h : kst T k f = some f') (h8 : f.2.2.1.length ≤ 8) (hb0 : kBd e0 s0 mb ms f.2.2.2 = true) (hb1 : kBd e0 s0 mb ms f'.2.2.2 = true) (hRc : mb ≤ R.cells) (hRs : ms ≤ R.slots) (kk : kGW p l e R s m args below meth c Z D cy b bx e0 s0 A0 H0 f') : kGW p l e R s m args below meth c Z D cy b bx e0 s0 A0 H0 f := by
  obtain ⟨pc, ls, st, es⟩ := f
  obtain ⟨c1, c2, c3, c4⟩ := kBd_ok hb0
  obtain ⟨c5, c6, c7, c8⟩ := kBd_ok hb1
  dsimp only at h8 c1 c2 c3 c4
  unfold kst at h
  split at h
  · rename_i hm
    obtain ⟨rfl, h5⟩ := hm
    dsimp only at h5 h
    subst h5
    simp only [Option.some.injEq] at h
    subst h
    dsimp only at c6 c8
    rw [List.length_append] at c6
    rw [kSm_app] at c8
    have e1 : ([(.inr (0, 3, .inl [6, 3, 20]))] : List kE).length = 1 := rfl
    have e2 : keN (.inr (0, 3, .inl [6, 3, 20])) = 3 := rfl
    exact ks_first C hF h8 c1 c3 (by omega) (by omega) kk
  · split at h
    · cases h
    · rename_i x len hi
      obtain ⟨hdg, hlen⟩ := bdec hi
      dsimp only at h hi hdg
      split at h
      · -- aload
        rename_i c0 pc0 ls0 st0 es0 heq
        cases heq
        have hl0 : len = 1 := by simpa [blen] using hlen
        subst hl0
        split at h
        · rename_i v hv
          cases h
          exact ks_aload C hdg hv kk
        · cases h
      · -- iload
        rename_i c0 pc0 ls0 st0 es0 heq
        cases heq
        have hl0 : len = 1 := by simpa [blen] using hlen
        subst hl0
        split at h
        · rename_i v hv
          cases h
          exact ks_iload C hdg hv kk
        · cases h
      · rename_i c0 pc0 ls0 st0 es0 heq
        cases heq
        have hl0 : len = 1 := by simpa [blen] using hlen
        subst hl0
        cases h
        exact ks_iconst C hdg kk
      · rename_i c0 pc0 ls0 st0 es0 heq
        cases heq
        have hl0 : len = 2 := by simpa [blen] using hlen
        subst hl0
        cases h
        exact ks_bipush C hdg kk
      · rename_i c0 pc0 ls0 st0 es0 heq
        cases heq
        have hl0 : len = 3 := by simpa [blen] using hlen
        subst hl0
        cases h
        exact ks_sipush C hdg kk
      · rename_i c0 pc0 ls0 v0 st0 es0 heq
        cases heq
        have hl0 : len = 1 := by simpa [blen] using hlen
        subst hl0
        split at h
        · rename_i hn
          cases h
          exact ks_istore C hdg hn kk
        · cases h
      · rename_i c0 pc0 ls0 v0 st0 es0 heq
        cases heq
        have hl0 : len = 1 := by simpa [blen] using hlen
        subst hl0
        split at h
        · rename_i hn
          cases h
          exact ks_astore C hdg hn kk
        · cases h
      · rename_i n0 c0 pc0 ls0 st0 es0 heq
        cases heq
        have hl0 : len = 3 := by simpa [blen] using hlen
        subst hl0
        split at h
        · rename_i v hv
          cases h
          exact ks_iinc C hdg hv kk
        · cases h
      · rename_i off pc0 ls0 st0 es0 heq
        cases heq
        have hl0 : len = 3 := by simpa [blen] using hlen
        subst hl0
        split at h
        · rename_i hn
          cases h
          exact ks_goto C hdg hn kk
        · cases h
      · rename_i off pc0 ls0 y0 x0 st0 es0 heq
        cases heq
        have hl0 : len = 3 := by simpa [blen] using hlen
        subst hl0
        split at h
        · rename_i hn
          cases h
          exact ks_icmp C hdg hn kk
        · cases h
      · rename_i pc0 ls0 v0 st0 es0 heq
        cases heq
        have hl0 : len = 1 := by simpa [blen] using hlen
        subst hl0
        cases h
        exact ks_dup C hdg kk
      · rename_i ty pc0 ls0 n0 st0 es0 heq
        cases heq
        have hl0 : len = 2 := by simpa [blen] using hlen
        subst hl0
        split at h
        · rename_i t ht
          split at h
          · rename_i hn
            cases h
            dsimp only at c6 c8
            rw [List.length_append] at c6
            rw [kSm_app] at c8
            have e1 : ([(.inr (t, n0.toNatClampNeg, .inl []))] : List kE).length = 1 := rfl
            have e2 : keN (.inr (t, n0.toNatClampNeg, .inl [])) = n0.toNatClampNeg := rfl
            exact ks_newa C hdg ht hn.1 hn.2 c1 c3 (by omega) (by omega) kk
          · cases h
        · cases h
      · rename_i idx pc0 ls0 n0 st0 es0 heq
        cases heq
        have hl0 : len = 3 := by simpa [blen] using hlen
        subst hl0
        split at h
        · rename_i t ht
          split at h
          · rename_i hn
            cases h
            dsimp only at c6 c8
            rw [List.length_append] at c6
            rw [kSm_app] at c8
            have e1 : ([(.inr (t, n0.toNatClampNeg, .inr []))] : List kE).length = 1 := rfl
            have e2 : keN (.inr (t, n0.toNatClampNeg, .inr [])) = n0.toNatClampNeg := rfl
            exact ks_anew C hdg ht hn.1 hn.2 c1 c3 (by omega) (by omega) kk
          · cases h
        · cases h
      · rename_i idx dd0 pc0 ls0 y0 x0 st0 es0 heq
        cases heq
        have hl0 : len = 4 := by simpa [blen] using hlen
        subst hl0
        split at h
        · rename_i hn
          obtain ⟨n1, rfl, rfl, n2, n3, n4, n5⟩ := hn
          cases h
          dsimp only at c6 c8
          have e1 : kSm (List.replicate x0.toNatClampNeg (.inr (0, y0.toNatClampNeg, .inl []) : kE)) = x0.toNatClampNeg * y0.toNatClampNeg := by
            unfold kSm
            rw [List.map_replicate]
            exact kSum_rep _ _
          rw [List.length_append, List.length_append, List.length_replicate] at c6
          rw [kSm_app2, kSm_app, e1] at c8
          have e2 : keN (.inr (8, x0.toNatClampNeg, .inr ((List.range x0.toNatClampNeg).map fun j => some (es.length + 1 + j)))) = x0.toNatClampNeg := rfl
          rw [e2] at c8
          have e3 : ([(.inr (8, x0.toNatClampNeg, .inr ((List.range x0.toNatClampNeg).map fun j => some (es.length + 1 + j))))] : List kE).length = 1 := rfl
          rw [e3] at c6
          exact hMu p e R s m args below meth c Z D cy A0 H0 k pc b bx e0 s0 ls st0 es x0 y0 C n1 hdg n2 n3 n4 n5 c1 c3 (by omega) (by omega) kk
        · cases h
      · rename_i idx pc0 ls0 r0 st0 es0 heq
        cases heq
        have hl0 : len = 3 := by simpa [blen] using hlen
        subst hl0
        split at h
        · rename_i ci f nb cj fs hf hr
          split at h
          · rename_i hc
            subst hc
            split at h
            · rename_i v hv
              cases h
              exact ks_getf C hdg hf hr hv kk
            · cases h
          · cases h
        · cases h
      · rename_i idx pc0 ls0 v0 r0 st0 es0 heq
        cases heq
        have hl0 : len = 3 := by simpa [blen] using hlen
        subst hl0
        split at h
        · rename_i ci f cj fs hf hr
          split at h
          · rename_i hc
            obtain ⟨rfl, h2, h3, h4⟩ := hc
            cases h
            exact ks_putf C hdg hf hr h2 h3 h4 kk
          · cases h
        · cases h
      · rename_i pc0 ls0 v0 n0 r0 st0 es0 heq
        cases heq
        have hl0 : len = 1 := by simpa [blen] using hlen
        subst hl0
        split at h
        · rename_i t N lx cj fs hr hv
          split at h
          · rename_i hc
            obtain ⟨h1, h2, h3⟩ := hc
            cases h
            exact ks_aast C hdg hr hv h1 h2 h3 kk
          · cases h
        · cases h
      · rename_i pc0 ls0 x0 n0 r0 st0 es0 heq
        cases heq
        have hl0 : len = 1 := by simpa [blen] using hlen
        subst hl0
        split at h
        · rename_i N lx hr
          split at h
          · rename_i hc
            obtain ⟨h1, h2⟩ := hc
            cases h
            exact ks_iast C hdg hr h1 h2 kk
          · cases h
        · cases h
      · rename_i pc0 ls0 x0 n0 r0 st0 es0 heq
        cases heq
        have hl0 : len = 1 := by simpa [blen] using hlen
        subst hl0
        split at h
        · rename_i N lx hr
          split at h
          · rename_i hc
            obtain ⟨h1, h2, h3⟩ := hc
            cases h
            exact ks_cast C hdg hr h1 h2 h3 kk
          · cases h
        · cases h
      · rename_i idx pc0 ls0 st0 es0 heq
        cases heq
        have hl0 : len = 3 := by simpa [blen] using hlen
        subst hl0
        split at h
        · rename_i ci hw
          cases h
          dsimp only at c6 c8
          rw [List.length_append] at c6
          rw [kSm_app] at c8
          have e1 : ([(.inl (ci, kDf ci))] : List kE).length = 1 := rfl
          have e2 : keN (.inl (ci, kDf ci)) = bNF ci := kDf_len
          exact ks_new C hdg hw c1 c3 (by omega) (by omega) kk
        · cases h
      · rename_i idx pc0 ls0 r0 st0 es0 heq
        cases heq
        have hl0 : len = 3 := by simpa [blen] using hlen
        subst hl0
        rw [List.length_cons] at h8
        split at h
        · rename_i ho
          cases h
          exact ks_oinit C hdg ho (by omega) kk
        · split at h
          · rename_i k' hw
            split at h
            · rename_i us hus
              split at h
              · rename_i cj fs hr
                split at h
                · rename_i hc
                  obtain ⟨h1, rfl, rfl⟩ := hc
                  cases h
                  dsimp only at c6 c8
                  obtain ⟨m1, m2, m3⟩ := hT k' us hus
                  rw [List.length_append, List.length_take, List.length_map] at c6
                  have e1 : kSm (es.take r0 ++ us.map (keS r0)) = kSm (es.take r0) + kSm us := by rw [kSm_app2, kSm_map]
                  have e2 : kSm es = kSm (es.take r0) + bNF (kHd us) := kSm_last h1 hr
                  rw [e1] at c8
                  exact ks_ctor C hF hk hdg hw m1 h1 hr m2 m3 hfr hlo (by omega) c1 c3 (by omega) (by omega) kk
                · cases h
              · cases h
            · cases h
          · cases h
      · cases h
end K22f
