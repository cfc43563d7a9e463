/-! THE CONSTRUCTORS: a table of rows is made (needs the wide library: Stand.multianewarray2F) -/
section K23m
variable {l : Launch} {D : va_G} {cy : Nat → ClassId} {b bx : Nat} {es : List kE}
theorem kOuter (c : ClassId) (N h0 : Nat) : ∀ i : Nat, Jvm.Free.Multi.outerC c N h0 i = arrV c N (fun j => va_rf (if j < i then some (h0 + 1 + j) else none)) := by
  intro i
  induction i with
  | zero =>
    show ({ cls := c, slots := Array.replicate N .null, vm := .none } : Cell) = _
    rw [arrV_new]
    refine congrArg (arrV c N) (funext fun j => ?_)
    simp [va_rf]
  | succ i ih =>
    show (Jvm.Free.Multi.outerC c N h0 i).setSlot i (.ref (h0 + 1 + i)) = _
    rw [ih, arrV_store]
    refine congrArg (arrV c N) (funext fun j => ?_)
    by_cases e : j = i
    · subst e
      simp [updV, va_rf]
    · by_cases h : j < i
      · simp [updV, e, h, Nat.lt_succ_of_lt h]
      · simp [updV, e, h, show ¬ j < i + 1 by omega]
theorem kMul_ok : kMul l := by
  intro p e R s m args below meth c Z D cy A0 H0 k pc b bx e0 s0 ls st es x y C hk0 hdg x0 x16 y0 y16 he hs hrc hrs kk H locs lsR hL hH hS
  obtain ⟨hx, hb, -, hown, hts, hK, hA, hin, -⟩ := C
  rw [hk0] at hown
  have hz : H.size = b + es.length := hH.1
  have nx : ¬ x < 0 := Int32.not_lt.mpr x0
  have ny : ¬ y < 0 := Int32.not_lt.mpr y0
  have bx9 : x.toNatClampNeg ≤ 16 := by
    have := Int32.le_iff_toInt_le.mp x16
    have e9 : (16 : Int32).toInt = 16 := by decide
    show x.toInt.toNat ≤ 16
    omega
  have by9 : y.toNatClampNeg ≤ 16 := by
    have := Int32.le_iff_toInt_le.mp y16
    have e9 : (16 : Int32).toInt = 16 := by decide
    show y.toInt.toNat ≤ 16
    omega
  intro T hT Xs
  obtain ⟨vm₁, cA, comp, -, fA, fC, hO, -, X', step⟩ := Xs.multianewarray2F (ty := .int) hx hown (hts _ (bGW_in (show Cond.classLink "PaperCutter$Arranger" 9 ("[" ++ (FieldType.array .int).toString) ∈ tables_1 by decide +kernel) rfl)) hK.2.2.2.1 (hts _ (bGW_in (show Cond.arrayClass .int ∈ tables_1 by decide +kernel) rfl)) (g := F0 m pc lsR (.int y :: .int x :: st.map (kVal b bx))) rfl (by rw [hb]; exact hdg) rfl nx ny (by omega) (by show y.toNatClampNeg * 4 ≤ _; omega) (by omega) rfl rfl hrc hrs
  have hc1 : comp = cy 0 := by
    have h := (hK.1.2 0 _ rfl).2
    exact Option.some.inj (fC.symm.trans h)
  have hc2 : cA = cy 8 := by
    have h := (hK.1.2 8 _ rfl).2
    exact Option.some.inj (fA.symm.trans h)
  subst hc1; subst hc2
  generalize hF : Jvm.Free.Multi.fill (T.setVm vm₁) (cy 8) (cy 0) x.toNatClampNeg y.toNatClampNeg (defaultValue .int) x.toNatClampNeg = F at X' step
  have hTh : (T.setVm vm₁).heap = H := hT
  obtain ⟨f1, f2, -, -⟩ := Jvm.Free.Multi.fill_facts (T.setVm vm₁) (cy 8) (cy 0) x.toNatClampNeg y.toNatClampNeg (defaultValue .int) x.toNatClampNeg
  rw [hF, hTh] at f1 f2
  have hold : ∀ q : Nat, q < H.size → F.heap[q]? = H[q]? := fun q hq => by
    have := Jvm.Free.Multi.fill_old (T.setVm vm₁) (cy 8) (cy 0) x.toNatClampNeg y.toNatClampNeg (defaultValue .int) (a := q) (by rw [hTh]; exact hq) x.toNatClampNeg
    rw [hF, hTh] at this
    exact this
  have hrow : ∀ j : Nat, j < x.toNatClampNeg → F.heap[H.size + 1 + j]? = some (vp_cell (cy 0) (y.toNatClampNeg, .inl fun m => ([] : List Int32).getD m 0)) := fun j hj => by
    have := Jvm.Free.Multi.fill_inner (T.setVm vm₁) (cy 8) (cy 0) x.toNatClampNeg y.toNatClampNeg (defaultValue .int) x.toNatClampNeg j hj
    rw [hF, hTh] at this
    rw [this]
    show some ({ cls := cy 0, slots := Array.replicate y.toNatClampNeg (.int 0), vm := .none } : Cell) = _
    rw [vp_cell_i, arrV_new]
    rfl
  have hH1 : kHR D cy b bx (es ++ [.inr (8, x.toNatClampNeg, .inr ((List.range x.toNatClampNeg).map fun j => some (es.length + 1 + j)))] ++ List.replicate x.toNatClampNeg (.inr (0, y.toNatClampNeg, .inl []) : kE)) F.heap := by
    refine ⟨by rw [f1, hz, List.length_append, List.length_append, List.length_replicate]; show _ = b + (es.length + 1 + _); omega, fun n z hn => ?_⟩
    by_cases g : n < es.length
    · rw [List.append_assoc, List.getElem?_append_left g] at hn
      exact (hH.2 n z hn).kept (hold _ (by rw [hz]; show b + n < b + es.length; omega))
    · by_cases g2 : n = es.length
      · subst g2
        rw [List.append_assoc, List.getElem?_append_right (Nat.le_refl _), Nat.sub_self] at hn
        cases hn
        show F.heap[b + es.length]? = some (vp_cell _ _)
        rw [← hz, f2, kOuter, vp_cell_q]
        congr 2
        funext j
        rw [hz]
        by_cases gj : j < x.toNatClampNeg
        · rw [if_pos gj]
          simp only [List.getD, List.getElem?_map, List.getElem?_range gj]
          show va_rf (some (b + es.length + 1 + j)) = va_rf (some (b + (es.length + 1 + j)))
          congr 2
          omega
        · rw [if_neg gj]
          simp only [List.getD, List.getElem?_map]
          rw [List.getElem?_eq_none (by rw [List.length_range]; omega)]
          rfl
      · rw [List.getElem?_append_right (by rw [List.length_append]; show es.length + 1 ≤ n; omega), List.getElem?_replicate] at hn
        split at hn
        · rename_i hj
          cases hn
          have hl : (es ++ [(.inr (8, x.toNatClampNeg, .inr ((List.range x.toNatClampNeg).map fun j => some (es.length + 1 + j))) : kE)]).length = es.length + 1 := by rw [List.length_append]; rfl
          rw [hl] at hj
          have := hrow (n - (es.length + 1)) hj
          rw [hz, show b + es.length + 1 + (n - (es.length + 1)) = b + n by omega] at this
          exact this
        · cases hn
  have this := kk F.heap locs lsR hL hH1 (kGrow hS (by rw [f1]; omega) hold)
  dsimp only at this
  have e1 : (es ++ [(.inr (8, x.toNatClampNeg, .inr ((List.range x.toNatClampNeg).map fun j => some (es.length + 1 + j))) : kE)] ++ List.replicate x.toNatClampNeg (.inr (0, y.toNatClampNeg, .inl []) : kE)).length - e0 = es.length - e0 + 1 + x.toNatClampNeg := by
    rw [List.length_append, List.length_append, List.length_replicate]
    show es.length + 1 + _ - e0 = _
    omega
  have e2 : kSm (es ++ [(.inr (8, x.toNatClampNeg, .inr ((List.range x.toNatClampNeg).map fun j => some (es.length + 1 + j))) : kE)] ++ List.replicate x.toNatClampNeg (.inr (0, y.toNatClampNeg, .inl []) : kE)) - s0 = kSm es - s0 + x.toNatClampNeg + x.toNatClampNeg * y.toNatClampNeg := by
    have e3 : kSm (List.replicate x.toNatClampNeg (.inr (0, y.toNatClampNeg, .inl []) : kE)) = x.toNatClampNeg * y.toNatClampNeg := by
      unfold kSm
      rw [List.map_replicate]
      exact kSum_rep _ _
    rw [kSm_app2, kSm_app, e3]
    show kSm es + x.toNatClampNeg + _ - s0 = _
    omega
  rw [e1, e2] at this
  obtain ⟨t, a1, b1⟩ := this F rfl X'
  refine ⟨t, step t ?_, b1⟩
  have e9 : T.heap.size = b + es.length := by
    have : T.heap = H := hT
    rw [this, hz]
  rw [e9]
  exact a1
end K23m
