/-! THE LAW'S START: the statics, the strings, the first settings -/
section M24b
variable {s : State} {a : Array Value} {cy : Nat → ClassId}
/-- what the Statement says of the start, row by row -/
abbrev kNar : List Cond := flatC (Jvm.Cond.and given_1 narrow_1)
def kFr (s : State) : Nat → Prop := fun q => s.heap.size ≤ q
theorem kFr_not : ∀ q : Nat, q < s.heap.size → ¬ kFr s q := fun _ h => Nat.not_le.mpr h
theorem kT3 {n : String} {x y z : Int32} (hs : ∀ c ∈ kNar, c.before a s = true) (h1 : Cond.arrayOf (.static "PaperCutter" n "[I") .int ∈ kNar) (h2 : Cond.eq (.length (.static "PaperCutter" n "[I")) (.int 3) ∈ kNar) (h3 : Cond.eq (.elem (.static "PaperCutter" n "[I") (.int 0)) (.int x) ∈ kNar) (h4 : Cond.eq (.elem (.static "PaperCutter" n "[I") (.int 1)) (.int y) ∈ kNar) (h5 : Cond.eq (.elem (.static "PaperCutter" n "[I") (.int 2)) (.int z) ∈ kNar) : ∃ t : Nat, (Term.static "PaperCutter" n "[I").eval a s none [] s = some (.ref t) ∧ va_T .int t 3 (fun j => .int ([x, y, z].getD j 0)) (kFr s) s s.heap := by
  refine va_Tof (by decide) (hs _ h1) (va_eqt (hs _ h2)) (fun j hj => ?_) kFr_not
  rcases (show j = 0 ∨ j = 1 ∨ j = 2 by omega) with rfl | rfl | rfl
  · exact va_eqt (hs _ h3)
  · exact va_eqt (hs _ h4)
  · exact va_eqt (hs _ h5)
theorem kT33 (hs : ∀ c ∈ kNar, c.before a s = true) : ∃ t : Nat, (Term.static "PaperCutter" "FIRST_SETTING" "[I").eval a s none [] s = some (.ref t) ∧ va_T .int t 3 (fun j => .int (([6, 3, 20] : List Int32).getD j 0)) (kFr s) s s.heap := kT3 hs (by decide +kernel) (by decide +kernel) (by decide +kernel) (by decide +kernel) (by decide +kernel)
theorem kT34 (hs : ∀ c ∈ kNar, c.before a s = true) : ∃ t : Nat, (Term.static "PaperCutter" "LOWEST_SETTING" "[I").eval a s none [] s = some (.ref t) ∧ va_T .int t 3 (fun j => .int (([2, 0, 10] : List Int32).getD j 0)) (kFr s) s s.heap := kT3 hs (by decide +kernel) (by decide +kernel) (by decide +kernel) (by decide +kernel) (by decide +kernel)
theorem kT35 (hs : ∀ c ∈ kNar, c.before a s = true) : ∃ t : Nat, (Term.static "PaperCutter" "HIGHEST_SETTING" "[I").eval a s none [] s = some (.ref t) ∧ va_T .int t 3 (fun j => .int (([7, 20, 99] : List Int32).getD j 0)) (kFr s) s s.heap := kT3 hs (by decide +kernel) (by decide +kernel) (by decide +kernel) (by decide +kernel) (by decide +kernel)
theorem kZ3 (ht : ∀ w ∈ tables_1, w.before a s = true) {n : String} {t : Nat} (h1 : Cond.laysStatic "PaperCutter" n "[I" ∈ tables_1) (he : (Term.static "PaperCutter" n "[I").eval a s none [] s = some (.ref t)) : va_Z "PaperCutter" n "[I" (.ref t) (kFr s) s s.heap := va_Zref (ht _ h1) (ht (.initialized "PaperCutter") (by decide +kernel)) he kFr_not
theorem kFS_ex (ht : ∀ w ∈ tables_1, w.before a s = true) (hs : ∀ c ∈ kNar, c.before a s = true) (hK : s.vm.findClass "[I" = some (cy 0)) : kFS cy (kFr s) s s.heap := by
  obtain ⟨t, e, cell, c1, c2, c3, -, -, c6, c7⟩ := kT33 hs
  have hE : (Cond.exactly (.static "PaperCutter" "FIRST_SETTING" "[I") "[I").before a s = true := hs _ (by decide +kernel)
  obtain ⟨t', c, cell', k, e1, e2, e3, -, -, e6, -⟩ := Cond.exactly_spec (args := a) (first := s) (o := none) (s := s) (idx := []) hE
  cases e.symm.trans e1
  cases c1.symm.trans e3
  cases hK.symm.trans e2
  have hL : (Term.length (.static "PaperCutter" "FIRST_SETTING" "[I")).eval a s none [] s = some (.int 3) := va_eqt (hs _ (by decide +kernel))
  obtain ⟨t2, cell2, g1, g2, g3, g4⟩ := Jvm.Lib.length_spec hL
  cases e.symm.trans g1
  cases c1.symm.trans (State.arrayAt?_spec g2).1
  have h3 : nI 3 = nI cell.slots.size := Value.int.inj g4
  have hz : cell.slots.size = 3 := by
    have h := congrArg Int32.toNatClampNeg h3
    rw [nI_clamp (by decide), nI_clamp g3] at h
    exact h.symm
  refine ⟨t, kZ3 ht (by decide +kernel) e, (Array.getElem?_eq_some_iff.mp c1).1, c7, cell, c1, c2.1, c3, e6, ?_⟩
  refine Array.ext_getElem? (fun j => ?_)
  rw [vp_cell_i]
  by_cases hj : j < 3
  · rw [c6 j hj, arrV_read _ _ hj]
  · rw [Array.getElem?_eq_none (by omega), Array.getElem?_eq_none (by rw [arrV_size]; omega)]
theorem kCS (ht : ∀ w ∈ tables_1, w.before a s = true) (hs : ∀ c ∈ kNar, c.before a s = true) : va_Z "java/lang/String" "COMPACT_STRINGS" "Z" (.int 1) (kFr s) s s.heap := va_Zof (ht (.laysStatic "java/lang/String" "COMPACT_STRINGS" "Z") (by decide +kernel)) (ht (.initialized "java/lang/String") (by decide +kernel)) (va_eqi (hs _ (by decide +kernel))) kFr_not
theorem kSI (ht : ∀ w ∈ tables_1, w.before a s = true) (hs : ∀ c ∈ kNar, c.before a s = true) : ∃ oq : Value, oq.category = 1 ∧ va_Z "jdk/internal/util/Preconditions" "SIOOBE_FORMATTER" "Ljava/util/function/BiFunction;" oq (kFr s) s s.heap := by
  have h : va_Zq "jdk/internal/util/Preconditions" "SIOOBE_FORMATTER" "Ljava/util/function/BiFunction;" (kFr s) s s.heap := va_Zqof (ht (.laysStatic "jdk/internal/util/Preconditions" "SIOOBE_FORMATTER" "Ljava/util/function/BiFunction;") (by decide +kernel)) (ht (.initialized "jdk/internal/util/Preconditions") (by decide +kernel)) (hs _ (by decide +kernel)) kFr_not
  rcases h with h | ⟨t, h⟩
  · exact ⟨.null, rfl, h⟩
  · exact ⟨.ref t, rfl, h⟩
def kIx : List Nat := [95, 97, 99, 101, 103, 108]
def kTm (i : Nat) : Term := .string "PaperCutter$Text" (kIx.getD i 0)
theorem kSt1 : ∀ i, i < 6 → Cond.exactly (kTm i) "java/lang/String" ∈ kNar := by decide +kernel
theorem kSt2 : ∀ i, i < 6 → Cond.eq (.field (kTm i) "java/lang/String" "coder" "B") (.int 0) ∈ kNar := by decide +kernel
theorem kSt3 : ∀ i, i < 6 → Cond.arrayOf (.field (kTm i) "java/lang/String" "value" "[B") .byte ∈ kNar := by decide +kernel
theorem kSt4 : ∀ i, i < 6 → Cond.eq (.length (.field (kTm i) "java/lang/String" "value" "[B")) (.int (Int32.ofNat (bTl.getD i 0))) ∈ kNar := by decide +kernel
theorem kSt5 : ∀ i, i < 6 → ∀ j, j < bTl.getD i 0 → Cond.eq (.elem (.field (kTm i) "java/lang/String" "value" "[B") (.int (Int32.ofNat j))) (.int ((bTx.getD i []).getD j 0)) ∈ kNar := by decide +kernel
theorem kSt6 : ∀ i, i < 6 → ∀ j, j < 6 → i ≠ j → Cond.not (.eq (kTm i) (kTm j)) ∈ kNar ∨ Cond.not (.eq (kTm j) (kTm i)) ∈ kNar := by decide +kernel
theorem kSt0 : ∀ i, i < 6 → bTl.getD i 0 < 2 ^ 31 := by decide +kernel
theorem kStr (hs : ∀ c ∈ kNar, c.before a s = true) : ∃ sa sb : Nat → Nat, vk_S 6 bTl bTx sa sb (kFr s) s s.heap ∧ ∀ i : Nat, i < 6 → (kTm i).eval a s none [] s = some (.ref (sa i)) := by
  refine vk_Sof kSt0 (fun i hi => hs _ (kSt1 i hi)) (fun i hi => hs _ (kSt2 i hi)) (fun i hi => hs _ (kSt3 i hi)) (fun i hi => hs _ (kSt4 i hi)) (fun i hi j hj => hs _ (kSt5 i hi j hj)) (fun i j hi hj hij => ?_) kFr_not
  rcases kSt6 i hi j hj hij with h | h
  · exact Or.inl (hs _ h)
  · exact Or.inr (hs _ h)
end M24b
