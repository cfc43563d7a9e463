/-! THE LAW'S START: the classes and the arrays as the tables have them; the first settings -/
section M24a
variable {s : State} {a : Array Value}
theorem kIns : ∀ ci, ci < 10 → Cond.instantiable (bRN ci) (bNF ci) ∈ tables_1 ∧ goodWord (Cond.instantiable (bRN ci) (bNF ci)) = true := by decide +kernel
theorem kUws : ∀ ci : Nat, ci < 10 → ∀ w ∈ u_ws (bRN ci) (bTX ci) (bNF ci), w ∈ tables_1
  | 0, _ => fun w h => (bcw_0 w h).1
  | 1, _ => fun w h => (bcw_1 w h).1
  | 2, _ => fun w h => (bcw_2 w h).1
  | 3, _ => fun w h => (bcw_3 w h).1
  | 4, _ => fun w h => (bcw_4 w h).1
  | 5, _ => fun w h => (bcw_5 w h).1
  | 6, _ => fun w h => (bcw_6 w h).1
  | 7, _ => fun w h => (bcw_7 w h).1
  | 8, _ => fun w h => (bcw_8 w h).1
  | 9, _ => fun w h => (bcw_9 w h).1
  | n + 10, h => absurd h (by omega)
theorem kTypP {ty : FieldType} (h : (Cond.arrayClass ty).before a s = true) (hp : ∀ c, s.vm.findClass ("[" ++ ty.toString) = some c → va_RA s c ty) : ∃ c, ArrOfT s c ty ∧ va_RA s c ty := by
  obtain ⟨c, k, comp, f1, f2, f3⟩ := Cond.arrayClass_spec h
  exact ⟨c, fun n z => ⟨(fun q hq => by cases hq), k, f2, comp, f3⟩, hp c f1⟩
theorem kTypO {C : String} (h : (Cond.arrayOver (.object C)).before a s = true) : ∃ c, ArrOfT s c (.object C) ∧ va_RA s c (.object C) := by
  obtain ⟨comp, c, k, h1, -, h3, h4, h5⟩ := Cond.arrayOver_spec h
  exact ⟨c, fun n z => ⟨(fun q hq => by cases hq), k, h3, comp, h4⟩, k, comp, h3, h4, h1, h5⟩
theorem kTypA (h : (Cond.arrayOver (.array .int)).before a s = true) : ∃ c, ArrOfT s c (.array .int) ∧ va_RA s c (.array .int) := by
  obtain ⟨comp, c, k, h1, -, h3, h4, h5⟩ := arrayOverA_spec h
  exact ⟨c, fun n z => ⟨(fun q hq => by cases hq), k, h3, comp, h4⟩, h5⟩
theorem kKN_ex (ht : ∀ w ∈ tables_1, w.before a s = true) : ∃ (D : va_G) (cy : Nat → ClassId), kKN D cy s := by
  have h : ∀ ci : Nat, ∃ q : ClassId × (Nat → Nat), ci < 10 → u_Kn s (bRN ci) (bTX ci) (bNF ci) q.1 q.2 := by
    intro ci
    by_cases hc : ci < 10
    · obtain ⟨cC, iS, h⟩ := u_known (ws := tables_1) ht (C := bRN ci) (T := bTX ci) (N := bNF ci) (n := bNF ci) (fun w hw => kUws ci hc w hw) (ht _ (kIns ci hc).1)
      exact ⟨(cC, iS), fun _ => h⟩
    · exact ⟨((0 : Nat), fun _ => (0 : Nat)), fun h => absurd h hc⟩
  obtain ⟨f, hf⟩ := Classical.axiomOfChoice h
  obtain ⟨c0, h0⟩ := kTypP (ht (.arrayClass .int) (by decide +kernel)) (fun c h => h)
  obtain ⟨c1, h1⟩ := kTypP (ht (.arrayClass .char) (by decide +kernel)) (fun c h => h)
  obtain ⟨c2, h2⟩ := kTypP (ht (.arrayClass .boolean) (by decide +kernel)) (fun c h => h)
  have a3 := ht (.arrayOver (.object "PaperCutter$Order")) (by decide +kernel)
  have a4 := ht (.arrayOver (.object "PaperCutter$Roll")) (by decide +kernel)
  have a5 := ht (.arrayOver (.object "PaperCutter$Run")) (by decide +kernel)
  have a6 := ht (.arrayOver (.object "PaperCutter$Plan")) (by decide +kernel)
  have a7 := ht (.arrayOver (.object "PaperCutter$Command")) (by decide +kernel)
  have a8 := ht (.arrayOver (.array .int)) (by decide +kernel)
  obtain ⟨c3, h3⟩ := kTypO a3
  obtain ⟨c4, h4⟩ := kTypO a4
  obtain ⟨c5, h5⟩ := kTypO a5
  obtain ⟨c6, h6⟩ := kTypO a6
  obtain ⟨c7, h7⟩ := kTypO a7
  obtain ⟨c8, h8⟩ := kTypA a8
  refine ⟨(fun c => (f c).1, fun c => (f c).2), fun k => [c0, c1, c2, c3, c4, c5, c6, c7, c8].getD k c0, ⟨fun c q hq => ?_, fun k q hq => ?_⟩, fun w hw hn => ?_, ⟨va_AO.of a3, va_AO.of a4, va_AO.of a5, va_AO.of a6, va_AO.of a7⟩, a8, va_Nw.of rfl (ht (.castable "[I" "java/lang/Cloneable") (by decide +kernel))⟩
  · have hc : c < 10 := (List.getElem?_eq_some_iff.mp hq).1
    rw [bcl c hc] at hq
    cases hq
    exact hf c hc
  · have hk : k < 9 := (List.getElem?_eq_some_iff.mp hq).1
    rcases (show k = 0 ∨ k = 1 ∨ k = 2 ∨ k = 3 ∨ k = 4 ∨ k = 5 ∨ k = 6 ∨ k = 7 ∨ k = 8 by omega) with rfl | rfl | rfl | rfl | rfl | rfl | rfl | rfl | rfl
    · have e := Option.some.inj hq; subst e; exact h0
    · have e := Option.some.inj hq; subst e; exact h1
    · have e := Option.some.inj hq; subst e; exact h2
    · have e := Option.some.inj hq; subst e; exact h3
    · have e := Option.some.inj hq; subst e; exact h4
    · have e := Option.some.inj hq; subst e; exact h5
    · have e := Option.some.inj hq; subst e; exact h6
    · have e := Option.some.inj hq; subst e; exact h7
    · have e := Option.some.inj hq; subst e; exact h8
  · refine va_Nw.of ?_ (ht w hw)
    cases w <;> first | rfl | cases hn
end M24a
