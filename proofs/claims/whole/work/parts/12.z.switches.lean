/-! the switches, each as a chain of ifs -/
theorem X_86_1 {d : Nat} {S : bSt} {Q : Option bV → bSt → Prop} {ls : List (Option bV)} {st : List bV} {x : Int32} : Wp d 86 1 ls (vI x :: st) S Q ↔ if x = 0 then Wp d 86 28 ls st S Q else if x = 1 then Wp d 86 47 ls st S Q else if x = 2 then Wp d 86 59 ls st S Q else Wp d 86 64 ls st S Q := by
  by_cases h0 : x = 0
  · subst h0
    simp only [reduceIte]
    exact w_switch_in (m := 0) (show ins 86 1 = some (.tableswitch 63 0 2 #[27, 46, 58], 27) from by decide +kernel) (by decide) (by decide) rfl (by decide) (by decide)
  by_cases h1 : x = 1
  · subst h1
    simp only [show ¬ (1 : Int32) = 0 from by decide, if_false, if_true, reduceIte]
    exact w_switch_in (m := 1) (show ins 86 1 = some (.tableswitch 63 0 2 #[27, 46, 58], 27) from by decide +kernel) (by decide) (by decide) rfl (by decide) (by decide)
  by_cases h2 : x = 2
  · subst h2
    simp only [show ¬ (2 : Int32) = 0 from by decide, show ¬ (2 : Int32) = 1 from by decide, if_false, if_true, reduceIte]
    exact w_switch_in (m := 2) (show ins 86 1 = some (.tableswitch 63 0 2 #[27, 46, 58], 27) from by decide +kernel) (by decide) (by decide) rfl (by decide) (by decide)
  have g0 : x.toInt ≠ 0 := fun q => h0 (Int32.toInt_inj.mp (q.trans (by decide)))
  have g1 : x.toInt ≠ 1 := fun q => h1 (Int32.toInt_inj.mp (q.trans (by decide)))
  have g2 : x.toInt ≠ 2 := fun q => h2 (Int32.toInt_inj.mp (q.trans (by decide)))
  simp only [h0, h1, h2, if_false]
  exact w_switch_out (show ins 86 1 = some (.tableswitch 63 0 2 #[27, 46, 58], 27) from by decide +kernel) (by omega) (by decide)
theorem X_91_1 {d : Nat} {S : bSt} {Q : Option bV → bSt → Prop} {ls : List (Option bV)} {st : List bV} {x : Int32} : Wp d 91 1 ls (vI x :: st) S Q ↔ if x = 0 then Wp d 91 32 ls st S Q else if x = 1 then Wp d 91 35 ls st S Q else if x = 2 then Wp d 91 38 ls st S Q else if x = 3 then Wp d 91 41 ls st S Q else Wp d 91 44 ls st S Q := by
  by_cases h0 : x = 0
  · subst h0
    simp only [reduceIte]
    exact w_switch_in (m := 0) (show ins 91 1 = some (.tableswitch 43 0 3 #[31, 34, 37, 40], 31) from by decide +kernel) (by decide) (by decide) rfl (by decide) (by decide)
  by_cases h1 : x = 1
  · subst h1
    simp only [show ¬ (1 : Int32) = 0 from by decide, if_false, if_true, reduceIte]
    exact w_switch_in (m := 1) (show ins 91 1 = some (.tableswitch 43 0 3 #[31, 34, 37, 40], 31) from by decide +kernel) (by decide) (by decide) rfl (by decide) (by decide)
  by_cases h2 : x = 2
  · subst h2
    simp only [show ¬ (2 : Int32) = 0 from by decide, show ¬ (2 : Int32) = 1 from by decide, if_false, if_true, reduceIte]
    exact w_switch_in (m := 2) (show ins 91 1 = some (.tableswitch 43 0 3 #[31, 34, 37, 40], 31) from by decide +kernel) (by decide) (by decide) rfl (by decide) (by decide)
  by_cases h3 : x = 3
  · subst h3
    simp only [show ¬ (3 : Int32) = 0 from by decide, show ¬ (3 : Int32) = 1 from by decide, show ¬ (3 : Int32) = 2 from by decide, if_false, if_true, reduceIte]
    exact w_switch_in (m := 3) (show ins 91 1 = some (.tableswitch 43 0 3 #[31, 34, 37, 40], 31) from by decide +kernel) (by decide) (by decide) rfl (by decide) (by decide)
  have g0 : x.toInt ≠ 0 := fun q => h0 (Int32.toInt_inj.mp (q.trans (by decide)))
  have g1 : x.toInt ≠ 1 := fun q => h1 (Int32.toInt_inj.mp (q.trans (by decide)))
  have g2 : x.toInt ≠ 2 := fun q => h2 (Int32.toInt_inj.mp (q.trans (by decide)))
  have g3 : x.toInt ≠ 3 := fun q => h3 (Int32.toInt_inj.mp (q.trans (by decide)))
  simp only [h0, h1, h2, h3, if_false]
  exact w_switch_out (show ins 91 1 = some (.tableswitch 43 0 3 #[31, 34, 37, 40], 31) from by decide +kernel) (by omega) (by decide)
theorem X_92_1 {d : Nat} {S : bSt} {Q : Option bV → bSt → Prop} {ls : List (Option bV)} {st : List bV} {x : Int32} : Wp d 92 1 ls (vI x :: st) S Q ↔ if x = 0 then Wp d 92 32 ls st S Q else if x = 1 then Wp d 92 34 ls st S Q else if x = 2 then Wp d 92 38 ls st S Q else if x = 3 then Wp d 92 36 ls st S Q else Wp d 92 38 ls st S Q := by
  by_cases h0 : x = 0
  · subst h0
    simp only [reduceIte]
    exact w_switch_in (m := 0) (show ins 92 1 = some (.tableswitch 37 0 3 #[31, 33, 37, 35], 31) from by decide +kernel) (by decide) (by decide) rfl (by decide) (by decide)
  by_cases h1 : x = 1
  · subst h1
    simp only [show ¬ (1 : Int32) = 0 from by decide, if_false, if_true, reduceIte]
    exact w_switch_in (m := 1) (show ins 92 1 = some (.tableswitch 37 0 3 #[31, 33, 37, 35], 31) from by decide +kernel) (by decide) (by decide) rfl (by decide) (by decide)
  by_cases h2 : x = 2
  · subst h2
    simp only [show ¬ (2 : Int32) = 0 from by decide, show ¬ (2 : Int32) = 1 from by decide, if_false, if_true, reduceIte]
    exact w_switch_in (m := 2) (show ins 92 1 = some (.tableswitch 37 0 3 #[31, 33, 37, 35], 31) from by decide +kernel) (by decide) (by decide) rfl (by decide) (by decide)
  by_cases h3 : x = 3
  · subst h3
    simp only [show ¬ (3 : Int32) = 0 from by decide, show ¬ (3 : Int32) = 1 from by decide, show ¬ (3 : Int32) = 2 from by decide, if_false, if_true, reduceIte]
    exact w_switch_in (m := 3) (show ins 92 1 = some (.tableswitch 37 0 3 #[31, 33, 37, 35], 31) from by decide +kernel) (by decide) (by decide) rfl (by decide) (by decide)
  have g0 : x.toInt ≠ 0 := fun q => h0 (Int32.toInt_inj.mp (q.trans (by decide)))
  have g1 : x.toInt ≠ 1 := fun q => h1 (Int32.toInt_inj.mp (q.trans (by decide)))
  have g2 : x.toInt ≠ 2 := fun q => h2 (Int32.toInt_inj.mp (q.trans (by decide)))
  have g3 : x.toInt ≠ 3 := fun q => h3 (Int32.toInt_inj.mp (q.trans (by decide)))
  simp only [h0, h1, h2, h3, if_false]
  exact w_switch_out (show ins 92 1 = some (.tableswitch 37 0 3 #[31, 33, 37, 35], 31) from by decide +kernel) (by omega) (by decide)
theorem X_99_24 {d : Nat} {S : bSt} {Q : Option bV → bSt → Prop} {ls : List (Option bV)} {st : List bV} {x : Int32} : Wp d 99 24 ls (vI x :: st) S Q ↔ if x = 0 then Wp d 99 88 ls st S Q else if x = 1 then Wp d 99 93 ls st S Q else if x = 2 then Wp d 99 98 ls st S Q else if x = 3 then Wp d 99 103 ls st S Q else if x = 4 then Wp d 99 108 ls st S Q else if x = 5 then Wp d 99 113 ls st S Q else if x = 6 then Wp d 99 118 ls st S Q else if x = 7 then Wp d 99 123 ls st S Q else if x = 8 then Wp d 99 128 ls st S Q else if x = 9 then Wp d 99 137 ls st S Q else if x = 10 then Wp d 99 146 ls st S Q else if x = 11 then Wp d 99 163 ls st S Q else Wp d 99 172 ls st S Q := by
  by_cases h0 : x = 0
  · subst h0
    simp only [reduceIte]
    exact w_switch_in (m := 0) (show ins 99 24 = some (.tableswitch 148 0 11 #[64, 69, 74, 79, 84, 89, 94, 99, 104, 113, 122, 139], 64) from by decide +kernel) (by decide) (by decide) rfl (by decide) (by decide)
  by_cases h1 : x = 1
  · subst h1
    simp only [show ¬ (1 : Int32) = 0 from by decide, if_false, if_true, reduceIte]
    exact w_switch_in (m := 1) (show ins 99 24 = some (.tableswitch 148 0 11 #[64, 69, 74, 79, 84, 89, 94, 99, 104, 113, 122, 139], 64) from by decide +kernel) (by decide) (by decide) rfl (by decide) (by decide)
  by_cases h2 : x = 2
  · subst h2
    simp only [show ¬ (2 : Int32) = 0 from by decide, show ¬ (2 : Int32) = 1 from by decide, if_false, if_true, reduceIte]
    exact w_switch_in (m := 2) (show ins 99 24 = some (.tableswitch 148 0 11 #[64, 69, 74, 79, 84, 89, 94, 99, 104, 113, 122, 139], 64) from by decide +kernel) (by decide) (by decide) rfl (by decide) (by decide)
  by_cases h3 : x = 3
  · subst h3
    simp only [show ¬ (3 : Int32) = 0 from by decide, show ¬ (3 : Int32) = 1 from by decide, show ¬ (3 : Int32) = 2 from by decide, if_false, if_true, reduceIte]
    exact w_switch_in (m := 3) (show ins 99 24 = some (.tableswitch 148 0 11 #[64, 69, 74, 79, 84, 89, 94, 99, 104, 113, 122, 139], 64) from by decide +kernel) (by decide) (by decide) rfl (by decide) (by decide)
  by_cases h4 : x = 4
  · subst h4
    simp only [show ¬ (4 : Int32) = 0 from by decide, show ¬ (4 : Int32) = 1 from by decide, show ¬ (4 : Int32) = 2 from by decide, show ¬ (4 : Int32) = 3 from by decide, if_false, if_true, reduceIte]
    exact w_switch_in (m := 4) (show ins 99 24 = some (.tableswitch 148 0 11 #[64, 69, 74, 79, 84, 89, 94, 99, 104, 113, 122, 139], 64) from by decide +kernel) (by decide) (by decide) rfl (by decide) (by decide)
  by_cases h5 : x = 5
  · subst h5
    simp only [show ¬ (5 : Int32) = 0 from by decide, show ¬ (5 : Int32) = 1 from by decide, show ¬ (5 : Int32) = 2 from by decide, show ¬ (5 : Int32) = 3 from by decide, show ¬ (5 : Int32) = 4 from by decide, if_false, if_true, reduceIte]
    exact w_switch_in (m := 5) (show ins 99 24 = some (.tableswitch 148 0 11 #[64, 69, 74, 79, 84, 89, 94, 99, 104, 113, 122, 139], 64) from by decide +kernel) (by decide) (by decide) rfl (by decide) (by decide)
  by_cases h6 : x = 6
  · subst h6
    simp only [show ¬ (6 : Int32) = 0 from by decide, show ¬ (6 : Int32) = 1 from by decide, show ¬ (6 : Int32) = 2 from by decide, show ¬ (6 : Int32) = 3 from by decide, show ¬ (6 : Int32) = 4 from by decide, show ¬ (6 : Int32) = 5 from by decide, if_false, if_true, reduceIte]
    exact w_switch_in (m := 6) (show ins 99 24 = some (.tableswitch 148 0 11 #[64, 69, 74, 79, 84, 89, 94, 99, 104, 113, 122, 139], 64) from by decide +kernel) (by decide) (by decide) rfl (by decide) (by decide)
  by_cases h7 : x = 7
  · subst h7
    simp only [show ¬ (7 : Int32) = 0 from by decide, show ¬ (7 : Int32) = 1 from by decide, show ¬ (7 : Int32) = 2 from by decide, show ¬ (7 : Int32) = 3 from by decide, show ¬ (7 : Int32) = 4 from by decide, show ¬ (7 : Int32) = 5 from by decide, show ¬ (7 : Int32) = 6 from by decide, if_false, if_true, reduceIte]
    exact w_switch_in (m := 7) (show ins 99 24 = some (.tableswitch 148 0 11 #[64, 69, 74, 79, 84, 89, 94, 99, 104, 113, 122, 139], 64) from by decide +kernel) (by decide) (by decide) rfl (by decide) (by decide)
  by_cases h8 : x = 8
  · subst h8
    simp only [show ¬ (8 : Int32) = 0 from by decide, show ¬ (8 : Int32) = 1 from by decide, show ¬ (8 : Int32) = 2 from by decide, show ¬ (8 : Int32) = 3 from by decide, show ¬ (8 : Int32) = 4 from by decide, show ¬ (8 : Int32) = 5 from by decide, show ¬ (8 : Int32) = 6 from by decide, show ¬ (8 : Int32) = 7 from by decide, if_false, if_true, reduceIte]
    exact w_switch_in (m := 8) (show ins 99 24 = some (.tableswitch 148 0 11 #[64, 69, 74, 79, 84, 89, 94, 99, 104, 113, 122, 139], 64) from by decide +kernel) (by decide) (by decide) rfl (by decide) (by decide)
  by_cases h9 : x = 9
  · subst h9
    simp only [show ¬ (9 : Int32) = 0 from by decide, show ¬ (9 : Int32) = 1 from by decide, show ¬ (9 : Int32) = 2 from by decide, show ¬ (9 : Int32) = 3 from by decide, show ¬ (9 : Int32) = 4 from by decide, show ¬ (9 : Int32) = 5 from by decide, show ¬ (9 : Int32) = 6 from by decide, show ¬ (9 : Int32) = 7 from by decide, show ¬ (9 : Int32) = 8 from by decide, if_false, if_true, reduceIte]
    exact w_switch_in (m := 9) (show ins 99 24 = some (.tableswitch 148 0 11 #[64, 69, 74, 79, 84, 89, 94, 99, 104, 113, 122, 139], 64) from by decide +kernel) (by decide) (by decide) rfl (by decide) (by decide)
  by_cases h10 : x = 10
  · subst h10
    simp only [show ¬ (10 : Int32) = 0 from by decide, show ¬ (10 : Int32) = 1 from by decide, show ¬ (10 : Int32) = 2 from by decide, show ¬ (10 : Int32) = 3 from by decide, show ¬ (10 : Int32) = 4 from by decide, show ¬ (10 : Int32) = 5 from by decide, show ¬ (10 : Int32) = 6 from by decide, show ¬ (10 : Int32) = 7 from by decide, show ¬ (10 : Int32) = 8 from by decide, show ¬ (10 : Int32) = 9 from by decide, if_false, if_true, reduceIte]
    exact w_switch_in (m := 10) (show ins 99 24 = some (.tableswitch 148 0 11 #[64, 69, 74, 79, 84, 89, 94, 99, 104, 113, 122, 139], 64) from by decide +kernel) (by decide) (by decide) rfl (by decide) (by decide)
  by_cases h11 : x = 11
  · subst h11
    simp only [show ¬ (11 : Int32) = 0 from by decide, show ¬ (11 : Int32) = 1 from by decide, show ¬ (11 : Int32) = 2 from by decide, show ¬ (11 : Int32) = 3 from by decide, show ¬ (11 : Int32) = 4 from by decide, show ¬ (11 : Int32) = 5 from by decide, show ¬ (11 : Int32) = 6 from by decide, show ¬ (11 : Int32) = 7 from by decide, show ¬ (11 : Int32) = 8 from by decide, show ¬ (11 : Int32) = 9 from by decide, show ¬ (11 : Int32) = 10 from by decide, if_false, if_true, reduceIte]
    exact w_switch_in (m := 11) (show ins 99 24 = some (.tableswitch 148 0 11 #[64, 69, 74, 79, 84, 89, 94, 99, 104, 113, 122, 139], 64) from by decide +kernel) (by decide) (by decide) rfl (by decide) (by decide)
  have g0 : x.toInt ≠ 0 := fun q => h0 (Int32.toInt_inj.mp (q.trans (by decide)))
  have g1 : x.toInt ≠ 1 := fun q => h1 (Int32.toInt_inj.mp (q.trans (by decide)))
  have g2 : x.toInt ≠ 2 := fun q => h2 (Int32.toInt_inj.mp (q.trans (by decide)))
  have g3 : x.toInt ≠ 3 := fun q => h3 (Int32.toInt_inj.mp (q.trans (by decide)))
  have g4 : x.toInt ≠ 4 := fun q => h4 (Int32.toInt_inj.mp (q.trans (by decide)))
  have g5 : x.toInt ≠ 5 := fun q => h5 (Int32.toInt_inj.mp (q.trans (by decide)))
  have g6 : x.toInt ≠ 6 := fun q => h6 (Int32.toInt_inj.mp (q.trans (by decide)))
  have g7 : x.toInt ≠ 7 := fun q => h7 (Int32.toInt_inj.mp (q.trans (by decide)))
  have g8 : x.toInt ≠ 8 := fun q => h8 (Int32.toInt_inj.mp (q.trans (by decide)))
  have g9 : x.toInt ≠ 9 := fun q => h9 (Int32.toInt_inj.mp (q.trans (by decide)))
  have g10 : x.toInt ≠ 10 := fun q => h10 (Int32.toInt_inj.mp (q.trans (by decide)))
  have g11 : x.toInt ≠ 11 := fun q => h11 (Int32.toInt_inj.mp (q.trans (by decide)))
  simp only [h0, h1, h2, h3, h4, h5, h6, h7, h8, h9, h10, h11, if_false]
  exact w_switch_out (show ins 99 24 = some (.tableswitch 148 0 11 #[64, 69, 74, 79, 84, 89, 94, 99, 104, 113, 122, 139], 64) from by decide +kernel) (by omega) (by decide)
theorem X_100_24 {d : Nat} {S : bSt} {Q : Option bV → bSt → Prop} {ls : List (Option bV)} {st : List bV} {x : Int32} : Wp d 100 24 ls (vI x :: st) S Q ↔ if x = 0 then Wp d 100 64 ls st S Q else if x = 1 then Wp d 100 69 ls st S Q else if x = 2 then Wp d 100 74 ls st S Q else if x = 3 then Wp d 100 79 ls st S Q else if x = 4 then Wp d 100 88 ls st S Q else if x = 5 then Wp d 100 97 ls st S Q else Wp d 100 106 ls st S Q := by
  by_cases h0 : x = 0
  · subst h0
    simp only [reduceIte]
    exact w_switch_in (m := 0) (show ins 100 24 = some (.tableswitch 82 0 5 #[40, 45, 50, 55, 64, 73], 40) from by decide +kernel) (by decide) (by decide) rfl (by decide) (by decide)
  by_cases h1 : x = 1
  · subst h1
    simp only [show ¬ (1 : Int32) = 0 from by decide, if_false, if_true, reduceIte]
    exact w_switch_in (m := 1) (show ins 100 24 = some (.tableswitch 82 0 5 #[40, 45, 50, 55, 64, 73], 40) from by decide +kernel) (by decide) (by decide) rfl (by decide) (by decide)
  by_cases h2 : x = 2
  · subst h2
    simp only [show ¬ (2 : Int32) = 0 from by decide, show ¬ (2 : Int32) = 1 from by decide, if_false, if_true, reduceIte]
    exact w_switch_in (m := 2) (show ins 100 24 = some (.tableswitch 82 0 5 #[40, 45, 50, 55, 64, 73], 40) from by decide +kernel) (by decide) (by decide) rfl (by decide) (by decide)
  by_cases h3 : x = 3
  · subst h3
    simp only [show ¬ (3 : Int32) = 0 from by decide, show ¬ (3 : Int32) = 1 from by decide, show ¬ (3 : Int32) = 2 from by decide, if_false, if_true, reduceIte]
    exact w_switch_in (m := 3) (show ins 100 24 = some (.tableswitch 82 0 5 #[40, 45, 50, 55, 64, 73], 40) from by decide +kernel) (by decide) (by decide) rfl (by decide) (by decide)
  by_cases h4 : x = 4
  · subst h4
    simp only [show ¬ (4 : Int32) = 0 from by decide, show ¬ (4 : Int32) = 1 from by decide, show ¬ (4 : Int32) = 2 from by decide, show ¬ (4 : Int32) = 3 from by decide, if_false, if_true, reduceIte]
    exact w_switch_in (m := 4) (show ins 100 24 = some (.tableswitch 82 0 5 #[40, 45, 50, 55, 64, 73], 40) from by decide +kernel) (by decide) (by decide) rfl (by decide) (by decide)
  by_cases h5 : x = 5
  · subst h5
    simp only [show ¬ (5 : Int32) = 0 from by decide, show ¬ (5 : Int32) = 1 from by decide, show ¬ (5 : Int32) = 2 from by decide, show ¬ (5 : Int32) = 3 from by decide, show ¬ (5 : Int32) = 4 from by decide, if_false, if_true, reduceIte]
    exact w_switch_in (m := 5) (show ins 100 24 = some (.tableswitch 82 0 5 #[40, 45, 50, 55, 64, 73], 40) from by decide +kernel) (by decide) (by decide) rfl (by decide) (by decide)
  have g0 : x.toInt ≠ 0 := fun q => h0 (Int32.toInt_inj.mp (q.trans (by decide)))
  have g1 : x.toInt ≠ 1 := fun q => h1 (Int32.toInt_inj.mp (q.trans (by decide)))
  have g2 : x.toInt ≠ 2 := fun q => h2 (Int32.toInt_inj.mp (q.trans (by decide)))
  have g3 : x.toInt ≠ 3 := fun q => h3 (Int32.toInt_inj.mp (q.trans (by decide)))
  have g4 : x.toInt ≠ 4 := fun q => h4 (Int32.toInt_inj.mp (q.trans (by decide)))
  have g5 : x.toInt ≠ 5 := fun q => h5 (Int32.toInt_inj.mp (q.trans (by decide)))
  simp only [h0, h1, h2, h3, h4, h5, if_false]
  exact w_switch_out (show ins 100 24 = some (.tableswitch 82 0 5 #[40, 45, 50, 55, 64, 73], 40) from by decide +kernel) (by omega) (by decide)
theorem X_104_60 {d : Nat} {S : bSt} {Q : Option bV → bSt → Prop} {ls : List (Option bV)} {st : List bV} {x : Int32} : Wp d 104 60 ls (vI x :: st) S Q ↔ if x = 0 then Wp d 104 92 ls st S Q else if x = 1 then Wp d 104 100 ls st S Q else if x = 2 then Wp d 104 108 ls st S Q else if x = 3 then Wp d 104 126 ls st S Q else Wp d 104 142 ls st S Q := by
  by_cases h0 : x = 0
  · subst h0
    simp only [reduceIte]
    exact w_switch_in (m := 0) (show ins 104 60 = some (.tableswitch 82 0 3 #[32, 40, 48, 66], 32) from by decide +kernel) (by decide) (by decide) rfl (by decide) (by decide)
  by_cases h1 : x = 1
  · subst h1
    simp only [show ¬ (1 : Int32) = 0 from by decide, if_false, if_true, reduceIte]
    exact w_switch_in (m := 1) (show ins 104 60 = some (.tableswitch 82 0 3 #[32, 40, 48, 66], 32) from by decide +kernel) (by decide) (by decide) rfl (by decide) (by decide)
  by_cases h2 : x = 2
  · subst h2
    simp only [show ¬ (2 : Int32) = 0 from by decide, show ¬ (2 : Int32) = 1 from by decide, if_false, if_true, reduceIte]
    exact w_switch_in (m := 2) (show ins 104 60 = some (.tableswitch 82 0 3 #[32, 40, 48, 66], 32) from by decide +kernel) (by decide) (by decide) rfl (by decide) (by decide)
  by_cases h3 : x = 3
  · subst h3
    simp only [show ¬ (3 : Int32) = 0 from by decide, show ¬ (3 : Int32) = 1 from by decide, show ¬ (3 : Int32) = 2 from by decide, if_false, if_true, reduceIte]
    exact w_switch_in (m := 3) (show ins 104 60 = some (.tableswitch 82 0 3 #[32, 40, 48, 66], 32) from by decide +kernel) (by decide) (by decide) rfl (by decide) (by decide)
  have g0 : x.toInt ≠ 0 := fun q => h0 (Int32.toInt_inj.mp (q.trans (by decide)))
  have g1 : x.toInt ≠ 1 := fun q => h1 (Int32.toInt_inj.mp (q.trans (by decide)))
  have g2 : x.toInt ≠ 2 := fun q => h2 (Int32.toInt_inj.mp (q.trans (by decide)))
  have g3 : x.toInt ≠ 3 := fun q => h3 (Int32.toInt_inj.mp (q.trans (by decide)))
  simp only [h0, h1, h2, h3, if_false]
  exact w_switch_out (show ins 104 60 = some (.tableswitch 82 0 3 #[32, 40, 48, 66], 32) from by decide +kernel) (by omega) (by decide)
theorem X_111_24 {d : Nat} {S : bSt} {Q : Option bV → bSt → Prop} {ls : List (Option bV)} {st : List bV} {x : Int32} : Wp d 111 24 ls (vI x :: st) S Q ↔ if x = 0 then Wp d 111 76 ls st S Q else if x = 1 then Wp d 111 81 ls st S Q else if x = 2 then Wp d 111 86 ls st S Q else if x = 3 then Wp d 111 94 ls st S Q else if x = 4 then Wp d 111 99 ls st S Q else if x = 5 then Wp d 111 104 ls st S Q else if x = 6 then Wp d 111 116 ls st S Q else if x = 7 then Wp d 111 121 ls st S Q else if x = 8 then Wp d 111 126 ls st S Q else Wp d 111 131 ls st S Q := by
  by_cases h0 : x = 0
  · subst h0
    simp only [reduceIte]
    exact w_switch_in (m := 0) (show ins 111 24 = some (.tableswitch 107 0 8 #[52, 57, 62, 70, 75, 80, 92, 97, 102], 52) from by decide +kernel) (by decide) (by decide) rfl (by decide) (by decide)
  by_cases h1 : x = 1
  · subst h1
    simp only [show ¬ (1 : Int32) = 0 from by decide, if_false, if_true, reduceIte]
    exact w_switch_in (m := 1) (show ins 111 24 = some (.tableswitch 107 0 8 #[52, 57, 62, 70, 75, 80, 92, 97, 102], 52) from by decide +kernel) (by decide) (by decide) rfl (by decide) (by decide)
  by_cases h2 : x = 2
  · subst h2
    simp only [show ¬ (2 : Int32) = 0 from by decide, show ¬ (2 : Int32) = 1 from by decide, if_false, if_true, reduceIte]
    exact w_switch_in (m := 2) (show ins 111 24 = some (.tableswitch 107 0 8 #[52, 57, 62, 70, 75, 80, 92, 97, 102], 52) from by decide +kernel) (by decide) (by decide) rfl (by decide) (by decide)
  by_cases h3 : x = 3
  · subst h3
    simp only [show ¬ (3 : Int32) = 0 from by decide, show ¬ (3 : Int32) = 1 from by decide, show ¬ (3 : Int32) = 2 from by decide, if_false, if_true, reduceIte]
    exact w_switch_in (m := 3) (show ins 111 24 = some (.tableswitch 107 0 8 #[52, 57, 62, 70, 75, 80, 92, 97, 102], 52) from by decide +kernel) (by decide) (by decide) rfl (by decide) (by decide)
  by_cases h4 : x = 4
  · subst h4
    simp only [show ¬ (4 : Int32) = 0 from by decide, show ¬ (4 : Int32) = 1 from by decide, show ¬ (4 : Int32) = 2 from by decide, show ¬ (4 : Int32) = 3 from by decide, if_false, if_true, reduceIte]
    exact w_switch_in (m := 4) (show ins 111 24 = some (.tableswitch 107 0 8 #[52, 57, 62, 70, 75, 80, 92, 97, 102], 52) from by decide +kernel) (by decide) (by decide) rfl (by decide) (by decide)
  by_cases h5 : x = 5
  · subst h5
    simp only [show ¬ (5 : Int32) = 0 from by decide, show ¬ (5 : Int32) = 1 from by decide, show ¬ (5 : Int32) = 2 from by decide, show ¬ (5 : Int32) = 3 from by decide, show ¬ (5 : Int32) = 4 from by decide, if_false, if_true, reduceIte]
    exact w_switch_in (m := 5) (show ins 111 24 = some (.tableswitch 107 0 8 #[52, 57, 62, 70, 75, 80, 92, 97, 102], 52) from by decide +kernel) (by decide) (by decide) rfl (by decide) (by decide)
  by_cases h6 : x = 6
  · subst h6
    simp only [show ¬ (6 : Int32) = 0 from by decide, show ¬ (6 : Int32) = 1 from by decide, show ¬ (6 : Int32) = 2 from by decide, show ¬ (6 : Int32) = 3 from by decide, show ¬ (6 : Int32) = 4 from by decide, show ¬ (6 : Int32) = 5 from by decide, if_false, if_true, reduceIte]
    exact w_switch_in (m := 6) (show ins 111 24 = some (.tableswitch 107 0 8 #[52, 57, 62, 70, 75, 80, 92, 97, 102], 52) from by decide +kernel) (by decide) (by decide) rfl (by decide) (by decide)
  by_cases h7 : x = 7
  · subst h7
    simp only [show ¬ (7 : Int32) = 0 from by decide, show ¬ (7 : Int32) = 1 from by decide, show ¬ (7 : Int32) = 2 from by decide, show ¬ (7 : Int32) = 3 from by decide, show ¬ (7 : Int32) = 4 from by decide, show ¬ (7 : Int32) = 5 from by decide, show ¬ (7 : Int32) = 6 from by decide, if_false, if_true, reduceIte]
    exact w_switch_in (m := 7) (show ins 111 24 = some (.tableswitch 107 0 8 #[52, 57, 62, 70, 75, 80, 92, 97, 102], 52) from by decide +kernel) (by decide) (by decide) rfl (by decide) (by decide)
  by_cases h8 : x = 8
  · subst h8
    simp only [show ¬ (8 : Int32) = 0 from by decide, show ¬ (8 : Int32) = 1 from by decide, show ¬ (8 : Int32) = 2 from by decide, show ¬ (8 : Int32) = 3 from by decide, show ¬ (8 : Int32) = 4 from by decide, show ¬ (8 : Int32) = 5 from by decide, show ¬ (8 : Int32) = 6 from by decide, show ¬ (8 : Int32) = 7 from by decide, if_false, if_true, reduceIte]
    exact w_switch_in (m := 8) (show ins 111 24 = some (.tableswitch 107 0 8 #[52, 57, 62, 70, 75, 80, 92, 97, 102], 52) from by decide +kernel) (by decide) (by decide) rfl (by decide) (by decide)
  have g0 : x.toInt ≠ 0 := fun q => h0 (Int32.toInt_inj.mp (q.trans (by decide)))
  have g1 : x.toInt ≠ 1 := fun q => h1 (Int32.toInt_inj.mp (q.trans (by decide)))
  have g2 : x.toInt ≠ 2 := fun q => h2 (Int32.toInt_inj.mp (q.trans (by decide)))
  have g3 : x.toInt ≠ 3 := fun q => h3 (Int32.toInt_inj.mp (q.trans (by decide)))
  have g4 : x.toInt ≠ 4 := fun q => h4 (Int32.toInt_inj.mp (q.trans (by decide)))
  have g5 : x.toInt ≠ 5 := fun q => h5 (Int32.toInt_inj.mp (q.trans (by decide)))
  have g6 : x.toInt ≠ 6 := fun q => h6 (Int32.toInt_inj.mp (q.trans (by decide)))
  have g7 : x.toInt ≠ 7 := fun q => h7 (Int32.toInt_inj.mp (q.trans (by decide)))
  have g8 : x.toInt ≠ 8 := fun q => h8 (Int32.toInt_inj.mp (q.trans (by decide)))
  simp only [h0, h1, h2, h3, h4, h5, h6, h7, h8, if_false]
  exact w_switch_out (show ins 111 24 = some (.tableswitch 107 0 8 #[52, 57, 62, 70, 75, 80, 92, 97, 102], 52) from by decide +kernel) (by omega) (by decide)
theorem X_121_36 {d : Nat} {S : bSt} {Q : Option bV → bSt → Prop} {ls : List (Option bV)} {st : List bV} {x : Int32} : Wp d 121 36 ls (vI x :: st) S Q ↔ if x = 0 then Wp d 121 68 ls st S Q else if x = 1 then Wp d 121 70 ls st S Q else if x = 2 then Wp d 121 78 ls st S Q else if x = 3 then Wp d 121 86 ls st S Q else Wp d 121 94 ls st S Q := by
  by_cases h0 : x = 0
  · subst h0
    simp only [reduceIte]
    exact w_switch_in (m := 0) (show ins 121 36 = some (.tableswitch 58 0 3 #[32, 34, 42, 50], 32) from by decide +kernel) (by decide) (by decide) rfl (by decide) (by decide)
  by_cases h1 : x = 1
  · subst h1
    simp only [show ¬ (1 : Int32) = 0 from by decide, if_false, if_true, reduceIte]
    exact w_switch_in (m := 1) (show ins 121 36 = some (.tableswitch 58 0 3 #[32, 34, 42, 50], 32) from by decide +kernel) (by decide) (by decide) rfl (by decide) (by decide)
  by_cases h2 : x = 2
  · subst h2
    simp only [show ¬ (2 : Int32) = 0 from by decide, show ¬ (2 : Int32) = 1 from by decide, if_false, if_true, reduceIte]
    exact w_switch_in (m := 2) (show ins 121 36 = some (.tableswitch 58 0 3 #[32, 34, 42, 50], 32) from by decide +kernel) (by decide) (by decide) rfl (by decide) (by decide)
  by_cases h3 : x = 3
  · subst h3
    simp only [show ¬ (3 : Int32) = 0 from by decide, show ¬ (3 : Int32) = 1 from by decide, show ¬ (3 : Int32) = 2 from by decide, if_false, if_true, reduceIte]
    exact w_switch_in (m := 3) (show ins 121 36 = some (.tableswitch 58 0 3 #[32, 34, 42, 50], 32) from by decide +kernel) (by decide) (by decide) rfl (by decide) (by decide)
  have g0 : x.toInt ≠ 0 := fun q => h0 (Int32.toInt_inj.mp (q.trans (by decide)))
  have g1 : x.toInt ≠ 1 := fun q => h1 (Int32.toInt_inj.mp (q.trans (by decide)))
  have g2 : x.toInt ≠ 2 := fun q => h2 (Int32.toInt_inj.mp (q.trans (by decide)))
  have g3 : x.toInt ≠ 3 := fun q => h3 (Int32.toInt_inj.mp (q.trans (by decide)))
  simp only [h0, h1, h2, h3, if_false]
  exact w_switch_out (show ins 121 36 = some (.tableswitch 58 0 3 #[32, 34, 42, 50], 32) from by decide +kernel) (by omega) (by decide)
theorem X_122_1 {d : Nat} {S : bSt} {Q : Option bV → bSt → Prop} {ls : List (Option bV)} {st : List bV} {x : Int32} : Wp d 122 1 ls (vI x :: st) S Q ↔ if x = 0 then Wp d 122 56 ls st S Q else if x = 1 then Wp d 122 64 ls st S Q else if x = 2 then Wp d 122 72 ls st S Q else if x = 3 then Wp d 122 80 ls st S Q else if x = 4 then Wp d 122 88 ls st S Q else if x = 5 then Wp d 122 96 ls st S Q else if x = 6 then Wp d 122 104 ls st S Q else if x = 7 then Wp d 122 112 ls st S Q else if x = 8 then Wp d 122 120 ls st S Q else if x = 9 then Wp d 122 128 ls st S Q else Wp d 122 136 ls st S Q := by
  by_cases h0 : x = 0
  · subst h0
    simp only [reduceIte]
    exact w_switch_in (m := 0) (show ins 122 1 = some (.tableswitch 135 0 9 #[55, 63, 71, 79, 87, 95, 103, 111, 119, 127], 55) from by decide +kernel) (by decide) (by decide) rfl (by decide) (by decide)
  by_cases h1 : x = 1
  · subst h1
    simp only [show ¬ (1 : Int32) = 0 from by decide, if_false, if_true, reduceIte]
    exact w_switch_in (m := 1) (show ins 122 1 = some (.tableswitch 135 0 9 #[55, 63, 71, 79, 87, 95, 103, 111, 119, 127], 55) from by decide +kernel) (by decide) (by decide) rfl (by decide) (by decide)
  by_cases h2 : x = 2
  · subst h2
    simp only [show ¬ (2 : Int32) = 0 from by decide, show ¬ (2 : Int32) = 1 from by decide, if_false, if_true, reduceIte]
    exact w_switch_in (m := 2) (show ins 122 1 = some (.tableswitch 135 0 9 #[55, 63, 71, 79, 87, 95, 103, 111, 119, 127], 55) from by decide +kernel) (by decide) (by decide) rfl (by decide) (by decide)
  by_cases h3 : x = 3
  · subst h3
    simp only [show ¬ (3 : Int32) = 0 from by decide, show ¬ (3 : Int32) = 1 from by decide, show ¬ (3 : Int32) = 2 from by decide, if_false, if_true, reduceIte]
    exact w_switch_in (m := 3) (show ins 122 1 = some (.tableswitch 135 0 9 #[55, 63, 71, 79, 87, 95, 103, 111, 119, 127], 55) from by decide +kernel) (by decide) (by decide) rfl (by decide) (by decide)
  by_cases h4 : x = 4
  · subst h4
    simp only [show ¬ (4 : Int32) = 0 from by decide, show ¬ (4 : Int32) = 1 from by decide, show ¬ (4 : Int32) = 2 from by decide, show ¬ (4 : Int32) = 3 from by decide, if_false, if_true, reduceIte]
    exact w_switch_in (m := 4) (show ins 122 1 = some (.tableswitch 135 0 9 #[55, 63, 71, 79, 87, 95, 103, 111, 119, 127], 55) from by decide +kernel) (by decide) (by decide) rfl (by decide) (by decide)
  by_cases h5 : x = 5
  · subst h5
    simp only [show ¬ (5 : Int32) = 0 from by decide, show ¬ (5 : Int32) = 1 from by decide, show ¬ (5 : Int32) = 2 from by decide, show ¬ (5 : Int32) = 3 from by decide, show ¬ (5 : Int32) = 4 from by decide, if_false, if_true, reduceIte]
    exact w_switch_in (m := 5) (show ins 122 1 = some (.tableswitch 135 0 9 #[55, 63, 71, 79, 87, 95, 103, 111, 119, 127], 55) from by decide +kernel) (by decide) (by decide) rfl (by decide) (by decide)
  by_cases h6 : x = 6
  · subst h6
    simp only [show ¬ (6 : Int32) = 0 from by decide, show ¬ (6 : Int32) = 1 from by decide, show ¬ (6 : Int32) = 2 from by decide, show ¬ (6 : Int32) = 3 from by decide, show ¬ (6 : Int32) = 4 from by decide, show ¬ (6 : Int32) = 5 from by decide, if_false, if_true, reduceIte]
    exact w_switch_in (m := 6) (show ins 122 1 = some (.tableswitch 135 0 9 #[55, 63, 71, 79, 87, 95, 103, 111, 119, 127], 55) from by decide +kernel) (by decide) (by decide) rfl (by decide) (by decide)
  by_cases h7 : x = 7
  · subst h7
    simp only [show ¬ (7 : Int32) = 0 from by decide, show ¬ (7 : Int32) = 1 from by decide, show ¬ (7 : Int32) = 2 from by decide, show ¬ (7 : Int32) = 3 from by decide, show ¬ (7 : Int32) = 4 from by decide, show ¬ (7 : Int32) = 5 from by decide, show ¬ (7 : Int32) = 6 from by decide, if_false, if_true, reduceIte]
    exact w_switch_in (m := 7) (show ins 122 1 = some (.tableswitch 135 0 9 #[55, 63, 71, 79, 87, 95, 103, 111, 119, 127], 55) from by decide +kernel) (by decide) (by decide) rfl (by decide) (by decide)
  by_cases h8 : x = 8
  · subst h8
    simp only [show ¬ (8 : Int32) = 0 from by decide, show ¬ (8 : Int32) = 1 from by decide, show ¬ (8 : Int32) = 2 from by decide, show ¬ (8 : Int32) = 3 from by decide, show ¬ (8 : Int32) = 4 from by decide, show ¬ (8 : Int32) = 5 from by decide, show ¬ (8 : Int32) = 6 from by decide, show ¬ (8 : Int32) = 7 from by decide, if_false, if_true, reduceIte]
    exact w_switch_in (m := 8) (show ins 122 1 = some (.tableswitch 135 0 9 #[55, 63, 71, 79, 87, 95, 103, 111, 119, 127], 55) from by decide +kernel) (by decide) (by decide) rfl (by decide) (by decide)
  by_cases h9 : x = 9
  · subst h9
    simp only [show ¬ (9 : Int32) = 0 from by decide, show ¬ (9 : Int32) = 1 from by decide, show ¬ (9 : Int32) = 2 from by decide, show ¬ (9 : Int32) = 3 from by decide, show ¬ (9 : Int32) = 4 from by decide, show ¬ (9 : Int32) = 5 from by decide, show ¬ (9 : Int32) = 6 from by decide, show ¬ (9 : Int32) = 7 from by decide, show ¬ (9 : Int32) = 8 from by decide, if_false, if_true, reduceIte]
    exact w_switch_in (m := 9) (show ins 122 1 = some (.tableswitch 135 0 9 #[55, 63, 71, 79, 87, 95, 103, 111, 119, 127], 55) from by decide +kernel) (by decide) (by decide) rfl (by decide) (by decide)
  have g0 : x.toInt ≠ 0 := fun q => h0 (Int32.toInt_inj.mp (q.trans (by decide)))
  have g1 : x.toInt ≠ 1 := fun q => h1 (Int32.toInt_inj.mp (q.trans (by decide)))
  have g2 : x.toInt ≠ 2 := fun q => h2 (Int32.toInt_inj.mp (q.trans (by decide)))
  have g3 : x.toInt ≠ 3 := fun q => h3 (Int32.toInt_inj.mp (q.trans (by decide)))
  have g4 : x.toInt ≠ 4 := fun q => h4 (Int32.toInt_inj.mp (q.trans (by decide)))
  have g5 : x.toInt ≠ 5 := fun q => h5 (Int32.toInt_inj.mp (q.trans (by decide)))
  have g6 : x.toInt ≠ 6 := fun q => h6 (Int32.toInt_inj.mp (q.trans (by decide)))
  have g7 : x.toInt ≠ 7 := fun q => h7 (Int32.toInt_inj.mp (q.trans (by decide)))
  have g8 : x.toInt ≠ 8 := fun q => h8 (Int32.toInt_inj.mp (q.trans (by decide)))
  have g9 : x.toInt ≠ 9 := fun q => h9 (Int32.toInt_inj.mp (q.trans (by decide)))
  simp only [h0, h1, h2, h3, h4, h5, h6, h7, h8, h9, if_false]
  exact w_switch_out (show ins 122 1 = some (.tableswitch 135 0 9 #[55, 63, 71, 79, 87, 95, 103, 111, 119, 127], 55) from by decide +kernel) (by omega) (by decide)
theorem X_123_13 {d : Nat} {S : bSt} {Q : Option bV → bSt → Prop} {ls : List (Option bV)} {st : List bV} {x : Int32} : Wp d 123 13 ls (vI x :: st) S Q ↔ if x = 0 then Wp d 123 52 ls st S Q else if x = 1 then Wp d 123 61 ls st S Q else if x = 2 then Wp d 123 70 ls st S Q else if x = 3 then Wp d 123 79 ls st S Q else if x = 4 then Wp d 123 88 ls st S Q else if x = 5 then Wp d 123 97 ls st S Q else Wp d 123 106 ls st S Q := by
  by_cases h0 : x = 0
  · subst h0
    simp only [reduceIte]
    exact w_switch_in (m := 0) (show ins 123 13 = some (.tableswitch 93 0 5 #[39, 48, 57, 66, 75, 84], 39) from by decide +kernel) (by decide) (by decide) rfl (by decide) (by decide)
  by_cases h1 : x = 1
  · subst h1
    simp only [show ¬ (1 : Int32) = 0 from by decide, if_false, if_true, reduceIte]
    exact w_switch_in (m := 1) (show ins 123 13 = some (.tableswitch 93 0 5 #[39, 48, 57, 66, 75, 84], 39) from by decide +kernel) (by decide) (by decide) rfl (by decide) (by decide)
  by_cases h2 : x = 2
  · subst h2
    simp only [show ¬ (2 : Int32) = 0 from by decide, show ¬ (2 : Int32) = 1 from by decide, if_false, if_true, reduceIte]
    exact w_switch_in (m := 2) (show ins 123 13 = some (.tableswitch 93 0 5 #[39, 48, 57, 66, 75, 84], 39) from by decide +kernel) (by decide) (by decide) rfl (by decide) (by decide)
  by_cases h3 : x = 3
  · subst h3
    simp only [show ¬ (3 : Int32) = 0 from by decide, show ¬ (3 : Int32) = 1 from by decide, show ¬ (3 : Int32) = 2 from by decide, if_false, if_true, reduceIte]
    exact w_switch_in (m := 3) (show ins 123 13 = some (.tableswitch 93 0 5 #[39, 48, 57, 66, 75, 84], 39) from by decide +kernel) (by decide) (by decide) rfl (by decide) (by decide)
  by_cases h4 : x = 4
  · subst h4
    simp only [show ¬ (4 : Int32) = 0 from by decide, show ¬ (4 : Int32) = 1 from by decide, show ¬ (4 : Int32) = 2 from by decide, show ¬ (4 : Int32) = 3 from by decide, if_false, if_true, reduceIte]
    exact w_switch_in (m := 4) (show ins 123 13 = some (.tableswitch 93 0 5 #[39, 48, 57, 66, 75, 84], 39) from by decide +kernel) (by decide) (by decide) rfl (by decide) (by decide)
  by_cases h5 : x = 5
  · subst h5
    simp only [show ¬ (5 : Int32) = 0 from by decide, show ¬ (5 : Int32) = 1 from by decide, show ¬ (5 : Int32) = 2 from by decide, show ¬ (5 : Int32) = 3 from by decide, show ¬ (5 : Int32) = 4 from by decide, if_false, if_true, reduceIte]
    exact w_switch_in (m := 5) (show ins 123 13 = some (.tableswitch 93 0 5 #[39, 48, 57, 66, 75, 84], 39) from by decide +kernel) (by decide) (by decide) rfl (by decide) (by decide)
  have g0 : x.toInt ≠ 0 := fun q => h0 (Int32.toInt_inj.mp (q.trans (by decide)))
  have g1 : x.toInt ≠ 1 := fun q => h1 (Int32.toInt_inj.mp (q.trans (by decide)))
  have g2 : x.toInt ≠ 2 := fun q => h2 (Int32.toInt_inj.mp (q.trans (by decide)))
  have g3 : x.toInt ≠ 3 := fun q => h3 (Int32.toInt_inj.mp (q.trans (by decide)))
  have g4 : x.toInt ≠ 4 := fun q => h4 (Int32.toInt_inj.mp (q.trans (by decide)))
  have g5 : x.toInt ≠ 5 := fun q => h5 (Int32.toInt_inj.mp (q.trans (by decide)))
  simp only [h0, h1, h2, h3, h4, h5, if_false]
  exact w_switch_out (show ins 123 13 = some (.tableswitch 93 0 5 #[39, 48, 57, 66, 75, 84], 39) from by decide +kernel) (by omega) (by decide)
theorem X_124_80 {d : Nat} {S : bSt} {Q : Option bV → bSt → Prop} {ls : List (Option bV)} {st : List bV} {x : Int32} : Wp d 124 80 ls (vI x :: st) S Q ↔ if x = 0 then Wp d 124 112 ls st S Q else if x = 1 then Wp d 124 142 ls st S Q else if x = 2 then Wp d 124 163 ls st S Q else if x = 3 then Wp d 124 182 ls st S Q else Wp d 124 198 ls st S Q := by
  by_cases h0 : x = 0
  · subst h0
    simp only [reduceIte]
    exact w_switch_in (m := 0) (show ins 124 80 = some (.tableswitch 118 0 3 #[32, 62, 83, 102], 32) from by decide +kernel) (by decide) (by decide) rfl (by decide) (by decide)
  by_cases h1 : x = 1
  · subst h1
    simp only [show ¬ (1 : Int32) = 0 from by decide, if_false, if_true, reduceIte]
    exact w_switch_in (m := 1) (show ins 124 80 = some (.tableswitch 118 0 3 #[32, 62, 83, 102], 32) from by decide +kernel) (by decide) (by decide) rfl (by decide) (by decide)
  by_cases h2 : x = 2
  · subst h2
    simp only [show ¬ (2 : Int32) = 0 from by decide, show ¬ (2 : Int32) = 1 from by decide, if_false, if_true, reduceIte]
    exact w_switch_in (m := 2) (show ins 124 80 = some (.tableswitch 118 0 3 #[32, 62, 83, 102], 32) from by decide +kernel) (by decide) (by decide) rfl (by decide) (by decide)
  by_cases h3 : x = 3
  · subst h3
    simp only [show ¬ (3 : Int32) = 0 from by decide, show ¬ (3 : Int32) = 1 from by decide, show ¬ (3 : Int32) = 2 from by decide, if_false, if_true, reduceIte]
    exact w_switch_in (m := 3) (show ins 124 80 = some (.tableswitch 118 0 3 #[32, 62, 83, 102], 32) from by decide +kernel) (by decide) (by decide) rfl (by decide) (by decide)
  have g0 : x.toInt ≠ 0 := fun q => h0 (Int32.toInt_inj.mp (q.trans (by decide)))
  have g1 : x.toInt ≠ 1 := fun q => h1 (Int32.toInt_inj.mp (q.trans (by decide)))
  have g2 : x.toInt ≠ 2 := fun q => h2 (Int32.toInt_inj.mp (q.trans (by decide)))
  have g3 : x.toInt ≠ 3 := fun q => h3 (Int32.toInt_inj.mp (q.trans (by decide)))
  simp only [h0, h1, h2, h3, if_false]
  exact w_switch_out (show ins 124 80 = some (.tableswitch 118 0 3 #[32, 62, 83, 102], 32) from by decide +kernel) (by omega) (by decide)
theorem X_129_1 {d : Nat} {S : bSt} {Q : Option bV → bSt → Prop} {ls : List (Option bV)} {st : List bV} {x : Int32} : Wp d 129 1 ls (vI x :: st) S Q ↔ if x = 0 then Wp d 129 36 ls st S Q else if x = 1 then Wp d 129 41 ls st S Q else if x = 2 then Wp d 129 49 ls st S Q else if x = 3 then Wp d 129 59 ls st S Q else if x = 4 then Wp d 129 69 ls st S Q else Wp d 129 79 ls st S Q := by
  by_cases h0 : x = 0
  · subst h0
    simp only [reduceIte]
    exact w_switch_in (m := 0) (show ins 129 1 = some (.tableswitch 78 0 4 #[35, 40, 48, 58, 68], 35) from by decide +kernel) (by decide) (by decide) rfl (by decide) (by decide)
  by_cases h1 : x = 1
  · subst h1
    simp only [show ¬ (1 : Int32) = 0 from by decide, if_false, if_true, reduceIte]
    exact w_switch_in (m := 1) (show ins 129 1 = some (.tableswitch 78 0 4 #[35, 40, 48, 58, 68], 35) from by decide +kernel) (by decide) (by decide) rfl (by decide) (by decide)
  by_cases h2 : x = 2
  · subst h2
    simp only [show ¬ (2 : Int32) = 0 from by decide, show ¬ (2 : Int32) = 1 from by decide, if_false, if_true, reduceIte]
    exact w_switch_in (m := 2) (show ins 129 1 = some (.tableswitch 78 0 4 #[35, 40, 48, 58, 68], 35) from by decide +kernel) (by decide) (by decide) rfl (by decide) (by decide)
  by_cases h3 : x = 3
  · subst h3
    simp only [show ¬ (3 : Int32) = 0 from by decide, show ¬ (3 : Int32) = 1 from by decide, show ¬ (3 : Int32) = 2 from by decide, if_false, if_true, reduceIte]
    exact w_switch_in (m := 3) (show ins 129 1 = some (.tableswitch 78 0 4 #[35, 40, 48, 58, 68], 35) from by decide +kernel) (by decide) (by decide) rfl (by decide) (by decide)
  by_cases h4 : x = 4
  · subst h4
    simp only [show ¬ (4 : Int32) = 0 from by decide, show ¬ (4 : Int32) = 1 from by decide, show ¬ (4 : Int32) = 2 from by decide, show ¬ (4 : Int32) = 3 from by decide, if_false, if_true, reduceIte]
    exact w_switch_in (m := 4) (show ins 129 1 = some (.tableswitch 78 0 4 #[35, 40, 48, 58, 68], 35) from by decide +kernel) (by decide) (by decide) rfl (by decide) (by decide)
  have g0 : x.toInt ≠ 0 := fun q => h0 (Int32.toInt_inj.mp (q.trans (by decide)))
  have g1 : x.toInt ≠ 1 := fun q => h1 (Int32.toInt_inj.mp (q.trans (by decide)))
  have g2 : x.toInt ≠ 2 := fun q => h2 (Int32.toInt_inj.mp (q.trans (by decide)))
  have g3 : x.toInt ≠ 3 := fun q => h3 (Int32.toInt_inj.mp (q.trans (by decide)))
  have g4 : x.toInt ≠ 4 := fun q => h4 (Int32.toInt_inj.mp (q.trans (by decide)))
  simp only [h0, h1, h2, h3, h4, if_false]
  exact w_switch_out (show ins 129 1 = some (.tableswitch 78 0 4 #[35, 40, 48, 58, 68], 35) from by decide +kernel) (by omega) (by decide)
theorem X_165_27 {d : Nat} {S : bSt} {Q : Option bV → bSt → Prop} {ls : List (Option bV)} {st : List bV} {x : Int32} : Wp d 165 27 ls (vI x :: st) S Q ↔ if x = 6 then Wp d 165 64 ls st S Q else if x = 7 then Wp d 165 70 ls st S Q else if x = 8 then Wp d 165 83 ls st S Q else if x = 9 then Wp d 165 89 ls st S Q else if x = 10 then Wp d 165 95 ls st S Q else if x = 11 then Wp d 165 109 ls st S Q else Wp d 165 115 ls st S Q := by
  by_cases h0 : x = 6
  · subst h0
    simp only [reduceIte]
    exact w_switch_in (m := 0) (show ins 165 27 = some (.tableswitch 88 6 11 #[37, 43, 56, 62, 68, 82], 37) from by decide +kernel) (by decide) (by decide) rfl (by decide) (by decide)
  by_cases h1 : x = 7
  · subst h1
    simp only [show ¬ (7 : Int32) = 6 from by decide, if_false, if_true, reduceIte]
    exact w_switch_in (m := 1) (show ins 165 27 = some (.tableswitch 88 6 11 #[37, 43, 56, 62, 68, 82], 37) from by decide +kernel) (by decide) (by decide) rfl (by decide) (by decide)
  by_cases h2 : x = 8
  · subst h2
    simp only [show ¬ (8 : Int32) = 6 from by decide, show ¬ (8 : Int32) = 7 from by decide, if_false, if_true, reduceIte]
    exact w_switch_in (m := 2) (show ins 165 27 = some (.tableswitch 88 6 11 #[37, 43, 56, 62, 68, 82], 37) from by decide +kernel) (by decide) (by decide) rfl (by decide) (by decide)
  by_cases h3 : x = 9
  · subst h3
    simp only [show ¬ (9 : Int32) = 6 from by decide, show ¬ (9 : Int32) = 7 from by decide, show ¬ (9 : Int32) = 8 from by decide, if_false, if_true, reduceIte]
    exact w_switch_in (m := 3) (show ins 165 27 = some (.tableswitch 88 6 11 #[37, 43, 56, 62, 68, 82], 37) from by decide +kernel) (by decide) (by decide) rfl (by decide) (by decide)
  by_cases h4 : x = 10
  · subst h4
    simp only [show ¬ (10 : Int32) = 6 from by decide, show ¬ (10 : Int32) = 7 from by decide, show ¬ (10 : Int32) = 8 from by decide, show ¬ (10 : Int32) = 9 from by decide, if_false, if_true, reduceIte]
    exact w_switch_in (m := 4) (show ins 165 27 = some (.tableswitch 88 6 11 #[37, 43, 56, 62, 68, 82], 37) from by decide +kernel) (by decide) (by decide) rfl (by decide) (by decide)
  by_cases h5 : x = 11
  · subst h5
    simp only [show ¬ (11 : Int32) = 6 from by decide, show ¬ (11 : Int32) = 7 from by decide, show ¬ (11 : Int32) = 8 from by decide, show ¬ (11 : Int32) = 9 from by decide, show ¬ (11 : Int32) = 10 from by decide, if_false, if_true, reduceIte]
    exact w_switch_in (m := 5) (show ins 165 27 = some (.tableswitch 88 6 11 #[37, 43, 56, 62, 68, 82], 37) from by decide +kernel) (by decide) (by decide) rfl (by decide) (by decide)
  have g0 : x.toInt ≠ 6 := fun q => h0 (Int32.toInt_inj.mp (q.trans (by decide)))
  have g1 : x.toInt ≠ 7 := fun q => h1 (Int32.toInt_inj.mp (q.trans (by decide)))
  have g2 : x.toInt ≠ 8 := fun q => h2 (Int32.toInt_inj.mp (q.trans (by decide)))
  have g3 : x.toInt ≠ 9 := fun q => h3 (Int32.toInt_inj.mp (q.trans (by decide)))
  have g4 : x.toInt ≠ 10 := fun q => h4 (Int32.toInt_inj.mp (q.trans (by decide)))
  have g5 : x.toInt ≠ 11 := fun q => h5 (Int32.toInt_inj.mp (q.trans (by decide)))
  simp only [h0, h1, h2, h3, h4, h5, if_false]
  exact w_switch_out (show ins 165 27 = some (.tableswitch 88 6 11 #[37, 43, 56, 62, 68, 82], 37) from by decide +kernel) (by omega) (by decide)
theorem X_180_45 {d : Nat} {S : bSt} {Q : Option bV → bSt → Prop} {ls : List (Option bV)} {st : List bV} {x : Int32} : Wp d 180 45 ls (vI x :: st) S Q ↔ if x = 0 then Wp d 180 76 ls st S Q else if x = 1 then Wp d 180 81 ls st S Q else if x = 2 then Wp d 180 86 ls st S Q else if x = 3 then Wp d 180 98 ls st S Q else Wp d 180 104 ls st S Q := by
  by_cases h0 : x = 0
  · subst h0
    simp only [reduceIte]
    exact w_switch_in (m := 0) (show ins 180 45 = some (.tableswitch 59 0 3 #[31, 36, 41, 53], 31) from by decide +kernel) (by decide) (by decide) rfl (by decide) (by decide)
  by_cases h1 : x = 1
  · subst h1
    simp only [show ¬ (1 : Int32) = 0 from by decide, if_false, if_true, reduceIte]
    exact w_switch_in (m := 1) (show ins 180 45 = some (.tableswitch 59 0 3 #[31, 36, 41, 53], 31) from by decide +kernel) (by decide) (by decide) rfl (by decide) (by decide)
  by_cases h2 : x = 2
  · subst h2
    simp only [show ¬ (2 : Int32) = 0 from by decide, show ¬ (2 : Int32) = 1 from by decide, if_false, if_true, reduceIte]
    exact w_switch_in (m := 2) (show ins 180 45 = some (.tableswitch 59 0 3 #[31, 36, 41, 53], 31) from by decide +kernel) (by decide) (by decide) rfl (by decide) (by decide)
  by_cases h3 : x = 3
  · subst h3
    simp only [show ¬ (3 : Int32) = 0 from by decide, show ¬ (3 : Int32) = 1 from by decide, show ¬ (3 : Int32) = 2 from by decide, if_false, if_true, reduceIte]
    exact w_switch_in (m := 3) (show ins 180 45 = some (.tableswitch 59 0 3 #[31, 36, 41, 53], 31) from by decide +kernel) (by decide) (by decide) rfl (by decide) (by decide)
  have g0 : x.toInt ≠ 0 := fun q => h0 (Int32.toInt_inj.mp (q.trans (by decide)))
  have g1 : x.toInt ≠ 1 := fun q => h1 (Int32.toInt_inj.mp (q.trans (by decide)))
  have g2 : x.toInt ≠ 2 := fun q => h2 (Int32.toInt_inj.mp (q.trans (by decide)))
  have g3 : x.toInt ≠ 3 := fun q => h3 (Int32.toInt_inj.mp (q.trans (by decide)))
  simp only [h0, h1, h2, h3, if_false]
  exact w_switch_out (show ins 180 45 = some (.tableswitch 59 0 3 #[31, 36, 41, 53], 31) from by decide +kernel) (by omega) (by decide)
theorem X_216_11 {d : Nat} {S : bSt} {Q : Option bV → bSt → Prop} {ls : List (Option bV)} {st : List bV} {x : Int32} : Wp d 216 11 ls (vI x :: st) S Q ↔ if x = 0 then Wp d 216 60 ls st S Q else if x = 1 then Wp d 216 60 ls st S Q else if x = 2 then Wp d 216 67 ls st S Q else if x = 3 then Wp d 216 73 ls st S Q else if x = 4 then Wp d 216 79 ls st S Q else if x = 5 then Wp d 216 85 ls st S Q else if x = 6 then Wp d 216 94 ls st S Q else if x = 7 then Wp d 216 100 ls st S Q else if x = 8 then Wp d 216 107 ls st S Q else Wp d 216 113 ls st S Q := by
  by_cases h0 : x = 0
  · subst h0
    simp only [reduceIte]
    exact w_switch_in (m := 0) (show ins 216 11 = some (.tableswitch 102 0 8 #[49, 49, 56, 62, 68, 74, 83, 89, 96], 49) from by decide +kernel) (by decide) (by decide) rfl (by decide) (by decide)
  by_cases h1 : x = 1
  · subst h1
    simp only [show ¬ (1 : Int32) = 0 from by decide, if_false, if_true, reduceIte]
    exact w_switch_in (m := 1) (show ins 216 11 = some (.tableswitch 102 0 8 #[49, 49, 56, 62, 68, 74, 83, 89, 96], 49) from by decide +kernel) (by decide) (by decide) rfl (by decide) (by decide)
  by_cases h2 : x = 2
  · subst h2
    simp only [show ¬ (2 : Int32) = 0 from by decide, show ¬ (2 : Int32) = 1 from by decide, if_false, if_true, reduceIte]
    exact w_switch_in (m := 2) (show ins 216 11 = some (.tableswitch 102 0 8 #[49, 49, 56, 62, 68, 74, 83, 89, 96], 49) from by decide +kernel) (by decide) (by decide) rfl (by decide) (by decide)
  by_cases h3 : x = 3
  · subst h3
    simp only [show ¬ (3 : Int32) = 0 from by decide, show ¬ (3 : Int32) = 1 from by decide, show ¬ (3 : Int32) = 2 from by decide, if_false, if_true, reduceIte]
    exact w_switch_in (m := 3) (show ins 216 11 = some (.tableswitch 102 0 8 #[49, 49, 56, 62, 68, 74, 83, 89, 96], 49) from by decide +kernel) (by decide) (by decide) rfl (by decide) (by decide)
  by_cases h4 : x = 4
  · subst h4
    simp only [show ¬ (4 : Int32) = 0 from by decide, show ¬ (4 : Int32) = 1 from by decide, show ¬ (4 : Int32) = 2 from by decide, show ¬ (4 : Int32) = 3 from by decide, if_false, if_true, reduceIte]
    exact w_switch_in (m := 4) (show ins 216 11 = some (.tableswitch 102 0 8 #[49, 49, 56, 62, 68, 74, 83, 89, 96], 49) from by decide +kernel) (by decide) (by decide) rfl (by decide) (by decide)
  by_cases h5 : x = 5
  · subst h5
    simp only [show ¬ (5 : Int32) = 0 from by decide, show ¬ (5 : Int32) = 1 from by decide, show ¬ (5 : Int32) = 2 from by decide, show ¬ (5 : Int32) = 3 from by decide, show ¬ (5 : Int32) = 4 from by decide, if_false, if_true, reduceIte]
    exact w_switch_in (m := 5) (show ins 216 11 = some (.tableswitch 102 0 8 #[49, 49, 56, 62, 68, 74, 83, 89, 96], 49) from by decide +kernel) (by decide) (by decide) rfl (by decide) (by decide)
  by_cases h6 : x = 6
  · subst h6
    simp only [show ¬ (6 : Int32) = 0 from by decide, show ¬ (6 : Int32) = 1 from by decide, show ¬ (6 : Int32) = 2 from by decide, show ¬ (6 : Int32) = 3 from by decide, show ¬ (6 : Int32) = 4 from by decide, show ¬ (6 : Int32) = 5 from by decide, if_false, if_true, reduceIte]
    exact w_switch_in (m := 6) (show ins 216 11 = some (.tableswitch 102 0 8 #[49, 49, 56, 62, 68, 74, 83, 89, 96], 49) from by decide +kernel) (by decide) (by decide) rfl (by decide) (by decide)
  by_cases h7 : x = 7
  · subst h7
    simp only [show ¬ (7 : Int32) = 0 from by decide, show ¬ (7 : Int32) = 1 from by decide, show ¬ (7 : Int32) = 2 from by decide, show ¬ (7 : Int32) = 3 from by decide, show ¬ (7 : Int32) = 4 from by decide, show ¬ (7 : Int32) = 5 from by decide, show ¬ (7 : Int32) = 6 from by decide, if_false, if_true, reduceIte]
    exact w_switch_in (m := 7) (show ins 216 11 = some (.tableswitch 102 0 8 #[49, 49, 56, 62, 68, 74, 83, 89, 96], 49) from by decide +kernel) (by decide) (by decide) rfl (by decide) (by decide)
  by_cases h8 : x = 8
  · subst h8
    simp only [show ¬ (8 : Int32) = 0 from by decide, show ¬ (8 : Int32) = 1 from by decide, show ¬ (8 : Int32) = 2 from by decide, show ¬ (8 : Int32) = 3 from by decide, show ¬ (8 : Int32) = 4 from by decide, show ¬ (8 : Int32) = 5 from by decide, show ¬ (8 : Int32) = 6 from by decide, show ¬ (8 : Int32) = 7 from by decide, if_false, if_true, reduceIte]
    exact w_switch_in (m := 8) (show ins 216 11 = some (.tableswitch 102 0 8 #[49, 49, 56, 62, 68, 74, 83, 89, 96], 49) from by decide +kernel) (by decide) (by decide) rfl (by decide) (by decide)
  have g0 : x.toInt ≠ 0 := fun q => h0 (Int32.toInt_inj.mp (q.trans (by decide)))
  have g1 : x.toInt ≠ 1 := fun q => h1 (Int32.toInt_inj.mp (q.trans (by decide)))
  have g2 : x.toInt ≠ 2 := fun q => h2 (Int32.toInt_inj.mp (q.trans (by decide)))
  have g3 : x.toInt ≠ 3 := fun q => h3 (Int32.toInt_inj.mp (q.trans (by decide)))
  have g4 : x.toInt ≠ 4 := fun q => h4 (Int32.toInt_inj.mp (q.trans (by decide)))
  have g5 : x.toInt ≠ 5 := fun q => h5 (Int32.toInt_inj.mp (q.trans (by decide)))
  have g6 : x.toInt ≠ 6 := fun q => h6 (Int32.toInt_inj.mp (q.trans (by decide)))
  have g7 : x.toInt ≠ 7 := fun q => h7 (Int32.toInt_inj.mp (q.trans (by decide)))
  have g8 : x.toInt ≠ 8 := fun q => h8 (Int32.toInt_inj.mp (q.trans (by decide)))
  simp only [h0, h1, h2, h3, h4, h5, h6, h7, h8, if_false]
  exact w_switch_out (show ins 216 11 = some (.tableswitch 102 0 8 #[49, 49, 56, 62, 68, 74, 83, 89, 96], 49) from by decide +kernel) (by omega) (by decide)
theorem X_233_1 {d : Nat} {S : bSt} {Q : Option bV → bSt → Prop} {ls : List (Option bV)} {st : List bV} {x : Int32} : Wp d 233 1 ls (vI x :: st) S Q ↔ if x = 0 then Wp d 233 56 ls st S Q else if x = 1 then Wp d 233 62 ls st S Q else if x = 2 then Wp d 233 67 ls st S Q else if x = 3 then Wp d 233 72 ls st S Q else if x = 4 then Wp d 233 77 ls st S Q else if x = 5 then Wp d 233 82 ls st S Q else if x = 6 then Wp d 233 88 ls st S Q else if x = 7 then Wp d 233 93 ls st S Q else if x = 8 then Wp d 233 100 ls st S Q else if x = 9 then Wp d 233 107 ls st S Q else Wp d 233 114 ls st S Q := by
  by_cases h0 : x = 0
  · subst h0
    simp only [reduceIte]
    exact w_switch_in (m := 0) (show ins 233 1 = some (.tableswitch 113 0 9 #[55, 61, 66, 71, 76, 81, 87, 92, 99, 106], 55) from by decide +kernel) (by decide) (by decide) rfl (by decide) (by decide)
  by_cases h1 : x = 1
  · subst h1
    simp only [show ¬ (1 : Int32) = 0 from by decide, if_false, if_true, reduceIte]
    exact w_switch_in (m := 1) (show ins 233 1 = some (.tableswitch 113 0 9 #[55, 61, 66, 71, 76, 81, 87, 92, 99, 106], 55) from by decide +kernel) (by decide) (by decide) rfl (by decide) (by decide)
  by_cases h2 : x = 2
  · subst h2
    simp only [show ¬ (2 : Int32) = 0 from by decide, show ¬ (2 : Int32) = 1 from by decide, if_false, if_true, reduceIte]
    exact w_switch_in (m := 2) (show ins 233 1 = some (.tableswitch 113 0 9 #[55, 61, 66, 71, 76, 81, 87, 92, 99, 106], 55) from by decide +kernel) (by decide) (by decide) rfl (by decide) (by decide)
  by_cases h3 : x = 3
  · subst h3
    simp only [show ¬ (3 : Int32) = 0 from by decide, show ¬ (3 : Int32) = 1 from by decide, show ¬ (3 : Int32) = 2 from by decide, if_false, if_true, reduceIte]
    exact w_switch_in (m := 3) (show ins 233 1 = some (.tableswitch 113 0 9 #[55, 61, 66, 71, 76, 81, 87, 92, 99, 106], 55) from by decide +kernel) (by decide) (by decide) rfl (by decide) (by decide)
  by_cases h4 : x = 4
  · subst h4
    simp only [show ¬ (4 : Int32) = 0 from by decide, show ¬ (4 : Int32) = 1 from by decide, show ¬ (4 : Int32) = 2 from by decide, show ¬ (4 : Int32) = 3 from by decide, if_false, if_true, reduceIte]
    exact w_switch_in (m := 4) (show ins 233 1 = some (.tableswitch 113 0 9 #[55, 61, 66, 71, 76, 81, 87, 92, 99, 106], 55) from by decide +kernel) (by decide) (by decide) rfl (by decide) (by decide)
  by_cases h5 : x = 5
  · subst h5
    simp only [show ¬ (5 : Int32) = 0 from by decide, show ¬ (5 : Int32) = 1 from by decide, show ¬ (5 : Int32) = 2 from by decide, show ¬ (5 : Int32) = 3 from by decide, show ¬ (5 : Int32) = 4 from by decide, if_false, if_true, reduceIte]
    exact w_switch_in (m := 5) (show ins 233 1 = some (.tableswitch 113 0 9 #[55, 61, 66, 71, 76, 81, 87, 92, 99, 106], 55) from by decide +kernel) (by decide) (by decide) rfl (by decide) (by decide)
  by_cases h6 : x = 6
  · subst h6
    simp only [show ¬ (6 : Int32) = 0 from by decide, show ¬ (6 : Int32) = 1 from by decide, show ¬ (6 : Int32) = 2 from by decide, show ¬ (6 : Int32) = 3 from by decide, show ¬ (6 : Int32) = 4 from by decide, show ¬ (6 : Int32) = 5 from by decide, if_false, if_true, reduceIte]
    exact w_switch_in (m := 6) (show ins 233 1 = some (.tableswitch 113 0 9 #[55, 61, 66, 71, 76, 81, 87, 92, 99, 106], 55) from by decide +kernel) (by decide) (by decide) rfl (by decide) (by decide)
  by_cases h7 : x = 7
  · subst h7
    simp only [show ¬ (7 : Int32) = 0 from by decide, show ¬ (7 : Int32) = 1 from by decide, show ¬ (7 : Int32) = 2 from by decide, show ¬ (7 : Int32) = 3 from by decide, show ¬ (7 : Int32) = 4 from by decide, show ¬ (7 : Int32) = 5 from by decide, show ¬ (7 : Int32) = 6 from by decide, if_false, if_true, reduceIte]
    exact w_switch_in (m := 7) (show ins 233 1 = some (.tableswitch 113 0 9 #[55, 61, 66, 71, 76, 81, 87, 92, 99, 106], 55) from by decide +kernel) (by decide) (by decide) rfl (by decide) (by decide)
  by_cases h8 : x = 8
  · subst h8
    simp only [show ¬ (8 : Int32) = 0 from by decide, show ¬ (8 : Int32) = 1 from by decide, show ¬ (8 : Int32) = 2 from by decide, show ¬ (8 : Int32) = 3 from by decide, show ¬ (8 : Int32) = 4 from by decide, show ¬ (8 : Int32) = 5 from by decide, show ¬ (8 : Int32) = 6 from by decide, show ¬ (8 : Int32) = 7 from by decide, if_false, if_true, reduceIte]
    exact w_switch_in (m := 8) (show ins 233 1 = some (.tableswitch 113 0 9 #[55, 61, 66, 71, 76, 81, 87, 92, 99, 106], 55) from by decide +kernel) (by decide) (by decide) rfl (by decide) (by decide)
  by_cases h9 : x = 9
  · subst h9
    simp only [show ¬ (9 : Int32) = 0 from by decide, show ¬ (9 : Int32) = 1 from by decide, show ¬ (9 : Int32) = 2 from by decide, show ¬ (9 : Int32) = 3 from by decide, show ¬ (9 : Int32) = 4 from by decide, show ¬ (9 : Int32) = 5 from by decide, show ¬ (9 : Int32) = 6 from by decide, show ¬ (9 : Int32) = 7 from by decide, show ¬ (9 : Int32) = 8 from by decide, if_false, if_true, reduceIte]
    exact w_switch_in (m := 9) (show ins 233 1 = some (.tableswitch 113 0 9 #[55, 61, 66, 71, 76, 81, 87, 92, 99, 106], 55) from by decide +kernel) (by decide) (by decide) rfl (by decide) (by decide)
  have g0 : x.toInt ≠ 0 := fun q => h0 (Int32.toInt_inj.mp (q.trans (by decide)))
  have g1 : x.toInt ≠ 1 := fun q => h1 (Int32.toInt_inj.mp (q.trans (by decide)))
  have g2 : x.toInt ≠ 2 := fun q => h2 (Int32.toInt_inj.mp (q.trans (by decide)))
  have g3 : x.toInt ≠ 3 := fun q => h3 (Int32.toInt_inj.mp (q.trans (by decide)))
  have g4 : x.toInt ≠ 4 := fun q => h4 (Int32.toInt_inj.mp (q.trans (by decide)))
  have g5 : x.toInt ≠ 5 := fun q => h5 (Int32.toInt_inj.mp (q.trans (by decide)))
  have g6 : x.toInt ≠ 6 := fun q => h6 (Int32.toInt_inj.mp (q.trans (by decide)))
  have g7 : x.toInt ≠ 7 := fun q => h7 (Int32.toInt_inj.mp (q.trans (by decide)))
  have g8 : x.toInt ≠ 8 := fun q => h8 (Int32.toInt_inj.mp (q.trans (by decide)))
  have g9 : x.toInt ≠ 9 := fun q => h9 (Int32.toInt_inj.mp (q.trans (by decide)))
  simp only [h0, h1, h2, h3, h4, h5, h6, h7, h8, h9, if_false]
  exact w_switch_out (show ins 233 1 = some (.tableswitch 113 0 9 #[55, 61, 66, 71, 76, 81, 87, 92, 99, 106], 55) from by decide +kernel) (by omega) (by decide)
theorem X_238_13 {d : Nat} {S : bSt} {Q : Option bV → bSt → Prop} {ls : List (Option bV)} {st : List bV} {x : Int32} : Wp d 238 13 ls (vI x :: st) S Q ↔ if x = 0 then Wp d 238 52 ls st S Q else if x = 1 then Wp d 238 52 ls st S Q else if x = 2 then Wp d 238 68 ls st S Q else if x = 3 then Wp d 238 68 ls st S Q else if x = 4 then Wp d 238 84 ls st S Q else if x = 5 then Wp d 238 90 ls st S Q else Wp d 238 96 ls st S Q := by
  by_cases h0 : x = 0
  · subst h0
    simp only [reduceIte]
    exact w_switch_in (m := 0) (show ins 238 13 = some (.tableswitch 83 0 5 #[39, 39, 55, 55, 71, 77], 39) from by decide +kernel) (by decide) (by decide) rfl (by decide) (by decide)
  by_cases h1 : x = 1
  · subst h1
    simp only [show ¬ (1 : Int32) = 0 from by decide, if_false, if_true, reduceIte]
    exact w_switch_in (m := 1) (show ins 238 13 = some (.tableswitch 83 0 5 #[39, 39, 55, 55, 71, 77], 39) from by decide +kernel) (by decide) (by decide) rfl (by decide) (by decide)
  by_cases h2 : x = 2
  · subst h2
    simp only [show ¬ (2 : Int32) = 0 from by decide, show ¬ (2 : Int32) = 1 from by decide, if_false, if_true, reduceIte]
    exact w_switch_in (m := 2) (show ins 238 13 = some (.tableswitch 83 0 5 #[39, 39, 55, 55, 71, 77], 39) from by decide +kernel) (by decide) (by decide) rfl (by decide) (by decide)
  by_cases h3 : x = 3
  · subst h3
    simp only [show ¬ (3 : Int32) = 0 from by decide, show ¬ (3 : Int32) = 1 from by decide, show ¬ (3 : Int32) = 2 from by decide, if_false, if_true, reduceIte]
    exact w_switch_in (m := 3) (show ins 238 13 = some (.tableswitch 83 0 5 #[39, 39, 55, 55, 71, 77], 39) from by decide +kernel) (by decide) (by decide) rfl (by decide) (by decide)
  by_cases h4 : x = 4
  · subst h4
    simp only [show ¬ (4 : Int32) = 0 from by decide, show ¬ (4 : Int32) = 1 from by decide, show ¬ (4 : Int32) = 2 from by decide, show ¬ (4 : Int32) = 3 from by decide, if_false, if_true, reduceIte]
    exact w_switch_in (m := 4) (show ins 238 13 = some (.tableswitch 83 0 5 #[39, 39, 55, 55, 71, 77], 39) from by decide +kernel) (by decide) (by decide) rfl (by decide) (by decide)
  by_cases h5 : x = 5
  · subst h5
    simp only [show ¬ (5 : Int32) = 0 from by decide, show ¬ (5 : Int32) = 1 from by decide, show ¬ (5 : Int32) = 2 from by decide, show ¬ (5 : Int32) = 3 from by decide, show ¬ (5 : Int32) = 4 from by decide, if_false, if_true, reduceIte]
    exact w_switch_in (m := 5) (show ins 238 13 = some (.tableswitch 83 0 5 #[39, 39, 55, 55, 71, 77], 39) from by decide +kernel) (by decide) (by decide) rfl (by decide) (by decide)
  have g0 : x.toInt ≠ 0 := fun q => h0 (Int32.toInt_inj.mp (q.trans (by decide)))
  have g1 : x.toInt ≠ 1 := fun q => h1 (Int32.toInt_inj.mp (q.trans (by decide)))
  have g2 : x.toInt ≠ 2 := fun q => h2 (Int32.toInt_inj.mp (q.trans (by decide)))
  have g3 : x.toInt ≠ 3 := fun q => h3 (Int32.toInt_inj.mp (q.trans (by decide)))
  have g4 : x.toInt ≠ 4 := fun q => h4 (Int32.toInt_inj.mp (q.trans (by decide)))
  have g5 : x.toInt ≠ 5 := fun q => h5 (Int32.toInt_inj.mp (q.trans (by decide)))
  simp only [h0, h1, h2, h3, h4, h5, if_false]
  exact w_switch_out (show ins 238 13 = some (.tableswitch 83 0 5 #[39, 39, 55, 55, 71, 77], 39) from by decide +kernel) (by omega) (by decide)
theorem X_244_1 {d : Nat} {S : bSt} {Q : Option bV → bSt → Prop} {ls : List (Option bV)} {st : List bV} {x : Int32} : Wp d 244 1 ls (vI x :: st) S Q ↔ if x = 0 then Wp d 244 32 ls st S Q else if x = 1 then Wp d 244 79 ls st S Q else if x = 2 then Wp d 244 102 ls st S Q else if x = 3 then Wp d 244 113 ls st S Q else Wp d 244 118 ls st S Q := by
  by_cases h0 : x = 0
  · subst h0
    simp only [reduceIte]
    exact w_switch_in (m := 0) (show ins 244 1 = some (.tableswitch 117 0 3 #[31, 78, 101, 112], 31) from by decide +kernel) (by decide) (by decide) rfl (by decide) (by decide)
  by_cases h1 : x = 1
  · subst h1
    simp only [show ¬ (1 : Int32) = 0 from by decide, if_false, if_true, reduceIte]
    exact w_switch_in (m := 1) (show ins 244 1 = some (.tableswitch 117 0 3 #[31, 78, 101, 112], 31) from by decide +kernel) (by decide) (by decide) rfl (by decide) (by decide)
  by_cases h2 : x = 2
  · subst h2
    simp only [show ¬ (2 : Int32) = 0 from by decide, show ¬ (2 : Int32) = 1 from by decide, if_false, if_true, reduceIte]
    exact w_switch_in (m := 2) (show ins 244 1 = some (.tableswitch 117 0 3 #[31, 78, 101, 112], 31) from by decide +kernel) (by decide) (by decide) rfl (by decide) (by decide)
  by_cases h3 : x = 3
  · subst h3
    simp only [show ¬ (3 : Int32) = 0 from by decide, show ¬ (3 : Int32) = 1 from by decide, show ¬ (3 : Int32) = 2 from by decide, if_false, if_true, reduceIte]
    exact w_switch_in (m := 3) (show ins 244 1 = some (.tableswitch 117 0 3 #[31, 78, 101, 112], 31) from by decide +kernel) (by decide) (by decide) rfl (by decide) (by decide)
  have g0 : x.toInt ≠ 0 := fun q => h0 (Int32.toInt_inj.mp (q.trans (by decide)))
  have g1 : x.toInt ≠ 1 := fun q => h1 (Int32.toInt_inj.mp (q.trans (by decide)))
  have g2 : x.toInt ≠ 2 := fun q => h2 (Int32.toInt_inj.mp (q.trans (by decide)))
  have g3 : x.toInt ≠ 3 := fun q => h3 (Int32.toInt_inj.mp (q.trans (by decide)))
  simp only [h0, h1, h2, h3, if_false]
  exact w_switch_out (show ins 244 1 = some (.tableswitch 117 0 3 #[31, 78, 101, 112], 31) from by decide +kernel) (by omega) (by decide)
theorem X_251_1 {d : Nat} {S : bSt} {Q : Option bV → bSt → Prop} {ls : List (Option bV)} {st : List bV} {x : Int32} : Wp d 251 1 ls (vI x :: st) S Q ↔ if x = 0 then Wp d 251 36 ls st S Q else if x = 1 then Wp d 251 41 ls st S Q else if x = 2 then Wp d 251 46 ls st S Q else if x = 3 then Wp d 251 53 ls st S Q else if x = 4 then Wp d 251 60 ls st S Q else Wp d 251 67 ls st S Q := by
  by_cases h0 : x = 0
  · subst h0
    simp only [reduceIte]
    exact w_switch_in (m := 0) (show ins 251 1 = some (.tableswitch 66 0 4 #[35, 40, 45, 52, 59], 35) from by decide +kernel) (by decide) (by decide) rfl (by decide) (by decide)
  by_cases h1 : x = 1
  · subst h1
    simp only [show ¬ (1 : Int32) = 0 from by decide, if_false, if_true, reduceIte]
    exact w_switch_in (m := 1) (show ins 251 1 = some (.tableswitch 66 0 4 #[35, 40, 45, 52, 59], 35) from by decide +kernel) (by decide) (by decide) rfl (by decide) (by decide)
  by_cases h2 : x = 2
  · subst h2
    simp only [show ¬ (2 : Int32) = 0 from by decide, show ¬ (2 : Int32) = 1 from by decide, if_false, if_true, reduceIte]
    exact w_switch_in (m := 2) (show ins 251 1 = some (.tableswitch 66 0 4 #[35, 40, 45, 52, 59], 35) from by decide +kernel) (by decide) (by decide) rfl (by decide) (by decide)
  by_cases h3 : x = 3
  · subst h3
    simp only [show ¬ (3 : Int32) = 0 from by decide, show ¬ (3 : Int32) = 1 from by decide, show ¬ (3 : Int32) = 2 from by decide, if_false, if_true, reduceIte]
    exact w_switch_in (m := 3) (show ins 251 1 = some (.tableswitch 66 0 4 #[35, 40, 45, 52, 59], 35) from by decide +kernel) (by decide) (by decide) rfl (by decide) (by decide)
  by_cases h4 : x = 4
  · subst h4
    simp only [show ¬ (4 : Int32) = 0 from by decide, show ¬ (4 : Int32) = 1 from by decide, show ¬ (4 : Int32) = 2 from by decide, show ¬ (4 : Int32) = 3 from by decide, if_false, if_true, reduceIte]
    exact w_switch_in (m := 4) (show ins 251 1 = some (.tableswitch 66 0 4 #[35, 40, 45, 52, 59], 35) from by decide +kernel) (by decide) (by decide) rfl (by decide) (by decide)
  have g0 : x.toInt ≠ 0 := fun q => h0 (Int32.toInt_inj.mp (q.trans (by decide)))
  have g1 : x.toInt ≠ 1 := fun q => h1 (Int32.toInt_inj.mp (q.trans (by decide)))
  have g2 : x.toInt ≠ 2 := fun q => h2 (Int32.toInt_inj.mp (q.trans (by decide)))
  have g3 : x.toInt ≠ 3 := fun q => h3 (Int32.toInt_inj.mp (q.trans (by decide)))
  have g4 : x.toInt ≠ 4 := fun q => h4 (Int32.toInt_inj.mp (q.trans (by decide)))
  simp only [h0, h1, h2, h3, h4, if_false]
  exact w_switch_out (show ins 251 1 = some (.tableswitch 66 0 4 #[35, 40, 45, 52, 59], 35) from by decide +kernel) (by omega) (by decide)
