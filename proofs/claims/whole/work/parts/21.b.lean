/-! THE CONSTRUCTORS: what each makes -/
def kqA : DecidableEq (Nat × List kV) := inferInstance
def kqB : DecidableEq (Nat × Nat × (List Int32 ⊕ List (Option Nat))) := inferInstance
def kqE : DecidableEq kE := @instDecidableEqSum (Nat × List kV) (Nat × Nat × (List Int32 ⊕ List (Option Nat))) kqA kqB
def kqT (a : Option (List kE)) (b : List kE) : Bool := match a with
  | some l => @decide (l = b) (@instDecidableEqList kE kqE l b)
  | none => false
theorem kqT_eq {a : Option (List kE)} {b : List kE} (h : kqT a b = true) : a = some b := by
  cases a with
  | none => exact absurd h (by simp [kqT])
  | some l => rw [@of_decide_eq_true (l = b) (@instDecidableEqList kE kqE l b) h]
def kZi (t n : Nat) : kE := .inr (t, n, .inl [])
def kC_8 : List kE := [.inl (1, [kI 0, kR 1]), kZi 0 6]
def kC_9 : List kE := [.inl (2, [kI 0, kI 0, kI 0, kI 0, kI 0, kI 0, kI 0, kI 0])]
def kC_63 : List kE := [.inl (4, [kI 0, kI 0, kI 0])]
def kC_66 : List kE := [.inl (5, [kI 0, kI 0, kI 0, kI 0, kI 0, kI 0, kR 1, kR 2]), kZi 0 8, kZi 0 7]
def kC_73 : List kE := [.inl (6, [kI 0, kI 0, kI 0, kI 0, kR 1, kR 2, kR 3, kR 4, kR 5, kR 6, kI 0, kI 0, kI 0, kI 0, kI 0]), kZi 0 8, kZi 0 8, kZi 0 8, kZi 0 8, kZi 0 9, kZi 0 301]
def kC_0 : List kE := [.inl (0, [kI 0, kR 1, kR 10, kR 11, kR 12, kR 13, kI 0]), .inr (8, 8, .inr [some 2, some 3, some 4, some 5, some 6, some 7, some 8, some 9])] ++ List.replicate 8 (kZi 0 7) ++ [kZi 0 7, kZi 0 7, kZi 0 896, .inr (5, 7, .inr [])]
def kRp (n w t : Nat) (us : List kE) : List kE := (List.range n).flatMap fun i => us.map (keS (t + w * i))
def kC_12 : List kE := [.inl (3, [kR 1, kR 2, kR 3, kR 4, kI 0, kI 0, kI 0]), .inr (0, 3, .inl [6, 3, 20]), .inr (3, 8, .inr ((List.range 8).map fun j => some (5 + j))), .inr (4, 12, .inr ((List.range 12).map fun j => some (13 + j))), .inr (5, 16, .inr ((List.range 16).map fun j => some (25 + 3 * j)))] ++ (kRp 8 1 5 kC_9 ++ (kRp 12 1 13 kC_63 ++ kRp 16 3 25 kC_66))
def kC_80 : List kE := [.inl (7, [kR 1, kI 0, kI 0, kR 2, kR 3, kI 0]), kZi 1 80, kZi 0 10, .inr (7, 20, .inr ((List.range 20).map fun j => some (4 + 2 * j)))] ++ kRp 20 2 4 kC_8
def kC_95 : List kE := [.inl (8, [kR 1, kR 74, kR 147, kR 220, kR 293, kR 294, kR 301, kR 315, kR 359, kI 0, kI 0, kI 0, kI 0, kI (-5), kI (-5)])] ++ (kRp 4 73 1 kC_12 ++ (.inr (6, 8, .inr ((List.range 8).map fun j => some (360 + 73 * j))) :: (kC_73.map (keS 294) ++ (kC_0.map (keS 301) ++ (kC_80.map (keS 315) ++ (kZi 1 31 :: kRp 8 73 360 kC_12))))))
def kC_136 : List kE := [.inl (9, [kR 1, kR 2, kI 0, kR 3, kI 0, kR 4, kR 5, kI 0, kI (-5), kI (-5), kR 6, kR 7, kI 0, kI 0, kI 0, kR 8, kI 0, kI 0, kI 0, kR 9, kR 10, kI 0, kR 11, kR 12, kR 13, kI 0, kR 14, kR 15, kR 16, kR 17, kI 0]), .inr (0, 282, .inl [6, 3, 20]), kZi 0 2256, kZi 0 282, kZi 0 282, kZi 1 80, kZi 0 8, kZi 0 8, kZi 0 8, kZi 0 10, kZi 1 40, kZi 0 16, kZi 2 16, kZi 0 16, kZi 0 272, kZi 0 192, .inr (1, 34, .inl [111, 114, 100, 101, 114, 32, 114, 111, 108, 108, 32, 99, 117, 116, 32, 97, 108, 108, 32, 97, 114, 114, 97, 110, 103, 101, 32, 98, 101, 116, 116, 101, 114, 32]), kZi 0 5]
/-- the contracts in hand -/
def kT0 : Nat → Option (List kE) := fun k => if k = 8 then some kC_8 else if k = 9 then some kC_9 else if k = 63 then some kC_63 else if k = 66 then some kC_66 else if k = 73 then some kC_73 else if k = 0 then some kC_0 else if k = 136 then some kC_136 else none
def kT1 : Nat → Option (List kE) := fun k => if k = 12 then some kC_12 else if k = 80 then some kC_80 else kT0 k
def kT2 : Nat → Option (List kE) := fun k => if k = 95 then some kC_95 else kT1 k
set_option maxRecDepth 100000 in
theorem kG_8 : kGo (fun _ => none) 8 1 12 40 1 (kC_8.length - 1) (kSm kC_8 - bNF 1) = some kC_8 := kqT_eq (by decide +kernel)
set_option maxRecDepth 100000 in
theorem kG_9 : kGo (fun _ => none) 9 2 4 40 1 (kC_9.length - 1) (kSm kC_9 - bNF 2) = some kC_9 := kqT_eq (by decide +kernel)
set_option maxRecDepth 100000 in
theorem kG_63 : kGo (fun _ => none) 63 4 4 40 1 (kC_63.length - 1) (kSm kC_63 - bNF 4) = some kC_63 := kqT_eq (by decide +kernel)
set_option maxRecDepth 100000 in
theorem kG_66 : kGo (fun _ => none) 66 5 20 40 1 (kC_66.length - 1) (kSm kC_66 - bNF 5) = some kC_66 := kqT_eq (by decide +kernel)
set_option maxRecDepth 100000 in
theorem kG_73 : kGo (fun _ => none) 73 6 53 80 1 (kC_73.length - 1) (kSm kC_73 - bNF 6) = some kC_73 := kqT_eq (by decide +kernel)
set_option maxRecDepth 100000 in
theorem kG_0 : kGo (fun _ => none) 0 0 50 80 1 (kC_0.length - 1) (kSm kC_0 - bNF 0) = some kC_0 := kqT_eq (by decide +kernel)
set_option maxRecDepth 100000 in
theorem kG_136 : kGo (fun _ => none) 136 9 378 400 1 (kC_136.length - 1) (kSm kC_136 - bNF 9) = some kC_136 := kqT_eq (by decide +kernel)
set_option maxRecDepth 100000 in
theorem kG_12 : kGo kT0 12 3 140 1000 2 (kC_12.length - 1) (kSm kC_12 - bNF 3) = some kC_12 := kqT_eq (by decide +kernel)
set_option maxRecDepth 100000 in
theorem kG_80 : kGo kT0 80 7 71 1000 2 (kC_80.length - 1) (kSm kC_80 - bNF 7) = some kC_80 := kqT_eq (by decide +kernel)
set_option maxRecDepth 100000 in
theorem kG_95 : kGo kT1 95 8 157 1000 2 (kC_95.length - 1) (kSm kC_95 - bNF 8) = some kC_95 := kqT_eq (by decide +kernel)
