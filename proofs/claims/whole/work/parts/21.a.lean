/-! THE CONSTRUCTORS: a second machine, that makes cells; it is run, not reasoned about -/
/-- a number, a cell (by its place) or null, the script -/
abbrev kV : Type := Int32 ⊕ (Option Nat ⊕ Unit)
/-- an object: its class, its fields; an array: its type, its length, its first values -/
abbrev kE : Type := (Nat × List kV) ⊕ (Nat × Nat × (List Int32 ⊕ List (Option Nat)))
abbrev kF : Type := Nat × List (Option kV) × List kV × List kE
abbrev kI (x : Int32) : kV := .inl x
abbrev kNu : kV := .inr (.inl none)
abbrev kR (n : Nat) : kV := .inr (.inl (some n))
abbrev kX : kV := .inr (.inr ())
def kvS (t : Nat) (v : kV) : kV := match v with
  | .inl x => .inl x
  | .inr (.inl r) => .inr (.inl (r.map fun n => n + t))
  | .inr (.inr u) => .inr (.inr u)
def keS (t : Nat) (e : kE) : kE := match e with
  | .inl o => .inl (o.1, o.2.map (kvS t))
  | .inr (ty, n, .inl l) => .inr (ty, n, .inl l)
  | .inr (ty, n, .inr l) => .inr (ty, n, .inr (l.map fun r => r.map fun n => n + t))
/-- how many slots -/
def keN (e : kE) : Nat := match e with
  | .inl o => o.2.length
  | .inr a => a.2.1
def kAt (t : ArrayType) : Option Nat := match t with
  | .int => some 0
  | .char => some 1
  | .boolean => some 2
  | _ => none
/-- which class a place of the table of constants names: objects, arrays of objects -/
def kNw (own idx : Nat) : Option Nat := match own, idx with
  | 3, 23 => some 2
  | 3, 29 => some 4
  | 3, 35 => some 5
  | 7, 26 => some 1
  | 8, 9 => some 3
  | 8, 29 => some 6
  | 8, 36 => some 0
  | 8, 43 => some 7
  | 16, 7 => some 8
  | 16, 10 => some 9
  | _, _ => none
def kAw (own idx : Nat) : Option Nat := match own, idx with
  | 0, 26 => some 5
  | 3, 23 => some 3
  | 3, 29 => some 4
  | 3, 35 => some 5
  | 7, 26 => some 7
  | 8, 9 => some 6
  | _, _ => none
/-- where Object's constructor is called -/
def kOi (own idx : Nat) : Bool := match own, idx with
  | 0, 3 => true
  | 1, 1 => true
  | 2, 1 => true
  | 3, 3 => true
  | 4, 1 => true
  | 5, 3 => true
  | 6, 3 => true
  | 7, 3 => true
  | 8, 3 => true
  | 9, 1 => true
  | _, _ => false
/-- which constructor is called -/
def kCl (own idx : Nat) : Option Nat := match own, idx with
  | 3, 51 => some 9
  | 3, 52 => some 63
  | 3, 53 => some 66
  | 7, 35 => some 8
  | 8, 11 => some 12
  | 8, 31 => some 73
  | 8, 38 => some 0
  | 8, 45 => some 80
  | 16, 9 => some 95
  | 16, 12 => some 136
  | _, _ => none
def kDf (ci : Nat) : List kV := (List.range (bNF ci)).map fun f => if (bTX ci f).2.2.1 = "I" ∨ (bTX ci f).2.2.1 = "Z" then kI 0 else kNu
def kUp {α : Type} (l : List α) (d : α) (n : Nat) (x : α) : List α := if n < l.length then l.set n x else l ++ List.replicate (n - l.length) d ++ [x]
/-- may the value stand in the field -/
def kFt (ci f : Nat) (v : kV) : Bool := match v with
  | .inl x => (bTX ci f).2.2.1 == "I" || ((bTX ci f).2.2.1 == "Z" && (x == 0 || x == 1))
  | .inr (.inl (some _)) => (btyX ci f).isReference
  | _ => false
/-- the class of the cells' first -/
def kHd (us : List kE) : Nat := match us with
  | .inl o :: _ => o.1
  | _ => 99
def kst (T : Nat → Option (List kE)) (k : Nat) (f : kF) : Option kF := if k = 12 ∧ f.1 = 5 then some (14, f.2.1, kR f.2.2.2.length :: f.2.2.1, f.2.2.2 ++ [.inr (0, 3, .inl [6, 3, 20])]) else match ins k f.1 with
  | none => none
  | some (x, _) => match x, f with
    | .aload_n c, (pc, ls, st, es) => match ls[(c : Nat)]? with
      | some (some (.inr (.inl (some v)))) => some (pc + 1, ls, kR v :: st, es)
      | _ => none
    | .iload_n c, (pc, ls, st, es) => match ls[(c : Nat)]? with
      | some (some (.inl v)) => some (pc + 1, ls, .inl v :: st, es)
      | _ => none
    | .iconst c, (pc, ls, st, es) => some (pc + 1, ls, kI (Int32.ofInt c) :: st, es)
    | .bipush c, (pc, ls, st, es) => some (pc + 2, ls, kI (Int8.ofInt c).toInt32 :: st, es)
    | .sipush c, (pc, ls, st, es) => some (pc + 3, ls, kI (Int16.ofInt c).toInt32 :: st, es)
    | .istore_n c, (pc, ls, .inl v :: st, es) => if (c : Nat) < ls.length then some (pc + 1, ls.set (c : Nat) (some (.inl v)), st, es) else none
    | .astore_n c, (pc, ls, .inr (.inl (some v)) :: st, es) => if (c : Nat) < ls.length then some (pc + 1, ls.set (c : Nat) (some (kR v)), st, es) else none
    | .iinc n c, (pc, ls, st, es) => match ls[n]? with
      | some (some (.inl v)) => some (pc + 3, ls.set n (some (.inl (v + Int32.ofInt c))), st, es)
      | _ => none
    | .goto off, (pc, ls, st, es) => if 0 ≤ (pc : Int) + off then some (bTg pc off, ls, st, es) else none
    | .if_icmp .ge off, (pc, ls, .inl y :: .inl x :: st, es) => if 0 ≤ (pc : Int) + off then some (if y ≤ x then bTg pc off else pc + 3, ls, st, es) else none
    | .dup, (pc, ls, v :: st, es) => some (pc + 1, ls, v :: v :: st, es)
    | .newarray ty, (pc, ls, .inl n :: st, es) => match kAt ty with
      | some t => if 0 ≤ n ∧ n ≤ 4096 then some (pc + 2, ls, kR es.length :: st, es ++ [.inr (t, n.toNatClampNeg, .inl [])]) else none
      | none => none
    | .anewarray idx, (pc, ls, .inl n :: st, es) => match kAw (bCe k).1 idx with
      | some t => if 0 ≤ n ∧ n ≤ 4096 then some (pc + 3, ls, kR es.length :: st, es ++ [.inr (t, n.toNatClampNeg, .inr [])]) else none
      | none => none
    | .multianewarray idx dd, (pc, ls, .inl b :: .inl a :: st, es) => if (bCe k).1 = 0 ∧ idx = 9 ∧ dd = 2 ∧ 0 ≤ a ∧ a ≤ 16 ∧ 0 ≤ b ∧ b ≤ 16 then some (pc + 4, ls, kR es.length :: st, es ++ [.inr (8, a.toNatClampNeg, .inr ((List.range a.toNatClampNeg).map fun j => some (es.length + 1 + j)))] ++ List.replicate a.toNatClampNeg (.inr (0, b.toNatClampNeg, .inl []))) else none
    | .getfield idx, (pc, ls, .inr (.inl (some r)) :: st, es) => match bF (bCe k).1 idx, es[r]? with
      | some (ci, f, _), some (.inl (cj, fs)) => if ci = cj then (match fs[f]? with
        | some v => some (pc + 3, ls, v :: st, es)
        | none => none) else none
      | _, _ => none
    | .putfield idx, (pc, ls, v :: .inr (.inl (some r)) :: st, es) => match bF (bCe k).1 idx, es[r]? with
      | some (ci, f, false), some (.inl (cj, fs)) => if ci = cj ∧ ci = (bCe k).1 ∧ kFt ci f v = true ∧ f < fs.length then some (pc + 3, ls, st, es.set r (.inl (cj, fs.set f v))) else none
      | _, _ => none
    | .aastore, (pc, ls, .inr (.inl (some v)) :: .inl n :: .inr (.inl (some r)) :: st, es) => match es[r]?, es[v]? with
      | some (.inr (t, N, .inr l)), some (.inl (cj, _)) => if 0 ≤ n ∧ n.toNatClampNeg < N ∧ ((t = 3 ∧ cj = 2) ∨ (t = 4 ∧ cj = 4) ∨ (t = 5 ∧ cj = 5) ∨ (t = 6 ∧ cj = 3) ∨ (t = 7 ∧ cj = 1)) then some (pc + 1, ls, st, es.set r (.inr (t, N, .inr (kUp l none n.toNatClampNeg (some v))))) else none
      | _, _ => none
    | .iastore, (pc, ls, .inl x :: .inl n :: .inr (.inl (some r)) :: st, es) => match es[r]? with
      | some (.inr (0, N, .inl l)) => if 0 ≤ n ∧ n.toNatClampNeg < N then some (pc + 1, ls, st, es.set r (.inr (0, N, .inl (kUp l 0 n.toNatClampNeg x)))) else none
      | _ => none
    | .castore, (pc, ls, .inl x :: .inl n :: .inr (.inl (some r)) :: st, es) => match es[r]? with
      | some (.inr (1, N, .inl l)) => if 0 ≤ n ∧ n.toNatClampNeg < N ∧ (x.toUInt32 % 65536).toInt32 = x then some (pc + 1, ls, st, es.set r (.inr (1, N, .inl (kUp l 0 n.toNatClampNeg x)))) else none
      | _ => none
    | .new idx, (pc, ls, st, es) => match kNw (bCe k).1 idx with
      | some ci => some (pc + 3, ls, kR es.length :: st, es ++ [.inl (ci, kDf ci)])
      | none => none
    | .invokespecial idx, (pc, ls, .inr (.inl (some r)) :: st, es) => if kOi (bCe k).1 idx = true then some (pc + 3, ls, st, es) else match kCl (bCe k).1 idx with
      | some k' => match T k' with
        | some us => match es[r]? with
          | some (.inl (cj, fs)) => if r + 1 = es.length ∧ kHd us = cj ∧ fs = kDf cj then some (pc + 3, ls, st, es.take r ++ us.map (keS r)) else none
          | _ => none
        | none => none
      | none => none
    | _, _ => none
def kSm (es : List kE) : Nat := (es.map keN).sum
/-- within the room -/
def kBd (e0 s0 mb ms : Nat) (es : List kE) : Bool := decide (e0 ≤ es.length) && decide (es.length ≤ e0 + mb) && decide (s0 ≤ kSm es) && decide (kSm es ≤ s0 + ms)
def krn (T : Nat → Option (List kE)) (k stop e0 s0 mb ms : Nat) : Nat → kF → Option kF
  | 0, _ => none
  | n + 1, f => if kBd e0 s0 mb ms f.2.2.2 = true ∧ f.2.2.1.length ≤ 8 then (if f.1 = stop then some f else match kst T k f with
    | none => none
    | some f' => krn T k stop e0 s0 mb ms n f') else none
/-- a constructor's cells; where its return stands -/
def kGo (T : Nat → Option (List kE)) (k ci stop fuel nl mb ms : Nat) : Option (List kE) := (krn T k stop 1 (bNF ci) mb ms fuel (0, some (kR 0) :: List.replicate (nl - 1) none, [], [.inl (ci, kDf ci)])).bind fun f => match f.2.2.1 with
  | [] => some f.2.2.2
  | _ => none
