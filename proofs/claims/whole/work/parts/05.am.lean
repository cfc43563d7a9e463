/-! THE ABSTRACT MACHINE: the same bytecode over a typed memory. An address is (kind, i, j); the memory gives each slot of each address an Int32. -/
abbrev bAd : Type := Nat × Nat × Nat
abbrev bV : Type := Int32 ⊕ (bAd ⊕ Int64)
abbrev bSt : Type := Nat → Nat → Nat → Nat → Int32
abbrev bFr : Type := Nat × List (Option bV) × List bV × bSt
abbrev vI (x : Int32) : bV := .inl x
abbrev vR (k i j : Nat) : bV := .inr (.inl (k, i, j))
abbrev vL (x : Int64) : bV := .inr (.inr x)
/-- one slot written -/
def sUp (S : bSt) (k i j n : Nat) (x : Int32) : bSt := fun k' i' j' n' => if k' = k ∧ i' = i ∧ j' = j ∧ n' = n then x else S k' i' j' n'
/-- a stretch copied from one address to another -/
def sCp (S : bSt) (a b : bAd) (sp dp n : Nat) : bSt := fun k' i' j' n' => if k' = b.1 ∧ i' = b.2.1 ∧ j' = b.2.2 ∧ dp ≤ n' ∧ n' < dp + n then S a.1 a.2.1 a.2.2 (sp + (n' - dp)) else S k' i' j' n'
/-- kinds that are objects: their class -/
def kObj : Nat → Option Nat := fun k => match k with
  | 0 => some 8
  | 1 => some 3
  | 4 => some 2
  | 6 => some 4
  | 8 => some 5
  | 12 => some 6
  | 19 => some 0
  | 26 => some 7
  | 30 => some 1
  | 40 => some 9
  | _ => none
/-- kinds that are arrays: what they hold (0 int, 1 char, 2 boolean, 3 Order, 4 Roll, 5 Run, 6 Plan, 7 Command, 8 int[]), how many -/
def kArr : Nat → Option (Nat × Nat) := fun k => match k with
  | 2 => some (0, 3)
  | 3 => some (3, 8)
  | 5 => some (4, 12)
  | 7 => some (5, 16)
  | 9 => some (0, 8)
  | 10 => some (0, 7)
  | 11 => some (6, 8)
  | 13 => some (0, 8)
  | 14 => some (0, 8)
  | 15 => some (0, 8)
  | 16 => some (0, 8)
  | 17 => some (0, 9)
  | 18 => some (0, 301)
  | 20 => some (8, 8)
  | 21 => some (0, 7)
  | 22 => some (0, 7)
  | 23 => some (0, 7)
  | 24 => some (0, 896)
  | 25 => some (5, 7)
  | 27 => some (1, 80)
  | 28 => some (0, 10)
  | 29 => some (7, 20)
  | 31 => some (0, 6)
  | 32 => some (1, 31)
  | 41 => some (0, 282)
  | 42 => some (0, 2256)
  | 43 => some (0, 282)
  | 44 => some (0, 282)
  | 45 => some (1, 80)
  | 46 => some (0, 8)
  | 47 => some (0, 8)
  | 48 => some (0, 8)
  | 49 => some (0, 10)
  | 50 => some (1, 40)
  | 51 => some (0, 16)
  | 52 => some (2, 16)
  | 53 => some (0, 16)
  | 54 => some (0, 272)
  | 55 => some (0, 192)
  | 56 => some (1, 34)
  | 57 => some (0, 5)
  | _ => none
/-- how many addresses of a kind there are: i and j below -/
def kDim : Nat → Nat × Nat := fun k => match k with
  | 1 => (12, 1)
  | 2 => (12, 1)
  | 3 => (12, 1)
  | 4 => (12, 8)
  | 5 => (12, 1)
  | 6 => (12, 12)
  | 7 => (12, 1)
  | 8 => (12, 16)
  | 9 => (12, 16)
  | 10 => (12, 16)
  | 21 => (8, 1)
  | 30 => (20, 1)
  | 31 => (20, 1)
  | _ => if (kObj k).isSome || (kArr k).isSome then (1, 1) else (0, 0)
def bok (k i j : Nat) : Bool := decide (i < (kDim k).1) && decide (j < (kDim k).2)
/-- fields that hold a reference: which address -/
def fRef (k i j f : Nat) : Option bAd := match k with
  | 0 => match f with
    | 0 => some (1, 0, 0)
    | 1 => some (1, 1, 0)
    | 2 => some (1, 2, 0)
    | 3 => some (1, 3, 0)
    | 4 => some (11, 0, 0)
    | 5 => some (12, 0, 0)
    | 6 => some (19, 0, 0)
    | 7 => some (26, 0, 0)
    | 8 => some (32, 0, 0)
    | _ => none
  | 1 => match f with
    | 0 => some (2, i, 0)
    | 1 => some (3, i, 0)
    | 2 => some (5, i, 0)
    | 3 => some (7, i, 0)
    | _ => none
  | 8 => match f with
    | 6 => some (9, i, j)
    | 7 => some (10, i, j)
    | _ => none
  | 12 => match f with
    | 4 => some (13, 0, 0)
    | 5 => some (14, 0, 0)
    | 6 => some (15, 0, 0)
    | 7 => some (16, 0, 0)
    | 8 => some (17, 0, 0)
    | 9 => some (18, 0, 0)
    | _ => none
  | 19 => match f with
    | 1 => some (20, 0, 0)
    | 2 => some (22, 0, 0)
    | 3 => some (23, 0, 0)
    | 4 => some (24, 0, 0)
    | 5 => some (25, 0, 0)
    | _ => none
  | 26 => match f with
    | 0 => some (27, 0, 0)
    | 3 => some (28, 0, 0)
    | 4 => some (29, 0, 0)
    | _ => none
  | 30 => match f with
    | 1 => some (31, i, 0)
    | _ => none
  | 40 => match f with
    | 0 => some (41, 0, 0)
    | 1 => some (42, 0, 0)
    | 3 => some (43, 0, 0)
    | 5 => some (44, 0, 0)
    | 6 => some (45, 0, 0)
    | 10 => some (46, 0, 0)
    | 11 => some (47, 0, 0)
    | 15 => some (48, 0, 0)
    | 19 => some (49, 0, 0)
    | 20 => some (50, 0, 0)
    | 22 => some (51, 0, 0)
    | 23 => some (52, 0, 0)
    | 24 => some (53, 0, 0)
    | 26 => some (54, 0, 0)
    | 27 => some (55, 0, 0)
    | 28 => some (56, 0, 0)
    | 29 => some (57, 0, 0)
    | _ => none
  | _ => none
/-- what an element of an array of references is, by the Int32 that the memory keeps there -/
def eRef (k i n : Nat) (v : Int32) : Option bAd := match k with
  | 3 => some (4, i, n)
  | 5 => some (6, i, n)
  | 7 => some (8, i, v.toNatClampNeg)
  | 11 => some (1, n + 4, 0)
  | 20 => some (21, n, 0)
  | 25 => if v < 0 then none else some (8, 0, v.toNatClampNeg)
  | 29 => some (30, n, 0)
  | _ => none
/-- which Int32 is kept for a reference that is stored -/
def eCode (k i : Nat) (a : bAd) : Option Int32 := match k with
  | 7 => if a.1 = 8 ∧ a.2.1 = i ∧ a.2.2 < 16 then some (Int32.ofNat a.2.2) else none
  | 25 => if a.1 = 8 ∧ a.2.1 = 0 ∧ a.2.2 < 16 then some (Int32.ofNat a.2.2) else none
  | _ => none
def bArr (k t : Nat) : Bool := match kArr k with
  | some q => q.1 == t
  | none => false
def bLen (k : Nat) : Nat := match kArr k with
  | some q => q.2
  | none => 0
/-- arrays that are only read: three statics, the script -/
def bRO (k : Nat) : Bool := k == 33 || k == 34 || k == 35 || k == 36
def bROl (S : bSt) (k : Nat) : Nat := if k = 36 then (S 36 1 0 0).toNatClampNeg else 3
/-- the string constants: order roll cut all arrange better -/
def bTx : List (List Int32) := [[111, 114, 100, 101, 114], [114, 111, 108, 108], [99, 117, 116], [97, 108, 108], [97, 114, 114, 97, 110, 103, 101], [98, 101, 116, 116, 101, 114]]
def bTl : List Nat := [5, 4, 3, 3, 7, 6]
def bStr : Nat → String := fun n => match n with
  | 0 => "order"
  | 1 => "roll"
  | 2 => "cut"
  | 3 => "all"
  | 4 => "arrange"
  | _ => "better"
def bLdc (own idx : Nat) : Option Nat := if own = 7 then (match idx with
  | 95 => some 0
  | 97 => some 1
  | 99 => some 2
  | 101 => some 3
  | 103 => some 4
  | 108 => some 5
  | _ => none) else none
/-- static arrays of PaperCutter, as Plan's pool names them; System.arraycopy as the pools name it -/
def bSf (own idx : Nat) : Option Nat := if own = 3 then (match idx with
  | 9 => some 33
  | 70 => some 34
  | 73 => some 35
  | _ => none) else none
def bAcp (own idx : Nat) : Bool := (own == 3 && idx == 54) || (own == 5 && idx == 37) || (own == 6 && idx == 89) || (own == 0 && idx == 55)
def bH (c : Jvm.ClassFile.Cond) (x y : Int32) : Bool := match c with
  | .eq => decide (x = y)
  | .ne => !decide (x = y)
  | .lt => decide (x < y)
  | .ge => decide (y ≤ x)
  | .gt => decide (y < x)
  | .le => decide (x ≤ y)
def bTg (pc : Nat) (off : Int) : Nat := ((pc : Int) + off).toNat
/-- the type of a field that a method may write: 1 int, 2 boolean -/
def bFw (ci f : Nat) : Nat := if (bTX ci f).2.2.2 = true then 0 else if (bTX ci f).2.2.1 = "I" then 1 else if (bTX ci f).2.2.1 = "Z" then 2 else 0
def bXld (t pc : Nat) (ls : List (Option bV)) (st : List bV) (S : bSt) : Option (Prop × bFr) := match st with
  | .inl n :: .inr (.inl (k, i, j)) :: st' =>
    if bArr k t = true then some (bok k i j = true ∧ vp_in n (bLen k), pc + 1, ls, vI (S k i j n.toNatClampNeg) :: st', S)
    else if t = 0 ∧ bRO k = true ∧ i = 0 ∧ j = 0 then some (vp_in n (bROl S k), pc + 1, ls, vI (S k 0 0 n.toNatClampNeg) :: st', S)
    else if t = 9 ∧ k = 38 ∧ j = 0 then some (i < 6 ∧ vp_in n (bTl.getD i 0), pc + 1, ls, vI ((bTx.getD i []).getD n.toNatClampNeg 0) :: st', S)
    else none
  | _ => none
def bXst (t pc : Nat) (ls : List (Option bV)) (st : List bV) (S : bSt) : Option (Prop × bFr) := match st with
  | .inl x :: .inl n :: .inr (.inl (k, i, j)) :: st' =>
    if bArr k t = true then some (bok k i j = true ∧ vp_in n (bLen k) ∧ (t = 1 → narrow .char (.int x) = .int x) ∧ (t = 2 → x = 0 ∨ x = 1), pc + 1, ls, st', sUp S k i j n.toNatClampNeg x)
    else none
  | _ => none
def bLd (r : Bool) (n pc : Nat) (ls : List (Option bV)) (st : List bV) (S : bSt) : Option (Prop × bFr) := match ls[n]? with
  | some (some (.inl x)) => if r = true then none else some (True, pc, ls, vI x :: st, S)
  | some (some (.inr (.inl a))) => if r = true ∧ a.1 ≠ 39 then some (True, pc, ls, .inr (.inl a) :: st, S) else none
  | _ => none
def bSv (r : Bool) (n pc : Nat) (ls : List (Option bV)) (st : List bV) (S : bSt) : Option (Prop × bFr) := match st with
  | .inl x :: st' => if r = false ∧ n < ls.length then some (True, pc, ls.set n (some (vI x)), st', S) else none
  | .inr (.inl a) :: st' => if r = true ∧ a.1 ≠ 39 ∧ n < ls.length then some (True, pc, ls.set n (some (.inr (.inl a))), st', S) else none
  | _ => none
def bBin (op : Int32 → Int32 → Int32) (P : Int32 → Prop) (pc : Nat) (ls : List (Option bV)) (st : List bV) (S : bSt) : Option (Prop × bFr) := match st with
  | .inl y :: .inl x :: st' => some (P y, pc + 1, ls, vI (op x y) :: st', S)
  | _ => none
def bCat (v : bV) : Nat := match v with
  | .inr (.inr _) => 2
  | _ => 1
/-- an instruction that is no call and no return: what must hold, and the next frame -/
def stp (own : Nat) (x : Instr) (f : bFr) : Option (Prop × bFr) := match f with
  | (pc, ls, st, S) => match x with
  | .iconst c => some (True, pc + 1, ls, vI (Int32.ofInt c) :: st, S)
  | .bipush c => some (True, pc + 2, ls, vI (Int8.ofInt c).toInt32 :: st, S)
  | .sipush c => some (True, pc + 3, ls, vI (Int16.ofInt c).toInt32 :: st, S)
  | .iload_n n => bLd false n (pc + 1) ls st S
  | .iload n => bLd false n (pc + 2) ls st S
  | .aload_n n => bLd true n (pc + 1) ls st S
  | .aload n => bLd true n (pc + 2) ls st S
  | .istore_n n => bSv false n (pc + 1) ls st S
  | .istore n => bSv false n (pc + 2) ls st S
  | .astore_n n => bSv true n (pc + 1) ls st S
  | .astore n => bSv true n (pc + 2) ls st S
  | .iinc n c => match ls[n]? with
    | some (some (.inl v)) => some (True, pc + 3, ls.set n (some (vI (v + Int32.ofInt c))), st, S)
    | _ => none
  | .iadd => bBin (fun x y => x + y) (fun _ => True) pc ls st S
  | .isub => bBin (fun x y => x - y) (fun _ => True) pc ls st S
  | .imul => bBin (fun x y => x * y) (fun _ => True) pc ls st S
  | .iand => bBin (fun x y => x &&& y) (fun _ => True) pc ls st S
  | .ior => bBin (fun x y => x ||| y) (fun _ => True) pc ls st S
  | .ixor => bBin (fun x y => x ^^^ y) (fun _ => True) pc ls st S
  | .ishl => bBin (fun x y => x <<< (y &&& 31)) (fun _ => True) pc ls st S
  | .ishr => bBin (fun x y => x >>> (y &&& 31)) (fun _ => True) pc ls st S
  | .idiv => bBin (fun x y => x / y) (fun y => ¬ y = 0) pc ls st S
  | .irem => bBin (fun x y => x - x / y * y) (fun y => ¬ y = 0) pc ls st S
  | .i2c => match st with
    | .inl v :: st' => some (True, pc + 1, ls, vI (v.toUInt32 % 65536).toInt32 :: st', S)
    | _ => none
  | .i2l => match st with
    | .inl v :: st' => some (True, pc + 1, ls, vL v.toInt64 :: st', S)
    | _ => none
  | .lmul => match st with
    | .inr (.inr w) :: .inr (.inr v) :: st' => some (True, pc + 1, ls, vL (v * w) :: st', S)
    | _ => none
  | .lcmp => match st with
    | .inr (.inr w) :: .inr (.inr v) :: st' => some (True, pc + 1, ls, vI (lg_cmp v w) :: st', S)
    | _ => none
  | .ifCond c off => match st with
    | .inl v :: st' => some (0 ≤ (pc : Int) + off, if bH c v 0 = true then bTg pc off else pc + 3, ls, st', S)
    | _ => none
  | .if_icmp c off => match st with
    | .inl w :: .inl v :: st' => some (0 ≤ (pc : Int) + off, if bH c v w = true then bTg pc off else pc + 3, ls, st', S)
    | _ => none
  | .goto off => some (0 ≤ (pc : Int) + off, bTg pc off, ls, st, S)
  | .tableswitch d lo hi offs => match st with
    | .inl v :: st' => some ((v.toInt < lo ∨ hi < v.toInt → 0 ≤ (pc : Int) + d) ∧ (¬ v.toInt < lo → ¬ hi < v.toInt → (v.toInt - lo).toNat < offs.size ∧ 0 ≤ (pc : Int) + offs.getD (v.toInt - lo).toNat 0), if v.toInt < lo ∨ hi < v.toInt then bTg pc d else bTg pc (offs.getD (v.toInt - lo).toNat 0), ls, st', S)
    | _ => none
  | .dup => match st with
    | v :: st' => if bCat v = 1 then some (True, pc + 1, ls, v :: v :: st', S) else none
    | _ => none
  | .dup2 => match st with
    | v :: w :: st' => if bCat v = 1 ∧ bCat w = 1 then some (True, pc + 1, ls, v :: w :: v :: w :: st', S) else none
    | _ => none
  | .pop => match st with
    | v :: st' => if bCat v = 1 then some (True, pc + 1, ls, st', S) else none
    | _ => none
  | .getfield idx => match st with
    | .inr (.inl (k, i, j)) :: st' =>
      if own = 10 then (if k = 37 ∧ idx = 9 ∧ j = 0 then some (i < 6, pc + 3, ls, vR 38 i 0 :: st', S) else if k = 37 ∧ idx = 15 ∧ j = 0 then some (i < 6, pc + 3, ls, vI 0 :: st', S) else none)
      else match bF own idx with
        | some (ci, f, _) => if kObj k = some ci then some (bok k i j = true, pc + 3, ls, (match fRef k i j f with
          | some a => .inr (.inl a)
          | none => vI (S k i j f)) :: st', S) else none
        | none => none
    | _ => none
  | .putfield idx => match st with
    | .inl v :: .inr (.inl (k, i, j)) :: st' => match bF own idx with
      | some (ci, f, _) => if kObj k = some ci ∧ fRef k i j f = none ∧ bFw ci f ≠ 0 then some (bok k i j = true ∧ (bFw ci f = 2 → v = 0 ∨ v = 1), pc + 3, ls, st', sUp S k i j f v) else none
      | none => none
    | _ => none
  | .iaload => bXld 0 pc ls st S
  | .caload => bXld 1 pc ls st S
  | .baload => match bXld 2 pc ls st S with
    | some r => some r
    | none => bXld 9 pc ls st S
  | .iastore => bXst 0 pc ls st S
  | .castore => bXst 1 pc ls st S
  | .bastore => bXst 2 pc ls st S
  | .aaload => match st with
    | .inl n :: .inr (.inl (k, i, j)) :: st' => if 3 ≤ ((kArr k).getD (0, 0)).1 then (match eRef k i n.toNatClampNeg (S k i j n.toNatClampNeg) with
      | some a => some (bok k i j = true ∧ vp_in n (bLen k), pc + 1, ls, .inr (.inl a) :: st', S)
      | none => none) else none
    | _ => none
  | .aastore => match st with
    | .inr (.inl a) :: .inl n :: .inr (.inl (k, i, j)) :: st' => if bArr k 5 = true then (match eCode k i a with
      | some v => some (bok k i j = true ∧ bok a.1 a.2.1 a.2.2 = true ∧ vp_in n (bLen k), pc + 1, ls, st', sUp S k i j n.toNatClampNeg v)
      | none => none) else none
    | _ => none
  | .arraylength => match st with
    | .inr (.inl (k, i, j)) :: st' => if (kArr k).isSome = true then some (bok k i j = true, pc + 1, ls, vI (Int32.ofNat (bLen k)) :: st', S)
      else if bRO k = true ∧ i = 0 ∧ j = 0 then some (True, pc + 1, ls, vI (Int32.ofNat (bROl S k)) :: st', S)
      else if k = 38 ∧ j = 0 then some (i < 6, pc + 1, ls, vI (Int32.ofNat (bTl.getD i 0)) :: st', S) else none
    | _ => none
  | .getstatic idx => if own = 10 then (if idx = 38 then some (True, pc + 3, ls, vI 1 :: st, S) else if idx = 1053 then some (True, pc + 3, ls, vR 39 0 0 :: st, S) else none)
      else match bSf own idx with
        | some k => some (True, pc + 3, ls, vR k 0 0 :: st, S)
        | none => none
  | .ldc idx => match bLdc own idx with
    | some n => some (True, pc + 2, ls, vR 37 n 0 :: st, S)
    | none => none
  | .invokestatic idx => if bAcp own idx = true then (match st with
      | .inl n :: .inl dp :: .inr (.inl (k2, i2, j2)) :: .inl sp :: .inr (.inl (k, i, j)) :: st' =>
        if bArr k 0 = true ∧ bArr k2 0 = true ∧ (st'.map bCat).sum ≤ 8 then some (bok k i j = true ∧ bok k2 i2 j2 = true ∧ ¬ (k, i, j) = (k2, i2, j2) ∧ ¬ sp < 0 ∧ ¬ dp < 0 ∧ ¬ n < 0 ∧ sp.toNatClampNeg + n.toNatClampNeg ≤ bLen k ∧ dp.toNatClampNeg + n.toNatClampNeg ≤ bLen k2, pc + 3, ls, st', sCp S (k, i, j) (k2, i2, j2) sp.toNatClampNeg dp.toNatClampNeg n.toNatClampNeg) else none
      | _ => none) else none
  | _ => none
/-- a return: what must hold, and what is returned -/
def bret (rt : Option FieldType) (x : Instr) (f : bFr) : Option (Prop × Option bV) := match x with
  | .ireturn => match f.2.2.1 with
    | [.inl v] => match rt with
      | some ty => some (narrow ty (.int v) = .int v, some (vI v))
      | none => none
    | _ => none
  | .areturn => match f.2.2.1 with
    | [.inr (.inl a)] => if a.1 = 39 then none else (match rt with
      | some (.object _) => some (True, some (.inr (.inl a)))
      | some (.array _) => some (True, some (.inr (.inl a)))
      | _ => none)
    | _ => none
  | .return_ => match f.2.2.1 with
    | [] => match rt with
      | none => some (True, none)
      | some _ => none
    | _ => none
  | _ => none
/-- a call: what must hold, the method, the arguments (the receiver first), the rest of the stack -/
def bcall (own : Nat) (x : Instr) (f : bFr) : Option (Prop × Nat × List bV × List bV) := match x with
  | .invokestatic idx => match bC own idx with
    | none => none
    | some (k, _) => if (bCe k).2.2.2.2.2.2 = true ∧ (bCe k).2.2.2.2.2.1 ≤ f.2.2.1.length ∧ ((f.2.2.1.take (bCe k).2.2.2.2.2.1).map bCat).sum = (bCe k).2.2.2.2.2.1 ∧ (bCe k).2.2.2.2.2.1 ≤ (bCe k).2.2.2.1 ∧ ((f.2.2.1.drop (bCe k).2.2.2.2.2.1).map bCat).sum ≤ 8 then
        some (True, k, (f.2.2.1.take (bCe k).2.2.2.2.2.1).reverse, f.2.2.1.drop (bCe k).2.2.2.2.2.1) else none
  | .invokevirtual idx => match bC own idx with
    | none => none
    | some (k, _) => if (bCe k).2.2.2.2.2.2 = false ∧ (bCe k).2.1.name ≠ "<init>" ∧ (bCe k).2.2.2.2.2.1 ≤ f.2.2.1.length ∧ ((f.2.2.1.take (bCe k).2.2.2.2.2.1).map bCat).sum = (bCe k).2.2.2.2.2.1 ∧ (bCe k).2.2.2.2.2.1 ≤ (bCe k).2.2.2.1 ∧ ((f.2.2.1.drop (bCe k).2.2.2.2.2.1).map bCat).sum ≤ 8 then
        (match (f.2.2.1.take (bCe k).2.2.2.2.2.1).reverse with
          | .inr (.inl (kk, i, j)) :: As => if (kObj kk = some (bCe k).1 ∧ bok kk i j = true) ∨ (kk = 37 ∧ (bCe k).1 = 10 ∧ i < 6 ∧ j = 0) then some (True, k, .inr (.inl (kk, i, j)) :: As, f.2.2.1.drop (bCe k).2.2.2.2.2.1) else none
          | _ => none) else none
  | _ => none
/-- a method's first frame -/
def bent (k : Nat) (as : List bV) (S : bSt) : bFr := (0, as.map some ++ List.replicate ((bCe k).2.2.2.1 - as.length) none, [], S)
/-- with n steps of fuel, at most d calls deep: the method k comes from the frame to its end, and Q holds of what it returns and of the memory -/
def bwp : Nat → Nat → Nat → bFr → (Option bV → bSt → Prop) → Prop
  | 0, _, _, _, _ => False
  | n + 1, d, k, f, Q => match ins k f.1 with
    | none => False
    | some (x, _) => match stp (bCe k).1 x f with
      | some (P, f') => P ∧ bwp n d k f' Q
      | none => match bret (bCe k).2.2.2.2.1 x f with
        | some (P, r) => P ∧ Q r f.2.2.2
        | none => match bcall (bCe k).1 x f with
          | some (P, k', as, st') => P ∧ 0 < d ∧ bwp n (d - 1) k' (bent k' as f.2.2.2) (fun r S' => bwp n d k (f.1 + 3, f.2.1, r.toList ++ st', S') Q)
          | none => False
