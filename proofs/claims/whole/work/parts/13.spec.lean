/-! THE MILL AS NUMBERS: a row of 282 Int32 (three settings, three counts, orders of six, rolls of three, runs of twelve), and what is read off it -/
abbrev NV : Type := Nat → Int32
def sumTo (f : Nat → Int32) : Nat → Int32
  | 0 => 0
  | n + 1 => sumTo f n + f n
def subTo (x : Int32) (f : Nat → Int32) : Nat → Int32
  | 0 => x
  | n + 1 => subTo x f n - f n
def tf (b : Bool) : Int32 := if b = true then 1 else 0
theorem tf_01 (b : Bool) : tf b = 0 ∨ tf b = 1 := by cases b <;> simp [tf]
def cO (N : NV) : Nat := (N 3).toNatClampNeg
def cR (N : NV) : Nat := (N 4).toNatClampNeg
def cU (N : NV) : Nat := (N 5).toNatClampNeg
/-- the counts are in their bounds -/
def cW (N : NV) : Prop := N 3 = nI (cO N) ∧ cO N ≤ 8 ∧ N 4 = nI (cR N) ∧ cR N ≤ 12 ∧ N 5 = nI (cU N) ∧ cU N ≤ 16
def aMade (N : NV) (o : Nat) : Int32 := sumTo (fun u => N (94 + 12 * u + o) * N (91 + 12 * u)) (cU N)
def aAlw (N : NV) (o : Nat) : Int32 := N (8 + 6 * o) * N (9 + 6 * o) / 100
def aLeast (N : NV) (o : Nat) : Int32 := N (8 + 6 * o) - aAlw N o
def aMost (N : NV) (o : Nat) : Int32 := N (8 + 6 * o) + aAlw N o
def aRoom (N : NV) (o : Nat) : Int32 := aMost N o - aMade N o
def aMet (N : NV) (o : Nat) : Bool := decide (aLeast N o ≤ aMade N o)
def aWant (N : NV) (o : Nat) : Bool := decide (aMade N o < N (8 + 6 * o))
def aLeft (N : NV) (r : Nat) : Int32 := subTo (N (56 + 3 * r)) (fun u => if N (90 + 12 * u) = nI r then N (91 + 12 * u) else 0) (cU N)
def aCan (N : NV) (r o : Nat) : Bool := decide (N (54 + 3 * r) = N (6 + 6 * o)) || (decide (N (54 + 3 * r) < N (6 + 6 * o)) && decide (N (11 + 6 * o) = 1))
def aRunsFor (N : NV) (o : Nat) : Int32 := sumTo (fun u => if 0 < N (94 + 12 * u + o) then 1 else 0) (cU N)
def aRunsOf (N : NV) (r : Nat) : Int32 := sumTo (fun u => if N (90 + 12 * u) = nI r then 1 else 0) (cU N)
/-- the first run, from u on, with n more to look at, that keeps the roll r -/
def aRemFrom (N : NV) (x : Int32) : Nat → Nat → Int32
  | _, 0 => -5
  | u, n + 1 => if N (93 + 12 * u) = x then nI u else aRemFrom N x (u + 1) n
def aRem (N : NV) (r : Nat) : Int32 := aRemFrom N (nI r) 0 (cU N)
