/-! THE MILL AS NUMBERS: a row of 282 Int32 (three settings, three counts, orders of six, rolls of three, runs of twelve), and what is read off it -/
abbrev NV : Type := Nat → Int32
def sumTo (f : Nat → Int32) : Nat → Int32
  | 0 => 0
  | n + 1 => sumTo f n + f n
def subTo (x : Int32) (f : Nat → Int32) : Nat → Int32
  | 0 => x
  | n + 1 => subTo x f n - f n
def tf (b : Bool) : Int32 := if b = true then 1 else 0
theorem tf_01 (b : Bool) : tf b = 0 ∨ tf b = 1 := by cases b <;> simp [tf]
def cO (N : NV) : Nat := (N 3).toNatClampNeg
def cR (N : NV) : Nat := (N 4).toNatClampNeg
def cU (N : NV) : Nat := (N 5).toNatClampNeg
/-- the counts are in their bounds -/
def cW (N : NV) : Prop := N 3 = nI (cO N) ∧ cO N ≤ 8 ∧ N 4 = nI (cR N) ∧ cR N ≤ 12 ∧ N 5 = nI (cU N) ∧ cU N ≤ 16
def aMade (N : NV) (o : Nat) : Int32 := sumTo (fun u => N (94 + 12 * u + o) * N (91 + 12 * u)) (cU N)
def aAlw (N : NV) (o : Nat) : Int32 := N (8 + 6 * o) * N (9 + 6 * o) / 100
def aLeast (N : NV) (o : Nat) : Int32 := N (8 + 6 * o) - aAlw N o
def aMost (N : NV) (o : Nat) : Int32 := N (8 + 6 * o) + aAlw N o
def aRoom (N : NV) (o : Nat) : Int32 := aMost N o - aMade N o
def aMet (N : NV) (o : Nat) : Bool := decide (aLeast N o ≤ aMade N o)
def aWant (N : NV) (o : Nat) : Bool := decide (aMade N o < N (8 + 6 * o))
def aLeft (N : NV) (r : Nat) : Int32 := subTo (N (56 + 3 * r)) (fun u => if N (90 + 12 * u) = nI r then N (91 + 12 * u) else 0) (cU N)
def aCan (N : NV) (r o : Nat) : Bool := decide (N (54 + 3 * r) = N (6 + 6 * o)) || (decide (N (54 + 3 * r) < N (6 + 6 * o)) && decide (N (11 + 6 * o) = 1))
def aRunsFor (N : NV) (o : Nat) : Int32 := sumTo (fun u => if 0 < N (94 + 12 * u + o) then 1 else 0) (cU N)
def aRunsOf (N : NV) (r : Nat) : Int32 := sumTo (fun u => if N (90 + 12 * u) = nI r then 1 else 0) (cU N)
/-- the first run, from u on, with n more to look at, that keeps the roll r -/
def aRemFrom (N : NV) (x : Int32) : Nat → Nat → Int32
  | _, 0 => -5
  | u, n + 1 => if N (93 + 12 * u) = x then nI u else aRemFrom N x (u + 1) n
def aRem (N : NV) (r : Nat) : Int32 := aRemFrom N (nI r) 0 (cU N)
def inR (x a b : Int32) : Bool := decide (a ≤ x) && decide (x ≤ b)
def nRoll (N : NV) (g w l : Int32) : NV := upd (upd (upd (upd N (54 + 3 * cR N) g) (55 + 3 * cR N) w) (56 + 3 * cR N) l) 4 (N 4 + 1)
def nOrder (N : NV) (x1 x2 x3 x4 x5 x6 : Int32) : NV := upd (upd (upd (upd (upd (upd (upd N (6 + 6 * cO N) x1) (7 + 6 * cO N) x2) (8 + 6 * cO N) x3) (9 + 6 * cO N) x4) (10 + 6 * cO N) x5) (11 + 6 * cO N) x6) 3 (N 3 + 1)
def okOrd (x1 x2 x3 x4 x5 x6 : Int32) : Bool := inR x1 0 3 && (inR x2 10 150 && (inR x3 1 999 && (inR x4 0 50 && (inR x5 0 99 && inR x6 0 1))))
def okRoll (x1 x2 x3 : Int32) : Bool := inR x1 0 3 && (inR x2 50 300 && inR x3 1 999)
/-- an answer, and the row behind it -/
def aLayO (N : NV) (x1 x2 x3 x4 x5 x6 : Int32) : Int32 × NV := if okOrd x1 x2 x3 x4 x5 x6 = true then (if N 3 = 8 then (-3, N) else (N 3, nOrder N x1 x2 x3 x4 x5 x6)) else (-2, N)
def aLayR (N : NV) (x1 x2 x3 : Int32) : Int32 × NV := if okRoll x1 x2 x3 = true then (if N 4 = 12 then (-3, N) else (N 4, nRoll N x1 x2 x3)) else (-2, N)
def aAhead (N : NV) (a b : Nat) : Bool := if N (10 + 6 * a) = N (10 + 6 * b) then (if N (7 + 6 * a) = N (7 + 6 * b) then decide (a < b) else decide (N (7 + 6 * b) < N (7 + 6 * a))) else decide (N (10 + 6 * a) < N (10 + 6 * b))
def aRank (N : NV) (o : Nat) : Int32 := sumTo (fun a => tf (aAhead N a o)) (cO N)
def aRnkFrom (N : NV) (x : Int32) : Nat → Nat → Int32
  | _, 0 => -1
  | o, n + 1 => if aRank N o = x then nI o else aRnkFrom N x (o + 1) n
def aKn (s rest : Int32) : Int32 := if rest = 0 then s - 1 else s + 1
def aPoss (N : NV) (s rest : Int32) : Bool := decide (0 < s) && (decide (2 * N 1 ≤ rest) && decide (aKn s rest ≤ N 0))
/-- strips from s on while they fit into W, the last possible number so far -/
def aAlFrom (N : NV) (w W : Nat) : Nat → Nat → Nat → Nat
  | _, m, 0 => m
  | s, m, n + 1 => if W < s * w then m else aAlFrom N w W (s + 1) (if aPoss N (nI s) (nI W - nI s * nI w) = true then s else m) n
def aAlone (N : NV) (r o : Nat) : Nat := aAlFrom N (N (7 + 6 * o)).toNatClampNeg (N (55 + 3 * r)).toNatClampNeg 1 0 40
def eU (N : NV) (o r : Nat) : Bool := aCan N r o && decide (0 < aLeft N r)
def eHas (N : NV) (o : Nat) : Nat → Bool
  | 0 => false
  | n + 1 => eHas N o n || eU N o n
def eWide (N : NV) (o : Nat) : Nat → Bool
  | 0 => false
  | n + 1 => eWide N o n || (eU N o n && decide (0 < aAlone N n o))
def eSum (N : NV) (o : Nat) : Nat → Int32
  | 0 => 0
  | n + 1 => eSum N o n + (if eU N o n = true then nI (aAlone N n o) * aLeft N n else 0)
def aExpl (N : NV) (o : Nat) : Int32 := if aMet N o = true then 0 else if eHas N o (cR N) = false then 1 else if eWide N o (cR N) = false then 2 else if eSum N o (cR N) < aLeast N o - aMade N o then 3 else 4
def vO (N : NV) (x : Int32) : Bool := inR x 0 (N 3 - 1)
def vR_ (N : NV) (x : Int32) : Bool := inR x 0 (N 4 - 1)
def vU (N : NV) (x : Int32) : Bool := inR x 0 (N 5 - 1)
def aOrdW (N : NV) (o : Nat) (x : Int32) : Int32 := if inR x 0 5 = true then N (6 + 6 * o + x.toNatClampNeg) else if x = 6 then aLeast N o else if x = 7 then aMost N o else if x = 8 then aMade N o else if x = 9 then aRoom N o else if x = 10 then tf (aMet N o) else if x = 11 then aRunsFor N o else -2
def aOrd (N : NV) (x1 x2 : Int32) : Int32 := if vO N x1 = true then aOrdW N x1.toNatClampNeg x2 else -1
def aRolW (N : NV) (r : Nat) (x : Int32) : Int32 := if inR x 0 2 = true then N (54 + 3 * r + x.toNatClampNeg) else if x = 3 then aLeft N r else if x = 4 then aRunsOf N r else if x = 5 then aRem N r else -2
def aRol (N : NV) (x1 x2 : Int32) : Int32 := if vR_ N x1 = true then aRolW N x1.toNatClampNeg x2 else -1
def sLo (x : Int32) : Int32 := if x = 0 then 2 else if x = 1 then 0 else 10
def sHi (x : Int32) : Int32 := if x = 0 then 7 else if x = 1 then 20 else 99
def okSet (x v : Int32) : Bool := inR x 0 2 && inR v (sLo x) (sHi x)
theorem nn_of {x : Int32} (h : 0 ≤ x) : x = nI x.toNatClampNeg := by
  have h0 : (0 : Int) ≤ x.toInt := by simpa using Int32.le_iff_toInt_le.mp h
  have h1 : x.toInt < 2 ^ 31 := x.toInt_lt
  apply Int32.toInt_inj.mp
  have e : x.toNatClampNeg = x.toInt.toNat := rfl
  rw [e, nI_toInt (by omega)]
  omega
theorem inR_n {x : Int32} {a b : Nat} (h : inR x (nI a) (nI b) = true) (ha : a < 2 ^ 31) (hb : b < 2 ^ 31) : ∃ n, x = nI n ∧ a ≤ n ∧ n ≤ b := by
  unfold inR at h
  simp only [Bool.and_eq_true, decide_eq_true_eq] at h
  obtain ⟨h1, h2⟩ := h
  have h0 : 0 ≤ x := Int32.le_trans (nI_pos' ha) h1
  have e := nn_of h0
  have hl : x.toNatClampNeg < 2 ^ 31 := by
    have e2 : x.toNatClampNeg = x.toInt.toNat := rfl
    have := x.toInt_lt
    omega
  rw [e] at h1 h2
  rw [qI_le ha hl] at h1
  rw [qI_le hl hb] at h2
  exact ⟨_, e, h1, h2⟩
theorem ix_of {x : Int32} {c : Nat} (hc : c < 2 ^ 31) (h : inR x 0 (nI c - 1) = true) : ∃ n, x = nI n ∧ n < c := by
  cases c with
  | zero =>
    unfold inR at h
    simp only [Bool.and_eq_true, decide_eq_true_eq] at h
    have := Int32.le_trans h.1 h.2
    exact absurd this (by decide)
  | succ c =>
    rw [show nI (c + 1) - 1 = nI c from nI_pred c] at h
    obtain ⟨n, h1, -, h2⟩ := inR_n (a := 0) h (by omega) (by omega)
    exact ⟨n, h1, by omega⟩
/-- the search: how many patterns, strips and rest of the best one, its row -/
abbrev Acc : Type := Int32 × Int32 × Int32 × NV
def offA (N : NV) (f : NV) (s rest : Nat) (a : Acc) : Acc := if aPoss N (nI s) (nI rest) = true then (a.1 + 1, if a.2.1 = 0 ∨ nI rest < a.2.2.1 ∨ (nI rest = a.2.2.1 ∧ nI s < a.2.1) then (nI s, nI rest, fun m => if m < 8 then f m else a.2.2.2 m) else a.2) else a
def dn (n : Nat) : List Nat := (List.range (n + 1)).reverse
/-- all patterns from the order o on (k more): the greatest numbers first -/
def trA (N : NV) (w L : Nat → Nat) : Nat → Nat → Nat → Nat → NV → Acc → Acc
  | 0, _, s, rest, f, a => offA N f s rest a
  | k + 1, o, s, rest, f, a => (dn (min (L o) (min (8 - s) (rest / w o)))).foldl (fun a n => trA N w L k (o + 1) (s + n) (rest - n * w o) (upd f o (nI n)) a) a
theorem dn_succ (n : Nat) : dn (n + 1) = (n + 1) :: dn n := by
  unfold dn
  rw [List.range_succ, List.reverse_append]
  rfl
theorem dn_0 : dn 0 = [0] := rfl
/-- the memory with the search's numbers -/
def mP (S : bSt) (a : Acc) (f : NV) : bSt := fun k i j m => if k = 40 ∧ i = 0 ∧ j = 0 ∧ m = 12 then a.2.2.1 else if k = 40 ∧ i = 0 ∧ j = 0 ∧ m = 13 then a.2.1 else if k = 40 ∧ i = 0 ∧ j = 0 ∧ m = 14 then a.1 else if k = 47 ∧ i = 0 ∧ j = 0 then a.2.2.2 m else if k = 46 ∧ i = 0 ∧ j = 0 then f m else S k i j m
