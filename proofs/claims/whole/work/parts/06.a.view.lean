/-! SOUNDNESS, part 1: the relation between the typed memory and the heap, and one instruction that is no call -/
def bTys (cy : Nat → ClassId) : List (ClassId × FieldType) := [(cy 0, .int), (cy 1, .char), (cy 2, .boolean), (cy 3, .object "PaperCutter$Order"), (cy 4, .object "PaperCutter$Roll"), (cy 5, .object "PaperCutter$Run"), (cy 6, .object "PaperCutter$Plan"), (cy 7, .object "PaperCutter$Command"), (cy 8, .array .int)]
abbrev bAdT : Type := Nat → Nat → Nat → Nat
def bVal (ad : bAdT) (oq : Value) : bV → Value := fun v => match v with
  | .inl x => .int x
  | .inr (.inl a) => if a.1 = 39 then oq else .ref (ad a.1 a.2.1 a.2.2)
  | .inr (.inr y) => .long y
/-- a field's value -/
def bFv (k i j f : Nat) (x : Int32) : bV := match fRef k i j f with
  | some a => .inr (.inl a)
  | none => .inl x
def bCell (cy : Nat → ClassId) (ad : bAdT) (oq : Value) (k i j : Nat) (r : Nat → Int32) : va_E := match kObj k with
  | some ci => .inr (ci, (List.range (bNF ci)).map fun f => bVal ad oq (bFv k i j f (r f)))
  | none => match kArr k with
    | some q => if q.1 < 3 then .inl (cy q.1, q.2, .inl r) else .inl (cy q.1, q.2, .inr (.inr (.inr (.inr fun m => (eRef k i m (r m)).map fun a => ad a.1 a.2.1 a.2.2))))
    | none => .inr (0, [])
/-- the cells of the memory -/
def bA (ad : bAdT) : Nat → Prop := fun q => ∃ k i j, bok k i j = true ∧ q = ad k i j
def bInj (ad : bAdT) : Prop := ∀ k i j k' i' j', bok k i j = true → bok k' i' j' = true → ad k i j = ad k' i' j' → k = k' ∧ i = i' ∧ j = j'
def bHR (D : va_G) (cy : Nat → ClassId) (ad : bAdT) (oq : Value) (S : bSt) (U : State) (H : Heap) : Prop :=
  (∀ k i j, bok k i j = true → va_at D vwCl (ad k i j, bCell cy ad oq k i j (S k i j)) H) ∧
  (∀ k, bRO k = true → va_T .int (ad k 0 0) (bROl S k) (fun n => .int (S k 0 0 n)) (bA ad) U H) ∧
  (va_Z "PaperCutter" "FIRST_SETTING" "[I" (.ref (ad 33 0 0)) (bA ad) U H ∧ va_Z "PaperCutter" "LOWEST_SETTING" "[I" (.ref (ad 34 0 0)) (bA ad) U H ∧ va_Z "PaperCutter" "HIGHEST_SETTING" "[I" (.ref (ad 35 0 0)) (bA ad) U H) ∧
  (va_Z "java/lang/String" "COMPACT_STRINGS" "Z" (.int 1) (bA ad) U H ∧ va_Z "jdk/internal/util/Preconditions" "SIOOBE_FORMATTER" "Ljava/util/function/BiFunction;" oq (bA ad) U H) ∧
  vk_S 6 bTl bTx (fun i => ad 37 i 0) (fun i => ad 38 i 0) (bA ad) U H
def bNest : Jvm.Cond → Bool := fun w => match w with
  | .fieldLinkNest _ _ _ _ _ _ => true
  | .methodLinkNest _ _ _ _ => true
  | _ => false
def bKN (D : va_G) (cy : Nat → ClassId) (ad : bAdT) (U : State) : Prop := va_K D vwCl (bTys cy) U ∧ (∀ w ∈ tables_1, bNest w = true → va_Nw w U) ∧ ∀ idx n, bLdc 7 idx = some n → vk_R "PaperCutter$Text" idx (bStr n) (ad 37 n 0) U
def bGW : List Jvm.Cond := lw_tbl.filter goodWord
theorem bGW_in {w : Jvm.Cond} (h : w ∈ tables_1) (hg : goodWord w = true) : w ∈ bGW := List.mem_filter.mpr ⟨List.mem_append_right _ h, hg⟩
/-- the locals -/
def bLR (ad : bAdT) (oq : Value) (ls : List (Option bV)) (lsR : Array Slot) (nL : Nat) : Prop := ls.length = nL ∧ ∃ lv, lv_has lsR nL lv ∧ ∀ i v, ls[i]? = some (some v) → bCat v = 1 ∧ (i, bVal ad oq v) ∈ lv
theorem bcl : ∀ ci : Nat, ci < 10 → vwCl[ci]? = some (bRN ci, bTX ci, bNF ci)
  | 0, _ => rfl
  | 1, _ => rfl
  | 2, _ => rfl
  | 3, _ => rfl
  | 4, _ => rfl
  | 5, _ => rfl
  | 6, _ => rfl
  | 7, _ => rfl
  | 8, _ => rfl
  | 9, _ => rfl
  | n + 10, h => absurd h (by omega)
theorem bcw_0 : ∀ w ∈ u_ws (bRN 0) (bTX 0) (bNF 0), w ∈ tables_1 ∧ goodWord w = true := by decide +kernel
theorem bcw_1 : ∀ w ∈ u_ws (bRN 1) (bTX 1) (bNF 1), w ∈ tables_1 ∧ goodWord w = true := by decide +kernel
theorem bcw_2 : ∀ w ∈ u_ws (bRN 2) (bTX 2) (bNF 2), w ∈ tables_1 ∧ goodWord w = true := by decide +kernel
theorem bcw_3 : ∀ w ∈ u_ws (bRN 3) (bTX 3) (bNF 3), w ∈ tables_1 ∧ goodWord w = true := by decide +kernel
theorem bcw_4 : ∀ w ∈ u_ws (bRN 4) (bTX 4) (bNF 4), w ∈ tables_1 ∧ goodWord w = true := by decide +kernel
theorem bcw_5 : ∀ w ∈ u_ws (bRN 5) (bTX 5) (bNF 5), w ∈ tables_1 ∧ goodWord w = true := by decide +kernel
theorem bcw_6 : ∀ w ∈ u_ws (bRN 6) (bTX 6) (bNF 6), w ∈ tables_1 ∧ goodWord w = true := by decide +kernel
theorem bcw_7 : ∀ w ∈ u_ws (bRN 7) (bTX 7) (bNF 7), w ∈ tables_1 ∧ goodWord w = true := by decide +kernel
theorem bcw_8 : ∀ w ∈ u_ws (bRN 8) (bTX 8) (bNF 8), w ∈ tables_1 ∧ goodWord w = true := by decide +kernel
theorem bcw_9 : ∀ w ∈ u_ws (bRN 9) (bTX 9) (bNF 9), w ∈ tables_1 ∧ goodWord w = true := by decide +kernel
theorem bcw : ∀ ci : Nat, ci < 10 → ∀ w ∈ u_ws (bRN ci) (bTX ci) (bNF ci), w ∈ bGW
  | 0, _ => fun w h => bGW_in (bcw_0 w h).1 (bcw_0 w h).2
  | 1, _ => fun w h => bGW_in (bcw_1 w h).1 (bcw_1 w h).2
  | 2, _ => fun w h => bGW_in (bcw_2 w h).1 (bcw_2 w h).2
  | 3, _ => fun w h => bGW_in (bcw_3 w h).1 (bcw_3 w h).2
  | 4, _ => fun w h => bGW_in (bcw_4 w h).1 (bcw_4 w h).2
  | 5, _ => fun w h => bGW_in (bcw_5 w h).1 (bcw_5 w h).2
  | 6, _ => fun w h => bGW_in (bcw_6 w h).1 (bcw_6 w h).2
  | 7, _ => fun w h => bGW_in (bcw_7 w h).1 (bcw_7 w h).2
  | 8, _ => fun w h => bGW_in (bcw_8 w h).1 (bcw_8 w h).2
  | 9, _ => fun w h => bGW_in (bcw_9 w h).1 (bcw_9 w h).2
  | n + 10, h => absurd h (by omega)
def btyX : Nat → Nat → FieldType := fun ci => match ci with
  | 0 => tyX0
  | 1 => tyX1
  | 2 => tyX2
  | 3 => tyX3
  | 4 => tyX4
  | 5 => tyX5
  | 6 => tyX6
  | 7 => tyX7
  | 8 => tyX8
  | _ => tyX9
theorem btyX_ok : ∀ ci : Nat, ci < 10 → ∀ k, k < bNF ci → parseFieldDescriptor (bTX ci k).2.2.1 = some (btyX ci k)
  | 0, _ => tyX0_ok
  | 1, _ => tyX1_ok
  | 2, _ => tyX2_ok
  | 3, _ => tyX3_ok
  | 4, _ => tyX4_ok
  | 5, _ => tyX5_ok
  | 6, _ => tyX6_ok
  | 7, _ => tyX7_ok
  | 8, _ => tyX8_ok
  | 9, _ => tyX9_ok
  | n + 10, h => absurd h (by omega)
theorem bnmX : ∀ ci : Nat, ci < 10 → ∀ a, a < bNF ci → ∀ b, b < bNF ci → a ≠ b → (bTX ci a).2.1 ≠ (bTX ci b).2.1
  | 0, _ => nmX0
  | 1, _ => nmX1
  | 2, _ => nmX2
  | 3, _ => nmX3
  | 4, _ => nmX4
  | 5, _ => nmX5
  | 6, _ => nmX6
  | 7, _ => nmX7
  | 8, _ => nmX8
  | 9, _ => nmX9
  | n + 10, h => absurd h (by omega)
theorem bow : ∀ ci : Nat, ci < 10 → ∀ k, k < bNF ci → (bTX ci k).1 = bRN ci
  | 0, _ => by decide +kernel
  | 1, _ => by decide +kernel
  | 2, _ => by decide +kernel
  | 3, _ => by decide +kernel
  | 4, _ => by decide +kernel
  | 5, _ => by decide +kernel
  | 6, _ => by decide +kernel
  | 7, _ => by decide +kernel
  | 8, _ => by decide +kernel
  | 9, _ => by decide +kernel
  | n + 10, h => absurd h (by omega)
theorem bF_ok {own idx ci f : Nat} {b : Bool} (h : bF own idx = some (ci, f, b)) : bFc (own, idx, ci, f, b) ∈ tables_1 ∧ ci < 10 ∧ f < bNF ci := by
  unfold bF at h
  cases hf : bFt.find? (fun e => e.1 == own && e.2.1 == idx) with
  | none => rw [hf] at h; cases h
  | some e =>
    rw [hf] at h
    have he := List.mem_of_find?_eq_some hf
    have hp := List.find?_some hf
    simp only [Bool.and_eq_true, beq_iff_eq] at hp
    obtain ⟨e1, e2, e3, e4, e5⟩ := e
    obtain ⟨rfl, rfl⟩ := hp
    cases h
    exact bFk _ he
theorem bC_ok {own idx k : Nat} {b : Bool} (h : bC own idx = some (k, b)) : bCc (own, idx, k, b) ∈ tables_1 ∧ k < 267 := by
  unfold bC at h
  cases hf : bCt.find? (fun e => e.1 == own && e.2.1 == idx) with
  | none => rw [hf] at h; cases h
  | some e =>
    rw [hf] at h
    have he := List.mem_of_find?_eq_some hf
    have hp := List.find?_some hf
    simp only [Bool.and_eq_true, beq_iff_eq] at hp
    obtain ⟨e1, e2, e3, e4⟩ := e
    obtain ⟨rfl, rfl⟩ := hp
    cases h
    exact bCk _ he
theorem bmg_0 : bMt.length = 267 := by decide +kernel
theorem bmg {k : Nat} (h : k < 267) : bCe k ∈ bMt := by
  unfold bCe
  have : k < bMt.length := by rw [bmg_0]; exact h
  simp [List.getD_eq_getElem?_getD, this]
theorem bCe_of {k : Nat} {m : bEnt} (h : bMt[k]? = some m) : bCe k = m := by
  unfold bCe
  simp [List.getD_eq_getElem?_getD, h]
theorem bdec {k pc n : Nat} {x : Instr} (h : ins k pc = some (x, n)) : decode (bCe k).2.2.1 pc = .ok (x, n) ∧ blen x n = true := by
  obtain ⟨m, h1, h2⟩ := ins_ok h
  rw [bCe_of h1]
  exact ⟨h2, ins_len h⟩
/-- the heap's view changes at one address alone -/
theorem bHR_put {D : va_G} {cy : Nat → ClassId} {ad : bAdT} {oq : Value} {S S' : bSt} {U : State} {H H1 : Heap} {k i j : Nat} (hinj : bInj ad) (hk : bok k i j = true) (h : bHR D cy ad oq S U H)
    (hS : ∀ k' i' j', ¬ (k' = k ∧ i' = i ∧ j' = j) → S' k' i' j' = S k' i' j') (hat : va_at D vwCl (ad k i j, bCell cy ad oq k i j (S' k i j)) H1) (oq1 : ∀ q : Nat, q ≠ ad k i j → H1[q]? = H[q]?) : bHR D cy ad oq S' U H1 := by
  obtain ⟨h1, h2, ⟨z1, z2, z3⟩, ⟨z4, z5⟩, h3⟩ := h
  have hq : ∀ a : Nat, a < H.size → ¬ bA ad a → H1[a]? = H[a]? := fun a _ ha => oq1 a (fun z => ha ⟨k, i, j, hk, z⟩)
  refine ⟨fun k' i' j' hk' => ?_, fun k' hk' => ?_, ⟨z1.kept hq, z2.kept hq, z3.kept hq⟩, ⟨z4.kept hq, z5.kept hq⟩, h3.kept hq⟩
  · by_cases e : k' = k ∧ i' = i ∧ j' = j
    · obtain ⟨rfl, rfl, rfl⟩ := e
      exact hat
    · rw [hS k' i' j' e]
      exact (h1 k' i' j' hk').kept (oq1 _ (fun z => e (hinj _ _ _ _ _ _ hk' hk z)))
  · have hn : ∀ i' j', ¬ (k' = k ∧ i' = i ∧ j' = j) := by
      intro i' j' e
      obtain ⟨rfl, -, -⟩ := e
      have hk9 : k' = 33 ∨ k' = 34 ∨ k' = 35 ∨ k' = 36 := by
        simp only [bRO, Bool.or_eq_true, beq_iff_eq] at hk'
        omega
      have : bok k' i j = false := by
        rcases hk9 with rfl | rfl | rfl | rfl <;> simp [bok, kDim, kObj, kArr]
      rw [this] at hk
      cases hk
    have e1 : bROl S' k' = bROl S k' := by
      unfold bROl
      split
      · rename_i e
        rw [e] at hn
        rw [hS 36 1 0 (hn 1 0)]
      · rfl
    rw [e1, hS k' 0 0 (hn 0 0)]
    exact (h2 k' hk').kept hq
theorem sUp_ne {S : bSt} {k i j n : Nat} {x : Int32} : ∀ k' i' j', ¬ (k' = k ∧ i' = i ∧ j' = j) → sUp S k i j n x k' i' j' = S k' i' j' := by
  intro k' i' j' h
  funext n'
  unfold sUp
  rw [if_neg]
  rintro ⟨h1, h2, h3, -⟩
  exact h ⟨h1, h2, h3⟩
theorem sUp_at {S : bSt} {k i j n : Nat} {x : Int32} : sUp S k i j n x k i j = upd (S k i j) n x := by
  funext n'
  unfold sUp upd
  by_cases h : n' = n <;> simp [h]
theorem sCp_ne {S : bSt} {a : bAd} {k i j sp dp n : Nat} : ∀ k' i' j', ¬ (k' = k ∧ i' = i ∧ j' = j) → sCp S a (k, i, j) sp dp n k' i' j' = S k' i' j' := by
  intro k' i' j' h
  funext n'
  unfold sCp
  rw [if_neg]
  rintro ⟨h1, h2, h3, -⟩
  exact h ⟨h1, h2, h3⟩
theorem sCp_at {S : bSt} {k0 i0 j0 k i j sp dp n : Nat} : sCp S (k0, i0, j0) (k, i, j) sp dp n k i j = va_cpy (S k0 i0 j0) (S k i j) sp dp n := by
  funext n'
  unfold sCp va_cpy
  by_cases h : dp ≤ n' ∧ n' < dp + n <;> simp [h]
theorem bcell_o {cy : Nat → ClassId} {ad : bAdT} {oq : Value} {k i j ci : Nat} {r : Nat → Int32} (h : kObj k = some ci) : bCell cy ad oq k i j r = .inr (ci, (List.range (bNF ci)).map fun f => bVal ad oq (bFv k i j f (r f))) := by
  unfold bCell
  rw [h]
theorem kObj_kArr {k : Nat} {q : Nat × Nat} (h : kArr k = some q) : kObj k = none := by
  unfold kArr at h
  split at h <;> first | rfl | cases h
theorem bcell_a {cy : Nat → ClassId} {ad : bAdT} {oq : Value} {k i j t n : Nat} {r : Nat → Int32} (h : kArr k = some (t, n)) (ht : t < 3) : bCell cy ad oq k i j r = .inl (cy t, n, .inl r) := by
  unfold bCell
  rw [kObj_kArr h, h]
  exact if_pos ht
theorem bcell_q {cy : Nat → ClassId} {ad : bAdT} {oq : Value} {k i j t n : Nat} {r : Nat → Int32} (h : kArr k = some (t, n)) (ht : ¬ t < 3) : bCell cy ad oq k i j r = .inl (cy t, n, .inr (.inr (.inr (.inr fun m => (eRef k i m (r m)).map fun a => ad a.1 a.2.1 a.2.2)))) := by
  unfold bCell
  rw [kObj_kArr h, h]
  exact if_neg ht
theorem bArr_eq {k t : Nat} (h : bArr k t = true) : kArr k = some (t, bLen k) := by
  unfold bArr at h
  unfold bLen
  cases hk : kArr k with
  | none => rw [hk] at h; cases h
  | some q =>
    rw [hk] at h
    have : q.1 = t := by simpa using h
    subst this
    rfl
theorem eRef_39 {k i n : Nat} {v : Int32} {a : bAd} (h : eRef k i n v = some a) : a.1 ≠ 39 := by
  unfold eRef at h
  split at h
  all_goals first | (cases h; simp; done) | (split at h <;> (cases h; try simp); done) | cases h
section BSND
variable {p : Program} {l : Launch} {e : Env} {R : Room} {s : State} {m : MethodId} {args : Array Value} {below : List Frame} {meth : Method} {c : Code} {H : Heap} {locs : List Loc} {cells slots : Nat} {Z : State → Prop}
variable {D : va_G} {cy : Nat → ClassId} {ad : bAdT} {oq : Value} {A0 : Nat → Prop} {H0 : Heap} {k pc : Nat} {ls ls' : List (Option bV)} {lsR : Array Slot} {st : List bV} {S : bSt} {P : Prop} {f' : bFr}
/-- what every row of a method's walk leans on -/
def bCx (p : Program) (R : Room) (s : State) (m : MethodId) (args : Array Value) (c : Code) (D : va_G) (cy : Nat → ClassId) (ad : bAdT) (oq : Value) (A0 : Nat → Prop) (k : Nat) : Prop :=
  p.tables.exec = Jvm.exec ∧ c.code = (bCe k).2.2.1 ∧ c.maxLocals = (bCe k).2.2.2.1 ∧ s.vm.findClass (bRN (bCe k).1) = some m.cls ∧ (∀ w ∈ bGW, w.before args s = true) ∧ bKN D cy ad s ∧ bInj ad ∧ (∀ q, bA ad q → A0 q) ∧ oq.category = 1 ∧ 1 ≤ R.frames ∧ 100 ≤ R.locals
/-- the goal behind an instruction -/
def bGo (p : Program) (l : Launch) (e : Env) (R : Room) (s : State) (m : MethodId) (args : Array Value) (below : List Frame) (meth : Method) (c : Code) (cells slots : Nat) (Z : State → Prop) (D : va_G) (cy : Nat → ClassId) (ad : bAdT) (oq : Value) (A0 : Nat → Prop) (H0 : Heap) (f : bFr) : Prop :=
  ∀ (H : Heap) (locs : List Loc) (lsR : Array Slot), bLR ad oq f.2.1 lsR c.maxLocals → bHR D cy ad oq f.2.2.2 s H → va_S A0 H0 H locs → W p l e R s m args below meth c H locs cells slots Z (F0 m f.1 lsR (f.2.2.1.map (bVal ad oq)))
theorem bLR_at (h : bLR ad oq ls lsR c.maxLocals) {i : Nat} {v : bV} (hv : ls[i]? = some (some v)) : lsR[i]? = some (.val (bVal ad oq v)) := by
  obtain ⟨-, lv, h1, h2⟩ := h
  exact h1.2.2 _ (h2 i v hv).2
theorem bcat_val (ho : oq.category = 1) (v : bV) : (bVal ad oq v).category = bCat v := by
  rcases v with x | a | y
  · rfl
  · show (if a.1 = 39 then oq else Value.ref _).category = 1
    split
    · exact ho
    · rfl
  · rfl
theorem bLR_set {nL i : Nat} {v : bV} {lv : List (Nat × Value)} {lsR' : Array Slot} (ho : oq.category = 1) (hn : ls.length = nL) (h2 : ∀ i v, ls[i]? = some (some v) → bCat v = 1 ∧ (i, bVal ad oq v) ∈ lv) (hc : bCat v = 1)
    (h : lv_has lsR' nL ((i, bVal ad oq v) :: lv.filter (fun q => !(q.1 == i) && !(q.1 + 1 == i && q.2.category == 2)))) : bLR ad oq (ls.set i (some v)) lsR' nL := by
  refine ⟨by simpa using hn, _, h, fun j w hj => ?_⟩
  by_cases hji : j = i
  · subst hji
    have hl : j < ls.length := by
      have := (List.getElem?_eq_some_iff.mp hj).1
      simpa using this
    rw [List.getElem?_set_self hl] at hj
    cases hj
    exact ⟨hc, List.mem_cons_self⟩
  · rw [List.getElem?_set_ne (Ne.symm hji)] at hj
    obtain ⟨g1, g2⟩ := h2 j w hj
    refine ⟨g1, List.mem_cons_of_mem _ (List.mem_filter.mpr ⟨g2, ?_⟩)⟩
    simp only [bcat_val ho, g1]
    simp [hji]
theorem bh_ld {r : Bool} {n pc' : Nat} (hs : bLd r n pc' ls st S = some (P, f')) : ∃ v, ls[n]? = some (some v) ∧ f' = (pc', ls, v :: st, S) ∧ ((r = false ∧ ∃ x, v = .inl x) ∨ (r = true ∧ ∃ a : bAd, v = .inr (.inl a) ∧ a.1 ≠ 39)) := by
  unfold bLd at hs
  split at hs
  · rename_i x hx
    split at hs
    · cases hs
    · rename_i hr
      cases hs
      exact ⟨_, hx, rfl, Or.inl ⟨by simpa using hr, x, rfl⟩⟩
  · rename_i a ha
    split at hs
    · rename_i hr
      cases hs
      exact ⟨_, ha, rfl, Or.inr ⟨hr.1, a, rfl, hr.2⟩⟩
    · cases hs
  · cases hs
theorem bh_sv {r : Bool} {n pc' : Nat} (hs : bSv r n pc' ls st S = some (P, f')) : ∃ v st', st = v :: st' ∧ n < ls.length ∧ f' = (pc', ls.set n (some v), st', S) ∧ ((r = false ∧ ∃ x, v = .inl x) ∨ (r = true ∧ ∃ a : bAd, v = .inr (.inl a) ∧ a.1 ≠ 39)) := by
  unfold bSv at hs
  split at hs
  · split at hs
    · rename_i x st' hr
      cases hs
      exact ⟨_, _, rfl, hr.2, rfl, Or.inl ⟨hr.1, x, rfl⟩⟩
    · cases hs
  · split at hs
    · rename_i a st' hr
      cases hs
      exact ⟨_, _, rfl, hr.2.2, rfl, Or.inr ⟨hr.1, a, rfl, hr.2.1⟩⟩
    · cases hs
  · cases hs
theorem bh_bin {op : Int32 → Int32 → Int32} {Pr : Int32 → Prop} (hs : bBin op Pr pc ls st S = some (P, f')) : ∃ x y st', st = .inl y :: .inl x :: st' ∧ P = Pr y ∧ f' = (pc + 1, ls, vI (op x y) :: st', S) := by
  unfold bBin at hs
  split at hs
  · cases hs
    exact ⟨_, _, _, rfl, rfl, rfl⟩
  · cases hs
theorem bh_xst {t : Nat} (hs : bXst t pc ls st S = some (P, f')) : ∃ x n k0 i0 j0 st', st = .inl x :: .inl n :: .inr (.inl (k0, i0, j0)) :: st' ∧ bArr k0 t = true ∧ P = (bok k0 i0 j0 = true ∧ vp_in n (bLen k0) ∧ (t = 1 → narrow .char (.int x) = .int x) ∧ (t = 2 → x = 0 ∨ x = 1)) ∧ f' = (pc + 1, ls, st', sUp S k0 i0 j0 n.toNatClampNeg x) := by
  unfold bXst at hs
  split at hs
  · split at hs
    · rename_i h
      cases hs
      exact ⟨_, _, _, _, _, _, rfl, h, rfl, rfl⟩
    · cases hs
  · cases hs
theorem barr_at (hH : bHR D cy ad oq S s H) {k0 i0 j0 t : Nat} (ht : bArr k0 t = true) (h3 : t < 3) (hok : bok k0 i0 j0 = true) : H[ad k0 i0 j0]? = some (vp_cell (cy t) (bLen k0, .inl (S k0 i0 j0))) := by
  have h := hH.1 k0 i0 j0 hok
  rw [bcell_a (bArr_eq ht) h3] at h
  exact h
theorem bbok_ne {k0 i0 j0 : Nat} (h : bok k0 i0 j0 = true) : k0 ≠ 39 := by
  rintro rfl
  simp [bok, kDim, kObj, kArr] at h
theorem bval_ok {k0 i0 j0 : Nat} (h : k0 ≠ 39) : bVal ad oq (.inr (.inl (k0, i0, j0))) = .ref (ad k0 i0 j0) := if_neg h
theorem bty_get {t : Nat} {ty : FieldType} (hK : bKN D cy ad s) (h : (bTys cy)[t]? = some (cy t, ty)) : ArrOfT s (cy t) ty := (hK.1.2 t _ h).1
theorem bxst_int (C : bCx p R s m args c D cy ad oq A0 k) (hdg : decode (bCe k).2.2.1 pc = .ok (.iastore, 1)) {x n : Int32} {k0 i0 j0 : Nat} {st' : List bV} (ht : bArr k0 0 = true) (hok : bok k0 i0 j0 = true) (hin : vp_in n (bLen k0)) (hL : bLR ad oq ls lsR c.maxLocals) (hH : bHR D cy ad oq S s H) (hS : va_S A0 H0 H locs)
    (kk : bGo p l e R s m args below meth c cells slots Z D cy ad oq A0 H0 (pc + 1, ls, st', sUp S k0 i0 j0 n.toNatClampNeg x)) : W p l e R s m args below meth c H locs cells slots Z (F0 m pc lsR (.int x :: .int n :: .ref (ad k0 i0 j0) :: st'.map (bVal ad oq))) := by
  obtain ⟨hx, hb, -, -, -, hK, hinj, hA, -⟩ := C
  have ha := barr_at hH ht (by decide) hok
  refine W.iast hx hb ha (bty_get (t := 0) hK rfl (bLen k0) (fun j => .int (S k0 i0 j0 j))) (fun q => by cases q) (by show ¬ (n < 0 ∨ (arrV _ _ _).slots.size ≤ _); rw [arrV_size]; exact hin) rfl rfl hdg fun H1 e1 z1 oq1 => ?_
  refine kk H1 _ lsR hL (bHR_put hinj hok hH sUp_ne ?_ oq1) (hS.put z1 oq1 (hA _ ⟨k0, i0, j0, hok, rfl⟩))
  dsimp only
  rw [bcell_a (bArr_eq ht) (by decide), sUp_at]
  show H1[_]? = some (vp_cell _ _)
  rw [e1, vp_cell_i, vp_cell_i, arrV_store]
  congr 2
  funext q
  by_cases hq : q = n.toNatClampNeg
  · subst hq
    simp [updV, upd]
  · simp [updV, upd, hq]
theorem bxst_char (C : bCx p R s m args c D cy ad oq A0 k) (hdg : decode (bCe k).2.2.1 pc = .ok (.castore, 1)) {x n : Int32} {k0 i0 j0 : Nat} {st' : List bV} (ht : bArr k0 1 = true) (hok : bok k0 i0 j0 = true) (hin : vp_in n (bLen k0)) (hnr : narrow .char (.int x) = .int x) (hL : bLR ad oq ls lsR c.maxLocals) (hH : bHR D cy ad oq S s H) (hS : va_S A0 H0 H locs)
    (kk : bGo p l e R s m args below meth c cells slots Z D cy ad oq A0 H0 (pc + 1, ls, st', sUp S k0 i0 j0 n.toNatClampNeg x)) : W p l e R s m args below meth c H locs cells slots Z (F0 m pc lsR (.int x :: .int n :: .ref (ad k0 i0 j0) :: st'.map (bVal ad oq))) := by
  obtain ⟨hx, hb, -, -, -, hK, hinj, hA, -⟩ := C
  have ha := barr_at hH ht (by decide) hok
  refine W.cast hx hb ha (bty_get (t := 1) hK rfl (bLen k0) (fun j => .int (S k0 i0 j0 j))) (fun q => by cases q) (by show ¬ (n < 0 ∨ (arrV _ _ _).slots.size ≤ _); rw [arrV_size]; exact hin) rfl rfl hdg fun H1 e1 z1 oq1 => ?_
  refine kk H1 _ lsR hL (bHR_put hinj hok hH sUp_ne ?_ oq1) (hS.put z1 oq1 (hA _ ⟨k0, i0, j0, hok, rfl⟩))
  dsimp only
  rw [bcell_a (bArr_eq ht) (by decide), sUp_at]
  show H1[_]? = some (vp_cell _ _)
  rw [e1, hnr, vp_cell_i, vp_cell_i, arrV_store]
  congr 2
  funext q
  by_cases hq : q = n.toNatClampNeg
  · subst hq
    simp [updV, upd]
  · simp [updV, upd, hq]
theorem bnz {x : Int32} (h : x = 0 ∨ x = 1) : narrow .boolean (.int x) = .int x ∧ fits .boolean (.int x) = true := by
  rcases h with rfl | rfl <;> exact ⟨rfl, rfl⟩
theorem bxst_bool (C : bCx p R s m args c D cy ad oq A0 k) (hdg : decode (bCe k).2.2.1 pc = .ok (.bastore, 1)) {x n : Int32} {k0 i0 j0 : Nat} {st' : List bV} (ht : bArr k0 2 = true) (hok : bok k0 i0 j0 = true) (hin : vp_in n (bLen k0)) (hz : x = 0 ∨ x = 1) (hL : bLR ad oq ls lsR c.maxLocals) (hH : bHR D cy ad oq S s H) (hS : va_S A0 H0 H locs)
    (kk : bGo p l e R s m args below meth c cells slots Z D cy ad oq A0 H0 (pc + 1, ls, st', sUp S k0 i0 j0 n.toNatClampNeg x)) : W p l e R s m args below meth c H locs cells slots Z (F0 m pc lsR (.int x :: .int n :: .ref (ad k0 i0 j0) :: st'.map (bVal ad oq))) := by
  obtain ⟨hx, hb, -, -, -, hK, hinj, hA, -⟩ := C
  have ha := barr_at hH ht (by decide) hok
  refine W.zast hx hb ha (bty_get (t := 2) hK rfl (bLen k0) (fun j => .int (S k0 i0 j0 j))) (fun q => by cases q) (by show ¬ (n < 0 ∨ (arrV _ _ _).slots.size ≤ _); rw [arrV_size]; exact hin) rfl rfl hdg fun H1 e1 z1 oq1 => ?_
  refine kk H1 _ lsR hL (bHR_put hinj hok hH sUp_ne ?_ oq1) (hS.put z1 oq1 (hA _ ⟨k0, i0, j0, hok, rfl⟩))
  dsimp only
  rw [bcell_a (bArr_eq ht) (by decide), sUp_at]
  show H1[_]? = some (vp_cell _ _)
  rw [e1, (bnz hz).1, vp_cell_i, vp_cell_i, arrV_store]
  congr 2
  funext q
  by_cases hq : q = n.toNatClampNeg
  · subst hq
    simp [updV, upd]
  · simp [updV, upd, hq]
theorem bh_xld {t : Nat} (hs : bXld t pc ls st S = some (P, f')) : ∃ n k0 i0 j0 st', st = .inl n :: .inr (.inl (k0, i0, j0)) :: st' ∧
    ((bArr k0 t = true ∧ P = (bok k0 i0 j0 = true ∧ vp_in n (bLen k0)) ∧ f' = (pc + 1, ls, vI (S k0 i0 j0 n.toNatClampNeg) :: st', S)) ∨
     (t = 0 ∧ bRO k0 = true ∧ i0 = 0 ∧ j0 = 0 ∧ P = vp_in n (bROl S k0) ∧ f' = (pc + 1, ls, vI (S k0 0 0 n.toNatClampNeg) :: st', S)) ∨
     (t = 9 ∧ k0 = 38 ∧ j0 = 0 ∧ P = (i0 < 6 ∧ vp_in n (bTl.getD i0 0)) ∧ f' = (pc + 1, ls, vI ((bTx.getD i0 []).getD n.toNatClampNeg 0) :: st', S))) := by
  unfold bXld at hs
  split at hs
  · split at hs
    · rename_i h
      cases hs
      exact ⟨_, _, _, _, _, rfl, Or.inl ⟨h, rfl, rfl⟩⟩
    · split at hs
      · rename_i h
        cases hs
        exact ⟨_, _, _, _, _, rfl, Or.inr (Or.inl ⟨h.1, h.2.1, h.2.2.1, h.2.2.2, rfl, rfl⟩)⟩
      · split at hs
        · rename_i h
          cases hs
          exact ⟨_, _, _, _, _, rfl, Or.inr (Or.inr ⟨h.1, h.2.1, h.2.2, rfl, rfl⟩)⟩
        · cases hs
  · cases hs
theorem bro_ne {k0 : Nat} (h : bRO k0 = true) : k0 ≠ 39 := by
  rintro rfl
  simp [bRO] at h
end BSND
