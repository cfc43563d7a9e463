theorem bck_14 : bck bT_14 bM_14 = true := by
  have h : (bI_266.all (bdk code)) = true := by
    simp only [bI_266, List.all_append, bckL_0, bckL_1, bckL_2, bckL_3, Bool.and_self]
  simp only [bT_14, bM_14, bck, h, Bool.and_self]
theorem bck_app {ts us : List (List (Nat × Instr × Nat))} {ms ns : List bEnt} (h1 : bck ts ms = true) (h2 : bck us ns = true) : bck (ts ++ us) (ms ++ ns) = true := by
  induction ts generalizing ms with
  | nil => cases ms with
    | nil => exact h2
    | cons m ms => exact absurd h1 (by simp [bck])
  | cons t ts ih => cases ms with
    | nil => exact absurd h1 (by simp [bck])
    | cons m ms =>
      simp only [bck, Bool.and_eq_true] at h1
      simp only [List.cons_append, bck, Bool.and_eq_true]
      exact ⟨h1.1, ih h1.2⟩
theorem bck_all : bck bTt bMt = true := bck_app bck_0 (bck_app bck_1 (bck_app bck_2 (bck_app bck_3 (bck_app bck_4 (bck_app bck_5 (bck_app bck_6 (bck_app bck_7 (bck_app bck_8 (bck_app bck_9 (bck_app bck_10 (bck_app bck_11 (bck_app bck_12 (bck_app bck_13 (bck_14))))))))))))))
theorem bck_get {ts : List (List (Nat × Instr × Nat))} {ms : List bEnt} (h : bck ts ms = true) {k : Nat} {t : List (Nat × Instr × Nat)} (ht : ts[k]? = some t) : ∃ m, ms[k]? = some m ∧ t.all (bdk m.2.2.1) = true := by
  induction ts generalizing ms k with
  | nil => simp at ht
  | cons t0 ts ih => cases ms with
    | nil => exact absurd h (by simp [bck])
    | cons m0 ms =>
      simp only [bck, Bool.and_eq_true] at h
      cases k with
      | zero => cases ht; exact ⟨m0, rfl, h.1⟩
      | succ k => exact ih h.2 (by simpa using ht)
def ins (k pc : Nat) : Option (Instr × Nat) := match bTt[k]? with
  | none => none
  | some l => match l.find? (fun e => e.1 == pc) with
    | none => none
    | some e => some e.2
theorem ins_ok {k pc : Nat} {x : Instr} {n : Nat} (h : ins k pc = some (x, n)) : ∃ m, bMt[k]? = some m ∧ decode m.2.2.1 pc = .ok (x, n) := by
  unfold ins at h
  cases ht : bTt[k]? with
  | none => rw [ht] at h; cases h
  | some l =>
    rw [ht] at h
    obtain ⟨m, hm, ha⟩ := bck_get bck_all ht
    refine ⟨m, hm, ?_⟩
    cases hf : l.find? (fun e => e.1 == pc) with
    | none => simp only [hf] at h; cases h
    | some e =>
      simp only [hf] at h
      obtain ⟨e1, e2⟩ := e
      have he := List.mem_of_find?_eq_some hf
      have hp : e1 = pc := by simpa using List.find?_some hf
      have h2 : e2 = (x, n) := Option.some.inj h
      subst hp; subst h2
      have h3 := List.all_eq_true.mp ha _ he
      unfold bdk at h3
      split at h3
      · rename_i r hr
        rw [hr, of_decide_eq_true h3]
      · cases h3
def blen (x : Instr) (n : Nat) : Bool := match x with
  | .tableswitch _ _ _ _ => true
  | .iload _ => n == 2
  | .aload _ => n == 2
  | .istore _ => n == 2
  | .astore _ => n == 2
  | .bipush _ => n == 2
  | .ldc _ => n == 2
  | .newarray _ => n == 2
  | .sipush _ => n == 3
  | .iinc _ _ => n == 3
  | .ifCond _ _ => n == 3
  | .if_icmp _ _ => n == 3
  | .goto _ => n == 3
  | .getfield _ => n == 3
  | .putfield _ => n == 3
  | .getstatic _ => n == 3
  | .invokevirtual _ => n == 3
  | .invokestatic _ => n == 3
  | .invokespecial _ => n == 3
  | .new _ => n == 3
  | .anewarray _ => n == 3
  | .checkcast _ => n == 3
  | .multianewarray _ _ => n == 4
  | _ => n == 1
set_option maxRecDepth 100000 in
theorem bln_0 : ∀ t ∈ bT_0, t.all (fun e => blen e.2.1 e.2.2) = true := by decide +kernel
set_option maxRecDepth 100000 in
theorem bln_1 : ∀ t ∈ bT_1, t.all (fun e => blen e.2.1 e.2.2) = true := by decide +kernel
set_option maxRecDepth 100000 in
theorem bln_2 : ∀ t ∈ bT_2, t.all (fun e => blen e.2.1 e.2.2) = true := by decide +kernel
set_option maxRecDepth 100000 in
theorem bln_3 : ∀ t ∈ bT_3, t.all (fun e => blen e.2.1 e.2.2) = true := by decide +kernel
set_option maxRecDepth 100000 in
theorem bln_4 : ∀ t ∈ bT_4, t.all (fun e => blen e.2.1 e.2.2) = true := by decide +kernel
set_option maxRecDepth 100000 in
theorem bln_5 : ∀ t ∈ bT_5, t.all (fun e => blen e.2.1 e.2.2) = true := by decide +kernel
set_option maxRecDepth 100000 in
theorem bln_6 : ∀ t ∈ bT_6, t.all (fun e => blen e.2.1 e.2.2) = true := by decide +kernel
set_option maxRecDepth 100000 in
theorem bln_7 : ∀ t ∈ bT_7, t.all (fun e => blen e.2.1 e.2.2) = true := by decide +kernel
set_option maxRecDepth 100000 in
theorem bln_8 : ∀ t ∈ bT_8, t.all (fun e => blen e.2.1 e.2.2) = true := by decide +kernel
set_option maxRecDepth 100000 in
theorem bln_9 : ∀ t ∈ bT_9, t.all (fun e => blen e.2.1 e.2.2) = true := by decide +kernel
set_option maxRecDepth 100000 in
theorem bln_10 : ∀ t ∈ bT_10, t.all (fun e => blen e.2.1 e.2.2) = true := by decide +kernel
set_option maxRecDepth 100000 in
theorem bln_11 : ∀ t ∈ bT_11, t.all (fun e => blen e.2.1 e.2.2) = true := by decide +kernel
set_option maxRecDepth 100000 in
theorem bln_12 : ∀ t ∈ bT_12, t.all (fun e => blen e.2.1 e.2.2) = true := by decide +kernel
set_option maxRecDepth 100000 in
theorem bln_13 : ∀ t ∈ bT_13, t.all (fun e => blen e.2.1 e.2.2) = true := by decide +kernel
set_option maxRecDepth 100000 in
theorem bln_14 : ∀ t ∈ bT_14, t.all (fun e => blen e.2.1 e.2.2) = true := by decide +kernel
theorem bln : ∀ t ∈ bTt, t.all (fun e => blen e.2.1 e.2.2) = true := List.forall_mem_append.mpr ⟨bln_0, List.forall_mem_append.mpr ⟨bln_1, List.forall_mem_append.mpr ⟨bln_2, List.forall_mem_append.mpr ⟨bln_3, List.forall_mem_append.mpr ⟨bln_4, List.forall_mem_append.mpr ⟨bln_5, List.forall_mem_append.mpr ⟨bln_6, List.forall_mem_append.mpr ⟨bln_7, List.forall_mem_append.mpr ⟨bln_8, List.forall_mem_append.mpr ⟨bln_9, List.forall_mem_append.mpr ⟨bln_10, List.forall_mem_append.mpr ⟨bln_11, List.forall_mem_append.mpr ⟨bln_12, List.forall_mem_append.mpr ⟨bln_13, bln_14⟩⟩⟩⟩⟩⟩⟩⟩⟩⟩⟩⟩⟩⟩
theorem ins_len {k pc : Nat} {x : Instr} {n : Nat} (h : ins k pc = some (x, n)) : blen x n = true := by
  unfold ins at h
  cases ht : bTt[k]? with
  | none => rw [ht] at h; cases h
  | some l =>
    rw [ht] at h
    cases hf : l.find? (fun e => e.1 == pc) with
    | none => simp only [hf] at h; cases h
    | some e =>
      simp only [hf] at h
      have he := List.mem_of_find?_eq_some hf
      have h3 := List.all_eq_true.mp (bln l (List.mem_of_getElem? ht)) _ he
      rw [Option.some.inj h] at h3
      exact h3
