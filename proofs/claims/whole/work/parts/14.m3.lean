/-! THE MODEL's methods, 3: what writes the row -/
/-- the memory with another row of numbers -/
def sN (S : bSt) (N : NV) : bSt := fun k i j => if k = 41 ∧ i = 0 ∧ j = 0 then N else S k i j
theorem sN_41 (S : bSt) (N : NV) : sN S N 41 0 0 = N := by simp [sN]
theorem sN_k (S : bSt) (N : NV) {k i j : Nat} (h : k ≠ 41) : sN S N k i j = S k i j := by simp [sN, h]
theorem sN_sN (S : bSt) (N M : NV) : sN (sN S N) M = sN S M := by
  funext k i j
  unfold sN
  split <;> rfl
theorem sN_id (S : bSt) : sN S (S 41 0 0) = S := by
  funext k i j
  unfold sN
  split
  · rename_i h
    obtain ⟨rfl, rfl, rfl⟩ := h
    rfl
  · rfl
theorem sUp_sN (S : bSt) (N : NV) (n : Nat) (x : Int32) : sUp (sN S N) 41 0 0 n x = sN S (upd N n x) := by
  funext k i j m
  unfold sUp sN upd
  by_cases h : k = 41 ∧ i = 0 ∧ j = 0
  · obtain ⟨rfl, rfl, rfl⟩ := h
    simp
  · rw [if_neg h, if_neg (fun q => h ⟨q.1, q.2.1, q.2.2.1⟩), if_neg h]
theorem sUp_sN0 (S : bSt) (n : Nat) (x : Int32) : sUp S 41 0 0 n x = sN S (upd (S 41 0 0) n x) := by
  have := sUp_sN S (S 41 0 0) n x
  rwa [sN_id] at this
/-- a row copied, as far as n -/
def sRow (S : bSt) (k i j n : Nat) (f : NV) : bSt := fun k' i' j' m => if k' = k ∧ i' = i ∧ j' = j ∧ m < n then f m else S k' i' j' m
theorem sRow_0 (S : bSt) (k i j : Nat) (f : NV) : sRow S k i j 0 f = S := by
  funext k' i' j' m
  unfold sRow
  rw [if_neg]
  rintro ⟨-, -, -, h⟩
  omega
theorem sRow_succ (S : bSt) (k i j n : Nat) (f : NV) {x : Int32} (hx : x = f n) : sUp (sRow S k i j n f) k i j n x = sRow S k i j (n + 1) f := by
  subst hx
  funext k' i' j' m
  unfold sUp sRow
  by_cases h : k' = k ∧ i' = i ∧ j' = j
  · obtain ⟨rfl, rfl, rfl⟩ := h
    by_cases h1 : m = n
    · subst h1
      simp
    · by_cases h2 : m < n
      · simp [h1, h2, Nat.lt_succ_of_lt h2]
      · have : ¬ m < n + 1 := by omega
        simp [h1, h2, this]
  · rw [if_neg (fun q => h ⟨q.1, q.2.1, q.2.2.1⟩), if_neg (fun q => h ⟨q.1, q.2.1, q.2.2.1⟩), if_neg (fun q => h ⟨q.1, q.2.1, q.2.2.1⟩)]
theorem sRow_k (S : bSt) {k i j n k' i' j' : Nat} (f : NV) (h : k' ≠ k) : sRow S k i j n f k' i' j' = S k' i' j' := by
  funext m
  simp [sRow, h]
theorem sRow_in (S : bSt) {k i j n m : Nat} (f : NV) (h : m < n) : sRow S k i j n f k i j m = f m := by simp [sRow, h]
theorem sRow_out (S : bSt) {k i j n m : Nat} (f : NV) (h : n ≤ m) : sRow S k i j n f k i j m = S k i j m := by simp [sRow, Nat.not_lt.mpr h]
section M3
variable {d : Nat} {S : bSt}
theorem c_keepBefore : Ret d 138 [vR 40 0 0] S none (sRow S 44 0 0 282 (S 41 0 0)) := by
  refine E_138 ?_
  refine (B_138_0).mpr ?_
  have h0 := sRow_0 S 44 0 0 (S 41 0 0)
  conv => arg 6; rw [← h0]
  refine wloop 282 (fun m => [some (vR 40 0 0), some (vI (nI m))]) (fun m => sRow S 44 0 0 m (S 41 0 0)) ?_ ?_
  · refine (B_138_2).mpr ?_
    rw [if_pos (by exact Int32.le_refl _)]
    refine (B_138_27).mpr ?_
    exact ⟨rfl, rfl⟩
  · intro m hm hn
    refine (B_138_2).mpr ?_
    rw [if_neg (by rw [show (282 : Int32) = nI 282 from rfl, qI_le (by omega) (by omega)]; omega)]
    refine (B_138_9 (n1_ := m) (n2_ := m) rfl hm rfl hm).mpr ?_
    rw [qI_succ, sRow_succ _ _ _ _ _ _ (by rw [sRow_k _ _ (by decide)])]
    exact hn
theorem c_goesBack : Ret d 139 [vR 40 0 0] S none (sRow S 41 0 0 282 (S 44 0 0)) := by
  refine E_139 ?_
  refine (B_139_0).mpr ?_
  have h0 := sRow_0 S 41 0 0 (S 44 0 0)
  conv => arg 6; rw [← h0]
  refine wloop 282 (fun m => [some (vR 40 0 0), some (vI (nI m))]) (fun m => sRow S 41 0 0 m (S 44 0 0)) ?_ ?_
  · refine (B_139_2).mpr ?_
    rw [if_pos (by exact Int32.le_refl _)]
    refine (B_139_27).mpr ?_
    exact ⟨rfl, rfl⟩
  · intro m hm hn
    refine (B_139_2).mpr ?_
    rw [if_neg (by rw [show (282 : Int32) = nI 282 from rfl, qI_le (by omega) (by omega)]; omega)]
    refine (B_139_9 (n1_ := m) (n2_ := m) rfl hm rfl hm).mpr ?_
    rw [qI_succ, sRow_succ _ _ _ _ _ _ (by rw [sRow_k _ _ (by decide)])]
    exact hn
/-- the past, shifted by a row as far as n -/
def sSh (S : bSt) (n : Nat) : bSt := fun k i j m => if k = 42 ∧ i = 0 ∧ j = 0 ∧ m < n then S 42 0 0 (m + 282) else S k i j m
/-- remember: the row kept before comes behind the past, whose first one goes if there are eight -/
def sRem0 (S : bSt) (c : Nat) : bSt := fun k i j m => if k = 42 ∧ i = 0 ∧ j = 0 ∧ 282 * c ≤ m ∧ m < 282 * c + 282 then S 44 0 0 (m - 282 * c) else if k = 40 ∧ i = 0 ∧ j = 0 ∧ m = 2 then nI (c + 1) else S k i j m
def sRem (S : bSt) (c : Nat) : bSt := if c = 8 then sRem0 (sSh S 1974) 7 else sRem0 S c
theorem c_rem_tail {c : Nat} (hc : c < 8) (h2 : S 40 0 0 2 = nI c) {u1 : Option bV} {Q : Option bV → bSt → Prop} (hQ : Q none (sRem0 S c)) : Wp d 140 55 [some (vR 40 0 0), u1] [] S Q := by
  refine (B_140_55).mpr ?_
  have h0 : sRow S 42 0 0 0 (S 44 0 0) = S := sRow_0 S 42 0 0 (S 44 0 0)
  let T : Nat → bSt := fun n => fun k i j m => if k = 42 ∧ i = 0 ∧ j = 0 ∧ 282 * c ≤ m ∧ m < 282 * c + n then S 44 0 0 (m - 282 * c) else S k i j m
  have hT0 : T 0 = S := by
    funext k i j m
    show (if _ then _ else _) = _
    rw [if_neg]
    rintro ⟨-, -, -, h1, h2⟩
    omega
  have hTk : ∀ n k' i' j' m', k' ≠ 42 → T n k' i' j' m' = S k' i' j' m' := by
    intro n k' i' j' m' hk
    show (if _ then _ else _) = _
    rw [if_neg (fun q => hk q.1)]
  have hTs : ∀ n, sUp (T n) 42 0 0 (282 * c + n) (S 44 0 0 n) = T (n + 1) := by
    intro n
    funext k i j m
    show (if _ then _ else (if _ then _ else _)) = (if _ then _ else _)
    by_cases h : k = 42 ∧ i = 0 ∧ j = 0
    · obtain ⟨rfl, rfl, rfl⟩ := h
      by_cases h1 : m = 282 * c + n
      · subst h1
        rw [if_pos ⟨rfl, rfl, rfl, rfl⟩, if_pos ⟨rfl, rfl, rfl, by omega, by omega⟩]
        rw [Nat.add_sub_cancel_left]
      · rw [if_neg (fun q => h1 q.2.2.2)]
        by_cases h3 : 282 * c ≤ m ∧ m < 282 * c + n
        · rw [if_pos ⟨rfl, rfl, rfl, h3⟩, if_pos ⟨rfl, rfl, rfl, h3.1, by omega⟩]
        · rw [if_neg (fun q => h3 q.2.2.2), if_neg]
          rintro ⟨-, -, -, q1, q2⟩
          exact h3 ⟨q1, by omega⟩
    · rw [if_neg (fun q => h ⟨q.1, q.2.1, q.2.2.1⟩), if_neg (fun q => h ⟨q.1, q.2.1, q.2.2.1⟩), if_neg (fun q => h ⟨q.1, q.2.1, q.2.2.1⟩)]
  have key := wloop (d := d) (k := 140) (pc := 57) (Q := Q) 282 (fun m => [some (vR 40 0 0), some (vI (nI m))]) T ?_ ?_
  · rw [hT0] at key
    exact key
  · refine (B_140_57).mpr ?_
    rw [if_pos (by exact Int32.le_refl _)]
    refine (B_140_91).mpr ?_
    have e : sUp (T 282) 40 0 0 2 (T 282 40 0 0 2 + 1) = sRem0 S c := by
      rw [hTk _ _ _ _ _ (by decide), h2, qI_succ]
      funext k i j m
      show (if _ then _ else (if _ then _ else _)) = (if _ then _ else (if _ then _ else _))
      by_cases h : k = 40 ∧ i = 0 ∧ j = 0 ∧ m = 2
      · obtain ⟨rfl, rfl, rfl, rfl⟩ := h
        rw [if_pos ⟨rfl, rfl, rfl, rfl⟩, if_neg (fun q => absurd q.1 (by decide)), if_pos ⟨rfl, rfl, rfl, rfl⟩]
      · rw [if_neg h, if_neg h]
    rw [e]
    exact hQ
  · intro m hm hn
    refine (B_140_57).mpr ?_
    rw [if_neg (by rw [show (282 : Int32) = nI 282 from rfl, qI_le (by omega) (by omega)]; omega)]
    refine (B_140_64 (n1_ := m) (n2_ := 282 * c + m) rfl hm (by rw [hTk _ _ _ _ _ (by decide), h2]; first | rfl | (simp only [qI_add, qI_mul, qI_lits]; done) | (simp only [qI_add, qI_mul, qI_lits]; grind)) (by omega)).mpr ?_
    rw [qI_succ, hTk _ _ _ _ _ (by decide), hTs]
    exact hn
theorem c_remember {c : Nat} (hc : c ≤ 8) (h2 : S 40 0 0 2 = nI c) : Ret d 140 [vR 40 0 0] S none (sRem S c) := by
  refine E_140 ?_
  refine (B_140_0).mpr ?_
  by_cases h8 : c = 8
  · subst h8
    rw [if_pos (by rw [h2]; rfl)]
    refine (B_140_9).mpr ?_
    have e7 : S 40 0 0 2 - 1 = nI 7 := by rw [h2]; rfl
    rw [e7]
    let T : Nat → bSt := fun n => sUp (sSh S n) 40 0 0 2 (nI 7)
    have hT2 : ∀ n, T n 40 0 0 2 = nI 7 := fun n => sUp_same
    have hT0 : T 0 = sUp S 40 0 0 2 (nI 7) := by
      have : sSh S 0 = S := by
        funext k i j m
        show (if _ then _ else _) = _
        rw [if_neg]
        rintro ⟨-, -, -, h⟩
        omega
      show sUp (sSh S 0) 40 0 0 2 (nI 7) = _
      rw [this]
    have hTr : ∀ n m, n ≤ m → T n 42 0 0 m = S 42 0 0 m := by
      intro n m h
      show sUp (sSh S n) 40 0 0 2 (nI 7) 42 0 0 m = _
      rw [sUp_kind (by decide)]
      show (if _ then _ else _) = _
      rw [if_neg]
      rintro ⟨-, -, -, q⟩
      omega
    have hTs : ∀ n, sUp (T n) 42 0 0 n (S 42 0 0 (n + 282)) = T (n + 1) := by
      intro n
      funext k i j m
      show sUp (sUp (sSh S n) 40 0 0 2 (nI 7)) 42 0 0 n _ k i j m = sUp (sSh S (n + 1)) 40 0 0 2 (nI 7) k i j m
      unfold sUp sSh
      by_cases h : k = 42 ∧ i = 0 ∧ j = 0
      · obtain ⟨rfl, rfl, rfl⟩ := h
        by_cases h1 : m = n
        · subst h1
          simp
        · by_cases h3 : m < n
          · have : m < n + 1 := by omega
            simp [h1, h3, this]
          · have : ¬ m < n + 1 := by omega
            simp [h1, h3, this]
      · rw [if_neg (fun q => h ⟨q.1, q.2.1, q.2.2.1⟩)]
        by_cases h4 : k = 40 ∧ i = 0 ∧ j = 0 ∧ m = 2
        · rw [if_pos h4, if_pos h4]
        · rw [if_neg h4, if_neg h4, if_neg (fun q => h ⟨q.1, q.2.1, q.2.2.1⟩), if_neg (fun q => h ⟨q.1, q.2.1, q.2.2.1⟩)]
    rw [← hT0]
    refine wloop 1974 (fun m => [some (vR 40 0 0), some (vI (nI m))]) T ?_ ?_
    · refine (B_140_21).mpr ?_
      rw [hT2, if_pos (by exact Int32.le_refl _)]
      refine c_rem_tail (c := 7) (by decide) (hT2 _) ⟨rfl, ?_⟩
      unfold sRem
      rw [if_pos rfl]
      funext k i j m
      show (if _ then _ else (if _ then _ else _)) = (if _ then _ else (if _ then _ else _))
      by_cases h : k = 42 ∧ i = 0 ∧ j = 0 ∧ 282 * 7 ≤ m ∧ m < 282 * 7 + 282
      · rw [if_pos h, if_pos h]
        show sUp (sSh S 1974) 40 0 0 2 (nI 7) 44 0 0 _ = _
        rw [sUp_kind (by decide)]
      · rw [if_neg h, if_neg h]
        by_cases h4 : k = 40 ∧ i = 0 ∧ j = 0 ∧ m = 2
        · rw [if_pos h4, if_pos h4]
        · rw [if_neg h4, if_neg h4]
          show sUp (sSh S 1974) 40 0 0 2 (nI 7) k i j m = _
          unfold sUp
          rw [if_neg h4]
    · intro m hm hn
      refine (B_140_21).mpr ?_
      rw [hT2, show (282 : Int32) * nI 7 = nI 1974 from rfl, if_neg (by rw [qI_le (by omega) (by omega)]; omega)]
      refine (B_140_33 (n1_ := m + 282) (n2_ := m) (by first | rfl | (simp only [qI_add, qI_mul, qI_lits]; done) | (simp only [qI_add, qI_mul, qI_lits]; grind)) (by omega) rfl (by omega)).mpr ?_
      rw [qI_succ, hTr m (m + 282) (by omega), hTs]
      exact hn
  · have hc8 : c < 8 := by omega
    rw [if_neg (by rw [h2, show (8 : Int32) = nI 8 from rfl, qI_eq (by omega) (by omega)]; exact h8)]
    refine c_rem_tail hc8 h2 ⟨rfl, ?_⟩
    unfold sRem
    rw [if_neg h8]
end M3
