/-! THE LAW'S START: the memory at the loop is the typed memory; the loop -/
section M24c
variable {p : Program} {l : Launch} {e : Env} {R : Room} {s : State} {m : MethodId} {args : Array Value} {below : List Frame} {meth : Method} {c : Code} {H : Heap} {locs : List Loc} {Z : State → Prop}
variable {D : va_G} {cy : Nat → ClassId} {L bx : Nat} {xs : Nat → Int32} {a33 a34 a35 : Nat} {sa sb : Nat → Nat} {oq : Value}
theorem kA_fr {b : Nat} : ∀ q, bA (kAd b a33 a34 a35 bx sa sb) q → b ≤ q := by
  rintro q ⟨k, i, j, h, rfl⟩
  rw [kAd_b (bok_ne h)]
  exact Nat.le_add_right _ _
theorem kbHR (hL : L < 2 ^ 31) (hX : va_X bx L xs s s.heap) (hbl : bx < s.heap.size)
    (t3 : va_T .int a33 3 (fun j => .int (([6, 3, 20] : List Int32).getD j 0)) (kFr s) s s.heap) (t4 : va_T .int a34 3 (fun j => .int (([2, 0, 10] : List Int32).getD j 0)) (kFr s) s s.heap) (t5 : va_T .int a35 3 (fun j => .int (([7, 20, 99] : List Int32).getD j 0)) (kFr s) s s.heap)
    (z3 : va_Z "PaperCutter" "FIRST_SETTING" "[I" (.ref a33) (kFr s) s s.heap) (z4 : va_Z "PaperCutter" "LOWEST_SETTING" "[I" (.ref a34) (kFr s) s s.heap) (z5 : va_Z "PaperCutter" "HIGHEST_SETTING" "[I" (.ref a35) (kFr s) s s.heap)
    (zc : va_Z "java/lang/String" "COMPACT_STRINGS" "Z" (.int 1) (kFr s) s s.heap) (zq : va_Z "jdk/internal/util/Preconditions" "SIOOBE_FORMATTER" "Ljava/util/function/BiFunction;" oq (kFr s) s s.heap) (hst : vk_S 6 bTl bTx sa sb (kFr s) s s.heap)
    (hH : kHR D cy s.heap.size bx kAll H) (hS : va_S (kFr s) s.heap H locs) : bHR D cy (kAd s.heap.size a33 a34 a35 bx sa sb) oq (bS0 L xs) s H := by
  have hq : ∀ a : Nat, a < s.heap.size → ¬ kFr s a → H[a]? = s.heap[a]? := hS.2.1
  have hA : ∀ q, bA (kAd s.heap.size a33 a34 a35 bx sa sb) q → kFr s q := kA_fr
  refine ⟨fun k i j hk => kCell_ok hH hk, fun k hk => ?_, ⟨(z3.kept hq).narrow hA, (z4.kept hq).narrow hA, (z5.kept hq).narrow hA⟩, ⟨(zc.kept hq).narrow hA, (zq.kept hq).narrow hA⟩, (hst.kept hq).narrow hA⟩
  have hk9 : k = 33 ∨ k = 34 ∨ k = 35 ∨ k = 36 := by
    simp only [bRO, Bool.or_eq_true, beq_iff_eq] at hk
    omega
  rcases hk9 with rfl | rfl | rfl | rfl
  · exact (t3.kept hq).narrow hA
  · exact (t4.kept hq).narrow hA
  · exact (t5.kept hq).narrow hA
  · obtain ⟨scr, x1, x2, x3, x4, x5⟩ := hX
    have e36 : bROl (bS0 L xs) 36 = L := nI_clamp hL
    rw [e36]
    refine va_T.narrow (A := kFr s) (va_T.kept ⟨scr, x1, x2, x3, Nat.le_of_eq x4.symm, by rw [x4], x5, kFr_not _ hbl⟩ hq) hA
theorem kbKN (ht : ∀ w ∈ tables_1, w.before args s = true) (hK : kKN D cy s) (hev : ∀ i : Nat, i < 6 → (kTm i).eval args s none [] s = some (.ref (sa i))) {b : Nat} : bKN D cy (kAd b a33 a34 a35 bx sa sb) s := by
  refine ⟨hK.1, hK.2.1, fun idx n h => ?_⟩
  unfold bLdc at h
  rw [if_pos rfl] at h
  split at h
  · cases h; exact vk_R.of (ht _ (by decide +kernel)) (hev 0 (by decide))
  · cases h; exact vk_R.of (ht _ (by decide +kernel)) (hev 1 (by decide))
  · cases h; exact vk_R.of (ht _ (by decide +kernel)) (hev 2 (by decide))
  · cases h; exact vk_R.of (ht _ (by decide +kernel)) (hev 3 (by decide))
  · cases h; exact vk_R.of (ht _ (by decide +kernel)) (hev 4 (by decide))
  · cases h; exact vk_R.of (ht _ (by decide +kernel)) (hev 5 (by decide))
  · cases h
theorem law_16 (hL : L < 2 ^ 31) : Wp 40 266 16 [some (vR 36 0 0), some (vR 0 0 0), some (vR 40 0 0), none] [] (bS0 L xs) (fun q _ => q = some (vI 1)) := by
  refine (w_iconst (x := 0) (show ins 266 16 = some (.iconst 0, 1) from by decide +kernel) (by decide)).mpr ?_
  refine (w_istore_n (ls' := Lf 0) (show ins 266 17 = some (.istore_n 3, 1) from by decide +kernel) (by decide) rfl).mpr ?_
  have e36 : bROl (bS0 L xs) 36 = L := nI_clamp hL
  exact law_go (d := 40) (by decide) L 0 (bS0 L xs) (by rw [e36]; exact Nat.le_refl _) (Nat.zero_le _) (by rw [e36]; exact hL) bS0_REL
end M24c
