/-! THE LAW: its loop -/
section M20e
variable {d : Nat}
theorem lt7 : ∀ a, a < 7 → ∀ b, b < 7 → nI a - 7 < nI b := by decide
theorem lt18 {l i : Nat} (hl : l < 2 ^ 31) (hi : i ≤ l) (g : l < i + 7) : nI l - 7 < nI i := by
  by_cases h : l < 7
  · exact lt7 l h i (by omega)
  · rw [show nI l - 7 = nI (l - 7) from qI_sub (b := 7) (by omega), qI_lt (by omega) (by omega)]
    omega
theorem lt18n {l i : Nat} (hl : l < 2 ^ 31) (g : ¬ l < i + 7) : ¬ nI l - 7 < nI i := by
  rw [show nI l - 7 = nI (l - 7) from qI_sub (b := 7) (by omega), qI_lt (by omega) (by omega)]
  omega
theorem law_go (hd : 31 ≤ d) : ∀ (n i : Nat) (S : bSt), bROl S 36 - i ≤ n → i ≤ bROl S 36 → bROl S 36 < 2 ^ 31 → REL S → Wp d 266 18 (Lf i) [] S (fun q _ => q = some (vI 1)) := by
  intro n
  induction n using Nat.strongRecOn with
  | _ n ih =>
    intro i S hn hi hl hR
    refine (L_18).mpr ?_
    by_cases g : bROl S 36 < i + 7
    · rw [if_pos (lt18 hl hi g)]
      refine (L_1094).mpr ?_
      exact rfl
    rw [if_neg (lt18n hl g)]
    refine (L_27 (by omega) hl).mpr ?_
    have next : ∀ S2, REL S2 → (∀ i j m, S2 36 i j m = S 36 i j m) → Wp d 266 1088 (Lf i) [] S2 (fun q _ => q = some (vI 1)) := by
      intro S2 hR2 h36
      have e : bROl S2 36 = bROl S 36 := by unfold bROl; rw [h36]
      refine (L_1088).mpr ?_
      exact ih (bROl S2 36 - (i + 7)) (by omega) (i + 7) S2 (Nat.le_refl _) (by omega) (by omega) hR2
    have hd' : 30 ≤ d - 1 := by omega
    have stp : ∀ {kc kr t : Nat} {as : List bV}, twoC (d - 1) kc kr as S → (∀ {S1 S2 : bSt} {r : Int32}, Ret (d - 1) kc (vR 0 0 0 :: as) S (some (vI r)) S1 → Ret (d - 1) kr (vR 40 0 0 :: as) S1 (some (vI r)) S2 → (∀ i j m, S1 36 i j m = S 36 i j m) → Wp d 266 1088 (Lf i) [] S2 (fun q _ => q = some (vI 1)) → Wp d 266 t (Lf i) [] S (fun q _ => q = some (vI 1))) → Wp d 266 t (Lf i) [] S (fun q _ => q = some (vI 1)) := by
      rintro kc kr t as ⟨r, S1, S2, h1, h2, hR2, k1, k2⟩ f
      exact f h1 h2 k1 (next S2 hR2 k2)
    have hn7 : i + 7 ≤ bROl S 36 := by omega
    have h0 : 0 < d := by omega
    refine X_266_33 ?_ ?_ ?_ ?_ ?_ ?_ ?_ ?_ ?_ ?_ ?_ ?_ ?_ ?_ ?_ ?_ ?_ ?_ ?_ ?_ ?_ ?_ ?_ ?_ ?_ ?_ ?_ ?_ ?_ ?_ ?_ ?_ ?_ ?_ (next S hR (fun _ _ _ => rfl))
    · exact stp (T_0 hR hd') (fun h1 h2 hk hq => L_184 h0 hn7 hl hk h1 h2 hq)
    · exact stp (T_1 hR hd') (fun h1 h2 hk hq => L_217 h0 hn7 hl hk h1 h2 hq)
    · exact stp (T_2 hR hd') (fun h1 h2 hk hq => L_292 h0 hn7 hl hk h1 h2 hq)
    · exact stp (T_3 hR hd') (fun h1 h2 hk hq => L_335 h0 hn7 hl hk h1 h2 hq)
    · exact stp (T_4 hR hd') (fun h1 h2 hk hq => L_368 h0 hn7 hl hk h1 h2 hq)
    · exact stp (T_5 hR hd') (fun h1 h2 hk hq => L_401 h0 hn7 hl hk h1 h2 hq)
    · exact stp (T_6 hR hd') (fun h1 h2 hk hq => L_424 h0 hn7 hl hk h1 h2 hq)
    · exact stp (T_7 hR hd') (fun h1 h2 hk hq => L_447 h0 hn7 hl hk h1 h2 hq)
    · exact stp (T_8 hR hd') (fun h1 h2 hk hq => L_470 h0 hn7 hl hk h1 h2 hq)
    · exact stp (T_9 hR hd') (fun h1 h2 hk hq => L_503 h0 hn7 hl hk h1 h2 hq)
    · exact stp (T_10 hR hd') (fun h1 h2 hk hq => L_526 h0 hn7 hl hk h1 h2 hq)
    · exact stp (T_11 hR hd') (fun h1 h2 hk hq => L_549 h0 hn7 hl hk h1 h2 hq)
    · exact stp (T_12 hR hd') (fun h1 h2 hk hq => L_582 h0 hn7 hl hk h1 h2 hq)
    · exact stp (T_13 hR hd') (fun h1 h2 hk hq => L_605 h0 hn7 hl hk h1 h2 hq)
    · exact stp (T_14 hR hd') (fun h1 h2 hk hq => L_618 h0 hn7 hl hk h1 h2 hq)
    · exact stp (T_15 hR hd') (fun h1 h2 hk hq => L_641 h0 hn7 hl hk h1 h2 hq)
    · exact stp (T_16 hR hd') (fun h1 h2 hk hq => L_674 h0 hn7 hl hk h1 h2 hq)
    · exact stp (T_17 hR hd') (fun h1 h2 hk hq => L_707 h0 hn7 hl hk h1 h2 hq)
    · exact stp (T_18 hR hd') (fun h1 h2 hk hq => L_740 h0 hn7 hl hk h1 h2 hq)
    · exact stp (T_19 hR hd') (fun h1 h2 hk hq => L_773 h0 hn7 hl hk h1 h2 hq)
    · exact stp (T_20 hR hd') (fun h1 h2 hk hq => L_806 h0 hn7 hl hk h1 h2 hq)
    · exact stp (T_21 hR hd') (fun h1 h2 hk hq => L_829 h0 hn7 hl hk h1 h2 hq)
    · exact stp (T_22 hR hd') (fun h1 h2 hk hq => L_852 h0 hn7 hl hk h1 h2 hq)
    · exact stp (T_23 hR hd') (fun h1 h2 hk hq => L_875 h0 hn7 hl hk h1 h2 hq)
    · exact stp (T_24 hR hd') (fun h1 h2 hk hq => L_888 h0 hn7 hl hk h1 h2 hq)
    · exact stp (T_25 hR hd') (fun h1 h2 hk hq => L_911 h0 hn7 hl hk h1 h2 hq)
    · exact stp (T_26 hR hd') (fun h1 h2 hk hq => L_934 h0 hn7 hl hk h1 h2 hq)
    · exact stp (T_27 hR hd') (fun h1 h2 hk hq => L_957 h0 hn7 hl hk h1 h2 hq)
    · exact stp (T_28 hR hd') (fun h1 h2 hk hq => L_990 h0 hn7 hl hk h1 h2 hq)
    · exact stp (T_29 hR hd') (fun h1 h2 hk hq => L_1003 h0 hn7 hl hk h1 h2 hq)
    · exact stp (T_30 hR hd') (fun h1 h2 hk hq => L_1026 h0 hn7 hl hk h1 h2 hq)
    · exact stp (T_31 hR hd') (fun h1 h2 hk hq => L_1039 h0 hn7 hl hk h1 h2 hq)
    · exact stp (T_32 hR hd') (fun h1 h2 hk hq => L_1052 h0 hn7 hl hk h1 h2 hq)
    · exact stp (T_33 hR hd') (fun h1 h2 hk hq => L_1065 h0 hn7 hl hk h1 h2 hq)
end M20e
