/-! THE LAW: each call keeps it -/
section M20c
variable {d : Nat} {S : bSt} {x1 x2 x3 x4 x5 x6 : Int32}
theorem Wm_mono {k : Nat} {as : List bV} {Q Q' : Option bV → bSt → Prop} (h : Wm d k as S Q) (g : ∀ q S', Q q S' → Q' q S') : Wm d k as S Q' := by
  obtain ⟨n, hn⟩ := h
  exact ⟨n, bwp_mono hn g⟩
theorem REL_q (hR : REL S) : PR S 0 (S 41 0 0) ∧ WF (S 41 0 0) := by
  obtain ⟨⟨c, P, hC, -, -⟩, -⟩ := hR
  exact ⟨CS_P hC, CS_W hC⟩
theorem T_0 (hR : REL S) (hd : 30 ≤ d) : twoC d 96 157 [vI x1, vI x2] S :=
  twoC_op hR (fun c P hC => K_set (by omega) hC hR.2.2.2.2.2.1) (fun T c hw hc h2 e => by rw [← e]; exact d_set (by omega) hw hc h2)
theorem T_1 (hR : REL S) (hd : 30 ≤ d) : twoC d 97 162 [vI x1, vI x2, vI x3, vI x4, vI x5, vI x6] S :=
  twoC_op hR (fun c P hC => K_addOrder (by omega) hC) (fun T c hw hc h2 e => by rw [← e]; exact d_addOrder (by omega) hw hc h2)
theorem T_2 (hR : REL S) (hd : 30 ≤ d) : twoC d 98 163 [vI x1, vI x2, vI x3] S :=
  twoC_op hR (fun c P hC => K_addRoll (by omega) hC) (fun T c hw hc h2 e => by rw [← e]; exact d_addRoll (by omega) hw hc h2)
theorem T_3 (hR : REL S) (hd : 30 ≤ d) : twoC d 99 165 [vI x1, vI x2] S :=
  twoC_q hR (K_order (REL_q hR).1 (REL_q hR).2 (by omega)) (c_order (by omega) (REL_q hR).2.1)
theorem T_4 (hR : REL S) (hd : 30 ≤ d) : twoC d 100 167 [vI x1, vI x2] S :=
  twoC_q hR (K_roll (REL_q hR).1 (REL_q hR).2 (by omega)) (c_roll (by omega) (REL_q hR).2.1)
theorem T_5 (hR : REL S) (hd : 30 ≤ d) : twoC d 101 169 [vI x1] S :=
  twoC_q hR (K_ranked (REL_q hR).1 (REL_q hR).2 (by omega)) (c_ranked (by omega) (REL_q hR).2.1)
theorem T_6 (hR : REL S) (hd : 30 ≤ d) : twoC d 102 173 [vI x1] S := by
  have hw := (REL_q hR).2
  refine twoC_q hR (K_explain (REL_q hR).1 hw (by omega)) (c_explain (by omega) hw.1 (fun o ho => ?_) (fun r hr => ?_))
  · obtain ⟨-, h, -⟩ := hw.2.2.1 o ho
    exact ⟨_, h.1, h.2.1, h.2.2⟩
  · obtain ⟨-, h, -⟩ := hw.2.2.2.1 r hr
    exact ⟨_, h.1, h.2.2⟩
theorem T_8 (hR : REL S) (hd : 30 ≤ d) : twoC d 104 180 [vI x1, vI x2] S :=
  twoC_n hR (fun hP hw => Wm_mono (K_best hP hw (by omega)) (fun q S' h => ⟨h.1, fun k i j m hk => h.2 k i j m (by omega)⟩)) (fun T hw e => by rw [← e]; exact c_best (by omega) hw)
theorem T_9 (hR : REL S) (hd : 30 ≤ d) : twoC d 105 181 [vI x1] S :=
  twoC_n hR (fun hP hw => Wm_mono (K_again hP hw (by omega)) (fun q S' h => ⟨h.1, fun k i j m hk => h.2 k i j m (by omega)⟩)) (fun T hw e => by rw [← e]; exact c_again (by omega) hw)
theorem T_10 (hR : REL S) (hd : 30 ≤ d) : twoC d 106 182 [vI x1] S :=
  twoC_n hR (fun hP hw => Wm_mono (K_patterns hP hw (by omega)) (fun q S' h => ⟨h.1, fun k i j m hk => h.2 k i j m (by omega)⟩)) (fun T hw e => by rw [← e]; exact c_patterns (by omega) hw)
theorem T_11 (hR : REL S) (hd : 30 ≤ d) : twoC d 107 193 [vI x1, vI x2] S :=
  twoC_r (A := fun t tx => aRun tx t (S 41 0 0) x1 x2) hR (fun c P t tx hC hT => K_run (by omega) hC hT) (fun T c t tx hw hc h2 ht h7 h3 h4 _ e => by rw [← e]; exact c_run (by omega) hw hc h2 ht h7 h3 h4)
theorem T_12 (hR : REL S) (hd : 30 ≤ d) : twoC d 108 196 [vI x1] S :=
  twoC_op hR (fun c P hC => K_cut (by omega) hC) (fun T c hw hc h2 e => by rw [← e]; exact c_cut (by omega) hw hc h2)
theorem T_13 (hR : REL S) (hd : 30 ≤ d) : twoC d 109 199 [] S :=
  twoC_op hR (fun c P hC => K_cutAll (by omega) hC) (fun T c hw hc h2 e => by rw [← e]; exact c_cutAll (by omega) hw hc h2)
theorem T_14 (hR : REL S) (hd : 30 ≤ d) : twoC d 110 200 [vI x1] S :=
  twoC_op hR (fun c P hC => K_remove (by omega) hC) (fun T c hw hc h2 e => by rw [← e]; exact c_remove (by omega) hw hc h2)
theorem T_15 (hR : REL S) (hd : 30 ≤ d) : twoC d 111 216 [vI x1, vI x2] S :=
  twoC_q hR (K_made (REL_q hR).1 (REL_q hR).2 (by omega)) (c_made (by omega) (REL_q hR).2)
theorem T_16 (hR : REL S) (hd : 30 ≤ d) : twoC d 112 217 [vI x1, vI x2] S :=
  twoC_q hR (K_position (REL_q hR).1 (REL_q hR).2 (by omega)) (c_position (by omega) (REL_q hR).2)
theorem T_17 (hR : REL S) (hd : 30 ≤ d) : twoC d 113 218 [vI x1, vI x2] S :=
  twoC_q hR (K_setup (REL_q hR).1 (REL_q hR).2 (by omega)) (c_setup (by omega) (REL_q hR).2)
theorem T_18 (hR : REL S) (hd : 30 ≤ d) : twoC d 114 202 [vI x1, vI x2] S :=
  twoC_op hR (fun c P hC => K_swap (by omega) hC) (fun T c hw hc h2 e => by rw [← e]; exact c_swap (by omega) hw hc h2)
theorem T_19 (hR : REL S) (hd : 30 ≤ d) : twoC d 115 203 [vI x1, vI x2] S :=
  twoC_op hR (fun c P hC => K_split (by omega) hC) (fun T c hw hc h2 e => by rw [← e]; exact c_split (by omega) hw hc h2)
theorem T_22 (hR : REL S) (hd : 30 ≤ d) : twoC d 118 224 [vI x1] S :=
  twoC_op hR (fun c P hC => K_arrange (by omega) hC) (fun T c hw hc h2 e => by rw [← e]; exact c_arrange (by omega) hw hc h2)
theorem T_23 (hR : REL S) (hd : 30 ≤ d) : twoC d 119 225 [] S :=
  twoC_n hR (fun hP hw => Wm_mono (K_leastSetups hP hw (by omega)) (fun q S' h => ⟨h.1, fun k i j m hk => h.2 k i j m (by omega)⟩)) (fun T hw e => by rw [← e]; exact c_leastSetups (by omega) hw)
theorem T_24 (hR : REL S) (hd : 30 ≤ d) : twoC d 120 226 [vI x1] S :=
  twoC_op hR (fun c P hC => K_keep (by omega) hC) (fun T c hw hc h2 e => by rw [← e]; exact c_keep (by omega) hw hc h2)
theorem T_26 (hR : REL S) (hd : 30 ≤ d) : twoC d 122 233 [vI x1] S :=
  twoC_q hR (K_account (REL_q hR).1 (REL_q hR).2 (by omega)) (c_account (by omega) (REL_q hR).2)
theorem T_27 (hR : REL S) (hd : 30 ≤ d) : twoC d 123 238 [vI x1, vI x2] S :=
  twoC_q hR (K_grade (REL_q hR).1 (REL_q hR).2 (by omega)) (c_grade (by omega) (REL_q hR).2)
theorem T_28 (hR : REL S) (hd : 30 ≤ d) : twoC d 124 246 [] S :=
  twoC_r (A := fun t tx => aExe tx t (S 41 0 0)) hR (fun c P t tx hC hT => K_execute (by omega) hC hT) (fun T c t tx hw hc h2 ht h7 h3 h4 hm e => by rw [← e]; exact c_execute (by omega) hw hc h2 ht h7 h3 h4 hm)
theorem T_29 (hR : REL S) (hd : 30 ≤ d) : twoC d 125 247 [vI x1] S := by
  refine twoC_q (r := aRsn S x1) hR ?_ (c_reason (by omega))
  have h := K_reason (d := d) (S := S) (x1 := x1)
  have hE := hR.2.2.2.2.1
  rw [hE.1, hE.2] at h
  exact h
theorem T_33 (hR : REL S) (hd : 30 ≤ d) : twoC d 129 251 [vI x1] S := by
  refine twoC_q (r := aCnt S x1) hR ?_ c_count
  have h := K_count (d := d) (S := S) (x1 := x1)
  obtain ⟨⟨c, P, hC, -, h2⟩, -, ⟨t, tx, hT, h7, -⟩, -⟩ := hR
  have e1 : S 0 0 0 11 = S 40 0 0 2 := by
    rw [h2]
    obtain ⟨f, f8, h10, h11, -⟩ := hC
    exact h11
  obtain ⟨⟨p0, p1, p2⟩, -⟩ := CS_P hC
  rw [e1, hT.1, ← h7, p0, p1, p2] at h
  exact h
end M20c
