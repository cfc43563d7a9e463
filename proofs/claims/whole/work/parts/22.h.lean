/-! THE CONSTRUCTORS: their contracts -/
section K22h
variable {l : Launch}
theorem kT_none {dd : Nat} : kTM l dd (fun _ => none) := fun _ _ h => by cases h
theorem kM_up {k dd : Nat} {us : List kE} {T : Nat → Option (List kE)} {stop fuel nl ci : Nat} (hg : kGo T k ci stop fuel nl (us.length - 1) (kSm us - bNF ci) = some us) (hci : kHd us = ci) (hT : kTM l dd T) (hMu : kMul l) (hk : k < 267) (hown : (bCe k).1 < 10) (hin : (bCe k).2.1.name = "<init>") (hret : (bCe k).2.2.2.2.1 = none) (hnl : (bCe k).2.2.2.1 = nl) (h1 : 1 ≤ nl) (hdg : decode (bCe k).2.2.1 stop = .ok (.return_, 1)) : kM l k (dd + 1) us := by
  subst hci
  exact kM_of hk hown hin hret hnl h1 hdg hT hMu hg
theorem kT0_ok (dd : Nat) (hMu : kMul l) : kTM l (dd + 1) kT0 := by
  have h8 : kM l 8 (dd + 1) kC_8 := kM_up kG_8 rfl kT_none hMu (by decide) (by decide +kernel) (by decide +kernel) (by decide +kernel) (by decide +kernel) (by decide) (by decide +kernel)
  have h9 : kM l 9 (dd + 1) kC_9 := kM_up kG_9 rfl kT_none hMu (by decide) (by decide +kernel) (by decide +kernel) (by decide +kernel) (by decide +kernel) (by decide) (by decide +kernel)
  have h63 : kM l 63 (dd + 1) kC_63 := kM_up kG_63 rfl kT_none hMu (by decide) (by decide +kernel) (by decide +kernel) (by decide +kernel) (by decide +kernel) (by decide) (by decide +kernel)
  have h66 : kM l 66 (dd + 1) kC_66 := kM_up kG_66 rfl kT_none hMu (by decide) (by decide +kernel) (by decide +kernel) (by decide +kernel) (by decide +kernel) (by decide) (by decide +kernel)
  have h73 : kM l 73 (dd + 1) kC_73 := kM_up kG_73 rfl kT_none hMu (by decide) (by decide +kernel) (by decide +kernel) (by decide +kernel) (by decide +kernel) (by decide) (by decide +kernel)
  have h0 : kM l 0 (dd + 1) kC_0 := kM_up kG_0 rfl kT_none hMu (by decide) (by decide +kernel) (by decide +kernel) (by decide +kernel) (by decide +kernel) (by decide) (by decide +kernel)
  have h136 : kM l 136 (dd + 1) kC_136 := kM_up kG_136 rfl kT_none hMu (by decide) (by decide +kernel) (by decide +kernel) (by decide +kernel) (by decide +kernel) (by decide) (by decide +kernel)
  intro k us h
  unfold kT0 at h
  by_cases g1 : k = 8
  · rw [if_pos g1] at h; cases h; subst g1; exact ⟨h8, by decide +kernel, by decide +kernel⟩
  rw [if_neg g1] at h
  by_cases g2 : k = 9
  · rw [if_pos g2] at h; cases h; subst g2; exact ⟨h9, by decide +kernel, by decide +kernel⟩
  rw [if_neg g2] at h
  by_cases g3 : k = 63
  · rw [if_pos g3] at h; cases h; subst g3; exact ⟨h63, by decide +kernel, by decide +kernel⟩
  rw [if_neg g3] at h
  by_cases g4 : k = 66
  · rw [if_pos g4] at h; cases h; subst g4; exact ⟨h66, by decide +kernel, by decide +kernel⟩
  rw [if_neg g4] at h
  by_cases g5 : k = 73
  · rw [if_pos g5] at h; cases h; subst g5; exact ⟨h73, by decide +kernel, by decide +kernel⟩
  rw [if_neg g5] at h
  by_cases g6 : k = 0
  · rw [if_pos g6] at h; cases h; subst g6; exact ⟨h0, by decide +kernel, by decide +kernel⟩
  rw [if_neg g6] at h
  by_cases g7 : k = 136
  · rw [if_pos g7] at h; cases h; subst g7; exact ⟨h136, by decide +kernel, by decide +kernel⟩
  rw [if_neg g7] at h
  cases h
theorem kT1_ok (dd : Nat) (hMu : kMul l) : kTM l (dd + 2) kT1 := by
  have h12 : kM l 12 (dd + 2) kC_12 := kM_up kG_12 rfl (kT0_ok dd hMu) hMu (by decide) (by decide +kernel) (by decide +kernel) (by decide +kernel) (by decide +kernel) (by decide) (by decide +kernel)
  have h80 : kM l 80 (dd + 2) kC_80 := kM_up kG_80 rfl (kT0_ok dd hMu) hMu (by decide) (by decide +kernel) (by decide +kernel) (by decide +kernel) (by decide +kernel) (by decide) (by decide +kernel)
  intro k us h
  unfold kT1 at h
  by_cases g1 : k = 12
  · rw [if_pos g1] at h; cases h; subst g1; exact ⟨h12, by decide +kernel, by decide +kernel⟩
  rw [if_neg g1] at h
  by_cases g2 : k = 80
  · rw [if_pos g2] at h; cases h; subst g2; exact ⟨h80, by decide +kernel, by decide +kernel⟩
  rw [if_neg g2] at h
  exact kT0_ok (dd + 1) hMu k us h
theorem kT2_ok (dd : Nat) (hMu : kMul l) : kTM l (dd + 3) kT2 := by
  have h95 : kM l 95 (dd + 3) kC_95 := kM_up kG_95 rfl (kT1_ok dd hMu) hMu (by decide) (by decide +kernel) (by decide +kernel) (by decide +kernel) (by decide +kernel) (by decide) (by decide +kernel)
  intro k us h
  unfold kT2 at h
  by_cases g1 : k = 95
  · rw [if_pos g1] at h; cases h; subst g1; exact ⟨h95, by decide +kernel, by decide +kernel⟩
  rw [if_neg g1] at h
  exact kT1_ok (dd + 1) hMu k us h
end K22h
