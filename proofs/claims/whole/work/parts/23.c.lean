/-! THE LAW: the first memory is what the constructors made, cell by cell -/
section M23c
variable {b a33 a34 a35 bx : Nat} {sa sb : Nat → Nat} {D : va_G} {cy : Nat → ClassId} {oq : Value} {L : Nat} {xs : Nat → Int32} {H : Heap}
theorem arrV_cong {c : ClassId} {N : Nat} {f g : Nat → Value} (h : ∀ j, j < N → f j = g j) : arrV c N f = arrV c N g := by
  have e : (fun j : Fin N => f j.val) = fun j : Fin N => g j.val := funext fun j => h j.val j.isLt
  unfold arrV
  rw [e]
theorem fRef_39 {k i j f : Nat} {a : bAd} (hk : k < 33 ∨ 39 < k) (h : fRef k i j f = some a) : a.1 < 33 ∨ 39 < a.1 := by
  unfold fRef at h
  split at h <;> first | (cases h; done) | (cases h; dsimp only; omega) | (split at h <;> first | (cases h; done) | (cases h; dsimp only; omega)) | omega
theorem eRef_39' {k i n : Nat} {v : Int32} {a : bAd} (h : eRef k i n v = some a) : a.1 < 33 ∨ 39 < a.1 := by
  unfold eRef at h
  split at h <;> first | (cases h; done) | (cases h; dsimp only; omega) | (split at h <;> first | (cases h; done) | (cases h; dsimp only; omega))
theorem kCell_ok (hH : kHR D cy b bx kAll H) {k i j : Nat} (h : bok k i j = true) : va_at D vwCl (kAd b a33 a34 a35 bx sa sb k i j, bCell cy (kAd b a33 a34 a35 bx sa sb) oq k i j (bS0 L xs k i j)) H := by
  have hn := bok_ne h
  have hc := kCk_ok h
  rw [kAd_b hn]
  cases he : kAll[kOff k i j]? with
  | none => rw [he] at hc; cases hc
  | some x =>
    rw [he] at hc
    have hat := hH.2 _ _ he
    rcases x with ⟨ci, fs⟩ | ⟨t, N, lx | lx⟩
    · simp only [kCk, Bool.and_eq_true, decide_eq_true_eq] at hc
      obtain ⟨h1, h2⟩ := hc
      rw [bcell_o h1]
      have e : fs.map (kVal b bx) = (List.range (bNF ci)).map fun f => bVal (kAd b a33 a34 a35 bx sa sb) oq (bFv k i j f (bS0 L xs k i j f)) := by
        rw [h2, List.map_map]
        refine List.map_congr_left (fun f _ => ?_)
        show kVal b bx (match fRef k i j f with
          | some a => if a.1 = 39 then kNu else kR (kOff a.1 a.2.1 a.2.2)
          | none => kI (kS0 k f)) = _
        unfold bFv
        cases hr : fRef k i j f with
        | none =>
          show Value.int (kS0 k f) = Value.int (bS0 L xs k i j f)
          rw [bS0_k (by omega)]
        | some a =>
          have ha := fRef_39 hn hr
          show kVal b bx (if a.1 = 39 then kNu else kR (kOff a.1 a.2.1 a.2.2)) = (if a.1 = 39 then oq else .ref (kAd b a33 a34 a35 bx sa sb a.1 a.2.1 a.2.2))
          rw [if_neg (by omega), if_neg (by omega), kAd_b ha]
          rfl
      rw [← e]
      exact hat
    · simp only [kCk, Bool.and_eq_true, decide_eq_true_eq, List.all_eq_true, List.mem_range] at hc
      obtain ⟨⟨⟨-, h1⟩, h2⟩, h3⟩ := hc
      rw [bcell_a h1 h2]
      have hat' : H[b + kOff k i j]? = some (vp_cell (cy t) (N, .inl fun m => lx.getD m 0)) := hat
      show H[b + kOff k i j]? = some (vp_cell (cy t) (N, .inl (bS0 L xs k i j)))
      rw [hat', vp_cell_i, vp_cell_i]
      congr 1
      refine arrV_cong (fun m hm => ?_)
      rw [h3 m hm, bS0_k (by omega)]
    · simp only [kCk, Bool.and_eq_true, decide_eq_true_eq, List.all_eq_true, List.mem_range] at hc
      obtain ⟨⟨⟨-, h1⟩, h2⟩, h3⟩ := hc
      rw [bcell_q h1 (by omega)]
      have hat' : H[b + kOff k i j]? = some (vp_cell (cy t) (N, .inr (.inr (.inr (.inr fun m => (lx.getD m none).map fun n => b + n))))) := hat
      show H[b + kOff k i j]? = some (vp_cell (cy t) (N, .inr (.inr (.inr (.inr fun m => (eRef k i m (bS0 L xs k i j m)).map fun a => kAd b a33 a34 a35 bx sa sb a.1 a.2.1 a.2.2)))))
      rw [hat', vp_cell_q, vp_cell_q]
      congr 1
      refine arrV_cong (fun m hm => ?_)
      rw [h3 m hm, bS0_k (by omega)]
      cases hr : eRef k i m (kS0 k m) with
      | none => rfl
      | some a =>
        show va_rf (some (b + kOff a.1 a.2.1 a.2.2)) = va_rf (some (kAd b a33 a34 a35 bx sa sb a.1 a.2.1 a.2.2))
        rw [kAd_b (eRef_39' hr)]
end M23c
