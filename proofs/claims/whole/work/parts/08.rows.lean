/-! ONE INSTRUCTION, as an equation of Wp -/
section WROW
variable {d k pc : Nat} {ls ls' : List (Option bV)} {st st' : List bV} {S S' : bSt} {Q : Option bV → bSt → Prop} {x y : Int32} {v w : bV} {n n' i0 j0 k0 : Nat}
theorem nI_vp {len : Nat} (h : n < len) (hl : len < 2 ^ 31) : vp_in (nI n) len := nI_in h hl
theorem bLen_lt : ∀ k0 : Nat, bLen k0 < 2 ^ 31 := by
  intro k0
  unfold bLen
  cases h : kArr k0 with
  | none => decide
  | some q =>
    unfold kArr at h
    split at h <;> first | (cases h; done) | (cases h; decide)
theorem w_iconst {c : Int} (hi : ins k pc = some (.iconst c, 1)) (hv : Int32.ofInt c = x) : Wp d k pc ls st S Q ↔ Wp d k (pc + 1) ls (vI x :: st) S Q := by
  subst hv
  exact Wp_step hi rfl trivial
theorem w_bipush {c : Int} (hi : ins k pc = some (.bipush c, 2)) (hv : (Int8.ofInt c).toInt32 = x) : Wp d k pc ls st S Q ↔ Wp d k (pc + 2) ls (vI x :: st) S Q := by
  subst hv
  exact Wp_step hi rfl trivial
theorem w_sipush {c : Int} (hi : ins k pc = some (.sipush c, 3)) (hv : (Int16.ofInt c).toInt32 = x) : Wp d k pc ls st S Q ↔ Wp d k (pc + 3) ls (vI x :: st) S Q := by
  subst hv
  exact Wp_step hi rfl trivial
theorem w_iload_n {c : Fin 4} (hi : ins k pc = some (.iload_n c, 1)) (hl : ls[(c : Nat)]? = some (some (vI x))) : Wp d k pc ls st S Q ↔ Wp d k (pc + 1) ls (vI x :: st) S Q :=
  Wp_step (P := True) hi (by simp [stp, bLd, hl]) trivial
theorem w_iload (hi : ins k pc = some (.iload n, 2)) (hl : ls[n]? = some (some (vI x))) : Wp d k pc ls st S Q ↔ Wp d k (pc + 2) ls (vI x :: st) S Q :=
  Wp_step (P := True) hi (by simp [stp, bLd, hl]) trivial
theorem w_aload_n {c : Fin 4} (hi : ins k pc = some (.aload_n c, 1)) (hl : ls[(c : Nat)]? = some (some (vR k0 i0 j0))) (h9 : k0 ≠ 39) : Wp d k pc ls st S Q ↔ Wp d k (pc + 1) ls (vR k0 i0 j0 :: st) S Q :=
  Wp_step (P := True) hi (by simp [stp, bLd, hl, h9]) trivial
theorem w_aload (hi : ins k pc = some (.aload n, 2)) (hl : ls[n]? = some (some (vR k0 i0 j0))) (h9 : k0 ≠ 39) : Wp d k pc ls st S Q ↔ Wp d k (pc + 2) ls (vR k0 i0 j0 :: st) S Q :=
  Wp_step (P := True) hi (by simp [stp, bLd, hl, h9]) trivial
theorem w_istore_n {c : Fin 4} (hi : ins k pc = some (.istore_n c, 1)) (hn : (c : Nat) < ls.length) (hs : ls.set (c : Nat) (some (vI x)) = ls') : Wp d k pc ls (vI x :: st) S Q ↔ Wp d k (pc + 1) ls' st S Q := by
  subst hs
  exact Wp_step (P := True) hi (by simp [stp, bSv, hn]) trivial
theorem w_istore (hi : ins k pc = some (.istore n, 2)) (hn : n < ls.length) (hs : ls.set n (some (vI x)) = ls') : Wp d k pc ls (vI x :: st) S Q ↔ Wp d k (pc + 2) ls' st S Q := by
  subst hs
  exact Wp_step (P := True) hi (by simp [stp, bSv, hn]) trivial
theorem w_astore_n {c : Fin 4} (hi : ins k pc = some (.astore_n c, 1)) (h9 : k0 ≠ 39) (hn : (c : Nat) < ls.length) (hs : ls.set (c : Nat) (some (vR k0 i0 j0)) = ls') : Wp d k pc ls (vR k0 i0 j0 :: st) S Q ↔ Wp d k (pc + 1) ls' st S Q := by
  subst hs
  exact Wp_step (P := True) hi (by simp [stp, bSv, hn, h9]) trivial
theorem w_astore (hi : ins k pc = some (.astore n, 2)) (h9 : k0 ≠ 39) (hn : n < ls.length) (hs : ls.set n (some (vR k0 i0 j0)) = ls') : Wp d k pc ls (vR k0 i0 j0 :: st) S Q ↔ Wp d k (pc + 2) ls' st S Q := by
  subst hs
  exact Wp_step (P := True) hi (by simp [stp, bSv, hn, h9]) trivial
theorem w_iinc {c : Int} (hi : ins k pc = some (.iinc n c, 3)) (hl : ls[n]? = some (some (vI x))) (hc : Int32.ofInt c = y) (hs : ls.set n (some (vI (x + y))) = ls') : Wp d k pc ls st S Q ↔ Wp d k (pc + 3) ls' st S Q := by
  subst hs; subst hc
  exact Wp_step (P := True) hi (by simp [stp, hl]) trivial
theorem w_iadd (hi : ins k pc = some (.iadd, 1)) : Wp d k pc ls (vI y :: vI x :: st) S Q ↔ Wp d k (pc + 1) ls (vI (x + y) :: st) S Q := Wp_step hi rfl trivial
theorem w_isub (hi : ins k pc = some (.isub, 1)) : Wp d k pc ls (vI y :: vI x :: st) S Q ↔ Wp d k (pc + 1) ls (vI (x - y) :: st) S Q := Wp_step hi rfl trivial
theorem w_imul (hi : ins k pc = some (.imul, 1)) : Wp d k pc ls (vI y :: vI x :: st) S Q ↔ Wp d k (pc + 1) ls (vI (x * y) :: st) S Q := Wp_step hi rfl trivial
theorem w_iand (hi : ins k pc = some (.iand, 1)) : Wp d k pc ls (vI y :: vI x :: st) S Q ↔ Wp d k (pc + 1) ls (vI (x &&& y) :: st) S Q := Wp_step hi rfl trivial
theorem w_ior (hi : ins k pc = some (.ior, 1)) : Wp d k pc ls (vI y :: vI x :: st) S Q ↔ Wp d k (pc + 1) ls (vI (x ||| y) :: st) S Q := Wp_step hi rfl trivial
theorem w_ixor (hi : ins k pc = some (.ixor, 1)) : Wp d k pc ls (vI y :: vI x :: st) S Q ↔ Wp d k (pc + 1) ls (vI (x ^^^ y) :: st) S Q := Wp_step hi rfl trivial
theorem w_ishl (hi : ins k pc = some (.ishl, 1)) : Wp d k pc ls (vI y :: vI x :: st) S Q ↔ Wp d k (pc + 1) ls (vI (x <<< (y &&& 31)) :: st) S Q := Wp_step hi rfl trivial
theorem w_ishr (hi : ins k pc = some (.ishr, 1)) : Wp d k pc ls (vI y :: vI x :: st) S Q ↔ Wp d k (pc + 1) ls (vI (x >>> (y &&& 31)) :: st) S Q := Wp_step hi rfl trivial
theorem w_idiv (hi : ins k pc = some (.idiv, 1)) (h0 : ¬ y = 0) : Wp d k pc ls (vI y :: vI x :: st) S Q ↔ Wp d k (pc + 1) ls (vI (x / y) :: st) S Q := Wp_step hi rfl h0
theorem w_irem (hi : ins k pc = some (.irem, 1)) (h0 : ¬ y = 0) : Wp d k pc ls (vI y :: vI x :: st) S Q ↔ Wp d k (pc + 1) ls (vI (x - x / y * y) :: st) S Q := Wp_step hi rfl h0
theorem w_i2c (hi : ins k pc = some (.i2c, 1)) : Wp d k pc ls (vI x :: st) S Q ↔ Wp d k (pc + 1) ls (vI (x.toUInt32 % 65536).toInt32 :: st) S Q := Wp_step hi rfl trivial
theorem w_i2l (hi : ins k pc = some (.i2l, 1)) : Wp d k pc ls (vI x :: st) S Q ↔ Wp d k (pc + 1) ls (vL x.toInt64 :: st) S Q := Wp_step hi rfl trivial
theorem w_lmul {a b : Int64} (hi : ins k pc = some (.lmul, 1)) : Wp d k pc ls (vL b :: vL a :: st) S Q ↔ Wp d k (pc + 1) ls (vL (a * b) :: st) S Q := Wp_step hi rfl trivial
theorem w_lcmp {a b : Int64} (hi : ins k pc = some (.lcmp, 1)) : Wp d k pc ls (vL b :: vL a :: st) S Q ↔ Wp d k (pc + 1) ls (vI (lg_cmp a b) :: st) S Q := Wp_step hi rfl trivial
theorem w_dup (hi : ins k pc = some (.dup, 1)) (hc : bCat v = 1) : Wp d k pc ls (v :: st) S Q ↔ Wp d k (pc + 1) ls (v :: v :: st) S Q :=
  Wp_step (P := True) hi (by simp [stp, hc]) trivial
theorem w_dup2 (hi : ins k pc = some (.dup2, 1)) (hc : bCat v = 1) (hw : bCat w = 1) : Wp d k pc ls (v :: w :: st) S Q ↔ Wp d k (pc + 1) ls (v :: w :: v :: w :: st) S Q :=
  Wp_step (P := True) hi (by simp [stp, hc, hw]) trivial
theorem w_pop (hi : ins k pc = some (.pop, 1)) (hc : bCat v = 1) : Wp d k pc ls (v :: st) S Q ↔ Wp d k (pc + 1) ls st S Q :=
  Wp_step (P := True) hi (by simp [stp, hc]) trivial
theorem w_goto {off : Int} {t : Nat} (hi : ins k pc = some (.goto off, 3)) (ht : (pc : Int) + off = (t : Nat)) : Wp d k pc ls st S Q ↔ Wp d k t ls st S Q := by
  have e : bTg pc off = t := by unfold bTg; rw [ht]; rfl
  rw [← e]
  exact Wp_step hi rfl (by rw [ht]; omega)
theorem w_ite {c : Prop} [Decidable c] {b : Bool} {t f : Nat} (hb : b = decide c) : Wp d k (if b = true then t else f) ls st S Q ↔ if c then Wp d k t ls st S Q else Wp d k f ls st S Q := by
  subst hb
  by_cases h : c
  · rw [if_pos h, if_pos (decide_eq_true h)]
  · rw [if_neg h, if_neg (by simp [h])]
theorem w_ifeq {off : Int} {t : Nat} (hi : ins k pc = some (.ifCond .eq off, 3)) (ht : (pc : Int) + off = (t : Nat)) : Wp d k pc ls (vI x :: st) S Q ↔ if x = 0 then Wp d k t ls st S Q else Wp d k (pc + 3) ls st S Q := by
  have e : bTg pc off = t := by unfold bTg; rw [ht]; rfl
  rw [← e, Wp_step hi rfl (by rw [ht]; omega)]
  exact w_ite rfl
theorem w_ifne {off : Int} {t : Nat} (hi : ins k pc = some (.ifCond .ne off, 3)) (ht : (pc : Int) + off = (t : Nat)) : Wp d k pc ls (vI x :: st) S Q ↔ if x = 0 then Wp d k (pc + 3) ls st S Q else Wp d k t ls st S Q := by
  have e : bTg pc off = t := by unfold bTg; rw [ht]; rfl
  rw [← e, Wp_step hi rfl (by rw [ht]; omega)]
  by_cases h : x = 0 <;> simp [bH, h]
theorem w_iflt {off : Int} {t : Nat} (hi : ins k pc = some (.ifCond .lt off, 3)) (ht : (pc : Int) + off = (t : Nat)) : Wp d k pc ls (vI x :: st) S Q ↔ if x < 0 then Wp d k t ls st S Q else Wp d k (pc + 3) ls st S Q := by
  have e : bTg pc off = t := by unfold bTg; rw [ht]; rfl
  rw [← e, Wp_step hi rfl (by rw [ht]; omega)]
  exact w_ite rfl
theorem w_ifge {off : Int} {t : Nat} (hi : ins k pc = some (.ifCond .ge off, 3)) (ht : (pc : Int) + off = (t : Nat)) : Wp d k pc ls (vI x :: st) S Q ↔ if 0 ≤ x then Wp d k t ls st S Q else Wp d k (pc + 3) ls st S Q := by
  have e : bTg pc off = t := by unfold bTg; rw [ht]; rfl
  rw [← e, Wp_step hi rfl (by rw [ht]; omega)]
  exact w_ite rfl
theorem w_ifgt {off : Int} {t : Nat} (hi : ins k pc = some (.ifCond .gt off, 3)) (ht : (pc : Int) + off = (t : Nat)) : Wp d k pc ls (vI x :: st) S Q ↔ if 0 < x then Wp d k t ls st S Q else Wp d k (pc + 3) ls st S Q := by
  have e : bTg pc off = t := by unfold bTg; rw [ht]; rfl
  rw [← e, Wp_step hi rfl (by rw [ht]; omega)]
  exact w_ite rfl
theorem w_ifle {off : Int} {t : Nat} (hi : ins k pc = some (.ifCond .le off, 3)) (ht : (pc : Int) + off = (t : Nat)) : Wp d k pc ls (vI x :: st) S Q ↔ if x ≤ 0 then Wp d k t ls st S Q else Wp d k (pc + 3) ls st S Q := by
  have e : bTg pc off = t := by unfold bTg; rw [ht]; rfl
  rw [← e, Wp_step hi rfl (by rw [ht]; omega)]
  exact w_ite rfl
theorem w_icmpeq {off : Int} {t : Nat} (hi : ins k pc = some (.if_icmp .eq off, 3)) (ht : (pc : Int) + off = (t : Nat)) : Wp d k pc ls (vI y :: vI x :: st) S Q ↔ if x = y then Wp d k t ls st S Q else Wp d k (pc + 3) ls st S Q := by
  have e : bTg pc off = t := by unfold bTg; rw [ht]; rfl
  rw [← e, Wp_step hi rfl (by rw [ht]; omega)]
  exact w_ite rfl
theorem w_icmpne {off : Int} {t : Nat} (hi : ins k pc = some (.if_icmp .ne off, 3)) (ht : (pc : Int) + off = (t : Nat)) : Wp d k pc ls (vI y :: vI x :: st) S Q ↔ if x = y then Wp d k (pc + 3) ls st S Q else Wp d k t ls st S Q := by
  have e : bTg pc off = t := by unfold bTg; rw [ht]; rfl
  rw [← e, Wp_step hi rfl (by rw [ht]; omega)]
  by_cases h : x = y <;> simp [bH, h]
theorem w_icmplt {off : Int} {t : Nat} (hi : ins k pc = some (.if_icmp .lt off, 3)) (ht : (pc : Int) + off = (t : Nat)) : Wp d k pc ls (vI y :: vI x :: st) S Q ↔ if x < y then Wp d k t ls st S Q else Wp d k (pc + 3) ls st S Q := by
  have e : bTg pc off = t := by unfold bTg; rw [ht]; rfl
  rw [← e, Wp_step hi rfl (by rw [ht]; omega)]
  exact w_ite rfl
theorem w_icmpge {off : Int} {t : Nat} (hi : ins k pc = some (.if_icmp .ge off, 3)) (ht : (pc : Int) + off = (t : Nat)) : Wp d k pc ls (vI y :: vI x :: st) S Q ↔ if y ≤ x then Wp d k t ls st S Q else Wp d k (pc + 3) ls st S Q := by
  have e : bTg pc off = t := by unfold bTg; rw [ht]; rfl
  rw [← e, Wp_step hi rfl (by rw [ht]; omega)]
  exact w_ite rfl
theorem w_icmpgt {off : Int} {t : Nat} (hi : ins k pc = some (.if_icmp .gt off, 3)) (ht : (pc : Int) + off = (t : Nat)) : Wp d k pc ls (vI y :: vI x :: st) S Q ↔ if y < x then Wp d k t ls st S Q else Wp d k (pc + 3) ls st S Q := by
  have e : bTg pc off = t := by unfold bTg; rw [ht]; rfl
  rw [← e, Wp_step hi rfl (by rw [ht]; omega)]
  exact w_ite rfl
theorem w_icmple {off : Int} {t : Nat} (hi : ins k pc = some (.if_icmp .le off, 3)) (ht : (pc : Int) + off = (t : Nat)) : Wp d k pc ls (vI y :: vI x :: st) S Q ↔ if x ≤ y then Wp d k t ls st S Q else Wp d k (pc + 3) ls st S Q := by
  have e : bTg pc off = t := by unfold bTg; rw [ht]; rfl
  rw [← e, Wp_step hi rfl (by rw [ht]; omega)]
  exact w_ite rfl
/-- a switch: inside by the place of the offset, outside the default -/
theorem w_switch_in {dd lo hh : Int} {offs : Array Int} {len t m : Nat} (hi : ins k pc = some (.tableswitch dd lo hh offs, len)) (h1 : ¬ x.toInt < lo) (h2 : ¬ hh < x.toInt) (hm : (x.toInt - lo).toNat = m) (h3 : m < offs.size) (ht : (pc : Int) + offs.getD m 0 = (t : Nat)) : Wp d k pc ls (vI x :: st) S Q ↔ Wp d k t ls st S Q := by
  subst hm
  have e : bTg pc (offs.getD (x.toInt - lo).toNat 0) = t := by unfold bTg; rw [ht]; rfl
  have := Wp_step (d := d) (ls := ls) (S := S) (Q := Q) (st := vI x :: st) hi rfl ⟨fun h => (h.elim h1 h2).elim, fun _ _ => ⟨h3, by rw [ht]; omega⟩⟩
  rw [this, if_neg (fun h => h.elim h1 h2), e]
theorem w_switch_out {dd lo hh : Int} {offs : Array Int} {len t : Nat} (hi : ins k pc = some (.tableswitch dd lo hh offs, len)) (h : x.toInt < lo ∨ hh < x.toInt) (ht : (pc : Int) + dd = (t : Nat)) : Wp d k pc ls (vI x :: st) S Q ↔ Wp d k t ls st S Q := by
  have e : bTg pc dd = t := by unfold bTg; rw [ht]; rfl
  have := Wp_step (d := d) (ls := ls) (S := S) (Q := Q) (st := vI x :: st) hi rfl ⟨fun _ => by rw [ht]; omega, fun h1 h2 => (h.elim h1 h2).elim⟩
  rw [this, if_pos h, e]
theorem w_geti {own idx ci f : Nat} {b : Bool} (hi : ins k pc = some (.getfield idx, 3)) (ho : (bCe k).1 = own) (h10 : own ≠ 10) (hf : bF own idx = some (ci, f, b)) (hk : kObj k0 = some ci) (hr : fRef k0 i0 j0 f = none) (hok : bok k0 i0 j0 = true) : Wp d k pc ls (vR k0 i0 j0 :: st) S Q ↔ Wp d k (pc + 3) ls (vI (S k0 i0 j0 f) :: st) S Q := by
  subst ho
  exact Wp_step (P := bok k0 i0 j0 = true) hi (by simp [stp, h10, hf, hk, hr]) hok
theorem w_geta {own idx ci f k1 i1 j1 : Nat} {b : Bool} (hi : ins k pc = some (.getfield idx, 3)) (ho : (bCe k).1 = own) (h10 : own ≠ 10) (hf : bF own idx = some (ci, f, b)) (hk : kObj k0 = some ci) (hr : fRef k0 i0 j0 f = some (k1, i1, j1)) (hok : bok k0 i0 j0 = true) : Wp d k pc ls (vR k0 i0 j0 :: st) S Q ↔ Wp d k (pc + 3) ls (vR k1 i1 j1 :: st) S Q := by
  subst ho
  exact Wp_step (P := bok k0 i0 j0 = true) hi (by simp [stp, h10, hf, hk, hr]) hok
theorem w_putf {own idx ci f : Nat} {b : Bool} (hi : ins k pc = some (.putfield idx, 3)) (ho : (bCe k).1 = own) (hf : bF own idx = some (ci, f, b)) (hk : kObj k0 = some ci) (hr : fRef k0 i0 j0 f = none) (hw : bFw ci f = 1) (hok : bok k0 i0 j0 = true) : Wp d k pc ls (vI x :: vR k0 i0 j0 :: st) S Q ↔ Wp d k (pc + 3) ls st (sUp S k0 i0 j0 f x) Q := by
  subst ho
  exact Wp_step (P := bok k0 i0 j0 = true ∧ (bFw ci f = 2 → x = 0 ∨ x = 1)) hi (by simp [stp, hf, hk, hr, hw]) ⟨hok, fun h => by rw [hw] at h; cases h⟩
theorem w_putz {own idx ci f : Nat} {b : Bool} (hi : ins k pc = some (.putfield idx, 3)) (ho : (bCe k).1 = own) (hf : bF own idx = some (ci, f, b)) (hk : kObj k0 = some ci) (hr : fRef k0 i0 j0 f = none) (hw : bFw ci f = 2) (hok : bok k0 i0 j0 = true) (hx : x = 0 ∨ x = 1) : Wp d k pc ls (vI x :: vR k0 i0 j0 :: st) S Q ↔ Wp d k (pc + 3) ls st (sUp S k0 i0 j0 f x) Q := by
  subst ho
  exact Wp_step (P := bok k0 i0 j0 = true ∧ (bFw ci f = 2 → x = 0 ∨ x = 1)) hi (by simp [stp, hf, hk, hr, hw]) ⟨hok, fun _ => hx⟩
theorem w_iald (hi : ins k pc = some (.iaload, 1)) (ha : bArr k0 0 = true) (hok : bok k0 i0 j0 = true) (hx : x = nI n) (hn : n < bLen k0) : Wp d k pc ls (vI x :: vR k0 i0 j0 :: st) S Q ↔ Wp d k (pc + 1) ls (vI (S k0 i0 j0 n) :: st) S Q := by
  subst hx
  have hl := bLen_lt k0
  have := Wp_step (d := d) (ls := ls) (S := S) (Q := Q) (P := bok k0 i0 j0 = true ∧ vp_in (nI n) (bLen k0)) (st := vI (nI n) :: vR k0 i0 j0 :: st) hi (by simp [stp, bXld, ha]; exact ⟨rfl, rfl, rfl, rfl⟩) ⟨hok, nI_vp hn hl⟩
  rw [nI_clamp (by omega)] at this
  exact this
theorem w_cald (hi : ins k pc = some (.caload, 1)) (ha : bArr k0 1 = true) (hok : bok k0 i0 j0 = true) (hx : x = nI n) (hn : n < bLen k0) : Wp d k pc ls (vI x :: vR k0 i0 j0 :: st) S Q ↔ Wp d k (pc + 1) ls (vI (S k0 i0 j0 n) :: st) S Q := by
  subst hx
  have hl := bLen_lt k0
  have := Wp_step (d := d) (ls := ls) (S := S) (Q := Q) (P := bok k0 i0 j0 = true ∧ vp_in (nI n) (bLen k0)) (st := vI (nI n) :: vR k0 i0 j0 :: st) hi (by simp [stp, bXld, ha]; exact ⟨rfl, rfl, rfl, rfl⟩) ⟨hok, nI_vp hn hl⟩
  rw [nI_clamp (by omega)] at this
  exact this
theorem w_zald (hi : ins k pc = some (.baload, 1)) (ha : bArr k0 2 = true) (hok : bok k0 i0 j0 = true) (hx : x = nI n) (hn : n < bLen k0) : Wp d k pc ls (vI x :: vR k0 i0 j0 :: st) S Q ↔ Wp d k (pc + 1) ls (vI (S k0 i0 j0 n) :: st) S Q := by
  subst hx
  have hl := bLen_lt k0
  have := Wp_step (d := d) (ls := ls) (S := S) (Q := Q) (P := bok k0 i0 j0 = true ∧ vp_in (nI n) (bLen k0)) (st := vI (nI n) :: vR k0 i0 j0 :: st) hi (by simp [stp, bXld, ha]; exact ⟨rfl, rfl, rfl, rfl⟩) ⟨hok, nI_vp hn hl⟩
  rw [nI_clamp (by omega)] at this
  exact this
/-- a static array or the script -/
theorem w_rald (hi : ins k pc = some (.iaload, 1)) (ha : bArr k0 0 = false) (hr : bRO k0 = true) (hx : x = nI n) (hn : n < bROl S k0) (hl : bROl S k0 < 2 ^ 31) : Wp d k pc ls (vI x :: vR k0 0 0 :: st) S Q ↔ Wp d k (pc + 1) ls (vI (S k0 0 0 n) :: st) S Q := by
  subst hx
  have := Wp_step (d := d) (ls := ls) (S := S) (Q := Q) (P := vp_in (nI n) (bROl S k0)) (st := vI (nI n) :: vR k0 0 0 :: st) hi (by simp [stp, bXld, ha, hr]; exact ⟨rfl, rfl, rfl, rfl⟩) (nI_vp hn hl)
  rw [nI_clamp (by omega)] at this
  exact this
theorem w_sbld (hi : ins k pc = some (.baload, 1)) (hx : x = nI n) (h6 : i0 < 6) (hn : n < bTl.getD i0 0) : Wp d k pc ls (vI x :: vR 38 i0 0 :: st) S Q ↔ Wp d k (pc + 1) ls (vI ((bTx.getD i0 []).getD n 0) :: st) S Q := by
  subst hx
  have hl : ∀ i, i < 6 → bTl.getD i 0 < 2 ^ 31 := by decide
  have h31 := hl i0 h6
  have := Wp_step (d := d) (ls := ls) (S := S) (Q := Q) (P := i0 < 6 ∧ vp_in (nI n) (bTl.getD i0 0)) (st := vI (nI n) :: vR 38 i0 0 :: st) hi (show stp (bCe k).1 .baload (pc, ls, vI (nI n) :: vR 38 i0 0 :: st, S) = some (_, pc + 1, ls, vI ((bTx.getD i0 []).getD (nI n).toNatClampNeg 0) :: st, S) from rfl) ⟨h6, nI_vp hn h31⟩
  rw [nI_clamp (by omega)] at this
  exact this
theorem w_iast (hi : ins k pc = some (.iastore, 1)) (ha : bArr k0 0 = true) (hok : bok k0 i0 j0 = true) (hx : x = nI n) (hn : n < bLen k0) : Wp d k pc ls (vI y :: vI x :: vR k0 i0 j0 :: st) S Q ↔ Wp d k (pc + 1) ls st (sUp S k0 i0 j0 n y) Q := by
  subst hx
  have hl := bLen_lt k0
  have := Wp_step (d := d) (ls := ls) (S := S) (Q := Q) (st := vI y :: vI (nI n) :: vR k0 i0 j0 :: st) (P := bok k0 i0 j0 = true ∧ vp_in (nI n) (bLen k0) ∧ ((0 : Nat) = 1 → narrow .char (.int y) = .int y) ∧ ((0 : Nat) = 2 → y = 0 ∨ y = 1)) hi (by simp [stp, bXst, ha]; exact ⟨rfl, rfl, rfl, rfl⟩) ⟨hok, nI_vp hn hl, fun h => (by cases h), fun h => (by cases h)⟩
  rw [nI_clamp (by omega)] at this
  exact this
theorem w_cast (hi : ins k pc = some (.castore, 1)) (ha : bArr k0 1 = true) (hok : bok k0 i0 j0 = true) (hx : x = nI n) (hn : n < bLen k0) (hy : narrow .char (.int y) = .int y) : Wp d k pc ls (vI y :: vI x :: vR k0 i0 j0 :: st) S Q ↔ Wp d k (pc + 1) ls st (sUp S k0 i0 j0 n y) Q := by
  subst hx
  have hl := bLen_lt k0
  have := Wp_step (d := d) (ls := ls) (S := S) (Q := Q) (st := vI y :: vI (nI n) :: vR k0 i0 j0 :: st) (P := bok k0 i0 j0 = true ∧ vp_in (nI n) (bLen k0) ∧ ((1 : Nat) = 1 → narrow .char (.int y) = .int y) ∧ ((1 : Nat) = 2 → y = 0 ∨ y = 1)) hi (by simp [stp, bXst, ha]; exact ⟨rfl, rfl, rfl, rfl⟩) ⟨hok, nI_vp hn hl, fun _ => hy, fun h => (by cases h)⟩
  rw [nI_clamp (by omega)] at this
  exact this
theorem w_zast (hi : ins k pc = some (.bastore, 1)) (ha : bArr k0 2 = true) (hok : bok k0 i0 j0 = true) (hx : x = nI n) (hn : n < bLen k0) (hy : y = 0 ∨ y = 1) : Wp d k pc ls (vI y :: vI x :: vR k0 i0 j0 :: st) S Q ↔ Wp d k (pc + 1) ls st (sUp S k0 i0 j0 n y) Q := by
  subst hx
  have hl := bLen_lt k0
  have := Wp_step (d := d) (ls := ls) (S := S) (Q := Q) (st := vI y :: vI (nI n) :: vR k0 i0 j0 :: st) (P := bok k0 i0 j0 = true ∧ vp_in (nI n) (bLen k0) ∧ ((2 : Nat) = 1 → narrow .char (.int y) = .int y) ∧ ((2 : Nat) = 2 → y = 0 ∨ y = 1)) hi (by simp [stp, bXst, ha]; exact ⟨rfl, rfl, rfl, rfl⟩) ⟨hok, nI_vp hn hl, fun h => (by cases h), fun _ => hy⟩
  rw [nI_clamp (by omega)] at this
  exact this
theorem w_aald {k1 i1 j1 : Nat} (hi : ins k pc = some (.aaload, 1)) (ha : 3 ≤ ((kArr k0).getD (0, 0)).1) (hok : bok k0 i0 j0 = true) (hx : x = nI n) (hn : n < bLen k0) (he : eRef k0 i0 n (S k0 i0 j0 n) = some (k1, i1, j1)) : Wp d k pc ls (vI x :: vR k0 i0 j0 :: st) S Q ↔ Wp d k (pc + 1) ls (vR k1 i1 j1 :: st) S Q := by
  subst hx
  have hl := bLen_lt k0
  exact Wp_step (P := bok k0 i0 j0 = true ∧ vp_in (nI n) (bLen k0)) hi (by simp [stp, ha, nI_clamp (show n < 2 ^ 31 by omega), he]) ⟨hok, nI_vp hn hl⟩
theorem w_aast {k1 i1 j1 : Nat} (hi : ins k pc = some (.aastore, 1)) (ha : bArr k0 5 = true) (hok : bok k0 i0 j0 = true) (hok1 : bok k1 i1 j1 = true) (hx : x = nI n) (hn : n < bLen k0) (he : eCode k0 i0 (k1, i1, j1) = some y) : Wp d k pc ls (vR k1 i1 j1 :: vI x :: vR k0 i0 j0 :: st) S Q ↔ Wp d k (pc + 1) ls st (sUp S k0 i0 j0 n y) Q := by
  subst hx
  have hl := bLen_lt k0
  exact Wp_step (P := bok k0 i0 j0 = true ∧ bok k1 i1 j1 = true ∧ vp_in (nI n) (bLen k0)) hi (by simp [stp, ha, nI_clamp (show n < 2 ^ 31 by omega), he]) ⟨hok, hok1, nI_vp hn hl⟩
theorem w_alen (hi : ins k pc = some (.arraylength, 1)) (ha : (kArr k0).isSome = true) (hok : bok k0 i0 j0 = true) : Wp d k pc ls (vR k0 i0 j0 :: st) S Q ↔ Wp d k (pc + 1) ls (vI (nI (bLen k0)) :: st) S Q :=
  Wp_step (P := bok k0 i0 j0 = true) hi (by simp [stp, ha]; rfl) hok
theorem w_ralen (hi : ins k pc = some (.arraylength, 1)) (ha : (kArr k0).isSome = false) (hr : bRO k0 = true) : Wp d k pc ls (vR k0 0 0 :: st) S Q ↔ Wp d k (pc + 1) ls (vI (nI (bROl S k0)) :: st) S Q :=
  Wp_step (P := True) hi (by simp [stp, ha, hr]; rfl) trivial
theorem w_slen (hi : ins k pc = some (.arraylength, 1)) (h6 : i0 < 6) : Wp d k pc ls (vR 38 i0 0 :: st) S Q ↔ Wp d k (pc + 1) ls (vI (nI (bTl.getD i0 0)) :: st) S Q :=
  Wp_step (P := i0 < 6) hi rfl h6
theorem w_getst {own idx k1 : Nat} (hi : ins k pc = some (.getstatic idx, 3)) (ho : (bCe k).1 = own) (h10 : own ≠ 10) (hs : bSf own idx = some k1) : Wp d k pc ls st S Q ↔ Wp d k (pc + 3) ls (vR k1 0 0 :: st) S Q := by
  subst ho
  exact Wp_step (P := True) hi (by simp [stp, h10, hs]) trivial
theorem w_ldc {own idx m : Nat} (hi : ins k pc = some (.ldc idx, 2)) (ho : (bCe k).1 = own) (hs : bLdc own idx = some m) : Wp d k pc ls st S Q ↔ Wp d k (pc + 2) ls (vR 37 m 0 :: st) S Q := by
  subst ho
  exact Wp_step (P := True) hi (by simp [stp, hs]) trivial
theorem w_copy {idx k1 i1 j1 sp dp m : Nat} {a b c : Int32} (hi : ins k pc = some (.invokestatic idx, 3)) (hac : bAcp (bCe k).1 idx = true) (h0 : bArr k0 0 = true) (h1 : bArr k1 0 = true) (hsum : (st.map bCat).sum ≤ 8) (hok0 : bok k0 i0 j0 = true) (hok1 : bok k1 i1 j1 = true) (hne : ¬ (k0 = k1 ∧ i0 = i1 ∧ j0 = j1)) (ha : a = nI sp) (hb : b = nI dp) (hc : c = nI m) (hs : sp + m ≤ bLen k0) (hd : dp + m ≤ bLen k1) : Wp d k pc ls (vI c :: vI b :: vR k1 i1 j1 :: vI a :: vR k0 i0 j0 :: st) S Q ↔ Wp d k (pc + 3) ls st (sCp S (k0, i0, j0) (k1, i1, j1) sp dp m) Q := by
  subst ha; subst hb; subst hc
  have l0 := bLen_lt k0
  have l1 := bLen_lt k1
  have e1 := nI_clamp (show sp < 2 ^ 31 by omega)
  have e2 := nI_clamp (show dp < 2 ^ 31 by omega)
  have e3 := nI_clamp (show m < 2 ^ 31 by omega)
  have := Wp_step (d := d) (ls := ls) (S := S) (Q := Q) (st := vI (nI m) :: vI (nI dp) :: vR k1 i1 j1 :: vI (nI sp) :: vR k0 i0 j0 :: st) (P := bok k0 i0 j0 = true ∧ bok k1 i1 j1 = true ∧ ¬ (k0, i0, j0) = (k1, i1, j1) ∧ ¬ nI sp < 0 ∧ ¬ nI dp < 0 ∧ ¬ nI m < 0 ∧ (nI sp).toNatClampNeg + (nI m).toNatClampNeg ≤ bLen k0 ∧ (nI dp).toNatClampNeg + (nI m).toNatClampNeg ≤ bLen k1) (pc' := pc + 3) (ls' := ls) (st' := st) (S' := sCp S (k0, i0, j0) (k1, i1, j1) (nI sp).toNatClampNeg (nI dp).toNatClampNeg (nI m).toNatClampNeg) hi (by simp only [stp]; rw [if_pos hac, if_pos ⟨h0, h1, hsum⟩]) ⟨hok0, hok1, fun h => hne (by simpa using h), nI_pos (by omega), nI_pos (by omega), nI_pos (by omega), by rw [e1, e3]; exact hs, by rw [e2, e3]; exact hd⟩
  rw [e1, e2, e3] at this
  exact this
/-- what is decided of a call once -/
def bck1 (k idx k' na : Nat) (sta : Bool) : Bool := (match bC (bCe k).1 idx with
  | some q => q.1 == k'
  | none => false) && (bCe k').2.2.2.2.2.2 == sta && (sta || (bCe k').2.1.name != "<init>") && (bCe k').2.2.2.2.2.1 == na && decide (na ≤ (bCe k').2.2.2.1) && (!sta || !bAcp (bCe k).1 idx)
theorem bck1_spec {k idx k' na : Nat} {sta : Bool} (h : bck1 k idx k' na sta = true) : (∃ b, bC (bCe k).1 idx = some (k', b)) ∧ (bCe k').2.2.2.2.2.2 = sta ∧ (sta = true ∨ (bCe k').2.1.name ≠ "<init>") ∧ (bCe k').2.2.2.2.2.1 = na ∧ na ≤ (bCe k').2.2.2.1 ∧ (sta = false ∨ bAcp (bCe k).1 idx = false) := by
  unfold bck1 at h
  simp only [Bool.and_eq_true, Bool.or_eq_true, bne_iff_ne, ne_eq, beq_iff_eq, decide_eq_true_eq, Bool.not_eq_true'] at h
  obtain ⟨⟨⟨⟨⟨h1, h2⟩, h3⟩, h4⟩, h5⟩, h6⟩ := h
  refine ⟨?_, h2, h3, h4, h5, h6⟩
  cases hb : bC (bCe k).1 idx with
  | none => rw [hb] at h1; cases h1
  | some q =>
    rw [hb] at h1
    obtain ⟨q1, q2⟩ := q
    simp only [beq_iff_eq] at h1
    subst h1
    exact ⟨q2, rfl⟩
theorem bcallS {idx k' : Nat} {as : List bV} (hk : bck1 k idx k' as.length true = true) (hst : st = as.reverse ++ st') (hc : (as.map bCat).sum = as.length) (hs : (st'.map bCat).sum ≤ 8) : bcall (bCe k).1 (.invokestatic idx) (pc, ls, st, S) = some (True, k', as, st') := by
  obtain ⟨⟨b, h1⟩, h2, -, h4, h5, h6⟩ := bck1_spec hk
  subst hst
  have e1 : (as.reverse ++ st').take as.length = as.reverse := by simp
  have e2 : (as.reverse ++ st').drop as.length = st' := by simp
  simp only [bcall, h1, h4, h2, e1, e2]
  rw [if_pos]
  · simp
  · refine ⟨trivial, by simp, by rw [List.map_reverse, List.sum_reverse, hc], h5, hs⟩
theorem bcallV {idx k' : Nat} {As : List bV} (hk : bck1 k idx k' (As.length + 1) false = true) (hst : st = As.reverse ++ vR k0 i0 j0 :: st') (hc : (As.map bCat).sum = As.length) (hs : (st'.map bCat).sum ≤ 8) (hr : (kObj k0 = some (bCe k').1 ∧ bok k0 i0 j0 = true) ∨ (k0 = 37 ∧ (bCe k').1 = 10 ∧ i0 < 6 ∧ j0 = 0)) : bcall (bCe k).1 (.invokevirtual idx) (pc, ls, st, S) = some (True, k', vR k0 i0 j0 :: As, st') := by
  obtain ⟨⟨b, h1⟩, h2, h3, h4, h5, -⟩ := bck1_spec hk
  have h3' : (bCe k').2.1.name ≠ "<init>" := h3.resolve_left (by decide)
  subst hst
  have e0 : As.reverse ++ vR k0 i0 j0 :: st' = (As.reverse ++ [vR k0 i0 j0]) ++ st' := by simp
  have e1 : (As.reverse ++ vR k0 i0 j0 :: st').take (As.length + 1) = As.reverse ++ [vR k0 i0 j0] := by
    rw [e0]
    exact List.take_left' (by simp)
  have e2 : (As.reverse ++ vR k0 i0 j0 :: st').drop (As.length + 1) = st' := by
    rw [e0]
    exact List.drop_left' (by simp)
  simp only [bcall, h1, h4, h2, e1, e2]
  rw [if_pos]
  · simp only [List.reverse_append, List.reverse_cons, List.reverse_nil, List.nil_append, List.reverse_reverse, List.singleton_append]
    rw [if_pos hr]
  · refine ⟨trivial, h3', by simp, ?_, h5, hs⟩
    rw [List.map_append, List.map_reverse, List.sum_append, List.sum_reverse, hc]
    simp [bCat]
theorem w_callS {idx k' : Nat} {as : List bV} (hd : 0 < d) (hi : ins k pc = some (.invokestatic idx, 3)) (hk : bck1 k idx k' as.length true = true) (hst : st = as.reverse ++ st') (hc : (as.map bCat).sum = as.length) (hs : (st'.map bCat).sum ≤ 8) {r : Option bV} (hr : Ret (d - 1) k' as S r S') : Wp d k pc ls st S Q ↔ Wp d k (pc + 3) ls (r.toList ++ st') S' Q := by
  have h6 := (bck1_spec hk).2.2.2.2.2.resolve_left (by decide)
  rw [Wp_call (P := True) (k' := k') (as := as) (st' := st') hd hi (by simp [stp, h6]) rfl (bcallS hk hst hc hs) trivial]
  exact Wm_iff hr _
theorem w_callV {idx k' : Nat} {As : List bV} (hd : 0 < d) (hi : ins k pc = some (.invokevirtual idx, 3)) (hk : bck1 k idx k' (As.length + 1) false = true) (hst : st = As.reverse ++ vR k0 i0 j0 :: st') (hc : (As.map bCat).sum = As.length) (hs : (st'.map bCat).sum ≤ 8) (ho : kObj k0 = some (bCe k').1) (hok : bok k0 i0 j0 = true) {r : Option bV} (hr : Ret (d - 1) k' (vR k0 i0 j0 :: As) S r S') : Wp d k pc ls st S Q ↔ Wp d k (pc + 3) ls (r.toList ++ st') S' Q := by
  rw [Wp_call (P := True) (k' := k') (as := vR k0 i0 j0 :: As) (st' := st') hd hi rfl rfl (bcallV hk hst hc hs (Or.inl ⟨ho, hok⟩)) trivial]
  exact Wm_iff hr _
theorem w_callT {idx k' n0 : Nat} {As : List bV} (hd : 0 < d) (hi : ins k pc = some (.invokevirtual idx, 3)) (hk : bck1 k idx k' (As.length + 1) false = true) (hst : st = As.reverse ++ vR 37 n0 0 :: st') (hc : (As.map bCat).sum = As.length) (hs : (st'.map bCat).sum ≤ 8) (ho : (bCe k').1 = 10) (h6 : n0 < 6) {r : Option bV} (hr : Ret (d - 1) k' (vR 37 n0 0 :: As) S r S') : Wp d k pc ls st S Q ↔ Wp d k (pc + 3) ls (r.toList ++ st') S' Q := by
  rw [Wp_call (P := True) (k' := k') (as := vR 37 n0 0 :: As) (st' := st') hd hi rfl rfl (bcallV hk hst hc hs (Or.inr ⟨rfl, ho, h6, rfl⟩)) trivial]
  exact Wm_iff hr _
theorem w_iret (hi : ins k pc = some (.ireturn, 1)) (ht : (bCe k).2.2.2.2.1 = some .int) : Wp d k pc ls [vI x] S Q ↔ Q (some (vI x)) S :=
  Wp_ret (P := narrow .int (.int x) = .int x) hi rfl (by simp only [bret, ht]) rfl
theorem w_zret (hi : ins k pc = some (.ireturn, 1)) (ht : (bCe k).2.2.2.2.1 = some .boolean) (hx : x = 0 ∨ x = 1) : Wp d k pc ls [vI x] S Q ↔ Q (some (vI x)) S :=
  Wp_ret (P := narrow .boolean (.int x) = .int x) hi rfl (by simp only [bret, ht]) (bnz hx).1
theorem w_tret {ty : FieldType} (hi : ins k pc = some (.ireturn, 1)) (ht : (bCe k).2.2.2.2.1 = some ty) (hx : narrow ty (.int x) = .int x) : Wp d k pc ls [vI x] S Q ↔ Q (some (vI x)) S :=
  Wp_ret (P := narrow ty (.int x) = .int x) hi rfl (by simp only [bret, ht]) hx
theorem w_aret {nn : String} (hi : ins k pc = some (.areturn, 1)) (ht : (bCe k).2.2.2.2.1 = some (.object nn)) (h9 : k0 ≠ 39) : Wp d k pc ls [vR k0 i0 j0] S Q ↔ Q (some (vR k0 i0 j0)) S :=
  Wp_ret (P := True) hi rfl (by simp [bret, ht, h9]) trivial
theorem w_vret (hi : ins k pc = some (.return_, 1)) (ht : (bCe k).2.2.2.2.1 = none) : Wp d k pc ls [] S Q ↔ Q none S :=
  Wp_ret (P := True) hi rfl (by simp only [bret, ht]) trivial
end WROW
