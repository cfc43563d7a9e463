/-! WHAT A METHOD COMES TO, without fuel: Wp from a frame, Wm from a method's entry; and the equations that unfold them -/
theorem bwp_mono {n d k : Nat} {f : bFr} {Q Q' : Option bV → bSt → Prop} (h : bwp n d k f Q) (hq : ∀ r S, Q r S → Q' r S) : bwp n d k f Q' := by
  induction n generalizing d k f Q Q' with
  | zero => exact h.elim
  | succ n ih =>
    simp only [bwp] at h ⊢
    split at h
    · exact h.elim
    · split at h
      · exact ⟨h.1, ih h.2 hq⟩
      · split at h
        · exact ⟨h.1, hq _ _ h.2⟩
        · split at h
          · exact ⟨h.1, h.2.1, ih h.2.2 (fun r S hr => ih hr hq)⟩
          · exact h.elim
theorem bwp_succ {n d k : Nat} {f : bFr} {Q : Option bV → bSt → Prop} (h : bwp n d k f Q) : bwp (n + 1) d k f Q := by
  induction n generalizing d k f Q with
  | zero => exact h.elim
  | succ n ih =>
    rw [bwp] at h ⊢
    split at h
    · exact h.elim
    · split at h
      · exact ⟨h.1, ih h.2⟩
      · split at h
        · exact h
        · split at h
          · exact ⟨h.1, h.2.1, ih (bwp_mono h.2.2 (fun r S hr => ih hr))⟩
          · exact h.elim
theorem bwp_le {n n' d k : Nat} {f : bFr} {Q : Option bV → bSt → Prop} (hn : n ≤ n') (h : bwp n d k f Q) : bwp n' d k f Q := by
  induction hn with
  | refl => exact h
  | step _ ih => exact bwp_succ ih
theorem bwp_det {n d k : Nat} {f : bFr} {Q : Option bV → bSt → Prop} (h : bwp n d k f Q) : ∃ r S, Q r S ∧ ∀ Q' : Option bV → bSt → Prop, Q' r S → bwp n d k f Q' := by
  induction n generalizing d k f Q with
  | zero => exact h.elim
  | succ n ih =>
    rw [bwp] at h
    split at h
    · exact h.elim
    · rename_i x len hi
      split at h
      · rename_i P f' hs
        obtain ⟨r, S, h1, h2⟩ := ih h.2
        refine ⟨r, S, h1, fun Q' hq => ?_⟩
        rw [bwp]
        simp only [hi, hs]
        exact ⟨h.1, h2 Q' hq⟩
      · rename_i hs
        split at h
        · rename_i P r hr
          refine ⟨r, _, h.2, fun Q' hq => ?_⟩
          rw [bwp]
          simp only [hi, hs, hr]
          exact ⟨h.1, hq⟩
        · rename_i hr
          split at h
          · rename_i P k' as st' hc
            obtain ⟨r1, S1, h1, h2⟩ := ih h.2.2
            obtain ⟨r, S, h3, h4⟩ := ih h1
            refine ⟨r, S, h3, fun Q' hq => ?_⟩
            rw [bwp]
            simp only [hi, hs, hr, hc]
            exact ⟨h.1, h.2.1, h2 _ (h4 Q' hq)⟩
          · exact h.elim
/-- from a frame -/
def Wp (d k pc : Nat) (ls : List (Option bV)) (st : List bV) (S : bSt) (Q : Option bV → bSt → Prop) : Prop := ∃ n, bwp n d k (pc, ls, st, S) Q
/-- from a method's entry -/
def Wm (d k : Nat) (as : List bV) (S : bSt) (Q : Option bV → bSt → Prop) : Prop := ∃ n, bwp n d k (bent k as S) Q
/-- a method's answer, and the memory behind it -/
def Ret (d k : Nat) (as : List bV) (S : bSt) (r : Option bV) (S' : bSt) : Prop := Wm d k as S (fun r1 S1 => r1 = r ∧ S1 = S')
theorem Wp_step {d k pc len : Nat} {ls ls' : List (Option bV)} {st st' : List bV} {S S' : bSt} {Q : Option bV → bSt → Prop} {x : Instr} {P : Prop} {pc' : Nat} (hi : ins k pc = some (x, len)) (hs : stp (bCe k).1 x (pc, ls, st, S) = some (P, pc', ls', st', S')) (hP : P) : Wp d k pc ls st S Q ↔ Wp d k pc' ls' st' S' Q := by
  constructor
  · rintro ⟨n, h⟩
    cases n with
    | zero => exact h.elim
    | succ n =>
      rw [bwp] at h
      simp only [hi, hs] at h
      exact ⟨n, h.2⟩
  · rintro ⟨n, h⟩
    refine ⟨n + 1, ?_⟩
    rw [bwp]
    simp only [hi, hs]
    exact ⟨hP, h⟩
theorem Wp_ret {d k pc len : Nat} {ls : List (Option bV)} {st : List bV} {S : bSt} {Q : Option bV → bSt → Prop} {x : Instr} {P : Prop} {r : Option bV} (hi : ins k pc = some (x, len)) (hs : stp (bCe k).1 x (pc, ls, st, S) = none) (hr : bret (bCe k).2.2.2.2.1 x (pc, ls, st, S) = some (P, r)) (hP : P) : Wp d k pc ls st S Q ↔ Q r S := by
  constructor
  · rintro ⟨n, h⟩
    cases n with
    | zero => exact h.elim
    | succ n =>
      rw [bwp] at h
      simp only [hi, hs, hr] at h
      exact h.2
  · intro h
    refine ⟨1, ?_⟩
    rw [bwp]
    simp only [hi, hs, hr]
    exact ⟨hP, h⟩
theorem Wp_call {d k pc len : Nat} {ls : List (Option bV)} {st st' : List bV} {S : bSt} {Q : Option bV → bSt → Prop} {x : Instr} {P : Prop} {k' : Nat} {as : List bV} (hd : 0 < d) (hi : ins k pc = some (x, len)) (hs : stp (bCe k).1 x (pc, ls, st, S) = none) (hr : bret (bCe k).2.2.2.2.1 x (pc, ls, st, S) = none) (hc : bcall (bCe k).1 x (pc, ls, st, S) = some (P, k', as, st')) (hP : P) : Wp d k pc ls st S Q ↔ Wm (d - 1) k' as S (fun r S' => Wp d k (pc + 3) ls (r.toList ++ st') S' Q) := by
  constructor
  · rintro ⟨n, h⟩
    cases n with
    | zero => exact h.elim
    | succ n =>
      rw [bwp] at h
      simp only [hi, hs, hr, hc] at h
      exact ⟨n, bwp_mono h.2.2 (fun r S hr => ⟨n, hr⟩)⟩
  · rintro ⟨n, h⟩
    obtain ⟨r, S1, ⟨n2, h1⟩, h2⟩ := bwp_det h
    refine ⟨max n n2 + 1, ?_⟩
    rw [bwp]
    simp only [hi, hs, hr, hc]
    exact ⟨hP, hd, bwp_le (Nat.le_max_left _ _) (h2 _ (bwp_le (Nat.le_max_right _ _) h1))⟩
theorem Wm_iff {d k : Nat} {as : List bV} {S S' : bSt} {r : Option bV} (h : Ret d k as S r S') (Q : Option bV → bSt → Prop) : Wm d k as S Q ↔ Q r S' := by
  obtain ⟨n, h⟩ := h
  obtain ⟨r1, S1, ⟨h1, h2⟩, h3⟩ := bwp_det h
  subst h1; subst h2
  constructor
  · rintro ⟨n2, g⟩
    obtain ⟨r2, S2, g1, g2⟩ := bwp_det g
    have a := bwp_le (Nat.le_max_left n n2) (h3 (fun r S => r = r1 ∧ S = S1) ⟨rfl, rfl⟩)
    have b := bwp_le (Nat.le_max_right n n2) (g2 (fun r S => r = r2 ∧ S = S2) ⟨rfl, rfl⟩)
    obtain ⟨r3, S3, ⟨e1, e2⟩, a3⟩ := bwp_det a
    obtain ⟨r4, S4, ⟨e3, e4⟩, b3⟩ := bwp_det b
    subst e1; subst e2; subst e3; subst e4
    -- both answers are the machine's
    have key : ∀ (n d k : Nat) (f : bFr) (ra rb : Option bV) (Sa Sb : bSt), bwp n d k f (fun r S => r = ra ∧ S = Sa) → bwp n d k f (fun r S => r = rb ∧ S = Sb) → ra = rb ∧ Sa = Sb := by
      intro n
      induction n with
      | zero => intro d k f ra rb Sa Sb h; exact h.elim
      | succ n ih =>
        intro d k f ra rb Sa Sb ha hb
        rw [bwp] at ha hb
        split at ha
        · exact ha.elim
        · rename_i x len hi
          simp only [hi] at hb
          split at ha
          · rename_i P f' hs
            simp only [hs] at hb
            exact ih _ _ _ _ _ _ _ ha.2 hb.2
          · rename_i hs
            simp only [hs] at hb
            split at ha
            · rename_i P r hr
              simp only [hr] at hb
              exact ⟨ha.2.1.symm.trans hb.2.1, ha.2.2.symm.trans hb.2.2⟩
            · rename_i hr
              simp only [hr] at hb
              split at ha
              · rename_i P k' as st' hc
                simp only [hc] at hb
                obtain ⟨ra1, Sa1, qa, ca⟩ := bwp_det ha.2.2
                obtain ⟨rb1, Sb1, qb, cb⟩ := bwp_det hb.2.2
                obtain ⟨z1, z2⟩ := ih _ _ _ _ _ _ _ (ca (fun r S => r = ra1 ∧ S = Sa1) ⟨rfl, rfl⟩) (cb (fun r S => r = rb1 ∧ S = Sb1) ⟨rfl, rfl⟩)
                subst z1; subst z2
                exact ih _ _ _ _ _ _ _ qa qb
              · exact ha.elim
    obtain ⟨z1, z2⟩ := key _ _ _ _ _ _ _ _ a b
    subst z1; subst z2
    exact g1
  · intro g
    exact ⟨n, h3 Q g⟩
theorem Ret_intro {d k : Nat} {as : List bV} {S S' : bSt} {r : Option bV} (h : Wm d k as S (fun r1 S1 => r1 = r ∧ S1 = S')) : Ret d k as S r S' := h
theorem Wm_entry {d k : Nat} {as : List bV} {S : bSt} {Q : Option bV → bSt → Prop} {ls : List (Option bV)} (h : as.map some ++ List.replicate ((bCe k).2.2.2.1 - as.length) none = ls) : Wm d k as S Q ↔ Wp d k 0 ls [] S Q := by
  subst h
  exact Iff.rfl
/-- a method with a smaller depth does with a greater one -/
theorem bwp_deep {n d d' k : Nat} {f : bFr} {Q : Option bV → bSt → Prop} (hd : d ≤ d') (h : bwp n d k f Q) : bwp n d' k f Q := by
  induction n generalizing d d' k f Q with
  | zero => exact h.elim
  | succ n ih =>
    rw [bwp] at h ⊢
    split at h
    · exact h.elim
    · split at h
      · exact ⟨h.1, ih hd h.2⟩
      · split at h
        · exact h
        · split at h
          · exact ⟨h.1, by omega, bwp_mono (ih (by omega) h.2.2) (fun r S hr => ih hd hr)⟩
          · exact h.elim
theorem Ret_deep {d d' k : Nat} {as : List bV} {S S' : bSt} {r : Option bV} (hd : d ≤ d') (h : Ret d k as S r S') : Ret d' k as S r S' := by
  obtain ⟨n, h⟩ := h
  exact ⟨n, bwp_deep hd h⟩
