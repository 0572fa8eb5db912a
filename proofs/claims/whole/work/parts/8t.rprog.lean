/-! the reference reads a PROGRAM, and runs it for a CUBE (or for none) -/
theorem isF_eq {l : Int32} : f_X10_isField l = f_X4_isField l := by
  unfold f_X10_isField f_X4_isField
  by_cases h1 : l = 110
  · subst h1; decide
  by_cases h2 : l = 101
  · subst h2; decide
  by_cases h3 : l = 115
  · subst h3; decide
  by_cases h4 : l = 119
  · subst h4; decide
  by_cases h5 : l = 78
  · subst h5; decide
  by_cases h6 : l = 69
  · subst h6; decide
  by_cases h7 : l = 83
  · subst h7; decide
  by_cases h8 : l = 87
  · subst h8; decide
  by_cases h9 : l = 112
  · subst h9; decide
  by_cases h10 : l = 116
  · subst h10; decide
  by_cases h11 : l = 109
  · subst h11; decide
  · rw [if_neg h1, if_neg h2, if_neg h3, if_neg h4, if_neg h5, if_neg h6, if_neg h7, if_neg h8, if_neg h9, if_neg h10, if_neg h11, if_neg h6, if_neg h5, if_neg h7, if_neg h8, if_neg h2, if_neg h11, if_neg h1, if_neg h9, if_neg h3, if_neg h10, if_neg h4]
/-- the reader of a text T, size N, on row 96 = R -/
def rtR (M : mM) (N : Nat) (T : Nat → Int32) (R : Nat → Int32) : Prop := rtx (sR M 96 R) N T
theorem rtR_fr {M : mM} {N : Nat} {T R R' : Nat → Int32} (h : rtR M N T R) (h8 : R' 8 = R 8) (h9 : R' 9 = R 9) (h11 : R' 11 = R 11) : rtR M N T R' := by
  unfold rtR at h ⊢
  refine rtx_fr ?_ ?_ ?_ ?_ ?_ h
  · rw [sR_e, sR_e]; exact h8
  · rw [sR_e, sR_e]; exact h9
  · rw [sR_e, sR_e]; exact h11
  · rw [sR_n (by omega), sR_n (by omega)]
  · rw [sR_n (by omega), sR_n (by omega)]
theorem r_next {M : mM} {N p : Nat} {T R : Nat → Int32} (h : rtR M N T R) (hp : R 10 = nI p) (hp2 : p < 2147483648) : f_X10_next (sR M 96 R) = some (lk T N p) := X10_next h (by rw [sR_e]; exact hp) hp2
theorem r_takes {M : mM} {N p lo hi : Nat} {T R : Nat → Int32} (h : rtR M N T R) (hp : R 10 = nI p) (hp2 : p < 2147483647) (hlo : lo < 1000) (hhi : hi < 1000) : f_X10_takes (nI lo) (nI hi) (sR M 96 R) = some (if dg (lk T N) p lo hi then (1, sR M 96 (up (up R 12 (nI (dv (lk T N) p))) 10 (nI (p + 1)))) else (0, sR M 96 R)) := by
  rw [X10_takes h (by rw [sR_e]; exact hp) hp2 hlo hhi, mI_R, mI_R]
/-- what the fields are, whatever the reader's row holds -/
def fOK (M : mM) (c : Int32) (F : Int32 → Int32) : Prop := ∀ R l, f_X4_isField l ≠ 0 → f_X10_fieldOf l c (sR M 96 R) = some (F l)
abbrev off (S : List Nat) (R R' : Nat → Int32) : Prop := ∀ i, i ∉ S → R' i = R i
theorem r_atom {M : mM} {N p : Nat} {T R : Nat → Int32} {c : Int32} {F : Int32 → Int32} (h : rtR M N T R) (hF : fOK M c F) (hp : R 10 = nI p) (hpN : p ≤ N) : ∃ R', f_X10_takesAtom c (sR M 96 R) = some (bI (pAtom (lk T N) p).2, sR M 96 R') ∧ R' 10 = nI (pAtom (lk T N) p).1 ∧ ((pAtom (lk T N) p).2 = true → R' 22 = vAtom (lk T N) F p) ∧ off [10, 12, 22] R R' := by
  have hN := h.2.1
  unfold f_X10_takesAtom pAtom vAtom
  rw [r_next h hp (by omega), mbp_s, isF_eq]
  by_cases e1 : f_X4_isField (lk T N p) ≠ 0
  · refine ⟨up (up R 22 (F (lk T N p))) 10 (nI (p + 1)), ?_, ?_, fun _ => ?_, fun i hi => ?_⟩
    · rw [if_neg e1, hF R _ e1, mbp_s, mI_R, mlt_s, sR_e, up_n (by decide), hp, nI_1, mI_R, mlt_s, if_pos e1]; rfl
    · rw [if_pos e1, up_e]
    · rw [if_pos e1, up_n (by decide), up_e]
    · rw [up_n (fun k => hi (by rw [k]; decide)), up_n (fun k => hi (by rw [k]; decide))]
  · have e1' : f_X4_isField (lk T N p) = 0 := Classical.not_not.mp e1
    have d0 : f_X10_takes 0 9 (sR M 96 R) = some (if dg (lk T N) p 0 9 then (1, sR M 96 (up (up R 12 (nI (dv (lk T N) p))) 10 (nI (p + 1)))) else (0, sR M 96 R)) := r_takes (lo := 0) (hi := 9) h hp (by omega) (by decide) (by decide)
    rw [if_pos e1', d0]
    by_cases e2 : dg (lk T N) p 0 9
    · obtain ⟨v1, v2, v3⟩ := dg_v (by decide) (by decide) e2
      have l1 := dg_lt (by decide) e2
      rw [if_pos e2, mbw_s, if_neg (show ¬ (1 : Int32) = 0 by decide), sR_e, up_n (by decide), up_e, mI_R, mlt_s, sR_e, up_e]
      have h2 : rtR M N T (up (up (up R 12 (nI (dv (lk T N) p))) 10 (nI (p + 1))) 22 (nI (dv (lk T N) p))) := rtR_fr h (by rw [up_n (by decide), up_n (by decide), up_n (by decide)]) (by rw [up_n (by decide), up_n (by decide), up_n (by decide)]) (by rw [up_n (by decide), up_n (by decide), up_n (by decide)])
      have t := nI_ti (k := dv (lk T N) p) (by omega)
      by_cases e3 : lk T N p = 48
      · have z : dv (lk T N) p = 0 := by
          have : nI (dv (lk T N) p) = nI 0 := by rw [v1, e3]; rfl
          exact (neq (by omega) (by omega)).mp this
        refine ⟨_, by rw [if_pos (by rw [z]; decide), if_neg e1, if_pos e2, if_pos e3]; rfl, ?_, fun _ => ?_, fun i hi => ?_⟩
        · rw [if_neg e1, if_pos e2, if_pos e3, up_n (by decide), up_e]
        · rw [if_neg e1, if_pos e3, up_e, z]; rfl
        · rw [up_n (fun k => hi (by rw [k]; decide)), up_n (fun k => hi (by rw [k]; decide)), up_n (fun k => hi (by rw [k]; decide))]
      · have z : ¬ nI (dv (lk T N) p) ≤ 0 := by
          rw [v1]
          have : (48 : Int32) ≤ lk T N p := e2.1
          have : lk T N p ≤ 57 := e2.2
          grind
        rw [if_neg z, r_next h2 (by rw [up_n (by decide), up_e]) (by omega), mbp_s, X10_is_c]
        by_cases e4 : dg (lk T N) (p + 1) 0 9
        · refine ⟨up (up (up (up (up R 12 (nI (dv (lk T N) p))) 10 (nI (p + 1))) 22 (nI (dv (lk T N) p))) 22 (10 * nI (dv (lk T N) p) + lk T N (p + 1) - 48)) 10 (nI (p + 2)), ?_, ?_, fun _ => ?_, fun i hi => ?_⟩
          · rw [tf_y (show (48 : Int32) ≤ lk T N (p + 1) ∧ lk T N (p + 1) ≤ 57 from e4), if_neg (show ¬ (1 : Int32) = 0 by decide), mbp_s, mI_R, mlt_s, sR_e, up_n (show 10 ≠ 22 by decide), up_n (show 10 ≠ 22 by decide), up_e, nI_1, mI_R, mlt_s, if_neg e1, if_pos e2, if_neg e3, if_pos e4]; rfl
          · rw [if_neg e1, if_pos e2, if_neg e3, if_pos e4, up_e]
          · rw [if_neg e1, if_neg e3, if_pos e4, up_n (by decide), up_e, v1]
            grind
          · rw [up_n (fun k => hi (by rw [k]; decide)), up_n (fun k => hi (by rw [k]; decide)), up_n (fun k => hi (by rw [k]; decide)), up_n (fun k => hi (by rw [k]; decide)), up_n (fun k => hi (by rw [k]; decide))]
        · refine ⟨_, by rw [tf_n (show ¬ ((48 : Int32) ≤ lk T N (p + 1) ∧ lk T N (p + 1) ≤ 57) from e4), if_pos (show (0 : Int32) = 0 from rfl), if_neg e1, if_pos e2, if_neg e3, if_neg e4]; rfl, ?_, fun _ => ?_, fun i hi => ?_⟩
          · rw [if_neg e1, if_pos e2, if_neg e3, if_neg e4, up_n (by decide), up_e]
          · rw [if_neg e1, if_neg e3, if_neg e4, up_e, v1]
          · rw [up_n (fun k => hi (by rw [k]; decide)), up_n (fun k => hi (by rw [k]; decide)), up_n (fun k => hi (by rw [k]; decide))]
    · rw [if_neg e2, mbw_s, if_pos (show (0 : Int32) = 0 from rfl)]
      exact ⟨R, by rw [if_neg e1, if_neg e2]; rfl, by rw [if_neg e1, if_neg e2]; exact hp, fun q => by rw [if_neg e1, if_neg e2] at q; exact absurd q Bool.false_ne_true, fun _ _ => rfl⟩
theorem off_sub {S S' : List Nat} {R R' : Nat → Int32} (hS : ∀ i, i ∈ S → i ∈ S') (h : off S R R') : off S' R R' := fun i hi => h i (fun q => hi (hS i q))
theorem off_tr {S : List Nat} {R R' R2 : Nat → Int32} (h : off S R R') (h2 : off S R' R2) : off S R R2 := fun i hi => (h2 i hi).trans (h i hi)
theorem off_up {S : List Nat} {R : Nat → Int32} {j : Nat} {v : Int32} (hj : j ∈ S) : off S R (up R j v) := fun i hi => up_n (fun k => hi (by rw [k]; exact hj))
theorem r_ls {M : mM} {N j : Nat} {T : Nat → Int32} {c : Int32} {F : Int32 → Int32} (hF : fOK M c F) (k : Nat) : ∀ p R v, rtR M N T R → R 10 = nI p → R 17 = v → p ≤ N → N ≤ p + k → ∃ R', f_X10_takesSum_b18 (j + k + 1) c (sR M 96 R) = some (bI (pLs (lk T N) k p).2, sR M 96 R') ∧ R' 10 = nI (pLs (lk T N) k p).1 ∧ ((pLs (lk T N) k p).2 = true → R' 17 = vLs (lk T N) F k p v) ∧ off [10, 12, 17, 22] R R' := by
  induction k with
  | zero =>
    intro p R v h hp hv hpN hk
    have hN := h.2.1
    refine ⟨R, ?_, hp, fun _ => hv, fun _ _ => rfl⟩
    rw [f_X10_takesSum_b18, r_next h hp (by omega), mbp_s, lk_n (by omega), if_neg (by decide), mbp_s, if_neg (by decide)]
    rfl
  | succ k ih =>
    intro p R v h hp hv hpN hk
    have hN := h.2.1
    rw [f_X10_takesSum_b18, r_next h hp (by omega), mbp_s]
    rw [pLs, vLs]
    have main : isPM (lk T N p) → ∃ R', f_X10_takesSum_b36 (f_X10_takesSum_b18 (j + k + 1)) c (sR M 96 R) = some (bI (if (pAtom (lk T N) (p + 1)).2 = true then pLs (lk T N) k (pAtom (lk T N) (p + 1)).1 else pAtom (lk T N) (p + 1)).2, sR M 96 R') ∧ R' 10 = nI (if (pAtom (lk T N) (p + 1)).2 = true then pLs (lk T N) k (pAtom (lk T N) (p + 1)).1 else pAtom (lk T N) (p + 1)).1 ∧ ((if (pAtom (lk T N) (p + 1)).2 = true then pLs (lk T N) k (pAtom (lk T N) (p + 1)).1 else pAtom (lk T N) (p + 1)).2 = true → R' 17 = vLs (lk T N) F k (pAtom (lk T N) (p + 1)).1 (if lk T N p = 43 then v + vAtom (lk T N) F (p + 1) else v - vAtom (lk T N) F (p + 1))) ∧ off [10, 12, 17, 22] R R' := fun e => by
      have l1 : p < N := by rcases e with e | e <;> exact lk_lt e (by decide)
      have h1 : rtR M N T (up R 10 (nI (p + 1))) := rtR_fr h (up_n (by decide)) (up_n (by decide)) (up_n (by decide))
      obtain ⟨R1, a1, a2, a3, a4⟩ := r_atom h1 hF up_e (show p + 1 ≤ N by omega)
      have b50 : ∀ s0 : Int32, f_X10_takesSum_b50 (f_X10_takesSum_b18 (j + k + 1)) c s0 (sR M 96 R) = mbw (some (bI (pAtom (lk T N) (p + 1)).2, sR M 96 R1)) (fun v63 M63 => if v63 = 0 then (some (0, M63)) else (if s0 = 0 then (f_X10_takesSum_b92 (f_X10_takesSum_b18 (j + k + 1)) c (M63.1 96 17) (-(M63.1 96 22)) M63) else (f_X10_takesSum_b92 (f_X10_takesSum_b18 (j + k + 1)) c (M63.1 96 17) (M63.1 96 22) M63))) := fun s0 => by
        unfold f_X10_takesSum_b50
        rw [sR_e, hp, nI_1, mI_R, mlt_s, a1]
      have h2 : rtR M N T R1 := rtR_fr h1 (a4 8 (by decide)) (a4 9 (by decide)) (a4 11 (by decide))
      have o1 : off [10, 12, 17, 22] R R1 := off_tr (off_up (j := 10) (by decide)) (off_sub (by decide) a4)
      unfold f_X10_takesSum_b36
      rw [r_next h hp (by omega), mbp_s]
      by_cases e2 : (pAtom (lk T N) (p + 1)).2 = true
      · have a3 := a3 e2
        obtain ⟨pa1, pa2⟩ := p_atom (T := T) (show p + 1 ≤ N by omega)
        have pa2 := pa2 e2
        have r17 : R1 17 = v := by rw [a4 17 (by decide), up_n (by decide)]; exact hv
        rw [if_pos e2]
        have go : ∀ w, ∃ R', f_X10_takesSum_b18 (j + k + 1) c (sR M 96 (up R1 17 w)) = some (bI (pLs (lk T N) k (pAtom (lk T N) (p + 1)).1).2, sR M 96 R') ∧ R' 10 = nI (pLs (lk T N) k (pAtom (lk T N) (p + 1)).1).1 ∧ ((pLs (lk T N) k (pAtom (lk T N) (p + 1)).1).2 = true → R' 17 = vLs (lk T N) F k (pAtom (lk T N) (p + 1)).1 w) ∧ off [10, 12, 17, 22] R R' := fun w => by
          obtain ⟨R', x1, x2, x3, x4⟩ := ih (pAtom (lk T N) (p + 1)).1 (up R1 17 w) w (rtR_fr h2 (up_n (by decide)) (up_n (by decide)) (up_n (by decide))) (by rw [up_n (by decide)]; exact a2) up_e pa1 (by omega)
          exact ⟨R', x1, x2, x3, off_tr o1 (off_tr (off_up (by decide)) x4)⟩
        by_cases e3 : lk T N p = 43
        · rw [if_pos e3, b50, mbw_s, e2, if_neg (by decide), if_neg (by decide)]
          unfold f_X10_takesSum_b92
          rw [sR_e, r17, a3, mI_R, mlt_s, if_pos e3]
          exact go _
        · rw [if_neg e3, b50, mbw_s, e2, if_neg (by decide), if_pos rfl]
          unfold f_X10_takesSum_b92
          rw [sR_e, r17, a3, mI_R, mlt_s, if_neg e3, show v + -vAtom (lk T N) F (p + 1) = v - vAtom (lk T N) F (p + 1) by grind]
          exact go _
      · rw [if_neg e2]
        refine ⟨R1, ?_, a2, fun q => absurd q e2, o1⟩
        rw [b50, b50, Bool.eq_false_iff.mpr e2, mbw_s, if_pos (show bI false = 0 from rfl), mbw_s, if_pos (show bI false = 0 from rfl), ite_self]
        rfl
    by_cases e : isPM (lk T N p)
    · rw [if_pos e, if_pos e]
      by_cases e3 : lk T N p = 43
      · rw [if_pos e3]
        exact main e
      · have e4 : lk T N p = 45 := e.resolve_left e3
        have m := main e
        rw [if_neg e3] at m ⊢
        rw [mbp_s, if_pos e4]
        rw [if_neg e3]
        exact m
    · rw [if_neg e, if_neg e, if_neg (fun q => e (Or.inl q)), mbp_s, if_neg (fun q => e (Or.inr q))]
      exact ⟨R, rfl, hp, fun _ => hv, fun _ _ => rfl⟩
theorem r_sum {M : mM} {N p : Nat} {T R : Nat → Int32} {c : Int32} {F : Int32 → Int32} (h : rtR M N T R) (hF : fOK M c F) (hp : R 10 = nI p) (hpN : p ≤ N) : ∃ R', f_X10_takesSum c (sR M 96 R) = some (bI (pSum (lk T N) p).2, sR M 96 R') ∧ R' 10 = nI (pSum (lk T N) p).1 ∧ ((pSum (lk T N) p).2 = true → R' 17 = vSum (lk T N) F p) ∧ off [10, 12, 17, 22] R R' := by
  have hN := h.2.1
  obtain ⟨m, hm⟩ := mN_ge (k := 91) (by omega)
  have hm : mN = m + 90 + 1 := by omega
  obtain ⟨R1, a1, a2, a3, a4⟩ := r_atom h hF hp hpN
  have h2 : rtR M N T R1 := rtR_fr h (a4 8 (by decide)) (a4 9 (by decide)) (a4 11 (by decide))
  have o1 : off [10, 12, 17, 22] R R1 := off_sub (by decide) a4
  unfold f_X10_takesSum pSum vSum
  rw [a1, mbw_s]
  by_cases e2 : (pAtom (lk T N) p).2 = true
  · have a3 := a3 e2
    obtain ⟨pa1, pa2⟩ := p_atom (T := T) hpN
    have pa2 := pa2 e2
    obtain ⟨R', x1, x2, x3, x4⟩ := r_ls (j := m) hF 90 (pAtom (lk T N) p).1 (up R1 17 (vAtom (lk T N) F p)) (vAtom (lk T N) F p) (rtR_fr h2 (up_n (by decide)) (up_n (by decide)) (up_n (by decide))) (by rw [up_n (by decide)]; exact a2) up_e pa1 (by omega)
    rw [e2, if_neg (by decide), sR_e, a3, mI_R, mlt_s, hm, if_pos rfl]
    exact ⟨R', x1, x2, x3, off_tr o1 (off_tr (off_up (by decide)) x4)⟩
  · rw [if_neg e2, Bool.eq_false_iff.mpr e2, if_pos (show bI false = 0 from rfl)]
    exact ⟨R1, rfl, a2, fun q => absurd q Bool.false_ne_true, o1⟩
