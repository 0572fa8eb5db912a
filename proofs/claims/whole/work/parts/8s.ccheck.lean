/-! the class looks whether a text is a PROGRAM -/
theorem p_at {T : Nat → Int32} {N p : Nat} : (pAtom (lk T N) p).1 ≤ p + 2 ∧ (p ≤ N → (pAtom (lk T N) p).1 ≤ N) ∧ ((pAtom (lk T N) p).2 = true → p < (pAtom (lk T N) p).1) := by
  unfold pAtom
  by_cases e1 : f_X4_isField (lk T N p) ≠ 0
  · have l1 : p < N := by
      by_cases q : p < N
      · exact q
      · rw [lk_n q] at e1; exact absurd (show f_X4_isField (-1) = 0 by decide) e1
    rw [if_pos e1]
    exact ⟨by show p + 1 ≤ _; omega, fun _ => by show p + 1 ≤ N; omega, fun _ => by show p < p + 1; omega⟩
  · rw [if_neg e1]
    by_cases e2 : dg (lk T N) p 0 9
    · have l1 := dg_lt (by decide) e2
      rw [if_pos e2]
      by_cases e3 : lk T N p = 48
      · rw [if_pos e3]
        exact ⟨by show p + 1 ≤ _; omega, fun _ => by show p + 1 ≤ N; omega, fun _ => by show p < p + 1; omega⟩
      · rw [if_neg e3]
        by_cases e4 : dg (lk T N) (p + 1) 0 9
        · have l2 := dg_lt (by decide) e4
          rw [if_pos e4]
          exact ⟨by show p + 2 ≤ _; omega, fun _ => by show p + 2 ≤ N; omega, fun _ => by show p < p + 2; omega⟩
        · rw [if_neg e4]
          exact ⟨by show p + 1 ≤ _; omega, fun _ => by show p + 1 ≤ N; omega, fun _ => by show p < p + 1; omega⟩
    · rw [if_neg e2]
      exact ⟨by show p ≤ _; omega, fun h => h, fun q => absurd q Bool.false_ne_true⟩
/-- within the text, and on -/
def pOK (N p : Nat) (r : Rp) : Prop := r.1 ≤ N ∧ (r.2 = true → p < r.1)
theorem p_atom {T : Nat → Int32} {N p : Nat} (hp : p ≤ N) : pOK N p (pAtom (lk T N) p) := ⟨p_at.2.1 hp, p_at.2.2⟩
theorem p_ls {T : Nat → Int32} {N : Nat} : ∀ k p, p ≤ N → (pLs (lk T N) k p).1 ≤ N ∧ ((pLs (lk T N) k p).2 = true → p ≤ (pLs (lk T N) k p).1) := by
  intro k
  induction k with
  | zero => intro p hp; exact ⟨hp, fun _ => Nat.le_refl _⟩
  | succ k ih =>
    intro p hp
    rw [pLs]
    by_cases e : isPM (lk T N p)
    · have l1 : p < N := by rcases e with e | e <;> exact lk_lt e (by decide)
      obtain ⟨a1, a2⟩ := p_atom (T := T) (show p + 1 ≤ N by omega)
      rw [if_pos e]
      by_cases e2 : (pAtom (lk T N) (p + 1)).2 = true
      · rw [if_pos e2]
        have a2 := a2 e2
        have := ih _ a1
        exact ⟨this.1, fun q => by have := this.2 q; omega⟩
      · rw [if_neg e2]
        exact ⟨a1, fun q => absurd q e2⟩
    · rw [if_neg e]
      exact ⟨hp, fun _ => Nat.le_refl _⟩
theorem p_sum {T : Nat → Int32} {N p : Nat} (hp : p ≤ N) : pOK N p (pSum (lk T N) p) := by
  obtain ⟨a1, a2⟩ := p_atom (T := T) hp
  unfold pSum
  by_cases e : (pAtom (lk T N) p).2 = true
  · rw [if_pos e]
    have a2 := a2 e
    have := p_ls (T := T) 90 _ a1
    exact ⟨this.1, fun q => by have := this.2 q; omega⟩
  · rw [if_neg e]
    exact ⟨a1, fun q => absurd q e⟩
theorem p_chk {T : Nat → Int32} {N p : Nat} (hp : p ≤ N) : pOK N p (pChk (lk T N) p) := by
  obtain ⟨a1, a2⟩ := p_sum (T := T) hp
  unfold pChk
  by_cases e : (pSum (lk T N) p).2 = true
  · rw [if_pos e]
    have a2 := a2 e
    by_cases e2 : isCp (lk T N (pSum (lk T N) p).1)
    · have l1 : (pSum (lk T N) p).1 < N := by rcases e2 with e2 | e2 | e2 <;> exact lk_lt e2 (by decide)
      obtain ⟨b1, b2⟩ := p_sum (T := T) (show (pSum (lk T N) p).1 + 1 ≤ N by omega)
      rw [if_pos e2]
      exact ⟨b1, fun q => by have := b2 q; omega⟩
    · rw [if_neg e2]
      exact ⟨a1, fun q => absurd q Bool.false_ne_true⟩
  · rw [if_neg e]
    exact ⟨a1, fun q => absurd q e⟩
theorem p_lt {T : Nat → Int32} {N : Nat} : ∀ k p, p ≤ N → (pLt (lk T N) k p).1 ≤ N ∧ ((pLt (lk T N) k p).2 = true → p ≤ (pLt (lk T N) k p).1) := by
  intro k
  induction k with
  | zero => intro p hp; exact ⟨hp, fun _ => Nat.le_refl _⟩
  | succ k ih =>
    intro p hp
    rw [pLt]
    by_cases e : lk T N p = 38
    · have l1 := lk_lt e (by decide)
      obtain ⟨a1, a2⟩ := p_chk (T := T) (show p + 1 ≤ N by omega)
      rw [if_pos e]
      by_cases e2 : (pChk (lk T N) (p + 1)).2 = true
      · rw [if_pos e2]
        have a2 := a2 e2
        have := ih _ a1
        exact ⟨this.1, fun q => by have := this.2 q; omega⟩
      · rw [if_neg e2]
        exact ⟨a1, fun q => absurd q e2⟩
    · rw [if_neg e]
      exact ⟨hp, fun _ => Nat.le_refl _⟩
theorem p_tst {T : Nat → Int32} {N p : Nat} (hp : p ≤ N) : pOK N p (pTst (lk T N) p) := by
  obtain ⟨a1, a2⟩ := p_chk (T := T) hp
  unfold pTst
  by_cases e : (pChk (lk T N) p).2 = true
  · rw [if_pos e]
    have a2 := a2 e
    have := p_lt (T := T) 90 _ a1
    exact ⟨this.1, fun q => by have := this.2 q; omega⟩
  · rw [if_neg e]
    exact ⟨a1, fun q => absurd q e⟩
theorem p_act {T : Nat → Int32} {N p : Nat} (hp : p ≤ N) : pOK N p (pAct (lk T N) p) := by
  unfold pAct
  by_cases e : lk T N p = 103
  · have l1 := lk_lt e (by decide)
    rw [if_pos e]
    by_cases e2 : dg (lk T N) (p + 1) 0 7
    · have l2 := dg_lt (by decide) e2
      rw [if_pos e2]
      exact ⟨by show p + 2 ≤ N; omega, fun _ => by show p < p + 2; omega⟩
    · rw [if_neg e2]
      exact ⟨by show p + 1 ≤ N; omega, fun q => absurd q Bool.false_ne_true⟩
  · rw [if_neg e]
    by_cases e2 : lk T N p = 121 ∨ lk T N p = 61
    · have l1 : p < N := by rcases e2 with e2 | e2 <;> exact lk_lt e2 (by decide)
      obtain ⟨b1, b2⟩ := p_sum (T := T) (show p + 1 ≤ N by omega)
      rw [if_pos e2]
      exact ⟨b1, fun q => by have := b2 q; omega⟩
    · rw [if_neg e2]
      exact ⟨hp, fun q => absurd q Bool.false_ne_true⟩
theorem p_tl {T : Nat → Int32} {N p : Nat} (hp : p ≤ N) : pOK N p (pTl (lk T N) p) := by
  unfold pTl
  by_cases e : lk T N p = 63
  · have l1 := lk_lt e (by decide)
    obtain ⟨b1, b2⟩ := p_act (T := T) (show p + 1 ≤ N by omega)
    rw [if_pos e]
    by_cases e2 : (pAct (lk T N) (p + 1)).2 = true
    · have b2 := b2 e2
      rw [if_pos e2]
      by_cases e3 : lk T N (pAct (lk T N) (p + 1)).1 = 59
      · have l3 := lk_lt e3 (by decide)
        rw [if_pos e3]
        exact ⟨l3, fun _ => by show p < _ + 1; omega⟩
      · rw [if_neg e3]
        exact ⟨b1, fun q => absurd q Bool.false_ne_true⟩
    · rw [if_neg e2]
      exact ⟨b1, fun q => absurd q e2⟩
  · rw [if_neg e]
    exact ⟨hp, fun q => absurd q Bool.false_ne_true⟩
theorem p_rl {T : Nat → Int32} {N p : Nat} (hp : p ≤ N) : pOK N p (pRl (lk T N) p) := by
  obtain ⟨a1, a2⟩ := p_tst (T := T) hp
  unfold pRl
  by_cases e : (pTst (lk T N) p).2 = true
  · rw [if_pos e]
    have a2 := a2 e
    obtain ⟨b1, b2⟩ := p_tl (T := T) a1
    exact ⟨b1, fun q => by have := b2 q; omega⟩
  · rw [if_neg e]
    exact ⟨a1, fun q => absurd q e⟩
/-! the class -/
theorem X7_isDigit {r t N p : Nat} {M : mM} (h : txt r M t N) (hp : p < 2147483648) : f_X7_isDigit r (rdM r M p (-1)) = some (tf (dg (lT M t N) p 0 9)) := by
  unfold f_X7_isDigit
  rw [X7_look h hp, mbp_s]
  by_cases hpN : p < N
  · rw [if_pos hpN]
    have e0 : lT M t N p = M.1 t p := lk_y hpN
    by_cases e : dg (lT M t N) p 0 9
    · obtain ⟨e1, e2⟩ := id e
      rw [e0] at e1 e2
      have e1 : (48 : Int32) ≤ M.1 t p := e1
      have e2 : M.1 t p ≤ 57 := e2
      rw [tf_y e, if_neg (by grind), mbp_s, if_neg (by grind)]
    · rw [tf_n e]
      by_cases e1 : M.1 t p < 48
      · rw [if_pos e1]
      · rw [if_neg e1, mbp_s, if_pos]
        by_cases e2 : 57 < M.1 t p
        · exact e2
        · exact absurd (show dg (lT M t N) p 0 9 from by
            unfold dg
            rw [e0]
            exact ⟨show (48 : Int32) ≤ M.1 t p by grind, show M.1 t p ≤ 57 by grind⟩) e
  · rw [if_neg hpN, if_pos (by decide), tf_n (fun q => hpN (dg_lt (by decide) q))]
theorem X7_isDigitF {r p : Nat} {f : Int32} {M : mM} (hf : 0 ≤ f) : f_X7_isDigit r (rdM r M p f) = some 0 := by
  unfold f_X7_isDigit
  rw [X7_lookF hf, mbp_s, if_pos (by decide)]
theorem fld_lo {T : Nat → Int32} {N p : Nat} : f_X4_isField (if p < N then T p else -1000) = f_X4_isField (lk T N p) := by
  unfold lk
  by_cases e : p < N
  · rw [if_pos e, if_pos e]
  · rw [if_neg e, if_neg e]; rfl
theorem X4_atom {t N p : Nat} {M : mM} (h : txt 78 M t N) (hp : p ≤ N) : f_X4_readAtom (rdM 78 M p (-1)) = some (rdR 78 M (pAtom (lT M t N) p)) := by
  have hN := h.2.2.2.2.1
  unfold f_X4_readAtom pAtom
  rw [X7_takeIf h (by omega) (by decide)]
  by_cases e1 : lT M t N p = 48
  · have hf : ¬ f_X4_isField (lT M t N p) ≠ 0 := by rw [e1]; decide
    have hd : dg (lT M t N) p 0 9 := by unfold dg; rw [e1]; decide
    rw [if_pos e1, mbw_s, if_neg (by decide), if_neg hf, if_pos hd, if_pos e1, rdR_y (x := (p + 1, true)) rfl]
  · rw [if_neg e1, mbw_s, if_pos rfl, X7_isDigit h (by omega), mbp_s]
    by_cases e2 : dg (lT M t N) p 0 9
    · have l1 := dg_lt (by decide) e2
      have hf : ¬ f_X4_isField (lT M t N p) ≠ 0 := by
        have e3 : (48 : Int32) ≤ lT M t N p := e2.1
        have e4 : lT M t N p ≤ 57 := e2.2
        unfold f_X4_isField
        rw [if_neg (by grind), if_neg (by grind), if_neg (by grind), if_neg (by grind), if_neg (by grind), if_neg (by grind), if_neg (by grind), if_neg (by grind), if_neg (by grind), if_neg (by grind), if_neg (by grind)]
        decide
      rw [tf_y e2, if_neg (by decide), X7_take h l1, mbw_s, X7_isDigit h (by omega), mbp_s, if_neg hf, if_pos e2, if_neg e1]
      by_cases e3 : dg (lT M t N) (p + 1) 0 9
      · have l2 := dg_lt (by decide) e3
        rw [tf_y e3, if_neg (by decide), X7_take h l2, mbw_s, if_pos e3, rdR_y (x := (p + 2, true)) rfl]
      · rw [tf_n e3, if_pos rfl, if_neg e3, rdR_y (x := (p + 1, true)) rfl]
    · rw [tf_n e2, if_pos rfl, X7_look h (by omega), mbp_s, fld_lo]
      by_cases e3 : f_X4_isField (lT M t N p) ≠ 0
      · have l1 : p < N := by
          by_cases q : p < N
          · exact q
          · rw [show lT M t N p = -1 from lk_n q] at e3; exact absurd (show f_X4_isField (-1) = 0 by decide) e3
        rw [if_neg e3, X7_take h l1, mbw_s, if_pos e3, rdR_y (x := (p + 1, true)) rfl]
      · rw [if_pos (Classical.not_not.mp e3), X7_fail, mbp_s, if_neg e3, if_neg e2, rdR_n (x := (p, false)) Bool.false_ne_true]
theorem X4_atomF {p : Nat} {f : Int32} {M : mM} (hf : 0 ≤ f) : f_X4_readAtom (rdM 78 M p f) = some (rdM 78 M p f) := by
  unfold f_X4_readAtom
  rw [X7_takeIfF (by decide) hf, mbw_s, if_pos rfl, X7_isDigitF hf, mbp_s, if_pos rfl, X7_lookF hf, mbp_s, if_pos (by decide), X7_failF hf, mbp_s]
theorem X4_ls {t N j : Nat} {M : mM} (h : txt 78 M t N) (d : Nat) : ∀ k p, k + d = 90 → p ≤ N → f_X4_readSum_b6 (j + d + 1) (nI k) (rdM 78 M p (-1)) = some (rdR 78 M (pLs (lT M t N) d p)) := by
  have hN := h.2.2.2.2.1
  induction d with
  | zero =>
    intro k p hk hp
    rw [f_X4_readSum_b6, if_pos ((lle (m := 90) (by decide) (by omega)).mpr (show 90 ≤ _ by omega)), pLs, rdR_y (x := (p, true)) rfl]
  | succ d ih =>
    intro k p hk hp
    rw [f_X4_readSum_b6, if_neg (fun q => by have : 90 ≤ _ := (lle (m := 90) (by decide) (by omega)).mp q; omega), X7_pm h (by omega), mbp_s, pLs]
    by_cases e : isPM (lT M t N p)
    · have l1 : p < N := by rcases e with e | e <;> exact lk_lt e (by decide)
      obtain ⟨a1, a2⟩ := (show pOK N _ (pAtom (lT M t N) _) from p_atom (T := M.1 t) (show p + 1 ≤ N by omega))
      rw [tf_y e, if_neg (by decide), X7_take h l1, mbw_s, X4_atom h (by omega), mbp_s, mlt_s, nI_1, if_pos e]
      by_cases e2 : (pAtom (lT M t N) (p + 1)).2 = true
      · rw [rdR_y e2, if_pos e2]
        exact ih (k + 1) _ (by omega) a1
      · rw [rdR_n e2, if_neg e2, rdR_n e2]
        show f_X4_readSum_b6 (j + d + 1) _ _ = _
        rw [f_X4_readSum_b6]
        by_cases e5 : (90 : Int32) ≤ nI (k + 1)
        · rw [if_pos e5]
        · rw [if_neg e5, X7_pmF (nle0 (by omega)), mbp_s, if_pos rfl]
    · rw [tf_n e, if_pos rfl, if_neg e, rdR_y (x := (p, true)) rfl]
theorem X4_sum {t N p : Nat} {M : mM} (h : txt 78 M t N) (hp : p ≤ N) : f_X4_readSum (rdM 78 M p (-1)) = some (rdR 78 M (pSum (lT M t N) p)) := by
  have hN := h.2.2.2.2.1
  obtain ⟨a1, a2⟩ := (show pOK N _ (pAtom (lT M t N) _) from p_atom (T := M.1 t) hp)
  obtain ⟨m, hm⟩ := mN_ge (k := 91) (by omega)
  have hm : mN = m + 90 + 1 := by omega
  unfold f_X4_readSum pSum
  rw [X4_atom h hp, mbp_s, hm]
  by_cases e2 : (pAtom (lT M t N) p).2 = true
  · rw [rdR_y e2, if_pos e2]
    exact X4_ls h 90 0 _ rfl a1
  · rw [rdR_n e2, if_neg e2, rdR_n e2, f_X4_readSum_b6, if_neg (by decide), X7_pmF (nle0 (by omega)), mbp_s, if_pos rfl]
theorem X4_sumF {p : Nat} {f : Int32} {M : mM} (hf : 0 ≤ f) : f_X4_readSum (rdM 78 M p f) = some (rdM 78 M p f) := by
  obtain ⟨m, hm⟩ := mN_ge (k := 91) (by omega)
  have hm : mN = m + 90 + 1 := by omega
  unfold f_X4_readSum
  rw [X4_atomF hf, mbp_s, hm, f_X4_readSum_b6, if_neg (by decide), X7_pmF hf, mbp_s, if_pos rfl]
theorem X4_chk {t N p : Nat} {M : mM} (h : txt 78 M t N) (hp : p ≤ N) : f_X4_readCheck (rdM 78 M p (-1)) = some (rdR 78 M (pChk (lT M t N) p)) := by
  have hN := h.2.2.2.2.1
  obtain ⟨a1, a2⟩ := (show pOK N _ (pSum (lT M t N) _) from p_sum (T := M.1 t) hp)
  unfold f_X4_readCheck f_X4_readCheck_b28 pChk
  rw [X4_sum h hp, mbp_s]
  by_cases e : (pSum (lT M t N) p).2 = true
  · rw [rdR_y e, if_pos e, X7_takeIf h (by omega) (by decide)]
    have nx : (pSum (lT M t N) p).1 < N → mbp (f_X4_readSum (rdM 78 M ((pSum (lT M t N) p).1 + 1) (-1))) (fun M29 => some M29) = some (rdR 78 M (pSum (lT M t N) ((pSum (lT M t N) p).1 + 1))) := fun hl => by
      rw [X4_sum h (by omega), mbp_s]
    by_cases e1 : lT M t N (pSum (lT M t N) p).1 = 60
    · rw [if_pos e1, mbw_s, if_neg (by decide), if_pos (show isCp _ from Or.inl e1)]
      exact nx (lk_lt e1 (by decide))
    · rw [if_neg e1, mbw_s, if_pos rfl, X7_takeIf h (by omega) (by decide)]
      by_cases e3 : lT M t N (pSum (lT M t N) p).1 = 62
      · rw [if_pos e3, mbw_s, if_neg (by decide), if_pos (show isCp _ from Or.inr (Or.inl e3))]
        exact nx (lk_lt e3 (by decide))
      · rw [if_neg e3, mbw_s, if_pos rfl, X7_demand h (by omega) (by decide)]
        by_cases e4 : lT M t N (pSum (lT M t N) p).1 = 61
        · rw [if_pos e4, mbp_s, if_pos (show isCp _ from Or.inr (Or.inr e4))]
          exact nx (lk_lt e4 (by decide))
        · rw [if_neg e4, mbp_s, X4_sumF (nle0 (by omega)), mbp_s, if_neg (fun q => by rcases q with q | q | q <;> contradiction), rdR_n (x := ((pSum (lT M t N) p).1, false)) Bool.false_ne_true]
  · rw [rdR_n e, if_neg e, rdR_n e, X7_takeIfF (by decide) (nle0 (by omega)), mbw_s, if_pos rfl, X7_takeIfF (by decide) (nle0 (by omega)), mbw_s, if_pos rfl, X7_demandF (by decide) (nle0 (by omega)), mbp_s, X4_sumF (nle0 (by omega)), mbp_s]
theorem X4_act {t N p : Nat} {M : mM} (h : txt 78 M t N) (hp : p ≤ N) : f_X4_readAct (rdM 78 M p (-1)) = some (rdR 78 M (pAct (lT M t N) p)) := by
  have hN := h.2.2.2.2.1
  unfold f_X4_readAct f_X4_readAct_b38 pAct
  rw [X7_takeIf h (by omega) (by decide)]
  by_cases e1 : lT M t N p = 103
  · have l1 := lk_lt e1 (by decide)
    have d0 : f_X7_demandDigit 78 0 7 (rdM 78 M (p + 1) (-1)) = some (if dg (lT M t N) (p + 1) 0 7 then (nI (dv (lT M t N) (p + 1)), rdM 78 M (p + 2) (-1)) else (nI 0, rdM 78 M (p + 1) (nI (p + 1)))) := X7_digit (lo := 0) (hi := 7) h (by omega) (by decide) (by decide)
    rw [if_pos e1, if_pos e1, mbw_s, if_neg (by decide), d0]
    by_cases e2 : dg (lT M t N) (p + 1) 0 7
    · rw [if_pos e2, if_pos e2, mbw_s, rdR_y (x := (p + 2, true)) rfl]
    · rw [if_neg e2, if_neg e2, mbw_s, rdR_n (x := (p + 1, false)) Bool.false_ne_true]
  · rw [if_neg e1, if_neg e1, mbw_s, if_pos rfl, X7_takeIf h (by omega) (by decide)]
    by_cases e2 : lT M t N p = 121
    · have l1 := lk_lt e2 (by decide)
      rw [if_pos e2, mbw_s, if_neg (by decide), X4_sum h (by omega), mbp_s, if_pos (Or.inl e2)]
    · rw [if_neg e2, mbw_s, if_pos rfl, X7_takeIf h (by omega) (by decide)]
      by_cases e3 : lT M t N p = 61
      · have l1 := lk_lt e3 (by decide)
        rw [if_pos e3, mbw_s, if_neg (by decide), X4_sum h (by omega), mbp_s, if_pos (Or.inr e3)]
      · rw [if_neg e3, mbw_s, if_pos rfl, X7_fail, mbp_s, if_neg (fun q => by rcases q with q | q <;> contradiction), rdR_n (x := (p, false)) Bool.false_ne_true]
theorem X4_actF {p : Nat} {f : Int32} {M : mM} (hf : 0 ≤ f) : f_X4_readAct (rdM 78 M p f) = some (rdM 78 M p f) := by
  unfold f_X4_readAct
  rw [X7_takeIfF (by decide) hf, mbw_s, if_pos rfl, X7_takeIfF (by decide) hf, mbw_s, if_pos rfl, X7_takeIfF (by decide) hf, mbw_s, if_pos rfl, X7_failF hf, mbp_s]
theorem X4_b31F {p : Nat} {f : Int32} {M : mM} (hf : 0 ≤ f) : f_X4_readRule_b31 (rdM 78 M p f) = some (rdM 78 M p f) := by
  unfold f_X4_readRule_b31
  rw [X7_demandF (by decide) hf, mbp_s, X4_actF hf, mbp_s, X7_demandF (by decide) hf, mbp_s]
theorem X4_b31 {t N p : Nat} {M : mM} (h : txt 78 M t N) (hp : p ≤ N) : f_X4_readRule_b31 (rdM 78 M p (-1)) = some (rdR 78 M (pTl (lT M t N) p)) := by
  have hN := h.2.2.2.2.1
  unfold f_X4_readRule_b31 pTl
  rw [X7_demand h (by omega) (by decide)]
  by_cases e1 : lT M t N p = 63
  · have l1 := lk_lt e1 (by decide)
    obtain ⟨a1, a2⟩ := (show pOK N _ (pAct (lT M t N) _) from p_act (T := M.1 t) (show p + 1 ≤ N by omega))
    rw [if_pos e1, if_pos e1, mbp_s, X4_act h (by omega), mbp_s]
    by_cases e2 : (pAct (lT M t N) (p + 1)).2 = true
    · rw [rdR_y e2, if_pos e2, X7_demand h (by omega) (by decide)]
      by_cases e3 : lT M t N (pAct (lT M t N) (p + 1)).1 = 59
      · rw [if_pos e3, if_pos e3, mbp_s, rdR_y (x := ((pAct (lT M t N) (p + 1)).1 + 1, true)) rfl]
      · rw [if_neg e3, if_neg e3, mbp_s, rdR_n (x := ((pAct (lT M t N) (p + 1)).1, false)) Bool.false_ne_true]
    · rw [rdR_n e2, if_neg e2, rdR_n e2, X7_demandF (by decide) (nle0 (by omega)), mbp_s]
  · rw [if_neg e1, if_neg e1, mbp_s, X4_actF (nle0 (by omega)), mbp_s, X7_demandF (by decide) (nle0 (by omega)), mbp_s, rdR_n (x := (p, false)) Bool.false_ne_true]
theorem X4_lt {t N j : Nat} {M : mM} (h : txt 78 M t N) (d : Nat) : ∀ k p, k + d = 90 → p ≤ N → N ≤ p + d → f_X4_readRule_b6 (j + d + 1) (nI k) (rdM 78 M p (-1)) = some (rdR 78 M (if (pLt (lT M t N) d p).2 = true then pTl (lT M t N) (pLt (lT M t N) d p).1 else pLt (lT M t N) d p)) := by
  have hN := h.2.2.2.2.1
  induction d with
  | zero =>
    intro k p hk hp _
    rw [f_X4_readRule_b6, if_pos ((lle (m := 90) (by decide) (by omega)).mpr (show 90 ≤ _ by omega)), X4_b31 h hp]
    rfl
  | succ d ih =>
    intro k p hk hp hd
    rw [f_X4_readRule_b6, if_neg (fun q => by have : 90 ≤ _ := (lle (m := 90) (by decide) (by omega)).mp q; omega), X7_takeIf h (by omega) (by decide), pLt]
    by_cases e : lT M t N p = 38
    · have l1 := lk_lt e (by decide)
      obtain ⟨a1, a2⟩ := (show pOK N _ (pChk (lT M t N) _) from p_chk (T := M.1 t) (show p + 1 ≤ N by omega))
      rw [if_pos e, if_pos e, mbw_s, if_neg (by decide), X4_chk h (by omega), mbp_s, mlt_s, nI_1]
      by_cases e2 : (pChk (lT M t N) (p + 1)).2 = true
      · have a2 := a2 e2
        rw [rdR_y e2, if_pos e2]
        exact ih (k + 1) _ (by omega) a1 (by omega)
      · rw [rdR_n e2, if_neg e2, if_neg e2, rdR_n e2]
        show f_X4_readRule_b6 (j + d + 1) _ _ = _
        rw [f_X4_readRule_b6]
        by_cases e5 : (90 : Int32) ≤ nI (k + 1)
        · rw [if_pos e5, X4_b31F (nle0 (by omega))]
        · rw [if_neg e5, X7_takeIfF (by decide) (nle0 (by omega)), mbw_s, if_pos rfl, X4_b31F (nle0 (by omega))]
    · rw [if_neg e, if_neg e, mbw_s, if_pos rfl, X4_b31 h hp]
      rfl
theorem X4_rule {t N p : Nat} {M : mM} (h : txt 78 M t N) (hp : p ≤ N) : f_X4_readRule (rdM 78 M p (-1)) = some (rdR 78 M (pRl (lT M t N) p)) := by
  have hN := h.2.2.2.2.1
  obtain ⟨a1, a2⟩ := (show pOK N _ (pChk (lT M t N) _) from p_chk (T := M.1 t) hp)
  obtain ⟨m, hm⟩ := mN_ge (k := 91) (by omega)
  have hm : mN = m + 90 + 1 := by omega
  unfold f_X4_readRule pRl pTst
  rw [X4_chk h hp, mbp_s, hm]
  by_cases e2 : (pChk (lT M t N) p).2 = true
  · rw [rdR_y e2, if_pos e2]
    exact X4_lt h 90 0 _ rfl a1 (by omega)
  · rw [rdR_n e2, if_neg e2, if_neg e2, rdR_n e2, f_X4_readRule_b6, if_neg (by decide), X7_takeIfF (by decide) (nle0 (by omega)), mbw_s, if_pos rfl, X4_b31F (nle0 (by omega))]
theorem X4_ruleF {p : Nat} {f : Int32} {M : mM} (hf : 0 ≤ f) : f_X4_readRule (rdM 78 M p f) = some (rdM 78 M p f) := by
  obtain ⟨m, hm⟩ := mN_ge (k := 91) (by omega)
  have hm : mN = m + 90 + 1 := by omega
  unfold f_X4_readRule f_X4_readCheck f_X4_readCheck_b28
  rw [X4_sumF hf, mbp_s, X7_takeIfF (by decide) hf, mbw_s, if_pos rfl, X7_takeIfF (by decide) hf, mbw_s, if_pos rfl, X7_demandF (by decide) hf, mbp_s, X4_sumF hf, mbp_s, mbp_s, hm, f_X4_readRule_b6, if_neg (by decide), X7_takeIfF (by decide) hf, mbw_s, if_pos rfl, X4_b31F hf]
/-- the RULES behind the first -/
theorem X4_lrF {t N j q1 p : Nat} {f : Int32} {M : mM} (h : txt 78 M t N) (hp : p < 2147483648) (hf : 0 ≤ f) (d : Nat) : ∀ k, k + d = 6 → 0 < k → f_X4_check_b14 (j + d + 1) q1 (nI k) (rdM 78 M p f) = some (rdM 78 M p f) := by
  induction d with
  | zero =>
    intro k hk _
    rw [f_X4_check_b14, if_pos ((lle (m := 6) (by decide) (by omega)).mpr (show 6 ≤ _ by omega))]
    unfold f_X4_check_b41
    rw [X7_endFF h hp hf, mbp_s]
  | succ d ih =>
    intro k hk h0
    rw [f_X4_check_b14, if_neg (fun q => by have : 6 ≤ _ := (lle (m := 6) (by decide) (by omega)).mp q; omega), if_neg (fun q => by have : _ = 0 := (eqL (m := 0) (by decide) (by omega)).mp q; omega), X7_end h hp]
    by_cases e : N ≤ p
    · rw [tf_y e, if_neg (by decide)]
      unfold f_X4_check_b41
      rw [X7_endFF h hp hf, mbp_s]
    · rw [tf_n e, if_pos rfl]
      unfold f_X4_check_b31
      rw [X4_ruleF hf, mbp_s, mlt_s, nI_1]
      exact ih (k + 1) (by omega) (by omega)
theorem X4_lr {t N j q1 : Nat} {M : mM} (h : txt 78 M t N) (d : Nat) : ∀ k p, k + d = 6 → 0 < k → p ≤ N → f_X4_check_b14 (j + d + 1) q1 (nI k) (rdM 78 M p (-1)) = some (rdR 78 M (pLr (lT M t N) N d p)) := by
  have hN := h.2.2.2.2.1
  induction d with
  | zero =>
    intro k p hk _ hp
    rw [f_X4_check_b14, if_pos ((lle (m := 6) (by decide) (by omega)).mpr (show 6 ≤ _ by omega)), pLr]
    unfold f_X4_check_b41
    rw [X7_endF h (by omega), mbp_s]
    by_cases e : N ≤ p
    · rw [if_pos e, rdR_y (x := (p, decide (N ≤ p))) (decide_eq_true e)]
    · rw [if_neg e, rdR_n (x := (p, decide (N ≤ p))) (fun q => e (of_decide_eq_true q))]
  | succ d ih =>
    intro k p hk h0 hp
    rw [f_X4_check_b14, if_neg (fun q => by have : 6 ≤ _ := (lle (m := 6) (by decide) (by omega)).mp q; omega), if_neg (fun q => by have : _ = 0 := (eqL (m := 0) (by decide) (by omega)).mp q; omega), X7_end h (by omega), pLr]
    by_cases e : N ≤ p
    · rw [tf_y e, if_neg (by decide), if_pos e]
      unfold f_X4_check_b41
      rw [X7_endF h (by omega), if_pos e, mbp_s, rdR_y (x := (p, true)) rfl]
    · obtain ⟨a1, a2⟩ := (show pOK N _ (pRl (lT M t N) _) from p_rl (T := M.1 t) hp)
      rw [tf_n e, if_pos rfl, if_neg e]
      unfold f_X4_check_b31
      rw [X4_rule h hp, mbp_s, mlt_s, nI_1]
      by_cases e2 : (pRl (lT M t N) p).2 = true
      · rw [rdR_y e2, if_pos e2]
        exact ih (k + 1) _ (by omega) (by omega) a1
      · rw [rdR_n e2, if_neg e2, rdR_n e2]
        exact X4_lrF h (by omega) (nle0 (by omega)) d (k + 1) (by omega) (by omega)
theorem X4_check {q N : Nat} {M : mM} (hr : isRow (q + 1)) (hq : q + 1 ≠ 78) (hq2 : q ≠ 78) (hN : N ≤ 90) (hs : M.1 q 1 = nI N) (hT : ∀ i, i < N → M.1 (q + 1) i ≠ -1000) : ∃ M', f_X4_check q M = some M' ∧ (∀ k, k ≠ 78 → M'.1 k = M.1 k) ∧ M'.2.1 = M.2.1 ∧ M'.1 78 3 = (if (pPr (lk (M.1 (q + 1)) N) N).2 = true then -1 else nI (pPr (lk (M.1 (q + 1)) N) N).1) := by
  have hx := txt_op (r := 78) hr hq hN hT
  generalize hM1 : mI (mT M 78 (q + 1)) 78 1 (nI N) = M1 at hx
  have hk : ∀ k, k ≠ 78 → M1.1 k = M.1 k := fun k hk => by rw [← hM1, mI_ne hk]; rfl
  have hJ : M1.2.1 = M.2.1 := by rw [← hM1]; rfl
  have hl : lT M1 (q + 1) N = lk (M.1 (q + 1)) N := by unfold lT; rw [hk _ hq]
  obtain ⟨m, hm⟩ := mN_ge (k := 7) (by omega)
  have hm : mN = m + 5 + 1 + 1 := by omega
  obtain ⟨a1, a2⟩ := (show pOK N _ (pRl (lT M1 (q + 1) N) _) from p_rl (T := M1.1 (q + 1)) (Nat.zero_le N))
  have res : f_X4_check q M = some (rdR 78 M1 (pPr (lT M1 (q + 1) N) N)) := by
    unfold f_X4_check pPr
    rw [hs, X7_open hN, mbp_s, hM1, hm, f_X4_check_b14, if_neg (by decide), if_pos rfl]
    unfold f_X4_check_b31
    rw [X4_rule hx (Nat.zero_le N), mbp_s, mlt_s]
    by_cases e2 : (pRl (lT M1 (q + 1) N) 0).2 = true
    · rw [rdR_y e2, if_pos e2]
      exact X4_lr hx 5 1 _ rfl (by decide) a1
    · rw [rdR_n e2, if_neg e2, rdR_n e2]
      exact X4_lrF hx (by omega) (nle0 (by omega)) 5 1 rfl (by decide)
  rw [hl] at res
  exact ⟨_, res, fun k hk2 => by rw [rd_k hk2, hk k hk2], hJ, rd_3⟩
