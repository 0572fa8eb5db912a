/-! the class runs a PROGRAM for a CUBE -/
abbrev sd (A : Bd) (c w : Nat) : Int32 := bG A (stp (bP A c) w)
def hf (heard : Nat → Int32) (v : Int32) : Int32 := if 0 ≤ v then heard v.toNatClampNeg else 0
noncomputable def fld (A : Bd) (t : Int32) (mem heard : Nat → Int32) (c : Nat) (l : Int32) : Int32 :=
  if l = 69 then hf heard (sd A c 0) else if l = 78 then hf heard (sd A c 1) else if l = 83 then hf heard (sd A c 3) else if l = 87 then hf heard (sd A c 2)
  else if l = 101 then tf (0 ≤ sd A c 0) else if l = 109 then mem c else if l = 110 then tf (0 ≤ sd A c 1) else if l = 112 then bW A c else if l = 115 then tf (0 ≤ sd A c 3) else if l = 116 then t - t / 10 * 10 else if l = 119 then tf (0 ≤ sd A c 2) else 0
/-- what the class's cells hold for it -/
def cEn (M : mM) (A : Bd) (t : Int32) (mem heard : Nat → Int32) : Prop := wf A ∧ repB 2 M A ∧ M.1 1 1 = t ∧ ∀ c, c < bN A → M.1 10 c = mem c ∧ M.1 12 c = heard c
theorem cEn_rd {M : mM} {A : Bd} {t : Int32} {mem heard : Nat → Int32} {p : Nat} {f : Int32} (h : cEn M A t mem heard) : cEn (rdM 76 M p f) A t mem heard := by
  obtain ⟨h1, h2, h3, h4⟩ := h
  refine ⟨h1, repB_fr (by rw [rd_k (by omega)]) (rd_k (by omega)) (rd_k (by omega)) (rd_k (by omega)) (rd_k (by omega)) (rd_k (by omega)) h2, by rw [rd_k (by omega)]; exact h3, fun c hc => ?_⟩
  rw [rd_k (by omega), rd_k (by omega)]
  exact h4 c hc
theorem X1_beside {M : mM} {A : Bd} {c w : Nat} (hw : wf A) (hB : repB 2 M A) (hc : c < bN A) (hw4 : w < 4) : f_X1_beside (nI c) (nI w) M = some (sd A c w) := by
  have hn := hw.1
  have hp := (hw.2.1 c hc).1
  unfold f_X1_beside
  rw [mgd_s ((nin (by omega)).mpr (by omega)), mgd_s ((nin (by omega)).mpr (by omega)), ncl (by omega), ncl (by omega), show M.1 4 c = nI (bP A c) from hB.2.2.1 c hc, stp_goes hp (by omega), X0_inCell hB (stp_lt hp (by omega)), mbp_s]
theorem X1_heard {M : mM} {A : Bd} {t : Int32} {mem heard : Nat → Int32} {c w : Nat} (h : cEn M A t mem heard) (hc : c < bN A) (hw4 : w < 4) : f_X1_heardFrom (sd A c w) M = some (hf heard (sd A c w)) := by
  obtain ⟨hw, hB, h3, h4⟩ := h
  have hn := hw.1
  have hp := (hw.2.1 c hc).1
  unfold f_X1_heardFrom hf
  by_cases e : 0 ≤ sd A c w
  · obtain ⟨a1, a2, -⟩ := g_c hw (stp_lt hp (show w < 8 by omega)) e
    rw [if_pos e, if_pos e, mgd_s (by rw [show sd A c w = nI (ix A (stp (bP A c) w)) from a2]; exact (nin (by omega)).mpr (by omega))]
    exact congrArg some (h4 _ a1).2
  · rw [if_neg e, if_neg e]
theorem c_val {M : mM} {A : Bd} {t : Int32} {mem heard : Nat → Int32} {c tx N p : Nat} (h : cEn M A t mem heard) (hx : txt 76 M tx N) (hc : c < bN A) (hp : p ≤ N) (hok : (pAtom (lT M tx N) p).2 = true) (hnd : ¬ dg (lT M tx N) (pAtom (lT M tx N) p).1 0 9) : f_X1_value (nI c) (rdM 76 M p (-1)) = some (vAtom (lT M tx N) (fld A t mem heard c) p, rdM 76 M (pAtom (lT M tx N) p).1 (-1)) := by
  have hN := hx.2.2.2.2.1
  have hn := h.1.1
  have g : mIn (nI c) 16 := (nin (by omega)).mpr (by omega)
  have hr := cEn_rd (p := p + 1) (f := -1) h
  obtain ⟨hw, hB, h3, h4⟩ := id hr
  have bs : ∀ w, w < 4 → f_X1_beside (nI c) (nI w) (rdM 76 M (p + 1) (-1)) = some (sd A c w) := fun w hw4 => X1_beside hw hB hc hw4
  have b0 : f_X1_beside (nI c) 0 (rdM 76 M (p + 1) (-1)) = _ := bs 0 (by decide)
  have b1 : f_X1_beside (nI c) 1 (rdM 76 M (p + 1) (-1)) = _ := bs 1 (by decide)
  have b2 : f_X1_beside (nI c) 2 (rdM 76 M (p + 1) (-1)) = _ := bs 2 (by decide)
  have b3 : f_X1_beside (nI c) 3 (rdM 76 M (p + 1) (-1)) = _ := bs 3 (by decide)
  have hs : ∀ w, w < 4 → f_X1_heardFrom (sd A c w) (rdM 76 M (p + 1) (-1)) = some (hf heard (sd A c w)) := fun w hw4 => X1_heard hr hc hw4
  have hh : ∀ v : Int32, (if v < 0 then (some ((f_X9_oneIf 0), rdM 76 M (p + 1) (-1)) : Option (Int32 × mM)) else some ((f_X9_oneIf 1), rdM 76 M (p + 1) (-1))) = some (tf (0 ≤ v), rdM 76 M (p + 1) (-1)) := fun v => by
    by_cases e : v < 0
    · rw [if_pos e, tf_n (by grind)]; rfl
    · rw [if_neg e, tf_y (by grind)]; rfl
  have hpN : p < N := by
    by_cases q : p < N
    · exact q
    · rw [show lT M tx N = lk (M.1 tx) N from rfl, p_none q] at hok
      exact absurd hok Bool.false_ne_true
  unfold f_X1_value f_X1_value_b118 f_X1_value_b136 f_X1_value_b154 f_X1_value_b172
  rw [X7_take hx hpN, mbw_s]
  by_cases ef : f_X4_isField (lT M tx N p) ≠ 0
  · have e1 : pAtom (lT M tx N) p = (p + 1, true) := by unfold pAtom; rw [if_pos ef]
    have e2 : vAtom (lT M tx N) (fld A t mem heard c) p = fld A t mem heard c (lT M tx N p) := by unfold vAtom; rw [if_pos ef]
    rw [e1, e2]
    unfold fld
    by_cases q1 : lT M tx N p = 69
    · rw [if_pos q1, if_pos q1, b0, mbp_s, hs 0 (by decide), mbp_s]
    rw [if_neg q1, if_neg q1]
    by_cases q2 : lT M tx N p = 78
    · rw [if_pos q2, if_pos q2, b1, mbp_s, hs 1 (by decide), mbp_s]
    rw [if_neg q2, if_neg q2]
    by_cases q3 : lT M tx N p = 83
    · rw [if_pos q3, if_pos q3, b3, mbp_s, hs 3 (by decide), mbp_s]
    rw [if_neg q3, if_neg q3]
    by_cases q4 : lT M tx N p = 87
    · rw [if_pos q4, if_pos q4, b2, mbp_s, hs 2 (by decide), mbp_s]
    rw [if_neg q4, if_neg q4]
    by_cases q5 : lT M tx N p = 101
    · rw [if_pos q5, if_pos q5, b0, mbp_s, hh]
    rw [if_neg q5, if_neg q5]
    by_cases q6 : lT M tx N p = 109
    · rw [if_pos q6, if_pos q6, mgd_s g, ncl (by omega), (h4 c hc).1]
    rw [if_neg q6, if_neg q6]
    by_cases q7 : lT M tx N p = 110
    · rw [if_pos q7, if_pos q7, b1, mbp_s, hh]
    rw [if_neg q7, if_neg q7]
    by_cases q8 : lT M tx N p = 112
    · rw [if_pos q8, if_pos q8, mgd_s g, ncl (by omega), show (rdM 76 M (p + 1) (-1)).1 5 c = bW A c from hB.2.2.2.1 c hc]
    rw [if_neg q8, if_neg q8]
    by_cases q9 : lT M tx N p = 115
    · rw [if_pos q9, if_pos q9, b3, mbp_s, hh]
    rw [if_neg q9, if_neg q9]
    by_cases q10 : lT M tx N p = 116
    · rw [if_pos q10, if_pos q10, h3]
    rw [if_neg q10, if_neg q10]
    by_cases q11 : lT M tx N p = 119
    · rw [if_pos q11, if_pos q11, b2, mbp_s, hh]
    · exfalso
      apply ef
      unfold f_X4_isField
      rw [if_neg q1, if_neg q2, if_neg q3, if_neg q4, if_neg q5, if_neg q6, if_neg q7, if_neg q8, if_neg q9, if_neg q10, if_neg q11]
  · have ed : dg (lT M tx N) p 0 9 := by
      by_cases q : dg (lT M tx N) p 0 9
      · exact q
      · unfold pAtom at hok
        rw [if_neg ef, if_neg q] at hok
        exact absurd hok Bool.false_ne_true
    have d1 : (48 : Int32) ≤ lT M tx N p := ed.1
    have d2 : lT M tx N p ≤ 57 := ed.2
    rw [if_neg (by grind), if_neg (by grind), if_neg (by grind), if_neg (by grind), if_neg (by grind), if_neg (by grind), if_neg (by grind), if_neg (by grind), if_neg (by grind), if_neg (by grind), if_neg (by grind), X7_isDigit hx (by omega), mbp_s]
    unfold vAtom
    rw [if_neg ef]
    by_cases q48 : lT M tx N p = 48
    · have e1 : pAtom (lT M tx N) p = (p + 1, true) := by unfold pAtom; rw [if_neg ef, if_pos ed, if_pos q48]
      rw [e1] at hnd ⊢
      rw [tf_n hnd, if_pos rfl, if_pos q48, q48]
      rfl
    · rw [if_neg q48]
      by_cases q2 : dg (lT M tx N) (p + 1) 0 9
      · have l2 := dg_lt (by decide) q2
        have e1 : pAtom (lT M tx N) p = (p + 2, true) := by unfold pAtom; rw [if_neg ef, if_pos ed, if_neg q48, if_pos q2]
        rw [tf_y q2, if_neg (by decide), X7_take hx l2, mbw_s, if_pos q2, e1]
      · have e1 : pAtom (lT M tx N) p = (p + 1, true) := by unfold pAtom; rw [if_neg ef, if_pos ed, if_neg q48, if_neg q2]
        rw [tf_n q2, if_pos rfl, if_neg q2, e1]
theorem nd_c {l : Nat → Int32} {p : Nat} {v : Int32} (h : l p = v) (hv : v < 48 ∨ 57 < v) : ¬ dg l p 0 9 := by
  intro q
  have q1 : (48 : Int32) ≤ l p := q.1
  have q2 : l p ≤ 57 := q.2
  rw [h] at q1 q2
  rcases hv with hv | hv <;> grind
theorem nd_pm {l : Nat → Int32} {p : Nat} (h : isPM (l p)) : ¬ dg l p 0 9 := by
  rcases h with h | h
  · exact nd_c h (Or.inl (by decide))
  · exact nd_c h (Or.inl (by decide))
theorem nd_ls {l : Nat → Int32} {k p : Nat} (hnd : ¬ dg l (pLs l k p).1 0 9) : ¬ dg l p 0 9 := by
  cases k with
  | zero => exact hnd
  | succ k =>
    by_cases e : isPM (l p)
    · exact nd_pm e
    · rw [pLs, if_neg e] at hnd
      exact hnd
theorem c_ls {M : mM} {A : Bd} {t : Int32} {mem heard : Nat → Int32} {c tx N j : Nat} (h : cEn M A t mem heard) (hx : txt 76 M tx N) (hc : c < bN A) (k : Nat) : ∀ kk p v, kk + k = 90 → p ≤ N → (pLs (lT M tx N) k p).2 = true → ¬ dg (lT M tx N) (pLs (lT M tx N) k p).1 0 9 → f_X1_addUp_b8 (j + k + 1) (nI c) v (nI kk) (rdM 76 M p (-1)) = some (vLs (lT M tx N) (fld A t mem heard c) k p v, rdM 76 M (pLs (lT M tx N) k p).1 (-1)) := by
  have hN := hx.2.2.2.2.1
  induction k with
  | zero =>
    intro kk p v hk hp hok hnd
    rw [f_X1_addUp_b8, if_pos ((lle (m := 90) (by decide) (by omega)).mpr (show 90 ≤ _ by omega))]
    rfl
  | succ k ih =>
    intro kk p v hk hp hok hnd
    rw [f_X1_addUp_b8, if_neg (fun q => by have : 90 ≤ _ := (lle (m := 90) (by decide) (by omega)).mp q; omega), X7_pm hx (by omega), mbp_s]
    by_cases e : isPM (lT M tx N p)
    · have l1 : p < N := by rcases e with e | e <;> exact lk_lt e (by decide)
      obtain ⟨a1, a2⟩ := (show pOK N _ (pAtom (lT M tx N) _) from p_atom (T := M.1 tx) (show p + 1 ≤ N by omega))
      rw [pLs, if_pos e] at hok hnd ⊢
      by_cases e2 : (pAtom (lT M tx N) (p + 1)).2 = true
      · rw [if_pos e2] at hok hnd ⊢
        rw [tf_y e, if_neg (by decide), X7_take hx l1, mbw_s, c_val h hx hc (by omega) e2 (nd_ls hnd), mbw_s, vLs, if_pos e, nI_1]
        by_cases e3 : lT M tx N p = 43
        · rw [if_pos e3, if_pos e3, mlt_s]
          exact ih (kk + 1) _ _ (by omega) a1 hok hnd
        · rw [if_neg e3, if_neg e3, mlt_s]
          exact ih (kk + 1) _ _ (by omega) a1 hok hnd
      · rw [if_neg e2] at hok
        exact absurd hok e2
    · rw [pLs, if_neg e, vLs, if_neg e, tf_n e, if_pos rfl]
theorem c_sum {M : mM} {A : Bd} {t : Int32} {mem heard : Nat → Int32} {c tx N p : Nat} (h : cEn M A t mem heard) (hx : txt 76 M tx N) (hc : c < bN A) (hp : p ≤ N) (hok : (pSum (lT M tx N) p).2 = true) (hnd : ¬ dg (lT M tx N) (pSum (lT M tx N) p).1 0 9) : f_X1_addUp (nI c) (rdM 76 M p (-1)) = some (vSum (lT M tx N) (fld A t mem heard c) p, rdM 76 M (pSum (lT M tx N) p).1 (-1)) := by
  have hN := hx.2.2.2.2.1
  obtain ⟨m, hm⟩ := mN_ge (k := 91) (by omega)
  have hm : mN = m + 90 + 1 := by omega
  obtain ⟨a1, a2⟩ := (show pOK N _ (pAtom (lT M tx N) _) from p_atom (T := M.1 tx) hp)
  unfold f_X1_addUp
  unfold pSum at hok hnd ⊢
  by_cases e2 : (pAtom (lT M tx N) p).2 = true
  · rw [if_pos e2] at hok hnd ⊢
    rw [c_val h hx hc hp e2 (nd_ls hnd), mbw_s, hm]
    exact c_ls h hx hc 90 0 _ _ rfl a1 hok hnd
  · rw [if_neg e2] at hok
    exact absurd hok e2
/-- behind a check: its answer is kept, the next sign is taken -/
theorem c_110 {M : mM} {tx N q : Nat} {H : Prop} {k7 : Int32 → Int32 → Int32 → Int32 → mM → Option (Int32 × mM)} {c kk : Nat} (hx : txt 76 M tx N) (hq : q < N) : f_X1_testHolds_b110 k7 (nI c) (nI kk) (tf H) (rdM 76 M q (-1)) = if lT M tx N q = 38 then k7 (nI c) (tf H) 1 (nI (kk + 1)) (rdM 76 M (q + 1) (-1)) else k7 (nI c) (tf H) 0 (nI (kk + 1)) (rdM 76 M (q + 1) (-1)) := by
  unfold f_X1_testHolds_b110
  rw [X7_take hx hq, mbw_s, nI_1]
  by_cases e : lT M tx N q = 38
  · rw [if_pos e, if_pos e, mlt_s]
  · rw [if_neg e, if_neg e, mlt_s]
theorem c_94 {k7 : Int32 → Int32 → Int32 → Int32 → mM → Option (Int32 × mM)} {i1 i4 : Int32} {H Q : Prop} {M : mM} : f_X1_testHolds_b94 k7 i1 (tf H) i4 (tf Q) M = f_X1_testHolds_b110 k7 i1 i4 (tf (H ∧ Q)) M := by
  unfold f_X1_testHolds_b94
  by_cases h : H
  · rw [tf_y h, if_neg (show ¬ (1 : Int32) = 0 by decide)]
    by_cases q : Q
    · rw [tf_y q, if_neg (show ¬ (1 : Int32) = 0 by decide), tf_y ⟨h, q⟩]
    · rw [tf_n q, if_pos (show (0 : Int32) = 0 from rfl), tf_n (fun k => q k.2)]
  · rw [tf_n h, if_pos (show (0 : Int32) = 0 from rfl), tf_n (fun k => h k.1)]
theorem c_chk {M : mM} {A : Bd} {t : Int32} {mem heard : Nat → Int32} {c tx N n kk p : Nat} {H : Prop} (h : cEn M A t mem heard) (hx : txt 76 M tx N) (hc : c < bN A) (hkk : kk ≤ p) (hp : p ≤ N) (ok1 : (pChk (lT M tx N) p).2 = true) (hq : lT M tx N (pChk (lT M tx N) p).1 = 38 ∨ lT M tx N (pChk (lT M tx N) p).1 = 63) : f_X1_testHolds_b7 (n + 1) (nI c) (tf H) 1 (nI kk) (rdM 76 M p (-1)) = f_X1_testHolds_b110 (f_X1_testHolds_b7 n) (nI c) (nI kk) (tf (H ∧ vChk (lT M tx N) (fld A t mem heard c) p)) (rdM 76 M (pChk (lT M tx N) p).1 (-1)) := by
  have hN := hx.2.2.2.2.1
  obtain ⟨z1, z2⟩ := (show pOK N _ (pChk (lT M tx N) _) from p_chk (T := M.1 tx) hp)
  obtain ⟨s1, s2⟩ := (show pOK N _ (pSum (lT M tx N) _) from p_sum (T := M.1 tx) hp)
  have z2 := z2 ok1
  have hnq : ¬ dg (lT M tx N) (pChk (lT M tx N) p).1 0 9 := by
    rcases hq with hq | hq
    · exact nd_c hq (Or.inl (by decide))
    · exact nd_c hq (Or.inr (by decide))
  have o1 : (pSum (lT M tx N) p).2 = true := by
    by_cases e : (pSum (lT M tx N) p).2 = true
    · exact e
    · unfold pChk at ok1
      rw [if_neg e] at ok1
      exact absurd ok1 e
  have o2 : isCp (lT M tx N (pSum (lT M tx N) p).1) := by
    by_cases e : isCp (lT M tx N (pSum (lT M tx N) p).1)
    · exact e
    · unfold pChk at ok1
      rw [if_pos o1, if_neg e] at ok1
      exact absurd ok1 Bool.false_ne_true
  have hc1 : pChk (lT M tx N) p = pSum (lT M tx N) ((pSum (lT M tx N) p).1 + 1) := by unfold pChk; rw [if_pos o1, if_pos o2]
  have l2 : (pSum (lT M tx N) p).1 < N := by rcases o2 with e2 | e2 | e2 <;> exact lk_lt e2 (by decide)
  have nd1 : ¬ dg (lT M tx N) (pSum (lT M tx N) p).1 0 9 := by
    rcases o2 with e2 | e2 | e2
    · exact nd_c e2 (Or.inr (by decide))
    · exact nd_c e2 (Or.inr (by decide))
    · exact nd_c e2 (Or.inr (by decide))
  have c2 := c_sum h hx hc (show (pSum (lT M tx N) p).1 + 1 ≤ N by omega) (by rw [← hc1]; exact ok1) (by rw [← hc1]; exact hnq)
  rw [f_X1_testHolds_b7, if_neg (fun q => by have : 90 ≤ _ := (lle (m := 90) (by decide) (by omega)).mp q; omega), if_neg (by decide), c_sum h hx hc hp o1 nd1, mbw_s, X7_take hx l2, mbw_s, c2, mbw_s, ← hc1]
  unfold vChk
  by_cases c1 : lT M tx N (pSum (lT M tx N) p).1 = 60
  · rw [if_pos c1, if_pos c1]
    by_cases d : vSum (lT M tx N) (fld A t mem heard c) ((pSum (lT M tx N) p).1 + 1) ≤ vSum (lT M tx N) (fld A t mem heard c) p
    · rw [if_pos d]
      have := @c_94 (f_X1_testHolds_b7 n) (nI c) (nI kk) H (vSum (lT M tx N) (fld A t mem heard c) p < vSum (lT M tx N) (fld A t mem heard c) ((pSum (lT M tx N) p).1 + 1)) (rdM 76 M (pChk (lT M tx N) p).1 (-1))
      rw [tf_n (P := vSum (lT M tx N) (fld A t mem heard c) p < vSum (lT M tx N) (fld A t mem heard c) ((pSum (lT M tx N) p).1 + 1)) (by grind)] at this
      exact this
    · rw [if_neg d]
      have := @c_94 (f_X1_testHolds_b7 n) (nI c) (nI kk) H (vSum (lT M tx N) (fld A t mem heard c) p < vSum (lT M tx N) (fld A t mem heard c) ((pSum (lT M tx N) p).1 + 1)) (rdM 76 M (pChk (lT M tx N) p).1 (-1))
      rw [tf_y (P := vSum (lT M tx N) (fld A t mem heard c) p < vSum (lT M tx N) (fld A t mem heard c) ((pSum (lT M tx N) p).1 + 1)) (by grind)] at this
      exact this
  · rw [if_neg c1, if_neg c1]
    by_cases c3 : lT M tx N (pSum (lT M tx N) p).1 = 62
    · rw [if_pos c3, if_pos c3]
      by_cases d : vSum (lT M tx N) (fld A t mem heard c) p ≤ vSum (lT M tx N) (fld A t mem heard c) ((pSum (lT M tx N) p).1 + 1)
      · rw [if_pos d]
        have := @c_94 (f_X1_testHolds_b7 n) (nI c) (nI kk) H (vSum (lT M tx N) (fld A t mem heard c) ((pSum (lT M tx N) p).1 + 1) < vSum (lT M tx N) (fld A t mem heard c) p) (rdM 76 M (pChk (lT M tx N) p).1 (-1))
        rw [tf_n (P := vSum (lT M tx N) (fld A t mem heard c) ((pSum (lT M tx N) p).1 + 1) < vSum (lT M tx N) (fld A t mem heard c) p) (by grind)] at this
        exact this
      · rw [if_neg d]
        have := @c_94 (f_X1_testHolds_b7 n) (nI c) (nI kk) H (vSum (lT M tx N) (fld A t mem heard c) ((pSum (lT M tx N) p).1 + 1) < vSum (lT M tx N) (fld A t mem heard c) p) (rdM 76 M (pChk (lT M tx N) p).1 (-1))
        rw [tf_y (P := vSum (lT M tx N) (fld A t mem heard c) ((pSum (lT M tx N) p).1 + 1) < vSum (lT M tx N) (fld A t mem heard c) p) (by grind)] at this
        exact this
    · rw [if_neg c3, if_neg c3]
      have := @c_94 (f_X1_testHolds_b7 n) (nI c) (nI kk) H (vSum (lT M tx N) (fld A t mem heard c) p = vSum (lT M tx N) (fld A t mem heard c) ((pSum (lT M tx N) p).1 + 1)) (rdM 76 M (pChk (lT M tx N) p).1 (-1))
      by_cases d : vSum (lT M tx N) (fld A t mem heard c) p = vSum (lT M tx N) (fld A t mem heard c) ((pSum (lT M tx N) p).1 + 1)
      · rw [tf_y d] at this
        rw [if_pos d]
        exact this
      · rw [tf_n d] at this
        rw [if_neg d]
        exact this
theorem c_end {M : mM} {tx N n q : Nat} {c kk : Nat} {Q : Prop} (hx : txt 76 M tx N) (hq : lT M tx N q = 63) : f_X1_testHolds_b110 (f_X1_testHolds_b7 (n + 1)) (nI c) (nI kk) (tf Q) (rdM 76 M q (-1)) = some (tf Q, rdM 76 M (q + 1) (-1)) := by
  rw [c_110 hx (lk_lt hq (by decide)), if_neg (by rw [hq]; decide), f_X1_testHolds_b7]
  by_cases e : (90 : Int32) ≤ nI (kk + 1)
  · rw [if_pos e, mgd_s tf_01]
  · rw [if_neg e, if_pos rfl, mgd_s tf_01]
theorem c_lt {M : mM} {A : Bd} {t : Int32} {mem heard : Nat → Int32} {c tx N j : Nat} (h : cEn M A t mem heard) (hx : txt 76 M tx N) (hc : c < bN A) (k : Nat) : ∀ kk p H, kk ≤ p → p ≤ N → (pChk (lT M tx N) p).2 = true → (pLt (lT M tx N) k (pChk (lT M tx N) p).1).2 = true → lT M tx N (pLt (lT M tx N) k (pChk (lT M tx N) p).1).1 = 63 → f_X1_testHolds_b7 (j + k + 2) (nI c) (tf H) 1 (nI kk) (rdM 76 M p (-1)) = some (tf (H ∧ vChk (lT M tx N) (fld A t mem heard c) p ∧ vLt (lT M tx N) (fld A t mem heard c) k (pChk (lT M tx N) p).1), rdM 76 M ((pLt (lT M tx N) k (pChk (lT M tx N) p).1).1 + 1) (-1)) := by
  have hN := hx.2.2.2.2.1
  induction k with
  | zero =>
    intro kk p H hkk hp ok1 ok2 h63
    have h63 : lT M tx N (pChk (lT M tx N) p).1 = 63 := h63
    show f_X1_testHolds_b7 (j + 1 + 1) (nI c) (tf H) 1 (nI kk) (rdM 76 M p (-1)) = _
    rw [c_chk h hx hc hkk hp ok1 (Or.inr h63), c_end hx h63]
    refine congrArg some (Prod.ext (tf_c ⟨fun q => ⟨q.1, q.2, trivial⟩, fun q => ⟨q.1, q.2.1⟩⟩) rfl)
  | succ k ih =>
    intro kk p H hkk hp ok1 ok2 h63
    obtain ⟨z1, z2⟩ := (show pOK N _ (pChk (lT M tx N) _) from p_chk (T := M.1 tx) hp)
    have z2 := z2 ok1
    show f_X1_testHolds_b7 (j + k + 1 + 1 + 1) (nI c) (tf H) 1 (nI kk) (rdM 76 M p (-1)) = _
    by_cases e : lT M tx N (pChk (lT M tx N) p).1 = 38
    · have l1 := lk_lt e (by decide)
      rw [pLt, if_pos e] at ok2 h63 ⊢
      have ok3 : (pChk (lT M tx N) ((pChk (lT M tx N) p).1 + 1)).2 = true := by
        by_cases q : (pChk (lT M tx N) ((pChk (lT M tx N) p).1 + 1)).2 = true
        · exact q
        · rw [if_neg q] at ok2; exact absurd ok2 q
      rw [if_pos ok3] at ok2 h63 ⊢
      rw [c_chk h hx hc hkk hp ok1 (Or.inl e), c_110 hx l1, if_pos e]
      refine (ih (kk + 1) _ _ (by omega) (by omega) ok3 ok2 h63).trans ?_
      refine congrArg some (Prod.ext (tf_c ?_) rfl)
      show _ ↔ _ ∧ _ ∧ (lT M tx N (pChk (lT M tx N) p).1 = 38 → vChk (lT M tx N) (fld A t mem heard c) ((pChk (lT M tx N) p).1 + 1) ∧ vLt (lT M tx N) (fld A t mem heard c) k (pChk (lT M tx N) ((pChk (lT M tx N) p).1 + 1)).1)
      constructor
      · rintro ⟨⟨y1, y2⟩, y3, y4⟩; exact ⟨y1, y2, fun _ => ⟨y3, y4⟩⟩
      · rintro ⟨y1, y2, y3⟩; exact ⟨⟨y1, y2⟩, (y3 e).1, (y3 e).2⟩
    · rw [pLt, if_neg e] at h63 ⊢
      have h63 : lT M tx N (pChk (lT M tx N) p).1 = 63 := h63
      rw [c_chk h hx hc hkk hp ok1 (Or.inr h63), c_end hx h63]
      refine congrArg some (Prod.ext (tf_c ⟨fun q => ⟨q.1, q.2, fun x => absurd x e⟩, fun q => ⟨q.1, q.2.1⟩⟩) rfl)
theorem c_tst {M : mM} {A : Bd} {t : Int32} {mem heard : Nat → Int32} {c tx N p : Nat} (h : cEn M A t mem heard) (hx : txt 76 M tx N) (hc : c < bN A) (hp : p ≤ N) (ok : (pTst (lT M tx N) p).2 = true) (h63 : lT M tx N (pTst (lT M tx N) p).1 = 63) : f_X1_testHolds (nI c) (rdM 76 M p (-1)) = some (tf (vTst (lT M tx N) (fld A t mem heard c) p), rdM 76 M ((pTst (lT M tx N) p).1 + 1) (-1)) := by
  obtain ⟨m, hm⟩ := mN_ge (k := 92) (by omega)
  have hm : mN = m + 90 + 2 := by omega
  have ok1 : (pChk (lT M tx N) p).2 = true := by
    by_cases q : (pChk (lT M tx N) p).2 = true
    · exact q
    · unfold pTst at ok
      rw [if_neg q] at ok; exact absurd ok q
  have hr : pTst (lT M tx N) p = pLt (lT M tx N) 90 (pChk (lT M tx N) p).1 := by unfold pTst; rw [if_pos ok1]
  rw [hr] at ok h63 ⊢
  unfold f_X1_testHolds
  have e1 : (1 : Int32) = tf True := (tf_y trivial).symm
  have := c_lt (j := m) h hx hc 90 0 p True (Nat.zero_le _) hp ok1 ok h63
  rw [← hm, tf_y (P := True) trivial] at this
  refine Eq.trans this ?_
  exact congrArg some (Prod.ext (tf_c ⟨fun q => q.2, fun q => ⟨trivial, q⟩⟩) rfl)
