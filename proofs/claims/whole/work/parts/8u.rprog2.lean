/-! tests, acts, rules, the whole PROGRAM, of the reference -/
theorem p_none {T : Nat → Int32} {N p : Nat} (h : ¬ p < N) : pAtom (lk T N) p = (p, false) := by
  have l := lk_n (T := T) h
  have h1 : ¬ f_X4_isField (lk T N p) ≠ 0 := by rw [l]; decide
  have h2 : ¬ dg (lk T N) p 0 9 := by
    show ¬ (nI (48 + 0) ≤ lk T N p ∧ lk T N p ≤ nI (48 + 9))
    rw [l]; decide
  unfold pAtom
  rw [if_neg h1, if_neg h2]
theorem tf_eq {P : Prop} (h : P) : (1 : Int32) = tf P := (tf_y h).symm
theorem r_132 {M : mM} {N q : Nat} {T R : Nat → Int32} {c : Int32} {Q : Prop} {k7 : Int32 → Int32 → mM → Option (Int32 × mM)} (h : rtR M N T R) (hq : R 10 = nI q) (hqN : q ≤ N) : f_X10_takesTest_b132 k7 c (tf Q) (sR M 96 R) = if lk T N q = 38 then k7 c 1 (sR M 96 (up (up R 21 (tf Q)) 10 (nI (q + 1)))) else k7 c 0 (sR M 96 (up R 21 (tf Q))) := by
  have hN := h.2.1
  have h1 : rtR M N T (up R 21 (tf Q)) := rtR_fr h (up_n (by decide)) (up_n (by decide)) (up_n (by decide))
  have h2 : up R 21 (tf Q) 10 = nI q := by rw [up_n (by decide)]; exact hq
  unfold f_X10_takesTest_b132 f_X10_takesTest_b149
  rw [mgd_s tf_01, mI_R, mlt_s, r_next h1 h2 (by omega), mbp_s]
  by_cases e : lk T N q = 38
  · rw [if_pos e, if_pos e, if_neg (by decide), sR_e, h2, nI_1, mI_R, mlt_s]
  · rw [if_neg e, if_neg e, if_pos rfl]
theorem r_lt {M : mM} {N j : Nat} {T : Nat → Int32} {c : Int32} {F : Int32 → Int32} (hF : fOK M c F) (k : Nat) : ∀ p R H, rtR M N T R → R 10 = nI p → R 21 = tf H → p ≤ N → N ≤ p + k → ∃ R', f_X10_takesTest_b7 (j + k + 2) c 1 (sR M 96 R) = some (bI (if (pChk (lk T N) p).2 = true then pLt (lk T N) k (pChk (lk T N) p).1 else pChk (lk T N) p).2, sR M 96 R') ∧ R' 10 = nI (if (pChk (lk T N) p).2 = true then pLt (lk T N) k (pChk (lk T N) p).1 else pChk (lk T N) p).1 ∧ ((if (pChk (lk T N) p).2 = true then pLt (lk T N) k (pChk (lk T N) p).1 else pChk (lk T N) p).2 = true → R' 21 = tf (H ∧ vChk (lk T N) F p ∧ vLt (lk T N) F k (pChk (lk T N) p).1)) ∧ off [10, 12, 17, 21, 22] R R' := by
  induction k with
  | zero =>
    intro p R H h hp hH hpN hk
    have hN := h.2.1
    have e0 : pAtom (lk T N) p = (p, false) := p_none (by omega)
    have e1 : pSum (lk T N) p = (p, false) := by unfold pSum; rw [e0]; rfl
    have e2 : pChk (lk T N) p = (p, false) := by unfold pChk; rw [e1]; rfl
    obtain ⟨R1, a1, a2, a3, a4⟩ := r_sum h hF hp hpN
    rw [e1] at a1 a2
    rw [e2, f_X10_takesTest_b7, if_neg (by decide), a1, mbw_s]
    exact ⟨R1, rfl, a2, fun q => absurd q Bool.false_ne_true, off_sub (by decide) a4⟩
  | succ k ih =>
    intro p R H h hp hH hpN hk
    have hN := h.2.1
    obtain ⟨R1, a1, a2, a3, a4⟩ := r_sum h hF hp hpN
    obtain ⟨s1, s2⟩ := p_sum (T := T) hpN
    obtain ⟨z1, z2⟩ := p_chk (T := T) hpN
    have h1 : rtR M N T R1 := rtR_fr h (a4 8 (by decide)) (a4 9 (by decide)) (a4 11 (by decide))
    have o1 : off [10, 12, 17, 21, 22] R R1 := off_sub (by decide) a4
    rw [show j + (k + 1) + 2 = j + k + 2 + 1 from rfl, f_X10_takesTest_b7, if_neg (by decide), a1, mbw_s]
    by_cases e1 : (pSum (lk T N) p).2 = true
    · have a3 := a3 e1
      have s2 := s2 e1
      rw [e1, if_neg (by decide), r_next h1 a2 (by omega), mbp_s]
      by_cases e2 : isCp (lk T N (pSum (lk T N) p).1)
      · have l2 : (pSum (lk T N) p).1 < N := by rcases e2 with e2 | e2 | e2 <;> exact lk_lt e2 (by decide)
        have hc : pChk (lk T N) p = pSum (lk T N) ((pSum (lk T N) p).1 + 1) := by unfold pChk; rw [if_pos e1, if_pos e2]
        have h2 : rtR M N T (up R1 10 (nI ((pSum (lk T N) p).1 + 1))) := rtR_fr h1 (up_n (by decide)) (up_n (by decide)) (up_n (by decide))
        obtain ⟨R2, b1, b2, b3, b4⟩ := r_sum h2 hF up_e (show (pSum (lk T N) p).1 + 1 ≤ N by omega)
        have h3 : rtR M N T R2 := rtR_fr h2 (b4 8 (by decide)) (b4 9 (by decide)) (b4 11 (by decide))
        have o2 : off [10, 12, 17, 21, 22] R R2 := off_tr o1 (off_tr (off_up (by decide)) (off_sub (by decide) b4))
        have r21 : R2 21 = tf H := by rw [b4 21 (by decide), up_n (by decide), a4 21 (by decide)]; exact hH
        have main : ∃ R', f_X10_takesTest_b55 (f_X10_takesTest_b7 (j + k + 2)) c ((sR M 96 R1).1 96 17) (lk T N (pSum (lk T N) p).1) (sR M 96 R1) = some (bI (if (pChk (lk T N) p).2 = true then pLt (lk T N) (k + 1) (pChk (lk T N) p).1 else pChk (lk T N) p).2, sR M 96 R') ∧ R' 10 = nI (if (pChk (lk T N) p).2 = true then pLt (lk T N) (k + 1) (pChk (lk T N) p).1 else pChk (lk T N) p).1 ∧ ((if (pChk (lk T N) p).2 = true then pLt (lk T N) (k + 1) (pChk (lk T N) p).1 else pChk (lk T N) p).2 = true → R' 21 = tf (H ∧ vChk (lk T N) F p ∧ vLt (lk T N) F (k + 1) (pChk (lk T N) p).1)) ∧ off [10, 12, 17, 21, 22] R R' := by
          unfold f_X10_takesTest_b55
          rw [sR_e, a3, a2, nI_1, mI_R, mlt_s, b1, mbw_s, ← hc]
          rw [← hc] at b2 b3
          by_cases e3 : (pChk (lk T N) p).2 = true
          · have b3 := b3 e3
            have z2 := z2 e3
            rw [e3, if_neg (by decide), sR_e, r21, b3]
            have fin : f_X10_takesTest_b132 (f_X10_takesTest_b7 (j + k + 2)) c (tf (H ∧ vChk (lk T N) F p)) (sR M 96 R2) = (if tf H = 0 then f_X10_takesTest_b132 (f_X10_takesTest_b7 (j + k + 2)) c 0 (sR M 96 R2) else if lk T N (pSum (lk T N) p).1 = 60 then (if vSum (lk T N) F ((pSum (lk T N) p).1 + 1) ≤ vSum (lk T N) F p then f_X10_takesTest_b132 (f_X10_takesTest_b7 (j + k + 2)) c 0 (sR M 96 R2) else f_X10_takesTest_b132 (f_X10_takesTest_b7 (j + k + 2)) c 1 (sR M 96 R2)) else if lk T N (pSum (lk T N) p).1 = 61 then (if vSum (lk T N) F p = vSum (lk T N) F ((pSum (lk T N) p).1 + 1) then f_X10_takesTest_b132 (f_X10_takesTest_b7 (j + k + 2)) c 1 (sR M 96 R2) else f_X10_takesTest_b132 (f_X10_takesTest_b7 (j + k + 2)) c 0 (sR M 96 R2)) else (if vSum (lk T N) F p ≤ vSum (lk T N) F ((pSum (lk T N) p).1 + 1) then f_X10_takesTest_b132 (f_X10_takesTest_b7 (j + k + 2)) c 0 (sR M 96 R2) else f_X10_takesTest_b132 (f_X10_takesTest_b7 (j + k + 2)) c 1 (sR M 96 R2))) := by
              unfold vChk
              by_cases hh : H
              · rw [tf_y hh, if_neg (show ¬ (1 : Int32) = 0 by decide)]
                by_cases c1 : lk T N (pSum (lk T N) p).1 = 60
                · rw [if_pos c1, if_pos c1]
                  by_cases d : vSum (lk T N) F ((pSum (lk T N) p).1 + 1) ≤ vSum (lk T N) F p
                  · rw [if_pos d, tf_n (fun q => by have := q.2; grind)]
                  · rw [if_neg d, tf_y ⟨hh, by grind⟩]
                · rw [if_neg c1, if_neg c1]
                  by_cases c2 : lk T N (pSum (lk T N) p).1 = 61
                  · rw [if_pos c2, if_neg (show ¬ lk T N (pSum (lk T N) p).1 = 62 by rw [c2]; decide)]
                    by_cases d : vSum (lk T N) F p = vSum (lk T N) F ((pSum (lk T N) p).1 + 1)
                    · rw [if_pos d, tf_y ⟨hh, d⟩]
                    · rw [if_neg d, tf_n (fun q => d q.2)]
                  · have c3 : lk T N (pSum (lk T N) p).1 = 62 := by
                      rcases e2 with e2 | e2 | e2
                      · exact absurd e2 c1
                      · exact e2
                      · exact absurd e2 c2
                    rw [if_neg c2, if_pos c3]
                    by_cases d : vSum (lk T N) F p ≤ vSum (lk T N) F ((pSum (lk T N) p).1 + 1)
                    · rw [if_pos d, tf_n (fun q => by have := q.2; grind)]
                    · rw [if_neg d, tf_y ⟨hh, by grind⟩]
              · rw [tf_n hh, if_pos (show (0 : Int32) = 0 from rfl), tf_n (fun q => hh q.1)]
            rw [← fin, r_132 h3 b2 z1, if_pos rfl, pLt, vLt]
            by_cases e4 : lk T N (pChk (lk T N) p).1 = 38
            · have l4 := lk_lt e4 (by decide)
              obtain ⟨R', x1, x2, x3, x4⟩ := ih ((pChk (lk T N) p).1 + 1) (up (up R2 21 (tf (H ∧ vChk (lk T N) F p))) 10 (nI ((pChk (lk T N) p).1 + 1))) (H ∧ vChk (lk T N) F p) (rtR_fr h3 (by rw [up_n (by decide), up_n (by decide)]) (by rw [up_n (by decide), up_n (by decide)]) (by rw [up_n (by decide), up_n (by decide)])) up_e (by rw [up_n (by decide), up_e]) (by omega) (by omega)
              rw [if_pos e4, if_pos e4]
              refine ⟨R', x1, x2, fun q => (x3 q).trans (tf_c ?_), off_tr o2 (off_tr (off_tr (off_up (by decide)) (off_up (by decide))) x4)⟩
              constructor
              · rintro ⟨⟨y1, y2⟩, y3, y4⟩; exact ⟨y1, y2, fun _ => ⟨y3, y4⟩⟩
              · rintro ⟨y1, y2, y3⟩; exact ⟨⟨y1, y2⟩, (y3 e4).1, (y3 e4).2⟩
            · rw [if_neg e4, if_neg e4, show j + k + 2 = j + k + 1 + 1 from rfl, f_X10_takesTest_b7, if_pos rfl]
              refine ⟨_, rfl, by rw [up_n (by decide)]; exact b2, fun _ => by rw [up_e]; exact tf_c ⟨fun q => ⟨q.1, q.2, fun k => absurd k e4⟩, fun q => ⟨q.1, q.2.1⟩⟩, off_tr o2 (off_up (by decide))⟩
          · rw [if_neg e3, Bool.eq_false_iff.mpr e3, if_pos (show bI false = 0 from rfl)]
            exact ⟨R2, rfl, b2, fun q => absurd q Bool.false_ne_true, o2⟩
        rcases e2 with e2 | e2 | e2
        · rw [if_pos e2]; exact main
        · rw [if_neg (by rw [e2]; decide), if_neg (by rw [e2]; decide), if_pos e2]; exact main
        · rw [if_neg (by rw [e2]; decide), if_pos e2]; exact main
      · have hc : pChk (lk T N) p = ((pSum (lk T N) p).1, false) := by unfold pChk; rw [if_pos e1, if_neg e2]
        rw [if_neg (fun q => e2 (Or.inl q)), if_neg (fun q => e2 (Or.inr (Or.inr q))), if_neg (fun q => e2 (Or.inr (Or.inl q))), hc]
        exact ⟨R1, rfl, a2, fun q => absurd q Bool.false_ne_true, o1⟩
    · have hc : pChk (lk T N) p = pSum (lk T N) p := by unfold pChk; rw [if_neg e1]
      rw [hc, if_neg e1, Bool.eq_false_iff.mpr e1, if_pos (show bI false = 0 from rfl)]
      exact ⟨R1, rfl, a2, fun q => absurd q Bool.false_ne_true, o1⟩
theorem r_tst {M : mM} {N p : Nat} {T R : Nat → Int32} {c : Int32} {F : Int32 → Int32} (h : rtR M N T R) (hF : fOK M c F) (hp : R 10 = nI p) (hpN : p ≤ N) : ∃ R', f_X10_takesTest c (sR M 96 R) = some (bI (pTst (lk T N) p).2, sR M 96 R') ∧ R' 10 = nI (pTst (lk T N) p).1 ∧ ((pTst (lk T N) p).2 = true → R' 21 = tf (vTst (lk T N) F p)) ∧ off [10, 12, 17, 21, 22] R R' := by
  have hN := h.2.1
  obtain ⟨m, hm⟩ := mN_ge (k := 92) (by omega)
  have hm : mN = m + 90 + 2 := by omega
  obtain ⟨R', x1, x2, x3, x4⟩ := r_lt (j := m) (c := c) hF 90 p (up R 21 1) True (rtR_fr h (up_n (by decide)) (up_n (by decide)) (up_n (by decide))) (by rw [up_n (by decide)]; exact hp) (by rw [up_e, tf_y trivial]) hpN (by omega)
  unfold f_X10_takesTest
  rw [mI_R, mlt_s, hm]
  exact ⟨R', x1, x2, fun q => (x3 q).trans (tf_c ⟨fun k => k.2, fun k => ⟨trivial, k⟩⟩), off_tr (off_up (by decide)) x4⟩
/-- what an act says or is -/
def md100 (v : Int32) : Int32 := (v - v / 100 * 100 + 100) - (v - v / 100 * 100 + 100) / 100 * 100
def vAm (l : Nat → Int32) (F : Int32 → Int32) (p : Nat) : Int32 := if l p = 103 then l (p + 1) - 48 else md100 (vSum l F (p + 1))
theorem r_64 {M : mM} {R : Nat → Int32} {rule a am : Int32} (ha : (a = 103 → R 12 = am) ∧ (¬ a = 103 → md100 (R 17) = am)) : ∃ R', f_X10_takesAct_b64 rule a (sR M 96 R) = some (1, sR M 96 R') ∧ R' 10 = R 10 ∧ (R 21 = 0 ∨ ¬ R 18 < 0 → R' 18 = R 18 ∧ R' 19 = R 19 ∧ R' 20 = R 20) ∧ (¬ R 21 = 0 → R 18 < 0 → R' 18 = rule ∧ R' 19 = a ∧ R' 20 = am) ∧ off [18, 19, 20] R R' := by
  unfold f_X10_takesAct_b64 f_X10_takesAct_b117
  rw [sR_e]
  by_cases h1 : R 21 = 0
  · rw [if_pos h1]
    exact ⟨R, rfl, rfl, fun _ => ⟨rfl, rfl, rfl⟩, fun q => absurd h1 q, fun _ _ => rfl⟩
  · rw [if_neg h1]
    by_cases h2 : R 18 < 0
    · refine ⟨up (up (up R 18 rule) 19 a) 20 am, ?_, by rw [up_n (by decide), up_n (by decide), up_n (by decide)], fun q => ?_, fun _ _ => ⟨by rw [up_n (by decide), up_n (by decide), up_e], by rw [up_n (by decide), up_e], up_e⟩, off_tr (off_tr (off_up (by decide)) (off_up (by decide))) (off_up (by decide))⟩
      · rw [if_pos h2, mI_R, mlt_s, mI_R, mlt_s]
        by_cases h3 : a = 103
        · rw [if_pos h3, sR_e, up_n (by decide), up_n (by decide), ha.1 h3, mI_R, mlt_s]
        · have e := ha.2 h3
          unfold md100 at e
          rw [if_neg h3, sR_e, up_n (by decide), up_n (by decide), e, mI_R, mlt_s]
      · rcases q with q | q
        · exact absurd q h1
        · exact absurd h2 q
    · rw [if_neg h2]
      exact ⟨R, rfl, rfl, fun _ => ⟨rfl, rfl, rfl⟩, fun _ q => absurd q h2, fun _ _ => rfl⟩
theorem r_act {M : mM} {N p : Nat} {T R : Nat → Int32} {c rule : Int32} {F : Int32 → Int32} (h : rtR M N T R) (hF : fOK M c F) (hp : R 10 = nI p) (hpN : p ≤ N) : ∃ R', f_X10_takesAct c rule (sR M 96 R) = some (bI (pAct (lk T N) p).2, sR M 96 R') ∧ R' 10 = nI (pAct (lk T N) p).1 ∧ ((pAct (lk T N) p).2 = true → (R 21 = 0 ∨ ¬ R 18 < 0 → R' 18 = R 18 ∧ R' 19 = R 19 ∧ R' 20 = R 20) ∧ (¬ R 21 = 0 → R 18 < 0 → R' 18 = rule ∧ R' 19 = lk T N p ∧ R' 20 = vAm (lk T N) F p)) ∧ off [10, 12, 17, 18, 19, 20, 22] R R' := by
  have hN := h.2.1
  unfold f_X10_takesAct f_X10_takesAct_b25 pAct
  rw [r_next h hp (by omega), mbp_s]
  have h1 : rtR M N T (up R 10 (nI (p + 1))) := rtR_fr h (up_n (by decide)) (up_n (by decide)) (up_n (by decide))
  by_cases e1 : lk T N p = 103
  · have l1 := lk_lt e1 (by decide)
    have d0 : f_X10_takes 0 7 (sR M 96 (up R 10 (nI (p + 1)))) = some (if dg (lk T N) (p + 1) 0 7 then (1, sR M 96 (up (up (up R 10 (nI (p + 1))) 12 (nI (dv (lk T N) (p + 1)))) 10 (nI (p + 2)))) else (0, sR M 96 (up R 10 (nI (p + 1))))) := r_takes (lo := 0) (hi := 7) h1 up_e (by omega) (by decide) (by decide)
    rw [if_pos e1, if_pos e1, sR_e, hp, nI_1, mI_R, mlt_s, if_pos e1, d0]
    by_cases e2 : dg (lk T N) (p + 1) 0 7
    · obtain ⟨v1, -, -⟩ := dg_v (by decide) (by decide) e2
      obtain ⟨R', x1, x2, x3, x4, x5⟩ := r_64 (M := M) (R := up (up (up R 10 (nI (p + 1))) 12 (nI (dv (lk T N) (p + 1)))) 10 (nI (p + 2))) (rule := rule) (a := lk T N p) (am := vAm (lk T N) F p) ⟨fun _ => by rw [up_n (by decide), up_e, v1, vAm, if_pos e1], fun q => absurd e1 q⟩
      have o : off [10, 12, 17, 18, 19, 20, 22] R (up (up (up R 10 (nI (p + 1))) 12 (nI (dv (lk T N) (p + 1)))) 10 (nI (p + 2))) := off_tr (off_tr (off_up (by decide)) (off_up (by decide))) (off_up (by decide))
      have z : ∀ i, i ≠ 10 → i ≠ 12 → up (up (up R 10 (nI (p + 1))) 12 (nI (dv (lk T N) (p + 1)))) 10 (nI (p + 2)) i = R i := fun i a b => by rw [up_n a, up_n b, up_n a]
      rw [z 21 (by decide) (by decide), z 18 (by decide) (by decide), z 19 (by decide) (by decide), z 20 (by decide) (by decide)] at x3
      rw [z 21 (by decide) (by decide), z 18 (by decide) (by decide)] at x4
      rw [if_pos e2, if_pos e2, mbw_s, if_neg (show ¬ (1 : Int32) = 0 by decide), x1]
      exact ⟨R', rfl, by rw [x2, up_e], fun _ => ⟨x3, x4⟩, off_tr o (off_sub (by decide) x5)⟩
    · rw [if_neg e2, if_neg e2, mbw_s, if_pos (show (0 : Int32) = 0 from rfl)]
      exact ⟨_, rfl, up_e, fun q => absurd q Bool.false_ne_true, off_up (by decide)⟩
  · rw [if_neg e1, if_neg e1]
    by_cases e2 : lk T N p = 121 ∨ lk T N p = 61
    · have l1 : p < N := by rcases e2 with e2 | e2 <;> exact lk_lt e2 (by decide)
      obtain ⟨R1, a1, a2, a3, a4⟩ := r_sum h1 hF up_e (show p + 1 ≤ N by omega)
      have o1 : off [10, 12, 17, 18, 19, 20, 22] R R1 := off_tr (off_up (j := 10) (by decide)) (off_sub (by decide) a4)
      have main : ∃ R', (mlt (mI (sR M 96 R) 96 10 ((sR M 96 R).1 96 10 + 1)) fun M32 => if lk T N p = 103 then (mbw (f_X10_takes 0 7 M32) fun v45 M45 => if v45 = 0 then some (0, M45) else f_X10_takesAct_b64 rule (lk T N p) M45) else mbw (f_X10_takesSum c M32) fun v56 M56 => if v56 = 0 then some (0, M56) else f_X10_takesAct_b64 rule (lk T N p) M56) = some (bI (pSum (lk T N) (p + 1)).2, sR M 96 R') ∧ R' 10 = nI (pSum (lk T N) (p + 1)).1 ∧ ((pSum (lk T N) (p + 1)).2 = true → (R 21 = 0 ∨ ¬ R 18 < 0 → R' 18 = R 18 ∧ R' 19 = R 19 ∧ R' 20 = R 20) ∧ (¬ R 21 = 0 → R 18 < 0 → R' 18 = rule ∧ R' 19 = lk T N p ∧ R' 20 = vAm (lk T N) F p)) ∧ off [10, 12, 17, 18, 19, 20, 22] R R' := by
        rw [sR_e, hp, nI_1, mI_R, mlt_s, if_neg e1, a1, mbw_s]
        by_cases e3 : (pSum (lk T N) (p + 1)).2 = true
        · have a3 := a3 e3
          obtain ⟨R', x1, x2, x3, x4, x5⟩ := r_64 (M := M) (R := R1) (rule := rule) (a := lk T N p) (am := vAm (lk T N) F p) ⟨fun q => absurd q e1, fun _ => by rw [a3, vAm, if_neg e1]⟩
          have z : ∀ i, i ∈ [18, 19, 20, 21] → R1 i = R i := fun i hi => by
            have : i = 18 ∨ i = 19 ∨ i = 20 ∨ i = 21 := by simpa using hi
            rcases this with rfl | rfl | rfl | rfl
            · rw [a4 18 (by decide), up_n (by decide)]
            · rw [a4 19 (by decide), up_n (by decide)]
            · rw [a4 20 (by decide), up_n (by decide)]
            · rw [a4 21 (by decide), up_n (by decide)]
          rw [z 21 (by decide), z 18 (by decide), z 19 (by decide), z 20 (by decide)] at x3
          rw [z 21 (by decide), z 18 (by decide)] at x4
          rw [e3, if_neg (by decide), x1]
          exact ⟨R', rfl, by rw [x2, a2], fun _ => ⟨x3, x4⟩, off_tr o1 (off_sub (by decide) x5)⟩
        · rw [Bool.eq_false_iff.mpr e3, if_pos (show bI false = 0 from rfl)]
          exact ⟨R1, rfl, a2, fun q => absurd q Bool.false_ne_true, o1⟩
      rw [if_pos e2]
      rcases e2 with e2 | e2
      · rw [if_pos e2]; exact main
      · rw [if_neg (by rw [e2]; decide), if_pos e2]; exact main
    · rw [if_neg (fun q => e2 (Or.inl q)), if_neg (fun q => e2 (Or.inr q)), if_neg e2]
      exact ⟨R, rfl, hp, fun q => absurd q Bool.false_ne_true, fun _ _ => rfl⟩
/-- the first RULE that holds, and where its act is -/
noncomputable def chs (l : Nat → Int32) (N : Nat) (F : Int32 → Int32) : Nat → Nat → Nat → Option (Nat × Nat)
  | 0, _, _ => none
  | k + 1, i, p => if N ≤ p then none else @ite _ (vTst l F p) (Classical.propDecidable _) (some (i, (pTst l p).1 + 1)) (chs l N F k (i + 1) (pRl l p).1)
def chR (l : Nat → Int32) (F : Int32 → Int32) (o : Option (Nat × Nat)) (R : Nat → Int32) : Prop := match o with
  | none => R 18 = -4
  | some x => R 18 = nI x.1 ∧ R 19 = l x.2 ∧ R 20 = vAm l F x.2
theorem r_lr {M : mM} {N j : Nat} {T : Nat → Int32} {c : Int32} {F : Int32 → Int32} (hF : fOK M c F) (k : Nat) : ∀ i p R, i + k = 6 → rtR M N T R → R 10 = nI p → p ≤ N → (0 < i ∨ p < N) → ∃ R', f_X10_goesProgram_b13 (j + k + 1) c (nI i) (sR M 96 R) = some (bI (pLr (lk T N) N k p).2, sR M 96 R') ∧ R' 10 = nI (pLr (lk T N) N k p).1 ∧ ((pLr (lk T N) N k p).2 = true → (¬ R 18 < 0 → R' 18 = R 18 ∧ R' 19 = R 19 ∧ R' 20 = R 20) ∧ (R 18 = -4 → chR (lk T N) F (chs (lk T N) N F k i p) R')) ∧ off [10, 12, 17, 18, 19, 20, 21, 22] R R' := by
  induction k with
  | zero =>
    intro i p R hi h hp hpN h0
    have hN := h.2.1
    have h9 : R 9 = nI N := by have := h.1; rw [sR_e] at this; exact this
    rw [f_X10_goesProgram_b13, sR_e, hp, h9, pLr]
    by_cases e : N ≤ p
    · rw [if_pos ((nle (by omega) (by omega)).mpr e), if_neg (fun q => by have : _ ≤ 0 := (leL (m := 0) (by decide) (by omega)).mp q; omega)]
      refine ⟨R, by rw [decide_eq_true e]; rfl, hp, fun _ => ⟨fun _ => ⟨rfl, rfl, rfl⟩, fun q => q⟩, fun _ _ => rfl⟩
    · rw [if_neg (fun q => e ((nle (by omega) (by omega)).mp q)), if_pos (show nI i = 6 by rw [show i = 6 by omega]; rfl)]
      refine ⟨R, by rw [decide_eq_false e]; rfl, hp, fun q => absurd (of_decide_eq_true q) e, fun _ _ => rfl⟩
  | succ k ih =>
    intro i p R hi h hp hpN h0
    have hN := h.2.1
    have h9 : R 9 = nI N := by have := h.1; rw [sR_e] at this; exact this
    rw [f_X10_goesProgram_b13, sR_e, hp, h9, pLr]
    by_cases e : N ≤ p
    · rw [if_pos ((nle (by omega) (by omega)).mpr e), if_neg (fun q => by have : _ ≤ 0 := (leL (m := 0) (by decide) (by omega)).mp q; omega), if_pos e]
      refine ⟨R, rfl, hp, fun _ => ⟨fun _ => ⟨rfl, rfl, rfl⟩, fun q => ?_⟩, fun _ _ => rfl⟩
      rw [chs, if_pos e]
      exact q
    · rw [if_neg (fun q => e ((nle (by omega) (by omega)).mp q)), if_neg (fun q => by have : _ = 6 := (eqL (m := 6) (by decide) (by omega)).mp q; omega), if_neg e]
      obtain ⟨R1, a1, a2, a3, a4⟩ := r_tst h hF hp hpN
      obtain ⟨s1, s2⟩ := p_tst (T := T) hpN
      have h1 : rtR M N T R1 := rtR_fr h (a4 8 (by decide)) (a4 9 (by decide)) (a4 11 (by decide))
      have o1 : off [10, 12, 17, 18, 19, 20, 21, 22] R R1 := off_sub (by decide) a4
      rw [a1, mbw_s]
      by_cases e1 : (pTst (lk T N) p).2 = true
      · have s2 := s2 e1
        have a3 := a3 e1
        have hr : pRl (lk T N) p = pTl (lk T N) (pTst (lk T N) p).1 := by unfold pRl; rw [if_pos e1]
        obtain ⟨y1, y2⟩ := p_rl (T := T) hpN
        rw [e1, if_neg (by decide), r_next h1 a2 (by omega), mbp_s]
        by_cases e2 : lk T N (pTst (lk T N) p).1 = 63
        · have l2 := lk_lt e2 (by decide)
          have h2 : rtR M N T (up R1 10 (nI ((pTst (lk T N) p).1 + 1))) := rtR_fr h1 (up_n (by decide)) (up_n (by decide)) (up_n (by decide))
          obtain ⟨R2, b1, b2, b3, b4⟩ := r_act (rule := nI i) h2 hF up_e (show (pTst (lk T N) p).1 + 1 ≤ N by omega)
          obtain ⟨w1, w2⟩ := p_act (T := T) (show (pTst (lk T N) p).1 + 1 ≤ N by omega)
          have h3 : rtR M N T R2 := rtR_fr h2 (b4 8 (by decide)) (b4 9 (by decide)) (b4 11 (by decide))
          have o2 : off [10, 12, 17, 18, 19, 20, 21, 22] R R2 := off_tr o1 (off_tr (off_up (by decide)) (off_sub (by decide) b4))
          rw [if_pos e2, sR_e, a2, nI_1, mI_R, mlt_s, b1, mbw_s]
          by_cases e3 : (pAct (lk T N) ((pTst (lk T N) p).1 + 1)).2 = true
          · obtain ⟨b5, b6⟩ := b3 e3
            rw [e3, if_neg (by decide), r_next h3 b2 (by omega), mbp_s]
            rw [up_n (show 21 ≠ 10 by decide), up_n (show 18 ≠ 10 by decide), up_n (show 19 ≠ 10 by decide), up_n (show 20 ≠ 10 by decide), a3, a4 18 (by decide), a4 19 (by decide), a4 20 (by decide)] at b5
            rw [up_n (show 21 ≠ 10 by decide), up_n (show 18 ≠ 10 by decide), a3, a4 18 (by decide)] at b6
            by_cases e4 : lk T N (pAct (lk T N) ((pTst (lk T N) p).1 + 1)).1 = 59
            · have l4 := lk_lt e4 (by decide)
              have hr2 : pRl (lk T N) p = ((pAct (lk T N) ((pTst (lk T N) p).1 + 1)).1 + 1, true) := by rw [hr]; unfold pTl; rw [if_pos e2, if_pos e3, if_pos e4]
              have h4 : rtR M N T (up R2 10 (nI ((pAct (lk T N) ((pTst (lk T N) p).1 + 1)).1 + 1))) := rtR_fr h3 (up_n (by decide)) (up_n (by decide)) (up_n (by decide))
              obtain ⟨R', x1, x2, x3, x4⟩ := ih (i + 1) ((pAct (lk T N) ((pTst (lk T N) p).1 + 1)).1 + 1) _ (by omega) h4 up_e (by omega) (Or.inl (by omega))
              rw [if_pos e4, sR_e, b2, nI_1, mI_R, mlt_s, nI_1, mlt_s, hr2]
              refine ⟨R', x1, x2, fun q => ?_, off_tr o2 (off_tr (off_up (by decide)) x4)⟩
              obtain ⟨x5, x6⟩ := x3 q
              rw [up_n (show 18 ≠ 10 by decide), up_n (show 19 ≠ 10 by decide), up_n (show 20 ≠ 10 by decide)] at x5
              rw [up_n (show 18 ≠ 10 by decide)] at x6
              refine ⟨fun q0 => ?_, fun q0 => ?_⟩
              · obtain ⟨c1, c2, c3⟩ := b5 (Or.inr q0)
                obtain ⟨d1, d2, d3⟩ := x5 (by rw [c1]; exact q0)
                exact ⟨d1.trans c1, d2.trans c2, d3.trans c3⟩
              · rw [chs, if_neg e]
                by_cases hv : vTst (lk T N) F p
                · rw [if_pos hv]
                  rw [tf_y hv] at b6
                  obtain ⟨c1, c2, c3⟩ := b6 (by decide) (by rw [q0]; decide)
                  obtain ⟨d1, d2, d3⟩ := x5 (by rw [c1]; exact nlt0 (by omega))
                  exact ⟨d1.trans c1, d2.trans c2, d3.trans c3⟩
                · rw [if_neg hv, hr2]
                  rw [tf_n hv] at b5
                  obtain ⟨c1, c2, c3⟩ := b5 (Or.inl rfl)
                  exact x6 (c1.trans q0)
            · have hr2 : pRl (lk T N) p = ((pAct (lk T N) ((pTst (lk T N) p).1 + 1)).1, false) := by rw [hr]; unfold pTl; rw [if_pos e2, if_pos e3, if_neg e4]
              rw [if_neg e4, hr2]
              exact ⟨R2, rfl, b2, fun q => absurd q Bool.false_ne_true, o2⟩
          · have hr2 : pRl (lk T N) p = pAct (lk T N) ((pTst (lk T N) p).1 + 1) := by rw [hr]; unfold pTl; rw [if_pos e2, if_neg e3]
            rw [hr2, if_neg e3, Bool.eq_false_iff.mpr e3, if_pos (show bI false = 0 from rfl)]
            exact ⟨R2, rfl, b2, fun q => absurd q Bool.false_ne_true, o2⟩
        · have hr2 : pRl (lk T N) p = ((pTst (lk T N) p).1, false) := by rw [hr]; unfold pTl; rw [if_neg e2]
          rw [if_neg e2, hr2]
          exact ⟨R1, rfl, a2, fun q => absurd q Bool.false_ne_true, o1⟩
      · have hr2 : pRl (lk T N) p = pTst (lk T N) p := by unfold pRl; rw [if_neg e1]
        rw [hr2, if_neg e1, Bool.eq_false_iff.mpr e1, if_pos (show bI false = 0 from rfl)]
        exact ⟨R1, rfl, a2, fun q => absurd q Bool.false_ne_true, o1⟩
theorem X10_goes_prog {M : mM} {i c : Int32} {N : Nat} {T : Nat → Int32} {F : Int32 → Int32} (h : tx0 M i N T) (hF : fOK M c F) : ∃ M', f_X10_goesProgram i c M = some (bI (pPr (lk T N) N).2, M') ∧ eqR M M' ∧ (∀ k, k ≠ 96 → M'.1 k = M.1 k) ∧ M'.1 96 10 = nI (pPr (lk T N) N).1 ∧ ((pPr (lk T N) N).2 = true → chR (lk T N) F (chs (lk T N) N F 6 0 0) (M'.1 96)) := by
  obtain ⟨M1, b1, b2, b3, b4, b5, b6⟩ := X10_begin h
  have hN := b2.2.1
  have e1 : M1 = sR M 96 (M1.1 96) := sR_of b5 b4.2.2
  have hm : mI M1 96 18 (-4) = sR M 96 (up (M1.1 96) 18 (-4)) := by
    have hs : ∀ L, sR M1 96 L = sR M 96 L := fun L => mM_ext (fun a i => by
      by_cases h : a = 96
      · subst h; rw [sR_e, sR_e]
      · rw [sR_n h, sR_n h, b5 a h]) b4.2.2
    rw [mI_sR, hs]
  have h1 : rtR M N T (up (M1.1 96) 18 (-4)) := by
    unfold rtR
    refine rtx_fr ?_ ?_ ?_ ?_ ?_ b2
    · rw [sR_e, up_n (by decide)]
    · rw [sR_e, up_n (by decide)]
    · rw [sR_e, up_n (by decide)]
    · rw [sR_n (by omega), b5 97 (by omega)]
    · rw [sR_n (by omega), b5 101 (by omega)]
  have fr : ∀ R', off [10, 12, 17, 18, 19, 20, 21, 22] (up (M1.1 96) 18 (-4)) R' → eqR M (sR M 96 R') := fun R' o => by
    refine ⟨fun k a _ _ _ => sR_n a, fun j hj => ?_, rfl⟩
    rw [sR_e, o j (by
      intro hc
      have : j = 10 ∨ j = 12 ∨ j = 17 ∨ j = 18 ∨ j = 19 ∨ j = 20 ∨ j = 21 ∨ j = 22 := by simpa using hc
      omega), up_n (by omega)]
    exact b4.2.1 j hj
  unfold f_X10_goesProgram
  rw [b1, mbp_s, hm, mlt_s]
  obtain ⟨m, hmN⟩ := mN_ge (k := 7) (by omega)
  have hmN : mN = m + 6 + 1 := by omega
  have r10 : up (M1.1 96) 18 (-4) 10 = nI 0 := by rw [up_n (by decide)]; exact b3
  by_cases h0 : 0 < N
  · obtain ⟨R', x1, x2, x3, x4⟩ := r_lr (j := m) hF 6 0 0 _ rfl h1 r10 (Nat.zero_le N) (Or.inr h0)
    have ep : pLr (lk T N) N 6 0 = pPr (lk T N) N := by
      rw [pLr, if_neg (by omega)]; rfl
    rw [ep] at x1 x2 x3
    rw [hmN]
    refine ⟨_, x1, fr R' x4, fun k hk => sR_n hk, by rw [sR_e]; exact x2, fun q => ?_⟩
    rw [sR_e]
    exact (x3 q).2 up_e
  · have ez : N = 0 := by omega
    subst ez
    have e0 : pAtom (lk T 0) 0 = (0, false) := p_none (by omega)
    have e1 : pSum (lk T 0) 0 = (0, false) := by unfold pSum; rw [e0]; rfl
    have e2 : pChk (lk T 0) 0 = (0, false) := by unfold pChk; rw [e1]; rfl
    have e3 : pTst (lk T 0) 0 = (0, false) := by unfold pTst; rw [e2]; rfl
    have e4 : pRl (lk T 0) 0 = (0, false) := by unfold pRl; rw [e3]; rfl
    have e5 : pPr (lk T 0) 0 = (0, false) := by unfold pPr; rw [e4]; rfl
    have h9 : up (M1.1 96) 18 (-4) 9 = nI 0 := by have := h1.1; rw [sR_e] at this; exact this
    rw [e5, hmN, f_X10_goesProgram_b13, sR_e, r10, h9, if_pos (by decide), if_pos (by decide)]
    exact ⟨_, rfl, fr _ (fun _ _ => rfl), fun k hk => sR_n hk, by rw [sR_e]; exact r10, fun q => absurd q Bool.false_ne_true⟩
