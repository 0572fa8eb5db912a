/-! ticks: one CUBE's act -/
abbrev Tk : Type := Bd × (Nat → Int32) × (Nat → Int32)
noncomputable def aGo (S : Tk) (a am : Int32) (c : Nat) : Tk × Int32 :=
  if a = 103 then @ite _ (canP S.1 c am.toNatClampNeg) (Classical.propDecidable _) ((bGo S.1 c am.toNatClampNeg, S.2), 1) (S, 0) else if a = 121 then ((S.1, S.2.1, up S.2.2 c am), 0) else ((S.1, up S.2.1 c am, S.2.2), 0)
def amK (a am : Int32) : Prop := (a = 103 ∧ ∃ w, w < 8 ∧ am = nI w) ∨ a = 121 ∨ a = 61
theorem aGo_y {S : Tk} {c w : Nat} (hw : w < 8) (h : canP S.1 c w) : aGo S 103 (nI w) c = ((bGo S.1 c w, S.2), 1) := by
  unfold aGo
  rw [if_pos rfl, ncl (by omega), if_pos h]
theorem aGo_n {S : Tk} {c w : Nat} (hw : w < 8) (h : ¬ canP S.1 c w) : aGo S 103 (nI w) c = (S, 0) := by
  unfold aGo
  rw [if_pos rfl, ncl (by omega), if_neg h]
theorem aGo_s {S : Tk} {am : Int32} {c : Nat} : aGo S 121 am c = ((S.1, S.2.1, up S.2.2 c am), 0) := by
  unfold aGo
  rw [if_neg (by decide), if_pos rfl]
theorem aGo_m {S : Tk} {am : Int32} {c : Nat} : aGo S 61 am c = ((S.1, up S.2.1 c am, S.2.2), 0) := by
  unfold aGo
  rw [if_neg (by decide), if_neg (by decide)]
theorem act_ok {l : Nat → Int32} {F : Int32 → Int32} {p : Nat} (ok : (pAct l p).2 = true) : amK (l p) (vAm l F p) := by
  unfold amK vAm
  unfold pAct at ok
  by_cases e : l p = 103
  · rw [if_pos e] at ok ⊢
    by_cases e2 : dg l (p + 1) 0 7
    · obtain ⟨v1, -, v2⟩ := dg_v (by decide) (by decide) e2
      exact Or.inl ⟨e, _, by omega, v1.symm⟩
    · rw [if_neg e2] at ok
      exact absurd ok Bool.false_ne_true
  · rw [if_neg e] at ok
    by_cases e2 : l p = 121 ∨ l p = 61
    · exact Or.inr e2
    · rw [if_neg e2] at ok
      exact absurd ok Bool.false_ne_true
def cFr (M0 M : mM) : Prop := (∀ q, q ≠ 1 → ¬ (q = 4 ∨ q = 5 ∨ q = 8 ∨ q = 9 ∨ (10 ≤ q ∧ q ≤ 12) ∨ q = 76) → M.1 q = M0.1 q) ∧ (∀ i, i ≠ 1 → M.1 1 i = M0.1 1 i) ∧ M.2.1 = M0.2.1
def cSt (M0 : mM) (t : Int32) (heard : Nat → Int32) (S : Tk) (M : mM) : Prop := cEn M S.1 t S.2.1 heard ∧ (∀ c, c < bN S.1 → M.1 11 c = S.2.2 c) ∧ cFr M0 M
theorem cSt_rd {M0 M : mM} {t : Int32} {heard : Nat → Int32} {S : Tk} {p : Nat} {f : Int32} (h : cSt M0 t heard S M) : cSt M0 t heard S (rdM 76 M p f) := by
  obtain ⟨h1, h2, h3, h4, h5⟩ := h
  exact ⟨cEn_rd h1, fun c hc => by rw [rd_k (by omega)]; exact h2 c hc, fun q h1 hq => by rw [rd_k (by omega)]; exact h3 q h1 hq, fun i hi => by rw [rd_k (by omega)]; exact h4 i hi, h5⟩
theorem cSt_s {M0 M : mM} {t : Int32} {heard : Nat → Int32} {S : Tk} {L : Nat → Int32} (h : cSt M0 t heard S M) : cSt M0 t heard S (sR M (2 + 7) L) := by
  obtain ⟨⟨e1, e2, e3, e4⟩, h2, h3, h4, h5⟩ := h
  refine ⟨⟨e1, repB_fr (by rw [sR_n (by omega)]) (sR_n (by omega)) (sR_n (by omega)) (sR_n (by omega)) (sR_n (by omega)) (sR_n (by omega)) e2, by rw [sR_n (by omega)]; exact e3, fun c hc => by rw [sR_n (by omega), sR_n (by omega)]; exact e4 c hc⟩, fun c hc => by rw [sR_n (by omega)]; exact h2 c hc, fun q h1 hq => by rw [sR_n (by omega)]; exact h3 q h1 hq, fun i hi => by rw [sR_n (by omega)]; exact h4 i hi, h5⟩
theorem cSt_go {M0 M : mM} {t : Int32} {heard : Nat → Int32} {S : Tk} {c w : Nat} (h : cSt M0 t heard S M) (hc : c < bN S.1) (hw8 : w < 8) (hcan : canP S.1 c w) : cSt M0 t heard (bGo S.1 c w, S.2) (goM 2 M S.1 c (stp (bP S.1 c) w) (bW S.1 c - cost S.1 c)) := by
  obtain ⟨⟨e1, e2, e3, e4⟩, h2, h3, h4, h5⟩ := h
  refine ⟨⟨wf_go e1 hc hw8 hcan, goM_rep e2 e1 hc, by rw [goM_ne (by omega)]; exact e3, fun d hd => by rw [goM_ne (by omega), goM_ne (by omega)]; exact e4 d hd⟩, fun d hd => by rw [goM_ne (by omega)]; exact h2 d hd, fun q h1 hq => by rw [goM_ne (by omega)]; exact h3 q h1 hq, fun i hi => by rw [goM_ne (by omega)]; exact h4 i hi, h5⟩
theorem cSt_11 {M0 M : mM} {t v : Int32} {heard : Nat → Int32} {S : Tk} {c : Nat} (h : cSt M0 t heard S M) : cSt M0 t heard (S.1, S.2.1, up S.2.2 c v) (mI M 11 c v) := by
  obtain ⟨⟨e1, e2, e3, e4⟩, h2, h3, h4, h5⟩ := h
  refine ⟨⟨e1, repB_fr (by rw [mI_ne (by omega)]) (mI_ne (by omega)) (mI_ne (by omega)) (mI_ne (by omega)) (mI_ne (by omega)) (mI_ne (by omega)) e2, by rw [mI_ne (by omega)]; exact e3, fun c hc => by rw [mI_ne (by omega), mI_ne (by omega)]; exact e4 c hc⟩, fun d hd => ?_, fun q h1 hq => by rw [mI_ne (by omega)]; exact h3 q h1 hq, fun i hi => by rw [mI_ne (by omega)]; exact h4 i hi, h5⟩
  show _ = up S.2.2 c v d
  by_cases e : d = c
  · subst e; rw [mI_e, up_e]
  · rw [mI_n (by omega), up_n e]; exact h2 d hd
theorem cSt_10 {M0 M : mM} {t v : Int32} {heard : Nat → Int32} {S : Tk} {c : Nat} (h : cSt M0 t heard S M) : cSt M0 t heard (S.1, up S.2.1 c v, S.2.2) (mI M 10 c v) := by
  obtain ⟨⟨e1, e2, e3, e4⟩, h2, h3, h4, h5⟩ := h
  refine ⟨⟨e1, repB_fr (by rw [mI_ne (by omega)]) (mI_ne (by omega)) (mI_ne (by omega)) (mI_ne (by omega)) (mI_ne (by omega)) (mI_ne (by omega)) e2, by rw [mI_ne (by omega)]; exact e3, fun d hd => ⟨?_, by rw [mI_ne (by omega)]; exact (e4 d hd).2⟩⟩, fun d hd => by rw [mI_ne (by omega)]; exact h2 d hd, fun q h1 hq => by rw [mI_ne (by omega)]; exact h3 q h1 hq, fun i hi => by rw [mI_ne (by omega)]; exact h4 i hi, h5⟩
  show _ = up S.2.1 c v d
  by_cases e : d = c
  · subst e; rw [mI_e, up_e]
  · rw [mI_n (by omega), up_n e]; exact (e4 d hd).1
theorem c_act {M0 M : mM} {t : Int32} {heard : Nat → Int32} {S : Tk} {c tx N p : Nat} (h : cSt M0 t heard S M) (hx : txt 76 M tx N) (hc : c < bN S.1) (ok : (pAct (lT M tx N) p).2 = true) (e59 : lT M tx N (pAct (lT M tx N) p).1 = 59) : ∃ M', f_X1_act (nI c) (rdM 76 M p (-1)) = some ((aGo S (lT M tx N p) (vAm (lT M tx N) (fld S.1 t S.2.1 heard c) p) c).2, M') ∧ cSt M0 t heard (aGo S (lT M tx N p) (vAm (lT M tx N) (fld S.1 t S.2.1 heard c) p) c).1 M' := by
  have hw := h.1.1
  have hn := hw.1
  unfold f_X1_act
  unfold pAct at ok e59
  by_cases e1 : lT M tx N p = 103
  · rw [if_pos e1] at ok e59
    by_cases e2 : dg (lT M tx N) (p + 1) 0 7
    · have l1 : p < N := lk_lt e1 (by decide)
      have l2 : p + 1 < N := lk_lt2 (Int32.le_trans (by decide) e2.1)
      obtain ⟨v1, -, v2⟩ := dg_v (by decide) (by decide) e2
      have va : vAm (lT M tx N) (fld S.1 t S.2.1 heard c) p = nI (dv (lT M tx N) (p + 1)) := by rw [vAm, if_pos e1, v1]
      rw [va, e1]
      obtain ⟨w, hwe⟩ : ∃ w, w = dv (lT M tx N) (p + 1) := ⟨_, rfl⟩
      rw [← hwe] at v1 v2 ⊢
      have h1 : cSt M0 t heard S (rdM 76 M (p + 2) (-1)) := cSt_rd h
      obtain ⟨L, hL⟩ := X0_mayGoE hw h1.1.2.1 hc (show w < 8 by omega)
      have h2 := cSt_s (L := L) h1
      rw [X7_take hx l1, mbw_s, e1, if_pos rfl, X7_take hx l2, mbw_s, ← v1]
      unfold f_X1_goIfItCan
      rw [if_neg (nlt0 (by omega)), if_neg (fun q => by have : 8 ≤ _ := (lle (m := 8) (by decide) (by omega)).mp q; omega)]
      show ∃ M', mbw (mbw (f_X0_mayGo 2 (nI c) (nI w) (rdM 76 M (p + 2) (-1))) _) _ = _ ∧ _
      rw [hL, mbw_s]
      by_cases hcan : canP S.1 c w
      · obtain ⟨q1, q2⟩ := canP_in hw hc (by omega) hcan
        rw [tf_y hcan, if_neg (show ¬ (1 : Int32) = 0 by decide), X0_go h2.1.2.1 hw hc (by omega) q1 q2, mbp_s, mbw_s, aGo_y (by omega) hcan]
        exact ⟨_, rfl, cSt_go h2 hc (by omega) hcan⟩
      · rw [tf_n hcan, if_pos (show (0 : Int32) = 0 from rfl), mbw_s, aGo_n (by omega) hcan]
        exact ⟨_, rfl, h2⟩
    · rw [if_neg e2] at ok
      exact absurd ok Bool.false_ne_true
  · rw [if_neg e1] at ok e59
    by_cases e2 : lT M tx N p = 121 ∨ lT M tx N p = 61
    · rw [if_pos e2] at ok e59
      have l1 : p < N := by rcases e2 with e2 | e2 <;> exact lk_lt e2 (by decide)
      have h1 : cSt M0 t heard S (rdM 76 M (pSum (lT M tx N) (p + 1)).1 (-1)) := cSt_rd h
      have va : vAm (lT M tx N) (fld S.1 t S.2.1 heard c) p = md100 (vSum (lT M tx N) (fld S.1 t S.2.1 heard c) (p + 1)) := by rw [vAm, if_neg e1]
      rw [X7_take hx l1, mbw_s, if_neg e1, c_sum h.1 hx hc (by omega) ok (nd_c e59 (Or.inr (by decide))), mbw_s, floor100, mbp_s, va]
      rcases e2 with e2 | e2
      · rw [e2, if_pos rfl, mgd_s ((nin (by omega)).mpr (by omega)), ncl (by omega), mlt_s, aGo_s]
        exact ⟨_, rfl, cSt_11 h1⟩
      · rw [e2, if_neg (by decide), mgd_s ((nin (by omega)).mpr (by omega)), ncl (by omega), mlt_s, aGo_m]
        exact ⟨_, rfl, cSt_10 h1⟩
    · rw [if_neg e2] at ok
      exact absurd ok Bool.false_ne_true
def rFr (M0 M : mM) : Prop := (∀ q, q ≠ 97 → q ≠ 99 → ¬ scr q → M.1 q = M0.1 q) ∧ (∀ j, j < 5 ∨ (6 ≤ j ∧ j < 26) ∨ (74 ≤ j ∧ j < 90) ∨ 122 ≤ j → M.1 97 j = M0.1 97 j) ∧ M.1 96 3 = M0.1 96 3 ∧ M.2.1 = M0.2.1
def rSt (M0 : mM) (t : Int32) (heard : Nat → Int32) (S : Tk) (M : mM) : Prop := rEn M S.1 t S.2.1 heard ∧ (∀ c, c < bN S.1 → M.1 107 c = S.2.2 c) ∧ rFr M0 M
theorem rSt_go {M0 M : mM} {t : Int32} {heard : Nat → Int32} {S : Tk} {c w : Nat} (h : rSt M0 t heard S M) (hc : c < bN S.1) (hw8 : w < 8) (hcan : canP S.1 c w) : rSt M0 t heard (bGo S.1 c w, S.2) (rgo M S.1 c w) := by
  obtain ⟨⟨e1, e2, e3, e4, e5⟩, h2, h3, h4, h5, h6⟩ := h
  have hn := e1.1
  refine ⟨⟨wf_go e1 hc hw8 hcan, rgo_rep e2 e1 hc, rgo_G e3 e1 hc (canP_in e1 hc hw8 hcan).1, by rw [rgo_j (by omega) (by omega)]; exact e4, fun d hd => by rw [rgo_j (by omega) (by omega), rgo_j (by omega) (by omega)]; exact e5 d hd⟩, fun d hd => by rw [rgo_ne (by omega)]; exact h2 d hd, fun q h1 h2 hq => by rw [rgo_ne (by omega)]; exact h3 q h1 h2 hq, fun j hj => by rw [rgo_j (by omega) (by omega)]; exact h4 j hj, by rw [rgo_ne (by omega)]; exact h5, h6⟩
theorem rSt_107 {M0 M : mM} {t v : Int32} {heard : Nat → Int32} {S : Tk} {c : Nat} (h : rSt M0 t heard S M) : rSt M0 t heard (S.1, S.2.1, up S.2.2 c v) (mI M 107 c v) := by
  obtain ⟨⟨e1, e2, e3, e4, e5⟩, h2, h3, h4, h5, h6⟩ := h
  refine ⟨⟨e1, repR_fr e1.1 (by rw [mI_ne (by omega)]) (fun j _ _ => by rw [mI_ne (by omega)]) e2, repG_fr (mI_ne (by omega)) e3, by rw [mI_ne (by omega)]; exact e4, fun d hd => by rw [mI_ne (by omega)]; exact e5 d hd⟩, fun d hd => ?_, fun q h1 h2 hq => by rw [mI_ne (by omega)]; exact h3 q h1 h2 hq, fun j hj => by rw [mI_ne (by omega)]; exact h4 j hj, by rw [mI_ne (by omega)]; exact h5, h6⟩
  show _ = up S.2.2 c v d
  by_cases e : d = c
  · subst e; rw [mI_e, up_e]
  · rw [mI_n (by omega), up_n e]; exact h2 d hd
theorem rSt_90 {M0 M : mM} {t v : Int32} {heard : Nat → Int32} {S : Tk} {c : Nat} (hc : c < bN S.1) (h : rSt M0 t heard S M) : rSt M0 t heard (S.1, up S.2.1 c v, S.2.2) (mI M 97 (90 + c) v) := by
  obtain ⟨⟨e1, e2, e3, e4, e5⟩, h2, h3, h4, h5, h6⟩ := h
  have hn := e1.1
  refine ⟨⟨e1, repR_fr e1.1 (mI_n (by omega)) (fun j _ _ => mI_n (by omega)) e2, repG_fr (mI_ne (by omega)) e3, by rw [mI_n (by omega)]; exact e4, fun d hd => ⟨?_, by have hd : d < bN S.1 := hd; rw [mI_n (by omega)]; exact (e5 d hd).2⟩⟩, fun d hd => by rw [mI_ne (by omega)]; exact h2 d hd, fun q h1 h2 hq => by rw [mI_ne (by omega)]; exact h3 q h1 h2 hq, fun j hj => by rw [mI_n (by omega)]; exact h4 j hj, by rw [mI_ne (by omega)]; exact h5, h6⟩
  show _ = up S.2.1 c v d
  by_cases e : d = c
  · subst e; rw [mI_e, up_e]
  · rw [mI_n (by omega), up_n e]; exact (e5 d hd).1
/-- what the reference does behind its choice -/
theorem r_tail {M0 M : mM} {t a am : Int32} {heard : Nat → Int32} {S : Tk} {c : Nat} (h : rSt M0 t heard S M) (hc : c < bN S.1) (q19 : M.1 96 19 = a) (q20 : M.1 96 20 = am) (ha : amK a am) : ∃ M', (if (M.1 96 19) = 121 then (mgd (mIn (nI c) 16) <| mlt (mI M 107 (Int32.toNatClampNeg (nI c)) (M.1 96 20)) fun M72 => f_X10_acts_b73 (nI c) M72) else (f_X10_acts_b73 (nI c) M)) = some ((aGo S a am c).2, M') ∧ rSt M0 t heard (aGo S a am c).1 M' := by
  have hw := h.1.1
  have hn := hw.1
  rcases ha with ⟨rfl, w, hw8, rfl⟩ | rfl | rfl
  · rw [q19, if_neg (by decide)]
    unfold f_X10_acts_b73 f_X10_acts_b95
    rw [q19, if_neg (by decide), if_pos (show (103 : Int32) = 103 from rfl), q20, lmul, nadd]
    show ∃ M', mbw (f_X10_canMove (nI (8 * c + w)) M) _ = _ ∧ _
    rw [X10_canMove hw h.1.2.1 h.1.2.2.1 hc hw8, mbw_s]
    by_cases hcan : canP S.1 c w
    · rw [tf_y hcan, if_neg (show ¬ (1 : Int32) = 0 by decide), q20, nadd]
      show ∃ M', mbp (f_X10_goes (nI (8 * c + w)) M) _ = _ ∧ _
      rw [X10_goes h.1.2.1 hw hc hw8 (canP_in hw hc hw8 hcan).1, mbp_s, aGo_y hw8 hcan]
      exact ⟨_, rfl, rSt_go h hc hw8 hcan⟩
    · rw [tf_n hcan, if_pos (show (0 : Int32) = 0 from rfl), aGo_n hw8 hcan]
      exact ⟨_, rfl, h⟩
  · have h1 := rSt_107 (c := c) (v := am) h
    rw [q19, if_pos rfl, mgd_s ((nin (by omega)).mpr (by omega)), ncl (by omega), q20, mlt_s]
    unfold f_X10_acts_b73 f_X10_acts_b95
    rw [mI_ne (by omega), q19, if_neg (by decide), if_neg (by decide), aGo_s]
    exact ⟨_, rfl, h1⟩
  · have h1 := rSt_90 (c := c) (v := am) hc h
    rw [q19, if_neg (by decide)]
    unfold f_X10_acts_b73 f_X10_acts_b95
    simp only [ladd, ncl (show 90 + c < 2147483648 by omega)]
    rw [q19, if_pos (show (61 : Int32) = 61 from rfl), mgd_s ((nin (by omega)).mpr (by omega)), mlt_s, q20, mI_ne (by omega), q19, if_neg (by decide), aGo_m]
    exact ⟨_, rfl, h1⟩
