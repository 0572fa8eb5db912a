/-! ticks: every CUBE acts -/
def cPg (M : mM) (n np : Nat) (rl NN : Nat → Nat) (TT : Nat → Nat → Int32) : Prop := M.1 1 8 = nI np ∧ np ≤ 8 ∧ (∀ c, c < n → M.1 13 c = -1 ∨ (rl c < np ∧ M.1 13 c = nI (rl c))) ∧ ∀ j, j < np → NN j ≤ 90 ∧ M.1 24 j = nI (NN j) ∧ (∀ i, i < NN j → M.1 (16 + j) i ≠ -1000) ∧ lk (M.1 (16 + j)) (NN j) = TT j ∧ (pPr (TT j) (NN j)).2 = true
def rPg (M C : mM) (n np : Nat) (rl NN : Nat → Nat) (TT : Nat → Nat → Int32) : Prop := (∀ c, c < n → (C.1 13 c = -1 ∧ M.1 97 (122 + c) = -4) ∨ (rl c < np ∧ C.1 13 c = nI (rl c) ∧ M.1 97 (122 + c) = nI (rl c))) ∧ ∀ j, j < np → M.1 97 (146 + j) = nI (NN j) ∧ lk (rg 97 (874 + 90 * j) M) (NN j) = TT j
theorem st_of {M0 M : mM} {t : Int32} {heard : Nat → Int32} {S : Tk} {n np : Nat} {rl NN : Nat → Nat} {TT : Nat → Nat → Int32} (h : cSt M0 t heard S M) (hP : cPg M0 n np rl NN TT) : stM M S.1 t S.2.1 heard np := by
  obtain ⟨h1, h2, h3, h4, h5⟩ := h
  obtain ⟨p1, p2, p3, p4⟩ := hP
  refine ⟨h1, by rw [h4 8 (by omega)]; exact p1, p2, fun j hj => ?_⟩
  obtain ⟨a1, a2, a3, a4, a5⟩ := p4 j hj
  have e : M.1 (16 + j) = M0.1 (16 + j) := h3 _ (by omega) (by omega)
  exact ⟨NN j, a1, by rw [h3 24 (by omega) (by omega)]; exact a2, by rw [e]; exact a3, by rw [e, a4]; exact a5⟩
theorem cSt_op {M0 M : mM} {t : Int32} {heard : Nat → Int32} {S : Tk} {r N : Nat} (h : cSt M0 t heard S M) : cSt M0 t heard S (mI (mT M 76 r) 76 1 (nI N)) := by
  obtain ⟨⟨e1, e2, e3, e4⟩, h2, h3, h4, h5⟩ := h
  have fr : ∀ q, q ≠ 76 → (mI (mT M 76 r) 76 1 (nI N)).1 q = M.1 q := fun q hq => by rw [mI_ne hq]; rfl
  exact ⟨⟨e1, repB_fr (by rw [fr 2 (by omega)]) (fr _ (by omega)) (fr _ (by omega)) (fr _ (by omega)) (fr _ (by omega)) (fr _ (by omega)) e2, by rw [fr 1 (by omega)]; exact e3, fun c hc => by rw [fr 10 (by omega), fr 12 (by omega)]; exact e4 c hc⟩, fun c hc => by rw [fr 11 (by omega)]; exact h2 c hc, fun q h1 hq => by rw [fr q (by omega)]; exact h3 q h1 hq, fun i hi => by rw [fr 1 (by omega)]; exact h4 i hi, h5⟩
theorem rSt_eqR {M0 M M' : mM} {t : Int32} {heard : Nat → Int32} {S : Tk} (h : rSt M0 t heard S M) (e : eqR M M') (e2 : ∀ k, k ≠ 96 → M'.1 k = M.1 k) : rSt M0 t heard S M' := by
  obtain ⟨⟨e1, r2, e3, e4, e5⟩, h2, h3, h4, h5, h6⟩ := h
  have e97 := e2 97 (by omega)
  exact ⟨⟨e1, repR_fr e1.1 (by rw [e97]) (fun j _ _ => by rw [e97]) r2, repG_fr (e2 99 (by omega)) e3, by rw [e97]; exact e4, fun d hd => by rw [e97]; exact e5 d hd⟩, fun d hd => by rw [e2 107 (by omega)]; exact h2 d hd, fun q a1 a2 hq => by rw [e2 q (by omega)]; exact h3 q a1 a2 hq, fun j hj => by rw [e97]; exact h4 j hj, by rw [e.2.1 3 (by omega)]; exact h5, by rw [e.2.2]; exact h6⟩
theorem aGo_b {S : Tk} {a am : Int32} {c : Nat} (hw : wf S.1) (hc : c < bN S.1) (ha : amK a am) : bN (aGo S a am c).1.1 = bN S.1 ∧ (wW S.1 → wW (aGo S a am c).1.1) ∧ ((aGo S a am c).2 = 0 ∨ (aGo S a am c).2 = 1) := by
  rcases ha with ⟨rfl, w, hw8, rfl⟩ | rfl | rfl
  · by_cases hcan : canP S.1 c w
    · rw [aGo_y hw8 hcan]
      exact ⟨rfl, fun _ => wW_go hw hc hw8 hcan, Or.inr rfl⟩
    · rw [aGo_n hw8 hcan]
      exact ⟨rfl, fun k => k, Or.inl rfl⟩
  · rw [aGo_s]
    exact ⟨rfl, fun k => k, Or.inl rfl⟩
  · rw [aGo_m]
    exact ⟨rfl, fun k => k, Or.inl rfl⟩
theorem r_25 {M M' : mM} {n c : Nat} {v : Int32} (h0 : M.1 97 0 = nI n) (hn : n ≤ 16) (hc : c < n) (h : f_X10_acts (nI c) M = some (v, M')) (hv : v = 0 ∨ v = 1) : ∀ k i1, f_X10_goTick_b25 (k + 1) i1 (nI c) M = f_X10_goTick_b25 k (i1 + v) (nI (c + 1)) M' := by
  intro k i1
  rw [f_X10_goTick_b25, h0, if_neg (fun q => by have := (nle (by omega) (by omega)).mp q; omega), h, mbw_s]
  rcases hv with rfl | rfl
  · rw [if_pos (show (0 : Int32) = 0 from rfl), mlt_s, nI_1]
  · rw [if_neg (show ¬ (1 : Int32) = 0 by decide), mlt_s, nI_1]
theorem a_step {M0 Q0 M : mM} {t : Int32} {heard : Nat → Int32} {S : Tk} {c n np : Nat} {rl NN : Nat → Nat} {TT : Nat → Nat → Int32} (h : cSt M0 t heard S M) (hn : bN S.1 = n) (hP : cPg M0 n np rl NN TT) (hQ : rPg Q0 M0 n np rl NN TT) (hc : c < n) : ∃ S' v M', bN (Prod.fst S') = n ∧ (wW S.1 → wW (Prod.fst S')) ∧ (∀ k i1, f_X1_runAll_b4 (k + 1) i1 (nI c) M = f_X1_runAll_b4 k (i1 + v) (nI (c + 1)) M') ∧ cSt M0 t heard S' M' ∧ ∀ Q, rSt Q0 t heard S Q → ∃ Q', (∀ k i1, f_X10_goTick_b25 (k + 1) i1 (nI c) Q = f_X10_goTick_b25 k (i1 + v) (nI (c + 1)) Q') ∧ rSt Q0 t heard S' Q' := by
  subst hn
  have hw := h.1.1
  have h16 := hw.1
  have hp8 := hP.2.1
  have e13 : M.1 13 = M0.1 13 := h.2.2.1 13 (by omega) (by omega)
  have hr2 : M.1 13 c = -1 ∨ ∃ j, j < np ∧ M.1 13 c = nI j := by
    rw [e13]
    rcases hP.2.2.1 c hc with q | q
    · exact Or.inl q
    · exact Or.inr ⟨_, q⟩
  have ent : ∀ k i1, f_X1_runAll_b4 (k + 1) i1 (nI c) M = if tf (bD S.1 c = 0 ∧ 0 ≤ M.1 13 c) = 0 then (mlt (nI c + 1) fun x45 => f_X1_runAll_b4 k i1 x45 M) else (mbw (f_X1_chooseRule (nI c) M) fun v31 M31 => if v31 < 0 then (mlt (nI c + 1) fun x45 => f_X1_runAll_b4 k i1 x45 M31) else (mbw (f_X1_act (nI c) M31) fun v40 M40 => mlt (nI c + 1) fun x45 => f_X1_runAll_b4 k (i1 + v40) x45 M40)) := fun k i1 => by
    rw [f_X1_runAll_b4, show M.1 2 0 = nI (bN S.1) from h.1.2.1.1, if_neg (fun q => by have := (nle (by omega) (by omega)).mp q; omega), X8_running h16 hw h.1.2.1 hc (st_of h hP).2.1 hp8 rfl hr2, mbp_s]
  by_cases run : bD S.1 c = 0 ∧ 0 ≤ M.1 13 c
  · rw [tf_y run] at ent
    obtain ⟨hj, q1, q2⟩ : rl c < np ∧ M.1 13 c = nI (rl c) ∧ Q0.1 97 (122 + c) = nI (rl c) := by
      have r2 := run.2
      rw [e13] at r2 ⊢
      rcases hQ.1 c hc with q | q
      · rw [q.1] at r2
        exact absurd r2 (by decide)
      · exact q
    obtain ⟨j, hjr⟩ : ∃ j, rl c = j := ⟨_, rfl⟩
    rw [hjr] at hj q1 q2
    obtain ⟨N, v, M1, n1, n2, n3, c1, c2, hx, hl, hE1⟩ := X1_choose (st_of h hP) hc hj q1
    obtain ⟨a1, a2, a3, a4, a5⟩ := hP.2.2.2 j hj
    obtain ⟨b1, b2⟩ := hQ.2 j hj
    have e24 : M.1 24 = M0.1 24 := h.2.2.1 24 (by omega) (by omega)
    have e16 : M.1 (16 + j) = M0.1 (16 + j) := h.2.2.1 (16 + j) (by omega) (by omega)
    have eN : N = NN j := (neq (by omega) (by omega)).mp (n2.symm.trans (by rw [e24]; exact a2))
    subst eN
    rw [e16, a4] at n3 c2 hl
    have hop := cSt_op (r := 16 + j) (N := NN j) h
    have ref : ∀ Q, rSt Q0 t heard S Q → ∃ Q5, rSt Q0 t heard S Q5 ∧ chR (TT j) (fld S.1 t S.2.1 heard c) (chs (TT j) (NN j) (fld S.1 t S.2.1 heard c) 6 0 0) (Q5.1 96) ∧ f_X10_acts (nI c) Q = if 0 ≤ (Q5.1 96 18) then (if (Q5.1 96 19) = 121 then (mgd (mIn (nI c) 16) <| mlt (mI Q5 107 (Int32.toNatClampNeg (nI c)) (Q5.1 96 20)) fun M72 => f_X10_acts_b73 (nI c) M72) else (f_X10_acts_b73 (nI c) Q5)) else some (0, Q5) := fun Q hq => by
      have f122 : Q.1 97 (122 + c) = nI j := by rw [hq.2.2.2.1 _ (by omega)]; exact q2
      have tx : tx0 Q (nI (8 + j)) (NN j) (rg 97 (874 + 90 * j) Q0) := ⟨a1, Or.inr ⟨8 + j, by omega, rfl, by rw [show 138 + (8 + j) = 146 + j by omega, hq.2.2.2.1 _ (by omega)]; exact b1, fun k hk => by rw [show 154 + 90 * (8 + j) + k = 874 + 90 * j + k by omega, hq.2.2.2.1 _ (by omega)]⟩⟩
      obtain ⟨M5, g1, g2, g3, g4, g5⟩ := X10_goes_prog tx (r_fld hq.1 hc)
      rw [b2] at g1 g5
      have g5 := g5 a5
      refine ⟨M5, rSt_eqR hq g2 g3, g5, ?_⟩
      unfold f_X10_acts
      simp only [ladd, ncl (show 74 + c < 2147483648 by omega), ncl (show 122 + c < 2147483648 by omega)]
      rw [mgd_s ((nin (by omega)).mpr (by omega)), hq.1.2.1.2.2.2.2.2 c hc, run.1, if_neg (by decide), mgd_s ((nin (by omega)).mpr (by omega)), f122, if_neg (nlt0 (by omega)), mgd_s ((nin (by omega)).mpr (by omega)), ladd, g1, mbw_s, a5, if_neg (by decide)]
    obtain ⟨o, ho⟩ : ∃ o, chs (TT j) (NN j) (fld S.1 t S.2.1 heard c) 6 0 0 = o := ⟨_, rfl⟩
    rw [ho] at c2 ref
    cases o with
    | none =>
      obtain ⟨rfl, x, rfl⟩ := c2
      refine ⟨S, 0, _, rfl, fun k => k, fun k i1 => ?_, cSt_rd (p := x) (f := -1) hop, fun Q hq => ?_⟩
      · rw [ent, if_neg (show ¬ (1 : Int32) = 0 by decide), c1, mbw_s, if_pos (by decide), mlt_s, nI_1, Int32.add_zero]
      · obtain ⟨Q5, r1, r2, r3⟩ := ref Q hq
        refine ⟨Q5, r_25 hq.1.2.1.1 h16 hc ?_ (Or.inl rfl), r1⟩
        rw [r3, show Q5.1 96 18 = -4 from r2, if_neg (by decide)]
    | some x =>
      obtain ⟨rfl, x6, rfl, ok, e59⟩ := c2
      have ok' := ok
      have e59' := e59
      rw [← hl] at ok' e59'
      obtain ⟨M', m1, m2⟩ := c_act hop hx hc ok' e59'
      rw [hl] at m1 m2
      have ha := act_ok (F := fld S.1 t S.2.1 heard c) ok
      obtain ⟨k1, k2, k3⟩ := aGo_b hw hc ha
      refine ⟨_, (aGo S (TT j x.2) (vAm (TT j) (fld S.1 t S.2.1 heard c) x.2) c).2, M', k1, k2, fun k i1 => ?_, m2, fun Q hq => ?_⟩
      · rw [ent, if_neg (show ¬ (1 : Int32) = 0 by decide), c1, mbw_s, if_neg (nlt0 (by omega)), m1, mbw_s, mlt_s, nI_1]
      · obtain ⟨Q5, r1, r2, r3⟩ := ref Q hq
        obtain ⟨Q', s1, s2⟩ := r_tail r1 hc r2.2.1 r2.2.2 ha
        refine ⟨Q', r_25 hq.1.2.1.1 h16 hc ?_ k3, s2⟩
        rw [r3, show Q5.1 96 18 = nI x.1 from r2.1, if_pos (nle0 (by omega))]
        exact s1
  · rw [tf_n run] at ent
    refine ⟨S, 0, M, rfl, fun k => k, fun k i1 => ?_, h, fun Q hq => ⟨Q, r_25 hq.1.2.1.1 h16 hc ?_ (Or.inl rfl), hq⟩⟩
    · rw [ent, if_pos (show (0 : Int32) = 0 from rfl), mlt_s, nI_1, Int32.add_zero]
    · unfold f_X10_acts
      simp only [ladd, ncl (show 74 + c < 2147483648 by omega), ncl (show 122 + c < 2147483648 by omega)]
      rw [mgd_s ((nin (by omega)).mpr (by omega)), hq.1.2.1.2.2.2.2.2 c hc]
      by_cases d : bD S.1 c = 1
      · rw [if_pos d]
      · have d0 : bD S.1 c = 0 := (hw.2.2.2.2.2 c hc).resolve_right d
        have f122 : Q.1 97 (122 + c) = -4 := by
          rw [hq.2.2.2.1 _ (by omega)]
          rcases hQ.1 c hc with q | ⟨j1, j2, j3⟩
          · exact q.2
          · exact absurd ⟨d0, by rw [e13, j2]; exact nle0 (by omega)⟩ run
        rw [if_neg d, mgd_s ((nin (by omega)).mpr (by omega)), f122, if_pos (by decide)]
theorem a_loop {M0 Q0 : mM} {t : Int32} {heard : Nat → Int32} {n np : Nat} {rl NN : Nat → Nat} {TT : Nat → Nat → Int32} (hP : cPg M0 n np rl NN TT) (hQ : rPg Q0 M0 n np rl NN TT) (d : Nat) : ∀ c M S, c + d = n → bN (Prod.fst S) = n → cSt M0 t heard S M → ∃ S' v M', bN (Prod.fst S') = n ∧ (wW (Prod.fst S) → wW (Prod.fst S')) ∧ (∀ k i1, f_X1_runAll_b4 (k + d + 1) i1 (nI c) M = some (i1 + v, M')) ∧ cSt M0 t heard S' M' ∧ ∀ Q, rSt Q0 t heard S Q → ∃ Q', (∀ k i1, f_X10_goTick_b25 (k + d + 1) i1 (nI c) Q = f_X10_goTick_b59 mN (i1 + v) 0 Q') ∧ rSt Q0 t heard S' Q' := by
  induction d with
  | zero =>
    intro c M S hcn hn h
    have h16 := h.1.1.1
    refine ⟨S, 0, M, hn, fun k => k, fun k i1 => ?_, h, fun Q hq => ⟨Q, fun k i1 => ?_, hq⟩⟩
    · rw [f_X1_runAll_b4, show M.1 2 0 = nI (bN S.1) from h.1.2.1.1, if_pos ((nle (by omega) (by omega)).mpr (by omega)), Int32.add_zero]
    · rw [f_X10_goTick_b25, show Q.1 97 0 = nI (bN S.1) from hq.1.2.1.1, if_pos ((nle (by omega) (by omega)).mpr (by omega)), Int32.add_zero]
  | succ d ih =>
    intro c M S hcn hn h
    obtain ⟨S1, v1, M1, a1, a2, a3, a4, a5⟩ := a_step h hn hP hQ (show c < n by omega)
    obtain ⟨S2, v2, M2, b1, b2, b3, b4, b5⟩ := ih (c + 1) M1 S1 (by omega) a1 a4
    refine ⟨S2, v1 + v2, M2, b1, fun k => b2 (a2 k), fun k i1 => ?_, b4, fun Q hq => ?_⟩
    · show f_X1_runAll_b4 (k + d + 1 + 1) i1 (nI c) M = _
      rw [a3, b3, Int32.add_assoc]
    · obtain ⟨Q1, c1, c2⟩ := a5 Q hq
      obtain ⟨Q2, d1, d2⟩ := b5 Q1 c2
      refine ⟨Q2, fun k i1 => ?_, d2⟩
      show f_X10_goTick_b25 (k + d + 1 + 1) i1 (nI c) Q = _
      rw [c1, d1, Int32.add_assoc]
