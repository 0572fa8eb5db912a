/-! ticks -/
theorem s_loop {M0 Q0 : mM} {t : Int32} {heard : Nat → Int32} (d : Nat) : ∀ c M S, c + d = bN (Prod.fst S) → cSt M0 t heard S M → ∃ W M', (∀ k, f_X8_sharePower_b2 (k + d + 1) 1 (nI c) M = some M') ∧ cSt M0 t heard (sW (Prod.fst S) W, S.2) M' ∧ ∀ Q, rSt Q0 t heard S Q → ∃ Q', (∀ k i1, f_X10_goTick_b59 (k + d + 1) i1 (nI c) Q = f_X10_goTick_b82 mN i1 0 Q') ∧ rSt Q0 t heard (sW (Prod.fst S) W, S.2) Q' := by
  induction d with
  | zero =>
    intro c M S hcn h
    have h16 := h.1.1.1
    refine ⟨bW S.1, M, fun k => ?_, h, fun Q hq => ⟨Q, fun k i1 => ?_, hq⟩⟩
    · rw [f_X8_sharePower_b2, show M.1 (1 + 1) 0 = nI (bN S.1) from h.1.2.1.1, if_pos ((nle (by omega) (by omega)).mpr (by omega))]
    · rw [f_X10_goTick_b59, show Q.1 97 0 = nI (bN S.1) from hq.1.2.1.1, if_pos ((nle (by omega) (by omega)).mpr (by omega))]
  | succ d ih =>
    intro c M S hcn h
    obtain ⟨W1, M1, a1, a2, a3⟩ := s_step (Q0 := Q0) h (show c < bN S.1 by omega)
    obtain ⟨W2, M2, b1, b2, b3⟩ := ih (c + 1) M1 (sW S.1 W1, S.2) (by show c + 1 + d = bN S.1; omega) a2
    refine ⟨W2, M2, fun k => ?_, b2, fun Q hq => ?_⟩
    · show f_X8_sharePower_b2 (k + d + 1 + 1) 1 (nI c) M = _
      rw [a1, b1]
    · obtain ⟨Q1, c1, c2⟩ := a3 Q hq
      obtain ⟨Q2, d1, d2⟩ := b3 Q1 c2
      refine ⟨Q2, fun k i1 => ?_, d2⟩
      show f_X10_goTick_b59 (k + d + 1 + 1) i1 (nI c) Q = _
      rw [c1, d1]
/-- the class ends a TICK -/
theorem ce_loop {M0 : mM} {t : Int32} (d : Nat) : ∀ c M S h, c + d = bN (Prod.fst S) → cSt M0 t h S M → ∃ M' h' s', (∀ k, f_X8_endTick_b2 (k + d + 1) 1 (nI c) M = some M') ∧ cSt M0 (t + 1) h' (S.1, S.2.1, s') M' ∧ (∀ e, e < c → h' e = h e ∧ s' e = S.2.2 e) ∧ ∀ e, c ≤ e → e < bN S.1 → h' e = S.2.2 e ∧ s' e = 0 := by
  induction d with
  | zero =>
    intro c M S h hcn hs
    have h16 := hs.1.1.1
    refine ⟨mI M 1 1 (M.1 1 1 + 1), h, S.2.2, fun k => ?_, ?_, fun e he => ⟨rfl, rfl⟩, fun e h1 h2 => by omega⟩
    · rw [f_X8_endTick_b2, show M.1 (1 + 1) 0 = nI (bN S.1) from hs.1.2.1.1, if_pos ((nle (by omega) (by omega)).mpr (by omega)), mlt_s]
    · obtain ⟨⟨e1, e2, e3, e4⟩, h2, h3, h4, h5⟩ := hs
      refine ⟨⟨e1, repB_fr (by rw [mI_ne (by omega)]) (mI_ne (by omega)) (mI_ne (by omega)) (mI_ne (by omega)) (mI_ne (by omega)) (mI_ne (by omega)) e2, by rw [mI_e, e3], fun c hc => by rw [mI_ne (by omega), mI_ne (by omega)]; exact e4 c hc⟩, fun c hc => by rw [mI_ne (by omega)]; exact h2 c hc, fun q h1 hq => by rw [mI_ne (by omega)]; exact h3 q h1 hq, fun i hi => by rw [mI_n (by omega)]; exact h4 i hi, h5⟩
  | succ d ih =>
    intro c M S h hcn hs
    have h16 := hs.1.1.1
    have e11 := hs.2.1 c (by omega)
    have hs1 : cSt M0 t (up h c (S.2.2 c)) (S.1, S.2.1, up S.2.2 c 0) (mI (mI M 12 c (S.2.2 c)) 11 c 0) := by
      have k1 : cSt M0 t (up h c (S.2.2 c)) S (mI M 12 c (S.2.2 c)) := by
        obtain ⟨⟨e1, e2, e3, e4⟩, h2, h3, h4, h5⟩ := hs
        refine ⟨⟨e1, repB_fr (by rw [mI_ne (by omega)]) (mI_ne (by omega)) (mI_ne (by omega)) (mI_ne (by omega)) (mI_ne (by omega)) (mI_ne (by omega)) e2, by rw [mI_ne (by omega)]; exact e3, fun d hd => ⟨by rw [mI_ne (by omega)]; exact (e4 d hd).1, ?_⟩⟩, fun c hc => by rw [mI_ne (by omega)]; exact h2 c hc, fun q h1 hq => by rw [mI_ne (by omega)]; exact h3 q h1 hq, fun i hi => by rw [mI_ne (by omega)]; exact h4 i hi, h5⟩
        show _ = up h c (S.2.2 c) d
        by_cases e : d = c
        · subst e; rw [mI_e, up_e]
        · rw [mI_n (by omega), up_n e]; exact (e4 d hd).2
      exact cSt_11 k1
    obtain ⟨M', h', s', a1, a2, a3, a4⟩ := ih (c + 1) _ _ _ (by show c + 1 + d = bN S.1; omega) hs1
    refine ⟨M', h', s', fun k => ?_, a2, fun e he => ?_, fun e h1 h2 => ?_⟩
    · show f_X8_endTick_b2 (k + d + 1 + 1) 1 (nI c) M = _
      rw [f_X8_endTick_b2, show M.1 (1 + 1) 0 = nI (bN S.1) from hs.1.2.1.1, if_neg (fun q => by have := (nle (by omega) (by omega)).mp q; omega)]
      simp only [ncl (show c < 2147483648 by omega)]
      rw [mgd_s ((nin (by omega)).mpr (by omega)), mgd_s ((nin (by omega)).mpr (by omega)), show M.1 (1 + 10) c = _ from e11, mlt_s, mgd_s ((nin (by omega)).mpr (by omega)), mlt_s, mlt_s, nI_1]
      exact a1 k
    · obtain ⟨x1, x2⟩ := a3 e (by omega)
      exact ⟨x1.trans (up_n (by omega)), x2.trans (up_n (by omega))⟩
    · by_cases e1 : e = c
      · subst e1
        obtain ⟨x1, x2⟩ := a3 e (by omega)
        exact ⟨x1.trans up_e, x2.trans up_e⟩
      · obtain ⟨x1, x2⟩ := a4 e (by omega) h2
        exact ⟨x1.trans (up_n (by omega)), x2⟩
theorem cSt_cg {M0 M : mM} {t : Int32} {h h' : Nat → Int32} {A : Bd} {mem s s' : Nat → Int32} (hs : cSt M0 t h (A, mem, s) M) (hh : ∀ e, e < bN A → h e = h' e) (hs2 : ∀ e, e < bN A → s e = s' e) : cSt M0 t h' (A, mem, s') M := by
  obtain ⟨⟨e1, e2, e3, e4⟩, h2, h3⟩ := hs
  exact ⟨⟨e1, e2, e3, fun c hc => ⟨(e4 c hc).1, ((e4 c hc).2).trans (hh c hc)⟩⟩, fun c hc => (h2 c hc).trans (hs2 c hc), h3⟩
theorem rSt_cg {M0 M : mM} {t : Int32} {h h' : Nat → Int32} {A : Bd} {mem s s' : Nat → Int32} (hs : rSt M0 t h (A, mem, s) M) (hh : ∀ e, e < bN A → h e = h' e) (hs2 : ∀ e, e < bN A → s e = s' e) : rSt M0 t h' (A, mem, s') M := by
  obtain ⟨⟨e1, e2, e3, e4, e5⟩, h2, h3⟩ := hs
  exact ⟨⟨e1, e2, e3, e4, fun c hc => ⟨(e5 c hc).1, ((e5 c hc).2).trans (hh c hc)⟩⟩, fun c hc => (h2 c hc).trans (hs2 c hc), h3⟩
/-- the reference begins and ends a TICK -/
theorem rb_loop {M0 : mM} {t : Int32} {h : Nat → Int32} (d : Nat) : ∀ c M S, c + d = 16 → rSt M0 t h S M → ∃ M' s', (∀ k i1, f_X10_goTick_b4 (k + d + 1) i1 (nI c) M = f_X10_goTick_b25 mN i1 0 M') ∧ rSt M0 t h (S.1, S.2.1, s') M' ∧ (∀ e, e < c → s' e = S.2.2 e) ∧ ∀ e, c ≤ e → e < 16 → s' e = 0 := by
  induction d with
  | zero =>
    intro c M S hcn hs
    refine ⟨M, S.2.2, fun k i1 => ?_, hs, fun e he => rfl, fun e h1 h2 => by omega⟩
    obtain rfl : c = 16 := by omega
    rw [f_X10_goTick_b4, if_pos (by decide)]
  | succ d ih =>
    intro c M S hcn hs
    obtain ⟨M', s', a1, a2, a3, a4⟩ := ih (c + 1) _ _ (by omega) (rSt_107 (c := c) (v := 0) hs)
    refine ⟨M', s', fun k i1 => ?_, a2, fun e he => (a3 e (by omega)).trans (up_n (by omega)), fun e h1 h2 => ?_⟩
    · show f_X10_goTick_b4 (k + d + 1 + 1) i1 (nI c) M = _
      rw [f_X10_goTick_b4, if_neg (fun q => by have : 16 ≤ _ := (lle (m := 16) (by decide) (by omega)).mp q; omega), mgd_s ((nin (by omega)).mpr (by omega)), ncl (by omega), mlt_s, mlt_s, nI_1]
      exact a1 k i1
    · by_cases e1 : e = c
      · subst e1
        exact (a3 e (by omega)).trans up_e
      · exact a4 e (by omega) h2
theorem re_loop {M0 : mM} {t : Int32} (d : Nat) : ∀ c M S h, c + d = 16 → rSt M0 t h S M → ∃ M' h', (∀ k i1, f_X10_goTick_b82 (k + d + 1) i1 (nI c) M = some (i1, M')) ∧ rSt M0 (t + 1) h' S M' ∧ (∀ e, e < c → e < bN (Prod.fst S) → h' e = h e) ∧ ∀ e, c ≤ e → e < bN (Prod.fst S) → h' e = S.2.2 e := by
  induction d with
  | zero =>
    intro c M S h hcn hs
    have h16 := hs.1.1.1
    refine ⟨mI M 97 5 (M.1 97 5 + 1), h, fun k i1 => ?_, ?_, fun e he _ => rfl, fun e h1 h2 => by omega⟩
    · obtain rfl : c = 16 := by omega
      rw [f_X10_goTick_b82, if_pos (by decide), mlt_s]
    · obtain ⟨⟨e1, e2, e3, e4, e5⟩, h2, h3, h4, h5, h6⟩ := hs
      exact ⟨⟨e1, repR_fr e1.1 (mI_n (by omega)) (fun j _ _ => mI_n (by omega)) e2, repG_fr (mI_ne (by omega)) e3, by rw [mI_e, e4], fun d hd => by rw [mI_n (by omega), mI_n (by omega)]; exact e5 d hd⟩, fun d hd => by rw [mI_ne (by omega)]; exact h2 d hd, fun q h1 h2 hq => by rw [mI_ne (by omega)]; exact h3 q h1 h2 hq, fun j hj => by rw [mI_n (by omega)]; exact h4 j hj, by rw [mI_ne (by omega)]; exact h5, h6⟩
  | succ d ih =>
    intro c M S h hcn hs
    have h16 := hs.1.1.1
    have hs1 : rSt M0 t (up h c (M.1 107 c)) S (mI M 97 (106 + c) (M.1 107 c)) := by
      obtain ⟨⟨e1, e2, e3, e4, e5⟩, h2, h3, h4, h5, h6⟩ := hs
      refine ⟨⟨e1, repR_fr e1.1 (mI_n (by omega)) (fun j _ _ => mI_n (by omega)) e2, repG_fr (mI_ne (by omega)) e3, by rw [mI_n (by omega)]; exact e4, fun d hd => ⟨by rw [mI_n (by omega)]; exact (e5 d hd).1, ?_⟩⟩, fun d hd => by rw [mI_ne (by omega)]; exact h2 d hd, fun q h1 h2 hq => by rw [mI_ne (by omega)]; exact h3 q h1 h2 hq, fun j hj => by rw [mI_n (by omega)]; exact h4 j hj, by rw [mI_ne (by omega)]; exact h5, h6⟩
      show _ = up h c (M.1 107 c) d
      by_cases e : d = c
      · subst e; rw [mI_e, up_e]
      · rw [mI_n (by omega), up_n e]; exact (e5 d hd).2
    obtain ⟨M', h', a1, a2, a3, a4⟩ := ih (c + 1) _ _ _ (by omega) hs1
    refine ⟨M', h', fun k i1 => ?_, a2, fun e he h2 => (a3 e (by omega) h2).trans (up_n (by omega)), fun e h1 h2 => ?_⟩
    · show f_X10_goTick_b82 (k + d + 1 + 1) i1 (nI c) M = _
      rw [f_X10_goTick_b82, if_neg (fun q => by have : 16 ≤ _ := (lle (m := 16) (by decide) (by omega)).mp q; omega)]
      simp only [ladd, ncl (show 106 + c < 2147483648 by omega), ncl (show c < 2147483648 by omega)]
      rw [mgd_s ((nin (by omega)).mpr (by omega)), mgd_s ((nin (by omega)).mpr (by omega)), mlt_s, mlt_s, nI_1]
      exact a1 k i1
    · by_cases e1 : e = c
      · subst e1
        rw [a3 e (by omega) h2, up_e]
        exact hs.2.1 e h2
      · exact a4 e (by omega) h2
/-- a whole TICK -/
theorem t_step {M0 Q0 M : mM} {t : Int32} {h mem : Nat → Int32} {A : Bd} {n np : Nat} {rl NN : Nat → Nat} {TT : Nat → Nat → Int32} (hs : cSt M0 t h (A, mem, fun _ => 0) M) (hn : bN A = n) (hP : cPg M0 n np rl NN TT) (hQ : rPg Q0 M0 n np rl NN TT) : ∃ A' mem' h' v M', bN A' = n ∧ (wW A → wW A') ∧ (∀ k i1 i2 i3, ¬ i1 ≤ i3 → f_X9_ticks_b35 (k + 1) i1 i2 i3 M = f_X9_ticks_b35 k i1 (i2 + v) (i3 + 1) M') ∧ cSt M0 (t + 1) h' (A', mem', fun _ => 0) M' ∧ ∀ Q s, rSt Q0 t h (A, mem, s) Q → ∃ Q' s', (∀ k i1 i2 i3, ¬ i1 ≤ i3 → f_X10_ticks_b34 (k + 1) i1 i2 i3 Q = f_X10_ticks_b34 k i1 (i2 + v) (i3 + 1) Q') ∧ rSt Q0 (t + 1) h' (A', mem', s') Q' := by
  subst hn
  have h16 := hs.1.1.1
  have h16 : bN A ≤ 16 := h16
  obtain ⟨m, hm⟩ := mN_ge (k := bN A + 1) (by omega)
  have hm : mN = m + bN A + 1 := by omega
  obtain ⟨m2, hm2⟩ := mN_ge (k := 17) (by omega)
  have hm2 : mN = m2 + 16 + 1 := by omega
  obtain ⟨S1, v, M1, a1, a2, a3, a4, a5⟩ := a_loop hP hQ (bN A) 0 M (A, mem, fun _ => 0) (Nat.zero_add _) rfl hs
  obtain ⟨W, M2, b1, b2, b3⟩ := s_loop (Q0 := Q0) (bN A) 0 M1 S1 (by rw [a1]; omega) a4
  obtain ⟨M3, h', s', c1, c2, c3, c4⟩ := ce_loop (bN A) 0 M2 _ _ (by show 0 + bN A = bN S1.1; rw [a1]; omega) b2
  have c4 : ∀ e, e < bN A → h' e = S1.2.2 e ∧ s' e = 0 := fun e he => c4 e (by omega) (by show e < bN S1.1; rw [a1]; exact he)
  refine ⟨sW S1.1 W, S1.2.1, S1.2.2, v, M3, a1, a2, fun k i1 i2 i3 hi => ?_, ?_, fun Q s hq => ?_⟩
  · have a3 := a3 m 0
    rw [← hm, Int32.zero_add] at a3
    have b1 := b1 m
    have c1 := c1 m
    rw [← hm] at b1 c1
    have a3 : f_X1_runAll M = _ := a3
    have b1 : f_X8_sharePower 1 M1 = _ := b1
    have c1 : f_X8_endTick 1 M2 = _ := c1
    rw [f_X9_ticks_b35, if_neg hi, a3, mbw_s, b1, mbp_s, c1, mbp_s, mlt_s]
  · have q : bN (sW S1.1 W) = bN A := a1
    exact cSt_cg c2 (fun e he => (c4 e (by rw [← q]; exact he)).1) (fun e he => (c4 e (by rw [← q]; exact he)).2)
  · obtain ⟨Q1, s1, r1, r2, r3, r4⟩ := rb_loop 16 0 Q _ rfl hq
    have r2 := rSt_cg (s' := fun _ => 0) r2 (fun _ _ => rfl) (fun e he => r4 e (by omega) (by have : e < bN A := he; omega))
    obtain ⟨Q2, d1, d2⟩ := a5 Q1 r2
    obtain ⟨Q3, e1, e2⟩ := b3 Q2 d2
    obtain ⟨Q4, h2, f1, f2, f3, f4⟩ := re_loop 16 0 Q3 _ _ rfl e2
    refine ⟨Q4, S1.2.2, fun k i1 i2 i3 hi => ?_, rSt_cg f2 (fun e he => f4 e (by omega) he) (fun _ _ => rfl)⟩
    have r1 := r1 m2 0
    have d1 := d1 m 0
    have e1 := e1 m (0 + v)
    have f1 := f1 m2 (0 + v)
    rw [← hm2] at r1 f1
    rw [← hm] at d1 e1
    have g : f_X10_goTick Q = some (v, Q4) := by
      show f_X10_goTick_b4 mN 0 (nI 0) Q = _
      rw [r1]
      show f_X10_goTick_b25 mN 0 (nI 0) Q1 = _
      rw [d1]
      show f_X10_goTick_b59 mN (0 + v) (nI 0) Q2 = _
      rw [e1]
      show f_X10_goTick_b82 mN (0 + v) (nI 0) Q3 = _
      rw [f1, Int32.zero_add]
    rw [f_X10_ticks_b34, if_neg hi, g, mbw_s, mlt_s]
theorem t_loop {M0 Q0 : mM} {n np m : Nat} {rl NN : Nat → Nat} {TT : Nat → Nat → Int32} (hm : m < 1000) (hP : cPg M0 n np rl NN TT) (hQ : rPg Q0 M0 n np rl NN TT) (d : Nat) : ∀ i t h mem A M, i + d = m → cSt M0 (nI t) h (A, mem, fun _ => 0) M → bN A = n → ∃ A' mem' h' v M', bN A' = n ∧ (wW A → wW A') ∧ (∀ k i2, f_X9_ticks_b35 (k + d + 1) (nI m) i2 (nI i) M = some (i2 + v, M')) ∧ cSt M0 (nI (t + d)) h' (A', mem', fun _ => 0) M' ∧ ∀ Q s, rSt Q0 (nI t) h (A, mem, s) Q → ∃ Q' s', (∀ k i2, f_X10_ticks_b34 (k + d + 1) (nI m) i2 (nI i) Q = some (i2 + v, Q')) ∧ rSt Q0 (nI (t + d)) h' (A', mem', s') Q' := by
  induction d with
  | zero =>
    intro i t h mem A M him hs hn
    refine ⟨A, mem, h, 0, M, hn, fun k => k, fun k i2 => ?_, hs, fun Q s hq => ⟨Q, s, fun k i2 => ?_, hq⟩⟩
    · rw [f_X9_ticks_b35, if_pos ((nle (by omega) (by omega)).mpr (by omega)), Int32.add_zero]
    · rw [f_X10_ticks_b34, if_pos ((nle (by omega) (by omega)).mpr (by omega)), Int32.add_zero]
  | succ d ih =>
    intro i t h mem A M him hs hn
    obtain ⟨A1, mem1, h1, v1, M1, a1, a2, a3, a4, a5⟩ := t_step hs hn hP hQ
    rw [nI_1] at a4
    obtain ⟨A2, mem2, h2, v2, M2, b1, b2, b3, b4, b5⟩ := ih (i + 1) (t + 1) h1 mem1 A1 M1 (by omega) a4 a1
    have hi : ¬ nI m ≤ nI i := fun q => by have := (nle (by omega) (by omega)).mp q; omega
    rw [show t + 1 + d = t + (d + 1) by omega] at b4 b5
    refine ⟨A2, mem2, h2, v1 + v2, M2, b1, fun k => b2 (a2 k), fun k i2 => ?_, b4, fun Q s hq => ?_⟩
    · show f_X9_ticks_b35 (k + d + 1 + 1) (nI m) i2 (nI i) M = _
      rw [a3 _ _ _ _ hi, nI_1, b3, Int32.add_assoc]
    · obtain ⟨Q1, s1, c1, c2⟩ := a5 Q s hq
      rw [nI_1] at c2
      obtain ⟨Q2, s2, d1, d2⟩ := b5 Q1 s1 c2
      refine ⟨Q2, s2, fun k i2 => ?_, d2⟩
      show f_X10_ticks_b34 (k + d + 1 + 1) (nI m) i2 (nI i) Q = _
      rw [c1 _ _ _ _ hi, nI_1, d1, Int32.add_assoc]
