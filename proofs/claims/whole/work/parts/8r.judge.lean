/-! judge -/
theorem mI_cm {M : mM} {k j k' j' : Nat} {v w : Int32} (h : k ≠ k' ∨ j ≠ j') : mI (mI M k j v) k' j' w = mI (mI M k' j' w) k j v := by
  refine mM_ext (fun a i => ?_) rfl
  simp only [mI_at]
  by_cases h1 : a = k' ∧ i = j'
  · rw [if_pos h1, if_neg (by omega), if_pos h1]
  · rw [if_neg h1, if_neg h1]
theorem se_cm {M : mM} {p c q : Nat} {v : Int32} (hc : c < 16) : seM (mI M 97 (58 + c) v) p c q = mI (seM M p c q) 97 (58 + c) v := by
  unfold seM
  rw [mI_cm (M := M) (k := 97) (j := 58 + c) (k' := 99) (by omega), mI_cm (k := 97) (j := 58 + c) (k' := 97) (j' := 26 + c) (by omega), mI_cm (k := 97) (j := 58 + c) (k' := 97) (j' := 42 + c) (by omega), mI_cm (k := 97) (j := 58 + c) (k' := 99) (by omega)]
theorem rgo_back {M : mM} {A : Bd} {c w : Nat} (hw : wf A) (hr : repR 97 M A) (hg : repG M A) (hc : c < bN A) (hw8 : w < 8) (hcan : canP A c w) : f_X10_comesBack (nI (8 * c + w)) (rgo M A c w) = some M := by
  have hn := hw.1
  have hp := (hw.2.1 c hc).1
  obtain ⟨q1, q2⟩ := canP_in hw hc hw8 hcan
  obtain ⟨e1, e2⟩ := n8 (c := c) (w := w) (by omega) hw8
  obtain ⟨s1, s2⟩ := stp_x hp hw8
  have hwB := wf_go hw hc hw8 hcan
  have hrB := rgo_rep (w := w) hr hw hc
  have hcB : c < bN (bGo A c w) := hc
  have hbp : bP (bGo A c w) c = stp (bP A c) w := if_pos rfl
  have hbw : bW (bGo A c w) c = bW A c - cost A c := if_pos rfl
  unfold f_X10_comesBack
  rw [e1, e2]
  simp only [ladd, ncl (show 26 + c < 2147483648 by omega), ncl (show 42 + c < 2147483648 by omega), ncl (show 58 + c < 2147483648 by omega), ncl (show 10 + c < 2147483648 by omega), mlt_s]
  rw [mgd_s ((nin (by omega)).mpr (by omega)), mgd_s ((nin (by omega)).mpr (by omega)), hrB.2.2.1 c hcB, hrB.2.2.2.1 c hcB, hbp, show cx (stp (bP A c) w) - f_X10_east (nI w) = cx (bP A c) by rw [← s1]; grind, show cy (stp (bP A c) w) - f_X10_north (nI w) = cy (bP A c) by rw [← s2]; grind, X10_sets hrB hwB hcB hp, mbp_s, hbp, se_cm (by omega), se_back hr hg hw hc q1 q2, mgd_s ((nin (by omega)).mpr (by omega)), mgd_s ((nin (by omega)).mpr (by omega)), mgd_s ((nin (by omega)).mpr (by omega)), mI_e, mI_mI, mI_n (by omega), hr.2.1 c hc, mI_self2]
  rw [hr.2.2.2.2.1 c hc]
  show bW A c = bW A c - f_X10_costOf (bK A c) + f_X10_costOf (bK A c)
  grind
/-- the class's trial body -/
theorem X0_copy65 {M : mM} {K : Kt} (hA : wA 1 97 M K) : ∃ M', f_X0_copyFrom 65 2 M = some M' ∧ eqK M M' ∧ repB 65 M' K.1 ∧ M'.1 74 = M.1 74 ∧ M'.2 = M.2 := by
  obtain ⟨M', m1, m2, m3, m4, m5, m6, m7⟩ := X0_copy (b := 65) (q := 2) (M := M) (by omega) hA.1.2.2.2
  refine ⟨M', m1, ⟨fun q hq => m3 q (by omega) (by omega) (by omega) (by omega) (by omega) (by omega), by rw [m3 96 (by omega) (by omega) (by omega) (by omega) (by omega) (by omega)], by rw [m2], by rw [m2]⟩, repB_cp (q := 2) hA.1.1.1 m5 m6 m7 hA.1.2.1, m3 74 (by omega) (by omega) (by omega) (by omega) (by omega) (by omega), m2⟩
theorem eqK_g {M : mM} {A : Bd} {c q : Nat} {v : Int32} : eqK M (goM 65 M A c q v) := eqK_tr (eqK_tr (eqK_tr (eqK_i (by omega)) (eqK_i (by omega))) (eqK_i (by omega))) (eqK_i (by omega))
theorem jdg_lp {d N j1 j2 : Nat} {M : mM} (hd : d < 8) (hS : rowS d 1 N M) (m : Nat) : ∀ i A C, i + m = N → wf A → repB 65 C A → eqK M C → ∃ v C', f_X9_judge_b45 (j1 + m + 1) (nI i) (80 + 2 * d) C = some (v, C') ∧ eqK M C' ∧ ∀ R R0, repR 97 R A → repG R A → R.1 115 = M.1 115 → R.1 114 = M.1 114 → (∀ k F, f_X10_judge_b121 (F + i + 1) (nI d) (nI k) (nI i - 1) R = some (if nI k = nI N then -4 else nI k, R0)) → f_X10_judge_b50 (j2 + m + 1) (nI d) (nI i) R = some (v, R0) := by
  obtain ⟨n90, -, x1, x2, x3, x4, x5, x6⟩ := hS
  obtain ⟨g1, g2⟩ := shelf_h hd
  obtain ⟨b, hb⟩ := mN_ge (k := 92) (by omega)
  have bk : ∀ i k (R R0 : mM), i ≤ 91 → (∀ k F, f_X10_judge_b121 (F + i + 1) (nI d) (nI k) (nI i - 1) R = some (if nI k = nI N then -4 else nI k, R0)) → f_X10_judge_b121 mN (nI d) (nI k) (nI i - 1) R = some (if nI k = nI N then -4 else nI k, R0) := fun i k R R0 hi h => by
    have := h k (mN - (i + 1))
    rw [show mN - (i + 1) + i + 1 = mN by omega] at this
    exact this
  induction m with
  | zero =>
    intro i A C hi hw hB hC
    have e : i = N := by omega
    subst e
    refine ⟨-4, C, ?_, hC, fun R R0 hr hg r1 r2 hback => ?_⟩
    · rw [f_X9_judge_b45, hC.1 _ (by omega), x5, if_pos ((nle (by omega) (by omega)).mpr (Nat.le_refl _))]
    · rw [f_X10_judge_b50]
      simp only [ncl (show d < 2147483648 by omega)]
      rw [mgd_s g1, r2, x4, if_pos ((nle (by omega) (by omega)).mpr (Nat.le_refl _)), bk i i R R0 (by omega) hback, if_pos rfl]
  | succ m ih =>
    intro i A C hi hw hB hC
    have hn := hw.1
    have hE : C.1 (80 + 2 * d + 1) i = M.1 115 (90 * d + i) := by rw [hC.1 _ (by omega)]; exact (x6 i (by omega)).1
    have cl : f_X9_judge_b45 (j1 + (m + 1) + 1) (nI i) (80 + 2 * d) C = if f_X0_isMove 65 (M.1 115 (90 * d + i)) C = 0 then some (nI i, C) else mbw (f_X0_mayGo 65 (M.1 115 (90 * d + i) / 8) (M.1 115 (90 * d + i) - M.1 115 (90 * d + i) / 8 * 8) C) fun v89 M89 => if v89 = 0 then some (nI i, M89) else mbp (f_X0_go 65 (M.1 115 (90 * d + i) / 8) (M.1 115 (90 * d + i) - M.1 115 (90 * d + i) / 8 * 8) M89) fun M112 => f_X9_judge_b45 (j1 + m + 1) (nI (i + 1)) (80 + 2 * d) M112 := by
      rw [f_X9_judge_b45, hC.1 _ (by omega), x5, if_neg (fun q => by have := (nle (by omega) (by omega)).mp q; omega), mgd_s ((nin (by omega)).mpr (by omega)), mlt_s, ncl (by omega), hE, nI_1]
      rfl
    have rf : ∀ R : mM, R.1 115 = M.1 115 → R.1 114 = M.1 114 → f_X10_judge_b50 (j2 + (m + 1) + 1) (nI d) (nI i) R = mbp (f_X10_isMove (M.1 115 (90 * d + i)) R) fun v72 => if v72 = 0 then f_X10_judge_b121 mN (nI d) (nI i) (nI i - 1) R else mbw (f_X10_canMove (M.1 115 (90 * d + i)) R) fun v90 M90 => if v90 = 0 then f_X10_judge_b121 mN (nI d) (nI i) (nI i - 1) M90 else mbp (f_X10_goes (M90.1 115 (90 * d + i)) M90) fun M108 => f_X10_judge_b50 (j2 + m + 1) (nI d) (nI (i + 1)) M108 := fun R r1 r2 => by
      rw [f_X10_judge_b50]
      simp only [ncl (show d < 2147483648 by omega), lmul, nadd, ncl (show 90 * d + i < 2147483648 by omega)]
      rw [mgd_s g1, r2, x4, if_neg (fun q => by have := (nle (by omega) (by omega)).mp q; omega), mgd_s ((nin (by omega)).mpr (by omega)), r1, mgd_s ((nin (by omega)).mpr (by omega)), nI_1]
      have gg : mIn (nI (90 * d + i)) 720 := (nin (by omega)).mpr (by omega)
      congr 1
      funext v72
      by_cases e : v72 = 0
      · rw [if_pos e, if_pos e]
      · rw [if_neg e, if_neg e]
        congr 1
        funext v90 M90
        by_cases e2 : v90 = 0
        · rw [if_pos e2, if_pos e2]
        · rw [if_neg e2, if_neg e2, mgd_s gg]
          rfl
    have stop : ∀ R R0, (∀ k F, f_X10_judge_b121 (F + i + 1) (nI d) (nI k) (nI i - 1) R = some (if nI k = nI N then -4 else nI k, R0)) → f_X10_judge_b121 mN (nI d) (nI i) (nI i - 1) R = some (nI i, R0) := fun R R0 hback => by
      rw [bk i i R R0 (by omega) hback, if_neg (fun q => by have := (neq (by omega) (by omega)).mp q; omega)]
    rw [cl, X0_isMove_c hB]
    by_cases hm : isM A (M.1 115 (90 * d + i))
    · obtain ⟨c, w, hc, hw8, hcw⟩ := isM_ex hn hm
      obtain ⟨e1, e2⟩ := X9_m (c := c) (w := w) (by omega) hw8
      obtain ⟨L, hL⟩ := X0_mayGoE hw hB hc hw8
      have hB1 : repB 65 (sR C (65 + 7) L) A := repB_s7 hB
      have hC1 : eqK M (sR C (65 + 7) L) := eqK_tr hC (eqK_s (by omega))
      by_cases hcan : canP A c w
      · obtain ⟨q1, q2⟩ := canP_in hw hc hw8 hcan
        obtain ⟨v, C', c1, c2, c3⟩ := ih (i + 1) (bGo A c w) _ (by omega) (wf_go hw hc hw8 hcan) (goM_rep (w := w) hB1 hw hc) (eqK_tr hC1 eqK_g)
        refine ⟨v, C', ?_, c2, fun R R0 hr hg r1 r2 hback => ?_⟩
        · rw [tf_y hm, if_neg (show ¬ (1 : Int32) = 0 by decide), hcw, e2, e1, hL, mbw_s, tf_y hcan, if_neg (show ¬ (1 : Int32) = 0 by decide), X0_go hB1 hw hc hw8 q1 q2, mbp_s]
          exact c1
        · rw [rf R r1 r2, X10_isMove_c hn hr, mbp_s, tf_y hm, if_neg (show ¬ (1 : Int32) = 0 by decide), hcw, X10_canMove hw hr hg hc hw8, mbw_s, tf_y hcan, if_neg (show ¬ (1 : Int32) = 0 by decide), r1, hcw, X10_goes hr hw hc hw8 q1, mbp_s]
          refine c3 (rgo R A c w) R0 (rgo_rep hr hw hc) (rgo_G hg hw hc q1) (by rw [rgo_ne (by omega)]; exact r1) (by rw [rgo_ne (by omega)]; exact r2) (fun k F => ?_)
          show f_X10_judge_b121 (F + i + 1 + 1) (nI d) (nI k) (nI (i + 1) - 1) (rgo R A c w) = _
          rw [f_X10_judge_b121, show nI (i + 1) - 1 = nI i by rw [← nI_1]; grind, if_neg (nlt0 (by omega)), lmul, nadd, mgd_s ((nin (by omega)).mpr (by omega)), ncl (by omega), rgo_ne (by omega), r1, hcw, rgo_back hw hr hg hc hw8 hcan, mbp_s, mlt_s, show nI i + -1 = nI i - 1 by grind]
          exact hback k F
      · refine ⟨nI i, sR C (65 + 7) L, ?_, hC1, fun R R0 hr hg r1 r2 hback => ?_⟩
        · rw [tf_y hm, if_neg (show ¬ (1 : Int32) = 0 by decide), hcw, e2, e1, hL, mbw_s, tf_n hcan, if_pos (show (0 : Int32) = 0 from rfl)]
        · rw [rf R r1 r2, X10_isMove_c hn hr, mbp_s, tf_y hm, if_neg (show ¬ (1 : Int32) = 0 by decide), hcw, X10_canMove hw hr hg hc hw8, mbw_s, tf_n hcan, if_pos (show (0 : Int32) = 0 from rfl)]
          exact stop R R0 hback
    · refine ⟨nI i, C, ?_, hC, fun R R0 hr hg r1 r2 hback => ?_⟩
      · rw [tf_n hm, if_pos (show (0 : Int32) = 0 from rfl)]
      · rw [rf R r1 r2, X10_isMove_c hn hr, mbp_s, tf_n hm, if_pos (show (0 : Int32) = 0 from rfl)]
        exact stop R R0 hback
theorem op_judge {M : mM} {a1 : Int32} (hI : Inv M) : ∃ M', f_law_c15 a1 M = some M' ∧ Inv M' := by
  obtain ⟨⟨K, hA, hG⟩, -, hSh, -⟩ := id hI
  have hn := hA.1.1.1
  unfold f_law_c15 f_X9_judge
  rw [isShelf_c]
  by_cases h : 0 ≤ a1 ∧ a1 ≤ 7
  · obtain ⟨d, hd, rfl⟩ := i_shelf h
    obtain ⟨g1, g2⟩ := shelf_h hd
    have rf : ∀ M1 : mM, f_X10_judge (nI d) M1 = if M1.1 108 d = 0 then some (-11, M1) else if M1.1 108 d = 2 then (if M1.1 113 d = 1 then f_X10_judge_b50 mN (nI d) 0 M1 else some (-12, M1)) else some (-12, M1) := fun M1 => by
      unfold f_X10_judge
      rw [X10_is_y h, if_neg (show ¬ (1 : Int32) = 0 by decide)]
      simp only [ncl (show d < 2147483648 by omega)]
      rw [mgd_s g1, mgd_s g1, mgd_s g1]
    rw [tf_y h, if_neg (show ¬ (1 : Int32) = 0 by decide), g2, mgd_s g1, mlt_s, mlt_s]
    rcases ref_row (s := 1) hd (by omega) (hSh d hd) with ⟨r1, N, r2⟩ | ⟨r1, r2⟩ | ⟨r1, r2, r3⟩
    · have r1 : f_X6_refusalOfRow (80 + 2 * d) 1 M = 0 := r1
      obtain ⟨M1, m1, m2, m3, m4, m5⟩ := X0_copy65 hA
      have hN := r2.1
      have hI1 := Inv_eqK m2 hI
      have hA1 := wA_eqK m2 hA
      have hG1 : repG M1 K.1 := repG_fr (m2.1 99 (by omega)) hG
      have rS : rowS d 1 N M1 := rowS_fr (fun q hq => m2.1 q (by omega)) r2
      obtain ⟨j, hj⟩ := mN_ge (k := N + 1) (by omega)
      have hj : mN = j + N + 1 := by omega
      obtain ⟨v, C', c1, c2, c3⟩ := jdg_lp (j1 := j) (j2 := j) hd rS N 0 K.1 M1 (Nat.zero_add _) hA1.1.1 m3 eqK_rf
      have c3 := c3 C' C' (wA_eqK c2 hA1).1.2.2.1 (repG_fr (c2.1 99 (by omega)) hG1) (c2.1 115 (by omega)) (c2.1 114 (by omega)) (fun k F => by
        rw [f_X10_judge_b121, if_pos (by decide), mgd_s g1, ncl (by omega), c2.1 114 (by omega), rS.2.2.2.2.2.1]
        by_cases e : nI k = nI N
        · rw [if_pos e, if_pos e]
        · rw [if_neg e, if_neg e])
      rw [← hj] at c1 c3
      have c1 : f_X9_judge_b45 mN 0 (80 + 2 * d) M1 = _ := c1
      have c3 : f_X10_judge_b50 mN (nI d) 0 C' = _ := c3
      rw [r1, if_pos (by decide), m1, mbp_s, c1, mbw_s, rf, c2.1 108 (by omega), c2.1 113 (by omega), rS.2.2.1, if_neg (by decide), if_pos rfl, rS.2.2.2.1, if_pos (show nI 1 = (1 : Int32) from rfl), c3, mbw_s, if_pos rfl]
      exact ⟨C', rfl, Inv_eqK c2 hI1⟩
    · have r1 : f_X6_refusalOfRow (80 + 2 * d) 1 M = -11 := r1
      rw [r1, if_neg neg_11, mbw_s, rf, if_pos r2, mbw_s, if_pos rfl]
      exact ⟨M, rfl, hI⟩
    · have r1 : f_X6_refusalOfRow (80 + 2 * d) 1 M = -12 := r1
      refine ⟨M, ?_, hI⟩
      rw [r1, if_neg neg_12, mbw_s, rf, if_neg r2]
      by_cases e : M.1 108 d = 2
      · rw [if_pos e, if_neg (show ¬ M.1 113 d = 1 from fun q => r3 ⟨e, q⟩), mbw_s, if_pos rfl]
      · rw [if_neg e, mbw_s, if_pos rfl]
  · refine ⟨M, ?_, hI⟩
    unfold f_X10_judge
    rw [tf_n h, if_pos (show (0 : Int32) = 0 from rfl), mbw_s, X10_is_n h, if_pos (show (0 : Int32) = 0 from rfl), mbw_s, if_pos rfl]
