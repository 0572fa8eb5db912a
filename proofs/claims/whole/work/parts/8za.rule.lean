/-! rule -/
theorem chC_K {M M' : mM} {l : Nat → Int32} {o : Option (Nat × Nat)} {v : Int32} (h : chC M l o v M') : eqK M M' := by
  have key : ∀ x, eqK M (rdM 76 M x (-1)) := fun x => eqK_tr (eqK_i (by omega)) (eqK_i (by omega))
  cases o with
  | none => obtain ⟨-, x, rfl⟩ := h; exact key x
  | some x => obtain ⟨-, -, rfl, -⟩ := h; exact key _
theorem ch_ag {M M' : mM} {l : Nat → Int32} {F : Int32 → Int32} {o : Option (Nat × Nat)} {v : Int32} {R : Nat → Int32} (h : chC M l o v M') (h2 : chR l F o R) : R 18 = v := by
  cases o with
  | none => exact Eq.trans h2 h.1.symm
  | some x => exact Eq.trans h2.1 h.1.symm
theorem st_M {M : mM} {K : Kt} (hA : wA 1 97 M K) : stM M K.1 (nI K.2.1) (M.1 10) (M.1 12) K.2.2.1 := by
  obtain ⟨hC, hT, hV, hH, hP, -⟩ := id hA
  refine ⟨⟨hC.1, hC.2.1, hT.2.1, fun _ _ => ⟨rfl, rfl⟩⟩, hP.2.1, hP.1, fun j hj => ?_⟩
  obtain ⟨N, n1, n2, n3, n4, n5, n6⟩ := prg_ex (c := 0) hP hj
  exact ⟨N, n1, n2, n5, by rw [n4]; exact n6⟩
theorem r_M {M : mM} {K : Kt} (hA : wA 1 97 M K) (hG : repG M K.1) : rEn M K.1 (nI K.2.1) (M.1 10) (M.1 12) := by
  obtain ⟨hC, hT, hV, hH, hP, -⟩ := id hA
  exact ⟨hC.1, hC.2.2.1, hG, hT.2.2, fun c hc => ⟨(hV c hc).1.symm, (hV c hc).2.2.symm⟩⟩
theorem op_rule {M : mM} {a1 : Int32} (hI : Inv M) : ∃ M', f_law_c18 a1 M = some M' ∧ Inv M' := by
  obtain ⟨⟨K, hA, hG⟩, -⟩ := id hI
  obtain ⟨hC, hT, hV, hH, hP, hS, hN, hL, hO, hW⟩ := id hA
  obtain ⟨hw, hB, hR, h01⟩ := id hC
  have hB : repB 2 M K.1 := hB
  have hn := hw.1
  have hp8 := hP.1
  unfold f_law_c18 f_X9_rule f_X10_rule
  rw [X0_has_c hB]
  by_cases h : isC K.1 a1
  · obtain ⟨c, hc, rfl⟩ := isC_ex hn h
    have hr2 : M.1 13 c = -1 ∨ ∃ j, j < K.2.2.1 ∧ M.1 13 c = nI j := by
      rcases hH c hc with q | ⟨j, j1, j2, -⟩
      · exact Or.inl q.1
      · exact Or.inr ⟨j, j1, j2⟩
    rw [tf_y h, if_neg (show ¬ (1 : Int32) = 0 by decide), X8_running hn hw hB hc (show M.1 1 8 = nI K.2.2.1 from hP.2.1) hp8 rfl hr2, mbp_s]
    by_cases run : bD K.1 c = 0 ∧ 0 ≤ M.1 13 c
    · obtain ⟨j, hj, q1, q2⟩ : ∃ j, j < K.2.2.1 ∧ M.1 13 c = nI j ∧ M.1 97 (122 + c) = nI j := by
        rcases hH c hc with q | ⟨j, j1, j2, j3⟩
        · exact absurd run.2 (by rw [show M.1 13 c = -1 from q.1]; decide)
        · exact ⟨j, j1, j2, j3⟩
      obtain ⟨N, v, M1, n1, n2, n3, c1, c2, hx, hl, hE1⟩ := X1_choose (st_M hA) hc hj q1
      obtain ⟨N', m1, m2, m3, m4, m5, m6⟩ := prg_ex (c := 0) hP hj
      obtain rfl : N' = N := (neq (by omega) (by omega)).mp (m2.symm.trans n2)
      have k1 : eqK M M1 := eqK_tr (eqK_tr eqK_T (eqK_i (by omega))) (chC_K c2)
      have hA1 := wA_eqK k1 hA
      have hG1 : repG M1 K.1 := repG_fr (k1.1 99 (by omega)) hG
      have e97 : M1.1 97 = M.1 97 := k1.1 97 (by omega)
      have hR1 := hA1.1.2.2.1
      have hr := r_M hA1 hG1
      have e10 : M1.1 10 = M.1 10 := k1.1 10 (by omega)
      have e12 : M1.1 12 = M.1 12 := k1.1 12 (by omega)
      rw [e10, e12] at hr
      have tx : tx0 M1 (nI (8 + j)) N' (rg 97 (874 + 90 * j) M) := ⟨n1, Or.inr ⟨8 + j, by omega, rfl, by rw [e97, show 138 + (8 + j) = 146 + j by omega]; exact m3, fun k hk => by rw [e97, show 154 + 90 * (8 + j) + k = 874 + 90 * j + k by omega]⟩⟩
      obtain ⟨M5, g1, g2, g3, g4, g5⟩ := X10_goes_prog tx (r_fld hr hc)
      have g5 := g5 m6
      rw [← m4] at g5
      rw [tf_y run, if_neg (show ¬ (1 : Int32) = 0 by decide), c1, mbw_s, mbw_s, X10_isCube_c hn hR1, mbp_s, tf_y h, if_neg (show ¬ (1 : Int32) = 0 by decide)]
      simp only [ladd, ncl (show 74 + c < 2147483648 by omega), ncl (show 122 + c < 2147483648 by omega)]
      rw [mgd_s ((nin (by omega)).mpr (by omega)), hR1.2.2.2.2.2 c hc, run.1, if_neg (by decide), mgd_s ((nin (by omega)).mpr (by omega)), e97, q2, if_pos (nle0 (by omega)), mgd_s ((nin (by omega)).mpr (by omega)), ladd, g1, mbw_s, m6, if_neg (by decide), mbw_s, if_pos (ch_ag c2 g5).symm]
      exact ⟨M5, rfl, Inv_eqK (eqK_tr k1 (eqR_K g2)) hI⟩
    · refine ⟨M, ?_, hI⟩
      rw [tf_n run, if_pos (show (0 : Int32) = 0 from rfl), mbw_s, X10_isCube_c hn hR, mbp_s, tf_y h, if_neg (show ¬ (1 : Int32) = 0 by decide)]
      simp only [ladd, ncl (show 74 + c < 2147483648 by omega), ncl (show 122 + c < 2147483648 by omega)]
      rw [mgd_s ((nin (by omega)).mpr (by omega)), hR.2.2.2.2.2 c hc]
      by_cases d : bD K.1 c = 1
      · rw [if_pos d, mbw_s, if_pos rfl]
      · have d0 : bD K.1 c = 0 := (hw.2.2.2.2.2 c hc).resolve_right d
        have q2 : M.1 97 (122 + c) = -4 := by
          rcases hH c hc with q | ⟨j, j1, j2, j3⟩
          · exact q.2
          · exact absurd ⟨d0, by rw [show M.1 13 c = nI j from j2]; exact nle0 (by omega)⟩ run
        rw [if_neg d, mgd_s ((nin (by omega)).mpr (by omega)), q2, if_neg (by decide), mbw_s, if_pos rfl]
  · refine ⟨M, ?_, hI⟩
    rw [tf_n h, if_pos (show (0 : Int32) = 0 from rfl), mbw_s, X10_isCube_c hn hR, mbp_s, tf_n h, if_pos (show (0 : Int32) = 0 from rfl), mbw_s, if_pos rfl]
