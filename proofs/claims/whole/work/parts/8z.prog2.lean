/-! program, rule -/
theorem op_program {M : mM} {a1 : Int32} (hI : Inv M) : ∃ M', f_law_c16 a1 M = some M' ∧ Inv M' := by
  obtain ⟨⟨K, hA, hG⟩, -, hSh, -⟩ := id hI
  obtain ⟨hC, hT, hV, hH, hP, hS, hN, hL, hO, hW⟩ := id hA
  have hn := hC.1.1
  have hp8 := hP.1
  unfold f_law_c16 f_X9_program
  rw [isShelf_c]
  by_cases h : 0 ≤ a1 ∧ a1 ≤ 7
  · rw [tf_y h, if_neg (show ¬ (1 : Int32) = 0 by decide), show M.1 1 8 = nI K.2.2.1 from hP.2.1]
    obtain ⟨d, hd, rfl⟩ := i_shelf h
    obtain ⟨g1, g2⟩ := shelf_h hd
    by_cases h8 : K.2.2.1 < 8
    · rw [if_pos ((ltL (m := 8) (by decide) (by omega)).mpr h8), g2, mgd_s g1, mlt_s, mlt_s, mgd_s g1, mlt_s]
      have en : ∀ M1 : mM, M1.1 97 2 = nI K.2.2.1 → f_X10_program (nI d) M1 = mbp (f_X10_lacksText (nI d) M1) fun v29 => if v29 = 0 then (mbp (f_X10_bring (nI d) M1) fun M43 => mbw (f_X10_goesProgram (-1) (-1) M43) fun v49 M49 => if v49 = 0 then (some (((-100) - (M49.1 96 10)), M49)) else (mbw (f_X10_keepText 2 (8 + (M49.1 97 2)) M49) fun v66 M66 => some (v66, M66))) else (mbp (f_X10_lacksText (nI d) M1) fun v37 => some (v37, M1)) := fun M1 h1 => by
        unfold f_X10_program
        rw [X10_is_y h, if_neg (show ¬ (1 : Int32) = 0 by decide), h1, if_neg (fun q => by have : _ = 8 := (eqL (m := 8) (by decide) (by omega)).mp q; omega)]
      rcases ref_row (s := 0) hd (by omega) (hSh d hd) with ⟨r1, N, r2⟩ | ⟨r1, r2⟩ | ⟨r1, r2, r3⟩
      · have r1 : f_X6_refusalOfRow (80 + 2 * d) 0 M = 0 := r1
        have hN90 := r2.1
        obtain ⟨M2, c1, k2, c3, c4, c5⟩ := X4_shelf hd r2
        have hA2 := wA_eqK k2 hA
        have r3 : rowS d 0 N M2 := rowS_fr (fun q hq => c3 q (by omega)) r2
        have e115 : M2.1 115 = M.1 115 := k2.1 115 (by omega)
        rw [r1, if_pos (by decide), c1, mbp_s]
        unfold f_X7_isFaulty f_X7_faultPlace
        rw [c5]
        by_cases ok : (pPr (lk (fun k => M.1 115 (90 * d + k)) N) N).2 = true
        · rw [if_pos ok, if_pos (by decide), mgd_s g1, mlt_s]
          obtain ⟨np, hnp⟩ : ∃ np, K.2.2.1 = np := ⟨_, rfl⟩
          rw [hnp] at h8
          have s8 : M2.1 1 8 = nI np := by rw [← hnp]; exact hA2.2.2.2.2.1.2.1
          have s2 : M2.1 97 2 = nI np := by rw [← hnp]; exact hA2.2.2.2.2.1.2.2.1
          generalize hM3 : mI (mI (mC M2 (80 + 2 * d + 1) (16 + np) 0 0 90) 24 np (nI N)) 1 8 (nI (np + 1)) = M3
          have ad : f_X8_addProgram 1 (80 + 2 * d) M2 = some (nI np, M3) := by
            have z1 : (mC M2 (80 + 2 * d + 1) (16 + np) 0 0 90).1 1 8 = nI np := by rw [mC_ne (by omega)]; exact s8
            have z2 : (mC M2 (80 + 2 * d + 1) (16 + np) 0 0 90).1 (80 + 2 * d) 1 = nI N := by rw [mC_ne (by omega)]; exact r3.2.2.2.2.2.2.1
            have z3 : (mI (mC M2 (80 + 2 * d + 1) (16 + np) 0 0 90) 24 np (nI N)).1 1 8 = nI np := by rw [mI_n (by omega)]; exact z1
            unfold f_X8_addProgram
            rw [s8, if_pos ((ltL (m := 8) (by decide) (by omega)).mpr h8), mgd_s ((nin (by omega)).mpr h8), mlt_s, ncl (by omega), mlt_s]
            show mgd (mIn ((mC M2 (80 + 2 * d + 1) (16 + np) 0 0 90).1 1 8) 8) _ = _
            rw [z1, mgd_s ((nin (by omega)).mpr h8), ncl (by omega), z2, mlt_s]
            show mlt (mI (mI (mC M2 (80 + 2 * d + 1) (16 + np) 0 0 90) 24 np (nI N)) 1 8 ((mI (mC M2 (80 + 2 * d + 1) (16 + np) 0 0 90) 24 np (nI N)).1 1 8 + 1)) _ = _
            rw [z3, nI_1, mlt_s, mI_e, show nI (np + 1) - 1 = nI np by rw [← nI_1]; grind, hM3]
          rw [ad, mbw_s, mbw_s]
          have k3 : ∀ q, q ≠ 1 → q ≠ 24 → q ≠ 16 + np → M3.1 q = M2.1 q := fun q a b c => by rw [← hM3, mI_ne a, mI_ne b, mC_ne c]
          have k3b : ∀ i, i ≠ 8 → M3.1 1 i = M2.1 1 i := fun i hi => by rw [← hM3, mI_n (by omega), mI_ne (by omega), mC_ne (by omega)]
          have r4 : rowS d 0 N M3 := rowS_fr (fun q hq => k3 q (by omega) (by omega) (by omega)) r3
          have e115' : M3.1 115 = M.1 115 := (k3 115 (by omega) (by omega) (by omega)).trans e115
          rw [en M3 (by rw [k3 97 (by omega) (by omega) (by omega), s2, hnp]), lacksText_c hd, r4.2.2.1, if_neg (by decide), if_pos ⟨rfl, r4.2.2.2.1⟩, mbp_s, if_pos (show (0 : Int32) = 0 from rfl)]
          obtain ⟨L, l1, l2⟩ := X10_bring hd hN90 r4.2.2.2.2.2.1
          have tx := tx0_b (M := M3) hN90 l2
          rw [e115'] at tx
          obtain ⟨M5, m1, m2, m5, m3, m4⟩ := X10_goes_prog (c := -1) tx r_fld0
          rw [l1, mbp_s, m1, mbw_s, ok, if_neg (by decide)]
          have q97 : M5.1 97 = M2.1 97 := by rw [m5 97 (by omega), sR_n (by omega), mI_ne (by omega)]; exact k3 97 (by omega) (by omega) (by omega)
          have q7 : M5.1 96 7 = nI N := by rw [m2.2.1 7 (by omega), sR_n (by omega)]; exact mI_e
          have q101 : M5.1 101 = L := by rw [m5 101 (by omega), sR_e]
          obtain ⟨R, x1, x2, x3, x4, x5⟩ := X10_keepText (c := 2) (t := 8 + np) (M := M5) (by decide) (by omega) hN90 q7 (v := np) (by omega) (by rw [q97]; exact s2)
          have x1 : f_X10_keepText 2 (nI (8 + np)) M5 = _ := x1
          rw [q97] at x5
          rw [q101] at x4
          rw [show M5.1 97 2 = nI np by rw [q97]; exact s2, ladd, x1, mbw_s, mbw_s, if_pos rfl]
          have fr : ∀ q, q ≠ 1 → q ≠ 24 → q ≠ 16 + np → q ≠ 97 → ¬ scr q → (sR M5 97 R).1 q = M.1 q := fun q h1 a b h97 hs => by rw [sR_n h97, m5 q (by omega), sR_n (by omega), mI_ne (by omega), k3 q h1 a b]; exact k2.1 q hs
          have frJ : (sR M5 97 R).2.1 = M2.2.1 := by
            show M5.2.1 = _
            rw [m2.2.2, ← hM3]
            rfl
          have fr1 : ∀ i, i ≠ 8 → (sR M5 97 R).1 1 i = M.1 1 i := fun i hi => by rw [sR_n (by omega), m5 1 (by omega), sR_n (by omega), mI_ne (by omega), k3b i hi]; exact congrFun (k2.1 1 (by omega)) i
          have fr97 : ∀ q, ¬ (874 + 90 * np ≤ q ∧ q < 874 + 90 * np + 90) → q ≠ 2 → q ≠ 146 + np → (sR M5 97 R).1 97 q = M.1 97 q := fun q h1 h2 h3 => by rw [sR_e, x5 q (by omega) h2 (by omega)]; exact congrFun (k2.1 97 (by omega)) q
          have tq : ∀ q, q ≠ 97 → ¬ scr q → (sR M5 97 R).1 q = M3.1 q := fun q a b => by rw [sR_n a, m5 q (by omega), sR_n (by omega), mI_ne (by omega)]
          refine ⟨_, rfl, Inv_now hI (fun q hq hs h97 h99 => fr q (by omega) (by omega) (by omega) h97 hs) ?_ ?_ ⟨(K.1, K.2.1, np + 1, K.2.2.2), ⟨wC_fr (fun q hq => fr q (by omega) (by omega) (by omega) (by omega) (by omega)) (fr97 _ (by omega) (by omega) (by omega)) (fun j h1 h2 => fr97 _ (by omega) (by omega) (by omega)) hC, wT_fr (fr1 _ (by omega)) (fr97 _ (by omega) (by omega) (by omega)) hT, wV_fr hn (fun q hq => fr q (by omega) (by omega) (by omega) (by omega) (by omega)) (fun j h1 h2 => fr97 _ (by omega) (by omega) (by omega)) hV, fun c hc => ?_, ?_, wS_fr (fr1 _ (by omega)) (fr97 _ (by omega) (by omega) (by omega)) ?_ (fun j h1 h2 => fr97 _ (by omega) (by omega) (by omega)) (fun j h1 h2 => fr97 _ (by omega) (by omega) (by omega)) hS, wN_fr (fun q hq => fr q (by omega) (by omega) (by omega) (by omega) (by omega)) (fr97 _ (by omega) (by omega) (by omega)) (fun j h1 h2 => fr97 _ (by omega) (by omega) (by omega)) hN, wN_fr (fun q hq => fr q (by omega) (by omega) (by omega) (by omega) (by omega)) (fr97 _ (by omega) (by omega) (by omega)) (fun j h1 h2 => fr97 _ (by omega) (by omega) (by omega)) hL, srt_fr (fr _ (by omega) (by omega) (by omega) (by omega) (by omega)) hO, hW⟩, repG_fr (fr _ (by omega) (by omega) (by omega) (by omega) (by omega)) hG⟩⟩
          · rw [sR_n (by omega), m2.2.1 3 (by omega), sR_n (by omega), mI_n (by omega), k3 96 (by omega) (by omega) (by omega)]
            exact k2.2.1
          · rw [frJ]; exact k2.2.2.2
          · have hc : c < bN K.1 := hc
            rw [fr _ (by omega) (by omega) (by omega) (by omega) (by omega), fr97 _ (by omega) (by omega) (by omega)]
            rcases hH c hc with q | ⟨j, j1, j2, j3⟩
            · exact Or.inl q
            · exact Or.inr ⟨j, by show j < np + 1; omega, j2, j3⟩
          · refine ⟨by show np + 1 ≤ 8; omega, ?_, ?_, fun j hj => ?_⟩
            · rw [tq 1 (by omega) (by omega), ← hM3]; exact mI_e
            · rw [sR_e]; exact x2
            · have hj : j < np + 1 := hj
              by_cases e : j = np
              · subst e
                refine ⟨N, hN90, ?_, ?_, fun i hi => ⟨?_, ?_⟩, ?_⟩
                · rw [tq _ (by omega) (by omega), ← hM3, mI_n (by omega)]; exact mI_e
                · rw [sR_e, show 146 + j = 138 + (8 + j) by omega]; exact x3
                · rw [tq _ (by omega) (by omega), ← hM3, mI_ne (by omega), mI_ne (by omega), show 1 + 15 + j = 16 + j by omega, mC_e (by omega), sR_e, show 874 + 90 * j + i = 154 + 90 * (8 + j) + i by omega, x4 i hi, l2 i hi, e115', (r3.2.2.2.2.2.2.2 i (by omega)).1, e115]
                · rw [sR_e, show 874 + 90 * j + i = 154 + 90 * (8 + j) + i by omega, x4 i hi, l2 i hi, e115', ← e115]
                  exact (r3.2.2.2.2.2.2.2 i (by omega)).2 rfl
                · have tt : lk (rg 97 (874 + 90 * j) (sR M5 97 R)) N = lk (fun k => M.1 115 (90 * d + k)) N := lk_cg (fun i hi => by
                    show (sR M5 97 R).1 97 (874 + 90 * j + i) = _
                    rw [sR_e, show 874 + 90 * j + i = 154 + 90 * (8 + j) + i by omega, x4 i hi, l2 i hi, e115'])
                  rw [tt]
                  exact ok
              · obtain ⟨N', n1, n2, n3, n4, n5⟩ := hP.2.2.2 j (by omega)
                refine ⟨N', n1, ?_, by rw [fr97 _ (by omega) (by omega) (by omega)]; exact n3, fun i hi => ?_, ?_⟩
                · rw [tq _ (by omega) (by omega), ← hM3, mI_n (by omega), mI_n (by omega), mC_ne (by omega), k2.1 _ (by omega)]
                  exact n2
                · rw [fr _ (by omega) (by omega) (by omega) (by omega) (by omega), fr97 _ (by omega) (by omega) (by omega)]
                  exact n4 i hi
                · rw [lk_cg (T := rg 97 (874 + 90 * j) M) (T' := rg 97 (874 + 90 * j) (sR M5 97 R)) (fun i hi => fr97 _ (by omega) (by omega) (by omega))]
                  exact n5
          · rw [frJ]; exact k2.2.2.1
        · have hle := pr_le (T := fun k => M.1 115 (90 * d + k)) hN90
          rw [if_neg ok, if_neg (nlt0 (by omega)), if_neg (by decide), mbw_s, en M2 hA2.2.2.2.2.1.2.2.1, lacksText_c hd, r3.2.2.1, if_neg (by decide), if_pos ⟨rfl, r3.2.2.2.1⟩, mbp_s, if_pos (show (0 : Int32) = 0 from rfl)]
          obtain ⟨L, l1, l2⟩ := X10_bring hd hN90 r3.2.2.2.2.2.1
          have tx := tx0_b (M := M2) hN90 l2
          rw [e115] at tx
          obtain ⟨M5, m1, m2, m5, m3, m4⟩ := X10_goes_prog (c := -1) tx r_fld0
          rw [l1, mbp_s, m1, mbw_s, Bool.eq_false_iff.mpr ok, if_pos (show bI false = 0 from rfl), m3, mbw_s, if_pos rfl]
          exact ⟨M5, rfl, Inv_eqK (eqK_tr (eqK_tr k2 eqK_b) (eqR_K m2)) hI⟩
      · have r1 : f_X6_refusalOfRow (80 + 2 * d) 0 M = -11 := r1
        rw [r1, if_neg neg_11, mbw_s, en M hP.2.2.1, lacksText_c hd, if_pos r2, mbp_s, if_neg (by decide), mbp_s, mbw_s, if_pos rfl]
        exact ⟨M, rfl, hI⟩
      · have r1 : f_X6_refusalOfRow (80 + 2 * d) 0 M = -12 := r1
        rw [r1, if_neg neg_12, mbw_s, en M hP.2.2.1, lacksText_c hd, if_neg r2, if_neg r3, mbp_s, if_neg (by decide), mbp_s, mbw_s, if_pos rfl]
        exact ⟨M, rfl, hI⟩
    · refine ⟨M, ?_, hI⟩
      have e8 : K.2.2.1 = 8 := by omega
      unfold f_X10_program
      rw [if_neg (fun q => h8 ((ltL (m := 8) (by decide) (by omega)).mp q)), mbw_s, X10_is_y h, if_neg (show ¬ (1 : Int32) = 0 by decide), hP.2.2.1, e8, if_pos (show nI 8 = (8 : Int32) from rfl), mbw_s, if_pos rfl]
  · refine ⟨M, ?_, hI⟩
    unfold f_X10_program
    rw [tf_n h, if_pos (show (0 : Int32) = 0 from rfl), mbw_s, X10_is_n h, if_pos (show (0 : Int32) = 0 from rfl), mbw_s, if_pos rfl]
/-! which RULE -/
/-- a CUBE's PROGRAM, its text in both -/
theorem prg_ex {M : mM} {K : Kt} {c j : Nat} (hP : wP 1 97 M K.2.2.1) (hj : j < K.2.2.1) : ∃ N, N ≤ 90 ∧ M.1 24 j = nI N ∧ M.1 97 (146 + j) = nI N ∧ lk (M.1 (16 + j)) N = lk (rg 97 (874 + 90 * j) M) N ∧ (∀ i, i < N → M.1 (16 + j) i ≠ -1000) ∧ (pPr (lk (rg 97 (874 + 90 * j) M) N) N).2 = true := by
  obtain ⟨N, n1, n2, n3, n4, n5⟩ := hP.2.2.2 j hj
  refine ⟨N, n1, n2, n3, lk_cg (fun i hi => ?_), fun i hi => ?_, n5⟩
  · have := (n4 i hi).1
    rw [show 1 + 15 + j = 16 + j by omega] at this
    exact this
  · have := n4 i hi
    rw [show 1 + 15 + j = 16 + j by omega] at this
    rw [this.1]
    exact this.2
theorem row_p {j : Nat} (hj : j < 8) : isRow (16 + j) := by
  have h : ∀ j, j < 8 → isRow (16 + j) := by decide +kernel
  exact h j hj
/-- the state in which programs are run -/
def stM (M : mM) (A : Bd) (t : Int32) (mem heard : Nat → Int32) (np : Nat) : Prop := cEn M A t mem heard ∧ M.1 1 8 = nI np ∧ np ≤ 8 ∧ ∀ j, j < np → ∃ N, N ≤ 90 ∧ M.1 24 j = nI N ∧ (∀ i, i < N → M.1 (16 + j) i ≠ -1000) ∧ (pPr (lk (M.1 (16 + j)) N) N).2 = true
theorem X8_running {M : mM} {A : Bd} {np c : Nat} {r : Int32} (hn : bN A ≤ 16) (hw : wf A) (hB : repB 2 M A) (hc : c < bN A) (h8 : M.1 1 8 = nI np) (hnp : np ≤ 8) (hr : M.1 13 c = r) (hr2 : r = -1 ∨ ∃ j, j < np ∧ r = nI j) : f_X8_isRunning 1 (nI c) M = some (tf (bD A c = 0 ∧ 0 ≤ r)) := by
  have g : mIn (nI c) 16 := (nin (by omega)).mpr (by omega)
  unfold f_X8_isRunning
  simp only [ncl (show c < 2147483648 by omega)]
  rw [mgd_s g, mgd_s g, mgd_s g, show M.1 (1 + 5) c = bD A c from hB.2.2.2.2.1 c hc, show M.1 (1 + 12) c = r from hr, h8]
  by_cases h1 : bD A c = 0
  · rw [if_pos h1]
    rcases hr2 with rfl | ⟨j, hj, rfl⟩
    · rw [if_pos (by decide), tf_n (fun q => absurd q.2 (by decide))]
    · rw [if_neg (nlt0 (by omega)), if_neg (fun q => by have := (nle (by omega) (by omega)).mp q; omega), tf_y ⟨h1, nle0 (by omega)⟩]
  · rw [if_neg h1, tf_n (fun q => h1 q.1)]
theorem X1_choose {M : mM} {A : Bd} {t : Int32} {mem heard : Nat → Int32} {np c j : Nat} (h : stM M A t mem heard np) (hc : c < bN A) (hj : j < np) (hr : M.1 13 c = nI j) : ∃ N v M', N ≤ 90 ∧ M.1 24 j = nI N ∧ (pPr (lk (M.1 (16 + j)) N) N).2 = true ∧ f_X1_chooseRule (nI c) M = some (v, M') ∧ chC (mI (mT M 76 (16 + j)) 76 1 (nI N)) (lk (M.1 (16 + j)) N) (chs (lk (M.1 (16 + j)) N) N (fld A t mem heard c) 6 0 0) v M' ∧ txt 76 (mI (mT M 76 (16 + j)) 76 1 (nI N)) (16 + j) N ∧ lT (mI (mT M 76 (16 + j)) 76 1 (nI N)) (16 + j) N = lk (M.1 (16 + j)) N ∧ cEn (mI (mT M 76 (16 + j)) 76 1 (nI N)) A t mem heard := by
  obtain ⟨hE, h8, hnp, hp⟩ := h
  obtain ⟨N, n1, n2, n3, n4⟩ := hp j hj
  have hn := hE.1.1
  have hx := txt_op (r := 76) (M := M) (row_p (show j < 8 by omega)) (show 16 + j ≠ 76 by omega) n1 n3
  have hl : lT (mI (mT M 76 (16 + j)) 76 1 (nI N)) (16 + j) N = lk (M.1 (16 + j)) N := by
    unfold lT
    rw [mI_ne (by omega)]
    rfl
  have hE1 : cEn (mI (mT M 76 (16 + j)) 76 1 (nI N)) A t mem heard := by
    obtain ⟨e1, e2, e3, e4⟩ := hE
    have fr : ∀ q, q ≠ 76 → (mI (mT M 76 (16 + j)) 76 1 (nI N)).1 q = M.1 q := fun q hq => by rw [mI_ne hq]; rfl
    exact ⟨e1, repB_fr (by rw [fr 2 (by omega)]) (fr _ (by omega)) (fr _ (by omega)) (fr _ (by omega)) (fr _ (by omega)) (fr _ (by omega)) e2, by rw [fr 1 (by omega)]; exact e3, fun c hc => by rw [fr 10 (by omega), fr 12 (by omega)]; exact e4 c hc⟩
  obtain ⟨m, hm⟩ := mN_ge (k := 7) (by omega)
  have hm : mN = m + 6 + 1 := by omega
  obtain ⟨v, M', c1, c2⟩ := c_ch (j := m) hE1 hx hc 6 0 0 rfl (Nat.zero_le N) (by rw [hl]; exact lr_pr n4)
  rw [hl] at c2
  refine ⟨N, v, M', n1, n2, n4, ?_, c2, hx, hl, hE1⟩
  unfold f_X1_chooseRule
  rw [mgd_s ((nin (by omega)).mpr (by omega)), ncl (by omega), hr, mlt_s, mgd_s ((nin (by omega)).mpr (by omega)), mlt_s, mgd_s ((nin (by omega)).mpr (by omega)), ncl (by omega), n2]
  show mbp (f_X7_open 76 (16 + j) (nI N) M) _ = _
  rw [X7_open n1, mbp_s, hm]
  exact c1
