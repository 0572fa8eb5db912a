/-! fault, program, rule -/
theorem isF_cs {l : Int32} (h : f_X4_isField l ≠ 0) : l = 69 ∨ l = 78 ∨ l = 83 ∨ l = 87 ∨ l = 101 ∨ l = 109 ∨ l = 110 ∨ l = 112 ∨ l = 115 ∨ l = 116 ∨ l = 119 := by
  unfold f_X4_isField at h
  by_cases q1 : l = 69
  · exact Or.inl q1
  by_cases q2 : l = 78
  · exact Or.inr (Or.inl q2)
  by_cases q3 : l = 83
  · exact Or.inr (Or.inr (Or.inl q3))
  by_cases q4 : l = 87
  · exact Or.inr (Or.inr (Or.inr (Or.inl q4)))
  by_cases q5 : l = 101
  · exact Or.inr (Or.inr (Or.inr (Or.inr (Or.inl q5))))
  by_cases q6 : l = 109
  · exact Or.inr (Or.inr (Or.inr (Or.inr (Or.inr (Or.inl q6)))))
  by_cases q7 : l = 110
  · exact Or.inr (Or.inr (Or.inr (Or.inr (Or.inr (Or.inr (Or.inl q7))))))
  by_cases q8 : l = 112
  · exact Or.inr (Or.inr (Or.inr (Or.inr (Or.inr (Or.inr (Or.inr (Or.inl q8)))))))
  by_cases q9 : l = 115
  · exact Or.inr (Or.inr (Or.inr (Or.inr (Or.inr (Or.inr (Or.inr (Or.inr (Or.inl q9))))))))
  by_cases q10 : l = 116
  · exact Or.inr (Or.inr (Or.inr (Or.inr (Or.inr (Or.inr (Or.inr (Or.inr (Or.inr (Or.inl q10)))))))))
  by_cases q11 : l = 119
  · exact Or.inr (Or.inr (Or.inr (Or.inr (Or.inr (Or.inr (Or.inr (Or.inr (Or.inr (Or.inr q11)))))))))
  rw [if_neg q1, if_neg q2, if_neg q3, if_neg q4, if_neg q5, if_neg q6, if_neg q7, if_neg q8, if_neg q9, if_neg q10, if_neg q11] at h
  exact absurd rfl h
/-- what the reference's cells hold for it -/
def rEn (M : mM) (A : Bd) (t : Int32) (mem heard : Nat → Int32) : Prop := wf A ∧ repR 97 M A ∧ repG M A ∧ M.1 97 5 = t ∧ ∀ c, c < bN A → M.1 97 (90 + c) = mem c ∧ M.1 97 (106 + c) = heard c
theorem rEn_s {M : mM} {A : Bd} {t : Int32} {mem heard : Nat → Int32} {R : Nat → Int32} (h : rEn M A t mem heard) : rEn (sR M 96 R) A t mem heard := by
  obtain ⟨h1, h2, h3, h4, h5⟩ := h
  refine ⟨h1, repR_s (by omega) h2, repG_s (by omega) h3, by rw [sR_n (by omega)]; exact h4, fun c hc => ?_⟩
  rw [sR_n (by omega)]
  exact h5 c hc
theorem r_105 {M : mM} {A : Bd} {t : Int32} {mem heard : Nat → Int32} {c : Nat} {l x y dx dy v : Int32} (h : rEn M A t mem heard) (hc : c < bN A) (hv : f_X10_cubeAt (x + dx) (y + dy) M = some (md v)) (hvb : 0 ≤ v → ∃ d, d < bN A ∧ v = nI d) : f_X10_fieldOf_b105 l (nI c) x y dx dy M = some (if l = 112 then bW A c else if l = 116 then t - t / 10 * 10 else if l = 109 then mem c else if 0 ≤ v then (if l ≤ 96 then hf heard v else 1) else 0) := by
  obtain ⟨h1, h2, h3, h4, h5⟩ := h
  have hn := h1.1
  unfold f_X10_fieldOf_b105
  rw [hv, mbp_s, if_pos (nle0 (by omega))]
  simp only [ladd, ncl (show 58 + c < 2147483648 by omega), ncl (show 90 + c < 2147483648 by omega)]
  by_cases q1 : l = 112
  · rw [if_pos q1, if_pos q1, mgd_s ((nin (by omega)).mpr (by omega)), h2.2.2.2.2.1 c hc]
  rw [if_neg q1, if_neg q1]
  by_cases q2 : l = 116
  · rw [if_pos q2, if_pos q2, h4]
  rw [if_neg q2, if_neg q2]
  by_cases q3 : l = 109
  · rw [if_pos q3, if_pos q3, mgd_s ((nin (by omega)).mpr (by omega)), (h5 c hc).1]
  rw [if_neg q3, if_neg q3]
  by_cases q4 : 0 ≤ v
  · obtain ⟨d, d1, rfl⟩ := hvb q4
    rw [md_y q4, if_pos q4, if_pos q4]
    by_cases q5 : l ≤ 96
    · rw [if_pos q5, if_pos q5, ladd, mgd_s ((nin (by omega)).mpr (by omega)), ncl (by omega), (h5 d d1).2]
      unfold hf
      rw [if_pos q4, ncl (by omega)]
    · rw [if_neg q5, if_neg q5]
  · rw [md_n q4, if_neg (by decide), if_neg q4]
theorem r_fld {M : mM} {A : Bd} {t : Int32} {mem heard : Nat → Int32} {c : Nat} (h : rEn M A t mem heard) (hc : c < bN A) : fOK M (nI c) (fld A t mem heard c) := by
  intro R l hl
  have h' := rEn_s (R := R) h
  generalize sR M 96 R = M' at h'
  obtain ⟨h1, h2, h3, h4, h5⟩ := id h'
  have hn := h1.1
  have hp := (h1.2.1 c hc).1
  have p2 := hp.2.1
  have en : f_X10_fieldOf l (nI c) M' = f_X10_fieldOf_b35 l (nI c) (cx (bP A c)) (cy (bP A c)) M' := by
    unfold f_X10_fieldOf f_X10_fieldOf_b17
    simp only [ladd, ncl (show 26 + c < 2147483648 by omega), ncl (show 42 + c < 2147483648 by omega)]
    rw [if_pos (nle0 (by omega)), mgd_s ((nin (by omega)).mpr (by omega)), if_pos (nle0 (by omega)), mgd_s ((nin (by omega)).mpr (by omega)), h2.2.2.1 c hc, h2.2.2.2.1 c hc]
  have at4 : ∀ w, w < 4 → ∀ dx dy, f_X10_east (nI w) = dx → f_X10_north (nI w) = dy → f_X10_cubeAt (cx (bP A c) + dx) (cy (bP A c) + dy) M' = some (md (sd A c w)) ∧ (0 ≤ sd A c w → ∃ d, d < bN A ∧ sd A c w = nI d) := fun w hw dx dy e1 e2 => by
    have hl2 := stp_lt hp (show w < 8 by omega)
    have k := X10_cubeAt h1 h3 hl2
    obtain ⟨s1, s2⟩ := stp_x hp (show w < 8 by omega)
    rw [← s1, ← s2, e1, e2] at k
    exact ⟨k, fun q => ⟨_, (g_c h1 hl2 q).1, (g_c h1 hl2 q).2.1⟩⟩
  have at0 : f_X10_cubeAt (cx (bP A c) + 0) (cy (bP A c) + 0) M' = some (md (bG A (bP A c))) ∧ (0 ≤ bG A (bP A c) → ∃ d, d < bN A ∧ bG A (bP A c) = nI d) := by
    have k := X10_cubeAt h1 h3 (show bP A c < 120 by omega)
    rw [show cx (bP A c) + 0 = cx (bP A c) by grind, show cy (bP A c) + 0 = cy (bP A c) by grind]
    exact ⟨k, fun q => ⟨c, hc, (h1.2.1 c hc).2⟩⟩
  obtain ⟨E1, E2⟩ := at4 0 (by decide) 1 0 rfl rfl
  obtain ⟨N1, N2⟩ := at4 1 (by decide) 0 1 rfl rfl
  obtain ⟨W1, W2⟩ := at4 2 (by decide) (-1) 0 rfl rfl
  obtain ⟨S1, S2⟩ := at4 3 (by decide) 0 (-1) rfl rfl
  rw [en]
  unfold fld f_X10_fieldOf_b35 f_X10_fieldOf_b70
  have big : ∀ v : Int32, (if 0 ≤ v then hf heard v else 0) = hf heard v := fun v => by
    unfold hf
    by_cases q : 0 ≤ v
    · rw [if_pos q, if_pos q]
    · rw [if_neg q, if_neg q]
  have sml : ∀ v : Int32, (if 0 ≤ v then (1 : Int32) else 0) = tf (0 ≤ v) := fun v => by
    by_cases q : 0 ≤ v
    · rw [if_pos q, tf_y q]
    · rw [if_neg q, tf_n q]
  rcases isF_cs hl with rfl | rfl | rfl | rfl | rfl | rfl | rfl | rfl | rfl | rfl | rfl
  · simp (decide := true) only [reduceIte]
    rw [r_105 h' hc E1 E2]
    simp (decide := true) only [reduceIte, big]
  · simp (decide := true) only [reduceIte]
    rw [r_105 h' hc N1 N2]
    simp (decide := true) only [reduceIte, big]
  · simp (decide := true) only [reduceIte]
    rw [r_105 h' hc S1 S2]
    simp (decide := true) only [reduceIte, big]
  · simp (decide := true) only [reduceIte]
    rw [r_105 h' hc W1 W2]
    simp (decide := true) only [reduceIte, big]
  · simp (decide := true) only [reduceIte]
    rw [r_105 h' hc E1 E2]
    simp (decide := true) only [reduceIte, sml]
  · simp (decide := true) only [reduceIte]
    rw [r_105 h' hc at0.1 at0.2]
    simp (decide := true) only [reduceIte]
  · simp (decide := true) only [reduceIte]
    rw [r_105 h' hc N1 N2]
    simp (decide := true) only [reduceIte, sml]
  · simp (decide := true) only [reduceIte]
    rw [r_105 h' hc at0.1 at0.2]
    simp (decide := true) only [reduceIte]
  · simp (decide := true) only [reduceIte]
    rw [r_105 h' hc S1 S2]
    simp (decide := true) only [reduceIte, sml]
  · simp (decide := true) only [reduceIte]
    rw [r_105 h' hc at0.1 at0.2]
    simp (decide := true) only [reduceIte]
  · simp (decide := true) only [reduceIte]
    rw [r_105 h' hc W1 W2]
    simp (decide := true) only [reduceIte, sml]
theorem cubeAt_ex {x y : Int32} {M : mM} : ∃ v, f_X10_cubeAt x y M = some v := by
  unfold f_X10_cubeAt
  rw [X10_isCell_c]
  by_cases h : (0 ≤ x ∧ x ≤ 9) ∧ 0 ≤ y ∧ y ≤ 7
  · obtain ⟨a, ha, rfl⟩ := i_le (n := 9) (by decide) h.1
    obtain ⟨b, hb, rfl⟩ := i_le (n := 7) (by decide) h.2
    rw [tf_y h, if_neg (show ¬ (1 : Int32) = 0 by decide), lmul, nadd, mgd_s ((nin (by omega)).mpr (by omega))]
    exact ⟨_, rfl⟩
  · rw [tf_n h, if_pos (show (0 : Int32) = 0 from rfl)]
    exact ⟨_, rfl⟩
theorem r_fld0 {M : mM} : fOK M (-1) (fun _ => 0) := by
  intro R l _
  generalize sR M 96 R = M'
  have b105 : ∀ x y dx dy : Int32, f_X10_fieldOf_b105 l (-1) x y dx dy M' = some 0 := fun x y dx dy => by
    obtain ⟨v, hv⟩ := cubeAt_ex (x := x + dx) (y := y + dy) (M := M')
    unfold f_X10_fieldOf_b105
    rw [hv, mbp_s, if_neg (by decide)]
  unfold f_X10_fieldOf f_X10_fieldOf_b17 f_X10_fieldOf_b35 f_X10_fieldOf_b70
  simp only [b105, ite_self]
  rw [if_neg (by decide), if_neg (by decide)]
/-- the class looks at a SHELF's text -/
theorem X4_shelf {d N : Nat} {M : mM} (hd : d < 8) (hr : rowS d 0 N M) : ∃ M', f_X4_check (80 + 2 * d) M = some M' ∧ eqK M M' ∧ (∀ k, k ≠ 78 → M'.1 k = M.1 k) ∧ M'.2.1 = M.2.1 ∧ M'.1 78 3 = (if (pPr (lk (fun k => M.1 115 (90 * d + k)) N) N).2 = true then -1 else nI (pPr (lk (fun k => M.1 115 (90 * d + k)) N) N).1) := by
  obtain ⟨hN, -, -, -, -, -, h1, hT⟩ := hr
  obtain ⟨r1, r2, r3, r4⟩ := row_d hd
  obtain ⟨M', e1, e2, e3, e4⟩ := X4_check r1 r4 (by omega) hN h1 (fun i hi => by
    obtain ⟨a, b⟩ := hT i (by omega)
    rw [a]; exact b rfl)
  rw [lk_cg (T := fun k => M.1 115 (90 * d + k)) (fun i hi => (hT i (by omega)).1)] at e4
  exact ⟨M', e1, ⟨fun q hq => e2 q (by omega), by rw [e2 96 (by omega)], by rw [e3], by rw [e3]⟩, e2, e3, e4⟩
theorem pr_le {T : Nat → Int32} {N : Nat} (hN : N ≤ 90) : (pPr (lk T N) N).1 < 100000 := by
  have lr : ∀ k p, p ≤ N → (pLr (lk T N) N k p).1 ≤ N := by
    intro k
    induction k with
    | zero => intro p hp; exact hp
    | succ k ih =>
      intro p hp
      rw [pLr]
      by_cases e : N ≤ p
      · rw [if_pos e]; exact hp
      · rw [if_neg e]
        have := p_rl (T := T) hp
        by_cases e2 : (pRl (lk T N) p).2 = true
        · rw [if_pos e2]; exact ih _ this.1
        · rw [if_neg e2]; exact this.1
  have := p_rl (T := T) (Nat.zero_le N)
  have h1 := this.1
  unfold pPr
  by_cases e2 : (pRl (lk T N) 0).2 = true
  · rw [if_pos e2]
    have := lr 5 _ h1
    omega
  · rw [if_neg e2]
    omega
theorem sh_le {T : Nat → Int32} {N : Nat} (hN : N ≤ 90) : (tSh (lk T N) N).1 < 100000 := by
  have a := aDp (T := T) 6 0 (Nat.zero_le N)
  have a1 := a.1
  unfold tSh
  by_cases e : (tDp (lk T N) 6 0).2.1 = true ∧ (tDp (lk T N) 6 0).1 < N
  · rw [if_pos e]; show (tDp (lk T N) 6 0).1 < _; omega
  · rw [if_neg e]; omega
theorem op_fault {M : mM} {a1 a2 : Int32} (hI : Inv M) : ∃ M', f_law_c9 a1 a2 M = some M' ∧ Inv M' := by
  obtain ⟨-, -, hSh, -⟩ := id hI
  unfold f_law_c9
  by_cases h : (0 ≤ a1 ∧ a1 ≤ 7) ∧ 0 ≤ a2 ∧ a2 ≤ 1
  · obtain ⟨h, h2⟩ := h
    obtain ⟨d, hd, rfl⟩ := i_shelf h
    obtain ⟨g1, g2⟩ := shelf_h hd
    have cl : f_X9_fault (nI d) a2 M = if 0 ≤ f_X6_refusalOfRow (80 + 2 * d) 0 M then (if a2 = 0 then mbw (f_X5_cellsOf (80 + 2 * d) 0 M) (fun v50 M50 => if f_X7_isFaulty 77 M50 = 0 then some (-4, M50) else some (f_X7_faultPlace 77 M50, M50)) else mbp (f_X4_check (80 + 2 * d) M) fun M87 => if f_X7_isFaulty 78 M87 = 0 then some (-4, M87) else some (f_X7_faultPlace 78 M87, M87)) else some (f_X6_refusalOfRow (80 + 2 * d) 0 M, M) := by
      unfold f_X9_fault
      rw [isShelf_c, tf_y h, if_neg (show ¬ (1 : Int32) = 0 by decide), if_neg (show ¬ a2 < 0 by grind), if_pos h2.2, g2, mgd_s g1, mlt_s, mlt_s, mgd_s g1, mlt_s, mgd_s g1, mlt_s]
    have rf : ∀ M1 : mM, f_X10_fault (nI d) a2 M1 = mbp (f_X10_lacksText (nI d) M1) fun v14 => if v14 = 0 then mbp (f_X10_bring (nI d) M1) (fun M28 => if a2 = 0 then mbw (f_X10_goesShape (-1) 0 0 M28) (fun v39 M39 => if v39 = 0 then some (M39.1 96 10, M39) else some (-4, M39)) else mbw (f_X10_goesProgram (-1) (-1) M28) fun v51 M51 => if v51 = 0 then some (M51.1 96 10, M51) else some (-4, M51)) else mbp (f_X10_lacksText (nI d) M1) fun v22 => some (v22, M1) := fun M1 => by
      unfold f_X10_fault
      rw [X10_is_y h2, if_neg (show ¬ (1 : Int32) = 0 by decide)]
    rcases ref_row (s := 0) hd (by omega) (hSh d hd) with ⟨r1, N, r2⟩ | ⟨r1, r2⟩ | ⟨r1, r2, r3⟩
    · have r1 : f_X6_refusalOfRow (80 + 2 * d) 0 M = 0 := r1
      have hN90 := r2.1
      rw [cl, r1, if_pos (by decide)]
      by_cases h0 : a2 = 0
      · obtain ⟨C, M1, c1, c2, c3, c4, c5, c6⟩ := X5_shelf (h := 0) hd (by decide) r2
        have c1 : f_X5_cellsOf (80 + 2 * d) 0 M = some (C, M1) := c1
        have r2' : rowS d 0 N M1 := rowS_fr (fun q hq => c3 q (by omega)) r2
        obtain ⟨L, l1, l2⟩ := X10_bring hd hN90 r2'.2.2.2.2.2.1
        have tx := tx0_b (M := M1) hN90 l2
        rw [c3 115 (by omega)] at tx
        obtain ⟨M5, m1, m2, m3, m4⟩ := X10_goes_shape (xx := 0) (yy := 0) tx (by decide) (by decide)
        have m1 : f_X10_goesShape (-1) 0 0 (sR (mI M1 96 7 (nI N)) 101 L) = _ := m1
        have hle := sh_le (T := fun k => M.1 115 (90 * d + k)) hN90
        rw [if_pos h0, c1, mbw_s]
        unfold f_X7_isFaulty f_X7_faultPlace
        rw [c5]
        refine ⟨M5, ?_, Inv_eqK (eqK_tr (eqK_tr c2 eqK_b) (eqR_K m2)) hI⟩
        by_cases ok : (tSh (lk (fun k => M.1 115 (90 * d + k)) N) N).2.1 = true
        · rw [if_pos ok, if_pos (by decide), mbw_s, rf, lacksText_c hd, r2'.2.2.1, if_neg (by decide), if_pos ⟨rfl, r2'.2.2.2.1⟩, mbp_s, if_pos (show (0 : Int32) = 0 from rfl), l1, mbp_s, if_pos h0, m1, mbw_s, ok, if_neg (by decide), mbw_s, if_pos rfl]
        · rw [if_neg ok, if_neg (nlt0 (by omega)), if_neg (by decide), mbw_s, rf, lacksText_c hd, r2'.2.2.1, if_neg (by decide), if_pos ⟨rfl, r2'.2.2.2.1⟩, mbp_s, if_pos (show (0 : Int32) = 0 from rfl), l1, mbp_s, if_pos h0, m1, mbw_s, Bool.eq_false_iff.mpr ok, if_pos (show bI false = 0 from rfl), m3, mbw_s, if_pos rfl]
      · obtain ⟨M1, c1, c2, c3, c4, c5⟩ := X4_shelf hd r2
        have r2' : rowS d 0 N M1 := rowS_fr (fun q hq => c3 q (by omega)) r2
        obtain ⟨L, l1, l2⟩ := X10_bring hd hN90 r2'.2.2.2.2.2.1
        have tx := tx0_b (M := M1) hN90 l2
        rw [c3 115 (by omega)] at tx
        obtain ⟨M5, m1, m2, m5, m3, m4⟩ := X10_goes_prog (c := -1) tx r_fld0
        have hle := pr_le (T := fun k => M.1 115 (90 * d + k)) hN90
        rw [if_neg h0, c1, mbp_s]
        unfold f_X7_isFaulty f_X7_faultPlace
        rw [c5]
        refine ⟨M5, ?_, Inv_eqK (eqK_tr (eqK_tr c2 eqK_b) (eqR_K m2)) hI⟩
        by_cases ok : (pPr (lk (fun k => M.1 115 (90 * d + k)) N) N).2 = true
        · rw [if_pos ok, if_pos (by decide), mbw_s, rf, lacksText_c hd, r2'.2.2.1, if_neg (by decide), if_pos ⟨rfl, r2'.2.2.2.1⟩, mbp_s, if_pos (show (0 : Int32) = 0 from rfl), l1, mbp_s, if_neg h0, m1, mbw_s, ok, if_neg (by decide), mbw_s, if_pos rfl]
        · rw [if_neg ok, if_neg (nlt0 (by omega)), if_neg (by decide), mbw_s, rf, lacksText_c hd, r2'.2.2.1, if_neg (by decide), if_pos ⟨rfl, r2'.2.2.2.1⟩, mbp_s, if_pos (show (0 : Int32) = 0 from rfl), l1, mbp_s, if_neg h0, m1, mbw_s, Bool.eq_false_iff.mpr ok, if_pos (show bI false = 0 from rfl), m3, mbw_s, if_pos rfl]
    · have r1 : f_X6_refusalOfRow (80 + 2 * d) 0 M = -11 := r1
      rw [cl, r1, if_neg neg_11, mbw_s, rf, lacksText_c hd, if_pos r2, mbp_s, if_neg (by decide), mbp_s, mbw_s, if_pos rfl]
      exact ⟨M, rfl, hI⟩
    · have r1 : f_X6_refusalOfRow (80 + 2 * d) 0 M = -12 := r1
      rw [cl, r1, if_neg neg_12, mbw_s, rf, lacksText_c hd, if_neg r2, if_neg r3, mbp_s, if_neg (by decide), mbp_s, mbw_s, if_pos rfl]
      exact ⟨M, rfl, hI⟩
  · refine ⟨M, ?_, hI⟩
    have e1 : f_X9_fault a1 a2 M = some (-1, M) := by
      unfold f_X9_fault
      rw [isShelf_c]
      by_cases h1 : 0 ≤ a1 ∧ a1 ≤ 7
      · rw [tf_y h1, if_neg (show ¬ (1 : Int32) = 0 by decide)]
        by_cases h2 : a2 < 0
        · rw [if_pos h2]
        · rw [if_neg h2, if_neg (fun q => h ⟨h1, by grind, q⟩)]
      · rw [tf_n h1, if_pos (show (0 : Int32) = 0 from rfl)]
    have e2 : f_X10_fault a1 a2 M = some (-1, M) := by
      unfold f_X10_fault
      by_cases h2 : 0 ≤ a2 ∧ a2 ≤ 1
      · have e : f_X10_lacksText a1 M = some (-1) := by
          unfold f_X10_lacksText
          rw [X10_is_n (fun q => h ⟨q, h2⟩), if_pos (show (0 : Int32) = 0 from rfl)]
        rw [X10_is_y h2, if_neg (show ¬ (1 : Int32) = 0 by decide), e, mbp_s, if_neg (by decide), mbp_s]
      · rw [X10_is_n h2, if_pos (show (0 : Int32) = 0 from rfl)]
    rw [e1, mbw_s, e2, mbw_s, if_pos rfl]
