/-! SHELVES -/
theorem iS_fr2 {d : Nat} {M M' : mM} (h1 : M'.1 (80 + 2 * d) = M.1 (80 + 2 * d)) (h2 : M'.1 (80 + 2 * d + 1) = M.1 (80 + 2 * d + 1)) (h3 : ∀ q, 108 ≤ q → q < 115 → M'.1 q d = M.1 q d) (h4 : ∀ i, i < 90 → M'.1 115 (90 * d + i) = M.1 115 (90 * d + i)) (h : iS d M) : iS d M' := by
  unfold iS at h ⊢
  rw [h1, h2, h3 108 (by omega) (by omega), h3 109 (by omega) (by omega), h3 110 (by omega) (by omega), h3 111 (by omega) (by omega), h3 112 (by omega) (by omega), h3 113 (by omega) (by omega), h3 114 (by omega) (by omega)]
  rcases h with h | h | ⟨x1, s, N, x2, x3, x4, x5, x6, x7, x8⟩
  · exact Or.inl h
  · exact Or.inr (Or.inl h)
  · exact Or.inr (Or.inr ⟨x1, s, N, x2, x3, x4, x5, x6, x7, fun i hi => by rw [h4 i hi]; exact x8 i hi⟩)
theorem mI_mI {M : mM} {k j : Nat} {v w : Int32} : mI (mI M k j v) k j w = mI M k j w := by
  refine mM_ext (fun a i => ?_) rfl
  rw [mI_at, mI_at, mI_at]
  by_cases h : a = k ∧ i = j
  · rw [if_pos h, if_pos h]
  · rw [if_neg h, if_neg h, if_neg h]
theorem eqK_J {M : mM} {v : Int64} : eqK M (mJ M 117 0 v) := by
  refine ⟨fun _ _ => rfl, rfl, ?_, ?_⟩
  · funext i
    show (if 14 = 117 ∧ i = 0 then v else M.2.1 14 i) = _
    rw [if_neg (by omega)]
  · funext i
    show (if 46 = 117 ∧ i = 0 then v else M.2.1 46 i) = _
    rw [if_neg (by omega)]
theorem X6_holdCube {d c : Nat} {M : mM} {A : Bd} (hd : d < 8) (hw : wf A) (hB : repB 2 M A) (hc : c < bN A) : f_X6_holdCube (80 + 2 * d) 2 (nI c) M = some (mI (mI (mI (mI (mI (mI (mI M (80 + 2 * d) 0 (-1)) (80 + 2 * d) 1 0) (80 + 2 * d) 3 (bK A c)) (80 + 2 * d) 4 (cx (bP A c))) (80 + 2 * d) 5 (cy (bP A c))) (80 + 2 * d) 6 (bW A c)) (80 + 2 * d) 7 (bD A c)) := by
  have hn := hw.1
  have hp := (hw.2.1 c hc).1
  have p2 := hp.2.1
  obtain ⟨co1, co2⟩ := col_of (show bP A c < 120 by omega)
  have g : mIn (nI c) 16 := (nin (by omega)).mpr (by omega)
  unfold f_X6_holdCube f_X6_hold
  simp (disch := omega) only [mI_n, mlt_s, mbp_s, ncl]
  rw [show M.1 (2 + 1) c = bK A c from hB.2.1 c hc, show M.1 (2 + 2) c = nI (bP A c) from hB.2.2.1 c hc, show M.1 (2 + 3) c = bW A c from hB.2.2.2.1 c hc, show M.1 (2 + 4) c = bD A c from hB.2.2.2.2.1 c hc, co1, co2, mgd_s g, mgd_s g, mgd_s g, mgd_s g, mgd_s g, mgd_s (hw.2.2.2.2.2 c hc)]
theorem op_keep {M : mM} {a1 a2 a3 : Int32} (hI : Inv M) : ∃ M', f_law_c26 a1 a2 a3 M = some M' ∧ Inv M' := by
  obtain ⟨⟨K, hA, hG⟩, -, hSh, -⟩ := id hI
  obtain ⟨hw, hB, hR, h01⟩ := id hA.1
  have hB : repB 2 M K.1 := hB
  have hn := hw.1
  unfold f_law_c26
  by_cases h : (0 ≤ a1 ∧ a1 ≤ 7) ∧ 0 ≤ a2 ∧ a2 ≤ 1
  · obtain ⟨h, h2⟩ := h
    obtain ⟨d, hd, rfl⟩ := i_shelf h
    obtain ⟨g1, g2⟩ := shelf_h hd
    by_cases h0 : a2 = 0
    · subst h0
      have e1 : f_X9_keep (nI d) 0 a3 M = some (0, mI (mI M (80 + 2 * d) 0 (-2)) (80 + 2 * d) 1 0) := by
        unfold f_X9_keep f_X9_keep_b37 f_X6_hold
        rw [isShelf_c, tf_y h, if_neg (show ¬ (1 : Int32) = 0 by decide), if_neg (by decide), if_neg (by decide), if_neg (by decide), if_pos (show (0 : Int32) = 0 from rfl), mgd_s g1, g2, mlt_s, mlt_s, mlt_s, mbp_s]
      have e2 : ∀ M1 : mM, f_X10_keep (nI d) 0 a3 M1 = some (0, mI M1 108 d 0) := fun M1 => by
        unfold f_X10_keep f_X10_keep_b33
        rw [X10_isShelf_c, mbp_s, tf_y h, if_neg (show ¬ (1 : Int32) = 0 by decide), X10_is_y (by decide), if_neg (show ¬ (1 : Int32) = 0 by decide), if_neg (by decide)]
        simp only [ncl (show d < 2147483648 by omega)]
        rw [mgd_s g1, mlt_s, if_neg (by decide)]
      rw [e1, mbw_s, e2, mbw_s, if_pos rfl]
      refine ⟨_, rfl, Inv_shf hI (fun q a b c => by simp (disch := omega) only [mI_n, mI_ne]) (by simp (disch := omega) only [mI_n, mI_ne]) rfl (fun d' hd' => ?_)⟩
      by_cases e : d' = d
      · subst e
        exact Or.inl ⟨mI_e, by rw [mI_n (by omega), mI_n (by omega)]; exact mI_e⟩
      · exact iS_fr2 (by simp (disch := omega) only [mI_n, mI_ne]) (by simp (disch := omega) only [mI_n, mI_ne]) (fun q a b => by simp (disch := omega) only [mI_n, mI_ne]) (fun i hi => by simp (disch := omega) only [mI_n, mI_ne]) (hSh d' hd')
    · have h1 : a2 = 1 := by grind
      subst h1
      by_cases h3 : isC K.1 a3
      · obtain ⟨c, hc, rfl⟩ := isC_ex hn h3
        have hp := (hw.2.1 c hc).1
        have e1 : f_X9_keep (nI d) 1 (nI c) M = some (0, mI (mI (mI (mI (mI (mI (mI M (80 + 2 * d) 0 (-1)) (80 + 2 * d) 1 0) (80 + 2 * d) 3 (bK K.1 c)) (80 + 2 * d) 4 (cx (bP K.1 c))) (80 + 2 * d) 5 (cy (bP K.1 c))) (80 + 2 * d) 6 (bW K.1 c)) (80 + 2 * d) 7 (bD K.1 c)) := by
          unfold f_X9_keep f_X9_keep_b37
          rw [isShelf_c, tf_y h, if_neg (show ¬ (1 : Int32) = 0 by decide), if_neg (by decide), if_neg (by decide), if_pos rfl, X0_has_c hB, tf_y h3, if_neg (show ¬ (1 : Int32) = 0 by decide), if_neg (show ¬ (1 : Int32) = 0 by decide), mgd_s g1, g2, mlt_s, X6_holdCube hd hw hB hc, mbp_s]
        generalize hM1 : mI (mI (mI (mI (mI (mI (mI M (80 + 2 * d) 0 (-1)) (80 + 2 * d) 1 0) (80 + 2 * d) 3 (bK K.1 c)) (80 + 2 * d) 4 (cx (bP K.1 c))) (80 + 2 * d) 5 (cy (bP K.1 c))) (80 + 2 * d) 6 (bW K.1 c)) (80 + 2 * d) 7 (bD K.1 c) = M1 at e1
        have q97 : M1.1 97 = M.1 97 := by rw [← hM1]; simp (disch := omega) only [mI_n, mI_ne]
        have hR1 : repR 97 M1 K.1 := repR_fr hn (by rw [q97]) (fun j _ _ => by rw [q97]) hR
        have e2 : f_X10_keep (nI d) 1 (nI c) M1 = some (0, mI (mI (mI (mI (mI M1 108 d 1) 109 d (bK K.1 c)) 110 d (8 * cx (bP K.1 c) + cy (bP K.1 c))) 111 d (bW K.1 c)) 112 d (bD K.1 c)) := by
          unfold f_X10_keep f_X10_keep_b33
          rw [X10_isShelf_c, mbp_s, tf_y h, if_neg (show ¬ (1 : Int32) = 0 by decide), X10_is_y (by decide), if_neg (show ¬ (1 : Int32) = 0 by decide), if_pos rfl, X10_isCube_c hn hR1, mbp_s, tf_y h3, if_neg (show ¬ (1 : Int32) = 0 by decide)]
          simp (disch := omega) only [mI_n, mlt_s, ncl, ladd]
          rw [hR1.2.1 c hc, hR1.2.2.1 c hc, hR1.2.2.2.1 c hc, hR1.2.2.2.2.1 c hc, hR1.2.2.2.2.2 c hc, mgd_s g1, if_pos trivial, mgd_s ((nin (by omega)).mpr (by omega)), mgd_s g1, mgd_s ((nin (by omega)).mpr (by omega)), mgd_s ((nin (by omega)).mpr (by omega)), mgd_s g1, mgd_s ((nin (by omega)).mpr (by omega)), mgd_s g1, mgd_s ((nin (by omega)).mpr (by omega)), mgd_s g1]
        rw [e1, mbw_s, e2, mbw_s, if_pos rfl]
        subst hM1
        refine ⟨_, rfl, Inv_shf hI (fun q a b c => by simp (disch := omega) only [mI_n, mI_ne]) (by simp (disch := omega) only [mI_n, mI_ne]) rfl (fun d' hd' => ?_)⟩
        by_cases e : d' = d
        · subst e
          refine Or.inr (Or.inl ⟨?_, ?_, ?_, ?_, ?_, ?_, ?_, ?_⟩)
          · simp (disch := omega) only [mI_n, mI_e]
          · simp (disch := omega) only [mI_n, mI_e]
          · simp (disch := omega) only [mI_n, mI_e]; exact hw.2.2.2.2.1 c hc
          · simp (disch := omega) only [mI_n, mI_e]
          · simp (disch := omega) only [mI_n, mI_e]
          · simp (disch := omega) only [mI_n, mI_e]
          · simp (disch := omega) only [mI_n, mI_e]; exact hw.2.2.2.2.2 c hc
          · simp (disch := omega) only [mI_n, mI_e]
        · exact iS_fr2 (by simp (disch := omega) only [mI_n, mI_ne]) (by simp (disch := omega) only [mI_n, mI_ne]) (fun q a b => by simp (disch := omega) only [mI_n, mI_ne]) (fun i hi => by simp (disch := omega) only [mI_n, mI_ne]) (hSh d' hd')
      · refine ⟨M, ?_, hI⟩
        unfold f_X9_keep f_X10_keep
        rw [isShelf_c, tf_y h, if_neg (show ¬ (1 : Int32) = 0 by decide), if_neg (show ¬ (1 : Int32) < 0 by decide), if_neg (show ¬ (1 : Int32) < 1 by decide), if_pos rfl, X0_has_c hB, tf_n h3, if_pos (show (0 : Int32) = 0 from rfl), mbw_s, X10_isShelf_c, mbp_s, tf_y h, if_neg (show ¬ (1 : Int32) = 0 by decide), X10_is_y (by decide), if_neg (show ¬ (1 : Int32) = 0 by decide), if_pos rfl, X10_isCube_c hn hR, mbp_s, tf_n h3, if_pos (show (0 : Int32) = 0 from rfl), mbw_s, if_pos rfl]
  · refine ⟨M, ?_, hI⟩
    have e1 : f_X9_keep a1 a2 a3 M = some (-1, M) := by
      unfold f_X9_keep
      rw [isShelf_c]
      by_cases h1 : 0 ≤ a1 ∧ a1 ≤ 7
      · rw [tf_y h1, if_neg (show ¬ (1 : Int32) = 0 by decide)]
        by_cases h2 : a2 < 0
        · rw [if_pos h2]
        · rw [if_neg h2, if_pos (show 1 < a2 by grind)]
      · rw [tf_n h1, if_pos (show (0 : Int32) = 0 from rfl)]
    have e2 : f_X10_keep a1 a2 a3 M = some (-1, M) := by
      unfold f_X10_keep
      rw [X10_isShelf_c, mbp_s]
      by_cases h1 : 0 ≤ a1 ∧ a1 ≤ 7
      · rw [tf_y h1, if_neg (show ¬ (1 : Int32) = 0 by decide), X10_is_n (fun q => h ⟨h1, q⟩), if_pos (show (0 : Int32) = 0 from rfl)]
      · rw [tf_n h1, if_pos (show (0 : Int32) = 0 from rfl)]
    rw [e1, mbw_s, e2, mbw_s, if_pos rfl]
theorem X6_zero_lp {b j : Nat} {M : mM} (d : Nat) : ∀ i L, i + d = 90 → (∀ k, k < i → L k = 0) → ∃ L', f_X6_holdRow_b12 (j + d + 1) b (nI i) (sR M (b + 1) L) = some (sR M (b + 1) L') ∧ ∀ k, k < 90 → L' k = 0 := by
  induction d with
  | zero =>
    intro i L hi hL
    refine ⟨L, ?_, fun k hk => hL k (by omega)⟩
    rw [f_X6_holdRow_b12, if_pos ((lle (m := 90) (by decide) (by omega)).mpr (show 90 ≤ _ by omega))]
  | succ d ih =>
    intro i L hi hL
    obtain ⟨L', l1, l2⟩ := ih (i + 1) (up L i 0) (by omega) (fun k hk => by
      by_cases e : k = i
      · rw [e, up_e]
      · rw [up_n e]; exact hL k (by omega))
    refine ⟨L', ?_, l2⟩
    rw [f_X6_holdRow_b12, if_neg (fun q => by have : 90 ≤ _ := (lle (m := 90) (by decide) (by omega)).mp q; omega), mgd_s ((nin (by omega)).mpr (by omega)), ncl (by omega), mI_R, mlt_s, nI_1, mlt_s]
    exact l1
theorem X10_zero_lp {dd j : Nat} {M : mM} (hd : dd < 8) (d : Nat) : ∀ i L, i + d = 90 → (∀ k, k < i → L (90 * dd + k) = 0) → (∀ q, ¬ (90 * dd ≤ q ∧ q < 90 * dd + 90) → L q = M.1 115 q) → ∃ L', f_X10_row_b57 (j + d + 1) (nI dd) (nI i) (sR M 115 L) = some (0, sR M 115 L') ∧ (∀ k, k < 90 → L' (90 * dd + k) = 0) ∧ ∀ q, ¬ (90 * dd ≤ q ∧ q < 90 * dd + 90) → L' q = M.1 115 q := by
  induction d with
  | zero =>
    intro i L hi hL hq
    refine ⟨L, ?_, fun k hk => hL k (by omega), hq⟩
    rw [f_X10_row_b57, if_pos ((lle (m := 90) (by decide) (by omega)).mpr (show 90 ≤ _ by omega))]
  | succ d ih =>
    intro i L hi hL hq
    obtain ⟨L', l1, l2⟩ := ih (i + 1) (up L (90 * dd + i) 0) (by omega) (fun k hk => by
      by_cases e : k = i
      · rw [e, up_e]
      · rw [up_n (by omega)]; exact hL k (by omega)) (fun q h => by rw [up_n (by omega)]; exact hq q h)
    refine ⟨L', ?_, l2⟩
    rw [f_X10_row_b57, if_neg (fun q => by have : 90 ≤ _ := (lle (m := 90) (by decide) (by omega)).mp q; omega), lmul, nadd, mgd_s ((nin (by omega)).mpr (by omega)), ncl (by omega), mI_R, mlt_s, nI_1, mlt_s]
    exact l1
theorem op_row {M : mM} {a1 a2 a3 : Int32} (hI : Inv M) : ∃ M', f_law_c27 a1 a2 a3 M = some M' ∧ Inv M' := by
  obtain ⟨-, -, hSh, -⟩ := id hI
  unfold f_law_c27
  by_cases h : (0 ≤ a1 ∧ a1 ≤ 7) ∧ (0 ≤ a2 ∧ a2 ≤ 2) ∧ a3 ≤ 90
  · obtain ⟨h, h2, h3⟩ := h
    obtain ⟨d, hd, rfl⟩ := i_shelf h
    obtain ⟨g1, g2⟩ := shelf_h hd
    by_cases h0 : 0 ≤ a3
    · obtain ⟨s, hs, rfl⟩ := i_le (n := 2) (by decide) h2
      obtain ⟨N, hN, rfl⟩ := i_le (n := 90) (by decide) ⟨h0, h3⟩
      obtain ⟨m, hm⟩ := mN_ge (k := 91) (by omega)
      have hm : mN = m + 90 + 1 := by omega
      have e0 : mI (mI (mI M (80 + 2 * d) 0 (nI s)) (80 + 2 * d) 1 0) (80 + 2 * d) 1 (nI N) = mI (mI M (80 + 2 * d) 0 (nI s)) (80 + 2 * d) 1 (nI N) := by
        exact mI_mI
      obtain ⟨L, l1, l2⟩ := X6_zero_lp (j := m) (b := 80 + 2 * d) (M := mI (mI M (80 + 2 * d) 0 (nI s)) (80 + 2 * d) 1 (nI N)) 90 0 ((mI (mI M (80 + 2 * d) 0 (nI s)) (80 + 2 * d) 1 (nI N)).1 (80 + 2 * d + 1)) rfl (fun k hk => absurd hk (Nat.not_lt_zero k))
      rw [sR_self] at l1
      have l1 : f_X6_holdRow_b12 (m + 90 + 1) (80 + 2 * d) 0 (mI (mI M (80 + 2 * d) 0 (nI s)) (80 + 2 * d) 1 (nI N)) = _ := l1
      have e1 : f_X9_row (nI d) (nI s) (nI N) M = some (0, sR (mI (mI M (80 + 2 * d) 0 (nI s)) (80 + 2 * d) 1 (nI N)) (80 + 2 * d + 1) L) := by
        unfold f_X9_row f_X6_holdRow f_X6_hold
        rw [isShelf_c, tf_y h, if_neg (show ¬ (1 : Int32) = 0 by decide), if_neg (nlt0 (by omega)), if_neg (show ¬ 2 < nI s by have := h2.2; grind), if_pos h3, if_pos h0, mgd_s g1, g2, mlt_s, mlt_s, mlt_s, mbp_s, mlt_s, e0, hm, l1, mbp_s]
      generalize hM1 : sR (mI (mI M (80 + 2 * d) 0 (nI s)) (80 + 2 * d) 1 (nI N)) (80 + 2 * d + 1) L = M1 at e1
      obtain ⟨R, r1, r2, r3⟩ := X10_zero_lp (dd := d) (j := m) (M := mI (mI (mI M1 108 d 2) 113 d (nI s)) 114 d (nI N)) hd 90 0 ((mI (mI (mI M1 108 d 2) 113 d (nI s)) 114 d (nI N)).1 115) rfl (fun k hk => absurd hk (Nat.not_lt_zero k)) (fun q _ => rfl)
      rw [sR_self] at r1
      have r1 : f_X10_row_b57 (m + 90 + 1) (nI d) 0 (mI (mI (mI M1 108 d 2) 113 d (nI s)) 114 d (nI N)) = _ := r1
      have e2 : f_X10_row (nI d) (nI s) (nI N) M1 = some (0, sR (mI (mI (mI M1 108 d 2) 113 d (nI s)) 114 d (nI N)) 115 R) := by
        unfold f_X10_row
        rw [X10_isShelf_c, mbp_s, tf_y h, if_neg (show ¬ (1 : Int32) = 0 by decide), X10_is_y h2, if_neg (show ¬ (1 : Int32) = 0 by decide), if_pos h3, if_pos h0]
        simp only [ncl (show d < 2147483648 by omega), mlt_s]
        rw [mgd_s g1, mgd_s g1, mgd_s g1, hm, r1]
      rw [e1, mbw_s, e2, mbw_s, if_pos rfl]
      have fr : ∀ q, q ≠ 80 + 2 * d → q ≠ 80 + 2 * d + 1 → q ≠ 108 → q ≠ 113 → q ≠ 114 → q ≠ 115 → (sR (mI (mI (mI M1 108 d 2) 113 d (nI s)) 114 d (nI N)) 115 R).1 q = M.1 q := fun q x1 x2 x3 x4 x5 x6 => by rw [sR_n x6, mI_ne x5, mI_ne x4, mI_ne x3, ← hM1, sR_n x2, mI_ne x1, mI_ne x1]
      refine ⟨_, rfl, Inv_shf hI (fun q a b c => fr q (by omega) (by omega) (by omega) (by omega) (by omega) (by omega)) (by rw [fr 96 (by omega) (by omega) (by omega) (by omega) (by omega) (by omega)]) (by rw [← hM1]; rfl) (fun d' hd' => ?_)⟩
      by_cases e : d' = d
      · subst e
        refine Or.inr (Or.inr ⟨?_, s, N, hs, hN, ?_, ?_, ?_, ?_, fun i hi => ⟨?_, fun _ => ?_⟩⟩)
        · rw [sR_n (by omega)]; simp (disch := omega) only [mI_n, mI_e]
        · rw [sR_n (by omega)]; simp (disch := omega) only [mI_n, mI_e]
        · rw [sR_n (by omega), mI_ne (by omega), mI_ne (by omega), mI_ne (by omega), ← hM1, sR_n (by omega)]; simp (disch := omega) only [mI_n, mI_e]
        · rw [sR_n (by omega)]; simp (disch := omega) only [mI_n, mI_e]
        · rw [sR_n (by omega), mI_ne (by omega), mI_ne (by omega), mI_ne (by omega), ← hM1, sR_n (by omega)]; exact mI_e
        · rw [sR_n (by omega), mI_ne (by omega), mI_ne (by omega), mI_ne (by omega), ← hM1, sR_e, l2 i hi, sR_e, r2 i hi]
        · rw [sR_e, r2 i hi]; decide
      · have q115 : M1.1 115 = M.1 115 := by rw [← hM1, sR_n (by omega), mI_ne (by omega), mI_ne (by omega)]
        refine iS_fr2 (fr _ (by omega) (by omega) (by omega) (by omega) (by omega) (by omega)) (fr _ (by omega) (by omega) (by omega) (by omega) (by omega) (by omega)) (fun q a b => ?_) (fun i hi => ?_) (hSh d' hd')
        · rw [sR_n (by omega), mI_n (by omega), mI_n (by omega), mI_n (by omega), ← hM1, sR_n (by omega), mI_ne (by omega), mI_ne (by omega)]
        · rw [sR_e, r3 _ (by omega), mI_ne (by omega), mI_ne (by omega), mI_ne (by omega), q115]
    · refine ⟨M, ?_, hI⟩
      unfold f_X9_row f_X10_row
      rw [isShelf_c, tf_y h, if_neg (show ¬ (1 : Int32) = 0 by decide), if_neg (show ¬ a2 < 0 by grind), if_neg (show ¬ 2 < a2 by grind), if_pos h3, if_neg h0, mbw_s, X10_isShelf_c, mbp_s, tf_y h, if_neg (show ¬ (1 : Int32) = 0 by decide), X10_is_y h2, if_neg (show ¬ (1 : Int32) = 0 by decide), if_pos h3, if_neg h0, mbw_s, if_pos rfl]
  · refine ⟨M, ?_, hI⟩
    have e1 : f_X9_row a1 a2 a3 M = some (-1, M) := by
      unfold f_X9_row
      rw [isShelf_c]
      by_cases h1 : 0 ≤ a1 ∧ a1 ≤ 7
      · rw [tf_y h1, if_neg (show ¬ (1 : Int32) = 0 by decide)]
        by_cases h2 : a2 < 0
        · rw [if_pos h2]
        rw [if_neg h2]
        by_cases h3 : 2 < a2
        · rw [if_pos h3]
        · rw [if_neg h3, if_neg (fun q => h ⟨h1, ⟨by grind, by grind⟩, q⟩)]
      · rw [tf_n h1, if_pos (show (0 : Int32) = 0 from rfl)]
    have e2 : f_X10_row a1 a2 a3 M = some (-1, M) := by
      unfold f_X10_row
      rw [X10_isShelf_c, mbp_s]
      by_cases h1 : 0 ≤ a1 ∧ a1 ≤ 7
      · rw [tf_y h1, if_neg (show ¬ (1 : Int32) = 0 by decide)]
        by_cases h2 : 0 ≤ a2 ∧ a2 ≤ 2
        · rw [X10_is_y h2, if_neg (show ¬ (1 : Int32) = 0 by decide), if_neg (fun q => h ⟨h1, h2, q⟩)]
        · rw [X10_is_n h2, if_pos (show (0 : Int32) = 0 from rfl)]
      · rw [tf_n h1, if_pos (show (0 : Int32) = 0 from rfl)]
    rw [e1, mbw_s, e2, mbw_s, if_pos rfl]
