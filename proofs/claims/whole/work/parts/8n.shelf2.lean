/-! put, element, copy, sum, toss -/
theorem mJ_e {M : mM} {k j : Nat} {v : Int64} : (mJ M k j v).2.1 k j = v := if_pos ⟨rfl, rfl⟩
theorem ref_any {d : Nat} {M : mM} (h : iS d M) : (f_X6_refusalOfRow (80 + 2 * d) 3 M = 0 ∧ ∃ s N, rowS d s N M) ∨ (f_X6_refusalOfRow (80 + 2 * d) 3 M = -11 ∧ M.1 108 d = 0) ∨ (f_X6_refusalOfRow (80 + 2 * d) 3 M = -12 ∧ M.1 108 d = 1) := by
  unfold f_X6_refusalOfRow f_X6_refusalOfRow_b37 f_X6_isRow
  rcases h with ⟨h1, h2⟩ | ⟨h1, h2, -⟩ | ⟨h1, s, N, q1, q2, q3, q4, q5, q6, q7⟩
  · exact Or.inr (Or.inl ⟨by rw [h2, if_pos rfl], h1⟩)
  · exact Or.inr (Or.inr ⟨by rw [h2]; decide, h1⟩)
  · refine Or.inl ⟨?_, s, N, q2, q1, h1, q3, q4, q5, q6, q7⟩
    rw [q4, if_neg (show ¬ nI s = -2 from nneg (a := s) (m := 2) (by omega) (by decide) (by decide)), if_pos rfl, if_neg (nlt0 (by omega)), if_neg (by decide)]
theorem hasPlace_c {d N : Nat} {i : Int32} {M : mM} (h : M.1 (80 + 2 * d) 1 = nI N) : f_X6_hasPlace (80 + 2 * d) i M = tf (0 ≤ i ∧ i < nI N) := by
  unfold f_X6_hasPlace
  rw [h]
  by_cases e : 0 ≤ i ∧ i < nI N
  · rw [tf_y e]; grind
  · rw [tf_n e]; grind
theorem is_place {N : Nat} {i : Int32} (hN : N ≤ 90) : f_X10_is i 0 (nI N - 1) = tf (0 ≤ i ∧ i < nI N) := by
  have t := nI_ti (k := N) (by omega)
  rw [X10_is_c]
  exact tf_c (by grind)
theorem byte_ok {v : Int32} : Int8.toInt32 (Int32.toInt8 v) ≠ -1000 := by
  intro h
  have h1 := congrArg Int32.toInt h
  rw [Int8.toInt_toInt32] at h1
  have h2 := Int8.le_toInt (Int32.toInt8 v)
  have h3 : (-1000 : Int32).toInt = -1000 := by decide
  omega
theorem op_put {M : mM} {a1 a2 a3 : Int32} (hI : Inv M) : ∃ M', f_law_c28 a1 a2 a3 M = some M' ∧ Inv M' := by
  obtain ⟨-, -, hSh, -⟩ := id hI
  unfold f_law_c28 f_X9_put
  rw [isShelf_c]
  by_cases h : 0 ≤ a1 ∧ a1 ≤ 7
  · obtain ⟨d, hd, rfl⟩ := i_shelf h
    obtain ⟨g1, g2⟩ := shelf_h hd
    have en : ∀ M1 : mM, f_X10_put (nI d) a2 a3 M1 = (if M1.1 108 d = 0 then some (-11, M1) else if M1.1 108 d = 2 then (if f_X10_is a2 0 (M1.1 114 d - 1) = 0 then some (-13, M1) else mgd (mIn (90 * nI d + a2) 720) (some (0, mI M1 115 (Int32.toNatClampNeg (90 * nI d + a2)) (f_X10_narrow (M1.1 113 d) a3)))) else some (-12, M1)) := fun M1 => by
      unfold f_X10_put
      rw [X10_isShelf_c, mbp_s, tf_y h, if_neg (show ¬ (1 : Int32) = 0 by decide)]
      simp only [ncl (show d < 2147483648 by omega), mlt_s]
      rw [mgd_s g1, mgd_s g1, mgd_s g1, mgd_s g1]
    rw [tf_y h, if_neg (show ¬ (1 : Int32) = 0 by decide), g2]
    simp only [mlt_s]
    rw [mgd_s g1, mgd_s g1, mgd_s g1, mgd_s g1]
    rcases ref_any (hSh d hd) with ⟨r1, s, N, r2⟩ | ⟨r1, r2⟩ | ⟨r1, r2⟩
    · obtain ⟨n90, s2, x1, x2, x3, x4, x5, x6⟩ := id r2
      rw [r1, if_pos (by decide), hasPlace_c x5]
      by_cases h2 : 0 ≤ a2 ∧ a2 < nI N
      · obtain ⟨i, hi, rfl⟩ := i_lt (by omega) h2
        have nar : f_X6_lowestBits (80 + 2 * d) a3 M = f_X10_narrow (nI s) a3 := by
          unfold f_X6_lowestBits f_X10_narrow
          rw [x3]
        rw [tf_y h2, if_neg (show ¬ (1 : Int32) = 0 by decide), mgd_s ((nin (by omega)).mpr (by omega)), nar, ncl (by omega), mbw_s]
        generalize hv : f_X10_narrow (nI s) a3 = v
        have hM1 : ∀ q, q ≠ 80 + 2 * d + 1 → (mI M (80 + 2 * d + 1) i v).1 q = M.1 q := fun q hq => mI_ne hq
        rw [en, hM1 108 (by omega), hM1 113 (by omega), hM1 114 (by omega), x1, if_neg (by decide), if_pos rfl, x4, is_place n90, tf_y h2, if_neg (show ¬ (1 : Int32) = 0 by decide), lmul, nadd, mgd_s ((nin (by omega)).mpr (by omega)), ncl (by omega), x2, hv, mbw_s, if_pos rfl]
        refine ⟨_, rfl, Inv_shf hI (fun q a b c => by simp (disch := omega) only [mI_n, mI_ne]) (by simp (disch := omega) only [mI_n, mI_ne]) rfl (fun d' hd' => ?_)⟩
        by_cases e : d' = d
        · subst e
          refine Or.inr (Or.inr ⟨by simp (disch := omega) only [mI_n, mI_ne]; exact x1, s, N, s2, n90, by simp (disch := omega) only [mI_n, mI_ne]; exact x2, by simp (disch := omega) only [mI_n, mI_ne]; exact x3, by simp (disch := omega) only [mI_n, mI_ne]; exact x4, by simp (disch := omega) only [mI_n, mI_ne]; exact x5, fun k hk => ?_⟩)
          by_cases e2 : k = i
          · subst e2
            refine ⟨?_, fun hs0 => ?_⟩
            · rw [mI_n (by omega), mI_e, mI_e]
            · rw [mI_e, ← hv]
              subst hs0
              exact byte_ok
          · rw [mI_n (by omega), mI_n (by omega), mI_n (by omega), mI_n (by omega)]
            exact x6 k hk
        · exact iS_fr2 (by simp (disch := omega) only [mI_n, mI_ne]) (by simp (disch := omega) only [mI_n, mI_ne]) (fun q a b => by simp (disch := omega) only [mI_n, mI_ne]) (fun k hk => by simp (disch := omega) only [mI_n, mI_ne]) (hSh d' hd')
      · rw [tf_n h2, if_pos (show (0 : Int32) = 0 from rfl), mbw_s, en, x1, if_neg (by decide), if_pos rfl, x4, is_place n90, tf_n h2, if_pos (show (0 : Int32) = 0 from rfl), mbw_s, if_pos rfl]
        exact ⟨M, rfl, hI⟩
    · rw [r1, if_neg neg_11, mbw_s, en, if_pos r2, mbw_s, if_pos rfl]
      exact ⟨M, rfl, hI⟩
    · rw [r1, if_neg neg_12, mbw_s, en, r2, if_neg (by decide), if_neg (by decide), mbw_s, if_pos rfl]
      exact ⟨M, rfl, hI⟩
  · refine ⟨M, ?_, hI⟩
    unfold f_X10_put
    rw [tf_n h, if_pos (show (0 : Int32) = 0 from rfl), mbw_s, X10_isShelf_c, mbp_s, tf_n h, if_pos (show (0 : Int32) = 0 from rfl), mbw_s, if_pos rfl]
theorem isRow_c {d : Nat} {M : mM} (h : iS d M) : f_X6_isRow (80 + 2 * d) M = tf (M.1 108 d = 2) := by
  unfold f_X6_isRow
  rcases h with ⟨h1, h2⟩ | ⟨h1, h2, -⟩ | ⟨h1, s, N, q1, q2, q3, q4, -⟩
  · rw [h2, tf_n (by rw [h1]; decide)]; rfl
  · rw [h2, tf_n (by rw [h1]; decide)]; rfl
  · rw [q4, tf_y h1, if_neg (nlt0 (by omega))]
theorem iS_row {d : Nat} {M : mM} (h : iS d M) (h2 : M.1 108 d = 2) : ∃ s N, rowS d s N M := by
  rcases h with ⟨h1, -⟩ | ⟨h1, -⟩ | ⟨h1, s, N, q1, q2, q3, q4, q5, q6, q7⟩
  · rw [h1] at h2; exact absurd h2 (by decide)
  · rw [h1] at h2; exact absurd h2 (by decide)
  · exact ⟨s, N, q2, q1, h1, q3, q4, q5, q6, q7⟩
theorem cmp_self {v : Int64} : lg_cmp v v = 0 := by
  unfold lg_cmp
  rw [if_neg (fun q => Int64.lt_irrefl q), if_pos rfl]
theorem op_element {M : mM} {a1 a2 : Int32} (hI : Inv M) : ∃ M', f_law_c29 a1 a2 M = some M' ∧ Inv M' := by
  obtain ⟨-, -, hSh, -⟩ := id hI
  unfold f_law_c29 f_L_element f_X9_element f_X10_thrown
  rw [isShelf_c]
  by_cases h : 0 ≤ a1 ∧ a1 ≤ 7
  · obtain ⟨d, hd, rfl⟩ := i_shelf h
    obtain ⟨g1, g2⟩ := shelf_h hd
    rw [tf_y h, if_neg (show ¬ (1 : Int32) = 0 by decide), g2]
    simp only [mlt_s]
    rw [mgd_s g1, mgd_s g1, mgd_s g1, isRow_c (hSh d hd)]
    by_cases h2 : M.1 108 d = 2
    · obtain ⟨s, N, n90, s2, x1, x2, x3, x4, x5, x6⟩ := iS_row (hSh d hd) h2
      rw [tf_y h2, if_neg (show ¬ (1 : Int32) = 0 by decide), hasPlace_c x5]
      by_cases h3 : 0 ≤ a2 ∧ a2 < nI N
      · obtain ⟨i, hi, rfl⟩ := i_lt (by omega) h3
        rw [tf_y h3, if_neg (show ¬ (1 : Int32) = 0 by decide), mgd_s ((nin (by omega)).mpr (by omega)), ncl (by omega), mbp_s]
        show ∃ M', mbw (if (0 : Int32) = 0 then some (0, mJ M 117 0 (Int32.toInt64 (M.1 (80 + 2 * d + 1) i))) else some (0, M)) _ = _ ∧ _
        rw [if_pos (show (0 : Int32) = 0 from rfl), mbw_s]
        generalize hM1 : mJ M 117 0 (Int32.toInt64 (M.1 (80 + 2 * d + 1) i)) = M1
        have q1 : M1.1 = M.1 := by rw [← hM1]; rfl
        have q2 : M1.2.1 117 0 = Int32.toInt64 (M.1 (80 + 2 * d + 1) i) := by rw [← hM1]; exact mJ_e
        have e2 : f_X10_element (nI d) (nI i) M1 = some (Int32.toInt64 (M.1 115 (90 * d + i)), mI M1 96 0 0) := by
          unfold f_X10_element f_X10_element_b45
          rw [X10_isShelf_c, mbp_s, tf_y h, if_neg (show ¬ (1 : Int32) = 0 by decide)]
          simp only [ncl (show d < 2147483648 by omega), mlt_s]
          rw [mgd_s g1, mgd_s g1, q1, if_pos h2, x4, is_place n90, tf_y h3, if_neg (show ¬ (1 : Int32) = 0 by decide), mI_e, if_pos (by decide), lmul, nadd, mgd_s ((nin (by omega)).mpr (by omega)), ncl (by omega), mI_n (by omega), q1]
        rw [e2, mbw_s, mI_e, if_pos rfl, if_pos (show (0 : Int32) = 0 from rfl), show (mI M1 96 0 0).2.1 117 0 = Int32.toInt64 (M.1 (80 + 2 * d + 1) i) from q2, (x6 i (by omega)).1, cmp_self, if_pos (show (0 : Int32) = 0 from rfl)]
        refine ⟨_, rfl, Inv_eqK (eqK_tr ?_ (eqK_i (k := 96) (j := 0) (v := 0) (by omega))) hI⟩
        rw [← hM1]
        exact eqK_J
      · have e2 : f_X10_element (nI d) a2 M = some (0, mI M 96 0 2) := by
          unfold f_X10_element f_X10_element_b45
          rw [X10_isShelf_c, mbp_s, tf_y h, if_neg (show ¬ (1 : Int32) = 0 by decide)]
          simp only [ncl (show d < 2147483648 by omega), mlt_s]
          rw [mgd_s g1, mgd_s g1, if_pos h2, x4, is_place n90, tf_n h3, if_pos (show (0 : Int32) = 0 from rfl), mI_e, if_neg (by decide)]
        rw [tf_n h3, if_pos (show (0 : Int32) = 0 from rfl), mbp_s]
        show ∃ M', mbw (if (2 : Int32) = 0 then some (0, mJ M 117 0 0) else some (2, M)) _ = _ ∧ _
        rw [if_neg (by decide), mbw_s, e2, mbw_s, mI_e, if_pos rfl, if_neg (by decide)]
        exact ⟨_, rfl, Inv_eqK (eqK_i (by omega)) hI⟩
    · have e2 : f_X10_element (nI d) a2 M = some (0, mI M 96 0 2) := by
        unfold f_X10_element f_X10_element_b45
        rw [X10_isShelf_c, mbp_s, tf_y h, if_neg (show ¬ (1 : Int32) = 0 by decide)]
        simp only [ncl (show d < 2147483648 by omega), mlt_s]
        rw [mgd_s g1, if_neg h2, mI_e, if_neg (by decide)]
      rw [tf_n h2, if_pos (show (0 : Int32) = 0 from rfl), mbp_s]
      show ∃ M', mbw (if (2 : Int32) = 0 then some (0, mJ M 117 0 0) else some (2, M)) _ = _ ∧ _
      rw [if_neg (by decide), mbw_s, e2, mbw_s, mI_e, if_pos rfl, if_neg (by decide)]
      exact ⟨_, rfl, Inv_eqK (eqK_i (by omega)) hI⟩
  · have e2 : f_X10_element a1 a2 M = some (0, mI M 96 0 1) := by
      unfold f_X10_element f_X10_element_b45
      rw [X10_isShelf_c, mbp_s, tf_n h, if_pos (show (0 : Int32) = 0 from rfl), mlt_s, mI_e, if_neg (by decide)]
    rw [tf_n h, if_pos (show (0 : Int32) = 0 from rfl), mbp_s]
    show ∃ M', mbw (if (1 : Int32) = 0 then some (0, mJ M 117 0 0) else some (1, M)) _ = _ ∧ _
    rw [if_neg (by decide), mbw_s, e2, mbw_s, mI_e, if_pos rfl, if_neg (by decide)]
    exact ⟨_, rfl, Inv_eqK (eqK_i (by omega)) hI⟩
theorem ref_cube {d : Nat} {M : mM} (hd : d < 8) (h : iS d M) : (f_X6_refusalOfCube (80 + 2 * d) M = 0 ∧ f_X10_lacksCube (nI d) M = some 0 ∧ M.1 108 d = 1) ∨ (f_X6_refusalOfCube (80 + 2 * d) M = -11 ∧ f_X10_lacksCube (nI d) M = some (-11)) ∨ (f_X6_refusalOfCube (80 + 2 * d) M = -12 ∧ f_X10_lacksCube (nI d) M = some (-12)) := by
  obtain ⟨g1, g2⟩ := shelf_h hd
  unfold f_X6_refusalOfCube f_X10_lacksCube
  rw [X10_isShelf_c, mbp_s, tf_y ⟨nle0 (by omega), (leL (m := 7) (by decide) (by omega)).mpr (show _ ≤ 7 by omega)⟩, if_neg (show ¬ (1 : Int32) = 0 by decide)]
  simp only [ncl (show d < 2147483648 by omega)]
  rw [mgd_s g1, mgd_s g1]
  rcases h with ⟨h1, h2⟩ | ⟨h1, h2, -⟩ | ⟨h1, s, N, q1, q2, q3, q4, -⟩
  · exact Or.inr (Or.inl ⟨by rw [h2, if_pos rfl], by rw [h1, if_pos rfl]⟩)
  · exact Or.inl ⟨by rw [h2]; decide, by rw [h1, if_neg (by decide), if_neg (by decide)], h1⟩
  · refine Or.inr (Or.inr ⟨?_, by rw [h1, if_neg (by decide), if_pos rfl]⟩)
    rw [q4, if_neg (show ¬ nI s = -2 from nneg (a := s) (m := 2) (by omega) (by decide) (by decide)), if_neg (show ¬ nI s = -1 from nneg (a := s) (m := 1) (by omega) (by decide) (by decide))]
theorem iS_cube {d : Nat} {M : mM} (h : iS d M) (h1 : M.1 108 d = 1) : isK (M.1 109 d) ∧ M.1 (80 + 2 * d) 3 = M.1 109 d ∧ 8 * M.1 (80 + 2 * d) 4 + M.1 (80 + 2 * d) 5 = M.1 110 d ∧ M.1 (80 + 2 * d) 6 = M.1 111 d ∧ is01 (M.1 112 d) ∧ M.1 (80 + 2 * d) 7 = M.1 112 d := by
  rcases h with ⟨h2, -⟩ | ⟨-, -, h⟩ | ⟨h2, -⟩
  · rw [h1] at h2; exact absurd h2 (by decide)
  · exact h
  · rw [h1] at h2; exact absurd h2 (by decide)
theorem op_sum {M : mM} {a1 : Int32} (hI : Inv M) : ∃ M', f_law_c31 a1 M = some M' ∧ Inv M' := by
  obtain ⟨-, -, hSh, -⟩ := id hI
  refine ⟨M, ?_, hI⟩
  unfold f_law_c31 f_X9_sum f_X10_sum
  rw [isShelf_c]
  by_cases h : 0 ≤ a1 ∧ a1 ≤ 7
  · obtain ⟨d, hd, rfl⟩ := i_shelf h
    obtain ⟨g1, g2⟩ := shelf_h hd
    rw [tf_y h, if_neg (show ¬ (1 : Int32) = 0 by decide), g2]
    simp only [mlt_s, ncl (show d < 2147483648 by omega)]
    rw [mgd_s g1, mgd_s g1]
    rcases ref_cube hd (hSh d hd) with ⟨r1, r2, r3⟩ | ⟨r1, r2⟩ | ⟨r1, r2⟩
    · obtain ⟨k1, k2, k3, k4, k5, k6⟩ := iS_cube (hSh d hd) r3
      rw [r1, if_pos (by decide), r2, mbp_s (v := (0 : Int32)), if_pos (show (0 : Int32) = 0 from rfl), mgd_s g1]
      unfold f_X6_sumOfCube f_X6_sumOfCube_b32 f_X6_sumOfCube_b48 f_X6_sumOfCube_b64 f_X10_sum_b46 f_X10_sum_b68
      rw [k2, k4]
      simp only [ncl (show d < 2147483648 by omega)]
      generalize M.1 111 d = w
      rcases k1 with e | e | e | e
      · rw [e]
        simp only [mlt_s]
        rw [mgd_s (by decide), mgd_s (by decide), if_neg (by decide), if_neg (by decide), if_neg (by decide), if_neg (by decide), mbp_s, mbp_s, if_neg (by decide), if_pos (by decide), if_neg (by decide), mbp_s, if_pos (by decide)]
      · rw [e]
        simp only [mlt_s]
        rw [mgd_s (by decide), mgd_s (by decide), if_pos trivial, if_neg (by decide), if_neg (by decide), if_neg (by decide), mbp_s, mbp_s, if_pos trivial, if_pos (by decide), if_neg (by decide), mbp_s, if_pos (by decide)]
      · rw [e]
        simp only [mlt_s]
        rw [mgd_s (by decide), mgd_s (by decide), if_neg (by decide), if_pos trivial, mgd_s (by decide), if_neg (by decide), mbp_s, mbp_s, if_neg (by decide), if_neg (by decide), mgd_s g1, if_neg (by decide), mbp_s, if_pos]
        show (100 + 3 + 4 : Int32) + (1 + w) = 100 + 3 + 4 + 0 + (1 + w)
        grind
      · rw [e]
        simp only [mlt_s]
        rw [mgd_s (by decide), mgd_s (by decide), if_neg (by decide), if_neg (by decide), if_pos trivial, mgd_s (by decide), if_pos trivial, mbp_s, mbp_s, if_neg (by decide), if_neg (by decide), mgd_s g1, if_pos trivial, mbp_s, if_pos]
        show 2 * ((100 + 6 + 2 : Int32) + (1 + w)) = 2 * (100 + 6 + 2 + 0 + (1 + w))
        grind
    · rw [r1, if_neg neg_11, mbp_s, r2, mbp_s, if_neg (by decide), mbp_s, mbp_s, if_pos rfl]
    · rw [r1, if_neg neg_12, mbp_s, r2, mbp_s, if_neg (by decide), mbp_s, mbp_s, if_pos rfl]
  · have e : f_X10_lacksCube a1 M = some (-1) := by
      unfold f_X10_lacksCube
      rw [X10_isShelf_c, mbp_s, tf_n h, if_pos (show (0 : Int32) = 0 from rfl)]
    rw [tf_n h, if_pos (show (0 : Int32) = 0 from rfl), mbp_s, e, mbp_s, if_neg (by decide), mbp_s, mbp_s, if_pos rfl]
theorem op_toss {M : mM} {a1 : Int32} (hI : Inv M) : ∃ M', f_law_c32 a1 M = some M' ∧ Inv M' := by
  obtain ⟨-, -, hSh, -⟩ := id hI
  refine ⟨M, ?_, hI⟩
  unfold f_law_c32 f_X9_toss f_X10_toss
  rw [isShelf_c]
  by_cases h : 0 ≤ a1 ∧ a1 ≤ 7
  · obtain ⟨d, hd, rfl⟩ := i_shelf h
    obtain ⟨g1, g2⟩ := shelf_h hd
    rw [tf_y h, if_neg (show ¬ (1 : Int32) = 0 by decide), g2]
    simp only [mlt_s, ncl (show d < 2147483648 by omega)]
    rw [mgd_s g1, mgd_s g1]
    rcases ref_cube hd (hSh d hd) with ⟨r1, r2, r3⟩ | ⟨r1, r2⟩ | ⟨r1, r2⟩
    · obtain ⟨k1, k2, k3, k4, k5, k6⟩ := iS_cube (hSh d hd) r3
      rw [r1, if_pos (by decide), r2, mbp_s (v := (0 : Int32)), if_pos (show (0 : Int32) = 0 from rfl), mgd_s g1, mgd_s g1, mgd_s g1, mgd_s g1, mbp_s]
      unfold f_X9_caughtFailure f_X6_throws f_X6_placeOfCube
      rw [k2, k3, k6]
      generalize M.1 110 d = w
      generalize M.1 109 d = v at k1
      generalize M.1 112 d = q at k5
      have thr : (if q = 0 then (if v = 3 then 1 else if v = 1 then 2 else if v = 2 then 2 else 0) else 0 : Int32) = (if v = 0 then 0 else if q = 1 then 0 else if v = 3 then 1 else 2) := by
        rcases k1 with rfl | rfl | rfl | rfl <;> rcases k5 with rfl | rfl <;> decide
      rw [thr]
      by_cases e0 : v = 0
      · rw [if_pos e0, mbp_s, if_pos e0, if_neg (show ¬ (0 : Int32) = 1 by decide), if_neg (show ¬ (0 : Int32) = 2 by decide), if_pos rfl]
      by_cases e1 : q = 1
      · rw [if_neg e0, if_pos e1, mbp_s, if_neg e0, if_pos e1, if_neg (show ¬ (0 : Int32) = 1 by decide), if_neg (show ¬ (0 : Int32) = 2 by decide), if_pos rfl]
      by_cases e3 : v = 3
      · rw [if_neg e0, if_neg e1, if_pos e3, mbp_s, if_neg e0, if_neg e1, if_pos e3, if_pos (show (1 : Int32) = 1 from rfl), if_pos rfl]
      · rw [if_neg e0, if_neg e1, if_neg e3, mbp_s, if_neg e0, if_neg e1, if_neg e3, if_neg (show ¬ (2 : Int32) = 1 by decide), if_pos (show (2 : Int32) = 2 from rfl), if_pos (show w = w + 0 by grind)]
    · rw [r1, if_neg neg_11, mbp_s, r2, mbp_s, if_neg (by decide), mbp_s, mbp_s, if_pos rfl]
    · rw [r1, if_neg neg_12, mbp_s, r2, mbp_s, if_neg (by decide), mbp_s, mbp_s, if_pos rfl]
  · have e : f_X10_lacksCube a1 M = some (-1) := by
      unfold f_X10_lacksCube
      rw [X10_isShelf_c, mbp_s, tf_n h, if_pos (show (0 : Int32) = 0 from rfl)]
    rw [tf_n h, if_pos (show (0 : Int32) = 0 from rfl), mbp_s, e, mbp_s, if_neg (by decide), mbp_s, mbp_s, if_pos rfl]
