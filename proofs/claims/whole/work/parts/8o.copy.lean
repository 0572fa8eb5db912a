/-! copy -/
theorem copy_1 {d i n j : Nat} {M : mM} {e2 e3 : Int32} (hd : d < 8) (hi : i + n ≤ 90) (m : Nat) : ∀ k L, k + m = n → (∀ q, q < k → L q = M.1 115 (90 * d + i + q)) → ∃ L', (∀ q, q < n → L' q = M.1 115 (90 * d + i + q)) ∧ f_X10_copy_b124 (j + m + 1) (nI d) (nI i) e2 e3 (nI n) (nI k) (sR M 116 L) = f_X10_copy_b161 mN e2 e3 (nI n) 0 (sR M 116 L') := by
  induction m with
  | zero =>
    intro k L hk hL
    refine ⟨L, fun q hq => hL q (by omega), ?_⟩
    rw [f_X10_copy_b124, if_pos ((nle (by omega) (by omega)).mpr (by omega))]
  | succ m ih =>
    intro k L hk hL
    obtain ⟨L', l1, l2⟩ := ih (k + 1) (up L k (M.1 115 (90 * d + i + k))) (by omega) (fun q hq => by
      by_cases e : q = k
      · rw [e, up_e]
      · rw [up_n e]; exact hL q (by omega))
    refine ⟨L', l1, ?_⟩
    rw [f_X10_copy_b124, if_neg (fun q => by have := (nle (by omega) (by omega)).mp q; omega), lmul, nadd, nadd, mgd_s ((nin (by omega)).mpr (by omega)), mgd_s ((nin (by omega)).mpr (by omega)), ncl (by omega), ncl (by omega), sR_n (by omega), mI_R, mlt_s, nI_1, mlt_s]
    exact l2
theorem copy_2 {e i n j : Nat} {M : mM} (he : e < 8) (hi : i + n ≤ 90) (m : Nat) : ∀ k L, k + m = n → (∀ q, q < k → L (90 * e + i + q) = M.1 116 q) → (∀ q, ¬ (90 * e + i ≤ q ∧ q < 90 * e + i + n) → L q = M.1 115 q) → ∃ L', (∀ q, q < n → L' (90 * e + i + q) = M.1 116 q) ∧ (∀ q, ¬ (90 * e + i ≤ q ∧ q < 90 * e + i + n) → L' q = M.1 115 q) ∧ f_X10_copy_b161 (j + m + 1) (nI e) (nI i) (nI n) (nI k) (sR M 115 L) = some (nI n, sR M 115 L') := by
  induction m with
  | zero =>
    intro k L hk hL hq
    refine ⟨L, fun q hq => hL q (by omega), hq, ?_⟩
    rw [f_X10_copy_b161, if_pos ((nle (by omega) (by omega)).mpr (by omega))]
  | succ m ih =>
    intro k L hk hL hq
    obtain ⟨L', l1, l2, l3⟩ := ih (k + 1) (up L (90 * e + i + k) (M.1 116 k)) (by omega) (fun q hq => by
      by_cases c : q = k
      · rw [c, up_e]
      · rw [up_n (by omega)]; exact hL q (by omega)) (fun q h => by rw [up_n (by omega)]; exact hq q h)
    refine ⟨L', l1, l2, ?_⟩
    rw [f_X10_copy_b161, if_neg (fun q => by have := (nle (by omega) (by omega)).mp q; omega), lmul, nadd, nadd, mgd_s ((nin (by omega)).mpr (by omega)), mgd_s ((nin (by omega)).mpr (by omega)), ncl (by omega), ncl (by omega), sR_n (by omega), mI_R, mlt_s, nI_1, mlt_s]
    exact l3
theorem hasPlaces_c {d N : Nat} {i n : Int32} {M : mM} (hN : N ≤ 90) (h : M.1 (80 + 2 * d) 1 = nI N) : f_X6_hasPlaces (80 + 2 * d) i n M = tf (0 ≤ i ∧ 0 ≤ n ∧ n ≤ nI N - i) := by
  unfold f_X6_hasPlaces
  rw [h]
  by_cases e : 0 ≤ i ∧ 0 ≤ n ∧ n ≤ nI N - i
  · rw [tf_y e]; grind
  · rw [tf_n e]; grind
theorem holds_c {d : Nat} {M : mM} (h : iS d M) : (M.1 (80 + 2 * d) 0 = -2) ↔ M.1 108 d = 0 := by
  rcases h with ⟨h1, h2⟩ | ⟨h1, h2, -⟩ | ⟨h1, s, N, q1, q2, q3, q4, -⟩
  · rw [h1, h2]; decide
  · rw [h1, h2]; decide
  · rw [h1, q4]
    constructor
    · intro q; exact absurd q (nneg (a := s) (m := 2) (by omega) (by decide) (by decide))
    · intro q; exact absurd q (by decide)
theorem op_copy {M : mM} {a1 a2 a3 a4 a5 : Int32} (hI : Inv M) : ∃ M', f_law_c30 a1 a2 a3 a4 a5 M = some M' ∧ Inv M' := by
  obtain ⟨-, -, hSh, -⟩ := id hI
  unfold f_law_c30
  by_cases h : (0 ≤ a1 ∧ a1 ≤ 7) ∧ 0 ≤ a3 ∧ a3 ≤ 7
  · obtain ⟨h, h'⟩ := h
    obtain ⟨d, hd, rfl⟩ := i_shelf h
    obtain ⟨e, he, rfl⟩ := i_shelf h'
    obtain ⟨g1, g2⟩ := shelf_h hd
    obtain ⟨g3, g4⟩ := shelf_h he
    have cl : f_X9_copy (nI d) a2 (nI e) a4 a5 M = if M.1 (80 + 2 * d) 0 = -2 then some (-11, M) else if M.1 (80 + 2 * e) 0 = -2 then some (-11, M) else if f_X6_isRow (80 + 2 * d) M = 0 then some (-12, M) else if f_X6_isRow (80 + 2 * e) M = 0 then some (-12, M) else if M.1 (80 + 2 * d) 0 = M.1 (80 + 2 * e) 0 then (if f_X6_hasPlaces (80 + 2 * d) a2 a5 M = 0 then some (-13, M) else if f_X6_hasPlaces (80 + 2 * e) a4 a5 M = 0 then some (-13, M) else mgd (¬ a2 < 0 ∧ ¬ a4 < 0 ∧ ¬ a5 < 0 ∧ (Int32.toNatClampNeg a2) + (Int32.toNatClampNeg a5) ≤ 90 ∧ (Int32.toNatClampNeg a4) + (Int32.toNatClampNeg a5) ≤ 90) (some (a5, mC M (80 + 2 * d + 1) (80 + 2 * e + 1) (Int32.toNatClampNeg a2) (Int32.toNatClampNeg a4) (Int32.toNatClampNeg a5)))) else some (-12, M) := by
      unfold f_X9_copy
      rw [isShelf_c, tf_y h, if_neg (show ¬ (1 : Int32) = 0 by decide), isShelf_c, tf_y h', if_neg (show ¬ (1 : Int32) = 0 by decide), g2, g4]
      simp only [mlt_s]
      rw [mgd_s g1, mgd_s g3]
    have rf : ∀ M1 : mM, f_X10_copy (nI d) a2 (nI e) a4 a5 M1 = if M1.1 108 d = 0 then some (-11, M1) else if M1.1 108 e = 0 then some (-11, M1) else if M1.1 108 d = 2 then (if M1.1 108 e = 2 then (if M1.1 113 d = M1.1 113 e then (if a5 < 0 then some (-13, M1) else if a2 < 0 then some (-13, M1) else if a4 < 0 then some (-13, M1) else if (M1.1 114 d) - a5 < a2 then some (-13, M1) else if a4 ≤ M1.1 114 e - a5 then f_X10_copy_b124 mN (nI d) a2 (nI e) a4 a5 0 M1 else some (-13, M1)) else some (-12, M1)) else some (-12, M1)) else some (-12, M1) := fun M1 => by
      unfold f_X10_copy
      rw [X10_isShelf_c, mbp_s, tf_y h, if_neg (show ¬ (1 : Int32) = 0 by decide), X10_isShelf_c, mbp_s, tf_y h', if_neg (show ¬ (1 : Int32) = 0 by decide)]
      simp only [ncl (show d < 2147483648 by omega), ncl (show e < 2147483648 by omega)]
      rw [mgd_s g1, mgd_s g3, mgd_s g1, mgd_s g3, mgd_s g1, mgd_s g3, mgd_s g1, mgd_s g3]
    have no : ∀ v : Int32, f_X9_copy (nI d) a2 (nI e) a4 a5 M = some (v, M) → f_X10_copy (nI d) a2 (nI e) a4 a5 M = some (v, M) → ∃ M', (mbw (f_X9_copy (nI d) a2 (nI e) a4 a5 M) fun v1307 M1307 => mbw (f_X10_copy (nI d) a2 (nI e) a4 a5 M1307) fun v1341 M1341 => if v1307 = v1341 then some M1341 else none) = some M' ∧ Inv M' := fun v c1 c2 => by
      rw [c1, mbw_s, c2, mbw_s, if_pos rfl]
      exact ⟨M, rfl, hI⟩
    have rf0 := rf M
    have k1 := holds_c (hSh d hd)
    have k2 := holds_c (hSh e he)
    by_cases c1 : M.1 108 d = 0
    · exact no (-11) (by rw [cl, if_pos (k1.mpr c1)]) (by rw [rf0, if_pos c1])
    rw [if_neg (fun q => c1 (k1.mp q))] at cl
    rw [if_neg c1] at rf0
    by_cases c2 : M.1 108 e = 0
    · exact no (-11) (by rw [cl, if_pos (k2.mpr c2)]) (by rw [rf0, if_pos c2])
    rw [if_neg (fun q => c2 (k2.mp q)), isRow_c (hSh d hd), isRow_c (hSh e he)] at cl
    rw [if_neg c2] at rf0
    by_cases c3 : M.1 108 d = 2
    · by_cases c4 : M.1 108 e = 2
      · obtain ⟨s, N, n90, s2, x1, x2, x3, x4, x5, x6⟩ := iS_row (hSh d hd) c3
        obtain ⟨s', N', n90', s2', y1, y2, y3, y4, y5, y6⟩ := iS_row (hSh e he) c4
        have t1 := nI_ti (k := N) (by omega)
        have t2 := nI_ti (k := N') (by omega)
        rw [tf_y c3, if_neg (show ¬ (1 : Int32) = 0 by decide), tf_y c4, if_neg (show ¬ (1 : Int32) = 0 by decide), x3, y3, hasPlaces_c n90 x5, hasPlaces_c n90' y5] at cl
        rw [if_pos c3, if_pos c4, x2, y2, x4, y4] at rf0
        by_cases c5 : nI s = nI s'
        · rw [if_pos c5] at cl rf0
          by_cases c6 : (0 ≤ a2 ∧ 0 ≤ a5 ∧ a5 ≤ nI N - a2) ∧ 0 ≤ a4 ∧ 0 ≤ a5 ∧ a5 ≤ nI N' - a4
          · obtain ⟨i, hi, rfl⟩ := i_nat c6.1.1
            obtain ⟨n, hn, rfl⟩ := i_nat c6.1.2.1
            obtain ⟨j, hj, rfl⟩ := i_nat c6.2.1
            have z1 := nI_ti hi
            have z2 := nI_ti hn
            have z3 := nI_ti hj
            have w1 : i + n ≤ N := by have := c6.1.2.2; grind
            have w2 : j + n ≤ N' := by have := c6.2.2.2; grind
            rw [tf_y c6.1, if_neg (show ¬ (1 : Int32) = 0 by decide), tf_y c6.2, if_neg (show ¬ (1 : Int32) = 0 by decide), ncl hi, ncl hj, ncl hn, mgd_s ⟨nlt0 hi, nlt0 hj, nlt0 hn, by omega, by omega⟩] at cl
            rw [cl, mbw_s]
            generalize hM1 : mC M (80 + 2 * d + 1) (80 + 2 * e + 1) i j n = M1
            have q1 : ∀ q, q ≠ 80 + 2 * e + 1 → M1.1 q = M.1 q := fun q hq => by
              rw [← hM1]
              funext b
              show (if q = 80 + 2 * e + 1 ∧ j ≤ b ∧ b < j + n then _ else M.1 q b) = _
              rw [if_neg (fun k => hq k.1)]
            have q2 : ∀ b, M1.1 (80 + 2 * e + 1) b = if j ≤ b ∧ b < j + n then M.1 (80 + 2 * d + 1) (i + (b - j)) else M.1 (80 + 2 * e + 1) b := fun b => by
              rw [← hM1]
              show (if 80 + 2 * e + 1 = 80 + 2 * e + 1 ∧ j ≤ b ∧ b < j + n then _ else M.1 (80 + 2 * e + 1) b) = _
              by_cases k : j ≤ b ∧ b < j + n
              · rw [if_pos ⟨rfl, k⟩, if_pos k]
              · rw [if_neg (fun q => k q.2), if_neg k]
            obtain ⟨m, hm⟩ := mN_ge (k := n + 1) (by omega)
            have hm : mN = m + n + 1 := by omega
            obtain ⟨L, l1, l2⟩ := copy_1 (j := m) (M := M1) (e2 := nI e) (e3 := nI j) hd (show i + n ≤ 90 by omega) n 0 (M1.1 116) (Nat.zero_add _) (fun q hq => absurd hq (Nat.not_lt_zero q))
            obtain ⟨R, r1, r2, r3⟩ := copy_2 (j := m) (M := sR M1 116 L) he (show j + n ≤ 90 by omega) n 0 ((sR M1 116 L).1 115) (Nat.zero_add _) (fun q hq => absurd hq (Nat.not_lt_zero q)) (fun q _ => rfl)
            rw [sR_self] at l2 r3
            rw [← hm] at l2 r3
            have l2 : f_X10_copy_b124 mN (nI d) (nI i) (nI e) (nI j) (nI n) 0 M1 = _ := l2
            have r3 : f_X10_copy_b161 mN (nI e) (nI j) (nI n) 0 (sR M1 116 L) = _ := r3
            rw [rf M1, q1 108 (by omega), q1 113 (by omega), q1 114 (by omega), if_neg c1, if_neg c2, if_pos c3, if_pos c4, x2, y2, if_pos c5, if_neg (nlt0 hn), if_neg (nlt0 hi), if_neg (nlt0 hj), x4, y4, if_neg (show ¬ nI N - nI n < nI i by grind), if_pos (show nI j ≤ nI N' - nI n by grind), l2, r3, mbw_s, if_pos rfl]
            have fr : ∀ q, q ≠ 80 + 2 * e + 1 → q ≠ 115 → q ≠ 116 → (sR (sR M1 116 L) 115 R).1 q = M.1 q := fun q a b c => by rw [sR_n b, sR_n c, q1 q a]
            refine ⟨_, rfl, Inv_shf hI (fun q a b c => fr q (by omega) (by omega) (by omega)) (by rw [fr 96 (by omega) (by omega) (by omega)]) (by rw [← hM1]; rfl) (fun d' hd' => ?_)⟩
            by_cases c : d' = e
            · subst c
              refine Or.inr (Or.inr ⟨by rw [fr 108 (by omega) (by omega) (by omega)]; exact y1, s', N', s2', n90', by rw [fr 113 (by omega) (by omega) (by omega)]; exact y2, by rw [fr _ (by omega) (by omega) (by omega)]; exact y3, by rw [fr 114 (by omega) (by omega) (by omega)]; exact y4, by rw [fr _ (by omega) (by omega) (by omega)]; exact y5, fun k hk => ?_⟩)
              rw [sR_n (by omega), sR_n (by omega), q2 k, sR_e]
              by_cases b : j ≤ k ∧ k < j + n
              · obtain ⟨o, rfl⟩ : ∃ o, k = j + o := ⟨k - j, by omega⟩
                have e5 : s = s' := (neq (by omega) (by omega)).mp c5
                have x7 := x6 (i + o) (by omega)
                rw [if_pos b, show j + o - j = o by omega, show 90 * d' + (j + o) = 90 * d' + j + o by omega, r1 o (by omega), sR_e, l1 o (by omega), q1 115 (by omega), show 90 * d + i + o = 90 * d + (i + o) by omega, ← e5]
                exact x7
              · rw [if_neg b, r2 _ (by omega), sR_n (by omega), q1 115 (by omega)]
                exact y6 k hk
            · refine iS_fr2 (fr _ (by omega) (by omega) (by omega)) (fr _ (by omega) (by omega) (by omega)) (fun q a b => by rw [fr q (by omega) (by omega) (by omega)]) (fun k hk => ?_) (hSh d' hd')
              rw [sR_e, r2 _ (by omega), sR_n (by omega), q1 115 (by omega)]
          · refine no (-13) ?_ ?_
            · rw [cl]
              by_cases b1 : 0 ≤ a2 ∧ 0 ≤ a5 ∧ a5 ≤ nI N - a2
              · rw [tf_y b1, if_neg (show ¬ (1 : Int32) = 0 by decide), tf_n (fun q => c6 ⟨b1, q⟩), if_pos (show (0 : Int32) = 0 from rfl)]
              · rw [tf_n b1, if_pos (show (0 : Int32) = 0 from rfl)]
            · rw [rf0]
              by_cases b1 : a5 < 0
              · rw [if_pos b1]
              rw [if_neg b1]
              by_cases b2 : a2 < 0
              · rw [if_pos b2]
              rw [if_neg b2]
              by_cases b3 : a4 < 0
              · rw [if_pos b3]
              rw [if_neg b3]
              by_cases b4 : nI N - a5 < a2
              · rw [if_pos b4]
              rw [if_neg b4]
              by_cases b5 : a4 ≤ nI N' - a5
              · exact absurd ⟨⟨by grind, by grind, by grind⟩, by grind, by grind, by grind⟩ c6
              · rw [if_neg b5]
        · exact no (-12) (by rw [cl, if_neg c5]) (by rw [rf0, if_neg c5])
      · exact no (-12) (by rw [cl, tf_y c3, if_neg (show ¬ (1 : Int32) = 0 by decide), tf_n c4, if_pos (show (0 : Int32) = 0 from rfl)]) (by rw [rf0, if_pos c3, if_neg c4])
    · exact no (-12) (by rw [cl, tf_n c3, if_pos (show (0 : Int32) = 0 from rfl)]) (by rw [rf0, if_neg c3])
  · refine ⟨M, ?_, hI⟩
    unfold f_X9_copy f_X10_copy
    rw [isShelf_c, isShelf_c, X10_isShelf_c, X10_isShelf_c]
    by_cases h1 : 0 ≤ a1 ∧ a1 ≤ 7
    · rw [tf_y h1, if_neg (show ¬ (1 : Int32) = 0 by decide), tf_n (fun q => h ⟨h1, q⟩), if_pos (show (0 : Int32) = 0 from rfl), mbw_s, mbp_s, if_neg (show ¬ (1 : Int32) = 0 by decide), mbp_s, if_pos (show (0 : Int32) = 0 from rfl), mbw_s, if_pos rfl]
    · rw [tf_n h1, if_pos (show (0 : Int32) = 0 from rfl), mbw_s, mbp_s, if_pos (show (0 : Int32) = 0 from rfl), mbw_s, if_pos rfl]
