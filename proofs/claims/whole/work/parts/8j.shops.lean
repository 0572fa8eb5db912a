/-! SHAPES: fault, shape, in -/
theorem sh_init {M : mM} (h : M.1 96 10 = nI 0) : mI M 96 16 0 = shQ M 0 0 (M.1 96 12) (M.1 102) (M.1 103) (M.1 104) := by
  refine mM_ext (fun a i => ?_) rfl
  rw [mI_at]
  by_cases h1 : a = 96
  · subst h1
    by_cases h2 : i = 10
    · subst h2; rw [if_neg (by decide), sh_10, h]
    · by_cases h3 : i = 16
      · subst h3; rw [if_pos ⟨rfl, rfl⟩, sh_16]; rfl
      · rw [if_neg (fun q => h3 q.2)]
        by_cases h4 : i = 12
        · subst h4; rw [sh_12]
        · rw [sh_j ⟨h2, h3, h4⟩]
  · rw [if_neg (fun q => h1 q.1)]
    by_cases h2 : a = 102
    · subst h2; rw [sh_S]
    · by_cases h3 : a = 103
      · subst h3; rw [sh_U]
      · by_cases h4 : a = 104
        · subst h4; rw [sh_G]
        · rw [sh_k ⟨h1, h2, h3, h4⟩]
/-- only the reader's own places differ -/
def eqR (M M' : mM) : Prop := (∀ k, k ≠ 96 → k ≠ 102 → k ≠ 103 → k ≠ 104 → M'.1 k = M.1 k) ∧ (∀ j, j < 8 ∨ (j ≠ 8 ∧ j ≠ 9 ∧ j ≠ 10 ∧ j ≠ 11 ∧ j ≠ 12 ∧ j ≠ 16 ∧ j < 17) ∨ 23 ≤ j → M'.1 96 j = M.1 96 j) ∧ M'.2 = M.2
theorem eqR_rf {M : mM} : eqR M M := ⟨fun _ _ _ _ _ => rfl, fun _ _ => rfl, rfl⟩
theorem eqR_tr {M M' M2 : mM} (h : eqR M M') (h2 : eqR M' M2) : eqR M M2 := ⟨fun k a b c d => (h2.1 k a b c d).trans (h.1 k a b c d), fun j hj => (h2.2.1 j hj).trans (h.2.1 j hj), h2.2.2.trans h.2.2⟩
theorem eqR_K {M M' : mM} (h : eqR M M') : eqK M M' := ⟨fun q hq => h.1 q (by omega) (by omega) (by omega) (by omega), h.2.1 3 (by omega), by rw [h.2.2], by rw [h.2.2]⟩
/-- the text that is to be read: one that was brought, or one that is kept -/
def tx0 (M : mM) (i : Int32) (N : Nat) (T : Nat → Int32) : Prop := N ≤ 90 ∧ ((i = -1 ∧ M.1 96 7 = nI N ∧ ∀ k, k < N → M.1 101 k = T k) ∨ ∃ j, j < 16 ∧ i = nI j ∧ M.1 97 (138 + j) = nI N ∧ ∀ k, k < N → M.1 97 (154 + 90 * j + k) = T k)
theorem X10_begin {M : mM} {i : Int32} {N : Nat} {T : Nat → Int32} (h : tx0 M i N T) : ∃ M', f_X10_begin i M = some M' ∧ rtx M' N T ∧ M'.1 96 10 = nI 0 ∧ eqR M M' ∧ (∀ k, k ≠ 96 → M'.1 k = M.1 k) ∧ ∀ j, 12 ≤ j → M'.1 96 j = M.1 96 j := by
  obtain ⟨hN, h⟩ := h
  rcases h with ⟨rfl, h1, h2⟩ | ⟨j, hj, rfl, h1, h2⟩
  · refine ⟨mI (mI (mI (mI M 96 11 1) 96 8 0) 96 9 (nI N)) 96 10 0, ?_, ⟨by simp (disch := omega) only [mI_n, mI_ne]; exact mI_e, hN, Or.inr ⟨?_, fun k hk => by simp (disch := omega) only [mI_n, mI_ne]; exact h2 k hk⟩⟩, mI_e, ⟨fun k a b c d => by simp (disch := omega) only [mI_n, mI_ne], fun j hj => by simp (disch := omega) only [mI_n, mI_ne], rfl⟩, fun k hk => by simp (disch := omega) only [mI_n, mI_ne], fun j hj => by simp (disch := omega) only [mI_n, mI_ne]⟩
    · unfold f_X10_begin f_X10_begin_b10 f_X10_begin_b33 f_X10_begin_b61
      rw [if_neg (by decide), mgd_s (Or.inr rfl), mlt_s, mI_e, if_neg (by decide), mlt_s, mI_n (by omega), mI_e, if_neg (by decide), mI_n (by omega), mI_n (by omega), h1, mlt_s, mlt_s]
    · rw [show (mI (mI (mI (mI M 96 11 1) 96 8 0) 96 9 (nI N)) 96 10 0).1 96 11 = 1 by simp (disch := omega) only [mI_n, mI_ne]; exact mI_e]; decide
  · refine ⟨mI (mI (mI (mI M 96 11 0) 96 8 (nI (154 + 90 * j))) 96 9 (nI N)) 96 10 0, ?_, ⟨by simp (disch := omega) only [mI_n, mI_ne]; exact mI_e, hN, Or.inl ⟨by simp (disch := omega) only [mI_n, mI_ne]; exact mI_e, 154 + 90 * j, by simp (disch := omega) only [mI_n, mI_ne]; exact mI_e, by omega, fun k hk => by simp (disch := omega) only [mI_n, mI_ne]; exact h2 k hk⟩⟩, mI_e, ⟨fun k a b c d => by simp (disch := omega) only [mI_n, mI_ne], fun j hj => by simp (disch := omega) only [mI_n, mI_ne], rfl⟩, fun k hk => by simp (disch := omega) only [mI_n, mI_ne], fun j hj => by simp (disch := omega) only [mI_n, mI_ne]⟩
    unfold f_X10_begin f_X10_begin_b10 f_X10_begin_b33 f_X10_begin_b61
    rw [if_pos (nle0 (by omega)), mgd_s (Or.inl rfl), mlt_s, mI_e, if_pos rfl, mlt_s, mI_n (by omega), mI_e, if_pos rfl, ladd, mgd_s ((nin (by omega)).mpr (by omega)), ncl (by omega), mI_n (by omega), mI_n (by omega), h1, mlt_s, mlt_s, lmul, ladd]
theorem X10_goes_shape {M : mM} {i : Int32} {N xx yy : Nat} {T : Nat → Int32} (h : tx0 M i N T) (hx : xx < 10) (hy : yy < 8) : ∃ M', f_X10_goesShape i (nI xx) (nI yy) M = some (bI (tSh (lk T N) N).2.1, M') ∧ eqR M M' ∧ M'.1 96 10 = nI (tSh (lk T N) N).1 ∧ ((tSh (lk T N) N).2.1 = true → M'.1 102 0 = bI ((tSh (lk T N) N).2.2 (10 * yy + xx))) := by
  obtain ⟨M1, b1, b2, b3, b4, b5, b6⟩ := X10_begin h
  obtain ⟨d', td', S', U', G', e1, e2⟩ := X10_shape_lp (td := M1.1 96 12) (S := up (M1.1 102) 0 0) (U := up (M1.1 103) 0 0) (G := up (M1.1 104) 0 0) b2 hx hy up_e up_e up_e
  unfold f_X10_goesShape
  rw [b1, mbp_s, sh_init b3, mlt_s, X10_openD (by decide), mbp_s, e1]
  refine ⟨_, rfl, eqR_tr b4 ⟨fun k a b c d => sh_k ⟨a, b, c, d⟩, fun j hj => sh_j (by omega), rfl⟩, sh_10, fun q => ?_⟩
  rw [sh_S]
  exact e2 q
/-! what lies on a SHELF -/
theorem row_d {d : Nat} (hd : d < 8) : isRow (80 + 2 * d + 1) ∧ 80 + 2 * d + 1 ≠ 76 ∧ 80 + 2 * d + 1 ≠ 77 ∧ 80 + 2 * d + 1 ≠ 78 := by
  have h : ∀ d, d < 8 → isRow (80 + 2 * d + 1) := by decide +kernel
  exact ⟨h d hd, by omega, by omega, by omega⟩
theorem shelf_h {d : Nat} (hd : d < 8) : mIn (nI d) 8 ∧ 80 + 2 * (nI d).toNatClampNeg = 80 + 2 * d := ⟨(nin (by omega)).mpr hd, by rw [ncl (by omega)]⟩
/-- a ROW of a SORT -/
def rowS (d s N : Nat) (M : mM) : Prop := N ≤ 90 ∧ s ≤ 2 ∧ M.1 108 d = 2 ∧ M.1 113 d = nI s ∧ M.1 (80 + 2 * d) 0 = nI s ∧ M.1 114 d = nI N ∧ M.1 (80 + 2 * d) 1 = nI N ∧ ∀ i, i < 90 → M.1 (80 + 2 * d + 1) i = M.1 115 (90 * d + i) ∧ (s = 0 → M.1 115 (90 * d + i) ≠ -1000)
theorem ref_row {d s : Nat} {M : mM} (hd : d < 8) (hs : s ≤ 1) (h : iS d M) : (f_X6_refusalOfRow (80 + 2 * d) (nI s) M = 0 ∧ ∃ N, rowS d s N M) ∨ (f_X6_refusalOfRow (80 + 2 * d) (nI s) M = -11 ∧ M.1 108 d = 0) ∨ (f_X6_refusalOfRow (80 + 2 * d) (nI s) M = -12 ∧ ¬ M.1 108 d = 0 ∧ ¬ (M.1 108 d = 2 ∧ M.1 113 d = nI s)) := by
  unfold f_X6_refusalOfRow f_X6_refusalOfRow_b37
  rw [if_neg (show ¬ nI s = 3 from fun q => by have : _ = 3 := (eqL (m := 3) (by decide) (by omega)).mp q; omega)]
  rcases h with ⟨h1, h2⟩ | ⟨h1, h2, -⟩ | ⟨h1, s', N, q1, q2, q3, q4, q5, q6, q7⟩
  · exact Or.inr (Or.inl ⟨by rw [h2, if_pos rfl], h1⟩)
  · refine Or.inr (Or.inr ⟨?_, by rw [h1]; decide, fun q => absurd (h1.symm.trans q.1) (by decide)⟩)
    rw [h2, if_neg (by decide), if_neg (fun q => nneg (a := s) (m := 1) (by omega) (by decide) (by decide) q.symm), if_pos rfl]
  · rw [q4, if_neg (show ¬ nI s' = -2 from nneg (a := s') (m := 2) (by omega) (by decide) (by decide))]
    by_cases e : s' = s
    · subst e
      exact Or.inl ⟨by rw [if_pos rfl, if_neg (by decide)], N, q2, q1, h1, q3, q4, q5, q6, q7⟩
    · refine Or.inr (Or.inr ⟨by rw [if_neg (fun q => e ((neq (by omega) (by omega)).mp q)), if_pos rfl], by rw [h1]; decide, fun q => e ?_⟩)
      rw [q3] at q
      exact (neq (by omega) (by omega)).mp q.2
theorem lacksText_c {d : Nat} {M : mM} (hd : d < 8) : f_X10_lacksText (nI d) M = some (if M.1 108 d = 0 then -11 else if M.1 108 d = 2 ∧ M.1 113 d = nI 0 then 0 else -12) := by
  unfold f_X10_lacksText
  rw [X10_is_y ⟨nle0 (by omega), (leL (m := 7) (by decide) (by omega)).mpr (show _ ≤ 7 by omega)⟩, if_neg (by decide)]
  simp only [ncl (show d < 2147483648 by omega)]
  rw [mgd_s (shelf_h hd).1]
  by_cases e : M.1 108 d = 0
  · rw [if_pos e, if_pos e]
  · rw [if_neg e, if_neg e, mgd_s (shelf_h hd).1]
    by_cases e2 : M.1 108 d = 2
    · rw [if_pos e2, mgd_s (shelf_h hd).1]
      by_cases e3 : M.1 113 d = 0
      · rw [if_pos e3, if_pos ⟨e2, e3⟩]
      · rw [if_neg e3, if_neg (fun q => e3 q.2)]
    · rw [if_neg e2, if_neg (fun q => e2 q.1)]
theorem bring_lp {d N j : Nat} {M : mM} (hd : d < 8) (hN : N ≤ 90) (h14 : M.1 114 d = nI N) (e : Nat) : ∀ i L, i + e = N → (∀ k, k < i → L k = M.1 115 (90 * d + k)) → ∃ L', f_X10_bring_b12 (j + e + 1) (nI d) (nI i) (sR M 101 L) = some (sR M 101 L') ∧ ∀ k, k < N → L' k = M.1 115 (90 * d + k) := by
  induction e with
  | zero =>
    intro i L hi hL
    refine ⟨L, ?_, fun k hk => hL k (by omega)⟩
    rw [f_X10_bring_b12, mgd_s (shelf_h hd).1, ncl (by omega), sR_n (by omega), h14, if_pos ((nle (by omega) (by omega)).mpr (by omega))]
  | succ e ih =>
    intro i L hi hL
    obtain ⟨L', l1, l2⟩ := ih (i + 1) (up L i (M.1 115 (90 * d + i))) (by omega) (fun k hk => by
      by_cases c : k = i
      · rw [c, up_e]
      · rw [up_n c]; exact hL k (by omega))
    refine ⟨L', ?_, l2⟩
    rw [f_X10_bring_b12, mgd_s (shelf_h hd).1, ncl (by omega), sR_n (by omega), h14, if_neg (fun q => by have := (nle (by omega) (by omega)).mp q; omega), lmul, nadd, mgd_s ((nin (by omega)).mpr (by omega)), mgd_s ((nin (by omega)).mpr (by omega)), ncl (by omega), ncl (by omega), sR_n (by omega), mI_R, mlt_s, nI_1, mlt_s]
    exact l1
theorem X10_bring {d N : Nat} {M : mM} (hd : d < 8) (hN : N ≤ 90) (h14 : M.1 114 d = nI N) : ∃ L, f_X10_bring (nI d) M = some (sR (mI M 96 7 (nI N)) 101 L) ∧ ∀ k, k < N → L k = M.1 115 (90 * d + k) := by
  obtain ⟨j, hj⟩ := mN_ge (k := N + 1) (by omega)
  have hj : mN = j + N + 1 := by omega
  have e : (mI M 96 7 (nI N)).1 115 = M.1 115 := mI_ne (by omega)
  obtain ⟨L', l1, l2⟩ := bring_lp (j := j) (M := mI M 96 7 (nI N)) hd hN (by rw [mI_ne (by omega)]; exact h14) N 0 ((mI M 96 7 (nI N)).1 101) (Nat.zero_add _) (fun k hk => absurd hk (Nat.not_lt_zero k))
  rw [e] at l2
  refine ⟨L', ?_, l2⟩
  unfold f_X10_bring
  rw [mgd_s (shelf_h hd).1, ncl (by omega), h14, mlt_s, hj]
  rw [sR_self] at l1
  exact l1
theorem eqK_b {M : mM} {N : Nat} {L : Nat → Int32} : eqK M (sR (mI M 96 7 (nI N)) 101 L) := eqK_tr (eqK_i (by omega)) (eqK_s (by omega))
theorem tx0_b {M : mM} {d N : Nat} {L : Nat → Int32} (hN : N ≤ 90) (hL : ∀ k, k < N → L k = M.1 115 (90 * d + k)) : tx0 (sR (mI M 96 7 (nI N)) 101 L) (-1) N (fun k => M.1 115 (90 * d + k)) := by
  refine ⟨hN, Or.inl ⟨rfl, ?_, fun k hk => ?_⟩⟩
  · rw [sR_n (by omega)]; exact mI_e
  · rw [sR_e]; exact hL k hk
/-- the class reads a SHELF's text -/
theorem X5_shelf {d N h : Nat} {M : mM} (hd : d < 8) (hh : h < 2) (hr : rowS d 0 N M) : ∃ C M', f_X5_cellsOf (80 + 2 * d) (nI h) M = some (C, M') ∧ eqK M M' ∧ (∀ k, k ≠ 77 → M'.1 k = M.1 k) ∧ M'.2.1 = M.2.1 ∧ M'.1 77 3 = (if (tSh (lk (fun k => M.1 115 (90 * d + k)) N) N).2.1 = true then -1 else nI (tSh (lk (fun k => M.1 115 (90 * d + k)) N) N).1) ∧ ((tSh (lk (fun k => M.1 115 (90 * d + k)) N) N).2.1 = true → bits C (fun z => (tSh (lk (fun k => M.1 115 (90 * d + k)) N) N).2.2 (40 * h + z) = true)) := by
  obtain ⟨hN, -, -, -, -, -, h1, hT⟩ := hr
  obtain ⟨r1, r2, r3, r4⟩ := row_d hd
  obtain ⟨C, M', e1, e2, e3, e4, e5⟩ := X5_cells r1 r3 (by omega) hN h1 (fun i hi => by
    obtain ⟨a, b⟩ := hT i (by omega)
    rw [a]; exact b rfl) hh
  rw [lk_cg (T := fun k => M.1 115 (90 * d + k)) (fun i hi => (hT i (by omega)).1)] at e4 e5
  exact ⟨C, M', e1, ⟨fun q hq => e2 q (by omega), by rw [e2 96 (by omega)], by rw [e3], by rw [e3]⟩, e2, e3, e4, e5⟩
theorem rowS_fr {d s N : Nat} {M M' : mM} (hB : ∀ q, q = 80 + 2 * d ∨ q = 80 + 2 * d + 1 ∨ (108 ≤ q ∧ q < 116) → M'.1 q = M.1 q) (h : rowS d s N M) : rowS d s N M' := by
  unfold rowS at h ⊢
  rw [hB (80 + 2 * d) (by omega), hB (80 + 2 * d + 1) (by omega), hB 108 (by omega), hB 113 (by omega), hB 114 (by omega), hB 115 (by omega)]
  exact h
theorem neg_11 : ¬ (0 : Int32) ≤ -11 := by decide
theorem neg_12 : ¬ (0 : Int32) ≤ -12 := by decide
/-- keepText -/
theorem keep_lp {N c t b j : Nat} {M : mM} (hc : c < 8) (hb : b + 90 ≤ 1834) (h8 : 8 < b) (hbt : (154 : Int32) + 90 * nI t = nI b) (hN : N ≤ 90) (h7 : M.1 96 7 = nI N) (v : Nat) (hv : v < 100) (e : Nat) : ∀ i R, i + e = N → R c = nI v → (∀ k, k < i → R (b + k) = M.1 101 k) → (∀ q, ¬ (b ≤ q ∧ q < b + 90) → R q = M.1 97 q) → ∃ R', f_X10_keepText_b16 (j + e + 1) (nI c) (nI t) (nI i) (sR M 97 R) = some (nI v, sR M 97 R') ∧ R' c = nI (v + 1) ∧ (∀ k, k < N → R' (b + k) = M.1 101 k) ∧ ∀ q, ¬ (b ≤ q ∧ q < b + 90) → q ≠ c → R' q = M.1 97 q := by
  induction e with
  | zero =>
    intro i R hi hR hL hq
    refine ⟨up R c (nI (v + 1)), ?_, up_e, fun k hk => ?_, fun q h1 h2 => ?_⟩
    · rw [f_X10_keepText_b16, sR_n (by omega), h7, if_pos ((nle (by omega) (by omega)).mpr (by omega))]
      simp only [ncl (show c < 2147483648 by omega)]
      rw [mgd_s ((nin (by omega)).mpr (by omega)), mgd_s ((nin (by omega)).mpr (by omega)), sR_e, hR, nI_1, mI_R, mlt_s, mgd_s ((nin (by omega)).mpr (by omega)), sR_e, up_e, show nI (v + 1) - 1 = nI v by rw [← nI_1]; grind]
    · rw [up_n (by omega)]; exact hL k (by omega)
    · rw [up_n h2]; exact hq q h1
  | succ e ih =>
    intro i R hi hR hL hq
    obtain ⟨R', r1, r2⟩ := ih (i + 1) (up R (b + i) (M.1 101 i)) (by omega) (by rw [up_n (by omega)]; exact hR) (fun k hk => by
      by_cases g : k = i
      · rw [g, up_e]
      · rw [up_n (by omega)]; exact hL k (by omega)) (fun q h1 => by rw [up_n (by omega)]; exact hq q h1)
    refine ⟨R', ?_, r2⟩
    rw [f_X10_keepText_b16, sR_n (by omega), h7, if_neg (fun q => by have := (nle (by omega) (by omega)).mp q; omega), hbt, nadd, mgd_s ((nin (by omega)).mpr (by omega)), mgd_s ((nin (by omega)).mpr (by omega)), ncl (by omega), ncl (by omega), sR_n (by omega), mI_R, mlt_s, nI_1, mlt_s]
    exact r1
theorem X10_keepText {N c t v : Nat} {M : mM} (hc : c < 8) (ht : t < 16) (hN : N ≤ 90) (h7 : M.1 96 7 = nI N) (hv : v < 100) (h0 : M.1 97 c = nI v) : ∃ R', f_X10_keepText (nI c) (nI t) M = some (nI v, sR M 97 R') ∧ R' c = nI (v + 1) ∧ R' (138 + t) = nI N ∧ (∀ k, k < N → R' (154 + 90 * t + k) = M.1 101 k) ∧ ∀ q, ¬ (154 + 90 * t ≤ q ∧ q < 154 + 90 * t + 90) → q ≠ c → q ≠ 138 + t → R' q = M.1 97 q := by
  obtain ⟨j, hj⟩ := mN_ge (k := N + 1) (by omega)
  have hj : mN = j + N + 1 := by omega
  have e : mI M 97 (138 + t) (nI N) = sR M 97 (up (M.1 97) (138 + t) (nI N)) := mI_sR
  obtain ⟨R', r1, r2, r3, r4⟩ := keep_lp (j := j) (c := c) (t := t) (b := 154 + 90 * t) (N := N) (M := sR M 97 (up (M.1 97) (138 + t) (nI N))) hc (by omega) (by omega) (by rw [lmul, ladd]) hN (by rw [sR_n (by omega)]; exact h7) v hv N 0 (up (M.1 97) (138 + t) (nI N)) (Nat.zero_add _) (by rw [up_n (by omega)]; exact h0) (fun k hk => absurd hk (Nat.not_lt_zero k)) (fun q _ => by rw [sR_e])
  rw [sR_sR, sR_sR] at r1
  refine ⟨R', ?_, r2, ?_, fun k hk => ?_, fun q h1 h2 h3 => ?_⟩
  · unfold f_X10_keepText
    rw [ladd, mgd_s ((nin (by omega)).mpr (by omega)), ncl (by omega), h7, e, mlt_s, hj]
    exact r1
  · rw [r4 (138 + t) (by omega) (by omega), sR_e, up_e]
  · rw [r3 k hk, sR_n (by omega)]
  · rw [r4 q h1 h2, sR_e, up_n h3]
theorem op_shape {M : mM} {a1 : Int32} (hI : Inv M) : ∃ M', f_law_c10 a1 M = some M' ∧ Inv M' := by
  obtain ⟨⟨K, hA, hG⟩, -, hSh, -⟩ := id hI
  obtain ⟨hC, hT, hV, hH, hP, hS, hN, hL, hO, hW⟩ := id hA
  have hn := hC.1.1
  have hs8 := hS.1
  unfold f_law_c10 f_X9_shape
  rw [isShelf_c]
  by_cases h : 0 ≤ a1 ∧ a1 ≤ 7
  · rw [tf_y h, if_neg (by decide), show M.1 1 6 = nI K.2.2.2.1 from hS.2.1]
    obtain ⟨d, hd, rfl⟩ := i_shelf h
    obtain ⟨g1, g2⟩ := shelf_h hd
    by_cases h8 : K.2.2.2.1 < 8
    · rw [if_pos ((ltL (m := 8) (by decide) (by omega)).mpr h8)]
      simp only [mlt_s, g2]
      rw [mgd_s g1, mgd_s g1]
      have en : ∀ M1 : mM, M1.1 97 1 = nI K.2.2.2.1 → f_X10_shape (nI d) M1 = mbp (f_X10_lacksText (nI d) M1) fun v29 => if v29 = 0 then (mbp (f_X10_bring (nI d) M1) fun M43 => mbw (f_X10_goesShape (-1) 0 0 M43) fun v50 M50 => if v50 = 0 then (some (((-100) - (M50.1 96 10)), M50)) else (mbw (f_X10_keepText 1 (M50.1 97 1) M50) fun v64 M64 => some (v64, M64))) else (mbp (f_X10_lacksText (nI d) M1) fun v37 => some (v37, M1)) := fun M1 h1 => by
        unfold f_X10_shape
        rw [X10_is_y h, if_neg (by decide), h1, if_neg (fun q => by have : _ = 8 := (eqL (m := 8) (by decide) (by omega)).mp q; omega)]
      rcases ref_row (s := 0) hd (by omega) (hSh d hd) with ⟨r1, N, r2⟩ | ⟨r1, r2⟩ | ⟨r1, r2, r3⟩
      · have r1 : f_X6_refusalOfRow (80 + 2 * d) 0 M = 0 := r1
        have hN90 := r2.1
        rw [r1, if_pos (by decide)]
        obtain ⟨C, M1, c1, c2, c3, c4, c5, c6⟩ := X5_shelf (h := 0) hd (by decide) r2
        have c1 : f_X5_cellsOf (80 + 2 * d) 0 M = some (C, M1) := c1
        have r2' : rowS d 0 N M1 := rowS_fr (fun q hq => c3 q (by omega)) r2
        obtain ⟨D, M2, d1, d2, d3, d4, d5, d6⟩ := X5_shelf (h := 1) hd (by decide) r2'
        have d1 : f_X5_cellsOf (80 + 2 * d) 1 M1 = some (D, M2) := d1
        rw [c3 115 (by omega)] at d5 d6
        have k2 := eqK_tr c2 d2
        have hA2 := wA_eqK k2 hA
        rw [c1, mbw_s, mgd_s g1, d1, mbw_s]
        unfold f_X7_isFaulty f_X7_faultPlace
        rw [d5]
        have e115 : M2.1 115 = M.1 115 := k2.1 115 (by omega)
        have r3 : rowS d 0 N M2 := rowS_fr (fun q hq => d3 q (by omega)) r2'
        by_cases ok : (tSh (lk (fun k => M.1 115 (90 * d + k)) N) N).2.1 = true
        · rw [if_pos ok, if_pos (by decide)]
          obtain ⟨ns, hns⟩ : ∃ ns, K.2.2.2.1 = ns := ⟨_, rfl⟩
          rw [hns] at h8
          have s6 : M2.1 1 6 = nI ns := by rw [← hns]; exact hA2.2.2.2.2.2.1.2.1
          have s1 : M2.1 97 1 = nI ns := by rw [← hns]; exact hA2.2.2.2.2.2.1.2.2.1
          have ad : f_X8_addShape 1 C D M2 = some (nI ns, mI (mJ (mJ M2 14 (2 * ns) C) 14 (2 * ns + 1) D) 1 6 (nI (ns + 1))) := by
            unfold f_X8_addShape
            rw [s6, if_pos ((ltL (m := 8) (by decide) (by omega)).mpr h8), mulL, mgd_s ((nin (by omega)).mpr (by omega)), ncl (by omega), mlt_s]
            show mgd (mIn ((M2.1 1 6 * 2) + 1) 16) _ = _
            rw [s6, mulL, nI_1, mgd_s ((nin (by omega)).mpr (by omega))]
            show mlt (mJ (mJ M2 14 (ns * 2) C) 14 (Int32.toNatClampNeg ((M2.1 1 6 * 2) + 1)) D) _ = _
            rw [s6, mulL, nI_1, ncl (by omega), mlt_s]
            show mlt (mI (mJ (mJ M2 14 (ns * 2) C) 14 (ns * 2 + 1) D) 1 6 (M2.1 1 6 + 1)) _ = _
            rw [s6, nI_1, mlt_s, mI_e, show nI (ns + 1) - 1 = nI ns by rw [← nI_1]; grind, Nat.mul_comm ns 2]
          rw [ad, mbw_s, mbw_s]
          generalize hM3 : mI (mJ (mJ M2 14 (2 * ns) C) 14 (2 * ns + 1) D) 1 6 (nI (ns + 1)) = M3
          have k3 : ∀ q, q ≠ 1 → M3.1 q = M2.1 q := fun q hq => by rw [← hM3, mI_ne hq]; rfl
          have r4 : rowS d 0 N M3 := rowS_fr (fun q hq => k3 q (by omega)) r3
          have j3 : ∀ q i, M3.2.1 q i = if q = 14 ∧ i = 2 * ns + 1 then D else if q = 14 ∧ i = 2 * ns then C else M2.2.1 q i := fun q i => by rw [← hM3]; rfl
          rw [en M3 (by rw [k3 97 (by omega), s1, hns]), lacksText_c hd, r4.2.2.1, if_neg (by decide), if_pos ⟨rfl, r4.2.2.2.1⟩, mbp_s, if_pos rfl]
          obtain ⟨L, l1, l2⟩ := X10_bring hd hN90 r4.2.2.2.2.2.1
          have e115' : M3.1 115 = M.1 115 := (k3 115 (by omega)).trans e115
          have tx := tx0_b (M := M3) hN90 l2
          rw [e115'] at tx
          obtain ⟨M5, m1, m2, m3, m4⟩ := X10_goes_shape (xx := 0) (yy := 0) tx (by decide) (by decide)
          have m1 : f_X10_goesShape (-1) 0 0 (sR (mI M3 96 7 (nI N)) 101 L) = _ := m1
          rw [l1, mbp_s, m1, mbw_s, ok, if_neg (by decide)]
          have q97 : M5.1 97 = M2.1 97 := by rw [m2.1 97 (by omega) (by omega) (by omega) (by omega), sR_n (by omega), mI_ne (by omega)]; exact k3 97 (by omega)
          have q7 : M5.1 96 7 = nI N := by rw [m2.2.1 7 (by omega), sR_n (by omega)]; exact mI_e
          have q101 : M5.1 101 = L := by rw [m2.1 101 (by omega) (by omega) (by omega) (by omega), sR_e]
          obtain ⟨R, x1, x2, x3, x4, x5⟩ := X10_keepText (c := 1) (t := ns) (M := M5) (by decide) (by omega) hN90 q7 (v := ns) (by omega) (by rw [q97]; exact s1)
          have x1 : f_X10_keepText 1 (nI ns) M5 = _ := x1
          rw [q97] at x5
          rw [q101] at x4
          rw [show M5.1 97 1 = nI ns by rw [q97]; exact s1, x1, mbw_s, mbw_s, if_pos rfl]
          have fr : ∀ q, q ≠ 1 → q ≠ 97 → ¬ scr q → (sR M5 97 R).1 q = M.1 q := fun q h1 h97 hs => by rw [sR_n h97, m2.1 q (by omega) (by omega) (by omega) (by omega), sR_n (by omega), mI_ne (by omega), k3 q h1]; exact k2.1 q hs
          have frJ : (sR M5 97 R).2.1 = M3.2.1 := by show M5.2.1 = _; rw [m2.2.2]; rfl
          have fr1 : ∀ i, i ≠ 6 → (sR M5 97 R).1 1 i = M.1 1 i := fun i hi => by rw [sR_n (by omega), m2.1 1 (by omega) (by omega) (by omega) (by omega), sR_n (by omega), mI_ne (by omega), ← hM3, mI_n (by omega)]; exact congrFun (k2.1 1 (by omega)) i
          have fr97 : ∀ q, ¬ (154 + 90 * ns ≤ q ∧ q < 154 + 90 * ns + 90) → q ≠ 1 → q ≠ 138 + ns → (sR M5 97 R).1 97 q = M.1 97 q := fun q h1 h2 h3 => by rw [sR_e, x5 q h1 h2 h3]; exact congrFun (k2.1 97 (by omega)) q
          refine ⟨_, rfl, Inv_now hI (fun q hq hs h97 h99 => fr q (by omega) h97 hs) ?_ ?_ ⟨(K.1, K.2.1, K.2.2.1, ns + 1, K.2.2.2.2), ⟨wC_fr (fun q hq => fr q (by omega) (by omega) (by omega)) (fr97 _ (by omega) (by omega) (by omega)) (fun j h1 h2 => fr97 _ (by omega) (by omega) (by omega)) hC, wT_fr (fr1 _ (by omega)) (fr97 _ (by omega) (by omega) (by omega)) hT, wV_fr hn (fun q hq => fr q (by omega) (by omega) (by omega)) (fun j h1 h2 => fr97 _ (by omega) (by omega) (by omega)) hV, wH_fr hn (fr _ (by omega) (by omega) (by omega)) (fun j h1 h2 => fr97 _ (by omega) (by omega) (by omega)) hH, wP_fr (fr1 _ (by omega)) (fr97 _ (by omega) (by omega) (by omega)) (fr _ (by omega) (by omega) (by omega)) (fun j hj => fr _ (by omega) (by omega) (by omega)) (fun j h1 h2 => fr97 _ (by omega) (by omega) (by omega)) (fun j h1 h2 => fr97 _ (by omega) (by omega) (by omega)) hP, ?_, wN_fr (fun q hq => fr q (by omega) (by omega) (by omega)) (fr97 _ (by omega) (by omega) (by omega)) (fun j h1 h2 => fr97 _ (by omega) (by omega) (by omega)) hN, wN_fr (fun q hq => fr q (by omega) (by omega) (by omega)) (fr97 _ (by omega) (by omega) (by omega)) (fun j h1 h2 => fr97 _ (by omega) (by omega) (by omega)) hL, srt_fr (fr _ (by omega) (by omega) (by omega)) hO, hW⟩, repG_fr (fr _ (by omega) (by omega) (by omega)) hG⟩⟩
          · rw [sR_n (by omega), m2.2.1 3 (by omega), sR_n (by omega), mI_n (by omega), k3 96 (by omega)]
            exact k2.2.1
          · rw [frJ]
            funext i
            rw [j3, if_neg (by omega), if_neg (by omega)]
            exact congrFun k2.2.2.2 i
          · refine ⟨by show ns + 1 ≤ 8; omega, ?_, ?_, fun j hj => ?_⟩
            · rw [sR_n (by omega), m2.1 1 (by omega) (by omega) (by omega) (by omega), sR_n (by omega), mI_ne (by omega), ← hM3]
              exact mI_e
            · rw [sR_e]; exact x2
            · have hj : j < ns + 1 := hj
              by_cases e : j = ns
              · subst e
                refine ⟨N, hN90, by rw [sR_e]; exact x3, ?_⟩
                have tt : lk (rg 97 (154 + 90 * j) (sR M5 97 R)) N = lk (fun k => M.1 115 (90 * d + k)) N := lk_cg (fun i hi => by
                  show (sR M5 97 R).1 97 (154 + 90 * j + i) = _
                  rw [sR_e, x4 i hi, l2 i hi, e115'])
                rw [tt, frJ]
                refine ⟨ok, fun h hh => ?_⟩
                rcases (show h = 0 ∨ h = 1 by omega) with rfl | rfl
                · rw [j3, if_neg (by omega), if_pos ⟨rfl, rfl⟩]; exact c6 ok
                · rw [j3, if_pos ⟨rfl, rfl⟩]; exact d6 ok
              · obtain ⟨N', n1, n3, n4, n5⟩ := hS.2.2.2 j (by omega)
                refine ⟨N', n1, by rw [fr97 _ (by omega) (by omega) (by omega)]; exact n3, ?_⟩
                rw [lk_cg (T := rg 97 (154 + 90 * j) M) (T' := rg 97 (154 + 90 * j) (sR M5 97 R)) (fun i hi => fr97 _ (by omega) (by omega) (by omega)), frJ]
                refine ⟨n4, fun h hh => ?_⟩
                rw [j3, if_neg (by omega), if_neg (by omega)]
                have := n5 h hh
                rw [show M2.2.1 (1 + 13) = M.2.1 (1 + 13) from k2.2.2.1]
                exact this
        · rw [if_neg ok, if_neg (nlt0 (by have := (show (tSh (lk (fun k => M.1 115 (90 * d + k)) N) N).1 < 100000 from by
              unfold tSh
              have a := aDp (T := fun k => M.1 115 (90 * d + k)) 6 0 (Nat.zero_le N)
              have a1 := a.1
              split <;> (try show _ < 100000) <;> (try omega)); omega)), if_neg (by decide), mbw_s, en M2 hA2.2.2.2.2.2.1.2.2.1, lacksText_c hd, r3.2.2.1, if_neg (by decide), if_pos ⟨rfl, r3.2.2.2.1⟩, mbp_s, if_pos rfl]
          obtain ⟨L, l1, l2⟩ := X10_bring hd hN90 r3.2.2.2.2.2.1
          have tx := tx0_b (M := M2) hN90 l2
          rw [e115] at tx
          obtain ⟨M5, m1, m2, m3, m4⟩ := X10_goes_shape (xx := 0) (yy := 0) tx (by decide) (by decide)
          have m1 : f_X10_goesShape (-1) 0 0 (sR (mI M2 96 7 (nI N)) 101 L) = _ := m1
          rw [l1, mbp_s, m1, mbw_s, Bool.eq_false_iff.mpr ok, if_pos (show bI false = 0 from rfl), m3, mbw_s, if_pos rfl]
          exact ⟨M5, rfl, Inv_eqK (eqK_tr (eqK_tr k2 eqK_b) (eqR_K m2)) hI⟩
      · have r1 : f_X6_refusalOfRow (80 + 2 * d) 0 M = -11 := r1
        rw [r1, if_neg neg_11, mbw_s, en M hS.2.2.1, lacksText_c hd, if_pos r2, mbp_s, if_neg (by decide), mbp_s, mbw_s, if_pos rfl]
        exact ⟨M, rfl, hI⟩
      · have r1 : f_X6_refusalOfRow (80 + 2 * d) 0 M = -12 := r1
        rw [r1, if_neg neg_12, mbw_s, en M hS.2.2.1, lacksText_c hd, if_neg r2, if_neg r3, mbp_s, if_neg (by decide), mbp_s, mbw_s, if_pos rfl]
        exact ⟨M, rfl, hI⟩
    · refine ⟨M, ?_, hI⟩
      have e8 : K.2.2.2.1 = 8 := by omega
      unfold f_X10_shape
      rw [if_neg (fun q => h8 ((ltL (m := 8) (by decide) (by omega)).mp q)), mbw_s, X10_is_y h, if_neg (by decide), hS.2.2.1, e8, if_pos (show nI 8 = (8 : Int32) from rfl), mbw_s, if_pos rfl]
  · refine ⟨M, ?_, hI⟩
    unfold f_X10_shape
    rw [tf_n h, if_pos rfl, mbw_s, X10_is_n h, if_pos rfl, mbw_s, if_pos rfl]
