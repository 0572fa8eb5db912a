/-! calls that read, or change one thing -/
theorem X10_cubeAtN {x y : Nat} {M : mM} {A : Bd} (hw : wf A) (hg : repG M A) (hx : x < 10) (hy : y < 8) : f_X10_cubeAt (nI x) (nI y) M = some (md (bG A (12 * (y + 1) + x + 1))) := by
  have e := X10_cubeAt hw hg (p := 12 * (y + 1) + x + 1) (by omega)
  obtain ⟨e1, e2⟩ := cx_of hx hy
  rw [e1, e2] at e
  exact e
theorem op_at {M : mM} {a1 a2 : Int32} (hI : Inv M) : ∃ M', f_law_c2 a1 a2 M = some M' ∧ Inv M' := by
  obtain ⟨⟨K, hA, hG⟩, -⟩ := id hI
  obtain ⟨⟨hw, hB, hR, -⟩, -⟩ := hA
  have hB : repB 2 M K.1 := hB
  refine ⟨M, ?_, hI⟩
  unfold f_law_c2 f_X9_at f_X10_at
  rw [X9_onGrid, X10_isCell_c]
  by_cases h : (0 ≤ a1 ∧ a1 ≤ 9) ∧ 0 ≤ a2 ∧ a2 ≤ 7
  · obtain ⟨x, hx, rfl⟩ := i_le (n := 9) (by decide) h.1
    obtain ⟨y, hy, rfl⟩ := i_le (n := 7) (by decide) h.2
    rw [tf_y h, if_neg (by decide), if_neg (by decide), cell_of (by omega) (by omega), X0_inCell hB (by omega), mbp_s, X10_cubeAtN hw hG (by omega) (by omega), mbp_s]
    by_cases h0 : 0 ≤ bG K.1 (12 * (y + 1) + x + 1)
    · rw [if_pos h0, mbp_s, md_y h0, if_pos h0, mbp_s, mbp_s, if_pos rfl]
    · rw [if_neg h0, mbp_s, md_n h0, if_neg (by decide), mbp_s, if_pos rfl]
  · rw [tf_n h, if_pos rfl, if_pos rfl, mbp_s, mbp_s, if_pos rfl]
theorem wA_cub {M M' : mM} {K : Kt} {A' : Bd} (h : wA 1 97 M K) (hC : wC 1 97 M' A') (hn : bN A' = bN K.1) (hW : wW A') (hB : ∀ q, (q = 1 ∨ 10 ≤ q) → q < 33 → M'.1 q = M.1 q) (hJ : M'.2.1 14 = M.2.1 14) (hR : ∀ j, ((1 ≤ j ∧ j < 10) ∨ 90 ≤ j) → j < 1834 → M'.1 97 j = M.1 97 j) : wA 1 97 M' (A', K.2) := by
  obtain ⟨h1, h2, h3, h4, h5, h6, h7, h8, h9, -⟩ := h
  have hn16 := h1.1.1
  have e : bN ((A', K.2) : Kt).1 = bN K.1 := hn
  refine ⟨hC, wT_fr (congrFun (hB 1 (by omega) (by omega)) 1) (hR _ (by omega) (by omega)) h2, ?_, ?_, wP_fr (congrFun (hB 1 (by omega) (by omega)) 8) (hR _ (by omega) (by omega)) (hB _ (by omega) (by omega)) (fun j hj => hB _ (by omega) (by omega)) (fun j _ _ => hR j (by omega) (by omega)) (fun j _ _ => hR j (by omega) (by omega)) h5, wS_fr (congrFun (hB 1 (by omega) (by omega)) 6) (hR _ (by omega) (by omega)) hJ (fun j _ _ => hR j (by omega) (by omega)) (fun j _ _ => hR j (by omega) (by omega)) h6, wN_fr (fun p hp => hB p (by omega) (by omega)) (hR _ (by omega) (by omega)) (fun j _ _ => hR j (by omega) (by omega)) h7, wN_fr (fun p hp => hB p (by omega) (by omega)) (hR _ (by omega) (by omega)) (fun j _ _ => hR j (by omega) (by omega)) h8, srt_fr (hB _ (by omega) (by omega)) h9, hW⟩
  · rw [e]
    exact wV_fr hn16 (fun q hq => hB q (by omega) (by omega)) (fun j _ _ => hR j (by omega) (by omega)) h3
  · rw [e]
    exact wH_fr hn16 (hB _ (by omega) (by omega)) (fun j _ _ => hR j (by omega) (by omega)) h4
/-- POWER alone is other -/
def bPw (A : Bd) (c : Nat) (v : Int32) : Bd := (bN A, bP A, bG A, bK A, up (bW A) c v, bD A)
theorem wC_pw {M : mM} {A : Bd} {c : Nat} {v : Int32} (hc : c < bN A) (h : wC 1 97 M A) : wC 1 97 (mI (mI M 5 c v) 97 (58 + c) v) (bPw A c v) := by
  obtain ⟨hw, hB, hR, h01⟩ := h
  have hn := hw.1
  obtain ⟨b0, b1, b2, b3, b4, b6⟩ := hB
  obtain ⟨r0, r1, r2, r3, r4, r5⟩ := hR
  refine ⟨hw, ⟨?_, fun d hd => ?_, fun d hd => ?_, fun d hd => ?_, fun d hd => ?_, fun p hp => ?_⟩, ⟨?_, fun d hd => ?_, fun d hd => ?_, fun d hd => ?_, fun d hd => ?_, fun d hd => ?_⟩, fun i hi => ?_⟩
  · rw [mI_n (by omega), mI_n (by omega)]; exact b0
  · rw [mI_n (by omega), mI_n (by omega)]; exact b1 d hd
  · rw [mI_n (by omega), mI_n (by omega)]; exact b2 d hd
  · rw [mI_n (by omega)]
    show _ = (if d = c then v else bW A d)
    by_cases e : d = c
    · subst e; rw [if_pos rfl]; exact mI_e
    · rw [if_neg e, mI_n (by omega)]; exact b3 d hd
  · rw [mI_n (by omega), mI_n (by omega)]; exact b4 d hd
  · rw [mI_n (by omega), mI_n (by omega)]; exact b6 p hp
  · rw [mI_n (by omega), mI_n (by omega)]; exact r0
  · have hd : d < bN A := hd
    rw [mI_n (by omega), mI_n (by omega)]; exact r1 d hd
  · have hd : d < bN A := hd
    rw [mI_n (by omega), mI_n (by omega)]; exact r2 d hd
  · have hd : d < bN A := hd
    rw [mI_n (by omega), mI_n (by omega)]; exact r3 d hd
  · have hd : d < bN A := hd
    show _ = (if d = c then v else bW A d)
    by_cases e : d = c
    · subst e; rw [if_pos rfl, mI_e]
    · rw [if_neg e, mI_n (by omega), mI_n (by omega)]; exact r4 d hd
  · have hd : d < bN A := hd
    rw [mI_n (by omega), mI_n (by omega)]; exact r5 d hd
  · rw [mI_n (by omega), mI_n (by omega)]; exact h01 i hi
theorem op_charge {M : mM} {a1 a2 : Int32} (hI : Inv M) : ∃ M', f_law_c4 a1 a2 M = some M' ∧ Inv M' := by
  obtain ⟨⟨K, hA, hG⟩, -⟩ := id hI
  obtain ⟨hw, hB, hR, h01⟩ := id hA.1
  have hB : repB 2 M K.1 := hB
  have hn := hw.1
  unfold f_law_c4 f_X9_charge f_X10_charge
  rw [X0_has_c hB]
  by_cases h : isC K.1 a1
  · obtain ⟨c, hc, rfl⟩ := isC_ex hn h
    rw [tf_y h, if_neg (by decide)]
    by_cases h2 : 0 ≤ a2 ∧ a2 ≤ 999
    · rw [if_neg (by have := h2.1; grind), if_pos h2.2]
      simp only [ncl (show c < 2147483648 by omega), mlt_s]
      rw [mgd_s ((nin (by omega)).mpr (by omega)), mgd_s ((nin (by omega)).mpr (by omega)), mbw_s]
      have hR1 : repR 97 (mI M 5 c a2) K.1 := repR_fr hn (mI_n (by omega)) (fun j _ _ => mI_n (by omega)) hR
      rw [X10_isCube_c hn hR1, mbp_s, tf_y h, if_neg (by decide), X10_is_y h2, if_neg (by decide)]
      simp only [ladd, ncl (show 58 + c < 2147483648 by omega)]
      rw [mgd_s ((nin (by omega)).mpr (by omega)), mgd_s ((nin (by omega)).mpr (by omega)), mbw_s]
      have e1 : (mI M 5 c a2).1 97 (58 + c) = M.1 5 c := by rw [mI_n (by omega), hR.2.2.2.2.1 c hc]; exact (hB.2.2.2.1 c hc).symm
      rw [e1, if_pos rfl]
      refine ⟨_, rfl, Inv_now hI (fun q hq hs h97 h99 => ?_) (by rw [mI_n (by omega), mI_n (by omega)]) rfl ⟨_, wA_cub (A' := bPw K.1 c a2) hA (wC_pw hc hA.1) rfl hA.2.2.2.2.2.2.2.2.2 (fun q hq hq2 => ?_) rfl (fun j hj hj2 => ?_), repG_fr (by rw [mI_ne (by omega), mI_ne (by omega)]) hG⟩⟩
      · rw [mI_ne (by omega), mI_ne (by omega)]
      · rw [mI_ne (by omega), mI_ne (by omega)]
      · rw [mI_n (by omega), mI_n (by omega)]
    · have e2 : f_X10_is a2 0 999 = 0 := X10_is_n h2
      refine ⟨M, ?_, hI⟩
      by_cases h3 : a2 < 0
      · rw [if_pos h3, mbw_s, X10_isCube_c hn hR, mbp_s, tf_y h, if_neg (by decide), e2, if_pos rfl, mbw_s, if_pos rfl]
      · rw [if_neg h3, if_neg (by grind), mbw_s, X10_isCube_c hn hR, mbp_s, tf_y h, if_neg (by decide), e2, if_pos rfl, mbw_s, if_pos rfl]
  · refine ⟨M, ?_, hI⟩
    rw [tf_n h, if_pos rfl, mbw_s, X10_isCube_c hn hR, mbp_s, tf_n h, if_pos rfl, mbw_s, if_pos rfl]
/-! sums over the CUBES -/
theorem cnt_dead {j d : Nat} {M : mM} {A : Bd} (hw : wf A) (hB : repB 2 M A) (hR : repR 97 M A) : ∀ (i : Nat) (v : Int32), i + d = bN A → ∃ r, f_X0_countDead_b4 (j + d + 1) 2 v (nI i) M = some r ∧ f_X10_count_b61 (j + d + 1) v (nI i) M = some r := by
  have hn := hw.1
  induction d with
  | zero =>
    intro i v hi
    have e : i = bN A := by omega
    refine ⟨v, ?_, ?_⟩
    · rw [f_X0_countDead_b4, hB.1, if_pos ((nle (by omega) (by omega)).mpr (by omega))]
    · rw [f_X10_count_b61, hR.1, if_pos ((nle (by omega) (by omega)).mpr (by omega))]
  | succ d ih =>
    intro i v hi
    obtain ⟨r, r1, r2⟩ := ih (i + 1) (v + bD A i) (by omega)
    refine ⟨r, ?_, ?_⟩
    · rw [f_X0_countDead_b4, hB.1, if_neg (fun q => by have := (nle (by omega) (by omega)).mp q; omega), mgd_s ((nin (by omega)).mpr (by omega)), mlt_s, mlt_s, ncl (by omega), hB.2.2.2.2.1 i (by omega), oneIf_01 (hw.2.2.2.2.2 i (by omega)), nI_1]
      exact r1
    · rw [f_X10_count_b61, hR.1, if_neg (fun q => by have := (nle (by omega) (by omega)).mp q; omega), ladd, mgd_s ((nin (by omega)).mpr (by omega)), mlt_s, mlt_s, ncl (by omega), hR.2.2.2.2.2 i (by omega), nI_1]
      exact r2
theorem cnt_pow {j d : Nat} {M : mM} {A : Bd} (hw : wf A) (hB : repB 2 M A) (hR : repR 97 M A) : ∀ (i : Nat) (v : Int32), i + d = bN A → ∃ r, f_X0_wholePower_b4 (j + d + 1) 2 v (nI i) M = some r ∧ f_X10_count_b93 (j + d + 1) v (nI i) M = some r := by
  have hn := hw.1
  induction d with
  | zero =>
    intro i v hi
    refine ⟨v, ?_, ?_⟩
    · rw [f_X0_wholePower_b4, hB.1, if_pos ((nle (by omega) (by omega)).mpr (by omega))]
    · rw [f_X10_count_b93, hR.1, if_pos ((nle (by omega) (by omega)).mpr (by omega))]
  | succ d ih =>
    intro i v hi
    obtain ⟨r, r1, r2⟩ := ih (i + 1) (v + bW A i) (by omega)
    refine ⟨r, ?_, ?_⟩
    · rw [f_X0_wholePower_b4, hB.1, if_neg (fun q => by have := (nle (by omega) (by omega)).mp q; omega), mgd_s ((nin (by omega)).mpr (by omega)), mlt_s, mlt_s, ncl (by omega), hB.2.2.2.1 i (by omega), nI_1]
      exact r1
    · rw [f_X10_count_b93, hR.1, if_neg (fun q => by have := (nle (by omega) (by omega)).mp q; omega), ladd, mgd_s ((nin (by omega)).mpr (by omega)), mlt_s, mlt_s, ncl (by omega), hR.2.2.2.2.1 i (by omega), nI_1]
      exact r2
theorem cnt_wgt {j d : Nat} {M : mM} {A : Bd} (hw : wf A) (hB : repB 2 M A) (hR : repR 97 M A) : ∀ (i : Nat) (v : Int32), i + d = bN A → ∃ r, f_X0_wholeWeight_b4 (j + d + 1) 2 v (nI i) M = some r ∧ f_X10_count_b153 (j + d + 1) v (nI i) M = some r := by
  have hn := hw.1
  induction d with
  | zero =>
    intro i v hi
    refine ⟨v, ?_, ?_⟩
    · rw [f_X0_wholeWeight_b4, hB.1, if_pos ((nle (by omega) (by omega)).mpr (by omega))]
    · rw [f_X10_count_b153, hR.1, if_pos ((nle (by omega) (by omega)).mpr (by omega))]
  | succ d ih =>
    intro i v hi
    obtain ⟨k1, -, k3, -⟩ := k_cost (hw.2.2.2.2.1 i (by omega))
    obtain ⟨r, r1, r2⟩ := ih (i + 1) (v + f_X10_weightOf (bK A i)) (by omega)
    refine ⟨r, ?_, ?_⟩
    · rw [f_X0_wholeWeight_b4, hB.1, if_neg (fun q => by have := (nle (by omega) (by omega)).mp q; omega), mgd_s ((nin (by omega)).mpr (by omega)), ncl (by omega), hB.2.1 i (by omega), mgd_s k1, mlt_s, mlt_s, k3, nI_1]
      exact r1
    · rw [f_X10_count_b153, hR.1, if_neg (fun q => by have := (nle (by omega) (by omega)).mp q; omega), ladd, mgd_s ((nin (by omega)).mpr (by omega)), mlt_s, mlt_s, ncl (by omega), hR.2.1 i (by omega), nI_1]
      exact r2
theorem op_count {M : mM} {a1 : Int32} (hI : Inv M) : ∃ M', f_law_c25 a1 M = some M' ∧ Inv M' := by
  obtain ⟨⟨K, hA, hG⟩, -⟩ := id hI
  obtain ⟨⟨hw, hB, hR, h01⟩, hT, hV, hH, hP, hS, hN, hL, -⟩ := hA
  have hB : repB 2 M K.1 := hB
  have hn := hw.1
  obtain ⟨j, hj⟩ := mN_ge (k := bN K.1 + 1) (by omega)
  have hj : mN = j + bN K.1 + 1 := by omega
  obtain ⟨r1, x1, y1⟩ := cnt_dead (j := j) hw hB hR 0 0 (Nat.zero_add _)
  obtain ⟨r2, x2, y2⟩ := cnt_pow (j := j) hw hB hR 0 0 (Nat.zero_add _)
  obtain ⟨r3, x3, y3⟩ := cnt_wgt (j := j) hw hB hR 0 0 (Nat.zero_add _)
  have a1' : f_X0_countDead_b4 mN 2 0 0 M = some r1 := by rw [hj]; exact x1
  have b1' : f_X10_count_b61 mN 0 0 M = some r1 := by rw [hj]; exact y1
  have a2' : f_X0_wholePower_b4 mN 2 0 0 M = some r2 := by rw [hj]; exact x2
  have b2' : f_X10_count_b93 mN 0 0 M = some r2 := by rw [hj]; exact y2
  have a3' : f_X0_wholeWeight_b4 mN 2 0 0 M = some r3 := by rw [hj]; exact x3
  have b3' : f_X10_count_b153 mN 0 0 M = some r3 := by rw [hj]; exact y3
  refine ⟨M, ?_, hI⟩
  have eB : M.1 2 0 = nI (bN K.1) := hB.1
  have eN : M.1 29 0 = nI K.2.2.2.2.1 := hN.2.1
  have eL : M.1 25 0 = nI K.2.2.2.2.2 := hL.2.1
  unfold f_law_c25 f_X9_count f_X10_count f_X0_countDead f_X0_wholePower f_X0_wholeWeight
  by_cases e0 : a1 = 0
  · rw [if_pos e0, if_pos e0, mbp_s, mbp_s, eB, hR.1, if_pos rfl]
  rw [if_neg e0, if_neg e0]
  by_cases e1 : a1 = 1
  · rw [if_pos e1, if_pos e1, a1', b1', mbp_s, mbp_s, mbp_s, if_pos rfl]
  rw [if_neg e1, if_neg e1]
  by_cases e2 : a1 = 2
  · rw [if_pos e2, if_pos e2, a2', b2', mbp_s, mbp_s, mbp_s, if_pos rfl]
  rw [if_neg e2, if_neg e2]
  by_cases e3 : a1 = 3
  · rw [if_pos e3, if_pos e3, mbp_s, mbp_s, hS.2.1, hS.2.2.1, if_pos rfl]
  rw [if_neg e3, if_neg e3]
  by_cases e4 : a1 = 4
  · rw [if_pos e4, if_pos e4, mbp_s, mbp_s, hP.2.1, hP.2.2.1, if_pos rfl]
  rw [if_neg e4, if_neg e4]
  by_cases e5 : a1 = 5
  · rw [if_pos e5, if_pos e5, mbp_s, mbp_s, eN, hN.2.2.1, if_pos rfl]
  rw [if_neg e5, if_neg e5]
  by_cases e6 : a1 = 6
  · rw [if_pos e6, if_pos e6, mbp_s, mbp_s, hT.2.1, hT.2.2, if_pos rfl]
  rw [if_neg e6, if_neg e6]
  by_cases e7 : a1 = 7
  · rw [if_pos e7, if_pos e7, a3', b3', mbp_s, mbp_s, mbp_s, if_pos rfl]
  rw [if_neg e7, if_neg e7]
  by_cases e8 : a1 = 8
  · rw [if_pos e8, if_pos e8, mbp_s, mbp_s, eL, hL.2.2.1, if_pos rfl]
  rw [if_neg e8, if_neg e8, mbp_s, mbp_s, if_pos rfl]
