/-! PROGRAMS given, REPORTS, THE LOG -/
theorem op_gives {M : mM} {a1 a2 : Int32} (hI : Inv M) : ∃ M', f_law_c17 a1 a2 M = some M' ∧ Inv M' := by
  obtain ⟨⟨K, hA, hG⟩, -⟩ := id hI
  obtain ⟨hC, hT, hV, hH, hP, hS, hN, hL, hO, hW⟩ := id hA
  obtain ⟨hw, hB, hR, h01⟩ := id hC
  have hB : repB 2 M K.1 := hB
  have hn := hw.1
  have hp8 := hP.1
  have t := nI_ti (k := K.2.2.1) (by omega)
  unfold f_law_c17 f_X9_gives f_X10_gives
  rw [X0_has_c hB, show M.1 1 8 = nI K.2.2.1 from hP.2.1]
  by_cases h : isC K.1 a1
  · obtain ⟨c, hc, rfl⟩ := isC_ex hn h
    rw [tf_y h, if_neg (by decide)]
    simp only [ncl (show c < 2147483648 by omega), mlt_s]
    by_cases h2 : -1 ≤ a2 ∧ a2 < nI K.2.2.1
    · rw [if_neg (by have := h2.1; grind), if_pos h2.2, mgd_s ((nin (by omega)).mpr (by omega)), mgd_s ((nin (by omega)).mpr (by omega))]
      have hR1 : repR 97 (mI M 13 c a2) K.1 := repR_fr hn (mI_n (by omega)) (fun j _ _ => mI_n (by omega)) hR
      have e1 : (mI M 13 c a2).1 97 (122 + c) = M.1 97 (122 + c) := mI_n (by omega)
      have e2 : (mI M 13 c a2).1 97 2 = nI K.2.2.1 := (mI_n (by omega)).trans hP.2.2.1
      have old : (if 0 ≤ M.1 13 c then some (M.1 13 c, mI M 13 c a2) else some (-4, mI M 13 c a2)) = some (M.1 97 (122 + c), mI M 13 c a2) := by
        rcases hH c hc with ⟨q1, q2⟩ | ⟨j, q0, q1, q2⟩
        · rw [show M.1 13 c = -1 from q1, q2, if_neg (by decide)]
        · rw [show M.1 13 c = nI j from q1, q2, if_pos (nle0 (by omega))]
      rw [old, mbw_s, X10_isCube_c hn hR1, mbp_s, tf_y h, if_neg (by decide), e2, X10_is_y (by grind), if_neg (by decide)]
      simp only [ladd, ncl (show 122 + c < 2147483648 by omega)]
      rw [mgd_s ((nin (by omega)).mpr (by omega)), e1]
      unfold f_X10_gives_b55
      simp only [ncl (show 122 + c < 2147483648 by omega), mlt_s]
      have fin : ∀ v, ((a2 = -1 ∧ v = -4) ∨ ∃ j, j < K.2.2.1 ∧ a2 = nI j ∧ v = nI j) → ∃ M', (some (mI (mI M 13 c a2) 97 (122 + c) v) : Option mM) = some M' ∧ Inv M' := fun v hv => by
        refine ⟨_, rfl, Inv_now hI (fun q hq hs h97 h99 => by simp (disch := omega) only [mI_n, mI_ne]) (by simp (disch := omega) only [mI_n, mI_ne]) rfl ⟨K, ⟨wC_fr (fun q hq => by simp (disch := omega) only [mI_n, mI_ne]) (by simp (disch := omega) only [mI_n, mI_ne]) (fun j _ _ => by simp (disch := omega) only [mI_n, mI_ne]) hC, wT_fr (by simp (disch := omega) only [mI_n, mI_ne]) (by simp (disch := omega) only [mI_n, mI_ne]) hT, wV_fr hn (fun q hq => by simp (disch := omega) only [mI_n, mI_ne]) (fun j _ _ => by simp (disch := omega) only [mI_n, mI_ne]) hV, fun d hd => ?_, wP_fr (by simp (disch := omega) only [mI_n, mI_ne]) (by simp (disch := omega) only [mI_n, mI_ne]) (by simp (disch := omega) only [mI_n, mI_ne]) (fun j hj => by simp (disch := omega) only [mI_n, mI_ne]) (fun j _ _ => by simp (disch := omega) only [mI_n, mI_ne]) (fun j _ _ => by simp (disch := omega) only [mI_n, mI_ne]) hP, wS_fr (by simp (disch := omega) only [mI_n, mI_ne]) (by simp (disch := omega) only [mI_n, mI_ne]) (by rfl) (fun j _ _ => by simp (disch := omega) only [mI_n, mI_ne]) (fun j _ _ => by simp (disch := omega) only [mI_n, mI_ne]) hS, wN_fr (fun q hq => by simp (disch := omega) only [mI_n, mI_ne]) (by simp (disch := omega) only [mI_n, mI_ne]) (fun j _ _ => by simp (disch := omega) only [mI_n, mI_ne]) hN, wN_fr (fun q hq => by simp (disch := omega) only [mI_n, mI_ne]) (by simp (disch := omega) only [mI_n, mI_ne]) (fun j _ _ => by simp (disch := omega) only [mI_n, mI_ne]) hL, srt_fr (by simp (disch := omega) only [mI_n, mI_ne]) hO, hW⟩, repG_fr (by simp (disch := omega) only [mI_n, mI_ne]) hG⟩⟩
        by_cases e : d = c
        · subst e
          rw [mI_n (by omega), mI_e, mI_e]
          exact hv
        · rw [mI_n (by omega), mI_n (by omega), mI_n (by omega), mI_n (by omega)]
          exact hH d hd
      by_cases h3 : 0 ≤ a2
      · rw [if_pos h3, mgd_s ((nin (by omega)).mpr (by omega)), mbw_s, if_pos rfl]
        obtain ⟨j, hj, rfl⟩ := i_lt (by omega) ⟨h3, h2.2⟩
        exact fin _ (Or.inr ⟨j, hj, rfl, rfl⟩)
      · rw [if_neg h3, mgd_s ((nin (by omega)).mpr (by omega)), mbw_s, if_pos rfl]
        exact fin _ (Or.inl ⟨by grind, rfl⟩)
    · refine ⟨M, ?_, hI⟩
      have e2 : f_X10_is a2 (-1) (M.1 97 2 - 1) = 0 := by rw [hP.2.2.1]; exact X10_is_n (by grind)
      by_cases h3 : a2 < -1
      · rw [if_pos h3, mbw_s, X10_isCube_c hn hR, mbp_s, tf_y h, if_neg (by decide), e2, if_pos rfl, mbw_s, if_pos rfl]
      · rw [if_neg h3, if_neg (by grind), mbw_s, X10_isCube_c hn hR, mbp_s, tf_y h, if_neg (by decide), e2, if_pos rfl, mbw_s, if_pos rfl]
  · refine ⟨M, ?_, hI⟩
    rw [tf_n h, if_pos rfl, mbw_s, X10_isCube_c hn hR, mbp_s, tf_n h, if_pos rfl, mbw_s, if_pos rfl]
theorem X2_note {b n : Nat} {x y z : Int32} {M : mM} (h : M.1 b 0 = nI n) (hn : n < 40) : f_X2_note b x y z M = some (nI n, mI (mI (mI (mI M (b + 1) n x) (b + 2) n y) (b + 3) n (vp_nar .boolean z)) b 0 (nI (n + 1))) := by
  have r1 : (mI M (b + 1) n x).1 b 0 = nI n := by rw [mI_n (by omega)]; exact h
  have r2 : (mI (mI M (b + 1) n x) (b + 2) n y).1 b 0 = nI n := by rw [mI_n (by omega)]; exact r1
  have r3 : (mI (mI (mI M (b + 1) n x) (b + 2) n y) (b + 3) n (vp_nar .boolean z)).1 b 0 = nI n := by rw [mI_n (by omega)]; exact r2
  unfold f_X2_note
  rw [h, if_pos ((ltL (m := 40) (by decide) (by omega)).mpr hn), mgd_s ((nin (by omega)).mpr hn), ncl (by omega), mlt_s, r1, mgd_s ((nin (by omega)).mpr hn), ncl (by omega), mlt_s, r2, mgd_s ((nin (by omega)).mpr hn), ncl (by omega), mlt_s, r3, nI_1, mlt_s, mI_e, show nI (n + 1) - 1 = nI n by rw [← nI_1]; grind]
theorem wN_add {q r s k n t u : Nat} {x z : Int32} {M M' : mM} (h : wN q r s k M n t) (hn : n < 40) (hu : u ≤ t) (hz : is01 z) (c0 : M'.1 q 0 = nI (n + 1)) (c1 : M'.1 k s = nI (n + 1)) (e1 : M'.1 (q + 1) n = x ∧ M'.1 k (r + n) = x) (e2 : M'.1 (q + 2) n = nI u ∧ M'.1 k (r + 40 + n) = nI u) (e3 : M'.1 (q + 3) n = z ∧ M'.1 k (r + 80 + n) = z) (f : ∀ i, i ≠ n → M'.1 (q + 1) i = M.1 (q + 1) i ∧ M'.1 (q + 2) i = M.1 (q + 2) i ∧ M'.1 (q + 3) i = M.1 (q + 3) i) (g : ∀ i, i < 40 → i ≠ n → M'.1 k (r + i) = M.1 k (r + i) ∧ M'.1 k (r + 40 + i) = M.1 k (r + 40 + i) ∧ M'.1 k (r + 80 + i) = M.1 k (r + 80 + i)) : wN q r s k M' (n + 1) t := by
  obtain ⟨h1, h2, h3, h4, h5⟩ := h
  refine ⟨by omega, c0, c1, fun i hi => ?_, fun i hi => ?_⟩
  · by_cases e : i = n
    · subst e
      exact ⟨e1.1.trans e1.2.symm, e2.1.trans e2.2.symm, e3.1.trans e3.2.symm, u, hu, e2.1⟩
    · obtain ⟨f1, f2, f3⟩ := f i e
      obtain ⟨g1, g2, g3⟩ := g i (by omega) e
      rw [f1, f2, f3, g1, g2, g3]
      exact h4 i (by omega)
  · by_cases e : i = n
    · subst e
      rw [e3.1]; exact hz
    · rw [(f i e).2.2]
      exact h5 i hi
theorem op_report0 {M : mM} {a1 a2 a3 : Int32} (h3 : is01 a3) (hI : Inv M) : ∃ v M' M2, f_X9_report a1 a2 a3 M = some (v, M') ∧ f_X10_report a1 a2 a3 M' = some (v, M2) ∧ Inv M2 := by
  obtain ⟨⟨K, hA, hG⟩, -⟩ := id hI
  obtain ⟨hC, hT, hV, hH, hP, hS, hN, hL, hO, hW⟩ := id hA
  obtain ⟨hw, hB, hR, h01⟩ := id hC
  have hB : repB 2 M K.1 := hB
  have hn := hw.1
  have t := nI_ti (k := K.2.1) (by have := hT.1; omega)
  have ht := hT.1
  have hr40 := hN.1
  unfold f_X9_report f_X10_report f_X8_isTick
  rw [X0_has_c hB, show M.1 1 1 = nI K.2.1 from hT.2.1, show M.1 29 0 = nI K.2.2.2.2.1 from hN.2.1]
  by_cases h : isC K.1 a1
  · rw [tf_y h, if_neg (by decide)]
    by_cases h2 : 0 ≤ a2 ∧ a2 ≤ nI K.2.1
    · rw [if_neg (show ¬ a2 < 0 by grind), if_neg (show ¬ nI K.2.1 < a2 by grind), if_neg (by decide)]
      obtain ⟨u, hu, rfl⟩ := i_le (by omega) h2
      by_cases h4 : K.2.2.2.2.1 < 40
      · rw [if_pos ((ltL (m := 40) (by decide) (by omega)).mpr h4), X2_note hN.2.1 h4, mbw_s, nar_01 h3]
        obtain ⟨n, hne⟩ : ∃ n, n = K.2.2.2.2.1 := ⟨_, rfl⟩
        rw [← hne] at h4 ⊢
        have hN' := hN
        rw [← hne] at hN'
        have hs : (mI (mI (mI (mI M (29 + 1) n a1) (29 + 2) n (nI u)) (29 + 3) n a3) 29 0 (nI (n + 1))).1 97 = M.1 97 := by simp (disch := omega) only [mI_n, mI_ne]
        generalize hM1 : mI (mI (mI (mI M (29 + 1) n a1) (29 + 2) n (nI u)) (29 + 3) n a3) 29 0 (nI (n + 1)) = M1 at hs
        refine ⟨nI n, M1, mI (mI (mI (mI M1 97 (1594 + n) a1) 97 (1634 + n) (nI u)) 97 (1674 + n) a3) 97 3 (nI (n + 1)), rfl, ?_, ?_⟩
        · have hR1 : repR 97 M1 K.1 := repR_fr hn (by rw [hs]) (fun j _ _ => by rw [hs]) hR
          have e5 : M1.1 97 5 = nI K.2.1 := by rw [hs]; exact hT.2.2
          have e3 : M1.1 97 3 = nI n := by rw [hs]; exact hN'.2.2.1
          rw [X10_isCube_c hn hR1, mbp_s, tf_y h, if_neg (by decide), e5, X10_is_y h2, if_neg (by decide), e3, if_neg (fun e => by have : _ = 40 := (eqL (m := 40) (by decide) (by omega)).mp e; omega)]
          unfold f_X10_report_b86
          simp only [ladd, ncl (show 1594 + n < 2147483648 by omega), ncl (show 1634 + n < 2147483648 by omega), ncl (show 1674 + n < 2147483648 by omega), mlt_s]
          rw [mgd_s ((nin (by omega)).mpr (by omega)), mgd_s ((nin (by omega)).mpr (by omega)), mgd_s ((nin (by omega)).mpr (by omega)), mgd_s ((nin (by omega)).mpr (by omega))]
          rw [mI_n (by omega), mI_n (by omega), mI_n (by omega), mI_n (by omega), mI_n (by omega), mI_n (by omega), e3, nI_1]
          rcases h3 with rfl | rfl
          · rw [if_pos rfl]
          · rw [if_neg (by decide)]
        · subst hM1
          refine Inv_now hI (fun q hq hs h97 h99 => by simp (disch := omega) only [mI_n, mI_ne]) (by simp (disch := omega) only [mI_n, mI_ne]) rfl ⟨(K.1, K.2.1, K.2.2.1, K.2.2.2.1, n + 1, K.2.2.2.2.2), ⟨wC_fr (fun q hq => by simp (disch := omega) only [mI_n, mI_ne]) (by simp (disch := omega) only [mI_n, mI_ne]) (fun j _ _ => by simp (disch := omega) only [mI_n, mI_ne]) hC, wT_fr (by simp (disch := omega) only [mI_n, mI_ne]) (by simp (disch := omega) only [mI_n, mI_ne]) hT, wV_fr hn (fun q hq => by simp (disch := omega) only [mI_n, mI_ne]) (fun j _ _ => by simp (disch := omega) only [mI_n, mI_ne]) hV, wH_fr hn (by simp (disch := omega) only [mI_n, mI_ne]) (fun j _ _ => by simp (disch := omega) only [mI_n, mI_ne]) hH, wP_fr (by simp (disch := omega) only [mI_n, mI_ne]) (by simp (disch := omega) only [mI_n, mI_ne]) (by simp (disch := omega) only [mI_n, mI_ne]) (fun j hj => by simp (disch := omega) only [mI_n, mI_ne]) (fun j _ _ => by simp (disch := omega) only [mI_n, mI_ne]) (fun j _ _ => by simp (disch := omega) only [mI_n, mI_ne]) hP, wS_fr (by simp (disch := omega) only [mI_n, mI_ne]) (by simp (disch := omega) only [mI_n, mI_ne]) (by rfl) (fun j _ _ => by simp (disch := omega) only [mI_n, mI_ne]) (fun j _ _ => by simp (disch := omega) only [mI_n, mI_ne]) hS, ?_, wN_fr (fun q hq => by simp (disch := omega) only [mI_n, mI_ne]) (by simp (disch := omega) only [mI_n, mI_ne]) (fun j _ _ => by simp (disch := omega) only [mI_n, mI_ne]) hL, srt_fr (by simp (disch := omega) only [mI_n, mI_ne]) hO, hW⟩, repG_fr (by simp (disch := omega) only [mI_n, mI_ne]) hG⟩
          refine wN_add (x := a1) (u := u) (z := a3) hN' h4 hu h3 ?_ mI_e ⟨?_, ?_⟩ ⟨?_, ?_⟩ ⟨?_, ?_⟩ (fun i hi => ⟨by simp (disch := omega) only [mI_n, mI_ne], by simp (disch := omega) only [mI_n, mI_ne], by simp (disch := omega) only [mI_n, mI_ne]⟩) (fun i hi hi2 => ⟨by simp (disch := omega) only [mI_n, mI_ne], by simp (disch := omega) only [mI_n, mI_ne], by simp (disch := omega) only [mI_n, mI_ne]⟩)
          · rw [mI_n (by omega), mI_n (by omega), mI_n (by omega), mI_n (by omega)]; exact mI_e
          · rw [mI_n (by omega), mI_n (by omega), mI_n (by omega), mI_n (by omega), mI_n (by omega), mI_n (by omega), mI_n (by omega)]; exact mI_e
          · rw [mI_n (by omega), mI_n (by omega), mI_n (by omega)]; exact mI_e
          · rw [mI_n (by omega), mI_n (by omega), mI_n (by omega), mI_n (by omega), mI_n (by omega), mI_n (by omega)]; exact mI_e
          · rw [mI_n (by omega), mI_n (by omega)]; exact mI_e
          · rw [mI_n (by omega), mI_n (by omega), mI_n (by omega), mI_n (by omega), mI_n (by omega)]; exact mI_e
          · rw [mI_n (by omega)]; exact mI_e
      · rw [if_neg (fun e => h4 ((ltL (m := 40) (by decide) (by omega)).mp e))]
        refine ⟨_, M, M, rfl, ?_, hI⟩
        have e4 : K.2.2.2.2.1 = 40 := by omega
        rw [X10_isCube_c hn hR, mbp_s, tf_y h, if_neg (by decide), hT.2.2, X10_is_y h2, if_neg (by decide), hN.2.2.1, e4, if_pos (show nI 40 = (40 : Int32) from rfl)]
    · refine ⟨-1, M, M, ?_, ?_, hI⟩
      · by_cases h5 : a2 < 0
        · rw [if_pos h5, if_pos rfl]
        · rw [if_neg h5, if_pos (show nI K.2.1 < a2 by grind), if_pos rfl]
      · rw [X10_isCube_c hn hR, mbp_s, tf_y h, if_neg (by decide), hT.2.2, X10_is_n h2, if_pos rfl]
  · refine ⟨-1, M, M, ?_, ?_, hI⟩
    · rw [tf_n h, if_pos rfl]
    · rw [X10_isCube_c hn hR, mbp_s, tf_n h, if_pos rfl]
theorem op_report {M : mM} {a1 a2 a3 : Int32} (hI : Inv M) : ∃ M', f_law_c20 a1 a2 a3 M = some M' ∧ Inv M' := by
  unfold f_law_c20
  by_cases h : a3 = 0
  · obtain ⟨v, M1, M2, e1, e2, e3⟩ := op_report0 (a1 := a1) (a2 := a2) (Or.inl rfl) hI
    rw [if_pos h, e1, mbw_s, if_pos h, e2, mbw_s, if_pos rfl]
    exact ⟨M2, rfl, e3⟩
  · obtain ⟨v, M1, M2, e1, e2, e3⟩ := op_report0 (a1 := a1) (a2 := a2) (Or.inr rfl) hI
    rw [if_neg h, e1, mbw_s, if_neg h, e2, mbw_s, if_pos rfl]
    exact ⟨M2, rfl, e3⟩
/-- DEAD alone is other -/
def bDd (A : Bd) (c : Nat) (v : Int32) : Bd := (bN A, bP A, bG A, bK A, bW A, up (bD A) c v)
theorem wf_dd {A : Bd} {c : Nat} {v : Int32} (h : wf A) (hv : is01 v) : wf (bDd A c v) := by
  obtain ⟨h1, h2, h3, h4, h5, h6⟩ := h
  refine ⟨h1, h2, h3, h4, h5, fun d hd => ?_⟩
  show is01 (if d = c then v else bD A d)
  by_cases e : d = c
  · rw [if_pos e]; exact hv
  · rw [if_neg e]; exact h6 d hd
theorem wC_dd {M M' : mM} {A : Bd} {c : Nat} {v : Int32} (hc : c < bN A) (hv : is01 v) (e1 : M'.1 6 c = v) (e2 : M'.1 97 (74 + c) = v) (hB : ∀ q, q = 2 ∨ q = 3 ∨ q = 4 ∨ q = 5 ∨ q = 8 → M'.1 q = M.1 q) (hB6 : ∀ i, i ≠ c → M'.1 6 i = M.1 6 i) (hR : ∀ j, j = 0 ∨ (10 ≤ j ∧ j < 90 ∧ j ≠ 74 + c) → M'.1 97 j = M.1 97 j) (h : wC 1 97 M A) : wC 1 97 M' (bDd A c v) := by
  obtain ⟨hw, hB', hR', h01⟩ := h
  have hn := hw.1
  obtain ⟨b0, b1, b2, b3, b4, b6⟩ := hB'
  obtain ⟨r0, r1, r2, r3, r4, r5⟩ := hR'
  refine ⟨wf_dd hw hv, ⟨?_, fun d hd => ?_, fun d hd => ?_, fun d hd => ?_, fun d hd => ?_, fun p hp => ?_⟩, ⟨?_, fun d hd => ?_, fun d hd => ?_, fun d hd => ?_, fun d hd => ?_, fun d hd => ?_⟩, fun i hi => ?_⟩
  · rw [hB (1 + 1) (by omega)]; exact b0
  · rw [hB (1 + 1 + 1) (by omega)]; exact b1 d hd
  · rw [hB (1 + 1 + 2) (by omega)]; exact b2 d hd
  · rw [hB (1 + 1 + 3) (by omega)]; exact b3 d hd
  · show M'.1 6 d = (if d = c then v else bD A d)
    by_cases e : d = c
    · subst e; rw [if_pos rfl]; exact e1
    · rw [if_neg e, hB6 d e]; exact b4 d hd
  · rw [hB (1 + 1 + 6) (by omega)]; exact b6 p hp
  · rw [hR 0 (by omega)]; exact r0
  · have hd : d < bN A := hd
    rw [hR _ (by omega)]; exact r1 d hd
  · have hd : d < bN A := hd
    rw [hR _ (by omega)]; exact r2 d hd
  · have hd : d < bN A := hd
    rw [hR _ (by omega)]; exact r3 d hd
  · have hd : d < bN A := hd
    rw [hR _ (by omega)]; exact r4 d hd
  · have hd : d < bN A := hd
    show _ = (if d = c then v else bD A d)
    by_cases e : d = c
    · subst e; rw [if_pos rfl]; exact e2
    · rw [if_neg e, hR _ (by omega)]; exact r5 d hd
  · show is01 (M'.1 6 i)
    by_cases e : i = c
    · subst e; rw [e1]; exact hv
    · rw [hB6 i e]; exact h01 i hi
theorem op_dead0 {M : mM} {a1 a2 : Int32} (h2 : is01 a2) (hI : Inv M) : ∃ v M' M2, f_X9_dead a1 a2 M = some (v, M') ∧ f_X10_dead a1 a2 M' = some (v, M2) ∧ Inv M2 := by
  obtain ⟨⟨K, hA, hG⟩, -⟩ := id hI
  obtain ⟨hC, hT, hV, hH, hP, hS, hN, hL, hO, hW⟩ := id hA
  obtain ⟨hw, hB, hR, h01⟩ := id hC
  have hB : repB 2 M K.1 := hB
  have hn := hw.1
  have ht := hT.1
  have hl40 := hL.1
  unfold f_X9_dead
  rw [X0_has_c hB, show M.1 25 0 = nI K.2.2.2.2.2 from hL.2.1]
  by_cases h : isC K.1 a1
  · rw [tf_y h, if_neg (by decide)]
    obtain ⟨c, hc, rfl⟩ := isC_ex hn h
    simp only [ncl (show c < 2147483648 by omega), mlt_s]
    rw [mgd_s ((nin (by omega)).mpr (by omega)), show M.1 6 c = bD K.1 c from hB.2.2.2.2.1 c hc]
    have b28 : ∀ M1, repR 97 M1 K.1 → f_X10_dead (nI c) a2 M1 = f_X10_dead_b28 (nI c) a2 (bD K.1 c) a2 M1 := fun M1 hR1 => by
      unfold f_X10_dead
      rw [X10_isCube_c hn hR1, mbp_s, tf_y h, if_neg (by decide)]
      simp only [ladd, ncl (show 74 + c < 2147483648 by omega)]
      rw [mgd_s ((nin (by omega)).mpr (by omega)), hR1.2.2.2.2.2 c hc]
      rcases h2 with rfl | rfl
      · rw [if_pos rfl]
      · rw [if_neg (by decide)]
    by_cases h3 : bD K.1 c = a2
    · refine ⟨0, M, M, by rw [if_pos h3], ?_, hI⟩
      rw [b28 M hR]
      unfold f_X10_dead_b28
      rw [if_pos h3]
    · rw [if_neg h3]
      by_cases h4 : K.2.2.2.2.2 < 40
      · obtain ⟨n, hne⟩ : ∃ n, n = K.2.2.2.2.2 := ⟨_, rfl⟩
        have hL' := hL
        have hO' := hO
        rw [← hne] at h4 hL' hO' ⊢
        rw [if_pos ((ltL (m := 40) (by decide) (by omega)).mpr h4), mgd_s ((nin (by omega)).mpr (by omega)), X2_note (n := n) (by rw [mI_n (by omega)]; exact hL'.2.1) h4, mbw_s, nar_01 h2]
        have e11 : (mI M 6 c a2).1 1 1 = nI K.2.1 := by rw [mI_n (by omega)]; exact hT.2.1
        rw [e11]
        have hs : (mI (mI (mI (mI (mI M 6 c a2) (25 + 1) n (nI c)) (25 + 2) n (nI K.2.1)) (25 + 3) n a2) 25 0 (nI (n + 1))).1 97 = M.1 97 := by simp (disch := omega) only [mI_n, mI_ne]
        generalize hM1 : mI (mI (mI (mI (mI M 6 c a2) (25 + 1) n (nI c)) (25 + 2) n (nI K.2.1)) (25 + 3) n a2) 25 0 (nI (n + 1)) = M1 at hs
        refine ⟨1, M1, mI (mI (mI (mI (mI M1 97 (74 + c) a2) 97 (1714 + n) (nI c)) 97 (1754 + n) (nI K.2.1)) 97 (1794 + n) a2) 97 4 (nI (n + 1)), rfl, ?_, ?_⟩
        · have hR1 : repR 97 M1 K.1 := repR_fr hn (by rw [hs]) (fun j _ _ => by rw [hs]) hR
          have e5 : M1.1 97 5 = nI K.2.1 := by rw [hs]; exact hT.2.2
          have e4 : M1.1 97 4 = nI n := by rw [hs]; exact hL'.2.2.1
          rw [b28 M1 hR1]
          unfold f_X10_dead_b28
          rw [if_neg h3, e4, if_neg (fun e => by have : _ = 40 := (eqL (m := 40) (by decide) (by omega)).mp e; omega)]
          have b66 : f_X10_dead_b66 (nI c) (nI n) (74 + nI c) a2 M1 = some (1, mI (mI (mI (mI (mI M1 97 (74 + c) a2) 97 (1714 + n) (nI c)) 97 (1754 + n) (nI K.2.1)) 97 (1794 + n) a2) 97 4 (nI (n + 1))) := by
            unfold f_X10_dead_b66
            simp only [ladd, ncl (show 74 + c < 2147483648 by omega), ncl (show 1714 + n < 2147483648 by omega), ncl (show 1754 + n < 2147483648 by omega), ncl (show 1794 + n < 2147483648 by omega), mlt_s]
            rw [mgd_s ((nin (by omega)).mpr (by omega)), mgd_s ((nin (by omega)).mpr (by omega)), mgd_s ((nin (by omega)).mpr (by omega)), mgd_s ((nin (by omega)).mpr (by omega)), mgd_s ((nin (by omega)).mpr (by omega))]
            rw [show (mI (mI M1 97 (74 + c) a2) 97 (1714 + n) (nI c)).1 97 5 = nI K.2.1 by rw [mI_n (by omega), mI_n (by omega)]; exact e5]
            rw [show (mI (mI (mI M1 97 (74 + c) a2) 97 (1714 + n) (nI c)) 97 (1754 + n) (nI K.2.1)).1 97 (74 + c) = a2 by rw [mI_n (by omega), mI_n (by omega)]; exact mI_e]
            rw [show (mI (mI (mI (mI M1 97 (74 + c) a2) 97 (1714 + n) (nI c)) 97 (1754 + n) (nI K.2.1)) 97 (1794 + n) a2).1 97 4 = nI n by rw [mI_n (by omega), mI_n (by omega), mI_n (by omega), mI_n (by omega)]; exact e4, nI_1]
          rcases h2 with rfl | rfl
          · rw [if_pos rfl]; exact b66
          · rw [if_neg (by decide)]; exact b66
        · subst hM1
          refine Inv_now hI (fun q hq hs h97 h99 => by simp (disch := omega) only [mI_n, mI_ne]) (by simp (disch := omega) only [mI_n, mI_ne]) rfl ⟨(bDd K.1 c a2, K.2.1, K.2.2.1, K.2.2.2.1, K.2.2.2.2.1, n + 1), ⟨wC_dd hc h2 ?_ ?_ (fun q hq => by simp (disch := omega) only [mI_n, mI_ne]) (fun i hi => by simp (disch := omega) only [mI_n, mI_ne]) (fun j hj => by simp (disch := omega) only [mI_n, mI_ne]) hC, wT_fr (by simp (disch := omega) only [mI_n, mI_ne]) (by simp (disch := omega) only [mI_n, mI_ne]) hT, wV_fr (n := bN K.1) hn (fun q hq => by simp (disch := omega) only [mI_n, mI_ne]) (fun j _ _ => by simp (disch := omega) only [mI_n, mI_ne]) hV, wH_fr (n := bN K.1) hn (by simp (disch := omega) only [mI_n, mI_ne]) (fun j _ _ => by simp (disch := omega) only [mI_n, mI_ne]) hH, wP_fr (by simp (disch := omega) only [mI_n, mI_ne]) (by simp (disch := omega) only [mI_n, mI_ne]) (by simp (disch := omega) only [mI_n, mI_ne]) (fun j hj => by simp (disch := omega) only [mI_n, mI_ne]) (fun j _ _ => by simp (disch := omega) only [mI_n, mI_ne]) (fun j _ _ => by simp (disch := omega) only [mI_n, mI_ne]) hP, wS_fr (by simp (disch := omega) only [mI_n, mI_ne]) (by simp (disch := omega) only [mI_n, mI_ne]) (by rfl) (fun j _ _ => by simp (disch := omega) only [mI_n, mI_ne]) (fun j _ _ => by simp (disch := omega) only [mI_n, mI_ne]) hS, wN_fr (fun q hq => by simp (disch := omega) only [mI_n, mI_ne]) (by simp (disch := omega) only [mI_n, mI_ne]) (fun j _ _ => by simp (disch := omega) only [mI_n, mI_ne]) hN, ?_, ?_, hW⟩, repG_fr (by simp (disch := omega) only [mI_n, mI_ne]) hG⟩
          · rw [mI_n (by omega), mI_n (by omega), mI_n (by omega), mI_n (by omega), mI_n (by omega), mI_n (by omega), mI_n (by omega), mI_n (by omega), mI_n (by omega)]; exact mI_e
          · rw [mI_n (by omega), mI_n (by omega), mI_n (by omega), mI_n (by omega)]; exact mI_e
          · refine wN_add (x := nI c) (u := K.2.1) (z := a2) hL' h4 (Nat.le_refl _) h2 ?_ mI_e ⟨?_, ?_⟩ ⟨?_, ?_⟩ ⟨?_, ?_⟩ (fun i hi => ⟨by simp (disch := omega) only [mI_n, mI_ne], by simp (disch := omega) only [mI_n, mI_ne], by simp (disch := omega) only [mI_n, mI_ne]⟩) (fun i hi hi2 => ⟨by simp (disch := omega) only [mI_n, mI_ne], by simp (disch := omega) only [mI_n, mI_ne], by simp (disch := omega) only [mI_n, mI_ne]⟩)
            · rw [mI_n (by omega), mI_n (by omega), mI_n (by omega), mI_n (by omega), mI_n (by omega)]; exact mI_e
            · rw [mI_n (by omega), mI_n (by omega), mI_n (by omega), mI_n (by omega), mI_n (by omega), mI_n (by omega), mI_n (by omega), mI_n (by omega)]; exact mI_e
            · rw [mI_n (by omega), mI_n (by omega), mI_n (by omega)]; exact mI_e
            · rw [mI_n (by omega), mI_n (by omega), mI_n (by omega), mI_n (by omega), mI_n (by omega), mI_n (by omega), mI_n (by omega)]; exact mI_e
            · rw [mI_n (by omega), mI_n (by omega)]; exact mI_e
            · rw [mI_n (by omega), mI_n (by omega), mI_n (by omega), mI_n (by omega), mI_n (by omega), mI_n (by omega)]; exact mI_e
            · rw [mI_n (by omega)]; exact mI_e
          · intro i k hik hk
            have hk : k < n + 1 := hk
            have r : ∀ i, i ≠ n → (mI (mI (mI (mI (mI (mI (mI (mI (mI (mI M 6 c a2) (25 + 1) n (nI c)) (25 + 2) n (nI K.2.1)) (25 + 3) n a2) 25 0 (nI (n + 1))) 97 (74 + c) a2) 97 (1714 + n) (nI c)) 97 (1754 + n) (nI K.2.1)) 97 (1794 + n) a2) 97 4 (nI (n + 1))).1 (1 + 24 + 2) i = M.1 (1 + 24 + 2) i := fun i hi => by simp (disch := omega) only [mI_n, mI_ne]
            have rn : (mI (mI (mI (mI (mI (mI (mI (mI (mI (mI M 6 c a2) (25 + 1) n (nI c)) (25 + 2) n (nI K.2.1)) (25 + 3) n a2) 25 0 (nI (n + 1))) 97 (74 + c) a2) 97 (1714 + n) (nI c)) 97 (1754 + n) (nI K.2.1)) 97 (1794 + n) a2) 97 4 (nI (n + 1))).1 (1 + 24 + 2) n = nI K.2.1 := by
              rw [mI_n (by omega), mI_n (by omega), mI_n (by omega), mI_n (by omega), mI_n (by omega), mI_n (by omega), mI_n (by omega)]; exact mI_e
            by_cases e : k = n
            · rw [e, rn]
              by_cases e2 : i = n
              · rw [e2, rn]; grind
              · rw [r i e2]
                obtain ⟨-, -, -, u, hu, hu2⟩ := hL'.2.2.2.1 i (by omega)
                rw [hu2]
                exact (nle (by omega) (by omega)).mpr hu
            · rw [r k e, r i (by omega)]
              exact hO' i k hik (by omega)
      · rw [if_neg (fun e => h4 ((ltL (m := 40) (by decide) (by omega)).mp e))]
        refine ⟨_, M, M, rfl, ?_, hI⟩
        rw [b28 M hR]
        unfold f_X10_dead_b28
        have e4 : K.2.2.2.2.2 = 40 := by omega
        rw [if_neg h3, hL.2.2.1, e4, if_pos (show nI 40 = (40 : Int32) from rfl)]
  · refine ⟨-1, M, M, ?_, ?_, hI⟩
    · rw [tf_n h, if_pos rfl]
    · unfold f_X10_dead
      rw [X10_isCube_c hn hR, mbp_s, tf_n h, if_pos rfl]
theorem op_dead {M : mM} {a1 a2 : Int32} (hI : Inv M) : ∃ M', f_law_c3 a1 a2 M = some M' ∧ Inv M' := by
  unfold f_law_c3
  by_cases h : a2 = 0
  · obtain ⟨v, M1, M2, e1, e2, e3⟩ := op_dead0 (a1 := a1) (Or.inl rfl) hI
    rw [if_pos h, e1, mbw_s, if_pos h, e2, mbw_s, if_pos rfl]
    exact ⟨M2, rfl, e3⟩
  · obtain ⟨v, M1, M2, e1, e2, e3⟩ := op_dead0 (a1 := a1) (Or.inr rfl) hI
    rw [if_neg h, e1, mbw_s, if_neg h, e2, mbw_s, if_pos rfl]
    exact ⟨M2, rfl, e3⟩
