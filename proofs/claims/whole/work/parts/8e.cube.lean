/-! cube -/
abbrev cM (M : mM) (n p : Nat) (k v : Int32) : mM := mI (mI (mI (mI (mI (mI (mI (mI (mI (mI M 3 n k) 4 n (nI p)) 5 n v) 6 n 0) 8 p (nI n)) 2 0 (nI (n + 1))) 10 n 0) 11 n 0) 12 n 0) 13 n (-1)
abbrev jM (M : mM) (n x y : Nat) (k v : Int32) : mM := mI (mI (mI (mI (mI (mI (mI (mI M 97 (10 + n) k) 97 (26 + n) (nI x)) 97 (42 + n) (nI y)) 97 (58 + n) v) 97 (74 + n) 0) 97 (90 + n) 0) 97 (106 + n) 0) 97 (122 + n) (-4)
abbrev dM (M : mM) (n x y : Nat) (k v : Int32) : mM := mI (mI (jM M n x y k v) 97 0 (nI (n + 1))) 99 (8 * x + y) (nI (n + 1))
theorem X8_addCube {n p : Nat} {k v : Int32} {M : mM} {A : Bd} (hB : repB 2 M A) (hn : bN A = n) (h16 : n < 16) (hp : p < 120) (hf : bG A p = -1) : f_X8_addCube 1 k (nI p) v M = some (nI n, cM M n p k v) := by
  have h0 : M.1 2 0 = nI n := by rw [hB.1, hn]
  have e : f_X0_place 2 k (nI p) v M = some (mI (mI (mI (mI (mI (mI M 3 n k) 4 n (nI p)) 5 n v) 6 n 0) 8 p (nI n)) 2 0 (nI (n + 1))) := by
    have a1 : (mI M (2 + 1) n k).1 2 0 = nI n := by rw [mI_n (by omega)]; exact h0
    have a2 : (mI (mI M (2 + 1) n k) (2 + 2) n (nI p)).1 2 0 = nI n := by rw [mI_n (by omega)]; exact a1
    have a3 : (mI (mI (mI M (2 + 1) n k) (2 + 2) n (nI p)) (2 + 3) n v).1 2 0 = nI n := by rw [mI_n (by omega)]; exact a2
    have a4 : (mI (mI (mI (mI M (2 + 1) n k) (2 + 2) n (nI p)) (2 + 3) n v) (2 + 4) n 0).1 2 0 = nI n := by rw [mI_n (by omega)]; exact a3
    have a5 : (mI (mI (mI (mI (mI M (2 + 1) n k) (2 + 2) n (nI p)) (2 + 3) n v) (2 + 4) n 0) (2 + 6) p (nI n)).1 2 0 = nI n := by rw [mI_n (by omega)]; exact a4
    unfold f_X0_place
    rw [X0_inCell hB hp, mbp_s, if_pos hf, h0, if_neg (fun q => by have : 16 ≤ _ := (lle (m := 16) (by decide) (by omega)).mp q; omega), mgd_s ((nin (by omega)).mpr h16), ncl (by omega), mlt_s, a1, mgd_s ((nin (by omega)).mpr h16), ncl (by omega), mlt_s, a2, mgd_s ((nin (by omega)).mpr h16), ncl (by omega), mlt_s, a3, mgd_s ((nin (by omega)).mpr h16), ncl (by omega), mlt_s, a4, mgd_s ((nin (by omega)).mpr hp), ncl (by omega), mlt_s, a5, nI_1, mlt_s]
  unfold f_X8_addCube
  show mlt (M.1 2 0) _ = _
  rw [h0, mlt_s, if_pos ((ltL (m := 16) (by decide) (by omega)).mpr h16)]
  show mbp (f_X0_place 2 k (nI p) v M) _ = _
  rw [e, mbp_s]
  simp only [mlt_s, ncl (show n < 2147483648 by omega)]
  rw [mgd_s ((nin (by omega)).mpr h16), mgd_s ((nin (by omega)).mpr h16), mgd_s ((nin (by omega)).mpr h16), mgd_s ((nin (by omega)).mpr h16)]
theorem X10_cube {n x y : Nat} {k v : Int32} {M : mM} {A : Bd} (hw : wf A) (hR : repR 97 M A) (hG : repG M A) (hn : bN A = n) (h16 : n < 16) (hx : x < 10) (hy : y < 8) (hk : 0 ≤ k ∧ k ≤ 3) (hv : 0 ≤ v ∧ v ≤ 999) : f_X10_cube k (nI x) (nI y) v M = if bG A (12 * (y + 1) + x + 1) < 0 then (mbp (f_X10_isWhole (f_X10_everyone (dM M n x y k v)) (dM M n x y k v)) fun v184 => if v184 = 0 then some (-3, mI (mI (dM M n x y k v) 97 0 (nI n)) 99 (8 * x + y) 0) else some (nI n, dM M n x y k v)) else some (-3, M) := by
  have h0 : M.1 97 0 = nI n := by rw [hR.1, hn]
  unfold f_X10_cube
  rw [X10_is_y hk, if_neg (by decide), X10_isCell_c, tf_y ⟨⟨nle0 (by omega), (leL (m := 9) (by decide) (by omega)).mpr (show _ ≤ 9 by omega)⟩, nle0 (by omega), (leL (m := 7) (by decide) (by omega)).mpr (show _ ≤ 7 by omega)⟩, if_neg (by decide), X10_is_y hv, if_neg (by decide), h0, if_neg (fun q => by have : _ = 16 := (eqL (m := 16) (by decide) (by omega)).mp q; omega), X10_cubeAtN hw hG hx hy, mbp_s]
  by_cases hf : bG A (12 * (y + 1) + x + 1) < 0
  · rw [if_pos hf, md, if_pos hf, if_pos (by decide)]
    simp only [mlt_s, ladd, ncl (show 10 + n < 2147483648 by omega), ncl (show 26 + n < 2147483648 by omega), ncl (show 42 + n < 2147483648 by omega), ncl (show 58 + n < 2147483648 by omega), ncl (show 74 + n < 2147483648 by omega), ncl (show 90 + n < 2147483648 by omega), ncl (show 106 + n < 2147483648 by omega), ncl (show 122 + n < 2147483648 by omega), lmul, nadd, ncl (show 8 * x + y < 2147483648 by omega), nI_1]
    have a1 : (jM M n x y k v).1 97 0 = nI n := by rw [mI_n (by omega), mI_n (by omega), mI_n (by omega), mI_n (by omega), mI_n (by omega), mI_n (by omega), mI_n (by omega), mI_n (by omega)]; exact h0
    have a2 : (dM M n x y k v).1 97 0 = nI (n + 1) := by rw [mI_n (by omega)]; exact mI_e
    rw [mgd_s ((nin (by omega)).mpr (by omega)), mgd_s ((nin (by omega)).mpr (by omega)), mgd_s ((nin (by omega)).mpr (by omega)), mgd_s ((nin (by omega)).mpr (by omega)), mgd_s ((nin (by omega)).mpr (by omega)), mgd_s ((nin (by omega)).mpr (by omega)), mgd_s ((nin (by omega)).mpr (by omega)), mgd_s ((nin (by omega)).mpr (by omega)), mgd_s ((nin (by omega)).mpr (by omega)), a1, nI_1]
    rw [a2, mgd_s ((nin (by omega)).mpr (by omega)), show nI (n + 1) - 1 = nI n by rw [← nI_1]; grind]
  · rw [if_neg hf, md, if_neg hf, if_neg hf]
theorem rR_ad {M : mM} {A : Bd} {n x y : Nat} {k v : Int32} (hR : repR 97 M A) (hn : bN A = n) (h16 : n < 16) (hx : x < 10) (hy : y < 8) : repR 97 (dM M n x y k v) (bAd A k (12 * (y + 1) + x + 1) v) := by
  obtain ⟨c1, c2⟩ := cx_of hx hy
  subst hn
  obtain ⟨r0, r1, r2, r3, r4, r5⟩ := hR
  refine ⟨?_, fun d hd => ?_, fun d hd => ?_, fun d hd => ?_, fun d hd => ?_, fun d hd => ?_⟩
  · show _ = nI (bN A + 1)
    simp (disch := omega) only [mI_n, mI_e]
  · have hd : d < bN A + 1 := hd
    show _ = (if d = bN A then k else bK A d)
    by_cases e : d = bN A
    · rw [if_pos e, e]; simp (disch := omega) only [mI_n, mI_e]
    · rw [if_neg e]; simp (disch := omega) only [mI_n]; exact r1 d (by omega)
  · have hd : d < bN A + 1 := hd
    show _ = cx (if d = bN A then _ else bP A d)
    by_cases e : d = bN A
    · rw [if_pos e, e, c1]; simp (disch := omega) only [mI_n, mI_e]
    · rw [if_neg e]; simp (disch := omega) only [mI_n]; exact r2 d (by omega)
  · have hd : d < bN A + 1 := hd
    show _ = cy (if d = bN A then _ else bP A d)
    by_cases e : d = bN A
    · rw [if_pos e, e, c2]; simp (disch := omega) only [mI_n, mI_e]
    · rw [if_neg e]; simp (disch := omega) only [mI_n]; exact r3 d (by omega)
  · have hd : d < bN A + 1 := hd
    show _ = (if d = bN A then v else bW A d)
    by_cases e : d = bN A
    · rw [if_pos e, e]; simp (disch := omega) only [mI_n, mI_e]
    · rw [if_neg e]; simp (disch := omega) only [mI_n]; exact r4 d (by omega)
  · have hd : d < bN A + 1 := hd
    show _ = (if d = bN A then 0 else bD A d)
    by_cases e : d = bN A
    · rw [if_pos e, e]; simp (disch := omega) only [mI_n, mI_e]
    · rw [if_neg e]; simp (disch := omega) only [mI_n]; exact r5 d (by omega)
theorem rG_ad {M : mM} {A : Bd} {n x y : Nat} {k v : Int32} (hG : repG M A) (hn : bN A = n) (hx : x < 10) (hy : y < 8) : repG (dM M n x y k v) (bAd A k (12 * (y + 1) + x + 1) v) := by
  intro x' hx' y' hy'
  subst hn
  show _ = (if 12 * (y' + 1) + x' + 1 = 12 * (y + 1) + x + 1 then nI (bN A) else bG A (12 * (y' + 1) + x' + 1)) + 1
  by_cases e : 12 * (y' + 1) + x' + 1 = 12 * (y + 1) + x + 1
  · have e1 : x' = x := by omega
    have e2 : y' = y := by omega
    rw [if_pos e, nI_1, e1, e2]
    simp (disch := omega) only [mI_n, mI_e]
  · rw [if_neg e]
    simp (disch := omega) only [mI_n]
    exact hG x' hx' y' hy'
theorem wC_ad {M : mM} {A : Bd} {n x y : Nat} {k v : Int32} (h : wC 1 97 M A) (hG : repG M A) (hn : bN A = n) (h16 : n < 16) (hx : x < 10) (hy : y < 8) (hf : bG A (12 * (y + 1) + x + 1) = -1) (hk : isK k) : wC 1 97 (dM (cM M n (12 * (y + 1) + x + 1) k v) n x y k v) (bAd A k (12 * (y + 1) + x + 1) v) ∧ repG (dM (cM M n (12 * (y + 1) + x + 1) k v) n x y k v) (bAd A k (12 * (y + 1) + x + 1) v) := by
  obtain ⟨hw, hB, hR, h01⟩ := h
  have hp := cellI hx hy
  have hRc : repR 97 (cM M n (12 * (y + 1) + x + 1) k v) A := repR_fr hw.1 (by simp (disch := omega) only [mI_n, mI_ne]) (fun j _ _ => by simp (disch := omega) only [mI_n, mI_ne]) hR
  have hGc : repG (cM M n (12 * (y + 1) + x + 1) k v) A := repG_fr (by simp (disch := omega) only [mI_n, mI_ne]) hG
  refine ⟨⟨wf_ad hw (by omega) hp hf hk, ?_, rR_ad hRc hn h16 hx hy, fun i hi => ?_⟩, rG_ad hGc hn hx hy⟩
  · subst hn
    obtain ⟨b0, b1, b2, b3, b4, b6⟩ := hB
    refine ⟨?_, fun d hd => ?_, fun d hd => ?_, fun d hd => ?_, fun d hd => ?_, fun q hq => ?_⟩
    · show (dM (cM M (bN A) (12 * (y + 1) + x + 1) k v) (bN A) x y k v).1 2 0 = nI (bN A + 1)
      simp (disch := omega) only [mI_n, mI_e]
    · have hd : d < bN A + 1 := hd
      show (dM (cM M (bN A) (12 * (y + 1) + x + 1) k v) (bN A) x y k v).1 3 d = (if d = bN A then k else bK A d)
      by_cases e : d = bN A
      · rw [if_pos e, e]; simp (disch := omega) only [mI_n, mI_e]
      · rw [if_neg e]; simp (disch := omega) only [mI_n]; exact b1 d (by omega)
    · have hd : d < bN A + 1 := hd
      show (dM (cM M (bN A) (12 * (y + 1) + x + 1) k v) (bN A) x y k v).1 4 d = nI (if d = bN A then _ else bP A d)
      by_cases e : d = bN A
      · rw [if_pos e, e]; simp (disch := omega) only [mI_n, mI_e]
      · rw [if_neg e]; simp (disch := omega) only [mI_n]; exact b2 d (by omega)
    · have hd : d < bN A + 1 := hd
      show (dM (cM M (bN A) (12 * (y + 1) + x + 1) k v) (bN A) x y k v).1 5 d = (if d = bN A then v else bW A d)
      by_cases e : d = bN A
      · rw [if_pos e, e]; simp (disch := omega) only [mI_n, mI_e]
      · rw [if_neg e]; simp (disch := omega) only [mI_n]; exact b3 d (by omega)
    · have hd : d < bN A + 1 := hd
      show (dM (cM M (bN A) (12 * (y + 1) + x + 1) k v) (bN A) x y k v).1 6 d = (if d = bN A then 0 else bD A d)
      by_cases e : d = bN A
      · rw [if_pos e, e]; simp (disch := omega) only [mI_n, mI_e]
      · rw [if_neg e]; simp (disch := omega) only [mI_n]; exact b4 d (by omega)
    · show (dM (cM M (bN A) (12 * (y + 1) + x + 1) k v) (bN A) x y k v).1 8 q = (if q = 12 * (y + 1) + x + 1 then nI (bN A) else bG A q)
      by_cases e : q = 12 * (y + 1) + x + 1
      · rw [if_pos e, e]; simp (disch := omega) only [mI_n, mI_e]
      · rw [if_neg e]; simp (disch := omega) only [mI_n]; exact b6 q hq
  · show is01 ((dM (cM M n (12 * (y + 1) + x + 1) k v) n x y k v).1 6 i)
    by_cases e : i = n
    · rw [e, show (dM (cM M n (12 * (y + 1) + x + 1) k v) n x y k v).1 6 n = 0 by simp (disch := omega) only [mI_n, mI_e]]
      exact Or.inl rfl
    · simp (disch := omega) only [mI_n]; exact h01 i hi
theorem op_cube {M : mM} {a1 a2 a3 a4 : Int32} (hI : Inv M) : ∃ M', f_law_c0 a1 a2 a3 a4 M = some M' ∧ Inv M' := by
  obtain ⟨⟨K, hA, hG⟩, -⟩ := id hI
  obtain ⟨hC, hT, hV, hH, hP, hS, hN, hL, hO, hW⟩ := id hA
  obtain ⟨hw, hB, hR, h01⟩ := id hC
  have hB : repB 2 M K.1 := hB
  have hn := hw.1
  by_cases h : ((0 ≤ a1 ∧ a1 ≤ 3) ∧ 0 ≤ a4 ∧ a4 ≤ 999) ∧ (0 ≤ a2 ∧ a2 ≤ 9) ∧ 0 ≤ a3 ∧ a3 ≤ 7
  · obtain ⟨⟨hk, hv⟩, hx, hy⟩ := h
    have hkk : isK a1 := by unfold isK; grind
    unfold f_law_c0 f_X9_cube
    rw [if_neg (show ¬ a1 < 0 by grind), if_neg (show ¬ 4 ≤ a1 by grind), X9_onGrid, tf_y ⟨hx, hy⟩, if_neg (by decide), if_neg (show ¬ a4 < 0 by grind), if_pos hv.2, hB.1]
    obtain ⟨x, hx, rfl⟩ := i_le (n := 9) (by decide) hx
    obtain ⟨y, hy, rfl⟩ := i_le (n := 7) (by decide) hy
    obtain ⟨n, hne⟩ : ∃ n, bN K.1 = n := ⟨_, rfl⟩
    rw [hne]
    have hp := cellI (x := x) (y := y) (by omega) (by omega)
    have hp2 := hp.2.1
    by_cases h16 : n < 16
    · rw [if_pos ((ltL (m := 16) (by decide) (by omega)).mpr h16), cell_of (by omega) (by omega), mlt_s, X0_inCell hB (by omega), mbp_s]
      by_cases hf : bG K.1 (12 * (y + 1) + x + 1) = -1
      · rw [if_pos hf, X0_holdsOn_all hB hn hp, mbp_s, hne]
        by_cases hh : hold K.1 (12 * (y + 1) + x + 1) n (-1)
        · obtain ⟨C1, G1⟩ := wC_ad (v := a4) hC hG hne h16 (by omega) (by omega) hf hkk
          have hRc : repR 97 (cM M n (12 * (y + 1) + x + 1) a1 a4) K.1 := repR_fr hn (by simp (disch := omega) only [mI_n, mI_ne]) (fun j _ _ => by simp (disch := omega) only [mI_n, mI_ne]) hR
          have hGc : repG (cM M n (12 * (y + 1) + x + 1) a1 a4) K.1 := repG_fr (by simp (disch := omega) only [mI_n, mI_ne]) hG
          have hwh : Wh (bP (bAd K.1 a1 (12 * (y + 1) + x + 1) a4)) (fun d => d < bN (bAd K.1 a1 (12 * (y + 1) + x + 1) a4)) := (Wh_ad hw hW hp).mpr (by rw [hne]; exact hh)
          rw [tf_y hh, if_neg (by decide), X8_addCube hB hne h16 (by omega) hf, mbw_s, mbw_s, X10_cube hw hRc hGc hne h16 (by omega) (by omega) hk hv, if_pos (by rw [hf]; decide), X10_allWhole C1.1 C1.2.2.1 G1 (Nat.succ_pos _), mbp_s, tf_y hwh, if_neg (by decide), mbw_s, if_pos rfl]
          refine ⟨_, rfl, Inv_now hI (fun q hq hs h97 h99 => by simp (disch := omega) only [mI_n, mI_ne]) (by simp (disch := omega) only [mI_n, mI_ne]) rfl ⟨(bAd K.1 a1 (12 * (y + 1) + x + 1) a4, K.2), ⟨C1, wT_fr (by simp (disch := omega) only [mI_n, mI_ne]) (by simp (disch := omega) only [mI_n, mI_ne]) hT, fun d hd => ?_, fun d hd => ?_, wP_fr (by simp (disch := omega) only [mI_n, mI_ne]) (by simp (disch := omega) only [mI_n, mI_ne]) (by simp (disch := omega) only [mI_n, mI_ne]) (fun j hj => by simp (disch := omega) only [mI_n, mI_ne]) (fun j _ _ => by simp (disch := omega) only [mI_n, mI_ne]) (fun j _ _ => by simp (disch := omega) only [mI_n, mI_ne]) hP, wS_fr (by simp (disch := omega) only [mI_n, mI_ne]) (by simp (disch := omega) only [mI_n, mI_ne]) (by rfl) (fun j _ _ => by simp (disch := omega) only [mI_n, mI_ne]) (fun j _ _ => by simp (disch := omega) only [mI_n, mI_ne]) hS, wN_fr (fun q hq => by simp (disch := omega) only [mI_n, mI_ne]) (by simp (disch := omega) only [mI_n, mI_ne]) (fun j _ _ => by simp (disch := omega) only [mI_n, mI_ne]) hN, wN_fr (fun q hq => by simp (disch := omega) only [mI_n, mI_ne]) (by simp (disch := omega) only [mI_n, mI_ne]) (fun j _ _ => by simp (disch := omega) only [mI_n, mI_ne]) hL, srt_fr (by simp (disch := omega) only [mI_n, mI_ne]) hO, Or.inr hwh⟩, G1⟩⟩
          · have hd : d < bN K.1 + 1 := hd
            by_cases e : d = n
            · subst e
              exact ⟨by simp (disch := omega) only [mI_n, mI_e], by simp (disch := omega) only [mI_n, mI_e], by simp (disch := omega) only [mI_n, mI_e]⟩
            · have := hV d (by omega)
              exact ⟨by simp (disch := omega) only [mI_n, mI_ne]; exact this.1, by simp (disch := omega) only [mI_n, mI_ne]; exact this.2.1, by simp (disch := omega) only [mI_n, mI_ne]; exact this.2.2⟩
          · have hd : d < bN K.1 + 1 := hd
            by_cases e : d = n
            · subst e
              exact Or.inl ⟨by simp (disch := omega) only [mI_n, mI_e], by simp (disch := omega) only [mI_n, mI_e]⟩
            · have := hH d (by omega)
              simp (disch := omega) only [mI_n, mI_ne]
              exact this
        · have hwh : ¬ Wh (bP (bAd K.1 a1 (12 * (y + 1) + x + 1) a4)) (fun d => d < bN (bAd K.1 a1 (12 * (y + 1) + x + 1) a4)) := fun q => hh (by have := (Wh_ad hw hW hp).mp q; rw [hne] at this; exact this)
          have hR2 : repR 97 (dM M n x y a1 a4) (bAd K.1 a1 (12 * (y + 1) + x + 1) a4) := rR_ad hR hne h16 (by omega) (by omega)
          have hG2 : repG (dM M n x y a1 a4) (bAd K.1 a1 (12 * (y + 1) + x + 1) a4) := rG_ad hG hne (by omega) (by omega)
          rw [tf_n hh, if_pos rfl, mbw_s, X10_cube hw hR hG hne h16 (by omega) (by omega) hk hv, if_pos (by rw [hf]; decide), X10_allWhole (wf_ad hw (by omega) hp hf hkk) hR2 hG2 (Nat.succ_pos _), mbp_s, tf_n hwh, if_pos rfl, mbw_s, if_pos rfl]
          refine ⟨_, rfl, Inv_now hI (fun q hq hs h97 h99 => by simp (disch := omega) only [mI_n, mI_ne]) (by simp (disch := omega) only [mI_n, mI_ne]) rfl ⟨K, ⟨⟨hw, repB_fr (by simp (disch := omega) only [mI_n, mI_ne]) (by simp (disch := omega) only [mI_n, mI_ne]) (by simp (disch := omega) only [mI_n, mI_ne]) (by simp (disch := omega) only [mI_n, mI_ne]) (by simp (disch := omega) only [mI_n, mI_ne]) (by simp (disch := omega) only [mI_n, mI_ne]) hB, ⟨?_, fun d hd => ?_, fun d hd => ?_, fun d hd => ?_, fun d hd => ?_, fun d hd => ?_⟩, fun i hi => ?_⟩, wT_fr (by simp (disch := omega) only [mI_n, mI_ne]) (by simp (disch := omega) only [mI_n, mI_ne]) hT, fun d hd => ?_, fun d hd => ?_, wP_fr (by simp (disch := omega) only [mI_n, mI_ne]) (by simp (disch := omega) only [mI_n, mI_ne]) (by simp (disch := omega) only [mI_n, mI_ne]) (fun j hj => by simp (disch := omega) only [mI_n, mI_ne]) (fun j _ _ => by simp (disch := omega) only [mI_n, mI_ne]) (fun j _ _ => by simp (disch := omega) only [mI_n, mI_ne]) hP, wS_fr (by simp (disch := omega) only [mI_n, mI_ne]) (by simp (disch := omega) only [mI_n, mI_ne]) (by rfl) (fun j _ _ => by simp (disch := omega) only [mI_n, mI_ne]) (fun j _ _ => by simp (disch := omega) only [mI_n, mI_ne]) hS, wN_fr (fun q hq => by simp (disch := omega) only [mI_n, mI_ne]) (by simp (disch := omega) only [mI_n, mI_ne]) (fun j _ _ => by simp (disch := omega) only [mI_n, mI_ne]) hN, wN_fr (fun q hq => by simp (disch := omega) only [mI_n, mI_ne]) (by simp (disch := omega) only [mI_n, mI_ne]) (fun j _ _ => by simp (disch := omega) only [mI_n, mI_ne]) hL, srt_fr (by simp (disch := omega) only [mI_n, mI_ne]) hO, hW⟩, fun x' hx' y' hy' => ?_⟩⟩
          · rw [hne]; simp (disch := omega) only [mI_n, mI_e]
          · simp (disch := omega) only [mI_n]; exact hR.2.1 d hd
          · simp (disch := omega) only [mI_n]; exact hR.2.2.1 d hd
          · simp (disch := omega) only [mI_n]; exact hR.2.2.2.1 d hd
          · simp (disch := omega) only [mI_n]; exact hR.2.2.2.2.1 d hd
          · simp (disch := omega) only [mI_n]; exact hR.2.2.2.2.2 d hd
          · simp (disch := omega) only [mI_n]; exact h01 i hi
          · have := hV d hd
            simp (disch := omega) only [mI_n]
            exact this
          · have := hH d hd
            simp (disch := omega) only [mI_n]
            exact this
          · by_cases e : 8 * x' + y' = 8 * x + y
            · have e1 : x' = x := by omega
              have e2 : y' = y := by omega
              rw [e1, e2, hf, mI_e]; rfl
            · simp (disch := omega) only [mI_n]
              exact hG x' hx' y' hy'
      · rw [if_neg hf, mbw_s, X10_cube hw hR hG hne h16 (by omega) (by omega) hk hv, if_neg ?_, mbw_s, if_pos rfl]
        · exact ⟨M, rfl, hI⟩
        · rcases wf_g hw (p := 12 * (y + 1) + x + 1) (by omega) with ⟨q, -⟩ | ⟨c, q1, q2, -⟩ | ⟨-, q⟩
          · exact absurd q hf
          · rw [q2]; exact nlt0 (by omega)
          · exact absurd hp q
    · rw [if_neg (fun q => h16 ((ltL (m := 16) (by decide) (by omega)).mp q)), mbw_s]
      refine ⟨M, ?_, hI⟩
      have e16 : n = 16 := by omega
      unfold f_X10_cube
      rw [X10_is_y hk, if_neg (by decide), X10_isCell_c, tf_y ⟨⟨nle0 (by omega), (leL (m := 9) (by decide) (by omega)).mpr (show _ ≤ 9 by omega)⟩, nle0 (by omega), (leL (m := 7) (by decide) (by omega)).mpr (show _ ≤ 7 by omega)⟩, if_neg (by decide), X10_is_y hv, if_neg (by decide), hR.1, hne, e16, if_pos (show nI 16 = (16 : Int32) from rfl), mbw_s, if_pos rfl]
  · refine ⟨M, ?_, hI⟩
    have e1 : f_X9_cube a1 a2 a3 a4 M = some (-1, M) := by
      unfold f_X9_cube
      rw [X9_onGrid]
      by_cases h1 : a1 < 0
      · rw [if_pos h1]
      rw [if_neg h1]
      by_cases h2 : 4 ≤ a1
      · rw [if_pos h2]
      rw [if_neg h2]
      by_cases h3 : (0 ≤ a2 ∧ a2 ≤ 9) ∧ 0 ≤ a3 ∧ a3 ≤ 7
      · rw [tf_y h3, if_neg (by decide)]
        by_cases h4 : a4 < 0
        · rw [if_pos h4]
        rw [if_neg h4]
        by_cases h5 : a4 ≤ 999
        · exact absurd ⟨⟨⟨by grind, by grind⟩, by grind, h5⟩, h3⟩ h
        · rw [if_neg h5]
      · rw [tf_n h3, if_pos rfl]
    have e2 : f_X10_cube a1 a2 a3 a4 M = some (-1, M) := by
      unfold f_X10_cube
      rw [X10_isCell_c, X10_is_c, X10_is_c]
      by_cases h1 : 0 ≤ a1 ∧ a1 ≤ 3
      · rw [tf_y h1, if_neg (by decide)]
        by_cases h3 : (0 ≤ a2 ∧ a2 ≤ 9) ∧ 0 ≤ a3 ∧ a3 ≤ 7
        · rw [tf_y h3, if_neg (by decide), tf_n (fun q => h ⟨⟨h1, q⟩, h3⟩), if_pos rfl]
        · rw [tf_n h3, if_pos rfl]
      · rw [tf_n h1, if_pos rfl]
    unfold f_law_c0
    rw [e1, mbw_s, e2, mbw_s, if_pos rfl]
