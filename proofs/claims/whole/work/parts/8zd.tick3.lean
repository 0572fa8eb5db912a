/-! ticks: charge is shared, the TICK ends -/
abbrev sW (A : Bd) (W : Nat → Int32) : Bd := (A.1, A.2.1, A.2.2.1, A.2.2.2.1, W, A.2.2.2.2.2)
theorem cSt_5 {M0 M : mM} {t v : Int32} {heard : Nat → Int32} {S : Tk} {c : Nat} (h : cSt M0 t heard S M) : cSt M0 t heard (sW S.1 (up (bW S.1) c v), S.2) (mI M 5 c v) := by
  obtain ⟨⟨e1, e2, e3, e4⟩, h2, h3, h4, h5⟩ := h
  obtain ⟨b1, b2, b3, b4, b5, b6⟩ := e2
  refine ⟨⟨e1, ⟨by rw [mI_ne (by omega)]; exact b1, fun d hd => by rw [mI_ne (by omega)]; exact b2 d hd, fun d hd => by rw [mI_ne (by omega)]; exact b3 d hd, fun d hd => ?_, fun d hd => by rw [mI_ne (by omega)]; exact b5 d hd, fun d hd => by rw [mI_ne (by omega)]; exact b6 d hd⟩, by rw [mI_ne (by omega)]; exact e3, fun d hd => by rw [mI_ne (by omega), mI_ne (by omega)]; exact e4 d hd⟩, fun d hd => by rw [mI_ne (by omega)]; exact h2 d hd, fun q h1 hq => by rw [mI_ne (by omega)]; exact h3 q h1 hq, fun i hi => by rw [mI_ne (by omega)]; exact h4 i hi, h5⟩
  show (mI M 5 c v).1 5 d = up (bW S.1) c v d
  by_cases e : d = c
  · subst e; rw [mI_e, up_e]
  · rw [mI_n (by omega), up_n e]; exact b4 d hd
theorem rSt_58 {M0 M : mM} {t v : Int32} {heard : Nat → Int32} {S : Tk} {c : Nat} (hc : c < bN S.1) (h : rSt M0 t heard S M) : rSt M0 t heard (sW S.1 (up (bW S.1) c v), S.2) (mI M 97 (58 + c) v) := by
  obtain ⟨⟨e1, e2, e3, e4, e5⟩, h2, h3, h4, h5, h6⟩ := h
  have hn := e1.1
  obtain ⟨b1, b2, b3, b4, b5, b6⟩ := e2
  refine ⟨⟨e1, ⟨by rw [mI_n (by omega)]; exact b1, fun d hd => ?_, fun d hd => ?_, fun d hd => ?_, fun d hd => ?_, fun d hd => ?_⟩, fun x hx y hy => by rw [mI_ne (by omega)]; exact e3 x hx y hy, by rw [mI_n (by omega)]; exact e4, fun d hd => ?_⟩, fun d hd => by rw [mI_ne (by omega)]; exact h2 d hd, fun q h1 h2 hq => by rw [mI_ne (by omega)]; exact h3 q h1 h2 hq, fun j hj => by rw [mI_n (by omega)]; exact h4 j hj, by rw [mI_ne (by omega)]; exact h5, h6⟩
  · have hd : d < bN S.1 := hd
    rw [mI_n (by omega)]; exact b2 d hd
  · have hd : d < bN S.1 := hd
    rw [mI_n (by omega)]; exact b3 d hd
  · have hd : d < bN S.1 := hd
    rw [mI_n (by omega)]; exact b4 d hd
  · show (mI M 97 (58 + c) v).1 97 (58 + d) = up (bW S.1) c v d
    by_cases e : d = c
    · subst e; rw [mI_e, up_e]
    · rw [mI_n (by omega), up_n e]; exact b5 d hd
  · have hd : d < bN S.1 := hd
    rw [mI_n (by omega)]; exact b6 d hd
  · have hd : d < bN S.1 := hd
    rw [mI_n (by omega), mI_n (by omega)]; exact e5 d hd
/-- the poorest beside -/
def isP (A : Bd) (v : Int32) : Prop := v = -1 ∨ ∃ d, d < bN A ∧ v = nI d
def nxP (A : Bd) (c w : Nat) (v : Int32) : Int32 :=
  if sd A c w < 0 then v else if bD A (sd A c w).toNatClampNeg = 0 then (if v < 0 then sd A c w else if bW A v.toNatClampNeg ≤ bW A (sd A c w).toNatClampNeg then v else sd A c w) else v
theorem nxP_is {A : Bd} {c w : Nat} {v : Int32} (hw : wf A) (hc : c < bN A) (hw4 : w < 4) (h : isP A v) : isP A (nxP A c w v) := by
  unfold nxP
  by_cases e : sd A c w < 0
  · rw [if_pos e]; exact h
  · have hl := stp_lt (hw.2.1 c hc).1 (show w < 8 by omega)
    obtain ⟨a1, a2, -⟩ := g_c hw hl (show 0 ≤ sd A c w by grind)
    have hs : isP A (sd A c w) := Or.inr ⟨_, a1, a2⟩
    rw [if_neg e]
    by_cases e2 : bD A (sd A c w).toNatClampNeg = 0
    · rw [if_pos e2]
      by_cases e3 : v < 0
      · rw [if_pos e3]; exact hs
      · rw [if_neg e3]
        by_cases e4 : bW A v.toNatClampNeg ≤ bW A (sd A c w).toNatClampNeg
        · rw [if_pos e4]; exact h
        · rw [if_neg e4]; exact hs
    · rw [if_neg e2]; exact h
theorem c_poor {M : mM} {A : Bd} {c w k : Nat} {v : Int32} (hw : wf A) (hB : repB 2 M A) (hc : c < bN A) (hw4 : w < 4) (h : isP A v) : f_X8_poorestBeside_b4 (k + 1) 1 (nI c) v (nI w) M = f_X8_poorestBeside_b4 k 1 (nI c) (nxP A c w v) (nI (w + 1)) M := by
  have hn := hw.1
  have hp := (hw.2.1 c hc).1
  have hl := stp_lt hp (show w < 8 by omega)
  rw [f_X8_poorestBeside_b4, if_neg (fun q => by have : 4 ≤ _ := (lle (m := 4) (by decide) (by omega)).mp q; omega), mgd_s ((nin (by omega)).mpr (by omega)), mgd_s ((nin (by omega)).mpr (by omega)), ncl (by omega), ncl (by omega), show M.1 (1 + 3) c = nI (bP A c) from hB.2.2.1 c hc, stp_goes hp (by omega), X0_inCell hB hl, mbp_s]
  unfold nxP sd
  by_cases e : bG A (stp (bP A c) w) < 0
  · rw [if_pos e, if_pos e, mlt_s, nI_1]
  · obtain ⟨a1, a2, -⟩ := g_c hw hl (show 0 ≤ bG A (stp (bP A c) w) by grind)
    rw [if_neg e, if_neg e, a2]
    simp only [ncl (show ix A (stp (bP A c) w) < 2147483648 by omega)]
    rw [mgd_s ((nin (by omega)).mpr (by omega)), show M.1 (1 + 5) (ix A (stp (bP A c) w)) = _ from hB.2.2.2.2.1 _ a1]
    by_cases e2 : bD A (ix A (stp (bP A c) w)) = 0
    · rw [if_pos e2, if_pos e2]
      rcases h with rfl | ⟨d, hd, rfl⟩
      · rw [if_pos (by decide), if_pos (by decide), mlt_s, nI_1]
      · rw [if_neg (nlt0 (by omega)), if_neg (nlt0 (by omega)), mgd_s ((nin (by omega)).mpr (by omega)), mgd_s ((nin (by omega)).mpr (by omega)), ncl (by omega), show M.1 (1 + 4) d = _ from hB.2.2.2.1 d hd, show M.1 (1 + 4) (ix A (stp (bP A c) w)) = _ from hB.2.2.2.1 _ a1]
        by_cases e4 : bW A d ≤ bW A (ix A (stp (bP A c) w))
        · rw [if_pos e4, if_pos e4, mlt_s, nI_1]
        · rw [if_neg e4, if_neg e4, mlt_s, nI_1]
    · rw [if_neg e2, if_neg e2, mlt_s, nI_1]
theorem r_poor {M : mM} {A : Bd} {c w k : Nat} {v : Int32} (hw : wf A) (hR : repR 97 M A) (hG : repG M A) (hc : c < bN A) (hw4 : w < 4) (h : isP A v) : f_X10_shares_b18 (k + 1) (nI c) v (nI w) M = f_X10_shares_b18 k (nI c) (nxP A c w v) (nI (w + 1)) M := by
  have hn := hw.1
  have hp := (hw.2.1 c hc).1
  have hl := stp_lt hp (show w < 8 by omega)
  obtain ⟨s1, s2⟩ := stp_x hp (show w < 8 by omega)
  rw [f_X10_shares_b18, if_neg (fun q => by have : 4 ≤ _ := (lle (m := 4) (by decide) (by omega)).mp q; omega)]
  simp only [ladd, ncl (show 26 + c < 2147483648 by omega), ncl (show 42 + c < 2147483648 by omega)]
  rw [mgd_s ((nin (by omega)).mpr (by omega)), mgd_s ((nin (by omega)).mpr (by omega)), hR.2.2.1 c hc, hR.2.2.2.1 c hc, s1, s2, X10_cubeAt hw hG hl, mbp_s]
  unfold nxP sd
  by_cases e : bG A (stp (bP A c) w) < 0
  · rw [if_pos (md_lt.mpr e), if_pos e, mlt_s, nI_1]
  · obtain ⟨a1, a2, -⟩ := g_c hw hl (show 0 ≤ bG A (stp (bP A c) w) by grind)
    have e' : ¬ md (bG A (stp (bP A c) w)) < 0 := fun q => e (md_lt.mp q)
    rw [if_neg e', if_neg e, a2, md_y (nle0 (by omega)), ladd, mgd_s ((nin (by omega)).mpr (by omega))]
    simp only [ladd, ncl (show 74 + ix A (stp (bP A c) w) < 2147483648 by omega), ncl (show ix A (stp (bP A c) w) < 2147483648 by omega)]
    rw [hR.2.2.2.2.2 _ a1]
    by_cases e2 : bD A (ix A (stp (bP A c) w)) = 0
    · rw [if_pos e2, if_pos e2]
      rcases h with rfl | ⟨d, hd, rfl⟩
      · rw [if_pos (by decide), if_pos (by decide), mlt_s, nI_1]
      · simp only [ladd, ncl (show 58 + ix A (stp (bP A c) w) < 2147483648 by omega), ncl (show 58 + d < 2147483648 by omega), ncl (show d < 2147483648 by omega)]
        rw [if_neg (nlt0 (by omega)), if_neg (nlt0 (by omega)), mgd_s ((nin (by omega)).mpr (by omega)), mgd_s ((nin (by omega)).mpr (by omega)), hR.2.2.2.2.1 d hd, hR.2.2.2.2.1 _ a1]
        by_cases e4 : bW A d ≤ bW A (ix A (stp (bP A c) w))
        · rw [if_pos e4, if_pos e4, mlt_s, nI_1]
        · rw [if_neg e4, if_neg e4, mlt_s, nI_1]
    · rw [if_neg e2, if_neg e2, mlt_s, nI_1]
abbrev poor (A : Bd) (c : Nat) : Int32 := nxP A c 3 (nxP A c 2 (nxP A c 1 (nxP A c 0 (-1))))
theorem poor_is {A : Bd} {c : Nat} (hw : wf A) (hc : c < bN A) : isP A (poor A c) := nxP_is hw hc (by decide) (nxP_is hw hc (by decide) (nxP_is hw hc (by decide) (nxP_is hw hc (by decide) (Or.inl rfl))))
theorem X8_poor {M : mM} {A : Bd} {c : Nat} (hw : wf A) (hB : repB 2 M A) (hc : c < bN A) : f_X8_poorestBeside 1 (nI c) M = some (poor A c) := by
  obtain ⟨m, hm⟩ := mN_ge (k := 5) (by omega)
  have p0 : isP A (-1) := Or.inl rfl
  have p1 := nxP_is (w := 0) hw hc (by decide) p0
  have p2 := nxP_is (w := 1) hw hc (by decide) p1
  have p3 := nxP_is (w := 2) hw hc (by decide) p2
  unfold f_X8_poorestBeside
  rw [hm]
  show f_X8_poorestBeside_b4 (m + 4 + 1) 1 (nI c) (-1) (nI 0) M = _
  rw [c_poor hw hB hc (by decide) p0]
  show f_X8_poorestBeside_b4 (m + 3 + 1) 1 (nI c) _ (nI 1) M = _
  rw [c_poor hw hB hc (by decide) p1]
  show f_X8_poorestBeside_b4 (m + 2 + 1) 1 (nI c) _ (nI 2) M = _
  rw [c_poor hw hB hc (by decide) p2]
  show f_X8_poorestBeside_b4 (m + 1 + 1) 1 (nI c) _ (nI 3) M = _
  rw [c_poor hw hB hc (by decide) p3, f_X8_poorestBeside_b4, if_pos (by decide)]
theorem X10_poor {M : mM} {A : Bd} {c : Nat} (hw : wf A) (hR : repR 97 M A) (hG : repG M A) (hc : c < bN A) : ∃ m, f_X10_shares_b18 mN (nI c) (-1) 0 M = f_X10_shares_b18 (m + 1) (nI c) (poor A c) (nI 4) M := by
  obtain ⟨m, hm⟩ := mN_ge (k := 5) (by omega)
  have p0 : isP A (-1) := Or.inl rfl
  have p1 := nxP_is (w := 0) hw hc (by decide) p0
  have p2 := nxP_is (w := 1) hw hc (by decide) p1
  have p3 := nxP_is (w := 2) hw hc (by decide) p2
  refine ⟨m, ?_⟩
  rw [hm]
  show f_X10_shares_b18 (m + 4 + 1) (nI c) (-1) (nI 0) M = _
  rw [r_poor hw hR hG hc (by decide) p0]
  show f_X10_shares_b18 (m + 3 + 1) (nI c) _ (nI 1) M = _
  rw [r_poor hw hR hG hc (by decide) p1]
  show f_X10_shares_b18 (m + 2 + 1) (nI c) _ (nI 2) M = _
  rw [r_poor hw hR hG hc (by decide) p2]
  show f_X10_shares_b18 (m + 1 + 1) (nI c) _ (nI 3) M = _
  rw [r_poor hw hR hG hc (by decide) p3]
theorem s_step {M0 Q0 M : mM} {t : Int32} {heard : Nat → Int32} {S : Tk} {c : Nat} (h : cSt M0 t heard S M) (hc : c < bN S.1) : ∃ W M', (∀ k, f_X8_sharePower_b2 (k + 1) 1 (nI c) M = f_X8_sharePower_b2 k 1 (nI (c + 1)) M') ∧ cSt M0 t heard (sW S.1 W, S.2) M' ∧ ∀ Q, rSt Q0 t heard S Q → ∃ Q', (∀ k i1, f_X10_goTick_b59 (k + 1) i1 (nI c) Q = f_X10_goTick_b59 k i1 (nI (c + 1)) Q') ∧ rSt Q0 t heard (sW S.1 W, S.2) Q' := by
  have hw := h.1.1
  have hn := hw.1
  have hB := h.1.2.1
  have ent : ∀ k, f_X8_sharePower_b2 (k + 1) 1 (nI c) M = if bD S.1 c = 0 then f_X8_sharePower_b34 (f_X8_sharePower_b2 k) 1 (nI c) (poor S.1 c) M else f_X8_sharePower_b34 (f_X8_sharePower_b2 k) 1 (nI c) (-1) M := fun k => by
    rw [f_X8_sharePower_b2, show M.1 (1 + 1) 0 = nI (bN S.1) from hB.1, if_neg (fun q => by have := (nle (by omega) (by omega)).mp q; omega), mgd_s ((nin (by omega)).mpr (by omega)), ncl (by omega), show M.1 (1 + 5) c = _ from hB.2.2.2.2.1 c hc, X8_poor hw hB hc, mbp_s]
  have rent : ∀ Q Q', rSt Q0 t heard S Q → f_X10_shares (nI c) Q = some Q' → ∀ k i1, f_X10_goTick_b59 (k + 1) i1 (nI c) Q = f_X10_goTick_b59 k i1 (nI (c + 1)) Q' := fun Q Q' hq hs k i1 => by
    rw [f_X10_goTick_b59, show Q.1 97 0 = nI (bN S.1) from hq.1.2.1.1, if_neg (fun q => by have := (nle (by omega) (by omega)).mp q; omega), hs, mbp_s, mlt_s, nI_1]
  have same : (bD S.1 c = 0 → poor S.1 c < 0 ∨ ∃ d, d < bN S.1 ∧ poor S.1 c = nI d ∧ bW S.1 c - 2 < bW S.1 d) → ∃ W M', (∀ k, f_X8_sharePower_b2 (k + 1) 1 (nI c) M = f_X8_sharePower_b2 k 1 (nI (c + 1)) M') ∧ cSt M0 t heard (sW S.1 W, S.2) M' ∧ ∀ Q, rSt Q0 t heard S Q → ∃ Q', (∀ k i1, f_X10_goTick_b59 (k + 1) i1 (nI c) Q = f_X10_goTick_b59 k i1 (nI (c + 1)) Q') ∧ rSt Q0 t heard (sW S.1 W, S.2) Q' := fun hs => by
    refine ⟨bW S.1, M, fun k => ?_, h, fun Q hq => ⟨Q, rent Q Q hq ?_, hq⟩⟩
    · rw [ent]
      by_cases d : bD S.1 c = 0
      · rw [if_pos d, f_X8_sharePower_b34]
        rcases hs d with q | ⟨d, d1, d2, d3⟩
        · rw [if_pos q, mlt_s, nI_1]
        · rw [d2, if_neg (nlt0 (by omega))]
          simp only [ncl (show d < 2147483648 by omega), ncl (show c < 2147483648 by omega)]
          rw [mgd_s ((nin (by omega)).mpr (by omega)), mgd_s ((nin (by omega)).mpr (by omega)), show M.1 (1 + 4) c = _ from hB.2.2.2.1 c hc, show M.1 (1 + 4) d = _ from hB.2.2.2.1 d d1, if_pos d3, mlt_s, nI_1]
      · rw [if_neg d, f_X8_sharePower_b34, if_pos (by decide), mlt_s, nI_1]
    · unfold f_X10_shares
      obtain ⟨m, hm⟩ := X10_poor hw hq.1.2.1 hq.1.2.2.1 hc
      rw [hm, ladd, mgd_s ((nin (by omega)).mpr (by omega)), ncl (by omega), hq.1.2.1.2.2.2.2.2 c hc]
      by_cases d : bD S.1 c = 0
      · rw [d, if_neg (by decide), f_X10_shares_b18, if_pos (by decide)]
        rcases hs d with q | ⟨d, d1, d2, d3⟩
        · rw [if_pos q]
        · rw [d2, if_neg (nlt0 (by omega))]
          simp only [ladd, ncl (show 58 + c < 2147483648 by omega), ncl (show 58 + d < 2147483648 by omega)]
          rw [mgd_s ((nin (by omega)).mpr (by omega)), mgd_s ((nin (by omega)).mpr (by omega)), hq.1.2.1.2.2.2.2.1 c hc, hq.1.2.1.2.2.2.2.1 d d1, if_neg (by grind)]
      · rw [if_pos ((hw.2.2.2.2.2 c hc).resolve_left d)]
  by_cases dd : bD S.1 c = 0
  · rcases poor_is hw hc with q | ⟨d, d1, d2⟩
    · exact same (fun _ => Or.inl (by rw [q]; decide))
    · by_cases d3 : bW S.1 c - 2 < bW S.1 d
      · exact same (fun _ => Or.inr ⟨d, d1, d2, d3⟩)
      · obtain ⟨W1, hW1⟩ : ∃ W1, W1 = up (bW S.1) d (bW S.1 d + 1) := ⟨_, rfl⟩
        have h1 := cSt_5 (c := d) (v := bW S.1 d + 1) h
        rw [← hW1] at h1
        have z : (mI M 5 d (bW S.1 d + 1)).1 5 c = W1 c := h1.1.2.1.2.2.2.1 c hc
        have h2 := cSt_5 (S := (sW S.1 W1, S.2)) (c := c) (v := W1 c - 1) h1
        refine ⟨up W1 c (W1 c - 1), _, fun k => ?_, h2, fun Q hq => ?_⟩
        · rw [ent, if_pos dd, f_X8_sharePower_b34, d2, if_neg (nlt0 (by omega))]
          simp only [ncl (show d < 2147483648 by omega), ncl (show c < 2147483648 by omega)]
          rw [mgd_s ((nin (by omega)).mpr (by omega)), mgd_s ((nin (by omega)).mpr (by omega)), show M.1 (1 + 4) c = _ from hB.2.2.2.1 c hc, show M.1 (1 + 4) d = _ from hB.2.2.2.1 d d1, if_neg d3, mgd_s ((nin (by omega)).mpr (by omega)), mgd_s ((nin (by omega)).mpr (by omega)), mlt_s, mgd_s ((nin (by omega)).mpr (by omega)), mgd_s ((nin (by omega)).mpr (by omega))]
          show mlt (mI (mI M 5 d (bW S.1 d + 1)) 5 c ((mI M 5 d (bW S.1 d + 1)).1 5 c - 1)) _ = _
          rw [z, mlt_s, mlt_s, nI_1]
        · have r1 := rSt_58 (c := d) (v := bW S.1 d + 1) d1 hq
          rw [← hW1] at r1
          have z2 : (mI Q 97 (58 + d) (bW S.1 d + 1)).1 97 (58 + c) = W1 c := r1.1.2.1.2.2.2.2.1 c hc
          have r2 := rSt_58 (S := (sW S.1 W1, S.2)) (c := c) (v := W1 c - 1) hc r1
          refine ⟨_, rent Q _ hq ?_, r2⟩
          unfold f_X10_shares
          obtain ⟨m, hm⟩ := X10_poor hw hq.1.2.1 hq.1.2.2.1 hc
          rw [hm, ladd, mgd_s ((nin (by omega)).mpr (by omega)), ncl (by omega), hq.1.2.1.2.2.2.2.2 c hc, dd, if_neg (by decide), f_X10_shares_b18, if_pos (by decide), d2, if_neg (nlt0 (by omega))]
          simp only [ladd, ncl (show 58 + c < 2147483648 by omega), ncl (show 58 + d < 2147483648 by omega)]
          rw [mgd_s ((nin (by omega)).mpr (by omega)), mgd_s ((nin (by omega)).mpr (by omega)), hq.1.2.1.2.2.2.2.1 c hc, hq.1.2.1.2.2.2.2.1 d d1, if_pos (by grind), mgd_s ((nin (by omega)).mpr (by omega)), mgd_s ((nin (by omega)).mpr (by omega)), mlt_s, mgd_s ((nin (by omega)).mpr (by omega)), mgd_s ((nin (by omega)).mpr (by omega)), z2, mlt_s]
  · exact same (fun q => absurd q dd)
