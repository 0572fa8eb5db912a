/-! MOVES: can, move, moves; a new CUBE -/
theorem X9_m {c w : Nat} (hc : c < 100000) (hw : w < 8) : nI (8 * c + w) / 8 = nI c ∧ nI (8 * c + w) - nI (8 * c + w) / 8 * 8 = nI w := by
  obtain ⟨h1, h2⟩ := n8 hc hw
  exact ⟨h1, by rw [h1]; exact h2⟩
theorem wC_s {q : Nat} {M : mM} {A : Bd} {L : Nat → Int32} (hq : scr q) (h : wC 1 97 M A) : wC 1 97 (sR M q L) A := wC_fr (fun p hp => sR_n (by omega)) (by rw [sR_n (by omega)]) (fun j _ _ => by rw [sR_n (by omega)]) h
theorem op_can {M : mM} {a1 : Int32} (hI : Inv M) : ∃ M', f_law_c5 a1 M = some M' ∧ Inv M' := by
  obtain ⟨⟨K, hA, hG⟩, -⟩ := id hI
  obtain ⟨hw, hB, hR, h01⟩ := id hA.1
  have hB : repB 2 M K.1 := hB
  have hn := hw.1
  unfold f_law_c5 f_X9_can
  rw [X0_isMove_c hB]
  by_cases h : isM K.1 a1
  · rw [tf_y h, if_neg (by decide)]
    obtain ⟨c, w, hc, hw8, rfl⟩ := isM_ex hn h
    obtain ⟨e1, e2⟩ := X9_m (c := c) (w := w) (by omega) hw8
    obtain ⟨L, hL⟩ := X0_mayGoE hw hB hc hw8
    rw [e2, e1]
    show ∃ M', mbw (mbw (f_X0_mayGo 2 (nI c) (nI w) M) _) _ = _ ∧ _
    rw [hL, mbw_s, mbw_s, oneIf_tf]
    unfold f_X10_can
    rw [X10_isMove_c hn (repR_s (by omega) hR), mbp_s, tf_y h, if_neg (by decide), X10_canMove hw (repR_s (by omega) hR) (repG_s (by omega) hG) hc hw8, mbw_s]
    refine ⟨sR M (2 + 7) L, ?_, Inv_eqK (eqK_s (by omega)) hI⟩
    by_cases h2 : canP K.1 c w
    · rw [tf_y h2, if_neg (by decide), mbw_s, if_pos rfl]
    · rw [tf_n h2, if_pos rfl, mbw_s, if_pos rfl]
  · refine ⟨M, ?_, hI⟩
    unfold f_X10_can
    rw [tf_n h, if_pos rfl, mbw_s, X10_isMove_c hn hR, mbp_s, tf_n h, if_pos rfl, mbw_s, if_pos rfl]
/-- behind a MOVE -/
abbrev bGo (A : Bd) (c w : Nat) : Bd := bMv A c (stp (bP A c) w) (bW A c - cost A c)
theorem canP_in {A : Bd} {c w : Nat} (hw : wf A) (hc : c < bN A) (hw8 : w < 8) (h : canP A c w) : inG (stp (bP A c) w) ∧ bG A (stp (bP A c) w) = -1 := ⟨free_in hw (stp_lt (hw.2.1 c hc).1 hw8) h.2.2.1, h.2.2.1⟩
theorem wf_go {A : Bd} {c w : Nat} (hw : wf A) (hc : c < bN A) (hw8 : w < 8) (h : canP A c w) : wf (bGo A c w) := wf_mv hw hc (canP_in hw hc hw8 h).1 (canP_in hw hc hw8 h).2
theorem wW_go {A : Bd} {c w : Nat} (hw : wf A) (hc : c < bN A) (hw8 : w < 8) (h : canP A c w) : wW (bGo A c w) := Or.inr ((Wh_mv hw hc (canP_in hw hc hw8 h).1 h.2.2.2.2.2).mpr h.2.2.2.2.1)
abbrev rgo (M : mM) (A : Bd) (c w : Nat) : mM := mI (seM M (bP A c) c (stp (bP A c) w)) 97 (58 + c) (bW A c - cost A c)
/-- the class's and the reference's cells behind a MOVE of what is now -/
abbrev bgo (M : mM) (A : Bd) (c w : Nat) : mM := rgo (goM 2 M A c (stp (bP A c) w) (bW A c - cost A c)) A c w
theorem goM_ne {b c q k : Nat} {v : Int32} {M : mM} {A : Bd} (h : k ≠ b + 2 ∧ k ≠ b + 3 ∧ k ≠ b + 6) : (goM b M A c q v).1 k = M.1 k := by
  obtain ⟨h1, h2, h3⟩ := h
  rw [mI_ne h2, mI_ne h1, mI_ne h3, mI_ne h3]
theorem goM_rep {b c w : Nat} {M : mM} {A : Bd} (hr : repB b M A) (hw : wf A) (hc : c < bN A) : repB b (goM b M A c (stp (bP A c) w) (bW A c - cost A c)) (bGo A c w) := sh_rep hr hw hc
theorem rgo_ne {c w k : Nat} {M : mM} {A : Bd} (h : k ≠ 97 ∧ k ≠ 99) : (rgo M A c w).1 k = M.1 k := by
  obtain ⟨h1, h2⟩ := h
  rw [mI_ne h1, mI_ne h2, mI_ne h1, mI_ne h1, mI_ne h2]
theorem rgo_j {c w j : Nat} {M : mM} {A : Bd} (hc : c < 16) (h : j < 26 ∨ 74 ≤ j) : (rgo M A c w).1 97 j = M.1 97 j := by
  rw [mI_n (by omega), mI_n (by omega), mI_n (by omega), mI_n (by omega), mI_n (by omega)]
theorem rgo_rep {c w : Nat} {M : mM} {A : Bd} (hr : repR 97 M A) (hw : wf A) (hc : c < bN A) : repR 97 (rgo M A c w) (bGo A c w) := se_repR hr hw hc
theorem rgo_G {c w : Nat} {M : mM} {A : Bd} (hg : repG M A) (hw : wf A) (hc : c < bN A) (hq : inG (stp (bP A c) w)) : repG (rgo M A c w) (bGo A c w) := repG_fr (mI_ne (by omega)) (se_repG hg hw hc hq)
theorem wC_go {M : mM} {A : Bd} {c w : Nat} (hc : c < bN A) (hw8 : w < 8) (h : wC 1 97 M A) (hg : repG M A) (hcan : canP A c w) : wC 1 97 (bgo M A c w) (bGo A c w) ∧ repG (bgo M A c w) (bGo A c w) := by
  obtain ⟨hw, hB, hR, h01⟩ := h
  have hn := hw.1
  have hR' : repR 97 (goM 2 M A c (stp (bP A c) w) (bW A c - cost A c)) A := repR_fr hn (by rw [goM_ne (by omega)]) (fun j _ _ => by rw [goM_ne (by omega)]) hR
  have hG' : repG (goM 2 M A c (stp (bP A c) w) (bW A c - cost A c)) A := repG_fr (goM_ne (by omega)) hg
  refine ⟨⟨wf_go hw hc hw8 hcan, ?_, rgo_rep hR' hw hc, fun i hi => ?_⟩, rgo_G hG' hw hc (canP_in hw hc hw8 hcan).1⟩
  · have := goM_rep (w := w) hB hw hc
    exact repB_fr (by rw [rgo_ne (by omega)]) (rgo_ne (by omega)) (rgo_ne (by omega)) (rgo_ne (by omega)) (rgo_ne (by omega)) (rgo_ne (by omega)) this
  · rw [rgo_ne (by omega), goM_ne (by omega)]
    exact h01 i hi
theorem wA_go {M : mM} {K : Kt} {c w : Nat} (hc : c < bN K.1) (hw8 : w < 8) (h : wA 1 97 M K) (hg : repG M K.1) (hcan : canP K.1 c w) : wA 1 97 (bgo M K.1 c w) (bGo K.1 c w, K.2) ∧ repG (bgo M K.1 c w) (bGo K.1 c w) := by
  obtain ⟨h1, h2⟩ := wC_go hc hw8 h.1 hg hcan
  have hn := h.1.1.1
  refine ⟨wA_cub h h1 rfl (wW_go h.1.1 hc hw8 hcan) (fun q hq hq2 => by rw [rgo_ne (by omega), goM_ne (by omega)]) rfl (fun j hj hj2 => by rw [rgo_j (by omega) (by omega), goM_ne (by omega)]), h2⟩
theorem op_move {M : mM} {a1 : Int32} (hI : Inv M) : ∃ M', f_law_c6 a1 M = some M' ∧ Inv M' := by
  obtain ⟨⟨K, hA, hG⟩, -⟩ := id hI
  obtain ⟨hw, hB, hR, h01⟩ := id hA.1
  have hB : repB 2 M K.1 := hB
  have hn := hw.1
  unfold f_law_c6 f_X9_move
  rw [X0_isMove_c hB]
  by_cases h : isM K.1 a1
  · rw [tf_y h, if_neg (by decide)]
    obtain ⟨c, w, hc, hw8, rfl⟩ := isM_ex hn h
    obtain ⟨e1, e2⟩ := X9_m (c := c) (w := w) (by omega) hw8
    obtain ⟨L, hL⟩ := X0_mayGoE hw hB hc hw8
    have hA1 : wA 1 97 (sR M (2 + 7) L) K := wA_eqK (eqK_s (by omega)) hA
    have hG1 : repG (sR M (2 + 7) L) K.1 := repG_s (by omega) hG
    have hI1 : Inv (sR M (2 + 7) L) := Inv_eqK (eqK_s (by omega)) hI
    rw [e2, e1]
    show ∃ M', mbw (mbw (f_X0_mayGo 2 (nI c) (nI w) M) _) _ = _ ∧ _
    rw [hL, mbw_s]
    generalize sR M (2 + 7) L = M1 at hA1 hG1 hI1
    obtain ⟨-, hB1, hR1, -⟩ := id hA1.1
    have hB1 : repB 2 M1 K.1 := hB1
    unfold f_X10_move
    by_cases h2 : canP K.1 c w
    · obtain ⟨q1, q2⟩ := canP_in hw hc hw8 h2
      rw [tf_y h2, if_neg (by decide), X0_go hB1 hw hc hw8 q1 q2, mbp_s, mgd_s ((nin (by omega)).mpr (by omega)), ncl (by omega), mbw_s]
      have hR2 : repR 97 (goM 2 M1 K.1 c (stp (bP K.1 c) w) (bW K.1 c - cost K.1 c)) K.1 := repR_fr hn (by rw [goM_ne (by omega)]) (fun j _ _ => by rw [goM_ne (by omega)]) hR1
      have hG2 : repG (goM 2 M1 K.1 c (stp (bP K.1 c) w) (bW K.1 c - cost K.1 c)) K.1 := repG_fr (goM_ne (by omega)) hG1
      rw [X10_isMove_c hn hR2, mbp_s, tf_y h, if_neg (by decide), X10_canMove hw hR2 hG2 hc hw8, mbw_s, tf_y h2, if_neg (by decide), X10_goes hR2 hw hc hw8 q1, mbp_s, e1]
      simp only [ladd, ncl (show 58 + c < 2147483648 by omega)]
      rw [mgd_s ((nin (by omega)).mpr (by omega)), mbw_s]
      obtain ⟨w1, w2⟩ := wA_go hc hw8 hA1 hG1 h2
      refine ⟨bgo M1 K.1 c w, ?_, Inv_now hI1 (fun q hq hs h97 h99 => by rw [rgo_ne (by omega), goM_ne (by omega)]) (by rw [rgo_ne (by omega), goM_ne (by omega)]) rfl ⟨_, w1, w2⟩⟩
      rw [if_pos]
      exact (show (goM 2 M1 K.1 c (stp (bP K.1 c) w) (bW K.1 c - cost K.1 c)).1 5 c = bW K.1 c - cost K.1 c from mI_e).trans (show (bgo M1 K.1 c w).1 97 (58 + c) = bW K.1 c - cost K.1 c from mI_e).symm
    · rw [tf_n h2, if_pos rfl, mbw_s, X10_isMove_c hn hR1, mbp_s, tf_y h, if_neg (by decide), X10_canMove hw hR1 hG1 hc hw8, mbw_s, tf_n h2, if_pos rfl, mbw_s, if_pos rfl]
      exact ⟨_, rfl, hI1⟩
  · refine ⟨M, ?_, hI⟩
    unfold f_X10_move
    rw [tf_n h, if_pos rfl, mbw_s, X10_isMove_c hn hR, mbp_s, tf_n h, if_pos rfl, mbw_s, if_pos rfl]
theorem mvs_lp {j : Nat} {M : mM} {A : Bd} (hw : wf A) (hB : repB 2 M A) (hR : repR 97 M A) (hG : repG M A) (d : Nat) : ∀ m v, m + d = 8 * bN A → ∃ r, (∀ L, ∃ L', f_X9_moves_b4 (j + d + 1) v (nI m) (sR M 9 L) = some (r, sR M 9 L')) ∧ ∀ L, f_X10_moves_b4 (j + d + 1) v (nI m) (sR M 9 L) = some (r, sR M 9 L) := by
  have hn := hw.1
  induction d with
  | zero =>
    intro m v hm
    refine ⟨v, fun L => ⟨L, ?_⟩, fun L => ?_⟩
    · rw [f_X9_moves_b4, sR_n (by omega), hB.1, mulL, if_pos ((nle (by omega) (by omega)).mpr (by omega))]
    · rw [f_X10_moves_b4, sR_n (by omega), hR.1, lmul, if_pos ((nle (by omega) (by omega)).mpr (by omega))]
  | succ d ih =>
    intro m v hm
    obtain ⟨c, w, hc, hw8, rfl⟩ : ∃ c w, c < bN A ∧ w < 8 ∧ m = 8 * c + w := ⟨m / 8, m % 8, by omega, by omega, by omega⟩
    obtain ⟨e1, e2⟩ := X9_m (c := c) (w := w) (by omega) hw8
    obtain ⟨r, r1, r2⟩ := ih (8 * c + w + 1) (v + tf (canP A c w)) (by omega)
    refine ⟨r, fun L => ?_, fun L => ?_⟩
    · obtain ⟨L1, h1⟩ := X0_mayGoE (b := 2) hw (repB_s7 (L := L) hB) hc hw8
      have h1 : f_X0_mayGo 2 (nI c) (nI w) (sR M 9 L) = some (tf (canP A c w), sR M 9 L1) := by
        rw [show (sR M 9 L) = sR M (2 + 7) L from rfl, h1, sR_sR]
      obtain ⟨L2, h2⟩ := r1 L1
      refine ⟨L2, ?_⟩
      rw [f_X9_moves_b4, sR_n (by omega), hB.1, mulL, if_neg (fun q => by have := (nle (by omega) (by omega)).mp q; omega), e2, e1, h1, mbw_s, mlt_s, mlt_s, oneIf_tf, nI_1]
      exact h2
    · rw [f_X10_moves_b4, sR_n (by omega), hR.1, lmul, if_neg (fun q => by have := (nle (by omega) (by omega)).mp q; omega), X10_canMove hw (repR_s (by omega) hR) (repG_s (by omega) hG) hc hw8, mbw_s]
      have r2 := r2 L
      by_cases h : canP A c w
      · rw [tf_y h] at r2 ⊢
        rw [if_neg (by decide), mlt_s, nI_1]
        exact r2
      · rw [tf_n h] at r2 ⊢
        rw [if_pos rfl, mlt_s, nI_1]
        exact r2
theorem op_moves {M : mM} (hI : Inv M) : ∃ M', f_law_c7 M = some M' ∧ Inv M' := by
  obtain ⟨⟨K, hA, hG⟩, -⟩ := id hI
  obtain ⟨hw, hB, hR, h01⟩ := id hA.1
  have hB : repB 2 M K.1 := hB
  have hn := hw.1
  obtain ⟨j, hj⟩ := mN_ge (k := 8 * bN K.1 + 1) (by omega)
  have hj : mN = j + 8 * bN K.1 + 1 := by omega
  obtain ⟨r, r1, r2⟩ := mvs_lp (j := j) hw hB hR hG (8 * bN K.1) 0 0 (Nat.zero_add _)
  obtain ⟨L, r1⟩ := r1 (M.1 9)
  rw [sR_self] at r1
  have r2 := r2 L
  rw [← hj] at r1 r2
  have r1 : f_X9_moves M = some (r, sR M 9 L) := r1
  have r2 : f_X10_moves (sR M 9 L) = some (r, sR M 9 L) := r2
  refine ⟨sR M 9 L, ?_, Inv_eqK (eqK_s (by omega)) hI⟩
  unfold f_law_c7
  rw [r1, mbw_s, r2, mbw_s, if_pos rfl]
/-! a new CUBE -/
def bAd (A : Bd) (k : Int32) (p : Nat) (v : Int32) : Bd := (bN A + 1, up (bP A) (bN A) p, up (bG A) p (nI (bN A)), up (bK A) (bN A) k, up (bW A) (bN A) v, up (bD A) (bN A) 0)
theorem wf_ad {A : Bd} {k v : Int32} {p : Nat} (hw : wf A) (hn : bN A < 16) (hp : inG p) (hf : bG A p = -1) (hk : isK k) : wf (bAd A k p v) := by
  obtain ⟨h1, h2, h3, h4, h5, h6⟩ := id hw
  refine ⟨by show bN A + 1 ≤ 16; omega, fun d hd => ?_, fun q hq hg => ?_, fun q hq hg => ?_, fun d hd => ?_, fun d hd => ?_⟩
  · have hd : d < bN A + 1 := hd
    show inG (if d = bN A then p else bP A d) ∧ (if (if d = bN A then p else bP A d) = p then nI (bN A) else bG A (if d = bN A then p else bP A d)) = nI d
    by_cases e : d = bN A
    · rw [if_pos e, if_pos rfl, e]; exact ⟨hp, rfl⟩
    · rw [if_neg e]
      have hd2 : d < bN A := by omega
      have e2 : bP A d ≠ p := fun k => by
        have := (h2 d hd2).2
        rw [k, hf] at this
        exact nneg (a := d) (m := 1) (by omega) (by decide) (by decide) this.symm
      rw [if_neg e2]; exact h2 d hd2
  · show (if q = p then nI (bN A) else bG A q) = -1 ∨ ∃ d, d < bN A + 1 ∧ (if q = p then nI (bN A) else bG A q) = nI d ∧ (if d = bN A then p else bP A d) = q
    by_cases e : q = p
    · exact Or.inr ⟨bN A, by omega, by rw [if_pos e], by rw [if_pos rfl, e]⟩
    · rw [if_neg e]
      rcases h3 q hq hg with k | ⟨d, k1, k2, k3⟩
      · exact Or.inl k
      · exact Or.inr ⟨d, by omega, k2, by rw [if_neg (by omega)]; exact k3⟩
  · show (if q = p then nI (bN A) else bG A q) = gI q
    rw [if_neg (fun k => hg (by rw [k]; exact hp))]
    exact h4 q hq hg
  · have hd : d < bN A + 1 := hd
    show isK (if d = bN A then k else bK A d)
    by_cases e : d = bN A
    · rw [if_pos e]; exact hk
    · rw [if_neg e]; exact h5 d (by omega)
  · have hd : d < bN A + 1 := hd
    show is01 (if d = bN A then 0 else bD A d)
    by_cases e : d = bN A
    · rw [if_pos e]; exact Or.inl rfl
    · rw [if_neg e]; exact h6 d (by omega)
theorem nbr_ex2 {A : Bd} (hw : wf A) {q : Nat} (hq : inG q) : nbr A q (-1) ↔ ∃ d, d < bN A ∧ ∃ w, w < 4 ∧ stp q w = bP A d := by
  have hn := hw.1
  have key : ∀ w, w < 4 → (nb1 A q (-1) w ↔ ∃ d, d < bN A ∧ stp q w = bP A d) := fun w hw4 => by
    have hl := stp_lt (p := q) (w := w) hq (by omega)
    constructor
    · rintro ⟨k1, k2⟩
      rcases wf_g hw hl with ⟨e, -⟩ | ⟨d, d1, d2, d3, -⟩ | ⟨e, -⟩
      · exact absurd e k2
      · exact ⟨d, d1, d3.symm⟩
      · have := gI_neg _ hl
        rw [e] at k1
        grind
    · rintro ⟨d, d1, d2⟩
      have := (hw.2.1 d d1).2
      rw [← d2] at this
      exact ⟨by rw [this]; exact nle0 (by omega), by rw [this]; exact nneg (a := d) (m := 1) (by omega) (by decide) (by decide)⟩
  unfold nbr
  rw [key 0 (by decide), key 1 (by decide), key 2 (by decide), key 3 (by decide)]
  constructor
  · rintro (⟨d, h1, h2⟩ | ⟨d, h1, h2⟩ | ⟨d, h1, h2⟩ | ⟨d, h1, h2⟩)
    · exact ⟨d, h1, 0, by decide, h2⟩
    · exact ⟨d, h1, 1, by decide, h2⟩
    · exact ⟨d, h1, 2, by decide, h2⟩
    · exact ⟨d, h1, 3, by decide, h2⟩
  · rintro ⟨d, h1, w, h2, h3⟩
    rcases (show w = 0 ∨ w = 1 ∨ w = 2 ∨ w = 3 by omega) with rfl | rfl | rfl | rfl
    · exact Or.inl ⟨d, h1, h3⟩
    · exact Or.inr (Or.inl ⟨d, h1, h3⟩)
    · exact Or.inr (Or.inr (Or.inl ⟨d, h1, h3⟩))
    · exact Or.inr (Or.inr (Or.inr ⟨d, h1, h3⟩))
theorem Wh_ad {A : Bd} {k v : Int32} {p : Nat} (hw : wf A) (hW : wW A) (hp : inG p) : Wh (bP (bAd A k p v)) (fun d => d < bN (bAd A k p v)) ↔ hold A p (bN A) (-1) := by
  have hbp : bP (bAd A k p v) (bN A) = p := if_pos rfl
  have e : ∀ d, d < bN (bAd A k p v) ↔ d < bN A ∨ d = bN A := fun d => by show d < bN A + 1 ↔ _; omega
  by_cases h0 : bN A = 0
  · rw [hold0 h0]
    have e1 : ∀ d, d < bN (bAd A k p v) ↔ d = bN A := fun d => by rw [e]; omega
    rw [show (fun d => d < bN (bAd A k p v)) = (fun d => d = bN A) from funext fun d => propext (e1 d), Wh_one, hbp]
  · rw [hold1 h0, nbr_ex2 hw hp, show (fun d => d < bN (bAd A k p v)) = (fun d => d < bN A ∨ d = bN A) from funext fun d => propext (e d), Wh_more (P := bP A) (P' := bP (bAd A k p v)) (S := fun d => d < bN A) (Nat.lt_irrefl _) (fun d hd => show (if d = bN A then p else bP A d) = bP A d from if_neg (Nat.ne_of_lt hd)) (fun d hd => (hw.2.1 d hd).1) (by rw [hbp]; exact hp) (hW.resolve_left h0)]
    constructor
    · rintro ⟨d, h1, w, h2, h3⟩
      have hd : bP (bAd A k p v) d = bP A d := if_neg (by omega)
      rw [hbp, hd] at h3
      exact ⟨d, h1, w, h2, h3⟩
    · rintro ⟨d, h1, w, h2, h3⟩
      have hd : bP (bAd A k p v) d = bP A d := if_neg (by omega)
      exact ⟨d, h1, w, h2, by rw [hbp, hd]; exact h3⟩
