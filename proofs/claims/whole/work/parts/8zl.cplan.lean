/-! plan: the class's words -/
def wv (V : Nat → Bool) (p : Nat) : Nat := if inG p then (V (10 * (p / 12 - 1) + (p % 12 - 1))).toNat else 0
theorem wv_01 {V : Nat → Bool} {p : Nat} : wv V p = 0 ∨ wv V p = 1 := by
  unfold wv
  by_cases h : inG p
  · rw [if_pos h]
    have := b_le (V (10 * (p / 12 - 1) + (p % 12 - 1)))
    omega
  · rw [if_neg h]; exact Or.inl rfl
def wants (M : mM) (V : Nat → Bool) : Prop := ∀ p, p < 120 → M.1 74 p = nI (wv V p)
theorem wants_fw {M0 M : mM} {V : Nat → Bool} (h : fwI M0 V 80 M) (h0 : ∀ p, p < 120 → ¬ inG p → M0.1 74 p = 0) : wants M V := by
  intro p hp
  unfold wv
  by_cases hg : inG p
  · rw [if_pos hg]
    have := h.2.2.2 (p % 12 - 1) (p / 12 - 1) (by omega) (by omega) (by omega)
    rw [show 12 * (p / 12 - 1 + 1) + (p % 12 - 1) + 1 = p by omega] at this
    exact this
  · rw [if_neg hg, h.2.2.1 p hg, h0 p hp hg]
    rfl
theorem X3_isW {M : mM} {V : Nat → Bool} {p : Nat} (h : wants M V) (hp : p < 120) : f_X3_isWanted (nI p) M = some (nI (wv V p)) := by
  unfold f_X3_isWanted
  rw [if_neg (nlt0 (by omega)), if_neg (fun q => by have : 120 ≤ _ := (lle (m := 120) (by decide) (by omega)).mp q; omega), mgd_s ((nin (by omega)).mpr (by omega)), ncl (by omega), h p hp]
  rcases wv_01 (V := V) (p := p) with e | e
  · rw [e, if_pos (show nI 0 = (0 : Int32) from rfl)]; rfl
  · rw [e, if_neg (show ¬ nI 1 = (0 : Int32) by decide)]; rfl
theorem oneIf_wv {V : Nat → Bool} {p : Nat} : f_X9_oneIf (nI (wv V p)) = nI (wv V p) := by
  rcases wv_01 (V := V) (p := p) with e | e
  · rw [e]; rfl
  · rw [e]; rfl
theorem X3_emptyB {M : mM} {V : Nat → Bool} {A : Bd} {c w : Nat} {i3 : Int32} (h : wants M V) (hw : wf A) (hB : repB 65 M A) (hc : c < bN A) (hw8 : w < 8) : f_X3_emptyBehind (nI c) (nI w) i3 M = some ((i3 + nI (wv V (bP A c))) - nI (wv V (stp (bP A c) w))) := by
  have hn := hw.1
  have hp := (hw.2.1 c hc).1
  unfold f_X3_emptyBehind
  rw [mgd_s ((nin (by omega)).mpr (by omega)), ncl (by omega), show M.1 67 c = nI (bP A c) from hB.2.2.1 c hc, mlt_s, X3_isW h (by omega), mbp_s, mgd_s ((nin (by omega)).mpr (by omega)), ncl (by omega), stp_goes hp hw8, X3_isW h (stp_lt hp hw8), mbp_s, oneIf_wv, oneIf_wv]
theorem X0_goBack {b c w : Nat} {M : mM} {A : Bd} (hr : repB b M (bGo A c w)) (hw : wf A) (hc : c < bN A) (hw8 : w < 8) (hcan : canP A c w) : f_X0_goBack b (nI c) (nI w) M = some (goM b M (bGo A c w) c (bP A c) (bW A c)) ∧ repB b (goM b M (bGo A c w) c (bP A c) (bW A c)) A := by
  have hn := hw.1
  have hp := (hw.2.1 c hc).1
  obtain ⟨q1, q2⟩ := canP_in hw hc hw8 hcan
  have hwB := wf_go hw hc hw8 hcan
  have hcB : c < bN (bGo A c w) := hc
  have hpq : bP A c ≠ stp (bP A c) w := fun e => by
    have := (hw.2.1 c hc).2
    rw [e, q2] at this
    exact nneg (a := c) (m := 1) (by omega) (by decide) (by decide) this.symm
  have eP : bP (bGo A c w) c = stp (bP A c) w := up_e
  have eK : bK (bGo A c w) c = bK A c := rfl
  have eW : bW (bGo A c w) c = bW A c - cost A c := up_e
  have hf : bG (bGo A c w) (bP A c) = -1 := by
    show up (up (bG A) (bP A c) (-1)) (stp (bP A c) w) (nI c) (bP A c) = -1
    rw [up_n hpq, up_e]
  obtain ⟨k1, k2, -⟩ := k_cost (hw.2.2.2.2.1 c hc)
  have sh := X0_shift hr hwB hcB hp hf
  refine ⟨?_, ?_⟩
  · unfold f_X0_goBack
    simp only [ncl (show c < 2147483648 by omega), ncl (show w < 2147483648 by omega)]
    rw [mgd_s ((nin (by omega)).mpr (by omega)), mgd_s ((nin (by omega)).mpr (by omega)), hr.2.2.1 c hcB, eP, show nI (stp (bP A c) w) - sVal 3 w = nI (bP A c) by rw [← stp_goes hp hw8]; grind, sh, mbp_s, eP]
    have e1 : (shM b M (stp (bP A c) w) c (bP A c)).1 (b + 1) c = bK A c := by
      simp only [mI_at]
      rw [if_neg (by omega), if_neg (by omega), if_neg (by omega)]
      exact hr.2.1 c hcB
    have e2 : (shM b M (stp (bP A c) w) c (bP A c)).1 (b + 3) c = bW A c - cost A c := by
      simp only [mI_at]
      rw [if_neg (by omega), if_neg (by omega), if_neg (by omega), ← eW]
      exact hr.2.2.2.1 c hcB
    rw [mgd_s ((nin (by omega)).mpr (by omega)), mgd_s ((nin (by omega)).mpr (by omega)), e1, mgd_s k1, mgd_s ((nin (by omega)).mpr (by omega)), e2, k2, show bW A c - cost A c + f_X10_costOf (bK A c) = bW A c by show bW A c - f_X10_costOf (bK A c) + f_X10_costOf (bK A c) = bW A c; grind, mlt_s]
    show _ = some (mI (shM b M (bP (bGo A c w) c) c (bP A c)) (b + 3) c (bW A c))
    rw [eP]
  · have := sh_rep (q := bP A c) (v := bW A c) hr hwB hcB
    rw [show bMv (bGo A c w) c (bP A c) (bW A c) = A from bMv_back hw hc q2] at this
    exact this
