/-! plan: what is wanted -/
theorem sh_H {i x y : Int32} {b : Nat} {M M' : mM} (h : M'.2.1 = M.2.1) : f_X8_shapeHolds b i x y M' = f_X8_shapeHolds b i x y M := by
  unfold f_X8_shapeHolds
  rw [h]
def fwI (M0 : mM) (V : Nat → Bool) (p : Nat) (M : mM) : Prop := (∀ q, q ≠ 74 → M.1 q = M0.1 q) ∧ M.2 = M0.2 ∧ (∀ q, ¬ inG q → M.1 74 q = M0.1 74 q) ∧ ∀ x y, x < 10 → y < 8 → 8 * x + y < p → M.1 74 (12 * (y + 1) + x + 1) = nI (V (10 * y + x)).toNat
theorem cell_n {x y : Nat} (hx : x < 10) (hy : y < 8) : f_X9_cellOf (nI x) (nI y) = nI (12 * (y + 1) + x + 1) := by
  have h : ∀ x, x < 10 → ∀ y, y < 8 → f_X9_cellOf (nI x) (nI y) = nI (12 * (y + 1) + x + 1) := by decide +kernel
  exact h x hx y hy
theorem fw_in {M0 : mM} {ns j N x : Nat} (hS : wS 1 97 M0 ns) (hj : j < ns) (h1 : M0.1 97 (138 + j) = nI N) (hN : N ≤ 90) (hx : x < 10) (d : Nat) : ∀ y M, y + d = 8 → fwI M0 (Vg M0 j N) (8 * x + y) M → ∃ M', (∀ k kf i3 i4, f_X3_find_b44 kf (k + d + 1) 1 (nI j) i3 i4 (nI x) (nI y) M = kf 1 (nI j) i3 i4 (nI (x + 1)) M') ∧ fwI M0 (Vg M0 j N) (8 * (x + 1)) M' := by
  induction d with
  | zero =>
    intro y M hy h
    obtain rfl : y = 8 := by omega
    exact ⟨M, fun k kf i3 i4 => by rw [f_X3_find_b44, if_pos (by decide), nI_1, mlt_s], h⟩
  | succ d ih =>
    intro y M hy h
    have hy8 : y < 8 := by omega
    obtain ⟨g1, g2, g3, g4⟩ := h
    obtain ⟨N', n1, n2, n3, n4⟩ := X8_holds (xx := x) (yy := y) hS hj hx hy8
    obtain rfl : N' = N := (neq (by omega) (by omega)).mp (n2.symm.trans h1)
    obtain ⟨b, hb⟩ : ∃ b, Vg M0 j N' (10 * y + x) = b := ⟨_, rfl⟩
    have n4 : f_X8_shapeHolds 1 (nI j) (nI x) (nI y) M = some (bI b) := by
      rw [sh_H (M := M0) (by rw [g2]), n4]
      exact congrArg (fun b => some (bI b)) hb
    have nx : fwI M0 (Vg M0 j N') (8 * x + (y + 1)) (mI M 74 (12 * (y + 1) + x + 1) (bI b)) := by
      refine ⟨fun q hq => by rw [mI_ne hq]; exact g1 q hq, g2, fun q hq => ?_, fun x' y' hx' hy' hl => ?_⟩
      · rw [mI_n (by
          refine Or.inr (fun e => hq ?_)
          omega)]
        exact g3 q hq
      · by_cases e : x' = x ∧ y' = y
        · obtain ⟨rfl, rfl⟩ := e
          rw [mI_e, hb, bI_n]
        · rw [mI_n (by omega)]
          exact g4 x' y' hx' hy' (by omega)
    obtain ⟨M', a1, a2⟩ := ih (y + 1) _ (by omega) nx
    refine ⟨M', fun k kf i3 i4 => ?_, a2⟩
    show f_X3_find_b44 kf (k + d + 1 + 1) 1 (nI j) i3 i4 (nI x) (nI y) M = _
    rw [f_X3_find_b44, if_neg (fun q => by have : 8 ≤ _ := (lle (m := 8) (by decide) (by omega)).mp q; omega), n4, mbp_s, cell_n hx hy8, mgd_s ((nin (by omega)).mpr (by omega)), ncl (by omega), nar_01 (by cases b; exact Or.inl rfl; exact Or.inr rfl), mlt_s, nI_1, mlt_s]
    exact a1 k kf i3 i4
theorem fw_out {M0 : mM} {ns j N : Nat} (hS : wS 1 97 M0 ns) (hj : j < ns) (h1 : M0.1 97 (138 + j) = nI N) (hN : N ≤ 90) (d : Nat) : ∀ x M, x + d = 10 → fwI M0 (Vg M0 j N) (8 * x) M → ∃ M', (∀ k i3 i4, f_X3_find_b34 (k + d + 1) 1 (nI j) i3 i4 (nI x) M = f_X3_find_b88 mN 1 i3 i4 i4 M') ∧ fwI M0 (Vg M0 j N) 80 M' := by
  induction d with
  | zero =>
    intro x M hx h
    obtain rfl : x = 10 := by omega
    exact ⟨M, fun k i3 i4 => by rw [f_X3_find_b34, if_pos (by decide)], h⟩
  | succ d ih =>
    intro x M hx h
    obtain ⟨m, hm⟩ := mN_ge (k := 9) (by omega)
    have hm : mN = m + 8 + 1 := by omega
    obtain ⟨M1, a1, a2⟩ := fw_in hS hj h1 hN (show x < 10 by omega) 8 0 M rfl h
    obtain ⟨M', b1, b2⟩ := ih (x + 1) M1 (by omega) a2
    refine ⟨M', fun k i3 i4 => ?_, b2⟩
    show f_X3_find_b34 (k + d + 1 + 1) 1 (nI j) i3 i4 (nI x) M = _
    rw [f_X3_find_b34, if_neg (fun q => by have : 10 ≤ _ := (lle (m := 10) (by decide) (by omega)).mp q; omega), hm]
    have a1 : f_X3_find_b44 (f_X3_find_b34 (k + d + 1)) (m + 8 + 1) 1 (nI j) i3 i4 (nI x) 0 M = _ := a1 m _ i3 i4
    rw [a1, b1, hm]
