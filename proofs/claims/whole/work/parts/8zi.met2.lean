/-! met: the goal in both -/
def eqG (M M' : mM) : Prop := (∀ k, k ≠ 96 → k ≠ 102 → k ≠ 103 → k ≠ 104 → k ≠ 105 → M'.1 k = M.1 k) ∧ (∀ j, j < 8 ∨ (j ≠ 8 ∧ j ≠ 9 ∧ j ≠ 10 ∧ j ≠ 11 ∧ j ≠ 12 ∧ j ≠ 16 ∧ j < 17) ∨ 25 ≤ j → M'.1 96 j = M.1 96 j) ∧ M'.2 = M.2
theorem eqG_K {M M' : mM} (h : eqG M M') : eqK M M' := ⟨fun q hq => h.1 q (by omega) (by omega) (by omega) (by omega) (by omega), h.2.1 3 (by omega), by rw [h.2.2], by rw [h.2.2]⟩
/-- whether a place of the reference's goal is in the SHAPE -/
abbrev Vg (M : mM) (j N : Nat) (z : Nat) : Bool := (tSh (lk (rg 97 (154 + 90 * j) M) N) N).2.2 z
def fgI (M0 : mM) (V : Nat → Bool) (p : Nat) (M : mM) : Prop := eqG M0 M ∧ (∀ q, q < p → M.1 105 q = nI (V (10 * (q % 8) + q / 8)).toNat) ∧ M.1 96 24 = nI (smq (fun q => (V (10 * (q % 8) + q / 8)).toNat) p)
theorem smq_le {v : Nat → Nat} (h : ∀ i, v i ≤ 1) : ∀ n, smq v n ≤ n := by
  intro n
  induction n with
  | zero => exact Nat.le_refl _
  | succ n ih => rw [smq]; have := h n; omega
theorem b_le (b : Bool) : b.toNat ≤ 1 := by cases b <;> decide
theorem fg_loop {M0 : mM} {j N : Nat} (hj : j < 8) (hN : N ≤ 90) (h1 : M0.1 97 (138 + j) = nI N) (hok : (tSh (lk (rg 97 (154 + 90 * j) M0) N) N).2.1 = true) (d : Nat) : ∀ p M, p + d = 80 → fgI M0 (Vg M0 j N) p M → ∃ M', (∀ k, f_X10_findGoal_b7 (k + d + 1) (nI j) (nI p) M = some M') ∧ fgI M0 (Vg M0 j N) 80 M' := by
  induction d with
  | zero =>
    intro p M hp h
    obtain rfl : p = 80 := by omega
    exact ⟨M, fun k => by rw [f_X10_findGoal_b7, if_pos (by decide)], h⟩
  | succ d ih =>
    intro p M hp h
    obtain ⟨⟨g1, g2, g3⟩, h2, h3⟩ := h
    obtain ⟨x, y, hx, hy, rfl⟩ : ∃ x y, x < 10 ∧ y < 8 ∧ p = 8 * x + y := ⟨p / 8, p % 8, by omega, by omega, by omega⟩
    obtain ⟨e1, e2⟩ := X9_m (c := x) (w := y) (by omega) hy
    have e97 : M.1 97 = M0.1 97 := g1 97 (by omega) (by omega) (by omega) (by omega) (by omega)
    have erg : rg 97 (154 + 90 * j) M = rg 97 (154 + 90 * j) M0 := funext fun i => by show M.1 97 _ = M0.1 97 _; rw [e97]
    obtain ⟨M1, m1, m2⟩ := X10_isIn (ns := 0) (M := M) hj hN (by rw [e97]; exact h1) (by rw [erg]; exact hok) hx hy
    rw [erg] at m1
    have hV : Vg M0 j N (10 * ((8 * x + y) % 8) + (8 * x + y) / 8) = Vg M0 j N (10 * y + x) := by rw [show (8 * x + y) % 8 = y by omega, show (8 * x + y) / 8 = x by omega]
    obtain ⟨b, hb⟩ : ∃ b, Vg M0 j N (10 * y + x) = b := ⟨_, rfl⟩
    have m1 : f_X10_isIn (nI j) (nI x) (nI y) M = some (bI b, M1) := by rw [m1]; exact congrArg (fun b => some (bI b, M1)) hb
    rw [hb] at hV
    obtain ⟨m21, m22, m23⟩ := m2
    have fgn : fgI M0 (Vg M0 j N) (8 * x + y + 1) (mI (mI M1 105 (8 * x + y) (nI b.toNat)) 96 24 (nI (smq (fun q => (Vg M0 j N (10 * (q % 8) + q / 8)).toNat) (8 * x + y) + b.toNat))) := by
      refine ⟨⟨fun k a b c d e => ?_, fun i hi => ?_, m23.trans g3⟩, fun q hq => ?_, ?_⟩
      · rw [mI_ne a, mI_ne e, m21 k a b c d]; exact g1 k a b c d e
      · rw [mI_n (by omega), mI_ne (by omega), m22 i (by omega)]; exact g2 i hi
      · rw [mI_ne (by omega)]
        by_cases e : q = 8 * x + y
        · subst e; rw [mI_e, hV]
        · rw [mI_n (by omega), m21 105 (by omega) (by omega) (by omega) (by omega)]; exact h2 q (by omega)
      · rw [mI_e, smq, hV]
    have n24 : M1.1 96 24 = nI (smq (fun q => (Vg M0 j N (10 * (q % 8) + q / 8)).toNat) (8 * x + y)) := (m22 24 (by omega)).trans h3
    obtain ⟨M', a1, a2⟩ := ih (8 * x + y + 1) _ (by omega) fgn
    refine ⟨M', fun k => ?_, a2⟩
    show f_X10_findGoal_b7 (k + d + 1 + 1) (nI j) (nI (8 * x + y)) M = _
    rw [f_X10_findGoal_b7, if_neg (fun q => by have : 80 ≤ _ := (lle (m := 80) (by decide) (by omega)).mp q; omega), e2, e1, m1, mbw_s]
    simp only [ncl (show 8 * x + y < 2147483648 by omega)]
    rw [mgd_s ((nin (by omega)).mpr (by omega)), nar_01 (by cases b; exact Or.inl rfl; exact Or.inr rfl), mlt_s, mgd_s ((nin (by omega)).mpr (by omega)), mI_e, mI_ne (by omega), n24, bI_n]
    have fin : f_X10_findGoal_b51 (f_X10_findGoal_b7 (k + d + 1)) (nI j) (nI (8 * x + y)) (nI (smq (fun q => (Vg M0 j N (10 * (q % 8) + q / 8)).toNat) (8 * x + y))) (nI b.toNat) (mI M1 105 (8 * x + y) (nI b.toNat)) = some M' := by
      unfold f_X10_findGoal_b51
      rw [nadd, mlt_s, nI_1, mlt_s]
      exact a1 k
    cases b
    · rw [if_pos (show nI false.toNat = 0 from rfl)]
      exact fin
    · rw [if_neg (show ¬ nI true.toNat = 0 by decide)]
      exact fin
theorem X10_goal {M0 : mM} {j N : Nat} (hj : j < 8) (hN : N ≤ 90) (h1 : M0.1 97 (138 + j) = nI N) (hok : (tSh (lk (rg 97 (154 + 90 * j) M0) N) N).2.1 = true) : ∃ M', f_X10_findGoal (nI j) M0 = some M' ∧ fgI M0 (Vg M0 j N) 80 M' := by
  obtain ⟨m, hm⟩ := mN_ge (k := 81) (by omega)
  have hm : mN = m + 80 + 1 := by omega
  obtain ⟨M', a1, a2⟩ := fg_loop hj hN h1 hok 80 0 (mI M0 96 24 0) rfl ⟨⟨fun k a b c d e => mI_ne a, fun i hi => mI_n (by omega), rfl⟩, fun q hq => by omega, mI_e⟩
  refine ⟨M', ?_, a2⟩
  unfold f_X10_findGoal
  rw [mlt_s, hm]
  exact a1 m
/-- CUBES outside -/
abbrev ouv (A : Bd) (V : Nat → Bool) (c : Nat) : Nat := (!V (10 * (bP A c / 12 - 1) + (bP A c % 12 - 1))).toNat
theorem c_out {M : mM} {A : Bd} {j ns : Nat} (hw : wf A) (hB : repB 2 M A) (hS : wS 1 97 M ns) (hj : j < ns) {N : Nat} (h1 : M.1 97 (138 + j) = nI N) (hN : N ≤ 90) (d : Nat) : ∀ c v, c + d = bN A → ∀ k, f_X8_outsideShape_b4 (k + d + 1) 1 (nI j) (nI v) (nI c) M = some (nI (v + (smq (ouv A (Vg M j N)) (c + d) - smq (ouv A (Vg M j N)) c))) := by
  have hn := hw.1
  induction d with
  | zero =>
    intro c v hc k
    rw [f_X8_outsideShape_b4, show M.1 (1 + 1) 0 = nI (bN A) from hB.1, if_pos ((nle (by omega) (by omega)).mpr (by omega)), Nat.add_zero, Nat.sub_self, Nat.add_zero]
  | succ d ih =>
    intro c v hc k
    have hp := (hw.2.1 c (by omega)).1
    obtain ⟨N', n1, n2, n3, n4⟩ := X8_holds (xx := bP A c % 12 - 1) (yy := bP A c / 12 - 1) hS hj (by omega) (by omega)
    obtain rfl : N' = N := (neq (by omega) (by omega)).mp (n2.symm.trans h1)
    obtain ⟨q1, q2⟩ := col_of (p := bP A c) (by omega)
    have mono : ∀ d, smq (ouv A (Vg M j N')) (c + 1) ≤ smq (ouv A (Vg M j N')) (c + 1 + d) := fun d => by
      induction d with
      | zero => exact Nat.le_refl _
      | succ d ih2 => exact Nat.le_trans ih2 (by show _ ≤ smq _ (c + 1 + d) + _; omega)
    have m2 := mono d
    have e : smq (ouv A (Vg M j N')) (c + 1) = smq (ouv A (Vg M j N')) c + ouv A (Vg M j N') c := rfl
    have r := ih (c + 1) (v + ouv A (Vg M j N') c) (by omega) k
    show f_X8_outsideShape_b4 (k + d + 1 + 1) 1 (nI j) (nI v) (nI c) M = _
    rw [f_X8_outsideShape_b4, show M.1 (1 + 1) 0 = nI (bN A) from hB.1, if_neg (fun q => by have := (nle (by omega) (by omega)).mp q; omega), mgd_s ((nin (by omega)).mpr (by omega)), mgd_s ((nin (by omega)).mpr (by omega)), ncl (by omega), show M.1 (1 + 3) c = nI (bP A c) from hB.2.2.1 c (by omega), q1, q2, cx, cy, nI_p (by omega), nI_p (by omega), n4, mbp_s]
    have fin : ∀ s : Int32, s = nI (ouv A (Vg M j N') c) → f_X8_outsideShape_b53 (f_X8_outsideShape_b4 (k + d + 1)) 1 (nI j) (nI c) (nI v) s M = some (nI (v + (smq (ouv A (Vg M j N')) (c + (d + 1)) - smq (ouv A (Vg M j N')) c))) := fun s hs => by
      unfold f_X8_outsideShape_b53
      have o : f_X9_oneIf (nI (ouv A (Vg M j N') c)) = nI (ouv A (Vg M j N') c) := by
        show f_X9_oneIf (nI (Bool.toNat _)) = nI (Bool.toNat _)
        rw [← bI_n, oneIf_bI]
      rw [hs, o, nadd, mlt_s, nI_1, mlt_s, r]
      congr 2
      rw [show c + (d + 1) = c + 1 + d by omega]
      omega
    by_cases hv : Vg M j N' (10 * (bP A c / 12 - 1) + (bP A c % 12 - 1)) = true
    · rw [show (tSh (lk (rg 97 (154 + 90 * j) M) N') N').2.2 (10 * (bP A c / 12 - 1) + (bP A c % 12 - 1)) = true from hv, if_neg (by decide)]
      exact fin 0 (by show (0 : Int32) = nI (Bool.toNat _); rw [hv]; rfl)
    · have hv := Bool.eq_false_iff.mpr hv
      rw [show (tSh (lk (rg 97 (154 + 90 * j) M) N') N').2.2 (10 * (bP A c / 12 - 1) + (bP A c % 12 - 1)) = false from hv, if_pos (show bI false = 0 from rfl)]
      exact fin 1 (by show (1 : Int32) = nI (Bool.toNat _); rw [hv]; rfl)
theorem r_out {M : mM} {A : Bd} {V : Nat → Bool} (hw : wf A) (hR : repR 97 M A) (hG : ∀ q, q < 80 → M.1 105 q = nI (V (10 * (q % 8) + q / 8)).toNat) (d : Nat) : ∀ c v, c + d = bN A → ∀ k, f_X10_outside_b4 (k + d + 1) (nI v) (nI c) M = some (nI (v + (smq (ouv A V) (c + d) - smq (ouv A V) c))) := by
  have hn := hw.1
  induction d with
  | zero =>
    intro c v hc k
    rw [f_X10_outside_b4, hR.1, if_pos ((nle (by omega) (by omega)).mpr (by omega)), Nat.add_zero, Nat.sub_self, Nat.add_zero]
  | succ d ih =>
    intro c v hc k
    have hp := (hw.2.1 c (by omega)).1
    have mono : ∀ d, smq (ouv A V) (c + 1) ≤ smq (ouv A V) (c + 1 + d) := fun d => by
      induction d with
      | zero => exact Nat.le_refl _
      | succ d ih2 => exact Nat.le_trans ih2 (by show _ ≤ smq _ (c + 1 + d) + _; omega)
    have m2 := mono d
    have e : smq (ouv A V) (c + 1) = smq (ouv A V) c + ouv A V c := rfl
    have r := ih (c + 1) (v + ouv A V c) (by omega) k
    have g := hG (8 * (bP A c % 12 - 1) + (bP A c / 12 - 1)) (by omega)
    rw [show (8 * (bP A c % 12 - 1) + (bP A c / 12 - 1)) % 8 = bP A c / 12 - 1 by omega, show (8 * (bP A c % 12 - 1) + (bP A c / 12 - 1)) / 8 = bP A c % 12 - 1 by omega] at g
    show f_X10_outside_b4 (k + d + 1 + 1) (nI v) (nI c) M = _
    rw [f_X10_outside_b4, hR.1, if_neg (fun q => by have := (nle (by omega) (by omega)).mp q; omega)]
    simp only [ladd, ncl (show 26 + c < 2147483648 by omega), ncl (show 42 + c < 2147483648 by omega)]
    rw [mgd_s ((nin (by omega)).mpr (by omega)), mgd_s ((nin (by omega)).mpr (by omega)), hR.2.2.1 c (by omega), hR.2.2.2.1 c (by omega), cx, cy, nI_p (by omega), nI_p (by omega), lmul, nadd, mgd_s ((nin (by omega)).mpr (by omega)), ncl (by omega), g]
    by_cases hv : V (10 * (bP A c / 12 - 1) + (bP A c % 12 - 1)) = true
    · have o : ouv A V c = 0 := by show Bool.toNat _ = 0; rw [hv]; rfl
      rw [o] at r e
      rw [hv, if_neg (show ¬ nI true.toNat = 0 by decide), nI_1, mlt_s, Int32.add_zero, show c + (d + 1) = c + 1 + d by omega]
      have r' : f_X10_outside_b4 (k + d + 1) (nI v) (nI (c + 1)) M = some (nI (v + (smq (ouv A V) (c + 1 + d) - smq (ouv A V) (c + 1)))) := r
      have e' : smq (ouv A V) (c + 1) = smq (ouv A V) c := e
      rw [r', e']
    · have hv := Bool.eq_false_iff.mpr hv
      have o : ouv A V c = 1 := by show Bool.toNat _ = 1; rw [hv]; rfl
      rw [o] at r e
      rw [hv, if_pos (show nI false.toNat = 0 from rfl), nI_1, mlt_s, nI_1, r]
      congr 2
      rw [show c + (d + 1) = c + 1 + d by omega]
      omega
