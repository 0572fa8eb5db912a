/-! the call met -/
theorem c_cells {M : mM} {ns j N : Nat} (hS : wS 1 97 M ns) (hj : j < ns) (h1 : M.1 97 (138 + j) = nI N) (hN : N ≤ 90) : f_X8_cellsInShape 1 (nI j) M = some (nI (smq (fun q => (Vg M j N (10 * (q % 8) + q / 8)).toNat) 80)) := by
  have h8 := hS.1
  obtain ⟨N', n1, n2, n3, n4⟩ := hS.2.2.2 j hj
  obtain rfl : N' = N := (neq (by omega) (by omega)).mp (n2.symm.trans h1)
  have p0 : f_J13_bitCount_95d88 (M.2.1 (1 + 13) (2 * j)) = nI (smq (fun z => (Vg M j N' (40 * 0 + z)).toNat) 40) := popc_bits (g := fun z => Vg M j N' (40 * 0 + z)) (n4 0 (by decide))
  have p1 : f_J13_bitCount_95d88 (M.2.1 (1 + 13) (2 * j + 1)) = nI (smq (fun z => (Vg M j N' (40 * 1 + z)).toNat) 40) := popc_bits (g := fun z => Vg M j N' (40 * 1 + z)) (n4 1 (by decide))
  unfold f_X8_cellsInShape
  simp only [mulL, nI_1, ncl (show j * 2 < 2147483648 by omega), ncl (show j * 2 + 1 < 2147483648 by omega)]
  rw [mgd_s ((nin (by omega)).mpr (by omega)), mgd_s ((nin (by omega)).mpr (by omega)), show j * 2 = 2 * j by omega, p0, p1, nadd, sm80 (fun z => (Vg M j N' z).toNat)]
theorem op_met {M : mM} {a1 a2 : Int32} (hI : Inv M) : ∃ M', f_law_c12 a1 a2 M = some M' ∧ Inv M' := by
  obtain ⟨⟨K, hA, hG⟩, -⟩ := id hI
  obtain ⟨hC, hT, hV, hH, hP, hS, hN, hL, hO, hW⟩ := id hA
  obtain ⟨hw, hB, hR, h01⟩ := id hC
  have hB : repB 2 M K.1 := hB
  have hn := hw.1
  have hs8 := hS.1
  unfold f_law_c12 f_X9_met f_X10_met
  rw [hasShape_c hS.2.1, isShape_c hs8 hS.2.2.1]
  by_cases h : 0 ≤ a1 ∧ a1 < nI K.2.2.2.1
  · obtain ⟨j, hj, rfl⟩ := i_lt (by omega) h
    obtain ⟨N, n1, n2, n3, n4⟩ := hS.2.2.2 j hj
    obtain ⟨M', g1, g2, g3, g4⟩ := X10_goal (by omega) n1 n2 n3
    have e97 : M'.1 97 = M.1 97 := g2.1 97 (by omega) (by omega) (by omega) (by omega) (by omega)
    have hR' : repR 97 M' K.1 := repR_fr hn (by rw [e97]) (fun _ _ _ => by rw [e97]) hR
    obtain ⟨m, hm⟩ := mN_ge (k := bN K.1 + 1) (by omega)
    have hm : mN = m + bN K.1 + 1 := by omega
    have co := c_out hw hB hS hj n2 n1 (bN K.1) 0 0 (Nat.zero_add _) m
    have ro := r_out hw hR' g3 (bN K.1) 0 0 (Nat.zero_add _) m
    have cc := c_cells hS hj n2 n1
    rw [← hm] at co ro
    obtain ⟨O, hO⟩ : ∃ O, O = nI (0 + (smq (ouv K.1 (Vg M j N)) (0 + bN K.1) - smq (ouv K.1 (Vg M j N)) 0)) := ⟨_, rfl⟩
    obtain ⟨G, hGg⟩ : ∃ G, G = nI (smq (fun q => (Vg M j N (10 * (q % 8) + q / 8)).toNat) 80) := ⟨_, rfl⟩
    rw [← hO] at co ro
    rw [← hGg] at cc g4
    have co : f_X8_outsideShape 1 (nI j) M = some O := co
    have ro : f_X10_outside M' = some O := ro
    have ce : f_X8_emptyInShape 1 (nI j) M = some (G - (nI (bN K.1) - O)) := by
      unfold f_X8_emptyInShape
      rw [cc, mbp_s, co, mbp_s, show M.1 (1 + 1) 0 = nI (bN K.1) from hB.1]
    have hI' := Inv_eqK (eqG_K g2) hI
    rw [tf_y h, if_neg (show ¬ (1 : Int32) = 0 by decide)]
    by_cases h2 : 0 ≤ a2 ∧ a2 ≤ 3
    · refine ⟨M', ?_, hI'⟩
      rw [X10_is_y h2, mbp_s, if_neg (show ¬ (1 : Int32) = 0 by decide), if_neg (show ¬ (1 : Int32) = 0 by decide), g1, mbp_s, ro, mbp_s, mlt_s, g4, hR'.1, cc, mbp_s, ce, mbp_s, co, mbp_s, mbp_s]
      obtain ⟨c, hc, rfl⟩ := i_le (n := 3) (by decide) h2
      rcases (show c = 0 ∨ c = 1 ∨ c = 2 ∨ c = 3 by omega) with rfl | rfl | rfl | rfl
      · rw [if_pos (show nI 0 = (0 : Int32) from rfl), if_pos (show nI 0 = (0 : Int32) from rfl), mbp_s, mbw_s, if_pos rfl]
      · rw [if_neg (show ¬ nI 1 = (0 : Int32) by decide), if_neg (show ¬ nI 1 = (0 : Int32) by decide), if_pos (show nI 1 = (1 : Int32) from rfl), if_pos (show nI 1 = (1 : Int32) from rfl), mbp_s, mbw_s, if_pos rfl]
      · rw [if_neg (show ¬ nI 2 = (0 : Int32) by decide), if_neg (show ¬ nI 2 = (0 : Int32) by decide), if_neg (show ¬ nI 2 = (1 : Int32) by decide), if_neg (show ¬ nI 2 = (1 : Int32) by decide), if_pos (show nI 2 = (2 : Int32) from rfl), if_pos (show nI 2 = (2 : Int32) from rfl), mbp_s, mbp_s, mbw_s, if_pos rfl]
      · rw [if_neg (show ¬ nI 3 = (0 : Int32) by decide), if_neg (show ¬ nI 3 = (0 : Int32) by decide), if_neg (show ¬ nI 3 = (1 : Int32) by decide), if_neg (show ¬ nI 3 = (1 : Int32) by decide), if_neg (show ¬ nI 3 = (2 : Int32) by decide), if_neg (show ¬ nI 3 = (2 : Int32) by decide), if_pos (show nI 3 = (3 : Int32) from rfl)]
        unfold f_X9_met_b98
        by_cases e1 : G - (nI (bN K.1) - O) = 0
        · rw [if_pos e1, if_pos e1, mbp_s, mbp_s]
          by_cases e2 : O = 0
          · rw [if_pos e2, if_pos e2, mbp_s, mbw_s, if_pos (by decide)]
          · rw [if_neg e2, if_neg e2, mbp_s, mbw_s, if_pos (by decide)]
        · rw [if_neg e1, if_neg e1, mbp_s, mbw_s, if_pos (by decide)]
    · refine ⟨M, ?_, hI⟩
      have q : ∀ k : Nat, k ≤ 3 → ¬ a2 = nI k := fun k hk e => h2 (by rw [e]; exact ⟨nle0 (by omega), (leL (m := 3) (by decide) (by omega)).mpr hk⟩)
      rw [X10_is_n h2, mbp_s, if_neg (show ¬ (1 : Int32) = 0 by decide), if_pos (show (0 : Int32) = 0 from rfl), if_neg (show ¬ a2 = 0 from q 0 (by decide)), if_neg (show ¬ a2 = 1 from q 1 (by decide)), if_neg (show ¬ a2 = 2 from q 2 (by decide)), if_neg (show ¬ a2 = 3 from q 3 (by decide)), mbp_s, mbw_s, if_pos rfl]
  · refine ⟨M, ?_, hI⟩
    rw [tf_n h, if_pos (show (0 : Int32) = 0 from rfl), mbp_s, mbp_s, if_pos (show (0 : Int32) = 0 from rfl), mbw_s, if_pos rfl]
