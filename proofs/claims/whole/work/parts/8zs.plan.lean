/-! the calls plan and planned -/
theorem pln_both {M : mM} {K : Kt} {j most : Nat} (hI : Inv M) (hA : wA 1 97 M K) (hG : repG M K.1) (hj : j < K.2.2.2.1) (h4 : most ≤ 4) : ∃ o M1 M2, f_X3_find 1 (nI j) (nI most) M = some (plA o, M1) ∧ f_X10_planIn (nI j) (nI most) M1 = some (plA o, M2) ∧ M1.1 97 = M.1 97 ∧ Inv M1 ∧ Inv M2 ∧ ∀ l, o = some l → l.length ≤ most ∧ ∀ t, t < l.length → M1.1 75 t = M2.1 106 t := by
  obtain ⟨hC, hT, hV, hH, hP, hS, -⟩ := id hA
  obtain ⟨hw, hB, hR, h01⟩ := id hC
  have hs8 := hS.1
  obtain ⟨N, n1, n2, n3, n4⟩ := hS.2.2.2 j hj
  obtain ⟨M1, a1, a2, a3, a4, a5⟩ := c_find hI hA hj n1 n2 h4
  have e97 : M1.1 97 = M.1 97 := a2 97 (by omega) (by omega)
  have eV : Vg M1 j N = Vg M j N := Vg_eq e97
  have erg : rg 97 (154 + 90 * j) M1 = rg 97 (154 + 90 * j) M := funext fun i => by show M1.1 97 _ = M.1 97 _; rw [e97]
  obtain ⟨M2, b1, b2, b3, b4⟩ := X10_planI (M := M1) (A := K.1) (j := j) (N := N) (most := most) hw (repR_fr hw.1 (by rw [e97]) (fun _ _ _ => by rw [e97]) hR) (repG_fr (a2 99 (by omega) (by omega)) hG) (by omega) n1 (by rw [e97]; exact n2) (by rw [erg]; exact n3) h4
  rw [eV] at b1 b4
  refine ⟨lpG (Vg M j N) K.1 most, M1, M2, a1, b1, e97, a4, Inv_eqK b2 a4, fun l h => ⟨?_, fun t ht => (a5 l h t ht).trans (b4 l h t ht).symm⟩⟩
  unfold lpG at h
  by_cases e : smq (fun q => (Vg M j N (10 * (q % 8) + q / 8)).toNat) 80 = bN K.1
  · rw [if_pos e] at h
    have := lps_len hw (most + 1) 0 l h
    omega
  · rw [if_neg e] at h
    exact absurd h.symm (Option.some_ne_none _)
theorem op_plan {M : mM} {a1 a2 : Int32} (hI : Inv M) : ∃ M', f_law_c13 a1 a2 M = some M' ∧ Inv M' := by
  obtain ⟨⟨K, hA, hG⟩, -⟩ := id hI
  have hS := hA.2.2.2.2.2.1
  have hs8 := hS.1
  unfold f_law_c13 f_X9_plan
  rw [hasShape_c hS.2.1]
  by_cases h : 0 ≤ a1 ∧ a1 < nI K.2.2.2.1
  · obtain ⟨j, hj, rfl⟩ := i_lt (by omega) h
    rw [tf_y h, if_neg (show ¬ (1 : Int32) = 0 by decide)]
    by_cases h2 : 0 ≤ a2 ∧ a2 ≤ 4
    · obtain ⟨most, hm, rfl⟩ := i_le (n := 4) (by decide) h2
      obtain ⟨o, M1, M2, b1, b2, b3, b4, b5, -⟩ := pln_both hI hA hG hj hm
      rw [if_neg (nlt0 (by omega)), if_pos h2.2, b1, mbw_s, mbw_s]
      unfold f_X10_plan
      rw [isShape_c hs8 (show M1.1 97 1 = nI K.2.2.2.1 by rw [b3]; exact hS.2.2.1), mbp_s, tf_y h, if_neg (show ¬ (1 : Int32) = 0 by decide), X10_is_y h2, if_neg (show ¬ (1 : Int32) = 0 by decide), b2, mbw_s, mbw_s, if_pos rfl]
      exact ⟨M2, rfl, b5⟩
    · refine ⟨M, ?_, hI⟩
      unfold f_X10_plan
      by_cases h3 : a2 < 0
      · rw [if_pos h3, mbw_s, isShape_c hs8 hS.2.2.1, mbp_s, tf_y h, if_neg (show ¬ (1 : Int32) = 0 by decide), X10_is_n h2, if_pos (show (0 : Int32) = 0 from rfl), mbw_s, if_pos rfl]
      · rw [if_neg h3, if_neg (fun q => h2 ⟨by grind, q⟩), mbw_s, isShape_c hs8 hS.2.2.1, mbp_s, tf_y h, if_neg (show ¬ (1 : Int32) = 0 by decide), X10_is_n h2, if_pos (show (0 : Int32) = 0 from rfl), mbw_s, if_pos rfl]
  · refine ⟨M, ?_, hI⟩
    unfold f_X10_plan
    rw [tf_n h, if_pos (show (0 : Int32) = 0 from rfl), mbw_s, isShape_c hs8 hS.2.2.1, mbp_s, tf_n h, if_pos (show (0 : Int32) = 0 from rfl), mbw_s, if_pos rfl]
theorem op_planned {M : mM} {a1 a2 a3 : Int32} (hI : Inv M) : ∃ M', f_law_c14 a1 a2 a3 M = some M' ∧ Inv M' := by
  obtain ⟨⟨K, hA, hG⟩, -⟩ := id hI
  have hS := hA.2.2.2.2.2.1
  have hs8 := hS.1
  unfold f_law_c14 f_X9_planned
  rw [hasShape_c hS.2.1]
  by_cases h : 0 ≤ a1 ∧ a1 < nI K.2.2.2.1
  · obtain ⟨j, hj, rfl⟩ := i_lt (by omega) h
    rw [tf_y h, if_neg (show ¬ (1 : Int32) = 0 by decide)]
    by_cases h2 : 0 ≤ a2 ∧ a2 ≤ 4
    · obtain ⟨most, hm, rfl⟩ := i_le (n := 4) (by decide) h2
      rw [if_neg (nlt0 (by omega)), if_neg (fun q => by have := h2.2; grind)]
      by_cases h3 : 0 ≤ a3
      · obtain ⟨o, M1, M2, b1, b2, b3, b4, b5, b6⟩ := pln_both hI hA hG hj hm
        have rf : f_X10_planned (nI j) (nI most) a3 M1 = if plA o = (-4) then (some ((-4), M2)) else (if a3 < plA o then (mgd (mIn a3 4) <| some ((M2.1 106 (Int32.toNatClampNeg a3)), M2)) else (some ((-4), M2))) := by
          unfold f_X10_planned
          rw [isShape_c hs8 (show M1.1 97 1 = nI K.2.2.2.1 by rw [b3]; exact hS.2.2.1), mbp_s, tf_y h, if_neg (show ¬ (1 : Int32) = 0 by decide), X10_is_y h2, if_neg (show ¬ (1 : Int32) = 0 by decide), if_pos h3, b2, mbw_s]
        rw [if_pos h3, b1, mbw_s]
        cases o with
        | none =>
          have h4 : plA none ≤ a3 := by
            have : (-4 : Int32) ≤ a3 := by grind
            exact this
          rw [if_pos h4, mbw_s, rf, if_pos (show plA none = -4 from rfl), mbw_s, if_pos rfl]
          exact ⟨M2, rfl, b5⟩
        | some l =>
          obtain ⟨c1, c2⟩ := b6 l rfl
          have hp : plA (some l) = nI l.length := rfl
          rw [hp] at rf ⊢
          rw [if_neg (show ¬ nI l.length = -4 from nneg (a := l.length) (m := 4) (by omega) (by decide) (by decide))] at rf
          by_cases h4 : nI l.length ≤ a3
          · rw [if_pos h4, mbw_s, rf, if_neg (fun q => by grind), mbw_s, if_pos rfl]
            exact ⟨M2, rfl, b5⟩
          · obtain ⟨t, ht, rfl⟩ := i_lt (a := a3) (n := l.length) (by omega) ⟨h3, by grind⟩
            have gt : mIn (nI t) 4 := (nin (by omega)).mpr (by omega)
            unfold f_X3_moveOf
            rw [if_neg h4, if_neg (nlt0 (by omega)), if_neg (fun q => by have : 4 ≤ _ := (lle (m := 4) (by decide) (by omega)).mp q; omega), mgd_s gt, mbp_s, mbw_s, rf, if_pos ((nlt (by omega) (by omega)).mpr ht), mgd_s gt, mbw_s, ncl (by omega), if_pos (c2 t ht)]
            exact ⟨M2, rfl, b5⟩
      · refine ⟨M, ?_, hI⟩
        unfold f_X10_planned
        rw [if_neg h3, mbw_s, isShape_c hs8 hS.2.2.1, mbp_s, tf_y h, if_neg (show ¬ (1 : Int32) = 0 by decide), X10_is_y h2, if_neg (show ¬ (1 : Int32) = 0 by decide), if_neg h3, mbw_s, if_pos rfl]
    · refine ⟨M, ?_, hI⟩
      unfold f_X10_planned
      by_cases h3 : a2 < 0
      · rw [if_pos h3, mbw_s, isShape_c hs8 hS.2.2.1, mbp_s, tf_y h, if_neg (show ¬ (1 : Int32) = 0 by decide), X10_is_n h2, if_pos (show (0 : Int32) = 0 from rfl), mbw_s, if_pos rfl]
      · rw [if_neg h3, if_pos (show 4 < a2 by by_cases q : a2 ≤ 4; exact absurd ⟨by grind, q⟩ h2; grind), mbw_s, isShape_c hs8 hS.2.2.1, mbp_s, tf_y h, if_neg (show ¬ (1 : Int32) = 0 by decide), X10_is_n h2, if_pos (show (0 : Int32) = 0 from rfl), mbw_s, if_pos rfl]
  · refine ⟨M, ?_, hI⟩
    unfold f_X10_planned
    rw [tf_n h, if_pos (show (0 : Int32) = 0 from rfl), mbw_s, isShape_c hs8 hS.2.2.1, mbp_s, tf_n h, if_pos (show (0 : Int32) = 0 from rfl), mbw_s, if_pos rfl]
