/-! the call ticks -/
theorem wN_le {q r s k n t t' : Nat} {M : mM} (h : wN q r s k M n t) (ht : t ≤ t') : wN q r s k M n t' := by
  obtain ⟨h1, h2, h3, h4, h5⟩ := h
  refine ⟨h1, h2, h3, fun i hi => ?_, h5⟩
  obtain ⟨a1, a2, a3, u, u1, u2⟩ := h4 i hi
  exact ⟨a1, a2, a3, u, by omega, u2⟩
theorem op_ticks {M : mM} {a1 : Int32} (hI : Inv M) : ∃ M', f_law_c19 a1 M = some M' ∧ Inv M' := by
  obtain ⟨⟨K, hA, hG⟩, -⟩ := id hI
  obtain ⟨hC, hT, hV, hH, hP, hS, hN, hL, hO, hW⟩ := id hA
  obtain ⟨hw, hB, hR, h01⟩ := id hC
  have hB : repB 2 M K.1 := hB
  have hn := hw.1
  have hp8 := hP.1
  have ht := hT.1
  unfold f_law_c19 f_X9_ticks f_X10_ticks
  by_cases h : 1 ≤ a1 ∧ a1 ≤ 50
  · obtain ⟨m, hm, rfl⟩ := i_le (n := 50) (by decide) ⟨Int32.le_trans (by decide) h.1, h.2⟩
    rw [if_neg (by have := h.1; grind), if_pos h.2, show M.1 1 1 = nI K.2.1 from hT.2.1, nadd]
    by_cases h2 : K.2.1 + m ≤ 2000
    · rw [if_pos ((leL (m := 2000) (by decide) (by omega)).mpr h2)]
      have cp : cPg M (bN K.1) K.2.2.1 (fun c => (M.1 13 c).toNatClampNeg) (fun j => (M.1 24 j).toNatClampNeg) (fun j => lk (M.1 (16 + j)) (M.1 24 j).toNatClampNeg) := by
        refine ⟨hP.2.1, hp8, fun c hc => ?_, fun j hj => ?_⟩
        · rcases hH c hc with q | ⟨j, j1, j2, j3⟩
          · exact Or.inl q.1
          · have j2 : M.1 13 c = nI j := j2
            show _ ∨ ((M.1 13 c).toNatClampNeg < K.2.2.1 ∧ M.1 13 c = nI (M.1 13 c).toNatClampNeg)
            rw [j2, ncl (by omega)]
            exact Or.inr ⟨j1, rfl⟩
        · obtain ⟨N, n1, n2, n3, n4, n5, n6⟩ := prg_ex (c := 0) hP hj
          have e : (M.1 24 j).toNatClampNeg = N := by rw [n2, ncl (by omega)]
          show (M.1 24 j).toNatClampNeg ≤ 90 ∧ M.1 24 j = nI (M.1 24 j).toNatClampNeg ∧ (∀ i, i < (M.1 24 j).toNatClampNeg → M.1 (16 + j) i ≠ -1000) ∧ lk (M.1 (16 + j)) (M.1 24 j).toNatClampNeg = lk (M.1 (16 + j)) (M.1 24 j).toNatClampNeg ∧ (pPr (lk (M.1 (16 + j)) (M.1 24 j).toNatClampNeg) (M.1 24 j).toNatClampNeg).2 = true
          rw [e]
          exact ⟨n1, n2, n5, rfl, by rw [n4]; exact n6⟩
      have rp : ∀ Q : mM, Q.1 97 = M.1 97 → rPg Q M (bN K.1) K.2.2.1 (fun c => (M.1 13 c).toNatClampNeg) (fun j => (M.1 24 j).toNatClampNeg) (fun j => lk (M.1 (16 + j)) (M.1 24 j).toNatClampNeg) := fun Q e97 => by
        refine ⟨fun c hc => ?_, fun j hj => ?_⟩
        · rw [e97]
          rcases hH c hc with q | ⟨j, j1, j2, j3⟩
          · exact Or.inl q
          · have j2 : M.1 13 c = nI j := j2
            show _ ∨ ((M.1 13 c).toNatClampNeg < K.2.2.1 ∧ M.1 13 c = nI (M.1 13 c).toNatClampNeg ∧ M.1 97 (122 + c) = nI (M.1 13 c).toNatClampNeg)
            rw [j2, ncl (by omega)]
            exact Or.inr ⟨j1, rfl, j3⟩
        · obtain ⟨N, n1, n2, n3, n4, n5, n6⟩ := prg_ex (c := 0) hP hj
          have e : (M.1 24 j).toNatClampNeg = N := by rw [n2, ncl (by omega)]
          show Q.1 97 (146 + j) = nI (M.1 24 j).toNatClampNeg ∧ lk (rg 97 (874 + 90 * j) Q) (M.1 24 j).toNatClampNeg = lk (M.1 (16 + j)) (M.1 24 j).toNatClampNeg
          rw [e, e97, n4]
          exact ⟨n3, lk_cg (fun i hi => by show Q.1 97 _ = M.1 97 _; rw [e97])⟩
      have cs : cSt M (nI K.2.1) (M.1 12) (K.1, M.1 10, fun _ => 0) M := ⟨⟨hw, hB, hT.2.1, fun _ _ => ⟨rfl, rfl⟩⟩, fun c hc => (hV c hc).2.1, fun _ _ _ => rfl, fun _ _ => rfl, rfl⟩
      obtain ⟨j, hj⟩ := mN_ge (k := m + 1) (by omega)
      have hj : mN = j + m + 1 := by omega
      obtain ⟨A0, mem0, hh0, v0, M1, _, _, z3, z4, _⟩ := t_loop (show m < 1000 by omega) cp (rp M rfl) m 0 K.2.1 _ _ _ M (Nat.zero_add _) cs rfl
      have e97 : M1.1 97 = M.1 97 := z4.2.2.1 97 (by omega) (by omega)
      obtain ⟨A', mem', h', v, M1', a1, a2, a3, a4, a5⟩ := t_loop (show m < 1000 by omega) cp (rp M1 e97) m 0 K.2.1 _ _ _ M (Nat.zero_add _) cs rfl
      obtain rfl : M1 = M1' := (Prod.mk.inj (Option.some.inj ((z3 j 0).symm.trans (a3 j 0)))).2
      have rs : rSt M1 (nI K.2.1) (M.1 12) (K.1, M.1 10, M1.1 107) M1 := ⟨⟨hw, repR_fr hn (by rw [e97]) (fun _ _ _ => by rw [e97]) hR, repG_fr (a4.2.2.1 99 (by omega) (by omega)) hG, by rw [e97]; exact hT.2.2, fun c hc => by rw [e97]; exact ⟨(hV c hc).1.symm, (hV c hc).2.2.symm⟩⟩, fun _ _ => rfl, fun _ _ _ _ => rfl, fun _ _ => rfl, rfl, rfl⟩
      obtain ⟨Q', s', b1, b2⟩ := a5 M1 _ rs
      have z := a3 j 0
      have y := b1 j 0
      rw [← hj] at z y
      have z : f_X9_ticks_b35 mN (nI m) 0 0 M = some (0 + v, M1) := z
      have y : f_X10_ticks_b34 mN (nI m) 0 0 M1 = some (0 + v, Q') := y
      rw [z, mbw_s, X10_is_y h, if_neg (show ¬ (1 : Int32) = 0 by decide), e97, hT.2.2, nadd, if_pos ((leL (m := 2000) (by decide) (by omega)).mpr h2), y, mbw_s, if_pos rfl]
      obtain ⟨f1, f2, f3, f4⟩ := b2.2.2
      obtain ⟨g1, g2, g3⟩ := a4.2.2
      have fr : ∀ q, q ≠ 1 → ¬ (q = 4 ∨ q = 5 ∨ q = 8 ∨ q = 9 ∨ (10 ≤ q ∧ q ≤ 12) ∨ q = 76) → q ≠ 97 → q ≠ 99 → ¬ scr q → Q'.1 q = M.1 q := fun q h1 h2 h3 h4 h5 => (f1 q h3 h4 h5).trans (g1 q h1 h2)
      have fr1 : ∀ i, i ≠ 1 → Q'.1 1 i = M.1 1 i := fun i hi => by rw [f1 1 (by omega) (by omega) (by omega)]; exact g2 i hi
      have fr97 : ∀ i, i < 5 ∨ (6 ≤ i ∧ i < 26) ∨ (74 ≤ i ∧ i < 90) ∨ 122 ≤ i → Q'.1 97 i = M.1 97 i := fun i hi => by rw [f2 i hi, e97]
      have frJ : Q'.2.1 = M.2.1 := f4.trans g3
      have hn' : bN A' = bN K.1 := a1
      refine ⟨Q', rfl, Inv_now hI (fun q hq hs h97 h99 => fr q (by omega) (by omega) h97 h99 hs) ?_ (by rw [frJ]) ⟨(A', K.2.1 + m, K.2.2), ⟨⟨b2.1.1, ?_, b2.1.2.1, fun i hi => ?_⟩, ⟨h2, ?_, b2.1.2.2.2.1⟩, fun c hc => ?_, fun c hc => ?_, wP_fr (fr1 _ (by omega)) (fr97 _ (by omega)) (fr _ (by omega) (by omega) (by omega) (by omega) (by omega)) (fun j hj => fr _ (by omega) (by omega) (by omega) (by omega) (by omega)) (fun j h1 h2 => fr97 _ (by omega)) (fun j h1 h2 => fr97 _ (by omega)) hP, wS_fr (fr1 _ (by omega)) (fr97 _ (by omega)) (by rw [frJ]) (fun j h1 h2 => fr97 _ (by omega)) (fun j h1 h2 => fr97 _ (by omega)) hS, wN_le (wN_fr (fun q hq => fr q (by omega) (by omega) (by omega) (by omega) (by omega)) (fr97 _ (by omega)) (fun j h1 h2 => fr97 _ (by omega)) hN) (by show K.2.1 ≤ K.2.1 + m; omega), wN_le (wN_fr (fun q hq => fr q (by omega) (by omega) (by omega) (by omega) (by omega)) (fr97 _ (by omega)) (fun j h1 h2 => fr97 _ (by omega)) hL) (by show K.2.1 ≤ K.2.1 + m; omega), srt_fr (fr _ (by omega) (by omega) (by omega) (by omega) (by omega)) hO, a2 hW⟩, b2.1.2.2.1⟩⟩
      · rw [f3, g1 96 (by omega) (by omega)]
      · exact repB_fr (by rw [f1 _ (by omega) (by omega) (by omega)]) (f1 _ (by omega) (by omega) (by omega)) (f1 _ (by omega) (by omega) (by omega)) (f1 _ (by omega) (by omega) (by omega)) (f1 _ (by omega) (by omega) (by omega)) (f1 _ (by omega) (by omega) (by omega)) a4.1.2.1
      · rw [fr _ (by omega) (by omega) (by omega) (by omega) (by omega)]
        exact h01 i hi
      · rw [f1 1 (by omega) (by omega) (by omega)]
        exact a4.1.2.2.1
      · have hc : c < bN A' := hc
        rw [f1 (1 + 9) (by omega) (by omega) (by omega), f1 (1 + 10) (by omega) (by omega) (by omega), f1 (1 + 11) (by omega) (by omega) (by omega), (b2.1.2.2.2.2 c hc).1, (b2.1.2.2.2.2 c hc).2]
        exact ⟨(a4.1.2.2.2 c hc).1, a4.2.1 c hc, (a4.1.2.2.2 c hc).2⟩
      · have hc : c < bN A' := hc
        rw [fr (1 + 12) (by omega) (by omega) (by omega) (by omega) (by omega), fr97 _ (by omega)]
        exact hH c (by omega)
    · refine ⟨M, ?_, hI⟩
      have h2' : ¬ nI (K.2.1 + m) ≤ 2000 := fun q => h2 ((leL (m := 2000) (by decide) (by omega)).mp q)
      rw [if_neg h2', mbw_s, X10_is_y h, if_neg (show ¬ (1 : Int32) = 0 by decide), hT.2.2, nadd, if_neg h2', mbw_s, if_pos rfl]
  · refine ⟨M, ?_, hI⟩
    have cl : (if a1 < 1 then some (-1, M) else if a1 ≤ 50 then if M.1 1 1 + a1 ≤ 2000 then f_X9_ticks_b35 mN a1 0 0 M else some (-2, M) else some (-1, M)) = some ((-1 : Int32), M) := by
      by_cases e : a1 < 1
      · rw [if_pos e]
      · rw [if_neg e, if_neg (fun q => h ⟨by grind, q⟩)]
    rw [cl, mbw_s, X10_is_n h, if_pos (show (0 : Int32) = 0 from rfl), mbw_s, if_pos rfl]
