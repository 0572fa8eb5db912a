/-! RESTORED -/
theorem rst_60 {j : Nat} {M : mM} {A : Bd} {v : Int32} (hw : wf A) (hr : repR 97 M A) (hv : M.1 97 5 = v) (d : Nat) : ∀ c G, c + d = bN A → (∀ x, x < 10 → ∀ y, y < 8 → (∀ e, e < c → bP A e = 12 * (y + 1) + x + 1 → G (8 * x + y) = nI e + 1) ∧ ((∀ e, e < c → bP A e ≠ 12 * (y + 1) + x + 1) → G (8 * x + y) = 0)) → ∃ G', f_X10_restore_b60 (j + d + 1) (nI c) (sR M 99 G) = some (v, sR M 99 G') ∧ ∀ x, x < 10 → ∀ y, y < 8 → G' (8 * x + y) = bG A (12 * (y + 1) + x + 1) + 1 := by
  have hn := hw.1
  induction d with
  | zero =>
    intro c G hc hG
    refine ⟨G, ?_, fun x hx y hy => ?_⟩
    · rw [f_X10_restore_b60, sR_n (by omega), hr.1, if_pos ((nle (by omega) (by omega)).mpr (by omega)), hv]
    · obtain ⟨g1, g2⟩ := hG x hx y hy
      have hi := cellI hx hy
      rcases wf_g hw (p := 12 * (y + 1) + x + 1) (by omega) with ⟨q, -⟩ | ⟨e, e1, e2, e3, -⟩ | ⟨-, q⟩
      · rw [q, g2 (fun e he k => ?_)]
        · rfl
        · have := (hw.2.1 e (by omega)).2
          rw [k, q] at this
          exact nneg (a := e) (m := 1) (by omega) (by decide) (by decide) this.symm
      · rw [g1 e (by omega) e3, e2]
      · exact absurd hi q
  | succ d ih =>
    intro c G hc hG
    have hp := (hw.2.1 c (by omega)).1
    obtain ⟨x1, x2, x3, x4⟩ := cell_ix hp
    obtain ⟨G', g1, g2⟩ := ih (c + 1) (up G (8 * (bP A c % 12 - 1) + (bP A c / 12 - 1)) (nI (c + 1))) (by omega) (fun x hx y hy => by
      have ca := cellA hx hy hp
      obtain ⟨h1, h2⟩ := hG x hx y hy
      by_cases e : 12 * (y + 1) + x + 1 = bP A c
      · rw [ca.mpr e, up_e]
        refine ⟨fun f hf k => ?_, fun k => absurd e.symm (k c (by omega))⟩
        rw [wf_inj hw (by omega) (by omega) (k.trans e), nI_1]
      · rw [up_n (fun k => e (ca.mp k))]
        refine ⟨fun f hf k => h1 f (by
          by_cases e2 : f = c
          · rw [e2] at k; exact absurd k.symm e
          · omega) k, fun k => h2 (fun f hf => k f (by omega))⟩)
    refine ⟨G', ?_, g2⟩
    rw [f_X10_restore_b60, sR_n (by omega), hr.1, if_neg (fun q => by have := (nle (by omega) (by omega)).mp q; omega)]
    simp only [ladd, ncl (show 26 + c < 2147483648 by omega), ncl (show 42 + c < 2147483648 by omega), sR_n (show 97 ≠ 99 by omega)]
    rw [hr.2.2.1 c (by omega), hr.2.2.2.1 c (by omega), x1, mgd_s ((nin (by omega)).mpr (by omega)), mgd_s ((nin (by omega)).mpr (by omega)), mgd_s ((nin (by omega)).mpr (by omega)), ncl (by omega), mI_R, mlt_s, nI_1, mlt_s]
    exact g1
theorem rst_39 {j : Nat} {M : mM} {A : Bd} {v : Int32} (hw : wf A) (hr : repR 97 M A) (hv : M.1 97 5 = v) (d : Nat) : ∀ i G, i + d = 80 → (∀ k, k < i → G k = 0) → ∃ G', f_X10_restore_b39 (j + d + 1) (nI i) (sR M 99 G) = some (v, sR M 99 G') ∧ ∀ x, x < 10 → ∀ y, y < 8 → G' (8 * x + y) = bG A (12 * (y + 1) + x + 1) + 1 := by
  have hn := hw.1
  induction d with
  | zero =>
    intro i G hi hG
    obtain ⟨m, hm⟩ := mN_ge (k := bN A + 1) (by omega)
    have hm : mN = m + bN A + 1 := by omega
    obtain ⟨G', g1, g2⟩ := rst_60 (j := m) hw hr hv (bN A) 0 G (Nat.zero_add _) (fun x hx y hy => ⟨fun e he => absurd he (Nat.not_lt_zero e), fun _ => hG _ (by omega)⟩)
    rw [← hm] at g1
    exact ⟨G', by rw [f_X10_restore_b39, if_pos ((lle (m := 80) (by decide) (by omega)).mpr (show 80 ≤ _ by omega))]; exact g1, g2⟩
  | succ d ih =>
    intro i G hi hG
    obtain ⟨G', g1, g2⟩ := ih (i + 1) (up G i 0) (by omega) (fun k hk => by
      by_cases e : k = i
      · rw [e, up_e]
      · rw [up_n e]; exact hG k (by omega))
    refine ⟨G', ?_, g2⟩
    rw [f_X10_restore_b39, if_neg (fun q => by have : 80 ≤ _ := (lle (m := 80) (by decide) (by omega)).mp q; omega), mgd_s ((nin (by omega)).mpr (by omega)), ncl (by omega), mI_R, mlt_s, nI_1, mlt_s]
    exact g1
theorem rst_12 {j : Nat} {M : mM} (d : Nat) : ∀ i L, i + d = 1834 → (∀ k, k < i → L k = M.1 98 k) → ∃ L', f_X10_restore_b12 (j + d + 1) (nI i) (sR M 97 L) = f_X10_restore_b39 mN 0 (sR M 97 L') ∧ ∀ k, k < 1834 → L' k = M.1 98 k := by
  induction d with
  | zero =>
    intro i L hi hL
    refine ⟨L, ?_, fun k hk => hL k (by omega)⟩
    rw [f_X10_restore_b12, if_pos ((lle (m := 1834) (by decide) (by omega)).mpr (show 1834 ≤ _ by omega))]
  | succ d ih =>
    intro i L hi hL
    obtain ⟨L', l1, l2⟩ := ih (i + 1) (up L i (M.1 98 i)) (by omega) (fun k hk => by
      by_cases e : k = i
      · rw [e, up_e]
      · rw [up_n e]; exact hL k (by omega))
    refine ⟨L', ?_, l2⟩
    rw [f_X10_restore_b12, if_neg (fun q => by have : 1834 ≤ _ := (lle (m := 1834) (by decide) (by omega)).mp q; omega), mgd_s ((nin (by omega)).mpr (by omega)), mgd_s ((nin (by omega)).mpr (by omega)), ncl (by omega), sR_n (by omega), mI_R, mlt_s, nI_1, mlt_s]
    exact l1
theorem op_restore {M : mM} (hI : Inv M) : ∃ M', f_law_c24 M = some M' ∧ Inv M' := by
  obtain ⟨-, hIm, hSh, h74⟩ := id hI
  unfold f_law_c24 f_X9_restore f_X10_restore
  rcases hIm with ⟨i1, i2⟩ | ⟨i1, i2, K, hA⟩
  · refine ⟨M, ?_, hI⟩
    rw [i1, if_pos (show (0 : Int32) = 0 from rfl), mbw_s, i2, if_pos (show (0 : Int32) = 0 from rfl), mbw_s, if_pos rfl]
  · obtain ⟨M1, m1, m2, m3, m4⟩ := X8_copy (b := 1) (q := 33) (M := M) (by omega) hA.1.2.2.2 hA.2.2.2.2.2.2.2.1.2.2.2.2 hA.2.2.2.2.2.2.1.2.2.2.2
    obtain ⟨j, hj⟩ := mN_ge (k := 1835) (by omega)
    have hj : mN = j + 1834 + 1 := by omega
    obtain ⟨L, l1, l2⟩ := rst_12 (j := j) (M := M1) 1834 0 (M1.1 97) rfl (fun k hk => absurd hk (Nat.not_lt_zero k))
    rw [sR_self, ← hj] at l1
    have l1 : f_X10_restore_b12 mN 0 M1 = _ := l1
    have cp : wA 1 97 (sR M1 97 L) K := by
      have a1 : wCp 1 33 M (sR M1 97 L) := by
        obtain ⟨c0, c1, c2, c3, c4, c5, c6, c7, c8, c9⟩ := m2
        have z : ∀ q, q ≠ 97 → (sR M1 97 L).1 q = M1.1 q := fun q b => sR_n b
        refine ⟨fun j hj => ?_, ?_, fun k i a b hi => ?_, fun i hi => ?_, fun k i a b hi => ?_, c5, fun k i a b hi => ?_, fun i hi => ?_, fun k hk => ?_, fun k i hk hi => ?_⟩
        · rw [z _ (by omega)]; exact c0 j hj
        · rw [z _ (by omega)]; exact c1
        · rw [z _ (by omega)]; exact c2 k i a b hi
        · rw [z _ (by omega)]; exact c3 i hi
        · rw [z _ (by omega)]; exact c4 k i a b hi
        · rw [z _ (by omega)]; exact c6 k i a b hi
        · rw [z _ (by omega)]; exact c7 i hi
        · rw [z _ (by omega)]; exact c8 k hk
        · rw [z _ (by omega)]; exact c9 k i hk hi
      exact wA_cp a1 (fun j hj => by rw [sR_e, l2 j hj, m3 98 (by omega)]) hA
    obtain ⟨j2, hj2⟩ := mN_ge (k := 81) (by omega)
    have hj2 : mN = j2 + 80 + 1 := by omega
    obtain ⟨G, g1, g2⟩ := rst_39 (j := j2) cp.1.1 cp.1.2.2.1 cp.2.1.2.2 80 0 ((sR M1 97 L).1 99) rfl (fun k hk => absurd hk (Nat.not_lt_zero k))
    rw [sR_self, ← hj2] at g1
    have g1 : f_X10_restore_b39 mN 0 (sR M1 97 L) = _ := g1
    have t1 : M1.1 1 1 = nI K.2.1 := by
      have := cp.2.1.2.1
      rw [sR_n (by omega)] at this
      exact this
    rw [i1, if_neg (show ¬ (1 : Int32) = 0 by decide), m1, mbp_s, t1, mbw_s, m3 96 (by omega), i2, if_neg (show ¬ (1 : Int32) = 0 by decide), l1, g1, mbw_s, if_pos rfl]
    have fr : ∀ q, ¬ (1 ≤ q ∧ q < 33) → q ≠ 97 → q ≠ 99 → (sR (sR M1 97 L) 99 G).1 q = M.1 q := fun q a b c => by rw [sR_n c, sR_n b, m3 q (by omega)]
    refine ⟨_, rfl, Inv_now hI (fun q hq hs h97 h99 => fr q (by omega) h97 h99) (by rw [fr 96 (by omega) (by omega) (by omega)]) (m4 46 (by omega)) ⟨K, wA_fr (fun q hq => sR_n (by unfold cnt at hq; omega)) rfl (fun j _ => by rw [sR_n (by omega)]) cp, fun x hx y hy => ?_⟩⟩
    rw [sR_e]
    exact g2 x hx y hy
