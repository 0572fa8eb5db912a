/-! plan: the reference's answer -/
theorem mN_big {k : Nat} (h : k ≤ 100000000) : ∃ j, mN = j + k := ⟨mN - k, by have : mN = 1099511627776 := rfl; omega⟩
theorem Ws_3 {r : Nat} (h : r ≤ 3) : Ws r ≤ 270466 := by
  rcases (show r = 0 ∨ r = 1 ∨ r = 2 ∨ r = 3 by omega) with rfl | rfl | rfl | rfl <;> decide
theorem X10_isP {V : Nat → Bool} {R : mM} {A : Bd} {L : Nat → Int32} {n : Nat} (h4 : n ≤ 4) (hw : wf A) (hr : repR 97 R A) (hg : repG R A) (h5 : gl5 V R) (hG : R.1 96 24 = nI (bN A)) : ∃ L', f_X10_isPlan (nI n) (sR R 106 L) = some (fA (fnd V n A), sR R 106 L') ∧ ∀ l, fnd V n A = some l → ∀ t, t < n → L' t = nI (gtl l t) := by
  have hn := hw.1
  have hE := Eo_le (V := V) hw
  unfold f_X10_isPlan
  rw [sR_n (by decide), sR_n (by decide), hG, hr.1, if_pos rfl, mI_R, mlt_s]
  cases n with
  | zero =>
    refine ⟨up L 0 (-1), ?_, fun l _ t ht => absurd ht (Nat.not_lt_zero t)⟩
    rw [if_pos (show nI 0 = (0 : Int32) from rfl), X10_outE hw (repR_s (by decide) hr) (gl5_s h5), mbp_s, fnd]
    by_cases e : Eo V A = 0
    · rw [if_pos e, if_pos (show nI (Eo V A) = 0 from congrArg nI e)] <;> rfl
    · rw [if_neg e, if_neg (fun q => e ((eqL (m := 0) (by decide) (by omega)).mp q))] <;> rfl
  | succ r =>
    obtain ⟨k, L', a1, a2, a3, a4⟩ := rp_all (V := V) h4 r 0 A R (by omega) hw hr hg h5 (8 * min 8 (bN A)) 0 (up L 0 (-1)) (by rw [up_e]; decide) (Nat.zero_add _)
    have hk : k ≤ 64 * 270466 + 1 := by
      have h1 : 8 * min 8 (bN A) * Ws r ≤ 64 * 270466 := Nat.mul_le_mul (by omega) (Ws_3 (by omega))
      omega
    obtain ⟨F, hF⟩ := mN_big (k := k + 1) (by omega)
    have hF : mN = F + 1 + k := by omega
    rw [← fnd_s] at a3 a4
    rw [if_neg (fun q => by have : r + 1 = 0 := (eqL (m := 0) (by decide) (by omega)).mp q; omega)]
    cases hf : fnd V (r + 1) A with
    | none =>
      have a3 : ∀ F, f_X10_isPlan_b43 (F + k) (nI (r + 1)) 0 0 (sR R 106 (up L 0 (-1))) = rtl F (nI (r + 1)) (nI 0 + -1) (sR R 106 L') := a3 hf
      refine ⟨L', ?_, fun l h => absurd h.symm (Option.some_ne_none _)⟩
      rw [hF, a3]
      unfold rtl
      rw [if_pos (by decide), f_X10_isPlan_b43, if_pos (by decide)]
      unfold f_X10_isPlan_b191
      rw [if_pos (show (0 : Int32) = 0 from rfl), mgd_s (show (0 : Int32) = 0 ∨ (0 : Int32) = 1 from Or.inl rfl)] <;> rfl
    | some l =>
      obtain ⟨b1, st, b2, b3⟩ := a4 l hf
      have b2 : ∀ F, f_X10_isPlan_b43 (F + k) (nI (r + 1)) 0 0 (sR R 106 (up L 0 (-1))) = f_X10_isPlan_b43 F (nI (r + 1)) (nI (r + 1) - 1) 1 st := b2
      refine ⟨L', ?_, fun l' h t ht => ?_⟩
      · obtain ⟨F2, hF2⟩ := mN_big (k := r + 2) (by omega)
        have hF2 : mN = F2 + 1 + (r + 1) := by omega
        have b3 := b3 (F2 + 1)
        rw [← hF2] at b3
        rw [hF, b2, f_X10_isPlan_b43, if_neg (fun q => by rw [nI_p (by omega)] at q; exact nlt0 (by omega) q), if_neg (show ¬ (1 : Int32) = 0 by decide)]
        unfold f_X10_isPlan_b191
        rw [if_neg (show ¬ (1 : Int32) = 0 by decide), b3, f_X10_isPlan_b200, if_pos (by decide), mgd_s (show (1 : Int32) = 0 ∨ (1 : Int32) = 1 from Or.inr rfl)] <;> rfl
      · obtain rfl := Option.some.inj h
        have := b1 t (by omega)
        rw [Nat.zero_add] at this
        exact this
theorem r_lps {V : Nat → Bool} {R : mM} {A : Bd} {most : Nat} (h4 : most ≤ 4) (hw : wf A) (hr : repR 97 R A) (hg : repG R A) (h5 : gl5 V R) (hG : R.1 96 24 = nI (bN A)) (d : Nat) : ∀ k L, k + d = most + 1 → ∃ L', (∀ j, f_X10_planIn_b7 (j + d + 1) (nI most) (nI k) (sR R 106 L) = some (plA (lps V A d k), sR R 106 L')) ∧ ∀ l, lps V A d k = some l → ∀ t, t < l.length → L' t = nI (gtl l t) := by
  induction d with
  | zero =>
    intro k L hd
    refine ⟨L, fun j => ?_, fun l h => ?_⟩
    · rw [f_X10_planIn_b7, if_pos ((nlt (by omega) (by omega)).mpr (by omega))] <;> rfl
    · rw [lps] at h
      exact absurd h.symm (Option.some_ne_none _)
  | succ d ih =>
    intro k L hd
    obtain ⟨L1, a1, a2⟩ := X10_isP (V := V) (L := L) (n := k) (by omega) hw hr hg h5 hG
    have st : ∀ j, f_X10_planIn_b7 (j + (d + 1) + 1) (nI most) (nI k) (sR R 106 L) = if fA (fnd V k A) = 0 then f_X10_planIn_b7 (j + d + 1) (nI most) (nI (k + 1)) (sR R 106 L1) else some (nI k, sR R 106 L1) := fun j => by
      show f_X10_planIn_b7 (j + d + 1 + 1) (nI most) (nI k) (sR R 106 L) = _
      rw [f_X10_planIn_b7, if_neg (fun q => by have := (nlt (by omega) (by omega)).mp q; omega), a1, mbw_s, nI_1, mlt_s]
    cases hf : fnd V k A with
    | some l =>
      have hl := (fnd_le k A l hw hf).2
      refine ⟨L1, fun j => ?_, fun l' h t ht => ?_⟩
      · rw [st, hf, lps_y hf, if_neg (show ¬ fA (some l) = 0 from (show ¬ (1 : Int32) = 0 by decide))]
        show _ = some (nI l.length, sR R 106 L1)
        rw [hl]
      · rw [lps_y hf] at h
        obtain rfl := Option.some.inj h
        exact a2 l hf t (by omega)
    | none =>
      obtain ⟨L', b1, b2⟩ := ih (k + 1) L1 (by omega)
      refine ⟨L', fun j => ?_, fun l h => ?_⟩
      · rw [st, hf, lps_n hf, if_pos (show fA none = 0 from rfl)]
        exact b1 j
      · rw [lps_n hf] at h
        exact b2 l h
theorem r_lps_n {R : mM} {most : Nat} (h4 : most ≤ 4) (hG : ¬ R.1 96 24 = R.1 97 0) (d : Nat) : ∀ k j, k + d = most + 1 → f_X10_planIn_b7 (j + d + 1) (nI most) (nI k) R = some (-4, R) := by
  induction d with
  | zero =>
    intro k j hd
    rw [f_X10_planIn_b7, if_pos ((nlt (by omega) (by omega)).mpr (by omega))]
  | succ d ih =>
    intro k j hd
    show f_X10_planIn_b7 (j + d + 1 + 1) (nI most) (nI k) R = _
    have e : f_X10_isPlan (nI k) R = some (0, R) := by
      unfold f_X10_isPlan
      rw [if_neg hG]
    rw [f_X10_planIn_b7, if_neg (fun q => by have := (nlt (by omega) (by omega)).mp q; omega), e, mbw_s, if_pos (show (0 : Int32) = 0 from rfl), nI_1, mlt_s]
    exact ih (k + 1) j (by omega)
theorem X10_planI {M : mM} {A : Bd} {j N most : Nat} (hw : wf A) (hr : repR 97 M A) (hg : repG M A) (hj : j < 8) (n1 : N ≤ 90) (n2 : M.1 97 (138 + j) = nI N) (n3 : (tSh (lk (rg 97 (154 + 90 * j) M) N) N).2.1 = true) (h4 : most ≤ 4) : ∃ M', f_X10_planIn (nI j) (nI most) M = some (plA (lpG (Vg M j N) A most), M') ∧ eqK M M' ∧ (∀ k, k < 96 → M'.1 k = M.1 k) ∧ ∀ l, lpG (Vg M j N) A most = some l → ∀ t, t < l.length → M'.1 106 t = nI (gtl l t) := by
  have hn := hw.1
  obtain ⟨R, g1, g2, g3, g4⟩ := X10_goal hj n1 n2 n3
  have e97 : R.1 97 = M.1 97 := g2.1 97 (by omega) (by omega) (by omega) (by omega) (by omega)
  have hr' : repR 97 R A := repR_fr hn (by rw [e97]) (fun _ _ _ => by rw [e97]) hr
  have hg' : repG R A := repG_fr (g2.1 99 (by omega) (by omega) (by omega) (by omega) (by omega)) hg
  have hK := eqG_K g2
  have e95 : ∀ k, k < 96 → R.1 k = M.1 k := fun k hk => g2.1 k (by omega) (by omega) (by omega) (by omega) (by omega)
  have hG := smq_le (v := fun q => (Vg M j N (10 * (q % 8) + q / 8)).toNat) (fun i => b_le _) 80
  obtain ⟨m, hm⟩ := mN_ge (k := most + 1 + 1) (by omega)
  have hm : mN = m + (most + 1) + 1 := by omega
  unfold f_X10_planIn lpG
  rw [g1, mbp_s]
  obtain ⟨G, hGe⟩ : ∃ G, smq (fun q => (Vg M j N (10 * (q % 8) + q / 8)).toNat) 80 = G := ⟨_, rfl⟩
  rw [hGe] at hG g4 ⊢
  by_cases e : G = bN A
  · obtain ⟨L', a1, a2⟩ := r_lps (V := Vg M j N) h4 hw hr' hg' g3 (by rw [g4, e]) (most + 1) 0 (R.1 106) (Nat.zero_add _)
    have a1 := a1 m
    rw [← hm, sR_self] at a1
    have a1 : f_X10_planIn_b7 mN (nI most) 0 R = _ := a1
    rw [if_pos e]
    refine ⟨sR R 106 L', a1, eqK_tr hK (eqK_s (by omega)), fun k hk => by rw [sR_n (by omega)]; exact e95 k hk, fun l h t ht => ?_⟩
    rw [sR_e]
    exact a2 l h t ht
  · have a1 := r_lps_n (R := R) h4 (fun q => e (by rw [g4, hr'.1] at q; exact (neq (by omega) (by omega)).mp q)) (most + 1) 0 m (Nat.zero_add _)
    rw [← hm] at a1
    have a1 : f_X10_planIn_b7 mN (nI most) 0 R = _ := a1
    rw [if_neg e]
    exact ⟨R, a1, hK, e95, fun l h => absurd h.symm (Option.some_ne_none _)⟩
