/-! plan: the class's answer -/
noncomputable def lps (V : Nat → Bool) (A : Bd) : Nat → Nat → Option (List Nat)
  | 0, _ => none
  | d + 1, k => match fnd V k A with
    | some l => some l
    | none => lps V A d (k + 1)
def plA (o : Option (List Nat)) : Int32 := match o with
  | some l => nI l.length
  | none => -4
theorem lps_y {V : Nat → Bool} {A : Bd} {d k : Nat} {l : List Nat} (h : fnd V k A = some l) : lps V A (d + 1) k = some l := by
  rw [lps, h]
theorem lps_n {V : Nat → Bool} {A : Bd} {d k : Nat} (h : fnd V k A = none) : lps V A (d + 1) k = lps V A d (k + 1) := by
  rw [lps, h]
theorem lps_len {V : Nat → Bool} {A : Bd} (hw : wf A) (d : Nat) : ∀ k l, lps V A d k = some l → l.length < k + d := by
  induction d with
  | zero =>
    intro k l h
    rw [lps] at h
    exact absurd h.symm (Option.some_ne_none _)
  | succ d ih =>
    intro k l h
    cases hf : fnd V k A with
    | some l' =>
      rw [lps_y hf] at h
      obtain rfl := Option.some.inj h
      have := (fnd_le k A l' hw hf).2
      omega
    | none =>
      rw [lps_n hf] at h
      have := ih (k + 1) l h
      omega
theorem lps_E {V : Nat → Bool} {A : Bd} (hw : wf A) (d : Nat) : ∀ k, k ≤ Eo V A → lps V A d k = lps V A (d - (Eo V A - k)) (Eo V A) := by
  induction d with
  | zero =>
    intro k hk
    rw [Nat.zero_sub, lps, lps]
  | succ d ih =>
    intro k hk
    by_cases e : k = Eo V A
    · rw [← e, Nat.sub_self, Nat.sub_zero]
    · have hf : fnd V k A = none := by
        cases hf : fnd V k A with
        | some l =>
          have := (fnd_le k A l hw hf).1
          exact absurd this (by omega)
        | none => rfl
      rw [lps_n hf, ih (k + 1) (by omega)]
      congr 1
      omega
theorem c_lps {V : Nat → Bool} {A : Bd} {most : Nat} (hw : wf A) (h4 : most ≤ 4) (d : Nat) : ∀ k M, d = most + 1 - k → k ≤ 16 → repB 65 M A → wants M V → ∃ M', (∀ j, f_X3_find_b88 (j + d + 1) 1 (nI most) (nI (Eo V A)) (nI k) M = some (plA (lps V A d k), M')) ∧ cS 0 M M' ∧ ∀ l, lps V A d k = some l → ∀ t, t < l.length → M'.1 75 t = nI (gtl l t) := by
  induction d with
  | zero =>
    intro k M hd hk hB hV
    refine ⟨M, fun j => ?_, cS_rf, fun l h => ?_⟩
    · rw [f_X3_find_b88, if_pos ((nlt (by omega) (by omega)).mpr (by omega))] <;> rfl
    · rw [lps] at h
      exact absurd h.symm (Option.some_ne_none _)
  | succ d ih =>
    intro k M hd hk hB hV
    obtain ⟨M1, a1, a2, a3, a4⟩ := cp_D (V := V) 5 k 0 k A M (Nat.zero_add _) (by omega) (by omega) hw hB hV
    have st : ∀ j, f_X3_find_b88 (j + (d + 1) + 1) 1 (nI most) (nI (Eo V A)) (nI k) M = if fA (fnd V k A) = 0 then f_X3_find_b88 (j + d + 1) 1 (nI most) (nI (Eo V A)) (nI (k + 1)) M1 else some (nI k, M1) := fun j => by
      show f_X3_find_b88 (j + d + 1 + 1) 1 (nI most) (nI (Eo V A)) (nI k) M = _
      have a1 : f_X3_completesD 6 0 (nI k) (nI (Eo V A)) M = some (fA (fnd V k A), M1) := a1
      rw [f_X3_find_b88, if_neg (fun q => by have := (nlt (by omega) (by omega)).mp q; omega), a1, mbw_s, nI_1, mlt_s]
    cases hf : fnd V k A with
    | some l =>
      have hl := (fnd_le k A l hw hf).2
      refine ⟨M1, fun j => ?_, a2, fun l' h t ht => ?_⟩
      · rw [st, hf, lps_y hf, if_neg (show ¬ fA (some l) = 0 from (show ¬ (1 : Int32) = 0 by decide))]
        show _ = some (nI l.length, M1)
        rw [hl]
      · rw [lps_y hf] at h
        obtain rfl := Option.some.inj h
        have := a4 l hf t (by omega)
        rw [Nat.zero_add] at this
        exact this
    | none =>
      obtain ⟨M', b1, b2, b3⟩ := ih (k + 1) M1 (by omega) (by omega) a3 (cS_w a2 hV)
      refine ⟨M', fun j => ?_, cS_tr a2 b2, fun l h => ?_⟩
      · rw [st, hf, lps_n hf, if_pos (show fA none = 0 from rfl)]
        exact b1 j
      · rw [lps_n hf] at h
        exact b3 l h
/-- THE PLAN: none where the SHAPE has more or less CELLS than there are CUBES -/
noncomputable def lpG (V : Nat → Bool) (A : Bd) (most : Nat) : Option (List Nat) := if smq (fun q => (V (10 * (q % 8) + q / 8)).toNat) 80 = bN A then lps V A (most + 1) 0 else none
theorem Inv_74 {M M' : mM} (h : Inv M) (e : ∀ q, ¬ scr q → q ≠ 74 → M'.1 q = M.1 q) (e96 : M'.1 96 3 = M.1 96 3) (e2 : M'.2 = M.2) (e74 : ∀ p, ¬ inG p → M'.1 74 p = M.1 74 p) : Inv M' := by
  obtain ⟨⟨K, h1, h2⟩, h3, h4, h5⟩ := h
  exact ⟨⟨K, wA_fr (fun q hq => e q (by unfold cnt at hq; omega) (by unfold cnt at hq; omega)) (by rw [e2]) (fun j _ => by rw [e 97 (by omega) (by omega)]) h1, repG_fr (e 99 (by omega) (by omega)) h2⟩, iI_fr (fun q hq => e q (by unfold cnt at hq; omega) (by unfold cnt at hq; omega)) (by rw [e2]) (e 98 (by omega) (by omega)) (by rw [e 0 (by omega) (by omega)]) e96 h3, fun d hd => iS_fr (fun q hq => e q (by omega) (by omega)) (h4 d hd), fun p hp hg => (e74 p hg).trans (h5 p hp hg)⟩
theorem wA_74 {M M' : mM} {K : Kt} (h : wA 1 97 M K) (e : ∀ q, ¬ scr q → q ≠ 74 → M'.1 q = M.1 q) (e2 : M'.2 = M.2) : wA 1 97 M' K := wA_fr (fun q hq => e q (by unfold cnt at hq; omega) (by unfold cnt at hq; omega)) (by rw [e2]) (fun j _ => by rw [e 97 (by omega) (by omega)]) h
theorem Vg_eq {M M' : mM} {j N : Nat} (h : M'.1 97 = M.1 97) : Vg M' j N = Vg M j N := by
  have : rg 97 (154 + 90 * j) M' = rg 97 (154 + 90 * j) M := funext fun i => by show M'.1 97 _ = M.1 97 _; rw [h]
  show (tSh (lk (rg 97 (154 + 90 * j) M') N) N).2.2 = _
  rw [this] <;> rfl
theorem c_outE {M : mM} {A : Bd} {j ns N : Nat} (hw : wf A) (hB : repB 2 M A) (hS : wS 1 97 M ns) (hj : j < ns) (h1 : M.1 97 (138 + j) = nI N) (hN : N ≤ 90) : f_X8_outsideShape 1 (nI j) M = some (nI (Eo (Vg M j N) A)) := by
  have hn := hw.1
  obtain ⟨m, hm⟩ := mN_ge (k := bN A + 1) (by omega)
  have hm : mN = m + bN A + 1 := by omega
  have co := c_out hw hB hS hj h1 hN (bN A) 0 0 (Nat.zero_add _) m
  rw [← hm] at co
  have e : 0 + (smq (ouv A (Vg M j N)) (0 + bN A) - smq (ouv A (Vg M j N)) 0) = Eo (Vg M j N) A := by
    rw [Nat.zero_add, Nat.zero_add]
    rfl
  rw [e] at co
  exact co
/-- what the class's find answers and leaves -/
theorem c_find {M : mM} {K : Kt} {j N most : Nat} (hI : Inv M) (hA : wA 1 97 M K) (hj : j < K.2.2.2.1) (n1 : N ≤ 90) (n2 : M.1 97 (138 + j) = nI N) (h4 : most ≤ 4) : ∃ M', f_X3_find 1 (nI j) (nI most) M = some (plA (lpG (Vg M j N) K.1 most), M') ∧ (∀ q, ¬ scr q → q ≠ 74 → M'.1 q = M.1 q) ∧ M'.2 = M.2 ∧ Inv M' ∧ ∀ l, lpG (Vg M j N) K.1 most = some l → ∀ t, t < l.length → M'.1 75 t = nI (gtl l t) := by
  obtain ⟨hC, hT, hV, hH, hP, hS, -⟩ := id hA
  obtain ⟨hw, hB, hR, h01⟩ := id hC
  have hB : repB 2 M K.1 := hB
  have hn := hw.1
  have co := c_outE hw hB hS hj n2 n1
  have cc := c_cells hS hj n2 n1
  have hE := Eo_le (V := Vg M j N) hw
  have hG := smq_le (v := fun q => (Vg M j N (10 * (q % 8) + q / 8)).toNat) (fun i => b_le _) 80
  have ce : f_X8_emptyInShape 1 (nI j) M = some (nI (smq (fun q => (Vg M j N (10 * (q % 8) + q / 8)).toNat) 80) - (nI (bN K.1) - nI (Eo (Vg M j N) K.1))) := by
    unfold f_X8_emptyInShape
    rw [cc, mbp_s, co, mbp_s, show M.1 (1 + 1) 0 = nI (bN K.1) from hB.1]
  obtain ⟨G, hGe⟩ : ∃ G, smq (fun q => (Vg M j N (10 * (q % 8) + q / 8)).toNat) 80 = G := ⟨_, rfl⟩
  rw [hGe] at ce hG
  unfold f_X3_find lpG
  rw [ce, mbp_s, co, mbp_s, hGe]
  by_cases e : G = bN K.1
  · have hG1 : nI G - (nI (bN K.1) - nI (Eo (Vg M j N) K.1)) = nI (Eo (Vg M j N) K.1) := gn_eq.mpr (by rw [e])
    rw [if_pos e, if_pos hG1]
    obtain ⟨M1, m1, m2, m3, m4, m5⟩ := X0_copy65 hA
    have m1 : f_X0_copyFrom 65 (1 + 1) M = some M1 := m1
    have hA1 := wA_eqK m2 hA
    have e97 : M1.1 97 = M.1 97 := m2.1 97 (by omega)
    obtain ⟨M2, p1, p2⟩ := fw_out hA1.2.2.2.2.2.1 hj (by rw [e97]; exact n2) n1 10 0 M1 rfl ⟨fun _ _ => rfl, rfl, fun _ _ => rfl, fun x y _ _ h => absurd h (Nat.not_lt_zero _)⟩
    rw [Vg_eq e97] at p2
    have hW : wants M2 (Vg M j N) := wants_fw p2 (fun p hp hg => by rw [m4]; exact hI.2.2.2 p hp hg)
    have hB2 : repB 65 M2 K.1 := repB_fr (by rw [p2.1 65 (by omega)]) (p2.1 66 (by omega)) (p2.1 67 (by omega)) (p2.1 68 (by omega)) (p2.1 69 (by omega)) (p2.1 71 (by omega)) m3
    obtain ⟨M3, r1, r2, r3⟩ := c_lps hw h4 (most + 1 - Eo (Vg M j N) K.1) (Eo (Vg M j N) K.1) M2 rfl hE hB2 hW
    have hLE : lps (Vg M j N) K.1 (most + 1) 0 = lps (Vg M j N) K.1 (most + 1 - Eo (Vg M j N) K.1) (Eo (Vg M j N) K.1) := lps_E hw (most + 1) 0 (Nat.zero_le _)
    rw [← hLE] at r1 r3
    have eq : ∀ q, ¬ scr q → q ≠ 74 → M3.1 q = M.1 q := fun q hq h74 => by
      rw [r2.1 q (by omega) (by omega) (by omega) (by omega) (by omega), p2.1 q h74, m2.1 q hq]
    have e96 : M3.1 96 3 = M.1 96 3 := by
      rw [r2.1 96 (by omega) (by omega) (by omega) (by omega) (by omega), p2.1 96 (by omega), m2.2.1]
    have e2 : M3.2 = M.2 := r2.2.1.trans (p2.2.1.trans m5)
    have e74 : ∀ p, ¬ inG p → M3.1 74 p = M.1 74 p := fun p hp => by
      rw [r2.1 74 (by omega) (by omega) (by omega) (by omega) (by omega), p2.2.2.1 p hp, m4]
    refine ⟨M3, ?_, eq, e2, Inv_74 hI eq e96 e2 e74, r3⟩
    obtain ⟨m, hm⟩ := mN_ge (k := 18 + 11) (by omega)
    have p1 := p1 (m + 18) (nI most) (nI (Eo (Vg M j N) K.1))
    have r1 := r1 (mN - (most + 1 - Eo (Vg M j N) K.1 + 1))
    rw [show m + 18 + 10 + 1 = mN by omega] at p1
    rw [show mN - (most + 1 - Eo (Vg M j N) K.1 + 1) + (most + 1 - Eo (Vg M j N) K.1) + 1 = mN by omega] at r1
    have p1 : f_X3_find_b34 mN 1 (nI j) (nI most) (nI (Eo (Vg M j N) K.1)) 0 M1 = _ := p1
    rw [m1, mbp_s, hG1, p1, r1]
  · rw [if_neg e, if_neg (fun q => e ((neq (by omega) (by omega)).mp (gn_eq.mp q)))]
    exact ⟨M, rfl, fun _ _ _ => rfl, rfl, hI, fun l h => absurd h.symm (Option.some_ne_none _)⟩
