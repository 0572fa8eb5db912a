/-! in -/
theorem isShape_c {a : Int32} {ns : Nat} {M : mM} (hns : ns ≤ 8) (h : M.1 97 1 = nI ns) : f_X10_isShape a M = some (tf (0 ≤ a ∧ a < nI ns)) := by
  have t := nI_ti (k := ns) (by omega)
  unfold f_X10_isShape
  rw [h, X10_is_c, mgd_s tf_01]
  exact congrArg some (tf_c (by grind))
theorem hasShape_c {a : Int32} {ns : Nat} {M : mM} (h : M.1 1 6 = nI ns) : f_X8_hasShape 1 a M = tf (0 ≤ a ∧ a < nI ns) := by
  unfold f_X8_hasShape
  rw [h]
  by_cases e : 0 ≤ a ∧ a < nI ns
  · rw [tf_y e]; grind
  · rw [tf_n e]; grind
theorem cmp0 {x : Int64} : lg_cmp x 0 = 0 ↔ x = 0 := by
  unfold lg_cmp
  by_cases h1 : x > 0
  · rw [if_pos h1]
    constructor
    · intro h; exact absurd h (by decide)
    · intro h; subst h; exact absurd h1 (by decide)
  · rw [if_neg h1]
    by_cases h2 : x = 0
    · rw [if_pos h2]; exact ⟨fun _ => h2, fun _ => rfl⟩
    · rw [if_neg h2]
      constructor
      · intro h; exact absurd h (by decide)
      · intro h; exact absurd h h2
theorem sh_amt : ∀ k, k < 40 → ((Int32.toInt64 (nI k) &&& 63).toBitVec.smod 64).toNat = k := by decide +kernel
theorem bit_at {C : Int64} {k : Nat} (hk : k < 40) : (lg_cmp ((C >>> (Int32.toInt64 (nI k) &&& 63)) &&& 1) 0 = 0) ↔ C.toBitVec.getLsbD k = false := by
  have e1 : ((C >>> (Int32.toInt64 (nI k) &&& 63)) &&& 1).toBitVec.getLsbD 0 = C.toBitVec.getLsbD k := by
    rw [Int64.toBitVec_and, BitVec.getLsbD_and, Int64.toBitVec_shiftRight, BitVec.sshiftRight', sh_amt k hk, BitVec.getLsbD_sshiftRight]
    have : (1 : Int64).toBitVec.getLsbD 0 = true := by decide
    rw [this, Bool.and_true]
    simp [show k < 64 by omega]
  have e2 : ∀ j, 0 < j → ((C >>> (Int32.toInt64 (nI k) &&& 63)) &&& 1).toBitVec.getLsbD j = false := fun j hj => by
    rw [Int64.toBitVec_and, BitVec.getLsbD_and]
    have : (1 : Int64).toBitVec.getLsbD j = false := by
      show (1#64).getLsbD j = false
      simp [BitVec.getLsbD_one]
      omega
    rw [this, Bool.and_false]
  rw [cmp0, ← e1]
  constructor
  · intro h; rw [h]; decide
  · intro h
    refine Int64.toBitVec_inj.mp (BitVec.eq_of_getLsbD_eq fun j hj => ?_)
    by_cases hj0 : j = 0
    · subst hj0; rw [h]; decide
    · rw [e2 j (by omega)]
      show false = (0#64).getLsbD j
      simp
/-- the class's sets tell whether a CELL is in a SHAPE -/
theorem X8_holds {b k ns j xx yy : Nat} {M : mM} (hS : wS b k M ns) (hj : j < ns) (hx : xx < 10) (hy : yy < 8) : ∃ N, N ≤ 90 ∧ M.1 k (138 + j) = nI N ∧ (tSh (lk (rg k (154 + 90 * j) M) N) N).2.1 = true ∧ f_X8_shapeHolds b (nI j) (nI xx) (nI yy) M = some (bI ((tSh (lk (rg k (154 + 90 * j) M) N) N).2.2 (10 * yy + xx))) := by
  obtain ⟨h8, -, -, h4⟩ := hS
  obtain ⟨N, n1, n2, n3, n4⟩ := h4 j hj
  refine ⟨N, n1, n2, n3, ?_⟩
  have hb := n4 (yy / 4) (by omega) ((yy - yy / 4 * 4) * 10 + xx) (by omega)
  unfold f_X8_shapeHolds
  rw [mulL, divL (by omega) (by decide), nadd, mgd_s ((nin (by omega)).mpr (by omega)), ncl (by omega), mlt_s, mulL, nsub (by omega), mulL, nadd, Nat.mul_comm j 2]
  have e : 40 * (yy / 4) + ((yy - yy / 4 * 4) * 10 + xx) = 10 * yy + xx := by omega
  dsimp only at hb
  rw [e] at hb
  cases hv : (tSh (lk (rg k (154 + 90 * j) M) N) N).2.2 (10 * yy + xx)
  · rw [if_pos ((bit_at (by omega)).mpr ?_)]
    · rfl
    · rw [hv] at hb
      exact Bool.eq_false_iff.mpr (fun q => Bool.false_ne_true (hb.mp q).2)
  · rw [if_neg (fun q => ?_)]
    · rfl
    · rw [(bit_at (by omega)).mp q, hv] at hb
      exact Bool.false_ne_true (hb.mpr ⟨by omega, rfl⟩)
theorem X10_isIn {ns j xx yy N : Nat} {M : mM} (hj : j < 8) (hN : N ≤ 90) (h1 : M.1 97 (138 + j) = nI N) (hok : (tSh (lk (rg 97 (154 + 90 * j) M) N) N).2.1 = true) (hx : xx < 10) (hy : yy < 8) : ∃ M', f_X10_isIn (nI j) (nI xx) (nI yy) M = some (bI ((tSh (lk (rg 97 (154 + 90 * j) M) N) N).2.2 (10 * yy + xx)), M') ∧ eqR M M' := by
  obtain ⟨M', m1, m2, m3, m4⟩ := X10_goes_shape (M := M) (i := nI j) (T := rg 97 (154 + 90 * j) M) ⟨hN, Or.inr ⟨j, by omega, rfl, h1, fun k hk => rfl⟩⟩ hx hy
  refine ⟨M', ?_, m2⟩
  unfold f_X10_isIn
  rw [m1, mbw_s, hok, if_neg (by decide), m4 hok]
  cases (tSh (lk (rg 97 (154 + 90 * j) M) N) N).2.2 (10 * yy + xx)
  · rw [if_pos (show bI false = 0 from rfl)]; rfl
  · rw [if_neg (by decide)]; rfl
theorem oneIf_bI {b : Bool} : f_X9_oneIf (bI b) = bI b := by cases b <;> rfl
theorem op_in {M : mM} {a1 a2 a3 : Int32} (hI : Inv M) : ∃ M', f_law_c11 a1 a2 a3 M = some M' ∧ Inv M' := by
  obtain ⟨⟨K, hA, hG⟩, -⟩ := id hI
  obtain ⟨hC, hT, hV, hH, hP, hS, hN, hL, hO, hW⟩ := id hA
  have hs8 := hS.1
  unfold f_law_c11 f_X9_in f_X10_in
  rw [hasShape_c hS.2.1, isShape_c hs8 hS.2.2.1, X9_onGrid, X10_isCell_c]
  by_cases h : 0 ≤ a1 ∧ a1 < nI K.2.2.2.1
  · obtain ⟨j, hj, rfl⟩ := i_lt (by omega) h
    rw [tf_y h, if_neg (show ¬ (1 : Int32) = 0 by decide)]
    by_cases h2 : (0 ≤ a2 ∧ a2 ≤ 9) ∧ 0 ≤ a3 ∧ a3 ≤ 7
    · obtain ⟨x, hx, rfl⟩ := i_le (n := 9) (by decide) h2.1
      obtain ⟨y, hy, rfl⟩ := i_le (n := 7) (by decide) h2.2
      obtain ⟨N, n1, n2, n3, n4⟩ := X8_holds (xx := x) (yy := y) hS hj (by omega) (by omega)
      obtain ⟨M', m1, m2⟩ := X10_isIn (ns := 0) (j := j) (xx := x) (yy := y) (by omega) n1 n2 n3 (by omega) (by omega)
      rw [tf_y h2, if_neg (show ¬ (1 : Int32) = 0 by decide), n4, mbp_s, mbp_s, mbp_s, if_neg (show ¬ (1 : Int32) = 0 by decide), if_neg (show ¬ (1 : Int32) = 0 by decide), m1, mbw_s, oneIf_bI]
      refine ⟨M', ?_, Inv_eqK (eqR_K m2) hI⟩
      cases (tSh (lk (rg 97 (154 + 90 * j) M) N) N).2.2 (10 * y + x)
      · rw [if_pos (show bI false = 0 from rfl), mbw_s, if_pos (show bI false = 0 from rfl)]
      · rw [if_neg (by decide), mbw_s, if_pos (show bI true = 1 from rfl)]
    · refine ⟨M, ?_, hI⟩
      rw [tf_n h2, if_pos (show (0 : Int32) = 0 from rfl), mbp_s, mbp_s, if_neg (show ¬ (1 : Int32) = 0 by decide), if_pos (show (0 : Int32) = 0 from rfl), mbw_s, if_pos rfl]
  · refine ⟨M, ?_, hI⟩
    rw [tf_n h, if_pos (show (0 : Int32) = 0 from rfl), mbp_s, mbp_s, if_pos (show (0 : Int32) = 0 from rfl), mbw_s, if_pos rfl]
