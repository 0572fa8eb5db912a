/-! what notes tell -/
def tel (w u z : Nat → Int32) (a tick : Int32) : Nat → Int32 × Int32
  | 0 => (-1, 0)
  | i + 1 => if w i = a ∧ u i ≤ tick ∧ (tel w u z a tick i).1 ≤ u i then (u i, z i) else tel w u z a tick i
theorem tel_01 {w u z : Nat → Int32} {a tick : Int32} {n : Nat} (h : ∀ i, i < n → is01 (z i)) : ∀ i, i ≤ n → is01 (tel w u z a tick i).2 := by
  intro i
  induction i with
  | zero => intro _; exact Or.inl rfl
  | succ i ih =>
    intro hi
    rw [tel]
    by_cases e : w i = a ∧ u i ≤ tick ∧ (tel w u z a tick i).1 ≤ u i
    · rw [if_pos e]; exact h i (by omega)
    · rw [if_neg e]; exact ih (by omega)
theorem X2_tell_lp {q f n j : Nat} {a tick : Int32} {M : mM} (h0 : M.1 q 0 = nI n) (hn : n ≤ 40) (hf : f ≤ n) (hz : ∀ i, i < n → is01 (M.1 (q + 3) i)) (d : Nat) : ∀ i, i + d = f → f_X2_tellDead_b9 (j + d + 1) q a tick (nI f) (tel (M.1 (q + 1)) (M.1 (q + 2)) (M.1 (q + 3)) a tick i).1 (tel (M.1 (q + 1)) (M.1 (q + 2)) (M.1 (q + 3)) a tick i).2 (nI i) M = some (tel (M.1 (q + 1)) (M.1 (q + 2)) (M.1 (q + 3)) a tick f).2 := by
  induction d with
  | zero =>
    intro i hi
    have e : i = f := by omega
    subst e
    rw [f_X2_tellDead_b9, if_pos ((nle (by omega) (by omega)).mpr (Nat.le_refl _)), mgd_s (tel_01 hz i hf)]
  | succ d ih =>
    intro i hi
    rw [f_X2_tellDead_b9, if_neg (fun e => by have := (nle (by omega) (by omega)).mp e; omega), h0, if_neg (fun e => by have := (nle (by omega) (by omega)).mp e; omega)]
    simp only [ncl (show i < 2147483648 by omega), mlt_s]
    rw [mgd_s ((nin (by omega)).mpr (by omega))]
    have ih' := ih (i + 1) (by omega)
    rw [tel] at ih'
    by_cases e1 : M.1 (q + 1) i = a
    · rw [if_pos e1, mgd_s ((nin (by omega)).mpr (by omega))]
      by_cases e2 : tick < M.1 (q + 2) i
      · rw [if_neg (fun e => by have := e.2.1; grind)] at ih'
        rw [if_pos e2, nI_1]
        exact ih'
      · rw [if_neg e2, mgd_s ((nin (by omega)).mpr (by omega))]
        by_cases e3 : M.1 (q + 2) i < (tel (M.1 (q + 1)) (M.1 (q + 2)) (M.1 (q + 3)) a tick i).1
        · rw [if_neg (fun e => by have := e.2.2; grind)] at ih'
          rw [if_pos e3, nI_1]
          exact ih'
        · rw [if_pos ⟨e1, by grind, by grind⟩] at ih'
          rw [if_neg e3, mgd_s ((nin (by omega)).mpr (by omega)), mgd_s ((nin (by omega)).mpr (by omega)), nI_1]
          exact ih'
    · rw [if_neg (fun e => e1 e.1)] at ih'
      rw [if_neg e1, nI_1]
      exact ih'
abbrev telM (q : Nat) (M : mM) (a tick : Int32) (f : Nat) : Int32 := (tel (M.1 (q + 1)) (M.1 (q + 2)) (M.1 (q + 3)) a tick f).2
theorem X2_tell {q f n : Nat} {a tick : Int32} {M : mM} (h0 : M.1 q 0 = nI n) (hn : n ≤ 40) (hf : f ≤ n) (hz : ∀ i, i < n → is01 (M.1 (q + 3) i)) : f_X2_tellDead q a tick (nI f) M = some (telM q M a tick f) := by
  obtain ⟨j, hj⟩ := mN_ge (k := f + 1) (by omega)
  have hj : mN = j + f + 1 := by omega
  unfold f_X2_tellDead
  rw [hj]
  exact X2_tell_lp h0 hn hf hz f 0 (Nat.zero_add _)
/-- the reference's best so far -/
def bst (w u z : Nat → Int32) (a tick : Int32) (i : Nat) (b : Int32) : Prop := (b = -1 ∧ tel w u z a tick i = (-1, 0)) ∨ ∃ m, m < i ∧ b = nI m ∧ tel w u z a tick i = (u m, z m)
theorem X10_tell_lp {q r s f n t j : Nat} {a tick : Int32} {M : mM} (hN : wN q r s 97 M n t) (ht : t ≤ 2000) (hr : r = 1594) (hf : f ≤ n) (d : Nat) : ∀ i b, i + d = f → bst (M.1 (q + 1)) (M.1 (q + 2)) (M.1 (q + 3)) a tick i b → f_X10_believedOf_b6 (j + d + 1) a tick (nI f) b (nI i) M = some (telM q M a tick f) := by
  obtain ⟨h1, h2, h3, h4, h5⟩ := hN
  subst hr
  induction d with
  | zero =>
    intro i b hi hb
    have e : i = f := by omega
    subst e
    rw [f_X10_believedOf_b6, if_pos ((nle (by omega) (by omega)).mpr (Nat.le_refl _))]
    rcases hb with ⟨rfl, e⟩ | ⟨m, hm, rfl, e⟩
    · rw [if_neg (by decide), telM, e]
    · rw [if_pos (nle0 (by omega)), ladd, mgd_s ((nin (by omega)).mpr (by omega)), ncl (by omega), telM, e]
      exact congrArg some (h4 m (by omega)).2.2.1.symm
  | succ d ih =>
    intro i b hi hb
    obtain ⟨g1, g2, g3, v, hv, g4⟩ := h4 i (by omega)
    rw [f_X10_believedOf_b6, if_neg (fun e => by have := (nle (by omega) (by omega)).mp e; omega)]
    simp only [ladd, ncl (show 1594 + i < 2147483648 by omega), ncl (show 1634 + i < 2147483648 by omega), mlt_s, nI_1]
    rw [mgd_s ((nin (by omega)).mpr (by omega)), ← g1, show M.1 97 (1634 + i) = M.1 (q + 2) i from g2.symm]
    have tl := tel.eq_2 (M.1 (q + 1)) (M.1 (q + 2)) (M.1 (q + 3)) a tick i
    have keep : ¬ (M.1 (q + 1) i = a ∧ M.1 (q + 2) i ≤ tick ∧ (tel (M.1 (q + 1)) (M.1 (q + 2)) (M.1 (q + 3)) a tick i).1 ≤ M.1 (q + 2) i) → bst (M.1 (q + 1)) (M.1 (q + 2)) (M.1 (q + 3)) a tick (i + 1) b := fun e => by
      rw [if_neg e] at tl
      rcases hb with ⟨e1, e2⟩ | ⟨m, hm, e1, e2⟩
      · exact Or.inl ⟨e1, tl.trans e2⟩
      · exact Or.inr ⟨m, by omega, e1, tl.trans e2⟩
    have take : (M.1 (q + 1) i = a ∧ M.1 (q + 2) i ≤ tick ∧ (tel (M.1 (q + 1)) (M.1 (q + 2)) (M.1 (q + 3)) a tick i).1 ≤ M.1 (q + 2) i) → bst (M.1 (q + 1)) (M.1 (q + 2)) (M.1 (q + 3)) a tick (i + 1) (nI i) := fun e => by
      rw [if_pos e] at tl
      exact Or.inr ⟨i, by omega, rfl, tl⟩
    by_cases e1 : M.1 (q + 1) i = a
    · rw [if_pos e1, mgd_s ((nin (by omega)).mpr (by omega))]
      by_cases e2 : tick < M.1 (q + 2) i
      · rw [if_pos e2]
        exact ih (i + 1) b (by omega) (keep (fun e => by have := e.2.1; grind))
      · rw [if_neg e2]
        rcases hb with ⟨rfl, e⟩ | ⟨m, hm, rfl, e⟩
        · rw [if_pos (by decide)]
          refine ih (i + 1) _ (by omega) (take ⟨e1, by grind, ?_⟩)
          rw [e, g4]
          have := nle0 (a := v) (by omega)
          show (-1 : Int32) ≤ nI v
          grind
        · rw [if_neg (nlt0 (by omega)), mgd_s ((nin (by omega)).mpr (by omega)), ladd, mgd_s ((nin (by omega)).mpr (by omega)), ncl (by omega), show M.1 97 (1634 + m) = M.1 (q + 2) m from (h4 m (by omega)).2.1.symm]
          by_cases e3 : M.1 (q + 2) i < M.1 (q + 2) m
          · rw [if_pos e3]
            refine ih (i + 1) _ (by omega) (keep (fun k => ?_))
            have k := k.2.2
            rw [e] at k
            have k : M.1 (q + 2) m ≤ M.1 (q + 2) i := k
            grind
          · rw [if_neg e3]
            refine ih (i + 1) _ (by omega) (take ⟨e1, by grind, ?_⟩)
            rw [e]
            show M.1 (q + 2) m ≤ M.1 (q + 2) i
            grind
    · rw [if_neg e1]
      exact ih (i + 1) b (by omega) (keep (fun e => e1 e.1))
theorem X10_tell {q r s f n t : Nat} {a tick : Int32} {M : mM} (hN : wN q r s 97 M n t) (ht : t ≤ 2000) (hr : r = 1594) (hf : f ≤ n) : f_X10_believedOf a tick (nI f) M = some (telM q M a tick f) := by
  have h1 := hN.1
  obtain ⟨j, hj⟩ := mN_ge (k := f + 1) (by omega)
  have hj : mN = j + f + 1 := by omega
  unfold f_X10_believedOf
  rw [hj]
  exact X10_tell_lp hN ht hr hf f 0 (-1) (Nat.zero_add _) (Or.inl ⟨rfl, rfl⟩)
/-- how many of the REPORTS -/
theorem e_ex {M : mM} {a3 : Int32} {n : Nat} (hn : n ≤ 40) (h : -1 ≤ a3 ∧ a3 ≤ nI n) (h0 : M.1 29 0 = nI n) (h3 : M.1 97 3 = nI n) : ∃ f, f ≤ n ∧ f_X2_firstOf 29 a3 M = nI f ∧ f_X10_first a3 M = nI f := by
  unfold f_X2_firstOf f_X10_first
  rw [h0, h3]
  by_cases e : 0 ≤ a3
  · obtain ⟨f, hf, rfl⟩ := i_le (by omega) ⟨e, h.2⟩
    exact ⟨f, hf, by rw [if_neg (nlt0 (by omega)), if_pos h.2], by rw [if_pos e]⟩
  · exact ⟨n, Nat.le_refl _, by rw [if_pos (by grind)], by rw [if_neg e]⟩
theorem op_believed {M : mM} {a1 a2 a3 : Int32} (hI : Inv M) : ∃ M', f_law_c21 a1 a2 a3 M = some M' ∧ Inv M' := by
  obtain ⟨⟨K, hA, hG⟩, -⟩ := id hI
  obtain ⟨hC, hT, hV, hH, hP, hS, hN, hL, hO, hW⟩ := id hA
  obtain ⟨hw, hB, hR, h01⟩ := id hC
  have hB : repB 2 M K.1 := hB
  have hn := hw.1
  have ht := hT.1
  have hr := hN.1
  have t := nI_ti (k := K.2.1) (by omega)
  have t2 := nI_ti (k := K.2.2.2.2.1) (by omega)
  refine ⟨M, ?_, hI⟩
  unfold f_law_c21 f_X9_believed f_X10_believed f_X8_isTick f_X8_mayBelieve
  rw [X0_has_c hB, X10_isCube_c hn hR, show M.1 1 1 = nI K.2.1 from hT.2.1, show M.1 (1 + 28) 0 = nI K.2.2.2.2.1 from hN.2.1, hT.2.2, hN.2.2.1, X10_is_c, X10_is_c]
  by_cases h : isC K.1 a1
  · rw [tf_y h, if_neg (show ¬ (1 : Int32) = 0 by decide), mbp_s (v := (1 : Int32)), if_neg (show ¬ (1 : Int32) = 0 by decide)]
    by_cases h2 : 0 ≤ a2 ∧ a2 ≤ nI K.2.1
    · rw [if_neg (show ¬ a2 < 0 by grind), if_neg (show ¬ nI K.2.1 < a2 by grind), if_neg (show ¬ (1 : Int32) = 0 by decide), tf_y h2, if_neg (show ¬ (1 : Int32) = 0 by decide)]
      by_cases h3 : -1 ≤ a3 ∧ a3 ≤ nI K.2.2.2.2.1
      · rw [if_neg (show ¬ a3 < -1 by grind), if_neg (show ¬ nI K.2.2.2.2.1 < a3 by grind), if_neg (show ¬ (1 : Int32) = 0 by decide), tf_y h3, if_neg (show ¬ (1 : Int32) = 0 by decide)]
        obtain ⟨f, f1, f2, f3⟩ := e_ex hr h3 hN.2.1 hN.2.2.1
        rw [f2, f3, X2_tell hN.2.1 hr f1 (fun i hi => hN.2.2.2.2 i (by omega)), X10_tell hN ht rfl f1, mbp_s, mbp_s, mbp_s, mbp_s, oneIf_01 (tel_01 (n := K.2.2.2.2.1) (fun i hi => hN.2.2.2.2 i (by omega)) f f1), if_pos rfl]
      · rw [tf_n h3, if_pos (show (0 : Int32) = 0 from rfl)]
        by_cases h4 : a3 < -1
        · rw [if_pos h4, if_pos (show (0 : Int32) = 0 from rfl), mbp_s, mbp_s, if_pos rfl]
        · rw [if_neg h4, if_pos (show nI K.2.2.2.2.1 < a3 by grind), if_pos (show (0 : Int32) = 0 from rfl), mbp_s, mbp_s, if_pos rfl]
    · rw [tf_n h2, if_pos (show (0 : Int32) = 0 from rfl)]
      by_cases h4 : a2 < 0
      · rw [if_pos h4, if_pos (show (0 : Int32) = 0 from rfl), mbp_s, mbp_s, if_pos rfl]
      · rw [if_neg h4, if_pos (show nI K.2.1 < a2 by grind), if_pos (show (0 : Int32) = 0 from rfl), mbp_s, mbp_s, if_pos rfl]
  · rw [tf_n h, if_pos rfl, mbp_s, mbp_s, if_pos rfl, mbp_s, if_pos rfl]
