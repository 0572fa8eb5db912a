/-! the class asks whether the others are WHOLE -/
/-- the row of those reached: so many, apart, reachable, each noted in the bits; those ahead of k have all their neighbours noted -/
def bfs (A : Bd) (u a : Nat) (T : Nat → Nat) (E f k : Nat) : Prop := E < 65536 ∧ f ≤ 16 ∧ k ≤ f ∧ (∀ i, i < f → T i < bN A ∧ T i ≠ u ∧ rch (bP A) (fun d => d < bN A ∧ d ≠ u) a (T i)) ∧ (∀ i j, i < f → j < f → T i = T j → i = j) ∧ (∀ d, E.testBit d = true ↔ d = u ∨ ∃ i, i < f ∧ T i = d) ∧ (∃ i, i < f ∧ T i = a) ∧ ∀ i, i < k → ∀ d, d < bN A → adj (bP A) (T i) d → E.testBit d = true
theorem repB_oth {b : Nat} {M M' : mM} {A : Bd} (h : ∀ q, q ≠ b + 7 → M'.1 q = M.1 q) (hr : repB b M A) : repB b M' A := by
  unfold repB
  rw [h b (by omega), h (b + 1) (by omega), h (b + 2) (by omega), h (b + 3) (by omega), h (b + 4) (by omega), h (b + 6) (by omega)]
  exact hr
/-- the neighbours of one: those of the ways ahead of w are noted -/
theorem X0_bfs_in {b u a k : Nat} {A : Bd} {i2 i6 : Int32} (hw : wf A) (hu : u < bN A) (kc : Nat → Int32 → Int32 → Int32 → Int32 → Int32 → mM → Option (Int32 × mM)) {T0 : Nat → Nat} {c : Nat} (hc : c < bN A) (hcu : c ≠ u) :
    ∀ r w fuel, w + r = 4 → r < fuel → ∀ (T : Nat → Nat) (E f : Nat) (M : mM), repB b M A → bfs A u a T E f k → k < f → T k = c → (∀ i, i < f → M.1 (b + 7) i = nI (T i)) → (∀ v, v < w → ∀ d, d < bN A → stp (bP A c) v = bP A d → E.testBit d = true) →
      ∃ (T' : Nat → Nat) (E' f' : Nat) (M' : mM), f_X0_othersAreWhole_b99 kc fuel b i2 (nI E) (nI f) i6 (nI k) (nI (bP A c)) (nI w) M = kc b i2 (nI E') (nI f') i6 (nI (k + 1)) M' ∧ repB b M' A ∧ bfs A u a T' E' f' (k + 1) ∧ (∀ i, i < f' → M'.1 (b + 7) i = nI (T' i)) ∧ (∀ q, q ≠ b + 7 → M'.1 q = M.1 q) ∧ M'.2 = M.2 ∧ f ≤ f' ∧ ∀ i, i < f → T' i = T i := by
  have hn := hw.1
  have hp := (hw.2.1 c hc).1
  intro r
  induction r with
  | zero =>
    intro w fuel hwr hf T E f M hr hB hk hTc hrow hway
    obtain ⟨j, rfl⟩ : ∃ j, fuel = j + 1 := ⟨fuel - 1, by omega⟩
    obtain ⟨b1, b2, b3, b4, b5, b6, b7, b8⟩ := id hB
    refine ⟨T, E, f, M, ?_, hr, ⟨b1, b2, by omega, b4, b5, b6, b7, fun i hi d hd hadj => ?_⟩, hrow, fun _ _ => rfl, rfl, Nat.le_refl _, fun _ _ => rfl⟩
    · rw [f_X0_othersAreWhole_b99]
      simp (disch := omega) only [Nat.not_lt_zero, Nat.zero_le, reduceIte, nadd, nmul, ladd, addL, lmul, mulL, lle, llt, leL, ltL, eqL, leq, ncl, nin, nle, nlt, neq, subL, nsub, divL, nand31, mlt]
      rw [if_pos (by omega)]
    · rcases Nat.lt_or_ge i k with q | q
      · exact b8 i q d hd hadj
      · rw [show i = k by omega, hTc] at hadj
        obtain ⟨v, v1, v2⟩ := hadj
        exact hway v (by omega) d hd v2
  | succ r ih =>
    intro w fuel hwr hf T E f M hr hB hk hTc hrow hway
    obtain ⟨j, rfl⟩ : ∃ j, fuel = j + 1 := ⟨fuel - 1, by omega⟩
    obtain ⟨b1, b2, b3, b4, b5, b6, b7, b8⟩ := id hB
    have hlt := stp_lt hp (w := w) (by omega)
    have next := ih (w + 1) j (by omega) (by omega)
    rw [f_X0_othersAreWhole_b99]
    simp (disch := omega) only [Nat.not_lt_zero, Nat.zero_le, reduceIte, nadd, nmul, ladd, addL, lmul, mulL, lle, llt, leL, ltL, eqL, leq, ncl, nin, nle, nlt, neq, subL, nsub, divL, nand31, mgd, mlt]
    rw [if_neg (show ¬ 4 ≤ w by omega), if_pos (show w < 8 by omega), stp_goes hp (by omega), X0_inCell hr hlt, mbp_s]
    have skip : (∀ d, d < bN A → stp (bP A c) w = bP A d → E.testBit d = true) → ∃ (T' : Nat → Nat) (E' f' : Nat) (M' : mM), f_X0_othersAreWhole_b99 kc j b i2 (nI E) (nI f) i6 (nI k) (nI (bP A c)) (nI (w + 1)) M = kc b i2 (nI E') (nI f') i6 (nI (k + 1)) M' ∧ repB b M' A ∧ bfs A u a T' E' f' (k + 1) ∧ (∀ i, i < f' → M'.1 (b + 7) i = nI (T' i)) ∧ (∀ q, q ≠ b + 7 → M'.1 q = M.1 q) ∧ M'.2 = M.2 ∧ f ≤ f' ∧ ∀ i, i < f → T' i = T i := fun hs => next T E f M hr hB hk hTc hrow (fun v hv d hd e => by
      rcases Nat.lt_or_ge v w with q | q
      · exact hway v q d hd e
      · exact hs d hd (by rw [← show v = w by omega]; exact e))
    have none_ : bG A (stp (bP A c) w) < 0 → (∀ d, d < bN A → stp (bP A c) w = bP A d → E.testBit d = true) := fun hneg d hd e => by
      rw [e, (hw.2.1 d hd).2] at hneg
      exact absurd hneg (nlt0 (by omega))
    rcases wf_g hw hlt with ⟨e, -⟩ | ⟨d, d1, d2, d3, -⟩ | ⟨e, hne⟩
    · have hneg : bG A (stp (bP A c) w) < 0 := by rw [e]; decide
      rw [if_pos hneg]
      exact skip (none_ hneg)
    · rw [d2, if_neg (nlt0 (by omega))]
      rw [nbit b1 (show d < 16 by omega), nshl d (by omega), nor]
      by_cases hd : E.testBit d = true
      · rw [hd, if_pos rfl, if_neg (by decide)]
        refine skip (fun e he h => ?_)
        rw [← d3] at h
        rw [← wf_inj hw d1 he h]
        exact hd
      · have hd0 : E.testBit d = false := by simpa using hd
        have hdu : d ≠ u := fun e => hd ((b6 d).mpr (Or.inl e))
        have hdT : ∀ i, i < f → T i ≠ d := fun i hi e => hd ((b6 d).mpr (Or.inr ⟨i, hi, e⟩))
        have hf16 : f < 16 := by
          have := pig (bN A) (f + 2) (fun i => if i < f then T i else if i = f then d else u) (fun i hi => by
            show (if i < f then T i else if i = f then d else u) < bN A
            split
            · exact (b4 i (by assumption)).1
            · split <;> assumption) (fun i i' hi hi' e => by
            have e : (if i < f then T i else if i = f then d else u) = (if i' < f then T i' else if i' = f then d else u) := e
            by_cases q1 : i < f <;> by_cases q2 : i' < f
            · rw [if_pos q1, if_pos q2] at e
              exact b5 i i' q1 q2 e
            · rw [if_pos q1, if_neg q2] at e
              by_cases q3 : i' = f
              · rw [if_pos q3] at e
                exact absurd e (hdT i q1)
              · rw [if_neg q3] at e
                exact absurd e (b4 i q1).2.1
            · rw [if_neg q1, if_pos q2] at e
              by_cases q3 : i = f
              · rw [if_pos q3] at e
                exact absurd e.symm (hdT i' q2)
              · rw [if_neg q3] at e
                exact absurd e.symm (b4 i' q2).2.1
            · rw [if_neg q1, if_neg q2] at e
              by_cases q3 : i = f <;> by_cases q4 : i' = f
              · omega
              · rw [if_pos q3, if_neg q4] at e
                exact absurd e hdu
              · rw [if_neg q3, if_pos q4] at e
                exact absurd e.symm hdu
              · omega)
          omega
        have hup : ∀ i, i < f → up T f d i = T i := fun i hi => if_neg (by omega)
        have hupf : up T f d f = d := if_pos rfl
        have hadj : adj (bP A) (T k) d := ⟨w, by omega, by rw [hTc]; exact d3.symm⟩
        have hB' : bfs A u a (up T f d) (E ||| 2 ^ d) (f + 1) k := by
          refine ⟨bor_lt b1 (by omega), by omega, by omega, fun i hi => ?_, fun i i' hi hi' e => ?_, fun e => ?_, ?_, fun i hi e he hie => ?_⟩
          · by_cases q : i = f
            · rw [q, hupf]
              exact ⟨d1, hdu, rch_st (b4 k hk).2.2 ⟨d1, hdu⟩ hadj⟩
            · rw [hup i (by omega)]
              exact b4 i (by omega)
          · by_cases q : i = f <;> by_cases q' : i' = f
            · omega
            · rw [q, hupf, hup i' (by omega)] at e
              exact absurd e.symm (hdT i' (by omega))
            · rw [q', hupf, hup i (by omega)] at e
              exact absurd e (hdT i (by omega))
            · rw [hup i (by omega), hup i' (by omega)] at e
              exact b5 i i' (by omega) (by omega) e
          · rw [bor, Bool.or_eq_true, b6]
            constructor
            · rintro ((h | ⟨i, h1, h2⟩) | h)
              · exact Or.inl h
              · exact Or.inr ⟨i, by omega, by rw [hup i h1]; exact h2⟩
              · exact Or.inr ⟨f, by omega, by rw [hupf]; simpa using h⟩
            · rintro (h | ⟨i, h1, h2⟩)
              · exact Or.inl (Or.inl h)
              · by_cases q : i = f
                · rw [q, hupf] at h2
                  exact Or.inr (by simpa using h2)
                · rw [hup i (by omega)] at h2
                  exact Or.inl (Or.inr ⟨i, by omega, h2⟩)
          · obtain ⟨i, h1, h2⟩ := b7
            exact ⟨i, by omega, by rw [hup i h1]; exact h2⟩
          · rw [hup i (by omega)] at hie
            rw [bor, b8 i hi e he hie]
            rfl
        have hr' : repB b (mI M (b + 7) f (nI d)) A := repB_oth (b := b) (fun q hq => mI_ne hq) hr
        obtain ⟨T', E', f', M', g1, g2, g3, g4, g5, g6, g7, g8⟩ := next (up T f d) (E ||| 2 ^ d) (f + 1) (mI M (b + 7) f (nI d)) hr' hB' (by omega) (by rw [hup k hk]; exact hTc) (fun i hi => by
          rw [mI_at]
          by_cases q : i = f
          · rw [if_pos ⟨rfl, q⟩, q, hupf]
          · rw [if_neg (fun z => q z.2), hup i (by omega)]
            exact hrow i (by omega)) (fun v hv e he h => by
          rcases Nat.lt_or_ge v w with q | q
          · rw [bor, hway v q e he h]; rfl
          · rw [show v = w by omega, ← d3] at h
            rw [bor, wf_inj hw d1 he h]
            simp)
        rw [hd0, if_pos (show (if false = true then (1 : Int32) else 0) = 0 by decide), if_neg (show ¬ 16 ≤ f by omega), if_pos hf16]
        exact ⟨T', E', f', M', g1, g2, g3, g4, fun q hq => by rw [g5 q hq, mI_ne hq], by rw [g6, mI_2], by omega, fun i hi => by rw [g8 i (by omega), hup i hi]⟩
    · have hneg : bG A (stp (bP A c) w) < 0 := by rw [e]; exact gI_neg _ hlt
      rw [if_pos hneg]
      exact skip (none_ hneg)
