theorem bfs_end {A : Bd} {u a : Nat} {T : Nat → Nat} {E f : Nat} (hw : wf A) (hu : u < bN A) (hB : bfs A u a T E f f) : ((∃ i, i < f ∧ bP A (T i) < 24) ∧ f = bN A - 1) ↔ Wh (bP A) (fun d => d < bN A ∧ d ≠ u) := by
  obtain ⟨b1, b2, b3, b4, b5, b6, b7, b8⟩ := hB
  have two : f + 1 ≤ bN A := pig (bN A) (f + 1) (fun i => if i < f then T i else u) (fun i hi => by
    show (if i < f then T i else u) < bN A
    split
    · exact (b4 i (by assumption)).1
    · exact hu) (fun i j hi hj e => by
    have e : (if i < f then T i else u) = (if j < f then T j else u) := e
    by_cases q1 : i < f <;> by_cases q2 : j < f
    · rw [if_pos q1, if_pos q2] at e
      exact b5 i j q1 q2 e
    · rw [if_pos q1, if_neg q2] at e
      exact absurd e (b4 i q1).2.1
    · rw [if_neg q1, if_pos q2] at e
      exact absurd e.symm (b4 j q2).2.1
    · omega)
  have closed : ∀ x y, (∃ i, i < f ∧ T i = x) → (y < bN A ∧ y ≠ u) → adj (bP A) x y → ∃ i, i < f ∧ T i = y := fun x y hx hy hxy => by
    obtain ⟨i, i1, i2⟩ := hx
    rcases (b6 y).mp (b8 i i1 y hy.1 (by rw [i2]; exact hxy)) with h | h
    · exact absurd h hy.2
    · exact h
  constructor
  · rintro ⟨⟨i, i1, i2⟩, hf⟩
    obtain ⟨ia, a1, a2⟩ := b7
    refine ⟨a, ?_, fun c hc => ?_, T i, ⟨(b4 i i1).1, (b4 i i1).2.1⟩, i2⟩
    · rw [← a2]
      exact ⟨(b4 ia a1).1, (b4 ia a1).2.1⟩
    · refine Classical.byContradiction fun hno => ?_
      have hcT : ∀ i, i < f → T i ≠ c := fun i hi e => hno (e ▸ (b4 i hi).2.2)
      have := pig (bN A) (f + 2) (fun i => if i < f then T i else if i = f then c else u) (fun i hi => by
        show (if i < f then T i else if i = f then c else u) < bN A
        split
        · exact (b4 i (by assumption)).1
        · split
          · exact hc.1
          · exact hu) (fun i i' hi hi' e => by
        have e : (if i < f then T i else if i = f then c else u) = (if i' < f then T i' else if i' = f then c else u) := e
        by_cases q1 : i < f <;> by_cases q2 : i' < f
        · rw [if_pos q1, if_pos q2] at e
          exact b5 i i' q1 q2 e
        · rw [if_pos q1, if_neg q2] at e
          by_cases q3 : i' = f
          · rw [if_pos q3] at e
            exact absurd e (hcT i q1)
          · rw [if_neg q3] at e
            exact absurd e (b4 i q1).2.1
        · rw [if_neg q1, if_pos q2] at e
          by_cases q3 : i = f
          · rw [if_pos q3] at e
            exact absurd e.symm (hcT i' q2)
          · rw [if_neg q3] at e
            exact absurd e.symm (b4 i' q2).2.1
        · rw [if_neg q1, if_neg q2] at e
          by_cases q3 : i = f <;> by_cases q4 : i' = f
          · omega
          · rw [if_pos q3, if_neg q4] at e
            exact absurd e hc.2
          · rw [if_neg q3, if_pos q4] at e
            exact absurd e.symm hc.2
          · omega)
      omega
  · intro hW
    have haS : a < bN A ∧ a ≠ u := by
      obtain ⟨ia, a1, a2⟩ := b7
      rw [← a2]
      exact ⟨(b4 ia a1).1, (b4 ia a1).2.1⟩
    have hall := Wh_any (fun d hd => (hw.2.1 d hd.1).1) hW haS
    have hin : ∀ d, (d < bN A ∧ d ≠ u) → ∃ i, i < f ∧ T i = d := fun d hd => hall d hd (fun x => ∃ i, i < f ∧ T i = x) b7 closed
    obtain ⟨-, -, -, g, hg, hg2⟩ := hW
    obtain ⟨i, i1, i2⟩ := hin g hg
    refine ⟨⟨i, i1, by rw [i2]; exact hg2⟩, ?_⟩
    have hex : ∀ d, ∃ i, (d < bN A ∧ d ≠ u) → i < f ∧ T i = d := fun d => by
      by_cases q : d < bN A ∧ d ≠ u
      · obtain ⟨i, h⟩ := hin d q
        exact ⟨i, fun _ => h⟩
      · exact ⟨0, fun h => absurd h q⟩
    have := pig (f + 1) (bN A) (fun d => if d = u then 0 else (hex d).choose + 1) (fun d hd => by
      show (if d = u then 0 else (hex d).choose + 1) < f + 1
      split
      · omega
      · have := ((hex d).choose_spec ⟨hd, by assumption⟩).1
        omega) (fun d d' hd hd' e => by
      have e : (if d = u then 0 else (hex d).choose + 1) = (if d' = u then 0 else (hex d').choose + 1) := e
      by_cases q1 : d = u <;> by_cases q2 : d' = u
      · omega
      · rw [if_pos q1, if_neg q2] at e; omega
      · rw [if_neg q1, if_pos q2] at e; omega
      · rw [if_neg q1, if_neg q2] at e
        have h1 := ((hex d).choose_spec ⟨hd, q1⟩).2
        have h2 := ((hex d').choose_spec ⟨hd', q2⟩).2
        rw [← h1, ← h2, show (hex d).choose = (hex d').choose by omega])
    omega
theorem X0_bfs {b u a : Nat} {A : Bd} (hw : wf A) (hu : u < bN A) :
    ∀ r k fuel, k + r = 16 → r < fuel → ∀ (T : Nat → Nat) (E f : Nat) (i6 : Int32) (M : mM), repB b M A → bfs A u a T E f k → (∀ i, i < f → M.1 (b + 7) i = nI (T i)) → i6 = tf (∃ i, i < k ∧ bP A (T i) < 24) →
      ∃ M', f_X0_othersAreWhole_b48 fuel b (nI (bN A - 1)) (nI E) (nI f) i6 (nI k) M = some (tf (Wh (bP A) (fun d => d < bN A ∧ d ≠ u)), M') ∧ (∀ q, q ≠ b + 7 → M'.1 q = M.1 q) ∧ M'.2 = M.2 := by
  have hn := hw.1
  have fin : ∀ (T : Nat → Nat) (E f : Nat) (i6 : Int32) (M : mM), bfs A u a T E f f → i6 = tf (∃ i, i < f ∧ bP A (T i) < 24) → f_X0_othersAreWhole_b175 b (nI (bN A - 1)) (nI f) i6 M = some (tf (Wh (bP A) (fun d => d < bN A ∧ d ≠ u)), M) := fun T E f i6 M hB h6 => by
    have he := bfs_end hw hu hB
    have hf := hB.2.1
    unfold f_X0_othersAreWhole_b175
    simp (disch := omega) only [neq]
    by_cases g : ∃ i, i < f ∧ bP A (T i) < 24
    · rw [h6, tf_y g, if_neg (by decide)]
      by_cases e : f = bN A - 1
      · rw [if_pos e, tf_y (he.mp ⟨g, e⟩)]
      · rw [if_neg e, tf_n (fun q => e (he.mpr q).2)]
    · rw [h6, tf_n g, if_pos rfl, tf_n (fun q => g (he.mpr q).1)]
  intro r
  induction r with
  | zero =>
    intro k fuel hk hf T E f i6 M hr hB hrow h6
    obtain ⟨j, rfl⟩ : ∃ j, fuel = j + 1 := ⟨fuel - 1, by omega⟩
    have h1 := hB.2.1
    have h2 := hB.2.2.1
    have e : k = f := by omega
    subst e
    refine ⟨M, ?_, fun _ _ => rfl, rfl⟩
    rw [f_X0_othersAreWhole_b48, if_pos (show (16 : Int32) ≤ nI k by rw [show k = 16 by omega]; decide)]
    exact fin T E k i6 M hB h6
  | succ r ih =>
    intro k fuel hk hf T E f i6 M hr hB hrow h6
    obtain ⟨j, rfl⟩ : ∃ j, fuel = j + 1 := ⟨fuel - 1, by omega⟩
    have h1 := hB.2.1
    have h2 := hB.2.2.1
    rw [f_X0_othersAreWhole_b48]
    simp (disch := omega) only [Nat.not_lt_zero, Nat.zero_le, reduceIte, nadd, nmul, ladd, addL, lmul, mulL, lle, llt, leL, ltL, eqL, leq, ncl, nin, nle, nlt, neq, subL, nsub, divL, nand31, mgd, mlt]
    rw [if_neg (show ¬ 16 ≤ k by omega)]
    by_cases e : f ≤ k
    · have e : k = f := by omega
      subst e
      rw [if_pos (Nat.le_refl _)]
      exact ⟨M, fin T E k i6 M hB h6, fun _ _ => rfl, rfl⟩
    · have hT := hB.2.2.2.1 k (by omega)
      rw [if_neg e, hrow k (by omega)]
      simp (disch := omega) only [Nat.not_lt_zero, Nat.zero_le, reduceIte, nadd, nmul, ladd, addL, lmul, mulL, lle, llt, leL, ltL, eqL, leq, ncl, nin, nle, nlt, neq, subL, nsub, divL, nand31, mgd, mlt]
      rw [if_pos (show k < 16 by omega), if_pos (show T k < 16 by omega), hr.2.2.1 _ hT.1]
      have go : ∀ i7 : Int32, i7 = tf (∃ i, i < k + 1 ∧ bP A (T i) < 24) → ∃ M', f_X0_othersAreWhole_b99 (f_X0_othersAreWhole_b48 j) mN b (nI (bN A - 1)) (nI E) (nI f) i7 (nI k) (nI (bP A (T k))) 0 M = some (tf (Wh (bP A) (fun d => d < bN A ∧ d ≠ u)), M') ∧ (∀ q, q ≠ b + 7 → M'.1 q = M.1 q) ∧ M'.2 = M.2 := fun i7 h7 => by
        obtain ⟨T', E', f', M', g1, g2, g3, g4, g5, g6, g7, g8⟩ := X0_bfs_in (b := b) (i2 := nI (bN A - 1)) (i6 := i7) hw hu (f_X0_othersAreWhole_b48 j) (T0 := T) hT.1 hT.2.1 4 0 mN (by omega) (by decide) T E f M hr hB (by omega) rfl hrow (fun v hv => absurd hv (Nat.not_lt_zero v))
        change ∃ M', f_X0_othersAreWhole_b99 (f_X0_othersAreWhole_b48 j) mN b (nI (bN A - 1)) (nI E) (nI f) i7 (nI k) (nI (bP A (T k))) (nI 0) M = _ ∧ _
        obtain ⟨M2, m1, m2, m3⟩ := ih (k + 1) j (by omega) (by omega) T' E' f' i7 M' g2 g3 g4 (h7.trans (tf_c ⟨fun ⟨i, i1, i2⟩ => ⟨i, i1, by rw [g8 i (by omega)]; exact i2⟩, fun ⟨i, i1, i2⟩ => ⟨i, i1, by rw [g8 i (by omega)] at i2; exact i2⟩⟩))
        exact ⟨M2, g1.trans m1, fun q hq => (m2 q hq).trans (g5 q hq), m3.trans g6⟩
      by_cases h0 : ∃ i, i < k ∧ bP A (T i) < 24
      · rw [h6, tf_y h0, if_neg (by decide)]
        obtain ⟨i, i1, i2⟩ := h0
        exact go 1 (tf_y ⟨i, by omega, i2⟩).symm
      · rw [h6, tf_n h0, if_pos rfl]
        have hG := (hw.2.1 _ hT.1).1
        by_cases hl : bP A (T k) < 24
        · rw [if_pos ((lev0 hG).mpr hl)]
          exact go 1 (tf_y ⟨k, by omega, hl⟩).symm
        · rw [if_neg (fun q => hl ((lev0 hG).mp q))]
          exact go 0 (tf_n (fun ⟨i, i1, i2⟩ => by
            rcases Nat.lt_or_ge i k with q | q
            · exact h0 ⟨i, q, i2⟩
            · rw [show i = k by omega] at i2
              exact hl i2)).symm
theorem X0_othersAreWhole {b u : Nat} {M : mM} {A : Bd} (hw : wf A) (hr : repB b M A) (hu : u < bN A) : ∃ M', f_X0_othersAreWhole b (nI u) M = some (tf (bN A = 1 ∨ Wh (bP A) (fun d => d < bN A ∧ d ≠ u)), M') ∧ (∀ q, q ≠ b + 7 → M'.1 q = M.1 q) ∧ M'.2 = M.2 := by
  have hn := hw.1
  have go : ∀ a, a < bN A → a ≠ u → ∃ M', f_X0_othersAreWhole_b22 b (nI u) (nI (bN A - 1)) (nI a) M = some (tf (Wh (bP A) (fun d => d < bN A ∧ d ≠ u)), M') ∧ (∀ q, q ≠ b + 7 → M'.1 q = M.1 q) ∧ M'.2 = M.2 := fun a ha hau => by
    have hr' : repB b (mI M (b + 7) 0 (nI a)) A := repB_oth (b := b) (fun q hq => mI_ne hq) hr
    have hB : bfs A u a (fun _ => a) (2 ^ u ||| 2 ^ a) 1 0 := by
      refine ⟨bor_lt (show 2 ^ u < 2 ^ 16 from Nat.pow_lt_pow_right (by decide) (by omega)) (by omega), by decide, by decide, fun i hi => ⟨ha, hau, rch_rf⟩, fun i j hi hj _ => by omega, fun d => ?_, ⟨0, by decide, rfl⟩, fun i hi => absurd hi (Nat.not_lt_zero i)⟩
      rw [bor, Nat.testBit_two_pow, Bool.or_eq_true]
      constructor
      · rintro (h | h)
        · exact Or.inl (of_decide_eq_true h).symm
        · exact Or.inr ⟨0, by decide, by simpa using h⟩
      · rintro (h | ⟨i, -, h⟩)
        · exact Or.inl (by simp [h])
        · exact Or.inr (by simp [h])
    obtain ⟨M', m1, m2, m3⟩ := X0_bfs hw hu 16 0 mN (by omega) (by decide) (fun _ => a) (2 ^ u ||| 2 ^ a) 1 0 (mI M (b + 7) 0 (nI a)) hr' hB (fun i hi => by
      rw [mI_at, if_pos ⟨rfl, by omega⟩]) (tf_n (fun ⟨i, i1, _⟩ => absurd i1 (Nat.not_lt_zero i))).symm
    refine ⟨M', ?_, fun q hq => (m2 q hq).trans (mI_ne hq), m3⟩
    unfold f_X0_othersAreWhole_b22
    rw [nshl u (by omega), nshl a (by omega), nor]
    exact m1
  unfold f_X0_othersAreWhole
  rw [hr.1]
  simp (disch := omega) only [mlt, subL, llt]
  by_cases h1 : bN A = 1
  · rw [if_neg (by omega), tf_y (Or.inl h1)]
    exact ⟨M, rfl, fun _ _ => rfl, rfl⟩
  · rw [if_pos (by omega), tf_c (show (bN A = 1 ∨ Wh (bP A) (fun d => d < bN A ∧ d ≠ u)) ↔ Wh (bP A) (fun d => d < bN A ∧ d ≠ u) from ⟨fun h => h.resolve_left h1, Or.inr⟩)]
    simp (disch := omega) only [eqL]
    by_cases h0 : u = 0
    · rw [if_pos h0]
      exact go 1 (by omega) (by omega)
    · rw [if_neg h0]
      exact go 0 (by omega) (fun e => h0 e.symm)
