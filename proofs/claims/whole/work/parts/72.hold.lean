/-! what holds a CUBE -/
theorem mN_ge {k : Nat} (h : k ≤ 1000000) : ∃ j, mN = j + k := ⟨mN - k, by have : mN = 1099511627776 := rfl; omega⟩
theorem mbp_s {α β : Type} {v : α} {k : α → Option β} : mbp (some v) k = k v := rfl
theorem mbw_s {α β : Type} {v : α} {M : mM} {k : α → mM → Option β} : mbw (some (v, M)) k = k v M := rfl
theorem mgd_s {α : Type} {c : Prop} [Decidable c] {k : Option α} (h : c) : mgd c k = k := if_pos h
theorem mlt_s {α β : Type} {e : α} {k : α → β} : mlt e k = k e := rfl
noncomputable def tf (P : Prop) : Int32 := @ite Int32 P (Classical.propDecidable P) 1 0
theorem tf_y {P : Prop} (h : P) : tf P = 1 := by unfold tf; rw [if_pos h]
theorem tf_n {P : Prop} (h : ¬ P) : tf P = 0 := by unfold tf; rw [if_neg h]
theorem tf_c {P Q : Prop} (h : P ↔ Q) : tf P = tf Q := by rw [propext h]
abbrev nb1 (A : Bd) (p : Nat) (u : Int32) (w : Nat) : Prop := 0 ≤ bG A (stp p w) ∧ bG A (stp p w) ≠ u
abbrev nbr (A : Bd) (p : Nat) (u : Int32) : Prop := nb1 A p u 0 ∨ nb1 A p u 1 ∨ nb1 A p u 2 ∨ nb1 A p u 3
theorem X0_holdsOn_st {k w b p : Nat} {u : Int32} {M : mM} {A : Bd} (hr : repB b M A) (hp : inG p) (hw : w < 4) : f_X0_holdsOn_b42 (k + 1) b (nI p) u (nI w) M = if nb1 A p u w then some 1 else f_X0_holdsOn_b42 k b (nI p) u (nI (w + 1)) M := by
  rw [f_X0_holdsOn_b42]
  simp (disch := omega) only [Nat.not_lt_zero, Nat.zero_le, reduceIte, nadd, nmul, ladd, addL, lmul, mulL, lle, llt, leL, ltL, eqL, leq, ncl, nin, nle, nlt, neq, subL, nsub, divL, nand31, mgd, mlt]
  rw [if_neg (by omega), if_pos (by omega), stp_goes hp (by omega), X0_inCell hr (stp_lt hp (by omega)), mbp_s]
  by_cases h1 : bG A (stp p w) < 0
  · rw [if_pos h1, if_neg (fun q => by have := q.1; grind)]
  · rw [if_neg h1]
    by_cases h2 : bG A (stp p w) = u
    · rw [if_pos h2, if_neg (fun q => q.2 h2)]
    · rw [if_neg h2, if_pos ⟨by grind, h2⟩]
theorem X0_holdsOn_lp {b p : Nat} {u : Int32} {M : mM} {A : Bd} (hr : repB b M A) (hp : inG p) : f_X0_holdsOn_b42 mN b (nI p) u 0 M = some (tf (nbr A p u)) := by
  obtain ⟨k, hk⟩ := mN_ge (k := 5) (by decide)
  rw [hk]
  change f_X0_holdsOn_b42 (k + 5) b (nI p) u (nI 0) M = _
  rw [X0_holdsOn_st hr hp (by decide), X0_holdsOn_st hr hp (by decide), X0_holdsOn_st hr hp (by decide), X0_holdsOn_st hr hp (by decide), f_X0_holdsOn_b42, if_pos (show (4 : Int32) ≤ nI 4 by decide)]
  by_cases h0 : nb1 A p u 0
  · rw [if_pos h0, tf_y (Or.inl h0)]
  · rw [if_neg h0]
    by_cases h1 : nb1 A p u 1
    · rw [if_pos h1, tf_y (Or.inr (Or.inl h1))]
    · rw [if_neg h1]
      by_cases h2 : nb1 A p u 2
      · rw [if_pos h2, tf_y (Or.inr (Or.inr (Or.inl h2)))]
      · rw [if_neg h2]
        by_cases h3 : nb1 A p u 3
        · rw [if_pos h3, tf_y (Or.inr (Or.inr (Or.inr h3)))]
        · rw [if_neg h3, tf_n (fun q => by rcases q with q | q | q | q <;> contradiction)]
theorem lev0 {p : Nat} (hp : inG p) : (f_X9_levelOf (nI p) = 0) ↔ p < 24 := by
  have h : ∀ p, p < 120 → inG p → ((f_X9_levelOf (nI p) = 0) ↔ p < 24) := by decide +kernel
  exact h p (by have := hp.2.1; omega) hp
theorem X0_has {b : Nat} {i : Int32} {M : mM} {A : Bd} (hr : repB b M A) : f_X0_has b i M = if 0 ≤ i ∧ i < nI (bN A) then 1 else 0 := by
  unfold f_X0_has
  rw [hr.1]
  grind
/-- with no other CUBE: on the ground; else beside another -/
def hold (A : Bd) (p m : Nat) (u : Int32) : Prop := (m = 0 ∧ p < 24) ∨ (m ≠ 0 ∧ nbr A p u)
theorem hold0 {A : Bd} {p m : Nat} {u : Int32} (h : m = 0) : hold A p m u ↔ p < 24 := by unfold hold; simp [h]
theorem hold1 {A : Bd} {p m : Nat} {u : Int32} (h : m ≠ 0) : hold A p m u ↔ nbr A p u := by unfold hold; simp [h]
theorem X0_holdsOn_all {b p : Nat} {M : mM} {A : Bd} (hr : repB b M A) (hn : bN A ≤ 16) (hp : inG p) : f_X0_holdsOn b (nI p) (-1) M = some (tf (hold A p (bN A) (-1))) := by
  unfold f_X0_holdsOn
  rw [X0_has hr, if_neg (show ¬ (0 ≤ (-1 : Int32) ∧ (-1 : Int32) < nI (bN A)) from fun q => absurd q.1 (by decide)), if_pos rfl, f_X0_holdsOn_b21, hr.1, X0_holdsOn_lp hr hp]
  simp (disch := omega) only [Nat.not_lt_zero, Nat.zero_le, reduceIte, nadd, nmul, ladd, addL, lmul, mulL, lle, llt, leL, ltL, eqL, leq, ncl, nin, nle, nlt, neq, subL, nsub, divL, nand31, lev0 hp]
  by_cases h0 : bN A = 0
  · rw [if_pos h0, tf_c (hold0 h0)]
    by_cases h1 : p < 24
    · rw [if_pos h1, tf_y h1]
    · rw [if_neg h1, tf_n h1]
  · rw [if_neg h0, tf_c (hold1 h0)]
theorem X0_holdsOn_but {b p c : Nat} {M : mM} {A : Bd} (hr : repB b M A) (hn : bN A ≤ 16) (hc : c < bN A) (hp : inG p) : f_X0_holdsOn b (nI p) (nI c) M = some (tf (hold A p (bN A - 1) (nI c))) := by
  unfold f_X0_holdsOn
  rw [X0_has hr, if_pos (show 0 ≤ nI c ∧ nI c < nI (bN A) from ⟨nle0 (by omega), (nlt (by omega) (by omega)).mpr hc⟩), if_neg (by decide), f_X0_holdsOn_b21, hr.1, X0_holdsOn_lp hr hp]
  simp (disch := omega) only [Nat.not_lt_zero, Nat.zero_le, reduceIte, nadd, nmul, ladd, addL, lmul, mulL, lle, llt, leL, ltL, eqL, leq, ncl, nin, nle, nlt, neq, subL, nsub, divL, nand31, lev0 hp]
  by_cases h0 : bN A - 1 = 0
  · rw [if_pos h0, tf_c (hold0 h0)]
    by_cases h1 : p < 24
    · rw [if_pos h1, tf_y h1]
    · rw [if_neg h1, tf_n h1]
  · rw [if_neg h0, tf_c (hold1 h0)]
abbrev sup (A : Bd) (p : Nat) : Prop := 0 ≤ bG A p ∨ bG A p = -3
theorem X0_supports {b p : Nat} {M : mM} {A : Bd} (hr : repB b M A) (hp : p < 120) : f_X0_supports b (nI p) M = some (tf (sup A p)) := by
  unfold f_X0_supports
  rw [X0_inCell hr hp, mbp_s]
  by_cases h0 : 0 ≤ bG A p
  · rw [if_pos h0, tf_y (Or.inl h0)]
  · rw [if_neg h0]
    by_cases h1 : bG A p = -3
    · rw [if_pos h1, tf_y (Or.inr h1)]
    · rw [if_neg h1, tf_n (fun q => by rcases q with q | q <;> contradiction)]
/-- one side of a way: both places there hold -/
abbrev side (A : Bd) (p q : Nat) : Prop := sup A p ∧ sup A q
theorem X0_slides_tl {b p q d : Nat} {M : mM} {A : Bd} (hr : repB b M A) (hp : p + d < 120) (hq : q + d < 120) : f_X0_slides_b54 b (nI p) (nI q) (nI d) M = some (tf (side A (p + d) (q + d))) := by
  unfold f_X0_slides_b54
  simp (disch := omega) only [Nat.not_lt_zero, Nat.zero_le, reduceIte, nadd, nmul, ladd, addL, lmul, mulL, lle, llt, leL, ltL, eqL, leq, ncl, nin, nle, nlt, neq, subL, nsub, divL, nand31]
  rw [X0_supports hr hp, mbp_s, X0_supports hr hq, mbp_s]
  by_cases h0 : sup A (p + d)
  · rw [tf_y h0, if_neg (by decide)]
    by_cases h1 : sup A (q + d)
    · rw [tf_y h1, if_neg (by decide), tf_y ⟨h0, h1⟩]
    · rw [tf_n h1, if_pos rfl, tf_n (fun q => h1 q.2)]
  · rw [tf_n h0, if_pos rfl, tf_n (fun q => h0 q.1)]
theorem X0_slides_hd {b p q d : Nat} {M : mM} {A : Bd} (hr : repB b M A) (hp : p + d < 120) (hq : q + d < 120) (hd : d ≤ p ∧ d ≤ q) : f_X0_slides_b30 b (nI p) (nI q) (nI d) M = some (tf (side A (p - d) (q - d) ∨ side A (p + d) (q + d))) := by
  unfold f_X0_slides_b30
  rw [nsub hd.1, nsub hd.2, X0_supports hr (by omega), mbp_s, X0_supports hr (by omega), mbp_s, X0_slides_tl hr hp hq]
  by_cases h0 : sup A (p - d)
  · rw [tf_y h0, if_neg (by decide)]
    by_cases h1 : sup A (q - d)
    · rw [tf_y h1, if_neg (by decide), tf_y (Or.inl ⟨h0, h1⟩)]
    · rw [tf_n h1, if_pos rfl]
      by_cases h2 : side A (p + d) (q + d)
      · rw [tf_y h2, tf_y (Or.inr h2)]
      · rw [tf_n h2, tf_n (fun q => by rcases q with q | q; exact h1 q.2; exact h2 q)]
  · rw [tf_n h0, if_pos rfl]
    by_cases h2 : side A (p + d) (q + d)
    · rw [tf_y h2, tf_y (Or.inr h2)]
    · rw [tf_n h2, tf_n (fun q => by rcases q with q | q; exact h0 q.1; exact h2 q)]
/-- across a way: how far -/
def acr (w : Nat) : Nat := if w % 2 = 0 then 12 else 1
abbrev slid (A : Bd) (p w : Nat) : Prop := side A (p - acr w) (stp p w - acr w) ∨ side A (p + acr w) (stp p w + acr w)
theorem slid_at {p w : Nat} (hp : inG p) (hq : inG (stp p w)) (hw : w < 4) : p + acr w < 120 ∧ stp p w + acr w < 120 ∧ acr w ≤ p ∧ acr w ≤ stp p w ∧ ((nI (stp p w) - nI p = 1 ∨ nI p - nI (stp p w) = 1) ↔ acr w = 12) := by
  have g1 : ∀ p, p < 120 → ∀ w, w < 4 → inG p → p + acr w < 120 ∧ stp p w + acr w < 120 := by decide +kernel
  have g2 : ∀ p, p < 120 → ∀ w, w < 4 → inG p → acr w ≤ p ∧ acr w ≤ stp p w := by decide +kernel
  have h' : ∀ p, p < 120 → ∀ w, w < 4 → inG p → ((nI (stp p w) - nI p = 1 ∨ nI p - nI (stp p w) = 1) ↔ acr w = 12) := by decide +kernel
  have hl : p < 120 := by have := hp.2.1; omega
  obtain ⟨h1, h2⟩ := g1 p hl w hw hp
  obtain ⟨h3, h4⟩ := g2 p hl w hw hp
  exact ⟨h1, h2, h3, h4, h' p hl w hw hp⟩
theorem X0_slides {b p w : Nat} {M : mM} {A : Bd} (hr : repB b M A) (hp : inG p) (hq : inG (stp p w)) (hw : w < 4) : f_X0_slides b (nI p) (nI (stp p w)) M = some (tf (slid A p w)) := by
  obtain ⟨h1, h2, h3, h4, h5⟩ := slid_at hp hq hw
  have e := X0_slides_hd hr h1 h2 ⟨h3, h4⟩
  unfold f_X0_slides f_X0_slides_b19
  by_cases ha : acr w = 12
  · have h5 := h5.mpr ha
    rw [if_neg (show ¬ (1 : Int32) = 0 by decide)]
    rw [show (12 : Int32) = nI (acr w) by rw [ha]; rfl, e]
    rcases h5 with h5 | h5
    · rw [if_pos h5]
    · rw [if_pos h5]
      split <;> rfl
  · have h5 := fun q => ha (h5.mp q)
    have h1' : acr w = 1 := by unfold acr at ha ⊢; split at ha <;> first | contradiction | (split <;> first | contradiction | rfl)
    rw [if_neg (fun q => h5 (Or.inl q)), if_neg (fun q => h5 (Or.inr q)), if_pos rfl, show (1 : Int32) = nI (acr w) by rw [h1']; rfl, e]
/-- around a corner: the cell beside the old one is free, and a CUBE is turned about -/
abbrev trn (A : Bd) (p w : Nat) : Prop := bG A (stp p (if w = 4 ∨ w = 5 then 1 else 3)) = -1 ∧ 0 ≤ bG A (stp p (if w = 4 ∨ w = 7 then 0 else 2))
theorem trn_at {p w : Nat} (hp : inG p) (hw : w < 4) : nI p + sVal 4 w = nI (stp p (if w + 4 = 4 ∨ w + 4 = 5 then 1 else 3)) ∧ nI p + sVal 5 w = nI (stp p (if w + 4 = 4 ∨ w + 4 = 7 then 0 else 2)) := by
  have h : ∀ p, p < 120 → ∀ w, w < 4 → inG p → nI p + sVal 4 w = nI (stp p (if w + 4 = 4 ∨ w + 4 = 5 then 1 else 3)) ∧ nI p + sVal 5 w = nI (stp p (if w + 4 = 4 ∨ w + 4 = 7 then 0 else 2)) := by decide +kernel
  exact h p (by have := hp.2.1; omega) w hw hp
theorem X0_turns {b p w : Nat} {M : mM} {A : Bd} (hr : repB b M A) (hp : inG p) (hw : w < 4) : f_X0_turns b (nI p) (nI w) M = some (tf (trn A p (w + 4))) := by
  obtain ⟨e1, e2⟩ := trn_at hp hw
  unfold f_X0_turns mgd
  simp (disch := omega) only [Nat.not_lt_zero, Nat.zero_le, reduceIte, nadd, nmul, ladd, addL, lmul, mulL, lle, llt, leL, ltL, eqL, leq, ncl, nin, nle, nlt, neq, subL, nsub, divL, nand31]
  rw [if_pos hw, e1, e2, X0_inCell hr (stp_lt hp (by split <;> decide)), mbp_s, if_pos hw, X0_inCell hr (stp_lt hp (by split <;> decide)), mbp_s]
  by_cases h1 : bG A (stp p (if w + 4 = 4 ∨ w + 4 = 5 then 1 else 3)) = -1
  · rw [if_pos h1]
    by_cases h2 : bG A (stp p (if w + 4 = 4 ∨ w + 4 = 7 then 0 else 2)) < 0
    · rw [if_pos h2, tf_n (fun q => by have := q.2; grind)]
    · rw [if_neg h2, tf_y ⟨h1, by grind⟩]
  · rw [if_neg h1, tf_n (fun q => h1 q.1)]
