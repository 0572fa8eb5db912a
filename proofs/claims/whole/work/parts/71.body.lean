/-! the CUBES, apart from any memory: how many; place in the framed grid; what the framed grid holds; kind; power; dead -/
abbrev Bd : Type := Nat × (Nat → Nat) × (Nat → Int32) × (Nat → Int32) × (Nat → Int32) × (Nat → Int32)
abbrev bN (A : Bd) : Nat := A.1
abbrev bP (A : Bd) : Nat → Nat := A.2.1
abbrev bG (A : Bd) : Nat → Int32 := A.2.2.1
abbrev bK (A : Bd) : Nat → Int32 := A.2.2.2.1
abbrev bW (A : Bd) : Nat → Int32 := A.2.2.2.2.1
abbrev bD (A : Bd) : Nat → Int32 := A.2.2.2.2.2
abbrev inG (p : Nat) : Prop := 12 ≤ p ∧ p < 108 ∧ p % 12 ≠ 0 ∧ p % 12 ≠ 11
abbrev isK (v : Int32) : Prop := v = 0 ∨ v = 1 ∨ v = 2 ∨ v = 3
abbrev is01 (v : Int32) : Prop := v = 0 ∨ v = 1
def wf (A : Bd) : Prop := bN A ≤ 16 ∧ (∀ c, c < bN A → inG (bP A c) ∧ bG A (bP A c) = nI c) ∧ (∀ p, p < 120 → inG p → bG A p = -1 ∨ ∃ c, c < bN A ∧ bG A p = nI c ∧ bP A c = p) ∧ (∀ p, p < 120 → ¬ inG p → bG A p = gI p) ∧ (∀ c, c < bN A → isK (bK A c)) ∧ ∀ c, c < bN A → is01 (bD A c)
/-- a body of the class holds these CUBES -/
def repB (b : Nat) (M : mM) (A : Bd) : Prop := M.1 b 0 = nI (bN A) ∧ (∀ c, c < bN A → M.1 (b + 1) c = bK A c) ∧ (∀ c, c < bN A → M.1 (b + 2) c = nI (bP A c)) ∧ (∀ c, c < bN A → M.1 (b + 3) c = bW A c) ∧ (∀ c, c < bN A → M.1 (b + 4) c = bD A c) ∧ ∀ p, p < 120 → M.1 (b + 6) p = bG A p
def cx (p : Nat) : Int32 := nI (p % 12) - 1
def cy (p : Nat) : Int32 := nI (p / 12) - 1
/-- a row of the reference holds them -/
def repR (k : Nat) (M : mM) (A : Bd) : Prop := M.1 k 0 = nI (bN A) ∧ (∀ c, c < bN A → M.1 k (10 + c) = bK A c) ∧ (∀ c, c < bN A → M.1 k (26 + c) = cx (bP A c)) ∧ (∀ c, c < bN A → M.1 k (42 + c) = cy (bP A c)) ∧ (∀ c, c < bN A → M.1 k (58 + c) = bW A c) ∧ ∀ c, c < bN A → M.1 k (74 + c) = bD A c
/-- its grid holds them -/
def repG (M : mM) (A : Bd) : Prop := ∀ x, x < 10 → ∀ y, y < 8 → M.1 99 (8 * x + y) = bG A (12 * (y + 1) + x + 1) + 1
abbrev md (v : Int32) : Int32 := if v < 0 then -1 else v
def stp (p w : Nat) : Nat := if w = 0 then p + 1 else if w = 1 then p + 12 else if w = 2 then p - 1 else if w = 3 then p - 12 else if w = 4 then p + 13 else if w = 5 then p + 11 else if w = 6 then p - 13 else p - 11
theorem stp_goes {p w : Nat} (hp : inG p) (hw : w < 8) : nI p + sVal 3 w = nI (stp p w) := by
  have h : ∀ p, p < 120 → ∀ w, w < 8 → inG p → nI p + sVal 3 w = nI (stp p w) := by decide +kernel
  exact h p (by have := hp.2.1; omega) w hw hp
theorem stp_lt {p w : Nat} (hp : inG p) (hw : w < 8) : stp p w < 120 := by
  have h : ∀ p, p < 120 → ∀ w, w < 8 → inG p → stp p w < 120 := by decide +kernel
  exact h p (by have := hp.2.1; omega) w hw hp
theorem stp_x {p w : Nat} (hp : inG p) (hw : w < 8) : cx p + f_X10_east (nI w) = cx (stp p w) ∧ cy p + f_X10_north (nI w) = cy (stp p w) := by
  have h : ∀ p, p < 120 → ∀ w, w < 8 → inG p → cx p + f_X10_east (nI w) = cx (stp p w) ∧ cy p + f_X10_north (nI w) = cy (stp p w) := by decide +kernel
  exact h p (by have := hp.2.1; omega) w hw hp
theorem gI_neg : ∀ p, p < 120 → gI p < 0 := by decide +kernel
theorem wf_g {A : Bd} (h : wf A) {p : Nat} (hp : p < 120) : (bG A p = -1 ∧ inG p) ∨ (∃ c, c < bN A ∧ bG A p = nI c ∧ bP A c = p ∧ inG p) ∨ (bG A p = gI p ∧ ¬ inG p) := by
  obtain ⟨h1, h2, h3, h4, -⟩ := h
  by_cases hg : inG p
  · rcases h3 p hp hg with q | ⟨c, q1, q2, q3⟩
    · exact Or.inl ⟨q, hg⟩
    · exact Or.inr (Or.inl ⟨c, q1, q2, q3, hg⟩)
  · exact Or.inr (Or.inr ⟨h4 p hp hg, hg⟩)
theorem X0_inCell {b p : Nat} {M : mM} {A : Bd} (h : repB b M A) (hp : p < 120) : f_X0_inCell b (nI p) M = some (bG A p) := by
  unfold f_X0_inCell mgd
  simp (disch := omega) only [Nat.not_lt_zero, Nat.zero_le, reduceIte, nadd, nmul, ladd, addL, lmul, mulL, lle, llt, leL, ltL, eqL, leq, ncl, nin, nle, nlt, neq, subL, nsub, divL, nand31]
  rw [if_neg (by omega), if_pos hp, h.2.2.2.2.2 p hp]
theorem X10_isCell {p : Nat} (hp : p < 120) : f_X10_isCell (cx p) (cy p) = if inG p then 1 else 0 := by
  have h : ∀ p, p < 120 → f_X10_isCell (cx p) (cy p) = if inG p then 1 else 0 := by decide +kernel
  exact h p hp
theorem cell_ix {p : Nat} (hp : inG p) : 8 * cx p + cy p = nI (8 * (p % 12 - 1) + (p / 12 - 1)) ∧ p % 12 - 1 < 10 ∧ p / 12 - 1 < 8 ∧ 12 * ((p / 12 - 1) + 1) + (p % 12 - 1) + 1 = p := by
  have h : ∀ p, p < 120 → inG p → 8 * cx p + cy p = nI (8 * (p % 12 - 1) + (p / 12 - 1)) ∧ p % 12 - 1 < 10 ∧ p / 12 - 1 < 8 ∧ 12 * ((p / 12 - 1) + 1) + (p % 12 - 1) + 1 = p := by decide +kernel
  exact h p (by have := hp.2.1; omega) hp
theorem X10_cubeAt {p : Nat} {M : mM} {A : Bd} (hw : wf A) (h : repG M A) (hp : p < 120) : f_X10_cubeAt (cx p) (cy p) M = some (md (bG A p)) := by
  unfold f_X10_cubeAt mgd
  rw [X10_isCell hp]
  by_cases hg : inG p
  · obtain ⟨e1, e2, e3, e4⟩ := cell_ix hg
    rw [if_pos hg, if_neg (by decide), e1]
    simp (disch := omega) only [Nat.not_lt_zero, Nat.zero_le, reduceIte, nadd, nmul, ladd, addL, lmul, mulL, lle, llt, leL, ltL, eqL, leq, ncl, nin, nle, nlt, neq, subL, nsub, divL, nand31]
    rw [if_pos (by omega), h _ e2 _ e3, e4]
    rcases wf_g hw hp with ⟨q, -⟩ | ⟨c, q1, q2, -⟩ | ⟨-, q⟩
    · rw [q]; rfl
    · have h1 := hw.1
      rw [q2, md, if_neg (nlt0 (by omega))]
      grind
    · exact absurd hg q
  · rw [if_neg hg, if_pos rfl]
    rcases wf_g hw hp with ⟨-, q⟩ | ⟨c, -, -, -, q⟩ | ⟨q, -⟩
    · exact absurd q hg
    · exact absurd q hg
    · rw [q, md, if_pos (gI_neg p hp)]
