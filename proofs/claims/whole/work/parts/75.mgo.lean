/-! the reference sets a CUBE elsewhere -/
abbrev seM (M : mM) (p c q : Nat) : mM := mI (mI (mI (mI M 99 (8 * (p % 12 - 1) + (p / 12 - 1)) 0) 97 (26 + c) (cx q)) 97 (42 + c) (cy q)) 99 (8 * (q % 12 - 1) + (q / 12 - 1)) (nI c + 1)
theorem cellA {x y p : Nat} (hx : x < 10) (hy : y < 8) (hp : inG p) : 8 * x + y = 8 * (p % 12 - 1) + (p / 12 - 1) ↔ 12 * (y + 1) + x + 1 = p := by
  obtain ⟨h1, h2, h3, h4⟩ := hp
  omega
theorem cellI {x y : Nat} (hx : x < 10) (hy : y < 8) : inG (12 * (y + 1) + x + 1) := by
  refine ⟨by omega, by omega, by omega, by omega⟩
theorem X10_sets {c q : Nat} {M : mM} {A : Bd} (hr : repR 97 M A) (hw : wf A) (hc : c < bN A) (hq : inG q) : f_X10_sets (nI c) (cx q) (cy q) M = some (seM M (bP A c) c q) := by
  have hn := hw.1
  have hp := (hw.2.1 c hc).1
  obtain ⟨e1, e2, e3, -⟩ := cell_ix hp
  obtain ⟨f1, f2, f3, -⟩ := cell_ix hq
  unfold f_X10_sets
  simp (disch := omega) only [Nat.not_lt_zero, Nat.zero_le, reduceIte, nadd, nmul, ladd, addL, lmul, mulL, lle, llt, leL, ltL, eqL, leq, ncl, nin, nle, nlt, neq, subL, nsub, divL, nand31, mgd, mlt]
  rw [hr.2.2.1 c hc, hr.2.2.2.1 c hc, e1, f1]
  simp (disch := omega) only [Nat.not_lt_zero, Nat.zero_le, reduceIte, nadd, nmul, ladd, addL, lmul, mulL, lle, llt, leL, ltL, eqL, leq, ncl, nin, nle, nlt, neq, subL, nsub, divL, nand31, mgd, mlt]
  rw [if_pos (by omega), if_pos (by omega), if_pos (by omega), if_pos (by omega), if_pos (by omega), if_pos (by omega), show nI (c + 1) = nI c + 1 from (nI_1 c).symm]
theorem se_repG {c q : Nat} {M : mM} {A : Bd} {v : Int32} (hg : repG M A) (hw : wf A) (hc : c < bN A) (hq : inG q) : repG (seM M (bP A c) c q) (bMv A c q v) := by
  intro x hx y hy
  have hp := (hw.2.1 c hc).1
  have a1 := cellA hx hy hp
  have a2 := cellA hx hy hq
  simp only [mI_at]
  show _ = (if 12 * (y + 1) + x + 1 = q then nI c else if 12 * (y + 1) + x + 1 = bP A c then -1 else bG A (12 * (y + 1) + x + 1)) + 1
  by_cases e : 12 * (y + 1) + x + 1 = q
  · rw [if_pos ⟨trivial, a2.mpr e⟩, if_pos e]
  · rw [if_neg (fun k => e (a2.mp k.2)), if_neg (by omega), if_neg (by omega), if_neg e]
    by_cases e2 : 12 * (y + 1) + x + 1 = bP A c
    · rw [if_pos ⟨trivial, a1.mpr e2⟩, if_pos e2]; rfl
    · rw [if_neg (fun k => e2 (a1.mp k.2)), if_neg e2]
      exact hg x hx y hy
theorem se_repR {c q : Nat} {M : mM} {A : Bd} {v : Int32} (hr : repR 97 M A) (hw : wf A) (hc : c < bN A) : repR 97 (mI (seM M (bP A c) c q) 97 (58 + c) v) (bMv A c q v) := by
  have hn := hw.1
  obtain ⟨r1, r2, r3, r4, r5, r6⟩ := hr
  refine ⟨?_, fun d hd => ?_, fun d hd => ?_, fun d hd => ?_, fun d hd => ?_, fun d hd => ?_⟩ <;> simp only [mI_at]
  · rw [if_neg (by omega), if_neg (by omega), if_neg (by omega), if_neg (by omega), if_neg (by omega)]
    exact r1
  · have hd : d < bN A := hd
    rw [if_neg (by omega), if_neg (by omega), if_neg (by omega), if_neg (by omega), if_neg (by omega)]
    exact r2 d hd
  · have hd : d < bN A := hd
    show _ = cx (if d = c then q else bP A d)
    by_cases e : d = c
    · rw [if_neg (by omega), if_neg (by omega), if_neg (by omega), if_pos ⟨trivial, by omega⟩, if_pos e]
    · rw [if_neg (by omega), if_neg (by omega), if_neg (by omega), if_neg (by omega), if_neg (by omega), if_neg e]
      exact r3 d hd
  · have hd : d < bN A := hd
    show _ = cy (if d = c then q else bP A d)
    by_cases e : d = c
    · rw [if_neg (by omega), if_neg (by omega), if_pos ⟨trivial, by omega⟩, if_pos e]
    · rw [if_neg (by omega), if_neg (by omega), if_neg (by omega), if_neg (by omega), if_neg (by omega), if_neg e]
      exact r4 d hd
  · have hd : d < bN A := hd
    show _ = (if d = c then v else bW A d)
    by_cases e : d = c
    · rw [if_pos ⟨trivial, by omega⟩, if_pos e]
    · rw [if_neg (by omega), if_neg (by omega), if_neg (by omega), if_neg (by omega), if_neg (by omega), if_neg e]
      exact r5 d hd
  · have hd : d < bN A := hd
    rw [if_neg (by omega), if_neg (by omega), if_neg (by omega), if_neg (by omega), if_neg (by omega)]
    exact r6 d hd
theorem up_self {α : Type} {f : Nat → α} {c : Nat} : up f c (f c) = f := by
  funext i
  show (if i = c then f c else f i) = f i
  by_cases e : i = c
  · rw [if_pos e, e]
  · rw [if_neg e]
theorem mI_self2 {M : mM} {k j : Nat} {v : Int32} (h : M.1 k j = v) : mI M k j v = M := by
  obtain ⟨f, g⟩ := M
  show ((fun a b => if a = k ∧ b = j then v else f a b), g) = (f, g)
  congr 1
  funext a i
  by_cases e : a = k ∧ i = j
  · rw [if_pos e, e.1, e.2]; exact h.symm
  · rw [if_neg e]
theorem se_repR0 {c q : Nat} {M : mM} {A : Bd} (hr : repR 97 M A) (hw : wf A) (hc : c < bN A) : repR 97 (seM M (bP A c) c q) (bMv A c q (bW A c)) := by
  have hn := hw.1
  have h := se_repR (q := q) (v := bW A c) hr hw hc
  rw [mI_self2] at h
  · exact h
  · simp only [mI_at]
    rw [if_neg (by omega), if_neg (by omega), if_neg (by omega), if_neg (by omega)]
    exact hr.2.2.2.2.1 c hc
theorem n8 {c w : Nat} (hc : c < 100000) (hw : w < 8) : nI (8 * c + w) / 8 = nI c ∧ nI (8 * c + w) - nI c * 8 = nI w := by
  constructor
  · simp (disch := omega) only [Nat.not_lt_zero, Nat.zero_le, reduceIte, nadd, nmul, ladd, addL, lmul, mulL, lle, llt, leL, ltL, eqL, leq, ncl, nin, nle, nlt, neq, subL, nsub, divL, nand31]
    rw [show (8 * c + w) / 8 = c by omega]
  · simp (disch := omega) only [Nat.not_lt_zero, Nat.zero_le, reduceIte, nadd, nmul, ladd, addL, lmul, mulL, lle, llt, leL, ltL, eqL, leq, ncl, nin, nle, nlt, neq, subL, nsub, divL, nand31]
    rw [show 8 * c + w - c * 8 = w by omega]
theorem X10_goes {c w : Nat} {M : mM} {A : Bd} (hr : repR 97 M A) (hw : wf A) (hc : c < bN A) (hw8 : w < 8) (hq : inG (stp (bP A c) w)) : f_X10_goes (nI (8 * c + w)) M = some (mI (seM M (bP A c) c (stp (bP A c) w)) 97 (58 + c) (bW A c - cost A c)) := by
  have hn := hw.1
  have hp := (hw.2.1 c hc).1
  obtain ⟨e1, e2⟩ := n8 (c := c) (w := w) (by omega) hw8
  obtain ⟨s1, s2⟩ := stp_x hp hw8
  unfold f_X10_goes
  rw [e1, e2]
  simp (disch := omega) only [ladd, ncl, nin, mgd, mlt]
  rw [hr.2.2.1 c hc, hr.2.2.2.1 c hc, s1, s2, X10_sets hr hw hc hq, mbp_s]
  have g1 : (seM M (bP A c) c (stp (bP A c) w)).1 97 (58 + c) = bW A c := by
    simp only [mI_at]
    rw [if_neg (by omega), if_neg (by omega), if_neg (by omega), if_neg (by omega)]
    exact hr.2.2.2.2.1 c hc
  have g2 : (seM M (bP A c) c (stp (bP A c) w)).1 97 (10 + c) = bK A c := by
    simp only [mI_at]
    rw [if_neg (by omega), if_neg (by omega), if_neg (by omega), if_neg (by omega)]
    exact hr.2.1 c hc
  rw [g1, g2]
  rw [if_pos (by omega), if_pos (by omega), if_pos (by omega), if_pos (by omega), if_pos (by omega)]
