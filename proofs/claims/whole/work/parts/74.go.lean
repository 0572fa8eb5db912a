/-! a CUBE is set elsewhere -/
theorem mI_at {M : mM} {k j a i : Nat} {v : Int32} : (mI M k j v).1 a i = if a = k ∧ i = j then v else M.1 a i := rfl
theorem mI_2 {M : mM} {k j : Nat} {v : Int32} : (mI M k j v).2 = M.2 := rfl
abbrev up {α : Type} (f : Nat → α) (c : Nat) (v : α) : Nat → α := fun i => if i = c then v else f i
def bMv (A : Bd) (c q : Nat) (v : Int32) : Bd := (bN A, up (bP A) c q, up (up (bG A) (bP A c) (-1)) q (nI c), bK A, up (bW A) c v, bD A)
theorem wf_lt {A : Bd} (hw : wf A) {c : Nat} (hc : c < bN A) : bP A c < 120 := by
  have := (hw.2.1 c hc).1.2.1
  omega
theorem wf_inj {A : Bd} (hw : wf A) {c d : Nat} (hc : c < bN A) (hd : d < bN A) (h : bP A c = bP A d) : c = d := by
  have h1 := (hw.2.1 c hc).2
  have h2 := (hw.2.1 d hd).2
  have := hw.1
  rw [h, h2, neq (by omega) (by omega)] at h1
  exact h1.symm
theorem wf_mv {A : Bd} (hw : wf A) {c q : Nat} {v : Int32} (hc : c < bN A) (hq : inG q) (hf : bG A q = -1) : wf (bMv A c q v) := by
  obtain ⟨h1, h2, h3, h4, h5, h6⟩ := id hw
  have hpq : q ≠ bP A c := fun e => by
    rw [e, (h2 c hc).2] at hf
    exact nneg (a := c) (m := 1) (by omega) (by decide) (by decide) hf
  refine ⟨h1, fun d hd => ?_, fun p hp hg => ?_, fun p hp hg => ?_, h5, h6⟩
  · have hd : d < bN A := hd
    show inG (if d = c then q else bP A d) ∧ (if (if d = c then q else bP A d) = q then nI c else if (if d = c then q else bP A d) = bP A c then -1 else bG A (if d = c then q else bP A d)) = nI d
    by_cases e : d = c
    · rw [if_pos e, if_pos rfl, e]
      exact ⟨hq, rfl⟩
    · rw [if_neg e]
      have e2 : bP A d ≠ bP A c := fun k => e (wf_inj hw hd hc k)
      have e3 : bP A d ≠ q := fun k => by
        rw [← k, (h2 d hd).2] at hf
        exact nneg (a := d) (m := 1) (by omega) (by decide) (by decide) hf
      rw [if_neg e3, if_neg e2]
      exact h2 d hd
  · show (if p = q then nI c else if p = bP A c then -1 else bG A p) = -1 ∨ ∃ d, d < bN A ∧ (if p = q then nI c else if p = bP A c then -1 else bG A p) = nI d ∧ (if d = c then q else bP A d) = p
    by_cases e : p = q
    · exact Or.inr ⟨c, hc, by rw [if_pos e], by rw [if_pos rfl, e]⟩
    · rw [if_neg e]
      by_cases e2 : p = bP A c
      · exact Or.inl (by rw [if_pos e2])
      · rw [if_neg e2]
        rcases h3 p hp hg with k | ⟨d, k1, k2, k3⟩
        · exact Or.inl k
        · exact Or.inr ⟨d, k1, k2, by rw [if_neg (fun k => e2 (by rw [← k3, k]))]; exact k3⟩
  · show (if p = q then nI c else if p = bP A c then -1 else bG A p) = gI p
    rw [if_neg (fun k : p = q => hg (by rw [k]; exact hq)), if_neg (fun k : p = bP A c => hg (by rw [k]; exact (h2 c hc).1))]
    exact h4 p hp hg
theorem bMv_back {A : Bd} (hw : wf A) {c q : Nat} {v : Int32} (hc : c < bN A) (hf : bG A q = -1) : bMv (bMv A c q v) c (bP A c) (bW A c) = A := by
  have h2 := (hw.2.1 c hc).2
  have hn := hw.1
  have hpq : q ≠ bP A c := fun e => by
    rw [e, h2] at hf
    exact nneg (a := c) (m := 1) (by omega) (by decide) (by decide) hf
  obtain ⟨n, P, G, K, W, D⟩ := A
  show ((n, _, _, K, _, D) : Bd) = (n, P, G, K, W, D)
  congr 1
  congr 1
  · funext i
    show (if i = c then P c else if i = c then q else P i) = P i
    by_cases e : i = c
    · rw [if_pos e, e]
    · rw [if_neg e, if_neg e]
  · congr 1
    · funext i
      show (if i = P c then nI c else if i = (if c = c then q else P c) then -1 else if i = q then nI c else if i = P c then -1 else G i) = G i
      rw [if_pos rfl]
      by_cases e : i = P c
      · rw [if_pos e, e]; exact h2.symm
      · rw [if_neg e]
        by_cases e2 : i = q
        · rw [if_pos e2, e2]; exact hf.symm
        · rw [if_neg e2, if_neg e2, if_neg e]
    · congr 1
      congr 1
      funext i
      show (if i = c then W c else if i = c then v else W i) = W i
      by_cases e : i = c
      · rw [if_pos e, e]
      · rw [if_neg e, if_neg e]
/-- the class sets a CUBE elsewhere -/
abbrev shM (b : Nat) (M : mM) (p c q : Nat) : mM := mI (mI (mI M (b + 6) p (-1)) (b + 6) q (nI c)) (b + 2) c (nI q)
theorem X0_shift {b c q : Nat} {M : mM} {A : Bd} (hr : repB b M A) (hw : wf A) (hc : c < bN A) (hq : inG q) (hf : bG A q = -1) : f_X0_shift b (nI c) (nI q) M = some (shM b M (bP A c) c q) := by
  have hn := hw.1
  have hp := wf_lt hw hc
  have hq1 := hq.2.1
  unfold f_X0_shift
  rw [X0_inCell hr (by omega), mbp_s, if_pos hf]
  simp (disch := omega) only [Nat.not_lt_zero, Nat.zero_le, reduceIte, nadd, nmul, ladd, addL, lmul, mulL, lle, llt, leL, ltL, eqL, leq, ncl, nin, nle, nlt, neq, subL, nsub, divL, nand31, mgd, mlt]
  rw [hr.2.2.1 c hc]
  simp (disch := omega) only [Nat.not_lt_zero, Nat.zero_le, reduceIte, nadd, nmul, ladd, addL, lmul, mulL, lle, llt, leL, ltL, eqL, leq, ncl, nin, nle, nlt, neq, subL, nsub, divL, nand31, mgd, mlt]
  rw [if_pos (by omega), if_pos (by omega), if_pos (by omega), if_pos (by omega)]
theorem sh_rep {b c q : Nat} {M : mM} {A : Bd} {v : Int32} (hr : repB b M A) (hw : wf A) (hc : c < bN A) : repB b (mI (shM b M (bP A c) c q) (b + 3) c v) (bMv A c q v) := by
  obtain ⟨r1, r2, r3, r4, r5, r6⟩ := hr
  refine ⟨?_, fun d hd => ?_, fun d hd => ?_, fun d hd => ?_, fun d hd => ?_, fun p hp => ?_⟩
  · simp only [mI_at]
    rw [if_neg (by omega), if_neg (by omega), if_neg (by omega), if_neg (by omega)]
    exact r1
  · simp only [mI_at]
    rw [if_neg (by omega), if_neg (by omega), if_neg (by omega), if_neg (by omega)]
    exact r2 d hd
  · simp only [mI_at]
    show _ = nI (if d = c then q else bP A d)
    by_cases e : d = c
    · rw [if_neg (by omega), if_pos ⟨trivial, e⟩, if_pos e]
    · rw [if_neg (by omega), if_neg (by omega), if_neg (by omega), if_neg (by omega), if_neg e]
      exact r3 d hd
  · simp only [mI_at]
    show _ = (if d = c then v else bW A d)
    by_cases e : d = c
    · rw [if_pos ⟨trivial, e⟩, if_pos e]
    · rw [if_neg (by omega), if_neg (by omega), if_neg (by omega), if_neg (by omega), if_neg e]
      exact r4 d hd
  · simp only [mI_at]
    rw [if_neg (by omega), if_neg (by omega), if_neg (by omega), if_neg (by omega)]
    exact r5 d hd
  · simp only [mI_at]
    show _ = (if p = q then nI c else if p = bP A c then -1 else bG A p)
    rw [if_neg (by omega), if_neg (by omega)]
    by_cases e : p = q
    · rw [if_pos ⟨trivial, e⟩, if_pos e]
    · rw [if_neg (by omega), if_neg e]
      by_cases e2 : p = bP A c
      · rw [if_pos ⟨trivial, e2⟩, if_pos e2]
      · rw [if_neg (by omega), if_neg e2]
        exact r6 p hp
theorem k_cost {v : Int32} (h : isK v) : mIn v 4 ∧ sVal 2 v.toNatClampNeg = f_X10_costOf v ∧ sVal 0 v.toNatClampNeg = f_X10_weightOf v ∧ sVal 1 v.toNatClampNeg = f_X10_bearsOf v := by
  rcases h with rfl | rfl | rfl | rfl <;> decide +kernel
abbrev cost (A : Bd) (c : Nat) : Int32 := f_X10_costOf (bK A c)
abbrev goM (b : Nat) (M : mM) (A : Bd) (c q : Nat) (v : Int32) : mM := mI (shM b M (bP A c) c q) (b + 3) c v
theorem X0_go {b c w : Nat} {M : mM} {A : Bd} (hr : repB b M A) (hw : wf A) (hc : c < bN A) (hw8 : w < 8) (hq : inG (stp (bP A c) w)) (hf : bG A (stp (bP A c) w) = -1) : f_X0_go b (nI c) (nI w) M = some (goM b M A c (stp (bP A c) w) (bW A c - cost A c)) := by
  have hn := hw.1
  have hp := (hw.2.1 c hc).1
  obtain ⟨k1, k2, -⟩ := k_cost (hw.2.2.2.2.1 c hc)
  unfold f_X0_go
  simp (disch := omega) only [Nat.not_lt_zero, Nat.zero_le, reduceIte, nadd, nmul, ladd, addL, lmul, mulL, lle, llt, leL, ltL, eqL, leq, ncl, nin, nle, nlt, neq, subL, nsub, divL, nand31, mgd, mlt]
  rw [if_pos (by omega), if_pos hw8, hr.2.2.1 c hc, stp_goes hp hw8, X0_shift hr hw hc hq hf, mbp_s, if_pos (by omega), if_pos (by omega)]
  have e1 : (shM b M (bP A c) c (stp (bP A c) w)).1 (b + 1) c = bK A c := by
    simp only [mI_at]
    rw [if_neg (by omega), if_neg (by omega), if_neg (by omega)]
    exact hr.2.1 c hc
  have e2 : (shM b M (bP A c) c (stp (bP A c) w)).1 (b + 3) c = bW A c := by
    simp only [mI_at]
    rw [if_neg (by omega), if_neg (by omega), if_neg (by omega)]
    exact hr.2.2.2.1 c hc
  rw [e1, e2, k2, if_pos k1, if_pos (by omega)]
