/-! the same, of the reference -/
theorem gI_ne1 : ∀ p, p < 120 → ¬ inG p → gI p ≠ -1 := by decide +kernel
theorem X10_isFree {p : Nat} {M : mM} {A : Bd} (hw : wf A) (h : repG M A) (hp : p < 120) : f_X10_isFree (cx p) (cy p) M = some (tf (bG A p = -1)) := by
  unfold f_X10_isFree
  rw [X10_isCell hp, X10_cubeAt hw h hp, mbp_s]
  by_cases hg : inG p
  · rw [if_pos hg, if_neg (by decide)]
    rcases wf_g hw hp with ⟨q, -⟩ | ⟨c, q1, q2, -⟩ | ⟨-, q⟩
    · rw [q, tf_y rfl]; rfl
    · have h1 := hw.1
      have h2 : ¬ nI c < 0 := nlt0 (by omega)
      rw [q2, md, if_neg h2, if_pos (by grind), tf_n (by grind)]
    · exact absurd hg q
  · rw [if_neg hg, if_pos rfl, tf_n]
    have := hw.2.2.2.1 p hp hg
    have := gI_ne1 p hp hg
    grind
theorem hold_fr : ∀ p, p < 120 → ((cy p < 0 ∧ 0 ≤ cx p ∧ cx p ≤ 9) ↔ gI p = -3) := by decide +kernel
theorem hold_in : ∀ p, p < 120 → inG p → ¬ cy p < 0 := by decide +kernel
theorem X10_holds_tl {p : Nat} {u : Int32} {M : mM} {A : Bd} (hw : wf A) (h : repG M A) (hp : p < 120) (hu : bG A p ≠ u) : f_X10_holds_b15 (cx p) (cy p) u M = some (tf (0 ≤ bG A p)) := by
  unfold f_X10_holds_b15
  rw [X10_cubeAt hw h hp, mbp_s, mbp_s]
  by_cases h0 : bG A p < 0
  · rw [md, if_pos h0, if_pos (by decide), tf_n (by grind)]
  · rw [md, if_neg h0, if_neg h0, if_neg hu, tf_y (by grind)]
theorem X10_holds {p : Nat} {u : Int32} {M : mM} {A : Bd} (hw : wf A) (h : repG M A) (hp : p < 120) (hu : bG A p ≠ u) : f_X10_holds (cx p) (cy p) u M = some (tf (sup A p)) := by
  unfold f_X10_holds f_X10_is
  rw [X10_holds_tl hw h hp hu]
  have hf := hold_fr p hp
  by_cases hg : inG p
  · have h3 : ¬ bG A p = -3 := by
      rcases wf_g hw hp with ⟨q, -⟩ | ⟨c, q1, q2, -⟩ | ⟨-, q⟩
      · rw [q]; decide
      · have h1 := hw.1
        rw [q2]
        exact nneg (m := 3) (by omega) (by decide) (by decide)
      · exact absurd hg q
    have h4 := hold_in p hp hg
    rw [if_pos (by grind), tf_c (show (0 ≤ bG A p) ↔ sup A p from ⟨Or.inl, fun q => q.resolve_right h3⟩)]
  · have e := hw.2.2.2.1 p hp hg
    have hn := gI_neg p hp
    have e1 : tf (0 ≤ bG A p) = 0 := tf_n (by rw [e]; grind)
    rw [e1]
    by_cases h3 : gI p = -3
    · obtain ⟨f1, f2, f3⟩ := hf.mpr h3
      rw [if_neg (show ¬ 0 ≤ cy p by grind), if_neg (show ¬ cx p < 0 by grind), if_neg (show ¬ 9 < cx p by grind), if_neg (by decide), tf_y (Or.inr (e.trans h3))]
    · have e2 : tf (sup A p) = 0 := tf_n (fun q => by rcases q with q | q <;> grind)
      rw [e2]
      by_cases f1 : 0 ≤ cy p
      · rw [if_pos f1]
      · rw [if_neg f1, if_pos]
        have := fun q => h3 (hf.mp q)
        grind
abbrev sx (w : Nat) : Int32 := if f_X10_east (nI w) = 0 then 1 else 0
abbrev sy (w : Nat) : Int32 := if f_X10_north (nI w) = 0 then 1 else 0
theorem side_at {p w : Nat} (hp : inG p) (hw : w < 4) : cx p + sx w = cx (p + acr w) ∧ cy p + sy w = cy (p + acr w) ∧ cx p - sx w = cx (p - acr w) ∧ cy p - sy w = cy (p - acr w) := by
  have hl : p < 120 := by have := hp.2.1; omega
  have g1 : ∀ p, p < 120 → ∀ w, w < 4 → inG p → cx p + sx w = cx (p + acr w) := by decide +kernel
  have g2 : ∀ p, p < 120 → ∀ w, w < 4 → inG p → cy p + sy w = cy (p + acr w) := by decide +kernel
  have g3 : ∀ p, p < 120 → ∀ w, w < 4 → inG p → cx p - sx w = cx (p - acr w) := by decide +kernel
  have g4 : ∀ p, p < 120 → ∀ w, w < 4 → inG p → cy p - sy w = cy (p - acr w) := by decide +kernel
  exact ⟨g1 p hl w hw hp, g2 p hl w hw hp, g3 p hl w hw hp, g4 p hl w hw hp⟩
theorem wf_ne {A : Bd} (hw : wf A) {c q : Nat} (hc : c < bN A) (hq : q < 120) (h : q ≠ bP A c) : bG A q ≠ nI c := by
  intro e
  have hn := hw.1
  rcases wf_g hw hq with ⟨f, -⟩ | ⟨d, f1, f2, f3, -⟩ | ⟨f, -⟩
  · rw [f] at e
    exact nneg (a := c) (m := 1) (by omega) (by decide) (by decide) e.symm
  · rw [f2, neq (by omega) (by omega)] at e
    exact h (by rw [← e, f3])
  · have := gI_neg q hq
    rw [f] at e
    rw [e] at this
    exact nlt0 (by omega) this
theorem acr_ne {p w : Nat} (hp : inG p) (hw : w < 4) : p + acr w ≠ p ∧ stp p w + acr w ≠ p ∧ p - acr w ≠ p ∧ stp p w - acr w ≠ p := by
  have hl : p < 120 := by have := hp.2.1; omega
  have g1 : ∀ p, p < 120 → ∀ w, w < 4 → inG p → p + acr w ≠ p ∧ stp p w + acr w ≠ p := by decide +kernel
  have g2 : ∀ p, p < 120 → ∀ w, w < 4 → inG p → p - acr w ≠ p ∧ stp p w - acr w ≠ p := by decide +kernel
  obtain ⟨h1, h2⟩ := g1 p hl w hw hp
  exact ⟨h1, h2, g2 p hl w hw hp⟩
theorem X10_hasSide {w c : Nat} {M : mM} {A : Bd} (hw : wf A) (h : repG M A) (hc : c < bN A) (hw4 : w < 4) (hq : inG (stp (bP A c) w)) : f_X10_hasSide (nI c) (cx (bP A c)) (cy (bP A c)) (f_X10_east (nI w)) (f_X10_north (nI w)) M = some (tf (slid A (bP A c) w)) := by
  have hp := (hw.2.1 c hc).1
  generalize hpe : bP A c = p at hp hq ⊢
  obtain ⟨a1, a2, a3, a4⟩ := side_at hp hw4
  obtain ⟨b1, b2, b3, b4⟩ := side_at hq hw4
  obtain ⟨e1, e2⟩ := stp_x hp (w := w) (by omega)
  obtain ⟨l1, l2, -, -, -⟩ := slid_at hp hq hw4
  obtain ⟨n1, n2, n3, n4⟩ := acr_ne hp hw4
  have key : f_X10_hasSide_b22 (nI c) (cx p) (cy p) (f_X10_east (nI w)) (f_X10_north (nI w)) (sx w) (sy w) M = some (tf (slid A p w)) := by
    unfold f_X10_hasSide_b22 f_X10_hasSide_b67 f_X10_hasSide_b112
    rw [e1, e2, a1, a2, a3, a4, b1, b2, b3, b4]
    rw [X10_holds hw h l1 (wf_ne hw hc l1 (by rw [hpe]; exact n1)), mbp_s, X10_holds hw h l2 (wf_ne hw hc l2 (by rw [hpe]; exact n2)), mbp_s, X10_holds hw h (by omega) (wf_ne hw hc (by omega) (by rw [hpe]; exact n3)), mbp_s, X10_holds hw h (by omega) (wf_ne hw hc (by omega) (by rw [hpe]; exact n4)), mbp_s]
    by_cases s1 : sup A (p + acr w) <;> by_cases s2 : sup A (stp p w + acr w) <;> by_cases s3 : sup A (p - acr w) <;> by_cases s4 : sup A (stp p w - acr w) <;> simp [mbp_s, tf_y, tf_n, s1, s2, s3, s4, slid, side]
  unfold f_X10_hasSide f_X10_hasSide_b10
  by_cases h1 : f_X10_east (nI w) = 0 <;> by_cases h2 : f_X10_north (nI w) = 0
  · rw [if_pos h1, if_pos h2]
    rw [sx, if_pos h1, sy, if_pos h2] at key
    exact key
  · rw [if_pos h1, if_neg h2]
    rw [sx, if_pos h1, sy, if_neg h2] at key
    exact key
  · rw [if_neg h1, if_pos h2]
    rw [sx, if_neg h1, sy, if_pos h2] at key
    exact key
  · rw [if_neg h1, if_neg h2]
    rw [sx, if_neg h1, sy, if_neg h2] at key
    exact key
