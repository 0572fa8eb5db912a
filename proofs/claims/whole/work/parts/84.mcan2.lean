/-- the reference's cells of the CUBES alone are other -/
abbrev eqS (M M' : mM) : Prop := (∀ q, q ≠ 97 → q ≠ 99 → M'.1 q = M.1 q) ∧ (∀ j, (j < 26 ∨ 58 ≤ j) → M'.1 97 j = M.1 97 j) ∧ M'.2 = M.2
theorem eqS_rf {M : mM} : eqS M M := ⟨fun _ _ _ => rfl, fun _ _ => rfl, rfl⟩
theorem eqS_se {M : mM} {p c q : Nat} (hc : c < 16) : eqS M (seM M p c q) := by
  refine ⟨fun k h1 h2 => ?_, fun j hj => ?_, rfl⟩
  · rw [mI_ne h2, mI_ne h1, mI_ne h1, mI_ne h2]
  · simp only [mI_at]
    rw [if_neg (by omega), if_neg (by omega), if_neg (by omega), if_neg (by omega)]
theorem eqS_tr {M M' M2 : mM} (h : eqS M M') (h2 : eqS M' M2) : eqS M M2 := ⟨fun q a b => (h2.1 q a b).trans (h.1 q a b), fun j hj => (h2.2.1 j hj).trans (h.2.1 j hj), h2.2.2.trans h.2.2⟩
theorem mM_ext {M N : mM} (h : ∀ a i, M.1 a i = N.1 a i) (h2 : M.2 = N.2) : M = N := by
  obtain ⟨f, g⟩ := M
  obtain ⟨f', g'⟩ := N
  have e1 : f = f' := funext fun a => funext fun i => h a i
  have e2 : g = g' := h2
  rw [e1, e2]
theorem se_back {c q : Nat} {M : mM} {A : Bd} (hr : repR 97 M A) (hg : repG M A) (hw : wf A) (hc : c < bN A) (hq : inG q) (hf : bG A q = -1) : seM (seM M (bP A c) c q) q c (bP A c) = M := by
  have hn := hw.1
  obtain ⟨hp, hpc⟩ := hw.2.1 c hc
  obtain ⟨-, p2, p3, p4⟩ := cell_ix hp
  obtain ⟨-, q2, q3, q4⟩ := cell_ix hq
  have g1 := hg _ p2 _ p3
  have g2 := hg _ q2 _ q3
  rw [p4, hpc] at g1
  rw [q4, hf] at g2
  have g2 : M.1 99 (8 * (q % 12 - 1) + (q / 12 - 1)) = 0 := g2
  refine mM_ext (fun a i => ?_) rfl
  simp only [mI_at]
  by_cases h1 : a = 99 ∧ i = 8 * (bP A c % 12 - 1) + (bP A c / 12 - 1)
  · rw [if_pos h1, h1.1, h1.2, g1]
  · rw [if_neg h1]
    by_cases h2 : a = 97 ∧ i = 42 + c
    · rw [if_pos h2, h2.1, h2.2, hr.2.2.2.1 c hc]
    · rw [if_neg h2]
      by_cases h3 : a = 97 ∧ i = 26 + c
      · rw [if_pos h3, h3.1, h3.2, hr.2.2.1 c hc]
      · rw [if_neg h3]
        by_cases h4 : a = 99 ∧ i = 8 * (q % 12 - 1) + (q / 12 - 1)
        · rw [if_pos h4, h4.1, h4.2, g2]
        · rw [if_neg h4, if_neg h4, if_neg h2, if_neg h3, if_neg h1]
theorem X10_canMove_tl {c q : Nat} {x y dx dy : Int32} {M : mM} {A : Bd} (hw : wf A) (hr : repR 97 M A) (hg : repG M A) (hc : c < bN A) (hq : inG q) (hf : bG A q = -1) (hx : x = cx (bP A c)) (hy : y = cy (bP A c)) (hdx : x + dx = cx q) (hdy : y + dy = cy q) : f_X10_canMove_b157 (nI c) x y dx dy M = some (tf (hold A q (bN A - 1) (nI c) ∧ (bN A = 1 ∨ Wh (bP A) (fun d => d < bN A ∧ d ≠ c))), M) := by
  have hn := hw.1
  have hp := (hw.2.1 c hc).1
  unfold f_X10_canMove_b157
  rw [X10_butWhole hw hr hg hc, mbp_s]
  by_cases ho : bN A = 1 ∨ Wh (bP A) (fun d => d < bN A ∧ d ≠ c)
  · rw [tf_y ho, if_neg (by decide), hdx, hdy, X10_sets hr hw hc hq, mbp_s]
    have hwB := wf_mv (v := bW A c) hw hc hq hf
    have hrB := se_repR0 (q := q) hr hw hc
    have hgB := se_repG (v := bW A c) hg hw hc hq
    have hs := X10_sets (q := bP A c) hrB hwB (show c < bN (bMv A c q (bW A c)) from hc) hp
    have hbp : bP (bMv A c q (bW A c)) c = q := if_pos rfl
    rw [hbp, se_back hr hg hw hc hq hf] at hs
    rw [X10_allWhole hwB hrB hgB (show 0 < bN A by omega), mbp_s, hx, hy, hs, mbp_s, tf_c (Wh_mv hw hc hq ho)]
    by_cases h : hold A q (bN A - 1) (nI c)
    · rw [tf_y h, mgd_s (Or.inr rfl), tf_y ⟨h, ho⟩]
    · rw [tf_n h, mgd_s (Or.inl rfl), tf_n (fun k => h k.1)]
  · rw [tf_n ho, if_pos rfl, tf_n (fun k => ho k.2)]
