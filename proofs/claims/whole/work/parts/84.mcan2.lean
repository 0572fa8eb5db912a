/-- the reference's cells of the CUBES alone are other -/
abbrev eqS (M M' : mM) : Prop := (∀ q, q ≠ 97 → q ≠ 99 → M'.1 q = M.1 q) ∧ (∀ j, (j < 26 ∨ 58 ≤ j) → M'.1 97 j = M.1 97 j) ∧ M'.2 = M.2
theorem eqS_rf {M : mM} : eqS M M := ⟨fun _ _ _ => rfl, fun _ _ => rfl, rfl⟩
theorem eqS_se {M : mM} {p c q : Nat} (hc : c < 16) : eqS M (seM M p c q) := by
  refine ⟨fun k h1 h2 => ?_, fun j hj => ?_, rfl⟩
  · rw [mI_ne h2, mI_ne h1, mI_ne h1, mI_ne h2]
  · simp only [mI_at]
    rw [if_neg (by omega), if_neg (by omega), if_neg (by omega), if_neg (by omega)]
theorem eqS_tr {M M' M2 : mM} (h : eqS M M') (h2 : eqS M' M2) : eqS M M2 := ⟨fun q a b => (h2.1 q a b).trans (h.1 q a b), fun j hj => (h2.2.1 j hj).trans (h.2.1 j hj), h2.2.2.trans h.2.2⟩
theorem X10_canMove_tl {c q : Nat} {x y dx dy : Int32} {M : mM} {A : Bd} (hw : wf A) (hr : repR 97 M A) (hg : repG M A) (hc : c < bN A) (hq : inG q) (hf : bG A q = -1) (hx : x = cx (bP A c)) (hy : y = cy (bP A c)) (hdx : x + dx = cx q) (hdy : y + dy = cy q) : ∃ M', f_X10_canMove_b157 (nI c) x y dx dy M = some (tf (hold A q (bN A - 1) (nI c) ∧ (bN A = 1 ∨ Wh (bP A) (fun d => d < bN A ∧ d ≠ c))), M') ∧ repR 97 M' A ∧ repG M' A ∧ eqS M M' := by
  have hn := hw.1
  have hp := (hw.2.1 c hc).1
  unfold f_X10_canMove_b157
  rw [X10_butWhole hw hr hg hc, mbp_s]
  by_cases ho : bN A = 1 ∨ Wh (bP A) (fun d => d < bN A ∧ d ≠ c)
  · rw [tf_y ho, if_neg (by decide), hdx, hdy, X10_sets hr hw hc hq, mbp_s]
    have hwB := wf_mv (v := bW A c) hw hc hq hf
    have hrB := se_repR0 (q := q) hr hw hc
    have hgB := se_repG (v := bW A c) hg hw hc hq
    rw [X10_allWhole hwB hrB hgB (show 0 < bN A by omega), mbp_s, hx, hy, X10_sets hrB hwB hc hp, mbp_s, tf_c (Wh_mv hw hc hq ho)]
    have hback := bMv_back (v := bW A c) hw hc hf
    have hW : bW (bMv A c q (bW A c)) c = bW A c := if_pos rfl
    have hrC := se_repR0 (q := bP A c) hrB hwB hc
    have hgC := se_repG (q := bP A c) (v := bW A c) hgB hwB hc hp
    rw [hW, hback] at hrC
    rw [hback] at hgC
    refine ⟨_, ?_, hrC, hgC, eqS_tr (eqS_se (by omega)) (eqS_se (by omega))⟩
    by_cases h : hold A q (bN A - 1) (nI c)
    · rw [tf_y h, mgd_s (Or.inr rfl), tf_y ⟨h, ho⟩]
    · rw [tf_n h, mgd_s (Or.inl rfl), tf_n (fun k => h k.1)]
  · rw [tf_n ho, if_pos rfl, tf_n (fun k => ho k.2)]
    exact ⟨M, rfl, hr, hg, eqS_rf⟩
