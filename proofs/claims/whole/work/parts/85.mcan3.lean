theorem md_y {v : Int32} (h : 0 ≤ v) : md v = v := by
  have h1 : ¬ v < 0 := by grind
  rw [md, if_neg h1]
theorem md_n {v : Int32} (h : ¬ 0 ≤ v) : md v = -1 := by
  have h1 : v < 0 := by grind
  rw [md, if_pos h1]
theorem trn_x {p w : Nat} (hp : inG p) (hw : w < 8) (h4 : 4 ≤ w) : (cx p = cx (stp p (if w = 4 ∨ w = 5 then 1 else 3)) ∧ cy p + f_X10_north (nI w) = cy (stp p (if w = 4 ∨ w = 5 then 1 else 3))) ∧ cx p + f_X10_east (nI w) = cx (stp p (if w = 4 ∨ w = 7 then 0 else 2)) ∧ cy p = cy (stp p (if w = 4 ∨ w = 7 then 0 else 2)) := by
  have hl : p < 120 := by have := hp.2.1; omega
  have a1 : ∀ p, p < 120 → ∀ w, w < 8 → inG p → 4 ≤ w → cx p = cx (stp p (if w = 4 ∨ w = 5 then 1 else 3)) := by decide +kernel
  have a2 : ∀ p, p < 120 → ∀ w, w < 8 → inG p → 4 ≤ w → cy p + f_X10_north (nI w) = cy (stp p (if w = 4 ∨ w = 5 then 1 else 3)) := by decide +kernel
  have a3 : ∀ p, p < 120 → ∀ w, w < 8 → inG p → 4 ≤ w → cx p + f_X10_east (nI w) = cx (stp p (if w = 4 ∨ w = 7 then 0 else 2)) := by decide +kernel
  have a4 : ∀ p, p < 120 → ∀ w, w < 8 → inG p → 4 ≤ w → cy p = cy (stp p (if w = 4 ∨ w = 7 then 0 else 2)) := by decide +kernel
  exact ⟨⟨a1 p hl w hw hp h4, a2 p hl w hw hp h4⟩, a3 p hl w hw hp h4, a4 p hl w hw hp h4⟩
theorem X10_turn {p w : Nat} {M : mM} {A : Bd} (hw : wf A) (hg : repG M A) (hp : inG p) (hw8 : w < 8) (h4 : 4 ≤ w) : f_X10_isFree (cx p) (cy p + f_X10_north (nI w)) M = some (tf (bG A (stp p (if w = 4 ∨ w = 5 then 1 else 3)) = -1)) ∧ f_X10_cubeAt (cx p + f_X10_east (nI w)) (cy p) M = some (md (bG A (stp p (if w = 4 ∨ w = 7 then 0 else 2)))) := by
  obtain ⟨⟨a1, a2⟩, a3, a4⟩ := trn_x hp hw8 h4
  have l1 : stp p (if w = 4 ∨ w = 5 then 1 else 3) < 120 := stp_lt hp (by split <;> decide)
  have l2 : stp p (if w = 4 ∨ w = 7 then 0 else 2) < 120 := stp_lt hp (by split <;> decide)
  have f1 := X10_isFree hw hg l1
  have f2 := X10_cubeAt hw hg l2
  rw [← a1, ← a2] at f1
  rw [← a3, ← a4] at f2
  exact ⟨f1, f2⟩
theorem X10_canMove {c w : Nat} {M : mM} {A : Bd} (hw : wf A) (hr : repR 97 M A) (hg : repG M A) (hc : c < bN A) (hw8 : w < 8) : f_X10_canMove (nI (8 * c + w)) M = some (tf (canP A c w), M) := by
  have hn := hw.1
  have hp := (hw.2.1 c hc).1
  have hlt := stp_lt hp hw8
  obtain ⟨e1, e2⟩ := n8 (c := c) (w := w) (by omega) hw8
  obtain ⟨s1, s2⟩ := stp_x hp hw8
  have g1 : ∀ k, k < 1000 → mIn (nI (k + c)) 1834 := fun k hk => (nin (by omega)).mpr (by omega)
  unfold f_X10_canMove
  rw [e1, e2]
  simp only [ladd, ncl (show 26 + c < 2147483648 by omega), ncl (show 42 + c < 2147483648 by omega), ncl (show 74 + c < 2147483648 by omega), ncl (show 58 + c < 2147483648 by omega), ncl (show 10 + c < 2147483648 by omega), hr.2.2.1 c hc, hr.2.2.2.1 c hc, hr.2.2.2.2.2 c hc, hr.2.2.2.2.1 c hc, hr.2.1 c hc, mlt_s]
  rw [mgd_s (g1 26 (by decide)), mgd_s (g1 42 (by decide)), mgd_s (g1 74 (by decide))]
  by_cases h1 : bD A c = 1
  · rw [if_pos h1, tf_n (fun q => by have := q.1; rw [h1] at this; exact absurd this (by decide))]
  · have h1' : bD A c = 0 := (hw.2.2.2.2.2 c hc).resolve_right h1
    rw [if_neg h1, mgd_s (g1 58 (by decide)), mgd_s (g1 10 (by decide))]
    by_cases h2 : bW A c < cost A c
    · rw [if_pos h2, tf_n (fun q => by have := q.2.1; grind)]
    · rw [if_neg h2, s1, s2, X10_isFree hw hg hlt, mbp_s]
      by_cases h3 : bG A (stp (bP A c) w) = -1
      · have hq := free_in hw hlt h3
        rw [tf_y h3, if_neg (by decide)]
        have tl := X10_canMove_tl (x := cx (bP A c)) (y := cy (bP A c)) (dx := f_X10_east (nI w)) (dy := f_X10_north (nI w)) hw hr hg hc hq h3 rfl rfl s1 s2
        have yes : fit A (bP A c) w → f_X10_canMove_b157 (nI c) (cx (bP A c)) (cy (bP A c)) (f_X10_east (nI w)) (f_X10_north (nI w)) M = some (tf (canP A c w), M) := fun hfit => tl.trans (congrArg (fun z => some (z, M)) (tf_c ⟨fun h => ⟨h1', by grind, h3, hfit, h⟩, fun h => h.2.2.2.2⟩))
        have no : ¬ fit A (bP A c) w → (some ((0 : Int32), M) : Option (Int32 × mM)) = some (tf (canP A c w), M) := fun hfit => by rw [tf_n (fun q => hfit q.2.2.2.1)]
        by_cases h4 : 4 ≤ w
        · have h4' : (4 : Int32) ≤ nI w := (lle (by decide) (by omega)).mpr h4
          rw [if_pos h4']
          obtain ⟨t1, t2⟩ := X10_turn hw hg hp hw8 h4
          rw [← s2, t1, mbp_s]
          by_cases h5 : bG A (stp (bP A c) (if w = 4 ∨ w = 5 then 1 else 3)) = -1
          · rw [tf_y h5, if_neg (by decide), ← s1, t2, mbp_s]
            by_cases h6 : 0 ≤ bG A (stp (bP A c) (if w = 4 ∨ w = 7 then 0 else 2))
            · rw [md_y h6, if_pos h6]
              exact yes (Or.inr ⟨h4, h5, h6⟩)
            · rw [md_n h6, if_neg (show ¬ (0 : Int32) ≤ -1 by decide)]
              exact no (fun q => by rcases q with q | q; omega; exact h6 q.2.2)
          · rw [tf_n h5, if_pos rfl]
            exact no (fun q => by rcases q with q | q; omega; exact h5 q.2.1)
        · have h4' : ¬ (4 : Int32) ≤ nI w := fun q => h4 ((lle (by decide) (by omega)).mp q)
          rw [if_neg h4', X10_hasSide hw hg hc (by omega) hq, mbp_s]
          by_cases h5 : slid A (bP A c) w
          · rw [tf_y h5, if_neg (by decide)]
            exact yes (Or.inl ⟨by omega, h5⟩)
          · rw [tf_n h5, if_pos rfl]
            exact no (fun q => by rcases q with q | q; exact h5 q.2; omega)
      · rw [tf_n h3, if_pos rfl, tf_n (fun q => h3 q.2.2.1)]
    