/-! whether a MOVE can be -/
def fit (A : Bd) (p w : Nat) : Prop := (w < 4 ∧ slid A p w) ∨ (4 ≤ w ∧ trn A p w)
def canP (A : Bd) (c w : Nat) : Prop := bD A c = 0 ∧ cost A c ≤ bW A c ∧ bG A (stp (bP A c) w) = -1 ∧ fit A (bP A c) w ∧ hold A (stp (bP A c) w) (bN A - 1) (nI c) ∧ (bN A = 1 ∨ Wh (bP A) (fun d => d < bN A ∧ d ≠ c))
theorem free_in {A : Bd} (hw : wf A) {p : Nat} (hp : p < 120) (h : bG A p = -1) : inG p := by
  by_cases hg : inG p
  · exact hg
  · have e := hw.2.2.2.1 p hp hg
    rw [h] at e
    exact absurd e.symm (gI_ne1 p hp hg)
theorem X0_mayGo_tl {b c w : Nat} {M : mM} {A : Bd} (hw : wf A) (hr : repB b M A) (hc : c < bN A) (hw8 : w < 8) {Z : Prop} (hq : inG (stp (bP A c) w)) : ∃ M', f_X0_mayGo_b81 b (nI c) (nI (stp (bP A c) w)) (tf Z) M = some (tf (Z ∧ hold A (stp (bP A c) w) (bN A - 1) (nI c) ∧ (bN A = 1 ∨ Wh (bP A) (fun d => d < bN A ∧ d ≠ c))), M') ∧ (∀ q, q ≠ b + 7 → M'.1 q = M.1 q) ∧ M'.2 = M.2 := by
  have hn := hw.1
  unfold f_X0_mayGo_b81
  by_cases z : Z
  · rw [tf_y z, if_neg (by decide), X0_holdsOn_but hr hn hc hq, mbp_s]
    by_cases h1 : hold A (stp (bP A c) w) (bN A - 1) (nI c)
    · rw [tf_y h1, if_neg (by decide)]
      obtain ⟨M', m1, m2, m3⟩ := X0_othersAreWhole hw hr hc
      rw [m1, mbw_s]
      by_cases h2 : bN A = 1 ∨ Wh (bP A) (fun d => d < bN A ∧ d ≠ c)
      · rw [tf_y h2, if_neg (by decide), tf_y ⟨z, h1, h2⟩]
        exact ⟨M', rfl, m2, m3⟩
      · rw [tf_n h2, if_pos rfl, tf_n (fun q => h2 q.2.2)]
        exact ⟨M', rfl, m2, m3⟩
    · rw [tf_n h1, if_pos rfl, tf_n (fun q => h1 q.2.1)]
      exact ⟨M, rfl, fun _ _ => rfl, rfl⟩
  · rw [tf_n z, if_pos rfl, tf_n (fun q => z q.1)]
    exact ⟨M, rfl, fun _ _ => rfl, rfl⟩
theorem X0_mayGo {b c w : Nat} {M : mM} {A : Bd} (hw : wf A) (hr : repB b M A) (hc : c < bN A) (hw8 : w < 8) : ∃ M', f_X0_mayGo b (nI c) (nI w) M = some (tf (canP A c w), M') ∧ (∀ q, q ≠ b + 7 → M'.1 q = M.1 q) ∧ M'.2 = M.2 := by
  have hn := hw.1
  have hp := (hw.2.1 c hc).1
  have hlt := stp_lt hp hw8
  obtain ⟨k1, k2, -⟩ := k_cost (hw.2.2.2.2.1 c hc)
  have hin : mIn (nI c) 16 := (nin (by omega)).mpr (by omega)
  have hinw : mIn (nI w) 8 := (nin (by omega)).mpr hw8
  unfold f_X0_mayGo
  simp only [ncl (show c < 2147483648 by omega), ncl (show w < 2147483648 by omega), hr.2.2.2.2.1 c hc, hr.2.1 c hc, hr.2.2.2.1 c hc, hr.2.2.1 c hc]
  rw [mgd_s hin]
  by_cases h1 : bD A c = 0
  · rw [if_pos h1, mgd_s hin, mgd_s hin, mgd_s k1, k2]
    by_cases h2 : cost A c ≤ bW A c
    · rw [if_pos h2, mgd_s hin, mlt_s, mgd_s hinw, mlt_s, stp_goes hp hw8, X0_inCell hr hlt, mbp_s]
      by_cases h3 : bG A (stp (bP A c) w) = -1
      · have hq := free_in hw hlt h3
        rw [if_pos h3]
        by_cases h4 : 4 ≤ w
        · have h4' : (4 : Int32) ≤ nI w := (lle (by decide) (by omega)).mpr h4
          rw [if_pos h4']
          obtain ⟨v, rfl⟩ : ∃ v, w = v + 4 := ⟨w - 4, by omega⟩
          rw [show nI (v + 4) - 4 = nI v by rw [show (4 : Int32) = nI 4 from rfl, nsub (by omega), Nat.add_sub_cancel], X0_turns hr hp (by omega), mbp_s]
          obtain ⟨M', m1, m2⟩ := X0_mayGo_tl hw hr hc hw8 (Z := trn A (bP A c) (v + 4)) hq
          refine ⟨M', m1.trans (congrArg (fun z => some (z, M')) (tf_c ⟨fun h => ⟨h1, h2, h3, Or.inr ⟨h4, h.1⟩, h.2⟩, fun h => ⟨?_, h.2.2.2.2⟩⟩)), m2⟩
          rcases h.2.2.2.1 with q | q
          · omega
          · exact q.2
        · have h4' : ¬ (4 : Int32) ≤ nI w := fun q => h4 ((lle (by decide) (by omega)).mp q)
          rw [if_neg h4', X0_slides hr hp hq (by omega), mbp_s]
          obtain ⟨M', m1, m2⟩ := X0_mayGo_tl hw hr hc hw8 (Z := slid A (bP A c) w) hq
          refine ⟨M', m1.trans (congrArg (fun z => some (z, M')) (tf_c ⟨fun h => ⟨h1, h2, h3, Or.inl ⟨by omega, h.1⟩, h.2⟩, fun h => ⟨?_, h.2.2.2.2⟩⟩)), m2⟩
          rcases h.2.2.2.1 with q | q
          · exact q.2
          · omega
      · rw [if_neg h3, tf_n (fun q => h3 q.2.2.1)]
        exact ⟨M, rfl, fun _ _ => rfl, rfl⟩
    · rw [if_neg h2, tf_n (fun q => h2 q.2.1)]
      exact ⟨M, rfl, fun _ _ => rfl, rfl⟩
  · rw [if_neg h1, tf_n (fun q => h1 q.1)]
    exact ⟨M, rfl, fun _ _ => rfl, rfl⟩
