/-! the whole run -/
theorem Inv_step {w a1 a2 a3 a4 a5 : Int32} {M : mM} (hI : Inv M) : ∃ M', f_law_step w a1 a2 a3 a4 a5 M = some M' ∧ Inv M' := by
  unfold f_law_step
  by_cases h0 : (w &&& 63) = 0
  · rw [if_pos h0]; exact op_cube hI
  rw [if_neg h0]
  by_cases h1 : (w &&& 63) = 1
  · rw [if_pos h1]; exact op_about hI
  rw [if_neg h1]
  by_cases h2 : (w &&& 63) = 2
  · rw [if_pos h2]; exact op_at hI
  rw [if_neg h2]
  by_cases h3 : (w &&& 63) = 3
  · rw [if_pos h3]; exact op_dead hI
  rw [if_neg h3]
  by_cases h4 : (w &&& 63) = 4
  · rw [if_pos h4]; exact op_charge hI
  rw [if_neg h4]
  by_cases h5 : (w &&& 63) = 5
  · rw [if_pos h5]; exact op_can hI
  rw [if_neg h5]
  by_cases h6 : (w &&& 63) = 6
  · rw [if_pos h6]; exact op_move hI
  rw [if_neg h6]
  by_cases h7 : (w &&& 63) = 7
  · rw [if_pos h7]; exact op_moves hI
  rw [if_neg h7]
  by_cases h8 : (w &&& 63) = 8
  · rw [if_pos h8]; exact op_broken hI
  rw [if_neg h8]
  by_cases h9 : (w &&& 63) = 9
  · rw [if_pos h9]; exact op_fault hI
  rw [if_neg h9]
  by_cases h10 : (w &&& 63) = 10
  · rw [if_pos h10]; exact op_shape hI
  rw [if_neg h10]
  by_cases h11 : (w &&& 63) = 11
  · rw [if_pos h11]; exact op_in hI
  rw [if_neg h11]
  by_cases h12 : (w &&& 63) = 12
  · rw [if_pos h12]; exact op_met hI
  rw [if_neg h12]
  by_cases h13 : (w &&& 63) = 13
  · rw [if_pos h13]; exact op_plan hI
  rw [if_neg h13]
  by_cases h14 : (w &&& 63) = 14
  · rw [if_pos h14]; exact op_planned hI
  rw [if_neg h14]
  by_cases h15 : (w &&& 63) = 15
  · rw [if_pos h15]; exact op_judge hI
  rw [if_neg h15]
  by_cases h16 : (w &&& 63) = 16
  · rw [if_pos h16]; exact op_program hI
  rw [if_neg h16]
  by_cases h17 : (w &&& 63) = 17
  · rw [if_pos h17]; exact op_gives hI
  rw [if_neg h17]
  by_cases h18 : (w &&& 63) = 18
  · rw [if_pos h18]; exact op_rule hI
  rw [if_neg h18]
  by_cases h19 : (w &&& 63) = 19
  · rw [if_pos h19]; exact op_ticks hI
  rw [if_neg h19]
  by_cases h20 : (w &&& 63) = 20
  · rw [if_pos h20]; exact op_report hI
  rw [if_neg h20]
  by_cases h21 : (w &&& 63) = 21
  · rw [if_pos h21]; exact op_believed hI
  rw [if_neg h21]
  by_cases h22 : (w &&& 63) = 22
  · rw [if_pos h22]; exact op_wrong hI
  rw [if_neg h22]
  by_cases h23 : (w &&& 63) = 23
  · rw [if_pos h23]; exact op_image hI
  rw [if_neg h23]
  by_cases h24 : (w &&& 63) = 24
  · rw [if_pos h24]; exact op_restore hI
  rw [if_neg h24]
  by_cases h25 : (w &&& 63) = 25
  · rw [if_pos h25]; exact op_count hI
  rw [if_neg h25]
  by_cases h26 : (w &&& 63) = 26
  · rw [if_pos h26]; exact op_keep hI
  rw [if_neg h26]
  by_cases h27 : (w &&& 63) = 27
  · rw [if_pos h27]; exact op_row hI
  rw [if_neg h27]
  by_cases h28 : (w &&& 63) = 28
  · rw [if_pos h28]; exact op_put hI
  rw [if_neg h28]
  by_cases h29 : (w &&& 63) = 29
  · rw [if_pos h29]; exact op_element hI
  rw [if_neg h29]
  by_cases h30 : (w &&& 63) = 30
  · rw [if_pos h30]; exact op_copy hI
  rw [if_neg h30]
  by_cases h31 : (w &&& 63) = 31
  · rw [if_pos h31]; exact op_sum hI
  rw [if_neg h31]
  by_cases h32 : (w &&& 63) = 32
  · rw [if_pos h32]; exact op_toss hI
  rw [if_neg h32]
  exact ⟨M, rfl, hI⟩
theorem Inv_run {xs : Nat → Int32} (n : Nat) : ∀ k M, Inv M → ∃ M', f_law_run xs n k M = some M' := by
  induction n with
  | zero => exact fun k M _ => ⟨M, rfl⟩
  | succ n ih =>
    intro k M hI
    obtain ⟨M1, h1, h2⟩ := Inv_step (w := xs (6 * k)) (a1 := xs (6 * k + 1)) (a2 := xs (6 * k + 2)) (a3 := xs (6 * k + 3)) (a4 := xs (6 * k + 4)) (a5 := xs (6 * k + 5)) hI
    obtain ⟨M2, h3⟩ := ih (k + 1) M1 h2
    refine ⟨M2, ?_⟩
    rw [f_law_run, h1, mbp_s]
    exact h3
theorem law_math {xs : Nat → Int32} {L : Nat} (hL : L ≤ 3072) : ∃ M9, f_law_run xs (L / 6) 0 M0 = some M9 := Inv_run _ 0 M0 Inv_M0
