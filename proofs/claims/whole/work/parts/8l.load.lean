/-! LOADS -/
abbrev ix (A : Bd) (q : Nat) : Nat := (bG A q).toNatClampNeg
def gv (A : Bd) (c : Nat) (L : Nat → Int32) : Nat → Int32 :=
  if 0 ≤ bG A (bP A c - 12) then up L (ix A (bP A c - 12)) (L (ix A (bP A c - 12)) + (f_X10_weightOf (bK A c) + L c))
  else if 0 ≤ bG A (bP A c + 1) then
    (if 0 ≤ bG A (bP A c - 1) then up (up L (ix A (bP A c + 1)) (L (ix A (bP A c + 1)) + (f_X10_weightOf (bK A c) + L c) / 2)) (ix A (bP A c - 1)) (up L (ix A (bP A c + 1)) (L (ix A (bP A c + 1)) + (f_X10_weightOf (bK A c) + L c) / 2) (ix A (bP A c - 1)) + ((f_X10_weightOf (bK A c) + L c) - (f_X10_weightOf (bK A c) + L c) / 2))
    else up L (ix A (bP A c + 1)) (L (ix A (bP A c + 1)) + (f_X10_weightOf (bK A c) + L c)))
  else if 0 ≤ bG A (bP A c - 1) then up L (ix A (bP A c - 1)) (L (ix A (bP A c - 1)) + (f_X10_weightOf (bK A c) + L c))
  else L
noncomputable def gvS (A : Bd) (hang : Int32) (q : Nat) (L : Nat → Int32) : Nat → Int32 := if bG A q < 0 then L else if tf (bG A (q - 12) = -1) = hang then gv A (ix A q) L else L
noncomputable def lpL (A : Bd) (y : Nat) (hang : Int32) : Nat → Nat → (Nat → Int32) → (Nat → Int32)
  | 0, _, L => L
  | d + 1, x, L => lpL A y hang d (x + 1) (gvS A hang (12 * (y + 1) + x + 1) L)
noncomputable def wgL (A : Bd) : Nat → (Nat → Int32) → (Nat → Int32)
  | 0, L => L
  | y + 1, L => wgL A y (lpL A (y + 1) 0 10 0 (lpL A (y + 1) 1 10 0 L))
/-- a place that holds a CUBE -/
theorem g_c {A : Bd} (hw : wf A) {q : Nat} (hq : q < 120) (h : 0 ≤ bG A q) : ix A q < bN A ∧ bG A q = nI (ix A q) ∧ bP A (ix A q) = q ∧ inG q := by
  have hn := hw.1
  rcases wf_g hw hq with ⟨e, -⟩ | ⟨c, h1, h2, h3, h4⟩ | ⟨e, -⟩
  · rw [e] at h; exact absurd h (by decide)
  · have e : ix A q = c := by unfold ix; rw [h2, ncl (by omega)]
    rw [e]
    exact ⟨h1, h2, h3, h4⟩
  · have := gI_neg q hq
    rw [e] at h
    exact absurd h (by grind)
/-- two rows alike for the CUBES -/
abbrev alk (n : Nat) (L L' : Nat → Int32) : Prop := ∀ c, c < n → L' c = L c
theorem gv_alk {A : Bd} (hw : wf A) {c : Nat} (hc : c < bN A) {L L' : Nat → Int32} (h : alk (bN A) L L') : alk (bN A) (gv A c L) (gv A c L') := by
  have hp := (hw.2.1 c hc).1
  have hq := hp.2.1
  have up2 : ∀ {M M' : Nat → Int32} {i : Nat} {v : Int32}, alk (bN A) M M' → alk (bN A) (up M i v) (up M' i v) := fun {M M' i v} hM d hd => by
    by_cases e : d = i
    · rw [e, up_e, up_e]
    · rw [up_n e, up_n e, hM d hd]
  unfold gv
  rw [h c hc]
  by_cases h1 : 0 ≤ bG A (bP A c - 12)
  · obtain ⟨a1, -⟩ := g_c hw (by omega) h1
    rw [if_pos h1, if_pos h1, h _ a1]
    exact up2 h
  · rw [if_neg h1, if_neg h1]
    by_cases h2 : 0 ≤ bG A (bP A c + 1)
    · obtain ⟨a2, -⟩ := g_c hw (by omega) h2
      rw [if_pos h2, if_pos h2, h _ a2]
      by_cases h3 : 0 ≤ bG A (bP A c - 1)
      · obtain ⟨a3, -⟩ := g_c hw (by omega) h3
        rw [if_pos h3, if_pos h3, up2 h _ a3]
        exact up2 (up2 h)
      · rw [if_neg h3, if_neg h3]
        exact up2 h
    · rw [if_neg h2, if_neg h2]
      by_cases h3 : 0 ≤ bG A (bP A c - 1)
      · obtain ⟨a3, -⟩ := g_c hw (by omega) h3
        rw [if_pos h3, if_pos h3, h _ a3]
        exact up2 h
      · rw [if_neg h3, if_neg h3]
        exact h
theorem gvS_alk {A : Bd} (hw : wf A) {q : Nat} {hang : Int32} (hq : q < 120) {L L' : Nat → Int32} (h : alk (bN A) L L') : alk (bN A) (gvS A hang q L) (gvS A hang q L') := by
  unfold gvS
  by_cases h1 : bG A q < 0
  · rw [if_pos h1, if_pos h1]; exact h
  · obtain ⟨a1, -⟩ := g_c hw hq (show 0 ≤ bG A q by grind)
    rw [if_neg h1, if_neg h1]
    by_cases h2 : tf (bG A (q - 12) = -1) = hang
    · rw [if_pos h2, if_pos h2]; exact gv_alk hw a1 h
    · rw [if_neg h2, if_neg h2]; exact h
theorem lpL_alk {A : Bd} (hw : wf A) {y : Nat} {hang : Int32} (hy : y < 8) (d : Nat) : ∀ x L L', x + d = 10 → alk (bN A) L L' → alk (bN A) (lpL A y hang d x L) (lpL A y hang d x L') := by
  induction d with
  | zero => intro x L L' _ h; exact h
  | succ d ih =>
    intro x L L' hx h
    exact ih (x + 1) _ _ (by omega) (gvS_alk hw (by omega) h)
theorem wgL_alk {A : Bd} (hw : wf A) : ∀ y L L', y < 8 → alk (bN A) L L' → alk (bN A) (wgL A y L) (wgL A y L') := by
  intro y
  induction y with
  | zero => intro L L' _ h; exact h
  | succ y ih =>
    intro L L' hy h
    exact ih _ _ (by omega) (lpL_alk hw hy 10 0 _ _ rfl (lpL_alk hw hy 10 0 _ _ rfl h))
/-! the class -/
theorem repB_s5 {b : Nat} {M : mM} {A : Bd} {L : Nat → Int32} (h : repB b M A) : repB b (sR M (b + 5) L) A := by
  refine repB_fr ?_ ?_ ?_ ?_ ?_ ?_ h <;> rw [sR_n (by omega)]
theorem X0_hangs {b p : Nat} {M : mM} {A : Bd} (hB : repB b M A) (hp : inG p) : f_X0_hangs b (nI p) M = some (tf (bG A (p - 12) = -1)) := by
  have h1 := hp.1
  have h2 := hp.2.1
  unfold f_X0_hangs
  rw [subL (show 12 ≤ p from h1), X0_inCell hB (show p - 12 < 120 by omega), mbp_s]
  by_cases e : bG A (p - 12) = -1
  · rw [if_pos e, tf_y e]
  · rw [if_neg e, tf_n e]
theorem up_self5 {b : Nat} {M : mM} {L : Nat → Int32} {i : Nat} {v : Int32} : mI (sR M (b + 5) L) (b + 5) i v = sR M (b + 5) (up L i v) := mI_R
theorem X0_passOn {b c : Nat} {M : mM} {A : Bd} {L : Nat → Int32} (hw : wf A) (hB : repB b M A) (hc : c < bN A) : f_X0_passOn b (nI (bP A c)) (f_X10_weightOf (bK A c) + L c) (sR M (b + 5) L) = some (sR M (b + 5) (gv A c L)) := by
  have hn := hw.1
  have hp := (hw.2.1 c hc).1
  have p1 := hp.1
  have p2 := hp.2.1
  have hB5 := repB_s5 (L := L) hB
  unfold f_X0_passOn
  rw [subL (show 12 ≤ bP A c from p1), X0_inCell hB5 (show bP A c - 12 < 120 by omega), mbp_s]
  unfold gv
  by_cases h1 : 0 ≤ bG A (bP A c - 12)
  · obtain ⟨a1, a2, -⟩ := g_c hw (by omega) h1
    rw [if_neg (show ¬ bG A (bP A c - 12) < 0 by grind), if_pos h1, mgd_s (by rw [a2]; exact (nin (by omega)).mpr (by omega)), mgd_s (by rw [a2]; exact (nin (by omega)).mpr (by omega)), sR_e, up_self5, mlt_s]
  · rw [if_pos (show bG A (bP A c - 12) < 0 by grind), if_neg h1, addL, X0_inCell hB5 (show bP A c + 1 < 120 by omega), mbp_s, subL (show 1 ≤ bP A c by omega), X0_inCell hB5 (show bP A c - 1 < 120 by omega), mbp_s]
    unfold f_X0_passOn_b63 f_X0_passOn_b82
    by_cases h2 : 0 ≤ bG A (bP A c + 1)
    · obtain ⟨b1, b2, -⟩ := g_c hw (by omega) h2
      have n2 : ¬ bG A (bP A c + 1) < 0 := by grind
      rw [if_pos h2, if_pos h2]
      by_cases h3 : 0 ≤ bG A (bP A c - 1)
      · obtain ⟨c1, c2, -⟩ := g_c hw (by omega) h3
        have n3 : ¬ bG A (bP A c - 1) < 0 := by grind
        rw [if_pos h3, if_pos h3, if_neg n2, mgd_s (by rw [b2]; exact (nin (by omega)).mpr (by omega)), mgd_s (by rw [b2]; exact (nin (by omega)).mpr (by omega)), sR_e, up_self5, mlt_s, if_neg n3, mgd_s (by rw [c2]; exact (nin (by omega)).mpr (by omega)), mgd_s (by rw [c2]; exact (nin (by omega)).mpr (by omega)), sR_e, up_self5, mlt_s]
      · rw [if_neg h3, if_neg h3, if_neg n2, mgd_s (by rw [b2]; exact (nin (by omega)).mpr (by omega)), mgd_s (by rw [b2]; exact (nin (by omega)).mpr (by omega)), sR_e, up_self5, mlt_s, if_pos (show bG A (bP A c - 1) < 0 by grind)]
    · rw [if_neg h2, if_neg h2, if_pos (show bG A (bP A c + 1) < 0 by grind)]
      by_cases h3 : 0 ≤ bG A (bP A c - 1)
      · obtain ⟨c1, c2, -⟩ := g_c hw (by omega) h3
        have n3 : ¬ bG A (bP A c - 1) < 0 := by grind
        rw [if_pos h3, if_neg n3, mgd_s (by rw [c2]; exact (nin (by omega)).mpr (by omega)), mgd_s (by rw [c2]; exact (nin (by omega)).mpr (by omega)), sR_e, up_self5, mlt_s, show (f_X10_weightOf (bK A c) + L c) - 0 = f_X10_weightOf (bK A c) + L c by grind]
      · rw [if_neg h3, if_pos (show bG A (bP A c - 1) < 0 by grind)]
theorem X0_row_lp {b y j : Nat} {hang : Int32} {M : mM} {A : Bd} (hw : wf A) (hB : repB b M A) (hy : y < 8) (d : Nat) : ∀ x L, x + d = 10 → f_X0_passRowOn_b2 (j + d + 1) b (nI y) hang (nI x) (sR M (b + 5) L) = some (sR M (b + 5) (lpL A y hang d x L)) := by
  have hn := hw.1
  induction d with
  | zero =>
    intro x L hx
    rw [f_X0_passRowOn_b2, if_pos ((lle (m := 10) (by decide) (by omega)).mpr (show 10 ≤ _ by omega))]
    rfl
  | succ d ih =>
    intro x L hx
    have hp := cellI (x := x) (y := y) (by omega) hy
    have hp2 := hp.2.1
    have hB5 := repB_s5 (L := L) hB
    have ih' := ih (x + 1) (gvS A hang (12 * (y + 1) + x + 1) L) (by omega)
    rw [f_X0_passRowOn_b2, if_neg (fun q => by have : 10 ≤ _ := (lle (m := 10) (by decide) (by omega)).mp q; omega), cell_of (by omega) hy, mlt_s, X0_inCell hB5 (by omega), mbp_s, nI_1]
    rw [lpL]
    unfold gvS at ih' ⊢
    by_cases h1 : bG A (12 * (y + 1) + x + 1) < 0
    · rw [if_pos h1] at ih' ⊢
      rw [if_pos h1, mlt_s]
      exact ih'
    · obtain ⟨a1, a2, a3, -⟩ := g_c hw (q := 12 * (y + 1) + x + 1) (by omega) (by grind)
      rw [if_neg h1] at ih' ⊢
      rw [if_neg h1, X0_hangs hB5 hp, mbp_s]
      by_cases h2 : tf (bG A (12 * (y + 1) + x + 1 - 12) = -1) = hang
      · rw [if_pos h2] at ih' ⊢
        obtain ⟨k1, -, k3, -⟩ := k_cost (hw.2.2.2.2.1 _ a1)
        have hk := hB5.2.1 _ a1
        rw [if_pos h2, mgd_s (by rw [a2]; exact (nin (by omega)).mpr (by omega)), hk, mgd_s k1, mgd_s (by rw [a2]; exact (nin (by omega)).mpr (by omega)), k3, sR_e]
        have ps := X0_passOn (L := L) hw hB a1
        rw [a3] at ps
        rw [ps, mbp_s, mlt_s]
        exact ih'
      · rw [if_neg h2] at ih' ⊢
        rw [if_neg h2, mlt_s]
        exact ih'
theorem X0_row {b y : Nat} {hang : Int32} {M : mM} {A : Bd} {L : Nat → Int32} (hw : wf A) (hB : repB b M A) (hy : y < 8) : f_X0_passRowOn b (nI y) hang (sR M (b + 5) L) = some (sR M (b + 5) (lpL A y hang 10 0 L)) := by
  obtain ⟨j, hj⟩ := mN_ge (k := 11) (by omega)
  have hj : mN = j + 10 + 1 := by omega
  unfold f_X0_passRowOn
  rw [hj]
  exact X0_row_lp hw hB hy 10 0 L rfl
theorem X0_weigh_y {b j : Nat} {M : mM} {A : Bd} (hw : wf A) (hB : repB b M A) : ∀ y L, y < 8 → f_X0_weigh_b26 (j + y + 1) b (nI y) (sR M (b + 5) L) = some (sR M (b + 5) (wgL A y L)) := by
  intro y
  induction y with
  | zero =>
    intro L _
    rw [f_X0_weigh_b26, if_pos (show nI 0 ≤ 0 by decide)]
    rfl
  | succ y ih =>
    intro L hy
    rw [f_X0_weigh_b26, if_neg (fun q => by have : _ ≤ 0 := (leL (m := 0) (by decide) (by omega)).mp q; omega), X0_row hw hB hy, mbp_s, X0_row hw hB hy, mbp_s, mlt_s, show nI (y + 1) + -1 = nI y by rw [← nI_1]; grind]
    exact ih _ (by omega)
theorem X0_weigh_z {b j : Nat} {M : mM} {A : Bd} (hw : wf A) (hB : repB b M A) (d : Nat) : ∀ i L, i + d = bN A → (∀ k, k < i → L k = 0) → ∃ L0, f_X0_weigh_b2 (j + d + 1) b (nI i) (sR M (b + 5) L) = some (sR M (b + 5) (wgL A 7 L0)) ∧ alk (bN A) (fun _ => 0) L0 := by
  have hn := hw.1
  induction d with
  | zero =>
    intro i L hi hL
    obtain ⟨m, hm⟩ := mN_ge (k := 8) (by omega)
    have hm : mN = m + 7 + 1 := by omega
    refine ⟨L, ?_, fun c hc => hL c (by omega)⟩
    rw [f_X0_weigh_b2, sR_n (by omega), hB.1, if_pos ((nle (by omega) (by omega)).mpr (by omega)), hm]
    exact X0_weigh_y hw hB 7 L (by decide)
  | succ d ih =>
    intro i L hi hL
    obtain ⟨L0, h1, h2⟩ := ih (i + 1) (up L i 0) (by omega) (fun k hk => by
      by_cases e : k = i
      · rw [e, up_e]
      · rw [up_n e]; exact hL k (by omega))
    refine ⟨L0, ?_, h2⟩
    rw [f_X0_weigh_b2, sR_n (by omega), hB.1, if_neg (fun q => by have := (nle (by omega) (by omega)).mp q; omega), mgd_s ((nin (by omega)).mpr (by omega)), ncl (by omega), up_self5, mlt_s, nI_1, mlt_s]
    exact h1
theorem X0_weigh {b : Nat} {M : mM} {A : Bd} (hw : wf A) (hB : repB b M A) : ∃ L, f_X0_weigh b M = some (sR M (b + 5) L) ∧ alk (bN A) (wgL A 7 (fun _ => 0)) L := by
  have hn := hw.1
  obtain ⟨j, hj⟩ := mN_ge (k := bN A + 1) (by omega)
  have hj : mN = j + bN A + 1 := by omega
  obtain ⟨L0, h1, h2⟩ := X0_weigh_z (j := j) hw hB (bN A) 0 (M.1 (b + 5)) (Nat.zero_add _) (fun k hk => absurd hk (Nat.not_lt_zero k))
  refine ⟨wgL A 7 L0, ?_, wgL_alk hw 7 _ _ (by decide) h2⟩
  unfold f_X0_weigh
  rw [hj]
  rw [sR_self] at h1
  exact h1
/-! the reference -/
theorem nb_x : ∀ p, p < 120 → inG p → (cx (p - 12) = cx p ∧ cy (p - 12) = cy p - 1) := by
  have h1 : ∀ p, p < 120 → inG p → cx (p - 12) = cx p := by decide +kernel
  have h2 : ∀ p, p < 120 → inG p → cy (p - 12) = cy p - 1 := by decide +kernel
  exact fun p hp hg => ⟨h1 p hp hg, h2 p hp hg⟩
theorem nb_w : ∀ p, p < 120 → inG p → (cx (p - 1) = cx p - 1 ∧ cy (p - 1) = cy p) := by
  have h1 : ∀ p, p < 120 → inG p → cx (p - 1) = cx p - 1 := by decide +kernel
  have h2 : ∀ p, p < 120 → inG p → cy (p - 1) = cy p := by decide +kernel
  exact fun p hp hg => ⟨h1 p hp hg, h2 p hp hg⟩
theorem nb_e : ∀ p, p < 120 → inG p → (cx (p + 1) = cx p + 1 ∧ cy (p + 1) = cy p) := by
  have h1 : ∀ p, p < 120 → inG p → cx (p + 1) = cx p + 1 := by decide +kernel
  have h2 : ∀ p, p < 120 → inG p → cy (p + 1) = cy p := by decide +kernel
  exact fun p hp hg => ⟨h1 p hp hg, h2 p hp hg⟩
theorem cy_le : ∀ p, p < 120 → inG p → ((cy p ≤ 0) ↔ p < 24) := by decide +kernel
theorem cy_eq : ∀ p, p < 120 → inG p → ((cy p = 0) ↔ p < 24) := by decide +kernel
theorem gI_gr : ∀ p, p < 12 → ¬ gI p = -1 := by decide +kernel
theorem md_lt {v : Int32} : (md v < 0) ↔ v < 0 := by
  by_cases h : v < 0
  · rw [md, if_pos h]; exact ⟨fun _ => h, fun _ => by decide⟩
  · rw [md, if_neg h]
theorem X10_hangs {c : Nat} {M : mM} {A : Bd} (hw : wf A) (hr : repR 97 M A) (hg : repG M A) (hc : c < bN A) : f_X10_hangs (nI c) M = some (tf (bG A (bP A c - 12) = -1)) := by
  have hn := hw.1
  have hp := (hw.2.1 c hc).1
  have p1 := hp.1
  have p2 := hp.2.1
  unfold f_X10_hangs
  simp only [ladd, ncl (show 42 + c < 2147483648 by omega), ncl (show 26 + c < 2147483648 by omega)]
  rw [mgd_s ((nin (by omega)).mpr (by omega)), hr.2.2.2.1 c hc]
  by_cases h : bP A c < 24
  · rw [if_pos ((cy_le _ (by omega) hp).mpr h), tf_n]
    rw [hw.2.2.2.1 (bP A c - 12) (by omega) (fun q => by have := q.1; omega)]
    exact gI_gr _ (by omega)
  · obtain ⟨e1, e2⟩ := nb_x _ (by omega) hp
    rw [if_neg (fun q => h ((cy_le _ (by omega) hp).mp q)), mgd_s ((nin (by omega)).mpr (by omega)), mgd_s ((nin (by omega)).mpr (by omega)), hr.2.2.1 c hc, ← e1, ← e2, X10_cubeAt hw hg (by omega), mbp_s]
    have hi : inG (bP A c - 12) := ⟨by omega, by omega, by have := hp.2.2.1; omega, by have := hp.2.2.2; omega⟩
    rcases wf_g hw (p := bP A c - 12) (by omega) with ⟨q, -⟩ | ⟨d, q1, q2, -⟩ | ⟨-, q⟩
    · rw [q, tf_y rfl, if_neg (by decide)]
    · rw [md_y (by rw [q2]; exact nle0 (by omega)), if_pos (by rw [q2]; exact nle0 (by omega)), tf_n (by rw [q2]; exact nneg (a := d) (m := 1) (by omega) (by decide) (by decide))]
    · exact absurd hi q
theorem X10_givesOn {c : Nat} {M : mM} {A : Bd} {L : Nat → Int32} (hw : wf A) (hr : repR 97 M A) (hg : repG M A) (hc : c < bN A) : f_X10_givesOn (nI c) (sR M 100 L) = some (sR M 100 (if bP A c < 24 then L else gv A c L)) := by
  have hn := hw.1
  have hp := (hw.2.1 c hc).1
  have p1 := hp.1
  have p2 := hp.2.1
  have hr' := repR_s (q := 100) (L := L) (by omega) hr
  have hg' := repG_s (q := 100) (L := L) (by omega) hg
  unfold f_X10_givesOn
  simp only [ladd, ncl (show 42 + c < 2147483648 by omega), ncl (show 26 + c < 2147483648 by omega), ncl (show 10 + c < 2147483648 by omega), ncl (show c < 2147483648 by omega), mlt_s]
  rw [mgd_s ((nin (by omega)).mpr (by omega)), mgd_s ((nin (by omega)).mpr (by omega)), mgd_s ((nin (by omega)).mpr (by omega)), mgd_s ((nin (by omega)).mpr (by omega)), hr'.2.1 c hc, hr'.2.2.1 c hc, hr'.2.2.2.1 c hc, sR_e]
  by_cases h : bP A c < 24
  · rw [if_pos ((cy_eq _ (by omega) hp).mpr h), if_pos h]
  · obtain ⟨e1, e2⟩ := nb_x _ (by omega) hp
    obtain ⟨w1, w2⟩ := nb_w _ (by omega) hp
    obtain ⟨t1, t2⟩ := nb_e _ (by omega) hp
    have f1 := X10_cubeAt hw hg' (show bP A c - 12 < 120 by omega)
    have f2 := X10_cubeAt hw hg' (show bP A c - 1 < 120 by omega)
    have f3 := X10_cubeAt hw hg' (show bP A c + 1 < 120 by omega)
    rw [e1, e2] at f1
    rw [w1, w2] at f2
    rw [t1, t2] at f3
    rw [if_neg (fun q => h ((cy_eq _ (by omega) hp).mp q)), if_neg h, f1, mbp_s, f2, mbp_s, f3, mbp_s]
    unfold gv f_X10_givesOn_b141
    have b100 : ∀ (K : Nat → Int32) (i : Nat) (v : Int32), mI (sR M 100 K) 100 i v = sR M 100 (up K i v) := fun K i v => mI_R
    by_cases h1 : 0 ≤ bG A (bP A c - 12)
    · obtain ⟨a1, a2, -⟩ := g_c hw (by omega) h1
      rw [md_y h1, if_neg (show ¬ bG A (bP A c - 12) < 0 by grind), if_pos h1, mgd_s (by rw [a2]; exact (nin (by omega)).mpr (by omega)), mgd_s (by rw [a2]; exact (nin (by omega)).mpr (by omega)), b100]
    · rw [md_n h1, if_pos (by decide), if_neg h1]
      by_cases h3 : 0 ≤ bG A (bP A c - 1)
      · obtain ⟨c1, c2, -⟩ := g_c hw (by omega) h3
        have n3 : ¬ bG A (bP A c - 1) < 0 := by grind
        rw [md_y h3, if_neg n3]
        by_cases h2 : 0 ≤ bG A (bP A c + 1)
        · obtain ⟨b1, b2, -⟩ := g_c hw (by omega) h2
          have n2 : ¬ bG A (bP A c + 1) < 0 := by grind
          rw [md_y h2, if_neg n2, mgd_s (by rw [b2]; exact (nin (by omega)).mpr (by omega)), mgd_s (by rw [b2]; exact (nin (by omega)).mpr (by omega)), b100, mgd_s (by rw [c2]; exact (nin (by omega)).mpr (by omega)), mgd_s (by rw [c2]; exact (nin (by omega)).mpr (by omega)), sR_e, b100, if_pos h2, if_pos h3]
        · rw [md_n h2, if_pos (by decide), if_neg n3, mgd_s (by rw [c2]; exact (nin (by omega)).mpr (by omega)), mgd_s (by rw [c2]; exact (nin (by omega)).mpr (by omega)), sR_e, b100, mlt_s, if_neg h2, if_pos h3]
      · rw [md_n h3, if_pos (show (-1 : Int32) < 0 by decide), if_pos (show (-1 : Int32) < 0 by decide)]
        by_cases h2 : 0 ≤ bG A (bP A c + 1)
        · obtain ⟨b1, b2, -⟩ := g_c hw (by omega) h2
          have n2 : ¬ bG A (bP A c + 1) < 0 := by grind
          rw [md_y h2, if_neg n2, mgd_s (by rw [b2]; exact (nin (by omega)).mpr (by omega)), mgd_s (by rw [b2]; exact (nin (by omega)).mpr (by omega)), sR_e, b100, mlt_s, if_pos h2, if_neg h3]
        · rw [md_n h2, if_pos (by decide), if_neg h2, if_neg h3]
theorem X10_f30_st {k24 : Int32 → mM → Option mM} {y x n k : Nat} {hang : Int32} {M : mM} {A : Bd} {L : Nat → Int32} (hw : wf A) (hr : repR 97 M A) (hg : repG M A) (hy : y < 8) (hx : x < 10) (hk : k < 20) (hkx : k - k / 10 * 10 = x) (hh : hang = if k < 10 then 1 else 0) : f_X10_findLoads_b30 k24 (n + 1) (nI y) (nI k) (sR M 100 L) = f_X10_findLoads_b30 k24 n (nI y) (nI (k + 1)) (sR M 100 (if y = 0 then L else gvS A hang (12 * (y + 1) + x + 1) L)) := by
  have hn := hw.1
  have hp := cellI (x := x) (y := y) hx hy
  have hr' := repR_s (q := 100) (L := L) (by omega) hr
  have hg' := repG_s (q := 100) (L := L) (by omega) hg
  rw [f_X10_findLoads_b30, if_neg (fun q => by have : 20 ≤ _ := (lle (m := 20) (by decide) (by omega)).mp q; omega), divL (by omega) (by decide), mulL, nsub (by omega), hkx, X10_cubeAtN hw hg' hx hy, mbp_s, nI_1]
  unfold gvS
  by_cases h1 : bG A (12 * (y + 1) + x + 1) < 0
  · rw [if_pos h1, if_pos (md_lt.mpr h1), mlt_s, ite_self]
  · obtain ⟨a1, a2, a3, -⟩ := g_c hw (q := 12 * (y + 1) + x + 1) (by omega) (by grind)
    have b66 : f_X10_findLoads_b66 (f_X10_findLoads_b30 k24 n) (nI y) (nI k) (nI (ix A (12 * (y + 1) + x + 1))) (tf (bG A (12 * (y + 1) + x + 1 - 12) = -1)) hang (sR M 100 L) = f_X10_findLoads_b30 k24 n (nI y) (nI (k + 1)) (sR M 100 (if y = 0 then L else if tf (bG A (12 * (y + 1) + x + 1 - 12) = -1) = hang then gv A (ix A (12 * (y + 1) + x + 1)) L else L)) := by
      unfold f_X10_findLoads_b66
      by_cases h2 : tf (bG A (12 * (y + 1) + x + 1 - 12) = -1) = hang
      · rw [if_pos h2, if_pos h2, X10_givesOn hw hr hg a1, mbp_s, mlt_s, nI_1, a3]
        by_cases h3 : y = 0
        · rw [if_pos h3, if_pos (by omega)]
        · rw [if_neg h3, if_neg (by omega)]
      · rw [if_neg h2, if_neg h2, mlt_s, nI_1, ite_self]
    rw [if_neg h1, if_neg (fun q => h1 (md_lt.mp q)), md_y (by grind), a2, X10_hangs hw hr' hg' a1, mbp_s, a3]
    rw [← a2]
    rw [a2]
    by_cases h10 : k < 10
    · rw [if_pos h10] at hh
      subst hh
      rw [if_neg (fun q => by have : 10 ≤ _ := (lle (m := 10) (by decide) (by omega)).mp q; omega)]
      exact b66
    · rw [if_neg h10] at hh
      subst hh
      rw [if_pos ((lle (m := 10) (by decide) (by omega)).mpr (show 10 ≤ _ by omega))]
      exact b66
theorem X10_f30_2 {k24 : Int32 → mM → Option mM} {y j : Nat} {M : mM} {A : Bd} (hw : wf A) (hr : repR 97 M A) (hg : repG M A) (hy : y < 8) (d : Nat) : ∀ x L, x + d = 10 → f_X10_findLoads_b30 k24 (j + d + 1) (nI y) (nI (10 + x)) (sR M 100 L) = k24 (nI y + -1) (sR M 100 (if y = 0 then L else lpL A y 0 d x L)) := by
  induction d with
  | zero =>
    intro x L hx
    rw [f_X10_findLoads_b30, if_pos ((lle (m := 20) (by decide) (by omega)).mpr (show 20 ≤ _ by omega)), mlt_s, lpL, ite_self]
  | succ d ih =>
    intro x L hx
    have e := X10_f30_st (k24 := k24) (n := j + d + 1) (k := 10 + x) (x := x) (hang := 0) (L := L) hw hr hg hy (by omega) (by omega) (by omega) (by rw [if_neg (by omega)])
    refine Eq.trans e ?_
    have ih' := ih (x + 1) (if y = 0 then L else gvS A 0 (12 * (y + 1) + x + 1) L) (by omega)
    refine Eq.trans ih' ?_
    by_cases h : y = 0
    · rw [if_pos h, if_pos h, if_pos h]
    · rw [if_neg h, if_neg h, if_neg h]; rfl
theorem X10_f30_1 {k24 : Int32 → mM → Option mM} {y j : Nat} {M : mM} {A : Bd} (hw : wf A) (hr : repR 97 M A) (hg : repG M A) (hy : y < 8) (d : Nat) : ∀ x L, x + d = 10 → f_X10_findLoads_b30 k24 (j + 10 + d + 1) (nI y) (nI x) (sR M 100 L) = k24 (nI y + -1) (sR M 100 (if y = 0 then L else lpL A y 0 10 0 (lpL A y 1 d x L))) := by
  induction d with
  | zero =>
    intro x L hx
    have h10 : x = 10 + 0 := by omega
    rw [h10, lpL]
    exact X10_f30_2 hw hr hg hy 10 0 L rfl
  | succ d ih =>
    intro x L hx
    have e := X10_f30_st (k24 := k24) (n := j + 10 + d + 1) (k := x) (x := x) (hang := 1) (L := L) hw hr hg hy (by omega) (by omega) (by omega) (by rw [if_pos (by omega)])
    refine Eq.trans e ?_
    have ih' := ih (x + 1) (if y = 0 then L else gvS A 1 (12 * (y + 1) + x + 1) L) (by omega)
    refine Eq.trans ih' ?_
    by_cases h : y = 0
    · rw [if_pos h, if_pos h, if_pos h]
    · rw [if_neg h, if_neg h, if_neg h]; rfl
theorem X10_f24 {j : Nat} {M : mM} {A : Bd} (hw : wf A) (hr : repR 97 M A) (hg : repG M A) : ∀ y L, y < 8 → f_X10_findLoads_b24 (j + y + 2) (nI y) (sR M 100 L) = some (sR M 100 (wgL A y L)) := by
  obtain ⟨m, hm⟩ := mN_ge (k := 21) (by omega)
  have hm : mN = m + 10 + 10 + 1 := by omega
  intro y
  induction y with
  | zero =>
    intro L _
    rw [f_X10_findLoads_b24, if_neg (show ¬ nI 0 < 0 by decide), hm]
    refine Eq.trans (X10_f30_1 hw hr hg (by decide) 10 0 L rfl) ?_
    rw [if_pos rfl]
    show f_X10_findLoads_b24 (j + 0 + 1) _ _ = _
    rw [f_X10_findLoads_b24, if_pos (by decide)]
    rfl
  | succ y ih =>
    intro L hy
    show f_X10_findLoads_b24 (j + y + 2 + 1) _ _ = _
    rw [f_X10_findLoads_b24, if_neg (nlt0 (by omega)), hm]
    refine Eq.trans (X10_f30_1 hw hr hg hy 10 0 L rfl) ?_
    rw [if_neg (by omega), show nI (y + 1) + -1 = nI y by rw [← nI_1]; grind]
    exact ih _ (by omega)
theorem X10_f2 {j : Nat} {M : mM} {A : Bd} (hw : wf A) (hr : repR 97 M A) (hg : repG M A) (d : Nat) : ∀ i L, i + d = 16 → (∀ k, k < i → L k = 0) → ∃ L0, f_X10_findLoads_b2 (j + d + 1) (nI i) (sR M 100 L) = some (sR M 100 (wgL A 7 L0)) ∧ alk (bN A) (fun _ => 0) L0 := by
  have hn := hw.1
  induction d with
  | zero =>
    intro i L hi hL
    obtain ⟨m, hm⟩ := mN_ge (k := 9) (by omega)
    have hm : mN = m + 7 + 2 := by omega
    refine ⟨L, ?_, fun c hc => hL c (by omega)⟩
    rw [f_X10_findLoads_b2, if_pos ((lle (m := 16) (by decide) (by omega)).mpr (show 16 ≤ _ by omega)), hm]
    exact X10_f24 hw hr hg 7 L (by decide)
  | succ d ih =>
    intro i L hi hL
    obtain ⟨L0, h1, h2⟩ := ih (i + 1) (up L i 0) (by omega) (fun k hk => by
      by_cases e : k = i
      · rw [e, up_e]
      · rw [up_n e]; exact hL k (by omega))
    refine ⟨L0, ?_, h2⟩
    rw [f_X10_findLoads_b2, if_neg (fun q => by have : 16 ≤ _ := (lle (m := 16) (by decide) (by omega)).mp q; omega), mgd_s ((nin (by omega)).mpr (by omega)), ncl (by omega), mI_R, mlt_s, nI_1, mlt_s]
    exact h1
theorem X10_findLoads {M : mM} {A : Bd} (hw : wf A) (hr : repR 97 M A) (hg : repG M A) : ∃ L, f_X10_findLoads M = some (sR M 100 L) ∧ alk (bN A) (wgL A 7 (fun _ => 0)) L := by
  obtain ⟨j, hj⟩ := mN_ge (k := 17) (by omega)
  have hj : mN = j + 16 + 1 := by omega
  obtain ⟨L0, h1, h2⟩ := X10_f2 (j := j) hw hr hg 16 0 (M.1 100) rfl (fun k hk => absurd hk (Nat.not_lt_zero k))
  refine ⟨wgL A 7 L0, ?_, wgL_alk hw 7 _ _ (by decide) h2⟩
  unfold f_X10_findLoads
  rw [hj]
  rw [sR_self] at h1
  exact h1
/-! broken, about -/
/-- whether a CUBE is BROKEN -/
abbrev brk (A : Bd) (c : Nat) : Prop := f_X10_bearsOf (bK A c) < wgL A 7 (fun _ => 0) c
theorem X10_isBroken {c : Nat} {M : mM} {A : Bd} {L : Nat → Int32} (hn : bN A ≤ 16) (hr : repR 97 M A) (hc : c < bN A) (hL : alk (bN A) (wgL A 7 (fun _ => 0)) L) : f_X10_isBroken (nI c) (sR M 100 L) = some (tf (brk A c)) := by
  have hr' := repR_s (q := 100) (L := L) (by omega) hr
  unfold f_X10_isBroken
  simp only [ladd, ncl (show 10 + c < 2147483648 by omega), ncl (show c < 2147483648 by omega)]
  rw [mgd_s ((nin (by omega)).mpr (by omega)), mgd_s ((nin (by omega)).mpr (by omega)), hr'.2.1 c hc, sR_e, hL c hc]
  by_cases h : brk A c
  · rw [tf_y h, if_neg (by unfold brk at h; grind)]
  · rw [tf_n h, if_pos (by unfold brk at h; grind)]
theorem brk_lp {j : Nat} {M : mM} {A : Bd} {L L' : Nat → Int32} (hw : wf A) (hB : repB 2 M A) (hr : repR 97 M A) (hL : alk (bN A) (wgL A 7 (fun _ => 0)) L) (hL' : alk (bN A) (wgL A 7 (fun _ => 0)) L') (d : Nat) : ∀ i v, i + d = bN A → ∃ r, f_X9_broken_b14 (j + d + 1) v (nI i) (sR M 7 L) = some (r, sR M 7 L) ∧ ∀ M', repR 97 M' A → f_X10_broken_b8 (j + d + 1) v (nI i) (sR M' 100 L') = some (r, sR M' 100 L') := by
  have hn := hw.1
  have hB5 : repB 2 (sR M 7 L) A := repB_s5 (b := 2) hB
  induction d with
  | zero =>
    intro i v hi
    refine ⟨v, ?_, fun M' hr' => ?_⟩
    · rw [f_X9_broken_b14, hB5.1, if_pos ((nle (by omega) (by omega)).mpr (by omega))]
    · rw [f_X10_broken_b8, sR_n (by omega), hr'.1, if_pos ((nle (by omega) (by omega)).mpr (by omega))]
  | succ d ih =>
    intro i v hi
    obtain ⟨r, r1, r2⟩ := ih (i + 1) (v + tf (brk A i)) (by omega)
    obtain ⟨k1, -, -, k4⟩ := k_cost (hw.2.2.2.2.1 i (by omega))
    refine ⟨r, ?_, fun M' hr' => ?_⟩
    · have e3 : (sR M 7 L).1 3 i = bK A i := hB5.2.1 i (by omega)
      unfold f_X9_broken_b65 at *
      rw [f_X9_broken_b14, hB5.1, if_neg (fun q => by have := (nle (by omega) (by omega)).mp q; omega)]
      unfold f_X9_broken_b65
      simp only [ncl (show i < 2147483648 by omega)]
      rw [mgd_s ((nin (by omega)).mpr (by omega)), mgd_s ((nin (by omega)).mpr (by omega)), e3, mgd_s k1, k4, sR_e, hL i (by omega)]
      by_cases h : brk A i
      · rw [tf_y h] at r1
        rw [if_neg (by unfold brk at h; grind), mlt_s, mlt_s, nI_1]
        exact r1
      · rw [tf_n h] at r1
        rw [if_pos (by unfold brk at h; grind), mlt_s, mlt_s, nI_1]
        exact r1
    · have r2 := r2 M' hr'
      rw [f_X10_broken_b8, sR_n (by omega), hr'.1, if_neg (fun q => by have := (nle (by omega) (by omega)).mp q; omega), X10_isBroken hn hr' (by omega) hL', mbp_s]
      by_cases h : brk A i
      · rw [tf_y h] at r2 ⊢
        rw [if_neg (by decide), mlt_s, nI_1]
        exact r2
      · rw [tf_n h] at r2 ⊢
        rw [if_pos rfl, mlt_s, nI_1]
        exact r2
theorem op_broken {M : mM} (hI : Inv M) : ∃ M', f_law_c8 M = some M' ∧ Inv M' := by
  obtain ⟨⟨K, hA, hG⟩, -⟩ := id hI
  obtain ⟨hw, hB, hR, h01⟩ := id hA.1
  have hB : repB 2 M K.1 := hB
  have hn := hw.1
  obtain ⟨L, l1, l2⟩ := X0_weigh hw hB
  have l1 : f_X0_weigh 2 M = some (sR M 7 L) := l1
  have hR' := repR_s (q := 7) (L := L) (by omega) hR
  have hG' := repG_s (q := 7) (L := L) (by omega) hG
  obtain ⟨L', q1, q2⟩ := X10_findLoads hw hR' hG'
  obtain ⟨j, hj⟩ := mN_ge (k := bN K.1 + 1) (by omega)
  have hj : mN = j + bN K.1 + 1 := by omega
  obtain ⟨r, r1, r2⟩ := brk_lp (j := j) hw hB hR l2 q2 (bN K.1) 0 0 (Nat.zero_add _)
  have r2 := r2 _ hR'
  rw [← hj] at r1 r2
  have r1 : f_X9_broken_b14 mN 0 0 (sR M 7 L) = _ := r1
  have r2 : f_X10_broken_b8 mN 0 0 (sR (sR M 7 L) 100 L') = _ := r2
  refine ⟨_, ?_, Inv_eqK (eqK_tr (eqK_s (k := 7) (L := L) (by omega)) (eqK_s (k := 100) (L := L') (by omega))) hI⟩
  unfold f_law_c8 f_X9_broken f_X10_broken
  rw [l1, mbp_s, r1, mbw_s, q1, mbp_s, r2, mbw_s, if_pos rfl]
theorem op_about {M : mM} {a1 a2 : Int32} (hI : Inv M) : ∃ M', f_law_c1 a1 a2 M = some M' ∧ Inv M' := by
  obtain ⟨⟨K, hA, hG⟩, -⟩ := id hI
  obtain ⟨hC, hT, hV, hH, hP, hS, hN, hL, hO, hW⟩ := id hA
  obtain ⟨hw, hB, hR, h01⟩ := id hC
  have hB : repB 2 M K.1 := hB
  have hn := hw.1
  by_cases h : isC K.1 a1
  · obtain ⟨c, hc, rfl⟩ := isC_ex hn h
    have hp := (hw.2.1 c hc).1
    have p2 := hp.2.1
    obtain ⟨co1, co2⟩ := col_of (show bP K.1 c < 120 by omega)
    obtain ⟨L, l1, l2⟩ := X0_weigh hw hB
    have l1 : f_X0_weigh 2 M = some (sR M 7 L) := l1
    obtain ⟨k1, -, -, k4⟩ := k_cost (hw.2.2.2.2.1 c hc)
    -- the answer, and what the memory is behind the class
    obtain ⟨v, M1, e1, m1, hv⟩ : ∃ v M1, f_X9_about (nI c) a2 M = some (v, M1) ∧ (M1 = M ∨ M1 = sR M 7 L) ∧ v = (if a2 = 0 then bK K.1 c else if a2 = 1 then cx (bP K.1 c) else if a2 = 2 then cy (bP K.1 c) else if a2 = 3 then bW K.1 c else if a2 = 4 then bD K.1 c else if a2 = 5 then wgL K.1 7 (fun _ => 0) c else if a2 = 6 then tf (brk K.1 c) else if a2 = 7 then M.1 97 (90 + c) else if a2 = 8 then M.1 97 (106 + c) else if a2 = 9 then M.1 97 (122 + c) else if a2 = 10 then tf (bG K.1 (bP K.1 c - 12) = -1) else -1) := by
      unfold f_X9_about f_X0_loadOf
      rw [X0_has_c hB, tf_y h, if_neg (show ¬ (1 : Int32) = 0 by decide)]
      simp only [ncl (show c < 2147483648 by omega)]
      rw [l1]
      have g : mIn (nI c) 16 := (nin (by omega)).mpr (by omega)
      by_cases q0 : a2 = 0
      · rw [if_pos q0, if_pos q0, mgd_s g]
        exact ⟨_, _, rfl, Or.inl rfl, hB.2.1 c hc⟩
      rw [if_neg q0, if_neg q0]
      by_cases q1 : a2 = 1
      · rw [if_pos q1, if_pos q1, mgd_s g]
        exact ⟨_, _, rfl, Or.inl rfl, by rw [show M.1 4 c = nI (bP K.1 c) from hB.2.2.1 c hc]; exact co1⟩
      rw [if_neg q1, if_neg q1]
      by_cases q2 : a2 = 2
      · rw [if_pos q2, if_pos q2, mgd_s g]
        exact ⟨_, _, rfl, Or.inl rfl, by rw [show M.1 4 c = nI (bP K.1 c) from hB.2.2.1 c hc]; exact co2⟩
      rw [if_neg q2, if_neg q2]
      by_cases q3 : a2 = 3
      · rw [if_pos q3, if_pos q3, mgd_s g]
        exact ⟨_, _, rfl, Or.inl rfl, hB.2.2.2.1 c hc⟩
      rw [if_neg q3, if_neg q3]
      by_cases q4 : a2 = 4
      · rw [if_pos q4, if_pos q4, mgd_s g]
        exact ⟨_, _, rfl, Or.inl rfl, by rw [show M.1 6 c = bD K.1 c from hB.2.2.2.2.1 c hc]; exact oneIf_01 (hw.2.2.2.2.2 c hc)⟩
      rw [if_neg q4, if_neg q4]
      by_cases q5 : a2 = 5
      · rw [if_pos q5, if_pos q5, mbp_s, mgd_s g, mbw_s]
        exact ⟨_, _, rfl, Or.inr rfl, by show (sR M 7 L).1 7 c = _; rw [sR_e]; exact l2 c hc⟩
      rw [if_neg q5, if_neg q5]
      by_cases q6 : a2 = 6
      · rw [if_pos q6, if_pos q6, mbp_s, mgd_s g, mbw_s, mgd_s g, show (sR M 7 L).1 3 c = bK K.1 c by rw [sR_n (by omega)]; exact hB.2.1 c hc, mgd_s k1, k4]
        unfold f_X9_about_b197
        rw [show (sR M 7 L).1 (2 + 5) c = wgL K.1 7 (fun _ => 0) c by show (sR M 7 L).1 7 c = _; rw [sR_e]; exact l2 c hc]
        by_cases hb : brk K.1 c
        · rw [if_neg (by unfold brk at hb; grind), tf_y hb]
          exact ⟨_, _, rfl, Or.inr rfl, rfl⟩
        · rw [if_pos (by unfold brk at hb; grind), tf_n hb]
          exact ⟨_, _, rfl, Or.inr rfl, rfl⟩
      rw [if_neg q6, if_neg q6]
      by_cases q7 : a2 = 7
      · rw [if_pos q7, if_pos q7, mgd_s g]
        exact ⟨_, _, rfl, Or.inl rfl, (hV c hc).1⟩
      rw [if_neg q7, if_neg q7]
      by_cases q8 : a2 = 8
      · rw [if_pos q8, if_pos q8, mgd_s g]
        exact ⟨_, _, rfl, Or.inl rfl, (hV c hc).2.2⟩
      rw [if_neg q8, if_neg q8]
      by_cases q9 : a2 = 9
      · rw [if_pos q9, if_pos q9, mgd_s g]
        rcases hH c hc with ⟨x1, x2⟩ | ⟨j, x0, x1, x2⟩
        · rw [show M.1 13 c = -1 from x1, x2, if_neg (by decide)]
          exact ⟨_, _, rfl, Or.inl rfl, rfl⟩
        · have hp8 := hP.1
          rw [show M.1 13 c = nI j from x1, x2, if_pos (nle0 (by omega)), mgd_s g]
          exact ⟨_, _, rfl, Or.inl rfl, rfl⟩
      rw [if_neg q9, if_neg q9]
      by_cases q10 : a2 = 10
      · rw [if_pos q10, if_pos q10, mgd_s g, show M.1 4 c = nI (bP K.1 c) from hB.2.2.1 c hc, X0_hangs hB hp, mbp_s, oneIf_tf]
        exact ⟨_, _, rfl, Or.inl rfl, rfl⟩
      rw [if_neg q10, if_neg q10]
      exact ⟨_, _, rfl, Or.inl rfl, rfl⟩
    have k : eqK M M1 := by
      rcases m1 with rfl | rfl
      · exact eqK_rf
      · exact eqK_s (by omega)
    have hA1 := wA_eqK k hA
    have hR1 := hA1.1.2.2.1
    have hG1 : repG M1 K.1 := repG_fr (k.1 99 (by omega)) hG
    obtain ⟨L', x1, x2⟩ := X10_findLoads hw hR1 hG1
    have hR2 := repR_s (q := 100) (L := L') (by omega) hR1
    have hG2 := repG_s (q := 100) (L := L') (by omega) hG1
    have r97 : ∀ i, (sR M1 100 L').1 97 i = M.1 97 i := fun i => by rw [sR_n (by omega)]; exact congrFun (k.1 97 (by omega)) i
    have e2 : f_X10_about (nI c) a2 M1 = some (v, sR M1 100 L') := by
      rw [hv]
      unfold f_X10_about
      rw [X10_isCube_c hn hR1, mbp_s, tf_y h, if_neg (show ¬ (1 : Int32) = 0 by decide), x1, mbp_s]
      simp only [ladd, ncl (show c < 2147483648 by omega), ncl (show 10 + c < 2147483648 by omega), ncl (show 26 + c < 2147483648 by omega), ncl (show 42 + c < 2147483648 by omega), ncl (show 58 + c < 2147483648 by omega), ncl (show 74 + c < 2147483648 by omega), ncl (show 90 + c < 2147483648 by omega), ncl (show 106 + c < 2147483648 by omega), ncl (show 122 + c < 2147483648 by omega)]
      have g : ∀ k, k < 1000 → mIn (nI (k + c)) 1834 := fun k hk => (nin (by omega)).mpr (by omega)
      by_cases q0 : a2 = 0
      · rw [if_pos q0, if_pos q0, mgd_s (g 10 (by decide)), hR2.2.1 c hc]
      rw [if_neg q0, if_neg q0]
      by_cases q1 : a2 = 1
      · rw [if_pos q1, if_pos q1, mgd_s (g 26 (by decide)), hR2.2.2.1 c hc]
      rw [if_neg q1, if_neg q1]
      by_cases q2 : a2 = 2
      · rw [if_pos q2, if_pos q2, mgd_s (g 42 (by decide)), hR2.2.2.2.1 c hc]
      rw [if_neg q2, if_neg q2]
      by_cases q3 : a2 = 3
      · rw [if_pos q3, if_pos q3, mgd_s (g 58 (by decide)), hR2.2.2.2.2.1 c hc]
      rw [if_neg q3, if_neg q3]
      by_cases q4 : a2 = 4
      · rw [if_pos q4, if_pos q4, mgd_s (g 74 (by decide)), hR2.2.2.2.2.2 c hc]
      rw [if_neg q4, if_neg q4]
      by_cases q5 : a2 = 5
      · rw [if_pos q5, if_pos q5, mgd_s ((nin (by omega)).mpr (by omega)), sR_e, x2 c hc]
      rw [if_neg q5, if_neg q5]
      by_cases q6 : a2 = 6
      · rw [if_pos q6, if_pos q6, X10_isBroken hn hR1 hc x2, mbp_s]
        by_cases hb : brk K.1 c
        · rw [tf_y hb, if_neg (by decide)]
        · rw [tf_n hb, if_pos rfl]
      rw [if_neg q6, if_neg q6]
      by_cases q7 : a2 = 7
      · rw [if_pos q7, if_pos q7, mgd_s (g 90 (by decide)), r97]
      rw [if_neg q7, if_neg q7]
      by_cases q8 : a2 = 8
      · rw [if_pos q8, if_pos q8, mgd_s (g 106 (by decide)), r97]
      rw [if_neg q8, if_neg q8]
      by_cases q9 : a2 = 9
      · rw [if_pos q9, if_pos q9, mgd_s (g 122 (by decide)), r97]
      rw [if_neg q9, if_neg q9]
      by_cases q10 : a2 = 10
      · rw [if_pos q10, if_pos q10, X10_hangs hw hR2 hG2 hc, mbp_s]
        by_cases hb : bG K.1 (bP K.1 c - 12) = -1
        · rw [tf_y hb, if_neg (by decide)]
        · rw [tf_n hb, if_pos rfl]
      rw [if_neg q10, if_neg q10]
    unfold f_law_c1
    rw [e1, mbw_s, e2, mbw_s, if_pos rfl]
    exact ⟨_, rfl, Inv_eqK (eqK_tr k (eqK_s (k := 100) (L := L') (by omega))) hI⟩
  · refine ⟨M, ?_, hI⟩
    unfold f_law_c1 f_X9_about f_X10_about
    rw [X0_has_c hB, tf_n h, if_pos (show (0 : Int32) = 0 from rfl), mbw_s, X10_isCube_c hn hR, mbp_s, tf_n h, if_pos (show (0 : Int32) = 0 from rfl), mbw_s, if_pos rfl]
