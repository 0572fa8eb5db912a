/-! the reference asks whether a set of CUBES is WHOLE -/
theorem bes_at {p : Nat} (hp : inG p) : (cx p + 1 = cx (stp p 0) ∧ cy p = cy (stp p 0)) ∧ (cx p = cx (stp p 1) ∧ cy p + 1 = cy (stp p 1)) ∧ (cx p - 1 = cx (stp p 2) ∧ cy p = cy (stp p 2)) ∧ (cx p = cx (stp p 3) ∧ cy p - 1 = cy (stp p 3)) := by
  have hl : p < 120 := by have := hp.2.1; omega
  have g1 : ∀ p, p < 120 → inG p → cx p + 1 = cx (stp p 0) ∧ cy p = cy (stp p 0) := by decide +kernel
  have g2 : ∀ p, p < 120 → inG p → cx p = cx (stp p 1) ∧ cy p + 1 = cy (stp p 1) := by decide +kernel
  have g3 : ∀ p, p < 120 → inG p → cx p - 1 = cx (stp p 2) ∧ cy p = cy (stp p 2) := by decide +kernel
  have g4 : ∀ p, p < 120 → inG p → cx p = cx (stp p 3) ∧ cy p - 1 = cy (stp p 3) := by decide +kernel
  exact ⟨g1 p hl hp, g2 p hl hp, g3 p hl hp, g4 p hl hp⟩
theorem X10_bitAt {q : Nat} {M : mM} {A : Bd} (hw : wf A) (hg : repG M A) (hq : q < 120) : ∃ V, f_X10_bitAt (cx q) (cy q) M = some (nI V) ∧ V < 65536 ∧ ∀ d, V.testBit d = true ↔ d < bN A ∧ bP A d = q := by
  have hn := hw.1
  have h0 : ∀ d, Nat.testBit 0 d = true ↔ False := fun d => by rw [Nat.zero_testBit]; simp
  unfold f_X10_bitAt
  rw [X10_cubeAt hw hg hq, mbp_s, mbp_s]
  rcases wf_g hw hq with ⟨e, -⟩ | ⟨c, c1, c2, c3, -⟩ | ⟨e, hne⟩
  · refine ⟨0, by rw [e]; rfl, by decide, fun d => (h0 d).trans ⟨False.elim, fun k => ?_⟩⟩
    have := (hw.2.1 d k.1).2
    rw [k.2, e] at this
    exact nneg (a := d) (m := 1) (by omega) (by decide) (by decide) this.symm
  · refine ⟨2 ^ c, ?_, (show 2 ^ c < 2 ^ 16 from Nat.pow_lt_pow_right (by decide) (by omega)), fun d => ?_⟩
    · rw [c2, md, if_neg (nlt0 (by omega)), if_pos (nle0 (by omega)), nshl c (by omega)]
    · rw [Nat.testBit_two_pow, decide_eq_true_iff]
      constructor
      · intro e
        subst e
        exact ⟨c1, c3⟩
      · intro k
        exact wf_inj hw c1 k.1 (by rw [c3, k.2])
  · have hneg := gI_neg q hq
    refine ⟨0, by rw [e, md, if_pos hneg]; rfl, by decide, fun d => (h0 d).trans ⟨False.elim, fun k => ?_⟩⟩
    exact hne (k.2 ▸ (hw.2.1 d k.1).1)
theorem X10_besides {c : Nat} {M : mM} {A : Bd} (hw : wf A) (hr : repR 97 M A) (hg : repG M A) (hc : c < bN A) : ∃ V, f_X10_besides (nI c) M = some (nI V) ∧ V < 65536 ∧ ∀ d, V.testBit d = true ↔ d < bN A ∧ adj (bP A) c d := by
  have hn := hw.1
  have hp := (hw.2.1 c hc).1
  obtain ⟨⟨a1, a2⟩, ⟨b1, b2⟩, ⟨c1, c2⟩, ⟨d1, d2⟩⟩ := bes_at hp
  obtain ⟨V0, f0, l0, t0⟩ := X10_bitAt hw hg (stp_lt hp (w := 0) (by decide))
  obtain ⟨V1, f1, l1, t1⟩ := X10_bitAt hw hg (stp_lt hp (w := 1) (by decide))
  obtain ⟨V2, f2, l2, t2⟩ := X10_bitAt hw hg (stp_lt hp (w := 2) (by decide))
  obtain ⟨V3, f3, l3, t3⟩ := X10_bitAt hw hg (stp_lt hp (w := 3) (by decide))
  refine ⟨V0 ||| V1 ||| V2 ||| V3, ?_, Nat.or_lt_two_pow (n := 16) (Nat.or_lt_two_pow (n := 16) (Nat.or_lt_two_pow (n := 16) l0 l1) l2) l3, fun d => ?_⟩
  · unfold f_X10_besides
    simp (disch := omega) only [ladd, ncl, nin, mgd]
    rw [hr.2.2.1 c hc, hr.2.2.2.1 c hc]
    rw [← a1, ← a2] at f0
    rw [← b1, ← b2] at f1
    rw [← c1, ← c2] at f2
    rw [← d1, ← d2] at f3
    rw [f0, f1, f2, f3, mbp_s, mbp_s, mbp_s, mbp_s, nor, nor, nor]
    rw [if_pos (by omega), if_pos (by omega), if_pos (by omega), if_pos (by omega), if_pos (by omega), if_pos (by omega), if_pos (by omega), if_pos (by omega)]
  · rw [Nat.testBit_or, Nat.testBit_or, Nat.testBit_or, Bool.or_eq_true, Bool.or_eq_true, Bool.or_eq_true, t0, t1, t2, t3]
    constructor
    · rintro (((h | h) | h) | h)
      · exact ⟨h.1, 0, by decide, h.2.symm⟩
      · exact ⟨h.1, 1, by decide, h.2.symm⟩
      · exact ⟨h.1, 2, by decide, h.2.symm⟩
      · exact ⟨h.1, 3, by decide, h.2.symm⟩
    · rintro ⟨h1, w, h2, h3⟩
      match w, h2 with
      | 0, _ => exact Or.inl (Or.inl (Or.inl ⟨h1, h3.symm⟩))
      | 1, _ => exact Or.inl (Or.inl (Or.inr ⟨h1, h3.symm⟩))
      | 2, _ => exact Or.inl (Or.inr ⟨h1, h3.symm⟩)
      | 3, _ => exact Or.inr ⟨h1, h3.symm⟩
abbrev bs (S : Nat) : Nat → Prop := fun d => S.testBit d = true
abbrev snd (A : Bd) (S a F : Nat) : Prop := F < 65536 ∧ (∀ d, F.testBit d = true → S.testBit d = true ∧ rch (bP A) (bs S) a d) ∧ F.testBit a = true
theorem X10_pass {M : mM} {A : Bd} (hw : wf A) (hr : repR 97 M A) (hg : repG M A) {S a : Nat} (hS : S < 65536) (hSn : ∀ d, S.testBit d = true → d < bN A) {i3 : Int32} (kc : Int32 → Int32 → Int32 → Int32 → mM → Option Int32) :
    ∀ r c fuel, c + r = bN A → r < fuel → ∀ (F : Nat) (i4 : Int32), snd A S a F → ∃ (F' : Nat) (i4' : Int32), f_X10_isWhole_b27 kc fuel (nI S) (nI F) i3 i4 (nI c) M = kc (nI S) (nI F') i3 i4' M ∧ snd A S a F' ∧ ((F' = F ∧ i4' = i4 ∧ ∀ d, c ≤ d → d < bN A → S.testBit d = true → F.testBit d = false → ∀ e, F.testBit e = true → ¬ adj (bP A) d e) ∨ (F < F' ∧ i4' = 1)) := by
  have hn := hw.1
  intro r
  induction r with
  | zero =>
    intro c fuel hc hf F i4 hF
    obtain ⟨k, rfl⟩ : ∃ k, fuel = k + 1 := ⟨fuel - 1, by omega⟩
    refine ⟨F, i4, ?_, hF, Or.inl ⟨rfl, rfl, fun d h1 h2 => by omega⟩⟩
    rw [f_X10_isWhole_b27, hr.1, if_pos ((nle (by omega) (by omega)).mpr (by omega))]
  | succ r ih =>
    intro c fuel hc hf F i4 hF
    obtain ⟨k, rfl⟩ : ∃ k, fuel = k + 1 := ⟨fuel - 1, by omega⟩
    obtain ⟨V, v1, v2, v3⟩ := X10_besides hw hr hg (show c < bN A by omega)
    rw [f_X10_isWhole_b27, hr.1, if_neg (fun q => by have := (nle (by omega) (by omega)).mp q; omega), nbit hS (by omega), nbit hF.1 (by omega), v1, mbp_s, nshl c (by omega), nor]
    simp only [mlt]
    rw [show nI c + 1 = nI (c + 1) from nI_1 c]
    have skip : (S.testBit c = true → F.testBit c = false → ∀ e, F.testBit e = true → ¬ adj (bP A) c e) → ∃ (F' : Nat) (i4' : Int32), f_X10_isWhole_b27 kc k (nI S) (nI F) i3 i4 (nI (c + 1)) M = kc (nI S) (nI F') i3 i4' M ∧ snd A S a F' ∧ ((F' = F ∧ i4' = i4 ∧ ∀ d, c ≤ d → d < bN A → S.testBit d = true → F.testBit d = false → ∀ e, F.testBit e = true → ¬ adj (bP A) d e) ∨ (F < F' ∧ i4' = 1)) := fun hno => by
      obtain ⟨F', i4', g1, g2, g3⟩ := ih (c + 1) k (by omega) (by omega) F i4 hF
      refine ⟨F', i4', g1, g2, ?_⟩
      rcases g3 with ⟨g3, g4, g5⟩ | g3
      · refine Or.inl ⟨g3, g4, fun d h1 h2 h3 h4 => ?_⟩
        rcases Nat.eq_or_lt_of_le h1 with h1 | h1
        · subst h1
          exact hno h3 h4
        · exact g5 d h1 h2 h3 h4
      · exact Or.inr g3
    by_cases s1 : S.testBit c = true
    · rw [s1, if_neg (by decide)]
      by_cases s2 : F.testBit c = true
      · rw [s2, if_pos (by decide)]
        exact skip (fun _ h => by rw [s2] at h; cases h)
      · have s2 : F.testBit c = false := by simpa using s2
        rw [s2, if_neg (by decide)]
        by_cases s3 : nI V &&& nI F = 0
        · rw [if_pos s3]
          refine skip (fun _ _ e he hadj => ?_)
          have he16 : e < 16 := Nat.lt_of_not_le fun q => by rw [bhi hF.1 q] at he; cases he
          have := (band0 v2 hF.1).mp s3 e he16 ((v3 e).mpr ⟨hSn e (hF.2.1 e he).1, hadj⟩)
          rw [he] at this
          cases this
        · rw [if_neg s3]
          obtain ⟨d, d1, d2, d3⟩ : ∃ d, d < 16 ∧ V.testBit d = true ∧ F.testBit d = true := by
            refine Classical.byContradiction fun hno => s3 ((band0 v2 hF.1).mpr fun d h1 h2 => ?_)
            cases h3 : F.testBit d
            · rfl
            · exact absurd ⟨d, h1, h2, h3⟩ hno
          have hadj := ((v3 d).mp d2).2
          have hF1 : snd A S a (F ||| 2 ^ c) := ⟨bor_lt hF.1 (by omega), fun e he => by
            rw [bor, Bool.or_eq_true] at he
            rcases he with he | he
            · exact hF.2.1 e he
            · have he : c = e := by simpa using he
              subst he
              exact ⟨s1, rch_st (hF.2.1 d d3).2 s1 (adj_sy (hw.2.1 c (by omega)).1 hadj)⟩, by rw [bor, hF.2.2]; rfl⟩
          obtain ⟨F', i4', g1, g2, g3⟩ := ih (c + 1) k (by omega) (by omega) (F ||| 2 ^ c) 1 hF1
          have hgt := bor_gt s2
          refine ⟨F', i4', g1, g2, Or.inr ?_⟩
          rcases g3 with ⟨g3, g4, -⟩ | ⟨g3, g4⟩
          · exact ⟨by omega, g4⟩
          · exact ⟨by omega, g4⟩
    · have s1 : S.testBit c = false := by simpa using s1
      rw [s1, if_pos (by decide)]
      exact skip (fun h => by rw [s1] at h; cases h)
