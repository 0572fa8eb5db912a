theorem nbr_ex {A : Bd} (hw : wf A) {q c : Nat} (hc : c < bN A) (hq : inG q) : nbr A q (nI c) ↔ ∃ d, (d < bN A ∧ d ≠ c) ∧ ∃ w, w < 4 ∧ stp q w = bP A d := by
  have hn := hw.1
  have one : ∀ w, w < 4 → (nb1 A q (nI c) w ↔ ∃ d, (d < bN A ∧ d ≠ c) ∧ stp q w = bP A d) := fun w hw4 => by
    have hlt := stp_lt hq (w := w) (by omega)
    constructor
    · rintro ⟨h1, h2⟩
      rcases wf_g hw hlt with ⟨e, -⟩ | ⟨d, d1, d2, d3, -⟩ | ⟨e, -⟩
      · rw [e] at h1
        exact absurd h1 (by decide)
      · exact ⟨d, ⟨d1, fun k => h2 (by rw [d2, k])⟩, d3.symm⟩
      · rw [e] at h1
        have := gI_neg _ hlt
        exact absurd h1 (by grind)
    · rintro ⟨d, ⟨d1, d2⟩, d3⟩
      have e := (hw.2.1 d d1).2
      refine ⟨by rw [d3, e]; exact nle0 (by omega), fun k => d2 ?_⟩
      rw [d3, e, neq (by omega) (by omega)] at k
      exact k
  constructor
  · rintro (h | h | h | h)
    · obtain ⟨d, d1, d2⟩ := (one 0 (by decide)).mp h
      exact ⟨d, d1, 0, by decide, d2⟩
    · obtain ⟨d, d1, d2⟩ := (one 1 (by decide)).mp h
      exact ⟨d, d1, 1, by decide, d2⟩
    · obtain ⟨d, d1, d2⟩ := (one 2 (by decide)).mp h
      exact ⟨d, d1, 2, by decide, d2⟩
    · obtain ⟨d, d1, d2⟩ := (one 3 (by decide)).mp h
      exact ⟨d, d1, 3, by decide, d2⟩
  · rintro ⟨d, d1, w, w1, d2⟩
    match w, w1 with
    | 0, _ => exact Or.inl ((one 0 (by decide)).mpr ⟨d, d1, d2⟩)
    | 1, _ => exact Or.inr (Or.inl ((one 1 (by decide)).mpr ⟨d, d1, d2⟩))
    | 2, _ => exact Or.inr (Or.inr (Or.inl ((one 2 (by decide)).mpr ⟨d, d1, d2⟩)))
    | 3, _ => exact Or.inr (Or.inr (Or.inr ((one 3 (by decide)).mpr ⟨d, d1, d2⟩)))
theorem Wh_mv {A : Bd} (hw : wf A) {c q : Nat} {v : Int32} (hc : c < bN A) (hq : inG q) (ho : bN A = 1 ∨ Wh (bP A) (fun d => d < bN A ∧ d ≠ c)) : Wh (bP (bMv A c q v)) (fun d => d < bN (bMv A c q v)) ↔ hold A q (bN A - 1) (nI c) := by
  have hPc : bP (bMv A c q v) c = q := if_pos rfl
  have hPd : ∀ d, d ≠ c → bP (bMv A c q v) d = bP A d := fun d h => if_neg h
  by_cases h1 : bN A = 1
  · rw [hold0 (by omega)]
    have hS : ∀ d, d < bN (bMv A c q v) ↔ d = c := fun d => by
      show d < bN A ↔ d = c
      omega
    constructor
    · intro h
      have := Wh_one.mp (Wh_cg hS (fun _ _ => rfl) h)
      rw [hPc] at this
      exact this
    · intro h
      exact Wh_cg (fun d => (hS d).symm) (fun _ _ => rfl) (Wh_one.mpr (by rw [hPc]; exact h))
  · rw [hold1 (by omega), nbr_ex hw hc hq]
    have hS : ∀ d, d < bN (bMv A c q v) ↔ (d < bN A ∧ d ≠ c) ∨ d = c := fun d => by
      show d < bN A ↔ _
      omega
    have key := Wh_more (P := bP A) (P' := bP (bMv A c q v)) (S := fun d => d < bN A ∧ d ≠ c) (c := c) (fun h => h.2 rfl) (fun d hd => hPd d hd.2) (fun d hd => (hw.2.1 d hd.1).1) (by rw [hPc]; exact hq) (ho.resolve_left h1)
    have e : Wh (bP (bMv A c q v)) (fun d => d < bN (bMv A c q v)) ↔ Wh (bP (bMv A c q v)) (fun d => (d < bN A ∧ d ≠ c) ∨ d = c) := ⟨Wh_cg hS (fun _ _ => rfl), Wh_cg (fun d => (hS d).symm) (fun _ _ => rfl)⟩
    rw [e, key]
    constructor
    · rintro ⟨d, d1, w, w1, w2⟩
      rw [hPc, hPd d d1.2] at w2
      exact ⟨d, d1, w, w1, w2⟩
    · rintro ⟨d, d1, w, w1, w2⟩
      exact ⟨d, d1, w, w1, by rw [hPc, hPd d d1.2]; exact w2⟩
