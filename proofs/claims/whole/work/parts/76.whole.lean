/-! what is WHOLE, apart from any memory -/
def adj (P : Nat → Nat) (c d : Nat) : Prop := ∃ w, w < 4 ∧ stp (P c) w = P d
def rch (P : Nat → Nat) (S : Nat → Prop) (a c : Nat) : Prop := ∀ T : Nat → Prop, T a → (∀ x y, T x → S y → adj P x y → T y) → T c
def Wh (P : Nat → Nat) (S : Nat → Prop) : Prop := ∃ a, S a ∧ (∀ c, S c → rch P S a c) ∧ ∃ c, S c ∧ P c < 24
theorem stp_back {p w : Nat} (hp : inG p) (hw : w < 4) : ∃ v, v < 4 ∧ stp (stp p w) v = p := by
  have hl : p < 120 := by have := hp.2.1; omega
  have g : ∀ p, p < 120 → ∀ w, w < 4 → inG p → ∃ v, v < 4 ∧ stp (stp p w) v = p := by decide +kernel
  exact g p hl w hw hp
theorem adj_sy {P : Nat → Nat} {c d : Nat} (hc : inG (P c)) (h : adj P c d) : adj P d c := by
  obtain ⟨w, h1, h2⟩ := h
  obtain ⟨v, h3, h4⟩ := stp_back hc h1
  exact ⟨v, h3, by rw [← h2]; exact h4⟩
theorem rch_rf {P : Nat → Nat} {S : Nat → Prop} {a : Nat} : rch P S a a := fun _ h _ => h
theorem rch_st {P : Nat → Nat} {S : Nat → Prop} {a x y : Nat} (h : rch P S a x) (hy : S y) (hxy : adj P x y) : rch P S a y := fun T hT hc => hc x y (h T hT hc) hy hxy
theorem rch_tr {P : Nat → Nat} {S : Nat → Prop} {a b c : Nat} (h1 : rch P S a b) (h2 : rch P S b c) : rch P S a c := fun T hT hc => h2 T (h1 T hT hc) hc
theorem rch_in {P : Nat → Nat} {S : Nat → Prop} {a c : Nat} (ha : S a) (h : rch P S a c) : S c := h S ha (fun _ _ _ hy _ => hy)
theorem rch_sy {P : Nat → Nat} {S : Nat → Prop} {a c : Nat} (hG : ∀ d, S d → inG (P d)) (ha : S a) (h : rch P S a c) : rch P S c a := by
  refine (h (fun x => S x ∧ rch P S x a) ⟨ha, rch_rf⟩ (fun x y hx hy hxy => ⟨hy, ?_⟩)).2
  exact rch_tr (rch_st rch_rf hx.1 (adj_sy (hG x hx.1) hxy)) hx.2
theorem Wh_any {P : Nat → Nat} {S : Nat → Prop} (hG : ∀ d, S d → inG (P d)) (h : Wh P S) {b : Nat} (hb : S b) : ∀ c, S c → rch P S b c := by
  obtain ⟨a, ha, h1, -⟩ := h
  exact fun c hc => rch_tr (rch_sy hG ha (h1 b hb)) (h1 c hc)
theorem rch_mono {P P' : Nat → Nat} {S S' : Nat → Prop} {a c : Nat} (ha : S a) (hS : ∀ d, S d → S' d) (hP : ∀ d, S d → P' d = P d) (h : rch P S a c) : rch P' S' a c := by
  refine (h (fun x => S x ∧ rch P' S' a x) ⟨ha, rch_rf⟩ (fun x y hx hy hxy => ⟨hy, rch_st hx.2 (hS y hy) ?_⟩)).2
  obtain ⟨w, w1, w2⟩ := hxy
  exact ⟨w, w1, by rw [hP x hx.1, hP y hy]; exact w2⟩
/-- one CUBE more, the others WHOLE: all are WHOLE just where it is beside another -/
theorem Wh_more {P P' : Nat → Nat} {S : Nat → Prop} {c : Nat} (hc : ¬ S c) (hP : ∀ d, S d → P' d = P d) (hG : ∀ d, S d → inG (P d)) (hG' : inG (P' c)) (h : Wh P S) : Wh P' (fun d => S d ∨ d = c) ↔ ∃ d, S d ∧ adj P' c d := by
  constructor
  · rintro ⟨a, ha, h1, -⟩
    refine Classical.byContradiction fun hno => ?_
    obtain ⟨b, hb, -⟩ := h
    have hb' : b ≠ c := fun e => hc (e ▸ hb)
    have hcl : ∀ x y, (x ≠ c) → (S y ∨ y = c) → adj P' x y → (S x) → y ≠ c := fun x y hx hy hxy hSx e => by
      subst e
      exact hno ⟨x, hSx, adj_sy (by rw [hP x hSx]; exact hG x hSx) hxy⟩
    rcases ha with ha | ha
    · have := h1 c (Or.inr rfl) S ha (fun x y hx hy hxy => by
        rcases hy with hy | hy
        · exact hy
        · exact absurd hy (hcl x y (fun e => hc (e ▸ hx)) (Or.inr hy) hxy hx))
      exact hc this
    · have := h1 b (Or.inl hb) (fun x => x = c) ha (fun x y hx hy hxy => by
        rcases hy with hy | hy
        · exact absurd ⟨y, hy, hx ▸ hxy⟩ hno
        · exact hy)
      exact hb' this
  · rintro ⟨d, hd, hcd⟩
    have hall := Wh_any hG h hd
    obtain ⟨-, -, -, g, hg, hg2⟩ := h
    refine ⟨d, Or.inl hd, fun e he => ?_, g, Or.inl hg, by rw [hP g hg]; exact hg2⟩
    rcases he with he | he
    · exact rch_mono hd (fun x hx => Or.inl hx) hP (hall e he)
    · subst he
      exact rch_st rch_rf (Or.inr rfl) (adj_sy hG' hcd)
theorem Wh_one {P : Nat → Nat} {c : Nat} : Wh P (fun d => d = c) ↔ P c < 24 := by
  constructor
  · rintro ⟨a, -, -, d, hd, h⟩
    exact hd ▸ h
  · intro h
    exact ⟨c, rfl, fun d hd => hd ▸ rch_rf, c, rfl, h⟩
theorem Wh_cg {P P' : Nat → Nat} {S S' : Nat → Prop} (hS : ∀ d, S d ↔ S' d) (hP : ∀ d, S d → P' d = P d) (h : Wh P S) : Wh P' S' := by
  obtain ⟨a, ha, h1, c, hc, h2⟩ := h
  exact ⟨a, (hS a).mp ha, fun d hd => rch_mono ha (fun x hx => (hS x).mp hx) hP (h1 d ((hS d).mpr hd)), c, (hS c).mp hc, by rw [hP c hc]; exact h2⟩
/-- so many, apart from one another, below so many -/
theorem pig : ∀ (n m : Nat) (f : Nat → Nat), (∀ i, i < m → f i < n) → (∀ i j, i < m → j < m → f i = f j → i = j) → m ≤ n := by
  intro n
  induction n with
  | zero =>
    intro m f h1 _
    rcases Nat.eq_zero_or_pos m with h | h
    · omega
    · exact absurd (h1 0 h) (Nat.not_lt_zero _)
  | succ n ih =>
    intro m f h1 h2
    match m with
    | 0 => omega
    | m + 1 =>
      refine Nat.succ_le_succ (ih m (fun i => if f i = n then f m else f i) (fun i hi => ?_) (fun i j hi hj e => ?_))
      · show (if f i = n then f m else f i) < n
        have a1 := h1 i (by omega)
        have a2 := h1 m (by omega)
        split
        · rename_i e
          have : f m ≠ n := fun e2 => by have := h2 i m (by omega) (by omega) (by rw [e, e2]); omega
          omega
        · omega
      · have e : (if f i = n then f m else f i) = (if f j = n then f m else f j) := e
        by_cases ei : f i = n <;> by_cases ej : f j = n
        · exact h2 i j (by omega) (by omega) (by rw [ei, ej])
        · rw [if_pos ei, if_neg ej] at e
          have := h2 m j (by omega) (by omega) e
          omega
        · rw [if_neg ei, if_pos ej] at e
          have := h2 i m (by omega) (by omega) e
          omega
        · rw [if_neg ei, if_neg ej] at e
          exact h2 i j (by omega) (by omega) e
