/-! plan: the search, apart from memory -/
def frs (p : Nat → Option (List Nat)) : Nat → Nat → Option (List Nat)
  | 0, _ => none
  | k + 1, m => match p m with
    | some l => some (m :: l)
    | none => frs p k (m + 1)
noncomputable def fnd (V : Nat → Bool) : Nat → Bd → Option (List Nat)
  | 0, A => if Eo V A = 0 then some [] else none
  | r + 1, A => frs (fun m => @ite _ (canP A (m / 8) (m % 8) ∧ Eo V (bGo A (m / 8) (m % 8)) ≤ r) (Classical.propDecidable _) (fnd V r (bGo A (m / 8) (m % 8))) none) (8 * min 8 (bN A)) 0
theorem frs_ex {p : Nat → Option (List Nat)} : ∀ k m l, frs p k m = some l → ∃ q l', m ≤ q ∧ q < m + k ∧ p q = some l' ∧ l = q :: l' := by
  intro k
  induction k with
  | zero => intro m l h; rw [frs] at h; exact absurd h.symm (Option.some_ne_none _)
  | succ k ih =>
    intro m l h
    rw [frs] at h
    cases e : p m with
    | some l' =>
      rw [e] at h
      exact ⟨m, l', Nat.le_refl _, by omega, e, (Option.some.inj h).symm⟩
    | none =>
      rw [e] at h
      obtain ⟨q, l', h1, h2, h3, h4⟩ := ih (m + 1) l h
      exact ⟨q, l', by omega, by omega, h3, h4⟩
/-- no plan is shorter than how many are outside -/
theorem fnd_le {V : Nat → Bool} : ∀ r A l, wf A → fnd V r A = some l → Eo V A ≤ r ∧ l.length = r := by
  intro r
  induction r with
  | zero =>
    intro A l hw h
    rw [fnd] at h
    by_cases e : Eo V A = 0
    · rw [if_pos e] at h
      have := Option.some.inj h
      subst this
      exact ⟨Nat.le_of_eq e, rfl⟩
    · rw [if_neg e] at h
      exact absurd h.symm (Option.some_ne_none _)
  | succ r ih =>
    intro A l hw h
    rw [fnd] at h
    obtain ⟨m, l', h1, h2, h3, rfl⟩ := frs_ex _ _ _ h
    by_cases e : canP A (m / 8) (m % 8) ∧ Eo V (bGo A (m / 8) (m % 8)) ≤ r
    · rw [if_pos e] at h3
      have hc : m / 8 < bN A := by omega
      have hw8 : m % 8 < 8 := by omega
      obtain ⟨a1, a2⟩ := ih _ _ (wf_go hw hc hw8 e.1) h3
      have g := Eo_go (V := V) hw hc hw8 e.1
      have w1 := wv_01 (V := V) (p := stp (bP A (m / 8)) (m % 8))
      refine ⟨by omega, ?_⟩
      rw [List.length_cons, a2]
    · rw [if_neg e] at h3
      exact absurd h3.symm (Option.some_ne_none _)
/-- the class asks whether the SHAPE has as many CELLS as there are CUBES -/
theorem gn_eq {G n O : Int32} : (G - (n - O) = O) ↔ G = n := by
  constructor
  · intro h; grind
  · intro h; grind
