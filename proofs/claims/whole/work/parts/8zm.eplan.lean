/-! plan: how many are outside behind a MOVE -/
theorem smq_cg {v v' : Nat → Nat} : ∀ n, (∀ d, d < n → v' d = v d) → smq v' n = smq v n := by
  intro n
  induction n with
  | zero => exact fun _ => rfl
  | succ n ih =>
    intro h
    rw [smq, smq, ih (fun d hd => h d (by omega)), h n (by omega)]
theorem smq_up {v v' : Nat → Nat} {c : Nat} : ∀ n, c < n → (∀ d, d < n → d ≠ c → v' d = v d) → smq v' n + v c = smq v n + v' c := by
  intro n
  induction n with
  | zero => exact fun h => absurd h (Nat.not_lt_zero c)
  | succ n ih =>
    intro hc h
    rw [smq, smq]
    by_cases e : c = n
    · subst e
      rw [smq_cg c (fun d hd => h d (by omega) (by omega))]
      omega
    · have := ih (by omega) (fun d hd hne => h d (by omega) hne)
      have := h n (by omega) (by omega)
      omega
/-- CUBES outside -/
abbrev Eo (V : Nat → Bool) (A : Bd) : Nat := smq (ouv A V) (bN A)
theorem ouv_wv {V : Nat → Bool} {A : Bd} {c : Nat} (h : inG (bP A c)) : ouv A V c + wv V (bP A c) = 1 := by
  unfold wv
  rw [if_pos h]
  show (!V (10 * (bP A c / 12 - 1) + (bP A c % 12 - 1))).toNat + (V (10 * (bP A c / 12 - 1) + (bP A c % 12 - 1))).toNat = 1
  cases V (10 * (bP A c / 12 - 1) + (bP A c % 12 - 1)) <;> rfl
theorem Eo_go {V : Nat → Bool} {A : Bd} {c w : Nat} (hw : wf A) (hc : c < bN A) (hw8 : w < 8) (hcan : canP A c w) : Eo V (bGo A c w) + wv V (stp (bP A c) w) = Eo V A + wv V (bP A c) := by
  have eP : bP (bGo A c w) c = stp (bP A c) w := up_e
  have h1 := ouv_wv (V := V) (hw.2.1 c hc).1
  have h2 := ouv_wv (V := V) (A := bGo A c w) (c := c) (by rw [eP]; exact (canP_in hw hc hw8 hcan).1)
  rw [eP] at h2
  have h3 := smq_up (v := ouv A V) (v' := ouv (bGo A c w) V) (c := c) (bN A) hc (fun d hd hne => by
    have : bP (bGo A c w) d = bP A d := up_n hne
    show (!V (10 * (bP (bGo A c w) d / 12 - 1) + (bP (bGo A c w) d % 12 - 1))).toNat = _
    rw [this])
  have h4 : Eo V (bGo A c w) = smq (ouv (bGo A c w) V) (bN A) := rfl
  rw [h4]
  show smq (ouv (bGo A c w) V) (bN A) + _ = smq (ouv A V) (bN A) + _
  omega
/-- the class's count behind a MOVE is how many are outside then -/
theorem Eo_c {V : Nat → Bool} {A : Bd} {c w : Nat} (hw : wf A) (hc : c < bN A) (hw8 : w < 8) (hcan : canP A c w) : nI (Eo V A) + nI (wv V (bP A c)) - nI (wv V (stp (bP A c) w)) = nI (Eo V (bGo A c w)) := by
  rw [nadd, ← Eo_go hw hc hw8 hcan, ← nadd]
  grind
