/-! WRONG: from one noted TICK to the next, or TICK by TICK -/
def wcn (g : Nat → Bool) : Nat → Nat
  | 0 => 0
  | t + 1 => wcn g t + if g t = true then 1 else 0
theorem wcn_le {g : Nat → Bool} : ∀ n, wcn g n ≤ n := by
  intro n
  induction n with
  | zero => exact Nat.le_refl _
  | succ n ih =>
    rw [wcn]
    split <;> omega
theorem wcn_mono {p q : Nat → Bool} : ∀ n, (∀ i, i < n → p i = true → q i = true) → wcn p n ≤ wcn q n := by
  intro n
  induction n with
  | zero => intro _; exact Nat.le_refl _
  | succ n ih =>
    intro h
    have := ih (fun i hi => h i (by omega))
    have h2 := h n (by omega)
    rw [wcn, wcn]
    by_cases e : p n = true
    · rw [if_pos e, if_pos (h2 e)]; omega
    · rw [if_neg e]; omega
theorem wcn_lt {p q : Nat → Bool} : ∀ n, (∀ i, i < n → p i = true → q i = true) → (∃ i, i < n ∧ p i = false ∧ q i = true) → wcn p n < wcn q n := by
  intro n
  induction n with
  | zero => rintro _ ⟨i, hi, -⟩; omega
  | succ n ih =>
    rintro h ⟨i, hi, h1, h2⟩
    rw [wcn, wcn]
    by_cases e : i = n
    · subst e
      have := wcn_mono i (fun k hk => h k (by omega))
      rw [if_neg (by rw [h1]; decide), if_pos h2]; omega
    · have := ih (fun k hk => h k (by omega)) ⟨i, by omega, h1, h2⟩
      have h3 := h n (by omega)
      by_cases e2 : p n = true
      · rw [if_pos e2, if_pos (h3 e2)]; omega
      · rw [if_neg e2]; omega
theorem wcn_c {g : Nat → Bool} {t : Nat} : ∀ d, (∀ u, t ≤ u → u < t + d → g u = g t) → wcn g (t + d) = wcn g t + if g t = true then d else 0 := by
  intro d
  induction d with
  | zero => intro _; split <;> rfl
  | succ d ih =>
    intro h
    have e := ih (fun u h1 h2 => h u h1 (by omega))
    have e2 := h (t + d) (by omega) (by omega)
    show wcn g (t + d + 1) = _
    rw [wcn, e, e2]
    split <;> omega
theorem tel_cst {w u z : Nat → Int32} {a x y : Int32} {n : Nat} (hxy : x ≤ y) (h : ∀ i, i < n → w i = a → u i ≤ y → u i ≤ x) : ∀ i, i ≤ n → tel w u z a y i = tel w u z a x i := by
  intro i
  induction i with
  | zero => intro _; rfl
  | succ i ih =>
    intro hi
    have e := ih (by omega)
    have h2 := h i (by omega)
    rw [tel, tel, e]
    by_cases c : w i = a ∧ u i ≤ x ∧ (tel w u z a x i).1 ≤ u i
    · rw [if_pos c, if_pos ⟨c.1, by have := c.2.1; grind, c.2.2⟩]
    · rw [if_neg c, if_neg (fun k => c ⟨k.1, h2 k.1 k.2.1, k.2.2⟩)]
theorem X2_next_lp {q n t j : Nat} {a : Int32} {M : mM} (h0 : M.1 q 0 = nI n) (hn : n ≤ 40) (ht : t < 2000) (hu : ∀ i, i < n → ∃ u, u ≤ 2000 ∧ M.1 (q + 2) i = nI u) (d : Nat) : ∀ i v, i + d = n → t < v → v ≤ 2000 → ∃ v', f_X2_nextNoted_b6 (j + d + 1) q a (nI t) (nI v) (nI i) M = some (nI v') ∧ t < v' ∧ v' ≤ v ∧ (∀ i' x, i ≤ i' → i' < n → M.1 (q + 1) i' = a → M.1 (q + 2) i' = nI x → x ≤ 2000 → t < x → v' ≤ x) ∧ (v' = v ∨ ∃ i', i' < n ∧ M.1 (q + 2) i' = nI v') := by
  induction d with
  | zero =>
    intro i v hi hv hv2
    refine ⟨v, ?_, hv, Nat.le_refl _, fun i' x h1 h2 => by omega, Or.inl rfl⟩
    rw [f_X2_nextNoted_b6, h0, if_pos ((nle (by omega) (by omega)).mpr (by omega))]
  | succ d ih =>
    intro i v hi hv hv2
    obtain ⟨u, hu1, hu2⟩ := hu i (by omega)
    rw [f_X2_nextNoted_b6, h0, if_neg (fun e => by have := (nle (by omega) (by omega)).mp e; omega)]
    simp only [ncl (show i < 2147483648 by omega), mlt_s, nI_1]
    rw [mgd_s ((nin (by omega)).mpr (by omega)), hu2]
    have skip : (M.1 (q + 1) i = a → t < u → v ≤ u) → ∃ v', f_X2_nextNoted_b6 (j + d + 1) q a (nI t) (nI v) (nI (i + 1)) M = some (nI v') ∧ t < v' ∧ v' ≤ v ∧ (∀ i' x, i ≤ i' → i' < n → M.1 (q + 1) i' = a → M.1 (q + 2) i' = nI x → x ≤ 2000 → t < x → v' ≤ x) ∧ (v' = v ∨ ∃ i', i' < n ∧ M.1 (q + 2) i' = nI v') := fun hs => by
      obtain ⟨v', p1, p2, p3, p4, p5⟩ := ih (i + 1) v (by omega) hv hv2
      refine ⟨v', p1, p2, p3, fun i' x h1 h2 h3 h4 h5 h6 => ?_, p5⟩
      by_cases e : i' = i
      · subst e
        rw [hu2, neq (by omega) (by omega)] at h4
        have := hs h3 (by omega)
        omega
      · exact p4 i' x (by omega) h2 h3 h4 h5 h6
    by_cases e1 : M.1 (q + 1) i = a
    · rw [if_pos e1, mgd_s ((nin (by omega)).mpr (by omega))]
      by_cases e2 : u ≤ t
      · rw [if_pos ((nle (by omega) (by omega)).mpr e2)]
        exact skip (fun _ h => by omega)
      · rw [if_neg (fun k => e2 ((nle (by omega) (by omega)).mp k)), mgd_s ((nin (by omega)).mpr (by omega))]
        by_cases e3 : v ≤ u
        · rw [if_pos ((nle (by omega) (by omega)).mpr e3)]
          exact skip (fun _ _ => e3)
        · rw [if_neg (fun k => e3 ((nle (by omega) (by omega)).mp k)), mgd_s ((nin (by omega)).mpr (by omega))]
          obtain ⟨v', p1, p2, p3, p4, p5⟩ := ih (i + 1) u (by omega) (by omega) (by omega)
          refine ⟨v', p1, p2, by omega, fun i' x h1 h2 h3 h4 h5 h6 => ?_, Or.inr ?_⟩
          · by_cases e : i' = i
            · subst e
              rw [hu2, neq (by omega) (by omega)] at h4
              omega
            · exact p4 i' x (by omega) h2 h3 h4 h5 h6
          · rcases p5 with e | p5
            · exact ⟨i, by omega, by rw [hu2, e]⟩
            · exact p5
    · rw [if_neg e1]
      exact skip (fun k => absurd k e1)
theorem X2_next {q n t v : Nat} {a : Int32} {M : mM} (h0 : M.1 q 0 = nI n) (hn : n ≤ 40) (ht : t < 2000) (hu : ∀ i, i < n → ∃ u, u ≤ 2000 ∧ M.1 (q + 2) i = nI u) (hv : t < v) (hv2 : v ≤ 2000) : ∃ v', f_X2_nextNoted q a (nI t) (nI v) M = some (nI v') ∧ t < v' ∧ v' ≤ v ∧ (∀ i' x, i' < n → M.1 (q + 1) i' = a → M.1 (q + 2) i' = nI x → x ≤ 2000 → t < x → v' ≤ x) ∧ (v' = v ∨ ∃ i', i' < n ∧ M.1 (q + 2) i' = nI v') := by
  obtain ⟨j, hj⟩ := mN_ge (k := n + 1) (by omega)
  have hj : mN = j + n + 1 := by omega
  obtain ⟨v', p1, p2, p3, p4, p5⟩ := X2_next_lp (j := j) (a := a) h0 hn ht hu n 0 v (Nat.zero_add _) hv hv2
  unfold f_X2_nextNoted
  rw [hj]
  exact ⟨v', p1, p2, p3, fun i' x h2 => p4 i' x (Nat.zero_le _) h2, p5⟩
/-- notes of later TICKS -/
abbrev lat (q : Nat) (M : mM) (t : Nat) : Nat → Bool := fun i => decide (nI t < M.1 (q + 2) i)
theorem lat_mono {q n t v : Nat} {M : mM} (h : t ≤ v) (hv : v ≤ 2000) : wcn (lat q M v) n ≤ wcn (lat q M t) n := wcn_mono n (fun i _ e => by
  have e := of_decide_eq_true e
  have := (nle (a := t) (b := v) (by omega) (by omega)).mpr h
  exact decide_eq_true (by grind))
theorem lat_lt {q n t v : Nat} {M : mM} (h : t < v) (hv : v ≤ 2000) (hi : ∃ i', i' < n ∧ M.1 (q + 2) i' = nI v) : wcn (lat q M v) n < wcn (lat q M t) n := by
  obtain ⟨i, h1, h2⟩ := hi
  refine wcn_lt n (fun i _ e => ?_) ⟨i, h1, ?_, ?_⟩
  · have e := of_decide_eq_true e
    have := (nle (a := t) (b := v) (by omega) (by omega)).mpr (Nat.le_of_lt h)
    exact decide_eq_true (by grind)
  · refine decide_eq_false ?_
    rw [h2]; grind
  · refine decide_eq_true ?_
    rw [h2]
    exact (nlt (by omega) (by omega)).mpr h
theorem telM_cst {q n t v u f : Nat} {a : Int32} {M : mM} (hf : f ≤ n) (hv2 : v ≤ 2000) (hu : ∀ i, i < n → ∃ u, u ≤ 2000 ∧ M.1 (q + 2) i = nI u) (h : ∀ i' x, i' < n → M.1 (q + 1) i' = a → M.1 (q + 2) i' = nI x → x ≤ 2000 → t < x → v ≤ x) (h1 : t ≤ u) (h2 : u < v) : telM q M a (nI u) f = telM q M a (nI t) f := by
  unfold telM
  rw [tel_cst (n := n) ((nle (by omega) (by omega)).mpr h1) (fun i hi hw hle => ?_) f hf]
  obtain ⟨x, x1, x2⟩ := hu i hi
  rw [x2, nle (by omega) (by omega)] at hle ⊢
  have := h i x hi hw x2 x1
  omega
/-- the two notes differ -/
abbrev dif (M : mM) (a : Int32) (f n : Nat) : Nat → Bool := fun t => decide (telM 29 M a (nI t) f ≠ telM 25 M a (nI t) n)
theorem X8_wrong_lp {nr nl f T j : Nat} {a : Int32} {M : mM} (hT : M.1 1 1 = nI T) (hT2 : T ≤ 2000) (hN : wN 29 1594 3 97 M nr T) (hL : wN 25 1714 4 97 M nl T) (hf : f ≤ nr) (d : Nat) : ∀ k t, k + d = 81 → (t = T ∨ (t < T ∧ k + wcn (lat 29 M t) nr + wcn (lat 25 M t) nl ≤ 80)) → f_X8_wrongTicks_b8 (j + d + 1) 1 a (nI f) (nI (wcn (dif M a f nl) t)) (nI t) (nI k) M = some (nI (wcn (dif M a f nl) T)) := by
  have hnr := hN.1
  have hnl := hL.1
  have u1 : ∀ i, i < nr → ∃ u, u ≤ 2000 ∧ M.1 (29 + 2) i = nI u := fun i hi => by
    obtain ⟨-, -, -, u, e1, e2⟩ := hN.2.2.2.1 i hi
    exact ⟨u, by omega, e2⟩
  have u2 : ∀ i, i < nl → ∃ u, u ≤ 2000 ∧ M.1 (25 + 2) i = nI u := fun i hi => by
    obtain ⟨-, -, -, u, e1, e2⟩ := hL.2.2.2.1 i hi
    exact ⟨u, by omega, e2⟩
  induction d with
  | zero =>
    intro k t hk ht
    rcases ht with rfl | ⟨-, h⟩
    · rw [f_X8_wrongTicks_b8, if_pos ((llt (m := 80) (by decide) (by omega)).mpr (show 80 < _ by omega))]
    · omega
  | succ d ih =>
    intro k t hk ht
    rw [f_X8_wrongTicks_b8, if_neg (fun e => by have : 80 < _ := (llt (m := 80) (by decide) (by omega)).mp e; omega), hT]
    rcases ht with rfl | ⟨ht, h⟩
    · rw [if_pos ((nle (by omega) (by omega)).mpr (Nat.le_refl _))]
    · rw [if_neg (fun e => by have := (nle (by omega) (by omega)).mp e; omega)]
      obtain ⟨v1, p1, p2, p3, p4, p5⟩ := X2_next (a := a) hN.2.1 hnr (by omega) u1 ht hT2
      obtain ⟨v2, q1, q2, q3, q4, q5⟩ := X2_next (a := a) hL.2.1 hnl (by omega) u2 p2 (by omega)
      have c1 := X2_tell (a := a) (tick := nI t) hN.2.1 hnr hf (fun i hi => hN.2.2.2.2 i (by omega))
      have c2 := X2_tell (a := a) (tick := nI t) hL.2.1 hnl (Nat.le_refl nl) (fun i hi => hL.2.2.2.2 i (by omega))
      show mbp (f_X2_nextNoted 29 a (nI t) (nI T) M) _ = _
      rw [p1, mbp_s]
      show mbp (f_X2_nextNoted 25 a (nI t) (nI v1) M) _ = _
      rw [q1, mbp_s]
      show mbp (f_X2_tellDead 29 a (nI t) (nI f) M) _ = _
      rw [c1, mbp_s]
      show mbp (f_X2_tellDead 25 a (nI t) (M.1 25 0) M) _ = _
      rw [hL.2.1, c2, mbp_s]
      have cst : ∀ u, t ≤ u → u < v2 → dif M a f nl u = dif M a f nl t := fun u h1 h2 => by
        unfold dif
        rw [telM_cst hf (show v2 ≤ 2000 by omega) u1 (fun i' x a1 a2 a3 a4 a5 => by have := p4 i' x a1 a2 a3 a4 a5; omega) h1 h2, telM_cst (Nat.le_refl nl) (show v2 ≤ 2000 by omega) u2 (fun i' x a1 a2 a3 a4 a5 => q4 i' x a1 a2 a3 a4 a5) h1 h2]
      have sum := wcn_c (g := dif M a f nl) (t := t) (v2 - t) (fun u h1 h2 => cst u h1 (by omega))
      rw [show t + (v2 - t) = v2 by omega] at sum
      have hlt := wcn_le (g := dif M a f nl) t
      have nxt : v2 = T ∨ (v2 < T ∧ k + 1 + wcn (lat 29 M v2) nr + wcn (lat 25 M v2) nl ≤ 80) := by
        by_cases e : v2 = T
        · exact Or.inl e
        · refine Or.inr ⟨by omega, ?_⟩
          have m1 := lat_mono (q := 29) (n := nr) (M := M) (show t ≤ v2 by omega) (by omega)
          have m2 := lat_mono (q := 25) (n := nl) (M := M) (show t ≤ v2 by omega) (by omega)
          rcases q5 with e2 | q5
          · subst e2
            rcases p5 with e3 | p5
            · exact absurd e3 e
            · have := lat_lt (q := 29) (n := nr) p2 (by omega) p5
              omega
          · have := lat_lt (q := 25) (n := nl) q2 (by omega) q5
            omega
      by_cases e : telM 29 M a (nI t) f = telM 25 M a (nI t) nl
      · rw [if_pos e, mlt_s, nI_1]
        rw [if_neg (fun k => by exact of_decide_eq_true k e)] at sum
        rw [← show wcn (dif M a f nl) v2 = wcn (dif M a f nl) t from sum]
        exact ih (k + 1) v2 (by omega) nxt
      · rw [if_neg e, mlt_s, mlt_s, nsub (by omega), nadd, nI_1]
        rw [if_pos (decide_eq_true e)] at sum
        rw [← sum]
        exact ih (k + 1) v2 (by omega) nxt
theorem tel_le {w u z : Nat → Int32} {a tick : Int32} {n : Nat} (hs : ∀ i j, i ≤ j → j < n → u i ≤ u j) (h0 : ∀ i, i < n → -1 ≤ u i) : ∀ i, i ≤ n → ∀ j, i ≤ j → j < n → (tel w u z a tick i).1 ≤ u j := by
  intro i
  induction i with
  | zero => intro _ j _ hj; exact h0 j hj
  | succ i ih =>
    intro hi j hij hj
    rw [tel]
    by_cases c : w i = a ∧ u i ≤ tick ∧ (tel w u z a tick i).1 ≤ u i
    · rw [if_pos c]; exact hs i j (by omega) hj
    · rw [if_neg c]; exact ih (by omega) j (by omega) hj
theorem X10_was_lp {n t j : Nat} {a tick : Int32} {M : mM} (hL : wN 25 1714 4 97 M n t) (ht : t ≤ 2000) (hO : srt 25 M n) (d : Nat) : ∀ i, i + d = n → f_X10_wasDead_b5 (j + d + 1) a tick (telM 25 M a tick i) (nI i) M = some (telM 25 M a tick n) := by
  obtain ⟨h1, h2, h3, h4, h5⟩ := hL
  have hle := tel_le (w := M.1 (25 + 1)) (u := M.1 (25 + 2)) (z := M.1 (25 + 3)) (a := a) (tick := tick) hO (fun i hi => by
    obtain ⟨-, -, -, u, hu, e⟩ := h4 i hi
    rw [e]
    have := nle0 (a := u) (by omega)
    grind)
  induction d with
  | zero =>
    intro i hi
    have e : i = n := by omega
    subst e
    rw [f_X10_wasDead_b5, h3, if_pos ((nle (by omega) (by omega)).mpr (Nat.le_refl _))]
  | succ d ih =>
    intro i hi
    obtain ⟨g1, g2, g3, -⟩ := h4 i (by omega)
    rw [f_X10_wasDead_b5, h3, if_neg (fun e => by have := (nle (by omega) (by omega)).mp e; omega)]
    simp only [ladd, ncl (show 1714 + i < 2147483648 by omega), ncl (show 1754 + i < 2147483648 by omega), ncl (show 1794 + i < 2147483648 by omega), mlt_s, nI_1]
    rw [mgd_s ((nin (by omega)).mpr (by omega)), ← g1, show M.1 97 (1754 + i) = M.1 (25 + 2) i from g2.symm, show M.1 97 (1794 + i) = M.1 (25 + 3) i from g3.symm]
    have ih' := ih (i + 1) (by omega)
    have tl := tel.eq_2 (M.1 (25 + 1)) (M.1 (25 + 2)) (M.1 (25 + 3)) a tick i
    rw [telM, tl] at ih'
    have hi2 := hle i (by omega) i (Nat.le_refl _) (by omega)
    by_cases e1 : M.1 (25 + 1) i = a
    · rw [if_pos e1, mgd_s ((nin (by omega)).mpr (by omega))]
      by_cases e2 : tick < M.1 (25 + 2) i
      · rw [if_neg (fun k => by have := k.2.1; grind)] at ih'
        rw [if_pos e2]
        exact ih'
      · rw [if_pos ⟨e1, by grind, hi2⟩] at ih'
        rw [if_neg e2, mgd_s ((nin (by omega)).mpr (by omega))]
        exact ih'
    · rw [if_neg (fun k => e1 k.1)] at ih'
      rw [if_neg e1]
      exact ih'
theorem X10_was {n t : Nat} {a tick : Int32} {M : mM} (hL : wN 25 1714 4 97 M n t) (ht : t ≤ 2000) (hO : srt 25 M n) : f_X10_wasDead a tick M = some (telM 25 M a tick n) := by
  have h1 := hL.1
  obtain ⟨j, hj⟩ := mN_ge (k := n + 1) (by omega)
  have hj : mN = j + n + 1 := by omega
  unfold f_X10_wasDead
  rw [hj]
  exact X10_was_lp hL ht hO n 0 (Nat.zero_add _)
theorem X10_wrong_lp {nr nl f T j : Nat} {a e : Int32} {M : mM} (hT : M.1 97 5 = nI T) (hT2 : T ≤ 2000) (hN : wN 29 1594 3 97 M nr T) (hL : wN 25 1714 4 97 M nl T) (hO : srt 25 M nl) (hf : f ≤ nr) (he : f_X10_first e M = nI f) (d : Nat) : ∀ t, t + d = T → f_X10_wrong_b30 (j + d + 1) a e (nI (wcn (dif M a f nl) t)) (nI t) M = some (nI (wcn (dif M a f nl) T)) := by
  induction d with
  | zero =>
    intro t ht
    have e : t = T := by omega
    subst e
    rw [f_X10_wrong_b30, hT, if_pos ((nle (by omega) (by omega)).mpr (Nat.le_refl _))]
  | succ d ih =>
    intro t ht
    have h := ih (t + 1) (by omega)
    rw [f_X10_wrong_b30, hT, if_neg (fun e => by have := (nle (by omega) (by omega)).mp e; omega), he, X10_tell hN hT2 rfl hf, mbp_s, X10_was hL hT2 hO, mbp_s]
    rw [wcn] at h
    by_cases e : telM 29 M a (nI t) f = telM 25 M a (nI t) nl
    · rw [if_neg (fun k => by exact of_decide_eq_true k e)] at h
      rw [if_pos e, mlt_s, nI_1, show nI (wcn (dif M a f nl) t) + 0 = nI (wcn (dif M a f nl) t + 0) by grind]
      exact h
    · rw [if_pos (decide_eq_true e)] at h
      rw [if_neg e, mlt_s, nI_1, nI_1]
      exact h
theorem op_wrong {M : mM} {a1 a2 : Int32} (hI : Inv M) : ∃ M', f_law_c22 a1 a2 M = some M' ∧ Inv M' := by
  obtain ⟨⟨K, hA, hG⟩, -⟩ := id hI
  obtain ⟨hC, hT, hV, hH, hP, hS, hN, hL, hO, hW⟩ := id hA
  obtain ⟨hw, hB, hR, h01⟩ := id hC
  have hB : repB 2 M K.1 := hB
  have hn := hw.1
  have ht := hT.1
  have hr := hN.1
  have hl := hL.1
  have t2 := nI_ti (k := K.2.2.2.2.1) (by omega)
  refine ⟨M, ?_, hI⟩
  unfold f_law_c22 f_X9_wrong f_X10_wrong f_X8_mayBelieve
  rw [X0_has_c hB, X10_isCube_c hn hR, show M.1 (1 + 28) 0 = nI K.2.2.2.2.1 from hN.2.1, hN.2.2.1, X10_is_c]
  by_cases h : isC K.1 a1
  · rw [tf_y h, if_neg (show ¬ (1 : Int32) = 0 by decide), mbp_s (v := (1 : Int32)), if_neg (show ¬ (1 : Int32) = 0 by decide)]
    by_cases h3 : -1 ≤ a2 ∧ a2 ≤ nI K.2.2.2.2.1
    · rw [if_neg (show ¬ a2 < -1 by grind), if_neg (show ¬ nI K.2.2.2.2.1 < a2 by grind), if_neg (show ¬ (1 : Int32) = 0 by decide), tf_y h3, if_neg (show ¬ (1 : Int32) = 0 by decide)]
      obtain ⟨f, f1, f2, f3⟩ := e_ex hr h3 hN.2.1 hN.2.2.1
      obtain ⟨j, hj⟩ := mN_ge (k := 82) (by omega)
      have hj : mN = j + 81 + 1 := by omega
      obtain ⟨j2, hj2⟩ := mN_ge (k := K.2.1 + 1) (by omega)
      have hj2 : mN = j2 + K.2.1 + 1 := by omega
      have x1 := X8_wrong_lp (j := j) (a := a1) hT.2.1 ht hN hL f1 81 0 0 (by omega) (by
        have w1 := wcn_le (g := lat 29 M 0) K.2.2.2.2.1
        have w2 := wcn_le (g := lat 25 M 0) K.2.2.2.2.2
        by_cases e : 0 = K.2.1
        · exact Or.inl e
        · exact Or.inr ⟨by omega, by omega⟩)
      have x2 := X10_wrong_lp (j := j2) (a := a1) hT.2.2 ht hN hL hO f1 f3 K.2.1 0 (by omega)
      rw [← hj] at x1
      rw [← hj2] at x2
      have x1 : f_X8_wrongTicks 1 a1 (nI f) M = _ := x1
      have x2 : f_X10_wrong_b30 mN a1 a2 0 0 M = _ := x2
      rw [f2, x1, x2, mbp_s, mbp_s, mbp_s, if_pos rfl]
    · rw [tf_n h3, if_pos (show (0 : Int32) = 0 from rfl)]
      by_cases h4 : a2 < -1
      · rw [if_pos h4, if_pos (show (0 : Int32) = 0 from rfl), mbp_s, mbp_s, if_pos rfl]
      · rw [if_neg h4, if_pos (show nI K.2.2.2.2.1 < a2 by grind), if_pos (show (0 : Int32) = 0 from rfl), mbp_s, mbp_s, if_pos rfl]
  · rw [tf_n h, if_pos rfl, mbp_s, mbp_s, if_pos rfl, mbp_s, if_pos rfl]
