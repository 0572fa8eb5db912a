theorem cy0 {p : Nat} (hp : inG p) : cy p = 0 ↔ p < 24 := by
  have hl : p < 120 := by have := hp.2.1; omega
  have g : ∀ p, p < 120 → inG p → (cy p = 0 ↔ p < 24) := by decide +kernel
  exact g p hl hp
theorem X10_fin {M : mM} {A : Bd} (hw : wf A) (hr : repR 97 M A) {S F : Nat} (hS : S < 65536) (hF : F < 65536) :
    ∀ r c fuel g, c + r = bN A → r < fuel → g ≤ c → f_X10_isWhole_b93 fuel (nI S) (nI F) (nI g) (nI c) M = some (tf (F = S ∧ (0 < g ∨ ∃ d, c ≤ d ∧ d < bN A ∧ S.testBit d = true ∧ bP A d < 24))) := by
  have hn := hw.1
  intro r
  induction r with
  | zero =>
    intro c fuel g hc hf hg
    obtain ⟨k, rfl⟩ : ∃ k, fuel = k + 1 := ⟨fuel - 1, by omega⟩
    rw [f_X10_isWhole_b93, hr.1, if_pos ((nle (by omega) (by omega)).mpr (by omega))]
    simp (disch := omega) only [neq, leL]
    by_cases e : F = S
    · rw [if_pos e]
      by_cases e2 : g ≤ 0
      · rw [if_pos e2, tf_n]
        rintro ⟨-, h | ⟨d, h1, h2, -⟩⟩ <;> omega
      · rw [if_neg e2, tf_y ⟨e, Or.inl (by omega)⟩]
    · rw [if_neg e, tf_n (fun q => e q.1)]
  | succ r ih =>
    intro c fuel g hc hf hg
    obtain ⟨k, rfl⟩ : ∃ k, fuel = k + 1 := ⟨fuel - 1, by omega⟩
    have hp := (hw.2.1 c (by omega)).1
    have i1 := ih (c + 1) k (g + 1) (by omega) (by omega) (by omega)
    have i2 := ih (c + 1) k g (by omega) (by omega) (by omega)
    rw [f_X10_isWhole_b93, hr.1, if_neg (fun q => by have := (nle (by omega) (by omega)).mp q; omega), nbit hS (by omega)]
    simp (disch := omega) only [ladd, ncl, nin, mgd, mlt, addL]
    rw [hr.2.2.2.1 c (by omega), if_pos (show 42 + c < 1834 by omega), i1, i2]
    have stay : (S.testBit c = true → ¬ bP A c < 24) → (F = S ∧ (0 < g ∨ ∃ d, c + 1 ≤ d ∧ d < bN A ∧ S.testBit d = true ∧ bP A d < 24) ↔ F = S ∧ (0 < g ∨ ∃ d, c ≤ d ∧ d < bN A ∧ S.testBit d = true ∧ bP A d < 24)) := fun hno => by
      constructor
      · rintro ⟨h1, h2 | ⟨d, d1, d2⟩⟩
        · exact ⟨h1, Or.inl h2⟩
        · exact ⟨h1, Or.inr ⟨d, by omega, d2⟩⟩
      · rintro ⟨h1, h2 | ⟨d, d1, d2, d3, d4⟩⟩
        · exact ⟨h1, Or.inl h2⟩
        · rcases Nat.eq_or_lt_of_le d1 with q | q
          · subst q
            exact absurd d4 (hno d3)
          · exact ⟨h1, Or.inr ⟨d, q, d2, d3, d4⟩⟩
    by_cases s1 : S.testBit c = true
    · rw [s1, if_pos (by decide)]
      by_cases s2 : bP A c < 24
      · rw [if_pos ((cy0 hp).mpr s2)]
        refine congrArg some (tf_c ⟨fun h => ⟨h.1, Or.inr ⟨c, Nat.le_refl _, by omega, s1, s2⟩⟩, fun h => ⟨h.1, Or.inl (by omega)⟩⟩)
      · rw [if_neg (fun q => s2 ((cy0 hp).mp q)), tf_c (stay (fun _ => s2))]
    · have s0 : S.testBit c = false := by simpa using s1
      rw [s0, if_neg (by decide), tf_c (stay (fun h => absurd h s1))]
theorem X10_fix {M : mM} {A : Bd} (hw : wf A) (hr : repR 97 M A) (hg : repG M A) {S a : Nat} (hS : S < 65536) (hSn : ∀ d, S.testBit d = true → d < bN A) (ha : S.testBit a = true) :
    ∀ m F fuel, 65536 - F ≤ m → m + 1 < fuel → snd A S a F → f_X10_isWhole_b16 fuel (nI S) (nI F) 0 1 M = some (tf (Wh (bP A) (bs S))) := by
  have hn := hw.1
  intro m
  induction m with
  | zero =>
    intro F fuel h1 h2 h3
    have := h3.1
    omega
  | succ m ih =>
    intro F fuel h1 h2 h3
    obtain ⟨k, rfl⟩ : ∃ k, fuel = k + 1 := ⟨fuel - 1, by omega⟩
    have hmN : bN A < mN := Nat.lt_of_le_of_lt hn (by decide)
    obtain ⟨F', i4', g1, g2, g3⟩ := X10_pass hw hr hg hS hSn (i3 := 0) (f_X10_isWhole_b16 k) (bN A) 0 mN (by omega) hmN F 0 h3
    rw [f_X10_isWhole_b16, if_neg (by decide), show (0 : Int32) = nI 0 from rfl] at *
    rw [g1]
    rcases g3 with ⟨g3, g4, g5⟩ | ⟨g3, g4⟩
    · subst g3 g4
      obtain ⟨k, rfl⟩ : ∃ j, k = j + 1 := ⟨k - 1, by omega⟩
      rw [f_X10_isWhole_b16, if_pos (show nI 0 = 0 from rfl)]
      change f_X10_isWhole_b93 mN (nI S) (nI F') (nI 0) (nI 0) M = _
      rw [X10_fin hw hr hS g2.1 (bN A) 0 mN 0 (by omega) hmN (Nat.le_refl _)]
      refine congrArg some (tf_c ⟨?_, ?_⟩)
      · rintro ⟨e, h | ⟨d, -, -, d3, d4⟩⟩
        · omega
        · exact ⟨a, ha, fun c hc => (g2.2.1 c (by rw [e]; exact hc)).2, d, d3, d4⟩
      · intro hW
        have hall := Wh_any (fun d hd => (hw.2.1 d (hSn d hd)).1) hW (b := a) ha
        obtain ⟨-, -, -, d, d3, d4⟩ := hW
        refine ⟨bext g2.1 hS fun e he => ?_, Or.inr ⟨d, Nat.zero_le _, hSn d d3, d3, d4⟩⟩
        cases hs : S.testBit e
        · cases hf : F'.testBit e
          · rfl
          · have := (g2.2.1 e hf).1
            rw [hs] at this
            cases this
        · exact hall e hs (fun x => F'.testBit x = true) g2.2.2 (fun x y hx hy hxy => by
            refine Classical.byContradiction fun hno => ?_
            have hy0 : F'.testBit y = false := by simpa using hno
            have hxS := (g2.2.1 x hx).1
            exact g5 y (Nat.zero_le _) (hSn y hy) hy hy0 x hx (adj_sy (hw.2.1 x (hSn x hxS)).1 hxy))
    · subst g4
      exact ih F' k (by omega) (by omega) g2
theorem sets_at : ∀ n, n ≤ 16 → ∀ c, c < n → (2 ^ n - 1 < 65536 ∧ (1 : Int32) <<< (nI n &&& 31) - 1 = nI (2 ^ n - 1)) ∧ ((nI (2 ^ n - 1) &&& (((1 : Int32) <<< (nI c &&& 31)) ^^^ (-1))) = nI (2 ^ n - 1 - 2 ^ c) ∧ 2 ^ n - 1 - 2 ^ c < 65536) := by decide +kernel
theorem sets_at0 : ∀ n, n ≤ 16 → 2 ^ n - 1 < 65536 ∧ (1 : Int32) <<< (nI n &&& 31) - 1 = nI (2 ^ n - 1) := by decide +kernel
theorem sets_b : ∀ n, n ≤ 16 → ∀ d, d < 16 → ((2 ^ n - 1).testBit d = true ↔ d < n) := by decide +kernel
theorem sets_bc : ∀ n, n ≤ 16 → ∀ c, c < n → ∀ d, d < 16 → ((2 ^ n - 1 - 2 ^ c).testBit d = true ↔ d < n ∧ d ≠ c) := by decide +kernel
theorem sets_lo : ∀ n, n ≤ 16 → 0 < n → nI (2 ^ n - 1) &&& (- nI (2 ^ n - 1)) = nI (2 ^ 0) := by decide +kernel
theorem sets_loc : ∀ n, n ≤ 16 → 1 < n → ∀ c, c < n → nI (2 ^ n - 1 - 2 ^ c) &&& (- nI (2 ^ n - 1 - 2 ^ c)) = nI (2 ^ (if c = 0 then 1 else 0)) := by decide +kernel
theorem snd0 {A : Bd} {S a : Nat} (ha : S.testBit a = true) (h16 : a < 16) : snd A S a (2 ^ a) := by
  refine ⟨show 2 ^ a < 2 ^ 16 from Nat.pow_lt_pow_right (by decide) h16, fun d hd => ?_, by rw [Nat.testBit_two_pow]; simp⟩
  rw [Nat.testBit_two_pow] at hd
  have hd : a = d := by simpa using hd
  subst hd
  exact ⟨ha, rch_rf⟩
theorem X10_isWhole {M : mM} {A : Bd} (hw : wf A) (hr : repR 97 M A) (hg : repG M A) {S a : Nat} (hS : S < 65536) (hSn : ∀ d, S.testBit d = true → d < bN A) (ha : S.testBit a = true) (hlo : nI S &&& (- nI S) = nI (2 ^ a)) : f_X10_isWhole (nI S) M = some (tf (Wh (bP A) (bs S))) := by
  have hn := hw.1
  have ha16 : a < 16 := Nat.lt_of_lt_of_le (hSn a ha) hn
  have h0 : ¬ nI S = 0 := fun e => by
    rw [show (0 : Int32) = nI 0 from rfl, neq (by omega) (by decide)] at e
    rw [e, Nat.zero_testBit] at ha
    cases ha
  unfold f_X10_isWhole
  rw [if_neg h0, hlo]
  exact X10_fix hw hr hg hS hSn ha 65536 (2 ^ a) mN (Nat.sub_le _ _) (by have : mN = 1099511627776 := rfl; omega) (snd0 ha ha16)
/-- all of them -/
theorem X10_allWhole {M : mM} {A : Bd} (hw : wf A) (hr : repR 97 M A) (hg : repG M A) (h0 : 0 < bN A) : f_X10_isWhole (f_X10_everyone M) M = some (tf (Wh (bP A) (fun d => d < bN A))) := by
  have hn := hw.1
  obtain ⟨e1, e2⟩ := sets_at0 (bN A) hn
  unfold f_X10_everyone
  rw [hr.1, e2]
  have hb : ∀ d, (2 ^ bN A - 1).testBit d = true ↔ d < bN A := fun d => by
    rcases Nat.lt_or_ge d 16 with q | q
    · exact sets_b _ hn d q
    · rw [bhi e1 q]
      constructor
      · intro h; cases h
      · omega
  rw [X10_isWhole hw hr hg e1 (fun d hd => (hb d).mp hd) ((hb 0).mpr h0) (sets_lo _ hn h0)]
  exact congrArg some (tf_c ⟨Wh_cg (fun d => hb d) (fun _ _ => rfl), Wh_cg (fun d => (hb d).symm) (fun _ _ => rfl)⟩)
/-- all but one -/
theorem X10_butWhole {c : Nat} {M : mM} {A : Bd} (hw : wf A) (hr : repR 97 M A) (hg : repG M A) (hc : c < bN A) : f_X10_isWhole ((f_X10_everyone M) &&& (((1 : Int32) <<< (nI c &&& 31)) ^^^ (-1))) M = some (tf (bN A = 1 ∨ Wh (bP A) (fun d => d < bN A ∧ d ≠ c))) := by
  have hn := hw.1
  obtain ⟨⟨-, e2⟩, e3, e4⟩ := sets_at (bN A) hn c hc
  unfold f_X10_everyone
  rw [hr.1, e2, e3]
  have hb : ∀ d, (2 ^ bN A - 1 - 2 ^ c).testBit d = true ↔ d < bN A ∧ d ≠ c := fun d => by
    rcases Nat.lt_or_ge d 16 with q | q
    · exact sets_bc _ hn c hc d q
    · rw [bhi e4 q]
      constructor
      · intro h; cases h
      · omega
  by_cases h1 : bN A = 1
  · rw [tf_y (Or.inl h1), h1, show c = 0 by omega]
    rfl
  · rw [X10_isWhole hw hr hg e4 (fun d hd => ((hb d).mp hd).1) ((hb (if c = 0 then 1 else 0)).mpr (by split <;> omega)) (sets_loc _ hn (by omega) c hc)]
    exact congrArg some (tf_c ⟨fun h => Or.inr (Wh_cg (fun d => hb d) (fun _ _ => rfl) h), fun h => Wh_cg (fun d => (hb d).symm) (fun _ _ => rfl) (h.resolve_left h1)⟩)
