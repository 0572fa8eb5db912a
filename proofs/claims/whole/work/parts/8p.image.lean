/-! THE IMAGE -/
theorem mC_at {M : mM} {a b n q i : Nat} : (mC M a b 0 0 n).1 q i = if q = b ∧ i < n then M.1 a i else M.1 q i := by
  show (if q = b ∧ 0 ≤ i ∧ i < 0 + n then M.1 a (0 + (i - 0)) else M.1 q i) = _
  by_cases h : q = b ∧ i < n
  · rw [if_pos ⟨h.1, by omega, by omega⟩, if_pos h, show 0 + (i - 0) = i by omega]
  · rw [if_neg (fun k => h ⟨k.1, by omega⟩), if_neg h]
theorem mC_ne {M : mM} {a b n q : Nat} (h : q ≠ b) : (mC M a b 0 0 n).1 q = M.1 q := by
  funext i
  rw [mC_at, if_neg (fun k => h k.1)]
theorem mC_e {M : mM} {a b n i : Nat} (h : i < n) : (mC M a b 0 0 n).1 b i = M.1 a i := by
  rw [mC_at, if_pos ⟨rfl, h⟩]
theorem mC_J {M : mM} {a b n : Nat} : (mC M a b 0 0 n).2 = M.2 := rfl
theorem mCJ_1 {M : mM} {a b n : Nat} : (mCJ M a b 0 0 n).1 = M.1 := rfl
theorem mCJ_at {M : mM} {a b n q i : Nat} : (mCJ M a b 0 0 n).2.1 q i = if q = b ∧ i < n then M.2.1 a i else M.2.1 q i := by
  show (if q = b ∧ 0 ≤ i ∧ i < 0 + n then M.2.1 a (0 + (i - 0)) else M.2.1 q i) = _
  by_cases h : q = b ∧ i < n
  · rw [if_pos ⟨h.1, by omega, by omega⟩, if_pos h, show 0 + (i - 0) = i by omega]
  · rw [if_neg (fun k => h ⟨k.1, by omega⟩), if_neg h]
/-- the CUBES are copied -/
theorem X0_copy {b q : Nat} {M : mM} (hq : q + 8 ≤ b ∨ b + 8 ≤ q) (h : ∀ i, i < 16 → is01 (M.1 (q + 4) i)) : ∃ M', f_X0_copyFrom b q M = some M' ∧ M'.2 = M.2 ∧ (∀ k, k ≠ b → k ≠ b + 1 → k ≠ b + 2 → k ≠ b + 3 → k ≠ b + 4 → k ≠ b + 6 → M'.1 k = M.1 k) ∧ (∀ i, i ≠ 0 → M'.1 b i = M.1 b i) ∧ M'.1 b 0 = M.1 q 0 ∧ (∀ k i, 1 ≤ k → k ≤ 4 → i < 16 → M'.1 (b + k) i = M.1 (q + k) i) ∧ ∀ i, i < 120 → M'.1 (b + 6) i = M.1 (q + 6) i := by
  refine ⟨mC (mC (mC (mC (mC (mI M b 0 (M.1 q 0)) (q + 1) (b + 1) 0 0 16) (q + 2) (b + 2) 0 0 16) (q + 3) (b + 3) 0 0 16) (q + 4) (b + 4) 0 0 16) (q + 6) (b + 6) 0 0 120, ?_, rfl, fun k k0 k1 k2 k3 k4 k6 => ?_, fun i hi => ?_, ?_, fun k i k1 k4 hi => ?_, fun i hi => ?_⟩
  · unfold f_X0_copyFrom
    simp only [mlt_s]
    rw [mgd_s]
    intro i hi
    rw [mC_ne (by omega), mC_ne (by omega), mC_ne (by omega), mI_ne (by omega), show 0 + i = i by omega]
    exact h i hi
  · rw [mC_ne k6, mC_ne k4, mC_ne k3, mC_ne k2, mC_ne k1, mI_ne k0]
  · rw [mC_ne (by omega), mC_ne (by omega), mC_ne (by omega), mC_ne (by omega), mC_ne (by omega), mI_n (by omega)]
  · rw [mC_ne (by omega), mC_ne (by omega), mC_ne (by omega), mC_ne (by omega), mC_ne (by omega), mI_e]
  · rcases (show k = 1 ∨ k = 2 ∨ k = 3 ∨ k = 4 by omega) with rfl | rfl | rfl | rfl
    · rw [mC_ne (by omega), mC_ne (by omega), mC_ne (by omega), mC_ne (by omega), mC_e hi, mI_ne (by omega)]
    · rw [mC_ne (by omega), mC_ne (by omega), mC_ne (by omega), mC_e hi, mC_ne (by omega), mI_ne (by omega)]
    · rw [mC_ne (by omega), mC_ne (by omega), mC_e hi, mC_ne (by omega), mC_ne (by omega), mI_ne (by omega)]
    · rw [mC_ne (by omega), mC_e hi, mC_ne (by omega), mC_ne (by omega), mC_ne (by omega), mI_ne (by omega)]
  · rw [mC_e hi, mC_ne (by omega), mC_ne (by omega), mC_ne (by omega), mC_ne (by omega), mI_ne (by omega)]
theorem repB_cp {b q : Nat} {M M' : mM} {A : Bd} (hn : bN A ≤ 16) (h0 : M'.1 b 0 = M.1 q 0) (hk : ∀ k i, 1 ≤ k → k ≤ 4 → i < 16 → M'.1 (b + k) i = M.1 (q + k) i) (h6 : ∀ i, i < 120 → M'.1 (b + 6) i = M.1 (q + 6) i) (h : repB q M A) : repB b M' A := by
  obtain ⟨b0, b1, b2, b3, b4, b6⟩ := h
  exact ⟨h0.trans b0, fun c hc => (hk 1 c (by omega) (by omega) (by omega)).trans (b1 c hc), fun c hc => (hk 2 c (by omega) (by omega) (by omega)).trans (b2 c hc), fun c hc => (hk 3 c (by omega) (by omega) (by omega)).trans (b3 c hc), fun c hc => (hk 4 c (by omega) (by omega) (by omega)).trans (b4 c hc), fun p hp => (h6 p hp).trans (b6 p hp)⟩
theorem X2_copy {b q : Nat} {M : mM} (hq : q + 4 ≤ b ∨ b + 4 ≤ q) (h : ∀ i, i < 40 → is01 (M.1 (q + 3) i)) : ∃ M', f_X2_copyFrom b q M = some M' ∧ M'.2 = M.2 ∧ (∀ k, k ≠ b → k ≠ b + 1 → k ≠ b + 2 → k ≠ b + 3 → M'.1 k = M.1 k) ∧ M'.1 b 0 = M.1 q 0 ∧ ∀ k i, 1 ≤ k → k ≤ 3 → i < 40 → M'.1 (b + k) i = M.1 (q + k) i := by
  refine ⟨mC (mC (mC (mI M b 0 (M.1 q 0)) (q + 1) (b + 1) 0 0 40) (q + 2) (b + 2) 0 0 40) (q + 3) (b + 3) 0 0 40, ?_, rfl, fun k k0 k1 k2 k3 => ?_, ?_, fun k i k1 k4 hi => ?_⟩
  · unfold f_X2_copyFrom
    simp only [mlt_s]
    rw [mgd_s]
    intro i hi
    rw [mC_ne (by omega), mC_ne (by omega), mI_ne (by omega), show 0 + i = i by omega]
    exact h i hi
  · rw [mC_ne k3, mC_ne k2, mC_ne k1, mI_ne k0]
  · rw [mC_ne (by omega), mC_ne (by omega), mC_ne (by omega), mI_e]
  · rcases (show k = 1 ∨ k = 2 ∨ k = 3 by omega) with rfl | rfl | rfl
    · rw [mC_ne (by omega), mC_ne (by omega), mC_e hi, mI_ne (by omega)]
    · rw [mC_ne (by omega), mC_e hi, mC_ne (by omega), mI_ne (by omega)]
    · rw [mC_e hi, mC_ne (by omega), mC_ne (by omega), mI_ne (by omega)]
/-- what a copied world holds -/
def wCp (b q : Nat) (M M' : mM) : Prop := (∀ j, j = 1 ∨ j = 6 ∨ j = 8 → M'.1 b j = M.1 q j) ∧ M'.1 (b + 1) 0 = M.1 (q + 1) 0 ∧ (∀ k i, 2 ≤ k → k ≤ 5 → i < 16 → M'.1 (b + k) i = M.1 (q + k) i) ∧ (∀ i, i < 120 → M'.1 (b + 7) i = M.1 (q + 7) i) ∧ (∀ k i, 9 ≤ k → k ≤ 12 → i < 16 → M'.1 (b + k) i = M.1 (q + k) i) ∧ (∀ i, i < 16 → M'.2.1 (b + 13) i = M.2.1 (q + 13) i) ∧ (∀ k i, 15 ≤ k → k ≤ 22 → i < 90 → M'.1 (b + k) i = M.1 (q + k) i) ∧ (∀ i, i < 8 → M'.1 (b + 23) i = M.1 (q + 23) i) ∧ (∀ k, k = 24 ∨ k = 28 → M'.1 (b + k) 0 = M.1 (q + k) 0) ∧ ∀ k i, (25 ≤ k ∧ k ≤ 27) ∨ (29 ≤ k ∧ k ≤ 31) → i < 40 → M'.1 (b + k) i = M.1 (q + k) i
theorem X8_copy_lp {b q j : Nat} {M : mM} (hq : q + 32 ≤ b ∨ b + 32 ≤ q) (h3 : ∀ i, i < 40 → is01 (M.1 (q + 27) i)) (h4 : ∀ i, i < 40 → is01 (M.1 (q + 31) i)) (d : Nat) : ∀ i M1, i + d = 8 → M1.2 = M.2 → (∀ k, ¬ (b + 15 ≤ k ∧ k < b + 15 + i) → M1.1 k = M.1 k) → (∀ k x, k < i → x < 90 → M1.1 (b + 15 + k) x = M.1 (q + 15 + k) x) → ∃ M', f_X8_copyFrom_b112 (j + d + 1) b q (nI i) M1 = some M' ∧ M'.2 = M.2 ∧ (∀ k, ¬ (b + 15 ≤ k ∧ k < b + 32) → M'.1 k = M.1 k) ∧ (∀ k x, k < 8 → x < 90 → M'.1 (b + 15 + k) x = M.1 (q + 15 + k) x) ∧ (∀ x, x < 8 → M'.1 (b + 23) x = M.1 (q + 23) x) ∧ (∀ k, k = 24 ∨ k = 28 → M'.1 (b + k) 0 = M.1 (q + k) 0) ∧ ∀ k x, (25 ≤ k ∧ k ≤ 27) ∨ (29 ≤ k ∧ k ≤ 31) → x < 40 → M'.1 (b + k) x = M.1 (q + k) x := by
  induction d with
  | zero =>
    intro i M1 hi hJ hk hx
    have q1 : ∀ k, q + 23 ≤ k → k < q + 32 → M1.1 k = M.1 k := fun k a c => hk k (by omega)
    obtain ⟨M2, m1, m2, m3, m4, m5⟩ := X2_copy (b := b + 24) (q := q + 24) (M := mC M1 (q + 23) (b + 23) 0 0 8) (by omega) (fun x hx2 => by rw [mC_ne (by omega), q1 _ (by omega) (by omega)]; exact h3 x hx2)
    obtain ⟨M3, n1, n2, n3, n4, n5⟩ := X2_copy (b := b + 28) (q := q + 28) (M := M2) (by omega) (fun x hx2 => by rw [m3 _ (by omega) (by omega) (by omega) (by omega), mC_ne (by omega), q1 _ (by omega) (by omega)]; exact h4 x hx2)
    refine ⟨M3, ?_, n2.trans (m2.trans hJ), fun k hk2 => ?_, fun k x hk2 hx2 => ?_, fun x hx2 => ?_, fun k hk2 => ?_, fun k x hk2 hx2 => ?_⟩
    · rw [f_X8_copyFrom_b112, if_pos ((lle (m := 8) (by decide) (by omega)).mpr (show 8 ≤ _ by omega)), mlt_s, m1, mbp_s, n1, mbp_s]
    · rw [n3 _ (by omega) (by omega) (by omega) (by omega), m3 _ (by omega) (by omega) (by omega) (by omega), mC_ne (by omega), hk k (by omega)]
    · rw [n3 _ (by omega) (by omega) (by omega) (by omega), m3 _ (by omega) (by omega) (by omega) (by omega), mC_ne (by omega), hx k x (by omega) hx2]
    · rw [n3 _ (by omega) (by omega) (by omega) (by omega), m3 _ (by omega) (by omega) (by omega) (by omega), mC_e hx2, q1 _ (by omega) (by omega)]
    · rcases hk2 with rfl | rfl
      · rw [n3 _ (by omega) (by omega) (by omega) (by omega), m4, mC_ne (by omega), q1 _ (by omega) (by omega)]
      · rw [n4, m3 _ (by omega) (by omega) (by omega) (by omega), mC_ne (by omega), q1 _ (by omega) (by omega)]
    · by_cases e : k ≤ 27
      · obtain ⟨o, rfl⟩ : ∃ o, k = 24 + o := ⟨k - 24, by omega⟩
        have := m5 o x (by omega) (by omega) hx2
        rw [n3 _ (by omega) (by omega) (by omega) (by omega), show b + (24 + o) = b + 24 + o by omega, this, show q + 24 + o = q + (24 + o) by omega, mC_ne (by omega), q1 _ (by omega) (by omega)]
      · obtain ⟨o, rfl⟩ : ∃ o, k = 28 + o := ⟨k - 28, by omega⟩
        have := n5 o x (by omega) (by omega) hx2
        rw [show b + (28 + o) = b + 28 + o by omega, this, show q + 28 + o = q + (28 + o) by omega, m3 _ (by omega) (by omega) (by omega) (by omega), mC_ne (by omega), q1 _ (by omega) (by omega)]
  | succ d ih =>
    intro i M1 hi hJ hk hx
    have r := ih (i + 1) (mC M1 (q + 15 + i) (b + 15 + i) 0 0 90) (by omega) hJ (fun k hk2 => by rw [mC_ne (by omega), hk k (by omega)]) (fun k x hk2 hx2 => by
      by_cases e : k = i
      · rw [e, mC_e hx2, hk _ (by omega)]
      · rw [mC_ne (by omega), hx k x (by omega) hx2])
    rw [f_X8_copyFrom_b112, if_neg (fun q => by have : 8 ≤ _ := (lle (m := 8) (by decide) (by omega)).mp q; omega), mgd_s ((nin (by omega)).mpr (by omega)), mlt_s, mgd_s ((nin (by omega)).mpr (by omega)), mlt_s, mlt_s, nI_1, mlt_s, ncl (by omega)]
    exact r
theorem X8_copy {b q : Nat} {M : mM} (hq : q + 32 ≤ b ∨ b + 32 ≤ q) (h2 : ∀ i, i < 16 → is01 (M.1 (q + 5) i)) (h3 : ∀ i, i < 40 → is01 (M.1 (q + 27) i)) (h4 : ∀ i, i < 40 → is01 (M.1 (q + 31) i)) : ∃ M', f_X8_copyFrom b q M = some M' ∧ wCp b q M M' ∧ (∀ k, ¬ (b ≤ k ∧ k < b + 32) → M'.1 k = M.1 k) ∧ ∀ k, k ≠ b + 13 → M'.2.1 k = M.2.1 k := by
  obtain ⟨M1, m1, m2, m3, m4, m5, m6, m7⟩ := X0_copy (b := b + 1) (q := q + 1) (M := M) (by omega) h2
  obtain ⟨j, hj⟩ := mN_ge (k := 9) (by omega)
  have hj : mN = j + 8 + 1 := by omega
  generalize hM2 : mI (mCJ (mI (mC (mC (mC (mC (mI M1 b 1 (M.1 q 1)) (q + 9) (b + 9) 0 0 16) (q + 10) (b + 10) 0 0 16) (q + 11) (b + 11) 0 0 16) (q + 12) (b + 12) 0 0 16) b 6 (M.1 q 6)) (q + 13) (b + 13) 0 0 16) b 8 (M.1 q 8) = M2
  have qr : ∀ k, q ≤ k → k < q + 32 → M1.1 k = M.1 k := fun k a c => m3 k (by omega) (by omega) (by omega) (by omega) (by omega) (by omega)
  have r1 : ∀ k, k ≠ b → ¬ (b + 9 ≤ k ∧ k ≤ b + 12) → M2.1 k = M1.1 k := fun k a c => by
    rw [← hM2, mI_ne a, mCJ_1, mI_ne a, mC_ne (by omega), mC_ne (by omega), mC_ne (by omega), mC_ne (by omega), mI_ne a]
  have r2 : M2.1 b 1 = M.1 q 1 ∧ M2.1 b 6 = M.1 q 6 ∧ M2.1 b 8 = M.1 q 8 := by
    rw [← hM2]
    refine ⟨?_, ?_, mI_e⟩
    · rw [mI_n (by omega), mCJ_1, mI_n (by omega), mC_ne (by omega), mC_ne (by omega), mC_ne (by omega), mC_ne (by omega), mI_e]
    · rw [mI_n (by omega), mCJ_1, mI_e]
  have r3 : ∀ k i, 9 ≤ k → k ≤ 12 → i < 16 → M2.1 (b + k) i = M.1 (q + k) i := fun k i a c hi => by
    rw [← hM2, mI_ne (by omega), mCJ_1, mI_ne (by omega)]
    rcases (show k = 9 ∨ k = 10 ∨ k = 11 ∨ k = 12 by omega) with rfl | rfl | rfl | rfl
    · rw [mC_ne (by omega), mC_ne (by omega), mC_ne (by omega), mC_e hi, mI_ne (by omega), qr _ (by omega) (by omega)]
    · rw [mC_ne (by omega), mC_ne (by omega), mC_e hi, mC_ne (by omega), mI_ne (by omega), qr _ (by omega) (by omega)]
    · rw [mC_ne (by omega), mC_e hi, mC_ne (by omega), mC_ne (by omega), mI_ne (by omega), qr _ (by omega) (by omega)]
    · rw [mC_e hi, mC_ne (by omega), mC_ne (by omega), mC_ne (by omega), mI_ne (by omega), qr _ (by omega) (by omega)]
  have r4 : ∀ k i, M2.2.1 k i = if k = b + 13 ∧ i < 16 then M.2.1 (q + 13) i else M.2.1 k i := fun k i => by
    rw [← hM2]
    show (mCJ (mI (mC (mC (mC (mC (mI M1 b 1 (M.1 q 1)) (q + 9) (b + 9) 0 0 16) (q + 10) (b + 10) 0 0 16) (q + 11) (b + 11) 0 0 16) (q + 12) (b + 12) 0 0 16) b 6 (M.1 q 6)) (q + 13) (b + 13) 0 0 16).2.1 k i = _
    rw [mCJ_at]
    show (if k = b + 13 ∧ i < 16 then M1.2.1 (q + 13) i else M1.2.1 k i) = _
    rw [m2]
  have qr2 : ∀ k, q + 13 ≤ k → k < q + 32 → M2.1 k = M.1 k := fun k a c => (r1 k (by omega) (by omega)).trans (qr k (by omega) c)
  obtain ⟨M3, n1, n2, n3, n4, n5, n6, n7⟩ := X8_copy_lp (j := j) (b := b) (q := q) (M := M2) hq (fun i hi => by rw [qr2 _ (by omega) (by omega)]; exact h3 i hi) (fun i hi => by rw [qr2 _ (by omega) (by omega)]; exact h4 i hi) 8 0 M2 rfl rfl (fun _ _ => rfl) (fun k x hk => absurd hk (Nat.not_lt_zero k))
  refine ⟨M3, ?_, ⟨fun i hi => ?_, ?_, fun k i a c hi => ?_, fun i hi => ?_, fun k i a c hi => ?_, fun i hi => ?_, fun k i a c hi => ?_, fun i hi => ?_, fun k hk => ?_, fun k i hk hi => ?_⟩, fun k hk => ?_, fun k hk => ?_⟩
  · unfold f_X8_copyFrom
    rw [m1, mbp_s, mlt_s, mlt_s, mlt_s, mlt_s, mlt_s, mlt_s, mlt_s, mlt_s, qr q (by omega) (by omega)]
    have s6 : (mC (mC (mC (mC (mI M1 b 1 (M.1 q 1)) (q + 9) (b + 9) 0 0 16) (q + 10) (b + 10) 0 0 16) (q + 11) (b + 11) 0 0 16) (q + 12) (b + 12) 0 0 16).1 q 6 = M.1 q 6 := by
      rw [mC_ne (by omega), mC_ne (by omega), mC_ne (by omega), mC_ne (by omega), mI_n (by omega), qr q (by omega) (by omega)]
    rw [s6]
    have s8 : (mCJ (mI (mC (mC (mC (mC (mI M1 b 1 (M.1 q 1)) (q + 9) (b + 9) 0 0 16) (q + 10) (b + 10) 0 0 16) (q + 11) (b + 11) 0 0 16) (q + 12) (b + 12) 0 0 16) b 6 (M.1 q 6)) (q + 13) (b + 13) 0 0 16).1 q 8 = M.1 q 8 := by
      rw [mCJ_1, mI_n (by omega), mC_ne (by omega), mC_ne (by omega), mC_ne (by omega), mC_ne (by omega), mI_n (by omega), qr q (by omega) (by omega)]
    rw [s8, hM2, hj]
    exact n1
  · rw [n3 b (by omega)]
    rcases hi with rfl | rfl | rfl
    · exact r2.1
    · exact r2.2.1
    · exact r2.2.2
  · rw [n3 _ (by omega), r1 _ (by omega) (by omega)]; exact m5
  · obtain ⟨o, rfl⟩ : ∃ o, k = 1 + o := ⟨k - 1, by omega⟩
    have := m6 o i (by omega) (by omega) hi
    rw [n3 _ (by omega), r1 _ (by omega) (by omega), show b + (1 + o) = b + 1 + o by omega, show q + (1 + o) = q + 1 + o by omega]
    exact this
  · rw [n3 _ (by omega), r1 _ (by omega) (by omega)]; exact m7 i hi
  · rw [n3 _ (by omega)]; exact r3 k i a c hi
  · rw [n2, r4, if_pos ⟨rfl, hi⟩]
  · obtain ⟨o, rfl⟩ : ∃ o, k = 15 + o := ⟨k - 15, by omega⟩
    have := n4 o i (by omega) hi
    rw [show b + (15 + o) = b + 15 + o by omega, show q + (15 + o) = q + 15 + o by omega, this, qr2 _ (by omega) (by omega)]
  · rw [n5 i hi, qr2 _ (by omega) (by omega)]
  · rw [n6 k hk, qr2 _ (by omega) (by omega)]
  · rw [n7 k i hk hi, qr2 _ (by omega) (by omega)]
  · rw [n3 k (by omega), r1 k (by omega) (by omega), m3 k (by omega) (by omega) (by omega) (by omega) (by omega) (by omega)]
  · rw [n2]
    funext i
    rw [r4, if_neg (fun x => hk x.1)]
/-- a copied world, and a copied row of the reference, stand to one another as before -/
theorem wA_cp {b q k k' : Nat} {M M' : mM} {K : Kt} (hB : wCp b q M M') (hR : ∀ j, j < 1834 → M'.1 k' j = M.1 k j) (h : wA q k M K) : wA b k' M' K := by
  obtain ⟨⟨hw, hb, hr, h01⟩, ⟨t1, t2, t3⟩, hV, hH, ⟨p1, p2, p3, p4⟩, ⟨s1, s2, s3, s4⟩, ⟨n1, n2, n3, n4, n5⟩, ⟨l1, l2, l3, l4, l5⟩, hO, hW⟩ := h
  obtain ⟨c0, c1, c2, c3, c4, c5, c6, c7, c8, c9⟩ := hB
  have hn := hw.1
  obtain ⟨r0, r1, r2, r3, r4, r5⟩ := hr
  refine ⟨⟨hw, repB_cp hn c1 (fun x i a a' hi => ?_) c3 hb, ⟨?_, fun c hc => ?_, fun c hc => ?_, fun c hc => ?_, fun c hc => ?_, fun c hc => ?_⟩, fun i hi => ?_⟩, ⟨t1, ?_, ?_⟩, fun c hc => ?_, fun c hc => ?_, ⟨p1, ?_, ?_, fun j hj => ?_⟩, ⟨s1, ?_, ?_, fun j hj => ?_⟩, ⟨n1, ?_, ?_, fun i hi => ?_, fun i hi => ?_⟩, ⟨l1, ?_, ?_, fun i hi => ?_, fun i hi => ?_⟩, fun i j hij hj => ?_, hW⟩
  · have := c2 (1 + x) i (by omega) (by omega) hi
    rw [show b + 1 + x = b + (1 + x) by omega, show q + 1 + x = q + (1 + x) by omega]
    exact this
  · rw [hR _ (by omega)]; exact r0
  · rw [hR _ (by omega)]; exact r1 c hc
  · rw [hR _ (by omega)]; exact r2 c hc
  · rw [hR _ (by omega)]; exact r3 c hc
  · rw [hR _ (by omega)]; exact r4 c hc
  · rw [hR _ (by omega)]; exact r5 c hc
  · rw [c2 5 i (by omega) (by omega) hi]; exact h01 i hi
  · rw [c0 1 (by omega)]; exact t2
  · rw [hR _ (by omega)]; exact t3
  · rw [c4 9 c (by omega) (by omega) (by omega), c4 10 c (by omega) (by omega) (by omega), c4 11 c (by omega) (by omega) (by omega), hR _ (by omega), hR _ (by omega)]
    exact hV c hc
  · rw [c4 12 c (by omega) (by omega) (by omega), hR _ (by omega)]
    exact hH c hc
  · rw [c0 8 (by omega)]; exact p2
  · rw [hR _ (by omega)]; exact p3
  · obtain ⟨N, x1, x2, x3, x4, x5⟩ := p4 j hj
    refine ⟨N, x1, by rw [c7 j (by omega)]; exact x2, by rw [hR _ (by omega)]; exact x3, fun i hi => ?_, ?_⟩
    · have := c6 (15 + j) i (by omega) (by omega) (by omega)
      rw [show b + 15 + j = b + (15 + j) by omega, this, hR _ (by omega), show q + (15 + j) = q + 15 + j by omega]
      exact x4 i hi
    · rw [lk_cg (T := rg k (874 + 90 * j) M) (T' := rg k' (874 + 90 * j) M') (fun i hi => hR _ (by omega))]
      exact x5
  · rw [c0 6 (by omega)]; exact s2
  · rw [hR _ (by omega)]; exact s3
  · obtain ⟨N, x1, x3, x4, x5⟩ := s4 j hj
    refine ⟨N, x1, by rw [hR _ (by omega)]; exact x3, ?_⟩
    rw [lk_cg (T := rg k (154 + 90 * j) M) (T' := rg k' (154 + 90 * j) M') (fun i hi => hR _ (by omega))]
    refine ⟨x4, fun h hh => ?_⟩
    rw [c5 _ (by omega)]
    exact x5 h hh
  · rw [c8 28 (by omega)]; exact n2
  · rw [hR _ (by omega)]; exact n3
  · rw [show b + 28 + 1 = b + 29 from rfl, show b + 28 + 2 = b + 30 from rfl, show b + 28 + 3 = b + 31 from rfl, c9 29 i (by omega) (by omega), c9 30 i (by omega) (by omega), c9 31 i (by omega) (by omega), hR _ (by omega), hR _ (by omega), hR _ (by omega)]
    exact n4 i hi
  · rw [show b + 28 + 3 = b + 31 from rfl, c9 31 i (by omega) (by omega)]; exact n5 i hi
  · rw [c8 24 (by omega)]; exact l2
  · rw [hR _ (by omega)]; exact l3
  · rw [show b + 24 + 1 = b + 25 from rfl, show b + 24 + 2 = b + 26 from rfl, show b + 24 + 3 = b + 27 from rfl, c9 25 i (by omega) (by omega), c9 26 i (by omega) (by omega), c9 27 i (by omega) (by omega), hR _ (by omega), hR _ (by omega), hR _ (by omega)]
    exact l4 i hi
  · rw [show b + 24 + 3 = b + 27 from rfl, c9 27 i (by omega) (by omega)]; exact l5 i hi
  · rw [show b + 24 + 2 = b + 26 from rfl, c9 26 i (by omega) (by omega), c9 26 j (by omega) (by omega)]
    exact hO i j hij hj
theorem img_lp {j : Nat} {M : mM} {v : Int32} (hv : M.1 97 5 = v) (d : Nat) : ∀ i L, i + d = 1834 → (∀ k, k < i → L k = M.1 97 k) → ∃ L', f_X10_image_b2 (j + d + 1) (nI i) (sR M 98 L) = some (v, mI (sR M 98 L') 96 3 1) ∧ ∀ k, k < 1834 → L' k = M.1 97 k := by
  induction d with
  | zero =>
    intro i L hi hL
    refine ⟨L, ?_, fun k hk => hL k (by omega)⟩
    rw [f_X10_image_b2, if_pos ((lle (m := 1834) (by decide) (by omega)).mpr (show 1834 ≤ _ by omega)), mlt_s, mI_n (by omega), sR_n (by omega), hv]
  | succ d ih =>
    intro i L hi hL
    obtain ⟨L', l1, l2⟩ := ih (i + 1) (up L i (M.1 97 i)) (by omega) (fun k hk => by
      by_cases e : k = i
      · rw [e, up_e]
      · rw [up_n e]; exact hL k (by omega))
    refine ⟨L', ?_, l2⟩
    rw [f_X10_image_b2, if_neg (fun q => by have : 1834 ≤ _ := (lle (m := 1834) (by decide) (by omega)).mp q; omega), mgd_s ((nin (by omega)).mpr (by omega)), mgd_s ((nin (by omega)).mpr (by omega)), ncl (by omega), sR_n (by omega), mI_R, mlt_s, nI_1, mlt_s]
    exact l1
theorem op_image {M : mM} (hI : Inv M) : ∃ M', f_law_c23 M = some M' ∧ Inv M' := by
  obtain ⟨⟨K, hA, hG⟩, hIm, hSh, h74⟩ := id hI
  obtain ⟨M1, m1, m2, m3, m4⟩ := X8_copy (b := 33) (q := 1) (M := M) (by omega) hA.1.2.2.2 hA.2.2.2.2.2.2.2.1.2.2.2.2 hA.2.2.2.2.2.2.1.2.2.2.2
  have t1 : M1.1 1 1 = nI K.2.1 := by rw [m3 1 (by omega)]; exact hA.2.1.2.1
  have t2 : (mI M1 0 2 1).1 97 5 = nI K.2.1 := by rw [mI_ne (by omega), m3 97 (by omega)]; exact hA.2.1.2.2
  obtain ⟨j, hj⟩ := mN_ge (k := 1835) (by omega)
  have hj : mN = j + 1834 + 1 := by omega
  obtain ⟨L, l1, l2⟩ := img_lp (j := j) (M := mI M1 0 2 1) t2 1834 0 ((mI M1 0 2 1).1 98) rfl (fun k hk => absurd hk (Nat.not_lt_zero k))
  rw [sR_self, ← hj] at l1
  have l1 : f_X10_image (mI M1 0 2 1) = _ := l1
  have e1 : f_X9_image M = some (nI K.2.1, mI M1 0 2 1) := by
    unfold f_X9_image
    rw [m1, mbp_s, mlt_s, mI_n (by omega), t1]
  unfold f_law_c23
  rw [e1, mbw_s, l1, mbw_s, if_pos rfl]
  have fr : ∀ q, q ≠ 0 → ¬ (33 ≤ q ∧ q < 65) → q ≠ 98 → q ≠ 96 → (mI (sR (mI M1 0 2 1) 98 L) 96 3 1).1 q = M.1 q := fun q a b c d => by rw [mI_ne d, sR_n c, mI_ne a, m3 q (by omega)]
  have frJ : ∀ q, q ≠ 46 → (mI (sR (mI M1 0 2 1) 98 L) 96 3 1).2.1 q = M.2.1 q := fun q a => m4 q (by omega)
  refine ⟨_, rfl, ⟨K, wA_fr (fun q hq => fr q (by unfold cnt at hq; omega) (by unfold cnt at hq; omega) (by unfold cnt at hq; omega) (by unfold cnt at hq; omega)) (frJ _ (by omega)) (fun j _ => by rw [fr 97 (by omega) (by omega) (by omega) (by omega)]) hA, repG_fr (fr 99 (by omega) (by omega) (by omega) (by omega)) hG⟩, Or.inr ⟨?_, mI_e, K, ?_⟩, fun d hd => iS_fr (fun q hq => fr q (by omega) (by omega) (by omega) (by omega)) (hSh d hd), fun p hp hg => ?_⟩
  · rw [mI_n (by omega), sR_n (by omega)]; exact mI_e
  · have cp : wA 33 98 (sR (mI M1 0 2 1) 98 L) K := by
      have a1 : wCp 33 1 M (sR (mI M1 0 2 1) 98 L) := by
        obtain ⟨c0, c1, c2, c3, c4, c5, c6, c7, c8, c9⟩ := m2
        have z : ∀ q, q ≠ 0 → q ≠ 98 → (sR (mI M1 0 2 1) 98 L).1 q = M1.1 q := fun q a b => by rw [sR_n b, mI_ne a]
        refine ⟨fun j hj => ?_, ?_, fun k i a b hi => ?_, fun i hi => ?_, fun k i a b hi => ?_, c5, fun k i a b hi => ?_, fun i hi => ?_, fun k hk => ?_, fun k i hk hi => ?_⟩
        · rw [z _ (by omega) (by omega)]; exact c0 j hj
        · rw [z _ (by omega) (by omega)]; exact c1
        · rw [z _ (by omega) (by omega)]; exact c2 k i a b hi
        · rw [z _ (by omega) (by omega)]; exact c3 i hi
        · rw [z _ (by omega) (by omega)]; exact c4 k i a b hi
        · rw [z _ (by omega) (by omega)]; exact c6 k i a b hi
        · rw [z _ (by omega) (by omega)]; exact c7 i hi
        · rw [z _ (by omega) (by omega)]; exact c8 k hk
        · rw [z _ (by omega) (by omega)]; exact c9 k i hk hi
      exact wA_cp a1 (fun j hj => by rw [sR_e, l2 j hj, mI_ne (by omega), m3 97 (by omega)]) hA
    exact wA_fr (fun q hq => mI_ne (by unfold cnt at hq; omega)) rfl (fun j _ => by rw [mI_ne (by omega)]) cp
  · rw [fr 74 (by omega) (by omega) (by omega) (by omega)]
    exact h74 p hp hg
