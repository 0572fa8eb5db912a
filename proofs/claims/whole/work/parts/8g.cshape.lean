/-! the class reads a SHAPE: one half of the grid as a set of bits -/
theorem bits_or {a b : Int64} {f g : Nat → Prop} (h1 : bits a f) (h2 : bits b g) : bits (a ||| b) (fun j => f j ∨ g j) := by
  intro j hj
  rw [Int64.toBitVec_or, BitVec.getLsbD_or, Bool.or_eq_true, h1 j hj, h2 j hj]
  grind
theorem bits_and {a b : Int64} {f g : Nat → Prop} (h1 : bits a f) (h2 : bits b g) : bits (a &&& b) (fun j => f j ∧ g j) := by
  intro j hj
  rw [Int64.toBitVec_and, BitVec.getLsbD_and, Bool.and_eq_true, h1 j hj, h2 j hj]
  grind
theorem bit_m1 : ∀ j, j < 64 → (-1 : Int64).toBitVec.getLsbD j = true := by decide +kernel
theorem bit_full : ∀ j, j < 64 → (1099511627775 : Int64).toBitVec.getLsbD j = decide (j < 40) := by decide +kernel
theorem bits_andn {a b : Int64} {f g : Nat → Prop} (h1 : bits a f) (h2 : bits b g) : bits (a &&& (b ^^^ (-1))) (fun j => f j ∧ ¬ g j) := by
  intro j hj
  rw [Int64.toBitVec_and, BitVec.getLsbD_and, Int64.toBitVec_xor, BitVec.getLsbD_xor, bit_m1 j hj, Bool.and_eq_true, h1 j hj]
  have := h2 j hj
  cases hb : b.toBitVec.getLsbD j
  · rw [hb] at this; grind
  · rw [hb] at this; grind
theorem bits_not {b : Int64} {g : Nat → Prop} (h2 : bits b g) : bits (1099511627775 &&& (b ^^^ (-1))) (fun j => ¬ g j) := by
  intro j hj
  rw [Int64.toBitVec_and, BitVec.getLsbD_and, Int64.toBitVec_xor, BitVec.getLsbD_xor, bit_m1 j hj, bit_full j hj, Bool.and_eq_true]
  have := h2 j hj
  cases hb : b.toBitVec.getLsbD j
  · rw [hb] at this; grind
  · rw [hb] at this; grind
theorem bits_cg {a : Int64} {f g : Nat → Prop} (h : ∀ j, j < 40 → (f j ↔ g j)) (h1 : bits a f) : bits a g := by
  intro j hj
  rw [h1 j hj]
  constructor
  · rintro ⟨a, b⟩; exact ⟨a, (h j a).mp b⟩
  · rintro ⟨a, b⟩; exact ⟨a, (h j a).mpr b⟩
theorem bits_0 : bits 0 (fun _ => False) := by
  intro j hj
  have : ∀ j, j < 64 → (0 : Int64).toBitVec.getLsbD j = false := by decide +kernel
  rw [this j hj]
  grind
theorem bit_1 : ∀ k, k < 40 → ∀ j, j < 64 → ((1 : Int64) <<< (Int32.toInt64 (nI k) &&& 63)).toBitVec.getLsbD j = decide (j = k) := by decide +kernel
theorem bits_1 {k : Nat} (hk : k < 40) : bits ((1 : Int64) <<< (Int32.toInt64 (nI k) &&& 63)) (fun j => j = k) := by
  intro j hj
  rw [bit_1 k hk j hj]
  grind
/-- a place of a box, that counts -/
abbrev bxc (brd : Int32) (x0 y0 x1 y1 x y : Nat) : Prop := brd = 0 ∨ x = x0 ∨ x = x1 ∨ y = y0 ∨ y = y1
theorem X5_box_st {k42 : Int32 → Int32 → Int32 → Int32 → Int32 → Int32 → Int64 → Int32 → mM → Option (Int64 × mM)} {n h x0 y0 x1 y1 x y : Nat} {brd : Int32} {C : Int64} {M : mM} {g : Nat → Prop} (hx0 : x0 < 10) (hx1 : x1 < 10) (hy0 : y0 < 8) (hy1 : y1 < 8) (hx : x < 10) (hy : y ≤ y1) (hh : h < 2) (hb : is01 brd) (hC : bits C g) : ∃ C', f_X5_readBox_b60 k42 (n + 1) (nI h) brd (nI x0) (nI y0) (nI x1) (nI y1) C (nI x) (nI y) M = f_X5_readBox_b60 k42 n (nI h) brd (nI x0) (nI y0) (nI x1) (nI y1) C' (nI x) (nI (y + 1)) M ∧ bits C' (fun j => g j ∨ ((j % 10 = x ∧ 4 * h + j / 10 = y) ∧ bxc brd x0 y0 x1 y1 x y)) := by
  rw [f_X5_readBox_b60, if_neg (fun q => by have := (nlt (by omega) (by omega)).mp q; omega), if_neg (fun q => by have : 8 ≤ _ := (lle (m := 8) (by decide) (by omega)).mp q; omega)]
  have skip : ¬ (y / 4 = h ∧ bxc brd x0 y0 x1 y1 x y) → bits C (fun j => g j ∨ ((j % 10 = x ∧ 4 * h + j / 10 = y) ∧ bxc brd x0 y0 x1 y1 x y)) := fun hn => bits_cg (fun j hj => ⟨Or.inl, fun q => q.elim id (fun q => absurd ⟨by omega, q.2⟩ hn)⟩) hC
  have b106 : ∀ s0 : Int32, is01 s0 → (brd = 0 ∨ s0 = 1 ↔ bxc brd x0 y0 x1 y1 x y) → ∃ C', f_X5_readBox_b106 (f_X5_readBox_b60 k42 n) (nI h) brd (nI x0) (nI y0) (nI x1) (nI y1) C (nI x) (nI y) s0 M = f_X5_readBox_b60 k42 n (nI h) brd (nI x0) (nI y0) (nI x1) (nI y1) C' (nI x) (nI (y + 1)) M ∧ bits C' (fun j => g j ∨ ((j % 10 = x ∧ 4 * h + j / 10 = y) ∧ bxc brd x0 y0 x1 y1 x y)) := fun s0 hs0 hs => by
    unfold f_X5_readBox_b106 f_X5_readBox_b125
    rw [divL (by omega) (by decide), nI_1]
    by_cases e : y / 4 = h
    · rw [if_pos (by rw [e])]
      have yes : bxc brd x0 y0 x1 y1 x y → ∃ C', (mlt (C ||| (1 : Int64) <<< (Int32.toInt64 ((nI y - nI (y / 4) * 4) * 10 + nI x) &&& 63)) fun x140 => mlt (nI (y + 1)) fun x142 => f_X5_readBox_b60 k42 n (nI h) brd (nI x0) (nI y0) (nI x1) (nI y1) x140 (nI x) x142 M) = f_X5_readBox_b60 k42 n (nI h) brd (nI x0) (nI y0) (nI x1) (nI y1) C' (nI x) (nI (y + 1)) M ∧ bits C' (fun j => g j ∨ ((j % 10 = x ∧ 4 * h + j / 10 = y) ∧ bxc brd x0 y0 x1 y1 x y)) := fun hc => by
        rw [mulL, nsub (by omega), mulL, nadd]
        refine ⟨_, rfl, bits_cg (fun j hj => ?_) (bits_or hC (bits_1 (k := (y - y / 4 * 4) * 10 + x) (by omega)))⟩
        constructor
        · rintro (q | q)
          · exact Or.inl q
          · exact Or.inr ⟨⟨by omega, by omega⟩, hc⟩
        · rintro (q | ⟨⟨q1, q2⟩, -⟩)
          · exact Or.inl q
          · exact Or.inr (by omega)
      rcases hs0 with rfl | rfl
      · rw [if_pos rfl]
        by_cases e2 : brd = 0
        · rw [if_pos e2]
          exact yes (Or.inl e2)
        · rw [if_neg e2, mlt_s]
          exact ⟨C, rfl, skip (fun q => by rcases hs.mpr q.2 with k | k; exact e2 k; exact absurd k (by decide))⟩
      · rw [if_neg (by decide)]
        exact yes (hs.mp (Or.inr rfl))
    · rw [if_neg (fun q => e ((neq (by omega) (by omega)).mp q)), mlt_s]
      exact ⟨C, rfl, skip (fun q => e q.1)⟩
  by_cases e1 : x = x0
  · rw [if_pos (by rw [e1])]
    exact b106 1 (Or.inr rfl) ⟨fun _ => Or.inr (Or.inl e1), fun _ => Or.inr rfl⟩
  rw [if_neg (fun q => e1 ((neq (by omega) (by omega)).mp q))]
  by_cases e2 : x = x1
  · rw [if_pos (by rw [e2])]
    exact b106 1 (Or.inr rfl) ⟨fun _ => Or.inr (Or.inr (Or.inl e2)), fun _ => Or.inr rfl⟩
  rw [if_neg (fun q => e2 ((neq (by omega) (by omega)).mp q))]
  by_cases e3 : y = y0
  · rw [if_pos (by rw [e3])]
    exact b106 1 (Or.inr rfl) ⟨fun _ => Or.inr (Or.inr (Or.inr (Or.inl e3))), fun _ => Or.inr rfl⟩
  rw [if_neg (fun q => e3 ((neq (by omega) (by omega)).mp q))]
  by_cases e4 : y = y1
  · rw [if_pos (by rw [e4])]
    exact b106 1 (Or.inr rfl) ⟨fun _ => Or.inr (Or.inr (Or.inr (Or.inr e4))), fun _ => Or.inr rfl⟩
  rw [if_neg (fun q => e4 ((neq (by omega) (by omega)).mp q))]
  refine b106 0 (Or.inl rfl) ⟨fun q => q.elim Or.inl (fun q => absurd q (by decide)), fun q => ?_⟩
  rcases q with q | q | q | q | q
  · exact Or.inl q
  all_goals contradiction
theorem X5_box_y {k42 : Int32 → Int32 → Int32 → Int32 → Int32 → Int32 → Int64 → Int32 → mM → Option (Int64 × mM)} {n h x0 y0 x1 y1 x : Nat} {brd : Int32} {M : mM} (hx0 : x0 < 10) (hx1 : x1 < 10) (hy0 : y0 < 8) (hy1 : y1 < 8) (hx : x < 10) (hh : h < 2) (hb : is01 brd) (d : Nat) : ∀ y C g, y + d = y1 + 1 → bits C g → ∃ C', f_X5_readBox_b60 k42 (n + d + 1) (nI h) brd (nI x0) (nI y0) (nI x1) (nI y1) C (nI x) (nI y) M = k42 (nI h) brd (nI x0) (nI y0) (nI x1) (nI y1) C' (nI (x + 1)) M ∧ bits C' (fun j => g j ∨ (j % 10 = x ∧ y ≤ 4 * h + j / 10 ∧ 4 * h + j / 10 ≤ y1) ∧ bxc brd x0 y0 x1 y1 x (4 * h + j / 10)) := by
  induction d with
  | zero =>
    intro y C g hy hC
    refine ⟨C, ?_, bits_cg (fun j hj => ⟨Or.inl, fun q => q.elim id (fun q => by omega)⟩) hC⟩
    rw [f_X5_readBox_b60, if_pos ((nlt (by omega) (by omega)).mpr (by omega)), mlt_s, nI_1]
  | succ d ih =>
    intro y C g hy hC
    obtain ⟨C1, e1, b1⟩ := X5_box_st (k42 := k42) (n := n + d + 1) (x := x) (y := y) (M := M) hx0 hx1 hy0 hy1 hx (by omega) hh hb hC
    obtain ⟨C2, e2, b2⟩ := ih (y + 1) C1 _ (by omega) b1
    refine ⟨C2, e1.trans e2, bits_cg (fun j hj => ?_) b2⟩
    constructor
    · rintro ((q | ⟨⟨q1, q2⟩, q3⟩) | ⟨⟨q1, q2, q3⟩, q4⟩)
      · exact Or.inl q
      · exact Or.inr ⟨⟨q1, by omega, by omega⟩, by rw [q2]; exact q3⟩
      · exact Or.inr ⟨⟨q1, by omega, q3⟩, q4⟩
    · rintro (q | ⟨⟨q1, q2, q3⟩, q4⟩)
      · exact Or.inl (Or.inl q)
      · by_cases e : 4 * h + j / 10 = y
        · exact Or.inl (Or.inr ⟨⟨q1, e⟩, by rw [← e]; exact q4⟩)
        · exact Or.inr ⟨⟨q1, by omega, q3⟩, q4⟩
theorem X5_box_x {h x0 y0 x1 y1 n : Nat} {brd : Int32} {M : mM} (hx0 : x0 < 10) (hx1 : x1 < 10) (hy0 : y0 ≤ y1) (hy1 : y1 < 8) (hh : h < 2) (hb : is01 brd) (d : Nat) : ∀ x C g, x + d = x1 + 1 → x0 ≤ x → bits C g → ∃ C', f_X5_readBox_b42 (n + d + 1) (nI h) brd (nI x0) (nI y0) (nI x1) (nI y1) C (nI x) M = some (C', M) ∧ bits C' (fun j => g j ∨ ((x ≤ j % 10 ∧ j % 10 ≤ x1) ∧ y0 ≤ 4 * h + j / 10 ∧ 4 * h + j / 10 ≤ y1) ∧ bxc brd x0 y0 x1 y1 (j % 10) (4 * h + j / 10)) := by
  induction d with
  | zero =>
    intro x C g hx _ hC
    refine ⟨C, ?_, bits_cg (fun j hj => ⟨Or.inl, fun q => q.elim id (fun q => by omega)⟩) hC⟩
    rw [f_X5_readBox_b42, if_pos ((nlt (by omega) (by omega)).mpr (by omega))]
  | succ d ih =>
    intro x C g hx hx2 hC
    obtain ⟨m, hm⟩ := mN_ge (k := y1 + 1 - y0 + 1) (by omega)
    have hm : mN = m + (y1 + 1 - y0) + 1 := by omega
    obtain ⟨C1, e1, b1⟩ := X5_box_y (k42 := f_X5_readBox_b42 (n + d + 1)) (n := m) (x := x) (M := M) hx0 hx1 (show y0 < 8 by omega) hy1 (by omega) hh hb (y1 + 1 - y0) y0 C g (by omega) hC
    obtain ⟨C2, e2, b2⟩ := ih (x + 1) C1 _ (by omega) (by omega) b1
    refine ⟨C2, ?_, bits_cg (fun j hj => ?_) b2⟩
    · rw [f_X5_readBox_b42, if_neg (fun q => by have := (nlt (by omega) (by omega)).mp q; omega), if_neg (fun q => by have : 10 ≤ _ := (lle (m := 10) (by decide) (by omega)).mp q; omega), hm]
      exact e1.trans e2
    · constructor
      · rintro ((q | ⟨⟨q1, q2, q3⟩, q4⟩) | ⟨⟨⟨q1, q2⟩, q3, q4⟩, q5⟩)
        · exact Or.inl q
        · exact Or.inr ⟨⟨⟨by omega, by omega⟩, q2, q3⟩, by rw [q1]; exact q4⟩
        · exact Or.inr ⟨⟨⟨by omega, q2⟩, q3, q4⟩, q5⟩
      · rintro (q | ⟨⟨⟨q1, q2⟩, q3, q4⟩, q5⟩)
        · exact Or.inl (Or.inl q)
        · by_cases e : j % 10 = x
          · exact Or.inl (Or.inr ⟨⟨e, q3, q4⟩, by rw [← e]; exact q5⟩)
          · exact Or.inr ⟨⟨⟨by omega, q2⟩, q3, q4⟩, q5⟩
theorem X5_box_all {h x0 y0 x1 y1 : Nat} {brd : Int32} {M : mM} (hx0 : x0 ≤ x1) (hx1 : x1 < 10) (hy0 : y0 ≤ y1) (hy1 : y1 < 8) (hh : h < 2) (hb : is01 brd) : ∃ C', f_X5_readBox_b42 mN (nI h) brd (nI x0) (nI y0) (nI x1) (nI y1) 0 (nI x0) M = some (C', M) ∧ bits C' (fun j => bx (decide (brd = 1)) x0 y0 x1 y1 ((40 * h + j) % 10) ((40 * h + j) / 10) = true) := by
  obtain ⟨m, hm⟩ := mN_ge (k := x1 + 1 - x0 + 1) (by omega)
  have hm : mN = m + (x1 + 1 - x0) + 1 := by omega
  obtain ⟨C1, e1, b1⟩ := X5_box_x (n := m) (M := M) (h := h) (brd := brd) (show x0 < 10 by omega) hx1 hy0 hy1 hh hb (x1 + 1 - x0) x0 0 _ (by omega) (Nat.le_refl _) bits_0
  refine ⟨C1, by rw [hm]; exact e1, bits_cg (fun j hj => ?_) b1⟩
  have a1 : (40 * h + j) % 10 = j % 10 := by omega
  have a2 : (40 * h + j) / 10 = 4 * h + j / 10 := by omega
  rw [a1, a2, bx, decide_eq_true_eq]
  have a3 : (decide (brd = 1) = false) ↔ brd = 0 := by
    rcases hb with rfl | rfl
    · decide
    · decide
  rw [a3]
  constructor
  · rintro (q | ⟨⟨q1, q2⟩, q3⟩)
    · exact q.elim
    · exact ⟨q1, q2, q3⟩
  · rintro ⟨q1, q2, q3⟩
    exact Or.inr ⟨⟨q1, q2⟩, q3⟩
/-- the class's answer for one half is that of the text -/
def cOK (M : mM) (N h : Nat) (x : Option (Int64 × mM)) (r : Rt) : Prop := r.1 ≤ N ∧ ∃ C, x = some (C, rdR 77 M (r.1, r.2.1)) ∧ (r.2.1 = true → bits C (fun z => r.2.2 (40 * h + z) = true))
theorem dg_lt {T : Nat → Int32} {N p lo hi : Nat} (hlo : lo < 1000) (h : dg (lk T N) p lo hi) : p < N := by
  have h1 := h.1
  have t1 := nI_ti (k := 48 + lo) (by omega)
  have h1 : nI (48 + lo) ≤ lk T N p := h1
  exact lk_lt2 (T := T) (by grind)
theorem X5_box {t N p h : Nat} {brd : Int32} {M : mM} (hx : txt 77 M t N) (hp : p ≤ N) (hh : h < 2) (hb : is01 brd) : cOK M N h (f_X5_readBox (nI h) brd (rdM 77 M p (-1))) (tBox (lT M t N) p (decide (brd = 1))) := by
  have hN := hx.2.2.2.2.1
  have d0 : f_X7_demandDigit 77 0 9 (rdM 77 M p (-1)) = some (if dg (lT M t N) p 0 9 then (nI (dv (lT M t N) p), rdM 77 M (p + 1) (-1)) else (nI 0, rdM 77 M p (nI p))) := X7_digit (lo := 0) (hi := 9) hx (by omega) (by decide) (by decide)
  unfold f_X5_readBox tBox
  rw [d0]
  by_cases e0 : dg (lT M t N) p 0 9
  · obtain ⟨-, -, v0⟩ := dg_v (by decide) (by decide) e0
    have l0 := dg_lt (by decide) e0
    rw [if_pos e0, if_pos e0, mbw_s]
    have d1 : f_X7_demandDigit 77 0 7 (rdM 77 M (p + 1) (-1)) = some (if dg (lT M t N) (p + 1) 0 7 then (nI (dv (lT M t N) (p + 1)), rdM 77 M (p + 2) (-1)) else (nI 0, rdM 77 M (p + 1) (nI (p + 1)))) := X7_digit (lo := 0) (hi := 7) hx (by omega) (by decide) (by decide)
    rw [d1]
    by_cases e1 : dg (lT M t N) (p + 1) 0 7
    · obtain ⟨-, -, v1⟩ := dg_v (by decide) (by decide) e1
      have l1 := dg_lt (by decide) e1
      rw [if_pos e1, if_pos e1, mbw_s]
      have d2 : f_X7_demandDigit 77 (nI (dv (lT M t N) p)) 9 (rdM 77 M (p + 2) (-1)) = some (if dg (lT M t N) (p + 2) (dv (lT M t N) p) 9 then (nI (dv (lT M t N) (p + 2)), rdM 77 M (p + 3) (-1)) else (nI (dv (lT M t N) p), rdM 77 M (p + 2) (nI (p + 2)))) := X7_digit (lo := dv (lT M t N) p) (hi := 9) hx (by omega) (by omega) (by decide)
      rw [d2]
      by_cases e2 : dg (lT M t N) (p + 2) (dv (lT M t N) p) 9
      · obtain ⟨-, u2, v2⟩ := dg_v (by omega) (by decide) e2
        have l2 := dg_lt (by omega) e2
        rw [if_pos e2, if_pos e2, mbw_s]
        have d3 : f_X7_demandDigit 77 (nI (dv (lT M t N) (p + 1))) 7 (rdM 77 M (p + 3) (-1)) = some (if dg (lT M t N) (p + 3) (dv (lT M t N) (p + 1)) 7 then (nI (dv (lT M t N) (p + 3)), rdM 77 M (p + 4) (-1)) else (nI (dv (lT M t N) (p + 1)), rdM 77 M (p + 3) (nI (p + 3)))) := X7_digit (lo := dv (lT M t N) (p + 1)) (hi := 7) hx (by omega) (by omega) (by decide)
        rw [d3]
        by_cases e3 : dg (lT M t N) (p + 3) (dv (lT M t N) (p + 1)) 7
        · obtain ⟨-, u3, v3⟩ := dg_v (by omega) (by decide) e3
          have l3 := dg_lt (by omega) e3
          rw [if_pos e3, if_pos e3, mbw_s]
          obtain ⟨C, c1, c2⟩ := X5_box_all (M := rdM 77 M (p + 4) (-1)) (x0 := dv (lT M t N) p) (x1 := dv (lT M t N) (p + 2)) (y0 := dv (lT M t N) (p + 1)) (y1 := dv (lT M t N) (p + 3)) u2 (by omega) u3 (by omega) hh hb
          exact ⟨by show p + 4 ≤ N; omega, C, by rw [c1, rdR_y (x := (p + 4, true)) rfl], fun _ => c2⟩
        · rw [if_neg e3, if_neg e3, mbw_s]
          obtain ⟨C, c1, c2⟩ := X5_box_all (M := rdM 77 M (p + 3) (nI (p + 3))) (x0 := dv (lT M t N) p) (x1 := dv (lT M t N) (p + 2)) (y0 := dv (lT M t N) (p + 1)) (y1 := dv (lT M t N) (p + 1)) u2 (by omega) (Nat.le_refl _) (by omega) hh hb
          exact ⟨by show p + 3 ≤ N; omega, C, by rw [c1, rdR_n (x := (p + 3, false)) Bool.false_ne_true], fun q => absurd q Bool.false_ne_true⟩
      · rw [if_neg e2, if_neg e2, mbw_s]
        rw [show f_X7_demandDigit 77 (nI (dv (lT M t N) (p + 1))) 7 (rdM 77 M (p + 2) (nI (p + 2))) = some (nI (dv (lT M t N) (p + 1)), rdM 77 M (p + 2) (nI (p + 2))) from X7_digitF (hi := 7) (by omega) (nle0 (by omega)), mbw_s]
        obtain ⟨C, c1, c2⟩ := X5_box_all (M := rdM 77 M (p + 2) (nI (p + 2))) (x0 := dv (lT M t N) p) (x1 := dv (lT M t N) p) (y0 := dv (lT M t N) (p + 1)) (y1 := dv (lT M t N) (p + 1)) (Nat.le_refl _) (by omega) (Nat.le_refl _) (by omega) hh hb
        exact ⟨by show p + 2 ≤ N; omega, C, by rw [c1, rdR_n (x := (p + 2, false)) Bool.false_ne_true], fun q => absurd q Bool.false_ne_true⟩
    · rw [if_neg e1, if_neg e1, mbw_s]
      rw [show f_X7_demandDigit 77 (nI (dv (lT M t N) p)) 9 (rdM 77 M (p + 1) (nI (p + 1))) = some (nI (dv (lT M t N) p), rdM 77 M (p + 1) (nI (p + 1))) from X7_digitF (hi := 9) (by omega) (nle0 (by omega)), mbw_s]
      rw [show f_X7_demandDigit 77 (nI 0) 7 (rdM 77 M (p + 1) (nI (p + 1))) = some (nI 0, rdM 77 M (p + 1) (nI (p + 1))) from X7_digitF (hi := 7) (by decide) (nle0 (by omega)), mbw_s]
      obtain ⟨C, c1, c2⟩ := X5_box_all (M := rdM 77 M (p + 1) (nI (p + 1))) (x0 := dv (lT M t N) p) (x1 := dv (lT M t N) p) (y0 := 0) (y1 := 0) (Nat.le_refl _) (by omega) (Nat.le_refl _) (by omega) hh hb
      exact ⟨by show p + 1 ≤ N; omega, C, by rw [c1, rdR_n (x := (p + 1, false)) Bool.false_ne_true], fun q => absurd q Bool.false_ne_true⟩
  · rw [if_neg e0, if_neg e0, mbw_s]
    rw [show f_X7_demandDigit 77 0 7 (rdM 77 M p (nI p)) = some (nI 0, rdM 77 M p (nI p)) from X7_digitF (lo := 0) (hi := 7) (by decide) (nle0 (by omega)), mbw_s]
    rw [show f_X7_demandDigit 77 (nI 0) 9 (rdM 77 M p (nI p)) = some (nI 0, rdM 77 M p (nI p)) from X7_digitF (hi := 9) (by decide) (nle0 (by omega)), mbw_s]
    rw [show f_X7_demandDigit 77 (nI 0) 7 (rdM 77 M p (nI p)) = some (nI 0, rdM 77 M p (nI p)) from X7_digitF (hi := 7) (by decide) (nle0 (by omega)), mbw_s]
    obtain ⟨C, c1, c2⟩ := X5_box_all (M := rdM 77 M p (nI p)) (x0 := 0) (x1 := 0) (y0 := 0) (y1 := 0) (Nat.le_refl _) (by omega) (Nat.le_refl _) (by omega) hh hb
    exact ⟨hp, C, by rw [c1, rdR_n (x := (p, false)) Bool.false_ne_true], fun q => absurd q Bool.false_ne_true⟩
/-- what is deeper is read alike -/
def cSl (M : mM) (t N h dp : Nat) (b : Bool) (sC : Int32 → Int32 → mM → Option (Int64 × mM)) (sA : Nat → Rt) : Prop := (b = true ↔ dp < 6) ∧ (b = true → ∀ p, p ≤ N → cOK M N h (sC (nI (dp + 1)) (nI h) (rdM 77 M p (-1))) (sA p))
theorem cAt {t N h dp p : Nat} {b : Bool} {sC : Int32 → Int32 → mM → Option (Int64 × mM)} {sA : Nat → Rt} {M : mM} (hx : txt 77 M t N) (hh : h < 2) (hd : dp ≤ 6) (hs : cSl M t N h dp b sC sA) (hp : p ≤ N) : cOK M N h (f_X5_readBoxOrBracket sC (nI dp) (nI h) (rdM 77 M p (-1))) (tAt (lT M t N) sA b p) := by
  have hN := hx.2.2.2.2.1
  have hb32 : ¬ (b = true ∧ lT M t N p = 40) → cOK M N h (f_X5_readBoxOrBracket_b32 sC (nI h) (rdM 77 M p (-1))) (tAt (lT M t N) sA b p) := fun hn => by
    unfold f_X5_readBoxOrBracket_b32 tAt
    rw [if_neg hn, X7_takeIf hx (by omega) (by decide)]
    by_cases e1 : lT M t N p = 98
    · have l1 := lk_lt e1 (by decide)
      rw [if_pos e1, if_pos e1, mbw_s, if_neg (by decide)]
      have hbx : cOK M N h (f_X5_readBox (nI h) 0 (rdM 77 M (p + 1) (-1))) (tBox (lT M t N) (p + 1) false) := X5_box (brd := 0) hx (show p + 1 ≤ N by omega) hh (Or.inl rfl)
      obtain ⟨c0, C, c1, c2⟩ := hbx
      exact ⟨c0, C, by rw [c1, mbw_s], c2⟩
    · rw [if_neg e1, if_neg e1, mbw_s, if_pos rfl, X7_takeIf hx (by omega) (by decide)]
      by_cases e2 : lT M t N p = 111
      · have l1 := lk_lt e2 (by decide)
        rw [if_pos e2, if_pos e2, mbw_s, if_neg (by decide)]
        have hbx : cOK M N h (f_X5_readBox (nI h) 1 (rdM 77 M (p + 1) (-1))) (tBox (lT M t N) (p + 1) true) := X5_box (brd := 1) hx (show p + 1 ≤ N by omega) hh (Or.inr rfl)
        obtain ⟨c0, C, c1, c2⟩ := hbx
        exact ⟨c0, C, by rw [c1, mbw_s], c2⟩
      · rw [if_neg e2, if_neg e2, mbw_s, if_pos rfl, X7_fail, mbp_s]
        exact ⟨hp, 0, by rw [rdR_n (x := (p, false)) Bool.false_ne_true], fun q => absurd q Bool.false_ne_true⟩
  unfold f_X5_readBoxOrBracket
  by_cases hb : b = true
  · have h6 := hs.1.mp hb
    rw [if_neg (fun q => by have : 6 ≤ _ := (lle (m := 6) (by decide) (by omega)).mp q; omega), X7_takeIf hx (by omega) (by decide)]
    by_cases e : lT M t N p = 40
    · have l1 := lk_lt e (by decide)
      rw [if_pos e, mbw_s, if_neg (by decide), nI_1]
      obtain ⟨c0, C, c1, c2⟩ := hs.2 hb (p + 1) (by omega)
      unfold tAt
      rw [if_pos ⟨hb, e⟩, c1, mbw_s]
      by_cases e2 : (sA (p + 1)).2.1 = true
      · rw [if_pos e2, rdR_y (x := ((sA (p + 1)).1, (sA (p + 1)).2.1)) e2, X7_demand hx (by omega) (by decide)]
        by_cases e3 : lT M t N (sA (p + 1)).1 = 41
        · have l3 := lk_lt e3 (by decide)
          rw [if_pos e3, if_pos e3, mbp_s]
          exact ⟨l3, C, by rw [rdR_y (x := ((sA (p + 1)).1 + 1, true)) rfl], fun _ => c2 e2⟩
        · rw [if_neg e3, if_neg e3, mbp_s]
          exact ⟨c0, C, by rw [rdR_n (x := ((sA (p + 1)).1, false)) Bool.false_ne_true], fun q => absurd q Bool.false_ne_true⟩
      · rw [if_neg e2, rdR_n (x := ((sA (p + 1)).1, (sA (p + 1)).2.1)) e2, X7_demandF (by decide) (nle0 (by omega)), mbp_s]
        exact ⟨c0, C, by rw [rdR_n (x := ((sA (p + 1)).1, (sA (p + 1)).2.1)) e2], fun q => absurd q e2⟩
    · rw [if_neg e, mbw_s, if_pos rfl]
      exact hb32 (fun q => e q.2)
  · have h6 : ¬ dp < 6 := fun q => hb (hs.1.mpr q)
    rw [if_pos ((lle (m := 6) (by decide) (by omega)).mpr (show 6 ≤ _ by omega))]
    exact hb32 (fun q => hb q.1)
abbrev bI (b : Bool) : Int32 := if b = true then 1 else 0
theorem cNt {t N h dp p : Nat} {b nt : Bool} {sC : Int32 → Int32 → mM → Option (Int64 × mM)} {sA : Nat → Rt} {M : mM} (hx : txt 77 M t N) (hh : h < 2) (hd : dp ≤ 6) (hs : cSl M t N h dp b sC sA) (hp : p ≤ N) : cOK M N h (f_X5_readPart_b37 sC (nI dp) (nI h) (bI nt) (rdM 77 M p (-1))) (tNt (tAt (lT M t N) sA b p) nt) := by
  obtain ⟨c0, C, c1, c2⟩ := cAt hx hh hd hs hp
  unfold f_X5_readPart_b37
  rw [c1, mbw_s]
  cases nt
  · rw [if_pos (show bI false = 0 from rfl)]
    refine ⟨c0, C, rfl, fun q => bits_cg (fun j hj => ?_) (c2 q)⟩
    show _ ↔ (false != _) = true
    rw [Bool.false_bne]
  · rw [if_neg (by decide)]
    refine ⟨c0, _, rfl, fun q => bits_cg (fun j hj => ?_) (bits_not (c2 q))⟩
    show _ ↔ (true != _) = true
    rw [Bool.true_bne]
    cases (tAt (lT M t N) sA b p).2.2 (40 * h + j) <;> decide
theorem cPt {t N h dp F : Nat} {b : Bool} {sC : Int32 → Int32 → mM → Option (Int64 × mM)} {sA : Nat → Rt} {M : mM} (hx : txt 77 M t N) (hh : h < 2) (hd : dp ≤ 6) (hs : cSl M t N h dp b sC sA) (d : Nat) : ∀ k p nt, k + d = 90 → p ≤ N → cOK M N h (f_X5_readPart_b5 sC (F + d + 1) (nI dp) (nI h) (bI nt) (nI k) (rdM 77 M p (-1))) (tPt (lT M t N) sA b d p nt) := by
  have hN := hx.2.2.2.2.1
  induction d with
  | zero =>
    intro k p nt hk hp
    rw [f_X5_readPart_b5, if_pos ((lle (m := 90) (by decide) (by omega)).mpr (show 90 ≤ _ by omega)), tPt]
    exact cNt hx hh hd hs hp
  | succ d ih =>
    intro k p nt hk hp
    rw [f_X5_readPart_b5, if_neg (fun q => by have : 90 ≤ _ := (lle (m := 90) (by decide) (by omega)).mp q; omega), X7_takeIf hx (by omega) (by decide), tPt]
    by_cases e : lT M t N p = 33
    · have l1 := lk_lt e (by decide)
      rw [if_pos e, if_pos e, mbw_s, if_neg (by decide), mlt_s, mlt_s, nI_1]
      have := ih (k + 1) (p + 1) (!nt) (by omega) (by omega)
      cases nt
      · rw [if_pos (show bI false = 0 from rfl)]; exact this
      · rw [if_neg (by decide)]; exact this
    · rw [if_neg e, if_neg e, mbw_s, if_pos rfl]
      exact cNt hx hh hd hs hp
theorem cPt0 {t N h dp p : Nat} {b : Bool} {sC : Int32 → Int32 → mM → Option (Int64 × mM)} {sA : Nat → Rt} {M : mM} (hx : txt 77 M t N) (hh : h < 2) (hd : dp ≤ 6) (hs : cSl M t N h dp b sC sA) (hp : p ≤ N) : cOK M N h (f_X5_readPart sC (nI dp) (nI h) (rdM 77 M p (-1))) (tPt (lT M t N) sA b 90 p false) := by
  obtain ⟨m, hm⟩ := mN_ge (k := 91) (by omega)
  have hm : mN = m + 90 + 1 := by omega
  unfold f_X5_readPart
  rw [hm]
  exact cPt hx hh hd hs 90 0 p false (by omega) hp
theorem cLp {t N h dp F : Nat} {b : Bool} {sC : Int32 → Int32 → mM → Option (Int64 × mM)} {sA : Nat → Rt} {M : mM} (hx : txt 77 M t N) (hh : h < 2) (hd : dp ≤ 6) (hs : cSl M t N h dp b sC sA) (d : Nat) : ∀ k p C v, k + d = 90 → p ≤ N → bits C (fun z => v (40 * h + z) = true) → cOK M N h (f_X5_readParts_b10 sC (F + d + 1) (nI dp) (nI h) C (nI k) (rdM 77 M p (-1))) (tLp (lT M t N) sA b d p v) := by
  have hN := hx.2.2.2.2.1
  induction d with
  | zero =>
    intro k p C v hk hp hC
    rw [f_X5_readParts_b10, if_pos ((lle (m := 90) (by decide) (by omega)).mpr (show 90 ≤ _ by omega)), tLp]
    exact ⟨hp, C, by rw [rdR_y (x := (p, true)) rfl], fun _ => hC⟩
  | succ d ih =>
    intro k p C v hk hp hC
    have main : isOp (lT M t N p) → cOK M N h (f_X5_readParts_b33 sC (f_X5_readParts_b10 sC (F + d + 1)) (nI dp) (nI h) C (nI k) (rdM 77 M p (-1))) (tLp (lT M t N) sA b (d + 1) p v) := fun e => by
      have l1 : p < N := by rcases e with e | e | e <;> exact lk_lt e (by decide)
      unfold f_X5_readParts_b33
      rw [X7_take hx l1, mbw_s, tLp, if_pos e]
      obtain ⟨c0, D, c1, c2⟩ := cPt0 (p := p + 1) hx hh hd hs (by omega)
      rw [c1, mbw_s, nI_1]
      by_cases e2 : (tPt (lT M t N) sA b 90 (p + 1) false).2.1 = true
      · rw [if_pos e2, rdR_y (x := ((tPt (lT M t N) sA b 90 (p + 1) false).1, (tPt (lT M t N) sA b 90 (p + 1) false).2.1)) e2]
        have c2 := c2 e2
        by_cases e3 : lT M t N p = 43
        · rw [if_pos e3, mlt_s]
          refine ih (k + 1) _ _ _ (by omega) c0 (bits_cg (fun j hj => ?_) (bits_or hC c2))
          rw [tCb, if_pos e3, Bool.or_eq_true]
        · rw [if_neg e3]
          by_cases e4 : lT M t N p = 45
          · rw [if_pos e4, mlt_s, mlt_s]
            refine ih (k + 1) _ _ _ (by omega) c0 (bits_cg (fun j hj => ?_) (bits_andn hC c2))
            rw [tCb, if_neg e3, if_pos e4, Bool.and_eq_true, Bool.not_eq_true', Bool.not_eq_true]
          · rw [if_neg e4, mlt_s]
            refine ih (k + 1) _ _ _ (by omega) c0 (bits_cg (fun j hj => ?_) (bits_and hC c2))
            rw [tCb, if_neg e3, if_neg e4, Bool.and_eq_true]
      · rw [if_neg e2, rdR_n (x := ((tPt (lT M t N) sA b 90 (p + 1) false).1, (tPt (lT M t N) sA b 90 (p + 1) false).2.1)) e2]
        have stop : ∀ E, cOK M N h (f_X5_readParts_b10 sC (F + d + 1) (nI dp) (nI h) E (nI (k + 1)) (rdM 77 M (tPt (lT M t N) sA b 90 (p + 1) false).1 (nI (tPt (lT M t N) sA b 90 (p + 1) false).1))) (tPt (lT M t N) sA b 90 (p + 1) false) := fun E => by
          refine ⟨c0, E, ?_, fun q => absurd q e2⟩
          rw [rdR_n (x := ((tPt (lT M t N) sA b 90 (p + 1) false).1, (tPt (lT M t N) sA b 90 (p + 1) false).2.1)) e2, f_X5_readParts_b10]
          by_cases e5 : (90 : Int32) ≤ nI (k + 1)
          · rw [if_pos e5]
          · rw [if_neg e5, X7_pmF (nle0 (by omega)), mbp_s, if_pos rfl, X7_lookF (nle0 (by omega)), mbp_s, if_neg (by decide)]
        by_cases e3 : lT M t N p = 43
        · rw [if_pos e3, mlt_s]; exact stop _
        · rw [if_neg e3]
          by_cases e4 : lT M t N p = 45
          · rw [if_pos e4, mlt_s, mlt_s]; exact stop _
          · rw [if_neg e4, mlt_s]; exact stop _
    rw [f_X5_readParts_b10, if_neg (fun q => by have : 90 ≤ _ := (lle (m := 90) (by decide) (by omega)).mp q; omega), X7_pm hx (by omega), mbp_s]
    by_cases e1 : isPM (lT M t N p)
    · rw [tf_y e1, if_neg (by decide)]
      exact main (by rcases e1 with e | e; exact Or.inl e; exact Or.inr (Or.inl e))
    · rw [tf_n e1, if_pos rfl, X7_look hx (by omega), mbp_s]
      by_cases e2 : lT M t N p = 38
      · rw [if_pos ((lo_eq (by decide)).mpr e2)]
        exact main (Or.inr (Or.inr e2))
      · rw [if_neg (fun q => e2 ((lo_eq (by decide)).mp q)), tLp, if_neg (fun q => by rcases q with q | q | q; exact e1 (Or.inl q); exact e1 (Or.inr q); exact e2 q)]
        exact ⟨hp, C, by rw [rdR_y (x := (p, true)) rfl], fun _ => hC⟩
theorem cPs {t N h dp p : Nat} {b : Bool} {sC : Int32 → Int32 → mM → Option (Int64 × mM)} {sA : Nat → Rt} {M : mM} (hx : txt 77 M t N) (hh : h < 2) (hd : dp ≤ 6) (hs : cSl M t N h dp b sC sA) (hp : p ≤ N) : cOK M N h (f_X5_readParts sC (nI dp) (nI h) (rdM 77 M p (-1))) (tPs (lT M t N) sA b p) := by
  have hN := hx.2.2.2.2.1
  obtain ⟨m, hm⟩ := mN_ge (k := 91) (by omega)
  have hm : mN = m + 90 + 1 := by omega
  obtain ⟨c0, D, c1, c2⟩ := cPt0 hx hh hd hs hp
  unfold f_X5_readParts tPs
  rw [c1, mbw_s, hm]
  by_cases e2 : (tPt (lT M t N) sA b 90 p false).2.1 = true
  · rw [if_pos e2, rdR_y (x := ((tPt (lT M t N) sA b 90 p false).1, (tPt (lT M t N) sA b 90 p false).2.1)) e2]
    exact cLp hx hh hd hs 90 0 _ _ _ (by omega) c0 (c2 e2)
  · rw [if_neg e2]
    refine ⟨c0, D, ?_, fun q => absurd q e2⟩
    rw [rdR_n (x := ((tPt (lT M t N) sA b 90 p false).1, (tPt (lT M t N) sA b 90 p false).2.1)) e2, f_X5_readParts_b10, if_neg (by decide), X7_pmF (nle0 (by omega)), mbp_s, if_pos rfl, X7_lookF (nle0 (by omega)), mbp_s, if_neg (by decide)]
theorem cDp {t N h : Nat} {M : mM} (hx : txt 77 M t N) (hh : h < 2) : ∀ e dp p, e + dp = 6 → p ≤ N → cOK M N h (f_X5_readPartsD (e + 2) (nI dp) (nI h) (rdM 77 M p (-1))) (tDp (lT M t N) e p) := by
  intro e
  induction e with
  | zero =>
    intro dp p hd hp
    rw [f_X5_readPartsD, tDp]
    exact cPs hx hh (by omega) ⟨⟨fun q => absurd q Bool.false_ne_true, fun q => by omega⟩, fun q => absurd q Bool.false_ne_true⟩ hp
  | succ e ih =>
    intro dp p hd hp
    rw [f_X5_readPartsD, tDp]
    exact cPs hx hh (by omega) ⟨⟨fun _ => by omega, fun _ => rfl⟩, fun _ p hp => ih (dp + 1) p (by omega) hp⟩ hp
theorem tSh_le {t N : Nat} {M : mM} (hx : txt 77 M t N) : (tSh (lT M t N) N).1 ≤ N ∧ ((tSh (lT M t N) N).2.1 = true → (tSh (lT M t N) N).1 = N) := by
  obtain ⟨c0, C, c1, c2⟩ := cDp hx (h := 0) (by decide) 6 0 0 rfl (Nat.zero_le _)
  unfold tSh
  by_cases e : (tDp (lT M t N) 6 0).2.1 = true ∧ (tDp (lT M t N) 6 0).1 < N
  · rw [if_pos e]
    exact ⟨c0, fun q => absurd q Bool.false_ne_true⟩
  · rw [if_neg e]
    exact ⟨c0, fun q => by have : ¬ _ < N := fun k => e ⟨q, k⟩; omega⟩
theorem X5_cells {q N h : Nat} {M : mM} (hr : isRow (q + 1)) (hq : q + 1 ≠ 77) (hq2 : q ≠ 77) (hN : N ≤ 90) (hs : M.1 q 1 = nI N) (hT : ∀ i, i < N → M.1 (q + 1) i ≠ -1000) (hh : h < 2) : ∃ C M', f_X5_cellsOf q (nI h) M = some (C, M') ∧ (∀ k, k ≠ 77 → M'.1 k = M.1 k) ∧ M'.2.1 = M.2.1 ∧ M'.1 77 3 = (if (tSh (lk (M.1 (q + 1)) N) N).2.1 = true then -1 else nI (tSh (lk (M.1 (q + 1)) N) N).1) ∧ ((tSh (lk (M.1 (q + 1)) N) N).2.1 = true → bits C (fun z => (tSh (lk (M.1 (q + 1)) N) N).2.2 (40 * h + z) = true)) := by
  have hx := txt_op (r := 77) hr hq hN hT
  generalize hM1 : mI (mT M 77 (q + 1)) 77 1 (nI N) = M1 at hx
  have hk : ∀ k, k ≠ 77 → M1.1 k = M.1 k := fun k hk => by rw [← hM1, mI_ne hk]; rfl
  have hJ : M1.2.1 = M.2.1 := by rw [← hM1]; rfl
  have hl : lT M1 (q + 1) N = lk (M.1 (q + 1)) N := by unfold lT; rw [hk _ hq]
  obtain ⟨c0, C, c1, c2⟩ := cDp hx hh 6 0 0 rfl (Nat.zero_le _)
  have c1 : f_X5_readPartsD 8 0 (nI h) (rdM 77 M1 0 (-1)) = _ := c1
  unfold f_X5_cellsOf
  rw [hs, X7_open hN, mbp_s, hM1, c1, mbw_s]
  rw [hl] at c0 c2 ⊢
  by_cases e2 : (tDp (lk (M.1 (q + 1)) N) 6 0).2.1 = true
  · rw [rdR_y (x := ((tDp (lk (M.1 (q + 1)) N) 6 0).1, (tDp (lk (M.1 (q + 1)) N) 6 0).2.1)) e2, X7_endF hx (by omega)]
    by_cases e3 : N ≤ (tDp (lk (M.1 (q + 1)) N) 6 0).1
    · have hs : tSh (lk (M.1 (q + 1)) N) N = tDp (lk (M.1 (q + 1)) N) 6 0 := if_neg (fun k => by have := k.2; omega)
      rw [if_pos e3, mbp_s, hs]
      exact ⟨C, _, rfl, fun k hk2 => by rw [rd_k hk2, hk k hk2], hJ, by rw [rd_3, if_pos e2], c2⟩
    · have hs : tSh (lk (M.1 (q + 1)) N) N = ((tDp (lk (M.1 (q + 1)) N) 6 0).1, false, (tDp (lk (M.1 (q + 1)) N) 6 0).2.2) := if_pos ⟨e2, by omega⟩
      rw [if_neg e3, mbp_s, hs]
      exact ⟨C, _, rfl, fun k hk2 => by rw [rd_k hk2, hk k hk2], hJ, by rw [rd_3, if_neg Bool.false_ne_true], fun k => absurd k Bool.false_ne_true⟩
  · have hs : tSh (lk (M.1 (q + 1)) N) N = tDp (lk (M.1 (q + 1)) N) 6 0 := if_neg (fun k => e2 k.1)
    rw [rdR_n (x := ((tDp (lk (M.1 (q + 1)) N) 6 0).1, (tDp (lk (M.1 (q + 1)) N) 6 0).2.1)) e2, X7_endFF hx (by omega) (nle0 (by omega)), mbp_s, hs]
    exact ⟨C, _, rfl, fun k hk2 => by rw [rd_k hk2, hk k hk2], hJ, by rw [rd_3, if_neg e2], c2⟩
