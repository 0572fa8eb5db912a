/-! rules and acts of the class -/
theorem n59_d {l : Nat → Int32} {p hi : Nat} (hhi : hi ≤ 9) (h : dg l p 0 hi) : l p ≠ 59 := by
  intro e
  have h2 := h.2
  rw [e] at h2
  have t := nI_ti (k := 48 + hi) (by omega)
  grind
theorem n59_at {l : Nat → Int32} {p : Nat} (ok : (pAtom l p).2 = true) : ∀ i, p ≤ i → i < (pAtom l p).1 → l i ≠ 59 := by
  intro i h1 h2
  unfold pAtom at ok h2
  by_cases e1 : f_X4_isField (l p) ≠ 0
  · rw [if_pos e1] at h2
    have h2 : i < p + 1 := h2
    have : i = p := by omega
    rw [this]
    intro q
    rw [q] at e1
    exact e1 (by decide)
  · rw [if_neg e1] at ok h2
    by_cases e2 : dg l p 0 9
    · rw [if_pos e2] at ok h2
      by_cases e3 : l p = 48
      · rw [if_pos e3] at h2
        have h2 : i < p + 1 := h2
        rw [show i = p by omega]
        exact n59_d (by omega) e2
      · rw [if_neg e3] at ok h2
        by_cases e4 : dg l (p + 1) 0 9
        · rw [if_pos e4] at h2
          have h2 : i < p + 2 := h2
          by_cases e5 : i = p
          · rw [e5]; exact n59_d (by omega) e2
          · rw [show i = p + 1 by omega]; exact n59_d (by omega) e4
        · rw [if_neg e4] at h2
          have h2 : i < p + 1 := h2
          rw [show i = p by omega]
          exact n59_d (by omega) e2
    · rw [if_neg e2] at ok
      exact absurd ok Bool.false_ne_true
theorem n59_ls {l : Nat → Int32} : ∀ k p, (pLs l k p).2 = true → ∀ i, p ≤ i → i < (pLs l k p).1 → l i ≠ 59 := by
  intro k
  induction k with
  | zero =>
    intro p _ i h1 h2
    have h2 : i < p := h2
    omega
  | succ k ih =>
    intro p ok i h1 h2
    rw [pLs] at ok h2
    by_cases e : isPM (l p)
    · rw [if_pos e] at ok h2
      by_cases e2 : (pAtom l (p + 1)).2 = true
      · rw [if_pos e2] at ok h2
        by_cases c1 : i = p
        · rw [c1]
          rcases e with e | e <;> rw [e] <;> decide
        · by_cases c2 : i < (pAtom l (p + 1)).1
          · exact n59_at e2 i (by omega) c2
          · exact ih _ ok i (by omega) h2
      · rw [if_neg e2] at ok
        exact absurd ok e2
    · rw [if_neg e] at h2
      have h2 : i < p := h2
      omega
theorem n59_sum {l : Nat → Int32} {p : Nat} (ok : (pSum l p).2 = true) : ∀ i, p ≤ i → i < (pSum l p).1 → l i ≠ 59 := by
  intro i h1 h2
  unfold pSum at ok h2
  by_cases e2 : (pAtom l p).2 = true
  · rw [if_pos e2] at ok h2
    by_cases c2 : i < (pAtom l p).1
    · exact n59_at e2 i h1 c2
    · exact n59_ls 90 _ ok i (by omega) h2
  · rw [if_neg e2] at ok
    exact absurd ok e2
theorem n59_act {l : Nat → Int32} {p : Nat} (ok : (pAct l p).2 = true) : ∀ i, p ≤ i → i < (pAct l p).1 → l i ≠ 59 := by
  intro i h1 h2
  unfold pAct at ok h2
  by_cases e1 : l p = 103
  · rw [if_pos e1] at ok h2
    by_cases e2 : dg l (p + 1) 0 7
    · rw [if_pos e2] at h2
      have h2 : i < p + 2 := h2
      by_cases e5 : i = p
      · rw [e5, e1]; decide
      · rw [show i = p + 1 by omega]; exact n59_d (by omega) e2
    · rw [if_neg e2] at ok
      exact absurd ok Bool.false_ne_true
  · rw [if_neg e1] at ok h2
    by_cases e2 : l p = 121 ∨ l p = 61
    · rw [if_pos e2] at ok h2
      by_cases e5 : i = p
      · rw [e5]; rcases e2 with e2 | e2 <;> rw [e2] <;> decide
      · exact n59_sum ok i (by omega) h2
    · rw [if_neg e2] at ok
      exact absurd ok Bool.false_ne_true
theorem c_pass_lp {M : mM} {tx N e j : Nat} (hx : txt 76 M tx N) (he : lT M tx N e = 59) (d : Nat) : ∀ q kk, q + d = e → kk ≤ q → (∀ i, q ≤ i → i < e → lT M tx N i ≠ 59) → f_X1_passRule_b4 (j + d + 2) 1 (nI kk) (rdM 76 M q (-1)) = some (rdM 76 M (e + 1) (-1)) := by
  have hN := hx.2.2.2.2.1
  have l1 := lk_lt he (by decide)
  induction d with
  | zero =>
    intro q kk hq hk hn
    have hqe : q = e := by omega
    subst hqe
    show f_X1_passRule_b4 (j + 1 + 1) 1 (nI kk) _ = _
    rw [f_X1_passRule_b4, if_neg (fun q => by have : 90 ≤ _ := (lle (m := 90) (by decide) (by omega)).mp q; omega), if_neg (by decide), X7_end hx (by omega), tf_n (by omega), if_pos rfl, X7_take hx l1, mbw_s, if_pos he, mlt_s, f_X1_passRule_b4, nI_1]
    by_cases c : (90 : Int32) ≤ nI (kk + 1)
    · rw [if_pos c]
    · rw [if_neg c, if_pos rfl]
  | succ d ih =>
    intro q kk hq hk hn
    show f_X1_passRule_b4 (j + d + 2 + 1) 1 (nI kk) _ = _
    rw [f_X1_passRule_b4, if_neg (fun q => by have : 90 ≤ _ := (lle (m := 90) (by decide) (by omega)).mp q; omega), if_neg (by decide), X7_end hx (by omega), tf_n (by omega), if_pos rfl, X7_take hx (by omega), mbw_s, if_neg (hn q (Nat.le_refl _) (by omega)), mlt_s, nI_1]
    exact ih (q + 1) (kk + 1) (by omega) (by omega) (fun i a b => hn i (by omega) b)
theorem c_pass {M : mM} {tx N q : Nat} (hx : txt 76 M tx N) (hq : q ≤ N) (ok : (pAct (lT M tx N) q).2 = true) (he : lT M tx N (pAct (lT M tx N) q).1 = 59) : f_X1_passRule (rdM 76 M q (-1)) = some (rdM 76 M ((pAct (lT M tx N) q).1 + 1) (-1)) := by
  obtain ⟨a1, a2⟩ := (show pOK N _ (pAct (lT M tx N) _) from p_act (T := M.1 tx) hq)
  have a2 := a2 ok
  have hN := hx.2.2.2.2.1
  obtain ⟨m, hm⟩ := mN_ge (k := (pAct (lT M tx N) q).1 - q + 2) (by omega)
  have hm : mN = m + ((pAct (lT M tx N) q).1 - q) + 2 := by omega
  unfold f_X1_passRule
  rw [hm]
  exact c_pass_lp hx he _ q 0 (by omega) (Nat.zero_le _) (n59_act ok)
/-- what a good RULE is made of -/
theorem rl_ok {l : Nat → Int32} {p : Nat} (ok : (pRl l p).2 = true) : (pTst l p).2 = true ∧ l (pTst l p).1 = 63 ∧ (pAct l ((pTst l p).1 + 1)).2 = true ∧ l (pAct l ((pTst l p).1 + 1)).1 = 59 ∧ pRl l p = ((pAct l ((pTst l p).1 + 1)).1 + 1, true) := by
  unfold pRl at ok ⊢
  by_cases e1 : (pTst l p).2 = true
  · rw [if_pos e1] at ok ⊢
    unfold pTl at ok ⊢
    by_cases e2 : l (pTst l p).1 = 63
    · rw [if_pos e2] at ok ⊢
      by_cases e3 : (pAct l ((pTst l p).1 + 1)).2 = true
      · rw [if_pos e3] at ok ⊢
        by_cases e4 : l (pAct l ((pTst l p).1 + 1)).1 = 59
        · rw [if_pos e4]
          exact ⟨e1, e2, e3, e4, rfl⟩
        · rw [if_neg e4] at ok
          exact absurd ok Bool.false_ne_true
      · rw [if_neg e3] at ok
        exact absurd ok e3
    · rw [if_neg e2] at ok
      exact absurd ok Bool.false_ne_true
  · rw [if_neg e1] at ok
    exact absurd ok e1
/-- the class's answer, and where its reading stops -/
def chC (M : mM) (l : Nat → Int32) (o : Option (Nat × Nat)) (v : Int32) (M' : mM) : Prop := match o with
  | none => v = -4 ∧ ∃ x, M' = rdM 76 M x (-1)
  | some x => v = nI x.1 ∧ x.1 < 6 ∧ M' = rdM 76 M x.2 (-1) ∧ (pAct l x.2).2 = true ∧ l (pAct l x.2).1 = 59
theorem c_ch {M : mM} {A : Bd} {t : Int32} {mem heard : Nat → Int32} {c tx N j : Nat} (h : cEn M A t mem heard) (hx : txt 76 M tx N) (hc : c < bN A) (k : Nat) : ∀ i p, i + k = 6 → p ≤ N → (pLr (lT M tx N) N k p).2 = true → ∃ v M', f_X1_chooseRule_b34 (j + k + 1) (nI c) (nI i) (rdM 76 M p (-1)) = some (v, M') ∧ chC M (lT M tx N) (chs (lT M tx N) N (fld A t mem heard c) k i p) v M' := by
  have hN := hx.2.2.2.2.1
  induction k with
  | zero =>
    intro i p hi hp _
    refine ⟨-4, _, ?_, rfl, p, rfl⟩
    rw [f_X1_chooseRule_b34, if_pos ((lle (m := 6) (by decide) (by omega)).mpr (show 6 ≤ _ by omega))]
  | succ k ih =>
    intro i p hi hp ok
    rw [f_X1_chooseRule_b34, if_neg (fun q => by have : 6 ≤ _ := (lle (m := 6) (by decide) (by omega)).mp q; omega), X7_end hx (by omega)]
    by_cases e : N ≤ p
    · refine ⟨-4, rdM 76 M p (-1), by rw [tf_y e, if_neg (show ¬ (1 : Int32) = 0 by decide)], ?_⟩
      rw [chs, if_pos e]
      exact ⟨rfl, p, rfl⟩
    · rw [pLr, if_neg e] at ok
      have okr : (pRl (lT M tx N) p).2 = true := by
        by_cases q : (pRl (lT M tx N) p).2 = true
        · exact q
        · rw [if_neg q] at ok; exact absurd ok q
      rw [if_pos okr] at ok
      obtain ⟨t1, t2, t3, t4, t5⟩ := rl_ok okr
      obtain ⟨y1, y2⟩ := (show pOK N _ (pRl (lT M tx N) _) from p_rl (T := M.1 tx) hp)
      have l2 := lk_lt t2 (by decide)
      rw [tf_n e, if_pos (show (0 : Int32) = 0 from rfl), c_tst h hx hc hp t1 t2, mbw_s, chs, if_neg e]
      by_cases hv : vTst (lT M tx N) (fld A t mem heard c) p
      · rw [tf_y hv, if_neg (show ¬ (1 : Int32) = 0 by decide), if_pos hv]
        exact ⟨_, _, rfl, rfl, by show i < 6; omega, rfl, t3, t4⟩
      · rw [tf_n hv, if_pos (show (0 : Int32) = 0 from rfl), if_neg hv, c_pass hx (by omega) t3 t4, mbp_s, mlt_s, nI_1]
        rw [t5] at ok y1 ⊢
        exact ih (i + 1) _ (by omega) y1 ok
theorem lr_pr {T : Nat → Int32} {N : Nat} (ok : (pPr (lk T N) N).2 = true) : (pLr (lk T N) N 6 0).2 = true := by
  by_cases h0 : 0 < N
  · rw [pLr, if_neg (by omega)]
    exact ok
  · have ez : N = 0 := by omega
    subst ez
    have e0 : pAtom (lk T 0) 0 = (0, false) := p_none (by omega)
    have e1 : pSum (lk T 0) 0 = (0, false) := by unfold pSum; rw [e0]; rfl
    have e2 : pChk (lk T 0) 0 = (0, false) := by unfold pChk; rw [e1]; rfl
    have e3 : pTst (lk T 0) 0 = (0, false) := by unfold pTst; rw [e2]; rfl
    have e4 : pRl (lk T 0) 0 = (0, false) := by unfold pRl; rw [e3]; rfl
    have e5 : pPr (lk T 0) 0 = (0, false) := by unfold pPr; rw [e4]; rfl
    rw [e5] at ok
    exact absurd ok Bool.false_ne_true
/-! modulo 100 -/
theorem bm32 {n : Int} (h1 : -2147483648 ≤ n) (h2 : n < 2147483648) : n.bmod (2 ^ 32) = n := by
  have e : ((2 ^ 32 : Nat) : Int) = 4294967296 := rfl
  refine Int.bmod_eq_of_le ?_ ?_
  · rw [e]; omega
  · rw [e]; omega
theorem mod_x (v : Int32) : (v - v / 100 * 100).toInt = v.toInt.tmod 100 := by
  have h1 := Int32.le_toInt v
  have h2 := Int32.toInt_lt v
  have e100 : (100 : Int32).toInt = 100 := rfl
  rw [Int32.toInt_sub, Int32.toInt_mul, Int32.toInt_div, e100]
  have hq : v.toInt = 100 * v.toInt.tdiv 100 + v.toInt.tmod 100 := (Int.mul_tdiv_add_tmod v.toInt 100).symm
  have hr1 : v.toInt.tmod 100 < 100 := Int.tmod_lt_of_pos _ (by decide)
  have hr2 : -100 < v.toInt.tmod 100 := by
    have := Int.lt_tmod_of_pos v.toInt (show (0 : Int) < 100 by decide)
    omega
  have hs1 : 0 ≤ v.toInt → 0 ≤ v.toInt.tmod 100 := fun q => Int.tmod_nonneg _ q
  have hs2 : v.toInt < 0 → v.toInt.tmod 100 ≤ 0 := fun q => by
    have := Int.neg_tmod v.toInt 100
    have h2 := Int.tmod_nonneg (a := -v.toInt) 100 (by omega)
    omega
  generalize v.toInt.tdiv 100 = q at hq ⊢
  generalize v.toInt.tmod 100 = r at hq hr1 hr2 hs1 hs2 ⊢
  rw [bm32 (n := q) (by omega) (by omega), bm32 (n := q * 100) (by omega) (by omega), bm32 (by omega) (by omega)]
  omega
theorem floor100 (v : Int32) : f_J9_floorMod_7cf53 v 100 = some (md100 v) := by
  have hx := mod_x v
  have hr1 : v.toInt.tmod 100 < 100 := Int.tmod_lt_of_pos _ (by decide)
  have hr2 : -100 < v.toInt.tmod 100 := by
    have := Int.lt_tmod_of_pos v.toInt (show (0 : Int) < 100 by decide)
    omega
  have hs : (0 ≤ v ^^^ 100) ↔ 0 ≤ v := by
    have a : ∀ w : Int32, (0 ≤ w) ↔ w.toBitVec.msb = false := fun w => by
      rw [Int32.le_iff_toInt_le, BitVec.msb_eq_toInt]
      have : (0 : Int32).toInt = 0 := rfl
      rw [this, decide_eq_false_iff_not]
      show (0 : Int) ≤ w.toBitVec.toInt ↔ _
      omega
    rw [a, a, Int32.toBitVec_xor, BitVec.msb_xor]
    have : (100 : Int32).toBitVec.msb = false := by decide
    rw [this, Bool.xor_false]
  have hsign : (0 ≤ v → 0 ≤ v.toInt.tmod 100) ∧ (¬ 0 ≤ v → v.toInt.tmod 100 ≤ 0) := by
    have z : (0 : Int32).toInt = 0 := rfl
    refine ⟨fun q => ?_, fun q => ?_⟩
    · rw [Int32.le_iff_toInt_le, z] at q
      exact Int.tmod_nonneg _ q
    · rw [Int32.le_iff_toInt_le, z] at q
      have := Int.neg_tmod v.toInt 100
      have h2 := Int.tmod_nonneg (a := -v.toInt) 100 (by omega)
      omega
  generalize hxx : v - v / 100 * 100 = x at hx
  generalize v.toInt.tmod 100 = r at hx hr1 hr2 hsign
  have hm : md100 v = (if 0 ≤ r then x else x + 100) := by
    unfold md100
    rw [hxx]
    obtain ⟨b, hb⟩ : ∃ b : Nat, (b : Int) = r + 100 := ⟨(r + 100).toNat, by omega⟩
    have tx : Lean.Grind.ToInt.toInt x = r := hx
    have tb := nI_ti (k := b) (by omega)
    have hxb : x + 100 = nI b := by
      refine Int32.toInt_inj.mp ?_
      rw [Int32.toInt_add, hx, nI_toInt (by omega)]
      have e100 : (100 : Int32).toInt = 100 := rfl
      rw [e100, bm32 (by omega) (by omega)]
      omega
    rw [hxb, divL (by omega) (by decide), mulL, nsub (by omega)]
    by_cases hr : 0 ≤ r
    · rw [if_pos hr]
      have : b - b / 100 * 100 = b - 100 := by omega
      rw [this]
      refine Int32.toInt_inj.mp ?_
      rw [nI_toInt (by omega), hx]
      omega
    · rw [if_neg hr]
      have : b - b / 100 * 100 = b := by omega
      rw [this]
  have x0 : (x = 0) ↔ r = 0 := by
    rw [← Int32.toInt_inj, hx]
    rfl
  unfold f_J9_floorMod_7cf53
  rw [mgd_s (by decide), hxx, mlt_s, hm]
  by_cases h0 : 0 ≤ v
  · rw [if_pos (hs.mpr h0), if_pos (hsign.1 h0)]
  · rw [if_neg (fun q => h0 (hs.mp q))]
    have hle := hsign.2 h0
    by_cases e : x = 0
    · rw [if_pos e, if_pos (by have := x0.mp e; omega)]
    · rw [if_neg e, if_neg (fun q => e (x0.mpr (by omega)))]
