/-! the reference reads a SHAPE, for one CELL -/
def rtx (M : mM) (N : Nat) (T : Nat → Int32) : Prop := M.1 96 9 = nI N ∧ N ≤ 90 ∧ ((M.1 96 11 = 0 ∧ ∃ b, M.1 96 8 = nI b ∧ b + 90 ≤ 1834 ∧ ∀ i, i < N → M.1 97 (b + i) = T i) ∨ (¬ M.1 96 11 = 0 ∧ ∀ i, i < N → M.1 101 i = T i))
theorem rtx_fr {M M' : mM} {N : Nat} {T : Nat → Int32} (h8 : M'.1 96 8 = M.1 96 8) (h9 : M'.1 96 9 = M.1 96 9) (h11 : M'.1 96 11 = M.1 96 11) (h97 : M'.1 97 = M.1 97) (h101 : M'.1 101 = M.1 101) (h : rtx M N T) : rtx M' N T := by
  unfold rtx at h ⊢
  rw [h8, h9, h11, h97, h101]
  exact h
theorem X10_next {M : mM} {N p : Nat} {T : Nat → Int32} (h : rtx M N T) (hs : M.1 96 10 = nI p) (hp : p < 2147483648) : f_X10_next M = some (lk T N p) := by
  obtain ⟨h1, h2, h3⟩ := h
  unfold f_X10_next
  rw [hs, h1]
  by_cases e : p < N
  · rw [if_pos ((nlt (by omega) (by omega)).mpr e), lk_y e]
    rcases h3 with ⟨q1, b, q2, q3, q4⟩ | ⟨q1, q2⟩
    · rw [if_pos q1, q2, nadd, mgd_s ((nin (by omega)).mpr (by omega)), ncl (by omega), q4 p e]
    · rw [if_neg q1, mgd_s ((nin (by omega)).mpr (by omega)), ncl (by omega), q2 p e]
  · rw [if_neg (fun q => e ((nlt (by omega) (by omega)).mp q)), lk_n e]
theorem X10_takes {M : mM} {N p lo hi : Nat} {T : Nat → Int32} (h : rtx M N T) (hs : M.1 96 10 = nI p) (hp : p < 2147483647) (hlo : lo < 1000) (hhi : hi < 1000) : f_X10_takes (nI lo) (nI hi) M = some (if dg (lk T N) p lo hi then (1, mI (mI M 96 12 (nI (dv (lk T N) p))) 96 10 (nI (p + 1))) else (0, M)) := by
  unfold f_X10_takes
  rw [X10_next h hs (by omega), mbp_s, ladd, ladd, X10_is_c]
  by_cases e : dg (lk T N) p lo hi
  · obtain ⟨v1, -, -⟩ := dg_v hlo hhi e
    rw [if_pos e, tf_y e, if_neg (by decide), mbp_s, mlt_s, mI_n (by omega), hs, nI_1, mlt_s, v1]
  · rw [if_neg e, tf_n e, if_pos rfl]
/-- the reader's cells: place, depth, digit; what waits, by depth -/
def shQ (M : mM) (p d : Nat) (td : Int32) (S U G : Nat → Int32) : mM := (fun a => if a = 96 then (fun i => if i = 10 then nI p else if i = 16 then nI d else if i = 12 then td else M.1 96 i) else if a = 102 then S else if a = 103 then U else if a = 104 then G else M.1 a, M.2)
theorem sh_10 {M : mM} {p d : Nat} {td : Int32} {S U G : Nat → Int32} : (shQ M p d td S U G).1 96 10 = nI p := by simp [shQ]
theorem sh_16 {M : mM} {p d : Nat} {td : Int32} {S U G : Nat → Int32} : (shQ M p d td S U G).1 96 16 = nI d := by simp [shQ]
theorem sh_12 {M : mM} {p d : Nat} {td : Int32} {S U G : Nat → Int32} : (shQ M p d td S U G).1 96 12 = td := by simp [shQ]
theorem sh_j {M : mM} {p d j : Nat} {td : Int32} {S U G : Nat → Int32} (h : j ≠ 10 ∧ j ≠ 16 ∧ j ≠ 12) : (shQ M p d td S U G).1 96 j = M.1 96 j := by simp [shQ, h]
theorem sh_S {M : mM} {p d : Nat} {td : Int32} {S U G : Nat → Int32} : (shQ M p d td S U G).1 102 = S := by simp [shQ]
theorem sh_U {M : mM} {p d : Nat} {td : Int32} {S U G : Nat → Int32} : (shQ M p d td S U G).1 103 = U := by simp [shQ]
theorem sh_G {M : mM} {p d : Nat} {td : Int32} {S U G : Nat → Int32} : (shQ M p d td S U G).1 104 = G := by simp [shQ]
theorem sh_k {M : mM} {p d k : Nat} {td : Int32} {S U G : Nat → Int32} (h : k ≠ 96 ∧ k ≠ 102 ∧ k ≠ 103 ∧ k ≠ 104) : (shQ M p d td S U G).1 k = M.1 k := by simp [shQ, h]
theorem shp {M : mM} {p d q : Nat} {td : Int32} {S U G : Nat → Int32} : mI (shQ M p d td S U G) 96 10 (nI q) = shQ M q d td S U G := by
  refine mM_ext (fun a i => ?_) rfl
  rw [mI_at]
  by_cases h1 : a = 96 <;> by_cases h2 : i = 10 <;> simp [shQ, h1, h2]
theorem shd {M : mM} {p d q : Nat} {td : Int32} {S U G : Nat → Int32} : mI (shQ M p d td S U G) 96 16 (nI q) = shQ M p q td S U G := by
  refine mM_ext (fun a i => ?_) rfl
  rw [mI_at]
  by_cases h1 : a = 96 <;> by_cases h2 : i = 16 <;> simp [shQ, h1, h2]
theorem sht {M : mM} {p d : Nat} {td v : Int32} {S U G : Nat → Int32} : mI (shQ M p d td S U G) 96 12 v = shQ M p d v S U G := by
  refine mM_ext (fun a i => ?_) rfl
  rw [mI_at]
  by_cases h1 : a = 96 <;> by_cases h2 : i = 12 <;> simp [shQ, h1, h2]
theorem shS {M : mM} {p d j : Nat} {td v : Int32} {S U G : Nat → Int32} : mI (shQ M p d td S U G) 102 j v = shQ M p d td (up S j v) U G := by
  refine mM_ext (fun a i => ?_) rfl
  rw [mI_at]
  by_cases h1 : a = 102 <;> by_cases h2 : i = j <;> simp [shQ, h1, h2]
theorem shU {M : mM} {p d j : Nat} {td v : Int32} {S U G : Nat → Int32} : mI (shQ M p d td S U G) 103 j v = shQ M p d td S (up U j v) G := by
  refine mM_ext (fun a i => ?_) rfl
  rw [mI_at]
  by_cases h1 : a = 103 <;> by_cases h2 : i = j <;> simp [shQ, h1, h2]
theorem shG {M : mM} {p d j : Nat} {td v : Int32} {S U G : Nat → Int32} : mI (shQ M p d td S U G) 104 j v = shQ M p d td S U (up G j v) := by
  refine mM_ext (fun a i => ?_) rfl
  rw [mI_at]
  by_cases h1 : a = 104 <;> by_cases h2 : i = j <;> simp [shQ, h1, h2]
theorem rtx_sh {M : mM} {N p d : Nat} {T : Nat → Int32} {td : Int32} {S U G : Nat → Int32} (h : rtx M N T) : rtx (shQ M p d td S U G) N T := rtx_fr (sh_j (by decide)) (sh_j (by decide)) (sh_j (by decide)) (sh_k (by decide)) (sh_k (by decide)) h
/-- how a part is joined to what was there -/
def cmb (g : Int32) (s w : Bool) : Bool := if g = 0 then w else if g = 43 then s || w else if g = 45 then s && !w else s && w
theorem bI_01 {b : Bool} : is01 (bI b) := by cases b; exact Or.inl rfl; exact Or.inr rfl
theorem X10_part {M : mM} {p d : Nat} {td : Int32} {S U G : Nat → Int32} {v s u : Bool} (hd : d < 8) (hS : S d = bI s) (hU : U d = bI u) : f_X10_part (bI v) (shQ M p d td S U G) = some (shQ M p d td (up S d (bI (cmb (G d) s (v != u)))) (up U d 0) G) := by
  have b150 : ∀ (b : Bool) (M1 : mM), f_X10_part_b150 (nI d) (bI b) M1 = some (mI M1 102 d (bI b)) := fun b M1 => by
    unfold f_X10_part_b150
    rw [mgd_s ((nin (by omega)).mpr (by omega)), mlt_s, ncl (by omega), nar_01 bI_01]
  have b18 : ∀ w : Bool, f_X10_part_b18 (bI w) (shQ M p d td S U G) = some (shQ M p d td (up S d (bI (cmb (G d) s w))) (up U d 0) G) := fun w => by
    unfold f_X10_part_b18
    rw [sh_16, mgd_s ((nin (by omega)).mpr (by omega)), ncl (by omega), shU, mlt_s, sh_16, mgd_s ((nin (by omega)).mpr (by omega))]
    simp only [ncl (show d < 2147483648 by omega), sh_G, sh_S, hS]
    unfold cmb
    by_cases g0 : G d = 0
    · rw [if_pos g0, if_pos g0, b150, shS]
    · rw [if_neg g0, if_neg g0, mgd_s ((nin (by omega)).mpr (by omega))]
      have t0 : f_X10_part_b150 (nI d) 0 (shQ M p d td S (up U d 0) G) = some (shQ M p d td (up S d (bI false)) (up U d 0) G) := by rw [show (0 : Int32) = bI false from rfl, b150, shS]
      have t1 : f_X10_part_b150 (nI d) 1 (shQ M p d td S (up U d 0) G) = some (shQ M p d td (up S d (bI true)) (up U d 0) G) := by rw [show (1 : Int32) = bI true from rfl, b150, shS]
      by_cases g1 : G d = 43
      · rw [if_pos g1, if_pos g1, mgd_s ((nin (by omega)).mpr (by omega))]
        cases s <;> cases w
        · rw [if_pos (show bI false = 0 from rfl), if_pos (show bI false = 0 from rfl)]; exact t0
        · rw [if_pos (show bI false = 0 from rfl), if_neg (by decide)]; exact t1
        · rw [if_neg (by decide)]; exact t1
        · rw [if_neg (by decide)]; exact t1
      · rw [if_neg g1, if_neg g1, mgd_s ((nin (by omega)).mpr (by omega))]
        by_cases g2 : G d = 45
        · rw [if_pos g2, if_pos g2, mgd_s ((nin (by omega)).mpr (by omega))]
          cases s <;> cases w
          · rw [if_pos (show bI false = 0 from rfl)]; exact t0
          · rw [if_pos (show bI false = 0 from rfl)]; exact t0
          · rw [if_neg (by decide), if_pos (show bI false = 0 from rfl)]; exact t1
          · rw [if_neg (by decide), if_neg (by decide)]; exact t0
        · rw [if_neg g2, if_neg g2, mgd_s ((nin (by omega)).mpr (by omega))]
          cases s <;> cases w
          · rw [if_pos (show bI false = 0 from rfl)]; exact t0
          · rw [if_pos (show bI false = 0 from rfl)]; exact t0
          · rw [if_neg (by decide), if_pos (show bI false = 0 from rfl)]; exact t0
          · rw [if_neg (by decide), if_neg (by decide)]; exact t1
  unfold f_X10_part
  rw [sh_16, mgd_s ((nin (by omega)).mpr (by omega)), ncl (by omega), sh_U, hU]
  cases v <;> cases u
  · rw [if_pos rfl]; exact b18 false
  · rw [if_neg (by decide)]; exact b18 true
  · rw [if_neg (by decide)]; exact b18 true
  · rw [if_pos rfl]; exact b18 false
theorem X10_openD {M : mM} {p d : Nat} {td : Int32} {S U G : Nat → Int32} (hd : d < 8) : f_X10_open (shQ M p d td S U G) = some (shQ M p d td (up S d 0) (up U d 0) (up G d 0)) := by
  unfold f_X10_open
  rw [sh_16, mgd_s ((nin (by omega)).mpr (by omega)), ncl (by omega), shG, mlt_s, sh_16, mgd_s ((nin (by omega)).mpr (by omega)), ncl (by omega), shU, mlt_s, sh_16, mgd_s ((nin (by omega)).mpr (by omega)), ncl (by omega), shS, mlt_s]
/-! the plain reading goes on, within the text -/
def aOK (N p : Nat) (r : Rt) : Prop := r.1 ≤ N ∧ (r.2.1 = true → p < r.1)
theorem aBox {T : Nat → Int32} {N p : Nat} {brd : Bool} (hp : p ≤ N) : (tBox (lk T N) p brd).1 ≤ N ∧ p ≤ (tBox (lk T N) p brd).1 := by
  unfold tBox
  by_cases e0 : dg (lk T N) p 0 9
  · obtain ⟨-, -, v0⟩ := dg_v (by decide) (by decide) e0
    have l0 := dg_lt (by decide) e0
    rw [if_pos e0]
    by_cases e1 : dg (lk T N) (p + 1) 0 7
    · obtain ⟨-, -, v1⟩ := dg_v (by decide) (by decide) e1
      have l1 := dg_lt (by decide) e1
      rw [if_pos e1]
      by_cases e2 : dg (lk T N) (p + 2) (dv (lk T N) p) 9
      · have l2 := dg_lt (by omega) e2
        rw [if_pos e2]
        by_cases e3 : dg (lk T N) (p + 3) (dv (lk T N) (p + 1)) 7
        · have l3 := dg_lt (by omega) e3
          rw [if_pos e3]
          exact ⟨by show p + 4 ≤ N; omega, by show p ≤ p + 4; omega⟩
        · rw [if_neg e3]
          exact ⟨by show p + 3 ≤ N; omega, by show p ≤ p + 3; omega⟩
      · rw [if_neg e2]
        exact ⟨by show p + 2 ≤ N; omega, by show p ≤ p + 2; omega⟩
    · rw [if_neg e1]
      exact ⟨by show p + 1 ≤ N; omega, by show p ≤ p + 1; omega⟩
  · rw [if_neg e0]
    exact ⟨hp, Nat.le_refl _⟩
theorem aAt {T : Nat → Int32} {N p : Nat} {b : Bool} {sA : Nat → Rt} (hs : b = true → ∀ p, p ≤ N → aOK N p (sA p)) (hp : p ≤ N) : aOK N p (tAt (lk T N) sA b p) := by
  unfold tAt
  by_cases e : b = true ∧ lk T N p = 40
  · have l1 := lk_lt e.2 (by decide)
    obtain ⟨s1, s2⟩ := hs e.1 (p + 1) (by omega)
    rw [if_pos e]
    by_cases e2 : (sA (p + 1)).2.1 = true
    · rw [if_pos e2]
      by_cases e3 : lk T N (sA (p + 1)).1 = 41
      · have l3 := lk_lt e3 (by decide)
        rw [if_pos e3]
        exact ⟨l3, fun _ => by have := s2 e2; show p < _ + 1; omega⟩
      · rw [if_neg e3]
        exact ⟨s1, fun q => absurd q Bool.false_ne_true⟩
    · rw [if_neg e2]
      exact ⟨s1, fun q => absurd q e2⟩
  · rw [if_neg e]
    by_cases e1 : lk T N p = 98
    · have l1 := lk_lt e1 (by decide)
      have := aBox (T := T) (brd := false) (show p + 1 ≤ N by omega)
      rw [if_pos e1]
      exact ⟨this.1, fun _ => by omega⟩
    · rw [if_neg e1]
      by_cases e2 : lk T N p = 111
      · have l1 := lk_lt e2 (by decide)
        have := aBox (T := T) (brd := true) (show p + 1 ≤ N by omega)
        rw [if_pos e2]
        exact ⟨this.1, fun _ => by omega⟩
      · rw [if_neg e2]
        exact ⟨hp, fun q => absurd q Bool.false_ne_true⟩
theorem aPt {T : Nat → Int32} {N : Nat} {b : Bool} {sA : Nat → Rt} (hs : b = true → ∀ p, p ≤ N → aOK N p (sA p)) : ∀ k p nt, p ≤ N → aOK N p (tPt (lk T N) sA b k p nt) := by
  intro k
  induction k with
  | zero => intro p nt hp; exact aAt (T := T) hs hp
  | succ k ih =>
    intro p nt hp
    rw [tPt]
    by_cases e : lk T N p = 33
    · have l1 := lk_lt e (by decide)
      have := ih (p + 1) (!nt) (by omega)
      rw [if_pos e]
      exact ⟨this.1, fun q => by have := this.2 q; omega⟩
    · rw [if_neg e]
      exact aAt (T := T) hs hp
theorem aLp {T : Nat → Int32} {N : Nat} {b : Bool} {sA : Nat → Rt} (hs : b = true → ∀ p, p ≤ N → aOK N p (sA p)) : ∀ k p v, p ≤ N → (tLp (lk T N) sA b k p v).1 ≤ N ∧ ((tLp (lk T N) sA b k p v).2.1 = true → p ≤ (tLp (lk T N) sA b k p v).1) := by
  intro k
  induction k with
  | zero => intro p v hp; exact ⟨hp, fun _ => Nat.le_refl _⟩
  | succ k ih =>
    intro p v hp
    rw [tLp]
    by_cases e : isOp (lk T N p)
    · have l1 : p < N := by rcases e with e | e | e <;> exact lk_lt e (by decide)
      have a := aPt (T := T) hs 90 (p + 1) false (by omega)
      rw [if_pos e]
      by_cases e2 : (tPt (lk T N) sA b 90 (p + 1) false).2.1 = true
      · rw [if_pos e2]
        have := ih (tPt (lk T N) sA b 90 (p + 1) false).1 (tCb (lk T N p) v (tPt (lk T N) sA b 90 (p + 1) false).2.2) a.1
        have a2 := a.2 e2
        exact ⟨this.1, fun q => by have := this.2 q; omega⟩
      · rw [if_neg e2]
        exact ⟨a.1, fun q => absurd q e2⟩
    · rw [if_neg e]
      exact ⟨hp, fun _ => Nat.le_refl _⟩
theorem aPs {T : Nat → Int32} {N p : Nat} {b : Bool} {sA : Nat → Rt} (hs : b = true → ∀ p, p ≤ N → aOK N p (sA p)) (hp : p ≤ N) : aOK N p (tPs (lk T N) sA b p) := by
  have a := aPt (T := T) hs 90 p false hp
  unfold tPs
  by_cases e2 : (tPt (lk T N) sA b 90 p false).2.1 = true
  · rw [if_pos e2]
    have := aLp (T := T) hs 90 (tPt (lk T N) sA b 90 p false).1 (tPt (lk T N) sA b 90 p false).2.2 a.1
    have a2 := a.2 e2
    exact ⟨this.1, fun q => by have := this.2 q; omega⟩
  · rw [if_neg e2]
    exact ⟨a.1, fun q => absurd q e2⟩
theorem aDp {T : Nat → Int32} {N : Nat} : ∀ e p, p ≤ N → aOK N p (tDp (lk T N) e p) := by
  intro e
  induction e with
  | zero => intro p hp; exact aPs (T := T) (fun q => absurd q Bool.false_ne_true) hp
  | succ e ih => intro p hp; exact aPs (T := T) (fun _ p hp => ih p hp) hp
