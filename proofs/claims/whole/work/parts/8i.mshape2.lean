/-! the reference's reading, step by step -/
theorem X10_b124 {M : mM} {p d xx yy x0 y0 x1 y1 : Nat} {S U G : Nat → Int32} {s u brd ins : Bool} (hd : d < 8) (hS : S d = bI s) (hU : U d = bI u) (hx : xx < 10) (hy : yy < 8) (h0 : x0 < 1000) (h1 : y0 < 1000) (h2 : x1 < 1000) (h3 : y1 < 1000) : f_X10_takesBox_b124 (nI xx) (nI yy) (bI brd) (nI x0) (nI y0) (nI x1) (bI ins) (shQ M p d (nI y1) S U G) = some (1, shQ M p d (nI y1) (up S d (bI (cmb (G d) s ((ins && (!brd || (decide (xx = x0) || decide (xx = x1) || decide (yy = y0) || decide (yy = y1)))) != u)))) (up U d 0) G) := by
  have b172 : ∀ v : Bool, f_X10_takesBox_b172 (bI v) (shQ M p d (nI y1) S U G) = some (1, shQ M p d (nI y1) (up S d (bI (cmb (G d) s (v != u)))) (up U d 0) G) := fun v => by
    unfold f_X10_takesBox_b172
    rw [X10_part hd hS hU, mbp_s]
  have t1 := b172 true
  have t0 := b172 false
  have t1 : f_X10_takesBox_b172 1 (shQ M p d (nI y1) S U G) = _ := t1
  have t0 : f_X10_takesBox_b172 0 (shQ M p d (nI y1) S U G) = _ := t0
  unfold f_X10_takesBox_b124
  cases brd
  · rw [if_pos (show bI false = 0 from rfl), b172]
    cases ins <;> rfl
  · rw [if_neg (by decide)]
    cases ins
    · rw [if_pos (show bI false = 0 from rfl), t0]; rfl
    · rw [if_neg (by decide), sh_12]
      by_cases e1 : xx = x0
      · rw [if_pos (show nI xx = nI x0 by rw [e1]), t1]; simp [e1]
      rw [if_neg (fun q => e1 ((neq (by omega) (by omega)).mp q))]
      by_cases e2 : xx = x1
      · rw [if_pos (show nI xx = nI x1 by rw [e2]), t1]; simp [e2]
      rw [if_neg (fun q => e2 ((neq (by omega) (by omega)).mp q))]
      by_cases e3 : yy = y0
      · rw [if_pos (show nI yy = nI y0 by rw [e3]), t1]; simp [e3]
      rw [if_neg (fun q => e3 ((neq (by omega) (by omega)).mp q))]
      by_cases e4 : yy = y1
      · rw [if_pos (show nI yy = nI y1 by rw [e4]), t1]; simp [e4]
      · rw [if_neg (fun q => e4 ((neq (by omega) (by omega)).mp q)), t0]; simp [e1, e2, e3, e4]
theorem bx_v {brd : Bool} {x0 y0 x1 y1 x y : Nat} : bx brd x0 y0 x1 y1 x y = (decide ((x0 ≤ x ∧ x ≤ x1) ∧ (y0 ≤ y ∧ y ≤ y1)) && (!brd || (decide (x = x0) || decide (x = x1) || decide (y = y0) || decide (y = y1)))) := by
  unfold bx
  by_cases a1 : (x0 ≤ x ∧ x ≤ x1) ∧ (y0 ≤ y ∧ y ≤ y1)
  · rw [decide_eq_true a1, Bool.true_and]
    cases brd
    · rw [decide_eq_true ⟨a1.1, a1.2, Or.inl rfl⟩]; rfl
    · by_cases e : x = x0 ∨ x = x1 ∨ y = y0 ∨ y = y1
      · rw [decide_eq_true ⟨a1.1, a1.2, Or.inr e⟩]
        rcases e with e | e | e | e <;> simp [e]
      · rw [decide_eq_false (fun k => by rcases k.2.2 with k | k; exact absurd k (by decide); exact e k)]
        have e1 : ¬ x = x0 := fun k => e (Or.inl k)
        have e2 : ¬ x = x1 := fun k => e (Or.inr (Or.inl k))
        have e3 : ¬ y = y0 := fun k => e (Or.inr (Or.inr (Or.inl k)))
        have e4 : ¬ y = y1 := fun k => e (Or.inr (Or.inr (Or.inr k)))
        simp [e1, e2, e3, e4]
  · rw [decide_eq_false a1, decide_eq_false (fun k => a1 ⟨k.1, k.2.1⟩), Bool.false_and]
theorem X10_box {M : mM} {N p d xx yy : Nat} {T : Nat → Int32} {td : Int32} {S U G : Nat → Int32} {s u brd : Bool} (h : rtx M N T) (hd : d < 8) (hS : S d = bI s) (hU : U d = bI u) (hx : xx < 10) (hy : yy < 8) (hp : p < N) (hc : (lk T N p = 111) ↔ brd = true) : ∃ td', f_X10_takesBox (nI xx) (nI yy) (shQ M p d td S U G) = some (if (tBox (lk T N) (p + 1) brd).2.1 = true then (1, shQ M (tBox (lk T N) (p + 1) brd).1 d td' (up S d (bI (cmb (G d) s ((tBox (lk T N) (p + 1) brd).2.2 (10 * yy + xx) != u)))) (up U d 0) G) else (0, shQ M (tBox (lk T N) (p + 1) brd).1 d td' S U G)) := by
  have hN := h.2.1
  have ent : f_X10_takesBox (nI xx) (nI yy) (shQ M p d td S U G) = f_X10_takesBox_b14 (nI xx) (nI yy) (bI brd) (shQ M p d td S U G) := by
    unfold f_X10_takesBox
    rw [X10_next (rtx_sh h) sh_10 (by omega), mbp_s]
    cases brd
    · rw [if_neg (fun q => absurd (hc.mp q) (by decide))]; rfl
    · rw [if_pos (hc.mpr rfl)]; rfl
  rw [ent]
  unfold f_X10_takesBox_b14 tBox
  rw [sh_10, nI_1, shp, mlt_s]
  have d0 : f_X10_takes 0 9 (shQ M (p + 1) d td S U G) = some (if dg (lk T N) (p + 1) 0 9 then (1, shQ M (p + 1 + 1) d (nI (dv (lk T N) (p + 1))) S U G) else (0, shQ M (p + 1) d td S U G)) := by
    have := X10_takes (lo := 0) (hi := 9) (rtx_sh (p := p + 1) (d := d) (td := td) (S := S) (U := U) (G := G) h) sh_10 (by omega) (by decide) (by decide)
    rw [sht, shp] at this
    exact this
  rw [d0]
  by_cases e0 : dg (lk T N) (p + 1) 0 9
  · obtain ⟨-, -, v0⟩ := dg_v (by decide) (by decide) e0
    have l0 := dg_lt (by decide) e0
    rw [if_pos e0, if_pos e0, mbw_s, if_neg (by decide)]
    have d1 : f_X10_takes 0 7 (shQ M (p + 1 + 1) d (nI (dv (lk T N) (p + 1))) S U G) = some (if dg (lk T N) (p + 1 + 1) 0 7 then (1, shQ M (p + 1 + 1 + 1) d (nI (dv (lk T N) (p + 1 + 1))) S U G) else (0, shQ M (p + 1 + 1) d (nI (dv (lk T N) (p + 1))) S U G)) := by
      have := X10_takes (lo := 0) (hi := 7) (rtx_sh (p := p + 1 + 1) (d := d) (td := nI (dv (lk T N) (p + 1))) (S := S) (U := U) (G := G) h) sh_10 (by omega) (by decide) (by decide)
      rw [sht, shp] at this
      exact this
    rw [d1]
    by_cases e1 : dg (lk T N) (p + 1 + 1) 0 7
    · obtain ⟨-, -, v1⟩ := dg_v (by decide) (by decide) e1
      have l1 := dg_lt (by decide) e1
      rw [if_pos e1, if_pos e1, mbw_s, if_neg (by decide), sh_12]
      have d2 := X10_takes (lo := dv (lk T N) (p + 1)) (hi := 9) (rtx_sh (p := p + 1 + 1 + 1) (d := d) (td := nI (dv (lk T N) (p + 1 + 1))) (S := S) (U := U) (G := G) h) sh_10 (by omega) (by omega) (by decide)
      rw [sht, shp] at d2
      have d2 : f_X10_takes (nI (dv (lk T N) (p + 1))) 9 (shQ M (p + 1 + 1 + 1) d (nI (dv (lk T N) (p + 1 + 1))) S U G) = _ := d2
      rw [d2]
      by_cases e2 : dg (lk T N) (p + 1 + 2) (dv (lk T N) (p + 1)) 9
      · obtain ⟨-, u2, v2⟩ := dg_v (by omega) (by decide) e2
        have l2 := dg_lt (by omega) e2
        rw [if_pos (show dg (lk T N) (p + 1 + 1 + 1) (dv (lk T N) (p + 1)) 9 from e2), if_pos e2, mbw_s, if_neg (by decide), sh_12]
        have d3 := X10_takes (lo := dv (lk T N) (p + 1 + 1)) (hi := 7) (rtx_sh (p := p + 1 + 1 + 1 + 1) (d := d) (td := nI (dv (lk T N) (p + 1 + 1 + 1))) (S := S) (U := U) (G := G) h) sh_10 (by omega) (by omega) (by decide)
        rw [sht, shp] at d3
        have d3 : f_X10_takes (nI (dv (lk T N) (p + 1 + 1))) 7 (shQ M (p + 1 + 1 + 1 + 1) d (nI (dv (lk T N) (p + 1 + 1 + 1))) S U G) = _ := d3
        rw [d3]
        by_cases e3 : dg (lk T N) (p + 1 + 3) (dv (lk T N) (p + 1 + 1)) 7
        · obtain ⟨-, u3, v3⟩ := dg_v (by omega) (by decide) e3
          rw [if_pos (show dg (lk T N) (p + 1 + 1 + 1 + 1) (dv (lk T N) (p + 1 + 1)) 7 from e3), if_pos e3, mbw_s, if_neg (by decide), sh_12, sh_12, X10_is_c, X10_is_c]
          refine ⟨nI (dv (lk T N) (p + 1 + 1 + 1 + 1)), ?_⟩
          show _ = some (if true = true then _ else _)
          rw [if_pos rfl]
          show _ = some (1, shQ M (p + 1 + 4) d (nI (dv (lk T N) (p + 1 + 1 + 1 + 1))) (up S d (bI (cmb (G d) s (bx brd (dv (lk T N) (p + 1)) (dv (lk T N) (p + 1 + 1)) (dv (lk T N) (p + 1 + 2)) (dv (lk T N) (p + 1 + 3)) ((10 * yy + xx) % 10) ((10 * yy + xx) / 10) != u)))) (up U d 0) G)
          have f1 := X10_b124 (M := M) (p := p + 1 + 1 + 1 + 1 + 1) (S := S) (U := U) (G := G) (brd := brd) (ins := decide ((dv (lk T N) (p + 1) ≤ xx ∧ xx ≤ dv (lk T N) (p + 1 + 2)) ∧ (dv (lk T N) (p + 1 + 1) ≤ yy ∧ yy ≤ dv (lk T N) (p + 1 + 3)))) (x0 := dv (lk T N) (p + 1)) (y0 := dv (lk T N) (p + 1 + 1)) (x1 := dv (lk T N) (p + 1 + 2)) (y1 := dv (lk T N) (p + 1 + 3)) hd hS hU hx hy (by omega) (by omega) (by omega) (by omega)
          rw [← bx_v] at f1
          have a1 : (10 * yy + xx) % 10 = xx := by omega
          have a2 : (10 * yy + xx) / 10 = yy := by omega
          rw [a1, a2]
          refine Eq.trans ?_ f1
          by_cases i1 : dv (lk T N) (p + 1) ≤ xx ∧ xx ≤ dv (lk T N) (p + 1 + 2)
          · rw [tf_y (show nI (dv (lk T N) (p + 1)) ≤ nI xx ∧ nI xx ≤ nI (dv (lk T N) (p + 1 + 1 + 1)) from ⟨(nle (by omega) (by omega)).mpr i1.1, (nle (by omega) (by show dv (lk T N) (p + 1 + 2) < _; omega)).mpr i1.2⟩), if_neg (by decide)]
            by_cases i2 : dv (lk T N) (p + 1 + 1) ≤ yy ∧ yy ≤ dv (lk T N) (p + 1 + 3)
            · rw [tf_y (show nI (dv (lk T N) (p + 1 + 1)) ≤ nI yy ∧ nI yy ≤ nI (dv (lk T N) (p + 1 + 1 + 1 + 1)) from ⟨(nle (by omega) (by omega)).mpr i2.1, (nle (by omega) (by show dv (lk T N) (p + 1 + 3) < _; omega)).mpr i2.2⟩), if_neg (by decide), decide_eq_true ⟨i1, i2⟩]
              rfl
            · rw [tf_n (show ¬ (nI (dv (lk T N) (p + 1 + 1)) ≤ nI yy ∧ nI yy ≤ nI (dv (lk T N) (p + 1 + 1 + 1 + 1))) from fun q => i2 ⟨(nle (by omega) (by omega)).mp q.1, (nle (by omega) (by show dv (lk T N) (p + 1 + 3) < _; omega)).mp q.2⟩), if_pos rfl, decide_eq_false (fun q => i2 q.2)]
              rfl
          · rw [tf_n (show ¬ (nI (dv (lk T N) (p + 1)) ≤ nI xx ∧ nI xx ≤ nI (dv (lk T N) (p + 1 + 1 + 1))) from fun q => i1 ⟨(nle (by omega) (by omega)).mp q.1, (nle (by omega) (by show dv (lk T N) (p + 1 + 2) < _; omega)).mp q.2⟩), if_pos rfl, decide_eq_false (fun q => i1 q.1)]
            rfl
        · rw [if_neg (show ¬ dg (lk T N) (p + 1 + 1 + 1 + 1) (dv (lk T N) (p + 1 + 1)) 7 from e3), if_neg e3, mbw_s, if_pos rfl]
          exact ⟨_, (congrArg some (if_neg Bool.false_ne_true)).symm⟩
      · rw [if_neg (show ¬ dg (lk T N) (p + 1 + 1 + 1) (dv (lk T N) (p + 1)) 9 from e2), if_neg e2, mbw_s, if_pos rfl]
        exact ⟨_, (congrArg some (if_neg Bool.false_ne_true)).symm⟩
    · rw [if_neg e1, if_neg e1, mbw_s, if_pos rfl]
      exact ⟨_, (congrArg some (if_neg Bool.false_ne_true)).symm⟩
  · rw [if_neg e0, if_neg e0, mbw_s, if_pos rfl]
    exact ⟨_, (congrArg some (if_neg Bool.false_ne_true)).symm⟩
/-! the steps -/
theorem st_in {M : mM} {N p d n : Nat} {T : Nat → Int32} {x y i4 td : Int32} {S U G : Nat → Int32} (h : rtx M N T) (hp : p < N) : ¬ (shQ M p d td S U G).1 96 9 ≤ (shQ M p d td S U G).1 96 10 ∧ f_X10_next (shQ M p d td S U G) = some (lk T N p) := by
  have hN := h.2.1
  refine ⟨?_, X10_next (rtx_sh h) sh_10 (by omega)⟩
  rw [sh_10, sh_j (by decide), h.1]
  exact fun q => by have := (nle (by omega) (by omega)).mp q; omega
theorem st_33 {M : mM} {N p d n : Nat} {T : Nat → Int32} {x y td : Int32} {S U G : Nat → Int32} {u : Bool} (h : rtx M N T) (hd : d < 8) (hU : U d = bI u) (hl : lk T N p = 33) : f_X10_goesShape_b17 (n + 1) x y 1 (shQ M p d td S U G) = f_X10_goesShape_b17 n x y 1 (shQ M (p + 1) d td S (up U d (bI (!u))) G) := by
  obtain ⟨a1, a2⟩ := st_in (d := d) (n := n) (x := x) (y := y) (i4 := 1) (td := td) (S := S) (U := U) (G := G) h (lk_lt hl (by decide))
  rw [f_X10_goesShape_b17, if_neg a1, a2, mbp_s, if_neg (by decide), if_pos hl, sh_16, mgd_s ((nin (by omega)).mpr (by omega)), ncl (by omega), sh_U, hU]
  unfold f_X10_goesShape_b71
  cases u
  · rw [if_pos (show bI false = 0 from rfl), mgd_s ((nin (by omega)).mpr (by omega)), ncl (by omega), mlt_s, shU, sh_10, nI_1, shp, mlt_s]; rfl
  · rw [if_neg (by decide), mgd_s ((nin (by omega)).mpr (by omega)), ncl (by omega), mlt_s, shU, sh_10, nI_1, shp, mlt_s]; rfl
theorem st_40 {M : mM} {N p d n : Nat} {T : Nat → Int32} {x y td : Int32} {S U G : Nat → Int32} (h : rtx M N T) (hd : d < 6) (hl : lk T N p = 40) : f_X10_goesShape_b17 (n + 1) x y 1 (shQ M p d td S U G) = f_X10_goesShape_b17 n x y 1 (shQ M (p + 1) (d + 1) td (up S (d + 1) 0) (up U (d + 1) 0) (up G (d + 1) 0)) := by
  obtain ⟨a1, a2⟩ := st_in (d := d) (n := n) (x := x) (y := y) (i4 := 1) (td := td) (S := S) (U := U) (G := G) h (lk_lt hl (by decide))
  rw [f_X10_goesShape_b17, if_neg a1, a2, mbp_s, if_neg (by decide), if_neg (by rw [hl]; decide), if_pos hl, sh_16, if_neg (fun q => by have : _ = 6 := (eqL (m := 6) (by decide) (by omega)).mp q; omega), nI_1, shd, mlt_s, X10_openD (by omega), mbp_s, sh_10, nI_1, shp, mlt_s]
theorem st_40n {M : mM} {N p n : Nat} {T : Nat → Int32} {x y td : Int32} {S U G : Nat → Int32} (h : rtx M N T) (hl : lk T N p = 40) : f_X10_goesShape_b17 (n + 1) x y 1 (shQ M p 6 td S U G) = some (0, shQ M p 6 td S U G) := by
  obtain ⟨a1, a2⟩ := st_in (d := 6) (n := n) (x := x) (y := y) (i4 := 1) (td := td) (S := S) (U := U) (G := G) h (lk_lt hl (by decide))
  rw [f_X10_goesShape_b17, if_neg a1, a2, mbp_s, if_neg (by decide), if_neg (by rw [hl]; decide), if_pos hl, sh_16, if_pos (show nI 6 = (6 : Int32) from rfl)]
theorem st_bx {M : mM} {N p d n xx yy : Nat} {T : Nat → Int32} {td : Int32} {S U G : Nat → Int32} {s u brd : Bool} (h : rtx M N T) (hd : d < 8) (hS : S d = bI s) (hU : U d = bI u) (hx : xx < 10) (hy : yy < 8) (hl : (lk T N p = 98 ∧ brd = false) ∨ (lk T N p = 111 ∧ brd = true)) : ∃ td', f_X10_goesShape_b17 (n + 1) (nI xx) (nI yy) 1 (shQ M p d td S U G) = if (tBox (lk T N) (p + 1) brd).2.1 = true then f_X10_goesShape_b17 n (nI xx) (nI yy) 0 (shQ M (tBox (lk T N) (p + 1) brd).1 d td' (up S d (bI (cmb (G d) s ((tBox (lk T N) (p + 1) brd).2.2 (10 * yy + xx) != u)))) (up U d 0) G) else some (0, shQ M (tBox (lk T N) (p + 1) brd).1 d td' S U G) := by
  have hpN : p < N := by rcases hl with hl | hl <;> exact lk_lt hl.1 (by decide)
  obtain ⟨a1, a2⟩ := st_in (d := d) (n := n) (x := nI xx) (y := nI yy) (i4 := 1) (td := td) (S := S) (U := U) (G := G) h hpN
  obtain ⟨td', e⟩ := X10_box (td := td) (G := G) h hd hS hU hx hy hpN (brd := brd) (by
    rcases hl with ⟨q1, q2⟩ | ⟨q1, q2⟩
    · rw [q1, q2]; decide
    · rw [q1, q2]; decide)
  refine ⟨td', ?_⟩
  have b144 : f_X10_goesShape_b144 (f_X10_goesShape_b17 n) (nI xx) (nI yy) (shQ M p d td S U G) = if (tBox (lk T N) (p + 1) brd).2.1 = true then f_X10_goesShape_b17 n (nI xx) (nI yy) 0 (shQ M (tBox (lk T N) (p + 1) brd).1 d td' (up S d (bI (cmb (G d) s ((tBox (lk T N) (p + 1) brd).2.2 (10 * yy + xx) != u)))) (up U d 0) G) else some (0, shQ M (tBox (lk T N) (p + 1) brd).1 d td' S U G) := by
    unfold f_X10_goesShape_b144
    rw [e]
    by_cases c : (tBox (lk T N) (p + 1) brd).2.1 = true
    · rw [if_pos c, if_pos c, mbw_s, if_neg (by decide)]
    · rw [if_neg c, if_neg c, mbw_s, if_pos rfl]
  rw [f_X10_goesShape_b17, if_neg a1, a2, mbp_s, if_neg (by decide)]
  rcases hl with ⟨q1, -⟩ | ⟨q1, -⟩
  · rw [q1, if_neg (by decide), if_neg (by decide), if_pos rfl]; exact b144
  · rw [q1, if_neg (by decide), if_neg (by decide), if_neg (by decide), if_pos rfl]; exact b144
theorem st_w {M : mM} {N p d n : Nat} {T : Nat → Int32} {x y td : Int32} {S U G : Nat → Int32} (h : rtx M N T) (hp : p < 2147483648) (h1 : lk T N p ≠ 33) (h2 : lk T N p ≠ 40) (h3 : lk T N p ≠ 98) (h4 : lk T N p ≠ 111) : f_X10_goesShape_b17 (n + 1) x y 1 (shQ M p d td S U G) = some (0, shQ M p d td S U G) := by
  by_cases hpN : p < N
  · obtain ⟨a1, a2⟩ := st_in (d := d) (n := n) (x := x) (y := y) (i4 := 1) (td := td) (S := S) (U := U) (G := G) h hpN
    rw [f_X10_goesShape_b17, if_neg a1, a2, mbp_s, if_neg (by decide), if_neg h1, if_neg h2, if_neg h3, if_neg h4]
  · have hN := h.2.1
    rw [f_X10_goesShape_b17, sh_10, sh_j (by decide), h.1, if_pos ((nle (by omega) hp).mpr (by omega)), if_neg (by decide)]
theorem st_op {M : mM} {N p d n : Nat} {T : Nat → Int32} {x y td : Int32} {S U G : Nat → Int32} (h : rtx M N T) (hd : d < 8) (hl : isOp (lk T N p)) : f_X10_goesShape_b17 (n + 1) x y 0 (shQ M p d td S U G) = f_X10_goesShape_b17 n x y 1 (shQ M (p + 1) d td S U (up G d (lk T N p))) := by
  have hpN : p < N := by rcases hl with hl | hl | hl <;> exact lk_lt hl (by decide)
  obtain ⟨a1, a2⟩ := st_in (d := d) (n := n) (x := x) (y := y) (i4 := 0) (td := td) (S := S) (U := U) (G := G) h hpN
  have b226 : f_X10_goesShape_b226 (f_X10_goesShape_b17 n) x y (lk T N p) (shQ M p d td S U G) = f_X10_goesShape_b17 n x y 1 (shQ M (p + 1) d td S U (up G d (lk T N p))) := by
    unfold f_X10_goesShape_b226 f_X10_goesShape_b245
    rw [sh_16, mgd_s ((nin (by omega)).mpr (by omega)), ncl (by omega), shG, mlt_s, sh_10, nI_1, shp, mlt_s]
  rw [f_X10_goesShape_b17, if_neg a1, a2, mbp_s, if_pos rfl, if_neg (by rcases hl with hl | hl | hl <;> rw [hl] <;> decide)]
  unfold f_X10_goesShape_b205
  by_cases e1 : lk T N p = 43
  · rw [if_pos e1]; exact b226
  rw [if_neg e1]
  by_cases e2 : lk T N p = 45
  · rw [if_pos e2]; exact b226
  rw [if_neg e2, if_pos (by rcases hl with hl | hl | hl; exact absurd hl e1; exact absurd hl e2; exact hl)]
  exact b226
theorem st_41 {M : mM} {N p d n : Nat} {T : Nat → Int32} {x y td : Int32} {S U G : Nat → Int32} {s u v : Bool} (h : rtx M N T) (hd : d < 7) (hS : S d = bI s) (hU : U d = bI u) (hv : S (d + 1) = bI v) (hl : lk T N p = 41) : f_X10_goesShape_b17 (n + 1) x y 0 (shQ M p (d + 1) td S U G) = f_X10_goesShape_b17 n x y 0 (shQ M (p + 1) d td (up S d (bI (cmb (G d) s (v != u)))) (up U d 0) G) := by
  obtain ⟨a1, a2⟩ := st_in (d := d + 1) (n := n) (x := x) (y := y) (i4 := 0) (td := td) (S := S) (U := U) (G := G) h (lk_lt hl (by decide))
  rw [f_X10_goesShape_b17, if_neg a1, a2, mbp_s, if_pos rfl, if_pos hl, sh_16, if_neg (fun q => by have : _ ≤ 0 := (leL (m := 0) (by decide) (by omega)).mp q; omega), mgd_s ((nin (by omega)).mpr (by omega)), ncl (by omega), sh_S, hv, mlt_s, show nI (d + 1) - 1 = nI d by rw [← nI_1]; grind, shd, mlt_s, X10_part (by omega) hS hU, mbp_s]
  unfold f_X10_goesShape_b245
  rw [sh_10, nI_1, shp, mlt_s]
theorem st_z {M : mM} {N p d n : Nat} {T : Nat → Int32} {x y td : Int32} {S U G : Nat → Int32} (h : rtx M N T) (hd : d < 8) (hp : p < N) (h1 : ¬ isOp (lk T N p)) (h2 : ¬ (lk T N p = 41 ∧ 0 < d)) : f_X10_goesShape_b17 (n + 1) x y 0 (shQ M p d td S U G) = some (0, shQ M p d td S U G) := by
  obtain ⟨a1, a2⟩ := st_in (d := d) (n := n) (x := x) (y := y) (i4 := 0) (td := td) (S := S) (U := U) (G := G) h hp
  have b205 : f_X10_goesShape_b205 (f_X10_goesShape_b17 n) x y (lk T N p) (shQ M p d td S U G) = some (0, shQ M p d td S U G) := by
    unfold f_X10_goesShape_b205
    rw [if_neg (fun q => h1 (Or.inl q)), if_neg (fun q => h1 (Or.inr (Or.inl q))), if_neg (fun q => h1 (Or.inr (Or.inr q)))]
  rw [f_X10_goesShape_b17, if_neg a1, a2, mbp_s, if_pos rfl]
  by_cases e : lk T N p = 41
  · have hd0 : ¬ 0 < d := fun q => h2 ⟨e, q⟩
    rw [if_pos e, sh_16, if_pos ((leL (m := 0) (by decide) (by omega)).mpr (show _ ≤ 0 by omega))]
    exact b205
  · rw [if_neg e]
    exact b205
theorem st_N {M : mM} {N p d n : Nat} {T : Nat → Int32} {x y td : Int32} {S U G : Nat → Int32} (h : rtx M N T) (hd : d < 8) (hp : ¬ p < N) (hp2 : p < 2147483648) : f_X10_goesShape_b17 (n + 1) x y 0 (shQ M p d td S U G) = some (if d = 0 then 1 else 0, shQ M p d td S U G) := by
  have hN := h.2.1
  rw [f_X10_goesShape_b17, sh_10, sh_j (by decide), h.1, if_pos ((nle (by omega) hp2).mpr (by omega)), if_pos rfl, sh_16]
  by_cases e : d = 0
  · rw [if_pos e, if_pos (by rw [e]; rfl)]
  · rw [if_neg e, if_neg (fun q => e ((eqL (m := 0) (by decide) (by omega)).mp q))]
/-- from a place to the answer's place, or to its FAULT -/
def mRn (M : mM) (x y i4 : Int32) (d p : Nat) (td : Int32) (S U G : Nat → Int32) (r : Rt) (sv : Bool) : Prop :=
  ∀ F, 200 ≤ F + p → (r.2.1 = true → ∃ F' td' S' U' G', 200 ≤ F' + r.1 ∧ (∀ i, i < d → S' i = S i ∧ U' i = U i ∧ G' i = G i) ∧ S' d = bI sv ∧ U' d = 0 ∧ f_X10_goesShape_b17 F x y i4 (shQ M p d td S U G) = f_X10_goesShape_b17 F' x y 0 (shQ M r.1 d td' S' U' G')) ∧ (¬ r.2.1 = true → ∃ d' td' S' U' G', f_X10_goesShape_b17 F x y i4 (shQ M p d td S U G) = some (0, shQ M r.1 d' td' S' U' G'))
def mSl (M : mM) (N : Nat) (T : Nat → Int32) (x y : Int32) (z d : Nat) (b : Bool) (sA : Nat → Rt) : Prop := (b = true ↔ d < 6) ∧ (b = true → ∀ p, p ≤ N → aOK N p (sA p) ∧ ((sA p).2.1 = true → ¬ isOp (lk T N (sA p).1)) ∧ ∀ td S U G, S (d + 1) = 0 → U (d + 1) = 0 → G (d + 1) = 0 → mRn M x y 1 (d + 1) p td S U G (sA p) ((sA p).2.2 z))
theorem mAt {M : mM} {N p d xx yy : Nat} {T : Nat → Int32} {td : Int32} {S U G : Nat → Int32} {s u b : Bool} {sA : Nat → Rt} (h : rtx M N T) (hd : d ≤ 6) (hx : xx < 10) (hy : yy < 8) (hs : mSl M N T (nI xx) (nI yy) (10 * yy + xx) d b sA) (hp : p ≤ N) (hS : S d = bI s) (hU : U d = bI u) (h33 : lk T N p ≠ 33) : mRn M (nI xx) (nI yy) 1 d p td S U G (tAt (lk T N) sA b p) (cmb (G d) s ((tAt (lk T N) sA b p).2.2 (10 * yy + xx) != u)) := by
  have hN := h.2.1
  intro F hF
  obtain ⟨n, rfl⟩ : ∃ n, F = n + 1 := ⟨F - 1, by omega⟩
  unfold tAt
  by_cases e : b = true ∧ lk T N p = 40
  · have hd6 := hs.1.mp e.1
    obtain ⟨⟨s1, s2⟩, s3, s4⟩ := hs.2 e.1 (p + 1) (lk_lt e.2 (by decide))
    have s4 := s4 td (up S (d + 1) 0) (up U (d + 1) 0) (up G (d + 1) 0) up_e up_e up_e n (by omega)
    rw [if_pos e, st_40 h hd6 e.2]
    by_cases e2 : (sA (p + 1)).2.1 = true
    · obtain ⟨F', td', S', U', G', f1, f2, f3, f4, f5⟩ := s4.1 e2
      have hlt := s2 e2
      rw [if_pos e2, f5]
      obtain ⟨m, rfl⟩ : ∃ m, F' = m + 1 := ⟨F' - 1, by omega⟩
      obtain ⟨k1, k2, k3⟩ := f2 d (by omega)
      rw [up_n (by omega)] at k1 k2 k3
      by_cases e3 : lk T N (sA (p + 1)).1 = 41
      · have l3 := lk_lt e3 (by decide)
        rw [if_pos e3, st_41 (s := s) (u := u) (v := (sA (p + 1)).2.2 (10 * yy + xx)) h (by omega) (k1.trans hS) (k2.trans hU) f3 e3]
        refine ⟨fun _ => ⟨m, td', _, _, G', ?_, fun i hi => ?_, by rw [up_e, k3], up_e, rfl⟩, fun q => absurd rfl q⟩
        · show 200 ≤ m + ((sA (p + 1)).1 + 1); omega
        · obtain ⟨j1, j2, j3⟩ := f2 i (by omega)
          rw [up_n (by omega)] at j1 j2 j3
          exact ⟨by rw [up_n (by omega)]; exact j1, by rw [up_n (by omega)]; exact j2, j3⟩
      · rw [if_neg e3]
        refine ⟨fun q => absurd q Bool.false_ne_true, fun _ => ⟨d + 1, td', S', U', G', ?_⟩⟩
        by_cases e4 : (sA (p + 1)).1 < N
        · exact st_z h (by omega) e4 (s3 e2) (fun q => e3 q.1)
        · rw [st_N h (by omega) e4 (by omega), if_neg (by omega)]
    · rw [if_neg e2]
      exact ⟨fun q => absurd q e2, fun _ => s4.2 e2⟩
  · rw [if_neg e]
    by_cases e1 : lk T N p = 98
    · have l1 := lk_lt e1 (by decide)
      have a := aBox (T := T) (brd := false) (show p + 1 ≤ N by omega)
      rw [if_pos e1]
      obtain ⟨td', q⟩ := st_bx (n := n) (td := td) (G := G) h (by omega) hS hU hx hy (Or.inl ⟨e1, rfl⟩)
      rw [q]
      by_cases c : (tBox (lk T N) (p + 1) false).2.1 = true
      · rw [if_pos c]
        exact ⟨fun _ => ⟨n, td', _, _, G, by omega, fun i hi => ⟨up_n (by omega), up_n (by omega), rfl⟩, up_e, up_e, rfl⟩, fun q => absurd c q⟩
      · rw [if_neg c]
        exact ⟨fun q => absurd q c, fun _ => ⟨d, td', S, U, G, rfl⟩⟩
    · rw [if_neg e1]
      by_cases e2 : lk T N p = 111
      · have l1 := lk_lt e2 (by decide)
        have a := aBox (T := T) (brd := true) (show p + 1 ≤ N by omega)
        rw [if_pos e2]
        obtain ⟨td', q⟩ := st_bx (n := n) (td := td) (G := G) h (by omega) hS hU hx hy (Or.inr ⟨e2, rfl⟩)
        rw [q]
        by_cases c : (tBox (lk T N) (p + 1) true).2.1 = true
        · rw [if_pos c]
          exact ⟨fun _ => ⟨n, td', _, _, G, by omega, fun i hi => ⟨up_n (by omega), up_n (by omega), rfl⟩, up_e, up_e, rfl⟩, fun q => absurd c q⟩
        · rw [if_neg c]
          exact ⟨fun q => absurd q c, fun _ => ⟨d, td', S, U, G, rfl⟩⟩
      · rw [if_neg e2]
        refine ⟨fun q => absurd q Bool.false_ne_true, fun _ => ⟨d, td, S, U, G, ?_⟩⟩
        by_cases e40 : lk T N p = 40
        · have hb : ¬ d < 6 := fun q => e ⟨hs.1.mpr q, e40⟩
          have h6 : d = 6 := by omega
          subst h6
          exact st_40n h e40
        · exact st_w h (by omega) h33 e40 e1 e2
theorem bne_cm {a b : Bool} : (a != b) = (b != a) := by cases a <;> cases b <;> rfl
theorem mPt {M : mM} {N d xx yy : Nat} {T : Nat → Int32} {b : Bool} {sA : Nat → Rt} (h : rtx M N T) (hd : d ≤ 6) (hx : xx < 10) (hy : yy < 8) (hs : mSl M N T (nI xx) (nI yy) (10 * yy + xx) d b sA) : ∀ k p nt td S U G s, p ≤ N → N ≤ p + k → S d = bI s → U d = bI nt → mRn M (nI xx) (nI yy) 1 d p td S U G (tPt (lk T N) sA b k p nt) (cmb (G d) s ((tPt (lk T N) sA b k p nt).2.2 (10 * yy + xx))) := by
  have hN := h.2.1
  intro k
  induction k with
  | zero =>
    intro p nt td S U G s hp hk hS hU
    have := mAt (td := td) (G := G) h hd hx hy hs hp hS hU (by rw [lk_n (by omega)]; decide)
    rw [bne_cm] at this
    exact this
  | succ k ih =>
    intro p nt td S U G s hp hk hS hU
    rw [tPt]
    by_cases e : lk T N p = 33
    · have l1 := lk_lt e (by decide)
      rw [if_pos e]
      intro F hF
      obtain ⟨n, rfl⟩ : ∃ n, F = n + 1 := ⟨F - 1, by omega⟩
      rw [st_33 h (by omega) hU e]
      have := ih (p + 1) (!nt) td S (up U d (bI (!nt))) G s (by omega) (by omega) hS up_e n (by omega)
      refine ⟨fun q => ?_, this.2⟩
      obtain ⟨F', td', S', U', G', f1, f2, f3, f4, f5⟩ := this.1 q
      refine ⟨F', td', S', U', G', f1, fun i hi => ?_, f3, f4, f5⟩
      obtain ⟨j1, j2, j3⟩ := f2 i hi
      rw [up_n (by omega)] at j2
      exact ⟨j1, j2, j3⟩
    · rw [if_neg e]
      have := mAt (td := td) (G := G) h hd hx hy hs hp hS hU e
      rw [bne_cm] at this
      exact this
theorem cmb_op {c : Int32} {v w : Nat → Bool} {z : Nat} (h : isOp c) : cmb c (v z) (w z) = tCb c v w z := by
  unfold cmb tCb
  rcases h with rfl | rfl | rfl <;> rfl
theorem mLp {M : mM} {N d xx yy : Nat} {T : Nat → Int32} {b : Bool} {sA : Nat → Rt} (h : rtx M N T) (hd : d ≤ 6) (hx : xx < 10) (hy : yy < 8) (hs : mSl M N T (nI xx) (nI yy) (10 * yy + xx) d b sA) : ∀ k p v td S U G, p ≤ N → N ≤ p + k → S d = bI (v (10 * yy + xx)) → U d = 0 → mRn M (nI xx) (nI yy) 0 d p td S U G (tLp (lk T N) sA b k p v) ((tLp (lk T N) sA b k p v).2.2 (10 * yy + xx)) ∧ ((tLp (lk T N) sA b k p v).2.1 = true → ¬ isOp (lk T N (tLp (lk T N) sA b k p v).1)) := by
  have hN := h.2.1
  have sa : b = true → ∀ p, p ≤ N → aOK N p (sA p) := fun hb p hp => (hs.2 hb p hp).1
  intro k
  induction k with
  | zero =>
    intro p v td S U G hp hk hS hU
    refine ⟨fun F hF => ⟨fun _ => ⟨F, td, S, U, G, hF, fun _ _ => ⟨rfl, rfl, rfl⟩, hS, hU, rfl⟩, fun q => absurd rfl q⟩, fun _ => ?_⟩
    show ¬ isOp (lk T N p)
    rw [lk_n (by omega)]; decide
  | succ k ih =>
    intro p v td S U G hp hk hS hU
    rw [tLp]
    by_cases e : isOp (lk T N p)
    · have l1 : p < N := by rcases e with e | e | e <;> exact lk_lt e (by decide)
      have a := aPt (T := T) sa 90 (p + 1) false (by omega)
      have m1 := mPt h hd hx hy hs 90 (p + 1) false td S U (up G d (lk T N p)) (v (10 * yy + xx)) (by omega) (by omega) hS hU
      rw [up_e, cmb_op e] at m1
      rw [if_pos e]
      by_cases e2 : (tPt (lk T N) sA b 90 (p + 1) false).2.1 = true
      · rw [if_pos e2]
        have a2 := a.2 e2
        refine ⟨fun F hF => ?_, (ih (tPt (lk T N) sA b 90 (p + 1) false).1 (tCb (lk T N p) v (tPt (lk T N) sA b 90 (p + 1) false).2.2) td (fun _ => bI (tCb (lk T N p) v (tPt (lk T N) sA b 90 (p + 1) false).2.2 (10 * yy + xx))) (fun _ => 0) G a.1 (by omega) rfl rfl).2⟩
        obtain ⟨n, rfl⟩ : ∃ n, F = n + 1 := ⟨F - 1, by omega⟩
        rw [st_op h (by omega) e]
        obtain ⟨F', td', S', U', G', f1, f2, f3, f4, f5⟩ := (m1 n (by omega)).1 e2
        rw [f5]
        have m2 := (ih (tPt (lk T N) sA b 90 (p + 1) false).1 (tCb (lk T N p) v (tPt (lk T N) sA b 90 (p + 1) false).2.2) td' S' U' G' a.1 (by omega) f3 f4).1 F' f1
        refine ⟨fun q => ?_, m2.2⟩
        obtain ⟨F2, td2, S2, U2, G2, g1, g2, g3, g4, g5⟩ := m2.1 q
        refine ⟨F2, td2, S2, U2, G2, g1, fun i hi => ?_, g3, g4, g5⟩
        obtain ⟨j1, j2, j3⟩ := g2 i hi
        obtain ⟨i1, i2, i3⟩ := f2 i hi
        rw [up_n (by omega)] at i3
        exact ⟨j1.trans i1, j2.trans i2, j3.trans i3⟩
      · rw [if_neg e2]
        refine ⟨fun F hF => ?_, fun q => absurd q e2⟩
        obtain ⟨n, rfl⟩ : ∃ n, F = n + 1 := ⟨F - 1, by omega⟩
        rw [st_op h (by omega) e]
        exact ⟨fun q => absurd q e2, (m1 n (by omega)).2⟩
    · rw [if_neg e]
      exact ⟨fun F hF => ⟨fun _ => ⟨F, td, S, U, G, hF, fun _ _ => ⟨rfl, rfl, rfl⟩, hS, hU, rfl⟩, fun q => absurd rfl q⟩, fun _ => e⟩
theorem mPs {M : mM} {N d p xx yy : Nat} {T : Nat → Int32} {b : Bool} {sA : Nat → Rt} (h : rtx M N T) (hd : d ≤ 6) (hx : xx < 10) (hy : yy < 8) (hs : mSl M N T (nI xx) (nI yy) (10 * yy + xx) d b sA) (hp : p ≤ N) : ((tPs (lk T N) sA b p).2.1 = true → ¬ isOp (lk T N (tPs (lk T N) sA b p).1)) ∧ ∀ td S U G, S d = 0 → U d = 0 → G d = 0 → mRn M (nI xx) (nI yy) 1 d p td S U G (tPs (lk T N) sA b p) ((tPs (lk T N) sA b p).2.2 (10 * yy + xx)) := by
  have hN := h.2.1
  have sa : b = true → ∀ p, p ≤ N → aOK N p (sA p) := fun hb p hp => (hs.2 hb p hp).1
  have a := aPt (T := T) sa 90 p false hp
  have m1 : ∀ td S U G, S d = 0 → U d = 0 → G d = 0 → mRn M (nI xx) (nI yy) 1 d p td S U G (tPt (lk T N) sA b 90 p false) ((tPt (lk T N) sA b 90 p false).2.2 (10 * yy + xx)) := fun td S U G hS hU hG => by
    have := mPt h hd hx hy hs 90 p false td S U G false hp (by omega) hS hU
    rw [hG] at this
    exact this
  unfold tPs
  by_cases e2 : (tPt (lk T N) sA b 90 p false).2.1 = true
  · rw [if_pos e2]
    have a2 := a.2 e2
    refine ⟨(mLp h hd hx hy hs 90 (tPt (lk T N) sA b 90 p false).1 (tPt (lk T N) sA b 90 p false).2.2 0 (fun _ => bI ((tPt (lk T N) sA b 90 p false).2.2 (10 * yy + xx))) (fun _ => 0) (fun _ => 0) a.1 (by omega) rfl rfl).2, fun td S U G hS hU hG F hF => ?_⟩
    obtain ⟨F', td', S', U', G', f1, f2, f3, f4, f5⟩ := (m1 td S U G hS hU hG F hF).1 e2
    rw [f5]
    have m2 := (mLp h hd hx hy hs 90 (tPt (lk T N) sA b 90 p false).1 (tPt (lk T N) sA b 90 p false).2.2 td' S' U' G' a.1 (by omega) f3 f4).1 F' f1
    refine ⟨fun q => ?_, m2.2⟩
    obtain ⟨F2, td2, S2, U2, G2, g1, g2, g3, g4, g5⟩ := m2.1 q
    refine ⟨F2, td2, S2, U2, G2, g1, fun i hi => ?_, g3, g4, g5⟩
    obtain ⟨j1, j2, j3⟩ := g2 i hi
    obtain ⟨i1, i2, i3⟩ := f2 i hi
    exact ⟨j1.trans i1, j2.trans i2, j3.trans i3⟩
  · rw [if_neg e2]
    exact ⟨fun q => absurd q e2, m1⟩
theorem mDp {M : mM} {N xx yy : Nat} {T : Nat → Int32} (h : rtx M N T) (hx : xx < 10) (hy : yy < 8) : ∀ e d p, e + d = 6 → p ≤ N → ((tDp (lk T N) e p).2.1 = true → ¬ isOp (lk T N (tDp (lk T N) e p).1)) ∧ ∀ td S U G, S d = 0 → U d = 0 → G d = 0 → mRn M (nI xx) (nI yy) 1 d p td S U G (tDp (lk T N) e p) ((tDp (lk T N) e p).2.2 (10 * yy + xx)) := by
  intro e
  induction e with
  | zero =>
    intro d p hd hp
    exact mPs h (by omega) hx hy ⟨⟨fun q => absurd q Bool.false_ne_true, fun q => by omega⟩, fun q => absurd q Bool.false_ne_true⟩ hp
  | succ e ih =>
    intro d p hd hp
    exact mPs h (by omega) hx hy ⟨⟨fun _ => by omega, fun _ => rfl⟩, fun _ p hp => ⟨aDp e p hp, ih (d + 1) p (by omega) hp⟩⟩ hp
theorem X10_shape_lp {M : mM} {N xx yy : Nat} {T : Nat → Int32} {td : Int32} {S U G : Nat → Int32} (h : rtx M N T) (hx : xx < 10) (hy : yy < 8) (hS : S 0 = 0) (hU : U 0 = 0) (hG : G 0 = 0) : ∃ d' td' S' U' G', f_X10_goesShape_b17 mN (nI xx) (nI yy) 1 (shQ M 0 0 td S U G) = some (bI (tSh (lk T N) N).2.1, shQ M (tSh (lk T N) N).1 d' td' S' U' G') ∧ ((tSh (lk T N) N).2.1 = true → S' 0 = bI ((tSh (lk T N) N).2.2 (10 * yy + xx))) := by
  have hN := h.2.1
  obtain ⟨n, hn⟩ := mN_ge (k := 200) (by omega)
  obtain ⟨m1, m2⟩ := mDp h hx hy 6 0 0 rfl (Nat.zero_le _)
  have m2 := m2 td S U G hS hU hG mN (by omega)
  have a := aDp (T := T) 6 0 (Nat.zero_le N)
  unfold tSh
  by_cases e : (tDp (lk T N) 6 0).2.1 = true
  · obtain ⟨F', td', S', U', G', f1, f2, f3, f4, f5⟩ := m2.1 e
    have a1 := a.1
    obtain ⟨m, rfl⟩ : ∃ m, F' = m + 1 := ⟨F' - 1, by omega⟩
    rw [f5]
    by_cases e2 : (tDp (lk T N) 6 0).1 < N
    · rw [if_pos ⟨e, e2⟩, st_z h (by decide) e2 (m1 e) (fun q => absurd q.2 (by decide))]
      exact ⟨0, td', S', U', G', rfl, fun q => absurd q Bool.false_ne_true⟩
    · rw [if_neg (fun q => e2 q.2), st_N h (by decide) e2 (by omega), if_pos rfl, e]
      exact ⟨0, td', S', U', G', rfl, fun _ => f3⟩
  · obtain ⟨d', td', S', U', G', f5⟩ := m2.2 e
    rw [if_neg (fun q => e q.1), f5, Bool.eq_false_iff.mpr e]
    exact ⟨d', td', S', U', G', rfl, fun q => absurd q Bool.false_ne_true⟩
