/-! rows of the memory as functions -/
def sR (M : mM) (k : Nat) (L : Nat → Int32) : mM := (fun a => if a = k then L else M.1 a, M.2)
theorem sR_e {M : mM} {k : Nat} {L : Nat → Int32} : (sR M k L).1 k = L := if_pos rfl
theorem sR_n {M : mM} {k a : Nat} {L : Nat → Int32} (h : a ≠ k) : (sR M k L).1 a = M.1 a := if_neg h
theorem sR_2 {M : mM} {k : Nat} {L : Nat → Int32} : (sR M k L).2 = M.2 := rfl
theorem up_e {α : Type} {f : Nat → α} {c : Nat} {v : α} : up f c v c = v := if_pos rfl
theorem up_n {α : Type} {f : Nat → α} {c i : Nat} {v : α} (h : i ≠ c) : up f c v i = f i := if_neg h
theorem mI_sR {M : mM} {k j : Nat} {v : Int32} : mI M k j v = sR M k (up (M.1 k) j v) := by
  refine mM_ext (fun a i => ?_) rfl
  show (if a = k ∧ i = j then v else M.1 a i) = (if a = k then up (M.1 k) j v else M.1 a) i
  by_cases h : a = k
  · subst h
    by_cases h2 : i = j
    · subst h2; rw [if_pos ⟨rfl, rfl⟩, if_pos rfl, up_e]
    · rw [if_neg (fun q => h2 q.2), if_pos rfl, up_n h2]
  · rw [if_neg (fun q => h q.1), if_neg h]
theorem mI_R {M : mM} {k j : Nat} {v : Int32} {L : Nat → Int32} : mI (sR M k L) k j v = sR M k (up L j v) := by
  rw [mI_sR, sR_e]
  refine mM_ext (fun a i => ?_) rfl
  by_cases h : a = k
  · subst h; rw [sR_e, sR_e]
  · rw [sR_n h, sR_n h, sR_n h]
theorem sR_sR {M : mM} {k : Nat} {L L' : Nat → Int32} : sR (sR M k L) k L' = sR M k L' := by
  refine mM_ext (fun a i => ?_) rfl
  by_cases h : a = k
  · subst h; rw [sR_e, sR_e]
  · rw [sR_n h, sR_n h, sR_n h]
theorem sR_self {M : mM} {k : Nat} : sR M k (M.1 k) = M := by
  refine mM_ext (fun a i => ?_) rfl
  by_cases h : a = k
  · subst h; rw [sR_e]
  · rw [sR_n h]
theorem sR_of {M M' : mM} {k : Nat} (h : ∀ q, q ≠ k → M'.1 q = M.1 q) (h2 : M'.2 = M.2) : M' = sR M k (M'.1 k) := by
  refine mM_ext (fun a i => ?_) h2
  by_cases e : a = k
  · subst e; rw [sR_e]
  · rw [sR_n e, h a e]
theorem mI_e {M : mM} {k j : Nat} {v : Int32} : (mI M k j v).1 k j = v := if_pos ⟨rfl, rfl⟩
theorem mI_n {M : mM} {k j a i : Nat} {v : Int32} (h : a ≠ k ∨ i ≠ j) : (mI M k j v).1 a i = M.1 a i := if_neg (fun q => h.elim (fun e => e q.1) (fun e => e q.2))
/-! ints as natural numbers -/
theorem i_nat {a : Int32} (h : 0 ≤ a) : ∃ c, c < 2147483648 ∧ a = nI c := by
  refine ⟨a.toInt.toNat, ?_, ?_⟩
  · have := Int32.toInt_lt a
    omega
  · have h1 := Int32.le_iff_toInt_le.mp h
    have e : (0 : Int32).toInt = 0 := rfl
    have h2 := Int32.toInt_lt a
    refine Int32.toInt_inj.mp ?_
    rw [nI_toInt (by omega)]
    omega
theorem i_lt {a : Int32} {n : Nat} (hn : n < 2147483648) (h : 0 ≤ a ∧ a < nI n) : ∃ c, c < n ∧ a = nI c := by
  obtain ⟨c, h1, rfl⟩ := i_nat h.1
  exact ⟨c, (nlt h1 hn).mp h.2, rfl⟩
theorem i_le {a : Int32} {n : Nat} (hn : n < 2147483648) (h : 0 ≤ a ∧ a ≤ nI n) : ∃ c, c ≤ n ∧ a = nI c := by
  obtain ⟨c, h1, rfl⟩ := i_nat h.1
  exact ⟨c, (nle h1 hn).mp h.2, rfl⟩
theorem X10_is_y {a b c : Int32} (h : b ≤ a ∧ a ≤ c) : f_X10_is a b c = 1 := by unfold f_X10_is; grind
theorem X10_is_n {a b c : Int32} (h : ¬ (b ≤ a ∧ a ≤ c)) : f_X10_is a b c = 0 := by unfold f_X10_is; grind
theorem X10_is_c {a b c : Int32} : f_X10_is a b c = tf (b ≤ a ∧ a ≤ c) := by
  by_cases h : b ≤ a ∧ a ≤ c
  · rw [X10_is_y h, tf_y h]
  · rw [X10_is_n h, tf_n h]
theorem tf_01 {P : Prop} : tf P = 0 ∨ tf P = 1 := by
  by_cases h : P
  · exact Or.inr (tf_y h)
  · exact Or.inl (tf_n h)
theorem tf_0 {P : Prop} : tf P = 0 ↔ ¬ P := by
  by_cases h : P
  · rw [tf_y h]; exact ⟨fun e => absurd e (by decide), fun e => absurd h e⟩
  · rw [tf_n h]; exact ⟨fun _ => h, fun _ => rfl⟩
theorem oneIf_tf {P : Prop} : f_X9_oneIf (tf P) = tf P := by
  by_cases h : P
  · rw [tf_y h]; rfl
  · rw [tf_n h]; rfl
theorem oneIf_01 {v : Int32} (h : is01 v) : f_X9_oneIf v = v := by
  rcases h with rfl | rfl <;> rfl
theorem nar_tf {P : Prop} : vp_nar .boolean (tf P) = tf P := by
  by_cases h : P
  · rw [tf_y h]; rfl
  · rw [tf_n h]; rfl
theorem nar_01 {v : Int32} (h : is01 v) : vp_nar .boolean v = v := by
  rcases h with rfl | rfl <;> rfl
theorem X9_onGrid {x y : Int32} : f_X9_onGrid x y = tf ((0 ≤ x ∧ x ≤ 9) ∧ 0 ≤ y ∧ y ≤ 7) := by
  unfold f_X9_onGrid
  by_cases h : (0 ≤ x ∧ x ≤ 9) ∧ 0 ≤ y ∧ y ≤ 7
  · rw [tf_y h]; grind
  · rw [tf_n h]; grind
theorem X10_isCell_c {x y : Int32} : f_X10_isCell x y = tf ((0 ≤ x ∧ x ≤ 9) ∧ 0 ≤ y ∧ y ≤ 7) := by
  unfold f_X10_isCell f_X10_is
  by_cases h : (0 ≤ x ∧ x ≤ 9) ∧ 0 ≤ y ∧ y ≤ 7
  · rw [tf_y h]; grind
  · rw [tf_n h]; grind
theorem isShelf_c {d : Int32} : f_X9_isShelf d = tf (0 ≤ d ∧ d ≤ 7) := by
  unfold f_X9_isShelf
  by_cases h : 0 ≤ d ∧ d ≤ 7
  · rw [tf_y h]; grind
  · rw [tf_n h]; grind
theorem X10_isShelf_c {d : Int32} : f_X10_isShelf d = some (tf (0 ≤ d ∧ d ≤ 7)) := by
  unfold f_X10_isShelf
  rw [X10_is_c, mgd_s tf_01]
theorem i_shelf {d : Int32} (h : 0 ≤ d ∧ d ≤ 7) : ∃ c, c < 8 ∧ d = nI c := by
  obtain ⟨c, h1, h2⟩ := i_le (n := 7) (by decide) h
  exact ⟨c, by omega, h2⟩
theorem cell_of {x y : Nat} (hx : x < 10) (hy : y < 8) : f_X9_cellOf (nI x) (nI y) = nI (12 * (y + 1) + x + 1) := by
  have h : ∀ x, x < 10 → ∀ y, y < 8 → f_X9_cellOf (nI x) (nI y) = nI (12 * (y + 1) + x + 1) := by decide +kernel
  exact h x hx y hy
theorem col_of {p : Nat} (hp : p < 120) : f_X9_columnOf (nI p) = cx p ∧ f_X9_levelOf (nI p) = cy p := by
  have h1 : ∀ p, p < 120 → f_X9_columnOf (nI p) = cx p := by decide +kernel
  have h2 : ∀ p, p < 120 → f_X9_levelOf (nI p) = cy p := by decide +kernel
  exact ⟨h1 p hp, h2 p hp⟩
theorem cx_of {x y : Nat} (hx : x < 10) (hy : y < 8) : cx (12 * (y + 1) + x + 1) = nI x ∧ cy (12 * (y + 1) + x + 1) = nI y := by
  have h1 : ∀ x, x < 10 → ∀ y, y < 8 → cx (12 * (y + 1) + x + 1) = nI x := by decide +kernel
  have h2 : ∀ x, x < 10 → ∀ y, y < 8 → cy (12 * (y + 1) + x + 1) = nI y := by decide +kernel
  exact ⟨h1 x hx y hy, h2 x hx y hy⟩
theorem place_of {p : Nat} (hp : inG p) : ∃ x y, x < 10 ∧ y < 8 ∧ p = 12 * (y + 1) + x + 1 := ⟨p % 12 - 1, p / 12 - 1, (cell_ix hp).2.1, (cell_ix hp).2.2.1, (cell_ix hp).2.2.2.symm⟩
/-! CUBES -/
theorem repB_fr {b : Nat} {M M' : mM} {A : Bd} (h0 : M'.1 b 0 = M.1 b 0) (h1 : M'.1 (b + 1) = M.1 (b + 1)) (h2 : M'.1 (b + 2) = M.1 (b + 2)) (h3 : M'.1 (b + 3) = M.1 (b + 3)) (h4 : M'.1 (b + 4) = M.1 (b + 4)) (h6 : M'.1 (b + 6) = M.1 (b + 6)) (h : repB b M A) : repB b M' A := by
  unfold repB at h ⊢
  rw [h0, h1, h2, h3, h4, h6]
  exact h
theorem repR_fr {k : Nat} {M M' : mM} {A : Bd} (hn : bN A ≤ 16) (h0 : M'.1 k 0 = M.1 k 0) (h1 : ∀ j, 10 ≤ j → j < 90 → M'.1 k j = M.1 k j) (h : repR k M A) : repR k M' A := by
  obtain ⟨r1, r2, r3, r4, r5, r6⟩ := h
  exact ⟨h0.trans r1, fun c hc => (h1 _ (by omega) (by omega)).trans (r2 c hc), fun c hc => (h1 _ (by omega) (by omega)).trans (r3 c hc), fun c hc => (h1 _ (by omega) (by omega)).trans (r4 c hc), fun c hc => (h1 _ (by omega) (by omega)).trans (r5 c hc), fun c hc => (h1 _ (by omega) (by omega)).trans (r6 c hc)⟩
theorem repG_fr {M M' : mM} {A : Bd} (h0 : M'.1 99 = M.1 99) (h : repG M A) : repG M' A := by
  unfold repG at h ⊢
  rw [h0]
  exact h
abbrev isC (A : Bd) (a : Int32) : Prop := 0 ≤ a ∧ a < nI (bN A)
theorem isC_ex {A : Bd} {a : Int32} (hn : bN A ≤ 16) (h : isC A a) : ∃ c, c < bN A ∧ a = nI c := i_lt (by omega) h
theorem X0_has_c {b : Nat} {a : Int32} {M : mM} {A : Bd} (hr : repB b M A) : f_X0_has b a M = tf (isC A a) := by
  rw [X0_has hr]
  by_cases h : isC A a
  · rw [if_pos h, tf_y h]
  · rw [if_neg h, tf_n h]
theorem X10_isCube_c {a : Int32} {M : mM} {A : Bd} (hn : bN A ≤ 16) (hr : repR 97 M A) : f_X10_isCube a M = some (tf (isC A a)) := by
  unfold f_X10_isCube
  rw [hr.1, X10_is_c, mgd_s tf_01]
  refine congrArg some (tf_c ?_)
  show _ ↔ 0 ≤ a ∧ a < nI (bN A)
  have := nI_ti (k := bN A) (by omega)
  grind
abbrev isM (A : Bd) (m : Int32) : Prop := 0 ≤ m ∧ isC A (m / 8)
theorem X0_isMove_c {b : Nat} {m : Int32} {M : mM} {A : Bd} (hr : repB b M A) : f_X0_isMove b m M = tf (isM A m) := by
  unfold f_X0_isMove
  rw [X0_has_c hr]
  by_cases h : isM A m
  · rw [tf_y h, tf_y h.2, if_neg (by have := h.1; grind), if_neg (by decide)]
  · rw [tf_n h]
    by_cases h1 : m < 0
    · rw [if_pos h1]
    · rw [if_neg h1, tf_n (fun q => h ⟨by grind, q⟩), if_pos rfl]
theorem X10_isMove_c {m : Int32} {M : mM} {A : Bd} (hn : bN A ≤ 16) (hr : repR 97 M A) : f_X10_isMove m M = some (tf (isM A m)) := by
  unfold f_X10_isMove
  rw [X10_isCube_c hn hr, mbp_s]
  by_cases h : isM A m
  · rw [tf_y h, tf_y h.2, if_neg (by have := h.1; grind), if_neg (by decide)]
  · rw [tf_n h]
    by_cases h1 : m < 0
    · rw [if_pos h1]
    · rw [if_neg h1, tf_n (fun q => h ⟨by grind, q⟩), if_pos rfl]
theorem isM_ex {A : Bd} {m : Int32} (hn : bN A ≤ 16) (h : isM A m) : ∃ c w, c < bN A ∧ w < 8 ∧ m = nI (8 * c + w) := by
  obtain ⟨j, h1, rfl⟩ := i_nat h.1
  have h2 := h.2
  rw [isC, divL h1 (by decide)] at h2
  have h3 := (nlt (by omega) (by omega)).mp h2.2
  refine ⟨j / 8, j % 8, h3, by omega, ?_⟩
  congr 1
  omega
/-- a body's MOVE and the reference's -/
theorem X0_mayGoE {b c w : Nat} {M : mM} {A : Bd} (hw : wf A) (hr : repB b M A) (hc : c < bN A) (hw8 : w < 8) : ∃ L, f_X0_mayGo b (nI c) (nI w) M = some (tf (canP A c w), sR M (b + 7) L) := by
  obtain ⟨M', h1, h2, h3⟩ := X0_mayGo hw hr hc hw8
  exact ⟨M'.1 (b + 7), by rw [h1, ← sR_of h2 h3]⟩
theorem repB_s7 {b : Nat} {M : mM} {A : Bd} {L : Nat → Int32} (h : repB b M A) : repB b (sR M (b + 7) L) A := by
  refine repB_fr ?_ ?_ ?_ ?_ ?_ ?_ h <;> rw [sR_n (by omega)]
theorem repR_s {q k : Nat} {M : mM} {A : Bd} {L : Nat → Int32} (hq : k ≠ q) (h : repR k M A) : repR k (sR M q L) A := by
  unfold repR at h ⊢
  rw [sR_n hq]
  exact h
theorem repG_s {q : Nat} {M : mM} {A : Bd} {L : Nat → Int32} (hq : 99 ≠ q) (h : repG M A) : repG (sR M q L) A := repG_fr (sR_n hq) h
