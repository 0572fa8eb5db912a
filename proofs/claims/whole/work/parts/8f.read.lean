/-! a reader of the class at a place of its text, with a FAULT (-1: none) -/
def rdM (r : Nat) (M : mM) (p : Nat) (f : Int32) : mM := mI (mI M r 2 (nI p)) r 3 f
theorem rd_2 {r p : Nat} {f : Int32} {M : mM} : (rdM r M p f).1 r 2 = nI p := by unfold rdM; rw [mI_n (by omega)]; exact mI_e
theorem rd_3 {r p : Nat} {f : Int32} {M : mM} : (rdM r M p f).1 r 3 = f := mI_e
theorem rd_j {r p j : Nat} {f : Int32} {M : mM} (h : j ≠ 2 ∧ j ≠ 3) : (rdM r M p f).1 r j = M.1 r j := by unfold rdM; rw [mI_n (by omega), mI_n (by omega)]
theorem rd_k {r p k : Nat} {f : Int32} {M : mM} (h : k ≠ r) : (rdM r M p f).1 k = M.1 k := by unfold rdM; rw [mI_ne h, mI_ne h]
theorem rd_T {r p : Nat} {f : Int32} {M : mM} : (rdM r M p f).2 = M.2 := rfl
theorem rd_p {r p q : Nat} {f : Int32} {M : mM} : mI (rdM r M p f) r 2 (nI q) = rdM r M q f := by
  refine mM_ext (fun a i => ?_) rfl
  unfold rdM
  simp only [mI_at]
  by_cases h1 : a = r ∧ i = 2
  · rw [if_pos h1, if_neg (by omega), if_pos h1]
  · rw [if_neg h1, if_neg h1, if_neg h1]
theorem rd_f {r p : Nat} {f g : Int32} {M : mM} : mI (rdM r M p f) r 3 g = rdM r M p g := by
  refine mM_ext (fun a i => ?_) rfl
  unfold rdM
  simp only [mI_at]
  by_cases h1 : a = r ∧ i = 3
  · rw [if_pos h1, if_pos h1]
  · rw [if_neg h1, if_neg h1, if_neg h1]
theorem rd_rd {r p q : Nat} {f g : Int32} {M : mM} : rdM r (rdM r M p f) q g = rdM r M q g := by
  rw [rdM, rd_p, rd_f]
theorem rd_self {r p : Nat} {f : Int32} {M : mM} (h2 : M.1 r 2 = nI p) (h3 : M.1 r 3 = f) : rdM r M p f = M := by
  unfold rdM
  rw [mI_self2 (M := M) h2, mI_self2 h3]
/-- what the text is -/
def txt (r : Nat) (M : mM) (t N : Nat) : Prop := M.2.2 r = t ∧ isRow t ∧ t ≠ r ∧ M.1 r 1 = nI N ∧ N ≤ 90 ∧ ∀ i, i < N → M.1 t i ≠ -1000
abbrev lT (M : mM) (t N : Nat) : Nat → Int32 := lk (M.1 t) N
theorem lk_y {T : Nat → Int32} {N p : Nat} (h : p < N) : lk T N p = T p := if_pos h
theorem lk_n {T : Nat → Int32} {N p : Nat} (h : ¬ p < N) : lk T N p = -1 := if_neg h
theorem lk_lt {T : Nat → Int32} {N p : Nat} {c : Int32} (h : lk T N p = c) (hc : 0 ≤ c) : p < N := by
  by_cases e : p < N
  · exact e
  · rw [lk_n e] at h
    subst h
    exact absurd hc (by decide)
theorem lk_lt2 {T : Nat → Int32} {N p : Nat} (h : 0 ≤ lk T N p) : p < N := lk_lt rfl h
theorem X7_look {r t N p : Nat} {M : mM} (h : txt r M t N) (hp : p < 2147483648) : f_X7_look r (rdM r M p (-1)) = some (if p < N then M.1 t p else -1000) := by
  obtain ⟨h1, h2, h3, h4, h5, h6⟩ := h
  unfold f_X7_look
  rw [rd_3, if_neg (by decide), rd_2, if_neg (nlt0 hp), rd_j (by decide), h4]
  by_cases e : p < N
  · rw [if_neg (fun q => by have := (nle (by omega) (by omega)).mp q; omega), if_pos e, show (rdM r M p (-1)).2.2 r = t from h1, mlt_s, mgd_s h2, mgd_s ((nin (by omega)).mpr (by omega)), ncl (by omega), rd_k h3]
  · rw [if_pos ((nle (by omega) (by omega)).mpr (by omega)), if_neg e]
theorem X7_lookF {r p : Nat} {f : Int32} {M : mM} (hf : 0 ≤ f) : f_X7_look r (rdM r M p f) = some (-1000) := by
  unfold f_X7_look
  rw [rd_3, if_pos hf]
theorem lo_eq {T : Nat → Int32} {N p : Nat} {c : Int32} (hc : 0 ≤ c) : ((if p < N then T p else -1000) = c) ↔ lk T N p = c := by
  unfold lk
  by_cases e : p < N
  · rw [if_pos e, if_pos e]
  · rw [if_neg e, if_neg e]
    constructor
    · intro h; subst h; exact absurd hc (by decide)
    · intro h; subst h; exact absurd hc (by decide)
theorem X7_takeIf {r t N p : Nat} {c : Int32} {M : mM} (h : txt r M t N) (hp : p < 2147483647) (hc : 0 ≤ c) : f_X7_takeIf r c (rdM r M p (-1)) = some (if lT M t N p = c then (1, rdM r M (p + 1) (-1)) else (0, rdM r M p (-1))) := by
  unfold f_X7_takeIf f_X7_takeIf_b13
  rw [X7_look h (by omega), mbp_s]
  by_cases e : lT M t N p = c
  · rw [if_pos e, if_pos ((lo_eq hc).mpr e), if_neg (by decide), mlt_s, mgd_s (Or.inr rfl), rd_2, nI_1, rd_p]
  · rw [if_neg e, if_neg (fun q => e ((lo_eq hc).mp q)), if_pos rfl, mgd_s (Or.inl rfl)]
theorem X7_takeIfF {r p : Nat} {c f : Int32} {M : mM} (hc : 0 ≤ c) (hf : 0 ≤ f) : f_X7_takeIf r c (rdM r M p f) = some (0, rdM r M p f) := by
  unfold f_X7_takeIf f_X7_takeIf_b13
  rw [X7_lookF hf, mbp_s, if_neg (fun q => by subst q; exact absurd hc (by decide)), if_pos rfl, mgd_s (Or.inl rfl)]
theorem X7_fail {r p : Nat} {M : mM} : f_X7_fail r (rdM r M p (-1)) = some (rdM r M p (nI p)) := by
  unfold f_X7_fail
  rw [rd_3, if_neg (by decide), rd_2, rd_f, mlt_s]
theorem X7_failF {r p : Nat} {f : Int32} {M : mM} (hf : 0 ≤ f) : f_X7_fail r (rdM r M p f) = some (rdM r M p f) := by
  unfold f_X7_fail
  rw [rd_3, if_pos hf]
/-- the reader behind an answer -/
abbrev rdR (r : Nat) (M : mM) (x : Rp) : mM := rdM r M x.1 (if x.2 = true then -1 else nI x.1)
theorem rdR_y {r : Nat} {M : mM} {x : Rp} (h : x.2 = true) : rdR r M x = rdM r M x.1 (-1) := by unfold rdR; rw [if_pos h]
theorem rdR_n {r : Nat} {M : mM} {x : Rp} (h : ¬ x.2 = true) : rdR r M x = rdM r M x.1 (nI x.1) := by unfold rdR; rw [if_neg h]
theorem X7_demand {r t N p : Nat} {c : Int32} {M : mM} (h : txt r M t N) (hp : p < 2147483647) (hc : 0 ≤ c) : f_X7_demand r c (rdM r M p (-1)) = some (if lT M t N p = c then rdM r M (p + 1) (-1) else rdM r M p (nI p)) := by
  unfold f_X7_demand
  rw [X7_takeIf h hp hc]
  by_cases e : lT M t N p = c
  · rw [if_pos e, if_pos e, mbw_s, if_neg (by decide)]
  · rw [if_neg e, if_neg e, mbw_s, if_pos rfl, X7_fail, mbp_s]
theorem X7_demandF {r p : Nat} {c f : Int32} {M : mM} (hc : 0 ≤ c) (hf : 0 ≤ f) : f_X7_demand r c (rdM r M p f) = some (rdM r M p f) := by
  unfold f_X7_demand
  rw [X7_takeIfF hc hf, mbw_s, if_pos rfl, X7_failF hf, mbp_s]
theorem clampI {a : Int32} (h : 0 ≤ a) : nI a.toNatClampNeg = a := by
  obtain ⟨c, h1, rfl⟩ := i_nat h
  rw [ncl h1]
theorem dg_v {l : Nat → Int32} {p lo hi : Nat} (hlo : lo < 1000) (hhi : hi < 1000) (h : dg l p lo hi) : nI (dv l p) = l p - 48 ∧ lo ≤ dv l p ∧ dv l p ≤ hi := by
  have t1 := nI_ti (k := 48 + lo) (by omega)
  have t2 := nI_ti (k := 48 + hi) (by omega)
  obtain ⟨h1, h2⟩ := h
  have e : nI (dv l p) = l p - 48 := clampI (by grind)
  have hb : dv l p < 2147483648 := by
    obtain ⟨c, h1, h2⟩ := i_nat (a := l p - 48) (by grind)
    unfold dv
    rw [h2, ncl h1]; exact h1
  have t3 := nI_ti hb
  refine ⟨e, ?_, ?_⟩ <;> grind
theorem X7_digit {r t N p lo hi : Nat} {M : mM} (h : txt r M t N) (hp : p < 2147483647) (hlo : lo < 1000) (hhi : hi < 1000) : f_X7_demandDigit r (nI lo) (nI hi) (rdM r M p (-1)) = some (if dg (lT M t N) p lo hi then (nI (dv (lT M t N) p), rdM r M (p + 1) (-1)) else (nI lo, rdM r M p (nI p))) := by
  have t1 := nI_ti (k := 48 + lo) (by omega)
  have t2 := nI_ti (k := 48 + hi) (by omega)
  have t3 := nI_ti (k := lo) (by omega)
  have t4 := nI_ti (k := hi) (by omega)
  unfold f_X7_demandDigit f_X7_demandDigit_b18
  rw [X7_look h (by omega), mbp_s]
  by_cases e : dg (lT M t N) p lo hi
  · have hpN : p < N := lk_lt2 (T := M.1 t) (by have e1 := e.1; have e1 : nI (48 + lo) ≤ lk (M.1 t) N p := e1; grind)
    obtain ⟨v1, v2, v3⟩ := dg_v hlo hhi e
    rw [if_pos e, if_pos hpN, v1]
    obtain ⟨e1, e2⟩ := e
    rw [show lT M t N p = M.1 t p from lk_y hpN] at e1 e2 ⊢
    rw [if_neg (by grind), if_pos (by grind), mlt_s, rd_2, nI_1, rd_p]
  · rw [if_neg e]
    by_cases hpN : p < N
    · rw [if_pos hpN]
      have e : ¬ (nI (48 + lo) ≤ M.1 t p ∧ M.1 t p ≤ nI (48 + hi)) := fun q => e (by unfold dg; rw [show lT M t N p = M.1 t p from lk_y hpN]; exact q)
      by_cases e2 : M.1 t p - 48 < nI lo
      · rw [if_pos e2, X7_fail, mbp_s]
      · rw [if_neg e2, if_neg (by grind), X7_fail, mbp_s]
    · rw [if_neg hpN, if_pos (by grind), X7_fail, mbp_s]
theorem X7_digitF {r p lo hi : Nat} {f : Int32} {M : mM} (hlo : lo < 1000) (hf : 0 ≤ f) : f_X7_demandDigit r (nI lo) (nI hi) (rdM r M p f) = some (nI lo, rdM r M p f) := by
  have t3 := nI_ti (k := lo) (by omega)
  unfold f_X7_demandDigit f_X7_demandDigit_b18
  rw [X7_lookF hf, mbp_s, if_pos (by grind), X7_failF hf, mbp_s]
theorem X7_pm {r t N p : Nat} {M : mM} (h : txt r M t N) (hp : p < 2147483648) : f_X7_isPlusOrMinus r (rdM r M p (-1)) = some (tf (isPM (lT M t N p))) := by
  unfold f_X7_isPlusOrMinus
  rw [X7_look h hp, mbp_s]
  by_cases e1 : lT M t N p = 43
  · rw [if_pos ((lo_eq (by decide)).mpr e1), tf_y (Or.inl e1)]
  · rw [if_neg (fun q => e1 ((lo_eq (by decide)).mp q)), mbp_s]
    by_cases e2 : lT M t N p = 45
    · rw [if_pos ((lo_eq (by decide)).mpr e2), tf_y (Or.inr e2)]
    · rw [if_neg (fun q => e2 ((lo_eq (by decide)).mp q)), tf_n (fun q => by rcases q with q | q <;> contradiction)]
theorem X7_pmF {r p : Nat} {f : Int32} {M : mM} (hf : 0 ≤ f) : f_X7_isPlusOrMinus r (rdM r M p f) = some 0 := by
  unfold f_X7_isPlusOrMinus
  rw [X7_lookF hf, mbp_s, if_neg (by decide), mbp_s, if_neg (by decide)]
theorem X7_take {r t N p : Nat} {M : mM} (h : txt r M t N) (hp : p < N) : f_X7_take r (rdM r M p (-1)) = some (lT M t N p, rdM r M (p + 1) (-1)) := by
  have h5 := h.2.2.2.2.1
  unfold f_X7_take
  rw [X7_look h (by omega), mbp_s, if_pos hp, if_neg (h.2.2.2.2.2 p hp), mlt_s, rd_2, nI_1, rd_p, show lT M t N p = M.1 t p from lk_y hp]
theorem X7_takeE {r t N p : Nat} {M : mM} (h : txt r M t N) (hp : ¬ p < N) (hp2 : p < 2147483648) : f_X7_take r (rdM r M p (-1)) = some (-1000, rdM r M p (-1)) := by
  unfold f_X7_take
  rw [X7_look h hp2, mbp_s, if_neg hp, if_pos rfl]
theorem X7_end {r t N p : Nat} {f : Int32} {M : mM} (h : txt r M t N) (hp : p < 2147483648) : f_X7_atEnd r (rdM r M p f) = tf (N ≤ p) := by
  have h5 := h.2.2.2.2.1
  unfold f_X7_atEnd
  rw [rd_2, rd_j (by decide), h.2.2.2.1]
  by_cases e : N ≤ p
  · rw [tf_y e, if_neg (fun q => by have := (nlt (by omega) (by omega)).mp q; omega)]
  · rw [tf_n e, if_pos ((nlt (by omega) (by omega)).mpr (by omega))]
theorem X7_open {r q N : Nat} {M : mM} (hN : N ≤ 90) : f_X7_open r q (nI N) M = some (rdM r (mI (mT M r q) r 1 (nI N)) 0 (-1)) := by
  unfold f_X7_open f_X7_open_b18
  rw [mlt_s]
  by_cases e : N = 90
  · rw [if_pos ((lle (m := 90) (by decide) (by omega)).mpr (show 90 ≤ _ by omega)), mlt_s, mlt_s, mlt_s, e]; rfl
  · rw [if_neg (fun k => by have : 90 ≤ _ := (lle (m := 90) (by decide) (by omega)).mp k; omega), mlt_s, mlt_s, mlt_s]; rfl
theorem X7_endF {r t N p : Nat} {M : mM} (h : txt r M t N) (hp : p < 2147483648) : f_X7_failUnlessAtEnd r (rdM r M p (-1)) = some (if N ≤ p then rdM r M p (-1) else rdM r M p (nI p)) := by
  unfold f_X7_failUnlessAtEnd
  rw [X7_end h hp]
  by_cases e : N ≤ p
  · rw [tf_y e, if_neg (by decide), if_pos e]
  · rw [tf_n e, if_pos rfl, if_neg e, X7_fail, mbp_s]
theorem X7_endFF {r t N p : Nat} {f : Int32} {M : mM} (h : txt r M t N) (hp : p < 2147483648) (hf : 0 ≤ f) : f_X7_failUnlessAtEnd r (rdM r M p f) = some (rdM r M p f) := by
  unfold f_X7_failUnlessAtEnd
  rw [X7_end h hp]
  by_cases e : N ≤ p
  · rw [tf_y e, if_neg (by decide)]
  · rw [tf_n e, if_pos rfl, X7_failF hf, mbp_s]
theorem txt_op {r q N : Nat} {M : mM} (hr : isRow q) (hq : q ≠ r) (hN : N ≤ 90) (h : ∀ i, i < N → M.1 q i ≠ -1000) : txt r (mI (mT M r q) r 1 (nI N)) q N := by
  refine ⟨if_pos rfl, hr, hq, mI_e, hN, fun i hi => ?_⟩
  rw [mI_ne hq]
  exact h i hi
