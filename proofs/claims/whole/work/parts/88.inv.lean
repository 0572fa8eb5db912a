/-! what is left alone keeps the relations -/
theorem lk_cg {T T' : Nat → Int32} {N : Nat} (h : ∀ i, i < N → T' i = T i) : lk T' N = lk T N := by
  funext p
  unfold lk
  by_cases hp : p < N
  · rw [if_pos hp, if_pos hp, h p hp]
  · rw [if_neg hp, if_neg hp]
theorem wC_fr {b k : Nat} {M M' : mM} {A : Bd} (hB : ∀ q, q = b + 1 ∨ q = b + 2 ∨ q = b + 3 ∨ q = b + 4 ∨ q = b + 5 ∨ q = b + 7 → M'.1 q = M.1 q) (h0 : M'.1 k 0 = M.1 k 0) (hR : ∀ j, 10 ≤ j → j < 90 → M'.1 k j = M.1 k j) (h : wC b k M A) : wC b k M' A := by
  obtain ⟨h1, h2, h3, h4⟩ := h
  refine ⟨h1, repB_fr (congrFun (hB _ (by omega)) 0) (hB _ (by omega)) (hB _ (by omega)) (hB _ (by omega)) (hB _ (by omega)) (hB _ (by omega)) h2, repR_fr h1.1 h0 hR h3, fun i hi => ?_⟩
  rw [hB (b + 5) (by omega)]
  exact h4 i hi
theorem wT_fr {b k t : Nat} {M M' : mM} (h1 : M'.1 b 1 = M.1 b 1) (h2 : M'.1 k 5 = M.1 k 5) (h : wT b k M t) : wT b k M' t := ⟨h.1, h1.trans h.2.1, h2.trans h.2.2⟩
theorem wV_fr {b k n : Nat} {M M' : mM} (hn : n ≤ 16) (hB : ∀ q, q = b + 9 ∨ q = b + 10 ∨ q = b + 11 → M'.1 q = M.1 q) (hR : ∀ j, 90 ≤ j → j < 122 → M'.1 k j = M.1 k j) (h : wV b k M n) : wV b k M' n := by
  intro c hc
  rw [hB (b + 9) (by omega), hB (b + 10) (by omega), hB (b + 11) (by omega), hR (90 + c) (by omega) (by omega), hR (106 + c) (by omega) (by omega)]
  exact h c hc
theorem wH_fr {b k n np : Nat} {M M' : mM} (hn : n ≤ 16) (hB : M'.1 (b + 12) = M.1 (b + 12)) (hR : ∀ j, 122 ≤ j → j < 138 → M'.1 k j = M.1 k j) (h : wH b k M n np) : wH b k M' n np := by
  intro c hc
  rw [hB, hR (122 + c) (by omega) (by omega)]
  exact h c hc
theorem wP_fr {b k np : Nat} {M M' : mM} (h8 : M'.1 b 8 = M.1 b 8) (h2 : M'.1 k 2 = M.1 k 2) (h23 : M'.1 (b + 23) = M.1 (b + 23)) (hB : ∀ j, j < 8 → M'.1 (b + 15 + j) = M.1 (b + 15 + j)) (hR : ∀ j, 146 ≤ j → j < 154 → M'.1 k j = M.1 k j) (hT : ∀ j, 874 ≤ j → j < 1594 → M'.1 k j = M.1 k j) (h : wP b k M np) : wP b k M' np := by
  obtain ⟨a1, a2, a3, a4⟩ := h
  refine ⟨a1, h8.trans a2, h2.trans a3, fun j hj => ?_⟩
  obtain ⟨N, n1, n2, n3, n4, n5⟩ := a4 j hj
  refine ⟨N, n1, by rw [h23]; exact n2, (hR _ (by omega) (by omega)).trans n3, fun i hi => ?_, ?_⟩
  · rw [hB j (by omega), hT (874 + 90 * j + i) (by omega) (by omega)]
    exact n4 i hi
  · rw [lk_cg (T' := rg k (874 + 90 * j) M') (fun i hi => hT (874 + 90 * j + i) (by omega) (by omega))]
    exact n5
theorem wS_fr {b k ns : Nat} {M M' : mM} (h6 : M'.1 b 6 = M.1 b 6) (h1 : M'.1 k 1 = M.1 k 1) (hJ : M'.2.1 (b + 13) = M.2.1 (b + 13)) (hR : ∀ j, 138 ≤ j → j < 146 → M'.1 k j = M.1 k j) (hT : ∀ j, 154 ≤ j → j < 874 → M'.1 k j = M.1 k j) (h : wS b k M ns) : wS b k M' ns := by
  obtain ⟨a1, a2, a3, a4⟩ := h
  refine ⟨a1, h6.trans a2, h1.trans a3, fun j hj => ?_⟩
  obtain ⟨N, n1, n3, n4, n5⟩ := a4 j hj
  refine ⟨N, n1, (hR _ (by omega) (by omega)).trans n3, ?_⟩
  rw [lk_cg (T' := rg k (154 + 90 * j) M') (fun i hi => hT (154 + 90 * j + i) (by omega) (by omega)), hJ]
  exact ⟨n4, n5⟩
theorem wN_fr {q r s k n t : Nat} {M M' : mM} (hB : ∀ p, p = q ∨ p = q + 1 ∨ p = q + 2 ∨ p = q + 3 → M'.1 p = M.1 p) (hs : M'.1 k s = M.1 k s) (hR : ∀ j, r ≤ j → j < r + 120 → M'.1 k j = M.1 k j) (h : wN q r s k M n t) : wN q r s k M' n t := by
  obtain ⟨a1, a2, a3, a4, a5⟩ := h
  refine ⟨a1, by rw [hB q (by omega)]; exact a2, hs.trans a3, fun i hi => ?_, fun i hi => ?_⟩
  · rw [hB (q + 1) (by omega), hB (q + 2) (by omega), hB (q + 3) (by omega), hR (r + i) (by omega) (by omega), hR (r + 40 + i) (by omega) (by omega), hR (r + 80 + i) (by omega) (by omega)]
    exact a4 i hi
  · rw [hB (q + 3) (by omega)]
    exact a5 i hi
theorem srt_fr {q n : Nat} {M M' : mM} (hB : M'.1 (q + 2) = M.1 (q + 2)) (h : srt q M n) : srt q M' n := by
  unfold srt at h ⊢
  rw [hB]
  exact h
/-- the class's rows that count -/
abbrev cnt (b q : Nat) : Prop := b ≤ q ∧ q < b + 32 ∧ q ≠ b + 6 ∧ q ≠ b + 8
theorem wA_fr {b k : Nat} {M M' : mM} {K : Kt} (hB : ∀ q, cnt b q → M'.1 q = M.1 q) (hJ : M'.2.1 (b + 13) = M.2.1 (b + 13)) (hR : ∀ j, j < 1834 → M'.1 k j = M.1 k j) (h : wA b k M K) : wA b k M' K := by
  obtain ⟨h1, h2, h3, h4, h5, h6, h7, h8, h9, h10⟩ := h
  have hn := h1.1.1
  refine ⟨wC_fr (fun q hq => hB q ⟨by omega, by omega, by omega, by omega⟩) (hR _ (by omega)) (fun j _ _ => hR j (by omega)) h1, wT_fr (congrFun (hB b ⟨by omega, by omega, by omega, by omega⟩) 1) (hR _ (by omega)) h2, wV_fr hn (fun q hq => hB q ⟨by omega, by omega, by omega, by omega⟩) (fun j _ _ => hR j (by omega)) h3, wH_fr hn (hB _ ⟨by omega, by omega, by omega, by omega⟩) (fun j _ _ => hR j (by omega)) h4, wP_fr (congrFun (hB b ⟨by omega, by omega, by omega, by omega⟩) 8) (hR _ (by omega)) (hB _ ⟨by omega, by omega, by omega, by omega⟩) (fun j hj => hB _ ⟨by omega, by omega, by omega, by omega⟩) (fun j _ _ => hR j (by omega)) (fun j _ _ => hR j (by omega)) h5, wS_fr (congrFun (hB b ⟨by omega, by omega, by omega, by omega⟩) 6) (hR _ (by omega)) hJ (fun j _ _ => hR j (by omega)) (fun j _ _ => hR j (by omega)) h6, wN_fr (fun p hp => hB p ⟨by omega, by omega, by omega, by omega⟩) (hR _ (by omega)) (fun j _ _ => hR j (by omega)) h7, wN_fr (fun p hp => hB p ⟨by omega, by omega, by omega, by omega⟩) (hR _ (by omega)) (fun j _ _ => hR j (by omega)) h8, srt_fr (hB _ ⟨by omega, by omega, by omega, by omega⟩) h9, h10⟩
theorem iS_fr {d : Nat} {M M' : mM} (hB : ∀ q, q = 80 + 2 * d ∨ q = 80 + 2 * d + 1 ∨ (108 ≤ q ∧ q < 116) → M'.1 q = M.1 q) (h : iS d M) : iS d M' := by
  unfold iS at h ⊢
  rw [hB (80 + 2 * d) (by omega), hB (80 + 2 * d + 1) (by omega), hB 108 (by omega), hB 109 (by omega), hB 110 (by omega), hB 111 (by omega), hB 112 (by omega), hB 113 (by omega), hB 114 (by omega), hB 115 (by omega)]
  exact h
theorem iI_fr {M M' : mM} (hB : ∀ q, cnt 33 q → M'.1 q = M.1 q) (hJ : M'.2.1 46 = M.2.1 46) (hR : M'.1 98 = M.1 98) (h0 : M'.1 0 2 = M.1 0 2) (h9 : M'.1 96 3 = M.1 96 3) (h : iI M) : iI M' := by
  unfold iI at h ⊢
  rw [h0, h9]
  rcases h with h | ⟨h1, h2, K, h3⟩
  · exact Or.inl h
  · exact Or.inr ⟨h1, h2, K, wA_fr hB hJ (fun j _ => by rw [hR]) h3⟩
/-- what no call rests on -/
abbrev scr (q : Nat) : Prop := q = 7 ∨ q = 9 ∨ q = 39 ∨ q = 41 ∨ (65 ≤ q ∧ q ≤ 73) ∨ (75 ≤ q ∧ q ≤ 79) ∨ q = 96 ∨ (100 ≤ q ∧ q ≤ 107) ∨ 116 ≤ q
def eqK (M M' : mM) : Prop := (∀ q, ¬ scr q → M'.1 q = M.1 q) ∧ M'.1 96 3 = M.1 96 3 ∧ M'.2.1 14 = M.2.1 14 ∧ M'.2.1 46 = M.2.1 46
theorem eqK_rf {M : mM} : eqK M M := ⟨fun _ _ => rfl, rfl, rfl, rfl⟩
theorem eqK_tr {M M' M2 : mM} (h : eqK M M') (h2 : eqK M' M2) : eqK M M2 := ⟨fun q hq => (h2.1 q hq).trans (h.1 q hq), h2.2.1.trans h.2.1, h2.2.2.1.trans h.2.2.1, h2.2.2.2.trans h.2.2.2⟩
theorem eqK_s {M : mM} {k : Nat} {L : Nat → Int32} (h : scr k ∧ k ≠ 96) : eqK M (sR M k L) := by
  refine ⟨fun q hq => sR_n (fun e => hq (e ▸ h.1)), ?_, rfl, rfl⟩
  rw [sR_n (fun e => h.2 e.symm)]
theorem eqK_i {M : mM} {k j : Nat} {v : Int32} (h : scr k ∧ (k ≠ 96 ∨ j ≠ 3)) : eqK M (mI M k j v) := by
  refine ⟨fun q hq => mI_ne (fun e => hq (e ▸ h.1)), ?_, rfl, rfl⟩
  exact mI_n (by omega)
theorem eqK_T {M : mM} {k t : Nat} : eqK M (mT M k t) := ⟨fun _ _ => rfl, rfl, rfl, rfl⟩
theorem wA_eqK {M M' : mM} {K : Kt} (e : eqK M M') (h : wA 1 97 M K) : wA 1 97 M' K := wA_fr (fun q hq => e.1 q (by unfold cnt at hq; omega)) e.2.2.1 (fun j _ => by rw [e.1 97 (by omega)]) h
theorem Inv_eqK {M M' : mM} (e : eqK M M') (h : Inv M) : Inv M' := by
  obtain ⟨⟨K, h1, h2⟩, h3, h4, h5⟩ := h
  refine ⟨⟨K, wA_eqK e h1, repG_fr (e.1 99 (by omega)) h2⟩, iI_fr (fun q hq => e.1 q (by unfold cnt at hq; omega)) e.2.2.2 (e.1 98 (by omega)) (by rw [e.1 0 (by omega)]) e.2.1 h3, fun d hd => iS_fr (fun q hq => e.1 q (by omega)) (h4 d hd), fun p hp hg => ?_⟩
  rw [e.1 74 (by omega)]
  exact h5 p hp hg
/-- a call that changes what is now alone -/
theorem Inv_now {M M' : mM} (h : Inv M) (hB : ∀ q, (q < 1 ∨ 33 ≤ q) → ¬ scr q → q ≠ 97 → q ≠ 99 → M'.1 q = M.1 q) (h9 : M'.1 96 3 = M.1 96 3) (hJ : M'.2.1 46 = M.2.1 46) (hK : ∃ K, wA 1 97 M' K ∧ repG M' K.1) : Inv M' := by
  obtain ⟨-, h3, h4, h5⟩ := h
  refine ⟨hK, iI_fr (fun q hq => hB q (by unfold cnt at hq; omega) (by unfold cnt at hq; omega) (by unfold cnt at hq; omega) (by unfold cnt at hq; omega)) hJ (hB 98 (by omega) (by omega) (by omega) (by omega)) (by rw [hB 0 (by omega) (by omega) (by omega) (by omega)]) h9 h3, fun d hd => iS_fr (fun q hq => hB q (by omega) (by omega) (by omega) (by omega)) (h4 d hd), fun p hp hg => ?_⟩
  rw [hB 74 (by omega) (by omega) (by omega) (by omega)]
  exact h5 p hp hg
/-- a call that changes SHELVES alone -/
theorem Inv_shf {M M' : mM} (h : Inv M) (hB : ∀ q, ¬ scr q → ¬ (80 ≤ q ∧ q ≤ 95) → ¬ (108 ≤ q ∧ q ≤ 115) → M'.1 q = M.1 q) (h9 : M'.1 96 3 = M.1 96 3) (hJ : M'.2.1 = M.2.1) (hS : ∀ d, d < 8 → iS d M') : Inv M' := by
  obtain ⟨⟨K, h1, h2⟩, h3, h4, h5⟩ := h
  refine ⟨⟨K, wA_fr (fun q hq => hB q (by unfold cnt at hq; omega) (by unfold cnt at hq; omega) (by unfold cnt at hq; omega)) (by rw [hJ]) (fun j _ => by rw [hB 97 (by omega) (by omega) (by omega)]) h1, repG_fr (hB 99 (by omega) (by omega) (by omega)) h2⟩, iI_fr (fun q hq => hB q (by unfold cnt at hq; omega) (by unfold cnt at hq; omega) (by unfold cnt at hq; omega)) (by rw [hJ]) (hB 98 (by omega) (by omega) (by omega)) (by rw [hB 0 (by omega) (by omega) (by omega)]) h9 h3, hS, fun p hp hg => ?_⟩
  rw [hB 74 (by omega) (by omega) (by omega)]
  exact h5 p hp hg
/-! a new object -/
theorem M0_at {k j : Nat} (h : ¬ (k = 8 ∨ k = 40 ∨ k = 71)) (h2 : ¬ ((k = 76 ∨ k = 77 ∨ k = 78) ∧ j = 3)) (h3 : ¬ ((k = 80 ∨ k = 82 ∨ k = 84 ∨ k = 86 ∨ k = 88 ∨ k = 90 ∨ k = 92 ∨ k = 94) ∧ j = 0)) : M0.1 k j = 0 := by
  show (if k = 8 ∨ k = 40 ∨ k = 71 then gI j else if (k = 76 ∨ k = 77 ∨ k = 78) ∧ j = 3 then -1 else if (k = 80 ∨ k = 82 ∨ k = 84 ∨ k = 86 ∨ k = 88 ∨ k = 90 ∨ k = 92 ∨ k = 94) ∧ j = 0 then -2 else 0) = 0
  rw [if_neg h, if_neg h2, if_neg h3]
def A0 : Bd := (0, fun _ => 0, gI, fun _ => 0, fun _ => 0, fun _ => 0)
theorem gI_in : ∀ p, p < 120 → inG p → gI p = -1 := by decide +kernel
theorem Inv_M0 : Inv M0 := by
  refine ⟨⟨(A0, 0, 0, 0, 0, 0), ⟨⟨⟨by decide, fun c hc => absurd hc (Nat.not_lt_zero c), fun p hp hg => Or.inl (gI_in p hp hg), fun p _ _ => rfl, fun c hc => absurd hc (Nat.not_lt_zero c), fun c hc => absurd hc (Nat.not_lt_zero c)⟩, ⟨M0_at (by omega) (by omega) (by omega), fun c hc => absurd hc (Nat.not_lt_zero c), fun c hc => absurd hc (Nat.not_lt_zero c), fun c hc => absurd hc (Nat.not_lt_zero c), fun c hc => absurd hc (Nat.not_lt_zero c), fun p _ => rfl⟩, ⟨M0_at (by omega) (by omega) (by omega), fun c hc => absurd hc (Nat.not_lt_zero c), fun c hc => absurd hc (Nat.not_lt_zero c), fun c hc => absurd hc (Nat.not_lt_zero c), fun c hc => absurd hc (Nat.not_lt_zero c), fun c hc => absurd hc (Nat.not_lt_zero c)⟩, fun i _ => Or.inl (M0_at (by omega) (by omega) (by omega))⟩, ⟨Nat.zero_le _, M0_at (by omega) (by omega) (by omega), M0_at (by omega) (by omega) (by omega)⟩, fun c hc => absurd hc (Nat.not_lt_zero c), fun c hc => absurd hc (Nat.not_lt_zero c), ⟨Nat.zero_le _, M0_at (by omega) (by omega) (by omega), M0_at (by omega) (by omega) (by omega), fun c hc => absurd hc (Nat.not_lt_zero c)⟩, ⟨Nat.zero_le _, M0_at (by omega) (by omega) (by omega), M0_at (by omega) (by omega) (by omega), fun c hc => absurd hc (Nat.not_lt_zero c)⟩, ⟨Nat.zero_le _, M0_at (by omega) (by omega) (by omega), M0_at (by omega) (by omega) (by omega), fun c hc => absurd hc (Nat.not_lt_zero c), fun i _ => Or.inl (M0_at (by omega) (by omega) (by omega))⟩, ⟨Nat.zero_le _, M0_at (by omega) (by omega) (by omega), M0_at (by omega) (by omega) (by omega), fun c hc => absurd hc (Nat.not_lt_zero c), fun i _ => Or.inl (M0_at (by omega) (by omega) (by omega))⟩, fun i j _ hj => absurd hj (Nat.not_lt_zero j), Or.inl rfl⟩, fun x hx y hy => ?_⟩, Or.inl ⟨M0_at (by omega) (by omega) (by omega), M0_at (by omega) (by omega) (by omega)⟩, fun d hd => Or.inl ⟨M0_at (by omega) (by omega) (by omega), ?_⟩, fun p _ _ => M0_at (by omega) (by omega) (by omega)⟩
  · rw [M0_at (by omega) (by omega) (by omega)]
    show (0 : Int32) = gI _ + 1
    rw [gI_in _ (by omega) (cellI hx hy)]
    rfl
  · show (if (80 + 2 * d) = 8 ∨ (80 + 2 * d) = 40 ∨ (80 + 2 * d) = 71 then gI 0 else if ((80 + 2 * d) = 76 ∨ (80 + 2 * d) = 77 ∨ (80 + 2 * d) = 78) ∧ 0 = 3 then -1 else if ((80 + 2 * d) = 80 ∨ (80 + 2 * d) = 82 ∨ (80 + 2 * d) = 84 ∨ (80 + 2 * d) = 86 ∨ (80 + 2 * d) = 88 ∨ (80 + 2 * d) = 90 ∨ (80 + 2 * d) = 92 ∨ (80 + 2 * d) = 94) ∧ 0 = 0 then -2 else 0) = (-2 : Int32)
    rw [if_neg (by omega), if_neg (by omega), if_pos (by omega)]
