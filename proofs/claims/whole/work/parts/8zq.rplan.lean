/-! plan: the reference's search -/
theorem mI_sRc {M : mM} {k q j : Nat} {v : Int32} {L : Nat → Int32} (h : k ≠ q) : mI (sR M q L) k j v = sR (mI M k j v) q L := by
  refine mM_ext (fun a i => ?_) rfl
  by_cases e : a = q
  · subst e
    rw [mI_n (Or.inl (fun e => h e.symm)), sR_e, sR_e]
  · rw [sR_n e, mI_at, mI_at, sR_n e]
theorem rgo_s {R : mM} {A : Bd} {c w : Nat} {L : Nat → Int32} : rgo (sR R 106 L) A c w = sR (rgo R A c w) 106 L := by
  show mI (seM (sR R 106 L) (bP A c) c (stp (bP A c) w)) 97 (58 + c) (bW A c - cost A c) = sR (mI (seM R (bP A c) c (stp (bP A c) w)) 97 (58 + c) (bW A c - cost A c)) 106 L
  unfold seM
  rw [mI_sRc (by decide), mI_sRc (by decide), mI_sRc (by decide), mI_sRc (by decide), mI_sRc (by decide)]
theorem X10_goesR {R : mM} {A : Bd} {c w : Nat} {L : Nat → Int32} (hr : repR 97 R A) (hw : wf A) (hc : c < bN A) (hw8 : w < 8) (hcan : canP A c w) : f_X10_goes (nI (8 * c + w)) (sR R 106 L) = some (sR (rgo R A c w) 106 L) := (X10_goes (M := sR R 106 L) (repR_s (q := 106) (L := L) (by decide) hr) hw hc hw8 (canP_in hw hc hw8 hcan).1).trans (congrArg some rgo_s)
theorem X10_backR {R : mM} {A : Bd} {c w : Nat} {L : Nat → Int32} (hr : repR 97 R A) (hg : repG R A) (hw : wf A) (hc : c < bN A) (hw8 : w < 8) (hcan : canP A c w) : f_X10_comesBack (nI (8 * c + w)) (sR (rgo R A c w) 106 L) = some (sR R 106 L) := by
  have := rgo_back hw (repR_s (L := L) (q := 106) (by decide) hr) (repG_s (L := L) (q := 106) (by decide) hg) hc hw8 hcan
  rw [rgo_s] at this
  exact this
abbrev gl5 (V : Nat → Bool) (R : mM) : Prop := ∀ q, q < 80 → R.1 105 q = nI (V (10 * (q % 8) + q / 8)).toNat
theorem X10_outE {V : Nat → Bool} {M : mM} {A : Bd} (hw : wf A) (hr : repR 97 M A) (hG : gl5 V M) : f_X10_outside M = some (nI (Eo V A)) := by
  have hn := hw.1
  obtain ⟨m, hm⟩ := mN_ge (k := bN A + 1) (by omega)
  have hm : mN = m + bN A + 1 := by omega
  have ro := r_out hw hr hG (bN A) 0 0 (Nat.zero_add _) m
  rw [← hm] at ro
  have e : 0 + (smq (ouv A V) (0 + bN A) - smq (ouv A V) 0) = Eo V A := by
    rw [Nat.zero_add, Nat.zero_add]
    rfl
  rw [e] at ro
  exact ro
theorem gl5_s {V : Nat → Bool} {R : mM} {L : Nat → Int32} (h : gl5 V R) : gl5 V (sR R 106 L) := fun q hq => by rw [sR_n (by omega)]; exact h q hq
theorem gl5_go {V : Nat → Bool} {R : mM} {A : Bd} {c w : Nat} (h : gl5 V R) : gl5 V (rgo R A c w) := fun q hq => by rw [rgo_ne (by omega)]; exact h q hq
theorem r_st {R : mM} {A : Bd} {L : Nat → Int32} {i m n F : Nat} (hn : bN A ≤ 16) (hr : repR 97 R A) (hi : i < 4) (hL : L i = nI m - 1) : f_X10_isPlan_b43 (F + 1) (nI n) (nI i) 0 (sR R 106 L) = f_X10_isPlan_b91 (f_X10_isPlan_b43 F) (nI n) (nI i) 0 (nI m) 8 (nI (min 8 (bN A))) (sR R 106 (up L i (nI m))) := by
  have gi : mIn (nI i) 4 := (nin (by omega)).mpr hi
  rw [f_X10_isPlan_b43, if_neg (nlt0 (by omega)), if_pos (show (0 : Int32) = 0 from rfl)]
  simp only [ncl (show i < 2147483648 by omega)]
  rw [mgd_s gi, mgd_s gi, sR_e, hL, show nI m - 1 + 1 = nI m by grind, mI_R, mlt_s, mgd_s gi, sR_e, up_e, sR_n (by decide), hr.1]
  by_cases h : 8 ≤ bN A
  · rw [if_pos ((lle (m := 8) (by decide) (by omega)).mpr h), show min 8 (bN A) = 8 by omega] <;> rfl
  · rw [if_neg (fun q => h ((lle (m := 8) (by decide) (by omega)).mp q)), show min 8 (bN A) = bN A by omega]
/-- no MOVE is left: back to the one before -/
def rtl (F : Nat) (n x : Int32) (M : mM) : Option (Int32 × mM) := if x < 0 then f_X10_isPlan_b43 F n x 0 M else mgd (mIn x 4) <| mbp (f_X10_comesBack (M.1 106 (Int32.toNatClampNeg x)) M) fun M1 => f_X10_isPlan_b43 F n x 0 M1
theorem r_ex {k43 : Int32 → Int32 → Int32 → mM → Option (Int32 × mM)} {M : mM} {C n i F : Nat} (hC : C ≤ 8) (hk : k43 = f_X10_isPlan_b43 F) : f_X10_isPlan_b91 k43 (nI n) (nI i) 0 (nI (8 * C)) 8 (nI C) M = rtl F (nI n) (nI i + -1) M := by
  subst hk
  unfold f_X10_isPlan_b91
  rw [lmul, if_neg (fun q => by have := (nlt (by omega) (by omega)).mp q; omega), mlt_s] <;> rfl
theorem r_no {k43 : Int32 → Int32 → Int32 → mM → Option (Int32 × mM)} {R : mM} {A : Bd} {L : Nat → Int32} {n i c w : Nat} (hw : wf A) (hr : repR 97 R A) (hg : repG R A) (hi : i < 4) (hc : c < min 8 (bN A)) (hw8 : w < 8) (hL : L i = nI (8 * c + w)) (h : ¬ canP A c w) : f_X10_isPlan_b91 k43 (nI n) (nI i) 0 (nI (8 * c + w)) 8 (nI (min 8 (bN A))) (sR R 106 L) = k43 (nI n) (nI i) 0 (sR R 106 L) := by
  have gi : mIn (nI i) 4 := (nin (by omega)).mpr hi
  unfold f_X10_isPlan_b91
  rw [lmul, if_pos ((nlt (by omega) (by omega)).mpr (by omega)), mgd_s gi]
  simp only [ncl (show i < 2147483648 by omega)]
  rw [sR_e, hL, X10_canMove hw (repR_s (by decide) hr) (repG_s (by decide) hg) (by omega) hw8, mbw_s, tf_n h, if_pos (show (0 : Int32) = 0 from rfl)]
theorem r_yes {V : Nat → Bool} {k43 : Int32 → Int32 → Int32 → mM → Option (Int32 × mM)} {R : mM} {A : Bd} {L : Nat → Int32} {n i r c w : Nat} (hw : wf A) (hr : repR 97 R A) (hg : repG R A) (h5 : gl5 V R) (h4 : n ≤ 4) (hi : i + r + 1 = n) (hc : c < min 8 (bN A)) (hw8 : w < 8) (hL : L i = nI (8 * c + w)) (h : canP A c w) : f_X10_isPlan_b91 k43 (nI n) (nI i) 0 (nI (8 * c + w)) 8 (nI (min 8 (bN A))) (sR R 106 L) = if Eo V (bGo A c w) ≤ r then (if r = 0 then k43 (nI n) (nI i) 1 (sR (rgo R A c w) 106 L) else k43 (nI n) (nI (i + 1)) 0 (sR (rgo R A c w) 106 (up L (i + 1) (-1)))) else k43 (nI n) (nI i) 0 (sR R 106 L) := by
  have gi : mIn (nI i) 4 := (nin (by omega)).mpr (by omega)
  have hE2 := Eo_le (V := V) (wf_go hw (show c < bN A by omega) hw8 h)
  have en : nI n - 1 - nI i = nI r := by
    rw [nI_p (by omega), nsub (by omega)]
    congr 1
    omega
  unfold f_X10_isPlan_b91
  rw [lmul, if_pos ((nlt (by omega) (by omega)).mpr (by omega)), mgd_s gi]
  simp only [ncl (show i < 2147483648 by omega)]
  rw [sR_e, hL, X10_canMove hw (repR_s (by decide) hr) (repG_s (by decide) hg) (by omega) hw8, mbw_s, tf_y h, if_neg (show ¬ (1 : Int32) = 0 by decide), mgd_s gi, sR_e, hL, X10_goesR hr hw (by omega) hw8 h, mbp_s, X10_outE (wf_go hw (by omega) hw8 h) (repR_s (by decide) (rgo_rep hr hw (by omega))) (gl5_s (gl5_go h5)), mbp_s, en]
  by_cases h2 : Eo V (bGo A c w) ≤ r
  · rw [if_pos h2, if_pos ((nle (by omega) (by omega)).mpr h2), nI_p (by omega)]
    by_cases h3 : r = 0
    · rw [if_pos h3, if_pos ((neq (by omega) (by omega)).mpr (by omega))]
    · rw [if_neg h3, if_neg (fun q => h3 (by have := (neq (by omega) (by omega)).mp q; omega)), nI_1, mlt_s, mgd_s ((nin (by omega)).mpr (by omega)), ncl (by omega), mI_R, mlt_s]
  · rw [if_neg h2, if_neg (fun q => h2 ((nle (by omega) (by omega)).mp q)), mgd_s gi, sR_e, hL, X10_backR hr hg hw (by omega) hw8 h, mbp_s]
theorem r_b {R : mM} {A : Bd} {L : Nat → Int32} {i c w F : Nat} (hr : repR 97 R A) (hg : repG R A) (hw : wf A) (hi : i < 4) (hc : c < bN A) (hw8 : w < 8) (hL : L i = nI (8 * c + w)) (h : canP A c w) : f_X10_isPlan_b200 (F + 1) 1 (nI i) (sR (rgo R A c w) 106 L) = f_X10_isPlan_b200 F 1 (nI i - 1) (sR R 106 L) := by
  rw [f_X10_isPlan_b200, if_neg (nlt0 (by omega)), mgd_s ((nin (by omega)).mpr hi), ncl (by omega), sR_e, hL, X10_backR hr hg hw hc hw8 h, mbp_s, mlt_s, show nI i + -1 = nI i - 1 by grind]
def Ws : Nat → Nat
  | 0 => 1
  | r + 1 => 64 * Ws r + 2
theorem Ws_1 (r : Nat) : 1 ≤ Ws r := by
  cases r with
  | zero => exact Nat.le_refl _
  | succ r => show 1 ≤ 64 * Ws r + 2; omega
def rpC (V : Nat → Bool) (n r i : Nat) (A : Bd) (R : mM) (L : Nat → Int32) (m d : Nat) : Prop := ∃ k L', k ≤ d * Ws r + 1 ∧ (∀ q, q < i → L' q = L q) ∧ (frs (pV V r A) d m = none → ∀ F, f_X10_isPlan_b43 (F + k) (nI n) (nI i) 0 (sR R 106 L) = rtl F (nI n) (nI i + -1) (sR R 106 L')) ∧ ∀ l, frs (pV V r A) d m = some l → (∀ t, t < r + 1 → L' (i + t) = nI (gtl l t)) ∧ ∃ st, (∀ F, f_X10_isPlan_b43 (F + k) (nI n) (nI i) 0 (sR R 106 L) = f_X10_isPlan_b43 F (nI n) (nI n - 1) 1 st) ∧ ∀ F2, f_X10_isPlan_b200 (F2 + (r + 1)) 1 (nI n - 1) st = f_X10_isPlan_b200 F2 1 (nI i - 1) (sR R 106 L')
theorem rp_nx {V : Nat → Bool} {n r i m d K0 : Nat} {A : Bd} {R : mM} {L L2 : Nat → Int32} (hK : K0 ≤ Ws r) (h2 : ∀ q, q < i → L2 q = L q) (hp : pV V r A m = none) (hs : ∀ F, f_X10_isPlan_b43 (F + K0) (nI n) (nI i) 0 (sR R 106 L) = f_X10_isPlan_b43 F (nI n) (nI i) 0 (sR R 106 L2)) (h : rpC V n r i A R L2 (m + 1) d) : rpC V n r i A R L m (d + 1) := by
  obtain ⟨k, L', a1, a2, a3, a4⟩ := h
  have e : ∀ F, f_X10_isPlan_b43 (F + (k + K0)) (nI n) (nI i) 0 (sR R 106 L) = f_X10_isPlan_b43 (F + k) (nI n) (nI i) 0 (sR R 106 L2) := fun F => by rw [← Nat.add_assoc]; exact hs (F + k)
  refine ⟨k + K0, L', ?_, fun q hq => (a2 q hq).trans (h2 q hq), fun h F => ?_, fun l h => ?_⟩
  · rw [Nat.add_mul, Nat.one_mul]
    omega
  · rw [frs_n hp] at h
    rw [e, a3 h]
  · rw [frs_n hp] at h
    obtain ⟨b1, st, b2, b3⟩ := a4 l h
    exact ⟨b1, st, fun F => by rw [e, b2], b3⟩
theorem rp_all {V : Nat → Bool} {n : Nat} (h4 : n ≤ 4) (r : Nat) : ∀ i A R, i + r + 1 = n → wf A → repR 97 R A → repG R A → gl5 V R → ∀ d m L, L i = nI m - 1 → m + d = 8 * min 8 (bN A) → rpC V n r i A R L m d := by
  induction r with
  | zero =>
    intro i A R hi hw hr hg h5 d
    have hn := hw.1
    induction d with
    | zero =>
      intro m L hL hm
      obtain rfl : m = 8 * min 8 (bN A) := by omega
      refine ⟨1, up L i (nI (8 * min 8 (bN A))), by omega, fun q hq => up_n (by omega), fun _ F => ?_, fun l h => absurd h.symm (Option.some_ne_none _)⟩
      rw [r_st hn hr (by omega) hL, r_ex (by omega) rfl]
    | succ d ih =>
      intro m L hL hm
      obtain ⟨c, w, hc, hw8, rfl⟩ : ∃ c w, c < min 8 (bN A) ∧ w < 8 ∧ m = 8 * c + w := ⟨m / 8, m % 8, by omega, by omega, by omega⟩
      have e1 : up L i (nI (8 * c + w)) i = nI (8 * c + w) := up_e
      have e2 : ∀ q, q < i → up L i (nI (8 * c + w)) q = L q := fun q hq => up_n (by omega)
      have nx := ih (8 * c + w + 1) (up L i (nI (8 * c + w))) (by rw [e1, ← nI_1]; grind) (by omega)
      by_cases h : canP A c w
      · have st : ∀ F, f_X10_isPlan_b43 (F + 1) (nI n) (nI i) 0 (sR R 106 L) = _ := fun F => (r_st hn hr (by omega) hL).trans (r_yes (r := 0) hw hr hg h5 h4 hi hc hw8 e1 h)
        by_cases h2 : Eo V (bGo A c w) ≤ 0
        · have hf : pV V 0 A (8 * c + w) = some [] := by rw [pV_y hw8 h h2, fnd, if_pos (by omega)]
          have en : nI n - 1 = nI i := by rw [nI_p (by omega)]; congr 1; omega
          refine ⟨1, up L i (nI (8 * c + w)), by omega, e2, fun q => ?_, fun l q => ?_⟩
          · rw [frs_y hf] at q
            exact absurd q (Option.some_ne_none _)
          · rw [frs_y hf] at q
            obtain rfl := Option.some.inj q
            refine ⟨fun t ht => ?_, sR (rgo R A c w) 106 (up L i (nI (8 * c + w))), fun F => ?_, fun F2 => ?_⟩
            · obtain rfl : t = 0 := by omega
              exact e1
            · rw [st, if_pos h2, if_pos rfl, en]
            · rw [en]
              exact r_b hr hg hw (by omega) (by omega) hw8 e1 h
        · exact rp_nx (Nat.le_refl 1) e2 (pV_n hw8 (fun q => h2 q.2)) (fun F => by rw [st, if_neg h2]) nx
      · exact rp_nx (Nat.le_refl 1) e2 (pV_n hw8 (fun q => h q.1)) (fun F => (r_st hn hr (by omega) hL).trans (r_no hw hr hg (by omega) hc hw8 e1 h)) nx
  | succ r ihr =>
    intro i A R hi hw hr hg h5 d
    have hn := hw.1
    induction d with
    | zero =>
      intro m L hL hm
      obtain rfl : m = 8 * min 8 (bN A) := by omega
      refine ⟨1, up L i (nI (8 * min 8 (bN A))), by omega, fun q hq => up_n (by omega), fun _ F => ?_, fun l h => absurd h.symm (Option.some_ne_none _)⟩
      rw [r_st hn hr (by omega) hL, r_ex (by omega) rfl]
    | succ d ih =>
      intro m L hL hm
      obtain ⟨c, w, hc, hw8, rfl⟩ : ∃ c w, c < min 8 (bN A) ∧ w < 8 ∧ m = 8 * c + w := ⟨m / 8, m % 8, by omega, by omega, by omega⟩
      have e1 : up L i (nI (8 * c + w)) i = nI (8 * c + w) := up_e
      have e2 : ∀ q, q < i → up L i (nI (8 * c + w)) q = L q := fun q hq => up_n (by omega)
      have hW := Ws_1 (r + 1)
      have nx := ih (8 * c + w + 1) (up L i (nI (8 * c + w))) (by rw [e1, ← nI_1]; grind) (by omega)
      by_cases h : canP A c w
      · have st : ∀ F, f_X10_isPlan_b43 (F + 1) (nI n) (nI i) 0 (sR R 106 L) = _ := fun F => (r_st hn hr (by omega) hL).trans (r_yes (r := r + 1) hw hr hg h5 h4 hi hc hw8 e1 h)
        by_cases h2 : Eo V (bGo A c w) ≤ r + 1
        · have hcB : c < bN A := by omega
          have hwB := wf_go hw hcB hw8 h
          obtain ⟨k1, L3, a1, a2, a3, a4⟩ := ihr (i + 1) (bGo A c w) (rgo R A c w) (by omega) hwB (rgo_rep hr hw hcB) (rgo_G hg hw hcB (canP_in hw hcB hw8 h).1) (gl5_go h5) (8 * min 8 (bN A)) 0 (up (up L i (nI (8 * c + w))) (i + 1) (-1)) (by rw [up_e]; decide) (Nat.zero_add _)
          have st2 : ∀ F, f_X10_isPlan_b43 (F + (k1 + 1)) (nI n) (nI i) 0 (sR R 106 L) = f_X10_isPlan_b43 (F + k1) (nI n) (nI (i + 1)) 0 (sR (rgo R A c w) 106 (up (up L i (nI (8 * c + w))) (i + 1) (-1))) := fun F => by
            have := st (F + k1)
            rw [if_pos h2, if_neg (by omega)] at this
            exact this
          have hk : k1 + 1 ≤ Ws (r + 1) := by
            have h1 : 8 * min 8 (bN A) * Ws r ≤ 64 * Ws r := Nat.mul_le_mul_right _ (by omega)
            show k1 + 1 ≤ 64 * Ws r + 2
            omega
          have l3 : ∀ q, q < i → L3 q = L q := fun q hq => by rw [a2 q (by omega), up_n (by omega), up_n (by omega)]
          have l3i : L3 i = nI (8 * c + w) := by rw [a2 i (by omega), up_n (by omega), up_e]
          have fe : fnd V (r + 1) (bGo A c w) = frs (pV V r (bGo A c w)) (8 * min 8 (bN A)) 0 := fnd_s
          have pe : pV V (r + 1) A (8 * c + w) = frs (pV V r (bGo A c w)) (8 * min 8 (bN A)) 0 := (pV_y hw8 h h2).trans fe
          have ei : nI (i + 1) + -1 = nI i := by rw [← nI_1]; grind
          have ei2 : nI (i + 1) - 1 = nI i := by rw [← nI_1]; grind
          cases hf : frs (pV V r (bGo A c w)) (8 * min 8 (bN A)) 0 with
          | none =>
            rw [hf] at pe
            have nx := ih (8 * c + w + 1) L3 (by rw [l3i, ← nI_1]; grind) (by omega)
            refine rp_nx hk l3 pe (fun F => ?_) nx
            rw [st2, a3 hf, ei]
            unfold rtl
            rw [if_neg (nlt0 (by omega)), mgd_s ((nin (by omega)).mpr (by omega)), ncl (by omega), sR_e, l3i, X10_backR hr hg hw hcB hw8 h, mbp_s]
          | some l =>
            rw [hf] at pe
            obtain ⟨b1, s, b2, b3⟩ := a4 l hf
            refine ⟨k1 + 1, L3, ?_, l3, fun q => ?_, fun l' q => ?_⟩
            · rw [Nat.add_mul, Nat.one_mul]
              omega
            · rw [frs_y pe] at q
              exact absurd q (Option.some_ne_none _)
            · rw [frs_y pe] at q
              obtain rfl := Option.some.inj q
              refine ⟨fun t ht => ?_, s, fun F => by rw [st2, b2], fun F2 => ?_⟩
              · cases t with
                | zero => exact l3i
                | succ t =>
                  have := b1 t (by omega)
                  rw [gtl_s, ← this]
                  exact congrArg L3 (show i + (t + 1) = i + 1 + t by omega)
              · have b3 := b3 (F2 + 1)
                rw [show F2 + 1 + (r + 1) = F2 + (r + 1 + 1) by omega, ei2] at b3
                rw [b3]
                exact r_b hr hg hw (by omega) hcB hw8 l3i h
        · exact rp_nx hW e2 (pV_n hw8 (fun q => h2 q.2)) (fun F => by rw [st, if_neg h2]) nx
      · exact rp_nx hW e2 (pV_n hw8 (fun q => h q.1)) (fun F => (r_st hn hr (by omega) hL).trans (r_no hw hr hg (by omega) hc hw8 e1 h)) nx
