/-! plan: the class's search -/
noncomputable def pV (V : Nat → Bool) (r : Nat) (A : Bd) : Nat → Option (List Nat) := fun m => @ite _ (canP A (m / 8) (m % 8) ∧ Eo V (bGo A (m / 8) (m % 8)) ≤ r) (Classical.propDecidable _) (fnd V r (bGo A (m / 8) (m % 8))) none
theorem fnd_s {V : Nat → Bool} {r : Nat} {A : Bd} : fnd V (r + 1) A = frs (pV V r A) (8 * min 8 (bN A)) 0 := by
  rw [fnd]
  rfl
theorem pV_y {V : Nat → Bool} {r c w : Nat} {A : Bd} (hw8 : w < 8) (h : canP A c w) (h2 : Eo V (bGo A c w) ≤ r) : pV V r A (8 * c + w) = fnd V r (bGo A c w) := by
  unfold pV
  rw [show (8 * c + w) / 8 = c by omega, show (8 * c + w) % 8 = w by omega, if_pos ⟨h, h2⟩]
theorem pV_n {V : Nat → Bool} {r c w : Nat} {A : Bd} (hw8 : w < 8) (h : ¬ (canP A c w ∧ Eo V (bGo A c w) ≤ r)) : pV V r A (8 * c + w) = none := by
  unfold pV
  rw [show (8 * c + w) / 8 = c by omega, show (8 * c + w) % 8 = w by omega, if_neg h]
theorem frs_n {p : Nat → Option (List Nat)} {k m : Nat} (h : p m = none) : frs p (k + 1) m = frs p k (m + 1) := by
  rw [frs, h]
theorem frs_y {p : Nat → Option (List Nat)} {k m : Nat} {l : List Nat} (h : p m = some l) : frs p (k + 1) m = some (m :: l) := by
  rw [frs, h]
def fA (o : Option (List Nat)) : Int32 := match o with
  | some _ => 1
  | none => 0
abbrev gtl (l : List Nat) (t : Nat) : Nat := l.getD t 0
theorem gtl_0 {m : Nat} {l : List Nat} : gtl (m :: l) 0 = m := rfl
theorem gtl_s {m t : Nat} {l : List Nat} : gtl (m :: l) (t + 1) = gtl l t := rfl
theorem Eo_le {V : Nat → Bool} {A : Bd} (hw : wf A) : Eo V A ≤ 16 := by
  have h := smq_le (v := ouv A V) (fun i => b_le _) (bN A)
  have := hw.1
  show smq _ _ ≤ 16
  omega
/-- what a search of the class leaves as it was -/
def cS (i : Nat) (M M' : mM) : Prop := (∀ k, k ≠ 67 → k ≠ 68 → k ≠ 71 → k ≠ 72 → k ≠ 75 → M'.1 k = M.1 k) ∧ M'.2 = M.2 ∧ ∀ q, q < i → M'.1 75 q = M.1 75 q
theorem cS_rf {i : Nat} {M : mM} : cS i M M := ⟨fun _ _ _ _ _ _ => rfl, rfl, fun _ _ => rfl⟩
theorem cS_tr {i : Nat} {M M1 M2 : mM} (h : cS i M M1) (h2 : cS i M1 M2) : cS i M M2 := ⟨fun k a b c d e => (h2.1 k a b c d e).trans (h.1 k a b c d e), h2.2.1.trans h.2.1, fun q hq => (h2.2.2 q hq).trans (h.2.2 q hq)⟩
theorem cS_lt {i j : Nat} {M M1 : mM} (hj : i ≤ j) (h : cS j M M1) : cS i M M1 := ⟨h.1, h.2.1, fun q hq => h.2.2 q (by omega)⟩
theorem cS_72 {i : Nat} {M : mM} {L : Nat → Int32} : cS i M (sR M 72 L) := ⟨fun k _ _ _ d _ => sR_n d, rfl, fun q _ => by rw [sR_n (by omega)]⟩
theorem cS_75 {i j : Nat} {v : Int32} {M : mM} (h : i ≤ j) : cS i M (mI M 75 j v) := ⟨fun k _ _ _ _ e => mI_ne e, rfl, fun q hq => mI_n (by omega)⟩
theorem cS_go {i c q : Nat} {v : Int32} {M : mM} {A : Bd} : cS i M (goM 65 M A c q v) := ⟨fun k a b c d e => goM_ne ⟨a, b, c⟩, rfl, fun q hq => by rw [goM_ne (by omega)]⟩
theorem cS_w {i : Nat} {M M1 : mM} {V : Nat → Bool} (h : cS i M M1) (hV : wants M V) : wants M1 V := fun p hp => by
  rw [h.1 74 (by omega) (by omega) (by omega) (by omega) (by omega)]
  exact hV p hp
theorem cS_K {i : Nat} {M M1 : mM} (h : cS i M M1) : eqK M M1 := ⟨fun q hq => h.1 q (by omega) (by omega) (by omega) (by omega) (by omega), by rw [h.1 96 (by omega) (by omega) (by omega) (by omega) (by omega)], by rw [h.2.1], by rw [h.2.1]⟩
theorem repB_75 {j : Nat} {v : Int32} {M : mM} {A : Bd} (h : repB 65 M A) : repB 65 (mI M 75 j v) A := repB_fr (by rw [mI_ne (by omega)]) (mI_ne (by omega)) (mI_ne (by omega)) (mI_ne (by omega)) (mI_ne (by omega)) (mI_ne (by omega)) h
def slfOK (slf : Int32 → Int32 → Int32 → mM → Option (Int32 × mM)) (V : Nat → Bool) (i len r : Nat) : Prop := ∀ B M, wf B → repB 65 M B → wants M V → ∃ M', slf (nI i) (nI len) (nI (Eo V B)) M = some (fA (fnd V r B), M') ∧ cS i M M' ∧ repB 65 M' B ∧ ∀ l, fnd V r B = some l → ∀ t, t < r → M'.1 75 (i + t) = nI (gtl l t)
def cpC (slf : Int32 → Int32 → Int32 → mM → Option (Int32 × mM)) (V : Nat → Bool) (A : Bd) (M0 : mM) (i len r c e d w : Nat) (M : mM) : Prop := (∃ M', cS i M0 M' ∧ repB 65 M' A ∧ frs (pV V r A) (e + d) (8 * c + w) = frs (pV V r A) e (8 * (c + 1)) ∧ ∀ k kf, f_X3_completes_b40 slf kf (k + d + 1) (nI i) (nI len) (nI (Eo V A)) (nI c) (nI w) M = kf (nI i) (nI len) (nI (Eo V A)) (nI (c + 1)) M') ∨ (∃ M' l, cS i M0 M' ∧ repB 65 M' A ∧ frs (pV V r A) (e + d) (8 * c + w) = some l ∧ (∀ t, t < r + 1 → M'.1 75 (i + t) = nI (gtl l t)) ∧ ∀ k kf, f_X3_completes_b40 slf kf (k + d + 1) (nI i) (nI len) (nI (Eo V A)) (nI c) (nI w) M = some (1, M'))
theorem cp_in {slf : Int32 → Int32 → Int32 → mM → Option (Int32 × mM)} {V : Nat → Bool} {A : Bd} {M0 : mM} {i len r c e : Nat} (hw : wf A) (hc : c < bN A) (hi : i + (r + 1) = len) (h4 : len ≤ 4) (hV : wants M0 V) (hs : slfOK slf V (i + 1) len r) (d : Nat) : ∀ w M, w + d = 8 → cS i M0 M → repB 65 M A → cpC slf V A M0 i len r c e d w M := by
  have hn := hw.1
  have hE := Eo_le (V := V) hw
  induction d with
  | zero =>
    intro w M hd hS hB
    obtain rfl : w = 8 := by omega
    refine Or.inl ⟨M, hS, hB, ?_, fun k kf => ?_⟩
    · rw [Nat.add_zero, show 8 * (c + 1) = 8 * c + 8 by omega]
    · rw [f_X3_completes_b40, if_pos (by decide), nI_1, mlt_s]
  | succ d ih =>
    intro w M hd hS hB
    have hw8 : w < 8 := by omega
    have hVM := cS_w hS hV
    have gi : mIn (nI i) 4 := (nin (by omega)).mpr (by omega)
    have st : ∀ k kf, f_X3_completes_b40 slf kf (k + (d + 1) + 1) (nI i) (nI len) (nI (Eo V A)) (nI c) (nI w) M = if nI len - nI i ≤ nI (Eo V A) + nI (wv V (bP A c)) - nI (wv V (stp (bP A c) w)) then f_X3_completes_b40 slf kf (k + d + 1) (nI i) (nI len) (nI (Eo V A)) (nI c) (nI (w + 1)) M else mbw (f_X0_mayGo 65 (nI c) (nI w) M) fun v74 M74 => if v74 = 0 then f_X3_completes_b40 slf kf (k + d + 1) (nI i) (nI len) (nI (Eo V A)) (nI c) (nI (w + 1)) M74 else mbp (f_X0_go 65 (nI c) (nI w) (mI M74 75 i (nI (8 * c + w)))) fun M102 => mbw (slf (nI (i + 1)) (nI len) (nI (Eo V A) + nI (wv V (bP A c)) - nI (wv V (stp (bP A c) w))) M102) fun v112 M112 => mbp (f_X0_goBack 65 (nI c) (nI w) M112) fun M125 => if v112 = 0 then f_X3_completes_b40 slf kf (k + d + 1) (nI i) (nI len) (nI (Eo V A)) (nI c) (nI (w + 1)) M125 else some (1, M125) := fun k kf => by
      show f_X3_completes_b40 slf kf (k + d + 1 + 1) (nI i) (nI len) (nI (Eo V A)) (nI c) (nI w) M = _
      rw [f_X3_completes_b40, if_neg (fun q => by have : 8 ≤ _ := (lle (m := 8) (by decide) (by omega)).mp q; omega), X3_emptyB hVM hw hB hc hw8, mbp_s]
      simp only [nI_1, lmul, nadd, ncl (show i < 2147483648 by omega), mlt_s, mgd_s gi]
    have nx : ∀ M1, cS i M0 M1 → repB 65 M1 A → pV V r A (8 * c + w) = none → (∀ k kf, f_X3_completes_b40 slf kf (k + (d + 1) + 1) (nI i) (nI len) (nI (Eo V A)) (nI c) (nI w) M = f_X3_completes_b40 slf kf (k + d + 1) (nI i) (nI len) (nI (Eo V A)) (nI c) (nI (w + 1)) M1) → cpC slf V A M0 i len r c e (d + 1) w M := fun M1 h1 h2 h3 h4 => by
      have := ih (w + 1) M1 (by omega) h1 h2
      have hf : frs (pV V r A) (e + (d + 1)) (8 * c + w) = frs (pV V r A) (e + d) (8 * c + (w + 1)) := frs_n (k := e + d) h3
      rcases this with ⟨M', a1, a2, a3, a4⟩ | ⟨M', l, a1, a2, a3, a4, a5⟩
      · exact Or.inl ⟨M', a1, a2, hf.trans a3, fun k kf => (h4 k kf).trans (a4 k kf)⟩
      · exact Or.inr ⟨M', l, a1, a2, hf.trans a3, a4, fun k kf => (h4 k kf).trans (a5 k kf)⟩
    by_cases hcan : canP A c w
    · have hc1 := Eo_c (V := V) hw hc hw8 hcan
      have hE2 := Eo_le (V := V) (wf_go hw hc hw8 hcan)
      rw [hc1] at st
      rw [show nI len - nI i = nI (r + 1) by rw [nsub (by omega)]; congr 1; omega] at st
      by_cases hle : Eo V (bGo A c w) ≤ r
      · have hno : ¬ nI (r + 1) ≤ nI (Eo V (bGo A c w)) := fun q => by have := (nle (by omega) (by omega)).mp q; omega
        obtain ⟨L, hL⟩ := X0_mayGoE hw hB hc hw8
        have hL : f_X0_mayGo 65 (nI c) (nI w) M = some (tf (canP A c w), sR M 72 L) := hL
        obtain ⟨q1, q2⟩ := canP_in hw hc hw8 hcan
        have hB1 : repB 65 (sR M 72 L) A := repB_s7 (b := 65) hB
        have hB2 : repB 65 (mI (sR M 72 L) 75 i (nI (8 * c + w))) A := repB_75 hB1
        have hS2 : cS i M0 (mI (sR M 72 L) 75 i (nI (8 * c + w))) := cS_tr (cS_tr hS cS_72) (cS_75 (Nat.le_refl _))
        have e75 : (mI (sR M 72 L) 75 i (nI (8 * c + w))).1 75 i = nI (8 * c + w) := mI_e
        obtain ⟨M2, hM2⟩ : ∃ M2, mI (sR M 72 L) 75 i (nI (8 * c + w)) = M2 := ⟨_, rfl⟩
        rw [hM2] at hB2 hS2 e75
        have hB3 := goM_rep (w := w) hB2 hw hc
        have hS3 : cS i M0 (goM 65 M2 A c (stp (bP A c) w) (bW A c - cost A c)) := cS_tr hS2 cS_go
        have e75 : (goM 65 M2 A c (stp (bP A c) w) (bW A c - cost A c)).1 75 i = nI (8 * c + w) := by rw [goM_ne (by omega)]; exact e75
        obtain ⟨M4, s1, s2, s3, s4⟩ := hs _ _ (wf_go hw hc hw8 hcan) hB3 (cS_w hS3 hV)
        have hS4 : cS i M0 M4 := cS_tr hS3 (cS_lt (by omega) s2)
        have e75 : M4.1 75 i = nI (8 * c + w) := (s2.2.2 i (by omega)).trans e75
        obtain ⟨b1, b2⟩ := X0_goBack s3 hw hc hw8 hcan
        have hS5 : cS i M0 (goM 65 M4 (bGo A c w) c (bP A c) (bW A c)) := cS_tr hS4 cS_go
        have g75 : ∀ t, (goM 65 M4 (bGo A c w) c (bP A c) (bW A c)).1 75 t = M4.1 75 t := fun t => by rw [goM_ne (by omega)]
        obtain ⟨M5, hM5⟩ : ∃ M5, goM 65 M4 (bGo A c w) c (bP A c) (bW A c) = M5 := ⟨_, rfl⟩
        rw [hM5] at b1 b2 hS5 g75
        have run : ∀ k kf, f_X3_completes_b40 slf kf (k + (d + 1) + 1) (nI i) (nI len) (nI (Eo V A)) (nI c) (nI w) M = if fA (fnd V r (bGo A c w)) = 0 then f_X3_completes_b40 slf kf (k + d + 1) (nI i) (nI len) (nI (Eo V A)) (nI c) (nI (w + 1)) M5 else some (1, M5) := fun k kf => by
          rw [st, if_neg hno, hL, mbw_s, tf_y hcan, if_neg (show ¬ (1 : Int32) = 0 by decide), hM2, X0_go hB2 hw hc hw8 q1 q2, mbp_s, s1, mbw_s, b1, mbp_s]
        cases hf : fnd V r (bGo A c w) with
        | none =>
          refine nx M5 hS5 b2 ?_ (fun k kf => ?_)
          · rw [pV_y hw8 hcan hle, hf]
          · rw [run, hf, if_pos (show fA none = 0 from rfl)]
        | some l =>
          refine Or.inr ⟨M5, (8 * c + w) :: l, hS5, b2, ?_, fun t ht => ?_, fun k kf => ?_⟩
          · rw [show e + (d + 1) = e + d + 1 by omega, frs_y (l := l) (by rw [pV_y hw8 hcan hle, hf])]
          · rw [g75]
            cases t with
            | zero => exact e75
            | succ t =>
              have := s4 l hf t (by omega)
              rw [gtl_s, ← this]
              exact congrArg (M4.1 75) (show i + (t + 1) = i + 1 + t by omega)
          · rw [run, hf, if_neg (show ¬ fA (some l) = 0 from (show ¬ (1 : Int32) = 0 by decide))]
      · refine nx M hS hB (pV_n hw8 (fun q => hle q.2)) (fun k kf => ?_)
        rw [st, if_pos ((nle (by omega) (by omega)).mpr (by omega))]
    · have hp := pV_n (V := V) (r := r) hw8 (fun q : canP A c w ∧ Eo V (bGo A c w) ≤ r => hcan q.1)
      by_cases hx : nI len - nI i ≤ nI (Eo V A) + nI (wv V (bP A c)) - nI (wv V (stp (bP A c) w))
      · exact nx M hS hB hp (fun k kf => by rw [st, if_pos hx])
      · obtain ⟨L, hL⟩ := X0_mayGoE hw hB hc hw8
        have hL : f_X0_mayGo 65 (nI c) (nI w) M = some (tf (canP A c w), sR M 72 L) := hL
        exact nx (sR M 72 L) (cS_tr hS cS_72) (repB_s7 (b := 65) hB) hp (fun k kf => by rw [st, if_neg hx, hL, mbw_s, tf_n hcan, if_pos (show (0 : Int32) = 0 from rfl)])
theorem cp_out {slf : Int32 → Int32 → Int32 → mM → Option (Int32 × mM)} {V : Nat → Bool} {A : Bd} {M0 : mM} {i len r : Nat} (hw : wf A) (hi : i + (r + 1) = len) (h4 : len ≤ 4) (hV : wants M0 V) (hs : slfOK slf V (i + 1) len r) (d : Nat) : ∀ c M, c + d = min 8 (bN A) → cS i M0 M → repB 65 M A → ∃ M', (∀ k, f_X3_completes_b18 slf (k + d + 1) (nI i) (nI len) (nI (Eo V A)) (nI c) M = some (fA (frs (pV V r A) (8 * d) (8 * c)), M')) ∧ cS i M0 M' ∧ repB 65 M' A ∧ ∀ l, frs (pV V r A) (8 * d) (8 * c) = some l → ∀ t, t < r + 1 → M'.1 75 (i + t) = nI (gtl l t) := by
  have hn := hw.1
  induction d with
  | zero =>
    intro c M hd hS hB
    refine ⟨M, fun k => ?_, hS, hB, fun l h => ?_⟩
    · show f_X3_completes_b18 slf (k + 0 + 1) (nI i) (nI len) (nI (Eo V A)) (nI c) M = some (0, M)
      rw [f_X3_completes_b18]
      by_cases h8 : 8 ≤ c
      · rw [if_pos ((lle (m := 8) (by decide) (by omega)).mpr h8)]
      · rw [if_neg (fun q => h8 ((lle (m := 8) (by decide) (by omega)).mp q)), hB.1, if_pos ((nle (by omega) (by omega)).mpr (by omega))]
    · have h : (none : Option (List Nat)) = some l := h
      exact absurd h.symm (Option.some_ne_none _)
  | succ d ih =>
    intro c M hd hS hB
    obtain ⟨m, hm⟩ := mN_ge (k := 9) (by omega)
    have hm : mN = m + 8 + 1 := by omega
    have st : ∀ k, f_X3_completes_b18 slf (k + (d + 1) + 1) (nI i) (nI len) (nI (Eo V A)) (nI c) M = f_X3_completes_b40 slf (f_X3_completes_b18 slf (k + d + 1)) (m + 8 + 1) (nI i) (nI len) (nI (Eo V A)) (nI c) (nI 0) M := fun k => by
      show f_X3_completes_b18 slf (k + d + 1 + 1) (nI i) (nI len) (nI (Eo V A)) (nI c) M = _
      rw [f_X3_completes_b18, if_neg (fun q => by have : 8 ≤ _ := (lle (m := 8) (by decide) (by omega)).mp q; omega), hB.1, if_neg (fun q => by have := (nle (by omega) (by omega)).mp q; omega), hm] <;> rfl
    have e8 : 8 * (d + 1) = 8 * d + 8 := by omega
    rw [e8]
    rcases cp_in (c := c) (e := 8 * d) hw (by omega) hi h4 hV hs 8 0 M rfl hS hB with ⟨M1, a1, a2, a3, a4⟩ | ⟨M1, l, a1, a2, a3, a4, a5⟩
    · have a3 : frs (pV V r A) (8 * d + 8) (8 * c) = frs (pV V r A) (8 * d) (8 * (c + 1)) := a3
      obtain ⟨M', b1, b2, b3, b4⟩ := ih (c + 1) M1 (by omega) a1 a2
      refine ⟨M', fun k => ?_, b2, b3, ?_⟩
      · rw [st, a4, b1, a3]
      · rw [a3]; exact b4
    · have a3 : frs (pV V r A) (8 * d + 8) (8 * c) = some l := a3
      refine ⟨M1, fun k => ?_, a1, a2, fun l' h => ?_⟩
      · rw [st, a5, a3] <;> rfl
      · rw [a3] at h
        obtain rfl := Option.some.inj h
        exact a4
theorem cp_0 {slf : Int32 → Int32 → Int32 → mM → Option (Int32 × mM)} {V : Nat → Bool} {A : Bd} {M : mM} {i : Nat} (hw : wf A) (hi : i ≤ 4) : f_X3_completes slf (nI i) (nI i) (nI (Eo V A)) M = some (fA (fnd V 0 A), M) := by
  have hE := Eo_le (V := V) hw
  unfold f_X3_completes
  rw [if_neg (fun q => by have := (nlt (by omega) (by omega)).mp q; omega), fnd]
  by_cases e : Eo V A = 0
  · rw [if_pos e, if_pos (show nI (Eo V A) = 0 from congrArg nI e)] <;> rfl
  · rw [if_neg e, if_neg (fun q => e ((eqL (m := 0) (by decide) (by omega)).mp q))] <;> rfl
theorem cp_D {V : Nat → Bool} (d : Nat) : ∀ r i len A M, i + r = len → len ≤ 4 → r ≤ d → wf A → repB 65 M A → wants M V → ∃ M', f_X3_completesD (d + 1) (nI i) (nI len) (nI (Eo V A)) M = some (fA (fnd V r A), M') ∧ cS i M M' ∧ repB 65 M' A ∧ ∀ l, fnd V r A = some l → ∀ t, t < r → M'.1 75 (i + t) = nI (gtl l t) := by
  induction d with
  | zero =>
    intro r i len A M hi h4 hr hw hB hV
    obtain rfl : r = 0 := by omega
    obtain rfl : i = len := by omega
    exact ⟨M, cp_0 hw h4, cS_rf, hB, fun l _ t ht => absurd ht (Nat.not_lt_zero t)⟩
  | succ d ih =>
    intro r i len A M hi h4 hr hw hB hV
    cases r with
    | zero =>
      obtain rfl : i = len := by omega
      exact ⟨M, cp_0 hw h4, cS_rf, hB, fun l _ t ht => absurd ht (Nat.not_lt_zero t)⟩
    | succ r =>
      have hs : slfOK (f_X3_completesD (d + 1)) V (i + 1) len r := fun B M1 h1 h2 h3 => ih r (i + 1) len B M1 (by omega) h4 (by omega) h1 h2 h3
      obtain ⟨M', a1, a2, a3, a4⟩ := cp_out hw hi h4 hV hs (min 8 (bN A)) 0 M (Nat.zero_add _) cS_rf hB
      obtain ⟨m, hm⟩ := mN_ge (k := min 8 (bN A) + 1) (by omega)
      have hm : mN = m + min 8 (bN A) + 1 := by omega
      have a1 := a1 m
      rw [← hm] at a1
      rw [fnd_s]
      refine ⟨M', ?_, a2, a3, a4⟩
      show f_X3_completes (f_X3_completesD (d + 1)) (nI i) (nI len) (nI (Eo V A)) M = _
      unfold f_X3_completes
      rw [if_pos ((nlt (by omega) (by omega)).mpr (by omega))]
      exact a1
