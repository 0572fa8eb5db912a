/-! printed by wip/gen/main.py -/
def f_X0_has (b : Nat) (i1 : Int32) (M : mM) : Int32 :=
  if i1 < 0 then (0)
  else (if (M.1 b 0) ≤ i1 then (0)
  else (1))
set_option maxRecDepth 100000 in
set_option maxHeartbeats 4000000 in
theorem w_X0_has {l : Launch} {X : mX} {p : Program} {e : Env} {s : State} {m : MethodId} {args : Array Value} {below : List Frame} {meth : Method} {c : Code} {M : mM} {r : Int32} (hs : mS X RX0 cX0_has 2 (some .boolean) p s m meth c) : ∀ (b : Nat) (i1 : Int32) (h_b : isBody b), f_X0_has b i1 M = r → mG X p l e (rmF 0 0) s m args below meth c (MQ below (mQi X M r) args s 0 0 (mL X)) 2 0 [(0, .ref (X.1 b)), (1, .int i1)] [] M := by
  obtain ⟨hx, hb, hml, hown, hF, hlk, hr⟩ := id hs
  intro b i1 h_b h H locs ls hR hS hl
  refine lv_iload_n hx hb dX0_has_0 rfl (lv_at hl 1 rfl) ?_
  refine lv_if_lt (tgt := 16) hx hb dX0_has_1 (by decide) (fun c1 => ?_) (fun c1 => ?_)
  · have h := mif_y h c1
    refine lv_iconst (v := 0) hx hb dX0_has_16 (by decide) ?_
    exact m_zr hx hb hlk hr hR hS (Or.inl rfl) (congrArg (fun z => (z, M)) h.symm) dX0_has_17
  · have h := mif_n h c1
    refine lv_iload_n hx hb dX0_has_4 rfl (lv_at hl 1 rfl) ?_
    refine lv_aload_n hx hb dX0_has_5 rfl (lv_at hl 0 rfl) ?_
    refine m_g0_0 hx hb hF hown hR (kBody0 h_b) mw_1_46 dX0_has_6 ?_
    refine lv_icmp_ge (tgt := 16) hx hb dX0_has_9 (by decide) (fun c9 => ?_) (fun c9 => ?_)
    · have h := mif_y h c9
      refine lv_iconst (v := 0) hx hb dX0_has_16 (by decide) ?_
      exact m_zr hx hb hlk hr hR hS (Or.inl rfl) (congrArg (fun z => (z, M)) h.symm) dX0_has_17
    · have h := mif_n h c9
      refine lv_iconst (v := 1) hx hb dX0_has_12 (by decide) ?_
      refine lv_goto (tgt := 17) hx hb dX0_has_13 (by decide) ?_
      exact m_zr hx hb hlk hr hR hS (Or.inr rfl) (congrArg (fun z => (z, M)) h.symm) dX0_has_17
theorem c_X0_has (l : Launch) (X : mX) (b : Nat) (i1 : Int32) (h_b : isBody b) (M : mM) : mMi l yX0_has cX0_has 2 (some .boolean) 0 0 X [.ref (X.1 b), .int i1] M (f_X0_has b i1 M, M) := m_ofi (by decide +kernel) (Nat.le_of_ble_eq_true rfl) rfl (fun p e s m args below meth c hs => w_X0_has hs b i1 h_b rfl)
def f_X0_inCell (b : Nat) (i1 : Int32) (M : mM) : Option Int32 :=
  if i1 < 0 then (some (-2))
  else (if 120 ≤ i1 then (some (-2))
  else (mgd (mIn i1 120) <|
  some (M.1 (b + 6) (Int32.toNatClampNeg i1))))
set_option maxRecDepth 100000 in
set_option maxHeartbeats 4000000 in
theorem w_X0_inCell {l : Launch} {X : mX} {p : Program} {e : Env} {s : State} {m : MethodId} {args : Array Value} {below : List Frame} {meth : Method} {c : Code} {M : mM} {r : Int32} (hs : mS X RX0 cX0_inCell 2 (some .int) p s m meth c) : ∀ (b : Nat) (i1 : Int32) (h_b : isBody b), f_X0_inCell b i1 M = some r → mG X p l e (rmF 0 0) s m args below meth c (MQ below (mQi X M r) args s 0 0 (mL X)) 2 0 [(0, .ref (X.1 b)), (1, .int i1)] [] M := by
  obtain ⟨hx, hb, hml, hown, hF, hlk, hr⟩ := id hs
  intro b i1 h_b h H locs ls hR hS hl
  refine lv_iload_n hx hb dX0_inCell_0 rfl (lv_at hl 1 rfl) ?_
  refine lv_if_lt (tgt := 19) hx hb dX0_inCell_1 (by decide) (fun c1 => ?_) (fun c1 => ?_)
  · have h := mif_y h c1
    refine lv_bipush (v := (-2)) hx hb dX0_inCell_19 (by decide) ?_
    exact m_ir hx hb hlk hr hR hS (congrArg (fun z => (z, M)) (Option.some.inj h).symm) dX0_inCell_21
  · have h := mif_n h c1
    refine lv_iload_n hx hb dX0_inCell_4 rfl (lv_at hl 1 rfl) ?_
    refine lv_bipush (v := 120) hx hb dX0_inCell_5 (by decide) ?_
    refine lv_icmp_ge (tgt := 19) hx hb dX0_inCell_7 (by decide) (fun c7 => ?_) (fun c7 => ?_)
    · have h := mif_y h c7
      refine lv_bipush (v := (-2)) hx hb dX0_inCell_19 (by decide) ?_
      exact m_ir hx hb hlk hr hR hS (congrArg (fun z => (z, M)) (Option.some.inj h).symm) dX0_inCell_21
    · have h := mif_n h c7
      refine lv_aload_n hx hb dX0_inCell_10 rfl (lv_at hl 0 rfl) ?_
      refine m_g0_6 hx hb hF hown hR (kBody0 h_b) mw_1_71 dX0_inCell_11 ?_
      refine lv_iload_n hx hb dX0_inCell_14 rfl (lv_at hl 1 rfl) ?_
      obtain ⟨g15, h⟩ := mgd_e h
      refine m_ialdL hx hb hR (kBody6 h_b) g15 (jn := (Int32.toNatClampNeg i1)) rfl dX0_inCell_15 ?_
      refine lv_goto (tgt := 21) hx hb dX0_inCell_16 (by decide) ?_
      exact m_ir hx hb hlk hr hR hS (congrArg (fun z => (z, M)) (Option.some.inj h).symm) dX0_inCell_21
theorem c_X0_inCell (l : Launch) (X : mX) (b : Nat) (i1 : Int32) (h_b : isBody b) (M : mM) {r : Int32} (h : f_X0_inCell b i1 M = some r) : mMi l yX0_inCell cX0_inCell 2 (some .int) 0 0 X [.ref (X.1 b), .int i1] M (r, M) := m_ofi (by decide +kernel) (Nat.le_of_ble_eq_true rfl) rfl (fun p e s m args below meth c hs => w_X0_inCell hs b i1 h_b h)
def f_X0_isMove (b : Nat) (i1 : Int32) (M : mM) : Int32 :=
  if i1 < 0 then (0)
  else (if (f_X0_has b (i1 / 8) M) = 0 then (0)
  else (1))
set_option maxRecDepth 100000 in
set_option maxHeartbeats 4000000 in
theorem w_X0_isMove {l : Launch} {X : mX} {p : Program} {e : Env} {s : State} {m : MethodId} {args : Array Value} {below : List Frame} {meth : Method} {c : Code} {M : mM} {r : Int32} (hs : mS X RX0 cX0_isMove 2 (some .boolean) p s m meth c) : ∀ (b : Nat) (i1 : Int32) (h_b : isBody b), f_X0_isMove b i1 M = r → mG X p l e (rmF 1 21) s m args below meth c (MQ below (mQi X M r) args s 0 0 (mL X)) 2 0 [(0, .ref (X.1 b)), (1, .int i1)] [] M := by
  obtain ⟨hx, hb, hml, hown, hF, hlk, hr⟩ := id hs
  intro b i1 h_b h H locs ls hR hS hl
  refine lv_iload_n hx hb dX0_isMove_0 rfl (lv_at hl 1 rfl) ?_
  refine lv_if_lt (tgt := 19) hx hb dX0_isMove_1 (by decide) (fun c1 => ?_) (fun c1 => ?_)
  · have h := mif_y h c1
    refine lv_iconst (v := 0) hx hb dX0_isMove_19 (by decide) ?_
    exact m_zr hx hb hlk hr hR hS (Or.inl rfl) (congrArg (fun z => (z, M)) h.symm) dX0_isMove_20
  · have h := mif_n h c1
    refine lv_aload_n hx hb dX0_isMove_4 rfl (lv_at hl 0 rfl) ?_
    refine lv_iload_n hx hb dX0_isMove_5 rfl (lv_at hl 1 rfl) ?_
    refine lv_bipush (v := 8) hx hb dX0_isMove_6 (by decide) ?_
    refine lv_idiv hx hb dX0_isMove_8 (by decide) ?_
    refine m_ci (m_rV hx hb hml hown hF hR hS (ent0 (kBody0 h_b)) (kBody0 h_b) rfl (c_X0_has l X b (i1 / 8) h_b M) q_X0_54_V hdV_X0_has ⟨Nat.le_of_ble_eq_true rfl, Nat.le_of_ble_eq_true rfl⟩ rfl hl.1 rfl (Nat.le_of_ble_eq_true rfl) dX0_isMove_9) hS (fun H locs hR hS => ?_)
    refine lv_if_eq (tgt := 19) hx hb dX0_isMove_12 (by decide) (fun c12 => ?_) (fun c12 => ?_)
    · have h := mif_y h c12
      refine lv_iconst (v := 0) hx hb dX0_isMove_19 (by decide) ?_
      exact m_zr hx hb hlk hr hR hS (Or.inl rfl) (congrArg (fun z => (z, M)) h.symm) dX0_isMove_20
    · have h := mif_n h c12
      refine lv_iconst (v := 1) hx hb dX0_isMove_15 (by decide) ?_
      refine lv_goto (tgt := 20) hx hb dX0_isMove_16 (by decide) ?_
      exact m_zr hx hb hlk hr hR hS (Or.inr rfl) (congrArg (fun z => (z, M)) h.symm) dX0_isMove_20
theorem c_X0_isMove (l : Launch) (X : mX) (b : Nat) (i1 : Int32) (h_b : isBody b) (M : mM) : mMi l yX0_isMove cX0_isMove 2 (some .boolean) 1 21 X [.ref (X.1 b), .int i1] M (f_X0_isMove b i1 M, M) := m_ofi (by decide +kernel) (Nat.le_of_ble_eq_true rfl) rfl (fun p e s m args below meth c hs => w_X0_isMove hs b i1 h_b rfl)
def f_X9_levelOf (i0 : Int32) : Int32 :=
  ((i0 / 12) - 1)
set_option maxRecDepth 100000 in
set_option maxHeartbeats 4000000 in
theorem w_X9_levelOf {l : Launch} {X : mX} {p : Program} {e : Env} {s : State} {m : MethodId} {args : Array Value} {below : List Frame} {meth : Method} {c : Code} {M : mM} {r : Int32} (hs : mS X RX9 cX9_levelOf 1 (some .int) p s m meth c) : ∀ (i0 : Int32), f_X9_levelOf i0 = r → mG X p l e (rmF 0 0) s m args below meth c (MQ below (mQi X M r) args s 0 0 (mL X)) 1 0 [(0, .int i0)] [] M := by
  obtain ⟨hx, hb, hml, hown, hF, hlk, hr⟩ := id hs
  intro i0 h H locs ls hR hS hl
  refine lv_iload_n hx hb dX9_levelOf_0 rfl (lv_at hl 0 rfl) ?_
  refine lv_bipush (v := 12) hx hb dX9_levelOf_1 (by decide) ?_
  refine lv_idiv hx hb dX9_levelOf_3 (by decide) ?_
  refine lv_iconst (v := 1) hx hb dX9_levelOf_4 (by decide) ?_
  refine lv_isub hx hb dX9_levelOf_5 ?_
  exact m_ir hx hb hlk hr hR hS (congrArg (fun z => (z, M)) h.symm) dX9_levelOf_6
theorem c_X9_levelOf (l : Launch) (X : mX) (i0 : Int32) (M : mM) : mMi l yX9_levelOf cX9_levelOf 1 (some .int) 0 0 X [.int i0] M (f_X9_levelOf i0, M) := m_ofi (by decide +kernel) (Nat.le_of_ble_eq_true rfl) rfl (fun p e s m args below meth c hs => w_X9_levelOf hs i0 rfl)
def f_X0_holdsOn_b42 : Nat → Nat → Int32 → Int32 → Int32 → mM → Option Int32
  | 0, _, _, _, _, _ => none
  | n + 1, b, i1, i2, i4, M =>
  if 4 ≤ i4 then (some 0)
  else (mgd (mIn i4 8) <|
  mbp (f_X0_inCell b (i1 + (sVal 3 (Int32.toNatClampNeg i4))) M) fun v57 =>
  if v57 < 0 then (mlt (i4 + 1) fun x75 =>
  f_X0_holdsOn_b42 n b i1 i2 x75 M)
  else (if v57 = i2 then (mlt (i4 + 1) fun x75 =>
  f_X0_holdsOn_b42 n b i1 i2 x75 M)
  else (some 1)))
def f_X0_holdsOn_b21 (b : Nat) (i1 : Int32) (i2 : Int32) (s0 : Int32) (M : mM) : Option Int32 :=
  if s0 = 0 then (if (f_X9_levelOf i1) = 0 then (some 1)
  else (some 0))
  else (f_X0_holdsOn_b42 mN b i1 i2 0 M)
def f_X0_holdsOn (b : Nat) (i1 : Int32) (i2 : Int32) (M : mM) : Option Int32 :=
  if (f_X0_has b i2 M) = 0 then (f_X0_holdsOn_b21 b i1 i2 (M.1 b 0) M)
  else (f_X0_holdsOn_b21 b i1 i2 ((M.1 b 0) - 1) M)
set_option maxRecDepth 100000 in
set_option maxHeartbeats 4000000 in
theorem w_X0_holdsOn_b42 {l : Launch} {X : mX} {p : Program} {e : Env} {s : State} {m : MethodId} {args : Array Value} {below : List Frame} {meth : Method} {c : Code} {M : mM} {r : Int32} (hs : mS X RX0 cX0_holdsOn 6 (some .boolean) p s m meth c) : ∀ n : Nat, ∀ (b : Nat) (i1 : Int32) (i2 : Int32) (i4 : Int32) (h_b : isBody b), f_X0_holdsOn_b42 n b i1 i2 i4 M = some r → mG X p l e (rmF 1 21) s m args below meth c (MQ below (mQi X M r) args s 0 0 (mL X)) 6 42 [(0, .ref (X.1 b)), (1, .int i1), (2, .int i2), (4, .int i4)] [] M := by
  obtain ⟨hx, hb, hml, hown, hF, hlk, hr⟩ := id hs
  intro n
  induction n with
  | zero =>
    intro b i1 i2 i4 h_b h
    have h0 : (none : Option (Int32)) = some r := h
    cases h0
  | succ n ih =>
    intro b i1 i2 i4 h_b h H locs ls hR hS hl
    refine lv_iload hx hb dX0_holdsOn_42 (lv_at hl 3 rfl) ?_
    refine lv_iconst (v := 4) hx hb dX0_holdsOn_44 (by decide) ?_
    refine lv_icmp_ge (tgt := 81) hx hb dX0_holdsOn_45 (by decide) (fun c45 => ?_) (fun c45 => ?_)
    · have h := mif_y h c45
      refine lv_iconst (v := 0) hx hb dX0_holdsOn_81 (by decide) ?_
      exact m_zr hx hb hlk hr hR hS (Or.inl rfl) (congrArg (fun z => (z, M)) (Option.some.inj h).symm) dX0_holdsOn_82
    · have h := mif_n h c45
      refine lv_aload_n hx hb dX0_holdsOn_48 rfl (lv_at hl 0 rfl) ?_
      refine lv_iload_n hx hb dX0_holdsOn_49 rfl (lv_at hl 1 rfl) ?_
      refine m_gsN hx hb hF hS hown 3 (by decide) rfl 11 rfl dX0_holdsOn_50 ?_
      refine lv_iload hx hb dX0_holdsOn_53 (lv_at hl 3 rfl) ?_
      obtain ⟨g55, h⟩ := mgd_e h
      refine m_saidL hx hb hF hS 3 (by decide) (N := 8) rfl g55 (jn := (Int32.toNatClampNeg i4)) rfl dX0_holdsOn_55 ?_
      refine lv_iadd hx hb dX0_holdsOn_56 ?_
      obtain ⟨v57, q57, h⟩ := mbp_e h
      refine m_ci (m_rV hx hb hml hown hF hR hS (ent0 (kBody0 h_b)) (kBody0 h_b) rfl (c_X0_inCell l X b (i1 + (sVal 3 (Int32.toNatClampNeg i4))) h_b M q57) q_X0_51_V hdV_X0_inCell ⟨Nat.le_of_ble_eq_true rfl, Nat.le_of_ble_eq_true rfl⟩ rfl hl.1 rfl (Nat.le_of_ble_eq_true rfl) dX0_holdsOn_57) hS (fun H locs hR hS => ?_)
      refine lv_istore (lv' := [(5, .int v57), (0, .ref (X.1 b)), (1, .int i1), (2, .int i2), (4, .int i4)]) hx hb dX0_holdsOn_60 hl (by decide) rfl (fun ls hl => ?_)
      refine lv_iload hx hb dX0_holdsOn_62 (lv_at hl 0 rfl) ?_
      refine lv_if_lt (tgt := 75) hx hb dX0_holdsOn_64 (by decide) (fun c64 => ?_) (fun c64 => ?_)
      · have h := mif_y h c64
        obtain ⟨x75, ex75⟩ : ∃ y : Int32, y = (i4 + 1) := ⟨_, rfl⟩
        have h := mlt_n h x75 ex75
        refine lv_iinc (v := x75) (lv' := [(4, .int x75), (5, .int v57), (0, .ref (X.1 b)), (1, .int i1), (2, .int i2)]) hx hb dX0_holdsOn_75 hl (k := 4) rfl (by rw [ex75]; rfl) (by decide) rfl (fun ls hl => ?_)
        refine lv_goto (tgt := 42) hx hb dX0_holdsOn_78 (by decide) ?_
        exact ih b i1 i2 x75 h_b h H locs ls hR hS (lv_sub hl [2, 3, 4, 0] rfl)
      · have h := mif_n h c64
        refine lv_iload hx hb dX0_holdsOn_67 (lv_at hl 0 rfl) ?_
        refine lv_iload_n hx hb dX0_holdsOn_69 rfl (lv_at hl 3 rfl) ?_
        refine lv_icmp_eq (tgt := 75) hx hb dX0_holdsOn_70 (by decide) (fun c70 => ?_) (fun c70 => ?_)
        · have h := mif_y h c70
          obtain ⟨x75, ex75⟩ : ∃ y : Int32, y = (i4 + 1) := ⟨_, rfl⟩
          have h := mlt_n h x75 ex75
          refine lv_iinc (v := x75) (lv' := [(4, .int x75), (5, .int v57), (0, .ref (X.1 b)), (1, .int i1), (2, .int i2)]) hx hb dX0_holdsOn_75 hl (k := 4) rfl (by rw [ex75]; rfl) (by decide) rfl (fun ls hl => ?_)
          refine lv_goto (tgt := 42) hx hb dX0_holdsOn_78 (by decide) ?_
          exact ih b i1 i2 x75 h_b h H locs ls hR hS (lv_sub hl [2, 3, 4, 0] rfl)
        · have h := mif_n h c70
          refine lv_iconst (v := 1) hx hb dX0_holdsOn_73 (by decide) ?_
          exact m_zr hx hb hlk hr hR hS (Or.inr rfl) (congrArg (fun z => (z, M)) (Option.some.inj h).symm) dX0_holdsOn_74
set_option maxRecDepth 100000 in
set_option maxHeartbeats 4000000 in
theorem w_X0_holdsOn_b21 {l : Launch} {X : mX} {p : Program} {e : Env} {s : State} {m : MethodId} {args : Array Value} {below : List Frame} {meth : Method} {c : Code} {M : mM} {r : Int32} (hs : mS X RX0 cX0_holdsOn 6 (some .boolean) p s m meth c) : ∀ (b : Nat) (i1 : Int32) (i2 : Int32) (s0 : Int32) (h_b : isBody b), f_X0_holdsOn_b21 b i1 i2 s0 M = some r → mG X p l e (rmF 1 21) s m args below meth c (MQ below (mQi X M r) args s 0 0 (mL X)) 6 21 [(0, .ref (X.1 b)), (1, .int i1), (2, .int i2)] [.int s0] M := by
  obtain ⟨hx, hb, hml, hown, hF, hlk, hr⟩ := id hs
  intro b i1 i2 s0 h_b h H locs ls hR hS hl
  refine lv_istore_n (lv' := [(3, .int s0), (0, .ref (X.1 b)), (1, .int i1), (2, .int i2)]) hx hb dX0_holdsOn_21 rfl hl (by decide) rfl (fun ls hl => ?_)
  refine lv_iload_n hx hb dX0_holdsOn_22 rfl (lv_at hl 0 rfl) ?_
  refine lv_if_ne (tgt := 39) hx hb dX0_holdsOn_23 (by decide) (fun c23 => ?_) (fun c23 => ?_)
  · have h := mif_n h c23
    refine lv_iconst (v := 0) hx hb dX0_holdsOn_39 (by decide) ?_
    refine lv_istore (lv' := [(4, .int 0), (3, .int s0), (0, .ref (X.1 b)), (1, .int i1), (2, .int i2)]) hx hb dX0_holdsOn_40 hl (by decide) rfl (fun ls hl => ?_)
    exact w_X0_holdsOn_b42 hs mN b i1 i2 0 h_b h H locs ls hR hS (lv_sub hl [2, 3, 4, 0] rfl)
  · have h := mif_y h c23
    refine lv_iload_n hx hb dX0_holdsOn_26 rfl (lv_at hl 2 rfl) ?_
    refine m_ci (m_rSN hx hb hml hown hF hR hS (c_X9_levelOf l X i1 M) mw_1_45 mw_1_1 mw_1_44 2 rfl hdS_X9_levelOf ⟨Nat.le_of_ble_eq_true rfl, Nat.le_of_ble_eq_true rfl⟩ rfl hl.1 rfl (Nat.le_of_ble_eq_true rfl) dX0_holdsOn_27) hS (fun H locs hR hS => ?_)
    refine lv_if_ne (tgt := 37) hx hb dX0_holdsOn_30 (by decide) (fun c30 => ?_) (fun c30 => ?_)
    · have h := mif_n h c30
      refine lv_iconst (v := 0) hx hb dX0_holdsOn_37 (by decide) ?_
      exact m_zr hx hb hlk hr hR hS (Or.inl rfl) (congrArg (fun z => (z, M)) (Option.some.inj h).symm) dX0_holdsOn_38
    · have h := mif_y h c30
      refine lv_iconst (v := 1) hx hb dX0_holdsOn_33 (by decide) ?_
      refine lv_goto (tgt := 38) hx hb dX0_holdsOn_34 (by decide) ?_
      exact m_zr hx hb hlk hr hR hS (Or.inr rfl) (congrArg (fun z => (z, M)) (Option.some.inj h).symm) dX0_holdsOn_38
set_option maxRecDepth 100000 in
set_option maxHeartbeats 4000000 in
theorem w_X0_holdsOn {l : Launch} {X : mX} {p : Program} {e : Env} {s : State} {m : MethodId} {args : Array Value} {below : List Frame} {meth : Method} {c : Code} {M : mM} {r : Int32} (hs : mS X RX0 cX0_holdsOn 6 (some .boolean) p s m meth c) : ∀ (b : Nat) (i1 : Int32) (i2 : Int32) (h_b : isBody b), f_X0_holdsOn b i1 i2 M = some r → mG X p l e (rmF 1 21) s m args below meth c (MQ below (mQi X M r) args s 0 0 (mL X)) 6 0 [(0, .ref (X.1 b)), (1, .int i1), (2, .int i2)] [] M := by
  obtain ⟨hx, hb, hml, hown, hF, hlk, hr⟩ := id hs
  intro b i1 i2 h_b h H locs ls hR hS hl
  refine lv_aload_n hx hb dX0_holdsOn_0 rfl (lv_at hl 0 rfl) ?_
  refine lv_iload_n hx hb dX0_holdsOn_1 rfl (lv_at hl 2 rfl) ?_
  refine m_ci (m_rV hx hb hml hown hF hR hS (ent0 (kBody0 h_b)) (kBody0 h_b) rfl (c_X0_has l X b i2 h_b M) q_X0_54_V hdV_X0_has ⟨Nat.le_of_ble_eq_true rfl, Nat.le_of_ble_eq_true rfl⟩ rfl hl.1 rfl (Nat.le_of_ble_eq_true rfl) dX0_holdsOn_2) hS (fun H locs hR hS => ?_)
  refine lv_if_eq (tgt := 17) hx hb dX0_holdsOn_5 (by decide) (fun c5 => ?_) (fun c5 => ?_)
  · have h := mif_y h c5
    refine lv_aload_n hx hb dX0_holdsOn_17 rfl (lv_at hl 0 rfl) ?_
    refine m_g0_0 hx hb hF hown hR (kBody0 h_b) mw_1_46 dX0_holdsOn_18 ?_
    exact w_X0_holdsOn_b21 hs b i1 i2 (M.1 b 0) h_b h H locs ls hR hS (lv_sub hl [0, 1, 2] rfl)
  · have h := mif_n h c5
    refine lv_aload_n hx hb dX0_holdsOn_8 rfl (lv_at hl 0 rfl) ?_
    refine m_g0_0 hx hb hF hown hR (kBody0 h_b) mw_1_46 dX0_holdsOn_9 ?_
    refine lv_iconst (v := 1) hx hb dX0_holdsOn_12 (by decide) ?_
    refine lv_isub hx hb dX0_holdsOn_13 ?_
    refine lv_goto (tgt := 21) hx hb dX0_holdsOn_14 (by decide) ?_
    exact w_X0_holdsOn_b21 hs b i1 i2 ((M.1 b 0) - 1) h_b h H locs ls hR hS (lv_sub hl [0, 1, 2] rfl)
theorem c_X0_holdsOn (l : Launch) (X : mX) (b : Nat) (i1 : Int32) (i2 : Int32) (h_b : isBody b) (M : mM) {r : Int32} (h : f_X0_holdsOn b i1 i2 M = some r) : mMi l yX0_holdsOn cX0_holdsOn 6 (some .boolean) 1 21 X [.ref (X.1 b), .int i1, .int i2] M (r, M) := m_ofi (by decide +kernel) (Nat.le_of_ble_eq_true rfl) rfl (fun p e s m args below meth c hs => w_X0_holdsOn hs b i1 i2 h_b h)
def f_X7_look (b : Nat) (M : mM) : Option Int32 :=
  if 0 ≤ (M.1 b 3) then (some (-1000))
  else (if (M.1 b 2) < 0 then (some (-1000))
  else (if (M.1 b 1) ≤ (M.1 b 2) then (some (-1000))
  else (mgd (isRow (M.2.2 b)) <|
  mlt (M.2.2 b) fun t26 =>
  mgd (mIn (M.1 b 2) 90) <|
  some (M.1 t26 (Int32.toNatClampNeg (M.1 b 2))))))
set_option maxRecDepth 100000 in
set_option maxHeartbeats 4000000 in
theorem w_X7_look {l : Launch} {X : mX} {p : Program} {e : Env} {s : State} {m : MethodId} {args : Array Value} {below : List Frame} {meth : Method} {c : Code} {M : mM} {r : Int32} (hs : mS X RX7 cX7_look 1 (some .int) p s m meth c) : ∀ (b : Nat) (h_b : isReader b), f_X7_look b M = some r → mG X p l e (rmF 0 0) s m args below meth c (MQ below (mQi X M r) args s 0 0 (mL X)) 1 0 [(0, .ref (X.1 b))] [] M := by
  obtain ⟨hx, hb, hml, hown, hF, hlk, hr⟩ := id hs
  intro b h_b h H locs ls hR hS hl
  refine lv_aload_n hx hb dX7_look_0 rfl (lv_at hl 0 rfl) ?_
  refine m_getR3 hx hb hF hown hR h_b mw_1_207 dX7_look_1 ?_
  refine lv_if_ge (tgt := 37) hx hb dX7_look_4 (by decide) (fun c4 => ?_) (fun c4 => ?_)
  · have h := mif_y h c4
    refine lv_sipush (v := (-1000)) hx hb dX7_look_37 (by decide) ?_
    exact m_ir hx hb hlk hr hR hS (congrArg (fun z => (z, M)) (Option.some.inj h).symm) dX7_look_40
  · have h := mif_n h c4
    refine lv_aload_n hx hb dX7_look_7 rfl (lv_at hl 0 rfl) ?_
    refine m_getR2 hx hb hF hown hR h_b mw_1_206 dX7_look_8 ?_
    refine lv_if_lt (tgt := 37) hx hb dX7_look_11 (by decide) (fun c11 => ?_) (fun c11 => ?_)
    · have h := mif_y h c11
      refine lv_sipush (v := (-1000)) hx hb dX7_look_37 (by decide) ?_
      exact m_ir hx hb hlk hr hR hS (congrArg (fun z => (z, M)) (Option.some.inj h).symm) dX7_look_40
    · have h := mif_n h c11
      refine lv_aload_n hx hb dX7_look_14 rfl (lv_at hl 0 rfl) ?_
      refine m_getR2 hx hb hF hown hR h_b mw_1_206 dX7_look_15 ?_
      refine lv_aload_n hx hb dX7_look_18 rfl (lv_at hl 0 rfl) ?_
      refine m_getR1 hx hb hF hown hR h_b mw_1_205 dX7_look_19 ?_
      refine lv_icmp_ge (tgt := 37) hx hb dX7_look_22 (by decide) (fun c22 => ?_) (fun c22 => ?_)
      · have h := mif_y h c22
        refine lv_sipush (v := (-1000)) hx hb dX7_look_37 (by decide) ?_
        exact m_ir hx hb hlk hr hR hS (congrArg (fun z => (z, M)) (Option.some.inj h).symm) dX7_look_40
      · have h := mif_n h c22
        refine lv_aload_n hx hb dX7_look_25 rfl (lv_at hl 0 rfl) ?_
        obtain ⟨g26, h⟩ := mgd_e h
        refine m_getRt hx hb hF hown hR h_b g26 mw_1_204 dX7_look_26 ?_
        refine lv_topc (fun t26 et26 => ?_)
        have h := mlt_n h t26 et26
        have h_t26 : isRow t26 := by rw [et26]; exact g26
        refine lv_aload_n hx hb dX7_look_29 rfl (lv_at hl 0 rfl) ?_
        refine m_getR2 hx hb hF hown hR h_b mw_1_206 dX7_look_30 ?_
        obtain ⟨g33, h⟩ := mgd_e h
        refine m_ialdL hx hb hR h_t26 g33 (jn := (Int32.toNatClampNeg (M.1 b 2))) rfl dX7_look_33 ?_
        refine lv_goto (tgt := 40) hx hb dX7_look_34 (by decide) ?_
        exact m_ir hx hb hlk hr hR hS (congrArg (fun z => (z, M)) (Option.some.inj h).symm) dX7_look_40
theorem c_X7_look (l : Launch) (X : mX) (b : Nat) (h_b : isReader b) (M : mM) {r : Int32} (h : f_X7_look b M = some r) : mMi l yX7_look cX7_look 1 (some .int) 0 0 X [.ref (X.1 b)] M (r, M) := m_ofi (by decide +kernel) (Nat.le_of_ble_eq_true rfl) rfl (fun p e s m args below meth c hs => w_X7_look hs b h_b h)
def f_X7_take (b : Nat) (M : mM) : Option (Int32 × mM) :=
  mbp (f_X7_look b M) fun v1 =>
  if v1 = (-1000) then (some (v1, M))
  else (mlt (mI M b 2 ((M.1 b 2) + 1)) fun M19 =>
  some (v1, M19))
set_option maxRecDepth 100000 in
set_option maxHeartbeats 4000000 in
theorem w_X7_take {l : Launch} {X : mX} {p : Program} {e : Env} {s : State} {m : MethodId} {args : Array Value} {below : List Frame} {meth : Method} {c : Code} {r : Int32 × mM} (hs : mS X RX7 cX7_take 2 (some .int) p s m meth c) : ∀ (b : Nat) (h_b : isReader b) (M : mM), f_X7_take b M = some r → mG X p l e (rmF 1 20) s m args below meth c (MQ below (mQi X r.2 r.1) args s 0 0 (mL X)) 2 0 [(0, .ref (X.1 b))] [] M := by
  obtain ⟨hx, hb, hml, hown, hF, hlk, hr⟩ := id hs
  intro b h_b M h H locs ls hR hS hl
  refine lv_aload_n hx hb dX7_take_0 rfl (lv_at hl 0 rfl) ?_
  obtain ⟨v1, q1, h⟩ := mbp_e h
  refine m_ci (m_rU3 hx hb hml hown hF hR hS h_b (c_X7_look l X b h_b M q1) q_X7_28_UX1 q_X7_28_UX4 q_X7_28_UX5 rfl hdU_X7_look ⟨Nat.le_of_ble_eq_true rfl, Nat.le_of_ble_eq_true rfl⟩ rfl hl.1 rfl (Nat.le_of_ble_eq_true rfl) dX7_take_1) hS (fun H locs hR hS => ?_)
  refine lv_istore_n (lv' := [(1, .int v1), (0, .ref (X.1 b))]) hx hb dX7_take_4 rfl hl (by decide) rfl (fun ls hl => ?_)
  refine lv_iload_n hx hb dX7_take_5 rfl (lv_at hl 0 rfl) ?_
  refine lv_sipush (v := (-1000)) hx hb dX7_take_6 (by decide) ?_
  refine lv_icmp_eq (tgt := 22) hx hb dX7_take_9 (by decide) (fun c9 => ?_) (fun c9 => ?_)
  · have h := mif_y h c9
    refine lv_iload_n hx hb dX7_take_22 rfl (lv_at hl 0 rfl) ?_
    exact m_ir hx hb hlk hr hR hS (Option.some.inj h).symm dX7_take_23
  · have h := mif_n h c9
    refine lv_aload_n hx hb dX7_take_12 rfl (lv_at hl 1 rfl) ?_
    refine lv_dup hx hb dX7_take_13 rfl ?_
    refine m_getR2 hx hb hF hown hR h_b mw_1_206 dX7_take_14 ?_
    refine lv_iconst (v := 1) hx hb dX7_take_17 (by decide) ?_
    refine lv_iadd hx hb dX7_take_18 ?_
    obtain ⟨M19, eM19⟩ : ∃ y : mM, y = mI M b 2 ((M.1 b 2) + 1) := ⟨_, rfl⟩
    have h := mlt_n h M19 eM19
    refine m_putR2 hx hb hF hown hR hS h_b mw_1_206 dX7_take_19 eM19 (fun H locs hR hS => ?_)
    refine lv_iload_n hx hb dX7_take_22 rfl (lv_at hl 0 rfl) ?_
    exact m_ir hx hb hlk hr hR hS (Option.some.inj h).symm dX7_take_23
theorem c_X7_take (l : Launch) (X : mX) (b : Nat) (h_b : isReader b) (M : mM) {r : Int32 × mM} (h : f_X7_take b M = some r) : mMi l yX7_take cX7_take 2 (some .int) 1 20 X [.ref (X.1 b)] M r := m_ofi (by decide +kernel) (Nat.le_of_ble_eq_true rfl) rfl (fun p e s m args below meth c hs => w_X7_take hs b h_b M h)
def f_X7_fail (b : Nat) (M : mM) : Option mM :=
  if 0 ≤ (M.1 b 3) then (some M)
  else (mlt (mI M b 3 (M.1 b 2)) fun M12 =>
  some M12)
set_option maxRecDepth 100000 in
set_option maxHeartbeats 4000000 in
theorem w_X7_fail {l : Launch} {X : mX} {p : Program} {e : Env} {s : State} {m : MethodId} {args : Array Value} {below : List Frame} {meth : Method} {c : Code} {r : mM} (hs : mS X RX7 cX7_fail 1 none p s m meth c) : ∀ (b : Nat) (h_b : isReader b) (M : mM), f_X7_fail b M = some r → mG X p l e (rmF 0 0) s m args below meth c (MQ below (mQv X r) args s 0 0 (mL X)) 1 0 [(0, .ref (X.1 b))] [] M := by
  obtain ⟨hx, hb, hml, hown, hF, hlk, hr⟩ := id hs
  intro b h_b M h H locs ls hR hS hl
  refine lv_aload_n hx hb dX7_fail_0 rfl (lv_at hl 0 rfl) ?_
  refine m_getR3 hx hb hF hown hR h_b mw_1_207 dX7_fail_1 ?_
  refine lv_if_ge (tgt := 15) hx hb dX7_fail_4 (by decide) (fun c4 => ?_) (fun c4 => ?_)
  · have h := mif_y h c4
    exact m_vr hx hb hlk hr hR hS (Option.some.inj h).symm dX7_fail_15
  · have h := mif_n h c4
    refine lv_aload_n hx hb dX7_fail_7 rfl (lv_at hl 0 rfl) ?_
    refine lv_aload_n hx hb dX7_fail_8 rfl (lv_at hl 0 rfl) ?_
    refine m_getR2 hx hb hF hown hR h_b mw_1_206 dX7_fail_9 ?_
    obtain ⟨M12, eM12⟩ : ∃ y : mM, y = mI M b 3 (M.1 b 2) := ⟨_, rfl⟩
    have h := mlt_n h M12 eM12
    refine m_putR3 hx hb hF hown hR hS h_b mw_1_207 dX7_fail_12 eM12 (fun H locs hR hS => ?_)
    exact m_vr hx hb hlk hr hR hS (Option.some.inj h).symm dX7_fail_15
theorem c_X7_fail (l : Launch) (X : mX) (b : Nat) (h_b : isReader b) (M : mM) {r : mM} (h : f_X7_fail b M = some r) : mMv l yX7_fail cX7_fail 1 0 0 X [.ref (X.1 b)] M r := m_ofv (by decide +kernel) (Nat.le_of_ble_eq_true rfl) rfl (fun p e s m args below meth c hs => w_X7_fail hs b h_b M h)
def f_X7_takeIf_b13 (b : Nat) (s0 : Int32) (M : mM) : Option (Int32 × mM) :=
  if s0 = 0 then (mgd (s0 = 0 ∨ s0 = 1) <|
  some (s0, M))
  else (mlt (mI M b 2 ((M.1 b 2) + 1)) fun M25 =>
  mgd (s0 = 0 ∨ s0 = 1) <|
  some (s0, M25))
def f_X7_takeIf (b : Nat) (i1 : Int32) (M : mM) : Option (Int32 × mM) :=
  mbp (f_X7_look b M) fun v1 =>
  if v1 = i1 then (f_X7_takeIf_b13 b 1 M)
  else (f_X7_takeIf_b13 b 0 M)
set_option maxRecDepth 100000 in
set_option maxHeartbeats 4000000 in
theorem w_X7_takeIf_b13 {l : Launch} {X : mX} {p : Program} {e : Env} {s : State} {m : MethodId} {args : Array Value} {below : List Frame} {meth : Method} {c : Code} {r : Int32 × mM} (hs : mS X RX7 cX7_takeIf 3 (some .boolean) p s m meth c) : ∀ (b : Nat) (s0 : Int32) (h_b : isReader b) (M : mM), f_X7_takeIf_b13 b s0 M = some r → mG X p l e (rmF 1 20) s m args below meth c (MQ below (mQi X r.2 r.1) args s 0 0 (mL X)) 3 13 [(0, .ref (X.1 b))] [.int s0] M := by
  obtain ⟨hx, hb, hml, hown, hF, hlk, hr⟩ := id hs
  intro b s0 h_b M h H locs ls hR hS hl
  refine lv_istore_n (lv' := [(2, .int s0), (0, .ref (X.1 b))]) hx hb dX7_takeIf_13 rfl hl (by decide) rfl (fun ls hl => ?_)
  refine lv_iload_n hx hb dX7_takeIf_14 rfl (lv_at hl 0 rfl) ?_
  refine lv_if_eq (tgt := 28) hx hb dX7_takeIf_15 (by decide) (fun c15 => ?_) (fun c15 => ?_)
  · have h := mif_y h c15
    refine lv_iload_n hx hb dX7_takeIf_28 rfl (lv_at hl 0 rfl) ?_
    obtain ⟨g29, h⟩ := mgd_e h
    exact m_zr hx hb hlk hr hR hS g29 (Option.some.inj h).symm dX7_takeIf_29
  · have h := mif_n h c15
    refine lv_aload_n hx hb dX7_takeIf_18 rfl (lv_at hl 1 rfl) ?_
    refine lv_dup hx hb dX7_takeIf_19 rfl ?_
    refine m_getR2 hx hb hF hown hR h_b mw_1_206 dX7_takeIf_20 ?_
    refine lv_iconst (v := 1) hx hb dX7_takeIf_23 (by decide) ?_
    refine lv_iadd hx hb dX7_takeIf_24 ?_
    obtain ⟨M25, eM25⟩ : ∃ y : mM, y = mI M b 2 ((M.1 b 2) + 1) := ⟨_, rfl⟩
    have h := mlt_n h M25 eM25
    refine m_putR2 hx hb hF hown hR hS h_b mw_1_206 dX7_takeIf_25 eM25 (fun H locs hR hS => ?_)
    refine lv_iload_n hx hb dX7_takeIf_28 rfl (lv_at hl 0 rfl) ?_
    obtain ⟨g29, h⟩ := mgd_e h
    exact m_zr hx hb hlk hr hR hS g29 (Option.some.inj h).symm dX7_takeIf_29
set_option maxRecDepth 100000 in
set_option maxHeartbeats 4000000 in
theorem w_X7_takeIf {l : Launch} {X : mX} {p : Program} {e : Env} {s : State} {m : MethodId} {args : Array Value} {below : List Frame} {meth : Method} {c : Code} {r : Int32 × mM} (hs : mS X RX7 cX7_takeIf 3 (some .boolean) p s m meth c) : ∀ (b : Nat) (i1 : Int32) (h_b : isReader b) (M : mM), f_X7_takeIf b i1 M = some r → mG X p l e (rmF 1 20) s m args below meth c (MQ below (mQi X r.2 r.1) args s 0 0 (mL X)) 3 0 [(0, .ref (X.1 b)), (1, .int i1)] [] M := by
  obtain ⟨hx, hb, hml, hown, hF, hlk, hr⟩ := id hs
  intro b i1 h_b M h H locs ls hR hS hl
  refine lv_aload_n hx hb dX7_takeIf_0 rfl (lv_at hl 0 rfl) ?_
  obtain ⟨v1, q1, h⟩ := mbp_e h
  refine m_ci (m_rU3 hx hb hml hown hF hR hS h_b (c_X7_look l X b h_b M q1) q_X7_28_UX1 q_X7_28_UX4 q_X7_28_UX5 rfl hdU_X7_look ⟨Nat.le_of_ble_eq_true rfl, Nat.le_of_ble_eq_true rfl⟩ rfl hl.1 rfl (Nat.le_of_ble_eq_true rfl) dX7_takeIf_1) hS (fun H locs hR hS => ?_)
  refine lv_iload_n hx hb dX7_takeIf_4 rfl (lv_at hl 1 rfl) ?_
  refine lv_icmp_ne (tgt := 12) hx hb dX7_takeIf_5 (by decide) (fun c5 => ?_) (fun c5 => ?_)
  · have h := mif_n h c5
    refine lv_iconst (v := 0) hx hb dX7_takeIf_12 (by decide) ?_
    exact w_X7_takeIf_b13 hs b 0 h_b M h H locs ls hR hS (lv_sub hl [0] rfl)
  · have h := mif_y h c5
    refine lv_iconst (v := 1) hx hb dX7_takeIf_8 (by decide) ?_
    refine lv_goto (tgt := 13) hx hb dX7_takeIf_9 (by decide) ?_
    exact w_X7_takeIf_b13 hs b 1 h_b M h H locs ls hR hS (lv_sub hl [0] rfl)
theorem c_X7_takeIf (l : Launch) (X : mX) (b : Nat) (i1 : Int32) (h_b : isReader b) (M : mM) {r : Int32 × mM} (h : f_X7_takeIf b i1 M = some r) : mMi l yX7_takeIf cX7_takeIf 3 (some .boolean) 1 20 X [.ref (X.1 b), .int i1] M r := m_ofi (by decide +kernel) (Nat.le_of_ble_eq_true rfl) rfl (fun p e s m args below meth c hs => w_X7_takeIf hs b i1 h_b M h)
def f_X7_open_b18 (b : Nat) (q1 : Nat) (s1 : Int32) (M : mM) : Option mM :=
  mlt (mI M b 1 s1) fun M18 =>
  mlt (mI M18 b 2 0) fun M23 =>
  mlt (mI M23 b 3 (-1)) fun M28 =>
  some M28
def f_X7_open (b : Nat) (q1 : Nat) (i2 : Int32) (M : mM) : Option mM :=
  mlt (mT M b q1) fun M2 =>
  if 90 ≤ i2 then (f_X7_open_b18 b q1 90 M2)
  else (f_X7_open_b18 b q1 i2 M2)
set_option maxRecDepth 100000 in
set_option maxHeartbeats 4000000 in
theorem w_X7_open_b18 {l : Launch} {X : mX} {p : Program} {e : Env} {s : State} {m : MethodId} {args : Array Value} {below : List Frame} {meth : Method} {c : Code} {r : mM} (hs : mS X RX7 cX7_open 3 none p s m meth c) : ∀ (b : Nat) (q1 : Nat) (s1 : Int32) (h_b : isReader b) (h_q1 : isRow q1) (M : mM), f_X7_open_b18 b q1 s1 M = some r → mG X p l e (rmF 0 0) s m args below meth c (MQ below (mQv X r) args s 0 0 (mL X)) 3 18 [(0, .ref (X.1 b))] [.int s1, .ref (X.1 b)] M := by
  obtain ⟨hx, hb, hml, hown, hF, hlk, hr⟩ := id hs
  intro b q1 s1 h_b h_q1 M h H locs ls hR hS hl
  obtain ⟨M18, eM18⟩ : ∃ y : mM, y = mI M b 1 s1 := ⟨_, rfl⟩
  have h := mlt_n h M18 eM18
  refine m_putR1 hx hb hF hown hR hS h_b mw_1_205 dX7_open_18 eM18 (fun H locs hR hS => ?_)
  refine lv_aload_n hx hb dX7_open_21 rfl (lv_at hl 0 rfl) ?_
  refine lv_iconst (v := 0) hx hb dX7_open_22 (by decide) ?_
  obtain ⟨M23, eM23⟩ : ∃ y : mM, y = mI M18 b 2 0 := ⟨_, rfl⟩
  have h := mlt_n h M23 eM23
  refine m_putR2 hx hb hF hown hR hS h_b mw_1_206 dX7_open_23 eM23 (fun H locs hR hS => ?_)
  refine lv_aload_n hx hb dX7_open_26 rfl (lv_at hl 0 rfl) ?_
  refine lv_iconst (v := (-1)) hx hb dX7_open_27 (by decide) ?_
  obtain ⟨M28, eM28⟩ : ∃ y : mM, y = mI M23 b 3 (-1) := ⟨_, rfl⟩
  have h := mlt_n h M28 eM28
  refine m_putR3 hx hb hF hown hR hS h_b mw_1_207 dX7_open_28 eM28 (fun H locs hR hS => ?_)
  exact m_vr hx hb hlk hr hR hS (Option.some.inj h).symm dX7_open_31
set_option maxRecDepth 100000 in
set_option maxHeartbeats 4000000 in
theorem w_X7_open {l : Launch} {X : mX} {p : Program} {e : Env} {s : State} {m : MethodId} {args : Array Value} {below : List Frame} {meth : Method} {c : Code} {r : mM} (hs : mS X RX7 cX7_open 3 none p s m meth c) : ∀ (b : Nat) (q1 : Nat) (i2 : Int32) (h_b : isReader b) (h_q1 : isRow q1) (M : mM), f_X7_open b q1 i2 M = some r → mG X p l e (rmF 0 0) s m args below meth c (MQ below (mQv X r) args s 0 0 (mL X)) 3 0 [(0, .ref (X.1 b)), (1, .ref (X.1 q1)), (2, .int i2)] [] M := by
  obtain ⟨hx, hb, hml, hown, hF, hlk, hr⟩ := id hs
  intro b q1 i2 h_b h_q1 M h H locs ls hR hS hl
  refine lv_aload_n hx hb dX7_open_0 rfl (lv_at hl 0 rfl) ?_
  refine lv_aload_n hx hb dX7_open_1 rfl (lv_at hl 1 rfl) ?_
  obtain ⟨M2, eM2⟩ : ∃ y : mM, y = mT M b q1 := ⟨_, rfl⟩
  have h := mlt_n h M2 eM2
  refine m_putRt hx hb hF hown hR hS h_b h_q1 mw_1_204 dX7_open_2 eM2 (fun H locs hR hS => ?_)
  refine lv_aload_n hx hb dX7_open_5 rfl (lv_at hl 0 rfl) ?_
  refine lv_iload_n hx hb dX7_open_6 rfl (lv_at hl 2 rfl) ?_
  refine lv_aload_n hx hb dX7_open_7 rfl (lv_at hl 1 rfl) ?_
  refine m_alen hx hb hR h_q1 (v := 90) (by decide) dX7_open_8 ?_
  refine lv_icmp_ge (tgt := 16) hx hb dX7_open_9 (by decide) (fun c9 => ?_) (fun c9 => ?_)
  · have h := mif_y h c9
    refine lv_aload_n hx hb dX7_open_16 rfl (lv_at hl 1 rfl) ?_
    refine m_alen hx hb hR h_q1 (v := 90) (by decide) dX7_open_17 ?_
    exact w_X7_open_b18 hs b q1 90 h_b h_q1 M2 h H locs ls hR hS (lv_sub hl [0] rfl)
  · have h := mif_n h c9
    refine lv_iload_n hx hb dX7_open_12 rfl (lv_at hl 2 rfl) ?_
    refine lv_goto (tgt := 18) hx hb dX7_open_13 (by decide) ?_
    exact w_X7_open_b18 hs b q1 i2 h_b h_q1 M2 h H locs ls hR hS (lv_sub hl [0] rfl)
theorem c_X7_open (l : Launch) (X : mX) (b : Nat) (q1 : Nat) (i2 : Int32) (h_b : isReader b) (h_q1 : isRow q1) (M : mM) {r : mM} (h : f_X7_open b q1 i2 M = some r) : mMv l yX7_open cX7_open 3 0 0 X [.ref (X.1 b), .ref (X.1 q1), .int i2] M r := m_ofv (by decide +kernel) (Nat.le_of_ble_eq_true rfl) rfl (fun p e s m args below meth c hs => w_X7_open hs b q1 i2 h_b h_q1 M h)
def f_X2_copyFrom (b : Nat) (q1 : Nat) (M : mM) : Option mM :=
  mlt (mI M b 0 (M.1 q1 0)) fun M5 =>
  mlt (mC M5 (q1 + 1) (b + 1) 0 0 40) fun M20 =>
  mlt (mC M20 (q1 + 2) (b + 2) 0 0 40) fun M35 =>
  mgd (∀ i, i < 40 → M35.1 (q1 + 3) (0 + i) = 0 ∨ M35.1 (q1 + 3) (0 + i) = 1) <|
  mlt (mC M35 (q1 + 3) (b + 3) 0 0 40) fun M50 =>
  some M50
set_option maxRecDepth 100000 in
set_option maxHeartbeats 4000000 in
theorem w_X2_copyFrom {l : Launch} {X : mX} {p : Program} {e : Env} {s : State} {m : MethodId} {args : Array Value} {below : List Frame} {meth : Method} {c : Code} {r : mM} (hs : mS X RX2 cX2_copyFrom 2 none p s m meth c) : ∀ (b : Nat) (q1 : Nat) (h_b : isNotes b) (h_q1 : isNotes q1) (M : mM), f_X2_copyFrom b q1 M = some r → mG X p l e (rmF 1 300) s m args below meth c (MQ below (mQv X r) args s 0 0 (mL X)) 2 0 [(0, .ref (X.1 b)), (1, .ref (X.1 q1))] [] M := by
  obtain ⟨hx, hb, hml, hown, hF, hlk, hr⟩ := id hs
  intro b q1 h_b h_q1 M h H locs ls hR hS hl
  refine lv_aload_n hx hb dX2_copyFrom_0 rfl (lv_at hl 0 rfl) ?_
  refine lv_aload_n hx hb dX2_copyFrom_1 rfl (lv_at hl 1 rfl) ?_
  refine m_g2_0 hx hb hF hown hR (kNotes0 h_q1) mw_1_100 dX2_copyFrom_2 ?_
  obtain ⟨M5, eM5⟩ : ∃ y : mM, y = mI M b 0 (M.1 q1 0) := ⟨_, rfl⟩
  have h := mlt_n h M5 eM5
  refine m_p2_0 hx hb hF hown hR hS (kNotes0 h_b) mw_1_100 dX2_copyFrom_5 eM5 (fun H locs hR hS => ?_)
  refine lv_aload_n hx hb dX2_copyFrom_8 rfl (lv_at hl 1 rfl) ?_
  refine m_g2_1 hx hb hF hown hR (kNotes0 h_q1) mw_1_103 dX2_copyFrom_9 ?_
  refine lv_iconst (v := 0) hx hb dX2_copyFrom_12 (by decide) ?_
  refine lv_aload_n hx hb dX2_copyFrom_13 rfl (lv_at hl 0 rfl) ?_
  refine m_g2_1 hx hb hF hown hR (kNotes0 h_b) mw_1_103 dX2_copyFrom_14 ?_
  refine lv_iconst (v := 0) hx hb dX2_copyFrom_17 (by decide) ?_
  refine lv_bipush (v := 40) hx hb dX2_copyFrom_18 (by decide) ?_
  obtain ⟨M20, eM20⟩ : ∃ y : mM, y = mC M5 (q1 + 1) (b + 1) 0 0 40 := ⟨_, rfl⟩
  have h := mlt_n h M20 eM20
  refine m_cpiL hx hb (hml.trans hl.1.symm) hown hF mw_4_176 mw_3_226 mw_3_225 mw_1_13 hR hS (kNotes1 h_q1) (kNotes1 h_b) (by decide) (by decide) (by decide) (by decide) (by decide) (by decide) (by decide) (by decide) (Nat.le_of_ble_eq_true rfl) (by decide +kernel) dX2_copyFrom_20 eM20 (fun H locs hR hS => ?_)
  refine lv_aload_n hx hb dX2_copyFrom_23 rfl (lv_at hl 1 rfl) ?_
  refine m_g2_2 hx hb hF hown hR (kNotes0 h_q1) mw_1_104 dX2_copyFrom_24 ?_
  refine lv_iconst (v := 0) hx hb dX2_copyFrom_27 (by decide) ?_
  refine lv_aload_n hx hb dX2_copyFrom_28 rfl (lv_at hl 0 rfl) ?_
  refine m_g2_2 hx hb hF hown hR (kNotes0 h_b) mw_1_104 dX2_copyFrom_29 ?_
  refine lv_iconst (v := 0) hx hb dX2_copyFrom_32 (by decide) ?_
  refine lv_bipush (v := 40) hx hb dX2_copyFrom_33 (by decide) ?_
  obtain ⟨M35, eM35⟩ : ∃ y : mM, y = mC M20 (q1 + 2) (b + 2) 0 0 40 := ⟨_, rfl⟩
  have h := mlt_n h M35 eM35
  refine m_cpiL hx hb (hml.trans hl.1.symm) hown hF mw_4_176 mw_3_226 mw_3_225 mw_1_13 hR hS (kNotes2 h_q1) (kNotes2 h_b) (by decide) (by decide) (by decide) (by decide) (by decide) (by decide) (by decide) (by decide) (Nat.le_of_ble_eq_true rfl) (by decide +kernel) dX2_copyFrom_35 eM35 (fun H locs hR hS => ?_)
  refine lv_aload_n hx hb dX2_copyFrom_38 rfl (lv_at hl 1 rfl) ?_
  refine m_g2_3 hx hb hF hown hR (kNotes0 h_q1) mw_1_105 dX2_copyFrom_39 ?_
  refine lv_iconst (v := 0) hx hb dX2_copyFrom_42 (by decide) ?_
  refine lv_aload_n hx hb dX2_copyFrom_43 rfl (lv_at hl 0 rfl) ?_
  refine m_g2_3 hx hb hF hown hR (kNotes0 h_b) mw_1_105 dX2_copyFrom_44 ?_
  refine lv_iconst (v := 0) hx hb dX2_copyFrom_47 (by decide) ?_
  refine lv_bipush (v := 40) hx hb dX2_copyFrom_48 (by decide) ?_
  obtain ⟨z50, h⟩ := mgd_e h
  obtain ⟨M50, eM50⟩ : ∃ y : mM, y = mC M35 (q1 + 3) (b + 3) 0 0 40 := ⟨_, rfl⟩
  have h := mlt_n h M50 eM50
  refine m_cpzL hx hb (hml.trans hl.1.symm) hown hF mw_4_176 mw_3_226 mw_3_225 mw_1_13 hR hS (kNotes3 h_q1) (kNotes3 h_b) (by decide) (by decide) (by decide) (by decide) (by decide) (by decide) (by decide) (by decide) z50 (Nat.le_of_ble_eq_true rfl) (by decide +kernel) dX2_copyFrom_50 eM50 (fun H locs hR hS => ?_)
  exact m_vr hx hb hlk hr hR hS (Option.some.inj h).symm dX2_copyFrom_53
theorem c_X2_copyFrom (l : Launch) (X : mX) (b : Nat) (q1 : Nat) (h_b : isNotes b) (h_q1 : isNotes q1) (M : mM) {r : mM} (h : f_X2_copyFrom b q1 M = some r) : mMv l yX2_copyFrom cX2_copyFrom 2 1 300 X [.ref (X.1 b), .ref (X.1 q1)] M r := m_ofv (by decide +kernel) (Nat.le_of_ble_eq_true rfl) rfl (fun p e s m args below meth c hs => w_X2_copyFrom hs b q1 h_b h_q1 M h)
def f_X0_othersAreWhole_b175 (b : Nat) (i2 : Int32) (i5 : Int32) (i6 : Int32) (M : mM) : Option (Int32 × mM) :=
  if i6 = 0 then (some (0, M))
  else (if i5 = i2 then (some (1, M))
  else (some (0, M)))
def f_X0_othersAreWhole_b99 (k48 : Nat → Int32 → Int32 → Int32 → Int32 → Int32 → mM → Option (Int32 × mM)) : Nat → Nat → Int32 → Int32 → Int32 → Int32 → Int32 → Int32 → Int32 → mM → Option (Int32 × mM)
  | 0, _, _, _, _, _, _, _, _, _ => none
  | n + 1, b, i2, i4, i5, i6, i7, i8, i9, M =>
  if 4 ≤ i9 then (mlt (i7 + 1) fun x169 =>
  k48 b i2 i4 i5 i6 x169 M)
  else (mgd (mIn i9 8) <|
  mbp (f_X0_inCell b (i8 + (sVal 3 (Int32.toNatClampNeg i9))) M) fun v115 =>
  if v115 < 0 then (mlt (i9 + 1) fun x163 =>
  f_X0_othersAreWhole_b99 k48 n b i2 i4 i5 i6 i7 i8 x163 M)
  else (if ((i4 >>> (v115 &&& 31)) &&& 1) = 0 then (if 16 ≤ i5 then (mlt (i9 + 1) fun x163 =>
  f_X0_othersAreWhole_b99 k48 n b i2 i4 i5 i6 i7 i8 x163 M)
  else (mlt (i4 ||| (1 <<< (v115 &&& 31))) fun x149 =>
  mgd (mIn i5 16) <|
  mlt (mI M (b + 7) (Int32.toNatClampNeg i5) v115) fun M159 =>
  mlt (i5 + 1) fun x160 =>
  mlt (i9 + 1) fun x163 =>
  f_X0_othersAreWhole_b99 k48 n b i2 x149 x160 i6 i7 i8 x163 M159))
  else (mlt (i9 + 1) fun x163 =>
  f_X0_othersAreWhole_b99 k48 n b i2 i4 i5 i6 i7 i8 x163 M)))
def f_X0_othersAreWhole_b48 : Nat → Nat → Int32 → Int32 → Int32 → Int32 → Int32 → mM → Option (Int32 × mM)
  | 0, _, _, _, _, _, _, _ => none
  | n + 1, b, i2, i4, i5, i6, i7, M =>
  if 16 ≤ i7 then (f_X0_othersAreWhole_b175 b i2 i5 i6 M)
  else (if i5 ≤ i7 then (f_X0_othersAreWhole_b175 b i2 i5 i6 M)
  else (mgd (mIn i7 16) <|
  mgd (mIn (M.1 (b + 7) (Int32.toNatClampNeg i7)) 16) <|
  mlt (M.1 (b + 2) (Int32.toNatClampNeg (M.1 (b + 7) (Int32.toNatClampNeg i7)))) fun x74 =>
  if i6 = 0 then (if (f_X9_levelOf x74) = 0 then (f_X0_othersAreWhole_b99 (f_X0_othersAreWhole_b48 n) mN b i2 i4 i5 1 i7 x74 0 M)
  else (f_X0_othersAreWhole_b99 (f_X0_othersAreWhole_b48 n) mN b i2 i4 i5 0 i7 x74 0 M))
  else (f_X0_othersAreWhole_b99 (f_X0_othersAreWhole_b48 n) mN b i2 i4 i5 1 i7 x74 0 M)))
def f_X0_othersAreWhole_b22 (b : Nat) (i1 : Int32) (i2 : Int32) (s0 : Int32) (M : mM) : Option (Int32 × mM) :=
  mlt ((1 <<< (i1 &&& 31)) ||| (1 <<< (s0 &&& 31))) fun x30 =>
  mlt (mI M (b + 7) 0 s0) fun M44 =>
  f_X0_othersAreWhole_b48 mN b i2 x30 1 0 0 M44
def f_X0_othersAreWhole (b : Nat) (i1 : Int32) (M : mM) : Option (Int32 × mM) :=
  mlt ((M.1 b 0) - 1) fun x6 =>
  if 0 < x6 then (if i1 = 0 then (f_X0_othersAreWhole_b22 b i1 x6 1 M)
  else (f_X0_othersAreWhole_b22 b i1 x6 0 M))
  else (some (1, M))
set_option maxRecDepth 100000 in
set_option maxHeartbeats 4000000 in
theorem w_X0_othersAreWhole_b175 {l : Launch} {X : mX} {p : Program} {e : Env} {s : State} {m : MethodId} {args : Array Value} {below : List Frame} {meth : Method} {c : Code} {r : Int32 × mM} (hs : mS X RX0 cX0_othersAreWhole 11 (some .boolean) p s m meth c) : ∀ (b : Nat) (i2 : Int32) (i5 : Int32) (i6 : Int32) (h_b : isBody b) (M : mM), f_X0_othersAreWhole_b175 b i2 i5 i6 M = some r → mG X p l e (rmF 1 21) s m args below meth c (MQ below (mQi X r.2 r.1) args s 0 0 (mL X)) 11 175 [(2, .int i2), (5, .int i5), (6, .int i6)] [] M := by
  obtain ⟨hx, hb, hml, hown, hF, hlk, hr⟩ := id hs
  intro b i2 i5 i6 h_b M h H locs ls hR hS hl
  refine lv_iload hx hb dX0_othersAreWhole_175 (lv_at hl 2 rfl) ?_
  refine lv_if_eq (tgt := 190) hx hb dX0_othersAreWhole_177 (by decide) (fun c177 => ?_) (fun c177 => ?_)
  · have h := mif_y h c177
    refine lv_iconst (v := 0) hx hb dX0_othersAreWhole_190 (by decide) ?_
    exact m_zr hx hb hlk hr hR hS (Or.inl rfl) (Option.some.inj h).symm dX0_othersAreWhole_191
  · have h := mif_n h c177
    refine lv_iload hx hb dX0_othersAreWhole_180 (lv_at hl 1 rfl) ?_
    refine lv_iload_n hx hb dX0_othersAreWhole_182 rfl (lv_at hl 0 rfl) ?_
    refine lv_icmp_ne (tgt := 190) hx hb dX0_othersAreWhole_183 (by decide) (fun c183 => ?_) (fun c183 => ?_)
    · have h := mif_n h c183
      refine lv_iconst (v := 0) hx hb dX0_othersAreWhole_190 (by decide) ?_
      exact m_zr hx hb hlk hr hR hS (Or.inl rfl) (Option.some.inj h).symm dX0_othersAreWhole_191
    · have h := mif_y h c183
      refine lv_iconst (v := 1) hx hb dX0_othersAreWhole_186 (by decide) ?_
      refine lv_goto (tgt := 191) hx hb dX0_othersAreWhole_187 (by decide) ?_
      exact m_zr hx hb hlk hr hR hS (Or.inr rfl) (Option.some.inj h).symm dX0_othersAreWhole_191
set_option maxRecDepth 100000 in
set_option maxHeartbeats 4000000 in
theorem w_X0_othersAreWhole_b99 {l : Launch} {X : mX} {p : Program} {e : Env} {s : State} {m : MethodId} {args : Array Value} {below : List Frame} {meth : Method} {c : Code} {r : Int32 × mM} (hs : mS X RX0 cX0_othersAreWhole 11 (some .boolean) p s m meth c) (k48 : Nat → Int32 → Int32 → Int32 → Int32 → Int32 → mM → Option (Int32 × mM)) (hk48 : ∀ (b : Nat) (i2 : Int32) (i4 : Int32) (i5 : Int32) (i6 : Int32) (i7 : Int32) (h_b : isBody b) (M : mM), k48 b i2 i4 i5 i6 i7 M = some r → mG X p l e (rmF 1 21) s m args below meth c (MQ below (mQi X r.2 r.1) args s 0 0 (mL X)) 11 48 [(0, .ref (X.1 b)), (2, .int i2), (4, .int i4), (5, .int i5), (6, .int i6), (7, .int i7)] [] M) : ∀ n : Nat, ∀ (b : Nat) (i2 : Int32) (i4 : Int32) (i5 : Int32) (i6 : Int32) (i7 : Int32) (i8 : Int32) (i9 : Int32) (h_b : isBody b) (M : mM), f_X0_othersAreWhole_b99 k48 n b i2 i4 i5 i6 i7 i8 i9 M = some r → mG X p l e (rmF 1 21) s m args below meth c (MQ below (mQi X r.2 r.1) args s 0 0 (mL X)) 11 99 [(0, .ref (X.1 b)), (2, .int i2), (4, .int i4), (5, .int i5), (6, .int i6), (7, .int i7), (8, .int i8), (9, .int i9)] [] M := by
  obtain ⟨hx, hb, hml, hown, hF, hlk, hr⟩ := id hs
  intro n
  induction n with
  | zero =>
    intro b i2 i4 i5 i6 i7 i8 i9 h_b M h
    have h0 : (none : Option (Int32 × mM)) = some r := h
    cases h0
  | succ n ih =>
    intro b i2 i4 i5 i6 i7 i8 i9 h_b M h H locs ls hR hS hl
    refine lv_iload hx hb dX0_othersAreWhole_99 (lv_at hl 7 rfl) ?_
    refine lv_iconst (v := 4) hx hb dX0_othersAreWhole_101 (by decide) ?_
    refine lv_icmp_ge (tgt := 169) hx hb dX0_othersAreWhole_102 (by decide) (fun c102 => ?_) (fun c102 => ?_)
    · have h := mif_y h c102
      obtain ⟨x169, ex169⟩ : ∃ y : Int32, y = (i7 + 1) := ⟨_, rfl⟩
      have h := mlt_n h x169 ex169
      refine lv_iinc (v := x169) (lv' := [(7, .int x169), (0, .ref (X.1 b)), (2, .int i2), (4, .int i4), (5, .int i5), (6, .int i6), (8, .int i8), (9, .int i9)]) hx hb dX0_othersAreWhole_169 hl (k := 5) rfl (by rw [ex169]; rfl) (by decide) rfl (fun ls hl => ?_)
      refine lv_goto (tgt := 48) hx hb dX0_othersAreWhole_172 (by decide) ?_
      exact hk48 b i2 i4 i5 i6 x169 h_b M h H locs ls hR hS (lv_sub hl [1, 2, 3, 4, 5, 0] rfl)
    · have h := mif_n h c102
      refine lv_aload_n hx hb dX0_othersAreWhole_105 rfl (lv_at hl 0 rfl) ?_
      refine lv_iload hx hb dX0_othersAreWhole_106 (lv_at hl 6 rfl) ?_
      refine m_gsN hx hb hF hS hown 3 (by decide) rfl 11 rfl dX0_othersAreWhole_108 ?_
      refine lv_iload hx hb dX0_othersAreWhole_111 (lv_at hl 7 rfl) ?_
      obtain ⟨g113, h⟩ := mgd_e h
      refine m_saidL hx hb hF hS 3 (by decide) (N := 8) rfl g113 (jn := (Int32.toNatClampNeg i9)) rfl dX0_othersAreWhole_113 ?_
      refine lv_iadd hx hb dX0_othersAreWhole_114 ?_
      obtain ⟨v115, q115, h⟩ := mbp_e h
      refine m_ci (m_rV hx hb hml hown hF hR hS (ent0 (kBody0 h_b)) (kBody0 h_b) rfl (c_X0_inCell l X b (i8 + (sVal 3 (Int32.toNatClampNeg i9))) h_b M q115) q_X0_51_V hdV_X0_inCell ⟨Nat.le_of_ble_eq_true rfl, Nat.le_of_ble_eq_true rfl⟩ rfl hl.1 rfl (Nat.le_of_ble_eq_true rfl) dX0_othersAreWhole_115) hS (fun H locs hR hS => ?_)
      refine lv_istore (lv' := [(10, .int v115), (0, .ref (X.1 b)), (2, .int i2), (4, .int i4), (5, .int i5), (6, .int i6), (7, .int i7), (8, .int i8), (9, .int i9)]) hx hb dX0_othersAreWhole_118 hl (by decide) rfl (fun ls hl => ?_)
      refine lv_iload hx hb dX0_othersAreWhole_120 (lv_at hl 0 rfl) ?_
      refine lv_if_lt (tgt := 163) hx hb dX0_othersAreWhole_122 (by decide) (fun c122 => ?_) (fun c122 => ?_)
      · have h := mif_y h c122
        obtain ⟨x163, ex163⟩ : ∃ y : Int32, y = (i9 + 1) := ⟨_, rfl⟩
        have h := mlt_n h x163 ex163
        refine lv_iinc (v := x163) (lv' := [(9, .int x163), (10, .int v115), (0, .ref (X.1 b)), (2, .int i2), (4, .int i4), (5, .int i5), (6, .int i6), (7, .int i7), (8, .int i8)]) hx hb dX0_othersAreWhole_163 hl (k := 8) rfl (by rw [ex163]; rfl) (by decide) rfl (fun ls hl => ?_)
        refine lv_goto (tgt := 99) hx hb dX0_othersAreWhole_166 (by decide) ?_
        exact ih b i2 i4 i5 i6 i7 i8 x163 h_b M h H locs ls hR hS (lv_sub hl [2, 3, 4, 5, 6, 7, 8, 0] rfl)
      · have h := mif_n h c122
        refine lv_iload hx hb dX0_othersAreWhole_125 (lv_at hl 3 rfl) ?_
        refine lv_iload hx hb dX0_othersAreWhole_127 (lv_at hl 0 rfl) ?_
        refine lv_ishr hx hb dX0_othersAreWhole_129 ?_
        refine lv_iconst (v := 1) hx hb dX0_othersAreWhole_130 (by decide) ?_
        refine lv_iand hx hb dX0_othersAreWhole_131 ?_
        refine lv_if_ne (tgt := 163) hx hb dX0_othersAreWhole_132 (by decide) (fun c132 => ?_) (fun c132 => ?_)
        · have h := mif_n h c132
          obtain ⟨x163, ex163⟩ : ∃ y : Int32, y = (i9 + 1) := ⟨_, rfl⟩
          have h := mlt_n h x163 ex163
          refine lv_iinc (v := x163) (lv' := [(9, .int x163), (10, .int v115), (0, .ref (X.1 b)), (2, .int i2), (4, .int i4), (5, .int i5), (6, .int i6), (7, .int i7), (8, .int i8)]) hx hb dX0_othersAreWhole_163 hl (k := 8) rfl (by rw [ex163]; rfl) (by decide) rfl (fun ls hl => ?_)
          refine lv_goto (tgt := 99) hx hb dX0_othersAreWhole_166 (by decide) ?_
          exact ih b i2 i4 i5 i6 i7 i8 x163 h_b M h H locs ls hR hS (lv_sub hl [2, 3, 4, 5, 6, 7, 8, 0] rfl)
        · have h := mif_y h c132
          refine lv_iload hx hb dX0_othersAreWhole_135 (lv_at hl 4 rfl) ?_
          refine lv_bipush (v := 16) hx hb dX0_othersAreWhole_137 (by decide) ?_
          refine lv_icmp_ge (tgt := 163) hx hb dX0_othersAreWhole_139 (by decide) (fun c139 => ?_) (fun c139 => ?_)
          · have h := mif_y h c139
            obtain ⟨x163, ex163⟩ : ∃ y : Int32, y = (i9 + 1) := ⟨_, rfl⟩
            have h := mlt_n h x163 ex163
            refine lv_iinc (v := x163) (lv' := [(9, .int x163), (10, .int v115), (0, .ref (X.1 b)), (2, .int i2), (4, .int i4), (5, .int i5), (6, .int i6), (7, .int i7), (8, .int i8)]) hx hb dX0_othersAreWhole_163 hl (k := 8) rfl (by rw [ex163]; rfl) (by decide) rfl (fun ls hl => ?_)
            refine lv_goto (tgt := 99) hx hb dX0_othersAreWhole_166 (by decide) ?_
            exact ih b i2 i4 i5 i6 i7 i8 x163 h_b M h H locs ls hR hS (lv_sub hl [2, 3, 4, 5, 6, 7, 8, 0] rfl)
          · have h := mif_n h c139
            refine lv_iload hx hb dX0_othersAreWhole_142 (lv_at hl 3 rfl) ?_
            refine lv_iconst (v := 1) hx hb dX0_othersAreWhole_144 (by decide) ?_
            refine lv_iload hx hb dX0_othersAreWhole_145 (lv_at hl 0 rfl) ?_
            refine lv_ishl hx hb dX0_othersAreWhole_147 ?_
            refine lv_ior hx hb dX0_othersAreWhole_148 ?_
            refine lv_topi (fun x149 ex149 => ?_)
            have h := mlt_n h x149 ex149
            refine lv_istore (lv' := [(4, .int x149), (10, .int v115), (0, .ref (X.1 b)), (2, .int i2), (5, .int i5), (6, .int i6), (7, .int i7), (8, .int i8), (9, .int i9)]) hx hb dX0_othersAreWhole_149 hl (by decide) rfl (fun ls hl => ?_)
            refine lv_aload_n hx hb dX0_othersAreWhole_151 rfl (lv_at hl 2 rfl) ?_
            refine m_g0_7 hx hb hF hown hR (kBody0 h_b) mw_1_72 dX0_othersAreWhole_152 ?_
            refine lv_iload hx hb dX0_othersAreWhole_155 (lv_at hl 4 rfl) ?_
            refine lv_iload hx hb dX0_othersAreWhole_157 (lv_at hl 1 rfl) ?_
            obtain ⟨g159, h⟩ := mgd_e h
            obtain ⟨M159, eM159⟩ : ∃ y : mM, y = mI M (b + 7) (Int32.toNatClampNeg i5) v115 := ⟨_, rfl⟩
            have h := mlt_n h M159 eM159
            refine m_iastL hx hb hR hS (kBody7 h_b) g159 (jn := (Int32.toNatClampNeg i5)) rfl dX0_othersAreWhole_159 eM159 (fun H locs hR hS => ?_)
            obtain ⟨x160, ex160⟩ : ∃ y : Int32, y = (i5 + 1) := ⟨_, rfl⟩
            have h := mlt_n h x160 ex160
            refine lv_iinc (v := x160) (lv' := [(5, .int x160), (4, .int x149), (10, .int v115), (0, .ref (X.1 b)), (2, .int i2), (6, .int i6), (7, .int i7), (8, .int i8), (9, .int i9)]) hx hb dX0_othersAreWhole_160 hl (k := 4) rfl (by rw [ex160]; rfl) (by decide) rfl (fun ls hl => ?_)
            obtain ⟨x163, ex163⟩ : ∃ y : Int32, y = (i9 + 1) := ⟨_, rfl⟩
            have h := mlt_n h x163 ex163
            refine lv_iinc (v := x163) (lv' := [(9, .int x163), (5, .int x160), (4, .int x149), (10, .int v115), (0, .ref (X.1 b)), (2, .int i2), (6, .int i6), (7, .int i7), (8, .int i8)]) hx hb dX0_othersAreWhole_163 hl (k := 8) rfl (by rw [ex163]; rfl) (by decide) rfl (fun ls hl => ?_)
            refine lv_goto (tgt := 99) hx hb dX0_othersAreWhole_166 (by decide) ?_
            exact ih b i2 x149 x160 i6 i7 i8 x163 h_b M159 h H locs ls hR hS (lv_sub hl [4, 5, 2, 1, 6, 7, 8, 0] rfl)
set_option maxRecDepth 100000 in
set_option maxHeartbeats 4000000 in
theorem w_X0_othersAreWhole_b48 {l : Launch} {X : mX} {p : Program} {e : Env} {s : State} {m : MethodId} {args : Array Value} {below : List Frame} {meth : Method} {c : Code} {r : Int32 × mM} (hs : mS X RX0 cX0_othersAreWhole 11 (some .boolean) p s m meth c) : ∀ n : Nat, ∀ (b : Nat) (i2 : Int32) (i4 : Int32) (i5 : Int32) (i6 : Int32) (i7 : Int32) (h_b : isBody b) (M : mM), f_X0_othersAreWhole_b48 n b i2 i4 i5 i6 i7 M = some r → mG X p l e (rmF 1 21) s m args below meth c (MQ below (mQi X r.2 r.1) args s 0 0 (mL X)) 11 48 [(0, .ref (X.1 b)), (2, .int i2), (4, .int i4), (5, .int i5), (6, .int i6), (7, .int i7)] [] M := by
  obtain ⟨hx, hb, hml, hown, hF, hlk, hr⟩ := id hs
  intro n
  induction n with
  | zero =>
    intro b i2 i4 i5 i6 i7 h_b M h
    have h0 : (none : Option (Int32 × mM)) = some r := h
    cases h0
  | succ n ih =>
    intro b i2 i4 i5 i6 i7 h_b M h H locs ls hR hS hl
    refine lv_iload hx hb dX0_othersAreWhole_48 (lv_at hl 5 rfl) ?_
    refine lv_bipush (v := 16) hx hb dX0_othersAreWhole_50 (by decide) ?_
    refine lv_icmp_ge (tgt := 175) hx hb dX0_othersAreWhole_52 (by decide) (fun c52 => ?_) (fun c52 => ?_)
    · have h := mif_y h c52
      exact w_X0_othersAreWhole_b175 hs b i2 i5 i6 h_b M h H locs ls hR hS (lv_sub hl [1, 3, 4] rfl)
    · have h := mif_n h c52
      refine lv_iload hx hb dX0_othersAreWhole_55 (lv_at hl 5 rfl) ?_
      refine lv_iload hx hb dX0_othersAreWhole_57 (lv_at hl 3 rfl) ?_
      refine lv_icmp_ge (tgt := 175) hx hb dX0_othersAreWhole_59 (by decide) (fun c59 => ?_) (fun c59 => ?_)
      · have h := mif_y h c59
        exact w_X0_othersAreWhole_b175 hs b i2 i5 i6 h_b M h H locs ls hR hS (lv_sub hl [1, 3, 4] rfl)
      · have h := mif_n h c59
        refine lv_aload_n hx hb dX0_othersAreWhole_62 rfl (lv_at hl 0 rfl) ?_
        refine m_g0_2 hx hb hF hown hR (kBody0 h_b) mw_1_54 dX0_othersAreWhole_63 ?_
        refine lv_aload_n hx hb dX0_othersAreWhole_66 rfl (lv_at hl 0 rfl) ?_
        refine m_g0_7 hx hb hF hown hR (kBody0 h_b) mw_1_72 dX0_othersAreWhole_67 ?_
        refine lv_iload hx hb dX0_othersAreWhole_70 (lv_at hl 5 rfl) ?_
        obtain ⟨g72, h⟩ := mgd_e h
        refine m_ialdL hx hb hR (kBody7 h_b) g72 (jn := (Int32.toNatClampNeg i7)) rfl dX0_othersAreWhole_72 ?_
        obtain ⟨g73, h⟩ := mgd_e h
        refine m_ialdL hx hb hR (kBody2 h_b) g73 (jn := (Int32.toNatClampNeg (M.1 (b + 7) (Int32.toNatClampNeg i7)))) rfl dX0_othersAreWhole_73 ?_
        refine lv_topi (fun x74 ex74 => ?_)
        have h := mlt_n h x74 ex74
        refine lv_istore (lv' := [(8, .int x74), (0, .ref (X.1 b)), (2, .int i2), (4, .int i4), (5, .int i5), (6, .int i6), (7, .int i7)]) hx hb dX0_othersAreWhole_74 hl (by decide) rfl (fun ls hl => ?_)
        refine lv_iload hx hb dX0_othersAreWhole_76 (lv_at hl 5 rfl) ?_
        refine lv_if_ne (tgt := 89) hx hb dX0_othersAreWhole_78 (by decide) (fun c78 => ?_) (fun c78 => ?_)
        · have h := mif_n h c78
          refine lv_iconst (v := 1) hx hb dX0_othersAreWhole_89 (by decide) ?_
          refine lv_goto (tgt := 94) hx hb dX0_othersAreWhole_90 (by decide) ?_
          refine lv_istore (lv' := [(6, .int 1), (8, .int x74), (0, .ref (X.1 b)), (2, .int i2), (4, .int i4), (5, .int i5), (7, .int i7)]) hx hb dX0_othersAreWhole_94 hl (by decide) rfl (fun ls hl => ?_)
          refine lv_iconst (v := 0) hx hb dX0_othersAreWhole_96 (by decide) ?_
          refine lv_istore (lv' := [(9, .int 0), (6, .int 1), (8, .int x74), (0, .ref (X.1 b)), (2, .int i2), (4, .int i4), (5, .int i5), (7, .int i7)]) hx hb dX0_othersAreWhole_97 hl (by decide) rfl (fun ls hl => ?_)
          exact w_X0_othersAreWhole_b99 hs (f_X0_othersAreWhole_b48 n) ih mN b i2 i4 i5 1 i7 x74 0 h_b M h H locs ls hR hS (lv_sub hl [3, 4, 5, 6, 1, 7, 2, 0] rfl)
        · have h := mif_y h c78
          refine lv_iload hx hb dX0_othersAreWhole_81 (lv_at hl 0 rfl) ?_
          refine m_ci (m_rSN hx hb hml hown hF hR hS (c_X9_levelOf l X x74 M) mw_1_45 mw_1_1 mw_1_44 2 rfl hdS_X9_levelOf ⟨Nat.le_of_ble_eq_true rfl, Nat.le_of_ble_eq_true rfl⟩ rfl hl.1 rfl (Nat.le_of_ble_eq_true rfl) dX0_othersAreWhole_83) hS (fun H locs hR hS => ?_)
          refine lv_if_ne (tgt := 93) hx hb dX0_othersAreWhole_86 (by decide) (fun c86 => ?_) (fun c86 => ?_)
          · have h := mif_n h c86
            refine lv_iconst (v := 0) hx hb dX0_othersAreWhole_93 (by decide) ?_
            refine lv_istore (lv' := [(6, .int 0), (8, .int x74), (0, .ref (X.1 b)), (2, .int i2), (4, .int i4), (5, .int i5), (7, .int i7)]) hx hb dX0_othersAreWhole_94 hl (by decide) rfl (fun ls hl => ?_)
            refine lv_iconst (v := 0) hx hb dX0_othersAreWhole_96 (by decide) ?_
            refine lv_istore (lv' := [(9, .int 0), (6, .int 0), (8, .int x74), (0, .ref (X.1 b)), (2, .int i2), (4, .int i4), (5, .int i5), (7, .int i7)]) hx hb dX0_othersAreWhole_97 hl (by decide) rfl (fun ls hl => ?_)
            exact w_X0_othersAreWhole_b99 hs (f_X0_othersAreWhole_b48 n) ih mN b i2 i4 i5 0 i7 x74 0 h_b M h H locs ls hR hS (lv_sub hl [3, 4, 5, 6, 1, 7, 2, 0] rfl)
          · have h := mif_y h c86
            refine lv_iconst (v := 1) hx hb dX0_othersAreWhole_89 (by decide) ?_
            refine lv_goto (tgt := 94) hx hb dX0_othersAreWhole_90 (by decide) ?_
            refine lv_istore (lv' := [(6, .int 1), (8, .int x74), (0, .ref (X.1 b)), (2, .int i2), (4, .int i4), (5, .int i5), (7, .int i7)]) hx hb dX0_othersAreWhole_94 hl (by decide) rfl (fun ls hl => ?_)
            refine lv_iconst (v := 0) hx hb dX0_othersAreWhole_96 (by decide) ?_
            refine lv_istore (lv' := [(9, .int 0), (6, .int 1), (8, .int x74), (0, .ref (X.1 b)), (2, .int i2), (4, .int i4), (5, .int i5), (7, .int i7)]) hx hb dX0_othersAreWhole_97 hl (by decide) rfl (fun ls hl => ?_)
            exact w_X0_othersAreWhole_b99 hs (f_X0_othersAreWhole_b48 n) ih mN b i2 i4 i5 1 i7 x74 0 h_b M h H locs ls hR hS (lv_sub hl [3, 4, 5, 6, 1, 7, 2, 0] rfl)
set_option maxRecDepth 100000 in
set_option maxHeartbeats 4000000 in
theorem w_X0_othersAreWhole_b22 {l : Launch} {X : mX} {p : Program} {e : Env} {s : State} {m : MethodId} {args : Array Value} {below : List Frame} {meth : Method} {c : Code} {r : Int32 × mM} (hs : mS X RX0 cX0_othersAreWhole 11 (some .boolean) p s m meth c) : ∀ (b : Nat) (i1 : Int32) (i2 : Int32) (s0 : Int32) (h_b : isBody b) (M : mM), f_X0_othersAreWhole_b22 b i1 i2 s0 M = some r → mG X p l e (rmF 1 21) s m args below meth c (MQ below (mQi X r.2 r.1) args s 0 0 (mL X)) 11 22 [(0, .ref (X.1 b)), (1, .int i1), (2, .int i2)] [.int s0] M := by
  obtain ⟨hx, hb, hml, hown, hF, hlk, hr⟩ := id hs
  intro b i1 i2 s0 h_b M h H locs ls hR hS hl
  refine lv_istore_n (lv' := [(3, .int s0), (0, .ref (X.1 b)), (1, .int i1), (2, .int i2)]) hx hb dX0_othersAreWhole_22 rfl hl (by decide) rfl (fun ls hl => ?_)
  refine lv_iconst (v := 1) hx hb dX0_othersAreWhole_23 (by decide) ?_
  refine lv_iload_n hx hb dX0_othersAreWhole_24 rfl (lv_at hl 2 rfl) ?_
  refine lv_ishl hx hb dX0_othersAreWhole_25 ?_
  refine lv_iconst (v := 1) hx hb dX0_othersAreWhole_26 (by decide) ?_
  refine lv_iload_n hx hb dX0_othersAreWhole_27 rfl (lv_at hl 0 rfl) ?_
  refine lv_ishl hx hb dX0_othersAreWhole_28 ?_
  refine lv_ior hx hb dX0_othersAreWhole_29 ?_
  refine lv_topi (fun x30 ex30 => ?_)
  have h := mlt_n h x30 ex30
  refine lv_istore (lv' := [(4, .int x30), (3, .int s0), (0, .ref (X.1 b)), (1, .int i1), (2, .int i2)]) hx hb dX0_othersAreWhole_30 hl (by decide) rfl (fun ls hl => ?_)
  refine lv_iconst (v := 1) hx hb dX0_othersAreWhole_32 (by decide) ?_
  refine lv_istore (lv' := [(5, .int 1), (4, .int x30), (3, .int s0), (0, .ref (X.1 b)), (1, .int i1), (2, .int i2)]) hx hb dX0_othersAreWhole_33 hl (by decide) rfl (fun ls hl => ?_)
  refine lv_iconst (v := 0) hx hb dX0_othersAreWhole_35 (by decide) ?_
  refine lv_istore (lv' := [(6, .int 0), (5, .int 1), (4, .int x30), (3, .int s0), (0, .ref (X.1 b)), (1, .int i1), (2, .int i2)]) hx hb dX0_othersAreWhole_36 hl (by decide) rfl (fun ls hl => ?_)
  refine lv_aload_n hx hb dX0_othersAreWhole_38 rfl (lv_at hl 4 rfl) ?_
  refine m_g0_7 hx hb hF hown hR (kBody0 h_b) mw_1_72 dX0_othersAreWhole_39 ?_
  refine lv_iconst (v := 0) hx hb dX0_othersAreWhole_42 (by decide) ?_
  refine lv_iload_n hx hb dX0_othersAreWhole_43 rfl (lv_at hl 3 rfl) ?_
  obtain ⟨M44, eM44⟩ : ∃ y : mM, y = mI M (b + 7) 0 s0 := ⟨_, rfl⟩
  have h := mlt_n h M44 eM44
  refine m_iastL hx hb hR hS (kBody7 h_b) (show mIn 0 16 from by decide) (jn := 0) (by decide) dX0_othersAreWhole_44 eM44 (fun H locs hR hS => ?_)
  refine lv_iconst (v := 0) hx hb dX0_othersAreWhole_45 (by decide) ?_
  refine lv_istore (lv' := [(7, .int 0), (6, .int 0), (5, .int 1), (4, .int x30), (3, .int s0), (0, .ref (X.1 b)), (1, .int i1), (2, .int i2)]) hx hb dX0_othersAreWhole_46 hl (by decide) rfl (fun ls hl => ?_)
  exact w_X0_othersAreWhole_b48 hs mN b i2 x30 1 0 0 h_b M44 h H locs ls hR hS (lv_sub hl [5, 7, 3, 2, 1, 0] rfl)
set_option maxRecDepth 100000 in
set_option maxHeartbeats 4000000 in
theorem w_X0_othersAreWhole {l : Launch} {X : mX} {p : Program} {e : Env} {s : State} {m : MethodId} {args : Array Value} {below : List Frame} {meth : Method} {c : Code} {r : Int32 × mM} (hs : mS X RX0 cX0_othersAreWhole 11 (some .boolean) p s m meth c) : ∀ (b : Nat) (i1 : Int32) (h_b : isBody b) (M : mM), f_X0_othersAreWhole b i1 M = some r → mG X p l e (rmF 1 21) s m args below meth c (MQ below (mQi X r.2 r.1) args s 0 0 (mL X)) 11 0 [(0, .ref (X.1 b)), (1, .int i1)] [] M := by
  obtain ⟨hx, hb, hml, hown, hF, hlk, hr⟩ := id hs
  intro b i1 h_b M h H locs ls hR hS hl
  refine lv_aload_n hx hb dX0_othersAreWhole_0 rfl (lv_at hl 0 rfl) ?_
  refine m_g0_0 hx hb hF hown hR (kBody0 h_b) mw_1_46 dX0_othersAreWhole_1 ?_
  refine lv_iconst (v := 1) hx hb dX0_othersAreWhole_4 (by decide) ?_
  refine lv_isub hx hb dX0_othersAreWhole_5 ?_
  refine lv_topi (fun x6 ex6 => ?_)
  have h := mlt_n h x6 ex6
  refine lv_istore_n (lv' := [(2, .int x6), (0, .ref (X.1 b)), (1, .int i1)]) hx hb dX0_othersAreWhole_6 rfl hl (by decide) rfl (fun ls hl => ?_)
  refine lv_iload_n hx hb dX0_othersAreWhole_7 rfl (lv_at hl 0 rfl) ?_
  refine lv_if_gt (tgt := 13) hx hb dX0_othersAreWhole_8 (by decide) (fun c8 => ?_) (fun c8 => ?_)
  · have h := mif_y h c8
    refine lv_iload_n hx hb dX0_othersAreWhole_13 rfl (lv_at hl 2 rfl) ?_
    refine lv_if_ne (tgt := 21) hx hb dX0_othersAreWhole_14 (by decide) (fun c14 => ?_) (fun c14 => ?_)
    · have h := mif_n h c14
      refine lv_iconst (v := 0) hx hb dX0_othersAreWhole_21 (by decide) ?_
      exact w_X0_othersAreWhole_b22 hs b i1 x6 0 h_b M h H locs ls hR hS (lv_sub hl [1, 2, 0] rfl)
    · have h := mif_y h c14
      refine lv_iconst (v := 1) hx hb dX0_othersAreWhole_17 (by decide) ?_
      refine lv_goto (tgt := 22) hx hb dX0_othersAreWhole_18 (by decide) ?_
      exact w_X0_othersAreWhole_b22 hs b i1 x6 1 h_b M h H locs ls hR hS (lv_sub hl [1, 2, 0] rfl)
  · have h := mif_n h c8
    refine lv_iconst (v := 1) hx hb dX0_othersAreWhole_11 (by decide) ?_
    exact m_zr hx hb hlk hr hR hS (Or.inr rfl) (Option.some.inj h).symm dX0_othersAreWhole_12
theorem c_X0_othersAreWhole (l : Launch) (X : mX) (b : Nat) (i1 : Int32) (h_b : isBody b) (M : mM) {r : Int32 × mM} (h : f_X0_othersAreWhole b i1 M = some r) : mMi l yX0_othersAreWhole cX0_othersAreWhole 11 (some .boolean) 1 21 X [.ref (X.1 b), .int i1] M r := m_ofi (by decide +kernel) (Nat.le_of_ble_eq_true rfl) rfl (fun p e s m args below meth c hs => w_X0_othersAreWhole hs b i1 h_b M h)
def f_X10_is (i1 : Int32) (i2 : Int32) (i3 : Int32) : Int32 :=
  if i1 < i2 then (0)
  else (if i3 < i1 then (0)
  else (1))
set_option maxRecDepth 100000 in
set_option maxHeartbeats 4000000 in
theorem w_X10_is {l : Launch} {X : mX} {p : Program} {e : Env} {s : State} {m : MethodId} {args : Array Value} {below : List Frame} {meth : Method} {c : Code} {M : mM} {r : Int32} (hs : mS X RX10 cX10_is 4 (some .boolean) p s m meth c) : ∀ (i1 : Int32) (i2 : Int32) (i3 : Int32), f_X10_is i1 i2 i3 = r → mG X p l e (rmF 0 0) s m args below meth c (MQ below (mQi X M r) args s 0 0 (mL X)) 4 0 [(0, .ref (X.1 96)), (1, .int i1), (2, .int i2), (3, .int i3)] [] M := by
  obtain ⟨hx, hb, hml, hown, hF, hlk, hr⟩ := id hs
  intro i1 i2 i3 h H locs ls hR hS hl
  refine lv_iload_n hx hb dX10_is_0 rfl (lv_at hl 1 rfl) ?_
  refine lv_iload_n hx hb dX10_is_1 rfl (lv_at hl 2 rfl) ?_
  refine lv_icmp_lt (tgt := 14) hx hb dX10_is_2 (by decide) (fun c2 => ?_) (fun c2 => ?_)
  · have h := mif_y h c2
    refine lv_iconst (v := 0) hx hb dX10_is_14 (by decide) ?_
    exact m_zr hx hb hlk hr hR hS (Or.inl rfl) (congrArg (fun z => (z, M)) h.symm) dX10_is_15
  · have h := mif_n h c2
    refine lv_iload_n hx hb dX10_is_5 rfl (lv_at hl 1 rfl) ?_
    refine lv_iload_n hx hb dX10_is_6 rfl (lv_at hl 3 rfl) ?_
    refine lv_icmp_gt (tgt := 14) hx hb dX10_is_7 (by decide) (fun c7 => ?_) (fun c7 => ?_)
    · have h := mif_y h c7
      refine lv_iconst (v := 0) hx hb dX10_is_14 (by decide) ?_
      exact m_zr hx hb hlk hr hR hS (Or.inl rfl) (congrArg (fun z => (z, M)) h.symm) dX10_is_15
    · have h := mif_n h c7
      refine lv_iconst (v := 1) hx hb dX10_is_10 (by decide) ?_
      refine lv_goto (tgt := 15) hx hb dX10_is_11 (by decide) ?_
      exact m_zr hx hb hlk hr hR hS (Or.inr rfl) (congrArg (fun z => (z, M)) h.symm) dX10_is_15
theorem c_X10_is (l : Launch) (X : mX) (i1 : Int32) (i2 : Int32) (i3 : Int32) (M : mM) : mMi l yX10_is cX10_is 4 (some .boolean) 0 0 X [.ref (X.1 96), .int i1, .int i2, .int i3] M (f_X10_is i1 i2 i3, M) := m_ofi (by decide +kernel) (Nat.le_of_ble_eq_true rfl) rfl (fun p e s m args below meth c hs => w_X10_is hs i1 i2 i3 rfl)
def f_X10_isCube (i1 : Int32) (M : mM) : Option Int32 :=
  mgd ((f_X10_is i1 0 ((M.1 97 0) - 1)) = 0 ∨ (f_X10_is i1 0 ((M.1 97 0) - 1)) = 1) <|
  some (f_X10_is i1 0 ((M.1 97 0) - 1))
set_option maxRecDepth 100000 in
set_option maxHeartbeats 4000000 in
theorem w_X10_isCube {l : Launch} {X : mX} {p : Program} {e : Env} {s : State} {m : MethodId} {args : Array Value} {below : List Frame} {meth : Method} {c : Code} {M : mM} {r : Int32} (hs : mS X RX10 cX10_isCube 2 (some .boolean) p s m meth c) : ∀ (i1 : Int32), f_X10_isCube i1 M = some r → mG X p l e (rmF 1 23) s m args below meth c (MQ below (mQi X M r) args s 0 0 (mL X)) 2 0 [(0, .ref (X.1 96)), (1, .int i1)] [] M := by
  obtain ⟨hx, hb, hml, hown, hF, hlk, hr⟩ := id hs
  intro i1 h H locs ls hR hS hl
  refine lv_aload_n hx hb dX10_isCube_0 rfl (lv_at hl 0 rfl) ?_
  refine lv_iload_n hx hb dX10_isCube_1 rfl (lv_at hl 1 rfl) ?_
  refine lv_iconst (v := 0) hx hb dX10_isCube_2 (by decide) ?_
  refine lv_aload_n hx hb dX10_isCube_3 rfl (lv_at hl 0 rfl) ?_
  refine m_g9_1 hx hb hF hown hR kd_96 mw_5_138 dX10_isCube_4 ?_
  refine lv_iconst (v := 0) hx hb dX10_isCube_7 (by decide) ?_
  refine m_ialdL hx hb hR kd_97 (show mIn 0 1834 from by decide) (jn := 0) (by decide) dX10_isCube_8 ?_
  refine lv_iconst (v := 1) hx hb dX10_isCube_9 (by decide) ?_
  refine lv_isub hx hb dX10_isCube_10 ?_
  refine m_ci (m_rV hx hb hml hown hF hR hS (ent9 kd_96) kd_96 rfl (c_X10_is l X i1 0 ((M.1 97 0) - 1) M) q_X10_121_V hdV_X10_is ⟨Nat.le_of_ble_eq_true rfl, Nat.le_of_ble_eq_true rfl⟩ rfl hl.1 rfl (Nat.le_of_ble_eq_true rfl) dX10_isCube_11) hS (fun H locs hR hS => ?_)
  obtain ⟨g14, h⟩ := mgd_e h
  exact m_zr hx hb hlk hr hR hS g14 (congrArg (fun z => (z, M)) (Option.some.inj h).symm) dX10_isCube_14
theorem c_X10_isCube (l : Launch) (X : mX) (i1 : Int32) (M : mM) {r : Int32} (h : f_X10_isCube i1 M = some r) : mMi l yX10_isCube cX10_isCube 2 (some .boolean) 1 23 X [.ref (X.1 96), .int i1] M (r, M) := m_ofi (by decide +kernel) (Nat.le_of_ble_eq_true rfl) rfl (fun p e s m args below meth c hs => w_X10_isCube hs i1 h)
