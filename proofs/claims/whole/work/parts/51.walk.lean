set_option maxRecDepth 100000 in
set_option maxHeartbeats 4000000 in
theorem w_X9_onGrid {l : Launch} {X : mX} {p : Program} {e : Env} {s : State} {m : MethodId} {args : Array Value} {below : List Frame} {meth : Method} {c : Code} {M : mM} {r : Int32} (hs : mS X RX9 cX9_onGrid 2 (some .boolean) p s m meth c) : ∀ (i0 : Int32) (i1 : Int32), f_X9_onGrid i0 i1 = r → mG X p l e (rmF 0 0) s m args below meth c (MQ below (mQi X M r) args s 0 0 (mL X)) 2 0 [(0, .int i0), (1, .int i1)] [] M := by
  obtain ⟨hx, hb, hml, hown, hF, hlk, hr⟩ := id hs
  intro i0 i1 h H locs ls hR hS hl
  refine lv_iload_n hx hb dX9_onGrid_0 rfl (lv_at hl 0 rfl) ?_
  refine lv_if_lt (tgt := 24) hx hb dX9_onGrid_1 (by decide) (fun c1 => ?_) (fun c1 => ?_)
  · have h := mif_y h c1
    refine lv_iconst (v := 0) hx hb dX9_onGrid_24 (by decide) ?_
    exact m_zr hx hb hlk hr hR hS (Or.inl rfl) (congrArg (fun z => (z, M)) h.symm) dX9_onGrid_25
  · have h := mif_n h c1
    refine lv_iload_n hx hb dX9_onGrid_4 rfl (lv_at hl 0 rfl) ?_
    refine lv_bipush (v := 10) hx hb dX9_onGrid_5 (by decide) ?_
    refine lv_icmp_ge (tgt := 24) hx hb dX9_onGrid_7 (by decide) (fun c7 => ?_) (fun c7 => ?_)
    · have h := mif_y h c7
      refine lv_iconst (v := 0) hx hb dX9_onGrid_24 (by decide) ?_
      exact m_zr hx hb hlk hr hR hS (Or.inl rfl) (congrArg (fun z => (z, M)) h.symm) dX9_onGrid_25
    · have h := mif_n h c7
      refine lv_iload_n hx hb dX9_onGrid_10 rfl (lv_at hl 1 rfl) ?_
      refine lv_if_lt (tgt := 24) hx hb dX9_onGrid_11 (by decide) (fun c11 => ?_) (fun c11 => ?_)
      · have h := mif_y h c11
        refine lv_iconst (v := 0) hx hb dX9_onGrid_24 (by decide) ?_
        exact m_zr hx hb hlk hr hR hS (Or.inl rfl) (congrArg (fun z => (z, M)) h.symm) dX9_onGrid_25
      · have h := mif_n h c11
        refine lv_iload_n hx hb dX9_onGrid_14 rfl (lv_at hl 1 rfl) ?_
        refine lv_bipush (v := 8) hx hb dX9_onGrid_15 (by decide) ?_
        refine lv_icmp_ge (tgt := 24) hx hb dX9_onGrid_17 (by decide) (fun c17 => ?_) (fun c17 => ?_)
        · have h := mif_y h c17
          refine lv_iconst (v := 0) hx hb dX9_onGrid_24 (by decide) ?_
          exact m_zr hx hb hlk hr hR hS (Or.inl rfl) (congrArg (fun z => (z, M)) h.symm) dX9_onGrid_25
        · have h := mif_n h c17
          refine lv_iconst (v := 1) hx hb dX9_onGrid_20 (by decide) ?_
          refine lv_goto (tgt := 25) hx hb dX9_onGrid_21 (by decide) ?_
          exact m_zr hx hb hlk hr hR hS (Or.inr rfl) (congrArg (fun z => (z, M)) h.symm) dX9_onGrid_25
theorem c_X9_onGrid (l : Launch) (X : mX) (i0 : Int32) (i1 : Int32) (M : mM) : mMi l yX9_onGrid cX9_onGrid 2 (some .boolean) 0 0 X [.int i0, .int i1] M (f_X9_onGrid i0 i1, M) := m_ofi (by decide +kernel) (Nat.le_of_ble_eq_true rfl) rfl (fun p e s m args below meth c hs => w_X9_onGrid hs i0 i1 rfl)
set_option maxRecDepth 100000 in
set_option maxHeartbeats 4000000 in
theorem w_X9_cellOf {l : Launch} {X : mX} {p : Program} {e : Env} {s : State} {m : MethodId} {args : Array Value} {below : List Frame} {meth : Method} {c : Code} {M : mM} {r : Int32} (hs : mS X RX9 cX9_cellOf 2 (some .int) p s m meth c) : ∀ (i0 : Int32) (i1 : Int32), f_X9_cellOf i0 i1 = r → mG X p l e (rmF 0 0) s m args below meth c (MQ below (mQi X M r) args s 0 0 (mL X)) 2 0 [(0, .int i0), (1, .int i1)] [] M := by
  obtain ⟨hx, hb, hml, hown, hF, hlk, hr⟩ := id hs
  intro i0 i1 h H locs ls hR hS hl
  refine lv_iload_n hx hb dX9_cellOf_0 rfl (lv_at hl 1 rfl) ?_
  refine lv_iconst (v := 1) hx hb dX9_cellOf_1 (by decide) ?_
  refine lv_iadd hx hb dX9_cellOf_2 ?_
  refine lv_bipush (v := 12) hx hb dX9_cellOf_3 (by decide) ?_
  refine lv_imul hx hb dX9_cellOf_5 ?_
  refine lv_iload_n hx hb dX9_cellOf_6 rfl (lv_at hl 0 rfl) ?_
  refine lv_iadd hx hb dX9_cellOf_7 ?_
  refine lv_iconst (v := 1) hx hb dX9_cellOf_8 (by decide) ?_
  refine lv_iadd hx hb dX9_cellOf_9 ?_
  exact m_ir hx hb hlk hr hR hS (congrArg (fun z => (z, M)) h.symm) dX9_cellOf_10
theorem c_X9_cellOf (l : Launch) (X : mX) (i0 : Int32) (i1 : Int32) (M : mM) : mMi l yX9_cellOf cX9_cellOf 2 (some .int) 0 0 X [.int i0, .int i1] M (f_X9_cellOf i0 i1, M) := m_ofi (by decide +kernel) (Nat.le_of_ble_eq_true rfl) rfl (fun p e s m args below meth c hs => w_X9_cellOf hs i0 i1 rfl)
set_option maxRecDepth 100000 in
set_option maxHeartbeats 4000000 in
theorem w_X0_inCell {l : Launch} {X : mX} {p : Program} {e : Env} {s : State} {m : MethodId} {args : Array Value} {below : List Frame} {meth : Method} {c : Code} {M : mM} {r : Int32} (hs : mS X RX0 cX0_inCell 2 (some .int) p s m meth c) : ∀ (b : Nat) (i1 : Int32) (h_b : isBody b), f_X0_inCell b i1 M = some r → mG X p l e (rmF 0 0) s m args below meth c (MQ below (mQi X M r) args s 0 0 (mL X)) 2 0 [(0, .ref (X.1 b)), (1, .int i1)] [] M := by
  obtain ⟨hx, hb, hml, hown, hF, hlk, hr⟩ := id hs
  intro b i1 h_b h H locs ls hR hS hl
  refine lv_iload_n hx hb dX0_inCell_0 rfl (lv_at hl 1 rfl) ?_
  refine lv_if_lt (tgt := 19) hx hb dX0_inCell_1 (by decide) (fun c1 => ?_) (fun c1 => ?_)
  · have h := mif_y h c1
    refine lv_bipush (v := (-2)) hx hb dX0_inCell_19 (by decide) ?_
    exact m_ir hx hb hlk hr hR hS (congrArg (fun z => (z, M)) (Option.some.inj h).symm) dX0_inCell_21
  · have h := mif_n h c1
    refine lv_iload_n hx hb dX0_inCell_4 rfl (lv_at hl 1 rfl) ?_
    refine lv_bipush (v := 120) hx hb dX0_inCell_5 (by decide) ?_
    refine lv_icmp_ge (tgt := 19) hx hb dX0_inCell_7 (by decide) (fun c7 => ?_) (fun c7 => ?_)
    · have h := mif_y h c7
      refine lv_bipush (v := (-2)) hx hb dX0_inCell_19 (by decide) ?_
      exact m_ir hx hb hlk hr hR hS (congrArg (fun z => (z, M)) (Option.some.inj h).symm) dX0_inCell_21
    · have h := mif_n h c7
      refine lv_aload_n hx hb dX0_inCell_10 rfl (lv_at hl 0 rfl) ?_
      refine m_g0_6 hx hb hF hown hR (kBody0 h_b) mw_1_71 dX0_inCell_11 ?_
      refine lv_iload_n hx hb dX0_inCell_14 rfl (lv_at hl 1 rfl) ?_
      obtain ⟨g15, h⟩ := mgd_e h
      refine m_ialdL hx hb hR (kBody6 h_b) g15 (jn := (Int32.toNatClampNeg i1)) rfl dX0_inCell_15 ?_
      refine lv_goto (tgt := 21) hx hb dX0_inCell_16 (by decide) ?_
      exact m_ir hx hb hlk hr hR hS (congrArg (fun z => (z, M)) (Option.some.inj h).symm) dX0_inCell_21
theorem c_X0_inCell (l : Launch) (X : mX) (b : Nat) (i1 : Int32) (h_b : isBody b) (M : mM) {r : Int32} (h : f_X0_inCell b i1 M = some r) : mMi l yX0_inCell cX0_inCell 2 (some .int) 0 0 X [.ref (X.1 b), .int i1] M (r, M) := m_ofi (by decide +kernel) (Nat.le_of_ble_eq_true rfl) rfl (fun p e s m args below meth c hs => w_X0_inCell hs b i1 h_b h)
set_option maxRecDepth 100000 in
set_option maxHeartbeats 4000000 in
theorem w_X0_has {l : Launch} {X : mX} {p : Program} {e : Env} {s : State} {m : MethodId} {args : Array Value} {below : List Frame} {meth : Method} {c : Code} {M : mM} {r : Int32} (hs : mS X RX0 cX0_has 2 (some .boolean) p s m meth c) : ∀ (b : Nat) (i1 : Int32) (h_b : isBody b), f_X0_has b i1 M = r → mG X p l e (rmF 0 0) s m args below meth c (MQ below (mQi X M r) args s 0 0 (mL X)) 2 0 [(0, .ref (X.1 b)), (1, .int i1)] [] M := by
  obtain ⟨hx, hb, hml, hown, hF, hlk, hr⟩ := id hs
  intro b i1 h_b h H locs ls hR hS hl
  refine lv_iload_n hx hb dX0_has_0 rfl (lv_at hl 1 rfl) ?_
  refine lv_if_lt (tgt := 16) hx hb dX0_has_1 (by decide) (fun c1 => ?_) (fun c1 => ?_)
  · have h := mif_y h c1
    refine lv_iconst (v := 0) hx hb dX0_has_16 (by decide) ?_
    exact m_zr hx hb hlk hr hR hS (Or.inl rfl) (congrArg (fun z => (z, M)) h.symm) dX0_has_17
  · have h := mif_n h c1
    refine lv_iload_n hx hb dX0_has_4 rfl (lv_at hl 1 rfl) ?_
    refine lv_aload_n hx hb dX0_has_5 rfl (lv_at hl 0 rfl) ?_
    refine m_g0_0 hx hb hF hown hR (kBody0 h_b) mw_1_46 dX0_has_6 ?_
    refine lv_icmp_ge (tgt := 16) hx hb dX0_has_9 (by decide) (fun c9 => ?_) (fun c9 => ?_)
    · have h := mif_y h c9
      refine lv_iconst (v := 0) hx hb dX0_has_16 (by decide) ?_
      exact m_zr hx hb hlk hr hR hS (Or.inl rfl) (congrArg (fun z => (z, M)) h.symm) dX0_has_17
    · have h := mif_n h c9
      refine lv_iconst (v := 1) hx hb dX0_has_12 (by decide) ?_
      refine lv_goto (tgt := 17) hx hb dX0_has_13 (by decide) ?_
      exact m_zr hx hb hlk hr hR hS (Or.inr rfl) (congrArg (fun z => (z, M)) h.symm) dX0_has_17
theorem c_X0_has (l : Launch) (X : mX) (b : Nat) (i1 : Int32) (h_b : isBody b) (M : mM) : mMi l yX0_has cX0_has 2 (some .boolean) 0 0 X [.ref (X.1 b), .int i1] M (f_X0_has b i1 M, M) := m_ofi (by decide +kernel) (Nat.le_of_ble_eq_true rfl) rfl (fun p e s m args below meth c hs => w_X0_has hs b i1 h_b rfl)
set_option maxRecDepth 100000 in
set_option maxHeartbeats 4000000 in
theorem w_X9_levelOf {l : Launch} {X : mX} {p : Program} {e : Env} {s : State} {m : MethodId} {args : Array Value} {below : List Frame} {meth : Method} {c : Code} {M : mM} {r : Int32} (hs : mS X RX9 cX9_levelOf 1 (some .int) p s m meth c) : ∀ (i0 : Int32), f_X9_levelOf i0 = r → mG X p l e (rmF 0 0) s m args below meth c (MQ below (mQi X M r) args s 0 0 (mL X)) 1 0 [(0, .int i0)] [] M := by
  obtain ⟨hx, hb, hml, hown, hF, hlk, hr⟩ := id hs
  intro i0 h H locs ls hR hS hl
  refine lv_iload_n hx hb dX9_levelOf_0 rfl (lv_at hl 0 rfl) ?_
  refine lv_bipush (v := 12) hx hb dX9_levelOf_1 (by decide) ?_
  refine lv_idiv hx hb dX9_levelOf_3 (by decide) ?_
  refine lv_iconst (v := 1) hx hb dX9_levelOf_4 (by decide) ?_
  refine lv_isub hx hb dX9_levelOf_5 ?_
  exact m_ir hx hb hlk hr hR hS (congrArg (fun z => (z, M)) h.symm) dX9_levelOf_6
theorem c_X9_levelOf (l : Launch) (X : mX) (i0 : Int32) (M : mM) : mMi l yX9_levelOf cX9_levelOf 1 (some .int) 0 0 X [.int i0] M (f_X9_levelOf i0, M) := m_ofi (by decide +kernel) (Nat.le_of_ble_eq_true rfl) rfl (fun p e s m args below meth c hs => w_X9_levelOf hs i0 rfl)
set_option maxRecDepth 100000 in
set_option maxHeartbeats 4000000 in
theorem w_X0_holdsOn_b42 {l : Launch} {X : mX} {p : Program} {e : Env} {s : State} {m : MethodId} {args : Array Value} {below : List Frame} {meth : Method} {c : Code} {M : mM} {r : Int32} (hs : mS X RX0 cX0_holdsOn 6 (some .boolean) p s m meth c) : ∀ n : Nat, ∀ (b : Nat) (i1 : Int32) (i2 : Int32) (i4 : Int32) (h_b : isBody b), f_X0_holdsOn_b42 n b i1 i2 i4 M = some r → mG X p l e (rmF 1 21) s m args below meth c (MQ below (mQi X M r) args s 0 0 (mL X)) 6 42 [(0, .ref (X.1 b)), (1, .int i1), (2, .int i2), (4, .int i4)] [] M := by
  obtain ⟨hx, hb, hml, hown, hF, hlk, hr⟩ := id hs
  intro n
  induction n with
  | zero =>
    intro b i1 i2 i4 h_b h
    have h0 : (none : Option (Int32)) = some r := h
    cases h0
  | succ n ih =>
    intro b i1 i2 i4 h_b h H locs ls hR hS hl
    refine lv_iload hx hb dX0_holdsOn_42 (lv_at hl 3 rfl) ?_
    refine lv_iconst (v := 4) hx hb dX0_holdsOn_44 (by decide) ?_
    refine lv_icmp_ge (tgt := 81) hx hb dX0_holdsOn_45 (by decide) (fun c45 => ?_) (fun c45 => ?_)
    · have h := mif_y h c45
      refine lv_iconst (v := 0) hx hb dX0_holdsOn_81 (by decide) ?_
      exact m_zr hx hb hlk hr hR hS (Or.inl rfl) (congrArg (fun z => (z, M)) (Option.some.inj h).symm) dX0_holdsOn_82
    · have h := mif_n h c45
      refine lv_aload_n hx hb dX0_holdsOn_48 rfl (lv_at hl 0 rfl) ?_
      refine lv_iload_n hx hb dX0_holdsOn_49 rfl (lv_at hl 1 rfl) ?_
      refine m_gsN hx hb hF hS hown 3 (by decide) rfl 11 rfl dX0_holdsOn_50 ?_
      refine lv_iload hx hb dX0_holdsOn_53 (lv_at hl 3 rfl) ?_
      obtain ⟨g55, h⟩ := mgd_e h
      refine m_saidL hx hb hF hS 3 (by decide) (N := 8) rfl g55 (jn := (Int32.toNatClampNeg i4)) rfl dX0_holdsOn_55 ?_
      refine lv_iadd hx hb dX0_holdsOn_56 ?_
      obtain ⟨v57, q57, h⟩ := mbp_e h
      refine m_ci (m_rV hx hb hml hown hF hR hS (ent0 (kBody0 h_b)) (kBody0 h_b) rfl (c_X0_inCell l X b (i1 + (sVal 3 (Int32.toNatClampNeg i4))) h_b M q57) q_X0_51_V hdV_X0_inCell ⟨Nat.le_of_ble_eq_true rfl, Nat.le_of_ble_eq_true rfl⟩ rfl hl.1 rfl (Nat.le_of_ble_eq_true rfl) dX0_holdsOn_57) hS (fun H locs hR hS => ?_)
      refine lv_istore (lv' := [(5, .int v57), (0, .ref (X.1 b)), (1, .int i1), (2, .int i2), (4, .int i4)]) hx hb dX0_holdsOn_60 hl (by decide) rfl (fun ls hl => ?_)
      refine lv_iload hx hb dX0_holdsOn_62 (lv_at hl 0 rfl) ?_
      refine lv_if_lt (tgt := 75) hx hb dX0_holdsOn_64 (by decide) (fun c64 => ?_) (fun c64 => ?_)
      · have h := mif_y h c64
        obtain ⟨x75, ex75⟩ : ∃ y : Int32, y = (i4 + 1) := ⟨_, rfl⟩
        have h := mlt_n h x75 ex75
        refine lv_iinc (v := x75) (lv' := [(4, .int x75), (5, .int v57), (0, .ref (X.1 b)), (1, .int i1), (2, .int i2)]) hx hb dX0_holdsOn_75 hl (k := 4) rfl (by rw [ex75]; rfl) (by decide) rfl (fun ls hl => ?_)
        refine lv_goto (tgt := 42) hx hb dX0_holdsOn_78 (by decide) ?_
        exact ih b i1 i2 x75 h_b h H locs ls hR hS (lv_sub hl [2, 3, 4, 0] rfl)
      · have h := mif_n h c64
        refine lv_iload hx hb dX0_holdsOn_67 (lv_at hl 0 rfl) ?_
        refine lv_iload_n hx hb dX0_holdsOn_69 rfl (lv_at hl 3 rfl) ?_
        refine lv_icmp_eq (tgt := 75) hx hb dX0_holdsOn_70 (by decide) (fun c70 => ?_) (fun c70 => ?_)
        · have h := mif_y h c70
          obtain ⟨x75, ex75⟩ : ∃ y : Int32, y = (i4 + 1) := ⟨_, rfl⟩
          have h := mlt_n h x75 ex75
          refine lv_iinc (v := x75) (lv' := [(4, .int x75), (5, .int v57), (0, .ref (X.1 b)), (1, .int i1), (2, .int i2)]) hx hb dX0_holdsOn_75 hl (k := 4) rfl (by rw [ex75]; rfl) (by decide) rfl (fun ls hl => ?_)
          refine lv_goto (tgt := 42) hx hb dX0_holdsOn_78 (by decide) ?_
          exact ih b i1 i2 x75 h_b h H locs ls hR hS (lv_sub hl [2, 3, 4, 0] rfl)
        · have h := mif_n h c70
          refine lv_iconst (v := 1) hx hb dX0_holdsOn_73 (by decide) ?_
          exact m_zr hx hb hlk hr hR hS (Or.inr rfl) (congrArg (fun z => (z, M)) (Option.some.inj h).symm) dX0_holdsOn_74
set_option maxRecDepth 100000 in
set_option maxHeartbeats 4000000 in
theorem w_X0_holdsOn_b21 {l : Launch} {X : mX} {p : Program} {e : Env} {s : State} {m : MethodId} {args : Array Value} {below : List Frame} {meth : Method} {c : Code} {M : mM} {r : Int32} (hs : mS X RX0 cX0_holdsOn 6 (some .boolean) p s m meth c) : ∀ (b : Nat) (i1 : Int32) (i2 : Int32) (s0 : Int32) (h_b : isBody b), f_X0_holdsOn_b21 b i1 i2 s0 M = some r → mG X p l e (rmF 1 21) s m args below meth c (MQ below (mQi X M r) args s 0 0 (mL X)) 6 21 [(0, .ref (X.1 b)), (1, .int i1), (2, .int i2)] [.int s0] M := by
  obtain ⟨hx, hb, hml, hown, hF, hlk, hr⟩ := id hs
  intro b i1 i2 s0 h_b h H locs ls hR hS hl
  refine lv_istore_n (lv' := [(3, .int s0), (0, .ref (X.1 b)), (1, .int i1), (2, .int i2)]) hx hb dX0_holdsOn_21 rfl hl (by decide) rfl (fun ls hl => ?_)
  refine lv_iload_n hx hb dX0_holdsOn_22 rfl (lv_at hl 0 rfl) ?_
  refine lv_if_ne (tgt := 39) hx hb dX0_holdsOn_23 (by decide) (fun c23 => ?_) (fun c23 => ?_)
  · have h := mif_n h c23
    refine lv_iconst (v := 0) hx hb dX0_holdsOn_39 (by decide) ?_
    refine lv_istore (lv' := [(4, .int 0), (3, .int s0), (0, .ref (X.1 b)), (1, .int i1), (2, .int i2)]) hx hb dX0_holdsOn_40 hl (by decide) rfl (fun ls hl => ?_)
    exact w_X0_holdsOn_b42 hs mN b i1 i2 0 h_b h H locs ls hR hS (lv_sub hl [2, 3, 4, 0] rfl)
  · have h := mif_y h c23
    refine lv_iload_n hx hb dX0_holdsOn_26 rfl (lv_at hl 2 rfl) ?_
    refine m_ci (m_rSN hx hb hml hown hF hR hS (c_X9_levelOf l X i1 M) mw_1_45 mw_1_1 mw_1_44 2 rfl hdS_X9_levelOf ⟨Nat.le_of_ble_eq_true rfl, Nat.le_of_ble_eq_true rfl⟩ rfl hl.1 rfl (Nat.le_of_ble_eq_true rfl) dX0_holdsOn_27) hS (fun H locs hR hS => ?_)
    refine lv_if_ne (tgt := 37) hx hb dX0_holdsOn_30 (by decide) (fun c30 => ?_) (fun c30 => ?_)
    · have h := mif_n h c30
      refine lv_iconst (v := 0) hx hb dX0_holdsOn_37 (by decide) ?_
      exact m_zr hx hb hlk hr hR hS (Or.inl rfl) (congrArg (fun z => (z, M)) (Option.some.inj h).symm) dX0_holdsOn_38
    · have h := mif_y h c30
      refine lv_iconst (v := 1) hx hb dX0_holdsOn_33 (by decide) ?_
      refine lv_goto (tgt := 38) hx hb dX0_holdsOn_34 (by decide) ?_
      exact m_zr hx hb hlk hr hR hS (Or.inr rfl) (congrArg (fun z => (z, M)) (Option.some.inj h).symm) dX0_holdsOn_38
set_option maxRecDepth 100000 in
set_option maxHeartbeats 4000000 in
theorem w_X0_holdsOn {l : Launch} {X : mX} {p : Program} {e : Env} {s : State} {m : MethodId} {args : Array Value} {below : List Frame} {meth : Method} {c : Code} {M : mM} {r : Int32} (hs : mS X RX0 cX0_holdsOn 6 (some .boolean) p s m meth c) : ∀ (b : Nat) (i1 : Int32) (i2 : Int32) (h_b : isBody b), f_X0_holdsOn b i1 i2 M = some r → mG X p l e (rmF 1 21) s m args below meth c (MQ below (mQi X M r) args s 0 0 (mL X)) 6 0 [(0, .ref (X.1 b)), (1, .int i1), (2, .int i2)] [] M := by
  obtain ⟨hx, hb, hml, hown, hF, hlk, hr⟩ := id hs
  intro b i1 i2 h_b h H locs ls hR hS hl
  refine lv_aload_n hx hb dX0_holdsOn_0 rfl (lv_at hl 0 rfl) ?_
  refine lv_iload_n hx hb dX0_holdsOn_1 rfl (lv_at hl 2 rfl) ?_
  refine m_ci (m_rV hx hb hml hown hF hR hS (ent0 (kBody0 h_b)) (kBody0 h_b) rfl (c_X0_has l X b i2 h_b M) q_X0_54_V hdV_X0_has ⟨Nat.le_of_ble_eq_true rfl, Nat.le_of_ble_eq_true rfl⟩ rfl hl.1 rfl (Nat.le_of_ble_eq_true rfl) dX0_holdsOn_2) hS (fun H locs hR hS => ?_)
  refine lv_if_eq (tgt := 17) hx hb dX0_holdsOn_5 (by decide) (fun c5 => ?_) (fun c5 => ?_)
  · have h := mif_y h c5
    refine lv_aload_n hx hb dX0_holdsOn_17 rfl (lv_at hl 0 rfl) ?_
    refine m_g0_0 hx hb hF hown hR (kBody0 h_b) mw_1_46 dX0_holdsOn_18 ?_
    exact w_X0_holdsOn_b21 hs b i1 i2 (M.1 b 0) h_b h H locs ls hR hS (lv_sub hl [0, 1, 2] rfl)
  · have h := mif_n h c5
    refine lv_aload_n hx hb dX0_holdsOn_8 rfl (lv_at hl 0 rfl) ?_
    refine m_g0_0 hx hb hF hown hR (kBody0 h_b) mw_1_46 dX0_holdsOn_9 ?_
    refine lv_iconst (v := 1) hx hb dX0_holdsOn_12 (by decide) ?_
    refine lv_isub hx hb dX0_holdsOn_13 ?_
    refine lv_goto (tgt := 21) hx hb dX0_holdsOn_14 (by decide) ?_
    exact w_X0_holdsOn_b21 hs b i1 i2 ((M.1 b 0) - 1) h_b h H locs ls hR hS (lv_sub hl [0, 1, 2] rfl)
theorem c_X0_holdsOn (l : Launch) (X : mX) (b : Nat) (i1 : Int32) (i2 : Int32) (h_b : isBody b) (M : mM) {r : Int32} (h : f_X0_holdsOn b i1 i2 M = some r) : mMi l yX0_holdsOn cX0_holdsOn 6 (some .boolean) 1 21 X [.ref (X.1 b), .int i1, .int i2] M (r, M) := m_ofi (by decide +kernel) (Nat.le_of_ble_eq_true rfl) rfl (fun p e s m args below meth c hs => w_X0_holdsOn hs b i1 i2 h_b h)
set_option maxRecDepth 100000 in
set_option maxHeartbeats 4000000 in
theorem w_X0_place {l : Launch} {X : mX} {p : Program} {e : Env} {s : State} {m : MethodId} {args : Array Value} {below : List Frame} {meth : Method} {c : Code} {r : mM} (hs : mS X RX0 cX0_place 4 none p s m meth c) : ∀ (b : Nat) (i1 : Int32) (i2 : Int32) (i3 : Int32) (h_b : isBody b) (M : mM), f_X0_place b i1 i2 i3 M = some r → mG X p l e (rmF 1 21) s m args below meth c (MQ below (mQv X r) args s 0 0 (mL X)) 4 0 [(0, .ref (X.1 b)), (1, .int i1), (2, .int i2), (3, .int i3)] [] M := by
  obtain ⟨hx, hb, hml, hown, hF, hlk, hr⟩ := id hs
  intro b i1 i2 i3 h_b M h H locs ls hR hS hl
  refine lv_aload_n hx hb dX0_place_0 rfl (lv_at hl 0 rfl) ?_
  refine m_g0_0 hx hb hF hown hR (kBody0 h_b) mw_1_46 dX0_place_1 ?_
  refine lv_bipush (v := 16) hx hb dX0_place_4 (by decide) ?_
  refine lv_icmp_ge (tgt := 78) hx hb dX0_place_6 (by decide) (fun c6 => ?_) (fun c6 => ?_)
  · have h := mif_y h c6
    exact m_vr hx hb hlk hr hR hS (Option.some.inj h).symm dX0_place_78
  · have h := mif_n h c6
    refine lv_aload_n hx hb dX0_place_9 rfl (lv_at hl 0 rfl) ?_
    refine lv_iload_n hx hb dX0_place_10 rfl (lv_at hl 2 rfl) ?_
    obtain ⟨v11, q11, h⟩ := mbp_e h
    refine m_ci (m_rV hx hb hml hown hF hR hS (ent0 (kBody0 h_b)) (kBody0 h_b) rfl (c_X0_inCell l X b i2 h_b M q11) q_X0_51_V hdV_X0_inCell ⟨Nat.le_of_ble_eq_true rfl, Nat.le_of_ble_eq_true rfl⟩ rfl hl.1 rfl (Nat.le_of_ble_eq_true rfl) dX0_place_11) hS (fun H locs hR hS => ?_)
    refine lv_iconst (v := (-1)) hx hb dX0_place_14 (by decide) ?_
    refine lv_icmp_ne (tgt := 78) hx hb dX0_place_15 (by decide) (fun c15 => ?_) (fun c15 => ?_)
    · have h := mif_n h c15
      exact m_vr hx hb hlk hr hR hS (Option.some.inj h).symm dX0_place_78
    · have h := mif_y h c15
      refine lv_aload_n hx hb dX0_place_18 rfl (lv_at hl 0 rfl) ?_
      refine m_g0_1 hx hb hF hown hR (kBody0 h_b) mw_1_51 dX0_place_19 ?_
      refine lv_aload_n hx hb dX0_place_22 rfl (lv_at hl 0 rfl) ?_
      refine m_g0_0 hx hb hF hown hR (kBody0 h_b) mw_1_46 dX0_place_23 ?_
      refine lv_iload_n hx hb dX0_place_26 rfl (lv_at hl 1 rfl) ?_
      obtain ⟨g27, h⟩ := mgd_e h
      obtain ⟨M27, eM27⟩ : ∃ y : mM, y = mI M (b + 1) (Int32.toNatClampNeg (M.1 b 0)) i1 := ⟨_, rfl⟩
      have h := mlt_n h M27 eM27
      refine m_iastL hx hb hR hS (kBody1 h_b) g27 (jn := (Int32.toNatClampNeg (M.1 b 0))) rfl dX0_place_27 eM27 (fun H locs hR hS => ?_)
      refine lv_aload_n hx hb dX0_place_28 rfl (lv_at hl 0 rfl) ?_
      refine m_g0_2 hx hb hF hown hR (kBody0 h_b) mw_1_54 dX0_place_29 ?_
      refine lv_aload_n hx hb dX0_place_32 rfl (lv_at hl 0 rfl) ?_
      refine m_g0_0 hx hb hF hown hR (kBody0 h_b) mw_1_46 dX0_place_33 ?_
      refine lv_iload_n hx hb dX0_place_36 rfl (lv_at hl 2 rfl) ?_
      obtain ⟨g37, h⟩ := mgd_e h
      obtain ⟨M37, eM37⟩ : ∃ y : mM, y = mI M27 (b + 2) (Int32.toNatClampNeg (M27.1 b 0)) i2 := ⟨_, rfl⟩
      have h := mlt_n h M37 eM37
      refine m_iastL hx hb hR hS (kBody2 h_b) g37 (jn := (Int32.toNatClampNeg (M27.1 b 0))) rfl dX0_place_37 eM37 (fun H locs hR hS => ?_)
      refine lv_aload_n hx hb dX0_place_38 rfl (lv_at hl 0 rfl) ?_
      refine m_g0_3 hx hb hF hown hR (kBody0 h_b) mw_1_60 dX0_place_39 ?_
      refine lv_aload_n hx hb dX0_place_42 rfl (lv_at hl 0 rfl) ?_
      refine m_g0_0 hx hb hF hown hR (kBody0 h_b) mw_1_46 dX0_place_43 ?_
      refine lv_iload_n hx hb dX0_place_46 rfl (lv_at hl 3 rfl) ?_
      obtain ⟨g47, h⟩ := mgd_e h
      obtain ⟨M47, eM47⟩ : ∃ y : mM, y = mI M37 (b + 3) (Int32.toNatClampNeg (M37.1 b 0)) i3 := ⟨_, rfl⟩
      have h := mlt_n h M47 eM47
      refine m_iastL hx hb hR hS (kBody3 h_b) g47 (jn := (Int32.toNatClampNeg (M37.1 b 0))) rfl dX0_place_47 eM47 (fun H locs hR hS => ?_)
      refine lv_aload_n hx hb dX0_place_48 rfl (lv_at hl 0 rfl) ?_
      refine m_g0_4 hx hb hF hown hR (kBody0 h_b) mw_1_65 dX0_place_49 ?_
      refine lv_aload_n hx hb dX0_place_52 rfl (lv_at hl 0 rfl) ?_
      refine m_g0_0 hx hb hF hown hR (kBody0 h_b) mw_1_46 dX0_place_53 ?_
      refine lv_iconst (v := 0) hx hb dX0_place_56 (by decide) ?_
      obtain ⟨g57, h⟩ := mgd_e h
      obtain ⟨M57, eM57⟩ : ∃ y : mM, y = mI M47 (b + 4) (Int32.toNatClampNeg (M47.1 b 0)) 0 := ⟨_, rfl⟩
      have h := mlt_n h M57 eM57
      refine m_zastL hx hb hR hS (kBody4 h_b) g57 (jn := (Int32.toNatClampNeg (M47.1 b 0))) rfl rfl dX0_place_57 eM57 (fun H locs hR hS => ?_)
      refine lv_aload_n hx hb dX0_place_58 rfl (lv_at hl 0 rfl) ?_
      refine m_g0_6 hx hb hF hown hR (kBody0 h_b) mw_1_71 dX0_place_59 ?_
      refine lv_iload_n hx hb dX0_place_62 rfl (lv_at hl 2 rfl) ?_
      refine lv_aload_n hx hb dX0_place_63 rfl (lv_at hl 0 rfl) ?_
      refine m_g0_0 hx hb hF hown hR (kBody0 h_b) mw_1_46 dX0_place_64 ?_
      obtain ⟨g67, h⟩ := mgd_e h
      obtain ⟨M67, eM67⟩ : ∃ y : mM, y = mI M57 (b + 6) (Int32.toNatClampNeg i2) (M57.1 b 0) := ⟨_, rfl⟩
      have h := mlt_n h M67 eM67
      refine m_iastL hx hb hR hS (kBody6 h_b) g67 (jn := (Int32.toNatClampNeg i2)) rfl dX0_place_67 eM67 (fun H locs hR hS => ?_)
      refine lv_aload_n hx hb dX0_place_68 rfl (lv_at hl 0 rfl) ?_
      refine lv_dup hx hb dX0_place_69 rfl ?_
      refine m_g0_0 hx hb hF hown hR (kBody0 h_b) mw_1_46 dX0_place_70 ?_
      refine lv_iconst (v := 1) hx hb dX0_place_73 (by decide) ?_
      refine lv_iadd hx hb dX0_place_74 ?_
      obtain ⟨M75, eM75⟩ : ∃ y : mM, y = mI M67 b 0 ((M67.1 b 0) + 1) := ⟨_, rfl⟩
      have h := mlt_n h M75 eM75
      refine m_p0_0 hx hb hF hown hR hS (kBody0 h_b) mw_1_46 dX0_place_75 eM75 (fun H locs hR hS => ?_)
      exact m_vr hx hb hlk hr hR hS (Option.some.inj h).symm dX0_place_78
theorem c_X0_place (l : Launch) (X : mX) (b : Nat) (i1 : Int32) (i2 : Int32) (i3 : Int32) (h_b : isBody b) (M : mM) {r : mM} (h : f_X0_place b i1 i2 i3 M = some r) : mMv l yX0_place cX0_place 4 1 21 X [.ref (X.1 b), .int i1, .int i2, .int i3] M r := m_ofv (by decide +kernel) (Nat.le_of_ble_eq_true rfl) rfl (fun p e s m args below meth c hs => w_X0_place hs b i1 i2 i3 h_b M h)
set_option maxRecDepth 100000 in
set_option maxHeartbeats 4000000 in
theorem w_X8_addCube {l : Launch} {X : mX} {p : Program} {e : Env} {s : State} {m : MethodId} {args : Array Value} {below : List Frame} {meth : Method} {c : Code} {r : Int32 × mM} (hs : mS X RX8 cX8_addCube 5 (some .int) p s m meth c) : ∀ (b : Nat) (i1 : Int32) (i2 : Int32) (i3 : Int32) (h_b : isWorld b) (M : mM), f_X8_addCube b i1 i2 i3 M = some r → mG X p l e (rmF 2 44) s m args below meth c (MQ below (mQi X r.2 r.1) args s 0 0 (mL X)) 5 0 [(0, .ref (X.1 b)), (1, .int i1), (2, .int i2), (3, .int i3)] [] M := by
  obtain ⟨hx, hb, hml, hown, hF, hlk, hr⟩ := id hs
  intro b i1 i2 i3 h_b M h H locs ls hR hS hl
  refine lv_aload_n hx hb dX8_addCube_0 rfl (lv_at hl 0 rfl) ?_
  refine m_g7_0 hx hb hF hown hR (kWorld0 h_b) mw_1_116 dX8_addCube_1 ?_
  refine m_g0_0 hx hb hF hown hR (kWorld1 h_b) mw_1_49 dX8_addCube_4 ?_
  refine lv_topi (fun x7 ex7 => ?_)
  have h := mlt_n h x7 ex7
  refine lv_istore (lv' := [(4, .int x7), (0, .ref (X.1 b)), (1, .int i1), (2, .int i2), (3, .int i3)]) hx hb dX8_addCube_7 hl (by decide) rfl (fun ls hl => ?_)
  refine lv_iload hx hb dX8_addCube_9 (lv_at hl 0 rfl) ?_
  refine lv_bipush (v := 16) hx hb dX8_addCube_11 (by decide) ?_
  refine lv_icmp_lt (tgt := 19) hx hb dX8_addCube_13 (by decide) (fun c13 => ?_) (fun c13 => ?_)
  · have h := mif_y h c13
    refine lv_aload_n hx hb dX8_addCube_19 rfl (lv_at hl 1 rfl) ?_
    refine m_g7_0 hx hb hF hown hR (kWorld0 h_b) mw_1_116 dX8_addCube_20 ?_
    refine lv_iload_n hx hb dX8_addCube_23 rfl (lv_at hl 2 rfl) ?_
    refine lv_iload_n hx hb dX8_addCube_24 rfl (lv_at hl 3 rfl) ?_
    refine lv_iload_n hx hb dX8_addCube_25 rfl (lv_at hl 4 rfl) ?_
    obtain ⟨M26, q26, h⟩ := mbp_e h
    refine m_cv (m_rV hx hb hml hown hF hR hS (ent0 (kWorld1 h_b)) (kWorld1 h_b) rfl (c_X0_place l X (b + 1) i1 i2 i3 (kWorldB h_b) M q26) q_X8_79_V hdV_X0_place ⟨Nat.le_of_ble_eq_true rfl, Nat.le_of_ble_eq_true rfl⟩ rfl hl.1 rfl (Nat.le_of_ble_eq_true rfl) dX8_addCube_26) hS (fun H locs hR hS => ?_)
    refine lv_aload_n hx hb dX8_addCube_29 rfl (lv_at hl 1 rfl) ?_
    refine m_g7_2 hx hb hF hown hR (kWorld0 h_b) mw_1_123 dX8_addCube_30 ?_
    refine lv_iload hx hb dX8_addCube_33 (lv_at hl 0 rfl) ?_
    refine lv_iconst (v := 0) hx hb dX8_addCube_35 (by decide) ?_
    obtain ⟨g36, h⟩ := mgd_e h
    obtain ⟨M36, eM36⟩ : ∃ y : mM, y = mI M26 (b + 9) (Int32.toNatClampNeg x7) 0 := ⟨_, rfl⟩
    have h := mlt_n h M36 eM36
    refine m_iastL hx hb hR hS (kWorld9 h_b) g36 (jn := (Int32.toNatClampNeg x7)) rfl dX8_addCube_36 eM36 (fun H locs hR hS => ?_)
    refine lv_aload_n hx hb dX8_addCube_37 rfl (lv_at hl 1 rfl) ?_
    refine m_g7_3 hx hb hF hown hR (kWorld0 h_b) mw_1_126 dX8_addCube_38 ?_
    refine lv_iload hx hb dX8_addCube_41 (lv_at hl 0 rfl) ?_
    refine lv_iconst (v := 0) hx hb dX8_addCube_43 (by decide) ?_
    obtain ⟨g44, h⟩ := mgd_e h
    obtain ⟨M44, eM44⟩ : ∃ y : mM, y = mI M36 (b + 10) (Int32.toNatClampNeg x7) 0 := ⟨_, rfl⟩
    have h := mlt_n h M44 eM44
    refine m_iastL hx hb hR hS (kWorld10 h_b) g44 (jn := (Int32.toNatClampNeg x7)) rfl dX8_addCube_44 eM44 (fun H locs hR hS => ?_)
    refine lv_aload_n hx hb dX8_addCube_45 rfl (lv_at hl 1 rfl) ?_
    refine m_g7_4 hx hb hF hown hR (kWorld0 h_b) mw_1_128 dX8_addCube_46 ?_
    refine lv_iload hx hb dX8_addCube_49 (lv_at hl 0 rfl) ?_
    refine lv_iconst (v := 0) hx hb dX8_addCube_51 (by decide) ?_
    obtain ⟨g52, h⟩ := mgd_e h
    obtain ⟨M52, eM52⟩ : ∃ y : mM, y = mI M44 (b + 11) (Int32.toNatClampNeg x7) 0 := ⟨_, rfl⟩
    have h := mlt_n h M52 eM52
    refine m_iastL hx hb hR hS (kWorld11 h_b) g52 (jn := (Int32.toNatClampNeg x7)) rfl dX8_addCube_52 eM52 (fun H locs hR hS => ?_)
    refine lv_aload_n hx hb dX8_addCube_53 rfl (lv_at hl 1 rfl) ?_
    refine m_g7_5 hx hb hF hown hR (kWorld0 h_b) mw_1_131 dX8_addCube_54 ?_
    refine lv_iload hx hb dX8_addCube_57 (lv_at hl 0 rfl) ?_
    refine lv_iconst (v := (-1)) hx hb dX8_addCube_59 (by decide) ?_
    obtain ⟨g60, h⟩ := mgd_e h
    obtain ⟨M60, eM60⟩ : ∃ y : mM, y = mI M52 (b + 12) (Int32.toNatClampNeg x7) (-1) := ⟨_, rfl⟩
    have h := mlt_n h M60 eM60
    refine m_iastL hx hb hR hS (kWorld12 h_b) g60 (jn := (Int32.toNatClampNeg x7)) rfl dX8_addCube_60 eM60 (fun H locs hR hS => ?_)
    refine lv_iload hx hb dX8_addCube_61 (lv_at hl 0 rfl) ?_
    exact m_ir hx hb hlk hr hR hS (Option.some.inj h).symm dX8_addCube_63
  · have h := mif_n h c13
    refine lv_bipush (v := (-2)) hx hb dX8_addCube_16 (by decide) ?_
    exact m_ir hx hb hlk hr hR hS (Option.some.inj h).symm dX8_addCube_18
theorem c_X8_addCube (l : Launch) (X : mX) (b : Nat) (i1 : Int32) (i2 : Int32) (i3 : Int32) (h_b : isWorld b) (M : mM) {r : Int32 × mM} (h : f_X8_addCube b i1 i2 i3 M = some r) : mMi l yX8_addCube cX8_addCube 5 (some .int) 2 44 X [.ref (X.1 b), .int i1, .int i2, .int i3] M r := m_ofi (by decide +kernel) (Nat.le_of_ble_eq_true rfl) rfl (fun p e s m args below meth c hs => w_X8_addCube hs b i1 i2 i3 h_b M h)
set_option maxRecDepth 100000 in
set_option maxHeartbeats 4000000 in
theorem w_X9_cube {l : Launch} {X : mX} {p : Program} {e : Env} {s : State} {m : MethodId} {args : Array Value} {below : List Frame} {meth : Method} {c : Code} {r : Int32 × mM} (hs : mS X RX9 cX9_cube 6 (some .int) p s m meth c) : ∀ (i1 : Int32) (i2 : Int32) (i3 : Int32) (i4 : Int32) (M : mM), f_X9_cube i1 i2 i3 i4 M = some r → mG X p l e (rmF 3 68) s m args below meth c (MQ below (mQi X r.2 r.1) args s 0 0 (mL X)) 6 0 [(0, .ref (X.1 0)), (1, .int i1), (2, .int i2), (3, .int i3), (4, .int i4)] [] M := by
  obtain ⟨hx, hb, hml, hown, hF, hlk, hr⟩ := id hs
  intro i1 i2 i3 i4 M h H locs ls hR hS hl
  refine lv_iload_n hx hb dX9_cube_0 rfl (lv_at hl 1 rfl) ?_
  refine lv_if_lt (tgt := 30) hx hb dX9_cube_1 (by decide) (fun c1 => ?_) (fun c1 => ?_)
  · have h := mif_y h c1
    refine lv_iconst (v := (-1)) hx hb dX9_cube_30 (by decide) ?_
    exact m_ir hx hb hlk hr hR hS (Option.some.inj h).symm dX9_cube_31
  · have h := mif_n h c1
    refine lv_iload_n hx hb dX9_cube_4 rfl (lv_at hl 1 rfl) ?_
    refine lv_iconst (v := 4) hx hb dX9_cube_5 (by decide) ?_
    refine lv_icmp_ge (tgt := 30) hx hb dX9_cube_6 (by decide) (fun c6 => ?_) (fun c6 => ?_)
    · have h := mif_y h c6
      refine lv_iconst (v := (-1)) hx hb dX9_cube_30 (by decide) ?_
      exact m_ir hx hb hlk hr hR hS (Option.some.inj h).symm dX9_cube_31
    · have h := mif_n h c6
      refine lv_iload_n hx hb dX9_cube_9 rfl (lv_at hl 2 rfl) ?_
      refine lv_iload_n hx hb dX9_cube_10 rfl (lv_at hl 3 rfl) ?_
      refine m_ci (m_rS hx hb hml hown hF hR hS (c_X9_onGrid l X i2 i3 M) q_X9_65_S hdS_X9_onGrid ⟨Nat.le_of_ble_eq_true rfl, Nat.le_of_ble_eq_true rfl⟩ rfl hl.1 rfl (Nat.le_of_ble_eq_true rfl) dX9_cube_11) hS (fun H locs hR hS => ?_)
      refine lv_if_eq (tgt := 30) hx hb dX9_cube_14 (by decide) (fun c14 => ?_) (fun c14 => ?_)
      · have h := mif_y h c14
        refine lv_iconst (v := (-1)) hx hb dX9_cube_30 (by decide) ?_
        exact m_ir hx hb hlk hr hR hS (Option.some.inj h).symm dX9_cube_31
      · have h := mif_n h c14
        refine lv_iload hx hb dX9_cube_17 (lv_at hl 4 rfl) ?_
        refine lv_if_lt (tgt := 30) hx hb dX9_cube_19 (by decide) (fun c19 => ?_) (fun c19 => ?_)
        · have h := mif_y h c19
          refine lv_iconst (v := (-1)) hx hb dX9_cube_30 (by decide) ?_
          exact m_ir hx hb hlk hr hR hS (Option.some.inj h).symm dX9_cube_31
        · have h := mif_n h c19
          refine lv_iload hx hb dX9_cube_22 (lv_at hl 4 rfl) ?_
          refine lv_sipush (v := 999) hx hb dX9_cube_24 (by decide) ?_
          refine lv_icmp_le (tgt := 32) hx hb dX9_cube_27 (by decide) (fun c27 => ?_) (fun c27 => ?_)
          · have h := mif_y h c27
            refine lv_aload_n hx hb dX9_cube_32 rfl (lv_at hl 0 rfl) ?_
            refine m_g8_0 hx hb hF hown hR kd_0 mw_2_42 dX9_cube_33 ?_
            refine m_g7_0 hx hb hF hown hR kd_1 mw_1_118 dX9_cube_36 ?_
            refine m_g0_0 hx hb hF hown hR kd_2 mw_1_48 dX9_cube_39 ?_
            refine lv_bipush (v := 16) hx hb dX9_cube_42 (by decide) ?_
            refine lv_icmp_lt (tgt := 50) hx hb dX9_cube_44 (by decide) (fun c44 => ?_) (fun c44 => ?_)
            · have h := mif_y h c44
              refine lv_iload_n hx hb dX9_cube_50 rfl (lv_at hl 2 rfl) ?_
              refine lv_iload_n hx hb dX9_cube_51 rfl (lv_at hl 3 rfl) ?_
              refine m_ci (m_rS hx hb hml hown hF hR hS (c_X9_cellOf l X i2 i3 M) q_X9_76_S hdS_X9_cellOf ⟨Nat.le_of_ble_eq_true rfl, Nat.le_of_ble_eq_true rfl⟩ rfl hl.1 rfl (Nat.le_of_ble_eq_true rfl) dX9_cube_52) hS (fun H locs hR hS => ?_)
              refine lv_topi (fun x55 ex55 => ?_)
              have h := mlt_n h x55 ex55
              refine lv_istore (lv' := [(5, .int x55), (0, .ref (X.1 0)), (1, .int i1), (2, .int i2), (3, .int i3), (4, .int i4)]) hx hb dX9_cube_55 hl (by decide) rfl (fun ls hl => ?_)
              refine lv_aload_n hx hb dX9_cube_57 rfl (lv_at hl 1 rfl) ?_
              refine m_g8_0 hx hb hF hown hR kd_0 mw_2_42 dX9_cube_58 ?_
              refine m_g7_0 hx hb hF hown hR kd_1 mw_1_118 dX9_cube_61 ?_
              refine lv_iload hx hb dX9_cube_64 (lv_at hl 0 rfl) ?_
              obtain ⟨v66, q66, h⟩ := mbp_e h
              refine m_ci (m_rV hx hb hml hown hF hR hS (ent0 kd_2) kd_2 rfl (c_X0_inCell l X 2 x55 isBody_2 M q66) q_X9_80_V hdV_X0_inCell ⟨Nat.le_of_ble_eq_true rfl, Nat.le_of_ble_eq_true rfl⟩ rfl hl.1 rfl (Nat.le_of_ble_eq_true rfl) dX9_cube_66) hS (fun H locs hR hS => ?_)
              refine lv_iconst (v := (-1)) hx hb dX9_cube_69 (by decide) ?_
              refine lv_icmp_ne (tgt := 89) hx hb dX9_cube_70 (by decide) (fun c70 => ?_) (fun c70 => ?_)
              · have h := mif_n h c70
                refine lv_bipush (v := (-3)) hx hb dX9_cube_89 (by decide) ?_
                exact m_ir hx hb hlk hr hR hS (Option.some.inj h).symm dX9_cube_91
              · have h := mif_y h c70
                refine lv_aload_n hx hb dX9_cube_73 rfl (lv_at hl 1 rfl) ?_
                refine m_g8_0 hx hb hF hown hR kd_0 mw_2_42 dX9_cube_74 ?_
                refine m_g7_0 hx hb hF hown hR kd_1 mw_1_118 dX9_cube_77 ?_
                refine lv_iload hx hb dX9_cube_80 (lv_at hl 0 rfl) ?_
                refine lv_iconst (v := (-1)) hx hb dX9_cube_82 (by decide) ?_
                obtain ⟨v83, q83, h⟩ := mbp_e h
                refine m_ci (m_rV hx hb hml hown hF hR hS (ent0 kd_2) kd_2 rfl (c_X0_holdsOn l X 2 x55 (-1) isBody_2 M q83) q_X9_84_V hdV_X0_holdsOn ⟨Nat.le_of_ble_eq_true rfl, Nat.le_of_ble_eq_true rfl⟩ rfl hl.1 rfl (Nat.le_of_ble_eq_true rfl) dX9_cube_83) hS (fun H locs hR hS => ?_)
                refine lv_if_ne (tgt := 92) hx hb dX9_cube_86 (by decide) (fun c86 => ?_) (fun c86 => ?_)
                · have h := mif_n h c86
                  refine lv_aload_n hx hb dX9_cube_92 rfl (lv_at hl 1 rfl) ?_
                  refine m_g8_0 hx hb hF hown hR kd_0 mw_2_42 dX9_cube_93 ?_
                  refine lv_iload_n hx hb dX9_cube_96 rfl (lv_at hl 2 rfl) ?_
                  refine lv_iload hx hb dX9_cube_97 (lv_at hl 0 rfl) ?_
                  refine lv_iload hx hb dX9_cube_99 (lv_at hl 5 rfl) ?_
                  obtain ⟨v101, M101, q101, h⟩ := mbw_e h
                  refine m_ci (m_rV hx hb hml hown hF hR hS (ent7 kd_1) kd_1 rfl (c_X8_addCube l X 1 i1 x55 i4 isWorld_1 M q101) q_X9_87_V hdV_X8_addCube ⟨Nat.le_of_ble_eq_true rfl, Nat.le_of_ble_eq_true rfl⟩ rfl hl.1 rfl (Nat.le_of_ble_eq_true rfl) dX9_cube_101) hS (fun H locs hR hS => ?_)
                  exact m_ir hx hb hlk hr hR hS (Option.some.inj h).symm dX9_cube_104
                · have h := mif_y h c86
                  refine lv_bipush (v := (-3)) hx hb dX9_cube_89 (by decide) ?_
                  exact m_ir hx hb hlk hr hR hS (Option.some.inj h).symm dX9_cube_91
            · have h := mif_n h c44
              refine lv_bipush (v := (-2)) hx hb dX9_cube_47 (by decide) ?_
              exact m_ir hx hb hlk hr hR hS (Option.some.inj h).symm dX9_cube_49
          · have h := mif_n h c27
            refine lv_iconst (v := (-1)) hx hb dX9_cube_30 (by decide) ?_
            exact m_ir hx hb hlk hr hR hS (Option.some.inj h).symm dX9_cube_31
theorem c_X9_cube (l : Launch) (X : mX) (i1 : Int32) (i2 : Int32) (i3 : Int32) (i4 : Int32) (M : mM) {r : Int32 × mM} (h : f_X9_cube i1 i2 i3 i4 M = some r) : mMi l yX9_cube cX9_cube 6 (some .int) 3 68 X [.ref (X.1 0), .int i1, .int i2, .int i3, .int i4] M r := m_ofi (by decide +kernel) (Nat.le_of_ble_eq_true rfl) rfl (fun p e s m args below meth c hs => w_X9_cube hs i1 i2 i3 i4 M h)
set_option maxRecDepth 100000 in
set_option maxHeartbeats 4000000 in
theorem w_X9_columnOf {l : Launch} {X : mX} {p : Program} {e : Env} {s : State} {m : MethodId} {args : Array Value} {below : List Frame} {meth : Method} {c : Code} {M : mM} {r : Int32} (hs : mS X RX9 cX9_columnOf 1 (some .int) p s m meth c) : ∀ (i0 : Int32), f_X9_columnOf i0 = r → mG X p l e (rmF 0 0) s m args below meth c (MQ below (mQi X M r) args s 0 0 (mL X)) 1 0 [(0, .int i0)] [] M := by
  obtain ⟨hx, hb, hml, hown, hF, hlk, hr⟩ := id hs
  intro i0 h H locs ls hR hS hl
  refine lv_iload_n hx hb dX9_columnOf_0 rfl (lv_at hl 0 rfl) ?_
  refine lv_bipush (v := 12) hx hb dX9_columnOf_1 (by decide) ?_
  refine lv_irem hx hb dX9_columnOf_3 (by decide) ?_
  refine lv_iconst (v := 1) hx hb dX9_columnOf_4 (by decide) ?_
  refine lv_isub hx hb dX9_columnOf_5 ?_
  exact m_ir hx hb hlk hr hR hS (congrArg (fun z => (z, M)) h.symm) dX9_columnOf_6
theorem c_X9_columnOf (l : Launch) (X : mX) (i0 : Int32) (M : mM) : mMi l yX9_columnOf cX9_columnOf 1 (some .int) 0 0 X [.int i0] M (f_X9_columnOf i0, M) := m_ofi (by decide +kernel) (Nat.le_of_ble_eq_true rfl) rfl (fun p e s m args below meth c hs => w_X9_columnOf hs i0 rfl)
set_option maxRecDepth 100000 in
set_option maxHeartbeats 4000000 in
theorem w_X9_oneIf {l : Launch} {X : mX} {p : Program} {e : Env} {s : State} {m : MethodId} {args : Array Value} {below : List Frame} {meth : Method} {c : Code} {M : mM} {r : Int32} (hs : mS X RX9 cX9_oneIf 1 (some .int) p s m meth c) : ∀ (i0 : Int32), f_X9_oneIf i0 = r → mG X p l e (rmF 0 0) s m args below meth c (MQ below (mQi X M r) args s 0 0 (mL X)) 1 0 [(0, .int i0)] [] M := by
  obtain ⟨hx, hb, hml, hown, hF, hlk, hr⟩ := id hs
  intro i0 h H locs ls hR hS hl
  refine lv_iload_n hx hb dX9_oneIf_0 rfl (lv_at hl 0 rfl) ?_
  refine lv_if_eq (tgt := 8) hx hb dX9_oneIf_1 (by decide) (fun c1 => ?_) (fun c1 => ?_)
  · have h := mif_y h c1
    refine lv_iconst (v := 0) hx hb dX9_oneIf_8 (by decide) ?_
    exact m_ir hx hb hlk hr hR hS (congrArg (fun z => (z, M)) h.symm) dX9_oneIf_9
  · have h := mif_n h c1
    refine lv_iconst (v := 1) hx hb dX9_oneIf_4 (by decide) ?_
    refine lv_goto (tgt := 9) hx hb dX9_oneIf_5 (by decide) ?_
    exact m_ir hx hb hlk hr hR hS (congrArg (fun z => (z, M)) h.symm) dX9_oneIf_9
theorem c_X9_oneIf (l : Launch) (X : mX) (i0 : Int32) (M : mM) : mMi l yX9_oneIf cX9_oneIf 1 (some .int) 0 0 X [.int i0] M (f_X9_oneIf i0, M) := m_ofi (by decide +kernel) (Nat.le_of_ble_eq_true rfl) rfl (fun p e s m args below meth c hs => w_X9_oneIf hs i0 rfl)
set_option maxRecDepth 100000 in
set_option maxHeartbeats 4000000 in
theorem w_X0_hangs {l : Launch} {X : mX} {p : Program} {e : Env} {s : State} {m : MethodId} {args : Array Value} {below : List Frame} {meth : Method} {c : Code} {M : mM} {r : Int32} (hs : mS X RX0 cX0_hangs 2 (some .boolean) p s m meth c) : ∀ (b : Nat) (i1 : Int32) (h_b : isBody b), f_X0_hangs b i1 M = some r → mG X p l e (rmF 1 21) s m args below meth c (MQ below (mQi X M r) args s 0 0 (mL X)) 2 0 [(0, .ref (X.1 b)), (1, .int i1)] [] M := by
  obtain ⟨hx, hb, hml, hown, hF, hlk, hr⟩ := id hs
  intro b i1 h_b h H locs ls hR hS hl
  refine lv_aload_n hx hb dX0_hangs_0 rfl (lv_at hl 0 rfl) ?_
  refine lv_iload_n hx hb dX0_hangs_1 rfl (lv_at hl 1 rfl) ?_
  refine lv_bipush (v := 12) hx hb dX0_hangs_2 (by decide) ?_
  refine lv_isub hx hb dX0_hangs_4 ?_
  obtain ⟨v5, q5, h⟩ := mbp_e h
  refine m_ci (m_rV hx hb hml hown hF hR hS (ent0 (kBody0 h_b)) (kBody0 h_b) rfl (c_X0_inCell l X b (i1 - 12) h_b M q5) q_X0_51_V hdV_X0_inCell ⟨Nat.le_of_ble_eq_true rfl, Nat.le_of_ble_eq_true rfl⟩ rfl hl.1 rfl (Nat.le_of_ble_eq_true rfl) dX0_hangs_5) hS (fun H locs hR hS => ?_)
  refine lv_iconst (v := (-1)) hx hb dX0_hangs_8 (by decide) ?_
  refine lv_icmp_ne (tgt := 16) hx hb dX0_hangs_9 (by decide) (fun c9 => ?_) (fun c9 => ?_)
  · have h := mif_n h c9
    refine lv_iconst (v := 0) hx hb dX0_hangs_16 (by decide) ?_
    exact m_zr hx hb hlk hr hR hS (Or.inl rfl) (congrArg (fun z => (z, M)) (Option.some.inj h).symm) dX0_hangs_17
  · have h := mif_y h c9
    refine lv_iconst (v := 1) hx hb dX0_hangs_12 (by decide) ?_
    refine lv_goto (tgt := 17) hx hb dX0_hangs_13 (by decide) ?_
    exact m_zr hx hb hlk hr hR hS (Or.inr rfl) (congrArg (fun z => (z, M)) (Option.some.inj h).symm) dX0_hangs_17
theorem c_X0_hangs (l : Launch) (X : mX) (b : Nat) (i1 : Int32) (h_b : isBody b) (M : mM) {r : Int32} (h : f_X0_hangs b i1 M = some r) : mMi l yX0_hangs cX0_hangs 2 (some .boolean) 1 21 X [.ref (X.1 b), .int i1] M (r, M) := m_ofi (by decide +kernel) (Nat.le_of_ble_eq_true rfl) rfl (fun p e s m args below meth c hs => w_X0_hangs hs b i1 h_b h)
set_option maxRecDepth 100000 in
set_option maxHeartbeats 4000000 in
theorem w_X0_passOn_b82 {l : Launch} {X : mX} {p : Program} {e : Env} {s : State} {m : MethodId} {args : Array Value} {below : List Frame} {meth : Method} {c : Code} {r : mM} (hs : mS X RX0 cX0_passOn 7 none p s m meth c) : ∀ (b : Nat) (i2 : Int32) (i5 : Int32) (i6 : Int32) (h_b : isBody b) (M : mM), f_X0_passOn_b82 b i2 i5 i6 M = some r → mG X p l e (rmF 1 21) s m args below meth c (MQ below (mQv X r) args s 0 0 (mL X)) 7 82 [(0, .ref (X.1 b)), (2, .int i2), (5, .int i5), (6, .int i6)] [] M := by
  obtain ⟨hx, hb, hml, hown, hF, hlk, hr⟩ := id hs
  intro b i2 i5 i6 h_b M h H locs ls hR hS hl
  refine lv_iload hx hb dX0_passOn_82 (lv_at hl 2 rfl) ?_
  refine lv_if_lt (tgt := 101) hx hb dX0_passOn_84 (by decide) (fun c84 => ?_) (fun c84 => ?_)
  · have h := mif_y h c84
    exact m_vr hx hb hlk hr hR hS (Option.some.inj h).symm dX0_passOn_101
  · have h := mif_n h c84
    refine lv_aload_n hx hb dX0_passOn_87 rfl (lv_at hl 0 rfl) ?_
    refine m_g0_5 hx hb hF hown hR (kBody0 h_b) mw_1_69 dX0_passOn_88 ?_
    refine lv_iload hx hb dX0_passOn_91 (lv_at hl 2 rfl) ?_
    refine lv_dup2_11 hx hb dX0_passOn_93 rfl rfl ?_
    obtain ⟨g94, h⟩ := mgd_e h
    refine m_ialdL hx hb hR (kBody5 h_b) g94 (jn := (Int32.toNatClampNeg i5)) rfl dX0_passOn_94 ?_
    refine lv_iload_n hx hb dX0_passOn_95 rfl (lv_at hl 1 rfl) ?_
    refine lv_iload hx hb dX0_passOn_96 (lv_at hl 3 rfl) ?_
    refine lv_isub hx hb dX0_passOn_98 ?_
    refine lv_iadd hx hb dX0_passOn_99 ?_
    obtain ⟨g100, h⟩ := mgd_e h
    obtain ⟨M100, eM100⟩ : ∃ y : mM, y = mI M (b + 5) (Int32.toNatClampNeg i5) ((M.1 (b + 5) (Int32.toNatClampNeg i5)) + (i2 - i6)) := ⟨_, rfl⟩
    have h := mlt_n h M100 eM100
    refine m_iastL hx hb hR hS (kBody5 h_b) g100 (jn := (Int32.toNatClampNeg i5)) rfl dX0_passOn_100 eM100 (fun H locs hR hS => ?_)
    exact m_vr hx hb hlk hr hR hS (Option.some.inj h).symm dX0_passOn_101
set_option maxRecDepth 100000 in
set_option maxHeartbeats 4000000 in
theorem w_X0_passOn_b63 {l : Launch} {X : mX} {p : Program} {e : Env} {s : State} {m : MethodId} {args : Array Value} {below : List Frame} {meth : Method} {c : Code} {r : mM} (hs : mS X RX0 cX0_passOn 7 none p s m meth c) : ∀ (b : Nat) (i2 : Int32) (i4 : Int32) (i5 : Int32) (s0 : Int32) (h_b : isBody b) (M : mM), f_X0_passOn_b63 b i2 i4 i5 s0 M = some r → mG X p l e (rmF 1 21) s m args below meth c (MQ below (mQv X r) args s 0 0 (mL X)) 7 63 [(0, .ref (X.1 b)), (2, .int i2), (4, .int i4), (5, .int i5)] [.int s0] M := by
  obtain ⟨hx, hb, hml, hown, hF, hlk, hr⟩ := id hs
  intro b i2 i4 i5 s0 h_b M h H locs ls hR hS hl
  refine lv_istore (lv' := [(6, .int s0), (0, .ref (X.1 b)), (2, .int i2), (4, .int i4), (5, .int i5)]) hx hb dX0_passOn_63 hl (by decide) rfl (fun ls hl => ?_)
  refine lv_iload hx hb dX0_passOn_65 (lv_at hl 3 rfl) ?_
  refine lv_if_lt (tgt := 82) hx hb dX0_passOn_67 (by decide) (fun c67 => ?_) (fun c67 => ?_)
  · have h := mif_y h c67
    exact w_X0_passOn_b82 hs b i2 i5 s0 h_b M h H locs ls hR hS (lv_sub hl [1, 2, 4, 0] rfl)
  · have h := mif_n h c67
    refine lv_aload_n hx hb dX0_passOn_70 rfl (lv_at hl 1 rfl) ?_
    refine m_g0_5 hx hb hF hown hR (kBody0 h_b) mw_1_69 dX0_passOn_71 ?_
    refine lv_iload hx hb dX0_passOn_74 (lv_at hl 3 rfl) ?_
    refine lv_dup2_11 hx hb dX0_passOn_76 rfl rfl ?_
    obtain ⟨g77, h⟩ := mgd_e h
    refine m_ialdL hx hb hR (kBody5 h_b) g77 (jn := (Int32.toNatClampNeg i4)) rfl dX0_passOn_77 ?_
    refine lv_iload hx hb dX0_passOn_78 (lv_at hl 0 rfl) ?_
    refine lv_iadd hx hb dX0_passOn_80 ?_
    obtain ⟨g81, h⟩ := mgd_e h
    obtain ⟨M81, eM81⟩ : ∃ y : mM, y = mI M (b + 5) (Int32.toNatClampNeg i4) ((M.1 (b + 5) (Int32.toNatClampNeg i4)) + s0) := ⟨_, rfl⟩
    have h := mlt_n h M81 eM81
    refine m_iastL hx hb hR hS (kBody5 h_b) g81 (jn := (Int32.toNatClampNeg i4)) rfl dX0_passOn_81 eM81 (fun H locs hR hS => ?_)
    exact w_X0_passOn_b82 hs b i2 i5 s0 h_b M81 h H locs ls hR hS (lv_sub hl [1, 2, 4, 0] rfl)
set_option maxRecDepth 100000 in
set_option maxHeartbeats 4000000 in
theorem w_X0_passOn {l : Launch} {X : mX} {p : Program} {e : Env} {s : State} {m : MethodId} {args : Array Value} {below : List Frame} {meth : Method} {c : Code} {r : mM} (hs : mS X RX0 cX0_passOn 7 none p s m meth c) : ∀ (b : Nat) (i1 : Int32) (i2 : Int32) (h_b : isBody b) (M : mM), f_X0_passOn b i1 i2 M = some r → mG X p l e (rmF 1 21) s m args below meth c (MQ below (mQv X r) args s 0 0 (mL X)) 7 0 [(0, .ref (X.1 b)), (1, .int i1), (2, .int i2)] [] M := by
  obtain ⟨hx, hb, hml, hown, hF, hlk, hr⟩ := id hs
  intro b i1 i2 h_b M h H locs ls hR hS hl
  refine lv_aload_n hx hb dX0_passOn_0 rfl (lv_at hl 0 rfl) ?_
  refine lv_iload_n hx hb dX0_passOn_1 rfl (lv_at hl 1 rfl) ?_
  refine lv_bipush (v := 12) hx hb dX0_passOn_2 (by decide) ?_
  refine lv_isub hx hb dX0_passOn_4 ?_
  obtain ⟨v5, q5, h⟩ := mbp_e h
  refine m_ci (m_rV hx hb hml hown hF hR hS (ent0 (kBody0 h_b)) (kBody0 h_b) rfl (c_X0_inCell l X b (i1 - 12) h_b M q5) q_X0_51_V hdV_X0_inCell ⟨Nat.le_of_ble_eq_true rfl, Nat.le_of_ble_eq_true rfl⟩ rfl hl.1 rfl (Nat.le_of_ble_eq_true rfl) dX0_passOn_5) hS (fun H locs hR hS => ?_)
  refine lv_istore_n (lv' := [(3, .int v5), (0, .ref (X.1 b)), (1, .int i1), (2, .int i2)]) hx hb dX0_passOn_8 rfl hl (by decide) rfl (fun ls hl => ?_)
  refine lv_iload_n hx hb dX0_passOn_9 rfl (lv_at hl 0 rfl) ?_
  refine lv_if_lt (tgt := 24) hx hb dX0_passOn_10 (by decide) (fun c10 => ?_) (fun c10 => ?_)
  · have h := mif_y h c10
    refine lv_aload_n hx hb dX0_passOn_24 rfl (lv_at hl 1 rfl) ?_
    refine lv_iload_n hx hb dX0_passOn_25 rfl (lv_at hl 2 rfl) ?_
    refine lv_iconst (v := 1) hx hb dX0_passOn_26 (by decide) ?_
    refine lv_iadd hx hb dX0_passOn_27 ?_
    obtain ⟨v28, q28, h⟩ := mbp_e h
    refine m_ci (m_rV hx hb hml hown hF hR hS (ent0 (kBody0 h_b)) (kBody0 h_b) rfl (c_X0_inCell l X b (i1 + 1) h_b M q28) q_X0_51_V hdV_X0_inCell ⟨Nat.le_of_ble_eq_true rfl, Nat.le_of_ble_eq_true rfl⟩ rfl hl.1 rfl (Nat.le_of_ble_eq_true rfl) dX0_passOn_28) hS (fun H locs hR hS => ?_)
    refine lv_istore (lv' := [(4, .int v28), (3, .int v5), (0, .ref (X.1 b)), (1, .int i1), (2, .int i2)]) hx hb dX0_passOn_31 hl (by decide) rfl (fun ls hl => ?_)
    refine lv_aload_n hx hb dX0_passOn_33 rfl (lv_at hl 2 rfl) ?_
    refine lv_iload_n hx hb dX0_passOn_34 rfl (lv_at hl 3 rfl) ?_
    refine lv_iconst (v := 1) hx hb dX0_passOn_35 (by decide) ?_
    refine lv_isub hx hb dX0_passOn_36 ?_
    obtain ⟨v37, q37, h⟩ := mbp_e h
    refine m_ci (m_rV hx hb hml hown hF hR hS (ent0 (kBody0 h_b)) (kBody0 h_b) rfl (c_X0_inCell l X b (i1 - 1) h_b M q37) q_X0_51_V hdV_X0_inCell ⟨Nat.le_of_ble_eq_true rfl, Nat.le_of_ble_eq_true rfl⟩ rfl hl.1 rfl (Nat.le_of_ble_eq_true rfl) dX0_passOn_37) hS (fun H locs hR hS => ?_)
    refine lv_istore (lv' := [(5, .int v37), (4, .int v28), (3, .int v5), (0, .ref (X.1 b)), (1, .int i1), (2, .int i2)]) hx hb dX0_passOn_40 hl (by decide) rfl (fun ls hl => ?_)
    refine lv_iload hx hb dX0_passOn_42 (lv_at hl 1 rfl) ?_
    refine lv_if_ge (tgt := 51) hx hb dX0_passOn_44 (by decide) (fun c44 => ?_) (fun c44 => ?_)
    · have h := mif_y h c44
      refine lv_iload hx hb dX0_passOn_51 (lv_at hl 0 rfl) ?_
      refine lv_if_ge (tgt := 60) hx hb dX0_passOn_53 (by decide) (fun c53 => ?_) (fun c53 => ?_)
      · have h := mif_y h c53
        refine lv_iload_n hx hb dX0_passOn_60 rfl (lv_at hl 5 rfl) ?_
        refine lv_iconst (v := 2) hx hb dX0_passOn_61 (by decide) ?_
        refine lv_idiv hx hb dX0_passOn_62 (by decide) ?_
        exact w_X0_passOn_b63 hs b i2 v28 v37 (i2 / 2) h_b M h H locs ls hR hS (lv_sub hl [3, 5, 1, 0] rfl)
      · have h := mif_n h c53
        refine lv_iload_n hx hb dX0_passOn_56 rfl (lv_at hl 5 rfl) ?_
        refine lv_goto (tgt := 63) hx hb dX0_passOn_57 (by decide) ?_
        exact w_X0_passOn_b63 hs b i2 v28 v37 i2 h_b M h H locs ls hR hS (lv_sub hl [3, 5, 1, 0] rfl)
    · have h := mif_n h c44
      refine lv_iconst (v := 0) hx hb dX0_passOn_47 (by decide) ?_
      refine lv_goto (tgt := 63) hx hb dX0_passOn_48 (by decide) ?_
      exact w_X0_passOn_b63 hs b i2 v28 v37 0 h_b M h H locs ls hR hS (lv_sub hl [3, 5, 1, 0] rfl)
  · have h := mif_n h c10
    refine lv_aload_n hx hb dX0_passOn_13 rfl (lv_at hl 1 rfl) ?_
    refine m_g0_5 hx hb hF hown hR (kBody0 h_b) mw_1_69 dX0_passOn_14 ?_
    refine lv_iload_n hx hb dX0_passOn_17 rfl (lv_at hl 0 rfl) ?_
    refine lv_dup2_11 hx hb dX0_passOn_18 rfl rfl ?_
    obtain ⟨g19, h⟩ := mgd_e h
    refine m_ialdL hx hb hR (kBody5 h_b) g19 (jn := (Int32.toNatClampNeg v5)) rfl dX0_passOn_19 ?_
    refine lv_iload_n hx hb dX0_passOn_20 rfl (lv_at hl 3 rfl) ?_
    refine lv_iadd hx hb dX0_passOn_21 ?_
    obtain ⟨g22, h⟩ := mgd_e h
    obtain ⟨M22, eM22⟩ : ∃ y : mM, y = mI M (b + 5) (Int32.toNatClampNeg v5) ((M.1 (b + 5) (Int32.toNatClampNeg v5)) + i2) := ⟨_, rfl⟩
    have h := mlt_n h M22 eM22
    refine m_iastL hx hb hR hS (kBody5 h_b) g22 (jn := (Int32.toNatClampNeg v5)) rfl dX0_passOn_22 eM22 (fun H locs hR hS => ?_)
    exact m_vr hx hb hlk hr hR hS (Option.some.inj h).symm dX0_passOn_23
theorem c_X0_passOn (l : Launch) (X : mX) (b : Nat) (i1 : Int32) (i2 : Int32) (h_b : isBody b) (M : mM) {r : mM} (h : f_X0_passOn b i1 i2 M = some r) : mMv l yX0_passOn cX0_passOn 7 1 21 X [.ref (X.1 b), .int i1, .int i2] M r := m_ofv (by decide +kernel) (Nat.le_of_ble_eq_true rfl) rfl (fun p e s m args below meth c hs => w_X0_passOn hs b i1 i2 h_b M h)
set_option maxRecDepth 100000 in
set_option maxHeartbeats 4000000 in
theorem w_X0_passRowOn_b2 {l : Launch} {X : mX} {p : Program} {e : Env} {s : State} {m : MethodId} {args : Array Value} {below : List Frame} {meth : Method} {c : Code} {r : mM} (hs : mS X RX0 cX0_passRowOn 6 none p s m meth c) : ∀ n : Nat, ∀ (b : Nat) (i1 : Int32) (i2 : Int32) (i3 : Int32) (h_b : isBody b) (M : mM), f_X0_passRowOn_b2 n b i1 i2 i3 M = some r → mG X p l e (rmF 2 47) s m args below meth c (MQ below (mQv X r) args s 0 0 (mL X)) 6 2 [(0, .ref (X.1 b)), (1, .int i1), (2, .int i2), (3, .int i3)] [] M := by
  obtain ⟨hx, hb, hml, hown, hF, hlk, hr⟩ := id hs
  intro n
  induction n with
  | zero =>
    intro b i1 i2 i3 h_b M h
    have h0 : (none : Option (mM)) = some r := h
    cases h0
  | succ n ih =>
    intro b i1 i2 i3 h_b M h H locs ls hR hS hl
    refine lv_iload_n hx hb dX0_passRowOn_2 rfl (lv_at hl 3 rfl) ?_
    refine lv_bipush (v := 10) hx hb dX0_passRowOn_3 (by decide) ?_
    refine lv_icmp_ge (tgt := 69) hx hb dX0_passRowOn_5 (by decide) (fun c5 => ?_) (fun c5 => ?_)
    · have h := mif_y h c5
      exact m_vr hx hb hlk hr hR hS (Option.some.inj h).symm dX0_passRowOn_69
    · have h := mif_n h c5
      refine lv_iload_n hx hb dX0_passRowOn_8 rfl (lv_at hl 3 rfl) ?_
      refine lv_iload_n hx hb dX0_passRowOn_9 rfl (lv_at hl 1 rfl) ?_
      refine m_ci (m_rSN hx hb hml hown hF hR hS (c_X9_cellOf l X i3 i1 M) mw_2_79 mw_1_1 mw_2_78 12 rfl hdS_X9_cellOf ⟨Nat.le_of_ble_eq_true rfl, Nat.le_of_ble_eq_true rfl⟩ rfl hl.1 rfl (Nat.le_of_ble_eq_true rfl) dX0_passRowOn_10) hS (fun H locs hR hS => ?_)
      refine lv_topi (fun x13 ex13 => ?_)
      have h := mlt_n h x13 ex13
      refine lv_istore (lv' := [(4, .int x13), (0, .ref (X.1 b)), (1, .int i1), (2, .int i2), (3, .int i3)]) hx hb dX0_passRowOn_13 hl (by decide) rfl (fun ls hl => ?_)
      refine lv_aload_n hx hb dX0_passRowOn_15 rfl (lv_at hl 1 rfl) ?_
      refine lv_iload hx hb dX0_passRowOn_16 (lv_at hl 0 rfl) ?_
      obtain ⟨v18, q18, h⟩ := mbp_e h
      refine m_ci (m_rV hx hb hml hown hF hR hS (ent0 (kBody0 h_b)) (kBody0 h_b) rfl (c_X0_inCell l X b x13 h_b M q18) q_X0_51_V hdV_X0_inCell ⟨Nat.le_of_ble_eq_true rfl, Nat.le_of_ble_eq_true rfl⟩ rfl hl.1 rfl (Nat.le_of_ble_eq_true rfl) dX0_passRowOn_18) hS (fun H locs hR hS => ?_)
      refine lv_istore (lv' := [(5, .int v18), (4, .int x13), (0, .ref (X.1 b)), (1, .int i1), (2, .int i2), (3, .int i3)]) hx hb dX0_passRowOn_21 hl (by decide) rfl (fun ls hl => ?_)
      refine lv_iload hx hb dX0_passRowOn_23 (lv_at hl 0 rfl) ?_
      refine lv_if_lt (tgt := 63) hx hb dX0_passRowOn_25 (by decide) (fun c25 => ?_) (fun c25 => ?_)
      · have h := mif_y h c25
        obtain ⟨x63, ex63⟩ : ∃ y : Int32, y = (i3 + 1) := ⟨_, rfl⟩
        have h := mlt_n h x63 ex63
        refine lv_iinc (v := x63) (lv' := [(3, .int x63), (5, .int v18), (4, .int x13), (0, .ref (X.1 b)), (1, .int i1), (2, .int i2)]) hx hb dX0_passRowOn_63 hl (k := 5) rfl (by rw [ex63]; rfl) (by decide) rfl (fun ls hl => ?_)
        refine lv_goto (tgt := 2) hx hb dX0_passRowOn_66 (by decide) ?_
        exact ih b i1 i2 x63 h_b M h H locs ls hR hS (lv_sub hl [3, 4, 5, 0] rfl)
      · have h := mif_n h c25
        refine lv_aload_n hx hb dX0_passRowOn_28 rfl (lv_at hl 2 rfl) ?_
        refine lv_iload hx hb dX0_passRowOn_29 (lv_at hl 1 rfl) ?_
        obtain ⟨v31, q31, h⟩ := mbp_e h
        refine m_ci (m_rV hx hb hml hown hF hR hS (ent0 (kBody0 h_b)) (kBody0 h_b) rfl (c_X0_hangs l X b x13 h_b M q31) q_X0_101_V hdV_X0_hangs ⟨Nat.le_of_ble_eq_true rfl, Nat.le_of_ble_eq_true rfl⟩ rfl hl.1 rfl (Nat.le_of_ble_eq_true rfl) dX0_passRowOn_31) hS (fun H locs hR hS => ?_)
        refine lv_iload_n hx hb dX0_passRowOn_34 rfl (lv_at hl 4 rfl) ?_
        refine lv_icmp_ne (tgt := 63) hx hb dX0_passRowOn_35 (by decide) (fun c35 => ?_) (fun c35 => ?_)
        · have h := mif_n h c35
          obtain ⟨x63, ex63⟩ : ∃ y : Int32, y = (i3 + 1) := ⟨_, rfl⟩
          have h := mlt_n h x63 ex63
          refine lv_iinc (v := x63) (lv' := [(3, .int x63), (5, .int v18), (4, .int x13), (0, .ref (X.1 b)), (1, .int i1), (2, .int i2)]) hx hb dX0_passRowOn_63 hl (k := 5) rfl (by rw [ex63]; rfl) (by decide) rfl (fun ls hl => ?_)
          refine lv_goto (tgt := 2) hx hb dX0_passRowOn_66 (by decide) ?_
          exact ih b i1 i2 x63 h_b M h H locs ls hR hS (lv_sub hl [3, 4, 5, 0] rfl)
        · have h := mif_y h c35
          refine lv_aload_n hx hb dX0_passRowOn_38 rfl (lv_at hl 2 rfl) ?_
          refine lv_iload hx hb dX0_passRowOn_39 (lv_at hl 1 rfl) ?_
          refine m_gsN hx hb hF hS hown 0 (by decide) rfl 13 rfl dX0_passRowOn_41 ?_
          refine lv_aload_n hx hb dX0_passRowOn_44 rfl (lv_at hl 2 rfl) ?_
          refine m_g0_1 hx hb hF hown hR (kBody0 h_b) mw_1_51 dX0_passRowOn_45 ?_
          refine lv_iload hx hb dX0_passRowOn_48 (lv_at hl 0 rfl) ?_
          obtain ⟨g50, h⟩ := mgd_e h
          refine m_ialdL hx hb hR (kBody1 h_b) g50 (jn := (Int32.toNatClampNeg v18)) rfl dX0_passRowOn_50 ?_
          obtain ⟨g51, h⟩ := mgd_e h
          refine m_saidL hx hb hF hS 0 (by decide) (N := 4) rfl g51 (jn := (Int32.toNatClampNeg (M.1 (b + 1) (Int32.toNatClampNeg v18)))) rfl dX0_passRowOn_51 ?_
          refine lv_aload_n hx hb dX0_passRowOn_52 rfl (lv_at hl 2 rfl) ?_
          refine m_g0_5 hx hb hF hown hR (kBody0 h_b) mw_1_69 dX0_passRowOn_53 ?_
          refine lv_iload hx hb dX0_passRowOn_56 (lv_at hl 0 rfl) ?_
          obtain ⟨g58, h⟩ := mgd_e h
          refine m_ialdL hx hb hR (kBody5 h_b) g58 (jn := (Int32.toNatClampNeg v18)) rfl dX0_passRowOn_58 ?_
          refine lv_iadd hx hb dX0_passRowOn_59 ?_
          obtain ⟨M60, q60, h⟩ := mbp_e h
          refine m_cv (m_rV hx hb hml hown hF hR hS (ent0 (kBody0 h_b)) (kBody0 h_b) rfl (c_X0_passOn l X b x13 ((sVal 0 (Int32.toNatClampNeg (M.1 (b + 1) (Int32.toNatClampNeg v18)))) + (M.1 (b + 5) (Int32.toNatClampNeg v18))) h_b M q60) q_X0_107_V hdV_X0_passOn ⟨Nat.le_of_ble_eq_true rfl, Nat.le_of_ble_eq_true rfl⟩ rfl hl.1 rfl (Nat.le_of_ble_eq_true rfl) dX0_passRowOn_60) hS (fun H locs hR hS => ?_)
          obtain ⟨x63, ex63⟩ : ∃ y : Int32, y = (i3 + 1) := ⟨_, rfl⟩
          have h := mlt_n h x63 ex63
          refine lv_iinc (v := x63) (lv' := [(3, .int x63), (5, .int v18), (4, .int x13), (0, .ref (X.1 b)), (1, .int i1), (2, .int i2)]) hx hb dX0_passRowOn_63 hl (k := 5) rfl (by rw [ex63]; rfl) (by decide) rfl (fun ls hl => ?_)
          refine lv_goto (tgt := 2) hx hb dX0_passRowOn_66 (by decide) ?_
          exact ih b i1 i2 x63 h_b M60 h H locs ls hR hS (lv_sub hl [3, 4, 5, 0] rfl)
set_option maxRecDepth 100000 in
set_option maxHeartbeats 4000000 in
theorem w_X0_passRowOn {l : Launch} {X : mX} {p : Program} {e : Env} {s : State} {m : MethodId} {args : Array Value} {below : List Frame} {meth : Method} {c : Code} {r : mM} (hs : mS X RX0 cX0_passRowOn 6 none p s m meth c) : ∀ (b : Nat) (i1 : Int32) (i2 : Int32) (h_b : isBody b) (M : mM), f_X0_passRowOn b i1 i2 M = some r → mG X p l e (rmF 2 47) s m args below meth c (MQ below (mQv X r) args s 0 0 (mL X)) 6 0 [(0, .ref (X.1 b)), (1, .int i1), (2, .int i2)] [] M := by
  obtain ⟨hx, hb, hml, hown, hF, hlk, hr⟩ := id hs
  intro b i1 i2 h_b M h H locs ls hR hS hl
  refine lv_iconst (v := 0) hx hb dX0_passRowOn_0 (by decide) ?_
  refine lv_istore_n (lv' := [(3, .int 0), (0, .ref (X.1 b)), (1, .int i1), (2, .int i2)]) hx hb dX0_passRowOn_1 rfl hl (by decide) rfl (fun ls hl => ?_)
  exact w_X0_passRowOn_b2 hs mN b i1 i2 0 h_b M h H locs ls hR hS (lv_sub hl [1, 2, 3, 0] rfl)
theorem c_X0_passRowOn (l : Launch) (X : mX) (b : Nat) (i1 : Int32) (i2 : Int32) (h_b : isBody b) (M : mM) {r : mM} (h : f_X0_passRowOn b i1 i2 M = some r) : mMv l yX0_passRowOn cX0_passRowOn 6 2 47 X [.ref (X.1 b), .int i1, .int i2] M r := m_ofv (by decide +kernel) (Nat.le_of_ble_eq_true rfl) rfl (fun p e s m args below meth c hs => w_X0_passRowOn hs b i1 i2 h_b M h)
set_option maxRecDepth 100000 in
set_option maxHeartbeats 4000000 in
theorem w_X0_weigh_b26 {l : Launch} {X : mX} {p : Program} {e : Env} {s : State} {m : MethodId} {args : Array Value} {below : List Frame} {meth : Method} {c : Code} {r : mM} (hs : mS X RX0 cX0_weigh 2 none p s m meth c) : ∀ n : Nat, ∀ (b : Nat) (i1 : Int32) (h_b : isBody b) (M : mM), f_X0_weigh_b26 n b i1 M = some r → mG X p l e (rmF 3 72) s m args below meth c (MQ below (mQv X r) args s 0 0 (mL X)) 2 26 [(0, .ref (X.1 b)), (1, .int i1)] [] M := by
  obtain ⟨hx, hb, hml, hown, hF, hlk, hr⟩ := id hs
  intro n
  induction n with
  | zero =>
    intro b i1 h_b M h
    have h0 : (none : Option (mM)) = some r := h
    cases h0
  | succ n ih =>
    intro b i1 h_b M h H locs ls hR hS hl
    refine lv_iload_n hx hb dX0_weigh_26 rfl (lv_at hl 1 rfl) ?_
    refine lv_if_le (tgt := 48) hx hb dX0_weigh_27 (by decide) (fun c27 => ?_) (fun c27 => ?_)
    · have h := mif_y h c27
      exact m_vr hx hb hlk hr hR hS (Option.some.inj h).symm dX0_weigh_48
    · have h := mif_n h c27
      refine lv_aload_n hx hb dX0_weigh_30 rfl (lv_at hl 0 rfl) ?_
      refine lv_iload_n hx hb dX0_weigh_31 rfl (lv_at hl 1 rfl) ?_
      refine lv_iconst (v := 1) hx hb dX0_weigh_32 (by decide) ?_
      obtain ⟨M33, q33, h⟩ := mbp_e h
      refine m_cv (m_rV hx hb hml hown hF hR hS (ent0 (kBody0 h_b)) (kBody0 h_b) rfl (c_X0_passRowOn l X b i1 1 h_b M q33) q_X0_93_V hdV_X0_passRowOn ⟨Nat.le_of_ble_eq_true rfl, Nat.le_of_ble_eq_true rfl⟩ rfl hl.1 rfl (Nat.le_of_ble_eq_true rfl) dX0_weigh_33) hS (fun H locs hR hS => ?_)
      refine lv_aload_n hx hb dX0_weigh_36 rfl (lv_at hl 0 rfl) ?_
      refine lv_iload_n hx hb dX0_weigh_37 rfl (lv_at hl 1 rfl) ?_
      refine lv_iconst (v := 0) hx hb dX0_weigh_38 (by decide) ?_
      obtain ⟨M39, q39, h⟩ := mbp_e h
      refine m_cv (m_rV hx hb hml hown hF hR hS (ent0 (kBody0 h_b)) (kBody0 h_b) rfl (c_X0_passRowOn l X b i1 0 h_b M33 q39) q_X0_93_V hdV_X0_passRowOn ⟨Nat.le_of_ble_eq_true rfl, Nat.le_of_ble_eq_true rfl⟩ rfl hl.1 rfl (Nat.le_of_ble_eq_true rfl) dX0_weigh_39) hS (fun H locs hR hS => ?_)
      obtain ⟨x42, ex42⟩ : ∃ y : Int32, y = (i1 + (-1)) := ⟨_, rfl⟩
      have h := mlt_n h x42 ex42
      refine lv_iinc (v := x42) (lv' := [(1, .int x42), (0, .ref (X.1 b))]) hx hb dX0_weigh_42 hl (k := 1) rfl (by rw [ex42]; rfl) (by decide) rfl (fun ls hl => ?_)
      refine lv_goto (tgt := 26) hx hb dX0_weigh_45 (by decide) ?_
      exact ih b x42 h_b M39 h H locs ls hR hS (lv_sub hl [1, 0] rfl)
set_option maxRecDepth 100000 in
set_option maxHeartbeats 4000000 in
theorem w_X0_weigh_b2 {l : Launch} {X : mX} {p : Program} {e : Env} {s : State} {m : MethodId} {args : Array Value} {below : List Frame} {meth : Method} {c : Code} {r : mM} (hs : mS X RX0 cX0_weigh 2 none p s m meth c) : ∀ n : Nat, ∀ (b : Nat) (i1 : Int32) (h_b : isBody b) (M : mM), f_X0_weigh_b2 n b i1 M = some r → mG X p l e (rmF 3 72) s m args below meth c (MQ below (mQv X r) args s 0 0 (mL X)) 2 2 [(0, .ref (X.1 b)), (1, .int i1)] [] M := by
  obtain ⟨hx, hb, hml, hown, hF, hlk, hr⟩ := id hs
  intro n
  induction n with
  | zero =>
    intro b i1 h_b M h
    have h0 : (none : Option (mM)) = some r := h
    cases h0
  | succ n ih =>
    intro b i1 h_b M h H locs ls hR hS hl
    refine lv_iload_n hx hb dX0_weigh_2 rfl (lv_at hl 1 rfl) ?_
    refine lv_aload_n hx hb dX0_weigh_3 rfl (lv_at hl 0 rfl) ?_
    refine m_g0_0 hx hb hF hown hR (kBody0 h_b) mw_1_46 dX0_weigh_4 ?_
    refine lv_icmp_ge (tgt := 23) hx hb dX0_weigh_7 (by decide) (fun c7 => ?_) (fun c7 => ?_)
    · have h := mif_y h c7
      refine lv_bipush (v := 7) hx hb dX0_weigh_23 (by decide) ?_
      refine lv_istore_n (lv' := [(1, .int 7), (0, .ref (X.1 b))]) hx hb dX0_weigh_25 rfl hl (by decide) rfl (fun ls hl => ?_)
      exact w_X0_weigh_b26 hs mN b 7 h_b M h H locs ls hR hS (lv_sub hl [1, 0] rfl)
    · have h := mif_n h c7
      refine lv_aload_n hx hb dX0_weigh_10 rfl (lv_at hl 0 rfl) ?_
      refine m_g0_5 hx hb hF hown hR (kBody0 h_b) mw_1_69 dX0_weigh_11 ?_
      refine lv_iload_n hx hb dX0_weigh_14 rfl (lv_at hl 1 rfl) ?_
      refine lv_iconst (v := 0) hx hb dX0_weigh_15 (by decide) ?_
      obtain ⟨g16, h⟩ := mgd_e h
      obtain ⟨M16, eM16⟩ : ∃ y : mM, y = mI M (b + 5) (Int32.toNatClampNeg i1) 0 := ⟨_, rfl⟩
      have h := mlt_n h M16 eM16
      refine m_iastL hx hb hR hS (kBody5 h_b) g16 (jn := (Int32.toNatClampNeg i1)) rfl dX0_weigh_16 eM16 (fun H locs hR hS => ?_)
      obtain ⟨x17, ex17⟩ : ∃ y : Int32, y = (i1 + 1) := ⟨_, rfl⟩
      have h := mlt_n h x17 ex17
      refine lv_iinc (v := x17) (lv' := [(1, .int x17), (0, .ref (X.1 b))]) hx hb dX0_weigh_17 hl (k := 1) rfl (by rw [ex17]; rfl) (by decide) rfl (fun ls hl => ?_)
      refine lv_goto (tgt := 2) hx hb dX0_weigh_20 (by decide) ?_
      exact ih b x17 h_b M16 h H locs ls hR hS (lv_sub hl [1, 0] rfl)
set_option maxRecDepth 100000 in
set_option maxHeartbeats 4000000 in
theorem w_X0_weigh {l : Launch} {X : mX} {p : Program} {e : Env} {s : State} {m : MethodId} {args : Array Value} {below : List Frame} {meth : Method} {c : Code} {r : mM} (hs : mS X RX0 cX0_weigh 2 none p s m meth c) : ∀ (b : Nat) (h_b : isBody b) (M : mM), f_X0_weigh b M = some r → mG X p l e (rmF 3 72) s m args below meth c (MQ below (mQv X r) args s 0 0 (mL X)) 2 0 [(0, .ref (X.1 b))] [] M := by
  obtain ⟨hx, hb, hml, hown, hF, hlk, hr⟩ := id hs
  intro b h_b M h H locs ls hR hS hl
  refine lv_iconst (v := 0) hx hb dX0_weigh_0 (by decide) ?_
  refine lv_istore_n (lv' := [(1, .int 0), (0, .ref (X.1 b))]) hx hb dX0_weigh_1 rfl hl (by decide) rfl (fun ls hl => ?_)
  exact w_X0_weigh_b2 hs mN b 0 h_b M h H locs ls hR hS (lv_sub hl [1, 0] rfl)
theorem c_X0_weigh (l : Launch) (X : mX) (b : Nat) (h_b : isBody b) (M : mM) {r : mM} (h : f_X0_weigh b M = some r) : mMv l yX0_weigh cX0_weigh 2 3 72 X [.ref (X.1 b)] M r := m_ofv (by decide +kernel) (Nat.le_of_ble_eq_true rfl) rfl (fun p e s m args below meth c hs => w_X0_weigh hs b h_b M h)
set_option maxRecDepth 100000 in
set_option maxHeartbeats 4000000 in
theorem w_X0_loadOf {l : Launch} {X : mX} {p : Program} {e : Env} {s : State} {m : MethodId} {args : Array Value} {below : List Frame} {meth : Method} {c : Code} {r : Int32 × mM} (hs : mS X RX0 cX0_loadOf 2 (some .int) p s m meth c) : ∀ (b : Nat) (i1 : Int32) (h_b : isBody b) (M : mM), f_X0_loadOf b i1 M = some r → mG X p l e (rmF 4 93) s m args below meth c (MQ below (mQi X r.2 r.1) args s 0 0 (mL X)) 2 0 [(0, .ref (X.1 b)), (1, .int i1)] [] M := by
  obtain ⟨hx, hb, hml, hown, hF, hlk, hr⟩ := id hs
  intro b i1 h_b M h H locs ls hR hS hl
  refine lv_aload_n hx hb dX0_loadOf_0 rfl (lv_at hl 0 rfl) ?_
  obtain ⟨M1, q1, h⟩ := mbp_e h
  refine m_cv (m_rV hx hb hml hown hF hR hS (ent0 (kBody0 h_b)) (kBody0 h_b) rfl (c_X0_weigh l X b h_b M q1) q_X0_90_V hdV_X0_weigh ⟨Nat.le_of_ble_eq_true rfl, Nat.le_of_ble_eq_true rfl⟩ rfl hl.1 rfl (Nat.le_of_ble_eq_true rfl) dX0_loadOf_1) hS (fun H locs hR hS => ?_)
  refine lv_aload_n hx hb dX0_loadOf_4 rfl (lv_at hl 0 rfl) ?_
  refine m_g0_5 hx hb hF hown hR (kBody0 h_b) mw_1_69 dX0_loadOf_5 ?_
  refine lv_iload_n hx hb dX0_loadOf_8 rfl (lv_at hl 1 rfl) ?_
  obtain ⟨g9, h⟩ := mgd_e h
  refine m_ialdL hx hb hR (kBody5 h_b) g9 (jn := (Int32.toNatClampNeg i1)) rfl dX0_loadOf_9 ?_
  exact m_ir hx hb hlk hr hR hS (Option.some.inj h).symm dX0_loadOf_10
theorem c_X0_loadOf (l : Launch) (X : mX) (b : Nat) (i1 : Int32) (h_b : isBody b) (M : mM) {r : Int32 × mM} (h : f_X0_loadOf b i1 M = some r) : mMi l yX0_loadOf cX0_loadOf 2 (some .int) 4 93 X [.ref (X.1 b), .int i1] M r := m_ofi (by decide +kernel) (Nat.le_of_ble_eq_true rfl) rfl (fun p e s m args below meth c hs => w_X0_loadOf hs b i1 h_b M h)
set_option maxRecDepth 100000 in
set_option maxHeartbeats 4000000 in
theorem w_X9_about_b197 {l : Launch} {X : mX} {p : Program} {e : Env} {s : State} {m : MethodId} {args : Array Value} {below : List Frame} {meth : Method} {c : Code} {r : Int32 × mM} (hs : mS X RX9 cX9_about 3 (some .int) p s m meth c) : ∀ (s0 : Int32) (M : mM), f_X9_about_b197 s0 M = some r → mG X p l e (rmF 5 114) s m args below meth c (MQ below (mQi X r.2 r.1) args s 0 0 (mL X)) 3 197 [] [.int s0] M := by
  obtain ⟨hx, hb, hml, hown, hF, hlk, hr⟩ := id hs
  intro s0 M h H locs ls hR hS hl
  refine m_ci (m_rS hx hb hml hown hF hR hS (c_X9_oneIf l X s0 M) q_X9_115_S hdS_X9_oneIf ⟨Nat.le_of_ble_eq_true rfl, Nat.le_of_ble_eq_true rfl⟩ rfl hl.1 rfl (Nat.le_of_ble_eq_true rfl) dX9_about_197) hS (fun H locs hR hS => ?_)
  exact m_ir hx hb hlk hr hR hS (Option.some.inj h).symm dX9_about_200
set_option maxRecDepth 100000 in
set_option maxHeartbeats 4000000 in
theorem w_X9_about {l : Launch} {X : mX} {p : Program} {e : Env} {s : State} {m : MethodId} {args : Array Value} {below : List Frame} {meth : Method} {c : Code} {r : Int32 × mM} (hs : mS X RX9 cX9_about 3 (some .int) p s m meth c) : ∀ (i1 : Int32) (i2 : Int32) (M : mM), f_X9_about i1 i2 M = some r → mG X p l e (rmF 5 114) s m args below meth c (MQ below (mQi X r.2 r.1) args s 0 0 (mL X)) 3 0 [(0, .ref (X.1 0)), (1, .int i1), (2, .int i2)] [] M := by
  obtain ⟨hx, hb, hml, hown, hF, hlk, hr⟩ := id hs
  intro i1 i2 M h H locs ls hR hS hl
  refine lv_aload_n hx hb dX9_about_0 rfl (lv_at hl 0 rfl) ?_
  refine m_g8_0 hx hb hF hown hR kd_0 mw_2_42 dX9_about_1 ?_
  refine m_g7_0 hx hb hF hown hR kd_1 mw_1_118 dX9_about_4 ?_
  refine lv_iload_n hx hb dX9_about_7 rfl (lv_at hl 1 rfl) ?_
  refine m_ci (m_rV hx hb hml hown hF hR hS (ent0 kd_2) kd_2 rfl (c_X0_has l X 2 i1 isBody_2 M) q_X9_91_V hdV_X0_has ⟨Nat.le_of_ble_eq_true rfl, Nat.le_of_ble_eq_true rfl⟩ rfl hl.1 rfl (Nat.le_of_ble_eq_true rfl) dX9_about_8) hS (fun H locs hR hS => ?_)
  refine lv_if_ne (tgt := 16) hx hb dX9_about_11 (by decide) (fun c11 => ?_) (fun c11 => ?_)
  · have h := mif_n h c11
    refine lv_iload_n hx hb dX9_about_16 rfl (lv_at hl 2 rfl) ?_
    by_cases c17_0 : i2 = 0
    · have h := mif_y h c17_0
      refine lv_tableIn (tgt := 76) hx hb dX9_about_17 (by rw [c17_0]; decide) (by rw [c17_0]; decide) (by rw [c17_0] <;> rfl) (by decide) ?_
      refine lv_aload_n hx hb dX9_about_76 rfl (lv_at hl 0 rfl) ?_
      refine m_g8_0 hx hb hF hown hR kd_0 mw_2_42 dX9_about_77 ?_
      refine m_g7_0 hx hb hF hown hR kd_1 mw_1_118 dX9_about_80 ?_
      refine m_g0_1 hx hb hF hown hR kd_2 mw_1_53 dX9_about_83 ?_
      refine lv_iload_n hx hb dX9_about_86 rfl (lv_at hl 1 rfl) ?_
      obtain ⟨g87, h⟩ := mgd_e h
      refine m_ialdL hx hb hR kd_3 g87 (jn := (Int32.toNatClampNeg i1)) rfl dX9_about_87 ?_
      exact m_ir hx hb hlk hr hR hS (Option.some.inj h).symm dX9_about_88
    · have h := mif_n h c17_0
      by_cases c17_1 : i2 = 1
      · have h := mif_y h c17_1
        refine lv_tableIn (tgt := 89) hx hb dX9_about_17 (by rw [c17_1]; decide) (by rw [c17_1]; decide) (by rw [c17_1] <;> rfl) (by decide) ?_
        refine lv_aload_n hx hb dX9_about_89 rfl (lv_at hl 0 rfl) ?_
        refine m_g8_0 hx hb hF hown hR kd_0 mw_2_42 dX9_about_90 ?_
        refine m_g7_0 hx hb hF hown hR kd_1 mw_1_118 dX9_about_93 ?_
        refine m_g0_2 hx hb hF hown hR kd_2 mw_1_56 dX9_about_96 ?_
        refine lv_iload_n hx hb dX9_about_99 rfl (lv_at hl 1 rfl) ?_
        obtain ⟨g100, h⟩ := mgd_e h
        refine m_ialdL hx hb hR kd_4 g100 (jn := (Int32.toNatClampNeg i1)) rfl dX9_about_100 ?_
        refine m_ci (m_rS hx hb hml hown hF hR hS (c_X9_columnOf l X (M.1 4 (Int32.toNatClampNeg i1)) M) q_X9_102_S hdS_X9_columnOf ⟨Nat.le_of_ble_eq_true rfl, Nat.le_of_ble_eq_true rfl⟩ rfl hl.1 rfl (Nat.le_of_ble_eq_true rfl) dX9_about_101) hS (fun H locs hR hS => ?_)
        exact m_ir hx hb hlk hr hR hS (Option.some.inj h).symm dX9_about_104
      · have h := mif_n h c17_1
        by_cases c17_2 : i2 = 2
        · have h := mif_y h c17_2
          refine lv_tableIn (tgt := 105) hx hb dX9_about_17 (by rw [c17_2]; decide) (by rw [c17_2]; decide) (by rw [c17_2] <;> rfl) (by decide) ?_
          refine lv_aload_n hx hb dX9_about_105 rfl (lv_at hl 0 rfl) ?_
          refine m_g8_0 hx hb hF hown hR kd_0 mw_2_42 dX9_about_106 ?_
          refine m_g7_0 hx hb hF hown hR kd_1 mw_1_118 dX9_about_109 ?_
          refine m_g0_2 hx hb hF hown hR kd_2 mw_1_56 dX9_about_112 ?_
          refine lv_iload_n hx hb dX9_about_115 rfl (lv_at hl 1 rfl) ?_
          obtain ⟨g116, h⟩ := mgd_e h
          refine m_ialdL hx hb hR kd_4 g116 (jn := (Int32.toNatClampNeg i1)) rfl dX9_about_116 ?_
          refine m_ci (m_rS hx hb hml hown hF hR hS (c_X9_levelOf l X (M.1 4 (Int32.toNatClampNeg i1)) M) q_X9_105_S hdS_X9_levelOf ⟨Nat.le_of_ble_eq_true rfl, Nat.le_of_ble_eq_true rfl⟩ rfl hl.1 rfl (Nat.le_of_ble_eq_true rfl) dX9_about_117) hS (fun H locs hR hS => ?_)
          exact m_ir hx hb hlk hr hR hS (Option.some.inj h).symm dX9_about_120
        · have h := mif_n h c17_2
          by_cases c17_3 : i2 = 3
          · have h := mif_y h c17_3
            refine lv_tableIn (tgt := 121) hx hb dX9_about_17 (by rw [c17_3]; decide) (by rw [c17_3]; decide) (by rw [c17_3] <;> rfl) (by decide) ?_
            refine lv_aload_n hx hb dX9_about_121 rfl (lv_at hl 0 rfl) ?_
            refine m_g8_0 hx hb hF hown hR kd_0 mw_2_42 dX9_about_122 ?_
            refine m_g7_0 hx hb hF hown hR kd_1 mw_1_118 dX9_about_125 ?_
            refine m_g0_3 hx hb hF hown hR kd_2 mw_1_62 dX9_about_128 ?_
            refine lv_iload_n hx hb dX9_about_131 rfl (lv_at hl 1 rfl) ?_
            obtain ⟨g132, h⟩ := mgd_e h
            refine m_ialdL hx hb hR kd_5 g132 (jn := (Int32.toNatClampNeg i1)) rfl dX9_about_132 ?_
            exact m_ir hx hb hlk hr hR hS (Option.some.inj h).symm dX9_about_133
          · have h := mif_n h c17_3
            by_cases c17_4 : i2 = 4
            · have h := mif_y h c17_4
              refine lv_tableIn (tgt := 134) hx hb dX9_about_17 (by rw [c17_4]; decide) (by rw [c17_4]; decide) (by rw [c17_4] <;> rfl) (by decide) ?_
              refine lv_aload_n hx hb dX9_about_134 rfl (lv_at hl 0 rfl) ?_
              refine m_g8_0 hx hb hF hown hR kd_0 mw_2_42 dX9_about_135 ?_
              refine m_g7_0 hx hb hF hown hR kd_1 mw_1_118 dX9_about_138 ?_
              refine m_g0_4 hx hb hF hown hR kd_2 mw_1_67 dX9_about_141 ?_
              refine lv_iload_n hx hb dX9_about_144 rfl (lv_at hl 1 rfl) ?_
              obtain ⟨g145, h⟩ := mgd_e h
              refine m_zaldL hx hb hR kd_6 g145 (jn := (Int32.toNatClampNeg i1)) rfl dX9_about_145 ?_
              refine m_ci (m_rS hx hb hml hown hF hR hS (c_X9_oneIf l X (M.1 6 (Int32.toNatClampNeg i1)) M) q_X9_115_S hdS_X9_oneIf ⟨Nat.le_of_ble_eq_true rfl, Nat.le_of_ble_eq_true rfl⟩ rfl hl.1 rfl (Nat.le_of_ble_eq_true rfl) dX9_about_146) hS (fun H locs hR hS => ?_)
              exact m_ir hx hb hlk hr hR hS (Option.some.inj h).symm dX9_about_149
            · have h := mif_n h c17_4
              by_cases c17_5 : i2 = 5
              · have h := mif_y h c17_5
                refine lv_tableIn (tgt := 150) hx hb dX9_about_17 (by rw [c17_5]; decide) (by rw [c17_5]; decide) (by rw [c17_5] <;> rfl) (by decide) ?_
                refine lv_aload_n hx hb dX9_about_150 rfl (lv_at hl 0 rfl) ?_
                refine m_g8_0 hx hb hF hown hR kd_0 mw_2_42 dX9_about_151 ?_
                refine m_g7_0 hx hb hF hown hR kd_1 mw_1_118 dX9_about_154 ?_
                refine lv_iload_n hx hb dX9_about_157 rfl (lv_at hl 1 rfl) ?_
                obtain ⟨v158, M158, q158, h⟩ := mbw_e h
                refine m_ci (m_rV hx hb hml hown hF hR hS (ent0 kd_2) kd_2 rfl (c_X0_loadOf l X 2 i1 isBody_2 M q158) q_X9_119_V hdV_X0_loadOf ⟨Nat.le_of_ble_eq_true rfl, Nat.le_of_ble_eq_true rfl⟩ rfl hl.1 rfl (Nat.le_of_ble_eq_true rfl) dX9_about_158) hS (fun H locs hR hS => ?_)
                exact m_ir hx hb hlk hr hR hS (Option.some.inj h).symm dX9_about_161
              · have h := mif_n h c17_5
                by_cases c17_6 : i2 = 6
                · have h := mif_y h c17_6
                  refine lv_tableIn (tgt := 162) hx hb dX9_about_17 (by rw [c17_6]; decide) (by rw [c17_6]; decide) (by rw [c17_6] <;> rfl) (by decide) ?_
                  refine lv_aload_n hx hb dX9_about_162 rfl (lv_at hl 0 rfl) ?_
                  refine m_g8_0 hx hb hF hown hR kd_0 mw_2_42 dX9_about_163 ?_
                  refine m_g7_0 hx hb hF hown hR kd_1 mw_1_118 dX9_about_166 ?_
                  refine lv_iload_n hx hb dX9_about_169 rfl (lv_at hl 1 rfl) ?_
                  obtain ⟨v170, M170, q170, h⟩ := mbw_e h
                  refine m_ci (m_rV hx hb hml hown hF hR hS (ent0 kd_2) kd_2 rfl (c_X0_loadOf l X 2 i1 isBody_2 M q170) q_X9_119_V hdV_X0_loadOf ⟨Nat.le_of_ble_eq_true rfl, Nat.le_of_ble_eq_true rfl⟩ rfl hl.1 rfl (Nat.le_of_ble_eq_true rfl) dX9_about_170) hS (fun H locs hR hS => ?_)
                  refine m_gs hx hb hF hS hown 1 (by decide) rfl (hF.w mw_2_136) dX9_about_173 ?_
                  refine lv_aload_n hx hb dX9_about_176 rfl (lv_at hl 0 rfl) ?_
                  refine m_g8_0 hx hb hF hown hR kd_0 mw_2_42 dX9_about_177 ?_
                  refine m_g7_0 hx hb hF hown hR kd_1 mw_1_118 dX9_about_180 ?_
                  refine m_g0_1 hx hb hF hown hR kd_2 mw_1_53 dX9_about_183 ?_
                  refine lv_iload_n hx hb dX9_about_186 rfl (lv_at hl 1 rfl) ?_
                  obtain ⟨g187, h⟩ := mgd_e h
                  refine m_ialdL hx hb hR kd_3 g187 (jn := (Int32.toNatClampNeg i1)) rfl dX9_about_187 ?_
                  obtain ⟨g188, h⟩ := mgd_e h
                  refine m_saidL hx hb hF hS 1 (by decide) (N := 4) rfl g188 (jn := (Int32.toNatClampNeg (M170.1 3 (Int32.toNatClampNeg i1)))) rfl dX9_about_188 ?_
                  refine lv_icmp_le (tgt := 196) hx hb dX9_about_189 (by decide) (fun c189 => ?_) (fun c189 => ?_)
                  · have h := mif_y h c189
                    refine lv_iconst (v := 0) hx hb dX9_about_196 (by decide) ?_
                    exact w_X9_about_b197 hs 0 M170 h H locs ls hR hS (lv_sub hl [] rfl)
                  · have h := mif_n h c189
                    refine lv_iconst (v := 1) hx hb dX9_about_192 (by decide) ?_
                    refine lv_goto (tgt := 197) hx hb dX9_about_193 (by decide) ?_
                    exact w_X9_about_b197 hs 1 M170 h H locs ls hR hS (lv_sub hl [] rfl)
                · have h := mif_n h c17_6
                  by_cases c17_7 : i2 = 7
                  · have h := mif_y h c17_7
                    refine lv_tableIn (tgt := 201) hx hb dX9_about_17 (by rw [c17_7]; decide) (by rw [c17_7]; decide) (by rw [c17_7] <;> rfl) (by decide) ?_
                    refine lv_aload_n hx hb dX9_about_201 rfl (lv_at hl 0 rfl) ?_
                    refine m_g8_0 hx hb hF hown hR kd_0 mw_2_42 dX9_about_202 ?_
                    refine m_g7_2 hx hb hF hown hR kd_1 mw_1_124 dX9_about_205 ?_
                    refine lv_iload_n hx hb dX9_about_208 rfl (lv_at hl 1 rfl) ?_
                    obtain ⟨g209, h⟩ := mgd_e h
                    refine m_ialdL hx hb hR kd_10 g209 (jn := (Int32.toNatClampNeg i1)) rfl dX9_about_209 ?_
                    exact m_ir hx hb hlk hr hR hS (Option.some.inj h).symm dX9_about_210
                  · have h := mif_n h c17_7
                    by_cases c17_8 : i2 = 8
                    · have h := mif_y h c17_8
                      refine lv_tableIn (tgt := 211) hx hb dX9_about_17 (by rw [c17_8]; decide) (by rw [c17_8]; decide) (by rw [c17_8] <;> rfl) (by decide) ?_
                      refine lv_aload_n hx hb dX9_about_211 rfl (lv_at hl 0 rfl) ?_
                      refine m_g8_0 hx hb hF hown hR kd_0 mw_2_42 dX9_about_212 ?_
                      refine m_g7_4 hx hb hF hown hR kd_1 mw_1_129 dX9_about_215 ?_
                      refine lv_iload_n hx hb dX9_about_218 rfl (lv_at hl 1 rfl) ?_
                      obtain ⟨g219, h⟩ := mgd_e h
                      refine m_ialdL hx hb hR kd_12 g219 (jn := (Int32.toNatClampNeg i1)) rfl dX9_about_219 ?_
                      exact m_ir hx hb hlk hr hR hS (Option.some.inj h).symm dX9_about_220
                    · have h := mif_n h c17_8
                      by_cases c17_9 : i2 = 9
                      · have h := mif_y h c17_9
                        refine lv_tableIn (tgt := 221) hx hb dX9_about_17 (by rw [c17_9]; decide) (by rw [c17_9]; decide) (by rw [c17_9] <;> rfl) (by decide) ?_
                        refine lv_aload_n hx hb dX9_about_221 rfl (lv_at hl 0 rfl) ?_
                        refine m_g8_0 hx hb hF hown hR kd_0 mw_2_42 dX9_about_222 ?_
                        refine m_g7_5 hx hb hF hown hR kd_1 mw_1_133 dX9_about_225 ?_
                        refine lv_iload_n hx hb dX9_about_228 rfl (lv_at hl 1 rfl) ?_
                        obtain ⟨g229, h⟩ := mgd_e h
                        refine m_ialdL hx hb hR kd_13 g229 (jn := (Int32.toNatClampNeg i1)) rfl dX9_about_229 ?_
                        refine lv_if_ge (tgt := 238) hx hb dX9_about_230 (by decide) (fun c230 => ?_) (fun c230 => ?_)
                        · have h := mif_y h c230
                          refine lv_aload_n hx hb dX9_about_238 rfl (lv_at hl 0 rfl) ?_
                          refine m_g8_0 hx hb hF hown hR kd_0 mw_2_42 dX9_about_239 ?_
                          refine m_g7_5 hx hb hF hown hR kd_1 mw_1_133 dX9_about_242 ?_
                          refine lv_iload_n hx hb dX9_about_245 rfl (lv_at hl 1 rfl) ?_
                          obtain ⟨g246, h⟩ := mgd_e h
                          refine m_ialdL hx hb hR kd_13 g246 (jn := (Int32.toNatClampNeg i1)) rfl dX9_about_246 ?_
                          exact m_ir hx hb hlk hr hR hS (Option.some.inj h).symm dX9_about_247
                        · have h := mif_n h c230
                          refine lv_bipush (v := (-4)) hx hb dX9_about_233 (by decide) ?_
                          refine lv_goto (tgt := 247) hx hb dX9_about_235 (by decide) ?_
                          exact m_ir hx hb hlk hr hR hS (Option.some.inj h).symm dX9_about_247
                      · have h := mif_n h c17_9
                        by_cases c17_10 : i2 = 10
                        · have h := mif_y h c17_10
                          refine lv_tableIn (tgt := 248) hx hb dX9_about_17 (by rw [c17_10]; decide) (by rw [c17_10]; decide) (by rw [c17_10] <;> rfl) (by decide) ?_
                          refine lv_aload_n hx hb dX9_about_248 rfl (lv_at hl 0 rfl) ?_
                          refine m_g8_0 hx hb hF hown hR kd_0 mw_2_42 dX9_about_249 ?_
                          refine m_g7_0 hx hb hF hown hR kd_1 mw_1_118 dX9_about_252 ?_
                          refine lv_aload_n hx hb dX9_about_255 rfl (lv_at hl 0 rfl) ?_
                          refine m_g8_0 hx hb hF hown hR kd_0 mw_2_42 dX9_about_256 ?_
                          refine m_g7_0 hx hb hF hown hR kd_1 mw_1_118 dX9_about_259 ?_
                          refine m_g0_2 hx hb hF hown hR kd_2 mw_1_56 dX9_about_262 ?_
                          refine lv_iload_n hx hb dX9_about_265 rfl (lv_at hl 1 rfl) ?_
                          obtain ⟨g266, h⟩ := mgd_e h
                          refine m_ialdL hx hb hR kd_4 g266 (jn := (Int32.toNatClampNeg i1)) rfl dX9_about_266 ?_
                          obtain ⟨v267, q267, h⟩ := mbp_e h
                          refine m_ci (m_rV hx hb hml hown hF hR hS (ent0 kd_2) kd_2 rfl (c_X0_hangs l X 2 (M.1 4 (Int32.toNatClampNeg i1)) isBody_2 M q267) q_X9_134_V hdV_X0_hangs ⟨Nat.le_of_ble_eq_true rfl, Nat.le_of_ble_eq_true rfl⟩ rfl hl.1 rfl (Nat.le_of_ble_eq_true rfl) dX9_about_267) hS (fun H locs hR hS => ?_)
                          refine m_ci (m_rS hx hb hml hown hF hR hS (c_X9_oneIf l X v267 M) q_X9_115_S hdS_X9_oneIf ⟨Nat.le_of_ble_eq_true rfl, Nat.le_of_ble_eq_true rfl⟩ rfl hl.1 rfl (Nat.le_of_ble_eq_true rfl) dX9_about_270) hS (fun H locs hR hS => ?_)
                          exact m_ir hx hb hlk hr hR hS (Option.some.inj h).symm dX9_about_273
                        · have h := mif_n h c17_10
                          refine lv_tableOut (tgt := 274) hx hb dX9_about_17 (m_swOut (fun q => by have := q.1; have := q.2; have := lv_neT c17_0 (a := 0) rfl; have := lv_neT c17_1 (a := 1) rfl; have := lv_neT c17_2 (a := 2) rfl; have := lv_neT c17_3 (a := 3) rfl; have := lv_neT c17_4 (a := 4) rfl; have := lv_neT c17_5 (a := 5) rfl; have := lv_neT c17_6 (a := 6) rfl; have := lv_neT c17_7 (a := 7) rfl; have := lv_neT c17_8 (a := 8) rfl; have := lv_neT c17_9 (a := 9) rfl; have := lv_neT c17_10 (a := 10) rfl; omega)) (by decide) ?_
                          refine lv_iconst (v := (-1)) hx hb dX9_about_274 (by decide) ?_
                          exact m_ir hx hb hlk hr hR hS (Option.some.inj h).symm dX9_about_275
  · have h := mif_y h c11
    refine lv_iconst (v := (-1)) hx hb dX9_about_14 (by decide) ?_
    exact m_ir hx hb hlk hr hR hS (Option.some.inj h).symm dX9_about_15
theorem c_X9_about (l : Launch) (X : mX) (i1 : Int32) (i2 : Int32) (M : mM) {r : Int32 × mM} (h : f_X9_about i1 i2 M = some r) : mMi l yX9_about cX9_about 3 (some .int) 5 114 X [.ref (X.1 0), .int i1, .int i2] M r := m_ofi (by decide +kernel) (Nat.le_of_ble_eq_true rfl) rfl (fun p e s m args below meth c hs => w_X9_about hs i1 i2 M h)
set_option maxRecDepth 100000 in
set_option maxHeartbeats 4000000 in
theorem w_X9_at {l : Launch} {X : mX} {p : Program} {e : Env} {s : State} {m : MethodId} {args : Array Value} {below : List Frame} {meth : Method} {c : Code} {M : mM} {r : Int32} (hs : mS X RX9 cX9_at 4 (some .int) p s m meth c) : ∀ (i1 : Int32) (i2 : Int32), f_X9_at i1 i2 M = some r → mG X p l e (rmF 1 21) s m args below meth c (MQ below (mQi X M r) args s 0 0 (mL X)) 4 0 [(0, .ref (X.1 0)), (1, .int i1), (2, .int i2)] [] M := by
  obtain ⟨hx, hb, hml, hown, hF, hlk, hr⟩ := id hs
  intro i1 i2 h H locs ls hR hS hl
  refine lv_iload_n hx hb dX9_at_0 rfl (lv_at hl 1 rfl) ?_
  refine lv_iload_n hx hb dX9_at_1 rfl (lv_at hl 2 rfl) ?_
  refine m_ci (m_rS hx hb hml hown hF hR hS (c_X9_onGrid l X i1 i2 M) q_X9_65_S hdS_X9_onGrid ⟨Nat.le_of_ble_eq_true rfl, Nat.le_of_ble_eq_true rfl⟩ rfl hl.1 rfl (Nat.le_of_ble_eq_true rfl) dX9_at_2) hS (fun H locs hR hS => ?_)
  refine lv_if_ne (tgt := 10) hx hb dX9_at_5 (by decide) (fun c5 => ?_) (fun c5 => ?_)
  · have h := mif_n h c5
    refine lv_aload_n hx hb dX9_at_10 rfl (lv_at hl 0 rfl) ?_
    refine m_g8_0 hx hb hF hown hR kd_0 mw_2_42 dX9_at_11 ?_
    refine m_g7_0 hx hb hF hown hR kd_1 mw_1_118 dX9_at_14 ?_
    refine lv_iload_n hx hb dX9_at_17 rfl (lv_at hl 1 rfl) ?_
    refine lv_iload_n hx hb dX9_at_18 rfl (lv_at hl 2 rfl) ?_
    refine m_ci (m_rS hx hb hml hown hF hR hS (c_X9_cellOf l X i1 i2 M) q_X9_76_S hdS_X9_cellOf ⟨Nat.le_of_ble_eq_true rfl, Nat.le_of_ble_eq_true rfl⟩ rfl hl.1 rfl (Nat.le_of_ble_eq_true rfl) dX9_at_19) hS (fun H locs hR hS => ?_)
    obtain ⟨v22, q22, h⟩ := mbp_e h
    refine m_ci (m_rV hx hb hml hown hF hR hS (ent0 kd_2) kd_2 rfl (c_X0_inCell l X 2 (f_X9_cellOf i1 i2) isBody_2 M q22) q_X9_80_V hdV_X0_inCell ⟨Nat.le_of_ble_eq_true rfl, Nat.le_of_ble_eq_true rfl⟩ rfl hl.1 rfl (Nat.le_of_ble_eq_true rfl) dX9_at_22) hS (fun H locs hR hS => ?_)
    refine lv_istore_n (lv' := [(3, .int v22), (0, .ref (X.1 0)), (1, .int i1), (2, .int i2)]) hx hb dX9_at_25 rfl hl (by decide) rfl (fun ls hl => ?_)
    refine lv_iload_n hx hb dX9_at_26 rfl (lv_at hl 0 rfl) ?_
    refine lv_if_ge (tgt := 35) hx hb dX9_at_27 (by decide) (fun c27 => ?_) (fun c27 => ?_)
    · have h := mif_y h c27
      refine lv_iload_n hx hb dX9_at_35 rfl (lv_at hl 0 rfl) ?_
      exact m_ir hx hb hlk hr hR hS (congrArg (fun z => (z, M)) (Option.some.inj h).symm) dX9_at_36
    · have h := mif_n h c27
      refine lv_bipush (v := (-4)) hx hb dX9_at_30 (by decide) ?_
      refine lv_goto (tgt := 36) hx hb dX9_at_32 (by decide) ?_
      exact m_ir hx hb hlk hr hR hS (congrArg (fun z => (z, M)) (Option.some.inj h).symm) dX9_at_36
  · have h := mif_y h c5
    refine lv_iconst (v := (-1)) hx hb dX9_at_8 (by decide) ?_
    exact m_ir hx hb hlk hr hR hS (congrArg (fun z => (z, M)) (Option.some.inj h).symm) dX9_at_9
theorem c_X9_at (l : Launch) (X : mX) (i1 : Int32) (i2 : Int32) (M : mM) {r : Int32} (h : f_X9_at i1 i2 M = some r) : mMi l yX9_at cX9_at 4 (some .int) 1 21 X [.ref (X.1 0), .int i1, .int i2] M (r, M) := m_ofi (by decide +kernel) (Nat.le_of_ble_eq_true rfl) rfl (fun p e s m args below meth c hs => w_X9_at hs i1 i2 h)
set_option maxRecDepth 100000 in
set_option maxHeartbeats 4000000 in
theorem w_X2_note {l : Launch} {X : mX} {p : Program} {e : Env} {s : State} {m : MethodId} {args : Array Value} {below : List Frame} {meth : Method} {c : Code} {r : Int32 × mM} (hs : mS X RX2 cX2_note 4 (some .int) p s m meth c) : ∀ (b : Nat) (i1 : Int32) (i2 : Int32) (i3 : Int32) (h_b : isNotes b) (M : mM), f_X2_note b i1 i2 i3 M = some r → mG X p l e (rmF 0 0) s m args below meth c (MQ below (mQi X r.2 r.1) args s 0 0 (mL X)) 4 0 [(0, .ref (X.1 b)), (1, .int i1), (2, .int i2), (3, .int i3)] [] M := by
  obtain ⟨hx, hb, hml, hown, hF, hlk, hr⟩ := id hs
  intro b i1 i2 i3 h_b M h H locs ls hR hS hl
  refine lv_aload_n hx hb dX2_note_0 rfl (lv_at hl 0 rfl) ?_
  refine m_g2_0 hx hb hF hown hR (kNotes0 h_b) mw_1_100 dX2_note_1 ?_
  refine lv_bipush (v := 40) hx hb dX2_note_4 (by decide) ?_
  refine lv_icmp_lt (tgt := 12) hx hb dX2_note_6 (by decide) (fun c6 => ?_) (fun c6 => ?_)
  · have h := mif_y h c6
    refine lv_aload_n hx hb dX2_note_12 rfl (lv_at hl 0 rfl) ?_
    refine m_g2_1 hx hb hF hown hR (kNotes0 h_b) mw_1_103 dX2_note_13 ?_
    refine lv_aload_n hx hb dX2_note_16 rfl (lv_at hl 0 rfl) ?_
    refine m_g2_0 hx hb hF hown hR (kNotes0 h_b) mw_1_100 dX2_note_17 ?_
    refine lv_iload_n hx hb dX2_note_20 rfl (lv_at hl 1 rfl) ?_
    obtain ⟨g21, h⟩ := mgd_e h
    obtain ⟨M21, eM21⟩ : ∃ y : mM, y = mI M (b + 1) (Int32.toNatClampNeg (M.1 b 0)) i1 := ⟨_, rfl⟩
    have h := mlt_n h M21 eM21
    refine m_iastL hx hb hR hS (kNotes1 h_b) g21 (jn := (Int32.toNatClampNeg (M.1 b 0))) rfl dX2_note_21 eM21 (fun H locs hR hS => ?_)
    refine lv_aload_n hx hb dX2_note_22 rfl (lv_at hl 0 rfl) ?_
    refine m_g2_2 hx hb hF hown hR (kNotes0 h_b) mw_1_104 dX2_note_23 ?_
    refine lv_aload_n hx hb dX2_note_26 rfl (lv_at hl 0 rfl) ?_
    refine m_g2_0 hx hb hF hown hR (kNotes0 h_b) mw_1_100 dX2_note_27 ?_
    refine lv_iload_n hx hb dX2_note_30 rfl (lv_at hl 2 rfl) ?_
    obtain ⟨g31, h⟩ := mgd_e h
    obtain ⟨M31, eM31⟩ : ∃ y : mM, y = mI M21 (b + 2) (Int32.toNatClampNeg (M21.1 b 0)) i2 := ⟨_, rfl⟩
    have h := mlt_n h M31 eM31
    refine m_iastL hx hb hR hS (kNotes2 h_b) g31 (jn := (Int32.toNatClampNeg (M21.1 b 0))) rfl dX2_note_31 eM31 (fun H locs hR hS => ?_)
    refine lv_aload_n hx hb dX2_note_32 rfl (lv_at hl 0 rfl) ?_
    refine m_g2_3 hx hb hF hown hR (kNotes0 h_b) mw_1_105 dX2_note_33 ?_
    refine lv_aload_n hx hb dX2_note_36 rfl (lv_at hl 0 rfl) ?_
    refine m_g2_0 hx hb hF hown hR (kNotes0 h_b) mw_1_100 dX2_note_37 ?_
    refine lv_iload_n hx hb dX2_note_40 rfl (lv_at hl 3 rfl) ?_
    obtain ⟨g41, h⟩ := mgd_e h
    obtain ⟨M41, eM41⟩ : ∃ y : mM, y = mI M31 (b + 3) (Int32.toNatClampNeg (M31.1 b 0)) (vp_nar .boolean i3) := ⟨_, rfl⟩
    have h := mlt_n h M41 eM41
    refine m_zastL hx hb hR hS (kNotes3 h_b) g41 (jn := (Int32.toNatClampNeg (M31.1 b 0))) rfl rfl dX2_note_41 eM41 (fun H locs hR hS => ?_)
    refine lv_aload_n hx hb dX2_note_42 rfl (lv_at hl 0 rfl) ?_
    refine lv_dup hx hb dX2_note_43 rfl ?_
    refine m_g2_0 hx hb hF hown hR (kNotes0 h_b) mw_1_100 dX2_note_44 ?_
    refine lv_iconst (v := 1) hx hb dX2_note_47 (by decide) ?_
    refine lv_iadd hx hb dX2_note_48 ?_
    obtain ⟨M49, eM49⟩ : ∃ y : mM, y = mI M41 b 0 ((M41.1 b 0) + 1) := ⟨_, rfl⟩
    have h := mlt_n h M49 eM49
    refine m_p2_0 hx hb hF hown hR hS (kNotes0 h_b) mw_1_100 dX2_note_49 eM49 (fun H locs hR hS => ?_)
    refine lv_aload_n hx hb dX2_note_52 rfl (lv_at hl 0 rfl) ?_
    refine m_g2_0 hx hb hF hown hR (kNotes0 h_b) mw_1_100 dX2_note_53 ?_
    refine lv_iconst (v := 1) hx hb dX2_note_56 (by decide) ?_
    refine lv_isub hx hb dX2_note_57 ?_
    exact m_ir hx hb hlk hr hR hS (Option.some.inj h).symm dX2_note_58
  · have h := mif_n h c6
    refine lv_bipush (v := (-2)) hx hb dX2_note_9 (by decide) ?_
    exact m_ir hx hb hlk hr hR hS (Option.some.inj h).symm dX2_note_11
theorem c_X2_note (l : Launch) (X : mX) (b : Nat) (i1 : Int32) (i2 : Int32) (i3 : Int32) (h_b : isNotes b) (M : mM) {r : Int32 × mM} (h : f_X2_note b i1 i2 i3 M = some r) : mMi l yX2_note cX2_note 4 (some .int) 0 0 X [.ref (X.1 b), .int i1, .int i2, .int i3] M r := m_ofi (by decide +kernel) (Nat.le_of_ble_eq_true rfl) rfl (fun p e s m args below meth c hs => w_X2_note hs b i1 i2 i3 h_b M h)
set_option maxRecDepth 100000 in
set_option maxHeartbeats 4000000 in
theorem w_X9_dead {l : Launch} {X : mX} {p : Program} {e : Env} {s : State} {m : MethodId} {args : Array Value} {below : List Frame} {meth : Method} {c : Code} {r : Int32 × mM} (hs : mS X RX9 cX9_dead 3 (some .int) p s m meth c) : ∀ (i1 : Int32) (i2 : Int32) (M : mM), f_X9_dead i1 i2 M = some r → mG X p l e (rmF 1 23) s m args below meth c (MQ below (mQi X r.2 r.1) args s 0 0 (mL X)) 3 0 [(0, .ref (X.1 0)), (1, .int i1), (2, .int i2)] [] M := by
  obtain ⟨hx, hb, hml, hown, hF, hlk, hr⟩ := id hs
  intro i1 i2 M h H locs ls hR hS hl
  refine lv_aload_n hx hb dX9_dead_0 rfl (lv_at hl 0 rfl) ?_
  refine m_g8_0 hx hb hF hown hR kd_0 mw_2_42 dX9_dead_1 ?_
  refine m_g7_0 hx hb hF hown hR kd_1 mw_1_118 dX9_dead_4 ?_
  refine lv_iload_n hx hb dX9_dead_7 rfl (lv_at hl 1 rfl) ?_
  refine m_ci (m_rV hx hb hml hown hF hR hS (ent0 kd_2) kd_2 rfl (c_X0_has l X 2 i1 isBody_2 M) q_X9_91_V hdV_X0_has ⟨Nat.le_of_ble_eq_true rfl, Nat.le_of_ble_eq_true rfl⟩ rfl hl.1 rfl (Nat.le_of_ble_eq_true rfl) dX9_dead_8) hS (fun H locs hR hS => ?_)
  refine lv_if_ne (tgt := 16) hx hb dX9_dead_11 (by decide) (fun c11 => ?_) (fun c11 => ?_)
  · have h := mif_n h c11
    refine lv_aload_n hx hb dX9_dead_16 rfl (lv_at hl 0 rfl) ?_
    refine m_g8_0 hx hb hF hown hR kd_0 mw_2_42 dX9_dead_17 ?_
    refine m_g7_0 hx hb hF hown hR kd_1 mw_1_118 dX9_dead_20 ?_
    refine m_g0_4 hx hb hF hown hR kd_2 mw_1_67 dX9_dead_23 ?_
    refine lv_iload_n hx hb dX9_dead_26 rfl (lv_at hl 1 rfl) ?_
    obtain ⟨g27, h⟩ := mgd_e h
    refine m_zaldL hx hb hR kd_6 g27 (jn := (Int32.toNatClampNeg i1)) rfl dX9_dead_27 ?_
    refine lv_iload_n hx hb dX9_dead_28 rfl (lv_at hl 2 rfl) ?_
    refine lv_icmp_ne (tgt := 34) hx hb dX9_dead_29 (by decide) (fun c29 => ?_) (fun c29 => ?_)
    · have h := mif_n h c29
      refine lv_aload_n hx hb dX9_dead_34 rfl (lv_at hl 0 rfl) ?_
      refine m_g8_0 hx hb hF hown hR kd_0 mw_2_42 dX9_dead_35 ?_
      refine m_g7_11 hx hb hF hown hR kd_1 mw_1_144 dX9_dead_38 ?_
      refine m_g2_0 hx hb hF hown hR kd_25 mw_1_101 dX9_dead_41 ?_
      refine lv_bipush (v := 40) hx hb dX9_dead_44 (by decide) ?_
      refine lv_icmp_lt (tgt := 52) hx hb dX9_dead_46 (by decide) (fun c46 => ?_) (fun c46 => ?_)
      · have h := mif_y h c46
        refine lv_aload_n hx hb dX9_dead_52 rfl (lv_at hl 0 rfl) ?_
        refine m_g8_0 hx hb hF hown hR kd_0 mw_2_42 dX9_dead_53 ?_
        refine m_g7_0 hx hb hF hown hR kd_1 mw_1_118 dX9_dead_56 ?_
        refine m_g0_4 hx hb hF hown hR kd_2 mw_1_67 dX9_dead_59 ?_
        refine lv_iload_n hx hb dX9_dead_62 rfl (lv_at hl 1 rfl) ?_
        refine lv_iload_n hx hb dX9_dead_63 rfl (lv_at hl 2 rfl) ?_
        obtain ⟨g64, h⟩ := mgd_e h
        obtain ⟨M64, eM64⟩ : ∃ y : mM, y = mI M 6 (Int32.toNatClampNeg i1) (vp_nar .boolean i2) := ⟨_, rfl⟩
        have h := mlt_n h M64 eM64
        refine m_zastL hx hb hR hS kd_6 g64 (jn := (Int32.toNatClampNeg i1)) rfl rfl dX9_dead_64 eM64 (fun H locs hR hS => ?_)
        refine lv_aload_n hx hb dX9_dead_65 rfl (lv_at hl 0 rfl) ?_
        refine m_g8_0 hx hb hF hown hR kd_0 mw_2_42 dX9_dead_66 ?_
        refine m_g7_11 hx hb hF hown hR kd_1 mw_1_144 dX9_dead_69 ?_
        refine lv_iload_n hx hb dX9_dead_72 rfl (lv_at hl 1 rfl) ?_
        refine lv_aload_n hx hb dX9_dead_73 rfl (lv_at hl 0 rfl) ?_
        refine m_g8_0 hx hb hF hown hR kd_0 mw_2_42 dX9_dead_74 ?_
        refine m_g7_1 hx hb hF hown hR kd_1 mw_1_121 dX9_dead_77 ?_
        refine lv_iload_n hx hb dX9_dead_80 rfl (lv_at hl 2 rfl) ?_
        obtain ⟨v81, M81, q81, h⟩ := mbw_e h
        refine m_ci (m_rV hx hb hml hown hF hR hS (ent2 kd_25) kd_25 rfl (c_X2_note l X 25 i1 (M64.1 1 1) i2 isNotes_25 M64 q81) q_X9_147_V hdV_X2_note ⟨Nat.le_of_ble_eq_true rfl, Nat.le_of_ble_eq_true rfl⟩ rfl hl.1 rfl (Nat.le_of_ble_eq_true rfl) dX9_dead_81) hS (fun H locs hR hS => ?_)
        refine lv_pop hx hb dX9_dead_84 rfl ?_
        refine lv_iconst (v := 1) hx hb dX9_dead_85 (by decide) ?_
        exact m_ir hx hb hlk hr hR hS (Option.some.inj h).symm dX9_dead_86
      · have h := mif_n h c46
        refine lv_bipush (v := (-2)) hx hb dX9_dead_49 (by decide) ?_
        exact m_ir hx hb hlk hr hR hS (Option.some.inj h).symm dX9_dead_51
    · have h := mif_y h c29
      refine lv_iconst (v := 0) hx hb dX9_dead_32 (by decide) ?_
      exact m_ir hx hb hlk hr hR hS (Option.some.inj h).symm dX9_dead_33
  · have h := mif_y h c11
    refine lv_iconst (v := (-1)) hx hb dX9_dead_14 (by decide) ?_
    exact m_ir hx hb hlk hr hR hS (Option.some.inj h).symm dX9_dead_15
theorem c_X9_dead (l : Launch) (X : mX) (i1 : Int32) (i2 : Int32) (M : mM) {r : Int32 × mM} (h : f_X9_dead i1 i2 M = some r) : mMi l yX9_dead cX9_dead 3 (some .int) 1 23 X [.ref (X.1 0), .int i1, .int i2] M r := m_ofi (by decide +kernel) (Nat.le_of_ble_eq_true rfl) rfl (fun p e s m args below meth c hs => w_X9_dead hs i1 i2 M h)
set_option maxRecDepth 100000 in
set_option maxHeartbeats 4000000 in
theorem w_X9_charge {l : Launch} {X : mX} {p : Program} {e : Env} {s : State} {m : MethodId} {args : Array Value} {below : List Frame} {meth : Method} {c : Code} {r : Int32 × mM} (hs : mS X RX9 cX9_charge 4 (some .int) p s m meth c) : ∀ (i1 : Int32) (i2 : Int32) (M : mM), f_X9_charge i1 i2 M = some r → mG X p l e (rmF 1 21) s m args below meth c (MQ below (mQi X r.2 r.1) args s 0 0 (mL X)) 4 0 [(0, .ref (X.1 0)), (1, .int i1), (2, .int i2)] [] M := by
  obtain ⟨hx, hb, hml, hown, hF, hlk, hr⟩ := id hs
  intro i1 i2 M h H locs ls hR hS hl
  refine lv_aload_n hx hb dX9_charge_0 rfl (lv_at hl 0 rfl) ?_
  refine m_g8_0 hx hb hF hown hR kd_0 mw_2_42 dX9_charge_1 ?_
  refine m_g7_0 hx hb hF hown hR kd_1 mw_1_118 dX9_charge_4 ?_
  refine lv_iload_n hx hb dX9_charge_7 rfl (lv_at hl 1 rfl) ?_
  refine m_ci (m_rV hx hb hml hown hF hR hS (ent0 kd_2) kd_2 rfl (c_X0_has l X 2 i1 isBody_2 M) q_X9_91_V hdV_X0_has ⟨Nat.le_of_ble_eq_true rfl, Nat.le_of_ble_eq_true rfl⟩ rfl hl.1 rfl (Nat.le_of_ble_eq_true rfl) dX9_charge_8) hS (fun H locs hR hS => ?_)
  refine lv_if_eq (tgt := 25) hx hb dX9_charge_11 (by decide) (fun c11 => ?_) (fun c11 => ?_)
  · have h := mif_y h c11
    refine lv_iconst (v := (-1)) hx hb dX9_charge_25 (by decide) ?_
    exact m_ir hx hb hlk hr hR hS (Option.some.inj h).symm dX9_charge_26
  · have h := mif_n h c11
    refine lv_iload_n hx hb dX9_charge_14 rfl (lv_at hl 2 rfl) ?_
    refine lv_if_lt (tgt := 25) hx hb dX9_charge_15 (by decide) (fun c15 => ?_) (fun c15 => ?_)
    · have h := mif_y h c15
      refine lv_iconst (v := (-1)) hx hb dX9_charge_25 (by decide) ?_
      exact m_ir hx hb hlk hr hR hS (Option.some.inj h).symm dX9_charge_26
    · have h := mif_n h c15
      refine lv_iload_n hx hb dX9_charge_18 rfl (lv_at hl 2 rfl) ?_
      refine lv_sipush (v := 999) hx hb dX9_charge_19 (by decide) ?_
      refine lv_icmp_le (tgt := 27) hx hb dX9_charge_22 (by decide) (fun c22 => ?_) (fun c22 => ?_)
      · have h := mif_y h c22
        refine lv_aload_n hx hb dX9_charge_27 rfl (lv_at hl 0 rfl) ?_
        refine m_g8_0 hx hb hF hown hR kd_0 mw_2_42 dX9_charge_28 ?_
        refine m_g7_0 hx hb hF hown hR kd_1 mw_1_118 dX9_charge_31 ?_
        refine m_g0_3 hx hb hF hown hR kd_2 mw_1_62 dX9_charge_34 ?_
        refine lv_iload_n hx hb dX9_charge_37 rfl (lv_at hl 1 rfl) ?_
        obtain ⟨g38, h⟩ := mgd_e h
        refine m_ialdL hx hb hR kd_5 g38 (jn := (Int32.toNatClampNeg i1)) rfl dX9_charge_38 ?_
        refine lv_topi (fun x39 ex39 => ?_)
        have h := mlt_n h x39 ex39
        refine lv_istore_n (lv' := [(3, .int x39), (0, .ref (X.1 0)), (1, .int i1), (2, .int i2)]) hx hb dX9_charge_39 rfl hl (by decide) rfl (fun ls hl => ?_)
        refine lv_aload_n hx hb dX9_charge_40 rfl (lv_at hl 1 rfl) ?_
        refine m_g8_0 hx hb hF hown hR kd_0 mw_2_42 dX9_charge_41 ?_
        refine m_g7_0 hx hb hF hown hR kd_1 mw_1_118 dX9_charge_44 ?_
        refine m_g0_3 hx hb hF hown hR kd_2 mw_1_62 dX9_charge_47 ?_
        refine lv_iload_n hx hb dX9_charge_50 rfl (lv_at hl 2 rfl) ?_
        refine lv_iload_n hx hb dX9_charge_51 rfl (lv_at hl 3 rfl) ?_
        obtain ⟨g52, h⟩ := mgd_e h
        obtain ⟨M52, eM52⟩ : ∃ y : mM, y = mI M 5 (Int32.toNatClampNeg i1) i2 := ⟨_, rfl⟩
        have h := mlt_n h M52 eM52
        refine m_iastL hx hb hR hS kd_5 g52 (jn := (Int32.toNatClampNeg i1)) rfl dX9_charge_52 eM52 (fun H locs hR hS => ?_)
        refine lv_iload_n hx hb dX9_charge_53 rfl (lv_at hl 0 rfl) ?_
        exact m_ir hx hb hlk hr hR hS (Option.some.inj h).symm dX9_charge_54
      · have h := mif_n h c22
        refine lv_iconst (v := (-1)) hx hb dX9_charge_25 (by decide) ?_
        exact m_ir hx hb hlk hr hR hS (Option.some.inj h).symm dX9_charge_26
theorem c_X9_charge (l : Launch) (X : mX) (i1 : Int32) (i2 : Int32) (M : mM) {r : Int32 × mM} (h : f_X9_charge i1 i2 M = some r) : mMi l yX9_charge cX9_charge 4 (some .int) 1 21 X [.ref (X.1 0), .int i1, .int i2] M r := m_ofi (by decide +kernel) (Nat.le_of_ble_eq_true rfl) rfl (fun p e s m args below meth c hs => w_X9_charge hs i1 i2 M h)
set_option maxRecDepth 100000 in
set_option maxHeartbeats 4000000 in
theorem w_X0_isMove {l : Launch} {X : mX} {p : Program} {e : Env} {s : State} {m : MethodId} {args : Array Value} {below : List Frame} {meth : Method} {c : Code} {M : mM} {r : Int32} (hs : mS X RX0 cX0_isMove 2 (some .boolean) p s m meth c) : ∀ (b : Nat) (i1 : Int32) (h_b : isBody b), f_X0_isMove b i1 M = r → mG X p l e (rmF 1 21) s m args below meth c (MQ below (mQi X M r) args s 0 0 (mL X)) 2 0 [(0, .ref (X.1 b)), (1, .int i1)] [] M := by
  obtain ⟨hx, hb, hml, hown, hF, hlk, hr⟩ := id hs
  intro b i1 h_b h H locs ls hR hS hl
  refine lv_iload_n hx hb dX0_isMove_0 rfl (lv_at hl 1 rfl) ?_
  refine lv_if_lt (tgt := 19) hx hb dX0_isMove_1 (by decide) (fun c1 => ?_) (fun c1 => ?_)
  · have h := mif_y h c1
    refine lv_iconst (v := 0) hx hb dX0_isMove_19 (by decide) ?_
    exact m_zr hx hb hlk hr hR hS (Or.inl rfl) (congrArg (fun z => (z, M)) h.symm) dX0_isMove_20
  · have h := mif_n h c1
    refine lv_aload_n hx hb dX0_isMove_4 rfl (lv_at hl 0 rfl) ?_
    refine lv_iload_n hx hb dX0_isMove_5 rfl (lv_at hl 1 rfl) ?_
    refine lv_bipush (v := 8) hx hb dX0_isMove_6 (by decide) ?_
    refine lv_idiv hx hb dX0_isMove_8 (by decide) ?_
    refine m_ci (m_rV hx hb hml hown hF hR hS (ent0 (kBody0 h_b)) (kBody0 h_b) rfl (c_X0_has l X b (i1 / 8) h_b M) q_X0_54_V hdV_X0_has ⟨Nat.le_of_ble_eq_true rfl, Nat.le_of_ble_eq_true rfl⟩ rfl hl.1 rfl (Nat.le_of_ble_eq_true rfl) dX0_isMove_9) hS (fun H locs hR hS => ?_)
    refine lv_if_eq (tgt := 19) hx hb dX0_isMove_12 (by decide) (fun c12 => ?_) (fun c12 => ?_)
    · have h := mif_y h c12
      refine lv_iconst (v := 0) hx hb dX0_isMove_19 (by decide) ?_
      exact m_zr hx hb hlk hr hR hS (Or.inl rfl) (congrArg (fun z => (z, M)) h.symm) dX0_isMove_20
    · have h := mif_n h c12
      refine lv_iconst (v := 1) hx hb dX0_isMove_15 (by decide) ?_
      refine lv_goto (tgt := 20) hx hb dX0_isMove_16 (by decide) ?_
      exact m_zr hx hb hlk hr hR hS (Or.inr rfl) (congrArg (fun z => (z, M)) h.symm) dX0_isMove_20
theorem c_X0_isMove (l : Launch) (X : mX) (b : Nat) (i1 : Int32) (h_b : isBody b) (M : mM) : mMi l yX0_isMove cX0_isMove 2 (some .boolean) 1 21 X [.ref (X.1 b), .int i1] M (f_X0_isMove b i1 M, M) := m_ofi (by decide +kernel) (Nat.le_of_ble_eq_true rfl) rfl (fun p e s m args below meth c hs => w_X0_isMove hs b i1 h_b rfl)
set_option maxRecDepth 100000 in
set_option maxHeartbeats 4000000 in
theorem w_X0_supports {l : Launch} {X : mX} {p : Program} {e : Env} {s : State} {m : MethodId} {args : Array Value} {below : List Frame} {meth : Method} {c : Code} {M : mM} {r : Int32} (hs : mS X RX0 cX0_supports 3 (some .boolean) p s m meth c) : ∀ (b : Nat) (i1 : Int32) (h_b : isBody b), f_X0_supports b i1 M = some r → mG X p l e (rmF 1 21) s m args below meth c (MQ below (mQi X M r) args s 0 0 (mL X)) 3 0 [(0, .ref (X.1 b)), (1, .int i1)] [] M := by
  obtain ⟨hx, hb, hml, hown, hF, hlk, hr⟩ := id hs
  intro b i1 h_b h H locs ls hR hS hl
  refine lv_aload_n hx hb dX0_supports_0 rfl (lv_at hl 0 rfl) ?_
  refine lv_iload_n hx hb dX0_supports_1 rfl (lv_at hl 1 rfl) ?_
  obtain ⟨v2, q2, h⟩ := mbp_e h
  refine m_ci (m_rV hx hb hml hown hF hR hS (ent0 (kBody0 h_b)) (kBody0 h_b) rfl (c_X0_inCell l X b i1 h_b M q2) q_X0_51_V hdV_X0_inCell ⟨Nat.le_of_ble_eq_true rfl, Nat.le_of_ble_eq_true rfl⟩ rfl hl.1 rfl (Nat.le_of_ble_eq_true rfl) dX0_supports_2) hS (fun H locs hR hS => ?_)
  refine lv_istore_n (lv' := [(2, .int v2), (0, .ref (X.1 b)), (1, .int i1)]) hx hb dX0_supports_5 rfl hl (by decide) rfl (fun ls hl => ?_)
  refine lv_iload_n hx hb dX0_supports_6 rfl (lv_at hl 0 rfl) ?_
  refine lv_if_ge (tgt := 16) hx hb dX0_supports_7 (by decide) (fun c7 => ?_) (fun c7 => ?_)
  · have h := mif_y h c7
    refine lv_iconst (v := 1) hx hb dX0_supports_16 (by decide) ?_
    refine lv_goto (tgt := 21) hx hb dX0_supports_17 (by decide) ?_
    exact m_zr hx hb hlk hr hR hS (Or.inr rfl) (congrArg (fun z => (z, M)) (Option.some.inj h).symm) dX0_supports_21
  · have h := mif_n h c7
    refine lv_iload_n hx hb dX0_supports_10 rfl (lv_at hl 0 rfl) ?_
    refine lv_bipush (v := (-3)) hx hb dX0_supports_11 (by decide) ?_
    refine lv_icmp_ne (tgt := 20) hx hb dX0_supports_13 (by decide) (fun c13 => ?_) (fun c13 => ?_)
    · have h := mif_n h c13
      refine lv_iconst (v := 0) hx hb dX0_supports_20 (by decide) ?_
      exact m_zr hx hb hlk hr hR hS (Or.inl rfl) (congrArg (fun z => (z, M)) (Option.some.inj h).symm) dX0_supports_21
    · have h := mif_y h c13
      refine lv_iconst (v := 1) hx hb dX0_supports_16 (by decide) ?_
      refine lv_goto (tgt := 21) hx hb dX0_supports_17 (by decide) ?_
      exact m_zr hx hb hlk hr hR hS (Or.inr rfl) (congrArg (fun z => (z, M)) (Option.some.inj h).symm) dX0_supports_21
theorem c_X0_supports (l : Launch) (X : mX) (b : Nat) (i1 : Int32) (h_b : isBody b) (M : mM) {r : Int32} (h : f_X0_supports b i1 M = some r) : mMi l yX0_supports cX0_supports 3 (some .boolean) 1 21 X [.ref (X.1 b), .int i1] M (r, M) := m_ofi (by decide +kernel) (Nat.le_of_ble_eq_true rfl) rfl (fun p e s m args below meth c hs => w_X0_supports hs b i1 h_b h)
set_option maxRecDepth 100000 in
set_option maxHeartbeats 4000000 in
theorem w_X0_slides_b54 {l : Launch} {X : mX} {p : Program} {e : Env} {s : State} {m : MethodId} {args : Array Value} {below : List Frame} {meth : Method} {c : Code} {M : mM} {r : Int32} (hs : mS X RX0 cX0_slides 5 (some .boolean) p s m meth c) : ∀ (b : Nat) (i1 : Int32) (i2 : Int32) (i4 : Int32) (h_b : isBody b), f_X0_slides_b54 b i1 i2 i4 M = some r → mG X p l e (rmF 2 43) s m args below meth c (MQ below (mQi X M r) args s 0 0 (mL X)) 5 54 [(0, .ref (X.1 b)), (1, .int i1), (2, .int i2), (4, .int i4)] [] M := by
  obtain ⟨hx, hb, hml, hown, hF, hlk, hr⟩ := id hs
  intro b i1 i2 i4 h_b h H locs ls hR hS hl
  refine lv_aload_n hx hb dX0_slides_54 rfl (lv_at hl 0 rfl) ?_
  refine lv_iload_n hx hb dX0_slides_55 rfl (lv_at hl 1 rfl) ?_
  refine lv_iload hx hb dX0_slides_56 (lv_at hl 3 rfl) ?_
  refine lv_iadd hx hb dX0_slides_58 ?_
  obtain ⟨v59, q59, h⟩ := mbp_e h
  refine m_ci (m_rV hx hb hml hown hF hR hS (ent0 (kBody0 h_b)) (kBody0 h_b) rfl (c_X0_supports l X b (i1 + i4) h_b M q59) q_X0_77_V hdV_X0_supports ⟨Nat.le_of_ble_eq_true rfl, Nat.le_of_ble_eq_true rfl⟩ rfl hl.1 rfl (Nat.le_of_ble_eq_true rfl) dX0_slides_59) hS (fun H locs hR hS => ?_)
  refine lv_if_eq (tgt := 80) hx hb dX0_slides_62 (by decide) (fun c62 => ?_) (fun c62 => ?_)
  · have h := mif_y h c62
    refine lv_iconst (v := 0) hx hb dX0_slides_80 (by decide) ?_
    exact m_zr hx hb hlk hr hR hS (Or.inl rfl) (congrArg (fun z => (z, M)) (Option.some.inj h).symm) dX0_slides_81
  · have h := mif_n h c62
    refine lv_aload_n hx hb dX0_slides_65 rfl (lv_at hl 0 rfl) ?_
    refine lv_iload_n hx hb dX0_slides_66 rfl (lv_at hl 2 rfl) ?_
    refine lv_iload hx hb dX0_slides_67 (lv_at hl 3 rfl) ?_
    refine lv_iadd hx hb dX0_slides_69 ?_
    obtain ⟨v70, q70, h⟩ := mbp_e h
    refine m_ci (m_rV hx hb hml hown hF hR hS (ent0 (kBody0 h_b)) (kBody0 h_b) rfl (c_X0_supports l X b (i2 + i4) h_b M q70) q_X0_77_V hdV_X0_supports ⟨Nat.le_of_ble_eq_true rfl, Nat.le_of_ble_eq_true rfl⟩ rfl hl.1 rfl (Nat.le_of_ble_eq_true rfl) dX0_slides_70) hS (fun H locs hR hS => ?_)
    refine lv_if_eq (tgt := 80) hx hb dX0_slides_73 (by decide) (fun c73 => ?_) (fun c73 => ?_)
    · have h := mif_y h c73
      refine lv_iconst (v := 0) hx hb dX0_slides_80 (by decide) ?_
      exact m_zr hx hb hlk hr hR hS (Or.inl rfl) (congrArg (fun z => (z, M)) (Option.some.inj h).symm) dX0_slides_81
    · have h := mif_n h c73
      refine lv_iconst (v := 1) hx hb dX0_slides_76 (by decide) ?_
      refine lv_goto (tgt := 81) hx hb dX0_slides_77 (by decide) ?_
      exact m_zr hx hb hlk hr hR hS (Or.inr rfl) (congrArg (fun z => (z, M)) (Option.some.inj h).symm) dX0_slides_81
set_option maxRecDepth 100000 in
set_option maxHeartbeats 4000000 in
theorem w_X0_slides_b30 {l : Launch} {X : mX} {p : Program} {e : Env} {s : State} {m : MethodId} {args : Array Value} {below : List Frame} {meth : Method} {c : Code} {M : mM} {r : Int32} (hs : mS X RX0 cX0_slides 5 (some .boolean) p s m meth c) : ∀ (b : Nat) (i1 : Int32) (i2 : Int32) (s0 : Int32) (h_b : isBody b), f_X0_slides_b30 b i1 i2 s0 M = some r → mG X p l e (rmF 2 43) s m args below meth c (MQ below (mQi X M r) args s 0 0 (mL X)) 5 30 [(0, .ref (X.1 b)), (1, .int i1), (2, .int i2)] [.int s0] M := by
  obtain ⟨hx, hb, hml, hown, hF, hlk, hr⟩ := id hs
  intro b i1 i2 s0 h_b h H locs ls hR hS hl
  refine lv_istore (lv' := [(4, .int s0), (0, .ref (X.1 b)), (1, .int i1), (2, .int i2)]) hx hb dX0_slides_30 hl (by decide) rfl (fun ls hl => ?_)
  refine lv_aload_n hx hb dX0_slides_32 rfl (lv_at hl 1 rfl) ?_
  refine lv_iload_n hx hb dX0_slides_33 rfl (lv_at hl 2 rfl) ?_
  refine lv_iload hx hb dX0_slides_34 (lv_at hl 0 rfl) ?_
  refine lv_isub hx hb dX0_slides_36 ?_
  obtain ⟨v37, q37, h⟩ := mbp_e h
  refine m_ci (m_rV hx hb hml hown hF hR hS (ent0 (kBody0 h_b)) (kBody0 h_b) rfl (c_X0_supports l X b (i1 - s0) h_b M q37) q_X0_77_V hdV_X0_supports ⟨Nat.le_of_ble_eq_true rfl, Nat.le_of_ble_eq_true rfl⟩ rfl hl.1 rfl (Nat.le_of_ble_eq_true rfl) dX0_slides_37) hS (fun H locs hR hS => ?_)
  refine lv_if_eq (tgt := 54) hx hb dX0_slides_40 (by decide) (fun c40 => ?_) (fun c40 => ?_)
  · have h := mif_y h c40
    exact w_X0_slides_b54 hs b i1 i2 s0 h_b h H locs ls hR hS (lv_sub hl [1, 2, 3, 0] rfl)
  · have h := mif_n h c40
    refine lv_aload_n hx hb dX0_slides_43 rfl (lv_at hl 1 rfl) ?_
    refine lv_iload_n hx hb dX0_slides_44 rfl (lv_at hl 3 rfl) ?_
    refine lv_iload hx hb dX0_slides_45 (lv_at hl 0 rfl) ?_
    refine lv_isub hx hb dX0_slides_47 ?_
    obtain ⟨v48, q48, h⟩ := mbp_e h
    refine m_ci (m_rV hx hb hml hown hF hR hS (ent0 (kBody0 h_b)) (kBody0 h_b) rfl (c_X0_supports l X b (i2 - s0) h_b M q48) q_X0_77_V hdV_X0_supports ⟨Nat.le_of_ble_eq_true rfl, Nat.le_of_ble_eq_true rfl⟩ rfl hl.1 rfl (Nat.le_of_ble_eq_true rfl) dX0_slides_48) hS (fun H locs hR hS => ?_)
    refine lv_if_ne (tgt := 76) hx hb dX0_slides_51 (by decide) (fun c51 => ?_) (fun c51 => ?_)
    · have h := mif_n h c51
      refine lv_iconst (v := 1) hx hb dX0_slides_76 (by decide) ?_
      refine lv_goto (tgt := 81) hx hb dX0_slides_77 (by decide) ?_
      exact m_zr hx hb hlk hr hR hS (Or.inr rfl) (congrArg (fun z => (z, M)) (Option.some.inj h).symm) dX0_slides_81
    · have h := mif_y h c51
      exact w_X0_slides_b54 hs b i1 i2 s0 h_b h H locs ls hR hS (lv_sub hl [1, 2, 3, 0] rfl)
set_option maxRecDepth 100000 in
set_option maxHeartbeats 4000000 in
theorem w_X0_slides_b19 {l : Launch} {X : mX} {p : Program} {e : Env} {s : State} {m : MethodId} {args : Array Value} {below : List Frame} {meth : Method} {c : Code} {M : mM} {r : Int32} (hs : mS X RX0 cX0_slides 5 (some .boolean) p s m meth c) : ∀ (b : Nat) (i1 : Int32) (i2 : Int32) (s0 : Int32) (h_b : isBody b), f_X0_slides_b19 b i1 i2 s0 M = some r → mG X p l e (rmF 2 43) s m args below meth c (MQ below (mQi X M r) args s 0 0 (mL X)) 5 19 [(0, .ref (X.1 b)), (1, .int i1), (2, .int i2)] [.int s0] M := by
  obtain ⟨hx, hb, hml, hown, hF, hlk, hr⟩ := id hs
  intro b i1 i2 s0 h_b h H locs ls hR hS hl
  refine lv_istore_n (lv' := [(3, .int s0), (0, .ref (X.1 b)), (1, .int i1), (2, .int i2)]) hx hb dX0_slides_19 rfl hl (by decide) rfl (fun ls hl => ?_)
  refine lv_iload_n hx hb dX0_slides_20 rfl (lv_at hl 0 rfl) ?_
  refine lv_if_eq (tgt := 29) hx hb dX0_slides_21 (by decide) (fun c21 => ?_) (fun c21 => ?_)
  · have h := mif_y h c21
    refine lv_iconst (v := 1) hx hb dX0_slides_29 (by decide) ?_
    exact w_X0_slides_b30 hs b i1 i2 1 h_b h H locs ls hR hS (lv_sub hl [1, 2, 3] rfl)
  · have h := mif_n h c21
    refine lv_bipush (v := 12) hx hb dX0_slides_24 (by decide) ?_
    refine lv_goto (tgt := 30) hx hb dX0_slides_26 (by decide) ?_
    exact w_X0_slides_b30 hs b i1 i2 12 h_b h H locs ls hR hS (lv_sub hl [1, 2, 3] rfl)
set_option maxRecDepth 100000 in
set_option maxHeartbeats 4000000 in
theorem w_X0_slides {l : Launch} {X : mX} {p : Program} {e : Env} {s : State} {m : MethodId} {args : Array Value} {below : List Frame} {meth : Method} {c : Code} {M : mM} {r : Int32} (hs : mS X RX0 cX0_slides 5 (some .boolean) p s m meth c) : ∀ (b : Nat) (i1 : Int32) (i2 : Int32) (h_b : isBody b), f_X0_slides b i1 i2 M = some r → mG X p l e (rmF 2 43) s m args below meth c (MQ below (mQi X M r) args s 0 0 (mL X)) 5 0 [(0, .ref (X.1 b)), (1, .int i1), (2, .int i2)] [] M := by
  obtain ⟨hx, hb, hml, hown, hF, hlk, hr⟩ := id hs
  intro b i1 i2 h_b h H locs ls hR hS hl
  refine lv_iload_n hx hb dX0_slides_0 rfl (lv_at hl 2 rfl) ?_
  refine lv_iload_n hx hb dX0_slides_1 rfl (lv_at hl 1 rfl) ?_
  refine lv_isub hx hb dX0_slides_2 ?_
  refine lv_iconst (v := 1) hx hb dX0_slides_3 (by decide) ?_
  refine lv_icmp_eq (tgt := 14) hx hb dX0_slides_4 (by decide) (fun c4 => ?_) (fun c4 => ?_)
  · have h := mif_y h c4
    refine lv_iconst (v := 1) hx hb dX0_slides_14 (by decide) ?_
    refine lv_goto (tgt := 19) hx hb dX0_slides_15 (by decide) ?_
    exact w_X0_slides_b19 hs b i1 i2 1 h_b h H locs ls hR hS (lv_sub hl [0, 1, 2] rfl)
  · have h := mif_n h c4
    refine lv_iload_n hx hb dX0_slides_7 rfl (lv_at hl 1 rfl) ?_
    refine lv_iload_n hx hb dX0_slides_8 rfl (lv_at hl 2 rfl) ?_
    refine lv_isub hx hb dX0_slides_9 ?_
    refine lv_iconst (v := 1) hx hb dX0_slides_10 (by decide) ?_
    refine lv_icmp_ne (tgt := 18) hx hb dX0_slides_11 (by decide) (fun c11 => ?_) (fun c11 => ?_)
    · have h := mif_n h c11
      refine lv_iconst (v := 0) hx hb dX0_slides_18 (by decide) ?_
      exact w_X0_slides_b19 hs b i1 i2 0 h_b h H locs ls hR hS (lv_sub hl [0, 1, 2] rfl)
    · have h := mif_y h c11
      refine lv_iconst (v := 1) hx hb dX0_slides_14 (by decide) ?_
      refine lv_goto (tgt := 19) hx hb dX0_slides_15 (by decide) ?_
      exact w_X0_slides_b19 hs b i1 i2 1 h_b h H locs ls hR hS (lv_sub hl [0, 1, 2] rfl)
theorem c_X0_slides (l : Launch) (X : mX) (b : Nat) (i1 : Int32) (i2 : Int32) (h_b : isBody b) (M : mM) {r : Int32} (h : f_X0_slides b i1 i2 M = some r) : mMi l yX0_slides cX0_slides 5 (some .boolean) 2 43 X [.ref (X.1 b), .int i1, .int i2] M (r, M) := m_ofi (by decide +kernel) (Nat.le_of_ble_eq_true rfl) rfl (fun p e s m args below meth c hs => w_X0_slides hs b i1 i2 h_b h)
set_option maxRecDepth 100000 in
set_option maxHeartbeats 4000000 in
theorem w_X0_turns {l : Launch} {X : mX} {p : Program} {e : Env} {s : State} {m : MethodId} {args : Array Value} {below : List Frame} {meth : Method} {c : Code} {M : mM} {r : Int32} (hs : mS X RX0 cX0_turns 3 (some .boolean) p s m meth c) : ∀ (b : Nat) (i1 : Int32) (i2 : Int32) (h_b : isBody b), f_X0_turns b i1 i2 M = some r → mG X p l e (rmF 1 21) s m args below meth c (MQ below (mQi X M r) args s 0 0 (mL X)) 3 0 [(0, .ref (X.1 b)), (1, .int i1), (2, .int i2)] [] M := by
  obtain ⟨hx, hb, hml, hown, hF, hlk, hr⟩ := id hs
  intro b i1 i2 h_b h H locs ls hR hS hl
  refine lv_aload_n hx hb dX0_turns_0 rfl (lv_at hl 0 rfl) ?_
  refine lv_iload_n hx hb dX0_turns_1 rfl (lv_at hl 1 rfl) ?_
  refine m_gsN hx hb hF hS hown 4 (by decide) rfl 15 rfl dX0_turns_2 ?_
  refine lv_iload_n hx hb dX0_turns_5 rfl (lv_at hl 2 rfl) ?_
  obtain ⟨g6, h⟩ := mgd_e h
  refine m_saidL hx hb hF hS 4 (by decide) (N := 4) rfl g6 (jn := (Int32.toNatClampNeg i2)) rfl dX0_turns_6 ?_
  refine lv_iadd hx hb dX0_turns_7 ?_
  obtain ⟨v8, q8, h⟩ := mbp_e h
  refine m_ci (m_rV hx hb hml hown hF hR hS (ent0 (kBody0 h_b)) (kBody0 h_b) rfl (c_X0_inCell l X b (i1 + (sVal 4 (Int32.toNatClampNeg i2))) h_b M q8) q_X0_51_V hdV_X0_inCell ⟨Nat.le_of_ble_eq_true rfl, Nat.le_of_ble_eq_true rfl⟩ rfl hl.1 rfl (Nat.le_of_ble_eq_true rfl) dX0_turns_8) hS (fun H locs hR hS => ?_)
  refine lv_iconst (v := (-1)) hx hb dX0_turns_11 (by decide) ?_
  refine lv_icmp_ne (tgt := 33) hx hb dX0_turns_12 (by decide) (fun c12 => ?_) (fun c12 => ?_)
  · have h := mif_n h c12
    refine lv_iconst (v := 0) hx hb dX0_turns_33 (by decide) ?_
    exact m_zr hx hb hlk hr hR hS (Or.inl rfl) (congrArg (fun z => (z, M)) (Option.some.inj h).symm) dX0_turns_34
  · have h := mif_y h c12
    refine lv_aload_n hx hb dX0_turns_15 rfl (lv_at hl 0 rfl) ?_
    refine lv_iload_n hx hb dX0_turns_16 rfl (lv_at hl 1 rfl) ?_
    refine m_gsN hx hb hF hS hown 5 (by decide) rfl 16 rfl dX0_turns_17 ?_
    refine lv_iload_n hx hb dX0_turns_20 rfl (lv_at hl 2 rfl) ?_
    obtain ⟨g21, h⟩ := mgd_e h
    refine m_saidL hx hb hF hS 5 (by decide) (N := 4) rfl g21 (jn := (Int32.toNatClampNeg i2)) rfl dX0_turns_21 ?_
    refine lv_iadd hx hb dX0_turns_22 ?_
    obtain ⟨v23, q23, h⟩ := mbp_e h
    refine m_ci (m_rV hx hb hml hown hF hR hS (ent0 (kBody0 h_b)) (kBody0 h_b) rfl (c_X0_inCell l X b (i1 + (sVal 5 (Int32.toNatClampNeg i2))) h_b M q23) q_X0_51_V hdV_X0_inCell ⟨Nat.le_of_ble_eq_true rfl, Nat.le_of_ble_eq_true rfl⟩ rfl hl.1 rfl (Nat.le_of_ble_eq_true rfl) dX0_turns_23) hS (fun H locs hR hS => ?_)
    refine lv_if_lt (tgt := 33) hx hb dX0_turns_26 (by decide) (fun c26 => ?_) (fun c26 => ?_)
    · have h := mif_y h c26
      refine lv_iconst (v := 0) hx hb dX0_turns_33 (by decide) ?_
      exact m_zr hx hb hlk hr hR hS (Or.inl rfl) (congrArg (fun z => (z, M)) (Option.some.inj h).symm) dX0_turns_34
    · have h := mif_n h c26
      refine lv_iconst (v := 1) hx hb dX0_turns_29 (by decide) ?_
      refine lv_goto (tgt := 34) hx hb dX0_turns_30 (by decide) ?_
      exact m_zr hx hb hlk hr hR hS (Or.inr rfl) (congrArg (fun z => (z, M)) (Option.some.inj h).symm) dX0_turns_34
theorem c_X0_turns (l : Launch) (X : mX) (b : Nat) (i1 : Int32) (i2 : Int32) (h_b : isBody b) (M : mM) {r : Int32} (h : f_X0_turns b i1 i2 M = some r) : mMi l yX0_turns cX0_turns 3 (some .boolean) 1 21 X [.ref (X.1 b), .int i1, .int i2] M (r, M) := m_ofi (by decide +kernel) (Nat.le_of_ble_eq_true rfl) rfl (fun p e s m args below meth c hs => w_X0_turns hs b i1 i2 h_b h)
set_option maxRecDepth 100000 in
set_option maxHeartbeats 4000000 in
theorem w_X0_othersAreWhole_b175 {l : Launch} {X : mX} {p : Program} {e : Env} {s : State} {m : MethodId} {args : Array Value} {below : List Frame} {meth : Method} {c : Code} {r : Int32 × mM} (hs : mS X RX0 cX0_othersAreWhole 11 (some .boolean) p s m meth c) : ∀ (b : Nat) (i2 : Int32) (i5 : Int32) (i6 : Int32) (h_b : isBody b) (M : mM), f_X0_othersAreWhole_b175 b i2 i5 i6 M = some r → mG X p l e (rmF 1 21) s m args below meth c (MQ below (mQi X r.2 r.1) args s 0 0 (mL X)) 11 175 [(2, .int i2), (5, .int i5), (6, .int i6)] [] M := by
  obtain ⟨hx, hb, hml, hown, hF, hlk, hr⟩ := id hs
  intro b i2 i5 i6 h_b M h H locs ls hR hS hl
  refine lv_iload hx hb dX0_othersAreWhole_175 (lv_at hl 2 rfl) ?_
  refine lv_if_eq (tgt := 190) hx hb dX0_othersAreWhole_177 (by decide) (fun c177 => ?_) (fun c177 => ?_)
  · have h := mif_y h c177
    refine lv_iconst (v := 0) hx hb dX0_othersAreWhole_190 (by decide) ?_
    exact m_zr hx hb hlk hr hR hS (Or.inl rfl) (Option.some.inj h).symm dX0_othersAreWhole_191
  · have h := mif_n h c177
    refine lv_iload hx hb dX0_othersAreWhole_180 (lv_at hl 1 rfl) ?_
    refine lv_iload_n hx hb dX0_othersAreWhole_182 rfl (lv_at hl 0 rfl) ?_
    refine lv_icmp_ne (tgt := 190) hx hb dX0_othersAreWhole_183 (by decide) (fun c183 => ?_) (fun c183 => ?_)
    · have h := mif_n h c183
      refine lv_iconst (v := 0) hx hb dX0_othersAreWhole_190 (by decide) ?_
      exact m_zr hx hb hlk hr hR hS (Or.inl rfl) (Option.some.inj h).symm dX0_othersAreWhole_191
    · have h := mif_y h c183
      refine lv_iconst (v := 1) hx hb dX0_othersAreWhole_186 (by decide) ?_
      refine lv_goto (tgt := 191) hx hb dX0_othersAreWhole_187 (by decide) ?_
      exact m_zr hx hb hlk hr hR hS (Or.inr rfl) (Option.some.inj h).symm dX0_othersAreWhole_191
set_option maxRecDepth 100000 in
set_option maxHeartbeats 4000000 in
theorem w_X0_othersAreWhole_b99 {l : Launch} {X : mX} {p : Program} {e : Env} {s : State} {m : MethodId} {args : Array Value} {below : List Frame} {meth : Method} {c : Code} {r : Int32 × mM} (hs : mS X RX0 cX0_othersAreWhole 11 (some .boolean) p s m meth c) (k48 : Nat → Int32 → Int32 → Int32 → Int32 → Int32 → mM → Option (Int32 × mM)) (hk48 : ∀ (b : Nat) (i2 : Int32) (i4 : Int32) (i5 : Int32) (i6 : Int32) (i7 : Int32) (h_b : isBody b) (M : mM), k48 b i2 i4 i5 i6 i7 M = some r → mG X p l e (rmF 1 21) s m args below meth c (MQ below (mQi X r.2 r.1) args s 0 0 (mL X)) 11 48 [(0, .ref (X.1 b)), (2, .int i2), (4, .int i4), (5, .int i5), (6, .int i6), (7, .int i7)] [] M) : ∀ n : Nat, ∀ (b : Nat) (i2 : Int32) (i4 : Int32) (i5 : Int32) (i6 : Int32) (i7 : Int32) (i8 : Int32) (i9 : Int32) (h_b : isBody b) (M : mM), f_X0_othersAreWhole_b99 k48 n b i2 i4 i5 i6 i7 i8 i9 M = some r → mG X p l e (rmF 1 21) s m args below meth c (MQ below (mQi X r.2 r.1) args s 0 0 (mL X)) 11 99 [(0, .ref (X.1 b)), (2, .int i2), (4, .int i4), (5, .int i5), (6, .int i6), (7, .int i7), (8, .int i8), (9, .int i9)] [] M := by
  obtain ⟨hx, hb, hml, hown, hF, hlk, hr⟩ := id hs
  intro n
  induction n with
  | zero =>
    intro b i2 i4 i5 i6 i7 i8 i9 h_b M h
    have h0 : (none : Option (Int32 × mM)) = some r := h
    cases h0
  | succ n ih =>
    intro b i2 i4 i5 i6 i7 i8 i9 h_b M h H locs ls hR hS hl
    refine lv_iload hx hb dX0_othersAreWhole_99 (lv_at hl 7 rfl) ?_
    refine lv_iconst (v := 4) hx hb dX0_othersAreWhole_101 (by decide) ?_
    refine lv_icmp_ge (tgt := 169) hx hb dX0_othersAreWhole_102 (by decide) (fun c102 => ?_) (fun c102 => ?_)
    · have h := mif_y h c102
      obtain ⟨x169, ex169⟩ : ∃ y : Int32, y = (i7 + 1) := ⟨_, rfl⟩
      have h := mlt_n h x169 ex169
      refine lv_iinc (v := x169) (lv' := [(7, .int x169), (0, .ref (X.1 b)), (2, .int i2), (4, .int i4), (5, .int i5), (6, .int i6), (8, .int i8), (9, .int i9)]) hx hb dX0_othersAreWhole_169 hl (k := 5) rfl (by rw [ex169]; rfl) (by decide) rfl (fun ls hl => ?_)
      refine lv_goto (tgt := 48) hx hb dX0_othersAreWhole_172 (by decide) ?_
      exact hk48 b i2 i4 i5 i6 x169 h_b M h H locs ls hR hS (lv_sub hl [1, 2, 3, 4, 5, 0] rfl)
    · have h := mif_n h c102
      refine lv_aload_n hx hb dX0_othersAreWhole_105 rfl (lv_at hl 0 rfl) ?_
      refine lv_iload hx hb dX0_othersAreWhole_106 (lv_at hl 6 rfl) ?_
      refine m_gsN hx hb hF hS hown 3 (by decide) rfl 11 rfl dX0_othersAreWhole_108 ?_
      refine lv_iload hx hb dX0_othersAreWhole_111 (lv_at hl 7 rfl) ?_
      obtain ⟨g113, h⟩ := mgd_e h
      refine m_saidL hx hb hF hS 3 (by decide) (N := 8) rfl g113 (jn := (Int32.toNatClampNeg i9)) rfl dX0_othersAreWhole_113 ?_
      refine lv_iadd hx hb dX0_othersAreWhole_114 ?_
      obtain ⟨v115, q115, h⟩ := mbp_e h
      refine m_ci (m_rV hx hb hml hown hF hR hS (ent0 (kBody0 h_b)) (kBody0 h_b) rfl (c_X0_inCell l X b (i8 + (sVal 3 (Int32.toNatClampNeg i9))) h_b M q115) q_X0_51_V hdV_X0_inCell ⟨Nat.le_of_ble_eq_true rfl, Nat.le_of_ble_eq_true rfl⟩ rfl hl.1 rfl (Nat.le_of_ble_eq_true rfl) dX0_othersAreWhole_115) hS (fun H locs hR hS => ?_)
      refine lv_istore (lv' := [(10, .int v115), (0, .ref (X.1 b)), (2, .int i2), (4, .int i4), (5, .int i5), (6, .int i6), (7, .int i7), (8, .int i8), (9, .int i9)]) hx hb dX0_othersAreWhole_118 hl (by decide) rfl (fun ls hl => ?_)
      refine lv_iload hx hb dX0_othersAreWhole_120 (lv_at hl 0 rfl) ?_
      refine lv_if_lt (tgt := 163) hx hb dX0_othersAreWhole_122 (by decide) (fun c122 => ?_) (fun c122 => ?_)
      · have h := mif_y h c122
        obtain ⟨x163, ex163⟩ : ∃ y : Int32, y = (i9 + 1) := ⟨_, rfl⟩
        have h := mlt_n h x163 ex163
        refine lv_iinc (v := x163) (lv' := [(9, .int x163), (10, .int v115), (0, .ref (X.1 b)), (2, .int i2), (4, .int i4), (5, .int i5), (6, .int i6), (7, .int i7), (8, .int i8)]) hx hb dX0_othersAreWhole_163 hl (k := 8) rfl (by rw [ex163]; rfl) (by decide) rfl (fun ls hl => ?_)
        refine lv_goto (tgt := 99) hx hb dX0_othersAreWhole_166 (by decide) ?_
        exact ih b i2 i4 i5 i6 i7 i8 x163 h_b M h H locs ls hR hS (lv_sub hl [2, 3, 4, 5, 6, 7, 8, 0] rfl)
      · have h := mif_n h c122
        refine lv_iload hx hb dX0_othersAreWhole_125 (lv_at hl 3 rfl) ?_
        refine lv_iload hx hb dX0_othersAreWhole_127 (lv_at hl 0 rfl) ?_
        refine lv_ishr hx hb dX0_othersAreWhole_129 ?_
        refine lv_iconst (v := 1) hx hb dX0_othersAreWhole_130 (by decide) ?_
        refine lv_iand hx hb dX0_othersAreWhole_131 ?_
        refine lv_if_ne (tgt := 163) hx hb dX0_othersAreWhole_132 (by decide) (fun c132 => ?_) (fun c132 => ?_)
        · have h := mif_n h c132
          obtain ⟨x163, ex163⟩ : ∃ y : Int32, y = (i9 + 1) := ⟨_, rfl⟩
          have h := mlt_n h x163 ex163
          refine lv_iinc (v := x163) (lv' := [(9, .int x163), (10, .int v115), (0, .ref (X.1 b)), (2, .int i2), (4, .int i4), (5, .int i5), (6, .int i6), (7, .int i7), (8, .int i8)]) hx hb dX0_othersAreWhole_163 hl (k := 8) rfl (by rw [ex163]; rfl) (by decide) rfl (fun ls hl => ?_)
          refine lv_goto (tgt := 99) hx hb dX0_othersAreWhole_166 (by decide) ?_
          exact ih b i2 i4 i5 i6 i7 i8 x163 h_b M h H locs ls hR hS (lv_sub hl [2, 3, 4, 5, 6, 7, 8, 0] rfl)
        · have h := mif_y h c132
          refine lv_iload hx hb dX0_othersAreWhole_135 (lv_at hl 4 rfl) ?_
          refine lv_bipush (v := 16) hx hb dX0_othersAreWhole_137 (by decide) ?_
          refine lv_icmp_ge (tgt := 163) hx hb dX0_othersAreWhole_139 (by decide) (fun c139 => ?_) (fun c139 => ?_)
          · have h := mif_y h c139
            obtain ⟨x163, ex163⟩ : ∃ y : Int32, y = (i9 + 1) := ⟨_, rfl⟩
            have h := mlt_n h x163 ex163
            refine lv_iinc (v := x163) (lv' := [(9, .int x163), (10, .int v115), (0, .ref (X.1 b)), (2, .int i2), (4, .int i4), (5, .int i5), (6, .int i6), (7, .int i7), (8, .int i8)]) hx hb dX0_othersAreWhole_163 hl (k := 8) rfl (by rw [ex163]; rfl) (by decide) rfl (fun ls hl => ?_)
            refine lv_goto (tgt := 99) hx hb dX0_othersAreWhole_166 (by decide) ?_
            exact ih b i2 i4 i5 i6 i7 i8 x163 h_b M h H locs ls hR hS (lv_sub hl [2, 3, 4, 5, 6, 7, 8, 0] rfl)
          · have h := mif_n h c139
            refine lv_iload hx hb dX0_othersAreWhole_142 (lv_at hl 3 rfl) ?_
            refine lv_iconst (v := 1) hx hb dX0_othersAreWhole_144 (by decide) ?_
            refine lv_iload hx hb dX0_othersAreWhole_145 (lv_at hl 0 rfl) ?_
            refine lv_ishl hx hb dX0_othersAreWhole_147 ?_
            refine lv_ior hx hb dX0_othersAreWhole_148 ?_
            refine lv_topi (fun x149 ex149 => ?_)
            have h := mlt_n h x149 ex149
            refine lv_istore (lv' := [(4, .int x149), (10, .int v115), (0, .ref (X.1 b)), (2, .int i2), (5, .int i5), (6, .int i6), (7, .int i7), (8, .int i8), (9, .int i9)]) hx hb dX0_othersAreWhole_149 hl (by decide) rfl (fun ls hl => ?_)
            refine lv_aload_n hx hb dX0_othersAreWhole_151 rfl (lv_at hl 2 rfl) ?_
            refine m_g0_7 hx hb hF hown hR (kBody0 h_b) mw_1_72 dX0_othersAreWhole_152 ?_
            refine lv_iload hx hb dX0_othersAreWhole_155 (lv_at hl 4 rfl) ?_
            refine lv_iload hx hb dX0_othersAreWhole_157 (lv_at hl 1 rfl) ?_
            obtain ⟨g159, h⟩ := mgd_e h
            obtain ⟨M159, eM159⟩ : ∃ y : mM, y = mI M (b + 7) (Int32.toNatClampNeg i5) v115 := ⟨_, rfl⟩
            have h := mlt_n h M159 eM159
            refine m_iastL hx hb hR hS (kBody7 h_b) g159 (jn := (Int32.toNatClampNeg i5)) rfl dX0_othersAreWhole_159 eM159 (fun H locs hR hS => ?_)
            obtain ⟨x160, ex160⟩ : ∃ y : Int32, y = (i5 + 1) := ⟨_, rfl⟩
            have h := mlt_n h x160 ex160
            refine lv_iinc (v := x160) (lv' := [(5, .int x160), (4, .int x149), (10, .int v115), (0, .ref (X.1 b)), (2, .int i2), (6, .int i6), (7, .int i7), (8, .int i8), (9, .int i9)]) hx hb dX0_othersAreWhole_160 hl (k := 4) rfl (by rw [ex160]; rfl) (by decide) rfl (fun ls hl => ?_)
            obtain ⟨x163, ex163⟩ : ∃ y : Int32, y = (i9 + 1) := ⟨_, rfl⟩
            have h := mlt_n h x163 ex163
            refine lv_iinc (v := x163) (lv' := [(9, .int x163), (5, .int x160), (4, .int x149), (10, .int v115), (0, .ref (X.1 b)), (2, .int i2), (6, .int i6), (7, .int i7), (8, .int i8)]) hx hb dX0_othersAreWhole_163 hl (k := 8) rfl (by rw [ex163]; rfl) (by decide) rfl (fun ls hl => ?_)
            refine lv_goto (tgt := 99) hx hb dX0_othersAreWhole_166 (by decide) ?_
            exact ih b i2 x149 x160 i6 i7 i8 x163 h_b M159 h H locs ls hR hS (lv_sub hl [4, 5, 2, 1, 6, 7, 8, 0] rfl)
set_option maxRecDepth 100000 in
set_option maxHeartbeats 4000000 in
theorem w_X0_othersAreWhole_b48 {l : Launch} {X : mX} {p : Program} {e : Env} {s : State} {m : MethodId} {args : Array Value} {below : List Frame} {meth : Method} {c : Code} {r : Int32 × mM} (hs : mS X RX0 cX0_othersAreWhole 11 (some .boolean) p s m meth c) : ∀ n : Nat, ∀ (b : Nat) (i2 : Int32) (i4 : Int32) (i5 : Int32) (i6 : Int32) (i7 : Int32) (h_b : isBody b) (M : mM), f_X0_othersAreWhole_b48 n b i2 i4 i5 i6 i7 M = some r → mG X p l e (rmF 1 21) s m args below meth c (MQ below (mQi X r.2 r.1) args s 0 0 (mL X)) 11 48 [(0, .ref (X.1 b)), (2, .int i2), (4, .int i4), (5, .int i5), (6, .int i6), (7, .int i7)] [] M := by
  obtain ⟨hx, hb, hml, hown, hF, hlk, hr⟩ := id hs
  intro n
  induction n with
  | zero =>
    intro b i2 i4 i5 i6 i7 h_b M h
    have h0 : (none : Option (Int32 × mM)) = some r := h
    cases h0
  | succ n ih =>
    intro b i2 i4 i5 i6 i7 h_b M h H locs ls hR hS hl
    refine lv_iload hx hb dX0_othersAreWhole_48 (lv_at hl 5 rfl) ?_
    refine lv_bipush (v := 16) hx hb dX0_othersAreWhole_50 (by decide) ?_
    refine lv_icmp_ge (tgt := 175) hx hb dX0_othersAreWhole_52 (by decide) (fun c52 => ?_) (fun c52 => ?_)
    · have h := mif_y h c52
      exact w_X0_othersAreWhole_b175 hs b i2 i5 i6 h_b M h H locs ls hR hS (lv_sub hl [1, 3, 4] rfl)
    · have h := mif_n h c52
      refine lv_iload hx hb dX0_othersAreWhole_55 (lv_at hl 5 rfl) ?_
      refine lv_iload hx hb dX0_othersAreWhole_57 (lv_at hl 3 rfl) ?_
      refine lv_icmp_ge (tgt := 175) hx hb dX0_othersAreWhole_59 (by decide) (fun c59 => ?_) (fun c59 => ?_)
      · have h := mif_y h c59
        exact w_X0_othersAreWhole_b175 hs b i2 i5 i6 h_b M h H locs ls hR hS (lv_sub hl [1, 3, 4] rfl)
      · have h := mif_n h c59
        refine lv_aload_n hx hb dX0_othersAreWhole_62 rfl (lv_at hl 0 rfl) ?_
        refine m_g0_2 hx hb hF hown hR (kBody0 h_b) mw_1_54 dX0_othersAreWhole_63 ?_
        refine lv_aload_n hx hb dX0_othersAreWhole_66 rfl (lv_at hl 0 rfl) ?_
        refine m_g0_7 hx hb hF hown hR (kBody0 h_b) mw_1_72 dX0_othersAreWhole_67 ?_
        refine lv_iload hx hb dX0_othersAreWhole_70 (lv_at hl 5 rfl) ?_
        obtain ⟨g72, h⟩ := mgd_e h
        refine m_ialdL hx hb hR (kBody7 h_b) g72 (jn := (Int32.toNatClampNeg i7)) rfl dX0_othersAreWhole_72 ?_
        obtain ⟨g73, h⟩ := mgd_e h
        refine m_ialdL hx hb hR (kBody2 h_b) g73 (jn := (Int32.toNatClampNeg (M.1 (b + 7) (Int32.toNatClampNeg i7)))) rfl dX0_othersAreWhole_73 ?_
        refine lv_topi (fun x74 ex74 => ?_)
        have h := mlt_n h x74 ex74
        refine lv_istore (lv' := [(8, .int x74), (0, .ref (X.1 b)), (2, .int i2), (4, .int i4), (5, .int i5), (6, .int i6), (7, .int i7)]) hx hb dX0_othersAreWhole_74 hl (by decide) rfl (fun ls hl => ?_)
        refine lv_iload hx hb dX0_othersAreWhole_76 (lv_at hl 5 rfl) ?_
        refine lv_if_ne (tgt := 89) hx hb dX0_othersAreWhole_78 (by decide) (fun c78 => ?_) (fun c78 => ?_)
        · have h := mif_n h c78
          refine lv_iconst (v := 1) hx hb dX0_othersAreWhole_89 (by decide) ?_
          refine lv_goto (tgt := 94) hx hb dX0_othersAreWhole_90 (by decide) ?_
          refine lv_istore (lv' := [(6, .int 1), (8, .int x74), (0, .ref (X.1 b)), (2, .int i2), (4, .int i4), (5, .int i5), (7, .int i7)]) hx hb dX0_othersAreWhole_94 hl (by decide) rfl (fun ls hl => ?_)
          refine lv_iconst (v := 0) hx hb dX0_othersAreWhole_96 (by decide) ?_
          refine lv_istore (lv' := [(9, .int 0), (6, .int 1), (8, .int x74), (0, .ref (X.1 b)), (2, .int i2), (4, .int i4), (5, .int i5), (7, .int i7)]) hx hb dX0_othersAreWhole_97 hl (by decide) rfl (fun ls hl => ?_)
          exact w_X0_othersAreWhole_b99 hs (f_X0_othersAreWhole_b48 n) ih mN b i2 i4 i5 1 i7 x74 0 h_b M h H locs ls hR hS (lv_sub hl [3, 4, 5, 6, 1, 7, 2, 0] rfl)
        · have h := mif_y h c78
          refine lv_iload hx hb dX0_othersAreWhole_81 (lv_at hl 0 rfl) ?_
          refine m_ci (m_rSN hx hb hml hown hF hR hS (c_X9_levelOf l X x74 M) mw_1_45 mw_1_1 mw_1_44 2 rfl hdS_X9_levelOf ⟨Nat.le_of_ble_eq_true rfl, Nat.le_of_ble_eq_true rfl⟩ rfl hl.1 rfl (Nat.le_of_ble_eq_true rfl) dX0_othersAreWhole_83) hS (fun H locs hR hS => ?_)
          refine lv_if_ne (tgt := 93) hx hb dX0_othersAreWhole_86 (by decide) (fun c86 => ?_) (fun c86 => ?_)
          · have h := mif_n h c86
            refine lv_iconst (v := 0) hx hb dX0_othersAreWhole_93 (by decide) ?_
            refine lv_istore (lv' := [(6, .int 0), (8, .int x74), (0, .ref (X.1 b)), (2, .int i2), (4, .int i4), (5, .int i5), (7, .int i7)]) hx hb dX0_othersAreWhole_94 hl (by decide) rfl (fun ls hl => ?_)
            refine lv_iconst (v := 0) hx hb dX0_othersAreWhole_96 (by decide) ?_
            refine lv_istore (lv' := [(9, .int 0), (6, .int 0), (8, .int x74), (0, .ref (X.1 b)), (2, .int i2), (4, .int i4), (5, .int i5), (7, .int i7)]) hx hb dX0_othersAreWhole_97 hl (by decide) rfl (fun ls hl => ?_)
            exact w_X0_othersAreWhole_b99 hs (f_X0_othersAreWhole_b48 n) ih mN b i2 i4 i5 0 i7 x74 0 h_b M h H locs ls hR hS (lv_sub hl [3, 4, 5, 6, 1, 7, 2, 0] rfl)
          · have h := mif_y h c86
            refine lv_iconst (v := 1) hx hb dX0_othersAreWhole_89 (by decide) ?_
            refine lv_goto (tgt := 94) hx hb dX0_othersAreWhole_90 (by decide) ?_
            refine lv_istore (lv' := [(6, .int 1), (8, .int x74), (0, .ref (X.1 b)), (2, .int i2), (4, .int i4), (5, .int i5), (7, .int i7)]) hx hb dX0_othersAreWhole_94 hl (by decide) rfl (fun ls hl => ?_)
            refine lv_iconst (v := 0) hx hb dX0_othersAreWhole_96 (by decide) ?_
            refine lv_istore (lv' := [(9, .int 0), (6, .int 1), (8, .int x74), (0, .ref (X.1 b)), (2, .int i2), (4, .int i4), (5, .int i5), (7, .int i7)]) hx hb dX0_othersAreWhole_97 hl (by decide) rfl (fun ls hl => ?_)
            exact w_X0_othersAreWhole_b99 hs (f_X0_othersAreWhole_b48 n) ih mN b i2 i4 i5 1 i7 x74 0 h_b M h H locs ls hR hS (lv_sub hl [3, 4, 5, 6, 1, 7, 2, 0] rfl)
set_option maxRecDepth 100000 in
set_option maxHeartbeats 4000000 in
theorem w_X0_othersAreWhole_b22 {l : Launch} {X : mX} {p : Program} {e : Env} {s : State} {m : MethodId} {args : Array Value} {below : List Frame} {meth : Method} {c : Code} {r : Int32 × mM} (hs : mS X RX0 cX0_othersAreWhole 11 (some .boolean) p s m meth c) : ∀ (b : Nat) (i1 : Int32) (i2 : Int32) (s0 : Int32) (h_b : isBody b) (M : mM), f_X0_othersAreWhole_b22 b i1 i2 s0 M = some r → mG X p l e (rmF 1 21) s m args below meth c (MQ below (mQi X r.2 r.1) args s 0 0 (mL X)) 11 22 [(0, .ref (X.1 b)), (1, .int i1), (2, .int i2)] [.int s0] M := by
  obtain ⟨hx, hb, hml, hown, hF, hlk, hr⟩ := id hs
  intro b i1 i2 s0 h_b M h H locs ls hR hS hl
  refine lv_istore_n (lv' := [(3, .int s0), (0, .ref (X.1 b)), (1, .int i1), (2, .int i2)]) hx hb dX0_othersAreWhole_22 rfl hl (by decide) rfl (fun ls hl => ?_)
  refine lv_iconst (v := 1) hx hb dX0_othersAreWhole_23 (by decide) ?_
  refine lv_iload_n hx hb dX0_othersAreWhole_24 rfl (lv_at hl 2 rfl) ?_
  refine lv_ishl hx hb dX0_othersAreWhole_25 ?_
  refine lv_iconst (v := 1) hx hb dX0_othersAreWhole_26 (by decide) ?_
  refine lv_iload_n hx hb dX0_othersAreWhole_27 rfl (lv_at hl 0 rfl) ?_
  refine lv_ishl hx hb dX0_othersAreWhole_28 ?_
  refine lv_ior hx hb dX0_othersAreWhole_29 ?_
  refine lv_topi (fun x30 ex30 => ?_)
  have h := mlt_n h x30 ex30
  refine lv_istore (lv' := [(4, .int x30), (3, .int s0), (0, .ref (X.1 b)), (1, .int i1), (2, .int i2)]) hx hb dX0_othersAreWhole_30 hl (by decide) rfl (fun ls hl => ?_)
  refine lv_iconst (v := 1) hx hb dX0_othersAreWhole_32 (by decide) ?_
  refine lv_istore (lv' := [(5, .int 1), (4, .int x30), (3, .int s0), (0, .ref (X.1 b)), (1, .int i1), (2, .int i2)]) hx hb dX0_othersAreWhole_33 hl (by decide) rfl (fun ls hl => ?_)
  refine lv_iconst (v := 0) hx hb dX0_othersAreWhole_35 (by decide) ?_
  refine lv_istore (lv' := [(6, .int 0), (5, .int 1), (4, .int x30), (3, .int s0), (0, .ref (X.1 b)), (1, .int i1), (2, .int i2)]) hx hb dX0_othersAreWhole_36 hl (by decide) rfl (fun ls hl => ?_)
  refine lv_aload_n hx hb dX0_othersAreWhole_38 rfl (lv_at hl 4 rfl) ?_
  refine m_g0_7 hx hb hF hown hR (kBody0 h_b) mw_1_72 dX0_othersAreWhole_39 ?_
  refine lv_iconst (v := 0) hx hb dX0_othersAreWhole_42 (by decide) ?_
  refine lv_iload_n hx hb dX0_othersAreWhole_43 rfl (lv_at hl 3 rfl) ?_
  obtain ⟨M44, eM44⟩ : ∃ y : mM, y = mI M (b + 7) 0 s0 := ⟨_, rfl⟩
  have h := mlt_n h M44 eM44
  refine m_iastL hx hb hR hS (kBody7 h_b) (show mIn 0 16 from by decide) (jn := 0) (by decide) dX0_othersAreWhole_44 eM44 (fun H locs hR hS => ?_)
  refine lv_iconst (v := 0) hx hb dX0_othersAreWhole_45 (by decide) ?_
  refine lv_istore (lv' := [(7, .int 0), (6, .int 0), (5, .int 1), (4, .int x30), (3, .int s0), (0, .ref (X.1 b)), (1, .int i1), (2, .int i2)]) hx hb dX0_othersAreWhole_46 hl (by decide) rfl (fun ls hl => ?_)
  exact w_X0_othersAreWhole_b48 hs mN b i2 x30 1 0 0 h_b M44 h H locs ls hR hS (lv_sub hl [5, 7, 3, 2, 1, 0] rfl)
set_option maxRecDepth 100000 in
set_option maxHeartbeats 4000000 in
theorem w_X0_othersAreWhole {l : Launch} {X : mX} {p : Program} {e : Env} {s : State} {m : MethodId} {args : Array Value} {below : List Frame} {meth : Method} {c : Code} {r : Int32 × mM} (hs : mS X RX0 cX0_othersAreWhole 11 (some .boolean) p s m meth c) : ∀ (b : Nat) (i1 : Int32) (h_b : isBody b) (M : mM), f_X0_othersAreWhole b i1 M = some r → mG X p l e (rmF 1 21) s m args below meth c (MQ below (mQi X r.2 r.1) args s 0 0 (mL X)) 11 0 [(0, .ref (X.1 b)), (1, .int i1)] [] M := by
  obtain ⟨hx, hb, hml, hown, hF, hlk, hr⟩ := id hs
  intro b i1 h_b M h H locs ls hR hS hl
  refine lv_aload_n hx hb dX0_othersAreWhole_0 rfl (lv_at hl 0 rfl) ?_
  refine m_g0_0 hx hb hF hown hR (kBody0 h_b) mw_1_46 dX0_othersAreWhole_1 ?_
  refine lv_iconst (v := 1) hx hb dX0_othersAreWhole_4 (by decide) ?_
  refine lv_isub hx hb dX0_othersAreWhole_5 ?_
  refine lv_topi (fun x6 ex6 => ?_)
  have h := mlt_n h x6 ex6
  refine lv_istore_n (lv' := [(2, .int x6), (0, .ref (X.1 b)), (1, .int i1)]) hx hb dX0_othersAreWhole_6 rfl hl (by decide) rfl (fun ls hl => ?_)
  refine lv_iload_n hx hb dX0_othersAreWhole_7 rfl (lv_at hl 0 rfl) ?_
  refine lv_if_gt (tgt := 13) hx hb dX0_othersAreWhole_8 (by decide) (fun c8 => ?_) (fun c8 => ?_)
  · have h := mif_y h c8
    refine lv_iload_n hx hb dX0_othersAreWhole_13 rfl (lv_at hl 2 rfl) ?_
    refine lv_if_ne (tgt := 21) hx hb dX0_othersAreWhole_14 (by decide) (fun c14 => ?_) (fun c14 => ?_)
    · have h := mif_n h c14
      refine lv_iconst (v := 0) hx hb dX0_othersAreWhole_21 (by decide) ?_
      exact w_X0_othersAreWhole_b22 hs b i1 x6 0 h_b M h H locs ls hR hS (lv_sub hl [1, 2, 0] rfl)
    · have h := mif_y h c14
      refine lv_iconst (v := 1) hx hb dX0_othersAreWhole_17 (by decide) ?_
      refine lv_goto (tgt := 22) hx hb dX0_othersAreWhole_18 (by decide) ?_
      exact w_X0_othersAreWhole_b22 hs b i1 x6 1 h_b M h H locs ls hR hS (lv_sub hl [1, 2, 0] rfl)
  · have h := mif_n h c8
    refine lv_iconst (v := 1) hx hb dX0_othersAreWhole_11 (by decide) ?_
    exact m_zr hx hb hlk hr hR hS (Or.inr rfl) (Option.some.inj h).symm dX0_othersAreWhole_12
theorem c_X0_othersAreWhole (l : Launch) (X : mX) (b : Nat) (i1 : Int32) (h_b : isBody b) (M : mM) {r : Int32 × mM} (h : f_X0_othersAreWhole b i1 M = some r) : mMi l yX0_othersAreWhole cX0_othersAreWhole 11 (some .boolean) 1 21 X [.ref (X.1 b), .int i1] M r := m_ofi (by decide +kernel) (Nat.le_of_ble_eq_true rfl) rfl (fun p e s m args below meth c hs => w_X0_othersAreWhole hs b i1 h_b M h)
set_option maxRecDepth 100000 in
set_option maxHeartbeats 4000000 in
theorem w_X0_mayGo_b81 {l : Launch} {X : mX} {p : Program} {e : Env} {s : State} {m : MethodId} {args : Array Value} {below : List Frame} {meth : Method} {c : Code} {r : Int32 × mM} (hs : mS X RX0 cX0_mayGo 6 (some .boolean) p s m meth c) : ∀ (b : Nat) (i1 : Int32) (i4 : Int32) (s0 : Int32) (h_b : isBody b) (M : mM), f_X0_mayGo_b81 b i1 i4 s0 M = some r → mG X p l e (rmF 3 67) s m args below meth c (MQ below (mQi X r.2 r.1) args s 0 0 (mL X)) 6 81 [(0, .ref (X.1 b)), (1, .int i1), (4, .int i4)] [.int s0] M := by
  obtain ⟨hx, hb, hml, hown, hF, hlk, hr⟩ := id hs
  intro b i1 i4 s0 h_b M h H locs ls hR hS hl
  refine lv_istore (lv' := [(5, .int s0), (0, .ref (X.1 b)), (1, .int i1), (4, .int i4)]) hx hb dX0_mayGo_81 hl (by decide) rfl (fun ls hl => ?_)
  refine lv_iload hx hb dX0_mayGo_83 (lv_at hl 0 rfl) ?_
  refine lv_if_eq (tgt := 110) hx hb dX0_mayGo_85 (by decide) (fun c85 => ?_) (fun c85 => ?_)
  · have h := mif_y h c85
    refine lv_iconst (v := 0) hx hb dX0_mayGo_110 (by decide) ?_
    exact m_zr hx hb hlk hr hR hS (Or.inl rfl) (Option.some.inj h).symm dX0_mayGo_111
  · have h := mif_n h c85
    refine lv_aload_n hx hb dX0_mayGo_88 rfl (lv_at hl 1 rfl) ?_
    refine lv_iload hx hb dX0_mayGo_89 (lv_at hl 3 rfl) ?_
    refine lv_iload_n hx hb dX0_mayGo_91 rfl (lv_at hl 2 rfl) ?_
    obtain ⟨v92, q92, h⟩ := mbp_e h
    refine m_ci (m_rV hx hb hml hown hF hR hS (ent0 (kBody0 h_b)) (kBody0 h_b) rfl (c_X0_holdsOn l X b i4 i1 h_b M q92) q_X0_71_V hdV_X0_holdsOn ⟨Nat.le_of_ble_eq_true rfl, Nat.le_of_ble_eq_true rfl⟩ rfl hl.1 rfl (Nat.le_of_ble_eq_true rfl) dX0_mayGo_92) hS (fun H locs hR hS => ?_)
    refine lv_if_eq (tgt := 110) hx hb dX0_mayGo_95 (by decide) (fun c95 => ?_) (fun c95 => ?_)
    · have h := mif_y h c95
      refine lv_iconst (v := 0) hx hb dX0_mayGo_110 (by decide) ?_
      exact m_zr hx hb hlk hr hR hS (Or.inl rfl) (Option.some.inj h).symm dX0_mayGo_111
    · have h := mif_n h c95
      refine lv_aload_n hx hb dX0_mayGo_98 rfl (lv_at hl 1 rfl) ?_
      refine lv_iload_n hx hb dX0_mayGo_99 rfl (lv_at hl 2 rfl) ?_
      obtain ⟨v100, M100, q100, h⟩ := mbw_e h
      refine m_ci (m_rV hx hb hml hown hF hR hS (ent0 (kBody0 h_b)) (kBody0 h_b) rfl (c_X0_othersAreWhole l X b i1 h_b M q100) q_X0_74_V hdV_X0_othersAreWhole ⟨Nat.le_of_ble_eq_true rfl, Nat.le_of_ble_eq_true rfl⟩ rfl hl.1 rfl (Nat.le_of_ble_eq_true rfl) dX0_mayGo_100) hS (fun H locs hR hS => ?_)
      refine lv_if_eq (tgt := 110) hx hb dX0_mayGo_103 (by decide) (fun c103 => ?_) (fun c103 => ?_)
      · have h := mif_y h c103
        refine lv_iconst (v := 0) hx hb dX0_mayGo_110 (by decide) ?_
        exact m_zr hx hb hlk hr hR hS (Or.inl rfl) (Option.some.inj h).symm dX0_mayGo_111
      · have h := mif_n h c103
        refine lv_iconst (v := 1) hx hb dX0_mayGo_106 (by decide) ?_
        refine lv_goto (tgt := 111) hx hb dX0_mayGo_107 (by decide) ?_
        exact m_zr hx hb hlk hr hR hS (Or.inr rfl) (Option.some.inj h).symm dX0_mayGo_111
set_option maxRecDepth 100000 in
set_option maxHeartbeats 4000000 in
theorem w_X0_mayGo {l : Launch} {X : mX} {p : Program} {e : Env} {s : State} {m : MethodId} {args : Array Value} {below : List Frame} {meth : Method} {c : Code} {r : Int32 × mM} (hs : mS X RX0 cX0_mayGo 6 (some .boolean) p s m meth c) : ∀ (b : Nat) (i1 : Int32) (i2 : Int32) (h_b : isBody b) (M : mM), f_X0_mayGo b i1 i2 M = some r → mG X p l e (rmF 3 67) s m args below meth c (MQ below (mQi X r.2 r.1) args s 0 0 (mL X)) 6 0 [(0, .ref (X.1 b)), (1, .int i1), (2, .int i2)] [] M := by
  obtain ⟨hx, hb, hml, hown, hF, hlk, hr⟩ := id hs
  intro b i1 i2 h_b M h H locs ls hR hS hl
  refine lv_aload_n hx hb dX0_mayGo_0 rfl (lv_at hl 0 rfl) ?_
  refine m_g0_4 hx hb hF hown hR (kBody0 h_b) mw_1_65 dX0_mayGo_1 ?_
  refine lv_iload_n hx hb dX0_mayGo_4 rfl (lv_at hl 1 rfl) ?_
  obtain ⟨g5, h⟩ := mgd_e h
  refine m_zaldL hx hb hR (kBody4 h_b) g5 (jn := (Int32.toNatClampNeg i1)) rfl dX0_mayGo_5 ?_
  refine lv_if_ne (tgt := 28) hx hb dX0_mayGo_6 (by decide) (fun c6 => ?_) (fun c6 => ?_)
  · have h := mif_n h c6
    refine lv_iconst (v := 0) hx hb dX0_mayGo_28 (by decide) ?_
    exact m_zr hx hb hlk hr hR hS (Or.inl rfl) (Option.some.inj h).symm dX0_mayGo_29
  · have h := mif_y h c6
    refine lv_aload_n hx hb dX0_mayGo_9 rfl (lv_at hl 0 rfl) ?_
    refine m_g0_3 hx hb hF hown hR (kBody0 h_b) mw_1_60 dX0_mayGo_10 ?_
    refine lv_iload_n hx hb dX0_mayGo_13 rfl (lv_at hl 1 rfl) ?_
    obtain ⟨g14, h⟩ := mgd_e h
    refine m_ialdL hx hb hR (kBody3 h_b) g14 (jn := (Int32.toNatClampNeg i1)) rfl dX0_mayGo_14 ?_
    refine m_gsN hx hb hF hS hown 2 (by decide) rfl 14 rfl dX0_mayGo_15 ?_
    refine lv_aload_n hx hb dX0_mayGo_18 rfl (lv_at hl 0 rfl) ?_
    refine m_g0_1 hx hb hF hown hR (kBody0 h_b) mw_1_51 dX0_mayGo_19 ?_
    refine lv_iload_n hx hb dX0_mayGo_22 rfl (lv_at hl 1 rfl) ?_
    obtain ⟨g23, h⟩ := mgd_e h
    refine m_ialdL hx hb hR (kBody1 h_b) g23 (jn := (Int32.toNatClampNeg i1)) rfl dX0_mayGo_23 ?_
    obtain ⟨g24, h⟩ := mgd_e h
    refine m_saidL hx hb hF hS 2 (by decide) (N := 4) rfl g24 (jn := (Int32.toNatClampNeg (M.1 (b + 1) (Int32.toNatClampNeg i1)))) rfl dX0_mayGo_24 ?_
    refine lv_icmp_ge (tgt := 30) hx hb dX0_mayGo_25 (by decide) (fun c25 => ?_) (fun c25 => ?_)
    · have h := mif_y h c25
      refine lv_aload_n hx hb dX0_mayGo_30 rfl (lv_at hl 0 rfl) ?_
      refine m_g0_2 hx hb hF hown hR (kBody0 h_b) mw_1_54 dX0_mayGo_31 ?_
      refine lv_iload_n hx hb dX0_mayGo_34 rfl (lv_at hl 1 rfl) ?_
      obtain ⟨g35, h⟩ := mgd_e h
      refine m_ialdL hx hb hR (kBody2 h_b) g35 (jn := (Int32.toNatClampNeg i1)) rfl dX0_mayGo_35 ?_
      refine lv_topi (fun x36 ex36 => ?_)
      have h := mlt_n h x36 ex36
      refine lv_istore_n (lv' := [(3, .int x36), (0, .ref (X.1 b)), (1, .int i1), (2, .int i2)]) hx hb dX0_mayGo_36 rfl hl (by decide) rfl (fun ls hl => ?_)
      refine lv_iload_n hx hb dX0_mayGo_37 rfl (lv_at hl 0 rfl) ?_
      refine m_gsN hx hb hF hS hown 3 (by decide) rfl 11 rfl dX0_mayGo_38 ?_
      refine lv_iload_n hx hb dX0_mayGo_41 rfl (lv_at hl 3 rfl) ?_
      obtain ⟨g42, h⟩ := mgd_e h
      refine m_saidL hx hb hF hS 3 (by decide) (N := 8) rfl g42 (jn := (Int32.toNatClampNeg i2)) rfl dX0_mayGo_42 ?_
      refine lv_iadd hx hb dX0_mayGo_43 ?_
      refine lv_topi (fun x44 ex44 => ?_)
      have h := mlt_n h x44 ex44
      refine lv_istore (lv' := [(4, .int x44), (3, .int x36), (0, .ref (X.1 b)), (1, .int i1), (2, .int i2)]) hx hb dX0_mayGo_44 hl (by decide) rfl (fun ls hl => ?_)
      refine lv_aload_n hx hb dX0_mayGo_46 rfl (lv_at hl 2 rfl) ?_
      refine lv_iload hx hb dX0_mayGo_47 (lv_at hl 0 rfl) ?_
      obtain ⟨v49, q49, h⟩ := mbp_e h
      refine m_ci (m_rV hx hb hml hown hF hR hS (ent0 (kBody0 h_b)) (kBody0 h_b) rfl (c_X0_inCell l X b x44 h_b M q49) q_X0_51_V hdV_X0_inCell ⟨Nat.le_of_ble_eq_true rfl, Nat.le_of_ble_eq_true rfl⟩ rfl hl.1 rfl (Nat.le_of_ble_eq_true rfl) dX0_mayGo_49) hS (fun H locs hR hS => ?_)
      refine lv_iconst (v := (-1)) hx hb dX0_mayGo_52 (by decide) ?_
      refine lv_icmp_eq (tgt := 58) hx hb dX0_mayGo_53 (by decide) (fun c53 => ?_) (fun c53 => ?_)
      · have h := mif_y h c53
        refine lv_iload_n hx hb dX0_mayGo_58 rfl (lv_at hl 4 rfl) ?_
        refine lv_iconst (v := 4) hx hb dX0_mayGo_59 (by decide) ?_
        refine lv_icmp_ge (tgt := 73) hx hb dX0_mayGo_60 (by decide) (fun c60 => ?_) (fun c60 => ?_)
        · have h := mif_y h c60
          refine lv_aload_n hx hb dX0_mayGo_73 rfl (lv_at hl 2 rfl) ?_
          refine lv_iload_n hx hb dX0_mayGo_74 rfl (lv_at hl 1 rfl) ?_
          refine lv_iload_n hx hb dX0_mayGo_75 rfl (lv_at hl 4 rfl) ?_
          refine lv_iconst (v := 4) hx hb dX0_mayGo_76 (by decide) ?_
          refine lv_isub hx hb dX0_mayGo_77 ?_
          obtain ⟨v78, q78, h⟩ := mbp_e h
          refine m_ci (m_rV hx hb hml hown hF hR hS (ent0 (kBody0 h_b)) (kBody0 h_b) rfl (c_X0_turns l X b x36 (i2 - 4) h_b M q78) q_X0_68_V hdV_X0_turns ⟨Nat.le_of_ble_eq_true rfl, Nat.le_of_ble_eq_true rfl⟩ rfl hl.1 rfl (Nat.le_of_ble_eq_true rfl) dX0_mayGo_78) hS (fun H locs hR hS => ?_)
          exact w_X0_mayGo_b81 hs b i1 x44 v78 h_b M h H locs ls hR hS (lv_sub hl [2, 3, 0] rfl)
        · have h := mif_n h c60
          refine lv_aload_n hx hb dX0_mayGo_63 rfl (lv_at hl 2 rfl) ?_
          refine lv_iload_n hx hb dX0_mayGo_64 rfl (lv_at hl 1 rfl) ?_
          refine lv_iload hx hb dX0_mayGo_65 (lv_at hl 0 rfl) ?_
          obtain ⟨v67, q67, h⟩ := mbp_e h
          refine m_ci (m_rV hx hb hml hown hF hR hS (ent0 (kBody0 h_b)) (kBody0 h_b) rfl (c_X0_slides l X b x36 x44 h_b M q67) q_X0_64_V hdV_X0_slides ⟨Nat.le_of_ble_eq_true rfl, Nat.le_of_ble_eq_true rfl⟩ rfl hl.1 rfl (Nat.le_of_ble_eq_true rfl) dX0_mayGo_67) hS (fun H locs hR hS => ?_)
          refine lv_goto (tgt := 81) hx hb dX0_mayGo_70 (by decide) ?_
          exact w_X0_mayGo_b81 hs b i1 x44 v67 h_b M h H locs ls hR hS (lv_sub hl [2, 3, 0] rfl)
      · have h := mif_n h c53
        refine lv_iconst (v := 0) hx hb dX0_mayGo_56 (by decide) ?_
        exact m_zr hx hb hlk hr hR hS (Or.inl rfl) (Option.some.inj h).symm dX0_mayGo_57
    · have h := mif_n h c25
      refine lv_iconst (v := 0) hx hb dX0_mayGo_28 (by decide) ?_
      exact m_zr hx hb hlk hr hR hS (Or.inl rfl) (Option.some.inj h).symm dX0_mayGo_29
theorem c_X0_mayGo (l : Launch) (X : mX) (b : Nat) (i1 : Int32) (i2 : Int32) (h_b : isBody b) (M : mM) {r : Int32 × mM} (h : f_X0_mayGo b i1 i2 M = some r) : mMi l yX0_mayGo cX0_mayGo 6 (some .boolean) 3 67 X [.ref (X.1 b), .int i1, .int i2] M r := m_ofi (by decide +kernel) (Nat.le_of_ble_eq_true rfl) rfl (fun p e s m args below meth c hs => w_X0_mayGo hs b i1 i2 h_b M h)
set_option maxRecDepth 100000 in
set_option maxHeartbeats 4000000 in
theorem w_X9_can {l : Launch} {X : mX} {p : Program} {e : Env} {s : State} {m : MethodId} {args : Array Value} {below : List Frame} {meth : Method} {c : Code} {r : Int32 × mM} (hs : mS X RX9 cX9_can 2 (some .int) p s m meth c) : ∀ (i1 : Int32) (M : mM), f_X9_can i1 M = some r → mG X p l e (rmF 4 92) s m args below meth c (MQ below (mQi X r.2 r.1) args s 0 0 (mL X)) 2 0 [(0, .ref (X.1 0)), (1, .int i1)] [] M := by
  obtain ⟨hx, hb, hml, hown, hF, hlk, hr⟩ := id hs
  intro i1 M h H locs ls hR hS hl
  refine lv_aload_n hx hb dX9_can_0 rfl (lv_at hl 0 rfl) ?_
  refine m_g8_0 hx hb hF hown hR kd_0 mw_2_42 dX9_can_1 ?_
  refine m_g7_0 hx hb hF hown hR kd_1 mw_1_118 dX9_can_4 ?_
  refine lv_iload_n hx hb dX9_can_7 rfl (lv_at hl 1 rfl) ?_
  refine m_ci (m_rV hx hb hml hown hF hR hS (ent0 kd_2) kd_2 rfl (c_X0_isMove l X 2 i1 isBody_2 M) q_X9_151_V hdV_X0_isMove ⟨Nat.le_of_ble_eq_true rfl, Nat.le_of_ble_eq_true rfl⟩ rfl hl.1 rfl (Nat.le_of_ble_eq_true rfl) dX9_can_8) hS (fun H locs hR hS => ?_)
  refine lv_if_ne (tgt := 16) hx hb dX9_can_11 (by decide) (fun c11 => ?_) (fun c11 => ?_)
  · have h := mif_n h c11
    refine lv_aload_n hx hb dX9_can_16 rfl (lv_at hl 0 rfl) ?_
    refine m_g8_0 hx hb hF hown hR kd_0 mw_2_42 dX9_can_17 ?_
    refine m_g7_0 hx hb hF hown hR kd_1 mw_1_118 dX9_can_20 ?_
    refine lv_iload_n hx hb dX9_can_23 rfl (lv_at hl 1 rfl) ?_
    refine lv_bipush (v := 8) hx hb dX9_can_24 (by decide) ?_
    refine lv_idiv hx hb dX9_can_26 (by decide) ?_
    refine lv_iload_n hx hb dX9_can_27 rfl (lv_at hl 1 rfl) ?_
    refine lv_bipush (v := 8) hx hb dX9_can_28 (by decide) ?_
    refine lv_irem hx hb dX9_can_30 (by decide) ?_
    obtain ⟨v31, M31, q31, h⟩ := mbw_e h
    refine m_ci (m_rV hx hb hml hown hF hR hS (ent0 kd_2) kd_2 rfl (c_X0_mayGo l X 2 (i1 / 8) (i1 - i1 / 8 * 8) isBody_2 M q31) q_X9_154_V hdV_X0_mayGo ⟨Nat.le_of_ble_eq_true rfl, Nat.le_of_ble_eq_true rfl⟩ rfl hl.1 rfl (Nat.le_of_ble_eq_true rfl) dX9_can_31) hS (fun H locs hR hS => ?_)
    refine m_ci (m_rS hx hb hml hown hF hR hS (c_X9_oneIf l X v31 M31) q_X9_115_S hdS_X9_oneIf ⟨Nat.le_of_ble_eq_true rfl, Nat.le_of_ble_eq_true rfl⟩ rfl hl.1 rfl (Nat.le_of_ble_eq_true rfl) dX9_can_34) hS (fun H locs hR hS => ?_)
    exact m_ir hx hb hlk hr hR hS (Option.some.inj h).symm dX9_can_37
  · have h := mif_y h c11
    refine lv_iconst (v := (-1)) hx hb dX9_can_14 (by decide) ?_
    exact m_ir hx hb hlk hr hR hS (Option.some.inj h).symm dX9_can_15
theorem c_X9_can (l : Launch) (X : mX) (i1 : Int32) (M : mM) {r : Int32 × mM} (h : f_X9_can i1 M = some r) : mMi l yX9_can cX9_can 2 (some .int) 4 92 X [.ref (X.1 0), .int i1] M r := m_ofi (by decide +kernel) (Nat.le_of_ble_eq_true rfl) rfl (fun p e s m args below meth c hs => w_X9_can hs i1 M h)
set_option maxRecDepth 100000 in
set_option maxHeartbeats 4000000 in
theorem w_X0_shift {l : Launch} {X : mX} {p : Program} {e : Env} {s : State} {m : MethodId} {args : Array Value} {below : List Frame} {meth : Method} {c : Code} {r : mM} (hs : mS X RX0 cX0_shift 3 none p s m meth c) : ∀ (b : Nat) (i1 : Int32) (i2 : Int32) (h_b : isBody b) (M : mM), f_X0_shift b i1 i2 M = some r → mG X p l e (rmF 1 21) s m args below meth c (MQ below (mQv X r) args s 0 0 (mL X)) 3 0 [(0, .ref (X.1 b)), (1, .int i1), (2, .int i2)] [] M := by
  obtain ⟨hx, hb, hml, hown, hF, hlk, hr⟩ := id hs
  intro b i1 i2 h_b M h H locs ls hR hS hl
  refine lv_aload_n hx hb dX0_shift_0 rfl (lv_at hl 0 rfl) ?_
  refine lv_iload_n hx hb dX0_shift_1 rfl (lv_at hl 2 rfl) ?_
  obtain ⟨v2, q2, h⟩ := mbp_e h
  refine m_ci (m_rV hx hb hml hown hF hR hS (ent0 (kBody0 h_b)) (kBody0 h_b) rfl (c_X0_inCell l X b i2 h_b M q2) q_X0_51_V hdV_X0_inCell ⟨Nat.le_of_ble_eq_true rfl, Nat.le_of_ble_eq_true rfl⟩ rfl hl.1 rfl (Nat.le_of_ble_eq_true rfl) dX0_shift_2) hS (fun H locs hR hS => ?_)
  refine lv_iconst (v := (-1)) hx hb dX0_shift_5 (by decide) ?_
  refine lv_icmp_ne (tgt := 35) hx hb dX0_shift_6 (by decide) (fun c6 => ?_) (fun c6 => ?_)
  · have h := mif_n h c6
    exact m_vr hx hb hlk hr hR hS (Option.some.inj h).symm dX0_shift_35
  · have h := mif_y h c6
    refine lv_aload_n hx hb dX0_shift_9 rfl (lv_at hl 0 rfl) ?_
    refine m_g0_6 hx hb hF hown hR (kBody0 h_b) mw_1_71 dX0_shift_10 ?_
    refine lv_aload_n hx hb dX0_shift_13 rfl (lv_at hl 0 rfl) ?_
    refine m_g0_2 hx hb hF hown hR (kBody0 h_b) mw_1_54 dX0_shift_14 ?_
    refine lv_iload_n hx hb dX0_shift_17 rfl (lv_at hl 1 rfl) ?_
    obtain ⟨g18, h⟩ := mgd_e h
    refine m_ialdL hx hb hR (kBody2 h_b) g18 (jn := (Int32.toNatClampNeg i1)) rfl dX0_shift_18 ?_
    refine lv_iconst (v := (-1)) hx hb dX0_shift_19 (by decide) ?_
    obtain ⟨g20, h⟩ := mgd_e h
    obtain ⟨M20, eM20⟩ : ∃ y : mM, y = mI M (b + 6) (Int32.toNatClampNeg (M.1 (b + 2) (Int32.toNatClampNeg i1))) (-1) := ⟨_, rfl⟩
    have h := mlt_n h M20 eM20
    refine m_iastL hx hb hR hS (kBody6 h_b) g20 (jn := (Int32.toNatClampNeg (M.1 (b + 2) (Int32.toNatClampNeg i1)))) rfl dX0_shift_20 eM20 (fun H locs hR hS => ?_)
    refine lv_aload_n hx hb dX0_shift_21 rfl (lv_at hl 0 rfl) ?_
    refine m_g0_6 hx hb hF hown hR (kBody0 h_b) mw_1_71 dX0_shift_22 ?_
    refine lv_iload_n hx hb dX0_shift_25 rfl (lv_at hl 2 rfl) ?_
    refine lv_iload_n hx hb dX0_shift_26 rfl (lv_at hl 1 rfl) ?_
    obtain ⟨g27, h⟩ := mgd_e h
    obtain ⟨M27, eM27⟩ : ∃ y : mM, y = mI M20 (b + 6) (Int32.toNatClampNeg i2) i1 := ⟨_, rfl⟩
    have h := mlt_n h M27 eM27
    refine m_iastL hx hb hR hS (kBody6 h_b) g27 (jn := (Int32.toNatClampNeg i2)) rfl dX0_shift_27 eM27 (fun H locs hR hS => ?_)
    refine lv_aload_n hx hb dX0_shift_28 rfl (lv_at hl 0 rfl) ?_
    refine m_g0_2 hx hb hF hown hR (kBody0 h_b) mw_1_54 dX0_shift_29 ?_
    refine lv_iload_n hx hb dX0_shift_32 rfl (lv_at hl 1 rfl) ?_
    refine lv_iload_n hx hb dX0_shift_33 rfl (lv_at hl 2 rfl) ?_
    obtain ⟨g34, h⟩ := mgd_e h
    obtain ⟨M34, eM34⟩ : ∃ y : mM, y = mI M27 (b + 2) (Int32.toNatClampNeg i1) i2 := ⟨_, rfl⟩
    have h := mlt_n h M34 eM34
    refine m_iastL hx hb hR hS (kBody2 h_b) g34 (jn := (Int32.toNatClampNeg i1)) rfl dX0_shift_34 eM34 (fun H locs hR hS => ?_)
    exact m_vr hx hb hlk hr hR hS (Option.some.inj h).symm dX0_shift_35
theorem c_X0_shift (l : Launch) (X : mX) (b : Nat) (i1 : Int32) (i2 : Int32) (h_b : isBody b) (M : mM) {r : mM} (h : f_X0_shift b i1 i2 M = some r) : mMv l yX0_shift cX0_shift 3 1 21 X [.ref (X.1 b), .int i1, .int i2] M r := m_ofv (by decide +kernel) (Nat.le_of_ble_eq_true rfl) rfl (fun p e s m args below meth c hs => w_X0_shift hs b i1 i2 h_b M h)
set_option maxRecDepth 100000 in
set_option maxHeartbeats 4000000 in
theorem w_X0_go {l : Launch} {X : mX} {p : Program} {e : Env} {s : State} {m : MethodId} {args : Array Value} {below : List Frame} {meth : Method} {c : Code} {r : mM} (hs : mS X RX0 cX0_go 3 none p s m meth c) : ∀ (b : Nat) (i1 : Int32) (i2 : Int32) (h_b : isBody b) (M : mM), f_X0_go b i1 i2 M = some r → mG X p l e (rmF 2 43) s m args below meth c (MQ below (mQv X r) args s 0 0 (mL X)) 3 0 [(0, .ref (X.1 b)), (1, .int i1), (2, .int i2)] [] M := by
  obtain ⟨hx, hb, hml, hown, hF, hlk, hr⟩ := id hs
  intro b i1 i2 h_b M h H locs ls hR hS hl
  refine lv_aload_n hx hb dX0_go_0 rfl (lv_at hl 0 rfl) ?_
  refine lv_iload_n hx hb dX0_go_1 rfl (lv_at hl 1 rfl) ?_
  refine lv_aload_n hx hb dX0_go_2 rfl (lv_at hl 0 rfl) ?_
  refine m_g0_2 hx hb hF hown hR (kBody0 h_b) mw_1_54 dX0_go_3 ?_
  refine lv_iload_n hx hb dX0_go_6 rfl (lv_at hl 1 rfl) ?_
  obtain ⟨g7, h⟩ := mgd_e h
  refine m_ialdL hx hb hR (kBody2 h_b) g7 (jn := (Int32.toNatClampNeg i1)) rfl dX0_go_7 ?_
  refine m_gsN hx hb hF hS hown 3 (by decide) rfl 11 rfl dX0_go_8 ?_
  refine lv_iload_n hx hb dX0_go_11 rfl (lv_at hl 2 rfl) ?_
  obtain ⟨g12, h⟩ := mgd_e h
  refine m_saidL hx hb hF hS 3 (by decide) (N := 8) rfl g12 (jn := (Int32.toNatClampNeg i2)) rfl dX0_go_12 ?_
  refine lv_iadd hx hb dX0_go_13 ?_
  obtain ⟨M14, q14, h⟩ := mbp_e h
  refine m_cv (m_rV hx hb hml hown hF hR hS (ent0 (kBody0 h_b)) (kBody0 h_b) rfl (c_X0_shift l X b i1 ((M.1 (b + 2) (Int32.toNatClampNeg i1)) + (sVal 3 (Int32.toNatClampNeg i2))) h_b M q14) q_X0_86_V hdV_X0_shift ⟨Nat.le_of_ble_eq_true rfl, Nat.le_of_ble_eq_true rfl⟩ rfl hl.1 rfl (Nat.le_of_ble_eq_true rfl) dX0_go_14) hS (fun H locs hR hS => ?_)
  refine lv_aload_n hx hb dX0_go_17 rfl (lv_at hl 0 rfl) ?_
  refine m_g0_3 hx hb hF hown hR (kBody0 h_b) mw_1_60 dX0_go_18 ?_
  refine lv_iload_n hx hb dX0_go_21 rfl (lv_at hl 1 rfl) ?_
  refine lv_dup2_11 hx hb dX0_go_22 rfl rfl ?_
  obtain ⟨g23, h⟩ := mgd_e h
  refine m_ialdL hx hb hR (kBody3 h_b) g23 (jn := (Int32.toNatClampNeg i1)) rfl dX0_go_23 ?_
  refine m_gsN hx hb hF hS hown 2 (by decide) rfl 14 rfl dX0_go_24 ?_
  refine lv_aload_n hx hb dX0_go_27 rfl (lv_at hl 0 rfl) ?_
  refine m_g0_1 hx hb hF hown hR (kBody0 h_b) mw_1_51 dX0_go_28 ?_
  refine lv_iload_n hx hb dX0_go_31 rfl (lv_at hl 1 rfl) ?_
  obtain ⟨g32, h⟩ := mgd_e h
  refine m_ialdL hx hb hR (kBody1 h_b) g32 (jn := (Int32.toNatClampNeg i1)) rfl dX0_go_32 ?_
  obtain ⟨g33, h⟩ := mgd_e h
  refine m_saidL hx hb hF hS 2 (by decide) (N := 4) rfl g33 (jn := (Int32.toNatClampNeg (M14.1 (b + 1) (Int32.toNatClampNeg i1)))) rfl dX0_go_33 ?_
  refine lv_isub hx hb dX0_go_34 ?_
  obtain ⟨g35, h⟩ := mgd_e h
  obtain ⟨M35, eM35⟩ : ∃ y : mM, y = mI M14 (b + 3) (Int32.toNatClampNeg i1) ((M14.1 (b + 3) (Int32.toNatClampNeg i1)) - (sVal 2 (Int32.toNatClampNeg (M14.1 (b + 1) (Int32.toNatClampNeg i1))))) := ⟨_, rfl⟩
  have h := mlt_n h M35 eM35
  refine m_iastL hx hb hR hS (kBody3 h_b) g35 (jn := (Int32.toNatClampNeg i1)) rfl dX0_go_35 eM35 (fun H locs hR hS => ?_)
  exact m_vr hx hb hlk hr hR hS (Option.some.inj h).symm dX0_go_36
theorem c_X0_go (l : Launch) (X : mX) (b : Nat) (i1 : Int32) (i2 : Int32) (h_b : isBody b) (M : mM) {r : mM} (h : f_X0_go b i1 i2 M = some r) : mMv l yX0_go cX0_go 3 2 43 X [.ref (X.1 b), .int i1, .int i2] M r := m_ofv (by decide +kernel) (Nat.le_of_ble_eq_true rfl) rfl (fun p e s m args below meth c hs => w_X0_go hs b i1 i2 h_b M h)
set_option maxRecDepth 100000 in
set_option maxHeartbeats 4000000 in
theorem w_X9_move {l : Launch} {X : mX} {p : Program} {e : Env} {s : State} {m : MethodId} {args : Array Value} {below : List Frame} {meth : Method} {c : Code} {r : Int32 × mM} (hs : mS X RX9 cX9_move 3 (some .int) p s m meth c) : ∀ (i1 : Int32) (M : mM), f_X9_move i1 M = some r → mG X p l e (rmF 4 92) s m args below meth c (MQ below (mQi X r.2 r.1) args s 0 0 (mL X)) 3 0 [(0, .ref (X.1 0)), (1, .int i1)] [] M := by
  obtain ⟨hx, hb, hml, hown, hF, hlk, hr⟩ := id hs
  intro i1 M h H locs ls hR hS hl
  refine lv_aload_n hx hb dX9_move_0 rfl (lv_at hl 0 rfl) ?_
  refine m_g8_0 hx hb hF hown hR kd_0 mw_2_42 dX9_move_1 ?_
  refine m_g7_0 hx hb hF hown hR kd_1 mw_1_118 dX9_move_4 ?_
  refine lv_iload_n hx hb dX9_move_7 rfl (lv_at hl 1 rfl) ?_
  refine m_ci (m_rV hx hb hml hown hF hR hS (ent0 kd_2) kd_2 rfl (c_X0_isMove l X 2 i1 isBody_2 M) q_X9_151_V hdV_X0_isMove ⟨Nat.le_of_ble_eq_true rfl, Nat.le_of_ble_eq_true rfl⟩ rfl hl.1 rfl (Nat.le_of_ble_eq_true rfl) dX9_move_8) hS (fun H locs hR hS => ?_)
  refine lv_if_ne (tgt := 16) hx hb dX9_move_11 (by decide) (fun c11 => ?_) (fun c11 => ?_)
  · have h := mif_n h c11
    refine lv_iload_n hx hb dX9_move_16 rfl (lv_at hl 1 rfl) ?_
    refine lv_bipush (v := 8) hx hb dX9_move_17 (by decide) ?_
    refine lv_idiv hx hb dX9_move_19 (by decide) ?_
    refine lv_istore_n (lv' := [(2, .int (i1 / 8)), (0, .ref (X.1 0)), (1, .int i1)]) hx hb dX9_move_20 rfl hl (by decide) rfl (fun ls hl => ?_)
    refine lv_aload_n hx hb dX9_move_21 rfl (lv_at hl 1 rfl) ?_
    refine m_g8_0 hx hb hF hown hR kd_0 mw_2_42 dX9_move_22 ?_
    refine m_g7_0 hx hb hF hown hR kd_1 mw_1_118 dX9_move_25 ?_
    refine lv_iload_n hx hb dX9_move_28 rfl (lv_at hl 0 rfl) ?_
    refine lv_iload_n hx hb dX9_move_29 rfl (lv_at hl 2 rfl) ?_
    refine lv_bipush (v := 8) hx hb dX9_move_30 (by decide) ?_
    refine lv_irem hx hb dX9_move_32 (by decide) ?_
    obtain ⟨v33, M33, q33, h⟩ := mbw_e h
    refine m_ci (m_rV hx hb hml hown hF hR hS (ent0 kd_2) kd_2 rfl (c_X0_mayGo l X 2 (i1 / 8) (i1 - i1 / 8 * 8) isBody_2 M q33) q_X9_154_V hdV_X0_mayGo ⟨Nat.le_of_ble_eq_true rfl, Nat.le_of_ble_eq_true rfl⟩ rfl hl.1 rfl (Nat.le_of_ble_eq_true rfl) dX9_move_33) hS (fun H locs hR hS => ?_)
    refine lv_if_ne (tgt := 42) hx hb dX9_move_36 (by decide) (fun c36 => ?_) (fun c36 => ?_)
    · have h := mif_n h c36
      refine lv_aload_n hx hb dX9_move_42 rfl (lv_at hl 1 rfl) ?_
      refine m_g8_0 hx hb hF hown hR kd_0 mw_2_42 dX9_move_43 ?_
      refine m_g7_0 hx hb hF hown hR kd_1 mw_1_118 dX9_move_46 ?_
      refine lv_iload_n hx hb dX9_move_49 rfl (lv_at hl 0 rfl) ?_
      refine lv_iload_n hx hb dX9_move_50 rfl (lv_at hl 2 rfl) ?_
      refine lv_bipush (v := 8) hx hb dX9_move_51 (by decide) ?_
      refine lv_irem hx hb dX9_move_53 (by decide) ?_
      obtain ⟨M54, q54, h⟩ := mbp_e h
      refine m_cv (m_rV hx hb hml hown hF hR hS (ent0 kd_2) kd_2 rfl (c_X0_go l X 2 (i1 / 8) (i1 - i1 / 8 * 8) isBody_2 M33 q54) q_X9_157_V hdV_X0_go ⟨Nat.le_of_ble_eq_true rfl, Nat.le_of_ble_eq_true rfl⟩ rfl hl.1 rfl (Nat.le_of_ble_eq_true rfl) dX9_move_54) hS (fun H locs hR hS => ?_)
      refine lv_aload_n hx hb dX9_move_57 rfl (lv_at hl 1 rfl) ?_
      refine m_g8_0 hx hb hF hown hR kd_0 mw_2_42 dX9_move_58 ?_
      refine m_g7_0 hx hb hF hown hR kd_1 mw_1_118 dX9_move_61 ?_
      refine m_g0_3 hx hb hF hown hR kd_2 mw_1_62 dX9_move_64 ?_
      refine lv_iload_n hx hb dX9_move_67 rfl (lv_at hl 0 rfl) ?_
      obtain ⟨g68, h⟩ := mgd_e h
      refine m_ialdL hx hb hR kd_5 g68 (jn := (Int32.toNatClampNeg (i1 / 8))) rfl dX9_move_68 ?_
      exact m_ir hx hb hlk hr hR hS (Option.some.inj h).symm dX9_move_69
    · have h := mif_y h c36
      refine lv_bipush (v := (-3)) hx hb dX9_move_39 (by decide) ?_
      exact m_ir hx hb hlk hr hR hS (Option.some.inj h).symm dX9_move_41
  · have h := mif_y h c11
    refine lv_iconst (v := (-1)) hx hb dX9_move_14 (by decide) ?_
    exact m_ir hx hb hlk hr hR hS (Option.some.inj h).symm dX9_move_15
theorem c_X9_move (l : Launch) (X : mX) (i1 : Int32) (M : mM) {r : Int32 × mM} (h : f_X9_move i1 M = some r) : mMi l yX9_move cX9_move 3 (some .int) 4 92 X [.ref (X.1 0), .int i1] M r := m_ofi (by decide +kernel) (Nat.le_of_ble_eq_true rfl) rfl (fun p e s m args below meth c hs => w_X9_move hs i1 M h)
set_option maxRecDepth 100000 in
set_option maxHeartbeats 4000000 in
theorem w_X9_moves_b4 {l : Launch} {X : mX} {p : Program} {e : Env} {s : State} {m : MethodId} {args : Array Value} {below : List Frame} {meth : Method} {c : Code} {r : Int32 × mM} (hs : mS X RX9 cX9_moves 3 (some .int) p s m meth c) : ∀ n : Nat, ∀ (i1 : Int32) (i2 : Int32) (M : mM), f_X9_moves_b4 n i1 i2 M = some r → mG X p l e (rmF 4 92) s m args below meth c (MQ below (mQi X r.2 r.1) args s 0 0 (mL X)) 3 4 [(0, .ref (X.1 0)), (1, .int i1), (2, .int i2)] [] M := by
  obtain ⟨hx, hb, hml, hown, hF, hlk, hr⟩ := id hs
  intro n
  induction n with
  | zero =>
    intro i1 i2 M h
    have h0 : (none : Option (Int32 × mM)) = some r := h
    cases h0
  | succ n ih =>
    intro i1 i2 M h H locs ls hR hS hl
    refine lv_iload_n hx hb dX9_moves_4 rfl (lv_at hl 2 rfl) ?_
    refine lv_aload_n hx hb dX9_moves_5 rfl (lv_at hl 0 rfl) ?_
    refine m_g8_0 hx hb hF hown hR kd_0 mw_2_42 dX9_moves_6 ?_
    refine m_g7_0 hx hb hF hown hR kd_1 mw_1_118 dX9_moves_9 ?_
    refine m_g0_0 hx hb hF hown hR kd_2 mw_1_48 dX9_moves_12 ?_
    refine lv_bipush (v := 8) hx hb dX9_moves_15 (by decide) ?_
    refine lv_imul hx hb dX9_moves_17 ?_
    refine lv_icmp_ge (tgt := 51) hx hb dX9_moves_18 (by decide) (fun c18 => ?_) (fun c18 => ?_)
    · have h := mif_y h c18
      refine lv_iload_n hx hb dX9_moves_51 rfl (lv_at hl 1 rfl) ?_
      exact m_ir hx hb hlk hr hR hS (Option.some.inj h).symm dX9_moves_52
    · have h := mif_n h c18
      refine lv_iload_n hx hb dX9_moves_21 rfl (lv_at hl 1 rfl) ?_
      refine lv_aload_n hx hb dX9_moves_22 rfl (lv_at hl 0 rfl) ?_
      refine m_g8_0 hx hb hF hown hR kd_0 mw_2_42 dX9_moves_23 ?_
      refine m_g7_0 hx hb hF hown hR kd_1 mw_1_118 dX9_moves_26 ?_
      refine lv_iload_n hx hb dX9_moves_29 rfl (lv_at hl 2 rfl) ?_
      refine lv_bipush (v := 8) hx hb dX9_moves_30 (by decide) ?_
      refine lv_idiv hx hb dX9_moves_32 (by decide) ?_
      refine lv_iload_n hx hb dX9_moves_33 rfl (lv_at hl 2 rfl) ?_
      refine lv_bipush (v := 8) hx hb dX9_moves_34 (by decide) ?_
      refine lv_irem hx hb dX9_moves_36 (by decide) ?_
      obtain ⟨v37, M37, q37, h⟩ := mbw_e h
      refine m_ci (m_rV hx hb hml hown hF hR hS (ent0 kd_2) kd_2 rfl (c_X0_mayGo l X 2 (i2 / 8) (i2 - i2 / 8 * 8) isBody_2 M q37) q_X9_154_V hdV_X0_mayGo ⟨Nat.le_of_ble_eq_true rfl, Nat.le_of_ble_eq_true rfl⟩ rfl hl.1 rfl (Nat.le_of_ble_eq_true rfl) dX9_moves_37) hS (fun H locs hR hS => ?_)
      refine m_ci (m_rS hx hb hml hown hF hR hS (c_X9_oneIf l X v37 M37) q_X9_115_S hdS_X9_oneIf ⟨Nat.le_of_ble_eq_true rfl, Nat.le_of_ble_eq_true rfl⟩ rfl hl.1 rfl (Nat.le_of_ble_eq_true rfl) dX9_moves_40) hS (fun H locs hR hS => ?_)
      refine lv_iadd hx hb dX9_moves_43 ?_
      refine lv_topi (fun x44 ex44 => ?_)
      have h := mlt_n h x44 ex44
      refine lv_istore_n (lv' := [(1, .int x44), (0, .ref (X.1 0)), (2, .int i2)]) hx hb dX9_moves_44 rfl hl (by decide) rfl (fun ls hl => ?_)
      obtain ⟨x45, ex45⟩ : ∃ y : Int32, y = (i2 + 1) := ⟨_, rfl⟩
      have h := mlt_n h x45 ex45
      refine lv_iinc (v := x45) (lv' := [(2, .int x45), (1, .int x44), (0, .ref (X.1 0))]) hx hb dX9_moves_45 hl (k := 2) rfl (by rw [ex45]; rfl) (by decide) rfl (fun ls hl => ?_)
      refine lv_goto (tgt := 4) hx hb dX9_moves_48 (by decide) ?_
      exact ih x44 x45 M37 h H locs ls hR hS (lv_sub hl [2, 1, 0] rfl)
set_option maxRecDepth 100000 in
set_option maxHeartbeats 4000000 in
theorem w_X9_moves {l : Launch} {X : mX} {p : Program} {e : Env} {s : State} {m : MethodId} {args : Array Value} {below : List Frame} {meth : Method} {c : Code} {r : Int32 × mM} (hs : mS X RX9 cX9_moves 3 (some .int) p s m meth c) : ∀  (M : mM), f_X9_moves  M = some r → mG X p l e (rmF 4 92) s m args below meth c (MQ below (mQi X r.2 r.1) args s 0 0 (mL X)) 3 0 [(0, .ref (X.1 0))] [] M := by
  obtain ⟨hx, hb, hml, hown, hF, hlk, hr⟩ := id hs
  intro M h H locs ls hR hS hl
  refine lv_iconst (v := 0) hx hb dX9_moves_0 (by decide) ?_
  refine lv_istore_n (lv' := [(1, .int 0), (0, .ref (X.1 0))]) hx hb dX9_moves_1 rfl hl (by decide) rfl (fun ls hl => ?_)
  refine lv_iconst (v := 0) hx hb dX9_moves_2 (by decide) ?_
  refine lv_istore_n (lv' := [(2, .int 0), (1, .int 0), (0, .ref (X.1 0))]) hx hb dX9_moves_3 rfl hl (by decide) rfl (fun ls hl => ?_)
  exact w_X9_moves_b4 hs mN 0 0 M h H locs ls hR hS (lv_sub hl [2, 1, 0] rfl)
theorem c_X9_moves (l : Launch) (X : mX) (M : mM) {r : Int32 × mM} (h : f_X9_moves M = some r) : mMi l yX9_moves cX9_moves 3 (some .int) 4 92 X [.ref (X.1 0)] M r := m_ofi (by decide +kernel) (Nat.le_of_ble_eq_true rfl) rfl (fun p e s m args below meth c hs => w_X9_moves hs M h)
set_option maxRecDepth 100000 in
set_option maxHeartbeats 4000000 in
theorem w_X9_broken_b65 {l : Launch} {X : mX} {p : Program} {e : Env} {s : State} {m : MethodId} {args : Array Value} {below : List Frame} {meth : Method} {c : Code} {r : Int32 × mM} (hs : mS X RX9 cX9_broken 3 (some .int) p s m meth c) (k14 : Int32 → Int32 → mM → Option (Int32 × mM)) (hk14 : ∀ (i1 : Int32) (i2 : Int32) (M : mM), k14 i1 i2 M = some r → mG X p l e (rmF 4 93) s m args below meth c (MQ below (mQi X r.2 r.1) args s 0 0 (mL X)) 3 14 [(0, .ref (X.1 0)), (1, .int i1), (2, .int i2)] [] M) : ∀ (i2 : Int32) (s0 : Int32) (s1 : Int32) (M : mM), f_X9_broken_b65 k14 i2 s0 s1 M = some r → mG X p l e (rmF 4 93) s m args below meth c (MQ below (mQi X r.2 r.1) args s 0 0 (mL X)) 3 65 [(0, .ref (X.1 0)), (2, .int i2)] [.int s1, .int s0] M := by
  obtain ⟨hx, hb, hml, hown, hF, hlk, hr⟩ := id hs
  intro i2 s0 s1 M h H locs ls hR hS hl
  refine m_ci (m_rS hx hb hml hown hF hR hS (c_X9_oneIf l X s1 M) q_X9_115_S hdS_X9_oneIf ⟨Nat.le_of_ble_eq_true rfl, Nat.le_of_ble_eq_true rfl⟩ rfl hl.1 rfl (Nat.le_of_ble_eq_true rfl) dX9_broken_65) hS (fun H locs hR hS => ?_)
  refine lv_iadd hx hb dX9_broken_68 ?_
  refine lv_topi (fun x69 ex69 => ?_)
  have h := mlt_n h x69 ex69
  refine lv_istore_n (lv' := [(1, .int x69), (0, .ref (X.1 0)), (2, .int i2)]) hx hb dX9_broken_69 rfl hl (by decide) rfl (fun ls hl => ?_)
  obtain ⟨x70, ex70⟩ : ∃ y : Int32, y = (i2 + 1) := ⟨_, rfl⟩
  have h := mlt_n h x70 ex70
  refine lv_iinc (v := x70) (lv' := [(2, .int x70), (1, .int x69), (0, .ref (X.1 0))]) hx hb dX9_broken_70 hl (k := 2) rfl (by rw [ex70]; rfl) (by decide) rfl (fun ls hl => ?_)
  refine lv_goto (tgt := 14) hx hb dX9_broken_73 (by decide) ?_
  exact hk14 x69 x70 M h H locs ls hR hS (lv_sub hl [2, 1, 0] rfl)
set_option maxRecDepth 100000 in
set_option maxHeartbeats 4000000 in
theorem w_X9_broken_b14 {l : Launch} {X : mX} {p : Program} {e : Env} {s : State} {m : MethodId} {args : Array Value} {below : List Frame} {meth : Method} {c : Code} {r : Int32 × mM} (hs : mS X RX9 cX9_broken 3 (some .int) p s m meth c) : ∀ n : Nat, ∀ (i1 : Int32) (i2 : Int32) (M : mM), f_X9_broken_b14 n i1 i2 M = some r → mG X p l e (rmF 4 93) s m args below meth c (MQ below (mQi X r.2 r.1) args s 0 0 (mL X)) 3 14 [(0, .ref (X.1 0)), (1, .int i1), (2, .int i2)] [] M := by
  obtain ⟨hx, hb, hml, hown, hF, hlk, hr⟩ := id hs
  intro n
  induction n with
  | zero =>
    intro i1 i2 M h
    have h0 : (none : Option (Int32 × mM)) = some r := h
    cases h0
  | succ n ih =>
    intro i1 i2 M h H locs ls hR hS hl
    refine lv_iload_n hx hb dX9_broken_14 rfl (lv_at hl 2 rfl) ?_
    refine lv_aload_n hx hb dX9_broken_15 rfl (lv_at hl 0 rfl) ?_
    refine m_g8_0 hx hb hF hown hR kd_0 mw_2_42 dX9_broken_16 ?_
    refine m_g7_0 hx hb hF hown hR kd_1 mw_1_118 dX9_broken_19 ?_
    refine m_g0_0 hx hb hF hown hR kd_2 mw_1_48 dX9_broken_22 ?_
    refine lv_icmp_ge (tgt := 76) hx hb dX9_broken_25 (by decide) (fun c25 => ?_) (fun c25 => ?_)
    · have h := mif_y h c25
      refine lv_iload_n hx hb dX9_broken_76 rfl (lv_at hl 1 rfl) ?_
      exact m_ir hx hb hlk hr hR hS (Option.some.inj h).symm dX9_broken_77
    · have h := mif_n h c25
      refine lv_iload_n hx hb dX9_broken_28 rfl (lv_at hl 1 rfl) ?_
      refine lv_aload_n hx hb dX9_broken_29 rfl (lv_at hl 0 rfl) ?_
      refine m_g8_0 hx hb hF hown hR kd_0 mw_2_42 dX9_broken_30 ?_
      refine m_g7_0 hx hb hF hown hR kd_1 mw_1_118 dX9_broken_33 ?_
      refine m_g0_5 hx hb hF hown hR kd_2 mw_1_70 dX9_broken_36 ?_
      refine lv_iload_n hx hb dX9_broken_39 rfl (lv_at hl 2 rfl) ?_
      obtain ⟨g40, h⟩ := mgd_e h
      refine m_ialdL hx hb hR kd_7 g40 (jn := (Int32.toNatClampNeg i2)) rfl dX9_broken_40 ?_
      refine m_gs hx hb hF hS hown 1 (by decide) rfl (hF.w mw_2_136) dX9_broken_41 ?_
      refine lv_aload_n hx hb dX9_broken_44 rfl (lv_at hl 0 rfl) ?_
      refine m_g8_0 hx hb hF hown hR kd_0 mw_2_42 dX9_broken_45 ?_
      refine m_g7_0 hx hb hF hown hR kd_1 mw_1_118 dX9_broken_48 ?_
      refine m_g0_1 hx hb hF hown hR kd_2 mw_1_53 dX9_broken_51 ?_
      refine lv_iload_n hx hb dX9_broken_54 rfl (lv_at hl 2 rfl) ?_
      obtain ⟨g55, h⟩ := mgd_e h
      refine m_ialdL hx hb hR kd_3 g55 (jn := (Int32.toNatClampNeg i2)) rfl dX9_broken_55 ?_
      obtain ⟨g56, h⟩ := mgd_e h
      refine m_saidL hx hb hF hS 1 (by decide) (N := 4) rfl g56 (jn := (Int32.toNatClampNeg (M.1 3 (Int32.toNatClampNeg i2)))) rfl dX9_broken_56 ?_
      refine lv_icmp_le (tgt := 64) hx hb dX9_broken_57 (by decide) (fun c57 => ?_) (fun c57 => ?_)
      · have h := mif_y h c57
        refine lv_iconst (v := 0) hx hb dX9_broken_64 (by decide) ?_
        exact w_X9_broken_b65 hs (f_X9_broken_b14 n) ih i2 i1 0 M h H locs ls hR hS (lv_sub hl [0, 2] rfl)
      · have h := mif_n h c57
        refine lv_iconst (v := 1) hx hb dX9_broken_60 (by decide) ?_
        refine lv_goto (tgt := 65) hx hb dX9_broken_61 (by decide) ?_
        exact w_X9_broken_b65 hs (f_X9_broken_b14 n) ih i2 i1 1 M h H locs ls hR hS (lv_sub hl [0, 2] rfl)
set_option maxRecDepth 100000 in
set_option maxHeartbeats 4000000 in
theorem w_X9_broken {l : Launch} {X : mX} {p : Program} {e : Env} {s : State} {m : MethodId} {args : Array Value} {below : List Frame} {meth : Method} {c : Code} {r : Int32 × mM} (hs : mS X RX9 cX9_broken 3 (some .int) p s m meth c) : ∀  (M : mM), f_X9_broken  M = some r → mG X p l e (rmF 4 93) s m args below meth c (MQ below (mQi X r.2 r.1) args s 0 0 (mL X)) 3 0 [(0, .ref (X.1 0))] [] M := by
  obtain ⟨hx, hb, hml, hown, hF, hlk, hr⟩ := id hs
  intro M h H locs ls hR hS hl
  refine lv_aload_n hx hb dX9_broken_0 rfl (lv_at hl 0 rfl) ?_
  refine m_g8_0 hx hb hF hown hR kd_0 mw_2_42 dX9_broken_1 ?_
  refine m_g7_0 hx hb hF hown hR kd_1 mw_1_118 dX9_broken_4 ?_
  obtain ⟨M7, q7, h⟩ := mbp_e h
  refine m_cv (m_rV hx hb hml hown hF hR hS (ent0 kd_2) kd_2 rfl (c_X0_weigh l X 2 isBody_2 M q7) q_X9_161_V hdV_X0_weigh ⟨Nat.le_of_ble_eq_true rfl, Nat.le_of_ble_eq_true rfl⟩ rfl hl.1 rfl (Nat.le_of_ble_eq_true rfl) dX9_broken_7) hS (fun H locs hR hS => ?_)
  refine lv_iconst (v := 0) hx hb dX9_broken_10 (by decide) ?_
  refine lv_istore_n (lv' := [(1, .int 0), (0, .ref (X.1 0))]) hx hb dX9_broken_11 rfl hl (by decide) rfl (fun ls hl => ?_)
  refine lv_iconst (v := 0) hx hb dX9_broken_12 (by decide) ?_
  refine lv_istore_n (lv' := [(2, .int 0), (1, .int 0), (0, .ref (X.1 0))]) hx hb dX9_broken_13 rfl hl (by decide) rfl (fun ls hl => ?_)
  exact w_X9_broken_b14 hs mN 0 0 M7 h H locs ls hR hS (lv_sub hl [2, 1, 0] rfl)
theorem c_X9_broken (l : Launch) (X : mX) (M : mM) {r : Int32 × mM} (h : f_X9_broken M = some r) : mMi l yX9_broken cX9_broken 3 (some .int) 4 93 X [.ref (X.1 0)] M r := m_ofi (by decide +kernel) (Nat.le_of_ble_eq_true rfl) rfl (fun p e s m args below meth c hs => w_X9_broken hs M h)
set_option maxRecDepth 100000 in
set_option maxHeartbeats 4000000 in
theorem w_X9_isShelf {l : Launch} {X : mX} {p : Program} {e : Env} {s : State} {m : MethodId} {args : Array Value} {below : List Frame} {meth : Method} {c : Code} {M : mM} {r : Int32} (hs : mS X RX9 cX9_isShelf 1 (some .boolean) p s m meth c) : ∀ (i0 : Int32), f_X9_isShelf i0 = r → mG X p l e (rmF 0 0) s m args below meth c (MQ below (mQi X M r) args s 0 0 (mL X)) 1 0 [(0, .int i0)] [] M := by
  obtain ⟨hx, hb, hml, hown, hF, hlk, hr⟩ := id hs
  intro i0 h H locs ls hR hS hl
  refine lv_iload_n hx hb dX9_isShelf_0 rfl (lv_at hl 0 rfl) ?_
  refine lv_if_lt (tgt := 14) hx hb dX9_isShelf_1 (by decide) (fun c1 => ?_) (fun c1 => ?_)
  · have h := mif_y h c1
    refine lv_iconst (v := 0) hx hb dX9_isShelf_14 (by decide) ?_
    exact m_zr hx hb hlk hr hR hS (Or.inl rfl) (congrArg (fun z => (z, M)) h.symm) dX9_isShelf_15
  · have h := mif_n h c1
    refine lv_iload_n hx hb dX9_isShelf_4 rfl (lv_at hl 0 rfl) ?_
    refine lv_bipush (v := 8) hx hb dX9_isShelf_5 (by decide) ?_
    refine lv_icmp_ge (tgt := 14) hx hb dX9_isShelf_7 (by decide) (fun c7 => ?_) (fun c7 => ?_)
    · have h := mif_y h c7
      refine lv_iconst (v := 0) hx hb dX9_isShelf_14 (by decide) ?_
      exact m_zr hx hb hlk hr hR hS (Or.inl rfl) (congrArg (fun z => (z, M)) h.symm) dX9_isShelf_15
    · have h := mif_n h c7
      refine lv_iconst (v := 1) hx hb dX9_isShelf_10 (by decide) ?_
      refine lv_goto (tgt := 15) hx hb dX9_isShelf_11 (by decide) ?_
      exact m_zr hx hb hlk hr hR hS (Or.inr rfl) (congrArg (fun z => (z, M)) h.symm) dX9_isShelf_15
theorem c_X9_isShelf (l : Launch) (X : mX) (i0 : Int32) (M : mM) : mMi l yX9_isShelf cX9_isShelf 1 (some .boolean) 0 0 X [.int i0] M (f_X9_isShelf i0, M) := m_ofi (by decide +kernel) (Nat.le_of_ble_eq_true rfl) rfl (fun p e s m args below meth c hs => w_X9_isShelf hs i0 rfl)
set_option maxRecDepth 100000 in
set_option maxHeartbeats 4000000 in
theorem w_X6_isRow {l : Launch} {X : mX} {p : Program} {e : Env} {s : State} {m : MethodId} {args : Array Value} {below : List Frame} {meth : Method} {c : Code} {M : mM} {r : Int32} (hs : mS X RX6 cX6_isRow 1 (some .boolean) p s m meth c) : ∀ (b : Nat) (h_b : isShelf b), f_X6_isRow b M = r → mG X p l e (rmF 0 0) s m args below meth c (MQ below (mQi X M r) args s 0 0 (mL X)) 1 0 [(0, .ref (X.1 b))] [] M := by
  obtain ⟨hx, hb, hml, hown, hF, hlk, hr⟩ := id hs
  intro b h_b h H locs ls hR hS hl
  refine lv_aload_n hx hb dX6_isRow_0 rfl (lv_at hl 0 rfl) ?_
  refine m_g6_0 hx hb hF hown hR (kShelf0 h_b) mw_2_8 dX6_isRow_1 ?_
  refine lv_if_lt (tgt := 11) hx hb dX6_isRow_4 (by decide) (fun c4 => ?_) (fun c4 => ?_)
  · have h := mif_y h c4
    refine lv_iconst (v := 0) hx hb dX6_isRow_11 (by decide) ?_
    exact m_zr hx hb hlk hr hR hS (Or.inl rfl) (congrArg (fun z => (z, M)) h.symm) dX6_isRow_12
  · have h := mif_n h c4
    refine lv_iconst (v := 1) hx hb dX6_isRow_7 (by decide) ?_
    refine lv_goto (tgt := 12) hx hb dX6_isRow_8 (by decide) ?_
    exact m_zr hx hb hlk hr hR hS (Or.inr rfl) (congrArg (fun z => (z, M)) h.symm) dX6_isRow_12
theorem c_X6_isRow (l : Launch) (X : mX) (b : Nat) (h_b : isShelf b) (M : mM) : mMi l yX6_isRow cX6_isRow 1 (some .boolean) 0 0 X [.ref (X.1 b)] M (f_X6_isRow b M, M) := m_ofi (by decide +kernel) (Nat.le_of_ble_eq_true rfl) rfl (fun p e s m args below meth c hs => w_X6_isRow hs b h_b rfl)
set_option maxRecDepth 100000 in
set_option maxHeartbeats 4000000 in
theorem w_X6_refusalOfRow_b37 {l : Launch} {X : mX} {p : Program} {e : Env} {s : State} {m : MethodId} {args : Array Value} {below : List Frame} {meth : Method} {c : Code} {M : mM} {r : Int32} (hs : mS X RX6 cX6_refusalOfRow 3 (some .int) p s m meth c) : ∀ (b : Nat) (s0 : Int32) (h_b : isShelf b), f_X6_refusalOfRow_b37 b s0 M = r → mG X p l e (rmF 1 20) s m args below meth c (MQ below (mQi X M r) args s 0 0 (mL X)) 3 37 [] [.int s0] M := by
  obtain ⟨hx, hb, hml, hown, hF, hlk, hr⟩ := id hs
  intro b s0 h_b h H locs ls hR hS hl
  refine lv_istore_n (lv' := [(2, .int s0)]) hx hb dX6_refusalOfRow_37 rfl hl (by decide) rfl (fun ls hl => ?_)
  refine lv_iload_n hx hb dX6_refusalOfRow_38 rfl (lv_at hl 0 rfl) ?_
  refine lv_if_eq (tgt := 46) hx hb dX6_refusalOfRow_39 (by decide) (fun c39 => ?_) (fun c39 => ?_)
  · have h := mif_y h c39
    refine lv_bipush (v := (-12)) hx hb dX6_refusalOfRow_46 (by decide) ?_
    exact m_ir hx hb hlk hr hR hS (congrArg (fun z => (z, M)) h.symm) dX6_refusalOfRow_48
  · have h := mif_n h c39
    refine lv_iconst (v := 0) hx hb dX6_refusalOfRow_42 (by decide) ?_
    refine lv_goto (tgt := 48) hx hb dX6_refusalOfRow_43 (by decide) ?_
    exact m_ir hx hb hlk hr hR hS (congrArg (fun z => (z, M)) h.symm) dX6_refusalOfRow_48
set_option maxRecDepth 100000 in
set_option maxHeartbeats 4000000 in
theorem w_X6_refusalOfRow {l : Launch} {X : mX} {p : Program} {e : Env} {s : State} {m : MethodId} {args : Array Value} {below : List Frame} {meth : Method} {c : Code} {M : mM} {r : Int32} (hs : mS X RX6 cX6_refusalOfRow 3 (some .int) p s m meth c) : ∀ (b : Nat) (i1 : Int32) (h_b : isShelf b), f_X6_refusalOfRow b i1 M = r → mG X p l e (rmF 1 20) s m args below meth c (MQ below (mQi X M r) args s 0 0 (mL X)) 3 0 [(0, .ref (X.1 b)), (1, .int i1)] [] M := by
  obtain ⟨hx, hb, hml, hown, hF, hlk, hr⟩ := id hs
  intro b i1 h_b h H locs ls hR hS hl
  refine lv_aload_n hx hb dX6_refusalOfRow_0 rfl (lv_at hl 0 rfl) ?_
  refine m_g6_0 hx hb hF hown hR (kShelf0 h_b) mw_2_8 dX6_refusalOfRow_1 ?_
  refine lv_bipush (v := (-2)) hx hb dX6_refusalOfRow_4 (by decide) ?_
  refine lv_icmp_ne (tgt := 12) hx hb dX6_refusalOfRow_6 (by decide) (fun c6 => ?_) (fun c6 => ?_)
  · have h := mif_n h c6
    refine lv_iload_n hx hb dX6_refusalOfRow_12 rfl (lv_at hl 1 rfl) ?_
    refine lv_iconst (v := 3) hx hb dX6_refusalOfRow_13 (by decide) ?_
    refine lv_icmp_ne (tgt := 24) hx hb dX6_refusalOfRow_14 (by decide) (fun c14 => ?_) (fun c14 => ?_)
    · have h := mif_n h c14
      refine lv_aload_n hx hb dX6_refusalOfRow_24 rfl (lv_at hl 0 rfl) ?_
      refine m_g6_0 hx hb hF hown hR (kShelf0 h_b) mw_2_8 dX6_refusalOfRow_25 ?_
      refine lv_iload_n hx hb dX6_refusalOfRow_28 rfl (lv_at hl 1 rfl) ?_
      refine lv_icmp_ne (tgt := 36) hx hb dX6_refusalOfRow_29 (by decide) (fun c29 => ?_) (fun c29 => ?_)
      · have h := mif_n h c29
        refine lv_iconst (v := 0) hx hb dX6_refusalOfRow_36 (by decide) ?_
        exact w_X6_refusalOfRow_b37 hs b 0 h_b h H locs ls hR hS (lv_sub hl [] rfl)
      · have h := mif_y h c29
        refine lv_iconst (v := 1) hx hb dX6_refusalOfRow_32 (by decide) ?_
        refine lv_goto (tgt := 37) hx hb dX6_refusalOfRow_33 (by decide) ?_
        exact w_X6_refusalOfRow_b37 hs b 1 h_b h H locs ls hR hS (lv_sub hl [] rfl)
    · have h := mif_y h c14
      refine lv_aload_n hx hb dX6_refusalOfRow_17 rfl (lv_at hl 0 rfl) ?_
      refine m_ci (m_rV hx hb hml hown hF hR hS (ent6 (kShelf0 h_b)) (kShelf0 h_b) rfl (c_X6_isRow l X b h_b M) q_X6_62_V hdV_X6_isRow ⟨Nat.le_of_ble_eq_true rfl, Nat.le_of_ble_eq_true rfl⟩ rfl hl.1 rfl (Nat.le_of_ble_eq_true rfl) dX6_refusalOfRow_18) hS (fun H locs hR hS => ?_)
      refine lv_goto (tgt := 37) hx hb dX6_refusalOfRow_21 (by decide) ?_
      exact w_X6_refusalOfRow_b37 hs b (f_X6_isRow b M) h_b h H locs ls hR hS (lv_sub hl [] rfl)
  · have h := mif_y h c6
    refine lv_bipush (v := (-11)) hx hb dX6_refusalOfRow_9 (by decide) ?_
    exact m_ir hx hb hlk hr hR hS (congrArg (fun z => (z, M)) h.symm) dX6_refusalOfRow_11
theorem c_X6_refusalOfRow (l : Launch) (X : mX) (b : Nat) (i1 : Int32) (h_b : isShelf b) (M : mM) : mMi l yX6_refusalOfRow cX6_refusalOfRow 3 (some .int) 1 20 X [.ref (X.1 b), .int i1] M (f_X6_refusalOfRow b i1 M, M) := m_ofi (by decide +kernel) (Nat.le_of_ble_eq_true rfl) rfl (fun p e s m args below meth c hs => w_X6_refusalOfRow hs b i1 h_b rfl)
set_option maxRecDepth 100000 in
set_option maxHeartbeats 4000000 in
theorem w_X7_open_b18 {l : Launch} {X : mX} {p : Program} {e : Env} {s : State} {m : MethodId} {args : Array Value} {below : List Frame} {meth : Method} {c : Code} {r : mM} (hs : mS X RX7 cX7_open 3 none p s m meth c) : ∀ (b : Nat) (q1 : Nat) (s1 : Int32) (h_b : isReader b) (h_q1 : isRow q1) (M : mM), f_X7_open_b18 b q1 s1 M = some r → mG X p l e (rmF 0 0) s m args below meth c (MQ below (mQv X r) args s 0 0 (mL X)) 3 18 [(0, .ref (X.1 b))] [.int s1, .ref (X.1 b)] M := by
  obtain ⟨hx, hb, hml, hown, hF, hlk, hr⟩ := id hs
  intro b q1 s1 h_b h_q1 M h H locs ls hR hS hl
  obtain ⟨M18, eM18⟩ : ∃ y : mM, y = mI M b 1 s1 := ⟨_, rfl⟩
  have h := mlt_n h M18 eM18
  refine m_putR1 hx hb hF hown hR hS h_b mw_1_205 dX7_open_18 eM18 (fun H locs hR hS => ?_)
  refine lv_aload_n hx hb dX7_open_21 rfl (lv_at hl 0 rfl) ?_
  refine lv_iconst (v := 0) hx hb dX7_open_22 (by decide) ?_
  obtain ⟨M23, eM23⟩ : ∃ y : mM, y = mI M18 b 2 0 := ⟨_, rfl⟩
  have h := mlt_n h M23 eM23
  refine m_putR2 hx hb hF hown hR hS h_b mw_1_206 dX7_open_23 eM23 (fun H locs hR hS => ?_)
  refine lv_aload_n hx hb dX7_open_26 rfl (lv_at hl 0 rfl) ?_
  refine lv_iconst (v := (-1)) hx hb dX7_open_27 (by decide) ?_
  obtain ⟨M28, eM28⟩ : ∃ y : mM, y = mI M23 b 3 (-1) := ⟨_, rfl⟩
  have h := mlt_n h M28 eM28
  refine m_putR3 hx hb hF hown hR hS h_b mw_1_207 dX7_open_28 eM28 (fun H locs hR hS => ?_)
  exact m_vr hx hb hlk hr hR hS (Option.some.inj h).symm dX7_open_31
set_option maxRecDepth 100000 in
set_option maxHeartbeats 4000000 in
theorem w_X7_open {l : Launch} {X : mX} {p : Program} {e : Env} {s : State} {m : MethodId} {args : Array Value} {below : List Frame} {meth : Method} {c : Code} {r : mM} (hs : mS X RX7 cX7_open 3 none p s m meth c) : ∀ (b : Nat) (q1 : Nat) (i2 : Int32) (h_b : isReader b) (h_q1 : isRow q1) (M : mM), f_X7_open b q1 i2 M = some r → mG X p l e (rmF 0 0) s m args below meth c (MQ below (mQv X r) args s 0 0 (mL X)) 3 0 [(0, .ref (X.1 b)), (1, .ref (X.1 q1)), (2, .int i2)] [] M := by
  obtain ⟨hx, hb, hml, hown, hF, hlk, hr⟩ := id hs
  intro b q1 i2 h_b h_q1 M h H locs ls hR hS hl
  refine lv_aload_n hx hb dX7_open_0 rfl (lv_at hl 0 rfl) ?_
  refine lv_aload_n hx hb dX7_open_1 rfl (lv_at hl 1 rfl) ?_
  obtain ⟨M2, eM2⟩ : ∃ y : mM, y = mT M b q1 := ⟨_, rfl⟩
  have h := mlt_n h M2 eM2
  refine m_putRt hx hb hF hown hR hS h_b h_q1 mw_1_204 dX7_open_2 eM2 (fun H locs hR hS => ?_)
  refine lv_aload_n hx hb dX7_open_5 rfl (lv_at hl 0 rfl) ?_
  refine lv_iload_n hx hb dX7_open_6 rfl (lv_at hl 2 rfl) ?_
  refine lv_aload_n hx hb dX7_open_7 rfl (lv_at hl 1 rfl) ?_
  refine m_alen hx hb hR h_q1 (v := 90) (by decide) dX7_open_8 ?_
  refine lv_icmp_ge (tgt := 16) hx hb dX7_open_9 (by decide) (fun c9 => ?_) (fun c9 => ?_)
  · have h := mif_y h c9
    refine lv_aload_n hx hb dX7_open_16 rfl (lv_at hl 1 rfl) ?_
    refine m_alen hx hb hR h_q1 (v := 90) (by decide) dX7_open_17 ?_
    exact w_X7_open_b18 hs b q1 90 h_b h_q1 M2 h H locs ls hR hS (lv_sub hl [0] rfl)
  · have h := mif_n h c9
    refine lv_iload_n hx hb dX7_open_12 rfl (lv_at hl 2 rfl) ?_
    refine lv_goto (tgt := 18) hx hb dX7_open_13 (by decide) ?_
    exact w_X7_open_b18 hs b q1 i2 h_b h_q1 M2 h H locs ls hR hS (lv_sub hl [0] rfl)
theorem c_X7_open (l : Launch) (X : mX) (b : Nat) (q1 : Nat) (i2 : Int32) (h_b : isReader b) (h_q1 : isRow q1) (M : mM) {r : mM} (h : f_X7_open b q1 i2 M = some r) : mMv l yX7_open cX7_open 3 0 0 X [.ref (X.1 b), .ref (X.1 q1), .int i2] M r := m_ofv (by decide +kernel) (Nat.le_of_ble_eq_true rfl) rfl (fun p e s m args below meth c hs => w_X7_open hs b q1 i2 h_b h_q1 M h)
set_option maxRecDepth 100000 in
set_option maxHeartbeats 4000000 in
theorem w_X7_look {l : Launch} {X : mX} {p : Program} {e : Env} {s : State} {m : MethodId} {args : Array Value} {below : List Frame} {meth : Method} {c : Code} {M : mM} {r : Int32} (hs : mS X RX7 cX7_look 1 (some .int) p s m meth c) : ∀ (b : Nat) (h_b : isReader b), f_X7_look b M = some r → mG X p l e (rmF 0 0) s m args below meth c (MQ below (mQi X M r) args s 0 0 (mL X)) 1 0 [(0, .ref (X.1 b))] [] M := by
  obtain ⟨hx, hb, hml, hown, hF, hlk, hr⟩ := id hs
  intro b h_b h H locs ls hR hS hl
  refine lv_aload_n hx hb dX7_look_0 rfl (lv_at hl 0 rfl) ?_
  refine m_getR3 hx hb hF hown hR h_b mw_1_207 dX7_look_1 ?_
  refine lv_if_ge (tgt := 37) hx hb dX7_look_4 (by decide) (fun c4 => ?_) (fun c4 => ?_)
  · have h := mif_y h c4
    refine lv_sipush (v := (-1000)) hx hb dX7_look_37 (by decide) ?_
    exact m_ir hx hb hlk hr hR hS (congrArg (fun z => (z, M)) (Option.some.inj h).symm) dX7_look_40
  · have h := mif_n h c4
    refine lv_aload_n hx hb dX7_look_7 rfl (lv_at hl 0 rfl) ?_
    refine m_getR2 hx hb hF hown hR h_b mw_1_206 dX7_look_8 ?_
    refine lv_if_lt (tgt := 37) hx hb dX7_look_11 (by decide) (fun c11 => ?_) (fun c11 => ?_)
    · have h := mif_y h c11
      refine lv_sipush (v := (-1000)) hx hb dX7_look_37 (by decide) ?_
      exact m_ir hx hb hlk hr hR hS (congrArg (fun z => (z, M)) (Option.some.inj h).symm) dX7_look_40
    · have h := mif_n h c11
      refine lv_aload_n hx hb dX7_look_14 rfl (lv_at hl 0 rfl) ?_
      refine m_getR2 hx hb hF hown hR h_b mw_1_206 dX7_look_15 ?_
      refine lv_aload_n hx hb dX7_look_18 rfl (lv_at hl 0 rfl) ?_
      refine m_getR1 hx hb hF hown hR h_b mw_1_205 dX7_look_19 ?_
      refine lv_icmp_ge (tgt := 37) hx hb dX7_look_22 (by decide) (fun c22 => ?_) (fun c22 => ?_)
      · have h := mif_y h c22
        refine lv_sipush (v := (-1000)) hx hb dX7_look_37 (by decide) ?_
        exact m_ir hx hb hlk hr hR hS (congrArg (fun z => (z, M)) (Option.some.inj h).symm) dX7_look_40
      · have h := mif_n h c22
        refine lv_aload_n hx hb dX7_look_25 rfl (lv_at hl 0 rfl) ?_
        obtain ⟨g26, h⟩ := mgd_e h
        refine m_getRt hx hb hF hown hR h_b g26 mw_1_204 dX7_look_26 ?_
        refine lv_topc (fun t26 et26 => ?_)
        have h := mlt_n h t26 et26
        have h_t26 : isRow t26 := by rw [et26]; exact g26
        refine lv_aload_n hx hb dX7_look_29 rfl (lv_at hl 0 rfl) ?_
        refine m_getR2 hx hb hF hown hR h_b mw_1_206 dX7_look_30 ?_
        obtain ⟨g33, h⟩ := mgd_e h
        refine m_ialdL hx hb hR h_t26 g33 (jn := (Int32.toNatClampNeg (M.1 b 2))) rfl dX7_look_33 ?_
        refine lv_goto (tgt := 40) hx hb dX7_look_34 (by decide) ?_
        exact m_ir hx hb hlk hr hR hS (congrArg (fun z => (z, M)) (Option.some.inj h).symm) dX7_look_40
theorem c_X7_look (l : Launch) (X : mX) (b : Nat) (h_b : isReader b) (M : mM) {r : Int32} (h : f_X7_look b M = some r) : mMi l yX7_look cX7_look 1 (some .int) 0 0 X [.ref (X.1 b)] M (r, M) := m_ofi (by decide +kernel) (Nat.le_of_ble_eq_true rfl) rfl (fun p e s m args below meth c hs => w_X7_look hs b h_b h)
set_option maxRecDepth 100000 in
set_option maxHeartbeats 4000000 in
theorem w_X7_takeIf_b13 {l : Launch} {X : mX} {p : Program} {e : Env} {s : State} {m : MethodId} {args : Array Value} {below : List Frame} {meth : Method} {c : Code} {r : Int32 × mM} (hs : mS X RX7 cX7_takeIf 3 (some .boolean) p s m meth c) : ∀ (b : Nat) (s0 : Int32) (h_b : isReader b) (M : mM), f_X7_takeIf_b13 b s0 M = some r → mG X p l e (rmF 1 20) s m args below meth c (MQ below (mQi X r.2 r.1) args s 0 0 (mL X)) 3 13 [(0, .ref (X.1 b))] [.int s0] M := by
  obtain ⟨hx, hb, hml, hown, hF, hlk, hr⟩ := id hs
  intro b s0 h_b M h H locs ls hR hS hl
  refine lv_istore_n (lv' := [(2, .int s0), (0, .ref (X.1 b))]) hx hb dX7_takeIf_13 rfl hl (by decide) rfl (fun ls hl => ?_)
  refine lv_iload_n hx hb dX7_takeIf_14 rfl (lv_at hl 0 rfl) ?_
  refine lv_if_eq (tgt := 28) hx hb dX7_takeIf_15 (by decide) (fun c15 => ?_) (fun c15 => ?_)
  · have h := mif_y h c15
    refine lv_iload_n hx hb dX7_takeIf_28 rfl (lv_at hl 0 rfl) ?_
    obtain ⟨g29, h⟩ := mgd_e h
    exact m_zr hx hb hlk hr hR hS g29 (Option.some.inj h).symm dX7_takeIf_29
  · have h := mif_n h c15
    refine lv_aload_n hx hb dX7_takeIf_18 rfl (lv_at hl 1 rfl) ?_
    refine lv_dup hx hb dX7_takeIf_19 rfl ?_
    refine m_getR2 hx hb hF hown hR h_b mw_1_206 dX7_takeIf_20 ?_
    refine lv_iconst (v := 1) hx hb dX7_takeIf_23 (by decide) ?_
    refine lv_iadd hx hb dX7_takeIf_24 ?_
    obtain ⟨M25, eM25⟩ : ∃ y : mM, y = mI M b 2 ((M.1 b 2) + 1) := ⟨_, rfl⟩
    have h := mlt_n h M25 eM25
    refine m_putR2 hx hb hF hown hR hS h_b mw_1_206 dX7_takeIf_25 eM25 (fun H locs hR hS => ?_)
    refine lv_iload_n hx hb dX7_takeIf_28 rfl (lv_at hl 0 rfl) ?_
    obtain ⟨g29, h⟩ := mgd_e h
    exact m_zr hx hb hlk hr hR hS g29 (Option.some.inj h).symm dX7_takeIf_29
set_option maxRecDepth 100000 in
set_option maxHeartbeats 4000000 in
theorem w_X7_takeIf {l : Launch} {X : mX} {p : Program} {e : Env} {s : State} {m : MethodId} {args : Array Value} {below : List Frame} {meth : Method} {c : Code} {r : Int32 × mM} (hs : mS X RX7 cX7_takeIf 3 (some .boolean) p s m meth c) : ∀ (b : Nat) (i1 : Int32) (h_b : isReader b) (M : mM), f_X7_takeIf b i1 M = some r → mG X p l e (rmF 1 20) s m args below meth c (MQ below (mQi X r.2 r.1) args s 0 0 (mL X)) 3 0 [(0, .ref (X.1 b)), (1, .int i1)] [] M := by
  obtain ⟨hx, hb, hml, hown, hF, hlk, hr⟩ := id hs
  intro b i1 h_b M h H locs ls hR hS hl
  refine lv_aload_n hx hb dX7_takeIf_0 rfl (lv_at hl 0 rfl) ?_
  obtain ⟨v1, q1, h⟩ := mbp_e h
  refine m_ci (m_rU3 hx hb hml hown hF hR hS h_b (c_X7_look l X b h_b M q1) q_X7_28_UX1 q_X7_28_UX4 q_X7_28_UX5 rfl hdU_X7_look ⟨Nat.le_of_ble_eq_true rfl, Nat.le_of_ble_eq_true rfl⟩ rfl hl.1 rfl (Nat.le_of_ble_eq_true rfl) dX7_takeIf_1) hS (fun H locs hR hS => ?_)
  refine lv_iload_n hx hb dX7_takeIf_4 rfl (lv_at hl 1 rfl) ?_
  refine lv_icmp_ne (tgt := 12) hx hb dX7_takeIf_5 (by decide) (fun c5 => ?_) (fun c5 => ?_)
  · have h := mif_n h c5
    refine lv_iconst (v := 0) hx hb dX7_takeIf_12 (by decide) ?_
    exact w_X7_takeIf_b13 hs b 0 h_b M h H locs ls hR hS (lv_sub hl [0] rfl)
  · have h := mif_y h c5
    refine lv_iconst (v := 1) hx hb dX7_takeIf_8 (by decide) ?_
    refine lv_goto (tgt := 13) hx hb dX7_takeIf_9 (by decide) ?_
    exact w_X7_takeIf_b13 hs b 1 h_b M h H locs ls hR hS (lv_sub hl [0] rfl)
theorem c_X7_takeIf (l : Launch) (X : mX) (b : Nat) (i1 : Int32) (h_b : isReader b) (M : mM) {r : Int32 × mM} (h : f_X7_takeIf b i1 M = some r) : mMi l yX7_takeIf cX7_takeIf 3 (some .boolean) 1 20 X [.ref (X.1 b), .int i1] M r := m_ofi (by decide +kernel) (Nat.le_of_ble_eq_true rfl) rfl (fun p e s m args below meth c hs => w_X7_takeIf hs b i1 h_b M h)
set_option maxRecDepth 100000 in
set_option maxHeartbeats 4000000 in
theorem w_X7_fail {l : Launch} {X : mX} {p : Program} {e : Env} {s : State} {m : MethodId} {args : Array Value} {below : List Frame} {meth : Method} {c : Code} {r : mM} (hs : mS X RX7 cX7_fail 1 none p s m meth c) : ∀ (b : Nat) (h_b : isReader b) (M : mM), f_X7_fail b M = some r → mG X p l e (rmF 0 0) s m args below meth c (MQ below (mQv X r) args s 0 0 (mL X)) 1 0 [(0, .ref (X.1 b))] [] M := by
  obtain ⟨hx, hb, hml, hown, hF, hlk, hr⟩ := id hs
  intro b h_b M h H locs ls hR hS hl
  refine lv_aload_n hx hb dX7_fail_0 rfl (lv_at hl 0 rfl) ?_
  refine m_getR3 hx hb hF hown hR h_b mw_1_207 dX7_fail_1 ?_
  refine lv_if_ge (tgt := 15) hx hb dX7_fail_4 (by decide) (fun c4 => ?_) (fun c4 => ?_)
  · have h := mif_y h c4
    exact m_vr hx hb hlk hr hR hS (Option.some.inj h).symm dX7_fail_15
  · have h := mif_n h c4
    refine lv_aload_n hx hb dX7_fail_7 rfl (lv_at hl 0 rfl) ?_
    refine lv_aload_n hx hb dX7_fail_8 rfl (lv_at hl 0 rfl) ?_
    refine m_getR2 hx hb hF hown hR h_b mw_1_206 dX7_fail_9 ?_
    obtain ⟨M12, eM12⟩ : ∃ y : mM, y = mI M b 3 (M.1 b 2) := ⟨_, rfl⟩
    have h := mlt_n h M12 eM12
    refine m_putR3 hx hb hF hown hR hS h_b mw_1_207 dX7_fail_12 eM12 (fun H locs hR hS => ?_)
    exact m_vr hx hb hlk hr hR hS (Option.some.inj h).symm dX7_fail_15
theorem c_X7_fail (l : Launch) (X : mX) (b : Nat) (h_b : isReader b) (M : mM) {r : mM} (h : f_X7_fail b M = some r) : mMv l yX7_fail cX7_fail 1 0 0 X [.ref (X.1 b)] M r := m_ofv (by decide +kernel) (Nat.le_of_ble_eq_true rfl) rfl (fun p e s m args below meth c hs => w_X7_fail hs b h_b M h)
set_option maxRecDepth 100000 in
set_option maxHeartbeats 4000000 in
theorem w_X7_demand {l : Launch} {X : mX} {p : Program} {e : Env} {s : State} {m : MethodId} {args : Array Value} {below : List Frame} {meth : Method} {c : Code} {r : mM} (hs : mS X RX7 cX7_demand 2 none p s m meth c) : ∀ (b : Nat) (i1 : Int32) (h_b : isReader b) (M : mM), f_X7_demand b i1 M = some r → mG X p l e (rmF 2 42) s m args below meth c (MQ below (mQv X r) args s 0 0 (mL X)) 2 0 [(0, .ref (X.1 b)), (1, .int i1)] [] M := by
  obtain ⟨hx, hb, hml, hown, hF, hlk, hr⟩ := id hs
  intro b i1 h_b M h H locs ls hR hS hl
  refine lv_aload_n hx hb dX7_demand_0 rfl (lv_at hl 0 rfl) ?_
  refine lv_iload_n hx hb dX7_demand_1 rfl (lv_at hl 1 rfl) ?_
  obtain ⟨v2, M2, q2, h⟩ := mbw_e h
  refine m_ci (m_rU3 hx hb hml hown hF hR hS h_b (c_X7_takeIf l X b i1 h_b M q2) q_X7_32_UX1 q_X7_32_UX4 q_X7_32_UX5 rfl hdU_X7_takeIf ⟨Nat.le_of_ble_eq_true rfl, Nat.le_of_ble_eq_true rfl⟩ rfl hl.1 rfl (Nat.le_of_ble_eq_true rfl) dX7_demand_2) hS (fun H locs hR hS => ?_)
  refine lv_if_ne (tgt := 12) hx hb dX7_demand_5 (by decide) (fun c5 => ?_) (fun c5 => ?_)
  · have h := mif_n h c5
    exact m_vr hx hb hlk hr hR hS (Option.some.inj h).symm dX7_demand_12
  · have h := mif_y h c5
    refine lv_aload_n hx hb dX7_demand_8 rfl (lv_at hl 0 rfl) ?_
    obtain ⟨M9, q9, h⟩ := mbp_e h
    refine m_cv (m_rU3 hx hb hml hown hF hR hS h_b (c_X7_fail l X b h_b M2 q9) q_X7_36_UX1 q_X7_36_UX4 q_X7_36_UX5 rfl hdU_X7_fail ⟨Nat.le_of_ble_eq_true rfl, Nat.le_of_ble_eq_true rfl⟩ rfl hl.1 rfl (Nat.le_of_ble_eq_true rfl) dX7_demand_9) hS (fun H locs hR hS => ?_)
    exact m_vr hx hb hlk hr hR hS (Option.some.inj h).symm dX7_demand_12
theorem c_X7_demand (l : Launch) (X : mX) (b : Nat) (i1 : Int32) (h_b : isReader b) (M : mM) {r : mM} (h : f_X7_demand b i1 M = some r) : mMv l yX7_demand cX7_demand 2 2 42 X [.ref (X.1 b), .int i1] M r := m_ofv (by decide +kernel) (Nat.le_of_ble_eq_true rfl) rfl (fun p e s m args below meth c hs => w_X7_demand hs b i1 h_b M h)
set_option maxRecDepth 100000 in
set_option maxHeartbeats 4000000 in
theorem w_X7_demandDigit_b18 {l : Launch} {X : mX} {p : Program} {e : Env} {s : State} {m : MethodId} {args : Array Value} {below : List Frame} {meth : Method} {c : Code} {r : Int32 × mM} (hs : mS X RX7 cX7_demandDigit 4 (some .int) p s m meth c) : ∀ (b : Nat) (i1 : Int32) (h_b : isReader b) (M : mM), f_X7_demandDigit_b18 b i1 M = some r → mG X p l e (rmF 1 20) s m args below meth c (MQ below (mQi X r.2 r.1) args s 0 0 (mL X)) 4 18 [(0, .ref (X.1 b)), (1, .int i1)] [] M := by
  obtain ⟨hx, hb, hml, hown, hF, hlk, hr⟩ := id hs
  intro b i1 h_b M h H locs ls hR hS hl
  refine lv_aload_n hx hb dX7_demandDigit_18 rfl (lv_at hl 0 rfl) ?_
  obtain ⟨M19, q19, h⟩ := mbp_e h
  refine m_cv (m_rU3 hx hb hml hown hF hR hS h_b (c_X7_fail l X b h_b M q19) q_X7_36_UX1 q_X7_36_UX4 q_X7_36_UX5 rfl hdU_X7_fail ⟨Nat.le_of_ble_eq_true rfl, Nat.le_of_ble_eq_true rfl⟩ rfl hl.1 rfl (Nat.le_of_ble_eq_true rfl) dX7_demandDigit_19) hS (fun H locs hR hS => ?_)
  refine lv_iload_n hx hb dX7_demandDigit_22 rfl (lv_at hl 1 rfl) ?_
  exact m_ir hx hb hlk hr hR hS (Option.some.inj h).symm dX7_demandDigit_23
set_option maxRecDepth 100000 in
set_option maxHeartbeats 4000000 in
theorem w_X7_demandDigit {l : Launch} {X : mX} {p : Program} {e : Env} {s : State} {m : MethodId} {args : Array Value} {below : List Frame} {meth : Method} {c : Code} {r : Int32 × mM} (hs : mS X RX7 cX7_demandDigit 4 (some .int) p s m meth c) : ∀ (b : Nat) (i1 : Int32) (i2 : Int32) (h_b : isReader b) (M : mM), f_X7_demandDigit b i1 i2 M = some r → mG X p l e (rmF 1 20) s m args below meth c (MQ below (mQi X r.2 r.1) args s 0 0 (mL X)) 4 0 [(0, .ref (X.1 b)), (1, .int i1), (2, .int i2)] [] M := by
  obtain ⟨hx, hb, hml, hown, hF, hlk, hr⟩ := id hs
  intro b i1 i2 h_b M h H locs ls hR hS hl
  refine lv_aload_n hx hb dX7_demandDigit_0 rfl (lv_at hl 0 rfl) ?_
  obtain ⟨v1, q1, h⟩ := mbp_e h
  refine m_ci (m_rU3 hx hb hml hown hF hR hS h_b (c_X7_look l X b h_b M q1) q_X7_28_UX1 q_X7_28_UX4 q_X7_28_UX5 rfl hdU_X7_look ⟨Nat.le_of_ble_eq_true rfl, Nat.le_of_ble_eq_true rfl⟩ rfl hl.1 rfl (Nat.le_of_ble_eq_true rfl) dX7_demandDigit_1) hS (fun H locs hR hS => ?_)
  refine lv_bipush (v := 48) hx hb dX7_demandDigit_4 (by decide) ?_
  refine lv_isub hx hb dX7_demandDigit_6 ?_
  refine lv_istore_n (lv' := [(3, .int (v1 - 48)), (0, .ref (X.1 b)), (1, .int i1), (2, .int i2)]) hx hb dX7_demandDigit_7 rfl hl (by decide) rfl (fun ls hl => ?_)
  refine lv_iload_n hx hb dX7_demandDigit_8 rfl (lv_at hl 0 rfl) ?_
  refine lv_iload_n hx hb dX7_demandDigit_9 rfl (lv_at hl 2 rfl) ?_
  refine lv_icmp_lt (tgt := 18) hx hb dX7_demandDigit_10 (by decide) (fun c10 => ?_) (fun c10 => ?_)
  · have h := mif_y h c10
    exact w_X7_demandDigit_b18 hs b i1 h_b M h H locs ls hR hS (lv_sub hl [1, 2] rfl)
  · have h := mif_n h c10
    refine lv_iload_n hx hb dX7_demandDigit_13 rfl (lv_at hl 0 rfl) ?_
    refine lv_iload_n hx hb dX7_demandDigit_14 rfl (lv_at hl 3 rfl) ?_
    refine lv_icmp_le (tgt := 24) hx hb dX7_demandDigit_15 (by decide) (fun c15 => ?_) (fun c15 => ?_)
    · have h := mif_y h c15
      refine lv_aload_n hx hb dX7_demandDigit_24 rfl (lv_at hl 1 rfl) ?_
      refine lv_dup hx hb dX7_demandDigit_25 rfl ?_
      refine m_getR2 hx hb hF hown hR h_b mw_1_206 dX7_demandDigit_26 ?_
      refine lv_iconst (v := 1) hx hb dX7_demandDigit_29 (by decide) ?_
      refine lv_iadd hx hb dX7_demandDigit_30 ?_
      obtain ⟨M31, eM31⟩ : ∃ y : mM, y = mI M b 2 ((M.1 b 2) + 1) := ⟨_, rfl⟩
      have h := mlt_n h M31 eM31
      refine m_putR2 hx hb hF hown hR hS h_b mw_1_206 dX7_demandDigit_31 eM31 (fun H locs hR hS => ?_)
      refine lv_iload_n hx hb dX7_demandDigit_34 rfl (lv_at hl 0 rfl) ?_
      exact m_ir hx hb hlk hr hR hS (Option.some.inj h).symm dX7_demandDigit_35
    · have h := mif_n h c15
      exact w_X7_demandDigit_b18 hs b i1 h_b M h H locs ls hR hS (lv_sub hl [1, 2] rfl)
theorem c_X7_demandDigit (l : Launch) (X : mX) (b : Nat) (i1 : Int32) (i2 : Int32) (h_b : isReader b) (M : mM) {r : Int32 × mM} (h : f_X7_demandDigit b i1 i2 M = some r) : mMi l yX7_demandDigit cX7_demandDigit 4 (some .int) 1 20 X [.ref (X.1 b), .int i1, .int i2] M r := m_ofi (by decide +kernel) (Nat.le_of_ble_eq_true rfl) rfl (fun p e s m args below meth c hs => w_X7_demandDigit hs b i1 i2 h_b M h)
set_option maxRecDepth 100000 in
set_option maxHeartbeats 4000000 in
theorem w_X5_readBox_b125 {l : Launch} {X : mX} {p : Program} {e : Env} {s : State} {m : MethodId} {args : Array Value} {below : List Frame} {meth : Method} {c : Code} {r : Int64 × mM} (hs : mS X RX5 cX5_readBox 12 (some .long) p s m meth c) (k60 : Int32 → Int32 → Int32 → Int32 → Int32 → Int32 → Int64 → Int32 → Int32 → mM → Option (Int64 × mM)) (hk60 : ∀ (i1 : Int32) (i2 : Int32) (i3 : Int32) (i4 : Int32) (i5 : Int32) (i6 : Int32) (j7 : Int64) (i9 : Int32) (i10 : Int32) (M : mM), k60 i1 i2 i3 i4 i5 i6 j7 i9 i10 M = some r → mG X p l e (rmF 2 43) s m args below meth c (MQ below (mQl X r.2 r.1) args s 0 0 (mL X)) 12 60 [(1, .int i1), (2, .int i2), (3, .int i3), (4, .int i4), (5, .int i5), (6, .int i6), (7, .long j7), (9, .int i9), (10, .int i10)] [] M) : ∀ (i1 : Int32) (i2 : Int32) (i3 : Int32) (i4 : Int32) (i5 : Int32) (i6 : Int32) (j7 : Int64) (i9 : Int32) (i10 : Int32) (M : mM), f_X5_readBox_b125 k60 i1 i2 i3 i4 i5 i6 j7 i9 i10 M = some r → mG X p l e (rmF 2 43) s m args below meth c (MQ below (mQl X r.2 r.1) args s 0 0 (mL X)) 12 125 [(1, .int i1), (2, .int i2), (3, .int i3), (4, .int i4), (5, .int i5), (6, .int i6), (7, .long j7), (9, .int i9), (10, .int i10)] [] M := by
  obtain ⟨hx, hb, hml, hown, hF, hlk, hr⟩ := id hs
  intro i1 i2 i3 i4 i5 i6 j7 i9 i10 M h H locs ls hR hS hl
  refine lv_lload hx hb dX5_readBox_125 (lv_at hl 6 rfl) ?_
  refine lv_lconst (v := 1) hx hb dX5_readBox_127 (by decide) ?_
  refine lv_iload hx hb dX5_readBox_128 (lv_at hl 8 rfl) ?_
  refine lv_iconst (v := 4) hx hb dX5_readBox_130 (by decide) ?_
  refine lv_irem hx hb dX5_readBox_131 (by decide) ?_
  refine lv_bipush (v := 10) hx hb dX5_readBox_132 (by decide) ?_
  refine lv_imul hx hb dX5_readBox_134 ?_
  refine lv_iload hx hb dX5_readBox_135 (lv_at hl 7 rfl) ?_
  refine lv_iadd hx hb dX5_readBox_137 ?_
  refine lv_lshl hx hb dX5_readBox_138 rfl ?_
  refine lv_lor hx hb dX5_readBox_139 ?_
  refine lv_topl (fun x140 ex140 => ?_)
  have h := mlt_n h x140 ex140
  refine lv_lstore (lv' := [(7, .long x140), (1, .int i1), (2, .int i2), (3, .int i3), (4, .int i4), (5, .int i5), (6, .int i6), (9, .int i9), (10, .int i10)]) hx hb dX5_readBox_140 hl (by decide) rfl (fun ls hl => ?_)
  obtain ⟨x142, ex142⟩ : ∃ y : Int32, y = (i10 + 1) := ⟨_, rfl⟩
  have h := mlt_n h x142 ex142
  refine lv_iinc (v := x142) (lv' := [(10, .int x142), (7, .long x140), (1, .int i1), (2, .int i2), (3, .int i3), (4, .int i4), (5, .int i5), (6, .int i6), (9, .int i9)]) hx hb dX5_readBox_142 hl (k := 8) rfl (by rw [ex142]; rfl) (by decide) rfl (fun ls hl => ?_)
  refine lv_goto (tgt := 60) hx hb dX5_readBox_145 (by decide) ?_
  exact hk60 i1 i2 i3 i4 i5 i6 x140 i9 x142 M h H locs ls hR hS (lv_sub hl [2, 3, 4, 5, 6, 7, 1, 8, 0] rfl)
set_option maxRecDepth 100000 in
set_option maxHeartbeats 4000000 in
theorem w_X5_readBox_b106 {l : Launch} {X : mX} {p : Program} {e : Env} {s : State} {m : MethodId} {args : Array Value} {below : List Frame} {meth : Method} {c : Code} {r : Int64 × mM} (hs : mS X RX5 cX5_readBox 12 (some .long) p s m meth c) (k60 : Int32 → Int32 → Int32 → Int32 → Int32 → Int32 → Int64 → Int32 → Int32 → mM → Option (Int64 × mM)) (hk60 : ∀ (i1 : Int32) (i2 : Int32) (i3 : Int32) (i4 : Int32) (i5 : Int32) (i6 : Int32) (j7 : Int64) (i9 : Int32) (i10 : Int32) (M : mM), k60 i1 i2 i3 i4 i5 i6 j7 i9 i10 M = some r → mG X p l e (rmF 2 43) s m args below meth c (MQ below (mQl X r.2 r.1) args s 0 0 (mL X)) 12 60 [(1, .int i1), (2, .int i2), (3, .int i3), (4, .int i4), (5, .int i5), (6, .int i6), (7, .long j7), (9, .int i9), (10, .int i10)] [] M) : ∀ (i1 : Int32) (i2 : Int32) (i3 : Int32) (i4 : Int32) (i5 : Int32) (i6 : Int32) (j7 : Int64) (i9 : Int32) (i10 : Int32) (s0 : Int32) (M : mM), f_X5_readBox_b106 k60 i1 i2 i3 i4 i5 i6 j7 i9 i10 s0 M = some r → mG X p l e (rmF 2 43) s m args below meth c (MQ below (mQl X r.2 r.1) args s 0 0 (mL X)) 12 106 [(1, .int i1), (2, .int i2), (3, .int i3), (4, .int i4), (5, .int i5), (6, .int i6), (7, .long j7), (9, .int i9), (10, .int i10)] [.int s0] M := by
  obtain ⟨hx, hb, hml, hown, hF, hlk, hr⟩ := id hs
  intro i1 i2 i3 i4 i5 i6 j7 i9 i10 s0 M h H locs ls hR hS hl
  refine lv_istore (lv' := [(11, .int s0), (1, .int i1), (2, .int i2), (3, .int i3), (4, .int i4), (5, .int i5), (6, .int i6), (7, .long j7), (9, .int i9), (10, .int i10)]) hx hb dX5_readBox_106 hl (by decide) rfl (fun ls hl => ?_)
  refine lv_iload hx hb dX5_readBox_108 (lv_at hl 9 rfl) ?_
  refine lv_iconst (v := 4) hx hb dX5_readBox_110 (by decide) ?_
  refine lv_idiv hx hb dX5_readBox_111 (by decide) ?_
  refine lv_iload_n hx hb dX5_readBox_112 rfl (lv_at hl 1 rfl) ?_
  refine lv_icmp_ne (tgt := 142) hx hb dX5_readBox_113 (by decide) (fun c113 => ?_) (fun c113 => ?_)
  · have h := mif_n h c113
    obtain ⟨x142, ex142⟩ : ∃ y : Int32, y = (i10 + 1) := ⟨_, rfl⟩
    have h := mlt_n h x142 ex142
    refine lv_iinc (v := x142) (lv' := [(10, .int x142), (11, .int s0), (1, .int i1), (2, .int i2), (3, .int i3), (4, .int i4), (5, .int i5), (6, .int i6), (7, .long j7), (9, .int i9)]) hx hb dX5_readBox_142 hl (k := 9) rfl (by rw [ex142]; rfl) (by decide) rfl (fun ls hl => ?_)
    refine lv_goto (tgt := 60) hx hb dX5_readBox_145 (by decide) ?_
    exact hk60 i1 i2 i3 i4 i5 i6 j7 i9 x142 M h H locs ls hR hS (lv_sub hl [2, 3, 4, 5, 6, 7, 8, 9, 0] rfl)
  · have h := mif_y h c113
    refine lv_iload hx hb dX5_readBox_116 (lv_at hl 0 rfl) ?_
    refine lv_if_ne (tgt := 125) hx hb dX5_readBox_118 (by decide) (fun c118 => ?_) (fun c118 => ?_)
    · have h := mif_n h c118
      exact w_X5_readBox_b125 hs k60 hk60 i1 i2 i3 i4 i5 i6 j7 i9 i10 M h H locs ls hR hS (lv_sub hl [1, 2, 3, 4, 5, 6, 7, 8, 9] rfl)
    · have h := mif_y h c118
      refine lv_iload_n hx hb dX5_readBox_121 rfl (lv_at hl 2 rfl) ?_
      refine lv_if_ne (tgt := 142) hx hb dX5_readBox_122 (by decide) (fun c122 => ?_) (fun c122 => ?_)
      · have h := mif_n h c122
        obtain ⟨x142, ex142⟩ : ∃ y : Int32, y = (i10 + 1) := ⟨_, rfl⟩
        have h := mlt_n h x142 ex142
        refine lv_iinc (v := x142) (lv' := [(10, .int x142), (11, .int s0), (1, .int i1), (2, .int i2), (3, .int i3), (4, .int i4), (5, .int i5), (6, .int i6), (7, .long j7), (9, .int i9)]) hx hb dX5_readBox_142 hl (k := 9) rfl (by rw [ex142]; rfl) (by decide) rfl (fun ls hl => ?_)
        refine lv_goto (tgt := 60) hx hb dX5_readBox_145 (by decide) ?_
        exact hk60 i1 i2 i3 i4 i5 i6 j7 i9 x142 M h H locs ls hR hS (lv_sub hl [2, 3, 4, 5, 6, 7, 8, 9, 0] rfl)
      · have h := mif_y h c122
        exact w_X5_readBox_b125 hs k60 hk60 i1 i2 i3 i4 i5 i6 j7 i9 i10 M h H locs ls hR hS (lv_sub hl [1, 2, 3, 4, 5, 6, 7, 8, 9] rfl)
set_option maxRecDepth 100000 in
set_option maxHeartbeats 4000000 in
theorem w_X5_readBox_b60 {l : Launch} {X : mX} {p : Program} {e : Env} {s : State} {m : MethodId} {args : Array Value} {below : List Frame} {meth : Method} {c : Code} {r : Int64 × mM} (hs : mS X RX5 cX5_readBox 12 (some .long) p s m meth c) (k42 : Int32 → Int32 → Int32 → Int32 → Int32 → Int32 → Int64 → Int32 → mM → Option (Int64 × mM)) (hk42 : ∀ (i1 : Int32) (i2 : Int32) (i3 : Int32) (i4 : Int32) (i5 : Int32) (i6 : Int32) (j7 : Int64) (i9 : Int32) (M : mM), k42 i1 i2 i3 i4 i5 i6 j7 i9 M = some r → mG X p l e (rmF 2 43) s m args below meth c (MQ below (mQl X r.2 r.1) args s 0 0 (mL X)) 12 42 [(1, .int i1), (2, .int i2), (3, .int i3), (4, .int i4), (5, .int i5), (6, .int i6), (7, .long j7), (9, .int i9)] [] M) : ∀ n : Nat, ∀ (i1 : Int32) (i2 : Int32) (i3 : Int32) (i4 : Int32) (i5 : Int32) (i6 : Int32) (j7 : Int64) (i9 : Int32) (i10 : Int32) (M : mM), f_X5_readBox_b60 k42 n i1 i2 i3 i4 i5 i6 j7 i9 i10 M = some r → mG X p l e (rmF 2 43) s m args below meth c (MQ below (mQl X r.2 r.1) args s 0 0 (mL X)) 12 60 [(1, .int i1), (2, .int i2), (3, .int i3), (4, .int i4), (5, .int i5), (6, .int i6), (7, .long j7), (9, .int i9), (10, .int i10)] [] M := by
  obtain ⟨hx, hb, hml, hown, hF, hlk, hr⟩ := id hs
  intro n
  induction n with
  | zero =>
    intro i1 i2 i3 i4 i5 i6 j7 i9 i10 M h
    have h0 : (none : Option (Int64 × mM)) = some r := h
    cases h0
  | succ n ih =>
    intro i1 i2 i3 i4 i5 i6 j7 i9 i10 M h H locs ls hR hS hl
    refine lv_iload hx hb dX5_readBox_60 (lv_at hl 8 rfl) ?_
    refine lv_iload hx hb dX5_readBox_62 (lv_at hl 5 rfl) ?_
    refine lv_icmp_gt (tgt := 148) hx hb dX5_readBox_64 (by decide) (fun c64 => ?_) (fun c64 => ?_)
    · have h := mif_y h c64
      obtain ⟨x148, ex148⟩ : ∃ y : Int32, y = (i9 + 1) := ⟨_, rfl⟩
      have h := mlt_n h x148 ex148
      refine lv_iinc (v := x148) (lv' := [(9, .int x148), (1, .int i1), (2, .int i2), (3, .int i3), (4, .int i4), (5, .int i5), (6, .int i6), (7, .long j7), (10, .int i10)]) hx hb dX5_readBox_148 hl (k := 7) rfl (by rw [ex148]; rfl) (by decide) rfl (fun ls hl => ?_)
      refine lv_goto (tgt := 42) hx hb dX5_readBox_151 (by decide) ?_
      exact hk42 i1 i2 i3 i4 i5 i6 j7 x148 M h H locs ls hR hS (lv_sub hl [1, 2, 3, 4, 5, 6, 7, 0] rfl)
    · have h := mif_n h c64
      refine lv_iload hx hb dX5_readBox_67 (lv_at hl 8 rfl) ?_
      refine lv_bipush (v := 8) hx hb dX5_readBox_69 (by decide) ?_
      refine lv_icmp_ge (tgt := 148) hx hb dX5_readBox_71 (by decide) (fun c71 => ?_) (fun c71 => ?_)
      · have h := mif_y h c71
        obtain ⟨x148, ex148⟩ : ∃ y : Int32, y = (i9 + 1) := ⟨_, rfl⟩
        have h := mlt_n h x148 ex148
        refine lv_iinc (v := x148) (lv' := [(9, .int x148), (1, .int i1), (2, .int i2), (3, .int i3), (4, .int i4), (5, .int i5), (6, .int i6), (7, .long j7), (10, .int i10)]) hx hb dX5_readBox_148 hl (k := 7) rfl (by rw [ex148]; rfl) (by decide) rfl (fun ls hl => ?_)
        refine lv_goto (tgt := 42) hx hb dX5_readBox_151 (by decide) ?_
        exact hk42 i1 i2 i3 i4 i5 i6 j7 x148 M h H locs ls hR hS (lv_sub hl [1, 2, 3, 4, 5, 6, 7, 0] rfl)
      · have h := mif_n h c71
        refine lv_iload hx hb dX5_readBox_74 (lv_at hl 7 rfl) ?_
        refine lv_iload_n hx hb dX5_readBox_76 rfl (lv_at hl 2 rfl) ?_
        refine lv_icmp_eq (tgt := 101) hx hb dX5_readBox_77 (by decide) (fun c77 => ?_) (fun c77 => ?_)
        · have h := mif_y h c77
          refine lv_iconst (v := 1) hx hb dX5_readBox_101 (by decide) ?_
          refine lv_goto (tgt := 106) hx hb dX5_readBox_102 (by decide) ?_
          exact w_X5_readBox_b106 hs (f_X5_readBox_b60 k42 n) ih i1 i2 i3 i4 i5 i6 j7 i9 i10 1 M h H locs ls hR hS (lv_sub hl [0, 1, 2, 3, 4, 5, 6, 7, 8] rfl)
        · have h := mif_n h c77
          refine lv_iload hx hb dX5_readBox_80 (lv_at hl 7 rfl) ?_
          refine lv_iload hx hb dX5_readBox_82 (lv_at hl 4 rfl) ?_
          refine lv_icmp_eq (tgt := 101) hx hb dX5_readBox_84 (by decide) (fun c84 => ?_) (fun c84 => ?_)
          · have h := mif_y h c84
            refine lv_iconst (v := 1) hx hb dX5_readBox_101 (by decide) ?_
            refine lv_goto (tgt := 106) hx hb dX5_readBox_102 (by decide) ?_
            exact w_X5_readBox_b106 hs (f_X5_readBox_b60 k42 n) ih i1 i2 i3 i4 i5 i6 j7 i9 i10 1 M h H locs ls hR hS (lv_sub hl [0, 1, 2, 3, 4, 5, 6, 7, 8] rfl)
          · have h := mif_n h c84
            refine lv_iload hx hb dX5_readBox_87 (lv_at hl 8 rfl) ?_
            refine lv_iload hx hb dX5_readBox_89 (lv_at hl 3 rfl) ?_
            refine lv_icmp_eq (tgt := 101) hx hb dX5_readBox_91 (by decide) (fun c91 => ?_) (fun c91 => ?_)
            · have h := mif_y h c91
              refine lv_iconst (v := 1) hx hb dX5_readBox_101 (by decide) ?_
              refine lv_goto (tgt := 106) hx hb dX5_readBox_102 (by decide) ?_
              exact w_X5_readBox_b106 hs (f_X5_readBox_b60 k42 n) ih i1 i2 i3 i4 i5 i6 j7 i9 i10 1 M h H locs ls hR hS (lv_sub hl [0, 1, 2, 3, 4, 5, 6, 7, 8] rfl)
            · have h := mif_n h c91
              refine lv_iload hx hb dX5_readBox_94 (lv_at hl 8 rfl) ?_
              refine lv_iload hx hb dX5_readBox_96 (lv_at hl 5 rfl) ?_
              refine lv_icmp_ne (tgt := 105) hx hb dX5_readBox_98 (by decide) (fun c98 => ?_) (fun c98 => ?_)
              · have h := mif_n h c98
                refine lv_iconst (v := 0) hx hb dX5_readBox_105 (by decide) ?_
                exact w_X5_readBox_b106 hs (f_X5_readBox_b60 k42 n) ih i1 i2 i3 i4 i5 i6 j7 i9 i10 0 M h H locs ls hR hS (lv_sub hl [0, 1, 2, 3, 4, 5, 6, 7, 8] rfl)
              · have h := mif_y h c98
                refine lv_iconst (v := 1) hx hb dX5_readBox_101 (by decide) ?_
                refine lv_goto (tgt := 106) hx hb dX5_readBox_102 (by decide) ?_
                exact w_X5_readBox_b106 hs (f_X5_readBox_b60 k42 n) ih i1 i2 i3 i4 i5 i6 j7 i9 i10 1 M h H locs ls hR hS (lv_sub hl [0, 1, 2, 3, 4, 5, 6, 7, 8] rfl)
set_option maxRecDepth 100000 in
set_option maxHeartbeats 4000000 in
theorem w_X5_readBox_b42 {l : Launch} {X : mX} {p : Program} {e : Env} {s : State} {m : MethodId} {args : Array Value} {below : List Frame} {meth : Method} {c : Code} {r : Int64 × mM} (hs : mS X RX5 cX5_readBox 12 (some .long) p s m meth c) : ∀ n : Nat, ∀ (i1 : Int32) (i2 : Int32) (i3 : Int32) (i4 : Int32) (i5 : Int32) (i6 : Int32) (j7 : Int64) (i9 : Int32) (M : mM), f_X5_readBox_b42 n i1 i2 i3 i4 i5 i6 j7 i9 M = some r → mG X p l e (rmF 2 43) s m args below meth c (MQ below (mQl X r.2 r.1) args s 0 0 (mL X)) 12 42 [(1, .int i1), (2, .int i2), (3, .int i3), (4, .int i4), (5, .int i5), (6, .int i6), (7, .long j7), (9, .int i9)] [] M := by
  obtain ⟨hx, hb, hml, hown, hF, hlk, hr⟩ := id hs
  intro n
  induction n with
  | zero =>
    intro i1 i2 i3 i4 i5 i6 j7 i9 M h
    have h0 : (none : Option (Int64 × mM)) = some r := h
    cases h0
  | succ n ih =>
    intro i1 i2 i3 i4 i5 i6 j7 i9 M h H locs ls hR hS hl
    refine lv_iload hx hb dX5_readBox_42 (lv_at hl 7 rfl) ?_
    refine lv_iload hx hb dX5_readBox_44 (lv_at hl 4 rfl) ?_
    refine lv_icmp_gt (tgt := 154) hx hb dX5_readBox_46 (by decide) (fun c46 => ?_) (fun c46 => ?_)
    · have h := mif_y h c46
      refine lv_lload hx hb dX5_readBox_154 (lv_at hl 6 rfl) ?_
      exact m_lr hx hb hlk hr hR hS (Option.some.inj h).symm dX5_readBox_156
    · have h := mif_n h c46
      refine lv_iload hx hb dX5_readBox_49 (lv_at hl 7 rfl) ?_
      refine lv_bipush (v := 10) hx hb dX5_readBox_51 (by decide) ?_
      refine lv_icmp_ge (tgt := 154) hx hb dX5_readBox_53 (by decide) (fun c53 => ?_) (fun c53 => ?_)
      · have h := mif_y h c53
        refine lv_lload hx hb dX5_readBox_154 (lv_at hl 6 rfl) ?_
        exact m_lr hx hb hlk hr hR hS (Option.some.inj h).symm dX5_readBox_156
      · have h := mif_n h c53
        refine lv_iload hx hb dX5_readBox_56 (lv_at hl 3 rfl) ?_
        refine lv_istore (lv' := [(10, .int i4), (1, .int i1), (2, .int i2), (3, .int i3), (4, .int i4), (5, .int i5), (6, .int i6), (7, .long j7), (9, .int i9)]) hx hb dX5_readBox_58 hl (by decide) rfl (fun ls hl => ?_)
        exact w_X5_readBox_b60 hs (f_X5_readBox_b42 n) ih mN i1 i2 i3 i4 i5 i6 j7 i9 i4 M h H locs ls hR hS (lv_sub hl [1, 2, 3, 4, 5, 6, 7, 8, 0] rfl)
set_option maxRecDepth 100000 in
set_option maxHeartbeats 4000000 in
theorem w_X5_readBox {l : Launch} {X : mX} {p : Program} {e : Env} {s : State} {m : MethodId} {args : Array Value} {below : List Frame} {meth : Method} {c : Code} {r : Int64 × mM} (hs : mS X RX5 cX5_readBox 12 (some .long) p s m meth c) : ∀ (i1 : Int32) (i2 : Int32) (M : mM), f_X5_readBox i1 i2 M = some r → mG X p l e (rmF 2 43) s m args below meth c (MQ below (mQl X r.2 r.1) args s 0 0 (mL X)) 12 0 [(0, .ref (X.1 77)), (1, .int i1), (2, .int i2)] [] M := by
  obtain ⟨hx, hb, hml, hown, hF, hlk, hr⟩ := id hs
  intro i1 i2 M h H locs ls hR hS hl
  refine lv_aload_n hx hb dX5_readBox_0 rfl (lv_at hl 0 rfl) ?_
  refine lv_iconst (v := 0) hx hb dX5_readBox_1 (by decide) ?_
  refine lv_bipush (v := 9) hx hb dX5_readBox_2 (by decide) ?_
  obtain ⟨v4, M4, q4, h⟩ := mbw_e h
  refine m_ci (m_rU hx hb hml hown hF hR hS (ent5 kd_77) kd_77 rfl (c_X7_demandDigit l X 77 0 9 isReader_77 M q4) q_X5_68_UX5 rfl hdU_X7_demandDigit ⟨Nat.le_of_ble_eq_true rfl, Nat.le_of_ble_eq_true rfl⟩ rfl hl.1 rfl (Nat.le_of_ble_eq_true rfl) dX5_readBox_4) hS (fun H locs hR hS => ?_)
  refine lv_istore_n (lv' := [(3, .int v4), (0, .ref (X.1 77)), (1, .int i1), (2, .int i2)]) hx hb dX5_readBox_7 rfl hl (by decide) rfl (fun ls hl => ?_)
  refine lv_aload_n hx hb dX5_readBox_8 rfl (lv_at hl 1 rfl) ?_
  refine lv_iconst (v := 0) hx hb dX5_readBox_9 (by decide) ?_
  refine lv_bipush (v := 7) hx hb dX5_readBox_10 (by decide) ?_
  obtain ⟨v12, M12, q12, h⟩ := mbw_e h
  refine m_ci (m_rU hx hb hml hown hF hR hS (ent5 kd_77) kd_77 rfl (c_X7_demandDigit l X 77 0 7 isReader_77 M4 q12) q_X5_68_UX5 rfl hdU_X7_demandDigit ⟨Nat.le_of_ble_eq_true rfl, Nat.le_of_ble_eq_true rfl⟩ rfl hl.1 rfl (Nat.le_of_ble_eq_true rfl) dX5_readBox_12) hS (fun H locs hR hS => ?_)
  refine lv_istore (lv' := [(4, .int v12), (3, .int v4), (0, .ref (X.1 77)), (1, .int i1), (2, .int i2)]) hx hb dX5_readBox_15 hl (by decide) rfl (fun ls hl => ?_)
  refine lv_aload_n hx hb dX5_readBox_17 rfl (lv_at hl 2 rfl) ?_
  refine lv_iload_n hx hb dX5_readBox_18 rfl (lv_at hl 1 rfl) ?_
  refine lv_bipush (v := 9) hx hb dX5_readBox_19 (by decide) ?_
  obtain ⟨v21, M21, q21, h⟩ := mbw_e h
  refine m_ci (m_rU hx hb hml hown hF hR hS (ent5 kd_77) kd_77 rfl (c_X7_demandDigit l X 77 v4 9 isReader_77 M12 q21) q_X5_68_UX5 rfl hdU_X7_demandDigit ⟨Nat.le_of_ble_eq_true rfl, Nat.le_of_ble_eq_true rfl⟩ rfl hl.1 rfl (Nat.le_of_ble_eq_true rfl) dX5_readBox_21) hS (fun H locs hR hS => ?_)
  refine lv_istore (lv' := [(5, .int v21), (4, .int v12), (3, .int v4), (0, .ref (X.1 77)), (1, .int i1), (2, .int i2)]) hx hb dX5_readBox_24 hl (by decide) rfl (fun ls hl => ?_)
  refine lv_aload_n hx hb dX5_readBox_26 rfl (lv_at hl 3 rfl) ?_
  refine lv_iload hx hb dX5_readBox_27 (lv_at hl 1 rfl) ?_
  refine lv_bipush (v := 7) hx hb dX5_readBox_29 (by decide) ?_
  obtain ⟨v31, M31, q31, h⟩ := mbw_e h
  refine m_ci (m_rU hx hb hml hown hF hR hS (ent5 kd_77) kd_77 rfl (c_X7_demandDigit l X 77 v12 7 isReader_77 M21 q31) q_X5_68_UX5 rfl hdU_X7_demandDigit ⟨Nat.le_of_ble_eq_true rfl, Nat.le_of_ble_eq_true rfl⟩ rfl hl.1 rfl (Nat.le_of_ble_eq_true rfl) dX5_readBox_31) hS (fun H locs hR hS => ?_)
  refine lv_istore (lv' := [(6, .int v31), (5, .int v21), (4, .int v12), (3, .int v4), (0, .ref (X.1 77)), (1, .int i1), (2, .int i2)]) hx hb dX5_readBox_34 hl (by decide) rfl (fun ls hl => ?_)
  refine lv_lconst (v := 0) hx hb dX5_readBox_36 (by decide) ?_
  refine lv_lstore (lv' := [(7, .long 0), (6, .int v31), (5, .int v21), (4, .int v12), (3, .int v4), (0, .ref (X.1 77)), (1, .int i1), (2, .int i2)]) hx hb dX5_readBox_37 hl (by decide) rfl (fun ls hl => ?_)
  refine lv_iload_n hx hb dX5_readBox_39 rfl (lv_at hl 4 rfl) ?_
  refine lv_istore (lv' := [(9, .int v4), (7, .long 0), (6, .int v31), (5, .int v21), (4, .int v12), (3, .int v4), (0, .ref (X.1 77)), (1, .int i1), (2, .int i2)]) hx hb dX5_readBox_40 hl (by decide) rfl (fun ls hl => ?_)
  exact w_X5_readBox_b42 hs mN i1 i2 v4 v12 v21 v31 0 v4 M31 h H locs ls hR hS (lv_sub hl [7, 8, 5, 4, 3, 2, 1, 0] rfl)
theorem c_X5_readBox (l : Launch) (X : mX) (i1 : Int32) (i2 : Int32) (M : mM) {r : Int64 × mM} (h : f_X5_readBox i1 i2 M = some r) : mMl l yX5_readBox cX5_readBox 12 2 43 X [.ref (X.1 77), .int i1, .int i2] M r := m_ofl (by decide +kernel) (Nat.le_of_ble_eq_true rfl) rfl (fun p e s m args below meth c hs => w_X5_readBox hs i1 i2 M h)
set_option maxRecDepth 100000 in
set_option maxHeartbeats 4000000 in
theorem w_X7_isPlusOrMinus {l : Launch} {X : mX} {p : Program} {e : Env} {s : State} {m : MethodId} {args : Array Value} {below : List Frame} {meth : Method} {c : Code} {M : mM} {r : Int32} (hs : mS X RX7 cX7_isPlusOrMinus 1 (some .boolean) p s m meth c) : ∀ (b : Nat) (h_b : isReader b), f_X7_isPlusOrMinus b M = some r → mG X p l e (rmF 1 20) s m args below meth c (MQ below (mQi X M r) args s 0 0 (mL X)) 1 0 [(0, .ref (X.1 b))] [] M := by
  obtain ⟨hx, hb, hml, hown, hF, hlk, hr⟩ := id hs
  intro b h_b h H locs ls hR hS hl
  refine lv_aload_n hx hb dX7_isPlusOrMinus_0 rfl (lv_at hl 0 rfl) ?_
  obtain ⟨v1, q1, h⟩ := mbp_e h
  refine m_ci (m_rU3 hx hb hml hown hF hR hS h_b (c_X7_look l X b h_b M q1) q_X7_28_UX1 q_X7_28_UX4 q_X7_28_UX5 rfl hdU_X7_look ⟨Nat.le_of_ble_eq_true rfl, Nat.le_of_ble_eq_true rfl⟩ rfl hl.1 rfl (Nat.le_of_ble_eq_true rfl) dX7_isPlusOrMinus_1) hS (fun H locs hR hS => ?_)
  refine lv_bipush (v := 43) hx hb dX7_isPlusOrMinus_4 (by decide) ?_
  refine lv_icmp_eq (tgt := 18) hx hb dX7_isPlusOrMinus_6 (by decide) (fun c6 => ?_) (fun c6 => ?_)
  · have h := mif_y h c6
    refine lv_iconst (v := 1) hx hb dX7_isPlusOrMinus_18 (by decide) ?_
    refine lv_goto (tgt := 23) hx hb dX7_isPlusOrMinus_19 (by decide) ?_
    exact m_zr hx hb hlk hr hR hS (Or.inr rfl) (congrArg (fun z => (z, M)) (Option.some.inj h).symm) dX7_isPlusOrMinus_23
  · have h := mif_n h c6
    refine lv_aload_n hx hb dX7_isPlusOrMinus_9 rfl (lv_at hl 0 rfl) ?_
    obtain ⟨v10, q10, h⟩ := mbp_e h
    refine m_ci (m_rU3 hx hb hml hown hF hR hS h_b (c_X7_look l X b h_b M q10) q_X7_28_UX1 q_X7_28_UX4 q_X7_28_UX5 rfl hdU_X7_look ⟨Nat.le_of_ble_eq_true rfl, Nat.le_of_ble_eq_true rfl⟩ rfl hl.1 rfl (Nat.le_of_ble_eq_true rfl) dX7_isPlusOrMinus_10) hS (fun H locs hR hS => ?_)
    refine lv_bipush (v := 45) hx hb dX7_isPlusOrMinus_13 (by decide) ?_
    refine lv_icmp_ne (tgt := 22) hx hb dX7_isPlusOrMinus_15 (by decide) (fun c15 => ?_) (fun c15 => ?_)
    · have h := mif_n h c15
      refine lv_iconst (v := 0) hx hb dX7_isPlusOrMinus_22 (by decide) ?_
      exact m_zr hx hb hlk hr hR hS (Or.inl rfl) (congrArg (fun z => (z, M)) (Option.some.inj h).symm) dX7_isPlusOrMinus_23
    · have h := mif_y h c15
      refine lv_iconst (v := 1) hx hb dX7_isPlusOrMinus_18 (by decide) ?_
      refine lv_goto (tgt := 23) hx hb dX7_isPlusOrMinus_19 (by decide) ?_
      exact m_zr hx hb hlk hr hR hS (Or.inr rfl) (congrArg (fun z => (z, M)) (Option.some.inj h).symm) dX7_isPlusOrMinus_23
theorem c_X7_isPlusOrMinus (l : Launch) (X : mX) (b : Nat) (h_b : isReader b) (M : mM) {r : Int32} (h : f_X7_isPlusOrMinus b M = some r) : mMi l yX7_isPlusOrMinus cX7_isPlusOrMinus 1 (some .boolean) 1 20 X [.ref (X.1 b)] M (r, M) := m_ofi (by decide +kernel) (Nat.le_of_ble_eq_true rfl) rfl (fun p e s m args below meth c hs => w_X7_isPlusOrMinus hs b h_b h)
set_option maxRecDepth 100000 in
set_option maxHeartbeats 4000000 in
theorem w_X7_take {l : Launch} {X : mX} {p : Program} {e : Env} {s : State} {m : MethodId} {args : Array Value} {below : List Frame} {meth : Method} {c : Code} {r : Int32 × mM} (hs : mS X RX7 cX7_take 2 (some .int) p s m meth c) : ∀ (b : Nat) (h_b : isReader b) (M : mM), f_X7_take b M = some r → mG X p l e (rmF 1 20) s m args below meth c (MQ below (mQi X r.2 r.1) args s 0 0 (mL X)) 2 0 [(0, .ref (X.1 b))] [] M := by
  obtain ⟨hx, hb, hml, hown, hF, hlk, hr⟩ := id hs
  intro b h_b M h H locs ls hR hS hl
  refine lv_aload_n hx hb dX7_take_0 rfl (lv_at hl 0 rfl) ?_
  obtain ⟨v1, q1, h⟩ := mbp_e h
  refine m_ci (m_rU3 hx hb hml hown hF hR hS h_b (c_X7_look l X b h_b M q1) q_X7_28_UX1 q_X7_28_UX4 q_X7_28_UX5 rfl hdU_X7_look ⟨Nat.le_of_ble_eq_true rfl, Nat.le_of_ble_eq_true rfl⟩ rfl hl.1 rfl (Nat.le_of_ble_eq_true rfl) dX7_take_1) hS (fun H locs hR hS => ?_)
  refine lv_istore_n (lv' := [(1, .int v1), (0, .ref (X.1 b))]) hx hb dX7_take_4 rfl hl (by decide) rfl (fun ls hl => ?_)
  refine lv_iload_n hx hb dX7_take_5 rfl (lv_at hl 0 rfl) ?_
  refine lv_sipush (v := (-1000)) hx hb dX7_take_6 (by decide) ?_
  refine lv_icmp_eq (tgt := 22) hx hb dX7_take_9 (by decide) (fun c9 => ?_) (fun c9 => ?_)
  · have h := mif_y h c9
    refine lv_iload_n hx hb dX7_take_22 rfl (lv_at hl 0 rfl) ?_
    exact m_ir hx hb hlk hr hR hS (Option.some.inj h).symm dX7_take_23
  · have h := mif_n h c9
    refine lv_aload_n hx hb dX7_take_12 rfl (lv_at hl 1 rfl) ?_
    refine lv_dup hx hb dX7_take_13 rfl ?_
    refine m_getR2 hx hb hF hown hR h_b mw_1_206 dX7_take_14 ?_
    refine lv_iconst (v := 1) hx hb dX7_take_17 (by decide) ?_
    refine lv_iadd hx hb dX7_take_18 ?_
    obtain ⟨M19, eM19⟩ : ∃ y : mM, y = mI M b 2 ((M.1 b 2) + 1) := ⟨_, rfl⟩
    have h := mlt_n h M19 eM19
    refine m_putR2 hx hb hF hown hR hS h_b mw_1_206 dX7_take_19 eM19 (fun H locs hR hS => ?_)
    refine lv_iload_n hx hb dX7_take_22 rfl (lv_at hl 0 rfl) ?_
    exact m_ir hx hb hlk hr hR hS (Option.some.inj h).symm dX7_take_23
theorem c_X7_take (l : Launch) (X : mX) (b : Nat) (h_b : isReader b) (M : mM) {r : Int32 × mM} (h : f_X7_take b M = some r) : mMi l yX7_take cX7_take 2 (some .int) 1 20 X [.ref (X.1 b)] M r := m_ofi (by decide +kernel) (Nat.le_of_ble_eq_true rfl) rfl (fun p e s m args below meth c hs => w_X7_take hs b h_b M h)
set_option maxRecDepth 100000 in
set_option maxHeartbeats 4000000 in
theorem w_X7_atEnd {l : Launch} {X : mX} {p : Program} {e : Env} {s : State} {m : MethodId} {args : Array Value} {below : List Frame} {meth : Method} {c : Code} {M : mM} {r : Int32} (hs : mS X RX7 cX7_atEnd 1 (some .boolean) p s m meth c) : ∀ (b : Nat) (h_b : isReader b), f_X7_atEnd b M = r → mG X p l e (rmF 0 0) s m args below meth c (MQ below (mQi X M r) args s 0 0 (mL X)) 1 0 [(0, .ref (X.1 b))] [] M := by
  obtain ⟨hx, hb, hml, hown, hF, hlk, hr⟩ := id hs
  intro b h_b h H locs ls hR hS hl
  refine lv_aload_n hx hb dX7_atEnd_0 rfl (lv_at hl 0 rfl) ?_
  refine m_getR2 hx hb hF hown hR h_b mw_1_206 dX7_atEnd_1 ?_
  refine lv_aload_n hx hb dX7_atEnd_4 rfl (lv_at hl 0 rfl) ?_
  refine m_getR1 hx hb hF hown hR h_b mw_1_205 dX7_atEnd_5 ?_
  refine lv_icmp_lt (tgt := 15) hx hb dX7_atEnd_8 (by decide) (fun c8 => ?_) (fun c8 => ?_)
  · have h := mif_y h c8
    refine lv_iconst (v := 0) hx hb dX7_atEnd_15 (by decide) ?_
    exact m_zr hx hb hlk hr hR hS (Or.inl rfl) (congrArg (fun z => (z, M)) h.symm) dX7_atEnd_16
  · have h := mif_n h c8
    refine lv_iconst (v := 1) hx hb dX7_atEnd_11 (by decide) ?_
    refine lv_goto (tgt := 16) hx hb dX7_atEnd_12 (by decide) ?_
    exact m_zr hx hb hlk hr hR hS (Or.inr rfl) (congrArg (fun z => (z, M)) h.symm) dX7_atEnd_16
theorem c_X7_atEnd (l : Launch) (X : mX) (b : Nat) (h_b : isReader b) (M : mM) : mMi l yX7_atEnd cX7_atEnd 1 (some .boolean) 0 0 X [.ref (X.1 b)] M (f_X7_atEnd b M, M) := m_ofi (by decide +kernel) (Nat.le_of_ble_eq_true rfl) rfl (fun p e s m args below meth c hs => w_X7_atEnd hs b h_b rfl)
set_option maxRecDepth 100000 in
set_option maxHeartbeats 4000000 in
theorem w_X7_failUnlessAtEnd {l : Launch} {X : mX} {p : Program} {e : Env} {s : State} {m : MethodId} {args : Array Value} {below : List Frame} {meth : Method} {c : Code} {r : mM} (hs : mS X RX7 cX7_failUnlessAtEnd 1 none p s m meth c) : ∀ (b : Nat) (h_b : isReader b) (M : mM), f_X7_failUnlessAtEnd b M = some r → mG X p l e (rmF 1 20) s m args below meth c (MQ below (mQv X r) args s 0 0 (mL X)) 1 0 [(0, .ref (X.1 b))] [] M := by
  obtain ⟨hx, hb, hml, hown, hF, hlk, hr⟩ := id hs
  intro b h_b M h H locs ls hR hS hl
  refine lv_aload_n hx hb dX7_failUnlessAtEnd_0 rfl (lv_at hl 0 rfl) ?_
  refine m_ci (m_rU3 hx hb hml hown hF hR hS h_b (c_X7_atEnd l X b h_b M) q_X7_39_UX1 q_X7_39_UX4 q_X7_39_UX5 rfl hdU_X7_atEnd ⟨Nat.le_of_ble_eq_true rfl, Nat.le_of_ble_eq_true rfl⟩ rfl hl.1 rfl (Nat.le_of_ble_eq_true rfl) dX7_failUnlessAtEnd_1) hS (fun H locs hR hS => ?_)
  refine lv_if_ne (tgt := 11) hx hb dX7_failUnlessAtEnd_4 (by decide) (fun c4 => ?_) (fun c4 => ?_)
  · have h := mif_n h c4
    exact m_vr hx hb hlk hr hR hS (Option.some.inj h).symm dX7_failUnlessAtEnd_11
  · have h := mif_y h c4
    refine lv_aload_n hx hb dX7_failUnlessAtEnd_7 rfl (lv_at hl 0 rfl) ?_
    obtain ⟨M8, q8, h⟩ := mbp_e h
    refine m_cv (m_rU3 hx hb hml hown hF hR hS h_b (c_X7_fail l X b h_b M q8) q_X7_36_UX1 q_X7_36_UX4 q_X7_36_UX5 rfl hdU_X7_fail ⟨Nat.le_of_ble_eq_true rfl, Nat.le_of_ble_eq_true rfl⟩ rfl hl.1 rfl (Nat.le_of_ble_eq_true rfl) dX7_failUnlessAtEnd_8) hS (fun H locs hR hS => ?_)
    exact m_vr hx hb hlk hr hR hS (Option.some.inj h).symm dX7_failUnlessAtEnd_11
theorem c_X7_failUnlessAtEnd (l : Launch) (X : mX) (b : Nat) (h_b : isReader b) (M : mM) {r : mM} (h : f_X7_failUnlessAtEnd b M = some r) : mMv l yX7_failUnlessAtEnd cX7_failUnlessAtEnd 1 1 20 X [.ref (X.1 b)] M r := m_ofv (by decide +kernel) (Nat.le_of_ble_eq_true rfl) rfl (fun p e s m args below meth c hs => w_X7_failUnlessAtEnd hs b h_b M h)
set_option maxRecDepth 100000 in
set_option maxHeartbeats 4000000 in
theorem w_X5_readBoxOrBracket_b32 {l : Launch} {X : mX} {p : Program} {e : Env} {s : State} {m : MethodId} {args : Array Value} {below : List Frame} {meth : Method} {c : Code} {r : Int64 × mM} (hs : mS X RX5 cX5_readBoxOrBracket 5 (some .long) p s m meth c) (d : Nat) (slf : Int32 → Int32 → mM → Option (Int64 × mM)) (hslf : ∀ (i1 : Int32) (i2 : Int32) (M : mM) (r : Int64 × mM), slf i1 i2 M = some r → mMl l yX5_readParts cX5_readParts 9 (20 + 10 * d) (2000 + 200 * d) X [.ref (X.1 77), .int i1, .int i2] M r) : ∀ (i2 : Int32) (M : mM), f_X5_readBoxOrBracket_b32 slf i2 M = some r → mG X p l e (rmF (22 + 10 * d) (2060 + 200 * d)) s m args below meth c (MQ below (mQl X r.2 r.1) args s 0 0 (mL X)) 5 32 [(0, .ref (X.1 77)), (2, .int i2)] [] M := by
  obtain ⟨hx, hb, hml, hown, hF, hlk, hr⟩ := id hs
  intro i2 M h H locs ls hR hS hl
  refine lv_aload_n hx hb dX5_readBoxOrBracket_32 rfl (lv_at hl 0 rfl) ?_
  refine lv_bipush (v := 98) hx hb dX5_readBoxOrBracket_33 (by decide) ?_
  obtain ⟨v35, M35, q35, h⟩ := mbw_e h
  refine m_ci (m_rU hx hb hml hown hF hR hS (ent5 kd_77) kd_77 rfl (c_X7_takeIf l X 77 98 isReader_77 M q35) q_X5_48_UX5 rfl hdU_X7_takeIf ⟨by simp only [rmF]; omega, by simp only [rmF]; omega⟩ rfl hl.1 rfl (Nat.le_of_ble_eq_true rfl) dX5_readBoxOrBracket_35) hS (fun H locs hR hS => ?_)
  refine lv_if_eq (tgt := 48) hx hb dX5_readBoxOrBracket_38 (by decide) (fun c38 => ?_) (fun c38 => ?_)
  · have h := mif_y h c38
    refine lv_aload_n hx hb dX5_readBoxOrBracket_48 rfl (lv_at hl 0 rfl) ?_
    refine lv_bipush (v := 111) hx hb dX5_readBoxOrBracket_49 (by decide) ?_
    obtain ⟨v51, M51, q51, h⟩ := mbw_e h
    refine m_ci (m_rU hx hb hml hown hF hR hS (ent5 kd_77) kd_77 rfl (c_X7_takeIf l X 77 111 isReader_77 M35 q51) q_X5_48_UX5 rfl hdU_X7_takeIf ⟨by simp only [rmF]; omega, by simp only [rmF]; omega⟩ rfl hl.1 rfl (Nat.le_of_ble_eq_true rfl) dX5_readBoxOrBracket_51) hS (fun H locs hR hS => ?_)
    refine lv_if_eq (tgt := 64) hx hb dX5_readBoxOrBracket_54 (by decide) (fun c54 => ?_) (fun c54 => ?_)
    · have h := mif_y h c54
      refine lv_aload_n hx hb dX5_readBoxOrBracket_64 rfl (lv_at hl 0 rfl) ?_
      obtain ⟨M65, q65, h⟩ := mbp_e h
      refine m_cv (m_rU hx hb hml hown hF hR hS (ent5 kd_77) kd_77 rfl (c_X7_fail l X 77 isReader_77 M51 q65) q_X5_65_UX5 rfl hdU_X7_fail ⟨by simp only [rmF]; omega, by simp only [rmF]; omega⟩ rfl hl.1 rfl (Nat.le_of_ble_eq_true rfl) dX5_readBoxOrBracket_65) hS (fun H locs hR hS => ?_)
      refine lv_lconst (v := 0) hx hb dX5_readBoxOrBracket_68 (by decide) ?_
      exact m_lr hx hb hlk hr hR hS (Option.some.inj h).symm dX5_readBoxOrBracket_69
    · have h := mif_n h c54
      refine lv_aload_n hx hb dX5_readBoxOrBracket_57 rfl (lv_at hl 0 rfl) ?_
      refine lv_iload_n hx hb dX5_readBoxOrBracket_58 rfl (lv_at hl 1 rfl) ?_
      refine lv_iconst (v := 1) hx hb dX5_readBoxOrBracket_59 (by decide) ?_
      obtain ⟨v60, M60, q60, h⟩ := mbw_e h
      refine m_cl (m_rV hx hb hml hown hF hR hS (ent5 kd_77) kd_77 rfl (c_X5_readBox l X i2 1 M51 q60) q_X5_61_V hdV_X5_readBox ⟨by simp only [rmF]; omega, by simp only [rmF]; omega⟩ rfl hl.1 rfl (Nat.le_of_ble_eq_true rfl) dX5_readBoxOrBracket_60) hS (fun H locs hR hS => ?_)
      exact m_lr hx hb hlk hr hR hS (Option.some.inj h).symm dX5_readBoxOrBracket_63
  · have h := mif_n h c38
    refine lv_aload_n hx hb dX5_readBoxOrBracket_41 rfl (lv_at hl 0 rfl) ?_
    refine lv_iload_n hx hb dX5_readBoxOrBracket_42 rfl (lv_at hl 1 rfl) ?_
    refine lv_iconst (v := 0) hx hb dX5_readBoxOrBracket_43 (by decide) ?_
    obtain ⟨v44, M44, q44, h⟩ := mbw_e h
    refine m_cl (m_rV hx hb hml hown hF hR hS (ent5 kd_77) kd_77 rfl (c_X5_readBox l X i2 0 M35 q44) q_X5_61_V hdV_X5_readBox ⟨by simp only [rmF]; omega, by simp only [rmF]; omega⟩ rfl hl.1 rfl (Nat.le_of_ble_eq_true rfl) dX5_readBoxOrBracket_44) hS (fun H locs hR hS => ?_)
    exact m_lr hx hb hlk hr hR hS (Option.some.inj h).symm dX5_readBoxOrBracket_47
set_option maxRecDepth 100000 in
set_option maxHeartbeats 4000000 in
theorem w_X5_readBoxOrBracket {l : Launch} {X : mX} {p : Program} {e : Env} {s : State} {m : MethodId} {args : Array Value} {below : List Frame} {meth : Method} {c : Code} {r : Int64 × mM} (hs : mS X RX5 cX5_readBoxOrBracket 5 (some .long) p s m meth c) (d : Nat) (slf : Int32 → Int32 → mM → Option (Int64 × mM)) (hslf : ∀ (i1 : Int32) (i2 : Int32) (M : mM) (r : Int64 × mM), slf i1 i2 M = some r → mMl l yX5_readParts cX5_readParts 9 (20 + 10 * d) (2000 + 200 * d) X [.ref (X.1 77), .int i1, .int i2] M r) : ∀ (i1 : Int32) (i2 : Int32) (M : mM), f_X5_readBoxOrBracket slf i1 i2 M = some r → mG X p l e (rmF (22 + 10 * d) (2060 + 200 * d)) s m args below meth c (MQ below (mQl X r.2 r.1) args s 0 0 (mL X)) 5 0 [(0, .ref (X.1 77)), (1, .int i1), (2, .int i2)] [] M := by
  obtain ⟨hx, hb, hml, hown, hF, hlk, hr⟩ := id hs
  intro i1 i2 M h H locs ls hR hS hl
  refine lv_iload_n hx hb dX5_readBoxOrBracket_0 rfl (lv_at hl 1 rfl) ?_
  refine lv_bipush (v := 6) hx hb dX5_readBoxOrBracket_1 (by decide) ?_
  refine lv_icmp_ge (tgt := 32) hx hb dX5_readBoxOrBracket_3 (by decide) (fun c3 => ?_) (fun c3 => ?_)
  · have h := mif_y h c3
    exact w_X5_readBoxOrBracket_b32 hs d slf hslf i2 M h H locs ls hR hS (lv_sub hl [0, 2] rfl)
  · have h := mif_n h c3
    refine lv_aload_n hx hb dX5_readBoxOrBracket_6 rfl (lv_at hl 0 rfl) ?_
    refine lv_bipush (v := 40) hx hb dX5_readBoxOrBracket_7 (by decide) ?_
    obtain ⟨v9, M9, q9, h⟩ := mbw_e h
    refine m_ci (m_rU hx hb hml hown hF hR hS (ent5 kd_77) kd_77 rfl (c_X7_takeIf l X 77 40 isReader_77 M q9) q_X5_48_UX5 rfl hdU_X7_takeIf ⟨by simp only [rmF]; omega, by simp only [rmF]; omega⟩ rfl hl.1 rfl (Nat.le_of_ble_eq_true rfl) dX5_readBoxOrBracket_9) hS (fun H locs hR hS => ?_)
    refine lv_if_eq (tgt := 32) hx hb dX5_readBoxOrBracket_12 (by decide) (fun c12 => ?_) (fun c12 => ?_)
    · have h := mif_y h c12
      exact w_X5_readBoxOrBracket_b32 hs d slf hslf i2 M9 h H locs ls hR hS (lv_sub hl [0, 2] rfl)
    · have h := mif_n h c12
      refine lv_aload_n hx hb dX5_readBoxOrBracket_15 rfl (lv_at hl 0 rfl) ?_
      refine lv_iload_n hx hb dX5_readBoxOrBracket_16 rfl (lv_at hl 1 rfl) ?_
      refine lv_iconst (v := 1) hx hb dX5_readBoxOrBracket_17 (by decide) ?_
      refine lv_iadd hx hb dX5_readBoxOrBracket_18 ?_
      refine lv_iload_n hx hb dX5_readBoxOrBracket_19 rfl (lv_at hl 2 rfl) ?_
      obtain ⟨v20, M20, q20, h⟩ := mbw_e h
      refine m_cl (m_rV hx hb hml hown hF hR hS (ent5 kd_77) kd_77 rfl (hslf (i1 + 1) i2 M9 _ q20) q_X5_25_V hdV_X5_readParts ⟨by simp only [rmF]; omega, by simp only [rmF]; omega⟩ rfl hl.1 rfl (Nat.le_of_ble_eq_true rfl) dX5_readBoxOrBracket_20) hS (fun H locs hR hS => ?_)
      refine lv_lstore_n (lv' := [(3, .long v20), (0, .ref (X.1 77)), (1, .int i1), (2, .int i2)]) hx hb dX5_readBoxOrBracket_23 rfl hl (by decide) rfl (fun ls hl => ?_)
      refine lv_aload_n hx hb dX5_readBoxOrBracket_24 rfl (lv_at hl 1 rfl) ?_
      refine lv_bipush (v := 41) hx hb dX5_readBoxOrBracket_25 (by decide) ?_
      obtain ⟨M27, q27, h⟩ := mbp_e h
      refine m_cv (m_rU hx hb hml hown hF hR hS (ent5 kd_77) kd_77 rfl (c_X7_demand l X 77 41 isReader_77 M20 q27) q_X5_57_UX5 rfl hdU_X7_demand ⟨by simp only [rmF]; omega, by simp only [rmF]; omega⟩ rfl hl.1 rfl (Nat.le_of_ble_eq_true rfl) dX5_readBoxOrBracket_27) hS (fun H locs hR hS => ?_)
      refine lv_lload_n hx hb dX5_readBoxOrBracket_30 rfl (lv_at hl 0 rfl) ?_
      exact m_lr hx hb hlk hr hR hS (Option.some.inj h).symm dX5_readBoxOrBracket_31
theorem c_X5_readBoxOrBracket (d : Nat) (l : Launch) (X : mX) (slf : Int32 → Int32 → mM → Option (Int64 × mM)) (hslf : ∀ (i1 : Int32) (i2 : Int32) (M : mM) (r : Int64 × mM), slf i1 i2 M = some r → mMl l yX5_readParts cX5_readParts 9 (20 + 10 * d) (2000 + 200 * d) X [.ref (X.1 77), .int i1, .int i2] M r) (i1 : Int32) (i2 : Int32) (M : mM) {r : Int64 × mM} (h : f_X5_readBoxOrBracket slf i1 i2 M = some r) : mMl l yX5_readBoxOrBracket cX5_readBoxOrBracket 5 (22 + 10 * d) (2060 + 200 * d) X [.ref (X.1 77), .int i1, .int i2] M r := m_ofl (by decide +kernel) (Nat.le_of_ble_eq_true rfl) rfl (fun p e s m args below meth c hs => w_X5_readBoxOrBracket hs d slf hslf i1 i2 M h)
set_option maxRecDepth 100000 in
set_option maxHeartbeats 4000000 in
theorem w_X5_readPart_b37 {l : Launch} {X : mX} {p : Program} {e : Env} {s : State} {m : MethodId} {args : Array Value} {below : List Frame} {meth : Method} {c : Code} {r : Int64 × mM} (hs : mS X RX5 cX5_readPart 6 (some .long) p s m meth c) (d : Nat) (slf : Int32 → Int32 → mM → Option (Int64 × mM)) (hslf : ∀ (i1 : Int32) (i2 : Int32) (M : mM) (r : Int64 × mM), slf i1 i2 M = some r → mMl l yX5_readParts cX5_readParts 9 (20 + 10 * d) (2000 + 200 * d) X [.ref (X.1 77), .int i1, .int i2] M r) : ∀ (i1 : Int32) (i2 : Int32) (i3 : Int32) (M : mM), f_X5_readPart_b37 slf i1 i2 i3 M = some r → mG X p l e (rmF (24 + 10 * d) (2120 + 200 * d)) s m args below meth c (MQ below (mQl X r.2 r.1) args s 0 0 (mL X)) 6 37 [(0, .ref (X.1 77)), (1, .int i1), (2, .int i2), (3, .int i3)] [] M := by
  obtain ⟨hx, hb, hml, hown, hF, hlk, hr⟩ := id hs
  intro i1 i2 i3 M h H locs ls hR hS hl
  refine lv_aload_n hx hb dX5_readPart_37 rfl (lv_at hl 0 rfl) ?_
  refine lv_iload_n hx hb dX5_readPart_38 rfl (lv_at hl 1 rfl) ?_
  refine lv_iload_n hx hb dX5_readPart_39 rfl (lv_at hl 2 rfl) ?_
  obtain ⟨v40, M40, q40, h⟩ := mbw_e h
  refine m_cl (m_rV hx hb hml hown hF hR hS (ent5 kd_77) kd_77 rfl (c_X5_readBoxOrBracket d l X slf hslf i1 i2 M q40) q_X5_52_V hdV_X5_readBoxOrBracket ⟨by simp only [rmF]; omega, by simp only [rmF]; omega⟩ rfl hl.1 rfl (Nat.le_of_ble_eq_true rfl) dX5_readPart_40) hS (fun H locs hR hS => ?_)
  refine lv_lstore (lv' := [(4, .long v40), (0, .ref (X.1 77)), (1, .int i1), (2, .int i2), (3, .int i3)]) hx hb dX5_readPart_43 hl (by decide) rfl (fun ls hl => ?_)
  refine lv_iload_n hx hb dX5_readPart_45 rfl (lv_at hl 4 rfl) ?_
  refine lv_if_eq (tgt := 62) hx hb dX5_readPart_46 (by decide) (fun c46 => ?_) (fun c46 => ?_)
  · have h := mif_y h c46
    refine lv_lload hx hb dX5_readPart_62 (lv_at hl 0 rfl) ?_
    exact m_lr hx hb hlk hr hR hS (Option.some.inj h).symm dX5_readPart_64
  · have h := mif_n h c46
    refine lv_ldc2 hx hb hown (hF.w mw_3_49) dX5_readPart_49 ?_
    refine lv_lload hx hb dX5_readPart_52 (lv_at hl 0 rfl) ?_
    refine lv_ldc2 hx hb hown (hF.w mw_3_50) dX5_readPart_54 ?_
    refine lv_lxor hx hb dX5_readPart_57 ?_
    refine lv_land hx hb dX5_readPart_58 ?_
    refine lv_goto (tgt := 64) hx hb dX5_readPart_59 (by decide) ?_
    exact m_lr hx hb hlk hr hR hS (Option.some.inj h).symm dX5_readPart_64
set_option maxRecDepth 100000 in
set_option maxHeartbeats 4000000 in
theorem w_X5_readPart_b5 {l : Launch} {X : mX} {p : Program} {e : Env} {s : State} {m : MethodId} {args : Array Value} {below : List Frame} {meth : Method} {c : Code} {r : Int64 × mM} (hs : mS X RX5 cX5_readPart 6 (some .long) p s m meth c) (d : Nat) (slf : Int32 → Int32 → mM → Option (Int64 × mM)) (hslf : ∀ (i1 : Int32) (i2 : Int32) (M : mM) (r : Int64 × mM), slf i1 i2 M = some r → mMl l yX5_readParts cX5_readParts 9 (20 + 10 * d) (2000 + 200 * d) X [.ref (X.1 77), .int i1, .int i2] M r) : ∀ n : Nat, ∀ (i1 : Int32) (i2 : Int32) (i3 : Int32) (i4 : Int32) (M : mM), f_X5_readPart_b5 slf n i1 i2 i3 i4 M = some r → mG X p l e (rmF (24 + 10 * d) (2120 + 200 * d)) s m args below meth c (MQ below (mQl X r.2 r.1) args s 0 0 (mL X)) 6 5 [(0, .ref (X.1 77)), (1, .int i1), (2, .int i2), (3, .int i3), (4, .int i4)] [] M := by
  obtain ⟨hx, hb, hml, hown, hF, hlk, hr⟩ := id hs
  intro n
  induction n with
  | zero =>
    intro i1 i2 i3 i4 M h
    have h0 : (none : Option (Int64 × mM)) = some r := h
    cases h0
  | succ n ih =>
    intro i1 i2 i3 i4 M h H locs ls hR hS hl
    refine lv_iload hx hb dX5_readPart_5 (lv_at hl 4 rfl) ?_
    refine lv_bipush (v := 90) hx hb dX5_readPart_7 (by decide) ?_
    refine lv_icmp_ge (tgt := 37) hx hb dX5_readPart_9 (by decide) (fun c9 => ?_) (fun c9 => ?_)
    · have h := mif_y h c9
      exact w_X5_readPart_b37 hs d slf hslf i1 i2 i3 M h H locs ls hR hS (lv_sub hl [0, 1, 2, 3] rfl)
    · have h := mif_n h c9
      refine lv_aload_n hx hb dX5_readPart_12 rfl (lv_at hl 0 rfl) ?_
      refine lv_bipush (v := 33) hx hb dX5_readPart_13 (by decide) ?_
      obtain ⟨v15, M15, q15, h⟩ := mbw_e h
      refine m_ci (m_rU hx hb hml hown hF hR hS (ent5 kd_77) kd_77 rfl (c_X7_takeIf l X 77 33 isReader_77 M q15) q_X5_48_UX5 rfl hdU_X7_takeIf ⟨by simp only [rmF]; omega, by simp only [rmF]; omega⟩ rfl hl.1 rfl (Nat.le_of_ble_eq_true rfl) dX5_readPart_15) hS (fun H locs hR hS => ?_)
      refine lv_if_eq (tgt := 37) hx hb dX5_readPart_18 (by decide) (fun c18 => ?_) (fun c18 => ?_)
      · have h := mif_y h c18
        exact w_X5_readPart_b37 hs d slf hslf i1 i2 i3 M15 h H locs ls hR hS (lv_sub hl [0, 1, 2, 3] rfl)
      · have h := mif_n h c18
        refine lv_iload_n hx hb dX5_readPart_21 rfl (lv_at hl 3 rfl) ?_
        refine lv_if_ne (tgt := 29) hx hb dX5_readPart_22 (by decide) (fun c22 => ?_) (fun c22 => ?_)
        · have h := mif_n h c22
          refine lv_iconst (v := 0) hx hb dX5_readPart_29 (by decide) ?_
          refine lv_istore_n (lv' := [(3, .int 0), (0, .ref (X.1 77)), (1, .int i1), (2, .int i2), (4, .int i4)]) hx hb dX5_readPart_30 rfl hl (by decide) rfl (fun ls hl => ?_)
          obtain ⟨x31, ex31⟩ : ∃ y : Int32, y = (i4 + 1) := ⟨_, rfl⟩
          have h := mlt_n h x31 ex31
          refine lv_iinc (v := x31) (lv' := [(4, .int x31), (3, .int 0), (0, .ref (X.1 77)), (1, .int i1), (2, .int i2)]) hx hb dX5_readPart_31 hl (k := 4) rfl (by rw [ex31]; rfl) (by decide) rfl (fun ls hl => ?_)
          refine lv_goto (tgt := 5) hx hb dX5_readPart_34 (by decide) ?_
          exact ih i1 i2 0 x31 M15 h H locs ls hR hS (lv_sub hl [2, 3, 4, 1, 0] rfl)
        · have h := mif_y h c22
          refine lv_iconst (v := 1) hx hb dX5_readPart_25 (by decide) ?_
          refine lv_goto (tgt := 30) hx hb dX5_readPart_26 (by decide) ?_
          refine lv_istore_n (lv' := [(3, .int 1), (0, .ref (X.1 77)), (1, .int i1), (2, .int i2), (4, .int i4)]) hx hb dX5_readPart_30 rfl hl (by decide) rfl (fun ls hl => ?_)
          obtain ⟨x31, ex31⟩ : ∃ y : Int32, y = (i4 + 1) := ⟨_, rfl⟩
          have h := mlt_n h x31 ex31
          refine lv_iinc (v := x31) (lv' := [(4, .int x31), (3, .int 1), (0, .ref (X.1 77)), (1, .int i1), (2, .int i2)]) hx hb dX5_readPart_31 hl (k := 4) rfl (by rw [ex31]; rfl) (by decide) rfl (fun ls hl => ?_)
          refine lv_goto (tgt := 5) hx hb dX5_readPart_34 (by decide) ?_
          exact ih i1 i2 1 x31 M15 h H locs ls hR hS (lv_sub hl [2, 3, 4, 1, 0] rfl)
set_option maxRecDepth 100000 in
set_option maxHeartbeats 4000000 in
theorem w_X5_readPart {l : Launch} {X : mX} {p : Program} {e : Env} {s : State} {m : MethodId} {args : Array Value} {below : List Frame} {meth : Method} {c : Code} {r : Int64 × mM} (hs : mS X RX5 cX5_readPart 6 (some .long) p s m meth c) (d : Nat) (slf : Int32 → Int32 → mM → Option (Int64 × mM)) (hslf : ∀ (i1 : Int32) (i2 : Int32) (M : mM) (r : Int64 × mM), slf i1 i2 M = some r → mMl l yX5_readParts cX5_readParts 9 (20 + 10 * d) (2000 + 200 * d) X [.ref (X.1 77), .int i1, .int i2] M r) : ∀ (i1 : Int32) (i2 : Int32) (M : mM), f_X5_readPart slf i1 i2 M = some r → mG X p l e (rmF (24 + 10 * d) (2120 + 200 * d)) s m args below meth c (MQ below (mQl X r.2 r.1) args s 0 0 (mL X)) 6 0 [(0, .ref (X.1 77)), (1, .int i1), (2, .int i2)] [] M := by
  obtain ⟨hx, hb, hml, hown, hF, hlk, hr⟩ := id hs
  intro i1 i2 M h H locs ls hR hS hl
  refine lv_iconst (v := 0) hx hb dX5_readPart_0 (by decide) ?_
  refine lv_istore_n (lv' := [(3, .int 0), (0, .ref (X.1 77)), (1, .int i1), (2, .int i2)]) hx hb dX5_readPart_1 rfl hl (by decide) rfl (fun ls hl => ?_)
  refine lv_iconst (v := 0) hx hb dX5_readPart_2 (by decide) ?_
  refine lv_istore (lv' := [(4, .int 0), (3, .int 0), (0, .ref (X.1 77)), (1, .int i1), (2, .int i2)]) hx hb dX5_readPart_3 hl (by decide) rfl (fun ls hl => ?_)
  exact w_X5_readPart_b5 hs d slf hslf mN i1 i2 0 0 M h H locs ls hR hS (lv_sub hl [2, 3, 4, 1, 0] rfl)
theorem c_X5_readPart (d : Nat) (l : Launch) (X : mX) (slf : Int32 → Int32 → mM → Option (Int64 × mM)) (hslf : ∀ (i1 : Int32) (i2 : Int32) (M : mM) (r : Int64 × mM), slf i1 i2 M = some r → mMl l yX5_readParts cX5_readParts 9 (20 + 10 * d) (2000 + 200 * d) X [.ref (X.1 77), .int i1, .int i2] M r) (i1 : Int32) (i2 : Int32) (M : mM) {r : Int64 × mM} (h : f_X5_readPart slf i1 i2 M = some r) : mMl l yX5_readPart cX5_readPart 6 (24 + 10 * d) (2120 + 200 * d) X [.ref (X.1 77), .int i1, .int i2] M r := m_ofl (by decide +kernel) (Nat.le_of_ble_eq_true rfl) rfl (fun p e s m args below meth c hs => w_X5_readPart hs d slf hslf i1 i2 M h)
set_option maxRecDepth 100000 in
set_option maxHeartbeats 4000000 in
theorem w_X5_readParts_b33 {l : Launch} {X : mX} {p : Program} {e : Env} {s : State} {m : MethodId} {args : Array Value} {below : List Frame} {meth : Method} {c : Code} {r : Int64 × mM} (hs : mS X RX5 cX5_readParts 9 (some .long) p s m meth c) (d : Nat) (slf : Int32 → Int32 → mM → Option (Int64 × mM)) (hslf : ∀ (i1 : Int32) (i2 : Int32) (M : mM) (r : Int64 × mM), slf i1 i2 M = some r → mMl l yX5_readParts cX5_readParts 9 (20 + 10 * d) (2000 + 200 * d) X [.ref (X.1 77), .int i1, .int i2] M r) (k10 : Int32 → Int32 → Int64 → Int32 → mM → Option (Int64 × mM)) (hk10 : ∀ (i1 : Int32) (i2 : Int32) (j3 : Int64) (i5 : Int32) (M : mM), k10 i1 i2 j3 i5 M = some r → mG X p l e (rmF (20 + 10 * (d + 1)) (2000 + 200 * (d + 1))) s m args below meth c (MQ below (mQl X r.2 r.1) args s 0 0 (mL X)) 9 10 [(0, .ref (X.1 77)), (1, .int i1), (2, .int i2), (3, .long j3), (5, .int i5)] [] M) : ∀ (i1 : Int32) (i2 : Int32) (j3 : Int64) (i5 : Int32) (M : mM), f_X5_readParts_b33 slf k10 i1 i2 j3 i5 M = some r → mG X p l e (rmF (20 + 10 * (d + 1)) (2000 + 200 * (d + 1))) s m args below meth c (MQ below (mQl X r.2 r.1) args s 0 0 (mL X)) 9 33 [(0, .ref (X.1 77)), (1, .int i1), (2, .int i2), (3, .long j3), (5, .int i5)] [] M := by
  obtain ⟨hx, hb, hml, hown, hF, hlk, hr⟩ := id hs
  intro i1 i2 j3 i5 M h H locs ls hR hS hl
  refine lv_aload_n hx hb dX5_readParts_33 rfl (lv_at hl 0 rfl) ?_
  obtain ⟨v34, M34, q34, h⟩ := mbw_e h
  refine m_ci (m_rU hx hb hml hown hF hR hS (ent5 kd_77) kd_77 rfl (c_X7_take l X 77 isReader_77 M q34) q_X5_43_UX5 rfl hdU_X7_take ⟨by simp only [rmF]; omega, by simp only [rmF]; omega⟩ rfl hl.1 rfl (Nat.le_of_ble_eq_true rfl) dX5_readParts_34) hS (fun H locs hR hS => ?_)
  refine lv_istore (lv' := [(6, .int v34), (0, .ref (X.1 77)), (1, .int i1), (2, .int i2), (3, .long j3), (5, .int i5)]) hx hb dX5_readParts_37 hl (by decide) rfl (fun ls hl => ?_)
  refine lv_aload_n hx hb dX5_readParts_39 rfl (lv_at hl 1 rfl) ?_
  refine lv_iload_n hx hb dX5_readParts_40 rfl (lv_at hl 2 rfl) ?_
  refine lv_iload_n hx hb dX5_readParts_41 rfl (lv_at hl 3 rfl) ?_
  obtain ⟨v42, M42, q42, h⟩ := mbw_e h
  refine m_cl (m_rV hx hb hml hown hF hR hS (ent5 kd_77) kd_77 rfl (c_X5_readPart d l X slf hslf i1 i2 M34 q42) q_X5_32_V hdV_X5_readPart ⟨by simp only [rmF]; omega, by simp only [rmF]; omega⟩ rfl hl.1 rfl (Nat.le_of_ble_eq_true rfl) dX5_readParts_42) hS (fun H locs hR hS => ?_)
  refine lv_lstore (lv' := [(7, .long v42), (6, .int v34), (0, .ref (X.1 77)), (1, .int i1), (2, .int i2), (3, .long j3), (5, .int i5)]) hx hb dX5_readParts_45 hl (by decide) rfl (fun ls hl => ?_)
  refine lv_iload hx hb dX5_readParts_47 (lv_at hl 1 rfl) ?_
  refine lv_bipush (v := 43) hx hb dX5_readParts_49 (by decide) ?_
  refine lv_icmp_ne (tgt := 61) hx hb dX5_readParts_51 (by decide) (fun c51 => ?_) (fun c51 => ?_)
  · have h := mif_n h c51
    refine lv_iload hx hb dX5_readParts_61 (lv_at hl 1 rfl) ?_
    refine lv_bipush (v := 45) hx hb dX5_readParts_63 (by decide) ?_
    refine lv_icmp_ne (tgt := 79) hx hb dX5_readParts_65 (by decide) (fun c65 => ?_) (fun c65 => ?_)
    · have h := mif_n h c65
      refine lv_lload_n hx hb dX5_readParts_79 rfl (lv_at hl 5 rfl) ?_
      refine lv_lload hx hb dX5_readParts_80 (lv_at hl 0 rfl) ?_
      refine lv_land hx hb dX5_readParts_82 ?_
      refine lv_lstore_n (lv' := [(3, .long (j3 &&& v42)), (7, .long v42), (6, .int v34), (0, .ref (X.1 77)), (1, .int i1), (2, .int i2), (5, .int i5)]) hx hb dX5_readParts_83 rfl hl (by decide) rfl (fun ls hl => ?_)
      obtain ⟨x84, ex84⟩ : ∃ y : Int32, y = (i5 + 1) := ⟨_, rfl⟩
      have h := mlt_n h x84 ex84
      refine lv_iinc (v := x84) (lv' := [(5, .int x84), (3, .long (j3 &&& v42)), (7, .long v42), (6, .int v34), (0, .ref (X.1 77)), (1, .int i1), (2, .int i2)]) hx hb dX5_readParts_84 hl (k := 6) rfl (by rw [ex84]; rfl) (by decide) rfl (fun ls hl => ?_)
      refine lv_goto (tgt := 10) hx hb dX5_readParts_87 (by decide) ?_
      exact hk10 i1 i2 (j3 &&& v42) x84 M42 h H locs ls hR hS (lv_sub hl [4, 5, 6, 1, 0] rfl)
    · have h := mif_y h c65
      refine lv_lload_n hx hb dX5_readParts_68 rfl (lv_at hl 5 rfl) ?_
      refine lv_lload hx hb dX5_readParts_69 (lv_at hl 0 rfl) ?_
      refine lv_ldc2 hx hb hown (hF.w mw_3_50) dX5_readParts_71 ?_
      refine lv_lxor hx hb dX5_readParts_74 ?_
      refine lv_land hx hb dX5_readParts_75 ?_
      refine lv_goto (tgt := 83) hx hb dX5_readParts_76 (by decide) ?_
      refine lv_topl (fun x83 ex83 => ?_)
      have h := mlt_n h x83 ex83
      refine lv_lstore_n (lv' := [(3, .long x83), (7, .long v42), (6, .int v34), (0, .ref (X.1 77)), (1, .int i1), (2, .int i2), (5, .int i5)]) hx hb dX5_readParts_83 rfl hl (by decide) rfl (fun ls hl => ?_)
      obtain ⟨x84, ex84⟩ : ∃ y : Int32, y = (i5 + 1) := ⟨_, rfl⟩
      have h := mlt_n h x84 ex84
      refine lv_iinc (v := x84) (lv' := [(5, .int x84), (3, .long x83), (7, .long v42), (6, .int v34), (0, .ref (X.1 77)), (1, .int i1), (2, .int i2)]) hx hb dX5_readParts_84 hl (k := 6) rfl (by rw [ex84]; rfl) (by decide) rfl (fun ls hl => ?_)
      refine lv_goto (tgt := 10) hx hb dX5_readParts_87 (by decide) ?_
      exact hk10 i1 i2 x83 x84 M42 h H locs ls hR hS (lv_sub hl [4, 5, 6, 1, 0] rfl)
  · have h := mif_y h c51
    refine lv_lload_n hx hb dX5_readParts_54 rfl (lv_at hl 5 rfl) ?_
    refine lv_lload hx hb dX5_readParts_55 (lv_at hl 0 rfl) ?_
    refine lv_lor hx hb dX5_readParts_57 ?_
    refine lv_goto (tgt := 83) hx hb dX5_readParts_58 (by decide) ?_
    refine lv_lstore_n (lv' := [(3, .long (j3 ||| v42)), (7, .long v42), (6, .int v34), (0, .ref (X.1 77)), (1, .int i1), (2, .int i2), (5, .int i5)]) hx hb dX5_readParts_83 rfl hl (by decide) rfl (fun ls hl => ?_)
    obtain ⟨x84, ex84⟩ : ∃ y : Int32, y = (i5 + 1) := ⟨_, rfl⟩
    have h := mlt_n h x84 ex84
    refine lv_iinc (v := x84) (lv' := [(5, .int x84), (3, .long (j3 ||| v42)), (7, .long v42), (6, .int v34), (0, .ref (X.1 77)), (1, .int i1), (2, .int i2)]) hx hb dX5_readParts_84 hl (k := 6) rfl (by rw [ex84]; rfl) (by decide) rfl (fun ls hl => ?_)
    refine lv_goto (tgt := 10) hx hb dX5_readParts_87 (by decide) ?_
    exact hk10 i1 i2 (j3 ||| v42) x84 M42 h H locs ls hR hS (lv_sub hl [4, 5, 6, 1, 0] rfl)
set_option maxRecDepth 100000 in
set_option maxHeartbeats 4000000 in
theorem w_X5_readParts_b10 {l : Launch} {X : mX} {p : Program} {e : Env} {s : State} {m : MethodId} {args : Array Value} {below : List Frame} {meth : Method} {c : Code} {r : Int64 × mM} (hs : mS X RX5 cX5_readParts 9 (some .long) p s m meth c) (d : Nat) (slf : Int32 → Int32 → mM → Option (Int64 × mM)) (hslf : ∀ (i1 : Int32) (i2 : Int32) (M : mM) (r : Int64 × mM), slf i1 i2 M = some r → mMl l yX5_readParts cX5_readParts 9 (20 + 10 * d) (2000 + 200 * d) X [.ref (X.1 77), .int i1, .int i2] M r) : ∀ n : Nat, ∀ (i1 : Int32) (i2 : Int32) (j3 : Int64) (i5 : Int32) (M : mM), f_X5_readParts_b10 slf n i1 i2 j3 i5 M = some r → mG X p l e (rmF (20 + 10 * (d + 1)) (2000 + 200 * (d + 1))) s m args below meth c (MQ below (mQl X r.2 r.1) args s 0 0 (mL X)) 9 10 [(0, .ref (X.1 77)), (1, .int i1), (2, .int i2), (3, .long j3), (5, .int i5)] [] M := by
  obtain ⟨hx, hb, hml, hown, hF, hlk, hr⟩ := id hs
  intro n
  induction n with
  | zero =>
    intro i1 i2 j3 i5 M h
    have h0 : (none : Option (Int64 × mM)) = some r := h
    cases h0
  | succ n ih =>
    intro i1 i2 j3 i5 M h H locs ls hR hS hl
    refine lv_iload hx hb dX5_readParts_10 (lv_at hl 4 rfl) ?_
    refine lv_bipush (v := 90) hx hb dX5_readParts_12 (by decide) ?_
    refine lv_icmp_ge (tgt := 90) hx hb dX5_readParts_14 (by decide) (fun c14 => ?_) (fun c14 => ?_)
    · have h := mif_y h c14
      refine lv_lload_n hx hb dX5_readParts_90 rfl (lv_at hl 3 rfl) ?_
      exact m_lr hx hb hlk hr hR hS (Option.some.inj h).symm dX5_readParts_91
    · have h := mif_n h c14
      refine lv_aload_n hx hb dX5_readParts_17 rfl (lv_at hl 0 rfl) ?_
      obtain ⟨v18, q18, h⟩ := mbp_e h
      refine m_ci (m_rU hx hb hml hown hF hR hS (ent5 kd_77) kd_77 rfl (c_X7_isPlusOrMinus l X 77 isReader_77 M q18) q_X5_35_UX5 rfl hdU_X7_isPlusOrMinus ⟨by simp only [rmF]; omega, by simp only [rmF]; omega⟩ rfl hl.1 rfl (Nat.le_of_ble_eq_true rfl) dX5_readParts_18) hS (fun H locs hR hS => ?_)
      refine lv_if_ne (tgt := 33) hx hb dX5_readParts_21 (by decide) (fun c21 => ?_) (fun c21 => ?_)
      · have h := mif_n h c21
        exact w_X5_readParts_b33 hs d slf hslf (f_X5_readParts_b10 slf n) ih i1 i2 j3 i5 M h H locs ls hR hS (lv_sub hl [0, 1, 2, 3, 4] rfl)
      · have h := mif_y h c21
        refine lv_aload_n hx hb dX5_readParts_24 rfl (lv_at hl 0 rfl) ?_
        obtain ⟨v25, q25, h⟩ := mbp_e h
        refine m_ci (m_rU hx hb hml hown hF hR hS (ent5 kd_77) kd_77 rfl (c_X7_look l X 77 isReader_77 M q25) q_X5_39_UX5 rfl hdU_X7_look ⟨by simp only [rmF]; omega, by simp only [rmF]; omega⟩ rfl hl.1 rfl (Nat.le_of_ble_eq_true rfl) dX5_readParts_25) hS (fun H locs hR hS => ?_)
        refine lv_bipush (v := 38) hx hb dX5_readParts_28 (by decide) ?_
        refine lv_icmp_ne (tgt := 90) hx hb dX5_readParts_30 (by decide) (fun c30 => ?_) (fun c30 => ?_)
        · have h := mif_n h c30
          refine lv_lload_n hx hb dX5_readParts_90 rfl (lv_at hl 3 rfl) ?_
          exact m_lr hx hb hlk hr hR hS (Option.some.inj h).symm dX5_readParts_91
        · have h := mif_y h c30
          exact w_X5_readParts_b33 hs d slf hslf (f_X5_readParts_b10 slf n) ih i1 i2 j3 i5 M h H locs ls hR hS (lv_sub hl [0, 1, 2, 3, 4] rfl)
set_option maxRecDepth 100000 in
set_option maxHeartbeats 4000000 in
theorem w_X5_readParts {l : Launch} {X : mX} {p : Program} {e : Env} {s : State} {m : MethodId} {args : Array Value} {below : List Frame} {meth : Method} {c : Code} {r : Int64 × mM} (hs : mS X RX5 cX5_readParts 9 (some .long) p s m meth c) (d : Nat) (slf : Int32 → Int32 → mM → Option (Int64 × mM)) (hslf : ∀ (i1 : Int32) (i2 : Int32) (M : mM) (r : Int64 × mM), slf i1 i2 M = some r → mMl l yX5_readParts cX5_readParts 9 (20 + 10 * d) (2000 + 200 * d) X [.ref (X.1 77), .int i1, .int i2] M r) : ∀ (i1 : Int32) (i2 : Int32) (M : mM), f_X5_readParts slf i1 i2 M = some r → mG X p l e (rmF (20 + 10 * (d + 1)) (2000 + 200 * (d + 1))) s m args below meth c (MQ below (mQl X r.2 r.1) args s 0 0 (mL X)) 9 0 [(0, .ref (X.1 77)), (1, .int i1), (2, .int i2)] [] M := by
  obtain ⟨hx, hb, hml, hown, hF, hlk, hr⟩ := id hs
  intro i1 i2 M h H locs ls hR hS hl
  refine lv_aload_n hx hb dX5_readParts_0 rfl (lv_at hl 0 rfl) ?_
  refine lv_iload_n hx hb dX5_readParts_1 rfl (lv_at hl 1 rfl) ?_
  refine lv_iload_n hx hb dX5_readParts_2 rfl (lv_at hl 2 rfl) ?_
  obtain ⟨v3, M3, q3, h⟩ := mbw_e h
  refine m_cl (m_rV hx hb hml hown hF hR hS (ent5 kd_77) kd_77 rfl (c_X5_readPart d l X slf hslf i1 i2 M q3) q_X5_32_V hdV_X5_readPart ⟨by simp only [rmF]; omega, by simp only [rmF]; omega⟩ rfl hl.1 rfl (Nat.le_of_ble_eq_true rfl) dX5_readParts_3) hS (fun H locs hR hS => ?_)
  refine lv_lstore_n (lv' := [(3, .long v3), (0, .ref (X.1 77)), (1, .int i1), (2, .int i2)]) hx hb dX5_readParts_6 rfl hl (by decide) rfl (fun ls hl => ?_)
  refine lv_iconst (v := 0) hx hb dX5_readParts_7 (by decide) ?_
  refine lv_istore (lv' := [(5, .int 0), (3, .long v3), (0, .ref (X.1 77)), (1, .int i1), (2, .int i2)]) hx hb dX5_readParts_8 hl (by decide) rfl (fun ls hl => ?_)
  exact w_X5_readParts_b10 hs d slf hslf mN i1 i2 v3 0 M3 h H locs ls hR hS (lv_sub hl [2, 3, 4, 1, 0] rfl)
theorem c_X5_readParts (d : Nat) (l : Launch) (X : mX) (slf : Int32 → Int32 → mM → Option (Int64 × mM)) (hslf : ∀ (i1 : Int32) (i2 : Int32) (M : mM) (r : Int64 × mM), slf i1 i2 M = some r → mMl l yX5_readParts cX5_readParts 9 (20 + 10 * d) (2000 + 200 * d) X [.ref (X.1 77), .int i1, .int i2] M r) (i1 : Int32) (i2 : Int32) (M : mM) {r : Int64 × mM} (h : f_X5_readParts slf i1 i2 M = some r) : mMl l yX5_readParts cX5_readParts 9 (20 + 10 * (d + 1)) (2000 + 200 * (d + 1)) X [.ref (X.1 77), .int i1, .int i2] M r := m_ofl (by decide +kernel) (Nat.le_of_ble_eq_true rfl) rfl (fun p e s m args below meth c hs => w_X5_readParts hs d slf hslf i1 i2 M h)
theorem c_X5_readPartsD (l : Launch) (X : mX) : ∀ (d : Nat) (i1 : Int32) (i2 : Int32) (M : mM) {r : Int64 × mM}, f_X5_readPartsD d i1 i2 M = some r → mMl l yX5_readParts cX5_readParts 9 (20 + 10 * d) (2000 + 200 * d) X [.ref (X.1 77), .int i1, .int i2] M r := by
  intro d
  induction d with
  | zero =>
    intro i1 i2 M r h
    have h0 : (none : Option (Int64 × mM)) = some r := h
    cases h0
  | succ d ih =>
    intro i1 i2 M r h
    exact c_X5_readParts d l X (f_X5_readPartsD d) (fun i1 i2 M r h => ih i1 i2 M h) i1 i2 M h
set_option maxRecDepth 100000 in
set_option maxHeartbeats 4000000 in
theorem w_X5_cellsOf {l : Launch} {X : mX} {p : Program} {e : Env} {s : State} {m : MethodId} {args : Array Value} {below : List Frame} {meth : Method} {c : Code} {r : Int64 × mM} (hs : mS X RX5 cX5_cellsOf 5 (some .long) p s m meth c) : ∀ (q1 : Nat) (i2 : Int32) (h_q1 : isShelf q1) (M : mM), f_X5_cellsOf q1 i2 M = some r → mG X p l e (rmF 101 3628) s m args below meth c (MQ below (mQl X r.2 r.1) args s 0 0 (mL X)) 5 0 [(0, .ref (X.1 77)), (1, .ref (X.1 q1)), (2, .int i2)] [] M := by
  obtain ⟨hx, hb, hml, hown, hF, hlk, hr⟩ := id hs
  intro q1 i2 h_q1 M h H locs ls hR hS hl
  refine lv_aload_n hx hb dX5_cellsOf_0 rfl (lv_at hl 0 rfl) ?_
  refine lv_aload_n hx hb dX5_cellsOf_1 rfl (lv_at hl 1 rfl) ?_
  refine m_g6_2 hx hb hF hown hR (kShelf0 h_q1) mw_2_16 dX5_cellsOf_2 ?_
  refine lv_aload_n hx hb dX5_cellsOf_5 rfl (lv_at hl 1 rfl) ?_
  refine m_g6_1 hx hb hF hown hR (kShelf0 h_q1) mw_2_10 dX5_cellsOf_6 ?_
  obtain ⟨M9, q9, h⟩ := mbp_e h
  refine m_cv (m_rU hx hb hml hown hF hR hS (ent5 kd_77) kd_77 rfl (c_X7_open l X 77 (q1 + 1) (M.1 q1 1) isReader_77 (kShelf1 h_q1) M q9) q_X5_19_UX5 rfl hdU_X7_open ⟨Nat.le_of_ble_eq_true rfl, Nat.le_of_ble_eq_true rfl⟩ rfl hl.1 rfl (Nat.le_of_ble_eq_true rfl) dX5_cellsOf_9) hS (fun H locs hR hS => ?_)
  refine lv_aload_n hx hb dX5_cellsOf_12 rfl (lv_at hl 0 rfl) ?_
  refine lv_iconst (v := 0) hx hb dX5_cellsOf_13 (by decide) ?_
  refine lv_iload_n hx hb dX5_cellsOf_14 rfl (lv_at hl 2 rfl) ?_
  obtain ⟨v15, M15, q15, h⟩ := mbw_e h
  refine m_cl (m_rV hx hb hml hown hF hR hS (ent5 kd_77) kd_77 rfl (c_X5_readPartsD l X 8 0 i2 M9 q15) q_X5_25_V hdV_X5_readParts ⟨Nat.le_of_ble_eq_true rfl, Nat.le_of_ble_eq_true rfl⟩ rfl hl.1 rfl (Nat.le_of_ble_eq_true rfl) dX5_cellsOf_15) hS (fun H locs hR hS => ?_)
  refine lv_lstore_n (lv' := [(3, .long v15), (0, .ref (X.1 77)), (1, .ref (X.1 q1)), (2, .int i2)]) hx hb dX5_cellsOf_18 rfl hl (by decide) rfl (fun ls hl => ?_)
  refine lv_aload_n hx hb dX5_cellsOf_19 rfl (lv_at hl 1 rfl) ?_
  obtain ⟨M20, q20, h⟩ := mbp_e h
  refine m_cv (m_rU hx hb hml hown hF hR hS (ent5 kd_77) kd_77 rfl (c_X7_failUnlessAtEnd l X 77 isReader_77 M15 q20) q_X5_29_UX5 rfl hdU_X7_failUnlessAtEnd ⟨Nat.le_of_ble_eq_true rfl, Nat.le_of_ble_eq_true rfl⟩ rfl hl.1 rfl (Nat.le_of_ble_eq_true rfl) dX5_cellsOf_20) hS (fun H locs hR hS => ?_)
  refine lv_lload_n hx hb dX5_cellsOf_23 rfl (lv_at hl 0 rfl) ?_
  exact m_lr hx hb hlk hr hR hS (Option.some.inj h).symm dX5_cellsOf_24
theorem c_X5_cellsOf (l : Launch) (X : mX) (q1 : Nat) (i2 : Int32) (h_q1 : isShelf q1) (M : mM) {r : Int64 × mM} (h : f_X5_cellsOf q1 i2 M = some r) : mMl l yX5_cellsOf cX5_cellsOf 5 101 3628 X [.ref (X.1 77), .ref (X.1 q1), .int i2] M r := m_ofl (by decide +kernel) (Nat.le_of_ble_eq_true rfl) rfl (fun p e s m args below meth c hs => w_X5_cellsOf hs q1 i2 h_q1 M h)
set_option maxRecDepth 100000 in
set_option maxHeartbeats 4000000 in
theorem w_X7_isFaulty {l : Launch} {X : mX} {p : Program} {e : Env} {s : State} {m : MethodId} {args : Array Value} {below : List Frame} {meth : Method} {c : Code} {M : mM} {r : Int32} (hs : mS X RX7 cX7_isFaulty 1 (some .boolean) p s m meth c) : ∀ (b : Nat) (h_b : isReader b), f_X7_isFaulty b M = r → mG X p l e (rmF 0 0) s m args below meth c (MQ below (mQi X M r) args s 0 0 (mL X)) 1 0 [(0, .ref (X.1 b))] [] M := by
  obtain ⟨hx, hb, hml, hown, hF, hlk, hr⟩ := id hs
  intro b h_b h H locs ls hR hS hl
  refine lv_aload_n hx hb dX7_isFaulty_0 rfl (lv_at hl 0 rfl) ?_
  refine m_getR3 hx hb hF hown hR h_b mw_1_207 dX7_isFaulty_1 ?_
  refine lv_if_lt (tgt := 11) hx hb dX7_isFaulty_4 (by decide) (fun c4 => ?_) (fun c4 => ?_)
  · have h := mif_y h c4
    refine lv_iconst (v := 0) hx hb dX7_isFaulty_11 (by decide) ?_
    exact m_zr hx hb hlk hr hR hS (Or.inl rfl) (congrArg (fun z => (z, M)) h.symm) dX7_isFaulty_12
  · have h := mif_n h c4
    refine lv_iconst (v := 1) hx hb dX7_isFaulty_7 (by decide) ?_
    refine lv_goto (tgt := 12) hx hb dX7_isFaulty_8 (by decide) ?_
    exact m_zr hx hb hlk hr hR hS (Or.inr rfl) (congrArg (fun z => (z, M)) h.symm) dX7_isFaulty_12
theorem c_X7_isFaulty (l : Launch) (X : mX) (b : Nat) (h_b : isReader b) (M : mM) : mMi l yX7_isFaulty cX7_isFaulty 1 (some .boolean) 0 0 X [.ref (X.1 b)] M (f_X7_isFaulty b M, M) := m_ofi (by decide +kernel) (Nat.le_of_ble_eq_true rfl) rfl (fun p e s m args below meth c hs => w_X7_isFaulty hs b h_b rfl)
set_option maxRecDepth 100000 in
set_option maxHeartbeats 4000000 in
theorem w_X7_faultPlace {l : Launch} {X : mX} {p : Program} {e : Env} {s : State} {m : MethodId} {args : Array Value} {below : List Frame} {meth : Method} {c : Code} {M : mM} {r : Int32} (hs : mS X RX7 cX7_faultPlace 1 (some .int) p s m meth c) : ∀ (b : Nat) (h_b : isReader b), f_X7_faultPlace b M = r → mG X p l e (rmF 0 0) s m args below meth c (MQ below (mQi X M r) args s 0 0 (mL X)) 1 0 [(0, .ref (X.1 b))] [] M := by
  obtain ⟨hx, hb, hml, hown, hF, hlk, hr⟩ := id hs
  intro b h_b h H locs ls hR hS hl
  refine lv_aload_n hx hb dX7_faultPlace_0 rfl (lv_at hl 0 rfl) ?_
  refine m_getR3 hx hb hF hown hR h_b mw_1_207 dX7_faultPlace_1 ?_
  exact m_ir hx hb hlk hr hR hS (congrArg (fun z => (z, M)) h.symm) dX7_faultPlace_4
theorem c_X7_faultPlace (l : Launch) (X : mX) (b : Nat) (h_b : isReader b) (M : mM) : mMi l yX7_faultPlace cX7_faultPlace 1 (some .int) 0 0 X [.ref (X.1 b)] M (f_X7_faultPlace b M, M) := m_ofi (by decide +kernel) (Nat.le_of_ble_eq_true rfl) rfl (fun p e s m args below meth c hs => w_X7_faultPlace hs b h_b rfl)
set_option maxRecDepth 100000 in
set_option maxHeartbeats 4000000 in
theorem w_X7_isDigit {l : Launch} {X : mX} {p : Program} {e : Env} {s : State} {m : MethodId} {args : Array Value} {below : List Frame} {meth : Method} {c : Code} {M : mM} {r : Int32} (hs : mS X RX7 cX7_isDigit 1 (some .boolean) p s m meth c) : ∀ (b : Nat) (h_b : isReader b), f_X7_isDigit b M = some r → mG X p l e (rmF 1 20) s m args below meth c (MQ below (mQi X M r) args s 0 0 (mL X)) 1 0 [(0, .ref (X.1 b))] [] M := by
  obtain ⟨hx, hb, hml, hown, hF, hlk, hr⟩ := id hs
  intro b h_b h H locs ls hR hS hl
  refine lv_aload_n hx hb dX7_isDigit_0 rfl (lv_at hl 0 rfl) ?_
  obtain ⟨v1, q1, h⟩ := mbp_e h
  refine m_ci (m_rU3 hx hb hml hown hF hR hS h_b (c_X7_look l X b h_b M q1) q_X7_28_UX1 q_X7_28_UX4 q_X7_28_UX5 rfl hdU_X7_look ⟨Nat.le_of_ble_eq_true rfl, Nat.le_of_ble_eq_true rfl⟩ rfl hl.1 rfl (Nat.le_of_ble_eq_true rfl) dX7_isDigit_1) hS (fun H locs hR hS => ?_)
  refine lv_bipush (v := 48) hx hb dX7_isDigit_4 (by decide) ?_
  refine lv_icmp_lt (tgt := 22) hx hb dX7_isDigit_6 (by decide) (fun c6 => ?_) (fun c6 => ?_)
  · have h := mif_y h c6
    refine lv_iconst (v := 0) hx hb dX7_isDigit_22 (by decide) ?_
    exact m_zr hx hb hlk hr hR hS (Or.inl rfl) (congrArg (fun z => (z, M)) (Option.some.inj h).symm) dX7_isDigit_23
  · have h := mif_n h c6
    refine lv_aload_n hx hb dX7_isDigit_9 rfl (lv_at hl 0 rfl) ?_
    obtain ⟨v10, q10, h⟩ := mbp_e h
    refine m_ci (m_rU3 hx hb hml hown hF hR hS h_b (c_X7_look l X b h_b M q10) q_X7_28_UX1 q_X7_28_UX4 q_X7_28_UX5 rfl hdU_X7_look ⟨Nat.le_of_ble_eq_true rfl, Nat.le_of_ble_eq_true rfl⟩ rfl hl.1 rfl (Nat.le_of_ble_eq_true rfl) dX7_isDigit_10) hS (fun H locs hR hS => ?_)
    refine lv_bipush (v := 57) hx hb dX7_isDigit_13 (by decide) ?_
    refine lv_icmp_gt (tgt := 22) hx hb dX7_isDigit_15 (by decide) (fun c15 => ?_) (fun c15 => ?_)
    · have h := mif_y h c15
      refine lv_iconst (v := 0) hx hb dX7_isDigit_22 (by decide) ?_
      exact m_zr hx hb hlk hr hR hS (Or.inl rfl) (congrArg (fun z => (z, M)) (Option.some.inj h).symm) dX7_isDigit_23
    · have h := mif_n h c15
      refine lv_iconst (v := 1) hx hb dX7_isDigit_18 (by decide) ?_
      refine lv_goto (tgt := 23) hx hb dX7_isDigit_19 (by decide) ?_
      exact m_zr hx hb hlk hr hR hS (Or.inr rfl) (congrArg (fun z => (z, M)) (Option.some.inj h).symm) dX7_isDigit_23
theorem c_X7_isDigit (l : Launch) (X : mX) (b : Nat) (h_b : isReader b) (M : mM) {r : Int32} (h : f_X7_isDigit b M = some r) : mMi l yX7_isDigit cX7_isDigit 1 (some .boolean) 1 20 X [.ref (X.1 b)] M (r, M) := m_ofi (by decide +kernel) (Nat.le_of_ble_eq_true rfl) rfl (fun p e s m args below meth c hs => w_X7_isDigit hs b h_b h)
set_option maxRecDepth 100000 in
set_option maxHeartbeats 4000000 in
theorem w_X4_isField {l : Launch} {X : mX} {p : Program} {e : Env} {s : State} {m : MethodId} {args : Array Value} {below : List Frame} {meth : Method} {c : Code} {M : mM} {r : Int32} (hs : mS X RX4 cX4_isField 1 (some .boolean) p s m meth c) : ∀ (i0 : Int32), f_X4_isField i0 = r → mG X p l e (rmF 0 0) s m args below meth c (MQ below (mQi X M r) args s 0 0 (mL X)) 1 0 [(0, .int i0)] [] M := by
  obtain ⟨hx, hb, hml, hown, hF, hlk, hr⟩ := id hs
  intro i0 h H locs ls hR hS hl
  refine lv_iload_n hx hb dX4_isField_0 rfl (lv_at hl 0 rfl) ?_
  by_cases c1_69 : i0 = 69
  · have h := mif_y h c1_69
    refine lv_lookup (tgt := 100) (off := 99) hx hb dX4_isField_1 (by decide) (by rw [c1_69] <;> rfl) (by decide) ?_
    refine lv_iconst (v := 1) hx hb dX4_isField_100 (by decide) ?_
    exact m_zr hx hb hlk hr hR hS (Or.inr rfl) (congrArg (fun z => (z, M)) h.symm) dX4_isField_101
  · have h := mif_n h c1_69
    by_cases c1_78 : i0 = 78
    · have h := mif_y h c1_78
      refine lv_lookup (tgt := 100) (off := 99) hx hb dX4_isField_1 (by decide) (by rw [c1_78] <;> rfl) (by decide) ?_
      refine lv_iconst (v := 1) hx hb dX4_isField_100 (by decide) ?_
      exact m_zr hx hb hlk hr hR hS (Or.inr rfl) (congrArg (fun z => (z, M)) h.symm) dX4_isField_101
    · have h := mif_n h c1_78
      by_cases c1_83 : i0 = 83
      · have h := mif_y h c1_83
        refine lv_lookup (tgt := 100) (off := 99) hx hb dX4_isField_1 (by decide) (by rw [c1_83] <;> rfl) (by decide) ?_
        refine lv_iconst (v := 1) hx hb dX4_isField_100 (by decide) ?_
        exact m_zr hx hb hlk hr hR hS (Or.inr rfl) (congrArg (fun z => (z, M)) h.symm) dX4_isField_101
      · have h := mif_n h c1_83
        by_cases c1_87 : i0 = 87
        · have h := mif_y h c1_87
          refine lv_lookup (tgt := 100) (off := 99) hx hb dX4_isField_1 (by decide) (by rw [c1_87] <;> rfl) (by decide) ?_
          refine lv_iconst (v := 1) hx hb dX4_isField_100 (by decide) ?_
          exact m_zr hx hb hlk hr hR hS (Or.inr rfl) (congrArg (fun z => (z, M)) h.symm) dX4_isField_101
        · have h := mif_n h c1_87
          by_cases c1_101 : i0 = 101
          · have h := mif_y h c1_101
            refine lv_lookup (tgt := 100) (off := 99) hx hb dX4_isField_1 (by decide) (by rw [c1_101] <;> rfl) (by decide) ?_
            refine lv_iconst (v := 1) hx hb dX4_isField_100 (by decide) ?_
            exact m_zr hx hb hlk hr hR hS (Or.inr rfl) (congrArg (fun z => (z, M)) h.symm) dX4_isField_101
          · have h := mif_n h c1_101
            by_cases c1_109 : i0 = 109
            · have h := mif_y h c1_109
              refine lv_lookup (tgt := 100) (off := 99) hx hb dX4_isField_1 (by decide) (by rw [c1_109] <;> rfl) (by decide) ?_
              refine lv_iconst (v := 1) hx hb dX4_isField_100 (by decide) ?_
              exact m_zr hx hb hlk hr hR hS (Or.inr rfl) (congrArg (fun z => (z, M)) h.symm) dX4_isField_101
            · have h := mif_n h c1_109
              by_cases c1_110 : i0 = 110
              · have h := mif_y h c1_110
                refine lv_lookup (tgt := 100) (off := 99) hx hb dX4_isField_1 (by decide) (by rw [c1_110] <;> rfl) (by decide) ?_
                refine lv_iconst (v := 1) hx hb dX4_isField_100 (by decide) ?_
                exact m_zr hx hb hlk hr hR hS (Or.inr rfl) (congrArg (fun z => (z, M)) h.symm) dX4_isField_101
              · have h := mif_n h c1_110
                by_cases c1_112 : i0 = 112
                · have h := mif_y h c1_112
                  refine lv_lookup (tgt := 100) (off := 99) hx hb dX4_isField_1 (by decide) (by rw [c1_112] <;> rfl) (by decide) ?_
                  refine lv_iconst (v := 1) hx hb dX4_isField_100 (by decide) ?_
                  exact m_zr hx hb hlk hr hR hS (Or.inr rfl) (congrArg (fun z => (z, M)) h.symm) dX4_isField_101
                · have h := mif_n h c1_112
                  by_cases c1_115 : i0 = 115
                  · have h := mif_y h c1_115
                    refine lv_lookup (tgt := 100) (off := 99) hx hb dX4_isField_1 (by decide) (by rw [c1_115] <;> rfl) (by decide) ?_
                    refine lv_iconst (v := 1) hx hb dX4_isField_100 (by decide) ?_
                    exact m_zr hx hb hlk hr hR hS (Or.inr rfl) (congrArg (fun z => (z, M)) h.symm) dX4_isField_101
                  · have h := mif_n h c1_115
                    by_cases c1_116 : i0 = 116
                    · have h := mif_y h c1_116
                      refine lv_lookup (tgt := 100) (off := 99) hx hb dX4_isField_1 (by decide) (by rw [c1_116] <;> rfl) (by decide) ?_
                      refine lv_iconst (v := 1) hx hb dX4_isField_100 (by decide) ?_
                      exact m_zr hx hb hlk hr hR hS (Or.inr rfl) (congrArg (fun z => (z, M)) h.symm) dX4_isField_101
                    · have h := mif_n h c1_116
                      by_cases c1_119 : i0 = 119
                      · have h := mif_y h c1_119
                        refine lv_lookup (tgt := 100) (off := 99) hx hb dX4_isField_1 (by decide) (by rw [c1_119] <;> rfl) (by decide) ?_
                        refine lv_iconst (v := 1) hx hb dX4_isField_100 (by decide) ?_
                        exact m_zr hx hb hlk hr hR hS (Or.inr rfl) (congrArg (fun z => (z, M)) h.symm) dX4_isField_101
                      · have h := mif_n h c1_119
                        refine lv_lookup (tgt := 102) (off := 101) hx hb dX4_isField_1 (by decide) (by show Op.lookupswitch.offset [(69, 99), (78, 99), (83, 99), (87, 99), (101, 99), (109, 99), (110, 99), (112, 99), (115, 99), (116, 99), (119, 99)] 101 _ = 101; rw [lv_osw (a := 69) c1_69 rfl]; rw [lv_osw (a := 78) c1_78 rfl]; rw [lv_osw (a := 83) c1_83 rfl]; rw [lv_osw (a := 87) c1_87 rfl]; rw [lv_osw (a := 101) c1_101 rfl]; rw [lv_osw (a := 109) c1_109 rfl]; rw [lv_osw (a := 110) c1_110 rfl]; rw [lv_osw (a := 112) c1_112 rfl]; rw [lv_osw (a := 115) c1_115 rfl]; rw [lv_osw (a := 116) c1_116 rfl]; rw [lv_osw (a := 119) c1_119 rfl] <;> rfl) (by decide) ?_
                        refine lv_iconst (v := 0) hx hb dX4_isField_102 (by decide) ?_
                        exact m_zr hx hb hlk hr hR hS (Or.inl rfl) (congrArg (fun z => (z, M)) h.symm) dX4_isField_103
theorem c_X4_isField (l : Launch) (X : mX) (i0 : Int32) (M : mM) : mMi l yX4_isField cX4_isField 1 (some .boolean) 0 0 X [.int i0] M (f_X4_isField i0, M) := m_ofi (by decide +kernel) (Nat.le_of_ble_eq_true rfl) rfl (fun p e s m args below meth c hs => w_X4_isField hs i0 rfl)
set_option maxRecDepth 100000 in
set_option maxHeartbeats 4000000 in
theorem w_X4_readAtom {l : Launch} {X : mX} {p : Program} {e : Env} {s : State} {m : MethodId} {args : Array Value} {below : List Frame} {meth : Method} {c : Code} {r : mM} (hs : mS X RX4 cX4_readAtom 1 none p s m meth c) : ∀  (M : mM), f_X4_readAtom  M = some r → mG X p l e (rmF 2 42) s m args below meth c (MQ below (mQv X r) args s 0 0 (mL X)) 1 0 [(0, .ref (X.1 78))] [] M := by
  obtain ⟨hx, hb, hml, hown, hF, hlk, hr⟩ := id hs
  intro M h H locs ls hR hS hl
  refine lv_aload_n hx hb dX4_readAtom_0 rfl (lv_at hl 0 rfl) ?_
  refine lv_bipush (v := 48) hx hb dX4_readAtom_1 (by decide) ?_
  obtain ⟨v3, M3, q3, h⟩ := mbw_e h
  refine m_ci (m_rU hx hb hml hown hF hR hS (ent4 kd_78) kd_78 rfl (c_X7_takeIf l X 78 48 isReader_78 M q3) q_X4_38_UX4 rfl hdU_X7_takeIf ⟨Nat.le_of_ble_eq_true rfl, Nat.le_of_ble_eq_true rfl⟩ rfl hl.1 rfl (Nat.le_of_ble_eq_true rfl) dX4_readAtom_3) hS (fun H locs hR hS => ?_)
  refine lv_if_eq (tgt := 10) hx hb dX4_readAtom_6 (by decide) (fun c6 => ?_) (fun c6 => ?_)
  · have h := mif_y h c6
    refine lv_aload_n hx hb dX4_readAtom_10 rfl (lv_at hl 0 rfl) ?_
    obtain ⟨v11, q11, h⟩ := mbp_e h
    refine m_ci (m_rU hx hb hml hown hF hR hS (ent4 kd_78) kd_78 rfl (c_X7_isDigit l X 78 isReader_78 M3 q11) q_X4_62_UX4 rfl hdU_X7_isDigit ⟨Nat.le_of_ble_eq_true rfl, Nat.le_of_ble_eq_true rfl⟩ rfl hl.1 rfl (Nat.le_of_ble_eq_true rfl) dX4_readAtom_11) hS (fun H locs hR hS => ?_)
    refine lv_if_eq (tgt := 35) hx hb dX4_readAtom_14 (by decide) (fun c14 => ?_) (fun c14 => ?_)
    · have h := mif_y h c14
      refine lv_aload_n hx hb dX4_readAtom_35 rfl (lv_at hl 0 rfl) ?_
      obtain ⟨v36, q36, h⟩ := mbp_e h
      refine m_ci (m_rU hx hb hml hown hF hR hS (ent4 kd_78) kd_78 rfl (c_X7_look l X 78 isReader_78 M3 q36) q_X4_65_UX4 rfl hdU_X7_look ⟨Nat.le_of_ble_eq_true rfl, Nat.le_of_ble_eq_true rfl⟩ rfl hl.1 rfl (Nat.le_of_ble_eq_true rfl) dX4_readAtom_36) hS (fun H locs hR hS => ?_)
      refine m_ci (m_rS hx hb hml hown hF hR hS (c_X4_isField l X v36 M3) q_X4_68_S hdS_X4_isField ⟨Nat.le_of_ble_eq_true rfl, Nat.le_of_ble_eq_true rfl⟩ rfl hl.1 rfl (Nat.le_of_ble_eq_true rfl) dX4_readAtom_39) hS (fun H locs hR hS => ?_)
      refine lv_if_eq (tgt := 53) hx hb dX4_readAtom_42 (by decide) (fun c42 => ?_) (fun c42 => ?_)
      · have h := mif_y h c42
        refine lv_aload_n hx hb dX4_readAtom_53 rfl (lv_at hl 0 rfl) ?_
        obtain ⟨M54, q54, h⟩ := mbp_e h
        refine m_cv (m_rU hx hb hml hown hF hR hS (ent4 kd_78) kd_78 rfl (c_X7_fail l X 78 isReader_78 M3 q54) q_X4_72_UX4 rfl hdU_X7_fail ⟨Nat.le_of_ble_eq_true rfl, Nat.le_of_ble_eq_true rfl⟩ rfl hl.1 rfl (Nat.le_of_ble_eq_true rfl) dX4_readAtom_54) hS (fun H locs hR hS => ?_)
        exact m_vr hx hb hlk hr hR hS (Option.some.inj h).symm dX4_readAtom_57
      · have h := mif_n h c42
        refine lv_aload_n hx hb dX4_readAtom_45 rfl (lv_at hl 0 rfl) ?_
        obtain ⟨v46, M46, q46, h⟩ := mbw_e h
        refine m_ci (m_rU hx hb hml hown hF hR hS (ent4 kd_78) kd_78 rfl (c_X7_take l X 78 isReader_78 M3 q46) q_X4_58_UX4 rfl hdU_X7_take ⟨Nat.le_of_ble_eq_true rfl, Nat.le_of_ble_eq_true rfl⟩ rfl hl.1 rfl (Nat.le_of_ble_eq_true rfl) dX4_readAtom_46) hS (fun H locs hR hS => ?_)
        refine lv_pop hx hb dX4_readAtom_49 rfl ?_
        refine lv_goto (tgt := 57) hx hb dX4_readAtom_50 (by decide) ?_
        exact m_vr hx hb hlk hr hR hS (Option.some.inj h).symm dX4_readAtom_57
    · have h := mif_n h c14
      refine lv_aload_n hx hb dX4_readAtom_17 rfl (lv_at hl 0 rfl) ?_
      obtain ⟨v18, M18, q18, h⟩ := mbw_e h
      refine m_ci (m_rU hx hb hml hown hF hR hS (ent4 kd_78) kd_78 rfl (c_X7_take l X 78 isReader_78 M3 q18) q_X4_58_UX4 rfl hdU_X7_take ⟨Nat.le_of_ble_eq_true rfl, Nat.le_of_ble_eq_true rfl⟩ rfl hl.1 rfl (Nat.le_of_ble_eq_true rfl) dX4_readAtom_18) hS (fun H locs hR hS => ?_)
      refine lv_pop hx hb dX4_readAtom_21 rfl ?_
      refine lv_aload_n hx hb dX4_readAtom_22 rfl (lv_at hl 0 rfl) ?_
      obtain ⟨v23, q23, h⟩ := mbp_e h
      refine m_ci (m_rU hx hb hml hown hF hR hS (ent4 kd_78) kd_78 rfl (c_X7_isDigit l X 78 isReader_78 M18 q23) q_X4_62_UX4 rfl hdU_X7_isDigit ⟨Nat.le_of_ble_eq_true rfl, Nat.le_of_ble_eq_true rfl⟩ rfl hl.1 rfl (Nat.le_of_ble_eq_true rfl) dX4_readAtom_23) hS (fun H locs hR hS => ?_)
      refine lv_if_eq (tgt := 34) hx hb dX4_readAtom_26 (by decide) (fun c26 => ?_) (fun c26 => ?_)
      · have h := mif_y h c26
        exact m_vr hx hb hlk hr hR hS (Option.some.inj h).symm dX4_readAtom_34
      · have h := mif_n h c26
        refine lv_aload_n hx hb dX4_readAtom_29 rfl (lv_at hl 0 rfl) ?_
        obtain ⟨v30, M30, q30, h⟩ := mbw_e h
        refine m_ci (m_rU hx hb hml hown hF hR hS (ent4 kd_78) kd_78 rfl (c_X7_take l X 78 isReader_78 M18 q30) q_X4_58_UX4 rfl hdU_X7_take ⟨Nat.le_of_ble_eq_true rfl, Nat.le_of_ble_eq_true rfl⟩ rfl hl.1 rfl (Nat.le_of_ble_eq_true rfl) dX4_readAtom_30) hS (fun H locs hR hS => ?_)
        refine lv_pop hx hb dX4_readAtom_33 rfl ?_
        exact m_vr hx hb hlk hr hR hS (Option.some.inj h).symm dX4_readAtom_34
  · have h := mif_n h c6
    exact m_vr hx hb hlk hr hR hS (Option.some.inj h).symm dX4_readAtom_9
theorem c_X4_readAtom (l : Launch) (X : mX) (M : mM) {r : mM} (h : f_X4_readAtom M = some r) : mMv l yX4_readAtom cX4_readAtom 1 2 42 X [.ref (X.1 78)] M r := m_ofv (by decide +kernel) (Nat.le_of_ble_eq_true rfl) rfl (fun p e s m args below meth c hs => w_X4_readAtom hs M h)
set_option maxRecDepth 100000 in
set_option maxHeartbeats 4000000 in
theorem w_X4_readSum_b6 {l : Launch} {X : mX} {p : Program} {e : Env} {s : State} {m : MethodId} {args : Array Value} {below : List Frame} {meth : Method} {c : Code} {r : mM} (hs : mS X RX4 cX4_readSum 2 none p s m meth c) : ∀ n : Nat, ∀ (i1 : Int32) (M : mM), f_X4_readSum_b6 n i1 M = some r → mG X p l e (rmF 3 62) s m args below meth c (MQ below (mQv X r) args s 0 0 (mL X)) 2 6 [(0, .ref (X.1 78)), (1, .int i1)] [] M := by
  obtain ⟨hx, hb, hml, hown, hF, hlk, hr⟩ := id hs
  intro n
  induction n with
  | zero =>
    intro i1 M h
    have h0 : (none : Option (mM)) = some r := h
    cases h0
  | succ n ih =>
    intro i1 M h H locs ls hR hS hl
    refine lv_iload_n hx hb dX4_readSum_6 rfl (lv_at hl 1 rfl) ?_
    refine lv_bipush (v := 90) hx hb dX4_readSum_7 (by decide) ?_
    refine lv_icmp_ge (tgt := 34) hx hb dX4_readSum_9 (by decide) (fun c9 => ?_) (fun c9 => ?_)
    · have h := mif_y h c9
      exact m_vr hx hb hlk hr hR hS (Option.some.inj h).symm dX4_readSum_34
    · have h := mif_n h c9
      refine lv_aload_n hx hb dX4_readSum_12 rfl (lv_at hl 0 rfl) ?_
      obtain ⟨v13, q13, h⟩ := mbp_e h
      refine m_ci (m_rU hx hb hml hown hF hR hS (ent4 kd_78) kd_78 rfl (c_X7_isPlusOrMinus l X 78 isReader_78 M q13) q_X4_55_UX4 rfl hdU_X7_isPlusOrMinus ⟨Nat.le_of_ble_eq_true rfl, Nat.le_of_ble_eq_true rfl⟩ rfl hl.1 rfl (Nat.le_of_ble_eq_true rfl) dX4_readSum_13) hS (fun H locs hR hS => ?_)
      refine lv_if_eq (tgt := 34) hx hb dX4_readSum_16 (by decide) (fun c16 => ?_) (fun c16 => ?_)
      · have h := mif_y h c16
        exact m_vr hx hb hlk hr hR hS (Option.some.inj h).symm dX4_readSum_34
      · have h := mif_n h c16
        refine lv_aload_n hx hb dX4_readSum_19 rfl (lv_at hl 0 rfl) ?_
        obtain ⟨v20, M20, q20, h⟩ := mbw_e h
        refine m_ci (m_rU hx hb hml hown hF hR hS (ent4 kd_78) kd_78 rfl (c_X7_take l X 78 isReader_78 M q20) q_X4_58_UX4 rfl hdU_X7_take ⟨Nat.le_of_ble_eq_true rfl, Nat.le_of_ble_eq_true rfl⟩ rfl hl.1 rfl (Nat.le_of_ble_eq_true rfl) dX4_readSum_20) hS (fun H locs hR hS => ?_)
        refine lv_pop hx hb dX4_readSum_23 rfl ?_
        refine lv_aload_n hx hb dX4_readSum_24 rfl (lv_at hl 0 rfl) ?_
        obtain ⟨M25, q25, h⟩ := mbp_e h
        refine m_cv (m_rV hx hb hml hown hF hR hS (ent4 kd_78) kd_78 rfl (c_X4_readAtom l X M20 q25) q_X4_52_V hdV_X4_readAtom ⟨Nat.le_of_ble_eq_true rfl, Nat.le_of_ble_eq_true rfl⟩ rfl hl.1 rfl (Nat.le_of_ble_eq_true rfl) dX4_readSum_25) hS (fun H locs hR hS => ?_)
        obtain ⟨x28, ex28⟩ : ∃ y : Int32, y = (i1 + 1) := ⟨_, rfl⟩
        have h := mlt_n h x28 ex28
        refine lv_iinc (v := x28) (lv' := [(1, .int x28), (0, .ref (X.1 78))]) hx hb dX4_readSum_28 hl (k := 1) rfl (by rw [ex28]; rfl) (by decide) rfl (fun ls hl => ?_)
        refine lv_goto (tgt := 6) hx hb dX4_readSum_31 (by decide) ?_
        exact ih x28 M25 h H locs ls hR hS (lv_sub hl [1, 0] rfl)
set_option maxRecDepth 100000 in
set_option maxHeartbeats 4000000 in
theorem w_X4_readSum {l : Launch} {X : mX} {p : Program} {e : Env} {s : State} {m : MethodId} {args : Array Value} {below : List Frame} {meth : Method} {c : Code} {r : mM} (hs : mS X RX4 cX4_readSum 2 none p s m meth c) : ∀  (M : mM), f_X4_readSum  M = some r → mG X p l e (rmF 3 62) s m args below meth c (MQ below (mQv X r) args s 0 0 (mL X)) 2 0 [(0, .ref (X.1 78))] [] M := by
  obtain ⟨hx, hb, hml, hown, hF, hlk, hr⟩ := id hs
  intro M h H locs ls hR hS hl
  refine lv_aload_n hx hb dX4_readSum_0 rfl (lv_at hl 0 rfl) ?_
  obtain ⟨M1, q1, h⟩ := mbp_e h
  refine m_cv (m_rV hx hb hml hown hF hR hS (ent4 kd_78) kd_78 rfl (c_X4_readAtom l X M q1) q_X4_52_V hdV_X4_readAtom ⟨Nat.le_of_ble_eq_true rfl, Nat.le_of_ble_eq_true rfl⟩ rfl hl.1 rfl (Nat.le_of_ble_eq_true rfl) dX4_readSum_1) hS (fun H locs hR hS => ?_)
  refine lv_iconst (v := 0) hx hb dX4_readSum_4 (by decide) ?_
  refine lv_istore_n (lv' := [(1, .int 0), (0, .ref (X.1 78))]) hx hb dX4_readSum_5 rfl hl (by decide) rfl (fun ls hl => ?_)
  exact w_X4_readSum_b6 hs mN 0 M1 h H locs ls hR hS (lv_sub hl [1, 0] rfl)
theorem c_X4_readSum (l : Launch) (X : mX) (M : mM) {r : mM} (h : f_X4_readSum M = some r) : mMv l yX4_readSum cX4_readSum 2 3 62 X [.ref (X.1 78)] M r := m_ofv (by decide +kernel) (Nat.le_of_ble_eq_true rfl) rfl (fun p e s m args below meth c hs => w_X4_readSum hs M h)
set_option maxRecDepth 100000 in
set_option maxHeartbeats 4000000 in
theorem w_X4_readCheck_b28 {l : Launch} {X : mX} {p : Program} {e : Env} {s : State} {m : MethodId} {args : Array Value} {below : List Frame} {meth : Method} {c : Code} {r : mM} (hs : mS X RX4 cX4_readCheck 1 none p s m meth c) : ∀  (M : mM), f_X4_readCheck_b28  M = some r → mG X p l e (rmF 4 83) s m args below meth c (MQ below (mQv X r) args s 0 0 (mL X)) 1 28 [(0, .ref (X.1 78))] [] M := by
  obtain ⟨hx, hb, hml, hown, hF, hlk, hr⟩ := id hs
  intro M h H locs ls hR hS hl
  refine lv_aload_n hx hb dX4_readCheck_28 rfl (lv_at hl 0 rfl) ?_
  obtain ⟨M29, q29, h⟩ := mbp_e h
  refine m_cv (m_rV hx hb hml hown hF hR hS (ent4 kd_78) kd_78 rfl (c_X4_readSum l X M q29) q_X4_49_V hdV_X4_readSum ⟨Nat.le_of_ble_eq_true rfl, Nat.le_of_ble_eq_true rfl⟩ rfl hl.1 rfl (Nat.le_of_ble_eq_true rfl) dX4_readCheck_29) hS (fun H locs hR hS => ?_)
  exact m_vr hx hb hlk hr hR hS (Option.some.inj h).symm dX4_readCheck_32
set_option maxRecDepth 100000 in
set_option maxHeartbeats 4000000 in
theorem w_X4_readCheck {l : Launch} {X : mX} {p : Program} {e : Env} {s : State} {m : MethodId} {args : Array Value} {below : List Frame} {meth : Method} {c : Code} {r : mM} (hs : mS X RX4 cX4_readCheck 1 none p s m meth c) : ∀  (M : mM), f_X4_readCheck  M = some r → mG X p l e (rmF 4 83) s m args below meth c (MQ below (mQv X r) args s 0 0 (mL X)) 1 0 [(0, .ref (X.1 78))] [] M := by
  obtain ⟨hx, hb, hml, hown, hF, hlk, hr⟩ := id hs
  intro M h H locs ls hR hS hl
  refine lv_aload_n hx hb dX4_readCheck_0 rfl (lv_at hl 0 rfl) ?_
  obtain ⟨M1, q1, h⟩ := mbp_e h
  refine m_cv (m_rV hx hb hml hown hF hR hS (ent4 kd_78) kd_78 rfl (c_X4_readSum l X M q1) q_X4_49_V hdV_X4_readSum ⟨Nat.le_of_ble_eq_true rfl, Nat.le_of_ble_eq_true rfl⟩ rfl hl.1 rfl (Nat.le_of_ble_eq_true rfl) dX4_readCheck_1) hS (fun H locs hR hS => ?_)
  refine lv_aload_n hx hb dX4_readCheck_4 rfl (lv_at hl 0 rfl) ?_
  refine lv_bipush (v := 60) hx hb dX4_readCheck_5 (by decide) ?_
  obtain ⟨v7, M7, q7, h⟩ := mbw_e h
  refine m_ci (m_rU hx hb hml hown hF hR hS (ent4 kd_78) kd_78 rfl (c_X7_takeIf l X 78 60 isReader_78 M1 q7) q_X4_38_UX4 rfl hdU_X7_takeIf ⟨Nat.le_of_ble_eq_true rfl, Nat.le_of_ble_eq_true rfl⟩ rfl hl.1 rfl (Nat.le_of_ble_eq_true rfl) dX4_readCheck_7) hS (fun H locs hR hS => ?_)
  refine lv_if_ne (tgt := 28) hx hb dX4_readCheck_10 (by decide) (fun c10 => ?_) (fun c10 => ?_)
  · have h := mif_n h c10
    exact w_X4_readCheck_b28 hs M7 h H locs ls hR hS (lv_sub hl [0] rfl)
  · have h := mif_y h c10
    refine lv_aload_n hx hb dX4_readCheck_13 rfl (lv_at hl 0 rfl) ?_
    refine lv_bipush (v := 62) hx hb dX4_readCheck_14 (by decide) ?_
    obtain ⟨v16, M16, q16, h⟩ := mbw_e h
    refine m_ci (m_rU hx hb hml hown hF hR hS (ent4 kd_78) kd_78 rfl (c_X7_takeIf l X 78 62 isReader_78 M7 q16) q_X4_38_UX4 rfl hdU_X7_takeIf ⟨Nat.le_of_ble_eq_true rfl, Nat.le_of_ble_eq_true rfl⟩ rfl hl.1 rfl (Nat.le_of_ble_eq_true rfl) dX4_readCheck_16) hS (fun H locs hR hS => ?_)
    refine lv_if_ne (tgt := 28) hx hb dX4_readCheck_19 (by decide) (fun c19 => ?_) (fun c19 => ?_)
    · have h := mif_n h c19
      exact w_X4_readCheck_b28 hs M16 h H locs ls hR hS (lv_sub hl [0] rfl)
    · have h := mif_y h c19
      refine lv_aload_n hx hb dX4_readCheck_22 rfl (lv_at hl 0 rfl) ?_
      refine lv_bipush (v := 61) hx hb dX4_readCheck_23 (by decide) ?_
      obtain ⟨M25, q25, h⟩ := mbp_e h
      refine m_cv (m_rU hx hb hml hown hF hR hS (ent4 kd_78) kd_78 rfl (c_X7_demand l X 78 61 isReader_78 M16 q25) q_X4_42_UX4 rfl hdU_X7_demand ⟨Nat.le_of_ble_eq_true rfl, Nat.le_of_ble_eq_true rfl⟩ rfl hl.1 rfl (Nat.le_of_ble_eq_true rfl) dX4_readCheck_25) hS (fun H locs hR hS => ?_)
      exact w_X4_readCheck_b28 hs M25 h H locs ls hR hS (lv_sub hl [0] rfl)
theorem c_X4_readCheck (l : Launch) (X : mX) (M : mM) {r : mM} (h : f_X4_readCheck M = some r) : mMv l yX4_readCheck cX4_readCheck 1 4 83 X [.ref (X.1 78)] M r := m_ofv (by decide +kernel) (Nat.le_of_ble_eq_true rfl) rfl (fun p e s m args below meth c hs => w_X4_readCheck hs M h)
set_option maxRecDepth 100000 in
set_option maxHeartbeats 4000000 in
theorem w_X4_readAct_b38 {l : Launch} {X : mX} {p : Program} {e : Env} {s : State} {m : MethodId} {args : Array Value} {below : List Frame} {meth : Method} {c : Code} {r : mM} (hs : mS X RX4 cX4_readAct 1 none p s m meth c) : ∀  (M : mM), f_X4_readAct_b38  M = some r → mG X p l e (rmF 4 83) s m args below meth c (MQ below (mQv X r) args s 0 0 (mL X)) 1 38 [(0, .ref (X.1 78))] [] M := by
  obtain ⟨hx, hb, hml, hown, hF, hlk, hr⟩ := id hs
  intro M h H locs ls hR hS hl
  refine lv_aload_n hx hb dX4_readAct_38 rfl (lv_at hl 0 rfl) ?_
  obtain ⟨M39, q39, h⟩ := mbp_e h
  refine m_cv (m_rV hx hb hml hown hF hR hS (ent4 kd_78) kd_78 rfl (c_X4_readSum l X M q39) q_X4_49_V hdV_X4_readSum ⟨Nat.le_of_ble_eq_true rfl, Nat.le_of_ble_eq_true rfl⟩ rfl hl.1 rfl (Nat.le_of_ble_eq_true rfl) dX4_readAct_39) hS (fun H locs hR hS => ?_)
  refine lv_goto (tgt := 49) hx hb dX4_readAct_42 (by decide) ?_
  exact m_vr hx hb hlk hr hR hS (Option.some.inj h).symm dX4_readAct_49
set_option maxRecDepth 100000 in
set_option maxHeartbeats 4000000 in
theorem w_X4_readAct {l : Launch} {X : mX} {p : Program} {e : Env} {s : State} {m : MethodId} {args : Array Value} {below : List Frame} {meth : Method} {c : Code} {r : mM} (hs : mS X RX4 cX4_readAct 1 none p s m meth c) : ∀  (M : mM), f_X4_readAct  M = some r → mG X p l e (rmF 4 83) s m args below meth c (MQ below (mQv X r) args s 0 0 (mL X)) 1 0 [(0, .ref (X.1 78))] [] M := by
  obtain ⟨hx, hb, hml, hown, hF, hlk, hr⟩ := id hs
  intro M h H locs ls hR hS hl
  refine lv_aload_n hx hb dX4_readAct_0 rfl (lv_at hl 0 rfl) ?_
  refine lv_bipush (v := 103) hx hb dX4_readAct_1 (by decide) ?_
  obtain ⟨v3, M3, q3, h⟩ := mbw_e h
  refine m_ci (m_rU hx hb hml hown hF hR hS (ent4 kd_78) kd_78 rfl (c_X7_takeIf l X 78 103 isReader_78 M q3) q_X4_38_UX4 rfl hdU_X7_takeIf ⟨Nat.le_of_ble_eq_true rfl, Nat.le_of_ble_eq_true rfl⟩ rfl hl.1 rfl (Nat.le_of_ble_eq_true rfl) dX4_readAct_3) hS (fun H locs hR hS => ?_)
  refine lv_if_eq (tgt := 20) hx hb dX4_readAct_6 (by decide) (fun c6 => ?_) (fun c6 => ?_)
  · have h := mif_y h c6
    refine lv_aload_n hx hb dX4_readAct_20 rfl (lv_at hl 0 rfl) ?_
    refine lv_bipush (v := 121) hx hb dX4_readAct_21 (by decide) ?_
    obtain ⟨v23, M23, q23, h⟩ := mbw_e h
    refine m_ci (m_rU hx hb hml hown hF hR hS (ent4 kd_78) kd_78 rfl (c_X7_takeIf l X 78 121 isReader_78 M3 q23) q_X4_38_UX4 rfl hdU_X7_takeIf ⟨Nat.le_of_ble_eq_true rfl, Nat.le_of_ble_eq_true rfl⟩ rfl hl.1 rfl (Nat.le_of_ble_eq_true rfl) dX4_readAct_23) hS (fun H locs hR hS => ?_)
    refine lv_if_ne (tgt := 38) hx hb dX4_readAct_26 (by decide) (fun c26 => ?_) (fun c26 => ?_)
    · have h := mif_n h c26
      exact w_X4_readAct_b38 hs M23 h H locs ls hR hS (lv_sub hl [0] rfl)
    · have h := mif_y h c26
      refine lv_aload_n hx hb dX4_readAct_29 rfl (lv_at hl 0 rfl) ?_
      refine lv_bipush (v := 61) hx hb dX4_readAct_30 (by decide) ?_
      obtain ⟨v32, M32, q32, h⟩ := mbw_e h
      refine m_ci (m_rU hx hb hml hown hF hR hS (ent4 kd_78) kd_78 rfl (c_X7_takeIf l X 78 61 isReader_78 M23 q32) q_X4_38_UX4 rfl hdU_X7_takeIf ⟨Nat.le_of_ble_eq_true rfl, Nat.le_of_ble_eq_true rfl⟩ rfl hl.1 rfl (Nat.le_of_ble_eq_true rfl) dX4_readAct_32) hS (fun H locs hR hS => ?_)
      refine lv_if_eq (tgt := 45) hx hb dX4_readAct_35 (by decide) (fun c35 => ?_) (fun c35 => ?_)
      · have h := mif_y h c35
        refine lv_aload_n hx hb dX4_readAct_45 rfl (lv_at hl 0 rfl) ?_
        obtain ⟨M46, q46, h⟩ := mbp_e h
        refine m_cv (m_rU hx hb hml hown hF hR hS (ent4 kd_78) kd_78 rfl (c_X7_fail l X 78 isReader_78 M32 q46) q_X4_72_UX4 rfl hdU_X7_fail ⟨Nat.le_of_ble_eq_true rfl, Nat.le_of_ble_eq_true rfl⟩ rfl hl.1 rfl (Nat.le_of_ble_eq_true rfl) dX4_readAct_46) hS (fun H locs hR hS => ?_)
        exact m_vr hx hb hlk hr hR hS (Option.some.inj h).symm dX4_readAct_49
      · have h := mif_n h c35
        exact w_X4_readAct_b38 hs M32 h H locs ls hR hS (lv_sub hl [0] rfl)
  · have h := mif_n h c6
    refine lv_aload_n hx hb dX4_readAct_9 rfl (lv_at hl 0 rfl) ?_
    refine lv_iconst (v := 0) hx hb dX4_readAct_10 (by decide) ?_
    refine lv_bipush (v := 7) hx hb dX4_readAct_11 (by decide) ?_
    obtain ⟨v13, M13, q13, h⟩ := mbw_e h
    refine m_ci (m_rU hx hb hml hown hF hR hS (ent4 kd_78) kd_78 rfl (c_X7_demandDigit l X 78 0 7 isReader_78 M3 q13) q_X4_75_UX4 rfl hdU_X7_demandDigit ⟨Nat.le_of_ble_eq_true rfl, Nat.le_of_ble_eq_true rfl⟩ rfl hl.1 rfl (Nat.le_of_ble_eq_true rfl) dX4_readAct_13) hS (fun H locs hR hS => ?_)
    refine lv_pop hx hb dX4_readAct_16 rfl ?_
    refine lv_goto (tgt := 49) hx hb dX4_readAct_17 (by decide) ?_
    exact m_vr hx hb hlk hr hR hS (Option.some.inj h).symm dX4_readAct_49
theorem c_X4_readAct (l : Launch) (X : mX) (M : mM) {r : mM} (h : f_X4_readAct M = some r) : mMv l yX4_readAct cX4_readAct 1 4 83 X [.ref (X.1 78)] M r := m_ofv (by decide +kernel) (Nat.le_of_ble_eq_true rfl) rfl (fun p e s m args below meth c hs => w_X4_readAct hs M h)
set_option maxRecDepth 100000 in
set_option maxHeartbeats 4000000 in
theorem w_X4_readRule_b31 {l : Launch} {X : mX} {p : Program} {e : Env} {s : State} {m : MethodId} {args : Array Value} {below : List Frame} {meth : Method} {c : Code} {r : mM} (hs : mS X RX4 cX4_readRule 2 none p s m meth c) : ∀  (M : mM), f_X4_readRule_b31  M = some r → mG X p l e (rmF 5 103) s m args below meth c (MQ below (mQv X r) args s 0 0 (mL X)) 2 31 [(0, .ref (X.1 78))] [] M := by
  obtain ⟨hx, hb, hml, hown, hF, hlk, hr⟩ := id hs
  intro M h H locs ls hR hS hl
  refine lv_aload_n hx hb dX4_readRule_31 rfl (lv_at hl 0 rfl) ?_
  refine lv_bipush (v := 63) hx hb dX4_readRule_32 (by decide) ?_
  obtain ⟨M34, q34, h⟩ := mbp_e h
  refine m_cv (m_rU hx hb hml hown hF hR hS (ent4 kd_78) kd_78 rfl (c_X7_demand l X 78 63 isReader_78 M q34) q_X4_42_UX4 rfl hdU_X7_demand ⟨Nat.le_of_ble_eq_true rfl, Nat.le_of_ble_eq_true rfl⟩ rfl hl.1 rfl (Nat.le_of_ble_eq_true rfl) dX4_readRule_34) hS (fun H locs hR hS => ?_)
  refine lv_aload_n hx hb dX4_readRule_37 rfl (lv_at hl 0 rfl) ?_
  obtain ⟨M38, q38, h⟩ := mbp_e h
  refine m_cv (m_rV hx hb hml hown hF hR hS (ent4 kd_78) kd_78 rfl (c_X4_readAct l X M34 q38) q_X4_46_V hdV_X4_readAct ⟨Nat.le_of_ble_eq_true rfl, Nat.le_of_ble_eq_true rfl⟩ rfl hl.1 rfl (Nat.le_of_ble_eq_true rfl) dX4_readRule_38) hS (fun H locs hR hS => ?_)
  refine lv_aload_n hx hb dX4_readRule_41 rfl (lv_at hl 0 rfl) ?_
  refine lv_bipush (v := 59) hx hb dX4_readRule_42 (by decide) ?_
  obtain ⟨M44, q44, h⟩ := mbp_e h
  refine m_cv (m_rU hx hb hml hown hF hR hS (ent4 kd_78) kd_78 rfl (c_X7_demand l X 78 59 isReader_78 M38 q44) q_X4_42_UX4 rfl hdU_X7_demand ⟨Nat.le_of_ble_eq_true rfl, Nat.le_of_ble_eq_true rfl⟩ rfl hl.1 rfl (Nat.le_of_ble_eq_true rfl) dX4_readRule_44) hS (fun H locs hR hS => ?_)
  exact m_vr hx hb hlk hr hR hS (Option.some.inj h).symm dX4_readRule_47
set_option maxRecDepth 100000 in
set_option maxHeartbeats 4000000 in
theorem w_X4_readRule_b6 {l : Launch} {X : mX} {p : Program} {e : Env} {s : State} {m : MethodId} {args : Array Value} {below : List Frame} {meth : Method} {c : Code} {r : mM} (hs : mS X RX4 cX4_readRule 2 none p s m meth c) : ∀ n : Nat, ∀ (i1 : Int32) (M : mM), f_X4_readRule_b6 n i1 M = some r → mG X p l e (rmF 5 103) s m args below meth c (MQ below (mQv X r) args s 0 0 (mL X)) 2 6 [(0, .ref (X.1 78)), (1, .int i1)] [] M := by
  obtain ⟨hx, hb, hml, hown, hF, hlk, hr⟩ := id hs
  intro n
  induction n with
  | zero =>
    intro i1 M h
    have h0 : (none : Option (mM)) = some r := h
    cases h0
  | succ n ih =>
    intro i1 M h H locs ls hR hS hl
    refine lv_iload_n hx hb dX4_readRule_6 rfl (lv_at hl 1 rfl) ?_
    refine lv_bipush (v := 90) hx hb dX4_readRule_7 (by decide) ?_
    refine lv_icmp_ge (tgt := 31) hx hb dX4_readRule_9 (by decide) (fun c9 => ?_) (fun c9 => ?_)
    · have h := mif_y h c9
      exact w_X4_readRule_b31 hs M h H locs ls hR hS (lv_sub hl [0] rfl)
    · have h := mif_n h c9
      refine lv_aload_n hx hb dX4_readRule_12 rfl (lv_at hl 0 rfl) ?_
      refine lv_bipush (v := 38) hx hb dX4_readRule_13 (by decide) ?_
      obtain ⟨v15, M15, q15, h⟩ := mbw_e h
      refine m_ci (m_rU hx hb hml hown hF hR hS (ent4 kd_78) kd_78 rfl (c_X7_takeIf l X 78 38 isReader_78 M q15) q_X4_38_UX4 rfl hdU_X7_takeIf ⟨Nat.le_of_ble_eq_true rfl, Nat.le_of_ble_eq_true rfl⟩ rfl hl.1 rfl (Nat.le_of_ble_eq_true rfl) dX4_readRule_15) hS (fun H locs hR hS => ?_)
      refine lv_if_eq (tgt := 31) hx hb dX4_readRule_18 (by decide) (fun c18 => ?_) (fun c18 => ?_)
      · have h := mif_y h c18
        exact w_X4_readRule_b31 hs M15 h H locs ls hR hS (lv_sub hl [0] rfl)
      · have h := mif_n h c18
        refine lv_aload_n hx hb dX4_readRule_21 rfl (lv_at hl 0 rfl) ?_
        obtain ⟨M22, q22, h⟩ := mbp_e h
        refine m_cv (m_rV hx hb hml hown hF hR hS (ent4 kd_78) kd_78 rfl (c_X4_readCheck l X M15 q22) q_X4_35_V hdV_X4_readCheck ⟨Nat.le_of_ble_eq_true rfl, Nat.le_of_ble_eq_true rfl⟩ rfl hl.1 rfl (Nat.le_of_ble_eq_true rfl) dX4_readRule_22) hS (fun H locs hR hS => ?_)
        obtain ⟨x25, ex25⟩ : ∃ y : Int32, y = (i1 + 1) := ⟨_, rfl⟩
        have h := mlt_n h x25 ex25
        refine lv_iinc (v := x25) (lv' := [(1, .int x25), (0, .ref (X.1 78))]) hx hb dX4_readRule_25 hl (k := 1) rfl (by rw [ex25]; rfl) (by decide) rfl (fun ls hl => ?_)
        refine lv_goto (tgt := 6) hx hb dX4_readRule_28 (by decide) ?_
        exact ih x25 M22 h H locs ls hR hS (lv_sub hl [1, 0] rfl)
set_option maxRecDepth 100000 in
set_option maxHeartbeats 4000000 in
theorem w_X4_readRule {l : Launch} {X : mX} {p : Program} {e : Env} {s : State} {m : MethodId} {args : Array Value} {below : List Frame} {meth : Method} {c : Code} {r : mM} (hs : mS X RX4 cX4_readRule 2 none p s m meth c) : ∀  (M : mM), f_X4_readRule  M = some r → mG X p l e (rmF 5 103) s m args below meth c (MQ below (mQv X r) args s 0 0 (mL X)) 2 0 [(0, .ref (X.1 78))] [] M := by
  obtain ⟨hx, hb, hml, hown, hF, hlk, hr⟩ := id hs
  intro M h H locs ls hR hS hl
  refine lv_aload_n hx hb dX4_readRule_0 rfl (lv_at hl 0 rfl) ?_
  obtain ⟨M1, q1, h⟩ := mbp_e h
  refine m_cv (m_rV hx hb hml hown hF hR hS (ent4 kd_78) kd_78 rfl (c_X4_readCheck l X M q1) q_X4_35_V hdV_X4_readCheck ⟨Nat.le_of_ble_eq_true rfl, Nat.le_of_ble_eq_true rfl⟩ rfl hl.1 rfl (Nat.le_of_ble_eq_true rfl) dX4_readRule_1) hS (fun H locs hR hS => ?_)
  refine lv_iconst (v := 0) hx hb dX4_readRule_4 (by decide) ?_
  refine lv_istore_n (lv' := [(1, .int 0), (0, .ref (X.1 78))]) hx hb dX4_readRule_5 rfl hl (by decide) rfl (fun ls hl => ?_)
  exact w_X4_readRule_b6 hs mN 0 M1 h H locs ls hR hS (lv_sub hl [1, 0] rfl)
theorem c_X4_readRule (l : Launch) (X : mX) (M : mM) {r : mM} (h : f_X4_readRule M = some r) : mMv l yX4_readRule cX4_readRule 2 5 103 X [.ref (X.1 78)] M r := m_ofv (by decide +kernel) (Nat.le_of_ble_eq_true rfl) rfl (fun p e s m args below meth c hs => w_X4_readRule hs M h)
set_option maxRecDepth 100000 in
set_option maxHeartbeats 4000000 in
theorem w_X4_check_b41 {l : Launch} {X : mX} {p : Program} {e : Env} {s : State} {m : MethodId} {args : Array Value} {below : List Frame} {meth : Method} {c : Code} {r : mM} (hs : mS X RX4 cX4_check 3 none p s m meth c) : ∀ (q1 : Nat) (h_q1 : isShelf q1) (M : mM), f_X4_check_b41 q1 M = some r → mG X p l e (rmF 6 124) s m args below meth c (MQ below (mQv X r) args s 0 0 (mL X)) 3 41 [(0, .ref (X.1 78))] [] M := by
  obtain ⟨hx, hb, hml, hown, hF, hlk, hr⟩ := id hs
  intro q1 h_q1 M h H locs ls hR hS hl
  refine lv_aload_n hx hb dX4_check_41 rfl (lv_at hl 0 rfl) ?_
  obtain ⟨M42, q42, h⟩ := mbp_e h
  refine m_cv (m_rU hx hb hml hown hF hR hS (ent4 kd_78) kd_78 rfl (c_X7_failUnlessAtEnd l X 78 isReader_78 M q42) q_X4_32_UX4 rfl hdU_X7_failUnlessAtEnd ⟨Nat.le_of_ble_eq_true rfl, Nat.le_of_ble_eq_true rfl⟩ rfl hl.1 rfl (Nat.le_of_ble_eq_true rfl) dX4_check_42) hS (fun H locs hR hS => ?_)
  exact m_vr hx hb hlk hr hR hS (Option.some.inj h).symm dX4_check_45
set_option maxRecDepth 100000 in
set_option maxHeartbeats 4000000 in
theorem w_X4_check_b31 {l : Launch} {X : mX} {p : Program} {e : Env} {s : State} {m : MethodId} {args : Array Value} {below : List Frame} {meth : Method} {c : Code} {r : mM} (hs : mS X RX4 cX4_check 3 none p s m meth c) (k14 : Nat → Int32 → mM → Option mM) (hk14 : ∀ (q1 : Nat) (i2 : Int32) (h_q1 : isShelf q1) (M : mM), k14 q1 i2 M = some r → mG X p l e (rmF 6 124) s m args below meth c (MQ below (mQv X r) args s 0 0 (mL X)) 3 14 [(0, .ref (X.1 78)), (2, .int i2)] [] M) : ∀ (q1 : Nat) (i2 : Int32) (h_q1 : isShelf q1) (M : mM), f_X4_check_b31 k14 q1 i2 M = some r → mG X p l e (rmF 6 124) s m args below meth c (MQ below (mQv X r) args s 0 0 (mL X)) 3 31 [(0, .ref (X.1 78)), (2, .int i2)] [] M := by
  obtain ⟨hx, hb, hml, hown, hF, hlk, hr⟩ := id hs
  intro q1 i2 h_q1 M h H locs ls hR hS hl
  refine lv_aload_n hx hb dX4_check_31 rfl (lv_at hl 0 rfl) ?_
  obtain ⟨M32, q32, h⟩ := mbp_e h
  refine m_cv (m_rV hx hb hml hown hF hR hS (ent4 kd_78) kd_78 rfl (c_X4_readRule l X M q32) q_X4_29_V hdV_X4_readRule ⟨Nat.le_of_ble_eq_true rfl, Nat.le_of_ble_eq_true rfl⟩ rfl hl.1 rfl (Nat.le_of_ble_eq_true rfl) dX4_check_32) hS (fun H locs hR hS => ?_)
  obtain ⟨x35, ex35⟩ : ∃ y : Int32, y = (i2 + 1) := ⟨_, rfl⟩
  have h := mlt_n h x35 ex35
  refine lv_iinc (v := x35) (lv' := [(2, .int x35), (0, .ref (X.1 78))]) hx hb dX4_check_35 hl (k := 1) rfl (by rw [ex35]; rfl) (by decide) rfl (fun ls hl => ?_)
  refine lv_goto (tgt := 14) hx hb dX4_check_38 (by decide) ?_
  exact hk14 q1 x35 h_q1 M32 h H locs ls hR hS (lv_sub hl [1, 0] rfl)
set_option maxRecDepth 100000 in
set_option maxHeartbeats 4000000 in
theorem w_X4_check_b14 {l : Launch} {X : mX} {p : Program} {e : Env} {s : State} {m : MethodId} {args : Array Value} {below : List Frame} {meth : Method} {c : Code} {r : mM} (hs : mS X RX4 cX4_check 3 none p s m meth c) : ∀ n : Nat, ∀ (q1 : Nat) (i2 : Int32) (h_q1 : isShelf q1) (M : mM), f_X4_check_b14 n q1 i2 M = some r → mG X p l e (rmF 6 124) s m args below meth c (MQ below (mQv X r) args s 0 0 (mL X)) 3 14 [(0, .ref (X.1 78)), (2, .int i2)] [] M := by
  obtain ⟨hx, hb, hml, hown, hF, hlk, hr⟩ := id hs
  intro n
  induction n with
  | zero =>
    intro q1 i2 h_q1 M h
    have h0 : (none : Option (mM)) = some r := h
    cases h0
  | succ n ih =>
    intro q1 i2 h_q1 M h H locs ls hR hS hl
    refine lv_iload_n hx hb dX4_check_14 rfl (lv_at hl 1 rfl) ?_
    refine lv_bipush (v := 6) hx hb dX4_check_15 (by decide) ?_
    refine lv_icmp_ge (tgt := 41) hx hb dX4_check_17 (by decide) (fun c17 => ?_) (fun c17 => ?_)
    · have h := mif_y h c17
      exact w_X4_check_b41 hs q1 h_q1 M h H locs ls hR hS (lv_sub hl [0] rfl)
    · have h := mif_n h c17
      refine lv_iload_n hx hb dX4_check_20 rfl (lv_at hl 1 rfl) ?_
      refine lv_if_eq (tgt := 31) hx hb dX4_check_21 (by decide) (fun c21 => ?_) (fun c21 => ?_)
      · have h := mif_y h c21
        exact w_X4_check_b31 hs (f_X4_check_b14 n) ih q1 i2 h_q1 M h H locs ls hR hS (lv_sub hl [0, 1] rfl)
      · have h := mif_n h c21
        refine lv_aload_n hx hb dX4_check_24 rfl (lv_at hl 0 rfl) ?_
        refine m_ci (m_rU hx hb hml hown hF hR hS (ent4 kd_78) kd_78 rfl (c_X7_atEnd l X 78 isReader_78 M) q_X4_25_UX4 rfl hdU_X7_atEnd ⟨Nat.le_of_ble_eq_true rfl, Nat.le_of_ble_eq_true rfl⟩ rfl hl.1 rfl (Nat.le_of_ble_eq_true rfl) dX4_check_25) hS (fun H locs hR hS => ?_)
        refine lv_if_ne (tgt := 41) hx hb dX4_check_28 (by decide) (fun c28 => ?_) (fun c28 => ?_)
        · have h := mif_n h c28
          exact w_X4_check_b41 hs q1 h_q1 M h H locs ls hR hS (lv_sub hl [0] rfl)
        · have h := mif_y h c28
          exact w_X4_check_b31 hs (f_X4_check_b14 n) ih q1 i2 h_q1 M h H locs ls hR hS (lv_sub hl [0, 1] rfl)
set_option maxRecDepth 100000 in
set_option maxHeartbeats 4000000 in
theorem w_X4_check {l : Launch} {X : mX} {p : Program} {e : Env} {s : State} {m : MethodId} {args : Array Value} {below : List Frame} {meth : Method} {c : Code} {r : mM} (hs : mS X RX4 cX4_check 3 none p s m meth c) : ∀ (q1 : Nat) (h_q1 : isShelf q1) (M : mM), f_X4_check q1 M = some r → mG X p l e (rmF 6 124) s m args below meth c (MQ below (mQv X r) args s 0 0 (mL X)) 3 0 [(0, .ref (X.1 78)), (1, .ref (X.1 q1))] [] M := by
  obtain ⟨hx, hb, hml, hown, hF, hlk, hr⟩ := id hs
  intro q1 h_q1 M h H locs ls hR hS hl
  refine lv_aload_n hx hb dX4_check_0 rfl (lv_at hl 0 rfl) ?_
  refine lv_aload_n hx hb dX4_check_1 rfl (lv_at hl 1 rfl) ?_
  refine m_g6_2 hx hb hF hown hR (kShelf0 h_q1) mw_2_17 dX4_check_2 ?_
  refine lv_aload_n hx hb dX4_check_5 rfl (lv_at hl 1 rfl) ?_
  refine m_g6_1 hx hb hF hown hR (kShelf0 h_q1) mw_2_11 dX4_check_6 ?_
  obtain ⟨M9, q9, h⟩ := mbp_e h
  refine m_cv (m_rU hx hb hml hown hF hR hS (ent4 kd_78) kd_78 rfl (c_X7_open l X 78 (q1 + 1) (M.1 q1 1) isReader_78 (kShelf1 h_q1) M q9) q_X4_19_UX4 rfl hdU_X7_open ⟨Nat.le_of_ble_eq_true rfl, Nat.le_of_ble_eq_true rfl⟩ rfl hl.1 rfl (Nat.le_of_ble_eq_true rfl) dX4_check_9) hS (fun H locs hR hS => ?_)
  refine lv_iconst (v := 0) hx hb dX4_check_12 (by decide) ?_
  refine lv_istore_n (lv' := [(2, .int 0), (0, .ref (X.1 78)), (1, .ref (X.1 q1))]) hx hb dX4_check_13 rfl hl (by decide) rfl (fun ls hl => ?_)
  exact w_X4_check_b14 hs mN q1 0 h_q1 M9 h H locs ls hR hS (lv_sub hl [1, 0] rfl)
theorem c_X4_check (l : Launch) (X : mX) (q1 : Nat) (h_q1 : isShelf q1) (M : mM) {r : mM} (h : f_X4_check q1 M = some r) : mMv l yX4_check cX4_check 3 6 124 X [.ref (X.1 78), .ref (X.1 q1)] M r := m_ofv (by decide +kernel) (Nat.le_of_ble_eq_true rfl) rfl (fun p e s m args below meth c hs => w_X4_check hs q1 h_q1 M h)
set_option maxRecDepth 100000 in
set_option maxHeartbeats 4000000 in
theorem w_X9_fault {l : Launch} {X : mX} {p : Program} {e : Env} {s : State} {m : MethodId} {args : Array Value} {below : List Frame} {meth : Method} {c : Code} {r : Int32 × mM} (hs : mS X RX9 cX9_fault 4 (some .int) p s m meth c) : ∀ (i1 : Int32) (i2 : Int32) (M : mM), f_X9_fault i1 i2 M = some r → mG X p l e (rmF 102 3652) s m args below meth c (MQ below (mQi X r.2 r.1) args s 0 0 (mL X)) 4 0 [(0, .ref (X.1 0)), (1, .int i1), (2, .int i2)] [] M := by
  obtain ⟨hx, hb, hml, hown, hF, hlk, hr⟩ := id hs
  intro i1 i2 M h H locs ls hR hS hl
  refine lv_iload_n hx hb dX9_fault_0 rfl (lv_at hl 1 rfl) ?_
  refine m_ci (m_rS hx hb hml hown hF hR hS (c_X9_isShelf l X i1 M) q_X9_167_S hdS_X9_isShelf ⟨Nat.le_of_ble_eq_true rfl, Nat.le_of_ble_eq_true rfl⟩ rfl hl.1 rfl (Nat.le_of_ble_eq_true rfl) dX9_fault_1) hS (fun H locs hR hS => ?_)
  refine lv_if_eq (tgt := 16) hx hb dX9_fault_4 (by decide) (fun c4 => ?_) (fun c4 => ?_)
  · have h := mif_y h c4
    refine lv_iconst (v := (-1)) hx hb dX9_fault_16 (by decide) ?_
    exact m_ir hx hb hlk hr hR hS (Option.some.inj h).symm dX9_fault_17
  · have h := mif_n h c4
    refine lv_iload_n hx hb dX9_fault_7 rfl (lv_at hl 2 rfl) ?_
    refine lv_if_lt (tgt := 16) hx hb dX9_fault_8 (by decide) (fun c8 => ?_) (fun c8 => ?_)
    · have h := mif_y h c8
      refine lv_iconst (v := (-1)) hx hb dX9_fault_16 (by decide) ?_
      exact m_ir hx hb hlk hr hR hS (Option.some.inj h).symm dX9_fault_17
    · have h := mif_n h c8
      refine lv_iload_n hx hb dX9_fault_11 rfl (lv_at hl 2 rfl) ?_
      refine lv_iconst (v := 1) hx hb dX9_fault_12 (by decide) ?_
      refine lv_icmp_le (tgt := 18) hx hb dX9_fault_13 (by decide) (fun c13 => ?_) (fun c13 => ?_)
      · have h := mif_y h c13
        refine lv_aload_n hx hb dX9_fault_18 rfl (lv_at hl 0 rfl) ?_
        refine m_g8_8 hx hb hF hown hR kd_0 mw_2_50 dX9_fault_19 ?_
        refine lv_iload_n hx hb dX9_fault_22 rfl (lv_at hl 1 rfl) ?_
        obtain ⟨g23, h⟩ := mgd_e h
        refine m_sald hx hb hR kd_79 g23 dX9_fault_23 ?_
        refine lv_topc (fun h23 eh23 => ?_)
        have h := mlt_n h h23 eh23
        have h_h23 : isShelf h23 := by rw [eh23]; exact kShelfAt (vp_lt g23)
        refine lv_iconst (v := 0) hx hb dX9_fault_24 (by decide) ?_
        refine m_ci (m_rV hx hb hml hown hF hR hS (ent6 (kShelf0 h_h23)) (kShelf0 h_h23) rfl (c_X6_refusalOfRow l X h23 0 h_h23 M) q_X9_170_V hdV_X6_refusalOfRow ⟨Nat.le_of_ble_eq_true rfl, Nat.le_of_ble_eq_true rfl⟩ rfl hl.1 rfl (Nat.le_of_ble_eq_true rfl) dX9_fault_25) hS (fun H locs hR hS => ?_)
        refine lv_topi (fun x28 ex28 => ?_)
        have h := mlt_n h x28 ex28
        refine lv_istore_n (lv' := [(3, .int x28), (0, .ref (X.1 0)), (1, .int i1), (2, .int i2)]) hx hb dX9_fault_28 rfl hl (by decide) rfl (fun ls hl => ?_)
        refine lv_iload_n hx hb dX9_fault_29 rfl (lv_at hl 0 rfl) ?_
        refine lv_if_ge (tgt := 35) hx hb dX9_fault_30 (by decide) (fun c30 => ?_) (fun c30 => ?_)
        · have h := mif_y h c30
          refine lv_iload_n hx hb dX9_fault_35 rfl (lv_at hl 3 rfl) ?_
          refine lv_if_ne (tgt := 77) hx hb dX9_fault_36 (by decide) (fun c36 => ?_) (fun c36 => ?_)
          · have h := mif_n h c36
            refine lv_aload_n hx hb dX9_fault_77 rfl (lv_at hl 1 rfl) ?_
            refine m_g8_7 hx hb hF hown hR kd_0 mw_2_49 dX9_fault_78 ?_
            refine lv_aload_n hx hb dX9_fault_81 rfl (lv_at hl 1 rfl) ?_
            refine m_g8_8 hx hb hF hown hR kd_0 mw_2_50 dX9_fault_82 ?_
            refine lv_iload_n hx hb dX9_fault_85 rfl (lv_at hl 2 rfl) ?_
            obtain ⟨g86, h⟩ := mgd_e h
            refine m_sald hx hb hR kd_79 g86 dX9_fault_86 ?_
            refine lv_topc (fun h86 eh86 => ?_)
            have h := mlt_n h h86 eh86
            have h_h86 : isShelf h86 := by rw [eh86]; exact kShelfAt (vp_lt g86)
            obtain ⟨M87, q87, h⟩ := mbp_e h
            refine m_cv (m_rV hx hb hml hown hF hR hS (ent4 kd_78) kd_78 rfl (c_X4_check l X h86 h_h86 M q87) q_X9_185_V hdV_X4_check ⟨Nat.le_of_ble_eq_true rfl, Nat.le_of_ble_eq_true rfl⟩ rfl hl.1 rfl (Nat.le_of_ble_eq_true rfl) dX9_fault_87) hS (fun H locs hR hS => ?_)
            refine lv_aload_n hx hb dX9_fault_90 rfl (lv_at hl 1 rfl) ?_
            refine m_g8_7 hx hb hF hown hR kd_0 mw_2_49 dX9_fault_91 ?_
            refine m_ci (m_rU hx hb hml hown hF hR hS (ent4 kd_78) kd_78 rfl (c_X7_isFaulty l X 78 isReader_78 M87) q_X9_189_UX4 rfl hdU_X7_isFaulty ⟨Nat.le_of_ble_eq_true rfl, Nat.le_of_ble_eq_true rfl⟩ rfl hl.1 rfl (Nat.le_of_ble_eq_true rfl) dX9_fault_94) hS (fun H locs hR hS => ?_)
            refine lv_if_eq (tgt := 110) hx hb dX9_fault_97 (by decide) (fun c97 => ?_) (fun c97 => ?_)
            · have h := mif_y h c97
              refine lv_bipush (v := (-4)) hx hb dX9_fault_110 (by decide) ?_
              exact m_ir hx hb hlk hr hR hS (Option.some.inj h).symm dX9_fault_112
            · have h := mif_n h c97
              refine lv_aload_n hx hb dX9_fault_100 rfl (lv_at hl 1 rfl) ?_
              refine m_g8_7 hx hb hF hown hR kd_0 mw_2_49 dX9_fault_101 ?_
              refine m_ci (m_rU hx hb hml hown hF hR hS (ent4 kd_78) kd_78 rfl (c_X7_faultPlace l X 78 isReader_78 M87) q_X9_190_UX4 rfl hdU_X7_faultPlace ⟨Nat.le_of_ble_eq_true rfl, Nat.le_of_ble_eq_true rfl⟩ rfl hl.1 rfl (Nat.le_of_ble_eq_true rfl) dX9_fault_104) hS (fun H locs hR hS => ?_)
              refine lv_goto (tgt := 112) hx hb dX9_fault_107 (by decide) ?_
              exact m_ir hx hb hlk hr hR hS (Option.some.inj h).symm dX9_fault_112
          · have h := mif_y h c36
            refine lv_aload_n hx hb dX9_fault_39 rfl (lv_at hl 1 rfl) ?_
            refine m_g8_6 hx hb hF hown hR kd_0 mw_2_48 dX9_fault_40 ?_
            refine lv_aload_n hx hb dX9_fault_43 rfl (lv_at hl 1 rfl) ?_
            refine m_g8_8 hx hb hF hown hR kd_0 mw_2_50 dX9_fault_44 ?_
            refine lv_iload_n hx hb dX9_fault_47 rfl (lv_at hl 2 rfl) ?_
            obtain ⟨g48, h⟩ := mgd_e h
            refine m_sald hx hb hR kd_79 g48 dX9_fault_48 ?_
            refine lv_topc (fun h48 eh48 => ?_)
            have h := mlt_n h h48 eh48
            have h_h48 : isShelf h48 := by rw [eh48]; exact kShelfAt (vp_lt g48)
            refine lv_iconst (v := 0) hx hb dX9_fault_49 (by decide) ?_
            obtain ⟨v50, M50, q50, h⟩ := mbw_e h
            refine m_cl (m_rV hx hb hml hown hF hR hS (ent5 kd_77) kd_77 rfl (c_X5_cellsOf l X h48 0 h_h48 M q50) q_X9_173_V hdV_X5_cellsOf ⟨Nat.le_of_ble_eq_true rfl, Nat.le_of_ble_eq_true rfl⟩ rfl hl.1 rfl (Nat.le_of_ble_eq_true rfl) dX9_fault_50) hS (fun H locs hR hS => ?_)
            refine lv_pop2_2 hx hb dX9_fault_53 rfl ?_
            refine lv_aload_n hx hb dX9_fault_54 rfl (lv_at hl 1 rfl) ?_
            refine m_g8_6 hx hb hF hown hR kd_0 mw_2_48 dX9_fault_55 ?_
            refine m_ci (m_rU hx hb hml hown hF hR hS (ent5 kd_77) kd_77 rfl (c_X7_isFaulty l X 77 isReader_77 M50) q_X9_177_UX5 rfl hdU_X7_isFaulty ⟨Nat.le_of_ble_eq_true rfl, Nat.le_of_ble_eq_true rfl⟩ rfl hl.1 rfl (Nat.le_of_ble_eq_true rfl) dX9_fault_58) hS (fun H locs hR hS => ?_)
            refine lv_if_eq (tgt := 74) hx hb dX9_fault_61 (by decide) (fun c61 => ?_) (fun c61 => ?_)
            · have h := mif_y h c61
              refine lv_bipush (v := (-4)) hx hb dX9_fault_74 (by decide) ?_
              exact m_ir hx hb hlk hr hR hS (Option.some.inj h).symm dX9_fault_76
            · have h := mif_n h c61
              refine lv_aload_n hx hb dX9_fault_64 rfl (lv_at hl 1 rfl) ?_
              refine m_g8_6 hx hb hF hown hR kd_0 mw_2_48 dX9_fault_65 ?_
              refine m_ci (m_rU hx hb hml hown hF hR hS (ent5 kd_77) kd_77 rfl (c_X7_faultPlace l X 77 isReader_77 M50) q_X9_181_UX5 rfl hdU_X7_faultPlace ⟨Nat.le_of_ble_eq_true rfl, Nat.le_of_ble_eq_true rfl⟩ rfl hl.1 rfl (Nat.le_of_ble_eq_true rfl) dX9_fault_68) hS (fun H locs hR hS => ?_)
              refine lv_goto (tgt := 76) hx hb dX9_fault_71 (by decide) ?_
              exact m_ir hx hb hlk hr hR hS (Option.some.inj h).symm dX9_fault_76
        · have h := mif_n h c30
          refine lv_iload_n hx hb dX9_fault_33 rfl (lv_at hl 0 rfl) ?_
          exact m_ir hx hb hlk hr hR hS (Option.some.inj h).symm dX9_fault_34
      · have h := mif_n h c13
        refine lv_iconst (v := (-1)) hx hb dX9_fault_16 (by decide) ?_
        exact m_ir hx hb hlk hr hR hS (Option.some.inj h).symm dX9_fault_17
theorem c_X9_fault (l : Launch) (X : mX) (i1 : Int32) (i2 : Int32) (M : mM) {r : Int32 × mM} (h : f_X9_fault i1 i2 M = some r) : mMi l yX9_fault cX9_fault 4 (some .int) 102 3652 X [.ref (X.1 0), .int i1, .int i2] M r := m_ofi (by decide +kernel) (Nat.le_of_ble_eq_true rfl) rfl (fun p e s m args below meth c hs => w_X9_fault hs i1 i2 M h)
set_option maxRecDepth 100000 in
set_option maxHeartbeats 4000000 in
theorem w_X8_addShape {l : Launch} {X : mX} {p : Program} {e : Env} {s : State} {m : MethodId} {args : Array Value} {below : List Frame} {meth : Method} {c : Code} {r : Int32 × mM} (hs : mS X RX8 cX8_addShape 5 (some .int) p s m meth c) : ∀ (b : Nat) (j1 : Int64) (j3 : Int64) (h_b : isWorld b) (M : mM), f_X8_addShape b j1 j3 M = some r → mG X p l e (rmF 0 0) s m args below meth c (MQ below (mQi X r.2 r.1) args s 0 0 (mL X)) 5 0 [(0, .ref (X.1 b)), (1, .long j1), (3, .long j3)] [] M := by
  obtain ⟨hx, hb, hml, hown, hF, hlk, hr⟩ := id hs
  intro b j1 j3 h_b M h H locs ls hR hS hl
  refine lv_aload_n hx hb dX8_addShape_0 rfl (lv_at hl 0 rfl) ?_
  refine m_g7_6 hx hb hF hown hR (kWorld0 h_b) mw_1_134 dX8_addShape_1 ?_
  refine lv_bipush (v := 8) hx hb dX8_addShape_4 (by decide) ?_
  refine lv_icmp_lt (tgt := 12) hx hb dX8_addShape_6 (by decide) (fun c6 => ?_) (fun c6 => ?_)
  · have h := mif_y h c6
    refine lv_aload_n hx hb dX8_addShape_12 rfl (lv_at hl 0 rfl) ?_
    refine m_g7_7 hx hb hF hown hR (kWorld0 h_b) mw_1_136 dX8_addShape_13 ?_
    refine lv_aload_n hx hb dX8_addShape_16 rfl (lv_at hl 0 rfl) ?_
    refine m_g7_6 hx hb hF hown hR (kWorld0 h_b) mw_1_134 dX8_addShape_17 ?_
    refine lv_iconst (v := 2) hx hb dX8_addShape_20 (by decide) ?_
    refine lv_imul hx hb dX8_addShape_21 ?_
    refine lv_lload_n hx hb dX8_addShape_22 rfl (lv_at hl 1 rfl) ?_
    obtain ⟨g23, h⟩ := mgd_e h
    obtain ⟨M23, eM23⟩ : ∃ y : mM, y = mJ M (b + 13) (Int32.toNatClampNeg ((M.1 b 6) * 2)) j1 := ⟨_, rfl⟩
    have h := mlt_n h M23 eM23
    refine m_lastL hx hb hR hS (kWorld13 h_b) g23 (jn := (Int32.toNatClampNeg ((M.1 b 6) * 2))) rfl dX8_addShape_23 eM23 (fun H locs hR hS => ?_)
    refine lv_aload_n hx hb dX8_addShape_24 rfl (lv_at hl 0 rfl) ?_
    refine m_g7_7 hx hb hF hown hR (kWorld0 h_b) mw_1_136 dX8_addShape_25 ?_
    refine lv_aload_n hx hb dX8_addShape_28 rfl (lv_at hl 0 rfl) ?_
    refine m_g7_6 hx hb hF hown hR (kWorld0 h_b) mw_1_134 dX8_addShape_29 ?_
    refine lv_iconst (v := 2) hx hb dX8_addShape_32 (by decide) ?_
    refine lv_imul hx hb dX8_addShape_33 ?_
    refine lv_iconst (v := 1) hx hb dX8_addShape_34 (by decide) ?_
    refine lv_iadd hx hb dX8_addShape_35 ?_
    refine lv_lload_n hx hb dX8_addShape_36 rfl (lv_at hl 2 rfl) ?_
    obtain ⟨g37, h⟩ := mgd_e h
    obtain ⟨M37, eM37⟩ : ∃ y : mM, y = mJ M23 (b + 13) (Int32.toNatClampNeg (((M23.1 b 6) * 2) + 1)) j3 := ⟨_, rfl⟩
    have h := mlt_n h M37 eM37
    refine m_lastL hx hb hR hS (kWorld13 h_b) g37 (jn := (Int32.toNatClampNeg (((M23.1 b 6) * 2) + 1))) rfl dX8_addShape_37 eM37 (fun H locs hR hS => ?_)
    refine lv_aload_n hx hb dX8_addShape_38 rfl (lv_at hl 0 rfl) ?_
    refine lv_dup hx hb dX8_addShape_39 rfl ?_
    refine m_g7_6 hx hb hF hown hR (kWorld0 h_b) mw_1_134 dX8_addShape_40 ?_
    refine lv_iconst (v := 1) hx hb dX8_addShape_43 (by decide) ?_
    refine lv_iadd hx hb dX8_addShape_44 ?_
    obtain ⟨M45, eM45⟩ : ∃ y : mM, y = mI M37 b 6 ((M37.1 b 6) + 1) := ⟨_, rfl⟩
    have h := mlt_n h M45 eM45
    refine m_p7_6 hx hb hF hown hR hS (kWorld0 h_b) mw_1_134 dX8_addShape_45 eM45 (fun H locs hR hS => ?_)
    refine lv_aload_n hx hb dX8_addShape_48 rfl (lv_at hl 0 rfl) ?_
    refine m_g7_6 hx hb hF hown hR (kWorld0 h_b) mw_1_134 dX8_addShape_49 ?_
    refine lv_iconst (v := 1) hx hb dX8_addShape_52 (by decide) ?_
    refine lv_isub hx hb dX8_addShape_53 ?_
    exact m_ir hx hb hlk hr hR hS (Option.some.inj h).symm dX8_addShape_54
  · have h := mif_n h c6
    refine lv_bipush (v := (-2)) hx hb dX8_addShape_9 (by decide) ?_
    exact m_ir hx hb hlk hr hR hS (Option.some.inj h).symm dX8_addShape_11
theorem c_X8_addShape (l : Launch) (X : mX) (b : Nat) (j1 : Int64) (j3 : Int64) (h_b : isWorld b) (M : mM) {r : Int32 × mM} (h : f_X8_addShape b j1 j3 M = some r) : mMi l yX8_addShape cX8_addShape 5 (some .int) 0 0 X [.ref (X.1 b), .long j1, .long j3] M r := m_ofi (by decide +kernel) (Nat.le_of_ble_eq_true rfl) rfl (fun p e s m args below meth c hs => w_X8_addShape hs b j1 j3 h_b M h)
set_option maxRecDepth 100000 in
set_option maxHeartbeats 4000000 in
theorem w_X9_shape {l : Launch} {X : mX} {p : Program} {e : Env} {s : State} {m : MethodId} {args : Array Value} {below : List Frame} {meth : Method} {c : Code} {r : Int32 × mM} (hs : mS X RX9 cX9_shape 7 (some .int) p s m meth c) : ∀ (i1 : Int32) (M : mM), f_X9_shape i1 M = some r → mG X p l e (rmF 102 3652) s m args below meth c (MQ below (mQi X r.2 r.1) args s 0 0 (mL X)) 7 0 [(0, .ref (X.1 0)), (1, .int i1)] [] M := by
  obtain ⟨hx, hb, hml, hown, hF, hlk, hr⟩ := id hs
  intro i1 M h H locs ls hR hS hl
  refine lv_iload_n hx hb dX9_shape_0 rfl (lv_at hl 1 rfl) ?_
  refine m_ci (m_rS hx hb hml hown hF hR hS (c_X9_isShelf l X i1 M) q_X9_167_S hdS_X9_isShelf ⟨Nat.le_of_ble_eq_true rfl, Nat.le_of_ble_eq_true rfl⟩ rfl hl.1 rfl (Nat.le_of_ble_eq_true rfl) dX9_shape_1) hS (fun H locs hR hS => ?_)
  refine lv_if_ne (tgt := 9) hx hb dX9_shape_4 (by decide) (fun c4 => ?_) (fun c4 => ?_)
  · have h := mif_n h c4
    refine lv_aload_n hx hb dX9_shape_9 rfl (lv_at hl 0 rfl) ?_
    refine m_g8_0 hx hb hF hown hR kd_0 mw_2_42 dX9_shape_10 ?_
    refine m_g7_6 hx hb hF hown hR kd_1 mw_1_135 dX9_shape_13 ?_
    refine lv_bipush (v := 8) hx hb dX9_shape_16 (by decide) ?_
    refine lv_icmp_lt (tgt := 24) hx hb dX9_shape_18 (by decide) (fun c18 => ?_) (fun c18 => ?_)
    · have h := mif_y h c18
      refine lv_aload_n hx hb dX9_shape_24 rfl (lv_at hl 0 rfl) ?_
      refine m_g8_8 hx hb hF hown hR kd_0 mw_2_50 dX9_shape_25 ?_
      refine lv_iload_n hx hb dX9_shape_28 rfl (lv_at hl 1 rfl) ?_
      obtain ⟨g29, h⟩ := mgd_e h
      refine m_sald hx hb hR kd_79 g29 dX9_shape_29 ?_
      refine lv_topc (fun h29 eh29 => ?_)
      have h := mlt_n h h29 eh29
      have h_h29 : isShelf h29 := by rw [eh29]; exact kShelfAt (vp_lt g29)
      refine lv_iconst (v := 0) hx hb dX9_shape_30 (by decide) ?_
      refine m_ci (m_rV hx hb hml hown hF hR hS (ent6 (kShelf0 h_h29)) (kShelf0 h_h29) rfl (c_X6_refusalOfRow l X h29 0 h_h29 M) q_X9_170_V hdV_X6_refusalOfRow ⟨Nat.le_of_ble_eq_true rfl, Nat.le_of_ble_eq_true rfl⟩ rfl hl.1 rfl (Nat.le_of_ble_eq_true rfl) dX9_shape_31) hS (fun H locs hR hS => ?_)
      refine lv_topi (fun x34 ex34 => ?_)
      have h := mlt_n h x34 ex34
      refine lv_istore_n (lv' := [(2, .int x34), (0, .ref (X.1 0)), (1, .int i1)]) hx hb dX9_shape_34 rfl hl (by decide) rfl (fun ls hl => ?_)
      refine lv_iload_n hx hb dX9_shape_35 rfl (lv_at hl 0 rfl) ?_
      refine lv_if_ge (tgt := 41) hx hb dX9_shape_36 (by decide) (fun c36 => ?_) (fun c36 => ?_)
      · have h := mif_y h c36
        refine lv_aload_n hx hb dX9_shape_41 rfl (lv_at hl 1 rfl) ?_
        refine m_g8_6 hx hb hF hown hR kd_0 mw_2_48 dX9_shape_42 ?_
        refine lv_aload_n hx hb dX9_shape_45 rfl (lv_at hl 1 rfl) ?_
        refine m_g8_8 hx hb hF hown hR kd_0 mw_2_50 dX9_shape_46 ?_
        refine lv_iload_n hx hb dX9_shape_49 rfl (lv_at hl 2 rfl) ?_
        obtain ⟨g50, h⟩ := mgd_e h
        refine m_sald hx hb hR kd_79 g50 dX9_shape_50 ?_
        refine lv_topc (fun h50 eh50 => ?_)
        have h := mlt_n h h50 eh50
        have h_h50 : isShelf h50 := by rw [eh50]; exact kShelfAt (vp_lt g50)
        refine lv_iconst (v := 0) hx hb dX9_shape_51 (by decide) ?_
        obtain ⟨v52, M52, q52, h⟩ := mbw_e h
        refine m_cl (m_rV hx hb hml hown hF hR hS (ent5 kd_77) kd_77 rfl (c_X5_cellsOf l X h50 0 h_h50 M q52) q_X9_173_V hdV_X5_cellsOf ⟨Nat.le_of_ble_eq_true rfl, Nat.le_of_ble_eq_true rfl⟩ rfl hl.1 rfl (Nat.le_of_ble_eq_true rfl) dX9_shape_52) hS (fun H locs hR hS => ?_)
        refine lv_lstore_n (lv' := [(3, .long v52), (2, .int x34), (0, .ref (X.1 0)), (1, .int i1)]) hx hb dX9_shape_55 rfl hl (by decide) rfl (fun ls hl => ?_)
        refine lv_aload_n hx hb dX9_shape_56 rfl (lv_at hl 2 rfl) ?_
        refine m_g8_6 hx hb hF hown hR kd_0 mw_2_48 dX9_shape_57 ?_
        refine lv_aload_n hx hb dX9_shape_60 rfl (lv_at hl 2 rfl) ?_
        refine m_g8_8 hx hb hF hown hR kd_0 mw_2_50 dX9_shape_61 ?_
        refine lv_iload_n hx hb dX9_shape_64 rfl (lv_at hl 3 rfl) ?_
        obtain ⟨g65, h⟩ := mgd_e h
        refine m_sald hx hb hR kd_79 g65 dX9_shape_65 ?_
        refine lv_topc (fun h65 eh65 => ?_)
        have h := mlt_n h h65 eh65
        have h_h65 : isShelf h65 := by rw [eh65]; exact kShelfAt (vp_lt g65)
        refine lv_iconst (v := 1) hx hb dX9_shape_66 (by decide) ?_
        obtain ⟨v67, M67, q67, h⟩ := mbw_e h
        refine m_cl (m_rV hx hb hml hown hF hR hS (ent5 kd_77) kd_77 rfl (c_X5_cellsOf l X h65 1 h_h65 M52 q67) q_X9_173_V hdV_X5_cellsOf ⟨Nat.le_of_ble_eq_true rfl, Nat.le_of_ble_eq_true rfl⟩ rfl hl.1 rfl (Nat.le_of_ble_eq_true rfl) dX9_shape_67) hS (fun H locs hR hS => ?_)
        refine lv_lstore (lv' := [(5, .long v67), (3, .long v52), (2, .int x34), (0, .ref (X.1 0)), (1, .int i1)]) hx hb dX9_shape_70 hl (by decide) rfl (fun ls hl => ?_)
        refine lv_aload_n hx hb dX9_shape_72 rfl (lv_at hl 3 rfl) ?_
        refine m_g8_6 hx hb hF hown hR kd_0 mw_2_48 dX9_shape_73 ?_
        refine m_ci (m_rU hx hb hml hown hF hR hS (ent5 kd_77) kd_77 rfl (c_X7_isFaulty l X 77 isReader_77 M67) q_X9_177_UX5 rfl hdU_X7_isFaulty ⟨Nat.le_of_ble_eq_true rfl, Nat.le_of_ble_eq_true rfl⟩ rfl hl.1 rfl (Nat.le_of_ble_eq_true rfl) dX9_shape_76) hS (fun H locs hR hS => ?_)
        refine lv_if_eq (tgt := 95) hx hb dX9_shape_79 (by decide) (fun c79 => ?_) (fun c79 => ?_)
        · have h := mif_y h c79
          refine lv_aload_n hx hb dX9_shape_95 rfl (lv_at hl 3 rfl) ?_
          refine m_g8_0 hx hb hF hown hR kd_0 mw_2_42 dX9_shape_96 ?_
          refine lv_lload_n hx hb dX9_shape_99 rfl (lv_at hl 1 rfl) ?_
          refine lv_lload hx hb dX9_shape_100 (lv_at hl 0 rfl) ?_
          obtain ⟨v102, M102, q102, h⟩ := mbw_e h
          refine m_ci (m_rV hx hb hml hown hF hR hS (ent7 kd_1) kd_1 rfl (c_X8_addShape l X 1 v52 v67 isWorld_1 M67 q102) q_X9_194_V hdV_X8_addShape ⟨Nat.le_of_ble_eq_true rfl, Nat.le_of_ble_eq_true rfl⟩ rfl hl.1 rfl (Nat.le_of_ble_eq_true rfl) dX9_shape_102) hS (fun H locs hR hS => ?_)
          exact m_ir hx hb hlk hr hR hS (Option.some.inj h).symm dX9_shape_105
        · have h := mif_n h c79
          refine lv_bipush (v := (-100)) hx hb dX9_shape_82 (by decide) ?_
          refine lv_aload_n hx hb dX9_shape_84 rfl (lv_at hl 3 rfl) ?_
          refine m_g8_6 hx hb hF hown hR kd_0 mw_2_48 dX9_shape_85 ?_
          refine m_ci (m_rU hx hb hml hown hF hR hS (ent5 kd_77) kd_77 rfl (c_X7_faultPlace l X 77 isReader_77 M67) q_X9_181_UX5 rfl hdU_X7_faultPlace ⟨Nat.le_of_ble_eq_true rfl, Nat.le_of_ble_eq_true rfl⟩ rfl hl.1 rfl (Nat.le_of_ble_eq_true rfl) dX9_shape_88) hS (fun H locs hR hS => ?_)
          refine lv_isub hx hb dX9_shape_91 ?_
          refine lv_goto (tgt := 105) hx hb dX9_shape_92 (by decide) ?_
          exact m_ir hx hb hlk hr hR hS (Option.some.inj h).symm dX9_shape_105
      · have h := mif_n h c36
        refine lv_iload_n hx hb dX9_shape_39 rfl (lv_at hl 0 rfl) ?_
        exact m_ir hx hb hlk hr hR hS (Option.some.inj h).symm dX9_shape_40
    · have h := mif_n h c18
      refine lv_bipush (v := (-2)) hx hb dX9_shape_21 (by decide) ?_
      exact m_ir hx hb hlk hr hR hS (Option.some.inj h).symm dX9_shape_23
  · have h := mif_y h c4
    refine lv_iconst (v := (-1)) hx hb dX9_shape_7 (by decide) ?_
    exact m_ir hx hb hlk hr hR hS (Option.some.inj h).symm dX9_shape_8
theorem c_X9_shape (l : Launch) (X : mX) (i1 : Int32) (M : mM) {r : Int32 × mM} (h : f_X9_shape i1 M = some r) : mMi l yX9_shape cX9_shape 7 (some .int) 102 3652 X [.ref (X.1 0), .int i1] M r := m_ofi (by decide +kernel) (Nat.le_of_ble_eq_true rfl) rfl (fun p e s m args below meth c hs => w_X9_shape hs i1 M h)
set_option maxRecDepth 100000 in
set_option maxHeartbeats 4000000 in
theorem w_X8_hasShape {l : Launch} {X : mX} {p : Program} {e : Env} {s : State} {m : MethodId} {args : Array Value} {below : List Frame} {meth : Method} {c : Code} {M : mM} {r : Int32} (hs : mS X RX8 cX8_hasShape 2 (some .boolean) p s m meth c) : ∀ (b : Nat) (i1 : Int32) (h_b : isWorld b), f_X8_hasShape b i1 M = r → mG X p l e (rmF 0 0) s m args below meth c (MQ below (mQi X M r) args s 0 0 (mL X)) 2 0 [(0, .ref (X.1 b)), (1, .int i1)] [] M := by
  obtain ⟨hx, hb, hml, hown, hF, hlk, hr⟩ := id hs
  intro b i1 h_b h H locs ls hR hS hl
  refine lv_iload_n hx hb dX8_hasShape_0 rfl (lv_at hl 1 rfl) ?_
  refine lv_if_lt (tgt := 16) hx hb dX8_hasShape_1 (by decide) (fun c1 => ?_) (fun c1 => ?_)
  · have h := mif_y h c1
    refine lv_iconst (v := 0) hx hb dX8_hasShape_16 (by decide) ?_
    exact m_zr hx hb hlk hr hR hS (Or.inl rfl) (congrArg (fun z => (z, M)) h.symm) dX8_hasShape_17
  · have h := mif_n h c1
    refine lv_iload_n hx hb dX8_hasShape_4 rfl (lv_at hl 1 rfl) ?_
    refine lv_aload_n hx hb dX8_hasShape_5 rfl (lv_at hl 0 rfl) ?_
    refine m_g7_6 hx hb hF hown hR (kWorld0 h_b) mw_1_134 dX8_hasShape_6 ?_
    refine lv_icmp_ge (tgt := 16) hx hb dX8_hasShape_9 (by decide) (fun c9 => ?_) (fun c9 => ?_)
    · have h := mif_y h c9
      refine lv_iconst (v := 0) hx hb dX8_hasShape_16 (by decide) ?_
      exact m_zr hx hb hlk hr hR hS (Or.inl rfl) (congrArg (fun z => (z, M)) h.symm) dX8_hasShape_17
    · have h := mif_n h c9
      refine lv_iconst (v := 1) hx hb dX8_hasShape_12 (by decide) ?_
      refine lv_goto (tgt := 17) hx hb dX8_hasShape_13 (by decide) ?_
      exact m_zr hx hb hlk hr hR hS (Or.inr rfl) (congrArg (fun z => (z, M)) h.symm) dX8_hasShape_17
theorem c_X8_hasShape (l : Launch) (X : mX) (b : Nat) (i1 : Int32) (h_b : isWorld b) (M : mM) : mMi l yX8_hasShape cX8_hasShape 2 (some .boolean) 0 0 X [.ref (X.1 b), .int i1] M (f_X8_hasShape b i1 M, M) := m_ofi (by decide +kernel) (Nat.le_of_ble_eq_true rfl) rfl (fun p e s m args below meth c hs => w_X8_hasShape hs b i1 h_b rfl)
set_option maxRecDepth 100000 in
set_option maxHeartbeats 4000000 in
theorem w_X8_shapeHolds {l : Launch} {X : mX} {p : Program} {e : Env} {s : State} {m : MethodId} {args : Array Value} {below : List Frame} {meth : Method} {c : Code} {M : mM} {r : Int32} (hs : mS X RX8 cX8_shapeHolds 6 (some .boolean) p s m meth c) : ∀ (b : Nat) (i1 : Int32) (i2 : Int32) (i3 : Int32) (h_b : isWorld b), f_X8_shapeHolds b i1 i2 i3 M = some r → mG X p l e (rmF 0 0) s m args below meth c (MQ below (mQi X M r) args s 0 0 (mL X)) 6 0 [(0, .ref (X.1 b)), (1, .int i1), (2, .int i2), (3, .int i3)] [] M := by
  obtain ⟨hx, hb, hml, hown, hF, hlk, hr⟩ := id hs
  intro b i1 i2 i3 h_b h H locs ls hR hS hl
  refine lv_aload_n hx hb dX8_shapeHolds_0 rfl (lv_at hl 0 rfl) ?_
  refine m_g7_7 hx hb hF hown hR (kWorld0 h_b) mw_1_136 dX8_shapeHolds_1 ?_
  refine lv_iload_n hx hb dX8_shapeHolds_4 rfl (lv_at hl 1 rfl) ?_
  refine lv_iconst (v := 2) hx hb dX8_shapeHolds_5 (by decide) ?_
  refine lv_imul hx hb dX8_shapeHolds_6 ?_
  refine lv_iload_n hx hb dX8_shapeHolds_7 rfl (lv_at hl 3 rfl) ?_
  refine lv_iconst (v := 4) hx hb dX8_shapeHolds_8 (by decide) ?_
  refine lv_idiv hx hb dX8_shapeHolds_9 (by decide) ?_
  refine lv_iadd hx hb dX8_shapeHolds_10 ?_
  obtain ⟨g11, h⟩ := mgd_e h
  refine m_laldL hx hb hR (kWorld13 h_b) g11 (jn := (Int32.toNatClampNeg ((i1 * 2) + (i3 / 4)))) rfl dX8_shapeHolds_11 ?_
  refine lv_topl (fun x12 ex12 => ?_)
  have h := mlt_n h x12 ex12
  refine lv_lstore (lv' := [(4, .long x12), (0, .ref (X.1 b)), (1, .int i1), (2, .int i2), (3, .int i3)]) hx hb dX8_shapeHolds_12 hl (by decide) rfl (fun ls hl => ?_)
  refine lv_lload hx hb dX8_shapeHolds_14 (lv_at hl 0 rfl) ?_
  refine lv_iload_n hx hb dX8_shapeHolds_16 rfl (lv_at hl 4 rfl) ?_
  refine lv_iconst (v := 4) hx hb dX8_shapeHolds_17 (by decide) ?_
  refine lv_irem hx hb dX8_shapeHolds_18 (by decide) ?_
  refine lv_bipush (v := 10) hx hb dX8_shapeHolds_19 (by decide) ?_
  refine lv_imul hx hb dX8_shapeHolds_21 ?_
  refine lv_iload_n hx hb dX8_shapeHolds_22 rfl (lv_at hl 3 rfl) ?_
  refine lv_iadd hx hb dX8_shapeHolds_23 ?_
  refine lv_lshr hx hb dX8_shapeHolds_24 rfl ?_
  refine lv_lconst (v := 1) hx hb dX8_shapeHolds_25 (by decide) ?_
  refine lv_land hx hb dX8_shapeHolds_26 ?_
  refine lv_lconst (v := 0) hx hb dX8_shapeHolds_27 (by decide) ?_
  refine W.lcmp hx hb dX8_shapeHolds_28 ?_
  refine lv_if_eq (tgt := 36) hx hb dX8_shapeHolds_29 (by decide) (fun c29 => ?_) (fun c29 => ?_)
  · have h := mif_y h c29
    refine lv_iconst (v := 0) hx hb dX8_shapeHolds_36 (by decide) ?_
    exact m_zr hx hb hlk hr hR hS (Or.inl rfl) (congrArg (fun z => (z, M)) (Option.some.inj h).symm) dX8_shapeHolds_37
  · have h := mif_n h c29
    refine lv_iconst (v := 1) hx hb dX8_shapeHolds_32 (by decide) ?_
    refine lv_goto (tgt := 37) hx hb dX8_shapeHolds_33 (by decide) ?_
    exact m_zr hx hb hlk hr hR hS (Or.inr rfl) (congrArg (fun z => (z, M)) (Option.some.inj h).symm) dX8_shapeHolds_37
theorem c_X8_shapeHolds (l : Launch) (X : mX) (b : Nat) (i1 : Int32) (i2 : Int32) (i3 : Int32) (h_b : isWorld b) (M : mM) {r : Int32} (h : f_X8_shapeHolds b i1 i2 i3 M = some r) : mMi l yX8_shapeHolds cX8_shapeHolds 6 (some .boolean) 0 0 X [.ref (X.1 b), .int i1, .int i2, .int i3] M (r, M) := m_ofi (by decide +kernel) (Nat.le_of_ble_eq_true rfl) rfl (fun p e s m args below meth c hs => w_X8_shapeHolds hs b i1 i2 i3 h_b h)
