set_option maxRecDepth 100000 in
set_option maxHeartbeats 4000000 in
theorem w_X9_in {l : Launch} {X : mX} {p : Program} {e : Env} {s : State} {m : MethodId} {args : Array Value} {below : List Frame} {meth : Method} {c : Code} {M : mM} {r : Int32} (hs : mS X RX9 cX9_in 4 (some .int) p s m meth c) : ∀ (i1 : Int32) (i2 : Int32) (i3 : Int32), f_X9_in i1 i2 i3 M = some r → mG X p l e (rmF 1 25) s m args below meth c (MQ below (mQi X M r) args s 0 0 (mL X)) 4 0 [(0, .ref (X.1 0)), (1, .int i1), (2, .int i2), (3, .int i3)] [] M := by
  obtain ⟨hx, hb, hml, hown, hF, hlk, hr⟩ := id hs
  intro i1 i2 i3 h H locs ls hR hS hl
  refine lv_aload_n hx hb dX9_in_0 rfl (lv_at hl 0 rfl) ?_
  refine m_g8_0 hx hb hF hown hR kd_0 mw_2_42 dX9_in_1 ?_
  refine lv_iload_n hx hb dX9_in_4 rfl (lv_at hl 1 rfl) ?_
  refine m_ci (m_rV hx hb hml hown hF hR hS (ent7 kd_1) kd_1 rfl (c_X8_hasShape l X 1 i1 isWorld_1 M) q_X9_198_V hdV_X8_hasShape ⟨Nat.le_of_ble_eq_true rfl, Nat.le_of_ble_eq_true rfl⟩ rfl hl.1 rfl (Nat.le_of_ble_eq_true rfl) dX9_in_5) hS (fun H locs hR hS => ?_)
  refine lv_if_eq (tgt := 19) hx hb dX9_in_8 (by decide) (fun c8 => ?_) (fun c8 => ?_)
  · have h := mif_y h c8
    refine lv_iconst (v := (-1)) hx hb dX9_in_19 (by decide) ?_
    exact m_ir hx hb hlk hr hR hS (congrArg (fun z => (z, M)) (Option.some.inj h).symm) dX9_in_20
  · have h := mif_n h c8
    refine lv_iload_n hx hb dX9_in_11 rfl (lv_at hl 2 rfl) ?_
    refine lv_iload_n hx hb dX9_in_12 rfl (lv_at hl 3 rfl) ?_
    refine m_ci (m_rS hx hb hml hown hF hR hS (c_X9_onGrid l X i2 i3 M) q_X9_65_S hdS_X9_onGrid ⟨Nat.le_of_ble_eq_true rfl, Nat.le_of_ble_eq_true rfl⟩ rfl hl.1 rfl (Nat.le_of_ble_eq_true rfl) dX9_in_13) hS (fun H locs hR hS => ?_)
    refine lv_if_ne (tgt := 21) hx hb dX9_in_16 (by decide) (fun c16 => ?_) (fun c16 => ?_)
    · have h := mif_n h c16
      refine lv_aload_n hx hb dX9_in_21 rfl (lv_at hl 0 rfl) ?_
      refine m_g8_0 hx hb hF hown hR kd_0 mw_2_42 dX9_in_22 ?_
      refine lv_iload_n hx hb dX9_in_25 rfl (lv_at hl 1 rfl) ?_
      refine lv_iload_n hx hb dX9_in_26 rfl (lv_at hl 2 rfl) ?_
      refine lv_iload_n hx hb dX9_in_27 rfl (lv_at hl 3 rfl) ?_
      obtain ⟨v28, q28, h⟩ := mbp_e h
      refine m_ci (m_rV hx hb hml hown hF hR hS (ent7 kd_1) kd_1 rfl (c_X8_shapeHolds l X 1 i1 i2 i3 isWorld_1 M q28) q_X9_201_V hdV_X8_shapeHolds ⟨Nat.le_of_ble_eq_true rfl, Nat.le_of_ble_eq_true rfl⟩ rfl hl.1 rfl (Nat.le_of_ble_eq_true rfl) dX9_in_28) hS (fun H locs hR hS => ?_)
      refine m_ci (m_rS hx hb hml hown hF hR hS (c_X9_oneIf l X v28 M) q_X9_115_S hdS_X9_oneIf ⟨Nat.le_of_ble_eq_true rfl, Nat.le_of_ble_eq_true rfl⟩ rfl hl.1 rfl (Nat.le_of_ble_eq_true rfl) dX9_in_31) hS (fun H locs hR hS => ?_)
      exact m_ir hx hb hlk hr hR hS (congrArg (fun z => (z, M)) (Option.some.inj h).symm) dX9_in_34
    · have h := mif_y h c16
      refine lv_iconst (v := (-1)) hx hb dX9_in_19 (by decide) ?_
      exact m_ir hx hb hlk hr hR hS (congrArg (fun z => (z, M)) (Option.some.inj h).symm) dX9_in_20
theorem c_X9_in (l : Launch) (X : mX) (i1 : Int32) (i2 : Int32) (i3 : Int32) (M : mM) {r : Int32} (h : f_X9_in i1 i2 i3 M = some r) : mMi l yX9_in cX9_in 4 (some .int) 1 25 X [.ref (X.1 0), .int i1, .int i2, .int i3] M (r, M) := m_ofi (by decide +kernel) (Nat.le_of_ble_eq_true rfl) rfl (fun p e s m args below meth c hs => w_X9_in hs i1 i2 i3 h)
set_option maxRecDepth 100000 in
set_option maxHeartbeats 4000000 in
theorem w_J13_bitCount_95d88 {l : Launch} {X : mX} {p : Program} {e : Env} {s : State} {m : MethodId} {args : Array Value} {below : List Frame} {meth : Method} {c : Code} {M : mM} {r : Int32} (hs : mS X RJ13 cJ13_bitCount_95d88 2 (some .int) p s m meth c) : ∀ (j0 : Int64), f_J13_bitCount_95d88 j0 = r → mG X p l e (rmF 0 0) s m args below meth c (MQ below (mQi X M r) args s 0 0 (mL X)) 2 0 [(0, .long j0)] [] M := by
  obtain ⟨hx, hb, hml, hown, hF, hlk, hr⟩ := id hs
  intro j0 h H locs ls hR hS hl
  refine lv_lload_n hx hb dJ13_bitCount_95d88_0 rfl (lv_at hl 0 rfl) ?_
  refine lv_lload_n hx hb dJ13_bitCount_95d88_1 rfl (lv_at hl 0 rfl) ?_
  refine lv_iconst (v := 1) hx hb dJ13_bitCount_95d88_2 (by decide) ?_
  refine lv_lushr hx hb dJ13_bitCount_95d88_3 rfl ?_
  refine lv_ldc2 hx hb hown (hF.w mw_3_193) dJ13_bitCount_95d88_4 ?_
  refine lv_land hx hb dJ13_bitCount_95d88_7 ?_
  refine lv_lsub hx hb dJ13_bitCount_95d88_8 ?_
  refine lv_topl (fun x9 ex9 => ?_)
  have h := mlt_n h x9 ex9
  refine lv_lstore_n (lv' := [(0, .long x9)]) hx hb dJ13_bitCount_95d88_9 rfl hl (by decide) rfl (fun ls hl => ?_)
  refine lv_lload_n hx hb dJ13_bitCount_95d88_10 rfl (lv_at hl 0 rfl) ?_
  refine lv_ldc2 hx hb hown (hF.w mw_3_194) dJ13_bitCount_95d88_11 ?_
  refine lv_land hx hb dJ13_bitCount_95d88_14 ?_
  refine lv_lload_n hx hb dJ13_bitCount_95d88_15 rfl (lv_at hl 0 rfl) ?_
  refine lv_iconst (v := 2) hx hb dJ13_bitCount_95d88_16 (by decide) ?_
  refine lv_lushr hx hb dJ13_bitCount_95d88_17 rfl ?_
  refine lv_ldc2 hx hb hown (hF.w mw_3_194) dJ13_bitCount_95d88_18 ?_
  refine lv_land hx hb dJ13_bitCount_95d88_21 ?_
  refine lv_ladd hx hb dJ13_bitCount_95d88_22 ?_
  refine lv_topl (fun x23 ex23 => ?_)
  have h := mlt_n h x23 ex23
  refine lv_lstore_n (lv' := [(0, .long x23)]) hx hb dJ13_bitCount_95d88_23 rfl hl (by decide) rfl (fun ls hl => ?_)
  refine lv_lload_n hx hb dJ13_bitCount_95d88_24 rfl (lv_at hl 0 rfl) ?_
  refine lv_lload_n hx hb dJ13_bitCount_95d88_25 rfl (lv_at hl 0 rfl) ?_
  refine lv_iconst (v := 4) hx hb dJ13_bitCount_95d88_26 (by decide) ?_
  refine lv_lushr hx hb dJ13_bitCount_95d88_27 rfl ?_
  refine lv_ladd hx hb dJ13_bitCount_95d88_28 ?_
  refine lv_ldc2 hx hb hown (hF.w mw_3_195) dJ13_bitCount_95d88_29 ?_
  refine lv_land hx hb dJ13_bitCount_95d88_32 ?_
  refine lv_topl (fun x33 ex33 => ?_)
  have h := mlt_n h x33 ex33
  refine lv_lstore_n (lv' := [(0, .long x33)]) hx hb dJ13_bitCount_95d88_33 rfl hl (by decide) rfl (fun ls hl => ?_)
  refine lv_lload_n hx hb dJ13_bitCount_95d88_34 rfl (lv_at hl 0 rfl) ?_
  refine lv_lload_n hx hb dJ13_bitCount_95d88_35 rfl (lv_at hl 0 rfl) ?_
  refine lv_bipush (v := 8) hx hb dJ13_bitCount_95d88_36 (by decide) ?_
  refine lv_lushr hx hb dJ13_bitCount_95d88_38 rfl ?_
  refine lv_ladd hx hb dJ13_bitCount_95d88_39 ?_
  refine lv_topl (fun x40 ex40 => ?_)
  have h := mlt_n h x40 ex40
  refine lv_lstore_n (lv' := [(0, .long x40)]) hx hb dJ13_bitCount_95d88_40 rfl hl (by decide) rfl (fun ls hl => ?_)
  refine lv_lload_n hx hb dJ13_bitCount_95d88_41 rfl (lv_at hl 0 rfl) ?_
  refine lv_lload_n hx hb dJ13_bitCount_95d88_42 rfl (lv_at hl 0 rfl) ?_
  refine lv_bipush (v := 16) hx hb dJ13_bitCount_95d88_43 (by decide) ?_
  refine lv_lushr hx hb dJ13_bitCount_95d88_45 rfl ?_
  refine lv_ladd hx hb dJ13_bitCount_95d88_46 ?_
  refine lv_topl (fun x47 ex47 => ?_)
  have h := mlt_n h x47 ex47
  refine lv_lstore_n (lv' := [(0, .long x47)]) hx hb dJ13_bitCount_95d88_47 rfl hl (by decide) rfl (fun ls hl => ?_)
  refine lv_lload_n hx hb dJ13_bitCount_95d88_48 rfl (lv_at hl 0 rfl) ?_
  refine lv_lload_n hx hb dJ13_bitCount_95d88_49 rfl (lv_at hl 0 rfl) ?_
  refine lv_bipush (v := 32) hx hb dJ13_bitCount_95d88_50 (by decide) ?_
  refine lv_lushr hx hb dJ13_bitCount_95d88_52 rfl ?_
  refine lv_ladd hx hb dJ13_bitCount_95d88_53 ?_
  refine lv_topl (fun x54 ex54 => ?_)
  have h := mlt_n h x54 ex54
  refine lv_lstore_n (lv' := [(0, .long x54)]) hx hb dJ13_bitCount_95d88_54 rfl hl (by decide) rfl (fun ls hl => ?_)
  refine lv_lload_n hx hb dJ13_bitCount_95d88_55 rfl (lv_at hl 0 rfl) ?_
  refine lv_l2i hx hb dJ13_bitCount_95d88_56 rfl ?_
  refine lv_bipush (v := 127) hx hb dJ13_bitCount_95d88_57 (by decide) ?_
  refine lv_iand hx hb dJ13_bitCount_95d88_59 ?_
  exact m_ir hx hb hlk hr hR hS (congrArg (fun z => (z, M)) h.symm) dJ13_bitCount_95d88_60
theorem c_J13_bitCount_95d88 (l : Launch) (X : mX) (j0 : Int64) (M : mM) : mMi l yJ13_bitCount_95d88 cJ13_bitCount_95d88 2 (some .int) 0 0 X [.long j0] M (f_J13_bitCount_95d88 j0, M) := m_ofiF (by decide +kernel) (Nat.le_of_ble_eq_true rfl) rfl (fun p e s m args below meth c hs => w_J13_bitCount_95d88 hs j0 rfl)
set_option maxRecDepth 100000 in
set_option maxHeartbeats 4000000 in
theorem w_X8_cellsInShape {l : Launch} {X : mX} {p : Program} {e : Env} {s : State} {m : MethodId} {args : Array Value} {below : List Frame} {meth : Method} {c : Code} {M : mM} {r : Int32} (hs : mS X RX8 cX8_cellsInShape 2 (some .int) p s m meth c) : ∀ (b : Nat) (i1 : Int32) (h_b : isWorld b), f_X8_cellsInShape b i1 M = some r → mG X p l e (rmF 1 21) s m args below meth c (MQ below (mQi X M r) args s 0 0 (mL X)) 2 0 [(0, .ref (X.1 b)), (1, .int i1)] [] M := by
  obtain ⟨hx, hb, hml, hown, hF, hlk, hr⟩ := id hs
  intro b i1 h_b h H locs ls hR hS hl
  refine lv_aload_n hx hb dX8_cellsInShape_0 rfl (lv_at hl 0 rfl) ?_
  refine m_g7_7 hx hb hF hown hR (kWorld0 h_b) mw_1_136 dX8_cellsInShape_1 ?_
  refine lv_iload_n hx hb dX8_cellsInShape_4 rfl (lv_at hl 1 rfl) ?_
  refine lv_iconst (v := 2) hx hb dX8_cellsInShape_5 (by decide) ?_
  refine lv_imul hx hb dX8_cellsInShape_6 ?_
  obtain ⟨g7, h⟩ := mgd_e h
  refine m_laldL hx hb hR (kWorld13 h_b) g7 (jn := (Int32.toNatClampNeg (i1 * 2))) rfl dX8_cellsInShape_7 ?_
  refine m_ci (m_rS hx hb hml hown hF hR hS (c_J13_bitCount_95d88 l X (M.2.1 (b + 13) (Int32.toNatClampNeg (i1 * 2))) M) q_X8_89_S hdS_J13_bitCount_95d88 ⟨Nat.le_of_ble_eq_true rfl, Nat.le_of_ble_eq_true rfl⟩ rfl hl.1 rfl (Nat.le_of_ble_eq_true rfl) dX8_cellsInShape_8) hS (fun H locs hR hS => ?_)
  refine lv_aload_n hx hb dX8_cellsInShape_11 rfl (lv_at hl 0 rfl) ?_
  refine m_g7_7 hx hb hF hown hR (kWorld0 h_b) mw_1_136 dX8_cellsInShape_12 ?_
  refine lv_iload_n hx hb dX8_cellsInShape_15 rfl (lv_at hl 1 rfl) ?_
  refine lv_iconst (v := 2) hx hb dX8_cellsInShape_16 (by decide) ?_
  refine lv_imul hx hb dX8_cellsInShape_17 ?_
  refine lv_iconst (v := 1) hx hb dX8_cellsInShape_18 (by decide) ?_
  refine lv_iadd hx hb dX8_cellsInShape_19 ?_
  obtain ⟨g20, h⟩ := mgd_e h
  refine m_laldL hx hb hR (kWorld13 h_b) g20 (jn := (Int32.toNatClampNeg ((i1 * 2) + 1))) rfl dX8_cellsInShape_20 ?_
  refine m_ci (m_rS hx hb hml hown hF hR hS (c_J13_bitCount_95d88 l X (M.2.1 (b + 13) (Int32.toNatClampNeg ((i1 * 2) + 1))) M) q_X8_89_S hdS_J13_bitCount_95d88 ⟨Nat.le_of_ble_eq_true rfl, Nat.le_of_ble_eq_true rfl⟩ rfl hl.1 rfl (Nat.le_of_ble_eq_true rfl) dX8_cellsInShape_21) hS (fun H locs hR hS => ?_)
  refine lv_iadd hx hb dX8_cellsInShape_24 ?_
  exact m_ir hx hb hlk hr hR hS (congrArg (fun z => (z, M)) (Option.some.inj h).symm) dX8_cellsInShape_25
theorem c_X8_cellsInShape (l : Launch) (X : mX) (b : Nat) (i1 : Int32) (h_b : isWorld b) (M : mM) {r : Int32} (h : f_X8_cellsInShape b i1 M = some r) : mMi l yX8_cellsInShape cX8_cellsInShape 2 (some .int) 1 21 X [.ref (X.1 b), .int i1] M (r, M) := m_ofi (by decide +kernel) (Nat.le_of_ble_eq_true rfl) rfl (fun p e s m args below meth c hs => w_X8_cellsInShape hs b i1 h_b h)
set_option maxRecDepth 100000 in
set_option maxHeartbeats 4000000 in
theorem w_X8_outsideShape_b53 {l : Launch} {X : mX} {p : Program} {e : Env} {s : State} {m : MethodId} {args : Array Value} {below : List Frame} {meth : Method} {c : Code} {M : mM} {r : Int32} (hs : mS X RX8 cX8_outsideShape 4 (some .int) p s m meth c) (k4 : Nat → Int32 → Int32 → Int32 → mM → Option Int32) (hk4 : ∀ (b : Nat) (i1 : Int32) (i2 : Int32) (i3 : Int32) (h_b : isWorld b), k4 b i1 i2 i3 M = some r → mG X p l e (rmF 1 25) s m args below meth c (MQ below (mQi X M r) args s 0 0 (mL X)) 4 4 [(0, .ref (X.1 b)), (1, .int i1), (2, .int i2), (3, .int i3)] [] M) : ∀ (b : Nat) (i1 : Int32) (i3 : Int32) (s0 : Int32) (s1 : Int32) (h_b : isWorld b), f_X8_outsideShape_b53 k4 b i1 i3 s0 s1 M = some r → mG X p l e (rmF 1 25) s m args below meth c (MQ below (mQi X M r) args s 0 0 (mL X)) 4 53 [(0, .ref (X.1 b)), (1, .int i1), (3, .int i3)] [.int s1, .int s0] M := by
  obtain ⟨hx, hb, hml, hown, hF, hlk, hr⟩ := id hs
  intro b i1 i3 s0 s1 h_b h H locs ls hR hS hl
  refine m_ci (m_rSN hx hb hml hown hF hR hS (c_X9_oneIf l X s1 M) mw_2_112 mw_1_1 mw_2_111 19 rfl hdS_X9_oneIf ⟨Nat.le_of_ble_eq_true rfl, Nat.le_of_ble_eq_true rfl⟩ rfl hl.1 rfl (Nat.le_of_ble_eq_true rfl) dX8_outsideShape_53) hS (fun H locs hR hS => ?_)
  refine lv_iadd hx hb dX8_outsideShape_56 ?_
  refine lv_topi (fun x57 ex57 => ?_)
  have h := mlt_n h x57 ex57
  refine lv_istore_n (lv' := [(2, .int x57), (0, .ref (X.1 b)), (1, .int i1), (3, .int i3)]) hx hb dX8_outsideShape_57 rfl hl (by decide) rfl (fun ls hl => ?_)
  obtain ⟨x58, ex58⟩ : ∃ y : Int32, y = (i3 + 1) := ⟨_, rfl⟩
  have h := mlt_n h x58 ex58
  refine lv_iinc (v := x58) (lv' := [(3, .int x58), (2, .int x57), (0, .ref (X.1 b)), (1, .int i1)]) hx hb dX8_outsideShape_58 hl (k := 3) rfl (by rw [ex58]; rfl) (by decide) rfl (fun ls hl => ?_)
  refine lv_goto (tgt := 4) hx hb dX8_outsideShape_61 (by decide) ?_
  exact hk4 b i1 x57 x58 h_b h H locs ls hR hS (lv_sub hl [2, 3, 1, 0] rfl)
set_option maxRecDepth 100000 in
set_option maxHeartbeats 4000000 in
theorem w_X8_outsideShape_b4 {l : Launch} {X : mX} {p : Program} {e : Env} {s : State} {m : MethodId} {args : Array Value} {below : List Frame} {meth : Method} {c : Code} {M : mM} {r : Int32} (hs : mS X RX8 cX8_outsideShape 4 (some .int) p s m meth c) : ∀ n : Nat, ∀ (b : Nat) (i1 : Int32) (i2 : Int32) (i3 : Int32) (h_b : isWorld b), f_X8_outsideShape_b4 n b i1 i2 i3 M = some r → mG X p l e (rmF 1 25) s m args below meth c (MQ below (mQi X M r) args s 0 0 (mL X)) 4 4 [(0, .ref (X.1 b)), (1, .int i1), (2, .int i2), (3, .int i3)] [] M := by
  obtain ⟨hx, hb, hml, hown, hF, hlk, hr⟩ := id hs
  intro n
  induction n with
  | zero =>
    intro b i1 i2 i3 h_b h
    have h0 : (none : Option (Int32)) = some r := h
    cases h0
  | succ n ih =>
    intro b i1 i2 i3 h_b h H locs ls hR hS hl
    refine lv_iload_n hx hb dX8_outsideShape_4 rfl (lv_at hl 3 rfl) ?_
    refine lv_aload_n hx hb dX8_outsideShape_5 rfl (lv_at hl 0 rfl) ?_
    refine m_g7_0 hx hb hF hown hR (kWorld0 h_b) mw_1_116 dX8_outsideShape_6 ?_
    refine m_g0_0 hx hb hF hown hR (kWorld1 h_b) mw_1_49 dX8_outsideShape_9 ?_
    refine lv_icmp_ge (tgt := 64) hx hb dX8_outsideShape_12 (by decide) (fun c12 => ?_) (fun c12 => ?_)
    · have h := mif_y h c12
      refine lv_iload_n hx hb dX8_outsideShape_64 rfl (lv_at hl 2 rfl) ?_
      exact m_ir hx hb hlk hr hR hS (congrArg (fun z => (z, M)) (Option.some.inj h).symm) dX8_outsideShape_65
    · have h := mif_n h c12
      refine lv_iload_n hx hb dX8_outsideShape_15 rfl (lv_at hl 2 rfl) ?_
      refine lv_aload_n hx hb dX8_outsideShape_16 rfl (lv_at hl 0 rfl) ?_
      refine lv_iload_n hx hb dX8_outsideShape_17 rfl (lv_at hl 1 rfl) ?_
      refine lv_aload_n hx hb dX8_outsideShape_18 rfl (lv_at hl 0 rfl) ?_
      refine m_g7_0 hx hb hF hown hR (kWorld0 h_b) mw_1_116 dX8_outsideShape_19 ?_
      refine m_g0_2 hx hb hF hown hR (kWorld1 h_b) mw_1_59 dX8_outsideShape_22 ?_
      refine lv_iload_n hx hb dX8_outsideShape_25 rfl (lv_at hl 3 rfl) ?_
      obtain ⟨g26, h⟩ := mgd_e h
      refine m_ialdL hx hb hR (kWorld3 h_b) g26 (jn := (Int32.toNatClampNeg i3)) rfl dX8_outsideShape_26 ?_
      refine m_ci (m_rSN hx hb hml hown hF hR hS (c_X9_columnOf l X (M.1 (b + 3) (Int32.toNatClampNeg i3)) M) mw_1_42 mw_1_1 mw_1_41 17 rfl hdS_X9_columnOf ⟨Nat.le_of_ble_eq_true rfl, Nat.le_of_ble_eq_true rfl⟩ rfl hl.1 rfl (Nat.le_of_ble_eq_true rfl) dX8_outsideShape_27) hS (fun H locs hR hS => ?_)
      refine lv_aload_n hx hb dX8_outsideShape_30 rfl (lv_at hl 0 rfl) ?_
      refine m_g7_0 hx hb hF hown hR (kWorld0 h_b) mw_1_116 dX8_outsideShape_31 ?_
      refine m_g0_2 hx hb hF hown hR (kWorld1 h_b) mw_1_59 dX8_outsideShape_34 ?_
      refine lv_iload_n hx hb dX8_outsideShape_37 rfl (lv_at hl 3 rfl) ?_
      obtain ⟨g38, h⟩ := mgd_e h
      refine m_ialdL hx hb hR (kWorld3 h_b) g38 (jn := (Int32.toNatClampNeg i3)) rfl dX8_outsideShape_38 ?_
      refine m_ci (m_rSN hx hb hml hown hF hR hS (c_X9_levelOf l X (M.1 (b + 3) (Int32.toNatClampNeg i3)) M) mw_1_45 mw_1_1 mw_1_44 18 rfl hdS_X9_levelOf ⟨Nat.le_of_ble_eq_true rfl, Nat.le_of_ble_eq_true rfl⟩ rfl hl.1 rfl (Nat.le_of_ble_eq_true rfl) dX8_outsideShape_39) hS (fun H locs hR hS => ?_)
      obtain ⟨v42, q42, h⟩ := mbp_e h
      refine m_ci (m_rV hx hb hml hown hF hR hS (ent7 (kWorld0 h_b)) (kWorld0 h_b) rfl (c_X8_shapeHolds l X b i1 (f_X9_columnOf (M.1 (b + 3) (Int32.toNatClampNeg i3))) (f_X9_levelOf (M.1 (b + 3) (Int32.toNatClampNeg i3))) h_b M q42) q_X8_105_V hdV_X8_shapeHolds ⟨Nat.le_of_ble_eq_true rfl, Nat.le_of_ble_eq_true rfl⟩ rfl hl.1 rfl (Nat.le_of_ble_eq_true rfl) dX8_outsideShape_42) hS (fun H locs hR hS => ?_)
      refine lv_if_ne (tgt := 52) hx hb dX8_outsideShape_45 (by decide) (fun c45 => ?_) (fun c45 => ?_)
      · have h := mif_n h c45
        refine lv_iconst (v := 0) hx hb dX8_outsideShape_52 (by decide) ?_
        exact w_X8_outsideShape_b53 hs (f_X8_outsideShape_b4 n) ih b i1 i3 i2 0 h_b h H locs ls hR hS (lv_sub hl [0, 1, 3] rfl)
      · have h := mif_y h c45
        refine lv_iconst (v := 1) hx hb dX8_outsideShape_48 (by decide) ?_
        refine lv_goto (tgt := 53) hx hb dX8_outsideShape_49 (by decide) ?_
        exact w_X8_outsideShape_b53 hs (f_X8_outsideShape_b4 n) ih b i1 i3 i2 1 h_b h H locs ls hR hS (lv_sub hl [0, 1, 3] rfl)
set_option maxRecDepth 100000 in
set_option maxHeartbeats 4000000 in
theorem w_X8_outsideShape {l : Launch} {X : mX} {p : Program} {e : Env} {s : State} {m : MethodId} {args : Array Value} {below : List Frame} {meth : Method} {c : Code} {M : mM} {r : Int32} (hs : mS X RX8 cX8_outsideShape 4 (some .int) p s m meth c) : ∀ (b : Nat) (i1 : Int32) (h_b : isWorld b), f_X8_outsideShape b i1 M = some r → mG X p l e (rmF 1 25) s m args below meth c (MQ below (mQi X M r) args s 0 0 (mL X)) 4 0 [(0, .ref (X.1 b)), (1, .int i1)] [] M := by
  obtain ⟨hx, hb, hml, hown, hF, hlk, hr⟩ := id hs
  intro b i1 h_b h H locs ls hR hS hl
  refine lv_iconst (v := 0) hx hb dX8_outsideShape_0 (by decide) ?_
  refine lv_istore_n (lv' := [(2, .int 0), (0, .ref (X.1 b)), (1, .int i1)]) hx hb dX8_outsideShape_1 rfl hl (by decide) rfl (fun ls hl => ?_)
  refine lv_iconst (v := 0) hx hb dX8_outsideShape_2 (by decide) ?_
  refine lv_istore_n (lv' := [(3, .int 0), (2, .int 0), (0, .ref (X.1 b)), (1, .int i1)]) hx hb dX8_outsideShape_3 rfl hl (by decide) rfl (fun ls hl => ?_)
  exact w_X8_outsideShape_b4 hs mN b i1 0 0 h_b h H locs ls hR hS (lv_sub hl [2, 3, 1, 0] rfl)
theorem c_X8_outsideShape (l : Launch) (X : mX) (b : Nat) (i1 : Int32) (h_b : isWorld b) (M : mM) {r : Int32} (h : f_X8_outsideShape b i1 M = some r) : mMi l yX8_outsideShape cX8_outsideShape 4 (some .int) 1 25 X [.ref (X.1 b), .int i1] M (r, M) := m_ofi (by decide +kernel) (Nat.le_of_ble_eq_true rfl) rfl (fun p e s m args below meth c hs => w_X8_outsideShape hs b i1 h_b h)
set_option maxRecDepth 100000 in
set_option maxHeartbeats 4000000 in
theorem w_X8_emptyInShape {l : Launch} {X : mX} {p : Program} {e : Env} {s : State} {m : MethodId} {args : Array Value} {below : List Frame} {meth : Method} {c : Code} {M : mM} {r : Int32} (hs : mS X RX8 cX8_emptyInShape 2 (some .int) p s m meth c) : ∀ (b : Nat) (i1 : Int32) (h_b : isWorld b), f_X8_emptyInShape b i1 M = some r → mG X p l e (rmF 2 48) s m args below meth c (MQ below (mQi X M r) args s 0 0 (mL X)) 2 0 [(0, .ref (X.1 b)), (1, .int i1)] [] M := by
  obtain ⟨hx, hb, hml, hown, hF, hlk, hr⟩ := id hs
  intro b i1 h_b h H locs ls hR hS hl
  refine lv_aload_n hx hb dX8_emptyInShape_0 rfl (lv_at hl 0 rfl) ?_
  refine lv_iload_n hx hb dX8_emptyInShape_1 rfl (lv_at hl 1 rfl) ?_
  obtain ⟨v2, q2, h⟩ := mbp_e h
  refine m_ci (m_rV hx hb hml hown hF hR hS (ent7 (kWorld0 h_b)) (kWorld0 h_b) rfl (c_X8_cellsInShape l X b i1 h_b M q2) q_X8_113_V hdV_X8_cellsInShape ⟨Nat.le_of_ble_eq_true rfl, Nat.le_of_ble_eq_true rfl⟩ rfl hl.1 rfl (Nat.le_of_ble_eq_true rfl) dX8_emptyInShape_2) hS (fun H locs hR hS => ?_)
  refine lv_aload_n hx hb dX8_emptyInShape_5 rfl (lv_at hl 0 rfl) ?_
  refine m_g7_0 hx hb hF hown hR (kWorld0 h_b) mw_1_116 dX8_emptyInShape_6 ?_
  refine m_g0_0 hx hb hF hown hR (kWorld1 h_b) mw_1_49 dX8_emptyInShape_9 ?_
  refine lv_aload_n hx hb dX8_emptyInShape_12 rfl (lv_at hl 0 rfl) ?_
  refine lv_iload_n hx hb dX8_emptyInShape_13 rfl (lv_at hl 1 rfl) ?_
  obtain ⟨v14, q14, h⟩ := mbp_e h
  refine m_ci (m_rV hx hb hml hown hF hR hS (ent7 (kWorld0 h_b)) (kWorld0 h_b) rfl (c_X8_outsideShape l X b i1 h_b M q14) q_X8_116_V hdV_X8_outsideShape ⟨Nat.le_of_ble_eq_true rfl, Nat.le_of_ble_eq_true rfl⟩ rfl hl.1 rfl (Nat.le_of_ble_eq_true rfl) dX8_emptyInShape_14) hS (fun H locs hR hS => ?_)
  refine lv_isub hx hb dX8_emptyInShape_17 ?_
  refine lv_isub hx hb dX8_emptyInShape_18 ?_
  exact m_ir hx hb hlk hr hR hS (congrArg (fun z => (z, M)) (Option.some.inj h).symm) dX8_emptyInShape_19
theorem c_X8_emptyInShape (l : Launch) (X : mX) (b : Nat) (i1 : Int32) (h_b : isWorld b) (M : mM) {r : Int32} (h : f_X8_emptyInShape b i1 M = some r) : mMi l yX8_emptyInShape cX8_emptyInShape 2 (some .int) 2 48 X [.ref (X.1 b), .int i1] M (r, M) := m_ofi (by decide +kernel) (Nat.le_of_ble_eq_true rfl) rfl (fun p e s m args below meth c hs => w_X8_emptyInShape hs b i1 h_b h)
set_option maxRecDepth 100000 in
set_option maxHeartbeats 4000000 in
theorem w_X9_met_b98 {l : Launch} {X : mX} {p : Program} {e : Env} {s : State} {m : MethodId} {args : Array Value} {below : List Frame} {meth : Method} {c : Code} {M : mM} {r : Int32} (hs : mS X RX9 cX9_met 3 (some .int) p s m meth c) : ∀ (s0 : Int32), f_X9_met_b98 s0 M = some r → mG X p l e (rmF 3 69) s m args below meth c (MQ below (mQi X M r) args s 0 0 (mL X)) 3 98 [] [.int s0] M := by
  obtain ⟨hx, hb, hml, hown, hF, hlk, hr⟩ := id hs
  intro s0 h H locs ls hR hS hl
  refine m_ci (m_rS hx hb hml hown hF hR hS (c_X9_oneIf l X s0 M) q_X9_115_S hdS_X9_oneIf ⟨Nat.le_of_ble_eq_true rfl, Nat.le_of_ble_eq_true rfl⟩ rfl hl.1 rfl (Nat.le_of_ble_eq_true rfl) dX9_met_98) hS (fun H locs hR hS => ?_)
  exact m_ir hx hb hlk hr hR hS (congrArg (fun z => (z, M)) (Option.some.inj h).symm) dX9_met_101
set_option maxRecDepth 100000 in
set_option maxHeartbeats 4000000 in
theorem w_X9_met {l : Launch} {X : mX} {p : Program} {e : Env} {s : State} {m : MethodId} {args : Array Value} {below : List Frame} {meth : Method} {c : Code} {M : mM} {r : Int32} (hs : mS X RX9 cX9_met 3 (some .int) p s m meth c) : ∀ (i1 : Int32) (i2 : Int32), f_X9_met i1 i2 M = some r → mG X p l e (rmF 3 69) s m args below meth c (MQ below (mQi X M r) args s 0 0 (mL X)) 3 0 [(0, .ref (X.1 0)), (1, .int i1), (2, .int i2)] [] M := by
  obtain ⟨hx, hb, hml, hown, hF, hlk, hr⟩ := id hs
  intro i1 i2 h H locs ls hR hS hl
  refine lv_aload_n hx hb dX9_met_0 rfl (lv_at hl 0 rfl) ?_
  refine m_g8_0 hx hb hF hown hR kd_0 mw_2_42 dX9_met_1 ?_
  refine lv_iload_n hx hb dX9_met_4 rfl (lv_at hl 1 rfl) ?_
  refine m_ci (m_rV hx hb hml hown hF hR hS (ent7 kd_1) kd_1 rfl (c_X8_hasShape l X 1 i1 isWorld_1 M) q_X9_198_V hdV_X8_hasShape ⟨Nat.le_of_ble_eq_true rfl, Nat.le_of_ble_eq_true rfl⟩ rfl hl.1 rfl (Nat.le_of_ble_eq_true rfl) dX9_met_5) hS (fun H locs hR hS => ?_)
  refine lv_if_ne (tgt := 13) hx hb dX9_met_8 (by decide) (fun c8 => ?_) (fun c8 => ?_)
  · have h := mif_n h c8
    refine lv_iload_n hx hb dX9_met_13 rfl (lv_at hl 2 rfl) ?_
    by_cases c14_0 : i2 = 0
    · have h := mif_y h c14_0
      refine lv_tableIn (tgt := 44) hx hb dX9_met_14 (by rw [c14_0]; decide) (by rw [c14_0]; decide) (by rw [c14_0] <;> rfl) (by decide) ?_
      refine lv_aload_n hx hb dX9_met_44 rfl (lv_at hl 0 rfl) ?_
      refine m_g8_0 hx hb hF hown hR kd_0 mw_2_42 dX9_met_45 ?_
      refine lv_iload_n hx hb dX9_met_48 rfl (lv_at hl 1 rfl) ?_
      obtain ⟨v49, q49, h⟩ := mbp_e h
      refine m_ci (m_rV hx hb hml hown hF hR hS (ent7 kd_1) kd_1 rfl (c_X8_cellsInShape l X 1 i1 isWorld_1 M q49) q_X9_205_V hdV_X8_cellsInShape ⟨Nat.le_of_ble_eq_true rfl, Nat.le_of_ble_eq_true rfl⟩ rfl hl.1 rfl (Nat.le_of_ble_eq_true rfl) dX9_met_49) hS (fun H locs hR hS => ?_)
      exact m_ir hx hb hlk hr hR hS (congrArg (fun z => (z, M)) (Option.some.inj h).symm) dX9_met_52
    · have h := mif_n h c14_0
      by_cases c14_1 : i2 = 1
      · have h := mif_y h c14_1
        refine lv_tableIn (tgt := 53) hx hb dX9_met_14 (by rw [c14_1]; decide) (by rw [c14_1]; decide) (by rw [c14_1] <;> rfl) (by decide) ?_
        refine lv_aload_n hx hb dX9_met_53 rfl (lv_at hl 0 rfl) ?_
        refine m_g8_0 hx hb hF hown hR kd_0 mw_2_42 dX9_met_54 ?_
        refine lv_iload_n hx hb dX9_met_57 rfl (lv_at hl 1 rfl) ?_
        obtain ⟨v58, q58, h⟩ := mbp_e h
        refine m_ci (m_rV hx hb hml hown hF hR hS (ent7 kd_1) kd_1 rfl (c_X8_emptyInShape l X 1 i1 isWorld_1 M q58) q_X9_208_V hdV_X8_emptyInShape ⟨Nat.le_of_ble_eq_true rfl, Nat.le_of_ble_eq_true rfl⟩ rfl hl.1 rfl (Nat.le_of_ble_eq_true rfl) dX9_met_58) hS (fun H locs hR hS => ?_)
        exact m_ir hx hb hlk hr hR hS (congrArg (fun z => (z, M)) (Option.some.inj h).symm) dX9_met_61
      · have h := mif_n h c14_1
        by_cases c14_2 : i2 = 2
        · have h := mif_y h c14_2
          refine lv_tableIn (tgt := 62) hx hb dX9_met_14 (by rw [c14_2]; decide) (by rw [c14_2]; decide) (by rw [c14_2] <;> rfl) (by decide) ?_
          refine lv_aload_n hx hb dX9_met_62 rfl (lv_at hl 0 rfl) ?_
          refine m_g8_0 hx hb hF hown hR kd_0 mw_2_42 dX9_met_63 ?_
          refine lv_iload_n hx hb dX9_met_66 rfl (lv_at hl 1 rfl) ?_
          obtain ⟨v67, q67, h⟩ := mbp_e h
          refine m_ci (m_rV hx hb hml hown hF hR hS (ent7 kd_1) kd_1 rfl (c_X8_outsideShape l X 1 i1 isWorld_1 M q67) q_X9_211_V hdV_X8_outsideShape ⟨Nat.le_of_ble_eq_true rfl, Nat.le_of_ble_eq_true rfl⟩ rfl hl.1 rfl (Nat.le_of_ble_eq_true rfl) dX9_met_67) hS (fun H locs hR hS => ?_)
          exact m_ir hx hb hlk hr hR hS (congrArg (fun z => (z, M)) (Option.some.inj h).symm) dX9_met_70
        · have h := mif_n h c14_2
          by_cases c14_3 : i2 = 3
          · have h := mif_y h c14_3
            refine lv_tableIn (tgt := 71) hx hb dX9_met_14 (by rw [c14_3]; decide) (by rw [c14_3]; decide) (by rw [c14_3] <;> rfl) (by decide) ?_
            refine lv_aload_n hx hb dX9_met_71 rfl (lv_at hl 0 rfl) ?_
            refine m_g8_0 hx hb hF hown hR kd_0 mw_2_42 dX9_met_72 ?_
            refine lv_iload_n hx hb dX9_met_75 rfl (lv_at hl 1 rfl) ?_
            obtain ⟨v76, q76, h⟩ := mbp_e h
            refine m_ci (m_rV hx hb hml hown hF hR hS (ent7 kd_1) kd_1 rfl (c_X8_emptyInShape l X 1 i1 isWorld_1 M q76) q_X9_208_V hdV_X8_emptyInShape ⟨Nat.le_of_ble_eq_true rfl, Nat.le_of_ble_eq_true rfl⟩ rfl hl.1 rfl (Nat.le_of_ble_eq_true rfl) dX9_met_76) hS (fun H locs hR hS => ?_)
            refine lv_if_ne (tgt := 97) hx hb dX9_met_79 (by decide) (fun c79 => ?_) (fun c79 => ?_)
            · have h := mif_n h c79
              refine lv_iconst (v := 0) hx hb dX9_met_97 (by decide) ?_
              exact w_X9_met_b98 hs 0 h H locs ls hR hS (lv_sub hl [] rfl)
            · have h := mif_y h c79
              refine lv_aload_n hx hb dX9_met_82 rfl (lv_at hl 0 rfl) ?_
              refine m_g8_0 hx hb hF hown hR kd_0 mw_2_42 dX9_met_83 ?_
              refine lv_iload_n hx hb dX9_met_86 rfl (lv_at hl 1 rfl) ?_
              obtain ⟨v87, q87, h⟩ := mbp_e h
              refine m_ci (m_rV hx hb hml hown hF hR hS (ent7 kd_1) kd_1 rfl (c_X8_outsideShape l X 1 i1 isWorld_1 M q87) q_X9_211_V hdV_X8_outsideShape ⟨Nat.le_of_ble_eq_true rfl, Nat.le_of_ble_eq_true rfl⟩ rfl hl.1 rfl (Nat.le_of_ble_eq_true rfl) dX9_met_87) hS (fun H locs hR hS => ?_)
              refine lv_if_ne (tgt := 97) hx hb dX9_met_90 (by decide) (fun c90 => ?_) (fun c90 => ?_)
              · have h := mif_n h c90
                refine lv_iconst (v := 0) hx hb dX9_met_97 (by decide) ?_
                exact w_X9_met_b98 hs 0 h H locs ls hR hS (lv_sub hl [] rfl)
              · have h := mif_y h c90
                refine lv_iconst (v := 1) hx hb dX9_met_93 (by decide) ?_
                refine lv_goto (tgt := 98) hx hb dX9_met_94 (by decide) ?_
                exact w_X9_met_b98 hs 1 h H locs ls hR hS (lv_sub hl [] rfl)
          · have h := mif_n h c14_3
            refine lv_tableOut (tgt := 102) hx hb dX9_met_14 (m_swOut (fun q => by have := q.1; have := q.2; have := lv_neT c14_0 (a := 0) rfl; have := lv_neT c14_1 (a := 1) rfl; have := lv_neT c14_2 (a := 2) rfl; have := lv_neT c14_3 (a := 3) rfl; omega)) (by decide) ?_
            refine lv_iconst (v := (-1)) hx hb dX9_met_102 (by decide) ?_
            exact m_ir hx hb hlk hr hR hS (congrArg (fun z => (z, M)) (Option.some.inj h).symm) dX9_met_103
  · have h := mif_y h c8
    refine lv_iconst (v := (-1)) hx hb dX9_met_11 (by decide) ?_
    exact m_ir hx hb hlk hr hR hS (congrArg (fun z => (z, M)) (Option.some.inj h).symm) dX9_met_12
theorem c_X9_met (l : Launch) (X : mX) (i1 : Int32) (i2 : Int32) (M : mM) {r : Int32} (h : f_X9_met i1 i2 M = some r) : mMi l yX9_met cX9_met 3 (some .int) 3 69 X [.ref (X.1 0), .int i1, .int i2] M (r, M) := m_ofi (by decide +kernel) (Nat.le_of_ble_eq_true rfl) rfl (fun p e s m args below meth c hs => w_X9_met hs i1 i2 h)
set_option maxRecDepth 100000 in
set_option maxHeartbeats 4000000 in
theorem w_X0_copyFrom {l : Launch} {X : mX} {p : Program} {e : Env} {s : State} {m : MethodId} {args : Array Value} {below : List Frame} {meth : Method} {c : Code} {r : mM} (hs : mS X RX0 cX0_copyFrom 2 none p s m meth c) : ∀ (b : Nat) (q1 : Nat) (h_b : isBody b) (h_q1 : isBody q1) (M : mM), f_X0_copyFrom b q1 M = some r → mG X p l e (rmF 1 300) s m args below meth c (MQ below (mQv X r) args s 0 0 (mL X)) 2 0 [(0, .ref (X.1 b)), (1, .ref (X.1 q1))] [] M := by
  obtain ⟨hx, hb, hml, hown, hF, hlk, hr⟩ := id hs
  intro b q1 h_b h_q1 M h H locs ls hR hS hl
  refine lv_aload_n hx hb dX0_copyFrom_0 rfl (lv_at hl 0 rfl) ?_
  refine lv_aload_n hx hb dX0_copyFrom_1 rfl (lv_at hl 1 rfl) ?_
  refine m_g0_0 hx hb hF hown hR (kBody0 h_q1) mw_1_46 dX0_copyFrom_2 ?_
  obtain ⟨M5, eM5⟩ : ∃ y : mM, y = mI M b 0 (M.1 q1 0) := ⟨_, rfl⟩
  have h := mlt_n h M5 eM5
  refine m_p0_0 hx hb hF hown hR hS (kBody0 h_b) mw_1_46 dX0_copyFrom_5 eM5 (fun H locs hR hS => ?_)
  refine lv_aload_n hx hb dX0_copyFrom_8 rfl (lv_at hl 1 rfl) ?_
  refine m_g0_1 hx hb hF hown hR (kBody0 h_q1) mw_1_51 dX0_copyFrom_9 ?_
  refine lv_iconst (v := 0) hx hb dX0_copyFrom_12 (by decide) ?_
  refine lv_aload_n hx hb dX0_copyFrom_13 rfl (lv_at hl 0 rfl) ?_
  refine m_g0_1 hx hb hF hown hR (kBody0 h_b) mw_1_51 dX0_copyFrom_14 ?_
  refine lv_iconst (v := 0) hx hb dX0_copyFrom_17 (by decide) ?_
  refine lv_bipush (v := 16) hx hb dX0_copyFrom_18 (by decide) ?_
  obtain ⟨M20, eM20⟩ : ∃ y : mM, y = mC M5 (q1 + 1) (b + 1) 0 0 16 := ⟨_, rfl⟩
  have h := mlt_n h M20 eM20
  refine m_cpiL hx hb (hml.trans hl.1.symm) hown hF mw_3_224 mw_3_226 mw_3_225 mw_1_13 hR hS (kBody1 h_q1) (kBody1 h_b) (by decide) (by decide) (by decide) (by decide) (by decide) (by decide) (by decide) (by decide) (Nat.le_of_ble_eq_true rfl) (by decide +kernel) dX0_copyFrom_20 eM20 (fun H locs hR hS => ?_)
  refine lv_aload_n hx hb dX0_copyFrom_23 rfl (lv_at hl 1 rfl) ?_
  refine m_g0_2 hx hb hF hown hR (kBody0 h_q1) mw_1_54 dX0_copyFrom_24 ?_
  refine lv_iconst (v := 0) hx hb dX0_copyFrom_27 (by decide) ?_
  refine lv_aload_n hx hb dX0_copyFrom_28 rfl (lv_at hl 0 rfl) ?_
  refine m_g0_2 hx hb hF hown hR (kBody0 h_b) mw_1_54 dX0_copyFrom_29 ?_
  refine lv_iconst (v := 0) hx hb dX0_copyFrom_32 (by decide) ?_
  refine lv_bipush (v := 16) hx hb dX0_copyFrom_33 (by decide) ?_
  obtain ⟨M35, eM35⟩ : ∃ y : mM, y = mC M20 (q1 + 2) (b + 2) 0 0 16 := ⟨_, rfl⟩
  have h := mlt_n h M35 eM35
  refine m_cpiL hx hb (hml.trans hl.1.symm) hown hF mw_3_224 mw_3_226 mw_3_225 mw_1_13 hR hS (kBody2 h_q1) (kBody2 h_b) (by decide) (by decide) (by decide) (by decide) (by decide) (by decide) (by decide) (by decide) (Nat.le_of_ble_eq_true rfl) (by decide +kernel) dX0_copyFrom_35 eM35 (fun H locs hR hS => ?_)
  refine lv_aload_n hx hb dX0_copyFrom_38 rfl (lv_at hl 1 rfl) ?_
  refine m_g0_3 hx hb hF hown hR (kBody0 h_q1) mw_1_60 dX0_copyFrom_39 ?_
  refine lv_iconst (v := 0) hx hb dX0_copyFrom_42 (by decide) ?_
  refine lv_aload_n hx hb dX0_copyFrom_43 rfl (lv_at hl 0 rfl) ?_
  refine m_g0_3 hx hb hF hown hR (kBody0 h_b) mw_1_60 dX0_copyFrom_44 ?_
  refine lv_iconst (v := 0) hx hb dX0_copyFrom_47 (by decide) ?_
  refine lv_bipush (v := 16) hx hb dX0_copyFrom_48 (by decide) ?_
  obtain ⟨M50, eM50⟩ : ∃ y : mM, y = mC M35 (q1 + 3) (b + 3) 0 0 16 := ⟨_, rfl⟩
  have h := mlt_n h M50 eM50
  refine m_cpiL hx hb (hml.trans hl.1.symm) hown hF mw_3_224 mw_3_226 mw_3_225 mw_1_13 hR hS (kBody3 h_q1) (kBody3 h_b) (by decide) (by decide) (by decide) (by decide) (by decide) (by decide) (by decide) (by decide) (Nat.le_of_ble_eq_true rfl) (by decide +kernel) dX0_copyFrom_50 eM50 (fun H locs hR hS => ?_)
  refine lv_aload_n hx hb dX0_copyFrom_53 rfl (lv_at hl 1 rfl) ?_
  refine m_g0_4 hx hb hF hown hR (kBody0 h_q1) mw_1_65 dX0_copyFrom_54 ?_
  refine lv_iconst (v := 0) hx hb dX0_copyFrom_57 (by decide) ?_
  refine lv_aload_n hx hb dX0_copyFrom_58 rfl (lv_at hl 0 rfl) ?_
  refine m_g0_4 hx hb hF hown hR (kBody0 h_b) mw_1_65 dX0_copyFrom_59 ?_
  refine lv_iconst (v := 0) hx hb dX0_copyFrom_62 (by decide) ?_
  refine lv_bipush (v := 16) hx hb dX0_copyFrom_63 (by decide) ?_
  obtain ⟨z65, h⟩ := mgd_e h
  obtain ⟨M65, eM65⟩ : ∃ y : mM, y = mC M50 (q1 + 4) (b + 4) 0 0 16 := ⟨_, rfl⟩
  have h := mlt_n h M65 eM65
  refine m_cpzL hx hb (hml.trans hl.1.symm) hown hF mw_3_224 mw_3_226 mw_3_225 mw_1_13 hR hS (kBody4 h_q1) (kBody4 h_b) (by decide) (by decide) (by decide) (by decide) (by decide) (by decide) (by decide) (by decide) z65 (Nat.le_of_ble_eq_true rfl) (by decide +kernel) dX0_copyFrom_65 eM65 (fun H locs hR hS => ?_)
  refine lv_aload_n hx hb dX0_copyFrom_68 rfl (lv_at hl 1 rfl) ?_
  refine m_g0_6 hx hb hF hown hR (kBody0 h_q1) mw_1_71 dX0_copyFrom_69 ?_
  refine lv_iconst (v := 0) hx hb dX0_copyFrom_72 (by decide) ?_
  refine lv_aload_n hx hb dX0_copyFrom_73 rfl (lv_at hl 0 rfl) ?_
  refine m_g0_6 hx hb hF hown hR (kBody0 h_b) mw_1_71 dX0_copyFrom_74 ?_
  refine lv_iconst (v := 0) hx hb dX0_copyFrom_77 (by decide) ?_
  refine lv_bipush (v := 120) hx hb dX0_copyFrom_78 (by decide) ?_
  obtain ⟨M80, eM80⟩ : ∃ y : mM, y = mC M65 (q1 + 6) (b + 6) 0 0 120 := ⟨_, rfl⟩
  have h := mlt_n h M80 eM80
  refine m_cpiL hx hb (hml.trans hl.1.symm) hown hF mw_3_224 mw_3_226 mw_3_225 mw_1_13 hR hS (kBody6 h_q1) (kBody6 h_b) (by decide) (by decide) (by decide) (by decide) (by decide) (by decide) (by decide) (by decide) (Nat.le_of_ble_eq_true rfl) (by decide +kernel) dX0_copyFrom_80 eM80 (fun H locs hR hS => ?_)
  exact m_vr hx hb hlk hr hR hS (Option.some.inj h).symm dX0_copyFrom_83
theorem c_X0_copyFrom (l : Launch) (X : mX) (b : Nat) (q1 : Nat) (h_b : isBody b) (h_q1 : isBody q1) (M : mM) {r : mM} (h : f_X0_copyFrom b q1 M = some r) : mMv l yX0_copyFrom cX0_copyFrom 2 1 300 X [.ref (X.1 b), .ref (X.1 q1)] M r := m_ofv (by decide +kernel) (Nat.le_of_ble_eq_true rfl) rfl (fun p e s m args below meth c hs => w_X0_copyFrom hs b q1 h_b h_q1 M h)
set_option maxRecDepth 100000 in
set_option maxHeartbeats 4000000 in
theorem w_X3_isWanted {l : Launch} {X : mX} {p : Program} {e : Env} {s : State} {m : MethodId} {args : Array Value} {below : List Frame} {meth : Method} {c : Code} {M : mM} {r : Int32} (hs : mS X RX3 cX3_isWanted 2 (some .boolean) p s m meth c) : ∀ (i1 : Int32), f_X3_isWanted i1 M = some r → mG X p l e (rmF 0 0) s m args below meth c (MQ below (mQi X M r) args s 0 0 (mL X)) 2 0 [(0, .ref (X.1 73)), (1, .int i1)] [] M := by
  obtain ⟨hx, hb, hml, hown, hF, hlk, hr⟩ := id hs
  intro i1 h H locs ls hR hS hl
  refine lv_iload_n hx hb dX3_isWanted_0 rfl (lv_at hl 1 rfl) ?_
  refine lv_if_lt (tgt := 23) hx hb dX3_isWanted_1 (by decide) (fun c1 => ?_) (fun c1 => ?_)
  · have h := mif_y h c1
    refine lv_iconst (v := 0) hx hb dX3_isWanted_23 (by decide) ?_
    exact m_zr hx hb hlk hr hR hS (Or.inl rfl) (congrArg (fun z => (z, M)) (Option.some.inj h).symm) dX3_isWanted_24
  · have h := mif_n h c1
    refine lv_iload_n hx hb dX3_isWanted_4 rfl (lv_at hl 1 rfl) ?_
    refine lv_bipush (v := 120) hx hb dX3_isWanted_5 (by decide) ?_
    refine lv_icmp_ge (tgt := 23) hx hb dX3_isWanted_7 (by decide) (fun c7 => ?_) (fun c7 => ?_)
    · have h := mif_y h c7
      refine lv_iconst (v := 0) hx hb dX3_isWanted_23 (by decide) ?_
      exact m_zr hx hb hlk hr hR hS (Or.inl rfl) (congrArg (fun z => (z, M)) (Option.some.inj h).symm) dX3_isWanted_24
    · have h := mif_n h c7
      refine lv_aload_n hx hb dX3_isWanted_10 rfl (lv_at hl 0 rfl) ?_
      refine m_g3_1 hx hb hF hown hR kd_73 mw_1_183 dX3_isWanted_11 ?_
      refine lv_iload_n hx hb dX3_isWanted_14 rfl (lv_at hl 1 rfl) ?_
      obtain ⟨g15, h⟩ := mgd_e h
      refine m_zaldL hx hb hR kd_74 g15 (jn := (Int32.toNatClampNeg i1)) rfl dX3_isWanted_15 ?_
      refine lv_if_eq (tgt := 23) hx hb dX3_isWanted_16 (by decide) (fun c16 => ?_) (fun c16 => ?_)
      · have h := mif_y h c16
        refine lv_iconst (v := 0) hx hb dX3_isWanted_23 (by decide) ?_
        exact m_zr hx hb hlk hr hR hS (Or.inl rfl) (congrArg (fun z => (z, M)) (Option.some.inj h).symm) dX3_isWanted_24
      · have h := mif_n h c16
        refine lv_iconst (v := 1) hx hb dX3_isWanted_19 (by decide) ?_
        refine lv_goto (tgt := 24) hx hb dX3_isWanted_20 (by decide) ?_
        exact m_zr hx hb hlk hr hR hS (Or.inr rfl) (congrArg (fun z => (z, M)) (Option.some.inj h).symm) dX3_isWanted_24
theorem c_X3_isWanted (l : Launch) (X : mX) (i1 : Int32) (M : mM) {r : Int32} (h : f_X3_isWanted i1 M = some r) : mMi l yX3_isWanted cX3_isWanted 2 (some .boolean) 0 0 X [.ref (X.1 73), .int i1] M (r, M) := m_ofi (by decide +kernel) (Nat.le_of_ble_eq_true rfl) rfl (fun p e s m args below meth c hs => w_X3_isWanted hs i1 h)
set_option maxRecDepth 100000 in
set_option maxHeartbeats 4000000 in
theorem w_X3_emptyBehind {l : Launch} {X : mX} {p : Program} {e : Env} {s : State} {m : MethodId} {args : Array Value} {below : List Frame} {meth : Method} {c : Code} {M : mM} {r : Int32} (hs : mS X RX3 cX3_emptyBehind 5 (some .int) p s m meth c) : ∀ (i1 : Int32) (i2 : Int32) (i3 : Int32), f_X3_emptyBehind i1 i2 i3 M = some r → mG X p l e (rmF 1 21) s m args below meth c (MQ below (mQi X M r) args s 0 0 (mL X)) 5 0 [(0, .ref (X.1 73)), (1, .int i1), (2, .int i2), (3, .int i3)] [] M := by
  obtain ⟨hx, hb, hml, hown, hF, hlk, hr⟩ := id hs
  intro i1 i2 i3 h H locs ls hR hS hl
  refine lv_aload_n hx hb dX3_emptyBehind_0 rfl (lv_at hl 0 rfl) ?_
  refine m_g3_0 hx hb hF hown hR kd_73 mw_1_182 dX3_emptyBehind_1 ?_
  refine m_g0_2 hx hb hF hown hR kd_65 mw_1_57 dX3_emptyBehind_4 ?_
  refine lv_iload_n hx hb dX3_emptyBehind_7 rfl (lv_at hl 1 rfl) ?_
  obtain ⟨g8, h⟩ := mgd_e h
  refine m_ialdL hx hb hR kd_67 g8 (jn := (Int32.toNatClampNeg i1)) rfl dX3_emptyBehind_8 ?_
  refine lv_topi (fun x9 ex9 => ?_)
  have h := mlt_n h x9 ex9
  refine lv_istore (lv' := [(4, .int x9), (0, .ref (X.1 73)), (1, .int i1), (2, .int i2), (3, .int i3)]) hx hb dX3_emptyBehind_9 hl (by decide) rfl (fun ls hl => ?_)
  refine lv_iload_n hx hb dX3_emptyBehind_11 rfl (lv_at hl 4 rfl) ?_
  refine lv_aload_n hx hb dX3_emptyBehind_12 rfl (lv_at hl 1 rfl) ?_
  refine lv_iload hx hb dX3_emptyBehind_13 (lv_at hl 0 rfl) ?_
  obtain ⟨v15, q15, h⟩ := mbp_e h
  refine m_ci (m_rV hx hb hml hown hF hR hS (ent3 kd_73) kd_73 rfl (c_X3_isWanted l X x9 M q15) q_X3_72_V hdV_X3_isWanted ⟨Nat.le_of_ble_eq_true rfl, Nat.le_of_ble_eq_true rfl⟩ rfl hl.1 rfl (Nat.le_of_ble_eq_true rfl) dX3_emptyBehind_15) hS (fun H locs hR hS => ?_)
  refine m_ci (m_rSN hx hb hml hown hF hR hS (c_X9_oneIf l X v15 M) mw_2_112 mw_1_1 mw_2_111 21 rfl hdS_X9_oneIf ⟨Nat.le_of_ble_eq_true rfl, Nat.le_of_ble_eq_true rfl⟩ rfl hl.1 rfl (Nat.le_of_ble_eq_true rfl) dX3_emptyBehind_18) hS (fun H locs hR hS => ?_)
  refine lv_iadd hx hb dX3_emptyBehind_21 ?_
  refine lv_aload_n hx hb dX3_emptyBehind_22 rfl (lv_at hl 1 rfl) ?_
  refine lv_iload hx hb dX3_emptyBehind_23 (lv_at hl 0 rfl) ?_
  refine m_gsN hx hb hF hS hown 3 (by decide) rfl 22 rfl dX3_emptyBehind_25 ?_
  refine lv_iload_n hx hb dX3_emptyBehind_28 rfl (lv_at hl 3 rfl) ?_
  obtain ⟨g29, h⟩ := mgd_e h
  refine m_saidL hx hb hF hS 3 (by decide) (N := 8) rfl g29 (jn := (Int32.toNatClampNeg i2)) rfl dX3_emptyBehind_29 ?_
  refine lv_iadd hx hb dX3_emptyBehind_30 ?_
  obtain ⟨v31, q31, h⟩ := mbp_e h
  refine m_ci (m_rV hx hb hml hown hF hR hS (ent3 kd_73) kd_73 rfl (c_X3_isWanted l X (x9 + (sVal 3 (Int32.toNatClampNeg i2))) M q31) q_X3_72_V hdV_X3_isWanted ⟨Nat.le_of_ble_eq_true rfl, Nat.le_of_ble_eq_true rfl⟩ rfl hl.1 rfl (Nat.le_of_ble_eq_true rfl) dX3_emptyBehind_31) hS (fun H locs hR hS => ?_)
  refine m_ci (m_rSN hx hb hml hown hF hR hS (c_X9_oneIf l X v31 M) mw_2_112 mw_1_1 mw_2_111 21 rfl hdS_X9_oneIf ⟨Nat.le_of_ble_eq_true rfl, Nat.le_of_ble_eq_true rfl⟩ rfl hl.1 rfl (Nat.le_of_ble_eq_true rfl) dX3_emptyBehind_34) hS (fun H locs hR hS => ?_)
  refine lv_isub hx hb dX3_emptyBehind_37 ?_
  exact m_ir hx hb hlk hr hR hS (congrArg (fun z => (z, M)) (Option.some.inj h).symm) dX3_emptyBehind_38
theorem c_X3_emptyBehind (l : Launch) (X : mX) (i1 : Int32) (i2 : Int32) (i3 : Int32) (M : mM) {r : Int32} (h : f_X3_emptyBehind i1 i2 i3 M = some r) : mMi l yX3_emptyBehind cX3_emptyBehind 5 (some .int) 1 21 X [.ref (X.1 73), .int i1, .int i2, .int i3] M (r, M) := m_ofi (by decide +kernel) (Nat.le_of_ble_eq_true rfl) rfl (fun p e s m args below meth c hs => w_X3_emptyBehind hs i1 i2 i3 h)
set_option maxRecDepth 100000 in
set_option maxHeartbeats 4000000 in
theorem w_X0_goBack {l : Launch} {X : mX} {p : Program} {e : Env} {s : State} {m : MethodId} {args : Array Value} {below : List Frame} {meth : Method} {c : Code} {r : mM} (hs : mS X RX0 cX0_goBack 3 none p s m meth c) : ∀ (b : Nat) (i1 : Int32) (i2 : Int32) (h_b : isBody b) (M : mM), f_X0_goBack b i1 i2 M = some r → mG X p l e (rmF 2 43) s m args below meth c (MQ below (mQv X r) args s 0 0 (mL X)) 3 0 [(0, .ref (X.1 b)), (1, .int i1), (2, .int i2)] [] M := by
  obtain ⟨hx, hb, hml, hown, hF, hlk, hr⟩ := id hs
  intro b i1 i2 h_b M h H locs ls hR hS hl
  refine lv_aload_n hx hb dX0_goBack_0 rfl (lv_at hl 0 rfl) ?_
  refine lv_iload_n hx hb dX0_goBack_1 rfl (lv_at hl 1 rfl) ?_
  refine lv_aload_n hx hb dX0_goBack_2 rfl (lv_at hl 0 rfl) ?_
  refine m_g0_2 hx hb hF hown hR (kBody0 h_b) mw_1_54 dX0_goBack_3 ?_
  refine lv_iload_n hx hb dX0_goBack_6 rfl (lv_at hl 1 rfl) ?_
  obtain ⟨g7, h⟩ := mgd_e h
  refine m_ialdL hx hb hR (kBody2 h_b) g7 (jn := (Int32.toNatClampNeg i1)) rfl dX0_goBack_7 ?_
  refine m_gsN hx hb hF hS hown 3 (by decide) rfl 11 rfl dX0_goBack_8 ?_
  refine lv_iload_n hx hb dX0_goBack_11 rfl (lv_at hl 2 rfl) ?_
  obtain ⟨g12, h⟩ := mgd_e h
  refine m_saidL hx hb hF hS 3 (by decide) (N := 8) rfl g12 (jn := (Int32.toNatClampNeg i2)) rfl dX0_goBack_12 ?_
  refine lv_isub hx hb dX0_goBack_13 ?_
  obtain ⟨M14, q14, h⟩ := mbp_e h
  refine m_cv (m_rV hx hb hml hown hF hR hS (ent0 (kBody0 h_b)) (kBody0 h_b) rfl (c_X0_shift l X b i1 ((M.1 (b + 2) (Int32.toNatClampNeg i1)) - (sVal 3 (Int32.toNatClampNeg i2))) h_b M q14) q_X0_86_V hdV_X0_shift ⟨Nat.le_of_ble_eq_true rfl, Nat.le_of_ble_eq_true rfl⟩ rfl hl.1 rfl (Nat.le_of_ble_eq_true rfl) dX0_goBack_14) hS (fun H locs hR hS => ?_)
  refine lv_aload_n hx hb dX0_goBack_17 rfl (lv_at hl 0 rfl) ?_
  refine m_g0_3 hx hb hF hown hR (kBody0 h_b) mw_1_60 dX0_goBack_18 ?_
  refine lv_iload_n hx hb dX0_goBack_21 rfl (lv_at hl 1 rfl) ?_
  refine lv_dup2_11 hx hb dX0_goBack_22 rfl rfl ?_
  obtain ⟨g23, h⟩ := mgd_e h
  refine m_ialdL hx hb hR (kBody3 h_b) g23 (jn := (Int32.toNatClampNeg i1)) rfl dX0_goBack_23 ?_
  refine m_gsN hx hb hF hS hown 2 (by decide) rfl 14 rfl dX0_goBack_24 ?_
  refine lv_aload_n hx hb dX0_goBack_27 rfl (lv_at hl 0 rfl) ?_
  refine m_g0_1 hx hb hF hown hR (kBody0 h_b) mw_1_51 dX0_goBack_28 ?_
  refine lv_iload_n hx hb dX0_goBack_31 rfl (lv_at hl 1 rfl) ?_
  obtain ⟨g32, h⟩ := mgd_e h
  refine m_ialdL hx hb hR (kBody1 h_b) g32 (jn := (Int32.toNatClampNeg i1)) rfl dX0_goBack_32 ?_
  obtain ⟨g33, h⟩ := mgd_e h
  refine m_saidL hx hb hF hS 2 (by decide) (N := 4) rfl g33 (jn := (Int32.toNatClampNeg (M14.1 (b + 1) (Int32.toNatClampNeg i1)))) rfl dX0_goBack_33 ?_
  refine lv_iadd hx hb dX0_goBack_34 ?_
  obtain ⟨g35, h⟩ := mgd_e h
  obtain ⟨M35, eM35⟩ : ∃ y : mM, y = mI M14 (b + 3) (Int32.toNatClampNeg i1) ((M14.1 (b + 3) (Int32.toNatClampNeg i1)) + (sVal 2 (Int32.toNatClampNeg (M14.1 (b + 1) (Int32.toNatClampNeg i1))))) := ⟨_, rfl⟩
  have h := mlt_n h M35 eM35
  refine m_iastL hx hb hR hS (kBody3 h_b) g35 (jn := (Int32.toNatClampNeg i1)) rfl dX0_goBack_35 eM35 (fun H locs hR hS => ?_)
  exact m_vr hx hb hlk hr hR hS (Option.some.inj h).symm dX0_goBack_36
theorem c_X0_goBack (l : Launch) (X : mX) (b : Nat) (i1 : Int32) (i2 : Int32) (h_b : isBody b) (M : mM) {r : mM} (h : f_X0_goBack b i1 i2 M = some r) : mMv l yX0_goBack cX0_goBack 3 2 43 X [.ref (X.1 b), .int i1, .int i2] M r := m_ofv (by decide +kernel) (Nat.le_of_ble_eq_true rfl) rfl (fun p e s m args below meth c hs => w_X0_goBack hs b i1 i2 h_b M h)
set_option maxRecDepth 100000 in
set_option maxHeartbeats 4000000 in
theorem w_X3_completes_b40 {l : Launch} {X : mX} {p : Program} {e : Env} {s : State} {m : MethodId} {args : Array Value} {below : List Frame} {meth : Method} {c : Code} {r : Int32 × mM} (hs : mS X RX3 cX3_completes 8 (some .boolean) p s m meth c) (d : Nat) (slf : Int32 → Int32 → Int32 → mM → Option (Int32 × mM)) (hslf : ∀ (i1 : Int32) (i2 : Int32) (i3 : Int32) (M : mM) (r : Int32 × mM), slf i1 i2 i3 M = some r → mMi l yX3_completes cX3_completes 8 (some .boolean) (20 + 10 * d) (2000 + 200 * d) X [.ref (X.1 73), .int i1, .int i2, .int i3] M r) (k18 : Int32 → Int32 → Int32 → Int32 → mM → Option (Int32 × mM)) (hk18 : ∀ (i1 : Int32) (i2 : Int32) (i3 : Int32) (i4 : Int32) (M : mM), k18 i1 i2 i3 i4 M = some r → mG X p l e (rmF (20 + 10 * (d + 1)) (2000 + 200 * (d + 1))) s m args below meth c (MQ below (mQi X r.2 r.1) args s 0 0 (mL X)) 8 18 [(0, .ref (X.1 73)), (1, .int i1), (2, .int i2), (3, .int i3), (4, .int i4)] [] M) : ∀ n : Nat, ∀ (i1 : Int32) (i2 : Int32) (i3 : Int32) (i4 : Int32) (i5 : Int32) (M : mM), f_X3_completes_b40 slf k18 n i1 i2 i3 i4 i5 M = some r → mG X p l e (rmF (20 + 10 * (d + 1)) (2000 + 200 * (d + 1))) s m args below meth c (MQ below (mQi X r.2 r.1) args s 0 0 (mL X)) 8 40 [(0, .ref (X.1 73)), (1, .int i1), (2, .int i2), (3, .int i3), (4, .int i4), (5, .int i5)] [] M := by
  obtain ⟨hx, hb, hml, hown, hF, hlk, hr⟩ := id hs
  intro n
  induction n with
  | zero =>
    intro i1 i2 i3 i4 i5 M h
    have h0 : (none : Option (Int32 × mM)) = some r := h
    cases h0
  | succ n ih =>
    intro i1 i2 i3 i4 i5 M h H locs ls hR hS hl
    refine lv_iload hx hb dX3_completes_40 (lv_at hl 5 rfl) ?_
    refine lv_bipush (v := 8) hx hb dX3_completes_42 (by decide) ?_
    refine lv_icmp_ge (tgt := 141) hx hb dX3_completes_44 (by decide) (fun c44 => ?_) (fun c44 => ?_)
    · have h := mif_y h c44
      obtain ⟨x141, ex141⟩ : ∃ y : Int32, y = (i4 + 1) := ⟨_, rfl⟩
      have h := mlt_n h x141 ex141
      refine lv_iinc (v := x141) (lv' := [(4, .int x141), (0, .ref (X.1 73)), (1, .int i1), (2, .int i2), (3, .int i3), (5, .int i5)]) hx hb dX3_completes_141 hl (k := 4) rfl (by rw [ex141]; rfl) (by decide) rfl (fun ls hl => ?_)
      refine lv_goto (tgt := 18) hx hb dX3_completes_144 (by decide) ?_
      exact hk18 i1 i2 i3 x141 M h H locs ls hR hS (lv_sub hl [1, 2, 3, 4, 0] rfl)
    · have h := mif_n h c44
      refine lv_aload_n hx hb dX3_completes_47 rfl (lv_at hl 0 rfl) ?_
      refine lv_iload hx hb dX3_completes_48 (lv_at hl 4 rfl) ?_
      refine lv_iload hx hb dX3_completes_50 (lv_at hl 5 rfl) ?_
      refine lv_iload_n hx hb dX3_completes_52 rfl (lv_at hl 3 rfl) ?_
      obtain ⟨v53, q53, h⟩ := mbp_e h
      refine m_ci (m_rV hx hb hml hown hF hR hS (ent3 kd_73) kd_73 rfl (c_X3_emptyBehind l X i4 i5 i3 M q53) q_X3_54_V hdV_X3_emptyBehind ⟨by simp only [rmF]; omega, by simp only [rmF]; omega⟩ rfl hl.1 rfl (Nat.le_of_ble_eq_true rfl) dX3_completes_53) hS (fun H locs hR hS => ?_)
      refine lv_istore (lv' := [(6, .int v53), (0, .ref (X.1 73)), (1, .int i1), (2, .int i2), (3, .int i3), (4, .int i4), (5, .int i5)]) hx hb dX3_completes_56 hl (by decide) rfl (fun ls hl => ?_)
      refine lv_iload hx hb dX3_completes_58 (lv_at hl 0 rfl) ?_
      refine lv_iload_n hx hb dX3_completes_60 rfl (lv_at hl 3 rfl) ?_
      refine lv_iload_n hx hb dX3_completes_61 rfl (lv_at hl 2 rfl) ?_
      refine lv_isub hx hb dX3_completes_62 ?_
      refine lv_icmp_ge (tgt := 135) hx hb dX3_completes_63 (by decide) (fun c63 => ?_) (fun c63 => ?_)
      · have h := mif_y h c63
        obtain ⟨x135, ex135⟩ : ∃ y : Int32, y = (i5 + 1) := ⟨_, rfl⟩
        have h := mlt_n h x135 ex135
        refine lv_iinc (v := x135) (lv' := [(5, .int x135), (6, .int v53), (0, .ref (X.1 73)), (1, .int i1), (2, .int i2), (3, .int i3), (4, .int i4)]) hx hb dX3_completes_135 hl (k := 6) rfl (by rw [ex135]; rfl) (by decide) rfl (fun ls hl => ?_)
        refine lv_goto (tgt := 40) hx hb dX3_completes_138 (by decide) ?_
        exact ih i1 i2 i3 i4 x135 M h H locs ls hR hS (lv_sub hl [2, 3, 4, 5, 6, 0] rfl)
      · have h := mif_n h c63
        refine lv_aload_n hx hb dX3_completes_66 rfl (lv_at hl 1 rfl) ?_
        refine m_g3_0 hx hb hF hown hR kd_73 mw_1_182 dX3_completes_67 ?_
        refine lv_iload hx hb dX3_completes_70 (lv_at hl 5 rfl) ?_
        refine lv_iload hx hb dX3_completes_72 (lv_at hl 6 rfl) ?_
        obtain ⟨v74, M74, q74, h⟩ := mbw_e h
        refine m_ci (m_rV hx hb hml hown hF hR hS (ent0 kd_65) kd_65 rfl (c_X0_mayGo l X 65 i4 i5 isBody_65 M q74) q_X3_58_V hdV_X0_mayGo ⟨by simp only [rmF]; omega, by simp only [rmF]; omega⟩ rfl hl.1 rfl (Nat.le_of_ble_eq_true rfl) dX3_completes_74) hS (fun H locs hR hS => ?_)
        refine lv_if_eq (tgt := 135) hx hb dX3_completes_77 (by decide) (fun c77 => ?_) (fun c77 => ?_)
        · have h := mif_y h c77
          obtain ⟨x135, ex135⟩ : ∃ y : Int32, y = (i5 + 1) := ⟨_, rfl⟩
          have h := mlt_n h x135 ex135
          refine lv_iinc (v := x135) (lv' := [(5, .int x135), (6, .int v53), (0, .ref (X.1 73)), (1, .int i1), (2, .int i2), (3, .int i3), (4, .int i4)]) hx hb dX3_completes_135 hl (k := 6) rfl (by rw [ex135]; rfl) (by decide) rfl (fun ls hl => ?_)
          refine lv_goto (tgt := 40) hx hb dX3_completes_138 (by decide) ?_
          exact ih i1 i2 i3 i4 x135 M74 h H locs ls hR hS (lv_sub hl [2, 3, 4, 5, 6, 0] rfl)
        · have h := mif_n h c77
          refine lv_aload_n hx hb dX3_completes_80 rfl (lv_at hl 1 rfl) ?_
          refine m_g3_2 hx hb hF hown hR kd_73 mw_1_184 dX3_completes_81 ?_
          refine lv_iload_n hx hb dX3_completes_84 rfl (lv_at hl 2 rfl) ?_
          refine lv_bipush (v := 8) hx hb dX3_completes_85 (by decide) ?_
          refine lv_iload hx hb dX3_completes_87 (lv_at hl 5 rfl) ?_
          refine lv_imul hx hb dX3_completes_89 ?_
          refine lv_iload hx hb dX3_completes_90 (lv_at hl 6 rfl) ?_
          refine lv_iadd hx hb dX3_completes_92 ?_
          obtain ⟨g93, h⟩ := mgd_e h
          obtain ⟨M93, eM93⟩ : ∃ y : mM, y = mI M74 75 (Int32.toNatClampNeg i1) ((8 * i4) + i5) := ⟨_, rfl⟩
          have h := mlt_n h M93 eM93
          refine m_iastL hx hb hR hS kd_75 g93 (jn := (Int32.toNatClampNeg i1)) rfl dX3_completes_93 eM93 (fun H locs hR hS => ?_)
          refine lv_aload_n hx hb dX3_completes_94 rfl (lv_at hl 1 rfl) ?_
          refine m_g3_0 hx hb hF hown hR kd_73 mw_1_182 dX3_completes_95 ?_
          refine lv_iload hx hb dX3_completes_98 (lv_at hl 5 rfl) ?_
          refine lv_iload hx hb dX3_completes_100 (lv_at hl 6 rfl) ?_
          obtain ⟨M102, q102, h⟩ := mbp_e h
          refine m_cv (m_rV hx hb hml hown hF hR hS (ent0 kd_65) kd_65 rfl (c_X0_go l X 65 i4 i5 isBody_65 M93 q102) q_X3_62_V hdV_X0_go ⟨by simp only [rmF]; omega, by simp only [rmF]; omega⟩ rfl hl.1 rfl (Nat.le_of_ble_eq_true rfl) dX3_completes_102) hS (fun H locs hR hS => ?_)
          refine lv_aload_n hx hb dX3_completes_105 rfl (lv_at hl 1 rfl) ?_
          refine lv_iload_n hx hb dX3_completes_106 rfl (lv_at hl 2 rfl) ?_
          refine lv_iconst (v := 1) hx hb dX3_completes_107 (by decide) ?_
          refine lv_iadd hx hb dX3_completes_108 ?_
          refine lv_iload_n hx hb dX3_completes_109 rfl (lv_at hl 3 rfl) ?_
          refine lv_iload hx hb dX3_completes_110 (lv_at hl 0 rfl) ?_
          obtain ⟨v112, M112, q112, h⟩ := mbw_e h
          refine m_ci (m_rV hx hb hml hown hF hR hS (ent3 kd_73) kd_73 rfl (hslf (i1 + 1) i2 v53 M102 _ q112) q_X3_47_V hdV_X3_completes ⟨by simp only [rmF]; omega, by simp only [rmF]; omega⟩ rfl hl.1 rfl (Nat.le_of_ble_eq_true rfl) dX3_completes_112) hS (fun H locs hR hS => ?_)
          refine lv_istore (lv' := [(7, .int v112), (6, .int v53), (0, .ref (X.1 73)), (1, .int i1), (2, .int i2), (3, .int i3), (4, .int i4), (5, .int i5)]) hx hb dX3_completes_115 hl (by decide) rfl (fun ls hl => ?_)
          refine lv_aload_n hx hb dX3_completes_117 rfl (lv_at hl 2 rfl) ?_
          refine m_g3_0 hx hb hF hown hR kd_73 mw_1_182 dX3_completes_118 ?_
          refine lv_iload hx hb dX3_completes_121 (lv_at hl 6 rfl) ?_
          refine lv_iload hx hb dX3_completes_123 (lv_at hl 7 rfl) ?_
          obtain ⟨M125, q125, h⟩ := mbp_e h
          refine m_cv (m_rV hx hb hml hown hF hR hS (ent0 kd_65) kd_65 rfl (c_X0_goBack l X 65 i4 i5 isBody_65 M112 q125) q_X3_66_V hdV_X0_goBack ⟨by simp only [rmF]; omega, by simp only [rmF]; omega⟩ rfl hl.1 rfl (Nat.le_of_ble_eq_true rfl) dX3_completes_125) hS (fun H locs hR hS => ?_)
          refine lv_iload hx hb dX3_completes_128 (lv_at hl 0 rfl) ?_
          refine lv_if_eq (tgt := 135) hx hb dX3_completes_130 (by decide) (fun c130 => ?_) (fun c130 => ?_)
          · have h := mif_y h c130
            obtain ⟨x135, ex135⟩ : ∃ y : Int32, y = (i5 + 1) := ⟨_, rfl⟩
            have h := mlt_n h x135 ex135
            refine lv_iinc (v := x135) (lv' := [(5, .int x135), (7, .int v112), (6, .int v53), (0, .ref (X.1 73)), (1, .int i1), (2, .int i2), (3, .int i3), (4, .int i4)]) hx hb dX3_completes_135 hl (k := 7) rfl (by rw [ex135]; rfl) (by decide) rfl (fun ls hl => ?_)
            refine lv_goto (tgt := 40) hx hb dX3_completes_138 (by decide) ?_
            exact ih i1 i2 i3 i4 x135 M125 h H locs ls hR hS (lv_sub hl [3, 4, 5, 6, 7, 0] rfl)
          · have h := mif_n h c130
            refine lv_iconst (v := 1) hx hb dX3_completes_133 (by decide) ?_
            exact m_zr hx hb hlk hr hR hS (Or.inr rfl) (Option.some.inj h).symm dX3_completes_134
set_option maxRecDepth 100000 in
set_option maxHeartbeats 4000000 in
theorem w_X3_completes_b18 {l : Launch} {X : mX} {p : Program} {e : Env} {s : State} {m : MethodId} {args : Array Value} {below : List Frame} {meth : Method} {c : Code} {r : Int32 × mM} (hs : mS X RX3 cX3_completes 8 (some .boolean) p s m meth c) (d : Nat) (slf : Int32 → Int32 → Int32 → mM → Option (Int32 × mM)) (hslf : ∀ (i1 : Int32) (i2 : Int32) (i3 : Int32) (M : mM) (r : Int32 × mM), slf i1 i2 i3 M = some r → mMi l yX3_completes cX3_completes 8 (some .boolean) (20 + 10 * d) (2000 + 200 * d) X [.ref (X.1 73), .int i1, .int i2, .int i3] M r) : ∀ n : Nat, ∀ (i1 : Int32) (i2 : Int32) (i3 : Int32) (i4 : Int32) (M : mM), f_X3_completes_b18 slf n i1 i2 i3 i4 M = some r → mG X p l e (rmF (20 + 10 * (d + 1)) (2000 + 200 * (d + 1))) s m args below meth c (MQ below (mQi X r.2 r.1) args s 0 0 (mL X)) 8 18 [(0, .ref (X.1 73)), (1, .int i1), (2, .int i2), (3, .int i3), (4, .int i4)] [] M := by
  obtain ⟨hx, hb, hml, hown, hF, hlk, hr⟩ := id hs
  intro n
  induction n with
  | zero =>
    intro i1 i2 i3 i4 M h
    have h0 : (none : Option (Int32 × mM)) = some r := h
    cases h0
  | succ n ih =>
    intro i1 i2 i3 i4 M h H locs ls hR hS hl
    refine lv_iload hx hb dX3_completes_18 (lv_at hl 4 rfl) ?_
    refine lv_bipush (v := 8) hx hb dX3_completes_20 (by decide) ?_
    refine lv_icmp_ge (tgt := 147) hx hb dX3_completes_22 (by decide) (fun c22 => ?_) (fun c22 => ?_)
    · have h := mif_y h c22
      refine lv_iconst (v := 0) hx hb dX3_completes_147 (by decide) ?_
      exact m_zr hx hb hlk hr hR hS (Or.inl rfl) (Option.some.inj h).symm dX3_completes_148
    · have h := mif_n h c22
      refine lv_iload hx hb dX3_completes_25 (lv_at hl 4 rfl) ?_
      refine lv_aload_n hx hb dX3_completes_27 rfl (lv_at hl 0 rfl) ?_
      refine m_g3_0 hx hb hF hown hR kd_73 mw_1_182 dX3_completes_28 ?_
      refine m_g0_0 hx hb hF hown hR kd_65 mw_1_50 dX3_completes_31 ?_
      refine lv_icmp_ge (tgt := 147) hx hb dX3_completes_34 (by decide) (fun c34 => ?_) (fun c34 => ?_)
      · have h := mif_y h c34
        refine lv_iconst (v := 0) hx hb dX3_completes_147 (by decide) ?_
        exact m_zr hx hb hlk hr hR hS (Or.inl rfl) (Option.some.inj h).symm dX3_completes_148
      · have h := mif_n h c34
        refine lv_iconst (v := 0) hx hb dX3_completes_37 (by decide) ?_
        refine lv_istore (lv' := [(5, .int 0), (0, .ref (X.1 73)), (1, .int i1), (2, .int i2), (3, .int i3), (4, .int i4)]) hx hb dX3_completes_38 hl (by decide) rfl (fun ls hl => ?_)
        exact w_X3_completes_b40 hs d slf hslf (f_X3_completes_b18 slf n) ih mN i1 i2 i3 i4 0 M h H locs ls hR hS (lv_sub hl [1, 2, 3, 4, 5, 0] rfl)
set_option maxRecDepth 100000 in
set_option maxHeartbeats 4000000 in
theorem w_X3_completes {l : Launch} {X : mX} {p : Program} {e : Env} {s : State} {m : MethodId} {args : Array Value} {below : List Frame} {meth : Method} {c : Code} {r : Int32 × mM} (hs : mS X RX3 cX3_completes 8 (some .boolean) p s m meth c) (d : Nat) (slf : Int32 → Int32 → Int32 → mM → Option (Int32 × mM)) (hslf : ∀ (i1 : Int32) (i2 : Int32) (i3 : Int32) (M : mM) (r : Int32 × mM), slf i1 i2 i3 M = some r → mMi l yX3_completes cX3_completes 8 (some .boolean) (20 + 10 * d) (2000 + 200 * d) X [.ref (X.1 73), .int i1, .int i2, .int i3] M r) : ∀ (i1 : Int32) (i2 : Int32) (i3 : Int32) (M : mM), f_X3_completes slf i1 i2 i3 M = some r → mG X p l e (rmF (20 + 10 * (d + 1)) (2000 + 200 * (d + 1))) s m args below meth c (MQ below (mQi X r.2 r.1) args s 0 0 (mL X)) 8 0 [(0, .ref (X.1 73)), (1, .int i1), (2, .int i2), (3, .int i3)] [] M := by
  obtain ⟨hx, hb, hml, hown, hF, hlk, hr⟩ := id hs
  intro i1 i2 i3 M h H locs ls hR hS hl
  refine lv_iload_n hx hb dX3_completes_0 rfl (lv_at hl 1 rfl) ?_
  refine lv_iload_n hx hb dX3_completes_1 rfl (lv_at hl 2 rfl) ?_
  refine lv_icmp_lt (tgt := 15) hx hb dX3_completes_2 (by decide) (fun c2 => ?_) (fun c2 => ?_)
  · have h := mif_y h c2
    refine lv_iconst (v := 0) hx hb dX3_completes_15 (by decide) ?_
    refine lv_istore (lv' := [(4, .int 0), (0, .ref (X.1 73)), (1, .int i1), (2, .int i2), (3, .int i3)]) hx hb dX3_completes_16 hl (by decide) rfl (fun ls hl => ?_)
    exact w_X3_completes_b18 hs d slf hslf mN i1 i2 i3 0 M h H locs ls hR hS (lv_sub hl [1, 2, 3, 4, 0] rfl)
  · have h := mif_n h c2
    refine lv_iload_n hx hb dX3_completes_5 rfl (lv_at hl 3 rfl) ?_
    refine lv_if_ne (tgt := 13) hx hb dX3_completes_6 (by decide) (fun c6 => ?_) (fun c6 => ?_)
    · have h := mif_n h c6
      refine lv_iconst (v := 0) hx hb dX3_completes_13 (by decide) ?_
      exact m_zr hx hb hlk hr hR hS (Or.inl rfl) (Option.some.inj h).symm dX3_completes_14
    · have h := mif_y h c6
      refine lv_iconst (v := 1) hx hb dX3_completes_9 (by decide) ?_
      refine lv_goto (tgt := 14) hx hb dX3_completes_10 (by decide) ?_
      exact m_zr hx hb hlk hr hR hS (Or.inr rfl) (Option.some.inj h).symm dX3_completes_14
theorem c_X3_completes (d : Nat) (l : Launch) (X : mX) (slf : Int32 → Int32 → Int32 → mM → Option (Int32 × mM)) (hslf : ∀ (i1 : Int32) (i2 : Int32) (i3 : Int32) (M : mM) (r : Int32 × mM), slf i1 i2 i3 M = some r → mMi l yX3_completes cX3_completes 8 (some .boolean) (20 + 10 * d) (2000 + 200 * d) X [.ref (X.1 73), .int i1, .int i2, .int i3] M r) (i1 : Int32) (i2 : Int32) (i3 : Int32) (M : mM) {r : Int32 × mM} (h : f_X3_completes slf i1 i2 i3 M = some r) : mMi l yX3_completes cX3_completes 8 (some .boolean) (20 + 10 * (d + 1)) (2000 + 200 * (d + 1)) X [.ref (X.1 73), .int i1, .int i2, .int i3] M r := m_ofi (by decide +kernel) (Nat.le_of_ble_eq_true rfl) rfl (fun p e s m args below meth c hs => w_X3_completes hs d slf hslf i1 i2 i3 M h)
theorem c_X3_completesD (l : Launch) (X : mX) : ∀ (d : Nat) (i1 : Int32) (i2 : Int32) (i3 : Int32) (M : mM) {r : Int32 × mM}, f_X3_completesD d i1 i2 i3 M = some r → mMi l yX3_completes cX3_completes 8 (some .boolean) (20 + 10 * d) (2000 + 200 * d) X [.ref (X.1 73), .int i1, .int i2, .int i3] M r := by
  intro d
  induction d with
  | zero =>
    intro i1 i2 i3 M r h
    have h0 : (none : Option (Int32 × mM)) = some r := h
    cases h0
  | succ d ih =>
    intro i1 i2 i3 M r h
    exact c_X3_completes d l X (f_X3_completesD d) (fun i1 i2 i3 M r h => ih i1 i2 i3 M h) i1 i2 i3 M h
set_option maxRecDepth 100000 in
set_option maxHeartbeats 4000000 in
theorem w_X3_find_b88 {l : Launch} {X : mX} {p : Program} {e : Env} {s : State} {m : MethodId} {args : Array Value} {below : List Frame} {meth : Method} {c : Code} {r : Int32 × mM} (hs : mS X RX3 cX3_find 7 (some .int) p s m meth c) : ∀ n : Nat, ∀ (q1 : Nat) (i3 : Int32) (i4 : Int32) (i5 : Int32) (h_q1 : isWorld q1) (M : mM), f_X3_find_b88 n q1 i3 i4 i5 M = some r → mG X p l e (rmF 81 3227) s m args below meth c (MQ below (mQi X r.2 r.1) args s 0 0 (mL X)) 7 88 [(0, .ref (X.1 73)), (3, .int i3), (4, .int i4), (5, .int i5)] [] M := by
  obtain ⟨hx, hb, hml, hown, hF, hlk, hr⟩ := id hs
  intro n
  induction n with
  | zero =>
    intro q1 i3 i4 i5 h_q1 M h
    have h0 : (none : Option (Int32 × mM)) = some r := h
    cases h0
  | succ n ih =>
    intro q1 i3 i4 i5 h_q1 M h H locs ls hR hS hl
    refine lv_iload hx hb dX3_find_88 (lv_at hl 3 rfl) ?_
    refine lv_iload_n hx hb dX3_find_90 rfl (lv_at hl 1 rfl) ?_
    refine lv_icmp_gt (tgt := 115) hx hb dX3_find_91 (by decide) (fun c91 => ?_) (fun c91 => ?_)
    · have h := mif_y h c91
      refine lv_bipush (v := (-4)) hx hb dX3_find_115 (by decide) ?_
      exact m_ir hx hb hlk hr hR hS (Option.some.inj h).symm dX3_find_117
    · have h := mif_n h c91
      refine lv_aload_n hx hb dX3_find_94 rfl (lv_at hl 0 rfl) ?_
      refine lv_iconst (v := 0) hx hb dX3_find_95 (by decide) ?_
      refine lv_iload hx hb dX3_find_96 (lv_at hl 3 rfl) ?_
      refine lv_iload hx hb dX3_find_98 (lv_at hl 2 rfl) ?_
      obtain ⟨v100, M100, q100, h⟩ := mbw_e h
      refine m_ci (m_rV hx hb hml hown hF hR hS (ent3 kd_73) kd_73 rfl (c_X3_completesD l X 6 0 i5 i4 M q100) q_X3_47_V hdV_X3_completes ⟨Nat.le_of_ble_eq_true rfl, Nat.le_of_ble_eq_true rfl⟩ rfl hl.1 rfl (Nat.le_of_ble_eq_true rfl) dX3_find_100) hS (fun H locs hR hS => ?_)
      refine lv_if_eq (tgt := 109) hx hb dX3_find_103 (by decide) (fun c103 => ?_) (fun c103 => ?_)
      · have h := mif_y h c103
        obtain ⟨x109, ex109⟩ : ∃ y : Int32, y = (i5 + 1) := ⟨_, rfl⟩
        have h := mlt_n h x109 ex109
        refine lv_iinc (v := x109) (lv' := [(5, .int x109), (0, .ref (X.1 73)), (3, .int i3), (4, .int i4)]) hx hb dX3_find_109 hl (k := 3) rfl (by rw [ex109]; rfl) (by decide) rfl (fun ls hl => ?_)
        refine lv_goto (tgt := 88) hx hb dX3_find_112 (by decide) ?_
        exact ih q1 i3 i4 x109 h_q1 M100 h H locs ls hR hS (lv_sub hl [1, 2, 3, 0] rfl)
      · have h := mif_n h c103
        refine lv_iload hx hb dX3_find_106 (lv_at hl 3 rfl) ?_
        exact m_ir hx hb hlk hr hR hS (Option.some.inj h).symm dX3_find_108
set_option maxRecDepth 100000 in
set_option maxHeartbeats 4000000 in
theorem w_X3_find_b44 {l : Launch} {X : mX} {p : Program} {e : Env} {s : State} {m : MethodId} {args : Array Value} {below : List Frame} {meth : Method} {c : Code} {r : Int32 × mM} (hs : mS X RX3 cX3_find 7 (some .int) p s m meth c) (k34 : Nat → Int32 → Int32 → Int32 → Int32 → mM → Option (Int32 × mM)) (hk34 : ∀ (q1 : Nat) (i2 : Int32) (i3 : Int32) (i4 : Int32) (i5 : Int32) (h_q1 : isWorld q1) (M : mM), k34 q1 i2 i3 i4 i5 M = some r → mG X p l e (rmF 81 3227) s m args below meth c (MQ below (mQi X r.2 r.1) args s 0 0 (mL X)) 7 34 [(0, .ref (X.1 73)), (1, .ref (X.1 q1)), (2, .int i2), (3, .int i3), (4, .int i4), (5, .int i5)] [] M) : ∀ n : Nat, ∀ (q1 : Nat) (i2 : Int32) (i3 : Int32) (i4 : Int32) (i5 : Int32) (i6 : Int32) (h_q1 : isWorld q1) (M : mM), f_X3_find_b44 k34 n q1 i2 i3 i4 i5 i6 M = some r → mG X p l e (rmF 81 3227) s m args below meth c (MQ below (mQi X r.2 r.1) args s 0 0 (mL X)) 7 44 [(0, .ref (X.1 73)), (1, .ref (X.1 q1)), (2, .int i2), (3, .int i3), (4, .int i4), (5, .int i5), (6, .int i6)] [] M := by
  obtain ⟨hx, hb, hml, hown, hF, hlk, hr⟩ := id hs
  intro n
  induction n with
  | zero =>
    intro q1 i2 i3 i4 i5 i6 h_q1 M h
    have h0 : (none : Option (Int32 × mM)) = some r := h
    cases h0
  | succ n ih =>
    intro q1 i2 i3 i4 i5 i6 h_q1 M h H locs ls hR hS hl
    refine lv_iload hx hb dX3_find_44 (lv_at hl 6 rfl) ?_
    refine lv_bipush (v := 8) hx hb dX3_find_46 (by decide) ?_
    refine lv_icmp_ge (tgt := 78) hx hb dX3_find_48 (by decide) (fun c48 => ?_) (fun c48 => ?_)
    · have h := mif_y h c48
      obtain ⟨x78, ex78⟩ : ∃ y : Int32, y = (i5 + 1) := ⟨_, rfl⟩
      have h := mlt_n h x78 ex78
      refine lv_iinc (v := x78) (lv' := [(5, .int x78), (0, .ref (X.1 73)), (1, .ref (X.1 q1)), (2, .int i2), (3, .int i3), (4, .int i4), (6, .int i6)]) hx hb dX3_find_78 hl (k := 5) rfl (by rw [ex78]; rfl) (by decide) rfl (fun ls hl => ?_)
      refine lv_goto (tgt := 34) hx hb dX3_find_81 (by decide) ?_
      exact hk34 q1 i2 i3 i4 x78 h_q1 M h H locs ls hR hS (lv_sub hl [1, 2, 3, 4, 5, 0] rfl)
    · have h := mif_n h c48
      refine lv_aload_n hx hb dX3_find_51 rfl (lv_at hl 0 rfl) ?_
      refine m_g3_1 hx hb hF hown hR kd_73 mw_1_183 dX3_find_52 ?_
      refine lv_iload hx hb dX3_find_55 (lv_at hl 5 rfl) ?_
      refine lv_iload hx hb dX3_find_57 (lv_at hl 6 rfl) ?_
      refine m_ci (m_rSN hx hb hml hown hF hR hS (c_X9_cellOf l X i5 i6 M) mw_2_79 mw_1_1 mw_2_78 20 rfl hdS_X9_cellOf ⟨Nat.le_of_ble_eq_true rfl, Nat.le_of_ble_eq_true rfl⟩ rfl hl.1 rfl (Nat.le_of_ble_eq_true rfl) dX3_find_59) hS (fun H locs hR hS => ?_)
      refine lv_aload_n hx hb dX3_find_62 rfl (lv_at hl 1 rfl) ?_
      refine lv_iload_n hx hb dX3_find_63 rfl (lv_at hl 2 rfl) ?_
      refine lv_iload hx hb dX3_find_64 (lv_at hl 5 rfl) ?_
      refine lv_iload hx hb dX3_find_66 (lv_at hl 6 rfl) ?_
      obtain ⟨v68, q68, h⟩ := mbp_e h
      refine m_ci (m_rV hx hb hml hown hF hR hS (ent7 (kWorld0 h_q1)) (kWorld0 h_q1) rfl (c_X8_shapeHolds l X q1 i2 i5 i6 h_q1 M q68) q_X3_43_V hdV_X8_shapeHolds ⟨Nat.le_of_ble_eq_true rfl, Nat.le_of_ble_eq_true rfl⟩ rfl hl.1 rfl (Nat.le_of_ble_eq_true rfl) dX3_find_68) hS (fun H locs hR hS => ?_)
      obtain ⟨g71, h⟩ := mgd_e h
      obtain ⟨M71, eM71⟩ : ∃ y : mM, y = mI M 74 (Int32.toNatClampNeg (f_X9_cellOf i5 i6)) (vp_nar .boolean v68) := ⟨_, rfl⟩
      have h := mlt_n h M71 eM71
      refine m_zastL hx hb hR hS kd_74 g71 (jn := (Int32.toNatClampNeg (f_X9_cellOf i5 i6))) rfl rfl dX3_find_71 eM71 (fun H locs hR hS => ?_)
      obtain ⟨x72, ex72⟩ : ∃ y : Int32, y = (i6 + 1) := ⟨_, rfl⟩
      have h := mlt_n h x72 ex72
      refine lv_iinc (v := x72) (lv' := [(6, .int x72), (0, .ref (X.1 73)), (1, .ref (X.1 q1)), (2, .int i2), (3, .int i3), (4, .int i4), (5, .int i5)]) hx hb dX3_find_72 hl (k := 6) rfl (by rw [ex72]; rfl) (by decide) rfl (fun ls hl => ?_)
      refine lv_goto (tgt := 44) hx hb dX3_find_75 (by decide) ?_
      exact ih q1 i2 i3 i4 i5 x72 h_q1 M71 h H locs ls hR hS (lv_sub hl [1, 2, 3, 4, 5, 6, 0] rfl)
set_option maxRecDepth 100000 in
set_option maxHeartbeats 4000000 in
theorem w_X3_find_b34 {l : Launch} {X : mX} {p : Program} {e : Env} {s : State} {m : MethodId} {args : Array Value} {below : List Frame} {meth : Method} {c : Code} {r : Int32 × mM} (hs : mS X RX3 cX3_find 7 (some .int) p s m meth c) : ∀ n : Nat, ∀ (q1 : Nat) (i2 : Int32) (i3 : Int32) (i4 : Int32) (i5 : Int32) (h_q1 : isWorld q1) (M : mM), f_X3_find_b34 n q1 i2 i3 i4 i5 M = some r → mG X p l e (rmF 81 3227) s m args below meth c (MQ below (mQi X r.2 r.1) args s 0 0 (mL X)) 7 34 [(0, .ref (X.1 73)), (1, .ref (X.1 q1)), (2, .int i2), (3, .int i3), (4, .int i4), (5, .int i5)] [] M := by
  obtain ⟨hx, hb, hml, hown, hF, hlk, hr⟩ := id hs
  intro n
  induction n with
  | zero =>
    intro q1 i2 i3 i4 i5 h_q1 M h
    have h0 : (none : Option (Int32 × mM)) = some r := h
    cases h0
  | succ n ih =>
    intro q1 i2 i3 i4 i5 h_q1 M h H locs ls hR hS hl
    refine lv_iload hx hb dX3_find_34 (lv_at hl 5 rfl) ?_
    refine lv_bipush (v := 10) hx hb dX3_find_36 (by decide) ?_
    refine lv_icmp_ge (tgt := 84) hx hb dX3_find_38 (by decide) (fun c38 => ?_) (fun c38 => ?_)
    · have h := mif_y h c38
      refine lv_iload hx hb dX3_find_84 (lv_at hl 4 rfl) ?_
      refine lv_istore (lv' := [(5, .int i4), (0, .ref (X.1 73)), (1, .ref (X.1 q1)), (2, .int i2), (3, .int i3), (4, .int i4)]) hx hb dX3_find_86 hl (by decide) rfl (fun ls hl => ?_)
      exact w_X3_find_b88 hs mN q1 i3 i4 i4 h_q1 M h H locs ls hR hS (lv_sub hl [1, 4, 5, 0] rfl)
    · have h := mif_n h c38
      refine lv_iconst (v := 0) hx hb dX3_find_41 (by decide) ?_
      refine lv_istore (lv' := [(6, .int 0), (0, .ref (X.1 73)), (1, .ref (X.1 q1)), (2, .int i2), (3, .int i3), (4, .int i4), (5, .int i5)]) hx hb dX3_find_42 hl (by decide) rfl (fun ls hl => ?_)
      exact w_X3_find_b44 hs (f_X3_find_b34 n) ih mN q1 i2 i3 i4 i5 0 h_q1 M h H locs ls hR hS (lv_sub hl [1, 2, 3, 4, 5, 6, 0] rfl)
set_option maxRecDepth 100000 in
set_option maxHeartbeats 4000000 in
theorem w_X3_find {l : Launch} {X : mX} {p : Program} {e : Env} {s : State} {m : MethodId} {args : Array Value} {below : List Frame} {meth : Method} {c : Code} {r : Int32 × mM} (hs : mS X RX3 cX3_find 7 (some .int) p s m meth c) : ∀ (q1 : Nat) (i2 : Int32) (i3 : Int32) (h_q1 : isWorld q1) (M : mM), f_X3_find q1 i2 i3 M = some r → mG X p l e (rmF 81 3227) s m args below meth c (MQ below (mQi X r.2 r.1) args s 0 0 (mL X)) 7 0 [(0, .ref (X.1 73)), (1, .ref (X.1 q1)), (2, .int i2), (3, .int i3)] [] M := by
  obtain ⟨hx, hb, hml, hown, hF, hlk, hr⟩ := id hs
  intro q1 i2 i3 h_q1 M h H locs ls hR hS hl
  refine lv_aload_n hx hb dX3_find_0 rfl (lv_at hl 1 rfl) ?_
  refine lv_iload_n hx hb dX3_find_1 rfl (lv_at hl 2 rfl) ?_
  obtain ⟨v2, q2, h⟩ := mbp_e h
  refine m_ci (m_rV hx hb hml hown hF hR hS (ent7 (kWorld0 h_q1)) (kWorld0 h_q1) rfl (c_X8_emptyInShape l X q1 i2 h_q1 M q2) q_X3_23_V hdV_X8_emptyInShape ⟨Nat.le_of_ble_eq_true rfl, Nat.le_of_ble_eq_true rfl⟩ rfl hl.1 rfl (Nat.le_of_ble_eq_true rfl) dX3_find_2) hS (fun H locs hR hS => ?_)
  refine lv_istore (lv' := [(4, .int v2), (0, .ref (X.1 73)), (1, .ref (X.1 q1)), (2, .int i2), (3, .int i3)]) hx hb dX3_find_5 hl (by decide) rfl (fun ls hl => ?_)
  refine lv_iload hx hb dX3_find_7 (lv_at hl 0 rfl) ?_
  refine lv_aload_n hx hb dX3_find_9 rfl (lv_at hl 2 rfl) ?_
  refine lv_iload_n hx hb dX3_find_10 rfl (lv_at hl 3 rfl) ?_
  obtain ⟨v11, q11, h⟩ := mbp_e h
  refine m_ci (m_rV hx hb hml hown hF hR hS (ent7 (kWorld0 h_q1)) (kWorld0 h_q1) rfl (c_X8_outsideShape l X q1 i2 h_q1 M q11) q_X3_29_V hdV_X8_outsideShape ⟨Nat.le_of_ble_eq_true rfl, Nat.le_of_ble_eq_true rfl⟩ rfl hl.1 rfl (Nat.le_of_ble_eq_true rfl) dX3_find_11) hS (fun H locs hR hS => ?_)
  refine lv_icmp_eq (tgt := 20) hx hb dX3_find_14 (by decide) (fun c14 => ?_) (fun c14 => ?_)
  · have h := mif_y h c14
    refine lv_aload_n hx hb dX3_find_20 rfl (lv_at hl 1 rfl) ?_
    refine m_g3_0 hx hb hF hown hR kd_73 mw_1_182 dX3_find_21 ?_
    refine lv_aload_n hx hb dX3_find_24 rfl (lv_at hl 2 rfl) ?_
    refine m_g7_0 hx hb hF hown hR (kWorld0 h_q1) mw_1_119 dX3_find_25 ?_
    obtain ⟨M28, q28, h⟩ := mbp_e h
    refine m_cv (m_rV hx hb hml hown hF hR hS (ent0 kd_65) kd_65 rfl (c_X0_copyFrom l X 65 (q1 + 1) isBody_65 (kWorldB h_q1) M q28) q_X3_33_V hdV_X0_copyFrom ⟨Nat.le_of_ble_eq_true rfl, Nat.le_of_ble_eq_true rfl⟩ rfl hl.1 rfl (Nat.le_of_ble_eq_true rfl) dX3_find_28) hS (fun H locs hR hS => ?_)
    refine lv_iconst (v := 0) hx hb dX3_find_31 (by decide) ?_
    refine lv_istore (lv' := [(5, .int 0), (4, .int v2), (0, .ref (X.1 73)), (1, .ref (X.1 q1)), (2, .int i2), (3, .int i3)]) hx hb dX3_find_32 hl (by decide) rfl (fun ls hl => ?_)
    exact w_X3_find_b34 hs mN q1 i2 i3 v2 0 h_q1 M28 h H locs ls hR hS (lv_sub hl [2, 3, 4, 5, 1, 0] rfl)
  · have h := mif_n h c14
    refine lv_bipush (v := (-4)) hx hb dX3_find_17 (by decide) ?_
    exact m_ir hx hb hlk hr hR hS (Option.some.inj h).symm dX3_find_19
theorem c_X3_find (l : Launch) (X : mX) (q1 : Nat) (i2 : Int32) (i3 : Int32) (h_q1 : isWorld q1) (M : mM) {r : Int32 × mM} (h : f_X3_find q1 i2 i3 M = some r) : mMi l yX3_find cX3_find 7 (some .int) 81 3227 X [.ref (X.1 73), .ref (X.1 q1), .int i2, .int i3] M r := m_ofi (by decide +kernel) (Nat.le_of_ble_eq_true rfl) rfl (fun p e s m args below meth c hs => w_X3_find hs q1 i2 i3 h_q1 M h)
set_option maxRecDepth 100000 in
set_option maxHeartbeats 4000000 in
theorem w_X9_plan {l : Launch} {X : mX} {p : Program} {e : Env} {s : State} {m : MethodId} {args : Array Value} {below : List Frame} {meth : Method} {c : Code} {r : Int32 × mM} (hs : mS X RX9 cX9_plan 3 (some .int) p s m meth c) : ∀ (i1 : Int32) (i2 : Int32) (M : mM), f_X9_plan i1 i2 M = some r → mG X p l e (rmF 82 3253) s m args below meth c (MQ below (mQi X r.2 r.1) args s 0 0 (mL X)) 3 0 [(0, .ref (X.1 0)), (1, .int i1), (2, .int i2)] [] M := by
  obtain ⟨hx, hb, hml, hown, hF, hlk, hr⟩ := id hs
  intro i1 i2 M h H locs ls hR hS hl
  refine lv_aload_n hx hb dX9_plan_0 rfl (lv_at hl 0 rfl) ?_
  refine m_g8_0 hx hb hF hown hR kd_0 mw_2_42 dX9_plan_1 ?_
  refine lv_iload_n hx hb dX9_plan_4 rfl (lv_at hl 1 rfl) ?_
  refine m_ci (m_rV hx hb hml hown hF hR hS (ent7 kd_1) kd_1 rfl (c_X8_hasShape l X 1 i1 isWorld_1 M) q_X9_198_V hdV_X8_hasShape ⟨Nat.le_of_ble_eq_true rfl, Nat.le_of_ble_eq_true rfl⟩ rfl hl.1 rfl (Nat.le_of_ble_eq_true rfl) dX9_plan_5) hS (fun H locs hR hS => ?_)
  refine lv_if_eq (tgt := 20) hx hb dX9_plan_8 (by decide) (fun c8 => ?_) (fun c8 => ?_)
  · have h := mif_y h c8
    refine lv_iconst (v := (-1)) hx hb dX9_plan_20 (by decide) ?_
    exact m_ir hx hb hlk hr hR hS (Option.some.inj h).symm dX9_plan_21
  · have h := mif_n h c8
    refine lv_iload_n hx hb dX9_plan_11 rfl (lv_at hl 2 rfl) ?_
    refine lv_if_lt (tgt := 20) hx hb dX9_plan_12 (by decide) (fun c12 => ?_) (fun c12 => ?_)
    · have h := mif_y h c12
      refine lv_iconst (v := (-1)) hx hb dX9_plan_20 (by decide) ?_
      exact m_ir hx hb hlk hr hR hS (Option.some.inj h).symm dX9_plan_21
    · have h := mif_n h c12
      refine lv_iload_n hx hb dX9_plan_15 rfl (lv_at hl 2 rfl) ?_
      refine lv_iconst (v := 4) hx hb dX9_plan_16 (by decide) ?_
      refine lv_icmp_le (tgt := 22) hx hb dX9_plan_17 (by decide) (fun c17 => ?_) (fun c17 => ?_)
      · have h := mif_y h c17
        refine lv_aload_n hx hb dX9_plan_22 rfl (lv_at hl 0 rfl) ?_
        refine m_g8_4 hx hb hF hown hR kd_0 mw_2_46 dX9_plan_23 ?_
        refine lv_aload_n hx hb dX9_plan_26 rfl (lv_at hl 0 rfl) ?_
        refine m_g8_0 hx hb hF hown hR kd_0 mw_2_42 dX9_plan_27 ?_
        refine lv_iload_n hx hb dX9_plan_30 rfl (lv_at hl 1 rfl) ?_
        refine lv_iload_n hx hb dX9_plan_31 rfl (lv_at hl 2 rfl) ?_
        obtain ⟨v32, M32, q32, h⟩ := mbw_e h
        refine m_ci (m_rV hx hb hml hown hF hR hS (ent3 kd_73) kd_73 rfl (c_X3_find l X 1 i1 i2 isWorld_1 M q32) q_X9_214_V hdV_X3_find ⟨Nat.le_of_ble_eq_true rfl, Nat.le_of_ble_eq_true rfl⟩ rfl hl.1 rfl (Nat.le_of_ble_eq_true rfl) dX9_plan_32) hS (fun H locs hR hS => ?_)
        exact m_ir hx hb hlk hr hR hS (Option.some.inj h).symm dX9_plan_35
      · have h := mif_n h c17
        refine lv_iconst (v := (-1)) hx hb dX9_plan_20 (by decide) ?_
        exact m_ir hx hb hlk hr hR hS (Option.some.inj h).symm dX9_plan_21
theorem c_X9_plan (l : Launch) (X : mX) (i1 : Int32) (i2 : Int32) (M : mM) {r : Int32 × mM} (h : f_X9_plan i1 i2 M = some r) : mMi l yX9_plan cX9_plan 3 (some .int) 82 3253 X [.ref (X.1 0), .int i1, .int i2] M r := m_ofi (by decide +kernel) (Nat.le_of_ble_eq_true rfl) rfl (fun p e s m args below meth c hs => w_X9_plan hs i1 i2 M h)
set_option maxRecDepth 100000 in
set_option maxHeartbeats 4000000 in
theorem w_X3_moveOf {l : Launch} {X : mX} {p : Program} {e : Env} {s : State} {m : MethodId} {args : Array Value} {below : List Frame} {meth : Method} {c : Code} {M : mM} {r : Int32} (hs : mS X RX3 cX3_moveOf 2 (some .int) p s m meth c) : ∀ (i1 : Int32), f_X3_moveOf i1 M = some r → mG X p l e (rmF 0 0) s m args below meth c (MQ below (mQi X M r) args s 0 0 (mL X)) 2 0 [(0, .ref (X.1 73)), (1, .int i1)] [] M := by
  obtain ⟨hx, hb, hml, hown, hF, hlk, hr⟩ := id hs
  intro i1 h H locs ls hR hS hl
  refine lv_iload_n hx hb dX3_moveOf_0 rfl (lv_at hl 1 rfl) ?_
  refine lv_if_lt (tgt := 18) hx hb dX3_moveOf_1 (by decide) (fun c1 => ?_) (fun c1 => ?_)
  · have h := mif_y h c1
    refine lv_bipush (v := (-4)) hx hb dX3_moveOf_18 (by decide) ?_
    exact m_ir hx hb hlk hr hR hS (congrArg (fun z => (z, M)) (Option.some.inj h).symm) dX3_moveOf_20
  · have h := mif_n h c1
    refine lv_iload_n hx hb dX3_moveOf_4 rfl (lv_at hl 1 rfl) ?_
    refine lv_iconst (v := 4) hx hb dX3_moveOf_5 (by decide) ?_
    refine lv_icmp_ge (tgt := 18) hx hb dX3_moveOf_6 (by decide) (fun c6 => ?_) (fun c6 => ?_)
    · have h := mif_y h c6
      refine lv_bipush (v := (-4)) hx hb dX3_moveOf_18 (by decide) ?_
      exact m_ir hx hb hlk hr hR hS (congrArg (fun z => (z, M)) (Option.some.inj h).symm) dX3_moveOf_20
    · have h := mif_n h c6
      refine lv_aload_n hx hb dX3_moveOf_9 rfl (lv_at hl 0 rfl) ?_
      refine m_g3_2 hx hb hF hown hR kd_73 mw_1_184 dX3_moveOf_10 ?_
      refine lv_iload_n hx hb dX3_moveOf_13 rfl (lv_at hl 1 rfl) ?_
      obtain ⟨g14, h⟩ := mgd_e h
      refine m_ialdL hx hb hR kd_75 g14 (jn := (Int32.toNatClampNeg i1)) rfl dX3_moveOf_14 ?_
      refine lv_goto (tgt := 20) hx hb dX3_moveOf_15 (by decide) ?_
      exact m_ir hx hb hlk hr hR hS (congrArg (fun z => (z, M)) (Option.some.inj h).symm) dX3_moveOf_20
theorem c_X3_moveOf (l : Launch) (X : mX) (i1 : Int32) (M : mM) {r : Int32} (h : f_X3_moveOf i1 M = some r) : mMi l yX3_moveOf cX3_moveOf 2 (some .int) 0 0 X [.ref (X.1 73), .int i1] M (r, M) := m_ofi (by decide +kernel) (Nat.le_of_ble_eq_true rfl) rfl (fun p e s m args below meth c hs => w_X3_moveOf hs i1 h)
set_option maxRecDepth 100000 in
set_option maxHeartbeats 4000000 in
theorem w_X9_planned {l : Launch} {X : mX} {p : Program} {e : Env} {s : State} {m : MethodId} {args : Array Value} {below : List Frame} {meth : Method} {c : Code} {r : Int32 × mM} (hs : mS X RX9 cX9_planned 5 (some .int) p s m meth c) : ∀ (i1 : Int32) (i2 : Int32) (i3 : Int32) (M : mM), f_X9_planned i1 i2 i3 M = some r → mG X p l e (rmF 82 3253) s m args below meth c (MQ below (mQi X r.2 r.1) args s 0 0 (mL X)) 5 0 [(0, .ref (X.1 0)), (1, .int i1), (2, .int i2), (3, .int i3)] [] M := by
  obtain ⟨hx, hb, hml, hown, hF, hlk, hr⟩ := id hs
  intro i1 i2 i3 M h H locs ls hR hS hl
  refine lv_aload_n hx hb dX9_planned_0 rfl (lv_at hl 0 rfl) ?_
  refine m_g8_0 hx hb hF hown hR kd_0 mw_2_42 dX9_planned_1 ?_
  refine lv_iload_n hx hb dX9_planned_4 rfl (lv_at hl 1 rfl) ?_
  refine m_ci (m_rV hx hb hml hown hF hR hS (ent7 kd_1) kd_1 rfl (c_X8_hasShape l X 1 i1 isWorld_1 M) q_X9_198_V hdV_X8_hasShape ⟨Nat.le_of_ble_eq_true rfl, Nat.le_of_ble_eq_true rfl⟩ rfl hl.1 rfl (Nat.le_of_ble_eq_true rfl) dX9_planned_5) hS (fun H locs hR hS => ?_)
  refine lv_if_eq (tgt := 24) hx hb dX9_planned_8 (by decide) (fun c8 => ?_) (fun c8 => ?_)
  · have h := mif_y h c8
    refine lv_iconst (v := (-1)) hx hb dX9_planned_24 (by decide) ?_
    exact m_ir hx hb hlk hr hR hS (Option.some.inj h).symm dX9_planned_25
  · have h := mif_n h c8
    refine lv_iload_n hx hb dX9_planned_11 rfl (lv_at hl 2 rfl) ?_
    refine lv_if_lt (tgt := 24) hx hb dX9_planned_12 (by decide) (fun c12 => ?_) (fun c12 => ?_)
    · have h := mif_y h c12
      refine lv_iconst (v := (-1)) hx hb dX9_planned_24 (by decide) ?_
      exact m_ir hx hb hlk hr hR hS (Option.some.inj h).symm dX9_planned_25
    · have h := mif_n h c12
      refine lv_iload_n hx hb dX9_planned_15 rfl (lv_at hl 2 rfl) ?_
      refine lv_iconst (v := 4) hx hb dX9_planned_16 (by decide) ?_
      refine lv_icmp_gt (tgt := 24) hx hb dX9_planned_17 (by decide) (fun c17 => ?_) (fun c17 => ?_)
      · have h := mif_y h c17
        refine lv_iconst (v := (-1)) hx hb dX9_planned_24 (by decide) ?_
        exact m_ir hx hb hlk hr hR hS (Option.some.inj h).symm dX9_planned_25
      · have h := mif_n h c17
        refine lv_iload_n hx hb dX9_planned_20 rfl (lv_at hl 3 rfl) ?_
        refine lv_if_ge (tgt := 26) hx hb dX9_planned_21 (by decide) (fun c21 => ?_) (fun c21 => ?_)
        · have h := mif_y h c21
          refine lv_aload_n hx hb dX9_planned_26 rfl (lv_at hl 0 rfl) ?_
          refine m_g8_4 hx hb hF hown hR kd_0 mw_2_46 dX9_planned_27 ?_
          refine lv_aload_n hx hb dX9_planned_30 rfl (lv_at hl 0 rfl) ?_
          refine m_g8_0 hx hb hF hown hR kd_0 mw_2_42 dX9_planned_31 ?_
          refine lv_iload_n hx hb dX9_planned_34 rfl (lv_at hl 1 rfl) ?_
          refine lv_iload_n hx hb dX9_planned_35 rfl (lv_at hl 2 rfl) ?_
          obtain ⟨v36, M36, q36, h⟩ := mbw_e h
          refine m_ci (m_rV hx hb hml hown hF hR hS (ent3 kd_73) kd_73 rfl (c_X3_find l X 1 i1 i2 isWorld_1 M q36) q_X9_214_V hdV_X3_find ⟨Nat.le_of_ble_eq_true rfl, Nat.le_of_ble_eq_true rfl⟩ rfl hl.1 rfl (Nat.le_of_ble_eq_true rfl) dX9_planned_36) hS (fun H locs hR hS => ?_)
          refine lv_istore (lv' := [(4, .int v36), (0, .ref (X.1 0)), (1, .int i1), (2, .int i2), (3, .int i3)]) hx hb dX9_planned_39 hl (by decide) rfl (fun ls hl => ?_)
          refine lv_iload_n hx hb dX9_planned_41 rfl (lv_at hl 4 rfl) ?_
          refine lv_iload hx hb dX9_planned_42 (lv_at hl 0 rfl) ?_
          refine lv_icmp_ge (tgt := 58) hx hb dX9_planned_44 (by decide) (fun c44 => ?_) (fun c44 => ?_)
          · have h := mif_y h c44
            refine lv_bipush (v := (-4)) hx hb dX9_planned_58 (by decide) ?_
            exact m_ir hx hb hlk hr hR hS (Option.some.inj h).symm dX9_planned_60
          · have h := mif_n h c44
            refine lv_aload_n hx hb dX9_planned_47 rfl (lv_at hl 1 rfl) ?_
            refine m_g8_4 hx hb hF hown hR kd_0 mw_2_46 dX9_planned_48 ?_
            refine lv_iload_n hx hb dX9_planned_51 rfl (lv_at hl 4 rfl) ?_
            obtain ⟨v52, q52, h⟩ := mbp_e h
            refine m_ci (m_rV hx hb hml hown hF hR hS (ent3 kd_73) kd_73 rfl (c_X3_moveOf l X i3 M36 q52) q_X9_218_V hdV_X3_moveOf ⟨Nat.le_of_ble_eq_true rfl, Nat.le_of_ble_eq_true rfl⟩ rfl hl.1 rfl (Nat.le_of_ble_eq_true rfl) dX9_planned_52) hS (fun H locs hR hS => ?_)
            refine lv_goto (tgt := 60) hx hb dX9_planned_55 (by decide) ?_
            exact m_ir hx hb hlk hr hR hS (Option.some.inj h).symm dX9_planned_60
        · have h := mif_n h c21
          refine lv_iconst (v := (-1)) hx hb dX9_planned_24 (by decide) ?_
          exact m_ir hx hb hlk hr hR hS (Option.some.inj h).symm dX9_planned_25
theorem c_X9_planned (l : Launch) (X : mX) (i1 : Int32) (i2 : Int32) (i3 : Int32) (M : mM) {r : Int32 × mM} (h : f_X9_planned i1 i2 i3 M = some r) : mMi l yX9_planned cX9_planned 5 (some .int) 82 3253 X [.ref (X.1 0), .int i1, .int i2, .int i3] M r := m_ofi (by decide +kernel) (Nat.le_of_ble_eq_true rfl) rfl (fun p e s m args below meth c hs => w_X9_planned hs i1 i2 i3 M h)
set_option maxRecDepth 100000 in
set_option maxHeartbeats 4000000 in
theorem w_X9_judge_b45 {l : Launch} {X : mX} {p : Program} {e : Env} {s : State} {m : MethodId} {args : Array Value} {below : List Frame} {meth : Method} {c : Code} {r : Int32 × mM} (hs : mS X RX9 cX9_judge 6 (some .int) p s m meth c) : ∀ n : Nat, ∀ (i4 : Int32) (h14 : Nat) (h_h14 : isShelf h14) (M : mM), f_X9_judge_b45 n i4 h14 M = some r → mG X p l e (rmF 4 321) s m args below meth c (MQ below (mQi X r.2 r.1) args s 0 0 (mL X)) 6 45 [(0, .ref (X.1 0)), (2, .ref (X.1 h14)), (4, .int i4)] [] M := by
  obtain ⟨hx, hb, hml, hown, hF, hlk, hr⟩ := id hs
  intro n
  induction n with
  | zero =>
    intro i4 h14 h_h14 M h
    have h0 : (none : Option (Int32 × mM)) = some r := h
    cases h0
  | succ n ih =>
    intro i4 h14 h_h14 M h H locs ls hR hS hl
    refine lv_iload hx hb dX9_judge_45 (lv_at hl 2 rfl) ?_
    refine lv_aload_n hx hb dX9_judge_47 rfl (lv_at hl 1 rfl) ?_
    refine m_g6_1 hx hb hF hown hR (kShelf0 h_h14) mw_2_14 dX9_judge_48 ?_
    refine lv_icmp_ge (tgt := 121) hx hb dX9_judge_51 (by decide) (fun c51 => ?_) (fun c51 => ?_)
    · have h := mif_y h c51
      refine lv_bipush (v := (-4)) hx hb dX9_judge_121 (by decide) ?_
      exact m_ir hx hb hlk hr hR hS (Option.some.inj h).symm dX9_judge_123
    · have h := mif_n h c51
      refine lv_aload_n hx hb dX9_judge_54 rfl (lv_at hl 1 rfl) ?_
      refine m_g6_2 hx hb hF hown hR (kShelf0 h_h14) mw_2_19 dX9_judge_55 ?_
      refine lv_iload hx hb dX9_judge_58 (lv_at hl 2 rfl) ?_
      obtain ⟨g60, h⟩ := mgd_e h
      refine m_ialdL hx hb hR (kShelf1 h_h14) g60 (jn := (Int32.toNatClampNeg i4)) rfl dX9_judge_60 ?_
      refine lv_topi (fun x61 ex61 => ?_)
      have h := mlt_n h x61 ex61
      refine lv_istore (lv' := [(5, .int x61), (0, .ref (X.1 0)), (2, .ref (X.1 h14)), (4, .int i4)]) hx hb dX9_judge_61 hl (by decide) rfl (fun ls hl => ?_)
      refine lv_aload_n hx hb dX9_judge_63 rfl (lv_at hl 1 rfl) ?_
      refine m_g8_3 hx hb hF hown hR kd_0 mw_2_45 dX9_judge_64 ?_
      refine lv_iload hx hb dX9_judge_67 (lv_at hl 0 rfl) ?_
      refine m_ci (m_rV hx hb hml hown hF hR hS (ent0 kd_65) kd_65 rfl (c_X0_isMove l X 65 x61 isBody_65 M) q_X9_151_V hdV_X0_isMove ⟨Nat.le_of_ble_eq_true rfl, Nat.le_of_ble_eq_true rfl⟩ rfl hl.1 rfl (Nat.le_of_ble_eq_true rfl) dX9_judge_69) hS (fun H locs hR hS => ?_)
      refine lv_if_eq (tgt := 95) hx hb dX9_judge_72 (by decide) (fun c72 => ?_) (fun c72 => ?_)
      · have h := mif_y h c72
        refine lv_iload hx hb dX9_judge_95 (lv_at hl 3 rfl) ?_
        exact m_ir hx hb hlk hr hR hS (Option.some.inj h).symm dX9_judge_97
      · have h := mif_n h c72
        refine lv_aload_n hx hb dX9_judge_75 rfl (lv_at hl 1 rfl) ?_
        refine m_g8_3 hx hb hF hown hR kd_0 mw_2_45 dX9_judge_76 ?_
        refine lv_iload hx hb dX9_judge_79 (lv_at hl 0 rfl) ?_
        refine lv_bipush (v := 8) hx hb dX9_judge_81 (by decide) ?_
        refine lv_idiv hx hb dX9_judge_83 (by decide) ?_
        refine lv_iload hx hb dX9_judge_84 (lv_at hl 0 rfl) ?_
        refine lv_bipush (v := 8) hx hb dX9_judge_86 (by decide) ?_
        refine lv_irem hx hb dX9_judge_88 (by decide) ?_
        obtain ⟨v89, M89, q89, h⟩ := mbw_e h
        refine m_ci (m_rV hx hb hml hown hF hR hS (ent0 kd_65) kd_65 rfl (c_X0_mayGo l X 65 (x61 / 8) (x61 - x61 / 8 * 8) isBody_65 M q89) q_X9_154_V hdV_X0_mayGo ⟨Nat.le_of_ble_eq_true rfl, Nat.le_of_ble_eq_true rfl⟩ rfl hl.1 rfl (Nat.le_of_ble_eq_true rfl) dX9_judge_89) hS (fun H locs hR hS => ?_)
        refine lv_if_ne (tgt := 98) hx hb dX9_judge_92 (by decide) (fun c92 => ?_) (fun c92 => ?_)
        · have h := mif_n h c92
          refine lv_aload_n hx hb dX9_judge_98 rfl (lv_at hl 1 rfl) ?_
          refine m_g8_3 hx hb hF hown hR kd_0 mw_2_45 dX9_judge_99 ?_
          refine lv_iload hx hb dX9_judge_102 (lv_at hl 0 rfl) ?_
          refine lv_bipush (v := 8) hx hb dX9_judge_104 (by decide) ?_
          refine lv_idiv hx hb dX9_judge_106 (by decide) ?_
          refine lv_iload hx hb dX9_judge_107 (lv_at hl 0 rfl) ?_
          refine lv_bipush (v := 8) hx hb dX9_judge_109 (by decide) ?_
          refine lv_irem hx hb dX9_judge_111 (by decide) ?_
          obtain ⟨M112, q112, h⟩ := mbp_e h
          refine m_cv (m_rV hx hb hml hown hF hR hS (ent0 kd_65) kd_65 rfl (c_X0_go l X 65 (x61 / 8) (x61 - x61 / 8 * 8) isBody_65 M89 q112) q_X9_157_V hdV_X0_go ⟨Nat.le_of_ble_eq_true rfl, Nat.le_of_ble_eq_true rfl⟩ rfl hl.1 rfl (Nat.le_of_ble_eq_true rfl) dX9_judge_112) hS (fun H locs hR hS => ?_)
          obtain ⟨x115, ex115⟩ : ∃ y : Int32, y = (i4 + 1) := ⟨_, rfl⟩
          have h := mlt_n h x115 ex115
          refine lv_iinc (v := x115) (lv' := [(4, .int x115), (5, .int x61), (0, .ref (X.1 0)), (2, .ref (X.1 h14))]) hx hb dX9_judge_115 hl (k := 3) rfl (by rw [ex115]; rfl) (by decide) rfl (fun ls hl => ?_)
          refine lv_goto (tgt := 45) hx hb dX9_judge_118 (by decide) ?_
          exact ih x115 h14 h_h14 M112 h H locs ls hR hS (lv_sub hl [2, 3, 0] rfl)
        · have h := mif_y h c92
          refine lv_iload hx hb dX9_judge_95 (lv_at hl 3 rfl) ?_
          exact m_ir hx hb hlk hr hR hS (Option.some.inj h).symm dX9_judge_97
set_option maxRecDepth 100000 in
set_option maxHeartbeats 4000000 in
theorem w_X9_judge {l : Launch} {X : mX} {p : Program} {e : Env} {s : State} {m : MethodId} {args : Array Value} {below : List Frame} {meth : Method} {c : Code} {r : Int32 × mM} (hs : mS X RX9 cX9_judge 6 (some .int) p s m meth c) : ∀ (i1 : Int32) (M : mM), f_X9_judge i1 M = some r → mG X p l e (rmF 4 321) s m args below meth c (MQ below (mQi X r.2 r.1) args s 0 0 (mL X)) 6 0 [(0, .ref (X.1 0)), (1, .int i1)] [] M := by
  obtain ⟨hx, hb, hml, hown, hF, hlk, hr⟩ := id hs
  intro i1 M h H locs ls hR hS hl
  refine lv_iload_n hx hb dX9_judge_0 rfl (lv_at hl 1 rfl) ?_
  refine m_ci (m_rS hx hb hml hown hF hR hS (c_X9_isShelf l X i1 M) q_X9_167_S hdS_X9_isShelf ⟨Nat.le_of_ble_eq_true rfl, Nat.le_of_ble_eq_true rfl⟩ rfl hl.1 rfl (Nat.le_of_ble_eq_true rfl) dX9_judge_1) hS (fun H locs hR hS => ?_)
  refine lv_if_ne (tgt := 9) hx hb dX9_judge_4 (by decide) (fun c4 => ?_) (fun c4 => ?_)
  · have h := mif_n h c4
    refine lv_aload_n hx hb dX9_judge_9 rfl (lv_at hl 0 rfl) ?_
    refine m_g8_8 hx hb hF hown hR kd_0 mw_2_50 dX9_judge_10 ?_
    refine lv_iload_n hx hb dX9_judge_13 rfl (lv_at hl 1 rfl) ?_
    obtain ⟨g14, h⟩ := mgd_e h
    refine m_sald hx hb hR kd_79 g14 dX9_judge_14 ?_
    refine lv_topc (fun h14 eh14 => ?_)
    have h := mlt_n h h14 eh14
    have h_h14 : isShelf h14 := by rw [eh14]; exact kShelfAt (vp_lt g14)
    refine lv_astore_n (lv' := [(2, .ref (X.1 h14)), (0, .ref (X.1 0)), (1, .int i1)]) hx hb dX9_judge_15 rfl hl (by decide) rfl (fun ls hl => ?_)
    refine lv_aload_n hx hb dX9_judge_16 rfl (lv_at hl 0 rfl) ?_
    refine lv_iconst (v := 1) hx hb dX9_judge_17 (by decide) ?_
    refine m_ci (m_rV hx hb hml hown hF hR hS (ent6 (kShelf0 h_h14)) (kShelf0 h_h14) rfl (c_X6_refusalOfRow l X h14 1 h_h14 M) q_X9_170_V hdV_X6_refusalOfRow ⟨Nat.le_of_ble_eq_true rfl, Nat.le_of_ble_eq_true rfl⟩ rfl hl.1 rfl (Nat.le_of_ble_eq_true rfl) dX9_judge_18) hS (fun H locs hR hS => ?_)
    refine lv_topi (fun x21 ex21 => ?_)
    have h := mlt_n h x21 ex21
    refine lv_istore_n (lv' := [(3, .int x21), (2, .ref (X.1 h14)), (0, .ref (X.1 0)), (1, .int i1)]) hx hb dX9_judge_21 rfl hl (by decide) rfl (fun ls hl => ?_)
    refine lv_iload_n hx hb dX9_judge_22 rfl (lv_at hl 0 rfl) ?_
    refine lv_if_ge (tgt := 28) hx hb dX9_judge_23 (by decide) (fun c23 => ?_) (fun c23 => ?_)
    · have h := mif_y h c23
      refine lv_aload_n hx hb dX9_judge_28 rfl (lv_at hl 2 rfl) ?_
      refine m_g8_3 hx hb hF hown hR kd_0 mw_2_45 dX9_judge_29 ?_
      refine lv_aload_n hx hb dX9_judge_32 rfl (lv_at hl 2 rfl) ?_
      refine m_g8_0 hx hb hF hown hR kd_0 mw_2_42 dX9_judge_33 ?_
      refine m_g7_0 hx hb hF hown hR kd_1 mw_1_118 dX9_judge_36 ?_
      obtain ⟨M39, q39, h⟩ := mbp_e h
      refine m_cv (m_rV hx hb hml hown hF hR hS (ent0 kd_65) kd_65 rfl (c_X0_copyFrom l X 65 2 isBody_65 isBody_2 M q39) q_X9_221_V hdV_X0_copyFrom ⟨Nat.le_of_ble_eq_true rfl, Nat.le_of_ble_eq_true rfl⟩ rfl hl.1 rfl (Nat.le_of_ble_eq_true rfl) dX9_judge_39) hS (fun H locs hR hS => ?_)
      refine lv_iconst (v := 0) hx hb dX9_judge_42 (by decide) ?_
      refine lv_istore (lv' := [(4, .int 0), (3, .int x21), (2, .ref (X.1 h14)), (0, .ref (X.1 0)), (1, .int i1)]) hx hb dX9_judge_43 hl (by decide) rfl (fun ls hl => ?_)
      exact w_X9_judge_b45 hs mN 0 h14 h_h14 M39 h H locs ls hR hS (lv_sub hl [3, 2, 0] rfl)
    · have h := mif_n h c23
      refine lv_iload_n hx hb dX9_judge_26 rfl (lv_at hl 0 rfl) ?_
      exact m_ir hx hb hlk hr hR hS (Option.some.inj h).symm dX9_judge_27
  · have h := mif_y h c4
    refine lv_iconst (v := (-1)) hx hb dX9_judge_7 (by decide) ?_
    exact m_ir hx hb hlk hr hR hS (Option.some.inj h).symm dX9_judge_8
theorem c_X9_judge (l : Launch) (X : mX) (i1 : Int32) (M : mM) {r : Int32 × mM} (h : f_X9_judge i1 M = some r) : mMi l yX9_judge cX9_judge 6 (some .int) 4 321 X [.ref (X.1 0), .int i1] M r := m_ofi (by decide +kernel) (Nat.le_of_ble_eq_true rfl) rfl (fun p e s m args below meth c hs => w_X9_judge hs i1 M h)
set_option maxRecDepth 100000 in
set_option maxHeartbeats 4000000 in
theorem w_X8_addProgram {l : Launch} {X : mX} {p : Program} {e : Env} {s : State} {m : MethodId} {args : Array Value} {below : List Frame} {meth : Method} {c : Code} {r : Int32 × mM} (hs : mS X RX8 cX8_addProgram 2 (some .int) p s m meth c) : ∀ (b : Nat) (q1 : Nat) (h_b : isWorld b) (h_q1 : isShelf q1) (M : mM), f_X8_addProgram b q1 M = some r → mG X p l e (rmF 1 300) s m args below meth c (MQ below (mQi X r.2 r.1) args s 0 0 (mL X)) 2 0 [(0, .ref (X.1 b)), (1, .ref (X.1 q1))] [] M := by
  obtain ⟨hx, hb, hml, hown, hF, hlk, hr⟩ := id hs
  intro b q1 h_b h_q1 M h H locs ls hR hS hl
  refine lv_aload_n hx hb dX8_addProgram_0 rfl (lv_at hl 0 rfl) ?_
  refine m_g7_8 hx hb hF hown hR (kWorld0 h_b) mw_1_137 dX8_addProgram_1 ?_
  refine lv_bipush (v := 8) hx hb dX8_addProgram_4 (by decide) ?_
  refine lv_icmp_lt (tgt := 12) hx hb dX8_addProgram_6 (by decide) (fun c6 => ?_) (fun c6 => ?_)
  · have h := mif_y h c6
    refine lv_aload_n hx hb dX8_addProgram_12 rfl (lv_at hl 1 rfl) ?_
    refine m_g6_2 hx hb hF hown hR (kShelf0 h_q1) mw_2_18 dX8_addProgram_13 ?_
    refine lv_iconst (v := 0) hx hb dX8_addProgram_16 (by decide) ?_
    refine lv_aload_n hx hb dX8_addProgram_17 rfl (lv_at hl 0 rfl) ?_
    refine m_g7_9 hx hb hF hown hR (kWorld0 h_b) mw_1_139 dX8_addProgram_18 ?_
    refine lv_aload_n hx hb dX8_addProgram_21 rfl (lv_at hl 0 rfl) ?_
    refine m_g7_8 hx hb hF hown hR (kWorld0 h_b) mw_1_137 dX8_addProgram_22 ?_
    obtain ⟨g25, h⟩ := mgd_e h
    refine m_pald hx hb hR (kWorld14 h_b) g25 dX8_addProgram_25 ?_
    refine lv_topc (fun t25 et25 => ?_)
    have h := mlt_n h t25 et25
    have h_t25 : isRow t25 := by rw [et25]; exact kWorldP h_b (vp_lt g25)
    refine lv_iconst (v := 0) hx hb dX8_addProgram_26 (by decide) ?_
    refine lv_bipush (v := 90) hx hb dX8_addProgram_27 (by decide) ?_
    obtain ⟨M29, eM29⟩ : ∃ y : mM, y = mC M (q1 + 1) t25 0 0 90 := ⟨_, rfl⟩
    have h := mlt_n h M29 eM29
    refine m_cpiL hx hb (hml.trans hl.1.symm) hown hF mw_4_30 mw_3_226 mw_3_225 mw_1_13 hR hS (kShelf1 h_q1) h_t25 (by decide) (by decide) (by decide) (by decide) (by decide) (by decide) (by decide) (by decide) (Nat.le_of_ble_eq_true rfl) (by decide +kernel) dX8_addProgram_29 eM29 (fun H locs hR hS => ?_)
    refine lv_aload_n hx hb dX8_addProgram_32 rfl (lv_at hl 0 rfl) ?_
    refine m_g7_10 hx hb hF hown hR (kWorld0 h_b) mw_1_141 dX8_addProgram_33 ?_
    refine lv_aload_n hx hb dX8_addProgram_36 rfl (lv_at hl 0 rfl) ?_
    refine m_g7_8 hx hb hF hown hR (kWorld0 h_b) mw_1_137 dX8_addProgram_37 ?_
    refine lv_aload_n hx hb dX8_addProgram_40 rfl (lv_at hl 1 rfl) ?_
    refine m_g6_1 hx hb hF hown hR (kShelf0 h_q1) mw_2_13 dX8_addProgram_41 ?_
    obtain ⟨g44, h⟩ := mgd_e h
    obtain ⟨M44, eM44⟩ : ∃ y : mM, y = mI M29 (b + 23) (Int32.toNatClampNeg (M29.1 b 8)) (M29.1 q1 1) := ⟨_, rfl⟩
    have h := mlt_n h M44 eM44
    refine m_iastL hx hb hR hS (kWorld23 h_b) g44 (jn := (Int32.toNatClampNeg (M29.1 b 8))) rfl dX8_addProgram_44 eM44 (fun H locs hR hS => ?_)
    refine lv_aload_n hx hb dX8_addProgram_45 rfl (lv_at hl 0 rfl) ?_
    refine lv_dup hx hb dX8_addProgram_46 rfl ?_
    refine m_g7_8 hx hb hF hown hR (kWorld0 h_b) mw_1_137 dX8_addProgram_47 ?_
    refine lv_iconst (v := 1) hx hb dX8_addProgram_50 (by decide) ?_
    refine lv_iadd hx hb dX8_addProgram_51 ?_
    obtain ⟨M52, eM52⟩ : ∃ y : mM, y = mI M44 b 8 ((M44.1 b 8) + 1) := ⟨_, rfl⟩
    have h := mlt_n h M52 eM52
    refine m_p7_8 hx hb hF hown hR hS (kWorld0 h_b) mw_1_137 dX8_addProgram_52 eM52 (fun H locs hR hS => ?_)
    refine lv_aload_n hx hb dX8_addProgram_55 rfl (lv_at hl 0 rfl) ?_
    refine m_g7_8 hx hb hF hown hR (kWorld0 h_b) mw_1_137 dX8_addProgram_56 ?_
    refine lv_iconst (v := 1) hx hb dX8_addProgram_59 (by decide) ?_
    refine lv_isub hx hb dX8_addProgram_60 ?_
    exact m_ir hx hb hlk hr hR hS (Option.some.inj h).symm dX8_addProgram_61
  · have h := mif_n h c6
    refine lv_bipush (v := (-2)) hx hb dX8_addProgram_9 (by decide) ?_
    exact m_ir hx hb hlk hr hR hS (Option.some.inj h).symm dX8_addProgram_11
theorem c_X8_addProgram (l : Launch) (X : mX) (b : Nat) (q1 : Nat) (h_b : isWorld b) (h_q1 : isShelf q1) (M : mM) {r : Int32 × mM} (h : f_X8_addProgram b q1 M = some r) : mMi l yX8_addProgram cX8_addProgram 2 (some .int) 1 300 X [.ref (X.1 b), .ref (X.1 q1)] M r := m_ofi (by decide +kernel) (Nat.le_of_ble_eq_true rfl) rfl (fun p e s m args below meth c hs => w_X8_addProgram hs b q1 h_b h_q1 M h)
set_option maxRecDepth 100000 in
set_option maxHeartbeats 4000000 in
theorem w_X9_program {l : Launch} {X : mX} {p : Program} {e : Env} {s : State} {m : MethodId} {args : Array Value} {below : List Frame} {meth : Method} {c : Code} {r : Int32 × mM} (hs : mS X RX9 cX9_program 3 (some .int) p s m meth c) : ∀ (i1 : Int32) (M : mM), f_X9_program i1 M = some r → mG X p l e (rmF 7 321) s m args below meth c (MQ below (mQi X r.2 r.1) args s 0 0 (mL X)) 3 0 [(0, .ref (X.1 0)), (1, .int i1)] [] M := by
  obtain ⟨hx, hb, hml, hown, hF, hlk, hr⟩ := id hs
  intro i1 M h H locs ls hR hS hl
  refine lv_iload_n hx hb dX9_program_0 rfl (lv_at hl 1 rfl) ?_
  refine m_ci (m_rS hx hb hml hown hF hR hS (c_X9_isShelf l X i1 M) q_X9_167_S hdS_X9_isShelf ⟨Nat.le_of_ble_eq_true rfl, Nat.le_of_ble_eq_true rfl⟩ rfl hl.1 rfl (Nat.le_of_ble_eq_true rfl) dX9_program_1) hS (fun H locs hR hS => ?_)
  refine lv_if_ne (tgt := 9) hx hb dX9_program_4 (by decide) (fun c4 => ?_) (fun c4 => ?_)
  · have h := mif_n h c4
    refine lv_aload_n hx hb dX9_program_9 rfl (lv_at hl 0 rfl) ?_
    refine m_g8_0 hx hb hF hown hR kd_0 mw_2_42 dX9_program_10 ?_
    refine m_g7_8 hx hb hF hown hR kd_1 mw_1_138 dX9_program_13 ?_
    refine lv_bipush (v := 8) hx hb dX9_program_16 (by decide) ?_
    refine lv_icmp_lt (tgt := 24) hx hb dX9_program_18 (by decide) (fun c18 => ?_) (fun c18 => ?_)
    · have h := mif_y h c18
      refine lv_aload_n hx hb dX9_program_24 rfl (lv_at hl 0 rfl) ?_
      refine m_g8_8 hx hb hF hown hR kd_0 mw_2_50 dX9_program_25 ?_
      refine lv_iload_n hx hb dX9_program_28 rfl (lv_at hl 1 rfl) ?_
      obtain ⟨g29, h⟩ := mgd_e h
      refine m_sald hx hb hR kd_79 g29 dX9_program_29 ?_
      refine lv_topc (fun h29 eh29 => ?_)
      have h := mlt_n h h29 eh29
      have h_h29 : isShelf h29 := by rw [eh29]; exact kShelfAt (vp_lt g29)
      refine lv_iconst (v := 0) hx hb dX9_program_30 (by decide) ?_
      refine m_ci (m_rV hx hb hml hown hF hR hS (ent6 (kShelf0 h_h29)) (kShelf0 h_h29) rfl (c_X6_refusalOfRow l X h29 0 h_h29 M) q_X9_170_V hdV_X6_refusalOfRow ⟨Nat.le_of_ble_eq_true rfl, Nat.le_of_ble_eq_true rfl⟩ rfl hl.1 rfl (Nat.le_of_ble_eq_true rfl) dX9_program_31) hS (fun H locs hR hS => ?_)
      refine lv_topi (fun x34 ex34 => ?_)
      have h := mlt_n h x34 ex34
      refine lv_istore_n (lv' := [(2, .int x34), (0, .ref (X.1 0)), (1, .int i1)]) hx hb dX9_program_34 rfl hl (by decide) rfl (fun ls hl => ?_)
      refine lv_iload_n hx hb dX9_program_35 rfl (lv_at hl 0 rfl) ?_
      refine lv_if_ge (tgt := 41) hx hb dX9_program_36 (by decide) (fun c36 => ?_) (fun c36 => ?_)
      · have h := mif_y h c36
        refine lv_aload_n hx hb dX9_program_41 rfl (lv_at hl 1 rfl) ?_
        refine m_g8_7 hx hb hF hown hR kd_0 mw_2_49 dX9_program_42 ?_
        refine lv_aload_n hx hb dX9_program_45 rfl (lv_at hl 1 rfl) ?_
        refine m_g8_8 hx hb hF hown hR kd_0 mw_2_50 dX9_program_46 ?_
        refine lv_iload_n hx hb dX9_program_49 rfl (lv_at hl 2 rfl) ?_
        obtain ⟨g50, h⟩ := mgd_e h
        refine m_sald hx hb hR kd_79 g50 dX9_program_50 ?_
        refine lv_topc (fun h50 eh50 => ?_)
        have h := mlt_n h h50 eh50
        have h_h50 : isShelf h50 := by rw [eh50]; exact kShelfAt (vp_lt g50)
        obtain ⟨M51, q51, h⟩ := mbp_e h
        refine m_cv (m_rV hx hb hml hown hF hR hS (ent4 kd_78) kd_78 rfl (c_X4_check l X h50 h_h50 M q51) q_X9_185_V hdV_X4_check ⟨Nat.le_of_ble_eq_true rfl, Nat.le_of_ble_eq_true rfl⟩ rfl hl.1 rfl (Nat.le_of_ble_eq_true rfl) dX9_program_51) hS (fun H locs hR hS => ?_)
        refine lv_aload_n hx hb dX9_program_54 rfl (lv_at hl 1 rfl) ?_
        refine m_g8_7 hx hb hF hown hR kd_0 mw_2_49 dX9_program_55 ?_
        refine m_ci (m_rU hx hb hml hown hF hR hS (ent4 kd_78) kd_78 rfl (c_X7_isFaulty l X 78 isReader_78 M51) q_X9_189_UX4 rfl hdU_X7_isFaulty ⟨Nat.le_of_ble_eq_true rfl, Nat.le_of_ble_eq_true rfl⟩ rfl hl.1 rfl (Nat.le_of_ble_eq_true rfl) dX9_program_58) hS (fun H locs hR hS => ?_)
        refine lv_if_eq (tgt := 77) hx hb dX9_program_61 (by decide) (fun c61 => ?_) (fun c61 => ?_)
        · have h := mif_y h c61
          refine lv_aload_n hx hb dX9_program_77 rfl (lv_at hl 1 rfl) ?_
          refine m_g8_0 hx hb hF hown hR kd_0 mw_2_42 dX9_program_78 ?_
          refine lv_aload_n hx hb dX9_program_81 rfl (lv_at hl 1 rfl) ?_
          refine m_g8_8 hx hb hF hown hR kd_0 mw_2_50 dX9_program_82 ?_
          refine lv_iload_n hx hb dX9_program_85 rfl (lv_at hl 2 rfl) ?_
          obtain ⟨g86, h⟩ := mgd_e h
          refine m_sald hx hb hR kd_79 g86 dX9_program_86 ?_
          refine lv_topc (fun h86 eh86 => ?_)
          have h := mlt_n h h86 eh86
          have h_h86 : isShelf h86 := by rw [eh86]; exact kShelfAt (vp_lt g86)
          obtain ⟨v87, M87, q87, h⟩ := mbw_e h
          refine m_ci (m_rV hx hb hml hown hF hR hS (ent7 kd_1) kd_1 rfl (c_X8_addProgram l X 1 h86 isWorld_1 h_h86 M51 q87) q_X9_231_V hdV_X8_addProgram ⟨Nat.le_of_ble_eq_true rfl, Nat.le_of_ble_eq_true rfl⟩ rfl hl.1 rfl (Nat.le_of_ble_eq_true rfl) dX9_program_87) hS (fun H locs hR hS => ?_)
          exact m_ir hx hb hlk hr hR hS (Option.some.inj h).symm dX9_program_90
        · have h := mif_n h c61
          refine lv_bipush (v := (-100)) hx hb dX9_program_64 (by decide) ?_
          refine lv_aload_n hx hb dX9_program_66 rfl (lv_at hl 1 rfl) ?_
          refine m_g8_7 hx hb hF hown hR kd_0 mw_2_49 dX9_program_67 ?_
          refine m_ci (m_rU hx hb hml hown hF hR hS (ent4 kd_78) kd_78 rfl (c_X7_faultPlace l X 78 isReader_78 M51) q_X9_190_UX4 rfl hdU_X7_faultPlace ⟨Nat.le_of_ble_eq_true rfl, Nat.le_of_ble_eq_true rfl⟩ rfl hl.1 rfl (Nat.le_of_ble_eq_true rfl) dX9_program_70) hS (fun H locs hR hS => ?_)
          refine lv_isub hx hb dX9_program_73 ?_
          refine lv_goto (tgt := 90) hx hb dX9_program_74 (by decide) ?_
          exact m_ir hx hb hlk hr hR hS (Option.some.inj h).symm dX9_program_90
      · have h := mif_n h c36
        refine lv_iload_n hx hb dX9_program_39 rfl (lv_at hl 0 rfl) ?_
        exact m_ir hx hb hlk hr hR hS (Option.some.inj h).symm dX9_program_40
    · have h := mif_n h c18
      refine lv_bipush (v := (-2)) hx hb dX9_program_21 (by decide) ?_
      exact m_ir hx hb hlk hr hR hS (Option.some.inj h).symm dX9_program_23
  · have h := mif_y h c4
    refine lv_iconst (v := (-1)) hx hb dX9_program_7 (by decide) ?_
    exact m_ir hx hb hlk hr hR hS (Option.some.inj h).symm dX9_program_8
theorem c_X9_program (l : Launch) (X : mX) (i1 : Int32) (M : mM) {r : Int32 × mM} (h : f_X9_program i1 M = some r) : mMi l yX9_program cX9_program 3 (some .int) 7 321 X [.ref (X.1 0), .int i1] M r := m_ofi (by decide +kernel) (Nat.le_of_ble_eq_true rfl) rfl (fun p e s m args below meth c hs => w_X9_program hs i1 M h)
set_option maxRecDepth 100000 in
set_option maxHeartbeats 4000000 in
theorem w_X9_gives {l : Launch} {X : mX} {p : Program} {e : Env} {s : State} {m : MethodId} {args : Array Value} {below : List Frame} {meth : Method} {c : Code} {r : Int32 × mM} (hs : mS X RX9 cX9_gives 4 (some .int) p s m meth c) : ∀ (i1 : Int32) (i2 : Int32) (M : mM), f_X9_gives i1 i2 M = some r → mG X p l e (rmF 1 21) s m args below meth c (MQ below (mQi X r.2 r.1) args s 0 0 (mL X)) 4 0 [(0, .ref (X.1 0)), (1, .int i1), (2, .int i2)] [] M := by
  obtain ⟨hx, hb, hml, hown, hF, hlk, hr⟩ := id hs
  intro i1 i2 M h H locs ls hR hS hl
  refine lv_aload_n hx hb dX9_gives_0 rfl (lv_at hl 0 rfl) ?_
  refine m_g8_0 hx hb hF hown hR kd_0 mw_2_42 dX9_gives_1 ?_
  refine m_g7_0 hx hb hF hown hR kd_1 mw_1_118 dX9_gives_4 ?_
  refine lv_iload_n hx hb dX9_gives_7 rfl (lv_at hl 1 rfl) ?_
  refine m_ci (m_rV hx hb hml hown hF hR hS (ent0 kd_2) kd_2 rfl (c_X0_has l X 2 i1 isBody_2 M) q_X9_91_V hdV_X0_has ⟨Nat.le_of_ble_eq_true rfl, Nat.le_of_ble_eq_true rfl⟩ rfl hl.1 rfl (Nat.le_of_ble_eq_true rfl) dX9_gives_8) hS (fun H locs hR hS => ?_)
  refine lv_if_eq (tgt := 30) hx hb dX9_gives_11 (by decide) (fun c11 => ?_) (fun c11 => ?_)
  · have h := mif_y h c11
    refine lv_iconst (v := (-1)) hx hb dX9_gives_30 (by decide) ?_
    exact m_ir hx hb hlk hr hR hS (Option.some.inj h).symm dX9_gives_31
  · have h := mif_n h c11
    refine lv_iload_n hx hb dX9_gives_14 rfl (lv_at hl 2 rfl) ?_
    refine lv_iconst (v := (-1)) hx hb dX9_gives_15 (by decide) ?_
    refine lv_icmp_lt (tgt := 30) hx hb dX9_gives_16 (by decide) (fun c16 => ?_) (fun c16 => ?_)
    · have h := mif_y h c16
      refine lv_iconst (v := (-1)) hx hb dX9_gives_30 (by decide) ?_
      exact m_ir hx hb hlk hr hR hS (Option.some.inj h).symm dX9_gives_31
    · have h := mif_n h c16
      refine lv_iload_n hx hb dX9_gives_19 rfl (lv_at hl 2 rfl) ?_
      refine lv_aload_n hx hb dX9_gives_20 rfl (lv_at hl 0 rfl) ?_
      refine m_g8_0 hx hb hF hown hR kd_0 mw_2_42 dX9_gives_21 ?_
      refine m_g7_8 hx hb hF hown hR kd_1 mw_1_138 dX9_gives_24 ?_
      refine lv_icmp_lt (tgt := 32) hx hb dX9_gives_27 (by decide) (fun c27 => ?_) (fun c27 => ?_)
      · have h := mif_y h c27
        refine lv_aload_n hx hb dX9_gives_32 rfl (lv_at hl 0 rfl) ?_
        refine m_g8_0 hx hb hF hown hR kd_0 mw_2_42 dX9_gives_33 ?_
        refine m_g7_5 hx hb hF hown hR kd_1 mw_1_133 dX9_gives_36 ?_
        refine lv_iload_n hx hb dX9_gives_39 rfl (lv_at hl 1 rfl) ?_
        obtain ⟨g40, h⟩ := mgd_e h
        refine m_ialdL hx hb hR kd_13 g40 (jn := (Int32.toNatClampNeg i1)) rfl dX9_gives_40 ?_
        refine lv_topi (fun x41 ex41 => ?_)
        have h := mlt_n h x41 ex41
        refine lv_istore_n (lv' := [(3, .int x41), (0, .ref (X.1 0)), (1, .int i1), (2, .int i2)]) hx hb dX9_gives_41 rfl hl (by decide) rfl (fun ls hl => ?_)
        refine lv_aload_n hx hb dX9_gives_42 rfl (lv_at hl 1 rfl) ?_
        refine m_g8_0 hx hb hF hown hR kd_0 mw_2_42 dX9_gives_43 ?_
        refine m_g7_5 hx hb hF hown hR kd_1 mw_1_133 dX9_gives_46 ?_
        refine lv_iload_n hx hb dX9_gives_49 rfl (lv_at hl 2 rfl) ?_
        refine lv_iload_n hx hb dX9_gives_50 rfl (lv_at hl 3 rfl) ?_
        obtain ⟨g51, h⟩ := mgd_e h
        obtain ⟨M51, eM51⟩ : ∃ y : mM, y = mI M 13 (Int32.toNatClampNeg i1) i2 := ⟨_, rfl⟩
        have h := mlt_n h M51 eM51
        refine m_iastL hx hb hR hS kd_13 g51 (jn := (Int32.toNatClampNeg i1)) rfl dX9_gives_51 eM51 (fun H locs hR hS => ?_)
        refine lv_iload_n hx hb dX9_gives_52 rfl (lv_at hl 0 rfl) ?_
        refine lv_if_ge (tgt := 61) hx hb dX9_gives_53 (by decide) (fun c53 => ?_) (fun c53 => ?_)
        · have h := mif_y h c53
          refine lv_iload_n hx hb dX9_gives_61 rfl (lv_at hl 0 rfl) ?_
          exact m_ir hx hb hlk hr hR hS (Option.some.inj h).symm dX9_gives_62
        · have h := mif_n h c53
          refine lv_bipush (v := (-4)) hx hb dX9_gives_56 (by decide) ?_
          refine lv_goto (tgt := 62) hx hb dX9_gives_58 (by decide) ?_
          exact m_ir hx hb hlk hr hR hS (Option.some.inj h).symm dX9_gives_62
      · have h := mif_n h c27
        refine lv_iconst (v := (-1)) hx hb dX9_gives_30 (by decide) ?_
        exact m_ir hx hb hlk hr hR hS (Option.some.inj h).symm dX9_gives_31
theorem c_X9_gives (l : Launch) (X : mX) (i1 : Int32) (i2 : Int32) (M : mM) {r : Int32 × mM} (h : f_X9_gives i1 i2 M = some r) : mMi l yX9_gives cX9_gives 4 (some .int) 1 21 X [.ref (X.1 0), .int i1, .int i2] M r := m_ofi (by decide +kernel) (Nat.le_of_ble_eq_true rfl) rfl (fun p e s m args below meth c hs => w_X9_gives hs i1 i2 M h)
set_option maxRecDepth 100000 in
set_option maxHeartbeats 4000000 in
theorem w_X8_isRunning {l : Launch} {X : mX} {p : Program} {e : Env} {s : State} {m : MethodId} {args : Array Value} {below : List Frame} {meth : Method} {c : Code} {M : mM} {r : Int32} (hs : mS X RX8 cX8_isRunning 2 (some .boolean) p s m meth c) : ∀ (b : Nat) (i1 : Int32) (h_b : isWorld b), f_X8_isRunning b i1 M = some r → mG X p l e (rmF 0 0) s m args below meth c (MQ below (mQi X M r) args s 0 0 (mL X)) 2 0 [(0, .ref (X.1 b)), (1, .int i1)] [] M := by
  obtain ⟨hx, hb, hml, hown, hF, hlk, hr⟩ := id hs
  intro b i1 h_b h H locs ls hR hS hl
  refine lv_aload_n hx hb dX8_isRunning_0 rfl (lv_at hl 0 rfl) ?_
  refine m_g7_0 hx hb hF hown hR (kWorld0 h_b) mw_1_116 dX8_isRunning_1 ?_
  refine m_g0_4 hx hb hF hown hR (kWorld1 h_b) mw_1_68 dX8_isRunning_4 ?_
  refine lv_iload_n hx hb dX8_isRunning_7 rfl (lv_at hl 1 rfl) ?_
  obtain ⟨g8, h⟩ := mgd_e h
  refine m_zaldL hx hb hR (kWorld5 h_b) g8 (jn := (Int32.toNatClampNeg i1)) rfl dX8_isRunning_8 ?_
  refine lv_if_ne (tgt := 38) hx hb dX8_isRunning_9 (by decide) (fun c9 => ?_) (fun c9 => ?_)
  · have h := mif_n h c9
    refine lv_iconst (v := 0) hx hb dX8_isRunning_38 (by decide) ?_
    exact m_zr hx hb hlk hr hR hS (Or.inl rfl) (congrArg (fun z => (z, M)) (Option.some.inj h).symm) dX8_isRunning_39
  · have h := mif_y h c9
    refine lv_aload_n hx hb dX8_isRunning_12 rfl (lv_at hl 0 rfl) ?_
    refine m_g7_5 hx hb hF hown hR (kWorld0 h_b) mw_1_131 dX8_isRunning_13 ?_
    refine lv_iload_n hx hb dX8_isRunning_16 rfl (lv_at hl 1 rfl) ?_
    obtain ⟨g17, h⟩ := mgd_e h
    refine m_ialdL hx hb hR (kWorld12 h_b) g17 (jn := (Int32.toNatClampNeg i1)) rfl dX8_isRunning_17 ?_
    refine lv_if_lt (tgt := 38) hx hb dX8_isRunning_18 (by decide) (fun c18 => ?_) (fun c18 => ?_)
    · have h := mif_y h c18
      refine lv_iconst (v := 0) hx hb dX8_isRunning_38 (by decide) ?_
      exact m_zr hx hb hlk hr hR hS (Or.inl rfl) (congrArg (fun z => (z, M)) (Option.some.inj h).symm) dX8_isRunning_39
    · have h := mif_n h c18
      refine lv_aload_n hx hb dX8_isRunning_21 rfl (lv_at hl 0 rfl) ?_
      refine m_g7_5 hx hb hF hown hR (kWorld0 h_b) mw_1_131 dX8_isRunning_22 ?_
      refine lv_iload_n hx hb dX8_isRunning_25 rfl (lv_at hl 1 rfl) ?_
      obtain ⟨g26, h⟩ := mgd_e h
      refine m_ialdL hx hb hR (kWorld12 h_b) g26 (jn := (Int32.toNatClampNeg i1)) rfl dX8_isRunning_26 ?_
      refine lv_aload_n hx hb dX8_isRunning_27 rfl (lv_at hl 0 rfl) ?_
      refine m_g7_8 hx hb hF hown hR (kWorld0 h_b) mw_1_137 dX8_isRunning_28 ?_
      refine lv_icmp_ge (tgt := 38) hx hb dX8_isRunning_31 (by decide) (fun c31 => ?_) (fun c31 => ?_)
      · have h := mif_y h c31
        refine lv_iconst (v := 0) hx hb dX8_isRunning_38 (by decide) ?_
        exact m_zr hx hb hlk hr hR hS (Or.inl rfl) (congrArg (fun z => (z, M)) (Option.some.inj h).symm) dX8_isRunning_39
      · have h := mif_n h c31
        refine lv_iconst (v := 1) hx hb dX8_isRunning_34 (by decide) ?_
        refine lv_goto (tgt := 39) hx hb dX8_isRunning_35 (by decide) ?_
        exact m_zr hx hb hlk hr hR hS (Or.inr rfl) (congrArg (fun z => (z, M)) (Option.some.inj h).symm) dX8_isRunning_39
theorem c_X8_isRunning (l : Launch) (X : mX) (b : Nat) (i1 : Int32) (h_b : isWorld b) (M : mM) {r : Int32} (h : f_X8_isRunning b i1 M = some r) : mMi l yX8_isRunning cX8_isRunning 2 (some .boolean) 0 0 X [.ref (X.1 b), .int i1] M (r, M) := m_ofi (by decide +kernel) (Nat.le_of_ble_eq_true rfl) rfl (fun p e s m args below meth c hs => w_X8_isRunning hs b i1 h_b h)
set_option maxRecDepth 100000 in
set_option maxHeartbeats 4000000 in
theorem w_X1_beside {l : Launch} {X : mX} {p : Program} {e : Env} {s : State} {m : MethodId} {args : Array Value} {below : List Frame} {meth : Method} {c : Code} {M : mM} {r : Int32} (hs : mS X RX1 cX1_beside 3 (some .int) p s m meth c) : ∀ (i1 : Int32) (i2 : Int32), f_X1_beside i1 i2 M = some r → mG X p l e (rmF 1 21) s m args below meth c (MQ below (mQi X M r) args s 0 0 (mL X)) 3 0 [(0, .ref (X.1 76)), (1, .int i1), (2, .int i2)] [] M := by
  obtain ⟨hx, hb, hml, hown, hF, hlk, hr⟩ := id hs
  intro i1 i2 h H locs ls hR hS hl
  refine lv_aload_n hx hb dX1_beside_0 rfl (lv_at hl 0 rfl) ?_
  refine m_g1_4 hx hb hF hown hR kd_76 mw_1_203 dX1_beside_1 ?_
  refine m_g7_0 hx hb hF hown hR kd_1 mw_1_117 dX1_beside_4 ?_
  refine lv_aload_n hx hb dX1_beside_7 rfl (lv_at hl 0 rfl) ?_
  refine m_g1_4 hx hb hF hown hR kd_76 mw_1_203 dX1_beside_8 ?_
  refine m_g7_0 hx hb hF hown hR kd_1 mw_1_117 dX1_beside_11 ?_
  refine m_g0_2 hx hb hF hown hR kd_2 mw_1_58 dX1_beside_14 ?_
  refine lv_iload_n hx hb dX1_beside_17 rfl (lv_at hl 1 rfl) ?_
  obtain ⟨g18, h⟩ := mgd_e h
  refine m_ialdL hx hb hR kd_4 g18 (jn := (Int32.toNatClampNeg i1)) rfl dX1_beside_18 ?_
  refine m_gsN hx hb hF hS hown 3 (by decide) rfl 23 rfl dX1_beside_19 ?_
  refine lv_iload_n hx hb dX1_beside_22 rfl (lv_at hl 2 rfl) ?_
  obtain ⟨g23, h⟩ := mgd_e h
  refine m_saidL hx hb hF hS 3 (by decide) (N := 8) rfl g23 (jn := (Int32.toNatClampNeg i2)) rfl dX1_beside_23 ?_
  refine lv_iadd hx hb dX1_beside_24 ?_
  obtain ⟨v25, q25, h⟩ := mbp_e h
  refine m_ci (m_rV hx hb hml hown hF hR hS (ent0 kd_2) kd_2 rfl (c_X0_inCell l X 2 ((M.1 4 (Int32.toNatClampNeg i1)) + (sVal 3 (Int32.toNatClampNeg i2))) isBody_2 M q25) q_X1_105_V hdV_X0_inCell ⟨Nat.le_of_ble_eq_true rfl, Nat.le_of_ble_eq_true rfl⟩ rfl hl.1 rfl (Nat.le_of_ble_eq_true rfl) dX1_beside_25) hS (fun H locs hR hS => ?_)
  exact m_ir hx hb hlk hr hR hS (congrArg (fun z => (z, M)) (Option.some.inj h).symm) dX1_beside_28
theorem c_X1_beside (l : Launch) (X : mX) (i1 : Int32) (i2 : Int32) (M : mM) {r : Int32} (h : f_X1_beside i1 i2 M = some r) : mMi l yX1_beside cX1_beside 3 (some .int) 1 21 X [.ref (X.1 76), .int i1, .int i2] M (r, M) := m_ofi (by decide +kernel) (Nat.le_of_ble_eq_true rfl) rfl (fun p e s m args below meth c hs => w_X1_beside hs i1 i2 h)
set_option maxRecDepth 100000 in
set_option maxHeartbeats 4000000 in
theorem w_X1_heardFrom {l : Launch} {X : mX} {p : Program} {e : Env} {s : State} {m : MethodId} {args : Array Value} {below : List Frame} {meth : Method} {c : Code} {M : mM} {r : Int32} (hs : mS X RX1 cX1_heardFrom 2 (some .int) p s m meth c) : ∀ (i1 : Int32), f_X1_heardFrom i1 M = some r → mG X p l e (rmF 0 0) s m args below meth c (MQ below (mQi X M r) args s 0 0 (mL X)) 2 0 [(0, .ref (X.1 76)), (1, .int i1)] [] M := by
  obtain ⟨hx, hb, hml, hown, hF, hlk, hr⟩ := id hs
  intro i1 h H locs ls hR hS hl
  refine lv_iload_n hx hb dX1_heardFrom_0 rfl (lv_at hl 1 rfl) ?_
  refine lv_if_ge (tgt := 8) hx hb dX1_heardFrom_1 (by decide) (fun c1 => ?_) (fun c1 => ?_)
  · have h := mif_y h c1
    refine lv_aload_n hx hb dX1_heardFrom_8 rfl (lv_at hl 0 rfl) ?_
    refine m_g1_4 hx hb hF hown hR kd_76 mw_1_203 dX1_heardFrom_9 ?_
    refine m_g7_4 hx hb hF hown hR kd_1 mw_1_130 dX1_heardFrom_12 ?_
    refine lv_iload_n hx hb dX1_heardFrom_15 rfl (lv_at hl 1 rfl) ?_
    obtain ⟨g16, h⟩ := mgd_e h
    refine m_ialdL hx hb hR kd_12 g16 (jn := (Int32.toNatClampNeg i1)) rfl dX1_heardFrom_16 ?_
    exact m_ir hx hb hlk hr hR hS (congrArg (fun z => (z, M)) (Option.some.inj h).symm) dX1_heardFrom_17
  · have h := mif_n h c1
    refine lv_iconst (v := 0) hx hb dX1_heardFrom_4 (by decide) ?_
    refine lv_goto (tgt := 17) hx hb dX1_heardFrom_5 (by decide) ?_
    exact m_ir hx hb hlk hr hR hS (congrArg (fun z => (z, M)) (Option.some.inj h).symm) dX1_heardFrom_17
theorem c_X1_heardFrom (l : Launch) (X : mX) (i1 : Int32) (M : mM) {r : Int32} (h : f_X1_heardFrom i1 M = some r) : mMi l yX1_heardFrom cX1_heardFrom 2 (some .int) 0 0 X [.ref (X.1 76), .int i1] M (r, M) := m_ofi (by decide +kernel) (Nat.le_of_ble_eq_true rfl) rfl (fun p e s m args below meth c hs => w_X1_heardFrom hs i1 h)
set_option maxRecDepth 100000 in
set_option maxHeartbeats 4000000 in
theorem w_X1_value_b118 {l : Launch} {X : mX} {p : Program} {e : Env} {s : State} {m : MethodId} {args : Array Value} {below : List Frame} {meth : Method} {c : Code} {r : Int32 × mM} (hs : mS X RX1 cX1_value 3 (some .int) p s m meth c) : ∀ (s0 : Int32) (M : mM), f_X1_value_b118 s0 M = some r → mG X p l e (rmF 2 43) s m args below meth c (MQ below (mQi X r.2 r.1) args s 0 0 (mL X)) 3 118 [] [.int s0] M := by
  obtain ⟨hx, hb, hml, hown, hF, hlk, hr⟩ := id hs
  intro s0 M h H locs ls hR hS hl
  refine m_ci (m_rSN hx hb hml hown hF hR hS (c_X9_oneIf l X s0 M) mw_2_112 mw_1_1 mw_2_111 24 rfl hdS_X9_oneIf ⟨Nat.le_of_ble_eq_true rfl, Nat.le_of_ble_eq_true rfl⟩ rfl hl.1 rfl (Nat.le_of_ble_eq_true rfl) dX1_value_118) hS (fun H locs hR hS => ?_)
  exact m_ir hx hb hlk hr hR hS (Option.some.inj h).symm dX1_value_121
set_option maxRecDepth 100000 in
set_option maxHeartbeats 4000000 in
theorem w_X1_value_b136 {l : Launch} {X : mX} {p : Program} {e : Env} {s : State} {m : MethodId} {args : Array Value} {below : List Frame} {meth : Method} {c : Code} {r : Int32 × mM} (hs : mS X RX1 cX1_value 3 (some .int) p s m meth c) : ∀ (s0 : Int32) (M : mM), f_X1_value_b136 s0 M = some r → mG X p l e (rmF 2 43) s m args below meth c (MQ below (mQi X r.2 r.1) args s 0 0 (mL X)) 3 136 [] [.int s0] M := by
  obtain ⟨hx, hb, hml, hown, hF, hlk, hr⟩ := id hs
  intro s0 M h H locs ls hR hS hl
  refine m_ci (m_rSN hx hb hml hown hF hR hS (c_X9_oneIf l X s0 M) mw_2_112 mw_1_1 mw_2_111 24 rfl hdS_X9_oneIf ⟨Nat.le_of_ble_eq_true rfl, Nat.le_of_ble_eq_true rfl⟩ rfl hl.1 rfl (Nat.le_of_ble_eq_true rfl) dX1_value_136) hS (fun H locs hR hS => ?_)
  exact m_ir hx hb hlk hr hR hS (Option.some.inj h).symm dX1_value_139
set_option maxRecDepth 100000 in
set_option maxHeartbeats 4000000 in
theorem w_X1_value_b172 {l : Launch} {X : mX} {p : Program} {e : Env} {s : State} {m : MethodId} {args : Array Value} {below : List Frame} {meth : Method} {c : Code} {r : Int32 × mM} (hs : mS X RX1 cX1_value 3 (some .int) p s m meth c) : ∀ (s0 : Int32) (M : mM), f_X1_value_b172 s0 M = some r → mG X p l e (rmF 2 43) s m args below meth c (MQ below (mQi X r.2 r.1) args s 0 0 (mL X)) 3 172 [] [.int s0] M := by
  obtain ⟨hx, hb, hml, hown, hF, hlk, hr⟩ := id hs
  intro s0 M h H locs ls hR hS hl
  refine m_ci (m_rSN hx hb hml hown hF hR hS (c_X9_oneIf l X s0 M) mw_2_112 mw_1_1 mw_2_111 24 rfl hdS_X9_oneIf ⟨Nat.le_of_ble_eq_true rfl, Nat.le_of_ble_eq_true rfl⟩ rfl hl.1 rfl (Nat.le_of_ble_eq_true rfl) dX1_value_172) hS (fun H locs hR hS => ?_)
  exact m_ir hx hb hlk hr hR hS (Option.some.inj h).symm dX1_value_175
set_option maxRecDepth 100000 in
set_option maxHeartbeats 4000000 in
theorem w_X1_value_b154 {l : Launch} {X : mX} {p : Program} {e : Env} {s : State} {m : MethodId} {args : Array Value} {below : List Frame} {meth : Method} {c : Code} {r : Int32 × mM} (hs : mS X RX1 cX1_value 3 (some .int) p s m meth c) : ∀ (s0 : Int32) (M : mM), f_X1_value_b154 s0 M = some r → mG X p l e (rmF 2 43) s m args below meth c (MQ below (mQi X r.2 r.1) args s 0 0 (mL X)) 3 154 [] [.int s0] M := by
  obtain ⟨hx, hb, hml, hown, hF, hlk, hr⟩ := id hs
  intro s0 M h H locs ls hR hS hl
  refine m_ci (m_rSN hx hb hml hown hF hR hS (c_X9_oneIf l X s0 M) mw_2_112 mw_1_1 mw_2_111 24 rfl hdS_X9_oneIf ⟨Nat.le_of_ble_eq_true rfl, Nat.le_of_ble_eq_true rfl⟩ rfl hl.1 rfl (Nat.le_of_ble_eq_true rfl) dX1_value_154) hS (fun H locs hR hS => ?_)
  exact m_ir hx hb hlk hr hR hS (Option.some.inj h).symm dX1_value_157
set_option maxRecDepth 100000 in
set_option maxHeartbeats 4000000 in
theorem w_X1_value {l : Launch} {X : mX} {p : Program} {e : Env} {s : State} {m : MethodId} {args : Array Value} {below : List Frame} {meth : Method} {c : Code} {r : Int32 × mM} (hs : mS X RX1 cX1_value 3 (some .int) p s m meth c) : ∀ (i1 : Int32) (M : mM), f_X1_value i1 M = some r → mG X p l e (rmF 2 43) s m args below meth c (MQ below (mQi X r.2 r.1) args s 0 0 (mL X)) 3 0 [(0, .ref (X.1 76)), (1, .int i1)] [] M := by
  obtain ⟨hx, hb, hml, hown, hF, hlk, hr⟩ := id hs
  intro i1 M h H locs ls hR hS hl
  refine lv_aload_n hx hb dX1_value_0 rfl (lv_at hl 0 rfl) ?_
  obtain ⟨v1, M1, q1, h⟩ := mbw_e h
  refine m_ci (m_rU hx hb hml hown hF hR hS (ent1 kd_76) kd_76 rfl (c_X7_take l X 76 isReader_76 M q1) q_X1_63_UX1 rfl hdU_X7_take ⟨Nat.le_of_ble_eq_true rfl, Nat.le_of_ble_eq_true rfl⟩ rfl hl.1 rfl (Nat.le_of_ble_eq_true rfl) dX1_value_1) hS (fun H locs hR hS => ?_)
  refine lv_istore_n (lv' := [(2, .int v1), (0, .ref (X.1 76)), (1, .int i1)]) hx hb dX1_value_4 rfl hl (by decide) rfl (fun ls hl => ?_)
  refine lv_iload_n hx hb dX1_value_5 rfl (lv_at hl 0 rfl) ?_
  by_cases c6_69 : v1 = 69
  · have h := mif_y h c6_69
    refine lv_lookup (tgt := 176) (off := 170) hx hb dX1_value_6 (by decide) (by rw [c6_69] <;> rfl) (by decide) ?_
    refine lv_aload_n hx hb dX1_value_176 rfl (lv_at hl 1 rfl) ?_
    refine lv_aload_n hx hb dX1_value_177 rfl (lv_at hl 1 rfl) ?_
    refine lv_iload_n hx hb dX1_value_178 rfl (lv_at hl 2 rfl) ?_
    refine lv_iconst (v := 0) hx hb dX1_value_179 (by decide) ?_
    obtain ⟨v180, q180, h⟩ := mbp_e h
    refine m_ci (m_rV hx hb hml hown hF hR hS (ent1 kd_76) kd_76 rfl (c_X1_beside l X i1 0 M1 q180) q_X1_76_V hdV_X1_beside ⟨Nat.le_of_ble_eq_true rfl, Nat.le_of_ble_eq_true rfl⟩ rfl hl.1 rfl (Nat.le_of_ble_eq_true rfl) dX1_value_180) hS (fun H locs hR hS => ?_)
    obtain ⟨v183, q183, h⟩ := mbp_e h
    refine m_ci (m_rV hx hb hml hown hF hR hS (ent1 kd_76) kd_76 rfl (c_X1_heardFrom l X v180 M1 q183) q_X1_84_V hdV_X1_heardFrom ⟨Nat.le_of_ble_eq_true rfl, Nat.le_of_ble_eq_true rfl⟩ rfl hl.1 rfl (Nat.le_of_ble_eq_true rfl) dX1_value_183) hS (fun H locs hR hS => ?_)
    exact m_ir hx hb hlk hr hR hS (Option.some.inj h).symm dX1_value_186
  · have h := mif_n h c6_69
    by_cases c6_78 : v1 = 78
    · have h := mif_y h c6_78
      refine lv_lookup (tgt := 187) (off := 181) hx hb dX1_value_6 (by decide) (by rw [c6_78] <;> rfl) (by decide) ?_
      refine lv_aload_n hx hb dX1_value_187 rfl (lv_at hl 1 rfl) ?_
      refine lv_aload_n hx hb dX1_value_188 rfl (lv_at hl 1 rfl) ?_
      refine lv_iload_n hx hb dX1_value_189 rfl (lv_at hl 2 rfl) ?_
      refine lv_iconst (v := 1) hx hb dX1_value_190 (by decide) ?_
      obtain ⟨v191, q191, h⟩ := mbp_e h
      refine m_ci (m_rV hx hb hml hown hF hR hS (ent1 kd_76) kd_76 rfl (c_X1_beside l X i1 1 M1 q191) q_X1_76_V hdV_X1_beside ⟨Nat.le_of_ble_eq_true rfl, Nat.le_of_ble_eq_true rfl⟩ rfl hl.1 rfl (Nat.le_of_ble_eq_true rfl) dX1_value_191) hS (fun H locs hR hS => ?_)
      obtain ⟨v194, q194, h⟩ := mbp_e h
      refine m_ci (m_rV hx hb hml hown hF hR hS (ent1 kd_76) kd_76 rfl (c_X1_heardFrom l X v191 M1 q194) q_X1_84_V hdV_X1_heardFrom ⟨Nat.le_of_ble_eq_true rfl, Nat.le_of_ble_eq_true rfl⟩ rfl hl.1 rfl (Nat.le_of_ble_eq_true rfl) dX1_value_194) hS (fun H locs hR hS => ?_)
      exact m_ir hx hb hlk hr hR hS (Option.some.inj h).symm dX1_value_197
    · have h := mif_n h c6_78
      by_cases c6_83 : v1 = 83
      · have h := mif_y h c6_83
        refine lv_lookup (tgt := 209) (off := 203) hx hb dX1_value_6 (by decide) (by rw [c6_83] <;> rfl) (by decide) ?_
        refine lv_aload_n hx hb dX1_value_209 rfl (lv_at hl 1 rfl) ?_
        refine lv_aload_n hx hb dX1_value_210 rfl (lv_at hl 1 rfl) ?_
        refine lv_iload_n hx hb dX1_value_211 rfl (lv_at hl 2 rfl) ?_
        refine lv_iconst (v := 3) hx hb dX1_value_212 (by decide) ?_
        obtain ⟨v213, q213, h⟩ := mbp_e h
        refine m_ci (m_rV hx hb hml hown hF hR hS (ent1 kd_76) kd_76 rfl (c_X1_beside l X i1 3 M1 q213) q_X1_76_V hdV_X1_beside ⟨Nat.le_of_ble_eq_true rfl, Nat.le_of_ble_eq_true rfl⟩ rfl hl.1 rfl (Nat.le_of_ble_eq_true rfl) dX1_value_213) hS (fun H locs hR hS => ?_)
        obtain ⟨v216, q216, h⟩ := mbp_e h
        refine m_ci (m_rV hx hb hml hown hF hR hS (ent1 kd_76) kd_76 rfl (c_X1_heardFrom l X v213 M1 q216) q_X1_84_V hdV_X1_heardFrom ⟨Nat.le_of_ble_eq_true rfl, Nat.le_of_ble_eq_true rfl⟩ rfl hl.1 rfl (Nat.le_of_ble_eq_true rfl) dX1_value_216) hS (fun H locs hR hS => ?_)
        exact m_ir hx hb hlk hr hR hS (Option.some.inj h).symm dX1_value_219
      · have h := mif_n h c6_83
        by_cases c6_87 : v1 = 87
        · have h := mif_y h c6_87
          refine lv_lookup (tgt := 198) (off := 192) hx hb dX1_value_6 (by decide) (by rw [c6_87] <;> rfl) (by decide) ?_
          refine lv_aload_n hx hb dX1_value_198 rfl (lv_at hl 1 rfl) ?_
          refine lv_aload_n hx hb dX1_value_199 rfl (lv_at hl 1 rfl) ?_
          refine lv_iload_n hx hb dX1_value_200 rfl (lv_at hl 2 rfl) ?_
          refine lv_iconst (v := 2) hx hb dX1_value_201 (by decide) ?_
          obtain ⟨v202, q202, h⟩ := mbp_e h
          refine m_ci (m_rV hx hb hml hown hF hR hS (ent1 kd_76) kd_76 rfl (c_X1_beside l X i1 2 M1 q202) q_X1_76_V hdV_X1_beside ⟨Nat.le_of_ble_eq_true rfl, Nat.le_of_ble_eq_true rfl⟩ rfl hl.1 rfl (Nat.le_of_ble_eq_true rfl) dX1_value_202) hS (fun H locs hR hS => ?_)
          obtain ⟨v205, q205, h⟩ := mbp_e h
          refine m_ci (m_rV hx hb hml hown hF hR hS (ent1 kd_76) kd_76 rfl (c_X1_heardFrom l X v202 M1 q205) q_X1_84_V hdV_X1_heardFrom ⟨Nat.le_of_ble_eq_true rfl, Nat.le_of_ble_eq_true rfl⟩ rfl hl.1 rfl (Nat.le_of_ble_eq_true rfl) dX1_value_205) hS (fun H locs hR hS => ?_)
          exact m_ir hx hb hlk hr hR hS (Option.some.inj h).symm dX1_value_208
        · have h := mif_n h c6_87
          by_cases c6_101 : v1 = 101
          · have h := mif_y h c6_101
            refine lv_lookup (tgt := 104) (off := 98) hx hb dX1_value_6 (by decide) (by rw [c6_101] <;> rfl) (by decide) ?_
            refine lv_aload_n hx hb dX1_value_104 rfl (lv_at hl 1 rfl) ?_
            refine lv_iload_n hx hb dX1_value_105 rfl (lv_at hl 2 rfl) ?_
            refine lv_iconst (v := 0) hx hb dX1_value_106 (by decide) ?_
            obtain ⟨v107, q107, h⟩ := mbp_e h
            refine m_ci (m_rV hx hb hml hown hF hR hS (ent1 kd_76) kd_76 rfl (c_X1_beside l X i1 0 M1 q107) q_X1_76_V hdV_X1_beside ⟨Nat.le_of_ble_eq_true rfl, Nat.le_of_ble_eq_true rfl⟩ rfl hl.1 rfl (Nat.le_of_ble_eq_true rfl) dX1_value_107) hS (fun H locs hR hS => ?_)
            refine lv_if_lt (tgt := 117) hx hb dX1_value_110 (by decide) (fun c110 => ?_) (fun c110 => ?_)
            · have h := mif_y h c110
              refine lv_iconst (v := 0) hx hb dX1_value_117 (by decide) ?_
              exact w_X1_value_b118 hs 0 M1 h H locs ls hR hS (lv_sub hl [] rfl)
            · have h := mif_n h c110
              refine lv_iconst (v := 1) hx hb dX1_value_113 (by decide) ?_
              refine lv_goto (tgt := 118) hx hb dX1_value_114 (by decide) ?_
              exact w_X1_value_b118 hs 1 M1 h H locs ls hR hS (lv_sub hl [] rfl)
          · have h := mif_n h c6_101
            by_cases c6_109 : v1 = 109
            · have h := mif_y h c6_109
              refine lv_lookup (tgt := 244) (off := 238) hx hb dX1_value_6 (by decide) (by rw [c6_109] <;> rfl) (by decide) ?_
              refine lv_aload_n hx hb dX1_value_244 rfl (lv_at hl 1 rfl) ?_
              refine m_g1_4 hx hb hF hown hR kd_76 mw_1_203 dX1_value_245 ?_
              refine m_g7_2 hx hb hF hown hR kd_1 mw_1_125 dX1_value_248 ?_
              refine lv_iload_n hx hb dX1_value_251 rfl (lv_at hl 2 rfl) ?_
              obtain ⟨g252, h⟩ := mgd_e h
              refine m_ialdL hx hb hR kd_10 g252 (jn := (Int32.toNatClampNeg i1)) rfl dX1_value_252 ?_
              exact m_ir hx hb hlk hr hR hS (Option.some.inj h).symm dX1_value_253
            · have h := mif_n h c6_109
              by_cases c6_110 : v1 = 110
              · have h := mif_y h c6_110
                refine lv_lookup (tgt := 122) (off := 116) hx hb dX1_value_6 (by decide) (by rw [c6_110] <;> rfl) (by decide) ?_
                refine lv_aload_n hx hb dX1_value_122 rfl (lv_at hl 1 rfl) ?_
                refine lv_iload_n hx hb dX1_value_123 rfl (lv_at hl 2 rfl) ?_
                refine lv_iconst (v := 1) hx hb dX1_value_124 (by decide) ?_
                obtain ⟨v125, q125, h⟩ := mbp_e h
                refine m_ci (m_rV hx hb hml hown hF hR hS (ent1 kd_76) kd_76 rfl (c_X1_beside l X i1 1 M1 q125) q_X1_76_V hdV_X1_beside ⟨Nat.le_of_ble_eq_true rfl, Nat.le_of_ble_eq_true rfl⟩ rfl hl.1 rfl (Nat.le_of_ble_eq_true rfl) dX1_value_125) hS (fun H locs hR hS => ?_)
                refine lv_if_lt (tgt := 135) hx hb dX1_value_128 (by decide) (fun c128 => ?_) (fun c128 => ?_)
                · have h := mif_y h c128
                  refine lv_iconst (v := 0) hx hb dX1_value_135 (by decide) ?_
                  exact w_X1_value_b136 hs 0 M1 h H locs ls hR hS (lv_sub hl [] rfl)
                · have h := mif_n h c128
                  refine lv_iconst (v := 1) hx hb dX1_value_131 (by decide) ?_
                  refine lv_goto (tgt := 136) hx hb dX1_value_132 (by decide) ?_
                  exact w_X1_value_b136 hs 1 M1 h H locs ls hR hS (lv_sub hl [] rfl)
              · have h := mif_n h c6_110
                by_cases c6_112 : v1 = 112
                · have h := mif_y h c6_112
                  refine lv_lookup (tgt := 220) (off := 214) hx hb dX1_value_6 (by decide) (by rw [c6_112] <;> rfl) (by decide) ?_
                  refine lv_aload_n hx hb dX1_value_220 rfl (lv_at hl 1 rfl) ?_
                  refine m_g1_4 hx hb hF hown hR kd_76 mw_1_203 dX1_value_221 ?_
                  refine m_g7_0 hx hb hF hown hR kd_1 mw_1_117 dX1_value_224 ?_
                  refine m_g0_3 hx hb hF hown hR kd_2 mw_1_63 dX1_value_227 ?_
                  refine lv_iload_n hx hb dX1_value_230 rfl (lv_at hl 2 rfl) ?_
                  obtain ⟨g231, h⟩ := mgd_e h
                  refine m_ialdL hx hb hR kd_5 g231 (jn := (Int32.toNatClampNeg i1)) rfl dX1_value_231 ?_
                  exact m_ir hx hb hlk hr hR hS (Option.some.inj h).symm dX1_value_232
                · have h := mif_n h c6_112
                  by_cases c6_115 : v1 = 115
                  · have h := mif_y h c6_115
                    refine lv_lookup (tgt := 158) (off := 152) hx hb dX1_value_6 (by decide) (by rw [c6_115] <;> rfl) (by decide) ?_
                    refine lv_aload_n hx hb dX1_value_158 rfl (lv_at hl 1 rfl) ?_
                    refine lv_iload_n hx hb dX1_value_159 rfl (lv_at hl 2 rfl) ?_
                    refine lv_iconst (v := 3) hx hb dX1_value_160 (by decide) ?_
                    obtain ⟨v161, q161, h⟩ := mbp_e h
                    refine m_ci (m_rV hx hb hml hown hF hR hS (ent1 kd_76) kd_76 rfl (c_X1_beside l X i1 3 M1 q161) q_X1_76_V hdV_X1_beside ⟨Nat.le_of_ble_eq_true rfl, Nat.le_of_ble_eq_true rfl⟩ rfl hl.1 rfl (Nat.le_of_ble_eq_true rfl) dX1_value_161) hS (fun H locs hR hS => ?_)
                    refine lv_if_lt (tgt := 171) hx hb dX1_value_164 (by decide) (fun c164 => ?_) (fun c164 => ?_)
                    · have h := mif_y h c164
                      refine lv_iconst (v := 0) hx hb dX1_value_171 (by decide) ?_
                      exact w_X1_value_b172 hs 0 M1 h H locs ls hR hS (lv_sub hl [] rfl)
                    · have h := mif_n h c164
                      refine lv_iconst (v := 1) hx hb dX1_value_167 (by decide) ?_
                      refine lv_goto (tgt := 172) hx hb dX1_value_168 (by decide) ?_
                      exact w_X1_value_b172 hs 1 M1 h H locs ls hR hS (lv_sub hl [] rfl)
                  · have h := mif_n h c6_115
                    by_cases c6_116 : v1 = 116
                    · have h := mif_y h c6_116
                      refine lv_lookup (tgt := 233) (off := 227) hx hb dX1_value_6 (by decide) (by rw [c6_116] <;> rfl) (by decide) ?_
                      refine lv_aload_n hx hb dX1_value_233 rfl (lv_at hl 1 rfl) ?_
                      refine m_g1_4 hx hb hF hown hR kd_76 mw_1_203 dX1_value_234 ?_
                      refine m_g7_1 hx hb hF hown hR kd_1 mw_1_122 dX1_value_237 ?_
                      refine lv_bipush (v := 10) hx hb dX1_value_240 (by decide) ?_
                      refine lv_irem hx hb dX1_value_242 (by decide) ?_
                      exact m_ir hx hb hlk hr hR hS (Option.some.inj h).symm dX1_value_243
                    · have h := mif_n h c6_116
                      by_cases c6_119 : v1 = 119
                      · have h := mif_y h c6_119
                        refine lv_lookup (tgt := 140) (off := 134) hx hb dX1_value_6 (by decide) (by rw [c6_119] <;> rfl) (by decide) ?_
                        refine lv_aload_n hx hb dX1_value_140 rfl (lv_at hl 1 rfl) ?_
                        refine lv_iload_n hx hb dX1_value_141 rfl (lv_at hl 2 rfl) ?_
                        refine lv_iconst (v := 2) hx hb dX1_value_142 (by decide) ?_
                        obtain ⟨v143, q143, h⟩ := mbp_e h
                        refine m_ci (m_rV hx hb hml hown hF hR hS (ent1 kd_76) kd_76 rfl (c_X1_beside l X i1 2 M1 q143) q_X1_76_V hdV_X1_beside ⟨Nat.le_of_ble_eq_true rfl, Nat.le_of_ble_eq_true rfl⟩ rfl hl.1 rfl (Nat.le_of_ble_eq_true rfl) dX1_value_143) hS (fun H locs hR hS => ?_)
                        refine lv_if_lt (tgt := 153) hx hb dX1_value_146 (by decide) (fun c146 => ?_) (fun c146 => ?_)
                        · have h := mif_y h c146
                          refine lv_iconst (v := 0) hx hb dX1_value_153 (by decide) ?_
                          exact w_X1_value_b154 hs 0 M1 h H locs ls hR hS (lv_sub hl [] rfl)
                        · have h := mif_n h c146
                          refine lv_iconst (v := 1) hx hb dX1_value_149 (by decide) ?_
                          refine lv_goto (tgt := 154) hx hb dX1_value_150 (by decide) ?_
                          exact w_X1_value_b154 hs 1 M1 h H locs ls hR hS (lv_sub hl [] rfl)
                      · have h := mif_n h c6_119
                        refine lv_lookup (tgt := 254) (off := 248) hx hb dX1_value_6 (by decide) (by show Op.lookupswitch.offset [(69, 170), (78, 181), (83, 203), (87, 192), (101, 98), (109, 238), (110, 116), (112, 214), (115, 152), (116, 227), (119, 134)] 248 _ = 248; rw [lv_osw (a := 69) c6_69 rfl]; rw [lv_osw (a := 78) c6_78 rfl]; rw [lv_osw (a := 83) c6_83 rfl]; rw [lv_osw (a := 87) c6_87 rfl]; rw [lv_osw (a := 101) c6_101 rfl]; rw [lv_osw (a := 109) c6_109 rfl]; rw [lv_osw (a := 110) c6_110 rfl]; rw [lv_osw (a := 112) c6_112 rfl]; rw [lv_osw (a := 115) c6_115 rfl]; rw [lv_osw (a := 116) c6_116 rfl]; rw [lv_osw (a := 119) c6_119 rfl] <;> rfl) (by decide) ?_
                        refine lv_aload_n hx hb dX1_value_254 rfl (lv_at hl 1 rfl) ?_
                        obtain ⟨v255, q255, h⟩ := mbp_e h
                        refine m_ci (m_rU hx hb hml hown hF hR hS (ent1 kd_76) kd_76 rfl (c_X7_isDigit l X 76 isReader_76 M1 q255) q_X1_96_UX1 rfl hdU_X7_isDigit ⟨Nat.le_of_ble_eq_true rfl, Nat.le_of_ble_eq_true rfl⟩ rfl hl.1 rfl (Nat.le_of_ble_eq_true rfl) dX1_value_255) hS (fun H locs hR hS => ?_)
                        refine lv_if_eq (tgt := 279) hx hb dX1_value_258 (by decide) (fun c258 => ?_) (fun c258 => ?_)
                        · have h := mif_y h c258
                          refine lv_iload_n hx hb dX1_value_279 rfl (lv_at hl 0 rfl) ?_
                          refine lv_bipush (v := 48) hx hb dX1_value_280 (by decide) ?_
                          refine lv_isub hx hb dX1_value_282 ?_
                          exact m_ir hx hb hlk hr hR hS (Option.some.inj h).symm dX1_value_283
                        · have h := mif_n h c258
                          refine lv_iload_n hx hb dX1_value_261 rfl (lv_at hl 0 rfl) ?_
                          refine lv_bipush (v := 48) hx hb dX1_value_262 (by decide) ?_
                          refine lv_isub hx hb dX1_value_264 ?_
                          refine lv_bipush (v := 10) hx hb dX1_value_265 (by decide) ?_
                          refine lv_imul hx hb dX1_value_267 ?_
                          refine lv_aload_n hx hb dX1_value_268 rfl (lv_at hl 1 rfl) ?_
                          obtain ⟨v269, M269, q269, h⟩ := mbw_e h
                          refine m_ci (m_rU hx hb hml hown hF hR hS (ent1 kd_76) kd_76 rfl (c_X7_take l X 76 isReader_76 M1 q269) q_X1_63_UX1 rfl hdU_X7_take ⟨Nat.le_of_ble_eq_true rfl, Nat.le_of_ble_eq_true rfl⟩ rfl hl.1 rfl (Nat.le_of_ble_eq_true rfl) dX1_value_269) hS (fun H locs hR hS => ?_)
                          refine lv_iadd hx hb dX1_value_272 ?_
                          refine lv_bipush (v := 48) hx hb dX1_value_273 (by decide) ?_
                          refine lv_isub hx hb dX1_value_275 ?_
                          refine lv_goto (tgt := 283) hx hb dX1_value_276 (by decide) ?_
                          exact m_ir hx hb hlk hr hR hS (Option.some.inj h).symm dX1_value_283
theorem c_X1_value (l : Launch) (X : mX) (i1 : Int32) (M : mM) {r : Int32 × mM} (h : f_X1_value i1 M = some r) : mMi l yX1_value cX1_value 3 (some .int) 2 43 X [.ref (X.1 76), .int i1] M r := m_ofi (by decide +kernel) (Nat.le_of_ble_eq_true rfl) rfl (fun p e s m args below meth c hs => w_X1_value hs i1 M h)
set_option maxRecDepth 100000 in
set_option maxHeartbeats 4000000 in
theorem w_X1_addUp_b8 {l : Launch} {X : mX} {p : Program} {e : Env} {s : State} {m : MethodId} {args : Array Value} {below : List Frame} {meth : Method} {c : Code} {r : Int32 × mM} (hs : mS X RX1 cX1_addUp 6 (some .int) p s m meth c) : ∀ n : Nat, ∀ (i1 : Int32) (i2 : Int32) (i3 : Int32) (M : mM), f_X1_addUp_b8 n i1 i2 i3 M = some r → mG X p l e (rmF 3 65) s m args below meth c (MQ below (mQi X r.2 r.1) args s 0 0 (mL X)) 6 8 [(0, .ref (X.1 76)), (1, .int i1), (2, .int i2), (3, .int i3)] [] M := by
  obtain ⟨hx, hb, hml, hown, hF, hlk, hr⟩ := id hs
  intro n
  induction n with
  | zero =>
    intro i1 i2 i3 M h
    have h0 : (none : Option (Int32 × mM)) = some r := h
    cases h0
  | succ n ih =>
    intro i1 i2 i3 M h H locs ls hR hS hl
    refine lv_iload_n hx hb dX1_addUp_8 rfl (lv_at hl 3 rfl) ?_
    refine lv_bipush (v := 90) hx hb dX1_addUp_9 (by decide) ?_
    refine lv_icmp_ge (tgt := 59) hx hb dX1_addUp_11 (by decide) (fun c11 => ?_) (fun c11 => ?_)
    · have h := mif_y h c11
      refine lv_iload_n hx hb dX1_addUp_59 rfl (lv_at hl 2 rfl) ?_
      exact m_ir hx hb hlk hr hR hS (Option.some.inj h).symm dX1_addUp_60
    · have h := mif_n h c11
      refine lv_aload_n hx hb dX1_addUp_14 rfl (lv_at hl 0 rfl) ?_
      obtain ⟨v15, q15, h⟩ := mbp_e h
      refine m_ci (m_rU hx hb hml hown hF hR hS (ent1 kd_76) kd_76 rfl (c_X7_isPlusOrMinus l X 76 isReader_76 M q15) q_X1_73_UX1 rfl hdU_X7_isPlusOrMinus ⟨Nat.le_of_ble_eq_true rfl, Nat.le_of_ble_eq_true rfl⟩ rfl hl.1 rfl (Nat.le_of_ble_eq_true rfl) dX1_addUp_15) hS (fun H locs hR hS => ?_)
      refine lv_if_eq (tgt := 59) hx hb dX1_addUp_18 (by decide) (fun c18 => ?_) (fun c18 => ?_)
      · have h := mif_y h c18
        refine lv_iload_n hx hb dX1_addUp_59 rfl (lv_at hl 2 rfl) ?_
        exact m_ir hx hb hlk hr hR hS (Option.some.inj h).symm dX1_addUp_60
      · have h := mif_n h c18
        refine lv_aload_n hx hb dX1_addUp_21 rfl (lv_at hl 0 rfl) ?_
        obtain ⟨v22, M22, q22, h⟩ := mbw_e h
        refine m_ci (m_rU hx hb hml hown hF hR hS (ent1 kd_76) kd_76 rfl (c_X7_take l X 76 isReader_76 M q22) q_X1_63_UX1 rfl hdU_X7_take ⟨Nat.le_of_ble_eq_true rfl, Nat.le_of_ble_eq_true rfl⟩ rfl hl.1 rfl (Nat.le_of_ble_eq_true rfl) dX1_addUp_22) hS (fun H locs hR hS => ?_)
        refine lv_istore (lv' := [(4, .int v22), (0, .ref (X.1 76)), (1, .int i1), (2, .int i2), (3, .int i3)]) hx hb dX1_addUp_25 hl (by decide) rfl (fun ls hl => ?_)
        refine lv_aload_n hx hb dX1_addUp_27 rfl (lv_at hl 1 rfl) ?_
        refine lv_iload_n hx hb dX1_addUp_28 rfl (lv_at hl 2 rfl) ?_
        obtain ⟨v29, M29, q29, h⟩ := mbw_e h
        refine m_ci (m_rV hx hb hml hown hF hR hS (ent1 kd_76) kd_76 rfl (c_X1_value l X i1 M22 q29) q_X1_70_V hdV_X1_value ⟨Nat.le_of_ble_eq_true rfl, Nat.le_of_ble_eq_true rfl⟩ rfl hl.1 rfl (Nat.le_of_ble_eq_true rfl) dX1_addUp_29) hS (fun H locs hR hS => ?_)
        refine lv_istore (lv' := [(5, .int v29), (4, .int v22), (0, .ref (X.1 76)), (1, .int i1), (2, .int i2), (3, .int i3)]) hx hb dX1_addUp_32 hl (by decide) rfl (fun ls hl => ?_)
        refine lv_iload hx hb dX1_addUp_34 (lv_at hl 1 rfl) ?_
        refine lv_bipush (v := 43) hx hb dX1_addUp_36 (by decide) ?_
        refine lv_icmp_ne (tgt := 48) hx hb dX1_addUp_38 (by decide) (fun c38 => ?_) (fun c38 => ?_)
        · have h := mif_n h c38
          refine lv_iload_n hx hb dX1_addUp_48 rfl (lv_at hl 4 rfl) ?_
          refine lv_iload hx hb dX1_addUp_49 (lv_at hl 0 rfl) ?_
          refine lv_isub hx hb dX1_addUp_51 ?_
          refine lv_istore_n (lv' := [(2, .int (i2 - v29)), (5, .int v29), (4, .int v22), (0, .ref (X.1 76)), (1, .int i1), (3, .int i3)]) hx hb dX1_addUp_52 rfl hl (by decide) rfl (fun ls hl => ?_)
          obtain ⟨x53, ex53⟩ : ∃ y : Int32, y = (i3 + 1) := ⟨_, rfl⟩
          have h := mlt_n h x53 ex53
          refine lv_iinc (v := x53) (lv' := [(3, .int x53), (2, .int (i2 - v29)), (5, .int v29), (4, .int v22), (0, .ref (X.1 76)), (1, .int i1)]) hx hb dX1_addUp_53 hl (k := 5) rfl (by rw [ex53]; rfl) (by decide) rfl (fun ls hl => ?_)
          refine lv_goto (tgt := 8) hx hb dX1_addUp_56 (by decide) ?_
          exact ih i1 (i2 - v29) x53 M29 h H locs ls hR hS (lv_sub hl [4, 5, 1, 0] rfl)
        · have h := mif_y h c38
          refine lv_iload_n hx hb dX1_addUp_41 rfl (lv_at hl 4 rfl) ?_
          refine lv_iload hx hb dX1_addUp_42 (lv_at hl 0 rfl) ?_
          refine lv_iadd hx hb dX1_addUp_44 ?_
          refine lv_goto (tgt := 52) hx hb dX1_addUp_45 (by decide) ?_
          refine lv_istore_n (lv' := [(2, .int (i2 + v29)), (5, .int v29), (4, .int v22), (0, .ref (X.1 76)), (1, .int i1), (3, .int i3)]) hx hb dX1_addUp_52 rfl hl (by decide) rfl (fun ls hl => ?_)
          obtain ⟨x53, ex53⟩ : ∃ y : Int32, y = (i3 + 1) := ⟨_, rfl⟩
          have h := mlt_n h x53 ex53
          refine lv_iinc (v := x53) (lv' := [(3, .int x53), (2, .int (i2 + v29)), (5, .int v29), (4, .int v22), (0, .ref (X.1 76)), (1, .int i1)]) hx hb dX1_addUp_53 hl (k := 5) rfl (by rw [ex53]; rfl) (by decide) rfl (fun ls hl => ?_)
          refine lv_goto (tgt := 8) hx hb dX1_addUp_56 (by decide) ?_
          exact ih i1 (i2 + v29) x53 M29 h H locs ls hR hS (lv_sub hl [4, 5, 1, 0] rfl)
set_option maxRecDepth 100000 in
set_option maxHeartbeats 4000000 in
theorem w_X1_addUp {l : Launch} {X : mX} {p : Program} {e : Env} {s : State} {m : MethodId} {args : Array Value} {below : List Frame} {meth : Method} {c : Code} {r : Int32 × mM} (hs : mS X RX1 cX1_addUp 6 (some .int) p s m meth c) : ∀ (i1 : Int32) (M : mM), f_X1_addUp i1 M = some r → mG X p l e (rmF 3 65) s m args below meth c (MQ below (mQi X r.2 r.1) args s 0 0 (mL X)) 6 0 [(0, .ref (X.1 76)), (1, .int i1)] [] M := by
  obtain ⟨hx, hb, hml, hown, hF, hlk, hr⟩ := id hs
  intro i1 M h H locs ls hR hS hl
  refine lv_aload_n hx hb dX1_addUp_0 rfl (lv_at hl 0 rfl) ?_
  refine lv_iload_n hx hb dX1_addUp_1 rfl (lv_at hl 1 rfl) ?_
  obtain ⟨v2, M2, q2, h⟩ := mbw_e h
  refine m_ci (m_rV hx hb hml hown hF hR hS (ent1 kd_76) kd_76 rfl (c_X1_value l X i1 M q2) q_X1_70_V hdV_X1_value ⟨Nat.le_of_ble_eq_true rfl, Nat.le_of_ble_eq_true rfl⟩ rfl hl.1 rfl (Nat.le_of_ble_eq_true rfl) dX1_addUp_2) hS (fun H locs hR hS => ?_)
  refine lv_istore_n (lv' := [(2, .int v2), (0, .ref (X.1 76)), (1, .int i1)]) hx hb dX1_addUp_5 rfl hl (by decide) rfl (fun ls hl => ?_)
  refine lv_iconst (v := 0) hx hb dX1_addUp_6 (by decide) ?_
  refine lv_istore_n (lv' := [(3, .int 0), (2, .int v2), (0, .ref (X.1 76)), (1, .int i1)]) hx hb dX1_addUp_7 rfl hl (by decide) rfl (fun ls hl => ?_)
  exact w_X1_addUp_b8 hs mN i1 v2 0 M2 h H locs ls hR hS (lv_sub hl [2, 3, 1, 0] rfl)
theorem c_X1_addUp (l : Launch) (X : mX) (i1 : Int32) (M : mM) {r : Int32 × mM} (h : f_X1_addUp i1 M = some r) : mMi l yX1_addUp cX1_addUp 6 (some .int) 3 65 X [.ref (X.1 76), .int i1] M r := m_ofi (by decide +kernel) (Nat.le_of_ble_eq_true rfl) rfl (fun p e s m args below meth c hs => w_X1_addUp hs i1 M h)
set_option maxRecDepth 100000 in
set_option maxHeartbeats 4000000 in
theorem w_X1_testHolds_b110 {l : Launch} {X : mX} {p : Program} {e : Env} {s : State} {m : MethodId} {args : Array Value} {below : List Frame} {meth : Method} {c : Code} {r : Int32 × mM} (hs : mS X RX1 cX1_testHolds 9 (some .boolean) p s m meth c) (k7 : Int32 → Int32 → Int32 → Int32 → mM → Option (Int32 × mM)) (hk7 : ∀ (i1 : Int32) (i2 : Int32) (i3 : Int32) (i4 : Int32) (M : mM), k7 i1 i2 i3 i4 M = some r → mG X p l e (rmF 4 90) s m args below meth c (MQ below (mQi X r.2 r.1) args s 0 0 (mL X)) 9 7 [(0, .ref (X.1 76)), (1, .int i1), (2, .int i2), (3, .int i3), (4, .int i4)] [] M) : ∀ (i1 : Int32) (i4 : Int32) (s0 : Int32) (M : mM), f_X1_testHolds_b110 k7 i1 i4 s0 M = some r → mG X p l e (rmF 4 90) s m args below meth c (MQ below (mQi X r.2 r.1) args s 0 0 (mL X)) 9 110 [(0, .ref (X.1 76)), (1, .int i1), (4, .int i4)] [.int s0] M := by
  obtain ⟨hx, hb, hml, hown, hF, hlk, hr⟩ := id hs
  intro i1 i4 s0 M h H locs ls hR hS hl
  refine lv_istore_n (lv' := [(2, .int s0), (0, .ref (X.1 76)), (1, .int i1), (4, .int i4)]) hx hb dX1_testHolds_110 rfl hl (by decide) rfl (fun ls hl => ?_)
  refine lv_aload_n hx hb dX1_testHolds_111 rfl (lv_at hl 1 rfl) ?_
  obtain ⟨v112, M112, q112, h⟩ := mbw_e h
  refine m_ci (m_rU hx hb hml hown hF hR hS (ent1 kd_76) kd_76 rfl (c_X7_take l X 76 isReader_76 M q112) q_X1_63_UX1 rfl hdU_X7_take ⟨Nat.le_of_ble_eq_true rfl, Nat.le_of_ble_eq_true rfl⟩ rfl hl.1 rfl (Nat.le_of_ble_eq_true rfl) dX1_testHolds_112) hS (fun H locs hR hS => ?_)
  refine lv_bipush (v := 38) hx hb dX1_testHolds_115 (by decide) ?_
  refine lv_icmp_ne (tgt := 124) hx hb dX1_testHolds_117 (by decide) (fun c117 => ?_) (fun c117 => ?_)
  · have h := mif_n h c117
    refine lv_iconst (v := 0) hx hb dX1_testHolds_124 (by decide) ?_
    refine lv_istore_n (lv' := [(3, .int 0), (2, .int s0), (0, .ref (X.1 76)), (1, .int i1), (4, .int i4)]) hx hb dX1_testHolds_125 rfl hl (by decide) rfl (fun ls hl => ?_)
    obtain ⟨x126, ex126⟩ : ∃ y : Int32, y = (i4 + 1) := ⟨_, rfl⟩
    have h := mlt_n h x126 ex126
    refine lv_iinc (v := x126) (lv' := [(4, .int x126), (3, .int 0), (2, .int s0), (0, .ref (X.1 76)), (1, .int i1)]) hx hb dX1_testHolds_126 hl (k := 4) rfl (by rw [ex126]; rfl) (by decide) rfl (fun ls hl => ?_)
    refine lv_goto (tgt := 7) hx hb dX1_testHolds_129 (by decide) ?_
    exact hk7 i1 s0 0 x126 M112 h H locs ls hR hS (lv_sub hl [3, 4, 2, 1, 0] rfl)
  · have h := mif_y h c117
    refine lv_iconst (v := 1) hx hb dX1_testHolds_120 (by decide) ?_
    refine lv_goto (tgt := 125) hx hb dX1_testHolds_121 (by decide) ?_
    refine lv_istore_n (lv' := [(3, .int 1), (2, .int s0), (0, .ref (X.1 76)), (1, .int i1), (4, .int i4)]) hx hb dX1_testHolds_125 rfl hl (by decide) rfl (fun ls hl => ?_)
    obtain ⟨x126, ex126⟩ : ∃ y : Int32, y = (i4 + 1) := ⟨_, rfl⟩
    have h := mlt_n h x126 ex126
    refine lv_iinc (v := x126) (lv' := [(4, .int x126), (3, .int 1), (2, .int s0), (0, .ref (X.1 76)), (1, .int i1)]) hx hb dX1_testHolds_126 hl (k := 4) rfl (by rw [ex126]; rfl) (by decide) rfl (fun ls hl => ?_)
    refine lv_goto (tgt := 7) hx hb dX1_testHolds_129 (by decide) ?_
    exact hk7 i1 s0 1 x126 M112 h H locs ls hR hS (lv_sub hl [3, 4, 2, 1, 0] rfl)
set_option maxRecDepth 100000 in
set_option maxHeartbeats 4000000 in
theorem w_X1_testHolds_b94 {l : Launch} {X : mX} {p : Program} {e : Env} {s : State} {m : MethodId} {args : Array Value} {below : List Frame} {meth : Method} {c : Code} {r : Int32 × mM} (hs : mS X RX1 cX1_testHolds 9 (some .boolean) p s m meth c) (k7 : Int32 → Int32 → Int32 → Int32 → mM → Option (Int32 × mM)) (hk7 : ∀ (i1 : Int32) (i2 : Int32) (i3 : Int32) (i4 : Int32) (M : mM), k7 i1 i2 i3 i4 M = some r → mG X p l e (rmF 4 90) s m args below meth c (MQ below (mQi X r.2 r.1) args s 0 0 (mL X)) 9 7 [(0, .ref (X.1 76)), (1, .int i1), (2, .int i2), (3, .int i3), (4, .int i4)] [] M) : ∀ (i1 : Int32) (i2 : Int32) (i4 : Int32) (s0 : Int32) (M : mM), f_X1_testHolds_b94 k7 i1 i2 i4 s0 M = some r → mG X p l e (rmF 4 90) s m args below meth c (MQ below (mQi X r.2 r.1) args s 0 0 (mL X)) 9 94 [(0, .ref (X.1 76)), (1, .int i1), (2, .int i2), (4, .int i4)] [.int s0] M := by
  obtain ⟨hx, hb, hml, hown, hF, hlk, hr⟩ := id hs
  intro i1 i2 i4 s0 M h H locs ls hR hS hl
  refine lv_istore (lv' := [(8, .int s0), (0, .ref (X.1 76)), (1, .int i1), (2, .int i2), (4, .int i4)]) hx hb dX1_testHolds_94 hl (by decide) rfl (fun ls hl => ?_)
  refine lv_iload_n hx hb dX1_testHolds_96 rfl (lv_at hl 3 rfl) ?_
  refine lv_if_eq (tgt := 109) hx hb dX1_testHolds_97 (by decide) (fun c97 => ?_) (fun c97 => ?_)
  · have h := mif_y h c97
    refine lv_iconst (v := 0) hx hb dX1_testHolds_109 (by decide) ?_
    exact w_X1_testHolds_b110 hs k7 hk7 i1 i4 0 M h H locs ls hR hS (lv_sub hl [1, 2, 4] rfl)
  · have h := mif_n h c97
    refine lv_iload hx hb dX1_testHolds_100 (lv_at hl 0 rfl) ?_
    refine lv_if_eq (tgt := 109) hx hb dX1_testHolds_102 (by decide) (fun c102 => ?_) (fun c102 => ?_)
    · have h := mif_y h c102
      refine lv_iconst (v := 0) hx hb dX1_testHolds_109 (by decide) ?_
      exact w_X1_testHolds_b110 hs k7 hk7 i1 i4 0 M h H locs ls hR hS (lv_sub hl [1, 2, 4] rfl)
    · have h := mif_n h c102
      refine lv_iconst (v := 1) hx hb dX1_testHolds_105 (by decide) ?_
      refine lv_goto (tgt := 110) hx hb dX1_testHolds_106 (by decide) ?_
      exact w_X1_testHolds_b110 hs k7 hk7 i1 i4 1 M h H locs ls hR hS (lv_sub hl [1, 2, 4] rfl)
set_option maxRecDepth 100000 in
set_option maxHeartbeats 4000000 in
theorem w_X1_testHolds_b7 {l : Launch} {X : mX} {p : Program} {e : Env} {s : State} {m : MethodId} {args : Array Value} {below : List Frame} {meth : Method} {c : Code} {r : Int32 × mM} (hs : mS X RX1 cX1_testHolds 9 (some .boolean) p s m meth c) : ∀ n : Nat, ∀ (i1 : Int32) (i2 : Int32) (i3 : Int32) (i4 : Int32) (M : mM), f_X1_testHolds_b7 n i1 i2 i3 i4 M = some r → mG X p l e (rmF 4 90) s m args below meth c (MQ below (mQi X r.2 r.1) args s 0 0 (mL X)) 9 7 [(0, .ref (X.1 76)), (1, .int i1), (2, .int i2), (3, .int i3), (4, .int i4)] [] M := by
  obtain ⟨hx, hb, hml, hown, hF, hlk, hr⟩ := id hs
  intro n
  induction n with
  | zero =>
    intro i1 i2 i3 i4 M h
    have h0 : (none : Option (Int32 × mM)) = some r := h
    cases h0
  | succ n ih =>
    intro i1 i2 i3 i4 M h H locs ls hR hS hl
    refine lv_iload hx hb dX1_testHolds_7 (lv_at hl 4 rfl) ?_
    refine lv_bipush (v := 90) hx hb dX1_testHolds_9 (by decide) ?_
    refine lv_icmp_ge (tgt := 132) hx hb dX1_testHolds_11 (by decide) (fun c11 => ?_) (fun c11 => ?_)
    · have h := mif_y h c11
      refine lv_iload_n hx hb dX1_testHolds_132 rfl (lv_at hl 2 rfl) ?_
      obtain ⟨g133, h⟩ := mgd_e h
      exact m_zr hx hb hlk hr hR hS g133 (Option.some.inj h).symm dX1_testHolds_133
    · have h := mif_n h c11
      refine lv_iload_n hx hb dX1_testHolds_14 rfl (lv_at hl 3 rfl) ?_
      refine lv_if_eq (tgt := 132) hx hb dX1_testHolds_15 (by decide) (fun c15 => ?_) (fun c15 => ?_)
      · have h := mif_y h c15
        refine lv_iload_n hx hb dX1_testHolds_132 rfl (lv_at hl 2 rfl) ?_
        obtain ⟨g133, h⟩ := mgd_e h
        exact m_zr hx hb hlk hr hR hS g133 (Option.some.inj h).symm dX1_testHolds_133
      · have h := mif_n h c15
        refine lv_aload_n hx hb dX1_testHolds_18 rfl (lv_at hl 0 rfl) ?_
        refine lv_iload_n hx hb dX1_testHolds_19 rfl (lv_at hl 1 rfl) ?_
        obtain ⟨v20, M20, q20, h⟩ := mbw_e h
        refine m_ci (m_rV hx hb hml hown hF hR hS (ent1 kd_76) kd_76 rfl (c_X1_addUp l X i1 M q20) q_X1_67_V hdV_X1_addUp ⟨Nat.le_of_ble_eq_true rfl, Nat.le_of_ble_eq_true rfl⟩ rfl hl.1 rfl (Nat.le_of_ble_eq_true rfl) dX1_testHolds_20) hS (fun H locs hR hS => ?_)
        refine lv_istore (lv' := [(5, .int v20), (0, .ref (X.1 76)), (1, .int i1), (2, .int i2), (3, .int i3), (4, .int i4)]) hx hb dX1_testHolds_23 hl (by decide) rfl (fun ls hl => ?_)
        refine lv_aload_n hx hb dX1_testHolds_25 rfl (lv_at hl 1 rfl) ?_
        obtain ⟨v26, M26, q26, h⟩ := mbw_e h
        refine m_ci (m_rU hx hb hml hown hF hR hS (ent1 kd_76) kd_76 rfl (c_X7_take l X 76 isReader_76 M20 q26) q_X1_63_UX1 rfl hdU_X7_take ⟨Nat.le_of_ble_eq_true rfl, Nat.le_of_ble_eq_true rfl⟩ rfl hl.1 rfl (Nat.le_of_ble_eq_true rfl) dX1_testHolds_26) hS (fun H locs hR hS => ?_)
        refine lv_istore (lv' := [(6, .int v26), (5, .int v20), (0, .ref (X.1 76)), (1, .int i1), (2, .int i2), (3, .int i3), (4, .int i4)]) hx hb dX1_testHolds_29 hl (by decide) rfl (fun ls hl => ?_)
        refine lv_aload_n hx hb dX1_testHolds_31 rfl (lv_at hl 2 rfl) ?_
        refine lv_iload_n hx hb dX1_testHolds_32 rfl (lv_at hl 3 rfl) ?_
        obtain ⟨v33, M33, q33, h⟩ := mbw_e h
        refine m_ci (m_rV hx hb hml hown hF hR hS (ent1 kd_76) kd_76 rfl (c_X1_addUp l X i1 M26 q33) q_X1_67_V hdV_X1_addUp ⟨Nat.le_of_ble_eq_true rfl, Nat.le_of_ble_eq_true rfl⟩ rfl hl.1 rfl (Nat.le_of_ble_eq_true rfl) dX1_testHolds_33) hS (fun H locs hR hS => ?_)
        refine lv_istore (lv' := [(7, .int v33), (6, .int v26), (5, .int v20), (0, .ref (X.1 76)), (1, .int i1), (2, .int i2), (3, .int i3), (4, .int i4)]) hx hb dX1_testHolds_36 hl (by decide) rfl (fun ls hl => ?_)
        refine lv_iload hx hb dX1_testHolds_38 (lv_at hl 1 rfl) ?_
        refine lv_bipush (v := 60) hx hb dX1_testHolds_40 (by decide) ?_
        refine lv_icmp_ne (tgt := 60) hx hb dX1_testHolds_42 (by decide) (fun c42 => ?_) (fun c42 => ?_)
        · have h := mif_n h c42
          refine lv_iload hx hb dX1_testHolds_60 (lv_at hl 1 rfl) ?_
          refine lv_bipush (v := 62) hx hb dX1_testHolds_62 (by decide) ?_
          refine lv_icmp_ne (tgt := 82) hx hb dX1_testHolds_64 (by decide) (fun c64 => ?_) (fun c64 => ?_)
          · have h := mif_n h c64
            refine lv_iload hx hb dX1_testHolds_82 (lv_at hl 2 rfl) ?_
            refine lv_iload hx hb dX1_testHolds_84 (lv_at hl 0 rfl) ?_
            refine lv_icmp_ne (tgt := 93) hx hb dX1_testHolds_86 (by decide) (fun c86 => ?_) (fun c86 => ?_)
            · have h := mif_n h c86
              refine lv_iconst (v := 0) hx hb dX1_testHolds_93 (by decide) ?_
              exact w_X1_testHolds_b94 hs (f_X1_testHolds_b7 n) ih i1 i2 i4 0 M33 h H locs ls hR hS (lv_sub hl [3, 4, 5, 7] rfl)
            · have h := mif_y h c86
              refine lv_iconst (v := 1) hx hb dX1_testHolds_89 (by decide) ?_
              refine lv_goto (tgt := 94) hx hb dX1_testHolds_90 (by decide) ?_
              exact w_X1_testHolds_b94 hs (f_X1_testHolds_b7 n) ih i1 i2 i4 1 M33 h H locs ls hR hS (lv_sub hl [3, 4, 5, 7] rfl)
          · have h := mif_y h c64
            refine lv_iload hx hb dX1_testHolds_67 (lv_at hl 2 rfl) ?_
            refine lv_iload hx hb dX1_testHolds_69 (lv_at hl 0 rfl) ?_
            refine lv_icmp_le (tgt := 78) hx hb dX1_testHolds_71 (by decide) (fun c71 => ?_) (fun c71 => ?_)
            · have h := mif_y h c71
              refine lv_iconst (v := 0) hx hb dX1_testHolds_78 (by decide) ?_
              refine lv_goto (tgt := 94) hx hb dX1_testHolds_79 (by decide) ?_
              exact w_X1_testHolds_b94 hs (f_X1_testHolds_b7 n) ih i1 i2 i4 0 M33 h H locs ls hR hS (lv_sub hl [3, 4, 5, 7] rfl)
            · have h := mif_n h c71
              refine lv_iconst (v := 1) hx hb dX1_testHolds_74 (by decide) ?_
              refine lv_goto (tgt := 94) hx hb dX1_testHolds_75 (by decide) ?_
              exact w_X1_testHolds_b94 hs (f_X1_testHolds_b7 n) ih i1 i2 i4 1 M33 h H locs ls hR hS (lv_sub hl [3, 4, 5, 7] rfl)
        · have h := mif_y h c42
          refine lv_iload hx hb dX1_testHolds_45 (lv_at hl 2 rfl) ?_
          refine lv_iload hx hb dX1_testHolds_47 (lv_at hl 0 rfl) ?_
          refine lv_icmp_ge (tgt := 56) hx hb dX1_testHolds_49 (by decide) (fun c49 => ?_) (fun c49 => ?_)
          · have h := mif_y h c49
            refine lv_iconst (v := 0) hx hb dX1_testHolds_56 (by decide) ?_
            refine lv_goto (tgt := 94) hx hb dX1_testHolds_57 (by decide) ?_
            exact w_X1_testHolds_b94 hs (f_X1_testHolds_b7 n) ih i1 i2 i4 0 M33 h H locs ls hR hS (lv_sub hl [3, 4, 5, 7] rfl)
          · have h := mif_n h c49
            refine lv_iconst (v := 1) hx hb dX1_testHolds_52 (by decide) ?_
            refine lv_goto (tgt := 94) hx hb dX1_testHolds_53 (by decide) ?_
            exact w_X1_testHolds_b94 hs (f_X1_testHolds_b7 n) ih i1 i2 i4 1 M33 h H locs ls hR hS (lv_sub hl [3, 4, 5, 7] rfl)
set_option maxRecDepth 100000 in
set_option maxHeartbeats 4000000 in
theorem w_X1_testHolds {l : Launch} {X : mX} {p : Program} {e : Env} {s : State} {m : MethodId} {args : Array Value} {below : List Frame} {meth : Method} {c : Code} {r : Int32 × mM} (hs : mS X RX1 cX1_testHolds 9 (some .boolean) p s m meth c) : ∀ (i1 : Int32) (M : mM), f_X1_testHolds i1 M = some r → mG X p l e (rmF 4 90) s m args below meth c (MQ below (mQi X r.2 r.1) args s 0 0 (mL X)) 9 0 [(0, .ref (X.1 76)), (1, .int i1)] [] M := by
  obtain ⟨hx, hb, hml, hown, hF, hlk, hr⟩ := id hs
  intro i1 M h H locs ls hR hS hl
  refine lv_iconst (v := 1) hx hb dX1_testHolds_0 (by decide) ?_
  refine lv_istore_n (lv' := [(2, .int 1), (0, .ref (X.1 76)), (1, .int i1)]) hx hb dX1_testHolds_1 rfl hl (by decide) rfl (fun ls hl => ?_)
  refine lv_iconst (v := 1) hx hb dX1_testHolds_2 (by decide) ?_
  refine lv_istore_n (lv' := [(3, .int 1), (2, .int 1), (0, .ref (X.1 76)), (1, .int i1)]) hx hb dX1_testHolds_3 rfl hl (by decide) rfl (fun ls hl => ?_)
  refine lv_iconst (v := 0) hx hb dX1_testHolds_4 (by decide) ?_
  refine lv_istore (lv' := [(4, .int 0), (3, .int 1), (2, .int 1), (0, .ref (X.1 76)), (1, .int i1)]) hx hb dX1_testHolds_5 hl (by decide) rfl (fun ls hl => ?_)
  exact w_X1_testHolds_b7 hs mN i1 1 1 0 M h H locs ls hR hS (lv_sub hl [3, 4, 2, 1, 0] rfl)
theorem c_X1_testHolds (l : Launch) (X : mX) (i1 : Int32) (M : mM) {r : Int32 × mM} (h : f_X1_testHolds i1 M = some r) : mMi l yX1_testHolds cX1_testHolds 9 (some .boolean) 4 90 X [.ref (X.1 76), .int i1] M r := m_ofi (by decide +kernel) (Nat.le_of_ble_eq_true rfl) rfl (fun p e s m args below meth c hs => w_X1_testHolds hs i1 M h)
set_option maxRecDepth 100000 in
set_option maxHeartbeats 4000000 in
theorem w_X1_passRule_b4 {l : Launch} {X : mX} {p : Program} {e : Env} {s : State} {m : MethodId} {args : Array Value} {below : List Frame} {meth : Method} {c : Code} {r : mM} (hs : mS X RX1 cX1_passRule 3 none p s m meth c) : ∀ n : Nat, ∀ (i1 : Int32) (i2 : Int32) (M : mM), f_X1_passRule_b4 n i1 i2 M = some r → mG X p l e (rmF 2 41) s m args below meth c (MQ below (mQv X r) args s 0 0 (mL X)) 3 4 [(0, .ref (X.1 76)), (1, .int i1), (2, .int i2)] [] M := by
  obtain ⟨hx, hb, hml, hown, hF, hlk, hr⟩ := id hs
  intro n
  induction n with
  | zero =>
    intro i1 i2 M h
    have h0 : (none : Option (mM)) = some r := h
    cases h0
  | succ n ih =>
    intro i1 i2 M h H locs ls hR hS hl
    refine lv_iload_n hx hb dX1_passRule_4 rfl (lv_at hl 2 rfl) ?_
    refine lv_bipush (v := 90) hx hb dX1_passRule_5 (by decide) ?_
    refine lv_icmp_ge (tgt := 42) hx hb dX1_passRule_7 (by decide) (fun c7 => ?_) (fun c7 => ?_)
    · have h := mif_y h c7
      exact m_vr hx hb hlk hr hR hS (Option.some.inj h).symm dX1_passRule_42
    · have h := mif_n h c7
      refine lv_iload_n hx hb dX1_passRule_10 rfl (lv_at hl 1 rfl) ?_
      refine lv_if_eq (tgt := 42) hx hb dX1_passRule_11 (by decide) (fun c11 => ?_) (fun c11 => ?_)
      · have h := mif_y h c11
        exact m_vr hx hb hlk hr hR hS (Option.some.inj h).symm dX1_passRule_42
      · have h := mif_n h c11
        refine lv_aload_n hx hb dX1_passRule_14 rfl (lv_at hl 0 rfl) ?_
        refine m_ci (m_rU hx hb hml hown hF hR hS (ent1 kd_76) kd_76 rfl (c_X7_atEnd l X 76 isReader_76 M) q_X1_53_UX1 rfl hdU_X7_atEnd ⟨Nat.le_of_ble_eq_true rfl, Nat.le_of_ble_eq_true rfl⟩ rfl hl.1 rfl (Nat.le_of_ble_eq_true rfl) dX1_passRule_15) hS (fun H locs hR hS => ?_)
        refine lv_if_ne (tgt := 42) hx hb dX1_passRule_18 (by decide) (fun c18 => ?_) (fun c18 => ?_)
        · have h := mif_n h c18
          exact m_vr hx hb hlk hr hR hS (Option.some.inj h).symm dX1_passRule_42
        · have h := mif_y h c18
          refine lv_aload_n hx hb dX1_passRule_21 rfl (lv_at hl 0 rfl) ?_
          obtain ⟨v22, M22, q22, h⟩ := mbw_e h
          refine m_ci (m_rU hx hb hml hown hF hR hS (ent1 kd_76) kd_76 rfl (c_X7_take l X 76 isReader_76 M q22) q_X1_63_UX1 rfl hdU_X7_take ⟨Nat.le_of_ble_eq_true rfl, Nat.le_of_ble_eq_true rfl⟩ rfl hl.1 rfl (Nat.le_of_ble_eq_true rfl) dX1_passRule_22) hS (fun H locs hR hS => ?_)
          refine lv_bipush (v := 59) hx hb dX1_passRule_25 (by decide) ?_
          refine lv_icmp_eq (tgt := 34) hx hb dX1_passRule_27 (by decide) (fun c27 => ?_) (fun c27 => ?_)
          · have h := mif_y h c27
            refine lv_iconst (v := 0) hx hb dX1_passRule_34 (by decide) ?_
            refine lv_istore_n (lv' := [(1, .int 0), (0, .ref (X.1 76)), (2, .int i2)]) hx hb dX1_passRule_35 rfl hl (by decide) rfl (fun ls hl => ?_)
            obtain ⟨x36, ex36⟩ : ∃ y : Int32, y = (i2 + 1) := ⟨_, rfl⟩
            have h := mlt_n h x36 ex36
            refine lv_iinc (v := x36) (lv' := [(2, .int x36), (1, .int 0), (0, .ref (X.1 76))]) hx hb dX1_passRule_36 hl (k := 2) rfl (by rw [ex36]; rfl) (by decide) rfl (fun ls hl => ?_)
            refine lv_goto (tgt := 4) hx hb dX1_passRule_39 (by decide) ?_
            exact ih 0 x36 M22 h H locs ls hR hS (lv_sub hl [2, 1, 0] rfl)
          · have h := mif_n h c27
            refine lv_iconst (v := 1) hx hb dX1_passRule_30 (by decide) ?_
            refine lv_goto (tgt := 35) hx hb dX1_passRule_31 (by decide) ?_
            refine lv_istore_n (lv' := [(1, .int 1), (0, .ref (X.1 76)), (2, .int i2)]) hx hb dX1_passRule_35 rfl hl (by decide) rfl (fun ls hl => ?_)
            obtain ⟨x36, ex36⟩ : ∃ y : Int32, y = (i2 + 1) := ⟨_, rfl⟩
            have h := mlt_n h x36 ex36
            refine lv_iinc (v := x36) (lv' := [(2, .int x36), (1, .int 1), (0, .ref (X.1 76))]) hx hb dX1_passRule_36 hl (k := 2) rfl (by rw [ex36]; rfl) (by decide) rfl (fun ls hl => ?_)
            refine lv_goto (tgt := 4) hx hb dX1_passRule_39 (by decide) ?_
            exact ih 1 x36 M22 h H locs ls hR hS (lv_sub hl [2, 1, 0] rfl)
set_option maxRecDepth 100000 in
set_option maxHeartbeats 4000000 in
theorem w_X1_passRule {l : Launch} {X : mX} {p : Program} {e : Env} {s : State} {m : MethodId} {args : Array Value} {below : List Frame} {meth : Method} {c : Code} {r : mM} (hs : mS X RX1 cX1_passRule 3 none p s m meth c) : ∀  (M : mM), f_X1_passRule  M = some r → mG X p l e (rmF 2 41) s m args below meth c (MQ below (mQv X r) args s 0 0 (mL X)) 3 0 [(0, .ref (X.1 76))] [] M := by
  obtain ⟨hx, hb, hml, hown, hF, hlk, hr⟩ := id hs
  intro M h H locs ls hR hS hl
  refine lv_iconst (v := 1) hx hb dX1_passRule_0 (by decide) ?_
  refine lv_istore_n (lv' := [(1, .int 1), (0, .ref (X.1 76))]) hx hb dX1_passRule_1 rfl hl (by decide) rfl (fun ls hl => ?_)
  refine lv_iconst (v := 0) hx hb dX1_passRule_2 (by decide) ?_
  refine lv_istore_n (lv' := [(2, .int 0), (1, .int 1), (0, .ref (X.1 76))]) hx hb dX1_passRule_3 rfl hl (by decide) rfl (fun ls hl => ?_)
  exact w_X1_passRule_b4 hs mN 1 0 M h H locs ls hR hS (lv_sub hl [2, 1, 0] rfl)
theorem c_X1_passRule (l : Launch) (X : mX) (M : mM) {r : mM} (h : f_X1_passRule M = some r) : mMv l yX1_passRule cX1_passRule 3 2 41 X [.ref (X.1 76)] M r := m_ofv (by decide +kernel) (Nat.le_of_ble_eq_true rfl) rfl (fun p e s m args below meth c hs => w_X1_passRule hs M h)
set_option maxRecDepth 100000 in
set_option maxHeartbeats 4000000 in
theorem w_X1_chooseRule_b34 {l : Launch} {X : mX} {p : Program} {e : Env} {s : State} {m : MethodId} {args : Array Value} {below : List Frame} {meth : Method} {c : Code} {r : Int32 × mM} (hs : mS X RX1 cX1_chooseRule 4 (some .int) p s m meth c) : ∀ n : Nat, ∀ (i1 : Int32) (i3 : Int32) (M : mM), f_X1_chooseRule_b34 n i1 i3 M = some r → mG X p l e (rmF 5 118) s m args below meth c (MQ below (mQi X r.2 r.1) args s 0 0 (mL X)) 4 34 [(0, .ref (X.1 76)), (1, .int i1), (3, .int i3)] [] M := by
  obtain ⟨hx, hb, hml, hown, hF, hlk, hr⟩ := id hs
  intro n
  induction n with
  | zero =>
    intro i1 i3 M h
    have h0 : (none : Option (Int32 × mM)) = some r := h
    cases h0
  | succ n ih =>
    intro i1 i3 M h H locs ls hR hS hl
    refine lv_iload_n hx hb dX1_chooseRule_34 rfl (lv_at hl 2 rfl) ?_
    refine lv_bipush (v := 6) hx hb dX1_chooseRule_35 (by decide) ?_
    refine lv_icmp_ge (tgt := 67) hx hb dX1_chooseRule_37 (by decide) (fun c37 => ?_) (fun c37 => ?_)
    · have h := mif_y h c37
      refine lv_bipush (v := (-4)) hx hb dX1_chooseRule_67 (by decide) ?_
      exact m_ir hx hb hlk hr hR hS (Option.some.inj h).symm dX1_chooseRule_69
    · have h := mif_n h c37
      refine lv_aload_n hx hb dX1_chooseRule_40 rfl (lv_at hl 0 rfl) ?_
      refine m_ci (m_rU hx hb hml hown hF hR hS (ent1 kd_76) kd_76 rfl (c_X7_atEnd l X 76 isReader_76 M) q_X1_53_UX1 rfl hdU_X7_atEnd ⟨Nat.le_of_ble_eq_true rfl, Nat.le_of_ble_eq_true rfl⟩ rfl hl.1 rfl (Nat.le_of_ble_eq_true rfl) dX1_chooseRule_41) hS (fun H locs hR hS => ?_)
      refine lv_if_ne (tgt := 67) hx hb dX1_chooseRule_44 (by decide) (fun c44 => ?_) (fun c44 => ?_)
      · have h := mif_n h c44
        refine lv_bipush (v := (-4)) hx hb dX1_chooseRule_67 (by decide) ?_
        exact m_ir hx hb hlk hr hR hS (Option.some.inj h).symm dX1_chooseRule_69
      · have h := mif_y h c44
        refine lv_aload_n hx hb dX1_chooseRule_47 rfl (lv_at hl 0 rfl) ?_
        refine lv_iload_n hx hb dX1_chooseRule_48 rfl (lv_at hl 1 rfl) ?_
        obtain ⟨v49, M49, q49, h⟩ := mbw_e h
        refine m_ci (m_rV hx hb hml hown hF hR hS (ent1 kd_76) kd_76 rfl (c_X1_testHolds l X i1 M q49) q_X1_57_V hdV_X1_testHolds ⟨Nat.le_of_ble_eq_true rfl, Nat.le_of_ble_eq_true rfl⟩ rfl hl.1 rfl (Nat.le_of_ble_eq_true rfl) dX1_chooseRule_49) hS (fun H locs hR hS => ?_)
        refine lv_if_eq (tgt := 57) hx hb dX1_chooseRule_52 (by decide) (fun c52 => ?_) (fun c52 => ?_)
        · have h := mif_y h c52
          refine lv_aload_n hx hb dX1_chooseRule_57 rfl (lv_at hl 0 rfl) ?_
          obtain ⟨M58, q58, h⟩ := mbp_e h
          refine m_cv (m_rV hx hb hml hown hF hR hS (ent1 kd_76) kd_76 rfl (c_X1_passRule l X M49 q58) q_X1_60_V hdV_X1_passRule ⟨Nat.le_of_ble_eq_true rfl, Nat.le_of_ble_eq_true rfl⟩ rfl hl.1 rfl (Nat.le_of_ble_eq_true rfl) dX1_chooseRule_58) hS (fun H locs hR hS => ?_)
          obtain ⟨x61, ex61⟩ : ∃ y : Int32, y = (i3 + 1) := ⟨_, rfl⟩
          have h := mlt_n h x61 ex61
          refine lv_iinc (v := x61) (lv' := [(3, .int x61), (0, .ref (X.1 76)), (1, .int i1)]) hx hb dX1_chooseRule_61 hl (k := 2) rfl (by rw [ex61]; rfl) (by decide) rfl (fun ls hl => ?_)
          refine lv_goto (tgt := 34) hx hb dX1_chooseRule_64 (by decide) ?_
          exact ih i1 x61 M58 h H locs ls hR hS (lv_sub hl [1, 2, 0] rfl)
        · have h := mif_n h c52
          refine lv_iload_n hx hb dX1_chooseRule_55 rfl (lv_at hl 2 rfl) ?_
          exact m_ir hx hb hlk hr hR hS (Option.some.inj h).symm dX1_chooseRule_56
set_option maxRecDepth 100000 in
set_option maxHeartbeats 4000000 in
theorem w_X1_chooseRule {l : Launch} {X : mX} {p : Program} {e : Env} {s : State} {m : MethodId} {args : Array Value} {below : List Frame} {meth : Method} {c : Code} {r : Int32 × mM} (hs : mS X RX1 cX1_chooseRule 4 (some .int) p s m meth c) : ∀ (i1 : Int32) (M : mM), f_X1_chooseRule i1 M = some r → mG X p l e (rmF 5 118) s m args below meth c (MQ below (mQi X r.2 r.1) args s 0 0 (mL X)) 4 0 [(0, .ref (X.1 76)), (1, .int i1)] [] M := by
  obtain ⟨hx, hb, hml, hown, hF, hlk, hr⟩ := id hs
  intro i1 M h H locs ls hR hS hl
  refine lv_aload_n hx hb dX1_chooseRule_0 rfl (lv_at hl 0 rfl) ?_
  refine m_g1_4 hx hb hF hown hR kd_76 mw_1_203 dX1_chooseRule_1 ?_
  refine m_g7_5 hx hb hF hown hR kd_1 mw_1_132 dX1_chooseRule_4 ?_
  refine lv_iload_n hx hb dX1_chooseRule_7 rfl (lv_at hl 1 rfl) ?_
  obtain ⟨g8, h⟩ := mgd_e h
  refine m_ialdL hx hb hR kd_13 g8 (jn := (Int32.toNatClampNeg i1)) rfl dX1_chooseRule_8 ?_
  refine lv_topi (fun x9 ex9 => ?_)
  have h := mlt_n h x9 ex9
  refine lv_istore_n (lv' := [(2, .int x9), (0, .ref (X.1 76)), (1, .int i1)]) hx hb dX1_chooseRule_9 rfl hl (by decide) rfl (fun ls hl => ?_)
  refine lv_aload_n hx hb dX1_chooseRule_10 rfl (lv_at hl 1 rfl) ?_
  refine lv_aload_n hx hb dX1_chooseRule_11 rfl (lv_at hl 1 rfl) ?_
  refine m_g1_4 hx hb hF hown hR kd_76 mw_1_203 dX1_chooseRule_12 ?_
  refine m_g7_9 hx hb hF hown hR kd_1 mw_1_140 dX1_chooseRule_15 ?_
  refine lv_iload_n hx hb dX1_chooseRule_18 rfl (lv_at hl 0 rfl) ?_
  obtain ⟨g19, h⟩ := mgd_e h
  refine m_pald hx hb hR kd_15 g19 dX1_chooseRule_19 ?_
  refine lv_topc (fun t19 et19 => ?_)
  have h := mlt_n h t19 et19
  have h_t19 : isRow t19 := by rw [et19]; exact kWorldP isWorld_1 (vp_lt g19)
  refine lv_aload_n hx hb dX1_chooseRule_20 rfl (lv_at hl 1 rfl) ?_
  refine m_g1_4 hx hb hF hown hR kd_76 mw_1_203 dX1_chooseRule_21 ?_
  refine m_g7_10 hx hb hF hown hR kd_1 mw_1_142 dX1_chooseRule_24 ?_
  refine lv_iload_n hx hb dX1_chooseRule_27 rfl (lv_at hl 0 rfl) ?_
  obtain ⟨g28, h⟩ := mgd_e h
  refine m_ialdL hx hb hR kd_24 g28 (jn := (Int32.toNatClampNeg x9)) rfl dX1_chooseRule_28 ?_
  obtain ⟨M29, q29, h⟩ := mbp_e h
  refine m_cv (m_rU hx hb hml hown hF hR hS (ent1 kd_76) kd_76 rfl (c_X7_open l X 76 t19 (M.1 24 (Int32.toNatClampNeg x9)) isReader_76 h_t19 M q29) q_X1_49_UX1 rfl hdU_X7_open ⟨Nat.le_of_ble_eq_true rfl, Nat.le_of_ble_eq_true rfl⟩ rfl hl.1 rfl (Nat.le_of_ble_eq_true rfl) dX1_chooseRule_29) hS (fun H locs hR hS => ?_)
  refine lv_iconst (v := 0) hx hb dX1_chooseRule_32 (by decide) ?_
  refine lv_istore_n (lv' := [(3, .int 0), (2, .int x9), (0, .ref (X.1 76)), (1, .int i1)]) hx hb dX1_chooseRule_33 rfl hl (by decide) rfl (fun ls hl => ?_)
  exact w_X1_chooseRule_b34 hs mN i1 0 M29 h H locs ls hR hS (lv_sub hl [2, 3, 0] rfl)
theorem c_X1_chooseRule (l : Launch) (X : mX) (i1 : Int32) (M : mM) {r : Int32 × mM} (h : f_X1_chooseRule i1 M = some r) : mMi l yX1_chooseRule cX1_chooseRule 4 (some .int) 5 118 X [.ref (X.1 76), .int i1] M r := m_ofi (by decide +kernel) (Nat.le_of_ble_eq_true rfl) rfl (fun p e s m args below meth c hs => w_X1_chooseRule hs i1 M h)
set_option maxRecDepth 100000 in
set_option maxHeartbeats 4000000 in
theorem w_X9_rule {l : Launch} {X : mX} {p : Program} {e : Env} {s : State} {m : MethodId} {args : Array Value} {below : List Frame} {meth : Method} {c : Code} {r : Int32 × mM} (hs : mS X RX9 cX9_rule 2 (some .int) p s m meth c) : ∀ (i1 : Int32) (M : mM), f_X9_rule i1 M = some r → mG X p l e (rmF 6 141) s m args below meth c (MQ below (mQi X r.2 r.1) args s 0 0 (mL X)) 2 0 [(0, .ref (X.1 0)), (1, .int i1)] [] M := by
  obtain ⟨hx, hb, hml, hown, hF, hlk, hr⟩ := id hs
  intro i1 M h H locs ls hR hS hl
  refine lv_aload_n hx hb dX9_rule_0 rfl (lv_at hl 0 rfl) ?_
  refine m_g8_0 hx hb hF hown hR kd_0 mw_2_42 dX9_rule_1 ?_
  refine m_g7_0 hx hb hF hown hR kd_1 mw_1_118 dX9_rule_4 ?_
  refine lv_iload_n hx hb dX9_rule_7 rfl (lv_at hl 1 rfl) ?_
  refine m_ci (m_rV hx hb hml hown hF hR hS (ent0 kd_2) kd_2 rfl (c_X0_has l X 2 i1 isBody_2 M) q_X9_91_V hdV_X0_has ⟨Nat.le_of_ble_eq_true rfl, Nat.le_of_ble_eq_true rfl⟩ rfl hl.1 rfl (Nat.le_of_ble_eq_true rfl) dX9_rule_8) hS (fun H locs hR hS => ?_)
  refine lv_if_ne (tgt := 16) hx hb dX9_rule_11 (by decide) (fun c11 => ?_) (fun c11 => ?_)
  · have h := mif_n h c11
    refine lv_aload_n hx hb dX9_rule_16 rfl (lv_at hl 0 rfl) ?_
    refine m_g8_0 hx hb hF hown hR kd_0 mw_2_42 dX9_rule_17 ?_
    refine lv_iload_n hx hb dX9_rule_20 rfl (lv_at hl 1 rfl) ?_
    obtain ⟨v21, q21, h⟩ := mbp_e h
    refine m_ci (m_rV hx hb hml hown hF hR hS (ent7 kd_1) kd_1 rfl (c_X8_isRunning l X 1 i1 isWorld_1 M q21) q_X9_235_V hdV_X8_isRunning ⟨Nat.le_of_ble_eq_true rfl, Nat.le_of_ble_eq_true rfl⟩ rfl hl.1 rfl (Nat.le_of_ble_eq_true rfl) dX9_rule_21) hS (fun H locs hR hS => ?_)
    refine lv_if_ne (tgt := 30) hx hb dX9_rule_24 (by decide) (fun c24 => ?_) (fun c24 => ?_)
    · have h := mif_n h c24
      refine lv_aload_n hx hb dX9_rule_30 rfl (lv_at hl 0 rfl) ?_
      refine m_g8_5 hx hb hF hown hR kd_0 mw_2_47 dX9_rule_31 ?_
      refine lv_iload_n hx hb dX9_rule_34 rfl (lv_at hl 1 rfl) ?_
      obtain ⟨v35, M35, q35, h⟩ := mbw_e h
      refine m_ci (m_rV hx hb hml hown hF hR hS (ent1 kd_76) kd_76 rfl (c_X1_chooseRule l X i1 M q35) q_X9_238_V hdV_X1_chooseRule ⟨Nat.le_of_ble_eq_true rfl, Nat.le_of_ble_eq_true rfl⟩ rfl hl.1 rfl (Nat.le_of_ble_eq_true rfl) dX9_rule_35) hS (fun H locs hR hS => ?_)
      exact m_ir hx hb hlk hr hR hS (Option.some.inj h).symm dX9_rule_38
    · have h := mif_y h c24
      refine lv_bipush (v := (-3)) hx hb dX9_rule_27 (by decide) ?_
      exact m_ir hx hb hlk hr hR hS (Option.some.inj h).symm dX9_rule_29
  · have h := mif_y h c11
    refine lv_iconst (v := (-1)) hx hb dX9_rule_14 (by decide) ?_
    exact m_ir hx hb hlk hr hR hS (Option.some.inj h).symm dX9_rule_15
theorem c_X9_rule (l : Launch) (X : mX) (i1 : Int32) (M : mM) {r : Int32 × mM} (h : f_X9_rule i1 M = some r) : mMi l yX9_rule cX9_rule 2 (some .int) 6 141 X [.ref (X.1 0), .int i1] M r := m_ofi (by decide +kernel) (Nat.le_of_ble_eq_true rfl) rfl (fun p e s m args below meth c hs => w_X9_rule hs i1 M h)
set_option maxRecDepth 100000 in
set_option maxHeartbeats 4000000 in
theorem w_X1_goIfItCan {l : Launch} {X : mX} {p : Program} {e : Env} {s : State} {m : MethodId} {args : Array Value} {below : List Frame} {meth : Method} {c : Code} {r : Int32 × mM} (hs : mS X RX1 cX1_goIfItCan 3 (some .int) p s m meth c) : ∀ (i1 : Int32) (i2 : Int32) (M : mM), f_X1_goIfItCan i1 i2 M = some r → mG X p l e (rmF 4 92) s m args below meth c (MQ below (mQi X r.2 r.1) args s 0 0 (mL X)) 3 0 [(0, .ref (X.1 76)), (1, .int i1), (2, .int i2)] [] M := by
  obtain ⟨hx, hb, hml, hown, hF, hlk, hr⟩ := id hs
  intro i1 i2 M h H locs ls hR hS hl
  refine lv_iload_n hx hb dX1_goIfItCan_0 rfl (lv_at hl 2 rfl) ?_
  refine lv_if_lt (tgt := 25) hx hb dX1_goIfItCan_1 (by decide) (fun c1 => ?_) (fun c1 => ?_)
  · have h := mif_y h c1
    refine lv_iconst (v := 0) hx hb dX1_goIfItCan_25 (by decide) ?_
    exact m_ir hx hb hlk hr hR hS (Option.some.inj h).symm dX1_goIfItCan_26
  · have h := mif_n h c1
    refine lv_iload_n hx hb dX1_goIfItCan_4 rfl (lv_at hl 2 rfl) ?_
    refine lv_bipush (v := 8) hx hb dX1_goIfItCan_5 (by decide) ?_
    refine lv_icmp_ge (tgt := 25) hx hb dX1_goIfItCan_7 (by decide) (fun c7 => ?_) (fun c7 => ?_)
    · have h := mif_y h c7
      refine lv_iconst (v := 0) hx hb dX1_goIfItCan_25 (by decide) ?_
      exact m_ir hx hb hlk hr hR hS (Option.some.inj h).symm dX1_goIfItCan_26
    · have h := mif_n h c7
      refine lv_aload_n hx hb dX1_goIfItCan_10 rfl (lv_at hl 0 rfl) ?_
      refine m_g1_4 hx hb hF hown hR kd_76 mw_1_203 dX1_goIfItCan_11 ?_
      refine m_g7_0 hx hb hF hown hR kd_1 mw_1_117 dX1_goIfItCan_14 ?_
      refine lv_iload_n hx hb dX1_goIfItCan_17 rfl (lv_at hl 1 rfl) ?_
      refine lv_iload_n hx hb dX1_goIfItCan_18 rfl (lv_at hl 2 rfl) ?_
      obtain ⟨v19, M19, q19, h⟩ := mbw_e h
      refine m_ci (m_rV hx hb hml hown hF hR hS (ent0 kd_2) kd_2 rfl (c_X0_mayGo l X 2 i1 i2 isBody_2 M q19) q_X1_122_V hdV_X0_mayGo ⟨Nat.le_of_ble_eq_true rfl, Nat.le_of_ble_eq_true rfl⟩ rfl hl.1 rfl (Nat.le_of_ble_eq_true rfl) dX1_goIfItCan_19) hS (fun H locs hR hS => ?_)
      refine lv_if_ne (tgt := 27) hx hb dX1_goIfItCan_22 (by decide) (fun c22 => ?_) (fun c22 => ?_)
      · have h := mif_n h c22
        refine lv_aload_n hx hb dX1_goIfItCan_27 rfl (lv_at hl 0 rfl) ?_
        refine m_g1_4 hx hb hF hown hR kd_76 mw_1_203 dX1_goIfItCan_28 ?_
        refine m_g7_0 hx hb hF hown hR kd_1 mw_1_117 dX1_goIfItCan_31 ?_
        refine lv_iload_n hx hb dX1_goIfItCan_34 rfl (lv_at hl 1 rfl) ?_
        refine lv_iload_n hx hb dX1_goIfItCan_35 rfl (lv_at hl 2 rfl) ?_
        obtain ⟨M36, q36, h⟩ := mbp_e h
        refine m_cv (m_rV hx hb hml hown hF hR hS (ent0 kd_2) kd_2 rfl (c_X0_go l X 2 i1 i2 isBody_2 M19 q36) q_X1_126_V hdV_X0_go ⟨Nat.le_of_ble_eq_true rfl, Nat.le_of_ble_eq_true rfl⟩ rfl hl.1 rfl (Nat.le_of_ble_eq_true rfl) dX1_goIfItCan_36) hS (fun H locs hR hS => ?_)
        refine lv_iconst (v := 1) hx hb dX1_goIfItCan_39 (by decide) ?_
        exact m_ir hx hb hlk hr hR hS (Option.some.inj h).symm dX1_goIfItCan_40
      · have h := mif_y h c22
        refine lv_iconst (v := 0) hx hb dX1_goIfItCan_25 (by decide) ?_
        exact m_ir hx hb hlk hr hR hS (Option.some.inj h).symm dX1_goIfItCan_26
theorem c_X1_goIfItCan (l : Launch) (X : mX) (i1 : Int32) (i2 : Int32) (M : mM) {r : Int32 × mM} (h : f_X1_goIfItCan i1 i2 M = some r) : mMi l yX1_goIfItCan cX1_goIfItCan 3 (some .int) 4 92 X [.ref (X.1 76), .int i1, .int i2] M r := m_ofi (by decide +kernel) (Nat.le_of_ble_eq_true rfl) rfl (fun p e s m args below meth c hs => w_X1_goIfItCan hs i1 i2 M h)
set_option maxRecDepth 100000 in
set_option maxHeartbeats 4000000 in
theorem w_J9_floorMod_7cf53 {l : Launch} {X : mX} {p : Program} {e : Env} {s : State} {m : MethodId} {args : Array Value} {below : List Frame} {meth : Method} {c : Code} {M : mM} {r : Int32} (hs : mS X RJ9 cJ9_floorMod_7cf53 3 (some .int) p s m meth c) : ∀ (i0 : Int32) (i1 : Int32), f_J9_floorMod_7cf53 i0 i1 = some r → mG X p l e (rmF 0 0) s m args below meth c (MQ below (mQi X M r) args s 0 0 (mL X)) 3 0 [(0, .int i0), (1, .int i1)] [] M := by
  obtain ⟨hx, hb, hml, hown, hF, hlk, hr⟩ := id hs
  intro i0 i1 h H locs ls hR hS hl
  refine lv_iload_n hx hb dJ9_floorMod_7cf53_0 rfl (lv_at hl 0 rfl) ?_
  refine lv_iload_n hx hb dJ9_floorMod_7cf53_1 rfl (lv_at hl 1 rfl) ?_
  obtain ⟨g2, h⟩ := mgd_e h
  refine lv_irem hx hb dJ9_floorMod_7cf53_2 g2 ?_
  refine lv_topi (fun x3 ex3 => ?_)
  have h := mlt_n h x3 ex3
  refine lv_istore_n (lv' := [(2, .int x3), (0, .int i0), (1, .int i1)]) hx hb dJ9_floorMod_7cf53_3 rfl hl (by decide) rfl (fun ls hl => ?_)
  refine lv_iload_n hx hb dJ9_floorMod_7cf53_4 rfl (lv_at hl 1 rfl) ?_
  refine lv_iload_n hx hb dJ9_floorMod_7cf53_5 rfl (lv_at hl 2 rfl) ?_
  refine lv_ixor hx hb dJ9_floorMod_7cf53_6 ?_
  refine lv_if_ge (tgt := 18) hx hb dJ9_floorMod_7cf53_7 (by decide) (fun c7 => ?_) (fun c7 => ?_)
  · have h := mif_y h c7
    refine lv_iload_n hx hb dJ9_floorMod_7cf53_18 rfl (lv_at hl 0 rfl) ?_
    exact m_ir hx hb hlk hr hR hS (congrArg (fun z => (z, M)) (Option.some.inj h).symm) dJ9_floorMod_7cf53_19
  · have h := mif_n h c7
    refine lv_iload_n hx hb dJ9_floorMod_7cf53_10 rfl (lv_at hl 0 rfl) ?_
    refine lv_if_eq (tgt := 18) hx hb dJ9_floorMod_7cf53_11 (by decide) (fun c11 => ?_) (fun c11 => ?_)
    · have h := mif_y h c11
      refine lv_iload_n hx hb dJ9_floorMod_7cf53_18 rfl (lv_at hl 0 rfl) ?_
      exact m_ir hx hb hlk hr hR hS (congrArg (fun z => (z, M)) (Option.some.inj h).symm) dJ9_floorMod_7cf53_19
    · have h := mif_n h c11
      refine lv_iload_n hx hb dJ9_floorMod_7cf53_14 rfl (lv_at hl 0 rfl) ?_
      refine lv_iload_n hx hb dJ9_floorMod_7cf53_15 rfl (lv_at hl 2 rfl) ?_
      refine lv_iadd hx hb dJ9_floorMod_7cf53_16 ?_
      exact m_ir hx hb hlk hr hR hS (congrArg (fun z => (z, M)) (Option.some.inj h).symm) dJ9_floorMod_7cf53_17
theorem c_J9_floorMod_7cf53 (l : Launch) (X : mX) (i0 : Int32) (i1 : Int32) (M : mM) {r : Int32} (h : f_J9_floorMod_7cf53 i0 i1 = some r) : mMi l yJ9_floorMod_7cf53 cJ9_floorMod_7cf53 3 (some .int) 0 0 X [.int i0, .int i1] M (r, M) := m_ofiF (by decide +kernel) (Nat.le_of_ble_eq_true rfl) rfl (fun p e s m args below meth c hs => w_J9_floorMod_7cf53 hs i0 i1 h)
set_option maxRecDepth 100000 in
set_option maxHeartbeats 4000000 in
theorem w_X1_act {l : Launch} {X : mX} {p : Program} {e : Env} {s : State} {m : MethodId} {args : Array Value} {below : List Frame} {meth : Method} {c : Code} {r : Int32 × mM} (hs : mS X RX1 cX1_act 4 (some .int) p s m meth c) : ∀ (i1 : Int32) (M : mM), f_X1_act i1 M = some r → mG X p l e (rmF 5 114) s m args below meth c (MQ below (mQi X r.2 r.1) args s 0 0 (mL X)) 4 0 [(0, .ref (X.1 76)), (1, .int i1)] [] M := by
  obtain ⟨hx, hb, hml, hown, hF, hlk, hr⟩ := id hs
  intro i1 M h H locs ls hR hS hl
  refine lv_aload_n hx hb dX1_act_0 rfl (lv_at hl 0 rfl) ?_
  obtain ⟨v1, M1, q1, h⟩ := mbw_e h
  refine m_ci (m_rU hx hb hml hown hF hR hS (ent1 kd_76) kd_76 rfl (c_X7_take l X 76 isReader_76 M q1) q_X1_63_UX1 rfl hdU_X7_take ⟨Nat.le_of_ble_eq_true rfl, Nat.le_of_ble_eq_true rfl⟩ rfl hl.1 rfl (Nat.le_of_ble_eq_true rfl) dX1_act_1) hS (fun H locs hR hS => ?_)
  refine lv_istore_n (lv' := [(2, .int v1), (0, .ref (X.1 76)), (1, .int i1)]) hx hb dX1_act_4 rfl hl (by decide) rfl (fun ls hl => ?_)
  refine lv_iload_n hx hb dX1_act_5 rfl (lv_at hl 0 rfl) ?_
  refine lv_bipush (v := 103) hx hb dX1_act_6 (by decide) ?_
  refine lv_icmp_ne (tgt := 24) hx hb dX1_act_8 (by decide) (fun c8 => ?_) (fun c8 => ?_)
  · have h := mif_n h c8
    refine lv_aload_n hx hb dX1_act_24 rfl (lv_at hl 1 rfl) ?_
    refine lv_iload_n hx hb dX1_act_25 rfl (lv_at hl 2 rfl) ?_
    obtain ⟨v26, M26, q26, h⟩ := mbw_e h
    refine m_ci (m_rV hx hb hml hown hF hR hS (ent1 kd_76) kd_76 rfl (c_X1_addUp l X i1 M1 q26) q_X1_67_V hdV_X1_addUp ⟨Nat.le_of_ble_eq_true rfl, Nat.le_of_ble_eq_true rfl⟩ rfl hl.1 rfl (Nat.le_of_ble_eq_true rfl) dX1_act_26) hS (fun H locs hR hS => ?_)
    refine lv_bipush (v := 100) hx hb dX1_act_29 (by decide) ?_
    obtain ⟨v31, q31, h⟩ := mbp_e h
    refine m_ci (m_rS hx hb hml hown hF hR hS (c_J9_floorMod_7cf53 l X v26 100 M26 q31) q_X1_114_S hdS_J9_floorMod_7cf53 ⟨Nat.le_of_ble_eq_true rfl, Nat.le_of_ble_eq_true rfl⟩ rfl hl.1 rfl (Nat.le_of_ble_eq_true rfl) dX1_act_31) hS (fun H locs hR hS => ?_)
    refine lv_istore_n (lv' := [(3, .int v31), (2, .int v1), (0, .ref (X.1 76)), (1, .int i1)]) hx hb dX1_act_34 rfl hl (by decide) rfl (fun ls hl => ?_)
    refine lv_iload_n hx hb dX1_act_35 rfl (lv_at hl 1 rfl) ?_
    refine lv_bipush (v := 121) hx hb dX1_act_36 (by decide) ?_
    refine lv_icmp_ne (tgt := 54) hx hb dX1_act_38 (by decide) (fun c38 => ?_) (fun c38 => ?_)
    · have h := mif_n h c38
      refine lv_aload_n hx hb dX1_act_54 rfl (lv_at hl 2 rfl) ?_
      refine m_g1_4 hx hb hF hown hR kd_76 mw_1_203 dX1_act_55 ?_
      refine m_g7_2 hx hb hF hown hR kd_1 mw_1_125 dX1_act_58 ?_
      refine lv_iload_n hx hb dX1_act_61 rfl (lv_at hl 3 rfl) ?_
      refine lv_iload_n hx hb dX1_act_62 rfl (lv_at hl 0 rfl) ?_
      obtain ⟨g63, h⟩ := mgd_e h
      obtain ⟨M63, eM63⟩ : ∃ y : mM, y = mI M26 10 (Int32.toNatClampNeg i1) v31 := ⟨_, rfl⟩
      have h := mlt_n h M63 eM63
      refine m_iastL hx hb hR hS kd_10 g63 (jn := (Int32.toNatClampNeg i1)) rfl dX1_act_63 eM63 (fun H locs hR hS => ?_)
      refine lv_iconst (v := 0) hx hb dX1_act_64 (by decide) ?_
      exact m_ir hx hb hlk hr hR hS (Option.some.inj h).symm dX1_act_65
    · have h := mif_y h c38
      refine lv_aload_n hx hb dX1_act_41 rfl (lv_at hl 2 rfl) ?_
      refine m_g1_4 hx hb hF hown hR kd_76 mw_1_203 dX1_act_42 ?_
      refine m_g7_3 hx hb hF hown hR kd_1 mw_1_127 dX1_act_45 ?_
      refine lv_iload_n hx hb dX1_act_48 rfl (lv_at hl 3 rfl) ?_
      refine lv_iload_n hx hb dX1_act_49 rfl (lv_at hl 0 rfl) ?_
      obtain ⟨g50, h⟩ := mgd_e h
      obtain ⟨M50, eM50⟩ : ∃ y : mM, y = mI M26 11 (Int32.toNatClampNeg i1) v31 := ⟨_, rfl⟩
      have h := mlt_n h M50 eM50
      refine m_iastL hx hb hR hS kd_11 g50 (jn := (Int32.toNatClampNeg i1)) rfl dX1_act_50 eM50 (fun H locs hR hS => ?_)
      refine lv_goto (tgt := 64) hx hb dX1_act_51 (by decide) ?_
      refine lv_iconst (v := 0) hx hb dX1_act_64 (by decide) ?_
      exact m_ir hx hb hlk hr hR hS (Option.some.inj h).symm dX1_act_65
  · have h := mif_y h c8
    refine lv_aload_n hx hb dX1_act_11 rfl (lv_at hl 1 rfl) ?_
    refine lv_iload_n hx hb dX1_act_12 rfl (lv_at hl 2 rfl) ?_
    refine lv_aload_n hx hb dX1_act_13 rfl (lv_at hl 1 rfl) ?_
    obtain ⟨v14, M14, q14, h⟩ := mbw_e h
    refine m_ci (m_rU hx hb hml hown hF hR hS (ent1 kd_76) kd_76 rfl (c_X7_take l X 76 isReader_76 M1 q14) q_X1_63_UX1 rfl hdU_X7_take ⟨Nat.le_of_ble_eq_true rfl, Nat.le_of_ble_eq_true rfl⟩ rfl hl.1 rfl (Nat.le_of_ble_eq_true rfl) dX1_act_14) hS (fun H locs hR hS => ?_)
    refine lv_bipush (v := 48) hx hb dX1_act_17 (by decide) ?_
    refine lv_isub hx hb dX1_act_19 ?_
    obtain ⟨v20, M20, q20, h⟩ := mbw_e h
    refine m_ci (m_rV hx hb hml hown hF hR hS (ent1 kd_76) kd_76 rfl (c_X1_goIfItCan l X i1 (v14 - 48) M14 q20) q_X1_111_V hdV_X1_goIfItCan ⟨Nat.le_of_ble_eq_true rfl, Nat.le_of_ble_eq_true rfl⟩ rfl hl.1 rfl (Nat.le_of_ble_eq_true rfl) dX1_act_20) hS (fun H locs hR hS => ?_)
    exact m_ir hx hb hlk hr hR hS (Option.some.inj h).symm dX1_act_23
theorem c_X1_act (l : Launch) (X : mX) (i1 : Int32) (M : mM) {r : Int32 × mM} (h : f_X1_act i1 M = some r) : mMi l yX1_act cX1_act 4 (some .int) 5 114 X [.ref (X.1 76), .int i1] M r := m_ofi (by decide +kernel) (Nat.le_of_ble_eq_true rfl) rfl (fun p e s m args below meth c hs => w_X1_act hs i1 M h)
set_option maxRecDepth 100000 in
set_option maxHeartbeats 4000000 in
theorem w_X1_runAll_b4 {l : Launch} {X : mX} {p : Program} {e : Env} {s : State} {m : MethodId} {args : Array Value} {below : List Frame} {meth : Method} {c : Code} {r : Int32 × mM} (hs : mS X RX1 cX1_runAll 3 (some .int) p s m meth c) : ∀ n : Nat, ∀ (i1 : Int32) (i2 : Int32) (M : mM), f_X1_runAll_b4 n i1 i2 M = some r → mG X p l e (rmF 6 141) s m args below meth c (MQ below (mQi X r.2 r.1) args s 0 0 (mL X)) 3 4 [(0, .ref (X.1 76)), (1, .int i1), (2, .int i2)] [] M := by
  obtain ⟨hx, hb, hml, hown, hF, hlk, hr⟩ := id hs
  intro n
  induction n with
  | zero =>
    intro i1 i2 M h
    have h0 : (none : Option (Int32 × mM)) = some r := h
    cases h0
  | succ n ih =>
    intro i1 i2 M h H locs ls hR hS hl
    refine lv_iload_n hx hb dX1_runAll_4 rfl (lv_at hl 2 rfl) ?_
    refine lv_aload_n hx hb dX1_runAll_5 rfl (lv_at hl 0 rfl) ?_
    refine m_g1_4 hx hb hF hown hR kd_76 mw_1_203 dX1_runAll_6 ?_
    refine m_g7_0 hx hb hF hown hR kd_1 mw_1_117 dX1_runAll_9 ?_
    refine m_g0_0 hx hb hF hown hR kd_2 mw_1_47 dX1_runAll_12 ?_
    refine lv_icmp_ge (tgt := 51) hx hb dX1_runAll_15 (by decide) (fun c15 => ?_) (fun c15 => ?_)
    · have h := mif_y h c15
      refine lv_iload_n hx hb dX1_runAll_51 rfl (lv_at hl 1 rfl) ?_
      exact m_ir hx hb hlk hr hR hS (Option.some.inj h).symm dX1_runAll_52
    · have h := mif_n h c15
      refine lv_aload_n hx hb dX1_runAll_18 rfl (lv_at hl 0 rfl) ?_
      refine m_g1_4 hx hb hF hown hR kd_76 mw_1_203 dX1_runAll_19 ?_
      refine lv_iload_n hx hb dX1_runAll_22 rfl (lv_at hl 2 rfl) ?_
      obtain ⟨v23, q23, h⟩ := mbp_e h
      refine m_ci (m_rV hx hb hml hown hF hR hS (ent7 kd_1) kd_1 rfl (c_X8_isRunning l X 1 i2 isWorld_1 M q23) q_X1_27_V hdV_X8_isRunning ⟨Nat.le_of_ble_eq_true rfl, Nat.le_of_ble_eq_true rfl⟩ rfl hl.1 rfl (Nat.le_of_ble_eq_true rfl) dX1_runAll_23) hS (fun H locs hR hS => ?_)
      refine lv_if_eq (tgt := 45) hx hb dX1_runAll_26 (by decide) (fun c26 => ?_) (fun c26 => ?_)
      · have h := mif_y h c26
        obtain ⟨x45, ex45⟩ : ∃ y : Int32, y = (i2 + 1) := ⟨_, rfl⟩
        have h := mlt_n h x45 ex45
        refine lv_iinc (v := x45) (lv' := [(2, .int x45), (0, .ref (X.1 76)), (1, .int i1)]) hx hb dX1_runAll_45 hl (k := 2) rfl (by rw [ex45]; rfl) (by decide) rfl (fun ls hl => ?_)
        refine lv_goto (tgt := 4) hx hb dX1_runAll_48 (by decide) ?_
        exact ih i1 x45 M h H locs ls hR hS (lv_sub hl [1, 2, 0] rfl)
      · have h := mif_n h c26
        refine lv_aload_n hx hb dX1_runAll_29 rfl (lv_at hl 0 rfl) ?_
        refine lv_iload_n hx hb dX1_runAll_30 rfl (lv_at hl 2 rfl) ?_
        obtain ⟨v31, M31, q31, h⟩ := mbw_e h
        refine m_ci (m_rV hx hb hml hown hF hR hS (ent1 kd_76) kd_76 rfl (c_X1_chooseRule l X i2 M q31) q_X1_31_V hdV_X1_chooseRule ⟨Nat.le_of_ble_eq_true rfl, Nat.le_of_ble_eq_true rfl⟩ rfl hl.1 rfl (Nat.le_of_ble_eq_true rfl) dX1_runAll_31) hS (fun H locs hR hS => ?_)
        refine lv_if_lt (tgt := 45) hx hb dX1_runAll_34 (by decide) (fun c34 => ?_) (fun c34 => ?_)
        · have h := mif_y h c34
          obtain ⟨x45, ex45⟩ : ∃ y : Int32, y = (i2 + 1) := ⟨_, rfl⟩
          have h := mlt_n h x45 ex45
          refine lv_iinc (v := x45) (lv' := [(2, .int x45), (0, .ref (X.1 76)), (1, .int i1)]) hx hb dX1_runAll_45 hl (k := 2) rfl (by rw [ex45]; rfl) (by decide) rfl (fun ls hl => ?_)
          refine lv_goto (tgt := 4) hx hb dX1_runAll_48 (by decide) ?_
          exact ih i1 x45 M31 h H locs ls hR hS (lv_sub hl [1, 2, 0] rfl)
        · have h := mif_n h c34
          refine lv_iload_n hx hb dX1_runAll_37 rfl (lv_at hl 1 rfl) ?_
          refine lv_aload_n hx hb dX1_runAll_38 rfl (lv_at hl 0 rfl) ?_
          refine lv_iload_n hx hb dX1_runAll_39 rfl (lv_at hl 2 rfl) ?_
          obtain ⟨v40, M40, q40, h⟩ := mbw_e h
          refine m_ci (m_rV hx hb hml hown hF hR hS (ent1 kd_76) kd_76 rfl (c_X1_act l X i2 M31 q40) q_X1_35_V hdV_X1_act ⟨Nat.le_of_ble_eq_true rfl, Nat.le_of_ble_eq_true rfl⟩ rfl hl.1 rfl (Nat.le_of_ble_eq_true rfl) dX1_runAll_40) hS (fun H locs hR hS => ?_)
          refine lv_iadd hx hb dX1_runAll_43 ?_
          refine lv_istore_n (lv' := [(1, .int (i1 + v40)), (0, .ref (X.1 76)), (2, .int i2)]) hx hb dX1_runAll_44 rfl hl (by decide) rfl (fun ls hl => ?_)
          obtain ⟨x45, ex45⟩ : ∃ y : Int32, y = (i2 + 1) := ⟨_, rfl⟩
          have h := mlt_n h x45 ex45
          refine lv_iinc (v := x45) (lv' := [(2, .int x45), (1, .int (i1 + v40)), (0, .ref (X.1 76))]) hx hb dX1_runAll_45 hl (k := 2) rfl (by rw [ex45]; rfl) (by decide) rfl (fun ls hl => ?_)
          refine lv_goto (tgt := 4) hx hb dX1_runAll_48 (by decide) ?_
          exact ih (i1 + v40) x45 M40 h H locs ls hR hS (lv_sub hl [2, 1, 0] rfl)
set_option maxRecDepth 100000 in
set_option maxHeartbeats 4000000 in
theorem w_X1_runAll {l : Launch} {X : mX} {p : Program} {e : Env} {s : State} {m : MethodId} {args : Array Value} {below : List Frame} {meth : Method} {c : Code} {r : Int32 × mM} (hs : mS X RX1 cX1_runAll 3 (some .int) p s m meth c) : ∀  (M : mM), f_X1_runAll  M = some r → mG X p l e (rmF 6 141) s m args below meth c (MQ below (mQi X r.2 r.1) args s 0 0 (mL X)) 3 0 [(0, .ref (X.1 76))] [] M := by
  obtain ⟨hx, hb, hml, hown, hF, hlk, hr⟩ := id hs
  intro M h H locs ls hR hS hl
  refine lv_iconst (v := 0) hx hb dX1_runAll_0 (by decide) ?_
  refine lv_istore_n (lv' := [(1, .int 0), (0, .ref (X.1 76))]) hx hb dX1_runAll_1 rfl hl (by decide) rfl (fun ls hl => ?_)
  refine lv_iconst (v := 0) hx hb dX1_runAll_2 (by decide) ?_
  refine lv_istore_n (lv' := [(2, .int 0), (1, .int 0), (0, .ref (X.1 76))]) hx hb dX1_runAll_3 rfl hl (by decide) rfl (fun ls hl => ?_)
  exact w_X1_runAll_b4 hs mN 0 0 M h H locs ls hR hS (lv_sub hl [2, 1, 0] rfl)
theorem c_X1_runAll (l : Launch) (X : mX) (M : mM) {r : Int32 × mM} (h : f_X1_runAll M = some r) : mMi l yX1_runAll cX1_runAll 3 (some .int) 6 141 X [.ref (X.1 76)] M r := m_ofi (by decide +kernel) (Nat.le_of_ble_eq_true rfl) rfl (fun p e s m args below meth c hs => w_X1_runAll hs M h)
set_option maxRecDepth 100000 in
set_option maxHeartbeats 4000000 in
theorem w_X8_poorestBeside_b4 {l : Launch} {X : mX} {p : Program} {e : Env} {s : State} {m : MethodId} {args : Array Value} {below : List Frame} {meth : Method} {c : Code} {M : mM} {r : Int32} (hs : mS X RX8 cX8_poorestBeside 5 (some .int) p s m meth c) : ∀ n : Nat, ∀ (b : Nat) (i1 : Int32) (i2 : Int32) (i3 : Int32) (h_b : isWorld b), f_X8_poorestBeside_b4 n b i1 i2 i3 M = some r → mG X p l e (rmF 1 21) s m args below meth c (MQ below (mQi X M r) args s 0 0 (mL X)) 5 4 [(0, .ref (X.1 b)), (1, .int i1), (2, .int i2), (3, .int i3)] [] M := by
  obtain ⟨hx, hb, hml, hown, hF, hlk, hr⟩ := id hs
  intro n
  induction n with
  | zero =>
    intro b i1 i2 i3 h_b h
    have h0 : (none : Option (Int32)) = some r := h
    cases h0
  | succ n ih =>
    intro b i1 i2 i3 h_b h H locs ls hR hS hl
    refine lv_iload_n hx hb dX8_poorestBeside_4 rfl (lv_at hl 3 rfl) ?_
    refine lv_iconst (v := 4) hx hb dX8_poorestBeside_5 (by decide) ?_
    refine lv_icmp_ge (tgt := 86) hx hb dX8_poorestBeside_6 (by decide) (fun c6 => ?_) (fun c6 => ?_)
    · have h := mif_y h c6
      refine lv_iload_n hx hb dX8_poorestBeside_86 rfl (lv_at hl 2 rfl) ?_
      exact m_ir hx hb hlk hr hR hS (congrArg (fun z => (z, M)) (Option.some.inj h).symm) dX8_poorestBeside_87
    · have h := mif_n h c6
      refine lv_aload_n hx hb dX8_poorestBeside_9 rfl (lv_at hl 0 rfl) ?_
      refine m_g7_0 hx hb hF hown hR (kWorld0 h_b) mw_1_116 dX8_poorestBeside_10 ?_
      refine lv_aload_n hx hb dX8_poorestBeside_13 rfl (lv_at hl 0 rfl) ?_
      refine m_g7_0 hx hb hF hown hR (kWorld0 h_b) mw_1_116 dX8_poorestBeside_14 ?_
      refine m_g0_2 hx hb hF hown hR (kWorld1 h_b) mw_1_59 dX8_poorestBeside_17 ?_
      refine lv_iload_n hx hb dX8_poorestBeside_20 rfl (lv_at hl 1 rfl) ?_
      obtain ⟨g21, h⟩ := mgd_e h
      refine m_ialdL hx hb hR (kWorld3 h_b) g21 (jn := (Int32.toNatClampNeg i1)) rfl dX8_poorestBeside_21 ?_
      refine m_gsN hx hb hF hS hown 3 (by decide) rfl 25 rfl dX8_poorestBeside_22 ?_
      refine lv_iload_n hx hb dX8_poorestBeside_25 rfl (lv_at hl 3 rfl) ?_
      obtain ⟨g26, h⟩ := mgd_e h
      refine m_saidL hx hb hF hS 3 (by decide) (N := 8) rfl g26 (jn := (Int32.toNatClampNeg i3)) rfl dX8_poorestBeside_26 ?_
      refine lv_iadd hx hb dX8_poorestBeside_27 ?_
      obtain ⟨v28, q28, h⟩ := mbp_e h
      refine m_ci (m_rV hx hb hml hown hF hR hS (ent0 (kWorld1 h_b)) (kWorld1 h_b) rfl (c_X0_inCell l X (b + 1) ((M.1 (b + 3) (Int32.toNatClampNeg i1)) + (sVal 3 (Int32.toNatClampNeg i3))) (kWorldB h_b) M q28) q_X8_132_V hdV_X0_inCell ⟨Nat.le_of_ble_eq_true rfl, Nat.le_of_ble_eq_true rfl⟩ rfl hl.1 rfl (Nat.le_of_ble_eq_true rfl) dX8_poorestBeside_28) hS (fun H locs hR hS => ?_)
      refine lv_istore (lv' := [(4, .int v28), (0, .ref (X.1 b)), (1, .int i1), (2, .int i2), (3, .int i3)]) hx hb dX8_poorestBeside_31 hl (by decide) rfl (fun ls hl => ?_)
      refine lv_iload hx hb dX8_poorestBeside_33 (lv_at hl 0 rfl) ?_
      refine lv_if_lt (tgt := 80) hx hb dX8_poorestBeside_35 (by decide) (fun c35 => ?_) (fun c35 => ?_)
      · have h := mif_y h c35
        obtain ⟨x80, ex80⟩ : ∃ y : Int32, y = (i3 + 1) := ⟨_, rfl⟩
        have h := mlt_n h x80 ex80
        refine lv_iinc (v := x80) (lv' := [(3, .int x80), (4, .int v28), (0, .ref (X.1 b)), (1, .int i1), (2, .int i2)]) hx hb dX8_poorestBeside_80 hl (k := 4) rfl (by rw [ex80]; rfl) (by decide) rfl (fun ls hl => ?_)
        refine lv_goto (tgt := 4) hx hb dX8_poorestBeside_83 (by decide) ?_
        exact ih b i1 i2 x80 h_b h H locs ls hR hS (lv_sub hl [2, 3, 4, 0] rfl)
      · have h := mif_n h c35
        refine lv_aload_n hx hb dX8_poorestBeside_38 rfl (lv_at hl 1 rfl) ?_
        refine m_g7_0 hx hb hF hown hR (kWorld0 h_b) mw_1_116 dX8_poorestBeside_39 ?_
        refine m_g0_4 hx hb hF hown hR (kWorld1 h_b) mw_1_68 dX8_poorestBeside_42 ?_
        refine lv_iload hx hb dX8_poorestBeside_45 (lv_at hl 0 rfl) ?_
        obtain ⟨g47, h⟩ := mgd_e h
        refine m_zaldL hx hb hR (kWorld5 h_b) g47 (jn := (Int32.toNatClampNeg v28)) rfl dX8_poorestBeside_47 ?_
        refine lv_if_ne (tgt := 80) hx hb dX8_poorestBeside_48 (by decide) (fun c48 => ?_) (fun c48 => ?_)
        · have h := mif_n h c48
          obtain ⟨x80, ex80⟩ : ∃ y : Int32, y = (i3 + 1) := ⟨_, rfl⟩
          have h := mlt_n h x80 ex80
          refine lv_iinc (v := x80) (lv' := [(3, .int x80), (4, .int v28), (0, .ref (X.1 b)), (1, .int i1), (2, .int i2)]) hx hb dX8_poorestBeside_80 hl (k := 4) rfl (by rw [ex80]; rfl) (by decide) rfl (fun ls hl => ?_)
          refine lv_goto (tgt := 4) hx hb dX8_poorestBeside_83 (by decide) ?_
          exact ih b i1 i2 x80 h_b h H locs ls hR hS (lv_sub hl [2, 3, 4, 0] rfl)
        · have h := mif_y h c48
          refine lv_iload_n hx hb dX8_poorestBeside_51 rfl (lv_at hl 3 rfl) ?_
          refine lv_if_lt (tgt := 77) hx hb dX8_poorestBeside_52 (by decide) (fun c52 => ?_) (fun c52 => ?_)
          · have h := mif_y h c52
            refine lv_iload hx hb dX8_poorestBeside_77 (lv_at hl 0 rfl) ?_
            refine lv_istore_n (lv' := [(2, .int v28), (4, .int v28), (0, .ref (X.1 b)), (1, .int i1), (3, .int i3)]) hx hb dX8_poorestBeside_79 rfl hl (by decide) rfl (fun ls hl => ?_)
            obtain ⟨x80, ex80⟩ : ∃ y : Int32, y = (i3 + 1) := ⟨_, rfl⟩
            have h := mlt_n h x80 ex80
            refine lv_iinc (v := x80) (lv' := [(3, .int x80), (2, .int v28), (4, .int v28), (0, .ref (X.1 b)), (1, .int i1)]) hx hb dX8_poorestBeside_80 hl (k := 4) rfl (by rw [ex80]; rfl) (by decide) rfl (fun ls hl => ?_)
            refine lv_goto (tgt := 4) hx hb dX8_poorestBeside_83 (by decide) ?_
            exact ih b i1 v28 x80 h_b h H locs ls hR hS (lv_sub hl [3, 4, 1, 0] rfl)
          · have h := mif_n h c52
            refine lv_aload_n hx hb dX8_poorestBeside_55 rfl (lv_at hl 1 rfl) ?_
            refine m_g7_0 hx hb hF hown hR (kWorld0 h_b) mw_1_116 dX8_poorestBeside_56 ?_
            refine m_g0_3 hx hb hF hown hR (kWorld1 h_b) mw_1_64 dX8_poorestBeside_59 ?_
            refine lv_iload hx hb dX8_poorestBeside_62 (lv_at hl 0 rfl) ?_
            obtain ⟨g64, h⟩ := mgd_e h
            refine m_ialdL hx hb hR (kWorld4 h_b) g64 (jn := (Int32.toNatClampNeg v28)) rfl dX8_poorestBeside_64 ?_
            refine lv_aload_n hx hb dX8_poorestBeside_65 rfl (lv_at hl 1 rfl) ?_
            refine m_g7_0 hx hb hF hown hR (kWorld0 h_b) mw_1_116 dX8_poorestBeside_66 ?_
            refine m_g0_3 hx hb hF hown hR (kWorld1 h_b) mw_1_64 dX8_poorestBeside_69 ?_
            refine lv_iload_n hx hb dX8_poorestBeside_72 rfl (lv_at hl 3 rfl) ?_
            obtain ⟨g73, h⟩ := mgd_e h
            refine m_ialdL hx hb hR (kWorld4 h_b) g73 (jn := (Int32.toNatClampNeg i2)) rfl dX8_poorestBeside_73 ?_
            refine lv_icmp_ge (tgt := 80) hx hb dX8_poorestBeside_74 (by decide) (fun c74 => ?_) (fun c74 => ?_)
            · have h := mif_y h c74
              obtain ⟨x80, ex80⟩ : ∃ y : Int32, y = (i3 + 1) := ⟨_, rfl⟩
              have h := mlt_n h x80 ex80
              refine lv_iinc (v := x80) (lv' := [(3, .int x80), (4, .int v28), (0, .ref (X.1 b)), (1, .int i1), (2, .int i2)]) hx hb dX8_poorestBeside_80 hl (k := 4) rfl (by rw [ex80]; rfl) (by decide) rfl (fun ls hl => ?_)
              refine lv_goto (tgt := 4) hx hb dX8_poorestBeside_83 (by decide) ?_
              exact ih b i1 i2 x80 h_b h H locs ls hR hS (lv_sub hl [2, 3, 4, 0] rfl)
            · have h := mif_n h c74
              refine lv_iload hx hb dX8_poorestBeside_77 (lv_at hl 0 rfl) ?_
              refine lv_istore_n (lv' := [(2, .int v28), (4, .int v28), (0, .ref (X.1 b)), (1, .int i1), (3, .int i3)]) hx hb dX8_poorestBeside_79 rfl hl (by decide) rfl (fun ls hl => ?_)
              obtain ⟨x80, ex80⟩ : ∃ y : Int32, y = (i3 + 1) := ⟨_, rfl⟩
              have h := mlt_n h x80 ex80
              refine lv_iinc (v := x80) (lv' := [(3, .int x80), (2, .int v28), (4, .int v28), (0, .ref (X.1 b)), (1, .int i1)]) hx hb dX8_poorestBeside_80 hl (k := 4) rfl (by rw [ex80]; rfl) (by decide) rfl (fun ls hl => ?_)
              refine lv_goto (tgt := 4) hx hb dX8_poorestBeside_83 (by decide) ?_
              exact ih b i1 v28 x80 h_b h H locs ls hR hS (lv_sub hl [3, 4, 1, 0] rfl)
set_option maxRecDepth 100000 in
set_option maxHeartbeats 4000000 in
theorem w_X8_poorestBeside {l : Launch} {X : mX} {p : Program} {e : Env} {s : State} {m : MethodId} {args : Array Value} {below : List Frame} {meth : Method} {c : Code} {M : mM} {r : Int32} (hs : mS X RX8 cX8_poorestBeside 5 (some .int) p s m meth c) : ∀ (b : Nat) (i1 : Int32) (h_b : isWorld b), f_X8_poorestBeside b i1 M = some r → mG X p l e (rmF 1 21) s m args below meth c (MQ below (mQi X M r) args s 0 0 (mL X)) 5 0 [(0, .ref (X.1 b)), (1, .int i1)] [] M := by
  obtain ⟨hx, hb, hml, hown, hF, hlk, hr⟩ := id hs
  intro b i1 h_b h H locs ls hR hS hl
  refine lv_iconst (v := (-1)) hx hb dX8_poorestBeside_0 (by decide) ?_
  refine lv_istore_n (lv' := [(2, .int (-1)), (0, .ref (X.1 b)), (1, .int i1)]) hx hb dX8_poorestBeside_1 rfl hl (by decide) rfl (fun ls hl => ?_)
  refine lv_iconst (v := 0) hx hb dX8_poorestBeside_2 (by decide) ?_
  refine lv_istore_n (lv' := [(3, .int 0), (2, .int (-1)), (0, .ref (X.1 b)), (1, .int i1)]) hx hb dX8_poorestBeside_3 rfl hl (by decide) rfl (fun ls hl => ?_)
  exact w_X8_poorestBeside_b4 hs mN b i1 (-1) 0 h_b h H locs ls hR hS (lv_sub hl [2, 3, 1, 0] rfl)
theorem c_X8_poorestBeside (l : Launch) (X : mX) (b : Nat) (i1 : Int32) (h_b : isWorld b) (M : mM) {r : Int32} (h : f_X8_poorestBeside b i1 M = some r) : mMi l yX8_poorestBeside cX8_poorestBeside 5 (some .int) 1 21 X [.ref (X.1 b), .int i1] M (r, M) := m_ofi (by decide +kernel) (Nat.le_of_ble_eq_true rfl) rfl (fun p e s m args below meth c hs => w_X8_poorestBeside hs b i1 h_b h)
set_option maxRecDepth 100000 in
set_option maxHeartbeats 4000000 in
theorem w_X8_sharePower_b34 {l : Launch} {X : mX} {p : Program} {e : Env} {s : State} {m : MethodId} {args : Array Value} {below : List Frame} {meth : Method} {c : Code} {r : mM} (hs : mS X RX8 cX8_sharePower 3 none p s m meth c) (k2 : Nat → Int32 → mM → Option mM) (hk2 : ∀ (b : Nat) (i1 : Int32) (h_b : isWorld b) (M : mM), k2 b i1 M = some r → mG X p l e (rmF 2 45) s m args below meth c (MQ below (mQv X r) args s 0 0 (mL X)) 3 2 [(0, .ref (X.1 b)), (1, .int i1)] [] M) : ∀ (b : Nat) (i1 : Int32) (s0 : Int32) (h_b : isWorld b) (M : mM), f_X8_sharePower_b34 k2 b i1 s0 M = some r → mG X p l e (rmF 2 45) s m args below meth c (MQ below (mQv X r) args s 0 0 (mL X)) 3 34 [(0, .ref (X.1 b)), (1, .int i1)] [.int s0] M := by
  obtain ⟨hx, hb, hml, hown, hF, hlk, hr⟩ := id hs
  intro b i1 s0 h_b M h H locs ls hR hS hl
  refine lv_istore_n (lv' := [(2, .int s0), (0, .ref (X.1 b)), (1, .int i1)]) hx hb dX8_sharePower_34 rfl hl (by decide) rfl (fun ls hl => ?_)
  refine lv_iload_n hx hb dX8_sharePower_35 rfl (lv_at hl 0 rfl) ?_
  refine lv_if_lt (tgt := 88) hx hb dX8_sharePower_36 (by decide) (fun c36 => ?_) (fun c36 => ?_)
  · have h := mif_y h c36
    obtain ⟨x88, ex88⟩ : ∃ y : Int32, y = (i1 + 1) := ⟨_, rfl⟩
    have h := mlt_n h x88 ex88
    refine lv_iinc (v := x88) (lv' := [(1, .int x88), (2, .int s0), (0, .ref (X.1 b))]) hx hb dX8_sharePower_88 hl (k := 2) rfl (by rw [ex88]; rfl) (by decide) rfl (fun ls hl => ?_)
    refine lv_goto (tgt := 2) hx hb dX8_sharePower_91 (by decide) ?_
    exact hk2 b x88 h_b M h H locs ls hR hS (lv_sub hl [2, 0] rfl)
  · have h := mif_n h c36
    refine lv_aload_n hx hb dX8_sharePower_39 rfl (lv_at hl 1 rfl) ?_
    refine m_g7_0 hx hb hF hown hR (kWorld0 h_b) mw_1_116 dX8_sharePower_40 ?_
    refine m_g0_3 hx hb hF hown hR (kWorld1 h_b) mw_1_64 dX8_sharePower_43 ?_
    refine lv_iload_n hx hb dX8_sharePower_46 rfl (lv_at hl 0 rfl) ?_
    obtain ⟨g47, h⟩ := mgd_e h
    refine m_ialdL hx hb hR (kWorld4 h_b) g47 (jn := (Int32.toNatClampNeg s0)) rfl dX8_sharePower_47 ?_
    refine lv_aload_n hx hb dX8_sharePower_48 rfl (lv_at hl 1 rfl) ?_
    refine m_g7_0 hx hb hF hown hR (kWorld0 h_b) mw_1_116 dX8_sharePower_49 ?_
    refine m_g0_3 hx hb hF hown hR (kWorld1 h_b) mw_1_64 dX8_sharePower_52 ?_
    refine lv_iload_n hx hb dX8_sharePower_55 rfl (lv_at hl 2 rfl) ?_
    obtain ⟨g56, h⟩ := mgd_e h
    refine m_ialdL hx hb hR (kWorld4 h_b) g56 (jn := (Int32.toNatClampNeg i1)) rfl dX8_sharePower_56 ?_
    refine lv_iconst (v := 2) hx hb dX8_sharePower_57 (by decide) ?_
    refine lv_isub hx hb dX8_sharePower_58 ?_
    refine lv_icmp_gt (tgt := 88) hx hb dX8_sharePower_59 (by decide) (fun c59 => ?_) (fun c59 => ?_)
    · have h := mif_y h c59
      obtain ⟨x88, ex88⟩ : ∃ y : Int32, y = (i1 + 1) := ⟨_, rfl⟩
      have h := mlt_n h x88 ex88
      refine lv_iinc (v := x88) (lv' := [(1, .int x88), (2, .int s0), (0, .ref (X.1 b))]) hx hb dX8_sharePower_88 hl (k := 2) rfl (by rw [ex88]; rfl) (by decide) rfl (fun ls hl => ?_)
      refine lv_goto (tgt := 2) hx hb dX8_sharePower_91 (by decide) ?_
      exact hk2 b x88 h_b M h H locs ls hR hS (lv_sub hl [2, 0] rfl)
    · have h := mif_n h c59
      refine lv_aload_n hx hb dX8_sharePower_62 rfl (lv_at hl 1 rfl) ?_
      refine m_g7_0 hx hb hF hown hR (kWorld0 h_b) mw_1_116 dX8_sharePower_63 ?_
      refine m_g0_3 hx hb hF hown hR (kWorld1 h_b) mw_1_64 dX8_sharePower_66 ?_
      refine lv_iload_n hx hb dX8_sharePower_69 rfl (lv_at hl 0 rfl) ?_
      refine lv_dup2_11 hx hb dX8_sharePower_70 rfl rfl ?_
      obtain ⟨g71, h⟩ := mgd_e h
      refine m_ialdL hx hb hR (kWorld4 h_b) g71 (jn := (Int32.toNatClampNeg s0)) rfl dX8_sharePower_71 ?_
      refine lv_iconst (v := 1) hx hb dX8_sharePower_72 (by decide) ?_
      refine lv_iadd hx hb dX8_sharePower_73 ?_
      obtain ⟨g74, h⟩ := mgd_e h
      obtain ⟨M74, eM74⟩ : ∃ y : mM, y = mI M (b + 4) (Int32.toNatClampNeg s0) ((M.1 (b + 4) (Int32.toNatClampNeg s0)) + 1) := ⟨_, rfl⟩
      have h := mlt_n h M74 eM74
      refine m_iastL hx hb hR hS (kWorld4 h_b) g74 (jn := (Int32.toNatClampNeg s0)) rfl dX8_sharePower_74 eM74 (fun H locs hR hS => ?_)
      refine lv_aload_n hx hb dX8_sharePower_75 rfl (lv_at hl 1 rfl) ?_
      refine m_g7_0 hx hb hF hown hR (kWorld0 h_b) mw_1_116 dX8_sharePower_76 ?_
      refine m_g0_3 hx hb hF hown hR (kWorld1 h_b) mw_1_64 dX8_sharePower_79 ?_
      refine lv_iload_n hx hb dX8_sharePower_82 rfl (lv_at hl 2 rfl) ?_
      refine lv_dup2_11 hx hb dX8_sharePower_83 rfl rfl ?_
      obtain ⟨g84, h⟩ := mgd_e h
      refine m_ialdL hx hb hR (kWorld4 h_b) g84 (jn := (Int32.toNatClampNeg i1)) rfl dX8_sharePower_84 ?_
      refine lv_iconst (v := 1) hx hb dX8_sharePower_85 (by decide) ?_
      refine lv_isub hx hb dX8_sharePower_86 ?_
      obtain ⟨g87, h⟩ := mgd_e h
      obtain ⟨M87, eM87⟩ : ∃ y : mM, y = mI M74 (b + 4) (Int32.toNatClampNeg i1) ((M74.1 (b + 4) (Int32.toNatClampNeg i1)) - 1) := ⟨_, rfl⟩
      have h := mlt_n h M87 eM87
      refine m_iastL hx hb hR hS (kWorld4 h_b) g87 (jn := (Int32.toNatClampNeg i1)) rfl dX8_sharePower_87 eM87 (fun H locs hR hS => ?_)
      obtain ⟨x88, ex88⟩ : ∃ y : Int32, y = (i1 + 1) := ⟨_, rfl⟩
      have h := mlt_n h x88 ex88
      refine lv_iinc (v := x88) (lv' := [(1, .int x88), (2, .int s0), (0, .ref (X.1 b))]) hx hb dX8_sharePower_88 hl (k := 2) rfl (by rw [ex88]; rfl) (by decide) rfl (fun ls hl => ?_)
      refine lv_goto (tgt := 2) hx hb dX8_sharePower_91 (by decide) ?_
      exact hk2 b x88 h_b M87 h H locs ls hR hS (lv_sub hl [2, 0] rfl)
set_option maxRecDepth 100000 in
set_option maxHeartbeats 4000000 in
theorem w_X8_sharePower_b2 {l : Launch} {X : mX} {p : Program} {e : Env} {s : State} {m : MethodId} {args : Array Value} {below : List Frame} {meth : Method} {c : Code} {r : mM} (hs : mS X RX8 cX8_sharePower 3 none p s m meth c) : ∀ n : Nat, ∀ (b : Nat) (i1 : Int32) (h_b : isWorld b) (M : mM), f_X8_sharePower_b2 n b i1 M = some r → mG X p l e (rmF 2 45) s m args below meth c (MQ below (mQv X r) args s 0 0 (mL X)) 3 2 [(0, .ref (X.1 b)), (1, .int i1)] [] M := by
  obtain ⟨hx, hb, hml, hown, hF, hlk, hr⟩ := id hs
  intro n
  induction n with
  | zero =>
    intro b i1 h_b M h
    have h0 : (none : Option (mM)) = some r := h
    cases h0
  | succ n ih =>
    intro b i1 h_b M h H locs ls hR hS hl
    refine lv_iload_n hx hb dX8_sharePower_2 rfl (lv_at hl 1 rfl) ?_
    refine lv_aload_n hx hb dX8_sharePower_3 rfl (lv_at hl 0 rfl) ?_
    refine m_g7_0 hx hb hF hown hR (kWorld0 h_b) mw_1_116 dX8_sharePower_4 ?_
    refine m_g0_0 hx hb hF hown hR (kWorld1 h_b) mw_1_49 dX8_sharePower_7 ?_
    refine lv_icmp_ge (tgt := 94) hx hb dX8_sharePower_10 (by decide) (fun c10 => ?_) (fun c10 => ?_)
    · have h := mif_y h c10
      exact m_vr hx hb hlk hr hR hS (Option.some.inj h).symm dX8_sharePower_94
    · have h := mif_n h c10
      refine lv_aload_n hx hb dX8_sharePower_13 rfl (lv_at hl 0 rfl) ?_
      refine m_g7_0 hx hb hF hown hR (kWorld0 h_b) mw_1_116 dX8_sharePower_14 ?_
      refine m_g0_4 hx hb hF hown hR (kWorld1 h_b) mw_1_68 dX8_sharePower_17 ?_
      refine lv_iload_n hx hb dX8_sharePower_20 rfl (lv_at hl 1 rfl) ?_
      obtain ⟨g21, h⟩ := mgd_e h
      refine m_zaldL hx hb hR (kWorld5 h_b) g21 (jn := (Int32.toNatClampNeg i1)) rfl dX8_sharePower_21 ?_
      refine lv_if_eq (tgt := 29) hx hb dX8_sharePower_22 (by decide) (fun c22 => ?_) (fun c22 => ?_)
      · have h := mif_y h c22
        refine lv_aload_n hx hb dX8_sharePower_29 rfl (lv_at hl 0 rfl) ?_
        refine lv_iload_n hx hb dX8_sharePower_30 rfl (lv_at hl 1 rfl) ?_
        obtain ⟨v31, q31, h⟩ := mbp_e h
        refine m_ci (m_rV hx hb hml hown hF hR hS (ent7 (kWorld0 h_b)) (kWorld0 h_b) rfl (c_X8_poorestBeside l X b i1 h_b M q31) q_X8_123_V hdV_X8_poorestBeside ⟨Nat.le_of_ble_eq_true rfl, Nat.le_of_ble_eq_true rfl⟩ rfl hl.1 rfl (Nat.le_of_ble_eq_true rfl) dX8_sharePower_31) hS (fun H locs hR hS => ?_)
        exact w_X8_sharePower_b34 hs (f_X8_sharePower_b2 n) ih b i1 v31 h_b M h H locs ls hR hS (lv_sub hl [0, 1] rfl)
      · have h := mif_n h c22
        refine lv_iconst (v := (-1)) hx hb dX8_sharePower_25 (by decide) ?_
        refine lv_goto (tgt := 34) hx hb dX8_sharePower_26 (by decide) ?_
        exact w_X8_sharePower_b34 hs (f_X8_sharePower_b2 n) ih b i1 (-1) h_b M h H locs ls hR hS (lv_sub hl [0, 1] rfl)
set_option maxRecDepth 100000 in
set_option maxHeartbeats 4000000 in
theorem w_X8_sharePower {l : Launch} {X : mX} {p : Program} {e : Env} {s : State} {m : MethodId} {args : Array Value} {below : List Frame} {meth : Method} {c : Code} {r : mM} (hs : mS X RX8 cX8_sharePower 3 none p s m meth c) : ∀ (b : Nat) (h_b : isWorld b) (M : mM), f_X8_sharePower b M = some r → mG X p l e (rmF 2 45) s m args below meth c (MQ below (mQv X r) args s 0 0 (mL X)) 3 0 [(0, .ref (X.1 b))] [] M := by
  obtain ⟨hx, hb, hml, hown, hF, hlk, hr⟩ := id hs
  intro b h_b M h H locs ls hR hS hl
  refine lv_iconst (v := 0) hx hb dX8_sharePower_0 (by decide) ?_
  refine lv_istore_n (lv' := [(1, .int 0), (0, .ref (X.1 b))]) hx hb dX8_sharePower_1 rfl hl (by decide) rfl (fun ls hl => ?_)
  exact w_X8_sharePower_b2 hs mN b 0 h_b M h H locs ls hR hS (lv_sub hl [1, 0] rfl)
theorem c_X8_sharePower (l : Launch) (X : mX) (b : Nat) (h_b : isWorld b) (M : mM) {r : mM} (h : f_X8_sharePower b M = some r) : mMv l yX8_sharePower cX8_sharePower 3 2 45 X [.ref (X.1 b)] M r := m_ofv (by decide +kernel) (Nat.le_of_ble_eq_true rfl) rfl (fun p e s m args below meth c hs => w_X8_sharePower hs b h_b M h)
set_option maxRecDepth 100000 in
set_option maxHeartbeats 4000000 in
theorem w_X8_endTick_b2 {l : Launch} {X : mX} {p : Program} {e : Env} {s : State} {m : MethodId} {args : Array Value} {below : List Frame} {meth : Method} {c : Code} {r : mM} (hs : mS X RX8 cX8_endTick 2 none p s m meth c) : ∀ n : Nat, ∀ (b : Nat) (i1 : Int32) (h_b : isWorld b) (M : mM), f_X8_endTick_b2 n b i1 M = some r → mG X p l e (rmF 0 0) s m args below meth c (MQ below (mQv X r) args s 0 0 (mL X)) 2 2 [(0, .ref (X.1 b)), (1, .int i1)] [] M := by
  obtain ⟨hx, hb, hml, hown, hF, hlk, hr⟩ := id hs
  intro n
  induction n with
  | zero =>
    intro b i1 h_b M h
    have h0 : (none : Option (mM)) = some r := h
    cases h0
  | succ n ih =>
    intro b i1 h_b M h H locs ls hR hS hl
    refine lv_iload_n hx hb dX8_endTick_2 rfl (lv_at hl 1 rfl) ?_
    refine lv_aload_n hx hb dX8_endTick_3 rfl (lv_at hl 0 rfl) ?_
    refine m_g7_0 hx hb hF hown hR (kWorld0 h_b) mw_1_116 dX8_endTick_4 ?_
    refine m_g0_0 hx hb hF hown hR (kWorld1 h_b) mw_1_49 dX8_endTick_7 ?_
    refine lv_icmp_ge (tgt := 38) hx hb dX8_endTick_10 (by decide) (fun c10 => ?_) (fun c10 => ?_)
    · have h := mif_y h c10
      refine lv_aload_n hx hb dX8_endTick_38 rfl (lv_at hl 0 rfl) ?_
      refine lv_dup hx hb dX8_endTick_39 rfl ?_
      refine m_g7_1 hx hb hF hown hR (kWorld0 h_b) mw_1_120 dX8_endTick_40 ?_
      refine lv_iconst (v := 1) hx hb dX8_endTick_43 (by decide) ?_
      refine lv_iadd hx hb dX8_endTick_44 ?_
      obtain ⟨M45, eM45⟩ : ∃ y : mM, y = mI M b 1 ((M.1 b 1) + 1) := ⟨_, rfl⟩
      have h := mlt_n h M45 eM45
      refine m_p7_1 hx hb hF hown hR hS (kWorld0 h_b) mw_1_120 dX8_endTick_45 eM45 (fun H locs hR hS => ?_)
      exact m_vr hx hb hlk hr hR hS (Option.some.inj h).symm dX8_endTick_48
    · have h := mif_n h c10
      refine lv_aload_n hx hb dX8_endTick_13 rfl (lv_at hl 0 rfl) ?_
      refine m_g7_4 hx hb hF hown hR (kWorld0 h_b) mw_1_128 dX8_endTick_14 ?_
      refine lv_iload_n hx hb dX8_endTick_17 rfl (lv_at hl 1 rfl) ?_
      refine lv_aload_n hx hb dX8_endTick_18 rfl (lv_at hl 0 rfl) ?_
      refine m_g7_3 hx hb hF hown hR (kWorld0 h_b) mw_1_126 dX8_endTick_19 ?_
      refine lv_iload_n hx hb dX8_endTick_22 rfl (lv_at hl 1 rfl) ?_
      obtain ⟨g23, h⟩ := mgd_e h
      refine m_ialdL hx hb hR (kWorld10 h_b) g23 (jn := (Int32.toNatClampNeg i1)) rfl dX8_endTick_23 ?_
      obtain ⟨g24, h⟩ := mgd_e h
      obtain ⟨M24, eM24⟩ : ∃ y : mM, y = mI M (b + 11) (Int32.toNatClampNeg i1) (M.1 (b + 10) (Int32.toNatClampNeg i1)) := ⟨_, rfl⟩
      have h := mlt_n h M24 eM24
      refine m_iastL hx hb hR hS (kWorld11 h_b) g24 (jn := (Int32.toNatClampNeg i1)) rfl dX8_endTick_24 eM24 (fun H locs hR hS => ?_)
      refine lv_aload_n hx hb dX8_endTick_25 rfl (lv_at hl 0 rfl) ?_
      refine m_g7_3 hx hb hF hown hR (kWorld0 h_b) mw_1_126 dX8_endTick_26 ?_
      refine lv_iload_n hx hb dX8_endTick_29 rfl (lv_at hl 1 rfl) ?_
      refine lv_iconst (v := 0) hx hb dX8_endTick_30 (by decide) ?_
      obtain ⟨g31, h⟩ := mgd_e h
      obtain ⟨M31, eM31⟩ : ∃ y : mM, y = mI M24 (b + 10) (Int32.toNatClampNeg i1) 0 := ⟨_, rfl⟩
      have h := mlt_n h M31 eM31
      refine m_iastL hx hb hR hS (kWorld10 h_b) g31 (jn := (Int32.toNatClampNeg i1)) rfl dX8_endTick_31 eM31 (fun H locs hR hS => ?_)
      obtain ⟨x32, ex32⟩ : ∃ y : Int32, y = (i1 + 1) := ⟨_, rfl⟩
      have h := mlt_n h x32 ex32
      refine lv_iinc (v := x32) (lv' := [(1, .int x32), (0, .ref (X.1 b))]) hx hb dX8_endTick_32 hl (k := 1) rfl (by rw [ex32]; rfl) (by decide) rfl (fun ls hl => ?_)
      refine lv_goto (tgt := 2) hx hb dX8_endTick_35 (by decide) ?_
      exact ih b x32 h_b M31 h H locs ls hR hS (lv_sub hl [1, 0] rfl)
set_option maxRecDepth 100000 in
set_option maxHeartbeats 4000000 in
theorem w_X8_endTick {l : Launch} {X : mX} {p : Program} {e : Env} {s : State} {m : MethodId} {args : Array Value} {below : List Frame} {meth : Method} {c : Code} {r : mM} (hs : mS X RX8 cX8_endTick 2 none p s m meth c) : ∀ (b : Nat) (h_b : isWorld b) (M : mM), f_X8_endTick b M = some r → mG X p l e (rmF 0 0) s m args below meth c (MQ below (mQv X r) args s 0 0 (mL X)) 2 0 [(0, .ref (X.1 b))] [] M := by
  obtain ⟨hx, hb, hml, hown, hF, hlk, hr⟩ := id hs
  intro b h_b M h H locs ls hR hS hl
  refine lv_iconst (v := 0) hx hb dX8_endTick_0 (by decide) ?_
  refine lv_istore_n (lv' := [(1, .int 0), (0, .ref (X.1 b))]) hx hb dX8_endTick_1 rfl hl (by decide) rfl (fun ls hl => ?_)
  exact w_X8_endTick_b2 hs mN b 0 h_b M h H locs ls hR hS (lv_sub hl [1, 0] rfl)
theorem c_X8_endTick (l : Launch) (X : mX) (b : Nat) (h_b : isWorld b) (M : mM) {r : mM} (h : f_X8_endTick b M = some r) : mMv l yX8_endTick cX8_endTick 2 0 0 X [.ref (X.1 b)] M r := m_ofv (by decide +kernel) (Nat.le_of_ble_eq_true rfl) rfl (fun p e s m args below meth c hs => w_X8_endTick hs b h_b M h)
set_option maxRecDepth 100000 in
set_option maxHeartbeats 4000000 in
theorem w_X9_ticks_b35 {l : Launch} {X : mX} {p : Program} {e : Env} {s : State} {m : MethodId} {args : Array Value} {below : List Frame} {meth : Method} {c : Code} {r : Int32 × mM} (hs : mS X RX9 cX9_ticks 4 (some .int) p s m meth c) : ∀ n : Nat, ∀ (i1 : Int32) (i2 : Int32) (i3 : Int32) (M : mM), f_X9_ticks_b35 n i1 i2 i3 M = some r → mG X p l e (rmF 7 163) s m args below meth c (MQ below (mQi X r.2 r.1) args s 0 0 (mL X)) 4 35 [(0, .ref (X.1 0)), (1, .int i1), (2, .int i2), (3, .int i3)] [] M := by
  obtain ⟨hx, hb, hml, hown, hF, hlk, hr⟩ := id hs
  intro n
  induction n with
  | zero =>
    intro i1 i2 i3 M h
    have h0 : (none : Option (Int32 × mM)) = some r := h
    cases h0
  | succ n ih =>
    intro i1 i2 i3 M h H locs ls hR hS hl
    refine lv_iload_n hx hb dX9_ticks_35 rfl (lv_at hl 3 rfl) ?_
    refine lv_iload_n hx hb dX9_ticks_36 rfl (lv_at hl 1 rfl) ?_
    refine lv_icmp_ge (tgt := 70) hx hb dX9_ticks_37 (by decide) (fun c37 => ?_) (fun c37 => ?_)
    · have h := mif_y h c37
      refine lv_iload_n hx hb dX9_ticks_70 rfl (lv_at hl 2 rfl) ?_
      exact m_ir hx hb hlk hr hR hS (Option.some.inj h).symm dX9_ticks_71
    · have h := mif_n h c37
      refine lv_iload_n hx hb dX9_ticks_40 rfl (lv_at hl 2 rfl) ?_
      refine lv_aload_n hx hb dX9_ticks_41 rfl (lv_at hl 0 rfl) ?_
      refine m_g8_5 hx hb hF hown hR kd_0 mw_2_47 dX9_ticks_42 ?_
      obtain ⟨v45, M45, q45, h⟩ := mbw_e h
      refine m_ci (m_rV hx hb hml hown hF hR hS (ent1 kd_76) kd_76 rfl (c_X1_runAll l X M q45) q_X9_241_V hdV_X1_runAll ⟨Nat.le_of_ble_eq_true rfl, Nat.le_of_ble_eq_true rfl⟩ rfl hl.1 rfl (Nat.le_of_ble_eq_true rfl) dX9_ticks_45) hS (fun H locs hR hS => ?_)
      refine lv_iadd hx hb dX9_ticks_48 ?_
      refine lv_istore_n (lv' := [(2, .int (i2 + v45)), (0, .ref (X.1 0)), (1, .int i1), (3, .int i3)]) hx hb dX9_ticks_49 rfl hl (by decide) rfl (fun ls hl => ?_)
      refine lv_aload_n hx hb dX9_ticks_50 rfl (lv_at hl 1 rfl) ?_
      refine m_g8_0 hx hb hF hown hR kd_0 mw_2_42 dX9_ticks_51 ?_
      obtain ⟨M54, q54, h⟩ := mbp_e h
      refine m_cv (m_rV hx hb hml hown hF hR hS (ent7 kd_1) kd_1 rfl (c_X8_sharePower l X 1 isWorld_1 M45 q54) q_X9_244_V hdV_X8_sharePower ⟨Nat.le_of_ble_eq_true rfl, Nat.le_of_ble_eq_true rfl⟩ rfl hl.1 rfl (Nat.le_of_ble_eq_true rfl) dX9_ticks_54) hS (fun H locs hR hS => ?_)
      refine lv_aload_n hx hb dX9_ticks_57 rfl (lv_at hl 1 rfl) ?_
      refine m_g8_0 hx hb hF hown hR kd_0 mw_2_42 dX9_ticks_58 ?_
      obtain ⟨M61, q61, h⟩ := mbp_e h
      refine m_cv (m_rV hx hb hml hown hF hR hS (ent7 kd_1) kd_1 rfl (c_X8_endTick l X 1 isWorld_1 M54 q61) q_X9_247_V hdV_X8_endTick ⟨Nat.le_of_ble_eq_true rfl, Nat.le_of_ble_eq_true rfl⟩ rfl hl.1 rfl (Nat.le_of_ble_eq_true rfl) dX9_ticks_61) hS (fun H locs hR hS => ?_)
      obtain ⟨x64, ex64⟩ : ∃ y : Int32, y = (i3 + 1) := ⟨_, rfl⟩
      have h := mlt_n h x64 ex64
      refine lv_iinc (v := x64) (lv' := [(3, .int x64), (2, .int (i2 + v45)), (0, .ref (X.1 0)), (1, .int i1)]) hx hb dX9_ticks_64 hl (k := 3) rfl (by rw [ex64]; rfl) (by decide) rfl (fun ls hl => ?_)
      refine lv_goto (tgt := 35) hx hb dX9_ticks_67 (by decide) ?_
      exact ih i1 (i2 + v45) x64 M61 h H locs ls hR hS (lv_sub hl [2, 3, 1, 0] rfl)
set_option maxRecDepth 100000 in
set_option maxHeartbeats 4000000 in
theorem w_X9_ticks {l : Launch} {X : mX} {p : Program} {e : Env} {s : State} {m : MethodId} {args : Array Value} {below : List Frame} {meth : Method} {c : Code} {r : Int32 × mM} (hs : mS X RX9 cX9_ticks 4 (some .int) p s m meth c) : ∀ (i1 : Int32) (M : mM), f_X9_ticks i1 M = some r → mG X p l e (rmF 7 163) s m args below meth c (MQ below (mQi X r.2 r.1) args s 0 0 (mL X)) 4 0 [(0, .ref (X.1 0)), (1, .int i1)] [] M := by
  obtain ⟨hx, hb, hml, hown, hF, hlk, hr⟩ := id hs
  intro i1 M h H locs ls hR hS hl
  refine lv_iload_n hx hb dX9_ticks_0 rfl (lv_at hl 1 rfl) ?_
  refine lv_iconst (v := 1) hx hb dX9_ticks_1 (by decide) ?_
  refine lv_icmp_lt (tgt := 11) hx hb dX9_ticks_2 (by decide) (fun c2 => ?_) (fun c2 => ?_)
  · have h := mif_y h c2
    refine lv_iconst (v := (-1)) hx hb dX9_ticks_11 (by decide) ?_
    exact m_ir hx hb hlk hr hR hS (Option.some.inj h).symm dX9_ticks_12
  · have h := mif_n h c2
    refine lv_iload_n hx hb dX9_ticks_5 rfl (lv_at hl 1 rfl) ?_
    refine lv_bipush (v := 50) hx hb dX9_ticks_6 (by decide) ?_
    refine lv_icmp_le (tgt := 13) hx hb dX9_ticks_8 (by decide) (fun c8 => ?_) (fun c8 => ?_)
    · have h := mif_y h c8
      refine lv_aload_n hx hb dX9_ticks_13 rfl (lv_at hl 0 rfl) ?_
      refine m_g8_0 hx hb hF hown hR kd_0 mw_2_42 dX9_ticks_14 ?_
      refine m_g7_1 hx hb hF hown hR kd_1 mw_1_121 dX9_ticks_17 ?_
      refine lv_iload_n hx hb dX9_ticks_20 rfl (lv_at hl 1 rfl) ?_
      refine lv_iadd hx hb dX9_ticks_21 ?_
      refine lv_sipush (v := 2000) hx hb dX9_ticks_22 (by decide) ?_
      refine lv_icmp_le (tgt := 31) hx hb dX9_ticks_25 (by decide) (fun c25 => ?_) (fun c25 => ?_)
      · have h := mif_y h c25
        refine lv_iconst (v := 0) hx hb dX9_ticks_31 (by decide) ?_
        refine lv_istore_n (lv' := [(2, .int 0), (0, .ref (X.1 0)), (1, .int i1)]) hx hb dX9_ticks_32 rfl hl (by decide) rfl (fun ls hl => ?_)
        refine lv_iconst (v := 0) hx hb dX9_ticks_33 (by decide) ?_
        refine lv_istore_n (lv' := [(3, .int 0), (2, .int 0), (0, .ref (X.1 0)), (1, .int i1)]) hx hb dX9_ticks_34 rfl hl (by decide) rfl (fun ls hl => ?_)
        exact w_X9_ticks_b35 hs mN i1 0 0 M h H locs ls hR hS (lv_sub hl [2, 3, 1, 0] rfl)
      · have h := mif_n h c25
        refine lv_bipush (v := (-2)) hx hb dX9_ticks_28 (by decide) ?_
        exact m_ir hx hb hlk hr hR hS (Option.some.inj h).symm dX9_ticks_30
    · have h := mif_n h c8
      refine lv_iconst (v := (-1)) hx hb dX9_ticks_11 (by decide) ?_
      exact m_ir hx hb hlk hr hR hS (Option.some.inj h).symm dX9_ticks_12
theorem c_X9_ticks (l : Launch) (X : mX) (i1 : Int32) (M : mM) {r : Int32 × mM} (h : f_X9_ticks i1 M = some r) : mMi l yX9_ticks cX9_ticks 4 (some .int) 7 163 X [.ref (X.1 0), .int i1] M r := m_ofi (by decide +kernel) (Nat.le_of_ble_eq_true rfl) rfl (fun p e s m args below meth c hs => w_X9_ticks hs i1 M h)
set_option maxRecDepth 100000 in
set_option maxHeartbeats 4000000 in
theorem w_X8_isTick {l : Launch} {X : mX} {p : Program} {e : Env} {s : State} {m : MethodId} {args : Array Value} {below : List Frame} {meth : Method} {c : Code} {M : mM} {r : Int32} (hs : mS X RX8 cX8_isTick 2 (some .boolean) p s m meth c) : ∀ (b : Nat) (i1 : Int32) (h_b : isWorld b), f_X8_isTick b i1 M = r → mG X p l e (rmF 0 0) s m args below meth c (MQ below (mQi X M r) args s 0 0 (mL X)) 2 0 [(0, .ref (X.1 b)), (1, .int i1)] [] M := by
  obtain ⟨hx, hb, hml, hown, hF, hlk, hr⟩ := id hs
  intro b i1 h_b h H locs ls hR hS hl
  refine lv_iload_n hx hb dX8_isTick_0 rfl (lv_at hl 1 rfl) ?_
  refine lv_if_lt (tgt := 16) hx hb dX8_isTick_1 (by decide) (fun c1 => ?_) (fun c1 => ?_)
  · have h := mif_y h c1
    refine lv_iconst (v := 0) hx hb dX8_isTick_16 (by decide) ?_
    exact m_zr hx hb hlk hr hR hS (Or.inl rfl) (congrArg (fun z => (z, M)) h.symm) dX8_isTick_17
  · have h := mif_n h c1
    refine lv_iload_n hx hb dX8_isTick_4 rfl (lv_at hl 1 rfl) ?_
    refine lv_aload_n hx hb dX8_isTick_5 rfl (lv_at hl 0 rfl) ?_
    refine m_g7_1 hx hb hF hown hR (kWorld0 h_b) mw_1_120 dX8_isTick_6 ?_
    refine lv_icmp_gt (tgt := 16) hx hb dX8_isTick_9 (by decide) (fun c9 => ?_) (fun c9 => ?_)
    · have h := mif_y h c9
      refine lv_iconst (v := 0) hx hb dX8_isTick_16 (by decide) ?_
      exact m_zr hx hb hlk hr hR hS (Or.inl rfl) (congrArg (fun z => (z, M)) h.symm) dX8_isTick_17
    · have h := mif_n h c9
      refine lv_iconst (v := 1) hx hb dX8_isTick_12 (by decide) ?_
      refine lv_goto (tgt := 17) hx hb dX8_isTick_13 (by decide) ?_
      exact m_zr hx hb hlk hr hR hS (Or.inr rfl) (congrArg (fun z => (z, M)) h.symm) dX8_isTick_17
theorem c_X8_isTick (l : Launch) (X : mX) (b : Nat) (i1 : Int32) (h_b : isWorld b) (M : mM) : mMi l yX8_isTick cX8_isTick 2 (some .boolean) 0 0 X [.ref (X.1 b), .int i1] M (f_X8_isTick b i1 M, M) := m_ofi (by decide +kernel) (Nat.le_of_ble_eq_true rfl) rfl (fun p e s m args below meth c hs => w_X8_isTick hs b i1 h_b rfl)
set_option maxRecDepth 100000 in
set_option maxHeartbeats 4000000 in
theorem w_X9_report {l : Launch} {X : mX} {p : Program} {e : Env} {s : State} {m : MethodId} {args : Array Value} {below : List Frame} {meth : Method} {c : Code} {r : Int32 × mM} (hs : mS X RX9 cX9_report 4 (some .int) p s m meth c) : ∀ (i1 : Int32) (i2 : Int32) (i3 : Int32) (M : mM), f_X9_report i1 i2 i3 M = some r → mG X p l e (rmF 1 23) s m args below meth c (MQ below (mQi X r.2 r.1) args s 0 0 (mL X)) 4 0 [(0, .ref (X.1 0)), (1, .int i1), (2, .int i2), (3, .int i3)] [] M := by
  obtain ⟨hx, hb, hml, hown, hF, hlk, hr⟩ := id hs
  intro i1 i2 i3 M h H locs ls hR hS hl
  refine lv_aload_n hx hb dX9_report_0 rfl (lv_at hl 0 rfl) ?_
  refine m_g8_0 hx hb hF hown hR kd_0 mw_2_42 dX9_report_1 ?_
  refine m_g7_0 hx hb hF hown hR kd_1 mw_1_118 dX9_report_4 ?_
  refine lv_iload_n hx hb dX9_report_7 rfl (lv_at hl 1 rfl) ?_
  refine m_ci (m_rV hx hb hml hown hF hR hS (ent0 kd_2) kd_2 rfl (c_X0_has l X 2 i1 isBody_2 M) q_X9_91_V hdV_X0_has ⟨Nat.le_of_ble_eq_true rfl, Nat.le_of_ble_eq_true rfl⟩ rfl hl.1 rfl (Nat.le_of_ble_eq_true rfl) dX9_report_8) hS (fun H locs hR hS => ?_)
  refine lv_if_eq (tgt := 25) hx hb dX9_report_11 (by decide) (fun c11 => ?_) (fun c11 => ?_)
  · have h := mif_y h c11
    refine lv_iconst (v := (-1)) hx hb dX9_report_25 (by decide) ?_
    exact m_ir hx hb hlk hr hR hS (Option.some.inj h).symm dX9_report_26
  · have h := mif_n h c11
    refine lv_aload_n hx hb dX9_report_14 rfl (lv_at hl 0 rfl) ?_
    refine m_g8_0 hx hb hF hown hR kd_0 mw_2_42 dX9_report_15 ?_
    refine lv_iload_n hx hb dX9_report_18 rfl (lv_at hl 2 rfl) ?_
    refine m_ci (m_rV hx hb hml hown hF hR hS (ent7 kd_1) kd_1 rfl (c_X8_isTick l X 1 i2 isWorld_1 M) q_X9_250_V hdV_X8_isTick ⟨Nat.le_of_ble_eq_true rfl, Nat.le_of_ble_eq_true rfl⟩ rfl hl.1 rfl (Nat.le_of_ble_eq_true rfl) dX9_report_19) hS (fun H locs hR hS => ?_)
    refine lv_if_ne (tgt := 27) hx hb dX9_report_22 (by decide) (fun c22 => ?_) (fun c22 => ?_)
    · have h := mif_n h c22
      refine lv_aload_n hx hb dX9_report_27 rfl (lv_at hl 0 rfl) ?_
      refine m_g8_0 hx hb hF hown hR kd_0 mw_2_42 dX9_report_28 ?_
      refine m_g7_12 hx hb hF hown hR kd_1 mw_1_146 dX9_report_31 ?_
      refine m_g2_0 hx hb hF hown hR kd_29 mw_1_101 dX9_report_34 ?_
      refine lv_bipush (v := 40) hx hb dX9_report_37 (by decide) ?_
      refine lv_icmp_lt (tgt := 45) hx hb dX9_report_39 (by decide) (fun c39 => ?_) (fun c39 => ?_)
      · have h := mif_y h c39
        refine lv_aload_n hx hb dX9_report_45 rfl (lv_at hl 0 rfl) ?_
        refine m_g8_0 hx hb hF hown hR kd_0 mw_2_42 dX9_report_46 ?_
        refine m_g7_12 hx hb hF hown hR kd_1 mw_1_146 dX9_report_49 ?_
        refine lv_iload_n hx hb dX9_report_52 rfl (lv_at hl 1 rfl) ?_
        refine lv_iload_n hx hb dX9_report_53 rfl (lv_at hl 2 rfl) ?_
        refine lv_iload_n hx hb dX9_report_54 rfl (lv_at hl 3 rfl) ?_
        obtain ⟨v55, M55, q55, h⟩ := mbw_e h
        refine m_ci (m_rV hx hb hml hown hF hR hS (ent2 kd_29) kd_29 rfl (c_X2_note l X 29 i1 i2 i3 isNotes_29 M q55) q_X9_147_V hdV_X2_note ⟨Nat.le_of_ble_eq_true rfl, Nat.le_of_ble_eq_true rfl⟩ rfl hl.1 rfl (Nat.le_of_ble_eq_true rfl) dX9_report_55) hS (fun H locs hR hS => ?_)
        exact m_ir hx hb hlk hr hR hS (Option.some.inj h).symm dX9_report_58
      · have h := mif_n h c39
        refine lv_bipush (v := (-2)) hx hb dX9_report_42 (by decide) ?_
        exact m_ir hx hb hlk hr hR hS (Option.some.inj h).symm dX9_report_44
    · have h := mif_y h c22
      refine lv_iconst (v := (-1)) hx hb dX9_report_25 (by decide) ?_
      exact m_ir hx hb hlk hr hR hS (Option.some.inj h).symm dX9_report_26
theorem c_X9_report (l : Launch) (X : mX) (i1 : Int32) (i2 : Int32) (i3 : Int32) (M : mM) {r : Int32 × mM} (h : f_X9_report i1 i2 i3 M = some r) : mMi l yX9_report cX9_report 4 (some .int) 1 23 X [.ref (X.1 0), .int i1, .int i2, .int i3] M r := m_ofi (by decide +kernel) (Nat.le_of_ble_eq_true rfl) rfl (fun p e s m args below meth c hs => w_X9_report hs i1 i2 i3 M h)
set_option maxRecDepth 100000 in
set_option maxHeartbeats 4000000 in
theorem w_X8_mayBelieve {l : Launch} {X : mX} {p : Program} {e : Env} {s : State} {m : MethodId} {args : Array Value} {below : List Frame} {meth : Method} {c : Code} {M : mM} {r : Int32} (hs : mS X RX8 cX8_mayBelieve 2 (some .boolean) p s m meth c) : ∀ (b : Nat) (i1 : Int32) (h_b : isWorld b), f_X8_mayBelieve b i1 M = r → mG X p l e (rmF 0 0) s m args below meth c (MQ below (mQi X M r) args s 0 0 (mL X)) 2 0 [(0, .ref (X.1 b)), (1, .int i1)] [] M := by
  obtain ⟨hx, hb, hml, hown, hF, hlk, hr⟩ := id hs
  intro b i1 h_b h H locs ls hR hS hl
  refine lv_iload_n hx hb dX8_mayBelieve_0 rfl (lv_at hl 1 rfl) ?_
  refine lv_iconst (v := (-1)) hx hb dX8_mayBelieve_1 (by decide) ?_
  refine lv_icmp_lt (tgt := 20) hx hb dX8_mayBelieve_2 (by decide) (fun c2 => ?_) (fun c2 => ?_)
  · have h := mif_y h c2
    refine lv_iconst (v := 0) hx hb dX8_mayBelieve_20 (by decide) ?_
    exact m_zr hx hb hlk hr hR hS (Or.inl rfl) (congrArg (fun z => (z, M)) h.symm) dX8_mayBelieve_21
  · have h := mif_n h c2
    refine lv_iload_n hx hb dX8_mayBelieve_5 rfl (lv_at hl 1 rfl) ?_
    refine lv_aload_n hx hb dX8_mayBelieve_6 rfl (lv_at hl 0 rfl) ?_
    refine m_g7_12 hx hb hF hown hR (kWorld0 h_b) mw_1_145 dX8_mayBelieve_7 ?_
    refine m_g2_0 hx hb hF hown hR (kWorld28 h_b) mw_1_102 dX8_mayBelieve_10 ?_
    refine lv_icmp_gt (tgt := 20) hx hb dX8_mayBelieve_13 (by decide) (fun c13 => ?_) (fun c13 => ?_)
    · have h := mif_y h c13
      refine lv_iconst (v := 0) hx hb dX8_mayBelieve_20 (by decide) ?_
      exact m_zr hx hb hlk hr hR hS (Or.inl rfl) (congrArg (fun z => (z, M)) h.symm) dX8_mayBelieve_21
    · have h := mif_n h c13
      refine lv_iconst (v := 1) hx hb dX8_mayBelieve_16 (by decide) ?_
      refine lv_goto (tgt := 21) hx hb dX8_mayBelieve_17 (by decide) ?_
      exact m_zr hx hb hlk hr hR hS (Or.inr rfl) (congrArg (fun z => (z, M)) h.symm) dX8_mayBelieve_21
theorem c_X8_mayBelieve (l : Launch) (X : mX) (b : Nat) (i1 : Int32) (h_b : isWorld b) (M : mM) : mMi l yX8_mayBelieve cX8_mayBelieve 2 (some .boolean) 0 0 X [.ref (X.1 b), .int i1] M (f_X8_mayBelieve b i1 M, M) := m_ofi (by decide +kernel) (Nat.le_of_ble_eq_true rfl) rfl (fun p e s m args below meth c hs => w_X8_mayBelieve hs b i1 h_b rfl)
set_option maxRecDepth 100000 in
set_option maxHeartbeats 4000000 in
theorem w_X2_firstOf {l : Launch} {X : mX} {p : Program} {e : Env} {s : State} {m : MethodId} {args : Array Value} {below : List Frame} {meth : Method} {c : Code} {M : mM} {r : Int32} (hs : mS X RX2 cX2_firstOf 2 (some .int) p s m meth c) : ∀ (b : Nat) (i1 : Int32) (h_b : isNotes b), f_X2_firstOf b i1 M = r → mG X p l e (rmF 0 0) s m args below meth c (MQ below (mQi X M r) args s 0 0 (mL X)) 2 0 [(0, .ref (X.1 b)), (1, .int i1)] [] M := by
  obtain ⟨hx, hb, hml, hown, hF, hlk, hr⟩ := id hs
  intro b i1 h_b h H locs ls hR hS hl
  refine lv_iload_n hx hb dX2_firstOf_0 rfl (lv_at hl 1 rfl) ?_
  refine lv_if_lt (tgt := 12) hx hb dX2_firstOf_1 (by decide) (fun c1 => ?_) (fun c1 => ?_)
  · have h := mif_y h c1
    refine lv_aload_n hx hb dX2_firstOf_12 rfl (lv_at hl 0 rfl) ?_
    refine m_g2_0 hx hb hF hown hR (kNotes0 h_b) mw_1_100 dX2_firstOf_13 ?_
    refine lv_goto (tgt := 20) hx hb dX2_firstOf_16 (by decide) ?_
    exact m_ir hx hb hlk hr hR hS (congrArg (fun z => (z, M)) h.symm) dX2_firstOf_20
  · have h := mif_n h c1
    refine lv_iload_n hx hb dX2_firstOf_4 rfl (lv_at hl 1 rfl) ?_
    refine lv_aload_n hx hb dX2_firstOf_5 rfl (lv_at hl 0 rfl) ?_
    refine m_g2_0 hx hb hF hown hR (kNotes0 h_b) mw_1_100 dX2_firstOf_6 ?_
    refine lv_icmp_le (tgt := 19) hx hb dX2_firstOf_9 (by decide) (fun c9 => ?_) (fun c9 => ?_)
    · have h := mif_y h c9
      refine lv_iload_n hx hb dX2_firstOf_19 rfl (lv_at hl 1 rfl) ?_
      exact m_ir hx hb hlk hr hR hS (congrArg (fun z => (z, M)) h.symm) dX2_firstOf_20
    · have h := mif_n h c9
      refine lv_aload_n hx hb dX2_firstOf_12 rfl (lv_at hl 0 rfl) ?_
      refine m_g2_0 hx hb hF hown hR (kNotes0 h_b) mw_1_100 dX2_firstOf_13 ?_
      refine lv_goto (tgt := 20) hx hb dX2_firstOf_16 (by decide) ?_
      exact m_ir hx hb hlk hr hR hS (congrArg (fun z => (z, M)) h.symm) dX2_firstOf_20
theorem c_X2_firstOf (l : Launch) (X : mX) (b : Nat) (i1 : Int32) (h_b : isNotes b) (M : mM) : mMi l yX2_firstOf cX2_firstOf 2 (some .int) 0 0 X [.ref (X.1 b), .int i1] M (f_X2_firstOf b i1 M, M) := m_ofi (by decide +kernel) (Nat.le_of_ble_eq_true rfl) rfl (fun p e s m args below meth c hs => w_X2_firstOf hs b i1 h_b rfl)
set_option maxRecDepth 100000 in
set_option maxHeartbeats 4000000 in
theorem w_X2_tellDead_b9 {l : Launch} {X : mX} {p : Program} {e : Env} {s : State} {m : MethodId} {args : Array Value} {below : List Frame} {meth : Method} {c : Code} {M : mM} {r : Int32} (hs : mS X RX2 cX2_tellDead 7 (some .boolean) p s m meth c) : ∀ n : Nat, ∀ (b : Nat) (i1 : Int32) (i2 : Int32) (i3 : Int32) (i4 : Int32) (i5 : Int32) (i6 : Int32) (h_b : isNotes b), f_X2_tellDead_b9 n b i1 i2 i3 i4 i5 i6 M = some r → mG X p l e (rmF 0 0) s m args below meth c (MQ below (mQi X M r) args s 0 0 (mL X)) 7 9 [(0, .ref (X.1 b)), (1, .int i1), (2, .int i2), (3, .int i3), (4, .int i4), (5, .int i5), (6, .int i6)] [] M := by
  obtain ⟨hx, hb, hml, hown, hF, hlk, hr⟩ := id hs
  intro n
  induction n with
  | zero =>
    intro b i1 i2 i3 i4 i5 i6 h_b h
    have h0 : (none : Option (Int32)) = some r := h
    cases h0
  | succ n ih =>
    intro b i1 i2 i3 i4 i5 i6 h_b h H locs ls hR hS hl
    refine lv_iload hx hb dX2_tellDead_9 (lv_at hl 6 rfl) ?_
    refine lv_iload_n hx hb dX2_tellDead_11 rfl (lv_at hl 3 rfl) ?_
    refine lv_icmp_ge (tgt := 82) hx hb dX2_tellDead_12 (by decide) (fun c12 => ?_) (fun c12 => ?_)
    · have h := mif_y h c12
      refine lv_iload hx hb dX2_tellDead_82 (lv_at hl 5 rfl) ?_
      obtain ⟨g84, h⟩ := mgd_e h
      exact m_zr hx hb hlk hr hR hS g84 (congrArg (fun z => (z, M)) (Option.some.inj h).symm) dX2_tellDead_84
    · have h := mif_n h c12
      refine lv_iload hx hb dX2_tellDead_15 (lv_at hl 6 rfl) ?_
      refine lv_aload_n hx hb dX2_tellDead_17 rfl (lv_at hl 0 rfl) ?_
      refine m_g2_0 hx hb hF hown hR (kNotes0 h_b) mw_1_100 dX2_tellDead_18 ?_
      refine lv_icmp_ge (tgt := 82) hx hb dX2_tellDead_21 (by decide) (fun c21 => ?_) (fun c21 => ?_)
      · have h := mif_y h c21
        refine lv_iload hx hb dX2_tellDead_82 (lv_at hl 5 rfl) ?_
        obtain ⟨g84, h⟩ := mgd_e h
        exact m_zr hx hb hlk hr hR hS g84 (congrArg (fun z => (z, M)) (Option.some.inj h).symm) dX2_tellDead_84
      · have h := mif_n h c21
        refine lv_aload_n hx hb dX2_tellDead_24 rfl (lv_at hl 0 rfl) ?_
        refine m_g2_1 hx hb hF hown hR (kNotes0 h_b) mw_1_103 dX2_tellDead_25 ?_
        refine lv_iload hx hb dX2_tellDead_28 (lv_at hl 6 rfl) ?_
        obtain ⟨g30, h⟩ := mgd_e h
        refine m_ialdL hx hb hR (kNotes1 h_b) g30 (jn := (Int32.toNatClampNeg i6)) rfl dX2_tellDead_30 ?_
        refine lv_iload_n hx hb dX2_tellDead_31 rfl (lv_at hl 1 rfl) ?_
        refine lv_icmp_ne (tgt := 76) hx hb dX2_tellDead_32 (by decide) (fun c32 => ?_) (fun c32 => ?_)
        · have h := mif_n h c32
          obtain ⟨x76, ex76⟩ : ∃ y : Int32, y = (i6 + 1) := ⟨_, rfl⟩
          have h := mlt_n h x76 ex76
          refine lv_iinc (v := x76) (lv' := [(6, .int x76), (0, .ref (X.1 b)), (1, .int i1), (2, .int i2), (3, .int i3), (4, .int i4), (5, .int i5)]) hx hb dX2_tellDead_76 hl (k := 6) rfl (by rw [ex76]; rfl) (by decide) rfl (fun ls hl => ?_)
          refine lv_goto (tgt := 9) hx hb dX2_tellDead_79 (by decide) ?_
          exact ih b i1 i2 i3 i4 i5 x76 h_b h H locs ls hR hS (lv_sub hl [1, 2, 3, 4, 5, 6, 0] rfl)
        · have h := mif_y h c32
          refine lv_aload_n hx hb dX2_tellDead_35 rfl (lv_at hl 0 rfl) ?_
          refine m_g2_2 hx hb hF hown hR (kNotes0 h_b) mw_1_104 dX2_tellDead_36 ?_
          refine lv_iload hx hb dX2_tellDead_39 (lv_at hl 6 rfl) ?_
          obtain ⟨g41, h⟩ := mgd_e h
          refine m_ialdL hx hb hR (kNotes2 h_b) g41 (jn := (Int32.toNatClampNeg i6)) rfl dX2_tellDead_41 ?_
          refine lv_iload_n hx hb dX2_tellDead_42 rfl (lv_at hl 2 rfl) ?_
          refine lv_icmp_gt (tgt := 76) hx hb dX2_tellDead_43 (by decide) (fun c43 => ?_) (fun c43 => ?_)
          · have h := mif_y h c43
            obtain ⟨x76, ex76⟩ : ∃ y : Int32, y = (i6 + 1) := ⟨_, rfl⟩
            have h := mlt_n h x76 ex76
            refine lv_iinc (v := x76) (lv' := [(6, .int x76), (0, .ref (X.1 b)), (1, .int i1), (2, .int i2), (3, .int i3), (4, .int i4), (5, .int i5)]) hx hb dX2_tellDead_76 hl (k := 6) rfl (by rw [ex76]; rfl) (by decide) rfl (fun ls hl => ?_)
            refine lv_goto (tgt := 9) hx hb dX2_tellDead_79 (by decide) ?_
            exact ih b i1 i2 i3 i4 i5 x76 h_b h H locs ls hR hS (lv_sub hl [1, 2, 3, 4, 5, 6, 0] rfl)
          · have h := mif_n h c43
            refine lv_aload_n hx hb dX2_tellDead_46 rfl (lv_at hl 0 rfl) ?_
            refine m_g2_2 hx hb hF hown hR (kNotes0 h_b) mw_1_104 dX2_tellDead_47 ?_
            refine lv_iload hx hb dX2_tellDead_50 (lv_at hl 6 rfl) ?_
            obtain ⟨g52, h⟩ := mgd_e h
            refine m_ialdL hx hb hR (kNotes2 h_b) g52 (jn := (Int32.toNatClampNeg i6)) rfl dX2_tellDead_52 ?_
            refine lv_iload hx hb dX2_tellDead_53 (lv_at hl 4 rfl) ?_
            refine lv_icmp_lt (tgt := 76) hx hb dX2_tellDead_55 (by decide) (fun c55 => ?_) (fun c55 => ?_)
            · have h := mif_y h c55
              obtain ⟨x76, ex76⟩ : ∃ y : Int32, y = (i6 + 1) := ⟨_, rfl⟩
              have h := mlt_n h x76 ex76
              refine lv_iinc (v := x76) (lv' := [(6, .int x76), (0, .ref (X.1 b)), (1, .int i1), (2, .int i2), (3, .int i3), (4, .int i4), (5, .int i5)]) hx hb dX2_tellDead_76 hl (k := 6) rfl (by rw [ex76]; rfl) (by decide) rfl (fun ls hl => ?_)
              refine lv_goto (tgt := 9) hx hb dX2_tellDead_79 (by decide) ?_
              exact ih b i1 i2 i3 i4 i5 x76 h_b h H locs ls hR hS (lv_sub hl [1, 2, 3, 4, 5, 6, 0] rfl)
            · have h := mif_n h c55
              refine lv_aload_n hx hb dX2_tellDead_58 rfl (lv_at hl 0 rfl) ?_
              refine m_g2_2 hx hb hF hown hR (kNotes0 h_b) mw_1_104 dX2_tellDead_59 ?_
              refine lv_iload hx hb dX2_tellDead_62 (lv_at hl 6 rfl) ?_
              obtain ⟨g64, h⟩ := mgd_e h
              refine m_ialdL hx hb hR (kNotes2 h_b) g64 (jn := (Int32.toNatClampNeg i6)) rfl dX2_tellDead_64 ?_
              refine lv_topi (fun x65 ex65 => ?_)
              have h := mlt_n h x65 ex65
              refine lv_istore (lv' := [(4, .int x65), (0, .ref (X.1 b)), (1, .int i1), (2, .int i2), (3, .int i3), (5, .int i5), (6, .int i6)]) hx hb dX2_tellDead_65 hl (by decide) rfl (fun ls hl => ?_)
              refine lv_aload_n hx hb dX2_tellDead_67 rfl (lv_at hl 1 rfl) ?_
              refine m_g2_3 hx hb hF hown hR (kNotes0 h_b) mw_1_105 dX2_tellDead_68 ?_
              refine lv_iload hx hb dX2_tellDead_71 (lv_at hl 6 rfl) ?_
              obtain ⟨g73, h⟩ := mgd_e h
              refine m_zaldL hx hb hR (kNotes3 h_b) g73 (jn := (Int32.toNatClampNeg i6)) rfl dX2_tellDead_73 ?_
              refine lv_topi (fun x74 ex74 => ?_)
              have h := mlt_n h x74 ex74
              refine lv_istore (lv' := [(5, .int x74), (4, .int x65), (0, .ref (X.1 b)), (1, .int i1), (2, .int i2), (3, .int i3), (6, .int i6)]) hx hb dX2_tellDead_74 hl (by decide) rfl (fun ls hl => ?_)
              obtain ⟨x76, ex76⟩ : ∃ y : Int32, y = (i6 + 1) := ⟨_, rfl⟩
              have h := mlt_n h x76 ex76
              refine lv_iinc (v := x76) (lv' := [(6, .int x76), (5, .int x74), (4, .int x65), (0, .ref (X.1 b)), (1, .int i1), (2, .int i2), (3, .int i3)]) hx hb dX2_tellDead_76 hl (k := 6) rfl (by rw [ex76]; rfl) (by decide) rfl (fun ls hl => ?_)
              refine lv_goto (tgt := 9) hx hb dX2_tellDead_79 (by decide) ?_
              exact ih b i1 i2 i3 x65 x74 x76 h_b h H locs ls hR hS (lv_sub hl [3, 4, 5, 6, 2, 1, 0] rfl)
set_option maxRecDepth 100000 in
set_option maxHeartbeats 4000000 in
theorem w_X2_tellDead {l : Launch} {X : mX} {p : Program} {e : Env} {s : State} {m : MethodId} {args : Array Value} {below : List Frame} {meth : Method} {c : Code} {M : mM} {r : Int32} (hs : mS X RX2 cX2_tellDead 7 (some .boolean) p s m meth c) : ∀ (b : Nat) (i1 : Int32) (i2 : Int32) (i3 : Int32) (h_b : isNotes b), f_X2_tellDead b i1 i2 i3 M = some r → mG X p l e (rmF 0 0) s m args below meth c (MQ below (mQi X M r) args s 0 0 (mL X)) 7 0 [(0, .ref (X.1 b)), (1, .int i1), (2, .int i2), (3, .int i3)] [] M := by
  obtain ⟨hx, hb, hml, hown, hF, hlk, hr⟩ := id hs
  intro b i1 i2 i3 h_b h H locs ls hR hS hl
  refine lv_iconst (v := (-1)) hx hb dX2_tellDead_0 (by decide) ?_
  refine lv_istore (lv' := [(4, .int (-1)), (0, .ref (X.1 b)), (1, .int i1), (2, .int i2), (3, .int i3)]) hx hb dX2_tellDead_1 hl (by decide) rfl (fun ls hl => ?_)
  refine lv_iconst (v := 0) hx hb dX2_tellDead_3 (by decide) ?_
  refine lv_istore (lv' := [(5, .int 0), (4, .int (-1)), (0, .ref (X.1 b)), (1, .int i1), (2, .int i2), (3, .int i3)]) hx hb dX2_tellDead_4 hl (by decide) rfl (fun ls hl => ?_)
  refine lv_iconst (v := 0) hx hb dX2_tellDead_6 (by decide) ?_
  refine lv_istore (lv' := [(6, .int 0), (5, .int 0), (4, .int (-1)), (0, .ref (X.1 b)), (1, .int i1), (2, .int i2), (3, .int i3)]) hx hb dX2_tellDead_7 hl (by decide) rfl (fun ls hl => ?_)
  exact w_X2_tellDead_b9 hs mN b i1 i2 i3 (-1) 0 0 h_b h H locs ls hR hS (lv_sub hl [3, 4, 5, 6, 2, 1, 0] rfl)
theorem c_X2_tellDead (l : Launch) (X : mX) (b : Nat) (i1 : Int32) (i2 : Int32) (i3 : Int32) (h_b : isNotes b) (M : mM) {r : Int32} (h : f_X2_tellDead b i1 i2 i3 M = some r) : mMi l yX2_tellDead cX2_tellDead 7 (some .boolean) 0 0 X [.ref (X.1 b), .int i1, .int i2, .int i3] M (r, M) := m_ofi (by decide +kernel) (Nat.le_of_ble_eq_true rfl) rfl (fun p e s m args below meth c hs => w_X2_tellDead hs b i1 i2 i3 h_b h)
set_option maxRecDepth 100000 in
set_option maxHeartbeats 4000000 in
theorem w_X9_believed {l : Launch} {X : mX} {p : Program} {e : Env} {s : State} {m : MethodId} {args : Array Value} {below : List Frame} {meth : Method} {c : Code} {M : mM} {r : Int32} (hs : mS X RX9 cX9_believed 4 (some .int) p s m meth c) : ∀ (i1 : Int32) (i2 : Int32) (i3 : Int32), f_X9_believed i1 i2 i3 M = some r → mG X p l e (rmF 1 26) s m args below meth c (MQ below (mQi X M r) args s 0 0 (mL X)) 4 0 [(0, .ref (X.1 0)), (1, .int i1), (2, .int i2), (3, .int i3)] [] M := by
  obtain ⟨hx, hb, hml, hown, hF, hlk, hr⟩ := id hs
  intro i1 i2 i3 h H locs ls hR hS hl
  refine lv_aload_n hx hb dX9_believed_0 rfl (lv_at hl 0 rfl) ?_
  refine m_g8_0 hx hb hF hown hR kd_0 mw_2_42 dX9_believed_1 ?_
  refine m_g7_0 hx hb hF hown hR kd_1 mw_1_118 dX9_believed_4 ?_
  refine lv_iload_n hx hb dX9_believed_7 rfl (lv_at hl 1 rfl) ?_
  refine m_ci (m_rV hx hb hml hown hF hR hS (ent0 kd_2) kd_2 rfl (c_X0_has l X 2 i1 isBody_2 M) q_X9_91_V hdV_X0_has ⟨Nat.le_of_ble_eq_true rfl, Nat.le_of_ble_eq_true rfl⟩ rfl hl.1 rfl (Nat.le_of_ble_eq_true rfl) dX9_believed_8) hS (fun H locs hR hS => ?_)
  refine lv_if_eq (tgt := 36) hx hb dX9_believed_11 (by decide) (fun c11 => ?_) (fun c11 => ?_)
  · have h := mif_y h c11
    refine lv_iconst (v := (-1)) hx hb dX9_believed_36 (by decide) ?_
    exact m_ir hx hb hlk hr hR hS (congrArg (fun z => (z, M)) (Option.some.inj h).symm) dX9_believed_37
  · have h := mif_n h c11
    refine lv_aload_n hx hb dX9_believed_14 rfl (lv_at hl 0 rfl) ?_
    refine m_g8_0 hx hb hF hown hR kd_0 mw_2_42 dX9_believed_15 ?_
    refine lv_iload_n hx hb dX9_believed_18 rfl (lv_at hl 2 rfl) ?_
    refine m_ci (m_rV hx hb hml hown hF hR hS (ent7 kd_1) kd_1 rfl (c_X8_isTick l X 1 i2 isWorld_1 M) q_X9_250_V hdV_X8_isTick ⟨Nat.le_of_ble_eq_true rfl, Nat.le_of_ble_eq_true rfl⟩ rfl hl.1 rfl (Nat.le_of_ble_eq_true rfl) dX9_believed_19) hS (fun H locs hR hS => ?_)
    refine lv_if_eq (tgt := 36) hx hb dX9_believed_22 (by decide) (fun c22 => ?_) (fun c22 => ?_)
    · have h := mif_y h c22
      refine lv_iconst (v := (-1)) hx hb dX9_believed_36 (by decide) ?_
      exact m_ir hx hb hlk hr hR hS (congrArg (fun z => (z, M)) (Option.some.inj h).symm) dX9_believed_37
    · have h := mif_n h c22
      refine lv_aload_n hx hb dX9_believed_25 rfl (lv_at hl 0 rfl) ?_
      refine m_g8_0 hx hb hF hown hR kd_0 mw_2_42 dX9_believed_26 ?_
      refine lv_iload_n hx hb dX9_believed_29 rfl (lv_at hl 3 rfl) ?_
      refine m_ci (m_rV hx hb hml hown hF hR hS (ent7 kd_1) kd_1 rfl (c_X8_mayBelieve l X 1 i3 isWorld_1 M) q_X9_256_V hdV_X8_mayBelieve ⟨Nat.le_of_ble_eq_true rfl, Nat.le_of_ble_eq_true rfl⟩ rfl hl.1 rfl (Nat.le_of_ble_eq_true rfl) dX9_believed_30) hS (fun H locs hR hS => ?_)
      refine lv_if_ne (tgt := 38) hx hb dX9_believed_33 (by decide) (fun c33 => ?_) (fun c33 => ?_)
      · have h := mif_n h c33
        refine lv_aload_n hx hb dX9_believed_38 rfl (lv_at hl 0 rfl) ?_
        refine m_g8_0 hx hb hF hown hR kd_0 mw_2_42 dX9_believed_39 ?_
        refine m_g7_12 hx hb hF hown hR kd_1 mw_1_146 dX9_believed_42 ?_
        refine lv_iload_n hx hb dX9_believed_45 rfl (lv_at hl 1 rfl) ?_
        refine lv_iload_n hx hb dX9_believed_46 rfl (lv_at hl 2 rfl) ?_
        refine lv_aload_n hx hb dX9_believed_47 rfl (lv_at hl 0 rfl) ?_
        refine m_g8_0 hx hb hF hown hR kd_0 mw_2_42 dX9_believed_48 ?_
        refine m_g7_12 hx hb hF hown hR kd_1 mw_1_146 dX9_believed_51 ?_
        refine lv_iload_n hx hb dX9_believed_54 rfl (lv_at hl 3 rfl) ?_
        refine m_ci (m_rV hx hb hml hown hF hR hS (ent2 kd_29) kd_29 rfl (c_X2_firstOf l X 29 i3 isNotes_29 M) q_X9_259_V hdV_X2_firstOf ⟨Nat.le_of_ble_eq_true rfl, Nat.le_of_ble_eq_true rfl⟩ rfl hl.1 rfl (Nat.le_of_ble_eq_true rfl) dX9_believed_55) hS (fun H locs hR hS => ?_)
        obtain ⟨v58, q58, h⟩ := mbp_e h
        refine m_ci (m_rV hx hb hml hown hF hR hS (ent2 kd_29) kd_29 rfl (c_X2_tellDead l X 29 i1 i2 (f_X2_firstOf 29 i3 M) isNotes_29 M q58) q_X9_262_V hdV_X2_tellDead ⟨Nat.le_of_ble_eq_true rfl, Nat.le_of_ble_eq_true rfl⟩ rfl hl.1 rfl (Nat.le_of_ble_eq_true rfl) dX9_believed_58) hS (fun H locs hR hS => ?_)
        refine m_ci (m_rS hx hb hml hown hF hR hS (c_X9_oneIf l X v58 M) q_X9_115_S hdS_X9_oneIf ⟨Nat.le_of_ble_eq_true rfl, Nat.le_of_ble_eq_true rfl⟩ rfl hl.1 rfl (Nat.le_of_ble_eq_true rfl) dX9_believed_61) hS (fun H locs hR hS => ?_)
        exact m_ir hx hb hlk hr hR hS (congrArg (fun z => (z, M)) (Option.some.inj h).symm) dX9_believed_64
      · have h := mif_y h c33
        refine lv_iconst (v := (-1)) hx hb dX9_believed_36 (by decide) ?_
        exact m_ir hx hb hlk hr hR hS (congrArg (fun z => (z, M)) (Option.some.inj h).symm) dX9_believed_37
theorem c_X9_believed (l : Launch) (X : mX) (i1 : Int32) (i2 : Int32) (i3 : Int32) (M : mM) {r : Int32} (h : f_X9_believed i1 i2 i3 M = some r) : mMi l yX9_believed cX9_believed 4 (some .int) 1 26 X [.ref (X.1 0), .int i1, .int i2, .int i3] M (r, M) := m_ofi (by decide +kernel) (Nat.le_of_ble_eq_true rfl) rfl (fun p e s m args below meth c hs => w_X9_believed hs i1 i2 i3 h)
set_option maxRecDepth 100000 in
set_option maxHeartbeats 4000000 in
theorem w_X2_nextNoted_b6 {l : Launch} {X : mX} {p : Program} {e : Env} {s : State} {m : MethodId} {args : Array Value} {below : List Frame} {meth : Method} {c : Code} {M : mM} {r : Int32} (hs : mS X RX2 cX2_nextNoted 6 (some .int) p s m meth c) : ∀ n : Nat, ∀ (b : Nat) (i1 : Int32) (i2 : Int32) (i4 : Int32) (i5 : Int32) (h_b : isNotes b), f_X2_nextNoted_b6 n b i1 i2 i4 i5 M = some r → mG X p l e (rmF 0 0) s m args below meth c (MQ below (mQi X M r) args s 0 0 (mL X)) 6 6 [(0, .ref (X.1 b)), (1, .int i1), (2, .int i2), (4, .int i4), (5, .int i5)] [] M := by
  obtain ⟨hx, hb, hml, hown, hF, hlk, hr⟩ := id hs
  intro n
  induction n with
  | zero =>
    intro b i1 i2 i4 i5 h_b h
    have h0 : (none : Option (Int32)) = some r := h
    cases h0
  | succ n ih =>
    intro b i1 i2 i4 i5 h_b h H locs ls hR hS hl
    refine lv_iload hx hb dX2_nextNoted_6 (lv_at hl 4 rfl) ?_
    refine lv_aload_n hx hb dX2_nextNoted_8 rfl (lv_at hl 0 rfl) ?_
    refine m_g2_0 hx hb hF hown hR (kNotes0 h_b) mw_1_100 dX2_nextNoted_9 ?_
    refine lv_icmp_ge (tgt := 64) hx hb dX2_nextNoted_12 (by decide) (fun c12 => ?_) (fun c12 => ?_)
    · have h := mif_y h c12
      refine lv_iload hx hb dX2_nextNoted_64 (lv_at hl 3 rfl) ?_
      exact m_ir hx hb hlk hr hR hS (congrArg (fun z => (z, M)) (Option.some.inj h).symm) dX2_nextNoted_66
    · have h := mif_n h c12
      refine lv_aload_n hx hb dX2_nextNoted_15 rfl (lv_at hl 0 rfl) ?_
      refine m_g2_1 hx hb hF hown hR (kNotes0 h_b) mw_1_103 dX2_nextNoted_16 ?_
      refine lv_iload hx hb dX2_nextNoted_19 (lv_at hl 4 rfl) ?_
      obtain ⟨g21, h⟩ := mgd_e h
      refine m_ialdL hx hb hR (kNotes1 h_b) g21 (jn := (Int32.toNatClampNeg i5)) rfl dX2_nextNoted_21 ?_
      refine lv_iload_n hx hb dX2_nextNoted_22 rfl (lv_at hl 1 rfl) ?_
      refine lv_icmp_ne (tgt := 58) hx hb dX2_nextNoted_23 (by decide) (fun c23 => ?_) (fun c23 => ?_)
      · have h := mif_n h c23
        obtain ⟨x58, ex58⟩ : ∃ y : Int32, y = (i5 + 1) := ⟨_, rfl⟩
        have h := mlt_n h x58 ex58
        refine lv_iinc (v := x58) (lv' := [(5, .int x58), (0, .ref (X.1 b)), (1, .int i1), (2, .int i2), (4, .int i4)]) hx hb dX2_nextNoted_58 hl (k := 4) rfl (by rw [ex58]; rfl) (by decide) rfl (fun ls hl => ?_)
        refine lv_goto (tgt := 6) hx hb dX2_nextNoted_61 (by decide) ?_
        exact ih b i1 i2 i4 x58 h_b h H locs ls hR hS (lv_sub hl [1, 2, 3, 4, 0] rfl)
      · have h := mif_y h c23
        refine lv_aload_n hx hb dX2_nextNoted_26 rfl (lv_at hl 0 rfl) ?_
        refine m_g2_2 hx hb hF hown hR (kNotes0 h_b) mw_1_104 dX2_nextNoted_27 ?_
        refine lv_iload hx hb dX2_nextNoted_30 (lv_at hl 4 rfl) ?_
        obtain ⟨g32, h⟩ := mgd_e h
        refine m_ialdL hx hb hR (kNotes2 h_b) g32 (jn := (Int32.toNatClampNeg i5)) rfl dX2_nextNoted_32 ?_
        refine lv_iload_n hx hb dX2_nextNoted_33 rfl (lv_at hl 2 rfl) ?_
        refine lv_icmp_le (tgt := 58) hx hb dX2_nextNoted_34 (by decide) (fun c34 => ?_) (fun c34 => ?_)
        · have h := mif_y h c34
          obtain ⟨x58, ex58⟩ : ∃ y : Int32, y = (i5 + 1) := ⟨_, rfl⟩
          have h := mlt_n h x58 ex58
          refine lv_iinc (v := x58) (lv' := [(5, .int x58), (0, .ref (X.1 b)), (1, .int i1), (2, .int i2), (4, .int i4)]) hx hb dX2_nextNoted_58 hl (k := 4) rfl (by rw [ex58]; rfl) (by decide) rfl (fun ls hl => ?_)
          refine lv_goto (tgt := 6) hx hb dX2_nextNoted_61 (by decide) ?_
          exact ih b i1 i2 i4 x58 h_b h H locs ls hR hS (lv_sub hl [1, 2, 3, 4, 0] rfl)
        · have h := mif_n h c34
          refine lv_aload_n hx hb dX2_nextNoted_37 rfl (lv_at hl 0 rfl) ?_
          refine m_g2_2 hx hb hF hown hR (kNotes0 h_b) mw_1_104 dX2_nextNoted_38 ?_
          refine lv_iload hx hb dX2_nextNoted_41 (lv_at hl 4 rfl) ?_
          obtain ⟨g43, h⟩ := mgd_e h
          refine m_ialdL hx hb hR (kNotes2 h_b) g43 (jn := (Int32.toNatClampNeg i5)) rfl dX2_nextNoted_43 ?_
          refine lv_iload hx hb dX2_nextNoted_44 (lv_at hl 3 rfl) ?_
          refine lv_icmp_ge (tgt := 58) hx hb dX2_nextNoted_46 (by decide) (fun c46 => ?_) (fun c46 => ?_)
          · have h := mif_y h c46
            obtain ⟨x58, ex58⟩ : ∃ y : Int32, y = (i5 + 1) := ⟨_, rfl⟩
            have h := mlt_n h x58 ex58
            refine lv_iinc (v := x58) (lv' := [(5, .int x58), (0, .ref (X.1 b)), (1, .int i1), (2, .int i2), (4, .int i4)]) hx hb dX2_nextNoted_58 hl (k := 4) rfl (by rw [ex58]; rfl) (by decide) rfl (fun ls hl => ?_)
            refine lv_goto (tgt := 6) hx hb dX2_nextNoted_61 (by decide) ?_
            exact ih b i1 i2 i4 x58 h_b h H locs ls hR hS (lv_sub hl [1, 2, 3, 4, 0] rfl)
          · have h := mif_n h c46
            refine lv_aload_n hx hb dX2_nextNoted_49 rfl (lv_at hl 0 rfl) ?_
            refine m_g2_2 hx hb hF hown hR (kNotes0 h_b) mw_1_104 dX2_nextNoted_50 ?_
            refine lv_iload hx hb dX2_nextNoted_53 (lv_at hl 4 rfl) ?_
            obtain ⟨g55, h⟩ := mgd_e h
            refine m_ialdL hx hb hR (kNotes2 h_b) g55 (jn := (Int32.toNatClampNeg i5)) rfl dX2_nextNoted_55 ?_
            refine lv_topi (fun x56 ex56 => ?_)
            have h := mlt_n h x56 ex56
            refine lv_istore (lv' := [(4, .int x56), (0, .ref (X.1 b)), (1, .int i1), (2, .int i2), (5, .int i5)]) hx hb dX2_nextNoted_56 hl (by decide) rfl (fun ls hl => ?_)
            obtain ⟨x58, ex58⟩ : ∃ y : Int32, y = (i5 + 1) := ⟨_, rfl⟩
            have h := mlt_n h x58 ex58
            refine lv_iinc (v := x58) (lv' := [(5, .int x58), (4, .int x56), (0, .ref (X.1 b)), (1, .int i1), (2, .int i2)]) hx hb dX2_nextNoted_58 hl (k := 4) rfl (by rw [ex58]; rfl) (by decide) rfl (fun ls hl => ?_)
            refine lv_goto (tgt := 6) hx hb dX2_nextNoted_61 (by decide) ?_
            exact ih b i1 i2 x56 x58 h_b h H locs ls hR hS (lv_sub hl [2, 3, 4, 1, 0] rfl)
set_option maxRecDepth 100000 in
set_option maxHeartbeats 4000000 in
theorem w_X2_nextNoted {l : Launch} {X : mX} {p : Program} {e : Env} {s : State} {m : MethodId} {args : Array Value} {below : List Frame} {meth : Method} {c : Code} {M : mM} {r : Int32} (hs : mS X RX2 cX2_nextNoted 6 (some .int) p s m meth c) : ∀ (b : Nat) (i1 : Int32) (i2 : Int32) (i3 : Int32) (h_b : isNotes b), f_X2_nextNoted b i1 i2 i3 M = some r → mG X p l e (rmF 0 0) s m args below meth c (MQ below (mQi X M r) args s 0 0 (mL X)) 6 0 [(0, .ref (X.1 b)), (1, .int i1), (2, .int i2), (3, .int i3)] [] M := by
  obtain ⟨hx, hb, hml, hown, hF, hlk, hr⟩ := id hs
  intro b i1 i2 i3 h_b h H locs ls hR hS hl
  refine lv_iload_n hx hb dX2_nextNoted_0 rfl (lv_at hl 3 rfl) ?_
  refine lv_istore (lv' := [(4, .int i3), (0, .ref (X.1 b)), (1, .int i1), (2, .int i2), (3, .int i3)]) hx hb dX2_nextNoted_1 hl (by decide) rfl (fun ls hl => ?_)
  refine lv_iconst (v := 0) hx hb dX2_nextNoted_3 (by decide) ?_
  refine lv_istore (lv' := [(5, .int 0), (4, .int i3), (0, .ref (X.1 b)), (1, .int i1), (2, .int i2), (3, .int i3)]) hx hb dX2_nextNoted_4 hl (by decide) rfl (fun ls hl => ?_)
  exact w_X2_nextNoted_b6 hs mN b i1 i2 i3 0 h_b h H locs ls hR hS (lv_sub hl [2, 3, 4, 1, 0] rfl)
theorem c_X2_nextNoted (l : Launch) (X : mX) (b : Nat) (i1 : Int32) (i2 : Int32) (i3 : Int32) (h_b : isNotes b) (M : mM) {r : Int32} (h : f_X2_nextNoted b i1 i2 i3 M = some r) : mMi l yX2_nextNoted cX2_nextNoted 6 (some .int) 0 0 X [.ref (X.1 b), .int i1, .int i2, .int i3] M (r, M) := m_ofi (by decide +kernel) (Nat.le_of_ble_eq_true rfl) rfl (fun p e s m args below meth c hs => w_X2_nextNoted hs b i1 i2 i3 h_b h)
set_option maxRecDepth 100000 in
set_option maxHeartbeats 4000000 in
theorem w_X8_wrongTicks_b8 {l : Launch} {X : mX} {p : Program} {e : Env} {s : State} {m : MethodId} {args : Array Value} {below : List Frame} {meth : Method} {c : Code} {M : mM} {r : Int32} (hs : mS X RX8 cX8_wrongTicks 7 (some .int) p s m meth c) : ∀ n : Nat, ∀ (b : Nat) (i1 : Int32) (i2 : Int32) (i3 : Int32) (i4 : Int32) (i5 : Int32) (h_b : isWorld b), f_X8_wrongTicks_b8 n b i1 i2 i3 i4 i5 M = some r → mG X p l e (rmF 1 26) s m args below meth c (MQ below (mQi X M r) args s 0 0 (mL X)) 7 8 [(0, .ref (X.1 b)), (1, .int i1), (2, .int i2), (3, .int i3), (4, .int i4), (5, .int i5)] [] M := by
  obtain ⟨hx, hb, hml, hown, hF, hlk, hr⟩ := id hs
  intro n
  induction n with
  | zero =>
    intro b i1 i2 i3 i4 i5 h_b h
    have h0 : (none : Option (Int32)) = some r := h
    cases h0
  | succ n ih =>
    intro b i1 i2 i3 i4 i5 h_b h H locs ls hR hS hl
    refine lv_iload hx hb dX8_wrongTicks_8 (lv_at hl 5 rfl) ?_
    refine lv_bipush (v := 80) hx hb dX8_wrongTicks_10 (by decide) ?_
    refine lv_icmp_gt (tgt := 99) hx hb dX8_wrongTicks_12 (by decide) (fun c12 => ?_) (fun c12 => ?_)
    · have h := mif_y h c12
      refine lv_iload_n hx hb dX8_wrongTicks_99 rfl (lv_at hl 3 rfl) ?_
      exact m_ir hx hb hlk hr hR hS (congrArg (fun z => (z, M)) (Option.some.inj h).symm) dX8_wrongTicks_100
    · have h := mif_n h c12
      refine lv_iload hx hb dX8_wrongTicks_15 (lv_at hl 4 rfl) ?_
      refine lv_aload_n hx hb dX8_wrongTicks_17 rfl (lv_at hl 0 rfl) ?_
      refine m_g7_1 hx hb hF hown hR (kWorld0 h_b) mw_1_120 dX8_wrongTicks_18 ?_
      refine lv_icmp_ge (tgt := 99) hx hb dX8_wrongTicks_21 (by decide) (fun c21 => ?_) (fun c21 => ?_)
      · have h := mif_y h c21
        refine lv_iload_n hx hb dX8_wrongTicks_99 rfl (lv_at hl 3 rfl) ?_
        exact m_ir hx hb hlk hr hR hS (congrArg (fun z => (z, M)) (Option.some.inj h).symm) dX8_wrongTicks_100
      · have h := mif_n h c21
        refine lv_aload_n hx hb dX8_wrongTicks_24 rfl (lv_at hl 0 rfl) ?_
        refine m_g7_11 hx hb hF hown hR (kWorld0 h_b) mw_1_143 dX8_wrongTicks_25 ?_
        refine lv_iload_n hx hb dX8_wrongTicks_28 rfl (lv_at hl 1 rfl) ?_
        refine lv_iload hx hb dX8_wrongTicks_29 (lv_at hl 4 rfl) ?_
        refine lv_aload_n hx hb dX8_wrongTicks_31 rfl (lv_at hl 0 rfl) ?_
        refine m_g7_12 hx hb hF hown hR (kWorld0 h_b) mw_1_145 dX8_wrongTicks_32 ?_
        refine lv_iload_n hx hb dX8_wrongTicks_35 rfl (lv_at hl 1 rfl) ?_
        refine lv_iload hx hb dX8_wrongTicks_36 (lv_at hl 4 rfl) ?_
        refine lv_aload_n hx hb dX8_wrongTicks_38 rfl (lv_at hl 0 rfl) ?_
        refine m_g7_1 hx hb hF hown hR (kWorld0 h_b) mw_1_120 dX8_wrongTicks_39 ?_
        obtain ⟨v42, q42, h⟩ := mbp_e h
        refine m_ci (m_rV hx hb hml hown hF hR hS (ent2 (kWorld28 h_b)) (kWorld28 h_b) rfl (c_X2_nextNoted l X (b + 28) i1 i4 (M.1 b 1) (kWorldR h_b) M q42) q_X8_136_V hdV_X2_nextNoted ⟨Nat.le_of_ble_eq_true rfl, Nat.le_of_ble_eq_true rfl⟩ rfl hl.1 rfl (Nat.le_of_ble_eq_true rfl) dX8_wrongTicks_42) hS (fun H locs hR hS => ?_)
        obtain ⟨v45, q45, h⟩ := mbp_e h
        refine m_ci (m_rV hx hb hml hown hF hR hS (ent2 (kWorld24 h_b)) (kWorld24 h_b) rfl (c_X2_nextNoted l X (b + 24) i1 i4 v42 (kWorldL h_b) M q45) q_X8_136_V hdV_X2_nextNoted ⟨Nat.le_of_ble_eq_true rfl, Nat.le_of_ble_eq_true rfl⟩ rfl hl.1 rfl (Nat.le_of_ble_eq_true rfl) dX8_wrongTicks_45) hS (fun H locs hR hS => ?_)
        refine lv_istore (lv' := [(6, .int v45), (0, .ref (X.1 b)), (1, .int i1), (2, .int i2), (3, .int i3), (4, .int i4), (5, .int i5)]) hx hb dX8_wrongTicks_48 hl (by decide) rfl (fun ls hl => ?_)
        refine lv_aload_n hx hb dX8_wrongTicks_50 rfl (lv_at hl 1 rfl) ?_
        refine m_g7_12 hx hb hF hown hR (kWorld0 h_b) mw_1_145 dX8_wrongTicks_51 ?_
        refine lv_iload_n hx hb dX8_wrongTicks_54 rfl (lv_at hl 2 rfl) ?_
        refine lv_iload hx hb dX8_wrongTicks_55 (lv_at hl 5 rfl) ?_
        refine lv_iload_n hx hb dX8_wrongTicks_57 rfl (lv_at hl 3 rfl) ?_
        obtain ⟨v58, q58, h⟩ := mbp_e h
        refine m_ci (m_rV hx hb hml hown hF hR hS (ent2 (kWorld28 h_b)) (kWorld28 h_b) rfl (c_X2_tellDead l X (b + 28) i1 i4 i2 (kWorldR h_b) M q58) q_X8_140_V hdV_X2_tellDead ⟨Nat.le_of_ble_eq_true rfl, Nat.le_of_ble_eq_true rfl⟩ rfl hl.1 rfl (Nat.le_of_ble_eq_true rfl) dX8_wrongTicks_58) hS (fun H locs hR hS => ?_)
        refine lv_aload_n hx hb dX8_wrongTicks_61 rfl (lv_at hl 1 rfl) ?_
        refine m_g7_11 hx hb hF hown hR (kWorld0 h_b) mw_1_143 dX8_wrongTicks_62 ?_
        refine lv_iload_n hx hb dX8_wrongTicks_65 rfl (lv_at hl 2 rfl) ?_
        refine lv_iload hx hb dX8_wrongTicks_66 (lv_at hl 5 rfl) ?_
        refine lv_aload_n hx hb dX8_wrongTicks_68 rfl (lv_at hl 1 rfl) ?_
        refine m_g7_11 hx hb hF hown hR (kWorld0 h_b) mw_1_143 dX8_wrongTicks_69 ?_
        refine m_g2_0 hx hb hF hown hR (kWorld24 h_b) mw_1_102 dX8_wrongTicks_72 ?_
        obtain ⟨v75, q75, h⟩ := mbp_e h
        refine m_ci (m_rV hx hb hml hown hF hR hS (ent2 (kWorld24 h_b)) (kWorld24 h_b) rfl (c_X2_tellDead l X (b + 24) i1 i4 (M.1 (b + 24) 0) (kWorldL h_b) M q75) q_X8_140_V hdV_X2_tellDead ⟨Nat.le_of_ble_eq_true rfl, Nat.le_of_ble_eq_true rfl⟩ rfl hl.1 rfl (Nat.le_of_ble_eq_true rfl) dX8_wrongTicks_75) hS (fun H locs hR hS => ?_)
        refine lv_icmp_eq (tgt := 89) hx hb dX8_wrongTicks_78 (by decide) (fun c78 => ?_) (fun c78 => ?_)
        · have h := mif_y h c78
          refine lv_iload hx hb dX8_wrongTicks_89 (lv_at hl 0 rfl) ?_
          refine lv_istore (lv' := [(4, .int v45), (6, .int v45), (0, .ref (X.1 b)), (1, .int i1), (2, .int i2), (3, .int i3), (5, .int i5)]) hx hb dX8_wrongTicks_91 hl (by decide) rfl (fun ls hl => ?_)
          obtain ⟨x93, ex93⟩ : ∃ y : Int32, y = (i5 + 1) := ⟨_, rfl⟩
          have h := mlt_n h x93 ex93
          refine lv_iinc (v := x93) (lv' := [(5, .int x93), (4, .int v45), (6, .int v45), (0, .ref (X.1 b)), (1, .int i1), (2, .int i2), (3, .int i3)]) hx hb dX8_wrongTicks_93 hl (k := 6) rfl (by rw [ex93]; rfl) (by decide) rfl (fun ls hl => ?_)
          refine lv_goto (tgt := 8) hx hb dX8_wrongTicks_96 (by decide) ?_
          exact ih b i1 i2 i3 v45 x93 h_b h H locs ls hR hS (lv_sub hl [3, 4, 5, 6, 1, 0] rfl)
        · have h := mif_n h c78
          refine lv_iload_n hx hb dX8_wrongTicks_81 rfl (lv_at hl 4 rfl) ?_
          refine lv_iload hx hb dX8_wrongTicks_82 (lv_at hl 0 rfl) ?_
          refine lv_iload hx hb dX8_wrongTicks_84 (lv_at hl 5 rfl) ?_
          refine lv_isub hx hb dX8_wrongTicks_86 ?_
          refine lv_iadd hx hb dX8_wrongTicks_87 ?_
          refine lv_topi (fun x88 ex88 => ?_)
          have h := mlt_n h x88 ex88
          refine lv_istore_n (lv' := [(3, .int x88), (6, .int v45), (0, .ref (X.1 b)), (1, .int i1), (2, .int i2), (4, .int i4), (5, .int i5)]) hx hb dX8_wrongTicks_88 rfl hl (by decide) rfl (fun ls hl => ?_)
          refine lv_iload hx hb dX8_wrongTicks_89 (lv_at hl 1 rfl) ?_
          refine lv_istore (lv' := [(4, .int v45), (3, .int x88), (6, .int v45), (0, .ref (X.1 b)), (1, .int i1), (2, .int i2), (5, .int i5)]) hx hb dX8_wrongTicks_91 hl (by decide) rfl (fun ls hl => ?_)
          obtain ⟨x93, ex93⟩ : ∃ y : Int32, y = (i5 + 1) := ⟨_, rfl⟩
          have h := mlt_n h x93 ex93
          refine lv_iinc (v := x93) (lv' := [(5, .int x93), (4, .int v45), (3, .int x88), (6, .int v45), (0, .ref (X.1 b)), (1, .int i1), (2, .int i2)]) hx hb dX8_wrongTicks_93 hl (k := 6) rfl (by rw [ex93]; rfl) (by decide) rfl (fun ls hl => ?_)
          refine lv_goto (tgt := 8) hx hb dX8_wrongTicks_96 (by decide) ?_
          exact ih b i1 i2 x88 v45 x93 h_b h H locs ls hR hS (lv_sub hl [4, 5, 6, 2, 1, 0] rfl)
set_option maxRecDepth 100000 in
set_option maxHeartbeats 4000000 in
theorem w_X8_wrongTicks {l : Launch} {X : mX} {p : Program} {e : Env} {s : State} {m : MethodId} {args : Array Value} {below : List Frame} {meth : Method} {c : Code} {M : mM} {r : Int32} (hs : mS X RX8 cX8_wrongTicks 7 (some .int) p s m meth c) : ∀ (b : Nat) (i1 : Int32) (i2 : Int32) (h_b : isWorld b), f_X8_wrongTicks b i1 i2 M = some r → mG X p l e (rmF 1 26) s m args below meth c (MQ below (mQi X M r) args s 0 0 (mL X)) 7 0 [(0, .ref (X.1 b)), (1, .int i1), (2, .int i2)] [] M := by
  obtain ⟨hx, hb, hml, hown, hF, hlk, hr⟩ := id hs
  intro b i1 i2 h_b h H locs ls hR hS hl
  refine lv_iconst (v := 0) hx hb dX8_wrongTicks_0 (by decide) ?_
  refine lv_istore_n (lv' := [(3, .int 0), (0, .ref (X.1 b)), (1, .int i1), (2, .int i2)]) hx hb dX8_wrongTicks_1 rfl hl (by decide) rfl (fun ls hl => ?_)
  refine lv_iconst (v := 0) hx hb dX8_wrongTicks_2 (by decide) ?_
  refine lv_istore (lv' := [(4, .int 0), (3, .int 0), (0, .ref (X.1 b)), (1, .int i1), (2, .int i2)]) hx hb dX8_wrongTicks_3 hl (by decide) rfl (fun ls hl => ?_)
  refine lv_iconst (v := 0) hx hb dX8_wrongTicks_5 (by decide) ?_
  refine lv_istore (lv' := [(5, .int 0), (4, .int 0), (3, .int 0), (0, .ref (X.1 b)), (1, .int i1), (2, .int i2)]) hx hb dX8_wrongTicks_6 hl (by decide) rfl (fun ls hl => ?_)
  exact w_X8_wrongTicks_b8 hs mN b i1 i2 0 0 0 h_b h H locs ls hR hS (lv_sub hl [3, 4, 5, 2, 1, 0] rfl)
theorem c_X8_wrongTicks (l : Launch) (X : mX) (b : Nat) (i1 : Int32) (i2 : Int32) (h_b : isWorld b) (M : mM) {r : Int32} (h : f_X8_wrongTicks b i1 i2 M = some r) : mMi l yX8_wrongTicks cX8_wrongTicks 7 (some .int) 1 26 X [.ref (X.1 b), .int i1, .int i2] M (r, M) := m_ofi (by decide +kernel) (Nat.le_of_ble_eq_true rfl) rfl (fun p e s m args below meth c hs => w_X8_wrongTicks hs b i1 i2 h_b h)
set_option maxRecDepth 100000 in
set_option maxHeartbeats 4000000 in
theorem w_X9_wrong {l : Launch} {X : mX} {p : Program} {e : Env} {s : State} {m : MethodId} {args : Array Value} {below : List Frame} {meth : Method} {c : Code} {M : mM} {r : Int32} (hs : mS X RX9 cX9_wrong 3 (some .int) p s m meth c) : ∀ (i1 : Int32) (i2 : Int32), f_X9_wrong i1 i2 M = some r → mG X p l e (rmF 2 52) s m args below meth c (MQ below (mQi X M r) args s 0 0 (mL X)) 3 0 [(0, .ref (X.1 0)), (1, .int i1), (2, .int i2)] [] M := by
  obtain ⟨hx, hb, hml, hown, hF, hlk, hr⟩ := id hs
  intro i1 i2 h H locs ls hR hS hl
  refine lv_aload_n hx hb dX9_wrong_0 rfl (lv_at hl 0 rfl) ?_
  refine m_g8_0 hx hb hF hown hR kd_0 mw_2_42 dX9_wrong_1 ?_
  refine m_g7_0 hx hb hF hown hR kd_1 mw_1_118 dX9_wrong_4 ?_
  refine lv_iload_n hx hb dX9_wrong_7 rfl (lv_at hl 1 rfl) ?_
  refine m_ci (m_rV hx hb hml hown hF hR hS (ent0 kd_2) kd_2 rfl (c_X0_has l X 2 i1 isBody_2 M) q_X9_91_V hdV_X0_has ⟨Nat.le_of_ble_eq_true rfl, Nat.le_of_ble_eq_true rfl⟩ rfl hl.1 rfl (Nat.le_of_ble_eq_true rfl) dX9_wrong_8) hS (fun H locs hR hS => ?_)
  refine lv_if_eq (tgt := 25) hx hb dX9_wrong_11 (by decide) (fun c11 => ?_) (fun c11 => ?_)
  · have h := mif_y h c11
    refine lv_iconst (v := (-1)) hx hb dX9_wrong_25 (by decide) ?_
    exact m_ir hx hb hlk hr hR hS (congrArg (fun z => (z, M)) (Option.some.inj h).symm) dX9_wrong_26
  · have h := mif_n h c11
    refine lv_aload_n hx hb dX9_wrong_14 rfl (lv_at hl 0 rfl) ?_
    refine m_g8_0 hx hb hF hown hR kd_0 mw_2_42 dX9_wrong_15 ?_
    refine lv_iload_n hx hb dX9_wrong_18 rfl (lv_at hl 2 rfl) ?_
    refine m_ci (m_rV hx hb hml hown hF hR hS (ent7 kd_1) kd_1 rfl (c_X8_mayBelieve l X 1 i2 isWorld_1 M) q_X9_256_V hdV_X8_mayBelieve ⟨Nat.le_of_ble_eq_true rfl, Nat.le_of_ble_eq_true rfl⟩ rfl hl.1 rfl (Nat.le_of_ble_eq_true rfl) dX9_wrong_19) hS (fun H locs hR hS => ?_)
    refine lv_if_ne (tgt := 27) hx hb dX9_wrong_22 (by decide) (fun c22 => ?_) (fun c22 => ?_)
    · have h := mif_n h c22
      refine lv_aload_n hx hb dX9_wrong_27 rfl (lv_at hl 0 rfl) ?_
      refine m_g8_0 hx hb hF hown hR kd_0 mw_2_42 dX9_wrong_28 ?_
      refine lv_iload_n hx hb dX9_wrong_31 rfl (lv_at hl 1 rfl) ?_
      refine lv_aload_n hx hb dX9_wrong_32 rfl (lv_at hl 0 rfl) ?_
      refine m_g8_0 hx hb hF hown hR kd_0 mw_2_42 dX9_wrong_33 ?_
      refine m_g7_12 hx hb hF hown hR kd_1 mw_1_146 dX9_wrong_36 ?_
      refine lv_iload_n hx hb dX9_wrong_39 rfl (lv_at hl 2 rfl) ?_
      refine m_ci (m_rV hx hb hml hown hF hR hS (ent2 kd_29) kd_29 rfl (c_X2_firstOf l X 29 i2 isNotes_29 M) q_X9_259_V hdV_X2_firstOf ⟨Nat.le_of_ble_eq_true rfl, Nat.le_of_ble_eq_true rfl⟩ rfl hl.1 rfl (Nat.le_of_ble_eq_true rfl) dX9_wrong_40) hS (fun H locs hR hS => ?_)
      obtain ⟨v43, q43, h⟩ := mbp_e h
      refine m_ci (m_rV hx hb hml hown hF hR hS (ent7 kd_1) kd_1 rfl (c_X8_wrongTicks l X 1 i1 (f_X2_firstOf 29 i2 M) isWorld_1 M q43) q_X9_265_V hdV_X8_wrongTicks ⟨Nat.le_of_ble_eq_true rfl, Nat.le_of_ble_eq_true rfl⟩ rfl hl.1 rfl (Nat.le_of_ble_eq_true rfl) dX9_wrong_43) hS (fun H locs hR hS => ?_)
      exact m_ir hx hb hlk hr hR hS (congrArg (fun z => (z, M)) (Option.some.inj h).symm) dX9_wrong_46
    · have h := mif_y h c22
      refine lv_iconst (v := (-1)) hx hb dX9_wrong_25 (by decide) ?_
      exact m_ir hx hb hlk hr hR hS (congrArg (fun z => (z, M)) (Option.some.inj h).symm) dX9_wrong_26
theorem c_X9_wrong (l : Launch) (X : mX) (i1 : Int32) (i2 : Int32) (M : mM) {r : Int32} (h : f_X9_wrong i1 i2 M = some r) : mMi l yX9_wrong cX9_wrong 3 (some .int) 2 52 X [.ref (X.1 0), .int i1, .int i2] M (r, M) := m_ofi (by decide +kernel) (Nat.le_of_ble_eq_true rfl) rfl (fun p e s m args below meth c hs => w_X9_wrong hs i1 i2 h)
set_option maxRecDepth 100000 in
set_option maxHeartbeats 4000000 in
theorem w_X2_copyFrom {l : Launch} {X : mX} {p : Program} {e : Env} {s : State} {m : MethodId} {args : Array Value} {below : List Frame} {meth : Method} {c : Code} {r : mM} (hs : mS X RX2 cX2_copyFrom 2 none p s m meth c) : ∀ (b : Nat) (q1 : Nat) (h_b : isNotes b) (h_q1 : isNotes q1) (M : mM), f_X2_copyFrom b q1 M = some r → mG X p l e (rmF 1 300) s m args below meth c (MQ below (mQv X r) args s 0 0 (mL X)) 2 0 [(0, .ref (X.1 b)), (1, .ref (X.1 q1))] [] M := by
  obtain ⟨hx, hb, hml, hown, hF, hlk, hr⟩ := id hs
  intro b q1 h_b h_q1 M h H locs ls hR hS hl
  refine lv_aload_n hx hb dX2_copyFrom_0 rfl (lv_at hl 0 rfl) ?_
  refine lv_aload_n hx hb dX2_copyFrom_1 rfl (lv_at hl 1 rfl) ?_
  refine m_g2_0 hx hb hF hown hR (kNotes0 h_q1) mw_1_100 dX2_copyFrom_2 ?_
  obtain ⟨M5, eM5⟩ : ∃ y : mM, y = mI M b 0 (M.1 q1 0) := ⟨_, rfl⟩
  have h := mlt_n h M5 eM5
  refine m_p2_0 hx hb hF hown hR hS (kNotes0 h_b) mw_1_100 dX2_copyFrom_5 eM5 (fun H locs hR hS => ?_)
  refine lv_aload_n hx hb dX2_copyFrom_8 rfl (lv_at hl 1 rfl) ?_
  refine m_g2_1 hx hb hF hown hR (kNotes0 h_q1) mw_1_103 dX2_copyFrom_9 ?_
  refine lv_iconst (v := 0) hx hb dX2_copyFrom_12 (by decide) ?_
  refine lv_aload_n hx hb dX2_copyFrom_13 rfl (lv_at hl 0 rfl) ?_
  refine m_g2_1 hx hb hF hown hR (kNotes0 h_b) mw_1_103 dX2_copyFrom_14 ?_
  refine lv_iconst (v := 0) hx hb dX2_copyFrom_17 (by decide) ?_
  refine lv_bipush (v := 40) hx hb dX2_copyFrom_18 (by decide) ?_
  obtain ⟨M20, eM20⟩ : ∃ y : mM, y = mC M5 (q1 + 1) (b + 1) 0 0 40 := ⟨_, rfl⟩
  have h := mlt_n h M20 eM20
  refine m_cpiL hx hb (hml.trans hl.1.symm) hown hF mw_4_176 mw_3_226 mw_3_225 mw_1_13 hR hS (kNotes1 h_q1) (kNotes1 h_b) (by decide) (by decide) (by decide) (by decide) (by decide) (by decide) (by decide) (by decide) (Nat.le_of_ble_eq_true rfl) (by decide +kernel) dX2_copyFrom_20 eM20 (fun H locs hR hS => ?_)
  refine lv_aload_n hx hb dX2_copyFrom_23 rfl (lv_at hl 1 rfl) ?_
  refine m_g2_2 hx hb hF hown hR (kNotes0 h_q1) mw_1_104 dX2_copyFrom_24 ?_
  refine lv_iconst (v := 0) hx hb dX2_copyFrom_27 (by decide) ?_
  refine lv_aload_n hx hb dX2_copyFrom_28 rfl (lv_at hl 0 rfl) ?_
  refine m_g2_2 hx hb hF hown hR (kNotes0 h_b) mw_1_104 dX2_copyFrom_29 ?_
  refine lv_iconst (v := 0) hx hb dX2_copyFrom_32 (by decide) ?_
  refine lv_bipush (v := 40) hx hb dX2_copyFrom_33 (by decide) ?_
  obtain ⟨M35, eM35⟩ : ∃ y : mM, y = mC M20 (q1 + 2) (b + 2) 0 0 40 := ⟨_, rfl⟩
  have h := mlt_n h M35 eM35
  refine m_cpiL hx hb (hml.trans hl.1.symm) hown hF mw_4_176 mw_3_226 mw_3_225 mw_1_13 hR hS (kNotes2 h_q1) (kNotes2 h_b) (by decide) (by decide) (by decide) (by decide) (by decide) (by decide) (by decide) (by decide) (Nat.le_of_ble_eq_true rfl) (by decide +kernel) dX2_copyFrom_35 eM35 (fun H locs hR hS => ?_)
  refine lv_aload_n hx hb dX2_copyFrom_38 rfl (lv_at hl 1 rfl) ?_
  refine m_g2_3 hx hb hF hown hR (kNotes0 h_q1) mw_1_105 dX2_copyFrom_39 ?_
  refine lv_iconst (v := 0) hx hb dX2_copyFrom_42 (by decide) ?_
  refine lv_aload_n hx hb dX2_copyFrom_43 rfl (lv_at hl 0 rfl) ?_
  refine m_g2_3 hx hb hF hown hR (kNotes0 h_b) mw_1_105 dX2_copyFrom_44 ?_
  refine lv_iconst (v := 0) hx hb dX2_copyFrom_47 (by decide) ?_
  refine lv_bipush (v := 40) hx hb dX2_copyFrom_48 (by decide) ?_
  obtain ⟨z50, h⟩ := mgd_e h
  obtain ⟨M50, eM50⟩ : ∃ y : mM, y = mC M35 (q1 + 3) (b + 3) 0 0 40 := ⟨_, rfl⟩
  have h := mlt_n h M50 eM50
  refine m_cpzL hx hb (hml.trans hl.1.symm) hown hF mw_4_176 mw_3_226 mw_3_225 mw_1_13 hR hS (kNotes3 h_q1) (kNotes3 h_b) (by decide) (by decide) (by decide) (by decide) (by decide) (by decide) (by decide) (by decide) z50 (Nat.le_of_ble_eq_true rfl) (by decide +kernel) dX2_copyFrom_50 eM50 (fun H locs hR hS => ?_)
  exact m_vr hx hb hlk hr hR hS (Option.some.inj h).symm dX2_copyFrom_53
theorem c_X2_copyFrom (l : Launch) (X : mX) (b : Nat) (q1 : Nat) (h_b : isNotes b) (h_q1 : isNotes q1) (M : mM) {r : mM} (h : f_X2_copyFrom b q1 M = some r) : mMv l yX2_copyFrom cX2_copyFrom 2 1 300 X [.ref (X.1 b), .ref (X.1 q1)] M r := m_ofv (by decide +kernel) (Nat.le_of_ble_eq_true rfl) rfl (fun p e s m args below meth c hs => w_X2_copyFrom hs b q1 h_b h_q1 M h)
set_option maxRecDepth 100000 in
set_option maxHeartbeats 4000000 in
theorem w_X8_copyFrom_b112 {l : Launch} {X : mX} {p : Program} {e : Env} {s : State} {m : MethodId} {args : Array Value} {below : List Frame} {meth : Method} {c : Code} {r : mM} (hs : mS X RX8 cX8_copyFrom 3 none p s m meth c) : ∀ n : Nat, ∀ (b : Nat) (q1 : Nat) (i2 : Int32) (h_b : isWorld b) (h_q1 : isWorld q1) (M : mM), f_X8_copyFrom_b112 n b q1 i2 M = some r → mG X p l e (rmF 2 321) s m args below meth c (MQ below (mQv X r) args s 0 0 (mL X)) 3 112 [(0, .ref (X.1 b)), (1, .ref (X.1 q1)), (2, .int i2)] [] M := by
  obtain ⟨hx, hb, hml, hown, hF, hlk, hr⟩ := id hs
  intro n
  induction n with
  | zero =>
    intro b q1 i2 h_b h_q1 M h
    have h0 : (none : Option (mM)) = some r := h
    cases h0
  | succ n ih =>
    intro b q1 i2 h_b h_q1 M h H locs ls hR hS hl
    refine lv_iload_n hx hb dX8_copyFrom_112 rfl (lv_at hl 2 rfl) ?_
    refine lv_bipush (v := 8) hx hb dX8_copyFrom_113 (by decide) ?_
    refine lv_icmp_ge (tgt := 143) hx hb dX8_copyFrom_115 (by decide) (fun c115 => ?_) (fun c115 => ?_)
    · have h := mif_y h c115
      refine lv_aload_n hx hb dX8_copyFrom_143 rfl (lv_at hl 1 rfl) ?_
      refine m_g7_10 hx hb hF hown hR (kWorld0 h_q1) mw_1_141 dX8_copyFrom_144 ?_
      refine lv_iconst (v := 0) hx hb dX8_copyFrom_147 (by decide) ?_
      refine lv_aload_n hx hb dX8_copyFrom_148 rfl (lv_at hl 0 rfl) ?_
      refine m_g7_10 hx hb hF hown hR (kWorld0 h_b) mw_1_141 dX8_copyFrom_149 ?_
      refine lv_iconst (v := 0) hx hb dX8_copyFrom_152 (by decide) ?_
      refine lv_bipush (v := 8) hx hb dX8_copyFrom_153 (by decide) ?_
      obtain ⟨M155, eM155⟩ : ∃ y : mM, y = mC M (q1 + 23) (b + 23) 0 0 8 := ⟨_, rfl⟩
      have h := mlt_n h M155 eM155
      refine m_cpiL hx hb (hml.trans hl.1.symm) hown hF mw_4_30 mw_3_226 mw_3_225 mw_1_13 hR hS (kWorld23 h_q1) (kWorld23 h_b) (by decide) (by decide) (by decide) (by decide) (by decide) (by decide) (by decide) (by decide) (Nat.le_of_ble_eq_true rfl) (by decide +kernel) dX8_copyFrom_155 eM155 (fun H locs hR hS => ?_)
      refine lv_aload_n hx hb dX8_copyFrom_158 rfl (lv_at hl 0 rfl) ?_
      refine m_g7_11 hx hb hF hown hR (kWorld0 h_b) mw_1_143 dX8_copyFrom_159 ?_
      refine lv_aload_n hx hb dX8_copyFrom_162 rfl (lv_at hl 1 rfl) ?_
      refine m_g7_11 hx hb hF hown hR (kWorld0 h_q1) mw_1_143 dX8_copyFrom_163 ?_
      obtain ⟨M166, q166, h⟩ := mbp_e h
      refine m_cv (m_rV hx hb hml hown hF hR hS (ent2 (kWorld24 h_b)) (kWorld24 h_b) rfl (c_X2_copyFrom l X (b + 24) (q1 + 24) (kWorldL h_b) (kWorldL h_q1) M155 q166) q_X8_73_V hdV_X2_copyFrom ⟨Nat.le_of_ble_eq_true rfl, Nat.le_of_ble_eq_true rfl⟩ rfl hl.1 rfl (Nat.le_of_ble_eq_true rfl) dX8_copyFrom_166) hS (fun H locs hR hS => ?_)
      refine lv_aload_n hx hb dX8_copyFrom_169 rfl (lv_at hl 0 rfl) ?_
      refine m_g7_12 hx hb hF hown hR (kWorld0 h_b) mw_1_145 dX8_copyFrom_170 ?_
      refine lv_aload_n hx hb dX8_copyFrom_173 rfl (lv_at hl 1 rfl) ?_
      refine m_g7_12 hx hb hF hown hR (kWorld0 h_q1) mw_1_145 dX8_copyFrom_174 ?_
      obtain ⟨M177, q177, h⟩ := mbp_e h
      refine m_cv (m_rV hx hb hml hown hF hR hS (ent2 (kWorld28 h_b)) (kWorld28 h_b) rfl (c_X2_copyFrom l X (b + 28) (q1 + 28) (kWorldR h_b) (kWorldR h_q1) M166 q177) q_X8_73_V hdV_X2_copyFrom ⟨Nat.le_of_ble_eq_true rfl, Nat.le_of_ble_eq_true rfl⟩ rfl hl.1 rfl (Nat.le_of_ble_eq_true rfl) dX8_copyFrom_177) hS (fun H locs hR hS => ?_)
      exact m_vr hx hb hlk hr hR hS (Option.some.inj h).symm dX8_copyFrom_180
    · have h := mif_n h c115
      refine lv_aload_n hx hb dX8_copyFrom_118 rfl (lv_at hl 1 rfl) ?_
      refine m_g7_9 hx hb hF hown hR (kWorld0 h_q1) mw_1_139 dX8_copyFrom_119 ?_
      refine lv_iload_n hx hb dX8_copyFrom_122 rfl (lv_at hl 2 rfl) ?_
      obtain ⟨g123, h⟩ := mgd_e h
      refine m_pald hx hb hR (kWorld14 h_q1) g123 dX8_copyFrom_123 ?_
      refine lv_topc (fun t123 et123 => ?_)
      have h := mlt_n h t123 et123
      have h_t123 : isRow t123 := by rw [et123]; exact kWorldP h_q1 (vp_lt g123)
      refine lv_iconst (v := 0) hx hb dX8_copyFrom_124 (by decide) ?_
      refine lv_aload_n hx hb dX8_copyFrom_125 rfl (lv_at hl 0 rfl) ?_
      refine m_g7_9 hx hb hF hown hR (kWorld0 h_b) mw_1_139 dX8_copyFrom_126 ?_
      refine lv_iload_n hx hb dX8_copyFrom_129 rfl (lv_at hl 2 rfl) ?_
      obtain ⟨g130, h⟩ := mgd_e h
      refine m_pald hx hb hR (kWorld14 h_b) g130 dX8_copyFrom_130 ?_
      refine lv_topc (fun t130 et130 => ?_)
      have h := mlt_n h t130 et130
      have h_t130 : isRow t130 := by rw [et130]; exact kWorldP h_b (vp_lt g130)
      refine lv_iconst (v := 0) hx hb dX8_copyFrom_131 (by decide) ?_
      refine lv_bipush (v := 90) hx hb dX8_copyFrom_132 (by decide) ?_
      obtain ⟨M134, eM134⟩ : ∃ y : mM, y = mC M t123 t130 0 0 90 := ⟨_, rfl⟩
      have h := mlt_n h M134 eM134
      refine m_cpiL hx hb (hml.trans hl.1.symm) hown hF mw_4_30 mw_3_226 mw_3_225 mw_1_13 hR hS h_t123 h_t130 (by decide) (by decide) (by decide) (by decide) (by decide) (by decide) (by decide) (by decide) (Nat.le_of_ble_eq_true rfl) (by decide +kernel) dX8_copyFrom_134 eM134 (fun H locs hR hS => ?_)
      obtain ⟨x137, ex137⟩ : ∃ y : Int32, y = (i2 + 1) := ⟨_, rfl⟩
      have h := mlt_n h x137 ex137
      refine lv_iinc (v := x137) (lv' := [(2, .int x137), (0, .ref (X.1 b)), (1, .ref (X.1 q1))]) hx hb dX8_copyFrom_137 hl (k := 2) rfl (by rw [ex137]; rfl) (by decide) rfl (fun ls hl => ?_)
      refine lv_goto (tgt := 112) hx hb dX8_copyFrom_140 (by decide) ?_
      exact ih b q1 x137 h_b h_q1 M134 h H locs ls hR hS (lv_sub hl [1, 2, 0] rfl)
set_option maxRecDepth 100000 in
set_option maxHeartbeats 4000000 in
theorem w_X8_copyFrom {l : Launch} {X : mX} {p : Program} {e : Env} {s : State} {m : MethodId} {args : Array Value} {below : List Frame} {meth : Method} {c : Code} {r : mM} (hs : mS X RX8 cX8_copyFrom 3 none p s m meth c) : ∀ (b : Nat) (q1 : Nat) (h_b : isWorld b) (h_q1 : isWorld q1) (M : mM), f_X8_copyFrom b q1 M = some r → mG X p l e (rmF 2 321) s m args below meth c (MQ below (mQv X r) args s 0 0 (mL X)) 3 0 [(0, .ref (X.1 b)), (1, .ref (X.1 q1))] [] M := by
  obtain ⟨hx, hb, hml, hown, hF, hlk, hr⟩ := id hs
  intro b q1 h_b h_q1 M h H locs ls hR hS hl
  refine lv_aload_n hx hb dX8_copyFrom_0 rfl (lv_at hl 0 rfl) ?_
  refine m_g7_0 hx hb hF hown hR (kWorld0 h_b) mw_1_116 dX8_copyFrom_1 ?_
  refine lv_aload_n hx hb dX8_copyFrom_4 rfl (lv_at hl 1 rfl) ?_
  refine m_g7_0 hx hb hF hown hR (kWorld0 h_q1) mw_1_116 dX8_copyFrom_5 ?_
  obtain ⟨M8, q8, h⟩ := mbp_e h
  refine m_cv (m_rV hx hb hml hown hF hR hS (ent0 (kWorld1 h_b)) (kWorld1 h_b) rfl (c_X0_copyFrom l X (b + 1) (q1 + 1) (kWorldB h_b) (kWorldB h_q1) M q8) q_X8_53_V hdV_X0_copyFrom ⟨Nat.le_of_ble_eq_true rfl, Nat.le_of_ble_eq_true rfl⟩ rfl hl.1 rfl (Nat.le_of_ble_eq_true rfl) dX8_copyFrom_8) hS (fun H locs hR hS => ?_)
  refine lv_aload_n hx hb dX8_copyFrom_11 rfl (lv_at hl 0 rfl) ?_
  refine lv_aload_n hx hb dX8_copyFrom_12 rfl (lv_at hl 1 rfl) ?_
  refine m_g7_1 hx hb hF hown hR (kWorld0 h_q1) mw_1_120 dX8_copyFrom_13 ?_
  obtain ⟨M16, eM16⟩ : ∃ y : mM, y = mI M8 b 1 (M8.1 q1 1) := ⟨_, rfl⟩
  have h := mlt_n h M16 eM16
  refine m_p7_1 hx hb hF hown hR hS (kWorld0 h_b) mw_1_120 dX8_copyFrom_16 eM16 (fun H locs hR hS => ?_)
  refine lv_aload_n hx hb dX8_copyFrom_19 rfl (lv_at hl 1 rfl) ?_
  refine m_g7_2 hx hb hF hown hR (kWorld0 h_q1) mw_1_123 dX8_copyFrom_20 ?_
  refine lv_iconst (v := 0) hx hb dX8_copyFrom_23 (by decide) ?_
  refine lv_aload_n hx hb dX8_copyFrom_24 rfl (lv_at hl 0 rfl) ?_
  refine m_g7_2 hx hb hF hown hR (kWorld0 h_b) mw_1_123 dX8_copyFrom_25 ?_
  refine lv_iconst (v := 0) hx hb dX8_copyFrom_28 (by decide) ?_
  refine lv_bipush (v := 16) hx hb dX8_copyFrom_29 (by decide) ?_
  obtain ⟨M31, eM31⟩ : ∃ y : mM, y = mC M16 (q1 + 9) (b + 9) 0 0 16 := ⟨_, rfl⟩
  have h := mlt_n h M31 eM31
  refine m_cpiL hx hb (hml.trans hl.1.symm) hown hF mw_4_30 mw_3_226 mw_3_225 mw_1_13 hR hS (kWorld9 h_q1) (kWorld9 h_b) (by decide) (by decide) (by decide) (by decide) (by decide) (by decide) (by decide) (by decide) (Nat.le_of_ble_eq_true rfl) (by decide +kernel) dX8_copyFrom_31 eM31 (fun H locs hR hS => ?_)
  refine lv_aload_n hx hb dX8_copyFrom_34 rfl (lv_at hl 1 rfl) ?_
  refine m_g7_3 hx hb hF hown hR (kWorld0 h_q1) mw_1_126 dX8_copyFrom_35 ?_
  refine lv_iconst (v := 0) hx hb dX8_copyFrom_38 (by decide) ?_
  refine lv_aload_n hx hb dX8_copyFrom_39 rfl (lv_at hl 0 rfl) ?_
  refine m_g7_3 hx hb hF hown hR (kWorld0 h_b) mw_1_126 dX8_copyFrom_40 ?_
  refine lv_iconst (v := 0) hx hb dX8_copyFrom_43 (by decide) ?_
  refine lv_bipush (v := 16) hx hb dX8_copyFrom_44 (by decide) ?_
  obtain ⟨M46, eM46⟩ : ∃ y : mM, y = mC M31 (q1 + 10) (b + 10) 0 0 16 := ⟨_, rfl⟩
  have h := mlt_n h M46 eM46
  refine m_cpiL hx hb (hml.trans hl.1.symm) hown hF mw_4_30 mw_3_226 mw_3_225 mw_1_13 hR hS (kWorld10 h_q1) (kWorld10 h_b) (by decide) (by decide) (by decide) (by decide) (by decide) (by decide) (by decide) (by decide) (Nat.le_of_ble_eq_true rfl) (by decide +kernel) dX8_copyFrom_46 eM46 (fun H locs hR hS => ?_)
  refine lv_aload_n hx hb dX8_copyFrom_49 rfl (lv_at hl 1 rfl) ?_
  refine m_g7_4 hx hb hF hown hR (kWorld0 h_q1) mw_1_128 dX8_copyFrom_50 ?_
  refine lv_iconst (v := 0) hx hb dX8_copyFrom_53 (by decide) ?_
  refine lv_aload_n hx hb dX8_copyFrom_54 rfl (lv_at hl 0 rfl) ?_
  refine m_g7_4 hx hb hF hown hR (kWorld0 h_b) mw_1_128 dX8_copyFrom_55 ?_
  refine lv_iconst (v := 0) hx hb dX8_copyFrom_58 (by decide) ?_
  refine lv_bipush (v := 16) hx hb dX8_copyFrom_59 (by decide) ?_
  obtain ⟨M61, eM61⟩ : ∃ y : mM, y = mC M46 (q1 + 11) (b + 11) 0 0 16 := ⟨_, rfl⟩
  have h := mlt_n h M61 eM61
  refine m_cpiL hx hb (hml.trans hl.1.symm) hown hF mw_4_30 mw_3_226 mw_3_225 mw_1_13 hR hS (kWorld11 h_q1) (kWorld11 h_b) (by decide) (by decide) (by decide) (by decide) (by decide) (by decide) (by decide) (by decide) (Nat.le_of_ble_eq_true rfl) (by decide +kernel) dX8_copyFrom_61 eM61 (fun H locs hR hS => ?_)
  refine lv_aload_n hx hb dX8_copyFrom_64 rfl (lv_at hl 1 rfl) ?_
  refine m_g7_5 hx hb hF hown hR (kWorld0 h_q1) mw_1_131 dX8_copyFrom_65 ?_
  refine lv_iconst (v := 0) hx hb dX8_copyFrom_68 (by decide) ?_
  refine lv_aload_n hx hb dX8_copyFrom_69 rfl (lv_at hl 0 rfl) ?_
  refine m_g7_5 hx hb hF hown hR (kWorld0 h_b) mw_1_131 dX8_copyFrom_70 ?_
  refine lv_iconst (v := 0) hx hb dX8_copyFrom_73 (by decide) ?_
  refine lv_bipush (v := 16) hx hb dX8_copyFrom_74 (by decide) ?_
  obtain ⟨M76, eM76⟩ : ∃ y : mM, y = mC M61 (q1 + 12) (b + 12) 0 0 16 := ⟨_, rfl⟩
  have h := mlt_n h M76 eM76
  refine m_cpiL hx hb (hml.trans hl.1.symm) hown hF mw_4_30 mw_3_226 mw_3_225 mw_1_13 hR hS (kWorld12 h_q1) (kWorld12 h_b) (by decide) (by decide) (by decide) (by decide) (by decide) (by decide) (by decide) (by decide) (Nat.le_of_ble_eq_true rfl) (by decide +kernel) dX8_copyFrom_76 eM76 (fun H locs hR hS => ?_)
  refine lv_aload_n hx hb dX8_copyFrom_79 rfl (lv_at hl 0 rfl) ?_
  refine lv_aload_n hx hb dX8_copyFrom_80 rfl (lv_at hl 1 rfl) ?_
  refine m_g7_6 hx hb hF hown hR (kWorld0 h_q1) mw_1_134 dX8_copyFrom_81 ?_
  obtain ⟨M84, eM84⟩ : ∃ y : mM, y = mI M76 b 6 (M76.1 q1 6) := ⟨_, rfl⟩
  have h := mlt_n h M84 eM84
  refine m_p7_6 hx hb hF hown hR hS (kWorld0 h_b) mw_1_134 dX8_copyFrom_84 eM84 (fun H locs hR hS => ?_)
  refine lv_aload_n hx hb dX8_copyFrom_87 rfl (lv_at hl 1 rfl) ?_
  refine m_g7_7 hx hb hF hown hR (kWorld0 h_q1) mw_1_136 dX8_copyFrom_88 ?_
  refine lv_iconst (v := 0) hx hb dX8_copyFrom_91 (by decide) ?_
  refine lv_aload_n hx hb dX8_copyFrom_92 rfl (lv_at hl 0 rfl) ?_
  refine m_g7_7 hx hb hF hown hR (kWorld0 h_b) mw_1_136 dX8_copyFrom_93 ?_
  refine lv_iconst (v := 0) hx hb dX8_copyFrom_96 (by decide) ?_
  refine lv_bipush (v := 16) hx hb dX8_copyFrom_97 (by decide) ?_
  obtain ⟨M99, eM99⟩ : ∃ y : mM, y = mCJ M84 (q1 + 13) (b + 13) 0 0 16 := ⟨_, rfl⟩
  have h := mlt_n h M99 eM99
  refine m_cplL hx hb (hml.trans hl.1.symm) hown hF mw_4_30 mw_3_226 mw_3_225 mw_1_13 hR hS (kWorld13 h_q1) (kWorld13 h_b) (by decide) (by decide) (by decide) (by decide) (by decide) (by decide) (by decide) (by decide) (Nat.le_of_ble_eq_true rfl) (by decide +kernel) dX8_copyFrom_99 eM99 (fun H locs hR hS => ?_)
  refine lv_aload_n hx hb dX8_copyFrom_102 rfl (lv_at hl 0 rfl) ?_
  refine lv_aload_n hx hb dX8_copyFrom_103 rfl (lv_at hl 1 rfl) ?_
  refine m_g7_8 hx hb hF hown hR (kWorld0 h_q1) mw_1_137 dX8_copyFrom_104 ?_
  obtain ⟨M107, eM107⟩ : ∃ y : mM, y = mI M99 b 8 (M99.1 q1 8) := ⟨_, rfl⟩
  have h := mlt_n h M107 eM107
  refine m_p7_8 hx hb hF hown hR hS (kWorld0 h_b) mw_1_137 dX8_copyFrom_107 eM107 (fun H locs hR hS => ?_)
  refine lv_iconst (v := 0) hx hb dX8_copyFrom_110 (by decide) ?_
  refine lv_istore_n (lv' := [(2, .int 0), (0, .ref (X.1 b)), (1, .ref (X.1 q1))]) hx hb dX8_copyFrom_111 rfl hl (by decide) rfl (fun ls hl => ?_)
  exact w_X8_copyFrom_b112 hs mN b q1 0 h_b h_q1 M107 h H locs ls hR hS (lv_sub hl [1, 2, 0] rfl)
theorem c_X8_copyFrom (l : Launch) (X : mX) (b : Nat) (q1 : Nat) (h_b : isWorld b) (h_q1 : isWorld q1) (M : mM) {r : mM} (h : f_X8_copyFrom b q1 M = some r) : mMv l yX8_copyFrom cX8_copyFrom 3 2 321 X [.ref (X.1 b), .ref (X.1 q1)] M r := m_ofv (by decide +kernel) (Nat.le_of_ble_eq_true rfl) rfl (fun p e s m args below meth c hs => w_X8_copyFrom hs b q1 h_b h_q1 M h)
set_option maxRecDepth 100000 in
set_option maxHeartbeats 4000000 in
theorem w_X9_image {l : Launch} {X : mX} {p : Program} {e : Env} {s : State} {m : MethodId} {args : Array Value} {below : List Frame} {meth : Method} {c : Code} {r : Int32 × mM} (hs : mS X RX9 cX9_image 1 (some .int) p s m meth c) : ∀  (M : mM), f_X9_image  M = some r → mG X p l e (rmF 3 343) s m args below meth c (MQ below (mQi X r.2 r.1) args s 0 0 (mL X)) 1 0 [(0, .ref (X.1 0))] [] M := by
  obtain ⟨hx, hb, hml, hown, hF, hlk, hr⟩ := id hs
  intro M h H locs ls hR hS hl
  refine lv_aload_n hx hb dX9_image_0 rfl (lv_at hl 0 rfl) ?_
  refine m_g8_1 hx hb hF hown hR kd_0 mw_2_43 dX9_image_1 ?_
  refine lv_aload_n hx hb dX9_image_4 rfl (lv_at hl 0 rfl) ?_
  refine m_g8_0 hx hb hF hown hR kd_0 mw_2_42 dX9_image_5 ?_
  obtain ⟨M8, q8, h⟩ := mbp_e h
  refine m_cv (m_rV hx hb hml hown hF hR hS (ent7 kd_33) kd_33 rfl (c_X8_copyFrom l X 33 1 isWorld_33 isWorld_1 M q8) q_X9_268_V hdV_X8_copyFrom ⟨Nat.le_of_ble_eq_true rfl, Nat.le_of_ble_eq_true rfl⟩ rfl hl.1 rfl (Nat.le_of_ble_eq_true rfl) dX9_image_8) hS (fun H locs hR hS => ?_)
  refine lv_aload_n hx hb dX9_image_11 rfl (lv_at hl 0 rfl) ?_
  refine lv_iconst (v := 1) hx hb dX9_image_12 (by decide) ?_
  obtain ⟨M13, eM13⟩ : ∃ y : mM, y = mI M8 0 2 1 := ⟨_, rfl⟩
  have h := mlt_n h M13 eM13
  refine m_p8_2 hx hb hF hown hR hS kd_0 mw_2_44 dX9_image_13 (Or.inr rfl) eM13 (fun H locs hR hS => ?_)
  refine lv_aload_n hx hb dX9_image_16 rfl (lv_at hl 0 rfl) ?_
  refine m_g8_0 hx hb hF hown hR kd_0 mw_2_42 dX9_image_17 ?_
  refine m_g7_1 hx hb hF hown hR kd_1 mw_1_121 dX9_image_20 ?_
  exact m_ir hx hb hlk hr hR hS (Option.some.inj h).symm dX9_image_23
theorem c_X9_image (l : Launch) (X : mX) (M : mM) {r : Int32 × mM} (h : f_X9_image M = some r) : mMi l yX9_image cX9_image 1 (some .int) 3 343 X [.ref (X.1 0)] M r := m_ofi (by decide +kernel) (Nat.le_of_ble_eq_true rfl) rfl (fun p e s m args below meth c hs => w_X9_image hs M h)
set_option maxRecDepth 100000 in
set_option maxHeartbeats 4000000 in
theorem w_X9_restore {l : Launch} {X : mX} {p : Program} {e : Env} {s : State} {m : MethodId} {args : Array Value} {below : List Frame} {meth : Method} {c : Code} {r : Int32 × mM} (hs : mS X RX9 cX9_restore 1 (some .int) p s m meth c) : ∀  (M : mM), f_X9_restore  M = some r → mG X p l e (rmF 3 343) s m args below meth c (MQ below (mQi X r.2 r.1) args s 0 0 (mL X)) 1 0 [(0, .ref (X.1 0))] [] M := by
  obtain ⟨hx, hb, hml, hown, hF, hlk, hr⟩ := id hs
  intro M h H locs ls hR hS hl
  refine lv_aload_n hx hb dX9_restore_0 rfl (lv_at hl 0 rfl) ?_
  refine m_g8_2 hx hb hF hown hR kd_0 mw_2_44 dX9_restore_1 ?_
  refine lv_if_ne (tgt := 10) hx hb dX9_restore_4 (by decide) (fun c4 => ?_) (fun c4 => ?_)
  · have h := mif_n h c4
    refine lv_aload_n hx hb dX9_restore_10 rfl (lv_at hl 0 rfl) ?_
    refine m_g8_0 hx hb hF hown hR kd_0 mw_2_42 dX9_restore_11 ?_
    refine lv_aload_n hx hb dX9_restore_14 rfl (lv_at hl 0 rfl) ?_
    refine m_g8_1 hx hb hF hown hR kd_0 mw_2_43 dX9_restore_15 ?_
    obtain ⟨M18, q18, h⟩ := mbp_e h
    refine m_cv (m_rV hx hb hml hown hF hR hS (ent7 kd_1) kd_1 rfl (c_X8_copyFrom l X 1 33 isWorld_1 isWorld_33 M q18) q_X9_268_V hdV_X8_copyFrom ⟨Nat.le_of_ble_eq_true rfl, Nat.le_of_ble_eq_true rfl⟩ rfl hl.1 rfl (Nat.le_of_ble_eq_true rfl) dX9_restore_18) hS (fun H locs hR hS => ?_)
    refine lv_aload_n hx hb dX9_restore_21 rfl (lv_at hl 0 rfl) ?_
    refine m_g8_0 hx hb hF hown hR kd_0 mw_2_42 dX9_restore_22 ?_
    refine m_g7_1 hx hb hF hown hR kd_1 mw_1_121 dX9_restore_25 ?_
    exact m_ir hx hb hlk hr hR hS (Option.some.inj h).symm dX9_restore_28
  · have h := mif_y h c4
    refine lv_bipush (v := (-3)) hx hb dX9_restore_7 (by decide) ?_
    exact m_ir hx hb hlk hr hR hS (Option.some.inj h).symm dX9_restore_9
theorem c_X9_restore (l : Launch) (X : mX) (M : mM) {r : Int32 × mM} (h : f_X9_restore M = some r) : mMi l yX9_restore cX9_restore 1 (some .int) 3 343 X [.ref (X.1 0)] M r := m_ofi (by decide +kernel) (Nat.le_of_ble_eq_true rfl) rfl (fun p e s m args below meth c hs => w_X9_restore hs M h)
set_option maxRecDepth 100000 in
set_option maxHeartbeats 4000000 in
theorem w_X0_countDead_b4 {l : Launch} {X : mX} {p : Program} {e : Env} {s : State} {m : MethodId} {args : Array Value} {below : List Frame} {meth : Method} {c : Code} {M : mM} {r : Int32} (hs : mS X RX0 cX0_countDead 3 (some .int) p s m meth c) : ∀ n : Nat, ∀ (b : Nat) (i1 : Int32) (i2 : Int32) (h_b : isBody b), f_X0_countDead_b4 n b i1 i2 M = some r → mG X p l e (rmF 1 20) s m args below meth c (MQ below (mQi X M r) args s 0 0 (mL X)) 3 4 [(0, .ref (X.1 b)), (1, .int i1), (2, .int i2)] [] M := by
  obtain ⟨hx, hb, hml, hown, hF, hlk, hr⟩ := id hs
  intro n
  induction n with
  | zero =>
    intro b i1 i2 h_b h
    have h0 : (none : Option (Int32)) = some r := h
    cases h0
  | succ n ih =>
    intro b i1 i2 h_b h H locs ls hR hS hl
    refine lv_iload_n hx hb dX0_countDead_4 rfl (lv_at hl 2 rfl) ?_
    refine lv_aload_n hx hb dX0_countDead_5 rfl (lv_at hl 0 rfl) ?_
    refine m_g0_0 hx hb hF hown hR (kBody0 h_b) mw_1_46 dX0_countDead_6 ?_
    refine lv_icmp_ge (tgt := 30) hx hb dX0_countDead_9 (by decide) (fun c9 => ?_) (fun c9 => ?_)
    · have h := mif_y h c9
      refine lv_iload_n hx hb dX0_countDead_30 rfl (lv_at hl 1 rfl) ?_
      exact m_ir hx hb hlk hr hR hS (congrArg (fun z => (z, M)) (Option.some.inj h).symm) dX0_countDead_31
    · have h := mif_n h c9
      refine lv_iload_n hx hb dX0_countDead_12 rfl (lv_at hl 1 rfl) ?_
      refine lv_aload_n hx hb dX0_countDead_13 rfl (lv_at hl 0 rfl) ?_
      refine m_g0_4 hx hb hF hown hR (kBody0 h_b) mw_1_65 dX0_countDead_14 ?_
      refine lv_iload_n hx hb dX0_countDead_17 rfl (lv_at hl 2 rfl) ?_
      obtain ⟨g18, h⟩ := mgd_e h
      refine m_zaldL hx hb hR (kBody4 h_b) g18 (jn := (Int32.toNatClampNeg i2)) rfl dX0_countDead_18 ?_
      refine m_ci (m_rSN hx hb hml hown hF hR hS (c_X9_oneIf l X (M.1 (b + 4) (Int32.toNatClampNeg i2)) M) mw_2_112 mw_1_1 mw_2_111 26 rfl hdS_X9_oneIf ⟨Nat.le_of_ble_eq_true rfl, Nat.le_of_ble_eq_true rfl⟩ rfl hl.1 rfl (Nat.le_of_ble_eq_true rfl) dX0_countDead_19) hS (fun H locs hR hS => ?_)
      refine lv_iadd hx hb dX0_countDead_22 ?_
      refine lv_topi (fun x23 ex23 => ?_)
      have h := mlt_n h x23 ex23
      refine lv_istore_n (lv' := [(1, .int x23), (0, .ref (X.1 b)), (2, .int i2)]) hx hb dX0_countDead_23 rfl hl (by decide) rfl (fun ls hl => ?_)
      obtain ⟨x24, ex24⟩ : ∃ y : Int32, y = (i2 + 1) := ⟨_, rfl⟩
      have h := mlt_n h x24 ex24
      refine lv_iinc (v := x24) (lv' := [(2, .int x24), (1, .int x23), (0, .ref (X.1 b))]) hx hb dX0_countDead_24 hl (k := 2) rfl (by rw [ex24]; rfl) (by decide) rfl (fun ls hl => ?_)
      refine lv_goto (tgt := 4) hx hb dX0_countDead_27 (by decide) ?_
      exact ih b x23 x24 h_b h H locs ls hR hS (lv_sub hl [2, 1, 0] rfl)
set_option maxRecDepth 100000 in
set_option maxHeartbeats 4000000 in
theorem w_X0_countDead {l : Launch} {X : mX} {p : Program} {e : Env} {s : State} {m : MethodId} {args : Array Value} {below : List Frame} {meth : Method} {c : Code} {M : mM} {r : Int32} (hs : mS X RX0 cX0_countDead 3 (some .int) p s m meth c) : ∀ (b : Nat) (h_b : isBody b), f_X0_countDead b M = some r → mG X p l e (rmF 1 20) s m args below meth c (MQ below (mQi X M r) args s 0 0 (mL X)) 3 0 [(0, .ref (X.1 b))] [] M := by
  obtain ⟨hx, hb, hml, hown, hF, hlk, hr⟩ := id hs
  intro b h_b h H locs ls hR hS hl
  refine lv_iconst (v := 0) hx hb dX0_countDead_0 (by decide) ?_
  refine lv_istore_n (lv' := [(1, .int 0), (0, .ref (X.1 b))]) hx hb dX0_countDead_1 rfl hl (by decide) rfl (fun ls hl => ?_)
  refine lv_iconst (v := 0) hx hb dX0_countDead_2 (by decide) ?_
  refine lv_istore_n (lv' := [(2, .int 0), (1, .int 0), (0, .ref (X.1 b))]) hx hb dX0_countDead_3 rfl hl (by decide) rfl (fun ls hl => ?_)
  exact w_X0_countDead_b4 hs mN b 0 0 h_b h H locs ls hR hS (lv_sub hl [2, 1, 0] rfl)
theorem c_X0_countDead (l : Launch) (X : mX) (b : Nat) (h_b : isBody b) (M : mM) {r : Int32} (h : f_X0_countDead b M = some r) : mMi l yX0_countDead cX0_countDead 3 (some .int) 1 20 X [.ref (X.1 b)] M (r, M) := m_ofi (by decide +kernel) (Nat.le_of_ble_eq_true rfl) rfl (fun p e s m args below meth c hs => w_X0_countDead hs b h_b h)
set_option maxRecDepth 100000 in
set_option maxHeartbeats 4000000 in
theorem w_X0_wholePower_b4 {l : Launch} {X : mX} {p : Program} {e : Env} {s : State} {m : MethodId} {args : Array Value} {below : List Frame} {meth : Method} {c : Code} {M : mM} {r : Int32} (hs : mS X RX0 cX0_wholePower 3 (some .int) p s m meth c) : ∀ n : Nat, ∀ (b : Nat) (i1 : Int32) (i2 : Int32) (h_b : isBody b), f_X0_wholePower_b4 n b i1 i2 M = some r → mG X p l e (rmF 0 0) s m args below meth c (MQ below (mQi X M r) args s 0 0 (mL X)) 3 4 [(0, .ref (X.1 b)), (1, .int i1), (2, .int i2)] [] M := by
  obtain ⟨hx, hb, hml, hown, hF, hlk, hr⟩ := id hs
  intro n
  induction n with
  | zero =>
    intro b i1 i2 h_b h
    have h0 : (none : Option (Int32)) = some r := h
    cases h0
  | succ n ih =>
    intro b i1 i2 h_b h H locs ls hR hS hl
    refine lv_iload_n hx hb dX0_wholePower_4 rfl (lv_at hl 2 rfl) ?_
    refine lv_aload_n hx hb dX0_wholePower_5 rfl (lv_at hl 0 rfl) ?_
    refine m_g0_0 hx hb hF hown hR (kBody0 h_b) mw_1_46 dX0_wholePower_6 ?_
    refine lv_icmp_ge (tgt := 27) hx hb dX0_wholePower_9 (by decide) (fun c9 => ?_) (fun c9 => ?_)
    · have h := mif_y h c9
      refine lv_iload_n hx hb dX0_wholePower_27 rfl (lv_at hl 1 rfl) ?_
      exact m_ir hx hb hlk hr hR hS (congrArg (fun z => (z, M)) (Option.some.inj h).symm) dX0_wholePower_28
    · have h := mif_n h c9
      refine lv_iload_n hx hb dX0_wholePower_12 rfl (lv_at hl 1 rfl) ?_
      refine lv_aload_n hx hb dX0_wholePower_13 rfl (lv_at hl 0 rfl) ?_
      refine m_g0_3 hx hb hF hown hR (kBody0 h_b) mw_1_60 dX0_wholePower_14 ?_
      refine lv_iload_n hx hb dX0_wholePower_17 rfl (lv_at hl 2 rfl) ?_
      obtain ⟨g18, h⟩ := mgd_e h
      refine m_ialdL hx hb hR (kBody3 h_b) g18 (jn := (Int32.toNatClampNeg i2)) rfl dX0_wholePower_18 ?_
      refine lv_iadd hx hb dX0_wholePower_19 ?_
      refine lv_topi (fun x20 ex20 => ?_)
      have h := mlt_n h x20 ex20
      refine lv_istore_n (lv' := [(1, .int x20), (0, .ref (X.1 b)), (2, .int i2)]) hx hb dX0_wholePower_20 rfl hl (by decide) rfl (fun ls hl => ?_)
      obtain ⟨x21, ex21⟩ : ∃ y : Int32, y = (i2 + 1) := ⟨_, rfl⟩
      have h := mlt_n h x21 ex21
      refine lv_iinc (v := x21) (lv' := [(2, .int x21), (1, .int x20), (0, .ref (X.1 b))]) hx hb dX0_wholePower_21 hl (k := 2) rfl (by rw [ex21]; rfl) (by decide) rfl (fun ls hl => ?_)
      refine lv_goto (tgt := 4) hx hb dX0_wholePower_24 (by decide) ?_
      exact ih b x20 x21 h_b h H locs ls hR hS (lv_sub hl [2, 1, 0] rfl)
set_option maxRecDepth 100000 in
set_option maxHeartbeats 4000000 in
theorem w_X0_wholePower {l : Launch} {X : mX} {p : Program} {e : Env} {s : State} {m : MethodId} {args : Array Value} {below : List Frame} {meth : Method} {c : Code} {M : mM} {r : Int32} (hs : mS X RX0 cX0_wholePower 3 (some .int) p s m meth c) : ∀ (b : Nat) (h_b : isBody b), f_X0_wholePower b M = some r → mG X p l e (rmF 0 0) s m args below meth c (MQ below (mQi X M r) args s 0 0 (mL X)) 3 0 [(0, .ref (X.1 b))] [] M := by
  obtain ⟨hx, hb, hml, hown, hF, hlk, hr⟩ := id hs
  intro b h_b h H locs ls hR hS hl
  refine lv_iconst (v := 0) hx hb dX0_wholePower_0 (by decide) ?_
  refine lv_istore_n (lv' := [(1, .int 0), (0, .ref (X.1 b))]) hx hb dX0_wholePower_1 rfl hl (by decide) rfl (fun ls hl => ?_)
  refine lv_iconst (v := 0) hx hb dX0_wholePower_2 (by decide) ?_
  refine lv_istore_n (lv' := [(2, .int 0), (1, .int 0), (0, .ref (X.1 b))]) hx hb dX0_wholePower_3 rfl hl (by decide) rfl (fun ls hl => ?_)
  exact w_X0_wholePower_b4 hs mN b 0 0 h_b h H locs ls hR hS (lv_sub hl [2, 1, 0] rfl)
theorem c_X0_wholePower (l : Launch) (X : mX) (b : Nat) (h_b : isBody b) (M : mM) {r : Int32} (h : f_X0_wholePower b M = some r) : mMi l yX0_wholePower cX0_wholePower 3 (some .int) 0 0 X [.ref (X.1 b)] M (r, M) := m_ofi (by decide +kernel) (Nat.le_of_ble_eq_true rfl) rfl (fun p e s m args below meth c hs => w_X0_wholePower hs b h_b h)
set_option maxRecDepth 100000 in
set_option maxHeartbeats 4000000 in
theorem w_X0_wholeWeight_b4 {l : Launch} {X : mX} {p : Program} {e : Env} {s : State} {m : MethodId} {args : Array Value} {below : List Frame} {meth : Method} {c : Code} {M : mM} {r : Int32} (hs : mS X RX0 cX0_wholeWeight 3 (some .int) p s m meth c) : ∀ n : Nat, ∀ (b : Nat) (i1 : Int32) (i2 : Int32) (h_b : isBody b), f_X0_wholeWeight_b4 n b i1 i2 M = some r → mG X p l e (rmF 0 0) s m args below meth c (MQ below (mQi X M r) args s 0 0 (mL X)) 3 4 [(0, .ref (X.1 b)), (1, .int i1), (2, .int i2)] [] M := by
  obtain ⟨hx, hb, hml, hown, hF, hlk, hr⟩ := id hs
  intro n
  induction n with
  | zero =>
    intro b i1 i2 h_b h
    have h0 : (none : Option (Int32)) = some r := h
    cases h0
  | succ n ih =>
    intro b i1 i2 h_b h H locs ls hR hS hl
    refine lv_iload_n hx hb dX0_wholeWeight_4 rfl (lv_at hl 2 rfl) ?_
    refine lv_aload_n hx hb dX0_wholeWeight_5 rfl (lv_at hl 0 rfl) ?_
    refine m_g0_0 hx hb hF hown hR (kBody0 h_b) mw_1_46 dX0_wholeWeight_6 ?_
    refine lv_icmp_ge (tgt := 31) hx hb dX0_wholeWeight_9 (by decide) (fun c9 => ?_) (fun c9 => ?_)
    · have h := mif_y h c9
      refine lv_iload_n hx hb dX0_wholeWeight_31 rfl (lv_at hl 1 rfl) ?_
      exact m_ir hx hb hlk hr hR hS (congrArg (fun z => (z, M)) (Option.some.inj h).symm) dX0_wholeWeight_32
    · have h := mif_n h c9
      refine lv_iload_n hx hb dX0_wholeWeight_12 rfl (lv_at hl 1 rfl) ?_
      refine m_gsN hx hb hF hS hown 0 (by decide) rfl 13 rfl dX0_wholeWeight_13 ?_
      refine lv_aload_n hx hb dX0_wholeWeight_16 rfl (lv_at hl 0 rfl) ?_
      refine m_g0_1 hx hb hF hown hR (kBody0 h_b) mw_1_51 dX0_wholeWeight_17 ?_
      refine lv_iload_n hx hb dX0_wholeWeight_20 rfl (lv_at hl 2 rfl) ?_
      obtain ⟨g21, h⟩ := mgd_e h
      refine m_ialdL hx hb hR (kBody1 h_b) g21 (jn := (Int32.toNatClampNeg i2)) rfl dX0_wholeWeight_21 ?_
      obtain ⟨g22, h⟩ := mgd_e h
      refine m_saidL hx hb hF hS 0 (by decide) (N := 4) rfl g22 (jn := (Int32.toNatClampNeg (M.1 (b + 1) (Int32.toNatClampNeg i2)))) rfl dX0_wholeWeight_22 ?_
      refine lv_iadd hx hb dX0_wholeWeight_23 ?_
      refine lv_topi (fun x24 ex24 => ?_)
      have h := mlt_n h x24 ex24
      refine lv_istore_n (lv' := [(1, .int x24), (0, .ref (X.1 b)), (2, .int i2)]) hx hb dX0_wholeWeight_24 rfl hl (by decide) rfl (fun ls hl => ?_)
      obtain ⟨x25, ex25⟩ : ∃ y : Int32, y = (i2 + 1) := ⟨_, rfl⟩
      have h := mlt_n h x25 ex25
      refine lv_iinc (v := x25) (lv' := [(2, .int x25), (1, .int x24), (0, .ref (X.1 b))]) hx hb dX0_wholeWeight_25 hl (k := 2) rfl (by rw [ex25]; rfl) (by decide) rfl (fun ls hl => ?_)
      refine lv_goto (tgt := 4) hx hb dX0_wholeWeight_28 (by decide) ?_
      exact ih b x24 x25 h_b h H locs ls hR hS (lv_sub hl [2, 1, 0] rfl)
set_option maxRecDepth 100000 in
set_option maxHeartbeats 4000000 in
theorem w_X0_wholeWeight {l : Launch} {X : mX} {p : Program} {e : Env} {s : State} {m : MethodId} {args : Array Value} {below : List Frame} {meth : Method} {c : Code} {M : mM} {r : Int32} (hs : mS X RX0 cX0_wholeWeight 3 (some .int) p s m meth c) : ∀ (b : Nat) (h_b : isBody b), f_X0_wholeWeight b M = some r → mG X p l e (rmF 0 0) s m args below meth c (MQ below (mQi X M r) args s 0 0 (mL X)) 3 0 [(0, .ref (X.1 b))] [] M := by
  obtain ⟨hx, hb, hml, hown, hF, hlk, hr⟩ := id hs
  intro b h_b h H locs ls hR hS hl
  refine lv_iconst (v := 0) hx hb dX0_wholeWeight_0 (by decide) ?_
  refine lv_istore_n (lv' := [(1, .int 0), (0, .ref (X.1 b))]) hx hb dX0_wholeWeight_1 rfl hl (by decide) rfl (fun ls hl => ?_)
  refine lv_iconst (v := 0) hx hb dX0_wholeWeight_2 (by decide) ?_
  refine lv_istore_n (lv' := [(2, .int 0), (1, .int 0), (0, .ref (X.1 b))]) hx hb dX0_wholeWeight_3 rfl hl (by decide) rfl (fun ls hl => ?_)
  exact w_X0_wholeWeight_b4 hs mN b 0 0 h_b h H locs ls hR hS (lv_sub hl [2, 1, 0] rfl)
theorem c_X0_wholeWeight (l : Launch) (X : mX) (b : Nat) (h_b : isBody b) (M : mM) {r : Int32} (h : f_X0_wholeWeight b M = some r) : mMi l yX0_wholeWeight cX0_wholeWeight 3 (some .int) 0 0 X [.ref (X.1 b)] M (r, M) := m_ofi (by decide +kernel) (Nat.le_of_ble_eq_true rfl) rfl (fun p e s m args below meth c hs => w_X0_wholeWeight hs b h_b h)
set_option maxRecDepth 100000 in
set_option maxHeartbeats 4000000 in
theorem w_X9_count {l : Launch} {X : mX} {p : Program} {e : Env} {s : State} {m : MethodId} {args : Array Value} {below : List Frame} {meth : Method} {c : Code} {M : mM} {r : Int32} (hs : mS X RX9 cX9_count 2 (some .int) p s m meth c) : ∀ (i1 : Int32), f_X9_count i1 M = some r → mG X p l e (rmF 2 42) s m args below meth c (MQ below (mQi X M r) args s 0 0 (mL X)) 2 0 [(0, .ref (X.1 0)), (1, .int i1)] [] M := by
  obtain ⟨hx, hb, hml, hown, hF, hlk, hr⟩ := id hs
  intro i1 h H locs ls hR hS hl
  refine lv_iload_n hx hb dX9_count_0 rfl (lv_at hl 1 rfl) ?_
  by_cases c1_0 : i1 = 0
  · have h := mif_y h c1_0
    refine lv_tableIn (tgt := 52) hx hb dX9_count_1 (by rw [c1_0]; decide) (by rw [c1_0]; decide) (by rw [c1_0] <;> rfl) (by decide) ?_
    refine lv_aload_n hx hb dX9_count_52 rfl (lv_at hl 0 rfl) ?_
    refine m_g8_0 hx hb hF hown hR kd_0 mw_2_42 dX9_count_53 ?_
    refine m_g7_0 hx hb hF hown hR kd_1 mw_1_118 dX9_count_56 ?_
    refine m_g0_0 hx hb hF hown hR kd_2 mw_1_48 dX9_count_59 ?_
    exact m_ir hx hb hlk hr hR hS (congrArg (fun z => (z, M)) (Option.some.inj h).symm) dX9_count_62
  · have h := mif_n h c1_0
    by_cases c1_1 : i1 = 1
    · have h := mif_y h c1_1
      refine lv_tableIn (tgt := 63) hx hb dX9_count_1 (by rw [c1_1]; decide) (by rw [c1_1]; decide) (by rw [c1_1] <;> rfl) (by decide) ?_
      refine lv_aload_n hx hb dX9_count_63 rfl (lv_at hl 0 rfl) ?_
      refine m_g8_0 hx hb hF hown hR kd_0 mw_2_42 dX9_count_64 ?_
      refine m_g7_0 hx hb hF hown hR kd_1 mw_1_118 dX9_count_67 ?_
      obtain ⟨v70, q70, h⟩ := mbp_e h
      refine m_ci (m_rV hx hb hml hown hF hR hS (ent0 kd_2) kd_2 rfl (c_X0_countDead l X 2 isBody_2 M q70) q_X9_274_V hdV_X0_countDead ⟨Nat.le_of_ble_eq_true rfl, Nat.le_of_ble_eq_true rfl⟩ rfl hl.1 rfl (Nat.le_of_ble_eq_true rfl) dX9_count_70) hS (fun H locs hR hS => ?_)
      exact m_ir hx hb hlk hr hR hS (congrArg (fun z => (z, M)) (Option.some.inj h).symm) dX9_count_73
    · have h := mif_n h c1_1
      by_cases c1_2 : i1 = 2
      · have h := mif_y h c1_2
        refine lv_tableIn (tgt := 74) hx hb dX9_count_1 (by rw [c1_2]; decide) (by rw [c1_2]; decide) (by rw [c1_2] <;> rfl) (by decide) ?_
        refine lv_aload_n hx hb dX9_count_74 rfl (lv_at hl 0 rfl) ?_
        refine m_g8_0 hx hb hF hown hR kd_0 mw_2_42 dX9_count_75 ?_
        refine m_g7_0 hx hb hF hown hR kd_1 mw_1_118 dX9_count_78 ?_
        obtain ⟨v81, q81, h⟩ := mbp_e h
        refine m_ci (m_rV hx hb hml hown hF hR hS (ent0 kd_2) kd_2 rfl (c_X0_wholePower l X 2 isBody_2 M q81) q_X9_277_V hdV_X0_wholePower ⟨Nat.le_of_ble_eq_true rfl, Nat.le_of_ble_eq_true rfl⟩ rfl hl.1 rfl (Nat.le_of_ble_eq_true rfl) dX9_count_81) hS (fun H locs hR hS => ?_)
        exact m_ir hx hb hlk hr hR hS (congrArg (fun z => (z, M)) (Option.some.inj h).symm) dX9_count_84
      · have h := mif_n h c1_2
        by_cases c1_3 : i1 = 3
        · have h := mif_y h c1_3
          refine lv_tableIn (tgt := 85) hx hb dX9_count_1 (by rw [c1_3]; decide) (by rw [c1_3]; decide) (by rw [c1_3] <;> rfl) (by decide) ?_
          refine lv_aload_n hx hb dX9_count_85 rfl (lv_at hl 0 rfl) ?_
          refine m_g8_0 hx hb hF hown hR kd_0 mw_2_42 dX9_count_86 ?_
          refine m_g7_6 hx hb hF hown hR kd_1 mw_1_135 dX9_count_89 ?_
          exact m_ir hx hb hlk hr hR hS (congrArg (fun z => (z, M)) (Option.some.inj h).symm) dX9_count_92
        · have h := mif_n h c1_3
          by_cases c1_4 : i1 = 4
          · have h := mif_y h c1_4
            refine lv_tableIn (tgt := 93) hx hb dX9_count_1 (by rw [c1_4]; decide) (by rw [c1_4]; decide) (by rw [c1_4] <;> rfl) (by decide) ?_
            refine lv_aload_n hx hb dX9_count_93 rfl (lv_at hl 0 rfl) ?_
            refine m_g8_0 hx hb hF hown hR kd_0 mw_2_42 dX9_count_94 ?_
            refine m_g7_8 hx hb hF hown hR kd_1 mw_1_138 dX9_count_97 ?_
            exact m_ir hx hb hlk hr hR hS (congrArg (fun z => (z, M)) (Option.some.inj h).symm) dX9_count_100
          · have h := mif_n h c1_4
            by_cases c1_5 : i1 = 5
            · have h := mif_y h c1_5
              refine lv_tableIn (tgt := 101) hx hb dX9_count_1 (by rw [c1_5]; decide) (by rw [c1_5]; decide) (by rw [c1_5] <;> rfl) (by decide) ?_
              refine lv_aload_n hx hb dX9_count_101 rfl (lv_at hl 0 rfl) ?_
              refine m_g8_0 hx hb hF hown hR kd_0 mw_2_42 dX9_count_102 ?_
              refine m_g7_12 hx hb hF hown hR kd_1 mw_1_146 dX9_count_105 ?_
              refine m_g2_0 hx hb hF hown hR kd_29 mw_1_101 dX9_count_108 ?_
              exact m_ir hx hb hlk hr hR hS (congrArg (fun z => (z, M)) (Option.some.inj h).symm) dX9_count_111
            · have h := mif_n h c1_5
              by_cases c1_6 : i1 = 6
              · have h := mif_y h c1_6
                refine lv_tableIn (tgt := 112) hx hb dX9_count_1 (by rw [c1_6]; decide) (by rw [c1_6]; decide) (by rw [c1_6] <;> rfl) (by decide) ?_
                refine lv_aload_n hx hb dX9_count_112 rfl (lv_at hl 0 rfl) ?_
                refine m_g8_0 hx hb hF hown hR kd_0 mw_2_42 dX9_count_113 ?_
                refine m_g7_1 hx hb hF hown hR kd_1 mw_1_121 dX9_count_116 ?_
                exact m_ir hx hb hlk hr hR hS (congrArg (fun z => (z, M)) (Option.some.inj h).symm) dX9_count_119
              · have h := mif_n h c1_6
                by_cases c1_7 : i1 = 7
                · have h := mif_y h c1_7
                  refine lv_tableIn (tgt := 120) hx hb dX9_count_1 (by rw [c1_7]; decide) (by rw [c1_7]; decide) (by rw [c1_7] <;> rfl) (by decide) ?_
                  refine lv_aload_n hx hb dX9_count_120 rfl (lv_at hl 0 rfl) ?_
                  refine m_g8_0 hx hb hF hown hR kd_0 mw_2_42 dX9_count_121 ?_
                  refine m_g7_0 hx hb hF hown hR kd_1 mw_1_118 dX9_count_124 ?_
                  obtain ⟨v127, q127, h⟩ := mbp_e h
                  refine m_ci (m_rV hx hb hml hown hF hR hS (ent0 kd_2) kd_2 rfl (c_X0_wholeWeight l X 2 isBody_2 M q127) q_X9_280_V hdV_X0_wholeWeight ⟨Nat.le_of_ble_eq_true rfl, Nat.le_of_ble_eq_true rfl⟩ rfl hl.1 rfl (Nat.le_of_ble_eq_true rfl) dX9_count_127) hS (fun H locs hR hS => ?_)
                  exact m_ir hx hb hlk hr hR hS (congrArg (fun z => (z, M)) (Option.some.inj h).symm) dX9_count_130
                · have h := mif_n h c1_7
                  by_cases c1_8 : i1 = 8
                  · have h := mif_y h c1_8
                    refine lv_tableIn (tgt := 131) hx hb dX9_count_1 (by rw [c1_8]; decide) (by rw [c1_8]; decide) (by rw [c1_8] <;> rfl) (by decide) ?_
                    refine lv_aload_n hx hb dX9_count_131 rfl (lv_at hl 0 rfl) ?_
                    refine m_g8_0 hx hb hF hown hR kd_0 mw_2_42 dX9_count_132 ?_
                    refine m_g7_11 hx hb hF hown hR kd_1 mw_1_144 dX9_count_135 ?_
                    refine m_g2_0 hx hb hF hown hR kd_25 mw_1_101 dX9_count_138 ?_
                    exact m_ir hx hb hlk hr hR hS (congrArg (fun z => (z, M)) (Option.some.inj h).symm) dX9_count_141
                  · have h := mif_n h c1_8
                    refine lv_tableOut (tgt := 142) hx hb dX9_count_1 (m_swOut (fun q => by have := q.1; have := q.2; have := lv_neT c1_0 (a := 0) rfl; have := lv_neT c1_1 (a := 1) rfl; have := lv_neT c1_2 (a := 2) rfl; have := lv_neT c1_3 (a := 3) rfl; have := lv_neT c1_4 (a := 4) rfl; have := lv_neT c1_5 (a := 5) rfl; have := lv_neT c1_6 (a := 6) rfl; have := lv_neT c1_7 (a := 7) rfl; have := lv_neT c1_8 (a := 8) rfl; omega)) (by decide) ?_
                    refine lv_iconst (v := (-1)) hx hb dX9_count_142 (by decide) ?_
                    exact m_ir hx hb hlk hr hR hS (congrArg (fun z => (z, M)) (Option.some.inj h).symm) dX9_count_143
theorem c_X9_count (l : Launch) (X : mX) (i1 : Int32) (M : mM) {r : Int32} (h : f_X9_count i1 M = some r) : mMi l yX9_count cX9_count 2 (some .int) 2 42 X [.ref (X.1 0), .int i1] M (r, M) := m_ofi (by decide +kernel) (Nat.le_of_ble_eq_true rfl) rfl (fun p e s m args below meth c hs => w_X9_count hs i1 h)
set_option maxRecDepth 100000 in
set_option maxHeartbeats 4000000 in
theorem w_X6_hold {l : Launch} {X : mX} {p : Program} {e : Env} {s : State} {m : MethodId} {args : Array Value} {below : List Frame} {meth : Method} {c : Code} {r : mM} (hs : mS X RX6 cX6_hold 2 none p s m meth c) : ∀ (b : Nat) (i1 : Int32) (h_b : isShelf b) (M : mM), f_X6_hold b i1 M = some r → mG X p l e (rmF 0 0) s m args below meth c (MQ below (mQv X r) args s 0 0 (mL X)) 2 0 [(0, .ref (X.1 b)), (1, .int i1)] [] M := by
  obtain ⟨hx, hb, hml, hown, hF, hlk, hr⟩ := id hs
  intro b i1 h_b M h H locs ls hR hS hl
  refine lv_aload_n hx hb dX6_hold_0 rfl (lv_at hl 0 rfl) ?_
  refine lv_iload_n hx hb dX6_hold_1 rfl (lv_at hl 1 rfl) ?_
  obtain ⟨M2, eM2⟩ : ∃ y : mM, y = mI M b 0 i1 := ⟨_, rfl⟩
  have h := mlt_n h M2 eM2
  refine m_p6_0 hx hb hF hown hR hS (kShelf0 h_b) mw_2_8 dX6_hold_2 eM2 (fun H locs hR hS => ?_)
  refine lv_aload_n hx hb dX6_hold_5 rfl (lv_at hl 0 rfl) ?_
  refine lv_iconst (v := 0) hx hb dX6_hold_6 (by decide) ?_
  obtain ⟨M7, eM7⟩ : ∃ y : mM, y = mI M2 b 1 0 := ⟨_, rfl⟩
  have h := mlt_n h M7 eM7
  refine m_p6_1 hx hb hF hown hR hS (kShelf0 h_b) mw_2_12 dX6_hold_7 eM7 (fun H locs hR hS => ?_)
  exact m_vr hx hb hlk hr hR hS (Option.some.inj h).symm dX6_hold_10
theorem c_X6_hold (l : Launch) (X : mX) (b : Nat) (i1 : Int32) (h_b : isShelf b) (M : mM) {r : mM} (h : f_X6_hold b i1 M = some r) : mMv l yX6_hold cX6_hold 2 0 0 X [.ref (X.1 b), .int i1] M r := m_ofv (by decide +kernel) (Nat.le_of_ble_eq_true rfl) rfl (fun p e s m args below meth c hs => w_X6_hold hs b i1 h_b M h)
set_option maxRecDepth 100000 in
set_option maxHeartbeats 4000000 in
theorem w_X6_holdCube {l : Launch} {X : mX} {p : Program} {e : Env} {s : State} {m : MethodId} {args : Array Value} {below : List Frame} {meth : Method} {c : Code} {r : mM} (hs : mS X RX6 cX6_holdCube 3 none p s m meth c) : ∀ (b : Nat) (q1 : Nat) (i2 : Int32) (h_b : isShelf b) (h_q1 : isBody q1) (M : mM), f_X6_holdCube b q1 i2 M = some r → mG X p l e (rmF 1 21) s m args below meth c (MQ below (mQv X r) args s 0 0 (mL X)) 3 0 [(0, .ref (X.1 b)), (1, .ref (X.1 q1)), (2, .int i2)] [] M := by
  obtain ⟨hx, hb, hml, hown, hF, hlk, hr⟩ := id hs
  intro b q1 i2 h_b h_q1 M h H locs ls hR hS hl
  refine lv_aload_n hx hb dX6_holdCube_0 rfl (lv_at hl 0 rfl) ?_
  refine lv_iconst (v := (-1)) hx hb dX6_holdCube_1 (by decide) ?_
  obtain ⟨M2, q2, h⟩ := mbp_e h
  refine m_cv (m_rV hx hb hml hown hF hR hS (ent6 (kShelf0 h_b)) (kShelf0 h_b) rfl (c_X6_hold l X b (-1) h_b M q2) q_X6_22_V hdV_X6_hold ⟨Nat.le_of_ble_eq_true rfl, Nat.le_of_ble_eq_true rfl⟩ rfl hl.1 rfl (Nat.le_of_ble_eq_true rfl) dX6_holdCube_2) hS (fun H locs hR hS => ?_)
  refine lv_aload_n hx hb dX6_holdCube_5 rfl (lv_at hl 0 rfl) ?_
  refine lv_aload_n hx hb dX6_holdCube_6 rfl (lv_at hl 1 rfl) ?_
  refine m_g0_1 hx hb hF hown hR (kBody0 h_q1) mw_1_52 dX6_holdCube_7 ?_
  refine lv_iload_n hx hb dX6_holdCube_10 rfl (lv_at hl 2 rfl) ?_
  obtain ⟨g11, h⟩ := mgd_e h
  refine m_ialdL hx hb hR (kBody1 h_q1) g11 (jn := (Int32.toNatClampNeg i2)) rfl dX6_holdCube_11 ?_
  obtain ⟨M12, eM12⟩ : ∃ y : mM, y = mI M2 b 3 (M2.1 (q1 + 1) (Int32.toNatClampNeg i2)) := ⟨_, rfl⟩
  have h := mlt_n h M12 eM12
  refine m_p6_3 hx hb hF hown hR hS (kShelf0 h_b) mw_2_20 dX6_holdCube_12 eM12 (fun H locs hR hS => ?_)
  refine lv_aload_n hx hb dX6_holdCube_15 rfl (lv_at hl 0 rfl) ?_
  refine lv_aload_n hx hb dX6_holdCube_16 rfl (lv_at hl 1 rfl) ?_
  refine m_g0_2 hx hb hF hown hR (kBody0 h_q1) mw_1_55 dX6_holdCube_17 ?_
  refine lv_iload_n hx hb dX6_holdCube_20 rfl (lv_at hl 2 rfl) ?_
  obtain ⟨g21, h⟩ := mgd_e h
  refine m_ialdL hx hb hR (kBody2 h_q1) g21 (jn := (Int32.toNatClampNeg i2)) rfl dX6_holdCube_21 ?_
  refine m_ci (m_rSN hx hb hml hown hF hR hS (c_X9_columnOf l X (M12.1 (q1 + 2) (Int32.toNatClampNeg i2)) M12) mw_1_42 mw_1_1 mw_1_41 27 rfl hdS_X9_columnOf ⟨Nat.le_of_ble_eq_true rfl, Nat.le_of_ble_eq_true rfl⟩ rfl hl.1 rfl (Nat.le_of_ble_eq_true rfl) dX6_holdCube_22) hS (fun H locs hR hS => ?_)
  obtain ⟨M25, eM25⟩ : ∃ y : mM, y = mI M12 b 4 (f_X9_columnOf (M12.1 (q1 + 2) (Int32.toNatClampNeg i2))) := ⟨_, rfl⟩
  have h := mlt_n h M25 eM25
  refine m_p6_4 hx hb hF hown hR hS (kShelf0 h_b) mw_2_21 dX6_holdCube_25 eM25 (fun H locs hR hS => ?_)
  refine lv_aload_n hx hb dX6_holdCube_28 rfl (lv_at hl 0 rfl) ?_
  refine lv_aload_n hx hb dX6_holdCube_29 rfl (lv_at hl 1 rfl) ?_
  refine m_g0_2 hx hb hF hown hR (kBody0 h_q1) mw_1_55 dX6_holdCube_30 ?_
  refine lv_iload_n hx hb dX6_holdCube_33 rfl (lv_at hl 2 rfl) ?_
  obtain ⟨g34, h⟩ := mgd_e h
  refine m_ialdL hx hb hR (kBody2 h_q1) g34 (jn := (Int32.toNatClampNeg i2)) rfl dX6_holdCube_34 ?_
  refine m_ci (m_rSN hx hb hml hown hF hR hS (c_X9_levelOf l X (M25.1 (q1 + 2) (Int32.toNatClampNeg i2)) M25) mw_1_45 mw_1_1 mw_1_44 28 rfl hdS_X9_levelOf ⟨Nat.le_of_ble_eq_true rfl, Nat.le_of_ble_eq_true rfl⟩ rfl hl.1 rfl (Nat.le_of_ble_eq_true rfl) dX6_holdCube_35) hS (fun H locs hR hS => ?_)
  obtain ⟨M38, eM38⟩ : ∃ y : mM, y = mI M25 b 5 (f_X9_levelOf (M25.1 (q1 + 2) (Int32.toNatClampNeg i2))) := ⟨_, rfl⟩
  have h := mlt_n h M38 eM38
  refine m_p6_5 hx hb hF hown hR hS (kShelf0 h_b) mw_2_22 dX6_holdCube_38 eM38 (fun H locs hR hS => ?_)
  refine lv_aload_n hx hb dX6_holdCube_41 rfl (lv_at hl 0 rfl) ?_
  refine lv_aload_n hx hb dX6_holdCube_42 rfl (lv_at hl 1 rfl) ?_
  refine m_g0_3 hx hb hF hown hR (kBody0 h_q1) mw_1_61 dX6_holdCube_43 ?_
  refine lv_iload_n hx hb dX6_holdCube_46 rfl (lv_at hl 2 rfl) ?_
  obtain ⟨g47, h⟩ := mgd_e h
  refine m_ialdL hx hb hR (kBody3 h_q1) g47 (jn := (Int32.toNatClampNeg i2)) rfl dX6_holdCube_47 ?_
  obtain ⟨M48, eM48⟩ : ∃ y : mM, y = mI M38 b 6 (M38.1 (q1 + 3) (Int32.toNatClampNeg i2)) := ⟨_, rfl⟩
  have h := mlt_n h M48 eM48
  refine m_p6_6 hx hb hF hown hR hS (kShelf0 h_b) mw_2_23 dX6_holdCube_48 eM48 (fun H locs hR hS => ?_)
  refine lv_aload_n hx hb dX6_holdCube_51 rfl (lv_at hl 0 rfl) ?_
  refine lv_aload_n hx hb dX6_holdCube_52 rfl (lv_at hl 1 rfl) ?_
  refine m_g0_4 hx hb hF hown hR (kBody0 h_q1) mw_1_66 dX6_holdCube_53 ?_
  refine lv_iload_n hx hb dX6_holdCube_56 rfl (lv_at hl 2 rfl) ?_
  obtain ⟨g57, h⟩ := mgd_e h
  refine m_zaldL hx hb hR (kBody4 h_q1) g57 (jn := (Int32.toNatClampNeg i2)) rfl dX6_holdCube_57 ?_
  obtain ⟨g58, h⟩ := mgd_e h
  obtain ⟨M58, eM58⟩ : ∃ y : mM, y = mI M48 b 7 (M48.1 (q1 + 4) (Int32.toNatClampNeg i2)) := ⟨_, rfl⟩
  have h := mlt_n h M58 eM58
  refine m_p6_7 hx hb hF hown hR hS (kShelf0 h_b) mw_2_24 dX6_holdCube_58 g58 eM58 (fun H locs hR hS => ?_)
  exact m_vr hx hb hlk hr hR hS (Option.some.inj h).symm dX6_holdCube_61
theorem c_X6_holdCube (l : Launch) (X : mX) (b : Nat) (q1 : Nat) (i2 : Int32) (h_b : isShelf b) (h_q1 : isBody q1) (M : mM) {r : mM} (h : f_X6_holdCube b q1 i2 M = some r) : mMv l yX6_holdCube cX6_holdCube 3 1 21 X [.ref (X.1 b), .ref (X.1 q1), .int i2] M r := m_ofv (by decide +kernel) (Nat.le_of_ble_eq_true rfl) rfl (fun p e s m args below meth c hs => w_X6_holdCube hs b q1 i2 h_b h_q1 M h)
set_option maxRecDepth 100000 in
set_option maxHeartbeats 4000000 in
theorem w_X9_keep_b37 {l : Launch} {X : mX} {p : Program} {e : Env} {s : State} {m : MethodId} {args : Array Value} {below : List Frame} {meth : Method} {c : Code} {r : Int32 × mM} (hs : mS X RX9 cX9_keep 4 (some .int) p s m meth c) : ∀ (i1 : Int32) (i2 : Int32) (i3 : Int32) (M : mM), f_X9_keep_b37 i1 i2 i3 M = some r → mG X p l e (rmF 2 43) s m args below meth c (MQ below (mQi X r.2 r.1) args s 0 0 (mL X)) 4 37 [(0, .ref (X.1 0)), (1, .int i1), (2, .int i2), (3, .int i3)] [] M := by
  obtain ⟨hx, hb, hml, hown, hF, hlk, hr⟩ := id hs
  intro i1 i2 i3 M h H locs ls hR hS hl
  refine lv_iload_n hx hb dX9_keep_37 rfl (lv_at hl 2 rfl) ?_
  refine lv_if_ne (tgt := 55) hx hb dX9_keep_38 (by decide) (fun c38 => ?_) (fun c38 => ?_)
  · have h := mif_n h c38
    refine lv_aload_n hx hb dX9_keep_55 rfl (lv_at hl 0 rfl) ?_
    refine m_g8_8 hx hb hF hown hR kd_0 mw_2_50 dX9_keep_56 ?_
    refine lv_iload_n hx hb dX9_keep_59 rfl (lv_at hl 1 rfl) ?_
    obtain ⟨g60, h⟩ := mgd_e h
    refine m_sald hx hb hR kd_79 g60 dX9_keep_60 ?_
    refine lv_topc (fun h60 eh60 => ?_)
    have h := mlt_n h h60 eh60
    have h_h60 : isShelf h60 := by rw [eh60]; exact kShelfAt (vp_lt g60)
    refine lv_aload_n hx hb dX9_keep_61 rfl (lv_at hl 0 rfl) ?_
    refine m_g8_0 hx hb hF hown hR kd_0 mw_2_42 dX9_keep_62 ?_
    refine m_g7_0 hx hb hF hown hR kd_1 mw_1_118 dX9_keep_65 ?_
    refine lv_iload_n hx hb dX9_keep_68 rfl (lv_at hl 3 rfl) ?_
    obtain ⟨M69, q69, h⟩ := mbp_e h
    refine m_cv (m_rV hx hb hml hown hF hR hS (ent6 (kShelf0 h_h60)) (kShelf0 h_h60) rfl (c_X6_holdCube l X h60 2 i3 h_h60 isBody_2 M q69) q_X9_287_V hdV_X6_holdCube ⟨Nat.le_of_ble_eq_true rfl, Nat.le_of_ble_eq_true rfl⟩ rfl hl.1 rfl (Nat.le_of_ble_eq_true rfl) dX9_keep_69) hS (fun H locs hR hS => ?_)
    refine lv_iconst (v := 0) hx hb dX9_keep_72 (by decide) ?_
    exact m_ir hx hb hlk hr hR hS (Option.some.inj h).symm dX9_keep_73
  · have h := mif_y h c38
    refine lv_aload_n hx hb dX9_keep_41 rfl (lv_at hl 0 rfl) ?_
    refine m_g8_8 hx hb hF hown hR kd_0 mw_2_50 dX9_keep_42 ?_
    refine lv_iload_n hx hb dX9_keep_45 rfl (lv_at hl 1 rfl) ?_
    obtain ⟨g46, h⟩ := mgd_e h
    refine m_sald hx hb hR kd_79 g46 dX9_keep_46 ?_
    refine lv_topc (fun h46 eh46 => ?_)
    have h := mlt_n h h46 eh46
    have h_h46 : isShelf h46 := by rw [eh46]; exact kShelfAt (vp_lt g46)
    refine lv_bipush (v := (-2)) hx hb dX9_keep_47 (by decide) ?_
    obtain ⟨M49, q49, h⟩ := mbp_e h
    refine m_cv (m_rV hx hb hml hown hF hR hS (ent6 (kShelf0 h_h46)) (kShelf0 h_h46) rfl (c_X6_hold l X h46 (-2) h_h46 M q49) q_X9_283_V hdV_X6_hold ⟨Nat.le_of_ble_eq_true rfl, Nat.le_of_ble_eq_true rfl⟩ rfl hl.1 rfl (Nat.le_of_ble_eq_true rfl) dX9_keep_49) hS (fun H locs hR hS => ?_)
    refine lv_goto (tgt := 72) hx hb dX9_keep_52 (by decide) ?_
    refine lv_iconst (v := 0) hx hb dX9_keep_72 (by decide) ?_
    exact m_ir hx hb hlk hr hR hS (Option.some.inj h).symm dX9_keep_73
set_option maxRecDepth 100000 in
set_option maxHeartbeats 4000000 in
theorem w_X9_keep {l : Launch} {X : mX} {p : Program} {e : Env} {s : State} {m : MethodId} {args : Array Value} {below : List Frame} {meth : Method} {c : Code} {r : Int32 × mM} (hs : mS X RX9 cX9_keep 4 (some .int) p s m meth c) : ∀ (i1 : Int32) (i2 : Int32) (i3 : Int32) (M : mM), f_X9_keep i1 i2 i3 M = some r → mG X p l e (rmF 2 43) s m args below meth c (MQ below (mQi X r.2 r.1) args s 0 0 (mL X)) 4 0 [(0, .ref (X.1 0)), (1, .int i1), (2, .int i2), (3, .int i3)] [] M := by
  obtain ⟨hx, hb, hml, hown, hF, hlk, hr⟩ := id hs
  intro i1 i2 i3 M h H locs ls hR hS hl
  refine lv_iload_n hx hb dX9_keep_0 rfl (lv_at hl 1 rfl) ?_
  refine m_ci (m_rS hx hb hml hown hF hR hS (c_X9_isShelf l X i1 M) q_X9_167_S hdS_X9_isShelf ⟨Nat.le_of_ble_eq_true rfl, Nat.le_of_ble_eq_true rfl⟩ rfl hl.1 rfl (Nat.le_of_ble_eq_true rfl) dX9_keep_1) hS (fun H locs hR hS => ?_)
  refine lv_if_eq (tgt := 35) hx hb dX9_keep_4 (by decide) (fun c4 => ?_) (fun c4 => ?_)
  · have h := mif_y h c4
    refine lv_iconst (v := (-1)) hx hb dX9_keep_35 (by decide) ?_
    exact m_ir hx hb hlk hr hR hS (Option.some.inj h).symm dX9_keep_36
  · have h := mif_n h c4
    refine lv_iload_n hx hb dX9_keep_7 rfl (lv_at hl 2 rfl) ?_
    refine lv_if_lt (tgt := 35) hx hb dX9_keep_8 (by decide) (fun c8 => ?_) (fun c8 => ?_)
    · have h := mif_y h c8
      refine lv_iconst (v := (-1)) hx hb dX9_keep_35 (by decide) ?_
      exact m_ir hx hb hlk hr hR hS (Option.some.inj h).symm dX9_keep_36
    · have h := mif_n h c8
      refine lv_iload_n hx hb dX9_keep_11 rfl (lv_at hl 2 rfl) ?_
      refine lv_iconst (v := 1) hx hb dX9_keep_12 (by decide) ?_
      refine lv_icmp_gt (tgt := 35) hx hb dX9_keep_13 (by decide) (fun c13 => ?_) (fun c13 => ?_)
      · have h := mif_y h c13
        refine lv_iconst (v := (-1)) hx hb dX9_keep_35 (by decide) ?_
        exact m_ir hx hb hlk hr hR hS (Option.some.inj h).symm dX9_keep_36
      · have h := mif_n h c13
        refine lv_iload_n hx hb dX9_keep_16 rfl (lv_at hl 2 rfl) ?_
        refine lv_iconst (v := 1) hx hb dX9_keep_17 (by decide) ?_
        refine lv_icmp_ne (tgt := 37) hx hb dX9_keep_18 (by decide) (fun c18 => ?_) (fun c18 => ?_)
        · have h := mif_n h c18
          exact w_X9_keep_b37 hs i1 i2 i3 M h H locs ls hR hS (lv_sub hl [0, 1, 2, 3] rfl)
        · have h := mif_y h c18
          refine lv_aload_n hx hb dX9_keep_21 rfl (lv_at hl 0 rfl) ?_
          refine m_g8_0 hx hb hF hown hR kd_0 mw_2_42 dX9_keep_22 ?_
          refine m_g7_0 hx hb hF hown hR kd_1 mw_1_118 dX9_keep_25 ?_
          refine lv_iload_n hx hb dX9_keep_28 rfl (lv_at hl 3 rfl) ?_
          refine m_ci (m_rV hx hb hml hown hF hR hS (ent0 kd_2) kd_2 rfl (c_X0_has l X 2 i3 isBody_2 M) q_X9_91_V hdV_X0_has ⟨Nat.le_of_ble_eq_true rfl, Nat.le_of_ble_eq_true rfl⟩ rfl hl.1 rfl (Nat.le_of_ble_eq_true rfl) dX9_keep_29) hS (fun H locs hR hS => ?_)
          refine lv_if_ne (tgt := 37) hx hb dX9_keep_32 (by decide) (fun c32 => ?_) (fun c32 => ?_)
          · have h := mif_n h c32
            exact w_X9_keep_b37 hs i1 i2 i3 M h H locs ls hR hS (lv_sub hl [0, 1, 2, 3] rfl)
          · have h := mif_y h c32
            refine lv_iconst (v := (-1)) hx hb dX9_keep_35 (by decide) ?_
            exact m_ir hx hb hlk hr hR hS (Option.some.inj h).symm dX9_keep_36
theorem c_X9_keep (l : Launch) (X : mX) (i1 : Int32) (i2 : Int32) (i3 : Int32) (M : mM) {r : Int32 × mM} (h : f_X9_keep i1 i2 i3 M = some r) : mMi l yX9_keep cX9_keep 4 (some .int) 2 43 X [.ref (X.1 0), .int i1, .int i2, .int i3] M r := m_ofi (by decide +kernel) (Nat.le_of_ble_eq_true rfl) rfl (fun p e s m args below meth c hs => w_X9_keep hs i1 i2 i3 M h)
set_option maxRecDepth 100000 in
set_option maxHeartbeats 4000000 in
theorem w_X6_holdRow_b12 {l : Launch} {X : mX} {p : Program} {e : Env} {s : State} {m : MethodId} {args : Array Value} {below : List Frame} {meth : Method} {c : Code} {r : mM} (hs : mS X RX6 cX6_holdRow 4 none p s m meth c) : ∀ n : Nat, ∀ (b : Nat) (i3 : Int32) (h_b : isShelf b) (M : mM), f_X6_holdRow_b12 n b i3 M = some r → mG X p l e (rmF 1 21) s m args below meth c (MQ below (mQv X r) args s 0 0 (mL X)) 4 12 [(0, .ref (X.1 b)), (3, .int i3)] [] M := by
  obtain ⟨hx, hb, hml, hown, hF, hlk, hr⟩ := id hs
  intro n
  induction n with
  | zero =>
    intro b i3 h_b M h
    have h0 : (none : Option (mM)) = some r := h
    cases h0
  | succ n ih =>
    intro b i3 h_b M h H locs ls hR hS hl
    refine lv_iload_n hx hb dX6_holdRow_12 rfl (lv_at hl 1 rfl) ?_
    refine lv_bipush (v := 90) hx hb dX6_holdRow_13 (by decide) ?_
    refine lv_icmp_ge (tgt := 31) hx hb dX6_holdRow_15 (by decide) (fun c15 => ?_) (fun c15 => ?_)
    · have h := mif_y h c15
      exact m_vr hx hb hlk hr hR hS (Option.some.inj h).symm dX6_holdRow_31
    · have h := mif_n h c15
      refine lv_aload_n hx hb dX6_holdRow_18 rfl (lv_at hl 0 rfl) ?_
      refine m_g6_2 hx hb hF hown hR (kShelf0 h_b) mw_2_15 dX6_holdRow_19 ?_
      refine lv_iload_n hx hb dX6_holdRow_22 rfl (lv_at hl 1 rfl) ?_
      refine lv_iconst (v := 0) hx hb dX6_holdRow_23 (by decide) ?_
      obtain ⟨g24, h⟩ := mgd_e h
      obtain ⟨M24, eM24⟩ : ∃ y : mM, y = mI M (b + 1) (Int32.toNatClampNeg i3) 0 := ⟨_, rfl⟩
      have h := mlt_n h M24 eM24
      refine m_iastL hx hb hR hS (kShelf1 h_b) g24 (jn := (Int32.toNatClampNeg i3)) rfl dX6_holdRow_24 eM24 (fun H locs hR hS => ?_)
      obtain ⟨x25, ex25⟩ : ∃ y : Int32, y = (i3 + 1) := ⟨_, rfl⟩
      have h := mlt_n h x25 ex25
      refine lv_iinc (v := x25) (lv' := [(3, .int x25), (0, .ref (X.1 b))]) hx hb dX6_holdRow_25 hl (k := 1) rfl (by rw [ex25]; rfl) (by decide) rfl (fun ls hl => ?_)
      refine lv_goto (tgt := 12) hx hb dX6_holdRow_28 (by decide) ?_
      exact ih b x25 h_b M24 h H locs ls hR hS (lv_sub hl [1, 0] rfl)
set_option maxRecDepth 100000 in
set_option maxHeartbeats 4000000 in
theorem w_X6_holdRow {l : Launch} {X : mX} {p : Program} {e : Env} {s : State} {m : MethodId} {args : Array Value} {below : List Frame} {meth : Method} {c : Code} {r : mM} (hs : mS X RX6 cX6_holdRow 4 none p s m meth c) : ∀ (b : Nat) (i1 : Int32) (i2 : Int32) (h_b : isShelf b) (M : mM), f_X6_holdRow b i1 i2 M = some r → mG X p l e (rmF 1 21) s m args below meth c (MQ below (mQv X r) args s 0 0 (mL X)) 4 0 [(0, .ref (X.1 b)), (1, .int i1), (2, .int i2)] [] M := by
  obtain ⟨hx, hb, hml, hown, hF, hlk, hr⟩ := id hs
  intro b i1 i2 h_b M h H locs ls hR hS hl
  refine lv_aload_n hx hb dX6_holdRow_0 rfl (lv_at hl 0 rfl) ?_
  refine lv_iload_n hx hb dX6_holdRow_1 rfl (lv_at hl 1 rfl) ?_
  obtain ⟨M2, q2, h⟩ := mbp_e h
  refine m_cv (m_rV hx hb hml hown hF hR hS (ent6 (kShelf0 h_b)) (kShelf0 h_b) rfl (c_X6_hold l X b i1 h_b M q2) q_X6_22_V hdV_X6_hold ⟨Nat.le_of_ble_eq_true rfl, Nat.le_of_ble_eq_true rfl⟩ rfl hl.1 rfl (Nat.le_of_ble_eq_true rfl) dX6_holdRow_2) hS (fun H locs hR hS => ?_)
  refine lv_aload_n hx hb dX6_holdRow_5 rfl (lv_at hl 0 rfl) ?_
  refine lv_iload_n hx hb dX6_holdRow_6 rfl (lv_at hl 2 rfl) ?_
  obtain ⟨M7, eM7⟩ : ∃ y : mM, y = mI M2 b 1 i2 := ⟨_, rfl⟩
  have h := mlt_n h M7 eM7
  refine m_p6_1 hx hb hF hown hR hS (kShelf0 h_b) mw_2_12 dX6_holdRow_7 eM7 (fun H locs hR hS => ?_)
  refine lv_iconst (v := 0) hx hb dX6_holdRow_10 (by decide) ?_
  refine lv_istore_n (lv' := [(3, .int 0), (0, .ref (X.1 b)), (1, .int i1), (2, .int i2)]) hx hb dX6_holdRow_11 rfl hl (by decide) rfl (fun ls hl => ?_)
  exact w_X6_holdRow_b12 hs mN b 0 h_b M7 h H locs ls hR hS (lv_sub hl [1, 0] rfl)
theorem c_X6_holdRow (l : Launch) (X : mX) (b : Nat) (i1 : Int32) (i2 : Int32) (h_b : isShelf b) (M : mM) {r : mM} (h : f_X6_holdRow b i1 i2 M = some r) : mMv l yX6_holdRow cX6_holdRow 4 1 21 X [.ref (X.1 b), .int i1, .int i2] M r := m_ofv (by decide +kernel) (Nat.le_of_ble_eq_true rfl) rfl (fun p e s m args below meth c hs => w_X6_holdRow hs b i1 i2 h_b M h)
set_option maxRecDepth 100000 in
set_option maxHeartbeats 4000000 in
theorem w_X9_row {l : Launch} {X : mX} {p : Program} {e : Env} {s : State} {m : MethodId} {args : Array Value} {below : List Frame} {meth : Method} {c : Code} {r : Int32 × mM} (hs : mS X RX9 cX9_row 4 (some .int) p s m meth c) : ∀ (i1 : Int32) (i2 : Int32) (i3 : Int32) (M : mM), f_X9_row i1 i2 i3 M = some r → mG X p l e (rmF 2 44) s m args below meth c (MQ below (mQi X r.2 r.1) args s 0 0 (mL X)) 4 0 [(0, .ref (X.1 0)), (1, .int i1), (2, .int i2), (3, .int i3)] [] M := by
  obtain ⟨hx, hb, hml, hown, hF, hlk, hr⟩ := id hs
  intro i1 i2 i3 M h H locs ls hR hS hl
  refine lv_iload_n hx hb dX9_row_0 rfl (lv_at hl 1 rfl) ?_
  refine m_ci (m_rS hx hb hml hown hF hR hS (c_X9_isShelf l X i1 M) q_X9_167_S hdS_X9_isShelf ⟨Nat.le_of_ble_eq_true rfl, Nat.le_of_ble_eq_true rfl⟩ rfl hl.1 rfl (Nat.le_of_ble_eq_true rfl) dX9_row_1) hS (fun H locs hR hS => ?_)
  refine lv_if_eq (tgt := 22) hx hb dX9_row_4 (by decide) (fun c4 => ?_) (fun c4 => ?_)
  · have h := mif_y h c4
    refine lv_iconst (v := (-1)) hx hb dX9_row_22 (by decide) ?_
    exact m_ir hx hb hlk hr hR hS (Option.some.inj h).symm dX9_row_23
  · have h := mif_n h c4
    refine lv_iload_n hx hb dX9_row_7 rfl (lv_at hl 2 rfl) ?_
    refine lv_if_lt (tgt := 22) hx hb dX9_row_8 (by decide) (fun c8 => ?_) (fun c8 => ?_)
    · have h := mif_y h c8
      refine lv_iconst (v := (-1)) hx hb dX9_row_22 (by decide) ?_
      exact m_ir hx hb hlk hr hR hS (Option.some.inj h).symm dX9_row_23
    · have h := mif_n h c8
      refine lv_iload_n hx hb dX9_row_11 rfl (lv_at hl 2 rfl) ?_
      refine lv_iconst (v := 2) hx hb dX9_row_12 (by decide) ?_
      refine lv_icmp_gt (tgt := 22) hx hb dX9_row_13 (by decide) (fun c13 => ?_) (fun c13 => ?_)
      · have h := mif_y h c13
        refine lv_iconst (v := (-1)) hx hb dX9_row_22 (by decide) ?_
        exact m_ir hx hb hlk hr hR hS (Option.some.inj h).symm dX9_row_23
      · have h := mif_n h c13
        refine lv_iload_n hx hb dX9_row_16 rfl (lv_at hl 3 rfl) ?_
        refine lv_bipush (v := 90) hx hb dX9_row_17 (by decide) ?_
        refine lv_icmp_le (tgt := 24) hx hb dX9_row_19 (by decide) (fun c19 => ?_) (fun c19 => ?_)
        · have h := mif_y h c19
          refine lv_iload_n hx hb dX9_row_24 rfl (lv_at hl 3 rfl) ?_
          refine lv_if_ge (tgt := 31) hx hb dX9_row_25 (by decide) (fun c25 => ?_) (fun c25 => ?_)
          · have h := mif_y h c25
            refine lv_aload_n hx hb dX9_row_31 rfl (lv_at hl 0 rfl) ?_
            refine m_g8_8 hx hb hF hown hR kd_0 mw_2_50 dX9_row_32 ?_
            refine lv_iload_n hx hb dX9_row_35 rfl (lv_at hl 1 rfl) ?_
            obtain ⟨g36, h⟩ := mgd_e h
            refine m_sald hx hb hR kd_79 g36 dX9_row_36 ?_
            refine lv_topc (fun h36 eh36 => ?_)
            have h := mlt_n h h36 eh36
            have h_h36 : isShelf h36 := by rw [eh36]; exact kShelfAt (vp_lt g36)
            refine lv_iload_n hx hb dX9_row_37 rfl (lv_at hl 2 rfl) ?_
            refine lv_iload_n hx hb dX9_row_38 rfl (lv_at hl 3 rfl) ?_
            obtain ⟨M39, q39, h⟩ := mbp_e h
            refine m_cv (m_rV hx hb hml hown hF hR hS (ent6 (kShelf0 h_h36)) (kShelf0 h_h36) rfl (c_X6_holdRow l X h36 i2 i3 h_h36 M q39) q_X9_291_V hdV_X6_holdRow ⟨Nat.le_of_ble_eq_true rfl, Nat.le_of_ble_eq_true rfl⟩ rfl hl.1 rfl (Nat.le_of_ble_eq_true rfl) dX9_row_39) hS (fun H locs hR hS => ?_)
            refine lv_iconst (v := 0) hx hb dX9_row_42 (by decide) ?_
            exact m_ir hx hb hlk hr hR hS (Option.some.inj h).symm dX9_row_43
          · have h := mif_n h c25
            refine lv_bipush (v := (-14)) hx hb dX9_row_28 (by decide) ?_
            exact m_ir hx hb hlk hr hR hS (Option.some.inj h).symm dX9_row_30
        · have h := mif_n h c19
          refine lv_iconst (v := (-1)) hx hb dX9_row_22 (by decide) ?_
          exact m_ir hx hb hlk hr hR hS (Option.some.inj h).symm dX9_row_23
theorem c_X9_row (l : Launch) (X : mX) (i1 : Int32) (i2 : Int32) (i3 : Int32) (M : mM) {r : Int32 × mM} (h : f_X9_row i1 i2 i3 M = some r) : mMi l yX9_row cX9_row 4 (some .int) 2 44 X [.ref (X.1 0), .int i1, .int i2, .int i3] M r := m_ofi (by decide +kernel) (Nat.le_of_ble_eq_true rfl) rfl (fun p e s m args below meth c hs => w_X9_row hs i1 i2 i3 M h)
