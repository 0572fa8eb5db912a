set_option maxRecDepth 100000 in
set_option maxHeartbeats 4000000 in
theorem w_X6_hasPlace {l : Launch} {X : mX} {p : Program} {e : Env} {s : State} {m : MethodId} {args : Array Value} {below : List Frame} {meth : Method} {c : Code} {M : mM} {r : Int32} (hs : mS X RX6 cX6_hasPlace 2 (some .boolean) p s m meth c) : ∀ (b : Nat) (i1 : Int32) (h_b : isShelf b), f_X6_hasPlace b i1 M = r → mG X p l e (rmF 0 0) s m args below meth c (MQ below (mQi X M r) args s 0 0 (mL X)) 2 0 [(0, .ref (X.1 b)), (1, .int i1)] [] M := by
  obtain ⟨hx, hb, hml, hown, hF, hlk, hr⟩ := id hs
  intro b i1 h_b h H locs ls hR hS hl
  refine lv_iload_n hx hb dX6_hasPlace_0 rfl (lv_at hl 1 rfl) ?_
  refine lv_if_lt (tgt := 16) hx hb dX6_hasPlace_1 (by decide) (fun c1 => ?_) (fun c1 => ?_)
  · have h := mif_y h c1
    refine lv_iconst (v := 0) hx hb dX6_hasPlace_16 (by decide) ?_
    exact m_zr hx hb hlk hr hR hS (Or.inl rfl) (congrArg (fun z => (z, M)) h.symm) dX6_hasPlace_17
  · have h := mif_n h c1
    refine lv_iload_n hx hb dX6_hasPlace_4 rfl (lv_at hl 1 rfl) ?_
    refine lv_aload_n hx hb dX6_hasPlace_5 rfl (lv_at hl 0 rfl) ?_
    refine m_g6_1 hx hb hF hown hR (kShelf0 h_b) mw_2_12 dX6_hasPlace_6 ?_
    refine lv_icmp_ge (tgt := 16) hx hb dX6_hasPlace_9 (by decide) (fun c9 => ?_) (fun c9 => ?_)
    · have h := mif_y h c9
      refine lv_iconst (v := 0) hx hb dX6_hasPlace_16 (by decide) ?_
      exact m_zr hx hb hlk hr hR hS (Or.inl rfl) (congrArg (fun z => (z, M)) h.symm) dX6_hasPlace_17
    · have h := mif_n h c9
      refine lv_iconst (v := 1) hx hb dX6_hasPlace_12 (by decide) ?_
      refine lv_goto (tgt := 17) hx hb dX6_hasPlace_13 (by decide) ?_
      exact m_zr hx hb hlk hr hR hS (Or.inr rfl) (congrArg (fun z => (z, M)) h.symm) dX6_hasPlace_17
theorem c_X6_hasPlace (l : Launch) (X : mX) (b : Nat) (i1 : Int32) (h_b : isShelf b) (M : mM) : mMi l yX6_hasPlace cX6_hasPlace 2 (some .boolean) 0 0 X [.ref (X.1 b), .int i1] M (f_X6_hasPlace b i1 M, M) := m_ofi (by decide +kernel) (Nat.le_of_ble_eq_true rfl) rfl (fun p e s m args below meth c hs => w_X6_hasPlace hs b i1 h_b rfl)
set_option maxRecDepth 100000 in
set_option maxHeartbeats 4000000 in
theorem w_X6_lowestBits {l : Launch} {X : mX} {p : Program} {e : Env} {s : State} {m : MethodId} {args : Array Value} {below : List Frame} {meth : Method} {c : Code} {M : mM} {r : Int32} (hs : mS X RX6 cX6_lowestBits 2 (some .int) p s m meth c) : ∀ (b : Nat) (i1 : Int32) (h_b : isShelf b), f_X6_lowestBits b i1 M = r → mG X p l e (rmF 0 0) s m args below meth c (MQ below (mQi X M r) args s 0 0 (mL X)) 2 0 [(0, .ref (X.1 b)), (1, .int i1)] [] M := by
  obtain ⟨hx, hb, hml, hown, hF, hlk, hr⟩ := id hs
  intro b i1 h_b h H locs ls hR hS hl
  refine lv_aload_n hx hb dX6_lowestBits_0 rfl (lv_at hl 0 rfl) ?_
  refine m_g6_0 hx hb hF hown hR (kShelf0 h_b) mw_2_8 dX6_lowestBits_1 ?_
  refine lv_if_ne (tgt := 12) hx hb dX6_lowestBits_4 (by decide) (fun c4 => ?_) (fun c4 => ?_)
  · have h := mif_n h c4
    refine lv_aload_n hx hb dX6_lowestBits_12 rfl (lv_at hl 0 rfl) ?_
    refine m_g6_0 hx hb hF hown hR (kShelf0 h_b) mw_2_8 dX6_lowestBits_13 ?_
    refine lv_iconst (v := 1) hx hb dX6_lowestBits_16 (by decide) ?_
    refine lv_icmp_ne (tgt := 25) hx hb dX6_lowestBits_17 (by decide) (fun c17 => ?_) (fun c17 => ?_)
    · have h := mif_n h c17
      refine lv_iload_n hx hb dX6_lowestBits_25 rfl (lv_at hl 1 rfl) ?_
      exact m_ir hx hb hlk hr hR hS (congrArg (fun z => (z, M)) h.symm) dX6_lowestBits_26
    · have h := mif_y h c17
      refine lv_iload_n hx hb dX6_lowestBits_20 rfl (lv_at hl 1 rfl) ?_
      refine lv_i2s hx hb dX6_lowestBits_21 rfl ?_
      refine lv_goto (tgt := 26) hx hb dX6_lowestBits_22 (by decide) ?_
      exact m_ir hx hb hlk hr hR hS (congrArg (fun z => (z, M)) h.symm) dX6_lowestBits_26
  · have h := mif_y h c4
    refine lv_iload_n hx hb dX6_lowestBits_7 rfl (lv_at hl 1 rfl) ?_
    refine lv_i2b hx hb dX6_lowestBits_8 rfl ?_
    refine lv_goto (tgt := 26) hx hb dX6_lowestBits_9 (by decide) ?_
    exact m_ir hx hb hlk hr hR hS (congrArg (fun z => (z, M)) h.symm) dX6_lowestBits_26
theorem c_X6_lowestBits (l : Launch) (X : mX) (b : Nat) (i1 : Int32) (h_b : isShelf b) (M : mM) : mMi l yX6_lowestBits cX6_lowestBits 2 (some .int) 0 0 X [.ref (X.1 b), .int i1] M (f_X6_lowestBits b i1 M, M) := m_ofi (by decide +kernel) (Nat.le_of_ble_eq_true rfl) rfl (fun p e s m args below meth c hs => w_X6_lowestBits hs b i1 h_b rfl)
set_option maxRecDepth 100000 in
set_option maxHeartbeats 4000000 in
theorem w_X9_put {l : Launch} {X : mX} {p : Program} {e : Env} {s : State} {m : MethodId} {args : Array Value} {below : List Frame} {meth : Method} {c : Code} {r : Int32 × mM} (hs : mS X RX9 cX9_put 5 (some .int) p s m meth c) : ∀ (i1 : Int32) (i2 : Int32) (i3 : Int32) (M : mM), f_X9_put i1 i2 i3 M = some r → mG X p l e (rmF 2 42) s m args below meth c (MQ below (mQi X r.2 r.1) args s 0 0 (mL X)) 5 0 [(0, .ref (X.1 0)), (1, .int i1), (2, .int i2), (3, .int i3)] [] M := by
  obtain ⟨hx, hb, hml, hown, hF, hlk, hr⟩ := id hs
  intro i1 i2 i3 M h H locs ls hR hS hl
  refine lv_iload_n hx hb dX9_put_0 rfl (lv_at hl 1 rfl) ?_
  refine m_ci (m_rS hx hb hml hown hF hR hS (c_X9_isShelf l X i1 M) q_X9_167_S hdS_X9_isShelf ⟨Nat.le_of_ble_eq_true rfl, Nat.le_of_ble_eq_true rfl⟩ rfl hl.1 rfl (Nat.le_of_ble_eq_true rfl) dX9_put_1) hS (fun H locs hR hS => ?_)
  refine lv_if_ne (tgt := 9) hx hb dX9_put_4 (by decide) (fun c4 => ?_) (fun c4 => ?_)
  · have h := mif_n h c4
    refine lv_aload_n hx hb dX9_put_9 rfl (lv_at hl 0 rfl) ?_
    refine m_g8_8 hx hb hF hown hR kd_0 mw_2_50 dX9_put_10 ?_
    refine lv_iload_n hx hb dX9_put_13 rfl (lv_at hl 1 rfl) ?_
    obtain ⟨g14, h⟩ := mgd_e h
    refine m_sald hx hb hR kd_79 g14 dX9_put_14 ?_
    refine lv_topc (fun h14 eh14 => ?_)
    have h := mlt_n h h14 eh14
    have h_h14 : isShelf h14 := by rw [eh14]; exact kShelfAt (vp_lt g14)
    refine lv_iconst (v := 3) hx hb dX9_put_15 (by decide) ?_
    refine m_ci (m_rV hx hb hml hown hF hR hS (ent6 (kShelf0 h_h14)) (kShelf0 h_h14) rfl (c_X6_refusalOfRow l X h14 3 h_h14 M) q_X9_170_V hdV_X6_refusalOfRow ⟨Nat.le_of_ble_eq_true rfl, Nat.le_of_ble_eq_true rfl⟩ rfl hl.1 rfl (Nat.le_of_ble_eq_true rfl) dX9_put_16) hS (fun H locs hR hS => ?_)
    refine lv_topi (fun x19 ex19 => ?_)
    have h := mlt_n h x19 ex19
    refine lv_istore (lv' := [(4, .int x19), (0, .ref (X.1 0)), (1, .int i1), (2, .int i2), (3, .int i3)]) hx hb dX9_put_19 hl (by decide) rfl (fun ls hl => ?_)
    refine lv_iload hx hb dX9_put_21 (lv_at hl 0 rfl) ?_
    refine lv_if_ge (tgt := 29) hx hb dX9_put_23 (by decide) (fun c23 => ?_) (fun c23 => ?_)
    · have h := mif_y h c23
      refine lv_aload_n hx hb dX9_put_29 rfl (lv_at hl 1 rfl) ?_
      refine m_g8_8 hx hb hF hown hR kd_0 mw_2_50 dX9_put_30 ?_
      refine lv_iload_n hx hb dX9_put_33 rfl (lv_at hl 2 rfl) ?_
      obtain ⟨g34, h⟩ := mgd_e h
      refine m_sald hx hb hR kd_79 g34 dX9_put_34 ?_
      refine lv_topc (fun h34 eh34 => ?_)
      have h := mlt_n h h34 eh34
      have h_h34 : isShelf h34 := by rw [eh34]; exact kShelfAt (vp_lt g34)
      refine lv_iload_n hx hb dX9_put_35 rfl (lv_at hl 3 rfl) ?_
      refine m_ci (m_rV hx hb hml hown hF hR hS (ent6 (kShelf0 h_h34)) (kShelf0 h_h34) rfl (c_X6_hasPlace l X h34 i2 h_h34 M) q_X9_294_V hdV_X6_hasPlace ⟨Nat.le_of_ble_eq_true rfl, Nat.le_of_ble_eq_true rfl⟩ rfl hl.1 rfl (Nat.le_of_ble_eq_true rfl) dX9_put_36) hS (fun H locs hR hS => ?_)
      refine lv_if_ne (tgt := 45) hx hb dX9_put_39 (by decide) (fun c39 => ?_) (fun c39 => ?_)
      · have h := mif_n h c39
        refine lv_aload_n hx hb dX9_put_45 rfl (lv_at hl 1 rfl) ?_
        refine m_g8_8 hx hb hF hown hR kd_0 mw_2_50 dX9_put_46 ?_
        refine lv_iload_n hx hb dX9_put_49 rfl (lv_at hl 2 rfl) ?_
        obtain ⟨g50, h⟩ := mgd_e h
        refine m_sald hx hb hR kd_79 g50 dX9_put_50 ?_
        refine lv_topc (fun h50 eh50 => ?_)
        have h := mlt_n h h50 eh50
        have h_h50 : isShelf h50 := by rw [eh50]; exact kShelfAt (vp_lt g50)
        refine m_g6_2 hx hb hF hown hR (kShelf0 h_h50) mw_2_19 dX9_put_51 ?_
        refine lv_iload_n hx hb dX9_put_54 rfl (lv_at hl 3 rfl) ?_
        refine lv_aload_n hx hb dX9_put_55 rfl (lv_at hl 1 rfl) ?_
        refine m_g8_8 hx hb hF hown hR kd_0 mw_2_50 dX9_put_56 ?_
        refine lv_iload_n hx hb dX9_put_59 rfl (lv_at hl 2 rfl) ?_
        obtain ⟨g60, h⟩ := mgd_e h
        refine m_sald hx hb hR kd_79 g60 dX9_put_60 ?_
        refine lv_topc (fun h60 eh60 => ?_)
        have h := mlt_n h h60 eh60
        have h_h60 : isShelf h60 := by rw [eh60]; exact kShelfAt (vp_lt g60)
        refine lv_iload_n hx hb dX9_put_61 rfl (lv_at hl 4 rfl) ?_
        refine m_ci (m_rV hx hb hml hown hF hR hS (ent6 (kShelf0 h_h60)) (kShelf0 h_h60) rfl (c_X6_lowestBits l X h60 i3 h_h60 M) q_X9_297_V hdV_X6_lowestBits ⟨Nat.le_of_ble_eq_true rfl, Nat.le_of_ble_eq_true rfl⟩ rfl hl.1 rfl (Nat.le_of_ble_eq_true rfl) dX9_put_62) hS (fun H locs hR hS => ?_)
        obtain ⟨g65, h⟩ := mgd_e h
        obtain ⟨M65, eM65⟩ : ∃ y : mM, y = mI M (h50 + 1) (Int32.toNatClampNeg i2) (f_X6_lowestBits h60 i3 M) := ⟨_, rfl⟩
        have h := mlt_n h M65 eM65
        refine m_iastL hx hb hR hS (kShelf1 h_h50) g65 (jn := (Int32.toNatClampNeg i2)) rfl dX9_put_65 eM65 (fun H locs hR hS => ?_)
        refine lv_iconst (v := 0) hx hb dX9_put_66 (by decide) ?_
        exact m_ir hx hb hlk hr hR hS (Option.some.inj h).symm dX9_put_67
      · have h := mif_y h c39
        refine lv_bipush (v := (-13)) hx hb dX9_put_42 (by decide) ?_
        exact m_ir hx hb hlk hr hR hS (Option.some.inj h).symm dX9_put_44
    · have h := mif_n h c23
      refine lv_iload hx hb dX9_put_26 (lv_at hl 0 rfl) ?_
      exact m_ir hx hb hlk hr hR hS (Option.some.inj h).symm dX9_put_28
  · have h := mif_y h c4
    refine lv_iconst (v := (-1)) hx hb dX9_put_7 (by decide) ?_
    exact m_ir hx hb hlk hr hR hS (Option.some.inj h).symm dX9_put_8
theorem c_X9_put (l : Launch) (X : mX) (i1 : Int32) (i2 : Int32) (i3 : Int32) (M : mM) {r : Int32 × mM} (h : f_X9_put i1 i2 i3 M = some r) : mMi l yX9_put cX9_put 5 (some .int) 2 42 X [.ref (X.1 0), .int i1, .int i2, .int i3] M r := m_ofi (by decide +kernel) (Nat.le_of_ble_eq_true rfl) rfl (fun p e s m args below meth c hs => w_X9_put hs i1 i2 i3 M h)
set_option maxRecDepth 100000 in
set_option maxHeartbeats 4000000 in
theorem w_X6_hasPlaces {l : Launch} {X : mX} {p : Program} {e : Env} {s : State} {m : MethodId} {args : Array Value} {below : List Frame} {meth : Method} {c : Code} {M : mM} {r : Int32} (hs : mS X RX6 cX6_hasPlaces 3 (some .boolean) p s m meth c) : ∀ (b : Nat) (i1 : Int32) (i2 : Int32) (h_b : isShelf b), f_X6_hasPlaces b i1 i2 M = r → mG X p l e (rmF 0 0) s m args below meth c (MQ below (mQi X M r) args s 0 0 (mL X)) 3 0 [(0, .ref (X.1 b)), (1, .int i1), (2, .int i2)] [] M := by
  obtain ⟨hx, hb, hml, hown, hF, hlk, hr⟩ := id hs
  intro b i1 i2 h_b h H locs ls hR hS hl
  refine lv_iload_n hx hb dX6_hasPlaces_0 rfl (lv_at hl 1 rfl) ?_
  refine lv_if_lt (tgt := 22) hx hb dX6_hasPlaces_1 (by decide) (fun c1 => ?_) (fun c1 => ?_)
  · have h := mif_y h c1
    refine lv_iconst (v := 0) hx hb dX6_hasPlaces_22 (by decide) ?_
    exact m_zr hx hb hlk hr hR hS (Or.inl rfl) (congrArg (fun z => (z, M)) h.symm) dX6_hasPlaces_23
  · have h := mif_n h c1
    refine lv_iload_n hx hb dX6_hasPlaces_4 rfl (lv_at hl 2 rfl) ?_
    refine lv_if_lt (tgt := 22) hx hb dX6_hasPlaces_5 (by decide) (fun c5 => ?_) (fun c5 => ?_)
    · have h := mif_y h c5
      refine lv_iconst (v := 0) hx hb dX6_hasPlaces_22 (by decide) ?_
      exact m_zr hx hb hlk hr hR hS (Or.inl rfl) (congrArg (fun z => (z, M)) h.symm) dX6_hasPlaces_23
    · have h := mif_n h c5
      refine lv_iload_n hx hb dX6_hasPlaces_8 rfl (lv_at hl 2 rfl) ?_
      refine lv_aload_n hx hb dX6_hasPlaces_9 rfl (lv_at hl 0 rfl) ?_
      refine m_g6_1 hx hb hF hown hR (kShelf0 h_b) mw_2_12 dX6_hasPlaces_10 ?_
      refine lv_iload_n hx hb dX6_hasPlaces_13 rfl (lv_at hl 1 rfl) ?_
      refine lv_isub hx hb dX6_hasPlaces_14 ?_
      refine lv_icmp_gt (tgt := 22) hx hb dX6_hasPlaces_15 (by decide) (fun c15 => ?_) (fun c15 => ?_)
      · have h := mif_y h c15
        refine lv_iconst (v := 0) hx hb dX6_hasPlaces_22 (by decide) ?_
        exact m_zr hx hb hlk hr hR hS (Or.inl rfl) (congrArg (fun z => (z, M)) h.symm) dX6_hasPlaces_23
      · have h := mif_n h c15
        refine lv_iconst (v := 1) hx hb dX6_hasPlaces_18 (by decide) ?_
        refine lv_goto (tgt := 23) hx hb dX6_hasPlaces_19 (by decide) ?_
        exact m_zr hx hb hlk hr hR hS (Or.inr rfl) (congrArg (fun z => (z, M)) h.symm) dX6_hasPlaces_23
theorem c_X6_hasPlaces (l : Launch) (X : mX) (b : Nat) (i1 : Int32) (i2 : Int32) (h_b : isShelf b) (M : mM) : mMi l yX6_hasPlaces cX6_hasPlaces 3 (some .boolean) 0 0 X [.ref (X.1 b), .int i1, .int i2] M (f_X6_hasPlaces b i1 i2 M, M) := m_ofi (by decide +kernel) (Nat.le_of_ble_eq_true rfl) rfl (fun p e s m args below meth c hs => w_X6_hasPlaces hs b i1 i2 h_b rfl)
set_option maxRecDepth 100000 in
set_option maxHeartbeats 4000000 in
theorem w_X9_copy {l : Launch} {X : mX} {p : Program} {e : Env} {s : State} {m : MethodId} {args : Array Value} {below : List Frame} {meth : Method} {c : Code} {r : Int32 × mM} (hs : mS X RX9 cX9_copy 8 (some .int) p s m meth c) : ∀ (i1 : Int32) (i2 : Int32) (i3 : Int32) (i4 : Int32) (i5 : Int32) (M : mM), f_X9_copy i1 i2 i3 i4 i5 M = some r → mG X p l e (rmF 1 300) s m args below meth c (MQ below (mQi X r.2 r.1) args s 0 0 (mL X)) 8 0 [(0, .ref (X.1 0)), (1, .int i1), (2, .int i2), (3, .int i3), (4, .int i4), (5, .int i5)] [] M := by
  obtain ⟨hx, hb, hml, hown, hF, hlk, hr⟩ := id hs
  intro i1 i2 i3 i4 i5 M h H locs ls hR hS hl
  refine lv_iload_n hx hb dX9_copy_0 rfl (lv_at hl 1 rfl) ?_
  refine m_ci (m_rS hx hb hml hown hF hR hS (c_X9_isShelf l X i1 M) q_X9_167_S hdS_X9_isShelf ⟨Nat.le_of_ble_eq_true rfl, Nat.le_of_ble_eq_true rfl⟩ rfl hl.1 rfl (Nat.le_of_ble_eq_true rfl) dX9_copy_1) hS (fun H locs hR hS => ?_)
  refine lv_if_eq (tgt := 14) hx hb dX9_copy_4 (by decide) (fun c4 => ?_) (fun c4 => ?_)
  · have h := mif_y h c4
    refine lv_iconst (v := (-1)) hx hb dX9_copy_14 (by decide) ?_
    exact m_ir hx hb hlk hr hR hS (Option.some.inj h).symm dX9_copy_15
  · have h := mif_n h c4
    refine lv_iload_n hx hb dX9_copy_7 rfl (lv_at hl 3 rfl) ?_
    refine m_ci (m_rS hx hb hml hown hF hR hS (c_X9_isShelf l X i3 M) q_X9_167_S hdS_X9_isShelf ⟨Nat.le_of_ble_eq_true rfl, Nat.le_of_ble_eq_true rfl⟩ rfl hl.1 rfl (Nat.le_of_ble_eq_true rfl) dX9_copy_8) hS (fun H locs hR hS => ?_)
    refine lv_if_ne (tgt := 16) hx hb dX9_copy_11 (by decide) (fun c11 => ?_) (fun c11 => ?_)
    · have h := mif_n h c11
      refine lv_aload_n hx hb dX9_copy_16 rfl (lv_at hl 0 rfl) ?_
      refine m_g8_8 hx hb hF hown hR kd_0 mw_2_50 dX9_copy_17 ?_
      refine lv_iload_n hx hb dX9_copy_20 rfl (lv_at hl 1 rfl) ?_
      obtain ⟨g21, h⟩ := mgd_e h
      refine m_sald hx hb hR kd_79 g21 dX9_copy_21 ?_
      refine lv_topc (fun h21 eh21 => ?_)
      have h := mlt_n h h21 eh21
      have h_h21 : isShelf h21 := by rw [eh21]; exact kShelfAt (vp_lt g21)
      refine lv_astore (lv' := [(6, .ref (X.1 h21)), (0, .ref (X.1 0)), (1, .int i1), (2, .int i2), (3, .int i3), (4, .int i4), (5, .int i5)]) hx hb dX9_copy_22 hl (by decide) rfl (fun ls hl => ?_)
      refine lv_aload_n hx hb dX9_copy_24 rfl (lv_at hl 1 rfl) ?_
      refine m_g8_8 hx hb hF hown hR kd_0 mw_2_50 dX9_copy_25 ?_
      refine lv_iload_n hx hb dX9_copy_28 rfl (lv_at hl 4 rfl) ?_
      obtain ⟨g29, h⟩ := mgd_e h
      refine m_sald hx hb hR kd_79 g29 dX9_copy_29 ?_
      refine lv_topc (fun h29 eh29 => ?_)
      have h := mlt_n h h29 eh29
      have h_h29 : isShelf h29 := by rw [eh29]; exact kShelfAt (vp_lt g29)
      refine lv_astore (lv' := [(7, .ref (X.1 h29)), (6, .ref (X.1 h21)), (0, .ref (X.1 0)), (1, .int i1), (2, .int i2), (3, .int i3), (4, .int i4), (5, .int i5)]) hx hb dX9_copy_30 hl (by decide) rfl (fun ls hl => ?_)
      refine lv_aload hx hb dX9_copy_32 (lv_at hl 1 rfl) ?_
      refine m_g6_0 hx hb hF hown hR (kShelf0 h_h21) mw_2_9 dX9_copy_34 ?_
      refine lv_bipush (v := (-2)) hx hb dX9_copy_37 (by decide) ?_
      refine lv_icmp_eq (tgt := 52) hx hb dX9_copy_39 (by decide) (fun c39 => ?_) (fun c39 => ?_)
      · have h := mif_y h c39
        refine lv_bipush (v := (-11)) hx hb dX9_copy_52 (by decide) ?_
        exact m_ir hx hb hlk hr hR hS (Option.some.inj h).symm dX9_copy_54
      · have h := mif_n h c39
        refine lv_aload hx hb dX9_copy_42 (lv_at hl 0 rfl) ?_
        refine m_g6_0 hx hb hF hown hR (kShelf0 h_h29) mw_2_9 dX9_copy_44 ?_
        refine lv_bipush (v := (-2)) hx hb dX9_copy_47 (by decide) ?_
        refine lv_icmp_ne (tgt := 55) hx hb dX9_copy_49 (by decide) (fun c49 => ?_) (fun c49 => ?_)
        · have h := mif_n h c49
          refine lv_aload hx hb dX9_copy_55 (lv_at hl 1 rfl) ?_
          refine m_ci (m_rV hx hb hml hown hF hR hS (ent6 (kShelf0 h_h21)) (kShelf0 h_h21) rfl (c_X6_isRow l X h21 h_h21 M) q_X9_307_V hdV_X6_isRow ⟨Nat.le_of_ble_eq_true rfl, Nat.le_of_ble_eq_true rfl⟩ rfl hl.1 rfl (Nat.le_of_ble_eq_true rfl) dX9_copy_57) hS (fun H locs hR hS => ?_)
          refine lv_if_eq (tgt := 84) hx hb dX9_copy_60 (by decide) (fun c60 => ?_) (fun c60 => ?_)
          · have h := mif_y h c60
            refine lv_bipush (v := (-12)) hx hb dX9_copy_84 (by decide) ?_
            exact m_ir hx hb hlk hr hR hS (Option.some.inj h).symm dX9_copy_86
          · have h := mif_n h c60
            refine lv_aload hx hb dX9_copy_63 (lv_at hl 0 rfl) ?_
            refine m_ci (m_rV hx hb hml hown hF hR hS (ent6 (kShelf0 h_h29)) (kShelf0 h_h29) rfl (c_X6_isRow l X h29 h_h29 M) q_X9_307_V hdV_X6_isRow ⟨Nat.le_of_ble_eq_true rfl, Nat.le_of_ble_eq_true rfl⟩ rfl hl.1 rfl (Nat.le_of_ble_eq_true rfl) dX9_copy_65) hS (fun H locs hR hS => ?_)
            refine lv_if_eq (tgt := 84) hx hb dX9_copy_68 (by decide) (fun c68 => ?_) (fun c68 => ?_)
            · have h := mif_y h c68
              refine lv_bipush (v := (-12)) hx hb dX9_copy_84 (by decide) ?_
              exact m_ir hx hb hlk hr hR hS (Option.some.inj h).symm dX9_copy_86
            · have h := mif_n h c68
              refine lv_aload hx hb dX9_copy_71 (lv_at hl 1 rfl) ?_
              refine m_g6_0 hx hb hF hown hR (kShelf0 h_h21) mw_2_9 dX9_copy_73 ?_
              refine lv_aload hx hb dX9_copy_76 (lv_at hl 0 rfl) ?_
              refine m_g6_0 hx hb hF hown hR (kShelf0 h_h29) mw_2_9 dX9_copy_78 ?_
              refine lv_icmp_eq (tgt := 87) hx hb dX9_copy_81 (by decide) (fun c81 => ?_) (fun c81 => ?_)
              · have h := mif_y h c81
                refine lv_aload hx hb dX9_copy_87 (lv_at hl 1 rfl) ?_
                refine lv_iload_n hx hb dX9_copy_89 rfl (lv_at hl 4 rfl) ?_
                refine lv_iload hx hb dX9_copy_90 (lv_at hl 7 rfl) ?_
                refine m_ci (m_rV hx hb hml hown hF hR hS (ent6 (kShelf0 h_h21)) (kShelf0 h_h21) rfl (c_X6_hasPlaces l X h21 i2 i5 h_h21 M) q_X9_318_V hdV_X6_hasPlaces ⟨Nat.le_of_ble_eq_true rfl, Nat.le_of_ble_eq_true rfl⟩ rfl hl.1 rfl (Nat.le_of_ble_eq_true rfl) dX9_copy_92) hS (fun H locs hR hS => ?_)
                refine lv_if_eq (tgt := 110) hx hb dX9_copy_95 (by decide) (fun c95 => ?_) (fun c95 => ?_)
                · have h := mif_y h c95
                  refine lv_bipush (v := (-13)) hx hb dX9_copy_110 (by decide) ?_
                  exact m_ir hx hb hlk hr hR hS (Option.some.inj h).symm dX9_copy_112
                · have h := mif_n h c95
                  refine lv_aload hx hb dX9_copy_98 (lv_at hl 0 rfl) ?_
                  refine lv_iload hx hb dX9_copy_100 (lv_at hl 6 rfl) ?_
                  refine lv_iload hx hb dX9_copy_102 (lv_at hl 7 rfl) ?_
                  refine m_ci (m_rV hx hb hml hown hF hR hS (ent6 (kShelf0 h_h29)) (kShelf0 h_h29) rfl (c_X6_hasPlaces l X h29 i4 i5 h_h29 M) q_X9_318_V hdV_X6_hasPlaces ⟨Nat.le_of_ble_eq_true rfl, Nat.le_of_ble_eq_true rfl⟩ rfl hl.1 rfl (Nat.le_of_ble_eq_true rfl) dX9_copy_104) hS (fun H locs hR hS => ?_)
                  refine lv_if_ne (tgt := 113) hx hb dX9_copy_107 (by decide) (fun c107 => ?_) (fun c107 => ?_)
                  · have h := mif_n h c107
                    refine lv_aload hx hb dX9_copy_113 (lv_at hl 1 rfl) ?_
                    refine m_g6_2 hx hb hF hown hR (kShelf0 h_h21) mw_2_19 dX9_copy_115 ?_
                    refine lv_iload_n hx hb dX9_copy_118 rfl (lv_at hl 4 rfl) ?_
                    refine lv_aload hx hb dX9_copy_119 (lv_at hl 0 rfl) ?_
                    refine m_g6_2 hx hb hF hown hR (kShelf0 h_h29) mw_2_19 dX9_copy_121 ?_
                    refine lv_iload hx hb dX9_copy_124 (lv_at hl 6 rfl) ?_
                    refine lv_iload hx hb dX9_copy_126 (lv_at hl 7 rfl) ?_
                    obtain ⟨g128, h⟩ := mgd_e h
                    obtain ⟨M128, eM128⟩ : ∃ y : mM, y = mC M (h21 + 1) (h29 + 1) (Int32.toNatClampNeg i2) (Int32.toNatClampNeg i4) (Int32.toNatClampNeg i5) := ⟨_, rfl⟩
                    have h := mlt_n h M128 eM128
                    refine m_cpiL hx hb (hml.trans hl.1.symm) hown hF mw_5_2 mw_3_226 mw_3_225 mw_1_13 hR hS (kShelf1 h_h21) (kShelf1 h_h29) rfl rfl rfl g128.1 g128.2.1 g128.2.2.1 g128.2.2.2.1 g128.2.2.2.2 (Nat.le_of_ble_eq_true rfl) (by decide +kernel) dX9_copy_128 eM128 (fun H locs hR hS => ?_)
                    refine lv_iload hx hb dX9_copy_131 (lv_at hl 7 rfl) ?_
                    exact m_ir hx hb hlk hr hR hS (Option.some.inj h).symm dX9_copy_133
                  · have h := mif_y h c107
                    refine lv_bipush (v := (-13)) hx hb dX9_copy_110 (by decide) ?_
                    exact m_ir hx hb hlk hr hR hS (Option.some.inj h).symm dX9_copy_112
              · have h := mif_n h c81
                refine lv_bipush (v := (-12)) hx hb dX9_copy_84 (by decide) ?_
                exact m_ir hx hb hlk hr hR hS (Option.some.inj h).symm dX9_copy_86
        · have h := mif_y h c49
          refine lv_bipush (v := (-11)) hx hb dX9_copy_52 (by decide) ?_
          exact m_ir hx hb hlk hr hR hS (Option.some.inj h).symm dX9_copy_54
    · have h := mif_y h c11
      refine lv_iconst (v := (-1)) hx hb dX9_copy_14 (by decide) ?_
      exact m_ir hx hb hlk hr hR hS (Option.some.inj h).symm dX9_copy_15
theorem c_X9_copy (l : Launch) (X : mX) (i1 : Int32) (i2 : Int32) (i3 : Int32) (i4 : Int32) (i5 : Int32) (M : mM) {r : Int32 × mM} (h : f_X9_copy i1 i2 i3 i4 i5 M = some r) : mMi l yX9_copy cX9_copy 8 (some .int) 1 300 X [.ref (X.1 0), .int i1, .int i2, .int i3, .int i4, .int i5] M r := m_ofi (by decide +kernel) (Nat.le_of_ble_eq_true rfl) rfl (fun p e s m args below meth c hs => w_X9_copy hs i1 i2 i3 i4 i5 M h)
set_option maxRecDepth 100000 in
set_option maxHeartbeats 4000000 in
theorem w_X6_refusalOfCube {l : Launch} {X : mX} {p : Program} {e : Env} {s : State} {m : MethodId} {args : Array Value} {below : List Frame} {meth : Method} {c : Code} {M : mM} {r : Int32} (hs : mS X RX6 cX6_refusalOfCube 1 (some .int) p s m meth c) : ∀ (b : Nat) (h_b : isShelf b), f_X6_refusalOfCube b M = r → mG X p l e (rmF 0 0) s m args below meth c (MQ below (mQi X M r) args s 0 0 (mL X)) 1 0 [(0, .ref (X.1 b))] [] M := by
  obtain ⟨hx, hb, hml, hown, hF, hlk, hr⟩ := id hs
  intro b h_b h H locs ls hR hS hl
  refine lv_aload_n hx hb dX6_refusalOfCube_0 rfl (lv_at hl 0 rfl) ?_
  refine m_g6_0 hx hb hF hown hR (kShelf0 h_b) mw_2_8 dX6_refusalOfCube_1 ?_
  refine lv_bipush (v := (-2)) hx hb dX6_refusalOfCube_4 (by decide) ?_
  refine lv_icmp_ne (tgt := 12) hx hb dX6_refusalOfCube_6 (by decide) (fun c6 => ?_) (fun c6 => ?_)
  · have h := mif_n h c6
    refine lv_aload_n hx hb dX6_refusalOfCube_12 rfl (lv_at hl 0 rfl) ?_
    refine m_g6_0 hx hb hF hown hR (kShelf0 h_b) mw_2_8 dX6_refusalOfCube_13 ?_
    refine lv_iconst (v := (-1)) hx hb dX6_refusalOfCube_16 (by decide) ?_
    refine lv_icmp_ne (tgt := 24) hx hb dX6_refusalOfCube_17 (by decide) (fun c17 => ?_) (fun c17 => ?_)
    · have h := mif_n h c17
      refine lv_bipush (v := (-12)) hx hb dX6_refusalOfCube_24 (by decide) ?_
      exact m_ir hx hb hlk hr hR hS (congrArg (fun z => (z, M)) h.symm) dX6_refusalOfCube_26
    · have h := mif_y h c17
      refine lv_iconst (v := 0) hx hb dX6_refusalOfCube_20 (by decide) ?_
      refine lv_goto (tgt := 26) hx hb dX6_refusalOfCube_21 (by decide) ?_
      exact m_ir hx hb hlk hr hR hS (congrArg (fun z => (z, M)) h.symm) dX6_refusalOfCube_26
  · have h := mif_y h c6
    refine lv_bipush (v := (-11)) hx hb dX6_refusalOfCube_9 (by decide) ?_
    exact m_ir hx hb hlk hr hR hS (congrArg (fun z => (z, M)) h.symm) dX6_refusalOfCube_11
theorem c_X6_refusalOfCube (l : Launch) (X : mX) (b : Nat) (h_b : isShelf b) (M : mM) : mMi l yX6_refusalOfCube cX6_refusalOfCube 1 (some .int) 0 0 X [.ref (X.1 b)] M (f_X6_refusalOfCube b M, M) := m_ofi (by decide +kernel) (Nat.le_of_ble_eq_true rfl) rfl (fun p e s m args below meth c hs => w_X6_refusalOfCube hs b h_b rfl)
set_option maxRecDepth 100000 in
set_option maxHeartbeats 4000000 in
theorem w_X6_sumOfCube_b64 {l : Launch} {X : mX} {p : Program} {e : Env} {s : State} {m : MethodId} {args : Array Value} {below : List Frame} {meth : Method} {c : Code} {M : mM} {r : Int32} (hs : mS X RX6 cX6_sumOfCube 2 (some .int) p s m meth c) : ∀ (b : Nat) (i1 : Int32) (h_b : isShelf b), f_X6_sumOfCube_b64 b i1 M = some r → mG X p l e (rmF 0 0) s m args below meth c (MQ below (mQi X M r) args s 0 0 (mL X)) 2 64 [(0, .ref (X.1 b)), (1, .int i1)] [] M := by
  obtain ⟨hx, hb, hml, hown, hF, hlk, hr⟩ := id hs
  intro b i1 h_b h H locs ls hR hS hl
  refine lv_aload_n hx hb dX6_sumOfCube_64 rfl (lv_at hl 0 rfl) ?_
  refine m_g6_3 hx hb hF hown hR (kShelf0 h_b) mw_2_20 dX6_sumOfCube_65 ?_
  refine lv_iconst (v := 3) hx hb dX6_sumOfCube_68 (by decide) ?_
  refine lv_icmp_ne (tgt := 78) hx hb dX6_sumOfCube_69 (by decide) (fun c69 => ?_) (fun c69 => ?_)
  · have h := mif_n h c69
    refine lv_iload_n hx hb dX6_sumOfCube_78 rfl (lv_at hl 1 rfl) ?_
    exact m_ir hx hb hlk hr hR hS (congrArg (fun z => (z, M)) (Option.some.inj h).symm) dX6_sumOfCube_79
  · have h := mif_y h c69
    refine lv_iconst (v := 2) hx hb dX6_sumOfCube_72 (by decide) ?_
    refine lv_iload_n hx hb dX6_sumOfCube_73 rfl (lv_at hl 1 rfl) ?_
    refine lv_imul hx hb dX6_sumOfCube_74 ?_
    refine lv_goto (tgt := 79) hx hb dX6_sumOfCube_75 (by decide) ?_
    exact m_ir hx hb hlk hr hR hS (congrArg (fun z => (z, M)) (Option.some.inj h).symm) dX6_sumOfCube_79
set_option maxRecDepth 100000 in
set_option maxHeartbeats 4000000 in
theorem w_X6_sumOfCube_b48 {l : Launch} {X : mX} {p : Program} {e : Env} {s : State} {m : MethodId} {args : Array Value} {below : List Frame} {meth : Method} {c : Code} {M : mM} {r : Int32} (hs : mS X RX6 cX6_sumOfCube 2 (some .int) p s m meth c) : ∀ (b : Nat) (i1 : Int32) (h_b : isShelf b), f_X6_sumOfCube_b48 b i1 M = some r → mG X p l e (rmF 0 0) s m args below meth c (MQ below (mQi X M r) args s 0 0 (mL X)) 2 48 [(0, .ref (X.1 b)), (1, .int i1)] [] M := by
  obtain ⟨hx, hb, hml, hown, hF, hlk, hr⟩ := id hs
  intro b i1 h_b h H locs ls hR hS hl
  refine lv_iload_n hx hb dX6_sumOfCube_48 rfl (lv_at hl 1 rfl) ?_
  refine m_gsN hx hb hF hS hown 2 (by decide) rfl 31 rfl dX6_sumOfCube_49 ?_
  refine lv_aload_n hx hb dX6_sumOfCube_52 rfl (lv_at hl 0 rfl) ?_
  refine m_g6_3 hx hb hF hown hR (kShelf0 h_b) mw_2_20 dX6_sumOfCube_53 ?_
  obtain ⟨g56, h⟩ := mgd_e h
  refine m_saidL hx hb hF hS 2 (by decide) (N := 4) rfl g56 (jn := (Int32.toNatClampNeg (M.1 b 3))) rfl dX6_sumOfCube_56 ?_
  refine lv_aload_n hx hb dX6_sumOfCube_57 rfl (lv_at hl 0 rfl) ?_
  refine m_g6_6 hx hb hF hown hR (kShelf0 h_b) mw_2_23 dX6_sumOfCube_58 ?_
  refine lv_iadd hx hb dX6_sumOfCube_61 ?_
  refine lv_iadd hx hb dX6_sumOfCube_62 ?_
  refine lv_topi (fun x63 ex63 => ?_)
  have h := mlt_n h x63 ex63
  refine lv_istore_n (lv' := [(1, .int x63), (0, .ref (X.1 b))]) hx hb dX6_sumOfCube_63 rfl hl (by decide) rfl (fun ls hl => ?_)
  exact w_X6_sumOfCube_b64 hs b x63 h_b h H locs ls hR hS (lv_sub hl [1, 0] rfl)
set_option maxRecDepth 100000 in
set_option maxHeartbeats 4000000 in
theorem w_X6_sumOfCube_b32 {l : Launch} {X : mX} {p : Program} {e : Env} {s : State} {m : MethodId} {args : Array Value} {below : List Frame} {meth : Method} {c : Code} {M : mM} {r : Int32} (hs : mS X RX6 cX6_sumOfCube 2 (some .int) p s m meth c) : ∀ (b : Nat) (i1 : Int32) (h_b : isShelf b), f_X6_sumOfCube_b32 b i1 M = some r → mG X p l e (rmF 0 0) s m args below meth c (MQ below (mQi X M r) args s 0 0 (mL X)) 2 32 [(0, .ref (X.1 b)), (1, .int i1)] [] M := by
  obtain ⟨hx, hb, hml, hown, hF, hlk, hr⟩ := id hs
  intro b i1 h_b h H locs ls hR hS hl
  refine lv_aload_n hx hb dX6_sumOfCube_32 rfl (lv_at hl 0 rfl) ?_
  refine m_g6_3 hx hb hF hown hR (kShelf0 h_b) mw_2_20 dX6_sumOfCube_33 ?_
  refine lv_iconst (v := 2) hx hb dX6_sumOfCube_36 (by decide) ?_
  refine lv_icmp_eq (tgt := 48) hx hb dX6_sumOfCube_37 (by decide) (fun c37 => ?_) (fun c37 => ?_)
  · have h := mif_y h c37
    exact w_X6_sumOfCube_b48 hs b i1 h_b h H locs ls hR hS (lv_sub hl [0, 1] rfl)
  · have h := mif_n h c37
    refine lv_aload_n hx hb dX6_sumOfCube_40 rfl (lv_at hl 0 rfl) ?_
    refine m_g6_3 hx hb hF hown hR (kShelf0 h_b) mw_2_20 dX6_sumOfCube_41 ?_
    refine lv_iconst (v := 3) hx hb dX6_sumOfCube_44 (by decide) ?_
    refine lv_icmp_ne (tgt := 64) hx hb dX6_sumOfCube_45 (by decide) (fun c45 => ?_) (fun c45 => ?_)
    · have h := mif_n h c45
      exact w_X6_sumOfCube_b64 hs b i1 h_b h H locs ls hR hS (lv_sub hl [0, 1] rfl)
    · have h := mif_y h c45
      exact w_X6_sumOfCube_b48 hs b i1 h_b h H locs ls hR hS (lv_sub hl [0, 1] rfl)
set_option maxRecDepth 100000 in
set_option maxHeartbeats 4000000 in
theorem w_X6_sumOfCube {l : Launch} {X : mX} {p : Program} {e : Env} {s : State} {m : MethodId} {args : Array Value} {below : List Frame} {meth : Method} {c : Code} {M : mM} {r : Int32} (hs : mS X RX6 cX6_sumOfCube 2 (some .int) p s m meth c) : ∀ (b : Nat) (h_b : isShelf b), f_X6_sumOfCube b M = some r → mG X p l e (rmF 0 0) s m args below meth c (MQ below (mQi X M r) args s 0 0 (mL X)) 2 0 [(0, .ref (X.1 b))] [] M := by
  obtain ⟨hx, hb, hml, hown, hF, hlk, hr⟩ := id hs
  intro b h_b h H locs ls hR hS hl
  refine lv_bipush (v := 100) hx hb dX6_sumOfCube_0 (by decide) ?_
  refine m_gsN hx hb hF hS hown 0 (by decide) rfl 29 rfl dX6_sumOfCube_2 ?_
  refine lv_aload_n hx hb dX6_sumOfCube_5 rfl (lv_at hl 0 rfl) ?_
  refine m_g6_3 hx hb hF hown hR (kShelf0 h_b) mw_2_20 dX6_sumOfCube_6 ?_
  obtain ⟨g9, h⟩ := mgd_e h
  refine m_saidL hx hb hF hS 0 (by decide) (N := 4) rfl g9 (jn := (Int32.toNatClampNeg (M.1 b 3))) rfl dX6_sumOfCube_9 ?_
  refine lv_iadd hx hb dX6_sumOfCube_10 ?_
  refine m_gsN hx hb hF hS hown 1 (by decide) rfl 30 rfl dX6_sumOfCube_11 ?_
  refine lv_aload_n hx hb dX6_sumOfCube_14 rfl (lv_at hl 0 rfl) ?_
  refine m_g6_3 hx hb hF hown hR (kShelf0 h_b) mw_2_20 dX6_sumOfCube_15 ?_
  obtain ⟨g18, h⟩ := mgd_e h
  refine m_saidL hx hb hF hS 1 (by decide) (N := 4) rfl g18 (jn := (Int32.toNatClampNeg (M.1 b 3))) rfl dX6_sumOfCube_18 ?_
  refine lv_iadd hx hb dX6_sumOfCube_19 ?_
  refine lv_topi (fun x20 ex20 => ?_)
  have h := mlt_n h x20 ex20
  refine lv_istore_n (lv' := [(1, .int x20), (0, .ref (X.1 b))]) hx hb dX6_sumOfCube_20 rfl hl (by decide) rfl (fun ls hl => ?_)
  refine lv_aload_n hx hb dX6_sumOfCube_21 rfl (lv_at hl 1 rfl) ?_
  refine m_g6_3 hx hb hF hown hR (kShelf0 h_b) mw_2_20 dX6_sumOfCube_22 ?_
  refine lv_iconst (v := 1) hx hb dX6_sumOfCube_25 (by decide) ?_
  refine lv_icmp_ne (tgt := 32) hx hb dX6_sumOfCube_26 (by decide) (fun c26 => ?_) (fun c26 => ?_)
  · have h := mif_n h c26
    exact w_X6_sumOfCube_b32 hs b x20 h_b h H locs ls hR hS (lv_sub hl [1, 0] rfl)
  · have h := mif_y h c26
    obtain ⟨x29, ex29⟩ : ∃ y : Int32, y = (x20 + 50) := ⟨_, rfl⟩
    have h := mlt_n h x29 ex29
    refine lv_iinc (v := x29) (lv' := [(1, .int x29), (0, .ref (X.1 b))]) hx hb dX6_sumOfCube_29 hl (k := 0) rfl (by rw [ex29]; rfl) (by decide) rfl (fun ls hl => ?_)
    exact w_X6_sumOfCube_b32 hs b x29 h_b h H locs ls hR hS (lv_sub hl [1, 0] rfl)
theorem c_X6_sumOfCube (l : Launch) (X : mX) (b : Nat) (h_b : isShelf b) (M : mM) {r : Int32} (h : f_X6_sumOfCube b M = some r) : mMi l yX6_sumOfCube cX6_sumOfCube 2 (some .int) 0 0 X [.ref (X.1 b)] M (r, M) := m_ofi (by decide +kernel) (Nat.le_of_ble_eq_true rfl) rfl (fun p e s m args below meth c hs => w_X6_sumOfCube hs b h_b h)
set_option maxRecDepth 100000 in
set_option maxHeartbeats 4000000 in
theorem w_X9_sum {l : Launch} {X : mX} {p : Program} {e : Env} {s : State} {m : MethodId} {args : Array Value} {below : List Frame} {meth : Method} {c : Code} {M : mM} {r : Int32} (hs : mS X RX9 cX9_sum 3 (some .int) p s m meth c) : ∀ (i1 : Int32), f_X9_sum i1 M = some r → mG X p l e (rmF 1 21) s m args below meth c (MQ below (mQi X M r) args s 0 0 (mL X)) 3 0 [(0, .ref (X.1 0)), (1, .int i1)] [] M := by
  obtain ⟨hx, hb, hml, hown, hF, hlk, hr⟩ := id hs
  intro i1 h H locs ls hR hS hl
  refine lv_iload_n hx hb dX9_sum_0 rfl (lv_at hl 1 rfl) ?_
  refine m_ci (m_rS hx hb hml hown hF hR hS (c_X9_isShelf l X i1 M) q_X9_167_S hdS_X9_isShelf ⟨Nat.le_of_ble_eq_true rfl, Nat.le_of_ble_eq_true rfl⟩ rfl hl.1 rfl (Nat.le_of_ble_eq_true rfl) dX9_sum_1) hS (fun H locs hR hS => ?_)
  refine lv_if_ne (tgt := 9) hx hb dX9_sum_4 (by decide) (fun c4 => ?_) (fun c4 => ?_)
  · have h := mif_n h c4
    refine lv_aload_n hx hb dX9_sum_9 rfl (lv_at hl 0 rfl) ?_
    refine m_g8_8 hx hb hF hown hR kd_0 mw_2_50 dX9_sum_10 ?_
    refine lv_iload_n hx hb dX9_sum_13 rfl (lv_at hl 1 rfl) ?_
    obtain ⟨g14, h⟩ := mgd_e h
    refine m_sald hx hb hR kd_79 g14 dX9_sum_14 ?_
    refine lv_topc (fun h14 eh14 => ?_)
    have h := mlt_n h h14 eh14
    have h_h14 : isShelf h14 := by rw [eh14]; exact kShelfAt (vp_lt g14)
    refine m_ci (m_rV hx hb hml hown hF hR hS (ent6 (kShelf0 h_h14)) (kShelf0 h_h14) rfl (c_X6_refusalOfCube l X h14 h_h14 M) q_X9_327_V hdV_X6_refusalOfCube ⟨Nat.le_of_ble_eq_true rfl, Nat.le_of_ble_eq_true rfl⟩ rfl hl.1 rfl (Nat.le_of_ble_eq_true rfl) dX9_sum_15) hS (fun H locs hR hS => ?_)
    refine lv_topi (fun x18 ex18 => ?_)
    have h := mlt_n h x18 ex18
    refine lv_istore_n (lv' := [(2, .int x18), (0, .ref (X.1 0)), (1, .int i1)]) hx hb dX9_sum_18 rfl hl (by decide) rfl (fun ls hl => ?_)
    refine lv_iload_n hx hb dX9_sum_19 rfl (lv_at hl 0 rfl) ?_
    refine lv_if_ge (tgt := 27) hx hb dX9_sum_20 (by decide) (fun c20 => ?_) (fun c20 => ?_)
    · have h := mif_y h c20
      refine lv_aload_n hx hb dX9_sum_27 rfl (lv_at hl 1 rfl) ?_
      refine m_g8_8 hx hb hF hown hR kd_0 mw_2_50 dX9_sum_28 ?_
      refine lv_iload_n hx hb dX9_sum_31 rfl (lv_at hl 2 rfl) ?_
      obtain ⟨g32, h⟩ := mgd_e h
      refine m_sald hx hb hR kd_79 g32 dX9_sum_32 ?_
      refine lv_topc (fun h32 eh32 => ?_)
      have h := mlt_n h h32 eh32
      have h_h32 : isShelf h32 := by rw [eh32]; exact kShelfAt (vp_lt g32)
      obtain ⟨v33, q33, h⟩ := mbp_e h
      refine m_ci (m_rV hx hb hml hown hF hR hS (ent6 (kShelf0 h_h32)) (kShelf0 h_h32) rfl (c_X6_sumOfCube l X h32 h_h32 M q33) q_X9_330_V hdV_X6_sumOfCube ⟨Nat.le_of_ble_eq_true rfl, Nat.le_of_ble_eq_true rfl⟩ rfl hl.1 rfl (Nat.le_of_ble_eq_true rfl) dX9_sum_33) hS (fun H locs hR hS => ?_)
      exact m_ir hx hb hlk hr hR hS (congrArg (fun z => (z, M)) (Option.some.inj h).symm) dX9_sum_36
    · have h := mif_n h c20
      refine lv_iload_n hx hb dX9_sum_23 rfl (lv_at hl 0 rfl) ?_
      refine lv_goto (tgt := 36) hx hb dX9_sum_24 (by decide) ?_
      exact m_ir hx hb hlk hr hR hS (congrArg (fun z => (z, M)) (Option.some.inj h).symm) dX9_sum_36
  · have h := mif_y h c4
    refine lv_iconst (v := (-1)) hx hb dX9_sum_7 (by decide) ?_
    exact m_ir hx hb hlk hr hR hS (congrArg (fun z => (z, M)) (Option.some.inj h).symm) dX9_sum_8
theorem c_X9_sum (l : Launch) (X : mX) (i1 : Int32) (M : mM) {r : Int32} (h : f_X9_sum i1 M = some r) : mMi l yX9_sum cX9_sum 3 (some .int) 1 21 X [.ref (X.1 0), .int i1] M (r, M) := m_ofi (by decide +kernel) (Nat.le_of_ble_eq_true rfl) rfl (fun p e s m args below meth c hs => w_X9_sum hs i1 h)
set_option maxRecDepth 100000 in
set_option maxHeartbeats 4000000 in
theorem w_X10_thrown {l : Launch} {X : mX} {p : Program} {e : Env} {s : State} {m : MethodId} {args : Array Value} {below : List Frame} {meth : Method} {c : Code} {M : mM} {r : Int32} (hs : mS X RX10 cX10_thrown 1 (some .int) p s m meth c) : f_X10_thrown  M = r → mG X p l e (rmF 0 0) s m args below meth c (MQ below (mQi X M r) args s 0 0 (mL X)) 1 0 [(0, .ref (X.1 96))] [] M := by
  obtain ⟨hx, hb, hml, hown, hF, hlk, hr⟩ := id hs
  intro h H locs ls hR hS hl
  refine lv_aload_n hx hb dX10_thrown_0 rfl (lv_at hl 0 rfl) ?_
  refine m_g9_0 hx hb hF hown hR kd_96 mw_5_137 dX10_thrown_1 ?_
  exact m_ir hx hb hlk hr hR hS (congrArg (fun z => (z, M)) h.symm) dX10_thrown_4
theorem c_X10_thrown (l : Launch) (X : mX) (M : mM) : mMi l yX10_thrown cX10_thrown 1 (some .int) 0 0 X [.ref (X.1 96)] M (f_X10_thrown M, M) := m_ofi (by decide +kernel) (Nat.le_of_ble_eq_true rfl) rfl (fun p e s m args below meth c hs => w_X10_thrown hs rfl)
set_option maxRecDepth 100000 in
set_option maxHeartbeats 4000000 in
theorem w_X10_is {l : Launch} {X : mX} {p : Program} {e : Env} {s : State} {m : MethodId} {args : Array Value} {below : List Frame} {meth : Method} {c : Code} {M : mM} {r : Int32} (hs : mS X RX10 cX10_is 4 (some .boolean) p s m meth c) : ∀ (i1 : Int32) (i2 : Int32) (i3 : Int32), f_X10_is i1 i2 i3 = r → mG X p l e (rmF 0 0) s m args below meth c (MQ below (mQi X M r) args s 0 0 (mL X)) 4 0 [(0, .ref (X.1 96)), (1, .int i1), (2, .int i2), (3, .int i3)] [] M := by
  obtain ⟨hx, hb, hml, hown, hF, hlk, hr⟩ := id hs
  intro i1 i2 i3 h H locs ls hR hS hl
  refine lv_iload_n hx hb dX10_is_0 rfl (lv_at hl 1 rfl) ?_
  refine lv_iload_n hx hb dX10_is_1 rfl (lv_at hl 2 rfl) ?_
  refine lv_icmp_lt (tgt := 14) hx hb dX10_is_2 (by decide) (fun c2 => ?_) (fun c2 => ?_)
  · have h := mif_y h c2
    refine lv_iconst (v := 0) hx hb dX10_is_14 (by decide) ?_
    exact m_zr hx hb hlk hr hR hS (Or.inl rfl) (congrArg (fun z => (z, M)) h.symm) dX10_is_15
  · have h := mif_n h c2
    refine lv_iload_n hx hb dX10_is_5 rfl (lv_at hl 1 rfl) ?_
    refine lv_iload_n hx hb dX10_is_6 rfl (lv_at hl 3 rfl) ?_
    refine lv_icmp_gt (tgt := 14) hx hb dX10_is_7 (by decide) (fun c7 => ?_) (fun c7 => ?_)
    · have h := mif_y h c7
      refine lv_iconst (v := 0) hx hb dX10_is_14 (by decide) ?_
      exact m_zr hx hb hlk hr hR hS (Or.inl rfl) (congrArg (fun z => (z, M)) h.symm) dX10_is_15
    · have h := mif_n h c7
      refine lv_iconst (v := 1) hx hb dX10_is_10 (by decide) ?_
      refine lv_goto (tgt := 15) hx hb dX10_is_11 (by decide) ?_
      exact m_zr hx hb hlk hr hR hS (Or.inr rfl) (congrArg (fun z => (z, M)) h.symm) dX10_is_15
theorem c_X10_is (l : Launch) (X : mX) (i1 : Int32) (i2 : Int32) (i3 : Int32) (M : mM) : mMi l yX10_is cX10_is 4 (some .boolean) 0 0 X [.ref (X.1 96), .int i1, .int i2, .int i3] M (f_X10_is i1 i2 i3, M) := m_ofi (by decide +kernel) (Nat.le_of_ble_eq_true rfl) rfl (fun p e s m args below meth c hs => w_X10_is hs i1 i2 i3 rfl)
set_option maxRecDepth 100000 in
set_option maxHeartbeats 4000000 in
theorem w_X10_isCube {l : Launch} {X : mX} {p : Program} {e : Env} {s : State} {m : MethodId} {args : Array Value} {below : List Frame} {meth : Method} {c : Code} {M : mM} {r : Int32} (hs : mS X RX10 cX10_isCube 2 (some .boolean) p s m meth c) : ∀ (i1 : Int32), f_X10_isCube i1 M = some r → mG X p l e (rmF 1 23) s m args below meth c (MQ below (mQi X M r) args s 0 0 (mL X)) 2 0 [(0, .ref (X.1 96)), (1, .int i1)] [] M := by
  obtain ⟨hx, hb, hml, hown, hF, hlk, hr⟩ := id hs
  intro i1 h H locs ls hR hS hl
  refine lv_aload_n hx hb dX10_isCube_0 rfl (lv_at hl 0 rfl) ?_
  refine lv_iload_n hx hb dX10_isCube_1 rfl (lv_at hl 1 rfl) ?_
  refine lv_iconst (v := 0) hx hb dX10_isCube_2 (by decide) ?_
  refine lv_aload_n hx hb dX10_isCube_3 rfl (lv_at hl 0 rfl) ?_
  refine m_g9_1 hx hb hF hown hR kd_96 mw_5_138 dX10_isCube_4 ?_
  refine lv_iconst (v := 0) hx hb dX10_isCube_7 (by decide) ?_
  refine m_ialdL hx hb hR kd_97 (show mIn 0 1834 from by decide) (jn := 0) (by decide) dX10_isCube_8 ?_
  refine lv_iconst (v := 1) hx hb dX10_isCube_9 (by decide) ?_
  refine lv_isub hx hb dX10_isCube_10 ?_
  refine m_ci (m_rV hx hb hml hown hF hR hS (ent9 kd_96) kd_96 rfl (c_X10_is l X i1 0 ((M.1 97 0) - 1) M) q_X10_121_V hdV_X10_is ⟨Nat.le_of_ble_eq_true rfl, Nat.le_of_ble_eq_true rfl⟩ rfl hl.1 rfl (Nat.le_of_ble_eq_true rfl) dX10_isCube_11) hS (fun H locs hR hS => ?_)
  obtain ⟨g14, h⟩ := mgd_e h
  exact m_zr hx hb hlk hr hR hS g14 (congrArg (fun z => (z, M)) (Option.some.inj h).symm) dX10_isCube_14
theorem c_X10_isCube (l : Launch) (X : mX) (i1 : Int32) (M : mM) {r : Int32} (h : f_X10_isCube i1 M = some r) : mMi l yX10_isCube cX10_isCube 2 (some .boolean) 1 23 X [.ref (X.1 96), .int i1] M (r, M) := m_ofi (by decide +kernel) (Nat.le_of_ble_eq_true rfl) rfl (fun p e s m args below meth c hs => w_X10_isCube hs i1 h)
set_option maxRecDepth 100000 in
set_option maxHeartbeats 4000000 in
theorem w_X10_isCell {l : Launch} {X : mX} {p : Program} {e : Env} {s : State} {m : MethodId} {args : Array Value} {below : List Frame} {meth : Method} {c : Code} {M : mM} {r : Int32} (hs : mS X RX10 cX10_isCell 3 (some .boolean) p s m meth c) : ∀ (i1 : Int32) (i2 : Int32), f_X10_isCell i1 i2 = r → mG X p l e (rmF 1 23) s m args below meth c (MQ below (mQi X M r) args s 0 0 (mL X)) 3 0 [(0, .ref (X.1 96)), (1, .int i1), (2, .int i2)] [] M := by
  obtain ⟨hx, hb, hml, hown, hF, hlk, hr⟩ := id hs
  intro i1 i2 h H locs ls hR hS hl
  refine lv_aload_n hx hb dX10_isCell_0 rfl (lv_at hl 0 rfl) ?_
  refine lv_iload_n hx hb dX10_isCell_1 rfl (lv_at hl 1 rfl) ?_
  refine lv_iconst (v := 0) hx hb dX10_isCell_2 (by decide) ?_
  refine lv_bipush (v := 9) hx hb dX10_isCell_3 (by decide) ?_
  refine m_ci (m_rV hx hb hml hown hF hR hS (ent9 kd_96) kd_96 rfl (c_X10_is l X i1 0 9 M) q_X10_121_V hdV_X10_is ⟨Nat.le_of_ble_eq_true rfl, Nat.le_of_ble_eq_true rfl⟩ rfl hl.1 rfl (Nat.le_of_ble_eq_true rfl) dX10_isCell_5) hS (fun H locs hR hS => ?_)
  refine lv_if_eq (tgt := 26) hx hb dX10_isCell_8 (by decide) (fun c8 => ?_) (fun c8 => ?_)
  · have h := mif_y h c8
    refine lv_iconst (v := 0) hx hb dX10_isCell_26 (by decide) ?_
    exact m_zr hx hb hlk hr hR hS (Or.inl rfl) (congrArg (fun z => (z, M)) h.symm) dX10_isCell_27
  · have h := mif_n h c8
    refine lv_aload_n hx hb dX10_isCell_11 rfl (lv_at hl 0 rfl) ?_
    refine lv_iload_n hx hb dX10_isCell_12 rfl (lv_at hl 2 rfl) ?_
    refine lv_iconst (v := 0) hx hb dX10_isCell_13 (by decide) ?_
    refine lv_bipush (v := 7) hx hb dX10_isCell_14 (by decide) ?_
    refine m_ci (m_rV hx hb hml hown hF hR hS (ent9 kd_96) kd_96 rfl (c_X10_is l X i2 0 7 M) q_X10_121_V hdV_X10_is ⟨Nat.le_of_ble_eq_true rfl, Nat.le_of_ble_eq_true rfl⟩ rfl hl.1 rfl (Nat.le_of_ble_eq_true rfl) dX10_isCell_16) hS (fun H locs hR hS => ?_)
    refine lv_if_eq (tgt := 26) hx hb dX10_isCell_19 (by decide) (fun c19 => ?_) (fun c19 => ?_)
    · have h := mif_y h c19
      refine lv_iconst (v := 0) hx hb dX10_isCell_26 (by decide) ?_
      exact m_zr hx hb hlk hr hR hS (Or.inl rfl) (congrArg (fun z => (z, M)) h.symm) dX10_isCell_27
    · have h := mif_n h c19
      refine lv_iconst (v := 1) hx hb dX10_isCell_22 (by decide) ?_
      refine lv_goto (tgt := 27) hx hb dX10_isCell_23 (by decide) ?_
      exact m_zr hx hb hlk hr hR hS (Or.inr rfl) (congrArg (fun z => (z, M)) h.symm) dX10_isCell_27
theorem c_X10_isCell (l : Launch) (X : mX) (i1 : Int32) (i2 : Int32) (M : mM) : mMi l yX10_isCell cX10_isCell 3 (some .boolean) 1 23 X [.ref (X.1 96), .int i1, .int i2] M (f_X10_isCell i1 i2, M) := m_ofi (by decide +kernel) (Nat.le_of_ble_eq_true rfl) rfl (fun p e s m args below meth c hs => w_X10_isCell hs i1 i2 rfl)
set_option maxRecDepth 100000 in
set_option maxHeartbeats 4000000 in
theorem w_X10_cubeAt {l : Launch} {X : mX} {p : Program} {e : Env} {s : State} {m : MethodId} {args : Array Value} {below : List Frame} {meth : Method} {c : Code} {M : mM} {r : Int32} (hs : mS X RX10 cX10_cubeAt 3 (some .int) p s m meth c) : ∀ (i1 : Int32) (i2 : Int32), f_X10_cubeAt i1 i2 M = some r → mG X p l e (rmF 2 45) s m args below meth c (MQ below (mQi X M r) args s 0 0 (mL X)) 3 0 [(0, .ref (X.1 96)), (1, .int i1), (2, .int i2)] [] M := by
  obtain ⟨hx, hb, hml, hown, hF, hlk, hr⟩ := id hs
  intro i1 i2 h H locs ls hR hS hl
  refine lv_aload_n hx hb dX10_cubeAt_0 rfl (lv_at hl 0 rfl) ?_
  refine lv_iload_n hx hb dX10_cubeAt_1 rfl (lv_at hl 1 rfl) ?_
  refine lv_iload_n hx hb dX10_cubeAt_2 rfl (lv_at hl 2 rfl) ?_
  refine m_ci (m_rV hx hb hml hown hF hR hS (ent9 kd_96) kd_96 rfl (c_X10_isCell l X i1 i2 M) q_X10_125_V hdV_X10_isCell ⟨Nat.le_of_ble_eq_true rfl, Nat.le_of_ble_eq_true rfl⟩ rfl hl.1 rfl (Nat.le_of_ble_eq_true rfl) dX10_cubeAt_3) hS (fun H locs hR hS => ?_)
  refine lv_if_eq (tgt := 25) hx hb dX10_cubeAt_6 (by decide) (fun c6 => ?_) (fun c6 => ?_)
  · have h := mif_y h c6
    refine lv_iconst (v := (-1)) hx hb dX10_cubeAt_25 (by decide) ?_
    exact m_ir hx hb hlk hr hR hS (congrArg (fun z => (z, M)) (Option.some.inj h).symm) dX10_cubeAt_26
  · have h := mif_n h c6
    refine lv_aload_n hx hb dX10_cubeAt_9 rfl (lv_at hl 0 rfl) ?_
    refine m_g9_4 hx hb hF hown hR kd_96 mw_5_141 dX10_cubeAt_10 ?_
    refine lv_bipush (v := 8) hx hb dX10_cubeAt_13 (by decide) ?_
    refine lv_iload_n hx hb dX10_cubeAt_15 rfl (lv_at hl 1 rfl) ?_
    refine lv_imul hx hb dX10_cubeAt_16 ?_
    refine lv_iload_n hx hb dX10_cubeAt_17 rfl (lv_at hl 2 rfl) ?_
    refine lv_iadd hx hb dX10_cubeAt_18 ?_
    obtain ⟨g19, h⟩ := mgd_e h
    refine m_ialdL hx hb hR kd_99 g19 (jn := (Int32.toNatClampNeg ((8 * i1) + i2))) rfl dX10_cubeAt_19 ?_
    refine lv_iconst (v := 1) hx hb dX10_cubeAt_20 (by decide) ?_
    refine lv_isub hx hb dX10_cubeAt_21 ?_
    refine lv_goto (tgt := 26) hx hb dX10_cubeAt_22 (by decide) ?_
    exact m_ir hx hb hlk hr hR hS (congrArg (fun z => (z, M)) (Option.some.inj h).symm) dX10_cubeAt_26
theorem c_X10_cubeAt (l : Launch) (X : mX) (i1 : Int32) (i2 : Int32) (M : mM) {r : Int32} (h : f_X10_cubeAt i1 i2 M = some r) : mMi l yX10_cubeAt cX10_cubeAt 3 (some .int) 2 45 X [.ref (X.1 96), .int i1, .int i2] M (r, M) := m_ofi (by decide +kernel) (Nat.le_of_ble_eq_true rfl) rfl (fun p e s m args below meth c hs => w_X10_cubeAt hs i1 i2 h)
set_option maxRecDepth 100000 in
set_option maxHeartbeats 4000000 in
theorem w_X10_weightOf {l : Launch} {X : mX} {p : Program} {e : Env} {s : State} {m : MethodId} {args : Array Value} {below : List Frame} {meth : Method} {c : Code} {M : mM} {r : Int32} (hs : mS X RX10 cX10_weightOf 2 (some .int) p s m meth c) : ∀ (i1 : Int32), f_X10_weightOf i1 = r → mG X p l e (rmF 0 0) s m args below meth c (MQ below (mQi X M r) args s 0 0 (mL X)) 2 0 [(0, .ref (X.1 96)), (1, .int i1)] [] M := by
  obtain ⟨hx, hb, hml, hown, hF, hlk, hr⟩ := id hs
  intro i1 h H locs ls hR hS hl
  refine lv_iload_n hx hb dX10_weightOf_0 rfl (lv_at hl 1 rfl) ?_
  refine lv_iconst (v := 3) hx hb dX10_weightOf_1 (by decide) ?_
  refine lv_icmp_ne (tgt := 10) hx hb dX10_weightOf_2 (by decide) (fun c2 => ?_) (fun c2 => ?_)
  · have h := mif_n h c2
    refine lv_iload_n hx hb dX10_weightOf_10 rfl (lv_at hl 1 rfl) ?_
    refine lv_if_ne (tgt := 18) hx hb dX10_weightOf_11 (by decide) (fun c11 => ?_) (fun c11 => ?_)
    · have h := mif_n h c11
      refine lv_iconst (v := 3) hx hb dX10_weightOf_18 (by decide) ?_
      exact m_ir hx hb hlk hr hR hS (congrArg (fun z => (z, M)) h.symm) dX10_weightOf_19
    · have h := mif_y h c11
      refine lv_iconst (v := 2) hx hb dX10_weightOf_14 (by decide) ?_
      refine lv_goto (tgt := 19) hx hb dX10_weightOf_15 (by decide) ?_
      exact m_ir hx hb hlk hr hR hS (congrArg (fun z => (z, M)) h.symm) dX10_weightOf_19
  · have h := mif_y h c2
    refine lv_bipush (v := 6) hx hb dX10_weightOf_5 (by decide) ?_
    refine lv_goto (tgt := 19) hx hb dX10_weightOf_7 (by decide) ?_
    exact m_ir hx hb hlk hr hR hS (congrArg (fun z => (z, M)) h.symm) dX10_weightOf_19
theorem c_X10_weightOf (l : Launch) (X : mX) (i1 : Int32) (M : mM) : mMi l yX10_weightOf cX10_weightOf 2 (some .int) 0 0 X [.ref (X.1 96), .int i1] M (f_X10_weightOf i1, M) := m_ofi (by decide +kernel) (Nat.le_of_ble_eq_true rfl) rfl (fun p e s m args below meth c hs => w_X10_weightOf hs i1 rfl)
set_option maxRecDepth 100000 in
set_option maxHeartbeats 4000000 in
theorem w_X10_bearsOf {l : Launch} {X : mX} {p : Program} {e : Env} {s : State} {m : MethodId} {args : Array Value} {below : List Frame} {meth : Method} {c : Code} {M : mM} {r : Int32} (hs : mS X RX10 cX10_bearsOf 2 (some .int) p s m meth c) : ∀ (i1 : Int32), f_X10_bearsOf i1 = r → mG X p l e (rmF 0 0) s m args below meth c (MQ below (mQi X M r) args s 0 0 (mL X)) 2 0 [(0, .ref (X.1 96)), (1, .int i1)] [] M := by
  obtain ⟨hx, hb, hml, hown, hF, hlk, hr⟩ := id hs
  intro i1 h H locs ls hR hS hl
  refine lv_iload_n hx hb dX10_bearsOf_0 rfl (lv_at hl 1 rfl) ?_
  refine lv_iconst (v := 1) hx hb dX10_bearsOf_1 (by decide) ?_
  refine lv_icmp_ne (tgt := 10) hx hb dX10_bearsOf_2 (by decide) (fun c2 => ?_) (fun c2 => ?_)
  · have h := mif_n h c2
    refine lv_iload_n hx hb dX10_bearsOf_10 rfl (lv_at hl 1 rfl) ?_
    refine lv_iconst (v := 2) hx hb dX10_bearsOf_11 (by decide) ?_
    refine lv_icmp_ne (tgt := 19) hx hb dX10_bearsOf_12 (by decide) (fun c12 => ?_) (fun c12 => ?_)
    · have h := mif_n h c12
      refine lv_iload_n hx hb dX10_bearsOf_19 rfl (lv_at hl 1 rfl) ?_
      refine lv_iconst (v := 3) hx hb dX10_bearsOf_20 (by decide) ?_
      refine lv_icmp_ne (tgt := 28) hx hb dX10_bearsOf_21 (by decide) (fun c21 => ?_) (fun c21 => ?_)
      · have h := mif_n h c21
        refine lv_bipush (v := 6) hx hb dX10_bearsOf_28 (by decide) ?_
        exact m_ir hx hb hlk hr hR hS (congrArg (fun z => (z, M)) h.symm) dX10_bearsOf_30
      · have h := mif_y h c21
        refine lv_iconst (v := 2) hx hb dX10_bearsOf_24 (by decide) ?_
        refine lv_goto (tgt := 30) hx hb dX10_bearsOf_25 (by decide) ?_
        exact m_ir hx hb hlk hr hR hS (congrArg (fun z => (z, M)) h.symm) dX10_bearsOf_30
    · have h := mif_y h c12
      refine lv_iconst (v := 4) hx hb dX10_bearsOf_15 (by decide) ?_
      refine lv_goto (tgt := 30) hx hb dX10_bearsOf_16 (by decide) ?_
      exact m_ir hx hb hlk hr hR hS (congrArg (fun z => (z, M)) h.symm) dX10_bearsOf_30
  · have h := mif_y h c2
    refine lv_bipush (v := 12) hx hb dX10_bearsOf_5 (by decide) ?_
    refine lv_goto (tgt := 30) hx hb dX10_bearsOf_7 (by decide) ?_
    exact m_ir hx hb hlk hr hR hS (congrArg (fun z => (z, M)) h.symm) dX10_bearsOf_30
theorem c_X10_bearsOf (l : Launch) (X : mX) (i1 : Int32) (M : mM) : mMi l yX10_bearsOf cX10_bearsOf 2 (some .int) 0 0 X [.ref (X.1 96), .int i1] M (f_X10_bearsOf i1, M) := m_ofi (by decide +kernel) (Nat.le_of_ble_eq_true rfl) rfl (fun p e s m args below meth c hs => w_X10_bearsOf hs i1 rfl)
set_option maxRecDepth 100000 in
set_option maxHeartbeats 4000000 in
theorem w_X10_costOf {l : Launch} {X : mX} {p : Program} {e : Env} {s : State} {m : MethodId} {args : Array Value} {below : List Frame} {meth : Method} {c : Code} {M : mM} {r : Int32} (hs : mS X RX10 cX10_costOf 2 (some .int) p s m meth c) : ∀ (i1 : Int32), f_X10_costOf i1 = r → mG X p l e (rmF 0 0) s m args below meth c (MQ below (mQi X M r) args s 0 0 (mL X)) 2 0 [(0, .ref (X.1 96)), (1, .int i1)] [] M := by
  obtain ⟨hx, hb, hml, hown, hF, hlk, hr⟩ := id hs
  intro i1 h H locs ls hR hS hl
  refine lv_iload_n hx hb dX10_costOf_0 rfl (lv_at hl 1 rfl) ?_
  refine lv_if_ne (tgt := 8) hx hb dX10_costOf_1 (by decide) (fun c1 => ?_) (fun c1 => ?_)
  · have h := mif_n h c1
    refine lv_iload_n hx hb dX10_costOf_8 rfl (lv_at hl 1 rfl) ?_
    refine lv_iconst (v := 1) hx hb dX10_costOf_9 (by decide) ?_
    refine lv_icmp_ne (tgt := 17) hx hb dX10_costOf_10 (by decide) (fun c10 => ?_) (fun c10 => ?_)
    · have h := mif_n h c10
      refine lv_iconst (v := 1) hx hb dX10_costOf_17 (by decide) ?_
      exact m_ir hx hb hlk hr hR hS (congrArg (fun z => (z, M)) h.symm) dX10_costOf_18
    · have h := mif_y h c10
      refine lv_iconst (v := 4) hx hb dX10_costOf_13 (by decide) ?_
      refine lv_goto (tgt := 18) hx hb dX10_costOf_14 (by decide) ?_
      exact m_ir hx hb hlk hr hR hS (congrArg (fun z => (z, M)) h.symm) dX10_costOf_18
  · have h := mif_y h c1
    refine lv_iconst (v := 3) hx hb dX10_costOf_4 (by decide) ?_
    refine lv_goto (tgt := 18) hx hb dX10_costOf_5 (by decide) ?_
    exact m_ir hx hb hlk hr hR hS (congrArg (fun z => (z, M)) h.symm) dX10_costOf_18
theorem c_X10_costOf (l : Launch) (X : mX) (i1 : Int32) (M : mM) : mMi l yX10_costOf cX10_costOf 2 (some .int) 0 0 X [.ref (X.1 96), .int i1] M (f_X10_costOf i1, M) := m_ofi (by decide +kernel) (Nat.le_of_ble_eq_true rfl) rfl (fun p e s m args below meth c hs => w_X10_costOf hs i1 rfl)
set_option maxRecDepth 100000 in
set_option maxHeartbeats 4000000 in
theorem w_X10_bitAt {l : Launch} {X : mX} {p : Program} {e : Env} {s : State} {m : MethodId} {args : Array Value} {below : List Frame} {meth : Method} {c : Code} {M : mM} {r : Int32} (hs : mS X RX10 cX10_bitAt 3 (some .int) p s m meth c) : ∀ (i1 : Int32) (i2 : Int32), f_X10_bitAt i1 i2 M = some r → mG X p l e (rmF 3 67) s m args below meth c (MQ below (mQi X M r) args s 0 0 (mL X)) 3 0 [(0, .ref (X.1 96)), (1, .int i1), (2, .int i2)] [] M := by
  obtain ⟨hx, hb, hml, hown, hF, hlk, hr⟩ := id hs
  intro i1 i2 h H locs ls hR hS hl
  refine lv_aload_n hx hb dX10_bitAt_0 rfl (lv_at hl 0 rfl) ?_
  refine lv_iload_n hx hb dX10_bitAt_1 rfl (lv_at hl 1 rfl) ?_
  refine lv_iload_n hx hb dX10_bitAt_2 rfl (lv_at hl 2 rfl) ?_
  obtain ⟨v3, q3, h⟩ := mbp_e h
  refine m_ci (m_rV hx hb hml hown hF hR hS (ent9 kd_96) kd_96 rfl (c_X10_cubeAt l X i1 i2 M q3) q_X10_133_V hdV_X10_cubeAt ⟨Nat.le_of_ble_eq_true rfl, Nat.le_of_ble_eq_true rfl⟩ rfl hl.1 rfl (Nat.le_of_ble_eq_true rfl) dX10_bitAt_3) hS (fun H locs hR hS => ?_)
  refine lv_if_ge (tgt := 13) hx hb dX10_bitAt_6 (by decide) (fun c6 => ?_) (fun c6 => ?_)
  · have h := mif_y h c6
    refine lv_iconst (v := 1) hx hb dX10_bitAt_13 (by decide) ?_
    refine lv_aload_n hx hb dX10_bitAt_14 rfl (lv_at hl 0 rfl) ?_
    refine lv_iload_n hx hb dX10_bitAt_15 rfl (lv_at hl 1 rfl) ?_
    refine lv_iload_n hx hb dX10_bitAt_16 rfl (lv_at hl 2 rfl) ?_
    obtain ⟨v17, q17, h⟩ := mbp_e h
    refine m_ci (m_rV hx hb hml hown hF hR hS (ent9 kd_96) kd_96 rfl (c_X10_cubeAt l X i1 i2 M q17) q_X10_133_V hdV_X10_cubeAt ⟨Nat.le_of_ble_eq_true rfl, Nat.le_of_ble_eq_true rfl⟩ rfl hl.1 rfl (Nat.le_of_ble_eq_true rfl) dX10_bitAt_17) hS (fun H locs hR hS => ?_)
    refine lv_ishl hx hb dX10_bitAt_20 ?_
    exact m_ir hx hb hlk hr hR hS (congrArg (fun z => (z, M)) (Option.some.inj h).symm) dX10_bitAt_21
  · have h := mif_n h c6
    refine lv_iconst (v := 0) hx hb dX10_bitAt_9 (by decide) ?_
    refine lv_goto (tgt := 21) hx hb dX10_bitAt_10 (by decide) ?_
    exact m_ir hx hb hlk hr hR hS (congrArg (fun z => (z, M)) (Option.some.inj h).symm) dX10_bitAt_21
theorem c_X10_bitAt (l : Launch) (X : mX) (i1 : Int32) (i2 : Int32) (M : mM) {r : Int32} (h : f_X10_bitAt i1 i2 M = some r) : mMi l yX10_bitAt cX10_bitAt 3 (some .int) 3 67 X [.ref (X.1 96), .int i1, .int i2] M (r, M) := m_ofi (by decide +kernel) (Nat.le_of_ble_eq_true rfl) rfl (fun p e s m args below meth c hs => w_X10_bitAt hs i1 i2 h)
set_option maxRecDepth 100000 in
set_option maxHeartbeats 4000000 in
theorem w_X10_besides {l : Launch} {X : mX} {p : Program} {e : Env} {s : State} {m : MethodId} {args : Array Value} {below : List Frame} {meth : Method} {c : Code} {M : mM} {r : Int32} (hs : mS X RX10 cX10_besides 2 (some .int) p s m meth c) : ∀ (i1 : Int32), f_X10_besides i1 M = some r → mG X p l e (rmF 4 89) s m args below meth c (MQ below (mQi X M r) args s 0 0 (mL X)) 2 0 [(0, .ref (X.1 96)), (1, .int i1)] [] M := by
  obtain ⟨hx, hb, hml, hown, hF, hlk, hr⟩ := id hs
  intro i1 h H locs ls hR hS hl
  refine lv_aload_n hx hb dX10_besides_0 rfl (lv_at hl 0 rfl) ?_
  refine lv_aload_n hx hb dX10_besides_1 rfl (lv_at hl 0 rfl) ?_
  refine m_g9_1 hx hb hF hown hR kd_96 mw_5_138 dX10_besides_2 ?_
  refine lv_bipush (v := 26) hx hb dX10_besides_5 (by decide) ?_
  refine lv_iload_n hx hb dX10_besides_7 rfl (lv_at hl 1 rfl) ?_
  refine lv_iadd hx hb dX10_besides_8 ?_
  obtain ⟨g9, h⟩ := mgd_e h
  refine m_ialdL hx hb hR kd_97 g9 (jn := (Int32.toNatClampNeg (26 + i1))) rfl dX10_besides_9 ?_
  refine lv_iconst (v := 1) hx hb dX10_besides_10 (by decide) ?_
  refine lv_iadd hx hb dX10_besides_11 ?_
  refine lv_aload_n hx hb dX10_besides_12 rfl (lv_at hl 0 rfl) ?_
  refine m_g9_1 hx hb hF hown hR kd_96 mw_5_138 dX10_besides_13 ?_
  refine lv_bipush (v := 42) hx hb dX10_besides_16 (by decide) ?_
  refine lv_iload_n hx hb dX10_besides_18 rfl (lv_at hl 1 rfl) ?_
  refine lv_iadd hx hb dX10_besides_19 ?_
  obtain ⟨g20, h⟩ := mgd_e h
  refine m_ialdL hx hb hR kd_97 g20 (jn := (Int32.toNatClampNeg (42 + i1))) rfl dX10_besides_20 ?_
  obtain ⟨v21, q21, h⟩ := mbp_e h
  refine m_ci (m_rV hx hb hml hown hF hR hS (ent9 kd_96) kd_96 rfl (c_X10_bitAt l X ((M.1 97 (Int32.toNatClampNeg (26 + i1))) + 1) (M.1 97 (Int32.toNatClampNeg (42 + i1))) M q21) q_X10_137_V hdV_X10_bitAt ⟨Nat.le_of_ble_eq_true rfl, Nat.le_of_ble_eq_true rfl⟩ rfl hl.1 rfl (Nat.le_of_ble_eq_true rfl) dX10_besides_21) hS (fun H locs hR hS => ?_)
  refine lv_aload_n hx hb dX10_besides_24 rfl (lv_at hl 0 rfl) ?_
  refine lv_aload_n hx hb dX10_besides_25 rfl (lv_at hl 0 rfl) ?_
  refine m_g9_1 hx hb hF hown hR kd_96 mw_5_138 dX10_besides_26 ?_
  refine lv_bipush (v := 26) hx hb dX10_besides_29 (by decide) ?_
  refine lv_iload_n hx hb dX10_besides_31 rfl (lv_at hl 1 rfl) ?_
  refine lv_iadd hx hb dX10_besides_32 ?_
  obtain ⟨g33, h⟩ := mgd_e h
  refine m_ialdL hx hb hR kd_97 g33 (jn := (Int32.toNatClampNeg (26 + i1))) rfl dX10_besides_33 ?_
  refine lv_aload_n hx hb dX10_besides_34 rfl (lv_at hl 0 rfl) ?_
  refine m_g9_1 hx hb hF hown hR kd_96 mw_5_138 dX10_besides_35 ?_
  refine lv_bipush (v := 42) hx hb dX10_besides_38 (by decide) ?_
  refine lv_iload_n hx hb dX10_besides_40 rfl (lv_at hl 1 rfl) ?_
  refine lv_iadd hx hb dX10_besides_41 ?_
  obtain ⟨g42, h⟩ := mgd_e h
  refine m_ialdL hx hb hR kd_97 g42 (jn := (Int32.toNatClampNeg (42 + i1))) rfl dX10_besides_42 ?_
  refine lv_iconst (v := 1) hx hb dX10_besides_43 (by decide) ?_
  refine lv_iadd hx hb dX10_besides_44 ?_
  obtain ⟨v45, q45, h⟩ := mbp_e h
  refine m_ci (m_rV hx hb hml hown hF hR hS (ent9 kd_96) kd_96 rfl (c_X10_bitAt l X (M.1 97 (Int32.toNatClampNeg (26 + i1))) ((M.1 97 (Int32.toNatClampNeg (42 + i1))) + 1) M q45) q_X10_137_V hdV_X10_bitAt ⟨Nat.le_of_ble_eq_true rfl, Nat.le_of_ble_eq_true rfl⟩ rfl hl.1 rfl (Nat.le_of_ble_eq_true rfl) dX10_besides_45) hS (fun H locs hR hS => ?_)
  refine lv_ior hx hb dX10_besides_48 ?_
  refine lv_aload_n hx hb dX10_besides_49 rfl (lv_at hl 0 rfl) ?_
  refine lv_aload_n hx hb dX10_besides_50 rfl (lv_at hl 0 rfl) ?_
  refine m_g9_1 hx hb hF hown hR kd_96 mw_5_138 dX10_besides_51 ?_
  refine lv_bipush (v := 26) hx hb dX10_besides_54 (by decide) ?_
  refine lv_iload_n hx hb dX10_besides_56 rfl (lv_at hl 1 rfl) ?_
  refine lv_iadd hx hb dX10_besides_57 ?_
  obtain ⟨g58, h⟩ := mgd_e h
  refine m_ialdL hx hb hR kd_97 g58 (jn := (Int32.toNatClampNeg (26 + i1))) rfl dX10_besides_58 ?_
  refine lv_iconst (v := 1) hx hb dX10_besides_59 (by decide) ?_
  refine lv_isub hx hb dX10_besides_60 ?_
  refine lv_aload_n hx hb dX10_besides_61 rfl (lv_at hl 0 rfl) ?_
  refine m_g9_1 hx hb hF hown hR kd_96 mw_5_138 dX10_besides_62 ?_
  refine lv_bipush (v := 42) hx hb dX10_besides_65 (by decide) ?_
  refine lv_iload_n hx hb dX10_besides_67 rfl (lv_at hl 1 rfl) ?_
  refine lv_iadd hx hb dX10_besides_68 ?_
  obtain ⟨g69, h⟩ := mgd_e h
  refine m_ialdL hx hb hR kd_97 g69 (jn := (Int32.toNatClampNeg (42 + i1))) rfl dX10_besides_69 ?_
  obtain ⟨v70, q70, h⟩ := mbp_e h
  refine m_ci (m_rV hx hb hml hown hF hR hS (ent9 kd_96) kd_96 rfl (c_X10_bitAt l X ((M.1 97 (Int32.toNatClampNeg (26 + i1))) - 1) (M.1 97 (Int32.toNatClampNeg (42 + i1))) M q70) q_X10_137_V hdV_X10_bitAt ⟨Nat.le_of_ble_eq_true rfl, Nat.le_of_ble_eq_true rfl⟩ rfl hl.1 rfl (Nat.le_of_ble_eq_true rfl) dX10_besides_70) hS (fun H locs hR hS => ?_)
  refine lv_ior hx hb dX10_besides_73 ?_
  refine lv_aload_n hx hb dX10_besides_74 rfl (lv_at hl 0 rfl) ?_
  refine lv_aload_n hx hb dX10_besides_75 rfl (lv_at hl 0 rfl) ?_
  refine m_g9_1 hx hb hF hown hR kd_96 mw_5_138 dX10_besides_76 ?_
  refine lv_bipush (v := 26) hx hb dX10_besides_79 (by decide) ?_
  refine lv_iload_n hx hb dX10_besides_81 rfl (lv_at hl 1 rfl) ?_
  refine lv_iadd hx hb dX10_besides_82 ?_
  obtain ⟨g83, h⟩ := mgd_e h
  refine m_ialdL hx hb hR kd_97 g83 (jn := (Int32.toNatClampNeg (26 + i1))) rfl dX10_besides_83 ?_
  refine lv_aload_n hx hb dX10_besides_84 rfl (lv_at hl 0 rfl) ?_
  refine m_g9_1 hx hb hF hown hR kd_96 mw_5_138 dX10_besides_85 ?_
  refine lv_bipush (v := 42) hx hb dX10_besides_88 (by decide) ?_
  refine lv_iload_n hx hb dX10_besides_90 rfl (lv_at hl 1 rfl) ?_
  refine lv_iadd hx hb dX10_besides_91 ?_
  obtain ⟨g92, h⟩ := mgd_e h
  refine m_ialdL hx hb hR kd_97 g92 (jn := (Int32.toNatClampNeg (42 + i1))) rfl dX10_besides_92 ?_
  refine lv_iconst (v := 1) hx hb dX10_besides_93 (by decide) ?_
  refine lv_isub hx hb dX10_besides_94 ?_
  obtain ⟨v95, q95, h⟩ := mbp_e h
  refine m_ci (m_rV hx hb hml hown hF hR hS (ent9 kd_96) kd_96 rfl (c_X10_bitAt l X (M.1 97 (Int32.toNatClampNeg (26 + i1))) ((M.1 97 (Int32.toNatClampNeg (42 + i1))) - 1) M q95) q_X10_137_V hdV_X10_bitAt ⟨Nat.le_of_ble_eq_true rfl, Nat.le_of_ble_eq_true rfl⟩ rfl hl.1 rfl (Nat.le_of_ble_eq_true rfl) dX10_besides_95) hS (fun H locs hR hS => ?_)
  refine lv_ior hx hb dX10_besides_98 ?_
  exact m_ir hx hb hlk hr hR hS (congrArg (fun z => (z, M)) (Option.some.inj h).symm) dX10_besides_99
theorem c_X10_besides (l : Launch) (X : mX) (i1 : Int32) (M : mM) {r : Int32} (h : f_X10_besides i1 M = some r) : mMi l yX10_besides cX10_besides 2 (some .int) 4 89 X [.ref (X.1 96), .int i1] M (r, M) := m_ofi (by decide +kernel) (Nat.le_of_ble_eq_true rfl) rfl (fun p e s m args below meth c hs => w_X10_besides hs i1 h)
set_option maxRecDepth 100000 in
set_option maxHeartbeats 4000000 in
theorem w_X10_isWhole_b93 {l : Launch} {X : mX} {p : Program} {e : Env} {s : State} {m : MethodId} {args : Array Value} {below : List Frame} {meth : Method} {c : Code} {M : mM} {r : Int32} (hs : mS X RX10 cX10_isWhole 6 (some .boolean) p s m meth c) : ∀ n : Nat, ∀ (i1 : Int32) (i2 : Int32) (i3 : Int32) (i5 : Int32), f_X10_isWhole_b93 n i1 i2 i3 i5 M = some r → mG X p l e (rmF 5 110) s m args below meth c (MQ below (mQi X M r) args s 0 0 (mL X)) 6 93 [(0, .ref (X.1 96)), (1, .int i1), (2, .int i2), (3, .int i3), (5, .int i5)] [] M := by
  obtain ⟨hx, hb, hml, hown, hF, hlk, hr⟩ := id hs
  intro n
  induction n with
  | zero =>
    intro i1 i2 i3 i5 h
    have h0 : (none : Option (Int32)) = some r := h
    cases h0
  | succ n ih =>
    intro i1 i2 i3 i5 h H locs ls hR hS hl
    refine lv_iload hx hb dX10_isWhole_93 (lv_at hl 4 rfl) ?_
    refine lv_aload_n hx hb dX10_isWhole_95 rfl (lv_at hl 0 rfl) ?_
    refine m_g9_1 hx hb hF hown hR kd_96 mw_5_138 dX10_isWhole_96 ?_
    refine lv_iconst (v := 0) hx hb dX10_isWhole_99 (by decide) ?_
    refine m_ialdL hx hb hR kd_97 (show mIn 0 1834 from by decide) (jn := 0) (by decide) dX10_isWhole_100 ?_
    refine lv_icmp_ge (tgt := 136) hx hb dX10_isWhole_101 (by decide) (fun c101 => ?_) (fun c101 => ?_)
    · have h := mif_y h c101
      refine lv_iload_n hx hb dX10_isWhole_136 rfl (lv_at hl 2 rfl) ?_
      refine lv_iload_n hx hb dX10_isWhole_137 rfl (lv_at hl 1 rfl) ?_
      refine lv_icmp_ne (tgt := 149) hx hb dX10_isWhole_138 (by decide) (fun c138 => ?_) (fun c138 => ?_)
      · have h := mif_n h c138
        refine lv_iconst (v := 0) hx hb dX10_isWhole_149 (by decide) ?_
        exact m_zr hx hb hlk hr hR hS (Or.inl rfl) (congrArg (fun z => (z, M)) (Option.some.inj h).symm) dX10_isWhole_150
      · have h := mif_y h c138
        refine lv_iload_n hx hb dX10_isWhole_141 rfl (lv_at hl 3 rfl) ?_
        refine lv_if_le (tgt := 149) hx hb dX10_isWhole_142 (by decide) (fun c142 => ?_) (fun c142 => ?_)
        · have h := mif_y h c142
          refine lv_iconst (v := 0) hx hb dX10_isWhole_149 (by decide) ?_
          exact m_zr hx hb hlk hr hR hS (Or.inl rfl) (congrArg (fun z => (z, M)) (Option.some.inj h).symm) dX10_isWhole_150
        · have h := mif_n h c142
          refine lv_iconst (v := 1) hx hb dX10_isWhole_145 (by decide) ?_
          refine lv_goto (tgt := 150) hx hb dX10_isWhole_146 (by decide) ?_
          exact m_zr hx hb hlk hr hR hS (Or.inr rfl) (congrArg (fun z => (z, M)) (Option.some.inj h).symm) dX10_isWhole_150
    · have h := mif_n h c101
      refine lv_iload_n hx hb dX10_isWhole_104 rfl (lv_at hl 1 rfl) ?_
      refine lv_iload hx hb dX10_isWhole_105 (lv_at hl 4 rfl) ?_
      refine lv_ishr hx hb dX10_isWhole_107 ?_
      refine lv_iconst (v := 1) hx hb dX10_isWhole_108 (by decide) ?_
      refine lv_iand hx hb dX10_isWhole_109 ?_
      refine lv_iconst (v := 1) hx hb dX10_isWhole_110 (by decide) ?_
      refine lv_icmp_ne (tgt := 130) hx hb dX10_isWhole_111 (by decide) (fun c111 => ?_) (fun c111 => ?_)
      · have h := mif_n h c111
        obtain ⟨x130, ex130⟩ : ∃ y : Int32, y = (i5 + 1) := ⟨_, rfl⟩
        have h := mlt_n h x130 ex130
        refine lv_iinc (v := x130) (lv' := [(5, .int x130), (0, .ref (X.1 96)), (1, .int i1), (2, .int i2), (3, .int i3)]) hx hb dX10_isWhole_130 hl (k := 4) rfl (by rw [ex130]; rfl) (by decide) rfl (fun ls hl => ?_)
        refine lv_goto (tgt := 93) hx hb dX10_isWhole_133 (by decide) ?_
        exact ih i1 i2 i3 x130 h H locs ls hR hS (lv_sub hl [1, 2, 3, 4, 0] rfl)
      · have h := mif_y h c111
        refine lv_aload_n hx hb dX10_isWhole_114 rfl (lv_at hl 0 rfl) ?_
        refine m_g9_1 hx hb hF hown hR kd_96 mw_5_138 dX10_isWhole_115 ?_
        refine lv_bipush (v := 42) hx hb dX10_isWhole_118 (by decide) ?_
        refine lv_iload hx hb dX10_isWhole_120 (lv_at hl 4 rfl) ?_
        refine lv_iadd hx hb dX10_isWhole_122 ?_
        obtain ⟨g123, h⟩ := mgd_e h
        refine m_ialdL hx hb hR kd_97 g123 (jn := (Int32.toNatClampNeg (42 + i5))) rfl dX10_isWhole_123 ?_
        refine lv_if_ne (tgt := 130) hx hb dX10_isWhole_124 (by decide) (fun c124 => ?_) (fun c124 => ?_)
        · have h := mif_n h c124
          obtain ⟨x130, ex130⟩ : ∃ y : Int32, y = (i5 + 1) := ⟨_, rfl⟩
          have h := mlt_n h x130 ex130
          refine lv_iinc (v := x130) (lv' := [(5, .int x130), (0, .ref (X.1 96)), (1, .int i1), (2, .int i2), (3, .int i3)]) hx hb dX10_isWhole_130 hl (k := 4) rfl (by rw [ex130]; rfl) (by decide) rfl (fun ls hl => ?_)
          refine lv_goto (tgt := 93) hx hb dX10_isWhole_133 (by decide) ?_
          exact ih i1 i2 i3 x130 h H locs ls hR hS (lv_sub hl [1, 2, 3, 4, 0] rfl)
        · have h := mif_y h c124
          obtain ⟨x127, ex127⟩ : ∃ y : Int32, y = (i3 + 1) := ⟨_, rfl⟩
          have h := mlt_n h x127 ex127
          refine lv_iinc (v := x127) (lv' := [(3, .int x127), (0, .ref (X.1 96)), (1, .int i1), (2, .int i2), (5, .int i5)]) hx hb dX10_isWhole_127 hl (k := 3) rfl (by rw [ex127]; rfl) (by decide) rfl (fun ls hl => ?_)
          obtain ⟨x130, ex130⟩ : ∃ y : Int32, y = (i5 + 1) := ⟨_, rfl⟩
          have h := mlt_n h x130 ex130
          refine lv_iinc (v := x130) (lv' := [(5, .int x130), (3, .int x127), (0, .ref (X.1 96)), (1, .int i1), (2, .int i2)]) hx hb dX10_isWhole_130 hl (k := 4) rfl (by rw [ex130]; rfl) (by decide) rfl (fun ls hl => ?_)
          refine lv_goto (tgt := 93) hx hb dX10_isWhole_133 (by decide) ?_
          exact ih i1 i2 x127 x130 h H locs ls hR hS (lv_sub hl [2, 3, 4, 1, 0] rfl)
set_option maxRecDepth 100000 in
set_option maxHeartbeats 4000000 in
theorem w_X10_isWhole_b27 {l : Launch} {X : mX} {p : Program} {e : Env} {s : State} {m : MethodId} {args : Array Value} {below : List Frame} {meth : Method} {c : Code} {M : mM} {r : Int32} (hs : mS X RX10 cX10_isWhole 6 (some .boolean) p s m meth c) (k16 : Int32 → Int32 → Int32 → Int32 → mM → Option Int32) (hk16 : ∀ (i1 : Int32) (i2 : Int32) (i3 : Int32) (i4 : Int32), k16 i1 i2 i3 i4 M = some r → mG X p l e (rmF 5 110) s m args below meth c (MQ below (mQi X M r) args s 0 0 (mL X)) 6 16 [(0, .ref (X.1 96)), (1, .int i1), (2, .int i2), (3, .int i3), (4, .int i4)] [] M) : ∀ n : Nat, ∀ (i1 : Int32) (i2 : Int32) (i3 : Int32) (i4 : Int32) (i5 : Int32), f_X10_isWhole_b27 k16 n i1 i2 i3 i4 i5 M = some r → mG X p l e (rmF 5 110) s m args below meth c (MQ below (mQi X M r) args s 0 0 (mL X)) 6 27 [(0, .ref (X.1 96)), (1, .int i1), (2, .int i2), (3, .int i3), (4, .int i4), (5, .int i5)] [] M := by
  obtain ⟨hx, hb, hml, hown, hF, hlk, hr⟩ := id hs
  intro n
  induction n with
  | zero =>
    intro i1 i2 i3 i4 i5 h
    have h0 : (none : Option (Int32)) = some r := h
    cases h0
  | succ n ih =>
    intro i1 i2 i3 i4 i5 h H locs ls hR hS hl
    refine lv_iload hx hb dX10_isWhole_27 (lv_at hl 5 rfl) ?_
    refine lv_aload_n hx hb dX10_isWhole_29 rfl (lv_at hl 0 rfl) ?_
    refine m_g9_1 hx hb hF hown hR kd_96 mw_5_138 dX10_isWhole_30 ?_
    refine lv_iconst (v := 0) hx hb dX10_isWhole_33 (by decide) ?_
    refine m_ialdL hx hb hR kd_97 (show mIn 0 1834 from by decide) (jn := 0) (by decide) dX10_isWhole_34 ?_
    refine lv_icmp_ge (tgt := 87) hx hb dX10_isWhole_35 (by decide) (fun c35 => ?_) (fun c35 => ?_)
    · have h := mif_y h c35
      refine lv_goto (tgt := 16) hx hb dX10_isWhole_87 (by decide) ?_
      exact hk16 i1 i2 i3 i4 h H locs ls hR hS (lv_sub hl [0, 1, 2, 3, 4] rfl)
    · have h := mif_n h c35
      refine lv_iload_n hx hb dX10_isWhole_38 rfl (lv_at hl 1 rfl) ?_
      refine lv_iload hx hb dX10_isWhole_39 (lv_at hl 5 rfl) ?_
      refine lv_ishr hx hb dX10_isWhole_41 ?_
      refine lv_iconst (v := 1) hx hb dX10_isWhole_42 (by decide) ?_
      refine lv_iand hx hb dX10_isWhole_43 ?_
      refine lv_if_eq (tgt := 81) hx hb dX10_isWhole_44 (by decide) (fun c44 => ?_) (fun c44 => ?_)
      · have h := mif_y h c44
        obtain ⟨x81, ex81⟩ : ∃ y : Int32, y = (i5 + 1) := ⟨_, rfl⟩
        have h := mlt_n h x81 ex81
        refine lv_iinc (v := x81) (lv' := [(5, .int x81), (0, .ref (X.1 96)), (1, .int i1), (2, .int i2), (3, .int i3), (4, .int i4)]) hx hb dX10_isWhole_81 hl (k := 5) rfl (by rw [ex81]; rfl) (by decide) rfl (fun ls hl => ?_)
        refine lv_goto (tgt := 27) hx hb dX10_isWhole_84 (by decide) ?_
        exact ih i1 i2 i3 i4 x81 h H locs ls hR hS (lv_sub hl [1, 2, 3, 4, 5, 0] rfl)
      · have h := mif_n h c44
        refine lv_iload_n hx hb dX10_isWhole_47 rfl (lv_at hl 2 rfl) ?_
        refine lv_iload hx hb dX10_isWhole_48 (lv_at hl 5 rfl) ?_
        refine lv_ishr hx hb dX10_isWhole_50 ?_
        refine lv_iconst (v := 1) hx hb dX10_isWhole_51 (by decide) ?_
        refine lv_iand hx hb dX10_isWhole_52 ?_
        refine lv_iconst (v := 1) hx hb dX10_isWhole_53 (by decide) ?_
        refine lv_icmp_eq (tgt := 81) hx hb dX10_isWhole_54 (by decide) (fun c54 => ?_) (fun c54 => ?_)
        · have h := mif_y h c54
          obtain ⟨x81, ex81⟩ : ∃ y : Int32, y = (i5 + 1) := ⟨_, rfl⟩
          have h := mlt_n h x81 ex81
          refine lv_iinc (v := x81) (lv' := [(5, .int x81), (0, .ref (X.1 96)), (1, .int i1), (2, .int i2), (3, .int i3), (4, .int i4)]) hx hb dX10_isWhole_81 hl (k := 5) rfl (by rw [ex81]; rfl) (by decide) rfl (fun ls hl => ?_)
          refine lv_goto (tgt := 27) hx hb dX10_isWhole_84 (by decide) ?_
          exact ih i1 i2 i3 i4 x81 h H locs ls hR hS (lv_sub hl [1, 2, 3, 4, 5, 0] rfl)
        · have h := mif_n h c54
          refine lv_aload_n hx hb dX10_isWhole_57 rfl (lv_at hl 0 rfl) ?_
          refine lv_iload hx hb dX10_isWhole_58 (lv_at hl 5 rfl) ?_
          obtain ⟨v60, q60, h⟩ := mbp_e h
          refine m_ci (m_rV hx hb hml hown hF hR hS (ent9 kd_96) kd_96 rfl (c_X10_besides l X i5 M q60) q_X10_129_V hdV_X10_besides ⟨Nat.le_of_ble_eq_true rfl, Nat.le_of_ble_eq_true rfl⟩ rfl hl.1 rfl (Nat.le_of_ble_eq_true rfl) dX10_isWhole_60) hS (fun H locs hR hS => ?_)
          refine lv_iload_n hx hb dX10_isWhole_63 rfl (lv_at hl 2 rfl) ?_
          refine lv_iand hx hb dX10_isWhole_64 ?_
          refine lv_if_ne (tgt := 71) hx hb dX10_isWhole_65 (by decide) (fun c65 => ?_) (fun c65 => ?_)
          · have h := mif_n h c65
            refine lv_iload_n hx hb dX10_isWhole_71 rfl (lv_at hl 2 rfl) ?_
            refine lv_iconst (v := 1) hx hb dX10_isWhole_72 (by decide) ?_
            refine lv_iload hx hb dX10_isWhole_73 (lv_at hl 5 rfl) ?_
            refine lv_ishl hx hb dX10_isWhole_75 ?_
            refine lv_ior hx hb dX10_isWhole_76 ?_
            refine lv_topi (fun x77 ex77 => ?_)
            have h := mlt_n h x77 ex77
            refine lv_istore_n (lv' := [(2, .int x77), (0, .ref (X.1 96)), (1, .int i1), (3, .int i3), (4, .int i4), (5, .int i5)]) hx hb dX10_isWhole_77 rfl hl (by decide) rfl (fun ls hl => ?_)
            refine lv_iconst (v := 1) hx hb dX10_isWhole_78 (by decide) ?_
            refine lv_istore (lv' := [(4, .int 1), (2, .int x77), (0, .ref (X.1 96)), (1, .int i1), (3, .int i3), (5, .int i5)]) hx hb dX10_isWhole_79 hl (by decide) rfl (fun ls hl => ?_)
            obtain ⟨x81, ex81⟩ : ∃ y : Int32, y = (i5 + 1) := ⟨_, rfl⟩
            have h := mlt_n h x81 ex81
            refine lv_iinc (v := x81) (lv' := [(5, .int x81), (4, .int 1), (2, .int x77), (0, .ref (X.1 96)), (1, .int i1), (3, .int i3)]) hx hb dX10_isWhole_81 hl (k := 5) rfl (by rw [ex81]; rfl) (by decide) rfl (fun ls hl => ?_)
            refine lv_goto (tgt := 27) hx hb dX10_isWhole_84 (by decide) ?_
            exact ih i1 x77 i3 1 x81 h H locs ls hR hS (lv_sub hl [3, 4, 2, 5, 1, 0] rfl)
          · have h := mif_y h c65
            refine lv_goto (tgt := 81) hx hb dX10_isWhole_68 (by decide) ?_
            obtain ⟨x81, ex81⟩ : ∃ y : Int32, y = (i5 + 1) := ⟨_, rfl⟩
            have h := mlt_n h x81 ex81
            refine lv_iinc (v := x81) (lv' := [(5, .int x81), (0, .ref (X.1 96)), (1, .int i1), (2, .int i2), (3, .int i3), (4, .int i4)]) hx hb dX10_isWhole_81 hl (k := 5) rfl (by rw [ex81]; rfl) (by decide) rfl (fun ls hl => ?_)
            refine lv_goto (tgt := 27) hx hb dX10_isWhole_84 (by decide) ?_
            exact ih i1 i2 i3 i4 x81 h H locs ls hR hS (lv_sub hl [1, 2, 3, 4, 5, 0] rfl)
set_option maxRecDepth 100000 in
set_option maxHeartbeats 4000000 in
theorem w_X10_isWhole_b16 {l : Launch} {X : mX} {p : Program} {e : Env} {s : State} {m : MethodId} {args : Array Value} {below : List Frame} {meth : Method} {c : Code} {M : mM} {r : Int32} (hs : mS X RX10 cX10_isWhole 6 (some .boolean) p s m meth c) : ∀ n : Nat, ∀ (i1 : Int32) (i2 : Int32) (i3 : Int32) (i4 : Int32), f_X10_isWhole_b16 n i1 i2 i3 i4 M = some r → mG X p l e (rmF 5 110) s m args below meth c (MQ below (mQi X M r) args s 0 0 (mL X)) 6 16 [(0, .ref (X.1 96)), (1, .int i1), (2, .int i2), (3, .int i3), (4, .int i4)] [] M := by
  obtain ⟨hx, hb, hml, hown, hF, hlk, hr⟩ := id hs
  intro n
  induction n with
  | zero =>
    intro i1 i2 i3 i4 h
    have h0 : (none : Option (Int32)) = some r := h
    cases h0
  | succ n ih =>
    intro i1 i2 i3 i4 h H locs ls hR hS hl
    refine lv_iload hx hb dX10_isWhole_16 (lv_at hl 4 rfl) ?_
    refine lv_if_eq (tgt := 90) hx hb dX10_isWhole_18 (by decide) (fun c18 => ?_) (fun c18 => ?_)
    · have h := mif_y h c18
      refine lv_iconst (v := 0) hx hb dX10_isWhole_90 (by decide) ?_
      refine lv_istore (lv' := [(5, .int 0), (0, .ref (X.1 96)), (1, .int i1), (2, .int i2), (3, .int i3), (4, .int i4)]) hx hb dX10_isWhole_91 hl (by decide) rfl (fun ls hl => ?_)
      exact w_X10_isWhole_b93 hs mN i1 i2 i3 0 h H locs ls hR hS (lv_sub hl [1, 2, 3, 4, 0] rfl)
    · have h := mif_n h c18
      refine lv_iconst (v := 0) hx hb dX10_isWhole_21 (by decide) ?_
      refine lv_istore (lv' := [(4, .int 0), (0, .ref (X.1 96)), (1, .int i1), (2, .int i2), (3, .int i3)]) hx hb dX10_isWhole_22 hl (by decide) rfl (fun ls hl => ?_)
      refine lv_iconst (v := 0) hx hb dX10_isWhole_24 (by decide) ?_
      refine lv_istore (lv' := [(5, .int 0), (4, .int 0), (0, .ref (X.1 96)), (1, .int i1), (2, .int i2), (3, .int i3)]) hx hb dX10_isWhole_25 hl (by decide) rfl (fun ls hl => ?_)
      exact w_X10_isWhole_b27 hs (f_X10_isWhole_b16 n) ih mN i1 i2 i3 0 0 h H locs ls hR hS (lv_sub hl [2, 3, 4, 5, 1, 0] rfl)
set_option maxRecDepth 100000 in
set_option maxHeartbeats 4000000 in
theorem w_X10_isWhole {l : Launch} {X : mX} {p : Program} {e : Env} {s : State} {m : MethodId} {args : Array Value} {below : List Frame} {meth : Method} {c : Code} {M : mM} {r : Int32} (hs : mS X RX10 cX10_isWhole 6 (some .boolean) p s m meth c) : ∀ (i1 : Int32), f_X10_isWhole i1 M = some r → mG X p l e (rmF 5 110) s m args below meth c (MQ below (mQi X M r) args s 0 0 (mL X)) 6 0 [(0, .ref (X.1 96)), (1, .int i1)] [] M := by
  obtain ⟨hx, hb, hml, hown, hF, hlk, hr⟩ := id hs
  intro i1 h H locs ls hR hS hl
  refine lv_iload_n hx hb dX10_isWhole_0 rfl (lv_at hl 1 rfl) ?_
  refine lv_if_ne (tgt := 6) hx hb dX10_isWhole_1 (by decide) (fun c1 => ?_) (fun c1 => ?_)
  · have h := mif_n h c1
    refine lv_iload_n hx hb dX10_isWhole_6 rfl (lv_at hl 1 rfl) ?_
    refine lv_iload_n hx hb dX10_isWhole_7 rfl (lv_at hl 1 rfl) ?_
    refine lv_ineg hx hb dX10_isWhole_8 ?_
    refine lv_iand hx hb dX10_isWhole_9 ?_
    refine lv_istore_n (lv' := [(2, .int (i1 &&& (-i1))), (0, .ref (X.1 96)), (1, .int i1)]) hx hb dX10_isWhole_10 rfl hl (by decide) rfl (fun ls hl => ?_)
    refine lv_iconst (v := 0) hx hb dX10_isWhole_11 (by decide) ?_
    refine lv_istore_n (lv' := [(3, .int 0), (2, .int (i1 &&& (-i1))), (0, .ref (X.1 96)), (1, .int i1)]) hx hb dX10_isWhole_12 rfl hl (by decide) rfl (fun ls hl => ?_)
    refine lv_iconst (v := 1) hx hb dX10_isWhole_13 (by decide) ?_
    refine lv_istore (lv' := [(4, .int 1), (3, .int 0), (2, .int (i1 &&& (-i1))), (0, .ref (X.1 96)), (1, .int i1)]) hx hb dX10_isWhole_14 hl (by decide) rfl (fun ls hl => ?_)
    exact w_X10_isWhole_b16 hs mN i1 (i1 &&& (-i1)) 0 1 h H locs ls hR hS (lv_sub hl [3, 4, 2, 1, 0] rfl)
  · have h := mif_y h c1
    refine lv_iconst (v := 1) hx hb dX10_isWhole_4 (by decide) ?_
    exact m_zr hx hb hlk hr hR hS (Or.inr rfl) (congrArg (fun z => (z, M)) (Option.some.inj h).symm) dX10_isWhole_5
theorem c_X10_isWhole (l : Launch) (X : mX) (i1 : Int32) (M : mM) {r : Int32} (h : f_X10_isWhole i1 M = some r) : mMi l yX10_isWhole cX10_isWhole 6 (some .boolean) 5 110 X [.ref (X.1 96), .int i1] M (r, M) := m_ofi (by decide +kernel) (Nat.le_of_ble_eq_true rfl) rfl (fun p e s m args below meth c hs => w_X10_isWhole hs i1 h)
set_option maxRecDepth 100000 in
set_option maxHeartbeats 4000000 in
theorem w_X10_everyone {l : Launch} {X : mX} {p : Program} {e : Env} {s : State} {m : MethodId} {args : Array Value} {below : List Frame} {meth : Method} {c : Code} {M : mM} {r : Int32} (hs : mS X RX10 cX10_everyone 1 (some .int) p s m meth c) : f_X10_everyone  M = r → mG X p l e (rmF 0 0) s m args below meth c (MQ below (mQi X M r) args s 0 0 (mL X)) 1 0 [(0, .ref (X.1 96))] [] M := by
  obtain ⟨hx, hb, hml, hown, hF, hlk, hr⟩ := id hs
  intro h H locs ls hR hS hl
  refine lv_iconst (v := 1) hx hb dX10_everyone_0 (by decide) ?_
  refine lv_aload_n hx hb dX10_everyone_1 rfl (lv_at hl 0 rfl) ?_
  refine m_g9_1 hx hb hF hown hR kd_96 mw_5_138 dX10_everyone_2 ?_
  refine lv_iconst (v := 0) hx hb dX10_everyone_5 (by decide) ?_
  refine m_ialdL hx hb hR kd_97 (show mIn 0 1834 from by decide) (jn := 0) (by decide) dX10_everyone_6 ?_
  refine lv_ishl hx hb dX10_everyone_7 ?_
  refine lv_iconst (v := 1) hx hb dX10_everyone_8 (by decide) ?_
  refine lv_isub hx hb dX10_everyone_9 ?_
  exact m_ir hx hb hlk hr hR hS (congrArg (fun z => (z, M)) h.symm) dX10_everyone_10
theorem c_X10_everyone (l : Launch) (X : mX) (M : mM) : mMi l yX10_everyone cX10_everyone 1 (some .int) 0 0 X [.ref (X.1 96)] M (f_X10_everyone M, M) := m_ofi (by decide +kernel) (Nat.le_of_ble_eq_true rfl) rfl (fun p e s m args below meth c hs => w_X10_everyone hs rfl)
set_option maxRecDepth 100000 in
set_option maxHeartbeats 4000000 in
theorem w_X10_cube {l : Launch} {X : mX} {p : Program} {e : Env} {s : State} {m : MethodId} {args : Array Value} {below : List Frame} {meth : Method} {c : Code} {r : Int32 × mM} (hs : mS X RX10 cX10_cube 6 (some .int) p s m meth c) : ∀ (i1 : Int32) (i2 : Int32) (i3 : Int32) (i4 : Int32) (M : mM), f_X10_cube i1 i2 i3 i4 M = some r → mG X p l e (rmF 6 135) s m args below meth c (MQ below (mQi X r.2 r.1) args s 0 0 (mL X)) 6 0 [(0, .ref (X.1 96)), (1, .int i1), (2, .int i2), (3, .int i3), (4, .int i4)] [] M := by
  obtain ⟨hx, hb, hml, hown, hF, hlk, hr⟩ := id hs
  intro i1 i2 i3 i4 M h H locs ls hR hS hl
  refine lv_aload_n hx hb dX10_cube_0 rfl (lv_at hl 0 rfl) ?_
  refine lv_iload_n hx hb dX10_cube_1 rfl (lv_at hl 1 rfl) ?_
  refine lv_iconst (v := 0) hx hb dX10_cube_2 (by decide) ?_
  refine lv_iconst (v := 3) hx hb dX10_cube_3 (by decide) ?_
  refine m_ci (m_rV hx hb hml hown hF hR hS (ent9 kd_96) kd_96 rfl (c_X10_is l X i1 0 3 M) q_X10_121_V hdV_X10_is ⟨Nat.le_of_ble_eq_true rfl, Nat.le_of_ble_eq_true rfl⟩ rfl hl.1 rfl (Nat.le_of_ble_eq_true rfl) dX10_cube_4) hS (fun H locs hR hS => ?_)
  refine lv_if_eq (tgt := 32) hx hb dX10_cube_7 (by decide) (fun c7 => ?_) (fun c7 => ?_)
  · have h := mif_y h c7
    refine lv_iconst (v := (-1)) hx hb dX10_cube_32 (by decide) ?_
    exact m_ir hx hb hlk hr hR hS (Option.some.inj h).symm dX10_cube_33
  · have h := mif_n h c7
    refine lv_aload_n hx hb dX10_cube_10 rfl (lv_at hl 0 rfl) ?_
    refine lv_iload_n hx hb dX10_cube_11 rfl (lv_at hl 2 rfl) ?_
    refine lv_iload_n hx hb dX10_cube_12 rfl (lv_at hl 3 rfl) ?_
    refine m_ci (m_rV hx hb hml hown hF hR hS (ent9 kd_96) kd_96 rfl (c_X10_isCell l X i2 i3 M) q_X10_125_V hdV_X10_isCell ⟨Nat.le_of_ble_eq_true rfl, Nat.le_of_ble_eq_true rfl⟩ rfl hl.1 rfl (Nat.le_of_ble_eq_true rfl) dX10_cube_13) hS (fun H locs hR hS => ?_)
    refine lv_if_eq (tgt := 32) hx hb dX10_cube_16 (by decide) (fun c16 => ?_) (fun c16 => ?_)
    · have h := mif_y h c16
      refine lv_iconst (v := (-1)) hx hb dX10_cube_32 (by decide) ?_
      exact m_ir hx hb hlk hr hR hS (Option.some.inj h).symm dX10_cube_33
    · have h := mif_n h c16
      refine lv_aload_n hx hb dX10_cube_19 rfl (lv_at hl 0 rfl) ?_
      refine lv_iload hx hb dX10_cube_20 (lv_at hl 4 rfl) ?_
      refine lv_iconst (v := 0) hx hb dX10_cube_22 (by decide) ?_
      refine lv_sipush (v := 999) hx hb dX10_cube_23 (by decide) ?_
      refine m_ci (m_rV hx hb hml hown hF hR hS (ent9 kd_96) kd_96 rfl (c_X10_is l X i4 0 999 M) q_X10_121_V hdV_X10_is ⟨Nat.le_of_ble_eq_true rfl, Nat.le_of_ble_eq_true rfl⟩ rfl hl.1 rfl (Nat.le_of_ble_eq_true rfl) dX10_cube_26) hS (fun H locs hR hS => ?_)
      refine lv_if_ne (tgt := 34) hx hb dX10_cube_29 (by decide) (fun c29 => ?_) (fun c29 => ?_)
      · have h := mif_n h c29
        refine lv_aload_n hx hb dX10_cube_34 rfl (lv_at hl 0 rfl) ?_
        refine m_g9_1 hx hb hF hown hR kd_96 mw_5_138 dX10_cube_35 ?_
        refine lv_iconst (v := 0) hx hb dX10_cube_38 (by decide) ?_
        refine m_ialdL hx hb hR kd_97 (show mIn 0 1834 from by decide) (jn := 0) (by decide) dX10_cube_39 ?_
        refine lv_istore (lv' := [(5, .int (M.1 97 0)), (0, .ref (X.1 96)), (1, .int i1), (2, .int i2), (3, .int i3), (4, .int i4)]) hx hb dX10_cube_40 hl (by decide) rfl (fun ls hl => ?_)
        refine lv_iload hx hb dX10_cube_42 (lv_at hl 0 rfl) ?_
        refine lv_bipush (v := 16) hx hb dX10_cube_44 (by decide) ?_
        refine lv_icmp_ne (tgt := 52) hx hb dX10_cube_46 (by decide) (fun c46 => ?_) (fun c46 => ?_)
        · have h := mif_n h c46
          refine lv_aload_n hx hb dX10_cube_52 rfl (lv_at hl 1 rfl) ?_
          refine lv_iload_n hx hb dX10_cube_53 rfl (lv_at hl 3 rfl) ?_
          refine lv_iload_n hx hb dX10_cube_54 rfl (lv_at hl 4 rfl) ?_
          obtain ⟨v55, q55, h⟩ := mbp_e h
          refine m_ci (m_rV hx hb hml hown hF hR hS (ent9 kd_96) kd_96 rfl (c_X10_cubeAt l X i2 i3 M q55) q_X10_133_V hdV_X10_cubeAt ⟨Nat.le_of_ble_eq_true rfl, Nat.le_of_ble_eq_true rfl⟩ rfl hl.1 rfl (Nat.le_of_ble_eq_true rfl) dX10_cube_55) hS (fun H locs hR hS => ?_)
          refine lv_if_lt (tgt := 64) hx hb dX10_cube_58 (by decide) (fun c58 => ?_) (fun c58 => ?_)
          · have h := mif_y h c58
            refine lv_aload_n hx hb dX10_cube_64 rfl (lv_at hl 1 rfl) ?_
            refine m_g9_1 hx hb hF hown hR kd_96 mw_5_138 dX10_cube_65 ?_
            refine lv_bipush (v := 10) hx hb dX10_cube_68 (by decide) ?_
            refine lv_iload hx hb dX10_cube_70 (lv_at hl 0 rfl) ?_
            refine lv_iadd hx hb dX10_cube_72 ?_
            refine lv_iload_n hx hb dX10_cube_73 rfl (lv_at hl 2 rfl) ?_
            obtain ⟨g74, h⟩ := mgd_e h
            obtain ⟨M74, eM74⟩ : ∃ y : mM, y = mI M 97 (Int32.toNatClampNeg (10 + (M.1 97 0))) i1 := ⟨_, rfl⟩
            have h := mlt_n h M74 eM74
            refine m_iastL hx hb hR hS kd_97 g74 (jn := (Int32.toNatClampNeg (10 + (M.1 97 0)))) rfl dX10_cube_74 eM74 (fun H locs hR hS => ?_)
            refine lv_aload_n hx hb dX10_cube_75 rfl (lv_at hl 1 rfl) ?_
            refine m_g9_1 hx hb hF hown hR kd_96 mw_5_138 dX10_cube_76 ?_
            refine lv_bipush (v := 26) hx hb dX10_cube_79 (by decide) ?_
            refine lv_iload hx hb dX10_cube_81 (lv_at hl 0 rfl) ?_
            refine lv_iadd hx hb dX10_cube_83 ?_
            refine lv_iload_n hx hb dX10_cube_84 rfl (lv_at hl 3 rfl) ?_
            obtain ⟨g85, h⟩ := mgd_e h
            obtain ⟨M85, eM85⟩ : ∃ y : mM, y = mI M74 97 (Int32.toNatClampNeg (26 + (M.1 97 0))) i2 := ⟨_, rfl⟩
            have h := mlt_n h M85 eM85
            refine m_iastL hx hb hR hS kd_97 g85 (jn := (Int32.toNatClampNeg (26 + (M.1 97 0)))) rfl dX10_cube_85 eM85 (fun H locs hR hS => ?_)
            refine lv_aload_n hx hb dX10_cube_86 rfl (lv_at hl 1 rfl) ?_
            refine m_g9_1 hx hb hF hown hR kd_96 mw_5_138 dX10_cube_87 ?_
            refine lv_bipush (v := 42) hx hb dX10_cube_90 (by decide) ?_
            refine lv_iload hx hb dX10_cube_92 (lv_at hl 0 rfl) ?_
            refine lv_iadd hx hb dX10_cube_94 ?_
            refine lv_iload_n hx hb dX10_cube_95 rfl (lv_at hl 4 rfl) ?_
            obtain ⟨g96, h⟩ := mgd_e h
            obtain ⟨M96, eM96⟩ : ∃ y : mM, y = mI M85 97 (Int32.toNatClampNeg (42 + (M.1 97 0))) i3 := ⟨_, rfl⟩
            have h := mlt_n h M96 eM96
            refine m_iastL hx hb hR hS kd_97 g96 (jn := (Int32.toNatClampNeg (42 + (M.1 97 0)))) rfl dX10_cube_96 eM96 (fun H locs hR hS => ?_)
            refine lv_aload_n hx hb dX10_cube_97 rfl (lv_at hl 1 rfl) ?_
            refine m_g9_1 hx hb hF hown hR kd_96 mw_5_138 dX10_cube_98 ?_
            refine lv_bipush (v := 58) hx hb dX10_cube_101 (by decide) ?_
            refine lv_iload hx hb dX10_cube_103 (lv_at hl 0 rfl) ?_
            refine lv_iadd hx hb dX10_cube_105 ?_
            refine lv_iload hx hb dX10_cube_106 (lv_at hl 5 rfl) ?_
            obtain ⟨g108, h⟩ := mgd_e h
            obtain ⟨M108, eM108⟩ : ∃ y : mM, y = mI M96 97 (Int32.toNatClampNeg (58 + (M.1 97 0))) i4 := ⟨_, rfl⟩
            have h := mlt_n h M108 eM108
            refine m_iastL hx hb hR hS kd_97 g108 (jn := (Int32.toNatClampNeg (58 + (M.1 97 0)))) rfl dX10_cube_108 eM108 (fun H locs hR hS => ?_)
            refine lv_aload_n hx hb dX10_cube_109 rfl (lv_at hl 1 rfl) ?_
            refine m_g9_1 hx hb hF hown hR kd_96 mw_5_138 dX10_cube_110 ?_
            refine lv_bipush (v := 74) hx hb dX10_cube_113 (by decide) ?_
            refine lv_iload hx hb dX10_cube_115 (lv_at hl 0 rfl) ?_
            refine lv_iadd hx hb dX10_cube_117 ?_
            refine lv_iconst (v := 0) hx hb dX10_cube_118 (by decide) ?_
            obtain ⟨g119, h⟩ := mgd_e h
            obtain ⟨M119, eM119⟩ : ∃ y : mM, y = mI M108 97 (Int32.toNatClampNeg (74 + (M.1 97 0))) 0 := ⟨_, rfl⟩
            have h := mlt_n h M119 eM119
            refine m_iastL hx hb hR hS kd_97 g119 (jn := (Int32.toNatClampNeg (74 + (M.1 97 0)))) rfl dX10_cube_119 eM119 (fun H locs hR hS => ?_)
            refine lv_aload_n hx hb dX10_cube_120 rfl (lv_at hl 1 rfl) ?_
            refine m_g9_1 hx hb hF hown hR kd_96 mw_5_138 dX10_cube_121 ?_
            refine lv_bipush (v := 90) hx hb dX10_cube_124 (by decide) ?_
            refine lv_iload hx hb dX10_cube_126 (lv_at hl 0 rfl) ?_
            refine lv_iadd hx hb dX10_cube_128 ?_
            refine lv_iconst (v := 0) hx hb dX10_cube_129 (by decide) ?_
            obtain ⟨g130, h⟩ := mgd_e h
            obtain ⟨M130, eM130⟩ : ∃ y : mM, y = mI M119 97 (Int32.toNatClampNeg (90 + (M.1 97 0))) 0 := ⟨_, rfl⟩
            have h := mlt_n h M130 eM130
            refine m_iastL hx hb hR hS kd_97 g130 (jn := (Int32.toNatClampNeg (90 + (M.1 97 0)))) rfl dX10_cube_130 eM130 (fun H locs hR hS => ?_)
            refine lv_aload_n hx hb dX10_cube_131 rfl (lv_at hl 1 rfl) ?_
            refine m_g9_1 hx hb hF hown hR kd_96 mw_5_138 dX10_cube_132 ?_
            refine lv_bipush (v := 106) hx hb dX10_cube_135 (by decide) ?_
            refine lv_iload hx hb dX10_cube_137 (lv_at hl 0 rfl) ?_
            refine lv_iadd hx hb dX10_cube_139 ?_
            refine lv_iconst (v := 0) hx hb dX10_cube_140 (by decide) ?_
            obtain ⟨g141, h⟩ := mgd_e h
            obtain ⟨M141, eM141⟩ : ∃ y : mM, y = mI M130 97 (Int32.toNatClampNeg (106 + (M.1 97 0))) 0 := ⟨_, rfl⟩
            have h := mlt_n h M141 eM141
            refine m_iastL hx hb hR hS kd_97 g141 (jn := (Int32.toNatClampNeg (106 + (M.1 97 0)))) rfl dX10_cube_141 eM141 (fun H locs hR hS => ?_)
            refine lv_aload_n hx hb dX10_cube_142 rfl (lv_at hl 1 rfl) ?_
            refine m_g9_1 hx hb hF hown hR kd_96 mw_5_138 dX10_cube_143 ?_
            refine lv_bipush (v := 122) hx hb dX10_cube_146 (by decide) ?_
            refine lv_iload hx hb dX10_cube_148 (lv_at hl 0 rfl) ?_
            refine lv_iadd hx hb dX10_cube_150 ?_
            refine lv_bipush (v := (-4)) hx hb dX10_cube_151 (by decide) ?_
            obtain ⟨g153, h⟩ := mgd_e h
            obtain ⟨M153, eM153⟩ : ∃ y : mM, y = mI M141 97 (Int32.toNatClampNeg (122 + (M.1 97 0))) (-4) := ⟨_, rfl⟩
            have h := mlt_n h M153 eM153
            refine m_iastL hx hb hR hS kd_97 g153 (jn := (Int32.toNatClampNeg (122 + (M.1 97 0)))) rfl dX10_cube_153 eM153 (fun H locs hR hS => ?_)
            refine lv_aload_n hx hb dX10_cube_154 rfl (lv_at hl 1 rfl) ?_
            refine m_g9_1 hx hb hF hown hR kd_96 mw_5_138 dX10_cube_155 ?_
            refine lv_iconst (v := 0) hx hb dX10_cube_158 (by decide) ?_
            refine lv_dup2_11 hx hb dX10_cube_159 rfl rfl ?_
            refine m_ialdL hx hb hR kd_97 (show mIn 0 1834 from by decide) (jn := 0) (by decide) dX10_cube_160 ?_
            refine lv_iconst (v := 1) hx hb dX10_cube_161 (by decide) ?_
            refine lv_iadd hx hb dX10_cube_162 ?_
            obtain ⟨M163, eM163⟩ : ∃ y : mM, y = mI M153 97 0 ((M153.1 97 0) + 1) := ⟨_, rfl⟩
            have h := mlt_n h M163 eM163
            refine m_iastL hx hb hR hS kd_97 (show mIn 0 1834 from by decide) (jn := 0) (by decide) dX10_cube_163 eM163 (fun H locs hR hS => ?_)
            refine lv_aload_n hx hb dX10_cube_164 rfl (lv_at hl 1 rfl) ?_
            refine m_g9_4 hx hb hF hown hR kd_96 mw_5_141 dX10_cube_165 ?_
            refine lv_bipush (v := 8) hx hb dX10_cube_168 (by decide) ?_
            refine lv_iload_n hx hb dX10_cube_170 rfl (lv_at hl 3 rfl) ?_
            refine lv_imul hx hb dX10_cube_171 ?_
            refine lv_iload_n hx hb dX10_cube_172 rfl (lv_at hl 4 rfl) ?_
            refine lv_iadd hx hb dX10_cube_173 ?_
            refine lv_iload hx hb dX10_cube_174 (lv_at hl 0 rfl) ?_
            refine lv_iconst (v := 1) hx hb dX10_cube_176 (by decide) ?_
            refine lv_iadd hx hb dX10_cube_177 ?_
            obtain ⟨g178, h⟩ := mgd_e h
            obtain ⟨M178, eM178⟩ : ∃ y : mM, y = mI M163 99 (Int32.toNatClampNeg ((8 * i2) + i3)) ((M.1 97 0) + 1) := ⟨_, rfl⟩
            have h := mlt_n h M178 eM178
            refine m_iastL hx hb hR hS kd_99 g178 (jn := (Int32.toNatClampNeg ((8 * i2) + i3))) rfl dX10_cube_178 eM178 (fun H locs hR hS => ?_)
            refine lv_aload_n hx hb dX10_cube_179 rfl (lv_at hl 1 rfl) ?_
            refine lv_aload_n hx hb dX10_cube_180 rfl (lv_at hl 1 rfl) ?_
            refine m_ci (m_rV hx hb hml hown hF hR hS (ent9 kd_96) kd_96 rfl (c_X10_everyone l X M178) q_X10_140_V hdV_X10_everyone ⟨Nat.le_of_ble_eq_true rfl, Nat.le_of_ble_eq_true rfl⟩ rfl hl.1 rfl (Nat.le_of_ble_eq_true rfl) dX10_cube_181) hS (fun H locs hR hS => ?_)
            obtain ⟨v184, q184, h⟩ := mbp_e h
            refine m_ci (m_rV hx hb hml hown hF hR hS (ent9 kd_96) kd_96 rfl (c_X10_isWhole l X (f_X10_everyone M178) M178 q184) q_X10_144_V hdV_X10_isWhole ⟨Nat.le_of_ble_eq_true rfl, Nat.le_of_ble_eq_true rfl⟩ rfl hl.1 rfl (Nat.le_of_ble_eq_true rfl) dX10_cube_184) hS (fun H locs hR hS => ?_)
            refine lv_if_eq (tgt := 193) hx hb dX10_cube_187 (by decide) (fun c187 => ?_) (fun c187 => ?_)
            · have h := mif_y h c187
              refine lv_aload_n hx hb dX10_cube_193 rfl (lv_at hl 1 rfl) ?_
              refine m_g9_1 hx hb hF hown hR kd_96 mw_5_138 dX10_cube_194 ?_
              refine lv_iconst (v := 0) hx hb dX10_cube_197 (by decide) ?_
              refine lv_dup2_11 hx hb dX10_cube_198 rfl rfl ?_
              refine m_ialdL hx hb hR kd_97 (show mIn 0 1834 from by decide) (jn := 0) (by decide) dX10_cube_199 ?_
              refine lv_iconst (v := 1) hx hb dX10_cube_200 (by decide) ?_
              refine lv_isub hx hb dX10_cube_201 ?_
              obtain ⟨M202, eM202⟩ : ∃ y : mM, y = mI M178 97 0 ((M178.1 97 0) - 1) := ⟨_, rfl⟩
              have h := mlt_n h M202 eM202
              refine m_iastL hx hb hR hS kd_97 (show mIn 0 1834 from by decide) (jn := 0) (by decide) dX10_cube_202 eM202 (fun H locs hR hS => ?_)
              refine lv_aload_n hx hb dX10_cube_203 rfl (lv_at hl 1 rfl) ?_
              refine m_g9_4 hx hb hF hown hR kd_96 mw_5_141 dX10_cube_204 ?_
              refine lv_bipush (v := 8) hx hb dX10_cube_207 (by decide) ?_
              refine lv_iload_n hx hb dX10_cube_209 rfl (lv_at hl 3 rfl) ?_
              refine lv_imul hx hb dX10_cube_210 ?_
              refine lv_iload_n hx hb dX10_cube_211 rfl (lv_at hl 4 rfl) ?_
              refine lv_iadd hx hb dX10_cube_212 ?_
              refine lv_iconst (v := 0) hx hb dX10_cube_213 (by decide) ?_
              obtain ⟨g214, h⟩ := mgd_e h
              obtain ⟨M214, eM214⟩ : ∃ y : mM, y = mI M202 99 (Int32.toNatClampNeg ((8 * i2) + i3)) 0 := ⟨_, rfl⟩
              have h := mlt_n h M214 eM214
              refine m_iastL hx hb hR hS kd_99 g214 (jn := (Int32.toNatClampNeg ((8 * i2) + i3))) rfl dX10_cube_214 eM214 (fun H locs hR hS => ?_)
              refine lv_bipush (v := (-3)) hx hb dX10_cube_215 (by decide) ?_
              exact m_ir hx hb hlk hr hR hS (Option.some.inj h).symm dX10_cube_217
            · have h := mif_n h c187
              refine lv_iload hx hb dX10_cube_190 (lv_at hl 0 rfl) ?_
              exact m_ir hx hb hlk hr hR hS (Option.some.inj h).symm dX10_cube_192
          · have h := mif_n h c58
            refine lv_bipush (v := (-3)) hx hb dX10_cube_61 (by decide) ?_
            exact m_ir hx hb hlk hr hR hS (Option.some.inj h).symm dX10_cube_63
        · have h := mif_y h c46
          refine lv_bipush (v := (-2)) hx hb dX10_cube_49 (by decide) ?_
          exact m_ir hx hb hlk hr hR hS (Option.some.inj h).symm dX10_cube_51
      · have h := mif_y h c29
        refine lv_iconst (v := (-1)) hx hb dX10_cube_32 (by decide) ?_
        exact m_ir hx hb hlk hr hR hS (Option.some.inj h).symm dX10_cube_33
theorem c_X10_cube (l : Launch) (X : mX) (i1 : Int32) (i2 : Int32) (i3 : Int32) (i4 : Int32) (M : mM) {r : Int32 × mM} (h : f_X10_cube i1 i2 i3 i4 M = some r) : mMi l yX10_cube cX10_cube 6 (some .int) 6 135 X [.ref (X.1 96), .int i1, .int i2, .int i3, .int i4] M r := m_ofi (by decide +kernel) (Nat.le_of_ble_eq_true rfl) rfl (fun p e s m args below meth c hs => w_X10_cube hs i1 i2 i3 i4 M h)
set_option maxRecDepth 100000 in
set_option maxHeartbeats 4000000 in
theorem w_X10_hangs {l : Launch} {X : mX} {p : Program} {e : Env} {s : State} {m : MethodId} {args : Array Value} {below : List Frame} {meth : Method} {c : Code} {M : mM} {r : Int32} (hs : mS X RX10 cX10_hangs 2 (some .boolean) p s m meth c) : ∀ (i1 : Int32), f_X10_hangs i1 M = some r → mG X p l e (rmF 3 67) s m args below meth c (MQ below (mQi X M r) args s 0 0 (mL X)) 2 0 [(0, .ref (X.1 96)), (1, .int i1)] [] M := by
  obtain ⟨hx, hb, hml, hown, hF, hlk, hr⟩ := id hs
  intro i1 h H locs ls hR hS hl
  refine lv_aload_n hx hb dX10_hangs_0 rfl (lv_at hl 0 rfl) ?_
  refine m_g9_1 hx hb hF hown hR kd_96 mw_5_138 dX10_hangs_1 ?_
  refine lv_bipush (v := 42) hx hb dX10_hangs_4 (by decide) ?_
  refine lv_iload_n hx hb dX10_hangs_6 rfl (lv_at hl 1 rfl) ?_
  refine lv_iadd hx hb dX10_hangs_7 ?_
  obtain ⟨g8, h⟩ := mgd_e h
  refine m_ialdL hx hb hR kd_97 g8 (jn := (Int32.toNatClampNeg (42 + i1))) rfl dX10_hangs_8 ?_
  refine lv_if_le (tgt := 43) hx hb dX10_hangs_9 (by decide) (fun c9 => ?_) (fun c9 => ?_)
  · have h := mif_y h c9
    refine lv_iconst (v := 0) hx hb dX10_hangs_43 (by decide) ?_
    exact m_zr hx hb hlk hr hR hS (Or.inl rfl) (congrArg (fun z => (z, M)) (Option.some.inj h).symm) dX10_hangs_44
  · have h := mif_n h c9
    refine lv_aload_n hx hb dX10_hangs_12 rfl (lv_at hl 0 rfl) ?_
    refine lv_aload_n hx hb dX10_hangs_13 rfl (lv_at hl 0 rfl) ?_
    refine m_g9_1 hx hb hF hown hR kd_96 mw_5_138 dX10_hangs_14 ?_
    refine lv_bipush (v := 26) hx hb dX10_hangs_17 (by decide) ?_
    refine lv_iload_n hx hb dX10_hangs_19 rfl (lv_at hl 1 rfl) ?_
    refine lv_iadd hx hb dX10_hangs_20 ?_
    obtain ⟨g21, h⟩ := mgd_e h
    refine m_ialdL hx hb hR kd_97 g21 (jn := (Int32.toNatClampNeg (26 + i1))) rfl dX10_hangs_21 ?_
    refine lv_aload_n hx hb dX10_hangs_22 rfl (lv_at hl 0 rfl) ?_
    refine m_g9_1 hx hb hF hown hR kd_96 mw_5_138 dX10_hangs_23 ?_
    refine lv_bipush (v := 42) hx hb dX10_hangs_26 (by decide) ?_
    refine lv_iload_n hx hb dX10_hangs_28 rfl (lv_at hl 1 rfl) ?_
    refine lv_iadd hx hb dX10_hangs_29 ?_
    obtain ⟨g30, h⟩ := mgd_e h
    refine m_ialdL hx hb hR kd_97 g30 (jn := (Int32.toNatClampNeg (42 + i1))) rfl dX10_hangs_30 ?_
    refine lv_iconst (v := 1) hx hb dX10_hangs_31 (by decide) ?_
    refine lv_isub hx hb dX10_hangs_32 ?_
    obtain ⟨v33, q33, h⟩ := mbp_e h
    refine m_ci (m_rV hx hb hml hown hF hR hS (ent9 kd_96) kd_96 rfl (c_X10_cubeAt l X (M.1 97 (Int32.toNatClampNeg (26 + i1))) ((M.1 97 (Int32.toNatClampNeg (42 + i1))) - 1) M q33) q_X10_133_V hdV_X10_cubeAt ⟨Nat.le_of_ble_eq_true rfl, Nat.le_of_ble_eq_true rfl⟩ rfl hl.1 rfl (Nat.le_of_ble_eq_true rfl) dX10_hangs_33) hS (fun H locs hR hS => ?_)
    refine lv_if_ge (tgt := 43) hx hb dX10_hangs_36 (by decide) (fun c36 => ?_) (fun c36 => ?_)
    · have h := mif_y h c36
      refine lv_iconst (v := 0) hx hb dX10_hangs_43 (by decide) ?_
      exact m_zr hx hb hlk hr hR hS (Or.inl rfl) (congrArg (fun z => (z, M)) (Option.some.inj h).symm) dX10_hangs_44
    · have h := mif_n h c36
      refine lv_iconst (v := 1) hx hb dX10_hangs_39 (by decide) ?_
      refine lv_goto (tgt := 44) hx hb dX10_hangs_40 (by decide) ?_
      exact m_zr hx hb hlk hr hR hS (Or.inr rfl) (congrArg (fun z => (z, M)) (Option.some.inj h).symm) dX10_hangs_44
theorem c_X10_hangs (l : Launch) (X : mX) (i1 : Int32) (M : mM) {r : Int32} (h : f_X10_hangs i1 M = some r) : mMi l yX10_hangs cX10_hangs 2 (some .boolean) 3 67 X [.ref (X.1 96), .int i1] M (r, M) := m_ofi (by decide +kernel) (Nat.le_of_ble_eq_true rfl) rfl (fun p e s m args below meth c hs => w_X10_hangs hs i1 h)
set_option maxRecDepth 100000 in
set_option maxHeartbeats 4000000 in
theorem w_X10_givesOn_b141 {l : Launch} {X : mX} {p : Program} {e : Env} {s : State} {m : MethodId} {args : Array Value} {below : List Frame} {meth : Method} {c : Code} {r : mM} (hs : mS X RX10 cX10_givesOn 8 none p s m meth c) : ∀ (i2 : Int32) (i6 : Int32) (i7 : Int32) (M : mM), f_X10_givesOn_b141 i2 i6 i7 M = some r → mG X p l e (rmF 3 67) s m args below meth c (MQ below (mQv X r) args s 0 0 (mL X)) 8 141 [(0, .ref (X.1 96)), (2, .int i2), (6, .int i6), (7, .int i7)] [] M := by
  obtain ⟨hx, hb, hml, hown, hF, hlk, hr⟩ := id hs
  intro i2 i6 i7 M h H locs ls hR hS hl
  refine lv_iload hx hb dX10_givesOn_141 (lv_at hl 2 rfl) ?_
  refine lv_if_lt (tgt := 160) hx hb dX10_givesOn_143 (by decide) (fun c143 => ?_) (fun c143 => ?_)
  · have h := mif_y h c143
    refine lv_iload hx hb dX10_givesOn_160 (lv_at hl 3 rfl) ?_
    refine lv_if_lt (tgt := 176) hx hb dX10_givesOn_162 (by decide) (fun c162 => ?_) (fun c162 => ?_)
    · have h := mif_y h c162
      exact m_vr hx hb hlk hr hR hS (Option.some.inj h).symm dX10_givesOn_176
    · have h := mif_n h c162
      refine lv_aload_n hx hb dX10_givesOn_165 rfl (lv_at hl 0 rfl) ?_
      refine m_g9_5 hx hb hF hown hR kd_96 mw_5_142 dX10_givesOn_166 ?_
      refine lv_iload hx hb dX10_givesOn_169 (lv_at hl 3 rfl) ?_
      refine lv_dup2_11 hx hb dX10_givesOn_171 rfl rfl ?_
      obtain ⟨g172, h⟩ := mgd_e h
      refine m_ialdL hx hb hR kd_100 g172 (jn := (Int32.toNatClampNeg i7)) rfl dX10_givesOn_172 ?_
      refine lv_iload_n hx hb dX10_givesOn_173 rfl (lv_at hl 1 rfl) ?_
      refine lv_iadd hx hb dX10_givesOn_174 ?_
      obtain ⟨g175, h⟩ := mgd_e h
      obtain ⟨M175, eM175⟩ : ∃ y : mM, y = mI M 100 (Int32.toNatClampNeg i7) ((M.1 100 (Int32.toNatClampNeg i7)) + i2) := ⟨_, rfl⟩
      have h := mlt_n h M175 eM175
      refine m_iastL hx hb hR hS kd_100 g175 (jn := (Int32.toNatClampNeg i7)) rfl dX10_givesOn_175 eM175 (fun H locs hR hS => ?_)
      exact m_vr hx hb hlk hr hR hS (Option.some.inj h).symm dX10_givesOn_176
  · have h := mif_n h c143
    refine lv_aload_n hx hb dX10_givesOn_146 rfl (lv_at hl 0 rfl) ?_
    refine m_g9_5 hx hb hF hown hR kd_96 mw_5_142 dX10_givesOn_147 ?_
    refine lv_iload hx hb dX10_givesOn_150 (lv_at hl 2 rfl) ?_
    refine lv_dup2_11 hx hb dX10_givesOn_152 rfl rfl ?_
    obtain ⟨g153, h⟩ := mgd_e h
    refine m_ialdL hx hb hR kd_100 g153 (jn := (Int32.toNatClampNeg i6)) rfl dX10_givesOn_153 ?_
    refine lv_iload_n hx hb dX10_givesOn_154 rfl (lv_at hl 1 rfl) ?_
    refine lv_iadd hx hb dX10_givesOn_155 ?_
    obtain ⟨g156, h⟩ := mgd_e h
    obtain ⟨M156, eM156⟩ : ∃ y : mM, y = mI M 100 (Int32.toNatClampNeg i6) ((M.1 100 (Int32.toNatClampNeg i6)) + i2) := ⟨_, rfl⟩
    have h := mlt_n h M156 eM156
    refine m_iastL hx hb hR hS kd_100 g156 (jn := (Int32.toNatClampNeg i6)) rfl dX10_givesOn_156 eM156 (fun H locs hR hS => ?_)
    refine lv_goto (tgt := 176) hx hb dX10_givesOn_157 (by decide) ?_
    exact m_vr hx hb hlk hr hR hS (Option.some.inj h).symm dX10_givesOn_176
set_option maxRecDepth 100000 in
set_option maxHeartbeats 4000000 in
theorem w_X10_givesOn {l : Launch} {X : mX} {p : Program} {e : Env} {s : State} {m : MethodId} {args : Array Value} {below : List Frame} {meth : Method} {c : Code} {r : mM} (hs : mS X RX10 cX10_givesOn 8 none p s m meth c) : ∀ (i1 : Int32) (M : mM), f_X10_givesOn i1 M = some r → mG X p l e (rmF 3 67) s m args below meth c (MQ below (mQv X r) args s 0 0 (mL X)) 8 0 [(0, .ref (X.1 96)), (1, .int i1)] [] M := by
  obtain ⟨hx, hb, hml, hown, hF, hlk, hr⟩ := id hs
  intro i1 M h H locs ls hR hS hl
  refine lv_aload_n hx hb dX10_givesOn_0 rfl (lv_at hl 0 rfl) ?_
  refine lv_aload_n hx hb dX10_givesOn_1 rfl (lv_at hl 0 rfl) ?_
  refine m_g9_1 hx hb hF hown hR kd_96 mw_5_138 dX10_givesOn_2 ?_
  refine lv_bipush (v := 10) hx hb dX10_givesOn_5 (by decide) ?_
  refine lv_iload_n hx hb dX10_givesOn_7 rfl (lv_at hl 1 rfl) ?_
  refine lv_iadd hx hb dX10_givesOn_8 ?_
  obtain ⟨g9, h⟩ := mgd_e h
  refine m_ialdL hx hb hR kd_97 g9 (jn := (Int32.toNatClampNeg (10 + i1))) rfl dX10_givesOn_9 ?_
  refine m_ci (m_rV hx hb hml hown hF hR hS (ent9 kd_96) kd_96 rfl (c_X10_weightOf l X (M.1 97 (Int32.toNatClampNeg (10 + i1))) M) q_X10_148_V hdV_X10_weightOf ⟨Nat.le_of_ble_eq_true rfl, Nat.le_of_ble_eq_true rfl⟩ rfl hl.1 rfl (Nat.le_of_ble_eq_true rfl) dX10_givesOn_10) hS (fun H locs hR hS => ?_)
  refine lv_aload_n hx hb dX10_givesOn_13 rfl (lv_at hl 0 rfl) ?_
  refine m_g9_5 hx hb hF hown hR kd_96 mw_5_142 dX10_givesOn_14 ?_
  refine lv_iload_n hx hb dX10_givesOn_17 rfl (lv_at hl 1 rfl) ?_
  obtain ⟨g18, h⟩ := mgd_e h
  refine m_ialdL hx hb hR kd_100 g18 (jn := (Int32.toNatClampNeg i1)) rfl dX10_givesOn_18 ?_
  refine lv_iadd hx hb dX10_givesOn_19 ?_
  refine lv_topi (fun x20 ex20 => ?_)
  have h := mlt_n h x20 ex20
  refine lv_istore_n (lv' := [(2, .int x20), (0, .ref (X.1 96)), (1, .int i1)]) hx hb dX10_givesOn_20 rfl hl (by decide) rfl (fun ls hl => ?_)
  refine lv_aload_n hx hb dX10_givesOn_21 rfl (lv_at hl 1 rfl) ?_
  refine m_g9_1 hx hb hF hown hR kd_96 mw_5_138 dX10_givesOn_22 ?_
  refine lv_bipush (v := 26) hx hb dX10_givesOn_25 (by decide) ?_
  refine lv_iload_n hx hb dX10_givesOn_27 rfl (lv_at hl 2 rfl) ?_
  refine lv_iadd hx hb dX10_givesOn_28 ?_
  obtain ⟨g29, h⟩ := mgd_e h
  refine m_ialdL hx hb hR kd_97 g29 (jn := (Int32.toNatClampNeg (26 + i1))) rfl dX10_givesOn_29 ?_
  refine lv_topi (fun x30 ex30 => ?_)
  have h := mlt_n h x30 ex30
  refine lv_istore_n (lv' := [(3, .int x30), (2, .int x20), (0, .ref (X.1 96)), (1, .int i1)]) hx hb dX10_givesOn_30 rfl hl (by decide) rfl (fun ls hl => ?_)
  refine lv_aload_n hx hb dX10_givesOn_31 rfl (lv_at hl 2 rfl) ?_
  refine m_g9_1 hx hb hF hown hR kd_96 mw_5_138 dX10_givesOn_32 ?_
  refine lv_bipush (v := 42) hx hb dX10_givesOn_35 (by decide) ?_
  refine lv_iload_n hx hb dX10_givesOn_37 rfl (lv_at hl 3 rfl) ?_
  refine lv_iadd hx hb dX10_givesOn_38 ?_
  obtain ⟨g39, h⟩ := mgd_e h
  refine m_ialdL hx hb hR kd_97 g39 (jn := (Int32.toNatClampNeg (42 + i1))) rfl dX10_givesOn_39 ?_
  refine lv_topi (fun x40 ex40 => ?_)
  have h := mlt_n h x40 ex40
  refine lv_istore (lv' := [(4, .int x40), (3, .int x30), (2, .int x20), (0, .ref (X.1 96)), (1, .int i1)]) hx hb dX10_givesOn_40 hl (by decide) rfl (fun ls hl => ?_)
  refine lv_iload hx hb dX10_givesOn_42 (lv_at hl 0 rfl) ?_
  refine lv_if_ne (tgt := 48) hx hb dX10_givesOn_44 (by decide) (fun c44 => ?_) (fun c44 => ?_)
  · have h := mif_n h c44
    refine lv_aload_n hx hb dX10_givesOn_48 rfl (lv_at hl 3 rfl) ?_
    refine lv_iload_n hx hb dX10_givesOn_49 rfl (lv_at hl 1 rfl) ?_
    refine lv_iload hx hb dX10_givesOn_50 (lv_at hl 0 rfl) ?_
    refine lv_iconst (v := 1) hx hb dX10_givesOn_52 (by decide) ?_
    refine lv_isub hx hb dX10_givesOn_53 ?_
    obtain ⟨v54, q54, h⟩ := mbp_e h
    refine m_ci (m_rV hx hb hml hown hF hR hS (ent9 kd_96) kd_96 rfl (c_X10_cubeAt l X x30 (x40 - 1) M q54) q_X10_133_V hdV_X10_cubeAt ⟨Nat.le_of_ble_eq_true rfl, Nat.le_of_ble_eq_true rfl⟩ rfl hl.1 rfl (Nat.le_of_ble_eq_true rfl) dX10_givesOn_54) hS (fun H locs hR hS => ?_)
    refine lv_istore (lv' := [(5, .int v54), (4, .int x40), (3, .int x30), (2, .int x20), (0, .ref (X.1 96)), (1, .int i1)]) hx hb dX10_givesOn_57 hl (by decide) rfl (fun ls hl => ?_)
    refine lv_aload_n hx hb dX10_givesOn_59 rfl (lv_at hl 4 rfl) ?_
    refine lv_iload_n hx hb dX10_givesOn_60 rfl (lv_at hl 2 rfl) ?_
    refine lv_iconst (v := 1) hx hb dX10_givesOn_61 (by decide) ?_
    refine lv_isub hx hb dX10_givesOn_62 ?_
    refine lv_iload hx hb dX10_givesOn_63 (lv_at hl 1 rfl) ?_
    obtain ⟨v65, q65, h⟩ := mbp_e h
    refine m_ci (m_rV hx hb hml hown hF hR hS (ent9 kd_96) kd_96 rfl (c_X10_cubeAt l X (x30 - 1) x40 M q65) q_X10_133_V hdV_X10_cubeAt ⟨Nat.le_of_ble_eq_true rfl, Nat.le_of_ble_eq_true rfl⟩ rfl hl.1 rfl (Nat.le_of_ble_eq_true rfl) dX10_givesOn_65) hS (fun H locs hR hS => ?_)
    refine lv_istore (lv' := [(6, .int v65), (5, .int v54), (4, .int x40), (3, .int x30), (2, .int x20), (0, .ref (X.1 96)), (1, .int i1)]) hx hb dX10_givesOn_68 hl (by decide) rfl (fun ls hl => ?_)
    refine lv_aload_n hx hb dX10_givesOn_70 rfl (lv_at hl 5 rfl) ?_
    refine lv_iload_n hx hb dX10_givesOn_71 rfl (lv_at hl 3 rfl) ?_
    refine lv_iconst (v := 1) hx hb dX10_givesOn_72 (by decide) ?_
    refine lv_iadd hx hb dX10_givesOn_73 ?_
    refine lv_iload hx hb dX10_givesOn_74 (lv_at hl 2 rfl) ?_
    obtain ⟨v76, q76, h⟩ := mbp_e h
    refine m_ci (m_rV hx hb hml hown hF hR hS (ent9 kd_96) kd_96 rfl (c_X10_cubeAt l X (x30 + 1) x40 M q76) q_X10_133_V hdV_X10_cubeAt ⟨Nat.le_of_ble_eq_true rfl, Nat.le_of_ble_eq_true rfl⟩ rfl hl.1 rfl (Nat.le_of_ble_eq_true rfl) dX10_givesOn_76) hS (fun H locs hR hS => ?_)
    refine lv_istore (lv' := [(7, .int v76), (6, .int v65), (5, .int v54), (4, .int x40), (3, .int x30), (2, .int x20), (0, .ref (X.1 96)), (1, .int i1)]) hx hb dX10_givesOn_79 hl (by decide) rfl (fun ls hl => ?_)
    refine lv_iload hx hb dX10_givesOn_81 (lv_at hl 2 rfl) ?_
    refine lv_if_lt (tgt := 100) hx hb dX10_givesOn_83 (by decide) (fun c83 => ?_) (fun c83 => ?_)
    · have h := mif_y h c83
      refine lv_iload hx hb dX10_givesOn_100 (lv_at hl 1 rfl) ?_
      refine lv_if_lt (tgt := 141) hx hb dX10_givesOn_102 (by decide) (fun c102 => ?_) (fun c102 => ?_)
      · have h := mif_y h c102
        exact w_X10_givesOn_b141 hs x20 v65 v76 M h H locs ls hR hS (lv_sub hl [6, 5, 1, 0] rfl)
      · have h := mif_n h c102
        refine lv_iload hx hb dX10_givesOn_105 (lv_at hl 0 rfl) ?_
        refine lv_if_lt (tgt := 141) hx hb dX10_givesOn_107 (by decide) (fun c107 => ?_) (fun c107 => ?_)
        · have h := mif_y h c107
          exact w_X10_givesOn_b141 hs x20 v65 v76 M h H locs ls hR hS (lv_sub hl [6, 5, 1, 0] rfl)
        · have h := mif_n h c107
          refine lv_aload_n hx hb dX10_givesOn_110 rfl (lv_at hl 6 rfl) ?_
          refine m_g9_5 hx hb hF hown hR kd_96 mw_5_142 dX10_givesOn_111 ?_
          refine lv_iload hx hb dX10_givesOn_114 (lv_at hl 0 rfl) ?_
          refine lv_dup2_11 hx hb dX10_givesOn_116 rfl rfl ?_
          obtain ⟨g117, h⟩ := mgd_e h
          refine m_ialdL hx hb hR kd_100 g117 (jn := (Int32.toNatClampNeg v76)) rfl dX10_givesOn_117 ?_
          refine lv_iload_n hx hb dX10_givesOn_118 rfl (lv_at hl 5 rfl) ?_
          refine lv_iconst (v := 2) hx hb dX10_givesOn_119 (by decide) ?_
          refine lv_idiv hx hb dX10_givesOn_120 (by decide) ?_
          refine lv_iadd hx hb dX10_givesOn_121 ?_
          obtain ⟨g122, h⟩ := mgd_e h
          obtain ⟨M122, eM122⟩ : ∃ y : mM, y = mI M 100 (Int32.toNatClampNeg v76) ((M.1 100 (Int32.toNatClampNeg v76)) + (x20 / 2)) := ⟨_, rfl⟩
          have h := mlt_n h M122 eM122
          refine m_iastL hx hb hR hS kd_100 g122 (jn := (Int32.toNatClampNeg v76)) rfl dX10_givesOn_122 eM122 (fun H locs hR hS => ?_)
          refine lv_aload_n hx hb dX10_givesOn_123 rfl (lv_at hl 6 rfl) ?_
          refine m_g9_5 hx hb hF hown hR kd_96 mw_5_142 dX10_givesOn_124 ?_
          refine lv_iload hx hb dX10_givesOn_127 (lv_at hl 1 rfl) ?_
          refine lv_dup2_11 hx hb dX10_givesOn_129 rfl rfl ?_
          obtain ⟨g130, h⟩ := mgd_e h
          refine m_ialdL hx hb hR kd_100 g130 (jn := (Int32.toNatClampNeg v65)) rfl dX10_givesOn_130 ?_
          refine lv_iload_n hx hb dX10_givesOn_131 rfl (lv_at hl 5 rfl) ?_
          refine lv_iload_n hx hb dX10_givesOn_132 rfl (lv_at hl 5 rfl) ?_
          refine lv_iconst (v := 2) hx hb dX10_givesOn_133 (by decide) ?_
          refine lv_idiv hx hb dX10_givesOn_134 (by decide) ?_
          refine lv_isub hx hb dX10_givesOn_135 ?_
          refine lv_iadd hx hb dX10_givesOn_136 ?_
          obtain ⟨g137, h⟩ := mgd_e h
          obtain ⟨M137, eM137⟩ : ∃ y : mM, y = mI M122 100 (Int32.toNatClampNeg v65) ((M122.1 100 (Int32.toNatClampNeg v65)) + (x20 - (x20 / 2))) := ⟨_, rfl⟩
          have h := mlt_n h M137 eM137
          refine m_iastL hx hb hR hS kd_100 g137 (jn := (Int32.toNatClampNeg v65)) rfl dX10_givesOn_137 eM137 (fun H locs hR hS => ?_)
          refine lv_goto (tgt := 176) hx hb dX10_givesOn_138 (by decide) ?_
          exact m_vr hx hb hlk hr hR hS (Option.some.inj h).symm dX10_givesOn_176
    · have h := mif_n h c83
      refine lv_aload_n hx hb dX10_givesOn_86 rfl (lv_at hl 6 rfl) ?_
      refine m_g9_5 hx hb hF hown hR kd_96 mw_5_142 dX10_givesOn_87 ?_
      refine lv_iload hx hb dX10_givesOn_90 (lv_at hl 2 rfl) ?_
      refine lv_dup2_11 hx hb dX10_givesOn_92 rfl rfl ?_
      obtain ⟨g93, h⟩ := mgd_e h
      refine m_ialdL hx hb hR kd_100 g93 (jn := (Int32.toNatClampNeg v54)) rfl dX10_givesOn_93 ?_
      refine lv_iload_n hx hb dX10_givesOn_94 rfl (lv_at hl 5 rfl) ?_
      refine lv_iadd hx hb dX10_givesOn_95 ?_
      obtain ⟨g96, h⟩ := mgd_e h
      obtain ⟨M96, eM96⟩ : ∃ y : mM, y = mI M 100 (Int32.toNatClampNeg v54) ((M.1 100 (Int32.toNatClampNeg v54)) + x20) := ⟨_, rfl⟩
      have h := mlt_n h M96 eM96
      refine m_iastL hx hb hR hS kd_100 g96 (jn := (Int32.toNatClampNeg v54)) rfl dX10_givesOn_96 eM96 (fun H locs hR hS => ?_)
      refine lv_goto (tgt := 176) hx hb dX10_givesOn_97 (by decide) ?_
      exact m_vr hx hb hlk hr hR hS (Option.some.inj h).symm dX10_givesOn_176
  · have h := mif_y h c44
    exact m_vr hx hb hlk hr hR hS (Option.some.inj h).symm dX10_givesOn_47
theorem c_X10_givesOn (l : Launch) (X : mX) (i1 : Int32) (M : mM) {r : mM} (h : f_X10_givesOn i1 M = some r) : mMv l yX10_givesOn cX10_givesOn 8 3 67 X [.ref (X.1 96), .int i1] M r := m_ofv (by decide +kernel) (Nat.le_of_ble_eq_true rfl) rfl (fun p e s m args below meth c hs => w_X10_givesOn hs i1 M h)
set_option maxRecDepth 100000 in
set_option maxHeartbeats 4000000 in
theorem w_X10_findLoads_b66 {l : Launch} {X : mX} {p : Program} {e : Env} {s : State} {m : MethodId} {args : Array Value} {below : List Frame} {meth : Method} {c : Code} {r : mM} (hs : mS X RX10 cX10_findLoads 4 none p s m meth c) (k30 : Int32 → Int32 → mM → Option mM) (hk30 : ∀ (i1 : Int32) (i2 : Int32) (M : mM), k30 i1 i2 M = some r → mG X p l e (rmF 4 94) s m args below meth c (MQ below (mQv X r) args s 0 0 (mL X)) 4 30 [(0, .ref (X.1 96)), (1, .int i1), (2, .int i2)] [] M) : ∀ (i1 : Int32) (i2 : Int32) (i3 : Int32) (s0 : Int32) (s1 : Int32) (M : mM), f_X10_findLoads_b66 k30 i1 i2 i3 s0 s1 M = some r → mG X p l e (rmF 4 94) s m args below meth c (MQ below (mQv X r) args s 0 0 (mL X)) 4 66 [(0, .ref (X.1 96)), (1, .int i1), (2, .int i2), (3, .int i3)] [.int s1, .int s0] M := by
  obtain ⟨hx, hb, hml, hown, hF, hlk, hr⟩ := id hs
  intro i1 i2 i3 s0 s1 M h H locs ls hR hS hl
  refine lv_icmp_ne (tgt := 74) hx hb dX10_findLoads_66 (by decide) (fun c66 => ?_) (fun c66 => ?_)
  · have h := mif_n h c66
    obtain ⟨x74, ex74⟩ : ∃ y : Int32, y = (i2 + 1) := ⟨_, rfl⟩
    have h := mlt_n h x74 ex74
    refine lv_iinc (v := x74) (lv' := [(2, .int x74), (0, .ref (X.1 96)), (1, .int i1), (3, .int i3)]) hx hb dX10_findLoads_74 hl (k := 2) rfl (by rw [ex74]; rfl) (by decide) rfl (fun ls hl => ?_)
    refine lv_goto (tgt := 30) hx hb dX10_findLoads_77 (by decide) ?_
    exact hk30 i1 x74 M h H locs ls hR hS (lv_sub hl [1, 2, 0] rfl)
  · have h := mif_y h c66
    refine lv_aload_n hx hb dX10_findLoads_69 rfl (lv_at hl 0 rfl) ?_
    refine lv_iload_n hx hb dX10_findLoads_70 rfl (lv_at hl 3 rfl) ?_
    obtain ⟨M71, q71, h⟩ := mbp_e h
    refine m_cv (m_rV hx hb hml hown hF hR hS (ent9 kd_96) kd_96 rfl (c_X10_givesOn l X i3 M q71) q_X10_154_V hdV_X10_givesOn ⟨Nat.le_of_ble_eq_true rfl, Nat.le_of_ble_eq_true rfl⟩ rfl hl.1 rfl (Nat.le_of_ble_eq_true rfl) dX10_findLoads_71) hS (fun H locs hR hS => ?_)
    obtain ⟨x74, ex74⟩ : ∃ y : Int32, y = (i2 + 1) := ⟨_, rfl⟩
    have h := mlt_n h x74 ex74
    refine lv_iinc (v := x74) (lv' := [(2, .int x74), (0, .ref (X.1 96)), (1, .int i1), (3, .int i3)]) hx hb dX10_findLoads_74 hl (k := 2) rfl (by rw [ex74]; rfl) (by decide) rfl (fun ls hl => ?_)
    refine lv_goto (tgt := 30) hx hb dX10_findLoads_77 (by decide) ?_
    exact hk30 i1 x74 M71 h H locs ls hR hS (lv_sub hl [1, 2, 0] rfl)
set_option maxRecDepth 100000 in
set_option maxHeartbeats 4000000 in
theorem w_X10_findLoads_b30 {l : Launch} {X : mX} {p : Program} {e : Env} {s : State} {m : MethodId} {args : Array Value} {below : List Frame} {meth : Method} {c : Code} {r : mM} (hs : mS X RX10 cX10_findLoads 4 none p s m meth c) (k24 : Int32 → mM → Option mM) (hk24 : ∀ (i1 : Int32) (M : mM), k24 i1 M = some r → mG X p l e (rmF 4 94) s m args below meth c (MQ below (mQv X r) args s 0 0 (mL X)) 4 24 [(0, .ref (X.1 96)), (1, .int i1)] [] M) : ∀ n : Nat, ∀ (i1 : Int32) (i2 : Int32) (M : mM), f_X10_findLoads_b30 k24 n i1 i2 M = some r → mG X p l e (rmF 4 94) s m args below meth c (MQ below (mQv X r) args s 0 0 (mL X)) 4 30 [(0, .ref (X.1 96)), (1, .int i1), (2, .int i2)] [] M := by
  obtain ⟨hx, hb, hml, hown, hF, hlk, hr⟩ := id hs
  intro n
  induction n with
  | zero =>
    intro i1 i2 M h
    have h0 : (none : Option (mM)) = some r := h
    cases h0
  | succ n ih =>
    intro i1 i2 M h H locs ls hR hS hl
    refine lv_iload_n hx hb dX10_findLoads_30 rfl (lv_at hl 2 rfl) ?_
    refine lv_bipush (v := 20) hx hb dX10_findLoads_31 (by decide) ?_
    refine lv_icmp_ge (tgt := 80) hx hb dX10_findLoads_33 (by decide) (fun c33 => ?_) (fun c33 => ?_)
    · have h := mif_y h c33
      obtain ⟨x80, ex80⟩ : ∃ y : Int32, y = (i1 + (-1)) := ⟨_, rfl⟩
      have h := mlt_n h x80 ex80
      refine lv_iinc (v := x80) (lv' := [(1, .int x80), (0, .ref (X.1 96)), (2, .int i2)]) hx hb dX10_findLoads_80 hl (k := 1) rfl (by rw [ex80]; rfl) (by decide) rfl (fun ls hl => ?_)
      refine lv_goto (tgt := 24) hx hb dX10_findLoads_83 (by decide) ?_
      exact hk24 x80 M h H locs ls hR hS (lv_sub hl [1, 0] rfl)
    · have h := mif_n h c33
      refine lv_aload_n hx hb dX10_findLoads_36 rfl (lv_at hl 0 rfl) ?_
      refine lv_iload_n hx hb dX10_findLoads_37 rfl (lv_at hl 2 rfl) ?_
      refine lv_bipush (v := 10) hx hb dX10_findLoads_38 (by decide) ?_
      refine lv_irem hx hb dX10_findLoads_40 (by decide) ?_
      refine lv_iload_n hx hb dX10_findLoads_41 rfl (lv_at hl 1 rfl) ?_
      obtain ⟨v42, q42, h⟩ := mbp_e h
      refine m_ci (m_rV hx hb hml hown hF hR hS (ent9 kd_96) kd_96 rfl (c_X10_cubeAt l X (i2 - i2 / 10 * 10) i1 M q42) q_X10_133_V hdV_X10_cubeAt ⟨Nat.le_of_ble_eq_true rfl, Nat.le_of_ble_eq_true rfl⟩ rfl hl.1 rfl (Nat.le_of_ble_eq_true rfl) dX10_findLoads_42) hS (fun H locs hR hS => ?_)
      refine lv_istore_n (lv' := [(3, .int v42), (0, .ref (X.1 96)), (1, .int i1), (2, .int i2)]) hx hb dX10_findLoads_45 rfl hl (by decide) rfl (fun ls hl => ?_)
      refine lv_iload_n hx hb dX10_findLoads_46 rfl (lv_at hl 0 rfl) ?_
      refine lv_if_lt (tgt := 74) hx hb dX10_findLoads_47 (by decide) (fun c47 => ?_) (fun c47 => ?_)
      · have h := mif_y h c47
        obtain ⟨x74, ex74⟩ : ∃ y : Int32, y = (i2 + 1) := ⟨_, rfl⟩
        have h := mlt_n h x74 ex74
        refine lv_iinc (v := x74) (lv' := [(2, .int x74), (3, .int v42), (0, .ref (X.1 96)), (1, .int i1)]) hx hb dX10_findLoads_74 hl (k := 3) rfl (by rw [ex74]; rfl) (by decide) rfl (fun ls hl => ?_)
        refine lv_goto (tgt := 30) hx hb dX10_findLoads_77 (by decide) ?_
        exact ih i1 x74 M h H locs ls hR hS (lv_sub hl [2, 3, 0] rfl)
      · have h := mif_n h c47
        refine lv_aload_n hx hb dX10_findLoads_50 rfl (lv_at hl 1 rfl) ?_
        refine lv_iload_n hx hb dX10_findLoads_51 rfl (lv_at hl 0 rfl) ?_
        obtain ⟨v52, q52, h⟩ := mbp_e h
        refine m_ci (m_rV hx hb hml hown hF hR hS (ent9 kd_96) kd_96 rfl (c_X10_hangs l X v42 M q52) q_X10_151_V hdV_X10_hangs ⟨Nat.le_of_ble_eq_true rfl, Nat.le_of_ble_eq_true rfl⟩ rfl hl.1 rfl (Nat.le_of_ble_eq_true rfl) dX10_findLoads_52) hS (fun H locs hR hS => ?_)
        refine lv_iload_n hx hb dX10_findLoads_55 rfl (lv_at hl 3 rfl) ?_
        refine lv_bipush (v := 10) hx hb dX10_findLoads_56 (by decide) ?_
        refine lv_icmp_ge (tgt := 65) hx hb dX10_findLoads_58 (by decide) (fun c58 => ?_) (fun c58 => ?_)
        · have h := mif_y h c58
          refine lv_iconst (v := 0) hx hb dX10_findLoads_65 (by decide) ?_
          exact w_X10_findLoads_b66 hs (f_X10_findLoads_b30 k24 n) ih i1 i2 v42 v52 0 M h H locs ls hR hS (lv_sub hl [1, 2, 3, 0] rfl)
        · have h := mif_n h c58
          refine lv_iconst (v := 1) hx hb dX10_findLoads_61 (by decide) ?_
          refine lv_goto (tgt := 66) hx hb dX10_findLoads_62 (by decide) ?_
          exact w_X10_findLoads_b66 hs (f_X10_findLoads_b30 k24 n) ih i1 i2 v42 v52 1 M h H locs ls hR hS (lv_sub hl [1, 2, 3, 0] rfl)
set_option maxRecDepth 100000 in
set_option maxHeartbeats 4000000 in
theorem w_X10_findLoads_b24 {l : Launch} {X : mX} {p : Program} {e : Env} {s : State} {m : MethodId} {args : Array Value} {below : List Frame} {meth : Method} {c : Code} {r : mM} (hs : mS X RX10 cX10_findLoads 4 none p s m meth c) : ∀ n : Nat, ∀ (i1 : Int32) (M : mM), f_X10_findLoads_b24 n i1 M = some r → mG X p l e (rmF 4 94) s m args below meth c (MQ below (mQv X r) args s 0 0 (mL X)) 4 24 [(0, .ref (X.1 96)), (1, .int i1)] [] M := by
  obtain ⟨hx, hb, hml, hown, hF, hlk, hr⟩ := id hs
  intro n
  induction n with
  | zero =>
    intro i1 M h
    have h0 : (none : Option (mM)) = some r := h
    cases h0
  | succ n ih =>
    intro i1 M h H locs ls hR hS hl
    refine lv_iload_n hx hb dX10_findLoads_24 rfl (lv_at hl 1 rfl) ?_
    refine lv_if_lt (tgt := 86) hx hb dX10_findLoads_25 (by decide) (fun c25 => ?_) (fun c25 => ?_)
    · have h := mif_y h c25
      exact m_vr hx hb hlk hr hR hS (Option.some.inj h).symm dX10_findLoads_86
    · have h := mif_n h c25
      refine lv_iconst (v := 0) hx hb dX10_findLoads_28 (by decide) ?_
      refine lv_istore_n (lv' := [(2, .int 0), (0, .ref (X.1 96)), (1, .int i1)]) hx hb dX10_findLoads_29 rfl hl (by decide) rfl (fun ls hl => ?_)
      exact w_X10_findLoads_b30 hs (f_X10_findLoads_b24 n) ih mN i1 0 M h H locs ls hR hS (lv_sub hl [1, 2, 0] rfl)
set_option maxRecDepth 100000 in
set_option maxHeartbeats 4000000 in
theorem w_X10_findLoads_b2 {l : Launch} {X : mX} {p : Program} {e : Env} {s : State} {m : MethodId} {args : Array Value} {below : List Frame} {meth : Method} {c : Code} {r : mM} (hs : mS X RX10 cX10_findLoads 4 none p s m meth c) : ∀ n : Nat, ∀ (i1 : Int32) (M : mM), f_X10_findLoads_b2 n i1 M = some r → mG X p l e (rmF 4 94) s m args below meth c (MQ below (mQv X r) args s 0 0 (mL X)) 4 2 [(0, .ref (X.1 96)), (1, .int i1)] [] M := by
  obtain ⟨hx, hb, hml, hown, hF, hlk, hr⟩ := id hs
  intro n
  induction n with
  | zero =>
    intro i1 M h
    have h0 : (none : Option (mM)) = some r := h
    cases h0
  | succ n ih =>
    intro i1 M h H locs ls hR hS hl
    refine lv_iload_n hx hb dX10_findLoads_2 rfl (lv_at hl 1 rfl) ?_
    refine lv_bipush (v := 16) hx hb dX10_findLoads_3 (by decide) ?_
    refine lv_icmp_ge (tgt := 21) hx hb dX10_findLoads_5 (by decide) (fun c5 => ?_) (fun c5 => ?_)
    · have h := mif_y h c5
      refine lv_bipush (v := 7) hx hb dX10_findLoads_21 (by decide) ?_
      refine lv_istore_n (lv' := [(1, .int 7), (0, .ref (X.1 96))]) hx hb dX10_findLoads_23 rfl hl (by decide) rfl (fun ls hl => ?_)
      exact w_X10_findLoads_b24 hs mN 7 M h H locs ls hR hS (lv_sub hl [1, 0] rfl)
    · have h := mif_n h c5
      refine lv_aload_n hx hb dX10_findLoads_8 rfl (lv_at hl 0 rfl) ?_
      refine m_g9_5 hx hb hF hown hR kd_96 mw_5_142 dX10_findLoads_9 ?_
      refine lv_iload_n hx hb dX10_findLoads_12 rfl (lv_at hl 1 rfl) ?_
      refine lv_iconst (v := 0) hx hb dX10_findLoads_13 (by decide) ?_
      obtain ⟨g14, h⟩ := mgd_e h
      obtain ⟨M14, eM14⟩ : ∃ y : mM, y = mI M 100 (Int32.toNatClampNeg i1) 0 := ⟨_, rfl⟩
      have h := mlt_n h M14 eM14
      refine m_iastL hx hb hR hS kd_100 g14 (jn := (Int32.toNatClampNeg i1)) rfl dX10_findLoads_14 eM14 (fun H locs hR hS => ?_)
      obtain ⟨x15, ex15⟩ : ∃ y : Int32, y = (i1 + 1) := ⟨_, rfl⟩
      have h := mlt_n h x15 ex15
      refine lv_iinc (v := x15) (lv' := [(1, .int x15), (0, .ref (X.1 96))]) hx hb dX10_findLoads_15 hl (k := 1) rfl (by rw [ex15]; rfl) (by decide) rfl (fun ls hl => ?_)
      refine lv_goto (tgt := 2) hx hb dX10_findLoads_18 (by decide) ?_
      exact ih x15 M14 h H locs ls hR hS (lv_sub hl [1, 0] rfl)
set_option maxRecDepth 100000 in
set_option maxHeartbeats 4000000 in
theorem w_X10_findLoads {l : Launch} {X : mX} {p : Program} {e : Env} {s : State} {m : MethodId} {args : Array Value} {below : List Frame} {meth : Method} {c : Code} {r : mM} (hs : mS X RX10 cX10_findLoads 4 none p s m meth c) : ∀  (M : mM), f_X10_findLoads  M = some r → mG X p l e (rmF 4 94) s m args below meth c (MQ below (mQv X r) args s 0 0 (mL X)) 4 0 [(0, .ref (X.1 96))] [] M := by
  obtain ⟨hx, hb, hml, hown, hF, hlk, hr⟩ := id hs
  intro M h H locs ls hR hS hl
  refine lv_iconst (v := 0) hx hb dX10_findLoads_0 (by decide) ?_
  refine lv_istore_n (lv' := [(1, .int 0), (0, .ref (X.1 96))]) hx hb dX10_findLoads_1 rfl hl (by decide) rfl (fun ls hl => ?_)
  exact w_X10_findLoads_b2 hs mN 0 M h H locs ls hR hS (lv_sub hl [1, 0] rfl)
theorem c_X10_findLoads (l : Launch) (X : mX) (M : mM) {r : mM} (h : f_X10_findLoads M = some r) : mMv l yX10_findLoads cX10_findLoads 4 4 94 X [.ref (X.1 96)] M r := m_ofv (by decide +kernel) (Nat.le_of_ble_eq_true rfl) rfl (fun p e s m args below meth c hs => w_X10_findLoads hs M h)
set_option maxRecDepth 100000 in
set_option maxHeartbeats 4000000 in
theorem w_X10_isBroken {l : Launch} {X : mX} {p : Program} {e : Env} {s : State} {m : MethodId} {args : Array Value} {below : List Frame} {meth : Method} {c : Code} {M : mM} {r : Int32} (hs : mS X RX10 cX10_isBroken 2 (some .boolean) p s m meth c) : ∀ (i1 : Int32), f_X10_isBroken i1 M = some r → mG X p l e (rmF 1 21) s m args below meth c (MQ below (mQi X M r) args s 0 0 (mL X)) 2 0 [(0, .ref (X.1 96)), (1, .int i1)] [] M := by
  obtain ⟨hx, hb, hml, hown, hF, hlk, hr⟩ := id hs
  intro i1 h H locs ls hR hS hl
  refine lv_aload_n hx hb dX10_isBroken_0 rfl (lv_at hl 0 rfl) ?_
  refine m_g9_5 hx hb hF hown hR kd_96 mw_5_142 dX10_isBroken_1 ?_
  refine lv_iload_n hx hb dX10_isBroken_4 rfl (lv_at hl 1 rfl) ?_
  obtain ⟨g5, h⟩ := mgd_e h
  refine m_ialdL hx hb hR kd_100 g5 (jn := (Int32.toNatClampNeg i1)) rfl dX10_isBroken_5 ?_
  refine lv_aload_n hx hb dX10_isBroken_6 rfl (lv_at hl 0 rfl) ?_
  refine lv_aload_n hx hb dX10_isBroken_7 rfl (lv_at hl 0 rfl) ?_
  refine m_g9_1 hx hb hF hown hR kd_96 mw_5_138 dX10_isBroken_8 ?_
  refine lv_bipush (v := 10) hx hb dX10_isBroken_11 (by decide) ?_
  refine lv_iload_n hx hb dX10_isBroken_13 rfl (lv_at hl 1 rfl) ?_
  refine lv_iadd hx hb dX10_isBroken_14 ?_
  obtain ⟨g15, h⟩ := mgd_e h
  refine m_ialdL hx hb hR kd_97 g15 (jn := (Int32.toNatClampNeg (10 + i1))) rfl dX10_isBroken_15 ?_
  refine m_ci (m_rV hx hb hml hown hF hR hS (ent9 kd_96) kd_96 rfl (c_X10_bearsOf l X (M.1 97 (Int32.toNatClampNeg (10 + i1))) M) q_X10_158_V hdV_X10_bearsOf ⟨Nat.le_of_ble_eq_true rfl, Nat.le_of_ble_eq_true rfl⟩ rfl hl.1 rfl (Nat.le_of_ble_eq_true rfl) dX10_isBroken_16) hS (fun H locs hR hS => ?_)
  refine lv_icmp_le (tgt := 26) hx hb dX10_isBroken_19 (by decide) (fun c19 => ?_) (fun c19 => ?_)
  · have h := mif_y h c19
    refine lv_iconst (v := 0) hx hb dX10_isBroken_26 (by decide) ?_
    exact m_zr hx hb hlk hr hR hS (Or.inl rfl) (congrArg (fun z => (z, M)) (Option.some.inj h).symm) dX10_isBroken_27
  · have h := mif_n h c19
    refine lv_iconst (v := 1) hx hb dX10_isBroken_22 (by decide) ?_
    refine lv_goto (tgt := 27) hx hb dX10_isBroken_23 (by decide) ?_
    exact m_zr hx hb hlk hr hR hS (Or.inr rfl) (congrArg (fun z => (z, M)) (Option.some.inj h).symm) dX10_isBroken_27
theorem c_X10_isBroken (l : Launch) (X : mX) (i1 : Int32) (M : mM) {r : Int32} (h : f_X10_isBroken i1 M = some r) : mMi l yX10_isBroken cX10_isBroken 2 (some .boolean) 1 21 X [.ref (X.1 96), .int i1] M (r, M) := m_ofi (by decide +kernel) (Nat.le_of_ble_eq_true rfl) rfl (fun p e s m args below meth c hs => w_X10_isBroken hs i1 h)
set_option maxRecDepth 100000 in
set_option maxHeartbeats 4000000 in
theorem w_X10_about {l : Launch} {X : mX} {p : Program} {e : Env} {s : State} {m : MethodId} {args : Array Value} {below : List Frame} {meth : Method} {c : Code} {r : Int32 × mM} (hs : mS X RX10 cX10_about 3 (some .int) p s m meth c) : ∀ (i1 : Int32) (i2 : Int32) (M : mM), f_X10_about i1 i2 M = some r → mG X p l e (rmF 5 117) s m args below meth c (MQ below (mQi X r.2 r.1) args s 0 0 (mL X)) 3 0 [(0, .ref (X.1 96)), (1, .int i1), (2, .int i2)] [] M := by
  obtain ⟨hx, hb, hml, hown, hF, hlk, hr⟩ := id hs
  intro i1 i2 M h H locs ls hR hS hl
  refine lv_aload_n hx hb dX10_about_0 rfl (lv_at hl 0 rfl) ?_
  refine lv_iload_n hx hb dX10_about_1 rfl (lv_at hl 1 rfl) ?_
  obtain ⟨v2, q2, h⟩ := mbp_e h
  refine m_ci (m_rV hx hb hml hown hF hR hS (ent9 kd_96) kd_96 rfl (c_X10_isCube l X i1 M q2) q_X10_161_V hdV_X10_isCube ⟨Nat.le_of_ble_eq_true rfl, Nat.le_of_ble_eq_true rfl⟩ rfl hl.1 rfl (Nat.le_of_ble_eq_true rfl) dX10_about_2) hS (fun H locs hR hS => ?_)
  refine lv_if_ne (tgt := 10) hx hb dX10_about_5 (by decide) (fun c5 => ?_) (fun c5 => ?_)
  · have h := mif_n h c5
    refine lv_aload_n hx hb dX10_about_10 rfl (lv_at hl 0 rfl) ?_
    obtain ⟨M11, q11, h⟩ := mbp_e h
    refine m_cv (m_rV hx hb hml hown hF hR hS (ent9 kd_96) kd_96 rfl (c_X10_findLoads l X M q11) q_X10_164_V hdV_X10_findLoads ⟨Nat.le_of_ble_eq_true rfl, Nat.le_of_ble_eq_true rfl⟩ rfl hl.1 rfl (Nat.le_of_ble_eq_true rfl) dX10_about_11) hS (fun H locs hR hS => ?_)
    refine lv_iload_n hx hb dX10_about_14 rfl (lv_at hl 2 rfl) ?_
    by_cases c15_0 : i2 = 0
    · have h := mif_y h c15_0
      refine lv_tableIn (tgt := 72) hx hb dX10_about_15 (by rw [c15_0]; decide) (by rw [c15_0]; decide) (by rw [c15_0] <;> rfl) (by decide) ?_
      refine lv_aload_n hx hb dX10_about_72 rfl (lv_at hl 0 rfl) ?_
      refine m_g9_1 hx hb hF hown hR kd_96 mw_5_138 dX10_about_73 ?_
      refine lv_bipush (v := 10) hx hb dX10_about_76 (by decide) ?_
      refine lv_iload_n hx hb dX10_about_78 rfl (lv_at hl 1 rfl) ?_
      refine lv_iadd hx hb dX10_about_79 ?_
      obtain ⟨g80, h⟩ := mgd_e h
      refine m_ialdL hx hb hR kd_97 g80 (jn := (Int32.toNatClampNeg (10 + i1))) rfl dX10_about_80 ?_
      exact m_ir hx hb hlk hr hR hS (Option.some.inj h).symm dX10_about_81
    · have h := mif_n h c15_0
      by_cases c15_1 : i2 = 1
      · have h := mif_y h c15_1
        refine lv_tableIn (tgt := 82) hx hb dX10_about_15 (by rw [c15_1]; decide) (by rw [c15_1]; decide) (by rw [c15_1] <;> rfl) (by decide) ?_
        refine lv_aload_n hx hb dX10_about_82 rfl (lv_at hl 0 rfl) ?_
        refine m_g9_1 hx hb hF hown hR kd_96 mw_5_138 dX10_about_83 ?_
        refine lv_bipush (v := 26) hx hb dX10_about_86 (by decide) ?_
        refine lv_iload_n hx hb dX10_about_88 rfl (lv_at hl 1 rfl) ?_
        refine lv_iadd hx hb dX10_about_89 ?_
        obtain ⟨g90, h⟩ := mgd_e h
        refine m_ialdL hx hb hR kd_97 g90 (jn := (Int32.toNatClampNeg (26 + i1))) rfl dX10_about_90 ?_
        exact m_ir hx hb hlk hr hR hS (Option.some.inj h).symm dX10_about_91
      · have h := mif_n h c15_1
        by_cases c15_2 : i2 = 2
        · have h := mif_y h c15_2
          refine lv_tableIn (tgt := 92) hx hb dX10_about_15 (by rw [c15_2]; decide) (by rw [c15_2]; decide) (by rw [c15_2] <;> rfl) (by decide) ?_
          refine lv_aload_n hx hb dX10_about_92 rfl (lv_at hl 0 rfl) ?_
          refine m_g9_1 hx hb hF hown hR kd_96 mw_5_138 dX10_about_93 ?_
          refine lv_bipush (v := 42) hx hb dX10_about_96 (by decide) ?_
          refine lv_iload_n hx hb dX10_about_98 rfl (lv_at hl 1 rfl) ?_
          refine lv_iadd hx hb dX10_about_99 ?_
          obtain ⟨g100, h⟩ := mgd_e h
          refine m_ialdL hx hb hR kd_97 g100 (jn := (Int32.toNatClampNeg (42 + i1))) rfl dX10_about_100 ?_
          exact m_ir hx hb hlk hr hR hS (Option.some.inj h).symm dX10_about_101
        · have h := mif_n h c15_2
          by_cases c15_3 : i2 = 3
          · have h := mif_y h c15_3
            refine lv_tableIn (tgt := 102) hx hb dX10_about_15 (by rw [c15_3]; decide) (by rw [c15_3]; decide) (by rw [c15_3] <;> rfl) (by decide) ?_
            refine lv_aload_n hx hb dX10_about_102 rfl (lv_at hl 0 rfl) ?_
            refine m_g9_1 hx hb hF hown hR kd_96 mw_5_138 dX10_about_103 ?_
            refine lv_bipush (v := 58) hx hb dX10_about_106 (by decide) ?_
            refine lv_iload_n hx hb dX10_about_108 rfl (lv_at hl 1 rfl) ?_
            refine lv_iadd hx hb dX10_about_109 ?_
            obtain ⟨g110, h⟩ := mgd_e h
            refine m_ialdL hx hb hR kd_97 g110 (jn := (Int32.toNatClampNeg (58 + i1))) rfl dX10_about_110 ?_
            exact m_ir hx hb hlk hr hR hS (Option.some.inj h).symm dX10_about_111
          · have h := mif_n h c15_3
            by_cases c15_4 : i2 = 4
            · have h := mif_y h c15_4
              refine lv_tableIn (tgt := 112) hx hb dX10_about_15 (by rw [c15_4]; decide) (by rw [c15_4]; decide) (by rw [c15_4] <;> rfl) (by decide) ?_
              refine lv_aload_n hx hb dX10_about_112 rfl (lv_at hl 0 rfl) ?_
              refine m_g9_1 hx hb hF hown hR kd_96 mw_5_138 dX10_about_113 ?_
              refine lv_bipush (v := 74) hx hb dX10_about_116 (by decide) ?_
              refine lv_iload_n hx hb dX10_about_118 rfl (lv_at hl 1 rfl) ?_
              refine lv_iadd hx hb dX10_about_119 ?_
              obtain ⟨g120, h⟩ := mgd_e h
              refine m_ialdL hx hb hR kd_97 g120 (jn := (Int32.toNatClampNeg (74 + i1))) rfl dX10_about_120 ?_
              exact m_ir hx hb hlk hr hR hS (Option.some.inj h).symm dX10_about_121
            · have h := mif_n h c15_4
              by_cases c15_5 : i2 = 5
              · have h := mif_y h c15_5
                refine lv_tableIn (tgt := 122) hx hb dX10_about_15 (by rw [c15_5]; decide) (by rw [c15_5]; decide) (by rw [c15_5] <;> rfl) (by decide) ?_
                refine lv_aload_n hx hb dX10_about_122 rfl (lv_at hl 0 rfl) ?_
                refine m_g9_5 hx hb hF hown hR kd_96 mw_5_142 dX10_about_123 ?_
                refine lv_iload_n hx hb dX10_about_126 rfl (lv_at hl 1 rfl) ?_
                obtain ⟨g127, h⟩ := mgd_e h
                refine m_ialdL hx hb hR kd_100 g127 (jn := (Int32.toNatClampNeg i1)) rfl dX10_about_127 ?_
                exact m_ir hx hb hlk hr hR hS (Option.some.inj h).symm dX10_about_128
              · have h := mif_n h c15_5
                by_cases c15_6 : i2 = 6
                · have h := mif_y h c15_6
                  refine lv_tableIn (tgt := 129) hx hb dX10_about_15 (by rw [c15_6]; decide) (by rw [c15_6]; decide) (by rw [c15_6] <;> rfl) (by decide) ?_
                  refine lv_aload_n hx hb dX10_about_129 rfl (lv_at hl 0 rfl) ?_
                  refine lv_iload_n hx hb dX10_about_130 rfl (lv_at hl 1 rfl) ?_
                  obtain ⟨v131, q131, h⟩ := mbp_e h
                  refine m_ci (m_rV hx hb hml hown hF hR hS (ent9 kd_96) kd_96 rfl (c_X10_isBroken l X i1 M11 q131) q_X10_167_V hdV_X10_isBroken ⟨Nat.le_of_ble_eq_true rfl, Nat.le_of_ble_eq_true rfl⟩ rfl hl.1 rfl (Nat.le_of_ble_eq_true rfl) dX10_about_131) hS (fun H locs hR hS => ?_)
                  refine lv_if_eq (tgt := 141) hx hb dX10_about_134 (by decide) (fun c134 => ?_) (fun c134 => ?_)
                  · have h := mif_y h c134
                    refine lv_iconst (v := 0) hx hb dX10_about_141 (by decide) ?_
                    exact m_ir hx hb hlk hr hR hS (Option.some.inj h).symm dX10_about_142
                  · have h := mif_n h c134
                    refine lv_iconst (v := 1) hx hb dX10_about_137 (by decide) ?_
                    refine lv_goto (tgt := 142) hx hb dX10_about_138 (by decide) ?_
                    exact m_ir hx hb hlk hr hR hS (Option.some.inj h).symm dX10_about_142
                · have h := mif_n h c15_6
                  by_cases c15_7 : i2 = 7
                  · have h := mif_y h c15_7
                    refine lv_tableIn (tgt := 143) hx hb dX10_about_15 (by rw [c15_7]; decide) (by rw [c15_7]; decide) (by rw [c15_7] <;> rfl) (by decide) ?_
                    refine lv_aload_n hx hb dX10_about_143 rfl (lv_at hl 0 rfl) ?_
                    refine m_g9_1 hx hb hF hown hR kd_96 mw_5_138 dX10_about_144 ?_
                    refine lv_bipush (v := 90) hx hb dX10_about_147 (by decide) ?_
                    refine lv_iload_n hx hb dX10_about_149 rfl (lv_at hl 1 rfl) ?_
                    refine lv_iadd hx hb dX10_about_150 ?_
                    obtain ⟨g151, h⟩ := mgd_e h
                    refine m_ialdL hx hb hR kd_97 g151 (jn := (Int32.toNatClampNeg (90 + i1))) rfl dX10_about_151 ?_
                    exact m_ir hx hb hlk hr hR hS (Option.some.inj h).symm dX10_about_152
                  · have h := mif_n h c15_7
                    by_cases c15_8 : i2 = 8
                    · have h := mif_y h c15_8
                      refine lv_tableIn (tgt := 153) hx hb dX10_about_15 (by rw [c15_8]; decide) (by rw [c15_8]; decide) (by rw [c15_8] <;> rfl) (by decide) ?_
                      refine lv_aload_n hx hb dX10_about_153 rfl (lv_at hl 0 rfl) ?_
                      refine m_g9_1 hx hb hF hown hR kd_96 mw_5_138 dX10_about_154 ?_
                      refine lv_bipush (v := 106) hx hb dX10_about_157 (by decide) ?_
                      refine lv_iload_n hx hb dX10_about_159 rfl (lv_at hl 1 rfl) ?_
                      refine lv_iadd hx hb dX10_about_160 ?_
                      obtain ⟨g161, h⟩ := mgd_e h
                      refine m_ialdL hx hb hR kd_97 g161 (jn := (Int32.toNatClampNeg (106 + i1))) rfl dX10_about_161 ?_
                      exact m_ir hx hb hlk hr hR hS (Option.some.inj h).symm dX10_about_162
                    · have h := mif_n h c15_8
                      by_cases c15_9 : i2 = 9
                      · have h := mif_y h c15_9
                        refine lv_tableIn (tgt := 163) hx hb dX10_about_15 (by rw [c15_9]; decide) (by rw [c15_9]; decide) (by rw [c15_9] <;> rfl) (by decide) ?_
                        refine lv_aload_n hx hb dX10_about_163 rfl (lv_at hl 0 rfl) ?_
                        refine m_g9_1 hx hb hF hown hR kd_96 mw_5_138 dX10_about_164 ?_
                        refine lv_bipush (v := 122) hx hb dX10_about_167 (by decide) ?_
                        refine lv_iload_n hx hb dX10_about_169 rfl (lv_at hl 1 rfl) ?_
                        refine lv_iadd hx hb dX10_about_170 ?_
                        obtain ⟨g171, h⟩ := mgd_e h
                        refine m_ialdL hx hb hR kd_97 g171 (jn := (Int32.toNatClampNeg (122 + i1))) rfl dX10_about_171 ?_
                        exact m_ir hx hb hlk hr hR hS (Option.some.inj h).symm dX10_about_172
                      · have h := mif_n h c15_9
                        by_cases c15_10 : i2 = 10
                        · have h := mif_y h c15_10
                          refine lv_tableIn (tgt := 173) hx hb dX10_about_15 (by rw [c15_10]; decide) (by rw [c15_10]; decide) (by rw [c15_10] <;> rfl) (by decide) ?_
                          refine lv_aload_n hx hb dX10_about_173 rfl (lv_at hl 0 rfl) ?_
                          refine lv_iload_n hx hb dX10_about_174 rfl (lv_at hl 1 rfl) ?_
                          obtain ⟨v175, q175, h⟩ := mbp_e h
                          refine m_ci (m_rV hx hb hml hown hF hR hS (ent9 kd_96) kd_96 rfl (c_X10_hangs l X i1 M11 q175) q_X10_151_V hdV_X10_hangs ⟨Nat.le_of_ble_eq_true rfl, Nat.le_of_ble_eq_true rfl⟩ rfl hl.1 rfl (Nat.le_of_ble_eq_true rfl) dX10_about_175) hS (fun H locs hR hS => ?_)
                          refine lv_if_eq (tgt := 185) hx hb dX10_about_178 (by decide) (fun c178 => ?_) (fun c178 => ?_)
                          · have h := mif_y h c178
                            refine lv_iconst (v := 0) hx hb dX10_about_185 (by decide) ?_
                            exact m_ir hx hb hlk hr hR hS (Option.some.inj h).symm dX10_about_186
                          · have h := mif_n h c178
                            refine lv_iconst (v := 1) hx hb dX10_about_181 (by decide) ?_
                            refine lv_goto (tgt := 186) hx hb dX10_about_182 (by decide) ?_
                            exact m_ir hx hb hlk hr hR hS (Option.some.inj h).symm dX10_about_186
                        · have h := mif_n h c15_10
                          refine lv_tableOut (tgt := 187) hx hb dX10_about_15 (m_swOut (fun q => by have := q.1; have := q.2; have := lv_neT c15_0 (a := 0) rfl; have := lv_neT c15_1 (a := 1) rfl; have := lv_neT c15_2 (a := 2) rfl; have := lv_neT c15_3 (a := 3) rfl; have := lv_neT c15_4 (a := 4) rfl; have := lv_neT c15_5 (a := 5) rfl; have := lv_neT c15_6 (a := 6) rfl; have := lv_neT c15_7 (a := 7) rfl; have := lv_neT c15_8 (a := 8) rfl; have := lv_neT c15_9 (a := 9) rfl; have := lv_neT c15_10 (a := 10) rfl; omega)) (by decide) ?_
                          refine lv_iconst (v := (-1)) hx hb dX10_about_187 (by decide) ?_
                          exact m_ir hx hb hlk hr hR hS (Option.some.inj h).symm dX10_about_188
  · have h := mif_y h c5
    refine lv_iconst (v := (-1)) hx hb dX10_about_8 (by decide) ?_
    exact m_ir hx hb hlk hr hR hS (Option.some.inj h).symm dX10_about_9
theorem c_X10_about (l : Launch) (X : mX) (i1 : Int32) (i2 : Int32) (M : mM) {r : Int32 × mM} (h : f_X10_about i1 i2 M = some r) : mMi l yX10_about cX10_about 3 (some .int) 5 117 X [.ref (X.1 96), .int i1, .int i2] M r := m_ofi (by decide +kernel) (Nat.le_of_ble_eq_true rfl) rfl (fun p e s m args below meth c hs => w_X10_about hs i1 i2 M h)
set_option maxRecDepth 100000 in
set_option maxHeartbeats 4000000 in
theorem w_X10_at {l : Launch} {X : mX} {p : Program} {e : Env} {s : State} {m : MethodId} {args : Array Value} {below : List Frame} {meth : Method} {c : Code} {M : mM} {r : Int32} (hs : mS X RX10 cX10_at 3 (some .int) p s m meth c) : ∀ (i1 : Int32) (i2 : Int32), f_X10_at i1 i2 M = some r → mG X p l e (rmF 3 67) s m args below meth c (MQ below (mQi X M r) args s 0 0 (mL X)) 3 0 [(0, .ref (X.1 96)), (1, .int i1), (2, .int i2)] [] M := by
  obtain ⟨hx, hb, hml, hown, hF, hlk, hr⟩ := id hs
  intro i1 i2 h H locs ls hR hS hl
  refine lv_aload_n hx hb dX10_at_0 rfl (lv_at hl 0 rfl) ?_
  refine lv_iload_n hx hb dX10_at_1 rfl (lv_at hl 1 rfl) ?_
  refine lv_iload_n hx hb dX10_at_2 rfl (lv_at hl 2 rfl) ?_
  refine m_ci (m_rV hx hb hml hown hF hR hS (ent9 kd_96) kd_96 rfl (c_X10_isCell l X i1 i2 M) q_X10_125_V hdV_X10_isCell ⟨Nat.le_of_ble_eq_true rfl, Nat.le_of_ble_eq_true rfl⟩ rfl hl.1 rfl (Nat.le_of_ble_eq_true rfl) dX10_at_3) hS (fun H locs hR hS => ?_)
  refine lv_if_ne (tgt := 13) hx hb dX10_at_6 (by decide) (fun c6 => ?_) (fun c6 => ?_)
  · have h := mif_n h c6
    refine lv_aload_n hx hb dX10_at_13 rfl (lv_at hl 0 rfl) ?_
    refine lv_iload_n hx hb dX10_at_14 rfl (lv_at hl 1 rfl) ?_
    refine lv_iload_n hx hb dX10_at_15 rfl (lv_at hl 2 rfl) ?_
    obtain ⟨v16, q16, h⟩ := mbp_e h
    refine m_ci (m_rV hx hb hml hown hF hR hS (ent9 kd_96) kd_96 rfl (c_X10_cubeAt l X i1 i2 M q16) q_X10_133_V hdV_X10_cubeAt ⟨Nat.le_of_ble_eq_true rfl, Nat.le_of_ble_eq_true rfl⟩ rfl hl.1 rfl (Nat.le_of_ble_eq_true rfl) dX10_at_16) hS (fun H locs hR hS => ?_)
    refine lv_if_ge (tgt := 27) hx hb dX10_at_19 (by decide) (fun c19 => ?_) (fun c19 => ?_)
    · have h := mif_y h c19
      refine lv_aload_n hx hb dX10_at_27 rfl (lv_at hl 0 rfl) ?_
      refine lv_iload_n hx hb dX10_at_28 rfl (lv_at hl 1 rfl) ?_
      refine lv_iload_n hx hb dX10_at_29 rfl (lv_at hl 2 rfl) ?_
      obtain ⟨v30, q30, h⟩ := mbp_e h
      refine m_ci (m_rV hx hb hml hown hF hR hS (ent9 kd_96) kd_96 rfl (c_X10_cubeAt l X i1 i2 M q30) q_X10_133_V hdV_X10_cubeAt ⟨Nat.le_of_ble_eq_true rfl, Nat.le_of_ble_eq_true rfl⟩ rfl hl.1 rfl (Nat.le_of_ble_eq_true rfl) dX10_at_30) hS (fun H locs hR hS => ?_)
      exact m_ir hx hb hlk hr hR hS (congrArg (fun z => (z, M)) (Option.some.inj h).symm) dX10_at_33
    · have h := mif_n h c19
      refine lv_bipush (v := (-4)) hx hb dX10_at_22 (by decide) ?_
      refine lv_goto (tgt := 33) hx hb dX10_at_24 (by decide) ?_
      exact m_ir hx hb hlk hr hR hS (congrArg (fun z => (z, M)) (Option.some.inj h).symm) dX10_at_33
  · have h := mif_y h c6
    refine lv_iconst (v := (-1)) hx hb dX10_at_9 (by decide) ?_
    refine lv_goto (tgt := 33) hx hb dX10_at_10 (by decide) ?_
    exact m_ir hx hb hlk hr hR hS (congrArg (fun z => (z, M)) (Option.some.inj h).symm) dX10_at_33
theorem c_X10_at (l : Launch) (X : mX) (i1 : Int32) (i2 : Int32) (M : mM) {r : Int32} (h : f_X10_at i1 i2 M = some r) : mMi l yX10_at cX10_at 3 (some .int) 3 67 X [.ref (X.1 96), .int i1, .int i2] M (r, M) := m_ofi (by decide +kernel) (Nat.le_of_ble_eq_true rfl) rfl (fun p e s m args below meth c hs => w_X10_at hs i1 i2 h)
set_option maxRecDepth 100000 in
set_option maxHeartbeats 4000000 in
theorem w_X10_dead_b66 {l : Launch} {X : mX} {p : Program} {e : Env} {s : State} {m : MethodId} {args : Array Value} {below : List Frame} {meth : Method} {c : Code} {r : Int32 × mM} (hs : mS X RX10 cX10_dead 4 (some .int) p s m meth c) : ∀ (i1 : Int32) (i3 : Int32) (s1 : Int32) (s2 : Int32) (M : mM), f_X10_dead_b66 i1 i3 s1 s2 M = some r → mG X p l e (rmF 2 44) s m args below meth c (MQ below (mQi X r.2 r.1) args s 0 0 (mL X)) 4 66 [(0, .ref (X.1 96)), (1, .int i1), (3, .int i3)] [.int s2, .int s1, .ref (X.1 97)] M := by
  obtain ⟨hx, hb, hml, hown, hF, hlk, hr⟩ := id hs
  intro i1 i3 s1 s2 M h H locs ls hR hS hl
  obtain ⟨g66, h⟩ := mgd_e h
  obtain ⟨M66, eM66⟩ : ∃ y : mM, y = mI M 97 (Int32.toNatClampNeg s1) s2 := ⟨_, rfl⟩
  have h := mlt_n h M66 eM66
  refine m_iastL hx hb hR hS kd_97 g66 (jn := (Int32.toNatClampNeg s1)) rfl dX10_dead_66 eM66 (fun H locs hR hS => ?_)
  refine lv_aload_n hx hb dX10_dead_67 rfl (lv_at hl 0 rfl) ?_
  refine m_g9_1 hx hb hF hown hR kd_96 mw_5_138 dX10_dead_68 ?_
  refine lv_sipush (v := 1714) hx hb dX10_dead_71 (by decide) ?_
  refine lv_iload_n hx hb dX10_dead_74 rfl (lv_at hl 2 rfl) ?_
  refine lv_iadd hx hb dX10_dead_75 ?_
  refine lv_iload_n hx hb dX10_dead_76 rfl (lv_at hl 1 rfl) ?_
  obtain ⟨g77, h⟩ := mgd_e h
  obtain ⟨M77, eM77⟩ : ∃ y : mM, y = mI M66 97 (Int32.toNatClampNeg (1714 + i3)) i1 := ⟨_, rfl⟩
  have h := mlt_n h M77 eM77
  refine m_iastL hx hb hR hS kd_97 g77 (jn := (Int32.toNatClampNeg (1714 + i3))) rfl dX10_dead_77 eM77 (fun H locs hR hS => ?_)
  refine lv_aload_n hx hb dX10_dead_78 rfl (lv_at hl 0 rfl) ?_
  refine m_g9_1 hx hb hF hown hR kd_96 mw_5_138 dX10_dead_79 ?_
  refine lv_sipush (v := 1754) hx hb dX10_dead_82 (by decide) ?_
  refine lv_iload_n hx hb dX10_dead_85 rfl (lv_at hl 2 rfl) ?_
  refine lv_iadd hx hb dX10_dead_86 ?_
  refine lv_aload_n hx hb dX10_dead_87 rfl (lv_at hl 0 rfl) ?_
  refine m_g9_1 hx hb hF hown hR kd_96 mw_5_138 dX10_dead_88 ?_
  refine lv_iconst (v := 5) hx hb dX10_dead_91 (by decide) ?_
  refine m_ialdL hx hb hR kd_97 (show mIn 5 1834 from by decide) (jn := 5) (by decide) dX10_dead_92 ?_
  obtain ⟨g93, h⟩ := mgd_e h
  obtain ⟨M93, eM93⟩ : ∃ y : mM, y = mI M77 97 (Int32.toNatClampNeg (1754 + i3)) (M77.1 97 5) := ⟨_, rfl⟩
  have h := mlt_n h M93 eM93
  refine m_iastL hx hb hR hS kd_97 g93 (jn := (Int32.toNatClampNeg (1754 + i3))) rfl dX10_dead_93 eM93 (fun H locs hR hS => ?_)
  refine lv_aload_n hx hb dX10_dead_94 rfl (lv_at hl 0 rfl) ?_
  refine m_g9_1 hx hb hF hown hR kd_96 mw_5_138 dX10_dead_95 ?_
  refine lv_sipush (v := 1794) hx hb dX10_dead_98 (by decide) ?_
  refine lv_iload_n hx hb dX10_dead_101 rfl (lv_at hl 2 rfl) ?_
  refine lv_iadd hx hb dX10_dead_102 ?_
  refine lv_aload_n hx hb dX10_dead_103 rfl (lv_at hl 0 rfl) ?_
  refine m_g9_1 hx hb hF hown hR kd_96 mw_5_138 dX10_dead_104 ?_
  refine lv_bipush (v := 74) hx hb dX10_dead_107 (by decide) ?_
  refine lv_iload_n hx hb dX10_dead_109 rfl (lv_at hl 1 rfl) ?_
  refine lv_iadd hx hb dX10_dead_110 ?_
  obtain ⟨g111, h⟩ := mgd_e h
  refine m_ialdL hx hb hR kd_97 g111 (jn := (Int32.toNatClampNeg (74 + i1))) rfl dX10_dead_111 ?_
  obtain ⟨g112, h⟩ := mgd_e h
  obtain ⟨M112, eM112⟩ : ∃ y : mM, y = mI M93 97 (Int32.toNatClampNeg (1794 + i3)) (M93.1 97 (Int32.toNatClampNeg (74 + i1))) := ⟨_, rfl⟩
  have h := mlt_n h M112 eM112
  refine m_iastL hx hb hR hS kd_97 g112 (jn := (Int32.toNatClampNeg (1794 + i3))) rfl dX10_dead_112 eM112 (fun H locs hR hS => ?_)
  refine lv_aload_n hx hb dX10_dead_113 rfl (lv_at hl 0 rfl) ?_
  refine m_g9_1 hx hb hF hown hR kd_96 mw_5_138 dX10_dead_114 ?_
  refine lv_iconst (v := 4) hx hb dX10_dead_117 (by decide) ?_
  refine lv_dup2_11 hx hb dX10_dead_118 rfl rfl ?_
  refine m_ialdL hx hb hR kd_97 (show mIn 4 1834 from by decide) (jn := 4) (by decide) dX10_dead_119 ?_
  refine lv_iconst (v := 1) hx hb dX10_dead_120 (by decide) ?_
  refine lv_iadd hx hb dX10_dead_121 ?_
  obtain ⟨M122, eM122⟩ : ∃ y : mM, y = mI M112 97 4 ((M112.1 97 4) + 1) := ⟨_, rfl⟩
  have h := mlt_n h M122 eM122
  refine m_iastL hx hb hR hS kd_97 (show mIn 4 1834 from by decide) (jn := 4) (by decide) dX10_dead_122 eM122 (fun H locs hR hS => ?_)
  refine lv_iconst (v := 1) hx hb dX10_dead_123 (by decide) ?_
  exact m_ir hx hb hlk hr hR hS (Option.some.inj h).symm dX10_dead_124
set_option maxRecDepth 100000 in
set_option maxHeartbeats 4000000 in
theorem w_X10_dead_b28 {l : Launch} {X : mX} {p : Program} {e : Env} {s : State} {m : MethodId} {args : Array Value} {below : List Frame} {meth : Method} {c : Code} {r : Int32 × mM} (hs : mS X RX10 cX10_dead 4 (some .int) p s m meth c) : ∀ (i1 : Int32) (i2 : Int32) (s0 : Int32) (s1 : Int32) (M : mM), f_X10_dead_b28 i1 i2 s0 s1 M = some r → mG X p l e (rmF 2 44) s m args below meth c (MQ below (mQi X r.2 r.1) args s 0 0 (mL X)) 4 28 [(0, .ref (X.1 96)), (1, .int i1), (2, .int i2)] [.int s1, .int s0] M := by
  obtain ⟨hx, hb, hml, hown, hF, hlk, hr⟩ := id hs
  intro i1 i2 s0 s1 M h H locs ls hR hS hl
  refine lv_icmp_ne (tgt := 33) hx hb dX10_dead_28 (by decide) (fun c28 => ?_) (fun c28 => ?_)
  · have h := mif_n h c28
    refine lv_aload_n hx hb dX10_dead_33 rfl (lv_at hl 0 rfl) ?_
    refine m_g9_1 hx hb hF hown hR kd_96 mw_5_138 dX10_dead_34 ?_
    refine lv_iconst (v := 4) hx hb dX10_dead_37 (by decide) ?_
    refine m_ialdL hx hb hR kd_97 (show mIn 4 1834 from by decide) (jn := 4) (by decide) dX10_dead_38 ?_
    refine lv_istore_n (lv' := [(3, .int (M.1 97 4)), (0, .ref (X.1 96)), (1, .int i1), (2, .int i2)]) hx hb dX10_dead_39 rfl hl (by decide) rfl (fun ls hl => ?_)
    refine lv_iload_n hx hb dX10_dead_40 rfl (lv_at hl 0 rfl) ?_
    refine lv_bipush (v := 40) hx hb dX10_dead_41 (by decide) ?_
    refine lv_icmp_ne (tgt := 49) hx hb dX10_dead_43 (by decide) (fun c43 => ?_) (fun c43 => ?_)
    · have h := mif_n h c43
      refine lv_aload_n hx hb dX10_dead_49 rfl (lv_at hl 1 rfl) ?_
      refine m_g9_1 hx hb hF hown hR kd_96 mw_5_138 dX10_dead_50 ?_
      refine lv_bipush (v := 74) hx hb dX10_dead_53 (by decide) ?_
      refine lv_iload_n hx hb dX10_dead_55 rfl (lv_at hl 2 rfl) ?_
      refine lv_iadd hx hb dX10_dead_56 ?_
      refine lv_iload_n hx hb dX10_dead_57 rfl (lv_at hl 3 rfl) ?_
      refine lv_if_eq (tgt := 65) hx hb dX10_dead_58 (by decide) (fun c58 => ?_) (fun c58 => ?_)
      · have h := mif_y h c58
        refine lv_iconst (v := 0) hx hb dX10_dead_65 (by decide) ?_
        exact w_X10_dead_b66 hs i1 (M.1 97 4) (74 + i1) 0 M h H locs ls hR hS (lv_sub hl [1, 2, 0] rfl)
      · have h := mif_n h c58
        refine lv_iconst (v := 1) hx hb dX10_dead_61 (by decide) ?_
        refine lv_goto (tgt := 66) hx hb dX10_dead_62 (by decide) ?_
        exact w_X10_dead_b66 hs i1 (M.1 97 4) (74 + i1) 1 M h H locs ls hR hS (lv_sub hl [1, 2, 0] rfl)
    · have h := mif_y h c43
      refine lv_bipush (v := (-2)) hx hb dX10_dead_46 (by decide) ?_
      exact m_ir hx hb hlk hr hR hS (Option.some.inj h).symm dX10_dead_48
  · have h := mif_y h c28
    refine lv_iconst (v := 0) hx hb dX10_dead_31 (by decide) ?_
    exact m_ir hx hb hlk hr hR hS (Option.some.inj h).symm dX10_dead_32
set_option maxRecDepth 100000 in
set_option maxHeartbeats 4000000 in
theorem w_X10_dead {l : Launch} {X : mX} {p : Program} {e : Env} {s : State} {m : MethodId} {args : Array Value} {below : List Frame} {meth : Method} {c : Code} {r : Int32 × mM} (hs : mS X RX10 cX10_dead 4 (some .int) p s m meth c) : ∀ (i1 : Int32) (i2 : Int32) (M : mM), f_X10_dead i1 i2 M = some r → mG X p l e (rmF 2 44) s m args below meth c (MQ below (mQi X r.2 r.1) args s 0 0 (mL X)) 4 0 [(0, .ref (X.1 96)), (1, .int i1), (2, .int i2)] [] M := by
  obtain ⟨hx, hb, hml, hown, hF, hlk, hr⟩ := id hs
  intro i1 i2 M h H locs ls hR hS hl
  refine lv_aload_n hx hb dX10_dead_0 rfl (lv_at hl 0 rfl) ?_
  refine lv_iload_n hx hb dX10_dead_1 rfl (lv_at hl 1 rfl) ?_
  obtain ⟨v2, q2, h⟩ := mbp_e h
  refine m_ci (m_rV hx hb hml hown hF hR hS (ent9 kd_96) kd_96 rfl (c_X10_isCube l X i1 M q2) q_X10_161_V hdV_X10_isCube ⟨Nat.le_of_ble_eq_true rfl, Nat.le_of_ble_eq_true rfl⟩ rfl hl.1 rfl (Nat.le_of_ble_eq_true rfl) dX10_dead_2) hS (fun H locs hR hS => ?_)
  refine lv_if_ne (tgt := 10) hx hb dX10_dead_5 (by decide) (fun c5 => ?_) (fun c5 => ?_)
  · have h := mif_n h c5
    refine lv_aload_n hx hb dX10_dead_10 rfl (lv_at hl 0 rfl) ?_
    refine m_g9_1 hx hb hF hown hR kd_96 mw_5_138 dX10_dead_11 ?_
    refine lv_bipush (v := 74) hx hb dX10_dead_14 (by decide) ?_
    refine lv_iload_n hx hb dX10_dead_16 rfl (lv_at hl 1 rfl) ?_
    refine lv_iadd hx hb dX10_dead_17 ?_
    obtain ⟨g18, h⟩ := mgd_e h
    refine m_ialdL hx hb hR kd_97 g18 (jn := (Int32.toNatClampNeg (74 + i1))) rfl dX10_dead_18 ?_
    refine lv_iload_n hx hb dX10_dead_19 rfl (lv_at hl 2 rfl) ?_
    refine lv_if_eq (tgt := 27) hx hb dX10_dead_20 (by decide) (fun c20 => ?_) (fun c20 => ?_)
    · have h := mif_y h c20
      refine lv_iconst (v := 0) hx hb dX10_dead_27 (by decide) ?_
      exact w_X10_dead_b28 hs i1 i2 (M.1 97 (Int32.toNatClampNeg (74 + i1))) 0 M h H locs ls hR hS (lv_sub hl [0, 1, 2] rfl)
    · have h := mif_n h c20
      refine lv_iconst (v := 1) hx hb dX10_dead_23 (by decide) ?_
      refine lv_goto (tgt := 28) hx hb dX10_dead_24 (by decide) ?_
      exact w_X10_dead_b28 hs i1 i2 (M.1 97 (Int32.toNatClampNeg (74 + i1))) 1 M h H locs ls hR hS (lv_sub hl [0, 1, 2] rfl)
  · have h := mif_y h c5
    refine lv_iconst (v := (-1)) hx hb dX10_dead_8 (by decide) ?_
    exact m_ir hx hb hlk hr hR hS (Option.some.inj h).symm dX10_dead_9
theorem c_X10_dead (l : Launch) (X : mX) (i1 : Int32) (i2 : Int32) (M : mM) {r : Int32 × mM} (h : f_X10_dead i1 i2 M = some r) : mMi l yX10_dead cX10_dead 4 (some .int) 2 44 X [.ref (X.1 96), .int i1, .int i2] M r := m_ofi (by decide +kernel) (Nat.le_of_ble_eq_true rfl) rfl (fun p e s m args below meth c hs => w_X10_dead hs i1 i2 M h)
set_option maxRecDepth 100000 in
set_option maxHeartbeats 4000000 in
theorem w_X10_charge {l : Launch} {X : mX} {p : Program} {e : Env} {s : State} {m : MethodId} {args : Array Value} {below : List Frame} {meth : Method} {c : Code} {r : Int32 × mM} (hs : mS X RX10 cX10_charge 4 (some .int) p s m meth c) : ∀ (i1 : Int32) (i2 : Int32) (M : mM), f_X10_charge i1 i2 M = some r → mG X p l e (rmF 2 44) s m args below meth c (MQ below (mQi X r.2 r.1) args s 0 0 (mL X)) 4 0 [(0, .ref (X.1 96)), (1, .int i1), (2, .int i2)] [] M := by
  obtain ⟨hx, hb, hml, hown, hF, hlk, hr⟩ := id hs
  intro i1 i2 M h H locs ls hR hS hl
  refine lv_aload_n hx hb dX10_charge_0 rfl (lv_at hl 0 rfl) ?_
  refine lv_iload_n hx hb dX10_charge_1 rfl (lv_at hl 1 rfl) ?_
  obtain ⟨v2, q2, h⟩ := mbp_e h
  refine m_ci (m_rV hx hb hml hown hF hR hS (ent9 kd_96) kd_96 rfl (c_X10_isCube l X i1 M q2) q_X10_161_V hdV_X10_isCube ⟨Nat.le_of_ble_eq_true rfl, Nat.le_of_ble_eq_true rfl⟩ rfl hl.1 rfl (Nat.le_of_ble_eq_true rfl) dX10_charge_2) hS (fun H locs hR hS => ?_)
  refine lv_if_eq (tgt := 20) hx hb dX10_charge_5 (by decide) (fun c5 => ?_) (fun c5 => ?_)
  · have h := mif_y h c5
    refine lv_iconst (v := (-1)) hx hb dX10_charge_20 (by decide) ?_
    exact m_ir hx hb hlk hr hR hS (Option.some.inj h).symm dX10_charge_21
  · have h := mif_n h c5
    refine lv_aload_n hx hb dX10_charge_8 rfl (lv_at hl 0 rfl) ?_
    refine lv_iload_n hx hb dX10_charge_9 rfl (lv_at hl 2 rfl) ?_
    refine lv_iconst (v := 0) hx hb dX10_charge_10 (by decide) ?_
    refine lv_sipush (v := 999) hx hb dX10_charge_11 (by decide) ?_
    refine m_ci (m_rV hx hb hml hown hF hR hS (ent9 kd_96) kd_96 rfl (c_X10_is l X i2 0 999 M) q_X10_121_V hdV_X10_is ⟨Nat.le_of_ble_eq_true rfl, Nat.le_of_ble_eq_true rfl⟩ rfl hl.1 rfl (Nat.le_of_ble_eq_true rfl) dX10_charge_14) hS (fun H locs hR hS => ?_)
    refine lv_if_ne (tgt := 22) hx hb dX10_charge_17 (by decide) (fun c17 => ?_) (fun c17 => ?_)
    · have h := mif_n h c17
      refine lv_aload_n hx hb dX10_charge_22 rfl (lv_at hl 0 rfl) ?_
      refine m_g9_1 hx hb hF hown hR kd_96 mw_5_138 dX10_charge_23 ?_
      refine lv_bipush (v := 58) hx hb dX10_charge_26 (by decide) ?_
      refine lv_iload_n hx hb dX10_charge_28 rfl (lv_at hl 1 rfl) ?_
      refine lv_iadd hx hb dX10_charge_29 ?_
      obtain ⟨g30, h⟩ := mgd_e h
      refine m_ialdL hx hb hR kd_97 g30 (jn := (Int32.toNatClampNeg (58 + i1))) rfl dX10_charge_30 ?_
      refine lv_topi (fun x31 ex31 => ?_)
      have h := mlt_n h x31 ex31
      refine lv_istore_n (lv' := [(3, .int x31), (0, .ref (X.1 96)), (1, .int i1), (2, .int i2)]) hx hb dX10_charge_31 rfl hl (by decide) rfl (fun ls hl => ?_)
      refine lv_aload_n hx hb dX10_charge_32 rfl (lv_at hl 1 rfl) ?_
      refine m_g9_1 hx hb hF hown hR kd_96 mw_5_138 dX10_charge_33 ?_
      refine lv_bipush (v := 58) hx hb dX10_charge_36 (by decide) ?_
      refine lv_iload_n hx hb dX10_charge_38 rfl (lv_at hl 2 rfl) ?_
      refine lv_iadd hx hb dX10_charge_39 ?_
      refine lv_iload_n hx hb dX10_charge_40 rfl (lv_at hl 3 rfl) ?_
      obtain ⟨g41, h⟩ := mgd_e h
      obtain ⟨M41, eM41⟩ : ∃ y : mM, y = mI M 97 (Int32.toNatClampNeg (58 + i1)) i2 := ⟨_, rfl⟩
      have h := mlt_n h M41 eM41
      refine m_iastL hx hb hR hS kd_97 g41 (jn := (Int32.toNatClampNeg (58 + i1))) rfl dX10_charge_41 eM41 (fun H locs hR hS => ?_)
      refine lv_iload_n hx hb dX10_charge_42 rfl (lv_at hl 0 rfl) ?_
      exact m_ir hx hb hlk hr hR hS (Option.some.inj h).symm dX10_charge_43
    · have h := mif_y h c17
      refine lv_iconst (v := (-1)) hx hb dX10_charge_20 (by decide) ?_
      exact m_ir hx hb hlk hr hR hS (Option.some.inj h).symm dX10_charge_21
theorem c_X10_charge (l : Launch) (X : mX) (i1 : Int32) (i2 : Int32) (M : mM) {r : Int32 × mM} (h : f_X10_charge i1 i2 M = some r) : mMi l yX10_charge cX10_charge 4 (some .int) 2 44 X [.ref (X.1 96), .int i1, .int i2] M r := m_ofi (by decide +kernel) (Nat.le_of_ble_eq_true rfl) rfl (fun p e s m args below meth c hs => w_X10_charge hs i1 i2 M h)
set_option maxRecDepth 100000 in
set_option maxHeartbeats 4000000 in
theorem w_X10_east {l : Launch} {X : mX} {p : Program} {e : Env} {s : State} {m : MethodId} {args : Array Value} {below : List Frame} {meth : Method} {c : Code} {M : mM} {r : Int32} (hs : mS X RX10 cX10_east 2 (some .int) p s m meth c) : ∀ (i1 : Int32), f_X10_east i1 = r → mG X p l e (rmF 0 0) s m args below meth c (MQ below (mQi X M r) args s 0 0 (mL X)) 2 0 [(0, .ref (X.1 96)), (1, .int i1)] [] M := by
  obtain ⟨hx, hb, hml, hown, hF, hlk, hr⟩ := id hs
  intro i1 h H locs ls hR hS hl
  refine lv_iload_n hx hb dX10_east_0 rfl (lv_at hl 1 rfl) ?_
  refine lv_if_eq (tgt := 15) hx hb dX10_east_1 (by decide) (fun c1 => ?_) (fun c1 => ?_)
  · have h := mif_y h c1
    refine lv_iconst (v := 1) hx hb dX10_east_15 (by decide) ?_
    refine lv_goto (tgt := 40) hx hb dX10_east_16 (by decide) ?_
    exact m_ir hx hb hlk hr hR hS (congrArg (fun z => (z, M)) h.symm) dX10_east_40
  · have h := mif_n h c1
    refine lv_iload_n hx hb dX10_east_4 rfl (lv_at hl 1 rfl) ?_
    refine lv_iconst (v := 4) hx hb dX10_east_5 (by decide) ?_
    refine lv_icmp_eq (tgt := 15) hx hb dX10_east_6 (by decide) (fun c6 => ?_) (fun c6 => ?_)
    · have h := mif_y h c6
      refine lv_iconst (v := 1) hx hb dX10_east_15 (by decide) ?_
      refine lv_goto (tgt := 40) hx hb dX10_east_16 (by decide) ?_
      exact m_ir hx hb hlk hr hR hS (congrArg (fun z => (z, M)) h.symm) dX10_east_40
    · have h := mif_n h c6
      refine lv_iload_n hx hb dX10_east_9 rfl (lv_at hl 1 rfl) ?_
      refine lv_bipush (v := 7) hx hb dX10_east_10 (by decide) ?_
      refine lv_icmp_ne (tgt := 19) hx hb dX10_east_12 (by decide) (fun c12 => ?_) (fun c12 => ?_)
      · have h := mif_n h c12
        refine lv_iload_n hx hb dX10_east_19 rfl (lv_at hl 1 rfl) ?_
        refine lv_iconst (v := 2) hx hb dX10_east_20 (by decide) ?_
        refine lv_icmp_eq (tgt := 35) hx hb dX10_east_21 (by decide) (fun c21 => ?_) (fun c21 => ?_)
        · have h := mif_y h c21
          refine lv_iconst (v := (-1)) hx hb dX10_east_35 (by decide) ?_
          refine lv_goto (tgt := 40) hx hb dX10_east_36 (by decide) ?_
          exact m_ir hx hb hlk hr hR hS (congrArg (fun z => (z, M)) h.symm) dX10_east_40
        · have h := mif_n h c21
          refine lv_iload_n hx hb dX10_east_24 rfl (lv_at hl 1 rfl) ?_
          refine lv_iconst (v := 5) hx hb dX10_east_25 (by decide) ?_
          refine lv_icmp_eq (tgt := 35) hx hb dX10_east_26 (by decide) (fun c26 => ?_) (fun c26 => ?_)
          · have h := mif_y h c26
            refine lv_iconst (v := (-1)) hx hb dX10_east_35 (by decide) ?_
            refine lv_goto (tgt := 40) hx hb dX10_east_36 (by decide) ?_
            exact m_ir hx hb hlk hr hR hS (congrArg (fun z => (z, M)) h.symm) dX10_east_40
          · have h := mif_n h c26
            refine lv_iload_n hx hb dX10_east_29 rfl (lv_at hl 1 rfl) ?_
            refine lv_bipush (v := 6) hx hb dX10_east_30 (by decide) ?_
            refine lv_icmp_ne (tgt := 39) hx hb dX10_east_32 (by decide) (fun c32 => ?_) (fun c32 => ?_)
            · have h := mif_n h c32
              refine lv_iconst (v := 0) hx hb dX10_east_39 (by decide) ?_
              exact m_ir hx hb hlk hr hR hS (congrArg (fun z => (z, M)) h.symm) dX10_east_40
            · have h := mif_y h c32
              refine lv_iconst (v := (-1)) hx hb dX10_east_35 (by decide) ?_
              refine lv_goto (tgt := 40) hx hb dX10_east_36 (by decide) ?_
              exact m_ir hx hb hlk hr hR hS (congrArg (fun z => (z, M)) h.symm) dX10_east_40
      · have h := mif_y h c12
        refine lv_iconst (v := 1) hx hb dX10_east_15 (by decide) ?_
        refine lv_goto (tgt := 40) hx hb dX10_east_16 (by decide) ?_
        exact m_ir hx hb hlk hr hR hS (congrArg (fun z => (z, M)) h.symm) dX10_east_40
theorem c_X10_east (l : Launch) (X : mX) (i1 : Int32) (M : mM) : mMi l yX10_east cX10_east 2 (some .int) 0 0 X [.ref (X.1 96), .int i1] M (f_X10_east i1, M) := m_ofi (by decide +kernel) (Nat.le_of_ble_eq_true rfl) rfl (fun p e s m args below meth c hs => w_X10_east hs i1 rfl)
set_option maxRecDepth 100000 in
set_option maxHeartbeats 4000000 in
theorem w_X10_north {l : Launch} {X : mX} {p : Program} {e : Env} {s : State} {m : MethodId} {args : Array Value} {below : List Frame} {meth : Method} {c : Code} {M : mM} {r : Int32} (hs : mS X RX10 cX10_north 2 (some .int) p s m meth c) : ∀ (i1 : Int32), f_X10_north i1 = r → mG X p l e (rmF 0 0) s m args below meth c (MQ below (mQi X M r) args s 0 0 (mL X)) 2 0 [(0, .ref (X.1 96)), (1, .int i1)] [] M := by
  obtain ⟨hx, hb, hml, hown, hF, hlk, hr⟩ := id hs
  intro i1 h H locs ls hR hS hl
  refine lv_iload_n hx hb dX10_north_0 rfl (lv_at hl 1 rfl) ?_
  refine lv_iconst (v := 1) hx hb dX10_north_1 (by decide) ?_
  refine lv_icmp_eq (tgt := 15) hx hb dX10_north_2 (by decide) (fun c2 => ?_) (fun c2 => ?_)
  · have h := mif_y h c2
    refine lv_iconst (v := 1) hx hb dX10_north_15 (by decide) ?_
    refine lv_goto (tgt := 41) hx hb dX10_north_16 (by decide) ?_
    exact m_ir hx hb hlk hr hR hS (congrArg (fun z => (z, M)) h.symm) dX10_north_41
  · have h := mif_n h c2
    refine lv_iload_n hx hb dX10_north_5 rfl (lv_at hl 1 rfl) ?_
    refine lv_iconst (v := 4) hx hb dX10_north_6 (by decide) ?_
    refine lv_icmp_eq (tgt := 15) hx hb dX10_north_7 (by decide) (fun c7 => ?_) (fun c7 => ?_)
    · have h := mif_y h c7
      refine lv_iconst (v := 1) hx hb dX10_north_15 (by decide) ?_
      refine lv_goto (tgt := 41) hx hb dX10_north_16 (by decide) ?_
      exact m_ir hx hb hlk hr hR hS (congrArg (fun z => (z, M)) h.symm) dX10_north_41
    · have h := mif_n h c7
      refine lv_iload_n hx hb dX10_north_10 rfl (lv_at hl 1 rfl) ?_
      refine lv_iconst (v := 5) hx hb dX10_north_11 (by decide) ?_
      refine lv_icmp_ne (tgt := 19) hx hb dX10_north_12 (by decide) (fun c12 => ?_) (fun c12 => ?_)
      · have h := mif_n h c12
        refine lv_iload_n hx hb dX10_north_19 rfl (lv_at hl 1 rfl) ?_
        refine lv_iconst (v := 3) hx hb dX10_north_20 (by decide) ?_
        refine lv_icmp_eq (tgt := 36) hx hb dX10_north_21 (by decide) (fun c21 => ?_) (fun c21 => ?_)
        · have h := mif_y h c21
          refine lv_iconst (v := (-1)) hx hb dX10_north_36 (by decide) ?_
          refine lv_goto (tgt := 41) hx hb dX10_north_37 (by decide) ?_
          exact m_ir hx hb hlk hr hR hS (congrArg (fun z => (z, M)) h.symm) dX10_north_41
        · have h := mif_n h c21
          refine lv_iload_n hx hb dX10_north_24 rfl (lv_at hl 1 rfl) ?_
          refine lv_bipush (v := 6) hx hb dX10_north_25 (by decide) ?_
          refine lv_icmp_eq (tgt := 36) hx hb dX10_north_27 (by decide) (fun c27 => ?_) (fun c27 => ?_)
          · have h := mif_y h c27
            refine lv_iconst (v := (-1)) hx hb dX10_north_36 (by decide) ?_
            refine lv_goto (tgt := 41) hx hb dX10_north_37 (by decide) ?_
            exact m_ir hx hb hlk hr hR hS (congrArg (fun z => (z, M)) h.symm) dX10_north_41
          · have h := mif_n h c27
            refine lv_iload_n hx hb dX10_north_30 rfl (lv_at hl 1 rfl) ?_
            refine lv_bipush (v := 7) hx hb dX10_north_31 (by decide) ?_
            refine lv_icmp_ne (tgt := 40) hx hb dX10_north_33 (by decide) (fun c33 => ?_) (fun c33 => ?_)
            · have h := mif_n h c33
              refine lv_iconst (v := 0) hx hb dX10_north_40 (by decide) ?_
              exact m_ir hx hb hlk hr hR hS (congrArg (fun z => (z, M)) h.symm) dX10_north_41
            · have h := mif_y h c33
              refine lv_iconst (v := (-1)) hx hb dX10_north_36 (by decide) ?_
              refine lv_goto (tgt := 41) hx hb dX10_north_37 (by decide) ?_
              exact m_ir hx hb hlk hr hR hS (congrArg (fun z => (z, M)) h.symm) dX10_north_41
      · have h := mif_y h c12
        refine lv_iconst (v := 1) hx hb dX10_north_15 (by decide) ?_
        refine lv_goto (tgt := 41) hx hb dX10_north_16 (by decide) ?_
        exact m_ir hx hb hlk hr hR hS (congrArg (fun z => (z, M)) h.symm) dX10_north_41
theorem c_X10_north (l : Launch) (X : mX) (i1 : Int32) (M : mM) : mMi l yX10_north cX10_north 2 (some .int) 0 0 X [.ref (X.1 96), .int i1] M (f_X10_north i1, M) := m_ofi (by decide +kernel) (Nat.le_of_ble_eq_true rfl) rfl (fun p e s m args below meth c hs => w_X10_north hs i1 rfl)
set_option maxRecDepth 100000 in
set_option maxHeartbeats 4000000 in
theorem w_X10_isFree {l : Launch} {X : mX} {p : Program} {e : Env} {s : State} {m : MethodId} {args : Array Value} {below : List Frame} {meth : Method} {c : Code} {M : mM} {r : Int32} (hs : mS X RX10 cX10_isFree 3 (some .boolean) p s m meth c) : ∀ (i1 : Int32) (i2 : Int32), f_X10_isFree i1 i2 M = some r → mG X p l e (rmF 3 67) s m args below meth c (MQ below (mQi X M r) args s 0 0 (mL X)) 3 0 [(0, .ref (X.1 96)), (1, .int i1), (2, .int i2)] [] M := by
  obtain ⟨hx, hb, hml, hown, hF, hlk, hr⟩ := id hs
  intro i1 i2 h H locs ls hR hS hl
  refine lv_aload_n hx hb dX10_isFree_0 rfl (lv_at hl 0 rfl) ?_
  refine lv_iload_n hx hb dX10_isFree_1 rfl (lv_at hl 1 rfl) ?_
  refine lv_iload_n hx hb dX10_isFree_2 rfl (lv_at hl 2 rfl) ?_
  refine m_ci (m_rV hx hb hml hown hF hR hS (ent9 kd_96) kd_96 rfl (c_X10_isCell l X i1 i2 M) q_X10_125_V hdV_X10_isCell ⟨Nat.le_of_ble_eq_true rfl, Nat.le_of_ble_eq_true rfl⟩ rfl hl.1 rfl (Nat.le_of_ble_eq_true rfl) dX10_isFree_3) hS (fun H locs hR hS => ?_)
  refine lv_if_eq (tgt := 22) hx hb dX10_isFree_6 (by decide) (fun c6 => ?_) (fun c6 => ?_)
  · have h := mif_y h c6
    refine lv_iconst (v := 0) hx hb dX10_isFree_22 (by decide) ?_
    exact m_zr hx hb hlk hr hR hS (Or.inl rfl) (congrArg (fun z => (z, M)) (Option.some.inj h).symm) dX10_isFree_23
  · have h := mif_n h c6
    refine lv_aload_n hx hb dX10_isFree_9 rfl (lv_at hl 0 rfl) ?_
    refine lv_iload_n hx hb dX10_isFree_10 rfl (lv_at hl 1 rfl) ?_
    refine lv_iload_n hx hb dX10_isFree_11 rfl (lv_at hl 2 rfl) ?_
    obtain ⟨v12, q12, h⟩ := mbp_e h
    refine m_ci (m_rV hx hb hml hown hF hR hS (ent9 kd_96) kd_96 rfl (c_X10_cubeAt l X i1 i2 M q12) q_X10_133_V hdV_X10_cubeAt ⟨Nat.le_of_ble_eq_true rfl, Nat.le_of_ble_eq_true rfl⟩ rfl hl.1 rfl (Nat.le_of_ble_eq_true rfl) dX10_isFree_12) hS (fun H locs hR hS => ?_)
    refine lv_if_ge (tgt := 22) hx hb dX10_isFree_15 (by decide) (fun c15 => ?_) (fun c15 => ?_)
    · have h := mif_y h c15
      refine lv_iconst (v := 0) hx hb dX10_isFree_22 (by decide) ?_
      exact m_zr hx hb hlk hr hR hS (Or.inl rfl) (congrArg (fun z => (z, M)) (Option.some.inj h).symm) dX10_isFree_23
    · have h := mif_n h c15
      refine lv_iconst (v := 1) hx hb dX10_isFree_18 (by decide) ?_
      refine lv_goto (tgt := 23) hx hb dX10_isFree_19 (by decide) ?_
      exact m_zr hx hb hlk hr hR hS (Or.inr rfl) (congrArg (fun z => (z, M)) (Option.some.inj h).symm) dX10_isFree_23
theorem c_X10_isFree (l : Launch) (X : mX) (i1 : Int32) (i2 : Int32) (M : mM) {r : Int32} (h : f_X10_isFree i1 i2 M = some r) : mMi l yX10_isFree cX10_isFree 3 (some .boolean) 3 67 X [.ref (X.1 96), .int i1, .int i2] M (r, M) := m_ofi (by decide +kernel) (Nat.le_of_ble_eq_true rfl) rfl (fun p e s m args below meth c hs => w_X10_isFree hs i1 i2 h)
set_option maxRecDepth 100000 in
set_option maxHeartbeats 4000000 in
theorem w_X10_holds_b15 {l : Launch} {X : mX} {p : Program} {e : Env} {s : State} {m : MethodId} {args : Array Value} {below : List Frame} {meth : Method} {c : Code} {M : mM} {r : Int32} (hs : mS X RX10 cX10_holds 4 (some .boolean) p s m meth c) : ∀ (i1 : Int32) (i2 : Int32) (i3 : Int32), f_X10_holds_b15 i1 i2 i3 M = some r → mG X p l e (rmF 3 67) s m args below meth c (MQ below (mQi X M r) args s 0 0 (mL X)) 4 15 [(0, .ref (X.1 96)), (1, .int i1), (2, .int i2), (3, .int i3)] [] M := by
  obtain ⟨hx, hb, hml, hown, hF, hlk, hr⟩ := id hs
  intro i1 i2 i3 h H locs ls hR hS hl
  refine lv_aload_n hx hb dX10_holds_15 rfl (lv_at hl 0 rfl) ?_
  refine lv_iload_n hx hb dX10_holds_16 rfl (lv_at hl 1 rfl) ?_
  refine lv_iload_n hx hb dX10_holds_17 rfl (lv_at hl 2 rfl) ?_
  obtain ⟨v18, q18, h⟩ := mbp_e h
  refine m_ci (m_rV hx hb hml hown hF hR hS (ent9 kd_96) kd_96 rfl (c_X10_cubeAt l X i1 i2 M q18) q_X10_133_V hdV_X10_cubeAt ⟨Nat.le_of_ble_eq_true rfl, Nat.le_of_ble_eq_true rfl⟩ rfl hl.1 rfl (Nat.le_of_ble_eq_true rfl) dX10_holds_18) hS (fun H locs hR hS => ?_)
  refine lv_if_lt (tgt := 38) hx hb dX10_holds_21 (by decide) (fun c21 => ?_) (fun c21 => ?_)
  · have h := mif_y h c21
    refine lv_iconst (v := 0) hx hb dX10_holds_38 (by decide) ?_
    exact m_zr hx hb hlk hr hR hS (Or.inl rfl) (congrArg (fun z => (z, M)) (Option.some.inj h).symm) dX10_holds_39
  · have h := mif_n h c21
    refine lv_aload_n hx hb dX10_holds_24 rfl (lv_at hl 0 rfl) ?_
    refine lv_iload_n hx hb dX10_holds_25 rfl (lv_at hl 1 rfl) ?_
    refine lv_iload_n hx hb dX10_holds_26 rfl (lv_at hl 2 rfl) ?_
    obtain ⟨v27, q27, h⟩ := mbp_e h
    refine m_ci (m_rV hx hb hml hown hF hR hS (ent9 kd_96) kd_96 rfl (c_X10_cubeAt l X i1 i2 M q27) q_X10_133_V hdV_X10_cubeAt ⟨Nat.le_of_ble_eq_true rfl, Nat.le_of_ble_eq_true rfl⟩ rfl hl.1 rfl (Nat.le_of_ble_eq_true rfl) dX10_holds_27) hS (fun H locs hR hS => ?_)
    refine lv_iload_n hx hb dX10_holds_30 rfl (lv_at hl 3 rfl) ?_
    refine lv_icmp_eq (tgt := 38) hx hb dX10_holds_31 (by decide) (fun c31 => ?_) (fun c31 => ?_)
    · have h := mif_y h c31
      refine lv_iconst (v := 0) hx hb dX10_holds_38 (by decide) ?_
      exact m_zr hx hb hlk hr hR hS (Or.inl rfl) (congrArg (fun z => (z, M)) (Option.some.inj h).symm) dX10_holds_39
    · have h := mif_n h c31
      refine lv_iconst (v := 1) hx hb dX10_holds_34 (by decide) ?_
      refine lv_goto (tgt := 39) hx hb dX10_holds_35 (by decide) ?_
      exact m_zr hx hb hlk hr hR hS (Or.inr rfl) (congrArg (fun z => (z, M)) (Option.some.inj h).symm) dX10_holds_39
set_option maxRecDepth 100000 in
set_option maxHeartbeats 4000000 in
theorem w_X10_holds {l : Launch} {X : mX} {p : Program} {e : Env} {s : State} {m : MethodId} {args : Array Value} {below : List Frame} {meth : Method} {c : Code} {M : mM} {r : Int32} (hs : mS X RX10 cX10_holds 4 (some .boolean) p s m meth c) : ∀ (i1 : Int32) (i2 : Int32) (i3 : Int32), f_X10_holds i1 i2 i3 M = some r → mG X p l e (rmF 3 67) s m args below meth c (MQ below (mQi X M r) args s 0 0 (mL X)) 4 0 [(0, .ref (X.1 96)), (1, .int i1), (2, .int i2), (3, .int i3)] [] M := by
  obtain ⟨hx, hb, hml, hown, hF, hlk, hr⟩ := id hs
  intro i1 i2 i3 h H locs ls hR hS hl
  refine lv_iload_n hx hb dX10_holds_0 rfl (lv_at hl 2 rfl) ?_
  refine lv_if_ge (tgt := 15) hx hb dX10_holds_1 (by decide) (fun c1 => ?_) (fun c1 => ?_)
  · have h := mif_y h c1
    exact w_X10_holds_b15 hs i1 i2 i3 h H locs ls hR hS (lv_sub hl [0, 1, 2, 3] rfl)
  · have h := mif_n h c1
    refine lv_aload_n hx hb dX10_holds_4 rfl (lv_at hl 0 rfl) ?_
    refine lv_iload_n hx hb dX10_holds_5 rfl (lv_at hl 1 rfl) ?_
    refine lv_iconst (v := 0) hx hb dX10_holds_6 (by decide) ?_
    refine lv_bipush (v := 9) hx hb dX10_holds_7 (by decide) ?_
    refine m_ci (m_rV hx hb hml hown hF hR hS (ent9 kd_96) kd_96 rfl (c_X10_is l X i1 0 9 M) q_X10_121_V hdV_X10_is ⟨Nat.le_of_ble_eq_true rfl, Nat.le_of_ble_eq_true rfl⟩ rfl hl.1 rfl (Nat.le_of_ble_eq_true rfl) dX10_holds_9) hS (fun H locs hR hS => ?_)
    refine lv_if_ne (tgt := 34) hx hb dX10_holds_12 (by decide) (fun c12 => ?_) (fun c12 => ?_)
    · have h := mif_n h c12
      refine lv_iconst (v := 1) hx hb dX10_holds_34 (by decide) ?_
      refine lv_goto (tgt := 39) hx hb dX10_holds_35 (by decide) ?_
      exact m_zr hx hb hlk hr hR hS (Or.inr rfl) (congrArg (fun z => (z, M)) (Option.some.inj h).symm) dX10_holds_39
    · have h := mif_y h c12
      exact w_X10_holds_b15 hs i1 i2 i3 h H locs ls hR hS (lv_sub hl [0, 1, 2, 3] rfl)
theorem c_X10_holds (l : Launch) (X : mX) (i1 : Int32) (i2 : Int32) (i3 : Int32) (M : mM) {r : Int32} (h : f_X10_holds i1 i2 i3 M = some r) : mMi l yX10_holds cX10_holds 4 (some .boolean) 3 67 X [.ref (X.1 96), .int i1, .int i2, .int i3] M (r, M) := m_ofi (by decide +kernel) (Nat.le_of_ble_eq_true rfl) rfl (fun p e s m args below meth c hs => w_X10_holds hs i1 i2 i3 h)
set_option maxRecDepth 100000 in
set_option maxHeartbeats 4000000 in
theorem w_X10_hasSide_b112 {l : Launch} {X : mX} {p : Program} {e : Env} {s : State} {m : MethodId} {args : Array Value} {below : List Frame} {meth : Method} {c : Code} {M : mM} {r : Int32} (hs : mS X RX10 cX10_hasSide 10 (some .boolean) p s m meth c) : ∀ (i8 : Int32) (s0 : Int32), f_X10_hasSide_b112 i8 s0 M = some r → mG X p l e (rmF 4 90) s m args below meth c (MQ below (mQi X M r) args s 0 0 (mL X)) 10 112 [(8, .int i8)] [.int s0] M := by
  obtain ⟨hx, hb, hml, hown, hF, hlk, hr⟩ := id hs
  intro i8 s0 h H locs ls hR hS hl
  refine lv_istore (lv' := [(9, .int s0), (8, .int i8)]) hx hb dX10_hasSide_112 hl (by decide) rfl (fun ls hl => ?_)
  refine lv_iload hx hb dX10_hasSide_114 (lv_at hl 1 rfl) ?_
  refine lv_if_ne (tgt := 124) hx hb dX10_hasSide_116 (by decide) (fun c116 => ?_) (fun c116 => ?_)
  · have h := mif_n h c116
    refine lv_iconst (v := 1) hx hb dX10_hasSide_124 (by decide) ?_
    refine lv_goto (tgt := 129) hx hb dX10_hasSide_125 (by decide) ?_
    exact m_zr hx hb hlk hr hR hS (Or.inr rfl) (congrArg (fun z => (z, M)) (Option.some.inj h).symm) dX10_hasSide_129
  · have h := mif_y h c116
    refine lv_iload hx hb dX10_hasSide_119 (lv_at hl 0 rfl) ?_
    refine lv_if_eq (tgt := 128) hx hb dX10_hasSide_121 (by decide) (fun c121 => ?_) (fun c121 => ?_)
    · have h := mif_y h c121
      refine lv_iconst (v := 0) hx hb dX10_hasSide_128 (by decide) ?_
      exact m_zr hx hb hlk hr hR hS (Or.inl rfl) (congrArg (fun z => (z, M)) (Option.some.inj h).symm) dX10_hasSide_129
    · have h := mif_n h c121
      refine lv_iconst (v := 1) hx hb dX10_hasSide_124 (by decide) ?_
      refine lv_goto (tgt := 129) hx hb dX10_hasSide_125 (by decide) ?_
      exact m_zr hx hb hlk hr hR hS (Or.inr rfl) (congrArg (fun z => (z, M)) (Option.some.inj h).symm) dX10_hasSide_129
set_option maxRecDepth 100000 in
set_option maxHeartbeats 4000000 in
theorem w_X10_hasSide_b67 {l : Launch} {X : mX} {p : Program} {e : Env} {s : State} {m : MethodId} {args : Array Value} {below : List Frame} {meth : Method} {c : Code} {M : mM} {r : Int32} (hs : mS X RX10 cX10_hasSide 10 (some .boolean) p s m meth c) : ∀ (i1 : Int32) (i2 : Int32) (i3 : Int32) (i4 : Int32) (i5 : Int32) (i6 : Int32) (i7 : Int32) (s0 : Int32), f_X10_hasSide_b67 i1 i2 i3 i4 i5 i6 i7 s0 M = some r → mG X p l e (rmF 4 90) s m args below meth c (MQ below (mQi X M r) args s 0 0 (mL X)) 10 67 [(0, .ref (X.1 96)), (1, .int i1), (2, .int i2), (3, .int i3), (4, .int i4), (5, .int i5), (6, .int i6), (7, .int i7)] [.int s0] M := by
  obtain ⟨hx, hb, hml, hown, hF, hlk, hr⟩ := id hs
  intro i1 i2 i3 i4 i5 i6 i7 s0 h H locs ls hR hS hl
  refine lv_istore (lv' := [(8, .int s0), (0, .ref (X.1 96)), (1, .int i1), (2, .int i2), (3, .int i3), (4, .int i4), (5, .int i5), (6, .int i6), (7, .int i7)]) hx hb dX10_hasSide_67 hl (by decide) rfl (fun ls hl => ?_)
  refine lv_aload_n hx hb dX10_hasSide_69 rfl (lv_at hl 1 rfl) ?_
  refine lv_iload_n hx hb dX10_hasSide_70 rfl (lv_at hl 3 rfl) ?_
  refine lv_iload hx hb dX10_hasSide_71 (lv_at hl 7 rfl) ?_
  refine lv_isub hx hb dX10_hasSide_73 ?_
  refine lv_iload_n hx hb dX10_hasSide_74 rfl (lv_at hl 4 rfl) ?_
  refine lv_iload hx hb dX10_hasSide_75 (lv_at hl 8 rfl) ?_
  refine lv_isub hx hb dX10_hasSide_77 ?_
  refine lv_iload_n hx hb dX10_hasSide_78 rfl (lv_at hl 2 rfl) ?_
  obtain ⟨v79, q79, h⟩ := mbp_e h
  refine m_ci (m_rV hx hb hml hown hF hR hS (ent9 kd_96) kd_96 rfl (c_X10_holds l X (i2 - i6) (i3 - i7) i1 M q79) q_X10_170_V hdV_X10_holds ⟨Nat.le_of_ble_eq_true rfl, Nat.le_of_ble_eq_true rfl⟩ rfl hl.1 rfl (Nat.le_of_ble_eq_true rfl) dX10_hasSide_79) hS (fun H locs hR hS => ?_)
  refine lv_if_eq (tgt := 111) hx hb dX10_hasSide_82 (by decide) (fun c82 => ?_) (fun c82 => ?_)
  · have h := mif_y h c82
    refine lv_iconst (v := 0) hx hb dX10_hasSide_111 (by decide) ?_
    exact w_X10_hasSide_b112 hs s0 0 h H locs ls hR hS (lv_sub hl [0] rfl)
  · have h := mif_n h c82
    refine lv_aload_n hx hb dX10_hasSide_85 rfl (lv_at hl 1 rfl) ?_
    refine lv_iload_n hx hb dX10_hasSide_86 rfl (lv_at hl 3 rfl) ?_
    refine lv_iload hx hb dX10_hasSide_87 (lv_at hl 5 rfl) ?_
    refine lv_iadd hx hb dX10_hasSide_89 ?_
    refine lv_iload hx hb dX10_hasSide_90 (lv_at hl 7 rfl) ?_
    refine lv_isub hx hb dX10_hasSide_92 ?_
    refine lv_iload_n hx hb dX10_hasSide_93 rfl (lv_at hl 4 rfl) ?_
    refine lv_iload hx hb dX10_hasSide_94 (lv_at hl 6 rfl) ?_
    refine lv_iadd hx hb dX10_hasSide_96 ?_
    refine lv_iload hx hb dX10_hasSide_97 (lv_at hl 8 rfl) ?_
    refine lv_isub hx hb dX10_hasSide_99 ?_
    refine lv_iload_n hx hb dX10_hasSide_100 rfl (lv_at hl 2 rfl) ?_
    obtain ⟨v101, q101, h⟩ := mbp_e h
    refine m_ci (m_rV hx hb hml hown hF hR hS (ent9 kd_96) kd_96 rfl (c_X10_holds l X ((i2 + i4) - i6) ((i3 + i5) - i7) i1 M q101) q_X10_170_V hdV_X10_holds ⟨Nat.le_of_ble_eq_true rfl, Nat.le_of_ble_eq_true rfl⟩ rfl hl.1 rfl (Nat.le_of_ble_eq_true rfl) dX10_hasSide_101) hS (fun H locs hR hS => ?_)
    refine lv_if_eq (tgt := 111) hx hb dX10_hasSide_104 (by decide) (fun c104 => ?_) (fun c104 => ?_)
    · have h := mif_y h c104
      refine lv_iconst (v := 0) hx hb dX10_hasSide_111 (by decide) ?_
      exact w_X10_hasSide_b112 hs s0 0 h H locs ls hR hS (lv_sub hl [0] rfl)
    · have h := mif_n h c104
      refine lv_iconst (v := 1) hx hb dX10_hasSide_107 (by decide) ?_
      refine lv_goto (tgt := 112) hx hb dX10_hasSide_108 (by decide) ?_
      exact w_X10_hasSide_b112 hs s0 1 h H locs ls hR hS (lv_sub hl [0] rfl)
set_option maxRecDepth 100000 in
set_option maxHeartbeats 4000000 in
theorem w_X10_hasSide_b22 {l : Launch} {X : mX} {p : Program} {e : Env} {s : State} {m : MethodId} {args : Array Value} {below : List Frame} {meth : Method} {c : Code} {M : mM} {r : Int32} (hs : mS X RX10 cX10_hasSide 10 (some .boolean) p s m meth c) : ∀ (i1 : Int32) (i2 : Int32) (i3 : Int32) (i4 : Int32) (i5 : Int32) (i6 : Int32) (s0 : Int32), f_X10_hasSide_b22 i1 i2 i3 i4 i5 i6 s0 M = some r → mG X p l e (rmF 4 90) s m args below meth c (MQ below (mQi X M r) args s 0 0 (mL X)) 10 22 [(0, .ref (X.1 96)), (1, .int i1), (2, .int i2), (3, .int i3), (4, .int i4), (5, .int i5), (6, .int i6)] [.int s0] M := by
  obtain ⟨hx, hb, hml, hown, hF, hlk, hr⟩ := id hs
  intro i1 i2 i3 i4 i5 i6 s0 h H locs ls hR hS hl
  refine lv_istore (lv' := [(7, .int s0), (0, .ref (X.1 96)), (1, .int i1), (2, .int i2), (3, .int i3), (4, .int i4), (5, .int i5), (6, .int i6)]) hx hb dX10_hasSide_22 hl (by decide) rfl (fun ls hl => ?_)
  refine lv_aload_n hx hb dX10_hasSide_24 rfl (lv_at hl 1 rfl) ?_
  refine lv_iload_n hx hb dX10_hasSide_25 rfl (lv_at hl 3 rfl) ?_
  refine lv_iload hx hb dX10_hasSide_26 (lv_at hl 7 rfl) ?_
  refine lv_iadd hx hb dX10_hasSide_28 ?_
  refine lv_iload_n hx hb dX10_hasSide_29 rfl (lv_at hl 4 rfl) ?_
  refine lv_iload hx hb dX10_hasSide_30 (lv_at hl 0 rfl) ?_
  refine lv_iadd hx hb dX10_hasSide_32 ?_
  refine lv_iload_n hx hb dX10_hasSide_33 rfl (lv_at hl 2 rfl) ?_
  obtain ⟨v34, q34, h⟩ := mbp_e h
  refine m_ci (m_rV hx hb hml hown hF hR hS (ent9 kd_96) kd_96 rfl (c_X10_holds l X (i2 + i6) (i3 + s0) i1 M q34) q_X10_170_V hdV_X10_holds ⟨Nat.le_of_ble_eq_true rfl, Nat.le_of_ble_eq_true rfl⟩ rfl hl.1 rfl (Nat.le_of_ble_eq_true rfl) dX10_hasSide_34) hS (fun H locs hR hS => ?_)
  refine lv_if_eq (tgt := 66) hx hb dX10_hasSide_37 (by decide) (fun c37 => ?_) (fun c37 => ?_)
  · have h := mif_y h c37
    refine lv_iconst (v := 0) hx hb dX10_hasSide_66 (by decide) ?_
    exact w_X10_hasSide_b67 hs i1 i2 i3 i4 i5 i6 s0 0 h H locs ls hR hS (lv_sub hl [1, 2, 3, 4, 5, 6, 7, 0] rfl)
  · have h := mif_n h c37
    refine lv_aload_n hx hb dX10_hasSide_40 rfl (lv_at hl 1 rfl) ?_
    refine lv_iload_n hx hb dX10_hasSide_41 rfl (lv_at hl 3 rfl) ?_
    refine lv_iload hx hb dX10_hasSide_42 (lv_at hl 5 rfl) ?_
    refine lv_iadd hx hb dX10_hasSide_44 ?_
    refine lv_iload hx hb dX10_hasSide_45 (lv_at hl 7 rfl) ?_
    refine lv_iadd hx hb dX10_hasSide_47 ?_
    refine lv_iload_n hx hb dX10_hasSide_48 rfl (lv_at hl 4 rfl) ?_
    refine lv_iload hx hb dX10_hasSide_49 (lv_at hl 6 rfl) ?_
    refine lv_iadd hx hb dX10_hasSide_51 ?_
    refine lv_iload hx hb dX10_hasSide_52 (lv_at hl 0 rfl) ?_
    refine lv_iadd hx hb dX10_hasSide_54 ?_
    refine lv_iload_n hx hb dX10_hasSide_55 rfl (lv_at hl 2 rfl) ?_
    obtain ⟨v56, q56, h⟩ := mbp_e h
    refine m_ci (m_rV hx hb hml hown hF hR hS (ent9 kd_96) kd_96 rfl (c_X10_holds l X ((i2 + i4) + i6) ((i3 + i5) + s0) i1 M q56) q_X10_170_V hdV_X10_holds ⟨Nat.le_of_ble_eq_true rfl, Nat.le_of_ble_eq_true rfl⟩ rfl hl.1 rfl (Nat.le_of_ble_eq_true rfl) dX10_hasSide_56) hS (fun H locs hR hS => ?_)
    refine lv_if_eq (tgt := 66) hx hb dX10_hasSide_59 (by decide) (fun c59 => ?_) (fun c59 => ?_)
    · have h := mif_y h c59
      refine lv_iconst (v := 0) hx hb dX10_hasSide_66 (by decide) ?_
      exact w_X10_hasSide_b67 hs i1 i2 i3 i4 i5 i6 s0 0 h H locs ls hR hS (lv_sub hl [1, 2, 3, 4, 5, 6, 7, 0] rfl)
    · have h := mif_n h c59
      refine lv_iconst (v := 1) hx hb dX10_hasSide_62 (by decide) ?_
      refine lv_goto (tgt := 67) hx hb dX10_hasSide_63 (by decide) ?_
      exact w_X10_hasSide_b67 hs i1 i2 i3 i4 i5 i6 s0 1 h H locs ls hR hS (lv_sub hl [1, 2, 3, 4, 5, 6, 7, 0] rfl)
set_option maxRecDepth 100000 in
set_option maxHeartbeats 4000000 in
theorem w_X10_hasSide_b10 {l : Launch} {X : mX} {p : Program} {e : Env} {s : State} {m : MethodId} {args : Array Value} {below : List Frame} {meth : Method} {c : Code} {M : mM} {r : Int32} (hs : mS X RX10 cX10_hasSide 10 (some .boolean) p s m meth c) : ∀ (i1 : Int32) (i2 : Int32) (i3 : Int32) (i4 : Int32) (i5 : Int32) (s0 : Int32), f_X10_hasSide_b10 i1 i2 i3 i4 i5 s0 M = some r → mG X p l e (rmF 4 90) s m args below meth c (MQ below (mQi X M r) args s 0 0 (mL X)) 10 10 [(0, .ref (X.1 96)), (1, .int i1), (2, .int i2), (3, .int i3), (4, .int i4), (5, .int i5)] [.int s0] M := by
  obtain ⟨hx, hb, hml, hown, hF, hlk, hr⟩ := id hs
  intro i1 i2 i3 i4 i5 s0 h H locs ls hR hS hl
  refine lv_istore (lv' := [(6, .int s0), (0, .ref (X.1 96)), (1, .int i1), (2, .int i2), (3, .int i3), (4, .int i4), (5, .int i5)]) hx hb dX10_hasSide_10 hl (by decide) rfl (fun ls hl => ?_)
  refine lv_iload hx hb dX10_hasSide_12 (lv_at hl 6 rfl) ?_
  refine lv_if_ne (tgt := 21) hx hb dX10_hasSide_14 (by decide) (fun c14 => ?_) (fun c14 => ?_)
  · have h := mif_n h c14
    refine lv_iconst (v := 0) hx hb dX10_hasSide_21 (by decide) ?_
    exact w_X10_hasSide_b22 hs i1 i2 i3 i4 i5 s0 0 h H locs ls hR hS (lv_sub hl [1, 2, 3, 4, 5, 6, 0] rfl)
  · have h := mif_y h c14
    refine lv_iconst (v := 1) hx hb dX10_hasSide_17 (by decide) ?_
    refine lv_goto (tgt := 22) hx hb dX10_hasSide_18 (by decide) ?_
    exact w_X10_hasSide_b22 hs i1 i2 i3 i4 i5 s0 1 h H locs ls hR hS (lv_sub hl [1, 2, 3, 4, 5, 6, 0] rfl)
set_option maxRecDepth 100000 in
set_option maxHeartbeats 4000000 in
theorem w_X10_hasSide {l : Launch} {X : mX} {p : Program} {e : Env} {s : State} {m : MethodId} {args : Array Value} {below : List Frame} {meth : Method} {c : Code} {M : mM} {r : Int32} (hs : mS X RX10 cX10_hasSide 10 (some .boolean) p s m meth c) : ∀ (i1 : Int32) (i2 : Int32) (i3 : Int32) (i4 : Int32) (i5 : Int32), f_X10_hasSide i1 i2 i3 i4 i5 M = some r → mG X p l e (rmF 4 90) s m args below meth c (MQ below (mQi X M r) args s 0 0 (mL X)) 10 0 [(0, .ref (X.1 96)), (1, .int i1), (2, .int i2), (3, .int i3), (4, .int i4), (5, .int i5)] [] M := by
  obtain ⟨hx, hb, hml, hown, hF, hlk, hr⟩ := id hs
  intro i1 i2 i3 i4 i5 h H locs ls hR hS hl
  refine lv_iload hx hb dX10_hasSide_0 (lv_at hl 4 rfl) ?_
  refine lv_if_ne (tgt := 9) hx hb dX10_hasSide_2 (by decide) (fun c2 => ?_) (fun c2 => ?_)
  · have h := mif_n h c2
    refine lv_iconst (v := 0) hx hb dX10_hasSide_9 (by decide) ?_
    exact w_X10_hasSide_b10 hs i1 i2 i3 i4 i5 0 h H locs ls hR hS (lv_sub hl [0, 1, 2, 3, 4, 5] rfl)
  · have h := mif_y h c2
    refine lv_iconst (v := 1) hx hb dX10_hasSide_5 (by decide) ?_
    refine lv_goto (tgt := 10) hx hb dX10_hasSide_6 (by decide) ?_
    exact w_X10_hasSide_b10 hs i1 i2 i3 i4 i5 1 h H locs ls hR hS (lv_sub hl [0, 1, 2, 3, 4, 5] rfl)
theorem c_X10_hasSide (l : Launch) (X : mX) (i1 : Int32) (i2 : Int32) (i3 : Int32) (i4 : Int32) (i5 : Int32) (M : mM) {r : Int32} (h : f_X10_hasSide i1 i2 i3 i4 i5 M = some r) : mMi l yX10_hasSide cX10_hasSide 10 (some .boolean) 4 90 X [.ref (X.1 96), .int i1, .int i2, .int i3, .int i4, .int i5] M (r, M) := m_ofi (by decide +kernel) (Nat.le_of_ble_eq_true rfl) rfl (fun p e s m args below meth c hs => w_X10_hasSide hs i1 i2 i3 i4 i5 h)
set_option maxRecDepth 100000 in
set_option maxHeartbeats 4000000 in
theorem w_X10_sets {l : Launch} {X : mX} {p : Program} {e : Env} {s : State} {m : MethodId} {args : Array Value} {below : List Frame} {meth : Method} {c : Code} {r : mM} (hs : mS X RX10 cX10_sets 4 none p s m meth c) : ∀ (i1 : Int32) (i2 : Int32) (i3 : Int32) (M : mM), f_X10_sets i1 i2 i3 M = some r → mG X p l e (rmF 0 0) s m args below meth c (MQ below (mQv X r) args s 0 0 (mL X)) 4 0 [(0, .ref (X.1 96)), (1, .int i1), (2, .int i2), (3, .int i3)] [] M := by
  obtain ⟨hx, hb, hml, hown, hF, hlk, hr⟩ := id hs
  intro i1 i2 i3 M h H locs ls hR hS hl
  refine lv_aload_n hx hb dX10_sets_0 rfl (lv_at hl 0 rfl) ?_
  refine m_g9_4 hx hb hF hown hR kd_96 mw_5_141 dX10_sets_1 ?_
  refine lv_bipush (v := 8) hx hb dX10_sets_4 (by decide) ?_
  refine lv_aload_n hx hb dX10_sets_6 rfl (lv_at hl 0 rfl) ?_
  refine m_g9_1 hx hb hF hown hR kd_96 mw_5_138 dX10_sets_7 ?_
  refine lv_bipush (v := 26) hx hb dX10_sets_10 (by decide) ?_
  refine lv_iload_n hx hb dX10_sets_12 rfl (lv_at hl 1 rfl) ?_
  refine lv_iadd hx hb dX10_sets_13 ?_
  obtain ⟨g14, h⟩ := mgd_e h
  refine m_ialdL hx hb hR kd_97 g14 (jn := (Int32.toNatClampNeg (26 + i1))) rfl dX10_sets_14 ?_
  refine lv_imul hx hb dX10_sets_15 ?_
  refine lv_aload_n hx hb dX10_sets_16 rfl (lv_at hl 0 rfl) ?_
  refine m_g9_1 hx hb hF hown hR kd_96 mw_5_138 dX10_sets_17 ?_
  refine lv_bipush (v := 42) hx hb dX10_sets_20 (by decide) ?_
  refine lv_iload_n hx hb dX10_sets_22 rfl (lv_at hl 1 rfl) ?_
  refine lv_iadd hx hb dX10_sets_23 ?_
  obtain ⟨g24, h⟩ := mgd_e h
  refine m_ialdL hx hb hR kd_97 g24 (jn := (Int32.toNatClampNeg (42 + i1))) rfl dX10_sets_24 ?_
  refine lv_iadd hx hb dX10_sets_25 ?_
  refine lv_iconst (v := 0) hx hb dX10_sets_26 (by decide) ?_
  obtain ⟨g27, h⟩ := mgd_e h
  obtain ⟨M27, eM27⟩ : ∃ y : mM, y = mI M 99 (Int32.toNatClampNeg ((8 * (M.1 97 (Int32.toNatClampNeg (26 + i1)))) + (M.1 97 (Int32.toNatClampNeg (42 + i1))))) 0 := ⟨_, rfl⟩
  have h := mlt_n h M27 eM27
  refine m_iastL hx hb hR hS kd_99 g27 (jn := (Int32.toNatClampNeg ((8 * (M.1 97 (Int32.toNatClampNeg (26 + i1)))) + (M.1 97 (Int32.toNatClampNeg (42 + i1)))))) rfl dX10_sets_27 eM27 (fun H locs hR hS => ?_)
  refine lv_aload_n hx hb dX10_sets_28 rfl (lv_at hl 0 rfl) ?_
  refine m_g9_1 hx hb hF hown hR kd_96 mw_5_138 dX10_sets_29 ?_
  refine lv_bipush (v := 26) hx hb dX10_sets_32 (by decide) ?_
  refine lv_iload_n hx hb dX10_sets_34 rfl (lv_at hl 1 rfl) ?_
  refine lv_iadd hx hb dX10_sets_35 ?_
  refine lv_iload_n hx hb dX10_sets_36 rfl (lv_at hl 2 rfl) ?_
  obtain ⟨g37, h⟩ := mgd_e h
  obtain ⟨M37, eM37⟩ : ∃ y : mM, y = mI M27 97 (Int32.toNatClampNeg (26 + i1)) i2 := ⟨_, rfl⟩
  have h := mlt_n h M37 eM37
  refine m_iastL hx hb hR hS kd_97 g37 (jn := (Int32.toNatClampNeg (26 + i1))) rfl dX10_sets_37 eM37 (fun H locs hR hS => ?_)
  refine lv_aload_n hx hb dX10_sets_38 rfl (lv_at hl 0 rfl) ?_
  refine m_g9_1 hx hb hF hown hR kd_96 mw_5_138 dX10_sets_39 ?_
  refine lv_bipush (v := 42) hx hb dX10_sets_42 (by decide) ?_
  refine lv_iload_n hx hb dX10_sets_44 rfl (lv_at hl 1 rfl) ?_
  refine lv_iadd hx hb dX10_sets_45 ?_
  refine lv_iload_n hx hb dX10_sets_46 rfl (lv_at hl 3 rfl) ?_
  obtain ⟨g47, h⟩ := mgd_e h
  obtain ⟨M47, eM47⟩ : ∃ y : mM, y = mI M37 97 (Int32.toNatClampNeg (42 + i1)) i3 := ⟨_, rfl⟩
  have h := mlt_n h M47 eM47
  refine m_iastL hx hb hR hS kd_97 g47 (jn := (Int32.toNatClampNeg (42 + i1))) rfl dX10_sets_47 eM47 (fun H locs hR hS => ?_)
  refine lv_aload_n hx hb dX10_sets_48 rfl (lv_at hl 0 rfl) ?_
  refine m_g9_4 hx hb hF hown hR kd_96 mw_5_141 dX10_sets_49 ?_
  refine lv_bipush (v := 8) hx hb dX10_sets_52 (by decide) ?_
  refine lv_iload_n hx hb dX10_sets_54 rfl (lv_at hl 2 rfl) ?_
  refine lv_imul hx hb dX10_sets_55 ?_
  refine lv_iload_n hx hb dX10_sets_56 rfl (lv_at hl 3 rfl) ?_
  refine lv_iadd hx hb dX10_sets_57 ?_
  refine lv_iload_n hx hb dX10_sets_58 rfl (lv_at hl 1 rfl) ?_
  refine lv_iconst (v := 1) hx hb dX10_sets_59 (by decide) ?_
  refine lv_iadd hx hb dX10_sets_60 ?_
  obtain ⟨g61, h⟩ := mgd_e h
  obtain ⟨M61, eM61⟩ : ∃ y : mM, y = mI M47 99 (Int32.toNatClampNeg ((8 * i2) + i3)) (i1 + 1) := ⟨_, rfl⟩
  have h := mlt_n h M61 eM61
  refine m_iastL hx hb hR hS kd_99 g61 (jn := (Int32.toNatClampNeg ((8 * i2) + i3))) rfl dX10_sets_61 eM61 (fun H locs hR hS => ?_)
  exact m_vr hx hb hlk hr hR hS (Option.some.inj h).symm dX10_sets_62
theorem c_X10_sets (l : Launch) (X : mX) (i1 : Int32) (i2 : Int32) (i3 : Int32) (M : mM) {r : mM} (h : f_X10_sets i1 i2 i3 M = some r) : mMv l yX10_sets cX10_sets 4 0 0 X [.ref (X.1 96), .int i1, .int i2, .int i3] M r := m_ofv (by decide +kernel) (Nat.le_of_ble_eq_true rfl) rfl (fun p e s m args below meth c hs => w_X10_sets hs i1 i2 i3 M h)
set_option maxRecDepth 100000 in
set_option maxHeartbeats 4000000 in
theorem w_X10_isMove {l : Launch} {X : mX} {p : Program} {e : Env} {s : State} {m : MethodId} {args : Array Value} {below : List Frame} {meth : Method} {c : Code} {M : mM} {r : Int32} (hs : mS X RX10 cX10_isMove 2 (some .boolean) p s m meth c) : ∀ (i1 : Int32), f_X10_isMove i1 M = some r → mG X p l e (rmF 2 44) s m args below meth c (MQ below (mQi X M r) args s 0 0 (mL X)) 2 0 [(0, .ref (X.1 96)), (1, .int i1)] [] M := by
  obtain ⟨hx, hb, hml, hown, hF, hlk, hr⟩ := id hs
  intro i1 h H locs ls hR hS hl
  refine lv_iload_n hx hb dX10_isMove_0 rfl (lv_at hl 1 rfl) ?_
  refine lv_if_lt (tgt := 19) hx hb dX10_isMove_1 (by decide) (fun c1 => ?_) (fun c1 => ?_)
  · have h := mif_y h c1
    refine lv_iconst (v := 0) hx hb dX10_isMove_19 (by decide) ?_
    exact m_zr hx hb hlk hr hR hS (Or.inl rfl) (congrArg (fun z => (z, M)) (Option.some.inj h).symm) dX10_isMove_20
  · have h := mif_n h c1
    refine lv_aload_n hx hb dX10_isMove_4 rfl (lv_at hl 0 rfl) ?_
    refine lv_iload_n hx hb dX10_isMove_5 rfl (lv_at hl 1 rfl) ?_
    refine lv_bipush (v := 8) hx hb dX10_isMove_6 (by decide) ?_
    refine lv_idiv hx hb dX10_isMove_8 (by decide) ?_
    obtain ⟨v9, q9, h⟩ := mbp_e h
    refine m_ci (m_rV hx hb hml hown hF hR hS (ent9 kd_96) kd_96 rfl (c_X10_isCube l X (i1 / 8) M q9) q_X10_161_V hdV_X10_isCube ⟨Nat.le_of_ble_eq_true rfl, Nat.le_of_ble_eq_true rfl⟩ rfl hl.1 rfl (Nat.le_of_ble_eq_true rfl) dX10_isMove_9) hS (fun H locs hR hS => ?_)
    refine lv_if_eq (tgt := 19) hx hb dX10_isMove_12 (by decide) (fun c12 => ?_) (fun c12 => ?_)
    · have h := mif_y h c12
      refine lv_iconst (v := 0) hx hb dX10_isMove_19 (by decide) ?_
      exact m_zr hx hb hlk hr hR hS (Or.inl rfl) (congrArg (fun z => (z, M)) (Option.some.inj h).symm) dX10_isMove_20
    · have h := mif_n h c12
      refine lv_iconst (v := 1) hx hb dX10_isMove_15 (by decide) ?_
      refine lv_goto (tgt := 20) hx hb dX10_isMove_16 (by decide) ?_
      exact m_zr hx hb hlk hr hR hS (Or.inr rfl) (congrArg (fun z => (z, M)) (Option.some.inj h).symm) dX10_isMove_20
theorem c_X10_isMove (l : Launch) (X : mX) (i1 : Int32) (M : mM) {r : Int32} (h : f_X10_isMove i1 M = some r) : mMi l yX10_isMove cX10_isMove 2 (some .boolean) 2 44 X [.ref (X.1 96), .int i1] M (r, M) := m_ofi (by decide +kernel) (Nat.le_of_ble_eq_true rfl) rfl (fun p e s m args below meth c hs => w_X10_isMove hs i1 h)
set_option maxRecDepth 100000 in
set_option maxHeartbeats 4000000 in
theorem w_X10_canMove_b157 {l : Launch} {X : mX} {p : Program} {e : Env} {s : State} {m : MethodId} {args : Array Value} {below : List Frame} {meth : Method} {c : Code} {r : Int32 × mM} (hs : mS X RX10 cX10_canMove 9 (some .boolean) p s m meth c) : ∀ (i2 : Int32) (i4 : Int32) (i5 : Int32) (i6 : Int32) (i7 : Int32) (M : mM), f_X10_canMove_b157 i2 i4 i5 i6 i7 M = some r → mG X p l e (rmF 6 135) s m args below meth c (MQ below (mQi X r.2 r.1) args s 0 0 (mL X)) 9 157 [(0, .ref (X.1 96)), (2, .int i2), (4, .int i4), (5, .int i5), (6, .int i6), (7, .int i7)] [] M := by
  obtain ⟨hx, hb, hml, hown, hF, hlk, hr⟩ := id hs
  intro i2 i4 i5 i6 i7 M h H locs ls hR hS hl
  refine lv_aload_n hx hb dX10_canMove_157 rfl (lv_at hl 0 rfl) ?_
  refine lv_aload_n hx hb dX10_canMove_158 rfl (lv_at hl 0 rfl) ?_
  refine m_ci (m_rV hx hb hml hown hF hR hS (ent9 kd_96) kd_96 rfl (c_X10_everyone l X M) q_X10_140_V hdV_X10_everyone ⟨Nat.le_of_ble_eq_true rfl, Nat.le_of_ble_eq_true rfl⟩ rfl hl.1 rfl (Nat.le_of_ble_eq_true rfl) dX10_canMove_159) hS (fun H locs hR hS => ?_)
  refine lv_iconst (v := 1) hx hb dX10_canMove_162 (by decide) ?_
  refine lv_iload_n hx hb dX10_canMove_163 rfl (lv_at hl 1 rfl) ?_
  refine lv_ishl hx hb dX10_canMove_164 ?_
  refine lv_iconst (v := (-1)) hx hb dX10_canMove_165 (by decide) ?_
  refine lv_ixor hx hb dX10_canMove_166 ?_
  refine lv_iand hx hb dX10_canMove_167 ?_
  obtain ⟨v168, q168, h⟩ := mbp_e h
  refine m_ci (m_rV hx hb hml hown hF hR hS (ent9 kd_96) kd_96 rfl (c_X10_isWhole l X ((f_X10_everyone M) &&& ((1 <<< (i2 &&& 31)) ^^^ (-1))) M q168) q_X10_144_V hdV_X10_isWhole ⟨Nat.le_of_ble_eq_true rfl, Nat.le_of_ble_eq_true rfl⟩ rfl hl.1 rfl (Nat.le_of_ble_eq_true rfl) dX10_canMove_168) hS (fun H locs hR hS => ?_)
  refine lv_if_ne (tgt := 176) hx hb dX10_canMove_171 (by decide) (fun c171 => ?_) (fun c171 => ?_)
  · have h := mif_n h c171
    refine lv_aload_n hx hb dX10_canMove_176 rfl (lv_at hl 0 rfl) ?_
    refine lv_iload_n hx hb dX10_canMove_177 rfl (lv_at hl 1 rfl) ?_
    refine lv_iload hx hb dX10_canMove_178 (lv_at hl 2 rfl) ?_
    refine lv_iload hx hb dX10_canMove_180 (lv_at hl 4 rfl) ?_
    refine lv_iadd hx hb dX10_canMove_182 ?_
    refine lv_iload hx hb dX10_canMove_183 (lv_at hl 3 rfl) ?_
    refine lv_iload hx hb dX10_canMove_185 (lv_at hl 5 rfl) ?_
    refine lv_iadd hx hb dX10_canMove_187 ?_
    obtain ⟨M188, q188, h⟩ := mbp_e h
    refine m_cv (m_rV hx hb hml hown hF hR hS (ent9 kd_96) kd_96 rfl (c_X10_sets l X i2 (i4 + i6) (i5 + i7) M q188) q_X10_189_V hdV_X10_sets ⟨Nat.le_of_ble_eq_true rfl, Nat.le_of_ble_eq_true rfl⟩ rfl hl.1 rfl (Nat.le_of_ble_eq_true rfl) dX10_canMove_188) hS (fun H locs hR hS => ?_)
    refine lv_aload_n hx hb dX10_canMove_191 rfl (lv_at hl 0 rfl) ?_
    refine lv_aload_n hx hb dX10_canMove_192 rfl (lv_at hl 0 rfl) ?_
    refine m_ci (m_rV hx hb hml hown hF hR hS (ent9 kd_96) kd_96 rfl (c_X10_everyone l X M188) q_X10_140_V hdV_X10_everyone ⟨Nat.le_of_ble_eq_true rfl, Nat.le_of_ble_eq_true rfl⟩ rfl hl.1 rfl (Nat.le_of_ble_eq_true rfl) dX10_canMove_193) hS (fun H locs hR hS => ?_)
    obtain ⟨v196, q196, h⟩ := mbp_e h
    refine m_ci (m_rV hx hb hml hown hF hR hS (ent9 kd_96) kd_96 rfl (c_X10_isWhole l X (f_X10_everyone M188) M188 q196) q_X10_144_V hdV_X10_isWhole ⟨Nat.le_of_ble_eq_true rfl, Nat.le_of_ble_eq_true rfl⟩ rfl hl.1 rfl (Nat.le_of_ble_eq_true rfl) dX10_canMove_196) hS (fun H locs hR hS => ?_)
    refine lv_istore (lv' := [(8, .int v196), (0, .ref (X.1 96)), (2, .int i2), (4, .int i4), (5, .int i5), (6, .int i6), (7, .int i7)]) hx hb dX10_canMove_199 hl (by decide) rfl (fun ls hl => ?_)
    refine lv_aload_n hx hb dX10_canMove_201 rfl (lv_at hl 1 rfl) ?_
    refine lv_iload_n hx hb dX10_canMove_202 rfl (lv_at hl 2 rfl) ?_
    refine lv_iload hx hb dX10_canMove_203 (lv_at hl 3 rfl) ?_
    refine lv_iload hx hb dX10_canMove_205 (lv_at hl 4 rfl) ?_
    obtain ⟨M207, q207, h⟩ := mbp_e h
    refine m_cv (m_rV hx hb hml hown hF hR hS (ent9 kd_96) kd_96 rfl (c_X10_sets l X i2 i4 i5 M188 q207) q_X10_189_V hdV_X10_sets ⟨Nat.le_of_ble_eq_true rfl, Nat.le_of_ble_eq_true rfl⟩ rfl hl.1 rfl (Nat.le_of_ble_eq_true rfl) dX10_canMove_207) hS (fun H locs hR hS => ?_)
    refine lv_iload hx hb dX10_canMove_210 (lv_at hl 0 rfl) ?_
    obtain ⟨g212, h⟩ := mgd_e h
    exact m_zr hx hb hlk hr hR hS g212 (Option.some.inj h).symm dX10_canMove_212
  · have h := mif_y h c171
    refine lv_iconst (v := 0) hx hb dX10_canMove_174 (by decide) ?_
    exact m_zr hx hb hlk hr hR hS (Or.inl rfl) (Option.some.inj h).symm dX10_canMove_175
set_option maxRecDepth 100000 in
set_option maxHeartbeats 4000000 in
theorem w_X10_canMove {l : Launch} {X : mX} {p : Program} {e : Env} {s : State} {m : MethodId} {args : Array Value} {below : List Frame} {meth : Method} {c : Code} {r : Int32 × mM} (hs : mS X RX10 cX10_canMove 9 (some .boolean) p s m meth c) : ∀ (i1 : Int32) (M : mM), f_X10_canMove i1 M = some r → mG X p l e (rmF 6 135) s m args below meth c (MQ below (mQi X r.2 r.1) args s 0 0 (mL X)) 9 0 [(0, .ref (X.1 96)), (1, .int i1)] [] M := by
  obtain ⟨hx, hb, hml, hown, hF, hlk, hr⟩ := id hs
  intro i1 M h H locs ls hR hS hl
  refine lv_iload_n hx hb dX10_canMove_0 rfl (lv_at hl 1 rfl) ?_
  refine lv_bipush (v := 8) hx hb dX10_canMove_1 (by decide) ?_
  refine lv_idiv hx hb dX10_canMove_3 (by decide) ?_
  refine lv_istore_n (lv' := [(2, .int (i1 / 8)), (0, .ref (X.1 96)), (1, .int i1)]) hx hb dX10_canMove_4 rfl hl (by decide) rfl (fun ls hl => ?_)
  refine lv_iload_n hx hb dX10_canMove_5 rfl (lv_at hl 2 rfl) ?_
  refine lv_bipush (v := 8) hx hb dX10_canMove_6 (by decide) ?_
  refine lv_irem hx hb dX10_canMove_8 (by decide) ?_
  refine lv_topi (fun x9 ex9 => ?_)
  have h := mlt_n h x9 ex9
  refine lv_istore_n (lv' := [(3, .int x9), (2, .int (i1 / 8)), (0, .ref (X.1 96)), (1, .int i1)]) hx hb dX10_canMove_9 rfl hl (by decide) rfl (fun ls hl => ?_)
  refine lv_aload_n hx hb dX10_canMove_10 rfl (lv_at hl 2 rfl) ?_
  refine m_g9_1 hx hb hF hown hR kd_96 mw_5_138 dX10_canMove_11 ?_
  refine lv_bipush (v := 26) hx hb dX10_canMove_14 (by decide) ?_
  refine lv_iload_n hx hb dX10_canMove_16 rfl (lv_at hl 1 rfl) ?_
  refine lv_iadd hx hb dX10_canMove_17 ?_
  obtain ⟨g18, h⟩ := mgd_e h
  refine m_ialdL hx hb hR kd_97 g18 (jn := (Int32.toNatClampNeg (26 + (i1 / 8)))) rfl dX10_canMove_18 ?_
  refine lv_topi (fun x19 ex19 => ?_)
  have h := mlt_n h x19 ex19
  refine lv_istore (lv' := [(4, .int x19), (3, .int x9), (2, .int (i1 / 8)), (0, .ref (X.1 96)), (1, .int i1)]) hx hb dX10_canMove_19 hl (by decide) rfl (fun ls hl => ?_)
  refine lv_aload_n hx hb dX10_canMove_21 rfl (lv_at hl 3 rfl) ?_
  refine m_g9_1 hx hb hF hown hR kd_96 mw_5_138 dX10_canMove_22 ?_
  refine lv_bipush (v := 42) hx hb dX10_canMove_25 (by decide) ?_
  refine lv_iload_n hx hb dX10_canMove_27 rfl (lv_at hl 2 rfl) ?_
  refine lv_iadd hx hb dX10_canMove_28 ?_
  obtain ⟨g29, h⟩ := mgd_e h
  refine m_ialdL hx hb hR kd_97 g29 (jn := (Int32.toNatClampNeg (42 + (i1 / 8)))) rfl dX10_canMove_29 ?_
  refine lv_topi (fun x30 ex30 => ?_)
  have h := mlt_n h x30 ex30
  refine lv_istore (lv' := [(5, .int x30), (4, .int x19), (3, .int x9), (2, .int (i1 / 8)), (0, .ref (X.1 96)), (1, .int i1)]) hx hb dX10_canMove_30 hl (by decide) rfl (fun ls hl => ?_)
  refine lv_aload_n hx hb dX10_canMove_32 rfl (lv_at hl 4 rfl) ?_
  refine lv_iload_n hx hb dX10_canMove_33 rfl (lv_at hl 2 rfl) ?_
  refine m_ci (m_rV hx hb hml hown hF hR hS (ent9 kd_96) kd_96 rfl (c_X10_east l X x9 M) q_X10_173_V hdV_X10_east ⟨Nat.le_of_ble_eq_true rfl, Nat.le_of_ble_eq_true rfl⟩ rfl hl.1 rfl (Nat.le_of_ble_eq_true rfl) dX10_canMove_34) hS (fun H locs hR hS => ?_)
  refine lv_topi (fun x37 ex37 => ?_)
  have h := mlt_n h x37 ex37
  refine lv_istore (lv' := [(6, .int x37), (5, .int x30), (4, .int x19), (3, .int x9), (2, .int (i1 / 8)), (0, .ref (X.1 96)), (1, .int i1)]) hx hb dX10_canMove_37 hl (by decide) rfl (fun ls hl => ?_)
  refine lv_aload_n hx hb dX10_canMove_39 rfl (lv_at hl 5 rfl) ?_
  refine lv_iload_n hx hb dX10_canMove_40 rfl (lv_at hl 3 rfl) ?_
  refine m_ci (m_rV hx hb hml hown hF hR hS (ent9 kd_96) kd_96 rfl (c_X10_north l X x9 M) q_X10_176_V hdV_X10_north ⟨Nat.le_of_ble_eq_true rfl, Nat.le_of_ble_eq_true rfl⟩ rfl hl.1 rfl (Nat.le_of_ble_eq_true rfl) dX10_canMove_41) hS (fun H locs hR hS => ?_)
  refine lv_topi (fun x44 ex44 => ?_)
  have h := mlt_n h x44 ex44
  refine lv_istore (lv' := [(7, .int x44), (6, .int x37), (5, .int x30), (4, .int x19), (3, .int x9), (2, .int (i1 / 8)), (0, .ref (X.1 96)), (1, .int i1)]) hx hb dX10_canMove_44 hl (by decide) rfl (fun ls hl => ?_)
  refine lv_aload_n hx hb dX10_canMove_46 rfl (lv_at hl 6 rfl) ?_
  refine m_g9_1 hx hb hF hown hR kd_96 mw_5_138 dX10_canMove_47 ?_
  refine lv_bipush (v := 74) hx hb dX10_canMove_50 (by decide) ?_
  refine lv_iload_n hx hb dX10_canMove_52 rfl (lv_at hl 5 rfl) ?_
  refine lv_iadd hx hb dX10_canMove_53 ?_
  obtain ⟨g54, h⟩ := mgd_e h
  refine m_ialdL hx hb hR kd_97 g54 (jn := (Int32.toNatClampNeg (74 + (i1 / 8)))) rfl dX10_canMove_54 ?_
  refine lv_iconst (v := 1) hx hb dX10_canMove_55 (by decide) ?_
  refine lv_icmp_eq (tgt := 101) hx hb dX10_canMove_56 (by decide) (fun c56 => ?_) (fun c56 => ?_)
  · have h := mif_y h c56
    refine lv_iconst (v := 0) hx hb dX10_canMove_101 (by decide) ?_
    exact m_zr hx hb hlk hr hR hS (Or.inl rfl) (Option.some.inj h).symm dX10_canMove_102
  · have h := mif_n h c56
    refine lv_aload_n hx hb dX10_canMove_59 rfl (lv_at hl 6 rfl) ?_
    refine m_g9_1 hx hb hF hown hR kd_96 mw_5_138 dX10_canMove_60 ?_
    refine lv_bipush (v := 58) hx hb dX10_canMove_63 (by decide) ?_
    refine lv_iload_n hx hb dX10_canMove_65 rfl (lv_at hl 5 rfl) ?_
    refine lv_iadd hx hb dX10_canMove_66 ?_
    obtain ⟨g67, h⟩ := mgd_e h
    refine m_ialdL hx hb hR kd_97 g67 (jn := (Int32.toNatClampNeg (58 + (i1 / 8)))) rfl dX10_canMove_67 ?_
    refine lv_aload_n hx hb dX10_canMove_68 rfl (lv_at hl 6 rfl) ?_
    refine lv_aload_n hx hb dX10_canMove_69 rfl (lv_at hl 6 rfl) ?_
    refine m_g9_1 hx hb hF hown hR kd_96 mw_5_138 dX10_canMove_70 ?_
    refine lv_bipush (v := 10) hx hb dX10_canMove_73 (by decide) ?_
    refine lv_iload_n hx hb dX10_canMove_75 rfl (lv_at hl 5 rfl) ?_
    refine lv_iadd hx hb dX10_canMove_76 ?_
    obtain ⟨g77, h⟩ := mgd_e h
    refine m_ialdL hx hb hR kd_97 g77 (jn := (Int32.toNatClampNeg (10 + (i1 / 8)))) rfl dX10_canMove_77 ?_
    refine m_ci (m_rV hx hb hml hown hF hR hS (ent9 kd_96) kd_96 rfl (c_X10_costOf l X (M.1 97 (Int32.toNatClampNeg (10 + (i1 / 8)))) M) q_X10_179_V hdV_X10_costOf ⟨Nat.le_of_ble_eq_true rfl, Nat.le_of_ble_eq_true rfl⟩ rfl hl.1 rfl (Nat.le_of_ble_eq_true rfl) dX10_canMove_78) hS (fun H locs hR hS => ?_)
    refine lv_icmp_lt (tgt := 101) hx hb dX10_canMove_81 (by decide) (fun c81 => ?_) (fun c81 => ?_)
    · have h := mif_y h c81
      refine lv_iconst (v := 0) hx hb dX10_canMove_101 (by decide) ?_
      exact m_zr hx hb hlk hr hR hS (Or.inl rfl) (Option.some.inj h).symm dX10_canMove_102
    · have h := mif_n h c81
      refine lv_aload_n hx hb dX10_canMove_84 rfl (lv_at hl 6 rfl) ?_
      refine lv_iload hx hb dX10_canMove_85 (lv_at hl 3 rfl) ?_
      refine lv_iload hx hb dX10_canMove_87 (lv_at hl 1 rfl) ?_
      refine lv_iadd hx hb dX10_canMove_89 ?_
      refine lv_iload hx hb dX10_canMove_90 (lv_at hl 2 rfl) ?_
      refine lv_iload hx hb dX10_canMove_92 (lv_at hl 0 rfl) ?_
      refine lv_iadd hx hb dX10_canMove_94 ?_
      obtain ⟨v95, q95, h⟩ := mbp_e h
      refine m_ci (m_rV hx hb hml hown hF hR hS (ent9 kd_96) kd_96 rfl (c_X10_isFree l X (x19 + x37) (x30 + x44) M q95) q_X10_182_V hdV_X10_isFree ⟨Nat.le_of_ble_eq_true rfl, Nat.le_of_ble_eq_true rfl⟩ rfl hl.1 rfl (Nat.le_of_ble_eq_true rfl) dX10_canMove_95) hS (fun H locs hR hS => ?_)
      refine lv_if_ne (tgt := 103) hx hb dX10_canMove_98 (by decide) (fun c98 => ?_) (fun c98 => ?_)
      · have h := mif_n h c98
        refine lv_iload_n hx hb dX10_canMove_103 rfl (lv_at hl 4 rfl) ?_
        refine lv_iconst (v := 4) hx hb dX10_canMove_104 (by decide) ?_
        refine lv_icmp_ge (tgt := 127) hx hb dX10_canMove_105 (by decide) (fun c105 => ?_) (fun c105 => ?_)
        · have h := mif_y h c105
          refine lv_aload_n hx hb dX10_canMove_127 rfl (lv_at hl 6 rfl) ?_
          refine lv_iload hx hb dX10_canMove_128 (lv_at hl 3 rfl) ?_
          refine lv_iload hx hb dX10_canMove_130 (lv_at hl 2 rfl) ?_
          refine lv_iload hx hb dX10_canMove_132 (lv_at hl 0 rfl) ?_
          refine lv_iadd hx hb dX10_canMove_134 ?_
          obtain ⟨v135, q135, h⟩ := mbp_e h
          refine m_ci (m_rV hx hb hml hown hF hR hS (ent9 kd_96) kd_96 rfl (c_X10_isFree l X x19 (x30 + x44) M q135) q_X10_182_V hdV_X10_isFree ⟨Nat.le_of_ble_eq_true rfl, Nat.le_of_ble_eq_true rfl⟩ rfl hl.1 rfl (Nat.le_of_ble_eq_true rfl) dX10_canMove_135) hS (fun H locs hR hS => ?_)
          refine lv_if_eq (tgt := 155) hx hb dX10_canMove_138 (by decide) (fun c138 => ?_) (fun c138 => ?_)
          · have h := mif_y h c138
            refine lv_iconst (v := 0) hx hb dX10_canMove_155 (by decide) ?_
            exact m_zr hx hb hlk hr hR hS (Or.inl rfl) (Option.some.inj h).symm dX10_canMove_156
          · have h := mif_n h c138
            refine lv_aload_n hx hb dX10_canMove_141 rfl (lv_at hl 6 rfl) ?_
            refine lv_iload hx hb dX10_canMove_142 (lv_at hl 3 rfl) ?_
            refine lv_iload hx hb dX10_canMove_144 (lv_at hl 1 rfl) ?_
            refine lv_iadd hx hb dX10_canMove_146 ?_
            refine lv_iload hx hb dX10_canMove_147 (lv_at hl 2 rfl) ?_
            obtain ⟨v149, q149, h⟩ := mbp_e h
            refine m_ci (m_rV hx hb hml hown hF hR hS (ent9 kd_96) kd_96 rfl (c_X10_cubeAt l X (x19 + x37) x30 M q149) q_X10_133_V hdV_X10_cubeAt ⟨Nat.le_of_ble_eq_true rfl, Nat.le_of_ble_eq_true rfl⟩ rfl hl.1 rfl (Nat.le_of_ble_eq_true rfl) dX10_canMove_149) hS (fun H locs hR hS => ?_)
            refine lv_if_ge (tgt := 157) hx hb dX10_canMove_152 (by decide) (fun c152 => ?_) (fun c152 => ?_)
            · have h := mif_y h c152
              exact w_X10_canMove_b157 hs (i1 / 8) x19 x30 x37 x44 M h H locs ls hR hS (lv_sub hl [6, 5, 3, 2, 1, 0] rfl)
            · have h := mif_n h c152
              refine lv_iconst (v := 0) hx hb dX10_canMove_155 (by decide) ?_
              exact m_zr hx hb hlk hr hR hS (Or.inl rfl) (Option.some.inj h).symm dX10_canMove_156
        · have h := mif_n h c105
          refine lv_aload_n hx hb dX10_canMove_108 rfl (lv_at hl 6 rfl) ?_
          refine lv_iload_n hx hb dX10_canMove_109 rfl (lv_at hl 5 rfl) ?_
          refine lv_iload hx hb dX10_canMove_110 (lv_at hl 3 rfl) ?_
          refine lv_iload hx hb dX10_canMove_112 (lv_at hl 2 rfl) ?_
          refine lv_iload hx hb dX10_canMove_114 (lv_at hl 1 rfl) ?_
          refine lv_iload hx hb dX10_canMove_116 (lv_at hl 0 rfl) ?_
          obtain ⟨v118, q118, h⟩ := mbp_e h
          refine m_ci (m_rV hx hb hml hown hF hR hS (ent9 kd_96) kd_96 rfl (c_X10_hasSide l X (i1 / 8) x19 x30 x37 x44 M q118) q_X10_185_V hdV_X10_hasSide ⟨Nat.le_of_ble_eq_true rfl, Nat.le_of_ble_eq_true rfl⟩ rfl hl.1 rfl (Nat.le_of_ble_eq_true rfl) dX10_canMove_118) hS (fun H locs hR hS => ?_)
          refine lv_if_ne (tgt := 157) hx hb dX10_canMove_121 (by decide) (fun c121 => ?_) (fun c121 => ?_)
          · have h := mif_n h c121
            exact w_X10_canMove_b157 hs (i1 / 8) x19 x30 x37 x44 M h H locs ls hR hS (lv_sub hl [6, 5, 3, 2, 1, 0] rfl)
          · have h := mif_y h c121
            refine lv_goto (tgt := 155) hx hb dX10_canMove_124 (by decide) ?_
            refine lv_iconst (v := 0) hx hb dX10_canMove_155 (by decide) ?_
            exact m_zr hx hb hlk hr hR hS (Or.inl rfl) (Option.some.inj h).symm dX10_canMove_156
      · have h := mif_y h c98
        refine lv_iconst (v := 0) hx hb dX10_canMove_101 (by decide) ?_
        exact m_zr hx hb hlk hr hR hS (Or.inl rfl) (Option.some.inj h).symm dX10_canMove_102
theorem c_X10_canMove (l : Launch) (X : mX) (i1 : Int32) (M : mM) {r : Int32 × mM} (h : f_X10_canMove i1 M = some r) : mMi l yX10_canMove cX10_canMove 9 (some .boolean) 6 135 X [.ref (X.1 96), .int i1] M r := m_ofi (by decide +kernel) (Nat.le_of_ble_eq_true rfl) rfl (fun p e s m args below meth c hs => w_X10_canMove hs i1 M h)
set_option maxRecDepth 100000 in
set_option maxHeartbeats 4000000 in
theorem w_X10_goes {l : Launch} {X : mX} {p : Program} {e : Env} {s : State} {m : MethodId} {args : Array Value} {below : List Frame} {meth : Method} {c : Code} {r : mM} (hs : mS X RX10 cX10_goes 3 none p s m meth c) : ∀ (i1 : Int32) (M : mM), f_X10_goes i1 M = some r → mG X p l e (rmF 1 23) s m args below meth c (MQ below (mQv X r) args s 0 0 (mL X)) 3 0 [(0, .ref (X.1 96)), (1, .int i1)] [] M := by
  obtain ⟨hx, hb, hml, hown, hF, hlk, hr⟩ := id hs
  intro i1 M h H locs ls hR hS hl
  refine lv_iload_n hx hb dX10_goes_0 rfl (lv_at hl 1 rfl) ?_
  refine lv_bipush (v := 8) hx hb dX10_goes_1 (by decide) ?_
  refine lv_idiv hx hb dX10_goes_3 (by decide) ?_
  refine lv_istore_n (lv' := [(2, .int (i1 / 8)), (0, .ref (X.1 96)), (1, .int i1)]) hx hb dX10_goes_4 rfl hl (by decide) rfl (fun ls hl => ?_)
  refine lv_aload_n hx hb dX10_goes_5 rfl (lv_at hl 1 rfl) ?_
  refine lv_iload_n hx hb dX10_goes_6 rfl (lv_at hl 0 rfl) ?_
  refine lv_aload_n hx hb dX10_goes_7 rfl (lv_at hl 1 rfl) ?_
  refine m_g9_1 hx hb hF hown hR kd_96 mw_5_138 dX10_goes_8 ?_
  refine lv_bipush (v := 26) hx hb dX10_goes_11 (by decide) ?_
  refine lv_iload_n hx hb dX10_goes_13 rfl (lv_at hl 0 rfl) ?_
  refine lv_iadd hx hb dX10_goes_14 ?_
  obtain ⟨g15, h⟩ := mgd_e h
  refine m_ialdL hx hb hR kd_97 g15 (jn := (Int32.toNatClampNeg (26 + (i1 / 8)))) rfl dX10_goes_15 ?_
  refine lv_aload_n hx hb dX10_goes_16 rfl (lv_at hl 1 rfl) ?_
  refine lv_iload_n hx hb dX10_goes_17 rfl (lv_at hl 2 rfl) ?_
  refine lv_bipush (v := 8) hx hb dX10_goes_18 (by decide) ?_
  refine lv_irem hx hb dX10_goes_20 (by decide) ?_
  refine m_ci (m_rV hx hb hml hown hF hR hS (ent9 kd_96) kd_96 rfl (c_X10_east l X (i1 - i1 / 8 * 8) M) q_X10_173_V hdV_X10_east ⟨Nat.le_of_ble_eq_true rfl, Nat.le_of_ble_eq_true rfl⟩ rfl hl.1 rfl (Nat.le_of_ble_eq_true rfl) dX10_goes_21) hS (fun H locs hR hS => ?_)
  refine lv_iadd hx hb dX10_goes_24 ?_
  refine lv_aload_n hx hb dX10_goes_25 rfl (lv_at hl 1 rfl) ?_
  refine m_g9_1 hx hb hF hown hR kd_96 mw_5_138 dX10_goes_26 ?_
  refine lv_bipush (v := 42) hx hb dX10_goes_29 (by decide) ?_
  refine lv_iload_n hx hb dX10_goes_31 rfl (lv_at hl 0 rfl) ?_
  refine lv_iadd hx hb dX10_goes_32 ?_
  obtain ⟨g33, h⟩ := mgd_e h
  refine m_ialdL hx hb hR kd_97 g33 (jn := (Int32.toNatClampNeg (42 + (i1 / 8)))) rfl dX10_goes_33 ?_
  refine lv_aload_n hx hb dX10_goes_34 rfl (lv_at hl 1 rfl) ?_
  refine lv_iload_n hx hb dX10_goes_35 rfl (lv_at hl 2 rfl) ?_
  refine lv_bipush (v := 8) hx hb dX10_goes_36 (by decide) ?_
  refine lv_irem hx hb dX10_goes_38 (by decide) ?_
  refine m_ci (m_rV hx hb hml hown hF hR hS (ent9 kd_96) kd_96 rfl (c_X10_north l X (i1 - i1 / 8 * 8) M) q_X10_176_V hdV_X10_north ⟨Nat.le_of_ble_eq_true rfl, Nat.le_of_ble_eq_true rfl⟩ rfl hl.1 rfl (Nat.le_of_ble_eq_true rfl) dX10_goes_39) hS (fun H locs hR hS => ?_)
  refine lv_iadd hx hb dX10_goes_42 ?_
  obtain ⟨M43, q43, h⟩ := mbp_e h
  refine m_cv (m_rV hx hb hml hown hF hR hS (ent9 kd_96) kd_96 rfl (c_X10_sets l X (i1 / 8) ((M.1 97 (Int32.toNatClampNeg (26 + (i1 / 8)))) + (f_X10_east (i1 - i1 / 8 * 8))) ((M.1 97 (Int32.toNatClampNeg (42 + (i1 / 8)))) + (f_X10_north (i1 - i1 / 8 * 8))) M q43) q_X10_189_V hdV_X10_sets ⟨Nat.le_of_ble_eq_true rfl, Nat.le_of_ble_eq_true rfl⟩ rfl hl.1 rfl (Nat.le_of_ble_eq_true rfl) dX10_goes_43) hS (fun H locs hR hS => ?_)
  refine lv_aload_n hx hb dX10_goes_46 rfl (lv_at hl 1 rfl) ?_
  refine m_g9_1 hx hb hF hown hR kd_96 mw_5_138 dX10_goes_47 ?_
  refine lv_bipush (v := 58) hx hb dX10_goes_50 (by decide) ?_
  refine lv_iload_n hx hb dX10_goes_52 rfl (lv_at hl 0 rfl) ?_
  refine lv_iadd hx hb dX10_goes_53 ?_
  refine lv_dup2_11 hx hb dX10_goes_54 rfl rfl ?_
  obtain ⟨g55, h⟩ := mgd_e h
  refine m_ialdL hx hb hR kd_97 g55 (jn := (Int32.toNatClampNeg (58 + (i1 / 8)))) rfl dX10_goes_55 ?_
  refine lv_aload_n hx hb dX10_goes_56 rfl (lv_at hl 1 rfl) ?_
  refine lv_aload_n hx hb dX10_goes_57 rfl (lv_at hl 1 rfl) ?_
  refine m_g9_1 hx hb hF hown hR kd_96 mw_5_138 dX10_goes_58 ?_
  refine lv_bipush (v := 10) hx hb dX10_goes_61 (by decide) ?_
  refine lv_iload_n hx hb dX10_goes_63 rfl (lv_at hl 0 rfl) ?_
  refine lv_iadd hx hb dX10_goes_64 ?_
  obtain ⟨g65, h⟩ := mgd_e h
  refine m_ialdL hx hb hR kd_97 g65 (jn := (Int32.toNatClampNeg (10 + (i1 / 8)))) rfl dX10_goes_65 ?_
  refine m_ci (m_rV hx hb hml hown hF hR hS (ent9 kd_96) kd_96 rfl (c_X10_costOf l X (M43.1 97 (Int32.toNatClampNeg (10 + (i1 / 8)))) M43) q_X10_179_V hdV_X10_costOf ⟨Nat.le_of_ble_eq_true rfl, Nat.le_of_ble_eq_true rfl⟩ rfl hl.1 rfl (Nat.le_of_ble_eq_true rfl) dX10_goes_66) hS (fun H locs hR hS => ?_)
  refine lv_isub hx hb dX10_goes_69 ?_
  obtain ⟨g70, h⟩ := mgd_e h
  obtain ⟨M70, eM70⟩ : ∃ y : mM, y = mI M43 97 (Int32.toNatClampNeg (58 + (i1 / 8))) ((M43.1 97 (Int32.toNatClampNeg (58 + (i1 / 8)))) - (f_X10_costOf (M43.1 97 (Int32.toNatClampNeg (10 + (i1 / 8)))))) := ⟨_, rfl⟩
  have h := mlt_n h M70 eM70
  refine m_iastL hx hb hR hS kd_97 g70 (jn := (Int32.toNatClampNeg (58 + (i1 / 8)))) rfl dX10_goes_70 eM70 (fun H locs hR hS => ?_)
  exact m_vr hx hb hlk hr hR hS (Option.some.inj h).symm dX10_goes_71
theorem c_X10_goes (l : Launch) (X : mX) (i1 : Int32) (M : mM) {r : mM} (h : f_X10_goes i1 M = some r) : mMv l yX10_goes cX10_goes 3 1 23 X [.ref (X.1 96), .int i1] M r := m_ofv (by decide +kernel) (Nat.le_of_ble_eq_true rfl) rfl (fun p e s m args below meth c hs => w_X10_goes hs i1 M h)
set_option maxRecDepth 100000 in
set_option maxHeartbeats 4000000 in
theorem w_X10_comesBack {l : Launch} {X : mX} {p : Program} {e : Env} {s : State} {m : MethodId} {args : Array Value} {below : List Frame} {meth : Method} {c : Code} {r : mM} (hs : mS X RX10 cX10_comesBack 3 none p s m meth c) : ∀ (i1 : Int32) (M : mM), f_X10_comesBack i1 M = some r → mG X p l e (rmF 1 23) s m args below meth c (MQ below (mQv X r) args s 0 0 (mL X)) 3 0 [(0, .ref (X.1 96)), (1, .int i1)] [] M := by
  obtain ⟨hx, hb, hml, hown, hF, hlk, hr⟩ := id hs
  intro i1 M h H locs ls hR hS hl
  refine lv_iload_n hx hb dX10_comesBack_0 rfl (lv_at hl 1 rfl) ?_
  refine lv_bipush (v := 8) hx hb dX10_comesBack_1 (by decide) ?_
  refine lv_idiv hx hb dX10_comesBack_3 (by decide) ?_
  refine lv_istore_n (lv' := [(2, .int (i1 / 8)), (0, .ref (X.1 96)), (1, .int i1)]) hx hb dX10_comesBack_4 rfl hl (by decide) rfl (fun ls hl => ?_)
  refine lv_aload_n hx hb dX10_comesBack_5 rfl (lv_at hl 1 rfl) ?_
  refine lv_iload_n hx hb dX10_comesBack_6 rfl (lv_at hl 0 rfl) ?_
  refine lv_aload_n hx hb dX10_comesBack_7 rfl (lv_at hl 1 rfl) ?_
  refine m_g9_1 hx hb hF hown hR kd_96 mw_5_138 dX10_comesBack_8 ?_
  refine lv_bipush (v := 26) hx hb dX10_comesBack_11 (by decide) ?_
  refine lv_iload_n hx hb dX10_comesBack_13 rfl (lv_at hl 0 rfl) ?_
  refine lv_iadd hx hb dX10_comesBack_14 ?_
  obtain ⟨g15, h⟩ := mgd_e h
  refine m_ialdL hx hb hR kd_97 g15 (jn := (Int32.toNatClampNeg (26 + (i1 / 8)))) rfl dX10_comesBack_15 ?_
  refine lv_aload_n hx hb dX10_comesBack_16 rfl (lv_at hl 1 rfl) ?_
  refine lv_iload_n hx hb dX10_comesBack_17 rfl (lv_at hl 2 rfl) ?_
  refine lv_bipush (v := 8) hx hb dX10_comesBack_18 (by decide) ?_
  refine lv_irem hx hb dX10_comesBack_20 (by decide) ?_
  refine m_ci (m_rV hx hb hml hown hF hR hS (ent9 kd_96) kd_96 rfl (c_X10_east l X (i1 - i1 / 8 * 8) M) q_X10_173_V hdV_X10_east ⟨Nat.le_of_ble_eq_true rfl, Nat.le_of_ble_eq_true rfl⟩ rfl hl.1 rfl (Nat.le_of_ble_eq_true rfl) dX10_comesBack_21) hS (fun H locs hR hS => ?_)
  refine lv_isub hx hb dX10_comesBack_24 ?_
  refine lv_aload_n hx hb dX10_comesBack_25 rfl (lv_at hl 1 rfl) ?_
  refine m_g9_1 hx hb hF hown hR kd_96 mw_5_138 dX10_comesBack_26 ?_
  refine lv_bipush (v := 42) hx hb dX10_comesBack_29 (by decide) ?_
  refine lv_iload_n hx hb dX10_comesBack_31 rfl (lv_at hl 0 rfl) ?_
  refine lv_iadd hx hb dX10_comesBack_32 ?_
  obtain ⟨g33, h⟩ := mgd_e h
  refine m_ialdL hx hb hR kd_97 g33 (jn := (Int32.toNatClampNeg (42 + (i1 / 8)))) rfl dX10_comesBack_33 ?_
  refine lv_aload_n hx hb dX10_comesBack_34 rfl (lv_at hl 1 rfl) ?_
  refine lv_iload_n hx hb dX10_comesBack_35 rfl (lv_at hl 2 rfl) ?_
  refine lv_bipush (v := 8) hx hb dX10_comesBack_36 (by decide) ?_
  refine lv_irem hx hb dX10_comesBack_38 (by decide) ?_
  refine m_ci (m_rV hx hb hml hown hF hR hS (ent9 kd_96) kd_96 rfl (c_X10_north l X (i1 - i1 / 8 * 8) M) q_X10_176_V hdV_X10_north ⟨Nat.le_of_ble_eq_true rfl, Nat.le_of_ble_eq_true rfl⟩ rfl hl.1 rfl (Nat.le_of_ble_eq_true rfl) dX10_comesBack_39) hS (fun H locs hR hS => ?_)
  refine lv_isub hx hb dX10_comesBack_42 ?_
  obtain ⟨M43, q43, h⟩ := mbp_e h
  refine m_cv (m_rV hx hb hml hown hF hR hS (ent9 kd_96) kd_96 rfl (c_X10_sets l X (i1 / 8) ((M.1 97 (Int32.toNatClampNeg (26 + (i1 / 8)))) - (f_X10_east (i1 - i1 / 8 * 8))) ((M.1 97 (Int32.toNatClampNeg (42 + (i1 / 8)))) - (f_X10_north (i1 - i1 / 8 * 8))) M q43) q_X10_189_V hdV_X10_sets ⟨Nat.le_of_ble_eq_true rfl, Nat.le_of_ble_eq_true rfl⟩ rfl hl.1 rfl (Nat.le_of_ble_eq_true rfl) dX10_comesBack_43) hS (fun H locs hR hS => ?_)
  refine lv_aload_n hx hb dX10_comesBack_46 rfl (lv_at hl 1 rfl) ?_
  refine m_g9_1 hx hb hF hown hR kd_96 mw_5_138 dX10_comesBack_47 ?_
  refine lv_bipush (v := 58) hx hb dX10_comesBack_50 (by decide) ?_
  refine lv_iload_n hx hb dX10_comesBack_52 rfl (lv_at hl 0 rfl) ?_
  refine lv_iadd hx hb dX10_comesBack_53 ?_
  refine lv_dup2_11 hx hb dX10_comesBack_54 rfl rfl ?_
  obtain ⟨g55, h⟩ := mgd_e h
  refine m_ialdL hx hb hR kd_97 g55 (jn := (Int32.toNatClampNeg (58 + (i1 / 8)))) rfl dX10_comesBack_55 ?_
  refine lv_aload_n hx hb dX10_comesBack_56 rfl (lv_at hl 1 rfl) ?_
  refine lv_aload_n hx hb dX10_comesBack_57 rfl (lv_at hl 1 rfl) ?_
  refine m_g9_1 hx hb hF hown hR kd_96 mw_5_138 dX10_comesBack_58 ?_
  refine lv_bipush (v := 10) hx hb dX10_comesBack_61 (by decide) ?_
  refine lv_iload_n hx hb dX10_comesBack_63 rfl (lv_at hl 0 rfl) ?_
  refine lv_iadd hx hb dX10_comesBack_64 ?_
  obtain ⟨g65, h⟩ := mgd_e h
  refine m_ialdL hx hb hR kd_97 g65 (jn := (Int32.toNatClampNeg (10 + (i1 / 8)))) rfl dX10_comesBack_65 ?_
  refine m_ci (m_rV hx hb hml hown hF hR hS (ent9 kd_96) kd_96 rfl (c_X10_costOf l X (M43.1 97 (Int32.toNatClampNeg (10 + (i1 / 8)))) M43) q_X10_179_V hdV_X10_costOf ⟨Nat.le_of_ble_eq_true rfl, Nat.le_of_ble_eq_true rfl⟩ rfl hl.1 rfl (Nat.le_of_ble_eq_true rfl) dX10_comesBack_66) hS (fun H locs hR hS => ?_)
  refine lv_iadd hx hb dX10_comesBack_69 ?_
  obtain ⟨g70, h⟩ := mgd_e h
  obtain ⟨M70, eM70⟩ : ∃ y : mM, y = mI M43 97 (Int32.toNatClampNeg (58 + (i1 / 8))) ((M43.1 97 (Int32.toNatClampNeg (58 + (i1 / 8)))) + (f_X10_costOf (M43.1 97 (Int32.toNatClampNeg (10 + (i1 / 8)))))) := ⟨_, rfl⟩
  have h := mlt_n h M70 eM70
  refine m_iastL hx hb hR hS kd_97 g70 (jn := (Int32.toNatClampNeg (58 + (i1 / 8)))) rfl dX10_comesBack_70 eM70 (fun H locs hR hS => ?_)
  exact m_vr hx hb hlk hr hR hS (Option.some.inj h).symm dX10_comesBack_71
theorem c_X10_comesBack (l : Launch) (X : mX) (i1 : Int32) (M : mM) {r : mM} (h : f_X10_comesBack i1 M = some r) : mMv l yX10_comesBack cX10_comesBack 3 1 23 X [.ref (X.1 96), .int i1] M r := m_ofv (by decide +kernel) (Nat.le_of_ble_eq_true rfl) rfl (fun p e s m args below meth c hs => w_X10_comesBack hs i1 M h)
set_option maxRecDepth 100000 in
set_option maxHeartbeats 4000000 in
theorem w_X10_can {l : Launch} {X : mX} {p : Program} {e : Env} {s : State} {m : MethodId} {args : Array Value} {below : List Frame} {meth : Method} {c : Code} {r : Int32 × mM} (hs : mS X RX10 cX10_can 2 (some .int) p s m meth c) : ∀ (i1 : Int32) (M : mM), f_X10_can i1 M = some r → mG X p l e (rmF 7 163) s m args below meth c (MQ below (mQi X r.2 r.1) args s 0 0 (mL X)) 2 0 [(0, .ref (X.1 96)), (1, .int i1)] [] M := by
  obtain ⟨hx, hb, hml, hown, hF, hlk, hr⟩ := id hs
  intro i1 M h H locs ls hR hS hl
  refine lv_aload_n hx hb dX10_can_0 rfl (lv_at hl 0 rfl) ?_
  refine lv_iload_n hx hb dX10_can_1 rfl (lv_at hl 1 rfl) ?_
  obtain ⟨v2, q2, h⟩ := mbp_e h
  refine m_ci (m_rV hx hb hml hown hF hR hS (ent9 kd_96) kd_96 rfl (c_X10_isMove l X i1 M q2) q_X10_193_V hdV_X10_isMove ⟨Nat.le_of_ble_eq_true rfl, Nat.le_of_ble_eq_true rfl⟩ rfl hl.1 rfl (Nat.le_of_ble_eq_true rfl) dX10_can_2) hS (fun H locs hR hS => ?_)
  refine lv_if_ne (tgt := 12) hx hb dX10_can_5 (by decide) (fun c5 => ?_) (fun c5 => ?_)
  · have h := mif_n h c5
    refine lv_aload_n hx hb dX10_can_12 rfl (lv_at hl 0 rfl) ?_
    refine lv_iload_n hx hb dX10_can_13 rfl (lv_at hl 1 rfl) ?_
    obtain ⟨v14, M14, q14, h⟩ := mbw_e h
    refine m_ci (m_rV hx hb hml hown hF hR hS (ent9 kd_96) kd_96 rfl (c_X10_canMove l X i1 M q14) q_X10_196_V hdV_X10_canMove ⟨Nat.le_of_ble_eq_true rfl, Nat.le_of_ble_eq_true rfl⟩ rfl hl.1 rfl (Nat.le_of_ble_eq_true rfl) dX10_can_14) hS (fun H locs hR hS => ?_)
    refine lv_if_eq (tgt := 24) hx hb dX10_can_17 (by decide) (fun c17 => ?_) (fun c17 => ?_)
    · have h := mif_y h c17
      refine lv_iconst (v := 0) hx hb dX10_can_24 (by decide) ?_
      exact m_ir hx hb hlk hr hR hS (Option.some.inj h).symm dX10_can_25
    · have h := mif_n h c17
      refine lv_iconst (v := 1) hx hb dX10_can_20 (by decide) ?_
      refine lv_goto (tgt := 25) hx hb dX10_can_21 (by decide) ?_
      exact m_ir hx hb hlk hr hR hS (Option.some.inj h).symm dX10_can_25
  · have h := mif_y h c5
    refine lv_iconst (v := (-1)) hx hb dX10_can_8 (by decide) ?_
    refine lv_goto (tgt := 25) hx hb dX10_can_9 (by decide) ?_
    exact m_ir hx hb hlk hr hR hS (Option.some.inj h).symm dX10_can_25
theorem c_X10_can (l : Launch) (X : mX) (i1 : Int32) (M : mM) {r : Int32 × mM} (h : f_X10_can i1 M = some r) : mMi l yX10_can cX10_can 2 (some .int) 7 163 X [.ref (X.1 96), .int i1] M r := m_ofi (by decide +kernel) (Nat.le_of_ble_eq_true rfl) rfl (fun p e s m args below meth c hs => w_X10_can hs i1 M h)
set_option maxRecDepth 100000 in
set_option maxHeartbeats 4000000 in
theorem w_X10_move {l : Launch} {X : mX} {p : Program} {e : Env} {s : State} {m : MethodId} {args : Array Value} {below : List Frame} {meth : Method} {c : Code} {r : Int32 × mM} (hs : mS X RX10 cX10_move 2 (some .int) p s m meth c) : ∀ (i1 : Int32) (M : mM), f_X10_move i1 M = some r → mG X p l e (rmF 7 163) s m args below meth c (MQ below (mQi X r.2 r.1) args s 0 0 (mL X)) 2 0 [(0, .ref (X.1 96)), (1, .int i1)] [] M := by
  obtain ⟨hx, hb, hml, hown, hF, hlk, hr⟩ := id hs
  intro i1 M h H locs ls hR hS hl
  refine lv_aload_n hx hb dX10_move_0 rfl (lv_at hl 0 rfl) ?_
  refine lv_iload_n hx hb dX10_move_1 rfl (lv_at hl 1 rfl) ?_
  obtain ⟨v2, q2, h⟩ := mbp_e h
  refine m_ci (m_rV hx hb hml hown hF hR hS (ent9 kd_96) kd_96 rfl (c_X10_isMove l X i1 M q2) q_X10_193_V hdV_X10_isMove ⟨Nat.le_of_ble_eq_true rfl, Nat.le_of_ble_eq_true rfl⟩ rfl hl.1 rfl (Nat.le_of_ble_eq_true rfl) dX10_move_2) hS (fun H locs hR hS => ?_)
  refine lv_if_ne (tgt := 10) hx hb dX10_move_5 (by decide) (fun c5 => ?_) (fun c5 => ?_)
  · have h := mif_n h c5
    refine lv_aload_n hx hb dX10_move_10 rfl (lv_at hl 0 rfl) ?_
    refine lv_iload_n hx hb dX10_move_11 rfl (lv_at hl 1 rfl) ?_
    obtain ⟨v12, M12, q12, h⟩ := mbw_e h
    refine m_ci (m_rV hx hb hml hown hF hR hS (ent9 kd_96) kd_96 rfl (c_X10_canMove l X i1 M q12) q_X10_196_V hdV_X10_canMove ⟨Nat.le_of_ble_eq_true rfl, Nat.le_of_ble_eq_true rfl⟩ rfl hl.1 rfl (Nat.le_of_ble_eq_true rfl) dX10_move_12) hS (fun H locs hR hS => ?_)
    refine lv_if_ne (tgt := 21) hx hb dX10_move_15 (by decide) (fun c15 => ?_) (fun c15 => ?_)
    · have h := mif_n h c15
      refine lv_aload_n hx hb dX10_move_21 rfl (lv_at hl 0 rfl) ?_
      refine lv_iload_n hx hb dX10_move_22 rfl (lv_at hl 1 rfl) ?_
      obtain ⟨M23, q23, h⟩ := mbp_e h
      refine m_cv (m_rV hx hb hml hown hF hR hS (ent9 kd_96) kd_96 rfl (c_X10_goes l X i1 M12 q23) q_X10_199_V hdV_X10_goes ⟨Nat.le_of_ble_eq_true rfl, Nat.le_of_ble_eq_true rfl⟩ rfl hl.1 rfl (Nat.le_of_ble_eq_true rfl) dX10_move_23) hS (fun H locs hR hS => ?_)
      refine lv_aload_n hx hb dX10_move_26 rfl (lv_at hl 0 rfl) ?_
      refine m_g9_1 hx hb hF hown hR kd_96 mw_5_138 dX10_move_27 ?_
      refine lv_bipush (v := 58) hx hb dX10_move_30 (by decide) ?_
      refine lv_iload_n hx hb dX10_move_32 rfl (lv_at hl 1 rfl) ?_
      refine lv_bipush (v := 8) hx hb dX10_move_33 (by decide) ?_
      refine lv_idiv hx hb dX10_move_35 (by decide) ?_
      refine lv_iadd hx hb dX10_move_36 ?_
      obtain ⟨g37, h⟩ := mgd_e h
      refine m_ialdL hx hb hR kd_97 g37 (jn := (Int32.toNatClampNeg (58 + (i1 / 8)))) rfl dX10_move_37 ?_
      exact m_ir hx hb hlk hr hR hS (Option.some.inj h).symm dX10_move_38
    · have h := mif_y h c15
      refine lv_bipush (v := (-3)) hx hb dX10_move_18 (by decide) ?_
      exact m_ir hx hb hlk hr hR hS (Option.some.inj h).symm dX10_move_20
  · have h := mif_y h c5
    refine lv_iconst (v := (-1)) hx hb dX10_move_8 (by decide) ?_
    exact m_ir hx hb hlk hr hR hS (Option.some.inj h).symm dX10_move_9
theorem c_X10_move (l : Launch) (X : mX) (i1 : Int32) (M : mM) {r : Int32 × mM} (h : f_X10_move i1 M = some r) : mMi l yX10_move cX10_move 2 (some .int) 7 163 X [.ref (X.1 96), .int i1] M r := m_ofi (by decide +kernel) (Nat.le_of_ble_eq_true rfl) rfl (fun p e s m args below meth c hs => w_X10_move hs i1 M h)
set_option maxRecDepth 100000 in
set_option maxHeartbeats 4000000 in
theorem w_X10_moves_b4 {l : Launch} {X : mX} {p : Program} {e : Env} {s : State} {m : MethodId} {args : Array Value} {below : List Frame} {meth : Method} {c : Code} {r : Int32 × mM} (hs : mS X RX10 cX10_moves 3 (some .int) p s m meth c) : ∀ n : Nat, ∀ (i1 : Int32) (i2 : Int32) (M : mM), f_X10_moves_b4 n i1 i2 M = some r → mG X p l e (rmF 7 163) s m args below meth c (MQ below (mQi X r.2 r.1) args s 0 0 (mL X)) 3 4 [(0, .ref (X.1 96)), (1, .int i1), (2, .int i2)] [] M := by
  obtain ⟨hx, hb, hml, hown, hF, hlk, hr⟩ := id hs
  intro n
  induction n with
  | zero =>
    intro i1 i2 M h
    have h0 : (none : Option (Int32 × mM)) = some r := h
    cases h0
  | succ n ih =>
    intro i1 i2 M h H locs ls hR hS hl
    refine lv_iload_n hx hb dX10_moves_4 rfl (lv_at hl 2 rfl) ?_
    refine lv_bipush (v := 8) hx hb dX10_moves_5 (by decide) ?_
    refine lv_aload_n hx hb dX10_moves_7 rfl (lv_at hl 0 rfl) ?_
    refine m_g9_1 hx hb hF hown hR kd_96 mw_5_138 dX10_moves_8 ?_
    refine lv_iconst (v := 0) hx hb dX10_moves_11 (by decide) ?_
    refine m_ialdL hx hb hR kd_97 (show mIn 0 1834 from by decide) (jn := 0) (by decide) dX10_moves_12 ?_
    refine lv_imul hx hb dX10_moves_13 ?_
    refine lv_icmp_ge (tgt := 39) hx hb dX10_moves_14 (by decide) (fun c14 => ?_) (fun c14 => ?_)
    · have h := mif_y h c14
      refine lv_iload_n hx hb dX10_moves_39 rfl (lv_at hl 1 rfl) ?_
      exact m_ir hx hb hlk hr hR hS (Option.some.inj h).symm dX10_moves_40
    · have h := mif_n h c14
      refine lv_iload_n hx hb dX10_moves_17 rfl (lv_at hl 1 rfl) ?_
      refine lv_aload_n hx hb dX10_moves_18 rfl (lv_at hl 0 rfl) ?_
      refine lv_iload_n hx hb dX10_moves_19 rfl (lv_at hl 2 rfl) ?_
      obtain ⟨v20, M20, q20, h⟩ := mbw_e h
      refine m_ci (m_rV hx hb hml hown hF hR hS (ent9 kd_96) kd_96 rfl (c_X10_canMove l X i2 M q20) q_X10_196_V hdV_X10_canMove ⟨Nat.le_of_ble_eq_true rfl, Nat.le_of_ble_eq_true rfl⟩ rfl hl.1 rfl (Nat.le_of_ble_eq_true rfl) dX10_moves_20) hS (fun H locs hR hS => ?_)
      refine lv_if_eq (tgt := 30) hx hb dX10_moves_23 (by decide) (fun c23 => ?_) (fun c23 => ?_)
      · have h := mif_y h c23
        refine lv_iconst (v := 0) hx hb dX10_moves_30 (by decide) ?_
        refine lv_iadd hx hb dX10_moves_31 ?_
        refine lv_istore_n (lv' := [(1, .int (i1 + 0)), (0, .ref (X.1 96)), (2, .int i2)]) hx hb dX10_moves_32 rfl hl (by decide) rfl (fun ls hl => ?_)
        obtain ⟨x33, ex33⟩ : ∃ y : Int32, y = (i2 + 1) := ⟨_, rfl⟩
        have h := mlt_n h x33 ex33
        refine lv_iinc (v := x33) (lv' := [(2, .int x33), (1, .int (i1 + 0)), (0, .ref (X.1 96))]) hx hb dX10_moves_33 hl (k := 2) rfl (by rw [ex33]; rfl) (by decide) rfl (fun ls hl => ?_)
        refine lv_goto (tgt := 4) hx hb dX10_moves_36 (by decide) ?_
        exact ih (i1 + 0) x33 M20 h H locs ls hR hS (lv_sub hl [2, 1, 0] rfl)
      · have h := mif_n h c23
        refine lv_iconst (v := 1) hx hb dX10_moves_26 (by decide) ?_
        refine lv_goto (tgt := 31) hx hb dX10_moves_27 (by decide) ?_
        refine lv_iadd hx hb dX10_moves_31 ?_
        refine lv_istore_n (lv' := [(1, .int (i1 + 1)), (0, .ref (X.1 96)), (2, .int i2)]) hx hb dX10_moves_32 rfl hl (by decide) rfl (fun ls hl => ?_)
        obtain ⟨x33, ex33⟩ : ∃ y : Int32, y = (i2 + 1) := ⟨_, rfl⟩
        have h := mlt_n h x33 ex33
        refine lv_iinc (v := x33) (lv' := [(2, .int x33), (1, .int (i1 + 1)), (0, .ref (X.1 96))]) hx hb dX10_moves_33 hl (k := 2) rfl (by rw [ex33]; rfl) (by decide) rfl (fun ls hl => ?_)
        refine lv_goto (tgt := 4) hx hb dX10_moves_36 (by decide) ?_
        exact ih (i1 + 1) x33 M20 h H locs ls hR hS (lv_sub hl [2, 1, 0] rfl)
set_option maxRecDepth 100000 in
set_option maxHeartbeats 4000000 in
theorem w_X10_moves {l : Launch} {X : mX} {p : Program} {e : Env} {s : State} {m : MethodId} {args : Array Value} {below : List Frame} {meth : Method} {c : Code} {r : Int32 × mM} (hs : mS X RX10 cX10_moves 3 (some .int) p s m meth c) : ∀  (M : mM), f_X10_moves  M = some r → mG X p l e (rmF 7 163) s m args below meth c (MQ below (mQi X r.2 r.1) args s 0 0 (mL X)) 3 0 [(0, .ref (X.1 96))] [] M := by
  obtain ⟨hx, hb, hml, hown, hF, hlk, hr⟩ := id hs
  intro M h H locs ls hR hS hl
  refine lv_iconst (v := 0) hx hb dX10_moves_0 (by decide) ?_
  refine lv_istore_n (lv' := [(1, .int 0), (0, .ref (X.1 96))]) hx hb dX10_moves_1 rfl hl (by decide) rfl (fun ls hl => ?_)
  refine lv_iconst (v := 0) hx hb dX10_moves_2 (by decide) ?_
  refine lv_istore_n (lv' := [(2, .int 0), (1, .int 0), (0, .ref (X.1 96))]) hx hb dX10_moves_3 rfl hl (by decide) rfl (fun ls hl => ?_)
  exact w_X10_moves_b4 hs mN 0 0 M h H locs ls hR hS (lv_sub hl [2, 1, 0] rfl)
theorem c_X10_moves (l : Launch) (X : mX) (M : mM) {r : Int32 × mM} (h : f_X10_moves M = some r) : mMi l yX10_moves cX10_moves 3 (some .int) 7 163 X [.ref (X.1 96)] M r := m_ofi (by decide +kernel) (Nat.le_of_ble_eq_true rfl) rfl (fun p e s m args below meth c hs => w_X10_moves hs M h)
set_option maxRecDepth 100000 in
set_option maxHeartbeats 4000000 in
theorem w_X10_broken_b8 {l : Launch} {X : mX} {p : Program} {e : Env} {s : State} {m : MethodId} {args : Array Value} {below : List Frame} {meth : Method} {c : Code} {r : Int32 × mM} (hs : mS X RX10 cX10_broken 3 (some .int) p s m meth c) : ∀ n : Nat, ∀ (i1 : Int32) (i2 : Int32) (M : mM), f_X10_broken_b8 n i1 i2 M = some r → mG X p l e (rmF 5 117) s m args below meth c (MQ below (mQi X r.2 r.1) args s 0 0 (mL X)) 3 8 [(0, .ref (X.1 96)), (1, .int i1), (2, .int i2)] [] M := by
  obtain ⟨hx, hb, hml, hown, hF, hlk, hr⟩ := id hs
  intro n
  induction n with
  | zero =>
    intro i1 i2 M h
    have h0 : (none : Option (Int32 × mM)) = some r := h
    cases h0
  | succ n ih =>
    intro i1 i2 M h H locs ls hR hS hl
    refine lv_iload_n hx hb dX10_broken_8 rfl (lv_at hl 2 rfl) ?_
    refine lv_aload_n hx hb dX10_broken_9 rfl (lv_at hl 0 rfl) ?_
    refine m_g9_1 hx hb hF hown hR kd_96 mw_5_138 dX10_broken_10 ?_
    refine lv_iconst (v := 0) hx hb dX10_broken_13 (by decide) ?_
    refine m_ialdL hx hb hR kd_97 (show mIn 0 1834 from by decide) (jn := 0) (by decide) dX10_broken_14 ?_
    refine lv_icmp_ge (tgt := 40) hx hb dX10_broken_15 (by decide) (fun c15 => ?_) (fun c15 => ?_)
    · have h := mif_y h c15
      refine lv_iload_n hx hb dX10_broken_40 rfl (lv_at hl 1 rfl) ?_
      exact m_ir hx hb hlk hr hR hS (Option.some.inj h).symm dX10_broken_41
    · have h := mif_n h c15
      refine lv_iload_n hx hb dX10_broken_18 rfl (lv_at hl 1 rfl) ?_
      refine lv_aload_n hx hb dX10_broken_19 rfl (lv_at hl 0 rfl) ?_
      refine lv_iload_n hx hb dX10_broken_20 rfl (lv_at hl 2 rfl) ?_
      obtain ⟨v21, q21, h⟩ := mbp_e h
      refine m_ci (m_rV hx hb hml hown hF hR hS (ent9 kd_96) kd_96 rfl (c_X10_isBroken l X i2 M q21) q_X10_167_V hdV_X10_isBroken ⟨Nat.le_of_ble_eq_true rfl, Nat.le_of_ble_eq_true rfl⟩ rfl hl.1 rfl (Nat.le_of_ble_eq_true rfl) dX10_broken_21) hS (fun H locs hR hS => ?_)
      refine lv_if_eq (tgt := 31) hx hb dX10_broken_24 (by decide) (fun c24 => ?_) (fun c24 => ?_)
      · have h := mif_y h c24
        refine lv_iconst (v := 0) hx hb dX10_broken_31 (by decide) ?_
        refine lv_iadd hx hb dX10_broken_32 ?_
        refine lv_istore_n (lv' := [(1, .int (i1 + 0)), (0, .ref (X.1 96)), (2, .int i2)]) hx hb dX10_broken_33 rfl hl (by decide) rfl (fun ls hl => ?_)
        obtain ⟨x34, ex34⟩ : ∃ y : Int32, y = (i2 + 1) := ⟨_, rfl⟩
        have h := mlt_n h x34 ex34
        refine lv_iinc (v := x34) (lv' := [(2, .int x34), (1, .int (i1 + 0)), (0, .ref (X.1 96))]) hx hb dX10_broken_34 hl (k := 2) rfl (by rw [ex34]; rfl) (by decide) rfl (fun ls hl => ?_)
        refine lv_goto (tgt := 8) hx hb dX10_broken_37 (by decide) ?_
        exact ih (i1 + 0) x34 M h H locs ls hR hS (lv_sub hl [2, 1, 0] rfl)
      · have h := mif_n h c24
        refine lv_iconst (v := 1) hx hb dX10_broken_27 (by decide) ?_
        refine lv_goto (tgt := 32) hx hb dX10_broken_28 (by decide) ?_
        refine lv_iadd hx hb dX10_broken_32 ?_
        refine lv_istore_n (lv' := [(1, .int (i1 + 1)), (0, .ref (X.1 96)), (2, .int i2)]) hx hb dX10_broken_33 rfl hl (by decide) rfl (fun ls hl => ?_)
        obtain ⟨x34, ex34⟩ : ∃ y : Int32, y = (i2 + 1) := ⟨_, rfl⟩
        have h := mlt_n h x34 ex34
        refine lv_iinc (v := x34) (lv' := [(2, .int x34), (1, .int (i1 + 1)), (0, .ref (X.1 96))]) hx hb dX10_broken_34 hl (k := 2) rfl (by rw [ex34]; rfl) (by decide) rfl (fun ls hl => ?_)
        refine lv_goto (tgt := 8) hx hb dX10_broken_37 (by decide) ?_
        exact ih (i1 + 1) x34 M h H locs ls hR hS (lv_sub hl [2, 1, 0] rfl)
set_option maxRecDepth 100000 in
set_option maxHeartbeats 4000000 in
theorem w_X10_broken {l : Launch} {X : mX} {p : Program} {e : Env} {s : State} {m : MethodId} {args : Array Value} {below : List Frame} {meth : Method} {c : Code} {r : Int32 × mM} (hs : mS X RX10 cX10_broken 3 (some .int) p s m meth c) : ∀  (M : mM), f_X10_broken  M = some r → mG X p l e (rmF 5 117) s m args below meth c (MQ below (mQi X r.2 r.1) args s 0 0 (mL X)) 3 0 [(0, .ref (X.1 96))] [] M := by
  obtain ⟨hx, hb, hml, hown, hF, hlk, hr⟩ := id hs
  intro M h H locs ls hR hS hl
  refine lv_aload_n hx hb dX10_broken_0 rfl (lv_at hl 0 rfl) ?_
  obtain ⟨M1, q1, h⟩ := mbp_e h
  refine m_cv (m_rV hx hb hml hown hF hR hS (ent9 kd_96) kd_96 rfl (c_X10_findLoads l X M q1) q_X10_164_V hdV_X10_findLoads ⟨Nat.le_of_ble_eq_true rfl, Nat.le_of_ble_eq_true rfl⟩ rfl hl.1 rfl (Nat.le_of_ble_eq_true rfl) dX10_broken_1) hS (fun H locs hR hS => ?_)
  refine lv_iconst (v := 0) hx hb dX10_broken_4 (by decide) ?_
  refine lv_istore_n (lv' := [(1, .int 0), (0, .ref (X.1 96))]) hx hb dX10_broken_5 rfl hl (by decide) rfl (fun ls hl => ?_)
  refine lv_iconst (v := 0) hx hb dX10_broken_6 (by decide) ?_
  refine lv_istore_n (lv' := [(2, .int 0), (1, .int 0), (0, .ref (X.1 96))]) hx hb dX10_broken_7 rfl hl (by decide) rfl (fun ls hl => ?_)
  exact w_X10_broken_b8 hs mN 0 0 M1 h H locs ls hR hS (lv_sub hl [2, 1, 0] rfl)
theorem c_X10_broken (l : Launch) (X : mX) (M : mM) {r : Int32 × mM} (h : f_X10_broken M = some r) : mMi l yX10_broken cX10_broken 3 (some .int) 5 117 X [.ref (X.1 96)] M r := m_ofi (by decide +kernel) (Nat.le_of_ble_eq_true rfl) rfl (fun p e s m args below meth c hs => w_X10_broken hs M h)
set_option maxRecDepth 100000 in
set_option maxHeartbeats 4000000 in
theorem w_X10_next {l : Launch} {X : mX} {p : Program} {e : Env} {s : State} {m : MethodId} {args : Array Value} {below : List Frame} {meth : Method} {c : Code} {M : mM} {r : Int32} (hs : mS X RX10 cX10_next 1 (some .int) p s m meth c) : f_X10_next  M = some r → mG X p l e (rmF 0 0) s m args below meth c (MQ below (mQi X M r) args s 0 0 (mL X)) 1 0 [(0, .ref (X.1 96))] [] M := by
  obtain ⟨hx, hb, hml, hown, hF, hlk, hr⟩ := id hs
  intro h H locs ls hR hS hl
  refine lv_aload_n hx hb dX10_next_0 rfl (lv_at hl 0 rfl) ?_
  refine m_g9_10 hx hb hF hown hR kd_96 mw_5_147 dX10_next_1 ?_
  refine lv_aload_n hx hb dX10_next_4 rfl (lv_at hl 0 rfl) ?_
  refine m_g9_9 hx hb hF hown hR kd_96 mw_5_146 dX10_next_5 ?_
  refine lv_icmp_lt (tgt := 15) hx hb dX10_next_8 (by decide) (fun c8 => ?_) (fun c8 => ?_)
  · have h := mif_y h c8
    refine lv_aload_n hx hb dX10_next_15 rfl (lv_at hl 0 rfl) ?_
    refine m_g9_11 hx hb hF hown hR kd_96 mw_5_148 dX10_next_16 ?_
    refine lv_if_eq (tgt := 34) hx hb dX10_next_19 (by decide) (fun c19 => ?_) (fun c19 => ?_)
    · have h := mif_y h c19
      refine lv_aload_n hx hb dX10_next_34 rfl (lv_at hl 0 rfl) ?_
      refine m_g9_1 hx hb hF hown hR kd_96 mw_5_138 dX10_next_35 ?_
      refine lv_aload_n hx hb dX10_next_38 rfl (lv_at hl 0 rfl) ?_
      refine m_g9_8 hx hb hF hown hR kd_96 mw_5_145 dX10_next_39 ?_
      refine lv_aload_n hx hb dX10_next_42 rfl (lv_at hl 0 rfl) ?_
      refine m_g9_10 hx hb hF hown hR kd_96 mw_5_147 dX10_next_43 ?_
      refine lv_iadd hx hb dX10_next_46 ?_
      obtain ⟨g47, h⟩ := mgd_e h
      refine m_ialdL hx hb hR kd_97 g47 (jn := (Int32.toNatClampNeg ((M.1 96 8) + (M.1 96 10)))) rfl dX10_next_47 ?_
      exact m_ir hx hb hlk hr hR hS (congrArg (fun z => (z, M)) (Option.some.inj h).symm) dX10_next_48
    · have h := mif_n h c19
      refine lv_aload_n hx hb dX10_next_22 rfl (lv_at hl 0 rfl) ?_
      refine m_g9_6 hx hb hF hown hR kd_96 mw_5_143 dX10_next_23 ?_
      refine lv_aload_n hx hb dX10_next_26 rfl (lv_at hl 0 rfl) ?_
      refine m_g9_10 hx hb hF hown hR kd_96 mw_5_147 dX10_next_27 ?_
      obtain ⟨g30, h⟩ := mgd_e h
      refine m_ialdL hx hb hR kd_101 g30 (jn := (Int32.toNatClampNeg (M.1 96 10))) rfl dX10_next_30 ?_
      refine lv_goto (tgt := 48) hx hb dX10_next_31 (by decide) ?_
      exact m_ir hx hb hlk hr hR hS (congrArg (fun z => (z, M)) (Option.some.inj h).symm) dX10_next_48
  · have h := mif_n h c8
    refine lv_iconst (v := (-1)) hx hb dX10_next_11 (by decide) ?_
    refine lv_goto (tgt := 48) hx hb dX10_next_12 (by decide) ?_
    exact m_ir hx hb hlk hr hR hS (congrArg (fun z => (z, M)) (Option.some.inj h).symm) dX10_next_48
theorem c_X10_next (l : Launch) (X : mX) (M : mM) {r : Int32} (h : f_X10_next M = some r) : mMi l yX10_next cX10_next 1 (some .int) 0 0 X [.ref (X.1 96)] M (r, M) := m_ofi (by decide +kernel) (Nat.le_of_ble_eq_true rfl) rfl (fun p e s m args below meth c hs => w_X10_next hs h)
set_option maxRecDepth 100000 in
set_option maxHeartbeats 4000000 in
theorem w_X10_begin_b61 {l : Launch} {X : mX} {p : Program} {e : Env} {s : State} {m : MethodId} {args : Array Value} {below : List Frame} {meth : Method} {c : Code} {r : mM} (hs : mS X RX10 cX10_begin 2 none p s m meth c) : ∀ (s1 : Int32) (M : mM), f_X10_begin_b61 s1 M = some r → mG X p l e (rmF 0 0) s m args below meth c (MQ below (mQv X r) args s 0 0 (mL X)) 2 61 [(0, .ref (X.1 96))] [.int s1, .ref (X.1 96)] M := by
  obtain ⟨hx, hb, hml, hown, hF, hlk, hr⟩ := id hs
  intro s1 M h H locs ls hR hS hl
  obtain ⟨M61, eM61⟩ : ∃ y : mM, y = mI M 96 9 s1 := ⟨_, rfl⟩
  have h := mlt_n h M61 eM61
  refine m_p9_9 hx hb hF hown hR hS kd_96 mw_5_146 dX10_begin_61 eM61 (fun H locs hR hS => ?_)
  refine lv_aload_n hx hb dX10_begin_64 rfl (lv_at hl 0 rfl) ?_
  refine lv_iconst (v := 0) hx hb dX10_begin_65 (by decide) ?_
  obtain ⟨M66, eM66⟩ : ∃ y : mM, y = mI M61 96 10 0 := ⟨_, rfl⟩
  have h := mlt_n h M66 eM66
  refine m_p9_10 hx hb hF hown hR hS kd_96 mw_5_147 dX10_begin_66 eM66 (fun H locs hR hS => ?_)
  exact m_vr hx hb hlk hr hR hS (Option.some.inj h).symm dX10_begin_69
set_option maxRecDepth 100000 in
set_option maxHeartbeats 4000000 in
theorem w_X10_begin_b33 {l : Launch} {X : mX} {p : Program} {e : Env} {s : State} {m : MethodId} {args : Array Value} {below : List Frame} {meth : Method} {c : Code} {r : mM} (hs : mS X RX10 cX10_begin 2 none p s m meth c) : ∀ (i1 : Int32) (s1 : Int32) (M : mM), f_X10_begin_b33 i1 s1 M = some r → mG X p l e (rmF 0 0) s m args below meth c (MQ below (mQv X r) args s 0 0 (mL X)) 2 33 [(0, .ref (X.1 96)), (1, .int i1)] [.int s1, .ref (X.1 96)] M := by
  obtain ⟨hx, hb, hml, hown, hF, hlk, hr⟩ := id hs
  intro i1 s1 M h H locs ls hR hS hl
  obtain ⟨M33, eM33⟩ : ∃ y : mM, y = mI M 96 8 s1 := ⟨_, rfl⟩
  have h := mlt_n h M33 eM33
  refine m_p9_8 hx hb hF hown hR hS kd_96 mw_5_145 dX10_begin_33 eM33 (fun H locs hR hS => ?_)
  refine lv_aload_n hx hb dX10_begin_36 rfl (lv_at hl 0 rfl) ?_
  refine lv_aload_n hx hb dX10_begin_37 rfl (lv_at hl 0 rfl) ?_
  refine m_g9_11 hx hb hF hown hR kd_96 mw_5_148 dX10_begin_38 ?_
  refine lv_if_eq (tgt := 51) hx hb dX10_begin_41 (by decide) (fun c41 => ?_) (fun c41 => ?_)
  · have h := mif_y h c41
    refine lv_aload_n hx hb dX10_begin_51 rfl (lv_at hl 0 rfl) ?_
    refine m_g9_1 hx hb hF hown hR kd_96 mw_5_138 dX10_begin_52 ?_
    refine lv_sipush (v := 138) hx hb dX10_begin_55 (by decide) ?_
    refine lv_iload_n hx hb dX10_begin_58 rfl (lv_at hl 1 rfl) ?_
    refine lv_iadd hx hb dX10_begin_59 ?_
    obtain ⟨g60, h⟩ := mgd_e h
    refine m_ialdL hx hb hR kd_97 g60 (jn := (Int32.toNatClampNeg (138 + i1))) rfl dX10_begin_60 ?_
    exact w_X10_begin_b61 hs (M33.1 97 (Int32.toNatClampNeg (138 + i1))) M33 h H locs ls hR hS (lv_sub hl [0] rfl)
  · have h := mif_n h c41
    refine lv_aload_n hx hb dX10_begin_44 rfl (lv_at hl 0 rfl) ?_
    refine m_g9_7 hx hb hF hown hR kd_96 mw_5_144 dX10_begin_45 ?_
    refine lv_goto (tgt := 61) hx hb dX10_begin_48 (by decide) ?_
    exact w_X10_begin_b61 hs (M33.1 96 7) M33 h H locs ls hR hS (lv_sub hl [0] rfl)
set_option maxRecDepth 100000 in
set_option maxHeartbeats 4000000 in
theorem w_X10_begin_b10 {l : Launch} {X : mX} {p : Program} {e : Env} {s : State} {m : MethodId} {args : Array Value} {below : List Frame} {meth : Method} {c : Code} {r : mM} (hs : mS X RX10 cX10_begin 2 none p s m meth c) : ∀ (i1 : Int32) (s1 : Int32) (M : mM), f_X10_begin_b10 i1 s1 M = some r → mG X p l e (rmF 0 0) s m args below meth c (MQ below (mQv X r) args s 0 0 (mL X)) 2 10 [(0, .ref (X.1 96)), (1, .int i1)] [.int s1, .ref (X.1 96)] M := by
  obtain ⟨hx, hb, hml, hown, hF, hlk, hr⟩ := id hs
  intro i1 s1 M h H locs ls hR hS hl
  obtain ⟨g10, h⟩ := mgd_e h
  obtain ⟨M10, eM10⟩ : ∃ y : mM, y = mI M 96 11 s1 := ⟨_, rfl⟩
  have h := mlt_n h M10 eM10
  refine m_p9_11 hx hb hF hown hR hS kd_96 mw_5_148 dX10_begin_10 g10 eM10 (fun H locs hR hS => ?_)
  refine lv_aload_n hx hb dX10_begin_13 rfl (lv_at hl 0 rfl) ?_
  refine lv_aload_n hx hb dX10_begin_14 rfl (lv_at hl 0 rfl) ?_
  refine m_g9_11 hx hb hF hown hR kd_96 mw_5_148 dX10_begin_15 ?_
  refine lv_if_eq (tgt := 25) hx hb dX10_begin_18 (by decide) (fun c18 => ?_) (fun c18 => ?_)
  · have h := mif_y h c18
    refine lv_sipush (v := 154) hx hb dX10_begin_25 (by decide) ?_
    refine lv_bipush (v := 90) hx hb dX10_begin_28 (by decide) ?_
    refine lv_iload_n hx hb dX10_begin_30 rfl (lv_at hl 1 rfl) ?_
    refine lv_imul hx hb dX10_begin_31 ?_
    refine lv_iadd hx hb dX10_begin_32 ?_
    exact w_X10_begin_b33 hs i1 (154 + (90 * i1)) M10 h H locs ls hR hS (lv_sub hl [0, 1] rfl)
  · have h := mif_n h c18
    refine lv_iconst (v := 0) hx hb dX10_begin_21 (by decide) ?_
    refine lv_goto (tgt := 33) hx hb dX10_begin_22 (by decide) ?_
    exact w_X10_begin_b33 hs i1 0 M10 h H locs ls hR hS (lv_sub hl [0, 1] rfl)
set_option maxRecDepth 100000 in
set_option maxHeartbeats 4000000 in
theorem w_X10_begin {l : Launch} {X : mX} {p : Program} {e : Env} {s : State} {m : MethodId} {args : Array Value} {below : List Frame} {meth : Method} {c : Code} {r : mM} (hs : mS X RX10 cX10_begin 2 none p s m meth c) : ∀ (i1 : Int32) (M : mM), f_X10_begin i1 M = some r → mG X p l e (rmF 0 0) s m args below meth c (MQ below (mQv X r) args s 0 0 (mL X)) 2 0 [(0, .ref (X.1 96)), (1, .int i1)] [] M := by
  obtain ⟨hx, hb, hml, hown, hF, hlk, hr⟩ := id hs
  intro i1 M h H locs ls hR hS hl
  refine lv_aload_n hx hb dX10_begin_0 rfl (lv_at hl 0 rfl) ?_
  refine lv_iload_n hx hb dX10_begin_1 rfl (lv_at hl 1 rfl) ?_
  refine lv_if_ge (tgt := 9) hx hb dX10_begin_2 (by decide) (fun c2 => ?_) (fun c2 => ?_)
  · have h := mif_y h c2
    refine lv_iconst (v := 0) hx hb dX10_begin_9 (by decide) ?_
    exact w_X10_begin_b10 hs i1 0 M h H locs ls hR hS (lv_sub hl [0, 1] rfl)
  · have h := mif_n h c2
    refine lv_iconst (v := 1) hx hb dX10_begin_5 (by decide) ?_
    refine lv_goto (tgt := 10) hx hb dX10_begin_6 (by decide) ?_
    exact w_X10_begin_b10 hs i1 1 M h H locs ls hR hS (lv_sub hl [0, 1] rfl)
theorem c_X10_begin (l : Launch) (X : mX) (i1 : Int32) (M : mM) {r : mM} (h : f_X10_begin i1 M = some r) : mMv l yX10_begin cX10_begin 2 0 0 X [.ref (X.1 96), .int i1] M r := m_ofv (by decide +kernel) (Nat.le_of_ble_eq_true rfl) rfl (fun p e s m args below meth c hs => w_X10_begin hs i1 M h)
set_option maxRecDepth 100000 in
set_option maxHeartbeats 4000000 in
theorem w_X10_takes {l : Launch} {X : mX} {p : Program} {e : Env} {s : State} {m : MethodId} {args : Array Value} {below : List Frame} {meth : Method} {c : Code} {r : Int32 × mM} (hs : mS X RX10 cX10_takes 3 (some .boolean) p s m meth c) : ∀ (i1 : Int32) (i2 : Int32) (M : mM), f_X10_takes i1 i2 M = some r → mG X p l e (rmF 1 23) s m args below meth c (MQ below (mQi X r.2 r.1) args s 0 0 (mL X)) 3 0 [(0, .ref (X.1 96)), (1, .int i1), (2, .int i2)] [] M := by
  obtain ⟨hx, hb, hml, hown, hF, hlk, hr⟩ := id hs
  intro i1 i2 M h H locs ls hR hS hl
  refine lv_aload_n hx hb dX10_takes_0 rfl (lv_at hl 0 rfl) ?_
  refine lv_aload_n hx hb dX10_takes_1 rfl (lv_at hl 0 rfl) ?_
  obtain ⟨v2, q2, h⟩ := mbp_e h
  refine m_ci (m_rV hx hb hml hown hF hR hS (ent9 kd_96) kd_96 rfl (c_X10_next l X M q2) q_X10_202_V hdV_X10_next ⟨Nat.le_of_ble_eq_true rfl, Nat.le_of_ble_eq_true rfl⟩ rfl hl.1 rfl (Nat.le_of_ble_eq_true rfl) dX10_takes_2) hS (fun H locs hR hS => ?_)
  refine lv_bipush (v := 48) hx hb dX10_takes_5 (by decide) ?_
  refine lv_iload_n hx hb dX10_takes_7 rfl (lv_at hl 1 rfl) ?_
  refine lv_iadd hx hb dX10_takes_8 ?_
  refine lv_bipush (v := 48) hx hb dX10_takes_9 (by decide) ?_
  refine lv_iload_n hx hb dX10_takes_11 rfl (lv_at hl 2 rfl) ?_
  refine lv_iadd hx hb dX10_takes_12 ?_
  refine m_ci (m_rV hx hb hml hown hF hR hS (ent9 kd_96) kd_96 rfl (c_X10_is l X v2 (48 + i1) (48 + i2) M) q_X10_121_V hdV_X10_is ⟨Nat.le_of_ble_eq_true rfl, Nat.le_of_ble_eq_true rfl⟩ rfl hl.1 rfl (Nat.le_of_ble_eq_true rfl) dX10_takes_13) hS (fun H locs hR hS => ?_)
  refine lv_if_ne (tgt := 21) hx hb dX10_takes_16 (by decide) (fun c16 => ?_) (fun c16 => ?_)
  · have h := mif_n h c16
    refine lv_aload_n hx hb dX10_takes_21 rfl (lv_at hl 0 rfl) ?_
    refine lv_aload_n hx hb dX10_takes_22 rfl (lv_at hl 0 rfl) ?_
    obtain ⟨v23, q23, h⟩ := mbp_e h
    refine m_ci (m_rV hx hb hml hown hF hR hS (ent9 kd_96) kd_96 rfl (c_X10_next l X M q23) q_X10_202_V hdV_X10_next ⟨Nat.le_of_ble_eq_true rfl, Nat.le_of_ble_eq_true rfl⟩ rfl hl.1 rfl (Nat.le_of_ble_eq_true rfl) dX10_takes_23) hS (fun H locs hR hS => ?_)
    refine lv_bipush (v := 48) hx hb dX10_takes_26 (by decide) ?_
    refine lv_isub hx hb dX10_takes_28 ?_
    obtain ⟨M29, eM29⟩ : ∃ y : mM, y = mI M 96 12 (v23 - 48) := ⟨_, rfl⟩
    have h := mlt_n h M29 eM29
    refine m_p9_12 hx hb hF hown hR hS kd_96 mw_5_149 dX10_takes_29 eM29 (fun H locs hR hS => ?_)
    refine lv_aload_n hx hb dX10_takes_32 rfl (lv_at hl 0 rfl) ?_
    refine lv_dup hx hb dX10_takes_33 rfl ?_
    refine m_g9_10 hx hb hF hown hR kd_96 mw_5_147 dX10_takes_34 ?_
    refine lv_iconst (v := 1) hx hb dX10_takes_37 (by decide) ?_
    refine lv_iadd hx hb dX10_takes_38 ?_
    obtain ⟨M39, eM39⟩ : ∃ y : mM, y = mI M29 96 10 ((M29.1 96 10) + 1) := ⟨_, rfl⟩
    have h := mlt_n h M39 eM39
    refine m_p9_10 hx hb hF hown hR hS kd_96 mw_5_147 dX10_takes_39 eM39 (fun H locs hR hS => ?_)
    refine lv_iconst (v := 1) hx hb dX10_takes_42 (by decide) ?_
    exact m_zr hx hb hlk hr hR hS (Or.inr rfl) (Option.some.inj h).symm dX10_takes_43
  · have h := mif_y h c16
    refine lv_iconst (v := 0) hx hb dX10_takes_19 (by decide) ?_
    exact m_zr hx hb hlk hr hR hS (Or.inl rfl) (Option.some.inj h).symm dX10_takes_20
theorem c_X10_takes (l : Launch) (X : mX) (i1 : Int32) (i2 : Int32) (M : mM) {r : Int32 × mM} (h : f_X10_takes i1 i2 M = some r) : mMi l yX10_takes cX10_takes 3 (some .boolean) 1 23 X [.ref (X.1 96), .int i1, .int i2] M r := m_ofi (by decide +kernel) (Nat.le_of_ble_eq_true rfl) rfl (fun p e s m args below meth c hs => w_X10_takes hs i1 i2 M h)
set_option maxRecDepth 100000 in
set_option maxHeartbeats 4000000 in
theorem w_X10_part_b150 {l : Launch} {X : mX} {p : Program} {e : Env} {s : State} {m : MethodId} {args : Array Value} {below : List Frame} {meth : Method} {c : Code} {r : mM} (hs : mS X RX10 cX10_part 3 none p s m meth c) : ∀ (s1 : Int32) (s2 : Int32) (M : mM), f_X10_part_b150 s1 s2 M = some r → mG X p l e (rmF 0 0) s m args below meth c (MQ below (mQv X r) args s 0 0 (mL X)) 3 150 [] [.int s2, .int s1, .ref (X.1 102)] M := by
  obtain ⟨hx, hb, hml, hown, hF, hlk, hr⟩ := id hs
  intro s1 s2 M h H locs ls hR hS hl
  obtain ⟨g150, h⟩ := mgd_e h
  obtain ⟨M150, eM150⟩ : ∃ y : mM, y = mI M 102 (Int32.toNatClampNeg s1) (vp_nar .boolean s2) := ⟨_, rfl⟩
  have h := mlt_n h M150 eM150
  refine m_zastL hx hb hR hS kd_102 g150 (jn := (Int32.toNatClampNeg s1)) rfl rfl dX10_part_150 eM150 (fun H locs hR hS => ?_)
  exact m_vr hx hb hlk hr hR hS (Option.some.inj h).symm dX10_part_151
set_option maxRecDepth 100000 in
set_option maxHeartbeats 4000000 in
theorem w_X10_part_b18 {l : Launch} {X : mX} {p : Program} {e : Env} {s : State} {m : MethodId} {args : Array Value} {below : List Frame} {meth : Method} {c : Code} {r : mM} (hs : mS X RX10 cX10_part 3 none p s m meth c) : ∀ (s0 : Int32) (M : mM), f_X10_part_b18 s0 M = some r → mG X p l e (rmF 0 0) s m args below meth c (MQ below (mQv X r) args s 0 0 (mL X)) 3 18 [(0, .ref (X.1 96))] [.int s0] M := by
  obtain ⟨hx, hb, hml, hown, hF, hlk, hr⟩ := id hs
  intro s0 M h H locs ls hR hS hl
  refine lv_istore_n (lv' := [(2, .int s0), (0, .ref (X.1 96))]) hx hb dX10_part_18 rfl hl (by decide) rfl (fun ls hl => ?_)
  refine lv_aload_n hx hb dX10_part_19 rfl (lv_at hl 1 rfl) ?_
  refine m_g9_14 hx hb hF hown hR kd_96 mw_5_151 dX10_part_20 ?_
  refine lv_aload_n hx hb dX10_part_23 rfl (lv_at hl 1 rfl) ?_
  refine m_g9_16 hx hb hF hown hR kd_96 mw_5_153 dX10_part_24 ?_
  refine lv_iconst (v := 0) hx hb dX10_part_27 (by decide) ?_
  obtain ⟨g28, h⟩ := mgd_e h
  obtain ⟨M28, eM28⟩ : ∃ y : mM, y = mI M 103 (Int32.toNatClampNeg (M.1 96 16)) 0 := ⟨_, rfl⟩
  have h := mlt_n h M28 eM28
  refine m_zastL hx hb hR hS kd_103 g28 (jn := (Int32.toNatClampNeg (M.1 96 16))) rfl rfl dX10_part_28 eM28 (fun H locs hR hS => ?_)
  refine lv_aload_n hx hb dX10_part_29 rfl (lv_at hl 1 rfl) ?_
  refine m_g9_13 hx hb hF hown hR kd_96 mw_5_150 dX10_part_30 ?_
  refine lv_aload_n hx hb dX10_part_33 rfl (lv_at hl 1 rfl) ?_
  refine m_g9_16 hx hb hF hown hR kd_96 mw_5_153 dX10_part_34 ?_
  refine lv_aload_n hx hb dX10_part_37 rfl (lv_at hl 1 rfl) ?_
  refine m_g9_15 hx hb hF hown hR kd_96 mw_5_152 dX10_part_38 ?_
  refine lv_aload_n hx hb dX10_part_41 rfl (lv_at hl 1 rfl) ?_
  refine m_g9_16 hx hb hF hown hR kd_96 mw_5_153 dX10_part_42 ?_
  obtain ⟨g45, h⟩ := mgd_e h
  refine m_ialdL hx hb hR kd_104 g45 (jn := (Int32.toNatClampNeg (M28.1 96 16))) rfl dX10_part_45 ?_
  refine lv_if_ne (tgt := 53) hx hb dX10_part_46 (by decide) (fun c46 => ?_) (fun c46 => ?_)
  · have h := mif_n h c46
    refine lv_aload_n hx hb dX10_part_53 rfl (lv_at hl 1 rfl) ?_
    refine m_g9_15 hx hb hF hown hR kd_96 mw_5_152 dX10_part_54 ?_
    refine lv_aload_n hx hb dX10_part_57 rfl (lv_at hl 1 rfl) ?_
    refine m_g9_16 hx hb hF hown hR kd_96 mw_5_153 dX10_part_58 ?_
    obtain ⟨g61, h⟩ := mgd_e h
    refine m_ialdL hx hb hR kd_104 g61 (jn := (Int32.toNatClampNeg (M28.1 96 16))) rfl dX10_part_61 ?_
    refine lv_bipush (v := 43) hx hb dX10_part_62 (by decide) ?_
    refine lv_icmp_ne (tgt := 91) hx hb dX10_part_64 (by decide) (fun c64 => ?_) (fun c64 => ?_)
    · have h := mif_n h c64
      refine lv_aload_n hx hb dX10_part_91 rfl (lv_at hl 1 rfl) ?_
      refine m_g9_15 hx hb hF hown hR kd_96 mw_5_152 dX10_part_92 ?_
      refine lv_aload_n hx hb dX10_part_95 rfl (lv_at hl 1 rfl) ?_
      refine m_g9_16 hx hb hF hown hR kd_96 mw_5_153 dX10_part_96 ?_
      obtain ⟨g99, h⟩ := mgd_e h
      refine m_ialdL hx hb hR kd_104 g99 (jn := (Int32.toNatClampNeg (M28.1 96 16))) rfl dX10_part_99 ?_
      refine lv_bipush (v := 45) hx hb dX10_part_100 (by decide) ?_
      refine lv_icmp_ne (tgt := 129) hx hb dX10_part_102 (by decide) (fun c102 => ?_) (fun c102 => ?_)
      · have h := mif_n h c102
        refine lv_aload_n hx hb dX10_part_129 rfl (lv_at hl 1 rfl) ?_
        refine m_g9_13 hx hb hF hown hR kd_96 mw_5_150 dX10_part_130 ?_
        refine lv_aload_n hx hb dX10_part_133 rfl (lv_at hl 1 rfl) ?_
        refine m_g9_16 hx hb hF hown hR kd_96 mw_5_153 dX10_part_134 ?_
        obtain ⟨g137, h⟩ := mgd_e h
        refine m_zaldL hx hb hR kd_102 g137 (jn := (Int32.toNatClampNeg (M28.1 96 16))) rfl dX10_part_137 ?_
        refine lv_if_eq (tgt := 149) hx hb dX10_part_138 (by decide) (fun c138 => ?_) (fun c138 => ?_)
        · have h := mif_y h c138
          refine lv_iconst (v := 0) hx hb dX10_part_149 (by decide) ?_
          exact w_X10_part_b150 hs (M28.1 96 16) 0 M28 h H locs ls hR hS (lv_sub hl [] rfl)
        · have h := mif_n h c138
          refine lv_iload_n hx hb dX10_part_141 rfl (lv_at hl 0 rfl) ?_
          refine lv_if_eq (tgt := 149) hx hb dX10_part_142 (by decide) (fun c142 => ?_) (fun c142 => ?_)
          · have h := mif_y h c142
            refine lv_iconst (v := 0) hx hb dX10_part_149 (by decide) ?_
            exact w_X10_part_b150 hs (M28.1 96 16) 0 M28 h H locs ls hR hS (lv_sub hl [] rfl)
          · have h := mif_n h c142
            refine lv_iconst (v := 1) hx hb dX10_part_145 (by decide) ?_
            refine lv_goto (tgt := 150) hx hb dX10_part_146 (by decide) ?_
            exact w_X10_part_b150 hs (M28.1 96 16) 1 M28 h H locs ls hR hS (lv_sub hl [] rfl)
      · have h := mif_y h c102
        refine lv_aload_n hx hb dX10_part_105 rfl (lv_at hl 1 rfl) ?_
        refine m_g9_13 hx hb hF hown hR kd_96 mw_5_150 dX10_part_106 ?_
        refine lv_aload_n hx hb dX10_part_109 rfl (lv_at hl 1 rfl) ?_
        refine m_g9_16 hx hb hF hown hR kd_96 mw_5_153 dX10_part_110 ?_
        obtain ⟨g113, h⟩ := mgd_e h
        refine m_zaldL hx hb hR kd_102 g113 (jn := (Int32.toNatClampNeg (M28.1 96 16))) rfl dX10_part_113 ?_
        refine lv_if_eq (tgt := 125) hx hb dX10_part_114 (by decide) (fun c114 => ?_) (fun c114 => ?_)
        · have h := mif_y h c114
          refine lv_iconst (v := 0) hx hb dX10_part_125 (by decide) ?_
          refine lv_goto (tgt := 150) hx hb dX10_part_126 (by decide) ?_
          exact w_X10_part_b150 hs (M28.1 96 16) 0 M28 h H locs ls hR hS (lv_sub hl [] rfl)
        · have h := mif_n h c114
          refine lv_iload_n hx hb dX10_part_117 rfl (lv_at hl 0 rfl) ?_
          refine lv_if_ne (tgt := 125) hx hb dX10_part_118 (by decide) (fun c118 => ?_) (fun c118 => ?_)
          · have h := mif_n h c118
            refine lv_iconst (v := 0) hx hb dX10_part_125 (by decide) ?_
            refine lv_goto (tgt := 150) hx hb dX10_part_126 (by decide) ?_
            exact w_X10_part_b150 hs (M28.1 96 16) 0 M28 h H locs ls hR hS (lv_sub hl [] rfl)
          · have h := mif_y h c118
            refine lv_iconst (v := 1) hx hb dX10_part_121 (by decide) ?_
            refine lv_goto (tgt := 150) hx hb dX10_part_122 (by decide) ?_
            exact w_X10_part_b150 hs (M28.1 96 16) 1 M28 h H locs ls hR hS (lv_sub hl [] rfl)
    · have h := mif_y h c64
      refine lv_aload_n hx hb dX10_part_67 rfl (lv_at hl 1 rfl) ?_
      refine m_g9_13 hx hb hF hown hR kd_96 mw_5_150 dX10_part_68 ?_
      refine lv_aload_n hx hb dX10_part_71 rfl (lv_at hl 1 rfl) ?_
      refine m_g9_16 hx hb hF hown hR kd_96 mw_5_153 dX10_part_72 ?_
      obtain ⟨g75, h⟩ := mgd_e h
      refine m_zaldL hx hb hR kd_102 g75 (jn := (Int32.toNatClampNeg (M28.1 96 16))) rfl dX10_part_75 ?_
      refine lv_if_ne (tgt := 83) hx hb dX10_part_76 (by decide) (fun c76 => ?_) (fun c76 => ?_)
      · have h := mif_n h c76
        refine lv_iconst (v := 1) hx hb dX10_part_83 (by decide) ?_
        refine lv_goto (tgt := 150) hx hb dX10_part_84 (by decide) ?_
        exact w_X10_part_b150 hs (M28.1 96 16) 1 M28 h H locs ls hR hS (lv_sub hl [] rfl)
      · have h := mif_y h c76
        refine lv_iload_n hx hb dX10_part_79 rfl (lv_at hl 0 rfl) ?_
        refine lv_if_eq (tgt := 87) hx hb dX10_part_80 (by decide) (fun c80 => ?_) (fun c80 => ?_)
        · have h := mif_y h c80
          refine lv_iconst (v := 0) hx hb dX10_part_87 (by decide) ?_
          refine lv_goto (tgt := 150) hx hb dX10_part_88 (by decide) ?_
          exact w_X10_part_b150 hs (M28.1 96 16) 0 M28 h H locs ls hR hS (lv_sub hl [] rfl)
        · have h := mif_n h c80
          refine lv_iconst (v := 1) hx hb dX10_part_83 (by decide) ?_
          refine lv_goto (tgt := 150) hx hb dX10_part_84 (by decide) ?_
          exact w_X10_part_b150 hs (M28.1 96 16) 1 M28 h H locs ls hR hS (lv_sub hl [] rfl)
  · have h := mif_y h c46
    refine lv_iload_n hx hb dX10_part_49 rfl (lv_at hl 0 rfl) ?_
    refine lv_goto (tgt := 150) hx hb dX10_part_50 (by decide) ?_
    exact w_X10_part_b150 hs (M28.1 96 16) s0 M28 h H locs ls hR hS (lv_sub hl [] rfl)
set_option maxRecDepth 100000 in
set_option maxHeartbeats 4000000 in
theorem w_X10_part {l : Launch} {X : mX} {p : Program} {e : Env} {s : State} {m : MethodId} {args : Array Value} {below : List Frame} {meth : Method} {c : Code} {r : mM} (hs : mS X RX10 cX10_part 3 none p s m meth c) : ∀ (i1 : Int32) (M : mM), f_X10_part i1 M = some r → mG X p l e (rmF 0 0) s m args below meth c (MQ below (mQv X r) args s 0 0 (mL X)) 3 0 [(0, .ref (X.1 96)), (1, .int i1)] [] M := by
  obtain ⟨hx, hb, hml, hown, hF, hlk, hr⟩ := id hs
  intro i1 M h H locs ls hR hS hl
  refine lv_iload_n hx hb dX10_part_0 rfl (lv_at hl 1 rfl) ?_
  refine lv_aload_n hx hb dX10_part_1 rfl (lv_at hl 0 rfl) ?_
  refine m_g9_14 hx hb hF hown hR kd_96 mw_5_151 dX10_part_2 ?_
  refine lv_aload_n hx hb dX10_part_5 rfl (lv_at hl 0 rfl) ?_
  refine m_g9_16 hx hb hF hown hR kd_96 mw_5_153 dX10_part_6 ?_
  obtain ⟨g9, h⟩ := mgd_e h
  refine m_zaldL hx hb hR kd_103 g9 (jn := (Int32.toNatClampNeg (M.1 96 16))) rfl dX10_part_9 ?_
  refine lv_icmp_eq (tgt := 17) hx hb dX10_part_10 (by decide) (fun c10 => ?_) (fun c10 => ?_)
  · have h := mif_y h c10
    refine lv_iconst (v := 0) hx hb dX10_part_17 (by decide) ?_
    exact w_X10_part_b18 hs 0 M h H locs ls hR hS (lv_sub hl [0] rfl)
  · have h := mif_n h c10
    refine lv_iconst (v := 1) hx hb dX10_part_13 (by decide) ?_
    refine lv_goto (tgt := 18) hx hb dX10_part_14 (by decide) ?_
    exact w_X10_part_b18 hs 1 M h H locs ls hR hS (lv_sub hl [0] rfl)
theorem c_X10_part (l : Launch) (X : mX) (i1 : Int32) (M : mM) {r : mM} (h : f_X10_part i1 M = some r) : mMv l yX10_part cX10_part 3 0 0 X [.ref (X.1 96), .int i1] M r := m_ofv (by decide +kernel) (Nat.le_of_ble_eq_true rfl) rfl (fun p e s m args below meth c hs => w_X10_part hs i1 M h)
set_option maxRecDepth 100000 in
set_option maxHeartbeats 4000000 in
theorem w_X10_open {l : Launch} {X : mX} {p : Program} {e : Env} {s : State} {m : MethodId} {args : Array Value} {below : List Frame} {meth : Method} {c : Code} {r : mM} (hs : mS X RX10 cX10_open 1 none p s m meth c) : ∀  (M : mM), f_X10_open  M = some r → mG X p l e (rmF 0 0) s m args below meth c (MQ below (mQv X r) args s 0 0 (mL X)) 1 0 [(0, .ref (X.1 96))] [] M := by
  obtain ⟨hx, hb, hml, hown, hF, hlk, hr⟩ := id hs
  intro M h H locs ls hR hS hl
  refine lv_aload_n hx hb dX10_open_0 rfl (lv_at hl 0 rfl) ?_
  refine m_g9_15 hx hb hF hown hR kd_96 mw_5_152 dX10_open_1 ?_
  refine lv_aload_n hx hb dX10_open_4 rfl (lv_at hl 0 rfl) ?_
  refine m_g9_16 hx hb hF hown hR kd_96 mw_5_153 dX10_open_5 ?_
  refine lv_iconst (v := 0) hx hb dX10_open_8 (by decide) ?_
  obtain ⟨g9, h⟩ := mgd_e h
  obtain ⟨M9, eM9⟩ : ∃ y : mM, y = mI M 104 (Int32.toNatClampNeg (M.1 96 16)) 0 := ⟨_, rfl⟩
  have h := mlt_n h M9 eM9
  refine m_iastL hx hb hR hS kd_104 g9 (jn := (Int32.toNatClampNeg (M.1 96 16))) rfl dX10_open_9 eM9 (fun H locs hR hS => ?_)
  refine lv_aload_n hx hb dX10_open_10 rfl (lv_at hl 0 rfl) ?_
  refine m_g9_14 hx hb hF hown hR kd_96 mw_5_151 dX10_open_11 ?_
  refine lv_aload_n hx hb dX10_open_14 rfl (lv_at hl 0 rfl) ?_
  refine m_g9_16 hx hb hF hown hR kd_96 mw_5_153 dX10_open_15 ?_
  refine lv_iconst (v := 0) hx hb dX10_open_18 (by decide) ?_
  obtain ⟨g19, h⟩ := mgd_e h
  obtain ⟨M19, eM19⟩ : ∃ y : mM, y = mI M9 103 (Int32.toNatClampNeg (M9.1 96 16)) 0 := ⟨_, rfl⟩
  have h := mlt_n h M19 eM19
  refine m_zastL hx hb hR hS kd_103 g19 (jn := (Int32.toNatClampNeg (M9.1 96 16))) rfl rfl dX10_open_19 eM19 (fun H locs hR hS => ?_)
  refine lv_aload_n hx hb dX10_open_20 rfl (lv_at hl 0 rfl) ?_
  refine m_g9_13 hx hb hF hown hR kd_96 mw_5_150 dX10_open_21 ?_
  refine lv_aload_n hx hb dX10_open_24 rfl (lv_at hl 0 rfl) ?_
  refine m_g9_16 hx hb hF hown hR kd_96 mw_5_153 dX10_open_25 ?_
  refine lv_iconst (v := 0) hx hb dX10_open_28 (by decide) ?_
  obtain ⟨g29, h⟩ := mgd_e h
  obtain ⟨M29, eM29⟩ : ∃ y : mM, y = mI M19 102 (Int32.toNatClampNeg (M19.1 96 16)) 0 := ⟨_, rfl⟩
  have h := mlt_n h M29 eM29
  refine m_zastL hx hb hR hS kd_102 g29 (jn := (Int32.toNatClampNeg (M19.1 96 16))) rfl rfl dX10_open_29 eM29 (fun H locs hR hS => ?_)
  exact m_vr hx hb hlk hr hR hS (Option.some.inj h).symm dX10_open_30
theorem c_X10_open (l : Launch) (X : mX) (M : mM) {r : mM} (h : f_X10_open M = some r) : mMv l yX10_open cX10_open 1 0 0 X [.ref (X.1 96)] M r := m_ofv (by decide +kernel) (Nat.le_of_ble_eq_true rfl) rfl (fun p e s m args below meth c hs => w_X10_open hs M h)
set_option maxRecDepth 100000 in
set_option maxHeartbeats 4000000 in
theorem w_X10_takesBox_b172 {l : Launch} {X : mX} {p : Program} {e : Env} {s : State} {m : MethodId} {args : Array Value} {below : List Frame} {meth : Method} {c : Code} {r : Int32 × mM} (hs : mS X RX10 cX10_takesBox 8 (some .boolean) p s m meth c) : ∀ (s1 : Int32) (M : mM), f_X10_takesBox_b172 s1 M = some r → mG X p l e (rmF 2 45) s m args below meth c (MQ below (mQi X r.2 r.1) args s 0 0 (mL X)) 8 172 [] [.int s1, .ref (X.1 96)] M := by
  obtain ⟨hx, hb, hml, hown, hF, hlk, hr⟩ := id hs
  intro s1 M h H locs ls hR hS hl
  obtain ⟨M172, q172, h⟩ := mbp_e h
  refine m_cv (m_rV hx hb hml hown hF hR hS (ent9 kd_96) kd_96 rfl (c_X10_part l X s1 M q172) q_X10_208_V hdV_X10_part ⟨Nat.le_of_ble_eq_true rfl, Nat.le_of_ble_eq_true rfl⟩ rfl hl.1 rfl (Nat.le_of_ble_eq_true rfl) dX10_takesBox_172) hS (fun H locs hR hS => ?_)
  refine lv_iconst (v := 1) hx hb dX10_takesBox_175 (by decide) ?_
  exact m_zr hx hb hlk hr hR hS (Or.inr rfl) (Option.some.inj h).symm dX10_takesBox_176
set_option maxRecDepth 100000 in
set_option maxHeartbeats 4000000 in
theorem w_X10_takesBox_b124 {l : Launch} {X : mX} {p : Program} {e : Env} {s : State} {m : MethodId} {args : Array Value} {below : List Frame} {meth : Method} {c : Code} {r : Int32 × mM} (hs : mS X RX10 cX10_takesBox 8 (some .boolean) p s m meth c) : ∀ (i1 : Int32) (i2 : Int32) (i3 : Int32) (i4 : Int32) (i5 : Int32) (i6 : Int32) (s0 : Int32) (M : mM), f_X10_takesBox_b124 i1 i2 i3 i4 i5 i6 s0 M = some r → mG X p l e (rmF 2 45) s m args below meth c (MQ below (mQi X r.2 r.1) args s 0 0 (mL X)) 8 124 [(0, .ref (X.1 96)), (1, .int i1), (2, .int i2), (3, .int i3), (4, .int i4), (5, .int i5), (6, .int i6)] [.int s0] M := by
  obtain ⟨hx, hb, hml, hown, hF, hlk, hr⟩ := id hs
  intro i1 i2 i3 i4 i5 i6 s0 M h H locs ls hR hS hl
  refine lv_istore (lv' := [(7, .int s0), (0, .ref (X.1 96)), (1, .int i1), (2, .int i2), (3, .int i3), (4, .int i4), (5, .int i5), (6, .int i6)]) hx hb dX10_takesBox_124 hl (by decide) rfl (fun ls hl => ?_)
  refine lv_aload_n hx hb dX10_takesBox_126 rfl (lv_at hl 1 rfl) ?_
  refine lv_iload_n hx hb dX10_takesBox_127 rfl (lv_at hl 4 rfl) ?_
  refine lv_if_eq (tgt := 170) hx hb dX10_takesBox_128 (by decide) (fun c128 => ?_) (fun c128 => ?_)
  · have h := mif_y h c128
    refine lv_iload hx hb dX10_takesBox_170 (lv_at hl 0 rfl) ?_
    exact w_X10_takesBox_b172 hs s0 M h H locs ls hR hS (lv_sub hl [] rfl)
  · have h := mif_n h c128
    refine lv_iload hx hb dX10_takesBox_131 (lv_at hl 0 rfl) ?_
    refine lv_if_eq (tgt := 166) hx hb dX10_takesBox_133 (by decide) (fun c133 => ?_) (fun c133 => ?_)
    · have h := mif_y h c133
      refine lv_iconst (v := 0) hx hb dX10_takesBox_166 (by decide) ?_
      refine lv_goto (tgt := 172) hx hb dX10_takesBox_167 (by decide) ?_
      exact w_X10_takesBox_b172 hs 0 M h H locs ls hR hS (lv_sub hl [] rfl)
    · have h := mif_n h c133
      refine lv_iload_n hx hb dX10_takesBox_136 rfl (lv_at hl 2 rfl) ?_
      refine lv_iload hx hb dX10_takesBox_137 (lv_at hl 5 rfl) ?_
      refine lv_icmp_eq (tgt := 162) hx hb dX10_takesBox_139 (by decide) (fun c139 => ?_) (fun c139 => ?_)
      · have h := mif_y h c139
        refine lv_iconst (v := 1) hx hb dX10_takesBox_162 (by decide) ?_
        refine lv_goto (tgt := 172) hx hb dX10_takesBox_163 (by decide) ?_
        exact w_X10_takesBox_b172 hs 1 M h H locs ls hR hS (lv_sub hl [] rfl)
      · have h := mif_n h c139
        refine lv_iload_n hx hb dX10_takesBox_142 rfl (lv_at hl 2 rfl) ?_
        refine lv_iload hx hb dX10_takesBox_143 (lv_at hl 7 rfl) ?_
        refine lv_icmp_eq (tgt := 162) hx hb dX10_takesBox_145 (by decide) (fun c145 => ?_) (fun c145 => ?_)
        · have h := mif_y h c145
          refine lv_iconst (v := 1) hx hb dX10_takesBox_162 (by decide) ?_
          refine lv_goto (tgt := 172) hx hb dX10_takesBox_163 (by decide) ?_
          exact w_X10_takesBox_b172 hs 1 M h H locs ls hR hS (lv_sub hl [] rfl)
        · have h := mif_n h c145
          refine lv_iload_n hx hb dX10_takesBox_148 rfl (lv_at hl 3 rfl) ?_
          refine lv_iload hx hb dX10_takesBox_149 (lv_at hl 6 rfl) ?_
          refine lv_icmp_eq (tgt := 162) hx hb dX10_takesBox_151 (by decide) (fun c151 => ?_) (fun c151 => ?_)
          · have h := mif_y h c151
            refine lv_iconst (v := 1) hx hb dX10_takesBox_162 (by decide) ?_
            refine lv_goto (tgt := 172) hx hb dX10_takesBox_163 (by decide) ?_
            exact w_X10_takesBox_b172 hs 1 M h H locs ls hR hS (lv_sub hl [] rfl)
          · have h := mif_n h c151
            refine lv_iload_n hx hb dX10_takesBox_154 rfl (lv_at hl 3 rfl) ?_
            refine lv_aload_n hx hb dX10_takesBox_155 rfl (lv_at hl 1 rfl) ?_
            refine m_g9_12 hx hb hF hown hR kd_96 mw_5_149 dX10_takesBox_156 ?_
            refine lv_icmp_ne (tgt := 166) hx hb dX10_takesBox_159 (by decide) (fun c159 => ?_) (fun c159 => ?_)
            · have h := mif_n h c159
              refine lv_iconst (v := 0) hx hb dX10_takesBox_166 (by decide) ?_
              refine lv_goto (tgt := 172) hx hb dX10_takesBox_167 (by decide) ?_
              exact w_X10_takesBox_b172 hs 0 M h H locs ls hR hS (lv_sub hl [] rfl)
            · have h := mif_y h c159
              refine lv_iconst (v := 1) hx hb dX10_takesBox_162 (by decide) ?_
              refine lv_goto (tgt := 172) hx hb dX10_takesBox_163 (by decide) ?_
              exact w_X10_takesBox_b172 hs 1 M h H locs ls hR hS (lv_sub hl [] rfl)
set_option maxRecDepth 100000 in
set_option maxHeartbeats 4000000 in
theorem w_X10_takesBox_b14 {l : Launch} {X : mX} {p : Program} {e : Env} {s : State} {m : MethodId} {args : Array Value} {below : List Frame} {meth : Method} {c : Code} {r : Int32 × mM} (hs : mS X RX10 cX10_takesBox 8 (some .boolean) p s m meth c) : ∀ (i1 : Int32) (i2 : Int32) (s0 : Int32) (M : mM), f_X10_takesBox_b14 i1 i2 s0 M = some r → mG X p l e (rmF 2 45) s m args below meth c (MQ below (mQi X r.2 r.1) args s 0 0 (mL X)) 8 14 [(0, .ref (X.1 96)), (1, .int i1), (2, .int i2)] [.int s0] M := by
  obtain ⟨hx, hb, hml, hown, hF, hlk, hr⟩ := id hs
  intro i1 i2 s0 M h H locs ls hR hS hl
  refine lv_istore_n (lv' := [(3, .int s0), (0, .ref (X.1 96)), (1, .int i1), (2, .int i2)]) hx hb dX10_takesBox_14 rfl hl (by decide) rfl (fun ls hl => ?_)
  refine lv_aload_n hx hb dX10_takesBox_15 rfl (lv_at hl 1 rfl) ?_
  refine lv_dup hx hb dX10_takesBox_16 rfl ?_
  refine m_g9_10 hx hb hF hown hR kd_96 mw_5_147 dX10_takesBox_17 ?_
  refine lv_iconst (v := 1) hx hb dX10_takesBox_20 (by decide) ?_
  refine lv_iadd hx hb dX10_takesBox_21 ?_
  obtain ⟨M22, eM22⟩ : ∃ y : mM, y = mI M 96 10 ((M.1 96 10) + 1) := ⟨_, rfl⟩
  have h := mlt_n h M22 eM22
  refine m_p9_10 hx hb hF hown hR hS kd_96 mw_5_147 dX10_takesBox_22 eM22 (fun H locs hR hS => ?_)
  refine lv_aload_n hx hb dX10_takesBox_25 rfl (lv_at hl 1 rfl) ?_
  refine lv_iconst (v := 0) hx hb dX10_takesBox_26 (by decide) ?_
  refine lv_bipush (v := 9) hx hb dX10_takesBox_27 (by decide) ?_
  obtain ⟨v29, M29, q29, h⟩ := mbw_e h
  refine m_ci (m_rV hx hb hml hown hF hR hS (ent9 kd_96) kd_96 rfl (c_X10_takes l X 0 9 M22 q29) q_X10_205_V hdV_X10_takes ⟨Nat.le_of_ble_eq_true rfl, Nat.le_of_ble_eq_true rfl⟩ rfl hl.1 rfl (Nat.le_of_ble_eq_true rfl) dX10_takesBox_29) hS (fun H locs hR hS => ?_)
  refine lv_if_ne (tgt := 37) hx hb dX10_takesBox_32 (by decide) (fun c32 => ?_) (fun c32 => ?_)
  · have h := mif_n h c32
    refine lv_aload_n hx hb dX10_takesBox_37 rfl (lv_at hl 1 rfl) ?_
    refine m_g9_12 hx hb hF hown hR kd_96 mw_5_149 dX10_takesBox_38 ?_
    refine lv_istore (lv' := [(4, .int (M29.1 96 12)), (3, .int s0), (0, .ref (X.1 96)), (1, .int i1), (2, .int i2)]) hx hb dX10_takesBox_41 hl (by decide) rfl (fun ls hl => ?_)
    refine lv_aload_n hx hb dX10_takesBox_43 rfl (lv_at hl 2 rfl) ?_
    refine lv_iconst (v := 0) hx hb dX10_takesBox_44 (by decide) ?_
    refine lv_bipush (v := 7) hx hb dX10_takesBox_45 (by decide) ?_
    obtain ⟨v47, M47, q47, h⟩ := mbw_e h
    refine m_ci (m_rV hx hb hml hown hF hR hS (ent9 kd_96) kd_96 rfl (c_X10_takes l X 0 7 M29 q47) q_X10_205_V hdV_X10_takes ⟨Nat.le_of_ble_eq_true rfl, Nat.le_of_ble_eq_true rfl⟩ rfl hl.1 rfl (Nat.le_of_ble_eq_true rfl) dX10_takesBox_47) hS (fun H locs hR hS => ?_)
    refine lv_if_ne (tgt := 55) hx hb dX10_takesBox_50 (by decide) (fun c50 => ?_) (fun c50 => ?_)
    · have h := mif_n h c50
      refine lv_aload_n hx hb dX10_takesBox_55 rfl (lv_at hl 2 rfl) ?_
      refine m_g9_12 hx hb hF hown hR kd_96 mw_5_149 dX10_takesBox_56 ?_
      refine lv_istore (lv' := [(5, .int (M47.1 96 12)), (4, .int (M29.1 96 12)), (3, .int s0), (0, .ref (X.1 96)), (1, .int i1), (2, .int i2)]) hx hb dX10_takesBox_59 hl (by decide) rfl (fun ls hl => ?_)
      refine lv_aload_n hx hb dX10_takesBox_61 rfl (lv_at hl 3 rfl) ?_
      refine lv_iload hx hb dX10_takesBox_62 (lv_at hl 1 rfl) ?_
      refine lv_bipush (v := 9) hx hb dX10_takesBox_64 (by decide) ?_
      obtain ⟨v66, M66, q66, h⟩ := mbw_e h
      refine m_ci (m_rV hx hb hml hown hF hR hS (ent9 kd_96) kd_96 rfl (c_X10_takes l X (M29.1 96 12) 9 M47 q66) q_X10_205_V hdV_X10_takes ⟨Nat.le_of_ble_eq_true rfl, Nat.le_of_ble_eq_true rfl⟩ rfl hl.1 rfl (Nat.le_of_ble_eq_true rfl) dX10_takesBox_66) hS (fun H locs hR hS => ?_)
      refine lv_if_ne (tgt := 74) hx hb dX10_takesBox_69 (by decide) (fun c69 => ?_) (fun c69 => ?_)
      · have h := mif_n h c69
        refine lv_aload_n hx hb dX10_takesBox_74 rfl (lv_at hl 3 rfl) ?_
        refine m_g9_12 hx hb hF hown hR kd_96 mw_5_149 dX10_takesBox_75 ?_
        refine lv_istore (lv' := [(6, .int (M66.1 96 12)), (5, .int (M47.1 96 12)), (4, .int (M29.1 96 12)), (3, .int s0), (0, .ref (X.1 96)), (1, .int i1), (2, .int i2)]) hx hb dX10_takesBox_78 hl (by decide) rfl (fun ls hl => ?_)
        refine lv_aload_n hx hb dX10_takesBox_80 rfl (lv_at hl 4 rfl) ?_
        refine lv_iload hx hb dX10_takesBox_81 (lv_at hl 1 rfl) ?_
        refine lv_bipush (v := 7) hx hb dX10_takesBox_83 (by decide) ?_
        obtain ⟨v85, M85, q85, h⟩ := mbw_e h
        refine m_ci (m_rV hx hb hml hown hF hR hS (ent9 kd_96) kd_96 rfl (c_X10_takes l X (M47.1 96 12) 7 M66 q85) q_X10_205_V hdV_X10_takes ⟨Nat.le_of_ble_eq_true rfl, Nat.le_of_ble_eq_true rfl⟩ rfl hl.1 rfl (Nat.le_of_ble_eq_true rfl) dX10_takesBox_85) hS (fun H locs hR hS => ?_)
        refine lv_if_ne (tgt := 93) hx hb dX10_takesBox_88 (by decide) (fun c88 => ?_) (fun c88 => ?_)
        · have h := mif_n h c88
          refine lv_aload_n hx hb dX10_takesBox_93 rfl (lv_at hl 4 rfl) ?_
          refine lv_iload_n hx hb dX10_takesBox_94 rfl (lv_at hl 5 rfl) ?_
          refine lv_iload hx hb dX10_takesBox_95 (lv_at hl 2 rfl) ?_
          refine lv_iload hx hb dX10_takesBox_97 (lv_at hl 0 rfl) ?_
          refine m_ci (m_rV hx hb hml hown hF hR hS (ent9 kd_96) kd_96 rfl (c_X10_is l X i1 (M29.1 96 12) (M66.1 96 12) M85) q_X10_121_V hdV_X10_is ⟨Nat.le_of_ble_eq_true rfl, Nat.le_of_ble_eq_true rfl⟩ rfl hl.1 rfl (Nat.le_of_ble_eq_true rfl) dX10_takesBox_99) hS (fun H locs hR hS => ?_)
          refine lv_if_eq (tgt := 123) hx hb dX10_takesBox_102 (by decide) (fun c102 => ?_) (fun c102 => ?_)
          · have h := mif_y h c102
            refine lv_iconst (v := 0) hx hb dX10_takesBox_123 (by decide) ?_
            exact w_X10_takesBox_b124 hs i1 i2 s0 (M29.1 96 12) (M47.1 96 12) (M66.1 96 12) 0 M85 h H locs ls hR hS (lv_sub hl [4, 5, 6, 3, 2, 1, 0] rfl)
          · have h := mif_n h c102
            refine lv_aload_n hx hb dX10_takesBox_105 rfl (lv_at hl 4 rfl) ?_
            refine lv_iload_n hx hb dX10_takesBox_106 rfl (lv_at hl 6 rfl) ?_
            refine lv_iload hx hb dX10_takesBox_107 (lv_at hl 1 rfl) ?_
            refine lv_aload_n hx hb dX10_takesBox_109 rfl (lv_at hl 4 rfl) ?_
            refine m_g9_12 hx hb hF hown hR kd_96 mw_5_149 dX10_takesBox_110 ?_
            refine m_ci (m_rV hx hb hml hown hF hR hS (ent9 kd_96) kd_96 rfl (c_X10_is l X i2 (M47.1 96 12) (M85.1 96 12) M85) q_X10_121_V hdV_X10_is ⟨Nat.le_of_ble_eq_true rfl, Nat.le_of_ble_eq_true rfl⟩ rfl hl.1 rfl (Nat.le_of_ble_eq_true rfl) dX10_takesBox_113) hS (fun H locs hR hS => ?_)
            refine lv_if_eq (tgt := 123) hx hb dX10_takesBox_116 (by decide) (fun c116 => ?_) (fun c116 => ?_)
            · have h := mif_y h c116
              refine lv_iconst (v := 0) hx hb dX10_takesBox_123 (by decide) ?_
              exact w_X10_takesBox_b124 hs i1 i2 s0 (M29.1 96 12) (M47.1 96 12) (M66.1 96 12) 0 M85 h H locs ls hR hS (lv_sub hl [4, 5, 6, 3, 2, 1, 0] rfl)
            · have h := mif_n h c116
              refine lv_iconst (v := 1) hx hb dX10_takesBox_119 (by decide) ?_
              refine lv_goto (tgt := 124) hx hb dX10_takesBox_120 (by decide) ?_
              exact w_X10_takesBox_b124 hs i1 i2 s0 (M29.1 96 12) (M47.1 96 12) (M66.1 96 12) 1 M85 h H locs ls hR hS (lv_sub hl [4, 5, 6, 3, 2, 1, 0] rfl)
        · have h := mif_y h c88
          refine lv_iconst (v := 0) hx hb dX10_takesBox_91 (by decide) ?_
          exact m_zr hx hb hlk hr hR hS (Or.inl rfl) (Option.some.inj h).symm dX10_takesBox_92
      · have h := mif_y h c69
        refine lv_iconst (v := 0) hx hb dX10_takesBox_72 (by decide) ?_
        exact m_zr hx hb hlk hr hR hS (Or.inl rfl) (Option.some.inj h).symm dX10_takesBox_73
    · have h := mif_y h c50
      refine lv_iconst (v := 0) hx hb dX10_takesBox_53 (by decide) ?_
      exact m_zr hx hb hlk hr hR hS (Or.inl rfl) (Option.some.inj h).symm dX10_takesBox_54
  · have h := mif_y h c32
    refine lv_iconst (v := 0) hx hb dX10_takesBox_35 (by decide) ?_
    exact m_zr hx hb hlk hr hR hS (Or.inl rfl) (Option.some.inj h).symm dX10_takesBox_36
set_option maxRecDepth 100000 in
set_option maxHeartbeats 4000000 in
theorem w_X10_takesBox {l : Launch} {X : mX} {p : Program} {e : Env} {s : State} {m : MethodId} {args : Array Value} {below : List Frame} {meth : Method} {c : Code} {r : Int32 × mM} (hs : mS X RX10 cX10_takesBox 8 (some .boolean) p s m meth c) : ∀ (i1 : Int32) (i2 : Int32) (M : mM), f_X10_takesBox i1 i2 M = some r → mG X p l e (rmF 2 45) s m args below meth c (MQ below (mQi X r.2 r.1) args s 0 0 (mL X)) 8 0 [(0, .ref (X.1 96)), (1, .int i1), (2, .int i2)] [] M := by
  obtain ⟨hx, hb, hml, hown, hF, hlk, hr⟩ := id hs
  intro i1 i2 M h H locs ls hR hS hl
  refine lv_aload_n hx hb dX10_takesBox_0 rfl (lv_at hl 0 rfl) ?_
  obtain ⟨v1, q1, h⟩ := mbp_e h
  refine m_ci (m_rV hx hb hml hown hF hR hS (ent9 kd_96) kd_96 rfl (c_X10_next l X M q1) q_X10_202_V hdV_X10_next ⟨Nat.le_of_ble_eq_true rfl, Nat.le_of_ble_eq_true rfl⟩ rfl hl.1 rfl (Nat.le_of_ble_eq_true rfl) dX10_takesBox_1) hS (fun H locs hR hS => ?_)
  refine lv_bipush (v := 111) hx hb dX10_takesBox_4 (by decide) ?_
  refine lv_icmp_ne (tgt := 13) hx hb dX10_takesBox_6 (by decide) (fun c6 => ?_) (fun c6 => ?_)
  · have h := mif_n h c6
    refine lv_iconst (v := 0) hx hb dX10_takesBox_13 (by decide) ?_
    exact w_X10_takesBox_b14 hs i1 i2 0 M h H locs ls hR hS (lv_sub hl [0, 1, 2] rfl)
  · have h := mif_y h c6
    refine lv_iconst (v := 1) hx hb dX10_takesBox_9 (by decide) ?_
    refine lv_goto (tgt := 14) hx hb dX10_takesBox_10 (by decide) ?_
    exact w_X10_takesBox_b14 hs i1 i2 1 M h H locs ls hR hS (lv_sub hl [0, 1, 2] rfl)
theorem c_X10_takesBox (l : Launch) (X : mX) (i1 : Int32) (i2 : Int32) (M : mM) {r : Int32 × mM} (h : f_X10_takesBox i1 i2 M = some r) : mMi l yX10_takesBox cX10_takesBox 8 (some .boolean) 2 45 X [.ref (X.1 96), .int i1, .int i2] M r := m_ofi (by decide +kernel) (Nat.le_of_ble_eq_true rfl) rfl (fun p e s m args below meth c hs => w_X10_takesBox hs i1 i2 M h)
set_option maxRecDepth 100000 in
set_option maxHeartbeats 4000000 in
theorem w_X10_goesShape_b245 {l : Launch} {X : mX} {p : Program} {e : Env} {s : State} {m : MethodId} {args : Array Value} {below : List Frame} {meth : Method} {c : Code} {r : Int32 × mM} (hs : mS X RX10 cX10_goesShape 7 (some .boolean) p s m meth c) (k17 : Int32 → Int32 → Int32 → mM → Option (Int32 × mM)) (hk17 : ∀ (i2 : Int32) (i3 : Int32) (i4 : Int32) (M : mM), k17 i2 i3 i4 M = some r → mG X p l e (rmF 3 72) s m args below meth c (MQ below (mQi X r.2 r.1) args s 0 0 (mL X)) 7 17 [(0, .ref (X.1 96)), (2, .int i2), (3, .int i3), (4, .int i4)] [] M) : ∀ (i2 : Int32) (i3 : Int32) (i4 : Int32) (M : mM), f_X10_goesShape_b245 k17 i2 i3 i4 M = some r → mG X p l e (rmF 3 72) s m args below meth c (MQ below (mQi X r.2 r.1) args s 0 0 (mL X)) 7 245 [(0, .ref (X.1 96)), (2, .int i2), (3, .int i3), (4, .int i4)] [] M := by
  obtain ⟨hx, hb, hml, hown, hF, hlk, hr⟩ := id hs
  intro i2 i3 i4 M h H locs ls hR hS hl
  refine lv_aload_n hx hb dX10_goesShape_245 rfl (lv_at hl 0 rfl) ?_
  refine lv_dup hx hb dX10_goesShape_246 rfl ?_
  refine m_g9_10 hx hb hF hown hR kd_96 mw_5_147 dX10_goesShape_247 ?_
  refine lv_iconst (v := 1) hx hb dX10_goesShape_250 (by decide) ?_
  refine lv_iadd hx hb dX10_goesShape_251 ?_
  obtain ⟨M252, eM252⟩ : ∃ y : mM, y = mI M 96 10 ((M.1 96 10) + 1) := ⟨_, rfl⟩
  have h := mlt_n h M252 eM252
  refine m_p9_10 hx hb hF hown hR hS kd_96 mw_5_147 dX10_goesShape_252 eM252 (fun H locs hR hS => ?_)
  refine lv_goto (tgt := 17) hx hb dX10_goesShape_255 (by decide) ?_
  exact hk17 i2 i3 i4 M252 h H locs ls hR hS (lv_sub hl [0, 1, 2, 3] rfl)
set_option maxRecDepth 100000 in
set_option maxHeartbeats 4000000 in
theorem w_X10_goesShape_b226 {l : Launch} {X : mX} {p : Program} {e : Env} {s : State} {m : MethodId} {args : Array Value} {below : List Frame} {meth : Method} {c : Code} {r : Int32 × mM} (hs : mS X RX10 cX10_goesShape 7 (some .boolean) p s m meth c) (k17 : Int32 → Int32 → Int32 → mM → Option (Int32 × mM)) (hk17 : ∀ (i2 : Int32) (i3 : Int32) (i4 : Int32) (M : mM), k17 i2 i3 i4 M = some r → mG X p l e (rmF 3 72) s m args below meth c (MQ below (mQi X r.2 r.1) args s 0 0 (mL X)) 7 17 [(0, .ref (X.1 96)), (2, .int i2), (3, .int i3), (4, .int i4)] [] M) : ∀ (i2 : Int32) (i3 : Int32) (i5 : Int32) (M : mM), f_X10_goesShape_b226 k17 i2 i3 i5 M = some r → mG X p l e (rmF 3 72) s m args below meth c (MQ below (mQi X r.2 r.1) args s 0 0 (mL X)) 7 226 [(0, .ref (X.1 96)), (2, .int i2), (3, .int i3), (5, .int i5)] [] M := by
  obtain ⟨hx, hb, hml, hown, hF, hlk, hr⟩ := id hs
  intro i2 i3 i5 M h H locs ls hR hS hl
  refine lv_aload_n hx hb dX10_goesShape_226 rfl (lv_at hl 0 rfl) ?_
  refine m_g9_15 hx hb hF hown hR kd_96 mw_5_152 dX10_goesShape_227 ?_
  refine lv_aload_n hx hb dX10_goesShape_230 rfl (lv_at hl 0 rfl) ?_
  refine m_g9_16 hx hb hF hown hR kd_96 mw_5_153 dX10_goesShape_231 ?_
  refine lv_iload hx hb dX10_goesShape_234 (lv_at hl 3 rfl) ?_
  obtain ⟨g236, h⟩ := mgd_e h
  obtain ⟨M236, eM236⟩ : ∃ y : mM, y = mI M 104 (Int32.toNatClampNeg (M.1 96 16)) i5 := ⟨_, rfl⟩
  have h := mlt_n h M236 eM236
  refine m_iastL hx hb hR hS kd_104 g236 (jn := (Int32.toNatClampNeg (M.1 96 16))) rfl dX10_goesShape_236 eM236 (fun H locs hR hS => ?_)
  refine lv_iconst (v := 1) hx hb dX10_goesShape_237 (by decide) ?_
  refine lv_istore (lv' := [(4, .int 1), (0, .ref (X.1 96)), (2, .int i2), (3, .int i3), (5, .int i5)]) hx hb dX10_goesShape_238 hl (by decide) rfl (fun ls hl => ?_)
  refine lv_goto (tgt := 245) hx hb dX10_goesShape_240 (by decide) ?_
  exact w_X10_goesShape_b245 hs k17 hk17 i2 i3 1 M236 h H locs ls hR hS (lv_sub hl [1, 2, 3, 0] rfl)
set_option maxRecDepth 100000 in
set_option maxHeartbeats 4000000 in
theorem w_X10_goesShape_b205 {l : Launch} {X : mX} {p : Program} {e : Env} {s : State} {m : MethodId} {args : Array Value} {below : List Frame} {meth : Method} {c : Code} {r : Int32 × mM} (hs : mS X RX10 cX10_goesShape 7 (some .boolean) p s m meth c) (k17 : Int32 → Int32 → Int32 → mM → Option (Int32 × mM)) (hk17 : ∀ (i2 : Int32) (i3 : Int32) (i4 : Int32) (M : mM), k17 i2 i3 i4 M = some r → mG X p l e (rmF 3 72) s m args below meth c (MQ below (mQi X r.2 r.1) args s 0 0 (mL X)) 7 17 [(0, .ref (X.1 96)), (2, .int i2), (3, .int i3), (4, .int i4)] [] M) : ∀ (i2 : Int32) (i3 : Int32) (i5 : Int32) (M : mM), f_X10_goesShape_b205 k17 i2 i3 i5 M = some r → mG X p l e (rmF 3 72) s m args below meth c (MQ below (mQi X r.2 r.1) args s 0 0 (mL X)) 7 205 [(0, .ref (X.1 96)), (2, .int i2), (3, .int i3), (5, .int i5)] [] M := by
  obtain ⟨hx, hb, hml, hown, hF, hlk, hr⟩ := id hs
  intro i2 i3 i5 M h H locs ls hR hS hl
  refine lv_iload hx hb dX10_goesShape_205 (lv_at hl 3 rfl) ?_
  refine lv_bipush (v := 43) hx hb dX10_goesShape_207 (by decide) ?_
  refine lv_icmp_eq (tgt := 226) hx hb dX10_goesShape_209 (by decide) (fun c209 => ?_) (fun c209 => ?_)
  · have h := mif_y h c209
    exact w_X10_goesShape_b226 hs k17 hk17 i2 i3 i5 M h H locs ls hR hS (lv_sub hl [0, 1, 2, 3] rfl)
  · have h := mif_n h c209
    refine lv_iload hx hb dX10_goesShape_212 (lv_at hl 3 rfl) ?_
    refine lv_bipush (v := 45) hx hb dX10_goesShape_214 (by decide) ?_
    refine lv_icmp_eq (tgt := 226) hx hb dX10_goesShape_216 (by decide) (fun c216 => ?_) (fun c216 => ?_)
    · have h := mif_y h c216
      exact w_X10_goesShape_b226 hs k17 hk17 i2 i3 i5 M h H locs ls hR hS (lv_sub hl [0, 1, 2, 3] rfl)
    · have h := mif_n h c216
      refine lv_iload hx hb dX10_goesShape_219 (lv_at hl 3 rfl) ?_
      refine lv_bipush (v := 38) hx hb dX10_goesShape_221 (by decide) ?_
      refine lv_icmp_ne (tgt := 243) hx hb dX10_goesShape_223 (by decide) (fun c223 => ?_) (fun c223 => ?_)
      · have h := mif_n h c223
        refine lv_iconst (v := 0) hx hb dX10_goesShape_243 (by decide) ?_
        exact m_zr hx hb hlk hr hR hS (Or.inl rfl) (Option.some.inj h).symm dX10_goesShape_244
      · have h := mif_y h c223
        exact w_X10_goesShape_b226 hs k17 hk17 i2 i3 i5 M h H locs ls hR hS (lv_sub hl [0, 1, 2, 3] rfl)
set_option maxRecDepth 100000 in
set_option maxHeartbeats 4000000 in
theorem w_X10_goesShape_b144 {l : Launch} {X : mX} {p : Program} {e : Env} {s : State} {m : MethodId} {args : Array Value} {below : List Frame} {meth : Method} {c : Code} {r : Int32 × mM} (hs : mS X RX10 cX10_goesShape 7 (some .boolean) p s m meth c) (k17 : Int32 → Int32 → Int32 → mM → Option (Int32 × mM)) (hk17 : ∀ (i2 : Int32) (i3 : Int32) (i4 : Int32) (M : mM), k17 i2 i3 i4 M = some r → mG X p l e (rmF 3 72) s m args below meth c (MQ below (mQi X r.2 r.1) args s 0 0 (mL X)) 7 17 [(0, .ref (X.1 96)), (2, .int i2), (3, .int i3), (4, .int i4)] [] M) : ∀ (i2 : Int32) (i3 : Int32) (M : mM), f_X10_goesShape_b144 k17 i2 i3 M = some r → mG X p l e (rmF 3 72) s m args below meth c (MQ below (mQi X r.2 r.1) args s 0 0 (mL X)) 7 144 [(0, .ref (X.1 96)), (2, .int i2), (3, .int i3)] [] M := by
  obtain ⟨hx, hb, hml, hown, hF, hlk, hr⟩ := id hs
  intro i2 i3 M h H locs ls hR hS hl
  refine lv_aload_n hx hb dX10_goesShape_144 rfl (lv_at hl 0 rfl) ?_
  refine lv_iload_n hx hb dX10_goesShape_145 rfl (lv_at hl 1 rfl) ?_
  refine lv_iload_n hx hb dX10_goesShape_146 rfl (lv_at hl 2 rfl) ?_
  obtain ⟨v147, M147, q147, h⟩ := mbw_e h
  refine m_ci (m_rV hx hb hml hown hF hR hS (ent9 kd_96) kd_96 rfl (c_X10_takesBox l X i2 i3 M q147) q_X10_218_V hdV_X10_takesBox ⟨Nat.le_of_ble_eq_true rfl, Nat.le_of_ble_eq_true rfl⟩ rfl hl.1 rfl (Nat.le_of_ble_eq_true rfl) dX10_goesShape_147) hS (fun H locs hR hS => ?_)
  refine lv_if_ne (tgt := 155) hx hb dX10_goesShape_150 (by decide) (fun c150 => ?_) (fun c150 => ?_)
  · have h := mif_n h c150
    refine lv_iconst (v := 0) hx hb dX10_goesShape_155 (by decide) ?_
    refine lv_istore (lv' := [(4, .int 0), (0, .ref (X.1 96)), (2, .int i2), (3, .int i3)]) hx hb dX10_goesShape_156 hl (by decide) rfl (fun ls hl => ?_)
    refine lv_goto (tgt := 17) hx hb dX10_goesShape_158 (by decide) ?_
    exact hk17 i2 i3 0 M147 h H locs ls hR hS (lv_sub hl [1, 2, 3, 0] rfl)
  · have h := mif_y h c150
    refine lv_iconst (v := 0) hx hb dX10_goesShape_153 (by decide) ?_
    exact m_zr hx hb hlk hr hR hS (Or.inl rfl) (Option.some.inj h).symm dX10_goesShape_154
set_option maxRecDepth 100000 in
set_option maxHeartbeats 4000000 in
theorem w_X10_goesShape_b71 {l : Launch} {X : mX} {p : Program} {e : Env} {s : State} {m : MethodId} {args : Array Value} {below : List Frame} {meth : Method} {c : Code} {r : Int32 × mM} (hs : mS X RX10 cX10_goesShape 7 (some .boolean) p s m meth c) (k17 : Int32 → Int32 → Int32 → mM → Option (Int32 × mM)) (hk17 : ∀ (i2 : Int32) (i3 : Int32) (i4 : Int32) (M : mM), k17 i2 i3 i4 M = some r → mG X p l e (rmF 3 72) s m args below meth c (MQ below (mQi X r.2 r.1) args s 0 0 (mL X)) 7 17 [(0, .ref (X.1 96)), (2, .int i2), (3, .int i3), (4, .int i4)] [] M) : ∀ (i2 : Int32) (i3 : Int32) (i4 : Int32) (s1 : Int32) (s2 : Int32) (M : mM), f_X10_goesShape_b71 k17 i2 i3 i4 s1 s2 M = some r → mG X p l e (rmF 3 72) s m args below meth c (MQ below (mQi X r.2 r.1) args s 0 0 (mL X)) 7 71 [(0, .ref (X.1 96)), (2, .int i2), (3, .int i3), (4, .int i4)] [.int s2, .int s1, .ref (X.1 103)] M := by
  obtain ⟨hx, hb, hml, hown, hF, hlk, hr⟩ := id hs
  intro i2 i3 i4 s1 s2 M h H locs ls hR hS hl
  obtain ⟨g71, h⟩ := mgd_e h
  obtain ⟨M71, eM71⟩ : ∃ y : mM, y = mI M 103 (Int32.toNatClampNeg s1) (vp_nar .boolean s2) := ⟨_, rfl⟩
  have h := mlt_n h M71 eM71
  refine m_zastL hx hb hR hS kd_103 g71 (jn := (Int32.toNatClampNeg s1)) rfl rfl dX10_goesShape_71 eM71 (fun H locs hR hS => ?_)
  refine lv_aload_n hx hb dX10_goesShape_72 rfl (lv_at hl 0 rfl) ?_
  refine lv_dup hx hb dX10_goesShape_73 rfl ?_
  refine m_g9_10 hx hb hF hown hR kd_96 mw_5_147 dX10_goesShape_74 ?_
  refine lv_iconst (v := 1) hx hb dX10_goesShape_77 (by decide) ?_
  refine lv_iadd hx hb dX10_goesShape_78 ?_
  obtain ⟨M79, eM79⟩ : ∃ y : mM, y = mI M71 96 10 ((M71.1 96 10) + 1) := ⟨_, rfl⟩
  have h := mlt_n h M79 eM79
  refine m_p9_10 hx hb hF hown hR hS kd_96 mw_5_147 dX10_goesShape_79 eM79 (fun H locs hR hS => ?_)
  refine lv_goto (tgt := 17) hx hb dX10_goesShape_82 (by decide) ?_
  exact hk17 i2 i3 i4 M79 h H locs ls hR hS (lv_sub hl [0, 1, 2, 3] rfl)
set_option maxRecDepth 100000 in
set_option maxHeartbeats 4000000 in
theorem w_X10_goesShape_b17 {l : Launch} {X : mX} {p : Program} {e : Env} {s : State} {m : MethodId} {args : Array Value} {below : List Frame} {meth : Method} {c : Code} {r : Int32 × mM} (hs : mS X RX10 cX10_goesShape 7 (some .boolean) p s m meth c) : ∀ n : Nat, ∀ (i2 : Int32) (i3 : Int32) (i4 : Int32) (M : mM), f_X10_goesShape_b17 n i2 i3 i4 M = some r → mG X p l e (rmF 3 72) s m args below meth c (MQ below (mQi X r.2 r.1) args s 0 0 (mL X)) 7 17 [(0, .ref (X.1 96)), (2, .int i2), (3, .int i3), (4, .int i4)] [] M := by
  obtain ⟨hx, hb, hml, hown, hF, hlk, hr⟩ := id hs
  intro n
  induction n with
  | zero =>
    intro i2 i3 i4 M h
    have h0 : (none : Option (Int32 × mM)) = some r := h
    cases h0
  | succ n ih =>
    intro i2 i3 i4 M h H locs ls hR hS hl
    refine lv_aload_n hx hb dX10_goesShape_17 rfl (lv_at hl 0 rfl) ?_
    refine m_g9_10 hx hb hF hown hR kd_96 mw_5_147 dX10_goesShape_18 ?_
    refine lv_aload_n hx hb dX10_goesShape_21 rfl (lv_at hl 0 rfl) ?_
    refine m_g9_9 hx hb hF hown hR kd_96 mw_5_146 dX10_goesShape_22 ?_
    refine lv_icmp_ge (tgt := 258) hx hb dX10_goesShape_25 (by decide) (fun c25 => ?_) (fun c25 => ?_)
    · have h := mif_y h c25
      refine lv_iload hx hb dX10_goesShape_258 (lv_at hl 3 rfl) ?_
      refine lv_if_ne (tgt := 274) hx hb dX10_goesShape_260 (by decide) (fun c260 => ?_) (fun c260 => ?_)
      · have h := mif_n h c260
        refine lv_iconst (v := 0) hx hb dX10_goesShape_274 (by decide) ?_
        exact m_zr hx hb hlk hr hR hS (Or.inl rfl) (Option.some.inj h).symm dX10_goesShape_275
      · have h := mif_y h c260
        refine lv_aload_n hx hb dX10_goesShape_263 rfl (lv_at hl 0 rfl) ?_
        refine m_g9_16 hx hb hF hown hR kd_96 mw_5_153 dX10_goesShape_264 ?_
        refine lv_if_ne (tgt := 274) hx hb dX10_goesShape_267 (by decide) (fun c267 => ?_) (fun c267 => ?_)
        · have h := mif_n h c267
          refine lv_iconst (v := 0) hx hb dX10_goesShape_274 (by decide) ?_
          exact m_zr hx hb hlk hr hR hS (Or.inl rfl) (Option.some.inj h).symm dX10_goesShape_275
        · have h := mif_y h c267
          refine lv_iconst (v := 1) hx hb dX10_goesShape_270 (by decide) ?_
          refine lv_goto (tgt := 275) hx hb dX10_goesShape_271 (by decide) ?_
          exact m_zr hx hb hlk hr hR hS (Or.inr rfl) (Option.some.inj h).symm dX10_goesShape_275
    · have h := mif_n h c25
      refine lv_aload_n hx hb dX10_goesShape_28 rfl (lv_at hl 0 rfl) ?_
      obtain ⟨v29, q29, h⟩ := mbp_e h
      refine m_ci (m_rV hx hb hml hown hF hR hS (ent9 kd_96) kd_96 rfl (c_X10_next l X M q29) q_X10_202_V hdV_X10_next ⟨Nat.le_of_ble_eq_true rfl, Nat.le_of_ble_eq_true rfl⟩ rfl hl.1 rfl (Nat.le_of_ble_eq_true rfl) dX10_goesShape_29) hS (fun H locs hR hS => ?_)
      refine lv_istore (lv' := [(5, .int v29), (0, .ref (X.1 96)), (2, .int i2), (3, .int i3), (4, .int i4)]) hx hb dX10_goesShape_32 hl (by decide) rfl (fun ls hl => ?_)
      refine lv_iload hx hb dX10_goesShape_34 (lv_at hl 4 rfl) ?_
      refine lv_if_eq (tgt := 161) hx hb dX10_goesShape_36 (by decide) (fun c36 => ?_) (fun c36 => ?_)
      · have h := mif_y h c36
        refine lv_iload hx hb dX10_goesShape_161 (lv_at hl 0 rfl) ?_
        refine lv_bipush (v := 41) hx hb dX10_goesShape_163 (by decide) ?_
        refine lv_icmp_ne (tgt := 205) hx hb dX10_goesShape_165 (by decide) (fun c165 => ?_) (fun c165 => ?_)
        · have h := mif_n h c165
          exact w_X10_goesShape_b205 hs (f_X10_goesShape_b17 n) ih i2 i3 v29 M h H locs ls hR hS (lv_sub hl [1, 2, 3, 0] rfl)
        · have h := mif_y h c165
          refine lv_aload_n hx hb dX10_goesShape_168 rfl (lv_at hl 1 rfl) ?_
          refine m_g9_16 hx hb hF hown hR kd_96 mw_5_153 dX10_goesShape_169 ?_
          refine lv_if_le (tgt := 205) hx hb dX10_goesShape_172 (by decide) (fun c172 => ?_) (fun c172 => ?_)
          · have h := mif_y h c172
            exact w_X10_goesShape_b205 hs (f_X10_goesShape_b17 n) ih i2 i3 v29 M h H locs ls hR hS (lv_sub hl [1, 2, 3, 0] rfl)
          · have h := mif_n h c172
            refine lv_aload_n hx hb dX10_goesShape_175 rfl (lv_at hl 1 rfl) ?_
            refine m_g9_13 hx hb hF hown hR kd_96 mw_5_150 dX10_goesShape_176 ?_
            refine lv_aload_n hx hb dX10_goesShape_179 rfl (lv_at hl 1 rfl) ?_
            refine m_g9_16 hx hb hF hown hR kd_96 mw_5_153 dX10_goesShape_180 ?_
            obtain ⟨g183, h⟩ := mgd_e h
            refine m_zaldL hx hb hR kd_102 g183 (jn := (Int32.toNatClampNeg (M.1 96 16))) rfl dX10_goesShape_183 ?_
            refine lv_topi (fun x184 ex184 => ?_)
            have h := mlt_n h x184 ex184
            refine lv_istore (lv' := [(6, .int x184), (5, .int v29), (0, .ref (X.1 96)), (2, .int i2), (3, .int i3), (4, .int i4)]) hx hb dX10_goesShape_184 hl (by decide) rfl (fun ls hl => ?_)
            refine lv_aload_n hx hb dX10_goesShape_186 rfl (lv_at hl 2 rfl) ?_
            refine lv_dup hx hb dX10_goesShape_187 rfl ?_
            refine m_g9_16 hx hb hF hown hR kd_96 mw_5_153 dX10_goesShape_188 ?_
            refine lv_iconst (v := 1) hx hb dX10_goesShape_191 (by decide) ?_
            refine lv_isub hx hb dX10_goesShape_192 ?_
            obtain ⟨M193, eM193⟩ : ∃ y : mM, y = mI M 96 16 ((M.1 96 16) - 1) := ⟨_, rfl⟩
            have h := mlt_n h M193 eM193
            refine m_p9_16 hx hb hF hown hR hS kd_96 mw_5_153 dX10_goesShape_193 eM193 (fun H locs hR hS => ?_)
            refine lv_aload_n hx hb dX10_goesShape_196 rfl (lv_at hl 2 rfl) ?_
            refine lv_iload hx hb dX10_goesShape_197 (lv_at hl 0 rfl) ?_
            obtain ⟨M199, q199, h⟩ := mbp_e h
            refine m_cv (m_rV hx hb hml hown hF hR hS (ent9 kd_96) kd_96 rfl (c_X10_part l X x184 M193 q199) q_X10_208_V hdV_X10_part ⟨Nat.le_of_ble_eq_true rfl, Nat.le_of_ble_eq_true rfl⟩ rfl hl.1 rfl (Nat.le_of_ble_eq_true rfl) dX10_goesShape_199) hS (fun H locs hR hS => ?_)
            refine lv_goto (tgt := 245) hx hb dX10_goesShape_202 (by decide) ?_
            exact w_X10_goesShape_b245 hs (f_X10_goesShape_b17 n) ih i2 i3 i4 M199 h H locs ls hR hS (lv_sub hl [2, 3, 4, 5] rfl)
      · have h := mif_n h c36
        refine lv_iload hx hb dX10_goesShape_39 (lv_at hl 0 rfl) ?_
        refine lv_bipush (v := 33) hx hb dX10_goesShape_41 (by decide) ?_
        refine lv_icmp_ne (tgt := 85) hx hb dX10_goesShape_43 (by decide) (fun c43 => ?_) (fun c43 => ?_)
        · have h := mif_n h c43
          refine lv_iload hx hb dX10_goesShape_85 (lv_at hl 0 rfl) ?_
          refine lv_bipush (v := 40) hx hb dX10_goesShape_87 (by decide) ?_
          refine lv_icmp_ne (tgt := 130) hx hb dX10_goesShape_89 (by decide) (fun c89 => ?_) (fun c89 => ?_)
          · have h := mif_n h c89
            refine lv_iload hx hb dX10_goesShape_130 (lv_at hl 0 rfl) ?_
            refine lv_bipush (v := 98) hx hb dX10_goesShape_132 (by decide) ?_
            refine lv_icmp_eq (tgt := 144) hx hb dX10_goesShape_134 (by decide) (fun c134 => ?_) (fun c134 => ?_)
            · have h := mif_y h c134
              exact w_X10_goesShape_b144 hs (f_X10_goesShape_b17 n) ih i2 i3 M h H locs ls hR hS (lv_sub hl [1, 2, 3] rfl)
            · have h := mif_n h c134
              refine lv_iload hx hb dX10_goesShape_137 (lv_at hl 0 rfl) ?_
              refine lv_bipush (v := 111) hx hb dX10_goesShape_139 (by decide) ?_
              refine lv_icmp_ne (tgt := 153) hx hb dX10_goesShape_141 (by decide) (fun c141 => ?_) (fun c141 => ?_)
              · have h := mif_n h c141
                refine lv_iconst (v := 0) hx hb dX10_goesShape_153 (by decide) ?_
                exact m_zr hx hb hlk hr hR hS (Or.inl rfl) (Option.some.inj h).symm dX10_goesShape_154
              · have h := mif_y h c141
                exact w_X10_goesShape_b144 hs (f_X10_goesShape_b17 n) ih i2 i3 M h H locs ls hR hS (lv_sub hl [1, 2, 3] rfl)
          · have h := mif_y h c89
            refine lv_aload_n hx hb dX10_goesShape_92 rfl (lv_at hl 1 rfl) ?_
            refine m_g9_16 hx hb hF hown hR kd_96 mw_5_153 dX10_goesShape_93 ?_
            refine lv_bipush (v := 6) hx hb dX10_goesShape_96 (by decide) ?_
            refine lv_icmp_ne (tgt := 103) hx hb dX10_goesShape_98 (by decide) (fun c98 => ?_) (fun c98 => ?_)
            · have h := mif_n h c98
              refine lv_aload_n hx hb dX10_goesShape_103 rfl (lv_at hl 1 rfl) ?_
              refine lv_dup hx hb dX10_goesShape_104 rfl ?_
              refine m_g9_16 hx hb hF hown hR kd_96 mw_5_153 dX10_goesShape_105 ?_
              refine lv_iconst (v := 1) hx hb dX10_goesShape_108 (by decide) ?_
              refine lv_iadd hx hb dX10_goesShape_109 ?_
              obtain ⟨M110, eM110⟩ : ∃ y : mM, y = mI M 96 16 ((M.1 96 16) + 1) := ⟨_, rfl⟩
              have h := mlt_n h M110 eM110
              refine m_p9_16 hx hb hF hown hR hS kd_96 mw_5_153 dX10_goesShape_110 eM110 (fun H locs hR hS => ?_)
              refine lv_aload_n hx hb dX10_goesShape_113 rfl (lv_at hl 1 rfl) ?_
              obtain ⟨M114, q114, h⟩ := mbp_e h
              refine m_cv (m_rV hx hb hml hown hF hR hS (ent9 kd_96) kd_96 rfl (c_X10_open l X M110 q114) q_X10_215_V hdV_X10_open ⟨Nat.le_of_ble_eq_true rfl, Nat.le_of_ble_eq_true rfl⟩ rfl hl.1 rfl (Nat.le_of_ble_eq_true rfl) dX10_goesShape_114) hS (fun H locs hR hS => ?_)
              refine lv_aload_n hx hb dX10_goesShape_117 rfl (lv_at hl 1 rfl) ?_
              refine lv_dup hx hb dX10_goesShape_118 rfl ?_
              refine m_g9_10 hx hb hF hown hR kd_96 mw_5_147 dX10_goesShape_119 ?_
              refine lv_iconst (v := 1) hx hb dX10_goesShape_122 (by decide) ?_
              refine lv_iadd hx hb dX10_goesShape_123 ?_
              obtain ⟨M124, eM124⟩ : ∃ y : mM, y = mI M114 96 10 ((M114.1 96 10) + 1) := ⟨_, rfl⟩
              have h := mlt_n h M124 eM124
              refine m_p9_10 hx hb hF hown hR hS kd_96 mw_5_147 dX10_goesShape_124 eM124 (fun H locs hR hS => ?_)
              refine lv_goto (tgt := 17) hx hb dX10_goesShape_127 (by decide) ?_
              exact ih i2 i3 i4 M124 h H locs ls hR hS (lv_sub hl [1, 2, 3, 4] rfl)
            · have h := mif_y h c98
              refine lv_iconst (v := 0) hx hb dX10_goesShape_101 (by decide) ?_
              exact m_zr hx hb hlk hr hR hS (Or.inl rfl) (Option.some.inj h).symm dX10_goesShape_102
        · have h := mif_y h c43
          refine lv_aload_n hx hb dX10_goesShape_46 rfl (lv_at hl 1 rfl) ?_
          refine m_g9_14 hx hb hF hown hR kd_96 mw_5_151 dX10_goesShape_47 ?_
          refine lv_aload_n hx hb dX10_goesShape_50 rfl (lv_at hl 1 rfl) ?_
          refine m_g9_16 hx hb hF hown hR kd_96 mw_5_153 dX10_goesShape_51 ?_
          refine lv_aload_n hx hb dX10_goesShape_54 rfl (lv_at hl 1 rfl) ?_
          refine m_g9_14 hx hb hF hown hR kd_96 mw_5_151 dX10_goesShape_55 ?_
          refine lv_aload_n hx hb dX10_goesShape_58 rfl (lv_at hl 1 rfl) ?_
          refine m_g9_16 hx hb hF hown hR kd_96 mw_5_153 dX10_goesShape_59 ?_
          obtain ⟨g62, h⟩ := mgd_e h
          refine m_zaldL hx hb hR kd_103 g62 (jn := (Int32.toNatClampNeg (M.1 96 16))) rfl dX10_goesShape_62 ?_
          refine lv_if_ne (tgt := 70) hx hb dX10_goesShape_63 (by decide) (fun c63 => ?_) (fun c63 => ?_)
          · have h := mif_n h c63
            refine lv_iconst (v := 0) hx hb dX10_goesShape_70 (by decide) ?_
            exact w_X10_goesShape_b71 hs (f_X10_goesShape_b17 n) ih i2 i3 i4 (M.1 96 16) 0 M h H locs ls hR hS (lv_sub hl [1, 2, 3, 4] rfl)
          · have h := mif_y h c63
            refine lv_iconst (v := 1) hx hb dX10_goesShape_66 (by decide) ?_
            refine lv_goto (tgt := 71) hx hb dX10_goesShape_67 (by decide) ?_
            exact w_X10_goesShape_b71 hs (f_X10_goesShape_b17 n) ih i2 i3 i4 (M.1 96 16) 1 M h H locs ls hR hS (lv_sub hl [1, 2, 3, 4] rfl)
set_option maxRecDepth 100000 in
set_option maxHeartbeats 4000000 in
theorem w_X10_goesShape {l : Launch} {X : mX} {p : Program} {e : Env} {s : State} {m : MethodId} {args : Array Value} {below : List Frame} {meth : Method} {c : Code} {r : Int32 × mM} (hs : mS X RX10 cX10_goesShape 7 (some .boolean) p s m meth c) : ∀ (i1 : Int32) (i2 : Int32) (i3 : Int32) (M : mM), f_X10_goesShape i1 i2 i3 M = some r → mG X p l e (rmF 3 72) s m args below meth c (MQ below (mQi X r.2 r.1) args s 0 0 (mL X)) 7 0 [(0, .ref (X.1 96)), (1, .int i1), (2, .int i2), (3, .int i3)] [] M := by
  obtain ⟨hx, hb, hml, hown, hF, hlk, hr⟩ := id hs
  intro i1 i2 i3 M h H locs ls hR hS hl
  refine lv_aload_n hx hb dX10_goesShape_0 rfl (lv_at hl 0 rfl) ?_
  refine lv_iload_n hx hb dX10_goesShape_1 rfl (lv_at hl 1 rfl) ?_
  obtain ⟨M2, q2, h⟩ := mbp_e h
  refine m_cv (m_rV hx hb hml hown hF hR hS (ent9 kd_96) kd_96 rfl (c_X10_begin l X i1 M q2) q_X10_212_V hdV_X10_begin ⟨Nat.le_of_ble_eq_true rfl, Nat.le_of_ble_eq_true rfl⟩ rfl hl.1 rfl (Nat.le_of_ble_eq_true rfl) dX10_goesShape_2) hS (fun H locs hR hS => ?_)
  refine lv_aload_n hx hb dX10_goesShape_5 rfl (lv_at hl 0 rfl) ?_
  refine lv_iconst (v := 0) hx hb dX10_goesShape_6 (by decide) ?_
  obtain ⟨M7, eM7⟩ : ∃ y : mM, y = mI M2 96 16 0 := ⟨_, rfl⟩
  have h := mlt_n h M7 eM7
  refine m_p9_16 hx hb hF hown hR hS kd_96 mw_5_153 dX10_goesShape_7 eM7 (fun H locs hR hS => ?_)
  refine lv_aload_n hx hb dX10_goesShape_10 rfl (lv_at hl 0 rfl) ?_
  obtain ⟨M11, q11, h⟩ := mbp_e h
  refine m_cv (m_rV hx hb hml hown hF hR hS (ent9 kd_96) kd_96 rfl (c_X10_open l X M7 q11) q_X10_215_V hdV_X10_open ⟨Nat.le_of_ble_eq_true rfl, Nat.le_of_ble_eq_true rfl⟩ rfl hl.1 rfl (Nat.le_of_ble_eq_true rfl) dX10_goesShape_11) hS (fun H locs hR hS => ?_)
  refine lv_iconst (v := 1) hx hb dX10_goesShape_14 (by decide) ?_
  refine lv_istore (lv' := [(4, .int 1), (0, .ref (X.1 96)), (1, .int i1), (2, .int i2), (3, .int i3)]) hx hb dX10_goesShape_15 hl (by decide) rfl (fun ls hl => ?_)
  exact w_X10_goesShape_b17 hs mN i2 i3 1 M11 h H locs ls hR hS (lv_sub hl [1, 3, 4, 0] rfl)
theorem c_X10_goesShape (l : Launch) (X : mX) (i1 : Int32) (i2 : Int32) (i3 : Int32) (M : mM) {r : Int32 × mM} (h : f_X10_goesShape i1 i2 i3 M = some r) : mMi l yX10_goesShape cX10_goesShape 7 (some .boolean) 3 72 X [.ref (X.1 96), .int i1, .int i2, .int i3] M r := m_ofi (by decide +kernel) (Nat.le_of_ble_eq_true rfl) rfl (fun p e s m args below meth c hs => w_X10_goesShape hs i1 i2 i3 M h)
set_option maxRecDepth 100000 in
set_option maxHeartbeats 4000000 in
theorem w_X10_fieldOf_b105 {l : Launch} {X : mX} {p : Program} {e : Env} {s : State} {m : MethodId} {args : Array Value} {below : List Frame} {meth : Method} {c : Code} {M : mM} {r : Int32} (hs : mS X RX10 cX10_fieldOf 8 (some .int) p s m meth c) : ∀ (i1 : Int32) (i2 : Int32) (i3 : Int32) (i4 : Int32) (i5 : Int32) (s0 : Int32), f_X10_fieldOf_b105 i1 i2 i3 i4 i5 s0 M = some r → mG X p l e (rmF 3 67) s m args below meth c (MQ below (mQi X M r) args s 0 0 (mL X)) 8 105 [(0, .ref (X.1 96)), (1, .int i1), (2, .int i2), (3, .int i3), (4, .int i4), (5, .int i5)] [.int s0] M := by
  obtain ⟨hx, hb, hml, hown, hF, hlk, hr⟩ := id hs
  intro i1 i2 i3 i4 i5 s0 h H locs ls hR hS hl
  refine lv_istore (lv' := [(6, .int s0), (0, .ref (X.1 96)), (1, .int i1), (2, .int i2), (3, .int i3), (4, .int i4), (5, .int i5)]) hx hb dX10_fieldOf_105 hl (by decide) rfl (fun ls hl => ?_)
  refine lv_aload_n hx hb dX10_fieldOf_107 rfl (lv_at hl 1 rfl) ?_
  refine lv_iload_n hx hb dX10_fieldOf_108 rfl (lv_at hl 4 rfl) ?_
  refine lv_iload hx hb dX10_fieldOf_109 (lv_at hl 6 rfl) ?_
  refine lv_iadd hx hb dX10_fieldOf_111 ?_
  refine lv_iload hx hb dX10_fieldOf_112 (lv_at hl 5 rfl) ?_
  refine lv_iload hx hb dX10_fieldOf_114 (lv_at hl 0 rfl) ?_
  refine lv_iadd hx hb dX10_fieldOf_116 ?_
  obtain ⟨v117, q117, h⟩ := mbp_e h
  refine m_ci (m_rV hx hb hml hown hF hR hS (ent9 kd_96) kd_96 rfl (c_X10_cubeAt l X (i3 + i5) (i4 + s0) M q117) q_X10_133_V hdV_X10_cubeAt ⟨Nat.le_of_ble_eq_true rfl, Nat.le_of_ble_eq_true rfl⟩ rfl hl.1 rfl (Nat.le_of_ble_eq_true rfl) dX10_fieldOf_117) hS (fun H locs hR hS => ?_)
  refine lv_istore (lv' := [(7, .int v117), (6, .int s0), (0, .ref (X.1 96)), (1, .int i1), (2, .int i2), (3, .int i3), (4, .int i4), (5, .int i5)]) hx hb dX10_fieldOf_120 hl (by decide) rfl (fun ls hl => ?_)
  refine lv_iload_n hx hb dX10_fieldOf_122 rfl (lv_at hl 4 rfl) ?_
  refine lv_if_ge (tgt := 128) hx hb dX10_fieldOf_123 (by decide) (fun c123 => ?_) (fun c123 => ?_)
  · have h := mif_y h c123
    refine lv_iload_n hx hb dX10_fieldOf_128 rfl (lv_at hl 3 rfl) ?_
    refine lv_bipush (v := 112) hx hb dX10_fieldOf_129 (by decide) ?_
    refine lv_icmp_ne (tgt := 144) hx hb dX10_fieldOf_131 (by decide) (fun c131 => ?_) (fun c131 => ?_)
    · have h := mif_n h c131
      refine lv_iload_n hx hb dX10_fieldOf_144 rfl (lv_at hl 3 rfl) ?_
      refine lv_bipush (v := 116) hx hb dX10_fieldOf_145 (by decide) ?_
      refine lv_icmp_ne (tgt := 160) hx hb dX10_fieldOf_147 (by decide) (fun c147 => ?_) (fun c147 => ?_)
      · have h := mif_n h c147
        refine lv_iload_n hx hb dX10_fieldOf_160 rfl (lv_at hl 3 rfl) ?_
        refine lv_bipush (v := 109) hx hb dX10_fieldOf_161 (by decide) ?_
        refine lv_icmp_ne (tgt := 176) hx hb dX10_fieldOf_163 (by decide) (fun c163 => ?_) (fun c163 => ?_)
        · have h := mif_n h c163
          refine lv_iload hx hb dX10_fieldOf_176 (lv_at hl 0 rfl) ?_
          refine lv_if_ge (tgt := 185) hx hb dX10_fieldOf_178 (by decide) (fun c178 => ?_) (fun c178 => ?_)
          · have h := mif_y h c178
            refine lv_iload_n hx hb dX10_fieldOf_185 rfl (lv_at hl 3 rfl) ?_
            refine lv_bipush (v := 96) hx hb dX10_fieldOf_186 (by decide) ?_
            refine lv_icmp_le (tgt := 195) hx hb dX10_fieldOf_188 (by decide) (fun c188 => ?_) (fun c188 => ?_)
            · have h := mif_y h c188
              refine lv_aload_n hx hb dX10_fieldOf_195 rfl (lv_at hl 2 rfl) ?_
              refine m_g9_1 hx hb hF hown hR kd_96 mw_5_138 dX10_fieldOf_196 ?_
              refine lv_bipush (v := 106) hx hb dX10_fieldOf_199 (by decide) ?_
              refine lv_iload hx hb dX10_fieldOf_201 (lv_at hl 0 rfl) ?_
              refine lv_iadd hx hb dX10_fieldOf_203 ?_
              obtain ⟨g204, h⟩ := mgd_e h
              refine m_ialdL hx hb hR kd_97 g204 (jn := (Int32.toNatClampNeg (106 + v117))) rfl dX10_fieldOf_204 ?_
              exact m_ir hx hb hlk hr hR hS (congrArg (fun z => (z, M)) (Option.some.inj h).symm) dX10_fieldOf_205
            · have h := mif_n h c188
              refine lv_iconst (v := 1) hx hb dX10_fieldOf_191 (by decide) ?_
              refine lv_goto (tgt := 205) hx hb dX10_fieldOf_192 (by decide) ?_
              exact m_ir hx hb hlk hr hR hS (congrArg (fun z => (z, M)) (Option.some.inj h).symm) dX10_fieldOf_205
          · have h := mif_n h c178
            refine lv_iconst (v := 0) hx hb dX10_fieldOf_181 (by decide) ?_
            refine lv_goto (tgt := 205) hx hb dX10_fieldOf_182 (by decide) ?_
            exact m_ir hx hb hlk hr hR hS (congrArg (fun z => (z, M)) (Option.some.inj h).symm) dX10_fieldOf_205
        · have h := mif_y h c163
          refine lv_aload_n hx hb dX10_fieldOf_166 rfl (lv_at hl 2 rfl) ?_
          refine m_g9_1 hx hb hF hown hR kd_96 mw_5_138 dX10_fieldOf_167 ?_
          refine lv_bipush (v := 90) hx hb dX10_fieldOf_170 (by decide) ?_
          refine lv_iload_n hx hb dX10_fieldOf_172 rfl (lv_at hl 4 rfl) ?_
          refine lv_iadd hx hb dX10_fieldOf_173 ?_
          obtain ⟨g174, h⟩ := mgd_e h
          refine m_ialdL hx hb hR kd_97 g174 (jn := (Int32.toNatClampNeg (90 + i2))) rfl dX10_fieldOf_174 ?_
          exact m_ir hx hb hlk hr hR hS (congrArg (fun z => (z, M)) (Option.some.inj h).symm) dX10_fieldOf_175
      · have h := mif_y h c147
        refine lv_aload_n hx hb dX10_fieldOf_150 rfl (lv_at hl 2 rfl) ?_
        refine m_g9_1 hx hb hF hown hR kd_96 mw_5_138 dX10_fieldOf_151 ?_
        refine lv_iconst (v := 5) hx hb dX10_fieldOf_154 (by decide) ?_
        refine m_ialdL hx hb hR kd_97 (show mIn 5 1834 from by decide) (jn := 5) (by decide) dX10_fieldOf_155 ?_
        refine lv_bipush (v := 10) hx hb dX10_fieldOf_156 (by decide) ?_
        refine lv_irem hx hb dX10_fieldOf_158 (by decide) ?_
        exact m_ir hx hb hlk hr hR hS (congrArg (fun z => (z, M)) (Option.some.inj h).symm) dX10_fieldOf_159
    · have h := mif_y h c131
      refine lv_aload_n hx hb dX10_fieldOf_134 rfl (lv_at hl 2 rfl) ?_
      refine m_g9_1 hx hb hF hown hR kd_96 mw_5_138 dX10_fieldOf_135 ?_
      refine lv_bipush (v := 58) hx hb dX10_fieldOf_138 (by decide) ?_
      refine lv_iload_n hx hb dX10_fieldOf_140 rfl (lv_at hl 4 rfl) ?_
      refine lv_iadd hx hb dX10_fieldOf_141 ?_
      obtain ⟨g142, h⟩ := mgd_e h
      refine m_ialdL hx hb hR kd_97 g142 (jn := (Int32.toNatClampNeg (58 + i2))) rfl dX10_fieldOf_142 ?_
      exact m_ir hx hb hlk hr hR hS (congrArg (fun z => (z, M)) (Option.some.inj h).symm) dX10_fieldOf_143
  · have h := mif_n h c123
    refine lv_iconst (v := 0) hx hb dX10_fieldOf_126 (by decide) ?_
    exact m_ir hx hb hlk hr hR hS (congrArg (fun z => (z, M)) (Option.some.inj h).symm) dX10_fieldOf_127
set_option maxRecDepth 100000 in
set_option maxHeartbeats 4000000 in
theorem w_X10_fieldOf_b70 {l : Launch} {X : mX} {p : Program} {e : Env} {s : State} {m : MethodId} {args : Array Value} {below : List Frame} {meth : Method} {c : Code} {M : mM} {r : Int32} (hs : mS X RX10 cX10_fieldOf 8 (some .int) p s m meth c) : ∀ (i1 : Int32) (i2 : Int32) (i3 : Int32) (i4 : Int32) (s0 : Int32), f_X10_fieldOf_b70 i1 i2 i3 i4 s0 M = some r → mG X p l e (rmF 3 67) s m args below meth c (MQ below (mQi X M r) args s 0 0 (mL X)) 8 70 [(0, .ref (X.1 96)), (1, .int i1), (2, .int i2), (3, .int i3), (4, .int i4)] [.int s0] M := by
  obtain ⟨hx, hb, hml, hown, hF, hlk, hr⟩ := id hs
  intro i1 i2 i3 i4 s0 h H locs ls hR hS hl
  refine lv_istore (lv' := [(5, .int s0), (0, .ref (X.1 96)), (1, .int i1), (2, .int i2), (3, .int i3), (4, .int i4)]) hx hb dX10_fieldOf_70 hl (by decide) rfl (fun ls hl => ?_)
  refine lv_iload_n hx hb dX10_fieldOf_72 rfl (lv_at hl 2 rfl) ?_
  refine lv_bipush (v := 110) hx hb dX10_fieldOf_73 (by decide) ?_
  refine lv_icmp_eq (tgt := 84) hx hb dX10_fieldOf_75 (by decide) (fun c75 => ?_) (fun c75 => ?_)
  · have h := mif_y h c75
    refine lv_iconst (v := 1) hx hb dX10_fieldOf_84 (by decide) ?_
    refine lv_goto (tgt := 105) hx hb dX10_fieldOf_85 (by decide) ?_
    exact w_X10_fieldOf_b105 hs i1 i2 i3 i4 s0 1 h H locs ls hR hS (lv_sub hl [1, 2, 3, 4, 5, 0] rfl)
  · have h := mif_n h c75
    refine lv_iload_n hx hb dX10_fieldOf_78 rfl (lv_at hl 2 rfl) ?_
    refine lv_bipush (v := 78) hx hb dX10_fieldOf_79 (by decide) ?_
    refine lv_icmp_ne (tgt := 88) hx hb dX10_fieldOf_81 (by decide) (fun c81 => ?_) (fun c81 => ?_)
    · have h := mif_n h c81
      refine lv_iload_n hx hb dX10_fieldOf_88 rfl (lv_at hl 2 rfl) ?_
      refine lv_bipush (v := 115) hx hb dX10_fieldOf_89 (by decide) ?_
      refine lv_icmp_eq (tgt := 100) hx hb dX10_fieldOf_91 (by decide) (fun c91 => ?_) (fun c91 => ?_)
      · have h := mif_y h c91
        refine lv_iconst (v := (-1)) hx hb dX10_fieldOf_100 (by decide) ?_
        refine lv_goto (tgt := 105) hx hb dX10_fieldOf_101 (by decide) ?_
        exact w_X10_fieldOf_b105 hs i1 i2 i3 i4 s0 (-1) h H locs ls hR hS (lv_sub hl [1, 2, 3, 4, 5, 0] rfl)
      · have h := mif_n h c91
        refine lv_iload_n hx hb dX10_fieldOf_94 rfl (lv_at hl 2 rfl) ?_
        refine lv_bipush (v := 83) hx hb dX10_fieldOf_95 (by decide) ?_
        refine lv_icmp_ne (tgt := 104) hx hb dX10_fieldOf_97 (by decide) (fun c97 => ?_) (fun c97 => ?_)
        · have h := mif_n h c97
          refine lv_iconst (v := 0) hx hb dX10_fieldOf_104 (by decide) ?_
          exact w_X10_fieldOf_b105 hs i1 i2 i3 i4 s0 0 h H locs ls hR hS (lv_sub hl [1, 2, 3, 4, 5, 0] rfl)
        · have h := mif_y h c97
          refine lv_iconst (v := (-1)) hx hb dX10_fieldOf_100 (by decide) ?_
          refine lv_goto (tgt := 105) hx hb dX10_fieldOf_101 (by decide) ?_
          exact w_X10_fieldOf_b105 hs i1 i2 i3 i4 s0 (-1) h H locs ls hR hS (lv_sub hl [1, 2, 3, 4, 5, 0] rfl)
    · have h := mif_y h c81
      refine lv_iconst (v := 1) hx hb dX10_fieldOf_84 (by decide) ?_
      refine lv_goto (tgt := 105) hx hb dX10_fieldOf_85 (by decide) ?_
      exact w_X10_fieldOf_b105 hs i1 i2 i3 i4 s0 1 h H locs ls hR hS (lv_sub hl [1, 2, 3, 4, 5, 0] rfl)
set_option maxRecDepth 100000 in
set_option maxHeartbeats 4000000 in
theorem w_X10_fieldOf_b35 {l : Launch} {X : mX} {p : Program} {e : Env} {s : State} {m : MethodId} {args : Array Value} {below : List Frame} {meth : Method} {c : Code} {M : mM} {r : Int32} (hs : mS X RX10 cX10_fieldOf 8 (some .int) p s m meth c) : ∀ (i1 : Int32) (i2 : Int32) (i3 : Int32) (s0 : Int32), f_X10_fieldOf_b35 i1 i2 i3 s0 M = some r → mG X p l e (rmF 3 67) s m args below meth c (MQ below (mQi X M r) args s 0 0 (mL X)) 8 35 [(0, .ref (X.1 96)), (1, .int i1), (2, .int i2), (3, .int i3)] [.int s0] M := by
  obtain ⟨hx, hb, hml, hown, hF, hlk, hr⟩ := id hs
  intro i1 i2 i3 s0 h H locs ls hR hS hl
  refine lv_istore (lv' := [(4, .int s0), (0, .ref (X.1 96)), (1, .int i1), (2, .int i2), (3, .int i3)]) hx hb dX10_fieldOf_35 hl (by decide) rfl (fun ls hl => ?_)
  refine lv_iload_n hx hb dX10_fieldOf_37 rfl (lv_at hl 2 rfl) ?_
  refine lv_bipush (v := 101) hx hb dX10_fieldOf_38 (by decide) ?_
  refine lv_icmp_eq (tgt := 49) hx hb dX10_fieldOf_40 (by decide) (fun c40 => ?_) (fun c40 => ?_)
  · have h := mif_y h c40
    refine lv_iconst (v := 1) hx hb dX10_fieldOf_49 (by decide) ?_
    refine lv_goto (tgt := 70) hx hb dX10_fieldOf_50 (by decide) ?_
    exact w_X10_fieldOf_b70 hs i1 i2 i3 s0 1 h H locs ls hR hS (lv_sub hl [1, 2, 3, 4, 0] rfl)
  · have h := mif_n h c40
    refine lv_iload_n hx hb dX10_fieldOf_43 rfl (lv_at hl 2 rfl) ?_
    refine lv_bipush (v := 69) hx hb dX10_fieldOf_44 (by decide) ?_
    refine lv_icmp_ne (tgt := 53) hx hb dX10_fieldOf_46 (by decide) (fun c46 => ?_) (fun c46 => ?_)
    · have h := mif_n h c46
      refine lv_iload_n hx hb dX10_fieldOf_53 rfl (lv_at hl 2 rfl) ?_
      refine lv_bipush (v := 119) hx hb dX10_fieldOf_54 (by decide) ?_
      refine lv_icmp_eq (tgt := 65) hx hb dX10_fieldOf_56 (by decide) (fun c56 => ?_) (fun c56 => ?_)
      · have h := mif_y h c56
        refine lv_iconst (v := (-1)) hx hb dX10_fieldOf_65 (by decide) ?_
        refine lv_goto (tgt := 70) hx hb dX10_fieldOf_66 (by decide) ?_
        exact w_X10_fieldOf_b70 hs i1 i2 i3 s0 (-1) h H locs ls hR hS (lv_sub hl [1, 2, 3, 4, 0] rfl)
      · have h := mif_n h c56
        refine lv_iload_n hx hb dX10_fieldOf_59 rfl (lv_at hl 2 rfl) ?_
        refine lv_bipush (v := 87) hx hb dX10_fieldOf_60 (by decide) ?_
        refine lv_icmp_ne (tgt := 69) hx hb dX10_fieldOf_62 (by decide) (fun c62 => ?_) (fun c62 => ?_)
        · have h := mif_n h c62
          refine lv_iconst (v := 0) hx hb dX10_fieldOf_69 (by decide) ?_
          exact w_X10_fieldOf_b70 hs i1 i2 i3 s0 0 h H locs ls hR hS (lv_sub hl [1, 2, 3, 4, 0] rfl)
        · have h := mif_y h c62
          refine lv_iconst (v := (-1)) hx hb dX10_fieldOf_65 (by decide) ?_
          refine lv_goto (tgt := 70) hx hb dX10_fieldOf_66 (by decide) ?_
          exact w_X10_fieldOf_b70 hs i1 i2 i3 s0 (-1) h H locs ls hR hS (lv_sub hl [1, 2, 3, 4, 0] rfl)
    · have h := mif_y h c46
      refine lv_iconst (v := 1) hx hb dX10_fieldOf_49 (by decide) ?_
      refine lv_goto (tgt := 70) hx hb dX10_fieldOf_50 (by decide) ?_
      exact w_X10_fieldOf_b70 hs i1 i2 i3 s0 1 h H locs ls hR hS (lv_sub hl [1, 2, 3, 4, 0] rfl)
set_option maxRecDepth 100000 in
set_option maxHeartbeats 4000000 in
theorem w_X10_fieldOf_b17 {l : Launch} {X : mX} {p : Program} {e : Env} {s : State} {m : MethodId} {args : Array Value} {below : List Frame} {meth : Method} {c : Code} {M : mM} {r : Int32} (hs : mS X RX10 cX10_fieldOf 8 (some .int) p s m meth c) : ∀ (i1 : Int32) (i2 : Int32) (s0 : Int32), f_X10_fieldOf_b17 i1 i2 s0 M = some r → mG X p l e (rmF 3 67) s m args below meth c (MQ below (mQi X M r) args s 0 0 (mL X)) 8 17 [(0, .ref (X.1 96)), (1, .int i1), (2, .int i2)] [.int s0] M := by
  obtain ⟨hx, hb, hml, hown, hF, hlk, hr⟩ := id hs
  intro i1 i2 s0 h H locs ls hR hS hl
  refine lv_istore_n (lv' := [(3, .int s0), (0, .ref (X.1 96)), (1, .int i1), (2, .int i2)]) hx hb dX10_fieldOf_17 rfl hl (by decide) rfl (fun ls hl => ?_)
  refine lv_iload_n hx hb dX10_fieldOf_18 rfl (lv_at hl 3 rfl) ?_
  refine lv_if_ge (tgt := 26) hx hb dX10_fieldOf_19 (by decide) (fun c19 => ?_) (fun c19 => ?_)
  · have h := mif_y h c19
    refine lv_aload_n hx hb dX10_fieldOf_26 rfl (lv_at hl 1 rfl) ?_
    refine m_g9_1 hx hb hF hown hR kd_96 mw_5_138 dX10_fieldOf_27 ?_
    refine lv_bipush (v := 42) hx hb dX10_fieldOf_30 (by decide) ?_
    refine lv_iload_n hx hb dX10_fieldOf_32 rfl (lv_at hl 3 rfl) ?_
    refine lv_iadd hx hb dX10_fieldOf_33 ?_
    obtain ⟨g34, h⟩ := mgd_e h
    refine m_ialdL hx hb hR kd_97 g34 (jn := (Int32.toNatClampNeg (42 + i2))) rfl dX10_fieldOf_34 ?_
    exact w_X10_fieldOf_b35 hs i1 i2 s0 (M.1 97 (Int32.toNatClampNeg (42 + i2))) h H locs ls hR hS (lv_sub hl [1, 2, 3, 0] rfl)
  · have h := mif_n h c19
    refine lv_iconst (v := 0) hx hb dX10_fieldOf_22 (by decide) ?_
    refine lv_goto (tgt := 35) hx hb dX10_fieldOf_23 (by decide) ?_
    exact w_X10_fieldOf_b35 hs i1 i2 s0 0 h H locs ls hR hS (lv_sub hl [1, 2, 3, 0] rfl)
set_option maxRecDepth 100000 in
set_option maxHeartbeats 4000000 in
theorem w_X10_fieldOf {l : Launch} {X : mX} {p : Program} {e : Env} {s : State} {m : MethodId} {args : Array Value} {below : List Frame} {meth : Method} {c : Code} {M : mM} {r : Int32} (hs : mS X RX10 cX10_fieldOf 8 (some .int) p s m meth c) : ∀ (i1 : Int32) (i2 : Int32), f_X10_fieldOf i1 i2 M = some r → mG X p l e (rmF 3 67) s m args below meth c (MQ below (mQi X M r) args s 0 0 (mL X)) 8 0 [(0, .ref (X.1 96)), (1, .int i1), (2, .int i2)] [] M := by
  obtain ⟨hx, hb, hml, hown, hF, hlk, hr⟩ := id hs
  intro i1 i2 h H locs ls hR hS hl
  refine lv_iload_n hx hb dX10_fieldOf_0 rfl (lv_at hl 2 rfl) ?_
  refine lv_if_ge (tgt := 8) hx hb dX10_fieldOf_1 (by decide) (fun c1 => ?_) (fun c1 => ?_)
  · have h := mif_y h c1
    refine lv_aload_n hx hb dX10_fieldOf_8 rfl (lv_at hl 0 rfl) ?_
    refine m_g9_1 hx hb hF hown hR kd_96 mw_5_138 dX10_fieldOf_9 ?_
    refine lv_bipush (v := 26) hx hb dX10_fieldOf_12 (by decide) ?_
    refine lv_iload_n hx hb dX10_fieldOf_14 rfl (lv_at hl 2 rfl) ?_
    refine lv_iadd hx hb dX10_fieldOf_15 ?_
    obtain ⟨g16, h⟩ := mgd_e h
    refine m_ialdL hx hb hR kd_97 g16 (jn := (Int32.toNatClampNeg (26 + i2))) rfl dX10_fieldOf_16 ?_
    exact w_X10_fieldOf_b17 hs i1 i2 (M.1 97 (Int32.toNatClampNeg (26 + i2))) h H locs ls hR hS (lv_sub hl [0, 1, 2] rfl)
  · have h := mif_n h c1
    refine lv_iconst (v := 0) hx hb dX10_fieldOf_4 (by decide) ?_
    refine lv_goto (tgt := 17) hx hb dX10_fieldOf_5 (by decide) ?_
    exact w_X10_fieldOf_b17 hs i1 i2 0 h H locs ls hR hS (lv_sub hl [0, 1, 2] rfl)
theorem c_X10_fieldOf (l : Launch) (X : mX) (i1 : Int32) (i2 : Int32) (M : mM) {r : Int32} (h : f_X10_fieldOf i1 i2 M = some r) : mMi l yX10_fieldOf cX10_fieldOf 8 (some .int) 3 67 X [.ref (X.1 96), .int i1, .int i2] M (r, M) := m_ofi (by decide +kernel) (Nat.le_of_ble_eq_true rfl) rfl (fun p e s m args below meth c hs => w_X10_fieldOf hs i1 i2 h)
set_option maxRecDepth 100000 in
set_option maxHeartbeats 4000000 in
theorem w_X10_isField {l : Launch} {X : mX} {p : Program} {e : Env} {s : State} {m : MethodId} {args : Array Value} {below : List Frame} {meth : Method} {c : Code} {M : mM} {r : Int32} (hs : mS X RX10 cX10_isField 2 (some .boolean) p s m meth c) : ∀ (i1 : Int32), f_X10_isField i1 = r → mG X p l e (rmF 0 0) s m args below meth c (MQ below (mQi X M r) args s 0 0 (mL X)) 2 0 [(0, .ref (X.1 96)), (1, .int i1)] [] M := by
  obtain ⟨hx, hb, hml, hown, hF, hlk, hr⟩ := id hs
  intro i1 h H locs ls hR hS hl
  refine lv_iload_n hx hb dX10_isField_0 rfl (lv_at hl 1 rfl) ?_
  refine lv_bipush (v := 110) hx hb dX10_isField_1 (by decide) ?_
  refine lv_icmp_eq (tgt := 66) hx hb dX10_isField_3 (by decide) (fun c3 => ?_) (fun c3 => ?_)
  · have h := mif_y h c3
    refine lv_iconst (v := 1) hx hb dX10_isField_66 (by decide) ?_
    refine lv_goto (tgt := 71) hx hb dX10_isField_67 (by decide) ?_
    exact m_zr hx hb hlk hr hR hS (Or.inr rfl) (congrArg (fun z => (z, M)) h.symm) dX10_isField_71
  · have h := mif_n h c3
    refine lv_iload_n hx hb dX10_isField_6 rfl (lv_at hl 1 rfl) ?_
    refine lv_bipush (v := 101) hx hb dX10_isField_7 (by decide) ?_
    refine lv_icmp_eq (tgt := 66) hx hb dX10_isField_9 (by decide) (fun c9 => ?_) (fun c9 => ?_)
    · have h := mif_y h c9
      refine lv_iconst (v := 1) hx hb dX10_isField_66 (by decide) ?_
      refine lv_goto (tgt := 71) hx hb dX10_isField_67 (by decide) ?_
      exact m_zr hx hb hlk hr hR hS (Or.inr rfl) (congrArg (fun z => (z, M)) h.symm) dX10_isField_71
    · have h := mif_n h c9
      refine lv_iload_n hx hb dX10_isField_12 rfl (lv_at hl 1 rfl) ?_
      refine lv_bipush (v := 115) hx hb dX10_isField_13 (by decide) ?_
      refine lv_icmp_eq (tgt := 66) hx hb dX10_isField_15 (by decide) (fun c15 => ?_) (fun c15 => ?_)
      · have h := mif_y h c15
        refine lv_iconst (v := 1) hx hb dX10_isField_66 (by decide) ?_
        refine lv_goto (tgt := 71) hx hb dX10_isField_67 (by decide) ?_
        exact m_zr hx hb hlk hr hR hS (Or.inr rfl) (congrArg (fun z => (z, M)) h.symm) dX10_isField_71
      · have h := mif_n h c15
        refine lv_iload_n hx hb dX10_isField_18 rfl (lv_at hl 1 rfl) ?_
        refine lv_bipush (v := 119) hx hb dX10_isField_19 (by decide) ?_
        refine lv_icmp_eq (tgt := 66) hx hb dX10_isField_21 (by decide) (fun c21 => ?_) (fun c21 => ?_)
        · have h := mif_y h c21
          refine lv_iconst (v := 1) hx hb dX10_isField_66 (by decide) ?_
          refine lv_goto (tgt := 71) hx hb dX10_isField_67 (by decide) ?_
          exact m_zr hx hb hlk hr hR hS (Or.inr rfl) (congrArg (fun z => (z, M)) h.symm) dX10_isField_71
        · have h := mif_n h c21
          refine lv_iload_n hx hb dX10_isField_24 rfl (lv_at hl 1 rfl) ?_
          refine lv_bipush (v := 78) hx hb dX10_isField_25 (by decide) ?_
          refine lv_icmp_eq (tgt := 66) hx hb dX10_isField_27 (by decide) (fun c27 => ?_) (fun c27 => ?_)
          · have h := mif_y h c27
            refine lv_iconst (v := 1) hx hb dX10_isField_66 (by decide) ?_
            refine lv_goto (tgt := 71) hx hb dX10_isField_67 (by decide) ?_
            exact m_zr hx hb hlk hr hR hS (Or.inr rfl) (congrArg (fun z => (z, M)) h.symm) dX10_isField_71
          · have h := mif_n h c27
            refine lv_iload_n hx hb dX10_isField_30 rfl (lv_at hl 1 rfl) ?_
            refine lv_bipush (v := 69) hx hb dX10_isField_31 (by decide) ?_
            refine lv_icmp_eq (tgt := 66) hx hb dX10_isField_33 (by decide) (fun c33 => ?_) (fun c33 => ?_)
            · have h := mif_y h c33
              refine lv_iconst (v := 1) hx hb dX10_isField_66 (by decide) ?_
              refine lv_goto (tgt := 71) hx hb dX10_isField_67 (by decide) ?_
              exact m_zr hx hb hlk hr hR hS (Or.inr rfl) (congrArg (fun z => (z, M)) h.symm) dX10_isField_71
            · have h := mif_n h c33
              refine lv_iload_n hx hb dX10_isField_36 rfl (lv_at hl 1 rfl) ?_
              refine lv_bipush (v := 83) hx hb dX10_isField_37 (by decide) ?_
              refine lv_icmp_eq (tgt := 66) hx hb dX10_isField_39 (by decide) (fun c39 => ?_) (fun c39 => ?_)
              · have h := mif_y h c39
                refine lv_iconst (v := 1) hx hb dX10_isField_66 (by decide) ?_
                refine lv_goto (tgt := 71) hx hb dX10_isField_67 (by decide) ?_
                exact m_zr hx hb hlk hr hR hS (Or.inr rfl) (congrArg (fun z => (z, M)) h.symm) dX10_isField_71
              · have h := mif_n h c39
                refine lv_iload_n hx hb dX10_isField_42 rfl (lv_at hl 1 rfl) ?_
                refine lv_bipush (v := 87) hx hb dX10_isField_43 (by decide) ?_
                refine lv_icmp_eq (tgt := 66) hx hb dX10_isField_45 (by decide) (fun c45 => ?_) (fun c45 => ?_)
                · have h := mif_y h c45
                  refine lv_iconst (v := 1) hx hb dX10_isField_66 (by decide) ?_
                  refine lv_goto (tgt := 71) hx hb dX10_isField_67 (by decide) ?_
                  exact m_zr hx hb hlk hr hR hS (Or.inr rfl) (congrArg (fun z => (z, M)) h.symm) dX10_isField_71
                · have h := mif_n h c45
                  refine lv_iload_n hx hb dX10_isField_48 rfl (lv_at hl 1 rfl) ?_
                  refine lv_bipush (v := 112) hx hb dX10_isField_49 (by decide) ?_
                  refine lv_icmp_eq (tgt := 66) hx hb dX10_isField_51 (by decide) (fun c51 => ?_) (fun c51 => ?_)
                  · have h := mif_y h c51
                    refine lv_iconst (v := 1) hx hb dX10_isField_66 (by decide) ?_
                    refine lv_goto (tgt := 71) hx hb dX10_isField_67 (by decide) ?_
                    exact m_zr hx hb hlk hr hR hS (Or.inr rfl) (congrArg (fun z => (z, M)) h.symm) dX10_isField_71
                  · have h := mif_n h c51
                    refine lv_iload_n hx hb dX10_isField_54 rfl (lv_at hl 1 rfl) ?_
                    refine lv_bipush (v := 116) hx hb dX10_isField_55 (by decide) ?_
                    refine lv_icmp_eq (tgt := 66) hx hb dX10_isField_57 (by decide) (fun c57 => ?_) (fun c57 => ?_)
                    · have h := mif_y h c57
                      refine lv_iconst (v := 1) hx hb dX10_isField_66 (by decide) ?_
                      refine lv_goto (tgt := 71) hx hb dX10_isField_67 (by decide) ?_
                      exact m_zr hx hb hlk hr hR hS (Or.inr rfl) (congrArg (fun z => (z, M)) h.symm) dX10_isField_71
                    · have h := mif_n h c57
                      refine lv_iload_n hx hb dX10_isField_60 rfl (lv_at hl 1 rfl) ?_
                      refine lv_bipush (v := 109) hx hb dX10_isField_61 (by decide) ?_
                      refine lv_icmp_ne (tgt := 70) hx hb dX10_isField_63 (by decide) (fun c63 => ?_) (fun c63 => ?_)
                      · have h := mif_n h c63
                        refine lv_iconst (v := 0) hx hb dX10_isField_70 (by decide) ?_
                        exact m_zr hx hb hlk hr hR hS (Or.inl rfl) (congrArg (fun z => (z, M)) h.symm) dX10_isField_71
                      · have h := mif_y h c63
                        refine lv_iconst (v := 1) hx hb dX10_isField_66 (by decide) ?_
                        refine lv_goto (tgt := 71) hx hb dX10_isField_67 (by decide) ?_
                        exact m_zr hx hb hlk hr hR hS (Or.inr rfl) (congrArg (fun z => (z, M)) h.symm) dX10_isField_71
theorem c_X10_isField (l : Launch) (X : mX) (i1 : Int32) (M : mM) : mMi l yX10_isField cX10_isField 2 (some .boolean) 0 0 X [.ref (X.1 96), .int i1] M (f_X10_isField i1, M) := m_ofi (by decide +kernel) (Nat.le_of_ble_eq_true rfl) rfl (fun p e s m args below meth c hs => w_X10_isField hs i1 rfl)
set_option maxRecDepth 100000 in
set_option maxHeartbeats 4000000 in
theorem w_X10_takesAtom {l : Launch} {X : mX} {p : Program} {e : Env} {s : State} {m : MethodId} {args : Array Value} {below : List Frame} {meth : Method} {c : Code} {r : Int32 × mM} (hs : mS X RX10 cX10_takesAtom 3 (some .boolean) p s m meth c) : ∀ (i1 : Int32) (M : mM), f_X10_takesAtom i1 M = some r → mG X p l e (rmF 4 94) s m args below meth c (MQ below (mQi X r.2 r.1) args s 0 0 (mL X)) 3 0 [(0, .ref (X.1 96)), (1, .int i1)] [] M := by
  obtain ⟨hx, hb, hml, hown, hF, hlk, hr⟩ := id hs
  intro i1 M h H locs ls hR hS hl
  refine lv_aload_n hx hb dX10_takesAtom_0 rfl (lv_at hl 0 rfl) ?_
  obtain ⟨v1, q1, h⟩ := mbp_e h
  refine m_ci (m_rV hx hb hml hown hF hR hS (ent9 kd_96) kd_96 rfl (c_X10_next l X M q1) q_X10_202_V hdV_X10_next ⟨Nat.le_of_ble_eq_true rfl, Nat.le_of_ble_eq_true rfl⟩ rfl hl.1 rfl (Nat.le_of_ble_eq_true rfl) dX10_takesAtom_1) hS (fun H locs hR hS => ?_)
  refine lv_istore_n (lv' := [(2, .int v1), (0, .ref (X.1 96)), (1, .int i1)]) hx hb dX10_takesAtom_4 rfl hl (by decide) rfl (fun ls hl => ?_)
  refine lv_aload_n hx hb dX10_takesAtom_5 rfl (lv_at hl 1 rfl) ?_
  refine lv_iload_n hx hb dX10_takesAtom_6 rfl (lv_at hl 0 rfl) ?_
  refine m_ci (m_rV hx hb hml hown hF hR hS (ent9 kd_96) kd_96 rfl (c_X10_isField l X v1 M) q_X10_221_V hdV_X10_isField ⟨Nat.le_of_ble_eq_true rfl, Nat.le_of_ble_eq_true rfl⟩ rfl hl.1 rfl (Nat.le_of_ble_eq_true rfl) dX10_takesAtom_7) hS (fun H locs hR hS => ?_)
  refine lv_if_eq (tgt := 35) hx hb dX10_takesAtom_10 (by decide) (fun c10 => ?_) (fun c10 => ?_)
  · have h := mif_y h c10
    refine lv_aload_n hx hb dX10_takesAtom_35 rfl (lv_at hl 1 rfl) ?_
    refine lv_iconst (v := 0) hx hb dX10_takesAtom_36 (by decide) ?_
    refine lv_bipush (v := 9) hx hb dX10_takesAtom_37 (by decide) ?_
    obtain ⟨v39, M39, q39, h⟩ := mbw_e h
    refine m_ci (m_rV hx hb hml hown hF hR hS (ent9 kd_96) kd_96 rfl (c_X10_takes l X 0 9 M q39) q_X10_205_V hdV_X10_takes ⟨Nat.le_of_ble_eq_true rfl, Nat.le_of_ble_eq_true rfl⟩ rfl hl.1 rfl (Nat.le_of_ble_eq_true rfl) dX10_takesAtom_39) hS (fun H locs hR hS => ?_)
    refine lv_if_ne (tgt := 47) hx hb dX10_takesAtom_42 (by decide) (fun c42 => ?_) (fun c42 => ?_)
    · have h := mif_n h c42
      refine lv_aload_n hx hb dX10_takesAtom_47 rfl (lv_at hl 1 rfl) ?_
      refine lv_aload_n hx hb dX10_takesAtom_48 rfl (lv_at hl 1 rfl) ?_
      refine m_g9_12 hx hb hF hown hR kd_96 mw_5_149 dX10_takesAtom_49 ?_
      obtain ⟨M52, eM52⟩ : ∃ y : mM, y = mI M39 96 22 (M39.1 96 12) := ⟨_, rfl⟩
      have h := mlt_n h M52 eM52
      refine m_p9_22 hx hb hF hown hR hS kd_96 mw_5_159 dX10_takesAtom_52 eM52 (fun H locs hR hS => ?_)
      refine lv_aload_n hx hb dX10_takesAtom_55 rfl (lv_at hl 1 rfl) ?_
      refine m_g9_22 hx hb hF hown hR kd_96 mw_5_159 dX10_takesAtom_56 ?_
      refine lv_if_le (tgt := 106) hx hb dX10_takesAtom_59 (by decide) (fun c59 => ?_) (fun c59 => ?_)
      · have h := mif_y h c59
        refine lv_iconst (v := 1) hx hb dX10_takesAtom_106 (by decide) ?_
        exact m_zr hx hb hlk hr hR hS (Or.inr rfl) (Option.some.inj h).symm dX10_takesAtom_107
      · have h := mif_n h c59
        refine lv_aload_n hx hb dX10_takesAtom_62 rfl (lv_at hl 1 rfl) ?_
        refine lv_aload_n hx hb dX10_takesAtom_63 rfl (lv_at hl 1 rfl) ?_
        obtain ⟨v64, q64, h⟩ := mbp_e h
        refine m_ci (m_rV hx hb hml hown hF hR hS (ent9 kd_96) kd_96 rfl (c_X10_next l X M52 q64) q_X10_202_V hdV_X10_next ⟨Nat.le_of_ble_eq_true rfl, Nat.le_of_ble_eq_true rfl⟩ rfl hl.1 rfl (Nat.le_of_ble_eq_true rfl) dX10_takesAtom_64) hS (fun H locs hR hS => ?_)
        refine lv_bipush (v := 48) hx hb dX10_takesAtom_67 (by decide) ?_
        refine lv_bipush (v := 57) hx hb dX10_takesAtom_69 (by decide) ?_
        refine m_ci (m_rV hx hb hml hown hF hR hS (ent9 kd_96) kd_96 rfl (c_X10_is l X v64 48 57 M52) q_X10_121_V hdV_X10_is ⟨Nat.le_of_ble_eq_true rfl, Nat.le_of_ble_eq_true rfl⟩ rfl hl.1 rfl (Nat.le_of_ble_eq_true rfl) dX10_takesAtom_71) hS (fun H locs hR hS => ?_)
        refine lv_if_eq (tgt := 106) hx hb dX10_takesAtom_74 (by decide) (fun c74 => ?_) (fun c74 => ?_)
        · have h := mif_y h c74
          refine lv_iconst (v := 1) hx hb dX10_takesAtom_106 (by decide) ?_
          exact m_zr hx hb hlk hr hR hS (Or.inr rfl) (Option.some.inj h).symm dX10_takesAtom_107
        · have h := mif_n h c74
          refine lv_aload_n hx hb dX10_takesAtom_77 rfl (lv_at hl 1 rfl) ?_
          refine lv_bipush (v := 10) hx hb dX10_takesAtom_78 (by decide) ?_
          refine lv_aload_n hx hb dX10_takesAtom_80 rfl (lv_at hl 1 rfl) ?_
          refine m_g9_22 hx hb hF hown hR kd_96 mw_5_159 dX10_takesAtom_81 ?_
          refine lv_imul hx hb dX10_takesAtom_84 ?_
          refine lv_aload_n hx hb dX10_takesAtom_85 rfl (lv_at hl 1 rfl) ?_
          obtain ⟨v86, q86, h⟩ := mbp_e h
          refine m_ci (m_rV hx hb hml hown hF hR hS (ent9 kd_96) kd_96 rfl (c_X10_next l X M52 q86) q_X10_202_V hdV_X10_next ⟨Nat.le_of_ble_eq_true rfl, Nat.le_of_ble_eq_true rfl⟩ rfl hl.1 rfl (Nat.le_of_ble_eq_true rfl) dX10_takesAtom_86) hS (fun H locs hR hS => ?_)
          refine lv_iadd hx hb dX10_takesAtom_89 ?_
          refine lv_bipush (v := 48) hx hb dX10_takesAtom_90 (by decide) ?_
          refine lv_isub hx hb dX10_takesAtom_92 ?_
          obtain ⟨M93, eM93⟩ : ∃ y : mM, y = mI M52 96 22 (((10 * (M52.1 96 22)) + v86) - 48) := ⟨_, rfl⟩
          have h := mlt_n h M93 eM93
          refine m_p9_22 hx hb hF hown hR hS kd_96 mw_5_159 dX10_takesAtom_93 eM93 (fun H locs hR hS => ?_)
          refine lv_aload_n hx hb dX10_takesAtom_96 rfl (lv_at hl 1 rfl) ?_
          refine lv_dup hx hb dX10_takesAtom_97 rfl ?_
          refine m_g9_10 hx hb hF hown hR kd_96 mw_5_147 dX10_takesAtom_98 ?_
          refine lv_iconst (v := 1) hx hb dX10_takesAtom_101 (by decide) ?_
          refine lv_iadd hx hb dX10_takesAtom_102 ?_
          obtain ⟨M103, eM103⟩ : ∃ y : mM, y = mI M93 96 10 ((M93.1 96 10) + 1) := ⟨_, rfl⟩
          have h := mlt_n h M103 eM103
          refine m_p9_10 hx hb hF hown hR hS kd_96 mw_5_147 dX10_takesAtom_103 eM103 (fun H locs hR hS => ?_)
          refine lv_iconst (v := 1) hx hb dX10_takesAtom_106 (by decide) ?_
          exact m_zr hx hb hlk hr hR hS (Or.inr rfl) (Option.some.inj h).symm dX10_takesAtom_107
    · have h := mif_y h c42
      refine lv_iconst (v := 0) hx hb dX10_takesAtom_45 (by decide) ?_
      exact m_zr hx hb hlk hr hR hS (Or.inl rfl) (Option.some.inj h).symm dX10_takesAtom_46
  · have h := mif_n h c10
    refine lv_aload_n hx hb dX10_takesAtom_13 rfl (lv_at hl 1 rfl) ?_
    refine lv_aload_n hx hb dX10_takesAtom_14 rfl (lv_at hl 1 rfl) ?_
    refine lv_iload_n hx hb dX10_takesAtom_15 rfl (lv_at hl 0 rfl) ?_
    refine lv_iload_n hx hb dX10_takesAtom_16 rfl (lv_at hl 2 rfl) ?_
    obtain ⟨v17, q17, h⟩ := mbp_e h
    refine m_ci (m_rV hx hb hml hown hF hR hS (ent9 kd_96) kd_96 rfl (c_X10_fieldOf l X v1 i1 M q17) q_X10_224_V hdV_X10_fieldOf ⟨Nat.le_of_ble_eq_true rfl, Nat.le_of_ble_eq_true rfl⟩ rfl hl.1 rfl (Nat.le_of_ble_eq_true rfl) dX10_takesAtom_17) hS (fun H locs hR hS => ?_)
    obtain ⟨M20, eM20⟩ : ∃ y : mM, y = mI M 96 22 v17 := ⟨_, rfl⟩
    have h := mlt_n h M20 eM20
    refine m_p9_22 hx hb hF hown hR hS kd_96 mw_5_159 dX10_takesAtom_20 eM20 (fun H locs hR hS => ?_)
    refine lv_aload_n hx hb dX10_takesAtom_23 rfl (lv_at hl 1 rfl) ?_
    refine lv_dup hx hb dX10_takesAtom_24 rfl ?_
    refine m_g9_10 hx hb hF hown hR kd_96 mw_5_147 dX10_takesAtom_25 ?_
    refine lv_iconst (v := 1) hx hb dX10_takesAtom_28 (by decide) ?_
    refine lv_iadd hx hb dX10_takesAtom_29 ?_
    obtain ⟨M30, eM30⟩ : ∃ y : mM, y = mI M20 96 10 ((M20.1 96 10) + 1) := ⟨_, rfl⟩
    have h := mlt_n h M30 eM30
    refine m_p9_10 hx hb hF hown hR hS kd_96 mw_5_147 dX10_takesAtom_30 eM30 (fun H locs hR hS => ?_)
    refine lv_iconst (v := 1) hx hb dX10_takesAtom_33 (by decide) ?_
    exact m_zr hx hb hlk hr hR hS (Or.inr rfl) (Option.some.inj h).symm dX10_takesAtom_34
theorem c_X10_takesAtom (l : Launch) (X : mX) (i1 : Int32) (M : mM) {r : Int32 × mM} (h : f_X10_takesAtom i1 M = some r) : mMi l yX10_takesAtom cX10_takesAtom 3 (some .boolean) 4 94 X [.ref (X.1 96), .int i1] M r := m_ofi (by decide +kernel) (Nat.le_of_ble_eq_true rfl) rfl (fun p e s m args below meth c hs => w_X10_takesAtom hs i1 M h)
