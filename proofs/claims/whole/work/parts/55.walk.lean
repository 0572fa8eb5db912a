set_option maxRecDepth 100000 in
set_option maxHeartbeats 4000000 in
theorem w_X10_sum_b68 {l : Launch} {X : mX} {p : Program} {e : Env} {s : State} {m : MethodId} {args : Array Value} {below : List Frame} {meth : Method} {c : Code} {M : mM} {r : Int32} (hs : mS X RX10 cX10_sum 4 (some .int) p s m meth c) : ∀ (i2 : Int32) (s0 : Int32) (s1 : Int32), f_X10_sum_b68 i2 s0 s1 M = some r → mG X p l e (rmF 3 65) s m args below meth c (MQ below (mQi X M r) args s 0 0 (mL X)) 4 68 [(2, .int i2)] [.int s1, .int s0] M := by
  obtain ⟨hx, hb, hml, hown, hF, hlk, hr⟩ := id hs
  intro i2 s0 s1 h H locs ls hR hS hl
  refine lv_iadd hx hb dX10_sum_68 ?_
  refine lv_istore_n (lv' := [(3, .int (s0 + s1)), (2, .int i2)]) hx hb dX10_sum_69 rfl hl (by decide) rfl (fun ls hl => ?_)
  refine lv_iload_n hx hb dX10_sum_70 rfl (lv_at hl 1 rfl) ?_
  refine lv_iconst (v := 3) hx hb dX10_sum_71 (by decide) ?_
  refine lv_icmp_ne (tgt := 81) hx hb dX10_sum_72 (by decide) (fun c72 => ?_) (fun c72 => ?_)
  · have h := mif_n h c72
    refine lv_iload_n hx hb dX10_sum_81 rfl (lv_at hl 0 rfl) ?_
    exact m_ir hx hb hlk hr hR hS (congrArg (fun z => (z, M)) (Option.some.inj h).symm) dX10_sum_82
  · have h := mif_y h c72
    refine lv_iconst (v := 2) hx hb dX10_sum_75 (by decide) ?_
    refine lv_iload_n hx hb dX10_sum_76 rfl (lv_at hl 0 rfl) ?_
    refine lv_imul hx hb dX10_sum_77 ?_
    refine lv_goto (tgt := 82) hx hb dX10_sum_78 (by decide) ?_
    exact m_ir hx hb hlk hr hR hS (congrArg (fun z => (z, M)) (Option.some.inj h).symm) dX10_sum_82
set_option maxRecDepth 100000 in
set_option maxHeartbeats 4000000 in
theorem w_X10_sum_b46 {l : Launch} {X : mX} {p : Program} {e : Env} {s : State} {m : MethodId} {args : Array Value} {below : List Frame} {meth : Method} {c : Code} {M : mM} {r : Int32} (hs : mS X RX10 cX10_sum 4 (some .int) p s m meth c) : ∀ (i1 : Int32) (i2 : Int32) (s0 : Int32) (s1 : Int32), f_X10_sum_b46 i1 i2 s0 s1 M = some r → mG X p l e (rmF 3 65) s m args below meth c (MQ below (mQi X M r) args s 0 0 (mL X)) 4 46 [(0, .ref (X.1 96)), (1, .int i1), (2, .int i2)] [.int s1, .int s0] M := by
  obtain ⟨hx, hb, hml, hown, hF, hlk, hr⟩ := id hs
  intro i1 i2 s0 s1 h H locs ls hR hS hl
  refine lv_iadd hx hb dX10_sum_46 ?_
  refine lv_iload_n hx hb dX10_sum_47 rfl (lv_at hl 2 rfl) ?_
  refine lv_iconst (v := 2) hx hb dX10_sum_48 (by decide) ?_
  refine lv_icmp_lt (tgt := 67) hx hb dX10_sum_49 (by decide) (fun c49 => ?_) (fun c49 => ?_)
  · have h := mif_y h c49
    refine lv_iconst (v := 0) hx hb dX10_sum_67 (by decide) ?_
    exact w_X10_sum_b68 hs i2 (s0 + s1) 0 h H locs ls hR hS (lv_sub hl [2] rfl)
  · have h := mif_n h c49
    refine lv_aload_n hx hb dX10_sum_52 rfl (lv_at hl 0 rfl) ?_
    refine lv_iload_n hx hb dX10_sum_53 rfl (lv_at hl 2 rfl) ?_
    refine m_ci (m_rV hx hb hml hown hF hR hS (ent9 kd_96) kd_96 rfl (c_X10_costOf l X i2 M) q_X10_179_V hdV_X10_costOf ⟨Nat.le_of_ble_eq_true rfl, Nat.le_of_ble_eq_true rfl⟩ rfl hl.1 rfl (Nat.le_of_ble_eq_true rfl) dX10_sum_54) hS (fun H locs hR hS => ?_)
    refine lv_aload_n hx hb dX10_sum_57 rfl (lv_at hl 0 rfl) ?_
    refine m_g9_30 hx hb hF hown hR kd_96 mw_5_167 dX10_sum_58 ?_
    refine lv_iload_n hx hb dX10_sum_61 rfl (lv_at hl 1 rfl) ?_
    obtain ⟨g62, h⟩ := mgd_e h
    refine m_ialdL hx hb hR kd_111 g62 (jn := (Int32.toNatClampNeg i1)) rfl dX10_sum_62 ?_
    refine lv_iadd hx hb dX10_sum_63 ?_
    refine lv_goto (tgt := 68) hx hb dX10_sum_64 (by decide) ?_
    exact w_X10_sum_b68 hs i2 (s0 + s1) ((f_X10_costOf i2) + (M.1 111 (Int32.toNatClampNeg i1))) h H locs ls hR hS (lv_sub hl [2] rfl)
set_option maxRecDepth 100000 in
set_option maxHeartbeats 4000000 in
theorem w_X10_sum {l : Launch} {X : mX} {p : Program} {e : Env} {s : State} {m : MethodId} {args : Array Value} {below : List Frame} {meth : Method} {c : Code} {M : mM} {r : Int32} (hs : mS X RX10 cX10_sum 4 (some .int) p s m meth c) : ∀ (i1 : Int32), f_X10_sum i1 M = some r → mG X p l e (rmF 3 65) s m args below meth c (MQ below (mQi X M r) args s 0 0 (mL X)) 4 0 [(0, .ref (X.1 96)), (1, .int i1)] [] M := by
  obtain ⟨hx, hb, hml, hown, hF, hlk, hr⟩ := id hs
  intro i1 h H locs ls hR hS hl
  refine lv_aload_n hx hb dX10_sum_0 rfl (lv_at hl 0 rfl) ?_
  refine lv_iload_n hx hb dX10_sum_1 rfl (lv_at hl 1 rfl) ?_
  obtain ⟨v2, q2, h⟩ := mbp_e h
  refine m_ci (m_rV hx hb hml hown hF hR hS (ent9 kd_96) kd_96 rfl (c_X10_lacksCube l X i1 M q2) q_X10_300_V hdV_X10_lacksCube ⟨Nat.le_of_ble_eq_true rfl, Nat.le_of_ble_eq_true rfl⟩ rfl hl.1 rfl (Nat.le_of_ble_eq_true rfl) dX10_sum_2) hS (fun H locs hR hS => ?_)
  refine lv_if_eq (tgt := 14) hx hb dX10_sum_5 (by decide) (fun c5 => ?_) (fun c5 => ?_)
  · have h := mif_y h c5
    refine lv_aload_n hx hb dX10_sum_14 rfl (lv_at hl 0 rfl) ?_
    refine m_g9_28 hx hb hF hown hR kd_96 mw_5_165 dX10_sum_15 ?_
    refine lv_iload_n hx hb dX10_sum_18 rfl (lv_at hl 1 rfl) ?_
    obtain ⟨g19, h⟩ := mgd_e h
    refine m_ialdL hx hb hR kd_109 g19 (jn := (Int32.toNatClampNeg i1)) rfl dX10_sum_19 ?_
    refine lv_topi (fun x20 ex20 => ?_)
    have h := mlt_n h x20 ex20
    refine lv_istore_n (lv' := [(2, .int x20), (0, .ref (X.1 96)), (1, .int i1)]) hx hb dX10_sum_20 rfl hl (by decide) rfl (fun ls hl => ?_)
    refine lv_bipush (v := 100) hx hb dX10_sum_21 (by decide) ?_
    refine lv_aload_n hx hb dX10_sum_23 rfl (lv_at hl 1 rfl) ?_
    refine lv_iload_n hx hb dX10_sum_24 rfl (lv_at hl 0 rfl) ?_
    refine m_ci (m_rV hx hb hml hown hF hR hS (ent9 kd_96) kd_96 rfl (c_X10_weightOf l X x20 M) q_X10_148_V hdV_X10_weightOf ⟨Nat.le_of_ble_eq_true rfl, Nat.le_of_ble_eq_true rfl⟩ rfl hl.1 rfl (Nat.le_of_ble_eq_true rfl) dX10_sum_25) hS (fun H locs hR hS => ?_)
    refine lv_iadd hx hb dX10_sum_28 ?_
    refine lv_aload_n hx hb dX10_sum_29 rfl (lv_at hl 1 rfl) ?_
    refine lv_iload_n hx hb dX10_sum_30 rfl (lv_at hl 0 rfl) ?_
    refine m_ci (m_rV hx hb hml hown hF hR hS (ent9 kd_96) kd_96 rfl (c_X10_bearsOf l X x20 M) q_X10_158_V hdV_X10_bearsOf ⟨Nat.le_of_ble_eq_true rfl, Nat.le_of_ble_eq_true rfl⟩ rfl hl.1 rfl (Nat.le_of_ble_eq_true rfl) dX10_sum_31) hS (fun H locs hR hS => ?_)
    refine lv_iadd hx hb dX10_sum_34 ?_
    refine lv_iload_n hx hb dX10_sum_35 rfl (lv_at hl 0 rfl) ?_
    refine lv_iconst (v := 1) hx hb dX10_sum_36 (by decide) ?_
    refine lv_icmp_ne (tgt := 45) hx hb dX10_sum_37 (by decide) (fun c37 => ?_) (fun c37 => ?_)
    · have h := mif_n h c37
      refine lv_iconst (v := 0) hx hb dX10_sum_45 (by decide) ?_
      exact w_X10_sum_b46 hs i1 x20 ((100 + (f_X10_weightOf x20)) + (f_X10_bearsOf x20)) 0 h H locs ls hR hS (lv_sub hl [1, 2, 0] rfl)
    · have h := mif_y h c37
      refine lv_bipush (v := 50) hx hb dX10_sum_40 (by decide) ?_
      refine lv_goto (tgt := 46) hx hb dX10_sum_42 (by decide) ?_
      exact w_X10_sum_b46 hs i1 x20 ((100 + (f_X10_weightOf x20)) + (f_X10_bearsOf x20)) 50 h H locs ls hR hS (lv_sub hl [1, 2, 0] rfl)
  · have h := mif_n h c5
    refine lv_aload_n hx hb dX10_sum_8 rfl (lv_at hl 0 rfl) ?_
    refine lv_iload_n hx hb dX10_sum_9 rfl (lv_at hl 1 rfl) ?_
    obtain ⟨v10, q10, h⟩ := mbp_e h
    refine m_ci (m_rV hx hb hml hown hF hR hS (ent9 kd_96) kd_96 rfl (c_X10_lacksCube l X i1 M q10) q_X10_300_V hdV_X10_lacksCube ⟨Nat.le_of_ble_eq_true rfl, Nat.le_of_ble_eq_true rfl⟩ rfl hl.1 rfl (Nat.le_of_ble_eq_true rfl) dX10_sum_10) hS (fun H locs hR hS => ?_)
    exact m_ir hx hb hlk hr hR hS (congrArg (fun z => (z, M)) (Option.some.inj h).symm) dX10_sum_13
theorem c_X10_sum (l : Launch) (X : mX) (i1 : Int32) (M : mM) {r : Int32} (h : f_X10_sum i1 M = some r) : mMi l yX10_sum cX10_sum 4 (some .int) 3 65 X [.ref (X.1 96), .int i1] M (r, M) := m_ofi (by decide +kernel) (Nat.le_of_ble_eq_true rfl) rfl (fun p e s m args below meth c hs => w_X10_sum hs i1 h)
set_option maxRecDepth 100000 in
set_option maxHeartbeats 4000000 in
theorem w_X10_toss {l : Launch} {X : mX} {p : Program} {e : Env} {s : State} {m : MethodId} {args : Array Value} {below : List Frame} {meth : Method} {c : Code} {M : mM} {r : Int32} (hs : mS X RX10 cX10_toss 2 (some .int) p s m meth c) : ∀ (i1 : Int32), f_X10_toss i1 M = some r → mG X p l e (rmF 3 65) s m args below meth c (MQ below (mQi X M r) args s 0 0 (mL X)) 2 0 [(0, .ref (X.1 96)), (1, .int i1)] [] M := by
  obtain ⟨hx, hb, hml, hown, hF, hlk, hr⟩ := id hs
  intro i1 h H locs ls hR hS hl
  refine lv_aload_n hx hb dX10_toss_0 rfl (lv_at hl 0 rfl) ?_
  refine lv_iload_n hx hb dX10_toss_1 rfl (lv_at hl 1 rfl) ?_
  obtain ⟨v2, q2, h⟩ := mbp_e h
  refine m_ci (m_rV hx hb hml hown hF hR hS (ent9 kd_96) kd_96 rfl (c_X10_lacksCube l X i1 M q2) q_X10_300_V hdV_X10_lacksCube ⟨Nat.le_of_ble_eq_true rfl, Nat.le_of_ble_eq_true rfl⟩ rfl hl.1 rfl (Nat.le_of_ble_eq_true rfl) dX10_toss_2) hS (fun H locs hR hS => ?_)
  refine lv_if_eq (tgt := 14) hx hb dX10_toss_5 (by decide) (fun c5 => ?_) (fun c5 => ?_)
  · have h := mif_y h c5
    refine lv_aload_n hx hb dX10_toss_14 rfl (lv_at hl 0 rfl) ?_
    refine m_g9_28 hx hb hF hown hR kd_96 mw_5_165 dX10_toss_15 ?_
    refine lv_iload_n hx hb dX10_toss_18 rfl (lv_at hl 1 rfl) ?_
    obtain ⟨g19, h⟩ := mgd_e h
    refine m_ialdL hx hb hR kd_109 g19 (jn := (Int32.toNatClampNeg i1)) rfl dX10_toss_19 ?_
    refine lv_if_eq (tgt := 33) hx hb dX10_toss_20 (by decide) (fun c20 => ?_) (fun c20 => ?_)
    · have h := mif_y h c20
      refine lv_bipush (v := (-15)) hx hb dX10_toss_33 (by decide) ?_
      exact m_ir hx hb hlk hr hR hS (congrArg (fun z => (z, M)) (Option.some.inj h).symm) dX10_toss_35
    · have h := mif_n h c20
      refine lv_aload_n hx hb dX10_toss_23 rfl (lv_at hl 0 rfl) ?_
      refine m_g9_31 hx hb hF hown hR kd_96 mw_5_168 dX10_toss_24 ?_
      refine lv_iload_n hx hb dX10_toss_27 rfl (lv_at hl 1 rfl) ?_
      obtain ⟨g28, h⟩ := mgd_e h
      refine m_ialdL hx hb hR kd_112 g28 (jn := (Int32.toNatClampNeg i1)) rfl dX10_toss_28 ?_
      refine lv_iconst (v := 1) hx hb dX10_toss_29 (by decide) ?_
      refine lv_icmp_ne (tgt := 36) hx hb dX10_toss_30 (by decide) (fun c30 => ?_) (fun c30 => ?_)
      · have h := mif_n h c30
        refine lv_aload_n hx hb dX10_toss_36 rfl (lv_at hl 0 rfl) ?_
        refine m_g9_29 hx hb hF hown hR kd_96 mw_5_166 dX10_toss_37 ?_
        refine lv_iload_n hx hb dX10_toss_40 rfl (lv_at hl 1 rfl) ?_
        obtain ⟨g41, h⟩ := mgd_e h
        refine m_ialdL hx hb hR kd_110 g41 (jn := (Int32.toNatClampNeg i1)) rfl dX10_toss_41 ?_
        refine lv_aload_n hx hb dX10_toss_42 rfl (lv_at hl 0 rfl) ?_
        refine m_g9_28 hx hb hF hown hR kd_96 mw_5_165 dX10_toss_43 ?_
        refine lv_iload_n hx hb dX10_toss_46 rfl (lv_at hl 1 rfl) ?_
        obtain ⟨g47, h⟩ := mgd_e h
        refine m_ialdL hx hb hR kd_109 g47 (jn := (Int32.toNatClampNeg i1)) rfl dX10_toss_47 ?_
        refine lv_iconst (v := 3) hx hb dX10_toss_48 (by decide) ?_
        refine lv_icmp_ne (tgt := 57) hx hb dX10_toss_49 (by decide) (fun c49 => ?_) (fun c49 => ?_)
        · have h := mif_n h c49
          refine lv_iconst (v := 0) hx hb dX10_toss_57 (by decide) ?_
          refine lv_iadd hx hb dX10_toss_58 ?_
          exact m_ir hx hb hlk hr hR hS (congrArg (fun z => (z, M)) (Option.some.inj h).symm) dX10_toss_59
        · have h := mif_y h c49
          refine lv_bipush (v := 100) hx hb dX10_toss_52 (by decide) ?_
          refine lv_goto (tgt := 58) hx hb dX10_toss_54 (by decide) ?_
          refine lv_iadd hx hb dX10_toss_58 ?_
          exact m_ir hx hb hlk hr hR hS (congrArg (fun z => (z, M)) (Option.some.inj h).symm) dX10_toss_59
      · have h := mif_y h c30
        refine lv_bipush (v := (-15)) hx hb dX10_toss_33 (by decide) ?_
        exact m_ir hx hb hlk hr hR hS (congrArg (fun z => (z, M)) (Option.some.inj h).symm) dX10_toss_35
  · have h := mif_n h c5
    refine lv_aload_n hx hb dX10_toss_8 rfl (lv_at hl 0 rfl) ?_
    refine lv_iload_n hx hb dX10_toss_9 rfl (lv_at hl 1 rfl) ?_
    obtain ⟨v10, q10, h⟩ := mbp_e h
    refine m_ci (m_rV hx hb hml hown hF hR hS (ent9 kd_96) kd_96 rfl (c_X10_lacksCube l X i1 M q10) q_X10_300_V hdV_X10_lacksCube ⟨Nat.le_of_ble_eq_true rfl, Nat.le_of_ble_eq_true rfl⟩ rfl hl.1 rfl (Nat.le_of_ble_eq_true rfl) dX10_toss_10) hS (fun H locs hR hS => ?_)
    exact m_ir hx hb hlk hr hR hS (congrArg (fun z => (z, M)) (Option.some.inj h).symm) dX10_toss_13
theorem c_X10_toss (l : Launch) (X : mX) (i1 : Int32) (M : mM) {r : Int32} (h : f_X10_toss i1 M = some r) : mMi l yX10_toss cX10_toss 2 (some .int) 3 65 X [.ref (X.1 96), .int i1] M (r, M) := m_ofi (by decide +kernel) (Nat.le_of_ble_eq_true rfl) rfl (fun p e s m args below meth c hs => w_X10_toss hs i1 h)
set_option maxRecDepth 100000 in
set_option maxHeartbeats 4000000 in
theorem w_X6_placeOfCube {l : Launch} {X : mX} {p : Program} {e : Env} {s : State} {m : MethodId} {args : Array Value} {below : List Frame} {meth : Method} {c : Code} {M : mM} {r : Int32} (hs : mS X RX6 cX6_placeOfCube 1 (some .int) p s m meth c) : ∀ (b : Nat) (h_b : isShelf b), f_X6_placeOfCube b M = r → mG X p l e (rmF 0 0) s m args below meth c (MQ below (mQi X M r) args s 0 0 (mL X)) 1 0 [(0, .ref (X.1 b))] [] M := by
  obtain ⟨hx, hb, hml, hown, hF, hlk, hr⟩ := id hs
  intro b h_b h H locs ls hR hS hl
  refine lv_bipush (v := 8) hx hb dX6_placeOfCube_0 (by decide) ?_
  refine lv_aload_n hx hb dX6_placeOfCube_2 rfl (lv_at hl 0 rfl) ?_
  refine m_g6_4 hx hb hF hown hR (kShelf0 h_b) mw_2_21 dX6_placeOfCube_3 ?_
  refine lv_imul hx hb dX6_placeOfCube_6 ?_
  refine lv_aload_n hx hb dX6_placeOfCube_7 rfl (lv_at hl 0 rfl) ?_
  refine m_g6_5 hx hb hF hown hR (kShelf0 h_b) mw_2_22 dX6_placeOfCube_8 ?_
  refine lv_iadd hx hb dX6_placeOfCube_11 ?_
  exact m_ir hx hb hlk hr hR hS (congrArg (fun z => (z, M)) h.symm) dX6_placeOfCube_12
theorem c_X6_placeOfCube (l : Launch) (X : mX) (b : Nat) (h_b : isShelf b) (M : mM) : mMi l yX6_placeOfCube cX6_placeOfCube 1 (some .int) 0 0 X [.ref (X.1 b)] M (f_X6_placeOfCube b M, M) := m_ofi (by decide +kernel) (Nat.le_of_ble_eq_true rfl) rfl (fun p e s m args below meth c hs => w_X6_placeOfCube hs b h_b rfl)
