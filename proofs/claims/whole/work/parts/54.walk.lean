set_option maxRecDepth 100000 in
set_option maxHeartbeats 4000000 in
theorem w_X10_takesSum_b92 {l : Launch} {X : mX} {p : Program} {e : Env} {s : State} {m : MethodId} {args : Array Value} {below : List Frame} {meth : Method} {c : Code} {r : Int32 × mM} (hs : mS X RX10 cX10_takesSum 3 (some .boolean) p s m meth c) (k18 : Int32 → mM → Option (Int32 × mM)) (hk18 : ∀ (i1 : Int32) (M : mM), k18 i1 M = some r → mG X p l e (rmF 5 116) s m args below meth c (MQ below (mQi X r.2 r.1) args s 0 0 (mL X)) 3 18 [(0, .ref (X.1 96)), (1, .int i1)] [] M) : ∀ (i1 : Int32) (s1 : Int32) (s2 : Int32) (M : mM), f_X10_takesSum_b92 k18 i1 s1 s2 M = some r → mG X p l e (rmF 5 116) s m args below meth c (MQ below (mQi X r.2 r.1) args s 0 0 (mL X)) 3 92 [(0, .ref (X.1 96)), (1, .int i1)] [.int s2, .int s1, .ref (X.1 96)] M := by
  obtain ⟨hx, hb, hml, hown, hF, hlk, hr⟩ := id hs
  intro i1 s1 s2 M h H locs ls hR hS hl
  refine lv_iadd hx hb dX10_takesSum_92 ?_
  obtain ⟨M93, eM93⟩ : ∃ y : mM, y = mI M 96 17 (s1 + s2) := ⟨_, rfl⟩
  have h := mlt_n h M93 eM93
  refine m_p9_17 hx hb hF hown hR hS kd_96 mw_5_154 dX10_takesSum_93 eM93 (fun H locs hR hS => ?_)
  refine lv_goto (tgt := 18) hx hb dX10_takesSum_96 (by decide) ?_
  exact hk18 i1 M93 h H locs ls hR hS (lv_sub hl [0, 1] rfl)
set_option maxRecDepth 100000 in
set_option maxHeartbeats 4000000 in
theorem w_X10_takesSum_b50 {l : Launch} {X : mX} {p : Program} {e : Env} {s : State} {m : MethodId} {args : Array Value} {below : List Frame} {meth : Method} {c : Code} {r : Int32 × mM} (hs : mS X RX10 cX10_takesSum 3 (some .boolean) p s m meth c) (k18 : Int32 → mM → Option (Int32 × mM)) (hk18 : ∀ (i1 : Int32) (M : mM), k18 i1 M = some r → mG X p l e (rmF 5 116) s m args below meth c (MQ below (mQi X r.2 r.1) args s 0 0 (mL X)) 3 18 [(0, .ref (X.1 96)), (1, .int i1)] [] M) : ∀ (i1 : Int32) (s0 : Int32) (M : mM), f_X10_takesSum_b50 k18 i1 s0 M = some r → mG X p l e (rmF 5 116) s m args below meth c (MQ below (mQi X r.2 r.1) args s 0 0 (mL X)) 3 50 [(0, .ref (X.1 96)), (1, .int i1)] [.int s0] M := by
  obtain ⟨hx, hb, hml, hown, hF, hlk, hr⟩ := id hs
  intro i1 s0 M h H locs ls hR hS hl
  refine lv_istore_n (lv' := [(2, .int s0), (0, .ref (X.1 96)), (1, .int i1)]) hx hb dX10_takesSum_50 rfl hl (by decide) rfl (fun ls hl => ?_)
  refine lv_aload_n hx hb dX10_takesSum_51 rfl (lv_at hl 1 rfl) ?_
  refine lv_dup hx hb dX10_takesSum_52 rfl ?_
  refine m_g9_10 hx hb hF hown hR kd_96 mw_5_147 dX10_takesSum_53 ?_
  refine lv_iconst (v := 1) hx hb dX10_takesSum_56 (by decide) ?_
  refine lv_iadd hx hb dX10_takesSum_57 ?_
  obtain ⟨M58, eM58⟩ : ∃ y : mM, y = mI M 96 10 ((M.1 96 10) + 1) := ⟨_, rfl⟩
  have h := mlt_n h M58 eM58
  refine m_p9_10 hx hb hF hown hR hS kd_96 mw_5_147 dX10_takesSum_58 eM58 (fun H locs hR hS => ?_)
  refine lv_aload_n hx hb dX10_takesSum_61 rfl (lv_at hl 1 rfl) ?_
  refine lv_iload_n hx hb dX10_takesSum_62 rfl (lv_at hl 2 rfl) ?_
  obtain ⟨v63, M63, q63, h⟩ := mbw_e h
  refine m_ci (m_rV hx hb hml hown hF hR hS (ent9 kd_96) kd_96 rfl (c_X10_takesAtom l X i1 M58 q63) q_X10_227_V hdV_X10_takesAtom ⟨Nat.le_of_ble_eq_true rfl, Nat.le_of_ble_eq_true rfl⟩ rfl hl.1 rfl (Nat.le_of_ble_eq_true rfl) dX10_takesSum_63) hS (fun H locs hR hS => ?_)
  refine lv_if_ne (tgt := 71) hx hb dX10_takesSum_66 (by decide) (fun c66 => ?_) (fun c66 => ?_)
  · have h := mif_n h c66
    refine lv_aload_n hx hb dX10_takesSum_71 rfl (lv_at hl 1 rfl) ?_
    refine lv_dup hx hb dX10_takesSum_72 rfl ?_
    refine m_g9_17 hx hb hF hown hR kd_96 mw_5_154 dX10_takesSum_73 ?_
    refine lv_iload_n hx hb dX10_takesSum_76 rfl (lv_at hl 0 rfl) ?_
    refine lv_if_eq (tgt := 87) hx hb dX10_takesSum_77 (by decide) (fun c77 => ?_) (fun c77 => ?_)
    · have h := mif_y h c77
      refine lv_aload_n hx hb dX10_takesSum_87 rfl (lv_at hl 1 rfl) ?_
      refine m_g9_22 hx hb hF hown hR kd_96 mw_5_159 dX10_takesSum_88 ?_
      refine lv_ineg hx hb dX10_takesSum_91 ?_
      exact w_X10_takesSum_b92 hs k18 hk18 i1 (M63.1 96 17) (-(M63.1 96 22)) M63 h H locs ls hR hS (lv_sub hl [1, 2] rfl)
    · have h := mif_n h c77
      refine lv_aload_n hx hb dX10_takesSum_80 rfl (lv_at hl 1 rfl) ?_
      refine m_g9_22 hx hb hF hown hR kd_96 mw_5_159 dX10_takesSum_81 ?_
      refine lv_goto (tgt := 92) hx hb dX10_takesSum_84 (by decide) ?_
      exact w_X10_takesSum_b92 hs k18 hk18 i1 (M63.1 96 17) (M63.1 96 22) M63 h H locs ls hR hS (lv_sub hl [1, 2] rfl)
  · have h := mif_y h c66
    refine lv_iconst (v := 0) hx hb dX10_takesSum_69 (by decide) ?_
    exact m_zr hx hb hlk hr hR hS (Or.inl rfl) (Option.some.inj h).symm dX10_takesSum_70
set_option maxRecDepth 100000 in
set_option maxHeartbeats 4000000 in
theorem w_X10_takesSum_b36 {l : Launch} {X : mX} {p : Program} {e : Env} {s : State} {m : MethodId} {args : Array Value} {below : List Frame} {meth : Method} {c : Code} {r : Int32 × mM} (hs : mS X RX10 cX10_takesSum 3 (some .boolean) p s m meth c) (k18 : Int32 → mM → Option (Int32 × mM)) (hk18 : ∀ (i1 : Int32) (M : mM), k18 i1 M = some r → mG X p l e (rmF 5 116) s m args below meth c (MQ below (mQi X r.2 r.1) args s 0 0 (mL X)) 3 18 [(0, .ref (X.1 96)), (1, .int i1)] [] M) : ∀ (i1 : Int32) (M : mM), f_X10_takesSum_b36 k18 i1 M = some r → mG X p l e (rmF 5 116) s m args below meth c (MQ below (mQi X r.2 r.1) args s 0 0 (mL X)) 3 36 [(0, .ref (X.1 96)), (1, .int i1)] [] M := by
  obtain ⟨hx, hb, hml, hown, hF, hlk, hr⟩ := id hs
  intro i1 M h H locs ls hR hS hl
  refine lv_aload_n hx hb dX10_takesSum_36 rfl (lv_at hl 0 rfl) ?_
  obtain ⟨v37, q37, h⟩ := mbp_e h
  refine m_ci (m_rV hx hb hml hown hF hR hS (ent9 kd_96) kd_96 rfl (c_X10_next l X M q37) q_X10_202_V hdV_X10_next ⟨Nat.le_of_ble_eq_true rfl, Nat.le_of_ble_eq_true rfl⟩ rfl hl.1 rfl (Nat.le_of_ble_eq_true rfl) dX10_takesSum_37) hS (fun H locs hR hS => ?_)
  refine lv_bipush (v := 43) hx hb dX10_takesSum_40 (by decide) ?_
  refine lv_icmp_ne (tgt := 49) hx hb dX10_takesSum_42 (by decide) (fun c42 => ?_) (fun c42 => ?_)
  · have h := mif_n h c42
    refine lv_iconst (v := 0) hx hb dX10_takesSum_49 (by decide) ?_
    exact w_X10_takesSum_b50 hs k18 hk18 i1 0 M h H locs ls hR hS (lv_sub hl [0, 1] rfl)
  · have h := mif_y h c42
    refine lv_iconst (v := 1) hx hb dX10_takesSum_45 (by decide) ?_
    refine lv_goto (tgt := 50) hx hb dX10_takesSum_46 (by decide) ?_
    exact w_X10_takesSum_b50 hs k18 hk18 i1 1 M h H locs ls hR hS (lv_sub hl [0, 1] rfl)
set_option maxRecDepth 100000 in
set_option maxHeartbeats 4000000 in
theorem w_X10_takesSum_b18 {l : Launch} {X : mX} {p : Program} {e : Env} {s : State} {m : MethodId} {args : Array Value} {below : List Frame} {meth : Method} {c : Code} {r : Int32 × mM} (hs : mS X RX10 cX10_takesSum 3 (some .boolean) p s m meth c) : ∀ n : Nat, ∀ (i1 : Int32) (M : mM), f_X10_takesSum_b18 n i1 M = some r → mG X p l e (rmF 5 116) s m args below meth c (MQ below (mQi X r.2 r.1) args s 0 0 (mL X)) 3 18 [(0, .ref (X.1 96)), (1, .int i1)] [] M := by
  obtain ⟨hx, hb, hml, hown, hF, hlk, hr⟩ := id hs
  intro n
  induction n with
  | zero =>
    intro i1 M h
    have h0 : (none : Option (Int32 × mM)) = some r := h
    cases h0
  | succ n ih =>
    intro i1 M h H locs ls hR hS hl
    refine lv_aload_n hx hb dX10_takesSum_18 rfl (lv_at hl 0 rfl) ?_
    obtain ⟨v19, q19, h⟩ := mbp_e h
    refine m_ci (m_rV hx hb hml hown hF hR hS (ent9 kd_96) kd_96 rfl (c_X10_next l X M q19) q_X10_202_V hdV_X10_next ⟨Nat.le_of_ble_eq_true rfl, Nat.le_of_ble_eq_true rfl⟩ rfl hl.1 rfl (Nat.le_of_ble_eq_true rfl) dX10_takesSum_19) hS (fun H locs hR hS => ?_)
    refine lv_bipush (v := 43) hx hb dX10_takesSum_22 (by decide) ?_
    refine lv_icmp_eq (tgt := 36) hx hb dX10_takesSum_24 (by decide) (fun c24 => ?_) (fun c24 => ?_)
    · have h := mif_y h c24
      exact w_X10_takesSum_b36 hs (f_X10_takesSum_b18 n) ih i1 M h H locs ls hR hS (lv_sub hl [0, 1] rfl)
    · have h := mif_n h c24
      refine lv_aload_n hx hb dX10_takesSum_27 rfl (lv_at hl 0 rfl) ?_
      obtain ⟨v28, q28, h⟩ := mbp_e h
      refine m_ci (m_rV hx hb hml hown hF hR hS (ent9 kd_96) kd_96 rfl (c_X10_next l X M q28) q_X10_202_V hdV_X10_next ⟨Nat.le_of_ble_eq_true rfl, Nat.le_of_ble_eq_true rfl⟩ rfl hl.1 rfl (Nat.le_of_ble_eq_true rfl) dX10_takesSum_28) hS (fun H locs hR hS => ?_)
      refine lv_bipush (v := 45) hx hb dX10_takesSum_31 (by decide) ?_
      refine lv_icmp_ne (tgt := 99) hx hb dX10_takesSum_33 (by decide) (fun c33 => ?_) (fun c33 => ?_)
      · have h := mif_n h c33
        refine lv_iconst (v := 1) hx hb dX10_takesSum_99 (by decide) ?_
        exact m_zr hx hb hlk hr hR hS (Or.inr rfl) (Option.some.inj h).symm dX10_takesSum_100
      · have h := mif_y h c33
        exact w_X10_takesSum_b36 hs (f_X10_takesSum_b18 n) ih i1 M h H locs ls hR hS (lv_sub hl [0, 1] rfl)
set_option maxRecDepth 100000 in
set_option maxHeartbeats 4000000 in
theorem w_X10_takesSum {l : Launch} {X : mX} {p : Program} {e : Env} {s : State} {m : MethodId} {args : Array Value} {below : List Frame} {meth : Method} {c : Code} {r : Int32 × mM} (hs : mS X RX10 cX10_takesSum 3 (some .boolean) p s m meth c) : ∀ (i1 : Int32) (M : mM), f_X10_takesSum i1 M = some r → mG X p l e (rmF 5 116) s m args below meth c (MQ below (mQi X r.2 r.1) args s 0 0 (mL X)) 3 0 [(0, .ref (X.1 96)), (1, .int i1)] [] M := by
  obtain ⟨hx, hb, hml, hown, hF, hlk, hr⟩ := id hs
  intro i1 M h H locs ls hR hS hl
  refine lv_aload_n hx hb dX10_takesSum_0 rfl (lv_at hl 0 rfl) ?_
  refine lv_iload_n hx hb dX10_takesSum_1 rfl (lv_at hl 1 rfl) ?_
  obtain ⟨v2, M2, q2, h⟩ := mbw_e h
  refine m_ci (m_rV hx hb hml hown hF hR hS (ent9 kd_96) kd_96 rfl (c_X10_takesAtom l X i1 M q2) q_X10_227_V hdV_X10_takesAtom ⟨Nat.le_of_ble_eq_true rfl, Nat.le_of_ble_eq_true rfl⟩ rfl hl.1 rfl (Nat.le_of_ble_eq_true rfl) dX10_takesSum_2) hS (fun H locs hR hS => ?_)
  refine lv_if_ne (tgt := 10) hx hb dX10_takesSum_5 (by decide) (fun c5 => ?_) (fun c5 => ?_)
  · have h := mif_n h c5
    refine lv_aload_n hx hb dX10_takesSum_10 rfl (lv_at hl 0 rfl) ?_
    refine lv_aload_n hx hb dX10_takesSum_11 rfl (lv_at hl 0 rfl) ?_
    refine m_g9_22 hx hb hF hown hR kd_96 mw_5_159 dX10_takesSum_12 ?_
    obtain ⟨M15, eM15⟩ : ∃ y : mM, y = mI M2 96 17 (M2.1 96 22) := ⟨_, rfl⟩
    have h := mlt_n h M15 eM15
    refine m_p9_17 hx hb hF hown hR hS kd_96 mw_5_154 dX10_takesSum_15 eM15 (fun H locs hR hS => ?_)
    exact w_X10_takesSum_b18 hs mN i1 M15 h H locs ls hR hS (lv_sub hl [0, 1] rfl)
  · have h := mif_y h c5
    refine lv_iconst (v := 0) hx hb dX10_takesSum_8 (by decide) ?_
    exact m_zr hx hb hlk hr hR hS (Or.inl rfl) (Option.some.inj h).symm dX10_takesSum_9
theorem c_X10_takesSum (l : Launch) (X : mX) (i1 : Int32) (M : mM) {r : Int32 × mM} (h : f_X10_takesSum i1 M = some r) : mMi l yX10_takesSum cX10_takesSum 3 (some .boolean) 5 116 X [.ref (X.1 96), .int i1] M r := m_ofi (by decide +kernel) (Nat.le_of_ble_eq_true rfl) rfl (fun p e s m args below meth c hs => w_X10_takesSum hs i1 M h)
set_option maxRecDepth 100000 in
set_option maxHeartbeats 4000000 in
theorem w_X10_takesTest_b149 {l : Launch} {X : mX} {p : Program} {e : Env} {s : State} {m : MethodId} {args : Array Value} {below : List Frame} {meth : Method} {c : Code} {r : Int32 × mM} (hs : mS X RX10 cX10_takesTest 5 (some .boolean) p s m meth c) (k7 : Int32 → Int32 → mM → Option (Int32 × mM)) (hk7 : ∀ (i1 : Int32) (i2 : Int32) (M : mM), k7 i1 i2 M = some r → mG X p l e (rmF 6 138) s m args below meth c (MQ below (mQi X r.2 r.1) args s 0 0 (mL X)) 5 7 [(0, .ref (X.1 96)), (1, .int i1), (2, .int i2)] [] M) : ∀ (i1 : Int32) (s0 : Int32) (M : mM), f_X10_takesTest_b149 k7 i1 s0 M = some r → mG X p l e (rmF 6 138) s m args below meth c (MQ below (mQi X r.2 r.1) args s 0 0 (mL X)) 5 149 [(0, .ref (X.1 96)), (1, .int i1)] [.int s0] M := by
  obtain ⟨hx, hb, hml, hown, hF, hlk, hr⟩ := id hs
  intro i1 s0 M h H locs ls hR hS hl
  refine lv_istore_n (lv' := [(2, .int s0), (0, .ref (X.1 96)), (1, .int i1)]) hx hb dX10_takesTest_149 rfl hl (by decide) rfl (fun ls hl => ?_)
  refine lv_iload_n hx hb dX10_takesTest_150 rfl (lv_at hl 0 rfl) ?_
  refine lv_if_eq (tgt := 164) hx hb dX10_takesTest_151 (by decide) (fun c151 => ?_) (fun c151 => ?_)
  · have h := mif_y h c151
    refine lv_goto (tgt := 7) hx hb dX10_takesTest_164 (by decide) ?_
    exact hk7 i1 s0 M h H locs ls hR hS (lv_sub hl [1, 2, 0] rfl)
  · have h := mif_n h c151
    refine lv_aload_n hx hb dX10_takesTest_154 rfl (lv_at hl 1 rfl) ?_
    refine lv_dup hx hb dX10_takesTest_155 rfl ?_
    refine m_g9_10 hx hb hF hown hR kd_96 mw_5_147 dX10_takesTest_156 ?_
    refine lv_iconst (v := 1) hx hb dX10_takesTest_159 (by decide) ?_
    refine lv_iadd hx hb dX10_takesTest_160 ?_
    obtain ⟨M161, eM161⟩ : ∃ y : mM, y = mI M 96 10 ((M.1 96 10) + 1) := ⟨_, rfl⟩
    have h := mlt_n h M161 eM161
    refine m_p9_10 hx hb hF hown hR hS kd_96 mw_5_147 dX10_takesTest_161 eM161 (fun H locs hR hS => ?_)
    refine lv_goto (tgt := 7) hx hb dX10_takesTest_164 (by decide) ?_
    exact hk7 i1 s0 M161 h H locs ls hR hS (lv_sub hl [1, 2, 0] rfl)
set_option maxRecDepth 100000 in
set_option maxHeartbeats 4000000 in
theorem w_X10_takesTest_b132 {l : Launch} {X : mX} {p : Program} {e : Env} {s : State} {m : MethodId} {args : Array Value} {below : List Frame} {meth : Method} {c : Code} {r : Int32 × mM} (hs : mS X RX10 cX10_takesTest 5 (some .boolean) p s m meth c) (k7 : Int32 → Int32 → mM → Option (Int32 × mM)) (hk7 : ∀ (i1 : Int32) (i2 : Int32) (M : mM), k7 i1 i2 M = some r → mG X p l e (rmF 6 138) s m args below meth c (MQ below (mQi X r.2 r.1) args s 0 0 (mL X)) 5 7 [(0, .ref (X.1 96)), (1, .int i1), (2, .int i2)] [] M) : ∀ (i1 : Int32) (s1 : Int32) (M : mM), f_X10_takesTest_b132 k7 i1 s1 M = some r → mG X p l e (rmF 6 138) s m args below meth c (MQ below (mQi X r.2 r.1) args s 0 0 (mL X)) 5 132 [(0, .ref (X.1 96)), (1, .int i1)] [.int s1, .ref (X.1 96)] M := by
  obtain ⟨hx, hb, hml, hown, hF, hlk, hr⟩ := id hs
  intro i1 s1 M h H locs ls hR hS hl
  obtain ⟨g132, h⟩ := mgd_e h
  obtain ⟨M132, eM132⟩ : ∃ y : mM, y = mI M 96 21 s1 := ⟨_, rfl⟩
  have h := mlt_n h M132 eM132
  refine m_p9_21 hx hb hF hown hR hS kd_96 mw_5_158 dX10_takesTest_132 g132 eM132 (fun H locs hR hS => ?_)
  refine lv_aload_n hx hb dX10_takesTest_135 rfl (lv_at hl 0 rfl) ?_
  obtain ⟨v136, q136, h⟩ := mbp_e h
  refine m_ci (m_rV hx hb hml hown hF hR hS (ent9 kd_96) kd_96 rfl (c_X10_next l X M132 q136) q_X10_202_V hdV_X10_next ⟨Nat.le_of_ble_eq_true rfl, Nat.le_of_ble_eq_true rfl⟩ rfl hl.1 rfl (Nat.le_of_ble_eq_true rfl) dX10_takesTest_136) hS (fun H locs hR hS => ?_)
  refine lv_bipush (v := 38) hx hb dX10_takesTest_139 (by decide) ?_
  refine lv_icmp_ne (tgt := 148) hx hb dX10_takesTest_141 (by decide) (fun c141 => ?_) (fun c141 => ?_)
  · have h := mif_n h c141
    refine lv_iconst (v := 0) hx hb dX10_takesTest_148 (by decide) ?_
    exact w_X10_takesTest_b149 hs k7 hk7 i1 0 M132 h H locs ls hR hS (lv_sub hl [0, 1] rfl)
  · have h := mif_y h c141
    refine lv_iconst (v := 1) hx hb dX10_takesTest_144 (by decide) ?_
    refine lv_goto (tgt := 149) hx hb dX10_takesTest_145 (by decide) ?_
    exact w_X10_takesTest_b149 hs k7 hk7 i1 1 M132 h H locs ls hR hS (lv_sub hl [0, 1] rfl)
set_option maxRecDepth 100000 in
set_option maxHeartbeats 4000000 in
theorem w_X10_takesTest_b55 {l : Launch} {X : mX} {p : Program} {e : Env} {s : State} {m : MethodId} {args : Array Value} {below : List Frame} {meth : Method} {c : Code} {r : Int32 × mM} (hs : mS X RX10 cX10_takesTest 5 (some .boolean) p s m meth c) (k7 : Int32 → Int32 → mM → Option (Int32 × mM)) (hk7 : ∀ (i1 : Int32) (i2 : Int32) (M : mM), k7 i1 i2 M = some r → mG X p l e (rmF 6 138) s m args below meth c (MQ below (mQi X r.2 r.1) args s 0 0 (mL X)) 5 7 [(0, .ref (X.1 96)), (1, .int i1), (2, .int i2)] [] M) : ∀ (i1 : Int32) (i3 : Int32) (i4 : Int32) (M : mM), f_X10_takesTest_b55 k7 i1 i3 i4 M = some r → mG X p l e (rmF 6 138) s m args below meth c (MQ below (mQi X r.2 r.1) args s 0 0 (mL X)) 5 55 [(0, .ref (X.1 96)), (1, .int i1), (3, .int i3), (4, .int i4)] [] M := by
  obtain ⟨hx, hb, hml, hown, hF, hlk, hr⟩ := id hs
  intro i1 i3 i4 M h H locs ls hR hS hl
  refine lv_aload_n hx hb dX10_takesTest_55 rfl (lv_at hl 0 rfl) ?_
  refine lv_dup hx hb dX10_takesTest_56 rfl ?_
  refine m_g9_10 hx hb hF hown hR kd_96 mw_5_147 dX10_takesTest_57 ?_
  refine lv_iconst (v := 1) hx hb dX10_takesTest_60 (by decide) ?_
  refine lv_iadd hx hb dX10_takesTest_61 ?_
  obtain ⟨M62, eM62⟩ : ∃ y : mM, y = mI M 96 10 ((M.1 96 10) + 1) := ⟨_, rfl⟩
  have h := mlt_n h M62 eM62
  refine m_p9_10 hx hb hF hown hR hS kd_96 mw_5_147 dX10_takesTest_62 eM62 (fun H locs hR hS => ?_)
  refine lv_aload_n hx hb dX10_takesTest_65 rfl (lv_at hl 0 rfl) ?_
  refine lv_iload_n hx hb dX10_takesTest_66 rfl (lv_at hl 1 rfl) ?_
  obtain ⟨v67, M67, q67, h⟩ := mbw_e h
  refine m_ci (m_rV hx hb hml hown hF hR hS (ent9 kd_96) kd_96 rfl (c_X10_takesSum l X i1 M62 q67) q_X10_230_V hdV_X10_takesSum ⟨Nat.le_of_ble_eq_true rfl, Nat.le_of_ble_eq_true rfl⟩ rfl hl.1 rfl (Nat.le_of_ble_eq_true rfl) dX10_takesTest_67) hS (fun H locs hR hS => ?_)
  refine lv_if_ne (tgt := 75) hx hb dX10_takesTest_70 (by decide) (fun c70 => ?_) (fun c70 => ?_)
  · have h := mif_n h c70
    refine lv_aload_n hx hb dX10_takesTest_75 rfl (lv_at hl 0 rfl) ?_
    refine lv_aload_n hx hb dX10_takesTest_76 rfl (lv_at hl 0 rfl) ?_
    refine m_g9_21 hx hb hF hown hR kd_96 mw_5_158 dX10_takesTest_77 ?_
    refine lv_if_eq (tgt := 131) hx hb dX10_takesTest_80 (by decide) (fun c80 => ?_) (fun c80 => ?_)
    · have h := mif_y h c80
      refine lv_iconst (v := 0) hx hb dX10_takesTest_131 (by decide) ?_
      exact w_X10_takesTest_b132 hs k7 hk7 i1 0 M67 h H locs ls hR hS (lv_sub hl [0, 1] rfl)
    · have h := mif_n h c80
      refine lv_iload hx hb dX10_takesTest_83 (lv_at hl 3 rfl) ?_
      refine lv_bipush (v := 60) hx hb dX10_takesTest_85 (by decide) ?_
      refine lv_icmp_ne (tgt := 101) hx hb dX10_takesTest_87 (by decide) (fun c87 => ?_) (fun c87 => ?_)
      · have h := mif_n h c87
        refine lv_iload hx hb dX10_takesTest_101 (lv_at hl 3 rfl) ?_
        refine lv_bipush (v := 61) hx hb dX10_takesTest_103 (by decide) ?_
        refine lv_icmp_ne (tgt := 119) hx hb dX10_takesTest_105 (by decide) (fun c105 => ?_) (fun c105 => ?_)
        · have h := mif_n h c105
          refine lv_iload_n hx hb dX10_takesTest_119 rfl (lv_at hl 2 rfl) ?_
          refine lv_aload_n hx hb dX10_takesTest_120 rfl (lv_at hl 0 rfl) ?_
          refine m_g9_17 hx hb hF hown hR kd_96 mw_5_154 dX10_takesTest_121 ?_
          refine lv_icmp_le (tgt := 131) hx hb dX10_takesTest_124 (by decide) (fun c124 => ?_) (fun c124 => ?_)
          · have h := mif_y h c124
            refine lv_iconst (v := 0) hx hb dX10_takesTest_131 (by decide) ?_
            exact w_X10_takesTest_b132 hs k7 hk7 i1 0 M67 h H locs ls hR hS (lv_sub hl [0, 1] rfl)
          · have h := mif_n h c124
            refine lv_iconst (v := 1) hx hb dX10_takesTest_127 (by decide) ?_
            refine lv_goto (tgt := 132) hx hb dX10_takesTest_128 (by decide) ?_
            exact w_X10_takesTest_b132 hs k7 hk7 i1 1 M67 h H locs ls hR hS (lv_sub hl [0, 1] rfl)
        · have h := mif_y h c105
          refine lv_iload_n hx hb dX10_takesTest_108 rfl (lv_at hl 2 rfl) ?_
          refine lv_aload_n hx hb dX10_takesTest_109 rfl (lv_at hl 0 rfl) ?_
          refine m_g9_17 hx hb hF hown hR kd_96 mw_5_154 dX10_takesTest_110 ?_
          refine lv_icmp_ne (tgt := 131) hx hb dX10_takesTest_113 (by decide) (fun c113 => ?_) (fun c113 => ?_)
          · have h := mif_n h c113
            refine lv_iconst (v := 0) hx hb dX10_takesTest_131 (by decide) ?_
            exact w_X10_takesTest_b132 hs k7 hk7 i1 0 M67 h H locs ls hR hS (lv_sub hl [0, 1] rfl)
          · have h := mif_y h c113
            refine lv_goto (tgt := 127) hx hb dX10_takesTest_116 (by decide) ?_
            refine lv_iconst (v := 1) hx hb dX10_takesTest_127 (by decide) ?_
            refine lv_goto (tgt := 132) hx hb dX10_takesTest_128 (by decide) ?_
            exact w_X10_takesTest_b132 hs k7 hk7 i1 1 M67 h H locs ls hR hS (lv_sub hl [0, 1] rfl)
      · have h := mif_y h c87
        refine lv_iload_n hx hb dX10_takesTest_90 rfl (lv_at hl 2 rfl) ?_
        refine lv_aload_n hx hb dX10_takesTest_91 rfl (lv_at hl 0 rfl) ?_
        refine m_g9_17 hx hb hF hown hR kd_96 mw_5_154 dX10_takesTest_92 ?_
        refine lv_icmp_ge (tgt := 131) hx hb dX10_takesTest_95 (by decide) (fun c95 => ?_) (fun c95 => ?_)
        · have h := mif_y h c95
          refine lv_iconst (v := 0) hx hb dX10_takesTest_131 (by decide) ?_
          exact w_X10_takesTest_b132 hs k7 hk7 i1 0 M67 h H locs ls hR hS (lv_sub hl [0, 1] rfl)
        · have h := mif_n h c95
          refine lv_goto (tgt := 127) hx hb dX10_takesTest_98 (by decide) ?_
          refine lv_iconst (v := 1) hx hb dX10_takesTest_127 (by decide) ?_
          refine lv_goto (tgt := 132) hx hb dX10_takesTest_128 (by decide) ?_
          exact w_X10_takesTest_b132 hs k7 hk7 i1 1 M67 h H locs ls hR hS (lv_sub hl [0, 1] rfl)
  · have h := mif_y h c70
    refine lv_iconst (v := 0) hx hb dX10_takesTest_73 (by decide) ?_
    exact m_zr hx hb hlk hr hR hS (Or.inl rfl) (Option.some.inj h).symm dX10_takesTest_74
set_option maxRecDepth 100000 in
set_option maxHeartbeats 4000000 in
theorem w_X10_takesTest_b7 {l : Launch} {X : mX} {p : Program} {e : Env} {s : State} {m : MethodId} {args : Array Value} {below : List Frame} {meth : Method} {c : Code} {r : Int32 × mM} (hs : mS X RX10 cX10_takesTest 5 (some .boolean) p s m meth c) : ∀ n : Nat, ∀ (i1 : Int32) (i2 : Int32) (M : mM), f_X10_takesTest_b7 n i1 i2 M = some r → mG X p l e (rmF 6 138) s m args below meth c (MQ below (mQi X r.2 r.1) args s 0 0 (mL X)) 5 7 [(0, .ref (X.1 96)), (1, .int i1), (2, .int i2)] [] M := by
  obtain ⟨hx, hb, hml, hown, hF, hlk, hr⟩ := id hs
  intro n
  induction n with
  | zero =>
    intro i1 i2 M h
    have h0 : (none : Option (Int32 × mM)) = some r := h
    cases h0
  | succ n ih =>
    intro i1 i2 M h H locs ls hR hS hl
    refine lv_iload_n hx hb dX10_takesTest_7 rfl (lv_at hl 2 rfl) ?_
    refine lv_if_eq (tgt := 167) hx hb dX10_takesTest_8 (by decide) (fun c8 => ?_) (fun c8 => ?_)
    · have h := mif_y h c8
      refine lv_iconst (v := 1) hx hb dX10_takesTest_167 (by decide) ?_
      exact m_zr hx hb hlk hr hR hS (Or.inr rfl) (Option.some.inj h).symm dX10_takesTest_168
    · have h := mif_n h c8
      refine lv_aload_n hx hb dX10_takesTest_11 rfl (lv_at hl 0 rfl) ?_
      refine lv_iload_n hx hb dX10_takesTest_12 rfl (lv_at hl 1 rfl) ?_
      obtain ⟨v13, M13, q13, h⟩ := mbw_e h
      refine m_ci (m_rV hx hb hml hown hF hR hS (ent9 kd_96) kd_96 rfl (c_X10_takesSum l X i1 M q13) q_X10_230_V hdV_X10_takesSum ⟨Nat.le_of_ble_eq_true rfl, Nat.le_of_ble_eq_true rfl⟩ rfl hl.1 rfl (Nat.le_of_ble_eq_true rfl) dX10_takesTest_13) hS (fun H locs hR hS => ?_)
      refine lv_if_ne (tgt := 21) hx hb dX10_takesTest_16 (by decide) (fun c16 => ?_) (fun c16 => ?_)
      · have h := mif_n h c16
        refine lv_aload_n hx hb dX10_takesTest_21 rfl (lv_at hl 0 rfl) ?_
        refine m_g9_17 hx hb hF hown hR kd_96 mw_5_154 dX10_takesTest_22 ?_
        refine lv_istore_n (lv' := [(3, .int (M13.1 96 17)), (0, .ref (X.1 96)), (1, .int i1), (2, .int i2)]) hx hb dX10_takesTest_25 rfl hl (by decide) rfl (fun ls hl => ?_)
        refine lv_aload_n hx hb dX10_takesTest_26 rfl (lv_at hl 1 rfl) ?_
        obtain ⟨v27, q27, h⟩ := mbp_e h
        refine m_ci (m_rV hx hb hml hown hF hR hS (ent9 kd_96) kd_96 rfl (c_X10_next l X M13 q27) q_X10_202_V hdV_X10_next ⟨Nat.le_of_ble_eq_true rfl, Nat.le_of_ble_eq_true rfl⟩ rfl hl.1 rfl (Nat.le_of_ble_eq_true rfl) dX10_takesTest_27) hS (fun H locs hR hS => ?_)
        refine lv_istore (lv' := [(4, .int v27), (3, .int (M13.1 96 17)), (0, .ref (X.1 96)), (1, .int i1), (2, .int i2)]) hx hb dX10_takesTest_30 hl (by decide) rfl (fun ls hl => ?_)
        refine lv_iload hx hb dX10_takesTest_32 (lv_at hl 0 rfl) ?_
        refine lv_bipush (v := 60) hx hb dX10_takesTest_34 (by decide) ?_
        refine lv_icmp_eq (tgt := 55) hx hb dX10_takesTest_36 (by decide) (fun c36 => ?_) (fun c36 => ?_)
        · have h := mif_y h c36
          exact w_X10_takesTest_b55 hs (f_X10_takesTest_b7 n) ih i1 (M13.1 96 17) v27 M13 h H locs ls hR hS (lv_sub hl [2, 3, 1, 0] rfl)
        · have h := mif_n h c36
          refine lv_iload hx hb dX10_takesTest_39 (lv_at hl 0 rfl) ?_
          refine lv_bipush (v := 61) hx hb dX10_takesTest_41 (by decide) ?_
          refine lv_icmp_eq (tgt := 55) hx hb dX10_takesTest_43 (by decide) (fun c43 => ?_) (fun c43 => ?_)
          · have h := mif_y h c43
            exact w_X10_takesTest_b55 hs (f_X10_takesTest_b7 n) ih i1 (M13.1 96 17) v27 M13 h H locs ls hR hS (lv_sub hl [2, 3, 1, 0] rfl)
          · have h := mif_n h c43
            refine lv_iload hx hb dX10_takesTest_46 (lv_at hl 0 rfl) ?_
            refine lv_bipush (v := 62) hx hb dX10_takesTest_48 (by decide) ?_
            refine lv_icmp_eq (tgt := 55) hx hb dX10_takesTest_50 (by decide) (fun c50 => ?_) (fun c50 => ?_)
            · have h := mif_y h c50
              exact w_X10_takesTest_b55 hs (f_X10_takesTest_b7 n) ih i1 (M13.1 96 17) v27 M13 h H locs ls hR hS (lv_sub hl [2, 3, 1, 0] rfl)
            · have h := mif_n h c50
              refine lv_iconst (v := 0) hx hb dX10_takesTest_53 (by decide) ?_
              exact m_zr hx hb hlk hr hR hS (Or.inl rfl) (Option.some.inj h).symm dX10_takesTest_54
      · have h := mif_y h c16
        refine lv_iconst (v := 0) hx hb dX10_takesTest_19 (by decide) ?_
        exact m_zr hx hb hlk hr hR hS (Or.inl rfl) (Option.some.inj h).symm dX10_takesTest_20
set_option maxRecDepth 100000 in
set_option maxHeartbeats 4000000 in
theorem w_X10_takesTest {l : Launch} {X : mX} {p : Program} {e : Env} {s : State} {m : MethodId} {args : Array Value} {below : List Frame} {meth : Method} {c : Code} {r : Int32 × mM} (hs : mS X RX10 cX10_takesTest 5 (some .boolean) p s m meth c) : ∀ (i1 : Int32) (M : mM), f_X10_takesTest i1 M = some r → mG X p l e (rmF 6 138) s m args below meth c (MQ below (mQi X r.2 r.1) args s 0 0 (mL X)) 5 0 [(0, .ref (X.1 96)), (1, .int i1)] [] M := by
  obtain ⟨hx, hb, hml, hown, hF, hlk, hr⟩ := id hs
  intro i1 M h H locs ls hR hS hl
  refine lv_aload_n hx hb dX10_takesTest_0 rfl (lv_at hl 0 rfl) ?_
  refine lv_iconst (v := 1) hx hb dX10_takesTest_1 (by decide) ?_
  obtain ⟨M2, eM2⟩ : ∃ y : mM, y = mI M 96 21 1 := ⟨_, rfl⟩
  have h := mlt_n h M2 eM2
  refine m_p9_21 hx hb hF hown hR hS kd_96 mw_5_158 dX10_takesTest_2 (Or.inr rfl) eM2 (fun H locs hR hS => ?_)
  refine lv_iconst (v := 1) hx hb dX10_takesTest_5 (by decide) ?_
  refine lv_istore_n (lv' := [(2, .int 1), (0, .ref (X.1 96)), (1, .int i1)]) hx hb dX10_takesTest_6 rfl hl (by decide) rfl (fun ls hl => ?_)
  exact w_X10_takesTest_b7 hs mN i1 1 M2 h H locs ls hR hS (lv_sub hl [1, 2, 0] rfl)
theorem c_X10_takesTest (l : Launch) (X : mX) (i1 : Int32) (M : mM) {r : Int32 × mM} (h : f_X10_takesTest i1 M = some r) : mMi l yX10_takesTest cX10_takesTest 5 (some .boolean) 6 138 X [.ref (X.1 96), .int i1] M r := m_ofi (by decide +kernel) (Nat.le_of_ble_eq_true rfl) rfl (fun p e s m args below meth c hs => w_X10_takesTest hs i1 M h)
set_option maxRecDepth 100000 in
set_option maxHeartbeats 4000000 in
theorem w_X10_takesAct_b117 {l : Launch} {X : mX} {p : Program} {e : Env} {s : State} {m : MethodId} {args : Array Value} {below : List Frame} {meth : Method} {c : Code} {r : Int32 × mM} (hs : mS X RX10 cX10_takesAct 4 (some .boolean) p s m meth c) : ∀ (s1 : Int32) (M : mM), f_X10_takesAct_b117 s1 M = some r → mG X p l e (rmF 6 138) s m args below meth c (MQ below (mQi X r.2 r.1) args s 0 0 (mL X)) 4 117 [] [.int s1, .ref (X.1 96)] M := by
  obtain ⟨hx, hb, hml, hown, hF, hlk, hr⟩ := id hs
  intro s1 M h H locs ls hR hS hl
  obtain ⟨M117, eM117⟩ : ∃ y : mM, y = mI M 96 20 s1 := ⟨_, rfl⟩
  have h := mlt_n h M117 eM117
  refine m_p9_20 hx hb hF hown hR hS kd_96 mw_5_157 dX10_takesAct_117 eM117 (fun H locs hR hS => ?_)
  refine lv_iconst (v := 1) hx hb dX10_takesAct_120 (by decide) ?_
  exact m_zr hx hb hlk hr hR hS (Or.inr rfl) (Option.some.inj h).symm dX10_takesAct_121
set_option maxRecDepth 100000 in
set_option maxHeartbeats 4000000 in
theorem w_X10_takesAct_b64 {l : Launch} {X : mX} {p : Program} {e : Env} {s : State} {m : MethodId} {args : Array Value} {below : List Frame} {meth : Method} {c : Code} {r : Int32 × mM} (hs : mS X RX10 cX10_takesAct 4 (some .boolean) p s m meth c) : ∀ (i2 : Int32) (i3 : Int32) (M : mM), f_X10_takesAct_b64 i2 i3 M = some r → mG X p l e (rmF 6 138) s m args below meth c (MQ below (mQi X r.2 r.1) args s 0 0 (mL X)) 4 64 [(0, .ref (X.1 96)), (2, .int i2), (3, .int i3)] [] M := by
  obtain ⟨hx, hb, hml, hown, hF, hlk, hr⟩ := id hs
  intro i2 i3 M h H locs ls hR hS hl
  refine lv_aload_n hx hb dX10_takesAct_64 rfl (lv_at hl 0 rfl) ?_
  refine m_g9_21 hx hb hF hown hR kd_96 mw_5_158 dX10_takesAct_65 ?_
  refine lv_if_eq (tgt := 78) hx hb dX10_takesAct_68 (by decide) (fun c68 => ?_) (fun c68 => ?_)
  · have h := mif_y h c68
    refine lv_iconst (v := 1) hx hb dX10_takesAct_78 (by decide) ?_
    exact m_zr hx hb hlk hr hR hS (Or.inr rfl) (Option.some.inj h).symm dX10_takesAct_79
  · have h := mif_n h c68
    refine lv_aload_n hx hb dX10_takesAct_71 rfl (lv_at hl 0 rfl) ?_
    refine m_g9_18 hx hb hF hown hR kd_96 mw_5_155 dX10_takesAct_72 ?_
    refine lv_if_lt (tgt := 80) hx hb dX10_takesAct_75 (by decide) (fun c75 => ?_) (fun c75 => ?_)
    · have h := mif_y h c75
      refine lv_aload_n hx hb dX10_takesAct_80 rfl (lv_at hl 0 rfl) ?_
      refine lv_iload_n hx hb dX10_takesAct_81 rfl (lv_at hl 1 rfl) ?_
      obtain ⟨M82, eM82⟩ : ∃ y : mM, y = mI M 96 18 i2 := ⟨_, rfl⟩
      have h := mlt_n h M82 eM82
      refine m_p9_18 hx hb hF hown hR hS kd_96 mw_5_155 dX10_takesAct_82 eM82 (fun H locs hR hS => ?_)
      refine lv_aload_n hx hb dX10_takesAct_85 rfl (lv_at hl 0 rfl) ?_
      refine lv_iload_n hx hb dX10_takesAct_86 rfl (lv_at hl 2 rfl) ?_
      obtain ⟨M87, eM87⟩ : ∃ y : mM, y = mI M82 96 19 i3 := ⟨_, rfl⟩
      have h := mlt_n h M87 eM87
      refine m_p9_19 hx hb hF hown hR hS kd_96 mw_5_156 dX10_takesAct_87 eM87 (fun H locs hR hS => ?_)
      refine lv_aload_n hx hb dX10_takesAct_90 rfl (lv_at hl 0 rfl) ?_
      refine lv_iload_n hx hb dX10_takesAct_91 rfl (lv_at hl 2 rfl) ?_
      refine lv_bipush (v := 103) hx hb dX10_takesAct_92 (by decide) ?_
      refine lv_icmp_ne (tgt := 104) hx hb dX10_takesAct_94 (by decide) (fun c94 => ?_) (fun c94 => ?_)
      · have h := mif_n h c94
        refine lv_aload_n hx hb dX10_takesAct_104 rfl (lv_at hl 0 rfl) ?_
        refine m_g9_17 hx hb hF hown hR kd_96 mw_5_154 dX10_takesAct_105 ?_
        refine lv_bipush (v := 100) hx hb dX10_takesAct_108 (by decide) ?_
        refine lv_irem hx hb dX10_takesAct_110 (by decide) ?_
        refine lv_bipush (v := 100) hx hb dX10_takesAct_111 (by decide) ?_
        refine lv_iadd hx hb dX10_takesAct_113 ?_
        refine lv_bipush (v := 100) hx hb dX10_takesAct_114 (by decide) ?_
        refine lv_irem hx hb dX10_takesAct_116 (by decide) ?_
        exact w_X10_takesAct_b117 hs ((((M87.1 96 17) - (M87.1 96 17) / 100 * 100) + 100) - (((M87.1 96 17) - (M87.1 96 17) / 100 * 100) + 100) / 100 * 100) M87 h H locs ls hR hS (lv_sub hl [] rfl)
      · have h := mif_y h c94
        refine lv_aload_n hx hb dX10_takesAct_97 rfl (lv_at hl 0 rfl) ?_
        refine m_g9_12 hx hb hF hown hR kd_96 mw_5_149 dX10_takesAct_98 ?_
        refine lv_goto (tgt := 117) hx hb dX10_takesAct_101 (by decide) ?_
        exact w_X10_takesAct_b117 hs (M87.1 96 12) M87 h H locs ls hR hS (lv_sub hl [] rfl)
    · have h := mif_n h c75
      refine lv_iconst (v := 1) hx hb dX10_takesAct_78 (by decide) ?_
      exact m_zr hx hb hlk hr hR hS (Or.inr rfl) (Option.some.inj h).symm dX10_takesAct_79
set_option maxRecDepth 100000 in
set_option maxHeartbeats 4000000 in
theorem w_X10_takesAct_b25 {l : Launch} {X : mX} {p : Program} {e : Env} {s : State} {m : MethodId} {args : Array Value} {below : List Frame} {meth : Method} {c : Code} {r : Int32 × mM} (hs : mS X RX10 cX10_takesAct 4 (some .boolean) p s m meth c) : ∀ (i1 : Int32) (i2 : Int32) (i3 : Int32) (M : mM), f_X10_takesAct_b25 i1 i2 i3 M = some r → mG X p l e (rmF 6 138) s m args below meth c (MQ below (mQi X r.2 r.1) args s 0 0 (mL X)) 4 25 [(0, .ref (X.1 96)), (1, .int i1), (2, .int i2), (3, .int i3)] [] M := by
  obtain ⟨hx, hb, hml, hown, hF, hlk, hr⟩ := id hs
  intro i1 i2 i3 M h H locs ls hR hS hl
  refine lv_aload_n hx hb dX10_takesAct_25 rfl (lv_at hl 0 rfl) ?_
  refine lv_dup hx hb dX10_takesAct_26 rfl ?_
  refine m_g9_10 hx hb hF hown hR kd_96 mw_5_147 dX10_takesAct_27 ?_
  refine lv_iconst (v := 1) hx hb dX10_takesAct_30 (by decide) ?_
  refine lv_iadd hx hb dX10_takesAct_31 ?_
  obtain ⟨M32, eM32⟩ : ∃ y : mM, y = mI M 96 10 ((M.1 96 10) + 1) := ⟨_, rfl⟩
  have h := mlt_n h M32 eM32
  refine m_p9_10 hx hb hF hown hR hS kd_96 mw_5_147 dX10_takesAct_32 eM32 (fun H locs hR hS => ?_)
  refine lv_iload_n hx hb dX10_takesAct_35 rfl (lv_at hl 3 rfl) ?_
  refine lv_bipush (v := 103) hx hb dX10_takesAct_36 (by decide) ?_
  refine lv_icmp_ne (tgt := 54) hx hb dX10_takesAct_38 (by decide) (fun c38 => ?_) (fun c38 => ?_)
  · have h := mif_n h c38
    refine lv_aload_n hx hb dX10_takesAct_54 rfl (lv_at hl 0 rfl) ?_
    refine lv_iload_n hx hb dX10_takesAct_55 rfl (lv_at hl 1 rfl) ?_
    obtain ⟨v56, M56, q56, h⟩ := mbw_e h
    refine m_ci (m_rV hx hb hml hown hF hR hS (ent9 kd_96) kd_96 rfl (c_X10_takesSum l X i1 M32 q56) q_X10_230_V hdV_X10_takesSum ⟨Nat.le_of_ble_eq_true rfl, Nat.le_of_ble_eq_true rfl⟩ rfl hl.1 rfl (Nat.le_of_ble_eq_true rfl) dX10_takesAct_56) hS (fun H locs hR hS => ?_)
    refine lv_if_ne (tgt := 64) hx hb dX10_takesAct_59 (by decide) (fun c59 => ?_) (fun c59 => ?_)
    · have h := mif_n h c59
      exact w_X10_takesAct_b64 hs i2 i3 M56 h H locs ls hR hS (lv_sub hl [0, 2, 3] rfl)
    · have h := mif_y h c59
      refine lv_iconst (v := 0) hx hb dX10_takesAct_62 (by decide) ?_
      exact m_zr hx hb hlk hr hR hS (Or.inl rfl) (Option.some.inj h).symm dX10_takesAct_63
  · have h := mif_y h c38
    refine lv_aload_n hx hb dX10_takesAct_41 rfl (lv_at hl 0 rfl) ?_
    refine lv_iconst (v := 0) hx hb dX10_takesAct_42 (by decide) ?_
    refine lv_bipush (v := 7) hx hb dX10_takesAct_43 (by decide) ?_
    obtain ⟨v45, M45, q45, h⟩ := mbw_e h
    refine m_ci (m_rV hx hb hml hown hF hR hS (ent9 kd_96) kd_96 rfl (c_X10_takes l X 0 7 M32 q45) q_X10_205_V hdV_X10_takes ⟨Nat.le_of_ble_eq_true rfl, Nat.le_of_ble_eq_true rfl⟩ rfl hl.1 rfl (Nat.le_of_ble_eq_true rfl) dX10_takesAct_45) hS (fun H locs hR hS => ?_)
    refine lv_if_ne (tgt := 64) hx hb dX10_takesAct_48 (by decide) (fun c48 => ?_) (fun c48 => ?_)
    · have h := mif_n h c48
      exact w_X10_takesAct_b64 hs i2 i3 M45 h H locs ls hR hS (lv_sub hl [0, 2, 3] rfl)
    · have h := mif_y h c48
      refine lv_goto (tgt := 62) hx hb dX10_takesAct_51 (by decide) ?_
      refine lv_iconst (v := 0) hx hb dX10_takesAct_62 (by decide) ?_
      exact m_zr hx hb hlk hr hR hS (Or.inl rfl) (Option.some.inj h).symm dX10_takesAct_63
set_option maxRecDepth 100000 in
set_option maxHeartbeats 4000000 in
theorem w_X10_takesAct {l : Launch} {X : mX} {p : Program} {e : Env} {s : State} {m : MethodId} {args : Array Value} {below : List Frame} {meth : Method} {c : Code} {r : Int32 × mM} (hs : mS X RX10 cX10_takesAct 4 (some .boolean) p s m meth c) : ∀ (i1 : Int32) (i2 : Int32) (M : mM), f_X10_takesAct i1 i2 M = some r → mG X p l e (rmF 6 138) s m args below meth c (MQ below (mQi X r.2 r.1) args s 0 0 (mL X)) 4 0 [(0, .ref (X.1 96)), (1, .int i1), (2, .int i2)] [] M := by
  obtain ⟨hx, hb, hml, hown, hF, hlk, hr⟩ := id hs
  intro i1 i2 M h H locs ls hR hS hl
  refine lv_aload_n hx hb dX10_takesAct_0 rfl (lv_at hl 0 rfl) ?_
  obtain ⟨v1, q1, h⟩ := mbp_e h
  refine m_ci (m_rV hx hb hml hown hF hR hS (ent9 kd_96) kd_96 rfl (c_X10_next l X M q1) q_X10_202_V hdV_X10_next ⟨Nat.le_of_ble_eq_true rfl, Nat.le_of_ble_eq_true rfl⟩ rfl hl.1 rfl (Nat.le_of_ble_eq_true rfl) dX10_takesAct_1) hS (fun H locs hR hS => ?_)
  refine lv_istore_n (lv' := [(3, .int v1), (0, .ref (X.1 96)), (1, .int i1), (2, .int i2)]) hx hb dX10_takesAct_4 rfl hl (by decide) rfl (fun ls hl => ?_)
  refine lv_iload_n hx hb dX10_takesAct_5 rfl (lv_at hl 0 rfl) ?_
  refine lv_bipush (v := 103) hx hb dX10_takesAct_6 (by decide) ?_
  refine lv_icmp_eq (tgt := 25) hx hb dX10_takesAct_8 (by decide) (fun c8 => ?_) (fun c8 => ?_)
  · have h := mif_y h c8
    exact w_X10_takesAct_b25 hs i1 i2 v1 M h H locs ls hR hS (lv_sub hl [1, 2, 3, 0] rfl)
  · have h := mif_n h c8
    refine lv_iload_n hx hb dX10_takesAct_11 rfl (lv_at hl 0 rfl) ?_
    refine lv_bipush (v := 121) hx hb dX10_takesAct_12 (by decide) ?_
    refine lv_icmp_eq (tgt := 25) hx hb dX10_takesAct_14 (by decide) (fun c14 => ?_) (fun c14 => ?_)
    · have h := mif_y h c14
      exact w_X10_takesAct_b25 hs i1 i2 v1 M h H locs ls hR hS (lv_sub hl [1, 2, 3, 0] rfl)
    · have h := mif_n h c14
      refine lv_iload_n hx hb dX10_takesAct_17 rfl (lv_at hl 0 rfl) ?_
      refine lv_bipush (v := 61) hx hb dX10_takesAct_18 (by decide) ?_
      refine lv_icmp_eq (tgt := 25) hx hb dX10_takesAct_20 (by decide) (fun c20 => ?_) (fun c20 => ?_)
      · have h := mif_y h c20
        exact w_X10_takesAct_b25 hs i1 i2 v1 M h H locs ls hR hS (lv_sub hl [1, 2, 3, 0] rfl)
      · have h := mif_n h c20
        refine lv_iconst (v := 0) hx hb dX10_takesAct_23 (by decide) ?_
        exact m_zr hx hb hlk hr hR hS (Or.inl rfl) (Option.some.inj h).symm dX10_takesAct_24
theorem c_X10_takesAct (l : Launch) (X : mX) (i1 : Int32) (i2 : Int32) (M : mM) {r : Int32 × mM} (h : f_X10_takesAct i1 i2 M = some r) : mMi l yX10_takesAct cX10_takesAct 4 (some .boolean) 6 138 X [.ref (X.1 96), .int i1, .int i2] M r := m_ofi (by decide +kernel) (Nat.le_of_ble_eq_true rfl) rfl (fun p e s m args below meth c hs => w_X10_takesAct hs i1 i2 M h)
set_option maxRecDepth 100000 in
set_option maxHeartbeats 4000000 in
theorem w_X10_goesProgram_b13 {l : Launch} {X : mX} {p : Program} {e : Env} {s : State} {m : MethodId} {args : Array Value} {below : List Frame} {meth : Method} {c : Code} {r : Int32 × mM} (hs : mS X RX10 cX10_goesProgram 4 (some .boolean) p s m meth c) : ∀ n : Nat, ∀ (i2 : Int32) (i3 : Int32) (M : mM), f_X10_goesProgram_b13 n i2 i3 M = some r → mG X p l e (rmF 7 162) s m args below meth c (MQ below (mQi X r.2 r.1) args s 0 0 (mL X)) 4 13 [(0, .ref (X.1 96)), (2, .int i2), (3, .int i3)] [] M := by
  obtain ⟨hx, hb, hml, hown, hF, hlk, hr⟩ := id hs
  intro n
  induction n with
  | zero =>
    intro i2 i3 M h
    have h0 : (none : Option (Int32 × mM)) = some r := h
    cases h0
  | succ n ih =>
    intro i2 i3 M h H locs ls hR hS hl
    refine lv_aload_n hx hb dX10_goesProgram_13 rfl (lv_at hl 0 rfl) ?_
    refine m_g9_10 hx hb hF hown hR kd_96 mw_5_147 dX10_goesProgram_14 ?_
    refine lv_aload_n hx hb dX10_goesProgram_17 rfl (lv_at hl 0 rfl) ?_
    refine m_g9_9 hx hb hF hown hR kd_96 mw_5_146 dX10_goesProgram_18 ?_
    refine lv_icmp_ge (tgt := 95) hx hb dX10_goesProgram_21 (by decide) (fun c21 => ?_) (fun c21 => ?_)
    · have h := mif_y h c21
      refine lv_iload_n hx hb dX10_goesProgram_95 rfl (lv_at hl 2 rfl) ?_
      refine lv_if_le (tgt := 103) hx hb dX10_goesProgram_96 (by decide) (fun c96 => ?_) (fun c96 => ?_)
      · have h := mif_y h c96
        refine lv_iconst (v := 0) hx hb dX10_goesProgram_103 (by decide) ?_
        exact m_zr hx hb hlk hr hR hS (Or.inl rfl) (Option.some.inj h).symm dX10_goesProgram_104
      · have h := mif_n h c96
        refine lv_iconst (v := 1) hx hb dX10_goesProgram_99 (by decide) ?_
        refine lv_goto (tgt := 104) hx hb dX10_goesProgram_100 (by decide) ?_
        exact m_zr hx hb hlk hr hR hS (Or.inr rfl) (Option.some.inj h).symm dX10_goesProgram_104
    · have h := mif_n h c21
      refine lv_iload_n hx hb dX10_goesProgram_24 rfl (lv_at hl 2 rfl) ?_
      refine lv_bipush (v := 6) hx hb dX10_goesProgram_25 (by decide) ?_
      refine lv_icmp_eq (tgt := 47) hx hb dX10_goesProgram_27 (by decide) (fun c27 => ?_) (fun c27 => ?_)
      · have h := mif_y h c27
        refine lv_iconst (v := 0) hx hb dX10_goesProgram_47 (by decide) ?_
        exact m_zr hx hb hlk hr hR hS (Or.inl rfl) (Option.some.inj h).symm dX10_goesProgram_48
      · have h := mif_n h c27
        refine lv_aload_n hx hb dX10_goesProgram_30 rfl (lv_at hl 0 rfl) ?_
        refine lv_iload_n hx hb dX10_goesProgram_31 rfl (lv_at hl 1 rfl) ?_
        obtain ⟨v32, M32, q32, h⟩ := mbw_e h
        refine m_ci (m_rV hx hb hml hown hF hR hS (ent9 kd_96) kd_96 rfl (c_X10_takesTest l X i2 M q32) q_X10_233_V hdV_X10_takesTest ⟨Nat.le_of_ble_eq_true rfl, Nat.le_of_ble_eq_true rfl⟩ rfl hl.1 rfl (Nat.le_of_ble_eq_true rfl) dX10_goesProgram_32) hS (fun H locs hR hS => ?_)
        refine lv_if_eq (tgt := 47) hx hb dX10_goesProgram_35 (by decide) (fun c35 => ?_) (fun c35 => ?_)
        · have h := mif_y h c35
          refine lv_iconst (v := 0) hx hb dX10_goesProgram_47 (by decide) ?_
          exact m_zr hx hb hlk hr hR hS (Or.inl rfl) (Option.some.inj h).symm dX10_goesProgram_48
        · have h := mif_n h c35
          refine lv_aload_n hx hb dX10_goesProgram_38 rfl (lv_at hl 0 rfl) ?_
          obtain ⟨v39, q39, h⟩ := mbp_e h
          refine m_ci (m_rV hx hb hml hown hF hR hS (ent9 kd_96) kd_96 rfl (c_X10_next l X M32 q39) q_X10_202_V hdV_X10_next ⟨Nat.le_of_ble_eq_true rfl, Nat.le_of_ble_eq_true rfl⟩ rfl hl.1 rfl (Nat.le_of_ble_eq_true rfl) dX10_goesProgram_39) hS (fun H locs hR hS => ?_)
          refine lv_bipush (v := 63) hx hb dX10_goesProgram_42 (by decide) ?_
          refine lv_icmp_eq (tgt := 49) hx hb dX10_goesProgram_44 (by decide) (fun c44 => ?_) (fun c44 => ?_)
          · have h := mif_y h c44
            refine lv_aload_n hx hb dX10_goesProgram_49 rfl (lv_at hl 0 rfl) ?_
            refine lv_dup hx hb dX10_goesProgram_50 rfl ?_
            refine m_g9_10 hx hb hF hown hR kd_96 mw_5_147 dX10_goesProgram_51 ?_
            refine lv_iconst (v := 1) hx hb dX10_goesProgram_54 (by decide) ?_
            refine lv_iadd hx hb dX10_goesProgram_55 ?_
            obtain ⟨M56, eM56⟩ : ∃ y : mM, y = mI M32 96 10 ((M32.1 96 10) + 1) := ⟨_, rfl⟩
            have h := mlt_n h M56 eM56
            refine m_p9_10 hx hb hF hown hR hS kd_96 mw_5_147 dX10_goesProgram_56 eM56 (fun H locs hR hS => ?_)
            refine lv_aload_n hx hb dX10_goesProgram_59 rfl (lv_at hl 0 rfl) ?_
            refine lv_iload_n hx hb dX10_goesProgram_60 rfl (lv_at hl 1 rfl) ?_
            refine lv_iload_n hx hb dX10_goesProgram_61 rfl (lv_at hl 2 rfl) ?_
            obtain ⟨v62, M62, q62, h⟩ := mbw_e h
            refine m_ci (m_rV hx hb hml hown hF hR hS (ent9 kd_96) kd_96 rfl (c_X10_takesAct l X i2 i3 M56 q62) q_X10_236_V hdV_X10_takesAct ⟨Nat.le_of_ble_eq_true rfl, Nat.le_of_ble_eq_true rfl⟩ rfl hl.1 rfl (Nat.le_of_ble_eq_true rfl) dX10_goesProgram_62) hS (fun H locs hR hS => ?_)
            refine lv_if_eq (tgt := 77) hx hb dX10_goesProgram_65 (by decide) (fun c65 => ?_) (fun c65 => ?_)
            · have h := mif_y h c65
              refine lv_iconst (v := 0) hx hb dX10_goesProgram_77 (by decide) ?_
              exact m_zr hx hb hlk hr hR hS (Or.inl rfl) (Option.some.inj h).symm dX10_goesProgram_78
            · have h := mif_n h c65
              refine lv_aload_n hx hb dX10_goesProgram_68 rfl (lv_at hl 0 rfl) ?_
              obtain ⟨v69, q69, h⟩ := mbp_e h
              refine m_ci (m_rV hx hb hml hown hF hR hS (ent9 kd_96) kd_96 rfl (c_X10_next l X M62 q69) q_X10_202_V hdV_X10_next ⟨Nat.le_of_ble_eq_true rfl, Nat.le_of_ble_eq_true rfl⟩ rfl hl.1 rfl (Nat.le_of_ble_eq_true rfl) dX10_goesProgram_69) hS (fun H locs hR hS => ?_)
              refine lv_bipush (v := 59) hx hb dX10_goesProgram_72 (by decide) ?_
              refine lv_icmp_eq (tgt := 79) hx hb dX10_goesProgram_74 (by decide) (fun c74 => ?_) (fun c74 => ?_)
              · have h := mif_y h c74
                refine lv_aload_n hx hb dX10_goesProgram_79 rfl (lv_at hl 0 rfl) ?_
                refine lv_dup hx hb dX10_goesProgram_80 rfl ?_
                refine m_g9_10 hx hb hF hown hR kd_96 mw_5_147 dX10_goesProgram_81 ?_
                refine lv_iconst (v := 1) hx hb dX10_goesProgram_84 (by decide) ?_
                refine lv_iadd hx hb dX10_goesProgram_85 ?_
                obtain ⟨M86, eM86⟩ : ∃ y : mM, y = mI M62 96 10 ((M62.1 96 10) + 1) := ⟨_, rfl⟩
                have h := mlt_n h M86 eM86
                refine m_p9_10 hx hb hF hown hR hS kd_96 mw_5_147 dX10_goesProgram_86 eM86 (fun H locs hR hS => ?_)
                obtain ⟨x89, ex89⟩ : ∃ y : Int32, y = (i3 + 1) := ⟨_, rfl⟩
                have h := mlt_n h x89 ex89
                refine lv_iinc (v := x89) (lv' := [(3, .int x89), (0, .ref (X.1 96)), (2, .int i2)]) hx hb dX10_goesProgram_89 hl (k := 2) rfl (by rw [ex89]; rfl) (by decide) rfl (fun ls hl => ?_)
                refine lv_goto (tgt := 13) hx hb dX10_goesProgram_92 (by decide) ?_
                exact ih i2 x89 M86 h H locs ls hR hS (lv_sub hl [1, 2, 0] rfl)
              · have h := mif_n h c74
                refine lv_iconst (v := 0) hx hb dX10_goesProgram_77 (by decide) ?_
                exact m_zr hx hb hlk hr hR hS (Or.inl rfl) (Option.some.inj h).symm dX10_goesProgram_78
          · have h := mif_n h c44
            refine lv_iconst (v := 0) hx hb dX10_goesProgram_47 (by decide) ?_
            exact m_zr hx hb hlk hr hR hS (Or.inl rfl) (Option.some.inj h).symm dX10_goesProgram_48
set_option maxRecDepth 100000 in
set_option maxHeartbeats 4000000 in
theorem w_X10_goesProgram {l : Launch} {X : mX} {p : Program} {e : Env} {s : State} {m : MethodId} {args : Array Value} {below : List Frame} {meth : Method} {c : Code} {r : Int32 × mM} (hs : mS X RX10 cX10_goesProgram 4 (some .boolean) p s m meth c) : ∀ (i1 : Int32) (i2 : Int32) (M : mM), f_X10_goesProgram i1 i2 M = some r → mG X p l e (rmF 7 162) s m args below meth c (MQ below (mQi X r.2 r.1) args s 0 0 (mL X)) 4 0 [(0, .ref (X.1 96)), (1, .int i1), (2, .int i2)] [] M := by
  obtain ⟨hx, hb, hml, hown, hF, hlk, hr⟩ := id hs
  intro i1 i2 M h H locs ls hR hS hl
  refine lv_aload_n hx hb dX10_goesProgram_0 rfl (lv_at hl 0 rfl) ?_
  refine lv_iload_n hx hb dX10_goesProgram_1 rfl (lv_at hl 1 rfl) ?_
  obtain ⟨M2, q2, h⟩ := mbp_e h
  refine m_cv (m_rV hx hb hml hown hF hR hS (ent9 kd_96) kd_96 rfl (c_X10_begin l X i1 M q2) q_X10_212_V hdV_X10_begin ⟨Nat.le_of_ble_eq_true rfl, Nat.le_of_ble_eq_true rfl⟩ rfl hl.1 rfl (Nat.le_of_ble_eq_true rfl) dX10_goesProgram_2) hS (fun H locs hR hS => ?_)
  refine lv_aload_n hx hb dX10_goesProgram_5 rfl (lv_at hl 0 rfl) ?_
  refine lv_bipush (v := (-4)) hx hb dX10_goesProgram_6 (by decide) ?_
  obtain ⟨M8, eM8⟩ : ∃ y : mM, y = mI M2 96 18 (-4) := ⟨_, rfl⟩
  have h := mlt_n h M8 eM8
  refine m_p9_18 hx hb hF hown hR hS kd_96 mw_5_155 dX10_goesProgram_8 eM8 (fun H locs hR hS => ?_)
  refine lv_iconst (v := 0) hx hb dX10_goesProgram_11 (by decide) ?_
  refine lv_istore_n (lv' := [(3, .int 0), (0, .ref (X.1 96)), (1, .int i1), (2, .int i2)]) hx hb dX10_goesProgram_12 rfl hl (by decide) rfl (fun ls hl => ?_)
  exact w_X10_goesProgram_b13 hs mN i2 0 M8 h H locs ls hR hS (lv_sub hl [1, 3, 0] rfl)
theorem c_X10_goesProgram (l : Launch) (X : mX) (i1 : Int32) (i2 : Int32) (M : mM) {r : Int32 × mM} (h : f_X10_goesProgram i1 i2 M = some r) : mMi l yX10_goesProgram cX10_goesProgram 4 (some .boolean) 7 162 X [.ref (X.1 96), .int i1, .int i2] M r := m_ofi (by decide +kernel) (Nat.le_of_ble_eq_true rfl) rfl (fun p e s m args below meth c hs => w_X10_goesProgram hs i1 i2 M h)
set_option maxRecDepth 100000 in
set_option maxHeartbeats 4000000 in
theorem w_X10_lacksText {l : Launch} {X : mX} {p : Program} {e : Env} {s : State} {m : MethodId} {args : Array Value} {below : List Frame} {meth : Method} {c : Code} {M : mM} {r : Int32} (hs : mS X RX10 cX10_lacksText 2 (some .int) p s m meth c) : ∀ (i1 : Int32), f_X10_lacksText i1 M = some r → mG X p l e (rmF 1 23) s m args below meth c (MQ below (mQi X M r) args s 0 0 (mL X)) 2 0 [(0, .ref (X.1 96)), (1, .int i1)] [] M := by
  obtain ⟨hx, hb, hml, hown, hF, hlk, hr⟩ := id hs
  intro i1 h H locs ls hR hS hl
  refine lv_aload_n hx hb dX10_lacksText_0 rfl (lv_at hl 0 rfl) ?_
  refine lv_iload_n hx hb dX10_lacksText_1 rfl (lv_at hl 1 rfl) ?_
  refine lv_iconst (v := 0) hx hb dX10_lacksText_2 (by decide) ?_
  refine lv_bipush (v := 7) hx hb dX10_lacksText_3 (by decide) ?_
  refine m_ci (m_rV hx hb hml hown hF hR hS (ent9 kd_96) kd_96 rfl (c_X10_is l X i1 0 7 M) q_X10_121_V hdV_X10_is ⟨Nat.le_of_ble_eq_true rfl, Nat.le_of_ble_eq_true rfl⟩ rfl hl.1 rfl (Nat.le_of_ble_eq_true rfl) dX10_lacksText_5) hS (fun H locs hR hS => ?_)
  refine lv_if_ne (tgt := 15) hx hb dX10_lacksText_8 (by decide) (fun c8 => ?_) (fun c8 => ?_)
  · have h := mif_n h c8
    refine lv_aload_n hx hb dX10_lacksText_15 rfl (lv_at hl 0 rfl) ?_
    refine m_g9_27 hx hb hF hown hR kd_96 mw_5_164 dX10_lacksText_16 ?_
    refine lv_iload_n hx hb dX10_lacksText_19 rfl (lv_at hl 1 rfl) ?_
    obtain ⟨g20, h⟩ := mgd_e h
    refine m_ialdL hx hb hR kd_108 g20 (jn := (Int32.toNatClampNeg i1)) rfl dX10_lacksText_20 ?_
    refine lv_if_ne (tgt := 29) hx hb dX10_lacksText_21 (by decide) (fun c21 => ?_) (fun c21 => ?_)
    · have h := mif_n h c21
      refine lv_aload_n hx hb dX10_lacksText_29 rfl (lv_at hl 0 rfl) ?_
      refine m_g9_27 hx hb hF hown hR kd_96 mw_5_164 dX10_lacksText_30 ?_
      refine lv_iload_n hx hb dX10_lacksText_33 rfl (lv_at hl 1 rfl) ?_
      obtain ⟨g34, h⟩ := mgd_e h
      refine m_ialdL hx hb hR kd_108 g34 (jn := (Int32.toNatClampNeg i1)) rfl dX10_lacksText_34 ?_
      refine lv_iconst (v := 2) hx hb dX10_lacksText_35 (by decide) ?_
      refine lv_icmp_ne (tgt := 48) hx hb dX10_lacksText_36 (by decide) (fun c36 => ?_) (fun c36 => ?_)
      · have h := mif_n h c36
        refine lv_bipush (v := (-12)) hx hb dX10_lacksText_48 (by decide) ?_
        refine lv_goto (tgt := 54) hx hb dX10_lacksText_50 (by decide) ?_
        exact m_ir hx hb hlk hr hR hS (congrArg (fun z => (z, M)) (Option.some.inj h).symm) dX10_lacksText_54
      · have h := mif_y h c36
        refine lv_aload_n hx hb dX10_lacksText_39 rfl (lv_at hl 0 rfl) ?_
        refine m_g9_32 hx hb hF hown hR kd_96 mw_5_169 dX10_lacksText_40 ?_
        refine lv_iload_n hx hb dX10_lacksText_43 rfl (lv_at hl 1 rfl) ?_
        obtain ⟨g44, h⟩ := mgd_e h
        refine m_ialdL hx hb hR kd_113 g44 (jn := (Int32.toNatClampNeg i1)) rfl dX10_lacksText_44 ?_
        refine lv_if_eq (tgt := 53) hx hb dX10_lacksText_45 (by decide) (fun c45 => ?_) (fun c45 => ?_)
        · have h := mif_y h c45
          refine lv_iconst (v := 0) hx hb dX10_lacksText_53 (by decide) ?_
          exact m_ir hx hb hlk hr hR hS (congrArg (fun z => (z, M)) (Option.some.inj h).symm) dX10_lacksText_54
        · have h := mif_n h c45
          refine lv_bipush (v := (-12)) hx hb dX10_lacksText_48 (by decide) ?_
          refine lv_goto (tgt := 54) hx hb dX10_lacksText_50 (by decide) ?_
          exact m_ir hx hb hlk hr hR hS (congrArg (fun z => (z, M)) (Option.some.inj h).symm) dX10_lacksText_54
    · have h := mif_y h c21
      refine lv_bipush (v := (-11)) hx hb dX10_lacksText_24 (by decide) ?_
      refine lv_goto (tgt := 54) hx hb dX10_lacksText_26 (by decide) ?_
      exact m_ir hx hb hlk hr hR hS (congrArg (fun z => (z, M)) (Option.some.inj h).symm) dX10_lacksText_54
  · have h := mif_y h c8
    refine lv_iconst (v := (-1)) hx hb dX10_lacksText_11 (by decide) ?_
    refine lv_goto (tgt := 54) hx hb dX10_lacksText_12 (by decide) ?_
    exact m_ir hx hb hlk hr hR hS (congrArg (fun z => (z, M)) (Option.some.inj h).symm) dX10_lacksText_54
theorem c_X10_lacksText (l : Launch) (X : mX) (i1 : Int32) (M : mM) {r : Int32} (h : f_X10_lacksText i1 M = some r) : mMi l yX10_lacksText cX10_lacksText 2 (some .int) 1 23 X [.ref (X.1 96), .int i1] M (r, M) := m_ofi (by decide +kernel) (Nat.le_of_ble_eq_true rfl) rfl (fun p e s m args below meth c hs => w_X10_lacksText hs i1 h)
set_option maxRecDepth 100000 in
set_option maxHeartbeats 4000000 in
theorem w_X10_bring_b12 {l : Launch} {X : mX} {p : Program} {e : Env} {s : State} {m : MethodId} {args : Array Value} {below : List Frame} {meth : Method} {c : Code} {r : mM} (hs : mS X RX10 cX10_bring 3 none p s m meth c) : ∀ n : Nat, ∀ (i1 : Int32) (i2 : Int32) (M : mM), f_X10_bring_b12 n i1 i2 M = some r → mG X p l e (rmF 0 0) s m args below meth c (MQ below (mQv X r) args s 0 0 (mL X)) 3 12 [(0, .ref (X.1 96)), (1, .int i1), (2, .int i2)] [] M := by
  obtain ⟨hx, hb, hml, hown, hF, hlk, hr⟩ := id hs
  intro n
  induction n with
  | zero =>
    intro i1 i2 M h
    have h0 : (none : Option (mM)) = some r := h
    cases h0
  | succ n ih =>
    intro i1 i2 M h H locs ls hR hS hl
    refine lv_iload_n hx hb dX10_bring_12 rfl (lv_at hl 2 rfl) ?_
    refine lv_aload_n hx hb dX10_bring_13 rfl (lv_at hl 0 rfl) ?_
    refine m_g9_33 hx hb hF hown hR kd_96 mw_5_170 dX10_bring_14 ?_
    refine lv_iload_n hx hb dX10_bring_17 rfl (lv_at hl 1 rfl) ?_
    obtain ⟨g18, h⟩ := mgd_e h
    refine m_ialdL hx hb hR kd_114 g18 (jn := (Int32.toNatClampNeg i1)) rfl dX10_bring_18 ?_
    refine lv_icmp_ge (tgt := 45) hx hb dX10_bring_19 (by decide) (fun c19 => ?_) (fun c19 => ?_)
    · have h := mif_y h c19
      exact m_vr hx hb hlk hr hR hS (Option.some.inj h).symm dX10_bring_45
    · have h := mif_n h c19
      refine lv_aload_n hx hb dX10_bring_22 rfl (lv_at hl 0 rfl) ?_
      refine m_g9_6 hx hb hF hown hR kd_96 mw_5_143 dX10_bring_23 ?_
      refine lv_iload_n hx hb dX10_bring_26 rfl (lv_at hl 2 rfl) ?_
      refine lv_aload_n hx hb dX10_bring_27 rfl (lv_at hl 0 rfl) ?_
      refine m_g9_34 hx hb hF hown hR kd_96 mw_5_171 dX10_bring_28 ?_
      refine lv_bipush (v := 90) hx hb dX10_bring_31 (by decide) ?_
      refine lv_iload_n hx hb dX10_bring_33 rfl (lv_at hl 1 rfl) ?_
      refine lv_imul hx hb dX10_bring_34 ?_
      refine lv_iload_n hx hb dX10_bring_35 rfl (lv_at hl 2 rfl) ?_
      refine lv_iadd hx hb dX10_bring_36 ?_
      obtain ⟨g37, h⟩ := mgd_e h
      refine m_ialdL hx hb hR kd_115 g37 (jn := (Int32.toNatClampNeg ((90 * i1) + i2))) rfl dX10_bring_37 ?_
      obtain ⟨g38, h⟩ := mgd_e h
      obtain ⟨M38, eM38⟩ : ∃ y : mM, y = mI M 101 (Int32.toNatClampNeg i2) (M.1 115 (Int32.toNatClampNeg ((90 * i1) + i2))) := ⟨_, rfl⟩
      have h := mlt_n h M38 eM38
      refine m_iastL hx hb hR hS kd_101 g38 (jn := (Int32.toNatClampNeg i2)) rfl dX10_bring_38 eM38 (fun H locs hR hS => ?_)
      obtain ⟨x39, ex39⟩ : ∃ y : Int32, y = (i2 + 1) := ⟨_, rfl⟩
      have h := mlt_n h x39 ex39
      refine lv_iinc (v := x39) (lv' := [(2, .int x39), (0, .ref (X.1 96)), (1, .int i1)]) hx hb dX10_bring_39 hl (k := 2) rfl (by rw [ex39]; rfl) (by decide) rfl (fun ls hl => ?_)
      refine lv_goto (tgt := 12) hx hb dX10_bring_42 (by decide) ?_
      exact ih i1 x39 M38 h H locs ls hR hS (lv_sub hl [1, 2, 0] rfl)
set_option maxRecDepth 100000 in
set_option maxHeartbeats 4000000 in
theorem w_X10_bring {l : Launch} {X : mX} {p : Program} {e : Env} {s : State} {m : MethodId} {args : Array Value} {below : List Frame} {meth : Method} {c : Code} {r : mM} (hs : mS X RX10 cX10_bring 3 none p s m meth c) : ∀ (i1 : Int32) (M : mM), f_X10_bring i1 M = some r → mG X p l e (rmF 0 0) s m args below meth c (MQ below (mQv X r) args s 0 0 (mL X)) 3 0 [(0, .ref (X.1 96)), (1, .int i1)] [] M := by
  obtain ⟨hx, hb, hml, hown, hF, hlk, hr⟩ := id hs
  intro i1 M h H locs ls hR hS hl
  refine lv_aload_n hx hb dX10_bring_0 rfl (lv_at hl 0 rfl) ?_
  refine lv_aload_n hx hb dX10_bring_1 rfl (lv_at hl 0 rfl) ?_
  refine m_g9_33 hx hb hF hown hR kd_96 mw_5_170 dX10_bring_2 ?_
  refine lv_iload_n hx hb dX10_bring_5 rfl (lv_at hl 1 rfl) ?_
  obtain ⟨g6, h⟩ := mgd_e h
  refine m_ialdL hx hb hR kd_114 g6 (jn := (Int32.toNatClampNeg i1)) rfl dX10_bring_6 ?_
  obtain ⟨M7, eM7⟩ : ∃ y : mM, y = mI M 96 7 (M.1 114 (Int32.toNatClampNeg i1)) := ⟨_, rfl⟩
  have h := mlt_n h M7 eM7
  refine m_p9_7 hx hb hF hown hR hS kd_96 mw_5_144 dX10_bring_7 eM7 (fun H locs hR hS => ?_)
  refine lv_iconst (v := 0) hx hb dX10_bring_10 (by decide) ?_
  refine lv_istore_n (lv' := [(2, .int 0), (0, .ref (X.1 96)), (1, .int i1)]) hx hb dX10_bring_11 rfl hl (by decide) rfl (fun ls hl => ?_)
  exact w_X10_bring_b12 hs mN i1 0 M7 h H locs ls hR hS (lv_sub hl [1, 2, 0] rfl)
theorem c_X10_bring (l : Launch) (X : mX) (i1 : Int32) (M : mM) {r : mM} (h : f_X10_bring i1 M = some r) : mMv l yX10_bring cX10_bring 3 0 0 X [.ref (X.1 96), .int i1] M r := m_ofv (by decide +kernel) (Nat.le_of_ble_eq_true rfl) rfl (fun p e s m args below meth c hs => w_X10_bring hs i1 M h)
set_option maxRecDepth 100000 in
set_option maxHeartbeats 4000000 in
theorem w_X10_fault {l : Launch} {X : mX} {p : Program} {e : Env} {s : State} {m : MethodId} {args : Array Value} {below : List Frame} {meth : Method} {c : Code} {r : Int32 × mM} (hs : mS X RX10 cX10_fault 3 (some .int) p s m meth c) : ∀ (i1 : Int32) (i2 : Int32) (M : mM), f_X10_fault i1 i2 M = some r → mG X p l e (rmF 8 185) s m args below meth c (MQ below (mQi X r.2 r.1) args s 0 0 (mL X)) 3 0 [(0, .ref (X.1 96)), (1, .int i1), (2, .int i2)] [] M := by
  obtain ⟨hx, hb, hml, hown, hF, hlk, hr⟩ := id hs
  intro i1 i2 M h H locs ls hR hS hl
  refine lv_aload_n hx hb dX10_fault_0 rfl (lv_at hl 0 rfl) ?_
  refine lv_iload_n hx hb dX10_fault_1 rfl (lv_at hl 2 rfl) ?_
  refine lv_iconst (v := 0) hx hb dX10_fault_2 (by decide) ?_
  refine lv_iconst (v := 1) hx hb dX10_fault_3 (by decide) ?_
  refine m_ci (m_rV hx hb hml hown hF hR hS (ent9 kd_96) kd_96 rfl (c_X10_is l X i2 0 1 M) q_X10_121_V hdV_X10_is ⟨Nat.le_of_ble_eq_true rfl, Nat.le_of_ble_eq_true rfl⟩ rfl hl.1 rfl (Nat.le_of_ble_eq_true rfl) dX10_fault_4) hS (fun H locs hR hS => ?_)
  refine lv_if_ne (tgt := 12) hx hb dX10_fault_7 (by decide) (fun c7 => ?_) (fun c7 => ?_)
  · have h := mif_n h c7
    refine lv_aload_n hx hb dX10_fault_12 rfl (lv_at hl 0 rfl) ?_
    refine lv_iload_n hx hb dX10_fault_13 rfl (lv_at hl 1 rfl) ?_
    obtain ⟨v14, q14, h⟩ := mbp_e h
    refine m_ci (m_rV hx hb hml hown hF hR hS (ent9 kd_96) kd_96 rfl (c_X10_lacksText l X i1 M q14) q_X10_239_V hdV_X10_lacksText ⟨Nat.le_of_ble_eq_true rfl, Nat.le_of_ble_eq_true rfl⟩ rfl hl.1 rfl (Nat.le_of_ble_eq_true rfl) dX10_fault_14) hS (fun H locs hR hS => ?_)
    refine lv_if_eq (tgt := 26) hx hb dX10_fault_17 (by decide) (fun c17 => ?_) (fun c17 => ?_)
    · have h := mif_y h c17
      refine lv_aload_n hx hb dX10_fault_26 rfl (lv_at hl 0 rfl) ?_
      refine lv_iload_n hx hb dX10_fault_27 rfl (lv_at hl 1 rfl) ?_
      obtain ⟨M28, q28, h⟩ := mbp_e h
      refine m_cv (m_rV hx hb hml hown hF hR hS (ent9 kd_96) kd_96 rfl (c_X10_bring l X i1 M q28) q_X10_242_V hdV_X10_bring ⟨Nat.le_of_ble_eq_true rfl, Nat.le_of_ble_eq_true rfl⟩ rfl hl.1 rfl (Nat.le_of_ble_eq_true rfl) dX10_fault_28) hS (fun H locs hR hS => ?_)
      refine lv_iload_n hx hb dX10_fault_31 rfl (lv_at hl 2 rfl) ?_
      refine lv_if_ne (tgt := 48) hx hb dX10_fault_32 (by decide) (fun c32 => ?_) (fun c32 => ?_)
      · have h := mif_n h c32
        refine lv_aload_n hx hb dX10_fault_48 rfl (lv_at hl 0 rfl) ?_
        refine lv_iconst (v := (-1)) hx hb dX10_fault_49 (by decide) ?_
        refine lv_iconst (v := (-1)) hx hb dX10_fault_50 (by decide) ?_
        obtain ⟨v51, M51, q51, h⟩ := mbw_e h
        refine m_ci (m_rV hx hb hml hown hF hR hS (ent9 kd_96) kd_96 rfl (c_X10_goesProgram l X (-1) (-1) M28 q51) q_X10_248_V hdV_X10_goesProgram ⟨Nat.le_of_ble_eq_true rfl, Nat.le_of_ble_eq_true rfl⟩ rfl hl.1 rfl (Nat.le_of_ble_eq_true rfl) dX10_fault_51) hS (fun H locs hR hS => ?_)
        refine lv_if_eq (tgt := 62) hx hb dX10_fault_54 (by decide) (fun c54 => ?_) (fun c54 => ?_)
        · have h := mif_y h c54
          refine lv_aload_n hx hb dX10_fault_62 rfl (lv_at hl 0 rfl) ?_
          refine m_g9_10 hx hb hF hown hR kd_96 mw_5_147 dX10_fault_63 ?_
          exact m_ir hx hb hlk hr hR hS (Option.some.inj h).symm dX10_fault_66
        · have h := mif_n h c54
          refine lv_bipush (v := (-4)) hx hb dX10_fault_57 (by decide) ?_
          refine lv_goto (tgt := 66) hx hb dX10_fault_59 (by decide) ?_
          exact m_ir hx hb hlk hr hR hS (Option.some.inj h).symm dX10_fault_66
      · have h := mif_y h c32
        refine lv_aload_n hx hb dX10_fault_35 rfl (lv_at hl 0 rfl) ?_
        refine lv_iconst (v := (-1)) hx hb dX10_fault_36 (by decide) ?_
        refine lv_iconst (v := 0) hx hb dX10_fault_37 (by decide) ?_
        refine lv_iconst (v := 0) hx hb dX10_fault_38 (by decide) ?_
        obtain ⟨v39, M39, q39, h⟩ := mbw_e h
        refine m_ci (m_rV hx hb hml hown hF hR hS (ent9 kd_96) kd_96 rfl (c_X10_goesShape l X (-1) 0 0 M28 q39) q_X10_245_V hdV_X10_goesShape ⟨Nat.le_of_ble_eq_true rfl, Nat.le_of_ble_eq_true rfl⟩ rfl hl.1 rfl (Nat.le_of_ble_eq_true rfl) dX10_fault_39) hS (fun H locs hR hS => ?_)
        refine lv_if_eq (tgt := 62) hx hb dX10_fault_42 (by decide) (fun c42 => ?_) (fun c42 => ?_)
        · have h := mif_y h c42
          refine lv_aload_n hx hb dX10_fault_62 rfl (lv_at hl 0 rfl) ?_
          refine m_g9_10 hx hb hF hown hR kd_96 mw_5_147 dX10_fault_63 ?_
          exact m_ir hx hb hlk hr hR hS (Option.some.inj h).symm dX10_fault_66
        · have h := mif_n h c42
          refine lv_goto (tgt := 57) hx hb dX10_fault_45 (by decide) ?_
          refine lv_bipush (v := (-4)) hx hb dX10_fault_57 (by decide) ?_
          refine lv_goto (tgt := 66) hx hb dX10_fault_59 (by decide) ?_
          exact m_ir hx hb hlk hr hR hS (Option.some.inj h).symm dX10_fault_66
    · have h := mif_n h c17
      refine lv_aload_n hx hb dX10_fault_20 rfl (lv_at hl 0 rfl) ?_
      refine lv_iload_n hx hb dX10_fault_21 rfl (lv_at hl 1 rfl) ?_
      obtain ⟨v22, q22, h⟩ := mbp_e h
      refine m_ci (m_rV hx hb hml hown hF hR hS (ent9 kd_96) kd_96 rfl (c_X10_lacksText l X i1 M q22) q_X10_239_V hdV_X10_lacksText ⟨Nat.le_of_ble_eq_true rfl, Nat.le_of_ble_eq_true rfl⟩ rfl hl.1 rfl (Nat.le_of_ble_eq_true rfl) dX10_fault_22) hS (fun H locs hR hS => ?_)
      exact m_ir hx hb hlk hr hR hS (Option.some.inj h).symm dX10_fault_25
  · have h := mif_y h c7
    refine lv_iconst (v := (-1)) hx hb dX10_fault_10 (by decide) ?_
    exact m_ir hx hb hlk hr hR hS (Option.some.inj h).symm dX10_fault_11
theorem c_X10_fault (l : Launch) (X : mX) (i1 : Int32) (i2 : Int32) (M : mM) {r : Int32 × mM} (h : f_X10_fault i1 i2 M = some r) : mMi l yX10_fault cX10_fault 3 (some .int) 8 185 X [.ref (X.1 96), .int i1, .int i2] M r := m_ofi (by decide +kernel) (Nat.le_of_ble_eq_true rfl) rfl (fun p e s m args below meth c hs => w_X10_fault hs i1 i2 M h)
set_option maxRecDepth 100000 in
set_option maxHeartbeats 4000000 in
theorem w_X10_keepText_b16 {l : Launch} {X : mX} {p : Program} {e : Env} {s : State} {m : MethodId} {args : Array Value} {below : List Frame} {meth : Method} {c : Code} {r : Int32 × mM} (hs : mS X RX10 cX10_keepText 4 (some .int) p s m meth c) : ∀ n : Nat, ∀ (i1 : Int32) (i2 : Int32) (i3 : Int32) (M : mM), f_X10_keepText_b16 n i1 i2 i3 M = some r → mG X p l e (rmF 0 0) s m args below meth c (MQ below (mQi X r.2 r.1) args s 0 0 (mL X)) 4 16 [(0, .ref (X.1 96)), (1, .int i1), (2, .int i2), (3, .int i3)] [] M := by
  obtain ⟨hx, hb, hml, hown, hF, hlk, hr⟩ := id hs
  intro n
  induction n with
  | zero =>
    intro i1 i2 i3 M h
    have h0 : (none : Option (Int32 × mM)) = some r := h
    cases h0
  | succ n ih =>
    intro i1 i2 i3 M h H locs ls hR hS hl
    refine lv_iload_n hx hb dX10_keepText_16 rfl (lv_at hl 3 rfl) ?_
    refine lv_aload_n hx hb dX10_keepText_17 rfl (lv_at hl 0 rfl) ?_
    refine m_g9_7 hx hb hF hown hR kd_96 mw_5_144 dX10_keepText_18 ?_
    refine lv_icmp_ge (tgt := 51) hx hb dX10_keepText_21 (by decide) (fun c21 => ?_) (fun c21 => ?_)
    · have h := mif_y h c21
      refine lv_aload_n hx hb dX10_keepText_51 rfl (lv_at hl 0 rfl) ?_
      refine m_g9_1 hx hb hF hown hR kd_96 mw_5_138 dX10_keepText_52 ?_
      refine lv_iload_n hx hb dX10_keepText_55 rfl (lv_at hl 1 rfl) ?_
      refine lv_dup2_11 hx hb dX10_keepText_56 rfl rfl ?_
      obtain ⟨g57, h⟩ := mgd_e h
      refine m_ialdL hx hb hR kd_97 g57 (jn := (Int32.toNatClampNeg i1)) rfl dX10_keepText_57 ?_
      refine lv_iconst (v := 1) hx hb dX10_keepText_58 (by decide) ?_
      refine lv_iadd hx hb dX10_keepText_59 ?_
      obtain ⟨g60, h⟩ := mgd_e h
      obtain ⟨M60, eM60⟩ : ∃ y : mM, y = mI M 97 (Int32.toNatClampNeg i1) ((M.1 97 (Int32.toNatClampNeg i1)) + 1) := ⟨_, rfl⟩
      have h := mlt_n h M60 eM60
      refine m_iastL hx hb hR hS kd_97 g60 (jn := (Int32.toNatClampNeg i1)) rfl dX10_keepText_60 eM60 (fun H locs hR hS => ?_)
      refine lv_aload_n hx hb dX10_keepText_61 rfl (lv_at hl 0 rfl) ?_
      refine m_g9_1 hx hb hF hown hR kd_96 mw_5_138 dX10_keepText_62 ?_
      refine lv_iload_n hx hb dX10_keepText_65 rfl (lv_at hl 1 rfl) ?_
      obtain ⟨g66, h⟩ := mgd_e h
      refine m_ialdL hx hb hR kd_97 g66 (jn := (Int32.toNatClampNeg i1)) rfl dX10_keepText_66 ?_
      refine lv_iconst (v := 1) hx hb dX10_keepText_67 (by decide) ?_
      refine lv_isub hx hb dX10_keepText_68 ?_
      exact m_ir hx hb hlk hr hR hS (Option.some.inj h).symm dX10_keepText_69
    · have h := mif_n h c21
      refine lv_aload_n hx hb dX10_keepText_24 rfl (lv_at hl 0 rfl) ?_
      refine m_g9_1 hx hb hF hown hR kd_96 mw_5_138 dX10_keepText_25 ?_
      refine lv_sipush (v := 154) hx hb dX10_keepText_28 (by decide) ?_
      refine lv_bipush (v := 90) hx hb dX10_keepText_31 (by decide) ?_
      refine lv_iload_n hx hb dX10_keepText_33 rfl (lv_at hl 2 rfl) ?_
      refine lv_imul hx hb dX10_keepText_34 ?_
      refine lv_iadd hx hb dX10_keepText_35 ?_
      refine lv_iload_n hx hb dX10_keepText_36 rfl (lv_at hl 3 rfl) ?_
      refine lv_iadd hx hb dX10_keepText_37 ?_
      refine lv_aload_n hx hb dX10_keepText_38 rfl (lv_at hl 0 rfl) ?_
      refine m_g9_6 hx hb hF hown hR kd_96 mw_5_143 dX10_keepText_39 ?_
      refine lv_iload_n hx hb dX10_keepText_42 rfl (lv_at hl 3 rfl) ?_
      obtain ⟨g43, h⟩ := mgd_e h
      refine m_ialdL hx hb hR kd_101 g43 (jn := (Int32.toNatClampNeg i3)) rfl dX10_keepText_43 ?_
      obtain ⟨g44, h⟩ := mgd_e h
      obtain ⟨M44, eM44⟩ : ∃ y : mM, y = mI M 97 (Int32.toNatClampNeg ((154 + (90 * i2)) + i3)) (M.1 101 (Int32.toNatClampNeg i3)) := ⟨_, rfl⟩
      have h := mlt_n h M44 eM44
      refine m_iastL hx hb hR hS kd_97 g44 (jn := (Int32.toNatClampNeg ((154 + (90 * i2)) + i3))) rfl dX10_keepText_44 eM44 (fun H locs hR hS => ?_)
      obtain ⟨x45, ex45⟩ : ∃ y : Int32, y = (i3 + 1) := ⟨_, rfl⟩
      have h := mlt_n h x45 ex45
      refine lv_iinc (v := x45) (lv' := [(3, .int x45), (0, .ref (X.1 96)), (1, .int i1), (2, .int i2)]) hx hb dX10_keepText_45 hl (k := 3) rfl (by rw [ex45]; rfl) (by decide) rfl (fun ls hl => ?_)
      refine lv_goto (tgt := 16) hx hb dX10_keepText_48 (by decide) ?_
      exact ih i1 i2 x45 M44 h H locs ls hR hS (lv_sub hl [1, 2, 3, 0] rfl)
set_option maxRecDepth 100000 in
set_option maxHeartbeats 4000000 in
theorem w_X10_keepText {l : Launch} {X : mX} {p : Program} {e : Env} {s : State} {m : MethodId} {args : Array Value} {below : List Frame} {meth : Method} {c : Code} {r : Int32 × mM} (hs : mS X RX10 cX10_keepText 4 (some .int) p s m meth c) : ∀ (i1 : Int32) (i2 : Int32) (M : mM), f_X10_keepText i1 i2 M = some r → mG X p l e (rmF 0 0) s m args below meth c (MQ below (mQi X r.2 r.1) args s 0 0 (mL X)) 4 0 [(0, .ref (X.1 96)), (1, .int i1), (2, .int i2)] [] M := by
  obtain ⟨hx, hb, hml, hown, hF, hlk, hr⟩ := id hs
  intro i1 i2 M h H locs ls hR hS hl
  refine lv_aload_n hx hb dX10_keepText_0 rfl (lv_at hl 0 rfl) ?_
  refine m_g9_1 hx hb hF hown hR kd_96 mw_5_138 dX10_keepText_1 ?_
  refine lv_sipush (v := 138) hx hb dX10_keepText_4 (by decide) ?_
  refine lv_iload_n hx hb dX10_keepText_7 rfl (lv_at hl 2 rfl) ?_
  refine lv_iadd hx hb dX10_keepText_8 ?_
  refine lv_aload_n hx hb dX10_keepText_9 rfl (lv_at hl 0 rfl) ?_
  refine m_g9_7 hx hb hF hown hR kd_96 mw_5_144 dX10_keepText_10 ?_
  obtain ⟨g13, h⟩ := mgd_e h
  obtain ⟨M13, eM13⟩ : ∃ y : mM, y = mI M 97 (Int32.toNatClampNeg (138 + i2)) (M.1 96 7) := ⟨_, rfl⟩
  have h := mlt_n h M13 eM13
  refine m_iastL hx hb hR hS kd_97 g13 (jn := (Int32.toNatClampNeg (138 + i2))) rfl dX10_keepText_13 eM13 (fun H locs hR hS => ?_)
  refine lv_iconst (v := 0) hx hb dX10_keepText_14 (by decide) ?_
  refine lv_istore_n (lv' := [(3, .int 0), (0, .ref (X.1 96)), (1, .int i1), (2, .int i2)]) hx hb dX10_keepText_15 rfl hl (by decide) rfl (fun ls hl => ?_)
  exact w_X10_keepText_b16 hs mN i1 i2 0 M13 h H locs ls hR hS (lv_sub hl [1, 2, 3, 0] rfl)
theorem c_X10_keepText (l : Launch) (X : mX) (i1 : Int32) (i2 : Int32) (M : mM) {r : Int32 × mM} (h : f_X10_keepText i1 i2 M = some r) : mMi l yX10_keepText cX10_keepText 4 (some .int) 0 0 X [.ref (X.1 96), .int i1, .int i2] M r := m_ofi (by decide +kernel) (Nat.le_of_ble_eq_true rfl) rfl (fun p e s m args below meth c hs => w_X10_keepText hs i1 i2 M h)
set_option maxRecDepth 100000 in
set_option maxHeartbeats 4000000 in
theorem w_X10_shape {l : Launch} {X : mX} {p : Program} {e : Env} {s : State} {m : MethodId} {args : Array Value} {below : List Frame} {meth : Method} {c : Code} {r : Int32 × mM} (hs : mS X RX10 cX10_shape 2 (some .int) p s m meth c) : ∀ (i1 : Int32) (M : mM), f_X10_shape i1 M = some r → mG X p l e (rmF 4 98) s m args below meth c (MQ below (mQi X r.2 r.1) args s 0 0 (mL X)) 2 0 [(0, .ref (X.1 96)), (1, .int i1)] [] M := by
  obtain ⟨hx, hb, hml, hown, hF, hlk, hr⟩ := id hs
  intro i1 M h H locs ls hR hS hl
  refine lv_aload_n hx hb dX10_shape_0 rfl (lv_at hl 0 rfl) ?_
  refine lv_iload_n hx hb dX10_shape_1 rfl (lv_at hl 1 rfl) ?_
  refine lv_iconst (v := 0) hx hb dX10_shape_2 (by decide) ?_
  refine lv_bipush (v := 7) hx hb dX10_shape_3 (by decide) ?_
  refine m_ci (m_rV hx hb hml hown hF hR hS (ent9 kd_96) kd_96 rfl (c_X10_is l X i1 0 7 M) q_X10_121_V hdV_X10_is ⟨Nat.le_of_ble_eq_true rfl, Nat.le_of_ble_eq_true rfl⟩ rfl hl.1 rfl (Nat.le_of_ble_eq_true rfl) dX10_shape_5) hS (fun H locs hR hS => ?_)
  refine lv_if_ne (tgt := 13) hx hb dX10_shape_8 (by decide) (fun c8 => ?_) (fun c8 => ?_)
  · have h := mif_n h c8
    refine lv_aload_n hx hb dX10_shape_13 rfl (lv_at hl 0 rfl) ?_
    refine m_g9_1 hx hb hF hown hR kd_96 mw_5_138 dX10_shape_14 ?_
    refine lv_iconst (v := 1) hx hb dX10_shape_17 (by decide) ?_
    refine m_ialdL hx hb hR kd_97 (show mIn 1 1834 from by decide) (jn := 1) (by decide) dX10_shape_18 ?_
    refine lv_bipush (v := 8) hx hb dX10_shape_19 (by decide) ?_
    refine lv_icmp_ne (tgt := 27) hx hb dX10_shape_21 (by decide) (fun c21 => ?_) (fun c21 => ?_)
    · have h := mif_n h c21
      refine lv_aload_n hx hb dX10_shape_27 rfl (lv_at hl 0 rfl) ?_
      refine lv_iload_n hx hb dX10_shape_28 rfl (lv_at hl 1 rfl) ?_
      obtain ⟨v29, q29, h⟩ := mbp_e h
      refine m_ci (m_rV hx hb hml hown hF hR hS (ent9 kd_96) kd_96 rfl (c_X10_lacksText l X i1 M q29) q_X10_239_V hdV_X10_lacksText ⟨Nat.le_of_ble_eq_true rfl, Nat.le_of_ble_eq_true rfl⟩ rfl hl.1 rfl (Nat.le_of_ble_eq_true rfl) dX10_shape_29) hS (fun H locs hR hS => ?_)
      refine lv_if_eq (tgt := 41) hx hb dX10_shape_32 (by decide) (fun c32 => ?_) (fun c32 => ?_)
      · have h := mif_y h c32
        refine lv_aload_n hx hb dX10_shape_41 rfl (lv_at hl 0 rfl) ?_
        refine lv_iload_n hx hb dX10_shape_42 rfl (lv_at hl 1 rfl) ?_
        obtain ⟨M43, q43, h⟩ := mbp_e h
        refine m_cv (m_rV hx hb hml hown hF hR hS (ent9 kd_96) kd_96 rfl (c_X10_bring l X i1 M q43) q_X10_242_V hdV_X10_bring ⟨Nat.le_of_ble_eq_true rfl, Nat.le_of_ble_eq_true rfl⟩ rfl hl.1 rfl (Nat.le_of_ble_eq_true rfl) dX10_shape_43) hS (fun H locs hR hS => ?_)
        refine lv_aload_n hx hb dX10_shape_46 rfl (lv_at hl 0 rfl) ?_
        refine lv_iconst (v := (-1)) hx hb dX10_shape_47 (by decide) ?_
        refine lv_iconst (v := 0) hx hb dX10_shape_48 (by decide) ?_
        refine lv_iconst (v := 0) hx hb dX10_shape_49 (by decide) ?_
        obtain ⟨v50, M50, q50, h⟩ := mbw_e h
        refine m_ci (m_rV hx hb hml hown hF hR hS (ent9 kd_96) kd_96 rfl (c_X10_goesShape l X (-1) 0 0 M43 q50) q_X10_245_V hdV_X10_goesShape ⟨Nat.le_of_ble_eq_true rfl, Nat.le_of_ble_eq_true rfl⟩ rfl hl.1 rfl (Nat.le_of_ble_eq_true rfl) dX10_shape_50) hS (fun H locs hR hS => ?_)
        refine lv_if_eq (tgt := 70) hx hb dX10_shape_53 (by decide) (fun c53 => ?_) (fun c53 => ?_)
        · have h := mif_y h c53
          refine lv_bipush (v := (-100)) hx hb dX10_shape_70 (by decide) ?_
          refine lv_aload_n hx hb dX10_shape_72 rfl (lv_at hl 0 rfl) ?_
          refine m_g9_10 hx hb hF hown hR kd_96 mw_5_147 dX10_shape_73 ?_
          refine lv_isub hx hb dX10_shape_76 ?_
          exact m_ir hx hb hlk hr hR hS (Option.some.inj h).symm dX10_shape_77
        · have h := mif_n h c53
          refine lv_aload_n hx hb dX10_shape_56 rfl (lv_at hl 0 rfl) ?_
          refine lv_iconst (v := 1) hx hb dX10_shape_57 (by decide) ?_
          refine lv_aload_n hx hb dX10_shape_58 rfl (lv_at hl 0 rfl) ?_
          refine m_g9_1 hx hb hF hown hR kd_96 mw_5_138 dX10_shape_59 ?_
          refine lv_iconst (v := 1) hx hb dX10_shape_62 (by decide) ?_
          refine m_ialdL hx hb hR kd_97 (show mIn 1 1834 from by decide) (jn := 1) (by decide) dX10_shape_63 ?_
          obtain ⟨v64, M64, q64, h⟩ := mbw_e h
          refine m_ci (m_rV hx hb hml hown hF hR hS (ent9 kd_96) kd_96 rfl (c_X10_keepText l X 1 (M50.1 97 1) M50 q64) q_X10_251_V hdV_X10_keepText ⟨Nat.le_of_ble_eq_true rfl, Nat.le_of_ble_eq_true rfl⟩ rfl hl.1 rfl (Nat.le_of_ble_eq_true rfl) dX10_shape_64) hS (fun H locs hR hS => ?_)
          refine lv_goto (tgt := 77) hx hb dX10_shape_67 (by decide) ?_
          exact m_ir hx hb hlk hr hR hS (Option.some.inj h).symm dX10_shape_77
      · have h := mif_n h c32
        refine lv_aload_n hx hb dX10_shape_35 rfl (lv_at hl 0 rfl) ?_
        refine lv_iload_n hx hb dX10_shape_36 rfl (lv_at hl 1 rfl) ?_
        obtain ⟨v37, q37, h⟩ := mbp_e h
        refine m_ci (m_rV hx hb hml hown hF hR hS (ent9 kd_96) kd_96 rfl (c_X10_lacksText l X i1 M q37) q_X10_239_V hdV_X10_lacksText ⟨Nat.le_of_ble_eq_true rfl, Nat.le_of_ble_eq_true rfl⟩ rfl hl.1 rfl (Nat.le_of_ble_eq_true rfl) dX10_shape_37) hS (fun H locs hR hS => ?_)
        exact m_ir hx hb hlk hr hR hS (Option.some.inj h).symm dX10_shape_40
    · have h := mif_y h c21
      refine lv_bipush (v := (-2)) hx hb dX10_shape_24 (by decide) ?_
      exact m_ir hx hb hlk hr hR hS (Option.some.inj h).symm dX10_shape_26
  · have h := mif_y h c8
    refine lv_iconst (v := (-1)) hx hb dX10_shape_11 (by decide) ?_
    exact m_ir hx hb hlk hr hR hS (Option.some.inj h).symm dX10_shape_12
theorem c_X10_shape (l : Launch) (X : mX) (i1 : Int32) (M : mM) {r : Int32 × mM} (h : f_X10_shape i1 M = some r) : mMi l yX10_shape cX10_shape 2 (some .int) 4 98 X [.ref (X.1 96), .int i1] M r := m_ofi (by decide +kernel) (Nat.le_of_ble_eq_true rfl) rfl (fun p e s m args below meth c hs => w_X10_shape hs i1 M h)
set_option maxRecDepth 100000 in
set_option maxHeartbeats 4000000 in
theorem w_X10_program {l : Launch} {X : mX} {p : Program} {e : Env} {s : State} {m : MethodId} {args : Array Value} {below : List Frame} {meth : Method} {c : Code} {r : Int32 × mM} (hs : mS X RX10 cX10_program 2 (some .int) p s m meth c) : ∀ (i1 : Int32) (M : mM), f_X10_program i1 M = some r → mG X p l e (rmF 8 185) s m args below meth c (MQ below (mQi X r.2 r.1) args s 0 0 (mL X)) 2 0 [(0, .ref (X.1 96)), (1, .int i1)] [] M := by
  obtain ⟨hx, hb, hml, hown, hF, hlk, hr⟩ := id hs
  intro i1 M h H locs ls hR hS hl
  refine lv_aload_n hx hb dX10_program_0 rfl (lv_at hl 0 rfl) ?_
  refine lv_iload_n hx hb dX10_program_1 rfl (lv_at hl 1 rfl) ?_
  refine lv_iconst (v := 0) hx hb dX10_program_2 (by decide) ?_
  refine lv_bipush (v := 7) hx hb dX10_program_3 (by decide) ?_
  refine m_ci (m_rV hx hb hml hown hF hR hS (ent9 kd_96) kd_96 rfl (c_X10_is l X i1 0 7 M) q_X10_121_V hdV_X10_is ⟨Nat.le_of_ble_eq_true rfl, Nat.le_of_ble_eq_true rfl⟩ rfl hl.1 rfl (Nat.le_of_ble_eq_true rfl) dX10_program_5) hS (fun H locs hR hS => ?_)
  refine lv_if_ne (tgt := 13) hx hb dX10_program_8 (by decide) (fun c8 => ?_) (fun c8 => ?_)
  · have h := mif_n h c8
    refine lv_aload_n hx hb dX10_program_13 rfl (lv_at hl 0 rfl) ?_
    refine m_g9_1 hx hb hF hown hR kd_96 mw_5_138 dX10_program_14 ?_
    refine lv_iconst (v := 2) hx hb dX10_program_17 (by decide) ?_
    refine m_ialdL hx hb hR kd_97 (show mIn 2 1834 from by decide) (jn := 2) (by decide) dX10_program_18 ?_
    refine lv_bipush (v := 8) hx hb dX10_program_19 (by decide) ?_
    refine lv_icmp_ne (tgt := 27) hx hb dX10_program_21 (by decide) (fun c21 => ?_) (fun c21 => ?_)
    · have h := mif_n h c21
      refine lv_aload_n hx hb dX10_program_27 rfl (lv_at hl 0 rfl) ?_
      refine lv_iload_n hx hb dX10_program_28 rfl (lv_at hl 1 rfl) ?_
      obtain ⟨v29, q29, h⟩ := mbp_e h
      refine m_ci (m_rV hx hb hml hown hF hR hS (ent9 kd_96) kd_96 rfl (c_X10_lacksText l X i1 M q29) q_X10_239_V hdV_X10_lacksText ⟨Nat.le_of_ble_eq_true rfl, Nat.le_of_ble_eq_true rfl⟩ rfl hl.1 rfl (Nat.le_of_ble_eq_true rfl) dX10_program_29) hS (fun H locs hR hS => ?_)
      refine lv_if_eq (tgt := 41) hx hb dX10_program_32 (by decide) (fun c32 => ?_) (fun c32 => ?_)
      · have h := mif_y h c32
        refine lv_aload_n hx hb dX10_program_41 rfl (lv_at hl 0 rfl) ?_
        refine lv_iload_n hx hb dX10_program_42 rfl (lv_at hl 1 rfl) ?_
        obtain ⟨M43, q43, h⟩ := mbp_e h
        refine m_cv (m_rV hx hb hml hown hF hR hS (ent9 kd_96) kd_96 rfl (c_X10_bring l X i1 M q43) q_X10_242_V hdV_X10_bring ⟨Nat.le_of_ble_eq_true rfl, Nat.le_of_ble_eq_true rfl⟩ rfl hl.1 rfl (Nat.le_of_ble_eq_true rfl) dX10_program_43) hS (fun H locs hR hS => ?_)
        refine lv_aload_n hx hb dX10_program_46 rfl (lv_at hl 0 rfl) ?_
        refine lv_iconst (v := (-1)) hx hb dX10_program_47 (by decide) ?_
        refine lv_iconst (v := (-1)) hx hb dX10_program_48 (by decide) ?_
        obtain ⟨v49, M49, q49, h⟩ := mbw_e h
        refine m_ci (m_rV hx hb hml hown hF hR hS (ent9 kd_96) kd_96 rfl (c_X10_goesProgram l X (-1) (-1) M43 q49) q_X10_248_V hdV_X10_goesProgram ⟨Nat.le_of_ble_eq_true rfl, Nat.le_of_ble_eq_true rfl⟩ rfl hl.1 rfl (Nat.le_of_ble_eq_true rfl) dX10_program_49) hS (fun H locs hR hS => ?_)
        refine lv_if_eq (tgt := 72) hx hb dX10_program_52 (by decide) (fun c52 => ?_) (fun c52 => ?_)
        · have h := mif_y h c52
          refine lv_bipush (v := (-100)) hx hb dX10_program_72 (by decide) ?_
          refine lv_aload_n hx hb dX10_program_74 rfl (lv_at hl 0 rfl) ?_
          refine m_g9_10 hx hb hF hown hR kd_96 mw_5_147 dX10_program_75 ?_
          refine lv_isub hx hb dX10_program_78 ?_
          exact m_ir hx hb hlk hr hR hS (Option.some.inj h).symm dX10_program_79
        · have h := mif_n h c52
          refine lv_aload_n hx hb dX10_program_55 rfl (lv_at hl 0 rfl) ?_
          refine lv_iconst (v := 2) hx hb dX10_program_56 (by decide) ?_
          refine lv_bipush (v := 8) hx hb dX10_program_57 (by decide) ?_
          refine lv_aload_n hx hb dX10_program_59 rfl (lv_at hl 0 rfl) ?_
          refine m_g9_1 hx hb hF hown hR kd_96 mw_5_138 dX10_program_60 ?_
          refine lv_iconst (v := 2) hx hb dX10_program_63 (by decide) ?_
          refine m_ialdL hx hb hR kd_97 (show mIn 2 1834 from by decide) (jn := 2) (by decide) dX10_program_64 ?_
          refine lv_iadd hx hb dX10_program_65 ?_
          obtain ⟨v66, M66, q66, h⟩ := mbw_e h
          refine m_ci (m_rV hx hb hml hown hF hR hS (ent9 kd_96) kd_96 rfl (c_X10_keepText l X 2 (8 + (M49.1 97 2)) M49 q66) q_X10_251_V hdV_X10_keepText ⟨Nat.le_of_ble_eq_true rfl, Nat.le_of_ble_eq_true rfl⟩ rfl hl.1 rfl (Nat.le_of_ble_eq_true rfl) dX10_program_66) hS (fun H locs hR hS => ?_)
          refine lv_goto (tgt := 79) hx hb dX10_program_69 (by decide) ?_
          exact m_ir hx hb hlk hr hR hS (Option.some.inj h).symm dX10_program_79
      · have h := mif_n h c32
        refine lv_aload_n hx hb dX10_program_35 rfl (lv_at hl 0 rfl) ?_
        refine lv_iload_n hx hb dX10_program_36 rfl (lv_at hl 1 rfl) ?_
        obtain ⟨v37, q37, h⟩ := mbp_e h
        refine m_ci (m_rV hx hb hml hown hF hR hS (ent9 kd_96) kd_96 rfl (c_X10_lacksText l X i1 M q37) q_X10_239_V hdV_X10_lacksText ⟨Nat.le_of_ble_eq_true rfl, Nat.le_of_ble_eq_true rfl⟩ rfl hl.1 rfl (Nat.le_of_ble_eq_true rfl) dX10_program_37) hS (fun H locs hR hS => ?_)
        exact m_ir hx hb hlk hr hR hS (Option.some.inj h).symm dX10_program_40
    · have h := mif_y h c21
      refine lv_bipush (v := (-2)) hx hb dX10_program_24 (by decide) ?_
      exact m_ir hx hb hlk hr hR hS (Option.some.inj h).symm dX10_program_26
  · have h := mif_y h c8
    refine lv_iconst (v := (-1)) hx hb dX10_program_11 (by decide) ?_
    exact m_ir hx hb hlk hr hR hS (Option.some.inj h).symm dX10_program_12
theorem c_X10_program (l : Launch) (X : mX) (i1 : Int32) (M : mM) {r : Int32 × mM} (h : f_X10_program i1 M = some r) : mMi l yX10_program cX10_program 2 (some .int) 8 185 X [.ref (X.1 96), .int i1] M r := m_ofi (by decide +kernel) (Nat.le_of_ble_eq_true rfl) rfl (fun p e s m args below meth c hs => w_X10_program hs i1 M h)
set_option maxRecDepth 100000 in
set_option maxHeartbeats 4000000 in
theorem w_X10_isShape {l : Launch} {X : mX} {p : Program} {e : Env} {s : State} {m : MethodId} {args : Array Value} {below : List Frame} {meth : Method} {c : Code} {M : mM} {r : Int32} (hs : mS X RX10 cX10_isShape 2 (some .boolean) p s m meth c) : ∀ (i1 : Int32), f_X10_isShape i1 M = some r → mG X p l e (rmF 1 23) s m args below meth c (MQ below (mQi X M r) args s 0 0 (mL X)) 2 0 [(0, .ref (X.1 96)), (1, .int i1)] [] M := by
  obtain ⟨hx, hb, hml, hown, hF, hlk, hr⟩ := id hs
  intro i1 h H locs ls hR hS hl
  refine lv_aload_n hx hb dX10_isShape_0 rfl (lv_at hl 0 rfl) ?_
  refine lv_iload_n hx hb dX10_isShape_1 rfl (lv_at hl 1 rfl) ?_
  refine lv_iconst (v := 0) hx hb dX10_isShape_2 (by decide) ?_
  refine lv_aload_n hx hb dX10_isShape_3 rfl (lv_at hl 0 rfl) ?_
  refine m_g9_1 hx hb hF hown hR kd_96 mw_5_138 dX10_isShape_4 ?_
  refine lv_iconst (v := 1) hx hb dX10_isShape_7 (by decide) ?_
  refine m_ialdL hx hb hR kd_97 (show mIn 1 1834 from by decide) (jn := 1) (by decide) dX10_isShape_8 ?_
  refine lv_iconst (v := 1) hx hb dX10_isShape_9 (by decide) ?_
  refine lv_isub hx hb dX10_isShape_10 ?_
  refine m_ci (m_rV hx hb hml hown hF hR hS (ent9 kd_96) kd_96 rfl (c_X10_is l X i1 0 ((M.1 97 1) - 1) M) q_X10_121_V hdV_X10_is ⟨Nat.le_of_ble_eq_true rfl, Nat.le_of_ble_eq_true rfl⟩ rfl hl.1 rfl (Nat.le_of_ble_eq_true rfl) dX10_isShape_11) hS (fun H locs hR hS => ?_)
  obtain ⟨g14, h⟩ := mgd_e h
  exact m_zr hx hb hlk hr hR hS g14 (congrArg (fun z => (z, M)) (Option.some.inj h).symm) dX10_isShape_14
theorem c_X10_isShape (l : Launch) (X : mX) (i1 : Int32) (M : mM) {r : Int32} (h : f_X10_isShape i1 M = some r) : mMi l yX10_isShape cX10_isShape 2 (some .boolean) 1 23 X [.ref (X.1 96), .int i1] M (r, M) := m_ofi (by decide +kernel) (Nat.le_of_ble_eq_true rfl) rfl (fun p e s m args below meth c hs => w_X10_isShape hs i1 h)
set_option maxRecDepth 100000 in
set_option maxHeartbeats 4000000 in
theorem w_X10_isIn {l : Launch} {X : mX} {p : Program} {e : Env} {s : State} {m : MethodId} {args : Array Value} {below : List Frame} {meth : Method} {c : Code} {r : Int32 × mM} (hs : mS X RX10 cX10_isIn 4 (some .boolean) p s m meth c) : ∀ (i1 : Int32) (i2 : Int32) (i3 : Int32) (M : mM), f_X10_isIn i1 i2 i3 M = some r → mG X p l e (rmF 4 98) s m args below meth c (MQ below (mQi X r.2 r.1) args s 0 0 (mL X)) 4 0 [(0, .ref (X.1 96)), (1, .int i1), (2, .int i2), (3, .int i3)] [] M := by
  obtain ⟨hx, hb, hml, hown, hF, hlk, hr⟩ := id hs
  intro i1 i2 i3 M h H locs ls hR hS hl
  refine lv_aload_n hx hb dX10_isIn_0 rfl (lv_at hl 0 rfl) ?_
  refine lv_iload_n hx hb dX10_isIn_1 rfl (lv_at hl 1 rfl) ?_
  refine lv_iload_n hx hb dX10_isIn_2 rfl (lv_at hl 2 rfl) ?_
  refine lv_iload_n hx hb dX10_isIn_3 rfl (lv_at hl 3 rfl) ?_
  obtain ⟨v4, M4, q4, h⟩ := mbw_e h
  refine m_ci (m_rV hx hb hml hown hF hR hS (ent9 kd_96) kd_96 rfl (c_X10_goesShape l X i1 i2 i3 M q4) q_X10_245_V hdV_X10_goesShape ⟨Nat.le_of_ble_eq_true rfl, Nat.le_of_ble_eq_true rfl⟩ rfl hl.1 rfl (Nat.le_of_ble_eq_true rfl) dX10_isIn_4) hS (fun H locs hR hS => ?_)
  refine lv_if_eq (tgt := 23) hx hb dX10_isIn_7 (by decide) (fun c7 => ?_) (fun c7 => ?_)
  · have h := mif_y h c7
    refine lv_iconst (v := 0) hx hb dX10_isIn_23 (by decide) ?_
    exact m_zr hx hb hlk hr hR hS (Or.inl rfl) (Option.some.inj h).symm dX10_isIn_24
  · have h := mif_n h c7
    refine lv_aload_n hx hb dX10_isIn_10 rfl (lv_at hl 0 rfl) ?_
    refine m_g9_13 hx hb hF hown hR kd_96 mw_5_150 dX10_isIn_11 ?_
    refine lv_iconst (v := 0) hx hb dX10_isIn_14 (by decide) ?_
    refine m_zaldL hx hb hR kd_102 (show mIn 0 8 from by decide) (jn := 0) (by decide) dX10_isIn_15 ?_
    refine lv_if_eq (tgt := 23) hx hb dX10_isIn_16 (by decide) (fun c16 => ?_) (fun c16 => ?_)
    · have h := mif_y h c16
      refine lv_iconst (v := 0) hx hb dX10_isIn_23 (by decide) ?_
      exact m_zr hx hb hlk hr hR hS (Or.inl rfl) (Option.some.inj h).symm dX10_isIn_24
    · have h := mif_n h c16
      refine lv_iconst (v := 1) hx hb dX10_isIn_19 (by decide) ?_
      refine lv_goto (tgt := 24) hx hb dX10_isIn_20 (by decide) ?_
      exact m_zr hx hb hlk hr hR hS (Or.inr rfl) (Option.some.inj h).symm dX10_isIn_24
theorem c_X10_isIn (l : Launch) (X : mX) (i1 : Int32) (i2 : Int32) (i3 : Int32) (M : mM) {r : Int32 × mM} (h : f_X10_isIn i1 i2 i3 M = some r) : mMi l yX10_isIn cX10_isIn 4 (some .boolean) 4 98 X [.ref (X.1 96), .int i1, .int i2, .int i3] M r := m_ofi (by decide +kernel) (Nat.le_of_ble_eq_true rfl) rfl (fun p e s m args below meth c hs => w_X10_isIn hs i1 i2 i3 M h)
set_option maxRecDepth 100000 in
set_option maxHeartbeats 4000000 in
theorem w_X10_in {l : Launch} {X : mX} {p : Program} {e : Env} {s : State} {m : MethodId} {args : Array Value} {below : List Frame} {meth : Method} {c : Code} {r : Int32 × mM} (hs : mS X RX10 cX10_in 4 (some .int) p s m meth c) : ∀ (i1 : Int32) (i2 : Int32) (i3 : Int32) (M : mM), f_X10_in i1 i2 i3 M = some r → mG X p l e (rmF 5 121) s m args below meth c (MQ below (mQi X r.2 r.1) args s 0 0 (mL X)) 4 0 [(0, .ref (X.1 96)), (1, .int i1), (2, .int i2), (3, .int i3)] [] M := by
  obtain ⟨hx, hb, hml, hown, hF, hlk, hr⟩ := id hs
  intro i1 i2 i3 M h H locs ls hR hS hl
  refine lv_aload_n hx hb dX10_in_0 rfl (lv_at hl 0 rfl) ?_
  refine lv_iload_n hx hb dX10_in_1 rfl (lv_at hl 1 rfl) ?_
  obtain ⟨v2, q2, h⟩ := mbp_e h
  refine m_ci (m_rV hx hb hml hown hF hR hS (ent9 kd_96) kd_96 rfl (c_X10_isShape l X i1 M q2) q_X10_254_V hdV_X10_isShape ⟨Nat.le_of_ble_eq_true rfl, Nat.le_of_ble_eq_true rfl⟩ rfl hl.1 rfl (Nat.le_of_ble_eq_true rfl) dX10_in_2) hS (fun H locs hR hS => ?_)
  refine lv_if_eq (tgt := 17) hx hb dX10_in_5 (by decide) (fun c5 => ?_) (fun c5 => ?_)
  · have h := mif_y h c5
    refine lv_iconst (v := (-1)) hx hb dX10_in_17 (by decide) ?_
    refine lv_goto (tgt := 36) hx hb dX10_in_18 (by decide) ?_
    exact m_ir hx hb hlk hr hR hS (Option.some.inj h).symm dX10_in_36
  · have h := mif_n h c5
    refine lv_aload_n hx hb dX10_in_8 rfl (lv_at hl 0 rfl) ?_
    refine lv_iload_n hx hb dX10_in_9 rfl (lv_at hl 2 rfl) ?_
    refine lv_iload_n hx hb dX10_in_10 rfl (lv_at hl 3 rfl) ?_
    refine m_ci (m_rV hx hb hml hown hF hR hS (ent9 kd_96) kd_96 rfl (c_X10_isCell l X i2 i3 M) q_X10_125_V hdV_X10_isCell ⟨Nat.le_of_ble_eq_true rfl, Nat.le_of_ble_eq_true rfl⟩ rfl hl.1 rfl (Nat.le_of_ble_eq_true rfl) dX10_in_11) hS (fun H locs hR hS => ?_)
    refine lv_if_ne (tgt := 21) hx hb dX10_in_14 (by decide) (fun c14 => ?_) (fun c14 => ?_)
    · have h := mif_n h c14
      refine lv_aload_n hx hb dX10_in_21 rfl (lv_at hl 0 rfl) ?_
      refine lv_iload_n hx hb dX10_in_22 rfl (lv_at hl 1 rfl) ?_
      refine lv_iload_n hx hb dX10_in_23 rfl (lv_at hl 2 rfl) ?_
      refine lv_iload_n hx hb dX10_in_24 rfl (lv_at hl 3 rfl) ?_
      obtain ⟨v25, M25, q25, h⟩ := mbw_e h
      refine m_ci (m_rV hx hb hml hown hF hR hS (ent9 kd_96) kd_96 rfl (c_X10_isIn l X i1 i2 i3 M q25) q_X10_257_V hdV_X10_isIn ⟨Nat.le_of_ble_eq_true rfl, Nat.le_of_ble_eq_true rfl⟩ rfl hl.1 rfl (Nat.le_of_ble_eq_true rfl) dX10_in_25) hS (fun H locs hR hS => ?_)
      refine lv_if_eq (tgt := 35) hx hb dX10_in_28 (by decide) (fun c28 => ?_) (fun c28 => ?_)
      · have h := mif_y h c28
        refine lv_iconst (v := 0) hx hb dX10_in_35 (by decide) ?_
        exact m_ir hx hb hlk hr hR hS (Option.some.inj h).symm dX10_in_36
      · have h := mif_n h c28
        refine lv_iconst (v := 1) hx hb dX10_in_31 (by decide) ?_
        refine lv_goto (tgt := 36) hx hb dX10_in_32 (by decide) ?_
        exact m_ir hx hb hlk hr hR hS (Option.some.inj h).symm dX10_in_36
    · have h := mif_y h c14
      refine lv_iconst (v := (-1)) hx hb dX10_in_17 (by decide) ?_
      refine lv_goto (tgt := 36) hx hb dX10_in_18 (by decide) ?_
      exact m_ir hx hb hlk hr hR hS (Option.some.inj h).symm dX10_in_36
theorem c_X10_in (l : Launch) (X : mX) (i1 : Int32) (i2 : Int32) (i3 : Int32) (M : mM) {r : Int32 × mM} (h : f_X10_in i1 i2 i3 M = some r) : mMi l yX10_in cX10_in 4 (some .int) 5 121 X [.ref (X.1 96), .int i1, .int i2, .int i3] M r := m_ofi (by decide +kernel) (Nat.le_of_ble_eq_true rfl) rfl (fun p e s m args below meth c hs => w_X10_in hs i1 i2 i3 M h)
set_option maxRecDepth 100000 in
set_option maxHeartbeats 4000000 in
theorem w_X10_findGoal_b51 {l : Launch} {X : mX} {p : Program} {e : Env} {s : State} {m : MethodId} {args : Array Value} {below : List Frame} {meth : Method} {c : Code} {r : mM} (hs : mS X RX10 cX10_findGoal 3 none p s m meth c) (k7 : Int32 → Int32 → mM → Option mM) (hk7 : ∀ (i1 : Int32) (i2 : Int32) (M : mM), k7 i1 i2 M = some r → mG X p l e (rmF 5 121) s m args below meth c (MQ below (mQv X r) args s 0 0 (mL X)) 3 7 [(0, .ref (X.1 96)), (1, .int i1), (2, .int i2)] [] M) : ∀ (i1 : Int32) (i2 : Int32) (s1 : Int32) (s2 : Int32) (M : mM), f_X10_findGoal_b51 k7 i1 i2 s1 s2 M = some r → mG X p l e (rmF 5 121) s m args below meth c (MQ below (mQv X r) args s 0 0 (mL X)) 3 51 [(0, .ref (X.1 96)), (1, .int i1), (2, .int i2)] [.int s2, .int s1, .ref (X.1 96)] M := by
  obtain ⟨hx, hb, hml, hown, hF, hlk, hr⟩ := id hs
  intro i1 i2 s1 s2 M h H locs ls hR hS hl
  refine lv_iadd hx hb dX10_findGoal_51 ?_
  obtain ⟨M52, eM52⟩ : ∃ y : mM, y = mI M 96 24 (s1 + s2) := ⟨_, rfl⟩
  have h := mlt_n h M52 eM52
  refine m_p9_24 hx hb hF hown hR hS kd_96 mw_5_161 dX10_findGoal_52 eM52 (fun H locs hR hS => ?_)
  obtain ⟨x55, ex55⟩ : ∃ y : Int32, y = (i2 + 1) := ⟨_, rfl⟩
  have h := mlt_n h x55 ex55
  refine lv_iinc (v := x55) (lv' := [(2, .int x55), (0, .ref (X.1 96)), (1, .int i1)]) hx hb dX10_findGoal_55 hl (k := 2) rfl (by rw [ex55]; rfl) (by decide) rfl (fun ls hl => ?_)
  refine lv_goto (tgt := 7) hx hb dX10_findGoal_58 (by decide) ?_
  exact hk7 i1 x55 M52 h H locs ls hR hS (lv_sub hl [1, 2, 0] rfl)
set_option maxRecDepth 100000 in
set_option maxHeartbeats 4000000 in
theorem w_X10_findGoal_b7 {l : Launch} {X : mX} {p : Program} {e : Env} {s : State} {m : MethodId} {args : Array Value} {below : List Frame} {meth : Method} {c : Code} {r : mM} (hs : mS X RX10 cX10_findGoal 3 none p s m meth c) : ∀ n : Nat, ∀ (i1 : Int32) (i2 : Int32) (M : mM), f_X10_findGoal_b7 n i1 i2 M = some r → mG X p l e (rmF 5 121) s m args below meth c (MQ below (mQv X r) args s 0 0 (mL X)) 3 7 [(0, .ref (X.1 96)), (1, .int i1), (2, .int i2)] [] M := by
  obtain ⟨hx, hb, hml, hown, hF, hlk, hr⟩ := id hs
  intro n
  induction n with
  | zero =>
    intro i1 i2 M h
    have h0 : (none : Option (mM)) = some r := h
    cases h0
  | succ n ih =>
    intro i1 i2 M h H locs ls hR hS hl
    refine lv_iload_n hx hb dX10_findGoal_7 rfl (lv_at hl 2 rfl) ?_
    refine lv_bipush (v := 80) hx hb dX10_findGoal_8 (by decide) ?_
    refine lv_icmp_ge (tgt := 61) hx hb dX10_findGoal_10 (by decide) (fun c10 => ?_) (fun c10 => ?_)
    · have h := mif_y h c10
      exact m_vr hx hb hlk hr hR hS (Option.some.inj h).symm dX10_findGoal_61
    · have h := mif_n h c10
      refine lv_aload_n hx hb dX10_findGoal_13 rfl (lv_at hl 0 rfl) ?_
      refine m_g9_23 hx hb hF hown hR kd_96 mw_5_160 dX10_findGoal_14 ?_
      refine lv_iload_n hx hb dX10_findGoal_17 rfl (lv_at hl 2 rfl) ?_
      refine lv_aload_n hx hb dX10_findGoal_18 rfl (lv_at hl 0 rfl) ?_
      refine lv_iload_n hx hb dX10_findGoal_19 rfl (lv_at hl 1 rfl) ?_
      refine lv_iload_n hx hb dX10_findGoal_20 rfl (lv_at hl 2 rfl) ?_
      refine lv_bipush (v := 8) hx hb dX10_findGoal_21 (by decide) ?_
      refine lv_idiv hx hb dX10_findGoal_23 (by decide) ?_
      refine lv_iload_n hx hb dX10_findGoal_24 rfl (lv_at hl 2 rfl) ?_
      refine lv_bipush (v := 8) hx hb dX10_findGoal_25 (by decide) ?_
      refine lv_irem hx hb dX10_findGoal_27 (by decide) ?_
      obtain ⟨v28, M28, q28, h⟩ := mbw_e h
      refine m_ci (m_rV hx hb hml hown hF hR hS (ent9 kd_96) kd_96 rfl (c_X10_isIn l X i1 (i2 / 8) (i2 - i2 / 8 * 8) M q28) q_X10_257_V hdV_X10_isIn ⟨Nat.le_of_ble_eq_true rfl, Nat.le_of_ble_eq_true rfl⟩ rfl hl.1 rfl (Nat.le_of_ble_eq_true rfl) dX10_findGoal_28) hS (fun H locs hR hS => ?_)
      obtain ⟨g31, h⟩ := mgd_e h
      obtain ⟨M31, eM31⟩ : ∃ y : mM, y = mI M28 105 (Int32.toNatClampNeg i2) (vp_nar .boolean v28) := ⟨_, rfl⟩
      have h := mlt_n h M31 eM31
      refine m_zastL hx hb hR hS kd_105 g31 (jn := (Int32.toNatClampNeg i2)) rfl rfl dX10_findGoal_31 eM31 (fun H locs hR hS => ?_)
      refine lv_aload_n hx hb dX10_findGoal_32 rfl (lv_at hl 0 rfl) ?_
      refine lv_dup hx hb dX10_findGoal_33 rfl ?_
      refine m_g9_24 hx hb hF hown hR kd_96 mw_5_161 dX10_findGoal_34 ?_
      refine lv_aload_n hx hb dX10_findGoal_37 rfl (lv_at hl 0 rfl) ?_
      refine m_g9_23 hx hb hF hown hR kd_96 mw_5_160 dX10_findGoal_38 ?_
      refine lv_iload_n hx hb dX10_findGoal_41 rfl (lv_at hl 2 rfl) ?_
      obtain ⟨g42, h⟩ := mgd_e h
      refine m_zaldL hx hb hR kd_105 g42 (jn := (Int32.toNatClampNeg i2)) rfl dX10_findGoal_42 ?_
      refine lv_if_eq (tgt := 50) hx hb dX10_findGoal_43 (by decide) (fun c43 => ?_) (fun c43 => ?_)
      · have h := mif_y h c43
        refine lv_iconst (v := 0) hx hb dX10_findGoal_50 (by decide) ?_
        exact w_X10_findGoal_b51 hs (f_X10_findGoal_b7 n) ih i1 i2 (M31.1 96 24) 0 M31 h H locs ls hR hS (lv_sub hl [0, 1, 2] rfl)
      · have h := mif_n h c43
        refine lv_iconst (v := 1) hx hb dX10_findGoal_46 (by decide) ?_
        refine lv_goto (tgt := 51) hx hb dX10_findGoal_47 (by decide) ?_
        exact w_X10_findGoal_b51 hs (f_X10_findGoal_b7 n) ih i1 i2 (M31.1 96 24) 1 M31 h H locs ls hR hS (lv_sub hl [0, 1, 2] rfl)
set_option maxRecDepth 100000 in
set_option maxHeartbeats 4000000 in
theorem w_X10_findGoal {l : Launch} {X : mX} {p : Program} {e : Env} {s : State} {m : MethodId} {args : Array Value} {below : List Frame} {meth : Method} {c : Code} {r : mM} (hs : mS X RX10 cX10_findGoal 3 none p s m meth c) : ∀ (i1 : Int32) (M : mM), f_X10_findGoal i1 M = some r → mG X p l e (rmF 5 121) s m args below meth c (MQ below (mQv X r) args s 0 0 (mL X)) 3 0 [(0, .ref (X.1 96)), (1, .int i1)] [] M := by
  obtain ⟨hx, hb, hml, hown, hF, hlk, hr⟩ := id hs
  intro i1 M h H locs ls hR hS hl
  refine lv_aload_n hx hb dX10_findGoal_0 rfl (lv_at hl 0 rfl) ?_
  refine lv_iconst (v := 0) hx hb dX10_findGoal_1 (by decide) ?_
  obtain ⟨M2, eM2⟩ : ∃ y : mM, y = mI M 96 24 0 := ⟨_, rfl⟩
  have h := mlt_n h M2 eM2
  refine m_p9_24 hx hb hF hown hR hS kd_96 mw_5_161 dX10_findGoal_2 eM2 (fun H locs hR hS => ?_)
  refine lv_iconst (v := 0) hx hb dX10_findGoal_5 (by decide) ?_
  refine lv_istore_n (lv' := [(2, .int 0), (0, .ref (X.1 96)), (1, .int i1)]) hx hb dX10_findGoal_6 rfl hl (by decide) rfl (fun ls hl => ?_)
  exact w_X10_findGoal_b7 hs mN i1 0 M2 h H locs ls hR hS (lv_sub hl [1, 2, 0] rfl)
theorem c_X10_findGoal (l : Launch) (X : mX) (i1 : Int32) (M : mM) {r : mM} (h : f_X10_findGoal i1 M = some r) : mMv l yX10_findGoal cX10_findGoal 3 5 121 X [.ref (X.1 96), .int i1] M r := m_ofv (by decide +kernel) (Nat.le_of_ble_eq_true rfl) rfl (fun p e s m args below meth c hs => w_X10_findGoal hs i1 M h)
set_option maxRecDepth 100000 in
set_option maxHeartbeats 4000000 in
theorem w_X10_outside_b4 {l : Launch} {X : mX} {p : Program} {e : Env} {s : State} {m : MethodId} {args : Array Value} {below : List Frame} {meth : Method} {c : Code} {M : mM} {r : Int32} (hs : mS X RX10 cX10_outside 3 (some .int) p s m meth c) : ∀ n : Nat, ∀ (i1 : Int32) (i2 : Int32), f_X10_outside_b4 n i1 i2 M = some r → mG X p l e (rmF 0 0) s m args below meth c (MQ below (mQi X M r) args s 0 0 (mL X)) 3 4 [(0, .ref (X.1 96)), (1, .int i1), (2, .int i2)] [] M := by
  obtain ⟨hx, hb, hml, hown, hF, hlk, hr⟩ := id hs
  intro n
  induction n with
  | zero =>
    intro i1 i2 h
    have h0 : (none : Option (Int32)) = some r := h
    cases h0
  | succ n ih =>
    intro i1 i2 h H locs ls hR hS hl
    refine lv_iload_n hx hb dX10_outside_4 rfl (lv_at hl 2 rfl) ?_
    refine lv_aload_n hx hb dX10_outside_5 rfl (lv_at hl 0 rfl) ?_
    refine m_g9_1 hx hb hF hown hR kd_96 mw_5_138 dX10_outside_6 ?_
    refine lv_iconst (v := 0) hx hb dX10_outside_9 (by decide) ?_
    refine m_ialdL hx hb hR kd_97 (show mIn 0 1834 from by decide) (jn := 0) (by decide) dX10_outside_10 ?_
    refine lv_icmp_ge (tgt := 58) hx hb dX10_outside_11 (by decide) (fun c11 => ?_) (fun c11 => ?_)
    · have h := mif_y h c11
      refine lv_iload_n hx hb dX10_outside_58 rfl (lv_at hl 1 rfl) ?_
      exact m_ir hx hb hlk hr hR hS (congrArg (fun z => (z, M)) (Option.some.inj h).symm) dX10_outside_59
    · have h := mif_n h c11
      refine lv_iload_n hx hb dX10_outside_14 rfl (lv_at hl 1 rfl) ?_
      refine lv_aload_n hx hb dX10_outside_15 rfl (lv_at hl 0 rfl) ?_
      refine m_g9_23 hx hb hF hown hR kd_96 mw_5_160 dX10_outside_16 ?_
      refine lv_bipush (v := 8) hx hb dX10_outside_19 (by decide) ?_
      refine lv_aload_n hx hb dX10_outside_21 rfl (lv_at hl 0 rfl) ?_
      refine m_g9_1 hx hb hF hown hR kd_96 mw_5_138 dX10_outside_22 ?_
      refine lv_bipush (v := 26) hx hb dX10_outside_25 (by decide) ?_
      refine lv_iload_n hx hb dX10_outside_27 rfl (lv_at hl 2 rfl) ?_
      refine lv_iadd hx hb dX10_outside_28 ?_
      obtain ⟨g29, h⟩ := mgd_e h
      refine m_ialdL hx hb hR kd_97 g29 (jn := (Int32.toNatClampNeg (26 + i2))) rfl dX10_outside_29 ?_
      refine lv_imul hx hb dX10_outside_30 ?_
      refine lv_aload_n hx hb dX10_outside_31 rfl (lv_at hl 0 rfl) ?_
      refine m_g9_1 hx hb hF hown hR kd_96 mw_5_138 dX10_outside_32 ?_
      refine lv_bipush (v := 42) hx hb dX10_outside_35 (by decide) ?_
      refine lv_iload_n hx hb dX10_outside_37 rfl (lv_at hl 2 rfl) ?_
      refine lv_iadd hx hb dX10_outside_38 ?_
      obtain ⟨g39, h⟩ := mgd_e h
      refine m_ialdL hx hb hR kd_97 g39 (jn := (Int32.toNatClampNeg (42 + i2))) rfl dX10_outside_39 ?_
      refine lv_iadd hx hb dX10_outside_40 ?_
      obtain ⟨g41, h⟩ := mgd_e h
      refine m_zaldL hx hb hR kd_105 g41 (jn := (Int32.toNatClampNeg ((8 * (M.1 97 (Int32.toNatClampNeg (26 + i2)))) + (M.1 97 (Int32.toNatClampNeg (42 + i2)))))) rfl dX10_outside_41 ?_
      refine lv_if_eq (tgt := 49) hx hb dX10_outside_42 (by decide) (fun c42 => ?_) (fun c42 => ?_)
      · have h := mif_y h c42
        refine lv_iconst (v := 1) hx hb dX10_outside_49 (by decide) ?_
        refine lv_iadd hx hb dX10_outside_50 ?_
        refine lv_istore_n (lv' := [(1, .int (i1 + 1)), (0, .ref (X.1 96)), (2, .int i2)]) hx hb dX10_outside_51 rfl hl (by decide) rfl (fun ls hl => ?_)
        obtain ⟨x52, ex52⟩ : ∃ y : Int32, y = (i2 + 1) := ⟨_, rfl⟩
        have h := mlt_n h x52 ex52
        refine lv_iinc (v := x52) (lv' := [(2, .int x52), (1, .int (i1 + 1)), (0, .ref (X.1 96))]) hx hb dX10_outside_52 hl (k := 2) rfl (by rw [ex52]; rfl) (by decide) rfl (fun ls hl => ?_)
        refine lv_goto (tgt := 4) hx hb dX10_outside_55 (by decide) ?_
        exact ih (i1 + 1) x52 h H locs ls hR hS (lv_sub hl [2, 1, 0] rfl)
      · have h := mif_n h c42
        refine lv_iconst (v := 0) hx hb dX10_outside_45 (by decide) ?_
        refine lv_goto (tgt := 50) hx hb dX10_outside_46 (by decide) ?_
        refine lv_iadd hx hb dX10_outside_50 ?_
        refine lv_istore_n (lv' := [(1, .int (i1 + 0)), (0, .ref (X.1 96)), (2, .int i2)]) hx hb dX10_outside_51 rfl hl (by decide) rfl (fun ls hl => ?_)
        obtain ⟨x52, ex52⟩ : ∃ y : Int32, y = (i2 + 1) := ⟨_, rfl⟩
        have h := mlt_n h x52 ex52
        refine lv_iinc (v := x52) (lv' := [(2, .int x52), (1, .int (i1 + 0)), (0, .ref (X.1 96))]) hx hb dX10_outside_52 hl (k := 2) rfl (by rw [ex52]; rfl) (by decide) rfl (fun ls hl => ?_)
        refine lv_goto (tgt := 4) hx hb dX10_outside_55 (by decide) ?_
        exact ih (i1 + 0) x52 h H locs ls hR hS (lv_sub hl [2, 1, 0] rfl)
set_option maxRecDepth 100000 in
set_option maxHeartbeats 4000000 in
theorem w_X10_outside {l : Launch} {X : mX} {p : Program} {e : Env} {s : State} {m : MethodId} {args : Array Value} {below : List Frame} {meth : Method} {c : Code} {M : mM} {r : Int32} (hs : mS X RX10 cX10_outside 3 (some .int) p s m meth c) : f_X10_outside  M = some r → mG X p l e (rmF 0 0) s m args below meth c (MQ below (mQi X M r) args s 0 0 (mL X)) 3 0 [(0, .ref (X.1 96))] [] M := by
  obtain ⟨hx, hb, hml, hown, hF, hlk, hr⟩ := id hs
  intro h H locs ls hR hS hl
  refine lv_iconst (v := 0) hx hb dX10_outside_0 (by decide) ?_
  refine lv_istore_n (lv' := [(1, .int 0), (0, .ref (X.1 96))]) hx hb dX10_outside_1 rfl hl (by decide) rfl (fun ls hl => ?_)
  refine lv_iconst (v := 0) hx hb dX10_outside_2 (by decide) ?_
  refine lv_istore_n (lv' := [(2, .int 0), (1, .int 0), (0, .ref (X.1 96))]) hx hb dX10_outside_3 rfl hl (by decide) rfl (fun ls hl => ?_)
  exact w_X10_outside_b4 hs mN 0 0 h H locs ls hR hS (lv_sub hl [2, 1, 0] rfl)
theorem c_X10_outside (l : Launch) (X : mX) (M : mM) {r : Int32} (h : f_X10_outside M = some r) : mMi l yX10_outside cX10_outside 3 (some .int) 0 0 X [.ref (X.1 96)] M (r, M) := m_ofi (by decide +kernel) (Nat.le_of_ble_eq_true rfl) rfl (fun p e s m args below meth c hs => w_X10_outside hs h)
set_option maxRecDepth 100000 in
set_option maxHeartbeats 4000000 in
theorem w_X10_met {l : Launch} {X : mX} {p : Program} {e : Env} {s : State} {m : MethodId} {args : Array Value} {below : List Frame} {meth : Method} {c : Code} {r : Int32 × mM} (hs : mS X RX10 cX10_met 4 (some .int) p s m meth c) : ∀ (i1 : Int32) (i2 : Int32) (M : mM), f_X10_met i1 i2 M = some r → mG X p l e (rmF 6 143) s m args below meth c (MQ below (mQi X r.2 r.1) args s 0 0 (mL X)) 4 0 [(0, .ref (X.1 96)), (1, .int i1), (2, .int i2)] [] M := by
  obtain ⟨hx, hb, hml, hown, hF, hlk, hr⟩ := id hs
  intro i1 i2 M h H locs ls hR hS hl
  refine lv_aload_n hx hb dX10_met_0 rfl (lv_at hl 0 rfl) ?_
  refine lv_iload_n hx hb dX10_met_1 rfl (lv_at hl 1 rfl) ?_
  obtain ⟨v2, q2, h⟩ := mbp_e h
  refine m_ci (m_rV hx hb hml hown hF hR hS (ent9 kd_96) kd_96 rfl (c_X10_isShape l X i1 M q2) q_X10_254_V hdV_X10_isShape ⟨Nat.le_of_ble_eq_true rfl, Nat.le_of_ble_eq_true rfl⟩ rfl hl.1 rfl (Nat.le_of_ble_eq_true rfl) dX10_met_2) hS (fun H locs hR hS => ?_)
  refine lv_if_eq (tgt := 18) hx hb dX10_met_5 (by decide) (fun c5 => ?_) (fun c5 => ?_)
  · have h := mif_y h c5
    refine lv_iconst (v := (-1)) hx hb dX10_met_18 (by decide) ?_
    exact m_ir hx hb hlk hr hR hS (Option.some.inj h).symm dX10_met_19
  · have h := mif_n h c5
    refine lv_aload_n hx hb dX10_met_8 rfl (lv_at hl 0 rfl) ?_
    refine lv_iload_n hx hb dX10_met_9 rfl (lv_at hl 2 rfl) ?_
    refine lv_iconst (v := 0) hx hb dX10_met_10 (by decide) ?_
    refine lv_iconst (v := 3) hx hb dX10_met_11 (by decide) ?_
    refine m_ci (m_rV hx hb hml hown hF hR hS (ent9 kd_96) kd_96 rfl (c_X10_is l X i2 0 3 M) q_X10_121_V hdV_X10_is ⟨Nat.le_of_ble_eq_true rfl, Nat.le_of_ble_eq_true rfl⟩ rfl hl.1 rfl (Nat.le_of_ble_eq_true rfl) dX10_met_12) hS (fun H locs hR hS => ?_)
    refine lv_if_ne (tgt := 20) hx hb dX10_met_15 (by decide) (fun c15 => ?_) (fun c15 => ?_)
    · have h := mif_n h c15
      refine lv_aload_n hx hb dX10_met_20 rfl (lv_at hl 0 rfl) ?_
      refine lv_iload_n hx hb dX10_met_21 rfl (lv_at hl 1 rfl) ?_
      obtain ⟨M22, q22, h⟩ := mbp_e h
      refine m_cv (m_rV hx hb hml hown hF hR hS (ent9 kd_96) kd_96 rfl (c_X10_findGoal l X i1 M q22) q_X10_260_V hdV_X10_findGoal ⟨Nat.le_of_ble_eq_true rfl, Nat.le_of_ble_eq_true rfl⟩ rfl hl.1 rfl (Nat.le_of_ble_eq_true rfl) dX10_met_22) hS (fun H locs hR hS => ?_)
      refine lv_aload_n hx hb dX10_met_25 rfl (lv_at hl 0 rfl) ?_
      refine m_g9_24 hx hb hF hown hR kd_96 mw_5_161 dX10_met_26 ?_
      refine lv_aload_n hx hb dX10_met_29 rfl (lv_at hl 0 rfl) ?_
      refine m_g9_1 hx hb hF hown hR kd_96 mw_5_138 dX10_met_30 ?_
      refine lv_iconst (v := 0) hx hb dX10_met_33 (by decide) ?_
      refine m_ialdL hx hb hR kd_97 (show mIn 0 1834 from by decide) (jn := 0) (by decide) dX10_met_34 ?_
      refine lv_aload_n hx hb dX10_met_35 rfl (lv_at hl 0 rfl) ?_
      obtain ⟨v36, q36, h⟩ := mbp_e h
      refine m_ci (m_rV hx hb hml hown hF hR hS (ent9 kd_96) kd_96 rfl (c_X10_outside l X M22 q36) q_X10_263_V hdV_X10_outside ⟨Nat.le_of_ble_eq_true rfl, Nat.le_of_ble_eq_true rfl⟩ rfl hl.1 rfl (Nat.le_of_ble_eq_true rfl) dX10_met_36) hS (fun H locs hR hS => ?_)
      refine lv_isub hx hb dX10_met_39 ?_
      refine lv_isub hx hb dX10_met_40 ?_
      refine lv_topi (fun x41 ex41 => ?_)
      have h := mlt_n h x41 ex41
      refine lv_istore_n (lv' := [(3, .int x41), (0, .ref (X.1 96)), (1, .int i1), (2, .int i2)]) hx hb dX10_met_41 rfl hl (by decide) rfl (fun ls hl => ?_)
      refine lv_iload_n hx hb dX10_met_42 rfl (lv_at hl 3 rfl) ?_
      refine lv_if_ne (tgt := 53) hx hb dX10_met_43 (by decide) (fun c43 => ?_) (fun c43 => ?_)
      · have h := mif_n h c43
        refine lv_iload_n hx hb dX10_met_53 rfl (lv_at hl 3 rfl) ?_
        refine lv_iconst (v := 1) hx hb dX10_met_54 (by decide) ?_
        refine lv_icmp_ne (tgt := 62) hx hb dX10_met_55 (by decide) (fun c55 => ?_) (fun c55 => ?_)
        · have h := mif_n h c55
          refine lv_iload_n hx hb dX10_met_62 rfl (lv_at hl 3 rfl) ?_
          refine lv_iconst (v := 2) hx hb dX10_met_63 (by decide) ?_
          refine lv_icmp_ne (tgt := 74) hx hb dX10_met_64 (by decide) (fun c64 => ?_) (fun c64 => ?_)
          · have h := mif_n h c64
            refine lv_iload_n hx hb dX10_met_74 rfl (lv_at hl 0 rfl) ?_
            refine lv_if_ne (tgt := 89) hx hb dX10_met_75 (by decide) (fun c75 => ?_) (fun c75 => ?_)
            · have h := mif_n h c75
              refine lv_iconst (v := 0) hx hb dX10_met_89 (by decide) ?_
              exact m_ir hx hb hlk hr hR hS (Option.some.inj h).symm dX10_met_90
            · have h := mif_y h c75
              refine lv_aload_n hx hb dX10_met_78 rfl (lv_at hl 1 rfl) ?_
              obtain ⟨v79, q79, h⟩ := mbp_e h
              refine m_ci (m_rV hx hb hml hown hF hR hS (ent9 kd_96) kd_96 rfl (c_X10_outside l X M22 q79) q_X10_263_V hdV_X10_outside ⟨Nat.le_of_ble_eq_true rfl, Nat.le_of_ble_eq_true rfl⟩ rfl hl.1 rfl (Nat.le_of_ble_eq_true rfl) dX10_met_79) hS (fun H locs hR hS => ?_)
              refine lv_if_ne (tgt := 89) hx hb dX10_met_82 (by decide) (fun c82 => ?_) (fun c82 => ?_)
              · have h := mif_n h c82
                refine lv_iconst (v := 0) hx hb dX10_met_89 (by decide) ?_
                exact m_ir hx hb hlk hr hR hS (Option.some.inj h).symm dX10_met_90
              · have h := mif_y h c82
                refine lv_iconst (v := 1) hx hb dX10_met_85 (by decide) ?_
                refine lv_goto (tgt := 90) hx hb dX10_met_86 (by decide) ?_
                exact m_ir hx hb hlk hr hR hS (Option.some.inj h).symm dX10_met_90
          · have h := mif_y h c64
            refine lv_aload_n hx hb dX10_met_67 rfl (lv_at hl 1 rfl) ?_
            obtain ⟨v68, q68, h⟩ := mbp_e h
            refine m_ci (m_rV hx hb hml hown hF hR hS (ent9 kd_96) kd_96 rfl (c_X10_outside l X M22 q68) q_X10_263_V hdV_X10_outside ⟨Nat.le_of_ble_eq_true rfl, Nat.le_of_ble_eq_true rfl⟩ rfl hl.1 rfl (Nat.le_of_ble_eq_true rfl) dX10_met_68) hS (fun H locs hR hS => ?_)
            refine lv_goto (tgt := 90) hx hb dX10_met_71 (by decide) ?_
            exact m_ir hx hb hlk hr hR hS (Option.some.inj h).symm dX10_met_90
        · have h := mif_y h c55
          refine lv_iload_n hx hb dX10_met_58 rfl (lv_at hl 0 rfl) ?_
          refine lv_goto (tgt := 90) hx hb dX10_met_59 (by decide) ?_
          exact m_ir hx hb hlk hr hR hS (Option.some.inj h).symm dX10_met_90
      · have h := mif_y h c43
        refine lv_aload_n hx hb dX10_met_46 rfl (lv_at hl 1 rfl) ?_
        refine m_g9_24 hx hb hF hown hR kd_96 mw_5_161 dX10_met_47 ?_
        refine lv_goto (tgt := 90) hx hb dX10_met_50 (by decide) ?_
        exact m_ir hx hb hlk hr hR hS (Option.some.inj h).symm dX10_met_90
    · have h := mif_y h c15
      refine lv_iconst (v := (-1)) hx hb dX10_met_18 (by decide) ?_
      exact m_ir hx hb hlk hr hR hS (Option.some.inj h).symm dX10_met_19
theorem c_X10_met (l : Launch) (X : mX) (i1 : Int32) (i2 : Int32) (M : mM) {r : Int32 × mM} (h : f_X10_met i1 i2 M = some r) : mMi l yX10_met cX10_met 4 (some .int) 6 143 X [.ref (X.1 96), .int i1, .int i2] M r := m_ofi (by decide +kernel) (Nat.le_of_ble_eq_true rfl) rfl (fun p e s m args below meth c hs => w_X10_met hs i1 i2 M h)
set_option maxRecDepth 100000 in
set_option maxHeartbeats 4000000 in
theorem w_X10_isPlan_b200 {l : Launch} {X : mX} {p : Program} {e : Env} {s : State} {m : MethodId} {args : Array Value} {below : List Frame} {meth : Method} {c : Code} {r : Int32 × mM} (hs : mS X RX10 cX10_isPlan 5 (some .boolean) p s m meth c) : ∀ n : Nat, ∀ (i3 : Int32) (i4 : Int32) (M : mM), f_X10_isPlan_b200 n i3 i4 M = some r → mG X p l e (rmF 7 163) s m args below meth c (MQ below (mQi X r.2 r.1) args s 0 0 (mL X)) 5 200 [(0, .ref (X.1 96)), (3, .int i3), (4, .int i4)] [] M := by
  obtain ⟨hx, hb, hml, hown, hF, hlk, hr⟩ := id hs
  intro n
  induction n with
  | zero =>
    intro i3 i4 M h
    have h0 : (none : Option (Int32 × mM)) = some r := h
    cases h0
  | succ n ih =>
    intro i3 i4 M h H locs ls hR hS hl
    refine lv_iload hx hb dX10_isPlan_200 (lv_at hl 2 rfl) ?_
    refine lv_if_lt (tgt := 222) hx hb dX10_isPlan_202 (by decide) (fun c202 => ?_) (fun c202 => ?_)
    · have h := mif_y h c202
      refine lv_iload_n hx hb dX10_isPlan_222 rfl (lv_at hl 1 rfl) ?_
      obtain ⟨g223, h⟩ := mgd_e h
      exact m_zr hx hb hlk hr hR hS g223 (Option.some.inj h).symm dX10_isPlan_223
    · have h := mif_n h c202
      refine lv_aload_n hx hb dX10_isPlan_205 rfl (lv_at hl 0 rfl) ?_
      refine lv_aload_n hx hb dX10_isPlan_206 rfl (lv_at hl 0 rfl) ?_
      refine m_g9_25 hx hb hF hown hR kd_96 mw_5_162 dX10_isPlan_207 ?_
      refine lv_iload hx hb dX10_isPlan_210 (lv_at hl 2 rfl) ?_
      obtain ⟨g212, h⟩ := mgd_e h
      refine m_ialdL hx hb hR kd_106 g212 (jn := (Int32.toNatClampNeg i4)) rfl dX10_isPlan_212 ?_
      obtain ⟨M213, q213, h⟩ := mbp_e h
      refine m_cv (m_rV hx hb hml hown hF hR hS (ent9 kd_96) kd_96 rfl (c_X10_comesBack l X (M.1 106 (Int32.toNatClampNeg i4)) M q213) q_X10_266_V hdV_X10_comesBack ⟨Nat.le_of_ble_eq_true rfl, Nat.le_of_ble_eq_true rfl⟩ rfl hl.1 rfl (Nat.le_of_ble_eq_true rfl) dX10_isPlan_213) hS (fun H locs hR hS => ?_)
      obtain ⟨x216, ex216⟩ : ∃ y : Int32, y = (i4 + (-1)) := ⟨_, rfl⟩
      have h := mlt_n h x216 ex216
      refine lv_iinc (v := x216) (lv' := [(4, .int x216), (0, .ref (X.1 96)), (3, .int i3)]) hx hb dX10_isPlan_216 hl (k := 2) rfl (by rw [ex216]; rfl) (by decide) rfl (fun ls hl => ?_)
      refine lv_goto (tgt := 200) hx hb dX10_isPlan_219 (by decide) ?_
      exact ih i3 x216 M213 h H locs ls hR hS (lv_sub hl [1, 2, 0] rfl)
set_option maxRecDepth 100000 in
set_option maxHeartbeats 4000000 in
theorem w_X10_isPlan_b191 {l : Launch} {X : mX} {p : Program} {e : Env} {s : State} {m : MethodId} {args : Array Value} {below : List Frame} {meth : Method} {c : Code} {r : Int32 × mM} (hs : mS X RX10 cX10_isPlan 5 (some .boolean) p s m meth c) : ∀ (i1 : Int32) (i3 : Int32) (M : mM), f_X10_isPlan_b191 i1 i3 M = some r → mG X p l e (rmF 7 163) s m args below meth c (MQ below (mQi X r.2 r.1) args s 0 0 (mL X)) 5 191 [(0, .ref (X.1 96)), (1, .int i1), (3, .int i3)] [] M := by
  obtain ⟨hx, hb, hml, hown, hF, hlk, hr⟩ := id hs
  intro i1 i3 M h H locs ls hR hS hl
  refine lv_iload_n hx hb dX10_isPlan_191 rfl (lv_at hl 2 rfl) ?_
  refine lv_if_eq (tgt := 222) hx hb dX10_isPlan_192 (by decide) (fun c192 => ?_) (fun c192 => ?_)
  · have h := mif_y h c192
    refine lv_iload_n hx hb dX10_isPlan_222 rfl (lv_at hl 2 rfl) ?_
    obtain ⟨g223, h⟩ := mgd_e h
    exact m_zr hx hb hlk hr hR hS g223 (Option.some.inj h).symm dX10_isPlan_223
  · have h := mif_n h c192
    refine lv_iload_n hx hb dX10_isPlan_195 rfl (lv_at hl 1 rfl) ?_
    refine lv_iconst (v := 1) hx hb dX10_isPlan_196 (by decide) ?_
    refine lv_isub hx hb dX10_isPlan_197 ?_
    refine lv_istore (lv' := [(4, .int (i1 - 1)), (0, .ref (X.1 96)), (1, .int i1), (3, .int i3)]) hx hb dX10_isPlan_198 hl (by decide) rfl (fun ls hl => ?_)
    exact w_X10_isPlan_b200 hs mN i3 (i1 - 1) M h H locs ls hR hS (lv_sub hl [1, 3, 0] rfl)
set_option maxRecDepth 100000 in
set_option maxHeartbeats 4000000 in
theorem w_X10_isPlan_b91 {l : Launch} {X : mX} {p : Program} {e : Env} {s : State} {m : MethodId} {args : Array Value} {below : List Frame} {meth : Method} {c : Code} {r : Int32 × mM} (hs : mS X RX10 cX10_isPlan 5 (some .boolean) p s m meth c) (k43 : Int32 → Int32 → Int32 → mM → Option (Int32 × mM)) (hk43 : ∀ (i1 : Int32) (i2 : Int32) (i3 : Int32) (M : mM), k43 i1 i2 i3 M = some r → mG X p l e (rmF 7 163) s m args below meth c (MQ below (mQi X r.2 r.1) args s 0 0 (mL X)) 5 43 [(0, .ref (X.1 96)), (1, .int i1), (2, .int i2), (3, .int i3)] [] M) : ∀ (i1 : Int32) (i2 : Int32) (i3 : Int32) (s0 : Int32) (s1 : Int32) (s2 : Int32) (M : mM), f_X10_isPlan_b91 k43 i1 i2 i3 s0 s1 s2 M = some r → mG X p l e (rmF 7 163) s m args below meth c (MQ below (mQi X r.2 r.1) args s 0 0 (mL X)) 5 91 [(0, .ref (X.1 96)), (1, .int i1), (2, .int i2), (3, .int i3)] [.int s2, .int s1, .int s0] M := by
  obtain ⟨hx, hb, hml, hown, hF, hlk, hr⟩ := id hs
  intro i1 i2 i3 s0 s1 s2 M h H locs ls hR hS hl
  refine lv_imul hx hb dX10_isPlan_91 ?_
  refine lv_icmp_lt (tgt := 115) hx hb dX10_isPlan_92 (by decide) (fun c92 => ?_) (fun c92 => ?_)
  · have h := mif_y h c92
    refine lv_aload_n hx hb dX10_isPlan_115 rfl (lv_at hl 0 rfl) ?_
    refine lv_aload_n hx hb dX10_isPlan_116 rfl (lv_at hl 0 rfl) ?_
    refine m_g9_25 hx hb hF hown hR kd_96 mw_5_162 dX10_isPlan_117 ?_
    refine lv_iload_n hx hb dX10_isPlan_120 rfl (lv_at hl 2 rfl) ?_
    obtain ⟨g121, h⟩ := mgd_e h
    refine m_ialdL hx hb hR kd_106 g121 (jn := (Int32.toNatClampNeg i2)) rfl dX10_isPlan_121 ?_
    obtain ⟨v122, M122, q122, h⟩ := mbw_e h
    refine m_ci (m_rV hx hb hml hown hF hR hS (ent9 kd_96) kd_96 rfl (c_X10_canMove l X (M.1 106 (Int32.toNatClampNeg i2)) M q122) q_X10_196_V hdV_X10_canMove ⟨Nat.le_of_ble_eq_true rfl, Nat.le_of_ble_eq_true rfl⟩ rfl hl.1 rfl (Nat.le_of_ble_eq_true rfl) dX10_isPlan_122) hS (fun H locs hR hS => ?_)
    refine lv_if_ne (tgt := 131) hx hb dX10_isPlan_125 (by decide) (fun c125 => ?_) (fun c125 => ?_)
    · have h := mif_n h c125
      refine lv_aload_n hx hb dX10_isPlan_131 rfl (lv_at hl 0 rfl) ?_
      refine lv_aload_n hx hb dX10_isPlan_132 rfl (lv_at hl 0 rfl) ?_
      refine m_g9_25 hx hb hF hown hR kd_96 mw_5_162 dX10_isPlan_133 ?_
      refine lv_iload_n hx hb dX10_isPlan_136 rfl (lv_at hl 2 rfl) ?_
      obtain ⟨g137, h⟩ := mgd_e h
      refine m_ialdL hx hb hR kd_106 g137 (jn := (Int32.toNatClampNeg i2)) rfl dX10_isPlan_137 ?_
      obtain ⟨M138, q138, h⟩ := mbp_e h
      refine m_cv (m_rV hx hb hml hown hF hR hS (ent9 kd_96) kd_96 rfl (c_X10_goes l X (M122.1 106 (Int32.toNatClampNeg i2)) M122 q138) q_X10_199_V hdV_X10_goes ⟨Nat.le_of_ble_eq_true rfl, Nat.le_of_ble_eq_true rfl⟩ rfl hl.1 rfl (Nat.le_of_ble_eq_true rfl) dX10_isPlan_138) hS (fun H locs hR hS => ?_)
      refine lv_aload_n hx hb dX10_isPlan_141 rfl (lv_at hl 0 rfl) ?_
      obtain ⟨v142, q142, h⟩ := mbp_e h
      refine m_ci (m_rV hx hb hml hown hF hR hS (ent9 kd_96) kd_96 rfl (c_X10_outside l X M138 q142) q_X10_263_V hdV_X10_outside ⟨Nat.le_of_ble_eq_true rfl, Nat.le_of_ble_eq_true rfl⟩ rfl hl.1 rfl (Nat.le_of_ble_eq_true rfl) dX10_isPlan_142) hS (fun H locs hR hS => ?_)
      refine lv_iload_n hx hb dX10_isPlan_145 rfl (lv_at hl 1 rfl) ?_
      refine lv_iconst (v := 1) hx hb dX10_isPlan_146 (by decide) ?_
      refine lv_isub hx hb dX10_isPlan_147 ?_
      refine lv_iload_n hx hb dX10_isPlan_148 rfl (lv_at hl 2 rfl) ?_
      refine lv_isub hx hb dX10_isPlan_149 ?_
      refine lv_icmp_le (tgt := 166) hx hb dX10_isPlan_150 (by decide) (fun c150 => ?_) (fun c150 => ?_)
      · have h := mif_y h c150
        refine lv_iload_n hx hb dX10_isPlan_166 rfl (lv_at hl 2 rfl) ?_
        refine lv_iload_n hx hb dX10_isPlan_167 rfl (lv_at hl 1 rfl) ?_
        refine lv_iconst (v := 1) hx hb dX10_isPlan_168 (by decide) ?_
        refine lv_isub hx hb dX10_isPlan_169 ?_
        refine lv_icmp_ne (tgt := 178) hx hb dX10_isPlan_170 (by decide) (fun c170 => ?_) (fun c170 => ?_)
        · have h := mif_n h c170
          obtain ⟨x178, ex178⟩ : ∃ y : Int32, y = (i2 + 1) := ⟨_, rfl⟩
          have h := mlt_n h x178 ex178
          refine lv_iinc (v := x178) (lv' := [(2, .int x178), (0, .ref (X.1 96)), (1, .int i1), (3, .int i3)]) hx hb dX10_isPlan_178 hl (k := 2) rfl (by rw [ex178]; rfl) (by decide) rfl (fun ls hl => ?_)
          refine lv_aload_n hx hb dX10_isPlan_181 rfl (lv_at hl 1 rfl) ?_
          refine m_g9_25 hx hb hF hown hR kd_96 mw_5_162 dX10_isPlan_182 ?_
          refine lv_iload_n hx hb dX10_isPlan_185 rfl (lv_at hl 0 rfl) ?_
          refine lv_iconst (v := (-1)) hx hb dX10_isPlan_186 (by decide) ?_
          obtain ⟨g187, h⟩ := mgd_e h
          obtain ⟨M187, eM187⟩ : ∃ y : mM, y = mI M138 106 (Int32.toNatClampNeg x178) (-1) := ⟨_, rfl⟩
          have h := mlt_n h M187 eM187
          refine m_iastL hx hb hR hS kd_106 g187 (jn := (Int32.toNatClampNeg x178)) rfl dX10_isPlan_187 eM187 (fun H locs hR hS => ?_)
          refine lv_goto (tgt := 43) hx hb dX10_isPlan_188 (by decide) ?_
          exact hk43 i1 x178 i3 M187 h H locs ls hR hS (lv_sub hl [1, 2, 0, 3] rfl)
        · have h := mif_y h c170
          refine lv_iconst (v := 1) hx hb dX10_isPlan_173 (by decide) ?_
          refine lv_istore_n (lv' := [(3, .int 1), (0, .ref (X.1 96)), (1, .int i1), (2, .int i2)]) hx hb dX10_isPlan_174 rfl hl (by decide) rfl (fun ls hl => ?_)
          refine lv_goto (tgt := 43) hx hb dX10_isPlan_175 (by decide) ?_
          exact hk43 i1 i2 1 M138 h H locs ls hR hS (lv_sub hl [1, 2, 3, 0] rfl)
      · have h := mif_n h c150
        refine lv_aload_n hx hb dX10_isPlan_153 rfl (lv_at hl 0 rfl) ?_
        refine lv_aload_n hx hb dX10_isPlan_154 rfl (lv_at hl 0 rfl) ?_
        refine m_g9_25 hx hb hF hown hR kd_96 mw_5_162 dX10_isPlan_155 ?_
        refine lv_iload_n hx hb dX10_isPlan_158 rfl (lv_at hl 2 rfl) ?_
        obtain ⟨g159, h⟩ := mgd_e h
        refine m_ialdL hx hb hR kd_106 g159 (jn := (Int32.toNatClampNeg i2)) rfl dX10_isPlan_159 ?_
        obtain ⟨M160, q160, h⟩ := mbp_e h
        refine m_cv (m_rV hx hb hml hown hF hR hS (ent9 kd_96) kd_96 rfl (c_X10_comesBack l X (M138.1 106 (Int32.toNatClampNeg i2)) M138 q160) q_X10_266_V hdV_X10_comesBack ⟨Nat.le_of_ble_eq_true rfl, Nat.le_of_ble_eq_true rfl⟩ rfl hl.1 rfl (Nat.le_of_ble_eq_true rfl) dX10_isPlan_160) hS (fun H locs hR hS => ?_)
        refine lv_goto (tgt := 43) hx hb dX10_isPlan_163 (by decide) ?_
        exact hk43 i1 i2 i3 M160 h H locs ls hR hS (lv_sub hl [0, 1, 2, 3] rfl)
    · have h := mif_y h c125
      refine lv_goto (tgt := 43) hx hb dX10_isPlan_128 (by decide) ?_
      exact hk43 i1 i2 i3 M122 h H locs ls hR hS (lv_sub hl [0, 1, 2, 3] rfl)
  · have h := mif_n h c92
    obtain ⟨x95, ex95⟩ : ∃ y : Int32, y = (i2 + (-1)) := ⟨_, rfl⟩
    have h := mlt_n h x95 ex95
    refine lv_iinc (v := x95) (lv' := [(2, .int x95), (0, .ref (X.1 96)), (1, .int i1), (3, .int i3)]) hx hb dX10_isPlan_95 hl (k := 2) rfl (by rw [ex95]; rfl) (by decide) rfl (fun ls hl => ?_)
    refine lv_iload_n hx hb dX10_isPlan_98 rfl (lv_at hl 0 rfl) ?_
    refine lv_if_lt (tgt := 43) hx hb dX10_isPlan_99 (by decide) (fun c99 => ?_) (fun c99 => ?_)
    · have h := mif_y h c99
      exact hk43 i1 x95 i3 M h H locs ls hR hS (lv_sub hl [1, 2, 0, 3] rfl)
    · have h := mif_n h c99
      refine lv_aload_n hx hb dX10_isPlan_102 rfl (lv_at hl 1 rfl) ?_
      refine lv_aload_n hx hb dX10_isPlan_103 rfl (lv_at hl 1 rfl) ?_
      refine m_g9_25 hx hb hF hown hR kd_96 mw_5_162 dX10_isPlan_104 ?_
      refine lv_iload_n hx hb dX10_isPlan_107 rfl (lv_at hl 0 rfl) ?_
      obtain ⟨g108, h⟩ := mgd_e h
      refine m_ialdL hx hb hR kd_106 g108 (jn := (Int32.toNatClampNeg x95)) rfl dX10_isPlan_108 ?_
      obtain ⟨M109, q109, h⟩ := mbp_e h
      refine m_cv (m_rV hx hb hml hown hF hR hS (ent9 kd_96) kd_96 rfl (c_X10_comesBack l X (M.1 106 (Int32.toNatClampNeg x95)) M q109) q_X10_266_V hdV_X10_comesBack ⟨Nat.le_of_ble_eq_true rfl, Nat.le_of_ble_eq_true rfl⟩ rfl hl.1 rfl (Nat.le_of_ble_eq_true rfl) dX10_isPlan_109) hS (fun H locs hR hS => ?_)
      refine lv_goto (tgt := 43) hx hb dX10_isPlan_112 (by decide) ?_
      exact hk43 i1 x95 i3 M109 h H locs ls hR hS (lv_sub hl [1, 2, 0, 3] rfl)
set_option maxRecDepth 100000 in
set_option maxHeartbeats 4000000 in
theorem w_X10_isPlan_b43 {l : Launch} {X : mX} {p : Program} {e : Env} {s : State} {m : MethodId} {args : Array Value} {below : List Frame} {meth : Method} {c : Code} {r : Int32 × mM} (hs : mS X RX10 cX10_isPlan 5 (some .boolean) p s m meth c) : ∀ n : Nat, ∀ (i1 : Int32) (i2 : Int32) (i3 : Int32) (M : mM), f_X10_isPlan_b43 n i1 i2 i3 M = some r → mG X p l e (rmF 7 163) s m args below meth c (MQ below (mQi X r.2 r.1) args s 0 0 (mL X)) 5 43 [(0, .ref (X.1 96)), (1, .int i1), (2, .int i2), (3, .int i3)] [] M := by
  obtain ⟨hx, hb, hml, hown, hF, hlk, hr⟩ := id hs
  intro n
  induction n with
  | zero =>
    intro i1 i2 i3 M h
    have h0 : (none : Option (Int32 × mM)) = some r := h
    cases h0
  | succ n ih =>
    intro i1 i2 i3 M h H locs ls hR hS hl
    refine lv_iload_n hx hb dX10_isPlan_43 rfl (lv_at hl 2 rfl) ?_
    refine lv_if_lt (tgt := 191) hx hb dX10_isPlan_44 (by decide) (fun c44 => ?_) (fun c44 => ?_)
    · have h := mif_y h c44
      exact w_X10_isPlan_b191 hs i1 i3 M h H locs ls hR hS (lv_sub hl [0, 1, 3] rfl)
    · have h := mif_n h c44
      refine lv_iload_n hx hb dX10_isPlan_47 rfl (lv_at hl 3 rfl) ?_
      refine lv_if_ne (tgt := 191) hx hb dX10_isPlan_48 (by decide) (fun c48 => ?_) (fun c48 => ?_)
      · have h := mif_n h c48
        exact w_X10_isPlan_b191 hs i1 i3 M h H locs ls hR hS (lv_sub hl [0, 1, 3] rfl)
      · have h := mif_y h c48
        refine lv_aload_n hx hb dX10_isPlan_51 rfl (lv_at hl 0 rfl) ?_
        refine m_g9_25 hx hb hF hown hR kd_96 mw_5_162 dX10_isPlan_52 ?_
        refine lv_iload_n hx hb dX10_isPlan_55 rfl (lv_at hl 2 rfl) ?_
        refine lv_dup2_11 hx hb dX10_isPlan_56 rfl rfl ?_
        obtain ⟨g57, h⟩ := mgd_e h
        refine m_ialdL hx hb hR kd_106 g57 (jn := (Int32.toNatClampNeg i2)) rfl dX10_isPlan_57 ?_
        refine lv_iconst (v := 1) hx hb dX10_isPlan_58 (by decide) ?_
        refine lv_iadd hx hb dX10_isPlan_59 ?_
        obtain ⟨g60, h⟩ := mgd_e h
        obtain ⟨M60, eM60⟩ : ∃ y : mM, y = mI M 106 (Int32.toNatClampNeg i2) ((M.1 106 (Int32.toNatClampNeg i2)) + 1) := ⟨_, rfl⟩
        have h := mlt_n h M60 eM60
        refine m_iastL hx hb hR hS kd_106 g60 (jn := (Int32.toNatClampNeg i2)) rfl dX10_isPlan_60 eM60 (fun H locs hR hS => ?_)
        refine lv_aload_n hx hb dX10_isPlan_61 rfl (lv_at hl 0 rfl) ?_
        refine m_g9_25 hx hb hF hown hR kd_96 mw_5_162 dX10_isPlan_62 ?_
        refine lv_iload_n hx hb dX10_isPlan_65 rfl (lv_at hl 2 rfl) ?_
        obtain ⟨g66, h⟩ := mgd_e h
        refine m_ialdL hx hb hR kd_106 g66 (jn := (Int32.toNatClampNeg i2)) rfl dX10_isPlan_66 ?_
        refine lv_bipush (v := 8) hx hb dX10_isPlan_67 (by decide) ?_
        refine lv_aload_n hx hb dX10_isPlan_69 rfl (lv_at hl 0 rfl) ?_
        refine m_g9_1 hx hb hF hown hR kd_96 mw_5_138 dX10_isPlan_70 ?_
        refine lv_iconst (v := 0) hx hb dX10_isPlan_73 (by decide) ?_
        refine m_ialdL hx hb hR kd_97 (show mIn 0 1834 from by decide) (jn := 0) (by decide) dX10_isPlan_74 ?_
        refine lv_bipush (v := 8) hx hb dX10_isPlan_75 (by decide) ?_
        refine lv_icmp_ge (tgt := 89) hx hb dX10_isPlan_77 (by decide) (fun c77 => ?_) (fun c77 => ?_)
        · have h := mif_y h c77
          refine lv_bipush (v := 8) hx hb dX10_isPlan_89 (by decide) ?_
          exact w_X10_isPlan_b91 hs (f_X10_isPlan_b43 n) ih i1 i2 i3 (M60.1 106 (Int32.toNatClampNeg i2)) 8 8 M60 h H locs ls hR hS (lv_sub hl [0, 1, 2, 3] rfl)
        · have h := mif_n h c77
          refine lv_aload_n hx hb dX10_isPlan_80 rfl (lv_at hl 0 rfl) ?_
          refine m_g9_1 hx hb hF hown hR kd_96 mw_5_138 dX10_isPlan_81 ?_
          refine lv_iconst (v := 0) hx hb dX10_isPlan_84 (by decide) ?_
          refine m_ialdL hx hb hR kd_97 (show mIn 0 1834 from by decide) (jn := 0) (by decide) dX10_isPlan_85 ?_
          refine lv_goto (tgt := 91) hx hb dX10_isPlan_86 (by decide) ?_
          exact w_X10_isPlan_b91 hs (f_X10_isPlan_b43 n) ih i1 i2 i3 (M60.1 106 (Int32.toNatClampNeg i2)) 8 (M60.1 97 0) M60 h H locs ls hR hS (lv_sub hl [0, 1, 2, 3] rfl)
set_option maxRecDepth 100000 in
set_option maxHeartbeats 4000000 in
theorem w_X10_isPlan {l : Launch} {X : mX} {p : Program} {e : Env} {s : State} {m : MethodId} {args : Array Value} {below : List Frame} {meth : Method} {c : Code} {r : Int32 × mM} (hs : mS X RX10 cX10_isPlan 5 (some .boolean) p s m meth c) : ∀ (i1 : Int32) (M : mM), f_X10_isPlan i1 M = some r → mG X p l e (rmF 7 163) s m args below meth c (MQ below (mQi X r.2 r.1) args s 0 0 (mL X)) 5 0 [(0, .ref (X.1 96)), (1, .int i1)] [] M := by
  obtain ⟨hx, hb, hml, hown, hF, hlk, hr⟩ := id hs
  intro i1 M h H locs ls hR hS hl
  refine lv_aload_n hx hb dX10_isPlan_0 rfl (lv_at hl 0 rfl) ?_
  refine m_g9_24 hx hb hF hown hR kd_96 mw_5_161 dX10_isPlan_1 ?_
  refine lv_aload_n hx hb dX10_isPlan_4 rfl (lv_at hl 0 rfl) ?_
  refine m_g9_1 hx hb hF hown hR kd_96 mw_5_138 dX10_isPlan_5 ?_
  refine lv_iconst (v := 0) hx hb dX10_isPlan_8 (by decide) ?_
  refine m_ialdL hx hb hR kd_97 (show mIn 0 1834 from by decide) (jn := 0) (by decide) dX10_isPlan_9 ?_
  refine lv_icmp_eq (tgt := 15) hx hb dX10_isPlan_10 (by decide) (fun c10 => ?_) (fun c10 => ?_)
  · have h := mif_y h c10
    refine lv_iconst (v := 0) hx hb dX10_isPlan_15 (by decide) ?_
    refine lv_istore_n (lv' := [(2, .int 0), (0, .ref (X.1 96)), (1, .int i1)]) hx hb dX10_isPlan_16 rfl hl (by decide) rfl (fun ls hl => ?_)
    refine lv_aload_n hx hb dX10_isPlan_17 rfl (lv_at hl 1 rfl) ?_
    refine m_g9_25 hx hb hF hown hR kd_96 mw_5_162 dX10_isPlan_18 ?_
    refine lv_iconst (v := 0) hx hb dX10_isPlan_21 (by decide) ?_
    refine lv_iconst (v := (-1)) hx hb dX10_isPlan_22 (by decide) ?_
    obtain ⟨M23, eM23⟩ : ∃ y : mM, y = mI M 106 0 (-1) := ⟨_, rfl⟩
    have h := mlt_n h M23 eM23
    refine m_iastL hx hb hR hS kd_106 (show mIn 0 4 from by decide) (jn := 0) (by decide) dX10_isPlan_23 eM23 (fun H locs hR hS => ?_)
    refine lv_iload_n hx hb dX10_isPlan_24 rfl (lv_at hl 2 rfl) ?_
    refine lv_if_ne (tgt := 41) hx hb dX10_isPlan_25 (by decide) (fun c25 => ?_) (fun c25 => ?_)
    · have h := mif_n h c25
      refine lv_iconst (v := 0) hx hb dX10_isPlan_41 (by decide) ?_
      refine lv_istore_n (lv' := [(3, .int 0), (2, .int 0), (0, .ref (X.1 96)), (1, .int i1)]) hx hb dX10_isPlan_42 rfl hl (by decide) rfl (fun ls hl => ?_)
      exact w_X10_isPlan_b43 hs mN i1 0 0 M23 h H locs ls hR hS (lv_sub hl [2, 3, 1, 0] rfl)
    · have h := mif_y h c25
      refine lv_aload_n hx hb dX10_isPlan_28 rfl (lv_at hl 1 rfl) ?_
      obtain ⟨v29, q29, h⟩ := mbp_e h
      refine m_ci (m_rV hx hb hml hown hF hR hS (ent9 kd_96) kd_96 rfl (c_X10_outside l X M23 q29) q_X10_263_V hdV_X10_outside ⟨Nat.le_of_ble_eq_true rfl, Nat.le_of_ble_eq_true rfl⟩ rfl hl.1 rfl (Nat.le_of_ble_eq_true rfl) dX10_isPlan_29) hS (fun H locs hR hS => ?_)
      refine lv_if_ne (tgt := 39) hx hb dX10_isPlan_32 (by decide) (fun c32 => ?_) (fun c32 => ?_)
      · have h := mif_n h c32
        refine lv_iconst (v := 0) hx hb dX10_isPlan_39 (by decide) ?_
        exact m_zr hx hb hlk hr hR hS (Or.inl rfl) (Option.some.inj h).symm dX10_isPlan_40
      · have h := mif_y h c32
        refine lv_iconst (v := 1) hx hb dX10_isPlan_35 (by decide) ?_
        refine lv_goto (tgt := 40) hx hb dX10_isPlan_36 (by decide) ?_
        exact m_zr hx hb hlk hr hR hS (Or.inr rfl) (Option.some.inj h).symm dX10_isPlan_40
  · have h := mif_n h c10
    refine lv_iconst (v := 0) hx hb dX10_isPlan_13 (by decide) ?_
    exact m_zr hx hb hlk hr hR hS (Or.inl rfl) (Option.some.inj h).symm dX10_isPlan_14
theorem c_X10_isPlan (l : Launch) (X : mX) (i1 : Int32) (M : mM) {r : Int32 × mM} (h : f_X10_isPlan i1 M = some r) : mMi l yX10_isPlan cX10_isPlan 5 (some .boolean) 7 163 X [.ref (X.1 96), .int i1] M r := m_ofi (by decide +kernel) (Nat.le_of_ble_eq_true rfl) rfl (fun p e s m args below meth c hs => w_X10_isPlan hs i1 M h)
set_option maxRecDepth 100000 in
set_option maxHeartbeats 4000000 in
theorem w_X10_planIn_b7 {l : Launch} {X : mX} {p : Program} {e : Env} {s : State} {m : MethodId} {args : Array Value} {below : List Frame} {meth : Method} {c : Code} {r : Int32 × mM} (hs : mS X RX10 cX10_planIn 4 (some .int) p s m meth c) : ∀ n : Nat, ∀ (i2 : Int32) (i3 : Int32) (M : mM), f_X10_planIn_b7 n i2 i3 M = some r → mG X p l e (rmF 8 187) s m args below meth c (MQ below (mQi X r.2 r.1) args s 0 0 (mL X)) 4 7 [(0, .ref (X.1 96)), (2, .int i2), (3, .int i3)] [] M := by
  obtain ⟨hx, hb, hml, hown, hF, hlk, hr⟩ := id hs
  intro n
  induction n with
  | zero =>
    intro i2 i3 M h
    have h0 : (none : Option (Int32 × mM)) = some r := h
    cases h0
  | succ n ih =>
    intro i2 i3 M h H locs ls hR hS hl
    refine lv_iload_n hx hb dX10_planIn_7 rfl (lv_at hl 2 rfl) ?_
    refine lv_iload_n hx hb dX10_planIn_8 rfl (lv_at hl 1 rfl) ?_
    refine lv_icmp_gt (tgt := 28) hx hb dX10_planIn_9 (by decide) (fun c9 => ?_) (fun c9 => ?_)
    · have h := mif_y h c9
      refine lv_bipush (v := (-4)) hx hb dX10_planIn_28 (by decide) ?_
      exact m_ir hx hb hlk hr hR hS (Option.some.inj h).symm dX10_planIn_30
    · have h := mif_n h c9
      refine lv_aload_n hx hb dX10_planIn_12 rfl (lv_at hl 0 rfl) ?_
      refine lv_iload_n hx hb dX10_planIn_13 rfl (lv_at hl 2 rfl) ?_
      obtain ⟨v14, M14, q14, h⟩ := mbw_e h
      refine m_ci (m_rV hx hb hml hown hF hR hS (ent9 kd_96) kd_96 rfl (c_X10_isPlan l X i3 M q14) q_X10_269_V hdV_X10_isPlan ⟨Nat.le_of_ble_eq_true rfl, Nat.le_of_ble_eq_true rfl⟩ rfl hl.1 rfl (Nat.le_of_ble_eq_true rfl) dX10_planIn_14) hS (fun H locs hR hS => ?_)
      refine lv_if_eq (tgt := 22) hx hb dX10_planIn_17 (by decide) (fun c17 => ?_) (fun c17 => ?_)
      · have h := mif_y h c17
        obtain ⟨x22, ex22⟩ : ∃ y : Int32, y = (i3 + 1) := ⟨_, rfl⟩
        have h := mlt_n h x22 ex22
        refine lv_iinc (v := x22) (lv' := [(3, .int x22), (0, .ref (X.1 96)), (2, .int i2)]) hx hb dX10_planIn_22 hl (k := 2) rfl (by rw [ex22]; rfl) (by decide) rfl (fun ls hl => ?_)
        refine lv_goto (tgt := 7) hx hb dX10_planIn_25 (by decide) ?_
        exact ih i2 x22 M14 h H locs ls hR hS (lv_sub hl [1, 2, 0] rfl)
      · have h := mif_n h c17
        refine lv_iload_n hx hb dX10_planIn_20 rfl (lv_at hl 2 rfl) ?_
        exact m_ir hx hb hlk hr hR hS (Option.some.inj h).symm dX10_planIn_21
set_option maxRecDepth 100000 in
set_option maxHeartbeats 4000000 in
theorem w_X10_planIn {l : Launch} {X : mX} {p : Program} {e : Env} {s : State} {m : MethodId} {args : Array Value} {below : List Frame} {meth : Method} {c : Code} {r : Int32 × mM} (hs : mS X RX10 cX10_planIn 4 (some .int) p s m meth c) : ∀ (i1 : Int32) (i2 : Int32) (M : mM), f_X10_planIn i1 i2 M = some r → mG X p l e (rmF 8 187) s m args below meth c (MQ below (mQi X r.2 r.1) args s 0 0 (mL X)) 4 0 [(0, .ref (X.1 96)), (1, .int i1), (2, .int i2)] [] M := by
  obtain ⟨hx, hb, hml, hown, hF, hlk, hr⟩ := id hs
  intro i1 i2 M h H locs ls hR hS hl
  refine lv_aload_n hx hb dX10_planIn_0 rfl (lv_at hl 0 rfl) ?_
  refine lv_iload_n hx hb dX10_planIn_1 rfl (lv_at hl 1 rfl) ?_
  obtain ⟨M2, q2, h⟩ := mbp_e h
  refine m_cv (m_rV hx hb hml hown hF hR hS (ent9 kd_96) kd_96 rfl (c_X10_findGoal l X i1 M q2) q_X10_260_V hdV_X10_findGoal ⟨Nat.le_of_ble_eq_true rfl, Nat.le_of_ble_eq_true rfl⟩ rfl hl.1 rfl (Nat.le_of_ble_eq_true rfl) dX10_planIn_2) hS (fun H locs hR hS => ?_)
  refine lv_iconst (v := 0) hx hb dX10_planIn_5 (by decide) ?_
  refine lv_istore_n (lv' := [(3, .int 0), (0, .ref (X.1 96)), (1, .int i1), (2, .int i2)]) hx hb dX10_planIn_6 rfl hl (by decide) rfl (fun ls hl => ?_)
  exact w_X10_planIn_b7 hs mN i2 0 M2 h H locs ls hR hS (lv_sub hl [1, 3, 0] rfl)
theorem c_X10_planIn (l : Launch) (X : mX) (i1 : Int32) (i2 : Int32) (M : mM) {r : Int32 × mM} (h : f_X10_planIn i1 i2 M = some r) : mMi l yX10_planIn cX10_planIn 4 (some .int) 8 187 X [.ref (X.1 96), .int i1, .int i2] M r := m_ofi (by decide +kernel) (Nat.le_of_ble_eq_true rfl) rfl (fun p e s m args below meth c hs => w_X10_planIn hs i1 i2 M h)
set_option maxRecDepth 100000 in
set_option maxHeartbeats 4000000 in
theorem w_X10_plan {l : Launch} {X : mX} {p : Program} {e : Env} {s : State} {m : MethodId} {args : Array Value} {below : List Frame} {meth : Method} {c : Code} {r : Int32 × mM} (hs : mS X RX10 cX10_plan 3 (some .int) p s m meth c) : ∀ (i1 : Int32) (i2 : Int32) (M : mM), f_X10_plan i1 i2 M = some r → mG X p l e (rmF 9 210) s m args below meth c (MQ below (mQi X r.2 r.1) args s 0 0 (mL X)) 3 0 [(0, .ref (X.1 96)), (1, .int i1), (2, .int i2)] [] M := by
  obtain ⟨hx, hb, hml, hown, hF, hlk, hr⟩ := id hs
  intro i1 i2 M h H locs ls hR hS hl
  refine lv_aload_n hx hb dX10_plan_0 rfl (lv_at hl 0 rfl) ?_
  refine lv_iload_n hx hb dX10_plan_1 rfl (lv_at hl 1 rfl) ?_
  obtain ⟨v2, q2, h⟩ := mbp_e h
  refine m_ci (m_rV hx hb hml hown hF hR hS (ent9 kd_96) kd_96 rfl (c_X10_isShape l X i1 M q2) q_X10_254_V hdV_X10_isShape ⟨Nat.le_of_ble_eq_true rfl, Nat.le_of_ble_eq_true rfl⟩ rfl hl.1 rfl (Nat.le_of_ble_eq_true rfl) dX10_plan_2) hS (fun H locs hR hS => ?_)
  refine lv_if_eq (tgt := 27) hx hb dX10_plan_5 (by decide) (fun c5 => ?_) (fun c5 => ?_)
  · have h := mif_y h c5
    refine lv_iconst (v := (-1)) hx hb dX10_plan_27 (by decide) ?_
    exact m_ir hx hb hlk hr hR hS (Option.some.inj h).symm dX10_plan_28
  · have h := mif_n h c5
    refine lv_aload_n hx hb dX10_plan_8 rfl (lv_at hl 0 rfl) ?_
    refine lv_iload_n hx hb dX10_plan_9 rfl (lv_at hl 2 rfl) ?_
    refine lv_iconst (v := 0) hx hb dX10_plan_10 (by decide) ?_
    refine lv_iconst (v := 4) hx hb dX10_plan_11 (by decide) ?_
    refine m_ci (m_rV hx hb hml hown hF hR hS (ent9 kd_96) kd_96 rfl (c_X10_is l X i2 0 4 M) q_X10_121_V hdV_X10_is ⟨Nat.le_of_ble_eq_true rfl, Nat.le_of_ble_eq_true rfl⟩ rfl hl.1 rfl (Nat.le_of_ble_eq_true rfl) dX10_plan_12) hS (fun H locs hR hS => ?_)
    refine lv_if_eq (tgt := 27) hx hb dX10_plan_15 (by decide) (fun c15 => ?_) (fun c15 => ?_)
    · have h := mif_y h c15
      refine lv_iconst (v := (-1)) hx hb dX10_plan_27 (by decide) ?_
      exact m_ir hx hb hlk hr hR hS (Option.some.inj h).symm dX10_plan_28
    · have h := mif_n h c15
      refine lv_aload_n hx hb dX10_plan_18 rfl (lv_at hl 0 rfl) ?_
      refine lv_iload_n hx hb dX10_plan_19 rfl (lv_at hl 1 rfl) ?_
      refine lv_iload_n hx hb dX10_plan_20 rfl (lv_at hl 2 rfl) ?_
      obtain ⟨v21, M21, q21, h⟩ := mbw_e h
      refine m_ci (m_rV hx hb hml hown hF hR hS (ent9 kd_96) kd_96 rfl (c_X10_planIn l X i1 i2 M q21) q_X10_272_V hdV_X10_planIn ⟨Nat.le_of_ble_eq_true rfl, Nat.le_of_ble_eq_true rfl⟩ rfl hl.1 rfl (Nat.le_of_ble_eq_true rfl) dX10_plan_21) hS (fun H locs hR hS => ?_)
      refine lv_goto (tgt := 28) hx hb dX10_plan_24 (by decide) ?_
      exact m_ir hx hb hlk hr hR hS (Option.some.inj h).symm dX10_plan_28
theorem c_X10_plan (l : Launch) (X : mX) (i1 : Int32) (i2 : Int32) (M : mM) {r : Int32 × mM} (h : f_X10_plan i1 i2 M = some r) : mMi l yX10_plan cX10_plan 3 (some .int) 9 210 X [.ref (X.1 96), .int i1, .int i2] M r := m_ofi (by decide +kernel) (Nat.le_of_ble_eq_true rfl) rfl (fun p e s m args below meth c hs => w_X10_plan hs i1 i2 M h)
set_option maxRecDepth 100000 in
set_option maxHeartbeats 4000000 in
theorem w_X10_planned {l : Launch} {X : mX} {p : Program} {e : Env} {s : State} {m : MethodId} {args : Array Value} {below : List Frame} {meth : Method} {c : Code} {r : Int32 × mM} (hs : mS X RX10 cX10_planned 5 (some .int) p s m meth c) : ∀ (i1 : Int32) (i2 : Int32) (i3 : Int32) (M : mM), f_X10_planned i1 i2 i3 M = some r → mG X p l e (rmF 9 210) s m args below meth c (MQ below (mQi X r.2 r.1) args s 0 0 (mL X)) 5 0 [(0, .ref (X.1 96)), (1, .int i1), (2, .int i2), (3, .int i3)] [] M := by
  obtain ⟨hx, hb, hml, hown, hF, hlk, hr⟩ := id hs
  intro i1 i2 i3 M h H locs ls hR hS hl
  refine lv_aload_n hx hb dX10_planned_0 rfl (lv_at hl 0 rfl) ?_
  refine lv_iload_n hx hb dX10_planned_1 rfl (lv_at hl 1 rfl) ?_
  obtain ⟨v2, q2, h⟩ := mbp_e h
  refine m_ci (m_rV hx hb hml hown hF hR hS (ent9 kd_96) kd_96 rfl (c_X10_isShape l X i1 M q2) q_X10_254_V hdV_X10_isShape ⟨Nat.le_of_ble_eq_true rfl, Nat.le_of_ble_eq_true rfl⟩ rfl hl.1 rfl (Nat.le_of_ble_eq_true rfl) dX10_planned_2) hS (fun H locs hR hS => ?_)
  refine lv_if_eq (tgt := 22) hx hb dX10_planned_5 (by decide) (fun c5 => ?_) (fun c5 => ?_)
  · have h := mif_y h c5
    refine lv_iconst (v := (-1)) hx hb dX10_planned_22 (by decide) ?_
    exact m_ir hx hb hlk hr hR hS (Option.some.inj h).symm dX10_planned_23
  · have h := mif_n h c5
    refine lv_aload_n hx hb dX10_planned_8 rfl (lv_at hl 0 rfl) ?_
    refine lv_iload_n hx hb dX10_planned_9 rfl (lv_at hl 2 rfl) ?_
    refine lv_iconst (v := 0) hx hb dX10_planned_10 (by decide) ?_
    refine lv_iconst (v := 4) hx hb dX10_planned_11 (by decide) ?_
    refine m_ci (m_rV hx hb hml hown hF hR hS (ent9 kd_96) kd_96 rfl (c_X10_is l X i2 0 4 M) q_X10_121_V hdV_X10_is ⟨Nat.le_of_ble_eq_true rfl, Nat.le_of_ble_eq_true rfl⟩ rfl hl.1 rfl (Nat.le_of_ble_eq_true rfl) dX10_planned_12) hS (fun H locs hR hS => ?_)
    refine lv_if_eq (tgt := 22) hx hb dX10_planned_15 (by decide) (fun c15 => ?_) (fun c15 => ?_)
    · have h := mif_y h c15
      refine lv_iconst (v := (-1)) hx hb dX10_planned_22 (by decide) ?_
      exact m_ir hx hb hlk hr hR hS (Option.some.inj h).symm dX10_planned_23
    · have h := mif_n h c15
      refine lv_iload_n hx hb dX10_planned_18 rfl (lv_at hl 3 rfl) ?_
      refine lv_if_ge (tgt := 24) hx hb dX10_planned_19 (by decide) (fun c19 => ?_) (fun c19 => ?_)
      · have h := mif_y h c19
        refine lv_aload_n hx hb dX10_planned_24 rfl (lv_at hl 0 rfl) ?_
        refine lv_iload_n hx hb dX10_planned_25 rfl (lv_at hl 1 rfl) ?_
        refine lv_iload_n hx hb dX10_planned_26 rfl (lv_at hl 2 rfl) ?_
        obtain ⟨v27, M27, q27, h⟩ := mbw_e h
        refine m_ci (m_rV hx hb hml hown hF hR hS (ent9 kd_96) kd_96 rfl (c_X10_planIn l X i1 i2 M q27) q_X10_272_V hdV_X10_planIn ⟨Nat.le_of_ble_eq_true rfl, Nat.le_of_ble_eq_true rfl⟩ rfl hl.1 rfl (Nat.le_of_ble_eq_true rfl) dX10_planned_27) hS (fun H locs hR hS => ?_)
        refine lv_istore (lv' := [(4, .int v27), (0, .ref (X.1 96)), (1, .int i1), (2, .int i2), (3, .int i3)]) hx hb dX10_planned_30 hl (by decide) rfl (fun ls hl => ?_)
        refine lv_iload hx hb dX10_planned_32 (lv_at hl 0 rfl) ?_
        refine lv_bipush (v := (-4)) hx hb dX10_planned_34 (by decide) ?_
        refine lv_icmp_eq (tgt := 45) hx hb dX10_planned_36 (by decide) (fun c36 => ?_) (fun c36 => ?_)
        · have h := mif_y h c36
          refine lv_bipush (v := (-4)) hx hb dX10_planned_45 (by decide) ?_
          refine lv_goto (tgt := 56) hx hb dX10_planned_47 (by decide) ?_
          exact m_ir hx hb hlk hr hR hS (Option.some.inj h).symm dX10_planned_56
        · have h := mif_n h c36
          refine lv_iload_n hx hb dX10_planned_39 rfl (lv_at hl 4 rfl) ?_
          refine lv_iload hx hb dX10_planned_40 (lv_at hl 0 rfl) ?_
          refine lv_icmp_lt (tgt := 50) hx hb dX10_planned_42 (by decide) (fun c42 => ?_) (fun c42 => ?_)
          · have h := mif_y h c42
            refine lv_aload_n hx hb dX10_planned_50 rfl (lv_at hl 1 rfl) ?_
            refine m_g9_25 hx hb hF hown hR kd_96 mw_5_162 dX10_planned_51 ?_
            refine lv_iload_n hx hb dX10_planned_54 rfl (lv_at hl 4 rfl) ?_
            obtain ⟨g55, h⟩ := mgd_e h
            refine m_ialdL hx hb hR kd_106 g55 (jn := (Int32.toNatClampNeg i3)) rfl dX10_planned_55 ?_
            exact m_ir hx hb hlk hr hR hS (Option.some.inj h).symm dX10_planned_56
          · have h := mif_n h c42
            refine lv_bipush (v := (-4)) hx hb dX10_planned_45 (by decide) ?_
            refine lv_goto (tgt := 56) hx hb dX10_planned_47 (by decide) ?_
            exact m_ir hx hb hlk hr hR hS (Option.some.inj h).symm dX10_planned_56
      · have h := mif_n h c19
        refine lv_iconst (v := (-1)) hx hb dX10_planned_22 (by decide) ?_
        exact m_ir hx hb hlk hr hR hS (Option.some.inj h).symm dX10_planned_23
theorem c_X10_planned (l : Launch) (X : mX) (i1 : Int32) (i2 : Int32) (i3 : Int32) (M : mM) {r : Int32 × mM} (h : f_X10_planned i1 i2 i3 M = some r) : mMi l yX10_planned cX10_planned 5 (some .int) 9 210 X [.ref (X.1 96), .int i1, .int i2, .int i3] M r := m_ofi (by decide +kernel) (Nat.le_of_ble_eq_true rfl) rfl (fun p e s m args below meth c hs => w_X10_planned hs i1 i2 i3 M h)
set_option maxRecDepth 100000 in
set_option maxHeartbeats 4000000 in
theorem w_X10_judge_b121 {l : Launch} {X : mX} {p : Program} {e : Env} {s : State} {m : MethodId} {args : Array Value} {below : List Frame} {meth : Method} {c : Code} {r : Int32 × mM} (hs : mS X RX10 cX10_judge 4 (some .int) p s m meth c) : ∀ n : Nat, ∀ (i1 : Int32) (i2 : Int32) (i3 : Int32) (M : mM), f_X10_judge_b121 n i1 i2 i3 M = some r → mG X p l e (rmF 7 163) s m args below meth c (MQ below (mQi X r.2 r.1) args s 0 0 (mL X)) 4 121 [(0, .ref (X.1 96)), (1, .int i1), (2, .int i2), (3, .int i3)] [] M := by
  obtain ⟨hx, hb, hml, hown, hF, hlk, hr⟩ := id hs
  intro n
  induction n with
  | zero =>
    intro i1 i2 i3 M h
    have h0 : (none : Option (Int32 × mM)) = some r := h
    cases h0
  | succ n ih =>
    intro i1 i2 i3 M h H locs ls hR hS hl
    refine lv_iload_n hx hb dX10_judge_121 rfl (lv_at hl 3 rfl) ?_
    refine lv_if_lt (tgt := 146) hx hb dX10_judge_122 (by decide) (fun c122 => ?_) (fun c122 => ?_)
    · have h := mif_y h c122
      refine lv_iload_n hx hb dX10_judge_146 rfl (lv_at hl 2 rfl) ?_
      refine lv_aload_n hx hb dX10_judge_147 rfl (lv_at hl 0 rfl) ?_
      refine m_g9_33 hx hb hF hown hR kd_96 mw_5_170 dX10_judge_148 ?_
      refine lv_iload_n hx hb dX10_judge_151 rfl (lv_at hl 1 rfl) ?_
      obtain ⟨g152, h⟩ := mgd_e h
      refine m_ialdL hx hb hR kd_114 g152 (jn := (Int32.toNatClampNeg i1)) rfl dX10_judge_152 ?_
      refine lv_icmp_ne (tgt := 161) hx hb dX10_judge_153 (by decide) (fun c153 => ?_) (fun c153 => ?_)
      · have h := mif_n h c153
        refine lv_iload_n hx hb dX10_judge_161 rfl (lv_at hl 2 rfl) ?_
        exact m_ir hx hb hlk hr hR hS (Option.some.inj h).symm dX10_judge_162
      · have h := mif_y h c153
        refine lv_bipush (v := (-4)) hx hb dX10_judge_156 (by decide) ?_
        refine lv_goto (tgt := 162) hx hb dX10_judge_158 (by decide) ?_
        exact m_ir hx hb hlk hr hR hS (Option.some.inj h).symm dX10_judge_162
    · have h := mif_n h c122
      refine lv_aload_n hx hb dX10_judge_125 rfl (lv_at hl 0 rfl) ?_
      refine lv_aload_n hx hb dX10_judge_126 rfl (lv_at hl 0 rfl) ?_
      refine m_g9_34 hx hb hF hown hR kd_96 mw_5_171 dX10_judge_127 ?_
      refine lv_bipush (v := 90) hx hb dX10_judge_130 (by decide) ?_
      refine lv_iload_n hx hb dX10_judge_132 rfl (lv_at hl 1 rfl) ?_
      refine lv_imul hx hb dX10_judge_133 ?_
      refine lv_iload_n hx hb dX10_judge_134 rfl (lv_at hl 3 rfl) ?_
      refine lv_iadd hx hb dX10_judge_135 ?_
      obtain ⟨g136, h⟩ := mgd_e h
      refine m_ialdL hx hb hR kd_115 g136 (jn := (Int32.toNatClampNeg ((90 * i1) + i3))) rfl dX10_judge_136 ?_
      obtain ⟨M137, q137, h⟩ := mbp_e h
      refine m_cv (m_rV hx hb hml hown hF hR hS (ent9 kd_96) kd_96 rfl (c_X10_comesBack l X (M.1 115 (Int32.toNatClampNeg ((90 * i1) + i3))) M q137) q_X10_266_V hdV_X10_comesBack ⟨Nat.le_of_ble_eq_true rfl, Nat.le_of_ble_eq_true rfl⟩ rfl hl.1 rfl (Nat.le_of_ble_eq_true rfl) dX10_judge_137) hS (fun H locs hR hS => ?_)
      obtain ⟨x140, ex140⟩ : ∃ y : Int32, y = (i3 + (-1)) := ⟨_, rfl⟩
      have h := mlt_n h x140 ex140
      refine lv_iinc (v := x140) (lv' := [(3, .int x140), (0, .ref (X.1 96)), (1, .int i1), (2, .int i2)]) hx hb dX10_judge_140 hl (k := 3) rfl (by rw [ex140]; rfl) (by decide) rfl (fun ls hl => ?_)
      refine lv_goto (tgt := 121) hx hb dX10_judge_143 (by decide) ?_
      exact ih i1 i2 x140 M137 h H locs ls hR hS (lv_sub hl [1, 2, 3, 0] rfl)
set_option maxRecDepth 100000 in
set_option maxHeartbeats 4000000 in
theorem w_X10_judge_b50 {l : Launch} {X : mX} {p : Program} {e : Env} {s : State} {m : MethodId} {args : Array Value} {below : List Frame} {meth : Method} {c : Code} {r : Int32 × mM} (hs : mS X RX10 cX10_judge 4 (some .int) p s m meth c) : ∀ n : Nat, ∀ (i1 : Int32) (i2 : Int32) (M : mM), f_X10_judge_b50 n i1 i2 M = some r → mG X p l e (rmF 7 163) s m args below meth c (MQ below (mQi X r.2 r.1) args s 0 0 (mL X)) 4 50 [(0, .ref (X.1 96)), (1, .int i1), (2, .int i2)] [] M := by
  obtain ⟨hx, hb, hml, hown, hF, hlk, hr⟩ := id hs
  intro n
  induction n with
  | zero =>
    intro i1 i2 M h
    have h0 : (none : Option (Int32 × mM)) = some r := h
    cases h0
  | succ n ih =>
    intro i1 i2 M h H locs ls hR hS hl
    refine lv_iload_n hx hb dX10_judge_50 rfl (lv_at hl 2 rfl) ?_
    refine lv_aload_n hx hb dX10_judge_51 rfl (lv_at hl 0 rfl) ?_
    refine m_g9_33 hx hb hF hown hR kd_96 mw_5_170 dX10_judge_52 ?_
    refine lv_iload_n hx hb dX10_judge_55 rfl (lv_at hl 1 rfl) ?_
    obtain ⟨g56, h⟩ := mgd_e h
    refine m_ialdL hx hb hR kd_114 g56 (jn := (Int32.toNatClampNeg i1)) rfl dX10_judge_56 ?_
    refine lv_icmp_ge (tgt := 117) hx hb dX10_judge_57 (by decide) (fun c57 => ?_) (fun c57 => ?_)
    · have h := mif_y h c57
      refine lv_iload_n hx hb dX10_judge_117 rfl (lv_at hl 2 rfl) ?_
      refine lv_iconst (v := 1) hx hb dX10_judge_118 (by decide) ?_
      refine lv_isub hx hb dX10_judge_119 ?_
      refine lv_istore_n (lv' := [(3, .int (i2 - 1)), (0, .ref (X.1 96)), (1, .int i1), (2, .int i2)]) hx hb dX10_judge_120 rfl hl (by decide) rfl (fun ls hl => ?_)
      exact w_X10_judge_b121 hs mN i1 i2 (i2 - 1) M h H locs ls hR hS (lv_sub hl [1, 2, 3, 0] rfl)
    · have h := mif_n h c57
      refine lv_aload_n hx hb dX10_judge_60 rfl (lv_at hl 0 rfl) ?_
      refine lv_aload_n hx hb dX10_judge_61 rfl (lv_at hl 0 rfl) ?_
      refine m_g9_34 hx hb hF hown hR kd_96 mw_5_171 dX10_judge_62 ?_
      refine lv_bipush (v := 90) hx hb dX10_judge_65 (by decide) ?_
      refine lv_iload_n hx hb dX10_judge_67 rfl (lv_at hl 1 rfl) ?_
      refine lv_imul hx hb dX10_judge_68 ?_
      refine lv_iload_n hx hb dX10_judge_69 rfl (lv_at hl 2 rfl) ?_
      refine lv_iadd hx hb dX10_judge_70 ?_
      obtain ⟨g71, h⟩ := mgd_e h
      refine m_ialdL hx hb hR kd_115 g71 (jn := (Int32.toNatClampNeg ((90 * i1) + i2))) rfl dX10_judge_71 ?_
      obtain ⟨v72, q72, h⟩ := mbp_e h
      refine m_ci (m_rV hx hb hml hown hF hR hS (ent9 kd_96) kd_96 rfl (c_X10_isMove l X (M.1 115 (Int32.toNatClampNeg ((90 * i1) + i2))) M q72) q_X10_193_V hdV_X10_isMove ⟨Nat.le_of_ble_eq_true rfl, Nat.le_of_ble_eq_true rfl⟩ rfl hl.1 rfl (Nat.le_of_ble_eq_true rfl) dX10_judge_72) hS (fun H locs hR hS => ?_)
      refine lv_if_eq (tgt := 117) hx hb dX10_judge_75 (by decide) (fun c75 => ?_) (fun c75 => ?_)
      · have h := mif_y h c75
        refine lv_iload_n hx hb dX10_judge_117 rfl (lv_at hl 2 rfl) ?_
        refine lv_iconst (v := 1) hx hb dX10_judge_118 (by decide) ?_
        refine lv_isub hx hb dX10_judge_119 ?_
        refine lv_istore_n (lv' := [(3, .int (i2 - 1)), (0, .ref (X.1 96)), (1, .int i1), (2, .int i2)]) hx hb dX10_judge_120 rfl hl (by decide) rfl (fun ls hl => ?_)
        exact w_X10_judge_b121 hs mN i1 i2 (i2 - 1) M h H locs ls hR hS (lv_sub hl [1, 2, 3, 0] rfl)
      · have h := mif_n h c75
        refine lv_aload_n hx hb dX10_judge_78 rfl (lv_at hl 0 rfl) ?_
        refine lv_aload_n hx hb dX10_judge_79 rfl (lv_at hl 0 rfl) ?_
        refine m_g9_34 hx hb hF hown hR kd_96 mw_5_171 dX10_judge_80 ?_
        refine lv_bipush (v := 90) hx hb dX10_judge_83 (by decide) ?_
        refine lv_iload_n hx hb dX10_judge_85 rfl (lv_at hl 1 rfl) ?_
        refine lv_imul hx hb dX10_judge_86 ?_
        refine lv_iload_n hx hb dX10_judge_87 rfl (lv_at hl 2 rfl) ?_
        refine lv_iadd hx hb dX10_judge_88 ?_
        obtain ⟨g89, h⟩ := mgd_e h
        refine m_ialdL hx hb hR kd_115 g89 (jn := (Int32.toNatClampNeg ((90 * i1) + i2))) rfl dX10_judge_89 ?_
        obtain ⟨v90, M90, q90, h⟩ := mbw_e h
        refine m_ci (m_rV hx hb hml hown hF hR hS (ent9 kd_96) kd_96 rfl (c_X10_canMove l X (M.1 115 (Int32.toNatClampNeg ((90 * i1) + i2))) M q90) q_X10_196_V hdV_X10_canMove ⟨Nat.le_of_ble_eq_true rfl, Nat.le_of_ble_eq_true rfl⟩ rfl hl.1 rfl (Nat.le_of_ble_eq_true rfl) dX10_judge_90) hS (fun H locs hR hS => ?_)
        refine lv_if_eq (tgt := 117) hx hb dX10_judge_93 (by decide) (fun c93 => ?_) (fun c93 => ?_)
        · have h := mif_y h c93
          refine lv_iload_n hx hb dX10_judge_117 rfl (lv_at hl 2 rfl) ?_
          refine lv_iconst (v := 1) hx hb dX10_judge_118 (by decide) ?_
          refine lv_isub hx hb dX10_judge_119 ?_
          refine lv_istore_n (lv' := [(3, .int (i2 - 1)), (0, .ref (X.1 96)), (1, .int i1), (2, .int i2)]) hx hb dX10_judge_120 rfl hl (by decide) rfl (fun ls hl => ?_)
          exact w_X10_judge_b121 hs mN i1 i2 (i2 - 1) M90 h H locs ls hR hS (lv_sub hl [1, 2, 3, 0] rfl)
        · have h := mif_n h c93
          refine lv_aload_n hx hb dX10_judge_96 rfl (lv_at hl 0 rfl) ?_
          refine lv_aload_n hx hb dX10_judge_97 rfl (lv_at hl 0 rfl) ?_
          refine m_g9_34 hx hb hF hown hR kd_96 mw_5_171 dX10_judge_98 ?_
          refine lv_bipush (v := 90) hx hb dX10_judge_101 (by decide) ?_
          refine lv_iload_n hx hb dX10_judge_103 rfl (lv_at hl 1 rfl) ?_
          refine lv_imul hx hb dX10_judge_104 ?_
          refine lv_iload_n hx hb dX10_judge_105 rfl (lv_at hl 2 rfl) ?_
          refine lv_iadd hx hb dX10_judge_106 ?_
          obtain ⟨g107, h⟩ := mgd_e h
          refine m_ialdL hx hb hR kd_115 g107 (jn := (Int32.toNatClampNeg ((90 * i1) + i2))) rfl dX10_judge_107 ?_
          obtain ⟨M108, q108, h⟩ := mbp_e h
          refine m_cv (m_rV hx hb hml hown hF hR hS (ent9 kd_96) kd_96 rfl (c_X10_goes l X (M90.1 115 (Int32.toNatClampNeg ((90 * i1) + i2))) M90 q108) q_X10_199_V hdV_X10_goes ⟨Nat.le_of_ble_eq_true rfl, Nat.le_of_ble_eq_true rfl⟩ rfl hl.1 rfl (Nat.le_of_ble_eq_true rfl) dX10_judge_108) hS (fun H locs hR hS => ?_)
          obtain ⟨x111, ex111⟩ : ∃ y : Int32, y = (i2 + 1) := ⟨_, rfl⟩
          have h := mlt_n h x111 ex111
          refine lv_iinc (v := x111) (lv' := [(2, .int x111), (0, .ref (X.1 96)), (1, .int i1)]) hx hb dX10_judge_111 hl (k := 2) rfl (by rw [ex111]; rfl) (by decide) rfl (fun ls hl => ?_)
          refine lv_goto (tgt := 50) hx hb dX10_judge_114 (by decide) ?_
          exact ih i1 x111 M108 h H locs ls hR hS (lv_sub hl [1, 2, 0] rfl)
set_option maxRecDepth 100000 in
set_option maxHeartbeats 4000000 in
theorem w_X10_judge {l : Launch} {X : mX} {p : Program} {e : Env} {s : State} {m : MethodId} {args : Array Value} {below : List Frame} {meth : Method} {c : Code} {r : Int32 × mM} (hs : mS X RX10 cX10_judge 4 (some .int) p s m meth c) : ∀ (i1 : Int32) (M : mM), f_X10_judge i1 M = some r → mG X p l e (rmF 7 163) s m args below meth c (MQ below (mQi X r.2 r.1) args s 0 0 (mL X)) 4 0 [(0, .ref (X.1 96)), (1, .int i1)] [] M := by
  obtain ⟨hx, hb, hml, hown, hF, hlk, hr⟩ := id hs
  intro i1 M h H locs ls hR hS hl
  refine lv_aload_n hx hb dX10_judge_0 rfl (lv_at hl 0 rfl) ?_
  refine lv_iload_n hx hb dX10_judge_1 rfl (lv_at hl 1 rfl) ?_
  refine lv_iconst (v := 0) hx hb dX10_judge_2 (by decide) ?_
  refine lv_bipush (v := 7) hx hb dX10_judge_3 (by decide) ?_
  refine m_ci (m_rV hx hb hml hown hF hR hS (ent9 kd_96) kd_96 rfl (c_X10_is l X i1 0 7 M) q_X10_121_V hdV_X10_is ⟨Nat.le_of_ble_eq_true rfl, Nat.le_of_ble_eq_true rfl⟩ rfl hl.1 rfl (Nat.le_of_ble_eq_true rfl) dX10_judge_5) hS (fun H locs hR hS => ?_)
  refine lv_if_ne (tgt := 13) hx hb dX10_judge_8 (by decide) (fun c8 => ?_) (fun c8 => ?_)
  · have h := mif_n h c8
    refine lv_aload_n hx hb dX10_judge_13 rfl (lv_at hl 0 rfl) ?_
    refine m_g9_27 hx hb hF hown hR kd_96 mw_5_164 dX10_judge_14 ?_
    refine lv_iload_n hx hb dX10_judge_17 rfl (lv_at hl 1 rfl) ?_
    obtain ⟨g18, h⟩ := mgd_e h
    refine m_ialdL hx hb hR kd_108 g18 (jn := (Int32.toNatClampNeg i1)) rfl dX10_judge_18 ?_
    refine lv_if_ne (tgt := 25) hx hb dX10_judge_19 (by decide) (fun c19 => ?_) (fun c19 => ?_)
    · have h := mif_n h c19
      refine lv_aload_n hx hb dX10_judge_25 rfl (lv_at hl 0 rfl) ?_
      refine m_g9_27 hx hb hF hown hR kd_96 mw_5_164 dX10_judge_26 ?_
      refine lv_iload_n hx hb dX10_judge_29 rfl (lv_at hl 1 rfl) ?_
      obtain ⟨g30, h⟩ := mgd_e h
      refine m_ialdL hx hb hR kd_108 g30 (jn := (Int32.toNatClampNeg i1)) rfl dX10_judge_30 ?_
      refine lv_iconst (v := 2) hx hb dX10_judge_31 (by decide) ?_
      refine lv_icmp_ne (tgt := 45) hx hb dX10_judge_32 (by decide) (fun c32 => ?_) (fun c32 => ?_)
      · have h := mif_n h c32
        refine lv_bipush (v := (-12)) hx hb dX10_judge_45 (by decide) ?_
        exact m_ir hx hb hlk hr hR hS (Option.some.inj h).symm dX10_judge_47
      · have h := mif_y h c32
        refine lv_aload_n hx hb dX10_judge_35 rfl (lv_at hl 0 rfl) ?_
        refine m_g9_32 hx hb hF hown hR kd_96 mw_5_169 dX10_judge_36 ?_
        refine lv_iload_n hx hb dX10_judge_39 rfl (lv_at hl 1 rfl) ?_
        obtain ⟨g40, h⟩ := mgd_e h
        refine m_ialdL hx hb hR kd_113 g40 (jn := (Int32.toNatClampNeg i1)) rfl dX10_judge_40 ?_
        refine lv_iconst (v := 1) hx hb dX10_judge_41 (by decide) ?_
        refine lv_icmp_eq (tgt := 48) hx hb dX10_judge_42 (by decide) (fun c42 => ?_) (fun c42 => ?_)
        · have h := mif_y h c42
          refine lv_iconst (v := 0) hx hb dX10_judge_48 (by decide) ?_
          refine lv_istore_n (lv' := [(2, .int 0), (0, .ref (X.1 96)), (1, .int i1)]) hx hb dX10_judge_49 rfl hl (by decide) rfl (fun ls hl => ?_)
          exact w_X10_judge_b50 hs mN i1 0 M h H locs ls hR hS (lv_sub hl [1, 2, 0] rfl)
        · have h := mif_n h c42
          refine lv_bipush (v := (-12)) hx hb dX10_judge_45 (by decide) ?_
          exact m_ir hx hb hlk hr hR hS (Option.some.inj h).symm dX10_judge_47
    · have h := mif_y h c19
      refine lv_bipush (v := (-11)) hx hb dX10_judge_22 (by decide) ?_
      exact m_ir hx hb hlk hr hR hS (Option.some.inj h).symm dX10_judge_24
  · have h := mif_y h c8
    refine lv_iconst (v := (-1)) hx hb dX10_judge_11 (by decide) ?_
    exact m_ir hx hb hlk hr hR hS (Option.some.inj h).symm dX10_judge_12
theorem c_X10_judge (l : Launch) (X : mX) (i1 : Int32) (M : mM) {r : Int32 × mM} (h : f_X10_judge i1 M = some r) : mMi l yX10_judge cX10_judge 4 (some .int) 7 163 X [.ref (X.1 96), .int i1] M r := m_ofi (by decide +kernel) (Nat.le_of_ble_eq_true rfl) rfl (fun p e s m args below meth c hs => w_X10_judge hs i1 M h)
set_option maxRecDepth 100000 in
set_option maxHeartbeats 4000000 in
theorem w_X10_gives_b55 {l : Launch} {X : mX} {p : Program} {e : Env} {s : State} {m : MethodId} {args : Array Value} {below : List Frame} {meth : Method} {c : Code} {r : Int32 × mM} (hs : mS X RX10 cX10_gives 4 (some .int) p s m meth c) : ∀ (i3 : Int32) (s1 : Int32) (s2 : Int32) (M : mM), f_X10_gives_b55 i3 s1 s2 M = some r → mG X p l e (rmF 2 44) s m args below meth c (MQ below (mQi X r.2 r.1) args s 0 0 (mL X)) 4 55 [(3, .int i3)] [.int s2, .int s1, .ref (X.1 97)] M := by
  obtain ⟨hx, hb, hml, hown, hF, hlk, hr⟩ := id hs
  intro i3 s1 s2 M h H locs ls hR hS hl
  obtain ⟨g55, h⟩ := mgd_e h
  obtain ⟨M55, eM55⟩ : ∃ y : mM, y = mI M 97 (Int32.toNatClampNeg s1) s2 := ⟨_, rfl⟩
  have h := mlt_n h M55 eM55
  refine m_iastL hx hb hR hS kd_97 g55 (jn := (Int32.toNatClampNeg s1)) rfl dX10_gives_55 eM55 (fun H locs hR hS => ?_)
  refine lv_iload_n hx hb dX10_gives_56 rfl (lv_at hl 0 rfl) ?_
  exact m_ir hx hb hlk hr hR hS (Option.some.inj h).symm dX10_gives_57
set_option maxRecDepth 100000 in
set_option maxHeartbeats 4000000 in
theorem w_X10_gives {l : Launch} {X : mX} {p : Program} {e : Env} {s : State} {m : MethodId} {args : Array Value} {below : List Frame} {meth : Method} {c : Code} {r : Int32 × mM} (hs : mS X RX10 cX10_gives 4 (some .int) p s m meth c) : ∀ (i1 : Int32) (i2 : Int32) (M : mM), f_X10_gives i1 i2 M = some r → mG X p l e (rmF 2 44) s m args below meth c (MQ below (mQi X r.2 r.1) args s 0 0 (mL X)) 4 0 [(0, .ref (X.1 96)), (1, .int i1), (2, .int i2)] [] M := by
  obtain ⟨hx, hb, hml, hown, hF, hlk, hr⟩ := id hs
  intro i1 i2 M h H locs ls hR hS hl
  refine lv_aload_n hx hb dX10_gives_0 rfl (lv_at hl 0 rfl) ?_
  refine lv_iload_n hx hb dX10_gives_1 rfl (lv_at hl 1 rfl) ?_
  obtain ⟨v2, q2, h⟩ := mbp_e h
  refine m_ci (m_rV hx hb hml hown hF hR hS (ent9 kd_96) kd_96 rfl (c_X10_isCube l X i1 M q2) q_X10_161_V hdV_X10_isCube ⟨Nat.le_of_ble_eq_true rfl, Nat.le_of_ble_eq_true rfl⟩ rfl hl.1 rfl (Nat.le_of_ble_eq_true rfl) dX10_gives_2) hS (fun H locs hR hS => ?_)
  refine lv_if_eq (tgt := 25) hx hb dX10_gives_5 (by decide) (fun c5 => ?_) (fun c5 => ?_)
  · have h := mif_y h c5
    refine lv_iconst (v := (-1)) hx hb dX10_gives_25 (by decide) ?_
    exact m_ir hx hb hlk hr hR hS (Option.some.inj h).symm dX10_gives_26
  · have h := mif_n h c5
    refine lv_aload_n hx hb dX10_gives_8 rfl (lv_at hl 0 rfl) ?_
    refine lv_iload_n hx hb dX10_gives_9 rfl (lv_at hl 2 rfl) ?_
    refine lv_iconst (v := (-1)) hx hb dX10_gives_10 (by decide) ?_
    refine lv_aload_n hx hb dX10_gives_11 rfl (lv_at hl 0 rfl) ?_
    refine m_g9_1 hx hb hF hown hR kd_96 mw_5_138 dX10_gives_12 ?_
    refine lv_iconst (v := 2) hx hb dX10_gives_15 (by decide) ?_
    refine m_ialdL hx hb hR kd_97 (show mIn 2 1834 from by decide) (jn := 2) (by decide) dX10_gives_16 ?_
    refine lv_iconst (v := 1) hx hb dX10_gives_17 (by decide) ?_
    refine lv_isub hx hb dX10_gives_18 ?_
    refine m_ci (m_rV hx hb hml hown hF hR hS (ent9 kd_96) kd_96 rfl (c_X10_is l X i2 (-1) ((M.1 97 2) - 1) M) q_X10_121_V hdV_X10_is ⟨Nat.le_of_ble_eq_true rfl, Nat.le_of_ble_eq_true rfl⟩ rfl hl.1 rfl (Nat.le_of_ble_eq_true rfl) dX10_gives_19) hS (fun H locs hR hS => ?_)
    refine lv_if_ne (tgt := 27) hx hb dX10_gives_22 (by decide) (fun c22 => ?_) (fun c22 => ?_)
    · have h := mif_n h c22
      refine lv_aload_n hx hb dX10_gives_27 rfl (lv_at hl 0 rfl) ?_
      refine m_g9_1 hx hb hF hown hR kd_96 mw_5_138 dX10_gives_28 ?_
      refine lv_bipush (v := 122) hx hb dX10_gives_31 (by decide) ?_
      refine lv_iload_n hx hb dX10_gives_33 rfl (lv_at hl 1 rfl) ?_
      refine lv_iadd hx hb dX10_gives_34 ?_
      obtain ⟨g35, h⟩ := mgd_e h
      refine m_ialdL hx hb hR kd_97 g35 (jn := (Int32.toNatClampNeg (122 + i1))) rfl dX10_gives_35 ?_
      refine lv_topi (fun x36 ex36 => ?_)
      have h := mlt_n h x36 ex36
      refine lv_istore_n (lv' := [(3, .int x36), (0, .ref (X.1 96)), (1, .int i1), (2, .int i2)]) hx hb dX10_gives_36 rfl hl (by decide) rfl (fun ls hl => ?_)
      refine lv_aload_n hx hb dX10_gives_37 rfl (lv_at hl 1 rfl) ?_
      refine m_g9_1 hx hb hF hown hR kd_96 mw_5_138 dX10_gives_38 ?_
      refine lv_bipush (v := 122) hx hb dX10_gives_41 (by decide) ?_
      refine lv_iload_n hx hb dX10_gives_43 rfl (lv_at hl 2 rfl) ?_
      refine lv_iadd hx hb dX10_gives_44 ?_
      refine lv_iload_n hx hb dX10_gives_45 rfl (lv_at hl 3 rfl) ?_
      refine lv_if_ge (tgt := 54) hx hb dX10_gives_46 (by decide) (fun c46 => ?_) (fun c46 => ?_)
      · have h := mif_y h c46
        refine lv_iload_n hx hb dX10_gives_54 rfl (lv_at hl 3 rfl) ?_
        exact w_X10_gives_b55 hs x36 (122 + i1) i2 M h H locs ls hR hS (lv_sub hl [0] rfl)
      · have h := mif_n h c46
        refine lv_bipush (v := (-4)) hx hb dX10_gives_49 (by decide) ?_
        refine lv_goto (tgt := 55) hx hb dX10_gives_51 (by decide) ?_
        exact w_X10_gives_b55 hs x36 (122 + i1) (-4) M h H locs ls hR hS (lv_sub hl [0] rfl)
    · have h := mif_y h c22
      refine lv_iconst (v := (-1)) hx hb dX10_gives_25 (by decide) ?_
      exact m_ir hx hb hlk hr hR hS (Option.some.inj h).symm dX10_gives_26
theorem c_X10_gives (l : Launch) (X : mX) (i1 : Int32) (i2 : Int32) (M : mM) {r : Int32 × mM} (h : f_X10_gives i1 i2 M = some r) : mMi l yX10_gives cX10_gives 4 (some .int) 2 44 X [.ref (X.1 96), .int i1, .int i2] M r := m_ofi (by decide +kernel) (Nat.le_of_ble_eq_true rfl) rfl (fun p e s m args below meth c hs => w_X10_gives hs i1 i2 M h)
set_option maxRecDepth 100000 in
set_option maxHeartbeats 4000000 in
theorem w_X10_rule {l : Launch} {X : mX} {p : Program} {e : Env} {s : State} {m : MethodId} {args : Array Value} {below : List Frame} {meth : Method} {c : Code} {r : Int32 × mM} (hs : mS X RX10 cX10_rule 2 (some .int) p s m meth c) : ∀ (i1 : Int32) (M : mM), f_X10_rule i1 M = some r → mG X p l e (rmF 8 185) s m args below meth c (MQ below (mQi X r.2 r.1) args s 0 0 (mL X)) 2 0 [(0, .ref (X.1 96)), (1, .int i1)] [] M := by
  obtain ⟨hx, hb, hml, hown, hF, hlk, hr⟩ := id hs
  intro i1 M h H locs ls hR hS hl
  refine lv_aload_n hx hb dX10_rule_0 rfl (lv_at hl 0 rfl) ?_
  refine lv_iload_n hx hb dX10_rule_1 rfl (lv_at hl 1 rfl) ?_
  obtain ⟨v2, q2, h⟩ := mbp_e h
  refine m_ci (m_rV hx hb hml hown hF hR hS (ent9 kd_96) kd_96 rfl (c_X10_isCube l X i1 M q2) q_X10_161_V hdV_X10_isCube ⟨Nat.le_of_ble_eq_true rfl, Nat.le_of_ble_eq_true rfl⟩ rfl hl.1 rfl (Nat.le_of_ble_eq_true rfl) dX10_rule_2) hS (fun H locs hR hS => ?_)
  refine lv_if_ne (tgt := 10) hx hb dX10_rule_5 (by decide) (fun c5 => ?_) (fun c5 => ?_)
  · have h := mif_n h c5
    refine lv_aload_n hx hb dX10_rule_10 rfl (lv_at hl 0 rfl) ?_
    refine m_g9_1 hx hb hF hown hR kd_96 mw_5_138 dX10_rule_11 ?_
    refine lv_bipush (v := 74) hx hb dX10_rule_14 (by decide) ?_
    refine lv_iload_n hx hb dX10_rule_16 rfl (lv_at hl 1 rfl) ?_
    refine lv_iadd hx hb dX10_rule_17 ?_
    obtain ⟨g18, h⟩ := mgd_e h
    refine m_ialdL hx hb hR kd_97 g18 (jn := (Int32.toNatClampNeg (74 + i1))) rfl dX10_rule_18 ?_
    refine lv_iconst (v := 1) hx hb dX10_rule_19 (by decide) ?_
    refine lv_icmp_eq (tgt := 35) hx hb dX10_rule_20 (by decide) (fun c20 => ?_) (fun c20 => ?_)
    · have h := mif_y h c20
      refine lv_bipush (v := (-3)) hx hb dX10_rule_35 (by decide) ?_
      exact m_ir hx hb hlk hr hR hS (Option.some.inj h).symm dX10_rule_37
    · have h := mif_n h c20
      refine lv_aload_n hx hb dX10_rule_23 rfl (lv_at hl 0 rfl) ?_
      refine m_g9_1 hx hb hF hown hR kd_96 mw_5_138 dX10_rule_24 ?_
      refine lv_bipush (v := 122) hx hb dX10_rule_27 (by decide) ?_
      refine lv_iload_n hx hb dX10_rule_29 rfl (lv_at hl 1 rfl) ?_
      refine lv_iadd hx hb dX10_rule_30 ?_
      obtain ⟨g31, h⟩ := mgd_e h
      refine m_ialdL hx hb hR kd_97 g31 (jn := (Int32.toNatClampNeg (122 + i1))) rfl dX10_rule_31 ?_
      refine lv_if_ge (tgt := 38) hx hb dX10_rule_32 (by decide) (fun c32 => ?_) (fun c32 => ?_)
      · have h := mif_y h c32
        refine lv_aload_n hx hb dX10_rule_38 rfl (lv_at hl 0 rfl) ?_
        refine lv_bipush (v := 8) hx hb dX10_rule_39 (by decide) ?_
        refine lv_aload_n hx hb dX10_rule_41 rfl (lv_at hl 0 rfl) ?_
        refine m_g9_1 hx hb hF hown hR kd_96 mw_5_138 dX10_rule_42 ?_
        refine lv_bipush (v := 122) hx hb dX10_rule_45 (by decide) ?_
        refine lv_iload_n hx hb dX10_rule_47 rfl (lv_at hl 1 rfl) ?_
        refine lv_iadd hx hb dX10_rule_48 ?_
        obtain ⟨g49, h⟩ := mgd_e h
        refine m_ialdL hx hb hR kd_97 g49 (jn := (Int32.toNatClampNeg (122 + i1))) rfl dX10_rule_49 ?_
        refine lv_iadd hx hb dX10_rule_50 ?_
        refine lv_iload_n hx hb dX10_rule_51 rfl (lv_at hl 1 rfl) ?_
        obtain ⟨v52, M52, q52, h⟩ := mbw_e h
        refine m_ci (m_rV hx hb hml hown hF hR hS (ent9 kd_96) kd_96 rfl (c_X10_goesProgram l X (8 + (M.1 97 (Int32.toNatClampNeg (122 + i1)))) i1 M q52) q_X10_248_V hdV_X10_goesProgram ⟨Nat.le_of_ble_eq_true rfl, Nat.le_of_ble_eq_true rfl⟩ rfl hl.1 rfl (Nat.le_of_ble_eq_true rfl) dX10_rule_52) hS (fun H locs hR hS => ?_)
        refine lv_if_eq (tgt := 65) hx hb dX10_rule_55 (by decide) (fun c55 => ?_) (fun c55 => ?_)
        · have h := mif_y h c55
          refine lv_bipush (v := (-4)) hx hb dX10_rule_65 (by decide) ?_
          exact m_ir hx hb hlk hr hR hS (Option.some.inj h).symm dX10_rule_67
        · have h := mif_n h c55
          refine lv_aload_n hx hb dX10_rule_58 rfl (lv_at hl 0 rfl) ?_
          refine m_g9_18 hx hb hF hown hR kd_96 mw_5_155 dX10_rule_59 ?_
          refine lv_goto (tgt := 67) hx hb dX10_rule_62 (by decide) ?_
          exact m_ir hx hb hlk hr hR hS (Option.some.inj h).symm dX10_rule_67
      · have h := mif_n h c32
        refine lv_bipush (v := (-3)) hx hb dX10_rule_35 (by decide) ?_
        exact m_ir hx hb hlk hr hR hS (Option.some.inj h).symm dX10_rule_37
  · have h := mif_y h c5
    refine lv_iconst (v := (-1)) hx hb dX10_rule_8 (by decide) ?_
    exact m_ir hx hb hlk hr hR hS (Option.some.inj h).symm dX10_rule_9
theorem c_X10_rule (l : Launch) (X : mX) (i1 : Int32) (M : mM) {r : Int32 × mM} (h : f_X10_rule i1 M = some r) : mMi l yX10_rule cX10_rule 2 (some .int) 8 185 X [.ref (X.1 96), .int i1] M r := m_ofi (by decide +kernel) (Nat.le_of_ble_eq_true rfl) rfl (fun p e s m args below meth c hs => w_X10_rule hs i1 M h)
set_option maxRecDepth 100000 in
set_option maxHeartbeats 4000000 in
theorem w_X10_acts_b95 {l : Launch} {X : mX} {p : Program} {e : Env} {s : State} {m : MethodId} {args : Array Value} {below : List Frame} {meth : Method} {c : Code} {r : Int32 × mM} (hs : mS X RX10 cX10_acts 2 (some .boolean) p s m meth c) : ∀ (i1 : Int32) (M : mM), f_X10_acts_b95 i1 M = some r → mG X p l e (rmF 8 185) s m args below meth c (MQ below (mQi X r.2 r.1) args s 0 0 (mL X)) 2 95 [(0, .ref (X.1 96)), (1, .int i1)] [] M := by
  obtain ⟨hx, hb, hml, hown, hF, hlk, hr⟩ := id hs
  intro i1 M h H locs ls hR hS hl
  refine lv_aload_n hx hb dX10_acts_95 rfl (lv_at hl 0 rfl) ?_
  refine m_g9_19 hx hb hF hown hR kd_96 mw_5_156 dX10_acts_96 ?_
  refine lv_bipush (v := 103) hx hb dX10_acts_99 (by decide) ?_
  refine lv_icmp_ne (tgt := 120) hx hb dX10_acts_101 (by decide) (fun c101 => ?_) (fun c101 => ?_)
  · have h := mif_n h c101
    refine lv_iconst (v := 0) hx hb dX10_acts_120 (by decide) ?_
    exact m_zr hx hb hlk hr hR hS (Or.inl rfl) (Option.some.inj h).symm dX10_acts_121
  · have h := mif_y h c101
    refine lv_aload_n hx hb dX10_acts_104 rfl (lv_at hl 0 rfl) ?_
    refine lv_bipush (v := 8) hx hb dX10_acts_105 (by decide) ?_
    refine lv_iload_n hx hb dX10_acts_107 rfl (lv_at hl 1 rfl) ?_
    refine lv_imul hx hb dX10_acts_108 ?_
    refine lv_aload_n hx hb dX10_acts_109 rfl (lv_at hl 0 rfl) ?_
    refine m_g9_20 hx hb hF hown hR kd_96 mw_5_157 dX10_acts_110 ?_
    refine lv_iadd hx hb dX10_acts_113 ?_
    obtain ⟨v114, M114, q114, h⟩ := mbw_e h
    refine m_ci (m_rV hx hb hml hown hF hR hS (ent9 kd_96) kd_96 rfl (c_X10_canMove l X ((8 * i1) + (M.1 96 20)) M q114) q_X10_196_V hdV_X10_canMove ⟨Nat.le_of_ble_eq_true rfl, Nat.le_of_ble_eq_true rfl⟩ rfl hl.1 rfl (Nat.le_of_ble_eq_true rfl) dX10_acts_114) hS (fun H locs hR hS => ?_)
    refine lv_if_ne (tgt := 122) hx hb dX10_acts_117 (by decide) (fun c117 => ?_) (fun c117 => ?_)
    · have h := mif_n h c117
      refine lv_aload_n hx hb dX10_acts_122 rfl (lv_at hl 0 rfl) ?_
      refine lv_bipush (v := 8) hx hb dX10_acts_123 (by decide) ?_
      refine lv_iload_n hx hb dX10_acts_125 rfl (lv_at hl 1 rfl) ?_
      refine lv_imul hx hb dX10_acts_126 ?_
      refine lv_aload_n hx hb dX10_acts_127 rfl (lv_at hl 0 rfl) ?_
      refine m_g9_20 hx hb hF hown hR kd_96 mw_5_157 dX10_acts_128 ?_
      refine lv_iadd hx hb dX10_acts_131 ?_
      obtain ⟨M132, q132, h⟩ := mbp_e h
      refine m_cv (m_rV hx hb hml hown hF hR hS (ent9 kd_96) kd_96 rfl (c_X10_goes l X ((8 * i1) + (M114.1 96 20)) M114 q132) q_X10_199_V hdV_X10_goes ⟨Nat.le_of_ble_eq_true rfl, Nat.le_of_ble_eq_true rfl⟩ rfl hl.1 rfl (Nat.le_of_ble_eq_true rfl) dX10_acts_132) hS (fun H locs hR hS => ?_)
      refine lv_iconst (v := 1) hx hb dX10_acts_135 (by decide) ?_
      exact m_zr hx hb hlk hr hR hS (Or.inr rfl) (Option.some.inj h).symm dX10_acts_136
    · have h := mif_y h c117
      refine lv_iconst (v := 0) hx hb dX10_acts_120 (by decide) ?_
      exact m_zr hx hb hlk hr hR hS (Or.inl rfl) (Option.some.inj h).symm dX10_acts_121
set_option maxRecDepth 100000 in
set_option maxHeartbeats 4000000 in
theorem w_X10_acts_b73 {l : Launch} {X : mX} {p : Program} {e : Env} {s : State} {m : MethodId} {args : Array Value} {below : List Frame} {meth : Method} {c : Code} {r : Int32 × mM} (hs : mS X RX10 cX10_acts 2 (some .boolean) p s m meth c) : ∀ (i1 : Int32) (M : mM), f_X10_acts_b73 i1 M = some r → mG X p l e (rmF 8 185) s m args below meth c (MQ below (mQi X r.2 r.1) args s 0 0 (mL X)) 2 73 [(0, .ref (X.1 96)), (1, .int i1)] [] M := by
  obtain ⟨hx, hb, hml, hown, hF, hlk, hr⟩ := id hs
  intro i1 M h H locs ls hR hS hl
  refine lv_aload_n hx hb dX10_acts_73 rfl (lv_at hl 0 rfl) ?_
  refine m_g9_19 hx hb hF hown hR kd_96 mw_5_156 dX10_acts_74 ?_
  refine lv_bipush (v := 61) hx hb dX10_acts_77 (by decide) ?_
  refine lv_icmp_ne (tgt := 95) hx hb dX10_acts_79 (by decide) (fun c79 => ?_) (fun c79 => ?_)
  · have h := mif_n h c79
    exact w_X10_acts_b95 hs i1 M h H locs ls hR hS (lv_sub hl [0, 1] rfl)
  · have h := mif_y h c79
    refine lv_aload_n hx hb dX10_acts_82 rfl (lv_at hl 0 rfl) ?_
    refine m_g9_1 hx hb hF hown hR kd_96 mw_5_138 dX10_acts_83 ?_
    refine lv_bipush (v := 90) hx hb dX10_acts_86 (by decide) ?_
    refine lv_iload_n hx hb dX10_acts_88 rfl (lv_at hl 1 rfl) ?_
    refine lv_iadd hx hb dX10_acts_89 ?_
    refine lv_aload_n hx hb dX10_acts_90 rfl (lv_at hl 0 rfl) ?_
    refine m_g9_20 hx hb hF hown hR kd_96 mw_5_157 dX10_acts_91 ?_
    obtain ⟨g94, h⟩ := mgd_e h
    obtain ⟨M94, eM94⟩ : ∃ y : mM, y = mI M 97 (Int32.toNatClampNeg (90 + i1)) (M.1 96 20) := ⟨_, rfl⟩
    have h := mlt_n h M94 eM94
    refine m_iastL hx hb hR hS kd_97 g94 (jn := (Int32.toNatClampNeg (90 + i1))) rfl dX10_acts_94 eM94 (fun H locs hR hS => ?_)
    exact w_X10_acts_b95 hs i1 M94 h H locs ls hR hS (lv_sub hl [0, 1] rfl)
set_option maxRecDepth 100000 in
set_option maxHeartbeats 4000000 in
theorem w_X10_acts {l : Launch} {X : mX} {p : Program} {e : Env} {s : State} {m : MethodId} {args : Array Value} {below : List Frame} {meth : Method} {c : Code} {r : Int32 × mM} (hs : mS X RX10 cX10_acts 2 (some .boolean) p s m meth c) : ∀ (i1 : Int32) (M : mM), f_X10_acts i1 M = some r → mG X p l e (rmF 8 185) s m args below meth c (MQ below (mQi X r.2 r.1) args s 0 0 (mL X)) 2 0 [(0, .ref (X.1 96)), (1, .int i1)] [] M := by
  obtain ⟨hx, hb, hml, hown, hF, hlk, hr⟩ := id hs
  intro i1 M h H locs ls hR hS hl
  refine lv_aload_n hx hb dX10_acts_0 rfl (lv_at hl 0 rfl) ?_
  refine m_g9_1 hx hb hF hown hR kd_96 mw_5_138 dX10_acts_1 ?_
  refine lv_bipush (v := 74) hx hb dX10_acts_4 (by decide) ?_
  refine lv_iload_n hx hb dX10_acts_6 rfl (lv_at hl 1 rfl) ?_
  refine lv_iadd hx hb dX10_acts_7 ?_
  obtain ⟨g8, h⟩ := mgd_e h
  refine m_ialdL hx hb hR kd_97 g8 (jn := (Int32.toNatClampNeg (74 + i1))) rfl dX10_acts_8 ?_
  refine lv_iconst (v := 1) hx hb dX10_acts_9 (by decide) ?_
  refine lv_icmp_eq (tgt := 52) hx hb dX10_acts_10 (by decide) (fun c10 => ?_) (fun c10 => ?_)
  · have h := mif_y h c10
    refine lv_iconst (v := 0) hx hb dX10_acts_52 (by decide) ?_
    exact m_zr hx hb hlk hr hR hS (Or.inl rfl) (Option.some.inj h).symm dX10_acts_53
  · have h := mif_n h c10
    refine lv_aload_n hx hb dX10_acts_13 rfl (lv_at hl 0 rfl) ?_
    refine m_g9_1 hx hb hF hown hR kd_96 mw_5_138 dX10_acts_14 ?_
    refine lv_bipush (v := 122) hx hb dX10_acts_17 (by decide) ?_
    refine lv_iload_n hx hb dX10_acts_19 rfl (lv_at hl 1 rfl) ?_
    refine lv_iadd hx hb dX10_acts_20 ?_
    obtain ⟨g21, h⟩ := mgd_e h
    refine m_ialdL hx hb hR kd_97 g21 (jn := (Int32.toNatClampNeg (122 + i1))) rfl dX10_acts_21 ?_
    refine lv_if_lt (tgt := 52) hx hb dX10_acts_22 (by decide) (fun c22 => ?_) (fun c22 => ?_)
    · have h := mif_y h c22
      refine lv_iconst (v := 0) hx hb dX10_acts_52 (by decide) ?_
      exact m_zr hx hb hlk hr hR hS (Or.inl rfl) (Option.some.inj h).symm dX10_acts_53
    · have h := mif_n h c22
      refine lv_aload_n hx hb dX10_acts_25 rfl (lv_at hl 0 rfl) ?_
      refine lv_bipush (v := 8) hx hb dX10_acts_26 (by decide) ?_
      refine lv_aload_n hx hb dX10_acts_28 rfl (lv_at hl 0 rfl) ?_
      refine m_g9_1 hx hb hF hown hR kd_96 mw_5_138 dX10_acts_29 ?_
      refine lv_bipush (v := 122) hx hb dX10_acts_32 (by decide) ?_
      refine lv_iload_n hx hb dX10_acts_34 rfl (lv_at hl 1 rfl) ?_
      refine lv_iadd hx hb dX10_acts_35 ?_
      obtain ⟨g36, h⟩ := mgd_e h
      refine m_ialdL hx hb hR kd_97 g36 (jn := (Int32.toNatClampNeg (122 + i1))) rfl dX10_acts_36 ?_
      refine lv_iadd hx hb dX10_acts_37 ?_
      refine lv_iload_n hx hb dX10_acts_38 rfl (lv_at hl 1 rfl) ?_
      obtain ⟨v39, M39, q39, h⟩ := mbw_e h
      refine m_ci (m_rV hx hb hml hown hF hR hS (ent9 kd_96) kd_96 rfl (c_X10_goesProgram l X (8 + (M.1 97 (Int32.toNatClampNeg (122 + i1)))) i1 M q39) q_X10_248_V hdV_X10_goesProgram ⟨Nat.le_of_ble_eq_true rfl, Nat.le_of_ble_eq_true rfl⟩ rfl hl.1 rfl (Nat.le_of_ble_eq_true rfl) dX10_acts_39) hS (fun H locs hR hS => ?_)
      refine lv_if_eq (tgt := 52) hx hb dX10_acts_42 (by decide) (fun c42 => ?_) (fun c42 => ?_)
      · have h := mif_y h c42
        refine lv_iconst (v := 0) hx hb dX10_acts_52 (by decide) ?_
        exact m_zr hx hb hlk hr hR hS (Or.inl rfl) (Option.some.inj h).symm dX10_acts_53
      · have h := mif_n h c42
        refine lv_aload_n hx hb dX10_acts_45 rfl (lv_at hl 0 rfl) ?_
        refine m_g9_18 hx hb hF hown hR kd_96 mw_5_155 dX10_acts_46 ?_
        refine lv_if_ge (tgt := 54) hx hb dX10_acts_49 (by decide) (fun c49 => ?_) (fun c49 => ?_)
        · have h := mif_y h c49
          refine lv_aload_n hx hb dX10_acts_54 rfl (lv_at hl 0 rfl) ?_
          refine m_g9_19 hx hb hF hown hR kd_96 mw_5_156 dX10_acts_55 ?_
          refine lv_bipush (v := 121) hx hb dX10_acts_58 (by decide) ?_
          refine lv_icmp_ne (tgt := 73) hx hb dX10_acts_60 (by decide) (fun c60 => ?_) (fun c60 => ?_)
          · have h := mif_n h c60
            exact w_X10_acts_b73 hs i1 M39 h H locs ls hR hS (lv_sub hl [0, 1] rfl)
          · have h := mif_y h c60
            refine lv_aload_n hx hb dX10_acts_63 rfl (lv_at hl 0 rfl) ?_
            refine m_g9_26 hx hb hF hown hR kd_96 mw_5_163 dX10_acts_64 ?_
            refine lv_iload_n hx hb dX10_acts_67 rfl (lv_at hl 1 rfl) ?_
            refine lv_aload_n hx hb dX10_acts_68 rfl (lv_at hl 0 rfl) ?_
            refine m_g9_20 hx hb hF hown hR kd_96 mw_5_157 dX10_acts_69 ?_
            obtain ⟨g72, h⟩ := mgd_e h
            obtain ⟨M72, eM72⟩ : ∃ y : mM, y = mI M39 107 (Int32.toNatClampNeg i1) (M39.1 96 20) := ⟨_, rfl⟩
            have h := mlt_n h M72 eM72
            refine m_iastL hx hb hR hS kd_107 g72 (jn := (Int32.toNatClampNeg i1)) rfl dX10_acts_72 eM72 (fun H locs hR hS => ?_)
            exact w_X10_acts_b73 hs i1 M72 h H locs ls hR hS (lv_sub hl [0, 1] rfl)
        · have h := mif_n h c49
          refine lv_iconst (v := 0) hx hb dX10_acts_52 (by decide) ?_
          exact m_zr hx hb hlk hr hR hS (Or.inl rfl) (Option.some.inj h).symm dX10_acts_53
theorem c_X10_acts (l : Launch) (X : mX) (i1 : Int32) (M : mM) {r : Int32 × mM} (h : f_X10_acts i1 M = some r) : mMi l yX10_acts cX10_acts 2 (some .boolean) 8 185 X [.ref (X.1 96), .int i1] M r := m_ofi (by decide +kernel) (Nat.le_of_ble_eq_true rfl) rfl (fun p e s m args below meth c hs => w_X10_acts hs i1 M h)
set_option maxRecDepth 100000 in
set_option maxHeartbeats 4000000 in
theorem w_X10_shares_b18 {l : Launch} {X : mX} {p : Program} {e : Env} {s : State} {m : MethodId} {args : Array Value} {below : List Frame} {meth : Method} {c : Code} {r : mM} (hs : mS X RX10 cX10_shares 5 none p s m meth c) : ∀ n : Nat, ∀ (i1 : Int32) (i2 : Int32) (i3 : Int32) (M : mM), f_X10_shares_b18 n i1 i2 i3 M = some r → mG X p l e (rmF 3 67) s m args below meth c (MQ below (mQv X r) args s 0 0 (mL X)) 5 18 [(0, .ref (X.1 96)), (1, .int i1), (2, .int i2), (3, .int i3)] [] M := by
  obtain ⟨hx, hb, hml, hown, hF, hlk, hr⟩ := id hs
  intro n
  induction n with
  | zero =>
    intro i1 i2 i3 M h
    have h0 : (none : Option (mM)) = some r := h
    cases h0
  | succ n ih =>
    intro i1 i2 i3 M h H locs ls hR hS hl
    refine lv_iload_n hx hb dX10_shares_18 rfl (lv_at hl 3 rfl) ?_
    refine lv_iconst (v := 4) hx hb dX10_shares_19 (by decide) ?_
    refine lv_icmp_ge (tgt := 112) hx hb dX10_shares_20 (by decide) (fun c20 => ?_) (fun c20 => ?_)
    · have h := mif_y h c20
      refine lv_iload_n hx hb dX10_shares_112 rfl (lv_at hl 2 rfl) ?_
      refine lv_if_lt (tgt := 139) hx hb dX10_shares_113 (by decide) (fun c113 => ?_) (fun c113 => ?_)
      · have h := mif_y h c113
        exact m_vr hx hb hlk hr hR hS (Option.some.inj h).symm dX10_shares_139
      · have h := mif_n h c113
        refine lv_aload_n hx hb dX10_shares_116 rfl (lv_at hl 0 rfl) ?_
        refine m_g9_1 hx hb hF hown hR kd_96 mw_5_138 dX10_shares_117 ?_
        refine lv_bipush (v := 58) hx hb dX10_shares_120 (by decide) ?_
        refine lv_iload_n hx hb dX10_shares_122 rfl (lv_at hl 2 rfl) ?_
        refine lv_iadd hx hb dX10_shares_123 ?_
        obtain ⟨g124, h⟩ := mgd_e h
        refine m_ialdL hx hb hR kd_97 g124 (jn := (Int32.toNatClampNeg (58 + i2))) rfl dX10_shares_124 ?_
        refine lv_aload_n hx hb dX10_shares_125 rfl (lv_at hl 0 rfl) ?_
        refine m_g9_1 hx hb hF hown hR kd_96 mw_5_138 dX10_shares_126 ?_
        refine lv_bipush (v := 58) hx hb dX10_shares_129 (by decide) ?_
        refine lv_iload_n hx hb dX10_shares_131 rfl (lv_at hl 1 rfl) ?_
        refine lv_iadd hx hb dX10_shares_132 ?_
        obtain ⟨g133, h⟩ := mgd_e h
        refine m_ialdL hx hb hR kd_97 g133 (jn := (Int32.toNatClampNeg (58 + i1))) rfl dX10_shares_133 ?_
        refine lv_iconst (v := 2) hx hb dX10_shares_134 (by decide) ?_
        refine lv_isub hx hb dX10_shares_135 ?_
        refine lv_icmp_le (tgt := 140) hx hb dX10_shares_136 (by decide) (fun c136 => ?_) (fun c136 => ?_)
        · have h := mif_y h c136
          refine lv_aload_n hx hb dX10_shares_140 rfl (lv_at hl 0 rfl) ?_
          refine m_g9_1 hx hb hF hown hR kd_96 mw_5_138 dX10_shares_141 ?_
          refine lv_bipush (v := 58) hx hb dX10_shares_144 (by decide) ?_
          refine lv_iload_n hx hb dX10_shares_146 rfl (lv_at hl 2 rfl) ?_
          refine lv_iadd hx hb dX10_shares_147 ?_
          refine lv_dup2_11 hx hb dX10_shares_148 rfl rfl ?_
          obtain ⟨g149, h⟩ := mgd_e h
          refine m_ialdL hx hb hR kd_97 g149 (jn := (Int32.toNatClampNeg (58 + i2))) rfl dX10_shares_149 ?_
          refine lv_iconst (v := 1) hx hb dX10_shares_150 (by decide) ?_
          refine lv_iadd hx hb dX10_shares_151 ?_
          obtain ⟨g152, h⟩ := mgd_e h
          obtain ⟨M152, eM152⟩ : ∃ y : mM, y = mI M 97 (Int32.toNatClampNeg (58 + i2)) ((M.1 97 (Int32.toNatClampNeg (58 + i2))) + 1) := ⟨_, rfl⟩
          have h := mlt_n h M152 eM152
          refine m_iastL hx hb hR hS kd_97 g152 (jn := (Int32.toNatClampNeg (58 + i2))) rfl dX10_shares_152 eM152 (fun H locs hR hS => ?_)
          refine lv_aload_n hx hb dX10_shares_153 rfl (lv_at hl 0 rfl) ?_
          refine m_g9_1 hx hb hF hown hR kd_96 mw_5_138 dX10_shares_154 ?_
          refine lv_bipush (v := 58) hx hb dX10_shares_157 (by decide) ?_
          refine lv_iload_n hx hb dX10_shares_159 rfl (lv_at hl 1 rfl) ?_
          refine lv_iadd hx hb dX10_shares_160 ?_
          refine lv_dup2_11 hx hb dX10_shares_161 rfl rfl ?_
          obtain ⟨g162, h⟩ := mgd_e h
          refine m_ialdL hx hb hR kd_97 g162 (jn := (Int32.toNatClampNeg (58 + i1))) rfl dX10_shares_162 ?_
          refine lv_iconst (v := 1) hx hb dX10_shares_163 (by decide) ?_
          refine lv_isub hx hb dX10_shares_164 ?_
          obtain ⟨g165, h⟩ := mgd_e h
          obtain ⟨M165, eM165⟩ : ∃ y : mM, y = mI M152 97 (Int32.toNatClampNeg (58 + i1)) ((M152.1 97 (Int32.toNatClampNeg (58 + i1))) - 1) := ⟨_, rfl⟩
          have h := mlt_n h M165 eM165
          refine m_iastL hx hb hR hS kd_97 g165 (jn := (Int32.toNatClampNeg (58 + i1))) rfl dX10_shares_165 eM165 (fun H locs hR hS => ?_)
          exact m_vr hx hb hlk hr hR hS (Option.some.inj h).symm dX10_shares_166
        · have h := mif_n h c136
          exact m_vr hx hb hlk hr hR hS (Option.some.inj h).symm dX10_shares_139
    · have h := mif_n h c20
      refine lv_aload_n hx hb dX10_shares_23 rfl (lv_at hl 0 rfl) ?_
      refine lv_aload_n hx hb dX10_shares_24 rfl (lv_at hl 0 rfl) ?_
      refine m_g9_1 hx hb hF hown hR kd_96 mw_5_138 dX10_shares_25 ?_
      refine lv_bipush (v := 26) hx hb dX10_shares_28 (by decide) ?_
      refine lv_iload_n hx hb dX10_shares_30 rfl (lv_at hl 1 rfl) ?_
      refine lv_iadd hx hb dX10_shares_31 ?_
      obtain ⟨g32, h⟩ := mgd_e h
      refine m_ialdL hx hb hR kd_97 g32 (jn := (Int32.toNatClampNeg (26 + i1))) rfl dX10_shares_32 ?_
      refine lv_aload_n hx hb dX10_shares_33 rfl (lv_at hl 0 rfl) ?_
      refine lv_iload_n hx hb dX10_shares_34 rfl (lv_at hl 3 rfl) ?_
      refine m_ci (m_rV hx hb hml hown hF hR hS (ent9 kd_96) kd_96 rfl (c_X10_east l X i3 M) q_X10_173_V hdV_X10_east ⟨Nat.le_of_ble_eq_true rfl, Nat.le_of_ble_eq_true rfl⟩ rfl hl.1 rfl (Nat.le_of_ble_eq_true rfl) dX10_shares_35) hS (fun H locs hR hS => ?_)
      refine lv_iadd hx hb dX10_shares_38 ?_
      refine lv_aload_n hx hb dX10_shares_39 rfl (lv_at hl 0 rfl) ?_
      refine m_g9_1 hx hb hF hown hR kd_96 mw_5_138 dX10_shares_40 ?_
      refine lv_bipush (v := 42) hx hb dX10_shares_43 (by decide) ?_
      refine lv_iload_n hx hb dX10_shares_45 rfl (lv_at hl 1 rfl) ?_
      refine lv_iadd hx hb dX10_shares_46 ?_
      obtain ⟨g47, h⟩ := mgd_e h
      refine m_ialdL hx hb hR kd_97 g47 (jn := (Int32.toNatClampNeg (42 + i1))) rfl dX10_shares_47 ?_
      refine lv_aload_n hx hb dX10_shares_48 rfl (lv_at hl 0 rfl) ?_
      refine lv_iload_n hx hb dX10_shares_49 rfl (lv_at hl 3 rfl) ?_
      refine m_ci (m_rV hx hb hml hown hF hR hS (ent9 kd_96) kd_96 rfl (c_X10_north l X i3 M) q_X10_176_V hdV_X10_north ⟨Nat.le_of_ble_eq_true rfl, Nat.le_of_ble_eq_true rfl⟩ rfl hl.1 rfl (Nat.le_of_ble_eq_true rfl) dX10_shares_50) hS (fun H locs hR hS => ?_)
      refine lv_iadd hx hb dX10_shares_53 ?_
      obtain ⟨v54, q54, h⟩ := mbp_e h
      refine m_ci (m_rV hx hb hml hown hF hR hS (ent9 kd_96) kd_96 rfl (c_X10_cubeAt l X ((M.1 97 (Int32.toNatClampNeg (26 + i1))) + (f_X10_east i3)) ((M.1 97 (Int32.toNatClampNeg (42 + i1))) + (f_X10_north i3)) M q54) q_X10_133_V hdV_X10_cubeAt ⟨Nat.le_of_ble_eq_true rfl, Nat.le_of_ble_eq_true rfl⟩ rfl hl.1 rfl (Nat.le_of_ble_eq_true rfl) dX10_shares_54) hS (fun H locs hR hS => ?_)
      refine lv_istore (lv' := [(4, .int v54), (0, .ref (X.1 96)), (1, .int i1), (2, .int i2), (3, .int i3)]) hx hb dX10_shares_57 hl (by decide) rfl (fun ls hl => ?_)
      refine lv_iload hx hb dX10_shares_59 (lv_at hl 0 rfl) ?_
      refine lv_if_lt (tgt := 106) hx hb dX10_shares_61 (by decide) (fun c61 => ?_) (fun c61 => ?_)
      · have h := mif_y h c61
        obtain ⟨x106, ex106⟩ : ∃ y : Int32, y = (i3 + 1) := ⟨_, rfl⟩
        have h := mlt_n h x106 ex106
        refine lv_iinc (v := x106) (lv' := [(3, .int x106), (4, .int v54), (0, .ref (X.1 96)), (1, .int i1), (2, .int i2)]) hx hb dX10_shares_106 hl (k := 4) rfl (by rw [ex106]; rfl) (by decide) rfl (fun ls hl => ?_)
        refine lv_goto (tgt := 18) hx hb dX10_shares_109 (by decide) ?_
        exact ih i1 i2 x106 M h H locs ls hR hS (lv_sub hl [2, 3, 4, 0] rfl)
      · have h := mif_n h c61
        refine lv_aload_n hx hb dX10_shares_64 rfl (lv_at hl 1 rfl) ?_
        refine m_g9_1 hx hb hF hown hR kd_96 mw_5_138 dX10_shares_65 ?_
        refine lv_bipush (v := 74) hx hb dX10_shares_68 (by decide) ?_
        refine lv_iload hx hb dX10_shares_70 (lv_at hl 0 rfl) ?_
        refine lv_iadd hx hb dX10_shares_72 ?_
        obtain ⟨g73, h⟩ := mgd_e h
        refine m_ialdL hx hb hR kd_97 g73 (jn := (Int32.toNatClampNeg (74 + v54))) rfl dX10_shares_73 ?_
        refine lv_if_ne (tgt := 106) hx hb dX10_shares_74 (by decide) (fun c74 => ?_) (fun c74 => ?_)
        · have h := mif_n h c74
          obtain ⟨x106, ex106⟩ : ∃ y : Int32, y = (i3 + 1) := ⟨_, rfl⟩
          have h := mlt_n h x106 ex106
          refine lv_iinc (v := x106) (lv' := [(3, .int x106), (4, .int v54), (0, .ref (X.1 96)), (1, .int i1), (2, .int i2)]) hx hb dX10_shares_106 hl (k := 4) rfl (by rw [ex106]; rfl) (by decide) rfl (fun ls hl => ?_)
          refine lv_goto (tgt := 18) hx hb dX10_shares_109 (by decide) ?_
          exact ih i1 i2 x106 M h H locs ls hR hS (lv_sub hl [2, 3, 4, 0] rfl)
        · have h := mif_y h c74
          refine lv_iload_n hx hb dX10_shares_77 rfl (lv_at hl 3 rfl) ?_
          refine lv_if_lt (tgt := 103) hx hb dX10_shares_78 (by decide) (fun c78 => ?_) (fun c78 => ?_)
          · have h := mif_y h c78
            refine lv_iload hx hb dX10_shares_103 (lv_at hl 0 rfl) ?_
            refine lv_istore_n (lv' := [(2, .int v54), (4, .int v54), (0, .ref (X.1 96)), (1, .int i1), (3, .int i3)]) hx hb dX10_shares_105 rfl hl (by decide) rfl (fun ls hl => ?_)
            obtain ⟨x106, ex106⟩ : ∃ y : Int32, y = (i3 + 1) := ⟨_, rfl⟩
            have h := mlt_n h x106 ex106
            refine lv_iinc (v := x106) (lv' := [(3, .int x106), (2, .int v54), (4, .int v54), (0, .ref (X.1 96)), (1, .int i1)]) hx hb dX10_shares_106 hl (k := 4) rfl (by rw [ex106]; rfl) (by decide) rfl (fun ls hl => ?_)
            refine lv_goto (tgt := 18) hx hb dX10_shares_109 (by decide) ?_
            exact ih i1 v54 x106 M h H locs ls hR hS (lv_sub hl [3, 4, 1, 0] rfl)
          · have h := mif_n h c78
            refine lv_aload_n hx hb dX10_shares_81 rfl (lv_at hl 1 rfl) ?_
            refine m_g9_1 hx hb hF hown hR kd_96 mw_5_138 dX10_shares_82 ?_
            refine lv_bipush (v := 58) hx hb dX10_shares_85 (by decide) ?_
            refine lv_iload hx hb dX10_shares_87 (lv_at hl 0 rfl) ?_
            refine lv_iadd hx hb dX10_shares_89 ?_
            obtain ⟨g90, h⟩ := mgd_e h
            refine m_ialdL hx hb hR kd_97 g90 (jn := (Int32.toNatClampNeg (58 + v54))) rfl dX10_shares_90 ?_
            refine lv_aload_n hx hb dX10_shares_91 rfl (lv_at hl 1 rfl) ?_
            refine m_g9_1 hx hb hF hown hR kd_96 mw_5_138 dX10_shares_92 ?_
            refine lv_bipush (v := 58) hx hb dX10_shares_95 (by decide) ?_
            refine lv_iload_n hx hb dX10_shares_97 rfl (lv_at hl 3 rfl) ?_
            refine lv_iadd hx hb dX10_shares_98 ?_
            obtain ⟨g99, h⟩ := mgd_e h
            refine m_ialdL hx hb hR kd_97 g99 (jn := (Int32.toNatClampNeg (58 + i2))) rfl dX10_shares_99 ?_
            refine lv_icmp_ge (tgt := 106) hx hb dX10_shares_100 (by decide) (fun c100 => ?_) (fun c100 => ?_)
            · have h := mif_y h c100
              obtain ⟨x106, ex106⟩ : ∃ y : Int32, y = (i3 + 1) := ⟨_, rfl⟩
              have h := mlt_n h x106 ex106
              refine lv_iinc (v := x106) (lv' := [(3, .int x106), (4, .int v54), (0, .ref (X.1 96)), (1, .int i1), (2, .int i2)]) hx hb dX10_shares_106 hl (k := 4) rfl (by rw [ex106]; rfl) (by decide) rfl (fun ls hl => ?_)
              refine lv_goto (tgt := 18) hx hb dX10_shares_109 (by decide) ?_
              exact ih i1 i2 x106 M h H locs ls hR hS (lv_sub hl [2, 3, 4, 0] rfl)
            · have h := mif_n h c100
              refine lv_iload hx hb dX10_shares_103 (lv_at hl 0 rfl) ?_
              refine lv_istore_n (lv' := [(2, .int v54), (4, .int v54), (0, .ref (X.1 96)), (1, .int i1), (3, .int i3)]) hx hb dX10_shares_105 rfl hl (by decide) rfl (fun ls hl => ?_)
              obtain ⟨x106, ex106⟩ : ∃ y : Int32, y = (i3 + 1) := ⟨_, rfl⟩
              have h := mlt_n h x106 ex106
              refine lv_iinc (v := x106) (lv' := [(3, .int x106), (2, .int v54), (4, .int v54), (0, .ref (X.1 96)), (1, .int i1)]) hx hb dX10_shares_106 hl (k := 4) rfl (by rw [ex106]; rfl) (by decide) rfl (fun ls hl => ?_)
              refine lv_goto (tgt := 18) hx hb dX10_shares_109 (by decide) ?_
              exact ih i1 v54 x106 M h H locs ls hR hS (lv_sub hl [3, 4, 1, 0] rfl)
set_option maxRecDepth 100000 in
set_option maxHeartbeats 4000000 in
theorem w_X10_shares {l : Launch} {X : mX} {p : Program} {e : Env} {s : State} {m : MethodId} {args : Array Value} {below : List Frame} {meth : Method} {c : Code} {r : mM} (hs : mS X RX10 cX10_shares 5 none p s m meth c) : ∀ (i1 : Int32) (M : mM), f_X10_shares i1 M = some r → mG X p l e (rmF 3 67) s m args below meth c (MQ below (mQv X r) args s 0 0 (mL X)) 5 0 [(0, .ref (X.1 96)), (1, .int i1)] [] M := by
  obtain ⟨hx, hb, hml, hown, hF, hlk, hr⟩ := id hs
  intro i1 M h H locs ls hR hS hl
  refine lv_aload_n hx hb dX10_shares_0 rfl (lv_at hl 0 rfl) ?_
  refine m_g9_1 hx hb hF hown hR kd_96 mw_5_138 dX10_shares_1 ?_
  refine lv_bipush (v := 74) hx hb dX10_shares_4 (by decide) ?_
  refine lv_iload_n hx hb dX10_shares_6 rfl (lv_at hl 1 rfl) ?_
  refine lv_iadd hx hb dX10_shares_7 ?_
  obtain ⟨g8, h⟩ := mgd_e h
  refine m_ialdL hx hb hR kd_97 g8 (jn := (Int32.toNatClampNeg (74 + i1))) rfl dX10_shares_8 ?_
  refine lv_iconst (v := 1) hx hb dX10_shares_9 (by decide) ?_
  refine lv_icmp_ne (tgt := 14) hx hb dX10_shares_10 (by decide) (fun c10 => ?_) (fun c10 => ?_)
  · have h := mif_n h c10
    refine lv_iconst (v := (-1)) hx hb dX10_shares_14 (by decide) ?_
    refine lv_istore_n (lv' := [(2, .int (-1)), (0, .ref (X.1 96)), (1, .int i1)]) hx hb dX10_shares_15 rfl hl (by decide) rfl (fun ls hl => ?_)
    refine lv_iconst (v := 0) hx hb dX10_shares_16 (by decide) ?_
    refine lv_istore_n (lv' := [(3, .int 0), (2, .int (-1)), (0, .ref (X.1 96)), (1, .int i1)]) hx hb dX10_shares_17 rfl hl (by decide) rfl (fun ls hl => ?_)
    exact w_X10_shares_b18 hs mN i1 (-1) 0 M h H locs ls hR hS (lv_sub hl [2, 3, 1, 0] rfl)
  · have h := mif_y h c10
    exact m_vr hx hb hlk hr hR hS (Option.some.inj h).symm dX10_shares_13
theorem c_X10_shares (l : Launch) (X : mX) (i1 : Int32) (M : mM) {r : mM} (h : f_X10_shares i1 M = some r) : mMv l yX10_shares cX10_shares 5 3 67 X [.ref (X.1 96), .int i1] M r := m_ofv (by decide +kernel) (Nat.le_of_ble_eq_true rfl) rfl (fun p e s m args below meth c hs => w_X10_shares hs i1 M h)
set_option maxRecDepth 100000 in
set_option maxHeartbeats 4000000 in
theorem w_X10_goTick_b82 {l : Launch} {X : mX} {p : Program} {e : Env} {s : State} {m : MethodId} {args : Array Value} {below : List Frame} {meth : Method} {c : Code} {r : Int32 × mM} (hs : mS X RX10 cX10_goTick 3 (some .int) p s m meth c) : ∀ n : Nat, ∀ (i1 : Int32) (i2 : Int32) (M : mM), f_X10_goTick_b82 n i1 i2 M = some r → mG X p l e (rmF 9 206) s m args below meth c (MQ below (mQi X r.2 r.1) args s 0 0 (mL X)) 3 82 [(0, .ref (X.1 96)), (1, .int i1), (2, .int i2)] [] M := by
  obtain ⟨hx, hb, hml, hown, hF, hlk, hr⟩ := id hs
  intro n
  induction n with
  | zero =>
    intro i1 i2 M h
    have h0 : (none : Option (Int32 × mM)) = some r := h
    cases h0
  | succ n ih =>
    intro i1 i2 M h H locs ls hR hS hl
    refine lv_iload_n hx hb dX10_goTick_82 rfl (lv_at hl 2 rfl) ?_
    refine lv_bipush (v := 16) hx hb dX10_goTick_83 (by decide) ?_
    refine lv_icmp_ge (tgt := 109) hx hb dX10_goTick_85 (by decide) (fun c85 => ?_) (fun c85 => ?_)
    · have h := mif_y h c85
      refine lv_aload_n hx hb dX10_goTick_109 rfl (lv_at hl 0 rfl) ?_
      refine m_g9_1 hx hb hF hown hR kd_96 mw_5_138 dX10_goTick_110 ?_
      refine lv_iconst (v := 5) hx hb dX10_goTick_113 (by decide) ?_
      refine lv_dup2_11 hx hb dX10_goTick_114 rfl rfl ?_
      refine m_ialdL hx hb hR kd_97 (show mIn 5 1834 from by decide) (jn := 5) (by decide) dX10_goTick_115 ?_
      refine lv_iconst (v := 1) hx hb dX10_goTick_116 (by decide) ?_
      refine lv_iadd hx hb dX10_goTick_117 ?_
      obtain ⟨M118, eM118⟩ : ∃ y : mM, y = mI M 97 5 ((M.1 97 5) + 1) := ⟨_, rfl⟩
      have h := mlt_n h M118 eM118
      refine m_iastL hx hb hR hS kd_97 (show mIn 5 1834 from by decide) (jn := 5) (by decide) dX10_goTick_118 eM118 (fun H locs hR hS => ?_)
      refine lv_iload_n hx hb dX10_goTick_119 rfl (lv_at hl 1 rfl) ?_
      exact m_ir hx hb hlk hr hR hS (Option.some.inj h).symm dX10_goTick_120
    · have h := mif_n h c85
      refine lv_aload_n hx hb dX10_goTick_88 rfl (lv_at hl 0 rfl) ?_
      refine m_g9_1 hx hb hF hown hR kd_96 mw_5_138 dX10_goTick_89 ?_
      refine lv_bipush (v := 106) hx hb dX10_goTick_92 (by decide) ?_
      refine lv_iload_n hx hb dX10_goTick_94 rfl (lv_at hl 2 rfl) ?_
      refine lv_iadd hx hb dX10_goTick_95 ?_
      refine lv_aload_n hx hb dX10_goTick_96 rfl (lv_at hl 0 rfl) ?_
      refine m_g9_26 hx hb hF hown hR kd_96 mw_5_163 dX10_goTick_97 ?_
      refine lv_iload_n hx hb dX10_goTick_100 rfl (lv_at hl 2 rfl) ?_
      obtain ⟨g101, h⟩ := mgd_e h
      refine m_ialdL hx hb hR kd_107 g101 (jn := (Int32.toNatClampNeg i2)) rfl dX10_goTick_101 ?_
      obtain ⟨g102, h⟩ := mgd_e h
      obtain ⟨M102, eM102⟩ : ∃ y : mM, y = mI M 97 (Int32.toNatClampNeg (106 + i2)) (M.1 107 (Int32.toNatClampNeg i2)) := ⟨_, rfl⟩
      have h := mlt_n h M102 eM102
      refine m_iastL hx hb hR hS kd_97 g102 (jn := (Int32.toNatClampNeg (106 + i2))) rfl dX10_goTick_102 eM102 (fun H locs hR hS => ?_)
      obtain ⟨x103, ex103⟩ : ∃ y : Int32, y = (i2 + 1) := ⟨_, rfl⟩
      have h := mlt_n h x103 ex103
      refine lv_iinc (v := x103) (lv' := [(2, .int x103), (0, .ref (X.1 96)), (1, .int i1)]) hx hb dX10_goTick_103 hl (k := 2) rfl (by rw [ex103]; rfl) (by decide) rfl (fun ls hl => ?_)
      refine lv_goto (tgt := 82) hx hb dX10_goTick_106 (by decide) ?_
      exact ih i1 x103 M102 h H locs ls hR hS (lv_sub hl [1, 2, 0] rfl)
set_option maxRecDepth 100000 in
set_option maxHeartbeats 4000000 in
theorem w_X10_goTick_b59 {l : Launch} {X : mX} {p : Program} {e : Env} {s : State} {m : MethodId} {args : Array Value} {below : List Frame} {meth : Method} {c : Code} {r : Int32 × mM} (hs : mS X RX10 cX10_goTick 3 (some .int) p s m meth c) : ∀ n : Nat, ∀ (i1 : Int32) (i2 : Int32) (M : mM), f_X10_goTick_b59 n i1 i2 M = some r → mG X p l e (rmF 9 206) s m args below meth c (MQ below (mQi X r.2 r.1) args s 0 0 (mL X)) 3 59 [(0, .ref (X.1 96)), (1, .int i1), (2, .int i2)] [] M := by
  obtain ⟨hx, hb, hml, hown, hF, hlk, hr⟩ := id hs
  intro n
  induction n with
  | zero =>
    intro i1 i2 M h
    have h0 : (none : Option (Int32 × mM)) = some r := h
    cases h0
  | succ n ih =>
    intro i1 i2 M h H locs ls hR hS hl
    refine lv_iload_n hx hb dX10_goTick_59 rfl (lv_at hl 2 rfl) ?_
    refine lv_aload_n hx hb dX10_goTick_60 rfl (lv_at hl 0 rfl) ?_
    refine m_g9_1 hx hb hF hown hR kd_96 mw_5_138 dX10_goTick_61 ?_
    refine lv_iconst (v := 0) hx hb dX10_goTick_64 (by decide) ?_
    refine m_ialdL hx hb hR kd_97 (show mIn 0 1834 from by decide) (jn := 0) (by decide) dX10_goTick_65 ?_
    refine lv_icmp_ge (tgt := 80) hx hb dX10_goTick_66 (by decide) (fun c66 => ?_) (fun c66 => ?_)
    · have h := mif_y h c66
      refine lv_iconst (v := 0) hx hb dX10_goTick_80 (by decide) ?_
      refine lv_istore_n (lv' := [(2, .int 0), (0, .ref (X.1 96)), (1, .int i1)]) hx hb dX10_goTick_81 rfl hl (by decide) rfl (fun ls hl => ?_)
      exact w_X10_goTick_b82 hs mN i1 0 M h H locs ls hR hS (lv_sub hl [1, 2, 0] rfl)
    · have h := mif_n h c66
      refine lv_aload_n hx hb dX10_goTick_69 rfl (lv_at hl 0 rfl) ?_
      refine lv_iload_n hx hb dX10_goTick_70 rfl (lv_at hl 2 rfl) ?_
      obtain ⟨M71, q71, h⟩ := mbp_e h
      refine m_cv (m_rV hx hb hml hown hF hR hS (ent9 kd_96) kd_96 rfl (c_X10_shares l X i2 M q71) q_X10_278_V hdV_X10_shares ⟨Nat.le_of_ble_eq_true rfl, Nat.le_of_ble_eq_true rfl⟩ rfl hl.1 rfl (Nat.le_of_ble_eq_true rfl) dX10_goTick_71) hS (fun H locs hR hS => ?_)
      obtain ⟨x74, ex74⟩ : ∃ y : Int32, y = (i2 + 1) := ⟨_, rfl⟩
      have h := mlt_n h x74 ex74
      refine lv_iinc (v := x74) (lv' := [(2, .int x74), (0, .ref (X.1 96)), (1, .int i1)]) hx hb dX10_goTick_74 hl (k := 2) rfl (by rw [ex74]; rfl) (by decide) rfl (fun ls hl => ?_)
      refine lv_goto (tgt := 59) hx hb dX10_goTick_77 (by decide) ?_
      exact ih i1 x74 M71 h H locs ls hR hS (lv_sub hl [1, 2, 0] rfl)
set_option maxRecDepth 100000 in
set_option maxHeartbeats 4000000 in
theorem w_X10_goTick_b25 {l : Launch} {X : mX} {p : Program} {e : Env} {s : State} {m : MethodId} {args : Array Value} {below : List Frame} {meth : Method} {c : Code} {r : Int32 × mM} (hs : mS X RX10 cX10_goTick 3 (some .int) p s m meth c) : ∀ n : Nat, ∀ (i1 : Int32) (i2 : Int32) (M : mM), f_X10_goTick_b25 n i1 i2 M = some r → mG X p l e (rmF 9 206) s m args below meth c (MQ below (mQi X r.2 r.1) args s 0 0 (mL X)) 3 25 [(0, .ref (X.1 96)), (1, .int i1), (2, .int i2)] [] M := by
  obtain ⟨hx, hb, hml, hown, hF, hlk, hr⟩ := id hs
  intro n
  induction n with
  | zero =>
    intro i1 i2 M h
    have h0 : (none : Option (Int32 × mM)) = some r := h
    cases h0
  | succ n ih =>
    intro i1 i2 M h H locs ls hR hS hl
    refine lv_iload_n hx hb dX10_goTick_25 rfl (lv_at hl 2 rfl) ?_
    refine lv_aload_n hx hb dX10_goTick_26 rfl (lv_at hl 0 rfl) ?_
    refine m_g9_1 hx hb hF hown hR kd_96 mw_5_138 dX10_goTick_27 ?_
    refine lv_iconst (v := 0) hx hb dX10_goTick_30 (by decide) ?_
    refine m_ialdL hx hb hR kd_97 (show mIn 0 1834 from by decide) (jn := 0) (by decide) dX10_goTick_31 ?_
    refine lv_icmp_ge (tgt := 57) hx hb dX10_goTick_32 (by decide) (fun c32 => ?_) (fun c32 => ?_)
    · have h := mif_y h c32
      refine lv_iconst (v := 0) hx hb dX10_goTick_57 (by decide) ?_
      refine lv_istore_n (lv' := [(2, .int 0), (0, .ref (X.1 96)), (1, .int i1)]) hx hb dX10_goTick_58 rfl hl (by decide) rfl (fun ls hl => ?_)
      exact w_X10_goTick_b59 hs mN i1 0 M h H locs ls hR hS (lv_sub hl [1, 2, 0] rfl)
    · have h := mif_n h c32
      refine lv_iload_n hx hb dX10_goTick_35 rfl (lv_at hl 1 rfl) ?_
      refine lv_aload_n hx hb dX10_goTick_36 rfl (lv_at hl 0 rfl) ?_
      refine lv_iload_n hx hb dX10_goTick_37 rfl (lv_at hl 2 rfl) ?_
      obtain ⟨v38, M38, q38, h⟩ := mbw_e h
      refine m_ci (m_rV hx hb hml hown hF hR hS (ent9 kd_96) kd_96 rfl (c_X10_acts l X i2 M q38) q_X10_275_V hdV_X10_acts ⟨Nat.le_of_ble_eq_true rfl, Nat.le_of_ble_eq_true rfl⟩ rfl hl.1 rfl (Nat.le_of_ble_eq_true rfl) dX10_goTick_38) hS (fun H locs hR hS => ?_)
      refine lv_if_eq (tgt := 48) hx hb dX10_goTick_41 (by decide) (fun c41 => ?_) (fun c41 => ?_)
      · have h := mif_y h c41
        refine lv_iconst (v := 0) hx hb dX10_goTick_48 (by decide) ?_
        refine lv_iadd hx hb dX10_goTick_49 ?_
        refine lv_istore_n (lv' := [(1, .int (i1 + 0)), (0, .ref (X.1 96)), (2, .int i2)]) hx hb dX10_goTick_50 rfl hl (by decide) rfl (fun ls hl => ?_)
        obtain ⟨x51, ex51⟩ : ∃ y : Int32, y = (i2 + 1) := ⟨_, rfl⟩
        have h := mlt_n h x51 ex51
        refine lv_iinc (v := x51) (lv' := [(2, .int x51), (1, .int (i1 + 0)), (0, .ref (X.1 96))]) hx hb dX10_goTick_51 hl (k := 2) rfl (by rw [ex51]; rfl) (by decide) rfl (fun ls hl => ?_)
        refine lv_goto (tgt := 25) hx hb dX10_goTick_54 (by decide) ?_
        exact ih (i1 + 0) x51 M38 h H locs ls hR hS (lv_sub hl [2, 1, 0] rfl)
      · have h := mif_n h c41
        refine lv_iconst (v := 1) hx hb dX10_goTick_44 (by decide) ?_
        refine lv_goto (tgt := 49) hx hb dX10_goTick_45 (by decide) ?_
        refine lv_iadd hx hb dX10_goTick_49 ?_
        refine lv_istore_n (lv' := [(1, .int (i1 + 1)), (0, .ref (X.1 96)), (2, .int i2)]) hx hb dX10_goTick_50 rfl hl (by decide) rfl (fun ls hl => ?_)
        obtain ⟨x51, ex51⟩ : ∃ y : Int32, y = (i2 + 1) := ⟨_, rfl⟩
        have h := mlt_n h x51 ex51
        refine lv_iinc (v := x51) (lv' := [(2, .int x51), (1, .int (i1 + 1)), (0, .ref (X.1 96))]) hx hb dX10_goTick_51 hl (k := 2) rfl (by rw [ex51]; rfl) (by decide) rfl (fun ls hl => ?_)
        refine lv_goto (tgt := 25) hx hb dX10_goTick_54 (by decide) ?_
        exact ih (i1 + 1) x51 M38 h H locs ls hR hS (lv_sub hl [2, 1, 0] rfl)
set_option maxRecDepth 100000 in
set_option maxHeartbeats 4000000 in
theorem w_X10_goTick_b4 {l : Launch} {X : mX} {p : Program} {e : Env} {s : State} {m : MethodId} {args : Array Value} {below : List Frame} {meth : Method} {c : Code} {r : Int32 × mM} (hs : mS X RX10 cX10_goTick 3 (some .int) p s m meth c) : ∀ n : Nat, ∀ (i1 : Int32) (i2 : Int32) (M : mM), f_X10_goTick_b4 n i1 i2 M = some r → mG X p l e (rmF 9 206) s m args below meth c (MQ below (mQi X r.2 r.1) args s 0 0 (mL X)) 3 4 [(0, .ref (X.1 96)), (1, .int i1), (2, .int i2)] [] M := by
  obtain ⟨hx, hb, hml, hown, hF, hlk, hr⟩ := id hs
  intro n
  induction n with
  | zero =>
    intro i1 i2 M h
    have h0 : (none : Option (Int32 × mM)) = some r := h
    cases h0
  | succ n ih =>
    intro i1 i2 M h H locs ls hR hS hl
    refine lv_iload_n hx hb dX10_goTick_4 rfl (lv_at hl 2 rfl) ?_
    refine lv_bipush (v := 16) hx hb dX10_goTick_5 (by decide) ?_
    refine lv_icmp_ge (tgt := 23) hx hb dX10_goTick_7 (by decide) (fun c7 => ?_) (fun c7 => ?_)
    · have h := mif_y h c7
      refine lv_iconst (v := 0) hx hb dX10_goTick_23 (by decide) ?_
      refine lv_istore_n (lv' := [(2, .int 0), (0, .ref (X.1 96)), (1, .int i1)]) hx hb dX10_goTick_24 rfl hl (by decide) rfl (fun ls hl => ?_)
      exact w_X10_goTick_b25 hs mN i1 0 M h H locs ls hR hS (lv_sub hl [1, 2, 0] rfl)
    · have h := mif_n h c7
      refine lv_aload_n hx hb dX10_goTick_10 rfl (lv_at hl 0 rfl) ?_
      refine m_g9_26 hx hb hF hown hR kd_96 mw_5_163 dX10_goTick_11 ?_
      refine lv_iload_n hx hb dX10_goTick_14 rfl (lv_at hl 2 rfl) ?_
      refine lv_iconst (v := 0) hx hb dX10_goTick_15 (by decide) ?_
      obtain ⟨g16, h⟩ := mgd_e h
      obtain ⟨M16, eM16⟩ : ∃ y : mM, y = mI M 107 (Int32.toNatClampNeg i2) 0 := ⟨_, rfl⟩
      have h := mlt_n h M16 eM16
      refine m_iastL hx hb hR hS kd_107 g16 (jn := (Int32.toNatClampNeg i2)) rfl dX10_goTick_16 eM16 (fun H locs hR hS => ?_)
      obtain ⟨x17, ex17⟩ : ∃ y : Int32, y = (i2 + 1) := ⟨_, rfl⟩
      have h := mlt_n h x17 ex17
      refine lv_iinc (v := x17) (lv' := [(2, .int x17), (0, .ref (X.1 96)), (1, .int i1)]) hx hb dX10_goTick_17 hl (k := 2) rfl (by rw [ex17]; rfl) (by decide) rfl (fun ls hl => ?_)
      refine lv_goto (tgt := 4) hx hb dX10_goTick_20 (by decide) ?_
      exact ih i1 x17 M16 h H locs ls hR hS (lv_sub hl [1, 2, 0] rfl)
set_option maxRecDepth 100000 in
set_option maxHeartbeats 4000000 in
theorem w_X10_goTick {l : Launch} {X : mX} {p : Program} {e : Env} {s : State} {m : MethodId} {args : Array Value} {below : List Frame} {meth : Method} {c : Code} {r : Int32 × mM} (hs : mS X RX10 cX10_goTick 3 (some .int) p s m meth c) : ∀  (M : mM), f_X10_goTick  M = some r → mG X p l e (rmF 9 206) s m args below meth c (MQ below (mQi X r.2 r.1) args s 0 0 (mL X)) 3 0 [(0, .ref (X.1 96))] [] M := by
  obtain ⟨hx, hb, hml, hown, hF, hlk, hr⟩ := id hs
  intro M h H locs ls hR hS hl
  refine lv_iconst (v := 0) hx hb dX10_goTick_0 (by decide) ?_
  refine lv_istore_n (lv' := [(1, .int 0), (0, .ref (X.1 96))]) hx hb dX10_goTick_1 rfl hl (by decide) rfl (fun ls hl => ?_)
  refine lv_iconst (v := 0) hx hb dX10_goTick_2 (by decide) ?_
  refine lv_istore_n (lv' := [(2, .int 0), (1, .int 0), (0, .ref (X.1 96))]) hx hb dX10_goTick_3 rfl hl (by decide) rfl (fun ls hl => ?_)
  exact w_X10_goTick_b4 hs mN 0 0 M h H locs ls hR hS (lv_sub hl [2, 1, 0] rfl)
theorem c_X10_goTick (l : Launch) (X : mX) (M : mM) {r : Int32 × mM} (h : f_X10_goTick M = some r) : mMi l yX10_goTick cX10_goTick 3 (some .int) 9 206 X [.ref (X.1 96)] M r := m_ofi (by decide +kernel) (Nat.le_of_ble_eq_true rfl) rfl (fun p e s m args below meth c hs => w_X10_goTick hs M h)
set_option maxRecDepth 100000 in
set_option maxHeartbeats 4000000 in
theorem w_X10_ticks_b34 {l : Launch} {X : mX} {p : Program} {e : Env} {s : State} {m : MethodId} {args : Array Value} {below : List Frame} {meth : Method} {c : Code} {r : Int32 × mM} (hs : mS X RX10 cX10_ticks 4 (some .int) p s m meth c) : ∀ n : Nat, ∀ (i1 : Int32) (i2 : Int32) (i3 : Int32) (M : mM), f_X10_ticks_b34 n i1 i2 i3 M = some r → mG X p l e (rmF 10 228) s m args below meth c (MQ below (mQi X r.2 r.1) args s 0 0 (mL X)) 4 34 [(0, .ref (X.1 96)), (1, .int i1), (2, .int i2), (3, .int i3)] [] M := by
  obtain ⟨hx, hb, hml, hown, hF, hlk, hr⟩ := id hs
  intro n
  induction n with
  | zero =>
    intro i1 i2 i3 M h
    have h0 : (none : Option (Int32 × mM)) = some r := h
    cases h0
  | succ n ih =>
    intro i1 i2 i3 M h H locs ls hR hS hl
    refine lv_iload_n hx hb dX10_ticks_34 rfl (lv_at hl 3 rfl) ?_
    refine lv_iload_n hx hb dX10_ticks_35 rfl (lv_at hl 1 rfl) ?_
    refine lv_icmp_ge (tgt := 52) hx hb dX10_ticks_36 (by decide) (fun c36 => ?_) (fun c36 => ?_)
    · have h := mif_y h c36
      refine lv_iload_n hx hb dX10_ticks_52 rfl (lv_at hl 2 rfl) ?_
      exact m_ir hx hb hlk hr hR hS (Option.some.inj h).symm dX10_ticks_53
    · have h := mif_n h c36
      refine lv_iload_n hx hb dX10_ticks_39 rfl (lv_at hl 2 rfl) ?_
      refine lv_aload_n hx hb dX10_ticks_40 rfl (lv_at hl 0 rfl) ?_
      obtain ⟨v41, M41, q41, h⟩ := mbw_e h
      refine m_ci (m_rV hx hb hml hown hF hR hS (ent9 kd_96) kd_96 rfl (c_X10_goTick l X M q41) q_X10_281_V hdV_X10_goTick ⟨Nat.le_of_ble_eq_true rfl, Nat.le_of_ble_eq_true rfl⟩ rfl hl.1 rfl (Nat.le_of_ble_eq_true rfl) dX10_ticks_41) hS (fun H locs hR hS => ?_)
      refine lv_iadd hx hb dX10_ticks_44 ?_
      refine lv_istore_n (lv' := [(2, .int (i2 + v41)), (0, .ref (X.1 96)), (1, .int i1), (3, .int i3)]) hx hb dX10_ticks_45 rfl hl (by decide) rfl (fun ls hl => ?_)
      obtain ⟨x46, ex46⟩ : ∃ y : Int32, y = (i3 + 1) := ⟨_, rfl⟩
      have h := mlt_n h x46 ex46
      refine lv_iinc (v := x46) (lv' := [(3, .int x46), (2, .int (i2 + v41)), (0, .ref (X.1 96)), (1, .int i1)]) hx hb dX10_ticks_46 hl (k := 3) rfl (by rw [ex46]; rfl) (by decide) rfl (fun ls hl => ?_)
      refine lv_goto (tgt := 34) hx hb dX10_ticks_49 (by decide) ?_
      exact ih i1 (i2 + v41) x46 M41 h H locs ls hR hS (lv_sub hl [2, 3, 1, 0] rfl)
set_option maxRecDepth 100000 in
set_option maxHeartbeats 4000000 in
theorem w_X10_ticks {l : Launch} {X : mX} {p : Program} {e : Env} {s : State} {m : MethodId} {args : Array Value} {below : List Frame} {meth : Method} {c : Code} {r : Int32 × mM} (hs : mS X RX10 cX10_ticks 4 (some .int) p s m meth c) : ∀ (i1 : Int32) (M : mM), f_X10_ticks i1 M = some r → mG X p l e (rmF 10 228) s m args below meth c (MQ below (mQi X r.2 r.1) args s 0 0 (mL X)) 4 0 [(0, .ref (X.1 96)), (1, .int i1)] [] M := by
  obtain ⟨hx, hb, hml, hown, hF, hlk, hr⟩ := id hs
  intro i1 M h H locs ls hR hS hl
  refine lv_aload_n hx hb dX10_ticks_0 rfl (lv_at hl 0 rfl) ?_
  refine lv_iload_n hx hb dX10_ticks_1 rfl (lv_at hl 1 rfl) ?_
  refine lv_iconst (v := 1) hx hb dX10_ticks_2 (by decide) ?_
  refine lv_bipush (v := 50) hx hb dX10_ticks_3 (by decide) ?_
  refine m_ci (m_rV hx hb hml hown hF hR hS (ent9 kd_96) kd_96 rfl (c_X10_is l X i1 1 50 M) q_X10_121_V hdV_X10_is ⟨Nat.le_of_ble_eq_true rfl, Nat.le_of_ble_eq_true rfl⟩ rfl hl.1 rfl (Nat.le_of_ble_eq_true rfl) dX10_ticks_5) hS (fun H locs hR hS => ?_)
  refine lv_if_ne (tgt := 13) hx hb dX10_ticks_8 (by decide) (fun c8 => ?_) (fun c8 => ?_)
  · have h := mif_n h c8
    refine lv_aload_n hx hb dX10_ticks_13 rfl (lv_at hl 0 rfl) ?_
    refine m_g9_1 hx hb hF hown hR kd_96 mw_5_138 dX10_ticks_14 ?_
    refine lv_iconst (v := 5) hx hb dX10_ticks_17 (by decide) ?_
    refine m_ialdL hx hb hR kd_97 (show mIn 5 1834 from by decide) (jn := 5) (by decide) dX10_ticks_18 ?_
    refine lv_iload_n hx hb dX10_ticks_19 rfl (lv_at hl 1 rfl) ?_
    refine lv_iadd hx hb dX10_ticks_20 ?_
    refine lv_sipush (v := 2000) hx hb dX10_ticks_21 (by decide) ?_
    refine lv_icmp_le (tgt := 30) hx hb dX10_ticks_24 (by decide) (fun c24 => ?_) (fun c24 => ?_)
    · have h := mif_y h c24
      refine lv_iconst (v := 0) hx hb dX10_ticks_30 (by decide) ?_
      refine lv_istore_n (lv' := [(2, .int 0), (0, .ref (X.1 96)), (1, .int i1)]) hx hb dX10_ticks_31 rfl hl (by decide) rfl (fun ls hl => ?_)
      refine lv_iconst (v := 0) hx hb dX10_ticks_32 (by decide) ?_
      refine lv_istore_n (lv' := [(3, .int 0), (2, .int 0), (0, .ref (X.1 96)), (1, .int i1)]) hx hb dX10_ticks_33 rfl hl (by decide) rfl (fun ls hl => ?_)
      exact w_X10_ticks_b34 hs mN i1 0 0 M h H locs ls hR hS (lv_sub hl [2, 3, 1, 0] rfl)
    · have h := mif_n h c24
      refine lv_bipush (v := (-2)) hx hb dX10_ticks_27 (by decide) ?_
      exact m_ir hx hb hlk hr hR hS (Option.some.inj h).symm dX10_ticks_29
  · have h := mif_y h c8
    refine lv_iconst (v := (-1)) hx hb dX10_ticks_11 (by decide) ?_
    exact m_ir hx hb hlk hr hR hS (Option.some.inj h).symm dX10_ticks_12
theorem c_X10_ticks (l : Launch) (X : mX) (i1 : Int32) (M : mM) {r : Int32 × mM} (h : f_X10_ticks i1 M = some r) : mMi l yX10_ticks cX10_ticks 4 (some .int) 10 228 X [.ref (X.1 96), .int i1] M r := m_ofi (by decide +kernel) (Nat.le_of_ble_eq_true rfl) rfl (fun p e s m args below meth c hs => w_X10_ticks hs i1 M h)
set_option maxRecDepth 100000 in
set_option maxHeartbeats 4000000 in
theorem w_X10_report_b86 {l : Launch} {X : mX} {p : Program} {e : Env} {s : State} {m : MethodId} {args : Array Value} {below : List Frame} {meth : Method} {c : Code} {r : Int32 × mM} (hs : mS X RX10 cX10_report 5 (some .int) p s m meth c) : ∀ (i4 : Int32) (s1 : Int32) (s2 : Int32) (M : mM), f_X10_report_b86 i4 s1 s2 M = some r → mG X p l e (rmF 2 44) s m args below meth c (MQ below (mQi X r.2 r.1) args s 0 0 (mL X)) 5 86 [(0, .ref (X.1 96)), (4, .int i4)] [.int s2, .int s1, .ref (X.1 97)] M := by
  obtain ⟨hx, hb, hml, hown, hF, hlk, hr⟩ := id hs
  intro i4 s1 s2 M h H locs ls hR hS hl
  obtain ⟨g86, h⟩ := mgd_e h
  obtain ⟨M86, eM86⟩ : ∃ y : mM, y = mI M 97 (Int32.toNatClampNeg s1) s2 := ⟨_, rfl⟩
  have h := mlt_n h M86 eM86
  refine m_iastL hx hb hR hS kd_97 g86 (jn := (Int32.toNatClampNeg s1)) rfl dX10_report_86 eM86 (fun H locs hR hS => ?_)
  refine lv_aload_n hx hb dX10_report_87 rfl (lv_at hl 0 rfl) ?_
  refine m_g9_1 hx hb hF hown hR kd_96 mw_5_138 dX10_report_88 ?_
  refine lv_iconst (v := 3) hx hb dX10_report_91 (by decide) ?_
  refine lv_dup2_11 hx hb dX10_report_92 rfl rfl ?_
  refine m_ialdL hx hb hR kd_97 (show mIn 3 1834 from by decide) (jn := 3) (by decide) dX10_report_93 ?_
  refine lv_iconst (v := 1) hx hb dX10_report_94 (by decide) ?_
  refine lv_iadd hx hb dX10_report_95 ?_
  obtain ⟨M96, eM96⟩ : ∃ y : mM, y = mI M86 97 3 ((M86.1 97 3) + 1) := ⟨_, rfl⟩
  have h := mlt_n h M96 eM96
  refine m_iastL hx hb hR hS kd_97 (show mIn 3 1834 from by decide) (jn := 3) (by decide) dX10_report_96 eM96 (fun H locs hR hS => ?_)
  refine lv_iload hx hb dX10_report_97 (lv_at hl 1 rfl) ?_
  exact m_ir hx hb hlk hr hR hS (Option.some.inj h).symm dX10_report_99
set_option maxRecDepth 100000 in
set_option maxHeartbeats 4000000 in
theorem w_X10_report {l : Launch} {X : mX} {p : Program} {e : Env} {s : State} {m : MethodId} {args : Array Value} {below : List Frame} {meth : Method} {c : Code} {r : Int32 × mM} (hs : mS X RX10 cX10_report 5 (some .int) p s m meth c) : ∀ (i1 : Int32) (i2 : Int32) (i3 : Int32) (M : mM), f_X10_report i1 i2 i3 M = some r → mG X p l e (rmF 2 44) s m args below meth c (MQ below (mQi X r.2 r.1) args s 0 0 (mL X)) 5 0 [(0, .ref (X.1 96)), (1, .int i1), (2, .int i2), (3, .int i3)] [] M := by
  obtain ⟨hx, hb, hml, hown, hF, hlk, hr⟩ := id hs
  intro i1 i2 i3 M h H locs ls hR hS hl
  refine lv_aload_n hx hb dX10_report_0 rfl (lv_at hl 0 rfl) ?_
  refine lv_iload_n hx hb dX10_report_1 rfl (lv_at hl 1 rfl) ?_
  obtain ⟨v2, q2, h⟩ := mbp_e h
  refine m_ci (m_rV hx hb hml hown hF hR hS (ent9 kd_96) kd_96 rfl (c_X10_isCube l X i1 M q2) q_X10_161_V hdV_X10_isCube ⟨Nat.le_of_ble_eq_true rfl, Nat.le_of_ble_eq_true rfl⟩ rfl hl.1 rfl (Nat.le_of_ble_eq_true rfl) dX10_report_2) hS (fun H locs hR hS => ?_)
  refine lv_if_eq (tgt := 23) hx hb dX10_report_5 (by decide) (fun c5 => ?_) (fun c5 => ?_)
  · have h := mif_y h c5
    refine lv_iconst (v := (-1)) hx hb dX10_report_23 (by decide) ?_
    exact m_ir hx hb hlk hr hR hS (Option.some.inj h).symm dX10_report_24
  · have h := mif_n h c5
    refine lv_aload_n hx hb dX10_report_8 rfl (lv_at hl 0 rfl) ?_
    refine lv_iload_n hx hb dX10_report_9 rfl (lv_at hl 2 rfl) ?_
    refine lv_iconst (v := 0) hx hb dX10_report_10 (by decide) ?_
    refine lv_aload_n hx hb dX10_report_11 rfl (lv_at hl 0 rfl) ?_
    refine m_g9_1 hx hb hF hown hR kd_96 mw_5_138 dX10_report_12 ?_
    refine lv_iconst (v := 5) hx hb dX10_report_15 (by decide) ?_
    refine m_ialdL hx hb hR kd_97 (show mIn 5 1834 from by decide) (jn := 5) (by decide) dX10_report_16 ?_
    refine m_ci (m_rV hx hb hml hown hF hR hS (ent9 kd_96) kd_96 rfl (c_X10_is l X i2 0 (M.1 97 5) M) q_X10_121_V hdV_X10_is ⟨Nat.le_of_ble_eq_true rfl, Nat.le_of_ble_eq_true rfl⟩ rfl hl.1 rfl (Nat.le_of_ble_eq_true rfl) dX10_report_17) hS (fun H locs hR hS => ?_)
    refine lv_if_ne (tgt := 25) hx hb dX10_report_20 (by decide) (fun c20 => ?_) (fun c20 => ?_)
    · have h := mif_n h c20
      refine lv_aload_n hx hb dX10_report_25 rfl (lv_at hl 0 rfl) ?_
      refine m_g9_1 hx hb hF hown hR kd_96 mw_5_138 dX10_report_26 ?_
      refine lv_iconst (v := 3) hx hb dX10_report_29 (by decide) ?_
      refine m_ialdL hx hb hR kd_97 (show mIn 3 1834 from by decide) (jn := 3) (by decide) dX10_report_30 ?_
      refine lv_istore (lv' := [(4, .int (M.1 97 3)), (0, .ref (X.1 96)), (1, .int i1), (2, .int i2), (3, .int i3)]) hx hb dX10_report_31 hl (by decide) rfl (fun ls hl => ?_)
      refine lv_iload hx hb dX10_report_33 (lv_at hl 0 rfl) ?_
      refine lv_bipush (v := 40) hx hb dX10_report_35 (by decide) ?_
      refine lv_icmp_ne (tgt := 43) hx hb dX10_report_37 (by decide) (fun c37 => ?_) (fun c37 => ?_)
      · have h := mif_n h c37
        refine lv_aload_n hx hb dX10_report_43 rfl (lv_at hl 1 rfl) ?_
        refine m_g9_1 hx hb hF hown hR kd_96 mw_5_138 dX10_report_44 ?_
        refine lv_sipush (v := 1594) hx hb dX10_report_47 (by decide) ?_
        refine lv_iload hx hb dX10_report_50 (lv_at hl 0 rfl) ?_
        refine lv_iadd hx hb dX10_report_52 ?_
        refine lv_iload_n hx hb dX10_report_53 rfl (lv_at hl 2 rfl) ?_
        obtain ⟨g54, h⟩ := mgd_e h
        obtain ⟨M54, eM54⟩ : ∃ y : mM, y = mI M 97 (Int32.toNatClampNeg (1594 + (M.1 97 3))) i1 := ⟨_, rfl⟩
        have h := mlt_n h M54 eM54
        refine m_iastL hx hb hR hS kd_97 g54 (jn := (Int32.toNatClampNeg (1594 + (M.1 97 3)))) rfl dX10_report_54 eM54 (fun H locs hR hS => ?_)
        refine lv_aload_n hx hb dX10_report_55 rfl (lv_at hl 1 rfl) ?_
        refine m_g9_1 hx hb hF hown hR kd_96 mw_5_138 dX10_report_56 ?_
        refine lv_sipush (v := 1634) hx hb dX10_report_59 (by decide) ?_
        refine lv_iload hx hb dX10_report_62 (lv_at hl 0 rfl) ?_
        refine lv_iadd hx hb dX10_report_64 ?_
        refine lv_iload_n hx hb dX10_report_65 rfl (lv_at hl 3 rfl) ?_
        obtain ⟨g66, h⟩ := mgd_e h
        obtain ⟨M66, eM66⟩ : ∃ y : mM, y = mI M54 97 (Int32.toNatClampNeg (1634 + (M.1 97 3))) i2 := ⟨_, rfl⟩
        have h := mlt_n h M66 eM66
        refine m_iastL hx hb hR hS kd_97 g66 (jn := (Int32.toNatClampNeg (1634 + (M.1 97 3)))) rfl dX10_report_66 eM66 (fun H locs hR hS => ?_)
        refine lv_aload_n hx hb dX10_report_67 rfl (lv_at hl 1 rfl) ?_
        refine m_g9_1 hx hb hF hown hR kd_96 mw_5_138 dX10_report_68 ?_
        refine lv_sipush (v := 1674) hx hb dX10_report_71 (by decide) ?_
        refine lv_iload hx hb dX10_report_74 (lv_at hl 0 rfl) ?_
        refine lv_iadd hx hb dX10_report_76 ?_
        refine lv_iload_n hx hb dX10_report_77 rfl (lv_at hl 4 rfl) ?_
        refine lv_if_eq (tgt := 85) hx hb dX10_report_78 (by decide) (fun c78 => ?_) (fun c78 => ?_)
        · have h := mif_y h c78
          refine lv_iconst (v := 0) hx hb dX10_report_85 (by decide) ?_
          exact w_X10_report_b86 hs (M.1 97 3) (1674 + (M.1 97 3)) 0 M66 h H locs ls hR hS (lv_sub hl [1, 0] rfl)
        · have h := mif_n h c78
          refine lv_iconst (v := 1) hx hb dX10_report_81 (by decide) ?_
          refine lv_goto (tgt := 86) hx hb dX10_report_82 (by decide) ?_
          exact w_X10_report_b86 hs (M.1 97 3) (1674 + (M.1 97 3)) 1 M66 h H locs ls hR hS (lv_sub hl [1, 0] rfl)
      · have h := mif_y h c37
        refine lv_bipush (v := (-2)) hx hb dX10_report_40 (by decide) ?_
        exact m_ir hx hb hlk hr hR hS (Option.some.inj h).symm dX10_report_42
    · have h := mif_y h c20
      refine lv_iconst (v := (-1)) hx hb dX10_report_23 (by decide) ?_
      exact m_ir hx hb hlk hr hR hS (Option.some.inj h).symm dX10_report_24
theorem c_X10_report (l : Launch) (X : mX) (i1 : Int32) (i2 : Int32) (i3 : Int32) (M : mM) {r : Int32 × mM} (h : f_X10_report i1 i2 i3 M = some r) : mMi l yX10_report cX10_report 5 (some .int) 2 44 X [.ref (X.1 96), .int i1, .int i2, .int i3] M r := m_ofi (by decide +kernel) (Nat.le_of_ble_eq_true rfl) rfl (fun p e s m args below meth c hs => w_X10_report hs i1 i2 i3 M h)
set_option maxRecDepth 100000 in
set_option maxHeartbeats 4000000 in
theorem w_X10_believedOf_b6 {l : Launch} {X : mX} {p : Program} {e : Env} {s : State} {m : MethodId} {args : Array Value} {below : List Frame} {meth : Method} {c : Code} {M : mM} {r : Int32} (hs : mS X RX10 cX10_believedOf 6 (some .int) p s m meth c) : ∀ n : Nat, ∀ (i1 : Int32) (i2 : Int32) (i3 : Int32) (i4 : Int32) (i5 : Int32), f_X10_believedOf_b6 n i1 i2 i3 i4 i5 M = some r → mG X p l e (rmF 0 0) s m args below meth c (MQ below (mQi X M r) args s 0 0 (mL X)) 6 6 [(0, .ref (X.1 96)), (1, .int i1), (2, .int i2), (3, .int i3), (4, .int i4), (5, .int i5)] [] M := by
  obtain ⟨hx, hb, hml, hown, hF, hlk, hr⟩ := id hs
  intro n
  induction n with
  | zero =>
    intro i1 i2 i3 i4 i5 h
    have h0 : (none : Option (Int32)) = some r := h
    cases h0
  | succ n ih =>
    intro i1 i2 i3 i4 i5 h H locs ls hR hS hl
    refine lv_iload hx hb dX10_believedOf_6 (lv_at hl 5 rfl) ?_
    refine lv_iload_n hx hb dX10_believedOf_8 rfl (lv_at hl 3 rfl) ?_
    refine lv_icmp_ge (tgt := 82) hx hb dX10_believedOf_9 (by decide) (fun c9 => ?_) (fun c9 => ?_)
    · have h := mif_y h c9
      refine lv_iload hx hb dX10_believedOf_82 (lv_at hl 4 rfl) ?_
      refine lv_if_ge (tgt := 91) hx hb dX10_believedOf_84 (by decide) (fun c84 => ?_) (fun c84 => ?_)
      · have h := mif_y h c84
        refine lv_aload_n hx hb dX10_believedOf_91 rfl (lv_at hl 0 rfl) ?_
        refine m_g9_1 hx hb hF hown hR kd_96 mw_5_138 dX10_believedOf_92 ?_
        refine lv_sipush (v := 1674) hx hb dX10_believedOf_95 (by decide) ?_
        refine lv_iload hx hb dX10_believedOf_98 (lv_at hl 4 rfl) ?_
        refine lv_iadd hx hb dX10_believedOf_100 ?_
        obtain ⟨g101, h⟩ := mgd_e h
        refine m_ialdL hx hb hR kd_97 g101 (jn := (Int32.toNatClampNeg (1674 + i4))) rfl dX10_believedOf_101 ?_
        exact m_ir hx hb hlk hr hR hS (congrArg (fun z => (z, M)) (Option.some.inj h).symm) dX10_believedOf_102
      · have h := mif_n h c84
        refine lv_iconst (v := 0) hx hb dX10_believedOf_87 (by decide) ?_
        refine lv_goto (tgt := 102) hx hb dX10_believedOf_88 (by decide) ?_
        exact m_ir hx hb hlk hr hR hS (congrArg (fun z => (z, M)) (Option.some.inj h).symm) dX10_believedOf_102
    · have h := mif_n h c9
      refine lv_aload_n hx hb dX10_believedOf_12 rfl (lv_at hl 0 rfl) ?_
      refine m_g9_1 hx hb hF hown hR kd_96 mw_5_138 dX10_believedOf_13 ?_
      refine lv_sipush (v := 1594) hx hb dX10_believedOf_16 (by decide) ?_
      refine lv_iload hx hb dX10_believedOf_19 (lv_at hl 5 rfl) ?_
      refine lv_iadd hx hb dX10_believedOf_21 ?_
      obtain ⟨g22, h⟩ := mgd_e h
      refine m_ialdL hx hb hR kd_97 g22 (jn := (Int32.toNatClampNeg (1594 + i5))) rfl dX10_believedOf_22 ?_
      refine lv_iload_n hx hb dX10_believedOf_23 rfl (lv_at hl 1 rfl) ?_
      refine lv_icmp_ne (tgt := 76) hx hb dX10_believedOf_24 (by decide) (fun c24 => ?_) (fun c24 => ?_)
      · have h := mif_n h c24
        obtain ⟨x76, ex76⟩ : ∃ y : Int32, y = (i5 + 1) := ⟨_, rfl⟩
        have h := mlt_n h x76 ex76
        refine lv_iinc (v := x76) (lv' := [(5, .int x76), (0, .ref (X.1 96)), (1, .int i1), (2, .int i2), (3, .int i3), (4, .int i4)]) hx hb dX10_believedOf_76 hl (k := 5) rfl (by rw [ex76]; rfl) (by decide) rfl (fun ls hl => ?_)
        refine lv_goto (tgt := 6) hx hb dX10_believedOf_79 (by decide) ?_
        exact ih i1 i2 i3 i4 x76 h H locs ls hR hS (lv_sub hl [1, 2, 3, 4, 5, 0] rfl)
      · have h := mif_y h c24
        refine lv_aload_n hx hb dX10_believedOf_27 rfl (lv_at hl 0 rfl) ?_
        refine m_g9_1 hx hb hF hown hR kd_96 mw_5_138 dX10_believedOf_28 ?_
        refine lv_sipush (v := 1634) hx hb dX10_believedOf_31 (by decide) ?_
        refine lv_iload hx hb dX10_believedOf_34 (lv_at hl 5 rfl) ?_
        refine lv_iadd hx hb dX10_believedOf_36 ?_
        obtain ⟨g37, h⟩ := mgd_e h
        refine m_ialdL hx hb hR kd_97 g37 (jn := (Int32.toNatClampNeg (1634 + i5))) rfl dX10_believedOf_37 ?_
        refine lv_iload_n hx hb dX10_believedOf_38 rfl (lv_at hl 2 rfl) ?_
        refine lv_icmp_gt (tgt := 76) hx hb dX10_believedOf_39 (by decide) (fun c39 => ?_) (fun c39 => ?_)
        · have h := mif_y h c39
          obtain ⟨x76, ex76⟩ : ∃ y : Int32, y = (i5 + 1) := ⟨_, rfl⟩
          have h := mlt_n h x76 ex76
          refine lv_iinc (v := x76) (lv' := [(5, .int x76), (0, .ref (X.1 96)), (1, .int i1), (2, .int i2), (3, .int i3), (4, .int i4)]) hx hb dX10_believedOf_76 hl (k := 5) rfl (by rw [ex76]; rfl) (by decide) rfl (fun ls hl => ?_)
          refine lv_goto (tgt := 6) hx hb dX10_believedOf_79 (by decide) ?_
          exact ih i1 i2 i3 i4 x76 h H locs ls hR hS (lv_sub hl [1, 2, 3, 4, 5, 0] rfl)
        · have h := mif_n h c39
          refine lv_iload hx hb dX10_believedOf_42 (lv_at hl 4 rfl) ?_
          refine lv_if_lt (tgt := 72) hx hb dX10_believedOf_44 (by decide) (fun c44 => ?_) (fun c44 => ?_)
          · have h := mif_y h c44
            refine lv_iload hx hb dX10_believedOf_72 (lv_at hl 5 rfl) ?_
            refine lv_istore (lv' := [(4, .int i5), (0, .ref (X.1 96)), (1, .int i1), (2, .int i2), (3, .int i3), (5, .int i5)]) hx hb dX10_believedOf_74 hl (by decide) rfl (fun ls hl => ?_)
            obtain ⟨x76, ex76⟩ : ∃ y : Int32, y = (i5 + 1) := ⟨_, rfl⟩
            have h := mlt_n h x76 ex76
            refine lv_iinc (v := x76) (lv' := [(5, .int x76), (4, .int i5), (0, .ref (X.1 96)), (1, .int i1), (2, .int i2), (3, .int i3)]) hx hb dX10_believedOf_76 hl (k := 5) rfl (by rw [ex76]; rfl) (by decide) rfl (fun ls hl => ?_)
            refine lv_goto (tgt := 6) hx hb dX10_believedOf_79 (by decide) ?_
            exact ih i1 i2 i3 i5 x76 h H locs ls hR hS (lv_sub hl [2, 3, 4, 5, 1, 0] rfl)
          · have h := mif_n h c44
            refine lv_aload_n hx hb dX10_believedOf_47 rfl (lv_at hl 0 rfl) ?_
            refine m_g9_1 hx hb hF hown hR kd_96 mw_5_138 dX10_believedOf_48 ?_
            refine lv_sipush (v := 1634) hx hb dX10_believedOf_51 (by decide) ?_
            refine lv_iload hx hb dX10_believedOf_54 (lv_at hl 5 rfl) ?_
            refine lv_iadd hx hb dX10_believedOf_56 ?_
            obtain ⟨g57, h⟩ := mgd_e h
            refine m_ialdL hx hb hR kd_97 g57 (jn := (Int32.toNatClampNeg (1634 + i5))) rfl dX10_believedOf_57 ?_
            refine lv_aload_n hx hb dX10_believedOf_58 rfl (lv_at hl 0 rfl) ?_
            refine m_g9_1 hx hb hF hown hR kd_96 mw_5_138 dX10_believedOf_59 ?_
            refine lv_sipush (v := 1634) hx hb dX10_believedOf_62 (by decide) ?_
            refine lv_iload hx hb dX10_believedOf_65 (lv_at hl 4 rfl) ?_
            refine lv_iadd hx hb dX10_believedOf_67 ?_
            obtain ⟨g68, h⟩ := mgd_e h
            refine m_ialdL hx hb hR kd_97 g68 (jn := (Int32.toNatClampNeg (1634 + i4))) rfl dX10_believedOf_68 ?_
            refine lv_icmp_lt (tgt := 76) hx hb dX10_believedOf_69 (by decide) (fun c69 => ?_) (fun c69 => ?_)
            · have h := mif_y h c69
              obtain ⟨x76, ex76⟩ : ∃ y : Int32, y = (i5 + 1) := ⟨_, rfl⟩
              have h := mlt_n h x76 ex76
              refine lv_iinc (v := x76) (lv' := [(5, .int x76), (0, .ref (X.1 96)), (1, .int i1), (2, .int i2), (3, .int i3), (4, .int i4)]) hx hb dX10_believedOf_76 hl (k := 5) rfl (by rw [ex76]; rfl) (by decide) rfl (fun ls hl => ?_)
              refine lv_goto (tgt := 6) hx hb dX10_believedOf_79 (by decide) ?_
              exact ih i1 i2 i3 i4 x76 h H locs ls hR hS (lv_sub hl [1, 2, 3, 4, 5, 0] rfl)
            · have h := mif_n h c69
              refine lv_iload hx hb dX10_believedOf_72 (lv_at hl 5 rfl) ?_
              refine lv_istore (lv' := [(4, .int i5), (0, .ref (X.1 96)), (1, .int i1), (2, .int i2), (3, .int i3), (5, .int i5)]) hx hb dX10_believedOf_74 hl (by decide) rfl (fun ls hl => ?_)
              obtain ⟨x76, ex76⟩ : ∃ y : Int32, y = (i5 + 1) := ⟨_, rfl⟩
              have h := mlt_n h x76 ex76
              refine lv_iinc (v := x76) (lv' := [(5, .int x76), (4, .int i5), (0, .ref (X.1 96)), (1, .int i1), (2, .int i2), (3, .int i3)]) hx hb dX10_believedOf_76 hl (k := 5) rfl (by rw [ex76]; rfl) (by decide) rfl (fun ls hl => ?_)
              refine lv_goto (tgt := 6) hx hb dX10_believedOf_79 (by decide) ?_
              exact ih i1 i2 i3 i5 x76 h H locs ls hR hS (lv_sub hl [2, 3, 4, 5, 1, 0] rfl)
set_option maxRecDepth 100000 in
set_option maxHeartbeats 4000000 in
theorem w_X10_believedOf {l : Launch} {X : mX} {p : Program} {e : Env} {s : State} {m : MethodId} {args : Array Value} {below : List Frame} {meth : Method} {c : Code} {M : mM} {r : Int32} (hs : mS X RX10 cX10_believedOf 6 (some .int) p s m meth c) : ∀ (i1 : Int32) (i2 : Int32) (i3 : Int32), f_X10_believedOf i1 i2 i3 M = some r → mG X p l e (rmF 0 0) s m args below meth c (MQ below (mQi X M r) args s 0 0 (mL X)) 6 0 [(0, .ref (X.1 96)), (1, .int i1), (2, .int i2), (3, .int i3)] [] M := by
  obtain ⟨hx, hb, hml, hown, hF, hlk, hr⟩ := id hs
  intro i1 i2 i3 h H locs ls hR hS hl
  refine lv_iconst (v := (-1)) hx hb dX10_believedOf_0 (by decide) ?_
  refine lv_istore (lv' := [(4, .int (-1)), (0, .ref (X.1 96)), (1, .int i1), (2, .int i2), (3, .int i3)]) hx hb dX10_believedOf_1 hl (by decide) rfl (fun ls hl => ?_)
  refine lv_iconst (v := 0) hx hb dX10_believedOf_3 (by decide) ?_
  refine lv_istore (lv' := [(5, .int 0), (4, .int (-1)), (0, .ref (X.1 96)), (1, .int i1), (2, .int i2), (3, .int i3)]) hx hb dX10_believedOf_4 hl (by decide) rfl (fun ls hl => ?_)
  exact w_X10_believedOf_b6 hs mN i1 i2 i3 (-1) 0 h H locs ls hR hS (lv_sub hl [2, 3, 4, 5, 1, 0] rfl)
theorem c_X10_believedOf (l : Launch) (X : mX) (i1 : Int32) (i2 : Int32) (i3 : Int32) (M : mM) {r : Int32} (h : f_X10_believedOf i1 i2 i3 M = some r) : mMi l yX10_believedOf cX10_believedOf 6 (some .int) 0 0 X [.ref (X.1 96), .int i1, .int i2, .int i3] M (r, M) := m_ofi (by decide +kernel) (Nat.le_of_ble_eq_true rfl) rfl (fun p e s m args below meth c hs => w_X10_believedOf hs i1 i2 i3 h)
set_option maxRecDepth 100000 in
set_option maxHeartbeats 4000000 in
theorem w_X10_first {l : Launch} {X : mX} {p : Program} {e : Env} {s : State} {m : MethodId} {args : Array Value} {below : List Frame} {meth : Method} {c : Code} {M : mM} {r : Int32} (hs : mS X RX10 cX10_first 2 (some .int) p s m meth c) : ∀ (i1 : Int32), f_X10_first i1 M = r → mG X p l e (rmF 0 0) s m args below meth c (MQ below (mQi X M r) args s 0 0 (mL X)) 2 0 [(0, .ref (X.1 96)), (1, .int i1)] [] M := by
  obtain ⟨hx, hb, hml, hown, hF, hlk, hr⟩ := id hs
  intro i1 h H locs ls hR hS hl
  refine lv_iload_n hx hb dX10_first_0 rfl (lv_at hl 1 rfl) ?_
  refine lv_if_ge (tgt := 13) hx hb dX10_first_1 (by decide) (fun c1 => ?_) (fun c1 => ?_)
  · have h := mif_y h c1
    refine lv_iload_n hx hb dX10_first_13 rfl (lv_at hl 1 rfl) ?_
    exact m_ir hx hb hlk hr hR hS (congrArg (fun z => (z, M)) h.symm) dX10_first_14
  · have h := mif_n h c1
    refine lv_aload_n hx hb dX10_first_4 rfl (lv_at hl 0 rfl) ?_
    refine m_g9_1 hx hb hF hown hR kd_96 mw_5_138 dX10_first_5 ?_
    refine lv_iconst (v := 3) hx hb dX10_first_8 (by decide) ?_
    refine m_ialdL hx hb hR kd_97 (show mIn 3 1834 from by decide) (jn := 3) (by decide) dX10_first_9 ?_
    refine lv_goto (tgt := 14) hx hb dX10_first_10 (by decide) ?_
    exact m_ir hx hb hlk hr hR hS (congrArg (fun z => (z, M)) h.symm) dX10_first_14
theorem c_X10_first (l : Launch) (X : mX) (i1 : Int32) (M : mM) : mMi l yX10_first cX10_first 2 (some .int) 0 0 X [.ref (X.1 96), .int i1] M (f_X10_first i1 M, M) := m_ofi (by decide +kernel) (Nat.le_of_ble_eq_true rfl) rfl (fun p e s m args below meth c hs => w_X10_first hs i1 rfl)
set_option maxRecDepth 100000 in
set_option maxHeartbeats 4000000 in
theorem w_X10_believed {l : Launch} {X : mX} {p : Program} {e : Env} {s : State} {m : MethodId} {args : Array Value} {below : List Frame} {meth : Method} {c : Code} {M : mM} {r : Int32} (hs : mS X RX10 cX10_believed 4 (some .int) p s m meth c) : ∀ (i1 : Int32) (i2 : Int32) (i3 : Int32), f_X10_believed i1 i2 i3 M = some r → mG X p l e (rmF 2 44) s m args below meth c (MQ below (mQi X M r) args s 0 0 (mL X)) 4 0 [(0, .ref (X.1 96)), (1, .int i1), (2, .int i2), (3, .int i3)] [] M := by
  obtain ⟨hx, hb, hml, hown, hF, hlk, hr⟩ := id hs
  intro i1 i2 i3 h H locs ls hR hS hl
  refine lv_aload_n hx hb dX10_believed_0 rfl (lv_at hl 0 rfl) ?_
  refine lv_iload_n hx hb dX10_believed_1 rfl (lv_at hl 1 rfl) ?_
  obtain ⟨v2, q2, h⟩ := mbp_e h
  refine m_ci (m_rV hx hb hml hown hF hR hS (ent9 kd_96) kd_96 rfl (c_X10_isCube l X i1 M q2) q_X10_161_V hdV_X10_isCube ⟨Nat.le_of_ble_eq_true rfl, Nat.le_of_ble_eq_true rfl⟩ rfl hl.1 rfl (Nat.le_of_ble_eq_true rfl) dX10_believed_2) hS (fun H locs hR hS => ?_)
  refine lv_if_eq (tgt := 52) hx hb dX10_believed_5 (by decide) (fun c5 => ?_) (fun c5 => ?_)
  · have h := mif_y h c5
    refine lv_iconst (v := (-1)) hx hb dX10_believed_52 (by decide) ?_
    exact m_ir hx hb hlk hr hR hS (congrArg (fun z => (z, M)) (Option.some.inj h).symm) dX10_believed_53
  · have h := mif_n h c5
    refine lv_aload_n hx hb dX10_believed_8 rfl (lv_at hl 0 rfl) ?_
    refine lv_iload_n hx hb dX10_believed_9 rfl (lv_at hl 2 rfl) ?_
    refine lv_iconst (v := 0) hx hb dX10_believed_10 (by decide) ?_
    refine lv_aload_n hx hb dX10_believed_11 rfl (lv_at hl 0 rfl) ?_
    refine m_g9_1 hx hb hF hown hR kd_96 mw_5_138 dX10_believed_12 ?_
    refine lv_iconst (v := 5) hx hb dX10_believed_15 (by decide) ?_
    refine m_ialdL hx hb hR kd_97 (show mIn 5 1834 from by decide) (jn := 5) (by decide) dX10_believed_16 ?_
    refine m_ci (m_rV hx hb hml hown hF hR hS (ent9 kd_96) kd_96 rfl (c_X10_is l X i2 0 (M.1 97 5) M) q_X10_121_V hdV_X10_is ⟨Nat.le_of_ble_eq_true rfl, Nat.le_of_ble_eq_true rfl⟩ rfl hl.1 rfl (Nat.le_of_ble_eq_true rfl) dX10_believed_17) hS (fun H locs hR hS => ?_)
    refine lv_if_eq (tgt := 52) hx hb dX10_believed_20 (by decide) (fun c20 => ?_) (fun c20 => ?_)
    · have h := mif_y h c20
      refine lv_iconst (v := (-1)) hx hb dX10_believed_52 (by decide) ?_
      exact m_ir hx hb hlk hr hR hS (congrArg (fun z => (z, M)) (Option.some.inj h).symm) dX10_believed_53
    · have h := mif_n h c20
      refine lv_aload_n hx hb dX10_believed_23 rfl (lv_at hl 0 rfl) ?_
      refine lv_iload_n hx hb dX10_believed_24 rfl (lv_at hl 3 rfl) ?_
      refine lv_iconst (v := (-1)) hx hb dX10_believed_25 (by decide) ?_
      refine lv_aload_n hx hb dX10_believed_26 rfl (lv_at hl 0 rfl) ?_
      refine m_g9_1 hx hb hF hown hR kd_96 mw_5_138 dX10_believed_27 ?_
      refine lv_iconst (v := 3) hx hb dX10_believed_30 (by decide) ?_
      refine m_ialdL hx hb hR kd_97 (show mIn 3 1834 from by decide) (jn := 3) (by decide) dX10_believed_31 ?_
      refine m_ci (m_rV hx hb hml hown hF hR hS (ent9 kd_96) kd_96 rfl (c_X10_is l X i3 (-1) (M.1 97 3) M) q_X10_121_V hdV_X10_is ⟨Nat.le_of_ble_eq_true rfl, Nat.le_of_ble_eq_true rfl⟩ rfl hl.1 rfl (Nat.le_of_ble_eq_true rfl) dX10_believed_32) hS (fun H locs hR hS => ?_)
      refine lv_if_eq (tgt := 52) hx hb dX10_believed_35 (by decide) (fun c35 => ?_) (fun c35 => ?_)
      · have h := mif_y h c35
        refine lv_iconst (v := (-1)) hx hb dX10_believed_52 (by decide) ?_
        exact m_ir hx hb hlk hr hR hS (congrArg (fun z => (z, M)) (Option.some.inj h).symm) dX10_believed_53
      · have h := mif_n h c35
        refine lv_aload_n hx hb dX10_believed_38 rfl (lv_at hl 0 rfl) ?_
        refine lv_iload_n hx hb dX10_believed_39 rfl (lv_at hl 1 rfl) ?_
        refine lv_iload_n hx hb dX10_believed_40 rfl (lv_at hl 2 rfl) ?_
        refine lv_aload_n hx hb dX10_believed_41 rfl (lv_at hl 0 rfl) ?_
        refine lv_iload_n hx hb dX10_believed_42 rfl (lv_at hl 3 rfl) ?_
        refine m_ci (m_rV hx hb hml hown hF hR hS (ent9 kd_96) kd_96 rfl (c_X10_first l X i3 M) q_X10_284_V hdV_X10_first ⟨Nat.le_of_ble_eq_true rfl, Nat.le_of_ble_eq_true rfl⟩ rfl hl.1 rfl (Nat.le_of_ble_eq_true rfl) dX10_believed_43) hS (fun H locs hR hS => ?_)
        obtain ⟨v46, q46, h⟩ := mbp_e h
        refine m_ci (m_rV hx hb hml hown hF hR hS (ent9 kd_96) kd_96 rfl (c_X10_believedOf l X i1 i2 (f_X10_first i3 M) M q46) q_X10_287_V hdV_X10_believedOf ⟨Nat.le_of_ble_eq_true rfl, Nat.le_of_ble_eq_true rfl⟩ rfl hl.1 rfl (Nat.le_of_ble_eq_true rfl) dX10_believed_46) hS (fun H locs hR hS => ?_)
        refine lv_goto (tgt := 53) hx hb dX10_believed_49 (by decide) ?_
        exact m_ir hx hb hlk hr hR hS (congrArg (fun z => (z, M)) (Option.some.inj h).symm) dX10_believed_53
theorem c_X10_believed (l : Launch) (X : mX) (i1 : Int32) (i2 : Int32) (i3 : Int32) (M : mM) {r : Int32} (h : f_X10_believed i1 i2 i3 M = some r) : mMi l yX10_believed cX10_believed 4 (some .int) 2 44 X [.ref (X.1 96), .int i1, .int i2, .int i3] M (r, M) := m_ofi (by decide +kernel) (Nat.le_of_ble_eq_true rfl) rfl (fun p e s m args below meth c hs => w_X10_believed hs i1 i2 i3 h)
set_option maxRecDepth 100000 in
set_option maxHeartbeats 4000000 in
theorem w_X10_wasDead_b5 {l : Launch} {X : mX} {p : Program} {e : Env} {s : State} {m : MethodId} {args : Array Value} {below : List Frame} {meth : Method} {c : Code} {M : mM} {r : Int32} (hs : mS X RX10 cX10_wasDead 5 (some .int) p s m meth c) : ∀ n : Nat, ∀ (i1 : Int32) (i2 : Int32) (i3 : Int32) (i4 : Int32), f_X10_wasDead_b5 n i1 i2 i3 i4 M = some r → mG X p l e (rmF 0 0) s m args below meth c (MQ below (mQi X M r) args s 0 0 (mL X)) 5 5 [(0, .ref (X.1 96)), (1, .int i1), (2, .int i2), (3, .int i3), (4, .int i4)] [] M := by
  obtain ⟨hx, hb, hml, hown, hF, hlk, hr⟩ := id hs
  intro n
  induction n with
  | zero =>
    intro i1 i2 i3 i4 h
    have h0 : (none : Option (Int32)) = some r := h
    cases h0
  | succ n ih =>
    intro i1 i2 i3 i4 h H locs ls hR hS hl
    refine lv_iload hx hb dX10_wasDead_5 (lv_at hl 4 rfl) ?_
    refine lv_aload_n hx hb dX10_wasDead_7 rfl (lv_at hl 0 rfl) ?_
    refine m_g9_1 hx hb hF hown hR kd_96 mw_5_138 dX10_wasDead_8 ?_
    refine lv_iconst (v := 4) hx hb dX10_wasDead_11 (by decide) ?_
    refine m_ialdL hx hb hR kd_97 (show mIn 4 1834 from by decide) (jn := 4) (by decide) dX10_wasDead_12 ?_
    refine lv_icmp_ge (tgt := 64) hx hb dX10_wasDead_13 (by decide) (fun c13 => ?_) (fun c13 => ?_)
    · have h := mif_y h c13
      refine lv_iload_n hx hb dX10_wasDead_64 rfl (lv_at hl 3 rfl) ?_
      exact m_ir hx hb hlk hr hR hS (congrArg (fun z => (z, M)) (Option.some.inj h).symm) dX10_wasDead_65
    · have h := mif_n h c13
      refine lv_aload_n hx hb dX10_wasDead_16 rfl (lv_at hl 0 rfl) ?_
      refine m_g9_1 hx hb hF hown hR kd_96 mw_5_138 dX10_wasDead_17 ?_
      refine lv_sipush (v := 1714) hx hb dX10_wasDead_20 (by decide) ?_
      refine lv_iload hx hb dX10_wasDead_23 (lv_at hl 4 rfl) ?_
      refine lv_iadd hx hb dX10_wasDead_25 ?_
      obtain ⟨g26, h⟩ := mgd_e h
      refine m_ialdL hx hb hR kd_97 g26 (jn := (Int32.toNatClampNeg (1714 + i4))) rfl dX10_wasDead_26 ?_
      refine lv_iload_n hx hb dX10_wasDead_27 rfl (lv_at hl 1 rfl) ?_
      refine lv_icmp_ne (tgt := 58) hx hb dX10_wasDead_28 (by decide) (fun c28 => ?_) (fun c28 => ?_)
      · have h := mif_n h c28
        obtain ⟨x58, ex58⟩ : ∃ y : Int32, y = (i4 + 1) := ⟨_, rfl⟩
        have h := mlt_n h x58 ex58
        refine lv_iinc (v := x58) (lv' := [(4, .int x58), (0, .ref (X.1 96)), (1, .int i1), (2, .int i2), (3, .int i3)]) hx hb dX10_wasDead_58 hl (k := 4) rfl (by rw [ex58]; rfl) (by decide) rfl (fun ls hl => ?_)
        refine lv_goto (tgt := 5) hx hb dX10_wasDead_61 (by decide) ?_
        exact ih i1 i2 i3 x58 h H locs ls hR hS (lv_sub hl [1, 2, 3, 4, 0] rfl)
      · have h := mif_y h c28
        refine lv_aload_n hx hb dX10_wasDead_31 rfl (lv_at hl 0 rfl) ?_
        refine m_g9_1 hx hb hF hown hR kd_96 mw_5_138 dX10_wasDead_32 ?_
        refine lv_sipush (v := 1754) hx hb dX10_wasDead_35 (by decide) ?_
        refine lv_iload hx hb dX10_wasDead_38 (lv_at hl 4 rfl) ?_
        refine lv_iadd hx hb dX10_wasDead_40 ?_
        obtain ⟨g41, h⟩ := mgd_e h
        refine m_ialdL hx hb hR kd_97 g41 (jn := (Int32.toNatClampNeg (1754 + i4))) rfl dX10_wasDead_41 ?_
        refine lv_iload_n hx hb dX10_wasDead_42 rfl (lv_at hl 2 rfl) ?_
        refine lv_icmp_gt (tgt := 58) hx hb dX10_wasDead_43 (by decide) (fun c43 => ?_) (fun c43 => ?_)
        · have h := mif_y h c43
          obtain ⟨x58, ex58⟩ : ∃ y : Int32, y = (i4 + 1) := ⟨_, rfl⟩
          have h := mlt_n h x58 ex58
          refine lv_iinc (v := x58) (lv' := [(4, .int x58), (0, .ref (X.1 96)), (1, .int i1), (2, .int i2), (3, .int i3)]) hx hb dX10_wasDead_58 hl (k := 4) rfl (by rw [ex58]; rfl) (by decide) rfl (fun ls hl => ?_)
          refine lv_goto (tgt := 5) hx hb dX10_wasDead_61 (by decide) ?_
          exact ih i1 i2 i3 x58 h H locs ls hR hS (lv_sub hl [1, 2, 3, 4, 0] rfl)
        · have h := mif_n h c43
          refine lv_aload_n hx hb dX10_wasDead_46 rfl (lv_at hl 0 rfl) ?_
          refine m_g9_1 hx hb hF hown hR kd_96 mw_5_138 dX10_wasDead_47 ?_
          refine lv_sipush (v := 1794) hx hb dX10_wasDead_50 (by decide) ?_
          refine lv_iload hx hb dX10_wasDead_53 (lv_at hl 4 rfl) ?_
          refine lv_iadd hx hb dX10_wasDead_55 ?_
          obtain ⟨g56, h⟩ := mgd_e h
          refine m_ialdL hx hb hR kd_97 g56 (jn := (Int32.toNatClampNeg (1794 + i4))) rfl dX10_wasDead_56 ?_
          refine lv_topi (fun x57 ex57 => ?_)
          have h := mlt_n h x57 ex57
          refine lv_istore_n (lv' := [(3, .int x57), (0, .ref (X.1 96)), (1, .int i1), (2, .int i2), (4, .int i4)]) hx hb dX10_wasDead_57 rfl hl (by decide) rfl (fun ls hl => ?_)
          obtain ⟨x58, ex58⟩ : ∃ y : Int32, y = (i4 + 1) := ⟨_, rfl⟩
          have h := mlt_n h x58 ex58
          refine lv_iinc (v := x58) (lv' := [(4, .int x58), (3, .int x57), (0, .ref (X.1 96)), (1, .int i1), (2, .int i2)]) hx hb dX10_wasDead_58 hl (k := 4) rfl (by rw [ex58]; rfl) (by decide) rfl (fun ls hl => ?_)
          refine lv_goto (tgt := 5) hx hb dX10_wasDead_61 (by decide) ?_
          exact ih i1 i2 x57 x58 h H locs ls hR hS (lv_sub hl [2, 3, 4, 1, 0] rfl)
set_option maxRecDepth 100000 in
set_option maxHeartbeats 4000000 in
theorem w_X10_wasDead {l : Launch} {X : mX} {p : Program} {e : Env} {s : State} {m : MethodId} {args : Array Value} {below : List Frame} {meth : Method} {c : Code} {M : mM} {r : Int32} (hs : mS X RX10 cX10_wasDead 5 (some .int) p s m meth c) : ∀ (i1 : Int32) (i2 : Int32), f_X10_wasDead i1 i2 M = some r → mG X p l e (rmF 0 0) s m args below meth c (MQ below (mQi X M r) args s 0 0 (mL X)) 5 0 [(0, .ref (X.1 96)), (1, .int i1), (2, .int i2)] [] M := by
  obtain ⟨hx, hb, hml, hown, hF, hlk, hr⟩ := id hs
  intro i1 i2 h H locs ls hR hS hl
  refine lv_iconst (v := 0) hx hb dX10_wasDead_0 (by decide) ?_
  refine lv_istore_n (lv' := [(3, .int 0), (0, .ref (X.1 96)), (1, .int i1), (2, .int i2)]) hx hb dX10_wasDead_1 rfl hl (by decide) rfl (fun ls hl => ?_)
  refine lv_iconst (v := 0) hx hb dX10_wasDead_2 (by decide) ?_
  refine lv_istore (lv' := [(4, .int 0), (3, .int 0), (0, .ref (X.1 96)), (1, .int i1), (2, .int i2)]) hx hb dX10_wasDead_3 hl (by decide) rfl (fun ls hl => ?_)
  exact w_X10_wasDead_b5 hs mN i1 i2 0 0 h H locs ls hR hS (lv_sub hl [2, 3, 4, 1, 0] rfl)
theorem c_X10_wasDead (l : Launch) (X : mX) (i1 : Int32) (i2 : Int32) (M : mM) {r : Int32} (h : f_X10_wasDead i1 i2 M = some r) : mMi l yX10_wasDead cX10_wasDead 5 (some .int) 0 0 X [.ref (X.1 96), .int i1, .int i2] M (r, M) := m_ofi (by decide +kernel) (Nat.le_of_ble_eq_true rfl) rfl (fun p e s m args below meth c hs => w_X10_wasDead hs i1 i2 h)
set_option maxRecDepth 100000 in
set_option maxHeartbeats 4000000 in
theorem w_X10_wrong_b30 {l : Launch} {X : mX} {p : Program} {e : Env} {s : State} {m : MethodId} {args : Array Value} {below : List Frame} {meth : Method} {c : Code} {M : mM} {r : Int32} (hs : mS X RX10 cX10_wrong 5 (some .int) p s m meth c) : ∀ n : Nat, ∀ (i1 : Int32) (i2 : Int32) (i3 : Int32) (i4 : Int32), f_X10_wrong_b30 n i1 i2 i3 i4 M = some r → mG X p l e (rmF 2 44) s m args below meth c (MQ below (mQi X M r) args s 0 0 (mL X)) 5 30 [(0, .ref (X.1 96)), (1, .int i1), (2, .int i2), (3, .int i3), (4, .int i4)] [] M := by
  obtain ⟨hx, hb, hml, hown, hF, hlk, hr⟩ := id hs
  intro n
  induction n with
  | zero =>
    intro i1 i2 i3 i4 h
    have h0 : (none : Option (Int32)) = some r := h
    cases h0
  | succ n ih =>
    intro i1 i2 i3 i4 h H locs ls hR hS hl
    refine lv_iload hx hb dX10_wrong_30 (lv_at hl 4 rfl) ?_
    refine lv_aload_n hx hb dX10_wrong_32 rfl (lv_at hl 0 rfl) ?_
    refine m_g9_1 hx hb hF hown hR kd_96 mw_5_138 dX10_wrong_33 ?_
    refine lv_iconst (v := 5) hx hb dX10_wrong_36 (by decide) ?_
    refine m_ialdL hx hb hR kd_97 (show mIn 5 1834 from by decide) (jn := 5) (by decide) dX10_wrong_37 ?_
    refine lv_icmp_ge (tgt := 77) hx hb dX10_wrong_38 (by decide) (fun c38 => ?_) (fun c38 => ?_)
    · have h := mif_y h c38
      refine lv_iload_n hx hb dX10_wrong_77 rfl (lv_at hl 3 rfl) ?_
      exact m_ir hx hb hlk hr hR hS (congrArg (fun z => (z, M)) (Option.some.inj h).symm) dX10_wrong_78
    · have h := mif_n h c38
      refine lv_iload_n hx hb dX10_wrong_41 rfl (lv_at hl 3 rfl) ?_
      refine lv_aload_n hx hb dX10_wrong_42 rfl (lv_at hl 0 rfl) ?_
      refine lv_iload_n hx hb dX10_wrong_43 rfl (lv_at hl 1 rfl) ?_
      refine lv_iload hx hb dX10_wrong_44 (lv_at hl 4 rfl) ?_
      refine lv_aload_n hx hb dX10_wrong_46 rfl (lv_at hl 0 rfl) ?_
      refine lv_iload_n hx hb dX10_wrong_47 rfl (lv_at hl 2 rfl) ?_
      refine m_ci (m_rV hx hb hml hown hF hR hS (ent9 kd_96) kd_96 rfl (c_X10_first l X i2 M) q_X10_284_V hdV_X10_first ⟨Nat.le_of_ble_eq_true rfl, Nat.le_of_ble_eq_true rfl⟩ rfl hl.1 rfl (Nat.le_of_ble_eq_true rfl) dX10_wrong_48) hS (fun H locs hR hS => ?_)
      obtain ⟨v51, q51, h⟩ := mbp_e h
      refine m_ci (m_rV hx hb hml hown hF hR hS (ent9 kd_96) kd_96 rfl (c_X10_believedOf l X i1 i4 (f_X10_first i2 M) M q51) q_X10_287_V hdV_X10_believedOf ⟨Nat.le_of_ble_eq_true rfl, Nat.le_of_ble_eq_true rfl⟩ rfl hl.1 rfl (Nat.le_of_ble_eq_true rfl) dX10_wrong_51) hS (fun H locs hR hS => ?_)
      refine lv_aload_n hx hb dX10_wrong_54 rfl (lv_at hl 0 rfl) ?_
      refine lv_iload_n hx hb dX10_wrong_55 rfl (lv_at hl 1 rfl) ?_
      refine lv_iload hx hb dX10_wrong_56 (lv_at hl 4 rfl) ?_
      obtain ⟨v58, q58, h⟩ := mbp_e h
      refine m_ci (m_rV hx hb hml hown hF hR hS (ent9 kd_96) kd_96 rfl (c_X10_wasDead l X i1 i4 M q58) q_X10_291_V hdV_X10_wasDead ⟨Nat.le_of_ble_eq_true rfl, Nat.le_of_ble_eq_true rfl⟩ rfl hl.1 rfl (Nat.le_of_ble_eq_true rfl) dX10_wrong_58) hS (fun H locs hR hS => ?_)
      refine lv_icmp_ne (tgt := 68) hx hb dX10_wrong_61 (by decide) (fun c61 => ?_) (fun c61 => ?_)
      · have h := mif_n h c61
        refine lv_iconst (v := 1) hx hb dX10_wrong_68 (by decide) ?_
        refine lv_iadd hx hb dX10_wrong_69 ?_
        refine lv_istore_n (lv' := [(3, .int (i3 + 1)), (0, .ref (X.1 96)), (1, .int i1), (2, .int i2), (4, .int i4)]) hx hb dX10_wrong_70 rfl hl (by decide) rfl (fun ls hl => ?_)
        obtain ⟨x71, ex71⟩ : ∃ y : Int32, y = (i4 + 1) := ⟨_, rfl⟩
        have h := mlt_n h x71 ex71
        refine lv_iinc (v := x71) (lv' := [(4, .int x71), (3, .int (i3 + 1)), (0, .ref (X.1 96)), (1, .int i1), (2, .int i2)]) hx hb dX10_wrong_71 hl (k := 4) rfl (by rw [ex71]; rfl) (by decide) rfl (fun ls hl => ?_)
        refine lv_goto (tgt := 30) hx hb dX10_wrong_74 (by decide) ?_
        exact ih i1 i2 (i3 + 1) x71 h H locs ls hR hS (lv_sub hl [2, 3, 4, 1, 0] rfl)
      · have h := mif_y h c61
        refine lv_iconst (v := 0) hx hb dX10_wrong_64 (by decide) ?_
        refine lv_goto (tgt := 69) hx hb dX10_wrong_65 (by decide) ?_
        refine lv_iadd hx hb dX10_wrong_69 ?_
        refine lv_istore_n (lv' := [(3, .int (i3 + 0)), (0, .ref (X.1 96)), (1, .int i1), (2, .int i2), (4, .int i4)]) hx hb dX10_wrong_70 rfl hl (by decide) rfl (fun ls hl => ?_)
        obtain ⟨x71, ex71⟩ : ∃ y : Int32, y = (i4 + 1) := ⟨_, rfl⟩
        have h := mlt_n h x71 ex71
        refine lv_iinc (v := x71) (lv' := [(4, .int x71), (3, .int (i3 + 0)), (0, .ref (X.1 96)), (1, .int i1), (2, .int i2)]) hx hb dX10_wrong_71 hl (k := 4) rfl (by rw [ex71]; rfl) (by decide) rfl (fun ls hl => ?_)
        refine lv_goto (tgt := 30) hx hb dX10_wrong_74 (by decide) ?_
        exact ih i1 i2 (i3 + 0) x71 h H locs ls hR hS (lv_sub hl [2, 3, 4, 1, 0] rfl)
set_option maxRecDepth 100000 in
set_option maxHeartbeats 4000000 in
theorem w_X10_wrong {l : Launch} {X : mX} {p : Program} {e : Env} {s : State} {m : MethodId} {args : Array Value} {below : List Frame} {meth : Method} {c : Code} {M : mM} {r : Int32} (hs : mS X RX10 cX10_wrong 5 (some .int) p s m meth c) : ∀ (i1 : Int32) (i2 : Int32), f_X10_wrong i1 i2 M = some r → mG X p l e (rmF 2 44) s m args below meth c (MQ below (mQi X M r) args s 0 0 (mL X)) 5 0 [(0, .ref (X.1 96)), (1, .int i1), (2, .int i2)] [] M := by
  obtain ⟨hx, hb, hml, hown, hF, hlk, hr⟩ := id hs
  intro i1 i2 h H locs ls hR hS hl
  refine lv_aload_n hx hb dX10_wrong_0 rfl (lv_at hl 0 rfl) ?_
  refine lv_iload_n hx hb dX10_wrong_1 rfl (lv_at hl 1 rfl) ?_
  obtain ⟨v2, q2, h⟩ := mbp_e h
  refine m_ci (m_rV hx hb hml hown hF hR hS (ent9 kd_96) kd_96 rfl (c_X10_isCube l X i1 M q2) q_X10_161_V hdV_X10_isCube ⟨Nat.le_of_ble_eq_true rfl, Nat.le_of_ble_eq_true rfl⟩ rfl hl.1 rfl (Nat.le_of_ble_eq_true rfl) dX10_wrong_2) hS (fun H locs hR hS => ?_)
  refine lv_if_eq (tgt := 23) hx hb dX10_wrong_5 (by decide) (fun c5 => ?_) (fun c5 => ?_)
  · have h := mif_y h c5
    refine lv_iconst (v := (-1)) hx hb dX10_wrong_23 (by decide) ?_
    exact m_ir hx hb hlk hr hR hS (congrArg (fun z => (z, M)) (Option.some.inj h).symm) dX10_wrong_24
  · have h := mif_n h c5
    refine lv_aload_n hx hb dX10_wrong_8 rfl (lv_at hl 0 rfl) ?_
    refine lv_iload_n hx hb dX10_wrong_9 rfl (lv_at hl 2 rfl) ?_
    refine lv_iconst (v := (-1)) hx hb dX10_wrong_10 (by decide) ?_
    refine lv_aload_n hx hb dX10_wrong_11 rfl (lv_at hl 0 rfl) ?_
    refine m_g9_1 hx hb hF hown hR kd_96 mw_5_138 dX10_wrong_12 ?_
    refine lv_iconst (v := 3) hx hb dX10_wrong_15 (by decide) ?_
    refine m_ialdL hx hb hR kd_97 (show mIn 3 1834 from by decide) (jn := 3) (by decide) dX10_wrong_16 ?_
    refine m_ci (m_rV hx hb hml hown hF hR hS (ent9 kd_96) kd_96 rfl (c_X10_is l X i2 (-1) (M.1 97 3) M) q_X10_121_V hdV_X10_is ⟨Nat.le_of_ble_eq_true rfl, Nat.le_of_ble_eq_true rfl⟩ rfl hl.1 rfl (Nat.le_of_ble_eq_true rfl) dX10_wrong_17) hS (fun H locs hR hS => ?_)
    refine lv_if_ne (tgt := 25) hx hb dX10_wrong_20 (by decide) (fun c20 => ?_) (fun c20 => ?_)
    · have h := mif_n h c20
      refine lv_iconst (v := 0) hx hb dX10_wrong_25 (by decide) ?_
      refine lv_istore_n (lv' := [(3, .int 0), (0, .ref (X.1 96)), (1, .int i1), (2, .int i2)]) hx hb dX10_wrong_26 rfl hl (by decide) rfl (fun ls hl => ?_)
      refine lv_iconst (v := 0) hx hb dX10_wrong_27 (by decide) ?_
      refine lv_istore (lv' := [(4, .int 0), (3, .int 0), (0, .ref (X.1 96)), (1, .int i1), (2, .int i2)]) hx hb dX10_wrong_28 hl (by decide) rfl (fun ls hl => ?_)
      exact w_X10_wrong_b30 hs mN i1 i2 0 0 h H locs ls hR hS (lv_sub hl [2, 3, 4, 1, 0] rfl)
    · have h := mif_y h c20
      refine lv_iconst (v := (-1)) hx hb dX10_wrong_23 (by decide) ?_
      exact m_ir hx hb hlk hr hR hS (congrArg (fun z => (z, M)) (Option.some.inj h).symm) dX10_wrong_24
theorem c_X10_wrong (l : Launch) (X : mX) (i1 : Int32) (i2 : Int32) (M : mM) {r : Int32} (h : f_X10_wrong i1 i2 M = some r) : mMi l yX10_wrong cX10_wrong 5 (some .int) 2 44 X [.ref (X.1 96), .int i1, .int i2] M (r, M) := m_ofi (by decide +kernel) (Nat.le_of_ble_eq_true rfl) rfl (fun p e s m args below meth c hs => w_X10_wrong hs i1 i2 h)
set_option maxRecDepth 100000 in
set_option maxHeartbeats 4000000 in
theorem w_X10_image_b2 {l : Launch} {X : mX} {p : Program} {e : Env} {s : State} {m : MethodId} {args : Array Value} {below : List Frame} {meth : Method} {c : Code} {r : Int32 × mM} (hs : mS X RX10 cX10_image 2 (some .int) p s m meth c) : ∀ n : Nat, ∀ (i1 : Int32) (M : mM), f_X10_image_b2 n i1 M = some r → mG X p l e (rmF 0 0) s m args below meth c (MQ below (mQi X r.2 r.1) args s 0 0 (mL X)) 2 2 [(0, .ref (X.1 96)), (1, .int i1)] [] M := by
  obtain ⟨hx, hb, hml, hown, hF, hlk, hr⟩ := id hs
  intro n
  induction n with
  | zero =>
    intro i1 M h
    have h0 : (none : Option (Int32 × mM)) = some r := h
    cases h0
  | succ n ih =>
    intro i1 M h H locs ls hR hS hl
    refine lv_iload_n hx hb dX10_image_2 rfl (lv_at hl 1 rfl) ?_
    refine lv_sipush (v := 1834) hx hb dX10_image_3 (by decide) ?_
    refine lv_icmp_ge (tgt := 27) hx hb dX10_image_6 (by decide) (fun c6 => ?_) (fun c6 => ?_)
    · have h := mif_y h c6
      refine lv_aload_n hx hb dX10_image_27 rfl (lv_at hl 0 rfl) ?_
      refine lv_iconst (v := 1) hx hb dX10_image_28 (by decide) ?_
      obtain ⟨M29, eM29⟩ : ∃ y : mM, y = mI M 96 3 1 := ⟨_, rfl⟩
      have h := mlt_n h M29 eM29
      refine m_p9_3 hx hb hF hown hR hS kd_96 mw_5_140 dX10_image_29 (Or.inr rfl) eM29 (fun H locs hR hS => ?_)
      refine lv_aload_n hx hb dX10_image_32 rfl (lv_at hl 0 rfl) ?_
      refine m_g9_1 hx hb hF hown hR kd_96 mw_5_138 dX10_image_33 ?_
      refine lv_iconst (v := 5) hx hb dX10_image_36 (by decide) ?_
      refine m_ialdL hx hb hR kd_97 (show mIn 5 1834 from by decide) (jn := 5) (by decide) dX10_image_37 ?_
      exact m_ir hx hb hlk hr hR hS (Option.some.inj h).symm dX10_image_38
    · have h := mif_n h c6
      refine lv_aload_n hx hb dX10_image_9 rfl (lv_at hl 0 rfl) ?_
      refine m_g9_2 hx hb hF hown hR kd_96 mw_5_139 dX10_image_10 ?_
      refine lv_iload_n hx hb dX10_image_13 rfl (lv_at hl 1 rfl) ?_
      refine lv_aload_n hx hb dX10_image_14 rfl (lv_at hl 0 rfl) ?_
      refine m_g9_1 hx hb hF hown hR kd_96 mw_5_138 dX10_image_15 ?_
      refine lv_iload_n hx hb dX10_image_18 rfl (lv_at hl 1 rfl) ?_
      obtain ⟨g19, h⟩ := mgd_e h
      refine m_ialdL hx hb hR kd_97 g19 (jn := (Int32.toNatClampNeg i1)) rfl dX10_image_19 ?_
      obtain ⟨g20, h⟩ := mgd_e h
      obtain ⟨M20, eM20⟩ : ∃ y : mM, y = mI M 98 (Int32.toNatClampNeg i1) (M.1 97 (Int32.toNatClampNeg i1)) := ⟨_, rfl⟩
      have h := mlt_n h M20 eM20
      refine m_iastL hx hb hR hS kd_98 g20 (jn := (Int32.toNatClampNeg i1)) rfl dX10_image_20 eM20 (fun H locs hR hS => ?_)
      obtain ⟨x21, ex21⟩ : ∃ y : Int32, y = (i1 + 1) := ⟨_, rfl⟩
      have h := mlt_n h x21 ex21
      refine lv_iinc (v := x21) (lv' := [(1, .int x21), (0, .ref (X.1 96))]) hx hb dX10_image_21 hl (k := 1) rfl (by rw [ex21]; rfl) (by decide) rfl (fun ls hl => ?_)
      refine lv_goto (tgt := 2) hx hb dX10_image_24 (by decide) ?_
      exact ih x21 M20 h H locs ls hR hS (lv_sub hl [1, 0] rfl)
set_option maxRecDepth 100000 in
set_option maxHeartbeats 4000000 in
theorem w_X10_image {l : Launch} {X : mX} {p : Program} {e : Env} {s : State} {m : MethodId} {args : Array Value} {below : List Frame} {meth : Method} {c : Code} {r : Int32 × mM} (hs : mS X RX10 cX10_image 2 (some .int) p s m meth c) : ∀  (M : mM), f_X10_image  M = some r → mG X p l e (rmF 0 0) s m args below meth c (MQ below (mQi X r.2 r.1) args s 0 0 (mL X)) 2 0 [(0, .ref (X.1 96))] [] M := by
  obtain ⟨hx, hb, hml, hown, hF, hlk, hr⟩ := id hs
  intro M h H locs ls hR hS hl
  refine lv_iconst (v := 0) hx hb dX10_image_0 (by decide) ?_
  refine lv_istore_n (lv' := [(1, .int 0), (0, .ref (X.1 96))]) hx hb dX10_image_1 rfl hl (by decide) rfl (fun ls hl => ?_)
  exact w_X10_image_b2 hs mN 0 M h H locs ls hR hS (lv_sub hl [1, 0] rfl)
theorem c_X10_image (l : Launch) (X : mX) (M : mM) {r : Int32 × mM} (h : f_X10_image M = some r) : mMi l yX10_image cX10_image 2 (some .int) 0 0 X [.ref (X.1 96)] M r := m_ofi (by decide +kernel) (Nat.le_of_ble_eq_true rfl) rfl (fun p e s m args below meth c hs => w_X10_image hs M h)
set_option maxRecDepth 100000 in
set_option maxHeartbeats 4000000 in
theorem w_X10_restore_b60 {l : Launch} {X : mX} {p : Program} {e : Env} {s : State} {m : MethodId} {args : Array Value} {below : List Frame} {meth : Method} {c : Code} {r : Int32 × mM} (hs : mS X RX10 cX10_restore 2 (some .int) p s m meth c) : ∀ n : Nat, ∀ (i1 : Int32) (M : mM), f_X10_restore_b60 n i1 M = some r → mG X p l e (rmF 0 0) s m args below meth c (MQ below (mQi X r.2 r.1) args s 0 0 (mL X)) 2 60 [(0, .ref (X.1 96)), (1, .int i1)] [] M := by
  obtain ⟨hx, hb, hml, hown, hF, hlk, hr⟩ := id hs
  intro n
  induction n with
  | zero =>
    intro i1 M h
    have h0 : (none : Option (Int32 × mM)) = some r := h
    cases h0
  | succ n ih =>
    intro i1 M h H locs ls hR hS hl
    refine lv_iload_n hx hb dX10_restore_60 rfl (lv_at hl 1 rfl) ?_
    refine lv_aload_n hx hb dX10_restore_61 rfl (lv_at hl 0 rfl) ?_
    refine m_g9_1 hx hb hF hown hR kd_96 mw_5_138 dX10_restore_62 ?_
    refine lv_iconst (v := 0) hx hb dX10_restore_65 (by decide) ?_
    refine m_ialdL hx hb hR kd_97 (show mIn 0 1834 from by decide) (jn := 0) (by decide) dX10_restore_66 ?_
    refine lv_icmp_ge (tgt := 106) hx hb dX10_restore_67 (by decide) (fun c67 => ?_) (fun c67 => ?_)
    · have h := mif_y h c67
      refine lv_aload_n hx hb dX10_restore_106 rfl (lv_at hl 0 rfl) ?_
      refine m_g9_1 hx hb hF hown hR kd_96 mw_5_138 dX10_restore_107 ?_
      refine lv_iconst (v := 5) hx hb dX10_restore_110 (by decide) ?_
      refine m_ialdL hx hb hR kd_97 (show mIn 5 1834 from by decide) (jn := 5) (by decide) dX10_restore_111 ?_
      exact m_ir hx hb hlk hr hR hS (Option.some.inj h).symm dX10_restore_112
    · have h := mif_n h c67
      refine lv_aload_n hx hb dX10_restore_70 rfl (lv_at hl 0 rfl) ?_
      refine m_g9_4 hx hb hF hown hR kd_96 mw_5_141 dX10_restore_71 ?_
      refine lv_bipush (v := 8) hx hb dX10_restore_74 (by decide) ?_
      refine lv_aload_n hx hb dX10_restore_76 rfl (lv_at hl 0 rfl) ?_
      refine m_g9_1 hx hb hF hown hR kd_96 mw_5_138 dX10_restore_77 ?_
      refine lv_bipush (v := 26) hx hb dX10_restore_80 (by decide) ?_
      refine lv_iload_n hx hb dX10_restore_82 rfl (lv_at hl 1 rfl) ?_
      refine lv_iadd hx hb dX10_restore_83 ?_
      obtain ⟨g84, h⟩ := mgd_e h
      refine m_ialdL hx hb hR kd_97 g84 (jn := (Int32.toNatClampNeg (26 + i1))) rfl dX10_restore_84 ?_
      refine lv_imul hx hb dX10_restore_85 ?_
      refine lv_aload_n hx hb dX10_restore_86 rfl (lv_at hl 0 rfl) ?_
      refine m_g9_1 hx hb hF hown hR kd_96 mw_5_138 dX10_restore_87 ?_
      refine lv_bipush (v := 42) hx hb dX10_restore_90 (by decide) ?_
      refine lv_iload_n hx hb dX10_restore_92 rfl (lv_at hl 1 rfl) ?_
      refine lv_iadd hx hb dX10_restore_93 ?_
      obtain ⟨g94, h⟩ := mgd_e h
      refine m_ialdL hx hb hR kd_97 g94 (jn := (Int32.toNatClampNeg (42 + i1))) rfl dX10_restore_94 ?_
      refine lv_iadd hx hb dX10_restore_95 ?_
      refine lv_iload_n hx hb dX10_restore_96 rfl (lv_at hl 1 rfl) ?_
      refine lv_iconst (v := 1) hx hb dX10_restore_97 (by decide) ?_
      refine lv_iadd hx hb dX10_restore_98 ?_
      obtain ⟨g99, h⟩ := mgd_e h
      obtain ⟨M99, eM99⟩ : ∃ y : mM, y = mI M 99 (Int32.toNatClampNeg ((8 * (M.1 97 (Int32.toNatClampNeg (26 + i1)))) + (M.1 97 (Int32.toNatClampNeg (42 + i1))))) (i1 + 1) := ⟨_, rfl⟩
      have h := mlt_n h M99 eM99
      refine m_iastL hx hb hR hS kd_99 g99 (jn := (Int32.toNatClampNeg ((8 * (M.1 97 (Int32.toNatClampNeg (26 + i1)))) + (M.1 97 (Int32.toNatClampNeg (42 + i1)))))) rfl dX10_restore_99 eM99 (fun H locs hR hS => ?_)
      obtain ⟨x100, ex100⟩ : ∃ y : Int32, y = (i1 + 1) := ⟨_, rfl⟩
      have h := mlt_n h x100 ex100
      refine lv_iinc (v := x100) (lv' := [(1, .int x100), (0, .ref (X.1 96))]) hx hb dX10_restore_100 hl (k := 1) rfl (by rw [ex100]; rfl) (by decide) rfl (fun ls hl => ?_)
      refine lv_goto (tgt := 60) hx hb dX10_restore_103 (by decide) ?_
      exact ih x100 M99 h H locs ls hR hS (lv_sub hl [1, 0] rfl)
set_option maxRecDepth 100000 in
set_option maxHeartbeats 4000000 in
theorem w_X10_restore_b39 {l : Launch} {X : mX} {p : Program} {e : Env} {s : State} {m : MethodId} {args : Array Value} {below : List Frame} {meth : Method} {c : Code} {r : Int32 × mM} (hs : mS X RX10 cX10_restore 2 (some .int) p s m meth c) : ∀ n : Nat, ∀ (i1 : Int32) (M : mM), f_X10_restore_b39 n i1 M = some r → mG X p l e (rmF 0 0) s m args below meth c (MQ below (mQi X r.2 r.1) args s 0 0 (mL X)) 2 39 [(0, .ref (X.1 96)), (1, .int i1)] [] M := by
  obtain ⟨hx, hb, hml, hown, hF, hlk, hr⟩ := id hs
  intro n
  induction n with
  | zero =>
    intro i1 M h
    have h0 : (none : Option (Int32 × mM)) = some r := h
    cases h0
  | succ n ih =>
    intro i1 M h H locs ls hR hS hl
    refine lv_iload_n hx hb dX10_restore_39 rfl (lv_at hl 1 rfl) ?_
    refine lv_bipush (v := 80) hx hb dX10_restore_40 (by decide) ?_
    refine lv_icmp_ge (tgt := 58) hx hb dX10_restore_42 (by decide) (fun c42 => ?_) (fun c42 => ?_)
    · have h := mif_y h c42
      refine lv_iconst (v := 0) hx hb dX10_restore_58 (by decide) ?_
      refine lv_istore_n (lv' := [(1, .int 0), (0, .ref (X.1 96))]) hx hb dX10_restore_59 rfl hl (by decide) rfl (fun ls hl => ?_)
      exact w_X10_restore_b60 hs mN 0 M h H locs ls hR hS (lv_sub hl [1, 0] rfl)
    · have h := mif_n h c42
      refine lv_aload_n hx hb dX10_restore_45 rfl (lv_at hl 0 rfl) ?_
      refine m_g9_4 hx hb hF hown hR kd_96 mw_5_141 dX10_restore_46 ?_
      refine lv_iload_n hx hb dX10_restore_49 rfl (lv_at hl 1 rfl) ?_
      refine lv_iconst (v := 0) hx hb dX10_restore_50 (by decide) ?_
      obtain ⟨g51, h⟩ := mgd_e h
      obtain ⟨M51, eM51⟩ : ∃ y : mM, y = mI M 99 (Int32.toNatClampNeg i1) 0 := ⟨_, rfl⟩
      have h := mlt_n h M51 eM51
      refine m_iastL hx hb hR hS kd_99 g51 (jn := (Int32.toNatClampNeg i1)) rfl dX10_restore_51 eM51 (fun H locs hR hS => ?_)
      obtain ⟨x52, ex52⟩ : ∃ y : Int32, y = (i1 + 1) := ⟨_, rfl⟩
      have h := mlt_n h x52 ex52
      refine lv_iinc (v := x52) (lv' := [(1, .int x52), (0, .ref (X.1 96))]) hx hb dX10_restore_52 hl (k := 1) rfl (by rw [ex52]; rfl) (by decide) rfl (fun ls hl => ?_)
      refine lv_goto (tgt := 39) hx hb dX10_restore_55 (by decide) ?_
      exact ih x52 M51 h H locs ls hR hS (lv_sub hl [1, 0] rfl)
set_option maxRecDepth 100000 in
set_option maxHeartbeats 4000000 in
theorem w_X10_restore_b12 {l : Launch} {X : mX} {p : Program} {e : Env} {s : State} {m : MethodId} {args : Array Value} {below : List Frame} {meth : Method} {c : Code} {r : Int32 × mM} (hs : mS X RX10 cX10_restore 2 (some .int) p s m meth c) : ∀ n : Nat, ∀ (i1 : Int32) (M : mM), f_X10_restore_b12 n i1 M = some r → mG X p l e (rmF 0 0) s m args below meth c (MQ below (mQi X r.2 r.1) args s 0 0 (mL X)) 2 12 [(0, .ref (X.1 96)), (1, .int i1)] [] M := by
  obtain ⟨hx, hb, hml, hown, hF, hlk, hr⟩ := id hs
  intro n
  induction n with
  | zero =>
    intro i1 M h
    have h0 : (none : Option (Int32 × mM)) = some r := h
    cases h0
  | succ n ih =>
    intro i1 M h H locs ls hR hS hl
    refine lv_iload_n hx hb dX10_restore_12 rfl (lv_at hl 1 rfl) ?_
    refine lv_sipush (v := 1834) hx hb dX10_restore_13 (by decide) ?_
    refine lv_icmp_ge (tgt := 37) hx hb dX10_restore_16 (by decide) (fun c16 => ?_) (fun c16 => ?_)
    · have h := mif_y h c16
      refine lv_iconst (v := 0) hx hb dX10_restore_37 (by decide) ?_
      refine lv_istore_n (lv' := [(1, .int 0), (0, .ref (X.1 96))]) hx hb dX10_restore_38 rfl hl (by decide) rfl (fun ls hl => ?_)
      exact w_X10_restore_b39 hs mN 0 M h H locs ls hR hS (lv_sub hl [1, 0] rfl)
    · have h := mif_n h c16
      refine lv_aload_n hx hb dX10_restore_19 rfl (lv_at hl 0 rfl) ?_
      refine m_g9_1 hx hb hF hown hR kd_96 mw_5_138 dX10_restore_20 ?_
      refine lv_iload_n hx hb dX10_restore_23 rfl (lv_at hl 1 rfl) ?_
      refine lv_aload_n hx hb dX10_restore_24 rfl (lv_at hl 0 rfl) ?_
      refine m_g9_2 hx hb hF hown hR kd_96 mw_5_139 dX10_restore_25 ?_
      refine lv_iload_n hx hb dX10_restore_28 rfl (lv_at hl 1 rfl) ?_
      obtain ⟨g29, h⟩ := mgd_e h
      refine m_ialdL hx hb hR kd_98 g29 (jn := (Int32.toNatClampNeg i1)) rfl dX10_restore_29 ?_
      obtain ⟨g30, h⟩ := mgd_e h
      obtain ⟨M30, eM30⟩ : ∃ y : mM, y = mI M 97 (Int32.toNatClampNeg i1) (M.1 98 (Int32.toNatClampNeg i1)) := ⟨_, rfl⟩
      have h := mlt_n h M30 eM30
      refine m_iastL hx hb hR hS kd_97 g30 (jn := (Int32.toNatClampNeg i1)) rfl dX10_restore_30 eM30 (fun H locs hR hS => ?_)
      obtain ⟨x31, ex31⟩ : ∃ y : Int32, y = (i1 + 1) := ⟨_, rfl⟩
      have h := mlt_n h x31 ex31
      refine lv_iinc (v := x31) (lv' := [(1, .int x31), (0, .ref (X.1 96))]) hx hb dX10_restore_31 hl (k := 1) rfl (by rw [ex31]; rfl) (by decide) rfl (fun ls hl => ?_)
      refine lv_goto (tgt := 12) hx hb dX10_restore_34 (by decide) ?_
      exact ih x31 M30 h H locs ls hR hS (lv_sub hl [1, 0] rfl)
set_option maxRecDepth 100000 in
set_option maxHeartbeats 4000000 in
theorem w_X10_restore {l : Launch} {X : mX} {p : Program} {e : Env} {s : State} {m : MethodId} {args : Array Value} {below : List Frame} {meth : Method} {c : Code} {r : Int32 × mM} (hs : mS X RX10 cX10_restore 2 (some .int) p s m meth c) : ∀  (M : mM), f_X10_restore  M = some r → mG X p l e (rmF 0 0) s m args below meth c (MQ below (mQi X r.2 r.1) args s 0 0 (mL X)) 2 0 [(0, .ref (X.1 96))] [] M := by
  obtain ⟨hx, hb, hml, hown, hF, hlk, hr⟩ := id hs
  intro M h H locs ls hR hS hl
  refine lv_aload_n hx hb dX10_restore_0 rfl (lv_at hl 0 rfl) ?_
  refine m_g9_3 hx hb hF hown hR kd_96 mw_5_140 dX10_restore_1 ?_
  refine lv_if_ne (tgt := 10) hx hb dX10_restore_4 (by decide) (fun c4 => ?_) (fun c4 => ?_)
  · have h := mif_n h c4
    refine lv_iconst (v := 0) hx hb dX10_restore_10 (by decide) ?_
    refine lv_istore_n (lv' := [(1, .int 0), (0, .ref (X.1 96))]) hx hb dX10_restore_11 rfl hl (by decide) rfl (fun ls hl => ?_)
    exact w_X10_restore_b12 hs mN 0 M h H locs ls hR hS (lv_sub hl [1, 0] rfl)
  · have h := mif_y h c4
    refine lv_bipush (v := (-3)) hx hb dX10_restore_7 (by decide) ?_
    exact m_ir hx hb hlk hr hR hS (Option.some.inj h).symm dX10_restore_9
theorem c_X10_restore (l : Launch) (X : mX) (M : mM) {r : Int32 × mM} (h : f_X10_restore M = some r) : mMi l yX10_restore cX10_restore 2 (some .int) 0 0 X [.ref (X.1 96)] M r := m_ofi (by decide +kernel) (Nat.le_of_ble_eq_true rfl) rfl (fun p e s m args below meth c hs => w_X10_restore hs M h)
set_option maxRecDepth 100000 in
set_option maxHeartbeats 4000000 in
theorem w_X10_count_b61 {l : Launch} {X : mX} {p : Program} {e : Env} {s : State} {m : MethodId} {args : Array Value} {below : List Frame} {meth : Method} {c : Code} {M : mM} {r : Int32} (hs : mS X RX10 cX10_count 4 (some .int) p s m meth c) : ∀ n : Nat, ∀ (i2 : Int32) (i3 : Int32), f_X10_count_b61 n i2 i3 M = some r → mG X p l e (rmF 1 21) s m args below meth c (MQ below (mQi X M r) args s 0 0 (mL X)) 4 61 [(0, .ref (X.1 96)), (2, .int i2), (3, .int i3)] [] M := by
  obtain ⟨hx, hb, hml, hown, hF, hlk, hr⟩ := id hs
  intro n
  induction n with
  | zero =>
    intro i2 i3 h
    have h0 : (none : Option (Int32)) = some r := h
    cases h0
  | succ n ih =>
    intro i2 i3 h H locs ls hR hS hl
    refine lv_iload_n hx hb dX10_count_61 rfl (lv_at hl 2 rfl) ?_
    refine lv_aload_n hx hb dX10_count_62 rfl (lv_at hl 0 rfl) ?_
    refine m_g9_1 hx hb hF hown hR kd_96 mw_5_138 dX10_count_63 ?_
    refine lv_iconst (v := 0) hx hb dX10_count_66 (by decide) ?_
    refine m_ialdL hx hb hR kd_97 (show mIn 0 1834 from by decide) (jn := 0) (by decide) dX10_count_67 ?_
    refine lv_icmp_ge (tgt := 89) hx hb dX10_count_68 (by decide) (fun c68 => ?_) (fun c68 => ?_)
    · have h := mif_y h c68
      refine lv_iload_n hx hb dX10_count_89 rfl (lv_at hl 1 rfl) ?_
      exact m_ir hx hb hlk hr hR hS (congrArg (fun z => (z, M)) (Option.some.inj h).symm) dX10_count_90
    · have h := mif_n h c68
      refine lv_iload_n hx hb dX10_count_71 rfl (lv_at hl 1 rfl) ?_
      refine lv_aload_n hx hb dX10_count_72 rfl (lv_at hl 0 rfl) ?_
      refine m_g9_1 hx hb hF hown hR kd_96 mw_5_138 dX10_count_73 ?_
      refine lv_bipush (v := 74) hx hb dX10_count_76 (by decide) ?_
      refine lv_iload_n hx hb dX10_count_78 rfl (lv_at hl 2 rfl) ?_
      refine lv_iadd hx hb dX10_count_79 ?_
      obtain ⟨g80, h⟩ := mgd_e h
      refine m_ialdL hx hb hR kd_97 g80 (jn := (Int32.toNatClampNeg (74 + i3))) rfl dX10_count_80 ?_
      refine lv_iadd hx hb dX10_count_81 ?_
      refine lv_topi (fun x82 ex82 => ?_)
      have h := mlt_n h x82 ex82
      refine lv_istore_n (lv' := [(2, .int x82), (0, .ref (X.1 96)), (3, .int i3)]) hx hb dX10_count_82 rfl hl (by decide) rfl (fun ls hl => ?_)
      obtain ⟨x83, ex83⟩ : ∃ y : Int32, y = (i3 + 1) := ⟨_, rfl⟩
      have h := mlt_n h x83 ex83
      refine lv_iinc (v := x83) (lv' := [(3, .int x83), (2, .int x82), (0, .ref (X.1 96))]) hx hb dX10_count_83 hl (k := 2) rfl (by rw [ex83]; rfl) (by decide) rfl (fun ls hl => ?_)
      refine lv_goto (tgt := 61) hx hb dX10_count_86 (by decide) ?_
      exact ih x82 x83 h H locs ls hR hS (lv_sub hl [2, 1, 0] rfl)
set_option maxRecDepth 100000 in
set_option maxHeartbeats 4000000 in
theorem w_X10_count_b93 {l : Launch} {X : mX} {p : Program} {e : Env} {s : State} {m : MethodId} {args : Array Value} {below : List Frame} {meth : Method} {c : Code} {M : mM} {r : Int32} (hs : mS X RX10 cX10_count 4 (some .int) p s m meth c) : ∀ n : Nat, ∀ (i2 : Int32) (i3 : Int32), f_X10_count_b93 n i2 i3 M = some r → mG X p l e (rmF 1 21) s m args below meth c (MQ below (mQi X M r) args s 0 0 (mL X)) 4 93 [(0, .ref (X.1 96)), (2, .int i2), (3, .int i3)] [] M := by
  obtain ⟨hx, hb, hml, hown, hF, hlk, hr⟩ := id hs
  intro n
  induction n with
  | zero =>
    intro i2 i3 h
    have h0 : (none : Option (Int32)) = some r := h
    cases h0
  | succ n ih =>
    intro i2 i3 h H locs ls hR hS hl
    refine lv_iload_n hx hb dX10_count_93 rfl (lv_at hl 2 rfl) ?_
    refine lv_aload_n hx hb dX10_count_94 rfl (lv_at hl 0 rfl) ?_
    refine m_g9_1 hx hb hF hown hR kd_96 mw_5_138 dX10_count_95 ?_
    refine lv_iconst (v := 0) hx hb dX10_count_98 (by decide) ?_
    refine m_ialdL hx hb hR kd_97 (show mIn 0 1834 from by decide) (jn := 0) (by decide) dX10_count_99 ?_
    refine lv_icmp_ge (tgt := 121) hx hb dX10_count_100 (by decide) (fun c100 => ?_) (fun c100 => ?_)
    · have h := mif_y h c100
      refine lv_iload_n hx hb dX10_count_121 rfl (lv_at hl 1 rfl) ?_
      exact m_ir hx hb hlk hr hR hS (congrArg (fun z => (z, M)) (Option.some.inj h).symm) dX10_count_122
    · have h := mif_n h c100
      refine lv_iload_n hx hb dX10_count_103 rfl (lv_at hl 1 rfl) ?_
      refine lv_aload_n hx hb dX10_count_104 rfl (lv_at hl 0 rfl) ?_
      refine m_g9_1 hx hb hF hown hR kd_96 mw_5_138 dX10_count_105 ?_
      refine lv_bipush (v := 58) hx hb dX10_count_108 (by decide) ?_
      refine lv_iload_n hx hb dX10_count_110 rfl (lv_at hl 2 rfl) ?_
      refine lv_iadd hx hb dX10_count_111 ?_
      obtain ⟨g112, h⟩ := mgd_e h
      refine m_ialdL hx hb hR kd_97 g112 (jn := (Int32.toNatClampNeg (58 + i3))) rfl dX10_count_112 ?_
      refine lv_iadd hx hb dX10_count_113 ?_
      refine lv_topi (fun x114 ex114 => ?_)
      have h := mlt_n h x114 ex114
      refine lv_istore_n (lv' := [(2, .int x114), (0, .ref (X.1 96)), (3, .int i3)]) hx hb dX10_count_114 rfl hl (by decide) rfl (fun ls hl => ?_)
      obtain ⟨x115, ex115⟩ : ∃ y : Int32, y = (i3 + 1) := ⟨_, rfl⟩
      have h := mlt_n h x115 ex115
      refine lv_iinc (v := x115) (lv' := [(3, .int x115), (2, .int x114), (0, .ref (X.1 96))]) hx hb dX10_count_115 hl (k := 2) rfl (by rw [ex115]; rfl) (by decide) rfl (fun ls hl => ?_)
      refine lv_goto (tgt := 93) hx hb dX10_count_118 (by decide) ?_
      exact ih x114 x115 h H locs ls hR hS (lv_sub hl [2, 1, 0] rfl)
set_option maxRecDepth 100000 in
set_option maxHeartbeats 4000000 in
theorem w_X10_count_b153 {l : Launch} {X : mX} {p : Program} {e : Env} {s : State} {m : MethodId} {args : Array Value} {below : List Frame} {meth : Method} {c : Code} {M : mM} {r : Int32} (hs : mS X RX10 cX10_count 4 (some .int) p s m meth c) : ∀ n : Nat, ∀ (i2 : Int32) (i3 : Int32), f_X10_count_b153 n i2 i3 M = some r → mG X p l e (rmF 1 21) s m args below meth c (MQ below (mQi X M r) args s 0 0 (mL X)) 4 153 [(0, .ref (X.1 96)), (2, .int i2), (3, .int i3)] [] M := by
  obtain ⟨hx, hb, hml, hown, hF, hlk, hr⟩ := id hs
  intro n
  induction n with
  | zero =>
    intro i2 i3 h
    have h0 : (none : Option (Int32)) = some r := h
    cases h0
  | succ n ih =>
    intro i2 i3 h H locs ls hR hS hl
    refine lv_iload_n hx hb dX10_count_153 rfl (lv_at hl 2 rfl) ?_
    refine lv_aload_n hx hb dX10_count_154 rfl (lv_at hl 0 rfl) ?_
    refine m_g9_1 hx hb hF hown hR kd_96 mw_5_138 dX10_count_155 ?_
    refine lv_iconst (v := 0) hx hb dX10_count_158 (by decide) ?_
    refine m_ialdL hx hb hR kd_97 (show mIn 0 1834 from by decide) (jn := 0) (by decide) dX10_count_159 ?_
    refine lv_icmp_ge (tgt := 185) hx hb dX10_count_160 (by decide) (fun c160 => ?_) (fun c160 => ?_)
    · have h := mif_y h c160
      refine lv_iload_n hx hb dX10_count_185 rfl (lv_at hl 1 rfl) ?_
      exact m_ir hx hb hlk hr hR hS (congrArg (fun z => (z, M)) (Option.some.inj h).symm) dX10_count_186
    · have h := mif_n h c160
      refine lv_iload_n hx hb dX10_count_163 rfl (lv_at hl 1 rfl) ?_
      refine lv_aload_n hx hb dX10_count_164 rfl (lv_at hl 0 rfl) ?_
      refine lv_aload_n hx hb dX10_count_165 rfl (lv_at hl 0 rfl) ?_
      refine m_g9_1 hx hb hF hown hR kd_96 mw_5_138 dX10_count_166 ?_
      refine lv_bipush (v := 10) hx hb dX10_count_169 (by decide) ?_
      refine lv_iload_n hx hb dX10_count_171 rfl (lv_at hl 2 rfl) ?_
      refine lv_iadd hx hb dX10_count_172 ?_
      obtain ⟨g173, h⟩ := mgd_e h
      refine m_ialdL hx hb hR kd_97 g173 (jn := (Int32.toNatClampNeg (10 + i3))) rfl dX10_count_173 ?_
      refine m_ci (m_rV hx hb hml hown hF hR hS (ent9 kd_96) kd_96 rfl (c_X10_weightOf l X (M.1 97 (Int32.toNatClampNeg (10 + i3))) M) q_X10_148_V hdV_X10_weightOf ⟨Nat.le_of_ble_eq_true rfl, Nat.le_of_ble_eq_true rfl⟩ rfl hl.1 rfl (Nat.le_of_ble_eq_true rfl) dX10_count_174) hS (fun H locs hR hS => ?_)
      refine lv_iadd hx hb dX10_count_177 ?_
      refine lv_topi (fun x178 ex178 => ?_)
      have h := mlt_n h x178 ex178
      refine lv_istore_n (lv' := [(2, .int x178), (0, .ref (X.1 96)), (3, .int i3)]) hx hb dX10_count_178 rfl hl (by decide) rfl (fun ls hl => ?_)
      obtain ⟨x179, ex179⟩ : ∃ y : Int32, y = (i3 + 1) := ⟨_, rfl⟩
      have h := mlt_n h x179 ex179
      refine lv_iinc (v := x179) (lv' := [(3, .int x179), (2, .int x178), (0, .ref (X.1 96))]) hx hb dX10_count_179 hl (k := 2) rfl (by rw [ex179]; rfl) (by decide) rfl (fun ls hl => ?_)
      refine lv_goto (tgt := 153) hx hb dX10_count_182 (by decide) ?_
      exact ih x178 x179 h H locs ls hR hS (lv_sub hl [2, 1, 0] rfl)
set_option maxRecDepth 100000 in
set_option maxHeartbeats 4000000 in
theorem w_X10_count {l : Launch} {X : mX} {p : Program} {e : Env} {s : State} {m : MethodId} {args : Array Value} {below : List Frame} {meth : Method} {c : Code} {M : mM} {r : Int32} (hs : mS X RX10 cX10_count 4 (some .int) p s m meth c) : ∀ (i1 : Int32), f_X10_count i1 M = some r → mG X p l e (rmF 1 21) s m args below meth c (MQ below (mQi X M r) args s 0 0 (mL X)) 4 0 [(0, .ref (X.1 96)), (1, .int i1)] [] M := by
  obtain ⟨hx, hb, hml, hown, hF, hlk, hr⟩ := id hs
  intro i1 h H locs ls hR hS hl
  refine lv_iconst (v := 0) hx hb dX10_count_0 (by decide) ?_
  refine lv_istore_n (lv' := [(2, .int 0), (0, .ref (X.1 96)), (1, .int i1)]) hx hb dX10_count_1 rfl hl (by decide) rfl (fun ls hl => ?_)
  refine lv_iload_n hx hb dX10_count_2 rfl (lv_at hl 2 rfl) ?_
  by_cases c3_0 : i1 = 0
  · have h := mif_y h c3_0
    refine lv_tableIn (tgt := 52) hx hb dX10_count_3 (by rw [c3_0]; decide) (by rw [c3_0]; decide) (by rw [c3_0] <;> rfl) (by decide) ?_
    refine lv_aload_n hx hb dX10_count_52 rfl (lv_at hl 1 rfl) ?_
    refine m_g9_1 hx hb hF hown hR kd_96 mw_5_138 dX10_count_53 ?_
    refine lv_iconst (v := 0) hx hb dX10_count_56 (by decide) ?_
    refine m_ialdL hx hb hR kd_97 (show mIn 0 1834 from by decide) (jn := 0) (by decide) dX10_count_57 ?_
    exact m_ir hx hb hlk hr hR hS (congrArg (fun z => (z, M)) (Option.some.inj h).symm) dX10_count_58
  · have h := mif_n h c3_0
    by_cases c3_1 : i1 = 1
    · have h := mif_y h c3_1
      refine lv_tableIn (tgt := 59) hx hb dX10_count_3 (by rw [c3_1]; decide) (by rw [c3_1]; decide) (by rw [c3_1] <;> rfl) (by decide) ?_
      refine lv_iconst (v := 0) hx hb dX10_count_59 (by decide) ?_
      refine lv_istore_n (lv' := [(3, .int 0), (2, .int 0), (0, .ref (X.1 96)), (1, .int i1)]) hx hb dX10_count_60 rfl hl (by decide) rfl (fun ls hl => ?_)
      exact w_X10_count_b61 hs mN 0 0 h H locs ls hR hS (lv_sub hl [2, 1, 0] rfl)
    · have h := mif_n h c3_1
      by_cases c3_2 : i1 = 2
      · have h := mif_y h c3_2
        refine lv_tableIn (tgt := 91) hx hb dX10_count_3 (by rw [c3_2]; decide) (by rw [c3_2]; decide) (by rw [c3_2] <;> rfl) (by decide) ?_
        refine lv_iconst (v := 0) hx hb dX10_count_91 (by decide) ?_
        refine lv_istore_n (lv' := [(3, .int 0), (2, .int 0), (0, .ref (X.1 96)), (1, .int i1)]) hx hb dX10_count_92 rfl hl (by decide) rfl (fun ls hl => ?_)
        exact w_X10_count_b93 hs mN 0 0 h H locs ls hR hS (lv_sub hl [2, 1, 0] rfl)
      · have h := mif_n h c3_2
        by_cases c3_3 : i1 = 3
        · have h := mif_y h c3_3
          refine lv_tableIn (tgt := 123) hx hb dX10_count_3 (by rw [c3_3]; decide) (by rw [c3_3]; decide) (by rw [c3_3] <;> rfl) (by decide) ?_
          refine lv_aload_n hx hb dX10_count_123 rfl (lv_at hl 1 rfl) ?_
          refine m_g9_1 hx hb hF hown hR kd_96 mw_5_138 dX10_count_124 ?_
          refine lv_iconst (v := 1) hx hb dX10_count_127 (by decide) ?_
          refine m_ialdL hx hb hR kd_97 (show mIn 1 1834 from by decide) (jn := 1) (by decide) dX10_count_128 ?_
          exact m_ir hx hb hlk hr hR hS (congrArg (fun z => (z, M)) (Option.some.inj h).symm) dX10_count_129
        · have h := mif_n h c3_3
          by_cases c3_4 : i1 = 4
          · have h := mif_y h c3_4
            refine lv_tableIn (tgt := 130) hx hb dX10_count_3 (by rw [c3_4]; decide) (by rw [c3_4]; decide) (by rw [c3_4] <;> rfl) (by decide) ?_
            refine lv_aload_n hx hb dX10_count_130 rfl (lv_at hl 1 rfl) ?_
            refine m_g9_1 hx hb hF hown hR kd_96 mw_5_138 dX10_count_131 ?_
            refine lv_iconst (v := 2) hx hb dX10_count_134 (by decide) ?_
            refine m_ialdL hx hb hR kd_97 (show mIn 2 1834 from by decide) (jn := 2) (by decide) dX10_count_135 ?_
            exact m_ir hx hb hlk hr hR hS (congrArg (fun z => (z, M)) (Option.some.inj h).symm) dX10_count_136
          · have h := mif_n h c3_4
            by_cases c3_5 : i1 = 5
            · have h := mif_y h c3_5
              refine lv_tableIn (tgt := 137) hx hb dX10_count_3 (by rw [c3_5]; decide) (by rw [c3_5]; decide) (by rw [c3_5] <;> rfl) (by decide) ?_
              refine lv_aload_n hx hb dX10_count_137 rfl (lv_at hl 1 rfl) ?_
              refine m_g9_1 hx hb hF hown hR kd_96 mw_5_138 dX10_count_138 ?_
              refine lv_iconst (v := 3) hx hb dX10_count_141 (by decide) ?_
              refine m_ialdL hx hb hR kd_97 (show mIn 3 1834 from by decide) (jn := 3) (by decide) dX10_count_142 ?_
              exact m_ir hx hb hlk hr hR hS (congrArg (fun z => (z, M)) (Option.some.inj h).symm) dX10_count_143
            · have h := mif_n h c3_5
              by_cases c3_6 : i1 = 6
              · have h := mif_y h c3_6
                refine lv_tableIn (tgt := 144) hx hb dX10_count_3 (by rw [c3_6]; decide) (by rw [c3_6]; decide) (by rw [c3_6] <;> rfl) (by decide) ?_
                refine lv_aload_n hx hb dX10_count_144 rfl (lv_at hl 1 rfl) ?_
                refine m_g9_1 hx hb hF hown hR kd_96 mw_5_138 dX10_count_145 ?_
                refine lv_iconst (v := 5) hx hb dX10_count_148 (by decide) ?_
                refine m_ialdL hx hb hR kd_97 (show mIn 5 1834 from by decide) (jn := 5) (by decide) dX10_count_149 ?_
                exact m_ir hx hb hlk hr hR hS (congrArg (fun z => (z, M)) (Option.some.inj h).symm) dX10_count_150
              · have h := mif_n h c3_6
                by_cases c3_7 : i1 = 7
                · have h := mif_y h c3_7
                  refine lv_tableIn (tgt := 151) hx hb dX10_count_3 (by rw [c3_7]; decide) (by rw [c3_7]; decide) (by rw [c3_7] <;> rfl) (by decide) ?_
                  refine lv_iconst (v := 0) hx hb dX10_count_151 (by decide) ?_
                  refine lv_istore_n (lv' := [(3, .int 0), (2, .int 0), (0, .ref (X.1 96)), (1, .int i1)]) hx hb dX10_count_152 rfl hl (by decide) rfl (fun ls hl => ?_)
                  exact w_X10_count_b153 hs mN 0 0 h H locs ls hR hS (lv_sub hl [2, 1, 0] rfl)
                · have h := mif_n h c3_7
                  by_cases c3_8 : i1 = 8
                  · have h := mif_y h c3_8
                    refine lv_tableIn (tgt := 187) hx hb dX10_count_3 (by rw [c3_8]; decide) (by rw [c3_8]; decide) (by rw [c3_8] <;> rfl) (by decide) ?_
                    refine lv_aload_n hx hb dX10_count_187 rfl (lv_at hl 1 rfl) ?_
                    refine m_g9_1 hx hb hF hown hR kd_96 mw_5_138 dX10_count_188 ?_
                    refine lv_iconst (v := 4) hx hb dX10_count_191 (by decide) ?_
                    refine m_ialdL hx hb hR kd_97 (show mIn 4 1834 from by decide) (jn := 4) (by decide) dX10_count_192 ?_
                    exact m_ir hx hb hlk hr hR hS (congrArg (fun z => (z, M)) (Option.some.inj h).symm) dX10_count_193
                  · have h := mif_n h c3_8
                    refine lv_tableOut (tgt := 194) hx hb dX10_count_3 (m_swOut (fun q => by have := q.1; have := q.2; have := lv_neT c3_0 (a := 0) rfl; have := lv_neT c3_1 (a := 1) rfl; have := lv_neT c3_2 (a := 2) rfl; have := lv_neT c3_3 (a := 3) rfl; have := lv_neT c3_4 (a := 4) rfl; have := lv_neT c3_5 (a := 5) rfl; have := lv_neT c3_6 (a := 6) rfl; have := lv_neT c3_7 (a := 7) rfl; have := lv_neT c3_8 (a := 8) rfl; omega)) (by decide) ?_
                    refine lv_iconst (v := (-1)) hx hb dX10_count_194 (by decide) ?_
                    exact m_ir hx hb hlk hr hR hS (congrArg (fun z => (z, M)) (Option.some.inj h).symm) dX10_count_195
theorem c_X10_count (l : Launch) (X : mX) (i1 : Int32) (M : mM) {r : Int32} (h : f_X10_count i1 M = some r) : mMi l yX10_count cX10_count 4 (some .int) 1 21 X [.ref (X.1 96), .int i1] M (r, M) := m_ofi (by decide +kernel) (Nat.le_of_ble_eq_true rfl) rfl (fun p e s m args below meth c hs => w_X10_count hs i1 h)
set_option maxRecDepth 100000 in
set_option maxHeartbeats 4000000 in
theorem w_X10_isShelf {l : Launch} {X : mX} {p : Program} {e : Env} {s : State} {m : MethodId} {args : Array Value} {below : List Frame} {meth : Method} {c : Code} {M : mM} {r : Int32} (hs : mS X RX10 cX10_isShelf 2 (some .boolean) p s m meth c) : ∀ (i1 : Int32), f_X10_isShelf i1 = some r → mG X p l e (rmF 1 23) s m args below meth c (MQ below (mQi X M r) args s 0 0 (mL X)) 2 0 [(0, .ref (X.1 96)), (1, .int i1)] [] M := by
  obtain ⟨hx, hb, hml, hown, hF, hlk, hr⟩ := id hs
  intro i1 h H locs ls hR hS hl
  refine lv_aload_n hx hb dX10_isShelf_0 rfl (lv_at hl 0 rfl) ?_
  refine lv_iload_n hx hb dX10_isShelf_1 rfl (lv_at hl 1 rfl) ?_
  refine lv_iconst (v := 0) hx hb dX10_isShelf_2 (by decide) ?_
  refine lv_bipush (v := 7) hx hb dX10_isShelf_3 (by decide) ?_
  refine m_ci (m_rV hx hb hml hown hF hR hS (ent9 kd_96) kd_96 rfl (c_X10_is l X i1 0 7 M) q_X10_121_V hdV_X10_is ⟨Nat.le_of_ble_eq_true rfl, Nat.le_of_ble_eq_true rfl⟩ rfl hl.1 rfl (Nat.le_of_ble_eq_true rfl) dX10_isShelf_5) hS (fun H locs hR hS => ?_)
  obtain ⟨g8, h⟩ := mgd_e h
  exact m_zr hx hb hlk hr hR hS g8 (congrArg (fun z => (z, M)) (Option.some.inj h).symm) dX10_isShelf_8
theorem c_X10_isShelf (l : Launch) (X : mX) (i1 : Int32) (M : mM) {r : Int32} (h : f_X10_isShelf i1 = some r) : mMi l yX10_isShelf cX10_isShelf 2 (some .boolean) 1 23 X [.ref (X.1 96), .int i1] M (r, M) := m_ofi (by decide +kernel) (Nat.le_of_ble_eq_true rfl) rfl (fun p e s m args below meth c hs => w_X10_isShelf hs i1 h)
set_option maxRecDepth 100000 in
set_option maxHeartbeats 4000000 in
theorem w_X10_keep_b33 {l : Launch} {X : mX} {p : Program} {e : Env} {s : State} {m : MethodId} {args : Array Value} {below : List Frame} {meth : Method} {c : Code} {r : Int32 × mM} (hs : mS X RX10 cX10_keep 4 (some .int) p s m meth c) : ∀ (i1 : Int32) (i2 : Int32) (i3 : Int32) (M : mM), f_X10_keep_b33 i1 i2 i3 M = some r → mG X p l e (rmF 2 44) s m args below meth c (MQ below (mQi X r.2 r.1) args s 0 0 (mL X)) 4 33 [(0, .ref (X.1 96)), (1, .int i1), (2, .int i2), (3, .int i3)] [] M := by
  obtain ⟨hx, hb, hml, hown, hF, hlk, hr⟩ := id hs
  intro i1 i2 i3 M h H locs ls hR hS hl
  refine lv_aload_n hx hb dX10_keep_33 rfl (lv_at hl 0 rfl) ?_
  refine m_g9_27 hx hb hF hown hR kd_96 mw_5_164 dX10_keep_34 ?_
  refine lv_iload_n hx hb dX10_keep_37 rfl (lv_at hl 1 rfl) ?_
  refine lv_iload_n hx hb dX10_keep_38 rfl (lv_at hl 2 rfl) ?_
  obtain ⟨g39, h⟩ := mgd_e h
  obtain ⟨M39, eM39⟩ : ∃ y : mM, y = mI M 108 (Int32.toNatClampNeg i1) i2 := ⟨_, rfl⟩
  have h := mlt_n h M39 eM39
  refine m_iastL hx hb hR hS kd_108 g39 (jn := (Int32.toNatClampNeg i1)) rfl dX10_keep_39 eM39 (fun H locs hR hS => ?_)
  refine lv_iload_n hx hb dX10_keep_40 rfl (lv_at hl 2 rfl) ?_
  refine lv_iconst (v := 1) hx hb dX10_keep_41 (by decide) ?_
  refine lv_icmp_ne (tgt := 118) hx hb dX10_keep_42 (by decide) (fun c42 => ?_) (fun c42 => ?_)
  · have h := mif_n h c42
    refine lv_iconst (v := 0) hx hb dX10_keep_118 (by decide) ?_
    exact m_ir hx hb hlk hr hR hS (Option.some.inj h).symm dX10_keep_119
  · have h := mif_y h c42
    refine lv_aload_n hx hb dX10_keep_45 rfl (lv_at hl 0 rfl) ?_
    refine m_g9_28 hx hb hF hown hR kd_96 mw_5_165 dX10_keep_46 ?_
    refine lv_iload_n hx hb dX10_keep_49 rfl (lv_at hl 1 rfl) ?_
    refine lv_aload_n hx hb dX10_keep_50 rfl (lv_at hl 0 rfl) ?_
    refine m_g9_1 hx hb hF hown hR kd_96 mw_5_138 dX10_keep_51 ?_
    refine lv_bipush (v := 10) hx hb dX10_keep_54 (by decide) ?_
    refine lv_iload_n hx hb dX10_keep_56 rfl (lv_at hl 3 rfl) ?_
    refine lv_iadd hx hb dX10_keep_57 ?_
    obtain ⟨g58, h⟩ := mgd_e h
    refine m_ialdL hx hb hR kd_97 g58 (jn := (Int32.toNatClampNeg (10 + i3))) rfl dX10_keep_58 ?_
    obtain ⟨g59, h⟩ := mgd_e h
    obtain ⟨M59, eM59⟩ : ∃ y : mM, y = mI M39 109 (Int32.toNatClampNeg i1) (M39.1 97 (Int32.toNatClampNeg (10 + i3))) := ⟨_, rfl⟩
    have h := mlt_n h M59 eM59
    refine m_iastL hx hb hR hS kd_109 g59 (jn := (Int32.toNatClampNeg i1)) rfl dX10_keep_59 eM59 (fun H locs hR hS => ?_)
    refine lv_aload_n hx hb dX10_keep_60 rfl (lv_at hl 0 rfl) ?_
    refine m_g9_29 hx hb hF hown hR kd_96 mw_5_166 dX10_keep_61 ?_
    refine lv_iload_n hx hb dX10_keep_64 rfl (lv_at hl 1 rfl) ?_
    refine lv_bipush (v := 8) hx hb dX10_keep_65 (by decide) ?_
    refine lv_aload_n hx hb dX10_keep_67 rfl (lv_at hl 0 rfl) ?_
    refine m_g9_1 hx hb hF hown hR kd_96 mw_5_138 dX10_keep_68 ?_
    refine lv_bipush (v := 26) hx hb dX10_keep_71 (by decide) ?_
    refine lv_iload_n hx hb dX10_keep_73 rfl (lv_at hl 3 rfl) ?_
    refine lv_iadd hx hb dX10_keep_74 ?_
    obtain ⟨g75, h⟩ := mgd_e h
    refine m_ialdL hx hb hR kd_97 g75 (jn := (Int32.toNatClampNeg (26 + i3))) rfl dX10_keep_75 ?_
    refine lv_imul hx hb dX10_keep_76 ?_
    refine lv_aload_n hx hb dX10_keep_77 rfl (lv_at hl 0 rfl) ?_
    refine m_g9_1 hx hb hF hown hR kd_96 mw_5_138 dX10_keep_78 ?_
    refine lv_bipush (v := 42) hx hb dX10_keep_81 (by decide) ?_
    refine lv_iload_n hx hb dX10_keep_83 rfl (lv_at hl 3 rfl) ?_
    refine lv_iadd hx hb dX10_keep_84 ?_
    obtain ⟨g85, h⟩ := mgd_e h
    refine m_ialdL hx hb hR kd_97 g85 (jn := (Int32.toNatClampNeg (42 + i3))) rfl dX10_keep_85 ?_
    refine lv_iadd hx hb dX10_keep_86 ?_
    obtain ⟨g87, h⟩ := mgd_e h
    obtain ⟨M87, eM87⟩ : ∃ y : mM, y = mI M59 110 (Int32.toNatClampNeg i1) ((8 * (M59.1 97 (Int32.toNatClampNeg (26 + i3)))) + (M59.1 97 (Int32.toNatClampNeg (42 + i3)))) := ⟨_, rfl⟩
    have h := mlt_n h M87 eM87
    refine m_iastL hx hb hR hS kd_110 g87 (jn := (Int32.toNatClampNeg i1)) rfl dX10_keep_87 eM87 (fun H locs hR hS => ?_)
    refine lv_aload_n hx hb dX10_keep_88 rfl (lv_at hl 0 rfl) ?_
    refine m_g9_30 hx hb hF hown hR kd_96 mw_5_167 dX10_keep_89 ?_
    refine lv_iload_n hx hb dX10_keep_92 rfl (lv_at hl 1 rfl) ?_
    refine lv_aload_n hx hb dX10_keep_93 rfl (lv_at hl 0 rfl) ?_
    refine m_g9_1 hx hb hF hown hR kd_96 mw_5_138 dX10_keep_94 ?_
    refine lv_bipush (v := 58) hx hb dX10_keep_97 (by decide) ?_
    refine lv_iload_n hx hb dX10_keep_99 rfl (lv_at hl 3 rfl) ?_
    refine lv_iadd hx hb dX10_keep_100 ?_
    obtain ⟨g101, h⟩ := mgd_e h
    refine m_ialdL hx hb hR kd_97 g101 (jn := (Int32.toNatClampNeg (58 + i3))) rfl dX10_keep_101 ?_
    obtain ⟨g102, h⟩ := mgd_e h
    obtain ⟨M102, eM102⟩ : ∃ y : mM, y = mI M87 111 (Int32.toNatClampNeg i1) (M87.1 97 (Int32.toNatClampNeg (58 + i3))) := ⟨_, rfl⟩
    have h := mlt_n h M102 eM102
    refine m_iastL hx hb hR hS kd_111 g102 (jn := (Int32.toNatClampNeg i1)) rfl dX10_keep_102 eM102 (fun H locs hR hS => ?_)
    refine lv_aload_n hx hb dX10_keep_103 rfl (lv_at hl 0 rfl) ?_
    refine m_g9_31 hx hb hF hown hR kd_96 mw_5_168 dX10_keep_104 ?_
    refine lv_iload_n hx hb dX10_keep_107 rfl (lv_at hl 1 rfl) ?_
    refine lv_aload_n hx hb dX10_keep_108 rfl (lv_at hl 0 rfl) ?_
    refine m_g9_1 hx hb hF hown hR kd_96 mw_5_138 dX10_keep_109 ?_
    refine lv_bipush (v := 74) hx hb dX10_keep_112 (by decide) ?_
    refine lv_iload_n hx hb dX10_keep_114 rfl (lv_at hl 3 rfl) ?_
    refine lv_iadd hx hb dX10_keep_115 ?_
    obtain ⟨g116, h⟩ := mgd_e h
    refine m_ialdL hx hb hR kd_97 g116 (jn := (Int32.toNatClampNeg (74 + i3))) rfl dX10_keep_116 ?_
    obtain ⟨g117, h⟩ := mgd_e h
    obtain ⟨M117, eM117⟩ : ∃ y : mM, y = mI M102 112 (Int32.toNatClampNeg i1) (M102.1 97 (Int32.toNatClampNeg (74 + i3))) := ⟨_, rfl⟩
    have h := mlt_n h M117 eM117
    refine m_iastL hx hb hR hS kd_112 g117 (jn := (Int32.toNatClampNeg i1)) rfl dX10_keep_117 eM117 (fun H locs hR hS => ?_)
    refine lv_iconst (v := 0) hx hb dX10_keep_118 (by decide) ?_
    exact m_ir hx hb hlk hr hR hS (Option.some.inj h).symm dX10_keep_119
set_option maxRecDepth 100000 in
set_option maxHeartbeats 4000000 in
theorem w_X10_keep {l : Launch} {X : mX} {p : Program} {e : Env} {s : State} {m : MethodId} {args : Array Value} {below : List Frame} {meth : Method} {c : Code} {r : Int32 × mM} (hs : mS X RX10 cX10_keep 4 (some .int) p s m meth c) : ∀ (i1 : Int32) (i2 : Int32) (i3 : Int32) (M : mM), f_X10_keep i1 i2 i3 M = some r → mG X p l e (rmF 2 44) s m args below meth c (MQ below (mQi X r.2 r.1) args s 0 0 (mL X)) 4 0 [(0, .ref (X.1 96)), (1, .int i1), (2, .int i2), (3, .int i3)] [] M := by
  obtain ⟨hx, hb, hml, hown, hF, hlk, hr⟩ := id hs
  intro i1 i2 i3 M h H locs ls hR hS hl
  refine lv_aload_n hx hb dX10_keep_0 rfl (lv_at hl 0 rfl) ?_
  refine lv_iload_n hx hb dX10_keep_1 rfl (lv_at hl 1 rfl) ?_
  obtain ⟨v2, q2, h⟩ := mbp_e h
  refine m_ci (m_rV hx hb hml hown hF hR hS (ent9 kd_96) kd_96 rfl (c_X10_isShelf l X i1 M q2) q_X10_294_V hdV_X10_isShelf ⟨Nat.le_of_ble_eq_true rfl, Nat.le_of_ble_eq_true rfl⟩ rfl hl.1 rfl (Nat.le_of_ble_eq_true rfl) dX10_keep_2) hS (fun H locs hR hS => ?_)
  refine lv_if_eq (tgt := 31) hx hb dX10_keep_5 (by decide) (fun c5 => ?_) (fun c5 => ?_)
  · have h := mif_y h c5
    refine lv_iconst (v := (-1)) hx hb dX10_keep_31 (by decide) ?_
    exact m_ir hx hb hlk hr hR hS (Option.some.inj h).symm dX10_keep_32
  · have h := mif_n h c5
    refine lv_aload_n hx hb dX10_keep_8 rfl (lv_at hl 0 rfl) ?_
    refine lv_iload_n hx hb dX10_keep_9 rfl (lv_at hl 2 rfl) ?_
    refine lv_iconst (v := 0) hx hb dX10_keep_10 (by decide) ?_
    refine lv_iconst (v := 1) hx hb dX10_keep_11 (by decide) ?_
    refine m_ci (m_rV hx hb hml hown hF hR hS (ent9 kd_96) kd_96 rfl (c_X10_is l X i2 0 1 M) q_X10_121_V hdV_X10_is ⟨Nat.le_of_ble_eq_true rfl, Nat.le_of_ble_eq_true rfl⟩ rfl hl.1 rfl (Nat.le_of_ble_eq_true rfl) dX10_keep_12) hS (fun H locs hR hS => ?_)
    refine lv_if_eq (tgt := 31) hx hb dX10_keep_15 (by decide) (fun c15 => ?_) (fun c15 => ?_)
    · have h := mif_y h c15
      refine lv_iconst (v := (-1)) hx hb dX10_keep_31 (by decide) ?_
      exact m_ir hx hb hlk hr hR hS (Option.some.inj h).symm dX10_keep_32
    · have h := mif_n h c15
      refine lv_iload_n hx hb dX10_keep_18 rfl (lv_at hl 2 rfl) ?_
      refine lv_iconst (v := 1) hx hb dX10_keep_19 (by decide) ?_
      refine lv_icmp_ne (tgt := 33) hx hb dX10_keep_20 (by decide) (fun c20 => ?_) (fun c20 => ?_)
      · have h := mif_n h c20
        exact w_X10_keep_b33 hs i1 i2 i3 M h H locs ls hR hS (lv_sub hl [0, 1, 2, 3] rfl)
      · have h := mif_y h c20
        refine lv_aload_n hx hb dX10_keep_23 rfl (lv_at hl 0 rfl) ?_
        refine lv_iload_n hx hb dX10_keep_24 rfl (lv_at hl 3 rfl) ?_
        obtain ⟨v25, q25, h⟩ := mbp_e h
        refine m_ci (m_rV hx hb hml hown hF hR hS (ent9 kd_96) kd_96 rfl (c_X10_isCube l X i3 M q25) q_X10_161_V hdV_X10_isCube ⟨Nat.le_of_ble_eq_true rfl, Nat.le_of_ble_eq_true rfl⟩ rfl hl.1 rfl (Nat.le_of_ble_eq_true rfl) dX10_keep_25) hS (fun H locs hR hS => ?_)
        refine lv_if_ne (tgt := 33) hx hb dX10_keep_28 (by decide) (fun c28 => ?_) (fun c28 => ?_)
        · have h := mif_n h c28
          exact w_X10_keep_b33 hs i1 i2 i3 M h H locs ls hR hS (lv_sub hl [0, 1, 2, 3] rfl)
        · have h := mif_y h c28
          refine lv_iconst (v := (-1)) hx hb dX10_keep_31 (by decide) ?_
          exact m_ir hx hb hlk hr hR hS (Option.some.inj h).symm dX10_keep_32
theorem c_X10_keep (l : Launch) (X : mX) (i1 : Int32) (i2 : Int32) (i3 : Int32) (M : mM) {r : Int32 × mM} (h : f_X10_keep i1 i2 i3 M = some r) : mMi l yX10_keep cX10_keep 4 (some .int) 2 44 X [.ref (X.1 96), .int i1, .int i2, .int i3] M r := m_ofi (by decide +kernel) (Nat.le_of_ble_eq_true rfl) rfl (fun p e s m args below meth c hs => w_X10_keep hs i1 i2 i3 M h)
set_option maxRecDepth 100000 in
set_option maxHeartbeats 4000000 in
theorem w_X10_row_b57 {l : Launch} {X : mX} {p : Program} {e : Env} {s : State} {m : MethodId} {args : Array Value} {below : List Frame} {meth : Method} {c : Code} {r : Int32 × mM} (hs : mS X RX10 cX10_row 5 (some .int) p s m meth c) : ∀ n : Nat, ∀ (i1 : Int32) (i4 : Int32) (M : mM), f_X10_row_b57 n i1 i4 M = some r → mG X p l e (rmF 2 44) s m args below meth c (MQ below (mQi X r.2 r.1) args s 0 0 (mL X)) 5 57 [(0, .ref (X.1 96)), (1, .int i1), (4, .int i4)] [] M := by
  obtain ⟨hx, hb, hml, hown, hF, hlk, hr⟩ := id hs
  intro n
  induction n with
  | zero =>
    intro i1 i4 M h
    have h0 : (none : Option (Int32 × mM)) = some r := h
    cases h0
  | succ n ih =>
    intro i1 i4 M h H locs ls hR hS hl
    refine lv_iload hx hb dX10_row_57 (lv_at hl 2 rfl) ?_
    refine lv_bipush (v := 90) hx hb dX10_row_59 (by decide) ?_
    refine lv_icmp_ge (tgt := 83) hx hb dX10_row_61 (by decide) (fun c61 => ?_) (fun c61 => ?_)
    · have h := mif_y h c61
      refine lv_iconst (v := 0) hx hb dX10_row_83 (by decide) ?_
      exact m_ir hx hb hlk hr hR hS (Option.some.inj h).symm dX10_row_84
    · have h := mif_n h c61
      refine lv_aload_n hx hb dX10_row_64 rfl (lv_at hl 0 rfl) ?_
      refine m_g9_34 hx hb hF hown hR kd_96 mw_5_171 dX10_row_65 ?_
      refine lv_bipush (v := 90) hx hb dX10_row_68 (by decide) ?_
      refine lv_iload_n hx hb dX10_row_70 rfl (lv_at hl 1 rfl) ?_
      refine lv_imul hx hb dX10_row_71 ?_
      refine lv_iload hx hb dX10_row_72 (lv_at hl 2 rfl) ?_
      refine lv_iadd hx hb dX10_row_74 ?_
      refine lv_iconst (v := 0) hx hb dX10_row_75 (by decide) ?_
      obtain ⟨g76, h⟩ := mgd_e h
      obtain ⟨M76, eM76⟩ : ∃ y : mM, y = mI M 115 (Int32.toNatClampNeg ((90 * i1) + i4)) 0 := ⟨_, rfl⟩
      have h := mlt_n h M76 eM76
      refine m_iastL hx hb hR hS kd_115 g76 (jn := (Int32.toNatClampNeg ((90 * i1) + i4))) rfl dX10_row_76 eM76 (fun H locs hR hS => ?_)
      obtain ⟨x77, ex77⟩ : ∃ y : Int32, y = (i4 + 1) := ⟨_, rfl⟩
      have h := mlt_n h x77 ex77
      refine lv_iinc (v := x77) (lv' := [(4, .int x77), (0, .ref (X.1 96)), (1, .int i1)]) hx hb dX10_row_77 hl (k := 2) rfl (by rw [ex77]; rfl) (by decide) rfl (fun ls hl => ?_)
      refine lv_goto (tgt := 57) hx hb dX10_row_80 (by decide) ?_
      exact ih i1 x77 M76 h H locs ls hR hS (lv_sub hl [1, 2, 0] rfl)
set_option maxRecDepth 100000 in
set_option maxHeartbeats 4000000 in
theorem w_X10_row {l : Launch} {X : mX} {p : Program} {e : Env} {s : State} {m : MethodId} {args : Array Value} {below : List Frame} {meth : Method} {c : Code} {r : Int32 × mM} (hs : mS X RX10 cX10_row 5 (some .int) p s m meth c) : ∀ (i1 : Int32) (i2 : Int32) (i3 : Int32) (M : mM), f_X10_row i1 i2 i3 M = some r → mG X p l e (rmF 2 44) s m args below meth c (MQ below (mQi X r.2 r.1) args s 0 0 (mL X)) 5 0 [(0, .ref (X.1 96)), (1, .int i1), (2, .int i2), (3, .int i3)] [] M := by
  obtain ⟨hx, hb, hml, hown, hF, hlk, hr⟩ := id hs
  intro i1 i2 i3 M h H locs ls hR hS hl
  refine lv_aload_n hx hb dX10_row_0 rfl (lv_at hl 0 rfl) ?_
  refine lv_iload_n hx hb dX10_row_1 rfl (lv_at hl 1 rfl) ?_
  obtain ⟨v2, q2, h⟩ := mbp_e h
  refine m_ci (m_rV hx hb hml hown hF hR hS (ent9 kd_96) kd_96 rfl (c_X10_isShelf l X i1 M q2) q_X10_294_V hdV_X10_isShelf ⟨Nat.le_of_ble_eq_true rfl, Nat.le_of_ble_eq_true rfl⟩ rfl hl.1 rfl (Nat.le_of_ble_eq_true rfl) dX10_row_2) hS (fun H locs hR hS => ?_)
  refine lv_if_eq (tgt := 24) hx hb dX10_row_5 (by decide) (fun c5 => ?_) (fun c5 => ?_)
  · have h := mif_y h c5
    refine lv_iconst (v := (-1)) hx hb dX10_row_24 (by decide) ?_
    exact m_ir hx hb hlk hr hR hS (Option.some.inj h).symm dX10_row_25
  · have h := mif_n h c5
    refine lv_aload_n hx hb dX10_row_8 rfl (lv_at hl 0 rfl) ?_
    refine lv_iload_n hx hb dX10_row_9 rfl (lv_at hl 2 rfl) ?_
    refine lv_iconst (v := 0) hx hb dX10_row_10 (by decide) ?_
    refine lv_iconst (v := 2) hx hb dX10_row_11 (by decide) ?_
    refine m_ci (m_rV hx hb hml hown hF hR hS (ent9 kd_96) kd_96 rfl (c_X10_is l X i2 0 2 M) q_X10_121_V hdV_X10_is ⟨Nat.le_of_ble_eq_true rfl, Nat.le_of_ble_eq_true rfl⟩ rfl hl.1 rfl (Nat.le_of_ble_eq_true rfl) dX10_row_12) hS (fun H locs hR hS => ?_)
    refine lv_if_eq (tgt := 24) hx hb dX10_row_15 (by decide) (fun c15 => ?_) (fun c15 => ?_)
    · have h := mif_y h c15
      refine lv_iconst (v := (-1)) hx hb dX10_row_24 (by decide) ?_
      exact m_ir hx hb hlk hr hR hS (Option.some.inj h).symm dX10_row_25
    · have h := mif_n h c15
      refine lv_iload_n hx hb dX10_row_18 rfl (lv_at hl 3 rfl) ?_
      refine lv_bipush (v := 90) hx hb dX10_row_19 (by decide) ?_
      refine lv_icmp_le (tgt := 26) hx hb dX10_row_21 (by decide) (fun c21 => ?_) (fun c21 => ?_)
      · have h := mif_y h c21
        refine lv_iload_n hx hb dX10_row_26 rfl (lv_at hl 3 rfl) ?_
        refine lv_if_ge (tgt := 33) hx hb dX10_row_27 (by decide) (fun c27 => ?_) (fun c27 => ?_)
        · have h := mif_y h c27
          refine lv_aload_n hx hb dX10_row_33 rfl (lv_at hl 0 rfl) ?_
          refine m_g9_27 hx hb hF hown hR kd_96 mw_5_164 dX10_row_34 ?_
          refine lv_iload_n hx hb dX10_row_37 rfl (lv_at hl 1 rfl) ?_
          refine lv_iconst (v := 2) hx hb dX10_row_38 (by decide) ?_
          obtain ⟨g39, h⟩ := mgd_e h
          obtain ⟨M39, eM39⟩ : ∃ y : mM, y = mI M 108 (Int32.toNatClampNeg i1) 2 := ⟨_, rfl⟩
          have h := mlt_n h M39 eM39
          refine m_iastL hx hb hR hS kd_108 g39 (jn := (Int32.toNatClampNeg i1)) rfl dX10_row_39 eM39 (fun H locs hR hS => ?_)
          refine lv_aload_n hx hb dX10_row_40 rfl (lv_at hl 0 rfl) ?_
          refine m_g9_32 hx hb hF hown hR kd_96 mw_5_169 dX10_row_41 ?_
          refine lv_iload_n hx hb dX10_row_44 rfl (lv_at hl 1 rfl) ?_
          refine lv_iload_n hx hb dX10_row_45 rfl (lv_at hl 2 rfl) ?_
          obtain ⟨g46, h⟩ := mgd_e h
          obtain ⟨M46, eM46⟩ : ∃ y : mM, y = mI M39 113 (Int32.toNatClampNeg i1) i2 := ⟨_, rfl⟩
          have h := mlt_n h M46 eM46
          refine m_iastL hx hb hR hS kd_113 g46 (jn := (Int32.toNatClampNeg i1)) rfl dX10_row_46 eM46 (fun H locs hR hS => ?_)
          refine lv_aload_n hx hb dX10_row_47 rfl (lv_at hl 0 rfl) ?_
          refine m_g9_33 hx hb hF hown hR kd_96 mw_5_170 dX10_row_48 ?_
          refine lv_iload_n hx hb dX10_row_51 rfl (lv_at hl 1 rfl) ?_
          refine lv_iload_n hx hb dX10_row_52 rfl (lv_at hl 3 rfl) ?_
          obtain ⟨g53, h⟩ := mgd_e h
          obtain ⟨M53, eM53⟩ : ∃ y : mM, y = mI M46 114 (Int32.toNatClampNeg i1) i3 := ⟨_, rfl⟩
          have h := mlt_n h M53 eM53
          refine m_iastL hx hb hR hS kd_114 g53 (jn := (Int32.toNatClampNeg i1)) rfl dX10_row_53 eM53 (fun H locs hR hS => ?_)
          refine lv_iconst (v := 0) hx hb dX10_row_54 (by decide) ?_
          refine lv_istore (lv' := [(4, .int 0), (0, .ref (X.1 96)), (1, .int i1), (2, .int i2), (3, .int i3)]) hx hb dX10_row_55 hl (by decide) rfl (fun ls hl => ?_)
          exact w_X10_row_b57 hs mN i1 0 M53 h H locs ls hR hS (lv_sub hl [1, 2, 0] rfl)
        · have h := mif_n h c27
          refine lv_bipush (v := (-14)) hx hb dX10_row_30 (by decide) ?_
          exact m_ir hx hb hlk hr hR hS (Option.some.inj h).symm dX10_row_32
      · have h := mif_n h c21
        refine lv_iconst (v := (-1)) hx hb dX10_row_24 (by decide) ?_
        exact m_ir hx hb hlk hr hR hS (Option.some.inj h).symm dX10_row_25
theorem c_X10_row (l : Launch) (X : mX) (i1 : Int32) (i2 : Int32) (i3 : Int32) (M : mM) {r : Int32 × mM} (h : f_X10_row i1 i2 i3 M = some r) : mMi l yX10_row cX10_row 5 (some .int) 2 44 X [.ref (X.1 96), .int i1, .int i2, .int i3] M r := m_ofi (by decide +kernel) (Nat.le_of_ble_eq_true rfl) rfl (fun p e s m args below meth c hs => w_X10_row hs i1 i2 i3 M h)
set_option maxRecDepth 100000 in
set_option maxHeartbeats 4000000 in
theorem w_X10_narrow {l : Launch} {X : mX} {p : Program} {e : Env} {s : State} {m : MethodId} {args : Array Value} {below : List Frame} {meth : Method} {c : Code} {M : mM} {r : Int32} (hs : mS X RX10 cX10_narrow 3 (some .int) p s m meth c) : ∀ (i1 : Int32) (i2 : Int32), f_X10_narrow i1 i2 = r → mG X p l e (rmF 0 0) s m args below meth c (MQ below (mQi X M r) args s 0 0 (mL X)) 3 0 [(0, .ref (X.1 96)), (1, .int i1), (2, .int i2)] [] M := by
  obtain ⟨hx, hb, hml, hown, hF, hlk, hr⟩ := id hs
  intro i1 i2 h H locs ls hR hS hl
  refine lv_iload_n hx hb dX10_narrow_0 rfl (lv_at hl 1 rfl) ?_
  refine lv_if_ne (tgt := 9) hx hb dX10_narrow_1 (by decide) (fun c1 => ?_) (fun c1 => ?_)
  · have h := mif_n h c1
    refine lv_iload_n hx hb dX10_narrow_9 rfl (lv_at hl 1 rfl) ?_
    refine lv_iconst (v := 1) hx hb dX10_narrow_10 (by decide) ?_
    refine lv_icmp_ne (tgt := 19) hx hb dX10_narrow_11 (by decide) (fun c11 => ?_) (fun c11 => ?_)
    · have h := mif_n h c11
      refine lv_iload_n hx hb dX10_narrow_19 rfl (lv_at hl 2 rfl) ?_
      exact m_ir hx hb hlk hr hR hS (congrArg (fun z => (z, M)) h.symm) dX10_narrow_20
    · have h := mif_y h c11
      refine lv_iload_n hx hb dX10_narrow_14 rfl (lv_at hl 2 rfl) ?_
      refine lv_i2s hx hb dX10_narrow_15 rfl ?_
      refine lv_goto (tgt := 20) hx hb dX10_narrow_16 (by decide) ?_
      exact m_ir hx hb hlk hr hR hS (congrArg (fun z => (z, M)) h.symm) dX10_narrow_20
  · have h := mif_y h c1
    refine lv_iload_n hx hb dX10_narrow_4 rfl (lv_at hl 2 rfl) ?_
    refine lv_i2b hx hb dX10_narrow_5 rfl ?_
    refine lv_goto (tgt := 20) hx hb dX10_narrow_6 (by decide) ?_
    exact m_ir hx hb hlk hr hR hS (congrArg (fun z => (z, M)) h.symm) dX10_narrow_20
theorem c_X10_narrow (l : Launch) (X : mX) (i1 : Int32) (i2 : Int32) (M : mM) : mMi l yX10_narrow cX10_narrow 3 (some .int) 0 0 X [.ref (X.1 96), .int i1, .int i2] M (f_X10_narrow i1 i2, M) := m_ofi (by decide +kernel) (Nat.le_of_ble_eq_true rfl) rfl (fun p e s m args below meth c hs => w_X10_narrow hs i1 i2 rfl)
set_option maxRecDepth 100000 in
set_option maxHeartbeats 4000000 in
theorem w_X10_put {l : Launch} {X : mX} {p : Program} {e : Env} {s : State} {m : MethodId} {args : Array Value} {below : List Frame} {meth : Method} {c : Code} {r : Int32 × mM} (hs : mS X RX10 cX10_put 4 (some .int) p s m meth c) : ∀ (i1 : Int32) (i2 : Int32) (i3 : Int32) (M : mM), f_X10_put i1 i2 i3 M = some r → mG X p l e (rmF 2 44) s m args below meth c (MQ below (mQi X r.2 r.1) args s 0 0 (mL X)) 4 0 [(0, .ref (X.1 96)), (1, .int i1), (2, .int i2), (3, .int i3)] [] M := by
  obtain ⟨hx, hb, hml, hown, hF, hlk, hr⟩ := id hs
  intro i1 i2 i3 M h H locs ls hR hS hl
  refine lv_aload_n hx hb dX10_put_0 rfl (lv_at hl 0 rfl) ?_
  refine lv_iload_n hx hb dX10_put_1 rfl (lv_at hl 1 rfl) ?_
  obtain ⟨v2, q2, h⟩ := mbp_e h
  refine m_ci (m_rV hx hb hml hown hF hR hS (ent9 kd_96) kd_96 rfl (c_X10_isShelf l X i1 M q2) q_X10_294_V hdV_X10_isShelf ⟨Nat.le_of_ble_eq_true rfl, Nat.le_of_ble_eq_true rfl⟩ rfl hl.1 rfl (Nat.le_of_ble_eq_true rfl) dX10_put_2) hS (fun H locs hR hS => ?_)
  refine lv_if_ne (tgt := 10) hx hb dX10_put_5 (by decide) (fun c5 => ?_) (fun c5 => ?_)
  · have h := mif_n h c5
    refine lv_aload_n hx hb dX10_put_10 rfl (lv_at hl 0 rfl) ?_
    refine m_g9_27 hx hb hF hown hR kd_96 mw_5_164 dX10_put_11 ?_
    refine lv_iload_n hx hb dX10_put_14 rfl (lv_at hl 1 rfl) ?_
    obtain ⟨g15, h⟩ := mgd_e h
    refine m_ialdL hx hb hR kd_108 g15 (jn := (Int32.toNatClampNeg i1)) rfl dX10_put_15 ?_
    refine lv_if_ne (tgt := 22) hx hb dX10_put_16 (by decide) (fun c16 => ?_) (fun c16 => ?_)
    · have h := mif_n h c16
      refine lv_aload_n hx hb dX10_put_22 rfl (lv_at hl 0 rfl) ?_
      refine m_g9_27 hx hb hF hown hR kd_96 mw_5_164 dX10_put_23 ?_
      refine lv_iload_n hx hb dX10_put_26 rfl (lv_at hl 1 rfl) ?_
      obtain ⟨g27, h⟩ := mgd_e h
      refine m_ialdL hx hb hR kd_108 g27 (jn := (Int32.toNatClampNeg i1)) rfl dX10_put_27 ?_
      refine lv_iconst (v := 2) hx hb dX10_put_28 (by decide) ?_
      refine lv_icmp_eq (tgt := 35) hx hb dX10_put_29 (by decide) (fun c29 => ?_) (fun c29 => ?_)
      · have h := mif_y h c29
        refine lv_aload_n hx hb dX10_put_35 rfl (lv_at hl 0 rfl) ?_
        refine lv_iload_n hx hb dX10_put_36 rfl (lv_at hl 2 rfl) ?_
        refine lv_iconst (v := 0) hx hb dX10_put_37 (by decide) ?_
        refine lv_aload_n hx hb dX10_put_38 rfl (lv_at hl 0 rfl) ?_
        refine m_g9_33 hx hb hF hown hR kd_96 mw_5_170 dX10_put_39 ?_
        refine lv_iload_n hx hb dX10_put_42 rfl (lv_at hl 1 rfl) ?_
        obtain ⟨g43, h⟩ := mgd_e h
        refine m_ialdL hx hb hR kd_114 g43 (jn := (Int32.toNatClampNeg i1)) rfl dX10_put_43 ?_
        refine lv_iconst (v := 1) hx hb dX10_put_44 (by decide) ?_
        refine lv_isub hx hb dX10_put_45 ?_
        refine m_ci (m_rV hx hb hml hown hF hR hS (ent9 kd_96) kd_96 rfl (c_X10_is l X i2 0 ((M.1 114 (Int32.toNatClampNeg i1)) - 1) M) q_X10_121_V hdV_X10_is ⟨Nat.le_of_ble_eq_true rfl, Nat.le_of_ble_eq_true rfl⟩ rfl hl.1 rfl (Nat.le_of_ble_eq_true rfl) dX10_put_46) hS (fun H locs hR hS => ?_)
        refine lv_if_ne (tgt := 55) hx hb dX10_put_49 (by decide) (fun c49 => ?_) (fun c49 => ?_)
        · have h := mif_n h c49
          refine lv_aload_n hx hb dX10_put_55 rfl (lv_at hl 0 rfl) ?_
          refine m_g9_34 hx hb hF hown hR kd_96 mw_5_171 dX10_put_56 ?_
          refine lv_bipush (v := 90) hx hb dX10_put_59 (by decide) ?_
          refine lv_iload_n hx hb dX10_put_61 rfl (lv_at hl 1 rfl) ?_
          refine lv_imul hx hb dX10_put_62 ?_
          refine lv_iload_n hx hb dX10_put_63 rfl (lv_at hl 2 rfl) ?_
          refine lv_iadd hx hb dX10_put_64 ?_
          refine lv_aload_n hx hb dX10_put_65 rfl (lv_at hl 0 rfl) ?_
          refine lv_aload_n hx hb dX10_put_66 rfl (lv_at hl 0 rfl) ?_
          refine m_g9_32 hx hb hF hown hR kd_96 mw_5_169 dX10_put_67 ?_
          refine lv_iload_n hx hb dX10_put_70 rfl (lv_at hl 1 rfl) ?_
          obtain ⟨g71, h⟩ := mgd_e h
          refine m_ialdL hx hb hR kd_113 g71 (jn := (Int32.toNatClampNeg i1)) rfl dX10_put_71 ?_
          refine lv_iload_n hx hb dX10_put_72 rfl (lv_at hl 3 rfl) ?_
          refine m_ci (m_rV hx hb hml hown hF hR hS (ent9 kd_96) kd_96 rfl (c_X10_narrow l X (M.1 113 (Int32.toNatClampNeg i1)) i3 M) q_X10_297_V hdV_X10_narrow ⟨Nat.le_of_ble_eq_true rfl, Nat.le_of_ble_eq_true rfl⟩ rfl hl.1 rfl (Nat.le_of_ble_eq_true rfl) dX10_put_73) hS (fun H locs hR hS => ?_)
          obtain ⟨g76, h⟩ := mgd_e h
          obtain ⟨M76, eM76⟩ : ∃ y : mM, y = mI M 115 (Int32.toNatClampNeg ((90 * i1) + i2)) (f_X10_narrow (M.1 113 (Int32.toNatClampNeg i1)) i3) := ⟨_, rfl⟩
          have h := mlt_n h M76 eM76
          refine m_iastL hx hb hR hS kd_115 g76 (jn := (Int32.toNatClampNeg ((90 * i1) + i2))) rfl dX10_put_76 eM76 (fun H locs hR hS => ?_)
          refine lv_iconst (v := 0) hx hb dX10_put_77 (by decide) ?_
          exact m_ir hx hb hlk hr hR hS (Option.some.inj h).symm dX10_put_78
        · have h := mif_y h c49
          refine lv_bipush (v := (-13)) hx hb dX10_put_52 (by decide) ?_
          exact m_ir hx hb hlk hr hR hS (Option.some.inj h).symm dX10_put_54
      · have h := mif_n h c29
        refine lv_bipush (v := (-12)) hx hb dX10_put_32 (by decide) ?_
        exact m_ir hx hb hlk hr hR hS (Option.some.inj h).symm dX10_put_34
    · have h := mif_y h c16
      refine lv_bipush (v := (-11)) hx hb dX10_put_19 (by decide) ?_
      exact m_ir hx hb hlk hr hR hS (Option.some.inj h).symm dX10_put_21
  · have h := mif_y h c5
    refine lv_iconst (v := (-1)) hx hb dX10_put_8 (by decide) ?_
    exact m_ir hx hb hlk hr hR hS (Option.some.inj h).symm dX10_put_9
theorem c_X10_put (l : Launch) (X : mX) (i1 : Int32) (i2 : Int32) (i3 : Int32) (M : mM) {r : Int32 × mM} (h : f_X10_put i1 i2 i3 M = some r) : mMi l yX10_put cX10_put 4 (some .int) 2 44 X [.ref (X.1 96), .int i1, .int i2, .int i3] M r := m_ofi (by decide +kernel) (Nat.le_of_ble_eq_true rfl) rfl (fun p e s m args below meth c hs => w_X10_put hs i1 i2 i3 M h)
set_option maxRecDepth 100000 in
set_option maxHeartbeats 4000000 in
theorem w_X10_element_b45 {l : Launch} {X : mX} {p : Program} {e : Env} {s : State} {m : MethodId} {args : Array Value} {below : List Frame} {meth : Method} {c : Code} {r : Int64 × mM} (hs : mS X RX10 cX10_element 3 (some .long) p s m meth c) : ∀ (i1 : Int32) (i2 : Int32) (s1 : Int32) (M : mM), f_X10_element_b45 i1 i2 s1 M = some r → mG X p l e (rmF 2 44) s m args below meth c (MQ below (mQl X r.2 r.1) args s 0 0 (mL X)) 3 45 [(0, .ref (X.1 96)), (1, .int i1), (2, .int i2)] [.int s1, .ref (X.1 96)] M := by
  obtain ⟨hx, hb, hml, hown, hF, hlk, hr⟩ := id hs
  intro i1 i2 s1 M h H locs ls hR hS hl
  obtain ⟨M45, eM45⟩ : ∃ y : mM, y = mI M 96 0 s1 := ⟨_, rfl⟩
  have h := mlt_n h M45 eM45
  refine m_p9_0 hx hb hF hown hR hS kd_96 mw_5_137 dX10_element_45 eM45 (fun H locs hR hS => ?_)
  refine lv_aload_n hx hb dX10_element_48 rfl (lv_at hl 0 rfl) ?_
  refine m_g9_0 hx hb hF hown hR kd_96 mw_5_137 dX10_element_49 ?_
  refine lv_if_le (tgt := 59) hx hb dX10_element_52 (by decide) (fun c52 => ?_) (fun c52 => ?_)
  · have h := mif_y h c52
    refine lv_aload_n hx hb dX10_element_59 rfl (lv_at hl 0 rfl) ?_
    refine m_g9_34 hx hb hF hown hR kd_96 mw_5_171 dX10_element_60 ?_
    refine lv_bipush (v := 90) hx hb dX10_element_63 (by decide) ?_
    refine lv_iload_n hx hb dX10_element_65 rfl (lv_at hl 1 rfl) ?_
    refine lv_imul hx hb dX10_element_66 ?_
    refine lv_iload_n hx hb dX10_element_67 rfl (lv_at hl 2 rfl) ?_
    refine lv_iadd hx hb dX10_element_68 ?_
    obtain ⟨g69, h⟩ := mgd_e h
    refine m_ialdL hx hb hR kd_115 g69 (jn := (Int32.toNatClampNeg ((90 * i1) + i2))) rfl dX10_element_69 ?_
    refine lv_i2l hx hb dX10_element_70 rfl ?_
    exact m_lr hx hb hlk hr hR hS (Option.some.inj h).symm dX10_element_71
  · have h := mif_n h c52
    refine lv_lconst (v := 0) hx hb dX10_element_55 (by decide) ?_
    refine lv_goto (tgt := 71) hx hb dX10_element_56 (by decide) ?_
    exact m_lr hx hb hlk hr hR hS (Option.some.inj h).symm dX10_element_71
set_option maxRecDepth 100000 in
set_option maxHeartbeats 4000000 in
theorem w_X10_element {l : Launch} {X : mX} {p : Program} {e : Env} {s : State} {m : MethodId} {args : Array Value} {below : List Frame} {meth : Method} {c : Code} {r : Int64 × mM} (hs : mS X RX10 cX10_element 3 (some .long) p s m meth c) : ∀ (i1 : Int32) (i2 : Int32) (M : mM), f_X10_element i1 i2 M = some r → mG X p l e (rmF 2 44) s m args below meth c (MQ below (mQl X r.2 r.1) args s 0 0 (mL X)) 3 0 [(0, .ref (X.1 96)), (1, .int i1), (2, .int i2)] [] M := by
  obtain ⟨hx, hb, hml, hown, hF, hlk, hr⟩ := id hs
  intro i1 i2 M h H locs ls hR hS hl
  refine lv_aload_n hx hb dX10_element_0 rfl (lv_at hl 0 rfl) ?_
  refine lv_aload_n hx hb dX10_element_1 rfl (lv_at hl 0 rfl) ?_
  refine lv_iload_n hx hb dX10_element_2 rfl (lv_at hl 1 rfl) ?_
  obtain ⟨v3, q3, h⟩ := mbp_e h
  refine m_ci (m_rV hx hb hml hown hF hR hS (ent9 kd_96) kd_96 rfl (c_X10_isShelf l X i1 M q3) q_X10_294_V hdV_X10_isShelf ⟨Nat.le_of_ble_eq_true rfl, Nat.le_of_ble_eq_true rfl⟩ rfl hl.1 rfl (Nat.le_of_ble_eq_true rfl) dX10_element_3) hS (fun H locs hR hS => ?_)
  refine lv_if_ne (tgt := 13) hx hb dX10_element_6 (by decide) (fun c6 => ?_) (fun c6 => ?_)
  · have h := mif_n h c6
    refine lv_aload_n hx hb dX10_element_13 rfl (lv_at hl 0 rfl) ?_
    refine m_g9_27 hx hb hF hown hR kd_96 mw_5_164 dX10_element_14 ?_
    refine lv_iload_n hx hb dX10_element_17 rfl (lv_at hl 1 rfl) ?_
    obtain ⟨g18, h⟩ := mgd_e h
    refine m_ialdL hx hb hR kd_108 g18 (jn := (Int32.toNatClampNeg i1)) rfl dX10_element_18 ?_
    refine lv_iconst (v := 2) hx hb dX10_element_19 (by decide) ?_
    refine lv_icmp_ne (tgt := 40) hx hb dX10_element_20 (by decide) (fun c20 => ?_) (fun c20 => ?_)
    · have h := mif_n h c20
      refine lv_iconst (v := 2) hx hb dX10_element_40 (by decide) ?_
      refine lv_goto (tgt := 45) hx hb dX10_element_41 (by decide) ?_
      exact w_X10_element_b45 hs i1 i2 2 M h H locs ls hR hS (lv_sub hl [0, 1, 2] rfl)
    · have h := mif_y h c20
      refine lv_aload_n hx hb dX10_element_23 rfl (lv_at hl 0 rfl) ?_
      refine lv_iload_n hx hb dX10_element_24 rfl (lv_at hl 2 rfl) ?_
      refine lv_iconst (v := 0) hx hb dX10_element_25 (by decide) ?_
      refine lv_aload_n hx hb dX10_element_26 rfl (lv_at hl 0 rfl) ?_
      refine m_g9_33 hx hb hF hown hR kd_96 mw_5_170 dX10_element_27 ?_
      refine lv_iload_n hx hb dX10_element_30 rfl (lv_at hl 1 rfl) ?_
      obtain ⟨g31, h⟩ := mgd_e h
      refine m_ialdL hx hb hR kd_114 g31 (jn := (Int32.toNatClampNeg i1)) rfl dX10_element_31 ?_
      refine lv_iconst (v := 1) hx hb dX10_element_32 (by decide) ?_
      refine lv_isub hx hb dX10_element_33 ?_
      refine m_ci (m_rV hx hb hml hown hF hR hS (ent9 kd_96) kd_96 rfl (c_X10_is l X i2 0 ((M.1 114 (Int32.toNatClampNeg i1)) - 1) M) q_X10_121_V hdV_X10_is ⟨Nat.le_of_ble_eq_true rfl, Nat.le_of_ble_eq_true rfl⟩ rfl hl.1 rfl (Nat.le_of_ble_eq_true rfl) dX10_element_34) hS (fun H locs hR hS => ?_)
      refine lv_if_ne (tgt := 44) hx hb dX10_element_37 (by decide) (fun c37 => ?_) (fun c37 => ?_)
      · have h := mif_n h c37
        refine lv_iconst (v := 0) hx hb dX10_element_44 (by decide) ?_
        exact w_X10_element_b45 hs i1 i2 0 M h H locs ls hR hS (lv_sub hl [0, 1, 2] rfl)
      · have h := mif_y h c37
        refine lv_iconst (v := 2) hx hb dX10_element_40 (by decide) ?_
        refine lv_goto (tgt := 45) hx hb dX10_element_41 (by decide) ?_
        exact w_X10_element_b45 hs i1 i2 2 M h H locs ls hR hS (lv_sub hl [0, 1, 2] rfl)
  · have h := mif_y h c6
    refine lv_iconst (v := 1) hx hb dX10_element_9 (by decide) ?_
    refine lv_goto (tgt := 45) hx hb dX10_element_10 (by decide) ?_
    exact w_X10_element_b45 hs i1 i2 1 M h H locs ls hR hS (lv_sub hl [0, 1, 2] rfl)
theorem c_X10_element (l : Launch) (X : mX) (i1 : Int32) (i2 : Int32) (M : mM) {r : Int64 × mM} (h : f_X10_element i1 i2 M = some r) : mMl l yX10_element cX10_element 3 2 44 X [.ref (X.1 96), .int i1, .int i2] M r := m_ofl (by decide +kernel) (Nat.le_of_ble_eq_true rfl) rfl (fun p e s m args below meth c hs => w_X10_element hs i1 i2 M h)
set_option maxRecDepth 100000 in
set_option maxHeartbeats 4000000 in
theorem w_X10_copy_b161 {l : Launch} {X : mX} {p : Program} {e : Env} {s : State} {m : MethodId} {args : Array Value} {below : List Frame} {meth : Method} {c : Code} {r : Int32 × mM} (hs : mS X RX10 cX10_copy 7 (some .int) p s m meth c) : ∀ n : Nat, ∀ (i3 : Int32) (i4 : Int32) (i5 : Int32) (i6 : Int32) (M : mM), f_X10_copy_b161 n i3 i4 i5 i6 M = some r → mG X p l e (rmF 2 44) s m args below meth c (MQ below (mQi X r.2 r.1) args s 0 0 (mL X)) 7 161 [(0, .ref (X.1 96)), (3, .int i3), (4, .int i4), (5, .int i5), (6, .int i6)] [] M := by
  obtain ⟨hx, hb, hml, hown, hF, hlk, hr⟩ := id hs
  intro n
  induction n with
  | zero =>
    intro i3 i4 i5 i6 M h
    have h0 : (none : Option (Int32 × mM)) = some r := h
    cases h0
  | succ n ih =>
    intro i3 i4 i5 i6 M h H locs ls hR hS hl
    refine lv_iload hx hb dX10_copy_161 (lv_at hl 4 rfl) ?_
    refine lv_iload hx hb dX10_copy_163 (lv_at hl 3 rfl) ?_
    refine lv_icmp_ge (tgt := 196) hx hb dX10_copy_165 (by decide) (fun c165 => ?_) (fun c165 => ?_)
    · have h := mif_y h c165
      refine lv_iload hx hb dX10_copy_196 (lv_at hl 3 rfl) ?_
      exact m_ir hx hb hlk hr hR hS (Option.some.inj h).symm dX10_copy_198
    · have h := mif_n h c165
      refine lv_aload_n hx hb dX10_copy_168 rfl (lv_at hl 0 rfl) ?_
      refine m_g9_34 hx hb hF hown hR kd_96 mw_5_171 dX10_copy_169 ?_
      refine lv_bipush (v := 90) hx hb dX10_copy_172 (by decide) ?_
      refine lv_iload_n hx hb dX10_copy_174 rfl (lv_at hl 1 rfl) ?_
      refine lv_imul hx hb dX10_copy_175 ?_
      refine lv_iload hx hb dX10_copy_176 (lv_at hl 2 rfl) ?_
      refine lv_iadd hx hb dX10_copy_178 ?_
      refine lv_iload hx hb dX10_copy_179 (lv_at hl 4 rfl) ?_
      refine lv_iadd hx hb dX10_copy_181 ?_
      refine lv_aload_n hx hb dX10_copy_182 rfl (lv_at hl 0 rfl) ?_
      refine m_g9_35 hx hb hF hown hR kd_96 mw_5_172 dX10_copy_183 ?_
      refine lv_iload hx hb dX10_copy_186 (lv_at hl 4 rfl) ?_
      obtain ⟨g188, h⟩ := mgd_e h
      refine m_ialdL hx hb hR kd_116 g188 (jn := (Int32.toNatClampNeg i6)) rfl dX10_copy_188 ?_
      obtain ⟨g189, h⟩ := mgd_e h
      obtain ⟨M189, eM189⟩ : ∃ y : mM, y = mI M 115 (Int32.toNatClampNeg (((90 * i3) + i4) + i6)) (M.1 116 (Int32.toNatClampNeg i6)) := ⟨_, rfl⟩
      have h := mlt_n h M189 eM189
      refine m_iastL hx hb hR hS kd_115 g189 (jn := (Int32.toNatClampNeg (((90 * i3) + i4) + i6))) rfl dX10_copy_189 eM189 (fun H locs hR hS => ?_)
      obtain ⟨x190, ex190⟩ : ∃ y : Int32, y = (i6 + 1) := ⟨_, rfl⟩
      have h := mlt_n h x190 ex190
      refine lv_iinc (v := x190) (lv' := [(6, .int x190), (0, .ref (X.1 96)), (3, .int i3), (4, .int i4), (5, .int i5)]) hx hb dX10_copy_190 hl (k := 4) rfl (by rw [ex190]; rfl) (by decide) rfl (fun ls hl => ?_)
      refine lv_goto (tgt := 161) hx hb dX10_copy_193 (by decide) ?_
      exact ih i3 i4 i5 x190 M189 h H locs ls hR hS (lv_sub hl [1, 2, 3, 4, 0] rfl)
set_option maxRecDepth 100000 in
set_option maxHeartbeats 4000000 in
theorem w_X10_copy_b124 {l : Launch} {X : mX} {p : Program} {e : Env} {s : State} {m : MethodId} {args : Array Value} {below : List Frame} {meth : Method} {c : Code} {r : Int32 × mM} (hs : mS X RX10 cX10_copy 7 (some .int) p s m meth c) : ∀ n : Nat, ∀ (i1 : Int32) (i2 : Int32) (i3 : Int32) (i4 : Int32) (i5 : Int32) (i6 : Int32) (M : mM), f_X10_copy_b124 n i1 i2 i3 i4 i5 i6 M = some r → mG X p l e (rmF 2 44) s m args below meth c (MQ below (mQi X r.2 r.1) args s 0 0 (mL X)) 7 124 [(0, .ref (X.1 96)), (1, .int i1), (2, .int i2), (3, .int i3), (4, .int i4), (5, .int i5), (6, .int i6)] [] M := by
  obtain ⟨hx, hb, hml, hown, hF, hlk, hr⟩ := id hs
  intro n
  induction n with
  | zero =>
    intro i1 i2 i3 i4 i5 i6 M h
    have h0 : (none : Option (Int32 × mM)) = some r := h
    cases h0
  | succ n ih =>
    intro i1 i2 i3 i4 i5 i6 M h H locs ls hR hS hl
    refine lv_iload hx hb dX10_copy_124 (lv_at hl 6 rfl) ?_
    refine lv_iload hx hb dX10_copy_126 (lv_at hl 5 rfl) ?_
    refine lv_icmp_ge (tgt := 158) hx hb dX10_copy_128 (by decide) (fun c128 => ?_) (fun c128 => ?_)
    · have h := mif_y h c128
      refine lv_iconst (v := 0) hx hb dX10_copy_158 (by decide) ?_
      refine lv_istore (lv' := [(6, .int 0), (0, .ref (X.1 96)), (1, .int i1), (2, .int i2), (3, .int i3), (4, .int i4), (5, .int i5)]) hx hb dX10_copy_159 hl (by decide) rfl (fun ls hl => ?_)
      exact w_X10_copy_b161 hs mN i3 i4 i5 0 M h H locs ls hR hS (lv_sub hl [1, 4, 5, 6, 0] rfl)
    · have h := mif_n h c128
      refine lv_aload_n hx hb dX10_copy_131 rfl (lv_at hl 0 rfl) ?_
      refine m_g9_35 hx hb hF hown hR kd_96 mw_5_172 dX10_copy_132 ?_
      refine lv_iload hx hb dX10_copy_135 (lv_at hl 6 rfl) ?_
      refine lv_aload_n hx hb dX10_copy_137 rfl (lv_at hl 0 rfl) ?_
      refine m_g9_34 hx hb hF hown hR kd_96 mw_5_171 dX10_copy_138 ?_
      refine lv_bipush (v := 90) hx hb dX10_copy_141 (by decide) ?_
      refine lv_iload_n hx hb dX10_copy_143 rfl (lv_at hl 1 rfl) ?_
      refine lv_imul hx hb dX10_copy_144 ?_
      refine lv_iload_n hx hb dX10_copy_145 rfl (lv_at hl 2 rfl) ?_
      refine lv_iadd hx hb dX10_copy_146 ?_
      refine lv_iload hx hb dX10_copy_147 (lv_at hl 6 rfl) ?_
      refine lv_iadd hx hb dX10_copy_149 ?_
      obtain ⟨g150, h⟩ := mgd_e h
      refine m_ialdL hx hb hR kd_115 g150 (jn := (Int32.toNatClampNeg (((90 * i1) + i2) + i6))) rfl dX10_copy_150 ?_
      obtain ⟨g151, h⟩ := mgd_e h
      obtain ⟨M151, eM151⟩ : ∃ y : mM, y = mI M 116 (Int32.toNatClampNeg i6) (M.1 115 (Int32.toNatClampNeg (((90 * i1) + i2) + i6))) := ⟨_, rfl⟩
      have h := mlt_n h M151 eM151
      refine m_iastL hx hb hR hS kd_116 g151 (jn := (Int32.toNatClampNeg i6)) rfl dX10_copy_151 eM151 (fun H locs hR hS => ?_)
      obtain ⟨x152, ex152⟩ : ∃ y : Int32, y = (i6 + 1) := ⟨_, rfl⟩
      have h := mlt_n h x152 ex152
      refine lv_iinc (v := x152) (lv' := [(6, .int x152), (0, .ref (X.1 96)), (1, .int i1), (2, .int i2), (3, .int i3), (4, .int i4), (5, .int i5)]) hx hb dX10_copy_152 hl (k := 6) rfl (by rw [ex152]; rfl) (by decide) rfl (fun ls hl => ?_)
      refine lv_goto (tgt := 124) hx hb dX10_copy_155 (by decide) ?_
      exact ih i1 i2 i3 i4 i5 x152 M151 h H locs ls hR hS (lv_sub hl [1, 2, 3, 4, 5, 6, 0] rfl)
set_option maxRecDepth 100000 in
set_option maxHeartbeats 4000000 in
theorem w_X10_copy {l : Launch} {X : mX} {p : Program} {e : Env} {s : State} {m : MethodId} {args : Array Value} {below : List Frame} {meth : Method} {c : Code} {r : Int32 × mM} (hs : mS X RX10 cX10_copy 7 (some .int) p s m meth c) : ∀ (i1 : Int32) (i2 : Int32) (i3 : Int32) (i4 : Int32) (i5 : Int32) (M : mM), f_X10_copy i1 i2 i3 i4 i5 M = some r → mG X p l e (rmF 2 44) s m args below meth c (MQ below (mQi X r.2 r.1) args s 0 0 (mL X)) 7 0 [(0, .ref (X.1 96)), (1, .int i1), (2, .int i2), (3, .int i3), (4, .int i4), (5, .int i5)] [] M := by
  obtain ⟨hx, hb, hml, hown, hF, hlk, hr⟩ := id hs
  intro i1 i2 i3 i4 i5 M h H locs ls hR hS hl
  refine lv_aload_n hx hb dX10_copy_0 rfl (lv_at hl 0 rfl) ?_
  refine lv_iload_n hx hb dX10_copy_1 rfl (lv_at hl 1 rfl) ?_
  obtain ⟨v2, q2, h⟩ := mbp_e h
  refine m_ci (m_rV hx hb hml hown hF hR hS (ent9 kd_96) kd_96 rfl (c_X10_isShelf l X i1 M q2) q_X10_294_V hdV_X10_isShelf ⟨Nat.le_of_ble_eq_true rfl, Nat.le_of_ble_eq_true rfl⟩ rfl hl.1 rfl (Nat.le_of_ble_eq_true rfl) dX10_copy_2) hS (fun H locs hR hS => ?_)
  refine lv_if_eq (tgt := 16) hx hb dX10_copy_5 (by decide) (fun c5 => ?_) (fun c5 => ?_)
  · have h := mif_y h c5
    refine lv_iconst (v := (-1)) hx hb dX10_copy_16 (by decide) ?_
    exact m_ir hx hb hlk hr hR hS (Option.some.inj h).symm dX10_copy_17
  · have h := mif_n h c5
    refine lv_aload_n hx hb dX10_copy_8 rfl (lv_at hl 0 rfl) ?_
    refine lv_iload_n hx hb dX10_copy_9 rfl (lv_at hl 3 rfl) ?_
    obtain ⟨v10, q10, h⟩ := mbp_e h
    refine m_ci (m_rV hx hb hml hown hF hR hS (ent9 kd_96) kd_96 rfl (c_X10_isShelf l X i3 M q10) q_X10_294_V hdV_X10_isShelf ⟨Nat.le_of_ble_eq_true rfl, Nat.le_of_ble_eq_true rfl⟩ rfl hl.1 rfl (Nat.le_of_ble_eq_true rfl) dX10_copy_10) hS (fun H locs hR hS => ?_)
    refine lv_if_ne (tgt := 18) hx hb dX10_copy_13 (by decide) (fun c13 => ?_) (fun c13 => ?_)
    · have h := mif_n h c13
      refine lv_aload_n hx hb dX10_copy_18 rfl (lv_at hl 0 rfl) ?_
      refine m_g9_27 hx hb hF hown hR kd_96 mw_5_164 dX10_copy_19 ?_
      refine lv_iload_n hx hb dX10_copy_22 rfl (lv_at hl 1 rfl) ?_
      obtain ⟨g23, h⟩ := mgd_e h
      refine m_ialdL hx hb hR kd_108 g23 (jn := (Int32.toNatClampNeg i1)) rfl dX10_copy_23 ?_
      refine lv_if_eq (tgt := 36) hx hb dX10_copy_24 (by decide) (fun c24 => ?_) (fun c24 => ?_)
      · have h := mif_y h c24
        refine lv_bipush (v := (-11)) hx hb dX10_copy_36 (by decide) ?_
        exact m_ir hx hb hlk hr hR hS (Option.some.inj h).symm dX10_copy_38
      · have h := mif_n h c24
        refine lv_aload_n hx hb dX10_copy_27 rfl (lv_at hl 0 rfl) ?_
        refine m_g9_27 hx hb hF hown hR kd_96 mw_5_164 dX10_copy_28 ?_
        refine lv_iload_n hx hb dX10_copy_31 rfl (lv_at hl 3 rfl) ?_
        obtain ⟨g32, h⟩ := mgd_e h
        refine m_ialdL hx hb hR kd_108 g32 (jn := (Int32.toNatClampNeg i3)) rfl dX10_copy_32 ?_
        refine lv_if_ne (tgt := 39) hx hb dX10_copy_33 (by decide) (fun c33 => ?_) (fun c33 => ?_)
        · have h := mif_n h c33
          refine lv_aload_n hx hb dX10_copy_39 rfl (lv_at hl 0 rfl) ?_
          refine m_g9_27 hx hb hF hown hR kd_96 mw_5_164 dX10_copy_40 ?_
          refine lv_iload_n hx hb dX10_copy_43 rfl (lv_at hl 1 rfl) ?_
          obtain ⟨g44, h⟩ := mgd_e h
          refine m_ialdL hx hb hR kd_108 g44 (jn := (Int32.toNatClampNeg i1)) rfl dX10_copy_44 ?_
          refine lv_iconst (v := 2) hx hb dX10_copy_45 (by decide) ?_
          refine lv_icmp_ne (tgt := 74) hx hb dX10_copy_46 (by decide) (fun c46 => ?_) (fun c46 => ?_)
          · have h := mif_n h c46
            refine lv_bipush (v := (-12)) hx hb dX10_copy_74 (by decide) ?_
            exact m_ir hx hb hlk hr hR hS (Option.some.inj h).symm dX10_copy_76
          · have h := mif_y h c46
            refine lv_aload_n hx hb dX10_copy_49 rfl (lv_at hl 0 rfl) ?_
            refine m_g9_27 hx hb hF hown hR kd_96 mw_5_164 dX10_copy_50 ?_
            refine lv_iload_n hx hb dX10_copy_53 rfl (lv_at hl 3 rfl) ?_
            obtain ⟨g54, h⟩ := mgd_e h
            refine m_ialdL hx hb hR kd_108 g54 (jn := (Int32.toNatClampNeg i3)) rfl dX10_copy_54 ?_
            refine lv_iconst (v := 2) hx hb dX10_copy_55 (by decide) ?_
            refine lv_icmp_ne (tgt := 74) hx hb dX10_copy_56 (by decide) (fun c56 => ?_) (fun c56 => ?_)
            · have h := mif_n h c56
              refine lv_bipush (v := (-12)) hx hb dX10_copy_74 (by decide) ?_
              exact m_ir hx hb hlk hr hR hS (Option.some.inj h).symm dX10_copy_76
            · have h := mif_y h c56
              refine lv_aload_n hx hb dX10_copy_59 rfl (lv_at hl 0 rfl) ?_
              refine m_g9_32 hx hb hF hown hR kd_96 mw_5_169 dX10_copy_60 ?_
              refine lv_iload_n hx hb dX10_copy_63 rfl (lv_at hl 1 rfl) ?_
              obtain ⟨g64, h⟩ := mgd_e h
              refine m_ialdL hx hb hR kd_113 g64 (jn := (Int32.toNatClampNeg i1)) rfl dX10_copy_64 ?_
              refine lv_aload_n hx hb dX10_copy_65 rfl (lv_at hl 0 rfl) ?_
              refine m_g9_32 hx hb hF hown hR kd_96 mw_5_169 dX10_copy_66 ?_
              refine lv_iload_n hx hb dX10_copy_69 rfl (lv_at hl 3 rfl) ?_
              obtain ⟨g70, h⟩ := mgd_e h
              refine m_ialdL hx hb hR kd_113 g70 (jn := (Int32.toNatClampNeg i3)) rfl dX10_copy_70 ?_
              refine lv_icmp_eq (tgt := 77) hx hb dX10_copy_71 (by decide) (fun c71 => ?_) (fun c71 => ?_)
              · have h := mif_y h c71
                refine lv_iload hx hb dX10_copy_77 (lv_at hl 5 rfl) ?_
                refine lv_if_lt (tgt := 118) hx hb dX10_copy_79 (by decide) (fun c79 => ?_) (fun c79 => ?_)
                · have h := mif_y h c79
                  refine lv_bipush (v := (-13)) hx hb dX10_copy_118 (by decide) ?_
                  exact m_ir hx hb hlk hr hR hS (Option.some.inj h).symm dX10_copy_120
                · have h := mif_n h c79
                  refine lv_iload_n hx hb dX10_copy_82 rfl (lv_at hl 2 rfl) ?_
                  refine lv_if_lt (tgt := 118) hx hb dX10_copy_83 (by decide) (fun c83 => ?_) (fun c83 => ?_)
                  · have h := mif_y h c83
                    refine lv_bipush (v := (-13)) hx hb dX10_copy_118 (by decide) ?_
                    exact m_ir hx hb hlk hr hR hS (Option.some.inj h).symm dX10_copy_120
                  · have h := mif_n h c83
                    refine lv_iload hx hb dX10_copy_86 (lv_at hl 4 rfl) ?_
                    refine lv_if_lt (tgt := 118) hx hb dX10_copy_88 (by decide) (fun c88 => ?_) (fun c88 => ?_)
                    · have h := mif_y h c88
                      refine lv_bipush (v := (-13)) hx hb dX10_copy_118 (by decide) ?_
                      exact m_ir hx hb hlk hr hR hS (Option.some.inj h).symm dX10_copy_120
                    · have h := mif_n h c88
                      refine lv_iload_n hx hb dX10_copy_91 rfl (lv_at hl 2 rfl) ?_
                      refine lv_aload_n hx hb dX10_copy_92 rfl (lv_at hl 0 rfl) ?_
                      refine m_g9_33 hx hb hF hown hR kd_96 mw_5_170 dX10_copy_93 ?_
                      refine lv_iload_n hx hb dX10_copy_96 rfl (lv_at hl 1 rfl) ?_
                      obtain ⟨g97, h⟩ := mgd_e h
                      refine m_ialdL hx hb hR kd_114 g97 (jn := (Int32.toNatClampNeg i1)) rfl dX10_copy_97 ?_
                      refine lv_iload hx hb dX10_copy_98 (lv_at hl 5 rfl) ?_
                      refine lv_isub hx hb dX10_copy_100 ?_
                      refine lv_icmp_gt (tgt := 118) hx hb dX10_copy_101 (by decide) (fun c101 => ?_) (fun c101 => ?_)
                      · have h := mif_y h c101
                        refine lv_bipush (v := (-13)) hx hb dX10_copy_118 (by decide) ?_
                        exact m_ir hx hb hlk hr hR hS (Option.some.inj h).symm dX10_copy_120
                      · have h := mif_n h c101
                        refine lv_iload hx hb dX10_copy_104 (lv_at hl 4 rfl) ?_
                        refine lv_aload_n hx hb dX10_copy_106 rfl (lv_at hl 0 rfl) ?_
                        refine m_g9_33 hx hb hF hown hR kd_96 mw_5_170 dX10_copy_107 ?_
                        refine lv_iload_n hx hb dX10_copy_110 rfl (lv_at hl 3 rfl) ?_
                        obtain ⟨g111, h⟩ := mgd_e h
                        refine m_ialdL hx hb hR kd_114 g111 (jn := (Int32.toNatClampNeg i3)) rfl dX10_copy_111 ?_
                        refine lv_iload hx hb dX10_copy_112 (lv_at hl 5 rfl) ?_
                        refine lv_isub hx hb dX10_copy_114 ?_
                        refine lv_icmp_le (tgt := 121) hx hb dX10_copy_115 (by decide) (fun c115 => ?_) (fun c115 => ?_)
                        · have h := mif_y h c115
                          refine lv_iconst (v := 0) hx hb dX10_copy_121 (by decide) ?_
                          refine lv_istore (lv' := [(6, .int 0), (0, .ref (X.1 96)), (1, .int i1), (2, .int i2), (3, .int i3), (4, .int i4), (5, .int i5)]) hx hb dX10_copy_122 hl (by decide) rfl (fun ls hl => ?_)
                          exact w_X10_copy_b124 hs mN i1 i2 i3 i4 i5 0 M h H locs ls hR hS (lv_sub hl [1, 2, 3, 4, 5, 6, 0] rfl)
                        · have h := mif_n h c115
                          refine lv_bipush (v := (-13)) hx hb dX10_copy_118 (by decide) ?_
                          exact m_ir hx hb hlk hr hR hS (Option.some.inj h).symm dX10_copy_120
              · have h := mif_n h c71
                refine lv_bipush (v := (-12)) hx hb dX10_copy_74 (by decide) ?_
                exact m_ir hx hb hlk hr hR hS (Option.some.inj h).symm dX10_copy_76
        · have h := mif_y h c33
          refine lv_bipush (v := (-11)) hx hb dX10_copy_36 (by decide) ?_
          exact m_ir hx hb hlk hr hR hS (Option.some.inj h).symm dX10_copy_38
    · have h := mif_y h c13
      refine lv_iconst (v := (-1)) hx hb dX10_copy_16 (by decide) ?_
      exact m_ir hx hb hlk hr hR hS (Option.some.inj h).symm dX10_copy_17
theorem c_X10_copy (l : Launch) (X : mX) (i1 : Int32) (i2 : Int32) (i3 : Int32) (i4 : Int32) (i5 : Int32) (M : mM) {r : Int32 × mM} (h : f_X10_copy i1 i2 i3 i4 i5 M = some r) : mMi l yX10_copy cX10_copy 7 (some .int) 2 44 X [.ref (X.1 96), .int i1, .int i2, .int i3, .int i4, .int i5] M r := m_ofi (by decide +kernel) (Nat.le_of_ble_eq_true rfl) rfl (fun p e s m args below meth c hs => w_X10_copy hs i1 i2 i3 i4 i5 M h)
set_option maxRecDepth 100000 in
set_option maxHeartbeats 4000000 in
theorem w_X10_lacksCube {l : Launch} {X : mX} {p : Program} {e : Env} {s : State} {m : MethodId} {args : Array Value} {below : List Frame} {meth : Method} {c : Code} {M : mM} {r : Int32} (hs : mS X RX10 cX10_lacksCube 2 (some .int) p s m meth c) : ∀ (i1 : Int32), f_X10_lacksCube i1 M = some r → mG X p l e (rmF 2 44) s m args below meth c (MQ below (mQi X M r) args s 0 0 (mL X)) 2 0 [(0, .ref (X.1 96)), (1, .int i1)] [] M := by
  obtain ⟨hx, hb, hml, hown, hF, hlk, hr⟩ := id hs
  intro i1 h H locs ls hR hS hl
  refine lv_aload_n hx hb dX10_lacksCube_0 rfl (lv_at hl 0 rfl) ?_
  refine lv_iload_n hx hb dX10_lacksCube_1 rfl (lv_at hl 1 rfl) ?_
  obtain ⟨v2, q2, h⟩ := mbp_e h
  refine m_ci (m_rV hx hb hml hown hF hR hS (ent9 kd_96) kd_96 rfl (c_X10_isShelf l X i1 M q2) q_X10_294_V hdV_X10_isShelf ⟨Nat.le_of_ble_eq_true rfl, Nat.le_of_ble_eq_true rfl⟩ rfl hl.1 rfl (Nat.le_of_ble_eq_true rfl) dX10_lacksCube_2) hS (fun H locs hR hS => ?_)
  refine lv_if_ne (tgt := 12) hx hb dX10_lacksCube_5 (by decide) (fun c5 => ?_) (fun c5 => ?_)
  · have h := mif_n h c5
    refine lv_aload_n hx hb dX10_lacksCube_12 rfl (lv_at hl 0 rfl) ?_
    refine m_g9_27 hx hb hF hown hR kd_96 mw_5_164 dX10_lacksCube_13 ?_
    refine lv_iload_n hx hb dX10_lacksCube_16 rfl (lv_at hl 1 rfl) ?_
    obtain ⟨g17, h⟩ := mgd_e h
    refine m_ialdL hx hb hR kd_108 g17 (jn := (Int32.toNatClampNeg i1)) rfl dX10_lacksCube_17 ?_
    refine lv_if_ne (tgt := 26) hx hb dX10_lacksCube_18 (by decide) (fun c18 => ?_) (fun c18 => ?_)
    · have h := mif_n h c18
      refine lv_aload_n hx hb dX10_lacksCube_26 rfl (lv_at hl 0 rfl) ?_
      refine m_g9_27 hx hb hF hown hR kd_96 mw_5_164 dX10_lacksCube_27 ?_
      refine lv_iload_n hx hb dX10_lacksCube_30 rfl (lv_at hl 1 rfl) ?_
      obtain ⟨g31, h⟩ := mgd_e h
      refine m_ialdL hx hb hR kd_108 g31 (jn := (Int32.toNatClampNeg i1)) rfl dX10_lacksCube_31 ?_
      refine lv_iconst (v := 2) hx hb dX10_lacksCube_32 (by decide) ?_
      refine lv_icmp_ne (tgt := 41) hx hb dX10_lacksCube_33 (by decide) (fun c33 => ?_) (fun c33 => ?_)
      · have h := mif_n h c33
        refine lv_iconst (v := 0) hx hb dX10_lacksCube_41 (by decide) ?_
        exact m_ir hx hb hlk hr hR hS (congrArg (fun z => (z, M)) (Option.some.inj h).symm) dX10_lacksCube_42
      · have h := mif_y h c33
        refine lv_bipush (v := (-12)) hx hb dX10_lacksCube_36 (by decide) ?_
        refine lv_goto (tgt := 42) hx hb dX10_lacksCube_38 (by decide) ?_
        exact m_ir hx hb hlk hr hR hS (congrArg (fun z => (z, M)) (Option.some.inj h).symm) dX10_lacksCube_42
    · have h := mif_y h c18
      refine lv_bipush (v := (-11)) hx hb dX10_lacksCube_21 (by decide) ?_
      refine lv_goto (tgt := 42) hx hb dX10_lacksCube_23 (by decide) ?_
      exact m_ir hx hb hlk hr hR hS (congrArg (fun z => (z, M)) (Option.some.inj h).symm) dX10_lacksCube_42
  · have h := mif_y h c5
    refine lv_iconst (v := (-1)) hx hb dX10_lacksCube_8 (by decide) ?_
    refine lv_goto (tgt := 42) hx hb dX10_lacksCube_9 (by decide) ?_
    exact m_ir hx hb hlk hr hR hS (congrArg (fun z => (z, M)) (Option.some.inj h).symm) dX10_lacksCube_42
theorem c_X10_lacksCube (l : Launch) (X : mX) (i1 : Int32) (M : mM) {r : Int32} (h : f_X10_lacksCube i1 M = some r) : mMi l yX10_lacksCube cX10_lacksCube 2 (some .int) 2 44 X [.ref (X.1 96), .int i1] M (r, M) := m_ofi (by decide +kernel) (Nat.le_of_ble_eq_true rfl) rfl (fun p e s m args below meth c hs => w_X10_lacksCube hs i1 h)
