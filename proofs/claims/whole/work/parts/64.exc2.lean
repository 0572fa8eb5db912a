theorem mw_5_22 : mGw (.methodLink RX9 333 yX9_caughtFailure) := mG5 (i := 22) (by decide +kernel) rfl
theorem mw_5_23 : mGw (.static yX9_caughtFailure) := mG5 (i := 23) (by decide +kernel) rfl
theorem mw_5_24 : mGw (.codeWith yX9_caughtFailure cX9_caughtFailure 2 (some .int) hhC) := mG5 (i := 24) (by decide +kernel) rfl
theorem mw_5_123 : mGw (.methodLink RL 7 yX9_element) := mG5 (i := 123) (by decide +kernel) rfl
theorem mw_5_124 : mGw (.instanceMethod yX9_element) := mG5 (i := 124) (by decide +kernel) rfl
theorem mw_5_125 : mGw (.selects RX9 yX9_element yX9_element) := mG5 (i := 125) (by decide +kernel) rfl
theorem mw_5_126 : mGw (.code yX9_element cX9_element 3 (some .long)) := mG5 (i := 126) (by decide +kernel) rfl
theorem hdS_X9_caughtFailure : yX9_caughtFailure.cls ≠ "java/lang/invoke/MethodHandle" ∧ yX9_caughtFailure.cls ≠ "java/lang/invoke/VarHandle" ∧ (parseMethodDescriptor yX9_caughtFailure.desc).map (fun d => d.parameters.length) = some 1 := ⟨by decide +kernel, by decide +kernel, by decide +kernel⟩
theorem hdV_X9_element : yX9_element.cls = RX9 ∧ yX9_element.cls ≠ "java/lang/invoke/MethodHandle" ∧ yX9_element.cls ≠ "java/lang/invoke/VarHandle" ∧ (parseMethodDescriptor yX9_element.desc).map (fun d => d.parameters.length) = some 2 := ⟨rfl, by decide +kernel, by decide +kernel, by decide +kernel⟩
theorem q_X9_333_S : ∀ w ∈ va_wsS RX9 333 yX9_caughtFailure [Cond.codeWith yX9_caughtFailure cX9_caughtFailure 2 (some .int) hhC], mGw w := w4 mw_5_22 mw_5_23 mw_1_1 mw_5_24
theorem q_L_7_V : ∀ w ∈ wsV RL 7 RX9 yX9_element [Cond.code yX9_element cX9_element 3 (some .long)], mGw w := w5 mw_5_123 mw_5_124 mw_5_125 mw_1_1 mw_5_126
theorem m_lastg {p : Program} {l : Launch} {e : Env} {R : Room} {s : State} {m : MethodId} {args : Array Value} {below : List Frame} {meth : Method} {c : Code} {H : Heap} {locs : List Loc} {cells slots : Nat} {Q : State → Prop} {cc : ByteArray} {pc k n : Nat} {ls : Array Slot} {rest : List Value} {X : mX} {M : mM} (hx : p.tables.exec = Jvm.exec) (hb : c.code = cc) (hR : mR X s H M) (hS : va_S (mL X) s.heap H locs) (hk : kd k = (12, n)) {j : Int32} {x : Int64} (hin : mIn j n) {jn : Nat} (hj : j.toNatClampNeg = jn) (hdg : decode cc pc = .ok (.lastore, 1)) {M1 : mM} (hM : M1 = mJ M k jn x)
    (kk : ∀ (H : Heap) (locs : List Loc), mR X s H M1 → va_S (mL X) s.heap H locs → W p l e R s m args below meth c H locs cells slots Q (F0 m (pc + 1) ls rest)) : W p l e R s m args below meth c H locs cells slots Q (F0 m pc ls (.long x :: .int j :: .ref (X.1 k) :: rest)) := by
  subst hM
  subst hj
  refine va_last hx hb hR.1 hR.2.1 hR.2.2 hS k 2 (mW_e hk (by decide) (ent12 hk)) rfl hin hdg (fun H1 locs1 hP hD hS1 => ?_)
  rw [mW_set (N := mJ M k j.toNatClampNeg x) (kd_lt hk (by decide)) (by rw [ent12 hk, mJ_self]) mJ_entne] at hP hD
  exact kk H1 locs1 ⟨hR.1, hP, hD⟩ hS1
section MH
variable {p : Program} {l : Launch} {e : Env} {R : Room} {s : State} {m : MethodId} {args : Array Value} {below : List Frame} {meth : Method} {c : Code} {H : Heap} {locs : List Loc} {cells slots : Nat}
variable {cc : ByteArray} {pc nL : Nat} {ls : Array Slot} {st0 rest : List Value} {X : mX} {M : mM}
theorem vx_runSW9 {y : MethodName} {bytes : ByteArray} {maxL f n0 mc ms index : Nat} {hh : List (Nat × Nat × Nat × Nat)} {Qc : Array Value → State → Outcome → State → Prop} {XC : String → State → State → Prop} {As : List Value} {own : String} {ret : Option FieldType} (hx : p.tables.exec = Jvm.exec) (hb : c.code = cc) (hml : c.maxLocals = nL) (hown : s.vm.findClass own = some m.cls) (hF : mF X s s.heap) (hE : mE X s s.heap) (hR : mR X s H M) (hS : va_S (mL X) s.heap H locs)
    (hM : vx_Met l y [Cond.codeWith y bytes maxL ret hh] (pRm f n0 mc ms) (va_Pc As (mPreE X M)) Qc XC mc ms (mL X)) (hall : ∀ w ∈ va_wsS own index y [Cond.codeWith y bytes maxL ret hh], mGw w)
    (hd : y.cls ≠ "java/lang/invoke/MethodHandle" ∧ y.cls ≠ "java/lang/invoke/VarHandle" ∧ (parseMethodDescriptor y.desc).map (fun d => d.parameters.length) = some As.length) (hRm : f + 1 ≤ R.frames ∧ 8 + (maxL + 11) + n0 ≤ R.locals)
    (hl : ls.size = nL) (hst : st0 = As.reverse ++ rest) (hW : (rest.map fun v => v.category).sum ≤ 8) (hdg : decode cc pc = .ok (.invokestatic index, 3)) (hcs : cells + mc ≤ R.cells ∧ slots + ms ≤ R.slots) :
    vx_Run p l e R s m args below meth c H locs cells slots mc ms (F0 m pc ls st0) rest (Qc As.toArray) XC (mL X) :=
  vx_runSX (hh := hh) (Ts := va_wsS own index y [Cond.codeWith y bytes maxL ret hh]) ⟨hx, hb, hml, hown, fun w hw => hF.w (hall w hw)⟩ hM (vx_cwSW As.length (fun w hw => hF.w (hall w hw)) (wGood hall) rfl rfl rfl hd hRm) ⟨mPreE_blind, mPreE_at hF hE hR hS⟩ rfl rfl hl hst (lv_room hW) hdg hcs
end MH
def f_X9_toss (i1 : Int32) (M : mM) : Option Int32 :=
  if (f_X9_isShelf i1) = 0 then (some (-1))
  else (mgd (mIn i1 8) <|
  mlt (80 + 2 * Int32.toNatClampNeg i1) fun h14 =>
  mlt (f_X6_refusalOfCube h14 M) fun x18 =>
  if 0 ≤ x18 then (mgd (mIn i1 8) <|
  mlt (80 + 2 * Int32.toNatClampNeg i1) fun h32 =>
  some (f_X9_caughtFailure h32 M))
  else (some x18))
set_option maxRecDepth 100000 in
set_option maxHeartbeats 4000000 in
theorem w_X9_toss {l : Launch} {X : mX} {p : Program} {e : Env} {s : State} {m : MethodId} {args : Array Value} {below : List Frame} {meth : Method} {c : Code} {M : mM} {r : Int32} (hs : mS X RX9 cX9_toss 3 (some .int) p s m meth c) (hlt : l.stackTraces = false) (hE : mE X s s.heap) : ∀ (i1 : Int32), f_X9_toss i1 M = some r → mG X p l e (pRm 14 500 1 6) s m args below meth c (MQ below (mQi X M r) args s 1 6 (mL X)) 3 0 [(0, .ref (X.1 0)), (1, .int i1)] [] M := by
  obtain ⟨hx, hb, hml, hown, hF, hlk, hr⟩ := id hs
  intro i1 h H locs ls hR hS hl
  refine lv_iload_n hx hb dX9_toss_0 rfl (lv_at hl 1 rfl) ?_
  refine m_ci (m_rS hx hb hml hown hF hR hS (c_X9_isShelf l X i1 M) q_X9_167_S hdS_X9_isShelf ⟨Nat.le_of_ble_eq_true rfl, Nat.le_of_ble_eq_true rfl⟩ rfl hl.1 rfl (Nat.le_of_ble_eq_true rfl) dX9_toss_1) hS (fun H locs hR hS => ?_)
  refine lv_if_ne (tgt := 9) hx hb dX9_toss_4 (by decide) (fun c4 => ?_) (fun c4 => ?_)
  · have h := mif_n h c4
    refine lv_aload_n hx hb dX9_toss_9 rfl (lv_at hl 0 rfl) ?_
    refine m_g8_8 hx hb hF hown hR kd_0 mw_2_50 dX9_toss_10 ?_
    refine lv_iload_n hx hb dX9_toss_13 rfl (lv_at hl 1 rfl) ?_
    obtain ⟨g14, h⟩ := mgd_e h
    refine m_sald hx hb hR kd_79 g14 dX9_toss_14 ?_
    refine lv_topc (fun h14 eh14 => ?_)
    have h := mlt_n h h14 eh14
    have h_h14 : isShelf h14 := by rw [eh14]; exact kShelfAt (vp_lt g14)
    refine m_ci (m_rV hx hb hml hown hF hR hS (ent6 (kShelf0 h_h14)) (kShelf0 h_h14) rfl (c_X6_refusalOfCube l X h14 h_h14 M) q_X9_327_V hdV_X6_refusalOfCube ⟨Nat.le_of_ble_eq_true rfl, Nat.le_of_ble_eq_true rfl⟩ rfl hl.1 rfl (Nat.le_of_ble_eq_true rfl) dX9_toss_15) hS (fun H locs hR hS => ?_)
    refine lv_topi (fun x18 ex18 => ?_)
    have h := mlt_n h x18 ex18
    refine lv_istore_n (lv' := [(2, .int x18), (0, .ref (X.1 0)), (1, .int i1)]) hx hb dX9_toss_18 rfl hl (by decide) rfl (fun ls hl => ?_)
    refine lv_iload_n hx hb dX9_toss_19 rfl (lv_at hl 0 rfl) ?_
    refine lv_if_ge (tgt := 27) hx hb dX9_toss_20 (by decide) (fun c20 => ?_) (fun c20 => ?_)
    · have h := mif_y h c20
      refine lv_aload_n hx hb dX9_toss_27 rfl (lv_at hl 1 rfl) ?_
      refine m_g8_8 hx hb hF hown hR kd_0 mw_2_50 dX9_toss_28 ?_
      refine lv_iload_n hx hb dX9_toss_31 rfl (lv_at hl 2 rfl) ?_
      obtain ⟨g32, h⟩ := mgd_e h
      refine m_sald hx hb hR kd_79 g32 dX9_toss_32 ?_
      refine lv_topc (fun h32 eh32 => ?_)
      have h := mlt_n h h32 eh32
      have h_h32 : isShelf h32 := by rw [eh32]; exact kShelfAt (vp_lt g32)
      refine vx_calli (A0 := mL X) (A1 := mL X) (AX := fun _ => False) (vx_runSW9 hx hb hml hown hF hE hR hS (x_caughtFailure l hlt X h32 h_h32 M) q_X9_333_S hdS_X9_caughtFailure ⟨Nat.le_of_ble_eq_true rfl, Nat.le_of_ble_eq_true rfl⟩ hl.1 rfl (Nat.le_of_ble_eq_true rfl) dX9_toss_33 ⟨Nat.le_of_ble_eq_true rfl, Nat.le_of_ble_eq_true rfl⟩) hS (fun _ _ h => h) (fun _ h => h) (fun _ _ h => absurd h (fun q => q)) (fun _ _ _ u _ _ _ _ _ hu _ _ _ _ _ _ _ => hu.elim) (fun r9 u9 t9 H1 locs1 ht9 hv9 hp9 hB9 _ _ hS => ?_)
      subst hp9
      rw [ht9] at hB9
      have hR := hB9.moved hv9.symm
      exact m_irg (by decide) (by decide) hx hb hlk hr hR hS (congrArg (fun z => (z, M)) (Option.some.inj h).symm) dX9_toss_36
    · have h := mif_n h c20
      refine lv_iload_n hx hb dX9_toss_23 rfl (lv_at hl 0 rfl) ?_
      refine lv_goto (tgt := 36) hx hb dX9_toss_24 (by decide) ?_
      exact m_irg (by decide) (by decide) hx hb hlk hr hR hS (congrArg (fun z => (z, M)) (Option.some.inj h).symm) dX9_toss_36
  · have h := mif_y h c4
    refine lv_iconst (v := (-1)) hx hb dX9_toss_7 (by decide) ?_
    exact m_irg (by decide) (by decide) hx hb hlk hr hR hS (congrArg (fun z => (z, M)) (Option.some.inj h).symm) dX9_toss_8
theorem c_X9_toss (l : Launch) (hlt : l.stackTraces = false) (X : mX) (i1 : Int32) (M : mM) {r : Int32} (h : f_X9_toss i1 M = some r) : Met l yX9_toss [Cond.code yX9_toss cX9_toss 3 (some .int)] (pRm 14 500 1 6) (va_Pc [.ref (X.1 0), .int i1] (mPreE X M)) (mQi X M r) 1 6 (mL X) := by
  refine Met.ofW (cc := cX9_toss) (maxL := 3) (ret := some .int) (by decide +kernel) rfl ?_
  intro p e s m args below meth c s₁ B hml hv
  obtain ⟨rfl, hF, hE, hR⟩ := hv
  have hl := lv_entry [Value.ref (X.1 0), Value.int i1] (n := 3) (Nat.le_of_ble_eq_true rfl)
  rw [lg_entry_eq]
  exact w_X9_toss (X := X) ⟨B.exec, B.bytes, hml, findClass_of_methodNamed B.named, hF, B.notSynchronized, B.returns⟩ hlt hE i1 h s.heap [] _ hR va_S.rf hl
def f_X9_element (i1 : Int32) (i2 : Int32) (M : mM) : Option (Int32 × Int64) :=
  if (f_X9_isShelf i1) = 0 then (some (1, 0))
  else (mgd (mIn i1 8) <|
  mlt (80 + 2 * Int32.toNatClampNeg i1) fun h23 =>
  if (f_X6_isRow h23 M) = 0 then (some (2, 0))
  else (mgd (mIn i1 8) <|
  mlt (80 + 2 * Int32.toNatClampNeg i1) fun h35 =>
  if (f_X6_hasPlace h35 i2 M) = 0 then (some (2, 0))
  else (mgd (mIn i1 8) <|
  mlt (80 + 2 * Int32.toNatClampNeg i1) fun h59 =>
  mgd (mIn i2 90) <|
  some (0, (Int32.toInt64 (M.1 (h59 + 1) (Int32.toNatClampNeg i2)))))))
abbrev xQl (X : mX) (M : mM) (r : Int32 × Int64) : Array Value → State → Outcome → State → Prop := va_Ql (fun x (_ : Unit) => x = r.2 ∧ r.1 = 0) (fun _ t => mR X t t.heap M) (mL X)
set_option maxRecDepth 100000 in
set_option maxHeartbeats 4000000 in
theorem x_element (l : Launch) (hlt : l.stackTraces = false) (X : mX) (i1 i2 : Int32) (M : mM) {r : Int32 × Int64} (h : f_X9_element i1 i2 M = some r) : vx_Met l yX9_element [Cond.code yX9_element cX9_element 3 (some .long)] (pRm 10 300 1 6) (va_Pc [.ref (X.1 0), .int i1, .int i2] (mPreE X M)) (xQl X M r) (xX X M r.1) 1 6 (mL X) := by
  refine vx_ofW (cc := cX9_element) (maxL := 3) (ret := some .long) (by decide +kernel) rfl ?_
  intro p e s m args below meth c s₁ B hml htab hv
  obtain ⟨rfl, hF, hE, hR⟩ := hv
  have hx := B.exec
  have hb := B.bytes
  have hr := B.returns
  have hlk := B.notSynchronized
  have hown : s.vm.findClass RX9 = some m.cls := findClass_of_methodNamed B.named
  have hl := lv_entry [Value.ref (X.1 0), Value.int i1, Value.int i2] (n := 3) (Nat.le_of_ble_eq_true rfl)
  rw [lg_entry_eq]
  generalize (lg_sl [Value.ref (X.1 0), Value.int i1, Value.int i2] ++ List.replicate (3 - (lg_sl [Value.ref (X.1 0), Value.int i1, Value.int i2]).length) Slot.unset).toArray = ls at hl ⊢
  have hl : lv_has ls 3 [(0, .ref (X.1 0)), (1, .int i1), (2, .int i2)] := hl
  have hS : va_S (mL X) s.heap s.heap [] := va_S.rf
  obtain ⟨hE1, hE2, hE3, hE5, -, -, ⟨sa3, hE8⟩, ⟨sa4, hE9⟩⟩ := id hE
  refine lv_iload_n hx hb dX9_element_0 rfl (lv_at hl 1 rfl) ?_
  refine m_ci (m_rS hx hb hml hown hF hR hS (c_X9_isShelf l X i1 M) q_X9_167_S hdS_X9_isShelf ⟨Nat.le_of_ble_eq_true rfl, Nat.le_of_ble_eq_true rfl⟩ rfl hl.1 rfl (Nat.le_of_ble_eq_true rfl) dX9_element_1) hS (fun H locs hR hS => ?_)
  refine lv_if_ne (tgt := 18) hx hb dX9_element_4 (by decide) (fun c4 => ?_) (fun c4 => ?_)
  · have h := mif_n h c4
    refine lv_aload_n hx hb dX9_element_18 rfl (lv_at hl 0 rfl) ?_
    refine m_g8_8 hx hb hF hown hR kd_0 mw_2_50 dX9_element_19 ?_
    refine lv_iload_n hx hb dX9_element_22 rfl (lv_at hl 1 rfl) ?_
    obtain ⟨g23, h⟩ := mgd_e h
    refine m_sald hx hb hR kd_79 g23 dX9_element_23 ?_
    refine lv_topc (fun h23 eh23 => ?_)
    have h := mlt_n h h23 eh23
    have h_h23 : isShelf h23 := by rw [eh23]; exact kShelfAt (vp_lt g23)
    refine m_ci (m_rV hx hb hml hown hF hR hS (ent6 (kShelf0 h_h23)) (kShelf0 h_h23) rfl (c_X6_isRow l X h23 h_h23 M) q_X9_307_V hdV_X6_isRow ⟨Nat.le_of_ble_eq_true rfl, Nat.le_of_ble_eq_true rfl⟩ rfl hl.1 rfl (Nat.le_of_ble_eq_true rfl) dX9_element_24) hS (fun H locs hR hS => ?_)
    refine lv_if_eq (tgt := 43) hx hb dX9_element_27 (by decide) (fun c27 => ?_) (fun c27 => ?_)
    · have h := mif_y h c27
      exact vx_throwSW hx hb hlt (cls := "java/lang/IllegalStateException") (text := "no such element") (names := ["java/lang/RuntimeException", "java/lang/Exception"]) hown thr_fit2 thr_nms (hF.w mw_5_26) (hF.w mw_1_19) hE9 (mThr hF hE3 thr_f2) thr_g4 hE1 hE2 hS (hl.1.trans hml.symm) dX9_element_43 dX9_element_46 dX9_element_47 dX9_element_50 dX9_element_53 (fun x hx9 => absurd (htab x hx9) (fun q => q)) (Nat.le_of_ble_eq_true rfl) (Nat.le_of_ble_eq_true rfl) (Nat.le_of_ble_eq_true rfl) (Nat.le_of_ble_eq_true rfl) hlk (fun t hv hz hq => ⟨(), trivial, ⟨Or.inr ⟨rfl, by rw [← Option.some.inj h]⟩, (hR.kept hq).moved hv⟩, mThrF hS hz hq⟩) hS.2.2 (Nat.le_of_ble_eq_true rfl) (Nat.le_of_ble_eq_true rfl)
    · have h := mif_n h c27
      refine lv_aload_n hx hb dX9_element_30 rfl (lv_at hl 0 rfl) ?_
      refine m_g8_8 hx hb hF hown hR kd_0 mw_2_50 dX9_element_31 ?_
      refine lv_iload_n hx hb dX9_element_34 rfl (lv_at hl 1 rfl) ?_
      obtain ⟨g35, h⟩ := mgd_e h
      refine m_sald hx hb hR kd_79 g35 dX9_element_35 ?_
      refine lv_topc (fun h35 eh35 => ?_)
      have h := mlt_n h h35 eh35
      have h_h35 : isShelf h35 := by rw [eh35]; exact kShelfAt (vp_lt g35)
      refine lv_iload_n hx hb dX9_element_36 rfl (lv_at hl 2 rfl) ?_
      refine m_ci (m_rV hx hb hml hown hF hR hS (ent6 (kShelf0 h_h35)) (kShelf0 h_h35) rfl (c_X6_hasPlace l X h35 i2 h_h35 M) q_X9_294_V hdV_X6_hasPlace ⟨Nat.le_of_ble_eq_true rfl, Nat.le_of_ble_eq_true rfl⟩ rfl hl.1 rfl (Nat.le_of_ble_eq_true rfl) dX9_element_37) hS (fun H locs hR hS => ?_)
      refine lv_if_ne (tgt := 54) hx hb dX9_element_40 (by decide) (fun c40 => ?_) (fun c40 => ?_)
      · have h := mif_n h c40
        refine lv_aload_n hx hb dX9_element_54 rfl (lv_at hl 0 rfl) ?_
        refine m_g8_8 hx hb hF hown hR kd_0 mw_2_50 dX9_element_55 ?_
        refine lv_iload_n hx hb dX9_element_58 rfl (lv_at hl 1 rfl) ?_
        obtain ⟨g59, h⟩ := mgd_e h
        refine m_sald hx hb hR kd_79 g59 dX9_element_59 ?_
        refine lv_topc (fun h59 eh59 => ?_)
        have h := mlt_n h h59 eh59
        have h_h59 : isShelf h59 := by rw [eh59]; exact kShelfAt (vp_lt g59)
        refine m_g6_2 hx hb hF hown hR (kShelf0 h_h59) mw_2_19 dX9_element_60 ?_
        refine lv_iload_n hx hb dX9_element_63 rfl (lv_at hl 2 rfl) ?_
        obtain ⟨g64, h⟩ := mgd_e h
        refine m_ialdL hx hb hR (kShelf1 h_h59) g64 (jn := (Int32.toNatClampNeg i2)) rfl dX9_element_64 ?_
        refine lv_i2l hx hb dX9_element_65 rfl ?_
        refine W.widen (k := 1) (n := 6) (by decide) (by decide) ?_
        exact vx_ret (W.lret hx hb hr (fun t ht hW => ⟨⟨_, (), rfl, ⟨by rw [← Option.some.inj h], by rw [← Option.some.inj h]⟩, by show mR X t t.heap M; rw [ht]; exact hR.moved hW.alike⟩, hS.F ht⟩) hS.2.2 dX9_element_66 hlk)
      · have h := mif_y h c40
        exact vx_throwSW hx hb hlt (cls := "java/lang/IllegalStateException") (text := "no such element") (names := ["java/lang/RuntimeException", "java/lang/Exception"]) hown thr_fit2 thr_nms (hF.w mw_5_26) (hF.w mw_1_19) hE9 (mThr hF hE3 thr_f2) thr_g4 hE1 hE2 hS (hl.1.trans hml.symm) dX9_element_43 dX9_element_46 dX9_element_47 dX9_element_50 dX9_element_53 (fun x hx9 => absurd (htab x hx9) (fun q => q)) (Nat.le_of_ble_eq_true rfl) (Nat.le_of_ble_eq_true rfl) (Nat.le_of_ble_eq_true rfl) (Nat.le_of_ble_eq_true rfl) hlk (fun t hv hz hq => ⟨(), trivial, ⟨Or.inr ⟨rfl, by rw [← Option.some.inj h]⟩, (hR.kept hq).moved hv⟩, mThrF hS hz hq⟩) hS.2.2 (Nat.le_of_ble_eq_true rfl) (Nat.le_of_ble_eq_true rfl)
  · have h := mif_y h c4
    exact vx_throwSW hx hb hlt (cls := "java/lang/IllegalArgumentException") (text := "no such shelf") (names := ["java/lang/RuntimeException", "java/lang/Exception"]) hown thr_fit1 thr_nms (hF.w mw_5_25) (hF.w mw_1_18) hE8 (mThr hF hE3 thr_f1) thr_g3 hE1 hE2 hS (hl.1.trans hml.symm) dX9_element_7 dX9_element_10 dX9_element_11 dX9_element_14 dX9_element_17 (fun x hx9 => absurd (htab x hx9) (fun q => q)) (Nat.le_of_ble_eq_true rfl) (Nat.le_of_ble_eq_true rfl) (Nat.le_of_ble_eq_true rfl) (Nat.le_of_ble_eq_true rfl) hlk (fun t hv hz hq => ⟨(), trivial, ⟨Or.inl ⟨rfl, by rw [← Option.some.inj h]⟩, (hR.kept hq).moved hv⟩, mThrF hS hz hq⟩) hS.2.2 (Nat.le_of_ble_eq_true rfl) (Nat.le_of_ble_eq_true rfl)
def f_L_element (i1 : Int32) (i2 : Int32) (M : mM) : Option (Int32 × mM) :=
  mbp (f_X9_element i1 i2 M) fun r => if r.1 = 0 then some (0, mJ M 117 0 r.2) else some (r.1, M)
abbrev hhL : List (Nat × Nat × Nat × Nat) := [(0, 9, 12, 13), (0, 9, 16, 15)]
set_option maxRecDepth 100000 in
set_option maxHeartbeats 4000000 in
theorem x_L_element (l : Launch) (hlt : l.stackTraces = false) (X : mX) (i1 i2 : Int32) (M : mM) {r : Int32 × mM} (h : f_L_element i1 i2 M = some r) : vx_Met l yL_element [Cond.codeWith yL_element cL_element 5 (some .int) hhL] (pRm 12 400 1 6) (va_Pc [.ref (X.1 0), .int i1, .int i2, .ref (X.1 117)] (mPreE X M)) (mQi X r.2 r.1) xNo 1 6 (mL X) := by
  refine vx_ofWH (cc := cL_element) (maxL := 5) (ret := some .int) (hh := hhL) (by decide +kernel) rfl ?_
  intro p e s m args below meth c s₁ B hml hv
  obtain ⟨rfl, hF, hE, hR⟩ := hv
  have hx := B.exec
  have hb := B.bytes
  have hr := B.returns
  have hlk := B.notSynchronized
  have hown : s.vm.findClass RL = some m.cls := findClass_of_methodNamed B.named
  have htab : c.exceptionTable.toList = tableOf hhL := vx_table (x := yL_element) B (atoms_spec (ws := [Cond.codeWith yL_element cL_element 5 (some .int) hhL]) B.pre _ List.mem_cons_self)
  have hl2 := lv_entry [Value.ref (X.1 0), Value.int i1, Value.int i2, Value.ref (X.1 117)] (n := 5) (Nat.le_of_ble_eq_true rfl)
  rw [lg_entry_eq]
  generalize (lg_sl [Value.ref (X.1 0), Value.int i1, Value.int i2, Value.ref (X.1 117)] ++ List.replicate (5 - (lg_sl [Value.ref (X.1 0), Value.int i1, Value.int i2, Value.ref (X.1 117)]).length) Slot.unset).toArray = ls at hl2 ⊢
  have hl2 : lv_has ls 5 [(0, .ref (X.1 0)), (1, .int i1), (2, .int i2), (3, .ref (X.1 117))] := hl2
  have hS : va_S (mL X) s.heap s.heap [] := va_S.rf
  obtain ⟨w, hw, h⟩ := mbp_e h
  refine lv_aload_n hx hb dL_element_0 rfl (lv_at hl2 3 rfl) ?_
  refine lv_iconst (v := 0) hx hb dL_element_1 (by decide) ?_
  refine lv_aload_n hx hb dL_element_2 rfl (lv_at hl2 0 rfl) ?_
  refine lv_iload_n hx hb dL_element_3 rfl (lv_at hl2 1 rfl) ?_
  refine lv_iload_n hx hb dL_element_4 rfl (lv_at hl2 2 rfl) ?_
  refine vx_calll (A0 := mL X) (A1 := mL X) (AX := mL X) (vx_runV (Ts := wsV RL 7 RX9 yX9_element [Cond.code yX9_element cX9_element 3 (some .long)]) ⟨hx, hb, hml, hown, fun w hw => hF.w (q_L_7_V w hw)⟩ (x_element l hlt X i1 i2 M hw) (cwV 2 (fun w hw => hF.w (q_L_7_V w hw)) (wGood q_L_7_V) rfl rfl rfl hdV_X9_element ⟨Nat.le_of_ble_eq_true rfl, Nat.le_of_ble_eq_true rfl⟩) ⟨mPreE_blind, mRecv hR (ent8 kd_0) kd_0 rfl, mPreE_at (As := [.ref (X.1 0), .int i1, .int i2]) hF hE hR hS⟩ rfl rfl hl2.1 rfl (lv_room (Nat.le_of_ble_eq_true rfl)) dL_element_5 ⟨Nat.le_of_ble_eq_true rfl, Nat.le_of_ble_eq_true rfl⟩) hS (fun _ _ h => h) (fun _ h => h) (fun _ _ h => h) (fun E ce q9 u t H1 locs1 ht hv _ hB hz hk hS1 hce hcv hcl => ?_) (fun r9 u t H1 locs1 ht hv h0 hB hz hk hS1 => ?_)
  · obtain ⟨hB1, hB2⟩ := hB
    rw [ht] at hB2
    have hR1 : mR X s H1 M := hB2.moved hv.symm
    rcases hB1 with ⟨rfl, hc1⟩ | ⟨rfl, hc2⟩
    · have h := mif_n h (by rw [hc1]; decide)
      refine vx_catch (name := "java/lang/IllegalArgumentException") hown [] ({ startPc := 0, endPc := 9, handlerPc := 12, catchType := 13 }) [{ startPc := 0, endPc := 9, handlerPc := 16, catchType := 15 }] (by rw [htab]; rfl) (fun z hz => by cases hz) (by decide) (by decide) (hF.w mw_5_121) (va_Nw.use rfl (hE.2.2.1 _ List.mem_cons_self)) hce hcv hcl ?_
      refine lv_astore (lv' := [(4, .ref q9), (0, .ref (X.1 0)), (1, .int i1), (2, .int i2), (3, .ref (X.1 117))]) hx hb dL_element_12 hl2 (by decide) rfl (fun ls hl2 => ?_)
      refine lv_iconst (v := 1) hx hb dL_element_14 (by decide) ?_
      exact vx_ret (m_irg (by decide) (by decide) hx hb hlk hr hR1 hS1 (by rw [← Option.some.inj h, hc1]) dL_element_15)
    · have h := mif_n h (by rw [hc2]; decide)
      refine vx_catch (name := "java/lang/IllegalStateException") hown [{ startPc := 0, endPc := 9, handlerPc := 12, catchType := 13 }] ({ startPc := 0, endPc := 9, handlerPc := 16, catchType := 15 }) [] (by rw [htab]; rfl) (fun z hz => by
        rw [List.mem_singleton] at hz
        subst hz
        exact Or.inr ⟨by decide, "java/lang/IllegalArgumentException", hF.w mw_5_121, hE.2.2.2.1⟩) (by decide) (by decide) (hF.w mw_5_122) (va_Nw.use rfl (hE.2.2.1 _ (List.mem_cons_of_mem _ List.mem_cons_self))) hce hcv hcl ?_
      refine lv_astore (lv' := [(4, .ref q9), (0, .ref (X.1 0)), (1, .int i1), (2, .int i2), (3, .ref (X.1 117))]) hx hb dL_element_16 hl2 (by decide) rfl (fun ls hl2 => ?_)
      refine lv_iconst (v := 2) hx hb dL_element_18 (by decide) ?_
      exact vx_ret (m_irg (by decide) (by decide) hx hb hlk hr hR1 hS1 (by rw [← Option.some.inj h, hc2]) dL_element_19)
  · rw [ht] at hB
    have hR1 : mR X s H1 M := hB.moved hv.symm
    obtain ⟨h01, h02⟩ := h0
    subst h01
    have h := mif_y h h02
    obtain ⟨M9, eM9⟩ : ∃ y : mM, y = mJ M 117 0 w.2 := ⟨_, rfl⟩
    refine m_lastg hx hb hR1 hS1 kd_117 (show mIn 0 1 from by decide) (jn := 0) (by decide) dL_element_8 eM9 (fun H locs hR hS => ?_)
    refine lv_goto (tgt := 20) hx hb dL_element_9 (by decide) ?_
    refine lv_iconst (v := 0) hx hb dL_element_20 (by decide) ?_
    exact vx_ret (m_irg (by decide) (by decide) hx hb hlk hr hR hS (by rw [← Option.some.inj h, ← eM9]) dL_element_21)
