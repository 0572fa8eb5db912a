theorem mw_5_31 : mGw (.classLink RX6 75 "java/lang/IllegalArgumentException") := mG5 (i := 31) (by decide +kernel) rfl
theorem mw_5_98 : mGw (.classLink RX6 82 "java/lang/IllegalStateException") := mG5 (i := 98) (by decide +kernel) rfl
theorem mw_1_18 : mGw (.initialized "java/lang/IllegalArgumentException") := mG1 (i := 18) (by decide +kernel) rfl
theorem mw_1_19 : mGw (.initialized "java/lang/IllegalStateException") := mG1 (i := 19) (by decide +kernel) rfl
theorem mw_5_25 : mGw (.classLink RX9 300 "java/lang/IllegalArgumentException") := mG5 (i := 25) (by decide +kernel) rfl
theorem mw_5_26 : mGw (.classLink RX9 310 "java/lang/IllegalStateException") := mG5 (i := 26) (by decide +kernel) rfl
theorem mw_5_121 : mGw (.classLink RL 13 "java/lang/IllegalArgumentException") := mG5 (i := 121) (by decide +kernel) rfl
theorem mw_5_122 : mGw (.classLink RL 15 "java/lang/IllegalStateException") := mG5 (i := 122) (by decide +kernel) rfl
theorem mw_5_27 : mGw (.methodLink RX9 336 yX6_throwFailure) := mG5 (i := 27) (by decide +kernel) rfl
theorem mw_5_28 : mGw (.instanceMethod yX6_throwFailure) := mG5 (i := 28) (by decide +kernel) rfl
theorem mw_5_29 : mGw (.selects RX6 yX6_throwFailure yX6_throwFailure) := mG5 (i := 29) (by decide +kernel) rfl
theorem mw_5_30 : mGw (.code yX6_throwFailure cX6_throwFailure 1 none) := mG5 (i := 30) (by decide +kernel) rfl
theorem mw_5_114 : mGw (.methodLink RX9 339 yX6_placeOfCube) := mG5 (i := 114) (by decide +kernel) rfl
theorem mw_5_115 : mGw (.instanceMethod yX6_placeOfCube) := mG5 (i := 115) (by decide +kernel) rfl
theorem mw_5_116 : mGw (.selects RX6 yX6_placeOfCube yX6_placeOfCube) := mG5 (i := 116) (by decide +kernel) rfl
theorem mw_5_117 : mGw (.code yX6_placeOfCube cX6_placeOfCube 1 (some .int)) := mG5 (i := 117) (by decide +kernel) rfl
theorem hdV_X6_throwFailure : yX6_throwFailure.cls = RX6 ∧ yX6_throwFailure.cls ≠ "java/lang/invoke/MethodHandle" ∧ yX6_throwFailure.cls ≠ "java/lang/invoke/VarHandle" ∧ (parseMethodDescriptor yX6_throwFailure.desc).map (fun d => d.parameters.length) = some 0 := ⟨rfl, by decide +kernel, by decide +kernel, by decide +kernel⟩
theorem hdV_X6_placeOfCube : yX6_placeOfCube.cls = RX6 ∧ yX6_placeOfCube.cls ≠ "java/lang/invoke/MethodHandle" ∧ yX6_placeOfCube.cls ≠ "java/lang/invoke/VarHandle" ∧ (parseMethodDescriptor yX6_placeOfCube.desc).map (fun d => d.parameters.length) = some 0 := ⟨rfl, by decide +kernel, by decide +kernel, by decide +kernel⟩
theorem q_X9_336_V : ∀ w ∈ wsV RX9 336 RX6 yX6_throwFailure [Cond.code yX6_throwFailure cX6_throwFailure 1 none], mGw w := w5 mw_5_27 mw_5_28 mw_5_29 mw_1_10 mw_5_30
theorem q_X9_339_V : ∀ w ∈ wsV RX9 339 RX6 yX6_placeOfCube [Cond.code yX6_placeOfCube cX6_placeOfCube 1 (some .int)], mGw w := w5 mw_5_114 mw_5_115 mw_5_116 mw_1_10 mw_5_117
/-! exceptions -/
def thrW : List Cond := [.castable "java/lang/IllegalArgumentException" "java/lang/IllegalArgumentException", .castable "java/lang/IllegalStateException" "java/lang/IllegalStateException", .declares ⟨"java/lang/RuntimeException", "<init>", "(Ljava/lang/String;)V"⟩, .declares ⟨"java/lang/Exception", "<init>", "(Ljava/lang/String;)V"⟩, .declares ⟨"java/lang/Throwable", "<init>", "(Ljava/lang/String;)V"⟩]
theorem thrW_warm {s U : State} (hW : s.WarmedH U.vm) (h : ∀ w ∈ thrW, va_Nw w s) : ∀ w ∈ thrW, va_Nw w U := by
  intro w hw
  have h9 := h w hw
  simp only [thrW, List.mem_cons, List.not_mem_nil, or_false] at hw
  rcases hw with rfl | rfl | rfl | rfl | rfl
  · exact va_Nw.warmC hW h9
  · exact va_Nw.warmC hW h9
  · exact va_Nw.warmD hW h9
  · exact va_Nw.warmD hW h9
  · exact va_Nw.warmD hW h9
theorem thrW_tabs {w : Cond} (hw : w ∈ thrW) : w.onTables = true := by
  simp only [thrW, List.mem_cons, List.not_mem_nil, or_false] at hw
  rcases hw with rfl | rfl | rfl | rfl | rfl <;> rfl
def mE (X : mX) (s : State) (H : Heap) : Prop :=
  vx_Zq Bundle.tN "UNASSIGNED_STACK" Bundle.steD (mL X) s H ∧ vx_Zq Bundle.tN "SUPPRESSED_SENTINEL" Bundle.listD (mL X) s H ∧ (∀ w ∈ thrW, va_Nw w s) ∧ va_Nc "java/lang/IllegalStateException" "java/lang/IllegalArgumentException" s ∧ (∃ a, vk_R RX6 77 "a pilot fails" a s) ∧ (∃ a, vk_R RX6 84 "a strong one or a motor fails" a s) ∧ (∃ a, vk_R RX9 302 "no such shelf" a s) ∧ ∃ a, vk_R RX9 312 "no such element" a s
theorem mE.call {X : mX} {s U : State} {H : Heap} {locs : List Loc} (h : mE X s s.heap) (hS : va_S (mL X) s.heap H locs) (hU : U.heap = H) (hW : s.WarmedH U.vm) : mE X U U.heap := by
  obtain ⟨h1, h2, h3, h5, ⟨a1, h6⟩, ⟨a2, h7⟩, ⟨a3, h8⟩, ⟨a4, h9⟩⟩ := h
  rw [hU]
  exact ⟨vx_Zq.moved hW.alike (h1.kept hS.2.1), vx_Zq.moved hW.alike (h2.kept hS.2.1), thrW_warm hW h3, va_Nc.moved hW.alike h5, ⟨a1, vk_R.warm hW h6⟩, ⟨a2, vk_R.warm hW h7⟩, ⟨a3, vk_R.warm hW h8⟩, ⟨a4, vk_R.warm hW h9⟩⟩
def mPreE (X : mX) (M : mM) : State → Prop := fun U => mF X U U.heap ∧ mE X U U.heap ∧ mR X U U.heap M
theorem mPreE_blind {X : mX} {M : mM} {As : List Value} : FrameBlind (va_Pc As (mPreE X M)) := fun a U g mk q => by
  obtain ⟨q1, q2, q3, q4⟩ := q
  exact ⟨q1, mF.same (s := U) (U := U.calling g mk a) q2 rfl rfl, mE.call (s := U) (U := U.calling g mk a) q3 va_S.rf rfl (State.WarmedH.refl U), mR.moved (u := U) (U := U.calling g mk a) (Vm.Alike.refl U.vm) q4⟩
theorem mPreE_at {X : mX} {M : mM} {s : State} {H : Heap} {locs : List Loc} {As : List Value} (hF : mF X s s.heap) (hE : mE X s s.heap) (hR : mR X s H M) (hS : va_S (mL X) s.heap H locs) : ∀ U : State, U.heap = H → s.WarmedH U.vm → va_Pc As (mPreE X M) As.toArray U := fun U hU hW =>
  ⟨rfl, hF.call hS hU hW, hE.call hS hU hW, by rw [hU]; exact hR.moved hW.alike⟩
theorem mR.kept {X : mX} {M : mM} {s : State} {H H1 : Heap} (h : mR X s H M) (hq : ∀ q : Nat, q < H.size → H1[q]? = H[q]?) : mR X s H1 M := ⟨h.1, h.2.1.kept (fun k x hx => hq x.1 ((h.2.1 k x hx).lt)), h.2.2⟩
theorem mThr {X : mX} {s : State} {args : Array Value} {L : List Cond} (hF : mF X s s.heap) (hc : ∀ w ∈ thrW, va_Nw w s) (h : ∀ w ∈ L, w ∈ lw_tbl ∧ ((w.onTables && w.keeps) = true ∨ w ∈ thrW)) : ∀ w ∈ L, w.before args s = true := fun w hw => by
  obtain ⟨h1, h2 | h2⟩ := h w hw
  · exact hF.w ⟨h1, h2⟩
  · exact va_Nw.use (thrW_tabs h2) (hc w h2)
theorem mThrF {X : mX} {s t : State} {H : Heap} {locs : List Loc} (hS : va_S (mL X) s.heap H locs) (hz : H.size ≤ t.heap.size) (hq : ∀ q : Nat, q < H.size → t.heap[q]? = H[q]?) : va_F (mL X) s t := ⟨Nat.le_trans hS.1 hz, fun q h1 h2 => (hq q (Nat.lt_of_lt_of_le h1 hS.1)).trans (hS.2.1 q h1 h2)⟩
theorem thr_s1 : ∀ w ∈ vx_atS RX6 79 "java/lang/IllegalArgumentException" ["java/lang/RuntimeException", "java/lang/Exception"], w ∈ lw_tbl ∧ ((w.onTables && w.keeps) = true ∨ w ∈ thrW) := by decide +kernel
theorem thr_s2 : ∀ w ∈ vx_atS RX6 86 "java/lang/IllegalStateException" ["java/lang/RuntimeException", "java/lang/Exception"], w ∈ lw_tbl ∧ ((w.onTables && w.keeps) = true ∨ w ∈ thrW) := by decide +kernel
theorem thr_f1 : ∀ w ∈ vx_atS RX9 304 "java/lang/IllegalArgumentException" ["java/lang/RuntimeException", "java/lang/Exception"], w ∈ lw_tbl ∧ ((w.onTables && w.keeps) = true ∨ w ∈ thrW) := by decide +kernel
theorem thr_f2 : ∀ w ∈ vx_atS RX9 314 "java/lang/IllegalStateException" ["java/lang/RuntimeException", "java/lang/Exception"], w ∈ lw_tbl ∧ ((w.onTables && w.keeps) = true ∨ w ∈ thrW) := by decide +kernel
theorem thr_fit1 : Bundle.fit "java/lang/IllegalArgumentException" = true := by decide +kernel
theorem thr_fit2 : Bundle.fit "java/lang/IllegalStateException" = true := by decide +kernel
theorem thr_nms : ∀ n ∈ (["java/lang/RuntimeException", "java/lang/Exception"] : List String), Bundle.fit n = true := by decide +kernel
theorem thr_g1 : ∀ w ∈ Cond.classLink RX6 75 "java/lang/IllegalArgumentException" :: Cond.initialized "java/lang/IllegalArgumentException" :: vx_atS RX6 79 "java/lang/IllegalArgumentException" ["java/lang/RuntimeException", "java/lang/Exception"], vx_ot w = true := by decide +kernel
theorem thr_g2 : ∀ w ∈ Cond.classLink RX6 82 "java/lang/IllegalStateException" :: Cond.initialized "java/lang/IllegalStateException" :: vx_atS RX6 86 "java/lang/IllegalStateException" ["java/lang/RuntimeException", "java/lang/Exception"], vx_ot w = true := by decide +kernel
theorem thr_g3 : ∀ w ∈ Cond.classLink RX9 300 "java/lang/IllegalArgumentException" :: Cond.initialized "java/lang/IllegalArgumentException" :: vx_atS RX9 304 "java/lang/IllegalArgumentException" ["java/lang/RuntimeException", "java/lang/Exception"], vx_ot w = true := by decide +kernel
theorem thr_g4 : ∀ w ∈ Cond.classLink RX9 310 "java/lang/IllegalStateException" :: Cond.initialized "java/lang/IllegalStateException" :: vx_atS RX9 314 "java/lang/IllegalStateException" ["java/lang/RuntimeException", "java/lang/Exception"], vx_ot w = true := by decide +kernel
section MG
variable {p : Program} {l : Launch} {e : Env} {R : Room} {s : State} {m : MethodId} {args : Array Value} {below : List Frame} {meth : Method} {c : Code} {H : Heap} {locs : List Loc} {cells slots : Nat} {Q : State → Prop}
variable {cc : ByteArray} {pc nL : Nat} {ls : Array Slot} {st0 rest : List Value} {X : mX} {M M1 : mM} {k n : Nat}
variable {y : MethodName} {bytes : ByteArray} {maxL na index f n0 mc ms : Nat} {ret : Option FieldType} {Qc : Array Value → State → Outcome → State → Prop} {As : List Value} {own : String} {a : Array Value}
/-- calls where cells may have come already -/
theorem m_rVg (hx : p.tables.exec = Jvm.exec) (hb : c.code = cc) (hml : c.maxLocals = nL) (hown : s.vm.findClass own = some m.cls) (hF : mF X s s.heap) (hR : mR X s H M) (hS : va_S (mL X) s.heap H locs) {ci : Nat} {C : String} {T : u_T} {N : Nat} {fs : List Value} (he : ent X M k = .inr (ci, fs)) (hk : kd k = (ci, n)) (hc : vwCl[ci]? = some (C, T, N))
    (hM : Met l y [Cond.code y bytes maxL ret] (rmF f n0) (va_Pc (.ref (X.1 k) :: As) (mPre X M)) Qc 0 0 (mL X)) (hall : ∀ w ∈ wsV own index C y [Cond.code y bytes maxL ret], mGw w)
    (hd : y.cls = C ∧ y.cls ≠ "java/lang/invoke/MethodHandle" ∧ y.cls ≠ "java/lang/invoke/VarHandle" ∧ (parseMethodDescriptor y.desc).map (fun d => d.parameters.length) = some na) (hRm : f + 1 ≤ R.frames ∧ 8 + (maxL + 11) + n0 ≤ R.locals)
    (hn : As.length = na) (hl : ls.size = nL) (hst : st0 = As.reverse ++ .ref (X.1 k) :: rest) (hW : (rest.map fun v => v.category).sum ≤ 8) (hdg : decode cc pc = .ok (.invokevirtual index, 3)) (hcs : cells ≤ R.cells ∧ slots ≤ R.slots) :
    va_Run p l e R s m args below meth c H locs cells slots 0 0 (F0 m pc ls st0) rest (Qc (Value.ref (X.1 k) :: As).toArray) (mL X) :=
  va_runV (Ts := wsV own index C y [Cond.code y bytes maxL ret]) ⟨hx, hb, hml, hown, fun w hw => hF.w (hall w hw)⟩ hM (cwV na (fun w hw => hF.w (hall w hw)) (wGood hall) rfl rfl rfl hd hRm) ⟨mPre_blind, mRecv hR he hk hc, mPre_at hF hR hS⟩ rfl hn hl hst (lv_room hW) hdg hcs
theorem m_rVx (hx : p.tables.exec = Jvm.exec) (hb : c.code = cc) (hml : c.maxLocals = nL) (hown : s.vm.findClass own = some m.cls) (hF : mF X s s.heap) (hE : mE X s s.heap) (hR : mR X s H M) (hS : va_S (mL X) s.heap H locs) {ci : Nat} {C : String} {T : u_T} {N : Nat} {fs : List Value} (he : ent X M k = .inr (ci, fs)) (hk : kd k = (ci, n)) (hc : vwCl[ci]? = some (C, T, N))
    (hM : Met l y [Cond.code y bytes maxL ret] (pRm f n0 mc ms) (va_Pc (.ref (X.1 k) :: As) (mPreE X M)) Qc mc ms (mL X)) (hall : ∀ w ∈ wsV own index C y [Cond.code y bytes maxL ret], mGw w)
    (hd : y.cls = C ∧ y.cls ≠ "java/lang/invoke/MethodHandle" ∧ y.cls ≠ "java/lang/invoke/VarHandle" ∧ (parseMethodDescriptor y.desc).map (fun d => d.parameters.length) = some na) (hRm : f + 1 ≤ R.frames ∧ 8 + (maxL + 11) + n0 ≤ R.locals)
    (hn : As.length = na) (hl : ls.size = nL) (hst : st0 = As.reverse ++ .ref (X.1 k) :: rest) (hW : (rest.map fun v => v.category).sum ≤ 8) (hdg : decode cc pc = .ok (.invokevirtual index, 3)) (hcs : cells + mc ≤ R.cells ∧ slots + ms ≤ R.slots) :
    va_Run p l e R s m args below meth c H locs cells slots mc ms (F0 m pc ls st0) rest (Qc (Value.ref (X.1 k) :: As).toArray) (mL X) :=
  va_runV (Ts := wsV own index C y [Cond.code y bytes maxL ret]) ⟨hx, hb, hml, hown, fun w hw => hF.w (hall w hw)⟩ hM (cwV na (fun w hw => hF.w (hall w hw)) (wGood hall) rfl rfl rfl hd hRm) ⟨mPreE_blind, mRecv hR he hk hc, mPreE_at hF hE hR hS⟩ rfl hn hl hst (lv_room hW) hdg hcs
theorem m_cig {r : Int32} (hr : va_Run p l e R s m args below meth c H locs cells slots mc ms (F0 m pc ls st0) rest (mQi X M1 r a) (mL X)) (hS : va_S (mL X) s.heap H locs)
    (kk : ∀ (H : Heap) (locs : List Loc), mR X s H M1 → va_S (mL X) s.heap H locs → W p l e R s m args below meth c H locs (cells + mc) (slots + ms) Q (F0 m (pc + 3) ls (.int r :: rest))) : W p l e R s m args below meth c H locs cells slots Q (F0 m pc ls st0) :=
  va_calli hr hS (fun _ _ h => h) (fun _ h => h) (fun r' u t H1 locs1 ht hv hp hB _ _ hS1 => by subst hp; exact kk H1 locs1 (by rw [ht] at hB; exact hB.moved hv.symm) hS1)
theorem m_clg {r : Int64} (hr : va_Run p l e R s m args below meth c H locs cells slots mc ms (F0 m pc ls st0) rest (mQl X M1 r a) (mL X)) (hS : va_S (mL X) s.heap H locs)
    (kk : ∀ (H : Heap) (locs : List Loc), mR X s H M1 → va_S (mL X) s.heap H locs → W p l e R s m args below meth c H locs (cells + mc) (slots + ms) Q (F0 m (pc + 3) ls (.long r :: rest))) : W p l e R s m args below meth c H locs cells slots Q (F0 m pc ls st0) :=
  va_calll hr hS (fun _ _ h => h) (fun _ h => h) (fun r' u t H1 locs1 ht hv hp hB _ _ hS1 => by subst hp; exact kk H1 locs1 (by rw [ht] at hB; exact hB.moved hv.symm) hS1)
/-- the end, with room to spare -/
theorem m_irg {v : Int32} {r : Int32 × mM} (hc : cells ≤ mc) (hs : slots ≤ ms) (hx : p.tables.exec = Jvm.exec) (hb : c.code = cc) (hlk : meth.locks = false) (hr : meth.sig.returnType = some .int) (hR : mR X s H M) (hS : va_S (mL X) s.heap H locs) (hv : r = (v, M)) (hdg : decode cc pc = .ok (.ireturn, 1)) : W p l e R s m args below meth c H locs cells slots (MQ below (mQi X r.2 r.1) args s mc ms (mL X)) (F0 m pc ls [.int v]) := by
  subst hv
  refine W.widen (k := mc) (n := ms) hc hs ?_
  exact W.iret hx hb hr (fun t ht hW => ⟨⟨v, (), rfl, rfl, by show mR X t t.heap M; rw [ht]; exact hR.moved hW.alike⟩, hS.F ht⟩) hS.2.2 hdg hlk
end MG
/-- how SHELF b's FAILURE ends: 0 none, 1, 2 thrown -/
def f_X6_throws (b : Nat) (M : mM) : Int32 := if M.1 b 7 = 0 then (if M.1 b 3 = 3 then 1 else if M.1 b 3 = 1 then 2 else if M.1 b 3 = 2 then 2 else 0) else 0
abbrev xQv (X : mX) (M : mM) (r : Int32) : Array Value → State → Outcome → State → Prop := va_Qv (fun (_ : Unit) => r = 0) (fun _ t => mR X t t.heap M) (mL X)
abbrev xX (X : mX) (M : mM) (r : Int32) : String → State → State → Prop := vx_X (fun (_ : Unit) => True) (fun E _ t => ((E = "java/lang/IllegalArgumentException" ∧ r = 1) ∨ (E = "java/lang/IllegalStateException" ∧ r = 2)) ∧ mR X t t.heap M) (mL X)
set_option maxRecDepth 100000 in
set_option maxHeartbeats 4000000 in
theorem x_throwFailure (l : Launch) (hl : l.stackTraces = false) (X : mX) (b : Nat) (h_b : isShelf b) (M : mM) : vx_Met l yX6_throwFailure [Cond.code yX6_throwFailure cX6_throwFailure 1 none] (pRm 10 300 1 6) (va_Pc [.ref (X.1 b)] (mPreE X M)) (xQv X M (f_X6_throws b M)) (xX X M (f_X6_throws b M)) 1 6 (mL X) := by
  refine vx_ofW (cc := cX6_throwFailure) (maxL := 1) (ret := none) (by decide +kernel) rfl ?_
  intro p e s m args below meth c s₁ B hml htab hv
  obtain ⟨rfl, hF, hE, hR⟩ := hv
  have hx := B.exec
  have hb := B.bytes
  have hr := B.returns
  have hlk := B.notSynchronized
  have hown : s.vm.findClass RX6 = some m.cls := findClass_of_methodNamed B.named
  have hl2 := lv_entry [Value.ref (X.1 b)] (n := 1) (Nat.le_of_ble_eq_true rfl)
  rw [lg_entry_eq]
  generalize (lg_sl [Value.ref (X.1 b)] ++ List.replicate (1 - (lg_sl [Value.ref (X.1 b)]).length) Slot.unset).toArray = ls at hl2 ⊢
  have hl2 : lv_has ls 1 [(0, .ref (X.1 b))] := hl2
  have hS : va_S (mL X) s.heap s.heap [] := va_S.rf
  obtain ⟨hE1, hE2, hE3, hE5, ⟨sa1, hE6⟩, ⟨sa2, hE7⟩, -⟩ := id hE
  have hsz : ls.size = c.maxLocals := by rw [hml]; exact hl2.1
  refine lv_aload_n hx hb dX6_throwFailure_0 rfl (lv_at hl2 0 rfl) ?_
  refine m_g6_7 hx hb hF hown hR (kShelf0 h_b) mw_2_24 dX6_throwFailure_1 ?_
  have RET : ∀ pc9, f_X6_throws b M = 0 → decode cX6_throwFailure pc9 = .ok (.return_, 1) → W p l e (headSpec [Cond.code yX6_throwFailure cX6_throwFailure 1 none] (pRm 10 300 1 6)).room s m [Value.ref (X.1 b)].toArray below meth c s.heap [] 0 0 (vx_MQ below (xQv X M (f_X6_throws b M)) (xX X M (f_X6_throws b M)) [Value.ref (X.1 b)].toArray s 1 6 (mL X)) (F0 m pc9 ls []) := fun pc9 h0 hd => by
    refine W.widen (k := 1) (n := 6) (by omega) (by omega) ?_
    exact vx_ret (W.vret hx hb hr (fun t ht hW => ⟨⟨(), rfl, h0, by show mR X t t.heap M; rw [ht]; exact hR.moved hW.alike⟩, hS.F ht⟩) hS.2.2 hd hlk)
  have THR2 : f_X6_throws b M = 2 → W p l e (headSpec [Cond.code yX6_throwFailure cX6_throwFailure 1 none] (pRm 10 300 1 6)).room s m [Value.ref (X.1 b)].toArray below meth c s.heap [] 0 0 (vx_MQ below (xQv X M (f_X6_throws b M)) (xX X M (f_X6_throws b M)) [Value.ref (X.1 b)].toArray s 1 6 (mL X)) (F0 m 42 ls []) := fun h2 =>
    vx_throwS hx hb hl (cls := "java/lang/IllegalStateException") (text := "a strong one or a motor fails") (names := ["java/lang/RuntimeException", "java/lang/Exception"]) hown thr_fit2 thr_nms (hF.w mw_5_98) (hF.w mw_1_19) hE7 (mThr hF hE3 thr_s2) thr_g2 hE1 hE2 hS hsz dX6_throwFailure_42 dX6_throwFailure_45 dX6_throwFailure_46 dX6_throwFailure_48 dX6_throwFailure_51 (fun x hx9 => absurd (htab x hx9) (fun q => q)) (Nat.le_of_ble_eq_true rfl) (Nat.le_of_ble_eq_true rfl) (Nat.le_of_ble_eq_true rfl) (Nat.le_of_ble_eq_true rfl) hlk (fun t hv hz hq => ⟨(), trivial, ⟨Or.inr ⟨rfl, h2⟩, (hR.kept hq).moved hv⟩, mThrF hS hz hq⟩) hS.2.2 (Nat.le_of_ble_eq_true rfl) (Nat.le_of_ble_eq_true rfl)
  refine lv_if_eq (tgt := 8) hx hb dX6_throwFailure_4 (by decide) (fun c1 => ?_) (fun c1 => ?_)
  · refine lv_aload_n hx hb dX6_throwFailure_8 rfl (lv_at hl2 0 rfl) ?_
    refine m_g6_3 hx hb hF hown hR (kShelf0 h_b) mw_2_20 dX6_throwFailure_9 ?_
    refine lv_iconst (v := 3) hx hb dX6_throwFailure_12 (by decide) ?_
    refine lv_icmp_ne (tgt := 26) hx hb dX6_throwFailure_13 (by decide) (fun c2 => ?_) (fun c2 => ?_)
    · refine lv_aload_n hx hb dX6_throwFailure_26 rfl (lv_at hl2 0 rfl) ?_
      refine m_g6_3 hx hb hF hown hR (kShelf0 h_b) mw_2_20 dX6_throwFailure_27 ?_
      refine lv_iconst (v := 1) hx hb dX6_throwFailure_30 (by decide) ?_
      refine lv_icmp_eq (tgt := 42) hx hb dX6_throwFailure_31 (by decide) (fun c3 => ?_) (fun c3 => ?_)
      · exact THR2 (by unfold f_X6_throws; rw [if_pos c1, if_neg c2, if_pos c3])
      · refine lv_aload_n hx hb dX6_throwFailure_34 rfl (lv_at hl2 0 rfl) ?_
        refine m_g6_3 hx hb hF hown hR (kShelf0 h_b) mw_2_20 dX6_throwFailure_35 ?_
        refine lv_iconst (v := 2) hx hb dX6_throwFailure_38 (by decide) ?_
        refine lv_icmp_ne (tgt := 52) hx hb dX6_throwFailure_39 (by decide) (fun c4 => ?_) (fun c4 => ?_)
        · exact RET 52 (by unfold f_X6_throws; rw [if_pos c1, if_neg c2, if_neg c3, if_neg c4]) dX6_throwFailure_52
        · exact THR2 (by unfold f_X6_throws; rw [if_pos c1, if_neg c2, if_neg c3, if_pos c4])
    · exact vx_throwS hx hb hl (cls := "java/lang/IllegalArgumentException") (text := "a pilot fails") (names := ["java/lang/RuntimeException", "java/lang/Exception"]) hown thr_fit1 thr_nms (hF.w mw_5_31) (hF.w mw_1_18) hE6 (mThr hF hE3 thr_s1) thr_g1 hE1 hE2 hS hsz dX6_throwFailure_16 dX6_throwFailure_19 dX6_throwFailure_20 dX6_throwFailure_22 dX6_throwFailure_25 (fun x hx9 => absurd (htab x hx9) (fun q => q)) (Nat.le_of_ble_eq_true rfl) (Nat.le_of_ble_eq_true rfl) (Nat.le_of_ble_eq_true rfl) (Nat.le_of_ble_eq_true rfl) hlk (fun t hv hz hq => ⟨(), trivial, ⟨Or.inl ⟨rfl, by unfold f_X6_throws; rw [if_pos c1, if_pos c2]⟩, (hR.kept hq).moved hv⟩, mThrF hS hz hq⟩) hS.2.2 (Nat.le_of_ble_eq_true rfl) (Nat.le_of_ble_eq_true rfl)
  · exact RET 7 (by unfold f_X6_throws; rw [if_neg c1]) dX6_throwFailure_7
def f_X9_caughtFailure (b : Nat) (M : mM) : Int32 := if f_X6_throws b M = 1 then f_X6_placeOfCube b M + 100 else if f_X6_throws b M = 2 then f_X6_placeOfCube b M else -15
abbrev hhC : List (Nat × Nat × Nat × Nat) := [(0, 4, 7, 300), (0, 4, 16, 310)]
abbrev xNo : String → State → State → Prop := vx_X (fun (_ : Unit) => False) (fun _ _ _ => True) (fun _ => False)
set_option maxRecDepth 100000 in
set_option maxHeartbeats 4000000 in
theorem x_caughtFailure (l : Launch) (hl : l.stackTraces = false) (X : mX) (b : Nat) (h_b : isShelf b) (M : mM) : vx_Met l yX9_caughtFailure [Cond.codeWith yX9_caughtFailure cX9_caughtFailure 2 (some .int) hhC] (pRm 12 400 1 6) (va_Pc [.ref (X.1 b)] (mPreE X M)) (mQi X M (f_X9_caughtFailure b M)) xNo 1 6 (mL X) := by
  refine vx_ofWH (cc := cX9_caughtFailure) (maxL := 2) (ret := some .int) (hh := hhC) (by decide +kernel) rfl ?_
  intro p e s m args below meth c s₁ B hml hv
  obtain ⟨rfl, hF, hE, hR⟩ := hv
  have hx := B.exec
  have hb := B.bytes
  have hr := B.returns
  have hlk := B.notSynchronized
  have hown : s.vm.findClass RX9 = some m.cls := findClass_of_methodNamed B.named
  have htab : c.exceptionTable.toList = tableOf hhC := vx_table (x := yX9_caughtFailure) B (atoms_spec (ws := [Cond.codeWith yX9_caughtFailure cX9_caughtFailure 2 (some .int) hhC]) B.pre _ List.mem_cons_self)
  have hl2 := lv_entry [Value.ref (X.1 b)] (n := 2) (Nat.le_of_ble_eq_true rfl)
  rw [lg_entry_eq]
  generalize (lg_sl [Value.ref (X.1 b)] ++ List.replicate (2 - (lg_sl [Value.ref (X.1 b)]).length) Slot.unset).toArray = ls at hl2 ⊢
  have hl2 : lv_has ls 2 [(0, .ref (X.1 b))] := hl2
  have hS : va_S (mL X) s.heap s.heap [] := va_S.rf
  refine lv_aload_n hx hb dX9_caughtFailure_0 rfl (lv_at hl2 0 rfl) ?_
  refine vx_callv (A0 := mL X) (A1 := mL X) (AX := mL X) (vx_runV (Ts := wsV RX9 336 RX6 yX6_throwFailure [Cond.code yX6_throwFailure cX6_throwFailure 1 none]) ⟨hx, hb, hml, hown, fun w hw => hF.w (q_X9_336_V w hw)⟩ (x_throwFailure l hl X b h_b M) (cwV 0 (fun w hw => hF.w (q_X9_336_V w hw)) (wGood q_X9_336_V) rfl rfl rfl hdV_X6_throwFailure ⟨Nat.le_of_ble_eq_true rfl, Nat.le_of_ble_eq_true rfl⟩) ⟨mPreE_blind, mRecv hR (ent6 (kShelf0 h_b)) (kShelf0 h_b) rfl, mPreE_at (As := [.ref (X.1 b)]) hF hE hR hS⟩ rfl rfl hl2.1 rfl (lv_room (Nat.le_of_ble_eq_true rfl)) dX9_caughtFailure_1 ⟨Nat.le_of_ble_eq_true rfl, Nat.le_of_ble_eq_true rfl⟩) hS (fun _ _ h => h) (fun _ h => h) (fun _ _ h => h) (fun E ce q9 u t H1 locs1 ht hv _ hB hz hk hS1 hce hcv hcl => ?_) (fun u t H1 locs1 ht hv h0 hB hz hk hS1 => ?_)
  · obtain ⟨hB1, hB2⟩ := hB
    rw [ht] at hB2
    have hR1 : mR X s H1 M := hB2.moved hv.symm
    rcases hB1 with ⟨rfl, hc1⟩ | ⟨rfl, hc2⟩
    · refine vx_catch (name := "java/lang/IllegalArgumentException") hown [] ({ startPc := 0, endPc := 4, handlerPc := 7, catchType := 300 }) [{ startPc := 0, endPc := 4, handlerPc := 16, catchType := 310 }] (by rw [htab]; rfl) (fun z hz => by cases hz) (by decide) (by decide) (hF.w mw_5_25) (va_Nw.use rfl (hE.2.2.1 _ List.mem_cons_self)) hce hcv hcl ?_
      refine lv_astore_n (lv' := [(1, .ref q9), (0, .ref (X.1 b))]) hx hb dX9_caughtFailure_7 rfl hl2 (by decide) rfl (fun ls hl2 => ?_)
      refine lv_aload_n hx hb dX9_caughtFailure_8 rfl (lv_at hl2 1 rfl) ?_
      refine m_cig (m_rVg hx hb hml hown hF hR1 hS1 (ent6 (kShelf0 h_b)) (kShelf0 h_b) rfl (c_X6_placeOfCube l X b h_b M) q_X9_339_V hdV_X6_placeOfCube ⟨Nat.le_of_ble_eq_true rfl, Nat.le_of_ble_eq_true rfl⟩ rfl hl2.1 rfl (Nat.le_of_ble_eq_true rfl) dX9_caughtFailure_9 ⟨Nat.le_of_ble_eq_true rfl, Nat.le_of_ble_eq_true rfl⟩) hS1 (fun H locs hR hS => ?_)
      refine lv_bipush (v := 100) hx hb dX9_caughtFailure_12 (by decide) ?_
      refine lv_iadd hx hb dX9_caughtFailure_14 ?_
      exact vx_ret (m_irg (r := (f_X9_caughtFailure b M, M)) (by decide) (by decide) hx hb hlk hr hR hS (by unfold f_X9_caughtFailure; rw [if_pos hc1]) dX9_caughtFailure_15)
    · refine vx_catch (name := "java/lang/IllegalStateException") hown [{ startPc := 0, endPc := 4, handlerPc := 7, catchType := 300 }] ({ startPc := 0, endPc := 4, handlerPc := 16, catchType := 310 }) [] (by rw [htab]; rfl) (fun z hz => by
        rw [List.mem_singleton] at hz
        subst hz
        exact Or.inr ⟨by decide, "java/lang/IllegalArgumentException", hF.w mw_5_25, hE.2.2.2.1⟩) (by decide) (by decide) (hF.w mw_5_26) (va_Nw.use rfl (hE.2.2.1 _ (List.mem_cons_of_mem _ List.mem_cons_self))) hce hcv hcl ?_
      refine lv_astore_n (lv' := [(1, .ref q9), (0, .ref (X.1 b))]) hx hb dX9_caughtFailure_16 rfl hl2 (by decide) rfl (fun ls hl2 => ?_)
      refine lv_aload_n hx hb dX9_caughtFailure_17 rfl (lv_at hl2 1 rfl) ?_
      refine m_cig (m_rVg hx hb hml hown hF hR1 hS1 (ent6 (kShelf0 h_b)) (kShelf0 h_b) rfl (c_X6_placeOfCube l X b h_b M) q_X9_339_V hdV_X6_placeOfCube ⟨Nat.le_of_ble_eq_true rfl, Nat.le_of_ble_eq_true rfl⟩ rfl hl2.1 rfl (Nat.le_of_ble_eq_true rfl) dX9_caughtFailure_18 ⟨Nat.le_of_ble_eq_true rfl, Nat.le_of_ble_eq_true rfl⟩) hS1 (fun H locs hR hS => ?_)
      exact vx_ret (m_irg (r := (f_X9_caughtFailure b M, M)) (by decide) (by decide) hx hb hlk hr hR hS (by unfold f_X9_caughtFailure; rw [if_neg (by rw [hc2]; decide), if_pos hc2]) dX9_caughtFailure_21)
  · rw [ht] at hB
    have hR1 : mR X s H1 M := hB.moved hv.symm
    refine lv_goto (tgt := 22) hx hb dX9_caughtFailure_4 (by decide) ?_
    refine lv_bipush (v := -15) hx hb dX9_caughtFailure_22 (by decide) ?_
    exact vx_ret (m_irg (r := (f_X9_caughtFailure b M, M)) (by decide) (by decide) hx hb hlk hr hR1 hS1 (by unfold f_X9_caughtFailure; rw [if_neg (by rw [h0]; decide), if_neg (by rw [h0]; decide)]) dX9_caughtFailure_24)
