theorem mw_1_20 : mGw (.classLink RL 8 RX9) := mG1 (i := 20) (by decide +kernel) rfl
theorem mw_1_21 : mGw (.instantiable RX9 9) := mG1 (i := 21) (by decide +kernel) rfl
theorem mw_1_23 : mGw (.instanceMethod yX9_init) := mG1 (i := 23) (by decide +kernel) rfl
theorem mw_1_22 : mGw (.methodLink RL 17 yX9_init) := mG1 (i := 22) (by decide +kernel) rfl
theorem mw_1_24 : mGw (.code yX9_init cX9_init 2 none) := mG1 (i := 24) (by decide +kernel) rfl
theorem mw_5_131 : mGw (.classLink RL 18 RX10) := mG5 (i := 131) (by decide +kernel) rfl
theorem mw_5_132 : mGw (.instantiable RX10 36) := mG5 (i := 132) (by decide +kernel) rfl
theorem mw_5_134 : mGw (.instanceMethod yX10_init) := mG5 (i := 134) (by decide +kernel) rfl
theorem mw_5_133 : mGw (.methodLink RL 20 yX10_init) := mG5 (i := 133) (by decide +kernel) rfl
theorem mw_5_135 : mGw (.code yX10_init cX10_init 1 none) := mG5 (i := 135) (by decide +kernel) rfl
theorem hdS_X9_init : yX9_init.cls ≠ "java/lang/invoke/MethodHandle" ∧ yX9_init.cls ≠ "java/lang/invoke/VarHandle" ∧ (parseMethodDescriptor yX9_init.desc).map (fun d => d.parameters.length) = some 0 := ⟨by decide +kernel, by decide +kernel, by decide +kernel⟩
theorem hdS_X10_init : yX10_init.cls ≠ "java/lang/invoke/MethodHandle" ∧ yX10_init.cls ≠ "java/lang/invoke/VarHandle" ∧ (parseMethodDescriptor yX10_init.desc).map (fun d => d.parameters.length) = some 0 := ⟨by decide +kernel, by decide +kernel, by decide +kernel⟩
/-! the entry -/
abbrev stF : List Cond := flatC (Jvm.Cond.and given_1 narrow_1)
abbrev stT (i : Nat) : Term := .static "CubeFolk" (sNm i) "[I"
theorem st_flat : ∀ i, i < 7 → Cond.arrayOf (stT i) .int ∈ stF ∧ Cond.eq (.length (stT i)) (.int (Int32.ofNat (sLen i))) ∈ stF ∧ (∀ j, j < sLen i → Cond.eq (.elem (stT i) (.int (Int32.ofNat j))) (.int (sVal i j)) ∈ stF) ∧ Cond.laysStatic "CubeFolk" (sNm i) "[I" ∈ lw_tbl ∧ sLen i < 2 ^ 31 := by decide +kernel
theorem st_inst : ∀ q ∈ vwCl, .instantiable q.1 q.2.2 ∈ lw_tbl := by decide +kernel
theorem st_nest : ∀ w ∈ mNest, w ∈ lw_tbl := by decide +kernel
theorem st_thr : ∀ w ∈ thrW, w ∈ lw_tbl := by decide +kernel
theorem st_tbl : ∀ w ∈ [Cond.arrayClass .int, .arrayClass .boolean, .arrayClass .long, .arrayOver (.object "CubeFolk$Shelf"), .arrayOver (.array .int), .initialized "CubeFolk", .initialized Bundle.tN, .laysStatic Bundle.tN "UNASSIGNED_STACK" Bundle.steD, .laysStatic Bundle.tN "SUPPRESSED_SENTINEL" Bundle.listD, .stringRef RX6 77 "a pilot fails", .stringRef RX6 84 "a strong one or a motor fails", .stringRef RX9 302 "no such shelf", .stringRef RX9 312 "no such element"], w ∈ lw_tbl := by decide +kernel
theorem st_nar : ∀ w ∈ [Cond.isRef (.static Bundle.tN "UNASSIGNED_STACK" Bundle.steD), .isRef (.static Bundle.tN "SUPPRESSED_SENTINEL" Bundle.listD), .not (.castable "java/lang/IllegalStateException" "java/lang/IllegalArgumentException"), .exactly (.string RX6 77) "java/lang/String", .exactly (.string RX6 84) "java/lang/String", .exactly (.string RX9 302) "java/lang/String", .exactly (.string RX9 312) "java/lang/String"], w ∈ stF := by decide +kernel
theorem st_arr {args : Array Value} {s : State} {ty : FieldType} (h : (Cond.arrayClass ty).before args s = true) : ∃ cA, ArrOfT s cA ty ∧ s.vm.findClass ("[" ++ ty.toString) = some cA := by
  obtain ⟨cA, kA, comp, h1, h2, h3⟩ := Cond.arrayClass_spec h
  exact ⟨cA, fun n z => ⟨(fun k h => by cases h), kA, h2, comp, h3⟩, h1⟩
theorem st_str {args : Array Value} {s : State} {own tx : String} {k : Nat} (h1 : (Cond.stringRef own k tx).before args s = true) (h2 : (Cond.exactly (.string own k) "java/lang/String").before args s = true) : ∃ a, vk_R own k tx a s := by
  obtain ⟨a, -, -, -, h3, -⟩ := Cond.exactly_spec h2
  exact ⟨a, vk_R.of h1 h3⟩
theorem st_aoa {args : Array Value} {s : State} (h : (Cond.arrayOver (.array .int)).before args s = true) : va_AOA .int s := by
  unfold va_AOA
  simp only [Cond.before, Cond.holds, Cond.value] at h ⊢
  exact h
theorem st_all {s : State} {args : Array Value} (hts : ∀ w ∈ lw_tbl, w.before args s = true) (hgv : (Jvm.Cond.and given_1 narrow_1).before args s = true) : ∃ X : mX, mF X s s.heap ∧ mA3 s ∧ mE X s s.heap ∧ pR X s s.heap 0 (fun _ => none) ∧ (∀ k, X.1 k = s.heap.size + k) ∧ X.2.2.2.2 = s.heap.size := by
  have hfl := flat_of_before _ hgv
  have hA : ∀ a : Nat, a < s.heap.size → ¬ s.heap.size ≤ a := fun a h => Nat.not_le.mpr h
  have htb : ∀ w : Cond, w ∈ _ → w.before args s = true := fun w hw => hts w (st_tbl w hw)
  have hna : ∀ w : Cond, w ∈ _ → w.before args s = true := fun w hw => hfl w (st_nar w hw)
  obtain ⟨D, hD⟩ : ∃ D : Nat → ClassId × (Nat → Nat), ∀ (ci : Nat) (q : vw_C), vwCl[ci]? = some q → u_Kn s q.1 q.2.1 q.2.2 (D ci).1 (D ci).2 := by
    have h : ∀ ci : Nat, ∃ d : ClassId × (Nat → Nat), ∀ q : vw_C, vwCl[ci]? = some q → u_Kn s q.1 q.2.1 q.2.2 d.1 d.2 := fun ci => by
      cases hq : vwCl[ci]? with
      | none => exact ⟨(0, fun _ => 0), fun q h => by cases h⟩
      | some q =>
        have hm := List.mem_of_getElem? hq
        obtain ⟨cC, iS, h⟩ := u_known (C := q.1) (T := q.2.1) (N := q.2.2) (n := q.2.2) hts (fun w hw => (mLw_in q hm w hw).1) (hts _ (st_inst q hm))
        exact ⟨(cC, iS), fun q' h' => by cases h'; exact h⟩
    exact ⟨fun ci => (h ci).choose, fun ci => (h ci).choose_spec⟩
  obtain ⟨T, hT⟩ : ∃ T : Nat → Nat, ∀ i, i < 7 → va_Z "CubeFolk" (sNm i) "[I" (.ref (T i)) (fun q => s.heap.size ≤ q) s s.heap ∧ va_T .int (T i) (sLen i) (fun j => .int (sVal i j)) (fun q => s.heap.size ≤ q) s s.heap := by
    have h : ∀ i : Nat, ∃ t : Nat, i < 7 → va_Z "CubeFolk" (sNm i) "[I" (.ref t) (fun q => s.heap.size ≤ q) s s.heap ∧ va_T .int t (sLen i) (fun j => .int (sVal i j)) (fun q => s.heap.size ≤ q) s s.heap := fun i => by
      by_cases hi : i < 7
      · obtain ⟨h1, h2, h3, h4, h5⟩ := st_flat i hi
        obtain ⟨t, ht, hT⟩ := va_Tof (tm := stT i) (f := fun j => .int (sVal i j)) (A := fun q => s.heap.size ≤ q) h5 (hfl _ h1) (va_eqt (hfl _ h2)) (fun j hj => va_eqt (hfl _ (h3 j hj))) hA
        exact ⟨t, fun _ => ⟨va_Zof (hts _ h4) (htb (.initialized "CubeFolk") (by simp)) ht hA, hT⟩⟩
      · exact ⟨0, fun h => absurd h hi⟩
    exact ⟨fun i => (h i).choose, fun i => (h i).choose_spec⟩
  obtain ⟨cI, hI1, hI2⟩ := st_arr (htb (.arrayClass .int) (by simp))
  obtain ⟨cZ, hZ1, hZ2⟩ := st_arr (htb (.arrayClass .boolean) (by simp))
  obtain ⟨cJ, hJ1, hJ2⟩ := st_arr (htb (.arrayClass .long) (by simp))
  have hAO := htb (.arrayOver (.object "CubeFolk$Shelf")) (by simp)
  have hAA := htb (.arrayOver (.array .int)) (by simp)
  obtain ⟨oS, cS, kS, hS1, -, hS2, hS3, hS4⟩ := Cond.arrayOver_spec hAO
  obtain ⟨oP, cP, kP, hP1, hP2, hP3, hP4⟩ := Cond.arrayOver_specA hAA
  have hK : va_K (fun ci => (D ci).1, fun ci => (D ci).2) vwCl [(cI, .int), (cZ, .boolean), (cJ, .long), (cS, .object "CubeFolk$Shelf"), (cP, .array .int)] s := ⟨hD, fun k q hq => by
    match k, hq with
    | 0, hq => cases hq; exact ⟨hI1, hI2⟩
    | 1, hq => cases hq; exact ⟨hZ1, hZ2⟩
    | 2, hq => cases hq; exact ⟨hJ1, hJ2⟩
    | 3, hq => cases hq; exact ⟨fun n z => ⟨(fun k h => by cases h), kS, hS2, oS, hS3⟩, kS, oS, hS2, hS3, hS1, hS4⟩
    | 4, hq => cases hq; exact ⟨fun n z => ⟨(fun k h => by cases h), kP, hP2, oP, hP3⟩, hP4⟩
    | k + 5, hq => simp at hq⟩
  have hF : mF (fun k => s.heap.size + k, (fun ci => (D ci).1, fun ci => (D ci).2), fun k => [cI, cZ, cJ, cS, cP].getD k 0, T, s.heap.size) s s.heap := ⟨fun w hw => va_Nw.of (goodTabs hw.2) (hts w hw.1), fun w hw => va_Nw.of (mNest_tabs hw) (hts w (st_nest w hw)), hT⟩
  refine ⟨_, hF, ⟨word_at (State.WarmedH.refl s) (Or.inr ⟨_, rfl⟩) (htb (.arrayClass .int) (by simp)), word_at (State.WarmedH.refl s) (Or.inr ⟨_, rfl⟩) (htb (.arrayClass .boolean) (by simp)), word_at (State.WarmedH.refl s) (Or.inr ⟨_, rfl⟩) (htb (.arrayClass .long) (by simp))⟩, ⟨vx_Zqof (htb (.laysStatic Bundle.tN "UNASSIGNED_STACK" Bundle.steD) (by simp)) (htb (.initialized Bundle.tN) (by simp)) (hna (.isRef (.static Bundle.tN "UNASSIGNED_STACK" Bundle.steD)) (by simp)) hA, vx_Zqof (htb (.laysStatic Bundle.tN "SUPPRESSED_SENTINEL" Bundle.listD) (by simp)) (htb (.initialized Bundle.tN) (by simp)) (hna (.isRef (.static Bundle.tN "SUPPRESSED_SENTINEL" Bundle.listD)) (by simp)) hA, fun w hw => va_Nw.of (thrW_tabs hw) (hts w (st_thr w hw)), va_Nc.of (hna (.not (.castable "java/lang/IllegalStateException" "java/lang/IllegalArgumentException")) (by simp)), st_str (htb (.stringRef RX6 77 "a pilot fails") (by simp)) (hna (.exactly (.string RX6 77) "java/lang/String") (by simp)), st_str (htb (.stringRef RX6 84 "a strong one or a motor fails") (by simp)) (hna (.exactly (.string RX6 84) "java/lang/String") (by simp)), st_str (htb (.stringRef RX9 302 "no such shelf") (by simp)) (hna (.exactly (.string RX9 302) "java/lang/String") (by simp)), st_str (htb (.stringRef RX9 312 "no such element") (by simp)) (hna (.exactly (.string RX9 312) "java/lang/String") (by simp))⟩, ⟨hK, fun k q h => by simp [pW] at h, ⟨fun i j p q h => by simp [pW] at h, fun k q h => by simp [pW] at h⟩, fun _ => rfl, va_AO.of hAO, st_aoa hAA⟩, fun _ => rfl, rfl⟩
/-! the walk to the loop -/
set_option maxRecDepth 100000 in
set_option maxHeartbeats 4000000 in
theorem st_walk {p : Program} {e : Env} {s : State} {m : MethodId} {args : Array Value} {below : List Frame} {meth : Method} {c : Code} (l : Launch) (hlt : l.stackTraces = false) {b L : Nat} {xs : Nat → Int32} {Q : State → Prop} (hL : L ≤ 3072) (hx : p.tables.exec = Jvm.exec) (hb : c.code = cL_law) (hml : c.maxLocals = 8) (hown : s.vm.findClass RL = some m.cls) (hX : va_X b L xs s s.heap) (hbl : b < s.heap.size)
    (hts : ∀ w ∈ lw_tbl, w.before args s = true) (hgv : (Jvm.Cond.and given_1 narrow_1).before args s = true) {M9 : mM} (hgoal : f_law_run xs (L / 6) 0 M0 = some M9)
    (kk : ∀ (H : Heap) (ls : Array Slot) (cells slots : Nat), cells ≤ 2000 → slots ≤ 100000 → W p l e room_1 s m args below meth c H [] cells slots Q (F0 m 1405 ls [])) {ls : Array Slot} (hl : lv_has ls 8 [(0, .ref b)]) : W p l e room_1 s m args below meth c s.heap [] 0 0 Q (F0 m 0 ls []) := by
  obtain ⟨X, hF, hA, hE, hR, hX0, hX5⟩ := st_all hts hgv
  have hz : s.heap.size = X.1 0 := (hX0 0).symm
  have hs0 := hz
  have hbA : ¬ mL X b := fun q => by
    have q : X.2.2.2.2 ≤ b := q
    omega
  have hS : va_S (mL X) s.heap s.heap [] := va_S.rf
  refine p_new (C := RX9) (T := TX9) (N := 9) (ci := 8) (fs := [.null, .null, .int 0, .null, .null, .null, .null, .null, .null]) hx hb hF hown hz hR hS rfl tyX9_ok (by decide) mw_1_20 mw_1_21 mw_1_1 (Nat.le_of_ble_eq_true rfl) (Nat.le_of_ble_eq_true rfl) dL_law_0 (fun H hz hR hS => ?_)
  refine lv_dup hx hb dL_law_3 rfl ?_
  refine p_callI (As := []) hx hb hml hown hF hA hz hR hS (k_X9_init l X (fun _ => none) (fun _ _ => rfl)) mw_1_24 mw_1_1 mw_1_23 mw_1_22 rfl hdS_X9_init ⟨Nat.le_of_ble_eq_true rfl, Nat.le_of_ble_eq_true rfl⟩ rfl hl.1 rfl (Nat.le_of_ble_eq_true rfl) dL_law_4 ⟨Nat.le_of_ble_eq_true rfl, Nat.le_of_ble_eq_true rfl⟩ (fun H locs hR hS => ?_)
  refine lv_astore_n (lv' := [(1, .ref (X.1 0)), (0, .ref b)]) hx hb dL_law_7 rfl hl (by decide) rfl (fun ls hl => ?_)
  refine p_sz (n0 := 0) (n := 96) hs0 (by omega) (Or.inl (by omega)) hR (fun hz => ?_)
  refine p_new (C := RX10) (T := TX10) (N := 36) (ci := 9) (fs := [.int 0, .null, .null, .int 0, .null, .null, .null, .int 0, .int 0, .int 0, .int 0, .int 0, .int 0, .null, .null, .null, .int 0, .int 0, .int 0, .int 0, .int 0, .int 0, .int 0, .null, .int 0, .null, .null, .null, .null, .null, .null, .null, .null, .null, .null, .null]) hx hb hF hown hz hR hS rfl tyX10_ok (by decide) mw_5_131 mw_5_132 mw_1_11 (Nat.le_of_ble_eq_true rfl) (Nat.le_of_ble_eq_true rfl) dL_law_8 (fun H hz hR hS => ?_)
  refine lv_dup hx hb dL_law_11 rfl ?_
  refine p_callI (As := []) hx hb hml hown hF hA hz hR hS (k_X10_init l X (fun _ => none) (fun _ _ => rfl)) mw_5_135 mw_1_11 mw_5_134 mw_5_133 rfl hdS_X10_init ⟨Nat.le_of_ble_eq_true rfl, Nat.le_of_ble_eq_true rfl⟩ rfl hl.1 rfl (Nat.le_of_ble_eq_true rfl) dL_law_12 ⟨Nat.le_of_ble_eq_true rfl, Nat.le_of_ble_eq_true rfl⟩ (fun H locs hR hS => ?_)
  refine lv_astore_n (lv' := [(2, .ref (X.1 96)), (1, .ref (X.1 0)), (0, .ref b)]) hx hb dL_law_15 rfl hl (by decide) rfl (fun ls hl => ?_)
  refine lv_iconst (v := 1) hx hb dL_law_16 (by decide) ?_
  refine p_sz (n0 := 0) (n := 117) hs0 (by omega) (Or.inl (by omega)) hR (fun hz => ?_)
  refine p_newa hx hb hz hR hS (atype := .long) hA.j (ty := .long) rfl 2 rfl (fun h => h) (a0 := (1, .inr (.inl (fun _ => 0)))) (N := 1) (fun _ => rfl) (by decide) (by decide) (by decide) (Nat.le_of_ble_eq_true rfl) (Nat.le_of_ble_eq_true rfl) dL_law_17 (fun H hz hR hS => ?_)
  have hR : mR X s H M0 := (hR.drop (O := fun _ => none) rfl (ent12 kd_117)).all (fun _ => rfl)
  refine lv_astore_n (lv' := [(3, .ref (X.1 117)), (2, .ref (X.1 96)), (1, .ref (X.1 0)), (0, .ref b)]) hx hb dL_law_19 rfl hl (by decide) rfl (fun ls hl => ?_)
  refine lv_iconst (v := 0) hx hb dL_law_20 (by decide) ?_
  refine lv_istore (lv' := [(4, .int (nI (6 * 0))), (3, .ref (X.1 117)), (2, .ref (X.1 96)), (1, .ref (X.1 0)), (0, .ref b)]) hx hb dL_law_21 hl (by decide) rfl (fun ls hl => ?_)
  refine w_law_loop (CB := 118) (SB := 8648) hlt hx hb hml hown hF hE hX hbl hbA hL (by decide) (M9 := M9) (fun H locs ls hS => ?_) (L / 6) 0 M0 (by omega) hgoal H locs ls hR hS (lv_sub hl [4, 3, 2, 1, 0] rfl)
  exact va_forget (fun q hq => by have := hS.2.2 q hq; exact hX5 ▸ this) (kk H ls _ _ (by omega) (by omega))
set_option maxRecDepth 100000 in
/-- the law, out of its mathematics -/
theorem whole_of (l : Launch) (hflags : l.flags = flags0) {p : Program} {e : Env} {s : State} {m : MethodId} {below : List Frame} {meth : Method} {c : Code} {b L : Nat} {xs : Nat → Int32} (hL : L ≤ 3072) (hgoal : ∃ M9, f_law_run xs (L / 6) 0 M0 = some M9) (hx : p.tables.exec = Jvm.exec) (hb : c.code = cL_law) (hml : c.maxLocals = 8) (hown : s.vm.findClass RL = some m.cls) (hts : ∀ w ∈ lw_tbl, w.before #[Value.ref b] s = true) (hX : va_X b L xs s s.heap) (hbl : b < s.heap.size) (hgv : (Jvm.Cond.and given_1 narrow_1).before #[Value.ref b] s = true) {Q : State → Prop}
    (kk : ∀ (H : Heap) (ls : Array Slot), W p l e room_1 s m #[Value.ref b] below meth c H [] 601024 7293034 Q (F0 m 1406 ls [.int 1])) : W p l e room_1 s m #[Value.ref b] below meth c s.heap [] 0 0 Q (entryFrame m ([Value.ref b] : List Value).toArray 8) := by
  obtain ⟨M9, hg⟩ := hgoal
  have hlt : l.stackTraces = false := by simp [Launch.stackTraces, hflags, flags0]
  have hl := lv_entry ([.ref b]) (n := 8) (Nat.le_of_ble_eq_true rfl)
  rw [lg_entry_eq]
  generalize (lg_sl ([.ref b]) ++ List.replicate (8 - (lg_sl ([.ref b])).length) Slot.unset).toArray = ls at hl ⊢
  have hl : lv_has ls 8 [(0, .ref b)] := hl
  refine st_walk l hlt hL hx hb hml hown hX hbl hts hgv hg (fun H ls cells slots hc hs => ?_) hl
  refine W.widen (k := 601024) (n := 7293034) (by omega) (by omega) ?_
  refine lv_iconst (v := 1) hx hb dL_law_1405 (by decide) ?_
  exact kk H ls
