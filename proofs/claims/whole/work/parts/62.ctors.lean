set_option maxRecDepth 100000 in
set_option maxHeartbeats 4000000 in
theorem k_X0_loop {l : Launch} {X : mX} {p : Program} {e : Env} {s : State} {m : MethodId} {args : Array Value} {below : List Frame} {meth : Method} {c : Code} {k : Nat} (hk : isBody k) {O : Nat → Option va_E} (hO : ∀ j, k ≤ j → O j = none) (hs : mS X RX0 cX0_init 3 none p s m meth c) (hA : mA3 s) (hs0 : s.heap.size = X.1 (k + 1)) : ∀ (d i : Nat), i + d = 120 → ∀ (H : Heap) (locs : List Loc) (ls : Array Slot), pR X s H (k + 8) (oU (oU O (k + 6) (.inl (X.2.2.1 0, 120, .inl (gA i)))) k (.inr (0, [.int 0, .ref (X.1 (k + 1)), .ref (X.1 (k + 2)), .ref (X.1 (k + 3)), .ref (X.1 (k + 4)), .ref (X.1 (k + 5)), .ref (X.1 (k + 6)), .ref (X.1 (k + 7))]))) → va_S (mL X) s.heap H locs → lv_has ls 3 [(1, .int (nI i)), (0, .ref (X.1 k))] → W p l e (pRm 1 60 7 216) s m args below meth c H locs 7 216 (MQ below (pQ X (k + 8) O) args s 7 216 (mL X)) (F0 m 62 ls []) := by
  obtain ⟨hx, hb, hml, hown, hF, hlk, hr⟩ := id hs
  intro d
  induction d with
  | zero =>
    intro i hi H locs ls hR hS hl
    have hi : i = 120 := by omega
    subst hi
    refine lv_iload_n hx hb dX0_init_62 rfl (lv_at hl 0 rfl) ?_
    refine lv_bipush (v := 120) hx hb dX0_init_63 (by decide) ?_
    refine lv_icmp_ge (tgt := 133) hx hb dX0_init_65 (by decide) (fun c1 => ?_) (fun c1 => absurd (by decide) c1)
    rw [gA_120] at hR
    have hR := hR.drop (by rw [oU_n (by omega)]; exact hO _ (by omega)) (by unfold isBody at hk; rcases hk with rfl | rfl | rfl <;> rfl)
    have hR := hR.drop (hO _ (by omega)) (by unfold isBody at hk; rcases hk with rfl | rfl | rfl <;> rfl)
    exact p_vr hx hb hlk hr hR hS dX0_init_133
  | succ d ih =>
    intro i hi H locs ls hR hS hl
    have hi1 : i < 120 := by omega
    have T126 : ∀ (v z : Int32) (H : Heap) (locs : List Loc) (ls : Array Slot), v = gI i → pR X s H (k + 8) (oU (oU O (k + 6) (.inl (X.2.2.1 0, 120, .inl (gA i)))) k (.inr (0, [.int 0, .ref (X.1 (k + 1)), .ref (X.1 (k + 2)), .ref (X.1 (k + 3)), .ref (X.1 (k + 4)), .ref (X.1 (k + 5)), .ref (X.1 (k + 6)), .ref (X.1 (k + 7))]))) → va_S (mL X) s.heap H locs → lv_has ls 3 [(2, .int z), (1, .int (nI i)), (0, .ref (X.1 k))] → W p l e (pRm 1 60 7 216) s m args below meth c H locs 7 216 (MQ below (pQ X (k + 8) O) args s 7 216 (mL X)) (F0 m 126 ls [.int v, .int (nI i), .ref (X.1 (k + 6))]) := by
      intro v z H locs ls hv hR hS hl
      refine p_iast (q := k + 6) (N := 120) (f := gA i) hx hb hR hS (by omega) ((oU_n (by omega)).trans oU_s) (vp_in_nI hi1 (by omega)) dX0_init_126 (fun H locs hR hS => ?_)
      have hR := (pR.sw (by omega) hR).uu'
      rw [nI_clamp (by omega), hv, gA_up hi1] at hR
      refine lv_iinc (v := nI (i + 1)) (lv' := [(1, .int (nI (i + 1))), (2, .int z), (0, .ref (X.1 k))]) hx hb dX0_init_127 hl (k := 1) rfl (nI_1 i) (by decide) rfl (fun ls hl => ?_)
      refine lv_goto (tgt := 62) hx hb dX0_init_130 (by decide) ?_
      exact ih (i + 1) (by omega) H locs ls hR hS (lv_sub hl [0, 2] rfl)
    have T89 : ∀ (z : Int32) (H : Heap) (locs : List Loc) (ls : Array Slot), ((z = 0 ∧ (f_X9_columnOf (nI i) < 0 ∨ 10 ≤ f_X9_columnOf (nI i))) ∨ (z = 1 ∧ ¬ (f_X9_columnOf (nI i) < 0) ∧ ¬ (10 ≤ f_X9_columnOf (nI i)))) → pR X s H (k + 8) (oU (oU O (k + 6) (.inl (X.2.2.1 0, 120, .inl (gA i)))) k (.inr (0, [.int 0, .ref (X.1 (k + 1)), .ref (X.1 (k + 2)), .ref (X.1 (k + 3)), .ref (X.1 (k + 4)), .ref (X.1 (k + 5)), .ref (X.1 (k + 6)), .ref (X.1 (k + 7))]))) → va_S (mL X) s.heap H locs → lv_has ls 3 [(1, .int (nI i)), (0, .ref (X.1 k))] → W p l e (pRm 1 60 7 216) s m args below meth c H locs 7 216 (MQ below (pQ X (k + 8) O) args s 7 216 (mL X)) (F0 m 89 ls [.int z]) := by
      intro z H locs ls hzz hR hS hl
      refine lv_istore_n (lv' := [(2, .int z), (1, .int (nI i)), (0, .ref (X.1 k))]) hx hb dX0_init_89 rfl hl (by decide) rfl (fun ls hl => ?_)
      refine lv_aload_n hx hb dX0_init_90 rfl (lv_at hl 2 rfl) ?_
      refine p_get (C := RX0) (T := TX0) (N := 8) hx hb hF hown hR (by omega) oU_s rfl 6 (by decide) mw_1_71 rfl (v := .ref (X.1 (k + 6))) rfl dX0_init_91 ?_
      refine lv_iload_n hx hb dX0_init_94 rfl (lv_at hl 1 rfl) ?_
      refine lv_iload_n hx hb dX0_init_95 rfl (lv_at hl 0 rfl) ?_
      refine lv_if_eq (tgt := 108) hx hb dX0_init_96 (by decide) (fun c2 => ?_) (fun c2 => ?_)
      · refine lv_bipush (v := -2) hx hb dX0_init_108 (by decide) ?_
        refine lv_goto (tgt := 126) hx hb dX0_init_110 (by decide) ?_
        refine T126 _ z H locs ls ?_ hR hS hl
        rcases hzz with ⟨_, h9⟩ | ⟨h9, _⟩
        · exact (gI_a i hi1 h9).symm
        · rw [h9] at c2; exact absurd c2 (by decide)
      · have hcol : ¬ (f_X9_columnOf (nI i) < 0) ∧ ¬ (10 ≤ f_X9_columnOf (nI i)) := by
          rcases hzz with ⟨h9, _⟩ | ⟨_, h9⟩
          · exact absurd h9 c2
          · exact h9
        refine lv_iload_n hx hb dX0_init_99 rfl (lv_at hl 1 rfl) ?_
        refine p_sz (n0 := k + 1) (n := k + 8) hs0 (by omega) (Or.inl (by omega)) hR (fun hz => ?_)
        refine p_cs hx hb hml hown hF hA hz hR hS (k_levelOf l X (k + 8) _ (nI i)) mw_1_45 mw_1_1 mw_1_44 2 rfl hdS_X9_levelOf ⟨Nat.le_of_ble_eq_true rfl, Nat.le_of_ble_eq_true rfl⟩ hl.1 (Nat.le_of_ble_eq_true rfl) dX0_init_100 ⟨Nat.le_of_ble_eq_true rfl, Nat.le_of_ble_eq_true rfl⟩ (fun H locs hR hS => ?_)
        refine lv_bipush (v := 8) hx hb dX0_init_103 (by decide) ?_
        refine lv_icmp_lt (tgt := 113) hx hb dX0_init_105 (by decide) (fun c3 => ?_) (fun c3 => ?_)
        · refine lv_iload_n hx hb dX0_init_113 rfl (lv_at hl 1 rfl) ?_
          refine p_sz (n0 := k + 1) (n := k + 8) hs0 (by omega) (Or.inl (by omega)) hR (fun hz => ?_)
          refine p_cs hx hb hml hown hF hA hz hR hS (k_levelOf l X (k + 8) _ (nI i)) mw_1_45 mw_1_1 mw_1_44 2 rfl hdS_X9_levelOf ⟨Nat.le_of_ble_eq_true rfl, Nat.le_of_ble_eq_true rfl⟩ hl.1 (Nat.le_of_ble_eq_true rfl) dX0_init_114 ⟨Nat.le_of_ble_eq_true rfl, Nat.le_of_ble_eq_true rfl⟩ (fun H locs hR hS => ?_)
          refine lv_if_ge (tgt := 125) hx hb dX0_init_117 (by decide) (fun c4 => ?_) (fun c4 => ?_)
          · refine lv_iconst (v := -1) hx hb dX0_init_125 (by decide) ?_
            exact T126 _ z H locs ls (gI_d i hi1 hcol.1 hcol.2 c3 c4).symm hR hS hl
          · refine lv_bipush (v := -3) hx hb dX0_init_120 (by decide) ?_
            refine lv_goto (tgt := 126) hx hb dX0_init_122 (by decide) ?_
            exact T126 _ z H locs ls (gI_c i hi1 hcol.1 hcol.2 c4).symm hR hS hl
        · refine lv_bipush (v := -2) hx hb dX0_init_108 (by decide) ?_
          refine lv_goto (tgt := 126) hx hb dX0_init_110 (by decide) ?_
          exact T126 _ z H locs ls (gI_b i hi1 c3).symm hR hS hl
    refine lv_iload_n hx hb dX0_init_62 rfl (lv_at hl 0 rfl) ?_
    refine lv_bipush (v := 120) hx hb dX0_init_63 (by decide) ?_
    refine lv_icmp_ge (tgt := 133) hx hb dX0_init_65 (by decide) (fun c1 => absurd c1 (nI_ge (b := 120) hi1 (by decide))) (fun c1 => ?_)
    refine lv_iload_n hx hb dX0_init_68 rfl (lv_at hl 0 rfl) ?_
    refine p_sz (n0 := k + 1) (n := k + 8) hs0 (by omega) (Or.inl (by omega)) hR (fun hz => ?_)
    refine p_cs hx hb hml hown hF hA hz hR hS (k_columnOf l X (k + 8) _ (nI i)) mw_1_42 mw_1_1 mw_1_41 1 rfl hdS_X9_columnOf ⟨Nat.le_of_ble_eq_true rfl, Nat.le_of_ble_eq_true rfl⟩ hl.1 (Nat.le_of_ble_eq_true rfl) dX0_init_69 ⟨Nat.le_of_ble_eq_true rfl, Nat.le_of_ble_eq_true rfl⟩ (fun H locs hR hS => ?_)
    refine lv_if_lt (tgt := 88) hx hb dX0_init_72 (by decide) (fun c2 => ?_) (fun c2 => ?_)
    · refine lv_iconst (v := 0) hx hb dX0_init_88 (by decide) ?_
      exact T89 0 H locs ls (Or.inl ⟨rfl, Or.inl c2⟩) hR hS hl
    · refine lv_iload_n hx hb dX0_init_75 rfl (lv_at hl 0 rfl) ?_
      refine p_sz (n0 := k + 1) (n := k + 8) hs0 (by omega) (Or.inl (by omega)) hR (fun hz => ?_)
      refine p_cs hx hb hml hown hF hA hz hR hS (k_columnOf l X (k + 8) _ (nI i)) mw_1_42 mw_1_1 mw_1_41 1 rfl hdS_X9_columnOf ⟨Nat.le_of_ble_eq_true rfl, Nat.le_of_ble_eq_true rfl⟩ hl.1 (Nat.le_of_ble_eq_true rfl) dX0_init_76 ⟨Nat.le_of_ble_eq_true rfl, Nat.le_of_ble_eq_true rfl⟩ (fun H locs hR hS => ?_)
      refine lv_bipush (v := 10) hx hb dX0_init_79 (by decide) ?_
      refine lv_icmp_ge (tgt := 88) hx hb dX0_init_81 (by decide) (fun c3 => ?_) (fun c3 => ?_)
      · refine lv_iconst (v := 0) hx hb dX0_init_88 (by decide) ?_
        exact T89 0 H locs ls (Or.inl ⟨rfl, Or.inr c3⟩) hR hS hl
      · refine lv_iconst (v := 1) hx hb dX0_init_84 (by decide) ?_
        refine lv_goto (tgt := 89) hx hb dX0_init_85 (by decide) ?_
        exact T89 1 H locs ls (Or.inr ⟨rfl, c2, c3⟩) hR hS hl

set_option maxRecDepth 100000 in
set_option maxHeartbeats 4000000 in
theorem k_X0_init (l : Launch) (X : mX) (k : Nat) (hk : isBody k) (O : Nat → Option va_E) (hO : ∀ j, k ≤ j → O j = none) : pM l yX0_init cX0_init 3 1 60 7 216 X [.ref (X.1 k)] O k (k + 8) (.inr (0, [.int 0, .null, .null, .null, .null, .null, .null, .null])) := by
  refine p_of (by decide +kernel) rfl (Nat.le_of_ble_eq_true rfl) rfl (fun p e s m args below meth c hs hin hA hs0 H locs ls hR hS hl => ?_)
  obtain ⟨hx, hb, hml, hown, hF, hlk, hr⟩ := id hs
  have hl : lv_has ls 3 [(0, .ref (X.1 k))] := hl
  refine lv_aload_n hx hb dX0_init_0 rfl (lv_at hl 0 rfl) ?_
  refine p_obj hx hb hml hF hown mw_1_39 mw_1_26 mw_1_27 hl.1 dX0_init_1 (Nat.le_of_ble_eq_true rfl) (Nat.le_of_ble_eq_true rfl) ?_
  refine lv_aload_n hx hb dX0_init_4 rfl (lv_at hl 0 rfl) ?_
  refine lv_bipush (v := 16) hx hb dX0_init_5 (by decide) ?_
  refine p_sz (n0 := k + 1) (n := (k + 1)) hs0 (by omega) (Or.inl (by omega)) hR (fun hz => ?_)
  refine p_newa hx hb hz hR hS (atype := .int) hA.i (ty := .int) rfl 0 rfl (fun h => h) (a0 := (16, .inl (fun _ => 0))) (N := 16) (fun _ => rfl) (by decide) (by decide) (by decide) (Nat.le_of_ble_eq_true rfl) (Nat.le_of_ble_eq_true rfl) dX0_init_7 (fun H hz hR hS => ?_)
  have hR : pR X s H (k + 2) (oU O k (.inr (0, [.int 0, .null, .null, .null, .null, .null, .null, .null]))) := hR.drop (by rw [oU_n (by omega)]; exact hO _ (by omega)) (by unfold isBody at hk; rcases hk with rfl | rfl | rfl <;> rfl)
  refine p_putF (C := RX0) (T := TX0) (N := 8) hx hb hF hown hR hS (by omega) rfl rfl tyX0_ok nmX0 1 (by decide) mw_1_51 rfl rfl hin rfl rfl rfl rfl (Nat.le_of_ble_eq_true rfl) dX0_init_9 (fun H locs hR hS => ?_)
  have hR : pR X s H (k + 2) (oU O k (.inr (0, [.int 0, .ref (X.1 (k + 1)), .null, .null, .null, .null, .null, .null]))) := hR
  refine lv_aload_n hx hb dX0_init_12 rfl (lv_at hl 0 rfl) ?_
  refine lv_bipush (v := 16) hx hb dX0_init_13 (by decide) ?_
  refine p_sz (n0 := k + 1) (n := (k + 2)) hs0 (by omega) (Or.inl (by omega)) hR (fun hz => ?_)
  refine p_newa hx hb hz hR hS (atype := .int) hA.i (ty := .int) rfl 0 rfl (fun h => h) (a0 := (16, .inl (fun _ => 0))) (N := 16) (fun _ => rfl) (by decide) (by decide) (by decide) (Nat.le_of_ble_eq_true rfl) (Nat.le_of_ble_eq_true rfl) dX0_init_15 (fun H hz hR hS => ?_)
  have hR : pR X s H (k + 3) (oU O k (.inr (0, [.int 0, .ref (X.1 (k + 1)), .null, .null, .null, .null, .null, .null]))) := hR.drop (by rw [oU_n (by omega)]; exact hO _ (by omega)) (by unfold isBody at hk; rcases hk with rfl | rfl | rfl <;> rfl)
  refine p_putF (C := RX0) (T := TX0) (N := 8) hx hb hF hown hR hS (by omega) rfl rfl tyX0_ok nmX0 2 (by decide) mw_1_54 rfl rfl hin rfl rfl rfl rfl (Nat.le_of_ble_eq_true rfl) dX0_init_17 (fun H locs hR hS => ?_)
  have hR : pR X s H (k + 3) (oU O k (.inr (0, [.int 0, .ref (X.1 (k + 1)), .ref (X.1 (k + 2)), .null, .null, .null, .null, .null]))) := hR
  refine lv_aload_n hx hb dX0_init_20 rfl (lv_at hl 0 rfl) ?_
  refine lv_bipush (v := 16) hx hb dX0_init_21 (by decide) ?_
  refine p_sz (n0 := k + 1) (n := (k + 3)) hs0 (by omega) (Or.inl (by omega)) hR (fun hz => ?_)
  refine p_newa hx hb hz hR hS (atype := .int) hA.i (ty := .int) rfl 0 rfl (fun h => h) (a0 := (16, .inl (fun _ => 0))) (N := 16) (fun _ => rfl) (by decide) (by decide) (by decide) (Nat.le_of_ble_eq_true rfl) (Nat.le_of_ble_eq_true rfl) dX0_init_23 (fun H hz hR hS => ?_)
  have hR : pR X s H (k + 4) (oU O k (.inr (0, [.int 0, .ref (X.1 (k + 1)), .ref (X.1 (k + 2)), .null, .null, .null, .null, .null]))) := hR.drop (by rw [oU_n (by omega)]; exact hO _ (by omega)) (by unfold isBody at hk; rcases hk with rfl | rfl | rfl <;> rfl)
  refine p_putF (C := RX0) (T := TX0) (N := 8) hx hb hF hown hR hS (by omega) rfl rfl tyX0_ok nmX0 3 (by decide) mw_1_60 rfl rfl hin rfl rfl rfl rfl (Nat.le_of_ble_eq_true rfl) dX0_init_25 (fun H locs hR hS => ?_)
  have hR : pR X s H (k + 4) (oU O k (.inr (0, [.int 0, .ref (X.1 (k + 1)), .ref (X.1 (k + 2)), .ref (X.1 (k + 3)), .null, .null, .null, .null]))) := hR
  refine lv_aload_n hx hb dX0_init_28 rfl (lv_at hl 0 rfl) ?_
  refine lv_bipush (v := 16) hx hb dX0_init_29 (by decide) ?_
  refine p_sz (n0 := k + 1) (n := (k + 4)) hs0 (by omega) (Or.inl (by omega)) hR (fun hz => ?_)
  refine p_newa hx hb hz hR hS (atype := .boolean) hA.z (ty := .boolean) rfl 1 rfl (fun h => h) (a0 := (16, .inl (fun _ => 0))) (N := 16) (fun _ => rfl) (by decide) (by decide) (by decide) (Nat.le_of_ble_eq_true rfl) (Nat.le_of_ble_eq_true rfl) dX0_init_31 (fun H hz hR hS => ?_)
  have hR : pR X s H (k + 5) (oU O k (.inr (0, [.int 0, .ref (X.1 (k + 1)), .ref (X.1 (k + 2)), .ref (X.1 (k + 3)), .null, .null, .null, .null]))) := hR.drop (by rw [oU_n (by omega)]; exact hO _ (by omega)) (by unfold isBody at hk; rcases hk with rfl | rfl | rfl <;> rfl)
  refine p_putF (C := RX0) (T := TX0) (N := 8) hx hb hF hown hR hS (by omega) rfl rfl tyX0_ok nmX0 4 (by decide) mw_1_65 rfl rfl hin rfl rfl rfl rfl (Nat.le_of_ble_eq_true rfl) dX0_init_33 (fun H locs hR hS => ?_)
  have hR : pR X s H (k + 5) (oU O k (.inr (0, [.int 0, .ref (X.1 (k + 1)), .ref (X.1 (k + 2)), .ref (X.1 (k + 3)), .ref (X.1 (k + 4)), .null, .null, .null]))) := hR
  refine lv_aload_n hx hb dX0_init_36 rfl (lv_at hl 0 rfl) ?_
  refine lv_bipush (v := 16) hx hb dX0_init_37 (by decide) ?_
  refine p_sz (n0 := k + 1) (n := (k + 5)) hs0 (by omega) (Or.inl (by omega)) hR (fun hz => ?_)
  refine p_newa hx hb hz hR hS (atype := .int) hA.i (ty := .int) rfl 0 rfl (fun h => h) (a0 := (16, .inl (fun _ => 0))) (N := 16) (fun _ => rfl) (by decide) (by decide) (by decide) (Nat.le_of_ble_eq_true rfl) (Nat.le_of_ble_eq_true rfl) dX0_init_39 (fun H hz hR hS => ?_)
  have hR : pR X s H (k + 6) (oU O k (.inr (0, [.int 0, .ref (X.1 (k + 1)), .ref (X.1 (k + 2)), .ref (X.1 (k + 3)), .ref (X.1 (k + 4)), .null, .null, .null]))) := hR.drop (by rw [oU_n (by omega)]; exact hO _ (by omega)) (by unfold isBody at hk; rcases hk with rfl | rfl | rfl <;> rfl)
  refine p_putF (C := RX0) (T := TX0) (N := 8) hx hb hF hown hR hS (by omega) rfl rfl tyX0_ok nmX0 5 (by decide) mw_1_69 rfl rfl hin rfl rfl rfl rfl (Nat.le_of_ble_eq_true rfl) dX0_init_41 (fun H locs hR hS => ?_)
  have hR : pR X s H (k + 6) (oU O k (.inr (0, [.int 0, .ref (X.1 (k + 1)), .ref (X.1 (k + 2)), .ref (X.1 (k + 3)), .ref (X.1 (k + 4)), .ref (X.1 (k + 5)), .null, .null]))) := hR
  refine lv_aload_n hx hb dX0_init_44 rfl (lv_at hl 0 rfl) ?_
  refine lv_bipush (v := 120) hx hb dX0_init_45 (by decide) ?_
  refine p_sz (n0 := k + 1) (n := (k + 6)) hs0 (by omega) (Or.inl (by omega)) hR (fun hz => ?_)
  refine p_newa hx hb hz hR hS (atype := .int) hA.i (ty := .int) rfl 0 rfl (fun h => h) (a0 := (120, .inl (gA 0))) (N := 120) gA_cell (by decide) (by decide) (by decide) (Nat.le_of_ble_eq_true rfl) (Nat.le_of_ble_eq_true rfl) dX0_init_47 (fun H hz hR hS => ?_)
  have hR : pR X s H (k + 7) (oU (oU O (k + 6) (.inl (X.2.2.1 0, 120, .inl (gA 0)))) k (.inr (0, [.int 0, .ref (X.1 (k + 1)), .ref (X.1 (k + 2)), .ref (X.1 (k + 3)), .ref (X.1 (k + 4)), .ref (X.1 (k + 5)), .null, .null]))) := pR.sw (by omega) hR
  refine p_putF (C := RX0) (T := TX0) (N := 8) hx hb hF hown hR hS (by omega) rfl rfl tyX0_ok nmX0 6 (by decide) mw_1_71 rfl rfl hin rfl rfl rfl rfl (Nat.le_of_ble_eq_true rfl) dX0_init_49 (fun H locs hR hS => ?_)
  have hR : pR X s H (k + 7) (oU (oU O (k + 6) (.inl (X.2.2.1 0, 120, .inl (gA 0)))) k (.inr (0, [.int 0, .ref (X.1 (k + 1)), .ref (X.1 (k + 2)), .ref (X.1 (k + 3)), .ref (X.1 (k + 4)), .ref (X.1 (k + 5)), .ref (X.1 (k + 6)), .null]))) := hR
  refine lv_aload_n hx hb dX0_init_52 rfl (lv_at hl 0 rfl) ?_
  refine lv_bipush (v := 16) hx hb dX0_init_53 (by decide) ?_
  refine p_sz (n0 := k + 1) (n := (k + 7)) hs0 (by omega) (Or.inl (by omega)) hR (fun hz => ?_)
  refine p_newa hx hb hz hR hS (atype := .int) hA.i (ty := .int) rfl 0 rfl (fun h => h) (a0 := (16, .inl (fun _ => 0))) (N := 16) (fun _ => rfl) (by decide) (by decide) (by decide) (Nat.le_of_ble_eq_true rfl) (Nat.le_of_ble_eq_true rfl) dX0_init_55 (fun H hz hR hS => ?_)
  have hR : pR X s H (k + 8) (oU (oU O (k + 6) (.inl (X.2.2.1 0, 120, .inl (gA 0)))) k (.inr (0, [.int 0, .ref (X.1 (k + 1)), .ref (X.1 (k + 2)), .ref (X.1 (k + 3)), .ref (X.1 (k + 4)), .ref (X.1 (k + 5)), .ref (X.1 (k + 6)), .null]))) := hR.drop (by rw [oU_n (by omega), oU_n (by omega)]; exact hO _ (by omega)) (by unfold isBody at hk; rcases hk with rfl | rfl | rfl <;> rfl)
  refine p_putF (C := RX0) (T := TX0) (N := 8) hx hb hF hown hR hS (by omega) rfl rfl tyX0_ok nmX0 7 (by decide) mw_1_72 rfl rfl hin rfl rfl rfl rfl (Nat.le_of_ble_eq_true rfl) dX0_init_57 (fun H locs hR hS => ?_)
  have hR : pR X s H (k + 8) (oU (oU O (k + 6) (.inl (X.2.2.1 0, 120, .inl (gA 0)))) k (.inr (0, [.int 0, .ref (X.1 (k + 1)), .ref (X.1 (k + 2)), .ref (X.1 (k + 3)), .ref (X.1 (k + 4)), .ref (X.1 (k + 5)), .ref (X.1 (k + 6)), .ref (X.1 (k + 7))]))) := hR
  refine lv_iconst (v := 0) hx hb dX0_init_60 (by decide) ?_
  refine lv_istore_n (lv' := [(1, .int 0), (0, .ref (X.1 k))]) hx hb dX0_init_61 rfl hl (by decide) rfl (fun ls hl => ?_)
  exact k_X0_loop hk hO hs hA hs0 120 0 rfl _ _ _ hR hS hl
set_option maxRecDepth 100000 in
set_option maxHeartbeats 4000000 in
theorem k_X2_init (l : Launch) (X : mX) (k : Nat) (hk : isNotes k) (O : Nat → Option va_E) (hO : ∀ j, k ≤ j → O j = none) : pM l yX2_init cX2_init 1 1 60 3 120 X [.ref (X.1 k)] O k (k + 4) (.inr (2, [.int 0, .null, .null, .null])) := by
  refine p_of (by decide +kernel) rfl (Nat.le_of_ble_eq_true rfl) rfl (fun p e s m args below meth c hs hin hA hs0 H locs ls hR hS hl => ?_)
  obtain ⟨hx, hb, hml, hown, hF, hlk, hr⟩ := id hs
  have hl : lv_has ls 1 [(0, .ref (X.1 k))] := hl
  refine lv_aload_n hx hb dX2_init_0 rfl (lv_at hl 0 rfl) ?_
  refine p_obj hx hb hml hF hown mw_1_99 mw_1_26 mw_1_27 hl.1 dX2_init_1 (Nat.le_of_ble_eq_true rfl) (Nat.le_of_ble_eq_true rfl) ?_
  refine lv_aload_n hx hb dX2_init_4 rfl (lv_at hl 0 rfl) ?_
  refine lv_bipush (v := 40) hx hb dX2_init_5 (by decide) ?_
  refine p_sz (n0 := k + 1) (n := (k + 1)) hs0 (by omega) (Or.inl (by omega)) hR (fun hz => ?_)
  refine p_newa hx hb hz hR hS (atype := .int) hA.i (ty := .int) rfl 0 rfl (fun h => h) (a0 := (40, .inl (fun _ => 0))) (N := 40) (fun _ => rfl) (by decide) (by decide) (by decide) (Nat.le_of_ble_eq_true rfl) (Nat.le_of_ble_eq_true rfl) dX2_init_7 (fun H hz hR hS => ?_)
  have hR : pR X s H (k + 2) (oU O k (.inr (2, [.int 0, .null, .null, .null]))) := hR.drop (by rw [oU_n (by omega)]; exact hO _ (by omega)) (by unfold isNotes at hk; rcases hk with rfl | rfl | rfl | rfl <;> rfl)
  refine p_putF (C := RX2) (T := TX2) (N := 4) hx hb hF hown hR hS (by omega) rfl rfl tyX2_ok nmX2 1 (by decide) mw_1_103 rfl rfl hin rfl rfl rfl rfl (Nat.le_of_ble_eq_true rfl) dX2_init_9 (fun H locs hR hS => ?_)
  have hR : pR X s H (k + 2) (oU O k (.inr (2, [.int 0, .ref (X.1 (k + 1)), .null, .null]))) := hR
  refine lv_aload_n hx hb dX2_init_12 rfl (lv_at hl 0 rfl) ?_
  refine lv_bipush (v := 40) hx hb dX2_init_13 (by decide) ?_
  refine p_sz (n0 := k + 1) (n := (k + 2)) hs0 (by omega) (Or.inl (by omega)) hR (fun hz => ?_)
  refine p_newa hx hb hz hR hS (atype := .int) hA.i (ty := .int) rfl 0 rfl (fun h => h) (a0 := (40, .inl (fun _ => 0))) (N := 40) (fun _ => rfl) (by decide) (by decide) (by decide) (Nat.le_of_ble_eq_true rfl) (Nat.le_of_ble_eq_true rfl) dX2_init_15 (fun H hz hR hS => ?_)
  have hR : pR X s H (k + 3) (oU O k (.inr (2, [.int 0, .ref (X.1 (k + 1)), .null, .null]))) := hR.drop (by rw [oU_n (by omega)]; exact hO _ (by omega)) (by unfold isNotes at hk; rcases hk with rfl | rfl | rfl | rfl <;> rfl)
  refine p_putF (C := RX2) (T := TX2) (N := 4) hx hb hF hown hR hS (by omega) rfl rfl tyX2_ok nmX2 2 (by decide) mw_1_104 rfl rfl hin rfl rfl rfl rfl (Nat.le_of_ble_eq_true rfl) dX2_init_17 (fun H locs hR hS => ?_)
  have hR : pR X s H (k + 3) (oU O k (.inr (2, [.int 0, .ref (X.1 (k + 1)), .ref (X.1 (k + 2)), .null]))) := hR
  refine lv_aload_n hx hb dX2_init_20 rfl (lv_at hl 0 rfl) ?_
  refine lv_bipush (v := 40) hx hb dX2_init_21 (by decide) ?_
  refine p_sz (n0 := k + 1) (n := (k + 3)) hs0 (by omega) (Or.inl (by omega)) hR (fun hz => ?_)
  refine p_newa hx hb hz hR hS (atype := .boolean) hA.z (ty := .boolean) rfl 1 rfl (fun h => h) (a0 := (40, .inl (fun _ => 0))) (N := 40) (fun _ => rfl) (by decide) (by decide) (by decide) (Nat.le_of_ble_eq_true rfl) (Nat.le_of_ble_eq_true rfl) dX2_init_23 (fun H hz hR hS => ?_)
  have hR : pR X s H (k + 4) (oU O k (.inr (2, [.int 0, .ref (X.1 (k + 1)), .ref (X.1 (k + 2)), .null]))) := hR.drop (by rw [oU_n (by omega)]; exact hO _ (by omega)) (by unfold isNotes at hk; rcases hk with rfl | rfl | rfl | rfl <;> rfl)
  refine p_putF (C := RX2) (T := TX2) (N := 4) hx hb hF hown hR hS (by omega) rfl rfl tyX2_ok nmX2 3 (by decide) mw_1_105 rfl rfl hin rfl rfl rfl rfl (Nat.le_of_ble_eq_true rfl) dX2_init_25 (fun H locs hR hS => ?_)
  have hR : pR X s H (k + 4) (oU O k (.inr (2, [.int 0, .ref (X.1 (k + 1)), .ref (X.1 (k + 2)), .ref (X.1 (k + 3))]))) := hR
  refine W.widen (k := 3) (n := 120) (by omega) (by omega) ?_
  exact p_vr hx hb hlk hr (hR.drop (hO _ (by omega)) (by unfold isNotes at hk; rcases hk with rfl | rfl | rfl | rfl <;> rfl)) hS dX2_init_28
set_option maxRecDepth 100000 in
set_option maxHeartbeats 4000000 in
theorem k_X6_init (l : Launch) (X : mX) (k : Nat) (hk : isShelf k) (O : Nat → Option va_E) (hO : ∀ j, k ≤ j → O j = none) : pM l yX6_init cX6_init 1 1 60 1 90 X [.ref (X.1 k)] O k (k + 2) (.inr (6, [.int 0, .int 0, .null, .int 0, .int 0, .int 0, .int 0, .int 0])) := by
  refine p_of (by decide +kernel) rfl (Nat.le_of_ble_eq_true rfl) rfl (fun p e s m args below meth c hs hin hA hs0 H locs ls hR hS hl => ?_)
  obtain ⟨hx, hb, hml, hown, hF, hlk, hr⟩ := id hs
  have hl : lv_has ls 1 [(0, .ref (X.1 k))] := hl
  refine lv_aload_n hx hb dX6_init_0 rfl (lv_at hl 0 rfl) ?_
  refine p_obj hx hb hml hF hown mw_2_7 mw_1_26 mw_1_27 hl.1 dX6_init_1 (Nat.le_of_ble_eq_true rfl) (Nat.le_of_ble_eq_true rfl) ?_
  refine lv_aload_n hx hb dX6_init_4 rfl (lv_at hl 0 rfl) ?_
  refine lv_bipush (v := (-2)) hx hb dX6_init_5 (by decide) ?_
  refine p_put (C := RX6) (T := TX6) (N := 8) hx hb hF hown hR hS (by omega) rfl rfl tyX6_ok nmX6 0 (by decide) mw_2_8 rfl rfl rfl rfl rfl (Nat.le_of_ble_eq_true rfl) dX6_init_7 (fun H locs hR hS => ?_)
  have hR : pR X s H (k + 1) (oU O k (.inr (6, [.int (-2), .int 0, .null, .int 0, .int 0, .int 0, .int 0, .int 0]))) := hR
  refine lv_aload_n hx hb dX6_init_10 rfl (lv_at hl 0 rfl) ?_
  refine lv_bipush (v := 90) hx hb dX6_init_11 (by decide) ?_
  refine p_sz (n0 := k + 1) (n := (k + 1)) hs0 (by omega) (Or.inl (by omega)) hR (fun hz => ?_)
  refine p_newa hx hb hz hR hS (atype := .int) hA.i (ty := .int) rfl 0 rfl (fun h => h) (a0 := (90, .inl (fun _ => 0))) (N := 90) (fun _ => rfl) (by decide) (by decide) (by decide) (Nat.le_of_ble_eq_true rfl) (Nat.le_of_ble_eq_true rfl) dX6_init_13 (fun H hz hR hS => ?_)
  have hR : pR X s H (k + 2) (oU O k (.inr (6, [.int (-2), .int 0, .null, .int 0, .int 0, .int 0, .int 0, .int 0]))) := hR.drop (by rw [oU_n (by omega)]; exact hO _ (by omega)) (by unfold isShelf at hk; rcases hk with rfl | rfl | rfl | rfl | rfl | rfl | rfl | rfl <;> rfl)
  refine p_putF (C := RX6) (T := TX6) (N := 8) hx hb hF hown hR hS (by omega) rfl rfl tyX6_ok nmX6 2 (by decide) mw_2_15 rfl rfl hin rfl rfl rfl rfl (Nat.le_of_ble_eq_true rfl) dX6_init_15 (fun H locs hR hS => ?_)
  have hR : pR X s H (k + 2) (oU O k (.inr (6, [.int (-2), .int 0, .ref (X.1 (k + 1)), .int 0, .int 0, .int 0, .int 0, .int 0]))) := hR
  refine W.widen (k := 1) (n := 90) (by omega) (by omega) ?_
  exact p_vr hx hb hlk hr (hR.drop (hO _ (by omega)) (by unfold isShelf at hk; rcases hk with rfl | rfl | rfl | rfl | rfl | rfl | rfl | rfl <;> rfl)) hS dX6_init_18
set_option maxRecDepth 100000 in
set_option maxHeartbeats 4000000 in
theorem k_X3_init (l : Launch) (X : mX) (O : Nat → Option va_E) (hO : ∀ j, 73 ≤ j → O j = none) : pM l yX3_init cX3_init 2 1 60 2 124 X [.ref (X.1 73), .ref (X.1 65)] O 73 (73 + 3) (.inr (3, [.null, .null, .null])) := by
  refine p_of (by decide +kernel) rfl (Nat.le_of_ble_eq_true rfl) rfl (fun p e s m args below meth c hs hin hA hs0 H locs ls hR hS hl => ?_)
  obtain ⟨hx, hb, hml, hown, hF, hlk, hr⟩ := id hs
  have hl : lv_has ls 2 [(0, .ref (X.1 73)), (1, .ref (X.1 65))] := hl
  refine lv_aload_n hx hb dX3_init_0 rfl (lv_at hl 0 rfl) ?_
  refine p_obj hx hb hml hF hown mw_1_181 mw_1_26 mw_1_27 hl.1 dX3_init_1 (Nat.le_of_ble_eq_true rfl) (Nat.le_of_ble_eq_true rfl) ?_
  refine lv_aload_n hx hb dX3_init_4 rfl (lv_at hl 0 rfl) ?_
  refine lv_bipush (v := 120) hx hb dX3_init_5 (by decide) ?_
  refine p_sz (n0 := 73 + 1) (n := (73 + 1)) hs0 (by omega) (Or.inl (by omega)) hR (fun hz => ?_)
  refine p_newa hx hb hz hR hS (atype := .boolean) hA.z (ty := .boolean) rfl 1 rfl (fun h => h) (a0 := (120, .inl (fun _ => 0))) (N := 120) (fun _ => rfl) (by decide) (by decide) (by decide) (Nat.le_of_ble_eq_true rfl) (Nat.le_of_ble_eq_true rfl) dX3_init_7 (fun H hz hR hS => ?_)
  have hR : pR X s H (73 + 2) (oU O 73 (.inr (3, [.null, .null, .null]))) := hR.drop (by rw [oU_n (by omega)]; exact hO _ (by omega)) rfl
  refine p_putF (C := RX3) (T := TX3) (N := 3) hx hb hF hown hR hS (by omega) rfl rfl tyX3_ok nmX3 1 (by decide) mw_1_183 rfl rfl hin rfl rfl rfl rfl (Nat.le_of_ble_eq_true rfl) dX3_init_9 (fun H locs hR hS => ?_)
  have hR : pR X s H (73 + 2) (oU O 73 (.inr (3, [.null, .ref (X.1 (73 + 1)), .null]))) := hR
  refine lv_aload_n hx hb dX3_init_12 rfl (lv_at hl 0 rfl) ?_
  refine lv_iconst (v := 4) hx hb dX3_init_13 (by decide) ?_
  refine p_sz (n0 := 73 + 1) (n := (73 + 2)) hs0 (by omega) (Or.inl (by omega)) hR (fun hz => ?_)
  refine p_newa hx hb hz hR hS (atype := .int) hA.i (ty := .int) rfl 0 rfl (fun h => h) (a0 := (4, .inl (fun _ => 0))) (N := 4) (fun _ => rfl) (by decide) (by decide) (by decide) (Nat.le_of_ble_eq_true rfl) (Nat.le_of_ble_eq_true rfl) dX3_init_14 (fun H hz hR hS => ?_)
  have hR : pR X s H (73 + 3) (oU O 73 (.inr (3, [.null, .ref (X.1 (73 + 1)), .null]))) := hR.drop (by rw [oU_n (by omega)]; exact hO _ (by omega)) rfl
  refine p_putF (C := RX3) (T := TX3) (N := 3) hx hb hF hown hR hS (by omega) rfl rfl tyX3_ok nmX3 2 (by decide) mw_1_184 rfl rfl hin rfl rfl rfl rfl (Nat.le_of_ble_eq_true rfl) dX3_init_16 (fun H locs hR hS => ?_)
  have hR : pR X s H (73 + 3) (oU O 73 (.inr (3, [.null, .ref (X.1 (73 + 1)), .ref (X.1 (73 + 2))]))) := hR
  refine lv_aload_n hx hb dX3_init_19 rfl (lv_at hl 0 rfl) ?_
  refine lv_aload_n hx hb dX3_init_20 rfl (lv_at hl 1 rfl) ?_
  refine p_putF (C := RX3) (T := TX3) (N := 3) hx hb hF hown hR hS (by omega) rfl rfl tyX3_ok nmX3 0 (by decide) mw_1_182 rfl rfl hin rfl rfl rfl rfl (Nat.le_of_ble_eq_true rfl) dX3_init_21 (fun H locs hR hS => ?_)
  have hR : pR X s H (73 + 3) (oU O 73 (.inr (3, [.ref (X.1 65), .ref (X.1 (73 + 1)), .ref (X.1 (73 + 2))]))) := hR
  refine W.widen (k := 2) (n := 124) (by omega) (by omega) ?_
  exact p_vr hx hb hlk hr (hR.drop (hO _ (by omega)) rfl) hS dX3_init_24
set_option maxRecDepth 100000 in
set_option maxHeartbeats 4000000 in
theorem k_X7_init_X1 (l : Launch) (X : mX) (O : Nat → Option va_E) : Met l yX7_init [Cond.code yX7_init cX7_init 1 none] (pRm 1 60 0 0) (va_Pc [.ref (X.1 76)] (pPre X (76 + 1) (oU O 76 (.inr (1, [.null, .int 0, .int 0, .int 0, .null]))))) (pQ X (76 + 1) (oU O 76 (.inr (1, [.ref (X.2.2.2.1 6), .int 0, .int 0, .int (-1), .null])))) 0 0 (mL X) := by
  refine Met.ofW (cc := cX7_init) (maxL := 1) (ret := none) (by decide +kernel) rfl ?_
  intro p e s m args below meth c s₁ B hml hv
  obtain ⟨rfl, hF, hA, hz, hR⟩ := hv
  have hx := B.exec
  have hb := B.bytes
  have hr := B.returns
  have hlk := B.notSynchronized
  have hown : s.vm.findClass RX7 = some m.cls := findClass_of_methodNamed B.named
  have hl := lv_entry [Value.ref (X.1 76)] (n := 1) (Nat.le_of_ble_eq_true rfl)
  rw [lg_entry_eq]
  generalize (lg_sl [Value.ref (X.1 76)] ++ List.replicate (1 - (lg_sl [Value.ref (X.1 76)]).length) Slot.unset).toArray = ls at hl ⊢
  have hl : lv_has ls 1 [(0, .ref (X.1 76))] := hl
  have hS : va_S (mL X) s.heap s.heap [] := va_S.rf
  refine lv_aload_n hx hb dX7_init_0 rfl (lv_at hl 0 rfl) ?_
  refine p_obj hx hb hml hF hown mw_1_200 mw_1_26 mw_1_27 hl.1 dX7_init_1 (Nat.le_of_ble_eq_true rfl) (Nat.le_of_ble_eq_true rfl) ?_
  refine lv_aload_n hx hb dX7_init_4 rfl (lv_at hl 0 rfl) ?_
  refine m_gsN hx hb hF hS hown 6 (by decide) rfl 5 rfl dX7_init_5 ?_
  refine p_put (C := RX1) (T := TX1) (N := 5) hx hb hF hown hR hS (by omega) rfl rfl tyX1_ok nmX1 0 (by decide) mw_1_204 rfl rfl rfl rfl rfl (Nat.le_of_ble_eq_true rfl) dX7_init_8 (fun H locs hR hS => ?_)
  have hR : pR X s H (76 + 1) (oU O 76 (.inr (1, [.ref (X.2.2.2.1 6), .int 0, .int 0, .int 0, .null]))) := hR
  refine lv_aload_n hx hb dX7_init_11 rfl (lv_at hl 0 rfl) ?_
  refine lv_iconst (v := -1) hx hb dX7_init_12 (by decide) ?_
  refine p_put (C := RX1) (T := TX1) (N := 5) hx hb hF hown hR hS (by omega) rfl rfl tyX1_ok nmX1 3 (by decide) mw_1_207 rfl rfl rfl rfl rfl (Nat.le_of_ble_eq_true rfl) dX7_init_13 (fun H locs hR hS => ?_)
  have hR : pR X s H (76 + 1) (oU O 76 (.inr (1, [.ref (X.2.2.2.1 6), .int 0, .int 0, .int (-1), .null]))) := hR
  exact p_vr hx hb hlk hr hR hS dX7_init_16
set_option maxRecDepth 100000 in
set_option maxHeartbeats 4000000 in
theorem k_X7_init_X5 (l : Launch) (X : mX) (O : Nat → Option va_E) : Met l yX7_init [Cond.code yX7_init cX7_init 1 none] (pRm 1 60 0 0) (va_Pc [.ref (X.1 77)] (pPre X (77 + 1) (oU O 77 (.inr (5, [.null, .int 0, .int 0, .int 0]))))) (pQ X (77 + 1) (oU O 77 (.inr (5, [.ref (X.2.2.2.1 6), .int 0, .int 0, .int (-1)])))) 0 0 (mL X) := by
  refine Met.ofW (cc := cX7_init) (maxL := 1) (ret := none) (by decide +kernel) rfl ?_
  intro p e s m args below meth c s₁ B hml hv
  obtain ⟨rfl, hF, hA, hz, hR⟩ := hv
  have hx := B.exec
  have hb := B.bytes
  have hr := B.returns
  have hlk := B.notSynchronized
  have hown : s.vm.findClass RX7 = some m.cls := findClass_of_methodNamed B.named
  have hl := lv_entry [Value.ref (X.1 77)] (n := 1) (Nat.le_of_ble_eq_true rfl)
  rw [lg_entry_eq]
  generalize (lg_sl [Value.ref (X.1 77)] ++ List.replicate (1 - (lg_sl [Value.ref (X.1 77)]).length) Slot.unset).toArray = ls at hl ⊢
  have hl : lv_has ls 1 [(0, .ref (X.1 77))] := hl
  have hS : va_S (mL X) s.heap s.heap [] := va_S.rf
  refine lv_aload_n hx hb dX7_init_0 rfl (lv_at hl 0 rfl) ?_
  refine p_obj hx hb hml hF hown mw_1_200 mw_1_26 mw_1_27 hl.1 dX7_init_1 (Nat.le_of_ble_eq_true rfl) (Nat.le_of_ble_eq_true rfl) ?_
  refine lv_aload_n hx hb dX7_init_4 rfl (lv_at hl 0 rfl) ?_
  refine m_gsN hx hb hF hS hown 6 (by decide) rfl 5 rfl dX7_init_5 ?_
  refine p_put (C := RX5) (T := TX5) (N := 4) hx hb hF hown hR hS (by omega) rfl rfl tyX5_ok nmX5 0 (by decide) mw_1_204 rfl rfl rfl rfl rfl (Nat.le_of_ble_eq_true rfl) dX7_init_8 (fun H locs hR hS => ?_)
  have hR : pR X s H (77 + 1) (oU O 77 (.inr (5, [.ref (X.2.2.2.1 6), .int 0, .int 0, .int 0]))) := hR
  refine lv_aload_n hx hb dX7_init_11 rfl (lv_at hl 0 rfl) ?_
  refine lv_iconst (v := -1) hx hb dX7_init_12 (by decide) ?_
  refine p_put (C := RX5) (T := TX5) (N := 4) hx hb hF hown hR hS (by omega) rfl rfl tyX5_ok nmX5 3 (by decide) mw_1_207 rfl rfl rfl rfl rfl (Nat.le_of_ble_eq_true rfl) dX7_init_13 (fun H locs hR hS => ?_)
  have hR : pR X s H (77 + 1) (oU O 77 (.inr (5, [.ref (X.2.2.2.1 6), .int 0, .int 0, .int (-1)]))) := hR
  exact p_vr hx hb hlk hr hR hS dX7_init_16
set_option maxRecDepth 100000 in
set_option maxHeartbeats 4000000 in
theorem k_X7_init_X4 (l : Launch) (X : mX) (O : Nat → Option va_E) : Met l yX7_init [Cond.code yX7_init cX7_init 1 none] (pRm 1 60 0 0) (va_Pc [.ref (X.1 78)] (pPre X (78 + 1) (oU O 78 (.inr (4, [.null, .int 0, .int 0, .int 0]))))) (pQ X (78 + 1) (oU O 78 (.inr (4, [.ref (X.2.2.2.1 6), .int 0, .int 0, .int (-1)])))) 0 0 (mL X) := by
  refine Met.ofW (cc := cX7_init) (maxL := 1) (ret := none) (by decide +kernel) rfl ?_
  intro p e s m args below meth c s₁ B hml hv
  obtain ⟨rfl, hF, hA, hz, hR⟩ := hv
  have hx := B.exec
  have hb := B.bytes
  have hr := B.returns
  have hlk := B.notSynchronized
  have hown : s.vm.findClass RX7 = some m.cls := findClass_of_methodNamed B.named
  have hl := lv_entry [Value.ref (X.1 78)] (n := 1) (Nat.le_of_ble_eq_true rfl)
  rw [lg_entry_eq]
  generalize (lg_sl [Value.ref (X.1 78)] ++ List.replicate (1 - (lg_sl [Value.ref (X.1 78)]).length) Slot.unset).toArray = ls at hl ⊢
  have hl : lv_has ls 1 [(0, .ref (X.1 78))] := hl
  have hS : va_S (mL X) s.heap s.heap [] := va_S.rf
  refine lv_aload_n hx hb dX7_init_0 rfl (lv_at hl 0 rfl) ?_
  refine p_obj hx hb hml hF hown mw_1_200 mw_1_26 mw_1_27 hl.1 dX7_init_1 (Nat.le_of_ble_eq_true rfl) (Nat.le_of_ble_eq_true rfl) ?_
  refine lv_aload_n hx hb dX7_init_4 rfl (lv_at hl 0 rfl) ?_
  refine m_gsN hx hb hF hS hown 6 (by decide) rfl 5 rfl dX7_init_5 ?_
  refine p_put (C := RX4) (T := TX4) (N := 4) hx hb hF hown hR hS (by omega) rfl rfl tyX4_ok nmX4 0 (by decide) mw_1_204 rfl rfl rfl rfl rfl (Nat.le_of_ble_eq_true rfl) dX7_init_8 (fun H locs hR hS => ?_)
  have hR : pR X s H (78 + 1) (oU O 78 (.inr (4, [.ref (X.2.2.2.1 6), .int 0, .int 0, .int 0]))) := hR
  refine lv_aload_n hx hb dX7_init_11 rfl (lv_at hl 0 rfl) ?_
  refine lv_iconst (v := -1) hx hb dX7_init_12 (by decide) ?_
  refine p_put (C := RX4) (T := TX4) (N := 4) hx hb hF hown hR hS (by omega) rfl rfl tyX4_ok nmX4 3 (by decide) mw_1_207 rfl rfl rfl rfl rfl (Nat.le_of_ble_eq_true rfl) dX7_init_13 (fun H locs hR hS => ?_)
  have hR : pR X s H (78 + 1) (oU O 78 (.inr (4, [.ref (X.2.2.2.1 6), .int 0, .int 0, .int (-1)]))) := hR
  exact p_vr hx hb hlk hr hR hS dX7_init_16
set_option maxRecDepth 100000 in
set_option maxHeartbeats 4000000 in
theorem k_X1_init (l : Launch) (X : mX) (O : Nat → Option va_E) (hO : ∀ j, 76 ≤ j → O j = none) : pM l yX1_init cX1_init 2 2 80 0 0 X [.ref (X.1 76), .ref (X.1 1)] O 76 (76 + 1) (.inr (1, [.null, .int 0, .int 0, .int 0, .null])) := by
  refine p_of (by decide +kernel) rfl (Nat.le_of_ble_eq_true rfl) rfl (fun p e s m args below meth c hs hin hA hs0 H locs ls hR hS hl => ?_)
  obtain ⟨hx, hb, hml, hown, hF, hlk, hr⟩ := id hs
  have hl : lv_has ls 2 [(0, .ref (X.1 76)), (1, .ref (X.1 1))] := hl
  refine lv_aload_n hx hb dX1_init_0 rfl (lv_at hl 0 rfl) ?_
  refine p_sz (n0 := 76 + 1) (n := (76 + 1)) hs0 (by omega) (Or.inl (by omega)) hR (fun hz => ?_)
  refine p_callN hx hb hml hown hF hA hz hR hS (k_X7_init_X1 l X O) mw_1_199 mw_1_6 mw_1_198 4 rfl rfl hdS_X7_init ⟨Nat.le_of_ble_eq_true rfl, Nat.le_of_ble_eq_true rfl⟩ rfl hl.1 rfl (Nat.le_of_ble_eq_true rfl) dX1_init_1 ⟨Nat.le_of_ble_eq_true rfl, Nat.le_of_ble_eq_true rfl⟩ (fun H locs hR hS => ?_)
  have hR : pR X s H (76 + 1) (oU O 76 (.inr (1, [.ref (X.2.2.2.1 6), .int 0, .int 0, .int (-1), .null]))) := hR
  refine lv_aload_n hx hb dX1_init_4 rfl (lv_at hl 0 rfl) ?_
  refine lv_aload_n hx hb dX1_init_5 rfl (lv_at hl 1 rfl) ?_
  refine p_putF (C := RX1) (T := TX1) (N := 5) hx hb hF hown hR hS (by omega) rfl rfl tyX1_ok nmX1 4 (by decide) mw_1_203 rfl rfl hin rfl rfl rfl rfl (Nat.le_of_ble_eq_true rfl) dX1_init_6 (fun H locs hR hS => ?_)
  have hR : pR X s H (76 + 1) (oU O 76 (.inr (1, [.ref (X.2.2.2.1 6), .int 0, .int 0, .int (-1), .ref (X.1 1)]))) := hR
  refine W.widen (k := 0) (n := 0) (by omega) (by omega) ?_
  exact p_vr hx hb hlk hr (hR.drop (hO _ (by omega)) rfl) hS dX1_init_9
set_option maxRecDepth 100000 in
set_option maxHeartbeats 4000000 in
theorem k_X5_init (l : Launch) (X : mX) (O : Nat → Option va_E) (hO : ∀ j, 77 ≤ j → O j = none) : pM l yX5_init cX5_init 1 2 80 0 0 X [.ref (X.1 77)] O 77 (77 + 1) (.inr (5, [.null, .int 0, .int 0, .int 0])) := by
  refine p_of (by decide +kernel) rfl (Nat.le_of_ble_eq_true rfl) rfl (fun p e s m args below meth c hs hin hA hs0 H locs ls hR hS hl => ?_)
  obtain ⟨hx, hb, hml, hown, hF, hlk, hr⟩ := id hs
  have hl : lv_has ls 1 [(0, .ref (X.1 77))] := hl
  refine lv_aload_n hx hb dX5_init_0 rfl (lv_at hl 0 rfl) ?_
  refine p_sz (n0 := 77 + 1) (n := (77 + 1)) hs0 (by omega) (Or.inl (by omega)) hR (fun hz => ?_)
  refine p_callN hx hb hml hown hF hA hz hR hS (k_X7_init_X5 l X O) mw_1_199 mw_1_6 mw_1_198 7 rfl rfl hdS_X7_init ⟨Nat.le_of_ble_eq_true rfl, Nat.le_of_ble_eq_true rfl⟩ rfl hl.1 rfl (Nat.le_of_ble_eq_true rfl) dX5_init_1 ⟨Nat.le_of_ble_eq_true rfl, Nat.le_of_ble_eq_true rfl⟩ (fun H locs hR hS => ?_)
  have hR : pR X s H (77 + 1) (oU O 77 (.inr (5, [.ref (X.2.2.2.1 6), .int 0, .int 0, .int (-1)]))) := hR
  refine W.widen (k := 0) (n := 0) (by omega) (by omega) ?_
  exact p_vr hx hb hlk hr (hR.drop (hO _ (by omega)) rfl) hS dX5_init_4
set_option maxRecDepth 100000 in
set_option maxHeartbeats 4000000 in
theorem k_X4_init (l : Launch) (X : mX) (O : Nat → Option va_E) (hO : ∀ j, 78 ≤ j → O j = none) : pM l yX4_init cX4_init 1 2 80 0 0 X [.ref (X.1 78)] O 78 (78 + 1) (.inr (4, [.null, .int 0, .int 0, .int 0])) := by
  refine p_of (by decide +kernel) rfl (Nat.le_of_ble_eq_true rfl) rfl (fun p e s m args below meth c hs hin hA hs0 H locs ls hR hS hl => ?_)
  obtain ⟨hx, hb, hml, hown, hF, hlk, hr⟩ := id hs
  have hl : lv_has ls 1 [(0, .ref (X.1 78))] := hl
  refine lv_aload_n hx hb dX4_init_0 rfl (lv_at hl 0 rfl) ?_
  refine p_sz (n0 := 78 + 1) (n := (78 + 1)) hs0 (by omega) (Or.inl (by omega)) hR (fun hz => ?_)
  refine p_callN hx hb hml hown hF hA hz hR hS (k_X7_init_X4 l X O) mw_1_199 mw_1_6 mw_1_198 9 rfl rfl hdS_X7_init ⟨Nat.le_of_ble_eq_true rfl, Nat.le_of_ble_eq_true rfl⟩ rfl hl.1 rfl (Nat.le_of_ble_eq_true rfl) dX4_init_1 ⟨Nat.le_of_ble_eq_true rfl, Nat.le_of_ble_eq_true rfl⟩ (fun H locs hR hS => ?_)
  have hR : pR X s H (78 + 1) (oU O 78 (.inr (4, [.ref (X.2.2.2.1 6), .int 0, .int 0, .int (-1)]))) := hR
  refine W.widen (k := 0) (n := 0) (by omega) (by omega) ?_
  exact p_vr hx hb hlk hr (hR.drop (hO _ (by omega)) rfl) hS dX4_init_4
set_option maxRecDepth 100000 in
set_option maxHeartbeats 4000000 in
theorem k_X8_init (l : Launch) (X : mX) (k : Nat) (hk : isWorld k) (O : Nat → Option va_E) (hO : ∀ j, k ≤ j → O j = none) : pM l yX8_init cX8_init 1 2 82 31 1288 X [.ref (X.1 k)] O k (k + 32) (.inr (7, [.null, .int 0, .null, .null, .null, .null, .int 0, .null, .int 0, .null, .null, .null, .null])) := by
  refine p_of (by decide +kernel) rfl (Nat.le_of_ble_eq_true rfl) rfl (fun p e s m args below meth c hs hin hA hs0 H locs ls hR hS hl => ?_)
  obtain ⟨hx, hb, hml, hown, hF, hlk, hr⟩ := id hs
  have hl : lv_has ls 1 [(0, .ref (X.1 k))] := hl
  refine lv_aload_n hx hb dX8_init_0 rfl (lv_at hl 0 rfl) ?_
  refine p_obj hx hb hml hF hown mw_1_33 mw_1_26 mw_1_27 hl.1 dX8_init_1 (Nat.le_of_ble_eq_true rfl) (Nat.le_of_ble_eq_true rfl) ?_
  refine lv_aload_n hx hb dX8_init_4 rfl (lv_at hl 0 rfl) ?_
  refine p_sz (n0 := k + 1) (n := (k + 1)) hs0 (by omega) (Or.inl (by omega)) hR (fun hz => ?_)
  refine p_new (C := RX0) (T := TX0) (N := 8) (ci := 0) (fs := [.int 0, .null, .null, .null, .null, .null, .null, .null]) hx hb hF hown hz hR hS rfl tyX0_ok (by decide) mw_1_34 mw_1_35 mw_1_3 (Nat.le_of_ble_eq_true rfl) (Nat.le_of_ble_eq_true rfl) dX8_init_5 (fun H hz hR hS => ?_)
  refine lv_dup hx hb dX8_init_8 rfl ?_
  have hz : H.size = X.1 ((k + 1) + 1) := hz
  refine p_callI hx hb hml hown hF hA hz hR hS (k_X0_init l X (k + 1) (by unfold isBody at *; unfold isWorld at *; omega) (oU O k (.inr (7, [.null, .int 0, .null, .null, .null, .null, .int 0, .null, .int 0, .null, .null, .null, .null]))) (fun j hj => by rw [oU_n (by omega)]; exact hO _ (by omega))) mw_1_38 mw_1_3 mw_1_37 mw_1_36 rfl hdS_X0_init ⟨Nat.le_of_ble_eq_true rfl, Nat.le_of_ble_eq_true rfl⟩ rfl hl.1 rfl (Nat.le_of_ble_eq_true rfl) dX8_init_9 ⟨Nat.le_of_ble_eq_true rfl, Nat.le_of_ble_eq_true rfl⟩ (fun H locs hR hS => ?_)
  have hR : pR X s H (k + 9) (oU O k (.inr (7, [.null, .int 0, .null, .null, .null, .null, .int 0, .null, .int 0, .null, .null, .null, .null]))) := hR
  refine p_putF (C := RX8) (T := TX8) (N := 13) hx hb hF hown hR hS (by omega) rfl rfl tyX8_ok nmX8 0 (by decide) mw_1_116 rfl rfl hin rfl rfl rfl rfl (Nat.le_of_ble_eq_true rfl) dX8_init_12 (fun H locs hR hS => ?_)
  have hR : pR X s H (k + 9) (oU O k (.inr (7, [.ref (X.1 (k + 1)), .int 0, .null, .null, .null, .null, .int 0, .null, .int 0, .null, .null, .null, .null]))) := hR
  refine lv_aload_n hx hb dX8_init_15 rfl (lv_at hl 0 rfl) ?_
  refine lv_bipush (v := 16) hx hb dX8_init_16 (by decide) ?_
  refine p_sz (n0 := k + 1) (n := (k + 9)) hs0 (by omega) (Or.inl (by omega)) hR (fun hz => ?_)
  refine p_newa hx hb hz hR hS (atype := .int) hA.i (ty := .int) rfl 0 rfl (fun h => h) (a0 := (16, .inl (fun _ => 0))) (N := 16) (fun _ => rfl) (by decide) (by decide) (by decide) (Nat.le_of_ble_eq_true rfl) (Nat.le_of_ble_eq_true rfl) dX8_init_18 (fun H hz hR hS => ?_)
  have hR : pR X s H (k + 10) (oU O k (.inr (7, [.ref (X.1 (k + 1)), .int 0, .null, .null, .null, .null, .int 0, .null, .int 0, .null, .null, .null, .null]))) := hR.drop (by rw [oU_n (by omega)]; exact hO _ (by omega)) (by unfold isWorld at hk; rcases hk with rfl | rfl <;> rfl)
  refine p_putF (C := RX8) (T := TX8) (N := 13) hx hb hF hown hR hS (by omega) rfl rfl tyX8_ok nmX8 2 (by decide) mw_1_123 rfl rfl hin rfl rfl rfl rfl (Nat.le_of_ble_eq_true rfl) dX8_init_20 (fun H locs hR hS => ?_)
  have hR : pR X s H (k + 10) (oU O k (.inr (7, [.ref (X.1 (k + 1)), .int 0, .ref (X.1 (k + 9)), .null, .null, .null, .int 0, .null, .int 0, .null, .null, .null, .null]))) := hR
  refine lv_aload_n hx hb dX8_init_23 rfl (lv_at hl 0 rfl) ?_
  refine lv_bipush (v := 16) hx hb dX8_init_24 (by decide) ?_
  refine p_sz (n0 := k + 1) (n := (k + 10)) hs0 (by omega) (Or.inl (by omega)) hR (fun hz => ?_)
  refine p_newa hx hb hz hR hS (atype := .int) hA.i (ty := .int) rfl 0 rfl (fun h => h) (a0 := (16, .inl (fun _ => 0))) (N := 16) (fun _ => rfl) (by decide) (by decide) (by decide) (Nat.le_of_ble_eq_true rfl) (Nat.le_of_ble_eq_true rfl) dX8_init_26 (fun H hz hR hS => ?_)
  have hR : pR X s H (k + 11) (oU O k (.inr (7, [.ref (X.1 (k + 1)), .int 0, .ref (X.1 (k + 9)), .null, .null, .null, .int 0, .null, .int 0, .null, .null, .null, .null]))) := hR.drop (by rw [oU_n (by omega)]; exact hO _ (by omega)) (by unfold isWorld at hk; rcases hk with rfl | rfl <;> rfl)
  refine p_putF (C := RX8) (T := TX8) (N := 13) hx hb hF hown hR hS (by omega) rfl rfl tyX8_ok nmX8 3 (by decide) mw_1_126 rfl rfl hin rfl rfl rfl rfl (Nat.le_of_ble_eq_true rfl) dX8_init_28 (fun H locs hR hS => ?_)
  have hR : pR X s H (k + 11) (oU O k (.inr (7, [.ref (X.1 (k + 1)), .int 0, .ref (X.1 (k + 9)), .ref (X.1 (k + 10)), .null, .null, .int 0, .null, .int 0, .null, .null, .null, .null]))) := hR
  refine lv_aload_n hx hb dX8_init_31 rfl (lv_at hl 0 rfl) ?_
  refine lv_bipush (v := 16) hx hb dX8_init_32 (by decide) ?_
  refine p_sz (n0 := k + 1) (n := (k + 11)) hs0 (by omega) (Or.inl (by omega)) hR (fun hz => ?_)
  refine p_newa hx hb hz hR hS (atype := .int) hA.i (ty := .int) rfl 0 rfl (fun h => h) (a0 := (16, .inl (fun _ => 0))) (N := 16) (fun _ => rfl) (by decide) (by decide) (by decide) (Nat.le_of_ble_eq_true rfl) (Nat.le_of_ble_eq_true rfl) dX8_init_34 (fun H hz hR hS => ?_)
  have hR : pR X s H (k + 12) (oU O k (.inr (7, [.ref (X.1 (k + 1)), .int 0, .ref (X.1 (k + 9)), .ref (X.1 (k + 10)), .null, .null, .int 0, .null, .int 0, .null, .null, .null, .null]))) := hR.drop (by rw [oU_n (by omega)]; exact hO _ (by omega)) (by unfold isWorld at hk; rcases hk with rfl | rfl <;> rfl)
  refine p_putF (C := RX8) (T := TX8) (N := 13) hx hb hF hown hR hS (by omega) rfl rfl tyX8_ok nmX8 4 (by decide) mw_1_128 rfl rfl hin rfl rfl rfl rfl (Nat.le_of_ble_eq_true rfl) dX8_init_36 (fun H locs hR hS => ?_)
  have hR : pR X s H (k + 12) (oU O k (.inr (7, [.ref (X.1 (k + 1)), .int 0, .ref (X.1 (k + 9)), .ref (X.1 (k + 10)), .ref (X.1 (k + 11)), .null, .int 0, .null, .int 0, .null, .null, .null, .null]))) := hR
  refine lv_aload_n hx hb dX8_init_39 rfl (lv_at hl 0 rfl) ?_
  refine lv_bipush (v := 16) hx hb dX8_init_40 (by decide) ?_
  refine p_sz (n0 := k + 1) (n := (k + 12)) hs0 (by omega) (Or.inl (by omega)) hR (fun hz => ?_)
  refine p_newa hx hb hz hR hS (atype := .int) hA.i (ty := .int) rfl 0 rfl (fun h => h) (a0 := (16, .inl (fun _ => 0))) (N := 16) (fun _ => rfl) (by decide) (by decide) (by decide) (Nat.le_of_ble_eq_true rfl) (Nat.le_of_ble_eq_true rfl) dX8_init_42 (fun H hz hR hS => ?_)
  have hR : pR X s H (k + 13) (oU O k (.inr (7, [.ref (X.1 (k + 1)), .int 0, .ref (X.1 (k + 9)), .ref (X.1 (k + 10)), .ref (X.1 (k + 11)), .null, .int 0, .null, .int 0, .null, .null, .null, .null]))) := hR.drop (by rw [oU_n (by omega)]; exact hO _ (by omega)) (by unfold isWorld at hk; rcases hk with rfl | rfl <;> rfl)
  refine p_putF (C := RX8) (T := TX8) (N := 13) hx hb hF hown hR hS (by omega) rfl rfl tyX8_ok nmX8 5 (by decide) mw_1_131 rfl rfl hin rfl rfl rfl rfl (Nat.le_of_ble_eq_true rfl) dX8_init_44 (fun H locs hR hS => ?_)
  have hR : pR X s H (k + 13) (oU O k (.inr (7, [.ref (X.1 (k + 1)), .int 0, .ref (X.1 (k + 9)), .ref (X.1 (k + 10)), .ref (X.1 (k + 11)), .ref (X.1 (k + 12)), .int 0, .null, .int 0, .null, .null, .null, .null]))) := hR
  refine lv_aload_n hx hb dX8_init_47 rfl (lv_at hl 0 rfl) ?_
  refine lv_bipush (v := 16) hx hb dX8_init_48 (by decide) ?_
  refine p_sz (n0 := k + 1) (n := (k + 13)) hs0 (by omega) (Or.inl (by omega)) hR (fun hz => ?_)
  refine p_newa hx hb hz hR hS (atype := .long) hA.j (ty := .long) rfl 2 rfl (fun h => h) (a0 := (16, .inr (.inl (fun _ => 0)))) (N := 16) (fun _ => rfl) (by decide) (by decide) (by decide) (Nat.le_of_ble_eq_true rfl) (Nat.le_of_ble_eq_true rfl) dX8_init_50 (fun H hz hR hS => ?_)
  have hR : pR X s H (k + 14) (oU O k (.inr (7, [.ref (X.1 (k + 1)), .int 0, .ref (X.1 (k + 9)), .ref (X.1 (k + 10)), .ref (X.1 (k + 11)), .ref (X.1 (k + 12)), .int 0, .null, .int 0, .null, .null, .null, .null]))) := hR.drop (by rw [oU_n (by omega)]; exact hO _ (by omega)) (by unfold isWorld at hk; rcases hk with rfl | rfl <;> rfl)
  refine p_putF (C := RX8) (T := TX8) (N := 13) hx hb hF hown hR hS (by omega) rfl rfl tyX8_ok nmX8 7 (by decide) mw_1_136 rfl rfl hin rfl rfl rfl rfl (Nat.le_of_ble_eq_true rfl) dX8_init_52 (fun H locs hR hS => ?_)
  have hR : pR X s H (k + 14) (oU O k (.inr (7, [.ref (X.1 (k + 1)), .int 0, .ref (X.1 (k + 9)), .ref (X.1 (k + 10)), .ref (X.1 (k + 11)), .ref (X.1 (k + 12)), .int 0, .ref (X.1 (k + 13)), .int 0, .null, .null, .null, .null]))) := hR
  refine lv_aload_n hx hb dX8_init_55 rfl (lv_at hl 0 rfl) ?_
  refine lv_bipush (v := 8) hx hb dX8_init_56 (by decide) ?_
  refine lv_bipush (v := 90) hx hb dX8_init_58 (by decide) ?_
  refine p_sz (n0 := k + 1) (n := (k + 14)) hs0 (by omega) (Or.inl (by omega)) hR (fun hz => ?_)
  refine p_mna hx hb hF hown hz hR hS mw_1_92 hA.i (fun j hj => by rw [oU_n (by omega)]; exact hO _ (by omega)) (by unfold isWorld at hk; rcases hk with rfl | rfl <;> rfl) (fun i hi => pEnt90 hk hi) (Nat.le_of_ble_eq_true rfl) (Nat.le_of_ble_eq_true rfl) dX8_init_60 (fun H hz hR hS => ?_)
  have hR : pR X s H (k + 23) (oU O k (.inr (7, [.ref (X.1 (k + 1)), .int 0, .ref (X.1 (k + 9)), .ref (X.1 (k + 10)), .ref (X.1 (k + 11)), .ref (X.1 (k + 12)), .int 0, .ref (X.1 (k + 13)), .int 0, .null, .null, .null, .null]))) := hR
  refine p_putF (C := RX8) (T := TX8) (N := 13) hx hb hF hown hR hS (by omega) rfl rfl tyX8_ok nmX8 9 (by decide) mw_1_139 rfl rfl hin rfl rfl rfl rfl (Nat.le_of_ble_eq_true rfl) dX8_init_64 (fun H locs hR hS => ?_)
  have hR : pR X s H (k + 23) (oU O k (.inr (7, [.ref (X.1 (k + 1)), .int 0, .ref (X.1 (k + 9)), .ref (X.1 (k + 10)), .ref (X.1 (k + 11)), .ref (X.1 (k + 12)), .int 0, .ref (X.1 (k + 13)), .int 0, .ref (X.1 (k + 14)), .null, .null, .null]))) := hR
  refine lv_aload_n hx hb dX8_init_67 rfl (lv_at hl 0 rfl) ?_
  refine lv_bipush (v := 8) hx hb dX8_init_68 (by decide) ?_
  refine p_sz (n0 := k + 1) (n := (k + 23)) hs0 (by omega) (Or.inl (by omega)) hR (fun hz => ?_)
  refine p_newa hx hb hz hR hS (atype := .int) hA.i (ty := .int) rfl 0 rfl (fun h => h) (a0 := (8, .inl (fun _ => 0))) (N := 8) (fun _ => rfl) (by decide) (by decide) (by decide) (Nat.le_of_ble_eq_true rfl) (Nat.le_of_ble_eq_true rfl) dX8_init_70 (fun H hz hR hS => ?_)
  have hR : pR X s H (k + 24) (oU O k (.inr (7, [.ref (X.1 (k + 1)), .int 0, .ref (X.1 (k + 9)), .ref (X.1 (k + 10)), .ref (X.1 (k + 11)), .ref (X.1 (k + 12)), .int 0, .ref (X.1 (k + 13)), .int 0, .ref (X.1 (k + 14)), .null, .null, .null]))) := hR.drop (by rw [oU_n (by omega)]; exact hO _ (by omega)) (by unfold isWorld at hk; rcases hk with rfl | rfl <;> rfl)
  refine p_putF (C := RX8) (T := TX8) (N := 13) hx hb hF hown hR hS (by omega) rfl rfl tyX8_ok nmX8 10 (by decide) mw_1_141 rfl rfl hin rfl rfl rfl rfl (Nat.le_of_ble_eq_true rfl) dX8_init_72 (fun H locs hR hS => ?_)
  have hR : pR X s H (k + 24) (oU O k (.inr (7, [.ref (X.1 (k + 1)), .int 0, .ref (X.1 (k + 9)), .ref (X.1 (k + 10)), .ref (X.1 (k + 11)), .ref (X.1 (k + 12)), .int 0, .ref (X.1 (k + 13)), .int 0, .ref (X.1 (k + 14)), .ref (X.1 (k + 23)), .null, .null]))) := hR
  refine lv_aload_n hx hb dX8_init_75 rfl (lv_at hl 0 rfl) ?_
  refine p_sz (n0 := k + 1) (n := (k + 24)) hs0 (by omega) (Or.inl (by omega)) hR (fun hz => ?_)
  refine p_new (C := RX2) (T := TX2) (N := 4) (ci := 2) (fs := [.int 0, .null, .null, .null]) hx hb hF hown hz hR hS rfl tyX2_ok (by decide) mw_1_94 mw_1_95 mw_1_4 (Nat.le_of_ble_eq_true rfl) (Nat.le_of_ble_eq_true rfl) dX8_init_76 (fun H hz hR hS => ?_)
  refine lv_dup hx hb dX8_init_79 rfl ?_
  have hz : H.size = X.1 ((k + 24) + 1) := hz
  refine p_callN hx hb hml hown hF hA hz hR hS (k_X2_init l X (k + 24) (by unfold isNotes at *; unfold isWorld at *; omega) (oU O k (.inr (7, [.ref (X.1 (k + 1)), .int 0, .ref (X.1 (k + 9)), .ref (X.1 (k + 10)), .ref (X.1 (k + 11)), .ref (X.1 (k + 12)), .int 0, .ref (X.1 (k + 13)), .int 0, .ref (X.1 (k + 14)), .ref (X.1 (k + 23)), .null, .null]))) (fun j hj => by rw [oU_n (by omega)]; exact hO _ (by omega))) mw_1_98 mw_1_4 mw_1_97 3 rfl rfl hdS_X2_init ⟨Nat.le_of_ble_eq_true rfl, Nat.le_of_ble_eq_true rfl⟩ rfl hl.1 rfl (Nat.le_of_ble_eq_true rfl) dX8_init_80 ⟨Nat.le_of_ble_eq_true rfl, Nat.le_of_ble_eq_true rfl⟩ (fun H locs hR hS => ?_)
  have hR : pR X s H (k + 28) (oU O k (.inr (7, [.ref (X.1 (k + 1)), .int 0, .ref (X.1 (k + 9)), .ref (X.1 (k + 10)), .ref (X.1 (k + 11)), .ref (X.1 (k + 12)), .int 0, .ref (X.1 (k + 13)), .int 0, .ref (X.1 (k + 14)), .ref (X.1 (k + 23)), .null, .null]))) := hR
  refine p_putF (C := RX8) (T := TX8) (N := 13) hx hb hF hown hR hS (by omega) rfl rfl tyX8_ok nmX8 11 (by decide) mw_1_143 rfl rfl hin rfl rfl rfl rfl (Nat.le_of_ble_eq_true rfl) dX8_init_83 (fun H locs hR hS => ?_)
  have hR : pR X s H (k + 28) (oU O k (.inr (7, [.ref (X.1 (k + 1)), .int 0, .ref (X.1 (k + 9)), .ref (X.1 (k + 10)), .ref (X.1 (k + 11)), .ref (X.1 (k + 12)), .int 0, .ref (X.1 (k + 13)), .int 0, .ref (X.1 (k + 14)), .ref (X.1 (k + 23)), .ref (X.1 (k + 24)), .null]))) := hR
  refine lv_aload_n hx hb dX8_init_86 rfl (lv_at hl 0 rfl) ?_
  refine p_sz (n0 := k + 1) (n := (k + 28)) hs0 (by omega) (Or.inl (by omega)) hR (fun hz => ?_)
  refine p_new (C := RX2) (T := TX2) (N := 4) (ci := 2) (fs := [.int 0, .null, .null, .null]) hx hb hF hown hz hR hS rfl tyX2_ok (by decide) mw_1_94 mw_1_95 mw_1_4 (Nat.le_of_ble_eq_true rfl) (Nat.le_of_ble_eq_true rfl) dX8_init_87 (fun H hz hR hS => ?_)
  refine lv_dup hx hb dX8_init_90 rfl ?_
  have hz : H.size = X.1 ((k + 28) + 1) := hz
  refine p_callN hx hb hml hown hF hA hz hR hS (k_X2_init l X (k + 28) (by unfold isNotes at *; unfold isWorld at *; omega) (oU O k (.inr (7, [.ref (X.1 (k + 1)), .int 0, .ref (X.1 (k + 9)), .ref (X.1 (k + 10)), .ref (X.1 (k + 11)), .ref (X.1 (k + 12)), .int 0, .ref (X.1 (k + 13)), .int 0, .ref (X.1 (k + 14)), .ref (X.1 (k + 23)), .ref (X.1 (k + 24)), .null]))) (fun j hj => by rw [oU_n (by omega)]; exact hO _ (by omega))) mw_1_98 mw_1_4 mw_1_97 3 rfl rfl hdS_X2_init ⟨Nat.le_of_ble_eq_true rfl, Nat.le_of_ble_eq_true rfl⟩ rfl hl.1 rfl (Nat.le_of_ble_eq_true rfl) dX8_init_91 ⟨Nat.le_of_ble_eq_true rfl, Nat.le_of_ble_eq_true rfl⟩ (fun H locs hR hS => ?_)
  have hR : pR X s H (k + 32) (oU O k (.inr (7, [.ref (X.1 (k + 1)), .int 0, .ref (X.1 (k + 9)), .ref (X.1 (k + 10)), .ref (X.1 (k + 11)), .ref (X.1 (k + 12)), .int 0, .ref (X.1 (k + 13)), .int 0, .ref (X.1 (k + 14)), .ref (X.1 (k + 23)), .ref (X.1 (k + 24)), .null]))) := hR
  refine p_putF (C := RX8) (T := TX8) (N := 13) hx hb hF hown hR hS (by omega) rfl rfl tyX8_ok nmX8 12 (by decide) mw_1_145 rfl rfl hin rfl rfl rfl rfl (Nat.le_of_ble_eq_true rfl) dX8_init_94 (fun H locs hR hS => ?_)
  have hR : pR X s H (k + 32) (oU O k (.inr (7, [.ref (X.1 (k + 1)), .int 0, .ref (X.1 (k + 9)), .ref (X.1 (k + 10)), .ref (X.1 (k + 11)), .ref (X.1 (k + 12)), .int 0, .ref (X.1 (k + 13)), .int 0, .ref (X.1 (k + 14)), .ref (X.1 (k + 23)), .ref (X.1 (k + 24)), .ref (X.1 (k + 28))]))) := hR
  refine W.widen (k := 31) (n := 1288) (by omega) (by omega) ?_
  exact p_vr hx hb hlk hr (hR.drop (hO _ (by omega)) (by unfold isWorld at hk; rcases hk with rfl | rfl <;> rfl)) hS dX8_init_97
set_option maxRecDepth 100000 in
set_option maxHeartbeats 4000000 in
theorem k_X9_loop {l : Launch} {X : mX} {p : Program} {e : Env} {s : State} {m : MethodId} {args : Array Value} {below : List Frame} {meth : Method} {c : Code} {O : Nat → Option va_E} (hO : ∀ j, 0 ≤ j → O j = none) (hs : mS X RX9 cX9_init 2 none p s m meth c) (hA : mA3 s) (hs0 : s.heap.size = X.1 (0 + 1)) : ∀ (d i : Nat), i + d = 8 → ∀ (H : Heap) (locs : List Loc) (ls : Array Slot), pR X s H (80 + 2 * i) (oU (oU O 79 (.inl (X.2.2.1 3, 8, .inr (.inr (.inr (.inr (gS X i))))))) 0 (.inr (8, [.ref (X.1 (0 + 1)), .ref (X.1 (0 + 33)), .int 0, .ref (X.1 (0 + 65)), .ref (X.1 (0 + 73)), .ref (X.1 (0 + 76)), .ref (X.1 (0 + 77)), .ref (X.1 (0 + 78)), .ref (X.1 (0 + 79))]))) → va_S (mL X) s.heap H locs → lv_has ls 2 [(1, .int (nI i)), (0, .ref (X.1 0))] → W p l e (pRm 3 102 95 3758) s m args below meth c H locs (79 + 2 * i) (2974 + 98 * i) (MQ below (pQ X 96 O) args s 95 3758 (mL X)) (F0 m 100 ls []) := by
  obtain ⟨hx, hb, hml, hown, hF, hlk, hr⟩ := id hs
  intro d
  induction d with
  | zero =>
    intro i hi H locs ls hR hS hl
    have hi : i = 8 := by omega
    subst hi
    refine lv_iload_n hx hb dX9_init_100 rfl (lv_at hl 0 rfl) ?_
    refine lv_bipush (v := 8) hx hb dX9_init_101 (by decide) ?_
    refine lv_icmp_ge (tgt := 125) hx hb dX9_init_103 (by decide) (fun c1 => ?_) (fun c1 => absurd (by decide) c1)
    rw [gS_8] at hR
    have hR := hR.drop (by rw [oU_n (by omega)]; exact hO _ (by omega)) rfl
    have hR := hR.drop (hO _ (by omega)) rfl
    exact p_vr hx hb hlk hr hR hS dX9_init_125
  | succ d ih =>
    intro i hi H locs ls hR hS hl
    have hi1 : i < 8 := by omega
    refine lv_iload_n hx hb dX9_init_100 rfl (lv_at hl 0 rfl) ?_
    refine lv_bipush (v := 8) hx hb dX9_init_101 (by decide) ?_
    refine lv_icmp_ge (tgt := 125) hx hb dX9_init_103 (by decide) (fun c1 => absurd c1 (nI_ge (b := 8) hi1 (by decide))) (fun c1 => ?_)
    refine lv_aload_n hx hb dX9_init_106 rfl (lv_at hl 1 rfl) ?_
    refine p_get (C := RX9) (T := TX9) (N := 9) hx hb hF hown hR (by omega) oU_s rfl 8 (by decide) mw_2_50 rfl (v := .ref (X.1 79)) rfl dX9_init_107 ?_
    refine lv_iload_n hx hb dX9_init_110 rfl (lv_at hl 0 rfl) ?_
    refine p_sz (n0 := 0 + 1) (n := 80 + 2 * i) hs0 (by omega) (Or.inl (by omega)) hR (fun hz => ?_)
    refine p_new (C := RX6) (T := TX6) (N := 8) (ci := 6) (fs := [.int 0, .int 0, .null, .int 0, .int 0, .int 0, .int 0, .int 0]) hx hb hF hown hz hR hS rfl tyX6_ok (by decide) mw_2_1 mw_2_3 mw_1_10 (by simp only [pRm]; omega) (by simp only [pRm]; omega) dX9_init_111 (fun H hz hR hS => ?_)
    refine lv_dup hx hb dX9_init_114 rfl ?_
    refine p_callN hx hb hml hown hF hA hz hR hS (k_X6_init l X (80 + 2 * i) (by unfold isShelf; omega) (oU (oU O 79 (.inl (X.2.2.1 3, 8, .inr (.inr (.inr (.inr (gS X i))))))) 0 (.inr (8, [.ref (X.1 (0 + 1)), .ref (X.1 (0 + 33)), .int 0, .ref (X.1 (0 + 65)), .ref (X.1 (0 + 73)), .ref (X.1 (0 + 76)), .ref (X.1 (0 + 77)), .ref (X.1 (0 + 78)), .ref (X.1 (0 + 79))]))) (fun j hj => by rw [oU_n (by omega), oU_n (by omega)]; exact hO _ (by omega))) mw_2_6 mw_1_10 mw_2_5 10 rfl rfl hdS_X6_init ⟨Nat.le_of_ble_eq_true rfl, Nat.le_of_ble_eq_true rfl⟩ rfl hl.1 rfl (Nat.le_of_ble_eq_true rfl) dX9_init_115 ⟨by simp only [pRm]; omega, by simp only [pRm]; omega⟩ (fun H locs hR hS => ?_)
    refine p_aast (q := 79) (q2 := 80 + 2 * i) (N := 8) hx hb hR hS (by omega) (by omega) ((oU_n (by omega)).trans oU_s) (fs := fs6 X M0 (80 + 2 * i)) (by rw [oU_n (by omega), oU_n (by omega), hO _ (by omega)]; exact ent6 (n := 0) (kShelf0 (by unfold isShelf; omega))) (vp_in_nI hi1 (by omega)) dX9_init_118 (fun H locs hR hS => ?_)
    have hR := (pR.sw (by omega) hR).uu'
    rw [nI_clamp (by omega), gS_up hi1] at hR
    refine lv_iinc (v := nI (i + 1)) (lv' := [(1, .int (nI (i + 1))), (0, .ref (X.1 0))]) hx hb dX9_init_119 hl (k := 0) rfl (nI_1 i) (by decide) rfl (fun ls hl => ?_)
    refine lv_goto (tgt := 100) hx hb dX9_init_122 (by decide) ?_
    refine W.widen (k := 79 + 2 * (i + 1)) (n := 2974 + 98 * (i + 1)) (by omega) (by omega) ?_
    exact ih (i + 1) (by omega) H locs ls hR hS (lv_sub hl [0, 1] rfl)

set_option maxRecDepth 100000 in
set_option maxHeartbeats 4000000 in
theorem k_X9_init (l : Launch) (X : mX) (O : Nat → Option va_E) (hO : ∀ j, 0 ≤ j → O j = none) : pM l yX9_init cX9_init 2 3 102 95 3758 X [.ref (X.1 0)] O 0 (0 + 96) (.inr (8, [.null, .null, .int 0, .null, .null, .null, .null, .null, .null])) := by
  refine p_of (by decide +kernel) rfl (Nat.le_of_ble_eq_true rfl) rfl (fun p e s m args below meth c hs hin hA hs0 H locs ls hR hS hl => ?_)
  obtain ⟨hx, hb, hml, hown, hF, hlk, hr⟩ := id hs
  have hl : lv_has ls 2 [(0, .ref (X.1 0))] := hl
  refine lv_aload_n hx hb dX9_init_0 rfl (lv_at hl 0 rfl) ?_
  refine p_obj hx hb hml hF hown mw_1_25 mw_1_26 mw_1_27 hl.1 dX9_init_1 (Nat.le_of_ble_eq_true rfl) (Nat.le_of_ble_eq_true rfl) ?_
  refine lv_aload_n hx hb dX9_init_4 rfl (lv_at hl 0 rfl) ?_
  refine p_sz (n0 := 0 + 1) (n := (0 + 1)) hs0 (by omega) (Or.inl (by omega)) hR (fun hz => ?_)
  refine p_new (C := RX8) (T := TX8) (N := 13) (ci := 7) (fs := [.null, .int 0, .null, .null, .null, .null, .int 0, .null, .int 0, .null, .null, .null, .null]) hx hb hF hown hz hR hS rfl tyX8_ok (by decide) mw_1_28 mw_1_29 mw_1_2 (Nat.le_of_ble_eq_true rfl) (Nat.le_of_ble_eq_true rfl) dX9_init_5 (fun H hz hR hS => ?_)
  refine lv_dup hx hb dX9_init_8 rfl ?_
  have hz : H.size = X.1 ((0 + 1) + 1) := hz
  refine p_callN hx hb hml hown hF hA hz hR hS (k_X8_init l X (0 + 1) (by unfold isWorld at *; omega) (oU O 0 (.inr (8, [.null, .null, .int 0, .null, .null, .null, .null, .null, .null]))) (fun j hj => by rw [oU_n (by omega)]; exact hO _ (by omega))) mw_1_32 mw_1_2 mw_1_31 0 rfl rfl hdS_X8_init ⟨Nat.le_of_ble_eq_true rfl, Nat.le_of_ble_eq_true rfl⟩ rfl hl.1 rfl (Nat.le_of_ble_eq_true rfl) dX9_init_9 ⟨Nat.le_of_ble_eq_true rfl, Nat.le_of_ble_eq_true rfl⟩ (fun H locs hR hS => ?_)
  have hR : pR X s H (0 + 33) (oU O 0 (.inr (8, [.null, .null, .int 0, .null, .null, .null, .null, .null, .null]))) := hR
  refine p_putF (C := RX9) (T := TX9) (N := 9) hx hb hF hown hR hS (by omega) rfl rfl tyX9_ok nmX9 0 (by decide) mw_2_42 rfl rfl hin rfl rfl rfl rfl (Nat.le_of_ble_eq_true rfl) dX9_init_12 (fun H locs hR hS => ?_)
  have hR : pR X s H (0 + 33) (oU O 0 (.inr (8, [.ref (X.1 (0 + 1)), .null, .int 0, .null, .null, .null, .null, .null, .null]))) := hR
  refine lv_aload_n hx hb dX9_init_15 rfl (lv_at hl 0 rfl) ?_
  refine p_sz (n0 := 0 + 1) (n := (0 + 33)) hs0 (by omega) (Or.inl (by omega)) hR (fun hz => ?_)
  refine p_new (C := RX8) (T := TX8) (N := 13) (ci := 7) (fs := [.null, .int 0, .null, .null, .null, .null, .int 0, .null, .int 0, .null, .null, .null, .null]) hx hb hF hown hz hR hS rfl tyX8_ok (by decide) mw_1_28 mw_1_29 mw_1_2 (Nat.le_of_ble_eq_true rfl) (Nat.le_of_ble_eq_true rfl) dX9_init_16 (fun H hz hR hS => ?_)
  refine lv_dup hx hb dX9_init_19 rfl ?_
  have hz : H.size = X.1 ((0 + 33) + 1) := hz
  refine p_callN hx hb hml hown hF hA hz hR hS (k_X8_init l X (0 + 33) (by unfold isWorld at *; omega) (oU O 0 (.inr (8, [.ref (X.1 (0 + 1)), .null, .int 0, .null, .null, .null, .null, .null, .null]))) (fun j hj => by rw [oU_n (by omega)]; exact hO _ (by omega))) mw_1_32 mw_1_2 mw_1_31 0 rfl rfl hdS_X8_init ⟨Nat.le_of_ble_eq_true rfl, Nat.le_of_ble_eq_true rfl⟩ rfl hl.1 rfl (Nat.le_of_ble_eq_true rfl) dX9_init_20 ⟨Nat.le_of_ble_eq_true rfl, Nat.le_of_ble_eq_true rfl⟩ (fun H locs hR hS => ?_)
  have hR : pR X s H (0 + 65) (oU O 0 (.inr (8, [.ref (X.1 (0 + 1)), .null, .int 0, .null, .null, .null, .null, .null, .null]))) := hR
  refine p_putF (C := RX9) (T := TX9) (N := 9) hx hb hF hown hR hS (by omega) rfl rfl tyX9_ok nmX9 1 (by decide) mw_2_43 rfl rfl hin rfl rfl rfl rfl (Nat.le_of_ble_eq_true rfl) dX9_init_23 (fun H locs hR hS => ?_)
  have hR : pR X s H (0 + 65) (oU O 0 (.inr (8, [.ref (X.1 (0 + 1)), .ref (X.1 (0 + 33)), .int 0, .null, .null, .null, .null, .null, .null]))) := hR
  refine lv_aload_n hx hb dX9_init_26 rfl (lv_at hl 0 rfl) ?_
  refine p_sz (n0 := 0 + 1) (n := (0 + 65)) hs0 (by omega) (Or.inl (by omega)) hR (fun hz => ?_)
  refine p_new (C := RX0) (T := TX0) (N := 8) (ci := 0) (fs := [.int 0, .null, .null, .null, .null, .null, .null, .null]) hx hb hF hown hz hR hS rfl tyX0_ok (by decide) mw_1_174 mw_1_35 mw_1_3 (Nat.le_of_ble_eq_true rfl) (Nat.le_of_ble_eq_true rfl) dX9_init_27 (fun H hz hR hS => ?_)
  refine lv_dup hx hb dX9_init_30 rfl ?_
  have hz : H.size = X.1 ((0 + 65) + 1) := hz
  refine p_callI hx hb hml hown hF hA hz hR hS (k_X0_init l X (0 + 65) (by unfold isBody at *; omega) (oU O 0 (.inr (8, [.ref (X.1 (0 + 1)), .ref (X.1 (0 + 33)), .int 0, .null, .null, .null, .null, .null, .null]))) (fun j hj => by rw [oU_n (by omega)]; exact hO _ (by omega))) mw_1_38 mw_1_3 mw_1_37 mw_1_175 rfl hdS_X0_init ⟨Nat.le_of_ble_eq_true rfl, Nat.le_of_ble_eq_true rfl⟩ rfl hl.1 rfl (Nat.le_of_ble_eq_true rfl) dX9_init_31 ⟨Nat.le_of_ble_eq_true rfl, Nat.le_of_ble_eq_true rfl⟩ (fun H locs hR hS => ?_)
  have hR : pR X s H (0 + 73) (oU O 0 (.inr (8, [.ref (X.1 (0 + 1)), .ref (X.1 (0 + 33)), .int 0, .null, .null, .null, .null, .null, .null]))) := hR
  refine p_putF (C := RX9) (T := TX9) (N := 9) hx hb hF hown hR hS (by omega) rfl rfl tyX9_ok nmX9 3 (by decide) mw_2_45 rfl rfl hin rfl rfl rfl rfl (Nat.le_of_ble_eq_true rfl) dX9_init_34 (fun H locs hR hS => ?_)
  have hR : pR X s H (0 + 73) (oU O 0 (.inr (8, [.ref (X.1 (0 + 1)), .ref (X.1 (0 + 33)), .int 0, .ref (X.1 (0 + 65)), .null, .null, .null, .null, .null]))) := hR
  refine lv_aload_n hx hb dX9_init_37 rfl (lv_at hl 0 rfl) ?_
  refine p_sz (n0 := 0 + 1) (n := (0 + 73)) hs0 (by omega) (Or.inl (by omega)) hR (fun hz => ?_)
  refine p_new (C := RX3) (T := TX3) (N := 3) (ci := 3) (fs := [.null, .null, .null]) hx hb hF hown hz hR hS rfl tyX3_ok (by decide) mw_1_176 mw_1_177 mw_1_5 (Nat.le_of_ble_eq_true rfl) (Nat.le_of_ble_eq_true rfl) dX9_init_38 (fun H hz hR hS => ?_)
  refine lv_dup hx hb dX9_init_41 rfl ?_
  refine lv_aload_n hx hb dX9_init_42 rfl (lv_at hl 0 rfl) ?_
  refine p_get (C := RX9) (T := TX9) (N := 9) hx hb hF hown hR (by omega) (fs := [.ref (X.1 (0 + 1)), .ref (X.1 (0 + 33)), .int 0, .ref (X.1 (0 + 65)), .null, .null, .null, .null, .null]) ((oU_n (by omega)).trans oU_s) rfl 3 (by decide) mw_2_45 rfl (v := .ref (X.1 (0 + 65))) rfl dX9_init_43 ?_
  have hz : H.size = X.1 ((0 + 73) + 1) := hz
  refine p_callI hx hb hml hown hF hA hz hR hS (k_X3_init l X  (oU O 0 (.inr (8, [.ref (X.1 (0 + 1)), .ref (X.1 (0 + 33)), .int 0, .ref (X.1 (0 + 65)), .null, .null, .null, .null, .null]))) (fun j hj => by rw [oU_n (by omega)]; exact hO _ (by omega))) mw_1_180 mw_1_5 mw_1_179 mw_1_178 rfl hdS_X3_init ⟨Nat.le_of_ble_eq_true rfl, Nat.le_of_ble_eq_true rfl⟩ rfl hl.1 rfl (Nat.le_of_ble_eq_true rfl) dX9_init_46 ⟨Nat.le_of_ble_eq_true rfl, Nat.le_of_ble_eq_true rfl⟩ (fun H locs hR hS => ?_)
  have hR : pR X s H (0 + 76) (oU O 0 (.inr (8, [.ref (X.1 (0 + 1)), .ref (X.1 (0 + 33)), .int 0, .ref (X.1 (0 + 65)), .null, .null, .null, .null, .null]))) := hR
  refine p_putF (C := RX9) (T := TX9) (N := 9) hx hb hF hown hR hS (by omega) rfl rfl tyX9_ok nmX9 4 (by decide) mw_2_46 rfl rfl hin rfl rfl rfl rfl (Nat.le_of_ble_eq_true rfl) dX9_init_49 (fun H locs hR hS => ?_)
  have hR : pR X s H (0 + 76) (oU O 0 (.inr (8, [.ref (X.1 (0 + 1)), .ref (X.1 (0 + 33)), .int 0, .ref (X.1 (0 + 65)), .ref (X.1 (0 + 73)), .null, .null, .null, .null]))) := hR
  refine lv_aload_n hx hb dX9_init_52 rfl (lv_at hl 0 rfl) ?_
  refine p_sz (n0 := 0 + 1) (n := (0 + 76)) hs0 (by omega) (Or.inl (by omega)) hR (fun hz => ?_)
  refine p_new (C := RX1) (T := TX1) (N := 5) (ci := 1) (fs := [.null, .int 0, .int 0, .int 0, .null]) hx hb hF hown hz hR hS rfl tyX1_ok (by decide) mw_1_192 mw_1_193 mw_1_7 (Nat.le_of_ble_eq_true rfl) (Nat.le_of_ble_eq_true rfl) dX9_init_53 (fun H hz hR hS => ?_)
  refine lv_dup hx hb dX9_init_56 rfl ?_
  refine lv_aload_n hx hb dX9_init_57 rfl (lv_at hl 0 rfl) ?_
  refine p_get (C := RX9) (T := TX9) (N := 9) hx hb hF hown hR (by omega) (fs := [.ref (X.1 (0 + 1)), .ref (X.1 (0 + 33)), .int 0, .ref (X.1 (0 + 65)), .ref (X.1 (0 + 73)), .null, .null, .null, .null]) ((oU_n (by omega)).trans oU_s) rfl 0 (by decide) mw_2_42 rfl (v := .ref (X.1 (0 + 1))) rfl dX9_init_58 ?_
  have hz : H.size = X.1 ((0 + 76) + 1) := hz
  refine p_callI hx hb hml hown hF hA hz hR hS (k_X1_init l X  (oU O 0 (.inr (8, [.ref (X.1 (0 + 1)), .ref (X.1 (0 + 33)), .int 0, .ref (X.1 (0 + 65)), .ref (X.1 (0 + 73)), .null, .null, .null, .null]))) (fun j hj => by rw [oU_n (by omega)]; exact hO _ (by omega))) mw_1_196 mw_1_7 mw_1_195 mw_1_194 rfl hdS_X1_init ⟨Nat.le_of_ble_eq_true rfl, Nat.le_of_ble_eq_true rfl⟩ rfl hl.1 rfl (Nat.le_of_ble_eq_true rfl) dX9_init_61 ⟨Nat.le_of_ble_eq_true rfl, Nat.le_of_ble_eq_true rfl⟩ (fun H locs hR hS => ?_)
  have hR : pR X s H (0 + 77) (oU O 0 (.inr (8, [.ref (X.1 (0 + 1)), .ref (X.1 (0 + 33)), .int 0, .ref (X.1 (0 + 65)), .ref (X.1 (0 + 73)), .null, .null, .null, .null]))) := hR
  refine p_putF (C := RX9) (T := TX9) (N := 9) hx hb hF hown hR hS (by omega) rfl rfl tyX9_ok nmX9 5 (by decide) mw_2_47 rfl rfl hin rfl rfl rfl rfl (Nat.le_of_ble_eq_true rfl) dX9_init_64 (fun H locs hR hS => ?_)
  have hR : pR X s H (0 + 77) (oU O 0 (.inr (8, [.ref (X.1 (0 + 1)), .ref (X.1 (0 + 33)), .int 0, .ref (X.1 (0 + 65)), .ref (X.1 (0 + 73)), .ref (X.1 (0 + 76)), .null, .null, .null]))) := hR
  refine lv_aload_n hx hb dX9_init_67 rfl (lv_at hl 0 rfl) ?_
  refine p_sz (n0 := 0 + 1) (n := (0 + 77)) hs0 (by omega) (Or.inl (by omega)) hR (fun hz => ?_)
  refine p_new (C := RX5) (T := TX5) (N := 4) (ci := 5) (fs := [.null, .int 0, .int 0, .int 0]) hx hb hF hown hz hR hS rfl tyX5_ok (by decide) mw_1_219 mw_1_220 mw_1_8 (Nat.le_of_ble_eq_true rfl) (Nat.le_of_ble_eq_true rfl) dX9_init_68 (fun H hz hR hS => ?_)
  refine lv_dup hx hb dX9_init_71 rfl ?_
  have hz : H.size = X.1 ((0 + 77) + 1) := hz
  refine p_callN hx hb hml hown hF hA hz hR hS (k_X5_init l X  (oU O 0 (.inr (8, [.ref (X.1 (0 + 1)), .ref (X.1 (0 + 33)), .int 0, .ref (X.1 (0 + 65)), .ref (X.1 (0 + 73)), .ref (X.1 (0 + 76)), .null, .null, .null]))) (fun j hj => by rw [oU_n (by omega)]; exact hO _ (by omega))) mw_1_223 mw_1_8 mw_1_222 6 rfl rfl hdS_X5_init ⟨Nat.le_of_ble_eq_true rfl, Nat.le_of_ble_eq_true rfl⟩ rfl hl.1 rfl (Nat.le_of_ble_eq_true rfl) dX9_init_72 ⟨Nat.le_of_ble_eq_true rfl, Nat.le_of_ble_eq_true rfl⟩ (fun H locs hR hS => ?_)
  have hR : pR X s H (0 + 78) (oU O 0 (.inr (8, [.ref (X.1 (0 + 1)), .ref (X.1 (0 + 33)), .int 0, .ref (X.1 (0 + 65)), .ref (X.1 (0 + 73)), .ref (X.1 (0 + 76)), .null, .null, .null]))) := hR
  refine p_putF (C := RX9) (T := TX9) (N := 9) hx hb hF hown hR hS (by omega) rfl rfl tyX9_ok nmX9 6 (by decide) mw_2_48 rfl rfl hin rfl rfl rfl rfl (Nat.le_of_ble_eq_true rfl) dX9_init_75 (fun H locs hR hS => ?_)
  have hR : pR X s H (0 + 78) (oU O 0 (.inr (8, [.ref (X.1 (0 + 1)), .ref (X.1 (0 + 33)), .int 0, .ref (X.1 (0 + 65)), .ref (X.1 (0 + 73)), .ref (X.1 (0 + 76)), .ref (X.1 (0 + 77)), .null, .null]))) := hR
  refine lv_aload_n hx hb dX9_init_78 rfl (lv_at hl 0 rfl) ?_
  refine p_sz (n0 := 0 + 1) (n := (0 + 78)) hs0 (by omega) (Or.inl (by omega)) hR (fun hz => ?_)
  refine p_new (C := RX4) (T := TX4) (N := 4) (ci := 4) (fs := [.null, .int 0, .int 0, .int 0]) hx hb hF hown hz hR hS rfl tyX4_ok (by decide) mw_1_230 mw_1_231 mw_1_9 (Nat.le_of_ble_eq_true rfl) (Nat.le_of_ble_eq_true rfl) dX9_init_79 (fun H hz hR hS => ?_)
  refine lv_dup hx hb dX9_init_82 rfl ?_
  have hz : H.size = X.1 ((0 + 78) + 1) := hz
  refine p_callN hx hb hml hown hF hA hz hR hS (k_X4_init l X  (oU O 0 (.inr (8, [.ref (X.1 (0 + 1)), .ref (X.1 (0 + 33)), .int 0, .ref (X.1 (0 + 65)), .ref (X.1 (0 + 73)), .ref (X.1 (0 + 76)), .ref (X.1 (0 + 77)), .null, .null]))) (fun j hj => by rw [oU_n (by omega)]; exact hO _ (by omega))) mw_1_234 mw_1_9 mw_1_233 8 rfl rfl hdS_X4_init ⟨Nat.le_of_ble_eq_true rfl, Nat.le_of_ble_eq_true rfl⟩ rfl hl.1 rfl (Nat.le_of_ble_eq_true rfl) dX9_init_83 ⟨Nat.le_of_ble_eq_true rfl, Nat.le_of_ble_eq_true rfl⟩ (fun H locs hR hS => ?_)
  have hR : pR X s H (0 + 79) (oU O 0 (.inr (8, [.ref (X.1 (0 + 1)), .ref (X.1 (0 + 33)), .int 0, .ref (X.1 (0 + 65)), .ref (X.1 (0 + 73)), .ref (X.1 (0 + 76)), .ref (X.1 (0 + 77)), .null, .null]))) := hR
  refine p_putF (C := RX9) (T := TX9) (N := 9) hx hb hF hown hR hS (by omega) rfl rfl tyX9_ok nmX9 7 (by decide) mw_2_49 rfl rfl hin rfl rfl rfl rfl (Nat.le_of_ble_eq_true rfl) dX9_init_86 (fun H locs hR hS => ?_)
  have hR : pR X s H (0 + 79) (oU O 0 (.inr (8, [.ref (X.1 (0 + 1)), .ref (X.1 (0 + 33)), .int 0, .ref (X.1 (0 + 65)), .ref (X.1 (0 + 73)), .ref (X.1 (0 + 76)), .ref (X.1 (0 + 77)), .ref (X.1 (0 + 78)), .null]))) := hR
  refine lv_aload_n hx hb dX9_init_89 rfl (lv_at hl 0 rfl) ?_
  refine lv_bipush (v := 8) hx hb dX9_init_90 (by decide) ?_
  refine p_sz (n0 := 0 + 1) (n := (0 + 79)) hs0 (by omega) (Or.inl (by omega)) hR (fun hz => ?_)
  refine p_newS (f := gS X 0) hx hb hF hown hz hR hS (mLo hs0 hR) mw_2_1 (N := 8) gS_0 (by decide) (by decide) (by decide) (Nat.le_of_ble_eq_true rfl) (Nat.le_of_ble_eq_true rfl) dX9_init_92 (fun H hz hR hS => ?_)
  have hR : pR X s H (0 + 80) (oU (oU O (0 + 79) (.inl (X.2.2.1 3, 8, .inr (.inr (.inr (.inr (gS X 0))))))) 0 (.inr (8, [.ref (X.1 (0 + 1)), .ref (X.1 (0 + 33)), .int 0, .ref (X.1 (0 + 65)), .ref (X.1 (0 + 73)), .ref (X.1 (0 + 76)), .ref (X.1 (0 + 77)), .ref (X.1 (0 + 78)), .null]))) := pR.sw (by omega) hR
  refine p_putF (C := RX9) (T := TX9) (N := 9) hx hb hF hown hR hS (by omega) rfl rfl tyX9_ok nmX9 8 (by decide) mw_2_50 rfl rfl hin rfl rfl rfl rfl (Nat.le_of_ble_eq_true rfl) dX9_init_95 (fun H locs hR hS => ?_)
  have hR : pR X s H (0 + 80) (oU (oU O (0 + 79) (.inl (X.2.2.1 3, 8, .inr (.inr (.inr (.inr (gS X 0))))))) 0 (.inr (8, [.ref (X.1 (0 + 1)), .ref (X.1 (0 + 33)), .int 0, .ref (X.1 (0 + 65)), .ref (X.1 (0 + 73)), .ref (X.1 (0 + 76)), .ref (X.1 (0 + 77)), .ref (X.1 (0 + 78)), .ref (X.1 (0 + 79))]))) := hR
  refine lv_iconst (v := 0) hx hb dX9_init_98 (by decide) ?_
  refine lv_istore_n (lv' := [(1, .int 0), (0, .ref (X.1 0))]) hx hb dX9_init_99 rfl hl (by decide) rfl (fun ls hl => ?_)
  exact k_X9_loop hO hs hA hs0 8 0 rfl _ _ _ hR hS hl
set_option maxRecDepth 100000 in
set_option maxHeartbeats 4000000 in
theorem k_X10_init (l : Launch) (X : mX) (O : Nat → Option va_E) (hO : ∀ j, 96 ≤ j → O j = none) : pM l yX10_init cX10_init 1 1 60 20 4844 X [.ref (X.1 96)] O 96 (96 + 21) (.inr (9, [.int 0, .null, .null, .int 0, .null, .null, .null, .int 0, .int 0, .int 0, .int 0, .int 0, .int 0, .null, .null, .null, .int 0, .int 0, .int 0, .int 0, .int 0, .int 0, .int 0, .null, .int 0, .null, .null, .null, .null, .null, .null, .null, .null, .null, .null, .null])) := by
  refine p_of (by decide +kernel) rfl (Nat.le_of_ble_eq_true rfl) rfl (fun p e s m args below meth c hs hin hA hs0 H locs ls hR hS hl => ?_)
  obtain ⟨hx, hb, hml, hown, hF, hlk, hr⟩ := id hs
  have hl : lv_has ls 1 [(0, .ref (X.1 96))] := hl
  refine lv_aload_n hx hb dX10_init_0 rfl (lv_at hl 0 rfl) ?_
  refine p_obj hx hb hml hF hown mw_5_136 mw_1_26 mw_1_27 hl.1 dX10_init_1 (Nat.le_of_ble_eq_true rfl) (Nat.le_of_ble_eq_true rfl) ?_
  refine lv_aload_n hx hb dX10_init_4 rfl (lv_at hl 0 rfl) ?_
  refine lv_iconst (v := 0) hx hb dX10_init_5 (by decide) ?_
  refine p_put (C := RX10) (T := TX10) (N := 36) hx hb hF hown hR hS (by omega) rfl rfl tyX10_ok nmX10 0 (by decide) mw_5_137 rfl rfl rfl rfl rfl (Nat.le_of_ble_eq_true rfl) dX10_init_6 (fun H locs hR hS => ?_)
  have hR : pR X s H (96 + 1) (oU O 96 (.inr (9, [.int 0, .null, .null, .int 0, .null, .null, .null, .int 0, .int 0, .int 0, .int 0, .int 0, .int 0, .null, .null, .null, .int 0, .int 0, .int 0, .int 0, .int 0, .int 0, .int 0, .null, .int 0, .null, .null, .null, .null, .null, .null, .null, .null, .null, .null, .null]))) := hR
  refine lv_aload_n hx hb dX10_init_9 rfl (lv_at hl 0 rfl) ?_
  refine lv_sipush (v := 1834) hx hb dX10_init_10 (by decide) ?_
  refine p_sz (n0 := 96 + 1) (n := (96 + 1)) hs0 (by omega) (Or.inl (by omega)) hR (fun hz => ?_)
  refine p_newa hx hb hz hR hS (atype := .int) hA.i (ty := .int) rfl 0 rfl (fun h => h) (a0 := (1834, .inl (fun _ => 0))) (N := 1834) (fun _ => rfl) (by decide) (by decide) (by decide) (Nat.le_of_ble_eq_true rfl) (Nat.le_of_ble_eq_true rfl) dX10_init_13 (fun H hz hR hS => ?_)
  have hR : pR X s H (96 + 2) (oU O 96 (.inr (9, [.int 0, .null, .null, .int 0, .null, .null, .null, .int 0, .int 0, .int 0, .int 0, .int 0, .int 0, .null, .null, .null, .int 0, .int 0, .int 0, .int 0, .int 0, .int 0, .int 0, .null, .int 0, .null, .null, .null, .null, .null, .null, .null, .null, .null, .null, .null]))) := hR.drop (by rw [oU_n (by omega)]; exact hO _ (by omega)) rfl
  refine p_putF (C := RX10) (T := TX10) (N := 36) hx hb hF hown hR hS (by omega) rfl rfl tyX10_ok nmX10 1 (by decide) mw_5_138 rfl rfl hin rfl rfl rfl rfl (Nat.le_of_ble_eq_true rfl) dX10_init_15 (fun H locs hR hS => ?_)
  have hR : pR X s H (96 + 2) (oU O 96 (.inr (9, [.int 0, .ref (X.1 (96 + 1)), .null, .int 0, .null, .null, .null, .int 0, .int 0, .int 0, .int 0, .int 0, .int 0, .null, .null, .null, .int 0, .int 0, .int 0, .int 0, .int 0, .int 0, .int 0, .null, .int 0, .null, .null, .null, .null, .null, .null, .null, .null, .null, .null, .null]))) := hR
  refine lv_aload_n hx hb dX10_init_18 rfl (lv_at hl 0 rfl) ?_
  refine lv_sipush (v := 1834) hx hb dX10_init_19 (by decide) ?_
  refine p_sz (n0 := 96 + 1) (n := (96 + 2)) hs0 (by omega) (Or.inl (by omega)) hR (fun hz => ?_)
  refine p_newa hx hb hz hR hS (atype := .int) hA.i (ty := .int) rfl 0 rfl (fun h => h) (a0 := (1834, .inl (fun _ => 0))) (N := 1834) (fun _ => rfl) (by decide) (by decide) (by decide) (Nat.le_of_ble_eq_true rfl) (Nat.le_of_ble_eq_true rfl) dX10_init_22 (fun H hz hR hS => ?_)
  have hR : pR X s H (96 + 3) (oU O 96 (.inr (9, [.int 0, .ref (X.1 (96 + 1)), .null, .int 0, .null, .null, .null, .int 0, .int 0, .int 0, .int 0, .int 0, .int 0, .null, .null, .null, .int 0, .int 0, .int 0, .int 0, .int 0, .int 0, .int 0, .null, .int 0, .null, .null, .null, .null, .null, .null, .null, .null, .null, .null, .null]))) := hR.drop (by rw [oU_n (by omega)]; exact hO _ (by omega)) rfl
  refine p_putF (C := RX10) (T := TX10) (N := 36) hx hb hF hown hR hS (by omega) rfl rfl tyX10_ok nmX10 2 (by decide) mw_5_139 rfl rfl hin rfl rfl rfl rfl (Nat.le_of_ble_eq_true rfl) dX10_init_24 (fun H locs hR hS => ?_)
  have hR : pR X s H (96 + 3) (oU O 96 (.inr (9, [.int 0, .ref (X.1 (96 + 1)), .ref (X.1 (96 + 2)), .int 0, .null, .null, .null, .int 0, .int 0, .int 0, .int 0, .int 0, .int 0, .null, .null, .null, .int 0, .int 0, .int 0, .int 0, .int 0, .int 0, .int 0, .null, .int 0, .null, .null, .null, .null, .null, .null, .null, .null, .null, .null, .null]))) := hR
  refine lv_aload_n hx hb dX10_init_27 rfl (lv_at hl 0 rfl) ?_
  refine lv_iconst (v := 0) hx hb dX10_init_28 (by decide) ?_
  refine p_put (C := RX10) (T := TX10) (N := 36) hx hb hF hown hR hS (by omega) rfl rfl tyX10_ok nmX10 3 (by decide) mw_5_140 rfl rfl rfl rfl rfl (Nat.le_of_ble_eq_true rfl) dX10_init_29 (fun H locs hR hS => ?_)
  have hR : pR X s H (96 + 3) (oU O 96 (.inr (9, [.int 0, .ref (X.1 (96 + 1)), .ref (X.1 (96 + 2)), .int 0, .null, .null, .null, .int 0, .int 0, .int 0, .int 0, .int 0, .int 0, .null, .null, .null, .int 0, .int 0, .int 0, .int 0, .int 0, .int 0, .int 0, .null, .int 0, .null, .null, .null, .null, .null, .null, .null, .null, .null, .null, .null]))) := hR
  refine lv_aload_n hx hb dX10_init_32 rfl (lv_at hl 0 rfl) ?_
  refine lv_bipush (v := 80) hx hb dX10_init_33 (by decide) ?_
  refine p_sz (n0 := 96 + 1) (n := (96 + 3)) hs0 (by omega) (Or.inl (by omega)) hR (fun hz => ?_)
  refine p_newa hx hb hz hR hS (atype := .int) hA.i (ty := .int) rfl 0 rfl (fun h => h) (a0 := (80, .inl (fun _ => 0))) (N := 80) (fun _ => rfl) (by decide) (by decide) (by decide) (Nat.le_of_ble_eq_true rfl) (Nat.le_of_ble_eq_true rfl) dX10_init_35 (fun H hz hR hS => ?_)
  have hR : pR X s H (96 + 4) (oU O 96 (.inr (9, [.int 0, .ref (X.1 (96 + 1)), .ref (X.1 (96 + 2)), .int 0, .null, .null, .null, .int 0, .int 0, .int 0, .int 0, .int 0, .int 0, .null, .null, .null, .int 0, .int 0, .int 0, .int 0, .int 0, .int 0, .int 0, .null, .int 0, .null, .null, .null, .null, .null, .null, .null, .null, .null, .null, .null]))) := hR.drop (by rw [oU_n (by omega)]; exact hO _ (by omega)) rfl
  refine p_putF (C := RX10) (T := TX10) (N := 36) hx hb hF hown hR hS (by omega) rfl rfl tyX10_ok nmX10 4 (by decide) mw_5_141 rfl rfl hin rfl rfl rfl rfl (Nat.le_of_ble_eq_true rfl) dX10_init_37 (fun H locs hR hS => ?_)
  have hR : pR X s H (96 + 4) (oU O 96 (.inr (9, [.int 0, .ref (X.1 (96 + 1)), .ref (X.1 (96 + 2)), .int 0, .ref (X.1 (96 + 3)), .null, .null, .int 0, .int 0, .int 0, .int 0, .int 0, .int 0, .null, .null, .null, .int 0, .int 0, .int 0, .int 0, .int 0, .int 0, .int 0, .null, .int 0, .null, .null, .null, .null, .null, .null, .null, .null, .null, .null, .null]))) := hR
  refine lv_aload_n hx hb dX10_init_40 rfl (lv_at hl 0 rfl) ?_
  refine lv_bipush (v := 16) hx hb dX10_init_41 (by decide) ?_
  refine p_sz (n0 := 96 + 1) (n := (96 + 4)) hs0 (by omega) (Or.inl (by omega)) hR (fun hz => ?_)
  refine p_newa hx hb hz hR hS (atype := .int) hA.i (ty := .int) rfl 0 rfl (fun h => h) (a0 := (16, .inl (fun _ => 0))) (N := 16) (fun _ => rfl) (by decide) (by decide) (by decide) (Nat.le_of_ble_eq_true rfl) (Nat.le_of_ble_eq_true rfl) dX10_init_43 (fun H hz hR hS => ?_)
  have hR : pR X s H (96 + 5) (oU O 96 (.inr (9, [.int 0, .ref (X.1 (96 + 1)), .ref (X.1 (96 + 2)), .int 0, .ref (X.1 (96 + 3)), .null, .null, .int 0, .int 0, .int 0, .int 0, .int 0, .int 0, .null, .null, .null, .int 0, .int 0, .int 0, .int 0, .int 0, .int 0, .int 0, .null, .int 0, .null, .null, .null, .null, .null, .null, .null, .null, .null, .null, .null]))) := hR.drop (by rw [oU_n (by omega)]; exact hO _ (by omega)) rfl
  refine p_putF (C := RX10) (T := TX10) (N := 36) hx hb hF hown hR hS (by omega) rfl rfl tyX10_ok nmX10 5 (by decide) mw_5_142 rfl rfl hin rfl rfl rfl rfl (Nat.le_of_ble_eq_true rfl) dX10_init_45 (fun H locs hR hS => ?_)
  have hR : pR X s H (96 + 5) (oU O 96 (.inr (9, [.int 0, .ref (X.1 (96 + 1)), .ref (X.1 (96 + 2)), .int 0, .ref (X.1 (96 + 3)), .ref (X.1 (96 + 4)), .null, .int 0, .int 0, .int 0, .int 0, .int 0, .int 0, .null, .null, .null, .int 0, .int 0, .int 0, .int 0, .int 0, .int 0, .int 0, .null, .int 0, .null, .null, .null, .null, .null, .null, .null, .null, .null, .null, .null]))) := hR
  refine lv_aload_n hx hb dX10_init_48 rfl (lv_at hl 0 rfl) ?_
  refine lv_bipush (v := 90) hx hb dX10_init_49 (by decide) ?_
  refine p_sz (n0 := 96 + 1) (n := (96 + 5)) hs0 (by omega) (Or.inl (by omega)) hR (fun hz => ?_)
  refine p_newa hx hb hz hR hS (atype := .int) hA.i (ty := .int) rfl 0 rfl (fun h => h) (a0 := (90, .inl (fun _ => 0))) (N := 90) (fun _ => rfl) (by decide) (by decide) (by decide) (Nat.le_of_ble_eq_true rfl) (Nat.le_of_ble_eq_true rfl) dX10_init_51 (fun H hz hR hS => ?_)
  have hR : pR X s H (96 + 6) (oU O 96 (.inr (9, [.int 0, .ref (X.1 (96 + 1)), .ref (X.1 (96 + 2)), .int 0, .ref (X.1 (96 + 3)), .ref (X.1 (96 + 4)), .null, .int 0, .int 0, .int 0, .int 0, .int 0, .int 0, .null, .null, .null, .int 0, .int 0, .int 0, .int 0, .int 0, .int 0, .int 0, .null, .int 0, .null, .null, .null, .null, .null, .null, .null, .null, .null, .null, .null]))) := hR.drop (by rw [oU_n (by omega)]; exact hO _ (by omega)) rfl
  refine p_putF (C := RX10) (T := TX10) (N := 36) hx hb hF hown hR hS (by omega) rfl rfl tyX10_ok nmX10 6 (by decide) mw_5_143 rfl rfl hin rfl rfl rfl rfl (Nat.le_of_ble_eq_true rfl) dX10_init_53 (fun H locs hR hS => ?_)
  have hR : pR X s H (96 + 6) (oU O 96 (.inr (9, [.int 0, .ref (X.1 (96 + 1)), .ref (X.1 (96 + 2)), .int 0, .ref (X.1 (96 + 3)), .ref (X.1 (96 + 4)), .ref (X.1 (96 + 5)), .int 0, .int 0, .int 0, .int 0, .int 0, .int 0, .null, .null, .null, .int 0, .int 0, .int 0, .int 0, .int 0, .int 0, .int 0, .null, .int 0, .null, .null, .null, .null, .null, .null, .null, .null, .null, .null, .null]))) := hR
  refine lv_aload_n hx hb dX10_init_56 rfl (lv_at hl 0 rfl) ?_
  refine lv_iconst (v := 0) hx hb dX10_init_57 (by decide) ?_
  refine p_put (C := RX10) (T := TX10) (N := 36) hx hb hF hown hR hS (by omega) rfl rfl tyX10_ok nmX10 7 (by decide) mw_5_144 rfl rfl rfl rfl rfl (Nat.le_of_ble_eq_true rfl) dX10_init_58 (fun H locs hR hS => ?_)
  have hR : pR X s H (96 + 6) (oU O 96 (.inr (9, [.int 0, .ref (X.1 (96 + 1)), .ref (X.1 (96 + 2)), .int 0, .ref (X.1 (96 + 3)), .ref (X.1 (96 + 4)), .ref (X.1 (96 + 5)), .int 0, .int 0, .int 0, .int 0, .int 0, .int 0, .null, .null, .null, .int 0, .int 0, .int 0, .int 0, .int 0, .int 0, .int 0, .null, .int 0, .null, .null, .null, .null, .null, .null, .null, .null, .null, .null, .null]))) := hR
  refine lv_aload_n hx hb dX10_init_61 rfl (lv_at hl 0 rfl) ?_
  refine lv_iconst (v := 0) hx hb dX10_init_62 (by decide) ?_
  refine p_put (C := RX10) (T := TX10) (N := 36) hx hb hF hown hR hS (by omega) rfl rfl tyX10_ok nmX10 8 (by decide) mw_5_145 rfl rfl rfl rfl rfl (Nat.le_of_ble_eq_true rfl) dX10_init_63 (fun H locs hR hS => ?_)
  have hR : pR X s H (96 + 6) (oU O 96 (.inr (9, [.int 0, .ref (X.1 (96 + 1)), .ref (X.1 (96 + 2)), .int 0, .ref (X.1 (96 + 3)), .ref (X.1 (96 + 4)), .ref (X.1 (96 + 5)), .int 0, .int 0, .int 0, .int 0, .int 0, .int 0, .null, .null, .null, .int 0, .int 0, .int 0, .int 0, .int 0, .int 0, .int 0, .null, .int 0, .null, .null, .null, .null, .null, .null, .null, .null, .null, .null, .null]))) := hR
  refine lv_aload_n hx hb dX10_init_66 rfl (lv_at hl 0 rfl) ?_
  refine lv_iconst (v := 0) hx hb dX10_init_67 (by decide) ?_
  refine p_put (C := RX10) (T := TX10) (N := 36) hx hb hF hown hR hS (by omega) rfl rfl tyX10_ok nmX10 9 (by decide) mw_5_146 rfl rfl rfl rfl rfl (Nat.le_of_ble_eq_true rfl) dX10_init_68 (fun H locs hR hS => ?_)
  have hR : pR X s H (96 + 6) (oU O 96 (.inr (9, [.int 0, .ref (X.1 (96 + 1)), .ref (X.1 (96 + 2)), .int 0, .ref (X.1 (96 + 3)), .ref (X.1 (96 + 4)), .ref (X.1 (96 + 5)), .int 0, .int 0, .int 0, .int 0, .int 0, .int 0, .null, .null, .null, .int 0, .int 0, .int 0, .int 0, .int 0, .int 0, .int 0, .null, .int 0, .null, .null, .null, .null, .null, .null, .null, .null, .null, .null, .null]))) := hR
  refine lv_aload_n hx hb dX10_init_71 rfl (lv_at hl 0 rfl) ?_
  refine lv_iconst (v := 0) hx hb dX10_init_72 (by decide) ?_
  refine p_put (C := RX10) (T := TX10) (N := 36) hx hb hF hown hR hS (by omega) rfl rfl tyX10_ok nmX10 10 (by decide) mw_5_147 rfl rfl rfl rfl rfl (Nat.le_of_ble_eq_true rfl) dX10_init_73 (fun H locs hR hS => ?_)
  have hR : pR X s H (96 + 6) (oU O 96 (.inr (9, [.int 0, .ref (X.1 (96 + 1)), .ref (X.1 (96 + 2)), .int 0, .ref (X.1 (96 + 3)), .ref (X.1 (96 + 4)), .ref (X.1 (96 + 5)), .int 0, .int 0, .int 0, .int 0, .int 0, .int 0, .null, .null, .null, .int 0, .int 0, .int 0, .int 0, .int 0, .int 0, .int 0, .null, .int 0, .null, .null, .null, .null, .null, .null, .null, .null, .null, .null, .null]))) := hR
  refine lv_aload_n hx hb dX10_init_76 rfl (lv_at hl 0 rfl) ?_
  refine lv_iconst (v := 0) hx hb dX10_init_77 (by decide) ?_
  refine p_put (C := RX10) (T := TX10) (N := 36) hx hb hF hown hR hS (by omega) rfl rfl tyX10_ok nmX10 11 (by decide) mw_5_148 rfl rfl rfl rfl rfl (Nat.le_of_ble_eq_true rfl) dX10_init_78 (fun H locs hR hS => ?_)
  have hR : pR X s H (96 + 6) (oU O 96 (.inr (9, [.int 0, .ref (X.1 (96 + 1)), .ref (X.1 (96 + 2)), .int 0, .ref (X.1 (96 + 3)), .ref (X.1 (96 + 4)), .ref (X.1 (96 + 5)), .int 0, .int 0, .int 0, .int 0, .int 0, .int 0, .null, .null, .null, .int 0, .int 0, .int 0, .int 0, .int 0, .int 0, .int 0, .null, .int 0, .null, .null, .null, .null, .null, .null, .null, .null, .null, .null, .null]))) := hR
  refine lv_aload_n hx hb dX10_init_81 rfl (lv_at hl 0 rfl) ?_
  refine lv_iconst (v := 0) hx hb dX10_init_82 (by decide) ?_
  refine p_put (C := RX10) (T := TX10) (N := 36) hx hb hF hown hR hS (by omega) rfl rfl tyX10_ok nmX10 12 (by decide) mw_5_149 rfl rfl rfl rfl rfl (Nat.le_of_ble_eq_true rfl) dX10_init_83 (fun H locs hR hS => ?_)
  have hR : pR X s H (96 + 6) (oU O 96 (.inr (9, [.int 0, .ref (X.1 (96 + 1)), .ref (X.1 (96 + 2)), .int 0, .ref (X.1 (96 + 3)), .ref (X.1 (96 + 4)), .ref (X.1 (96 + 5)), .int 0, .int 0, .int 0, .int 0, .int 0, .int 0, .null, .null, .null, .int 0, .int 0, .int 0, .int 0, .int 0, .int 0, .int 0, .null, .int 0, .null, .null, .null, .null, .null, .null, .null, .null, .null, .null, .null]))) := hR
  refine lv_aload_n hx hb dX10_init_86 rfl (lv_at hl 0 rfl) ?_
  refine lv_bipush (v := 8) hx hb dX10_init_87 (by decide) ?_
  refine p_sz (n0 := 96 + 1) (n := (96 + 6)) hs0 (by omega) (Or.inl (by omega)) hR (fun hz => ?_)
  refine p_newa hx hb hz hR hS (atype := .boolean) hA.z (ty := .boolean) rfl 1 rfl (fun h => h) (a0 := (8, .inl (fun _ => 0))) (N := 8) (fun _ => rfl) (by decide) (by decide) (by decide) (Nat.le_of_ble_eq_true rfl) (Nat.le_of_ble_eq_true rfl) dX10_init_89 (fun H hz hR hS => ?_)
  have hR : pR X s H (96 + 7) (oU O 96 (.inr (9, [.int 0, .ref (X.1 (96 + 1)), .ref (X.1 (96 + 2)), .int 0, .ref (X.1 (96 + 3)), .ref (X.1 (96 + 4)), .ref (X.1 (96 + 5)), .int 0, .int 0, .int 0, .int 0, .int 0, .int 0, .null, .null, .null, .int 0, .int 0, .int 0, .int 0, .int 0, .int 0, .int 0, .null, .int 0, .null, .null, .null, .null, .null, .null, .null, .null, .null, .null, .null]))) := hR.drop (by rw [oU_n (by omega)]; exact hO _ (by omega)) rfl
  refine p_putF (C := RX10) (T := TX10) (N := 36) hx hb hF hown hR hS (by omega) rfl rfl tyX10_ok nmX10 13 (by decide) mw_5_150 rfl rfl hin rfl rfl rfl rfl (Nat.le_of_ble_eq_true rfl) dX10_init_91 (fun H locs hR hS => ?_)
  have hR : pR X s H (96 + 7) (oU O 96 (.inr (9, [.int 0, .ref (X.1 (96 + 1)), .ref (X.1 (96 + 2)), .int 0, .ref (X.1 (96 + 3)), .ref (X.1 (96 + 4)), .ref (X.1 (96 + 5)), .int 0, .int 0, .int 0, .int 0, .int 0, .int 0, .ref (X.1 (96 + 6)), .null, .null, .int 0, .int 0, .int 0, .int 0, .int 0, .int 0, .int 0, .null, .int 0, .null, .null, .null, .null, .null, .null, .null, .null, .null, .null, .null]))) := hR
  refine lv_aload_n hx hb dX10_init_94 rfl (lv_at hl 0 rfl) ?_
  refine lv_bipush (v := 8) hx hb dX10_init_95 (by decide) ?_
  refine p_sz (n0 := 96 + 1) (n := (96 + 7)) hs0 (by omega) (Or.inl (by omega)) hR (fun hz => ?_)
  refine p_newa hx hb hz hR hS (atype := .boolean) hA.z (ty := .boolean) rfl 1 rfl (fun h => h) (a0 := (8, .inl (fun _ => 0))) (N := 8) (fun _ => rfl) (by decide) (by decide) (by decide) (Nat.le_of_ble_eq_true rfl) (Nat.le_of_ble_eq_true rfl) dX10_init_97 (fun H hz hR hS => ?_)
  have hR : pR X s H (96 + 8) (oU O 96 (.inr (9, [.int 0, .ref (X.1 (96 + 1)), .ref (X.1 (96 + 2)), .int 0, .ref (X.1 (96 + 3)), .ref (X.1 (96 + 4)), .ref (X.1 (96 + 5)), .int 0, .int 0, .int 0, .int 0, .int 0, .int 0, .ref (X.1 (96 + 6)), .null, .null, .int 0, .int 0, .int 0, .int 0, .int 0, .int 0, .int 0, .null, .int 0, .null, .null, .null, .null, .null, .null, .null, .null, .null, .null, .null]))) := hR.drop (by rw [oU_n (by omega)]; exact hO _ (by omega)) rfl
  refine p_putF (C := RX10) (T := TX10) (N := 36) hx hb hF hown hR hS (by omega) rfl rfl tyX10_ok nmX10 14 (by decide) mw_5_151 rfl rfl hin rfl rfl rfl rfl (Nat.le_of_ble_eq_true rfl) dX10_init_99 (fun H locs hR hS => ?_)
  have hR : pR X s H (96 + 8) (oU O 96 (.inr (9, [.int 0, .ref (X.1 (96 + 1)), .ref (X.1 (96 + 2)), .int 0, .ref (X.1 (96 + 3)), .ref (X.1 (96 + 4)), .ref (X.1 (96 + 5)), .int 0, .int 0, .int 0, .int 0, .int 0, .int 0, .ref (X.1 (96 + 6)), .ref (X.1 (96 + 7)), .null, .int 0, .int 0, .int 0, .int 0, .int 0, .int 0, .int 0, .null, .int 0, .null, .null, .null, .null, .null, .null, .null, .null, .null, .null, .null]))) := hR
  refine lv_aload_n hx hb dX10_init_102 rfl (lv_at hl 0 rfl) ?_
  refine lv_bipush (v := 8) hx hb dX10_init_103 (by decide) ?_
  refine p_sz (n0 := 96 + 1) (n := (96 + 8)) hs0 (by omega) (Or.inl (by omega)) hR (fun hz => ?_)
  refine p_newa hx hb hz hR hS (atype := .int) hA.i (ty := .int) rfl 0 rfl (fun h => h) (a0 := (8, .inl (fun _ => 0))) (N := 8) (fun _ => rfl) (by decide) (by decide) (by decide) (Nat.le_of_ble_eq_true rfl) (Nat.le_of_ble_eq_true rfl) dX10_init_105 (fun H hz hR hS => ?_)
  have hR : pR X s H (96 + 9) (oU O 96 (.inr (9, [.int 0, .ref (X.1 (96 + 1)), .ref (X.1 (96 + 2)), .int 0, .ref (X.1 (96 + 3)), .ref (X.1 (96 + 4)), .ref (X.1 (96 + 5)), .int 0, .int 0, .int 0, .int 0, .int 0, .int 0, .ref (X.1 (96 + 6)), .ref (X.1 (96 + 7)), .null, .int 0, .int 0, .int 0, .int 0, .int 0, .int 0, .int 0, .null, .int 0, .null, .null, .null, .null, .null, .null, .null, .null, .null, .null, .null]))) := hR.drop (by rw [oU_n (by omega)]; exact hO _ (by omega)) rfl
  refine p_putF (C := RX10) (T := TX10) (N := 36) hx hb hF hown hR hS (by omega) rfl rfl tyX10_ok nmX10 15 (by decide) mw_5_152 rfl rfl hin rfl rfl rfl rfl (Nat.le_of_ble_eq_true rfl) dX10_init_107 (fun H locs hR hS => ?_)
  have hR : pR X s H (96 + 9) (oU O 96 (.inr (9, [.int 0, .ref (X.1 (96 + 1)), .ref (X.1 (96 + 2)), .int 0, .ref (X.1 (96 + 3)), .ref (X.1 (96 + 4)), .ref (X.1 (96 + 5)), .int 0, .int 0, .int 0, .int 0, .int 0, .int 0, .ref (X.1 (96 + 6)), .ref (X.1 (96 + 7)), .ref (X.1 (96 + 8)), .int 0, .int 0, .int 0, .int 0, .int 0, .int 0, .int 0, .null, .int 0, .null, .null, .null, .null, .null, .null, .null, .null, .null, .null, .null]))) := hR
  refine lv_aload_n hx hb dX10_init_110 rfl (lv_at hl 0 rfl) ?_
  refine lv_iconst (v := 0) hx hb dX10_init_111 (by decide) ?_
  refine p_put (C := RX10) (T := TX10) (N := 36) hx hb hF hown hR hS (by omega) rfl rfl tyX10_ok nmX10 16 (by decide) mw_5_153 rfl rfl rfl rfl rfl (Nat.le_of_ble_eq_true rfl) dX10_init_112 (fun H locs hR hS => ?_)
  have hR : pR X s H (96 + 9) (oU O 96 (.inr (9, [.int 0, .ref (X.1 (96 + 1)), .ref (X.1 (96 + 2)), .int 0, .ref (X.1 (96 + 3)), .ref (X.1 (96 + 4)), .ref (X.1 (96 + 5)), .int 0, .int 0, .int 0, .int 0, .int 0, .int 0, .ref (X.1 (96 + 6)), .ref (X.1 (96 + 7)), .ref (X.1 (96 + 8)), .int 0, .int 0, .int 0, .int 0, .int 0, .int 0, .int 0, .null, .int 0, .null, .null, .null, .null, .null, .null, .null, .null, .null, .null, .null]))) := hR
  refine lv_aload_n hx hb dX10_init_115 rfl (lv_at hl 0 rfl) ?_
  refine lv_iconst (v := 0) hx hb dX10_init_116 (by decide) ?_
  refine p_put (C := RX10) (T := TX10) (N := 36) hx hb hF hown hR hS (by omega) rfl rfl tyX10_ok nmX10 17 (by decide) mw_5_154 rfl rfl rfl rfl rfl (Nat.le_of_ble_eq_true rfl) dX10_init_117 (fun H locs hR hS => ?_)
  have hR : pR X s H (96 + 9) (oU O 96 (.inr (9, [.int 0, .ref (X.1 (96 + 1)), .ref (X.1 (96 + 2)), .int 0, .ref (X.1 (96 + 3)), .ref (X.1 (96 + 4)), .ref (X.1 (96 + 5)), .int 0, .int 0, .int 0, .int 0, .int 0, .int 0, .ref (X.1 (96 + 6)), .ref (X.1 (96 + 7)), .ref (X.1 (96 + 8)), .int 0, .int 0, .int 0, .int 0, .int 0, .int 0, .int 0, .null, .int 0, .null, .null, .null, .null, .null, .null, .null, .null, .null, .null, .null]))) := hR
  refine lv_aload_n hx hb dX10_init_120 rfl (lv_at hl 0 rfl) ?_
  refine lv_iconst (v := 0) hx hb dX10_init_121 (by decide) ?_
  refine p_put (C := RX10) (T := TX10) (N := 36) hx hb hF hown hR hS (by omega) rfl rfl tyX10_ok nmX10 18 (by decide) mw_5_155 rfl rfl rfl rfl rfl (Nat.le_of_ble_eq_true rfl) dX10_init_122 (fun H locs hR hS => ?_)
  have hR : pR X s H (96 + 9) (oU O 96 (.inr (9, [.int 0, .ref (X.1 (96 + 1)), .ref (X.1 (96 + 2)), .int 0, .ref (X.1 (96 + 3)), .ref (X.1 (96 + 4)), .ref (X.1 (96 + 5)), .int 0, .int 0, .int 0, .int 0, .int 0, .int 0, .ref (X.1 (96 + 6)), .ref (X.1 (96 + 7)), .ref (X.1 (96 + 8)), .int 0, .int 0, .int 0, .int 0, .int 0, .int 0, .int 0, .null, .int 0, .null, .null, .null, .null, .null, .null, .null, .null, .null, .null, .null]))) := hR
  refine lv_aload_n hx hb dX10_init_125 rfl (lv_at hl 0 rfl) ?_
  refine lv_iconst (v := 0) hx hb dX10_init_126 (by decide) ?_
  refine p_put (C := RX10) (T := TX10) (N := 36) hx hb hF hown hR hS (by omega) rfl rfl tyX10_ok nmX10 19 (by decide) mw_5_156 rfl rfl rfl rfl rfl (Nat.le_of_ble_eq_true rfl) dX10_init_127 (fun H locs hR hS => ?_)
  have hR : pR X s H (96 + 9) (oU O 96 (.inr (9, [.int 0, .ref (X.1 (96 + 1)), .ref (X.1 (96 + 2)), .int 0, .ref (X.1 (96 + 3)), .ref (X.1 (96 + 4)), .ref (X.1 (96 + 5)), .int 0, .int 0, .int 0, .int 0, .int 0, .int 0, .ref (X.1 (96 + 6)), .ref (X.1 (96 + 7)), .ref (X.1 (96 + 8)), .int 0, .int 0, .int 0, .int 0, .int 0, .int 0, .int 0, .null, .int 0, .null, .null, .null, .null, .null, .null, .null, .null, .null, .null, .null]))) := hR
  refine lv_aload_n hx hb dX10_init_130 rfl (lv_at hl 0 rfl) ?_
  refine lv_iconst (v := 0) hx hb dX10_init_131 (by decide) ?_
  refine p_put (C := RX10) (T := TX10) (N := 36) hx hb hF hown hR hS (by omega) rfl rfl tyX10_ok nmX10 20 (by decide) mw_5_157 rfl rfl rfl rfl rfl (Nat.le_of_ble_eq_true rfl) dX10_init_132 (fun H locs hR hS => ?_)
  have hR : pR X s H (96 + 9) (oU O 96 (.inr (9, [.int 0, .ref (X.1 (96 + 1)), .ref (X.1 (96 + 2)), .int 0, .ref (X.1 (96 + 3)), .ref (X.1 (96 + 4)), .ref (X.1 (96 + 5)), .int 0, .int 0, .int 0, .int 0, .int 0, .int 0, .ref (X.1 (96 + 6)), .ref (X.1 (96 + 7)), .ref (X.1 (96 + 8)), .int 0, .int 0, .int 0, .int 0, .int 0, .int 0, .int 0, .null, .int 0, .null, .null, .null, .null, .null, .null, .null, .null, .null, .null, .null]))) := hR
  refine lv_aload_n hx hb dX10_init_135 rfl (lv_at hl 0 rfl) ?_
  refine lv_iconst (v := 0) hx hb dX10_init_136 (by decide) ?_
  refine p_put (C := RX10) (T := TX10) (N := 36) hx hb hF hown hR hS (by omega) rfl rfl tyX10_ok nmX10 21 (by decide) mw_5_158 rfl rfl rfl rfl rfl (Nat.le_of_ble_eq_true rfl) dX10_init_137 (fun H locs hR hS => ?_)
  have hR : pR X s H (96 + 9) (oU O 96 (.inr (9, [.int 0, .ref (X.1 (96 + 1)), .ref (X.1 (96 + 2)), .int 0, .ref (X.1 (96 + 3)), .ref (X.1 (96 + 4)), .ref (X.1 (96 + 5)), .int 0, .int 0, .int 0, .int 0, .int 0, .int 0, .ref (X.1 (96 + 6)), .ref (X.1 (96 + 7)), .ref (X.1 (96 + 8)), .int 0, .int 0, .int 0, .int 0, .int 0, .int 0, .int 0, .null, .int 0, .null, .null, .null, .null, .null, .null, .null, .null, .null, .null, .null]))) := hR
  refine lv_aload_n hx hb dX10_init_140 rfl (lv_at hl 0 rfl) ?_
  refine lv_iconst (v := 0) hx hb dX10_init_141 (by decide) ?_
  refine p_put (C := RX10) (T := TX10) (N := 36) hx hb hF hown hR hS (by omega) rfl rfl tyX10_ok nmX10 22 (by decide) mw_5_159 rfl rfl rfl rfl rfl (Nat.le_of_ble_eq_true rfl) dX10_init_142 (fun H locs hR hS => ?_)
  have hR : pR X s H (96 + 9) (oU O 96 (.inr (9, [.int 0, .ref (X.1 (96 + 1)), .ref (X.1 (96 + 2)), .int 0, .ref (X.1 (96 + 3)), .ref (X.1 (96 + 4)), .ref (X.1 (96 + 5)), .int 0, .int 0, .int 0, .int 0, .int 0, .int 0, .ref (X.1 (96 + 6)), .ref (X.1 (96 + 7)), .ref (X.1 (96 + 8)), .int 0, .int 0, .int 0, .int 0, .int 0, .int 0, .int 0, .null, .int 0, .null, .null, .null, .null, .null, .null, .null, .null, .null, .null, .null]))) := hR
  refine lv_aload_n hx hb dX10_init_145 rfl (lv_at hl 0 rfl) ?_
  refine lv_bipush (v := 80) hx hb dX10_init_146 (by decide) ?_
  refine p_sz (n0 := 96 + 1) (n := (96 + 9)) hs0 (by omega) (Or.inl (by omega)) hR (fun hz => ?_)
  refine p_newa hx hb hz hR hS (atype := .boolean) hA.z (ty := .boolean) rfl 1 rfl (fun h => h) (a0 := (80, .inl (fun _ => 0))) (N := 80) (fun _ => rfl) (by decide) (by decide) (by decide) (Nat.le_of_ble_eq_true rfl) (Nat.le_of_ble_eq_true rfl) dX10_init_148 (fun H hz hR hS => ?_)
  have hR : pR X s H (96 + 10) (oU O 96 (.inr (9, [.int 0, .ref (X.1 (96 + 1)), .ref (X.1 (96 + 2)), .int 0, .ref (X.1 (96 + 3)), .ref (X.1 (96 + 4)), .ref (X.1 (96 + 5)), .int 0, .int 0, .int 0, .int 0, .int 0, .int 0, .ref (X.1 (96 + 6)), .ref (X.1 (96 + 7)), .ref (X.1 (96 + 8)), .int 0, .int 0, .int 0, .int 0, .int 0, .int 0, .int 0, .null, .int 0, .null, .null, .null, .null, .null, .null, .null, .null, .null, .null, .null]))) := hR.drop (by rw [oU_n (by omega)]; exact hO _ (by omega)) rfl
  refine p_putF (C := RX10) (T := TX10) (N := 36) hx hb hF hown hR hS (by omega) rfl rfl tyX10_ok nmX10 23 (by decide) mw_5_160 rfl rfl hin rfl rfl rfl rfl (Nat.le_of_ble_eq_true rfl) dX10_init_150 (fun H locs hR hS => ?_)
  have hR : pR X s H (96 + 10) (oU O 96 (.inr (9, [.int 0, .ref (X.1 (96 + 1)), .ref (X.1 (96 + 2)), .int 0, .ref (X.1 (96 + 3)), .ref (X.1 (96 + 4)), .ref (X.1 (96 + 5)), .int 0, .int 0, .int 0, .int 0, .int 0, .int 0, .ref (X.1 (96 + 6)), .ref (X.1 (96 + 7)), .ref (X.1 (96 + 8)), .int 0, .int 0, .int 0, .int 0, .int 0, .int 0, .int 0, .ref (X.1 (96 + 9)), .int 0, .null, .null, .null, .null, .null, .null, .null, .null, .null, .null, .null]))) := hR
  refine lv_aload_n hx hb dX10_init_153 rfl (lv_at hl 0 rfl) ?_
  refine lv_iconst (v := 0) hx hb dX10_init_154 (by decide) ?_
  refine p_put (C := RX10) (T := TX10) (N := 36) hx hb hF hown hR hS (by omega) rfl rfl tyX10_ok nmX10 24 (by decide) mw_5_161 rfl rfl rfl rfl rfl (Nat.le_of_ble_eq_true rfl) dX10_init_155 (fun H locs hR hS => ?_)
  have hR : pR X s H (96 + 10) (oU O 96 (.inr (9, [.int 0, .ref (X.1 (96 + 1)), .ref (X.1 (96 + 2)), .int 0, .ref (X.1 (96 + 3)), .ref (X.1 (96 + 4)), .ref (X.1 (96 + 5)), .int 0, .int 0, .int 0, .int 0, .int 0, .int 0, .ref (X.1 (96 + 6)), .ref (X.1 (96 + 7)), .ref (X.1 (96 + 8)), .int 0, .int 0, .int 0, .int 0, .int 0, .int 0, .int 0, .ref (X.1 (96 + 9)), .int 0, .null, .null, .null, .null, .null, .null, .null, .null, .null, .null, .null]))) := hR
  refine lv_aload_n hx hb dX10_init_158 rfl (lv_at hl 0 rfl) ?_
  refine lv_iconst (v := 4) hx hb dX10_init_159 (by decide) ?_
  refine p_sz (n0 := 96 + 1) (n := (96 + 10)) hs0 (by omega) (Or.inl (by omega)) hR (fun hz => ?_)
  refine p_newa hx hb hz hR hS (atype := .int) hA.i (ty := .int) rfl 0 rfl (fun h => h) (a0 := (4, .inl (fun _ => 0))) (N := 4) (fun _ => rfl) (by decide) (by decide) (by decide) (Nat.le_of_ble_eq_true rfl) (Nat.le_of_ble_eq_true rfl) dX10_init_160 (fun H hz hR hS => ?_)
  have hR : pR X s H (96 + 11) (oU O 96 (.inr (9, [.int 0, .ref (X.1 (96 + 1)), .ref (X.1 (96 + 2)), .int 0, .ref (X.1 (96 + 3)), .ref (X.1 (96 + 4)), .ref (X.1 (96 + 5)), .int 0, .int 0, .int 0, .int 0, .int 0, .int 0, .ref (X.1 (96 + 6)), .ref (X.1 (96 + 7)), .ref (X.1 (96 + 8)), .int 0, .int 0, .int 0, .int 0, .int 0, .int 0, .int 0, .ref (X.1 (96 + 9)), .int 0, .null, .null, .null, .null, .null, .null, .null, .null, .null, .null, .null]))) := hR.drop (by rw [oU_n (by omega)]; exact hO _ (by omega)) rfl
  refine p_putF (C := RX10) (T := TX10) (N := 36) hx hb hF hown hR hS (by omega) rfl rfl tyX10_ok nmX10 25 (by decide) mw_5_162 rfl rfl hin rfl rfl rfl rfl (Nat.le_of_ble_eq_true rfl) dX10_init_162 (fun H locs hR hS => ?_)
  have hR : pR X s H (96 + 11) (oU O 96 (.inr (9, [.int 0, .ref (X.1 (96 + 1)), .ref (X.1 (96 + 2)), .int 0, .ref (X.1 (96 + 3)), .ref (X.1 (96 + 4)), .ref (X.1 (96 + 5)), .int 0, .int 0, .int 0, .int 0, .int 0, .int 0, .ref (X.1 (96 + 6)), .ref (X.1 (96 + 7)), .ref (X.1 (96 + 8)), .int 0, .int 0, .int 0, .int 0, .int 0, .int 0, .int 0, .ref (X.1 (96 + 9)), .int 0, .ref (X.1 (96 + 10)), .null, .null, .null, .null, .null, .null, .null, .null, .null, .null]))) := hR
  refine lv_aload_n hx hb dX10_init_165 rfl (lv_at hl 0 rfl) ?_
  refine lv_bipush (v := 16) hx hb dX10_init_166 (by decide) ?_
  refine p_sz (n0 := 96 + 1) (n := (96 + 11)) hs0 (by omega) (Or.inl (by omega)) hR (fun hz => ?_)
  refine p_newa hx hb hz hR hS (atype := .int) hA.i (ty := .int) rfl 0 rfl (fun h => h) (a0 := (16, .inl (fun _ => 0))) (N := 16) (fun _ => rfl) (by decide) (by decide) (by decide) (Nat.le_of_ble_eq_true rfl) (Nat.le_of_ble_eq_true rfl) dX10_init_168 (fun H hz hR hS => ?_)
  have hR : pR X s H (96 + 12) (oU O 96 (.inr (9, [.int 0, .ref (X.1 (96 + 1)), .ref (X.1 (96 + 2)), .int 0, .ref (X.1 (96 + 3)), .ref (X.1 (96 + 4)), .ref (X.1 (96 + 5)), .int 0, .int 0, .int 0, .int 0, .int 0, .int 0, .ref (X.1 (96 + 6)), .ref (X.1 (96 + 7)), .ref (X.1 (96 + 8)), .int 0, .int 0, .int 0, .int 0, .int 0, .int 0, .int 0, .ref (X.1 (96 + 9)), .int 0, .ref (X.1 (96 + 10)), .null, .null, .null, .null, .null, .null, .null, .null, .null, .null]))) := hR.drop (by rw [oU_n (by omega)]; exact hO _ (by omega)) rfl
  refine p_putF (C := RX10) (T := TX10) (N := 36) hx hb hF hown hR hS (by omega) rfl rfl tyX10_ok nmX10 26 (by decide) mw_5_163 rfl rfl hin rfl rfl rfl rfl (Nat.le_of_ble_eq_true rfl) dX10_init_170 (fun H locs hR hS => ?_)
  have hR : pR X s H (96 + 12) (oU O 96 (.inr (9, [.int 0, .ref (X.1 (96 + 1)), .ref (X.1 (96 + 2)), .int 0, .ref (X.1 (96 + 3)), .ref (X.1 (96 + 4)), .ref (X.1 (96 + 5)), .int 0, .int 0, .int 0, .int 0, .int 0, .int 0, .ref (X.1 (96 + 6)), .ref (X.1 (96 + 7)), .ref (X.1 (96 + 8)), .int 0, .int 0, .int 0, .int 0, .int 0, .int 0, .int 0, .ref (X.1 (96 + 9)), .int 0, .ref (X.1 (96 + 10)), .ref (X.1 (96 + 11)), .null, .null, .null, .null, .null, .null, .null, .null, .null]))) := hR
  refine lv_aload_n hx hb dX10_init_173 rfl (lv_at hl 0 rfl) ?_
  refine lv_bipush (v := 8) hx hb dX10_init_174 (by decide) ?_
  refine p_sz (n0 := 96 + 1) (n := (96 + 12)) hs0 (by omega) (Or.inl (by omega)) hR (fun hz => ?_)
  refine p_newa hx hb hz hR hS (atype := .int) hA.i (ty := .int) rfl 0 rfl (fun h => h) (a0 := (8, .inl (fun _ => 0))) (N := 8) (fun _ => rfl) (by decide) (by decide) (by decide) (Nat.le_of_ble_eq_true rfl) (Nat.le_of_ble_eq_true rfl) dX10_init_176 (fun H hz hR hS => ?_)
  have hR : pR X s H (96 + 13) (oU O 96 (.inr (9, [.int 0, .ref (X.1 (96 + 1)), .ref (X.1 (96 + 2)), .int 0, .ref (X.1 (96 + 3)), .ref (X.1 (96 + 4)), .ref (X.1 (96 + 5)), .int 0, .int 0, .int 0, .int 0, .int 0, .int 0, .ref (X.1 (96 + 6)), .ref (X.1 (96 + 7)), .ref (X.1 (96 + 8)), .int 0, .int 0, .int 0, .int 0, .int 0, .int 0, .int 0, .ref (X.1 (96 + 9)), .int 0, .ref (X.1 (96 + 10)), .ref (X.1 (96 + 11)), .null, .null, .null, .null, .null, .null, .null, .null, .null]))) := hR.drop (by rw [oU_n (by omega)]; exact hO _ (by omega)) rfl
  refine p_putF (C := RX10) (T := TX10) (N := 36) hx hb hF hown hR hS (by omega) rfl rfl tyX10_ok nmX10 27 (by decide) mw_5_164 rfl rfl hin rfl rfl rfl rfl (Nat.le_of_ble_eq_true rfl) dX10_init_178 (fun H locs hR hS => ?_)
  have hR : pR X s H (96 + 13) (oU O 96 (.inr (9, [.int 0, .ref (X.1 (96 + 1)), .ref (X.1 (96 + 2)), .int 0, .ref (X.1 (96 + 3)), .ref (X.1 (96 + 4)), .ref (X.1 (96 + 5)), .int 0, .int 0, .int 0, .int 0, .int 0, .int 0, .ref (X.1 (96 + 6)), .ref (X.1 (96 + 7)), .ref (X.1 (96 + 8)), .int 0, .int 0, .int 0, .int 0, .int 0, .int 0, .int 0, .ref (X.1 (96 + 9)), .int 0, .ref (X.1 (96 + 10)), .ref (X.1 (96 + 11)), .ref (X.1 (96 + 12)), .null, .null, .null, .null, .null, .null, .null, .null]))) := hR
  refine lv_aload_n hx hb dX10_init_181 rfl (lv_at hl 0 rfl) ?_
  refine lv_bipush (v := 8) hx hb dX10_init_182 (by decide) ?_
  refine p_sz (n0 := 96 + 1) (n := (96 + 13)) hs0 (by omega) (Or.inl (by omega)) hR (fun hz => ?_)
  refine p_newa hx hb hz hR hS (atype := .int) hA.i (ty := .int) rfl 0 rfl (fun h => h) (a0 := (8, .inl (fun _ => 0))) (N := 8) (fun _ => rfl) (by decide) (by decide) (by decide) (Nat.le_of_ble_eq_true rfl) (Nat.le_of_ble_eq_true rfl) dX10_init_184 (fun H hz hR hS => ?_)
  have hR : pR X s H (96 + 14) (oU O 96 (.inr (9, [.int 0, .ref (X.1 (96 + 1)), .ref (X.1 (96 + 2)), .int 0, .ref (X.1 (96 + 3)), .ref (X.1 (96 + 4)), .ref (X.1 (96 + 5)), .int 0, .int 0, .int 0, .int 0, .int 0, .int 0, .ref (X.1 (96 + 6)), .ref (X.1 (96 + 7)), .ref (X.1 (96 + 8)), .int 0, .int 0, .int 0, .int 0, .int 0, .int 0, .int 0, .ref (X.1 (96 + 9)), .int 0, .ref (X.1 (96 + 10)), .ref (X.1 (96 + 11)), .ref (X.1 (96 + 12)), .null, .null, .null, .null, .null, .null, .null, .null]))) := hR.drop (by rw [oU_n (by omega)]; exact hO _ (by omega)) rfl
  refine p_putF (C := RX10) (T := TX10) (N := 36) hx hb hF hown hR hS (by omega) rfl rfl tyX10_ok nmX10 28 (by decide) mw_5_165 rfl rfl hin rfl rfl rfl rfl (Nat.le_of_ble_eq_true rfl) dX10_init_186 (fun H locs hR hS => ?_)
  have hR : pR X s H (96 + 14) (oU O 96 (.inr (9, [.int 0, .ref (X.1 (96 + 1)), .ref (X.1 (96 + 2)), .int 0, .ref (X.1 (96 + 3)), .ref (X.1 (96 + 4)), .ref (X.1 (96 + 5)), .int 0, .int 0, .int 0, .int 0, .int 0, .int 0, .ref (X.1 (96 + 6)), .ref (X.1 (96 + 7)), .ref (X.1 (96 + 8)), .int 0, .int 0, .int 0, .int 0, .int 0, .int 0, .int 0, .ref (X.1 (96 + 9)), .int 0, .ref (X.1 (96 + 10)), .ref (X.1 (96 + 11)), .ref (X.1 (96 + 12)), .ref (X.1 (96 + 13)), .null, .null, .null, .null, .null, .null, .null]))) := hR
  refine lv_aload_n hx hb dX10_init_189 rfl (lv_at hl 0 rfl) ?_
  refine lv_bipush (v := 8) hx hb dX10_init_190 (by decide) ?_
  refine p_sz (n0 := 96 + 1) (n := (96 + 14)) hs0 (by omega) (Or.inl (by omega)) hR (fun hz => ?_)
  refine p_newa hx hb hz hR hS (atype := .int) hA.i (ty := .int) rfl 0 rfl (fun h => h) (a0 := (8, .inl (fun _ => 0))) (N := 8) (fun _ => rfl) (by decide) (by decide) (by decide) (Nat.le_of_ble_eq_true rfl) (Nat.le_of_ble_eq_true rfl) dX10_init_192 (fun H hz hR hS => ?_)
  have hR : pR X s H (96 + 15) (oU O 96 (.inr (9, [.int 0, .ref (X.1 (96 + 1)), .ref (X.1 (96 + 2)), .int 0, .ref (X.1 (96 + 3)), .ref (X.1 (96 + 4)), .ref (X.1 (96 + 5)), .int 0, .int 0, .int 0, .int 0, .int 0, .int 0, .ref (X.1 (96 + 6)), .ref (X.1 (96 + 7)), .ref (X.1 (96 + 8)), .int 0, .int 0, .int 0, .int 0, .int 0, .int 0, .int 0, .ref (X.1 (96 + 9)), .int 0, .ref (X.1 (96 + 10)), .ref (X.1 (96 + 11)), .ref (X.1 (96 + 12)), .ref (X.1 (96 + 13)), .null, .null, .null, .null, .null, .null, .null]))) := hR.drop (by rw [oU_n (by omega)]; exact hO _ (by omega)) rfl
  refine p_putF (C := RX10) (T := TX10) (N := 36) hx hb hF hown hR hS (by omega) rfl rfl tyX10_ok nmX10 29 (by decide) mw_5_166 rfl rfl hin rfl rfl rfl rfl (Nat.le_of_ble_eq_true rfl) dX10_init_194 (fun H locs hR hS => ?_)
  have hR : pR X s H (96 + 15) (oU O 96 (.inr (9, [.int 0, .ref (X.1 (96 + 1)), .ref (X.1 (96 + 2)), .int 0, .ref (X.1 (96 + 3)), .ref (X.1 (96 + 4)), .ref (X.1 (96 + 5)), .int 0, .int 0, .int 0, .int 0, .int 0, .int 0, .ref (X.1 (96 + 6)), .ref (X.1 (96 + 7)), .ref (X.1 (96 + 8)), .int 0, .int 0, .int 0, .int 0, .int 0, .int 0, .int 0, .ref (X.1 (96 + 9)), .int 0, .ref (X.1 (96 + 10)), .ref (X.1 (96 + 11)), .ref (X.1 (96 + 12)), .ref (X.1 (96 + 13)), .ref (X.1 (96 + 14)), .null, .null, .null, .null, .null, .null]))) := hR
  refine lv_aload_n hx hb dX10_init_197 rfl (lv_at hl 0 rfl) ?_
  refine lv_bipush (v := 8) hx hb dX10_init_198 (by decide) ?_
  refine p_sz (n0 := 96 + 1) (n := (96 + 15)) hs0 (by omega) (Or.inl (by omega)) hR (fun hz => ?_)
  refine p_newa hx hb hz hR hS (atype := .int) hA.i (ty := .int) rfl 0 rfl (fun h => h) (a0 := (8, .inl (fun _ => 0))) (N := 8) (fun _ => rfl) (by decide) (by decide) (by decide) (Nat.le_of_ble_eq_true rfl) (Nat.le_of_ble_eq_true rfl) dX10_init_200 (fun H hz hR hS => ?_)
  have hR : pR X s H (96 + 16) (oU O 96 (.inr (9, [.int 0, .ref (X.1 (96 + 1)), .ref (X.1 (96 + 2)), .int 0, .ref (X.1 (96 + 3)), .ref (X.1 (96 + 4)), .ref (X.1 (96 + 5)), .int 0, .int 0, .int 0, .int 0, .int 0, .int 0, .ref (X.1 (96 + 6)), .ref (X.1 (96 + 7)), .ref (X.1 (96 + 8)), .int 0, .int 0, .int 0, .int 0, .int 0, .int 0, .int 0, .ref (X.1 (96 + 9)), .int 0, .ref (X.1 (96 + 10)), .ref (X.1 (96 + 11)), .ref (X.1 (96 + 12)), .ref (X.1 (96 + 13)), .ref (X.1 (96 + 14)), .null, .null, .null, .null, .null, .null]))) := hR.drop (by rw [oU_n (by omega)]; exact hO _ (by omega)) rfl
  refine p_putF (C := RX10) (T := TX10) (N := 36) hx hb hF hown hR hS (by omega) rfl rfl tyX10_ok nmX10 30 (by decide) mw_5_167 rfl rfl hin rfl rfl rfl rfl (Nat.le_of_ble_eq_true rfl) dX10_init_202 (fun H locs hR hS => ?_)
  have hR : pR X s H (96 + 16) (oU O 96 (.inr (9, [.int 0, .ref (X.1 (96 + 1)), .ref (X.1 (96 + 2)), .int 0, .ref (X.1 (96 + 3)), .ref (X.1 (96 + 4)), .ref (X.1 (96 + 5)), .int 0, .int 0, .int 0, .int 0, .int 0, .int 0, .ref (X.1 (96 + 6)), .ref (X.1 (96 + 7)), .ref (X.1 (96 + 8)), .int 0, .int 0, .int 0, .int 0, .int 0, .int 0, .int 0, .ref (X.1 (96 + 9)), .int 0, .ref (X.1 (96 + 10)), .ref (X.1 (96 + 11)), .ref (X.1 (96 + 12)), .ref (X.1 (96 + 13)), .ref (X.1 (96 + 14)), .ref (X.1 (96 + 15)), .null, .null, .null, .null, .null]))) := hR
  refine lv_aload_n hx hb dX10_init_205 rfl (lv_at hl 0 rfl) ?_
  refine lv_bipush (v := 8) hx hb dX10_init_206 (by decide) ?_
  refine p_sz (n0 := 96 + 1) (n := (96 + 16)) hs0 (by omega) (Or.inl (by omega)) hR (fun hz => ?_)
  refine p_newa hx hb hz hR hS (atype := .int) hA.i (ty := .int) rfl 0 rfl (fun h => h) (a0 := (8, .inl (fun _ => 0))) (N := 8) (fun _ => rfl) (by decide) (by decide) (by decide) (Nat.le_of_ble_eq_true rfl) (Nat.le_of_ble_eq_true rfl) dX10_init_208 (fun H hz hR hS => ?_)
  have hR : pR X s H (96 + 17) (oU O 96 (.inr (9, [.int 0, .ref (X.1 (96 + 1)), .ref (X.1 (96 + 2)), .int 0, .ref (X.1 (96 + 3)), .ref (X.1 (96 + 4)), .ref (X.1 (96 + 5)), .int 0, .int 0, .int 0, .int 0, .int 0, .int 0, .ref (X.1 (96 + 6)), .ref (X.1 (96 + 7)), .ref (X.1 (96 + 8)), .int 0, .int 0, .int 0, .int 0, .int 0, .int 0, .int 0, .ref (X.1 (96 + 9)), .int 0, .ref (X.1 (96 + 10)), .ref (X.1 (96 + 11)), .ref (X.1 (96 + 12)), .ref (X.1 (96 + 13)), .ref (X.1 (96 + 14)), .ref (X.1 (96 + 15)), .null, .null, .null, .null, .null]))) := hR.drop (by rw [oU_n (by omega)]; exact hO _ (by omega)) rfl
  refine p_putF (C := RX10) (T := TX10) (N := 36) hx hb hF hown hR hS (by omega) rfl rfl tyX10_ok nmX10 31 (by decide) mw_5_168 rfl rfl hin rfl rfl rfl rfl (Nat.le_of_ble_eq_true rfl) dX10_init_210 (fun H locs hR hS => ?_)
  have hR : pR X s H (96 + 17) (oU O 96 (.inr (9, [.int 0, .ref (X.1 (96 + 1)), .ref (X.1 (96 + 2)), .int 0, .ref (X.1 (96 + 3)), .ref (X.1 (96 + 4)), .ref (X.1 (96 + 5)), .int 0, .int 0, .int 0, .int 0, .int 0, .int 0, .ref (X.1 (96 + 6)), .ref (X.1 (96 + 7)), .ref (X.1 (96 + 8)), .int 0, .int 0, .int 0, .int 0, .int 0, .int 0, .int 0, .ref (X.1 (96 + 9)), .int 0, .ref (X.1 (96 + 10)), .ref (X.1 (96 + 11)), .ref (X.1 (96 + 12)), .ref (X.1 (96 + 13)), .ref (X.1 (96 + 14)), .ref (X.1 (96 + 15)), .ref (X.1 (96 + 16)), .null, .null, .null, .null]))) := hR
  refine lv_aload_n hx hb dX10_init_213 rfl (lv_at hl 0 rfl) ?_
  refine lv_bipush (v := 8) hx hb dX10_init_214 (by decide) ?_
  refine p_sz (n0 := 96 + 1) (n := (96 + 17)) hs0 (by omega) (Or.inl (by omega)) hR (fun hz => ?_)
  refine p_newa hx hb hz hR hS (atype := .int) hA.i (ty := .int) rfl 0 rfl (fun h => h) (a0 := (8, .inl (fun _ => 0))) (N := 8) (fun _ => rfl) (by decide) (by decide) (by decide) (Nat.le_of_ble_eq_true rfl) (Nat.le_of_ble_eq_true rfl) dX10_init_216 (fun H hz hR hS => ?_)
  have hR : pR X s H (96 + 18) (oU O 96 (.inr (9, [.int 0, .ref (X.1 (96 + 1)), .ref (X.1 (96 + 2)), .int 0, .ref (X.1 (96 + 3)), .ref (X.1 (96 + 4)), .ref (X.1 (96 + 5)), .int 0, .int 0, .int 0, .int 0, .int 0, .int 0, .ref (X.1 (96 + 6)), .ref (X.1 (96 + 7)), .ref (X.1 (96 + 8)), .int 0, .int 0, .int 0, .int 0, .int 0, .int 0, .int 0, .ref (X.1 (96 + 9)), .int 0, .ref (X.1 (96 + 10)), .ref (X.1 (96 + 11)), .ref (X.1 (96 + 12)), .ref (X.1 (96 + 13)), .ref (X.1 (96 + 14)), .ref (X.1 (96 + 15)), .ref (X.1 (96 + 16)), .null, .null, .null, .null]))) := hR.drop (by rw [oU_n (by omega)]; exact hO _ (by omega)) rfl
  refine p_putF (C := RX10) (T := TX10) (N := 36) hx hb hF hown hR hS (by omega) rfl rfl tyX10_ok nmX10 32 (by decide) mw_5_169 rfl rfl hin rfl rfl rfl rfl (Nat.le_of_ble_eq_true rfl) dX10_init_218 (fun H locs hR hS => ?_)
  have hR : pR X s H (96 + 18) (oU O 96 (.inr (9, [.int 0, .ref (X.1 (96 + 1)), .ref (X.1 (96 + 2)), .int 0, .ref (X.1 (96 + 3)), .ref (X.1 (96 + 4)), .ref (X.1 (96 + 5)), .int 0, .int 0, .int 0, .int 0, .int 0, .int 0, .ref (X.1 (96 + 6)), .ref (X.1 (96 + 7)), .ref (X.1 (96 + 8)), .int 0, .int 0, .int 0, .int 0, .int 0, .int 0, .int 0, .ref (X.1 (96 + 9)), .int 0, .ref (X.1 (96 + 10)), .ref (X.1 (96 + 11)), .ref (X.1 (96 + 12)), .ref (X.1 (96 + 13)), .ref (X.1 (96 + 14)), .ref (X.1 (96 + 15)), .ref (X.1 (96 + 16)), .ref (X.1 (96 + 17)), .null, .null, .null]))) := hR
  refine lv_aload_n hx hb dX10_init_221 rfl (lv_at hl 0 rfl) ?_
  refine lv_bipush (v := 8) hx hb dX10_init_222 (by decide) ?_
  refine p_sz (n0 := 96 + 1) (n := (96 + 18)) hs0 (by omega) (Or.inl (by omega)) hR (fun hz => ?_)
  refine p_newa hx hb hz hR hS (atype := .int) hA.i (ty := .int) rfl 0 rfl (fun h => h) (a0 := (8, .inl (fun _ => 0))) (N := 8) (fun _ => rfl) (by decide) (by decide) (by decide) (Nat.le_of_ble_eq_true rfl) (Nat.le_of_ble_eq_true rfl) dX10_init_224 (fun H hz hR hS => ?_)
  have hR : pR X s H (96 + 19) (oU O 96 (.inr (9, [.int 0, .ref (X.1 (96 + 1)), .ref (X.1 (96 + 2)), .int 0, .ref (X.1 (96 + 3)), .ref (X.1 (96 + 4)), .ref (X.1 (96 + 5)), .int 0, .int 0, .int 0, .int 0, .int 0, .int 0, .ref (X.1 (96 + 6)), .ref (X.1 (96 + 7)), .ref (X.1 (96 + 8)), .int 0, .int 0, .int 0, .int 0, .int 0, .int 0, .int 0, .ref (X.1 (96 + 9)), .int 0, .ref (X.1 (96 + 10)), .ref (X.1 (96 + 11)), .ref (X.1 (96 + 12)), .ref (X.1 (96 + 13)), .ref (X.1 (96 + 14)), .ref (X.1 (96 + 15)), .ref (X.1 (96 + 16)), .ref (X.1 (96 + 17)), .null, .null, .null]))) := hR.drop (by rw [oU_n (by omega)]; exact hO _ (by omega)) rfl
  refine p_putF (C := RX10) (T := TX10) (N := 36) hx hb hF hown hR hS (by omega) rfl rfl tyX10_ok nmX10 33 (by decide) mw_5_170 rfl rfl hin rfl rfl rfl rfl (Nat.le_of_ble_eq_true rfl) dX10_init_226 (fun H locs hR hS => ?_)
  have hR : pR X s H (96 + 19) (oU O 96 (.inr (9, [.int 0, .ref (X.1 (96 + 1)), .ref (X.1 (96 + 2)), .int 0, .ref (X.1 (96 + 3)), .ref (X.1 (96 + 4)), .ref (X.1 (96 + 5)), .int 0, .int 0, .int 0, .int 0, .int 0, .int 0, .ref (X.1 (96 + 6)), .ref (X.1 (96 + 7)), .ref (X.1 (96 + 8)), .int 0, .int 0, .int 0, .int 0, .int 0, .int 0, .int 0, .ref (X.1 (96 + 9)), .int 0, .ref (X.1 (96 + 10)), .ref (X.1 (96 + 11)), .ref (X.1 (96 + 12)), .ref (X.1 (96 + 13)), .ref (X.1 (96 + 14)), .ref (X.1 (96 + 15)), .ref (X.1 (96 + 16)), .ref (X.1 (96 + 17)), .ref (X.1 (96 + 18)), .null, .null]))) := hR
  refine lv_aload_n hx hb dX10_init_229 rfl (lv_at hl 0 rfl) ?_
  refine lv_sipush (v := 720) hx hb dX10_init_230 (by decide) ?_
  refine p_sz (n0 := 96 + 1) (n := (96 + 19)) hs0 (by omega) (Or.inl (by omega)) hR (fun hz => ?_)
  refine p_newa hx hb hz hR hS (atype := .int) hA.i (ty := .int) rfl 0 rfl (fun h => h) (a0 := (720, .inl (fun _ => 0))) (N := 720) (fun _ => rfl) (by decide) (by decide) (by decide) (Nat.le_of_ble_eq_true rfl) (Nat.le_of_ble_eq_true rfl) dX10_init_233 (fun H hz hR hS => ?_)
  have hR : pR X s H (96 + 20) (oU O 96 (.inr (9, [.int 0, .ref (X.1 (96 + 1)), .ref (X.1 (96 + 2)), .int 0, .ref (X.1 (96 + 3)), .ref (X.1 (96 + 4)), .ref (X.1 (96 + 5)), .int 0, .int 0, .int 0, .int 0, .int 0, .int 0, .ref (X.1 (96 + 6)), .ref (X.1 (96 + 7)), .ref (X.1 (96 + 8)), .int 0, .int 0, .int 0, .int 0, .int 0, .int 0, .int 0, .ref (X.1 (96 + 9)), .int 0, .ref (X.1 (96 + 10)), .ref (X.1 (96 + 11)), .ref (X.1 (96 + 12)), .ref (X.1 (96 + 13)), .ref (X.1 (96 + 14)), .ref (X.1 (96 + 15)), .ref (X.1 (96 + 16)), .ref (X.1 (96 + 17)), .ref (X.1 (96 + 18)), .null, .null]))) := hR.drop (by rw [oU_n (by omega)]; exact hO _ (by omega)) rfl
  refine p_putF (C := RX10) (T := TX10) (N := 36) hx hb hF hown hR hS (by omega) rfl rfl tyX10_ok nmX10 34 (by decide) mw_5_171 rfl rfl hin rfl rfl rfl rfl (Nat.le_of_ble_eq_true rfl) dX10_init_235 (fun H locs hR hS => ?_)
  have hR : pR X s H (96 + 20) (oU O 96 (.inr (9, [.int 0, .ref (X.1 (96 + 1)), .ref (X.1 (96 + 2)), .int 0, .ref (X.1 (96 + 3)), .ref (X.1 (96 + 4)), .ref (X.1 (96 + 5)), .int 0, .int 0, .int 0, .int 0, .int 0, .int 0, .ref (X.1 (96 + 6)), .ref (X.1 (96 + 7)), .ref (X.1 (96 + 8)), .int 0, .int 0, .int 0, .int 0, .int 0, .int 0, .int 0, .ref (X.1 (96 + 9)), .int 0, .ref (X.1 (96 + 10)), .ref (X.1 (96 + 11)), .ref (X.1 (96 + 12)), .ref (X.1 (96 + 13)), .ref (X.1 (96 + 14)), .ref (X.1 (96 + 15)), .ref (X.1 (96 + 16)), .ref (X.1 (96 + 17)), .ref (X.1 (96 + 18)), .ref (X.1 (96 + 19)), .null]))) := hR
  refine lv_aload_n hx hb dX10_init_238 rfl (lv_at hl 0 rfl) ?_
  refine lv_bipush (v := 90) hx hb dX10_init_239 (by decide) ?_
  refine p_sz (n0 := 96 + 1) (n := (96 + 20)) hs0 (by omega) (Or.inl (by omega)) hR (fun hz => ?_)
  refine p_newa hx hb hz hR hS (atype := .int) hA.i (ty := .int) rfl 0 rfl (fun h => h) (a0 := (90, .inl (fun _ => 0))) (N := 90) (fun _ => rfl) (by decide) (by decide) (by decide) (Nat.le_of_ble_eq_true rfl) (Nat.le_of_ble_eq_true rfl) dX10_init_241 (fun H hz hR hS => ?_)
  have hR : pR X s H (96 + 21) (oU O 96 (.inr (9, [.int 0, .ref (X.1 (96 + 1)), .ref (X.1 (96 + 2)), .int 0, .ref (X.1 (96 + 3)), .ref (X.1 (96 + 4)), .ref (X.1 (96 + 5)), .int 0, .int 0, .int 0, .int 0, .int 0, .int 0, .ref (X.1 (96 + 6)), .ref (X.1 (96 + 7)), .ref (X.1 (96 + 8)), .int 0, .int 0, .int 0, .int 0, .int 0, .int 0, .int 0, .ref (X.1 (96 + 9)), .int 0, .ref (X.1 (96 + 10)), .ref (X.1 (96 + 11)), .ref (X.1 (96 + 12)), .ref (X.1 (96 + 13)), .ref (X.1 (96 + 14)), .ref (X.1 (96 + 15)), .ref (X.1 (96 + 16)), .ref (X.1 (96 + 17)), .ref (X.1 (96 + 18)), .ref (X.1 (96 + 19)), .null]))) := hR.drop (by rw [oU_n (by omega)]; exact hO _ (by omega)) rfl
  refine p_putF (C := RX10) (T := TX10) (N := 36) hx hb hF hown hR hS (by omega) rfl rfl tyX10_ok nmX10 35 (by decide) mw_5_172 rfl rfl hin rfl rfl rfl rfl (Nat.le_of_ble_eq_true rfl) dX10_init_243 (fun H locs hR hS => ?_)
  have hR : pR X s H (96 + 21) (oU O 96 (.inr (9, [.int 0, .ref (X.1 (96 + 1)), .ref (X.1 (96 + 2)), .int 0, .ref (X.1 (96 + 3)), .ref (X.1 (96 + 4)), .ref (X.1 (96 + 5)), .int 0, .int 0, .int 0, .int 0, .int 0, .int 0, .ref (X.1 (96 + 6)), .ref (X.1 (96 + 7)), .ref (X.1 (96 + 8)), .int 0, .int 0, .int 0, .int 0, .int 0, .int 0, .int 0, .ref (X.1 (96 + 9)), .int 0, .ref (X.1 (96 + 10)), .ref (X.1 (96 + 11)), .ref (X.1 (96 + 12)), .ref (X.1 (96 + 13)), .ref (X.1 (96 + 14)), .ref (X.1 (96 + 15)), .ref (X.1 (96 + 16)), .ref (X.1 (96 + 17)), .ref (X.1 (96 + 18)), .ref (X.1 (96 + 19)), .ref (X.1 (96 + 20))]))) := hR
  refine W.widen (k := 20) (n := 4844) (by omega) (by omega) ?_
  exact p_vr hx hb hlk hr (hR.drop (hO _ (by omega)) rfl) hS dX10_init_246
