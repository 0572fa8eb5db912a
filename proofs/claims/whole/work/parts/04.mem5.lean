section MR5
variable {p : Program} {l : Launch} {e : Env} {R : Room} {s : State} {m : MethodId} {args : Array Value} {below : List Frame} {meth : Method} {c : Code} {H : Heap} {locs : List Loc} {Q : State → Prop}
variable {cc : ByteArray} {pc : Nat} {ls : Array Slot} {rest : List Value} {X : mX} {M : mM} {k n : Nat}
theorem m_getR0 (hx : p.tables.exec = Jvm.exec) (hb : c.code = cc) (hF : mF X s s.heap) {own : String} (hown : s.vm.findClass own = some m.cls) (hR : mR X s H M) (hk : isReader k) {index : Nat} (hlink : mGw (.fieldLink own index RX7 "text" "[I")) (hdg : decode cc pc = .ok (.getfield index, 3))
    (kk : W p l e R s m args below meth c H locs 0 0 Q (F0 m (pc + 3) ls (mtx X M k :: rest))) : W p l e R s m args below meth c H locs 0 0 Q (F0 m pc ls (.ref (X.1 k) :: rest)) := by
  have hl := hF.w (args := args) hlink
  unfold isReader at hk
  rcases hk with rfl | rfl | rfl
  · exact m_get hx hb hF hown hR (ent1 (n := 0) rfl) (n := 0) rfl rfl 0 (by decide) hl rfl rfl hdg kk
  · exact m_get hx hb hF hown hR (ent5 (n := 0) rfl) (n := 0) rfl rfl 0 (by decide) hl rfl rfl hdg kk
  · exact m_get hx hb hF hown hR (ent4 (n := 0) rfl) (n := 0) rfl rfl 0 (by decide) hl rfl rfl hdg kk
theorem m_getR1 (hx : p.tables.exec = Jvm.exec) (hb : c.code = cc) (hF : mF X s s.heap) {own : String} (hown : s.vm.findClass own = some m.cls) (hR : mR X s H M) (hk : isReader k) {index : Nat} (hlink : mGw (.fieldLink own index RX7 "size" "I")) (hdg : decode cc pc = .ok (.getfield index, 3))
    (kk : W p l e R s m args below meth c H locs 0 0 Q (F0 m (pc + 3) ls (.int (M.1 k 1) :: rest))) : W p l e R s m args below meth c H locs 0 0 Q (F0 m pc ls (.ref (X.1 k) :: rest)) := by
  have hl := hF.w (args := args) hlink
  unfold isReader at hk
  rcases hk with rfl | rfl | rfl
  · exact m_get hx hb hF hown hR (ent1 (n := 0) rfl) (n := 0) rfl rfl 1 (by decide) hl rfl rfl hdg kk
  · exact m_get hx hb hF hown hR (ent5 (n := 0) rfl) (n := 0) rfl rfl 1 (by decide) hl rfl rfl hdg kk
  · exact m_get hx hb hF hown hR (ent4 (n := 0) rfl) (n := 0) rfl rfl 1 (by decide) hl rfl rfl hdg kk
theorem m_putR1 (hx : p.tables.exec = Jvm.exec) (hb : c.code = cc) (hF : mF X s s.heap) {own : String} (hown : s.vm.findClass own = some m.cls) (hR : mR X s H M) (hS : va_S (mL X) s.heap H locs) (hk : isReader k) {index : Nat} (hlink : mGw (.fieldLink own index RX7 "size" "I")) (hdg : decode cc pc = .ok (.putfield index, 3)) {v : Int32} {M1 : mM} (hM : M1 = mI M k 1 v)
    (kk : ∀ (H : Heap) (locs : List Loc), mR X s H M1 → va_S (mL X) s.heap H locs → W p l e R s m args below meth c H locs 0 0 Q (F0 m (pc + 3) ls rest)) : W p l e R s m args below meth c H locs 0 0 Q (F0 m pc ls (.int v :: .ref (X.1 k) :: rest)) := by
  subst hM
  have hl := hF.w (args := args) hlink
  unfold isReader at hk
  rcases hk with rfl | rfl | rfl
  · exact m_put hx hb hF hown hR hS (ent1 (n := 0) rfl) (ent1 (n := 0) rfl) mI_entne (n := 0) rfl rfl tyX1_ok nmX1 1 (by decide) sf1_1 hl rfl rfl (ty := .int) rfl rfl rfl (Nat.le_of_ble_eq_true rfl) hdg kk
  · exact m_put hx hb hF hown hR hS (ent5 (n := 0) rfl) (ent5 (n := 0) rfl) mI_entne (n := 0) rfl rfl tyX5_ok nmX5 1 (by decide) sf5_1 hl rfl rfl (ty := .int) rfl rfl rfl (Nat.le_of_ble_eq_true rfl) hdg kk
  · exact m_put hx hb hF hown hR hS (ent4 (n := 0) rfl) (ent4 (n := 0) rfl) mI_entne (n := 0) rfl rfl tyX4_ok nmX4 1 (by decide) sf4_1 hl rfl rfl (ty := .int) rfl rfl rfl (Nat.le_of_ble_eq_true rfl) hdg kk
theorem m_getR2 (hx : p.tables.exec = Jvm.exec) (hb : c.code = cc) (hF : mF X s s.heap) {own : String} (hown : s.vm.findClass own = some m.cls) (hR : mR X s H M) (hk : isReader k) {index : Nat} (hlink : mGw (.fieldLink own index RX7 "place" "I")) (hdg : decode cc pc = .ok (.getfield index, 3))
    (kk : W p l e R s m args below meth c H locs 0 0 Q (F0 m (pc + 3) ls (.int (M.1 k 2) :: rest))) : W p l e R s m args below meth c H locs 0 0 Q (F0 m pc ls (.ref (X.1 k) :: rest)) := by
  have hl := hF.w (args := args) hlink
  unfold isReader at hk
  rcases hk with rfl | rfl | rfl
  · exact m_get hx hb hF hown hR (ent1 (n := 0) rfl) (n := 0) rfl rfl 2 (by decide) hl rfl rfl hdg kk
  · exact m_get hx hb hF hown hR (ent5 (n := 0) rfl) (n := 0) rfl rfl 2 (by decide) hl rfl rfl hdg kk
  · exact m_get hx hb hF hown hR (ent4 (n := 0) rfl) (n := 0) rfl rfl 2 (by decide) hl rfl rfl hdg kk
theorem m_putR2 (hx : p.tables.exec = Jvm.exec) (hb : c.code = cc) (hF : mF X s s.heap) {own : String} (hown : s.vm.findClass own = some m.cls) (hR : mR X s H M) (hS : va_S (mL X) s.heap H locs) (hk : isReader k) {index : Nat} (hlink : mGw (.fieldLink own index RX7 "place" "I")) (hdg : decode cc pc = .ok (.putfield index, 3)) {v : Int32} {M1 : mM} (hM : M1 = mI M k 2 v)
    (kk : ∀ (H : Heap) (locs : List Loc), mR X s H M1 → va_S (mL X) s.heap H locs → W p l e R s m args below meth c H locs 0 0 Q (F0 m (pc + 3) ls rest)) : W p l e R s m args below meth c H locs 0 0 Q (F0 m pc ls (.int v :: .ref (X.1 k) :: rest)) := by
  subst hM
  have hl := hF.w (args := args) hlink
  unfold isReader at hk
  rcases hk with rfl | rfl | rfl
  · exact m_put hx hb hF hown hR hS (ent1 (n := 0) rfl) (ent1 (n := 0) rfl) mI_entne (n := 0) rfl rfl tyX1_ok nmX1 2 (by decide) sf1_2 hl rfl rfl (ty := .int) rfl rfl rfl (Nat.le_of_ble_eq_true rfl) hdg kk
  · exact m_put hx hb hF hown hR hS (ent5 (n := 0) rfl) (ent5 (n := 0) rfl) mI_entne (n := 0) rfl rfl tyX5_ok nmX5 2 (by decide) sf5_2 hl rfl rfl (ty := .int) rfl rfl rfl (Nat.le_of_ble_eq_true rfl) hdg kk
  · exact m_put hx hb hF hown hR hS (ent4 (n := 0) rfl) (ent4 (n := 0) rfl) mI_entne (n := 0) rfl rfl tyX4_ok nmX4 2 (by decide) sf4_2 hl rfl rfl (ty := .int) rfl rfl rfl (Nat.le_of_ble_eq_true rfl) hdg kk
theorem m_getR3 (hx : p.tables.exec = Jvm.exec) (hb : c.code = cc) (hF : mF X s s.heap) {own : String} (hown : s.vm.findClass own = some m.cls) (hR : mR X s H M) (hk : isReader k) {index : Nat} (hlink : mGw (.fieldLink own index RX7 "fault" "I")) (hdg : decode cc pc = .ok (.getfield index, 3))
    (kk : W p l e R s m args below meth c H locs 0 0 Q (F0 m (pc + 3) ls (.int (M.1 k 3) :: rest))) : W p l e R s m args below meth c H locs 0 0 Q (F0 m pc ls (.ref (X.1 k) :: rest)) := by
  have hl := hF.w (args := args) hlink
  unfold isReader at hk
  rcases hk with rfl | rfl | rfl
  · exact m_get hx hb hF hown hR (ent1 (n := 0) rfl) (n := 0) rfl rfl 3 (by decide) hl rfl rfl hdg kk
  · exact m_get hx hb hF hown hR (ent5 (n := 0) rfl) (n := 0) rfl rfl 3 (by decide) hl rfl rfl hdg kk
  · exact m_get hx hb hF hown hR (ent4 (n := 0) rfl) (n := 0) rfl rfl 3 (by decide) hl rfl rfl hdg kk
theorem m_putR3 (hx : p.tables.exec = Jvm.exec) (hb : c.code = cc) (hF : mF X s s.heap) {own : String} (hown : s.vm.findClass own = some m.cls) (hR : mR X s H M) (hS : va_S (mL X) s.heap H locs) (hk : isReader k) {index : Nat} (hlink : mGw (.fieldLink own index RX7 "fault" "I")) (hdg : decode cc pc = .ok (.putfield index, 3)) {v : Int32} {M1 : mM} (hM : M1 = mI M k 3 v)
    (kk : ∀ (H : Heap) (locs : List Loc), mR X s H M1 → va_S (mL X) s.heap H locs → W p l e R s m args below meth c H locs 0 0 Q (F0 m (pc + 3) ls rest)) : W p l e R s m args below meth c H locs 0 0 Q (F0 m pc ls (.int v :: .ref (X.1 k) :: rest)) := by
  subst hM
  have hl := hF.w (args := args) hlink
  unfold isReader at hk
  rcases hk with rfl | rfl | rfl
  · exact m_put hx hb hF hown hR hS (ent1 (n := 0) rfl) (ent1 (n := 0) rfl) mI_entne (n := 0) rfl rfl tyX1_ok nmX1 3 (by decide) sf1_3 hl rfl rfl (ty := .int) rfl rfl rfl (Nat.le_of_ble_eq_true rfl) hdg kk
  · exact m_put hx hb hF hown hR hS (ent5 (n := 0) rfl) (ent5 (n := 0) rfl) mI_entne (n := 0) rfl rfl tyX5_ok nmX5 3 (by decide) sf5_3 hl rfl rfl (ty := .int) rfl rfl rfl (Nat.le_of_ble_eq_true rfl) hdg kk
  · exact m_put hx hb hF hown hR hS (ent4 (n := 0) rfl) (ent4 (n := 0) rfl) mI_entne (n := 0) rfl rfl tyX4_ok nmX4 3 (by decide) sf4_3 hl rfl rfl (ty := .int) rfl rfl rfl (Nat.le_of_ble_eq_true rfl) hdg kk
theorem m_getRt (hx : p.tables.exec = Jvm.exec) (hb : c.code = cc) (hF : mF X s s.heap) {own : String} (hown : s.vm.findClass own = some m.cls) (hR : mR X s H M) (hk : isReader k) (ht : isRow (M.2.2 k)) {index : Nat} (hlink : mGw (.fieldLink own index RX7 "text" "[I")) (hdg : decode cc pc = .ok (.getfield index, 3))
    (kk : W p l e R s m args below meth c H locs 0 0 Q (F0 m (pc + 3) ls (.ref (X.1 (M.2.2 k)) :: rest))) : W p l e R s m args below meth c H locs 0 0 Q (F0 m pc ls (.ref (X.1 k) :: rest)) := by
  refine m_getR0 hx hb hF hown hR hk hlink hdg ?_
  have h0 : M.2.2 k ≠ 0 := fun q => by rw [q] at ht; exact absurd ht (by decide)
  have e9 : mtx X M k = .ref (X.1 (M.2.2 k)) := by unfold mtx; rw [if_neg h0]
  rw [e9]; exact kk
theorem m_putRt (hx : p.tables.exec = Jvm.exec) (hb : c.code = cc) (hF : mF X s s.heap) {own : String} (hown : s.vm.findClass own = some m.cls) (hR : mR X s H M) (hS : va_S (mL X) s.heap H locs) (hk : isReader k) {t : Nat} (ht : isRow t) {index : Nat} (hlink : mGw (.fieldLink own index RX7 "text" "[I")) (hdg : decode cc pc = .ok (.putfield index, 3)) {M1 : mM} (hM : M1 = mT M k t)
    (kk : ∀ (H : Heap) (locs : List Loc), mR X s H M1 → va_S (mL X) s.heap H locs → W p l e R s m args below meth c H locs 0 0 Q (F0 m (pc + 3) ls rest)) : W p l e R s m args below meth c H locs 0 0 Q (F0 m pc ls (.ref (X.1 t) :: .ref (X.1 k) :: rest)) := by
  subst hM
  have h0 : t ≠ 0 := fun q => by rw [q] at ht; exact absurd ht (by decide)
  have hl := hF.w (args := args) hlink
  unfold isReader at hk
  rcases hk with rfl | rfl | rfl
  · exact m_put hx hb hF hown hR hS (ent1 (n := 0) rfl) (ent1 (n := 0) rfl) mT_entne (n := 0) rfl rfl tyX1_ok nmX1 0 (by decide) (sft1 h0) hl rfl rfl (ty := .array .int) rfl rfl rfl (Nat.le_of_ble_eq_true rfl) hdg kk
  · exact m_put hx hb hF hown hR hS (ent5 (n := 0) rfl) (ent5 (n := 0) rfl) mT_entne (n := 0) rfl rfl tyX5_ok nmX5 0 (by decide) (sft5 h0) hl rfl rfl (ty := .array .int) rfl rfl rfl (Nat.le_of_ble_eq_true rfl) hdg kk
  · exact m_put hx hb hF hown hR hS (ent4 (n := 0) rfl) (ent4 (n := 0) rfl) mT_entne (n := 0) rfl rfl tyX4_ok nmX4 0 (by decide) (sft4 h0) hl rfl rfl (ty := .array .int) rfl rfl rfl (Nat.le_of_ble_eq_true rfl) hdg kk
theorem lv_topc {x : Nat} (k : ∀ y : Nat, y = x → W p l e R s m args below meth c H locs 0 0 Q (F0 m pc ls (.ref (X.1 y) :: rest))) : W p l e R s m args below meth c H locs 0 0 Q (F0 m pc ls (.ref (X.1 x) :: rest)) := k x rfl
theorem m_swOut {x : Int32} {lo hi : Int} (h : ¬ (lo ≤ x.toInt ∧ x.toInt ≤ hi)) : x.toInt < lo ∨ hi < x.toInt := by omega
end MR5
theorem kd_0 : kd 0 = (8, 0) := rfl
theorem kd_1 : kd 1 = (7, 0) := rfl
theorem kd_2 : kd 2 = (0, 0) := rfl
theorem kd_3 : kd 3 = (10, 16) := rfl
theorem kd_4 : kd 4 = (10, 16) := rfl
theorem kd_5 : kd 5 = (10, 16) := rfl
theorem kd_6 : kd 6 = (11, 16) := rfl
theorem kd_7 : kd 7 = (10, 16) := rfl
theorem kd_8 : kd 8 = (10, 120) := rfl
theorem kd_9 : kd 9 = (10, 16) := rfl
theorem kd_10 : kd 10 = (10, 16) := rfl
theorem kd_11 : kd 11 = (10, 16) := rfl
theorem kd_12 : kd 12 = (10, 16) := rfl
theorem kd_13 : kd 13 = (10, 16) := rfl
theorem kd_14 : kd 14 = (12, 16) := rfl
theorem kd_15 : kd 15 = (14, 8) := rfl
theorem kd_16 : kd 16 = (10, 90) := rfl
theorem kd_17 : kd 17 = (10, 90) := rfl
theorem kd_18 : kd 18 = (10, 90) := rfl
theorem kd_19 : kd 19 = (10, 90) := rfl
theorem kd_20 : kd 20 = (10, 90) := rfl
theorem kd_21 : kd 21 = (10, 90) := rfl
theorem kd_22 : kd 22 = (10, 90) := rfl
theorem kd_23 : kd 23 = (10, 90) := rfl
theorem kd_24 : kd 24 = (10, 8) := rfl
theorem kd_25 : kd 25 = (2, 0) := rfl
theorem kd_26 : kd 26 = (10, 40) := rfl
theorem kd_27 : kd 27 = (10, 40) := rfl
theorem kd_28 : kd 28 = (11, 40) := rfl
theorem kd_29 : kd 29 = (2, 0) := rfl
theorem kd_30 : kd 30 = (10, 40) := rfl
theorem kd_31 : kd 31 = (10, 40) := rfl
theorem kd_32 : kd 32 = (11, 40) := rfl
theorem kd_33 : kd 33 = (7, 0) := rfl
theorem kd_34 : kd 34 = (0, 0) := rfl
theorem kd_35 : kd 35 = (10, 16) := rfl
theorem kd_36 : kd 36 = (10, 16) := rfl
theorem kd_37 : kd 37 = (10, 16) := rfl
theorem kd_38 : kd 38 = (11, 16) := rfl
theorem kd_39 : kd 39 = (10, 16) := rfl
theorem kd_40 : kd 40 = (10, 120) := rfl
theorem kd_41 : kd 41 = (10, 16) := rfl
theorem kd_42 : kd 42 = (10, 16) := rfl
theorem kd_43 : kd 43 = (10, 16) := rfl
theorem kd_44 : kd 44 = (10, 16) := rfl
theorem kd_45 : kd 45 = (10, 16) := rfl
theorem kd_46 : kd 46 = (12, 16) := rfl
theorem kd_47 : kd 47 = (14, 8) := rfl
theorem kd_48 : kd 48 = (10, 90) := rfl
theorem kd_49 : kd 49 = (10, 90) := rfl
theorem kd_50 : kd 50 = (10, 90) := rfl
theorem kd_51 : kd 51 = (10, 90) := rfl
theorem kd_52 : kd 52 = (10, 90) := rfl
theorem kd_53 : kd 53 = (10, 90) := rfl
theorem kd_54 : kd 54 = (10, 90) := rfl
theorem kd_55 : kd 55 = (10, 90) := rfl
theorem kd_56 : kd 56 = (10, 8) := rfl
theorem kd_57 : kd 57 = (2, 0) := rfl
theorem kd_58 : kd 58 = (10, 40) := rfl
theorem kd_59 : kd 59 = (10, 40) := rfl
theorem kd_60 : kd 60 = (11, 40) := rfl
theorem kd_61 : kd 61 = (2, 0) := rfl
theorem kd_62 : kd 62 = (10, 40) := rfl
theorem kd_63 : kd 63 = (10, 40) := rfl
theorem kd_64 : kd 64 = (11, 40) := rfl
theorem kd_65 : kd 65 = (0, 0) := rfl
theorem kd_66 : kd 66 = (10, 16) := rfl
theorem kd_67 : kd 67 = (10, 16) := rfl
theorem kd_68 : kd 68 = (10, 16) := rfl
theorem kd_69 : kd 69 = (11, 16) := rfl
theorem kd_70 : kd 70 = (10, 16) := rfl
theorem kd_71 : kd 71 = (10, 120) := rfl
theorem kd_72 : kd 72 = (10, 16) := rfl
theorem kd_73 : kd 73 = (3, 0) := rfl
theorem kd_74 : kd 74 = (11, 120) := rfl
theorem kd_75 : kd 75 = (10, 4) := rfl
theorem kd_76 : kd 76 = (1, 0) := rfl
theorem kd_77 : kd 77 = (5, 0) := rfl
theorem kd_78 : kd 78 = (4, 0) := rfl
theorem kd_79 : kd 79 = (13, 8) := rfl
theorem kd_80 : kd 80 = (6, 0) := rfl
theorem kd_81 : kd 81 = (10, 90) := rfl
theorem kd_82 : kd 82 = (6, 0) := rfl
theorem kd_83 : kd 83 = (10, 90) := rfl
theorem kd_84 : kd 84 = (6, 0) := rfl
theorem kd_85 : kd 85 = (10, 90) := rfl
theorem kd_86 : kd 86 = (6, 0) := rfl
theorem kd_87 : kd 87 = (10, 90) := rfl
theorem kd_88 : kd 88 = (6, 0) := rfl
theorem kd_89 : kd 89 = (10, 90) := rfl
theorem kd_90 : kd 90 = (6, 0) := rfl
theorem kd_91 : kd 91 = (10, 90) := rfl
theorem kd_92 : kd 92 = (6, 0) := rfl
theorem kd_93 : kd 93 = (10, 90) := rfl
theorem kd_94 : kd 94 = (6, 0) := rfl
theorem kd_95 : kd 95 = (10, 90) := rfl
theorem kd_96 : kd 96 = (9, 0) := rfl
theorem kd_97 : kd 97 = (10, 1834) := rfl
theorem kd_98 : kd 98 = (10, 1834) := rfl
theorem kd_99 : kd 99 = (10, 80) := rfl
theorem kd_100 : kd 100 = (10, 16) := rfl
theorem kd_101 : kd 101 = (10, 90) := rfl
theorem kd_102 : kd 102 = (11, 8) := rfl
theorem kd_103 : kd 103 = (11, 8) := rfl
theorem kd_104 : kd 104 = (10, 8) := rfl
theorem kd_105 : kd 105 = (11, 80) := rfl
theorem kd_106 : kd 106 = (10, 4) := rfl
theorem kd_107 : kd 107 = (10, 16) := rfl
theorem kd_108 : kd 108 = (10, 8) := rfl
theorem kd_109 : kd 109 = (10, 8) := rfl
theorem kd_110 : kd 110 = (10, 8) := rfl
theorem kd_111 : kd 111 = (10, 8) := rfl
theorem kd_112 : kd 112 = (10, 8) := rfl
theorem kd_113 : kd 113 = (10, 8) := rfl
theorem kd_114 : kd 114 = (10, 8) := rfl
theorem kd_115 : kd 115 = (10, 720) := rfl
theorem kd_116 : kd 116 = (10, 90) := rfl
theorem kd_117 : kd 117 = (12, 1) := rfl
theorem isBody_2 : isBody 2 := by unfold isBody; omega
theorem isBody_34 : isBody 34 := by unfold isBody; omega
theorem isBody_65 : isBody 65 := by unfold isBody; omega
theorem isWorld_1 : isWorld 1 := by unfold isWorld; omega
theorem isWorld_33 : isWorld 33 := by unfold isWorld; omega
theorem isNotes_25 : isNotes 25 := by unfold isNotes; omega
theorem isNotes_29 : isNotes 29 := by unfold isNotes; omega
theorem isNotes_57 : isNotes 57 := by unfold isNotes; omega
theorem isNotes_61 : isNotes 61 := by unfold isNotes; omega
theorem isShelf_80 : isShelf 80 := by unfold isShelf; omega
theorem isShelf_82 : isShelf 82 := by unfold isShelf; omega
theorem isShelf_84 : isShelf 84 := by unfold isShelf; omega
theorem isShelf_86 : isShelf 86 := by unfold isShelf; omega
theorem isShelf_88 : isShelf 88 := by unfold isShelf; omega
theorem isShelf_90 : isShelf 90 := by unfold isShelf; omega
theorem isShelf_92 : isShelf 92 := by unfold isShelf; omega
theorem isShelf_94 : isShelf 94 := by unfold isShelf; omega
theorem isReader_76 : isReader 76 := by unfold isReader; omega
theorem isReader_77 : isReader 77 := by unfold isReader; omega
theorem isReader_78 : isReader 78 := by unfold isReader; omega
theorem vp_lt {j : Int32} {n : Nat} (h : vp_in j n) : j.toNatClampNeg < n := Nat.not_le.mp fun q => h (Or.inr q)
