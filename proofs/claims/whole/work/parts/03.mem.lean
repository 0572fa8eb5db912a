/-! the memory: every cell that the class, its reference and the law make, by number (printed by wip/gen/mem.py) -/
abbrev mM : Type := (Nat → Nat → Int32) × (Nat → Nat → Int64) × (Nat → Nat)
/-- addresses, tables of the classes, classes of the arrays, addresses of the static rows, the lowest address -/
abbrev mX : Type := (Nat → Nat) × va_G × (Nat → ClassId) × (Nat → Nat) × Nat
def kl : List (Nat × Nat) := [(8, 0), (7, 0), (0, 0), (10, 16), (10, 16), (10, 16), (11, 16), (10, 16), (10, 120), (10, 16), (10, 16), (10, 16), (10, 16), (10, 16), (12, 16), (14, 8), (10, 90), (10, 90), (10, 90), (10, 90), (10, 90), (10, 90), (10, 90), (10, 90), (10, 8), (2, 0), (10, 40), (10, 40), (11, 40), (2, 0), (10, 40), (10, 40), (11, 40), (7, 0), (0, 0), (10, 16), (10, 16), (10, 16), (11, 16), (10, 16), (10, 120), (10, 16), (10, 16), (10, 16), (10, 16), (10, 16), (12, 16), (14, 8), (10, 90), (10, 90), (10, 90), (10, 90), (10, 90), (10, 90), (10, 90), (10, 90), (10, 8), (2, 0), (10, 40), (10, 40), (11, 40), (2, 0), (10, 40), (10, 40), (11, 40), (0, 0), (10, 16), (10, 16), (10, 16), (11, 16), (10, 16), (10, 120), (10, 16), (3, 0), (11, 120), (10, 4), (1, 0), (5, 0), (4, 0), (13, 8), (6, 0), (10, 90), (6, 0), (10, 90), (6, 0), (10, 90), (6, 0), (10, 90), (6, 0), (10, 90), (6, 0), (10, 90), (6, 0), (10, 90), (6, 0), (10, 90), (9, 0), (10, 1834), (10, 1834), (10, 80), (10, 16), (10, 90), (11, 8), (11, 8), (10, 8), (11, 80), (10, 4), (10, 16), (10, 8), (10, 8), (10, 8), (10, 8), (10, 8), (10, 8), (10, 8), (10, 720), (10, 90), (12, 1)]
def kd (k : Nat) : Nat × Nat := kl.getD k (99, 0)
def mI (M : mM) (k j : Nat) (v : Int32) : mM := (fun a b => if a = k ∧ b = j then v else M.1 a b, M.2.1, M.2.2)
def mJ (M : mM) (k j : Nat) (v : Int64) : mM := (M.1, fun a b => if a = k ∧ b = j then v else M.2.1 a b, M.2.2)
def mT (M : mM) (k t : Nat) : mM := (M.1, M.2.1, fun a => if a = k then t else M.2.2 a)
def mC (M : mM) (k1 k2 sp dp n : Nat) : mM := (fun a b => if a = k2 ∧ dp ≤ b ∧ b < dp + n then M.1 k1 (sp + (b - dp)) else M.1 a b, M.2.1, M.2.2)
def mCJ (M : mM) (k1 k2 sp dp n : Nat) : mM := (M.1, fun a b => if a = k2 ∧ dp ≤ b ∧ b < dp + n then M.2.1 k1 (sp + (b - dp)) else M.2.1 a b, M.2.2)
def sNm (i : Nat) : String := ["WEIGHT", "BEARS", "COST", "GOES", "TURN_FIRST", "TURN_SECOND", "NO_TEXT"].getD i ""
def sRow (i : Nat) : List Int32 := [[2, 3, 3, 6], [6, 12, 4, 2], [3, 4, 1, 1], [1, 12, (-1), (-12), 13, 11, (-13), (-11)], [12, 12, (-12), (-12)], [1, (-1), (-1), 1], []].getD i []
def sVal (i j : Nat) : Int32 := (sRow i).getD j 0
def sLen (i : Nat) : Nat := (sRow i).length
abbrev mad (X : mX) : Nat → Nat := X.1
def mtx (X : mX) (M : mM) (k : Nat) : Value := .ref (if M.2.2 k = 0 then X.2.2.2.1 6 else X.1 (M.2.2 k))
abbrev fs0 (X : mX) (M : mM) (k : Nat) : List Value := [.int (M.1 k 0), .ref (X.1 (k + 1)), .ref (X.1 (k + 2)), .ref (X.1 (k + 3)), .ref (X.1 (k + 4)), .ref (X.1 (k + 5)), .ref (X.1 (k + 6)), .ref (X.1 (k + 7))]
abbrev fs1 (X : mX) (M : mM) (k : Nat) : List Value := [mtx X M k, .int (M.1 k 1), .int (M.1 k 2), .int (M.1 k 3), .ref (X.1 1)]
abbrev fs2 (X : mX) (M : mM) (k : Nat) : List Value := [.int (M.1 k 0), .ref (X.1 (k + 1)), .ref (X.1 (k + 2)), .ref (X.1 (k + 3))]
abbrev fs3 (X : mX) (M : mM) (k : Nat) : List Value := [.ref (X.1 65), .ref (X.1 74), .ref (X.1 75)]
abbrev fs4 (X : mX) (M : mM) (k : Nat) : List Value := [mtx X M k, .int (M.1 k 1), .int (M.1 k 2), .int (M.1 k 3)]
abbrev fs5 (X : mX) (M : mM) (k : Nat) : List Value := [mtx X M k, .int (M.1 k 1), .int (M.1 k 2), .int (M.1 k 3)]
abbrev fs6 (X : mX) (M : mM) (k : Nat) : List Value := [.int (M.1 k 0), .int (M.1 k 1), .ref (X.1 (k + 1)), .int (M.1 k 3), .int (M.1 k 4), .int (M.1 k 5), .int (M.1 k 6), .int (M.1 k 7)]
abbrev fs7 (X : mX) (M : mM) (k : Nat) : List Value := [.ref (X.1 (k + 1)), .int (M.1 k 1), .ref (X.1 (k + 9)), .ref (X.1 (k + 10)), .ref (X.1 (k + 11)), .ref (X.1 (k + 12)), .int (M.1 k 6), .ref (X.1 (k + 13)), .int (M.1 k 8), .ref (X.1 (k + 14)), .ref (X.1 (k + 23)), .ref (X.1 (k + 24)), .ref (X.1 (k + 28))]
abbrev fs8 (X : mX) (M : mM) (k : Nat) : List Value := [.ref (X.1 1), .ref (X.1 33), .int (M.1 k 2), .ref (X.1 65), .ref (X.1 73), .ref (X.1 76), .ref (X.1 77), .ref (X.1 78), .ref (X.1 79)]
abbrev fs9 (X : mX) (M : mM) (k : Nat) : List Value := [.int (M.1 k 0), .ref (X.1 97), .ref (X.1 98), .int (M.1 k 3), .ref (X.1 99), .ref (X.1 100), .ref (X.1 101), .int (M.1 k 7), .int (M.1 k 8), .int (M.1 k 9), .int (M.1 k 10), .int (M.1 k 11), .int (M.1 k 12), .ref (X.1 102), .ref (X.1 103), .ref (X.1 104), .int (M.1 k 16), .int (M.1 k 17), .int (M.1 k 18), .int (M.1 k 19), .int (M.1 k 20), .int (M.1 k 21), .int (M.1 k 22), .ref (X.1 105), .int (M.1 k 24), .ref (X.1 106), .ref (X.1 107), .ref (X.1 108), .ref (X.1 109), .ref (X.1 110), .ref (X.1 111), .ref (X.1 112), .ref (X.1 113), .ref (X.1 114), .ref (X.1 115), .ref (X.1 116)]
def ent (X : mX) (M : mM) (k : Nat) : va_E := match (kd k).1 with
  | 0 => .inr (0, fs0 X M k)
  | 1 => .inr (1, fs1 X M k)
  | 2 => .inr (2, fs2 X M k)
  | 3 => .inr (3, fs3 X M k)
  | 4 => .inr (4, fs4 X M k)
  | 5 => .inr (5, fs5 X M k)
  | 6 => .inr (6, fs6 X M k)
  | 7 => .inr (7, fs7 X M k)
  | 8 => .inr (8, fs8 X M k)
  | 9 => .inr (9, fs9 X M k)
  | 10 => .inl (X.2.2.1 0, (kd k).2, .inl (M.1 k))
  | 11 => .inl (X.2.2.1 1, (kd k).2, .inl (M.1 k))
  | 12 => .inl (X.2.2.1 2, (kd k).2, .inr (.inl (M.2.1 k)))
  | 13 => .inl (X.2.2.1 3, (kd k).2, .inr (.inr (.inr (.inr (fun j => some (X.1 (80 + 2 * j)))))))
  | _ => .inl (X.2.2.1 4, (kd k).2, .inr (.inr (.inr (.inr (fun j => some (X.1 (k + 1 + j)))))))
theorem ent0 {X : mX} {M : mM} {k n : Nat} (h : kd k = (0, n)) : ent X M k = .inr (0, fs0 X M k) := by unfold ent; rw [h]; rfl
theorem ent1 {X : mX} {M : mM} {k n : Nat} (h : kd k = (1, n)) : ent X M k = .inr (1, fs1 X M k) := by unfold ent; rw [h]; rfl
theorem ent2 {X : mX} {M : mM} {k n : Nat} (h : kd k = (2, n)) : ent X M k = .inr (2, fs2 X M k) := by unfold ent; rw [h]; rfl
theorem ent3 {X : mX} {M : mM} {k n : Nat} (h : kd k = (3, n)) : ent X M k = .inr (3, fs3 X M k) := by unfold ent; rw [h]; rfl
theorem ent4 {X : mX} {M : mM} {k n : Nat} (h : kd k = (4, n)) : ent X M k = .inr (4, fs4 X M k) := by unfold ent; rw [h]; rfl
theorem ent5 {X : mX} {M : mM} {k n : Nat} (h : kd k = (5, n)) : ent X M k = .inr (5, fs5 X M k) := by unfold ent; rw [h]; rfl
theorem ent6 {X : mX} {M : mM} {k n : Nat} (h : kd k = (6, n)) : ent X M k = .inr (6, fs6 X M k) := by unfold ent; rw [h]; rfl
theorem ent7 {X : mX} {M : mM} {k n : Nat} (h : kd k = (7, n)) : ent X M k = .inr (7, fs7 X M k) := by unfold ent; rw [h]; rfl
theorem ent8 {X : mX} {M : mM} {k n : Nat} (h : kd k = (8, n)) : ent X M k = .inr (8, fs8 X M k) := by unfold ent; rw [h]; rfl
theorem ent9 {X : mX} {M : mM} {k n : Nat} (h : kd k = (9, n)) : ent X M k = .inr (9, fs9 X M k) := by unfold ent; rw [h]; rfl
theorem ent10 {X : mX} {M : mM} {k n : Nat} (h : kd k = (10, n)) : ent X M k = .inl (X.2.2.1 0, n, .inl (M.1 k)) := by unfold ent; rw [h]; rfl
theorem ent11 {X : mX} {M : mM} {k n : Nat} (h : kd k = (11, n)) : ent X M k = .inl (X.2.2.1 1, n, .inl (M.1 k)) := by unfold ent; rw [h]; rfl
theorem ent12 {X : mX} {M : mM} {k n : Nat} (h : kd k = (12, n)) : ent X M k = .inl (X.2.2.1 2, n, .inr (.inl (M.2.1 k))) := by unfold ent; rw [h]; rfl
theorem ent13 {X : mX} {M : mM} {k n : Nat} (h : kd k = (13, n)) : ent X M k = .inl (X.2.2.1 3, n, .inr (.inr (.inr (.inr (fun j => some (X.1 (80 + 2 * j))))))) := by unfold ent; rw [h]; rfl
theorem ent14 {X : mX} {M : mM} {k n : Nat} (h : kd k = (14, n)) : ent X M k = .inl (X.2.2.1 4, n, .inr (.inr (.inr (.inr (fun j => some (X.1 (k + 1 + j))))))) := by unfold ent; rw [h]; rfl
theorem sf0_0 {X : mX} {M : mM} {k : Nat} {v : Int32} : fs0 X (mI M k 0 v) k = (fs0 X M k).set 0 (.int v) := by first | (simp [fs0, mI, mtx]; done) | (simp [fs0, mI, mtx]; rfl)
theorem sf1_1 {X : mX} {M : mM} {k : Nat} {v : Int32} : fs1 X (mI M k 1 v) k = (fs1 X M k).set 1 (.int v) := by first | (simp [fs1, mI, mtx]; done) | (simp [fs1, mI, mtx]; rfl)
theorem sf1_2 {X : mX} {M : mM} {k : Nat} {v : Int32} : fs1 X (mI M k 2 v) k = (fs1 X M k).set 2 (.int v) := by first | (simp [fs1, mI, mtx]; done) | (simp [fs1, mI, mtx]; rfl)
theorem sf1_3 {X : mX} {M : mM} {k : Nat} {v : Int32} : fs1 X (mI M k 3 v) k = (fs1 X M k).set 3 (.int v) := by first | (simp [fs1, mI, mtx]; done) | (simp [fs1, mI, mtx]; rfl)
theorem sf2_0 {X : mX} {M : mM} {k : Nat} {v : Int32} : fs2 X (mI M k 0 v) k = (fs2 X M k).set 0 (.int v) := by first | (simp [fs2, mI, mtx]; done) | (simp [fs2, mI, mtx]; rfl)
theorem sf4_1 {X : mX} {M : mM} {k : Nat} {v : Int32} : fs4 X (mI M k 1 v) k = (fs4 X M k).set 1 (.int v) := by first | (simp [fs4, mI, mtx]; done) | (simp [fs4, mI, mtx]; rfl)
theorem sf4_2 {X : mX} {M : mM} {k : Nat} {v : Int32} : fs4 X (mI M k 2 v) k = (fs4 X M k).set 2 (.int v) := by first | (simp [fs4, mI, mtx]; done) | (simp [fs4, mI, mtx]; rfl)
theorem sf4_3 {X : mX} {M : mM} {k : Nat} {v : Int32} : fs4 X (mI M k 3 v) k = (fs4 X M k).set 3 (.int v) := by first | (simp [fs4, mI, mtx]; done) | (simp [fs4, mI, mtx]; rfl)
theorem sf5_1 {X : mX} {M : mM} {k : Nat} {v : Int32} : fs5 X (mI M k 1 v) k = (fs5 X M k).set 1 (.int v) := by first | (simp [fs5, mI, mtx]; done) | (simp [fs5, mI, mtx]; rfl)
theorem sf5_2 {X : mX} {M : mM} {k : Nat} {v : Int32} : fs5 X (mI M k 2 v) k = (fs5 X M k).set 2 (.int v) := by first | (simp [fs5, mI, mtx]; done) | (simp [fs5, mI, mtx]; rfl)
theorem sf5_3 {X : mX} {M : mM} {k : Nat} {v : Int32} : fs5 X (mI M k 3 v) k = (fs5 X M k).set 3 (.int v) := by first | (simp [fs5, mI, mtx]; done) | (simp [fs5, mI, mtx]; rfl)
theorem sf6_0 {X : mX} {M : mM} {k : Nat} {v : Int32} : fs6 X (mI M k 0 v) k = (fs6 X M k).set 0 (.int v) := by first | (simp [fs6, mI, mtx]; done) | (simp [fs6, mI, mtx]; rfl)
theorem sf6_1 {X : mX} {M : mM} {k : Nat} {v : Int32} : fs6 X (mI M k 1 v) k = (fs6 X M k).set 1 (.int v) := by first | (simp [fs6, mI, mtx]; done) | (simp [fs6, mI, mtx]; rfl)
theorem sf6_3 {X : mX} {M : mM} {k : Nat} {v : Int32} : fs6 X (mI M k 3 v) k = (fs6 X M k).set 3 (.int v) := by first | (simp [fs6, mI, mtx]; done) | (simp [fs6, mI, mtx]; rfl)
theorem sf6_4 {X : mX} {M : mM} {k : Nat} {v : Int32} : fs6 X (mI M k 4 v) k = (fs6 X M k).set 4 (.int v) := by first | (simp [fs6, mI, mtx]; done) | (simp [fs6, mI, mtx]; rfl)
theorem sf6_5 {X : mX} {M : mM} {k : Nat} {v : Int32} : fs6 X (mI M k 5 v) k = (fs6 X M k).set 5 (.int v) := by first | (simp [fs6, mI, mtx]; done) | (simp [fs6, mI, mtx]; rfl)
theorem sf6_6 {X : mX} {M : mM} {k : Nat} {v : Int32} : fs6 X (mI M k 6 v) k = (fs6 X M k).set 6 (.int v) := by first | (simp [fs6, mI, mtx]; done) | (simp [fs6, mI, mtx]; rfl)
theorem sf6_7 {X : mX} {M : mM} {k : Nat} {v : Int32} : fs6 X (mI M k 7 v) k = (fs6 X M k).set 7 (.int v) := by first | (simp [fs6, mI, mtx]; done) | (simp [fs6, mI, mtx]; rfl)
theorem sf7_1 {X : mX} {M : mM} {k : Nat} {v : Int32} : fs7 X (mI M k 1 v) k = (fs7 X M k).set 1 (.int v) := by first | (simp [fs7, mI, mtx]; done) | (simp [fs7, mI, mtx]; rfl)
theorem sf7_6 {X : mX} {M : mM} {k : Nat} {v : Int32} : fs7 X (mI M k 6 v) k = (fs7 X M k).set 6 (.int v) := by first | (simp [fs7, mI, mtx]; done) | (simp [fs7, mI, mtx]; rfl)
theorem sf7_8 {X : mX} {M : mM} {k : Nat} {v : Int32} : fs7 X (mI M k 8 v) k = (fs7 X M k).set 8 (.int v) := by first | (simp [fs7, mI, mtx]; done) | (simp [fs7, mI, mtx]; rfl)
theorem sf8_2 {X : mX} {M : mM} {k : Nat} {v : Int32} : fs8 X (mI M k 2 v) k = (fs8 X M k).set 2 (.int v) := by first | (simp [fs8, mI, mtx]; done) | (simp [fs8, mI, mtx]; rfl)
theorem sf9_0 {X : mX} {M : mM} {k : Nat} {v : Int32} : fs9 X (mI M k 0 v) k = (fs9 X M k).set 0 (.int v) := by first | (simp [fs9, mI, mtx]; done) | (simp [fs9, mI, mtx]; rfl)
theorem sf9_3 {X : mX} {M : mM} {k : Nat} {v : Int32} : fs9 X (mI M k 3 v) k = (fs9 X M k).set 3 (.int v) := by first | (simp [fs9, mI, mtx]; done) | (simp [fs9, mI, mtx]; rfl)
theorem sf9_7 {X : mX} {M : mM} {k : Nat} {v : Int32} : fs9 X (mI M k 7 v) k = (fs9 X M k).set 7 (.int v) := by first | (simp [fs9, mI, mtx]; done) | (simp [fs9, mI, mtx]; rfl)
theorem sf9_8 {X : mX} {M : mM} {k : Nat} {v : Int32} : fs9 X (mI M k 8 v) k = (fs9 X M k).set 8 (.int v) := by first | (simp [fs9, mI, mtx]; done) | (simp [fs9, mI, mtx]; rfl)
theorem sf9_9 {X : mX} {M : mM} {k : Nat} {v : Int32} : fs9 X (mI M k 9 v) k = (fs9 X M k).set 9 (.int v) := by first | (simp [fs9, mI, mtx]; done) | (simp [fs9, mI, mtx]; rfl)
theorem sf9_10 {X : mX} {M : mM} {k : Nat} {v : Int32} : fs9 X (mI M k 10 v) k = (fs9 X M k).set 10 (.int v) := by first | (simp [fs9, mI, mtx]; done) | (simp [fs9, mI, mtx]; rfl)
theorem sf9_11 {X : mX} {M : mM} {k : Nat} {v : Int32} : fs9 X (mI M k 11 v) k = (fs9 X M k).set 11 (.int v) := by first | (simp [fs9, mI, mtx]; done) | (simp [fs9, mI, mtx]; rfl)
theorem sf9_12 {X : mX} {M : mM} {k : Nat} {v : Int32} : fs9 X (mI M k 12 v) k = (fs9 X M k).set 12 (.int v) := by first | (simp [fs9, mI, mtx]; done) | (simp [fs9, mI, mtx]; rfl)
theorem sf9_16 {X : mX} {M : mM} {k : Nat} {v : Int32} : fs9 X (mI M k 16 v) k = (fs9 X M k).set 16 (.int v) := by first | (simp [fs9, mI, mtx]; done) | (simp [fs9, mI, mtx]; rfl)
theorem sf9_17 {X : mX} {M : mM} {k : Nat} {v : Int32} : fs9 X (mI M k 17 v) k = (fs9 X M k).set 17 (.int v) := by first | (simp [fs9, mI, mtx]; done) | (simp [fs9, mI, mtx]; rfl)
theorem sf9_18 {X : mX} {M : mM} {k : Nat} {v : Int32} : fs9 X (mI M k 18 v) k = (fs9 X M k).set 18 (.int v) := by first | (simp [fs9, mI, mtx]; done) | (simp [fs9, mI, mtx]; rfl)
theorem sf9_19 {X : mX} {M : mM} {k : Nat} {v : Int32} : fs9 X (mI M k 19 v) k = (fs9 X M k).set 19 (.int v) := by first | (simp [fs9, mI, mtx]; done) | (simp [fs9, mI, mtx]; rfl)
theorem sf9_20 {X : mX} {M : mM} {k : Nat} {v : Int32} : fs9 X (mI M k 20 v) k = (fs9 X M k).set 20 (.int v) := by first | (simp [fs9, mI, mtx]; done) | (simp [fs9, mI, mtx]; rfl)
theorem sf9_21 {X : mX} {M : mM} {k : Nat} {v : Int32} : fs9 X (mI M k 21 v) k = (fs9 X M k).set 21 (.int v) := by first | (simp [fs9, mI, mtx]; done) | (simp [fs9, mI, mtx]; rfl)
theorem sf9_22 {X : mX} {M : mM} {k : Nat} {v : Int32} : fs9 X (mI M k 22 v) k = (fs9 X M k).set 22 (.int v) := by first | (simp [fs9, mI, mtx]; done) | (simp [fs9, mI, mtx]; rfl)
theorem sf9_24 {X : mX} {M : mM} {k : Nat} {v : Int32} : fs9 X (mI M k 24 v) k = (fs9 X M k).set 24 (.int v) := by first | (simp [fs9, mI, mtx]; done) | (simp [fs9, mI, mtx]; rfl)
theorem sft1 {X : mX} {M : mM} {k t : Nat} (ht : t ≠ 0) : fs1 X (mT M k t) k = (fs1 X M k).set 0 (.ref (X.1 t)) := by first | (simp [fs1, mT, mtx, ht]; done) | (simp [fs1, mT, mtx, ht]; rfl)
theorem sft4 {X : mX} {M : mM} {k t : Nat} (ht : t ≠ 0) : fs4 X (mT M k t) k = (fs4 X M k).set 0 (.ref (X.1 t)) := by first | (simp [fs4, mT, mtx, ht]; done) | (simp [fs4, mT, mtx, ht]; rfl)
theorem sft5 {X : mX} {M : mM} {k t : Nat} (ht : t ≠ 0) : fs5 X (mT M k t) k = (fs5 X M k).set 0 (.ref (X.1 t)) := by first | (simp [fs5, mT, mtx, ht]; done) | (simp [fs5, mT, mtx, ht]; rfl)
def isBody (k : Nat) : Prop := k = 2 ∨ k = 34 ∨ k = 65
def isWorld (k : Nat) : Prop := k = 1 ∨ k = 33
def isNotes (k : Nat) : Prop := k = 25 ∨ k = 29 ∨ k = 57 ∨ k = 61
def isShelf (k : Nat) : Prop := k = 80 ∨ k = 82 ∨ k = 84 ∨ k = 86 ∨ k = 88 ∨ k = 90 ∨ k = 92 ∨ k = 94
def isReader (k : Nat) : Prop := k = 76 ∨ k = 77 ∨ k = 78
abbrev isRow (k : Nat) : Prop := kd k = (10, 90)
theorem kBody0 {k : Nat} (h : isBody k) : kd k = (0, 0) := by unfold isBody at h; rcases h with rfl | rfl | rfl <;> rfl
theorem kBody1 {k : Nat} (h : isBody k) : kd (k + 1) = (10, 16) := by unfold isBody at h; rcases h with rfl | rfl | rfl <;> rfl
theorem kBody2 {k : Nat} (h : isBody k) : kd (k + 2) = (10, 16) := by unfold isBody at h; rcases h with rfl | rfl | rfl <;> rfl
theorem kBody3 {k : Nat} (h : isBody k) : kd (k + 3) = (10, 16) := by unfold isBody at h; rcases h with rfl | rfl | rfl <;> rfl
theorem kBody4 {k : Nat} (h : isBody k) : kd (k + 4) = (11, 16) := by unfold isBody at h; rcases h with rfl | rfl | rfl <;> rfl
theorem kBody5 {k : Nat} (h : isBody k) : kd (k + 5) = (10, 16) := by unfold isBody at h; rcases h with rfl | rfl | rfl <;> rfl
theorem kBody6 {k : Nat} (h : isBody k) : kd (k + 6) = (10, 120) := by unfold isBody at h; rcases h with rfl | rfl | rfl <;> rfl
theorem kBody7 {k : Nat} (h : isBody k) : kd (k + 7) = (10, 16) := by unfold isBody at h; rcases h with rfl | rfl | rfl <;> rfl
theorem kWorld0 {k : Nat} (h : isWorld k) : kd k = (7, 0) := by unfold isWorld at h; rcases h with rfl | rfl <;> rfl
theorem kWorld1 {k : Nat} (h : isWorld k) : kd (k + 1) = (0, 0) := by unfold isWorld at h; rcases h with rfl | rfl <;> rfl
theorem kWorld2 {k : Nat} (h : isWorld k) : kd (k + 2) = (10, 16) := by unfold isWorld at h; rcases h with rfl | rfl <;> rfl
theorem kWorld3 {k : Nat} (h : isWorld k) : kd (k + 3) = (10, 16) := by unfold isWorld at h; rcases h with rfl | rfl <;> rfl
theorem kWorld4 {k : Nat} (h : isWorld k) : kd (k + 4) = (10, 16) := by unfold isWorld at h; rcases h with rfl | rfl <;> rfl
theorem kWorld5 {k : Nat} (h : isWorld k) : kd (k + 5) = (11, 16) := by unfold isWorld at h; rcases h with rfl | rfl <;> rfl
theorem kWorld6 {k : Nat} (h : isWorld k) : kd (k + 6) = (10, 16) := by unfold isWorld at h; rcases h with rfl | rfl <;> rfl
theorem kWorld7 {k : Nat} (h : isWorld k) : kd (k + 7) = (10, 120) := by unfold isWorld at h; rcases h with rfl | rfl <;> rfl
theorem kWorld8 {k : Nat} (h : isWorld k) : kd (k + 8) = (10, 16) := by unfold isWorld at h; rcases h with rfl | rfl <;> rfl
theorem kWorld9 {k : Nat} (h : isWorld k) : kd (k + 9) = (10, 16) := by unfold isWorld at h; rcases h with rfl | rfl <;> rfl
theorem kWorld10 {k : Nat} (h : isWorld k) : kd (k + 10) = (10, 16) := by unfold isWorld at h; rcases h with rfl | rfl <;> rfl
theorem kWorld11 {k : Nat} (h : isWorld k) : kd (k + 11) = (10, 16) := by unfold isWorld at h; rcases h with rfl | rfl <;> rfl
theorem kWorld12 {k : Nat} (h : isWorld k) : kd (k + 12) = (10, 16) := by unfold isWorld at h; rcases h with rfl | rfl <;> rfl
theorem kWorld13 {k : Nat} (h : isWorld k) : kd (k + 13) = (12, 16) := by unfold isWorld at h; rcases h with rfl | rfl <;> rfl
theorem kWorld14 {k : Nat} (h : isWorld k) : kd (k + 14) = (14, 8) := by unfold isWorld at h; rcases h with rfl | rfl <;> rfl
theorem kWorld15 {k : Nat} (h : isWorld k) : kd (k + 15) = (10, 90) := by unfold isWorld at h; rcases h with rfl | rfl <;> rfl
theorem kWorld16 {k : Nat} (h : isWorld k) : kd (k + 16) = (10, 90) := by unfold isWorld at h; rcases h with rfl | rfl <;> rfl
theorem kWorld17 {k : Nat} (h : isWorld k) : kd (k + 17) = (10, 90) := by unfold isWorld at h; rcases h with rfl | rfl <;> rfl
theorem kWorld18 {k : Nat} (h : isWorld k) : kd (k + 18) = (10, 90) := by unfold isWorld at h; rcases h with rfl | rfl <;> rfl
theorem kWorld19 {k : Nat} (h : isWorld k) : kd (k + 19) = (10, 90) := by unfold isWorld at h; rcases h with rfl | rfl <;> rfl
theorem kWorld20 {k : Nat} (h : isWorld k) : kd (k + 20) = (10, 90) := by unfold isWorld at h; rcases h with rfl | rfl <;> rfl
theorem kWorld21 {k : Nat} (h : isWorld k) : kd (k + 21) = (10, 90) := by unfold isWorld at h; rcases h with rfl | rfl <;> rfl
theorem kWorld22 {k : Nat} (h : isWorld k) : kd (k + 22) = (10, 90) := by unfold isWorld at h; rcases h with rfl | rfl <;> rfl
theorem kWorld23 {k : Nat} (h : isWorld k) : kd (k + 23) = (10, 8) := by unfold isWorld at h; rcases h with rfl | rfl <;> rfl
theorem kWorld24 {k : Nat} (h : isWorld k) : kd (k + 24) = (2, 0) := by unfold isWorld at h; rcases h with rfl | rfl <;> rfl
theorem kWorld25 {k : Nat} (h : isWorld k) : kd (k + 25) = (10, 40) := by unfold isWorld at h; rcases h with rfl | rfl <;> rfl
theorem kWorld26 {k : Nat} (h : isWorld k) : kd (k + 26) = (10, 40) := by unfold isWorld at h; rcases h with rfl | rfl <;> rfl
theorem kWorld27 {k : Nat} (h : isWorld k) : kd (k + 27) = (11, 40) := by unfold isWorld at h; rcases h with rfl | rfl <;> rfl
theorem kWorld28 {k : Nat} (h : isWorld k) : kd (k + 28) = (2, 0) := by unfold isWorld at h; rcases h with rfl | rfl <;> rfl
theorem kWorld29 {k : Nat} (h : isWorld k) : kd (k + 29) = (10, 40) := by unfold isWorld at h; rcases h with rfl | rfl <;> rfl
theorem kWorld30 {k : Nat} (h : isWorld k) : kd (k + 30) = (10, 40) := by unfold isWorld at h; rcases h with rfl | rfl <;> rfl
theorem kWorld31 {k : Nat} (h : isWorld k) : kd (k + 31) = (11, 40) := by unfold isWorld at h; rcases h with rfl | rfl <;> rfl
theorem kNotes0 {k : Nat} (h : isNotes k) : kd k = (2, 0) := by unfold isNotes at h; rcases h with rfl | rfl | rfl | rfl <;> rfl
theorem kNotes1 {k : Nat} (h : isNotes k) : kd (k + 1) = (10, 40) := by unfold isNotes at h; rcases h with rfl | rfl | rfl | rfl <;> rfl
theorem kNotes2 {k : Nat} (h : isNotes k) : kd (k + 2) = (10, 40) := by unfold isNotes at h; rcases h with rfl | rfl | rfl | rfl <;> rfl
theorem kNotes3 {k : Nat} (h : isNotes k) : kd (k + 3) = (11, 40) := by unfold isNotes at h; rcases h with rfl | rfl | rfl | rfl <;> rfl
theorem kShelf0 {k : Nat} (h : isShelf k) : kd k = (6, 0) := by unfold isShelf at h; rcases h with rfl | rfl | rfl | rfl | rfl | rfl | rfl | rfl <;> rfl
theorem kShelf1 {k : Nat} (h : isShelf k) : kd (k + 1) = (10, 90) := by unfold isShelf at h; rcases h with rfl | rfl | rfl | rfl | rfl | rfl | rfl | rfl <;> rfl
theorem kWorldB {k : Nat} (h : isWorld k) : isBody (k + 1) := by unfold isWorld at h; unfold isBody; omega
theorem kWorldL {k : Nat} (h : isWorld k) : isNotes (k + 24) := by unfold isWorld at h; unfold isNotes; omega
theorem kWorldR {k : Nat} (h : isWorld k) : isNotes (k + 28) := by unfold isWorld at h; unfold isNotes; omega
theorem kShelfAt {j : Nat} (h : j < 8) : isShelf (80 + 2 * j) := by unfold isShelf; omega
theorem kWorldP {k j : Nat} (h : isWorld k) (hj : j < 8) : isRow (k + 14 + 1 + j) := by
  unfold isWorld at h
  unfold isRow
  have : j = 0 ∨ j = 1 ∨ j = 2 ∨ j = 3 ∨ j = 4 ∨ j = 5 ∨ j = 6 ∨ j = 7 := by omega
  rcases h with rfl | rfl <;> rcases this with rfl | rfl | rfl | rfl | rfl | rfl | rfl | rfl <;> rfl
/-- a word of the tables that stays as the tables get warmer -/
def mGw (w : Cond) : Prop := w ∈ lw_tbl ∧ (w.onTables && w.keeps) = true
theorem mGp {w : Cond} {i : Nat} (h : (k2_sels lw_privs)[i]? = some w) (h2 : (w.onTables && w.keeps) = true) : mGw w := ⟨List.mem_append_left _ (List.mem_of_getElem? h), h2⟩
theorem mG1 {w : Cond} {i : Nat} (h : tables_1_1[i]? = some w) (h2 : (w.onTables && w.keeps) = true) : mGw w := ⟨List.mem_append_right _ (List.mem_append_left _ (List.mem_of_getElem? h)), h2⟩
theorem mG2 {w : Cond} {i : Nat} (h : tables_1_2[i]? = some w) (h2 : (w.onTables && w.keeps) = true) : mGw w := ⟨List.mem_append_right _ (List.mem_append_right _ (List.mem_append_left _ (List.mem_of_getElem? h))), h2⟩
theorem mG3 {w : Cond} {i : Nat} (h : tables_1_3[i]? = some w) (h2 : (w.onTables && w.keeps) = true) : mGw w := ⟨List.mem_append_right _ (List.mem_append_right _ (List.mem_append_right _ (List.mem_append_left _ (List.mem_of_getElem? h)))), h2⟩
theorem mG4 {w : Cond} {i : Nat} (h : tables_1_4[i]? = some w) (h2 : (w.onTables && w.keeps) = true) : mGw w := ⟨List.mem_append_right _ (List.mem_append_right _ (List.mem_append_right _ (List.mem_append_right _ (List.mem_append_left _ (List.mem_of_getElem? h))))), h2⟩
theorem mG5 {w : Cond} {i : Nat} (h : tables_1_5[i]? = some w) (h2 : (w.onTables && w.keeps) = true) : mGw w := ⟨List.mem_append_right _ (List.mem_append_right _ (List.mem_append_right _ (List.mem_append_right _ (List.mem_append_right _ (List.mem_append_left _ (List.mem_of_getElem? h)))))), h2⟩
theorem mG6 {w : Cond} {i : Nat} (h : tables_1_6[i]? = some w) (h2 : (w.onTables && w.keeps) = true) : mGw w := ⟨List.mem_append_right _ (List.mem_append_right _ (List.mem_append_right _ (List.mem_append_right _ (List.mem_append_right _ (List.mem_append_right _ (List.mem_append_left _ (List.mem_of_getElem? h))))))), h2⟩
theorem mG7 {w : Cond} {i : Nat} (h : tables_1_7[i]? = some w) (h2 : (w.onTables && w.keeps) = true) : mGw w := ⟨List.mem_append_right _ (List.mem_append_right _ (List.mem_append_right _ (List.mem_append_right _ (List.mem_append_right _ (List.mem_append_right _ (List.mem_append_right _ (List.mem_of_getElem? h))))))), h2⟩
def mNest : List Cond := [.methodLinkNest "CubeFolk" 11 ⟨"CubeFolk$World", "<init>", "()V"⟩ "CubeFolk", .methodLinkNest "CubeFolk$Body" 34 ⟨"CubeFolk", "columnOf", "(I)I"⟩ "CubeFolk", .methodLinkNest "CubeFolk$Body" 38 ⟨"CubeFolk", "levelOf", "(I)I"⟩ "CubeFolk", .methodLinkNest "CubeFolk$World" 45 ⟨"CubeFolk$Notes", "<init>", "()V"⟩ "CubeFolk", .methodLinkNest "CubeFolk$Mind" 3 ⟨"CubeFolk$TextReader", "<init>", "()V"⟩ "CubeFolk", .fieldLinkNest "CubeFolk$TextReader" 9 "CubeFolk" "NO_TEXT" "[I" "CubeFolk", .methodLinkNest "CubeFolk" 46 ⟨"CubeFolk$ShapeReader", "<init>", "()V"⟩ "CubeFolk", .methodLinkNest "CubeFolk$ShapeReader" 3 ⟨"CubeFolk$TextReader", "<init>", "()V"⟩ "CubeFolk", .methodLinkNest "CubeFolk" 53 ⟨"CubeFolk$ProgramReader", "<init>", "()V"⟩ "CubeFolk", .methodLinkNest "CubeFolk$ProgramReader" 3 ⟨"CubeFolk$TextReader", "<init>", "()V"⟩ "CubeFolk", .methodLinkNest "CubeFolk" 64 ⟨"CubeFolk$Shelf", "<init>", "()V"⟩ "CubeFolk", .fieldLinkNest "CubeFolk$Body" 61 "CubeFolk" "GOES" "[I" "CubeFolk", .methodLinkNest "CubeFolk$Body" 97 ⟨"CubeFolk", "cellOf", "(II)I"⟩ "CubeFolk", .fieldLinkNest "CubeFolk$Body" 104 "CubeFolk" "WEIGHT" "[I" "CubeFolk", .fieldLinkNest "CubeFolk$Body" 58 "CubeFolk" "COST" "[I" "CubeFolk", .fieldLinkNest "CubeFolk$Body" 80 "CubeFolk" "TURN_FIRST" "[I" "CubeFolk", .fieldLinkNest "CubeFolk$Body" 83 "CubeFolk" "TURN_SECOND" "[I" "CubeFolk", .methodLinkNest "CubeFolk$World" 98 ⟨"CubeFolk", "columnOf", "(I)I"⟩ "CubeFolk", .methodLinkNest "CubeFolk$World" 102 ⟨"CubeFolk", "levelOf", "(I)I"⟩ "CubeFolk", .methodLinkNest "CubeFolk$World" 109 ⟨"CubeFolk", "oneIf", "(Z)I"⟩ "CubeFolk", .methodLinkNest "CubeFolk$Planner" 39 ⟨"CubeFolk", "cellOf", "(II)I"⟩ "CubeFolk", .methodLinkNest "CubeFolk$Planner" 76 ⟨"CubeFolk", "oneIf", "(Z)I"⟩ "CubeFolk", .fieldLinkNest "CubeFolk$Planner" 80 "CubeFolk" "GOES" "[I" "CubeFolk", .fieldLinkNest "CubeFolk$Mind" 102 "CubeFolk" "GOES" "[I" "CubeFolk", .methodLinkNest "CubeFolk$Mind" 80 ⟨"CubeFolk", "oneIf", "(Z)I"⟩ "CubeFolk", .fieldLinkNest "CubeFolk$World" 129 "CubeFolk" "GOES" "[I" "CubeFolk", .methodLinkNest "CubeFolk$Body" 110 ⟨"CubeFolk", "oneIf", "(Z)I"⟩ "CubeFolk", .methodLinkNest "CubeFolk$Shelf" 36 ⟨"CubeFolk", "columnOf", "(I)I"⟩ "CubeFolk", .methodLinkNest "CubeFolk$Shelf" 43 ⟨"CubeFolk", "levelOf", "(I)I"⟩ "CubeFolk", .fieldLinkNest "CubeFolk$Shelf" 66 "CubeFolk" "WEIGHT" "[I" "CubeFolk", .fieldLinkNest "CubeFolk$Shelf" 69 "CubeFolk" "BEARS" "[I" "CubeFolk", .fieldLinkNest "CubeFolk$Shelf" 72 "CubeFolk" "COST" "[I" "CubeFolk"]
theorem mNest_warm {s U : State} {w : Cond} (hw : w ∈ mNest) (hW : s.WarmedH U.vm) (h : va_Nw w s) : va_Nw w U := by
  simp only [mNest, List.mem_cons, List.not_mem_nil, or_false] at hw
  rcases hw with rfl | rfl | rfl | rfl | rfl | rfl | rfl | rfl | rfl | rfl | rfl | rfl | rfl | rfl | rfl | rfl | rfl | rfl | rfl | rfl | rfl | rfl | rfl | rfl | rfl | rfl | rfl | rfl | rfl | rfl | rfl | rfl <;> first | exact va_Nw.warmM hW h | exact va_Nw.warmF hW h
theorem mNest_tabs {w : Cond} (hw : w ∈ mNest) : w.onTables = true := by
  simp only [mNest, List.mem_cons, List.not_mem_nil, or_false] at hw
  rcases hw with rfl | rfl | rfl | rfl | rfl | rfl | rfl | rfl | rfl | rfl | rfl | rfl | rfl | rfl | rfl | rfl | rfl | rfl | rfl | rfl | rfl | rfl | rfl | rfl | rfl | rfl | rfl | rfl | rfl | rfl | rfl | rfl <;> rfl
def mW (X : mX) (M : mM) : va_W := (List.range 118).map (fun k => (X.1 k, ent X M k))
def mL (X : mX) : Nat → Prop := fun q => X.2.2.2.2 ≤ q
abbrev mTy (X : mX) : List (ClassId × FieldType) := [(X.2.2.1 0, .int), (X.2.2.1 1, .boolean), (X.2.2.1 2, .long), (X.2.2.1 3, .object "CubeFolk$Shelf"), (X.2.2.1 4, .array .int)]
/-- the heap holds the memory M -/
def mR (X : mX) (s : State) (H : Heap) (M : mM) : Prop := va_K X.2.1 vwCl (mTy X) s ∧ va_P X.2.1 vwCl (mW X M) H ∧ va_D (mL X) (mW X M)
theorem mLw_in : ∀ q ∈ vwCl, ∀ w ∈ u_ws q.1 q.2.1 q.2.2, w ∈ lw_tbl ∧ (w.onTables && w.keeps) = true := by decide +kernel
theorem goodTabs {w : Cond} (h : (w.onTables && w.keeps) = true) : w.onTables = true := by
  rw [Bool.and_eq_true] at h
  exact h.1
/-- what stands beside the memory: words, static rows -/
def mF (X : mX) (s : State) (H : Heap) : Prop :=
  (∀ w, mGw w → va_Nw w s) ∧ (∀ w ∈ mNest, va_Nw w s) ∧ ∀ i : Nat, i < 7 → va_Z "CubeFolk" (sNm i) "[I" (.ref (X.2.2.2.1 i)) (mL X) s H ∧ va_T .int (X.2.2.2.1 i) (sLen i) (fun j => .int (sVal i j)) (mL X) s H
theorem kd_lt {k c n : Nat} (h : kd k = (c, n)) (hq : c < 99) : k < 118 := by
  rcases Nat.lt_or_ge k 118 with h1 | h1
  · exact h1
  · exfalso
    have h2 : kd k = (99, 0) := by
      unfold kd
      rw [List.getD_eq_getElem?_getD, List.getElem?_eq_none (by exact h1)]
      rfl
    rw [h2] at h
    cases h
    exact absurd hq (Nat.lt_irrefl 99)
theorem mW_at {X : mX} {M : mM} {k : Nat} (hk : k < 118) : (mW X M)[k]? = some (X.1 k, ent X M k) := by simp [mW, hk]
theorem mW_e {X : mX} {M : mM} {k c n : Nat} {e : va_E} (h : kd k = (c, n)) (hq : c < 99) (he : ent X M k = e) : (mW X M)[k]? = some (X.1 k, e) := by rw [mW_at (kd_lt h hq), he]
theorem ent_congr {X : mX} {M N : mM} {k : Nat} (h1 : M.1 k = N.1 k) (h2 : M.2.1 k = N.2.1 k) (h3 : M.2.2 k = N.2.2 k) : ent X M k = ent X N k := by
  unfold ent
  simp only [fs0, fs1, fs2, fs3, fs4, fs5, fs6, fs7, fs8, fs9, mtx, h1, h2, h3]
theorem mW_set {X : mX} {M N : mM} {k : Nat} {e : va_E} (hk : k < 118) (he : ent X N k = e) (ho : ∀ j, j ≠ k → ent X N j = ent X M j) : (mW X M).set k (X.1 k, e) = mW X N := by
  apply List.ext_getElem?
  intro j
  by_cases hj : j = k
  · subst hj
    rw [List.getElem?_set_self (by simp [mW, hk]), mW_at hk, he]
  · rw [List.getElem?_set_ne (fun q => hj q.symm)]
    by_cases h : j < 118
    · rw [mW_at h, mW_at h, ho j hj]
    · rw [List.getElem?_eq_none (by simp [mW]; omega), List.getElem?_eq_none (by simp [mW]; omega)]
theorem mI_ne {M : mM} {k j a : Nat} {v : Int32} (h : a ≠ k) : (mI M k j v).1 a = M.1 a := by funext b; simp [mI, h]
theorem mI_entne {X : mX} {M : mM} {k j : Nat} {v : Int32} : ∀ a, a ≠ k → ent X (mI M k j v) a = ent X M a := fun _ h => ent_congr (mI_ne h) rfl rfl
theorem mI_self {M : mM} {k j : Nat} {v : Int32} : (mI M k j v).1 k = upd (M.1 k) j v := by funext b; simp [mI, upd]
theorem mJ_ne {M : mM} {k j a : Nat} {v : Int64} (h : a ≠ k) : (mJ M k j v).2.1 a = M.2.1 a := by funext b; simp [mJ, h]
theorem mJ_entne {X : mX} {M : mM} {k j : Nat} {v : Int64} : ∀ a, a ≠ k → ent X (mJ M k j v) a = ent X M a := fun _ h => ent_congr rfl (mJ_ne h) rfl
theorem mJ_self {M : mM} {k j : Nat} {v : Int64} : (mJ M k j v).2.1 k = vp_updL (M.2.1 k) j v := by funext b; simp [mJ, vp_updL]
theorem mT_entne {X : mX} {M : mM} {k t : Nat} : ∀ a, a ≠ k → ent X (mT M k t) a = ent X M a := fun _ h => ent_congr rfl rfl (by simp [mT, h])
theorem mC_entne {X : mX} {M : mM} {k1 k sp dp n : Nat} : ∀ a, a ≠ k → ent X (mC M k1 k sp dp n) a = ent X M a := fun _ h => ent_congr (by funext b; simp [mC, h]) rfl rfl
theorem mC_self {M : mM} {k1 k sp dp n : Nat} : (mC M k1 k sp dp n).1 k = va_cpy (M.1 k1) (M.1 k) sp dp n := by funext b; simp [mC, va_cpy]
theorem mCJ_entne {X : mX} {M : mM} {k1 k sp dp n : Nat} : ∀ a, a ≠ k → ent X (mCJ M k1 k sp dp n) a = ent X M a := fun _ h => ent_congr rfl (by funext b; simp [mCJ, h]) rfl
theorem mCJ_self {M : mM} {k1 k sp dp n : Nat} : (mCJ M k1 k sp dp n).2.1 k = va_cpy (M.2.1 k1) (M.2.1 k) sp dp n := by funext b; simp [mCJ, va_cpy]
theorem mR.moved {X : mX} {u U : State} {H : Heap} {M : mM} (hvm : u.vm.Alike U.vm) (h : mR X u H M) : mR X U H M := ⟨va_K.moved hvm h.1, h.2⟩
theorem mNw_w {s U : State} {w : Cond} (hw : mGw w) (hW : s.WarmedH U.vm) (h : va_Nw w s) : va_Nw w U := word_at hW (Or.inl hw.2) h
theorem mF.call {X : mX} {s U : State} {H : Heap} {locs : List Loc} (h : mF X s s.heap) (hS : va_S (mL X) s.heap H locs) (hU : U.heap = H) (hW : s.WarmedH U.vm) : mF X U U.heap := by
  obtain ⟨h1, h2, h3⟩ := h
  refine ⟨fun w hw => mNw_w hw hW (h1 w hw), fun w hw => mNest_warm hw hW (h2 w hw), fun i hi => ?_⟩
  obtain ⟨h4, h5⟩ := h3 i hi
  rw [hU]
  exact ⟨va_Z.moved hW.alike (h4.kept hS.2.1), va_T.moved hW.alike (h5.kept hS.2.1)⟩
theorem mF.same {X : mX} {s U : State} (h : mF X s s.heap) (hU : U.heap = s.heap) (hv : s.vm = U.vm) : mF X U U.heap := by
  obtain ⟨h1, h2, h3⟩ := h
  have hA : s.vm.Alike U.vm := by rw [← hv]; exact Vm.Alike.refl _
  refine ⟨fun w hw => va_Nw.same (goodTabs hw.2) hv (h1 w hw), fun w hw => va_Nw.same (mNest_tabs hw) hv (h2 w hw), fun i hi => ?_⟩
  obtain ⟨h4, h5⟩ := h3 i hi
  rw [hU]
  exact ⟨va_Z.moved hA h4, va_T.moved hA h5⟩
/-- a contract's start: what stands, and the memory -/
def mPre (X : mX) (M : mM) : State → Prop := fun U => mF X U U.heap ∧ mR X U U.heap M
abbrev mQi (X : mX) (M : mM) (r : Int32) : Array Value → State → Outcome → State → Prop := va_Qi (fun x (_ : Unit) => x = r) (fun _ t => mR X t t.heap M) (mL X)
abbrev mQl (X : mX) (M : mM) (r : Int64) : Array Value → State → Outcome → State → Prop := va_Ql (fun x (_ : Unit) => x = r) (fun _ t => mR X t t.heap M) (mL X)
abbrev mQv (X : mX) (M : mM) : Array Value → State → Outcome → State → Prop := va_Qv (fun (_ : Unit) => True) (fun _ t => mR X t t.heap M) (mL X)
abbrev rmF (f n : Nat) : Room := { frames := f, cells := 0, slots := 0, locals := n }
def mMi (l : Launch) (y : MethodName) (cc : ByteArray) (nL : Nat) (ret : Option FieldType) (f n : Nat) (X : mX) (As : List Value) (M : mM) (r : Int32 × mM) : Prop := Met l y [Cond.code y cc nL ret] (rmF f n) (va_Pc As (mPre X M)) (mQi X r.2 r.1) 0 0 (mL X)
def mMl (l : Launch) (y : MethodName) (cc : ByteArray) (nL : Nat) (f n : Nat) (X : mX) (As : List Value) (M : mM) (r : Int64 × mM) : Prop := Met l y [Cond.code y cc nL (some .long)] (rmF f n) (va_Pc As (mPre X M)) (mQl X r.2 r.1) 0 0 (mL X)
def mMv (l : Launch) (y : MethodName) (cc : ByteArray) (nL : Nat) (f n : Nat) (X : mX) (As : List Value) (M : mM) (r : mM) : Prop := Met l y [Cond.code y cc nL none] (rmF f n) (va_Pc As (mPre X M)) (mQv X r) 0 0 (mL X)
/-- what stands all through a method's body -/
def mS (X : mX) (own : String) (cc : ByteArray) (nL : Nat) (ret : Option FieldType) (p : Program) (s : State) (m : MethodId) (meth : Method) (c : Code) : Prop :=
  p.tables.exec = Jvm.exec ∧ c.code = cc ∧ c.maxLocals = nL ∧ s.vm.findClass own = some m.cls ∧ mF X s s.heap ∧ meth.locks = false ∧ meth.sig.returnType = ret
/-- the machine at pc, with these locals and this memory, comes to Q -/
def mG (X : mX) (p : Program) (l : Launch) (e : Env) (R : Room) (s : State) (m : MethodId) (args : Array Value) (below : List Frame) (meth : Method) (c : Code) (Q : State → Prop) (nL pc : Nat) (lv : List (Nat × Value)) (st : List Value) (M : mM) : Prop :=
  ∀ (H : Heap) (locs : List Loc) (ls : Array Slot), mR X s H M → va_S (mL X) s.heap H locs → lv_has ls nL lv → W p l e R s m args below meth c H locs 0 0 Q (F0 m pc ls st)
/-- named values -/
def mlt {α β : Type} (e : α) (k : α → β) : β := k e
def mgd {α : Type} (c : Prop) [Decidable c] (k : Option α) : Option α := if c then k else none
def mbp {α β : Type} (o : Option α) (k : α → Option β) : Option β := match o with
  | some v => k v
  | none => none
def mbw {α β : Type} (o : Option (α × mM)) (k : α → mM → Option β) : Option β := match o with
  | some r => k r.1 r.2
  | none => none
theorem mlt_n {α β : Type} {e : α} {k : α → β} {r : β} (h : mlt e k = r) (x : α) (hx : x = e) : k x = r := by rw [hx]; exact h
theorem mgd_e {α : Type} {c : Prop} [Decidable c] {k : Option α} {r : α} (h : mgd c k = some r) : c ∧ k = some r := by
  unfold mgd at h
  by_cases hc : c
  · rw [if_pos hc] at h; exact ⟨hc, h⟩
  · rw [if_neg hc] at h; cases h
theorem mbp_e {α β : Type} {o : Option α} {k : α → Option β} {r : β} (h : mbp o k = some r) : ∃ v, o = some v ∧ k v = some r := by
  cases o with
  | none => cases h
  | some v => exact ⟨v, rfl, h⟩
theorem mbw_e {α β : Type} {o : Option (α × mM)} {k : α → mM → Option β} {r : β} (h : mbw o k = some r) : ∃ v M, o = some (v, M) ∧ k v M = some r := by
  cases o with
  | none => cases h
  | some v => exact ⟨v.1, v.2, rfl, h⟩
theorem mif_y {α : Sort _} {c : Prop} [Decidable c] {a b r : α} (h : (if c then a else b) = r) (hc : c) : a = r := by rw [if_pos hc] at h; exact h
theorem mif_n {α : Sort _} {c : Prop} [Decidable c] {a b r : α} (h : (if c then a else b) = r) (hc : ¬ c) : b = r := by rw [if_neg hc] at h; exact h
section MW
variable {p : Program} {l : Launch} {e : Env} {R : Room} {s : State} {m : MethodId} {args : Array Value} {below : List Frame} {meth : Method} {c : Code} {H : Heap} {locs : List Loc} {Q : State → Prop}
variable {cc : ByteArray} {pc : Nat} {ls : Array Slot} {rest : List Value} {X : mX} {M : mM} {k n : Nat}
theorem mF.w {w : Cond} (hF : mF X s s.heap) (h : mGw w) : w.before args s = true := va_Nw.use (goodTabs h.2) (hF.1 w h)
theorem mLw (hF : mF X s s.heap) {ci : Nat} {q : vw_C} (hc : vwCl[ci]? = some q) : ∀ w ∈ u_ws q.1 q.2.1 q.2.2, w.before args s = true := fun w hw => hF.w (mLw_in q (List.mem_of_getElem? hc) w hw)
/-- getfield -/
theorem m_get (hx : p.tables.exec = Jvm.exec) (hb : c.code = cc) (hF : mF X s s.heap) {own : String} (hown : s.vm.findClass own = some m.cls) (hR : mR X s H M) {ci index : Nat} {C : String} {T : u_T} {N : Nat} {fs : List Value} (he : ent X M k = .inr (ci, fs)) (hk : kd k = (ci, n)) (hc : vwCl[ci]? = some (C, T, N)) (j : Nat) (hj : j < N) {ref : String} (hlink : (Cond.fieldLink own index ref (T j).2.1 (T j).2.2.1).before args s = true) (href : ref = (T j).1) {v : Value} (hv : fs[j]? = some v) (hdg : decode cc pc = .ok (.getfield index, 3))
    (kk : W p l e R s m args below meth c H locs 0 0 Q (F0 m (pc + 3) ls (v :: rest))) : W p l e R s m args below meth c H locs 0 0 Q (F0 m pc ls (.ref (X.1 k) :: rest)) := by
  subst href
  have hci : ci < 99 := Nat.lt_of_lt_of_le (List.getElem?_eq_some_iff.mp hc).1 (Nat.le_of_ble_eq_true rfl)
  exact va_get hx hb (mLw (args := args) hF hc) (fun _ h => h) hown hR.1 hR.2.1 k (mW_e hk hci he) hc j hj hlink (fun _ h => h) hv hdg kk
/-- putfield of what an int field holds -/
theorem m_put (hx : p.tables.exec = Jvm.exec) (hb : c.code = cc) (hF : mF X s s.heap) {own : String} (hown : s.vm.findClass own = some m.cls) (hR : mR X s H M) (hS : va_S (mL X) s.heap H locs) {ci index : Nat} {C : String} {T : u_T} {N : Nat} {fs fs' : List Value} {M1 : mM} (he : ent X M k = .inr (ci, fs)) (he1 : ent X M1 k = .inr (ci, fs')) (ho : ∀ a, a ≠ k → ent X M1 a = ent X M a) (hk : kd k = (ci, n)) (hc : vwCl[ci]? = some (C, T, N)) {ty0 : Nat → FieldType} (hty : ∀ k, k < N → parseFieldDescriptor (T k).2.2.1 = some (ty0 k)) (hnm : ∀ a, a < N → ∀ b, b < N → a ≠ b → (T a).2.1 ≠ (T b).2.1) (j : Nat) (hj : j < N) {v : Value} (hse : fs' = fs.set j v) {ref : String} (hlink : (Cond.fieldLink own index ref (T j).2.1 (T j).2.2.1).before args s = true) (href : ref = (T j).1) (hfin : (T j).2.2.2 = false) {ty : FieldType} (hd : ty0 j = ty) (hn : narrow ty v = v) (hfit : fits ty v = true) (hl : j < fs.length) (hdg : decode cc pc = .ok (.putfield index, 3))
    (kk : ∀ (H : Heap) (locs : List Loc), mR X s H M1 → va_S (mL X) s.heap H locs → W p l e R s m args below meth c H locs 0 0 Q (F0 m (pc + 3) ls rest)) : W p l e R s m args below meth c H locs 0 0 Q (F0 m pc ls (v :: .ref (X.1 k) :: rest)) := by
  subst href
  subst hd
  subst hse
  have hci : ci < 99 := Nat.lt_of_lt_of_le (List.getElem?_eq_some_iff.mp hc).1 (Nat.le_of_ble_eq_true rfl)
  have hset := mW_set (X := X) (M := M) (N := M1) (kd_lt hk hci) he1 ho
  refine va_put hx hb (mLw (args := args) hF hc) (fun _ h => h) ty0 hty hnm hown hR.1 hR.2.1 hR.2.2 hS k (mW_e hk hci he) hc j hj hlink (fun _ h => h) hfin (hty j hj) hn hfit hl hdg (fun H1 locs1 hP hD hS1 => ?_)
  rw [hset] at hP hD
  exact kk H1 locs1 ⟨hR.1, hP, hD⟩ hS1
theorem m_iald (hx : p.tables.exec = Jvm.exec) (hb : c.code = cc) (hR : mR X s H M) (hk : kd k = (10, n)) {j : Int32} (hin : vp_in j n) (hdg : decode cc pc = .ok (.iaload, 1))
    (kk : W p l e R s m args below meth c H locs 0 0 Q (F0 m (pc + 1) ls (.int (M.1 k j.toNatClampNeg) :: rest))) : W p l e R s m args below meth c H locs 0 0 Q (F0 m pc ls (.int j :: .ref (X.1 k) :: rest)) :=
  va_iald hx hb hR.1 hR.2.1 k 0 (mW_e hk (by decide) (ent10 hk)) rfl hin hdg kk
theorem m_zald (hx : p.tables.exec = Jvm.exec) (hb : c.code = cc) (hR : mR X s H M) (hk : kd k = (11, n)) {j : Int32} (hin : vp_in j n) (hdg : decode cc pc = .ok (.baload, 1))
    (kk : W p l e R s m args below meth c H locs 0 0 Q (F0 m (pc + 1) ls (.int (M.1 k j.toNatClampNeg) :: rest))) : W p l e R s m args below meth c H locs 0 0 Q (F0 m pc ls (.int j :: .ref (X.1 k) :: rest)) :=
  va_zald hx hb hR.1 hR.2.1 k 1 (mW_e hk (by decide) (ent11 hk)) rfl hin hdg kk
theorem m_lald (hx : p.tables.exec = Jvm.exec) (hb : c.code = cc) (hR : mR X s H M) (hk : kd k = (12, n)) {j : Int32} (hin : vp_in j n) (hdg : decode cc pc = .ok (.laload, 1))
    (kk : W p l e R s m args below meth c H locs 0 0 Q (F0 m (pc + 1) ls (.long (M.2.1 k j.toNatClampNeg) :: rest))) : W p l e R s m args below meth c H locs 0 0 Q (F0 m pc ls (.int j :: .ref (X.1 k) :: rest)) :=
  va_lald hx hb hR.1 hR.2.1 k 2 (mW_e hk (by decide) (ent12 hk)) rfl hin hdg kk
/-- a SHELF out of the row of them -/
theorem m_sald (hx : p.tables.exec = Jvm.exec) (hb : c.code = cc) (hR : mR X s H M) (hk : kd k = (13, n)) {j : Int32} (hin : vp_in j n) (hdg : decode cc pc = .ok (.aaload, 1))
    (kk : W p l e R s m args below meth c H locs 0 0 Q (F0 m (pc + 1) ls (.ref (X.1 (80 + 2 * j.toNatClampNeg)) :: rest))) : W p l e R s m args below meth c H locs 0 0 Q (F0 m pc ls (.int j :: .ref (X.1 k) :: rest)) :=
  va_aldq hx hb hR.1 hR.2.1 k 3 (mW_e hk (by decide) (ent13 hk)) rfl hin hdg kk
/-- a row out of the rows of a World's texts -/
theorem m_pald (hx : p.tables.exec = Jvm.exec) (hb : c.code = cc) (hR : mR X s H M) (hk : kd k = (14, n)) {j : Int32} (hin : vp_in j n) (hdg : decode cc pc = .ok (.aaload, 1))
    (kk : W p l e R s m args below meth c H locs 0 0 Q (F0 m (pc + 1) ls (.ref (X.1 (k + 1 + j.toNatClampNeg)) :: rest))) : W p l e R s m args below meth c H locs 0 0 Q (F0 m pc ls (.int j :: .ref (X.1 k) :: rest)) := by
  have hlt : j.toNatClampNeg < n := Nat.not_le.mp fun q => hin (Or.inr q)
  exact W.aald (v := .ref (X.1 (k + 1 + j.toNatClampNeg))) (ty := .array .int) hx hb (hR.2.1 k _ (mW_e hk (by decide) (ent14 hk))) ((hR.1.2 4 _ rfl).1 n (fun j => va_rf (some (X.1 (k + 1 + j))))) rfl (fun q => by cases q) (by show ¬ (j < 0 ∨ (arrV _ _ _).slots.size ≤ _); rw [arrV_size]; exact hin) (by show (arrV _ _ _).slots[_]? = _; rw [arrV_read _ _ hlt]; rfl) rfl rfl hdg kk
theorem m_alen (hx : p.tables.exec = Jvm.exec) (hb : c.code = cc) (hR : mR X s H M) (hk : kd k = (10, n)) {v : Int32} (hv : Int32.ofNat n = v) (hdg : decode cc pc = .ok (.arraylength, 1))
    (kk : W p l e R s m args below meth c H locs 0 0 Q (F0 m (pc + 1) ls (.int v :: rest))) : W p l e R s m args below meth c H locs 0 0 Q (F0 m pc ls (.ref (X.1 k) :: rest)) :=
  va_alen hx hb hR.1 hR.2.1 k 0 (mW_e hk (by decide) (ent10 hk)) rfl hv hdg kk
theorem m_iast (hx : p.tables.exec = Jvm.exec) (hb : c.code = cc) (hR : mR X s H M) (hS : va_S (mL X) s.heap H locs) (hk : kd k = (10, n)) {j x : Int32} (hin : vp_in j n) (hdg : decode cc pc = .ok (.iastore, 1)) {M1 : mM} (hM : M1 = mI M k j.toNatClampNeg x)
    (kk : ∀ (H : Heap) (locs : List Loc), mR X s H M1 → va_S (mL X) s.heap H locs → W p l e R s m args below meth c H locs 0 0 Q (F0 m (pc + 1) ls rest)) : W p l e R s m args below meth c H locs 0 0 Q (F0 m pc ls (.int x :: .int j :: .ref (X.1 k) :: rest)) := by
  subst hM
  refine va_iast hx hb hR.1 hR.2.1 hR.2.2 hS k 0 (mW_e hk (by decide) (ent10 hk)) rfl hin hdg (fun H1 locs1 hP hD hS1 => ?_)
  rw [mW_set (N := mI M k j.toNatClampNeg x) (kd_lt hk (by decide)) (by rw [ent10 hk, mI_self]) mI_entne] at hP hD
  exact kk H1 locs1 ⟨hR.1, hP, hD⟩ hS1
theorem m_zast (hx : p.tables.exec = Jvm.exec) (hb : c.code = cc) (hR : mR X s H M) (hS : va_S (mL X) s.heap H locs) (hk : kd k = (11, n)) {j x : Int32} (hin : vp_in j n) (hdg : decode cc pc = .ok (.bastore, 1)) {M1 : mM} (hM : M1 = mI M k j.toNatClampNeg (vp_nar .boolean x))
    (kk : ∀ (H : Heap) (locs : List Loc), mR X s H M1 → va_S (mL X) s.heap H locs → W p l e R s m args below meth c H locs 0 0 Q (F0 m (pc + 1) ls rest)) : W p l e R s m args below meth c H locs 0 0 Q (F0 m pc ls (.int x :: .int j :: .ref (X.1 k) :: rest)) := by
  subst hM
  refine va_zast hx hb hR.1 hR.2.1 hR.2.2 hS k 1 (mW_e hk (by decide) (ent11 hk)) rfl hin hdg (fun H1 locs1 hP hD hS1 => ?_)
  rw [mW_set (N := mI M k j.toNatClampNeg (vp_nar .boolean x)) (kd_lt hk (by decide)) (by rw [ent11 hk, mI_self]) mI_entne] at hP hD
  exact kk H1 locs1 ⟨hR.1, hP, hD⟩ hS1
theorem m_last (hx : p.tables.exec = Jvm.exec) (hb : c.code = cc) (hR : mR X s H M) (hS : va_S (mL X) s.heap H locs) (hk : kd k = (12, n)) {j : Int32} {x : Int64} (hin : vp_in j n) (hdg : decode cc pc = .ok (.lastore, 1)) {M1 : mM} (hM : M1 = mJ M k j.toNatClampNeg x)
    (kk : ∀ (H : Heap) (locs : List Loc), mR X s H M1 → va_S (mL X) s.heap H locs → W p l e R s m args below meth c H locs 0 0 Q (F0 m (pc + 1) ls rest)) : W p l e R s m args below meth c H locs 0 0 Q (F0 m pc ls (.long x :: .int j :: .ref (X.1 k) :: rest)) := by
  subst hM
  refine va_last hx hb hR.1 hR.2.1 hR.2.2 hS k 2 (mW_e hk (by decide) (ent12 hk)) rfl hin hdg (fun H1 locs1 hP hD hS1 => ?_)
  rw [mW_set (N := mJ M k j.toNatClampNeg x) (kd_lt hk (by decide)) (by rw [ent12 hk, mJ_self]) mJ_entne] at hP hD
  exact kk H1 locs1 ⟨hR.1, hP, hD⟩ hS1
/-- getstatic of a static row, and its elements -/
theorem m_gs (hx : p.tables.exec = Jvm.exec) (hb : c.code = cc) (hF : mF X s s.heap) (hS : va_S (mL X) s.heap H locs) {own : String} (hown : s.vm.findClass own = some m.cls) {index : Nat} (i : Nat) (hi : i < 7) {nm : String} (hnm : sNm i = nm) (hlink : (Cond.fieldLink own index "CubeFolk" nm "[I").before args s = true) (hdg : decode cc pc = .ok (.getstatic index, 3))
    (kk : W p l e R s m args below meth c H locs 0 0 Q (F0 m (pc + 3) ls (.ref (X.2.2.2.1 i) :: rest))) : W p l e R s m args below meth c H locs 0 0 Q (F0 m pc ls rest) := by
  subst hnm
  exact va_gets hx hb (hF.2.2 i hi).1 hS hown hlink (fun _ h => h) hdg kk
theorem m_gsN (hx : p.tables.exec = Jvm.exec) (hb : c.code = cc) (hF : mF X s s.heap) (hS : va_S (mL X) s.heap H locs) {own : String} (hown : s.vm.findClass own = some m.cls) {index : Nat} (i : Nat) (hi : i < 7) {nm : String} (hnm : sNm i = nm) (j : Nat) (hlink : mNest[j]? = some (Cond.fieldLinkNest own index "CubeFolk" nm "[I" "CubeFolk")) (hdg : decode cc pc = .ok (.getstatic index, 3))
    (kk : W p l e R s m args below meth c H locs 0 0 Q (F0 m (pc + 3) ls (.ref (X.2.2.2.1 i) :: rest))) : W p l e R s m args below meth c H locs 0 0 Q (F0 m pc ls rest) := by
  subst hnm
  exact va_getsN hx hb (hF.2.2 i hi).1 hS hown (va_Nw.use (mNest_tabs (List.mem_of_getElem? hlink)) (hF.2.1 _ (List.mem_of_getElem? hlink))) (fun _ h => h) hdg kk
theorem m_said (hx : p.tables.exec = Jvm.exec) (hb : c.code = cc) (hF : mF X s s.heap) (hS : va_S (mL X) s.heap H locs) (i : Nat) (hi : i < 7) {N : Nat} (hN : sLen i = N) {j : Int32} (hin : vp_in j N) (hdg : decode cc pc = .ok (.iaload, 1))
    (kk : W p l e R s m args below meth c H locs 0 0 Q (F0 m (pc + 1) ls (.int (sVal i j.toNatClampNeg) :: rest))) : W p l e R s m args below meth c H locs 0 0 Q (F0 m pc ls (.int j :: .ref (X.2.2.2.1 i) :: rest)) := by
  subst hN
  obtain ⟨cell, h1, h2, h3, h4, h5, h6, h7⟩ := (hF.2.2 i hi).2.kept hS.2.1
  have hlt : j.toNatClampNeg < sLen i := Nat.not_le.mp fun q => hin (Or.inr q)
  exact W.iald (v := .int (sVal i j.toNatClampNeg)) hx hb h1 h2 h3 (fun q => q.elim (fun q => hin (Or.inl q)) (fun q => absurd (Nat.lt_of_lt_of_le hlt h4) (Nat.not_lt.mpr q))) (h6 _ hlt) rfl rfl hdg kk
end MW
section MC
variable {p : Program} {l : Launch} {e : Env} {R : Room} {s : State} {m : MethodId} {args : Array Value} {below : List Frame} {meth : Method} {c : Code} {H : Heap} {locs : List Loc} {Q : State → Prop}
variable {cc : ByteArray} {pc nL : Nat} {ls : Array Slot} {st0 rest : List Value} {X : mX} {M : mM} {k n : Nat}
theorem mPre_blind {As : List Value} : FrameBlind (va_Pc As (mPre X M)) := fun a U g mk q => by
  obtain ⟨q1, q2, q3⟩ := q
  exact ⟨q1, mF.same (s := U) (U := U.calling g mk a) q2 rfl rfl, mR.moved (u := U) (U := U.calling g mk a) (Vm.Alike.refl U.vm) q3⟩
theorem mPre_at {As : List Value} (hF : mF X s s.heap) (hR : mR X s H M) (hS : va_S (mL X) s.heap H locs) : ∀ U : State, U.heap = H → s.WarmedH U.vm → va_Pc As (mPre X M) As.toArray U := fun U hU hW =>
  ⟨rfl, hF.call hS hU hW, by rw [hU]; exact hR.moved hW.alike⟩
theorem mRecv (hR : mR X s H M) {ci : Nat} {C : String} {T : u_T} {N : Nat} {fs : List Value} (he : ent X M k = .inr (ci, fs)) (hk : kd k = (ci, n)) (hc : vwCl[ci]? = some (C, T, N)) : ∃ cell : Cell, H[X.1 k]? = some cell ∧ cell.vm.isStatics = false ∧ s.vm.findClass C = some cell.cls :=
  va_recv hR.1 hR.2.1 hc (mW_e hk (Nat.lt_of_lt_of_le (List.getElem?_eq_some_iff.mp hc).1 (Nat.le_of_ble_eq_true rfl)) he)
theorem w5 {a b c d e : Cond} (h1 : mGw a) (h2 : mGw b) (h3 : mGw c) (h4 : mGw d) (h5 : mGw e) : ∀ w ∈ ([a, b, c, d] : List Cond) ++ [e], mGw w := by
  intro w h
  simp only [List.cons_append, List.nil_append, List.mem_cons, List.not_mem_nil, or_false] at h
  rcases h with rfl | rfl | rfl | rfl | rfl <;> assumption
theorem w4 {a b c e : Cond} (h1 : mGw a) (h2 : mGw b) (h3 : mGw c) (h5 : mGw e) : ∀ w ∈ ([a, b, c] : List Cond) ++ [e], mGw w := by
  intro w h
  simp only [List.cons_append, List.nil_append, List.mem_cons, List.not_mem_nil, or_false] at h
  rcases h with rfl | rfl | rfl | rfl <;> assumption
theorem w6 {a b c d f e : Cond} (h1 : mGw a) (h2 : mGw b) (h3 : mGw c) (h4 : mGw d) (h6 : mGw f) (h5 : mGw e) : ∀ w ∈ ([a, b, c, d, f] : List Cond) ++ [e], mGw w := by
  intro w h
  simp only [List.cons_append, List.nil_append, List.mem_cons, List.not_mem_nil, or_false] at h
  rcases h with rfl | rfl | rfl | rfl | rfl | rfl <;> assumption
theorem wGood {L : List Cond} (h : ∀ w ∈ L, mGw w) : GoodIn L L := fun w hw => ⟨hw, Or.inl (h w hw).2⟩
variable {y : MethodName} {bytes : ByteArray} {maxL na index f n0 : Nat} {ret : Option FieldType} {Qc : Array Value → State → Outcome → State → Prop} {As : List Value} {own : String}
/-- a call of an object's own method -/
theorem m_rV (hx : p.tables.exec = Jvm.exec) (hb : c.code = cc) (hml : c.maxLocals = nL) (hown : s.vm.findClass own = some m.cls) (hF : mF X s s.heap) (hR : mR X s H M) (hS : va_S (mL X) s.heap H locs) {ci : Nat} {C : String} {T : u_T} {N : Nat} {fs : List Value} (he : ent X M k = .inr (ci, fs)) (hk : kd k = (ci, n)) (hc : vwCl[ci]? = some (C, T, N))
    (hM : Met l y [Cond.code y bytes maxL ret] (rmF f n0) (va_Pc (.ref (X.1 k) :: As) (mPre X M)) Qc 0 0 (mL X)) (hall : ∀ w ∈ wsV own index C y [Cond.code y bytes maxL ret], mGw w)
    (hd : y.cls = C ∧ y.cls ≠ "java/lang/invoke/MethodHandle" ∧ y.cls ≠ "java/lang/invoke/VarHandle" ∧ (parseMethodDescriptor y.desc).map (fun d => d.parameters.length) = some na) (hRm : f + 1 ≤ R.frames ∧ 8 + (maxL + 11) + n0 ≤ R.locals)
    (hn : As.length = na) (hl : ls.size = nL) (hst : st0 = As.reverse ++ .ref (X.1 k) :: rest) (hW : (rest.map fun v => v.category).sum ≤ 8) (hdg : decode cc pc = .ok (.invokevirtual index, 3)) :
    va_Run p l e R s m args below meth c H locs 0 0 0 0 (F0 m pc ls st0) rest (Qc (Value.ref (X.1 k) :: As).toArray) (mL X) :=
  va_runV (Ts := wsV own index C y [Cond.code y bytes maxL ret]) ⟨hx, hb, hml, hown, fun w hw => hF.w (hall w hw)⟩ hM (cwV na (fun w hw => hF.w (hall w hw)) (wGood hall) rfl rfl rfl hd hRm) ⟨mPre_blind, mRecv hR he hk hc, mPre_at hF hR hS⟩ rfl hn hl hst (lv_room hW) hdg ⟨Nat.zero_le _, Nat.zero_le _⟩
/-- a call of an inherited method, or of one by a class above the object's -/
theorem m_rU (hx : p.tables.exec = Jvm.exec) (hb : c.code = cc) (hml : c.maxLocals = nL) (hown : s.vm.findClass own = some m.cls) (hF : mF X s s.heap) (hR : mR X s H M) (hS : va_S (mL X) s.heap H locs) {ci : Nat} {C : String} {T : u_T} {N : Nat} {fs : List Value} (he : ent X M k = .inr (ci, fs)) (hk : kd k = (ci, n)) (hc : vwCl[ci]? = some (C, T, N)) {x : MethodName} {owner : String}
    (hM : Met l y [Cond.code y bytes maxL ret] (rmF f n0) (va_Pc (.ref (X.1 k) :: As) (mPre X M)) Qc 0 0 (mL X)) (hall : ∀ w ∈ va_wsU own index C owner x y [Cond.code y bytes maxL ret], mGw w) (hyx : y = ⟨owner, x.name, x.desc⟩)
    (hd : owner ≠ "java/lang/invoke/MethodHandle" ∧ owner ≠ "java/lang/invoke/VarHandle" ∧ (parseMethodDescriptor x.desc).map (fun d => d.parameters.length) = some na) (hRm : f + 1 ≤ R.frames ∧ 8 + (maxL + 11) + n0 ≤ R.locals)
    (hn : As.length = na) (hl : ls.size = nL) (hst : st0 = As.reverse ++ .ref (X.1 k) :: rest) (hW : (rest.map fun v => v.category).sum ≤ 8) (hdg : decode cc pc = .ok (.invokevirtual index, 3)) :
    va_Run p l e R s m args below meth c H locs 0 0 0 0 (F0 m pc ls st0) rest (Qc (Value.ref (X.1 k) :: As).toArray) (mL X) :=
  va_runU (Ts := va_wsU own index C owner x y [Cond.code y bytes maxL ret]) ⟨hx, hb, hml, hown, fun w hw => hF.w (hall w hw)⟩ hM (va_cwU na (fun w hw => hF.w (hall w hw)) (wGood hall) rfl rfl rfl hyx hd hRm) ⟨mPre_blind, mRecv hR he hk hc, mPre_at hF hR hS⟩ rfl hn hl hst (lv_room hW) hdg ⟨Nat.zero_le _, Nat.zero_le _⟩
/-- .. on one of the three readers -/
theorem m_rU3 (hx : p.tables.exec = Jvm.exec) (hb : c.code = cc) (hml : c.maxLocals = nL) (hown : s.vm.findClass own = some m.cls) (hF : mF X s s.heap) (hR : mR X s H M) (hS : va_S (mL X) s.heap H locs) (hk : isReader k) {x : MethodName} {owner : String}
    (hM : Met l y [Cond.code y bytes maxL ret] (rmF f n0) (va_Pc (.ref (X.1 k) :: As) (mPre X M)) Qc 0 0 (mL X)) (h1 : ∀ w ∈ va_wsU own index RX1 owner x y [Cond.code y bytes maxL ret], mGw w) (h4 : ∀ w ∈ va_wsU own index RX4 owner x y [Cond.code y bytes maxL ret], mGw w) (h5 : ∀ w ∈ va_wsU own index RX5 owner x y [Cond.code y bytes maxL ret], mGw w) (hyx : y = ⟨owner, x.name, x.desc⟩)
    (hd : owner ≠ "java/lang/invoke/MethodHandle" ∧ owner ≠ "java/lang/invoke/VarHandle" ∧ (parseMethodDescriptor x.desc).map (fun d => d.parameters.length) = some na) (hRm : f + 1 ≤ R.frames ∧ 8 + (maxL + 11) + n0 ≤ R.locals)
    (hn : As.length = na) (hl : ls.size = nL) (hst : st0 = As.reverse ++ .ref (X.1 k) :: rest) (hW : (rest.map fun v => v.category).sum ≤ 8) (hdg : decode cc pc = .ok (.invokevirtual index, 3)) :
    va_Run p l e R s m args below meth c H locs 0 0 0 0 (F0 m pc ls st0) rest (Qc (Value.ref (X.1 k) :: As).toArray) (mL X) := by
  unfold isReader at hk
  rcases hk with rfl | rfl | rfl
  · exact m_rU hx hb hml hown hF hR hS (ent1 (n := 0) rfl) rfl rfl hM h1 hyx hd hRm hn hl hst hW hdg
  · exact m_rU hx hb hml hown hF hR hS (ent5 (n := 0) rfl) rfl rfl hM h5 hyx hd hRm hn hl hst hW hdg
  · exact m_rU hx hb hml hown hF hR hS (ent4 (n := 0) rfl) rfl rfl hM h4 hyx hd hRm hn hl hst hW hdg
/-- a static call -/
theorem m_rS (hx : p.tables.exec = Jvm.exec) (hb : c.code = cc) (hml : c.maxLocals = nL) (hown : s.vm.findClass own = some m.cls) (hF : mF X s s.heap) (hR : mR X s H M) (hS : va_S (mL X) s.heap H locs)
    (hM : Met l y [Cond.code y bytes maxL ret] (rmF f n0) (va_Pc As (mPre X M)) Qc 0 0 (mL X)) (hall : ∀ w ∈ va_wsS own index y [Cond.code y bytes maxL ret], mGw w)
    (hd : y.cls ≠ "java/lang/invoke/MethodHandle" ∧ y.cls ≠ "java/lang/invoke/VarHandle" ∧ (parseMethodDescriptor y.desc).map (fun d => d.parameters.length) = some na) (hRm : f + 1 ≤ R.frames ∧ 8 + (maxL + 11) + n0 ≤ R.locals)
    (hn : As.length = na) (hl : ls.size = nL) (hst : st0 = As.reverse ++ rest) (hW : (rest.map fun v => v.category).sum ≤ 8) (hdg : decode cc pc = .ok (.invokestatic index, 3)) :
    va_Run p l e R s m args below meth c H locs 0 0 0 0 (F0 m pc ls st0) rest (Qc As.toArray) (mL X) :=
  va_runS (Ts := va_wsS own index y [Cond.code y bytes maxL ret]) ⟨hx, hb, hml, hown, fun w hw => hF.w (hall w hw)⟩ hM (va_cwS na (fun w hw => hF.w (hall w hw)) (wGood hall) rfl rfl rfl hd hRm) ⟨mPre_blind, mPre_at hF hR hS⟩ rfl hn hl hst (lv_room hW) hdg ⟨Nat.zero_le _, Nat.zero_le _⟩
/-- a static call of a private method of a nest mate -/
theorem m_rSN (hx : p.tables.exec = Jvm.exec) (hb : c.code = cc) (hml : c.maxLocals = nL) (hown : s.vm.findClass own = some m.cls) (hF : mF X s s.heap) (hR : mR X s H M) (hS : va_S (mL X) s.heap H locs)
    (hM : Met l y [Cond.code y bytes maxL ret] (rmF f n0) (va_Pc As (mPre X M)) Qc 0 0 (mL X)) (h1 : mGw (Cond.code y bytes maxL ret)) (h2 : mGw (.initialized y.cls)) (h3 : mGw (.static y)) (i : Nat) (h4 : mNest[i]? = some (.methodLinkNest own index y "CubeFolk"))
    (hd : y.cls ≠ "java/lang/invoke/MethodHandle" ∧ y.cls ≠ "java/lang/invoke/VarHandle" ∧ (parseMethodDescriptor y.desc).map (fun d => d.parameters.length) = some na) (hRm : f + 1 ≤ R.frames ∧ 8 + (maxL + 11) + n0 ≤ R.locals)
    (hn : As.length = na) (hl : ls.size = nL) (hst : st0 = As.reverse ++ rest) (hW : (rest.map fun v => v.category).sum ≤ 8) (hdg : decode cc pc = .ok (.invokestatic index, 3)) :
    va_Run p l e R s m args below meth c H locs 0 0 0 0 (F0 m pc ls st0) rest (Qc As.toArray) (mL X) :=
  va_runSN (Ts := [Cond.code y bytes maxL ret]) ⟨hx, hb, hml, hown, fun w hw => by rw [List.mem_singleton.mp hw]; exact hF.w h1⟩ hM ⟨va_cnB na (fun w hw => by rw [List.mem_singleton.mp hw]; exact hF.w h1) (wGood (fun w hw => by rw [List.mem_singleton.mp hw]; exact h1)) rfl rfl rfl (hF.2.1 _ (List.mem_of_getElem? h4)) (hF.w h2) hd hRm, hF.w h3, trivial⟩ ⟨mPre_blind, mPre_at hF hR hS⟩ rfl hn hl hst (lv_room hW) hdg ⟨Nat.zero_le _, Nat.zero_le _⟩
variable {a : Array Value} {M1 : mM}
theorem m_ci {r : Int32} (hr : va_Run p l e R s m args below meth c H locs 0 0 0 0 (F0 m pc ls st0) rest (mQi X M1 r a) (mL X)) (hS : va_S (mL X) s.heap H locs)
    (kk : ∀ (H : Heap) (locs : List Loc), mR X s H M1 → va_S (mL X) s.heap H locs → W p l e R s m args below meth c H locs 0 0 Q (F0 m (pc + 3) ls (.int r :: rest))) : W p l e R s m args below meth c H locs 0 0 Q (F0 m pc ls st0) :=
  va_calli hr hS (fun _ _ h => h) (fun _ h => h) (fun r' u t H1 locs1 ht hv hp hB _ _ hS1 => by subst hp; exact kk H1 locs1 (by rw [ht] at hB; exact hB.moved hv.symm) hS1)
theorem m_cl {r : Int64} (hr : va_Run p l e R s m args below meth c H locs 0 0 0 0 (F0 m pc ls st0) rest (mQl X M1 r a) (mL X)) (hS : va_S (mL X) s.heap H locs)
    (kk : ∀ (H : Heap) (locs : List Loc), mR X s H M1 → va_S (mL X) s.heap H locs → W p l e R s m args below meth c H locs 0 0 Q (F0 m (pc + 3) ls (.long r :: rest))) : W p l e R s m args below meth c H locs 0 0 Q (F0 m pc ls st0) :=
  va_calll hr hS (fun _ _ h => h) (fun _ h => h) (fun r' u t H1 locs1 ht hv hp hB _ _ hS1 => by subst hp; exact kk H1 locs1 (by rw [ht] at hB; exact hB.moved hv.symm) hS1)
theorem m_cv (hr : va_Run p l e R s m args below meth c H locs 0 0 0 0 (F0 m pc ls st0) rest (mQv X M1 a) (mL X)) (hS : va_S (mL X) s.heap H locs)
    (kk : ∀ (H : Heap) (locs : List Loc), mR X s H M1 → va_S (mL X) s.heap H locs → W p l e R s m args below meth c H locs 0 0 Q (F0 m (pc + 3) ls rest)) : W p l e R s m args below meth c H locs 0 0 Q (F0 m pc ls st0) :=
  va_callv hr hS (fun _ _ h => h) (fun _ h => h) (fun u t H1 locs1 ht hv hp hB _ _ hS1 => kk H1 locs1 (by rw [ht] at hB; exact hB.moved hv.symm) hS1)
/-- the end of a method -/
theorem m_ir {v : Int32} {r : Int32 × mM} (hx : p.tables.exec = Jvm.exec) (hb : c.code = cc) (hlk : meth.locks = false) (hr : meth.sig.returnType = some .int) (hR : mR X s H M) (hS : va_S (mL X) s.heap H locs) (hv : r = (v, M)) (hdg : decode cc pc = .ok (.ireturn, 1)) : W p l e R s m args below meth c H locs 0 0 (MQ below (mQi X r.2 r.1) args s 0 0 (mL X)) (F0 m pc ls [.int v]) := by
  subst hv
  exact W.iret hx hb hr (fun t ht hW => ⟨⟨v, (), rfl, rfl, by show mR X t t.heap M; rw [ht]; exact hR.moved hW.alike⟩, hS.F ht⟩) hS.2.2 hdg hlk
theorem m_zr {v : Int32} {r : Int32 × mM} (hx : p.tables.exec = Jvm.exec) (hb : c.code = cc) (hlk : meth.locks = false) (hr : meth.sig.returnType = some .boolean) (hR : mR X s H M) (hS : va_S (mL X) s.heap H locs) (hz : v = 0 ∨ v = 1) (hv : r = (v, M)) (hdg : decode cc pc = .ok (.ireturn, 1)) : W p l e R s m args below meth c H locs 0 0 (MQ below (mQi X r.2 r.1) args s 0 0 (mL X)) (F0 m pc ls [.int v]) := by
  subst hv
  exact W.zret hx hb hr (by rcases hz with rfl | rfl <;> rfl) (fun t ht hW => ⟨⟨v, (), rfl, rfl, by show mR X t t.heap M; rw [ht]; exact hR.moved hW.alike⟩, hS.F ht⟩) hS.2.2 hdg hlk
theorem m_lr {v : Int64} {r : Int64 × mM} (hx : p.tables.exec = Jvm.exec) (hb : c.code = cc) (hlk : meth.locks = false) (hr : meth.sig.returnType = some .long) (hR : mR X s H M) (hS : va_S (mL X) s.heap H locs) (hv : r = (v, M)) (hdg : decode cc pc = .ok (.lreturn, 1)) : W p l e R s m args below meth c H locs 0 0 (MQ below (mQl X r.2 r.1) args s 0 0 (mL X)) (F0 m pc ls [.long v]) := by
  subst hv
  exact W.lret hx hb hr (fun t ht hW => ⟨⟨v, (), rfl, rfl, by show mR X t t.heap M; rw [ht]; exact hR.moved hW.alike⟩, hS.F ht⟩) hS.2.2 hdg hlk
theorem m_vr {r : mM} (hx : p.tables.exec = Jvm.exec) (hb : c.code = cc) (hlk : meth.locks = false) (hr : meth.sig.returnType = none) (hR : mR X s H M) (hS : va_S (mL X) s.heap H locs) (hv : r = M) (hdg : decode cc pc = .ok (.return_, 1)) : W p l e R s m args below meth c H locs 0 0 (MQ below (mQv X r) args s 0 0 (mL X)) (F0 m pc ls []) := by
  subst hv
  exact W.vret hx hb hr (fun t ht hW => ⟨⟨(), rfl, trivial, by show mR X t t.heap r; rw [ht]; exact hR.moved hW.alike⟩, hS.F ht⟩) hS.2.2 hdg hlk
/-- System.arraycopy -/
theorem m_cpi (hx : p.tables.exec = Jvm.exec) (hb : c.code = cc) (hml : c.maxLocals = ls.size) (hown : s.vm.findClass own = some m.cls) (hF : mF X s s.heap) (hlink : mGw (Cond.methodLink own index arraycopyName)) (hnat : mGw (Cond.native arraycopyName)) (hstat : mGw (Cond.static arraycopyName)) (hini : mGw (Cond.initialized "java/lang/System"))
    (hR : mR X s H M) (hS : va_S (mL X) s.heap H locs) {k1 k2 n1 n2 : Nat} (hk1 : kd k1 = (10, n1)) (hk2 : kd k2 = (10, n2)) {sp dp n : Int32} (h1 : ¬ sp < 0) (h2 : ¬ dp < 0) (h3 : ¬ n < 0) (h4 : sp.toNatClampNeg + n.toNatClampNeg ≤ n1) (h5 : dp.toNatClampNeg + n.toNatClampNeg ≤ n2)
    (hframes : 1 ≤ R.frames) (hlocals : (rest.map fun v => v.category).sum + (nativeFrameWords "java/lang/System" "arraycopy" 5 + 11) ≤ R.locals) (hdg : decode cc pc = .ok (.invokestatic index, 3)) (hM : M1 = mC M k1 k2 sp.toNatClampNeg dp.toNatClampNeg n.toNatClampNeg)
    (kk : ∀ (H : Heap) (locs : List Loc), mR X s H M1 → va_S (mL X) s.heap H locs → W p l e R s m args below meth c H locs 0 0 Q (F0 m (pc + 3) ls rest)) : W p l e R s m args below meth c H locs 0 0 Q (F0 m pc ls (.int n :: .int dp :: .ref (X.1 k2) :: .int sp :: .ref (X.1 k1) :: rest)) := by
  subst hM
  refine va_copyi hx hb hml hown (hF.w hlink) (hF.w hnat) (hF.w hstat) (hF.w hini) hR.1 hR.2.1 hR.2.2 hS k1 k2 0 0 (mW_e hk1 (by decide) (ent10 hk1)) (mW_e hk2 (by decide) (ent10 hk2)) rfl rfl rfl h1 h2 h3 h4 h5 (fun _ _ => rfl) hframes hlocals hdg (fun H1 locs1 hP hD hS1 => ?_)
  rw [mW_set (N := mC M k1 k2 sp.toNatClampNeg dp.toNatClampNeg n.toNatClampNeg) (kd_lt hk2 (by decide)) (by rw [ent10 hk2, mC_self]) mC_entne] at hP hD
  exact kk H1 locs1 ⟨hR.1, hP, hD⟩ hS1
theorem m_cpz (hx : p.tables.exec = Jvm.exec) (hb : c.code = cc) (hml : c.maxLocals = ls.size) (hown : s.vm.findClass own = some m.cls) (hF : mF X s s.heap) (hlink : mGw (Cond.methodLink own index arraycopyName)) (hnat : mGw (Cond.native arraycopyName)) (hstat : mGw (Cond.static arraycopyName)) (hini : mGw (Cond.initialized "java/lang/System"))
    (hR : mR X s H M) (hS : va_S (mL X) s.heap H locs) {k1 k2 n1 n2 : Nat} (hk1 : kd k1 = (11, n1)) (hk2 : kd k2 = (11, n2)) {sp dp n : Int32} (h1 : ¬ sp < 0) (h2 : ¬ dp < 0) (h3 : ¬ n < 0) (h4 : sp.toNatClampNeg + n.toNatClampNeg ≤ n1) (h5 : dp.toNatClampNeg + n.toNatClampNeg ≤ n2) (h6 : ∀ i, i < n.toNatClampNeg → M.1 k1 (sp.toNatClampNeg + i) = 0 ∨ M.1 k1 (sp.toNatClampNeg + i) = 1)
    (hframes : 1 ≤ R.frames) (hlocals : (rest.map fun v => v.category).sum + (nativeFrameWords "java/lang/System" "arraycopy" 5 + 11) ≤ R.locals) (hdg : decode cc pc = .ok (.invokestatic index, 3)) (hM : M1 = mC M k1 k2 sp.toNatClampNeg dp.toNatClampNeg n.toNatClampNeg)
    (kk : ∀ (H : Heap) (locs : List Loc), mR X s H M1 → va_S (mL X) s.heap H locs → W p l e R s m args below meth c H locs 0 0 Q (F0 m (pc + 3) ls rest)) : W p l e R s m args below meth c H locs 0 0 Q (F0 m pc ls (.int n :: .int dp :: .ref (X.1 k2) :: .int sp :: .ref (X.1 k1) :: rest)) := by
  subst hM
  refine va_copyi hx hb hml hown (hF.w hlink) (hF.w hnat) (hF.w hstat) (hF.w hini) hR.1 hR.2.1 hR.2.2 hS k1 k2 1 1 (mW_e hk1 (by decide) (ent11 hk1)) (mW_e hk2 (by decide) (ent11 hk2)) rfl rfl rfl h1 h2 h3 h4 h5 (fun i hi => by rcases h6 i hi with q | q <;> rw [q] <;> rfl) hframes hlocals hdg (fun H1 locs1 hP hD hS1 => ?_)
  rw [mW_set (N := mC M k1 k2 sp.toNatClampNeg dp.toNatClampNeg n.toNatClampNeg) (kd_lt hk2 (by decide)) (by rw [ent11 hk2, mC_self]) mC_entne] at hP hD
  exact kk H1 locs1 ⟨hR.1, hP, hD⟩ hS1
theorem m_cpl (hx : p.tables.exec = Jvm.exec) (hb : c.code = cc) (hml : c.maxLocals = ls.size) (hown : s.vm.findClass own = some m.cls) (hF : mF X s s.heap) (hlink : mGw (Cond.methodLink own index arraycopyName)) (hnat : mGw (Cond.native arraycopyName)) (hstat : mGw (Cond.static arraycopyName)) (hini : mGw (Cond.initialized "java/lang/System"))
    (hR : mR X s H M) (hS : va_S (mL X) s.heap H locs) {k1 k2 n1 n2 : Nat} (hk1 : kd k1 = (12, n1)) (hk2 : kd k2 = (12, n2)) {sp dp n : Int32} (h1 : ¬ sp < 0) (h2 : ¬ dp < 0) (h3 : ¬ n < 0) (h4 : sp.toNatClampNeg + n.toNatClampNeg ≤ n1) (h5 : dp.toNatClampNeg + n.toNatClampNeg ≤ n2)
    (hframes : 1 ≤ R.frames) (hlocals : (rest.map fun v => v.category).sum + (nativeFrameWords "java/lang/System" "arraycopy" 5 + 11) ≤ R.locals) (hdg : decode cc pc = .ok (.invokestatic index, 3)) (hM : M1 = mCJ M k1 k2 sp.toNatClampNeg dp.toNatClampNeg n.toNatClampNeg)
    (kk : ∀ (H : Heap) (locs : List Loc), mR X s H M1 → va_S (mL X) s.heap H locs → W p l e R s m args below meth c H locs 0 0 Q (F0 m (pc + 3) ls rest)) : W p l e R s m args below meth c H locs 0 0 Q (F0 m pc ls (.int n :: .int dp :: .ref (X.1 k2) :: .int sp :: .ref (X.1 k1) :: rest)) := by
  subst hM
  refine va_copyl hx hb hml hown (hF.w hlink) (hF.w hnat) (hF.w hstat) (hF.w hini) hR.1 hR.2.1 hR.2.2 hS k1 k2 2 2 (mW_e hk1 (by decide) (ent12 hk1)) (mW_e hk2 (by decide) (ent12 hk2)) rfl rfl rfl h1 h2 h3 h4 h5 (fun _ _ => rfl) hframes hlocals hdg (fun H1 locs1 hP hD hS1 => ?_)
  rw [mW_set (N := mCJ M k1 k2 sp.toNatClampNeg dp.toNatClampNeg n.toNatClampNeg) (kd_lt hk2 (by decide)) (by rw [ent12 hk2, mCJ_self]) mCJ_entne] at hP hD
  exact kk H1 locs1 ⟨hR.1, hP, hD⟩ hS1
end MC
theorem m_ofi {l : Launch} {y : MethodName} {cc : ByteArray} {nL f n : Nat} {ty : FieldType} {X : mX} {As : List Value} {M : mM} {r : Int32 × mM} {lv : List (Nat × Value)} (hy : plainName y.cls = true) (hlen : (lg_sl As).length ≤ nL) (hlv : lv_args 0 As = lv)
    (body : ∀ (p : Program) (e : Env) (s : State) (m : MethodId) (args : Array Value) (below : List Frame) (meth : Method) (c : Code), mS X y.cls cc nL (some ty) p s m meth c → mG X p l e (rmF f n) s m args below meth c (MQ below (mQi X r.2 r.1) args s 0 0 (mL X)) nL 0 lv [] M) : mMi l y cc nL (some ty) f n X As M r := by
  subst hlv
  refine Met.ofW (cc := cc) (maxL := nL) (ret := some ty) hy rfl ?_
  intro p e s m args below meth c s₁ B hml hv
  obtain ⟨rfl, hF, hR⟩ := hv
  have hl := lv_entry As (n := nL) hlen
  rw [lg_entry_eq]
  exact body p e s m _ below meth c ⟨B.exec, B.bytes, hml, findClass_of_methodNamed B.named, hF, B.notSynchronized, B.returns⟩ s.heap [] _ hR va_S.rf hl
theorem m_ofl {l : Launch} {y : MethodName} {cc : ByteArray} {nL f n : Nat} {X : mX} {As : List Value} {M : mM} {r : Int64 × mM} {lv : List (Nat × Value)} (hy : plainName y.cls = true) (hlen : (lg_sl As).length ≤ nL) (hlv : lv_args 0 As = lv)
    (body : ∀ (p : Program) (e : Env) (s : State) (m : MethodId) (args : Array Value) (below : List Frame) (meth : Method) (c : Code), mS X y.cls cc nL (some .long) p s m meth c → mG X p l e (rmF f n) s m args below meth c (MQ below (mQl X r.2 r.1) args s 0 0 (mL X)) nL 0 lv [] M) : mMl l y cc nL f n X As M r := by
  subst hlv
  refine Met.ofW (cc := cc) (maxL := nL) (ret := some .long) hy rfl ?_
  intro p e s m args below meth c s₁ B hml hv
  obtain ⟨rfl, hF, hR⟩ := hv
  have hl := lv_entry As (n := nL) hlen
  rw [lg_entry_eq]
  exact body p e s m _ below meth c ⟨B.exec, B.bytes, hml, findClass_of_methodNamed B.named, hF, B.notSynchronized, B.returns⟩ s.heap [] _ hR va_S.rf hl
theorem m_ofv {l : Launch} {y : MethodName} {cc : ByteArray} {nL f n : Nat} {X : mX} {As : List Value} {M : mM} {r : mM} {lv : List (Nat × Value)} (hy : plainName y.cls = true) (hlen : (lg_sl As).length ≤ nL) (hlv : lv_args 0 As = lv)
    (body : ∀ (p : Program) (e : Env) (s : State) (m : MethodId) (args : Array Value) (below : List Frame) (meth : Method) (c : Code), mS X y.cls cc nL none p s m meth c → mG X p l e (rmF f n) s m args below meth c (MQ below (mQv X r) args s 0 0 (mL X)) nL 0 lv [] M) : mMv l y cc nL f n X As M r := by
  subst hlv
  refine Met.ofW (cc := cc) (maxL := nL) (ret := none) hy rfl ?_
  intro p e s m args below meth c s₁ B hml hv
  obtain ⟨rfl, hF, hR⟩ := hv
  have hl := lv_entry As (n := nL) hlen
  rw [lg_entry_eq]
  exact body p e s m _ below meth c ⟨B.exec, B.bytes, hml, findClass_of_methodNamed B.named, hF, B.notSynchronized, B.returns⟩ s.heap [] _ hR va_S.rf hl
