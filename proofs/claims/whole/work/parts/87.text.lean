/-! texts: what the document calls SHAPE and PROGRAM, as plain functions of a text (its bytes T, its size N). An answer is the place where the reading stopped, and whether it was all right. -/
def lk (T : Nat → Int32) (N p : Nat) : Int32 := if p < N then T p else -1
abbrev dg (l : Nat → Int32) (p lo hi : Nat) : Prop := nI (48 + lo) ≤ l p ∧ l p ≤ nI (48 + hi)
def dv (l : Nat → Int32) (p : Nat) : Nat := (l p - 48).toNatClampNeg
abbrev Rt : Type := Nat × Bool × (Nat → Bool)
def bx (brd : Bool) (x0 y0 x1 y1 x y : Nat) : Bool := decide ((x0 ≤ x ∧ x ≤ x1) ∧ (y0 ≤ y ∧ y ≤ y1) ∧ (brd = false ∨ x = x0 ∨ x = x1 ∨ y = y0 ∨ y = y1))
def tBox (l : Nat → Int32) (p : Nat) (brd : Bool) : Rt :=
  if dg l p 0 9 then
    if dg l (p + 1) 0 7 then
      if dg l (p + 2) (dv l p) 9 then
        if dg l (p + 3) (dv l (p + 1)) 7 then (p + 4, true, fun z => bx brd (dv l p) (dv l (p + 1)) (dv l (p + 2)) (dv l (p + 3)) (z % 10) (z / 10))
        else (p + 3, false, fun _ => false)
      else (p + 2, false, fun _ => false)
    else (p + 1, false, fun _ => false)
  else (p, false, fun _ => false)
def tAt (l : Nat → Int32) (slf : Nat → Rt) (b : Bool) (p : Nat) : Rt :=
  if b = true ∧ l p = 40 then
    if (slf (p + 1)).2.1 = true then
      if l (slf (p + 1)).1 = 41 then ((slf (p + 1)).1 + 1, true, (slf (p + 1)).2.2) else ((slf (p + 1)).1, false, fun _ => false)
    else slf (p + 1)
  else if l p = 98 then tBox l (p + 1) false
  else if l p = 111 then tBox l (p + 1) true
  else (p, false, fun _ => false)
def tNt (r : Rt) (nt : Bool) : Rt := (r.1, r.2.1, fun z => nt != r.2.2 z)
def tPt (l : Nat → Int32) (slf : Nat → Rt) (b : Bool) : Nat → Nat → Bool → Rt
  | 0, p, nt => tNt (tAt l slf b p) nt
  | k + 1, p, nt => if l p = 33 then tPt l slf b k (p + 1) (!nt) else tNt (tAt l slf b p) nt
def tCb (c : Int32) (v w : Nat → Bool) : Nat → Bool := fun z => if c = 43 then v z || w z else if c = 45 then v z && !(w z) else v z && w z
abbrev isOp (c : Int32) : Prop := c = 43 ∨ c = 45 ∨ c = 38
def tLp (l : Nat → Int32) (slf : Nat → Rt) (b : Bool) : Nat → Nat → (Nat → Bool) → Rt
  | 0, p, v => (p, true, v)
  | k + 1, p, v =>
    if isOp (l p) then
      if (tPt l slf b 90 (p + 1) false).2.1 = true then tLp l slf b k (tPt l slf b 90 (p + 1) false).1 (tCb (l p) v (tPt l slf b 90 (p + 1) false).2.2)
      else tPt l slf b 90 (p + 1) false
    else (p, true, v)
def tPs (l : Nat → Int32) (slf : Nat → Rt) (b : Bool) (p : Nat) : Rt :=
  if (tPt l slf b 90 p false).2.1 = true then tLp l slf b 90 (tPt l slf b 90 p false).1 (tPt l slf b 90 p false).2.2
  else tPt l slf b 90 p false
def tDp (l : Nat → Int32) : Nat → Nat → Rt
  | 0 => tPs l (fun p => (p, false, fun _ => false)) false
  | e + 1 => tPs l (tDp l e) true
def tSh (l : Nat → Int32) (N : Nat) : Rt := if (tDp l 6 0).2.1 = true ∧ (tDp l 6 0).1 < N then ((tDp l 6 0).1, false, (tDp l 6 0).2.2) else tDp l 6 0
/-! programs -/
def isF (l : Int32) : Prop := f_X4_isField l ≠ 0
abbrev Rp : Type := Nat × Bool
def pAtom (l : Nat → Int32) (p : Nat) : Rp :=
  if f_X4_isField (l p) ≠ 0 then (p + 1, true)
  else if dg l p 0 9 then
    if l p = 48 then (p + 1, true) else if dg l (p + 1) 0 9 then (p + 2, true) else (p + 1, true)
  else (p, false)
abbrev isPM (c : Int32) : Prop := c = 43 ∨ c = 45
def pLs (l : Nat → Int32) : Nat → Nat → Rp
  | 0, p => (p, true)
  | k + 1, p => if isPM (l p) then (if (pAtom l (p + 1)).2 = true then pLs l k (pAtom l (p + 1)).1 else pAtom l (p + 1)) else (p, true)
def pSum (l : Nat → Int32) (p : Nat) : Rp := if (pAtom l p).2 = true then pLs l 90 (pAtom l p).1 else pAtom l p
abbrev isCp (c : Int32) : Prop := c = 60 ∨ c = 62 ∨ c = 61
def pChk (l : Nat → Int32) (p : Nat) : Rp :=
  if (pSum l p).2 = true then
    if isCp (l (pSum l p).1) then pSum l ((pSum l p).1 + 1) else ((pSum l p).1, false)
  else pSum l p
def pLt (l : Nat → Int32) : Nat → Nat → Rp
  | 0, p => (p, true)
  | k + 1, p => if l p = 38 then (if (pChk l (p + 1)).2 = true then pLt l k (pChk l (p + 1)).1 else pChk l (p + 1)) else (p, true)
def pTst (l : Nat → Int32) (p : Nat) : Rp := if (pChk l p).2 = true then pLt l 90 (pChk l p).1 else pChk l p
def pAct (l : Nat → Int32) (p : Nat) : Rp :=
  if l p = 103 then (if dg l (p + 1) 0 7 then (p + 2, true) else (p + 1, false))
  else if l p = 121 ∨ l p = 61 then pSum l (p + 1)
  else (p, false)
/-- behind the test -/
def pTl (l : Nat → Int32) (p : Nat) : Rp :=
  if l p = 63 then
    if (pAct l (p + 1)).2 = true then
      if l (pAct l (p + 1)).1 = 59 then ((pAct l (p + 1)).1 + 1, true) else ((pAct l (p + 1)).1, false)
    else pAct l (p + 1)
  else (p, false)
def pRl (l : Nat → Int32) (p : Nat) : Rp := if (pTst l p).2 = true then pTl l (pTst l p).1 else pTst l p
def pLr (l : Nat → Int32) (N : Nat) : Nat → Nat → Rp
  | 0, p => (p, decide (N ≤ p))
  | k + 1, p => if N ≤ p then (p, true) else if (pRl l p).2 = true then pLr l N k (pRl l p).1 else pRl l p
def pPr (l : Nat → Int32) (N : Nat) : Rp := if (pRl l 0).2 = true then pLr l N 5 (pRl l 0).1 else pRl l 0
/-! what a program asks for: F tells what a field is -/
def vAtom (l : Nat → Int32) (F : Int32 → Int32) (p : Nat) : Int32 :=
  if f_X4_isField (l p) ≠ 0 then F (l p)
  else if l p = 48 then 0
  else if dg l (p + 1) 0 9 then (l p - 48) * 10 + l (p + 1) - 48
  else l p - 48
def vLs (l : Nat → Int32) (F : Int32 → Int32) : Nat → Nat → Int32 → Int32
  | 0, _, v => v
  | k + 1, p, v => if isPM (l p) then vLs l F k (pAtom l (p + 1)).1 (if l p = 43 then v + vAtom l F (p + 1) else v - vAtom l F (p + 1)) else v
def vSum (l : Nat → Int32) (F : Int32 → Int32) (p : Nat) : Int32 := vLs l F 90 (pAtom l p).1 (vAtom l F p)
def vChk (l : Nat → Int32) (F : Int32 → Int32) (p : Nat) : Prop :=
  if l (pSum l p).1 = 60 then vSum l F p < vSum l F ((pSum l p).1 + 1)
  else if l (pSum l p).1 = 62 then vSum l F ((pSum l p).1 + 1) < vSum l F p
  else vSum l F p = vSum l F ((pSum l p).1 + 1)
def vLt (l : Nat → Int32) (F : Int32 → Int32) : Nat → Nat → Prop
  | 0, _ => True
  | k + 1, p => l p = 38 → vChk l F (p + 1) ∧ vLt l F k (pChk l (p + 1)).1
def vTst (l : Nat → Int32) (F : Int32 → Int32) (p : Nat) : Prop := vChk l F p ∧ vLt l F 90 (pChk l p).1
/-! the relations between class and reference -/
abbrev rg (k s : Nat) (M : mM) : Nat → Int32 := fun i => M.1 k (s + i)
abbrev bits (C : Int64) (f : Nat → Prop) : Prop := ∀ j, j < 64 → (C.toBitVec.getLsbD j = true ↔ j < 40 ∧ f j)
def wC (b k : Nat) (M : mM) (A : Bd) : Prop := wf A ∧ repB (b + 1) M A ∧ repR k M A ∧ ∀ i, i < 16 → is01 (M.1 (b + 5) i)
def wT (b k : Nat) (M : mM) (t : Nat) : Prop := t ≤ 2000 ∧ M.1 b 1 = nI t ∧ M.1 k 5 = nI t
def wV (b k : Nat) (M : mM) (n : Nat) : Prop := ∀ c, c < n → M.1 (b + 9) c = M.1 k (90 + c) ∧ M.1 (b + 10) c = 0 ∧ M.1 (b + 11) c = M.1 k (106 + c)
def wH (b k : Nat) (M : mM) (n np : Nat) : Prop := ∀ c, c < n → (M.1 (b + 12) c = -1 ∧ M.1 k (122 + c) = -4) ∨ ∃ j, j < np ∧ M.1 (b + 12) c = nI j ∧ M.1 k (122 + c) = nI j
def wP (b k : Nat) (M : mM) (np : Nat) : Prop := np ≤ 8 ∧ M.1 b 8 = nI np ∧ M.1 k 2 = nI np ∧ ∀ j, j < np → ∃ N, N ≤ 90 ∧ M.1 (b + 23) j = nI N ∧ M.1 k (146 + j) = nI N ∧ (∀ i, i < N → M.1 (b + 15 + j) i = M.1 k (874 + 90 * j + i) ∧ M.1 k (874 + 90 * j + i) ≠ -1000) ∧ (pPr (lk (rg k (874 + 90 * j) M) N) N).2 = true
def wS (b k : Nat) (M : mM) (ns : Nat) : Prop := ns ≤ 8 ∧ M.1 b 6 = nI ns ∧ M.1 k 1 = nI ns ∧ ∀ j, j < ns → ∃ N, N ≤ 90 ∧ M.1 k (138 + j) = nI N ∧ (tSh (lk (rg k (154 + 90 * j) M) N) N).2.1 = true ∧ ∀ h, h < 2 → bits (M.2.1 (b + 13) (2 * j + h)) (fun z => (tSh (lk (rg k (154 + 90 * j) M) N) N).2.2 (40 * h + z) = true)
def wN (q r s k : Nat) (M : mM) (n t : Nat) : Prop := n ≤ 40 ∧ M.1 q 0 = nI n ∧ M.1 k s = nI n ∧ (∀ i, i < n → M.1 (q + 1) i = M.1 k (r + i) ∧ M.1 (q + 2) i = M.1 k (r + 40 + i) ∧ M.1 (q + 3) i = M.1 k (r + 80 + i) ∧ ∃ u, u ≤ t ∧ M.1 (q + 2) i = nI u) ∧ ∀ i, i < 40 → is01 (M.1 (q + 3) i)
def srt (q : Nat) (M : mM) (n : Nat) : Prop := ∀ i j, i ≤ j → j < n → M.1 (q + 2) i ≤ M.1 (q + 2) j
/-- all CUBES are WHOLE -/
def wW (A : Bd) : Prop := bN A = 0 ∨ Wh (bP A) (fun d => d < bN A)
/-- how many: CUBES as they are, TICKS, PROGRAMS, SHAPES, REPORTS, changes -/
abbrev Kt : Type := Bd × Nat × Nat × Nat × Nat × Nat
def wA (b k : Nat) (M : mM) (K : Kt) : Prop := wC b k M K.1 ∧ wT b k M K.2.1 ∧ wV b k M (bN K.1) ∧ wH b k M (bN K.1) K.2.2.1 ∧ wP b k M K.2.2.1 ∧ wS b k M K.2.2.2.1 ∧ wN (b + 28) 1594 3 k M K.2.2.2.2.1 K.2.1 ∧ wN (b + 24) 1714 4 k M K.2.2.2.2.2 K.2.1 ∧ srt (b + 24) M K.2.2.2.2.2 ∧ wW K.1
def iS (d : Nat) (M : mM) : Prop :=
  (M.1 108 d = 0 ∧ M.1 (80 + 2 * d) 0 = -2)
  ∨ (M.1 108 d = 1 ∧ M.1 (80 + 2 * d) 0 = -1 ∧ isK (M.1 109 d) ∧ M.1 (80 + 2 * d) 3 = M.1 109 d ∧ 8 * M.1 (80 + 2 * d) 4 + M.1 (80 + 2 * d) 5 = M.1 110 d ∧ M.1 (80 + 2 * d) 6 = M.1 111 d ∧ is01 (M.1 112 d) ∧ M.1 (80 + 2 * d) 7 = M.1 112 d)
  ∨ (M.1 108 d = 2 ∧ ∃ s N, s ≤ 2 ∧ N ≤ 90 ∧ M.1 113 d = nI s ∧ M.1 (80 + 2 * d) 0 = nI s ∧ M.1 114 d = nI N ∧ M.1 (80 + 2 * d) 1 = nI N ∧ ∀ i, i < 90 → M.1 (80 + 2 * d + 1) i = M.1 115 (90 * d + i) ∧ (s = 0 → M.1 115 (90 * d + i) ≠ -1000))
def iI (M : mM) : Prop := (M.1 0 2 = 0 ∧ M.1 96 3 = 0) ∨ (M.1 0 2 = 1 ∧ M.1 96 3 = 1 ∧ ∃ K, wA 33 98 M K)
def Inv (M : mM) : Prop := (∃ K, wA 1 97 M K ∧ repG M K.1) ∧ iI M ∧ (∀ d, d < 8 → iS d M) ∧ ∀ p, p < 120 → ¬ inG p → M.1 74 p = 0
