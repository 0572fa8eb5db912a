/-! numbers: nI k, the int of a natural number -/
theorem nI_ti {k : Nat} (h : k < 2147483648) : Lean.Grind.ToInt.toInt (nI k) = (k : Int) := nI_toInt h
theorem clamp_ti {i : Int32} (h : 0 ≤ i) : ((i.toNatClampNeg : Nat) : Int) = Lean.Grind.ToInt.toInt i := by
  show ((i.toInt.toNat : Nat) : Int) = i.toInt
  have := Int32.le_iff_toInt_le.mp h
  have e : (0 : Int32).toInt = 0 := rfl
  omega
theorem nlit {m : Nat} : (OfNat.ofNat m : Int32) = nI (OfNat.ofNat m) := rfl
theorem nadd {a b : Nat} : nI a + nI b = nI (a + b) := nI_add a b
theorem nsub {a b : Nat} (h : b ≤ a) : nI a - nI b = nI (a - b) := by
  have e : nI a = nI (a - b) + nI b := by rw [nI_add, Nat.sub_add_cancel h]
  rw [e]
  grind
theorem nmul {a b : Nat} : nI a * nI b = nI (a * b) := (Int32.ofNat_mul a b).symm
theorem ndiv {a b : Nat} (ha : a < 2147483648) (hb : b < 2147483648) : nI a / nI b = nI (a / b) := by
  refine Int32.toInt_inj.mp ?_
  rw [Int32.toInt_div, nI_toInt ha, nI_toInt hb, nI_toInt (Nat.lt_of_le_of_lt (Nat.div_le_self a b) ha)]
  have h1 : (a : Int).tdiv (b : Int) = ((a / b : Nat) : Int) := rfl
  rw [h1]
  have h2 : a / b ≤ a := Nat.div_le_self a b
  generalize a / b = q at h2 ⊢
  rw [Int.bmod]
  split <;> omega
theorem nle {a b : Nat} (ha : a < 2147483648) (hb : b < 2147483648) : (nI a ≤ nI b) ↔ a ≤ b := nI_leI ha hb
theorem nlt {a b : Nat} (ha : a < 2147483648) (hb : b < 2147483648) : (nI a < nI b) ↔ a < b := by grind [nI_ti]
theorem neq {a b : Nat} (ha : a < 2147483648) (hb : b < 2147483648) : (nI a = nI b) ↔ a = b := nI_eq ha hb
theorem nlt0 {a : Nat} (ha : a < 2147483648) : ¬ nI a < 0 := by grind [nI_ti]
theorem nle0 {a : Nat} (ha : a < 2147483648) : 0 ≤ nI a := by grind [nI_ti]
theorem nneg {a m : Nat} (ha : a < 2147483648) (hm : 0 < m) (hm2 : m < 2147483648) : ¬ nI a = - nI m := by grind [nI_ti]
theorem lle {m b : Nat} (ha : OfNat.ofNat m < 2147483648) (hb : b < 2147483648) : ((no_index (OfNat.ofNat m : Int32)) ≤ nI b) ↔ OfNat.ofNat m ≤ b := nI_leI ha hb
theorem llt {m b : Nat} (ha : OfNat.ofNat m < 2147483648) (hb : b < 2147483648) : ((no_index (OfNat.ofNat m : Int32)) < nI b) ↔ OfNat.ofNat m < b := nlt ha hb
theorem leL {m b : Nat} (ha : OfNat.ofNat m < 2147483648) (hb : b < 2147483648) : (nI b ≤ (no_index (OfNat.ofNat m : Int32))) ↔ b ≤ OfNat.ofNat m := nI_leI hb ha
theorem ltL {m b : Nat} (ha : OfNat.ofNat m < 2147483648) (hb : b < 2147483648) : (nI b < (no_index (OfNat.ofNat m : Int32))) ↔ b < OfNat.ofNat m := nlt hb ha
theorem eqL {m b : Nat} (ha : OfNat.ofNat m < 2147483648) (hb : b < 2147483648) : (nI b = (no_index (OfNat.ofNat m : Int32))) ↔ b = OfNat.ofNat m := nI_eq hb ha
theorem leq {m b : Nat} (ha : OfNat.ofNat m < 2147483648) (hb : b < 2147483648) : ((no_index (OfNat.ofNat m : Int32)) = nI b) ↔ OfNat.ofNat m = b := nI_eq ha hb
theorem ladd {m b : Nat} : (no_index (OfNat.ofNat m : Int32)) + nI b = nI (OfNat.ofNat m + b) := nI_add _ _
theorem addL {m b : Nat} : nI b + (no_index (OfNat.ofNat m : Int32)) = nI (b + OfNat.ofNat m) := nI_add _ _
theorem lmul {m b : Nat} : (no_index (OfNat.ofNat m : Int32)) * nI b = nI (OfNat.ofNat m * b) := nmul
theorem mulL {m b : Nat} : nI b * (no_index (OfNat.ofNat m : Int32)) = nI (b * OfNat.ofNat m) := nmul
theorem subL {m b : Nat} (h : OfNat.ofNat m ≤ b) : nI b - (no_index (OfNat.ofNat m : Int32)) = nI (b - OfNat.ofNat m) := nsub h
theorem divL {m b : Nat} (ha : b < 2147483648) (hb : OfNat.ofNat m < 2147483648) : nI b / (no_index (OfNat.ofNat m : Int32)) = nI (b / OfNat.ofNat m) := ndiv ha hb
theorem ncl {k : Nat} (h : k < 2147483648) : (nI k).toNatClampNeg = k := nI_clamp h
theorem nin {k n : Nat} (h : k < 2147483648) : mIn (nI k) n ↔ k < n := by
  unfold mIn
  rw [ncl h]
  have := nlt0 h
  grind
theorem nand31 {k : Nat} (h : k < 32) : nI k &&& 31 = nI k := by
  have : ∀ k, k < 32 → nI k &&& 31 = nI k := by decide +kernel
  exact this k h
