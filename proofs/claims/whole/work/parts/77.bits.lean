/-! sets of bits -/
theorem nor {a b : Nat} : nI a ||| nI b = nI (a ||| b) := by
  apply Int32.toBitVec_inj.mp
  rw [Int32.toBitVec_or]
  exact BitVec.ofNat_or.symm
theorem nand {a b : Nat} : nI a &&& nI b = nI (a &&& b) := by
  apply Int32.toBitVec_inj.mp
  rw [Int32.toBitVec_and]
  exact BitVec.ofNat_and.symm
theorem nshl : ∀ d, d < 16 → (1 : Int32) <<< (nI d &&& 31) = nI (2 ^ d) := by decide +kernel
theorem nshr {F d : Nat} (hF : F < 65536) (hd : d < 16) : nI F >>> (nI d &&& 31) = nI (F >>> d) := by
  rw [nand31 (by omega)]
  apply Int32.toBitVec_inj.mp
  apply BitVec.eq_of_toInt_eq
  rw [Int32.toBitVec_shiftRight, BitVec.toInt_sshiftRight']
  have e1 : (nI F).toBitVec.toInt = (F : Int) := nI_toInt (by omega)
  have e2 : ((nI d).toBitVec.smod 32).toNat = d := by
    have : ∀ d, d < 16 → ((nI d).toBitVec.smod 32).toNat = d := by decide +kernel
    exact this d hd
  have e3 : (nI (F >>> d)).toBitVec.toInt = ((F >>> d : Nat) : Int) := nI_toInt (Nat.lt_of_le_of_lt (by rw [Nat.shiftRight_eq_div_pow]; exact Nat.div_le_self _ _) (show F < 2 ^ 31 by omega))
  rw [e1, e2, e3]
  rfl
theorem nbit {F d : Nat} (hF : F < 65536) (hd : d < 16) : (nI F >>> (nI d &&& 31)) &&& 1 = if F.testBit d then 1 else 0 := by
  rw [nshr hF hd, show (1 : Int32) = nI 1 from rfl, nand]
  have : F >>> d &&& 1 = (F.testBit d).toNat := by
    rw [Nat.testBit, Nat.and_comm]
    have h : 1 &&& F >>> d = 0 ∨ 1 &&& F >>> d = 1 := by
      rw [Nat.one_and_eq_mod_two]
      omega
    rcases h with h | h <;> rw [h] <;> rfl
  rw [this]
  cases F.testBit d <;> rfl
theorem bor {F d e : Nat} : (F ||| 2 ^ d).testBit e = (F.testBit e || decide (d = e)) := by
  rw [Nat.testBit_or, Nat.testBit_two_pow]
theorem bor_lt {F d : Nat} (hF : F < 65536) (hd : d < 16) : F ||| 2 ^ d < 65536 := Nat.or_lt_two_pow (n := 16) hF (Nat.pow_lt_pow_right (by decide) hd)
theorem bor_gt {F d : Nat} (h : F.testBit d = false) : F < F ||| 2 ^ d := by
  have h1 : F ≤ F ||| 2 ^ d := Nat.left_le_or
  rcases Nat.lt_or_ge F (F ||| 2 ^ d) with q | q
  · exact q
  · have e : F ||| 2 ^ d = F := Nat.le_antisymm q h1
    have := bor (F := F) (d := d) (e := d)
    rw [e, h] at this
    simp at this
theorem bhi {F e : Nat} (hF : F < 65536) (he : 16 ≤ e) : F.testBit e = false := Nat.testBit_lt_two_pow (Nat.lt_of_lt_of_le hF (Nat.pow_le_pow_right (n := 2) (by decide) he))
theorem bext {F G : Nat} (hF : F < 65536) (hG : G < 65536) (h : ∀ d, d < 16 → F.testBit d = G.testBit d) : F = G := by
  apply Nat.eq_of_testBit_eq
  intro d
  rcases Nat.lt_or_ge d 16 with q | q
  · exact h d q
  · rw [bhi hF q, bhi hG q]
theorem band0 {V F : Nat} (hV : V < 65536) (hF : F < 65536) : nI V &&& nI F = 0 ↔ ∀ d, d < 16 → V.testBit d = true → F.testBit d = false := by
  rw [nand, show (0 : Int32) = nI 0 from rfl, neq (Nat.lt_of_le_of_lt Nat.and_le_left (by omega)) (by decide)]
  constructor
  · intro h d hd hv
    have := congrArg (fun x => x.testBit d) h
    simp only [Nat.testBit_and, Nat.zero_testBit] at this
    rw [hv] at this
    simpa using this
  · intro h
    apply Nat.eq_of_testBit_eq
    intro d
    rw [Nat.testBit_and, Nat.zero_testBit]
    rcases Nat.lt_or_ge d 16 with q | q
    · cases hv : V.testBit d
      · rfl
      · rw [h d q hv]; rfl
    · rw [bhi hV q]; rfl
