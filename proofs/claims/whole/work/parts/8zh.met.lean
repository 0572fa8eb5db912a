/-! met -/
def smq (v : Nat → Nat) : Nat → Nat
  | 0 => 0
  | n + 1 => smq v n + v n
theorem by8 (u : Nat) : pC (u % 256) = u % 2 + u / 2 % 2 + u / 4 % 2 + u / 8 % 2 + u / 16 % 2 + u / 32 % 2 + u / 64 % 2 + u / 128 % 2 := by
  rw [pc_5 _ (by omega), show u % 256 % 2 = u % 2 by omega, show u % 256 / 2 % 2 = u / 2 % 2 by omega, show u % 256 / 4 % 2 = u / 4 % 2 by omega, show u % 256 / 8 % 2 = u / 8 % 2 by omega, show u % 256 / 16 % 2 = u / 16 % 2 by omega, show u % 256 / 32 % 2 = u / 32 % 2 by omega, show u % 256 / 64 % 2 = u / 64 % 2 by omega, show u % 256 / 128 % 2 = u / 128 % 2 by omega]
theorem popc_bits {C : Int64} {g : Nat → Bool} (h : bits C (fun z => g z = true)) : f_J13_bitCount_95d88 C = nI (smq (fun z => (g z).toNat) 40) := by
  have hb : ∀ j, C.toBitVec.getLsbD j = (decide (j < 40) && g j) := fun j => by
    by_cases hj : j < 64
    · have := h j hj
      rw [Bool.eq_iff_iff, this, Bool.and_eq_true, decide_eq_true_eq]
    · rw [BitVec.getLsbD_of_ge _ _ (by omega), decide_eq_false (by omega)]
      rfl
  have lt : vl C < 2 ^ 40 := Nat.lt_pow_two_of_testBit _ (fun i hi => by
    show C.toBitVec.getLsbD i = false
    rw [hb i, decide_eq_false (by omega)]
    rfl)
  have key : ∀ j, j < 40 → vl C / 2 ^ j % 2 = (g j).toNat := fun j hj => by
    have e : (vl C).testBit j = g j := by
      show C.toBitVec.getLsbD j = g j
      rw [hb j, decide_eq_true hj]
      rfl
    rw [Nat.testBit_eq_decide_div_mod_eq] at e
    rw [← e]
    have : vl C / 2 ^ j % 2 = 0 ∨ vl C / 2 ^ j % 2 = 1 := by omega
    rcases this with q | q
    · rw [q]; rfl
    · rw [q]; rfl
  have lt : vl C < 1099511627776 := lt
  rw [popc (C := C) (y0 := vl C % 256) (y1 := vl C / 256 % 256) (y2 := vl C / 65536 % 256) (y3 := vl C / 16777216 % 256) (y4 := vl C / 4294967296 % 256) (by omega) (by omega) (by omega) (by omega) (by omega) (by omega)]
  generalize vl C = x at key
  rw [by8 x, by8 (x / 256), by8 (x / 65536), by8 (x / 16777216), by8 (x / 4294967296)]
  have k0 : x % 2 = (g 0).toNat := by
    have := key 0 (by decide)
    rwa [Nat.pow_zero, Nat.div_one] at this
  have k1 : x / 2 % 2 = (g 1).toNat := key 1 (by decide)
  have k2 : x / 4 % 2 = (g 2).toNat := key 2 (by decide)
  have k3 : x / 8 % 2 = (g 3).toNat := key 3 (by decide)
  have k4 : x / 16 % 2 = (g 4).toNat := key 4 (by decide)
  have k5 : x / 32 % 2 = (g 5).toNat := key 5 (by decide)
  have k6 : x / 64 % 2 = (g 6).toNat := key 6 (by decide)
  have k7 : x / 128 % 2 = (g 7).toNat := key 7 (by decide)
  have k8 : x / 256 % 2 = (g 8).toNat := key 8 (by decide)
  have k9 : x / 512 % 2 = (g 9).toNat := key 9 (by decide)
  have k10 : x / 1024 % 2 = (g 10).toNat := key 10 (by decide)
  have k11 : x / 2048 % 2 = (g 11).toNat := key 11 (by decide)
  have k12 : x / 4096 % 2 = (g 12).toNat := key 12 (by decide)
  have k13 : x / 8192 % 2 = (g 13).toNat := key 13 (by decide)
  have k14 : x / 16384 % 2 = (g 14).toNat := key 14 (by decide)
  have k15 : x / 32768 % 2 = (g 15).toNat := key 15 (by decide)
  have k16 : x / 65536 % 2 = (g 16).toNat := key 16 (by decide)
  have k17 : x / 131072 % 2 = (g 17).toNat := key 17 (by decide)
  have k18 : x / 262144 % 2 = (g 18).toNat := key 18 (by decide)
  have k19 : x / 524288 % 2 = (g 19).toNat := key 19 (by decide)
  have k20 : x / 1048576 % 2 = (g 20).toNat := key 20 (by decide)
  have k21 : x / 2097152 % 2 = (g 21).toNat := key 21 (by decide)
  have k22 : x / 4194304 % 2 = (g 22).toNat := key 22 (by decide)
  have k23 : x / 8388608 % 2 = (g 23).toNat := key 23 (by decide)
  have k24 : x / 16777216 % 2 = (g 24).toNat := key 24 (by decide)
  have k25 : x / 33554432 % 2 = (g 25).toNat := key 25 (by decide)
  have k26 : x / 67108864 % 2 = (g 26).toNat := key 26 (by decide)
  have k27 : x / 134217728 % 2 = (g 27).toNat := key 27 (by decide)
  have k28 : x / 268435456 % 2 = (g 28).toNat := key 28 (by decide)
  have k29 : x / 536870912 % 2 = (g 29).toNat := key 29 (by decide)
  have k30 : x / 1073741824 % 2 = (g 30).toNat := key 30 (by decide)
  have k31 : x / 2147483648 % 2 = (g 31).toNat := key 31 (by decide)
  have k32 : x / 4294967296 % 2 = (g 32).toNat := key 32 (by decide)
  have k33 : x / 8589934592 % 2 = (g 33).toNat := key 33 (by decide)
  have k34 : x / 17179869184 % 2 = (g 34).toNat := key 34 (by decide)
  have k35 : x / 34359738368 % 2 = (g 35).toNat := key 35 (by decide)
  have k36 : x / 68719476736 % 2 = (g 36).toNat := key 36 (by decide)
  have k37 : x / 137438953472 % 2 = (g 37).toNat := key 37 (by decide)
  have k38 : x / 274877906944 % 2 = (g 38).toNat := key 38 (by decide)
  have k39 : x / 549755813888 % 2 = (g 39).toNat := key 39 (by decide)
  simp only [Nat.div_div_eq_div_mul, Nat.reduceMul, smq, k0, k1, k2, k3, k4, k5, k6, k7, k8, k9, k10, k11, k12, k13, k14, k15, k16, k17, k18, k19, k20, k21, k22, k23, k24, k25, k26, k27, k28, k29, k30, k31, k32, k33, k34, k35, k36, k37, k38, k39]
  congr 1
  clear key lt hb h k0 k1 k2 k3 k4 k5 k6 k7 k8 k9 k10 k11 k12 k13 k14 k15 k16 k17 k18 k19 k20 k21 k22 k23 k24 k25 k26 k27 k28 k29 k30 k31 k32 k33 k34 k35 k36 k37 k38 k39
  omega
theorem sm80 (V : Nat → Nat) : smq (fun z => V (40 * 0 + z)) 40 + smq (fun z => V (40 * 1 + z)) 40 = smq (fun p => V (10 * (p % 8) + p / 8)) 80 := by
  simp only [smq, Nat.reduceMod, Nat.reduceDiv, Nat.reduceMul, Nat.reduceAdd, Nat.zero_add, Nat.add_zero]
  omega
theorem nI_p {a : Nat} (h : 0 < a) : nI a - 1 = nI (a - 1) := by
  obtain ⟨b, rfl⟩ : ∃ b, a = b + 1 := ⟨a - 1, by omega⟩
  rw [← nI_1]
  show nI b + 1 - 1 = nI b
  grind
theorem bI_n {b : Bool} : bI b = nI b.toNat := by cases b <;> rfl
