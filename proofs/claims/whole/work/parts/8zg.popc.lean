/-! met: bits counted -/
theorem land_s {a m r k : Nat} (ha : a < 256) (hm : m < 256) : (a + 256 * r) &&& (m + 256 * k) = (a &&& m) + 256 * (r &&& k) := by
  apply Nat.eq_of_testBit_eq
  intro i
  have e : ∀ u v : Nat, u < 256 → (u + 256 * v).testBit i = if i < 8 then u.testBit i else v.testBit (i - 8) := fun u v hu => by
    rw [Nat.add_comm, show 256 * v = 2 ^ 8 * v from rfl]
    exact Nat.testBit_two_pow_mul_add v (show u < 2 ^ 8 by omega) i
  rw [Nat.testBit_and, e a r ha, e m k hm, e (a &&& m) (r &&& k) (Nat.lt_of_le_of_lt Nat.and_le_left ha)]
  by_cases h : i < 8
  · rw [if_pos h, if_pos h, if_pos h, Nat.testBit_and]
  · rw [if_neg h, if_neg h, if_neg h, Nat.testBit_and]
theorem pc_a : ∀ a, a < 256 → ∀ b, b < 2 → (a / 2 + 128 * b) &&& 85 = (a / 2) &&& 85 := by decide +kernel
theorem pc_b : ∀ a, a < 256 → ∀ b, b < 4 → (a / 4 + 64 * b) &&& 51 = (a / 4) &&& 51 := by decide +kernel
theorem st1 {a r k : Nat} (ha : a < 256) : (a + 256 * r) - ((a + 256 * r) / 2 &&& (85 + 256 * k)) = (a - (a / 2 &&& 85)) + 256 * (r - (r / 2 &&& k)) := by
  rw [show (a + 256 * r) / 2 = (a / 2 + 128 * (r % 2)) + 256 * (r / 2) by omega, land_s (by omega) (by omega), pc_a a ha _ (by omega)]
  have h1 : a / 2 &&& 85 ≤ a / 2 := Nat.and_le_left
  have h2 : r / 2 &&& k ≤ r / 2 := Nat.and_le_left
  omega
theorem st2 {a r k : Nat} (ha : a < 256) : ((a + 256 * r) &&& (51 + 256 * k)) + ((a + 256 * r) / 4 &&& (51 + 256 * k)) = ((a &&& 51) + (a / 4 &&& 51)) + 256 * ((r &&& k) + (r / 4 &&& k)) := by
  rw [show (a + 256 * r) / 4 = (a / 4 + 64 * (r % 4)) + 256 * (r / 4) by omega, land_s (by omega) (by omega), land_s (by omega) (by omega), pc_b a ha _ (by omega)]
  omega
theorem st3 {a r k : Nat} (ha : a < 128) (h2 : r % 16 ≤ 4) : ((a + 256 * r) + (a + 256 * r) / 16 &&& (15 + 256 * k)) = (a + a / 16) % 16 + 256 * (r + r / 16 &&& k) := by
  rw [show (a + 256 * r) + (a + 256 * r) / 16 = (a + a / 16 + 16 * (r % 16)) + 256 * (r + r / 16) by omega, land_s (by omega) (by omega), show (15 : Nat) = 2 ^ 4 - 1 from rfl, Nat.and_two_pow_sub_one_eq_mod]
  omega
def pA (y : Nat) : Nat := y - (y / 2 &&& 85)
def pB (y : Nat) : Nat := (pA y &&& 51) + (pA y / 4 &&& 51)
def pC (y : Nat) : Nat := (pB y + pB y / 16) % 16
theorem pc_1 : ∀ y, y < 256 → pA y < 256 := by decide +kernel
theorem pc_2 : ∀ y, y < 256 → pB y < 128 := by decide +kernel
theorem pc_3 : ∀ y, y < 256 → pB y % 16 ≤ 4 := by decide +kernel
theorem pc_4 : ∀ y, y < 256 → pC y ≤ 8 := by decide +kernel
theorem pc_5 : ∀ y, y < 256 → pC y = y % 2 + y / 2 % 2 + y / 4 % 2 + y / 8 % 2 + y / 16 % 2 + y / 32 % 2 + y / 64 % 2 + y / 128 % 2 := by decide +kernel
abbrev vl (x : Int64) : Nat := x.toBitVec.toNat
theorem vl_and {x y : Int64} : vl (x &&& y) = vl x &&& vl y := by
  unfold vl
  rw [Int64.toBitVec_and, BitVec.toNat_and]
theorem vl_shr {x : Int64} {u : UInt64} : vl ((x.toUInt64 >>> u).toInt64) = vl x >>> (u.toNat % 64) := by
  show (x.toUInt64 >>> u).toNat = _
  rw [UInt64.toNat_shiftRight]
  rfl
theorem vl_sub {x y : Int64} (h : vl y ≤ vl x) : vl (x - y) = vl x - vl y := by
  unfold vl at h ⊢
  rw [Int64.toBitVec_sub]
  exact BitVec.toNat_sub_of_le h
theorem vl_add {x y : Int64} (h : vl x + vl y < 18446744073709551616) : vl (x + y) = vl x + vl y := by
  unfold vl at h ⊢
  rw [Int64.toBitVec_add]
  exact BitVec.toNat_add_of_lt h
theorem popc {C : Int64} {y0 y1 y2 y3 y4 : Nat} (h0 : y0 < 256) (h1 : y1 < 256) (h2 : y2 < 256) (h3 : y3 < 256) (h4 : y4 < 256) (h : vl C = y0 + 256 * (y1 + 256 * (y2 + 256 * (y3 + 256 * (y4 + 256 * 0))))) : f_J13_bitCount_95d88 C = nI (pC y0 + pC y1 + pC y2 + pC y3 + pC y4) := by
  unfold f_J13_bitCount_95d88
  rw [mlt_s, mlt_s, mlt_s, mlt_s, mlt_s, mlt_s]
  have u1 : (Int64.toUInt64 (Int32.toInt64 1) &&& Int64.toUInt64 63).toNat % 64 = 1 := by decide
  have u2 : (Int64.toUInt64 (Int32.toInt64 2) &&& Int64.toUInt64 63).toNat % 64 = 2 := by decide
  have u4 : (Int64.toUInt64 (Int32.toInt64 4) &&& Int64.toUInt64 63).toNat % 64 = 4 := by decide
  have u8 : (Int64.toUInt64 (Int32.toInt64 8) &&& Int64.toUInt64 63).toNat % 64 = 8 := by decide
  have u16 : (Int64.toUInt64 (Int32.toInt64 16) &&& Int64.toUInt64 63).toNat % 64 = 16 := by decide
  have u32 : (Int64.toUInt64 (Int32.toInt64 32) &&& Int64.toUInt64 63).toNat % 64 = 32 := by decide
  generalize hx1 : C - (((C.toUInt64 >>> (Int64.toUInt64 (Int32.toInt64 1) &&& Int64.toUInt64 63)).toInt64) &&& 6148914691236517205) = x1
  have e1 : vl x1 = pA y0 + 256 * (pA y1 + 256 * (pA y2 + 256 * (pA y3 + 256 * (pA y4 + 256 * 0)))) := by
    have k : vl (((C.toUInt64 >>> (Int64.toUInt64 (Int32.toInt64 1) &&& Int64.toUInt64 63)).toInt64) &&& 6148914691236517205) = vl C / 2 &&& 6148914691236517205 := by
      rw [vl_and, vl_shr, u1, Nat.shiftRight_eq_div_pow]
      rfl
    rw [← hx1, vl_sub (by rw [k]; exact Nat.le_trans Nat.and_le_left (Nat.div_le_self _ _)), k, h, show (6148914691236517205 : Nat) = 85 + 256 * (85 + 256 * (85 + 256 * (85 + 256 * (85 + 256 * 5592405)))) from rfl, st1 h0, st1 h1, st1 h2, st1 h3, st1 h4]
    rfl
  clear hx1
  generalize hx2 : (x1 &&& 3689348814741910323) + (((x1.toUInt64 >>> (Int64.toUInt64 (Int32.toInt64 2) &&& Int64.toUInt64 63)).toInt64) &&& 3689348814741910323) = x2
  have b0 := pc_1 y0 h0
  have b1 := pc_1 y1 h1
  have b2 := pc_1 y2 h2
  have b3 := pc_1 y3 h3
  have b4 := pc_1 y4 h4
  have e2 : vl x2 = pB y0 + 256 * (pB y1 + 256 * (pB y2 + 256 * (pB y3 + 256 * (pB y4 + 256 * 0)))) := by
    have k : vl (((x1.toUInt64 >>> (Int64.toUInt64 (Int32.toInt64 2) &&& Int64.toUInt64 63)).toInt64) &&& 3689348814741910323) = vl x1 / 4 &&& 3689348814741910323 := by
      rw [vl_and, vl_shr, u2, Nat.shiftRight_eq_div_pow]
      rfl
    have k2 : vl (x1 &&& 3689348814741910323) = vl x1 &&& 3689348814741910323 := by
      rw [vl_and]
      rfl
    have s : (vl x1 &&& 3689348814741910323) + (vl x1 / 4 &&& 3689348814741910323) = pB y0 + 256 * (pB y1 + 256 * (pB y2 + 256 * (pB y3 + 256 * (pB y4 + 256 * 0)))) := by
      rw [e1, show (3689348814741910323 : Nat) = 51 + 256 * (51 + 256 * (51 + 256 * (51 + 256 * (51 + 256 * 3355443)))) from rfl, st2 b0, st2 b1, st2 b2, st2 b3, st2 b4]
      rfl
    have c0 := pc_2 y0 h0
    have c1 := pc_2 y1 h1
    have c2 := pc_2 y2 h2
    have c3 := pc_2 y3 h3
    have c4 := pc_2 y4 h4
    rw [← hx2, vl_add (by rw [k, k2, s]; omega), k, k2, s]
  clear hx2
  generalize hx3 : (x2 + ((x2.toUInt64 >>> (Int64.toUInt64 (Int32.toInt64 4) &&& Int64.toUInt64 63)).toInt64)) &&& 1085102592571150095 = x3
  have c0 := pc_2 y0 h0
  have c1 := pc_2 y1 h1
  have c2 := pc_2 y2 h2
  have c3 := pc_2 y3 h3
  have c4 := pc_2 y4 h4
  have d1 := pc_3 y1 h1
  have d2 := pc_3 y2 h2
  have d3 := pc_3 y3 h3
  have d4 := pc_3 y4 h4
  have e3 : vl x3 = pC y0 + 256 * (pC y1 + 256 * (pC y2 + 256 * (pC y3 + 256 * pC y4))) := by
    have k : vl ((x2.toUInt64 >>> (Int64.toUInt64 (Int32.toInt64 4) &&& Int64.toUInt64 63)).toInt64) = vl x2 / 16 := by
      rw [vl_shr, u4, Nat.shiftRight_eq_div_pow]
    have k2 : vl (1085102592571150095 : Int64) = 15 + 256 * (15 + 256 * (15 + 256 * (15 + 256 * (15 + 256 * 986895)))) := rfl
    rw [← hx3, vl_and, vl_add (by rw [k, e2]; omega), k, k2, e2, st3 c0 (by omega), st3 c1 (by omega), st3 c2 (by omega), st3 c3 (by omega), st3 c4 (by omega)]
    rfl
  clear hx3
  have f0 := pc_4 y0 h0
  have f1 := pc_4 y1 h1
  have f2 := pc_4 y2 h2
  have f3 := pc_4 y3 h3
  have f4 := pc_4 y4 h4
  generalize pC y0 = g0 at *
  generalize pC y1 = g1 at *
  generalize pC y2 = g2 at *
  generalize pC y3 = g3 at *
  generalize pC y4 = g4 at *
  clear e1 e2
  generalize hx4 : x3 + ((x3.toUInt64 >>> (Int64.toUInt64 (Int32.toInt64 8) &&& Int64.toUInt64 63)).toInt64) = x4
  have e4 : vl x4 = vl x3 + vl x3 / 256 := by
    have k : vl ((x3.toUInt64 >>> (Int64.toUInt64 (Int32.toInt64 8) &&& Int64.toUInt64 63)).toInt64) = vl x3 / 256 := by
      rw [vl_shr, u8, Nat.shiftRight_eq_div_pow]
    rw [← hx4, vl_add (by rw [k]; omega), k]
  clear hx4
  generalize hx5 : x4 + ((x4.toUInt64 >>> (Int64.toUInt64 (Int32.toInt64 16) &&& Int64.toUInt64 63)).toInt64) = x5
  have e5 : vl x5 = vl x4 + vl x4 / 65536 := by
    have k : vl ((x4.toUInt64 >>> (Int64.toUInt64 (Int32.toInt64 16) &&& Int64.toUInt64 63)).toInt64) = vl x4 / 65536 := by
      rw [vl_shr, u16, Nat.shiftRight_eq_div_pow]
    rw [← hx5, vl_add (by rw [k]; omega), k]
  clear hx5
  generalize hx6 : x5 + ((x5.toUInt64 >>> (Int64.toUInt64 (Int32.toInt64 32) &&& Int64.toUInt64 63)).toInt64) = x6
  have e6 : vl x6 = vl x5 + vl x5 / 4294967296 := by
    have k : vl ((x5.toUInt64 >>> (Int64.toUInt64 (Int32.toInt64 32) &&& Int64.toUInt64 63)).toInt64) = vl x5 / 4294967296 := by
      rw [vl_shr, u32, Nat.shiftRight_eq_div_pow]
    rw [← hx6, vl_add (by rw [k]; omega), k]
  clear hx6
  have z : vl x6 % 128 = g0 + g1 + g2 + g3 + g4 := by
    clear b0 b1 b2 b3 b4 c0 c1 c2 c3 c4 d1 d2 d3 d4 u1 u2 u4 u8 u16 u32 h0 h1 h2 h3 h4 h
    rw [e3, show (g0 + 256 * (g1 + 256 * (g2 + 256 * (g3 + 256 * g4)))) / 256 = g1 + 256 * (g2 + 256 * (g3 + 256 * g4)) by omega] at e4
    have e4 : vl x4 = (g0 + g1) + 256 * ((g1 + g2) + 256 * ((g2 + g3) + 256 * ((g3 + g4) + 256 * g4))) := by omega
    rw [e4, show ((g0 + g1) + 256 * ((g1 + g2) + 256 * ((g2 + g3) + 256 * ((g3 + g4) + 256 * g4)))) / 65536 = (g2 + g3) + 256 * ((g3 + g4) + 256 * g4) by omega] at e5
    have e5 : vl x5 = (g0 + g1 + g2 + g3) + 256 * ((g1 + g2 + g3 + g4) + 256 * ((g2 + g3 + g4) + 256 * ((g3 + g4) + 256 * g4))) := by omega
    rw [e5, show ((g0 + g1 + g2 + g3) + 256 * ((g1 + g2 + g3 + g4) + 256 * ((g2 + g3 + g4) + 256 * ((g3 + g4) + 256 * g4)))) / 4294967296 = g4 by omega] at e6
    omega
  apply Int32.toBitVec_inj.mp
  apply BitVec.eq_of_toNat_eq
  have l : (Int64.toInt32 x6 &&& 127).toBitVec.toNat = vl x6 % 4294967296 &&& 127 := by
    rw [Int32.toBitVec_and, BitVec.toNat_and, Int64.toBitVec_toInt32, BitVec.signExtend_eq_setWidth_of_le _ (by decide), BitVec.toNat_setWidth]
    rfl
  have r : (nI (g0 + g1 + g2 + g3 + g4)).toBitVec.toNat = (g0 + g1 + g2 + g3 + g4) % 4294967296 := rfl
  rw [l, r, show (127 : Nat) = 2 ^ 7 - 1 from rfl, Nat.and_two_pow_sub_one_eq_mod]
  omega
