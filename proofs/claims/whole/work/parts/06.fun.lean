/-! the methods as plain functions over the memory, printed by wip/gen/main.py -/
def f_X9_onGrid (i0 : Int32) (i1 : Int32) : Int32 :=
  if i0 < 0 then (0)
  else (if 10 ≤ i0 then (0)
  else (if i1 < 0 then (0)
  else (if 8 ≤ i1 then (0)
  else (1))))
def f_X9_cellOf (i0 : Int32) (i1 : Int32) : Int32 :=
  ((((i1 + 1) * 12) + i0) + 1)
def f_X0_inCell (b : Nat) (i1 : Int32) (M : mM) : Option Int32 :=
  if i1 < 0 then (some (-2))
  else (if 120 ≤ i1 then (some (-2))
  else (mgd (mIn i1 120) <|
  some (M.1 (b + 6) (Int32.toNatClampNeg i1))))
def f_X0_has (b : Nat) (i1 : Int32) (M : mM) : Int32 :=
  if i1 < 0 then (0)
  else (if (M.1 b 0) ≤ i1 then (0)
  else (1))
def f_X9_levelOf (i0 : Int32) : Int32 :=
  ((i0 / 12) - 1)
def f_X0_holdsOn_b42 : Nat → Nat → Int32 → Int32 → Int32 → mM → Option Int32
  | 0, _, _, _, _, _ => none
  | n + 1, b, i1, i2, i4, M =>
  if 4 ≤ i4 then (some 0)
  else (mgd (mIn i4 8) <|
  mbp (f_X0_inCell b (i1 + (sVal 3 (Int32.toNatClampNeg i4))) M) fun v57 =>
  if v57 < 0 then (mlt (i4 + 1) fun x75 =>
  f_X0_holdsOn_b42 n b i1 i2 x75 M)
  else (if v57 = i2 then (mlt (i4 + 1) fun x75 =>
  f_X0_holdsOn_b42 n b i1 i2 x75 M)
  else (some 1)))
def f_X0_holdsOn_b21 (b : Nat) (i1 : Int32) (i2 : Int32) (s0 : Int32) (M : mM) : Option Int32 :=
  if s0 = 0 then (if (f_X9_levelOf i1) = 0 then (some 1)
  else (some 0))
  else (f_X0_holdsOn_b42 mN b i1 i2 0 M)
def f_X0_holdsOn (b : Nat) (i1 : Int32) (i2 : Int32) (M : mM) : Option Int32 :=
  if (f_X0_has b i2 M) = 0 then (f_X0_holdsOn_b21 b i1 i2 (M.1 b 0) M)
  else (f_X0_holdsOn_b21 b i1 i2 ((M.1 b 0) - 1) M)
def f_X0_place (b : Nat) (i1 : Int32) (i2 : Int32) (i3 : Int32) (M : mM) : Option mM :=
  if 16 ≤ (M.1 b 0) then (some M)
  else (mbp (f_X0_inCell b i2 M) fun v11 =>
  if v11 = (-1) then (mgd (mIn (M.1 b 0) 16) <|
  mlt (mI M (b + 1) (Int32.toNatClampNeg (M.1 b 0)) i1) fun M27 =>
  mgd (mIn (M27.1 b 0) 16) <|
  mlt (mI M27 (b + 2) (Int32.toNatClampNeg (M27.1 b 0)) i2) fun M37 =>
  mgd (mIn (M37.1 b 0) 16) <|
  mlt (mI M37 (b + 3) (Int32.toNatClampNeg (M37.1 b 0)) i3) fun M47 =>
  mgd (mIn (M47.1 b 0) 16) <|
  mlt (mI M47 (b + 4) (Int32.toNatClampNeg (M47.1 b 0)) 0) fun M57 =>
  mgd (mIn i2 120) <|
  mlt (mI M57 (b + 6) (Int32.toNatClampNeg i2) (M57.1 b 0)) fun M67 =>
  mlt (mI M67 b 0 ((M67.1 b 0) + 1)) fun M75 =>
  some M75)
  else (some M))
def f_X8_addCube (b : Nat) (i1 : Int32) (i2 : Int32) (i3 : Int32) (M : mM) : Option (Int32 × mM) :=
  mlt (M.1 (b + 1) 0) fun x7 =>
  if x7 < 16 then (mbp (f_X0_place (b + 1) i1 i2 i3 M) fun M26 =>
  mgd (mIn x7 16) <|
  mlt (mI M26 (b + 9) (Int32.toNatClampNeg x7) 0) fun M36 =>
  mgd (mIn x7 16) <|
  mlt (mI M36 (b + 10) (Int32.toNatClampNeg x7) 0) fun M44 =>
  mgd (mIn x7 16) <|
  mlt (mI M44 (b + 11) (Int32.toNatClampNeg x7) 0) fun M52 =>
  mgd (mIn x7 16) <|
  mlt (mI M52 (b + 12) (Int32.toNatClampNeg x7) (-1)) fun M60 =>
  some (x7, M60))
  else (some ((-2), M))
def f_X9_cube (i1 : Int32) (i2 : Int32) (i3 : Int32) (i4 : Int32) (M : mM) : Option (Int32 × mM) :=
  if i1 < 0 then (some ((-1), M))
  else (if 4 ≤ i1 then (some ((-1), M))
  else (if (f_X9_onGrid i2 i3) = 0 then (some ((-1), M))
  else (if i4 < 0 then (some ((-1), M))
  else (if i4 ≤ 999 then (if (M.1 2 0) < 16 then (mlt (f_X9_cellOf i2 i3) fun x55 =>
  mbp (f_X0_inCell 2 x55 M) fun v66 =>
  if v66 = (-1) then (mbp (f_X0_holdsOn 2 x55 (-1) M) fun v83 =>
  if v83 = 0 then (some ((-3), M))
  else (mbw (f_X8_addCube 1 i1 x55 i4 M) fun v101 M101 =>
  some (v101, M101)))
  else (some ((-3), M)))
  else (some ((-2), M)))
  else (some ((-1), M))))))
def f_X9_columnOf (i0 : Int32) : Int32 :=
  ((i0 - i0 / 12 * 12) - 1)
def f_X9_oneIf (i0 : Int32) : Int32 :=
  if i0 = 0 then (0)
  else (1)
def f_X0_hangs (b : Nat) (i1 : Int32) (M : mM) : Option Int32 :=
  mbp (f_X0_inCell b (i1 - 12) M) fun v5 =>
  if v5 = (-1) then (some 1)
  else (some 0)
def f_X0_passOn_b82 (b : Nat) (i2 : Int32) (i5 : Int32) (i6 : Int32) (M : mM) : Option mM :=
  if i5 < 0 then (some M)
  else (mgd (mIn i5 16) <|
  mgd (mIn i5 16) <|
  mlt (mI M (b + 5) (Int32.toNatClampNeg i5) ((M.1 (b + 5) (Int32.toNatClampNeg i5)) + (i2 - i6))) fun M100 =>
  some M100)
def f_X0_passOn_b63 (b : Nat) (i2 : Int32) (i4 : Int32) (i5 : Int32) (s0 : Int32) (M : mM) : Option mM :=
  if i4 < 0 then (f_X0_passOn_b82 b i2 i5 s0 M)
  else (mgd (mIn i4 16) <|
  mgd (mIn i4 16) <|
  mlt (mI M (b + 5) (Int32.toNatClampNeg i4) ((M.1 (b + 5) (Int32.toNatClampNeg i4)) + s0)) fun M81 =>
  f_X0_passOn_b82 b i2 i5 s0 M81)
def f_X0_passOn (b : Nat) (i1 : Int32) (i2 : Int32) (M : mM) : Option mM :=
  mbp (f_X0_inCell b (i1 - 12) M) fun v5 =>
  if v5 < 0 then (mbp (f_X0_inCell b (i1 + 1) M) fun v28 =>
  mbp (f_X0_inCell b (i1 - 1) M) fun v37 =>
  if 0 ≤ v28 then (if 0 ≤ v37 then (f_X0_passOn_b63 b i2 v28 v37 (i2 / 2) M)
  else (f_X0_passOn_b63 b i2 v28 v37 i2 M))
  else (f_X0_passOn_b63 b i2 v28 v37 0 M))
  else (mgd (mIn v5 16) <|
  mgd (mIn v5 16) <|
  mlt (mI M (b + 5) (Int32.toNatClampNeg v5) ((M.1 (b + 5) (Int32.toNatClampNeg v5)) + i2)) fun M22 =>
  some M22)
def f_X0_passRowOn_b2 : Nat → Nat → Int32 → Int32 → Int32 → mM → Option mM
  | 0, _, _, _, _, _ => none
  | n + 1, b, i1, i2, i3, M =>
  if 10 ≤ i3 then (some M)
  else (mlt (f_X9_cellOf i3 i1) fun x13 =>
  mbp (f_X0_inCell b x13 M) fun v18 =>
  if v18 < 0 then (mlt (i3 + 1) fun x63 =>
  f_X0_passRowOn_b2 n b i1 i2 x63 M)
  else (mbp (f_X0_hangs b x13 M) fun v31 =>
  if v31 = i2 then (mgd (mIn v18 16) <|
  mgd (mIn (M.1 (b + 1) (Int32.toNatClampNeg v18)) 4) <|
  mgd (mIn v18 16) <|
  mbp (f_X0_passOn b x13 ((sVal 0 (Int32.toNatClampNeg (M.1 (b + 1) (Int32.toNatClampNeg v18)))) + (M.1 (b + 5) (Int32.toNatClampNeg v18))) M) fun M60 =>
  mlt (i3 + 1) fun x63 =>
  f_X0_passRowOn_b2 n b i1 i2 x63 M60)
  else (mlt (i3 + 1) fun x63 =>
  f_X0_passRowOn_b2 n b i1 i2 x63 M)))
def f_X0_passRowOn (b : Nat) (i1 : Int32) (i2 : Int32) (M : mM) : Option mM :=
  f_X0_passRowOn_b2 mN b i1 i2 0 M
def f_X0_weigh_b26 : Nat → Nat → Int32 → mM → Option mM
  | 0, _, _, _ => none
  | n + 1, b, i1, M =>
  if i1 ≤ 0 then (some M)
  else (mbp (f_X0_passRowOn b i1 1 M) fun M33 =>
  mbp (f_X0_passRowOn b i1 0 M33) fun M39 =>
  mlt (i1 + (-1)) fun x42 =>
  f_X0_weigh_b26 n b x42 M39)
def f_X0_weigh_b2 : Nat → Nat → Int32 → mM → Option mM
  | 0, _, _, _ => none
  | n + 1, b, i1, M =>
  if (M.1 b 0) ≤ i1 then (f_X0_weigh_b26 mN b 7 M)
  else (mgd (mIn i1 16) <|
  mlt (mI M (b + 5) (Int32.toNatClampNeg i1) 0) fun M16 =>
  mlt (i1 + 1) fun x17 =>
  f_X0_weigh_b2 n b x17 M16)
def f_X0_weigh (b : Nat) (M : mM) : Option mM :=
  f_X0_weigh_b2 mN b 0 M
def f_X0_loadOf (b : Nat) (i1 : Int32) (M : mM) : Option (Int32 × mM) :=
  mbp (f_X0_weigh b M) fun M1 =>
  mgd (mIn i1 16) <|
  some ((M1.1 (b + 5) (Int32.toNatClampNeg i1)), M1)
def f_X9_about_b197 (s0 : Int32) (M : mM) : Option (Int32 × mM) :=
  some ((f_X9_oneIf s0), M)
def f_X9_about (i1 : Int32) (i2 : Int32) (M : mM) : Option (Int32 × mM) :=
  if (f_X0_has 2 i1 M) = 0 then (some ((-1), M))
  else (if i2 = 0 then (mgd (mIn i1 16) <|
  some ((M.1 3 (Int32.toNatClampNeg i1)), M))
  else (if i2 = 1 then (mgd (mIn i1 16) <|
  some ((f_X9_columnOf (M.1 4 (Int32.toNatClampNeg i1))), M))
  else (if i2 = 2 then (mgd (mIn i1 16) <|
  some ((f_X9_levelOf (M.1 4 (Int32.toNatClampNeg i1))), M))
  else (if i2 = 3 then (mgd (mIn i1 16) <|
  some ((M.1 5 (Int32.toNatClampNeg i1)), M))
  else (if i2 = 4 then (mgd (mIn i1 16) <|
  some ((f_X9_oneIf (M.1 6 (Int32.toNatClampNeg i1))), M))
  else (if i2 = 5 then (mbw (f_X0_loadOf 2 i1 M) fun v158 M158 =>
  some (v158, M158))
  else (if i2 = 6 then (mbw (f_X0_loadOf 2 i1 M) fun v170 M170 =>
  mgd (mIn i1 16) <|
  mgd (mIn (M170.1 3 (Int32.toNatClampNeg i1)) 4) <|
  if v170 ≤ (sVal 1 (Int32.toNatClampNeg (M170.1 3 (Int32.toNatClampNeg i1)))) then (f_X9_about_b197 0 M170)
  else (f_X9_about_b197 1 M170))
  else (if i2 = 7 then (mgd (mIn i1 16) <|
  some ((M.1 10 (Int32.toNatClampNeg i1)), M))
  else (if i2 = 8 then (mgd (mIn i1 16) <|
  some ((M.1 12 (Int32.toNatClampNeg i1)), M))
  else (if i2 = 9 then (mgd (mIn i1 16) <|
  if 0 ≤ (M.1 13 (Int32.toNatClampNeg i1)) then (mgd (mIn i1 16) <|
  some ((M.1 13 (Int32.toNatClampNeg i1)), M))
  else (some ((-4), M)))
  else (if i2 = 10 then (mgd (mIn i1 16) <|
  mbp (f_X0_hangs 2 (M.1 4 (Int32.toNatClampNeg i1)) M) fun v267 =>
  some ((f_X9_oneIf v267), M))
  else (some ((-1), M)))))))))))))
def f_X9_at (i1 : Int32) (i2 : Int32) (M : mM) : Option Int32 :=
  if (f_X9_onGrid i1 i2) = 0 then (some (-1))
  else (mbp (f_X0_inCell 2 (f_X9_cellOf i1 i2) M) fun v22 =>
  if 0 ≤ v22 then (some v22)
  else (some (-4)))
def f_X2_note (b : Nat) (i1 : Int32) (i2 : Int32) (i3 : Int32) (M : mM) : Option (Int32 × mM) :=
  if (M.1 b 0) < 40 then (mgd (mIn (M.1 b 0) 40) <|
  mlt (mI M (b + 1) (Int32.toNatClampNeg (M.1 b 0)) i1) fun M21 =>
  mgd (mIn (M21.1 b 0) 40) <|
  mlt (mI M21 (b + 2) (Int32.toNatClampNeg (M21.1 b 0)) i2) fun M31 =>
  mgd (mIn (M31.1 b 0) 40) <|
  mlt (mI M31 (b + 3) (Int32.toNatClampNeg (M31.1 b 0)) (vp_nar .boolean i3)) fun M41 =>
  mlt (mI M41 b 0 ((M41.1 b 0) + 1)) fun M49 =>
  some (((M49.1 b 0) - 1), M49))
  else (some ((-2), M))
def f_X9_dead (i1 : Int32) (i2 : Int32) (M : mM) : Option (Int32 × mM) :=
  if (f_X0_has 2 i1 M) = 0 then (some ((-1), M))
  else (mgd (mIn i1 16) <|
  if (M.1 6 (Int32.toNatClampNeg i1)) = i2 then (some (0, M))
  else (if (M.1 25 0) < 40 then (mgd (mIn i1 16) <|
  mlt (mI M 6 (Int32.toNatClampNeg i1) (vp_nar .boolean i2)) fun M64 =>
  mbw (f_X2_note 25 i1 (M64.1 1 1) i2 M64) fun v81 M81 =>
  some (1, M81))
  else (some ((-2), M))))
def f_X9_charge (i1 : Int32) (i2 : Int32) (M : mM) : Option (Int32 × mM) :=
  if (f_X0_has 2 i1 M) = 0 then (some ((-1), M))
  else (if i2 < 0 then (some ((-1), M))
  else (if i2 ≤ 999 then (mgd (mIn i1 16) <|
  mlt (M.1 5 (Int32.toNatClampNeg i1)) fun x39 =>
  mgd (mIn i1 16) <|
  mlt (mI M 5 (Int32.toNatClampNeg i1) i2) fun M52 =>
  some (x39, M52))
  else (some ((-1), M))))
def f_X0_isMove (b : Nat) (i1 : Int32) (M : mM) : Int32 :=
  if i1 < 0 then (0)
  else (if (f_X0_has b (i1 / 8) M) = 0 then (0)
  else (1))
def f_X0_supports (b : Nat) (i1 : Int32) (M : mM) : Option Int32 :=
  mbp (f_X0_inCell b i1 M) fun v2 =>
  if 0 ≤ v2 then (some 1)
  else (if v2 = (-3) then (some 1)
  else (some 0))
def f_X0_slides_b54 (b : Nat) (i1 : Int32) (i2 : Int32) (i4 : Int32) (M : mM) : Option Int32 :=
  mbp (f_X0_supports b (i1 + i4) M) fun v59 =>
  if v59 = 0 then (some 0)
  else (mbp (f_X0_supports b (i2 + i4) M) fun v70 =>
  if v70 = 0 then (some 0)
  else (some 1))
def f_X0_slides_b30 (b : Nat) (i1 : Int32) (i2 : Int32) (s0 : Int32) (M : mM) : Option Int32 :=
  mbp (f_X0_supports b (i1 - s0) M) fun v37 =>
  if v37 = 0 then (f_X0_slides_b54 b i1 i2 s0 M)
  else (mbp (f_X0_supports b (i2 - s0) M) fun v48 =>
  if v48 = 0 then (f_X0_slides_b54 b i1 i2 s0 M)
  else (some 1))
def f_X0_slides_b19 (b : Nat) (i1 : Int32) (i2 : Int32) (s0 : Int32) (M : mM) : Option Int32 :=
  if s0 = 0 then (f_X0_slides_b30 b i1 i2 1 M)
  else (f_X0_slides_b30 b i1 i2 12 M)
def f_X0_slides (b : Nat) (i1 : Int32) (i2 : Int32) (M : mM) : Option Int32 :=
  if (i2 - i1) = 1 then (f_X0_slides_b19 b i1 i2 1 M)
  else (if (i1 - i2) = 1 then (f_X0_slides_b19 b i1 i2 1 M)
  else (f_X0_slides_b19 b i1 i2 0 M))
def f_X0_turns (b : Nat) (i1 : Int32) (i2 : Int32) (M : mM) : Option Int32 :=
  mgd (mIn i2 4) <|
  mbp (f_X0_inCell b (i1 + (sVal 4 (Int32.toNatClampNeg i2))) M) fun v8 =>
  if v8 = (-1) then (mgd (mIn i2 4) <|
  mbp (f_X0_inCell b (i1 + (sVal 5 (Int32.toNatClampNeg i2))) M) fun v23 =>
  if v23 < 0 then (some 0)
  else (some 1))
  else (some 0)
def f_X0_othersAreWhole_b175 (b : Nat) (i2 : Int32) (i5 : Int32) (i6 : Int32) (M : mM) : Option (Int32 × mM) :=
  if i6 = 0 then (some (0, M))
  else (if i5 = i2 then (some (1, M))
  else (some (0, M)))
def f_X0_othersAreWhole_b99 (k48 : Nat → Int32 → Int32 → Int32 → Int32 → Int32 → mM → Option (Int32 × mM)) : Nat → Nat → Int32 → Int32 → Int32 → Int32 → Int32 → Int32 → Int32 → mM → Option (Int32 × mM)
  | 0, _, _, _, _, _, _, _, _, _ => none
  | n + 1, b, i2, i4, i5, i6, i7, i8, i9, M =>
  if 4 ≤ i9 then (mlt (i7 + 1) fun x169 =>
  k48 b i2 i4 i5 i6 x169 M)
  else (mgd (mIn i9 8) <|
  mbp (f_X0_inCell b (i8 + (sVal 3 (Int32.toNatClampNeg i9))) M) fun v115 =>
  if v115 < 0 then (mlt (i9 + 1) fun x163 =>
  f_X0_othersAreWhole_b99 k48 n b i2 i4 i5 i6 i7 i8 x163 M)
  else (if ((i4 >>> (v115 &&& 31)) &&& 1) = 0 then (if 16 ≤ i5 then (mlt (i9 + 1) fun x163 =>
  f_X0_othersAreWhole_b99 k48 n b i2 i4 i5 i6 i7 i8 x163 M)
  else (mlt (i4 ||| (1 <<< (v115 &&& 31))) fun x149 =>
  mgd (mIn i5 16) <|
  mlt (mI M (b + 7) (Int32.toNatClampNeg i5) v115) fun M159 =>
  mlt (i5 + 1) fun x160 =>
  mlt (i9 + 1) fun x163 =>
  f_X0_othersAreWhole_b99 k48 n b i2 x149 x160 i6 i7 i8 x163 M159))
  else (mlt (i9 + 1) fun x163 =>
  f_X0_othersAreWhole_b99 k48 n b i2 i4 i5 i6 i7 i8 x163 M)))
def f_X0_othersAreWhole_b48 : Nat → Nat → Int32 → Int32 → Int32 → Int32 → Int32 → mM → Option (Int32 × mM)
  | 0, _, _, _, _, _, _, _ => none
  | n + 1, b, i2, i4, i5, i6, i7, M =>
  if 16 ≤ i7 then (f_X0_othersAreWhole_b175 b i2 i5 i6 M)
  else (if i5 ≤ i7 then (f_X0_othersAreWhole_b175 b i2 i5 i6 M)
  else (mgd (mIn i7 16) <|
  mgd (mIn (M.1 (b + 7) (Int32.toNatClampNeg i7)) 16) <|
  mlt (M.1 (b + 2) (Int32.toNatClampNeg (M.1 (b + 7) (Int32.toNatClampNeg i7)))) fun x74 =>
  if i6 = 0 then (if (f_X9_levelOf x74) = 0 then (f_X0_othersAreWhole_b99 (f_X0_othersAreWhole_b48 n) mN b i2 i4 i5 1 i7 x74 0 M)
  else (f_X0_othersAreWhole_b99 (f_X0_othersAreWhole_b48 n) mN b i2 i4 i5 0 i7 x74 0 M))
  else (f_X0_othersAreWhole_b99 (f_X0_othersAreWhole_b48 n) mN b i2 i4 i5 1 i7 x74 0 M)))
def f_X0_othersAreWhole_b22 (b : Nat) (i1 : Int32) (i2 : Int32) (s0 : Int32) (M : mM) : Option (Int32 × mM) :=
  mlt ((1 <<< (i1 &&& 31)) ||| (1 <<< (s0 &&& 31))) fun x30 =>
  mlt (mI M (b + 7) 0 s0) fun M44 =>
  f_X0_othersAreWhole_b48 mN b i2 x30 1 0 0 M44
def f_X0_othersAreWhole (b : Nat) (i1 : Int32) (M : mM) : Option (Int32 × mM) :=
  mlt ((M.1 b 0) - 1) fun x6 =>
  if 0 < x6 then (if i1 = 0 then (f_X0_othersAreWhole_b22 b i1 x6 1 M)
  else (f_X0_othersAreWhole_b22 b i1 x6 0 M))
  else (some (1, M))
def f_X0_mayGo_b81 (b : Nat) (i1 : Int32) (i4 : Int32) (s0 : Int32) (M : mM) : Option (Int32 × mM) :=
  if s0 = 0 then (some (0, M))
  else (mbp (f_X0_holdsOn b i4 i1 M) fun v92 =>
  if v92 = 0 then (some (0, M))
  else (mbw (f_X0_othersAreWhole b i1 M) fun v100 M100 =>
  if v100 = 0 then (some (0, M100))
  else (some (1, M100))))
def f_X0_mayGo (b : Nat) (i1 : Int32) (i2 : Int32) (M : mM) : Option (Int32 × mM) :=
  mgd (mIn i1 16) <|
  if (M.1 (b + 4) (Int32.toNatClampNeg i1)) = 0 then (mgd (mIn i1 16) <|
  mgd (mIn i1 16) <|
  mgd (mIn (M.1 (b + 1) (Int32.toNatClampNeg i1)) 4) <|
  if (sVal 2 (Int32.toNatClampNeg (M.1 (b + 1) (Int32.toNatClampNeg i1)))) ≤ (M.1 (b + 3) (Int32.toNatClampNeg i1)) then (mgd (mIn i1 16) <|
  mlt (M.1 (b + 2) (Int32.toNatClampNeg i1)) fun x36 =>
  mgd (mIn i2 8) <|
  mlt (x36 + (sVal 3 (Int32.toNatClampNeg i2))) fun x44 =>
  mbp (f_X0_inCell b x44 M) fun v49 =>
  if v49 = (-1) then (if 4 ≤ i2 then (mbp (f_X0_turns b x36 (i2 - 4) M) fun v78 =>
  f_X0_mayGo_b81 b i1 x44 v78 M)
  else (mbp (f_X0_slides b x36 x44 M) fun v67 =>
  f_X0_mayGo_b81 b i1 x44 v67 M))
  else (some (0, M)))
  else (some (0, M)))
  else (some (0, M))
def f_X9_can (i1 : Int32) (M : mM) : Option (Int32 × mM) :=
  if (f_X0_isMove 2 i1 M) = 0 then (some ((-1), M))
  else (mbw (f_X0_mayGo 2 (i1 / 8) (i1 - i1 / 8 * 8) M) fun v31 M31 =>
  some ((f_X9_oneIf v31), M31))
def f_X0_shift (b : Nat) (i1 : Int32) (i2 : Int32) (M : mM) : Option mM :=
  mbp (f_X0_inCell b i2 M) fun v2 =>
  if v2 = (-1) then (mgd (mIn i1 16) <|
  mgd (mIn (M.1 (b + 2) (Int32.toNatClampNeg i1)) 120) <|
  mlt (mI M (b + 6) (Int32.toNatClampNeg (M.1 (b + 2) (Int32.toNatClampNeg i1))) (-1)) fun M20 =>
  mgd (mIn i2 120) <|
  mlt (mI M20 (b + 6) (Int32.toNatClampNeg i2) i1) fun M27 =>
  mgd (mIn i1 16) <|
  mlt (mI M27 (b + 2) (Int32.toNatClampNeg i1) i2) fun M34 =>
  some M34)
  else (some M)
def f_X0_go (b : Nat) (i1 : Int32) (i2 : Int32) (M : mM) : Option mM :=
  mgd (mIn i1 16) <|
  mgd (mIn i2 8) <|
  mbp (f_X0_shift b i1 ((M.1 (b + 2) (Int32.toNatClampNeg i1)) + (sVal 3 (Int32.toNatClampNeg i2))) M) fun M14 =>
  mgd (mIn i1 16) <|
  mgd (mIn i1 16) <|
  mgd (mIn (M14.1 (b + 1) (Int32.toNatClampNeg i1)) 4) <|
  mgd (mIn i1 16) <|
  mlt (mI M14 (b + 3) (Int32.toNatClampNeg i1) ((M14.1 (b + 3) (Int32.toNatClampNeg i1)) - (sVal 2 (Int32.toNatClampNeg (M14.1 (b + 1) (Int32.toNatClampNeg i1)))))) fun M35 =>
  some M35
def f_X9_move (i1 : Int32) (M : mM) : Option (Int32 × mM) :=
  if (f_X0_isMove 2 i1 M) = 0 then (some ((-1), M))
  else (mbw (f_X0_mayGo 2 (i1 / 8) (i1 - i1 / 8 * 8) M) fun v33 M33 =>
  if v33 = 0 then (some ((-3), M33))
  else (mbp (f_X0_go 2 (i1 / 8) (i1 - i1 / 8 * 8) M33) fun M54 =>
  mgd (mIn (i1 / 8) 16) <|
  some ((M54.1 5 (Int32.toNatClampNeg (i1 / 8))), M54)))
def f_X9_moves_b4 : Nat → Int32 → Int32 → mM → Option (Int32 × mM)
  | 0, _, _, _ => none
  | n + 1, i1, i2, M =>
  if ((M.1 2 0) * 8) ≤ i2 then (some (i1, M))
  else (mbw (f_X0_mayGo 2 (i2 / 8) (i2 - i2 / 8 * 8) M) fun v37 M37 =>
  mlt (i1 + (f_X9_oneIf v37)) fun x44 =>
  mlt (i2 + 1) fun x45 =>
  f_X9_moves_b4 n x44 x45 M37)
def f_X9_moves (M : mM) : Option (Int32 × mM) :=
  f_X9_moves_b4 mN 0 0 M
def f_X9_broken_b65 (k14 : Int32 → Int32 → mM → Option (Int32 × mM)) (i2 : Int32) (s0 : Int32) (s1 : Int32) (M : mM) : Option (Int32 × mM) :=
  mlt (s0 + (f_X9_oneIf s1)) fun x69 =>
  mlt (i2 + 1) fun x70 =>
  k14 x69 x70 M
def f_X9_broken_b14 : Nat → Int32 → Int32 → mM → Option (Int32 × mM)
  | 0, _, _, _ => none
  | n + 1, i1, i2, M =>
  if (M.1 2 0) ≤ i2 then (some (i1, M))
  else (mgd (mIn i2 16) <|
  mgd (mIn i2 16) <|
  mgd (mIn (M.1 3 (Int32.toNatClampNeg i2)) 4) <|
  if (M.1 7 (Int32.toNatClampNeg i2)) ≤ (sVal 1 (Int32.toNatClampNeg (M.1 3 (Int32.toNatClampNeg i2)))) then (f_X9_broken_b65 (f_X9_broken_b14 n) i2 i1 0 M)
  else (f_X9_broken_b65 (f_X9_broken_b14 n) i2 i1 1 M))
def f_X9_broken (M : mM) : Option (Int32 × mM) :=
  mbp (f_X0_weigh 2 M) fun M7 =>
  f_X9_broken_b14 mN 0 0 M7
def f_X9_isShelf (i0 : Int32) : Int32 :=
  if i0 < 0 then (0)
  else (if 8 ≤ i0 then (0)
  else (1))
def f_X6_isRow (b : Nat) (M : mM) : Int32 :=
  if (M.1 b 0) < 0 then (0)
  else (1)
def f_X6_refusalOfRow_b37 (b : Nat) (s0 : Int32) (M : mM) : Int32 :=
  if s0 = 0 then ((-12))
  else (0)
def f_X6_refusalOfRow (b : Nat) (i1 : Int32) (M : mM) : Int32 :=
  if (M.1 b 0) = (-2) then ((-11))
  else (if i1 = 3 then (f_X6_refusalOfRow_b37 b (f_X6_isRow b M) M)
  else (if (M.1 b 0) = i1 then (f_X6_refusalOfRow_b37 b 1 M)
  else (f_X6_refusalOfRow_b37 b 0 M)))
def f_X7_open_b18 (b : Nat) (q1 : Nat) (s1 : Int32) (M : mM) : Option mM :=
  mlt (mI M b 1 s1) fun M18 =>
  mlt (mI M18 b 2 0) fun M23 =>
  mlt (mI M23 b 3 (-1)) fun M28 =>
  some M28
def f_X7_open (b : Nat) (q1 : Nat) (i2 : Int32) (M : mM) : Option mM :=
  mlt (mT M b q1) fun M2 =>
  if 90 ≤ i2 then (f_X7_open_b18 b q1 90 M2)
  else (f_X7_open_b18 b q1 i2 M2)
def f_X7_look (b : Nat) (M : mM) : Option Int32 :=
  if 0 ≤ (M.1 b 3) then (some (-1000))
  else (if (M.1 b 2) < 0 then (some (-1000))
  else (if (M.1 b 1) ≤ (M.1 b 2) then (some (-1000))
  else (mgd (isRow (M.2.2 b)) <|
  mlt (M.2.2 b) fun t26 =>
  mgd (mIn (M.1 b 2) 90) <|
  some (M.1 t26 (Int32.toNatClampNeg (M.1 b 2))))))
def f_X7_takeIf_b13 (b : Nat) (s0 : Int32) (M : mM) : Option (Int32 × mM) :=
  if s0 = 0 then (mgd (s0 = 0 ∨ s0 = 1) <|
  some (s0, M))
  else (mlt (mI M b 2 ((M.1 b 2) + 1)) fun M25 =>
  mgd (s0 = 0 ∨ s0 = 1) <|
  some (s0, M25))
def f_X7_takeIf (b : Nat) (i1 : Int32) (M : mM) : Option (Int32 × mM) :=
  mbp (f_X7_look b M) fun v1 =>
  if v1 = i1 then (f_X7_takeIf_b13 b 1 M)
  else (f_X7_takeIf_b13 b 0 M)
def f_X7_fail (b : Nat) (M : mM) : Option mM :=
  if 0 ≤ (M.1 b 3) then (some M)
  else (mlt (mI M b 3 (M.1 b 2)) fun M12 =>
  some M12)
def f_X7_demand (b : Nat) (i1 : Int32) (M : mM) : Option mM :=
  mbw (f_X7_takeIf b i1 M) fun v2 M2 =>
  if v2 = 0 then (mbp (f_X7_fail b M2) fun M9 =>
  some M9)
  else (some M2)
def f_X7_demandDigit_b18 (b : Nat) (i1 : Int32) (M : mM) : Option (Int32 × mM) :=
  mbp (f_X7_fail b M) fun M19 =>
  some (i1, M19)
def f_X7_demandDigit (b : Nat) (i1 : Int32) (i2 : Int32) (M : mM) : Option (Int32 × mM) :=
  mbp (f_X7_look b M) fun v1 =>
  if (v1 - 48) < i1 then (f_X7_demandDigit_b18 b i1 M)
  else (if (v1 - 48) ≤ i2 then (mlt (mI M b 2 ((M.1 b 2) + 1)) fun M31 =>
  some ((v1 - 48), M31))
  else (f_X7_demandDigit_b18 b i1 M))
def f_X5_readBox_b125 (k60 : Int32 → Int32 → Int32 → Int32 → Int32 → Int32 → Int64 → Int32 → Int32 → mM → Option (Int64 × mM)) (i1 : Int32) (i2 : Int32) (i3 : Int32) (i4 : Int32) (i5 : Int32) (i6 : Int32) (j7 : Int64) (i9 : Int32) (i10 : Int32) (M : mM) : Option (Int64 × mM) :=
  mlt (j7 ||| (1 <<< (Int32.toInt64 (((i10 - i10 / 4 * 4) * 10) + i9) &&& 63))) fun x140 =>
  mlt (i10 + 1) fun x142 =>
  k60 i1 i2 i3 i4 i5 i6 x140 i9 x142 M
def f_X5_readBox_b106 (k60 : Int32 → Int32 → Int32 → Int32 → Int32 → Int32 → Int64 → Int32 → Int32 → mM → Option (Int64 × mM)) (i1 : Int32) (i2 : Int32) (i3 : Int32) (i4 : Int32) (i5 : Int32) (i6 : Int32) (j7 : Int64) (i9 : Int32) (i10 : Int32) (s0 : Int32) (M : mM) : Option (Int64 × mM) :=
  if (i10 / 4) = i1 then (if s0 = 0 then (if i2 = 0 then (f_X5_readBox_b125 k60 i1 i2 i3 i4 i5 i6 j7 i9 i10 M)
  else (mlt (i10 + 1) fun x142 =>
  k60 i1 i2 i3 i4 i5 i6 j7 i9 x142 M))
  else (f_X5_readBox_b125 k60 i1 i2 i3 i4 i5 i6 j7 i9 i10 M))
  else (mlt (i10 + 1) fun x142 =>
  k60 i1 i2 i3 i4 i5 i6 j7 i9 x142 M)
def f_X5_readBox_b60 (k42 : Int32 → Int32 → Int32 → Int32 → Int32 → Int32 → Int64 → Int32 → mM → Option (Int64 × mM)) : Nat → Int32 → Int32 → Int32 → Int32 → Int32 → Int32 → Int64 → Int32 → Int32 → mM → Option (Int64 × mM)
  | 0, _, _, _, _, _, _, _, _, _, _ => none
  | n + 1, i1, i2, i3, i4, i5, i6, j7, i9, i10, M =>
  if i6 < i10 then (mlt (i9 + 1) fun x148 =>
  k42 i1 i2 i3 i4 i5 i6 j7 x148 M)
  else (if 8 ≤ i10 then (mlt (i9 + 1) fun x148 =>
  k42 i1 i2 i3 i4 i5 i6 j7 x148 M)
  else (if i9 = i3 then (f_X5_readBox_b106 (f_X5_readBox_b60 k42 n) i1 i2 i3 i4 i5 i6 j7 i9 i10 1 M)
  else (if i9 = i5 then (f_X5_readBox_b106 (f_X5_readBox_b60 k42 n) i1 i2 i3 i4 i5 i6 j7 i9 i10 1 M)
  else (if i10 = i4 then (f_X5_readBox_b106 (f_X5_readBox_b60 k42 n) i1 i2 i3 i4 i5 i6 j7 i9 i10 1 M)
  else (if i10 = i6 then (f_X5_readBox_b106 (f_X5_readBox_b60 k42 n) i1 i2 i3 i4 i5 i6 j7 i9 i10 1 M)
  else (f_X5_readBox_b106 (f_X5_readBox_b60 k42 n) i1 i2 i3 i4 i5 i6 j7 i9 i10 0 M))))))
def f_X5_readBox_b42 : Nat → Int32 → Int32 → Int32 → Int32 → Int32 → Int32 → Int64 → Int32 → mM → Option (Int64 × mM)
  | 0, _, _, _, _, _, _, _, _, _ => none
  | n + 1, i1, i2, i3, i4, i5, i6, j7, i9, M =>
  if i5 < i9 then (some (j7, M))
  else (if 10 ≤ i9 then (some (j7, M))
  else (f_X5_readBox_b60 (f_X5_readBox_b42 n) mN i1 i2 i3 i4 i5 i6 j7 i9 i4 M))
def f_X5_readBox (i1 : Int32) (i2 : Int32) (M : mM) : Option (Int64 × mM) :=
  mbw (f_X7_demandDigit 77 0 9 M) fun v4 M4 =>
  mbw (f_X7_demandDigit 77 0 7 M4) fun v12 M12 =>
  mbw (f_X7_demandDigit 77 v4 9 M12) fun v21 M21 =>
  mbw (f_X7_demandDigit 77 v12 7 M21) fun v31 M31 =>
  f_X5_readBox_b42 mN i1 i2 v4 v12 v21 v31 0 v4 M31
def f_X7_isPlusOrMinus (b : Nat) (M : mM) : Option Int32 :=
  mbp (f_X7_look b M) fun v1 =>
  if v1 = 43 then (some 1)
  else (mbp (f_X7_look b M) fun v10 =>
  if v10 = 45 then (some 1)
  else (some 0))
def f_X7_take (b : Nat) (M : mM) : Option (Int32 × mM) :=
  mbp (f_X7_look b M) fun v1 =>
  if v1 = (-1000) then (some (v1, M))
  else (mlt (mI M b 2 ((M.1 b 2) + 1)) fun M19 =>
  some (v1, M19))
def f_X7_atEnd (b : Nat) (M : mM) : Int32 :=
  if (M.1 b 2) < (M.1 b 1) then (0)
  else (1)
def f_X7_failUnlessAtEnd (b : Nat) (M : mM) : Option mM :=
  if (f_X7_atEnd b M) = 0 then (mbp (f_X7_fail b M) fun M8 =>
  some M8)
  else (some M)
def f_X5_readBoxOrBracket_b32 (slf : Int32 → Int32 → mM → Option (Int64 × mM)) (i2 : Int32) (M : mM) : Option (Int64 × mM) :=
  mbw (f_X7_takeIf 77 98 M) fun v35 M35 =>
  if v35 = 0 then (mbw (f_X7_takeIf 77 111 M35) fun v51 M51 =>
  if v51 = 0 then (mbp (f_X7_fail 77 M51) fun M65 =>
  some (0, M65))
  else (mbw (f_X5_readBox i2 1 M51) fun v60 M60 =>
  some (v60, M60)))
  else (mbw (f_X5_readBox i2 0 M35) fun v44 M44 =>
  some (v44, M44))
def f_X5_readBoxOrBracket (slf : Int32 → Int32 → mM → Option (Int64 × mM)) (i1 : Int32) (i2 : Int32) (M : mM) : Option (Int64 × mM) :=
  if 6 ≤ i1 then (f_X5_readBoxOrBracket_b32 slf i2 M)
  else (mbw (f_X7_takeIf 77 40 M) fun v9 M9 =>
  if v9 = 0 then (f_X5_readBoxOrBracket_b32 slf i2 M9)
  else (mbw (slf (i1 + 1) i2 M9) fun v20 M20 =>
  mbp (f_X7_demand 77 41 M20) fun M27 =>
  some (v20, M27)))
def f_X5_readPart_b37 (slf : Int32 → Int32 → mM → Option (Int64 × mM)) (i1 : Int32) (i2 : Int32) (i3 : Int32) (M : mM) : Option (Int64 × mM) :=
  mbw (f_X5_readBoxOrBracket slf i1 i2 M) fun v40 M40 =>
  if i3 = 0 then (some (v40, M40))
  else (some ((1099511627775 &&& (v40 ^^^ (-1))), M40))
def f_X5_readPart_b5 (slf : Int32 → Int32 → mM → Option (Int64 × mM)) : Nat → Int32 → Int32 → Int32 → Int32 → mM → Option (Int64 × mM)
  | 0, _, _, _, _, _ => none
  | n + 1, i1, i2, i3, i4, M =>
  if 90 ≤ i4 then (f_X5_readPart_b37 slf i1 i2 i3 M)
  else (mbw (f_X7_takeIf 77 33 M) fun v15 M15 =>
  if v15 = 0 then (f_X5_readPart_b37 slf i1 i2 i3 M15)
  else (if i3 = 0 then (mlt (i4 + 1) fun x31 =>
  f_X5_readPart_b5 slf n i1 i2 1 x31 M15)
  else (mlt (i4 + 1) fun x31 =>
  f_X5_readPart_b5 slf n i1 i2 0 x31 M15)))
def f_X5_readPart (slf : Int32 → Int32 → mM → Option (Int64 × mM)) (i1 : Int32) (i2 : Int32) (M : mM) : Option (Int64 × mM) :=
  f_X5_readPart_b5 slf mN i1 i2 0 0 M
def f_X5_readParts_b33 (slf : Int32 → Int32 → mM → Option (Int64 × mM)) (k10 : Int32 → Int32 → Int64 → Int32 → mM → Option (Int64 × mM)) (i1 : Int32) (i2 : Int32) (j3 : Int64) (i5 : Int32) (M : mM) : Option (Int64 × mM) :=
  mbw (f_X7_take 77 M) fun v34 M34 =>
  mbw (f_X5_readPart slf i1 i2 M34) fun v42 M42 =>
  if v34 = 43 then (mlt (i5 + 1) fun x84 =>
  k10 i1 i2 (j3 ||| v42) x84 M42)
  else (if v34 = 45 then (mlt (j3 &&& (v42 ^^^ (-1))) fun x83 =>
  mlt (i5 + 1) fun x84 =>
  k10 i1 i2 x83 x84 M42)
  else (mlt (i5 + 1) fun x84 =>
  k10 i1 i2 (j3 &&& v42) x84 M42))
def f_X5_readParts_b10 (slf : Int32 → Int32 → mM → Option (Int64 × mM)) : Nat → Int32 → Int32 → Int64 → Int32 → mM → Option (Int64 × mM)
  | 0, _, _, _, _, _ => none
  | n + 1, i1, i2, j3, i5, M =>
  if 90 ≤ i5 then (some (j3, M))
  else (mbp (f_X7_isPlusOrMinus 77 M) fun v18 =>
  if v18 = 0 then (mbp (f_X7_look 77 M) fun v25 =>
  if v25 = 38 then (f_X5_readParts_b33 slf (f_X5_readParts_b10 slf n) i1 i2 j3 i5 M)
  else (some (j3, M)))
  else (f_X5_readParts_b33 slf (f_X5_readParts_b10 slf n) i1 i2 j3 i5 M))
def f_X5_readParts (slf : Int32 → Int32 → mM → Option (Int64 × mM)) (i1 : Int32) (i2 : Int32) (M : mM) : Option (Int64 × mM) :=
  mbw (f_X5_readPart slf i1 i2 M) fun v3 M3 =>
  f_X5_readParts_b10 slf mN i1 i2 v3 0 M3
def f_X5_readPartsD : Nat → Int32 → Int32 → mM → Option (Int64 × mM)
  | 0, _, _, _ => none
  | d + 1, i1, i2, M => f_X5_readParts (f_X5_readPartsD d) i1 i2 M
def f_X5_cellsOf (q1 : Nat) (i2 : Int32) (M : mM) : Option (Int64 × mM) :=
  mbp (f_X7_open 77 (q1 + 1) (M.1 q1 1) M) fun M9 =>
  mbw (f_X5_readPartsD 8 0 i2 M9) fun v15 M15 =>
  mbp (f_X7_failUnlessAtEnd 77 M15) fun M20 =>
  some (v15, M20)
def f_X7_isFaulty (b : Nat) (M : mM) : Int32 :=
  if (M.1 b 3) < 0 then (0)
  else (1)
def f_X7_faultPlace (b : Nat) (M : mM) : Int32 :=
  (M.1 b 3)
def f_X7_isDigit (b : Nat) (M : mM) : Option Int32 :=
  mbp (f_X7_look b M) fun v1 =>
  if v1 < 48 then (some 0)
  else (mbp (f_X7_look b M) fun v10 =>
  if 57 < v10 then (some 0)
  else (some 1))
def f_X4_isField (i0 : Int32) : Int32 :=
  if i0 = 69 then (1)
  else (if i0 = 78 then (1)
  else (if i0 = 83 then (1)
  else (if i0 = 87 then (1)
  else (if i0 = 101 then (1)
  else (if i0 = 109 then (1)
  else (if i0 = 110 then (1)
  else (if i0 = 112 then (1)
  else (if i0 = 115 then (1)
  else (if i0 = 116 then (1)
  else (if i0 = 119 then (1)
  else (0)))))))))))
def f_X4_readAtom (M : mM) : Option mM :=
  mbw (f_X7_takeIf 78 48 M) fun v3 M3 =>
  if v3 = 0 then (mbp (f_X7_isDigit 78 M3) fun v11 =>
  if v11 = 0 then (mbp (f_X7_look 78 M3) fun v36 =>
  if (f_X4_isField v36) = 0 then (mbp (f_X7_fail 78 M3) fun M54 =>
  some M54)
  else (mbw (f_X7_take 78 M3) fun v46 M46 =>
  some M46))
  else (mbw (f_X7_take 78 M3) fun v18 M18 =>
  mbp (f_X7_isDigit 78 M18) fun v23 =>
  if v23 = 0 then (some M18)
  else (mbw (f_X7_take 78 M18) fun v30 M30 =>
  some M30)))
  else (some M3)
def f_X4_readSum_b6 : Nat → Int32 → mM → Option mM
  | 0, _, _ => none
  | n + 1, i1, M =>
  if 90 ≤ i1 then (some M)
  else (mbp (f_X7_isPlusOrMinus 78 M) fun v13 =>
  if v13 = 0 then (some M)
  else (mbw (f_X7_take 78 M) fun v20 M20 =>
  mbp (f_X4_readAtom M20) fun M25 =>
  mlt (i1 + 1) fun x28 =>
  f_X4_readSum_b6 n x28 M25))
def f_X4_readSum (M : mM) : Option mM :=
  mbp (f_X4_readAtom M) fun M1 =>
  f_X4_readSum_b6 mN 0 M1
def f_X4_readCheck_b28 (M : mM) : Option mM :=
  mbp (f_X4_readSum M) fun M29 =>
  some M29
def f_X4_readCheck (M : mM) : Option mM :=
  mbp (f_X4_readSum M) fun M1 =>
  mbw (f_X7_takeIf 78 60 M1) fun v7 M7 =>
  if v7 = 0 then (mbw (f_X7_takeIf 78 62 M7) fun v16 M16 =>
  if v16 = 0 then (mbp (f_X7_demand 78 61 M16) fun M25 =>
  f_X4_readCheck_b28 M25)
  else (f_X4_readCheck_b28 M16))
  else (f_X4_readCheck_b28 M7)
def f_X4_readAct_b38 (M : mM) : Option mM :=
  mbp (f_X4_readSum M) fun M39 =>
  some M39
def f_X4_readAct (M : mM) : Option mM :=
  mbw (f_X7_takeIf 78 103 M) fun v3 M3 =>
  if v3 = 0 then (mbw (f_X7_takeIf 78 121 M3) fun v23 M23 =>
  if v23 = 0 then (mbw (f_X7_takeIf 78 61 M23) fun v32 M32 =>
  if v32 = 0 then (mbp (f_X7_fail 78 M32) fun M46 =>
  some M46)
  else (f_X4_readAct_b38 M32))
  else (f_X4_readAct_b38 M23))
  else (mbw (f_X7_demandDigit 78 0 7 M3) fun v13 M13 =>
  some M13)
def f_X4_readRule_b31 (M : mM) : Option mM :=
  mbp (f_X7_demand 78 63 M) fun M34 =>
  mbp (f_X4_readAct M34) fun M38 =>
  mbp (f_X7_demand 78 59 M38) fun M44 =>
  some M44
def f_X4_readRule_b6 : Nat → Int32 → mM → Option mM
  | 0, _, _ => none
  | n + 1, i1, M =>
  if 90 ≤ i1 then (f_X4_readRule_b31 M)
  else (mbw (f_X7_takeIf 78 38 M) fun v15 M15 =>
  if v15 = 0 then (f_X4_readRule_b31 M15)
  else (mbp (f_X4_readCheck M15) fun M22 =>
  mlt (i1 + 1) fun x25 =>
  f_X4_readRule_b6 n x25 M22))
def f_X4_readRule (M : mM) : Option mM :=
  mbp (f_X4_readCheck M) fun M1 =>
  f_X4_readRule_b6 mN 0 M1
def f_X4_check_b41 (q1 : Nat) (M : mM) : Option mM :=
  mbp (f_X7_failUnlessAtEnd 78 M) fun M42 =>
  some M42
def f_X4_check_b31 (k14 : Nat → Int32 → mM → Option mM) (q1 : Nat) (i2 : Int32) (M : mM) : Option mM :=
  mbp (f_X4_readRule M) fun M32 =>
  mlt (i2 + 1) fun x35 =>
  k14 q1 x35 M32
def f_X4_check_b14 : Nat → Nat → Int32 → mM → Option mM
  | 0, _, _, _ => none
  | n + 1, q1, i2, M =>
  if 6 ≤ i2 then (f_X4_check_b41 q1 M)
  else (if i2 = 0 then (f_X4_check_b31 (f_X4_check_b14 n) q1 i2 M)
  else (if (f_X7_atEnd 78 M) = 0 then (f_X4_check_b31 (f_X4_check_b14 n) q1 i2 M)
  else (f_X4_check_b41 q1 M)))
def f_X4_check (q1 : Nat) (M : mM) : Option mM :=
  mbp (f_X7_open 78 (q1 + 1) (M.1 q1 1) M) fun M9 =>
  f_X4_check_b14 mN q1 0 M9
def f_X9_fault (i1 : Int32) (i2 : Int32) (M : mM) : Option (Int32 × mM) :=
  if (f_X9_isShelf i1) = 0 then (some ((-1), M))
  else (if i2 < 0 then (some ((-1), M))
  else (if i2 ≤ 1 then (mgd (mIn i1 8) <|
  mlt (80 + 2 * Int32.toNatClampNeg i1) fun h23 =>
  mlt (f_X6_refusalOfRow h23 0 M) fun x28 =>
  if 0 ≤ x28 then (if i2 = 0 then (mgd (mIn i1 8) <|
  mlt (80 + 2 * Int32.toNatClampNeg i1) fun h48 =>
  mbw (f_X5_cellsOf h48 0 M) fun v50 M50 =>
  if (f_X7_isFaulty 77 M50) = 0 then (some ((-4), M50))
  else (some ((f_X7_faultPlace 77 M50), M50)))
  else (mgd (mIn i1 8) <|
  mlt (80 + 2 * Int32.toNatClampNeg i1) fun h86 =>
  mbp (f_X4_check h86 M) fun M87 =>
  if (f_X7_isFaulty 78 M87) = 0 then (some ((-4), M87))
  else (some ((f_X7_faultPlace 78 M87), M87))))
  else (some (x28, M)))
  else (some ((-1), M))))
def f_X8_addShape (b : Nat) (j1 : Int64) (j3 : Int64) (M : mM) : Option (Int32 × mM) :=
  if (M.1 b 6) < 8 then (mgd (mIn ((M.1 b 6) * 2) 16) <|
  mlt (mJ M (b + 13) (Int32.toNatClampNeg ((M.1 b 6) * 2)) j1) fun M23 =>
  mgd (mIn (((M23.1 b 6) * 2) + 1) 16) <|
  mlt (mJ M23 (b + 13) (Int32.toNatClampNeg (((M23.1 b 6) * 2) + 1)) j3) fun M37 =>
  mlt (mI M37 b 6 ((M37.1 b 6) + 1)) fun M45 =>
  some (((M45.1 b 6) - 1), M45))
  else (some ((-2), M))
def f_X9_shape (i1 : Int32) (M : mM) : Option (Int32 × mM) :=
  if (f_X9_isShelf i1) = 0 then (some ((-1), M))
  else (if (M.1 1 6) < 8 then (mgd (mIn i1 8) <|
  mlt (80 + 2 * Int32.toNatClampNeg i1) fun h29 =>
  mlt (f_X6_refusalOfRow h29 0 M) fun x34 =>
  if 0 ≤ x34 then (mgd (mIn i1 8) <|
  mlt (80 + 2 * Int32.toNatClampNeg i1) fun h50 =>
  mbw (f_X5_cellsOf h50 0 M) fun v52 M52 =>
  mgd (mIn i1 8) <|
  mlt (80 + 2 * Int32.toNatClampNeg i1) fun h65 =>
  mbw (f_X5_cellsOf h65 1 M52) fun v67 M67 =>
  if (f_X7_isFaulty 77 M67) = 0 then (mbw (f_X8_addShape 1 v52 v67 M67) fun v102 M102 =>
  some (v102, M102))
  else (some (((-100) - (f_X7_faultPlace 77 M67)), M67)))
  else (some (x34, M)))
  else (some ((-2), M)))
def f_X8_hasShape (b : Nat) (i1 : Int32) (M : mM) : Int32 :=
  if i1 < 0 then (0)
  else (if (M.1 b 6) ≤ i1 then (0)
  else (1))
def f_X8_shapeHolds (b : Nat) (i1 : Int32) (i2 : Int32) (i3 : Int32) (M : mM) : Option Int32 :=
  mgd (mIn ((i1 * 2) + (i3 / 4)) 16) <|
  mlt (M.2.1 (b + 13) (Int32.toNatClampNeg ((i1 * 2) + (i3 / 4)))) fun x12 =>
  if (lg_cmp ((x12 >>> (Int32.toInt64 (((i3 - i3 / 4 * 4) * 10) + i2) &&& 63)) &&& 1) 0) = 0 then (some 0)
  else (some 1)
def f_X9_in (i1 : Int32) (i2 : Int32) (i3 : Int32) (M : mM) : Option Int32 :=
  if (f_X8_hasShape 1 i1 M) = 0 then (some (-1))
  else (if (f_X9_onGrid i2 i3) = 0 then (some (-1))
  else (mbp (f_X8_shapeHolds 1 i1 i2 i3 M) fun v28 =>
  some (f_X9_oneIf v28)))
def f_J13_bitCount_95d88 (j0 : Int64) : Int32 :=
  mlt (j0 - (((j0.toUInt64 >>> (Int64.toUInt64 (Int32.toInt64 1) &&& Int64.toUInt64 63)).toInt64) &&& 6148914691236517205)) fun x9 =>
  mlt ((x9 &&& 3689348814741910323) + (((x9.toUInt64 >>> (Int64.toUInt64 (Int32.toInt64 2) &&& Int64.toUInt64 63)).toInt64) &&& 3689348814741910323)) fun x23 =>
  mlt ((x23 + ((x23.toUInt64 >>> (Int64.toUInt64 (Int32.toInt64 4) &&& Int64.toUInt64 63)).toInt64)) &&& 1085102592571150095) fun x33 =>
  mlt (x33 + ((x33.toUInt64 >>> (Int64.toUInt64 (Int32.toInt64 8) &&& Int64.toUInt64 63)).toInt64)) fun x40 =>
  mlt (x40 + ((x40.toUInt64 >>> (Int64.toUInt64 (Int32.toInt64 16) &&& Int64.toUInt64 63)).toInt64)) fun x47 =>
  mlt (x47 + ((x47.toUInt64 >>> (Int64.toUInt64 (Int32.toInt64 32) &&& Int64.toUInt64 63)).toInt64)) fun x54 =>
  ((Int64.toInt32 x54) &&& 127)
def f_X8_cellsInShape (b : Nat) (i1 : Int32) (M : mM) : Option Int32 :=
  mgd (mIn (i1 * 2) 16) <|
  mgd (mIn ((i1 * 2) + 1) 16) <|
  some ((f_J13_bitCount_95d88 (M.2.1 (b + 13) (Int32.toNatClampNeg (i1 * 2)))) + (f_J13_bitCount_95d88 (M.2.1 (b + 13) (Int32.toNatClampNeg ((i1 * 2) + 1)))))
def f_X8_outsideShape_b53 (k4 : Nat → Int32 → Int32 → Int32 → mM → Option Int32) (b : Nat) (i1 : Int32) (i3 : Int32) (s0 : Int32) (s1 : Int32) (M : mM) : Option Int32 :=
  mlt (s0 + (f_X9_oneIf s1)) fun x57 =>
  mlt (i3 + 1) fun x58 =>
  k4 b i1 x57 x58 M
def f_X8_outsideShape_b4 : Nat → Nat → Int32 → Int32 → Int32 → mM → Option Int32
  | 0, _, _, _, _, _ => none
  | n + 1, b, i1, i2, i3, M =>
  if (M.1 (b + 1) 0) ≤ i3 then (some i2)
  else (mgd (mIn i3 16) <|
  mgd (mIn i3 16) <|
  mbp (f_X8_shapeHolds b i1 (f_X9_columnOf (M.1 (b + 3) (Int32.toNatClampNeg i3))) (f_X9_levelOf (M.1 (b + 3) (Int32.toNatClampNeg i3))) M) fun v42 =>
  if v42 = 0 then (f_X8_outsideShape_b53 (f_X8_outsideShape_b4 n) b i1 i3 i2 1 M)
  else (f_X8_outsideShape_b53 (f_X8_outsideShape_b4 n) b i1 i3 i2 0 M))
def f_X8_outsideShape (b : Nat) (i1 : Int32) (M : mM) : Option Int32 :=
  f_X8_outsideShape_b4 mN b i1 0 0 M
def f_X8_emptyInShape (b : Nat) (i1 : Int32) (M : mM) : Option Int32 :=
  mbp (f_X8_cellsInShape b i1 M) fun v2 =>
  mbp (f_X8_outsideShape b i1 M) fun v14 =>
  some (v2 - ((M.1 (b + 1) 0) - v14))
def f_X9_met_b98 (s0 : Int32) (M : mM) : Option Int32 :=
  some (f_X9_oneIf s0)
def f_X9_met (i1 : Int32) (i2 : Int32) (M : mM) : Option Int32 :=
  if (f_X8_hasShape 1 i1 M) = 0 then (some (-1))
  else (if i2 = 0 then (mbp (f_X8_cellsInShape 1 i1 M) fun v49 =>
  some v49)
  else (if i2 = 1 then (mbp (f_X8_emptyInShape 1 i1 M) fun v58 =>
  some v58)
  else (if i2 = 2 then (mbp (f_X8_outsideShape 1 i1 M) fun v67 =>
  some v67)
  else (if i2 = 3 then (mbp (f_X8_emptyInShape 1 i1 M) fun v76 =>
  if v76 = 0 then (mbp (f_X8_outsideShape 1 i1 M) fun v87 =>
  if v87 = 0 then (f_X9_met_b98 1 M)
  else (f_X9_met_b98 0 M))
  else (f_X9_met_b98 0 M))
  else (some (-1))))))
def f_X0_copyFrom (b : Nat) (q1 : Nat) (M : mM) : Option mM :=
  mlt (mI M b 0 (M.1 q1 0)) fun M5 =>
  mlt (mC M5 (q1 + 1) (b + 1) 0 0 16) fun M20 =>
  mlt (mC M20 (q1 + 2) (b + 2) 0 0 16) fun M35 =>
  mlt (mC M35 (q1 + 3) (b + 3) 0 0 16) fun M50 =>
  mgd (∀ i, i < 16 → M50.1 (q1 + 4) (0 + i) = 0 ∨ M50.1 (q1 + 4) (0 + i) = 1) <|
  mlt (mC M50 (q1 + 4) (b + 4) 0 0 16) fun M65 =>
  mlt (mC M65 (q1 + 6) (b + 6) 0 0 120) fun M80 =>
  some M80
def f_X3_isWanted (i1 : Int32) (M : mM) : Option Int32 :=
  if i1 < 0 then (some 0)
  else (if 120 ≤ i1 then (some 0)
  else (mgd (mIn i1 120) <|
  if (M.1 74 (Int32.toNatClampNeg i1)) = 0 then (some 0)
  else (some 1)))
def f_X3_emptyBehind (i1 : Int32) (i2 : Int32) (i3 : Int32) (M : mM) : Option Int32 :=
  mgd (mIn i1 16) <|
  mlt (M.1 67 (Int32.toNatClampNeg i1)) fun x9 =>
  mbp (f_X3_isWanted x9 M) fun v15 =>
  mgd (mIn i2 8) <|
  mbp (f_X3_isWanted (x9 + (sVal 3 (Int32.toNatClampNeg i2))) M) fun v31 =>
  some ((i3 + (f_X9_oneIf v15)) - (f_X9_oneIf v31))
def f_X0_goBack (b : Nat) (i1 : Int32) (i2 : Int32) (M : mM) : Option mM :=
  mgd (mIn i1 16) <|
  mgd (mIn i2 8) <|
  mbp (f_X0_shift b i1 ((M.1 (b + 2) (Int32.toNatClampNeg i1)) - (sVal 3 (Int32.toNatClampNeg i2))) M) fun M14 =>
  mgd (mIn i1 16) <|
  mgd (mIn i1 16) <|
  mgd (mIn (M14.1 (b + 1) (Int32.toNatClampNeg i1)) 4) <|
  mgd (mIn i1 16) <|
  mlt (mI M14 (b + 3) (Int32.toNatClampNeg i1) ((M14.1 (b + 3) (Int32.toNatClampNeg i1)) + (sVal 2 (Int32.toNatClampNeg (M14.1 (b + 1) (Int32.toNatClampNeg i1)))))) fun M35 =>
  some M35
def f_X3_completes_b40 (slf : Int32 → Int32 → Int32 → mM → Option (Int32 × mM)) (k18 : Int32 → Int32 → Int32 → Int32 → mM → Option (Int32 × mM)) : Nat → Int32 → Int32 → Int32 → Int32 → Int32 → mM → Option (Int32 × mM)
  | 0, _, _, _, _, _, _ => none
  | n + 1, i1, i2, i3, i4, i5, M =>
  if 8 ≤ i5 then (mlt (i4 + 1) fun x141 =>
  k18 i1 i2 i3 x141 M)
  else (mbp (f_X3_emptyBehind i4 i5 i3 M) fun v53 =>
  if (i2 - i1) ≤ v53 then (mlt (i5 + 1) fun x135 =>
  f_X3_completes_b40 slf k18 n i1 i2 i3 i4 x135 M)
  else (mbw (f_X0_mayGo 65 i4 i5 M) fun v74 M74 =>
  if v74 = 0 then (mlt (i5 + 1) fun x135 =>
  f_X3_completes_b40 slf k18 n i1 i2 i3 i4 x135 M74)
  else (mgd (mIn i1 4) <|
  mlt (mI M74 75 (Int32.toNatClampNeg i1) ((8 * i4) + i5)) fun M93 =>
  mbp (f_X0_go 65 i4 i5 M93) fun M102 =>
  mbw (slf (i1 + 1) i2 v53 M102) fun v112 M112 =>
  mbp (f_X0_goBack 65 i4 i5 M112) fun M125 =>
  if v112 = 0 then (mlt (i5 + 1) fun x135 =>
  f_X3_completes_b40 slf k18 n i1 i2 i3 i4 x135 M125)
  else (some (1, M125)))))
def f_X3_completes_b18 (slf : Int32 → Int32 → Int32 → mM → Option (Int32 × mM)) : Nat → Int32 → Int32 → Int32 → Int32 → mM → Option (Int32 × mM)
  | 0, _, _, _, _, _ => none
  | n + 1, i1, i2, i3, i4, M =>
  if 8 ≤ i4 then (some (0, M))
  else (if (M.1 65 0) ≤ i4 then (some (0, M))
  else (f_X3_completes_b40 slf (f_X3_completes_b18 slf n) mN i1 i2 i3 i4 0 M))
def f_X3_completes (slf : Int32 → Int32 → Int32 → mM → Option (Int32 × mM)) (i1 : Int32) (i2 : Int32) (i3 : Int32) (M : mM) : Option (Int32 × mM) :=
  if i1 < i2 then (f_X3_completes_b18 slf mN i1 i2 i3 0 M)
  else (if i3 = 0 then (some (1, M))
  else (some (0, M)))
def f_X3_completesD : Nat → Int32 → Int32 → Int32 → mM → Option (Int32 × mM)
  | 0, _, _, _, _ => none
  | d + 1, i1, i2, i3, M => f_X3_completes (f_X3_completesD d) i1 i2 i3 M
def f_X3_find_b88 : Nat → Nat → Int32 → Int32 → Int32 → mM → Option (Int32 × mM)
  | 0, _, _, _, _, _ => none
  | n + 1, q1, i3, i4, i5, M =>
  if i3 < i5 then (some ((-4), M))
  else (mbw (f_X3_completesD 6 0 i5 i4 M) fun v100 M100 =>
  if v100 = 0 then (mlt (i5 + 1) fun x109 =>
  f_X3_find_b88 n q1 i3 i4 x109 M100)
  else (some (i5, M100)))
def f_X3_find_b44 (k34 : Nat → Int32 → Int32 → Int32 → Int32 → mM → Option (Int32 × mM)) : Nat → Nat → Int32 → Int32 → Int32 → Int32 → Int32 → mM → Option (Int32 × mM)
  | 0, _, _, _, _, _, _, _ => none
  | n + 1, q1, i2, i3, i4, i5, i6, M =>
  if 8 ≤ i6 then (mlt (i5 + 1) fun x78 =>
  k34 q1 i2 i3 i4 x78 M)
  else (mbp (f_X8_shapeHolds q1 i2 i5 i6 M) fun v68 =>
  mgd (mIn (f_X9_cellOf i5 i6) 120) <|
  mlt (mI M 74 (Int32.toNatClampNeg (f_X9_cellOf i5 i6)) (vp_nar .boolean v68)) fun M71 =>
  mlt (i6 + 1) fun x72 =>
  f_X3_find_b44 k34 n q1 i2 i3 i4 i5 x72 M71)
def f_X3_find_b34 : Nat → Nat → Int32 → Int32 → Int32 → Int32 → mM → Option (Int32 × mM)
  | 0, _, _, _, _, _, _ => none
  | n + 1, q1, i2, i3, i4, i5, M =>
  if 10 ≤ i5 then (f_X3_find_b88 mN q1 i3 i4 i4 M)
  else (f_X3_find_b44 (f_X3_find_b34 n) mN q1 i2 i3 i4 i5 0 M)
def f_X3_find (q1 : Nat) (i2 : Int32) (i3 : Int32) (M : mM) : Option (Int32 × mM) :=
  mbp (f_X8_emptyInShape q1 i2 M) fun v2 =>
  mbp (f_X8_outsideShape q1 i2 M) fun v11 =>
  if v2 = v11 then (mbp (f_X0_copyFrom 65 (q1 + 1) M) fun M28 =>
  f_X3_find_b34 mN q1 i2 i3 v2 0 M28)
  else (some ((-4), M))
def f_X9_plan (i1 : Int32) (i2 : Int32) (M : mM) : Option (Int32 × mM) :=
  if (f_X8_hasShape 1 i1 M) = 0 then (some ((-1), M))
  else (if i2 < 0 then (some ((-1), M))
  else (if i2 ≤ 4 then (mbw (f_X3_find 1 i1 i2 M) fun v32 M32 =>
  some (v32, M32))
  else (some ((-1), M))))
def f_X3_moveOf (i1 : Int32) (M : mM) : Option Int32 :=
  if i1 < 0 then (some (-4))
  else (if 4 ≤ i1 then (some (-4))
  else (mgd (mIn i1 4) <|
  some (M.1 75 (Int32.toNatClampNeg i1))))
def f_X9_planned (i1 : Int32) (i2 : Int32) (i3 : Int32) (M : mM) : Option (Int32 × mM) :=
  if (f_X8_hasShape 1 i1 M) = 0 then (some ((-1), M))
  else (if i2 < 0 then (some ((-1), M))
  else (if 4 < i2 then (some ((-1), M))
  else (if 0 ≤ i3 then (mbw (f_X3_find 1 i1 i2 M) fun v36 M36 =>
  if v36 ≤ i3 then (some ((-4), M36))
  else (mbp (f_X3_moveOf i3 M36) fun v52 =>
  some (v52, M36)))
  else (some ((-1), M)))))
def f_X9_judge_b45 : Nat → Int32 → Nat → mM → Option (Int32 × mM)
  | 0, _, _, _ => none
  | n + 1, i4, h14, M =>
  if (M.1 h14 1) ≤ i4 then (some ((-4), M))
  else (mgd (mIn i4 90) <|
  mlt (M.1 (h14 + 1) (Int32.toNatClampNeg i4)) fun x61 =>
  if (f_X0_isMove 65 x61 M) = 0 then (some (i4, M))
  else (mbw (f_X0_mayGo 65 (x61 / 8) (x61 - x61 / 8 * 8) M) fun v89 M89 =>
  if v89 = 0 then (some (i4, M89))
  else (mbp (f_X0_go 65 (x61 / 8) (x61 - x61 / 8 * 8) M89) fun M112 =>
  mlt (i4 + 1) fun x115 =>
  f_X9_judge_b45 n x115 h14 M112)))
def f_X9_judge (i1 : Int32) (M : mM) : Option (Int32 × mM) :=
  if (f_X9_isShelf i1) = 0 then (some ((-1), M))
  else (mgd (mIn i1 8) <|
  mlt (80 + 2 * Int32.toNatClampNeg i1) fun h14 =>
  mlt (f_X6_refusalOfRow h14 1 M) fun x21 =>
  if 0 ≤ x21 then (mbp (f_X0_copyFrom 65 2 M) fun M39 =>
  f_X9_judge_b45 mN 0 h14 M39)
  else (some (x21, M)))
def f_X8_addProgram (b : Nat) (q1 : Nat) (M : mM) : Option (Int32 × mM) :=
  if (M.1 b 8) < 8 then (mgd (mIn (M.1 b 8) 8) <|
  mlt ((b + 14) + 1 + Int32.toNatClampNeg (M.1 b 8)) fun t25 =>
  mlt (mC M (q1 + 1) t25 0 0 90) fun M29 =>
  mgd (mIn (M29.1 b 8) 8) <|
  mlt (mI M29 (b + 23) (Int32.toNatClampNeg (M29.1 b 8)) (M29.1 q1 1)) fun M44 =>
  mlt (mI M44 b 8 ((M44.1 b 8) + 1)) fun M52 =>
  some (((M52.1 b 8) - 1), M52))
  else (some ((-2), M))
def f_X9_program (i1 : Int32) (M : mM) : Option (Int32 × mM) :=
  if (f_X9_isShelf i1) = 0 then (some ((-1), M))
  else (if (M.1 1 8) < 8 then (mgd (mIn i1 8) <|
  mlt (80 + 2 * Int32.toNatClampNeg i1) fun h29 =>
  mlt (f_X6_refusalOfRow h29 0 M) fun x34 =>
  if 0 ≤ x34 then (mgd (mIn i1 8) <|
  mlt (80 + 2 * Int32.toNatClampNeg i1) fun h50 =>
  mbp (f_X4_check h50 M) fun M51 =>
  if (f_X7_isFaulty 78 M51) = 0 then (mgd (mIn i1 8) <|
  mlt (80 + 2 * Int32.toNatClampNeg i1) fun h86 =>
  mbw (f_X8_addProgram 1 h86 M51) fun v87 M87 =>
  some (v87, M87))
  else (some (((-100) - (f_X7_faultPlace 78 M51)), M51)))
  else (some (x34, M)))
  else (some ((-2), M)))
def f_X9_gives (i1 : Int32) (i2 : Int32) (M : mM) : Option (Int32 × mM) :=
  if (f_X0_has 2 i1 M) = 0 then (some ((-1), M))
  else (if i2 < (-1) then (some ((-1), M))
  else (if i2 < (M.1 1 8) then (mgd (mIn i1 16) <|
  mlt (M.1 13 (Int32.toNatClampNeg i1)) fun x41 =>
  mgd (mIn i1 16) <|
  mlt (mI M 13 (Int32.toNatClampNeg i1) i2) fun M51 =>
  if 0 ≤ x41 then (some (x41, M51))
  else (some ((-4), M51)))
  else (some ((-1), M))))
def f_X8_isRunning (b : Nat) (i1 : Int32) (M : mM) : Option Int32 :=
  mgd (mIn i1 16) <|
  if (M.1 (b + 5) (Int32.toNatClampNeg i1)) = 0 then (mgd (mIn i1 16) <|
  if (M.1 (b + 12) (Int32.toNatClampNeg i1)) < 0 then (some 0)
  else (mgd (mIn i1 16) <|
  if (M.1 b 8) ≤ (M.1 (b + 12) (Int32.toNatClampNeg i1)) then (some 0)
  else (some 1)))
  else (some 0)
def f_X1_beside (i1 : Int32) (i2 : Int32) (M : mM) : Option Int32 :=
  mgd (mIn i1 16) <|
  mgd (mIn i2 8) <|
  mbp (f_X0_inCell 2 ((M.1 4 (Int32.toNatClampNeg i1)) + (sVal 3 (Int32.toNatClampNeg i2))) M) fun v25 =>
  some v25
def f_X1_heardFrom (i1 : Int32) (M : mM) : Option Int32 :=
  if 0 ≤ i1 then (mgd (mIn i1 16) <|
  some (M.1 12 (Int32.toNatClampNeg i1)))
  else (some 0)
def f_X1_value_b118 (s0 : Int32) (M : mM) : Option (Int32 × mM) :=
  some ((f_X9_oneIf s0), M)
def f_X1_value_b136 (s0 : Int32) (M : mM) : Option (Int32 × mM) :=
  some ((f_X9_oneIf s0), M)
def f_X1_value_b172 (s0 : Int32) (M : mM) : Option (Int32 × mM) :=
  some ((f_X9_oneIf s0), M)
def f_X1_value_b154 (s0 : Int32) (M : mM) : Option (Int32 × mM) :=
  some ((f_X9_oneIf s0), M)
def f_X1_value (i1 : Int32) (M : mM) : Option (Int32 × mM) :=
  mbw (f_X7_take 76 M) fun v1 M1 =>
  if v1 = 69 then (mbp (f_X1_beside i1 0 M1) fun v180 =>
  mbp (f_X1_heardFrom v180 M1) fun v183 =>
  some (v183, M1))
  else (if v1 = 78 then (mbp (f_X1_beside i1 1 M1) fun v191 =>
  mbp (f_X1_heardFrom v191 M1) fun v194 =>
  some (v194, M1))
  else (if v1 = 83 then (mbp (f_X1_beside i1 3 M1) fun v213 =>
  mbp (f_X1_heardFrom v213 M1) fun v216 =>
  some (v216, M1))
  else (if v1 = 87 then (mbp (f_X1_beside i1 2 M1) fun v202 =>
  mbp (f_X1_heardFrom v202 M1) fun v205 =>
  some (v205, M1))
  else (if v1 = 101 then (mbp (f_X1_beside i1 0 M1) fun v107 =>
  if v107 < 0 then (f_X1_value_b118 0 M1)
  else (f_X1_value_b118 1 M1))
  else (if v1 = 109 then (mgd (mIn i1 16) <|
  some ((M1.1 10 (Int32.toNatClampNeg i1)), M1))
  else (if v1 = 110 then (mbp (f_X1_beside i1 1 M1) fun v125 =>
  if v125 < 0 then (f_X1_value_b136 0 M1)
  else (f_X1_value_b136 1 M1))
  else (if v1 = 112 then (mgd (mIn i1 16) <|
  some ((M1.1 5 (Int32.toNatClampNeg i1)), M1))
  else (if v1 = 115 then (mbp (f_X1_beside i1 3 M1) fun v161 =>
  if v161 < 0 then (f_X1_value_b172 0 M1)
  else (f_X1_value_b172 1 M1))
  else (if v1 = 116 then (some (((M1.1 1 1) - (M1.1 1 1) / 10 * 10), M1))
  else (if v1 = 119 then (mbp (f_X1_beside i1 2 M1) fun v143 =>
  if v143 < 0 then (f_X1_value_b154 0 M1)
  else (f_X1_value_b154 1 M1))
  else (mbp (f_X7_isDigit 76 M1) fun v255 =>
  if v255 = 0 then (some ((v1 - 48), M1))
  else (mbw (f_X7_take 76 M1) fun v269 M269 =>
  some (((((v1 - 48) * 10) + v269) - 48), M269)))))))))))))
def f_X1_addUp_b8 : Nat → Int32 → Int32 → Int32 → mM → Option (Int32 × mM)
  | 0, _, _, _, _ => none
  | n + 1, i1, i2, i3, M =>
  if 90 ≤ i3 then (some (i2, M))
  else (mbp (f_X7_isPlusOrMinus 76 M) fun v15 =>
  if v15 = 0 then (some (i2, M))
  else (mbw (f_X7_take 76 M) fun v22 M22 =>
  mbw (f_X1_value i1 M22) fun v29 M29 =>
  if v22 = 43 then (mlt (i3 + 1) fun x53 =>
  f_X1_addUp_b8 n i1 (i2 + v29) x53 M29)
  else (mlt (i3 + 1) fun x53 =>
  f_X1_addUp_b8 n i1 (i2 - v29) x53 M29)))
def f_X1_addUp (i1 : Int32) (M : mM) : Option (Int32 × mM) :=
  mbw (f_X1_value i1 M) fun v2 M2 =>
  f_X1_addUp_b8 mN i1 v2 0 M2
def f_X1_testHolds_b110 (k7 : Int32 → Int32 → Int32 → Int32 → mM → Option (Int32 × mM)) (i1 : Int32) (i4 : Int32) (s0 : Int32) (M : mM) : Option (Int32 × mM) :=
  mbw (f_X7_take 76 M) fun v112 M112 =>
  if v112 = 38 then (mlt (i4 + 1) fun x126 =>
  k7 i1 s0 1 x126 M112)
  else (mlt (i4 + 1) fun x126 =>
  k7 i1 s0 0 x126 M112)
def f_X1_testHolds_b94 (k7 : Int32 → Int32 → Int32 → Int32 → mM → Option (Int32 × mM)) (i1 : Int32) (i2 : Int32) (i4 : Int32) (s0 : Int32) (M : mM) : Option (Int32 × mM) :=
  if i2 = 0 then (f_X1_testHolds_b110 k7 i1 i4 0 M)
  else (if s0 = 0 then (f_X1_testHolds_b110 k7 i1 i4 0 M)
  else (f_X1_testHolds_b110 k7 i1 i4 1 M))
def f_X1_testHolds_b7 : Nat → Int32 → Int32 → Int32 → Int32 → mM → Option (Int32 × mM)
  | 0, _, _, _, _, _ => none
  | n + 1, i1, i2, i3, i4, M =>
  if 90 ≤ i4 then (mgd (i2 = 0 ∨ i2 = 1) <|
  some (i2, M))
  else (if i3 = 0 then (mgd (i2 = 0 ∨ i2 = 1) <|
  some (i2, M))
  else (mbw (f_X1_addUp i1 M) fun v20 M20 =>
  mbw (f_X7_take 76 M20) fun v26 M26 =>
  mbw (f_X1_addUp i1 M26) fun v33 M33 =>
  if v26 = 60 then (if v33 ≤ v20 then (f_X1_testHolds_b94 (f_X1_testHolds_b7 n) i1 i2 i4 0 M33)
  else (f_X1_testHolds_b94 (f_X1_testHolds_b7 n) i1 i2 i4 1 M33))
  else (if v26 = 62 then (if v20 ≤ v33 then (f_X1_testHolds_b94 (f_X1_testHolds_b7 n) i1 i2 i4 0 M33)
  else (f_X1_testHolds_b94 (f_X1_testHolds_b7 n) i1 i2 i4 1 M33))
  else (if v20 = v33 then (f_X1_testHolds_b94 (f_X1_testHolds_b7 n) i1 i2 i4 1 M33)
  else (f_X1_testHolds_b94 (f_X1_testHolds_b7 n) i1 i2 i4 0 M33)))))
def f_X1_testHolds (i1 : Int32) (M : mM) : Option (Int32 × mM) :=
  f_X1_testHolds_b7 mN i1 1 1 0 M
def f_X1_passRule_b4 : Nat → Int32 → Int32 → mM → Option mM
  | 0, _, _, _ => none
  | n + 1, i1, i2, M =>
  if 90 ≤ i2 then (some M)
  else (if i1 = 0 then (some M)
  else (if (f_X7_atEnd 76 M) = 0 then (mbw (f_X7_take 76 M) fun v22 M22 =>
  if v22 = 59 then (mlt (i2 + 1) fun x36 =>
  f_X1_passRule_b4 n 0 x36 M22)
  else (mlt (i2 + 1) fun x36 =>
  f_X1_passRule_b4 n 1 x36 M22))
  else (some M)))
def f_X1_passRule (M : mM) : Option mM :=
  f_X1_passRule_b4 mN 1 0 M
def f_X1_chooseRule_b34 : Nat → Int32 → Int32 → mM → Option (Int32 × mM)
  | 0, _, _, _ => none
  | n + 1, i1, i3, M =>
  if 6 ≤ i3 then (some ((-4), M))
  else (if (f_X7_atEnd 76 M) = 0 then (mbw (f_X1_testHolds i1 M) fun v49 M49 =>
  if v49 = 0 then (mbp (f_X1_passRule M49) fun M58 =>
  mlt (i3 + 1) fun x61 =>
  f_X1_chooseRule_b34 n i1 x61 M58)
  else (some (i3, M49)))
  else (some ((-4), M)))
def f_X1_chooseRule (i1 : Int32) (M : mM) : Option (Int32 × mM) :=
  mgd (mIn i1 16) <|
  mlt (M.1 13 (Int32.toNatClampNeg i1)) fun x9 =>
  mgd (mIn x9 8) <|
  mlt (15 + 1 + Int32.toNatClampNeg x9) fun t19 =>
  mgd (mIn x9 8) <|
  mbp (f_X7_open 76 t19 (M.1 24 (Int32.toNatClampNeg x9)) M) fun M29 =>
  f_X1_chooseRule_b34 mN i1 0 M29
def f_X9_rule (i1 : Int32) (M : mM) : Option (Int32 × mM) :=
  if (f_X0_has 2 i1 M) = 0 then (some ((-1), M))
  else (mbp (f_X8_isRunning 1 i1 M) fun v21 =>
  if v21 = 0 then (some ((-3), M))
  else (mbw (f_X1_chooseRule i1 M) fun v35 M35 =>
  some (v35, M35)))
def f_X1_goIfItCan (i1 : Int32) (i2 : Int32) (M : mM) : Option (Int32 × mM) :=
  if i2 < 0 then (some (0, M))
  else (if 8 ≤ i2 then (some (0, M))
  else (mbw (f_X0_mayGo 2 i1 i2 M) fun v19 M19 =>
  if v19 = 0 then (some (0, M19))
  else (mbp (f_X0_go 2 i1 i2 M19) fun M36 =>
  some (1, M36))))
def f_J9_floorMod_7cf53 (i0 : Int32) (i1 : Int32) : Option Int32 :=
  mgd (¬ i1 = 0) <|
  mlt (i0 - i0 / i1 * i1) fun x3 =>
  if 0 ≤ (i0 ^^^ i1) then (some x3)
  else (if x3 = 0 then (some x3)
  else (some (x3 + i1)))
def f_X1_act (i1 : Int32) (M : mM) : Option (Int32 × mM) :=
  mbw (f_X7_take 76 M) fun v1 M1 =>
  if v1 = 103 then (mbw (f_X7_take 76 M1) fun v14 M14 =>
  mbw (f_X1_goIfItCan i1 (v14 - 48) M14) fun v20 M20 =>
  some (v20, M20))
  else (mbw (f_X1_addUp i1 M1) fun v26 M26 =>
  mbp (f_J9_floorMod_7cf53 v26 100) fun v31 =>
  if v1 = 121 then (mgd (mIn i1 16) <|
  mlt (mI M26 11 (Int32.toNatClampNeg i1) v31) fun M50 =>
  some (0, M50))
  else (mgd (mIn i1 16) <|
  mlt (mI M26 10 (Int32.toNatClampNeg i1) v31) fun M63 =>
  some (0, M63)))
def f_X1_runAll_b4 : Nat → Int32 → Int32 → mM → Option (Int32 × mM)
  | 0, _, _, _ => none
  | n + 1, i1, i2, M =>
  if (M.1 2 0) ≤ i2 then (some (i1, M))
  else (mbp (f_X8_isRunning 1 i2 M) fun v23 =>
  if v23 = 0 then (mlt (i2 + 1) fun x45 =>
  f_X1_runAll_b4 n i1 x45 M)
  else (mbw (f_X1_chooseRule i2 M) fun v31 M31 =>
  if v31 < 0 then (mlt (i2 + 1) fun x45 =>
  f_X1_runAll_b4 n i1 x45 M31)
  else (mbw (f_X1_act i2 M31) fun v40 M40 =>
  mlt (i2 + 1) fun x45 =>
  f_X1_runAll_b4 n (i1 + v40) x45 M40)))
def f_X1_runAll (M : mM) : Option (Int32 × mM) :=
  f_X1_runAll_b4 mN 0 0 M
def f_X8_poorestBeside_b4 : Nat → Nat → Int32 → Int32 → Int32 → mM → Option Int32
  | 0, _, _, _, _, _ => none
  | n + 1, b, i1, i2, i3, M =>
  if 4 ≤ i3 then (some i2)
  else (mgd (mIn i1 16) <|
  mgd (mIn i3 8) <|
  mbp (f_X0_inCell (b + 1) ((M.1 (b + 3) (Int32.toNatClampNeg i1)) + (sVal 3 (Int32.toNatClampNeg i3))) M) fun v28 =>
  if v28 < 0 then (mlt (i3 + 1) fun x80 =>
  f_X8_poorestBeside_b4 n b i1 i2 x80 M)
  else (mgd (mIn v28 16) <|
  if (M.1 (b + 5) (Int32.toNatClampNeg v28)) = 0 then (if i2 < 0 then (mlt (i3 + 1) fun x80 =>
  f_X8_poorestBeside_b4 n b i1 v28 x80 M)
  else (mgd (mIn v28 16) <|
  mgd (mIn i2 16) <|
  if (M.1 (b + 4) (Int32.toNatClampNeg i2)) ≤ (M.1 (b + 4) (Int32.toNatClampNeg v28)) then (mlt (i3 + 1) fun x80 =>
  f_X8_poorestBeside_b4 n b i1 i2 x80 M)
  else (mlt (i3 + 1) fun x80 =>
  f_X8_poorestBeside_b4 n b i1 v28 x80 M)))
  else (mlt (i3 + 1) fun x80 =>
  f_X8_poorestBeside_b4 n b i1 i2 x80 M)))
def f_X8_poorestBeside (b : Nat) (i1 : Int32) (M : mM) : Option Int32 :=
  f_X8_poorestBeside_b4 mN b i1 (-1) 0 M
def f_X8_sharePower_b34 (k2 : Nat → Int32 → mM → Option mM) (b : Nat) (i1 : Int32) (s0 : Int32) (M : mM) : Option mM :=
  if s0 < 0 then (mlt (i1 + 1) fun x88 =>
  k2 b x88 M)
  else (mgd (mIn s0 16) <|
  mgd (mIn i1 16) <|
  if ((M.1 (b + 4) (Int32.toNatClampNeg i1)) - 2) < (M.1 (b + 4) (Int32.toNatClampNeg s0)) then (mlt (i1 + 1) fun x88 =>
  k2 b x88 M)
  else (mgd (mIn s0 16) <|
  mgd (mIn s0 16) <|
  mlt (mI M (b + 4) (Int32.toNatClampNeg s0) ((M.1 (b + 4) (Int32.toNatClampNeg s0)) + 1)) fun M74 =>
  mgd (mIn i1 16) <|
  mgd (mIn i1 16) <|
  mlt (mI M74 (b + 4) (Int32.toNatClampNeg i1) ((M74.1 (b + 4) (Int32.toNatClampNeg i1)) - 1)) fun M87 =>
  mlt (i1 + 1) fun x88 =>
  k2 b x88 M87))
def f_X8_sharePower_b2 : Nat → Nat → Int32 → mM → Option mM
  | 0, _, _, _ => none
  | n + 1, b, i1, M =>
  if (M.1 (b + 1) 0) ≤ i1 then (some M)
  else (mgd (mIn i1 16) <|
  if (M.1 (b + 5) (Int32.toNatClampNeg i1)) = 0 then (mbp (f_X8_poorestBeside b i1 M) fun v31 =>
  f_X8_sharePower_b34 (f_X8_sharePower_b2 n) b i1 v31 M)
  else (f_X8_sharePower_b34 (f_X8_sharePower_b2 n) b i1 (-1) M))
def f_X8_sharePower (b : Nat) (M : mM) : Option mM :=
  f_X8_sharePower_b2 mN b 0 M
def f_X8_endTick_b2 : Nat → Nat → Int32 → mM → Option mM
  | 0, _, _, _ => none
  | n + 1, b, i1, M =>
  if (M.1 (b + 1) 0) ≤ i1 then (mlt (mI M b 1 ((M.1 b 1) + 1)) fun M45 =>
  some M45)
  else (mgd (mIn i1 16) <|
  mgd (mIn i1 16) <|
  mlt (mI M (b + 11) (Int32.toNatClampNeg i1) (M.1 (b + 10) (Int32.toNatClampNeg i1))) fun M24 =>
  mgd (mIn i1 16) <|
  mlt (mI M24 (b + 10) (Int32.toNatClampNeg i1) 0) fun M31 =>
  mlt (i1 + 1) fun x32 =>
  f_X8_endTick_b2 n b x32 M31)
def f_X8_endTick (b : Nat) (M : mM) : Option mM :=
  f_X8_endTick_b2 mN b 0 M
def f_X9_ticks_b35 : Nat → Int32 → Int32 → Int32 → mM → Option (Int32 × mM)
  | 0, _, _, _, _ => none
  | n + 1, i1, i2, i3, M =>
  if i1 ≤ i3 then (some (i2, M))
  else (mbw (f_X1_runAll M) fun v45 M45 =>
  mbp (f_X8_sharePower 1 M45) fun M54 =>
  mbp (f_X8_endTick 1 M54) fun M61 =>
  mlt (i3 + 1) fun x64 =>
  f_X9_ticks_b35 n i1 (i2 + v45) x64 M61)
def f_X9_ticks (i1 : Int32) (M : mM) : Option (Int32 × mM) :=
  if i1 < 1 then (some ((-1), M))
  else (if i1 ≤ 50 then (if ((M.1 1 1) + i1) ≤ 2000 then (f_X9_ticks_b35 mN i1 0 0 M)
  else (some ((-2), M)))
  else (some ((-1), M)))
def f_X8_isTick (b : Nat) (i1 : Int32) (M : mM) : Int32 :=
  if i1 < 0 then (0)
  else (if (M.1 b 1) < i1 then (0)
  else (1))
def f_X9_report (i1 : Int32) (i2 : Int32) (i3 : Int32) (M : mM) : Option (Int32 × mM) :=
  if (f_X0_has 2 i1 M) = 0 then (some ((-1), M))
  else (if (f_X8_isTick 1 i2 M) = 0 then (some ((-1), M))
  else (if (M.1 29 0) < 40 then (mbw (f_X2_note 29 i1 i2 i3 M) fun v55 M55 =>
  some (v55, M55))
  else (some ((-2), M))))
def f_X8_mayBelieve (b : Nat) (i1 : Int32) (M : mM) : Int32 :=
  if i1 < (-1) then (0)
  else (if (M.1 (b + 28) 0) < i1 then (0)
  else (1))
def f_X2_firstOf (b : Nat) (i1 : Int32) (M : mM) : Int32 :=
  if i1 < 0 then ((M.1 b 0))
  else (if i1 ≤ (M.1 b 0) then (i1)
  else ((M.1 b 0)))
def f_X2_tellDead_b9 : Nat → Nat → Int32 → Int32 → Int32 → Int32 → Int32 → Int32 → mM → Option Int32
  | 0, _, _, _, _, _, _, _, _ => none
  | n + 1, b, i1, i2, i3, i4, i5, i6, M =>
  if i3 ≤ i6 then (mgd (i5 = 0 ∨ i5 = 1) <|
  some i5)
  else (if (M.1 b 0) ≤ i6 then (mgd (i5 = 0 ∨ i5 = 1) <|
  some i5)
  else (mgd (mIn i6 40) <|
  if (M.1 (b + 1) (Int32.toNatClampNeg i6)) = i1 then (mgd (mIn i6 40) <|
  if i2 < (M.1 (b + 2) (Int32.toNatClampNeg i6)) then (mlt (i6 + 1) fun x76 =>
  f_X2_tellDead_b9 n b i1 i2 i3 i4 i5 x76 M)
  else (mgd (mIn i6 40) <|
  if (M.1 (b + 2) (Int32.toNatClampNeg i6)) < i4 then (mlt (i6 + 1) fun x76 =>
  f_X2_tellDead_b9 n b i1 i2 i3 i4 i5 x76 M)
  else (mgd (mIn i6 40) <|
  mlt (M.1 (b + 2) (Int32.toNatClampNeg i6)) fun x65 =>
  mgd (mIn i6 40) <|
  mlt (M.1 (b + 3) (Int32.toNatClampNeg i6)) fun x74 =>
  mlt (i6 + 1) fun x76 =>
  f_X2_tellDead_b9 n b i1 i2 i3 x65 x74 x76 M)))
  else (mlt (i6 + 1) fun x76 =>
  f_X2_tellDead_b9 n b i1 i2 i3 i4 i5 x76 M)))
def f_X2_tellDead (b : Nat) (i1 : Int32) (i2 : Int32) (i3 : Int32) (M : mM) : Option Int32 :=
  f_X2_tellDead_b9 mN b i1 i2 i3 (-1) 0 0 M
def f_X9_believed (i1 : Int32) (i2 : Int32) (i3 : Int32) (M : mM) : Option Int32 :=
  if (f_X0_has 2 i1 M) = 0 then (some (-1))
  else (if (f_X8_isTick 1 i2 M) = 0 then (some (-1))
  else (if (f_X8_mayBelieve 1 i3 M) = 0 then (some (-1))
  else (mbp (f_X2_tellDead 29 i1 i2 (f_X2_firstOf 29 i3 M) M) fun v58 =>
  some (f_X9_oneIf v58))))
def f_X2_nextNoted_b6 : Nat → Nat → Int32 → Int32 → Int32 → Int32 → mM → Option Int32
  | 0, _, _, _, _, _, _ => none
  | n + 1, b, i1, i2, i4, i5, M =>
  if (M.1 b 0) ≤ i5 then (some i4)
  else (mgd (mIn i5 40) <|
  if (M.1 (b + 1) (Int32.toNatClampNeg i5)) = i1 then (mgd (mIn i5 40) <|
  if (M.1 (b + 2) (Int32.toNatClampNeg i5)) ≤ i2 then (mlt (i5 + 1) fun x58 =>
  f_X2_nextNoted_b6 n b i1 i2 i4 x58 M)
  else (mgd (mIn i5 40) <|
  if i4 ≤ (M.1 (b + 2) (Int32.toNatClampNeg i5)) then (mlt (i5 + 1) fun x58 =>
  f_X2_nextNoted_b6 n b i1 i2 i4 x58 M)
  else (mgd (mIn i5 40) <|
  mlt (M.1 (b + 2) (Int32.toNatClampNeg i5)) fun x56 =>
  mlt (i5 + 1) fun x58 =>
  f_X2_nextNoted_b6 n b i1 i2 x56 x58 M)))
  else (mlt (i5 + 1) fun x58 =>
  f_X2_nextNoted_b6 n b i1 i2 i4 x58 M))
def f_X2_nextNoted (b : Nat) (i1 : Int32) (i2 : Int32) (i3 : Int32) (M : mM) : Option Int32 :=
  f_X2_nextNoted_b6 mN b i1 i2 i3 0 M
def f_X8_wrongTicks_b8 : Nat → Nat → Int32 → Int32 → Int32 → Int32 → Int32 → mM → Option Int32
  | 0, _, _, _, _, _, _, _ => none
  | n + 1, b, i1, i2, i3, i4, i5, M =>
  if 80 < i5 then (some i3)
  else (if (M.1 b 1) ≤ i4 then (some i3)
  else (mbp (f_X2_nextNoted (b + 28) i1 i4 (M.1 b 1) M) fun v42 =>
  mbp (f_X2_nextNoted (b + 24) i1 i4 v42 M) fun v45 =>
  mbp (f_X2_tellDead (b + 28) i1 i4 i2 M) fun v58 =>
  mbp (f_X2_tellDead (b + 24) i1 i4 (M.1 (b + 24) 0) M) fun v75 =>
  if v58 = v75 then (mlt (i5 + 1) fun x93 =>
  f_X8_wrongTicks_b8 n b i1 i2 i3 v45 x93 M)
  else (mlt (i3 + (v45 - i4)) fun x88 =>
  mlt (i5 + 1) fun x93 =>
  f_X8_wrongTicks_b8 n b i1 i2 x88 v45 x93 M)))
def f_X8_wrongTicks (b : Nat) (i1 : Int32) (i2 : Int32) (M : mM) : Option Int32 :=
  f_X8_wrongTicks_b8 mN b i1 i2 0 0 0 M
def f_X9_wrong (i1 : Int32) (i2 : Int32) (M : mM) : Option Int32 :=
  if (f_X0_has 2 i1 M) = 0 then (some (-1))
  else (if (f_X8_mayBelieve 1 i2 M) = 0 then (some (-1))
  else (mbp (f_X8_wrongTicks 1 i1 (f_X2_firstOf 29 i2 M) M) fun v43 =>
  some v43))
def f_X2_copyFrom (b : Nat) (q1 : Nat) (M : mM) : Option mM :=
  mlt (mI M b 0 (M.1 q1 0)) fun M5 =>
  mlt (mC M5 (q1 + 1) (b + 1) 0 0 40) fun M20 =>
  mlt (mC M20 (q1 + 2) (b + 2) 0 0 40) fun M35 =>
  mgd (∀ i, i < 40 → M35.1 (q1 + 3) (0 + i) = 0 ∨ M35.1 (q1 + 3) (0 + i) = 1) <|
  mlt (mC M35 (q1 + 3) (b + 3) 0 0 40) fun M50 =>
  some M50
def f_X8_copyFrom_b112 : Nat → Nat → Nat → Int32 → mM → Option mM
  | 0, _, _, _, _ => none
  | n + 1, b, q1, i2, M =>
  if 8 ≤ i2 then (mlt (mC M (q1 + 23) (b + 23) 0 0 8) fun M155 =>
  mbp (f_X2_copyFrom (b + 24) (q1 + 24) M155) fun M166 =>
  mbp (f_X2_copyFrom (b + 28) (q1 + 28) M166) fun M177 =>
  some M177)
  else (mgd (mIn i2 8) <|
  mlt ((q1 + 14) + 1 + Int32.toNatClampNeg i2) fun t123 =>
  mgd (mIn i2 8) <|
  mlt ((b + 14) + 1 + Int32.toNatClampNeg i2) fun t130 =>
  mlt (mC M t123 t130 0 0 90) fun M134 =>
  mlt (i2 + 1) fun x137 =>
  f_X8_copyFrom_b112 n b q1 x137 M134)
def f_X8_copyFrom (b : Nat) (q1 : Nat) (M : mM) : Option mM :=
  mbp (f_X0_copyFrom (b + 1) (q1 + 1) M) fun M8 =>
  mlt (mI M8 b 1 (M8.1 q1 1)) fun M16 =>
  mlt (mC M16 (q1 + 9) (b + 9) 0 0 16) fun M31 =>
  mlt (mC M31 (q1 + 10) (b + 10) 0 0 16) fun M46 =>
  mlt (mC M46 (q1 + 11) (b + 11) 0 0 16) fun M61 =>
  mlt (mC M61 (q1 + 12) (b + 12) 0 0 16) fun M76 =>
  mlt (mI M76 b 6 (M76.1 q1 6)) fun M84 =>
  mlt (mCJ M84 (q1 + 13) (b + 13) 0 0 16) fun M99 =>
  mlt (mI M99 b 8 (M99.1 q1 8)) fun M107 =>
  f_X8_copyFrom_b112 mN b q1 0 M107
def f_X9_image (M : mM) : Option (Int32 × mM) :=
  mbp (f_X8_copyFrom 33 1 M) fun M8 =>
  mlt (mI M8 0 2 1) fun M13 =>
  some ((M13.1 1 1), M13)
def f_X9_restore (M : mM) : Option (Int32 × mM) :=
  if (M.1 0 2) = 0 then (some ((-3), M))
  else (mbp (f_X8_copyFrom 1 33 M) fun M18 =>
  some ((M18.1 1 1), M18))
def f_X0_countDead_b4 : Nat → Nat → Int32 → Int32 → mM → Option Int32
  | 0, _, _, _, _ => none
  | n + 1, b, i1, i2, M =>
  if (M.1 b 0) ≤ i2 then (some i1)
  else (mgd (mIn i2 16) <|
  mlt (i1 + (f_X9_oneIf (M.1 (b + 4) (Int32.toNatClampNeg i2)))) fun x23 =>
  mlt (i2 + 1) fun x24 =>
  f_X0_countDead_b4 n b x23 x24 M)
def f_X0_countDead (b : Nat) (M : mM) : Option Int32 :=
  f_X0_countDead_b4 mN b 0 0 M
def f_X0_wholePower_b4 : Nat → Nat → Int32 → Int32 → mM → Option Int32
  | 0, _, _, _, _ => none
  | n + 1, b, i1, i2, M =>
  if (M.1 b 0) ≤ i2 then (some i1)
  else (mgd (mIn i2 16) <|
  mlt (i1 + (M.1 (b + 3) (Int32.toNatClampNeg i2))) fun x20 =>
  mlt (i2 + 1) fun x21 =>
  f_X0_wholePower_b4 n b x20 x21 M)
def f_X0_wholePower (b : Nat) (M : mM) : Option Int32 :=
  f_X0_wholePower_b4 mN b 0 0 M
def f_X0_wholeWeight_b4 : Nat → Nat → Int32 → Int32 → mM → Option Int32
  | 0, _, _, _, _ => none
  | n + 1, b, i1, i2, M =>
  if (M.1 b 0) ≤ i2 then (some i1)
  else (mgd (mIn i2 16) <|
  mgd (mIn (M.1 (b + 1) (Int32.toNatClampNeg i2)) 4) <|
  mlt (i1 + (sVal 0 (Int32.toNatClampNeg (M.1 (b + 1) (Int32.toNatClampNeg i2))))) fun x24 =>
  mlt (i2 + 1) fun x25 =>
  f_X0_wholeWeight_b4 n b x24 x25 M)
def f_X0_wholeWeight (b : Nat) (M : mM) : Option Int32 :=
  f_X0_wholeWeight_b4 mN b 0 0 M
def f_X9_count (i1 : Int32) (M : mM) : Option Int32 :=
  if i1 = 0 then (some (M.1 2 0))
  else (if i1 = 1 then (mbp (f_X0_countDead 2 M) fun v70 =>
  some v70)
  else (if i1 = 2 then (mbp (f_X0_wholePower 2 M) fun v81 =>
  some v81)
  else (if i1 = 3 then (some (M.1 1 6))
  else (if i1 = 4 then (some (M.1 1 8))
  else (if i1 = 5 then (some (M.1 29 0))
  else (if i1 = 6 then (some (M.1 1 1))
  else (if i1 = 7 then (mbp (f_X0_wholeWeight 2 M) fun v127 =>
  some v127)
  else (if i1 = 8 then (some (M.1 25 0))
  else (some (-1))))))))))
def f_X6_hold (b : Nat) (i1 : Int32) (M : mM) : Option mM :=
  mlt (mI M b 0 i1) fun M2 =>
  mlt (mI M2 b 1 0) fun M7 =>
  some M7
def f_X6_holdCube (b : Nat) (q1 : Nat) (i2 : Int32) (M : mM) : Option mM :=
  mbp (f_X6_hold b (-1) M) fun M2 =>
  mgd (mIn i2 16) <|
  mlt (mI M2 b 3 (M2.1 (q1 + 1) (Int32.toNatClampNeg i2))) fun M12 =>
  mgd (mIn i2 16) <|
  mlt (mI M12 b 4 (f_X9_columnOf (M12.1 (q1 + 2) (Int32.toNatClampNeg i2)))) fun M25 =>
  mgd (mIn i2 16) <|
  mlt (mI M25 b 5 (f_X9_levelOf (M25.1 (q1 + 2) (Int32.toNatClampNeg i2)))) fun M38 =>
  mgd (mIn i2 16) <|
  mlt (mI M38 b 6 (M38.1 (q1 + 3) (Int32.toNatClampNeg i2))) fun M48 =>
  mgd (mIn i2 16) <|
  mgd ((M48.1 (q1 + 4) (Int32.toNatClampNeg i2)) = 0 ∨ (M48.1 (q1 + 4) (Int32.toNatClampNeg i2)) = 1) <|
  mlt (mI M48 b 7 (M48.1 (q1 + 4) (Int32.toNatClampNeg i2))) fun M58 =>
  some M58
def f_X9_keep_b37 (i1 : Int32) (i2 : Int32) (i3 : Int32) (M : mM) : Option (Int32 × mM) :=
  if i2 = 0 then (mgd (mIn i1 8) <|
  mlt (80 + 2 * Int32.toNatClampNeg i1) fun h46 =>
  mbp (f_X6_hold h46 (-2) M) fun M49 =>
  some (0, M49))
  else (mgd (mIn i1 8) <|
  mlt (80 + 2 * Int32.toNatClampNeg i1) fun h60 =>
  mbp (f_X6_holdCube h60 2 i3 M) fun M69 =>
  some (0, M69))
def f_X9_keep (i1 : Int32) (i2 : Int32) (i3 : Int32) (M : mM) : Option (Int32 × mM) :=
  if (f_X9_isShelf i1) = 0 then (some ((-1), M))
  else (if i2 < 0 then (some ((-1), M))
  else (if 1 < i2 then (some ((-1), M))
  else (if i2 = 1 then (if (f_X0_has 2 i3 M) = 0 then (some ((-1), M))
  else (f_X9_keep_b37 i1 i2 i3 M))
  else (f_X9_keep_b37 i1 i2 i3 M))))
def f_X6_holdRow_b12 : Nat → Nat → Int32 → mM → Option mM
  | 0, _, _, _ => none
  | n + 1, b, i3, M =>
  if 90 ≤ i3 then (some M)
  else (mgd (mIn i3 90) <|
  mlt (mI M (b + 1) (Int32.toNatClampNeg i3) 0) fun M24 =>
  mlt (i3 + 1) fun x25 =>
  f_X6_holdRow_b12 n b x25 M24)
def f_X6_holdRow (b : Nat) (i1 : Int32) (i2 : Int32) (M : mM) : Option mM :=
  mbp (f_X6_hold b i1 M) fun M2 =>
  mlt (mI M2 b 1 i2) fun M7 =>
  f_X6_holdRow_b12 mN b 0 M7
def f_X9_row (i1 : Int32) (i2 : Int32) (i3 : Int32) (M : mM) : Option (Int32 × mM) :=
  if (f_X9_isShelf i1) = 0 then (some ((-1), M))
  else (if i2 < 0 then (some ((-1), M))
  else (if 2 < i2 then (some ((-1), M))
  else (if i3 ≤ 90 then (if 0 ≤ i3 then (mgd (mIn i1 8) <|
  mlt (80 + 2 * Int32.toNatClampNeg i1) fun h36 =>
  mbp (f_X6_holdRow h36 i2 i3 M) fun M39 =>
  some (0, M39))
  else (some ((-14), M)))
  else (some ((-1), M)))))
def f_X6_hasPlace (b : Nat) (i1 : Int32) (M : mM) : Int32 :=
  if i1 < 0 then (0)
  else (if (M.1 b 1) ≤ i1 then (0)
  else (1))
def f_X6_lowestBits (b : Nat) (i1 : Int32) (M : mM) : Int32 :=
  if (M.1 b 0) = 0 then ((Int8.toInt32 (Int32.toInt8 i1)))
  else (if (M.1 b 0) = 1 then ((Int16.toInt32 (Int32.toInt16 i1)))
  else (i1))
def f_X9_put (i1 : Int32) (i2 : Int32) (i3 : Int32) (M : mM) : Option (Int32 × mM) :=
  if (f_X9_isShelf i1) = 0 then (some ((-1), M))
  else (mgd (mIn i1 8) <|
  mlt (80 + 2 * Int32.toNatClampNeg i1) fun h14 =>
  mlt (f_X6_refusalOfRow h14 3 M) fun x19 =>
  if 0 ≤ x19 then (mgd (mIn i1 8) <|
  mlt (80 + 2 * Int32.toNatClampNeg i1) fun h34 =>
  if (f_X6_hasPlace h34 i2 M) = 0 then (some ((-13), M))
  else (mgd (mIn i1 8) <|
  mlt (80 + 2 * Int32.toNatClampNeg i1) fun h50 =>
  mgd (mIn i1 8) <|
  mlt (80 + 2 * Int32.toNatClampNeg i1) fun h60 =>
  mgd (mIn i2 90) <|
  mlt (mI M (h50 + 1) (Int32.toNatClampNeg i2) (f_X6_lowestBits h60 i3 M)) fun M65 =>
  some (0, M65)))
  else (some (x19, M)))
def f_X6_hasPlaces (b : Nat) (i1 : Int32) (i2 : Int32) (M : mM) : Int32 :=
  if i1 < 0 then (0)
  else (if i2 < 0 then (0)
  else (if ((M.1 b 1) - i1) < i2 then (0)
  else (1)))
def f_X9_copy (i1 : Int32) (i2 : Int32) (i3 : Int32) (i4 : Int32) (i5 : Int32) (M : mM) : Option (Int32 × mM) :=
  if (f_X9_isShelf i1) = 0 then (some ((-1), M))
  else (if (f_X9_isShelf i3) = 0 then (some ((-1), M))
  else (mgd (mIn i1 8) <|
  mlt (80 + 2 * Int32.toNatClampNeg i1) fun h21 =>
  mgd (mIn i3 8) <|
  mlt (80 + 2 * Int32.toNatClampNeg i3) fun h29 =>
  if (M.1 h21 0) = (-2) then (some ((-11), M))
  else (if (M.1 h29 0) = (-2) then (some ((-11), M))
  else (if (f_X6_isRow h21 M) = 0 then (some ((-12), M))
  else (if (f_X6_isRow h29 M) = 0 then (some ((-12), M))
  else (if (M.1 h21 0) = (M.1 h29 0) then (if (f_X6_hasPlaces h21 i2 i5 M) = 0 then (some ((-13), M))
  else (if (f_X6_hasPlaces h29 i4 i5 M) = 0 then (some ((-13), M))
  else (mgd (¬ i2 < 0 ∧ ¬ i4 < 0 ∧ ¬ i5 < 0 ∧ (Int32.toNatClampNeg i2) + (Int32.toNatClampNeg i5) ≤ 90 ∧ (Int32.toNatClampNeg i4) + (Int32.toNatClampNeg i5) ≤ 90) <|
  mlt (mC M (h21 + 1) (h29 + 1) (Int32.toNatClampNeg i2) (Int32.toNatClampNeg i4) (Int32.toNatClampNeg i5)) fun M128 =>
  some (i5, M128))))
  else (some ((-12), M))))))))
def f_X6_refusalOfCube (b : Nat) (M : mM) : Int32 :=
  if (M.1 b 0) = (-2) then ((-11))
  else (if (M.1 b 0) = (-1) then (0)
  else ((-12)))
def f_X6_sumOfCube_b64 (b : Nat) (i1 : Int32) (M : mM) : Option Int32 :=
  if (M.1 b 3) = 3 then (some (2 * i1))
  else (some i1)
def f_X6_sumOfCube_b48 (b : Nat) (i1 : Int32) (M : mM) : Option Int32 :=
  mgd (mIn (M.1 b 3) 4) <|
  mlt (i1 + ((sVal 2 (Int32.toNatClampNeg (M.1 b 3))) + (M.1 b 6))) fun x63 =>
  f_X6_sumOfCube_b64 b x63 M
def f_X6_sumOfCube_b32 (b : Nat) (i1 : Int32) (M : mM) : Option Int32 :=
  if (M.1 b 3) = 2 then (f_X6_sumOfCube_b48 b i1 M)
  else (if (M.1 b 3) = 3 then (f_X6_sumOfCube_b48 b i1 M)
  else (f_X6_sumOfCube_b64 b i1 M))
def f_X6_sumOfCube (b : Nat) (M : mM) : Option Int32 :=
  mgd (mIn (M.1 b 3) 4) <|
  mgd (mIn (M.1 b 3) 4) <|
  mlt ((100 + (sVal 0 (Int32.toNatClampNeg (M.1 b 3)))) + (sVal 1 (Int32.toNatClampNeg (M.1 b 3)))) fun x20 =>
  if (M.1 b 3) = 1 then (mlt (x20 + 50) fun x29 =>
  f_X6_sumOfCube_b32 b x29 M)
  else (f_X6_sumOfCube_b32 b x20 M)
def f_X9_sum (i1 : Int32) (M : mM) : Option Int32 :=
  if (f_X9_isShelf i1) = 0 then (some (-1))
  else (mgd (mIn i1 8) <|
  mlt (80 + 2 * Int32.toNatClampNeg i1) fun h14 =>
  mlt (f_X6_refusalOfCube h14 M) fun x18 =>
  if 0 ≤ x18 then (mgd (mIn i1 8) <|
  mlt (80 + 2 * Int32.toNatClampNeg i1) fun h32 =>
  mbp (f_X6_sumOfCube h32 M) fun v33 =>
  some v33)
  else (some x18))
def f_X10_thrown (M : mM) : Int32 :=
  (M.1 96 0)
def f_X10_is (i1 : Int32) (i2 : Int32) (i3 : Int32) : Int32 :=
  if i1 < i2 then (0)
  else (if i3 < i1 then (0)
  else (1))
def f_X10_isCube (i1 : Int32) (M : mM) : Option Int32 :=
  mgd ((f_X10_is i1 0 ((M.1 97 0) - 1)) = 0 ∨ (f_X10_is i1 0 ((M.1 97 0) - 1)) = 1) <|
  some (f_X10_is i1 0 ((M.1 97 0) - 1))
def f_X10_isCell (i1 : Int32) (i2 : Int32) : Int32 :=
  if (f_X10_is i1 0 9) = 0 then (0)
  else (if (f_X10_is i2 0 7) = 0 then (0)
  else (1))
def f_X10_cubeAt (i1 : Int32) (i2 : Int32) (M : mM) : Option Int32 :=
  if (f_X10_isCell i1 i2) = 0 then (some (-1))
  else (mgd (mIn ((8 * i1) + i2) 80) <|
  some ((M.1 99 (Int32.toNatClampNeg ((8 * i1) + i2))) - 1))
def f_X10_weightOf (i1 : Int32) : Int32 :=
  if i1 = 3 then (6)
  else (if i1 = 0 then (2)
  else (3))
def f_X10_bearsOf (i1 : Int32) : Int32 :=
  if i1 = 1 then (12)
  else (if i1 = 2 then (4)
  else (if i1 = 3 then (2)
  else (6)))
def f_X10_costOf (i1 : Int32) : Int32 :=
  if i1 = 0 then (3)
  else (if i1 = 1 then (4)
  else (1))
def f_X10_bitAt (i1 : Int32) (i2 : Int32) (M : mM) : Option Int32 :=
  mbp (f_X10_cubeAt i1 i2 M) fun v3 =>
  if 0 ≤ v3 then (mbp (f_X10_cubeAt i1 i2 M) fun v17 =>
  some (1 <<< (v17 &&& 31)))
  else (some 0)
def f_X10_besides (i1 : Int32) (M : mM) : Option Int32 :=
  mgd (mIn (26 + i1) 1834) <|
  mgd (mIn (42 + i1) 1834) <|
  mbp (f_X10_bitAt ((M.1 97 (Int32.toNatClampNeg (26 + i1))) + 1) (M.1 97 (Int32.toNatClampNeg (42 + i1))) M) fun v21 =>
  mgd (mIn (26 + i1) 1834) <|
  mgd (mIn (42 + i1) 1834) <|
  mbp (f_X10_bitAt (M.1 97 (Int32.toNatClampNeg (26 + i1))) ((M.1 97 (Int32.toNatClampNeg (42 + i1))) + 1) M) fun v45 =>
  mgd (mIn (26 + i1) 1834) <|
  mgd (mIn (42 + i1) 1834) <|
  mbp (f_X10_bitAt ((M.1 97 (Int32.toNatClampNeg (26 + i1))) - 1) (M.1 97 (Int32.toNatClampNeg (42 + i1))) M) fun v70 =>
  mgd (mIn (26 + i1) 1834) <|
  mgd (mIn (42 + i1) 1834) <|
  mbp (f_X10_bitAt (M.1 97 (Int32.toNatClampNeg (26 + i1))) ((M.1 97 (Int32.toNatClampNeg (42 + i1))) - 1) M) fun v95 =>
  some (((v21 ||| v45) ||| v70) ||| v95)
def f_X10_isWhole_b93 : Nat → Int32 → Int32 → Int32 → Int32 → mM → Option Int32
  | 0, _, _, _, _, _ => none
  | n + 1, i1, i2, i3, i5, M =>
  if (M.1 97 0) ≤ i5 then (if i2 = i1 then (if i3 ≤ 0 then (some 0)
  else (some 1))
  else (some 0))
  else (if ((i1 >>> (i5 &&& 31)) &&& 1) = 1 then (mgd (mIn (42 + i5) 1834) <|
  if (M.1 97 (Int32.toNatClampNeg (42 + i5))) = 0 then (mlt (i3 + 1) fun x127 =>
  mlt (i5 + 1) fun x130 =>
  f_X10_isWhole_b93 n i1 i2 x127 x130 M)
  else (mlt (i5 + 1) fun x130 =>
  f_X10_isWhole_b93 n i1 i2 i3 x130 M))
  else (mlt (i5 + 1) fun x130 =>
  f_X10_isWhole_b93 n i1 i2 i3 x130 M))
def f_X10_isWhole_b27 (k16 : Int32 → Int32 → Int32 → Int32 → mM → Option Int32) : Nat → Int32 → Int32 → Int32 → Int32 → Int32 → mM → Option Int32
  | 0, _, _, _, _, _, _ => none
  | n + 1, i1, i2, i3, i4, i5, M =>
  if (M.1 97 0) ≤ i5 then (k16 i1 i2 i3 i4 M)
  else (if ((i1 >>> (i5 &&& 31)) &&& 1) = 0 then (mlt (i5 + 1) fun x81 =>
  f_X10_isWhole_b27 k16 n i1 i2 i3 i4 x81 M)
  else (if ((i2 >>> (i5 &&& 31)) &&& 1) = 1 then (mlt (i5 + 1) fun x81 =>
  f_X10_isWhole_b27 k16 n i1 i2 i3 i4 x81 M)
  else (mbp (f_X10_besides i5 M) fun v60 =>
  if (v60 &&& i2) = 0 then (mlt (i5 + 1) fun x81 =>
  f_X10_isWhole_b27 k16 n i1 i2 i3 i4 x81 M)
  else (mlt (i2 ||| (1 <<< (i5 &&& 31))) fun x77 =>
  mlt (i5 + 1) fun x81 =>
  f_X10_isWhole_b27 k16 n i1 x77 i3 1 x81 M))))
def f_X10_isWhole_b16 : Nat → Int32 → Int32 → Int32 → Int32 → mM → Option Int32
  | 0, _, _, _, _, _ => none
  | n + 1, i1, i2, i3, i4, M =>
  if i4 = 0 then (f_X10_isWhole_b93 mN i1 i2 i3 0 M)
  else (f_X10_isWhole_b27 (f_X10_isWhole_b16 n) mN i1 i2 i3 0 0 M)
def f_X10_isWhole (i1 : Int32) (M : mM) : Option Int32 :=
  if i1 = 0 then (some 1)
  else (f_X10_isWhole_b16 mN i1 (i1 &&& (-i1)) 0 1 M)
def f_X10_everyone (M : mM) : Int32 :=
  ((1 <<< ((M.1 97 0) &&& 31)) - 1)
def f_X10_cube (i1 : Int32) (i2 : Int32) (i3 : Int32) (i4 : Int32) (M : mM) : Option (Int32 × mM) :=
  if (f_X10_is i1 0 3) = 0 then (some ((-1), M))
  else (if (f_X10_isCell i2 i3) = 0 then (some ((-1), M))
  else (if (f_X10_is i4 0 999) = 0 then (some ((-1), M))
  else (if (M.1 97 0) = 16 then (some ((-2), M))
  else (mbp (f_X10_cubeAt i2 i3 M) fun v55 =>
  if v55 < 0 then (mgd (mIn (10 + (M.1 97 0)) 1834) <|
  mlt (mI M 97 (Int32.toNatClampNeg (10 + (M.1 97 0))) i1) fun M74 =>
  mgd (mIn (26 + (M.1 97 0)) 1834) <|
  mlt (mI M74 97 (Int32.toNatClampNeg (26 + (M.1 97 0))) i2) fun M85 =>
  mgd (mIn (42 + (M.1 97 0)) 1834) <|
  mlt (mI M85 97 (Int32.toNatClampNeg (42 + (M.1 97 0))) i3) fun M96 =>
  mgd (mIn (58 + (M.1 97 0)) 1834) <|
  mlt (mI M96 97 (Int32.toNatClampNeg (58 + (M.1 97 0))) i4) fun M108 =>
  mgd (mIn (74 + (M.1 97 0)) 1834) <|
  mlt (mI M108 97 (Int32.toNatClampNeg (74 + (M.1 97 0))) 0) fun M119 =>
  mgd (mIn (90 + (M.1 97 0)) 1834) <|
  mlt (mI M119 97 (Int32.toNatClampNeg (90 + (M.1 97 0))) 0) fun M130 =>
  mgd (mIn (106 + (M.1 97 0)) 1834) <|
  mlt (mI M130 97 (Int32.toNatClampNeg (106 + (M.1 97 0))) 0) fun M141 =>
  mgd (mIn (122 + (M.1 97 0)) 1834) <|
  mlt (mI M141 97 (Int32.toNatClampNeg (122 + (M.1 97 0))) (-4)) fun M153 =>
  mlt (mI M153 97 0 ((M153.1 97 0) + 1)) fun M163 =>
  mgd (mIn ((8 * i2) + i3) 80) <|
  mlt (mI M163 99 (Int32.toNatClampNeg ((8 * i2) + i3)) ((M.1 97 0) + 1)) fun M178 =>
  mbp (f_X10_isWhole (f_X10_everyone M178) M178) fun v184 =>
  if v184 = 0 then (mlt (mI M178 97 0 ((M178.1 97 0) - 1)) fun M202 =>
  mgd (mIn ((8 * i2) + i3) 80) <|
  mlt (mI M202 99 (Int32.toNatClampNeg ((8 * i2) + i3)) 0) fun M214 =>
  some ((-3), M214))
  else (some ((M.1 97 0), M178)))
  else (some ((-3), M))))))
def f_X10_hangs (i1 : Int32) (M : mM) : Option Int32 :=
  mgd (mIn (42 + i1) 1834) <|
  if (M.1 97 (Int32.toNatClampNeg (42 + i1))) ≤ 0 then (some 0)
  else (mgd (mIn (26 + i1) 1834) <|
  mgd (mIn (42 + i1) 1834) <|
  mbp (f_X10_cubeAt (M.1 97 (Int32.toNatClampNeg (26 + i1))) ((M.1 97 (Int32.toNatClampNeg (42 + i1))) - 1) M) fun v33 =>
  if 0 ≤ v33 then (some 0)
  else (some 1))
def f_X10_givesOn_b141 (i2 : Int32) (i6 : Int32) (i7 : Int32) (M : mM) : Option mM :=
  if i6 < 0 then (if i7 < 0 then (some M)
  else (mgd (mIn i7 16) <|
  mgd (mIn i7 16) <|
  mlt (mI M 100 (Int32.toNatClampNeg i7) ((M.1 100 (Int32.toNatClampNeg i7)) + i2)) fun M175 =>
  some M175))
  else (mgd (mIn i6 16) <|
  mgd (mIn i6 16) <|
  mlt (mI M 100 (Int32.toNatClampNeg i6) ((M.1 100 (Int32.toNatClampNeg i6)) + i2)) fun M156 =>
  some M156)
def f_X10_givesOn (i1 : Int32) (M : mM) : Option mM :=
  mgd (mIn (10 + i1) 1834) <|
  mgd (mIn i1 16) <|
  mlt ((f_X10_weightOf (M.1 97 (Int32.toNatClampNeg (10 + i1)))) + (M.1 100 (Int32.toNatClampNeg i1))) fun x20 =>
  mgd (mIn (26 + i1) 1834) <|
  mlt (M.1 97 (Int32.toNatClampNeg (26 + i1))) fun x30 =>
  mgd (mIn (42 + i1) 1834) <|
  mlt (M.1 97 (Int32.toNatClampNeg (42 + i1))) fun x40 =>
  if x40 = 0 then (some M)
  else (mbp (f_X10_cubeAt x30 (x40 - 1) M) fun v54 =>
  mbp (f_X10_cubeAt (x30 - 1) x40 M) fun v65 =>
  mbp (f_X10_cubeAt (x30 + 1) x40 M) fun v76 =>
  if v54 < 0 then (if v65 < 0 then (f_X10_givesOn_b141 x20 v65 v76 M)
  else (if v76 < 0 then (f_X10_givesOn_b141 x20 v65 v76 M)
  else (mgd (mIn v76 16) <|
  mgd (mIn v76 16) <|
  mlt (mI M 100 (Int32.toNatClampNeg v76) ((M.1 100 (Int32.toNatClampNeg v76)) + (x20 / 2))) fun M122 =>
  mgd (mIn v65 16) <|
  mgd (mIn v65 16) <|
  mlt (mI M122 100 (Int32.toNatClampNeg v65) ((M122.1 100 (Int32.toNatClampNeg v65)) + (x20 - (x20 / 2)))) fun M137 =>
  some M137)))
  else (mgd (mIn v54 16) <|
  mgd (mIn v54 16) <|
  mlt (mI M 100 (Int32.toNatClampNeg v54) ((M.1 100 (Int32.toNatClampNeg v54)) + x20)) fun M96 =>
  some M96))
def f_X10_findLoads_b66 (k30 : Int32 → Int32 → mM → Option mM) (i1 : Int32) (i2 : Int32) (i3 : Int32) (s0 : Int32) (s1 : Int32) (M : mM) : Option mM :=
  if s0 = s1 then (mbp (f_X10_givesOn i3 M) fun M71 =>
  mlt (i2 + 1) fun x74 =>
  k30 i1 x74 M71)
  else (mlt (i2 + 1) fun x74 =>
  k30 i1 x74 M)
def f_X10_findLoads_b30 (k24 : Int32 → mM → Option mM) : Nat → Int32 → Int32 → mM → Option mM
  | 0, _, _, _ => none
  | n + 1, i1, i2, M =>
  if 20 ≤ i2 then (mlt (i1 + (-1)) fun x80 =>
  k24 x80 M)
  else (mbp (f_X10_cubeAt (i2 - i2 / 10 * 10) i1 M) fun v42 =>
  if v42 < 0 then (mlt (i2 + 1) fun x74 =>
  f_X10_findLoads_b30 k24 n i1 x74 M)
  else (mbp (f_X10_hangs v42 M) fun v52 =>
  if 10 ≤ i2 then (f_X10_findLoads_b66 (f_X10_findLoads_b30 k24 n) i1 i2 v42 v52 0 M)
  else (f_X10_findLoads_b66 (f_X10_findLoads_b30 k24 n) i1 i2 v42 v52 1 M)))
def f_X10_findLoads_b24 : Nat → Int32 → mM → Option mM
  | 0, _, _ => none
  | n + 1, i1, M =>
  if i1 < 0 then (some M)
  else (f_X10_findLoads_b30 (f_X10_findLoads_b24 n) mN i1 0 M)
def f_X10_findLoads_b2 : Nat → Int32 → mM → Option mM
  | 0, _, _ => none
  | n + 1, i1, M =>
  if 16 ≤ i1 then (f_X10_findLoads_b24 mN 7 M)
  else (mgd (mIn i1 16) <|
  mlt (mI M 100 (Int32.toNatClampNeg i1) 0) fun M14 =>
  mlt (i1 + 1) fun x15 =>
  f_X10_findLoads_b2 n x15 M14)
def f_X10_findLoads (M : mM) : Option mM :=
  f_X10_findLoads_b2 mN 0 M
def f_X10_isBroken (i1 : Int32) (M : mM) : Option Int32 :=
  mgd (mIn i1 16) <|
  mgd (mIn (10 + i1) 1834) <|
  if (M.1 100 (Int32.toNatClampNeg i1)) ≤ (f_X10_bearsOf (M.1 97 (Int32.toNatClampNeg (10 + i1)))) then (some 0)
  else (some 1)
def f_X10_about (i1 : Int32) (i2 : Int32) (M : mM) : Option (Int32 × mM) :=
  mbp (f_X10_isCube i1 M) fun v2 =>
  if v2 = 0 then (some ((-1), M))
  else (mbp (f_X10_findLoads M) fun M11 =>
  if i2 = 0 then (mgd (mIn (10 + i1) 1834) <|
  some ((M11.1 97 (Int32.toNatClampNeg (10 + i1))), M11))
  else (if i2 = 1 then (mgd (mIn (26 + i1) 1834) <|
  some ((M11.1 97 (Int32.toNatClampNeg (26 + i1))), M11))
  else (if i2 = 2 then (mgd (mIn (42 + i1) 1834) <|
  some ((M11.1 97 (Int32.toNatClampNeg (42 + i1))), M11))
  else (if i2 = 3 then (mgd (mIn (58 + i1) 1834) <|
  some ((M11.1 97 (Int32.toNatClampNeg (58 + i1))), M11))
  else (if i2 = 4 then (mgd (mIn (74 + i1) 1834) <|
  some ((M11.1 97 (Int32.toNatClampNeg (74 + i1))), M11))
  else (if i2 = 5 then (mgd (mIn i1 16) <|
  some ((M11.1 100 (Int32.toNatClampNeg i1)), M11))
  else (if i2 = 6 then (mbp (f_X10_isBroken i1 M11) fun v131 =>
  if v131 = 0 then (some (0, M11))
  else (some (1, M11)))
  else (if i2 = 7 then (mgd (mIn (90 + i1) 1834) <|
  some ((M11.1 97 (Int32.toNatClampNeg (90 + i1))), M11))
  else (if i2 = 8 then (mgd (mIn (106 + i1) 1834) <|
  some ((M11.1 97 (Int32.toNatClampNeg (106 + i1))), M11))
  else (if i2 = 9 then (mgd (mIn (122 + i1) 1834) <|
  some ((M11.1 97 (Int32.toNatClampNeg (122 + i1))), M11))
  else (if i2 = 10 then (mbp (f_X10_hangs i1 M11) fun v175 =>
  if v175 = 0 then (some (0, M11))
  else (some (1, M11)))
  else (some ((-1), M11)))))))))))))
def f_X10_at (i1 : Int32) (i2 : Int32) (M : mM) : Option Int32 :=
  if (f_X10_isCell i1 i2) = 0 then (some (-1))
  else (mbp (f_X10_cubeAt i1 i2 M) fun v16 =>
  if 0 ≤ v16 then (mbp (f_X10_cubeAt i1 i2 M) fun v30 =>
  some v30)
  else (some (-4)))
def f_X10_dead_b66 (i1 : Int32) (i3 : Int32) (s1 : Int32) (s2 : Int32) (M : mM) : Option (Int32 × mM) :=
  mgd (mIn s1 1834) <|
  mlt (mI M 97 (Int32.toNatClampNeg s1) s2) fun M66 =>
  mgd (mIn (1714 + i3) 1834) <|
  mlt (mI M66 97 (Int32.toNatClampNeg (1714 + i3)) i1) fun M77 =>
  mgd (mIn (1754 + i3) 1834) <|
  mlt (mI M77 97 (Int32.toNatClampNeg (1754 + i3)) (M77.1 97 5)) fun M93 =>
  mgd (mIn (74 + i1) 1834) <|
  mgd (mIn (1794 + i3) 1834) <|
  mlt (mI M93 97 (Int32.toNatClampNeg (1794 + i3)) (M93.1 97 (Int32.toNatClampNeg (74 + i1)))) fun M112 =>
  mlt (mI M112 97 4 ((M112.1 97 4) + 1)) fun M122 =>
  some (1, M122)
def f_X10_dead_b28 (i1 : Int32) (i2 : Int32) (s0 : Int32) (s1 : Int32) (M : mM) : Option (Int32 × mM) :=
  if s0 = s1 then (some (0, M))
  else (if (M.1 97 4) = 40 then (some ((-2), M))
  else (if i2 = 0 then (f_X10_dead_b66 i1 (M.1 97 4) (74 + i1) 0 M)
  else (f_X10_dead_b66 i1 (M.1 97 4) (74 + i1) 1 M)))
def f_X10_dead (i1 : Int32) (i2 : Int32) (M : mM) : Option (Int32 × mM) :=
  mbp (f_X10_isCube i1 M) fun v2 =>
  if v2 = 0 then (some ((-1), M))
  else (mgd (mIn (74 + i1) 1834) <|
  if i2 = 0 then (f_X10_dead_b28 i1 i2 (M.1 97 (Int32.toNatClampNeg (74 + i1))) 0 M)
  else (f_X10_dead_b28 i1 i2 (M.1 97 (Int32.toNatClampNeg (74 + i1))) 1 M))
def f_X10_charge (i1 : Int32) (i2 : Int32) (M : mM) : Option (Int32 × mM) :=
  mbp (f_X10_isCube i1 M) fun v2 =>
  if v2 = 0 then (some ((-1), M))
  else (if (f_X10_is i2 0 999) = 0 then (some ((-1), M))
  else (mgd (mIn (58 + i1) 1834) <|
  mlt (M.1 97 (Int32.toNatClampNeg (58 + i1))) fun x31 =>
  mgd (mIn (58 + i1) 1834) <|
  mlt (mI M 97 (Int32.toNatClampNeg (58 + i1)) i2) fun M41 =>
  some (x31, M41)))
def f_X10_east (i1 : Int32) : Int32 :=
  if i1 = 0 then (1)
  else (if i1 = 4 then (1)
  else (if i1 = 7 then (1)
  else (if i1 = 2 then ((-1))
  else (if i1 = 5 then ((-1))
  else (if i1 = 6 then ((-1))
  else (0))))))
def f_X10_north (i1 : Int32) : Int32 :=
  if i1 = 1 then (1)
  else (if i1 = 4 then (1)
  else (if i1 = 5 then (1)
  else (if i1 = 3 then ((-1))
  else (if i1 = 6 then ((-1))
  else (if i1 = 7 then ((-1))
  else (0))))))
def f_X10_isFree (i1 : Int32) (i2 : Int32) (M : mM) : Option Int32 :=
  if (f_X10_isCell i1 i2) = 0 then (some 0)
  else (mbp (f_X10_cubeAt i1 i2 M) fun v12 =>
  if 0 ≤ v12 then (some 0)
  else (some 1))
def f_X10_holds_b15 (i1 : Int32) (i2 : Int32) (i3 : Int32) (M : mM) : Option Int32 :=
  mbp (f_X10_cubeAt i1 i2 M) fun v18 =>
  if v18 < 0 then (some 0)
  else (mbp (f_X10_cubeAt i1 i2 M) fun v27 =>
  if v27 = i3 then (some 0)
  else (some 1))
def f_X10_holds (i1 : Int32) (i2 : Int32) (i3 : Int32) (M : mM) : Option Int32 :=
  if 0 ≤ i2 then (f_X10_holds_b15 i1 i2 i3 M)
  else (if (f_X10_is i1 0 9) = 0 then (f_X10_holds_b15 i1 i2 i3 M)
  else (some 1))
def f_X10_hasSide_b112 (i8 : Int32) (s0 : Int32) (M : mM) : Option Int32 :=
  if i8 = 0 then (if s0 = 0 then (some 0)
  else (some 1))
  else (some 1)
def f_X10_hasSide_b67 (i1 : Int32) (i2 : Int32) (i3 : Int32) (i4 : Int32) (i5 : Int32) (i6 : Int32) (i7 : Int32) (s0 : Int32) (M : mM) : Option Int32 :=
  mbp (f_X10_holds (i2 - i6) (i3 - i7) i1 M) fun v79 =>
  if v79 = 0 then (f_X10_hasSide_b112 s0 0 M)
  else (mbp (f_X10_holds ((i2 + i4) - i6) ((i3 + i5) - i7) i1 M) fun v101 =>
  if v101 = 0 then (f_X10_hasSide_b112 s0 0 M)
  else (f_X10_hasSide_b112 s0 1 M))
def f_X10_hasSide_b22 (i1 : Int32) (i2 : Int32) (i3 : Int32) (i4 : Int32) (i5 : Int32) (i6 : Int32) (s0 : Int32) (M : mM) : Option Int32 :=
  mbp (f_X10_holds (i2 + i6) (i3 + s0) i1 M) fun v34 =>
  if v34 = 0 then (f_X10_hasSide_b67 i1 i2 i3 i4 i5 i6 s0 0 M)
  else (mbp (f_X10_holds ((i2 + i4) + i6) ((i3 + i5) + s0) i1 M) fun v56 =>
  if v56 = 0 then (f_X10_hasSide_b67 i1 i2 i3 i4 i5 i6 s0 0 M)
  else (f_X10_hasSide_b67 i1 i2 i3 i4 i5 i6 s0 1 M))
def f_X10_hasSide_b10 (i1 : Int32) (i2 : Int32) (i3 : Int32) (i4 : Int32) (i5 : Int32) (s0 : Int32) (M : mM) : Option Int32 :=
  if i5 = 0 then (f_X10_hasSide_b22 i1 i2 i3 i4 i5 s0 1 M)
  else (f_X10_hasSide_b22 i1 i2 i3 i4 i5 s0 0 M)
def f_X10_hasSide (i1 : Int32) (i2 : Int32) (i3 : Int32) (i4 : Int32) (i5 : Int32) (M : mM) : Option Int32 :=
  if i4 = 0 then (f_X10_hasSide_b10 i1 i2 i3 i4 i5 1 M)
  else (f_X10_hasSide_b10 i1 i2 i3 i4 i5 0 M)
def f_X10_sets (i1 : Int32) (i2 : Int32) (i3 : Int32) (M : mM) : Option mM :=
  mgd (mIn (26 + i1) 1834) <|
  mgd (mIn (42 + i1) 1834) <|
  mgd (mIn ((8 * (M.1 97 (Int32.toNatClampNeg (26 + i1)))) + (M.1 97 (Int32.toNatClampNeg (42 + i1)))) 80) <|
  mlt (mI M 99 (Int32.toNatClampNeg ((8 * (M.1 97 (Int32.toNatClampNeg (26 + i1)))) + (M.1 97 (Int32.toNatClampNeg (42 + i1))))) 0) fun M27 =>
  mgd (mIn (26 + i1) 1834) <|
  mlt (mI M27 97 (Int32.toNatClampNeg (26 + i1)) i2) fun M37 =>
  mgd (mIn (42 + i1) 1834) <|
  mlt (mI M37 97 (Int32.toNatClampNeg (42 + i1)) i3) fun M47 =>
  mgd (mIn ((8 * i2) + i3) 80) <|
  mlt (mI M47 99 (Int32.toNatClampNeg ((8 * i2) + i3)) (i1 + 1)) fun M61 =>
  some M61
def f_X10_isMove (i1 : Int32) (M : mM) : Option Int32 :=
  if i1 < 0 then (some 0)
  else (mbp (f_X10_isCube (i1 / 8) M) fun v9 =>
  if v9 = 0 then (some 0)
  else (some 1))
def f_X10_canMove_b157 (i2 : Int32) (i4 : Int32) (i5 : Int32) (i6 : Int32) (i7 : Int32) (M : mM) : Option (Int32 × mM) :=
  mbp (f_X10_isWhole ((f_X10_everyone M) &&& ((1 <<< (i2 &&& 31)) ^^^ (-1))) M) fun v168 =>
  if v168 = 0 then (some (0, M))
  else (mbp (f_X10_sets i2 (i4 + i6) (i5 + i7) M) fun M188 =>
  mbp (f_X10_isWhole (f_X10_everyone M188) M188) fun v196 =>
  mbp (f_X10_sets i2 i4 i5 M188) fun M207 =>
  mgd (v196 = 0 ∨ v196 = 1) <|
  some (v196, M207))
def f_X10_canMove (i1 : Int32) (M : mM) : Option (Int32 × mM) :=
  mlt (i1 - i1 / 8 * 8) fun x9 =>
  mgd (mIn (26 + (i1 / 8)) 1834) <|
  mlt (M.1 97 (Int32.toNatClampNeg (26 + (i1 / 8)))) fun x19 =>
  mgd (mIn (42 + (i1 / 8)) 1834) <|
  mlt (M.1 97 (Int32.toNatClampNeg (42 + (i1 / 8)))) fun x30 =>
  mlt (f_X10_east x9) fun x37 =>
  mlt (f_X10_north x9) fun x44 =>
  mgd (mIn (74 + (i1 / 8)) 1834) <|
  if (M.1 97 (Int32.toNatClampNeg (74 + (i1 / 8)))) = 1 then (some (0, M))
  else (mgd (mIn (58 + (i1 / 8)) 1834) <|
  mgd (mIn (10 + (i1 / 8)) 1834) <|
  if (M.1 97 (Int32.toNatClampNeg (58 + (i1 / 8)))) < (f_X10_costOf (M.1 97 (Int32.toNatClampNeg (10 + (i1 / 8))))) then (some (0, M))
  else (mbp (f_X10_isFree (x19 + x37) (x30 + x44) M) fun v95 =>
  if v95 = 0 then (some (0, M))
  else (if 4 ≤ x9 then (mbp (f_X10_isFree x19 (x30 + x44) M) fun v135 =>
  if v135 = 0 then (some (0, M))
  else (mbp (f_X10_cubeAt (x19 + x37) x30 M) fun v149 =>
  if 0 ≤ v149 then (f_X10_canMove_b157 (i1 / 8) x19 x30 x37 x44 M)
  else (some (0, M))))
  else (mbp (f_X10_hasSide (i1 / 8) x19 x30 x37 x44 M) fun v118 =>
  if v118 = 0 then (some (0, M))
  else (f_X10_canMove_b157 (i1 / 8) x19 x30 x37 x44 M)))))
def f_X10_goes (i1 : Int32) (M : mM) : Option mM :=
  mgd (mIn (26 + (i1 / 8)) 1834) <|
  mgd (mIn (42 + (i1 / 8)) 1834) <|
  mbp (f_X10_sets (i1 / 8) ((M.1 97 (Int32.toNatClampNeg (26 + (i1 / 8)))) + (f_X10_east (i1 - i1 / 8 * 8))) ((M.1 97 (Int32.toNatClampNeg (42 + (i1 / 8)))) + (f_X10_north (i1 - i1 / 8 * 8))) M) fun M43 =>
  mgd (mIn (58 + (i1 / 8)) 1834) <|
  mgd (mIn (10 + (i1 / 8)) 1834) <|
  mgd (mIn (58 + (i1 / 8)) 1834) <|
  mlt (mI M43 97 (Int32.toNatClampNeg (58 + (i1 / 8))) ((M43.1 97 (Int32.toNatClampNeg (58 + (i1 / 8)))) - (f_X10_costOf (M43.1 97 (Int32.toNatClampNeg (10 + (i1 / 8))))))) fun M70 =>
  some M70
def f_X10_comesBack (i1 : Int32) (M : mM) : Option mM :=
  mgd (mIn (26 + (i1 / 8)) 1834) <|
  mgd (mIn (42 + (i1 / 8)) 1834) <|
  mbp (f_X10_sets (i1 / 8) ((M.1 97 (Int32.toNatClampNeg (26 + (i1 / 8)))) - (f_X10_east (i1 - i1 / 8 * 8))) ((M.1 97 (Int32.toNatClampNeg (42 + (i1 / 8)))) - (f_X10_north (i1 - i1 / 8 * 8))) M) fun M43 =>
  mgd (mIn (58 + (i1 / 8)) 1834) <|
  mgd (mIn (10 + (i1 / 8)) 1834) <|
  mgd (mIn (58 + (i1 / 8)) 1834) <|
  mlt (mI M43 97 (Int32.toNatClampNeg (58 + (i1 / 8))) ((M43.1 97 (Int32.toNatClampNeg (58 + (i1 / 8)))) + (f_X10_costOf (M43.1 97 (Int32.toNatClampNeg (10 + (i1 / 8))))))) fun M70 =>
  some M70
def f_X10_can (i1 : Int32) (M : mM) : Option (Int32 × mM) :=
  mbp (f_X10_isMove i1 M) fun v2 =>
  if v2 = 0 then (some ((-1), M))
  else (mbw (f_X10_canMove i1 M) fun v14 M14 =>
  if v14 = 0 then (some (0, M14))
  else (some (1, M14)))
def f_X10_move (i1 : Int32) (M : mM) : Option (Int32 × mM) :=
  mbp (f_X10_isMove i1 M) fun v2 =>
  if v2 = 0 then (some ((-1), M))
  else (mbw (f_X10_canMove i1 M) fun v12 M12 =>
  if v12 = 0 then (some ((-3), M12))
  else (mbp (f_X10_goes i1 M12) fun M23 =>
  mgd (mIn (58 + (i1 / 8)) 1834) <|
  some ((M23.1 97 (Int32.toNatClampNeg (58 + (i1 / 8)))), M23)))
def f_X10_moves_b4 : Nat → Int32 → Int32 → mM → Option (Int32 × mM)
  | 0, _, _, _ => none
  | n + 1, i1, i2, M =>
  if (8 * (M.1 97 0)) ≤ i2 then (some (i1, M))
  else (mbw (f_X10_canMove i2 M) fun v20 M20 =>
  if v20 = 0 then (mlt (i2 + 1) fun x33 =>
  f_X10_moves_b4 n (i1 + 0) x33 M20)
  else (mlt (i2 + 1) fun x33 =>
  f_X10_moves_b4 n (i1 + 1) x33 M20))
def f_X10_moves (M : mM) : Option (Int32 × mM) :=
  f_X10_moves_b4 mN 0 0 M
def f_X10_broken_b8 : Nat → Int32 → Int32 → mM → Option (Int32 × mM)
  | 0, _, _, _ => none
  | n + 1, i1, i2, M =>
  if (M.1 97 0) ≤ i2 then (some (i1, M))
  else (mbp (f_X10_isBroken i2 M) fun v21 =>
  if v21 = 0 then (mlt (i2 + 1) fun x34 =>
  f_X10_broken_b8 n (i1 + 0) x34 M)
  else (mlt (i2 + 1) fun x34 =>
  f_X10_broken_b8 n (i1 + 1) x34 M))
def f_X10_broken (M : mM) : Option (Int32 × mM) :=
  mbp (f_X10_findLoads M) fun M1 =>
  f_X10_broken_b8 mN 0 0 M1
def f_X10_next (M : mM) : Option Int32 :=
  if (M.1 96 10) < (M.1 96 9) then (if (M.1 96 11) = 0 then (mgd (mIn ((M.1 96 8) + (M.1 96 10)) 1834) <|
  some (M.1 97 (Int32.toNatClampNeg ((M.1 96 8) + (M.1 96 10)))))
  else (mgd (mIn (M.1 96 10) 90) <|
  some (M.1 101 (Int32.toNatClampNeg (M.1 96 10)))))
  else (some (-1))
def f_X10_begin_b61 (s1 : Int32) (M : mM) : Option mM :=
  mlt (mI M 96 9 s1) fun M61 =>
  mlt (mI M61 96 10 0) fun M66 =>
  some M66
def f_X10_begin_b33 (i1 : Int32) (s1 : Int32) (M : mM) : Option mM :=
  mlt (mI M 96 8 s1) fun M33 =>
  if (M33.1 96 11) = 0 then (mgd (mIn (138 + i1) 1834) <|
  f_X10_begin_b61 (M33.1 97 (Int32.toNatClampNeg (138 + i1))) M33)
  else (f_X10_begin_b61 (M33.1 96 7) M33)
def f_X10_begin_b10 (i1 : Int32) (s1 : Int32) (M : mM) : Option mM :=
  mgd (s1 = 0 ∨ s1 = 1) <|
  mlt (mI M 96 11 s1) fun M10 =>
  if (M10.1 96 11) = 0 then (f_X10_begin_b33 i1 (154 + (90 * i1)) M10)
  else (f_X10_begin_b33 i1 0 M10)
def f_X10_begin (i1 : Int32) (M : mM) : Option mM :=
  if 0 ≤ i1 then (f_X10_begin_b10 i1 0 M)
  else (f_X10_begin_b10 i1 1 M)
def f_X10_takes (i1 : Int32) (i2 : Int32) (M : mM) : Option (Int32 × mM) :=
  mbp (f_X10_next M) fun v2 =>
  if (f_X10_is v2 (48 + i1) (48 + i2)) = 0 then (some (0, M))
  else (mbp (f_X10_next M) fun v23 =>
  mlt (mI M 96 12 (v23 - 48)) fun M29 =>
  mlt (mI M29 96 10 ((M29.1 96 10) + 1)) fun M39 =>
  some (1, M39))
def f_X10_part_b150 (s1 : Int32) (s2 : Int32) (M : mM) : Option mM :=
  mgd (mIn s1 8) <|
  mlt (mI M 102 (Int32.toNatClampNeg s1) (vp_nar .boolean s2)) fun M150 =>
  some M150
def f_X10_part_b18 (s0 : Int32) (M : mM) : Option mM :=
  mgd (mIn (M.1 96 16) 8) <|
  mlt (mI M 103 (Int32.toNatClampNeg (M.1 96 16)) 0) fun M28 =>
  mgd (mIn (M28.1 96 16) 8) <|
  if (M28.1 104 (Int32.toNatClampNeg (M28.1 96 16))) = 0 then (f_X10_part_b150 (M28.1 96 16) s0 M28)
  else (mgd (mIn (M28.1 96 16) 8) <|
  if (M28.1 104 (Int32.toNatClampNeg (M28.1 96 16))) = 43 then (mgd (mIn (M28.1 96 16) 8) <|
  if (M28.1 102 (Int32.toNatClampNeg (M28.1 96 16))) = 0 then (if s0 = 0 then (f_X10_part_b150 (M28.1 96 16) 0 M28)
  else (f_X10_part_b150 (M28.1 96 16) 1 M28))
  else (f_X10_part_b150 (M28.1 96 16) 1 M28))
  else (mgd (mIn (M28.1 96 16) 8) <|
  if (M28.1 104 (Int32.toNatClampNeg (M28.1 96 16))) = 45 then (mgd (mIn (M28.1 96 16) 8) <|
  if (M28.1 102 (Int32.toNatClampNeg (M28.1 96 16))) = 0 then (f_X10_part_b150 (M28.1 96 16) 0 M28)
  else (if s0 = 0 then (f_X10_part_b150 (M28.1 96 16) 1 M28)
  else (f_X10_part_b150 (M28.1 96 16) 0 M28)))
  else (mgd (mIn (M28.1 96 16) 8) <|
  if (M28.1 102 (Int32.toNatClampNeg (M28.1 96 16))) = 0 then (f_X10_part_b150 (M28.1 96 16) 0 M28)
  else (if s0 = 0 then (f_X10_part_b150 (M28.1 96 16) 0 M28)
  else (f_X10_part_b150 (M28.1 96 16) 1 M28)))))
def f_X10_part (i1 : Int32) (M : mM) : Option mM :=
  mgd (mIn (M.1 96 16) 8) <|
  if i1 = (M.1 103 (Int32.toNatClampNeg (M.1 96 16))) then (f_X10_part_b18 0 M)
  else (f_X10_part_b18 1 M)
def f_X10_open (M : mM) : Option mM :=
  mgd (mIn (M.1 96 16) 8) <|
  mlt (mI M 104 (Int32.toNatClampNeg (M.1 96 16)) 0) fun M9 =>
  mgd (mIn (M9.1 96 16) 8) <|
  mlt (mI M9 103 (Int32.toNatClampNeg (M9.1 96 16)) 0) fun M19 =>
  mgd (mIn (M19.1 96 16) 8) <|
  mlt (mI M19 102 (Int32.toNatClampNeg (M19.1 96 16)) 0) fun M29 =>
  some M29
def f_X10_takesBox_b172 (s1 : Int32) (M : mM) : Option (Int32 × mM) :=
  mbp (f_X10_part s1 M) fun M172 =>
  some (1, M172)
def f_X10_takesBox_b124 (i1 : Int32) (i2 : Int32) (i3 : Int32) (i4 : Int32) (i5 : Int32) (i6 : Int32) (s0 : Int32) (M : mM) : Option (Int32 × mM) :=
  if i3 = 0 then (f_X10_takesBox_b172 s0 M)
  else (if s0 = 0 then (f_X10_takesBox_b172 0 M)
  else (if i1 = i4 then (f_X10_takesBox_b172 1 M)
  else (if i1 = i6 then (f_X10_takesBox_b172 1 M)
  else (if i2 = i5 then (f_X10_takesBox_b172 1 M)
  else (if i2 = (M.1 96 12) then (f_X10_takesBox_b172 1 M)
  else (f_X10_takesBox_b172 0 M))))))
def f_X10_takesBox_b14 (i1 : Int32) (i2 : Int32) (s0 : Int32) (M : mM) : Option (Int32 × mM) :=
  mlt (mI M 96 10 ((M.1 96 10) + 1)) fun M22 =>
  mbw (f_X10_takes 0 9 M22) fun v29 M29 =>
  if v29 = 0 then (some (0, M29))
  else (mbw (f_X10_takes 0 7 M29) fun v47 M47 =>
  if v47 = 0 then (some (0, M47))
  else (mbw (f_X10_takes (M29.1 96 12) 9 M47) fun v66 M66 =>
  if v66 = 0 then (some (0, M66))
  else (mbw (f_X10_takes (M47.1 96 12) 7 M66) fun v85 M85 =>
  if v85 = 0 then (some (0, M85))
  else (if (f_X10_is i1 (M29.1 96 12) (M66.1 96 12)) = 0 then (f_X10_takesBox_b124 i1 i2 s0 (M29.1 96 12) (M47.1 96 12) (M66.1 96 12) 0 M85)
  else (if (f_X10_is i2 (M47.1 96 12) (M85.1 96 12)) = 0 then (f_X10_takesBox_b124 i1 i2 s0 (M29.1 96 12) (M47.1 96 12) (M66.1 96 12) 0 M85)
  else (f_X10_takesBox_b124 i1 i2 s0 (M29.1 96 12) (M47.1 96 12) (M66.1 96 12) 1 M85))))))
def f_X10_takesBox (i1 : Int32) (i2 : Int32) (M : mM) : Option (Int32 × mM) :=
  mbp (f_X10_next M) fun v1 =>
  if v1 = 111 then (f_X10_takesBox_b14 i1 i2 1 M)
  else (f_X10_takesBox_b14 i1 i2 0 M)
def f_X10_goesShape_b245 (k17 : Int32 → Int32 → Int32 → mM → Option (Int32 × mM)) (i2 : Int32) (i3 : Int32) (i4 : Int32) (M : mM) : Option (Int32 × mM) :=
  mlt (mI M 96 10 ((M.1 96 10) + 1)) fun M252 =>
  k17 i2 i3 i4 M252
def f_X10_goesShape_b226 (k17 : Int32 → Int32 → Int32 → mM → Option (Int32 × mM)) (i2 : Int32) (i3 : Int32) (i5 : Int32) (M : mM) : Option (Int32 × mM) :=
  mgd (mIn (M.1 96 16) 8) <|
  mlt (mI M 104 (Int32.toNatClampNeg (M.1 96 16)) i5) fun M236 =>
  f_X10_goesShape_b245 k17 i2 i3 1 M236
def f_X10_goesShape_b205 (k17 : Int32 → Int32 → Int32 → mM → Option (Int32 × mM)) (i2 : Int32) (i3 : Int32) (i5 : Int32) (M : mM) : Option (Int32 × mM) :=
  if i5 = 43 then (f_X10_goesShape_b226 k17 i2 i3 i5 M)
  else (if i5 = 45 then (f_X10_goesShape_b226 k17 i2 i3 i5 M)
  else (if i5 = 38 then (f_X10_goesShape_b226 k17 i2 i3 i5 M)
  else (some (0, M))))
def f_X10_goesShape_b144 (k17 : Int32 → Int32 → Int32 → mM → Option (Int32 × mM)) (i2 : Int32) (i3 : Int32) (M : mM) : Option (Int32 × mM) :=
  mbw (f_X10_takesBox i2 i3 M) fun v147 M147 =>
  if v147 = 0 then (some (0, M147))
  else (k17 i2 i3 0 M147)
def f_X10_goesShape_b71 (k17 : Int32 → Int32 → Int32 → mM → Option (Int32 × mM)) (i2 : Int32) (i3 : Int32) (i4 : Int32) (s1 : Int32) (s2 : Int32) (M : mM) : Option (Int32 × mM) :=
  mgd (mIn s1 8) <|
  mlt (mI M 103 (Int32.toNatClampNeg s1) (vp_nar .boolean s2)) fun M71 =>
  mlt (mI M71 96 10 ((M71.1 96 10) + 1)) fun M79 =>
  k17 i2 i3 i4 M79
def f_X10_goesShape_b17 : Nat → Int32 → Int32 → Int32 → mM → Option (Int32 × mM)
  | 0, _, _, _, _ => none
  | n + 1, i2, i3, i4, M =>
  if (M.1 96 9) ≤ (M.1 96 10) then (if i4 = 0 then (if (M.1 96 16) = 0 then (some (1, M))
  else (some (0, M)))
  else (some (0, M)))
  else (mbp (f_X10_next M) fun v29 =>
  if i4 = 0 then (if v29 = 41 then (if (M.1 96 16) ≤ 0 then (f_X10_goesShape_b205 (f_X10_goesShape_b17 n) i2 i3 v29 M)
  else (mgd (mIn (M.1 96 16) 8) <|
  mlt (M.1 102 (Int32.toNatClampNeg (M.1 96 16))) fun x184 =>
  mlt (mI M 96 16 ((M.1 96 16) - 1)) fun M193 =>
  mbp (f_X10_part x184 M193) fun M199 =>
  f_X10_goesShape_b245 (f_X10_goesShape_b17 n) i2 i3 i4 M199))
  else (f_X10_goesShape_b205 (f_X10_goesShape_b17 n) i2 i3 v29 M))
  else (if v29 = 33 then (mgd (mIn (M.1 96 16) 8) <|
  if (M.1 103 (Int32.toNatClampNeg (M.1 96 16))) = 0 then (f_X10_goesShape_b71 (f_X10_goesShape_b17 n) i2 i3 i4 (M.1 96 16) 1 M)
  else (f_X10_goesShape_b71 (f_X10_goesShape_b17 n) i2 i3 i4 (M.1 96 16) 0 M))
  else (if v29 = 40 then (if (M.1 96 16) = 6 then (some (0, M))
  else (mlt (mI M 96 16 ((M.1 96 16) + 1)) fun M110 =>
  mbp (f_X10_open M110) fun M114 =>
  mlt (mI M114 96 10 ((M114.1 96 10) + 1)) fun M124 =>
  f_X10_goesShape_b17 n i2 i3 i4 M124))
  else (if v29 = 98 then (f_X10_goesShape_b144 (f_X10_goesShape_b17 n) i2 i3 M)
  else (if v29 = 111 then (f_X10_goesShape_b144 (f_X10_goesShape_b17 n) i2 i3 M)
  else (some (0, M)))))))
def f_X10_goesShape (i1 : Int32) (i2 : Int32) (i3 : Int32) (M : mM) : Option (Int32 × mM) :=
  mbp (f_X10_begin i1 M) fun M2 =>
  mlt (mI M2 96 16 0) fun M7 =>
  mbp (f_X10_open M7) fun M11 =>
  f_X10_goesShape_b17 mN i2 i3 1 M11
def f_X10_fieldOf_b105 (i1 : Int32) (i2 : Int32) (i3 : Int32) (i4 : Int32) (i5 : Int32) (s0 : Int32) (M : mM) : Option Int32 :=
  mbp (f_X10_cubeAt (i3 + i5) (i4 + s0) M) fun v117 =>
  if 0 ≤ i2 then (if i1 = 112 then (mgd (mIn (58 + i2) 1834) <|
  some (M.1 97 (Int32.toNatClampNeg (58 + i2))))
  else (if i1 = 116 then (some ((M.1 97 5) - (M.1 97 5) / 10 * 10))
  else (if i1 = 109 then (mgd (mIn (90 + i2) 1834) <|
  some (M.1 97 (Int32.toNatClampNeg (90 + i2))))
  else (if 0 ≤ v117 then (if i1 ≤ 96 then (mgd (mIn (106 + v117) 1834) <|
  some (M.1 97 (Int32.toNatClampNeg (106 + v117))))
  else (some 1))
  else (some 0)))))
  else (some 0)
def f_X10_fieldOf_b70 (i1 : Int32) (i2 : Int32) (i3 : Int32) (i4 : Int32) (s0 : Int32) (M : mM) : Option Int32 :=
  if i1 = 110 then (f_X10_fieldOf_b105 i1 i2 i3 i4 s0 1 M)
  else (if i1 = 78 then (f_X10_fieldOf_b105 i1 i2 i3 i4 s0 1 M)
  else (if i1 = 115 then (f_X10_fieldOf_b105 i1 i2 i3 i4 s0 (-1) M)
  else (if i1 = 83 then (f_X10_fieldOf_b105 i1 i2 i3 i4 s0 (-1) M)
  else (f_X10_fieldOf_b105 i1 i2 i3 i4 s0 0 M))))
def f_X10_fieldOf_b35 (i1 : Int32) (i2 : Int32) (i3 : Int32) (s0 : Int32) (M : mM) : Option Int32 :=
  if i1 = 101 then (f_X10_fieldOf_b70 i1 i2 i3 s0 1 M)
  else (if i1 = 69 then (f_X10_fieldOf_b70 i1 i2 i3 s0 1 M)
  else (if i1 = 119 then (f_X10_fieldOf_b70 i1 i2 i3 s0 (-1) M)
  else (if i1 = 87 then (f_X10_fieldOf_b70 i1 i2 i3 s0 (-1) M)
  else (f_X10_fieldOf_b70 i1 i2 i3 s0 0 M))))
def f_X10_fieldOf_b17 (i1 : Int32) (i2 : Int32) (s0 : Int32) (M : mM) : Option Int32 :=
  if 0 ≤ i2 then (mgd (mIn (42 + i2) 1834) <|
  f_X10_fieldOf_b35 i1 i2 s0 (M.1 97 (Int32.toNatClampNeg (42 + i2))) M)
  else (f_X10_fieldOf_b35 i1 i2 s0 0 M)
def f_X10_fieldOf (i1 : Int32) (i2 : Int32) (M : mM) : Option Int32 :=
  if 0 ≤ i2 then (mgd (mIn (26 + i2) 1834) <|
  f_X10_fieldOf_b17 i1 i2 (M.1 97 (Int32.toNatClampNeg (26 + i2))) M)
  else (f_X10_fieldOf_b17 i1 i2 0 M)
def f_X10_isField (i1 : Int32) : Int32 :=
  if i1 = 110 then (1)
  else (if i1 = 101 then (1)
  else (if i1 = 115 then (1)
  else (if i1 = 119 then (1)
  else (if i1 = 78 then (1)
  else (if i1 = 69 then (1)
  else (if i1 = 83 then (1)
  else (if i1 = 87 then (1)
  else (if i1 = 112 then (1)
  else (if i1 = 116 then (1)
  else (if i1 = 109 then (1)
  else (0)))))))))))
def f_X10_takesAtom (i1 : Int32) (M : mM) : Option (Int32 × mM) :=
  mbp (f_X10_next M) fun v1 =>
  if (f_X10_isField v1) = 0 then (mbw (f_X10_takes 0 9 M) fun v39 M39 =>
  if v39 = 0 then (some (0, M39))
  else (mlt (mI M39 96 22 (M39.1 96 12)) fun M52 =>
  if (M52.1 96 22) ≤ 0 then (some (1, M52))
  else (mbp (f_X10_next M52) fun v64 =>
  if (f_X10_is v64 48 57) = 0 then (some (1, M52))
  else (mbp (f_X10_next M52) fun v86 =>
  mlt (mI M52 96 22 (((10 * (M52.1 96 22)) + v86) - 48)) fun M93 =>
  mlt (mI M93 96 10 ((M93.1 96 10) + 1)) fun M103 =>
  some (1, M103)))))
  else (mbp (f_X10_fieldOf v1 i1 M) fun v17 =>
  mlt (mI M 96 22 v17) fun M20 =>
  mlt (mI M20 96 10 ((M20.1 96 10) + 1)) fun M30 =>
  some (1, M30))
def f_X10_takesSum_b92 (k18 : Int32 → mM → Option (Int32 × mM)) (i1 : Int32) (s1 : Int32) (s2 : Int32) (M : mM) : Option (Int32 × mM) :=
  mlt (mI M 96 17 (s1 + s2)) fun M93 =>
  k18 i1 M93
def f_X10_takesSum_b50 (k18 : Int32 → mM → Option (Int32 × mM)) (i1 : Int32) (s0 : Int32) (M : mM) : Option (Int32 × mM) :=
  mlt (mI M 96 10 ((M.1 96 10) + 1)) fun M58 =>
  mbw (f_X10_takesAtom i1 M58) fun v63 M63 =>
  if v63 = 0 then (some (0, M63))
  else (if s0 = 0 then (f_X10_takesSum_b92 k18 i1 (M63.1 96 17) (-(M63.1 96 22)) M63)
  else (f_X10_takesSum_b92 k18 i1 (M63.1 96 17) (M63.1 96 22) M63))
def f_X10_takesSum_b36 (k18 : Int32 → mM → Option (Int32 × mM)) (i1 : Int32) (M : mM) : Option (Int32 × mM) :=
  mbp (f_X10_next M) fun v37 =>
  if v37 = 43 then (f_X10_takesSum_b50 k18 i1 1 M)
  else (f_X10_takesSum_b50 k18 i1 0 M)
def f_X10_takesSum_b18 : Nat → Int32 → mM → Option (Int32 × mM)
  | 0, _, _ => none
  | n + 1, i1, M =>
  mbp (f_X10_next M) fun v19 =>
  if v19 = 43 then (f_X10_takesSum_b36 (f_X10_takesSum_b18 n) i1 M)
  else (mbp (f_X10_next M) fun v28 =>
  if v28 = 45 then (f_X10_takesSum_b36 (f_X10_takesSum_b18 n) i1 M)
  else (some (1, M)))
def f_X10_takesSum (i1 : Int32) (M : mM) : Option (Int32 × mM) :=
  mbw (f_X10_takesAtom i1 M) fun v2 M2 =>
  if v2 = 0 then (some (0, M2))
  else (mlt (mI M2 96 17 (M2.1 96 22)) fun M15 =>
  f_X10_takesSum_b18 mN i1 M15)
def f_X10_takesTest_b149 (k7 : Int32 → Int32 → mM → Option (Int32 × mM)) (i1 : Int32) (s0 : Int32) (M : mM) : Option (Int32 × mM) :=
  if s0 = 0 then (k7 i1 s0 M)
  else (mlt (mI M 96 10 ((M.1 96 10) + 1)) fun M161 =>
  k7 i1 s0 M161)
def f_X10_takesTest_b132 (k7 : Int32 → Int32 → mM → Option (Int32 × mM)) (i1 : Int32) (s1 : Int32) (M : mM) : Option (Int32 × mM) :=
  mgd (s1 = 0 ∨ s1 = 1) <|
  mlt (mI M 96 21 s1) fun M132 =>
  mbp (f_X10_next M132) fun v136 =>
  if v136 = 38 then (f_X10_takesTest_b149 k7 i1 1 M132)
  else (f_X10_takesTest_b149 k7 i1 0 M132)
def f_X10_takesTest_b55 (k7 : Int32 → Int32 → mM → Option (Int32 × mM)) (i1 : Int32) (i3 : Int32) (i4 : Int32) (M : mM) : Option (Int32 × mM) :=
  mlt (mI M 96 10 ((M.1 96 10) + 1)) fun M62 =>
  mbw (f_X10_takesSum i1 M62) fun v67 M67 =>
  if v67 = 0 then (some (0, M67))
  else (if (M67.1 96 21) = 0 then (f_X10_takesTest_b132 k7 i1 0 M67)
  else (if i4 = 60 then (if (M67.1 96 17) ≤ i3 then (f_X10_takesTest_b132 k7 i1 0 M67)
  else (f_X10_takesTest_b132 k7 i1 1 M67))
  else (if i4 = 61 then (if i3 = (M67.1 96 17) then (f_X10_takesTest_b132 k7 i1 1 M67)
  else (f_X10_takesTest_b132 k7 i1 0 M67))
  else (if i3 ≤ (M67.1 96 17) then (f_X10_takesTest_b132 k7 i1 0 M67)
  else (f_X10_takesTest_b132 k7 i1 1 M67)))))
def f_X10_takesTest_b7 : Nat → Int32 → Int32 → mM → Option (Int32 × mM)
  | 0, _, _, _ => none
  | n + 1, i1, i2, M =>
  if i2 = 0 then (some (1, M))
  else (mbw (f_X10_takesSum i1 M) fun v13 M13 =>
  if v13 = 0 then (some (0, M13))
  else (mbp (f_X10_next M13) fun v27 =>
  if v27 = 60 then (f_X10_takesTest_b55 (f_X10_takesTest_b7 n) i1 (M13.1 96 17) v27 M13)
  else (if v27 = 61 then (f_X10_takesTest_b55 (f_X10_takesTest_b7 n) i1 (M13.1 96 17) v27 M13)
  else (if v27 = 62 then (f_X10_takesTest_b55 (f_X10_takesTest_b7 n) i1 (M13.1 96 17) v27 M13)
  else (some (0, M13))))))
def f_X10_takesTest (i1 : Int32) (M : mM) : Option (Int32 × mM) :=
  mlt (mI M 96 21 1) fun M2 =>
  f_X10_takesTest_b7 mN i1 1 M2
def f_X10_takesAct_b117 (s1 : Int32) (M : mM) : Option (Int32 × mM) :=
  mlt (mI M 96 20 s1) fun M117 =>
  some (1, M117)
def f_X10_takesAct_b64 (i2 : Int32) (i3 : Int32) (M : mM) : Option (Int32 × mM) :=
  if (M.1 96 21) = 0 then (some (1, M))
  else (if (M.1 96 18) < 0 then (mlt (mI M 96 18 i2) fun M82 =>
  mlt (mI M82 96 19 i3) fun M87 =>
  if i3 = 103 then (f_X10_takesAct_b117 (M87.1 96 12) M87)
  else (f_X10_takesAct_b117 ((((M87.1 96 17) - (M87.1 96 17) / 100 * 100) + 100) - (((M87.1 96 17) - (M87.1 96 17) / 100 * 100) + 100) / 100 * 100) M87))
  else (some (1, M)))
def f_X10_takesAct_b25 (i1 : Int32) (i2 : Int32) (i3 : Int32) (M : mM) : Option (Int32 × mM) :=
  mlt (mI M 96 10 ((M.1 96 10) + 1)) fun M32 =>
  if i3 = 103 then (mbw (f_X10_takes 0 7 M32) fun v45 M45 =>
  if v45 = 0 then (some (0, M45))
  else (f_X10_takesAct_b64 i2 i3 M45))
  else (mbw (f_X10_takesSum i1 M32) fun v56 M56 =>
  if v56 = 0 then (some (0, M56))
  else (f_X10_takesAct_b64 i2 i3 M56))
def f_X10_takesAct (i1 : Int32) (i2 : Int32) (M : mM) : Option (Int32 × mM) :=
  mbp (f_X10_next M) fun v1 =>
  if v1 = 103 then (f_X10_takesAct_b25 i1 i2 v1 M)
  else (if v1 = 121 then (f_X10_takesAct_b25 i1 i2 v1 M)
  else (if v1 = 61 then (f_X10_takesAct_b25 i1 i2 v1 M)
  else (some (0, M))))
def f_X10_goesProgram_b13 : Nat → Int32 → Int32 → mM → Option (Int32 × mM)
  | 0, _, _, _ => none
  | n + 1, i2, i3, M =>
  if (M.1 96 9) ≤ (M.1 96 10) then (if i3 ≤ 0 then (some (0, M))
  else (some (1, M)))
  else (if i3 = 6 then (some (0, M))
  else (mbw (f_X10_takesTest i2 M) fun v32 M32 =>
  if v32 = 0 then (some (0, M32))
  else (mbp (f_X10_next M32) fun v39 =>
  if v39 = 63 then (mlt (mI M32 96 10 ((M32.1 96 10) + 1)) fun M56 =>
  mbw (f_X10_takesAct i2 i3 M56) fun v62 M62 =>
  if v62 = 0 then (some (0, M62))
  else (mbp (f_X10_next M62) fun v69 =>
  if v69 = 59 then (mlt (mI M62 96 10 ((M62.1 96 10) + 1)) fun M86 =>
  mlt (i3 + 1) fun x89 =>
  f_X10_goesProgram_b13 n i2 x89 M86)
  else (some (0, M62))))
  else (some (0, M32)))))
def f_X10_goesProgram (i1 : Int32) (i2 : Int32) (M : mM) : Option (Int32 × mM) :=
  mbp (f_X10_begin i1 M) fun M2 =>
  mlt (mI M2 96 18 (-4)) fun M8 =>
  f_X10_goesProgram_b13 mN i2 0 M8
def f_X10_lacksText (i1 : Int32) (M : mM) : Option Int32 :=
  if (f_X10_is i1 0 7) = 0 then (some (-1))
  else (mgd (mIn i1 8) <|
  if (M.1 108 (Int32.toNatClampNeg i1)) = 0 then (some (-11))
  else (mgd (mIn i1 8) <|
  if (M.1 108 (Int32.toNatClampNeg i1)) = 2 then (mgd (mIn i1 8) <|
  if (M.1 113 (Int32.toNatClampNeg i1)) = 0 then (some 0)
  else (some (-12)))
  else (some (-12))))
def f_X10_bring_b12 : Nat → Int32 → Int32 → mM → Option mM
  | 0, _, _, _ => none
  | n + 1, i1, i2, M =>
  mgd (mIn i1 8) <|
  if (M.1 114 (Int32.toNatClampNeg i1)) ≤ i2 then (some M)
  else (mgd (mIn ((90 * i1) + i2) 720) <|
  mgd (mIn i2 90) <|
  mlt (mI M 101 (Int32.toNatClampNeg i2) (M.1 115 (Int32.toNatClampNeg ((90 * i1) + i2)))) fun M38 =>
  mlt (i2 + 1) fun x39 =>
  f_X10_bring_b12 n i1 x39 M38)
def f_X10_bring (i1 : Int32) (M : mM) : Option mM :=
  mgd (mIn i1 8) <|
  mlt (mI M 96 7 (M.1 114 (Int32.toNatClampNeg i1))) fun M7 =>
  f_X10_bring_b12 mN i1 0 M7
def f_X10_fault (i1 : Int32) (i2 : Int32) (M : mM) : Option (Int32 × mM) :=
  if (f_X10_is i2 0 1) = 0 then (some ((-1), M))
  else (mbp (f_X10_lacksText i1 M) fun v14 =>
  if v14 = 0 then (mbp (f_X10_bring i1 M) fun M28 =>
  if i2 = 0 then (mbw (f_X10_goesShape (-1) 0 0 M28) fun v39 M39 =>
  if v39 = 0 then (some ((M39.1 96 10), M39))
  else (some ((-4), M39)))
  else (mbw (f_X10_goesProgram (-1) (-1) M28) fun v51 M51 =>
  if v51 = 0 then (some ((M51.1 96 10), M51))
  else (some ((-4), M51))))
  else (mbp (f_X10_lacksText i1 M) fun v22 =>
  some (v22, M)))
def f_X10_keepText_b16 : Nat → Int32 → Int32 → Int32 → mM → Option (Int32 × mM)
  | 0, _, _, _, _ => none
  | n + 1, i1, i2, i3, M =>
  if (M.1 96 7) ≤ i3 then (mgd (mIn i1 1834) <|
  mgd (mIn i1 1834) <|
  mlt (mI M 97 (Int32.toNatClampNeg i1) ((M.1 97 (Int32.toNatClampNeg i1)) + 1)) fun M60 =>
  mgd (mIn i1 1834) <|
  some (((M60.1 97 (Int32.toNatClampNeg i1)) - 1), M60))
  else (mgd (mIn i3 90) <|
  mgd (mIn ((154 + (90 * i2)) + i3) 1834) <|
  mlt (mI M 97 (Int32.toNatClampNeg ((154 + (90 * i2)) + i3)) (M.1 101 (Int32.toNatClampNeg i3))) fun M44 =>
  mlt (i3 + 1) fun x45 =>
  f_X10_keepText_b16 n i1 i2 x45 M44)
def f_X10_keepText (i1 : Int32) (i2 : Int32) (M : mM) : Option (Int32 × mM) :=
  mgd (mIn (138 + i2) 1834) <|
  mlt (mI M 97 (Int32.toNatClampNeg (138 + i2)) (M.1 96 7)) fun M13 =>
  f_X10_keepText_b16 mN i1 i2 0 M13
def f_X10_shape (i1 : Int32) (M : mM) : Option (Int32 × mM) :=
  if (f_X10_is i1 0 7) = 0 then (some ((-1), M))
  else (if (M.1 97 1) = 8 then (some ((-2), M))
  else (mbp (f_X10_lacksText i1 M) fun v29 =>
  if v29 = 0 then (mbp (f_X10_bring i1 M) fun M43 =>
  mbw (f_X10_goesShape (-1) 0 0 M43) fun v50 M50 =>
  if v50 = 0 then (some (((-100) - (M50.1 96 10)), M50))
  else (mbw (f_X10_keepText 1 (M50.1 97 1) M50) fun v64 M64 =>
  some (v64, M64)))
  else (mbp (f_X10_lacksText i1 M) fun v37 =>
  some (v37, M))))
def f_X10_program (i1 : Int32) (M : mM) : Option (Int32 × mM) :=
  if (f_X10_is i1 0 7) = 0 then (some ((-1), M))
  else (if (M.1 97 2) = 8 then (some ((-2), M))
  else (mbp (f_X10_lacksText i1 M) fun v29 =>
  if v29 = 0 then (mbp (f_X10_bring i1 M) fun M43 =>
  mbw (f_X10_goesProgram (-1) (-1) M43) fun v49 M49 =>
  if v49 = 0 then (some (((-100) - (M49.1 96 10)), M49))
  else (mbw (f_X10_keepText 2 (8 + (M49.1 97 2)) M49) fun v66 M66 =>
  some (v66, M66)))
  else (mbp (f_X10_lacksText i1 M) fun v37 =>
  some (v37, M))))
def f_X10_isShape (i1 : Int32) (M : mM) : Option Int32 :=
  mgd ((f_X10_is i1 0 ((M.1 97 1) - 1)) = 0 ∨ (f_X10_is i1 0 ((M.1 97 1) - 1)) = 1) <|
  some (f_X10_is i1 0 ((M.1 97 1) - 1))
def f_X10_isIn (i1 : Int32) (i2 : Int32) (i3 : Int32) (M : mM) : Option (Int32 × mM) :=
  mbw (f_X10_goesShape i1 i2 i3 M) fun v4 M4 =>
  if v4 = 0 then (some (0, M4))
  else (if (M4.1 102 0) = 0 then (some (0, M4))
  else (some (1, M4)))
def f_X10_in (i1 : Int32) (i2 : Int32) (i3 : Int32) (M : mM) : Option (Int32 × mM) :=
  mbp (f_X10_isShape i1 M) fun v2 =>
  if v2 = 0 then (some ((-1), M))
  else (if (f_X10_isCell i2 i3) = 0 then (some ((-1), M))
  else (mbw (f_X10_isIn i1 i2 i3 M) fun v25 M25 =>
  if v25 = 0 then (some (0, M25))
  else (some (1, M25))))
def f_X10_findGoal_b51 (k7 : Int32 → Int32 → mM → Option mM) (i1 : Int32) (i2 : Int32) (s1 : Int32) (s2 : Int32) (M : mM) : Option mM :=
  mlt (mI M 96 24 (s1 + s2)) fun M52 =>
  mlt (i2 + 1) fun x55 =>
  k7 i1 x55 M52
def f_X10_findGoal_b7 : Nat → Int32 → Int32 → mM → Option mM
  | 0, _, _, _ => none
  | n + 1, i1, i2, M =>
  if 80 ≤ i2 then (some M)
  else (mbw (f_X10_isIn i1 (i2 / 8) (i2 - i2 / 8 * 8) M) fun v28 M28 =>
  mgd (mIn i2 80) <|
  mlt (mI M28 105 (Int32.toNatClampNeg i2) (vp_nar .boolean v28)) fun M31 =>
  mgd (mIn i2 80) <|
  if (M31.1 105 (Int32.toNatClampNeg i2)) = 0 then (f_X10_findGoal_b51 (f_X10_findGoal_b7 n) i1 i2 (M31.1 96 24) 0 M31)
  else (f_X10_findGoal_b51 (f_X10_findGoal_b7 n) i1 i2 (M31.1 96 24) 1 M31))
def f_X10_findGoal (i1 : Int32) (M : mM) : Option mM :=
  mlt (mI M 96 24 0) fun M2 =>
  f_X10_findGoal_b7 mN i1 0 M2
def f_X10_outside_b4 : Nat → Int32 → Int32 → mM → Option Int32
  | 0, _, _, _ => none
  | n + 1, i1, i2, M =>
  if (M.1 97 0) ≤ i2 then (some i1)
  else (mgd (mIn (26 + i2) 1834) <|
  mgd (mIn (42 + i2) 1834) <|
  mgd (mIn ((8 * (M.1 97 (Int32.toNatClampNeg (26 + i2)))) + (M.1 97 (Int32.toNatClampNeg (42 + i2)))) 80) <|
  if (M.1 105 (Int32.toNatClampNeg ((8 * (M.1 97 (Int32.toNatClampNeg (26 + i2)))) + (M.1 97 (Int32.toNatClampNeg (42 + i2)))))) = 0 then (mlt (i2 + 1) fun x52 =>
  f_X10_outside_b4 n (i1 + 1) x52 M)
  else (mlt (i2 + 1) fun x52 =>
  f_X10_outside_b4 n (i1 + 0) x52 M))
def f_X10_outside (M : mM) : Option Int32 :=
  f_X10_outside_b4 mN 0 0 M
def f_X10_met (i1 : Int32) (i2 : Int32) (M : mM) : Option (Int32 × mM) :=
  mbp (f_X10_isShape i1 M) fun v2 =>
  if v2 = 0 then (some ((-1), M))
  else (if (f_X10_is i2 0 3) = 0 then (some ((-1), M))
  else (mbp (f_X10_findGoal i1 M) fun M22 =>
  mbp (f_X10_outside M22) fun v36 =>
  mlt ((M22.1 96 24) - ((M22.1 97 0) - v36)) fun x41 =>
  if i2 = 0 then (some ((M22.1 96 24), M22))
  else (if i2 = 1 then (some (x41, M22))
  else (if i2 = 2 then (mbp (f_X10_outside M22) fun v68 =>
  some (v68, M22))
  else (if x41 = 0 then (mbp (f_X10_outside M22) fun v79 =>
  if v79 = 0 then (some (1, M22))
  else (some (0, M22)))
  else (some (0, M22)))))))
def f_X10_isPlan_b200 : Nat → Int32 → Int32 → mM → Option (Int32 × mM)
  | 0, _, _, _ => none
  | n + 1, i3, i4, M =>
  if i4 < 0 then (mgd (i3 = 0 ∨ i3 = 1) <|
  some (i3, M))
  else (mgd (mIn i4 4) <|
  mbp (f_X10_comesBack (M.1 106 (Int32.toNatClampNeg i4)) M) fun M213 =>
  mlt (i4 + (-1)) fun x216 =>
  f_X10_isPlan_b200 n i3 x216 M213)
def f_X10_isPlan_b191 (i1 : Int32) (i3 : Int32) (M : mM) : Option (Int32 × mM) :=
  if i3 = 0 then (mgd (i3 = 0 ∨ i3 = 1) <|
  some (i3, M))
  else (f_X10_isPlan_b200 mN i3 (i1 - 1) M)
def f_X10_isPlan_b91 (k43 : Int32 → Int32 → Int32 → mM → Option (Int32 × mM)) (i1 : Int32) (i2 : Int32) (i3 : Int32) (s0 : Int32) (s1 : Int32) (s2 : Int32) (M : mM) : Option (Int32 × mM) :=
  if s0 < (s1 * s2) then (mgd (mIn i2 4) <|
  mbw (f_X10_canMove (M.1 106 (Int32.toNatClampNeg i2)) M) fun v122 M122 =>
  if v122 = 0 then (k43 i1 i2 i3 M122)
  else (mgd (mIn i2 4) <|
  mbp (f_X10_goes (M122.1 106 (Int32.toNatClampNeg i2)) M122) fun M138 =>
  mbp (f_X10_outside M138) fun v142 =>
  if v142 ≤ ((i1 - 1) - i2) then (if i2 = (i1 - 1) then (k43 i1 i2 1 M138)
  else (mlt (i2 + 1) fun x178 =>
  mgd (mIn x178 4) <|
  mlt (mI M138 106 (Int32.toNatClampNeg x178) (-1)) fun M187 =>
  k43 i1 x178 i3 M187))
  else (mgd (mIn i2 4) <|
  mbp (f_X10_comesBack (M138.1 106 (Int32.toNatClampNeg i2)) M138) fun M160 =>
  k43 i1 i2 i3 M160)))
  else (mlt (i2 + (-1)) fun x95 =>
  if x95 < 0 then (k43 i1 x95 i3 M)
  else (mgd (mIn x95 4) <|
  mbp (f_X10_comesBack (M.1 106 (Int32.toNatClampNeg x95)) M) fun M109 =>
  k43 i1 x95 i3 M109))
def f_X10_isPlan_b43 : Nat → Int32 → Int32 → Int32 → mM → Option (Int32 × mM)
  | 0, _, _, _, _ => none
  | n + 1, i1, i2, i3, M =>
  if i2 < 0 then (f_X10_isPlan_b191 i1 i3 M)
  else (if i3 = 0 then (mgd (mIn i2 4) <|
  mgd (mIn i2 4) <|
  mlt (mI M 106 (Int32.toNatClampNeg i2) ((M.1 106 (Int32.toNatClampNeg i2)) + 1)) fun M60 =>
  mgd (mIn i2 4) <|
  if 8 ≤ (M60.1 97 0) then (f_X10_isPlan_b91 (f_X10_isPlan_b43 n) i1 i2 i3 (M60.1 106 (Int32.toNatClampNeg i2)) 8 8 M60)
  else (f_X10_isPlan_b91 (f_X10_isPlan_b43 n) i1 i2 i3 (M60.1 106 (Int32.toNatClampNeg i2)) 8 (M60.1 97 0) M60))
  else (f_X10_isPlan_b191 i1 i3 M))
def f_X10_isPlan (i1 : Int32) (M : mM) : Option (Int32 × mM) :=
  if (M.1 96 24) = (M.1 97 0) then (mlt (mI M 106 0 (-1)) fun M23 =>
  if i1 = 0 then (mbp (f_X10_outside M23) fun v29 =>
  if v29 = 0 then (some (1, M23))
  else (some (0, M23)))
  else (f_X10_isPlan_b43 mN i1 0 0 M23))
  else (some (0, M))
def f_X10_planIn_b7 : Nat → Int32 → Int32 → mM → Option (Int32 × mM)
  | 0, _, _, _ => none
  | n + 1, i2, i3, M =>
  if i2 < i3 then (some ((-4), M))
  else (mbw (f_X10_isPlan i3 M) fun v14 M14 =>
  if v14 = 0 then (mlt (i3 + 1) fun x22 =>
  f_X10_planIn_b7 n i2 x22 M14)
  else (some (i3, M14)))
def f_X10_planIn (i1 : Int32) (i2 : Int32) (M : mM) : Option (Int32 × mM) :=
  mbp (f_X10_findGoal i1 M) fun M2 =>
  f_X10_planIn_b7 mN i2 0 M2
def f_X10_plan (i1 : Int32) (i2 : Int32) (M : mM) : Option (Int32 × mM) :=
  mbp (f_X10_isShape i1 M) fun v2 =>
  if v2 = 0 then (some ((-1), M))
  else (if (f_X10_is i2 0 4) = 0 then (some ((-1), M))
  else (mbw (f_X10_planIn i1 i2 M) fun v21 M21 =>
  some (v21, M21)))
def f_X10_planned (i1 : Int32) (i2 : Int32) (i3 : Int32) (M : mM) : Option (Int32 × mM) :=
  mbp (f_X10_isShape i1 M) fun v2 =>
  if v2 = 0 then (some ((-1), M))
  else (if (f_X10_is i2 0 4) = 0 then (some ((-1), M))
  else (if 0 ≤ i3 then (mbw (f_X10_planIn i1 i2 M) fun v27 M27 =>
  if v27 = (-4) then (some ((-4), M27))
  else (if i3 < v27 then (mgd (mIn i3 4) <|
  some ((M27.1 106 (Int32.toNatClampNeg i3)), M27))
  else (some ((-4), M27))))
  else (some ((-1), M))))
def f_X10_judge_b121 : Nat → Int32 → Int32 → Int32 → mM → Option (Int32 × mM)
  | 0, _, _, _, _ => none
  | n + 1, i1, i2, i3, M =>
  if i3 < 0 then (mgd (mIn i1 8) <|
  if i2 = (M.1 114 (Int32.toNatClampNeg i1)) then (some ((-4), M))
  else (some (i2, M)))
  else (mgd (mIn ((90 * i1) + i3) 720) <|
  mbp (f_X10_comesBack (M.1 115 (Int32.toNatClampNeg ((90 * i1) + i3))) M) fun M137 =>
  mlt (i3 + (-1)) fun x140 =>
  f_X10_judge_b121 n i1 i2 x140 M137)
def f_X10_judge_b50 : Nat → Int32 → Int32 → mM → Option (Int32 × mM)
  | 0, _, _, _ => none
  | n + 1, i1, i2, M =>
  mgd (mIn i1 8) <|
  if (M.1 114 (Int32.toNatClampNeg i1)) ≤ i2 then (f_X10_judge_b121 mN i1 i2 (i2 - 1) M)
  else (mgd (mIn ((90 * i1) + i2) 720) <|
  mbp (f_X10_isMove (M.1 115 (Int32.toNatClampNeg ((90 * i1) + i2))) M) fun v72 =>
  if v72 = 0 then (f_X10_judge_b121 mN i1 i2 (i2 - 1) M)
  else (mgd (mIn ((90 * i1) + i2) 720) <|
  mbw (f_X10_canMove (M.1 115 (Int32.toNatClampNeg ((90 * i1) + i2))) M) fun v90 M90 =>
  if v90 = 0 then (f_X10_judge_b121 mN i1 i2 (i2 - 1) M90)
  else (mgd (mIn ((90 * i1) + i2) 720) <|
  mbp (f_X10_goes (M90.1 115 (Int32.toNatClampNeg ((90 * i1) + i2))) M90) fun M108 =>
  mlt (i2 + 1) fun x111 =>
  f_X10_judge_b50 n i1 x111 M108)))
def f_X10_judge (i1 : Int32) (M : mM) : Option (Int32 × mM) :=
  if (f_X10_is i1 0 7) = 0 then (some ((-1), M))
  else (mgd (mIn i1 8) <|
  if (M.1 108 (Int32.toNatClampNeg i1)) = 0 then (some ((-11), M))
  else (mgd (mIn i1 8) <|
  if (M.1 108 (Int32.toNatClampNeg i1)) = 2 then (mgd (mIn i1 8) <|
  if (M.1 113 (Int32.toNatClampNeg i1)) = 1 then (f_X10_judge_b50 mN i1 0 M)
  else (some ((-12), M)))
  else (some ((-12), M))))
def f_X10_gives_b55 (i3 : Int32) (s1 : Int32) (s2 : Int32) (M : mM) : Option (Int32 × mM) :=
  mgd (mIn s1 1834) <|
  mlt (mI M 97 (Int32.toNatClampNeg s1) s2) fun M55 =>
  some (i3, M55)
def f_X10_gives (i1 : Int32) (i2 : Int32) (M : mM) : Option (Int32 × mM) :=
  mbp (f_X10_isCube i1 M) fun v2 =>
  if v2 = 0 then (some ((-1), M))
  else (if (f_X10_is i2 (-1) ((M.1 97 2) - 1)) = 0 then (some ((-1), M))
  else (mgd (mIn (122 + i1) 1834) <|
  mlt (M.1 97 (Int32.toNatClampNeg (122 + i1))) fun x36 =>
  if 0 ≤ i2 then (f_X10_gives_b55 x36 (122 + i1) i2 M)
  else (f_X10_gives_b55 x36 (122 + i1) (-4) M)))
def f_X10_rule (i1 : Int32) (M : mM) : Option (Int32 × mM) :=
  mbp (f_X10_isCube i1 M) fun v2 =>
  if v2 = 0 then (some ((-1), M))
  else (mgd (mIn (74 + i1) 1834) <|
  if (M.1 97 (Int32.toNatClampNeg (74 + i1))) = 1 then (some ((-3), M))
  else (mgd (mIn (122 + i1) 1834) <|
  if 0 ≤ (M.1 97 (Int32.toNatClampNeg (122 + i1))) then (mgd (mIn (122 + i1) 1834) <|
  mbw (f_X10_goesProgram (8 + (M.1 97 (Int32.toNatClampNeg (122 + i1)))) i1 M) fun v52 M52 =>
  if v52 = 0 then (some ((-4), M52))
  else (some ((M52.1 96 18), M52)))
  else (some ((-3), M))))
def f_X10_acts_b95 (i1 : Int32) (M : mM) : Option (Int32 × mM) :=
  if (M.1 96 19) = 103 then (mbw (f_X10_canMove ((8 * i1) + (M.1 96 20)) M) fun v114 M114 =>
  if v114 = 0 then (some (0, M114))
  else (mbp (f_X10_goes ((8 * i1) + (M114.1 96 20)) M114) fun M132 =>
  some (1, M132)))
  else (some (0, M))
def f_X10_acts_b73 (i1 : Int32) (M : mM) : Option (Int32 × mM) :=
  if (M.1 96 19) = 61 then (mgd (mIn (90 + i1) 1834) <|
  mlt (mI M 97 (Int32.toNatClampNeg (90 + i1)) (M.1 96 20)) fun M94 =>
  f_X10_acts_b95 i1 M94)
  else (f_X10_acts_b95 i1 M)
def f_X10_acts (i1 : Int32) (M : mM) : Option (Int32 × mM) :=
  mgd (mIn (74 + i1) 1834) <|
  if (M.1 97 (Int32.toNatClampNeg (74 + i1))) = 1 then (some (0, M))
  else (mgd (mIn (122 + i1) 1834) <|
  if (M.1 97 (Int32.toNatClampNeg (122 + i1))) < 0 then (some (0, M))
  else (mgd (mIn (122 + i1) 1834) <|
  mbw (f_X10_goesProgram (8 + (M.1 97 (Int32.toNatClampNeg (122 + i1)))) i1 M) fun v39 M39 =>
  if v39 = 0 then (some (0, M39))
  else (if 0 ≤ (M39.1 96 18) then (if (M39.1 96 19) = 121 then (mgd (mIn i1 16) <|
  mlt (mI M39 107 (Int32.toNatClampNeg i1) (M39.1 96 20)) fun M72 =>
  f_X10_acts_b73 i1 M72)
  else (f_X10_acts_b73 i1 M39))
  else (some (0, M39)))))
def f_X10_shares_b18 : Nat → Int32 → Int32 → Int32 → mM → Option mM
  | 0, _, _, _, _ => none
  | n + 1, i1, i2, i3, M =>
  if 4 ≤ i3 then (if i2 < 0 then (some M)
  else (mgd (mIn (58 + i2) 1834) <|
  mgd (mIn (58 + i1) 1834) <|
  if (M.1 97 (Int32.toNatClampNeg (58 + i2))) ≤ ((M.1 97 (Int32.toNatClampNeg (58 + i1))) - 2) then (mgd (mIn (58 + i2) 1834) <|
  mgd (mIn (58 + i2) 1834) <|
  mlt (mI M 97 (Int32.toNatClampNeg (58 + i2)) ((M.1 97 (Int32.toNatClampNeg (58 + i2))) + 1)) fun M152 =>
  mgd (mIn (58 + i1) 1834) <|
  mgd (mIn (58 + i1) 1834) <|
  mlt (mI M152 97 (Int32.toNatClampNeg (58 + i1)) ((M152.1 97 (Int32.toNatClampNeg (58 + i1))) - 1)) fun M165 =>
  some M165)
  else (some M)))
  else (mgd (mIn (26 + i1) 1834) <|
  mgd (mIn (42 + i1) 1834) <|
  mbp (f_X10_cubeAt ((M.1 97 (Int32.toNatClampNeg (26 + i1))) + (f_X10_east i3)) ((M.1 97 (Int32.toNatClampNeg (42 + i1))) + (f_X10_north i3)) M) fun v54 =>
  if v54 < 0 then (mlt (i3 + 1) fun x106 =>
  f_X10_shares_b18 n i1 i2 x106 M)
  else (mgd (mIn (74 + v54) 1834) <|
  if (M.1 97 (Int32.toNatClampNeg (74 + v54))) = 0 then (if i2 < 0 then (mlt (i3 + 1) fun x106 =>
  f_X10_shares_b18 n i1 v54 x106 M)
  else (mgd (mIn (58 + v54) 1834) <|
  mgd (mIn (58 + i2) 1834) <|
  if (M.1 97 (Int32.toNatClampNeg (58 + i2))) ≤ (M.1 97 (Int32.toNatClampNeg (58 + v54))) then (mlt (i3 + 1) fun x106 =>
  f_X10_shares_b18 n i1 i2 x106 M)
  else (mlt (i3 + 1) fun x106 =>
  f_X10_shares_b18 n i1 v54 x106 M)))
  else (mlt (i3 + 1) fun x106 =>
  f_X10_shares_b18 n i1 i2 x106 M)))
def f_X10_shares (i1 : Int32) (M : mM) : Option mM :=
  mgd (mIn (74 + i1) 1834) <|
  if (M.1 97 (Int32.toNatClampNeg (74 + i1))) = 1 then (some M)
  else (f_X10_shares_b18 mN i1 (-1) 0 M)
def f_X10_goTick_b82 : Nat → Int32 → Int32 → mM → Option (Int32 × mM)
  | 0, _, _, _ => none
  | n + 1, i1, i2, M =>
  if 16 ≤ i2 then (mlt (mI M 97 5 ((M.1 97 5) + 1)) fun M118 =>
  some (i1, M118))
  else (mgd (mIn i2 16) <|
  mgd (mIn (106 + i2) 1834) <|
  mlt (mI M 97 (Int32.toNatClampNeg (106 + i2)) (M.1 107 (Int32.toNatClampNeg i2))) fun M102 =>
  mlt (i2 + 1) fun x103 =>
  f_X10_goTick_b82 n i1 x103 M102)
def f_X10_goTick_b59 : Nat → Int32 → Int32 → mM → Option (Int32 × mM)
  | 0, _, _, _ => none
  | n + 1, i1, i2, M =>
  if (M.1 97 0) ≤ i2 then (f_X10_goTick_b82 mN i1 0 M)
  else (mbp (f_X10_shares i2 M) fun M71 =>
  mlt (i2 + 1) fun x74 =>
  f_X10_goTick_b59 n i1 x74 M71)
def f_X10_goTick_b25 : Nat → Int32 → Int32 → mM → Option (Int32 × mM)
  | 0, _, _, _ => none
  | n + 1, i1, i2, M =>
  if (M.1 97 0) ≤ i2 then (f_X10_goTick_b59 mN i1 0 M)
  else (mbw (f_X10_acts i2 M) fun v38 M38 =>
  if v38 = 0 then (mlt (i2 + 1) fun x51 =>
  f_X10_goTick_b25 n (i1 + 0) x51 M38)
  else (mlt (i2 + 1) fun x51 =>
  f_X10_goTick_b25 n (i1 + 1) x51 M38))
def f_X10_goTick_b4 : Nat → Int32 → Int32 → mM → Option (Int32 × mM)
  | 0, _, _, _ => none
  | n + 1, i1, i2, M =>
  if 16 ≤ i2 then (f_X10_goTick_b25 mN i1 0 M)
  else (mgd (mIn i2 16) <|
  mlt (mI M 107 (Int32.toNatClampNeg i2) 0) fun M16 =>
  mlt (i2 + 1) fun x17 =>
  f_X10_goTick_b4 n i1 x17 M16)
def f_X10_goTick (M : mM) : Option (Int32 × mM) :=
  f_X10_goTick_b4 mN 0 0 M
def f_X10_ticks_b34 : Nat → Int32 → Int32 → Int32 → mM → Option (Int32 × mM)
  | 0, _, _, _, _ => none
  | n + 1, i1, i2, i3, M =>
  if i1 ≤ i3 then (some (i2, M))
  else (mbw (f_X10_goTick M) fun v41 M41 =>
  mlt (i3 + 1) fun x46 =>
  f_X10_ticks_b34 n i1 (i2 + v41) x46 M41)
def f_X10_ticks (i1 : Int32) (M : mM) : Option (Int32 × mM) :=
  if (f_X10_is i1 1 50) = 0 then (some ((-1), M))
  else (if ((M.1 97 5) + i1) ≤ 2000 then (f_X10_ticks_b34 mN i1 0 0 M)
  else (some ((-2), M)))
def f_X10_report_b86 (i4 : Int32) (s1 : Int32) (s2 : Int32) (M : mM) : Option (Int32 × mM) :=
  mgd (mIn s1 1834) <|
  mlt (mI M 97 (Int32.toNatClampNeg s1) s2) fun M86 =>
  mlt (mI M86 97 3 ((M86.1 97 3) + 1)) fun M96 =>
  some (i4, M96)
def f_X10_report (i1 : Int32) (i2 : Int32) (i3 : Int32) (M : mM) : Option (Int32 × mM) :=
  mbp (f_X10_isCube i1 M) fun v2 =>
  if v2 = 0 then (some ((-1), M))
  else (if (f_X10_is i2 0 (M.1 97 5)) = 0 then (some ((-1), M))
  else (if (M.1 97 3) = 40 then (some ((-2), M))
  else (mgd (mIn (1594 + (M.1 97 3)) 1834) <|
  mlt (mI M 97 (Int32.toNatClampNeg (1594 + (M.1 97 3))) i1) fun M54 =>
  mgd (mIn (1634 + (M.1 97 3)) 1834) <|
  mlt (mI M54 97 (Int32.toNatClampNeg (1634 + (M.1 97 3))) i2) fun M66 =>
  if i3 = 0 then (f_X10_report_b86 (M.1 97 3) (1674 + (M.1 97 3)) 0 M66)
  else (f_X10_report_b86 (M.1 97 3) (1674 + (M.1 97 3)) 1 M66))))
def f_X10_believedOf_b6 : Nat → Int32 → Int32 → Int32 → Int32 → Int32 → mM → Option Int32
  | 0, _, _, _, _, _, _ => none
  | n + 1, i1, i2, i3, i4, i5, M =>
  if i3 ≤ i5 then (if 0 ≤ i4 then (mgd (mIn (1674 + i4) 1834) <|
  some (M.1 97 (Int32.toNatClampNeg (1674 + i4))))
  else (some 0))
  else (mgd (mIn (1594 + i5) 1834) <|
  if (M.1 97 (Int32.toNatClampNeg (1594 + i5))) = i1 then (mgd (mIn (1634 + i5) 1834) <|
  if i2 < (M.1 97 (Int32.toNatClampNeg (1634 + i5))) then (mlt (i5 + 1) fun x76 =>
  f_X10_believedOf_b6 n i1 i2 i3 i4 x76 M)
  else (if i4 < 0 then (mlt (i5 + 1) fun x76 =>
  f_X10_believedOf_b6 n i1 i2 i3 i5 x76 M)
  else (mgd (mIn (1634 + i5) 1834) <|
  mgd (mIn (1634 + i4) 1834) <|
  if (M.1 97 (Int32.toNatClampNeg (1634 + i5))) < (M.1 97 (Int32.toNatClampNeg (1634 + i4))) then (mlt (i5 + 1) fun x76 =>
  f_X10_believedOf_b6 n i1 i2 i3 i4 x76 M)
  else (mlt (i5 + 1) fun x76 =>
  f_X10_believedOf_b6 n i1 i2 i3 i5 x76 M))))
  else (mlt (i5 + 1) fun x76 =>
  f_X10_believedOf_b6 n i1 i2 i3 i4 x76 M))
def f_X10_believedOf (i1 : Int32) (i2 : Int32) (i3 : Int32) (M : mM) : Option Int32 :=
  f_X10_believedOf_b6 mN i1 i2 i3 (-1) 0 M
def f_X10_first (i1 : Int32) (M : mM) : Int32 :=
  if 0 ≤ i1 then (i1)
  else ((M.1 97 3))
def f_X10_believed (i1 : Int32) (i2 : Int32) (i3 : Int32) (M : mM) : Option Int32 :=
  mbp (f_X10_isCube i1 M) fun v2 =>
  if v2 = 0 then (some (-1))
  else (if (f_X10_is i2 0 (M.1 97 5)) = 0 then (some (-1))
  else (if (f_X10_is i3 (-1) (M.1 97 3)) = 0 then (some (-1))
  else (mbp (f_X10_believedOf i1 i2 (f_X10_first i3 M) M) fun v46 =>
  some v46)))
def f_X10_wasDead_b5 : Nat → Int32 → Int32 → Int32 → Int32 → mM → Option Int32
  | 0, _, _, _, _, _ => none
  | n + 1, i1, i2, i3, i4, M =>
  if (M.1 97 4) ≤ i4 then (some i3)
  else (mgd (mIn (1714 + i4) 1834) <|
  if (M.1 97 (Int32.toNatClampNeg (1714 + i4))) = i1 then (mgd (mIn (1754 + i4) 1834) <|
  if i2 < (M.1 97 (Int32.toNatClampNeg (1754 + i4))) then (mlt (i4 + 1) fun x58 =>
  f_X10_wasDead_b5 n i1 i2 i3 x58 M)
  else (mgd (mIn (1794 + i4) 1834) <|
  mlt (M.1 97 (Int32.toNatClampNeg (1794 + i4))) fun x57 =>
  mlt (i4 + 1) fun x58 =>
  f_X10_wasDead_b5 n i1 i2 x57 x58 M))
  else (mlt (i4 + 1) fun x58 =>
  f_X10_wasDead_b5 n i1 i2 i3 x58 M))
def f_X10_wasDead (i1 : Int32) (i2 : Int32) (M : mM) : Option Int32 :=
  f_X10_wasDead_b5 mN i1 i2 0 0 M
def f_X10_wrong_b30 : Nat → Int32 → Int32 → Int32 → Int32 → mM → Option Int32
  | 0, _, _, _, _, _ => none
  | n + 1, i1, i2, i3, i4, M =>
  if (M.1 97 5) ≤ i4 then (some i3)
  else (mbp (f_X10_believedOf i1 i4 (f_X10_first i2 M) M) fun v51 =>
  mbp (f_X10_wasDead i1 i4 M) fun v58 =>
  if v51 = v58 then (mlt (i4 + 1) fun x71 =>
  f_X10_wrong_b30 n i1 i2 (i3 + 0) x71 M)
  else (mlt (i4 + 1) fun x71 =>
  f_X10_wrong_b30 n i1 i2 (i3 + 1) x71 M))
def f_X10_wrong (i1 : Int32) (i2 : Int32) (M : mM) : Option Int32 :=
  mbp (f_X10_isCube i1 M) fun v2 =>
  if v2 = 0 then (some (-1))
  else (if (f_X10_is i2 (-1) (M.1 97 3)) = 0 then (some (-1))
  else (f_X10_wrong_b30 mN i1 i2 0 0 M))
def f_X10_image_b2 : Nat → Int32 → mM → Option (Int32 × mM)
  | 0, _, _ => none
  | n + 1, i1, M =>
  if 1834 ≤ i1 then (mlt (mI M 96 3 1) fun M29 =>
  some ((M29.1 97 5), M29))
  else (mgd (mIn i1 1834) <|
  mgd (mIn i1 1834) <|
  mlt (mI M 98 (Int32.toNatClampNeg i1) (M.1 97 (Int32.toNatClampNeg i1))) fun M20 =>
  mlt (i1 + 1) fun x21 =>
  f_X10_image_b2 n x21 M20)
def f_X10_image (M : mM) : Option (Int32 × mM) :=
  f_X10_image_b2 mN 0 M
def f_X10_restore_b60 : Nat → Int32 → mM → Option (Int32 × mM)
  | 0, _, _ => none
  | n + 1, i1, M =>
  if (M.1 97 0) ≤ i1 then (some ((M.1 97 5), M))
  else (mgd (mIn (26 + i1) 1834) <|
  mgd (mIn (42 + i1) 1834) <|
  mgd (mIn ((8 * (M.1 97 (Int32.toNatClampNeg (26 + i1)))) + (M.1 97 (Int32.toNatClampNeg (42 + i1)))) 80) <|
  mlt (mI M 99 (Int32.toNatClampNeg ((8 * (M.1 97 (Int32.toNatClampNeg (26 + i1)))) + (M.1 97 (Int32.toNatClampNeg (42 + i1))))) (i1 + 1)) fun M99 =>
  mlt (i1 + 1) fun x100 =>
  f_X10_restore_b60 n x100 M99)
def f_X10_restore_b39 : Nat → Int32 → mM → Option (Int32 × mM)
  | 0, _, _ => none
  | n + 1, i1, M =>
  if 80 ≤ i1 then (f_X10_restore_b60 mN 0 M)
  else (mgd (mIn i1 80) <|
  mlt (mI M 99 (Int32.toNatClampNeg i1) 0) fun M51 =>
  mlt (i1 + 1) fun x52 =>
  f_X10_restore_b39 n x52 M51)
def f_X10_restore_b12 : Nat → Int32 → mM → Option (Int32 × mM)
  | 0, _, _ => none
  | n + 1, i1, M =>
  if 1834 ≤ i1 then (f_X10_restore_b39 mN 0 M)
  else (mgd (mIn i1 1834) <|
  mgd (mIn i1 1834) <|
  mlt (mI M 97 (Int32.toNatClampNeg i1) (M.1 98 (Int32.toNatClampNeg i1))) fun M30 =>
  mlt (i1 + 1) fun x31 =>
  f_X10_restore_b12 n x31 M30)
def f_X10_restore (M : mM) : Option (Int32 × mM) :=
  if (M.1 96 3) = 0 then (some ((-3), M))
  else (f_X10_restore_b12 mN 0 M)
def f_X10_count_b61 : Nat → Int32 → Int32 → mM → Option Int32
  | 0, _, _, _ => none
  | n + 1, i2, i3, M =>
  if (M.1 97 0) ≤ i3 then (some i2)
  else (mgd (mIn (74 + i3) 1834) <|
  mlt (i2 + (M.1 97 (Int32.toNatClampNeg (74 + i3)))) fun x82 =>
  mlt (i3 + 1) fun x83 =>
  f_X10_count_b61 n x82 x83 M)
def f_X10_count_b93 : Nat → Int32 → Int32 → mM → Option Int32
  | 0, _, _, _ => none
  | n + 1, i2, i3, M =>
  if (M.1 97 0) ≤ i3 then (some i2)
  else (mgd (mIn (58 + i3) 1834) <|
  mlt (i2 + (M.1 97 (Int32.toNatClampNeg (58 + i3)))) fun x114 =>
  mlt (i3 + 1) fun x115 =>
  f_X10_count_b93 n x114 x115 M)
def f_X10_count_b153 : Nat → Int32 → Int32 → mM → Option Int32
  | 0, _, _, _ => none
  | n + 1, i2, i3, M =>
  if (M.1 97 0) ≤ i3 then (some i2)
  else (mgd (mIn (10 + i3) 1834) <|
  mlt (i2 + (f_X10_weightOf (M.1 97 (Int32.toNatClampNeg (10 + i3))))) fun x178 =>
  mlt (i3 + 1) fun x179 =>
  f_X10_count_b153 n x178 x179 M)
def f_X10_count (i1 : Int32) (M : mM) : Option Int32 :=
  if i1 = 0 then (some (M.1 97 0))
  else (if i1 = 1 then (f_X10_count_b61 mN 0 0 M)
  else (if i1 = 2 then (f_X10_count_b93 mN 0 0 M)
  else (if i1 = 3 then (some (M.1 97 1))
  else (if i1 = 4 then (some (M.1 97 2))
  else (if i1 = 5 then (some (M.1 97 3))
  else (if i1 = 6 then (some (M.1 97 5))
  else (if i1 = 7 then (f_X10_count_b153 mN 0 0 M)
  else (if i1 = 8 then (some (M.1 97 4))
  else (some (-1))))))))))
def f_X10_isShelf (i1 : Int32) : Option Int32 :=
  mgd ((f_X10_is i1 0 7) = 0 ∨ (f_X10_is i1 0 7) = 1) <|
  some (f_X10_is i1 0 7)
def f_X10_keep_b33 (i1 : Int32) (i2 : Int32) (i3 : Int32) (M : mM) : Option (Int32 × mM) :=
  mgd (mIn i1 8) <|
  mlt (mI M 108 (Int32.toNatClampNeg i1) i2) fun M39 =>
  if i2 = 1 then (mgd (mIn (10 + i3) 1834) <|
  mgd (mIn i1 8) <|
  mlt (mI M39 109 (Int32.toNatClampNeg i1) (M39.1 97 (Int32.toNatClampNeg (10 + i3)))) fun M59 =>
  mgd (mIn (26 + i3) 1834) <|
  mgd (mIn (42 + i3) 1834) <|
  mgd (mIn i1 8) <|
  mlt (mI M59 110 (Int32.toNatClampNeg i1) ((8 * (M59.1 97 (Int32.toNatClampNeg (26 + i3)))) + (M59.1 97 (Int32.toNatClampNeg (42 + i3))))) fun M87 =>
  mgd (mIn (58 + i3) 1834) <|
  mgd (mIn i1 8) <|
  mlt (mI M87 111 (Int32.toNatClampNeg i1) (M87.1 97 (Int32.toNatClampNeg (58 + i3)))) fun M102 =>
  mgd (mIn (74 + i3) 1834) <|
  mgd (mIn i1 8) <|
  mlt (mI M102 112 (Int32.toNatClampNeg i1) (M102.1 97 (Int32.toNatClampNeg (74 + i3)))) fun M117 =>
  some (0, M117))
  else (some (0, M39))
def f_X10_keep (i1 : Int32) (i2 : Int32) (i3 : Int32) (M : mM) : Option (Int32 × mM) :=
  mbp (f_X10_isShelf i1) fun v2 =>
  if v2 = 0 then (some ((-1), M))
  else (if (f_X10_is i2 0 1) = 0 then (some ((-1), M))
  else (if i2 = 1 then (mbp (f_X10_isCube i3 M) fun v25 =>
  if v25 = 0 then (some ((-1), M))
  else (f_X10_keep_b33 i1 i2 i3 M))
  else (f_X10_keep_b33 i1 i2 i3 M)))
def f_X10_row_b57 : Nat → Int32 → Int32 → mM → Option (Int32 × mM)
  | 0, _, _, _ => none
  | n + 1, i1, i4, M =>
  if 90 ≤ i4 then (some (0, M))
  else (mgd (mIn ((90 * i1) + i4) 720) <|
  mlt (mI M 115 (Int32.toNatClampNeg ((90 * i1) + i4)) 0) fun M76 =>
  mlt (i4 + 1) fun x77 =>
  f_X10_row_b57 n i1 x77 M76)
def f_X10_row (i1 : Int32) (i2 : Int32) (i3 : Int32) (M : mM) : Option (Int32 × mM) :=
  mbp (f_X10_isShelf i1) fun v2 =>
  if v2 = 0 then (some ((-1), M))
  else (if (f_X10_is i2 0 2) = 0 then (some ((-1), M))
  else (if i3 ≤ 90 then (if 0 ≤ i3 then (mgd (mIn i1 8) <|
  mlt (mI M 108 (Int32.toNatClampNeg i1) 2) fun M39 =>
  mgd (mIn i1 8) <|
  mlt (mI M39 113 (Int32.toNatClampNeg i1) i2) fun M46 =>
  mgd (mIn i1 8) <|
  mlt (mI M46 114 (Int32.toNatClampNeg i1) i3) fun M53 =>
  f_X10_row_b57 mN i1 0 M53)
  else (some ((-14), M)))
  else (some ((-1), M))))
def f_X10_narrow (i1 : Int32) (i2 : Int32) : Int32 :=
  if i1 = 0 then ((Int8.toInt32 (Int32.toInt8 i2)))
  else (if i1 = 1 then ((Int16.toInt32 (Int32.toInt16 i2)))
  else (i2))
def f_X10_put (i1 : Int32) (i2 : Int32) (i3 : Int32) (M : mM) : Option (Int32 × mM) :=
  mbp (f_X10_isShelf i1) fun v2 =>
  if v2 = 0 then (some ((-1), M))
  else (mgd (mIn i1 8) <|
  if (M.1 108 (Int32.toNatClampNeg i1)) = 0 then (some ((-11), M))
  else (mgd (mIn i1 8) <|
  if (M.1 108 (Int32.toNatClampNeg i1)) = 2 then (mgd (mIn i1 8) <|
  if (f_X10_is i2 0 ((M.1 114 (Int32.toNatClampNeg i1)) - 1)) = 0 then (some ((-13), M))
  else (mgd (mIn i1 8) <|
  mgd (mIn ((90 * i1) + i2) 720) <|
  mlt (mI M 115 (Int32.toNatClampNeg ((90 * i1) + i2)) (f_X10_narrow (M.1 113 (Int32.toNatClampNeg i1)) i3)) fun M76 =>
  some (0, M76)))
  else (some ((-12), M))))
def f_X10_element_b45 (i1 : Int32) (i2 : Int32) (s1 : Int32) (M : mM) : Option (Int64 × mM) :=
  mlt (mI M 96 0 s1) fun M45 =>
  if (M45.1 96 0) ≤ 0 then (mgd (mIn ((90 * i1) + i2) 720) <|
  some ((Int32.toInt64 (M45.1 115 (Int32.toNatClampNeg ((90 * i1) + i2)))), M45))
  else (some (0, M45))
def f_X10_element (i1 : Int32) (i2 : Int32) (M : mM) : Option (Int64 × mM) :=
  mbp (f_X10_isShelf i1) fun v3 =>
  if v3 = 0 then (f_X10_element_b45 i1 i2 1 M)
  else (mgd (mIn i1 8) <|
  if (M.1 108 (Int32.toNatClampNeg i1)) = 2 then (mgd (mIn i1 8) <|
  if (f_X10_is i2 0 ((M.1 114 (Int32.toNatClampNeg i1)) - 1)) = 0 then (f_X10_element_b45 i1 i2 2 M)
  else (f_X10_element_b45 i1 i2 0 M))
  else (f_X10_element_b45 i1 i2 2 M))
def f_X10_copy_b161 : Nat → Int32 → Int32 → Int32 → Int32 → mM → Option (Int32 × mM)
  | 0, _, _, _, _, _ => none
  | n + 1, i3, i4, i5, i6, M =>
  if i5 ≤ i6 then (some (i5, M))
  else (mgd (mIn i6 90) <|
  mgd (mIn (((90 * i3) + i4) + i6) 720) <|
  mlt (mI M 115 (Int32.toNatClampNeg (((90 * i3) + i4) + i6)) (M.1 116 (Int32.toNatClampNeg i6))) fun M189 =>
  mlt (i6 + 1) fun x190 =>
  f_X10_copy_b161 n i3 i4 i5 x190 M189)
def f_X10_copy_b124 : Nat → Int32 → Int32 → Int32 → Int32 → Int32 → Int32 → mM → Option (Int32 × mM)
  | 0, _, _, _, _, _, _, _ => none
  | n + 1, i1, i2, i3, i4, i5, i6, M =>
  if i5 ≤ i6 then (f_X10_copy_b161 mN i3 i4 i5 0 M)
  else (mgd (mIn (((90 * i1) + i2) + i6) 720) <|
  mgd (mIn i6 90) <|
  mlt (mI M 116 (Int32.toNatClampNeg i6) (M.1 115 (Int32.toNatClampNeg (((90 * i1) + i2) + i6)))) fun M151 =>
  mlt (i6 + 1) fun x152 =>
  f_X10_copy_b124 n i1 i2 i3 i4 i5 x152 M151)
def f_X10_copy (i1 : Int32) (i2 : Int32) (i3 : Int32) (i4 : Int32) (i5 : Int32) (M : mM) : Option (Int32 × mM) :=
  mbp (f_X10_isShelf i1) fun v2 =>
  if v2 = 0 then (some ((-1), M))
  else (mbp (f_X10_isShelf i3) fun v10 =>
  if v10 = 0 then (some ((-1), M))
  else (mgd (mIn i1 8) <|
  if (M.1 108 (Int32.toNatClampNeg i1)) = 0 then (some ((-11), M))
  else (mgd (mIn i3 8) <|
  if (M.1 108 (Int32.toNatClampNeg i3)) = 0 then (some ((-11), M))
  else (mgd (mIn i1 8) <|
  if (M.1 108 (Int32.toNatClampNeg i1)) = 2 then (mgd (mIn i3 8) <|
  if (M.1 108 (Int32.toNatClampNeg i3)) = 2 then (mgd (mIn i1 8) <|
  mgd (mIn i3 8) <|
  if (M.1 113 (Int32.toNatClampNeg i1)) = (M.1 113 (Int32.toNatClampNeg i3)) then (if i5 < 0 then (some ((-13), M))
  else (if i2 < 0 then (some ((-13), M))
  else (if i4 < 0 then (some ((-13), M))
  else (mgd (mIn i1 8) <|
  if ((M.1 114 (Int32.toNatClampNeg i1)) - i5) < i2 then (some ((-13), M))
  else (mgd (mIn i3 8) <|
  if i4 ≤ ((M.1 114 (Int32.toNatClampNeg i3)) - i5) then (f_X10_copy_b124 mN i1 i2 i3 i4 i5 0 M)
  else (some ((-13), M)))))))
  else (some ((-12), M)))
  else (some ((-12), M)))
  else (some ((-12), M))))))
def f_X10_lacksCube (i1 : Int32) (M : mM) : Option Int32 :=
  mbp (f_X10_isShelf i1) fun v2 =>
  if v2 = 0 then (some (-1))
  else (mgd (mIn i1 8) <|
  if (M.1 108 (Int32.toNatClampNeg i1)) = 0 then (some (-11))
  else (mgd (mIn i1 8) <|
  if (M.1 108 (Int32.toNatClampNeg i1)) = 2 then (some (-12))
  else (some 0)))
def f_X10_sum_b68 (i2 : Int32) (s0 : Int32) (s1 : Int32) (M : mM) : Option Int32 :=
  if i2 = 3 then (some (2 * (s0 + s1)))
  else (some (s0 + s1))
def f_X10_sum_b46 (i1 : Int32) (i2 : Int32) (s0 : Int32) (s1 : Int32) (M : mM) : Option Int32 :=
  if i2 < 2 then (f_X10_sum_b68 i2 (s0 + s1) 0 M)
  else (mgd (mIn i1 8) <|
  f_X10_sum_b68 i2 (s0 + s1) ((f_X10_costOf i2) + (M.1 111 (Int32.toNatClampNeg i1))) M)
def f_X10_sum (i1 : Int32) (M : mM) : Option Int32 :=
  mbp (f_X10_lacksCube i1 M) fun v2 =>
  if v2 = 0 then (mgd (mIn i1 8) <|
  mlt (M.1 109 (Int32.toNatClampNeg i1)) fun x20 =>
  if x20 = 1 then (f_X10_sum_b46 i1 x20 ((100 + (f_X10_weightOf x20)) + (f_X10_bearsOf x20)) 50 M)
  else (f_X10_sum_b46 i1 x20 ((100 + (f_X10_weightOf x20)) + (f_X10_bearsOf x20)) 0 M))
  else (mbp (f_X10_lacksCube i1 M) fun v10 =>
  some v10)
def f_X10_toss (i1 : Int32) (M : mM) : Option Int32 :=
  mbp (f_X10_lacksCube i1 M) fun v2 =>
  if v2 = 0 then (mgd (mIn i1 8) <|
  if (M.1 109 (Int32.toNatClampNeg i1)) = 0 then (some (-15))
  else (mgd (mIn i1 8) <|
  if (M.1 112 (Int32.toNatClampNeg i1)) = 1 then (some (-15))
  else (mgd (mIn i1 8) <|
  mgd (mIn i1 8) <|
  if (M.1 109 (Int32.toNatClampNeg i1)) = 3 then (some ((M.1 110 (Int32.toNatClampNeg i1)) + 100))
  else (some ((M.1 110 (Int32.toNatClampNeg i1)) + 0)))))
  else (mbp (f_X10_lacksCube i1 M) fun v10 =>
  some v10)
def f_X6_placeOfCube (b : Nat) (M : mM) : Int32 :=
  ((8 * (M.1 b 4)) + (M.1 b 5))
