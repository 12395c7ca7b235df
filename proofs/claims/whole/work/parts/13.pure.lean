def f_X0_beginPart_12 (I : zMi) (k2 : Int32 → zMl → Option zMl) : Nat → Int32 → Int32 → zMl → Option zMl
  | 0, _, _, _ => none
  | f + 1, a1, a2, J => if (I (3) 3) ≤ a2 then (k2 (a1 + 1) J) else (if a1 = a2 then (if ix ((a1 * (I (3) 3)) + a2) 144 then (f_X0_beginPart_12 I k2 f a1 (a2 + 1) (wJ J (5) ((a1 * (I (3) 3)) + a2).toNatClampNeg 1)) else none) else (if ix ((a1 * (I (3) 3)) + a2) 144 then (f_X0_beginPart_12 I k2 f a1 (a2 + 1) (wJ J (5) ((a1 * (I (3) 3)) + a2).toNatClampNeg 0)) else none))
def f_X0_beginPart_2 (I : zMi) : Nat → Int32 → zMl → Option zMl
  | 0, _, _ => none
  | f + 1, a1, J => if (I (3) 3) ≤ a1 then (some J) else (f_X0_beginPart_12 I (f_X0_beginPart_2 I f) fu a1 0 J)
def f_X0_beginPart (I : zMi) (J : zMl) : Option zMl :=
  f_X0_beginPart_2 I fu 0 J
def rmX0_beginPart : Room := { frames := 0, cells := 0, slots := 0, locals := 0 }
def f_X2_number (n0 : Nat) (a1 : Int32) (a2 : Int32) (I : zMi) : Option Int32 :=
  if ix a1 12 then (some ((((I (23 + 3 * n0) a1.toNatClampNeg) >>> (a2 &&& 31)) &&& 1) - (((I (24 + 3 * n0) a1.toNatClampNeg) >>> (a2 &&& 31)) &&& 1))) else none
def rmX2_number : Room := { frames := 0, cells := 0, slots := 0, locals := 0 }
def f_X0_multiply_26 (I : zMi) (k2 : Nat → Int32 → zMl → Option zMl) (k12 : Nat → Int32 → Int32 → zMl → Option zMl) : Nat → Nat → Int32 → Int32 → Int64 → Int32 → zMl → Option zMl
  | 0, _, _, _, _, _, _ => none
  | f + 1, n1, a2, a3, a4, a6, J => if (I (3) 3) ≤ a6 then (if ix ((a2 * (I (3) 3)) + a3) 144 then (k12 n1 a2 (a3 + 1) (wJ J (6) ((a2 * (I (3) 3)) + a3).toNatClampNeg a4)) else none) else ((f_X2_number n1 a2 a6 I).bind (fun x3 => if ix ((a6 * (I (3) 3)) + a3) 144 then (f_X0_multiply_26 I k2 k12 f n1 a2 a3 (a4 + ((x3.toInt64) * (J (5) ((a6 * (I (3) 3)) + a3).toNatClampNeg))) (a6 + 1) J) else none))
def f_X0_multiply_12 (I : zMi) (k2 : Nat → Int32 → zMl → Option zMl) : Nat → Nat → Int32 → Int32 → zMl → Option zMl
  | 0, _, _, _, _ => none
  | f + 1, n1, a2, a3, J => if (I (3) 3) ≤ a3 then (k2 n1 (a2 + 1) J) else (f_X0_multiply_26 I k2 (f_X0_multiply_12 I k2 f) fu n1 a2 a3 0 0 J)
def f_X0_multiply_2 (I : zMi) : Nat → Nat → Int32 → zMl → Option zMl
  | 0, _, _, _ => none
  | f + 1, n1, a2, J => if (I (3) 3) ≤ a2 then (some J) else (f_X0_multiply_12 I (f_X0_multiply_2 I f) fu n1 a2 0 J)
def f_X0_multiply (n1 : Nat) (I : zMi) (J : zMl) : Option zMl :=
  f_X0_multiply_2 I fu n1 0 J
def rmX0_multiply : Room := { frames := 1, cells := 0, slots := 0, locals := 22 }
def f_X0_trace_4 (I : zMi) (J : zMl) : Nat → Int64 → Int32 → Option Int64
  | 0, _, _ => none
  | f + 1, a1, a3 => if (I (3) 3) ≤ a3 then (some a1) else (if ix ((a3 * (I (3) 3)) + a3) 144 then (f_X0_trace_4 I J f (a1 + (J (6) ((a3 * (I (3) 3)) + a3).toNatClampNeg)) (a3 + 1)) else none)
def f_X0_trace (I : zMi) (J : zMl) : Option Int64 :=
  f_X0_trace_4 I J fu 0 0
def rmX0_trace : Room := { frames := 0, cells := 0, slots := 0, locals := 0 }
def f_X0_takeProduct_13 (I : zMi) (k2 : Int64 → Int32 → zMl → Option zMl) : Nat → Int64 → Int32 → Int32 → zMl → Option zMl
  | 0, _, _, _, _ => none
  | f + 1, a1, a3, a4, J => if (I (3) 3) ≤ a4 then (k2 a1 (a3 + 1) J) else (if ix ((a3 * (I (3) 3)) + a4) 144 then (if a3 = a4 then (f_X0_takeProduct_13 I k2 f a1 a3 (a4 + 1) (wJ J (5) ((a3 * (I (3) 3)) + a4).toNatClampNeg ((J (6) ((a3 * (I (3) 3)) + a4).toNatClampNeg) + a1))) else (f_X0_takeProduct_13 I k2 f a1 a3 (a4 + 1) (wJ J (5) ((a3 * (I (3) 3)) + a4).toNatClampNeg ((J (6) ((a3 * (I (3) 3)) + a4).toNatClampNeg) + 0)))) else none)
def f_X0_takeProduct_2 (I : zMi) : Nat → Int64 → Int32 → zMl → Option zMl
  | 0, _, _, _ => none
  | f + 1, a1, a3, J => if (I (3) 3) ≤ a3 then (some J) else (f_X0_takeProduct_13 I (f_X0_takeProduct_2 I f) fu a1 a3 0 J)
def f_X0_takeProduct (a1 : Int64) (I : zMi) (J : zMl) : Option zMl :=
  f_X0_takeProduct_2 I fu a1 0 J
def rmX0_takeProduct : Room := { frames := 0, cells := 0, slots := 0, locals := 0 }
def f_X0_turnCoefficients_2 (I : zMi) : Nat → Int32 → zMl → Option zMl
  | 0, _, _ => none
  | f + 1, a1, J => if (I (3) 3) < a1 then (some J) else (if ix a1 13 then (f_X0_turnCoefficients_2 I f (a1 + 1) (wJ J (4) a1.toNatClampNeg (-(J (4) a1.toNatClampNeg)))) else none)
def f_X0_turnCoefficients (I : zMi) (J : zMl) : Option zMl :=
  f_X0_turnCoefficients_2 I fu 0 J
def rmX0_turnCoefficients : Room := { frames := 0, cells := 0, slots := 0, locals := 0 }
def f_X0_tellOf_24 : Nat → Nat → Int32 → zMi → zMl → Option (zMi × zMl)
  | 0, _, _, _, _ => none
  | f + 1, n1, a2, I, J => if (I (3) 3) < a2 then (if ((I (3) 3) - (I (3) 3) / 2 * 2) = 1 then ((f_X0_turnCoefficients I J).bind (fun x3 => some (I, x3))) else (some (I, J))) else ((f_X0_multiply n1 I J).bind (fun x4 => (f_X0_trace I x4).bind (fun x5 => if (a2.toInt64) = 0 then none else (if ix ((I (3) 3) - a2) 13 then ((f_X0_takeProduct ((-x5) / (a2.toInt64)) I (wJ x4 (4) ((I (3) 3) - a2).toNatClampNeg ((-x5) / (a2.toInt64)))).bind (fun x8 => f_X0_tellOf_24 f n1 (a2 + 1) I x8)) else none))))
def f_X0_tellOf (n1 : Nat) (I : zMi) (J : zMl) : Option (zMi × zMl) :=
  (f_X0_beginPart (wI I (3) 3 (I (22 + 3 * n1) 2)) J).bind (fun x1 => if ix ((wI I (3) 3 (I (22 + 3 * n1) 2)) (3) 3) 13 then (f_X0_tellOf_24 fu n1 1 (wI I (3) 3 (I (22 + 3 * n1) 2)) (wJ x1 (4) ((wI I (3) 3 (I (22 + 3 * n1) 2)) (3) 3).toNatClampNeg 1)) else none)
def rmX0_tellOf : Room := { frames := 2, cells := 0, slots := 0, locals := 48 }
def f_X0_valueAt_8 (I : zMi) (J : zMl) : Nat → Int32 → Int64 → Int32 → Option Int64
  | 0, _, _, _ => none
  | f + 1, a1, a2, a4 => if a4 < 0 then (some a2) else (if ix a4 13 then (f_X0_valueAt_8 I J f a1 ((a2 * (a1.toInt64)) + (J (4) a4.toNatClampNeg)) (a4 + (-1))) else none)
def f_X0_valueAt (a1 : Int32) (I : zMi) (J : zMl) : Option Int64 :=
  f_X0_valueAt_8 I J fu a1 0 (I (3) 3)
def rmX0_valueAt : Room := { frames := 0, cells := 0, slots := 0, locals := 0 }
def f_X0_divideBy_8 : Nat → Int32 → Int64 → Int32 → zMi → zMl → Option (zMi × zMl)
  | 0, _, _, _, _, _ => none
  | f + 1, a1, a2, a4, I, J => if a4 < 0 then (some ((wI I (3) 3 ((I (3) 3) - 1)), J)) else (if ix a4 13 then (f_X0_divideBy_8 f a1 ((J (4) a4.toNatClampNeg) + ((a1.toInt64) * a2)) (a4 + (-1)) I (wJ J (4) a4.toNatClampNeg a2)) else none)
def f_X0_divideBy (a1 : Int32) (I : zMi) (J : zMl) : Option (zMi × zMl) :=
  f_X0_divideBy_8 fu a1 0 (I (3) 3) I J
def rmX0_divideBy : Room := { frames := 0, cells := 0, slots := 0, locals := 0 }
def f_X0_takeRoots_7 : Nat → Int32 → Int32 → Int32 → zMi → zMl → Option (Int32 × zMi × zMl)
  | 0, _, _, _, _, _ => none
  | f + 1, a1, a2, a3, I, J => if a3 ≤ 0 then (some (a2, I, J)) else ((f_X0_valueAt a1 I J).bind (fun x2 => if (lg_cmp x2 0) = 0 then ((f_X0_divideBy a1 I J).bind (fun x4 => f_X0_takeRoots_7 f a1 (a2 + 1) (a3 + (-1)) x4.1 x4.2)) else (some (a2, I, J))))
def f_X0_takeRoots (a1 : Int32) (I : zMi) (J : zMl) : Option (Int32 × zMi × zMl) :=
  f_X0_takeRoots_7 fu a1 0 (I (3) 3) I J
def rmX0_takeRoots : Room := { frames := 1, cells := 0, slots := 0, locals := 26 }
def f_X1_isMissing (n0 : Nat) (I : zMi) : Int32 :=
  if 0 ≤ (I (10 + 2 * n0) 1) then 0 else 1
def rmX1_isMissing : Room := { frames := 0, cells := 0, slots := 0, locals := 0 }
def f_X1_end (n0 : Nat) (I : zMi) : zMi :=
  (wI I (10 + 2 * n0) 1 (-1))
def rmX1_end : Room := { frames := 0, cells := 0, slots := 0, locals := 0 }
def f_X1_beginSigns_7 : Nat → Nat → Int32 → Int32 → Int32 → zMi → Option zMi
  | 0, _, _, _, _, _ => none
  | f + 1, n0, a1, a2, a3, I => if a1 ≤ a3 then (some I) else (if ix a3 24 then (f_X1_beginSigns_7 f n0 a1 a2 (a3 + 1) (wI I (11 + 2 * n0) a3.toNatClampNeg (1 - (2 * ((a2 >>> (a3 &&& 31)) &&& 1))))) else none)
def f_X1_beginSigns (n0 : Nat) (a1 : Int32) (a2 : Int32) (I : zMi) : Option zMi :=
  f_X1_beginSigns_7 fu n0 a1 a2 0 (wI I (10 + 2 * n0) 1 a1)
def rmX1_beginSigns : Room := { frames := 0, cells := 0, slots := 0, locals := 0 }
def f_X1_hasPlaces (n0 : Nat) (a1 : Int32) (a2 : Int32) (I : zMi) : Int32 :=
  if a1 < 0 then 0 else (if 0 < (lg_cmp ((a1.toInt64) + (a2.toInt64)) ((I (10 + 2 * n0) 1).toInt64)) then 0 else 1)
def rmX1_hasPlaces : Room := { frames := 0, cells := 0, slots := 0, locals := 0 }
def f_X1_sum_4 (I : zMi) : Nat → Nat → Int64 → Int32 → Option Int64
  | 0, _, _, _ => none
  | f + 1, n0, a1, a3 => if (I (10 + 2 * n0) 1) ≤ a3 then (some a1) else (if ix a3 24 then (f_X1_sum_4 I f n0 (a1 + ((I (11 + 2 * n0) a3.toNatClampNeg).toInt64)) (a3 + 1)) else none)
def f_X1_sum (n0 : Nat) (I : zMi) : Option Int64 :=
  f_X1_sum_4 I fu n0 0 0
def rmX1_sum : Room := { frames := 0, cells := 0, slots := 0, locals := 0 }
def f_X1_isNumbers_2 (I : zMi) : Nat → Nat → Int32 → Option Int32
  | 0, _, _ => none
  | f + 1, n0, a1 => if (I (10 + 2 * n0) 1) ≤ a1 then (some 1) else (if ix a1 24 then (if (I (11 + 2 * n0) a1.toNatClampNeg) < (-1) then (some 0) else (if (I (11 + 2 * n0) a1.toNatClampNeg) ≤ 1 then (f_X1_isNumbers_2 I f n0 (a1 + 1)) else (some 0))) else none)
def f_X1_isNumbers (n0 : Nat) (I : zMi) : Option Int32 :=
  f_X1_isNumbers_2 I fu n0 0
def rmX1_isNumbers : Room := { frames := 0, cells := 0, slots := 0, locals := 0 }
def f_X1_isSigns_2 (I : zMi) : Nat → Nat → Int32 → Option Int32
  | 0, _, _ => none
  | f + 1, n0, a1 => if (I (10 + 2 * n0) 1) ≤ a1 then (some 1) else (if ix a1 24 then (if (I (11 + 2 * n0) a1.toNatClampNeg) = 1 then (f_X1_isSigns_2 I f n0 (a1 + 1)) else (if (I (11 + 2 * n0) a1.toNatClampNeg) = (-1) then (f_X1_isSigns_2 I f n0 (a1 + 1)) else (some 0))) else none)
def f_X1_isSigns (n0 : Nat) (I : zMi) : Option Int32 :=
  f_X1_isSigns_2 I fu n0 0
def rmX1_isSigns : Room := { frames := 0, cells := 0, slots := 0, locals := 0 }
def f_X1_isSignsBothWays_2 (I : zMi) : Nat → Nat → Int32 → Option Int32
  | 0, _, _ => none
  | f + 1, n0, a1 => if (I (10 + 2 * n0) 1) ≤ a1 then ((f_X1_isSigns n0 I).bind (fun x2 => some x2)) else (if ix a1 24 then (if ix ((I (10 + 2 * n0) 1) - a1) 24 then (if (I (11 + 2 * n0) a1.toNatClampNeg) = (I (11 + 2 * n0) ((I (10 + 2 * n0) 1) - a1).toNatClampNeg) then (f_X1_isSignsBothWays_2 I f n0 (a1 + 1)) else (some 0)) else none) else none)
def f_X1_isSignsBothWays (n0 : Nat) (I : zMi) : Option Int32 :=
  f_X1_isSignsBothWays_2 I fu n0 1
def rmX1_isSignsBothWays : Room := { frames := 1, cells := 0, slots := 0, locals := 21 }
def f_X1_minusBits_4 (I : zMi) : Nat → Nat → Int32 → Int32 → Option Int32
  | 0, _, _, _ => none
  | f + 1, n0, a1, a2 => if (I (10 + 2 * n0) 1) ≤ a2 then (some a1) else (if ix a2 24 then (if 0 ≤ (I (11 + 2 * n0) a2.toNatClampNeg) then (f_X1_minusBits_4 I f n0 a1 (a2 + 1)) else (f_X1_minusBits_4 I f n0 (a1 ||| ((1 : Int32) <<< (a2 &&& 31))) (a2 + 1))) else none)
def f_X1_minusBits (n0 : Nat) (I : zMi) : Option Int32 :=
  f_X1_minusBits_4 I fu n0 0 0
def rmX1_minusBits : Room := { frames := 0, cells := 0, slots := 0, locals := 0 }
def f_X1_addedTo_15 (I : zMi) : Nat → Nat → Int64 → Int32 → Option Int64
  | 0, _, _, _ => none
  | f + 1, n0, a3, a5 => if (I (10 + 2 * n0) 1) ≤ a5 then (some a3) else (if ix a5 24 then (f_X1_addedTo_15 I f n0 ((31 * a3) + ((I (11 + 2 * n0) a5.toNatClampNeg).toInt64)) (a5 + 1)) else none)
def f_X1_addedTo (n0 : Nat) (a1 : Int64) (I : zMi) : Option Int64 :=
  f_X1_addedTo_15 I fu n0 ((31 * a1) + ((I (10 + 2 * n0) 1).toInt64)) 0
def rmX1_addedTo : Room := { frames := 0, cells := 0, slots := 0, locals := 0 }
def f_X2_isMissing (n0 : Nat) (I : zMi) : Int32 :=
  if (I (22 + 3 * n0) 2) = 0 then 1 else 0
def rmX2_isMissing : Room := { frames := 0, cells := 0, slots := 0, locals := 0 }
def f_X2_end (n0 : Nat) (I : zMi) : zMi :=
  (wI (wI I (22 + 3 * n0) 2 0) (22 + 3 * n0) 3 0)
def rmX2_end : Room := { frames := 0, cells := 0, slots := 0, locals := 0 }
def f_X3_allBits (a0 : Int32) : Int32 :=
  (((1 : Int32) <<< (a0 &&& 31)) - 1)
def rmX3_allBits : Room := { frames := 0, cells := 0, slots := 0, locals := 0 }
def f_X2_begin_7 : Nat → Nat → Int32 → zMi → Option zMi
  | 0, _, _, _ => none
  | f + 1, n0, a2, I => if (I (22 + 3 * n0) 2) ≤ a2 then (some I) else (if ix a2 12 then (f_X2_begin_7 f n0 (a2 + 1) (wI (wI I (23 + 3 * n0) a2.toNatClampNeg (f_X3_allBits (I (22 + 3 * n0) 2))) (24 + 3 * n0) a2.toNatClampNeg 0)) else none)
def f_X2_begin (n0 : Nat) (a1 : Int32) (I : zMi) : Option zMi :=
  f_X2_begin_7 fu n0 0 (wI I (22 + 3 * n0) 2 a1)
def rmX2_begin : Room := { frames := 1, cells := 0, slots := 0, locals := 20 }
def f_X2_take_10 : Nat → Nat → Nat → Int32 → zMi → Option zMi
  | 0, _, _, _, _ => none
  | f + 1, n0, n1, a2, I => if (I (22 + 3 * n0) 2) ≤ a2 then (some I) else (if ix a2 12 then (f_X2_take_10 f n0 n1 (a2 + 1) (wI (wI I (23 + 3 * n0) a2.toNatClampNeg (I (23 + 3 * n1) a2.toNatClampNeg)) (24 + 3 * n0) a2.toNatClampNeg ((wI I (23 + 3 * n0) a2.toNatClampNeg (I (23 + 3 * n1) a2.toNatClampNeg)) (24 + 3 * n1) a2.toNatClampNeg))) else none)
def f_X2_take (n0 : Nat) (n1 : Nat) (I : zMi) : Option zMi :=
  f_X2_take_10 fu n0 n1 0 (wI I (22 + 3 * n0) 2 (I (22 + 3 * n1) 2))
def rmX2_take : Room := { frames := 0, cells := 0, slots := 0, locals := 0 }
def f_X2_hasLine (n0 : Nat) (a1 : Int32) (I : zMi) : Int32 :=
  if a1 < 0 then 0 else (if (I (22 + 3 * n0) 2) ≤ a1 then 0 else 1)
def rmX2_hasLine : Room := { frames := 0, cells := 0, slots := 0, locals := 0 }
def f_X2_isBeyond (n0 : Nat) (a1 : Int32) (I : zMi) : Int32 :=
  if (a1 &&& ((f_X3_allBits (I (22 + 3 * n0) 2)) ^^^ (-1))) = 0 then 0 else 1
def rmX2_isBeyond : Room := { frames := 1, cells := 0, slots := 0, locals := 20 }
def f_X2_write_37 (n0 : Nat) (a1 : Int32) (a3 : Int32) (a4 : Int32) (s0 : Int32) (s1 : Int32) (I : zMi) : Option zMi :=
  if ix s1 12 then (if 0 ≤ a3 then (if ix a1 12 then (some (wI (wI I (23 + 3 * n0) s1.toNatClampNeg s0) (24 + 3 * n0) a1.toNatClampNeg (((wI I (23 + 3 * n0) s1.toNatClampNeg s0) (24 + 3 * n0) a1.toNatClampNeg) &&& (a4 ^^^ (-1))))) else none) else (if ix a1 12 then (some (wI (wI I (23 + 3 * n0) s1.toNatClampNeg s0) (24 + 3 * n0) a1.toNatClampNeg (((wI I (23 + 3 * n0) s1.toNatClampNeg s0) (24 + 3 * n0) a1.toNatClampNeg) ||| a4))) else none)) else none
def f_X2_write (n0 : Nat) (a1 : Int32) (a2 : Int32) (a3 : Int32) (I : zMi) : Option zMi :=
  if a3 ≤ 0 then (if ix a1 12 then (f_X2_write_37 n0 a1 a3 ((1 : Int32) <<< (a2 &&& 31)) ((I (23 + 3 * n0) a1.toNatClampNeg) &&& (((1 : Int32) <<< (a2 &&& 31)) ^^^ (-1))) a1 I) else none) else (if ix a1 12 then (f_X2_write_37 n0 a1 a3 ((1 : Int32) <<< (a2 &&& 31)) ((I (23 + 3 * n0) a1.toNatClampNeg) ||| ((1 : Int32) <<< (a2 &&& 31))) a1 I) else none)
def rmX2_write : Room := { frames := 0, cells := 0, slots := 0, locals := 0 }
def f_X2_isSigns_2 (I : zMi) : Nat → Nat → Int32 → Option Int32
  | 0, _, _ => none
  | f + 1, n0, a1 => if (I (22 + 3 * n0) 2) ≤ a1 then (some 1) else (if ix a1 12 then (if ((I (23 + 3 * n0) a1.toNatClampNeg) ||| (I (24 + 3 * n0) a1.toNatClampNeg)) = (f_X3_allBits (I (22 + 3 * n0) 2)) then (f_X2_isSigns_2 I f n0 (a1 + 1)) else (some 0)) else none)
def f_X2_isSigns (n0 : Nat) (I : zMi) : Option Int32 :=
  f_X2_isSigns_2 I fu n0 0
def rmX2_isSigns : Room := { frames := 1, cells := 0, slots := 0, locals := 20 }
def f_J6_bitCount (a0 : Int32) : Int32 :=
  ((((((((a0 - ((((a0).toUInt32 >>> ((1 : Int32).toUInt32 &&& Int32.toUInt32 31)).toInt32) &&& 1431655765)) &&& 858993459) + (((((a0 - ((((a0).toUInt32 >>> ((1 : Int32).toUInt32 &&& Int32.toUInt32 31)).toInt32) &&& 1431655765))).toUInt32 >>> ((2 : Int32).toUInt32 &&& Int32.toUInt32 31)).toInt32) &&& 858993459)) + ((((((a0 - ((((a0).toUInt32 >>> ((1 : Int32).toUInt32 &&& Int32.toUInt32 31)).toInt32) &&& 1431655765)) &&& 858993459) + (((((a0 - ((((a0).toUInt32 >>> ((1 : Int32).toUInt32 &&& Int32.toUInt32 31)).toInt32) &&& 1431655765))).toUInt32 >>> ((2 : Int32).toUInt32 &&& Int32.toUInt32 31)).toInt32) &&& 858993459))).toUInt32 >>> ((4 : Int32).toUInt32 &&& Int32.toUInt32 31)).toInt32)) &&& 252645135) + ((((((((a0 - ((((a0).toUInt32 >>> ((1 : Int32).toUInt32 &&& Int32.toUInt32 31)).toInt32) &&& 1431655765)) &&& 858993459) + (((((a0 - ((((a0).toUInt32 >>> ((1 : Int32).toUInt32 &&& Int32.toUInt32 31)).toInt32) &&& 1431655765))).toUInt32 >>> ((2 : Int32).toUInt32 &&& Int32.toUInt32 31)).toInt32) &&& 858993459)) + ((((((a0 - ((((a0).toUInt32 >>> ((1 : Int32).toUInt32 &&& Int32.toUInt32 31)).toInt32) &&& 1431655765)) &&& 858993459) + (((((a0 - ((((a0).toUInt32 >>> ((1 : Int32).toUInt32 &&& Int32.toUInt32 31)).toInt32) &&& 1431655765))).toUInt32 >>> ((2 : Int32).toUInt32 &&& Int32.toUInt32 31)).toInt32) &&& 858993459))).toUInt32 >>> ((4 : Int32).toUInt32 &&& Int32.toUInt32 31)).toInt32)) &&& 252645135)).toUInt32 >>> ((8 : Int32).toUInt32 &&& Int32.toUInt32 31)).toInt32)) + (((((((((a0 - ((((a0).toUInt32 >>> ((1 : Int32).toUInt32 &&& Int32.toUInt32 31)).toInt32) &&& 1431655765)) &&& 858993459) + (((((a0 - ((((a0).toUInt32 >>> ((1 : Int32).toUInt32 &&& Int32.toUInt32 31)).toInt32) &&& 1431655765))).toUInt32 >>> ((2 : Int32).toUInt32 &&& Int32.toUInt32 31)).toInt32) &&& 858993459)) + ((((((a0 - ((((a0).toUInt32 >>> ((1 : Int32).toUInt32 &&& Int32.toUInt32 31)).toInt32) &&& 1431655765)) &&& 858993459) + (((((a0 - ((((a0).toUInt32 >>> ((1 : Int32).toUInt32 &&& Int32.toUInt32 31)).toInt32) &&& 1431655765))).toUInt32 >>> ((2 : Int32).toUInt32 &&& Int32.toUInt32 31)).toInt32) &&& 858993459))).toUInt32 >>> ((4 : Int32).toUInt32 &&& Int32.toUInt32 31)).toInt32)) &&& 252645135) + ((((((((a0 - ((((a0).toUInt32 >>> ((1 : Int32).toUInt32 &&& Int32.toUInt32 31)).toInt32) &&& 1431655765)) &&& 858993459) + (((((a0 - ((((a0).toUInt32 >>> ((1 : Int32).toUInt32 &&& Int32.toUInt32 31)).toInt32) &&& 1431655765))).toUInt32 >>> ((2 : Int32).toUInt32 &&& Int32.toUInt32 31)).toInt32) &&& 858993459)) + ((((((a0 - ((((a0).toUInt32 >>> ((1 : Int32).toUInt32 &&& Int32.toUInt32 31)).toInt32) &&& 1431655765)) &&& 858993459) + (((((a0 - ((((a0).toUInt32 >>> ((1 : Int32).toUInt32 &&& Int32.toUInt32 31)).toInt32) &&& 1431655765))).toUInt32 >>> ((2 : Int32).toUInt32 &&& Int32.toUInt32 31)).toInt32) &&& 858993459))).toUInt32 >>> ((4 : Int32).toUInt32 &&& Int32.toUInt32 31)).toInt32)) &&& 252645135)).toUInt32 >>> ((8 : Int32).toUInt32 &&& Int32.toUInt32 31)).toInt32))).toUInt32 >>> ((16 : Int32).toUInt32 &&& Int32.toUInt32 31)).toInt32)) &&& 63)
def rmJ6_bitCount : Room := { frames := 0, cells := 0, slots := 0, locals := 0 }
def f_X2_balancedPairs_14 (I : zMi) (k4 : Nat → Int32 → Int32 → Option Int32) : Nat → Nat → Int32 → Int32 → Int32 → Option Int32
  | 0, _, _, _, _ => none
  | f + 1, n0, a1, a2, a3 => if a2 ≤ a3 then (k4 n0 a1 (a2 + 1)) else (if ix a2 12 then (if ix a3 12 then (if (f_J6_bitCount (((I (23 + 3 * n0) a2.toNatClampNeg) &&& (I (23 + 3 * n0) a3.toNatClampNeg)) ||| ((I (24 + 3 * n0) a2.toNatClampNeg) &&& (I (24 + 3 * n0) a3.toNatClampNeg)))) = (f_J6_bitCount (((I (23 + 3 * n0) a2.toNatClampNeg) &&& (I (24 + 3 * n0) a3.toNatClampNeg)) ||| ((I (24 + 3 * n0) a2.toNatClampNeg) &&& (I (23 + 3 * n0) a3.toNatClampNeg)))) then (f_X2_balancedPairs_14 I k4 f n0 (a1 + 1) a2 (a3 + 1)) else (f_X2_balancedPairs_14 I k4 f n0 a1 a2 (a3 + 1))) else none) else none)
def f_X2_balancedPairs_4 (I : zMi) : Nat → Nat → Int32 → Int32 → Option Int32
  | 0, _, _, _ => none
  | f + 1, n0, a1, a2 => if (I (22 + 3 * n0) 2) ≤ a2 then (some a1) else (f_X2_balancedPairs_14 I (f_X2_balancedPairs_4 I f) fu n0 a1 a2 0)
def f_X2_balancedPairs (n0 : Nat) (I : zMi) : Option Int32 :=
  f_X2_balancedPairs_4 I fu n0 0 0
def rmX2_balancedPairs : Room := { frames := 1, cells := 0, slots := 0, locals := 20 }
def f_X2_rowsBalance (n0 : Nat) (I : zMi) : Option Int32 :=
  (f_X2_balancedPairs n0 I).bind (fun x1 => if x1 = (((I (22 + 3 * n0) 2) * ((I (22 + 3 * n0) 2) - 1)) / 2) then (some 1) else (some 0))
def rmX2_rowsBalance : Room := { frames := 2, cells := 0, slots := 0, locals := 45 }
def f_X2_rowsMoveOn_2 (I : zMi) : Nat → Nat → Int32 → Option Int32
  | 0, _, _ => none
  | f + 1, n0, a1 => if (I (22 + 3 * n0) 2) ≤ a1 then (some 1) else (if ix (a1 - 1) 12 then (if ix a1 12 then (if (I (24 + 3 * n0) a1.toNatClampNeg) = ((((I (24 + 3 * n0) (a1 - 1).toNatClampNeg) <<< ((1 : Int32) &&& 31)) ||| ((I (24 + 3 * n0) (a1 - 1).toNatClampNeg) >>> (((I (22 + 3 * n0) 2) - 1) &&& 31))) &&& (f_X3_allBits (I (22 + 3 * n0) 2))) then (f_X2_rowsMoveOn_2 I f n0 (a1 + 1)) else (some 0)) else none) else none)
def f_X2_rowsMoveOn (n0 : Nat) (I : zMi) : Option Int32 :=
  f_X2_rowsMoveOn_2 I fu n0 1
def rmX2_rowsMoveOn : Room := { frames := 1, cells := 0, slots := 0, locals := 20 }
def f_X2_minusOfColumn_4 (I : zMi) : Nat → Nat → Int32 → Int32 → Int32 → Option Int32
  | 0, _, _, _, _ => none
  | f + 1, n0, a1, a2, a3 => if (I (22 + 3 * n0) 2) ≤ a3 then (some a2) else (if ix a3 12 then (f_X2_minusOfColumn_4 I f n0 a1 (a2 ||| ((((I (24 + 3 * n0) a3.toNatClampNeg) >>> (a1 &&& 31)) &&& 1) <<< (a3 &&& 31))) (a3 + 1)) else none)
def f_X2_minusOfColumn (n0 : Nat) (a1 : Int32) (I : zMi) : Option Int32 :=
  f_X2_minusOfColumn_4 I fu n0 a1 0 0
def rmX2_minusOfColumn : Room := { frames := 0, cells := 0, slots := 0, locals := 0 }
def f_X2_isGraph_2 (I : zMi) : Nat → Nat → Int32 → Option Int32
  | 0, _, _ => none
  | f + 1, n0, a1 => if (I (22 + 3 * n0) 2) ≤ a1 then (some 1) else (if ix a1 12 then (if ((I (23 + 3 * n0) a1.toNatClampNeg) ||| (I (24 + 3 * n0) a1.toNatClampNeg)) = ((f_X3_allBits (I (22 + 3 * n0) 2)) - ((1 : Int32) <<< (a1 &&& 31))) then ((f_X2_minusOfColumn n0 a1 I).bind (fun x4 => if (I (24 + 3 * n0) a1.toNatClampNeg) = x4 then (f_X2_isGraph_2 I f n0 (a1 + 1)) else (some 0))) else (some 0)) else none)
def f_X2_isGraph (n0 : Nat) (I : zMi) : Option Int32 :=
  f_X2_isGraph_2 I fu n0 0
def rmX2_isGraph : Room := { frames := 1, cells := 0, slots := 0, locals := 23 }
def f_X2_commonOfFirstPair_12 (I : zMi) (k2 : Nat → Int32 → Int32 → Option Int32) : Nat → Nat → Int32 → Int32 → Int32 → Option Int32
  | 0, _, _, _, _ => none
  | f + 1, n0, a1, a2, a3 => if a2 ≤ a3 then (k2 n0 a1 (a2 + 1)) else (if ix a2 12 then (if (((I (24 + 3 * n0) a2.toNatClampNeg) >>> (a3 &&& 31)) &&& 1) = a1 then (if ix a3 12 then (some (f_J6_bitCount ((I (24 + 3 * n0) a2.toNatClampNeg) &&& (I (24 + 3 * n0) a3.toNatClampNeg)))) else none) else (f_X2_commonOfFirstPair_12 I k2 f n0 a1 a2 (a3 + 1))) else none)
def f_X2_commonOfFirstPair_2 (I : zMi) : Nat → Nat → Int32 → Int32 → Option Int32
  | 0, _, _, _ => none
  | f + 1, n0, a1, a2 => if (I (22 + 3 * n0) 2) ≤ a2 then (some (-9)) else (f_X2_commonOfFirstPair_12 I (f_X2_commonOfFirstPair_2 I f) fu n0 a1 a2 0)
def f_X2_commonOfFirstPair (n0 : Nat) (a1 : Int32) (I : zMi) : Option Int32 :=
  f_X2_commonOfFirstPair_2 I fu n0 a1 0
def rmX2_commonOfFirstPair : Room := { frames := 1, cells := 0, slots := 0, locals := 20 }
def f_X2_neighbours (n0 : Nat) (a1 : Int32) (I : zMi) : Option Int32 :=
  if ix a1 12 then (some (f_J6_bitCount (I (24 + 3 * n0) a1.toNatClampNeg))) else none
def rmX2_neighbours : Room := { frames := 1, cells := 0, slots := 0, locals := 20 }
def f_X2_isEven_40 (I : zMi) (k14 : Nat → Int32 → Int32 → Int32 → Option Int32) : Nat → Nat → Int32 → Int32 → Int32 → Int32 → Option Int32
  | 0, _, _, _, _, _ => none
  | f + 1, n0, a1, a2, a3, a4 => if a3 ≤ a4 then (k14 n0 a1 a2 (a3 + 1)) else (if ix a3 12 then (if (((I (24 + 3 * n0) a3.toNatClampNeg) >>> (a4 &&& 31)) &&& 1) = 1 then (if ix a4 12 then (if (f_J6_bitCount ((I (24 + 3 * n0) a3.toNatClampNeg) &&& (I (24 + 3 * n0) a4.toNatClampNeg))) = a1 then (f_X2_isEven_40 I k14 f n0 a1 a2 a3 (a4 + 1)) else (some 0)) else none) else (if ix a4 12 then (if (f_J6_bitCount ((I (24 + 3 * n0) a3.toNatClampNeg) &&& (I (24 + 3 * n0) a4.toNatClampNeg))) = a2 then (f_X2_isEven_40 I k14 f n0 a1 a2 a3 (a4 + 1)) else (some 0)) else none)) else none)
def f_X2_isEven_14 (I : zMi) : Nat → Nat → Int32 → Int32 → Int32 → Option Int32
  | 0, _, _, _, _ => none
  | f + 1, n0, a1, a2, a3 => if (I (22 + 3 * n0) 2) ≤ a3 then (some 1) else ((f_X2_neighbours n0 a3 I).bind (fun x2 => (f_X2_neighbours n0 0 I).bind (fun x3 => if x2 = x3 then (f_X2_isEven_40 I (f_X2_isEven_14 I f) fu n0 a1 a2 a3 0) else (some 0))))
def f_X2_isEven (n0 : Nat) (I : zMi) : Option Int32 :=
  (f_X2_commonOfFirstPair n0 1 I).bind (fun x1 => (f_X2_commonOfFirstPair n0 0 I).bind (fun x2 => f_X2_isEven_14 I fu n0 x1 x2 0))
def rmX2_isEven : Room := { frames := 2, cells := 0, slots := 0, locals := 43 }
def f_X2_judged_33 (n0 : Nat) (I : zMi) : Option (Int32 × zMi) :=
  (f_X2_isGraph n0 I).bind (fun x1 => if x1 = 0 then (some (((wI I (22 + 3 * n0) 3 0) (22 + 3 * n0) 3), (wI I (22 + 3 * n0) 3 0))) else ((f_X2_isEven n0 I).bind (fun x3 => if x3 = 0 then (some (((wI I (22 + 3 * n0) 3 3) (22 + 3 * n0) 3), (wI I (22 + 3 * n0) 3 3))) else (some (((wI I (22 + 3 * n0) 3 4) (22 + 3 * n0) 3), (wI I (22 + 3 * n0) 3 4))))))
def f_X2_judged (n0 : Nat) (I : zMi) : Option (Int32 × zMi) :=
  (f_X2_isSigns n0 I).bind (fun x1 => if x1 = 0 then (f_X2_judged_33 n0 I) else ((f_X2_rowsBalance n0 I).bind (fun x3 => if x3 = 0 then (f_X2_judged_33 n0 I) else ((f_X2_rowsMoveOn n0 I).bind (fun x5 => if x5 = 0 then (some (((wI I (22 + 3 * n0) 3 1) (22 + 3 * n0) 3), (wI I (22 + 3 * n0) 3 1))) else (some (((wI I (22 + 3 * n0) 3 2) (22 + 3 * n0) 3), (wI I (22 + 3 * n0) 3 2))))))))
def rmX2_judged : Room := { frames := 3, cells := 0, slots := 0, locals := 68 }
def f_X2_isOfKind (n0 : Nat) (a1 : Int32) (I : zMi) : Int32 :=
  if a1 = 0 then 1 else (if (I (22 + 3 * n0) 3) = a1 then 1 else (if a1 = 1 then (if (I (22 + 3 * n0) 3) = 2 then 1 else (if a1 = 3 then (if (I (22 + 3 * n0) 3) = 4 then 1 else 0) else 0)) else (if a1 = 3 then (if (I (22 + 3 * n0) 3) = 4 then 1 else 0) else 0)))
def rmX2_isOfKind : Room := { frames := 0, cells := 0, slots := 0, locals := 0 }
def f_X2_isNormal (n0 : Nat) (I : zMi) : Option Int32 :=
  (f_X2_isSigns n0 I).bind (fun x1 => if x1 = 0 then (some 0) else (if (I (24 + 3 * n0) (0 : Int32).toNatClampNeg) = 0 then ((f_X2_minusOfColumn n0 0 I).bind (fun x4 => if x4 = 0 then (some 1) else (some 0))) else (some 0)))
def rmX2_isNormal : Room := { frames := 2, cells := 0, slots := 0, locals := 41 }
def f_X2_turnColumns_2 : Nat → Nat → Int32 → Int32 → zMi → Option zMi
  | 0, _, _, _, _ => none
  | f + 1, n0, a1, a2, I => if (I (22 + 3 * n0) 2) ≤ a2 then (some I) else (if ix a2 12 then (f_X2_turnColumns_2 f n0 a1 (a2 + 1) (wI (wI I (23 + 3 * n0) a2.toNatClampNeg ((I (23 + 3 * n0) a2.toNatClampNeg) ^^^ (((I (23 + 3 * n0) a2.toNatClampNeg) ^^^ (I (24 + 3 * n0) a2.toNatClampNeg)) &&& a1))) (24 + 3 * n0) a2.toNatClampNeg (((wI I (23 + 3 * n0) a2.toNatClampNeg ((I (23 + 3 * n0) a2.toNatClampNeg) ^^^ (((I (23 + 3 * n0) a2.toNatClampNeg) ^^^ (I (24 + 3 * n0) a2.toNatClampNeg)) &&& a1))) (24 + 3 * n0) a2.toNatClampNeg) ^^^ (((I (23 + 3 * n0) a2.toNatClampNeg) ^^^ (I (24 + 3 * n0) a2.toNatClampNeg)) &&& a1)))) else none)
def f_X2_turnColumns (n0 : Nat) (a1 : Int32) (I : zMi) : Option zMi :=
  f_X2_turnColumns_2 fu n0 a1 0 I
def rmX2_turnColumns : Room := { frames := 0, cells := 0, slots := 0, locals := 0 }
def f_X2_turnRows_2 : Nat → Nat → Int32 → Int32 → zMi → Option zMi
  | 0, _, _, _, _ => none
  | f + 1, n0, a1, a2, I => if (I (22 + 3 * n0) 2) ≤ a2 then (some I) else (if ((a1 >>> (a2 &&& 31)) &&& 1) = 1 then (if ix a2 12 then (f_X2_turnRows_2 f n0 a1 (a2 + 1) (wI (wI I (23 + 3 * n0) a2.toNatClampNeg (I (24 + 3 * n0) a2.toNatClampNeg)) (24 + 3 * n0) a2.toNatClampNeg (I (23 + 3 * n0) a2.toNatClampNeg))) else none) else (f_X2_turnRows_2 f n0 a1 (a2 + 1) I))
def f_X2_turnRows (n0 : Nat) (a1 : Int32) (I : zMi) : Option zMi :=
  f_X2_turnRows_2 fu n0 a1 0 I
def rmX2_turnRows : Room := { frames := 0, cells := 0, slots := 0, locals := 0 }
def f_X2_exchangeRows (n0 : Nat) (a1 : Int32) (a2 : Int32) (I : zMi) : Option zMi :=
  if ix a1 12 then (if ix a2 12 then (some (wI (wI (wI (wI I (23 + 3 * n0) a1.toNatClampNeg (I (23 + 3 * n0) a2.toNatClampNeg)) (24 + 3 * n0) a1.toNatClampNeg ((wI I (23 + 3 * n0) a1.toNatClampNeg (I (23 + 3 * n0) a2.toNatClampNeg)) (24 + 3 * n0) a2.toNatClampNeg)) (23 + 3 * n0) a2.toNatClampNeg (I (23 + 3 * n0) a1.toNatClampNeg)) (24 + 3 * n0) a2.toNatClampNeg (I (24 + 3 * n0) a1.toNatClampNeg))) else none) else none
def rmX2_exchangeRows : Room := { frames := 0, cells := 0, slots := 0, locals := 0 }
def f_X2_exchangeColumns_2 : Nat → Nat → Int32 → Int32 → Int32 → zMi → Option zMi
  | 0, _, _, _, _, _ => none
  | f + 1, n0, a1, a2, a3, I => if (I (22 + 3 * n0) 2) ≤ a3 then (some I) else ((f_X2_number n0 a3 a1 I).bind (fun x2 => (f_X2_number n0 a3 a2 I).bind (fun x3 => (f_X2_write n0 a3 a1 x3 I).bind (fun x4 => (f_X2_write n0 a3 a2 x2 x4).bind (fun x5 => f_X2_exchangeColumns_2 f n0 a1 a2 (a3 + 1) x5)))))
def f_X2_exchangeColumns (n0 : Nat) (a1 : Int32) (a2 : Int32) (I : zMi) : Option zMi :=
  f_X2_exchangeColumns_2 fu n0 a1 a2 0 I
def rmX2_exchangeColumns : Room := { frames := 1, cells := 0, slots := 0, locals := 24 }
def f_X2_beginFlipped_20 (k10 : Nat → Nat → Int32 → zMi → Option zMi) : Nat → Nat → Nat → Int32 → Int32 → zMi → Option zMi
  | 0, _, _, _, _, _ => none
  | f + 1, n0, n1, a2, a3, I => if (I (22 + 3 * n0) 2) ≤ a3 then (k10 n0 n1 (a2 + 1) I) else ((f_X2_number n1 a3 a2 I).bind (fun x2 => (f_X2_write n0 a2 a3 x2 I).bind (fun x3 => f_X2_beginFlipped_20 k10 f n0 n1 a2 (a3 + 1) x3)))
def f_X2_beginFlipped_10 : Nat → Nat → Nat → Int32 → zMi → Option zMi
  | 0, _, _, _, _ => none
  | f + 1, n0, n1, a2, I => if (I (22 + 3 * n0) 2) ≤ a2 then (some I) else (f_X2_beginFlipped_20 (f_X2_beginFlipped_10 f) fu n0 n1 a2 0 I)
def f_X2_beginFlipped (n0 : Nat) (n1 : Nat) (I : zMi) : Option zMi :=
  (f_X2_begin n0 (I (22 + 3 * n1) 2) I).bind (fun x1 => f_X2_beginFlipped_10 fu n0 n1 0 x1)
def rmX2_beginFlipped : Room := { frames := 2, cells := 0, slots := 0, locals := 42 }
def f_X2_beginProduct_30 (k18 : Nat → Nat → Nat → Int32 → Int32 → zMi → Option zMi) : Nat → Nat → Nat → Nat → Int32 → Int32 → Int32 → zMi → Option zMi
  | 0, _, _, _, _, _, _, _ => none
  | f + 1, n0, n1, n2, a3, a4, a5, I => if (I (22 + 3 * n0) 2) ≤ a5 then (k18 n0 n1 n2 a3 (a4 + 1) I) else (if a3 = 0 then none else ((f_X2_number n1 (a4 / a3) (a5 / a3) I).bind (fun x3 => (f_X2_number n2 (a4 - a4 / a3 * a3) (a5 - a5 / a3 * a3) I).bind (fun x4 => (f_X2_write n0 a4 a5 (x3 * x4) I).bind (fun x5 => f_X2_beginProduct_30 k18 f n0 n1 n2 a3 a4 (a5 + 1) x5)))))
def f_X2_beginProduct_18 : Nat → Nat → Nat → Nat → Int32 → Int32 → zMi → Option zMi
  | 0, _, _, _, _, _, _ => none
  | f + 1, n0, n1, n2, a3, a4, I => if (I (22 + 3 * n0) 2) ≤ a4 then (some I) else (f_X2_beginProduct_30 (f_X2_beginProduct_18 f) fu n0 n1 n2 a3 a4 0 I)
def f_X2_beginProduct (n0 : Nat) (n1 : Nat) (n2 : Nat) (I : zMi) : Option zMi :=
  (f_X2_begin n0 ((I (22 + 3 * n1) 2) * (I (22 + 3 * n2) 2)) I).bind (fun x1 => f_X2_beginProduct_18 fu n0 n1 n2 (I (22 + 3 * n2) 2) 0 x1)
def rmX2_beginProduct : Room := { frames := 2, cells := 0, slots := 0, locals := 42 }
def f_J9_abs (a0 : Int32) : Int32 :=
  if 0 ≤ a0 then a0 else (-a0)
def rmJ9_abs : Room := { frames := 0, cells := 0, slots := 0, locals := 0 }
def f_X2_commonOf_4 (I : zMi) : Nat → Nat → Int32 → Int32 → Int32 → Option Int32
  | 0, _, _, _, _ => none
  | f + 1, n0, a1, a2, a3 => if (I (22 + 3 * n0) 2) ≤ a3 then (some (f_J9_abs ((I (22 + 3 * n0) 2) - (2 * (f_J6_bitCount a2))))) else (if ((a1 >>> (a3 &&& 31)) &&& 1) = 1 then (if ix a3 12 then (f_X2_commonOf_4 I f n0 a1 (a2 ^^^ (I (24 + 3 * n0) a3.toNatClampNeg)) (a3 + 1)) else none) else (f_X2_commonOf_4 I f n0 a1 a2 (a3 + 1)))
def f_X2_commonOf (n0 : Nat) (a1 : Int32) (I : zMi) : Option Int32 :=
  f_X2_commonOf_4 I fu n0 a1 0 0
def rmX2_commonOf : Room := { frames := 1, cells := 0, slots := 0, locals := 20 }
def f_X2_addProfile_3 : Nat → Nat → Int32 → Int32 → Int32 → zMi → Option zMi
  | 0, _, _, _, _, _ => none
  | f + 1, n0, a1, a3, a4, I => if ((1 : Int32) <<< ((I (22 + 3 * n0) 2) &&& 31)) ≤ a4 then (some I) else (if (f_J6_bitCount a4) = a1 then ((f_X2_commonOf n0 a4 I).bind (fun x3 => if ix x3 13 then (f_X2_addProfile_3 f n0 a1 a3 (a4 + 1) (wI I (7) x3.toNatClampNeg ((I (7) x3.toNatClampNeg) + a3))) else none)) else (f_X2_addProfile_3 f n0 a1 a3 (a4 + 1) I))
def f_X2_addProfile (n0 : Nat) (a1 : Int32) (a3 : Int32) (I : zMi) : Option zMi :=
  f_X2_addProfile_3 fu n0 a1 a3 0 I
def rmX2_addProfile : Room := { frames := 2, cells := 0, slots := 0, locals := 43 }
def f_X2_rowSum (n0 : Nat) (a1 : Int32) (a2 : Int32) (I : zMi) : Option Int32 :=
  if ix a1 12 then (some (((f_J6_bitCount (I (23 + 3 * n0) a1.toNatClampNeg)) - (f_J6_bitCount (I (24 + 3 * n0) a1.toNatClampNeg))) - (2 * ((f_J6_bitCount ((I (23 + 3 * n0) a1.toNatClampNeg) &&& a2)) - (f_J6_bitCount ((I (24 + 3 * n0) a1.toNatClampNeg) &&& a2)))))) else none
def rmX2_rowSum : Room := { frames := 1, cells := 0, slots := 0, locals := 20 }
def f_X2_sumOfSizes_4 (I : zMi) : Nat → Nat → Int32 → Int32 → Int32 → Option Int32
  | 0, _, _, _, _ => none
  | f + 1, n0, a1, a2, a3 => if (I (22 + 3 * n0) 2) ≤ a3 then (some a2) else ((f_X2_rowSum n0 a3 a1 I).bind (fun x2 => f_X2_sumOfSizes_4 I f n0 a1 (a2 + (f_J9_abs x2)) (a3 + 1)))
def f_X2_sumOfSizes (n0 : Nat) (a1 : Int32) (I : zMi) : Option Int32 :=
  f_X2_sumOfSizes_4 I fu n0 a1 0 0
def rmX2_sumOfSizes : Room := { frames := 2, cells := 0, slots := 0, locals := 42 }
def f_J9_max (a0 : Int32) (a1 : Int32) : Int32 :=
  if a0 < a1 then a1 else a0
def rmJ9_max : Room := { frames := 0, cells := 0, slots := 0, locals := 0 }
def f_X2_greatestSize_5 (I : zMi) : Nat → Nat → Int32 → Int32 → Int32 → Int32 → Option Int32
  | 0, _, _, _, _, _ => none
  | f + 1, n0, a1, a2, a3, a4 => if (I (22 + 3 * n0) 2) ≤ a4 then (some a3) else (if a2 ≤ a3 then (some a3) else ((f_X2_rowSum n0 a4 a1 I).bind (fun x3 => f_X2_greatestSize_5 I f n0 a1 a2 (f_J9_max a3 (f_J9_abs x3)) (a4 + 1))))
def f_X2_greatestSize (n0 : Nat) (a1 : Int32) (a2 : Int32) (I : zMi) : Option Int32 :=
  f_X2_greatestSize_5 I fu n0 a1 a2 0 0
def rmX2_greatestSize : Room := { frames := 2, cells := 0, slots := 0, locals := 42 }
def f_X2_normalPlus (n0 : Nat) (a1 : Int32) (I : zMi) : Option Int32 :=
  if ix a1 12 then (if (((I (24 + 3 * n0) a1.toNatClampNeg) ^^^ (I (24 + 3 * n0) (0 : Int32).toNatClampNeg)) &&& 1) = 1 then (some (((I (24 + 3 * n0) a1.toNatClampNeg) ^^^ (I (24 + 3 * n0) (0 : Int32).toNatClampNeg)) &&& (f_X3_allBits (I (22 + 3 * n0) 2)))) else (some ((((I (24 + 3 * n0) a1.toNatClampNeg) ^^^ (I (24 + 3 * n0) (0 : Int32).toNatClampNeg)) ^^^ (-1)) &&& (f_X3_allBits (I (22 + 3 * n0) 2))))) else none
def rmX2_normalPlus : Room := { frames := 1, cells := 0, slots := 0, locals := 20 }
def f_X2_columnsTold_20 (I : zMi) (k5 : Nat → Int32 → Int32 → Int32 → Int32 → Option Int32) : Nat → Nat → Int32 → Int32 → Int32 → Int32 → Int32 → Int32 → Option Int32
  | 0, _, _, _, _, _, _, _ => none
  | f + 1, n0, a1, a2, a3, a4, a5, a6 => if (I (22 + 3 * n0) 2) ≤ a6 then (if (a5 &&& 1) = 1 then (k5 n0 a1 a2 (a3 + ((1 : Int32) <<< ((3 * ((a5 ^^^ (f_X3_allBits (I (22 + 3 * n0) 2))) >>> ((1 : Int32) &&& 31))) &&& 31))) (a4 + 1)) else (k5 n0 a1 a2 (a3 + ((1 : Int32) <<< ((3 * (a5 >>> ((1 : Int32) &&& 31))) &&& 31))) (a4 + 1))) else (if ix ((a1 >>> ((2 * a6) &&& 31)) &&& 3) 12 then (f_X2_columnsTold_20 I k5 f n0 a1 a2 a3 a4 (a5 ^^^ ((((I (24 + 3 * n0) ((a1 >>> ((2 * a6) &&& 31)) &&& 3).toNatClampNeg) >>> (a4 &&& 31)) &&& 1) <<< (a6 &&& 31))) (a6 + 1)) else none)
def f_X2_columnsTold_5 (I : zMi) : Nat → Nat → Int32 → Int32 → Int32 → Int32 → Option Int32
  | 0, _, _, _, _, _ => none
  | f + 1, n0, a1, a2, a3, a4 => if (I (22 + 3 * n0) 2) ≤ a4 then (some a3) else (f_X2_columnsTold_20 I (f_X2_columnsTold_5 I f) fu n0 a1 a2 a3 a4 a2 0)
def f_X2_columnsTold (n0 : Nat) (a1 : Int32) (a2 : Int32) (I : zMi) : Option Int32 :=
  f_X2_columnsTold_5 I fu n0 a1 a2 0 0
def rmX2_columnsTold : Room := { frames := 1, cells := 0, slots := 0, locals := 20 }
def f_X2_isOrder_4 (I : zMi) : Nat → Nat → Int32 → Int32 → Int32 → Option Int32
  | 0, _, _, _, _ => none
  | f + 1, n0, a1, a2, a3 => if (I (22 + 3 * n0) 2) ≤ a3 then (if a2 = (f_X3_allBits (I (22 + 3 * n0) 2)) then (some 1) else (some 0)) else (f_X2_isOrder_4 I f n0 a1 (a2 ||| ((1 : Int32) <<< (((a1 >>> ((2 * a3) &&& 31)) &&& 3) &&& 31))) (a3 + 1))
def f_X2_isOrder (n0 : Nat) (a1 : Int32) (I : zMi) : Option Int32 :=
  f_X2_isOrder_4 I fu n0 a1 0 0
def rmX2_isOrder : Room := { frames := 1, cells := 0, slots := 0, locals := 20 }
def f_X2_comesInOrder_2 (I : zMi) : Nat → Nat → Int32 → Int32 → Int32 → Option Int32
  | 0, _, _, _, _ => none
  | f + 1, n0, a1, a2, a3 => if ((1 : Int32) <<< ((I (22 + 3 * n0) 2) &&& 31)) ≤ a3 then (some 0) else ((f_X2_columnsTold n0 a1 a3 I).bind (fun x2 => if x2 = a2 then (some 1) else (f_X2_comesInOrder_2 I f n0 a1 a2 (a3 + 1))))
def f_X2_comesInOrder (n0 : Nat) (a1 : Int32) (a2 : Int32) (I : zMi) : Option Int32 :=
  f_X2_comesInOrder_2 I fu n0 a1 a2 0
def rmX2_comesInOrder : Room := { frames := 2, cells := 0, slots := 0, locals := 46 }
def f_X2_comesFrom_11 (I : zMi) : Nat → Nat → Int32 → Int32 → Option Int32
  | 0, _, _, _ => none
  | f + 1, n0, a2, a3 => if ((1 : Int32) <<< ((2 * (I (22 + 3 * n0) 2)) &&& 31)) ≤ a3 then (some 0) else ((f_X2_isOrder n0 a3 I).bind (fun x2 => if x2 = 0 then (f_X2_comesFrom_11 I f n0 a2 (a3 + 1)) else ((f_X2_comesInOrder n0 a3 a2 I).bind (fun x4 => if x4 = 0 then (f_X2_comesFrom_11 I f n0 a2 (a3 + 1)) else (some 1)))))
def f_X2_comesFrom (n0 : Nat) (n1 : Nat) (I : zMi) : Option Int32 :=
  (f_X2_columnsTold n1 228 0 I).bind (fun x1 => f_X2_comesFrom_11 I fu n0 x1 0)
def rmX2_comesFrom : Room := { frames := 3, cells := 0, slots := 0, locals := 69 }
def f_X3_countBits_4 (I : zMi) : Nat → Nat → Int32 → Int32 → Int32 → Option Int32
  | 0, _, _, _, _ => none
  | f + 1, n0, a1, a2, a3 => if a1 ≤ a3 then (some a2) else (if ix a3 12 then (f_X3_countBits_4 I f n0 a1 (a2 + (f_J6_bitCount (I (n0) a3.toNatClampNeg))) (a3 + 1)) else none)
def f_X3_countBits (n0 : Nat) (a1 : Int32) (I : zMi) : Option Int32 :=
  f_X3_countBits_4 I fu n0 a1 0 0
def rmX3_countBits : Room := { frames := 1, cells := 0, slots := 0, locals := 20 }
def f_X2_edges (n0 : Nat) (I : zMi) : Option Int32 :=
  (f_X3_countBits (24 + 3 * n0) (I (22 + 3 * n0) 2) I).bind (fun x1 => some (x1 / 2))
def rmX2_edges : Room := { frames := 2, cells := 0, slots := 0, locals := 43 }
def f_X2_neighboursSwitched (n0 : Nat) (a1 : Int32) (a2 : Int32) (I : zMi) : Option Int32 :=
  if ((a2 >>> (a1 &&& 31)) &&& 1) = 1 then (if ix a1 12 then (some ((I (24 + 3 * n0) a1.toNatClampNeg) ^^^ ((f_X3_allBits (I (22 + 3 * n0) 2)) &&& (a2 ^^^ (-1))))) else none) else (if ix a1 12 then (some ((I (24 + 3 * n0) a1.toNatClampNeg) ^^^ a2)) else none)
def rmX2_neighboursSwitched : Room := { frames := 1, cells := 0, slots := 0, locals := 20 }
def f_X2_switchBy_2 : Nat → Nat → Int32 → Int32 → zMi → Option zMi
  | 0, _, _, _, _ => none
  | f + 1, n0, a1, a2, I => if (I (22 + 3 * n0) 2) ≤ a2 then (some I) else ((f_X2_neighboursSwitched n0 a2 a1 I).bind (fun x2 => if ix a2 12 then (f_X2_switchBy_2 f n0 a1 (a2 + 1) (wI (wI I (24 + 3 * n0) a2.toNatClampNeg x2) (23 + 3 * n0) a2.toNatClampNeg (((f_X3_allBits ((wI I (24 + 3 * n0) a2.toNatClampNeg x2) (22 + 3 * n0) 2)) - ((1 : Int32) <<< (a2 &&& 31))) &&& (((wI I (24 + 3 * n0) a2.toNatClampNeg x2) (24 + 3 * n0) a2.toNatClampNeg) ^^^ (-1))))) else none))
def f_X2_switchBy (n0 : Nat) (a1 : Int32) (I : zMi) : Option zMi :=
  f_X2_switchBy_2 fu n0 a1 0 I
def rmX2_switchBy : Room := { frames := 2, cells := 0, slots := 0, locals := 43 }
def f_X2_becomesBySwitching_2 (I : zMi) : Nat → Nat → Nat → Int32 → Int32 → Option Int32
  | 0, _, _, _, _ => none
  | f + 1, n0, n1, a2, a3 => if (I (22 + 3 * n0) 2) ≤ a3 then (some 1) else ((f_X2_neighboursSwitched n0 a3 a2 I).bind (fun x2 => if ix a3 12 then (if x2 = (I (24 + 3 * n1) a3.toNatClampNeg) then (f_X2_becomesBySwitching_2 I f n0 n1 a2 (a3 + 1)) else (some 0)) else none))
def f_X2_becomesBySwitching (n0 : Nat) (n1 : Nat) (a2 : Int32) (I : zMi) : Option Int32 :=
  f_X2_becomesBySwitching_2 I fu n0 n1 a2 0
def rmX2_becomesBySwitching : Room := { frames := 2, cells := 0, slots := 0, locals := 43 }
def f_X2_edgesSwitched_4 (I : zMi) : Nat → Nat → Int32 → Int32 → Int32 → Option Int32
  | 0, _, _, _, _ => none
  | f + 1, n0, a1, a2, a3 => if (I (22 + 3 * n0) 2) ≤ a3 then (some (a2 / 2)) else ((f_X2_neighboursSwitched n0 a3 a1 I).bind (fun x2 => f_X2_edgesSwitched_4 I f n0 a1 (a2 + (f_J6_bitCount x2)) (a3 + 1)))
def f_X2_edgesSwitched (n0 : Nat) (a1 : Int32) (I : zMi) : Option Int32 :=
  f_X2_edgesSwitched_4 I fu n0 a1 0 0
def rmX2_edgesSwitched : Room := { frames := 2, cells := 0, slots := 0, locals := 43 }
def f_X2_oddTriples_16 (I : zMi) (k4 : Nat → Int32 → Int32 → Option Int32) : Nat → Nat → Int32 → Int32 → Int32 → Option Int32
  | 0, _, _, _, _ => none
  | f + 1, n0, a1, a2, a3 => if (I (22 + 3 * n0) 2) ≤ a3 then (k4 n0 a1 (a2 + 1)) else (if ix a2 12 then (if ix a3 12 then (if (((I (24 + 3 * n0) a2.toNatClampNeg) >>> (a3 &&& 31)) &&& 1) = 1 then (f_X2_oddTriples_16 I k4 f n0 (a1 + ((((I (22 + 3 * n0) 2) - a3) - 1) - (f_J6_bitCount (((I (24 + 3 * n0) a2.toNatClampNeg) ^^^ (I (24 + 3 * n0) a3.toNatClampNeg)) >>> ((a3 + 1) &&& 31))))) a2 (a3 + 1)) else (f_X2_oddTriples_16 I k4 f n0 (a1 + (f_J6_bitCount (((I (24 + 3 * n0) a2.toNatClampNeg) ^^^ (I (24 + 3 * n0) a3.toNatClampNeg)) >>> ((a3 + 1) &&& 31)))) a2 (a3 + 1))) else none) else none)
def f_X2_oddTriples_4 (I : zMi) : Nat → Nat → Int32 → Int32 → Option Int32
  | 0, _, _, _ => none
  | f + 1, n0, a1, a2 => if (I (22 + 3 * n0) 2) ≤ a2 then (some a1) else (f_X2_oddTriples_16 I (f_X2_oddTriples_4 I f) fu n0 a1 a2 (a2 + 1))
def f_X2_oddTriples (n0 : Nat) (I : zMi) : Option Int32 :=
  f_X2_oddTriples_4 I fu n0 0 0
def rmX2_oddTriples : Room := { frames := 1, cells := 0, slots := 0, locals := 20 }
def f_X2_addedTo_52 (I : zMi) (k40 : Nat → Int64 → Int32 → Option Int64) : Nat → Nat → Int64 → Int32 → Int32 → Option Int64
  | 0, _, _, _, _ => none
  | f + 1, n0, a3, a5, a6 => if (I (22 + 3 * n0) 2) ≤ a6 then (k40 n0 a3 (a5 + 1)) else ((f_X2_number n0 a5 a6 I).bind (fun x2 => f_X2_addedTo_52 I k40 f n0 ((31 * a3) + (x2.toInt64)) a5 (a6 + 1)))
def f_X2_addedTo_40 (I : zMi) : Nat → Nat → Int64 → Int32 → Option Int64
  | 0, _, _, _ => none
  | f + 1, n0, a3, a5 => if (I (22 + 3 * n0) 2) ≤ a5 then (some a3) else (f_X2_addedTo_52 I (f_X2_addedTo_40 I f) fu n0 a3 a5 0)
def f_X2_addedTo (n0 : Nat) (a1 : Int64) (I : zMi) : Option Int64 :=
  if (f_X2_isMissing n0 I) = 0 then (f_X2_addedTo_40 I fu n0 ((31 * ((31 * a1) + ((I (22 + 3 * n0) 3).toInt64))) + ((I (22 + 3 * n0) 2).toInt64)) 0) else (some ((31 * a1) - 1))
def rmX2_addedTo : Room := { frames := 1, cells := 0, slots := 0, locals := 22 }
def f_X3_isRowNumber (a0 : Int32) : Int32 :=
  if a0 < 0 then 0 else (if 6 ≤ a0 then 0 else 1)
def rmX3_isRowNumber : Room := { frames := 0, cells := 0, slots := 0, locals := 0 }
def f_X3_found (a1 : Int32) (I : zMi) : Option (Int32 × zMi) :=
  if ix a1 6 then (some ((-3), (wI (wI I (0) 8 a1) (9) a1.toNatClampNeg (((wI I (0) 8 a1) (9) a1.toNatClampNeg) + 1)))) else none
def rmX3_found : Room := { frames := 0, cells := 0, slots := 0, locals := 0 }
def f_X3_row (a1 : Int32) (a2 : Int32) (I : zMi) : Option (Int32 × zMi) :=
  if (f_X3_isRowNumber a1) = 0 then (some ((-1), I)) else (if a2 ≤ 24 then (if 0 ≤ a2 then (if ix a1 6 then ((f_X1_beginSigns a1.toNatClampNeg a2 0 I).bind (fun x5 => some (a2, x5))) else none) else ((f_X3_found 5 I).bind (fun x6 => some (x6.1, x6.2)))) else (some ((-1), I)))
def rmX3_row : Room := { frames := 1, cells := 0, slots := 0, locals := 23 }
def f_X3_lay (a1 : Int32) (a2 : Int32) (a3 : Int32) (I : zMi) : Option (Int32 × zMi) :=
  if (f_X3_isRowNumber a1) = 0 then (some ((-1), I)) else (if ix a1 6 then (if (f_X1_isMissing a1.toNatClampNeg I) = 0 then (if (f_X1_hasPlaces a1.toNatClampNeg a2 1 I) = 0 then ((f_X3_found 2 I).bind (fun x6 => some (x6.1, x6.2))) else (if ix a2 24 then (some (1, (wI (wI I (0) 9 (I (11 + 2 * a1.toNatClampNeg) a2.toNatClampNeg)) (11 + 2 * a1.toNatClampNeg) a2.toNatClampNeg a3))) else none)) else ((f_X3_found 1 I).bind (fun x7 => some (x7.1, x7.2)))) else none)
def rmX3_lay : Room := { frames := 1, cells := 0, slots := 0, locals := 22 }
def f_X3_tear (a1 : Int32) (I : zMi) : Option (Int32 × zMi) :=
  if (f_X3_isRowNumber a1) = 0 then (some ((-1), I)) else (if ix a1 6 then (if (f_X1_isMissing a1.toNatClampNeg I) = 0 then (some (1, (f_X1_end a1.toNatClampNeg I))) else ((f_X3_found 1 I).bind (fun x4 => some (x4.1, x4.2)))) else none)
def rmX3_tear : Room := { frames := 1, cells := 0, slots := 0, locals := 21 }
def f_X3_copy (a1 : Int32) (a2 : Int32) (a3 : Int32) (a4 : Int32) (a5 : Int32) (I : zMi) : Option (Int32 × zMi) :=
  if (f_X3_isRowNumber a1) = 0 then (some ((-1), I)) else (if (f_X3_isRowNumber a3) = 0 then (some ((-1), I)) else (if 0 ≤ a5 then (if ix a1 6 then (if ix a3 6 then (if (f_X1_isMissing a1.toNatClampNeg I) = 0 then (if (f_X1_isMissing a3.toNatClampNeg I) = 0 then (if (f_X1_hasPlaces a1.toNatClampNeg a2 a5 I) = 0 then ((f_X3_found 2 I).bind (fun x10 => some (x10.1, x10.2))) else (if (f_X1_hasPlaces a3.toNatClampNeg a4 a5 I) = 0 then ((f_X3_found 2 I).bind (fun x13 => some (x13.1, x13.2))) else (if acok a2 a4 a5 then (some (1, (acp I (11 + 2 * a1.toNatClampNeg) (11 + 2 * a3.toNatClampNeg) a2 a4 a5))) else none))) else ((f_X3_found 1 I).bind (fun x14 => some (x14.1, x14.2)))) else ((f_X3_found 1 I).bind (fun x7 => some (x7.1, x7.2)))) else none) else none) else ((f_X3_found 5 I).bind (fun x15 => some (x15.1, x15.2)))))
def rmX3_copy : Room := { frames := 1, cells := 0, slots := 0, locals := 40 }
def f_X3_mean (a1 : Int32) (I : zMi) : Option (Int32 × zMi) :=
  if (f_X3_isRowNumber a1) = 0 then (some ((-1), I)) else (if ix a1 6 then (if (f_X1_isMissing a1.toNatClampNeg I) = 0 then (if (I (10 + 2 * a1.toNatClampNeg) 1) = 0 then ((f_X3_found 4 I).bind (fun x7 => some (x7.1, x7.2))) else ((f_X1_sum a1.toNatClampNeg I).bind (fun x5 => if ((I (10 + 2 * a1.toNatClampNeg) 1).toInt64) = 0 then none else (some (1, (wI I (0) 9 ((x5 / ((I (10 + 2 * a1.toNatClampNeg) 1).toInt64)).toInt32))))))) else ((f_X3_found 1 I).bind (fun x8 => some (x8.1, x8.2)))) else none)
def rmX3_mean : Room := { frames := 1, cells := 0, slots := 0, locals := 23 }
def f_X3_isTableNumber (a0 : Int32) : Int32 :=
  if a0 < 0 then 0 else (if 10 ≤ a0 then 0 else 1)
def rmX3_isTableNumber : Room := { frames := 0, cells := 0, slots := 0, locals := 0 }
def f_X3_table (a1 : Int32) (a2 : Int32) (I : zMi) : Option (Int32 × zMi) :=
  if (f_X3_isTableNumber a1) = 0 then (some ((-1), I)) else (if a2 < 1 then (some ((-1), I)) else (if a2 ≤ 12 then (if ix a1 10 then ((f_X2_begin a1.toNatClampNeg a2 I).bind (fun x5 => (f_X2_judged a1.toNatClampNeg x5).bind (fun x6 => some (x6.1, x6.2)))) else none) else (some ((-1), I))))
def rmX3_table : Room := { frames := 4, cells := 0, slots := 0, locals := 88 }
def f_X3_put_105 : Nat → Int32 → Nat → Nat → Int32 → zMi → Option (Int32 × zMi)
  | 0, _, _, _, _, _ => none
  | f + 1, a2, n4, n5, a6, I => if (I (22 + 3 * n4) 2) ≤ a6 then ((f_X2_judged n4 I).bind (fun x2 => some (x2.1, x2.2))) else (if ix a6 24 then ((f_X2_write n4 a2 a6 (I (11 + 2 * n5) a6.toNatClampNeg) I).bind (fun x4 => f_X3_put_105 f a2 n4 n5 (a6 + 1) x4)) else none)
def f_X3_put (a1 : Int32) (a2 : Int32) (a3 : Int32) (I : zMi) : Option (Int32 × zMi) :=
  if (f_X3_isTableNumber a1) = 0 then (some ((-1), I)) else (if (f_X3_isRowNumber a3) = 0 then (some ((-1), I)) else (if ix a1 10 then (if ix a3 6 then (if (f_X2_isMissing a1.toNatClampNeg I) = 0 then (if (f_X1_isMissing a3.toNatClampNeg I) = 0 then (if (f_X2_hasLine a1.toNatClampNeg a2 I) = 0 then ((f_X3_found 2 I).bind (fun x14 => some (x14.1, x14.2))) else (if (I (10 + 2 * a3.toNatClampNeg) 1) = (I (22 + 3 * a1.toNatClampNeg) 2) then ((f_X1_isNumbers a3.toNatClampNeg I).bind (fun x10 => if x10 = 0 then ((f_X3_found 3 I).bind (fun x12 => some (x12.1, x12.2))) else (f_X3_put_105 fu a2 a1.toNatClampNeg a3.toNatClampNeg 0 I))) else ((f_X3_found 5 I).bind (fun x13 => some (x13.1, x13.2))))) else ((f_X3_found 1 I).bind (fun x15 => some (x15.1, x15.2)))) else ((f_X3_found 1 I).bind (fun x6 => some (x6.1, x6.2)))) else none) else none))
def rmX3_put : Room := { frames := 4, cells := 0, slots := 0, locals := 88 }
def f_X3_set (a1 : Int32) (a2 : Int32) (a3 : Int32) (a4 : Int32) (a5 : Int32) (I : zMi) : Option (Int32 × zMi) :=
  if (f_X3_isTableNumber a1) = 0 then (some ((-1), I)) else (if a4 < (-1) then (some ((-1), I)) else (if a4 ≤ 1 then (if ix a1 10 then (if (f_X2_isMissing a1.toNatClampNeg I) = 0 then (if (f_X2_hasLine a1.toNatClampNeg a2 I) = 0 then ((f_X3_found 2 I).bind (fun x7 => some (x7.1, x7.2))) else (if (f_X2_hasLine a1.toNatClampNeg a3 I) = 0 then ((f_X3_found 2 I).bind (fun x14 => some (x14.1, x14.2))) else ((f_X2_write a1.toNatClampNeg a2 a3 a4 I).bind (fun x9 => if a5 = 0 then ((f_X2_judged a1.toNatClampNeg x9).bind (fun x11 => some (x11.1, x11.2))) else ((f_X2_write a1.toNatClampNeg a3 a2 a4 x9).bind (fun x12 => (f_X2_judged a1.toNatClampNeg x12).bind (fun x13 => some (x13.1, x13.2)))))))) else ((f_X3_found 1 I).bind (fun x15 => some (x15.1, x15.2)))) else none) else (some ((-1), I))))
def rmX3_set : Room := { frames := 4, cells := 0, slots := 0, locals := 88 }
def f_X3_drop (a1 : Int32) (I : zMi) : Option (Int32 × zMi) :=
  if (f_X3_isTableNumber a1) = 0 then (some ((-1), I)) else (if ix a1 10 then (if (f_X2_isMissing a1.toNatClampNeg I) = 0 then (some (1, (f_X2_end a1.toNatClampNeg I))) else ((f_X3_found 1 I).bind (fun x4 => some (x4.1, x4.2)))) else none)
def rmX3_drop : Room := { frames := 1, cells := 0, slots := 0, locals := 21 }
def f_X3_at (a1 : Int32) (a2 : Int32) (a3 : Int32) (I : zMi) : Option (Int32 × zMi) :=
  if (f_X3_isTableNumber a1) = 0 then (some ((-1), I)) else (if ix a1 10 then (if (f_X2_isMissing a1.toNatClampNeg I) = 0 then (if (f_X2_hasLine a1.toNatClampNeg a2 I) = 0 then ((f_X3_found 2 I).bind (fun x5 => some (x5.1, x5.2))) else (if (f_X2_hasLine a1.toNatClampNeg a3 I) = 0 then ((f_X3_found 2 I).bind (fun x8 => some (x8.1, x8.2))) else ((f_X2_number a1.toNatClampNeg a2 a3 I).bind (fun x7 => some (1, (wI I (0) 9 x7)))))) else ((f_X3_found 1 I).bind (fun x9 => some (x9.1, x9.2)))) else none)
def rmX3_at : Room := { frames := 1, cells := 0, slots := 0, locals := 22 }
def f_X3_told (a1 : Int32) (a2 : Int32) (I : zMi) : Option (Int32 × zMi) :=
  if (f_X3_isTableNumber a1) = 0 then (some ((-1), I)) else (if a2 < 0 then (some ((-1), I)) else (if a2 ≤ 4 then (if ix a1 10 then (if (f_X2_isMissing a1.toNatClampNeg I) = 0 then (if a2 = 0 then (some (1, (wI I (0) 9 (I (22 + 3 * a1.toNatClampNeg) 3)))) else (if a2 = 1 then (some (1, (wI I (0) 9 (I (22 + 3 * a1.toNatClampNeg) 2)))) else (if a2 = 2 then ((f_X3_countBits (23 + 3 * a1.toNatClampNeg) (I (22 + 3 * a1.toNatClampNeg) 2) I).bind (fun x9 => some (1, (wI I (0) 9 x9)))) else (if a2 = 3 then ((f_X3_countBits (24 + 3 * a1.toNatClampNeg) (I (22 + 3 * a1.toNatClampNeg) 2) I).bind (fun x11 => some (1, (wI I (0) 9 x11)))) else ((f_X2_isNormal a1.toNatClampNeg I).bind (fun x12 => if x12 = 0 then (some (1, (wI I (0) 9 0))) else (some (1, (wI I (0) 9 1))))))))) else ((f_X3_found 1 I).bind (fun x14 => some (x14.1, x14.2)))) else none) else (some ((-1), I))))
def rmX3_told : Room := { frames := 3, cells := 0, slots := 0, locals := 61 }
def f_X3_mark (a1 : Int32) (a2 : Int32) (I : zMi) : Option (Int32 × zMi) :=
  if (f_X3_isTableNumber a1) = 0 then (some ((-1), I)) else (if a2 < 1 then (some ((-1), I)) else (if a2 ≤ 4 then (if ix a1 10 then (if (f_X2_isMissing a1.toNatClampNeg I) = 0 then (if (f_X2_isOfKind a1.toNatClampNeg a2 I) = 0 then ((f_X3_found 3 I).bind (fun x13 => some (x13.1, x13.2))) else (if a2 = 1 then (some (((I (22 + 3 * a1.toNatClampNeg) 2) / 2), I)) else (if a2 = 2 then ((f_X2_rowSum a1.toNatClampNeg 0 0 I).bind (fun x9 => some (x9, I))) else (if a2 = 3 then ((f_X2_edges a1.toNatClampNeg I).bind (fun x11 => some (x11, I))) else ((f_X2_neighbours a1.toNatClampNeg 0 I).bind (fun x12 => some (x12, I))))))) else ((f_X3_found 1 I).bind (fun x14 => some (x14.1, x14.2)))) else none) else (some ((-1), I))))
def rmX3_mark : Room := { frames := 3, cells := 0, slots := 0, locals := 63 }
def f_X3_times (a1 : Int32) (a2 : Int32) (a3 : Int32) (I : zMi) : Option (Int32 × zMi) :=
  if (f_X3_isTableNumber a1) = 0 then (some ((-1), I)) else (if (f_X3_isTableNumber a2) = 0 then (some ((-1), I)) else (if (f_X3_isTableNumber a3) = 0 then (some ((-1), I)) else (if ix a1 10 then (if ix a2 10 then (if (f_X2_isMissing a1.toNatClampNeg I) = 0 then (if (f_X2_isMissing a2.toNatClampNeg I) = 0 then (if ((I (22 + 3 * a1.toNatClampNeg) 2) * (I (22 + 3 * a2.toNatClampNeg) 2)) ≤ 12 then ((f_X2_beginProduct 10 a1.toNatClampNeg a2.toNatClampNeg I).bind (fun x10 => if ix a3 10 then ((f_X2_take a3.toNatClampNeg 10 x10).bind (fun x12 => (f_X2_judged a3.toNatClampNeg x12).bind (fun x13 => some (x13.1, x13.2)))) else none)) else ((f_X3_found 5 I).bind (fun x14 => some (x14.1, x14.2)))) else ((f_X3_found 1 I).bind (fun x15 => some (x15.1, x15.2)))) else ((f_X3_found 1 I).bind (fun x7 => some (x7.1, x7.2)))) else none) else none)))
def rmX3_times : Room := { frames := 4, cells := 0, slots := 0, locals := 88 }
def f_X3_squaresModulo_4 : Nat → Int32 → Int32 → Int32 → Option Int32
  | 0, _, _, _ => none
  | f + 1, a0, a1, a2 => if a0 ≤ a2 then (some a1) else (if a0 = 0 then none else (f_X3_squaresModulo_4 f a0 (a1 ||| ((1 : Int32) <<< (((a2 * a2) - (a2 * a2) / a0 * a0) &&& 31))) (a2 + 1)))
def f_X3_squaresModulo (a0 : Int32) : Option Int32 :=
  f_X3_squaresModulo_4 fu a0 0 1
def rmX3_squaresModulo : Room := { frames := 0, cells := 0, slots := 0, locals := 0 }
def f_X3_writeResidues_71 (k8 : Nat → Int32 → Int32 → Int32 → Int32 → zMi → Option zMi) (k17 : Nat → Int32 → Int32 → Int32 → Int32 → Int32 → zMi → Option zMi) (n0 : Nat) (a1 : Int32) (a2 : Int32) (a3 : Int32) (a4 : Int32) (a5 : Int32) (s0 : Int32) (I : zMi) : Option zMi :=
  (f_X2_write n0 (a1 + a4) (a1 + a5) s0 I).bind (fun x1 => k17 n0 a1 a2 a3 a4 (a5 + 1) x1)
def f_X3_writeResidues_17 (k8 : Nat → Int32 → Int32 → Int32 → Int32 → zMi → Option zMi) : Nat → Nat → Int32 → Int32 → Int32 → Int32 → Int32 → zMi → Option zMi
  | 0, _, _, _, _, _, _, _ => none
  | f + 1, n0, a1, a2, a3, a4, a5, I => if a2 ≤ a5 then (k8 n0 a1 a2 a3 (a4 + 1) I) else (if a5 < a4 then (if ((a5 - a4) + a2) = 0 then (f_X3_writeResidues_71 k8 (f_X3_writeResidues_17 k8 f) n0 a1 a2 a3 a4 a5 0 I) else (if ((a3 >>> (((a5 - a4) + a2) &&& 31)) &&& 1) = 1 then (f_X3_writeResidues_71 k8 (f_X3_writeResidues_17 k8 f) n0 a1 a2 a3 a4 a5 1 I) else (f_X3_writeResidues_71 k8 (f_X3_writeResidues_17 k8 f) n0 a1 a2 a3 a4 a5 (-1) I))) else (if (a5 - a4) = 0 then (f_X3_writeResidues_71 k8 (f_X3_writeResidues_17 k8 f) n0 a1 a2 a3 a4 a5 0 I) else (if ((a3 >>> ((a5 - a4) &&& 31)) &&& 1) = 1 then (f_X3_writeResidues_71 k8 (f_X3_writeResidues_17 k8 f) n0 a1 a2 a3 a4 a5 1 I) else (f_X3_writeResidues_71 k8 (f_X3_writeResidues_17 k8 f) n0 a1 a2 a3 a4 a5 (-1) I))))
def f_X3_writeResidues_8 : Nat → Nat → Int32 → Int32 → Int32 → Int32 → zMi → Option zMi
  | 0, _, _, _, _, _, _ => none
  | f + 1, n0, a1, a2, a3, a4, I => if a2 ≤ a4 then (some I) else (f_X3_writeResidues_17 (f_X3_writeResidues_8 f) fu n0 a1 a2 a3 a4 0 I)
def f_X3_writeResidues (n0 : Nat) (a1 : Int32) (a2 : Int32) (I : zMi) : Option zMi :=
  (f_X3_squaresModulo a2).bind (fun x1 => f_X3_writeResidues_8 fu n0 a1 a2 x1 0 I)
def rmX3_writeResidues : Room := { frames := 1, cells := 0, slots := 0, locals := 24 }
def f_X3_residues_31 (a1 : Int32) (a2 : Int32) (I : zMi) : Option (Int32 × zMi) :=
  if ix a1 10 then ((f_X2_begin a1.toNatClampNeg a2 I).bind (fun x2 => (f_X3_writeResidues a1.toNatClampNeg 0 a2 x2).bind (fun x3 => (f_X2_judged a1.toNatClampNeg x3).bind (fun x4 => some (x4.1, x4.2))))) else none
def f_X3_residues (a1 : Int32) (a2 : Int32) (I : zMi) : Option (Int32 × zMi) :=
  if (f_X3_isTableNumber a1) = 0 then (some ((-1), I)) else (if a2 = 3 then (f_X3_residues_31 a1 a2 I) else (if a2 = 5 then (f_X3_residues_31 a1 a2 I) else (if a2 = 7 then (f_X3_residues_31 a1 a2 I) else (if a2 = 11 then (f_X3_residues_31 a1 a2 I) else (some ((-1), I))))))
def rmX3_residues : Room := { frames := 4, cells := 0, slots := 0, locals := 88 }
def f_X3_bordered_49 : Nat → Int32 → Nat → Int32 → zMi → Option (Int32 × zMi)
  | 0, _, _, _, _ => none
  | f + 1, a2, n3, a4, I => if a2 < a4 then ((f_X2_judged n3 I).bind (fun x2 => some (x2.1, x2.2))) else ((f_X2_write n3 a4 0 (-1) I).bind (fun x3 => (f_X2_write n3 a4 a4 1 x3).bind (fun x4 => f_X3_bordered_49 f a2 n3 (a4 + 1) x4)))
def f_X3_bordered_26 (a1 : Int32) (a2 : Int32) (I : zMi) : Option (Int32 × zMi) :=
  if ix a1 10 then ((f_X2_begin a1.toNatClampNeg (a2 + 1) I).bind (fun x2 => (f_X3_writeResidues a1.toNatClampNeg 1 a2 x2).bind (fun x3 => f_X3_bordered_49 fu a2 a1.toNatClampNeg 1 x3))) else none
def f_X3_bordered (a1 : Int32) (a2 : Int32) (I : zMi) : Option (Int32 × zMi) :=
  if (f_X3_isTableNumber a1) = 0 then (some ((-1), I)) else (if a2 = 3 then (f_X3_bordered_26 a1 a2 I) else (if a2 = 7 then (f_X3_bordered_26 a1 a2 I) else (if a2 = 11 then (f_X3_bordered_26 a1 a2 I) else (some ((-1), I)))))
def rmX3_bordered : Room := { frames := 4, cells := 0, slots := 0, locals := 88 }
def f_X3_findingOfRounds_109 (I : zMi) : Option Int32 :=
  if (0 : Int32) = 0 then (some 3) else (some 0)
def f_X3_findingOfRounds (n0 : Nat) (n1 : Nat) (n2 : Nat) (n3 : Nat) (I : zMi) : Option Int32 :=
  if (f_X1_isMissing n0 I) = 0 then (if (f_X1_isMissing n1 I) = 0 then (if (f_X1_isMissing n2 I) = 0 then (if (f_X1_isMissing n3 I) = 0 then (if (I (10 + 2 * n0) 1) < 1 then (some 5) else (if 3 < (I (10 + 2 * n0) 1) then (some 5) else (if (I (10 + 2 * n1) 1) = (I (10 + 2 * n0) 1) then (if (I (10 + 2 * n2) 1) = (I (10 + 2 * n0) 1) then (if (I (10 + 2 * n3) 1) = (I (10 + 2 * n0) 1) then ((f_X1_isSignsBothWays n0 I).bind (fun x10 => if x10 = 0 then (f_X3_findingOfRounds_109 I) else ((f_X1_isSignsBothWays n1 I).bind (fun x12 => if x12 = 0 then (f_X3_findingOfRounds_109 I) else ((f_X1_isSignsBothWays n2 I).bind (fun x14 => if x14 = 0 then (f_X3_findingOfRounds_109 I) else ((f_X1_isSignsBothWays n3 I).bind (fun x16 => if x16 = 0 then (f_X3_findingOfRounds_109 I) else (if (1 : Int32) = 0 then (some 3) else (some 0)))))))))) else (some 5)) else (some 5)) else (some 5)))) else (some 1)) else (some 1)) else (some 1)) else (some 1)
def rmX3_findingOfRounds : Room := { frames := 2, cells := 0, slots := 0, locals := 42 }
def f_X3_echoOf (a0 : Int32) (a1 : Int32) (a2 : Int32) (a3 : Int32) : Int32 :=
  if a3 = 0 then ((a1 - a2) - (2 * (f_J6_bitCount ((a0 ^^^ (a0 >>> (a2 &&& 31))) &&& (f_X3_allBits (a1 - a2)))))) else (a1 - (2 * (f_J6_bitCount ((a0 ^^^ ((a0 >>> (a2 &&& 31)) ||| (a0 <<< ((a1 - a2) &&& 31)))) &&& (f_X3_allBits a1)))))
def rmX3_echoOf : Room := { frames := 1, cells := 0, slots := 0, locals := 20 }
def f_X3_writeRound_31 (k22 : Nat → Int32 → Nat → Int32 → Int32 → Int32 → Int32 → zMi → Option zMi) : Nat → Nat → Int32 → Nat → Int32 → Int32 → Int32 → Int32 → Int32 → zMi → Option zMi
  | 0, _, _, _, _, _, _, _, _, _ => none
  | f + 1, n0, a1, n2, a3, a4, a5, a6, a7, I => if a3 ≤ a7 then (k22 n0 a1 n2 a3 a4 a5 (a6 + 1) I) else (if a7 < a6 then (if ix a1 16 then (if ix ((a7 - a6) + a3) 24 then ((f_X2_write n0 (a4 + a6) (a5 + a7) ((zFSi a1.toNatClampNeg) * (I (11 + 2 * n2) ((a7 - a6) + a3).toNatClampNeg)) I).bind (fun x6 => f_X3_writeRound_31 k22 f n0 a1 n2 a3 a4 a5 a6 (a7 + 1) x6)) else none) else none) else (if ix a1 16 then (if ix (a7 - a6) 24 then ((f_X2_write n0 (a4 + a6) (a5 + a7) ((zFSi a1.toNatClampNeg) * (I (11 + 2 * n2) (a7 - a6).toNatClampNeg)) I).bind (fun x10 => f_X3_writeRound_31 k22 f n0 a1 n2 a3 a4 a5 a6 (a7 + 1) x10)) else none) else none))
def f_X3_writeRound_22 : Nat → Nat → Int32 → Nat → Int32 → Int32 → Int32 → Int32 → zMi → Option zMi
  | 0, _, _, _, _, _, _, _, _ => none
  | f + 1, n0, a1, n2, a3, a4, a5, a6, I => if a3 ≤ a6 then (some I) else (f_X3_writeRound_31 (f_X3_writeRound_22 f) fu n0 a1 n2 a3 a4 a5 a6 0 I)
def f_X3_writeRound (n0 : Nat) (a1 : Int32) (n2 : Nat) (I : zMi) : Option zMi :=
  f_X3_writeRound_22 fu n0 a1 n2 (I (10 + 2 * n2) 1) ((a1 / 4) * (I (10 + 2 * n2) 1)) ((a1 - a1 / 4 * 4) * (I (10 + 2 * n2) 1)) 0 I
def rmX3_writeRound : Room := { frames := 1, cells := 0, slots := 0, locals := 24 }
def f_X3_fourRounds_119 : Nat → Nat → Nat → Nat → Nat → Nat → Int32 → zMi → Option (Int32 × zMi)
  | 0, _, _, _, _, _, _, _ => none
  | f + 1, n1, n2, n3, n4, n5, a8, I => if 16 ≤ a8 then ((f_X2_judged n1 I).bind (fun x3 => some (x3.1, x3.2))) else (if ix a8 16 then (if (zFPi a8.toNatClampNeg) = 0 then ((f_X3_writeRound n1 a8 n2 I).bind (fun x12 => f_X3_fourRounds_119 f n1 n2 n3 n4 n5 (a8 + 1) x12)) else (if (zFPi a8.toNatClampNeg) = 1 then ((f_X3_writeRound n1 a8 n3 I).bind (fun x11 => f_X3_fourRounds_119 f n1 n2 n3 n4 n5 (a8 + 1) x11)) else (if (zFPi a8.toNatClampNeg) = 2 then ((f_X3_writeRound n1 a8 n4 I).bind (fun x10 => f_X3_fourRounds_119 f n1 n2 n3 n4 n5 (a8 + 1) x10)) else ((f_X3_writeRound n1 a8 n5 I).bind (fun x9 => f_X3_fourRounds_119 f n1 n2 n3 n4 n5 (a8 + 1) x9))))) else none)
def f_X3_fourRounds_32 : Nat → Nat → Nat → Nat → Nat → Nat → Int32 → Int32 → zMi → Option (Int32 × zMi)
  | 0, _, _, _, _, _, _, _, _ => none
  | f + 1, n1, n2, n3, n4, n5, a7, a8, I => if a7 ≤ a8 then ((f_X2_begin n1 (4 * a7) I).bind (fun x2 => f_X3_fourRounds_119 fu n1 n2 n3 n4 n5 0 x2)) else ((f_X1_minusBits n2 I).bind (fun x3 => (f_X1_minusBits n3 I).bind (fun x4 => (f_X1_minusBits n4 I).bind (fun x5 => (f_X1_minusBits n5 I).bind (fun x6 => if ((((f_X3_echoOf x3 a7 a8 1) + (f_X3_echoOf x4 a7 a8 1)) + (f_X3_echoOf x5 a7 a8 1)) + (f_X3_echoOf x6 a7 a8 1)) = 0 then (f_X3_fourRounds_32 f n1 n2 n3 n4 n5 a7 (a8 + 1) I) else (some ((-4), I)))))))
def f_X3_fourRounds (n1 : Nat) (n2 : Nat) (n3 : Nat) (n4 : Nat) (n5 : Nat) (I : zMi) : Option (Int32 × zMi) :=
  (f_X3_findingOfRounds n2 n3 n4 n5 I).bind (fun x1 => if x1 = 0 then (f_X3_fourRounds_32 fu n1 n2 n3 n4 n5 (I (10 + 2 * n2) 1) 1 I) else ((f_X3_found x1 I).bind (fun x3 => some (x3.1, x3.2))))
def rmX3_fourRounds : Room := { frames := 4, cells := 0, slots := 0, locals := 88 }
def f_X3_four (a1 : Int32) (a2 : Int32) (a3 : Int32) (a4 : Int32) (a5 : Int32) (I : zMi) : Option (Int32 × zMi) :=
  if (f_X3_isTableNumber a1) = 0 then (some ((-1), I)) else (if (f_X3_isRowNumber a2) = 0 then (some ((-1), I)) else (if (f_X3_isRowNumber a3) = 0 then (some ((-1), I)) else (if (f_X3_isRowNumber a4) = 0 then (some ((-1), I)) else (if (f_X3_isRowNumber a5) = 0 then (some ((-1), I)) else (if ix a1 10 then (if ix a2 6 then (if ix a3 6 then (if ix a4 6 then (if ix a5 6 then ((f_X3_fourRounds a1.toNatClampNeg a2.toNatClampNeg a3.toNatClampNeg a4.toNatClampNeg a5.toNatClampNeg I).bind (fun x11 => some (x11.1, x11.2))) else none) else none) else none) else none) else none)))))
def rmX3_four : Room := { frames := 5, cells := 0, slots := 0, locals := 118 }
def f_X3_turn (a1 : Int32) (a2 : Int32) (a3 : Int32) (I : zMi) : Option (Int32 × zMi) :=
  if (f_X3_isTableNumber a1) = 0 then (some ((-1), I)) else (if ix a1 10 then (if (f_X2_isMissing a1.toNatClampNeg I) = 0 then (if (f_X2_isBeyond a1.toNatClampNeg a2 I) = 0 then (if (f_X2_isBeyond a1.toNatClampNeg a3 I) = 0 then ((f_X2_turnColumns a1.toNatClampNeg a3 I).bind (fun x6 => (f_X2_turnRows a1.toNatClampNeg a2 x6).bind (fun x7 => (f_X2_judged a1.toNatClampNeg x7).bind (fun x8 => some (x8.1, x8.2))))) else (some ((-1), I))) else (some ((-1), I))) else ((f_X3_found 1 I).bind (fun x9 => some (x9.1, x9.2)))) else none)
def rmX3_turn : Room := { frames := 4, cells := 0, slots := 0, locals := 88 }
def f_X3_swap (a1 : Int32) (a2 : Int32) (a3 : Int32) (a4 : Int32) (I : zMi) : Option (Int32 × zMi) :=
  if (f_X3_isTableNumber a1) = 0 then (some ((-1), I)) else (if ix a1 10 then (if (f_X2_isMissing a1.toNatClampNeg I) = 0 then (if (f_X2_hasLine a1.toNatClampNeg a3 I) = 0 then ((f_X3_found 2 I).bind (fun x5 => some (x5.1, x5.2))) else (if (f_X2_hasLine a1.toNatClampNeg a4 I) = 0 then ((f_X3_found 2 I).bind (fun x12 => some (x12.1, x12.2))) else (if a2 = 0 then ((f_X2_exchangeRows a1.toNatClampNeg a3 a4 I).bind (fun x8 => (f_X2_judged a1.toNatClampNeg x8).bind (fun x9 => some (x9.1, x9.2)))) else ((f_X2_exchangeColumns a1.toNatClampNeg a3 a4 I).bind (fun x10 => (f_X2_judged a1.toNatClampNeg x10).bind (fun x11 => some (x11.1, x11.2))))))) else ((f_X3_found 1 I).bind (fun x13 => some (x13.1, x13.2)))) else none)
def rmX3_swap : Room := { frames := 4, cells := 0, slots := 0, locals := 88 }
def f_X3_flip (a1 : Int32) (I : zMi) : Option (Int32 × zMi) :=
  if (f_X3_isTableNumber a1) = 0 then (some ((-1), I)) else (if ix a1 10 then (if (f_X2_isMissing a1.toNatClampNeg I) = 0 then ((f_X2_beginFlipped 10 a1.toNatClampNeg I).bind (fun x4 => (f_X2_take a1.toNatClampNeg 10 x4).bind (fun x5 => (f_X2_judged a1.toNatClampNeg x5).bind (fun x6 => some (x6.1, x6.2))))) else ((f_X3_found 1 I).bind (fun x7 => some (x7.1, x7.2)))) else none)
def rmX3_flip : Room := { frames := 4, cells := 0, slots := 0, locals := 88 }
def f_X3_normal (a1 : Int32) (I : zMi) : Option (Int32 × zMi) :=
  if (f_X3_isTableNumber a1) = 0 then (some ((-1), I)) else (if ix a1 10 then (if (f_X2_isMissing a1.toNatClampNeg I) = 0 then ((f_X2_isSigns a1.toNatClampNeg I).bind (fun x4 => if x4 = 0 then ((f_X3_found 3 I).bind (fun x10 => some (x10.1, x10.2))) else ((f_X2_turnColumns a1.toNatClampNeg (I (24 + 3 * a1.toNatClampNeg) (0 : Int32).toNatClampNeg) I).bind (fun x6 => (f_X2_minusOfColumn a1.toNatClampNeg 0 x6).bind (fun x7 => (f_X2_turnRows a1.toNatClampNeg x7 x6).bind (fun x8 => (f_X2_judged a1.toNatClampNeg x8).bind (fun x9 => some (((f_J6_bitCount (I (24 + 3 * a1.toNatClampNeg) (0 : Int32).toNatClampNeg)) + (f_J6_bitCount x7)), x9.2)))))))) else ((f_X3_found 1 I).bind (fun x11 => some (x11.1, x11.2)))) else none)
def rmX3_normal : Room := { frames := 4, cells := 0, slots := 0, locals := 88 }
def f_X3_worth (a1 : Int32) (I : zMi) (J : zMl) : Option (Int32 × zMi × zMl) :=
  if (f_X3_isTableNumber a1) = 0 then (some ((-1), I, J)) else (if ix a1 10 then (if (f_X2_isMissing a1.toNatClampNeg I) = 0 then ((f_X0_tellOf a1.toNatClampNeg I J).bind (fun x4 => some (1, x4.1, (wJ x4.2 (0) 10 (x4.2 (4) (0 : Int32).toNatClampNeg))))) else ((f_X3_found 1 I).bind (fun x5 => some (x5.1, x5.2, J)))) else none)
def rmX3_worth : Room := { frames := 3, cells := 0, slots := 0, locals := 72 }
def f_X3_balanced (a1 : Int32) (I : zMi) : Option (Int32 × zMi) :=
  if (f_X3_isTableNumber a1) = 0 then (some ((-1), I)) else (if ix a1 10 then (if (f_X2_isMissing a1.toNatClampNeg I) = 0 then ((f_X2_balancedPairs a1.toNatClampNeg I).bind (fun x4 => some (x4, I))) else ((f_X3_found 1 I).bind (fun x5 => some (x5.1, x5.2)))) else none)
def rmX3_balanced : Room := { frames := 2, cells := 0, slots := 0, locals := 45 }
def f_X3_common (a1 : Int32) (a2 : Int32) (I : zMi) : Option (Int32 × zMi) :=
  if (f_X3_isTableNumber a1) = 0 then (some ((-1), I)) else (if ix a1 10 then (if (f_X2_isMissing a1.toNatClampNeg I) = 0 then ((f_X2_isSigns a1.toNatClampNeg I).bind (fun x4 => if x4 = 0 then ((f_X3_found 3 I).bind (fun x11 => some (x11.1, x11.2))) else (if a2 = 0 then ((f_X3_found 2 I).bind (fun x7 => some (x7.1, x7.2))) else (if (f_X2_isBeyond a1.toNatClampNeg a2 I) = 0 then ((f_X2_commonOf a1.toNatClampNeg a2 I).bind (fun x9 => some (x9, I))) else ((f_X3_found 2 I).bind (fun x10 => some (x10.1, x10.2))))))) else ((f_X3_found 1 I).bind (fun x12 => some (x12.1, x12.2)))) else none)
def rmX3_common : Room := { frames := 2, cells := 0, slots := 0, locals := 43 }
def f_X3_clearTally_2 : Nat → Int32 → zMi → Option zMi
  | 0, _, _ => none
  | f + 1, a1, I => if 13 ≤ a1 then (some I) else (if ix a1 13 then (f_X3_clearTally_2 f (a1 + 1) (wI I (7) a1.toNatClampNeg 0)) else none)
def f_X3_clearTally (I : zMi) : Option zMi :=
  f_X3_clearTally_2 fu 0 I
def rmX3_clearTally : Room := { frames := 0, cells := 0, slots := 0, locals := 0 }
def f_X3_profile (a1 : Int32) (a2 : Int32) (a3 : Int32) (I : zMi) : Option (Int32 × zMi) :=
  if (f_X3_isTableNumber a1) = 0 then (some ((-1), I)) else (if a2 < 2 then (some ((-1), I)) else (if 4 < a2 then (some ((-1), I)) else (if a3 < 0 then (some ((-1), I)) else (if a3 ≤ 12 then (if ix a1 10 then (if (f_X2_isMissing a1.toNatClampNeg I) = 0 then ((f_X2_isSigns a1.toNatClampNeg I).bind (fun x8 => if x8 = 0 then ((f_X3_found 3 I).bind (fun x13 => some (x13.1, x13.2))) else ((f_X3_clearTally I).bind (fun x10 => (f_X2_addProfile a1.toNatClampNeg a2 1 x10).bind (fun x11 => if ix a3 13 then (some ((x11 (7) a3.toNatClampNeg), x11)) else none))))) else ((f_X3_found 1 I).bind (fun x14 => some (x14.1, x14.2)))) else none) else (some ((-1), I))))))
def rmX3_profile : Room := { frames := 3, cells := 0, slots := 0, locals := 67 }
def f_X3_haveOneProfile_27 : Nat → Int32 → zMi → Option (Int32 × zMi)
  | 0, _, _ => none
  | f + 1, a4, I => if 13 ≤ a4 then (some (1, I)) else (if ix a4 13 then (if (I (7) a4.toNatClampNeg) = 0 then (f_X3_haveOneProfile_27 f (a4 + 1) I) else (some (0, I))) else none)
def f_X3_haveOneProfile (n1 : Nat) (n2 : Nat) (a3 : Int32) (I : zMi) : Option (Int32 × zMi) :=
  (f_X3_clearTally I).bind (fun x1 => (f_X2_addProfile n1 a3 1 x1).bind (fun x2 => (f_X2_addProfile n2 a3 (-1) x2).bind (fun x3 => f_X3_haveOneProfile_27 fu 0 x3)))
def rmX3_haveOneProfile : Room := { frames := 3, cells := 0, slots := 0, locals := 67 }
def f_X3_mayBeLike_160 (I : zMi) : Option (Int32 × zMi) :=
  if (0 : Int32) = 0 then (some (0, I)) else (some (1, I))
def f_X3_mayBeLike (a1 : Int32) (a2 : Int32) (I : zMi) : Option (Int32 × zMi) :=
  if (f_X3_isTableNumber a1) = 0 then (some ((-1), I)) else (if (f_X3_isTableNumber a2) = 0 then (some ((-1), I)) else (if ix a1 10 then (if ix a2 10 then (if (f_X2_isMissing a1.toNatClampNeg I) = 0 then (if (f_X2_isMissing a2.toNatClampNeg I) = 0 then ((f_X2_isSigns a1.toNatClampNeg I).bind (fun x8 => if x8 = 0 then ((f_X3_found 3 I).bind (fun x10 => some (x10.1, x10.2))) else ((f_X2_isSigns a2.toNatClampNeg I).bind (fun x11 => if x11 = 0 then ((f_X3_found 3 I).bind (fun x13 => some (x13.1, x13.2))) else (if (I (22 + 3 * a1.toNatClampNeg) 2) = (I (22 + 3 * a2.toNatClampNeg) 2) then ((f_X2_beginFlipped 10 a1.toNatClampNeg I).bind (fun x15 => (f_X2_beginFlipped 11 a2.toNatClampNeg x15).bind (fun x16 => (f_X3_haveOneProfile a1.toNatClampNeg a2.toNatClampNeg 2 x16).bind (fun x17 => if x17.1 = 0 then (f_X3_mayBeLike_160 x17.2) else ((f_X3_haveOneProfile a1.toNatClampNeg a2.toNatClampNeg 4 x17.2).bind (fun x19 => if x19.1 = 0 then (f_X3_mayBeLike_160 x19.2) else ((f_X3_haveOneProfile 10 11 2 x19.2).bind (fun x21 => if x21.1 = 0 then (f_X3_mayBeLike_160 x21.2) else ((f_X3_haveOneProfile 10 11 4 x21.2).bind (fun x23 => if x23.1 = 0 then (f_X3_mayBeLike_160 x23.2) else (if (1 : Int32) = 0 then (some (0, x23.2)) else (some (1, x23.2))))))))))))) else ((f_X3_found 3 I).bind (fun x26 => some (x26.1, x26.2)))))))) else ((f_X3_found 1 I).bind (fun x27 => some (x27.1, x27.2)))) else ((f_X3_found 1 I).bind (fun x6 => some (x6.1, x6.2)))) else none) else none))
def rmX3_mayBeLike : Room := { frames := 4, cells := 0, slots := 0, locals := 91 }
def f_X3_like (a1 : Int32) (a2 : Int32) (I : zMi) : Option (Int32 × zMi) :=
  if (f_X3_isTableNumber a1) = 0 then (some ((-1), I)) else (if (f_X3_isTableNumber a2) = 0 then (some ((-1), I)) else (if ix a1 10 then (if ix a2 10 then (if (f_X2_isMissing a1.toNatClampNeg I) = 0 then (if (f_X2_isMissing a2.toNatClampNeg I) = 0 then ((f_X2_isSigns a1.toNatClampNeg I).bind (fun x8 => if x8 = 0 then ((f_X3_found 3 I).bind (fun x10 => some (x10.1, x10.2))) else ((f_X2_isSigns a2.toNatClampNeg I).bind (fun x11 => if x11 = 0 then ((f_X3_found 3 I).bind (fun x13 => some (x13.1, x13.2))) else (if (I (22 + 3 * a1.toNatClampNeg) 2) = (I (22 + 3 * a2.toNatClampNeg) 2) then (if (I (22 + 3 * a1.toNatClampNeg) 2) ≤ 4 then ((f_X2_comesFrom a1.toNatClampNeg a2.toNatClampNeg I).bind (fun x16 => if x16 = 0 then (some (0, I)) else (some (1, I)))) else ((f_X3_found 5 I).bind (fun x18 => some (x18.1, x18.2)))) else ((f_X3_found 3 I).bind (fun x19 => some (x19.1, x19.2)))))))) else ((f_X3_found 1 I).bind (fun x20 => some (x20.1, x20.2)))) else ((f_X3_found 1 I).bind (fun x6 => some (x6.1, x6.2)))) else none) else none))
def rmX3_like : Room := { frames := 4, cells := 0, slots := 0, locals := 92 }
def f_X3_excess_34 : Nat → Nat → Int32 → Int32 → zMi → Option (Int32 × zMi)
  | 0, _, _, _, _ => none
  | f + 1, n2, a3, a4, I => if ((1 : Int32) <<< (((I (22 + 3 * n2) 2) - 1) &&& 31)) ≤ a4 then (some (a3, I)) else ((f_X2_sumOfSizes n2 a4 I).bind (fun x2 => if x2 ≤ a3 then (f_X3_excess_34 f n2 a3 (a4 + 1) I) else (f_X3_excess_34 f n2 x2 (a4 + 1) (wI I (0) 9 a4))))
def f_X3_excess (a1 : Int32) (I : zMi) : Option (Int32 × zMi) :=
  if (f_X3_isTableNumber a1) = 0 then (some ((-1), I)) else (if ix a1 10 then (if (f_X2_isMissing a1.toNatClampNeg I) = 0 then (f_X3_excess_34 fu a1.toNatClampNeg (-1) 0 I) else ((f_X3_found 1 I).bind (fun x4 => some (x4.1, x4.2)))) else none)
def rmX3_excess : Room := { frames := 3, cells := 0, slots := 0, locals := 65 }
def f_X3_peak_39 : Nat → Nat → Int32 → Int32 → zMi → Option (Int32 × zMi)
  | 0, _, _, _, _ => none
  | f + 1, n2, a3, a4, I => if ((1 : Int32) <<< (((I (22 + 3 * n2) 2) - 1) &&& 31)) ≤ a4 then (some (a3, I)) else ((f_X2_greatestSize n2 a4 a3 I).bind (fun x2 => if a3 ≤ x2 then (f_X3_peak_39 f n2 a3 (a4 + 1) I) else (f_X3_peak_39 f n2 x2 (a4 + 1) (wI I (0) 9 a4))))
def f_X3_peak (a1 : Int32) (I : zMi) : Option (Int32 × zMi) :=
  if (f_X3_isTableNumber a1) = 0 then (some ((-1), I)) else (if ix a1 10 then (if (f_X2_isMissing a1.toNatClampNeg I) = 0 then (f_X3_peak_39 fu a1.toNatClampNeg ((I (22 + 3 * a1.toNatClampNeg) 2) + 1) 0 I) else ((f_X3_found 1 I).bind (fun x4 => some (x4.1, x4.2)))) else none)
def rmX3_peak : Room := { frames := 3, cells := 0, slots := 0, locals := 66 }
def f_X3_block (a1 : Int32) (a2 : Int32) (I : zMi) : Option (Int32 × zMi) :=
  if (f_X3_isTableNumber a1) = 0 then (some ((-1), I)) else (if ix a1 10 then (if (f_X2_isMissing a1.toNatClampNeg I) = 0 then (if (f_X2_isOfKind a1.toNatClampNeg 1 I) = 0 then ((f_X3_found 3 I).bind (fun x12 => some (x12.1, x12.2))) else (if 4 ≤ (I (22 + 3 * a1.toNatClampNeg) 2) then (if a2 < 0 then ((f_X3_found 2 I).bind (fun x7 => some (x7.1, x7.2))) else (if a2 ≤ ((I (22 + 3 * a1.toNatClampNeg) 2) - 2) then ((f_X2_normalPlus a1.toNatClampNeg (a2 + 1) I).bind (fun x9 => some ((x9 >>> ((1 : Int32) &&& 31)), I))) else ((f_X3_found 2 I).bind (fun x10 => some (x10.1, x10.2))))) else ((f_X3_found 5 I).bind (fun x11 => some (x11.1, x11.2))))) else ((f_X3_found 1 I).bind (fun x13 => some (x13.1, x13.2)))) else none)
def rmX3_block : Room := { frames := 2, cells := 0, slots := 0, locals := 43 }
def f_X3_findingOfSigns (n0 : Nat) (I : zMi) : Option Int32 :=
  if (f_X1_isMissing n0 I) = 0 then (if (I (10 + 2 * n0) 1) = 0 then (some 5) else ((f_X1_isSigns n0 I).bind (fun x3 => if x3 = 0 then (some 3) else (some 0)))) else (some 1)
def rmX3_findingOfSigns : Room := { frames := 1, cells := 0, slots := 0, locals := 21 }
def f_X3_echo (a1 : Int32) (a2 : Int32) (a3 : Int32) (I : zMi) : Option (Int32 × zMi) :=
  if (f_X3_isRowNumber a1) = 0 then (some ((-1), I)) else (if ix a1 6 then ((f_X3_findingOfSigns a1.toNatClampNeg I).bind (fun x3 => if x3 = 0 then (if a2 < 0 then ((f_X3_found 2 I).bind (fun x6 => some (x6.1, x6.2))) else (if a2 < (I (10 + 2 * a1.toNatClampNeg) 1) then ((f_X1_minusBits a1.toNatClampNeg I).bind (fun x8 => some (1, (wI I (0) 9 (f_X3_echoOf x8 (I (10 + 2 * a1.toNatClampNeg) 1) a2 a3))))) else ((f_X3_found 2 I).bind (fun x9 => some (x9.1, x9.2))))) else ((f_X3_found x3 I).bind (fun x10 => some (x10.1, x10.2))))) else none)
def rmX3_echo : Room := { frames := 2, cells := 0, slots := 0, locals := 45 }
def f_X3_sideOf_5 : Nat → Int32 → Int32 → Int32 → Int32 → Int32 → Option Int32
  | 0, _, _, _, _, _ => none
  | f + 1, a0, a1, a2, a3, a4 => if a1 ≤ a4 then (some a3) else (if a2 ≤ a3 then (some a3) else (f_X3_sideOf_5 f a0 a1 a2 (f_J9_max a3 (f_J9_abs (f_X3_echoOf a0 a1 a4 0))) (a4 + 1)))
def f_X3_sideOf (a0 : Int32) (a1 : Int32) (a2 : Int32) : Option Int32 :=
  f_X3_sideOf_5 fu a0 a1 a2 0 1
def rmX3_sideOf : Room := { frames := 2, cells := 0, slots := 0, locals := 45 }
def f_X3_side (a1 : Int32) (I : zMi) : Option (Int32 × zMi) :=
  if (f_X3_isRowNumber a1) = 0 then (some ((-1), I)) else (if ix a1 6 then ((f_X3_findingOfSigns a1.toNatClampNeg I).bind (fun x3 => if x3 = 0 then ((f_X1_minusBits a1.toNatClampNeg I).bind (fun x5 => (f_X3_sideOf x5 (I (10 + 2 * a1.toNatClampNeg) 1) (I (10 + 2 * a1.toNatClampNeg) 1)).bind (fun x6 => some (x6, I)))) else ((f_X3_found x3 I).bind (fun x7 => some (x7.1, x7.2))))) else none)
def rmX3_side : Room := { frames := 3, cells := 0, slots := 0, locals := 69 }
def f_X3_findingOfPair (n0 : Nat) (n1 : Nat) (a2 : Int32) (I : zMi) : Option Int32 :=
  if (f_X1_isMissing n0 I) = 0 then (if (f_X1_isMissing n1 I) = 0 then (if (I (10 + 2 * n0) 1) = 0 then (some 5) else (if (I (10 + 2 * n0) 1) = (I (10 + 2 * n1) 1) then (if (I (10 + 2 * n0) 1) ≤ a2 then ((f_X1_isSigns n0 I).bind (fun x6 => if x6 = 0 then (some 3) else ((f_X1_isSigns n1 I).bind (fun x8 => if x8 = 0 then (some 3) else (some 0))))) else (some 5)) else (some 5))) else (some 1)) else (some 1)
def rmX3_findingOfPair : Room := { frames := 1, cells := 0, slots := 0, locals := 21 }
def f_X3_pairCancels_20 (I : zMi) : Nat → Int32 → Int32 → Int32 → Int32 → Int32 → Option Int32
  | 0, _, _, _, _, _ => none
  | f + 1, a2, a3, a4, a5, a6 => if a3 ≤ a6 then (some 1) else (if ((f_X3_echoOf a4 a3 a6 a2) + (f_X3_echoOf a5 a3 a6 a2)) = 0 then (f_X3_pairCancels_20 I f a2 a3 a4 a5 (a6 + 1)) else (some 0))
def f_X3_pairCancels (n0 : Nat) (n1 : Nat) (a2 : Int32) (I : zMi) : Option Int32 :=
  (f_X1_minusBits n0 I).bind (fun x1 => (f_X1_minusBits n1 I).bind (fun x2 => f_X3_pairCancels_20 I fu a2 (I (10 + 2 * n0) 1) x1 x2 1))
def rmX3_pairCancels : Room := { frames := 2, cells := 0, slots := 0, locals := 45 }
def f_X3_cancels (a1 : Int32) (a2 : Int32) (a3 : Int32) (I : zMi) : Option (Int32 × zMi) :=
  if (f_X3_isRowNumber a1) = 0 then (some ((-1), I)) else (if (f_X3_isRowNumber a2) = 0 then (some ((-1), I)) else (if ix a1 6 then (if ix a2 6 then ((f_X3_findingOfPair a1.toNatClampNeg a2.toNatClampNeg 24 I).bind (fun x5 => if x5 = 0 then ((f_X3_pairCancels a1.toNatClampNeg a2.toNatClampNeg a3 I).bind (fun x7 => if x7 = 0 then (some (0, I)) else (some (1, I)))) else ((f_X3_found x5 I).bind (fun x9 => some (x9.1, x9.2))))) else none) else none))
def rmX3_cancels : Room := { frames := 3, cells := 0, slots := 0, locals := 71 }
def f_X3_echoKey_5 : Nat → Int32 → Int32 → Int64 → Int32 → Option Int64
  | 0, _, _, _, _ => none
  | f + 1, a0, a1, a2, a4 => if a1 ≤ a4 then (some a2) else (f_X3_echoKey_5 f a0 a1 ((a2 * 32) + ((f_X3_echoOf a0 a1 a4 0).toInt64)) (a4 + 1))
def f_X3_echoKey (a0 : Int32) (a1 : Int32) : Option Int64 :=
  f_X3_echoKey_5 fu a0 a1 0 1
def rmX3_echoKey : Room := { frames := 2, cells := 0, slots := 0, locals := 45 }
def f_X3_pairs_57 (k48 : Int32 → Int32 → Int32 → zMl → Option (Int32 × zMl)) : Nat → Int32 → Int32 → Int32 → Int32 → zMl → Option (Int32 × zMl)
  | 0, _, _, _, _, _ => none
  | f + 1, a2, a3, a4, a5, J => if a2 ≤ a5 then (k48 a2 a3 (a4 + 1) J) else (if ix a4 128 then (if ix a5 128 then (if (lg_cmp ((J (8) a4.toNatClampNeg) + (J (8) a5.toNatClampNeg)) 0) = 0 then (f_X3_pairs_57 k48 f a2 (a3 + 1) a4 (a5 + 1) J) else (f_X3_pairs_57 k48 f a2 a3 a4 (a5 + 1) J)) else none) else none)
def f_X3_pairs_48 : Nat → Int32 → Int32 → Int32 → zMl → Option (Int32 × zMl)
  | 0, _, _, _, _ => none
  | f + 1, a2, a3, a4, J => if a2 ≤ a4 then (some ((4 * a3), J)) else (f_X3_pairs_57 (f_X3_pairs_48 f) fu a2 a3 a4 0 J)
def f_X3_pairs_21 : Nat → Int32 → Int32 → Int32 → zMl → Option (Int32 × zMl)
  | 0, _, _, _, _ => none
  | f + 1, a1, a2, a3, J => if a2 ≤ a3 then (f_X3_pairs_48 fu a2 0 0 J) else ((f_X3_echoKey a3 a1).bind (fun x2 => if ix a3 128 then (f_X3_pairs_21 f a1 a2 (a3 + 1) (wJ J (8) a3.toNatClampNeg x2)) else none))
def f_X3_pairs (a1 : Int32) (J : zMl) : Option (Int32 × zMl) :=
  if a1 < 1 then (some ((-1), J)) else (if a1 ≤ 8 then (f_X3_pairs_21 fu a1 ((1 : Int32) <<< ((a1 - 1) &&& 31)) 0 J) else (some ((-1), J)))
def rmX3_pairs : Room := { frames := 3, cells := 0, slots := 0, locals := 69 }
def f_X3_leastSide_28 : Nat → Int32 → Int32 → Int32 → Int32 → Int32 → zMi → Option (Int32 × zMi)
  | 0, _, _, _, _, _, _ => none
  | f + 1, a1, a2, a3, a4, a5, I => if ((1 : Int32) <<< ((a1 - 1) &&& 31)) ≤ a5 then (if ix a2 6 then ((f_X1_beginSigns a2.toNatClampNeg a1 a4 I).bind (fun x3 => some (a3, x3))) else none) else ((f_X3_sideOf a5 a1 a3).bind (fun x4 => if a3 ≤ x4 then (f_X3_leastSide_28 f a1 a2 a3 a4 (a5 + 1) I) else (f_X3_leastSide_28 f a1 a2 x4 a5 (a5 + 1) I)))
def f_X3_leastSide (a1 : Int32) (a2 : Int32) (I : zMi) : Option (Int32 × zMi) :=
  if a1 < 1 then (some ((-1), I)) else (if 12 < a1 then (some ((-1), I)) else (if (f_X3_isRowNumber a2) = 0 then (some ((-1), I)) else (f_X3_leastSide_28 fu a1 a2 a1 0 0 I)))
def rmX3_leastSide : Room := { frames := 3, cells := 0, slots := 0, locals := 69 }
def f_X3_longer (a1 : Int32) (a2 : Int32) (a3 : Int32) (a4 : Int32) (I : zMi) : Option (Int32 × zMi) :=
  if (f_X3_isRowNumber a1) = 0 then (some ((-1), I)) else (if (f_X3_isRowNumber a2) = 0 then (some ((-1), I)) else (if (f_X3_isRowNumber a3) = 0 then (some ((-1), I)) else (if (f_X3_isRowNumber a4) = 0 then (some ((-1), I)) else (if a3 = a4 then (some ((-1), I)) else (if ix a1 6 then (if ix a2 6 then ((f_X3_findingOfPair a1.toNatClampNeg a2.toNatClampNeg 12 I).bind (fun x8 => if x8 = 0 then ((f_X3_pairCancels a1.toNatClampNeg a2.toNatClampNeg 0 I).bind (fun x10 => if x10 = 0 then (some ((-4), I)) else ((f_X1_minusBits a1.toNatClampNeg I).bind (fun x12 => (f_X1_minusBits a2.toNatClampNeg I).bind (fun x13 => if ix a3 6 then ((f_X1_beginSigns a3.toNatClampNeg (2 * (I (10 + 2 * a1.toNatClampNeg) 1)) (x12 ||| (x13 <<< ((I (10 + 2 * a1.toNatClampNeg) 1) &&& 31))) I).bind (fun x15 => if ix a4 6 then ((f_X1_beginSigns a4.toNatClampNeg (2 * (I (10 + 2 * a1.toNatClampNeg) 1)) (x12 ||| ((x13 ^^^ (f_X3_allBits (I (10 + 2 * a1.toNatClampNeg) 1))) <<< ((I (10 + 2 * a1.toNatClampNeg) 1) &&& 31))) x15).bind (fun x17 => some ((2 * (I (10 + 2 * a1.toNatClampNeg) 1)), x17))) else none)) else none))))) else ((f_X3_found x8 I).bind (fun x18 => some (x18.1, x18.2))))) else none) else none)))))
def rmX3_longer : Room := { frames := 3, cells := 0, slots := 0, locals := 71 }
def f_X3_findingOfGraph (n0 : Nat) (I : zMi) : Int32 :=
  if (f_X2_isMissing n0 I) = 0 then (if (f_X2_isOfKind n0 3 I) = 0 then 3 else 0) else 1
def rmX3_findingOfGraph : Room := { frames := 1, cells := 0, slots := 0, locals := 21 }
def f_X3_switched (a1 : Int32) (a2 : Int32) (I : zMi) : Option (Int32 × zMi) :=
  if (f_X3_isTableNumber a1) = 0 then (some ((-1), I)) else (if ix a1 10 then (if (f_X3_findingOfGraph a1.toNatClampNeg I) = 0 then (if (f_X2_isBeyond a1.toNatClampNeg a2 I) = 0 then ((f_X2_switchBy a1.toNatClampNeg a2 I).bind (fun x5 => (f_X2_judged a1.toNatClampNeg x5).bind (fun x6 => some (x6.1, x6.2)))) else ((f_X3_found 2 I).bind (fun x7 => some (x7.1, x7.2)))) else ((f_X3_found (f_X3_findingOfGraph a1.toNatClampNeg I) I).bind (fun x8 => some (x8.1, x8.2)))) else none)
def rmX3_switched : Room := { frames := 4, cells := 0, slots := 0, locals := 88 }
def f_X3_odd (a1 : Int32) (I : zMi) : Option (Int32 × zMi) :=
  if (f_X3_isTableNumber a1) = 0 then (some ((-1), I)) else (if ix a1 10 then (if (f_X3_findingOfGraph a1.toNatClampNeg I) = 0 then ((f_X2_oddTriples a1.toNatClampNeg I).bind (fun x4 => some (x4, I))) else ((f_X3_found (f_X3_findingOfGraph a1.toNatClampNeg I) I).bind (fun x5 => some (x5.1, x5.2)))) else none)
def rmX3_odd : Room := { frames := 2, cells := 0, slots := 0, locals := 46 }
def f_X3_alike (a1 : Int32) (a2 : Int32) (I : zMi) : Option (Int32 × zMi) :=
  if (f_X3_isTableNumber a1) = 0 then (some ((-1), I)) else (if (f_X3_isTableNumber a2) = 0 then (some ((-1), I)) else (if ix a1 10 then (if ix a2 10 then (if (f_X2_isMissing a1.toNatClampNeg I) = 0 then (if (f_X2_isMissing a2.toNatClampNeg I) = 0 then (if (f_X2_isOfKind a1.toNatClampNeg 3 I) = 0 then ((f_X3_found 3 I).bind (fun x9 => some (x9.1, x9.2))) else (if (f_X2_isOfKind a2.toNatClampNeg 3 I) = 0 then ((f_X3_found 3 I).bind (fun x11 => some (x11.1, x11.2))) else (if (I (22 + 3 * a1.toNatClampNeg) 2) = (I (22 + 3 * a2.toNatClampNeg) 2) then ((f_X2_becomesBySwitching a1.toNatClampNeg a2.toNatClampNeg ((I (24 + 3 * a1.toNatClampNeg) (0 : Int32).toNatClampNeg) ^^^ (I (24 + 3 * a2.toNatClampNeg) (0 : Int32).toNatClampNeg)) I).bind (fun x13 => if x13 = 0 then (some (0, I)) else (some (1, (wI I (0) 9 ((I (24 + 3 * a1.toNatClampNeg) (0 : Int32).toNatClampNeg) ^^^ (I (24 + 3 * a2.toNatClampNeg) (0 : Int32).toNatClampNeg))))))) else ((f_X3_found 3 I).bind (fun x15 => some (x15.1, x15.2)))))) else ((f_X3_found 1 I).bind (fun x16 => some (x16.1, x16.2)))) else ((f_X3_found 1 I).bind (fun x6 => some (x6.1, x6.2)))) else none) else none))
def rmX3_alike : Room := { frames := 3, cells := 0, slots := 0, locals := 66 }
def f_X3_fewest_39 : Nat → Nat → Int32 → Int32 → zMi → Option (Int32 × zMi)
  | 0, _, _, _, _ => none
  | f + 1, n2, a4, a5, I => if ((1 : Int32) <<< ((I (22 + 3 * n2) 2) &&& 31)) ≤ a5 then (some (a4, I)) else ((f_X2_edgesSwitched n2 a5 I).bind (fun x2 => if a4 ≤ x2 then (f_X3_fewest_39 f n2 a4 (a5 + 2) I) else (f_X3_fewest_39 f n2 x2 (a5 + 2) (wI I (0) 9 a5))))
def f_X3_fewest (a1 : Int32) (I : zMi) : Option (Int32 × zMi) :=
  if (f_X3_isTableNumber a1) = 0 then (some ((-1), I)) else (if ix a1 10 then (if (f_X3_findingOfGraph a1.toNatClampNeg I) = 0 then (f_X3_fewest_39 fu a1.toNatClampNeg 144 0 I) else ((f_X3_found (f_X3_findingOfGraph a1.toNatClampNeg I) I).bind (fun x4 => some (x4.1, x4.2)))) else none)
def rmX3_fewest : Room := { frames := 3, cells := 0, slots := 0, locals := 66 }
def f_X3_even (a1 : Int32) (a2 : Int32) (I : zMi) : Option (Int32 × zMi) :=
  if (f_X3_isTableNumber a1) = 0 then (some ((-1), I)) else (if a2 < 0 then (some ((-1), I)) else (if a2 ≤ 3 then (if ix a1 10 then (if (f_X2_isMissing a1.toNatClampNeg I) = 0 then (if (f_X2_isOfKind a1.toNatClampNeg 4 I) = 0 then ((f_X3_found 3 I).bind (fun x13 => some (x13.1, x13.2))) else (if a2 = 0 then (some ((I (22 + 3 * a1.toNatClampNeg) 2), I)) else (if a2 = 1 then ((f_X2_neighbours a1.toNatClampNeg 0 I).bind (fun x9 => some (x9, I))) else (if a2 = 2 then ((f_X2_commonOfFirstPair a1.toNatClampNeg 1 I).bind (fun x11 => some (x11, I))) else ((f_X2_commonOfFirstPair a1.toNatClampNeg 0 I).bind (fun x12 => some (x12, I))))))) else ((f_X3_found 1 I).bind (fun x14 => some (x14.1, x14.2)))) else none) else (some ((-1), I))))
def rmX3_even : Room := { frames := 2, cells := 0, slots := 0, locals := 43 }
def f_X3_own (a1 : Int32) (a2 : Int32) (I : zMi) (J : zMl) : Option (Int32 × zMi × zMl) :=
  if (f_X3_isTableNumber a1) = 0 then (some ((-1), I, J)) else (if a2 < (-12) then (some ((-1), I, J)) else (if a2 ≤ 12 then (if ix a1 10 then (if (f_X2_isMissing a1.toNatClampNeg I) = 0 then ((f_X0_tellOf a1.toNatClampNeg I J).bind (fun x6 => (f_X0_takeRoots a2 x6.1 x6.2).bind (fun x7 => some (x7.1, x7.2.1, x7.2.2)))) else ((f_X3_found 1 I).bind (fun x8 => some (x8.1, x8.2, J)))) else none) else (some ((-1), I, J))))
def rmX3_own : Room := { frames := 3, cells := 0, slots := 0, locals := 72 }
def f_X3_form (a1 : Int32) (a2 : Int32) (I : zMi) (J : zMl) : Option (Int32 × zMi × zMl) :=
  if (f_X3_isTableNumber a1) = 0 then (some ((-1), I, J)) else (if 0 ≤ a2 then (if ix a1 10 then (if (f_X2_isMissing a1.toNatClampNeg I) = 0 then (if a2 ≤ (I (22 + 3 * a1.toNatClampNeg) 2) then ((f_X0_tellOf a1.toNatClampNeg I J).bind (fun x6 => if ix a2 13 then (some (1, x6.1, (wJ x6.2 (0) 10 (x6.2 (4) a2.toNatClampNeg)))) else none)) else ((f_X3_found 2 I).bind (fun x8 => some (x8.1, x8.2, J)))) else ((f_X3_found 1 I).bind (fun x9 => some (x9.1, x9.2, J)))) else none) else (some ((-1), I, J)))
def rmX3_form : Room := { frames := 3, cells := 0, slots := 0, locals := 72 }
def f_X3_tellFraction_14 : Nat → Int32 → Int32 → Int32 → zMl → Option zMl
  | 0, _, _, _, _ => none
  | f + 1, a1, a2, a3, J => if a3 ≤ 1 then (some J) else (if a3 = 0 then none else (if (a1 - a1 / a3 * a3) = 0 then (if (a2 - a2 / a3 * a3) = 0 then (some (wJ (wJ J (0) 11 ((a1 / a3).toInt64)) (0) 12 ((a2 / a3).toInt64))) else (f_X3_tellFraction_14 f a1 a2 (a3 + (-1)) J)) else (f_X3_tellFraction_14 f a1 a2 (a3 + (-1)) J)))
def f_X3_tellFraction (a1 : Int32) (a2 : Int32) (J : zMl) : Option zMl :=
  f_X3_tellFraction_14 fu a1 a2 a2 (wJ (wJ J (0) 11 (a1.toInt64)) (0) 12 (a2.toInt64))
def rmX3_tellFraction : Room := { frames := 0, cells := 0, slots := 0, locals := 0 }
def f_X3_weight (a1 : Int32) (I : zMi) (J : zMl) : Option (Int32 × zMi × zMl) :=
  if (f_X3_isTableNumber a1) = 0 then (some ((-1), I, J)) else (if ix a1 10 then (if (f_X2_isMissing a1.toNatClampNeg I) = 0 then ((f_X3_countBits (23 + 3 * a1.toNatClampNeg) (I (22 + 3 * a1.toNatClampNeg) 2) I).bind (fun x4 => (f_X3_countBits (24 + 3 * a1.toNatClampNeg) (I (22 + 3 * a1.toNatClampNeg) 2) I).bind (fun x5 => (f_X3_tellFraction (x4 - x5) (I (22 + 3 * a1.toNatClampNeg) 2) J).bind (fun x6 => some (1, I, x6))))) else ((f_X3_found 1 I).bind (fun x7 => some (x7.1, x7.2, J)))) else none)
def rmX3_weight : Room := { frames := 2, cells := 0, slots := 0, locals := 43 }
def f_X3_worthTold (J : zMl) : Int64 :=
  (J (0) 10)
def rmX3_worthTold : Room := { frames := 0, cells := 0, slots := 0, locals := 0 }
def f_X3_asked (I : zMi) : Int32 :=
  (I (0) 9)
def rmX3_asked : Room := { frames := 0, cells := 0, slots := 0, locals := 0 }
def f_X3_upper (J : zMl) : Int64 :=
  (J (0) 11)
def rmX3_upper : Room := { frames := 0, cells := 0, slots := 0, locals := 0 }
def f_X3_lower (J : zMl) : Int64 :=
  (J (0) 12)
def rmX3_lower : Room := { frames := 0, cells := 0, slots := 0, locals := 0 }
def f_X3_countRows_4 (I : zMi) : Nat → Int32 → Int32 → Option Int32
  | 0, _, _ => none
  | f + 1, a1, a2 => if 6 ≤ a2 then (some a1) else (if ix a2 6 then (if (f_X1_isMissing a2.toNatClampNeg I) = 0 then (f_X3_countRows_4 I f (a1 + 1) (a2 + 1)) else (f_X3_countRows_4 I f a1 (a2 + 1))) else none)
def f_X3_countRows (I : zMi) : Option Int32 :=
  f_X3_countRows_4 I fu 0 0
def rmX3_countRows : Room := { frames := 1, cells := 0, slots := 0, locals := 20 }
def f_X3_countTables_4 (I : zMi) : Nat → Int32 → Int32 → Int32 → Option Int32
  | 0, _, _, _ => none
  | f + 1, a1, a2, a3 => if 10 ≤ a3 then (some a2) else (if ix a3 10 then (if (f_X2_isMissing a3.toNatClampNeg I) = 0 then (if (f_X2_isOfKind a3.toNatClampNeg a1 I) = 0 then (f_X3_countTables_4 I f a1 a2 (a3 + 1)) else (f_X3_countTables_4 I f a1 (a2 + 1) (a3 + 1))) else (f_X3_countTables_4 I f a1 a2 (a3 + 1))) else none)
def f_X3_countTables (a1 : Int32) (I : zMi) : Option Int32 :=
  f_X3_countTables_4 I fu a1 0 0
def rmX3_countTables : Room := { frames := 1, cells := 0, slots := 0, locals := 21 }
def f_X3_count (a1 : Int32) (I : zMi) : Option Int32 :=
  if a1 = 0 then ((f_X3_countRows I).bind (fun x2 => some x2)) else (if a1 = 1 then ((f_X3_countTables 0 I).bind (fun x4 => some x4)) else (if a1 = 2 then ((f_X3_countTables 1 I).bind (fun x6 => some x6)) else (if a1 = 3 then ((f_X3_countTables 3 I).bind (fun x8 => some x8)) else (some (-1)))))
def rmX3_count : Room := { frames := 2, cells := 0, slots := 0, locals := 44 }
def f_X3_finding (I : zMi) : Int32 :=
  (I (0) 8)
def rmX3_finding : Room := { frames := 0, cells := 0, slots := 0, locals := 0 }
def f_X3_findings (a1 : Int32) (I : zMi) : Option Int32 :=
  if a1 < 1 then (some (-1)) else (if a1 ≤ 5 then (if ix a1 6 then (some (I (9) a1.toNatClampNeg)) else none) else (some (-1)))
def rmX3_findings : Room := { frames := 0, cells := 0, slots := 0, locals := 0 }
def f_X3_digest_31 (I : zMi) : Nat → Int64 → Int32 → Option Int64
  | 0, _, _ => none
  | f + 1, a1, a3 => if 6 ≤ a3 then (some a1) else (if ix a3 6 then ((f_X1_addedTo a3.toNatClampNeg a1 I).bind (fun x3 => f_X3_digest_31 I f x3 (a3 + 1))) else none)
def f_X3_digest_6 (I : zMi) : Nat → Int64 → Int32 → Option Int64
  | 0, _, _ => none
  | f + 1, a1, a3 => if 10 ≤ a3 then (f_X3_digest_31 I fu a1 0) else (if ix a3 10 then ((f_X2_addedTo a3.toNatClampNeg a1 I).bind (fun x3 => f_X3_digest_6 I f x3 (a3 + 1))) else none)
def f_X3_digest (I : zMi) : Option Int64 :=
  f_X3_digest_6 I fu 17 0
def rmX3_digest : Room := { frames := 2, cells := 0, slots := 0, locals := 48 }
def f_X4_in (a0 : Int32) (a1 : Int32) (a2 : Int32) : Int32 :=
  if a0 < a1 then 0 else (if a2 < a0 then 0 else 1)
def rmX4_in : Room := { frames := 0, cells := 0, slots := 0, locals := 0 }
def f_X4_meets (a1 : Int32) (I : zMi) : Option (Int32 × zMi) :=
  if ix a1 6 then (some ((-3), (wI (wI I (0) 0 a1) (1) a1.toNatClampNeg (((wI I (0) 0 a1) (1) a1.toNatClampNeg) + 1)))) else none
def rmX4_meets : Room := { frames := 0, cells := 0, slots := 0, locals := 0 }
def f_X4_ask (a1 : Int32) (a2 : Int32) (I : zMi) : Int32 × zMi :=
  (a2, (wI I (0) 2 a1))
def rmX4_ask : Room := { frames := 0, cells := 0, slots := 0, locals := 0 }
def f_X4_abs (a0 : Int32) : Int32 :=
  if 0 ≤ a0 then a0 else (-a0)
def rmX4_abs : Room := { frames := 0, cells := 0, slots := 0, locals := 0 }
def f_X4_bits_4 : Nat → Int32 → Int32 → Int32 → Option Int32
  | 0, _, _, _ => none
  | f + 1, a0, a1, a2 => if 12 ≤ a2 then (some a1) else (f_X4_bits_4 f a0 (a1 + ((a0 >>> (a2 &&& 31)) &&& 1)) (a2 + 1))
def f_X4_bits (a0 : Int32) : Option Int32 :=
  f_X4_bits_4 fu a0 0 0
def rmX4_bits : Room := { frames := 0, cells := 0, slots := 0, locals := 0 }
def f_X4_isRow (a0 : Int32) : Int32 :=
  (f_X4_in a0 0 5)
def rmX4_isRow : Room := { frames := 1, cells := 0, slots := 0, locals := 22 }
def f_X4_askedRow (a1 : Int32) (I : zMi) : Option (Int32 × zMi) :=
  if (f_X4_isRow a1) = 0 then (some ((-1), I)) else (if ix a1 6 then (if 0 ≤ (I (2) a1.toNatClampNeg) then (some (0, I)) else ((f_X4_meets 1 I).bind (fun x4 => some (x4.1, x4.2)))) else none)
def rmX4_askedRow : Room := { frames := 2, cells := 0, slots := 0, locals := 42 }
def f_X4_begin_9 : Nat → Int32 → Int32 → zMi → Option zMi
  | 0, _, _, _ => none
  | f + 1, a1, a3, I => if 24 ≤ a3 then (some I) else (if ix ((24 * a1) + a3) 144 then (f_X4_begin_9 f a1 (a3 + 1) (wI I (3) ((24 * a1) + a3).toNatClampNeg 1)) else none)
def f_X4_begin (a1 : Int32) (a2 : Int32) (I : zMi) : Option zMi :=
  if ix a1 6 then (f_X4_begin_9 fu a1 0 (wI I (2) a1.toNatClampNeg a2)) else none
def rmX4_begin : Room := { frames := 0, cells := 0, slots := 0, locals := 0 }
def f_X4_row (a1 : Int32) (a2 : Int32) (I : zMi) : Option (Int32 × zMi) :=
  if (f_X4_isRow a1) = 0 then (some ((-1), I)) else (if a2 ≤ 24 then (if 0 ≤ a2 then ((f_X4_begin a1 a2 I).bind (fun x4 => some (a2, x4))) else ((f_X4_meets 5 I).bind (fun x5 => some (x5.1, x5.2)))) else (some ((-1), I)))
def rmX4_row : Room := { frames := 2, cells := 0, slots := 0, locals := 42 }
def f_X4_lay (a1 : Int32) (a2 : Int32) (a3 : Int32) (I : zMi) : Option (Int32 × zMi) :=
  (f_X4_askedRow a1 I).bind (fun x1 => if 0 ≤ x1.1 then (if ix a1 6 then (if (f_X4_in a2 0 ((x1.2 (2) a1.toNatClampNeg) - 1)) = 0 then ((f_X4_meets 2 x1.2).bind (fun x6 => some (x6.1, x6.2))) else (if ix ((24 * a1) + a2) 144 then (some (1, (wI (wI x1.2 (0) 2 (x1.2 (3) ((24 * a1) + a2).toNatClampNeg)) (3) ((24 * a1) + a2).toNatClampNeg a3))) else none)) else none) else (some (x1.1, x1.2)))
def rmX4_lay : Room := { frames := 3, cells := 0, slots := 0, locals := 63 }
def f_X4_tear (a1 : Int32) (I : zMi) : Option (Int32 × zMi) :=
  (f_X4_askedRow a1 I).bind (fun x1 => if 0 ≤ x1.1 then (if ix a1 6 then (some (1, (wI x1.2 (2) a1.toNatClampNeg (-9)))) else none) else (some (x1.1, x1.2)))
def rmX4_tear : Room := { frames := 3, cells := 0, slots := 0, locals := 63 }
def f_X4_copy_141 : Nat → Int32 → Int32 → Int32 → Int32 → zMi → Option (Int32 × zMi)
  | 0, _, _, _, _, _ => none
  | f + 1, a3, a4, a5, a6, I => if a5 ≤ a6 then (some (1, I)) else (if ix a6 24 then (if ix (((24 * a3) + a4) + a6) 144 then (f_X4_copy_141 f a3 a4 a5 (a6 + 1) (wI I (3) (((24 * a3) + a4) + a6).toNatClampNeg (I (4) a6.toNatClampNeg))) else none) else none)
def f_X4_copy_104 : Nat → Int32 → Int32 → Int32 → Int32 → Int32 → Int32 → zMi → Option (Int32 × zMi)
  | 0, _, _, _, _, _, _, _ => none
  | f + 1, a1, a2, a3, a4, a5, a6, I => if a5 ≤ a6 then (f_X4_copy_141 fu a3 a4 a5 0 I) else (if ix (((24 * a1) + a2) + a6) 144 then (if ix a6 24 then (f_X4_copy_104 f a1 a2 a3 a4 a5 (a6 + 1) (wI I (4) a6.toNatClampNeg (I (3) (((24 * a1) + a2) + a6).toNatClampNeg))) else none) else none)
def f_X4_copy (a1 : Int32) (a2 : Int32) (a3 : Int32) (a4 : Int32) (a5 : Int32) (I : zMi) : Option (Int32 × zMi) :=
  if (f_X4_isRow a1) = 0 then (some ((-1), I)) else (if (f_X4_isRow a3) = 0 then (some ((-1), I)) else (if 0 ≤ a5 then (if ix a1 6 then (if (I (2) a1.toNatClampNeg) < 0 then ((f_X4_meets 1 I).bind (fun x6 => some (x6.1, x6.2))) else (if ix a3 6 then (if 0 ≤ (I (2) a3.toNatClampNeg) then (if a2 < 0 then ((f_X4_meets 2 I).bind (fun x10 => some (x10.1, x10.2))) else (if a4 < 0 then ((f_X4_meets 2 I).bind (fun x12 => some (x12.1, x12.2))) else (if 0 < (lg_cmp ((a2.toInt64) + (a5.toInt64)) ((I (2) a1.toNatClampNeg).toInt64)) then ((f_X4_meets 2 I).bind (fun x14 => some (x14.1, x14.2))) else (if (lg_cmp ((a4.toInt64) + (a5.toInt64)) ((I (2) a3.toNatClampNeg).toInt64)) ≤ 0 then (f_X4_copy_104 fu a1 a2 a3 a4 a5 0 I) else ((f_X4_meets 2 I).bind (fun x16 => some (x16.1, x16.2))))))) else ((f_X4_meets 1 I).bind (fun x17 => some (x17.1, x17.2)))) else none)) else none) else ((f_X4_meets 5 I).bind (fun x18 => some (x18.1, x18.2)))))
def rmX4_copy : Room := { frames := 2, cells := 0, slots := 0, locals := 42 }
def f_X4_mean_17 : Nat → Int32 → Int64 → Int32 → zMi → Option (Int32 × zMi)
  | 0, _, _, _, _ => none
  | f + 1, a1, a3, a5, I => if ix a1 6 then (if (I (2) a1.toNatClampNeg) ≤ a5 then (if (I (2) a1.toNatClampNeg) = 0 then ((f_X4_meets 4 I).bind (fun x5 => some (x5.1, x5.2))) else (if ((I (2) a1.toNatClampNeg).toInt64) = 0 then none else (some ((f_X4_ask ((a3 / ((I (2) a1.toNatClampNeg).toInt64)).toInt32) 1 I).1, (f_X4_ask ((a3 / ((I (2) a1.toNatClampNeg).toInt64)).toInt32) 1 I).2)))) else (if ix ((24 * a1) + a5) 144 then (f_X4_mean_17 f a1 (a3 + ((I (3) ((24 * a1) + a5).toNatClampNeg).toInt64)) (a5 + 1) I) else none)) else none
def f_X4_mean (a1 : Int32) (I : zMi) : Option (Int32 × zMi) :=
  (f_X4_askedRow a1 I).bind (fun x1 => if 0 ≤ x1.1 then (f_X4_mean_17 fu a1 0 0 x1.2) else (some (x1.1, x1.2)))
def rmX4_mean : Room := { frames := 3, cells := 0, slots := 0, locals := 63 }
def f_X4_isSign (a0 : Int32) : Int32 :=
  if a0 = 1 then 1 else (if a0 = (-1) then 1 else 0)
def rmX4_isSign : Room := { frames := 0, cells := 0, slots := 0, locals := 0 }
def f_X4_areSigns_4 (I : zMi) : Nat → Int32 → Int32 → Int32 → Option Int32
  | 0, _, _, _ => none
  | f + 1, a1, a2, a3 => if ix a1 6 then (if (I (2) a1.toNatClampNeg) ≤ a3 then (some a2) else (if a2 = 0 then (f_X4_areSigns_4 I f a1 0 (a3 + 1)) else (if ix ((24 * a1) + a3) 144 then (if (f_X4_isSign (I (3) ((24 * a1) + a3).toNatClampNeg)) = 0 then (f_X4_areSigns_4 I f a1 0 (a3 + 1)) else (f_X4_areSigns_4 I f a1 1 (a3 + 1))) else none))) else none
def f_X4_areSigns (a1 : Int32) (I : zMi) : Option Int32 :=
  f_X4_areSigns_4 I fu a1 1 0
def rmX4_areSigns : Room := { frames := 1, cells := 0, slots := 0, locals := 20 }
def f_X4_isTable (a0 : Int32) : Int32 :=
  (f_X4_in a0 0 9)
def rmX4_isTable : Room := { frames := 1, cells := 0, slots := 0, locals := 22 }
def f_X4_askedTable (a1 : Int32) (I : zMi) : Option (Int32 × zMi) :=
  if (f_X4_isTable a1) = 0 then (some ((-1), I)) else (if ix a1 10 then (if (I (5) a1.toNatClampNeg) = 0 then ((f_X4_meets 1 I).bind (fun x4 => some (x4.1, x4.2))) else (some (0, I))) else none)
def rmX4_askedTable : Room := { frames := 2, cells := 0, slots := 0, locals := 42 }
def f_X4_get (a1 : Int32) (a2 : Int32) (a3 : Int32) (I : zMi) : Option Int32 :=
  if ix (((144 * a1) + (12 * a2)) + a3) 1440 then (some (I (6) (((144 * a1) + (12 * a2)) + a3).toNatClampNeg)) else none
def rmX4_get : Room := { frames := 0, cells := 0, slots := 0, locals := 0 }
def f_X4_let (a1 : Int32) (a2 : Int32) (a3 : Int32) (a4 : Int32) (I : zMi) : Option zMi :=
  if ix (((144 * a1) + (12 * a2)) + a3) 1440 then (some (wI I (6) (((144 * a1) + (12 * a2)) + a3).toNatClampNeg a4)) else none
def rmX4_let : Room := { frames := 0, cells := 0, slots := 0, locals := 0 }
def f_X4_hasZero_17 (I : zMi) (k4 : Int32 → Int32 → Int32 → Option Int32) : Nat → Int32 → Int32 → Int32 → Int32 → Option Int32
  | 0, _, _, _, _ => none
  | f + 1, a1, a2, a3, a4 => if ix a1 10 then (if (I (5) a1.toNatClampNeg) ≤ a4 then (k4 a1 a2 (a3 + 1)) else (if a2 = 0 then ((f_X4_get a1 a3 a4 I).bind (fun x4 => if x4 = 0 then (f_X4_hasZero_17 I k4 f a1 1 a3 (a4 + 1)) else (f_X4_hasZero_17 I k4 f a1 0 a3 (a4 + 1)))) else (f_X4_hasZero_17 I k4 f a1 1 a3 (a4 + 1)))) else none
def f_X4_hasZero_4 (I : zMi) : Nat → Int32 → Int32 → Int32 → Option Int32
  | 0, _, _, _ => none
  | f + 1, a1, a2, a3 => if ix a1 10 then (if (I (5) a1.toNatClampNeg) ≤ a3 then (some a2) else (f_X4_hasZero_17 I (f_X4_hasZero_4 I f) fu a1 a2 a3 0)) else none
def f_X4_hasZero (a1 : Int32) (I : zMi) : Option Int32 :=
  f_X4_hasZero_4 I fu a1 0 0
def rmX4_hasZero : Room := { frames := 1, cells := 0, slots := 0, locals := 23 }
def f_X4_balance_6 (I : zMi) : Nat → Int32 → Int32 → Int32 → Int32 → Int32 → Option Int32
  | 0, _, _, _, _, _ => none
  | f + 1, a1, a2, a3, a4, a5 => if ix a1 10 then (if (I (5) a1.toNatClampNeg) ≤ a5 then (if a4 = 0 then (some 1) else (some 0)) else ((f_X4_get a1 a2 a5 I).bind (fun x4 => (f_X4_get a1 a3 a5 I).bind (fun x5 => f_X4_balance_6 I f a1 a2 a3 (a4 + (x4 * x5)) (a5 + 1))))) else none
def f_X4_balance (a1 : Int32) (a2 : Int32) (a3 : Int32) (I : zMi) : Option Int32 :=
  f_X4_balance_6 I fu a1 a2 a3 0 0
def rmX4_balance : Room := { frames := 1, cells := 0, slots := 0, locals := 23 }
def f_X4_pairsThatBalance_17 (I : zMi) (k4 : Int32 → Int32 → Int32 → Option Int32) : Nat → Int32 → Int32 → Int32 → Int32 → Option Int32
  | 0, _, _, _, _ => none
  | f + 1, a1, a2, a3, a4 => if a3 ≤ a4 then (k4 a1 a2 (a3 + 1)) else ((f_X4_balance a1 a3 a4 I).bind (fun x2 => if x2 = 0 then (f_X4_pairsThatBalance_17 I k4 f a1 (a2 + 0) a3 (a4 + 1)) else (f_X4_pairsThatBalance_17 I k4 f a1 (a2 + 1) a3 (a4 + 1))))
def f_X4_pairsThatBalance_4 (I : zMi) : Nat → Int32 → Int32 → Int32 → Option Int32
  | 0, _, _, _ => none
  | f + 1, a1, a2, a3 => if ix a1 10 then (if (I (5) a1.toNatClampNeg) ≤ a3 then (some a2) else (f_X4_pairsThatBalance_17 I (f_X4_pairsThatBalance_4 I f) fu a1 a2 a3 0)) else none
def f_X4_pairsThatBalance (a1 : Int32) (I : zMi) : Option Int32 :=
  f_X4_pairsThatBalance_4 I fu a1 0 0
def rmX4_pairsThatBalance : Room := { frames := 2, cells := 0, slots := 0, locals := 48 }
def f_X4_isRound_21 (I : zMi) (k12 : Int32 → Int32 → Int32 → Int32 → Option Int32) : Nat → Int32 → Int32 → Int32 → Int32 → Int32 → Option Int32
  | 0, _, _, _, _, _ => none
  | f + 1, a1, a2, a3, a4, a5 => if a3 ≤ a5 then (k12 a1 a2 a3 (a4 + 1)) else (if a2 = 0 then (f_X4_isRound_21 I k12 f a1 0 a3 a4 (a5 + 1)) else ((f_X4_get a1 a4 a5 I).bind (fun x3 => if a3 = 0 then none else ((f_X4_get a1 (a4 - 1) (((a5 + a3) - 1) - ((a5 + a3) - 1) / a3 * a3) I).bind (fun x5 => if x3 = x5 then (f_X4_isRound_21 I k12 f a1 1 a3 a4 (a5 + 1)) else (f_X4_isRound_21 I k12 f a1 0 a3 a4 (a5 + 1)))))))
def f_X4_isRound_12 (I : zMi) : Nat → Int32 → Int32 → Int32 → Int32 → Option Int32
  | 0, _, _, _, _ => none
  | f + 1, a1, a2, a3, a4 => if a3 ≤ a4 then (some a2) else (f_X4_isRound_21 I (f_X4_isRound_12 I f) fu a1 a2 a3 a4 0)
def f_X4_isRound (a1 : Int32) (I : zMi) : Option Int32 :=
  if ix a1 10 then (f_X4_isRound_12 I fu a1 1 (I (5) a1.toNatClampNeg) 1) else none
def rmX4_isRound : Room := { frames := 1, cells := 0, slots := 0, locals := 23 }
def f_X4_isGraph_17 (I : zMi) (k4 : Int32 → Int32 → Int32 → Option Int32) : Nat → Int32 → Int32 → Int32 → Int32 → Option Int32
  | 0, _, _, _, _ => none
  | f + 1, a1, a2, a3, a4 => if ix a1 10 then (if (I (5) a1.toNatClampNeg) ≤ a4 then (k4 a1 a2 (a3 + 1)) else (if a2 = 0 then (f_X4_isGraph_17 I k4 f a1 0 a3 (a4 + 1)) else (if a3 = a4 then ((f_X4_get a1 a3 a4 I).bind (fun x10 => if x10 = 0 then (f_X4_isGraph_17 I k4 f a1 1 a3 (a4 + 1)) else (f_X4_isGraph_17 I k4 f a1 0 a3 (a4 + 1)))) else ((f_X4_get a1 a3 a4 I).bind (fun x5 => if x5 = 0 then (f_X4_isGraph_17 I k4 f a1 0 a3 (a4 + 1)) else ((f_X4_get a1 a3 a4 I).bind (fun x7 => (f_X4_get a1 a4 a3 I).bind (fun x8 => if x7 = x8 then (f_X4_isGraph_17 I k4 f a1 1 a3 (a4 + 1)) else (f_X4_isGraph_17 I k4 f a1 0 a3 (a4 + 1)))))))))) else none
def f_X4_isGraph_4 (I : zMi) : Nat → Int32 → Int32 → Int32 → Option Int32
  | 0, _, _, _ => none
  | f + 1, a1, a2, a3 => if ix a1 10 then (if (I (5) a1.toNatClampNeg) ≤ a3 then (some a2) else (f_X4_isGraph_17 I (f_X4_isGraph_4 I f) fu a1 a2 a3 0)) else none
def f_X4_isGraph (a1 : Int32) (I : zMi) : Option Int32 :=
  f_X4_isGraph_4 I fu a1 1 0
def rmX4_isGraph : Room := { frames := 1, cells := 0, slots := 0, locals := 23 }
def f_X4_neighbours_5 (I : zMi) : Nat → Int32 → Int32 → Int32 → Int32 → Option Int32
  | 0, _, _, _, _ => none
  | f + 1, a1, a2, a3, a4 => if ix a1 10 then (if (I (5) a1.toNatClampNeg) ≤ a4 then (some a3) else ((f_X4_get a1 a2 a4 I).bind (fun x3 => if x3 = (-1) then (f_X4_neighbours_5 I f a1 a2 (a3 + 1) (a4 + 1)) else (f_X4_neighbours_5 I f a1 a2 (a3 + 0) (a4 + 1))))) else none
def f_X4_neighbours (a1 : Int32) (a2 : Int32) (I : zMi) : Option Int32 :=
  f_X4_neighbours_5 I fu a1 a2 0 0
def rmX4_neighbours : Room := { frames := 1, cells := 0, slots := 0, locals := 23 }
def f_X4_inCommon_6 (I : zMi) : Nat → Int32 → Int32 → Int32 → Int32 → Int32 → Option Int32
  | 0, _, _, _, _, _ => none
  | f + 1, a1, a2, a3, a4, a5 => if ix a1 10 then (if (I (5) a1.toNatClampNeg) ≤ a5 then (some a4) else ((f_X4_get a1 a2 a5 I).bind (fun x3 => if x3 = (-1) then ((f_X4_get a1 a3 a5 I).bind (fun x5 => if x5 = (-1) then (f_X4_inCommon_6 I f a1 a2 a3 (a4 + 1) (a5 + 1)) else (f_X4_inCommon_6 I f a1 a2 a3 (a4 + 0) (a5 + 1)))) else (f_X4_inCommon_6 I f a1 a2 a3 (a4 + 0) (a5 + 1))))) else none
def f_X4_inCommon (a1 : Int32) (a2 : Int32) (a3 : Int32) (I : zMi) : Option Int32 :=
  f_X4_inCommon_6 I fu a1 a2 a3 0 0
def rmX4_inCommon : Room := { frames := 1, cells := 0, slots := 0, locals := 23 }
def f_X4_commonOf_20 (I : zMi) (k6 : Int32 → Int32 → Int32 → Int32 → Option Int32) : Nat → Int32 → Int32 → Int32 → Int32 → Int32 → Option Int32
  | 0, _, _, _, _, _ => none
  | f + 1, a1, a2, a3, a4, a5 => if a4 ≤ a5 then (k6 a1 a2 a3 (a4 + 1)) else ((f_X4_get a1 a4 a5 I).bind (fun x2 => if x2 = a2 then ((f_X4_inCommon a1 a4 a5 I).bind (fun x4 => if a3 = (-9) then (f_X4_commonOf_20 I k6 f a1 a2 x4 a4 (a5 + 1)) else (if a3 = x4 then (f_X4_commonOf_20 I k6 f a1 a2 x4 a4 (a5 + 1)) else (f_X4_commonOf_20 I k6 f a1 a2 (-1) a4 (a5 + 1))))) else (f_X4_commonOf_20 I k6 f a1 a2 a3 a4 (a5 + 1))))
def f_X4_commonOf_6 (I : zMi) : Nat → Int32 → Int32 → Int32 → Int32 → Option Int32
  | 0, _, _, _, _ => none
  | f + 1, a1, a2, a3, a4 => if ix a1 10 then (if (I (5) a1.toNatClampNeg) ≤ a4 then (some a3) else (f_X4_commonOf_20 I (f_X4_commonOf_6 I f) fu a1 a2 a3 a4 0)) else none
def f_X4_commonOf (a1 : Int32) (a2 : Int32) (I : zMi) : Option Int32 :=
  f_X4_commonOf_6 I fu a1 a2 (-9) 0
def rmX4_commonOf : Room := { frames := 2, cells := 0, slots := 0, locals := 48 }
def f_X4_isEven_28 (I : zMi) : Nat → Int32 → Int32 → Int32 → Option Int32
  | 0, _, _, _ => none
  | f + 1, a1, a2, a3 => if ix a1 10 then (if (I (5) a1.toNatClampNeg) ≤ a3 then (some a2) else (if a2 = 0 then (f_X4_isEven_28 I f a1 0 (a3 + 1)) else ((f_X4_neighbours a1 a3 I).bind (fun x4 => (f_X4_neighbours a1 0 I).bind (fun x5 => if x4 = x5 then (f_X4_isEven_28 I f a1 1 (a3 + 1)) else (f_X4_isEven_28 I f a1 0 (a3 + 1))))))) else none
def f_X4_isEven (a1 : Int32) (I : zMi) : Option Int32 :=
  (f_X4_commonOf a1 (-1) I).bind (fun x1 => if x1 = (-1) then (f_X4_isEven_28 I fu a1 0 1) else ((f_X4_commonOf a1 1 I).bind (fun x3 => if x3 = (-1) then (f_X4_isEven_28 I fu a1 0 1) else (f_X4_isEven_28 I fu a1 1 1))))
def rmX4_isEven : Room := { frames := 3, cells := 0, slots := 0, locals := 74 }
def f_X4_setKind_52 (a1 : Int32) (I : zMi) : Option (Int32 × zMi) :=
  (f_X4_isGraph a1 I).bind (fun x1 => if x1 = 0 then (if ix a1 10 then (some (((wI I (7) a1.toNatClampNeg 0) (7) a1.toNatClampNeg), (wI I (7) a1.toNatClampNeg 0))) else none) else ((f_X4_isEven a1 I).bind (fun x4 => if x4 = 0 then (if ix a1 10 then (some (((wI I (7) a1.toNatClampNeg 3) (7) a1.toNatClampNeg), (wI I (7) a1.toNatClampNeg 3))) else none) else (if ix a1 10 then (some (((wI I (7) a1.toNatClampNeg 4) (7) a1.toNatClampNeg), (wI I (7) a1.toNatClampNeg 4))) else none))))
def f_X4_setKind (a1 : Int32) (I : zMi) : Option (Int32 × zMi) :=
  if ix a1 10 then ((f_X4_hasZero a1 I).bind (fun x2 => if x2 = 0 then ((f_X4_pairsThatBalance a1 I).bind (fun x4 => if (2 * x4) = ((I (5) a1.toNatClampNeg) * ((I (5) a1.toNatClampNeg) - 1)) then ((f_X4_isRound a1 I).bind (fun x6 => if x6 = 0 then (some (((wI I (7) a1.toNatClampNeg 1) (7) a1.toNatClampNeg), (wI I (7) a1.toNatClampNeg 1))) else (some (((wI I (7) a1.toNatClampNeg 2) (7) a1.toNatClampNeg), (wI I (7) a1.toNatClampNeg 2))))) else (f_X4_setKind_52 a1 I))) else (f_X4_setKind_52 a1 I))) else none
def rmX4_setKind : Room := { frames := 4, cells := 0, slots := 0, locals := 97 }
def f_X4_is (a1 : Int32) (a2 : Int32) (I : zMi) : Option Int32 :=
  if ix a1 10 then (if (I (7) a1.toNatClampNeg) = a2 then (some 1) else (if a2 = 1 then (if (I (7) a1.toNatClampNeg) = 2 then (some 1) else (if a2 = 3 then (if (I (7) a1.toNatClampNeg) = 4 then (some 1) else (some 0)) else (some 0))) else (if a2 = 3 then (if (I (7) a1.toNatClampNeg) = 4 then (some 1) else (some 0)) else (some 0)))) else none
def rmX4_is : Room := { frames := 0, cells := 0, slots := 0, locals := 0 }
def f_X4_table_36 (k28 : Int32 → Int32 → Int32 → zMi → Option (Int32 × zMi)) : Nat → Int32 → Int32 → Int32 → Int32 → zMi → Option (Int32 × zMi)
  | 0, _, _, _, _, _ => none
  | f + 1, a1, a2, a3, a4, I => if a2 ≤ a4 then (k28 a1 a2 (a3 + 1) I) else ((f_X4_let a1 a3 a4 1 I).bind (fun x2 => f_X4_table_36 k28 f a1 a2 a3 (a4 + 1) x2))
def f_X4_table_28 : Nat → Int32 → Int32 → Int32 → zMi → Option (Int32 × zMi)
  | 0, _, _, _, _ => none
  | f + 1, a1, a2, a3, I => if a2 ≤ a3 then ((f_X4_setKind a1 I).bind (fun x2 => some (x2.1, x2.2))) else (f_X4_table_36 (f_X4_table_28 f) fu a1 a2 a3 0 I)
def f_X4_table (a1 : Int32) (a2 : Int32) (I : zMi) : Option (Int32 × zMi) :=
  if (f_X4_isTable a1) = 0 then (some ((-1), I)) else (if (f_X4_in a2 1 12) = 0 then (some ((-1), I)) else (if ix a1 10 then (f_X4_table_28 fu a1 a2 0 (wI I (5) a1.toNatClampNeg a2)) else none))
def rmX4_table : Room := { frames := 5, cells := 0, slots := 0, locals := 119 }
def f_X4_isNumber (a0 : Int32) : Int32 :=
  (f_X4_in a0 (-1) 1)
def rmX4_isNumber : Room := { frames := 1, cells := 0, slots := 0, locals := 22 }
def f_X4_put_150 : Nat → Int32 → Int32 → Int32 → Int32 → zMi → Option (Int32 × zMi)
  | 0, _, _, _, _, _ => none
  | f + 1, a1, a2, a3, a5, I => if ix a1 10 then (if (I (5) a1.toNatClampNeg) ≤ a5 then ((f_X4_setKind a1 I).bind (fun x3 => some (x3.1, x3.2))) else (if ix ((24 * a3) + a5) 144 then ((f_X4_let a1 a2 a5 (I (3) ((24 * a3) + a5).toNatClampNeg) I).bind (fun x5 => f_X4_put_150 f a1 a2 a3 (a5 + 1) x5)) else none)) else none
def f_X4_put_89 : Nat → Int32 → Int32 → Int32 → Int32 → Int32 → zMi → Option (Int32 × zMi)
  | 0, _, _, _, _, _, _ => none
  | f + 1, a1, a2, a3, a4, a5, I => if ix a1 10 then (if (I (5) a1.toNatClampNeg) ≤ a5 then (if a4 = 0 then ((f_X4_meets 3 I).bind (fun x4 => some (x4.1, x4.2))) else (f_X4_put_150 fu a1 a2 a3 0 I)) else (if a4 = 0 then (f_X4_put_89 f a1 a2 a3 0 (a5 + 1) I) else (if ix ((24 * a3) + a5) 144 then (if (f_X4_isNumber (I (3) ((24 * a3) + a5).toNatClampNeg)) = 0 then (f_X4_put_89 f a1 a2 a3 0 (a5 + 1) I) else (f_X4_put_89 f a1 a2 a3 1 (a5 + 1) I)) else none))) else none
def f_X4_put (a1 : Int32) (a2 : Int32) (a3 : Int32) (I : zMi) : Option (Int32 × zMi) :=
  if (f_X4_isTable a1) = 0 then (some ((-1), I)) else (if (f_X4_isRow a3) = 0 then (some ((-1), I)) else (if ix a1 10 then (if (I (5) a1.toNatClampNeg) = 0 then ((f_X4_meets 1 I).bind (fun x5 => some (x5.1, x5.2))) else (if ix a3 6 then (if 0 ≤ (I (2) a3.toNatClampNeg) then (if (f_X4_in a2 0 ((I (5) a1.toNatClampNeg) - 1)) = 0 then ((f_X4_meets 2 I).bind (fun x11 => some (x11.1, x11.2))) else (if (I (2) a3.toNatClampNeg) = (I (5) a1.toNatClampNeg) then (f_X4_put_89 fu a1 a2 a3 1 0 I) else ((f_X4_meets 5 I).bind (fun x10 => some (x10.1, x10.2))))) else ((f_X4_meets 1 I).bind (fun x12 => some (x12.1, x12.2)))) else none)) else none))
def rmX4_put : Room := { frames := 5, cells := 0, slots := 0, locals := 119 }
def f_X4_isPlace (a1 : Int32) (a2 : Int32) (a3 : Int32) (I : zMi) : Option Int32 :=
  if ix a1 10 then (if (f_X4_in a2 0 ((I (5) a1.toNatClampNeg) - 1)) = 0 then (some 0) else (if (f_X4_in a3 0 ((I (5) a1.toNatClampNeg) - 1)) = 0 then (some 0) else (some 1))) else none
def rmX4_isPlace : Room := { frames := 1, cells := 0, slots := 0, locals := 22 }
def f_X4_set (a1 : Int32) (a2 : Int32) (a3 : Int32) (a4 : Int32) (a5 : Int32) (I : zMi) : Option (Int32 × zMi) :=
  if (f_X4_isNumber a4) = 0 then (some ((-1), I)) else ((f_X4_askedTable a1 I).bind (fun x2 => if 0 ≤ x2.1 then ((f_X4_isPlace a1 a2 a3 x2.2).bind (fun x4 => if x4 = 0 then ((f_X4_meets 2 x2.2).bind (fun x11 => some (x11.1, x11.2))) else ((f_X4_let a1 a2 a3 a4 x2.2).bind (fun x6 => if a5 = 0 then ((f_X4_setKind a1 x6).bind (fun x8 => some (x8.1, x8.2))) else ((f_X4_let a1 a3 a2 a4 x6).bind (fun x9 => (f_X4_setKind a1 x9).bind (fun x10 => some (x10.1, x10.2)))))))) else (some (x2.1, x2.2))))
def rmX4_set : Room := { frames := 5, cells := 0, slots := 0, locals := 119 }
def f_X4_drop (a1 : Int32) (I : zMi) : Option (Int32 × zMi) :=
  (f_X4_askedTable a1 I).bind (fun x1 => if 0 ≤ x1.1 then (if ix a1 10 then (some (1, (wI x1.2 (5) a1.toNatClampNeg 0))) else none) else (some (x1.1, x1.2)))
def rmX4_drop : Room := { frames := 3, cells := 0, slots := 0, locals := 63 }
def f_X4_at (a1 : Int32) (a2 : Int32) (a3 : Int32) (I : zMi) : Option (Int32 × zMi) :=
  (f_X4_askedTable a1 I).bind (fun x1 => if 0 ≤ x1.1 then ((f_X4_isPlace a1 a2 a3 x1.2).bind (fun x3 => if x3 = 0 then ((f_X4_meets 2 x1.2).bind (fun x5 => some (x5.1, x5.2))) else ((f_X4_get a1 a2 a3 x1.2).bind (fun x6 => some ((f_X4_ask x6 1 x1.2).1, (f_X4_ask x6 1 x1.2).2))))) else (some (x1.1, x1.2)))
def rmX4_at : Room := { frames := 3, cells := 0, slots := 0, locals := 63 }
def f_X4_countOf_19 (I : zMi) (k5 : Int32 → Int32 → Int32 → Int32 → Option Int32) : Nat → Int32 → Int32 → Int32 → Int32 → Int32 → Option Int32
  | 0, _, _, _, _, _ => none
  | f + 1, a1, a2, a3, a4, a5 => if ix a1 10 then (if (I (5) a1.toNatClampNeg) ≤ a5 then (k5 a1 a2 a3 (a4 + 1)) else ((f_X4_get a1 a4 a5 I).bind (fun x3 => if x3 = a2 then (f_X4_countOf_19 I k5 f a1 a2 (a3 + 1) a4 (a5 + 1)) else (f_X4_countOf_19 I k5 f a1 a2 (a3 + 0) a4 (a5 + 1))))) else none
def f_X4_countOf_5 (I : zMi) : Nat → Int32 → Int32 → Int32 → Int32 → Option Int32
  | 0, _, _, _, _ => none
  | f + 1, a1, a2, a3, a4 => if ix a1 10 then (if (I (5) a1.toNatClampNeg) ≤ a4 then (some a3) else (f_X4_countOf_19 I (f_X4_countOf_5 I f) fu a1 a2 a3 a4 0)) else none
def f_X4_countOf (a1 : Int32) (a2 : Int32) (I : zMi) : Option Int32 :=
  f_X4_countOf_5 I fu a1 a2 0 0
def rmX4_countOf : Room := { frames := 1, cells := 0, slots := 0, locals := 23 }
def f_X4_isNormal_16 (I : zMi) : Nat → Int32 → Int32 → Int32 → Option Int32
  | 0, _, _, _ => none
  | f + 1, a1, a2, a3 => if ix a1 10 then (if (I (5) a1.toNatClampNeg) ≤ a3 then (some a2) else (if a2 = 0 then (f_X4_isNormal_16 I f a1 0 (a3 + 1)) else ((f_X4_get a1 a3 0 I).bind (fun x4 => if x4 = 1 then ((f_X4_get a1 0 a3 I).bind (fun x6 => if x6 = 1 then (f_X4_isNormal_16 I f a1 1 (a3 + 1)) else (f_X4_isNormal_16 I f a1 0 (a3 + 1)))) else (f_X4_isNormal_16 I f a1 0 (a3 + 1)))))) else none
def f_X4_isNormal (a1 : Int32) (I : zMi) : Option Int32 :=
  (f_X4_hasZero a1 I).bind (fun x1 => if x1 = 0 then (f_X4_isNormal_16 I fu a1 1 0) else (f_X4_isNormal_16 I fu a1 0 0))
def rmX4_isNormal : Room := { frames := 2, cells := 0, slots := 0, locals := 47 }
def f_X4_told (a1 : Int32) (a2 : Int32) (I : zMi) : Option (Int32 × zMi) :=
  if (f_X4_in a2 0 4) = 0 then (some ((-1), I)) else ((f_X4_askedTable a1 I).bind (fun x2 => if 0 ≤ x2.1 then (if a2 = 0 then (if ix a1 10 then (some ((f_X4_ask (x2.2 (7) a1.toNatClampNeg) 1 x2.2).1, (f_X4_ask (x2.2 (7) a1.toNatClampNeg) 1 x2.2).2)) else none) else (if a2 = 1 then (if ix a1 10 then (some ((f_X4_ask (x2.2 (5) a1.toNatClampNeg) 1 x2.2).1, (f_X4_ask (x2.2 (5) a1.toNatClampNeg) 1 x2.2).2)) else none) else (if a2 = 2 then ((f_X4_countOf a1 1 x2.2).bind (fun x9 => some ((f_X4_ask x9 1 x2.2).1, (f_X4_ask x9 1 x2.2).2))) else (if a2 = 3 then ((f_X4_countOf a1 (-1) x2.2).bind (fun x11 => some ((f_X4_ask x11 1 x2.2).1, (f_X4_ask x11 1 x2.2).2))) else ((f_X4_isNormal a1 x2.2).bind (fun x12 => if x12 = 0 then (some ((f_X4_ask 0 1 x2.2).1, (f_X4_ask 0 1 x2.2).2)) else (some ((f_X4_ask 1 1 x2.2).1, (f_X4_ask 1 1 x2.2).2)))))))) else (some (x2.1, x2.2))))
def rmX4_told : Room := { frames := 3, cells := 0, slots := 0, locals := 70 }
def f_X4_rowSum_5 (I : zMi) : Nat → Int32 → Int32 → Int32 → Int32 → Option Int32
  | 0, _, _, _, _ => none
  | f + 1, a1, a2, a3, a4 => if ix a1 10 then (if (I (5) a1.toNatClampNeg) ≤ a4 then (some a3) else ((f_X4_get a1 a2 a4 I).bind (fun x3 => f_X4_rowSum_5 I f a1 a2 (a3 + x3) (a4 + 1)))) else none
def f_X4_rowSum (a1 : Int32) (a2 : Int32) (I : zMi) : Option Int32 :=
  f_X4_rowSum_5 I fu a1 a2 0 0
def rmX4_rowSum : Room := { frames := 1, cells := 0, slots := 0, locals := 23 }
def f_X4_mark (a1 : Int32) (a2 : Int32) (I : zMi) : Option (Int32 × zMi) :=
  if (f_X4_in a2 1 4) = 0 then (some ((-1), I)) else ((f_X4_askedTable a1 I).bind (fun x2 => if 0 ≤ x2.1 then ((f_X4_is a1 a2 x2.2).bind (fun x4 => if x4 = 0 then ((f_X4_meets 3 x2.2).bind (fun x13 => some (x13.1, x13.2))) else (if a2 = 1 then (if ix a1 10 then (some (((x2.2 (5) a1.toNatClampNeg) / 2), x2.2)) else none) else (if a2 = 2 then ((f_X4_rowSum a1 0 x2.2).bind (fun x11 => some (x11, x2.2))) else (if a2 = 3 then ((f_X4_countOf a1 (-1) x2.2).bind (fun x10 => some ((x10 / 2), x2.2))) else ((f_X4_neighbours a1 0 x2.2).bind (fun x9 => some (x9, x2.2)))))))) else (some (x2.1, x2.2))))
def rmX4_mark : Room := { frames := 3, cells := 0, slots := 0, locals := 63 }
def f_X4_take_17 (k9 : Int32 → Int32 → Int32 → zMi → Option (Int32 × zMi)) : Nat → Int32 → Int32 → Int32 → Int32 → zMi → Option (Int32 × zMi)
  | 0, _, _, _, _, _ => none
  | f + 1, a1, a2, a3, a4, I => if a2 ≤ a4 then (k9 a1 a2 (a3 + 1) I) else (if ix ((12 * a3) + a4) 144 then ((f_X4_let a1 a3 a4 (I (8) ((12 * a3) + a4).toNatClampNeg) I).bind (fun x3 => f_X4_take_17 k9 f a1 a2 a3 (a4 + 1) x3)) else none)
def f_X4_take_9 : Nat → Int32 → Int32 → Int32 → zMi → Option (Int32 × zMi)
  | 0, _, _, _, _ => none
  | f + 1, a1, a2, a3, I => if a2 ≤ a3 then ((f_X4_setKind a1 I).bind (fun x2 => some (x2.1, x2.2))) else (f_X4_take_17 (f_X4_take_9 f) fu a1 a2 a3 0 I)
def f_X4_take (a1 : Int32) (a2 : Int32) (I : zMi) : Option (Int32 × zMi) :=
  if ix a1 10 then (f_X4_take_9 fu a1 a2 0 (wI I (5) a1.toNatClampNeg a2)) else none
def rmX4_take : Room := { frames := 5, cells := 0, slots := 0, locals := 119 }
def f_X4_times_92 (k82 : Int32 → Int32 → Int32 → Int32 → Int32 → Int32 → zMi → Option (Int32 × zMi)) : Nat → Int32 → Int32 → Int32 → Int32 → Int32 → Int32 → Int32 → zMi → Option (Int32 × zMi)
  | 0, _, _, _, _, _, _, _, _ => none
  | f + 1, a1, a2, a3, a4, a5, a6, a7, I => if a5 ≤ a7 then (k82 a1 a2 a3 a4 a5 (a6 + 1) I) else (if a4 = 0 then none else ((f_X4_get a1 (a6 / a4) (a7 / a4) I).bind (fun x3 => (f_X4_get a2 (a6 - a6 / a4 * a4) (a7 - a7 / a4 * a4) I).bind (fun x4 => if ix ((12 * a6) + a7) 144 then (f_X4_times_92 k82 f a1 a2 a3 a4 a5 a6 (a7 + 1) (wI I (8) ((12 * a6) + a7).toNatClampNeg (x3 * x4))) else none))))
def f_X4_times_82 : Nat → Int32 → Int32 → Int32 → Int32 → Int32 → Int32 → zMi → Option (Int32 × zMi)
  | 0, _, _, _, _, _, _, _ => none
  | f + 1, a1, a2, a3, a4, a5, a6, I => if a5 ≤ a6 then ((f_X4_take a3 a5 I).bind (fun x2 => some (x2.1, x2.2))) else (f_X4_times_92 (f_X4_times_82 f) fu a1 a2 a3 a4 a5 a6 0 I)
def f_X4_times (a1 : Int32) (a2 : Int32) (a3 : Int32) (I : zMi) : Option (Int32 × zMi) :=
  if (f_X4_isTable a1) = 0 then (some ((-1), I)) else (if (f_X4_isTable a2) = 0 then (some ((-1), I)) else (if (f_X4_isTable a3) = 0 then (some ((-1), I)) else (if ix a1 10 then (if (I (5) a1.toNatClampNeg) = 0 then ((f_X4_meets 1 I).bind (fun x6 => some (x6.1, x6.2))) else (if ix a2 10 then (if (I (5) a2.toNatClampNeg) = 0 then ((f_X4_meets 1 I).bind (fun x11 => some (x11.1, x11.2))) else (if ((I (5) a1.toNatClampNeg) * (I (5) a2.toNatClampNeg)) ≤ 12 then (f_X4_times_82 fu a1 a2 a3 (I (5) a2.toNatClampNeg) ((I (5) a1.toNatClampNeg) * (I (5) a2.toNatClampNeg)) 0 I) else ((f_X4_meets 5 I).bind (fun x10 => some (x10.1, x10.2))))) else none)) else none)))
def rmX4_times : Room := { frames := 6, cells := 0, slots := 0, locals := 143 }
def f_X4_residue_21 : Nat → Int32 → Int32 → Int32 → Int32 → Option Int32
  | 0, _, _, _, _ => none
  | f + 1, a1, a2, a3, a4 => if a1 ≤ a4 then (some a3) else (if a2 = 0 then (f_X4_residue_21 f a1 a2 a3 (a4 + 1)) else (if a1 = 0 then none else (if ((a4 * a4) - (a4 * a4) / a1 * a1) = a2 then (f_X4_residue_21 f a1 a2 1 (a4 + 1)) else (f_X4_residue_21 f a1 a2 a3 (a4 + 1)))))
def f_X4_residue (a0 : Int32) (a1 : Int32) : Option Int32 :=
  if a1 = 0 then none else (if (((a0 - a0 / a1 * a1) + a1) - ((a0 - a0 / a1 * a1) + a1) / a1 * a1) = 0 then (f_X4_residue_21 fu a1 (((a0 - a0 / a1 * a1) + a1) - ((a0 - a0 / a1 * a1) + a1) / a1 * a1) 0 1) else (f_X4_residue_21 fu a1 (((a0 - a0 / a1 * a1) + a1) - ((a0 - a0 / a1 * a1) + a1) / a1 * a1) (-1) 1))
def rmX4_residue : Room := { frames := 0, cells := 0, slots := 0, locals := 0 }
def f_X4_residues_41 (k33 : Int32 → Int32 → Int32 → zMi → Option (Int32 × zMi)) : Nat → Int32 → Int32 → Int32 → Int32 → zMi → Option (Int32 × zMi)
  | 0, _, _, _, _, _ => none
  | f + 1, a1, a2, a3, a4, I => if a2 ≤ a4 then (k33 a1 a2 (a3 + 1) I) else ((f_X4_residue (a4 - a3) a2).bind (fun x2 => if ix ((12 * a3) + a4) 144 then (f_X4_residues_41 k33 f a1 a2 a3 (a4 + 1) (wI I (8) ((12 * a3) + a4).toNatClampNeg x2)) else none))
def f_X4_residues_33 : Nat → Int32 → Int32 → Int32 → zMi → Option (Int32 × zMi)
  | 0, _, _, _, _ => none
  | f + 1, a1, a2, a3, I => if a2 ≤ a3 then ((f_X4_take a1 a2 I).bind (fun x2 => some (x2.1, x2.2))) else (f_X4_residues_41 (f_X4_residues_33 f) fu a1 a2 a3 0 I)
def f_X4_residues (a1 : Int32) (a2 : Int32) (I : zMi) : Option (Int32 × zMi) :=
  if (f_X4_isTable a1) = 0 then (some ((-1), I)) else (if a2 = 3 then (f_X4_residues_33 fu a1 a2 0 I) else (if a2 = 5 then (f_X4_residues_33 fu a1 a2 0 I) else (if a2 = 7 then (f_X4_residues_33 fu a1 a2 0 I) else (if a2 = 11 then (f_X4_residues_33 fu a1 a2 0 I) else (some ((-1), I))))))
def rmX4_residues : Room := { frames := 6, cells := 0, slots := 0, locals := 143 }
def f_X4_bordered_36 (k28 : Int32 → Int32 → Int32 → zMi → Option (Int32 × zMi)) : Nat → Int32 → Int32 → Int32 → Int32 → zMi → Option (Int32 × zMi)
  | 0, _, _, _, _, _ => none
  | f + 1, a1, a2, a3, a4, I => if a2 < a4 then (k28 a1 a2 (a3 + 1) I) else (if a3 = 0 then (if ix ((12 * a3) + a4) 144 then (f_X4_bordered_36 k28 f a1 a2 a3 (a4 + 1) (wI I (8) ((12 * a3) + a4).toNatClampNeg 1)) else none) else (if a4 = 0 then (if ix ((12 * a3) + a4) 144 then (f_X4_bordered_36 k28 f a1 a2 a3 (a4 + 1) (wI I (8) ((12 * a3) + a4).toNatClampNeg (-1))) else none) else (if a3 = a4 then (if ix ((12 * a3) + a4) 144 then (f_X4_bordered_36 k28 f a1 a2 a3 (a4 + 1) (wI I (8) ((12 * a3) + a4).toNatClampNeg 1)) else none) else ((f_X4_residue (a4 - a3) a2).bind (fun x5 => if ix ((12 * a3) + a4) 144 then (f_X4_bordered_36 k28 f a1 a2 a3 (a4 + 1) (wI I (8) ((12 * a3) + a4).toNatClampNeg x5)) else none)))))
def f_X4_bordered_28 : Nat → Int32 → Int32 → Int32 → zMi → Option (Int32 × zMi)
  | 0, _, _, _, _ => none
  | f + 1, a1, a2, a3, I => if a2 < a3 then ((f_X4_take a1 (a2 + 1) I).bind (fun x2 => some (x2.1, x2.2))) else (f_X4_bordered_36 (f_X4_bordered_28 f) fu a1 a2 a3 0 I)
def f_X4_bordered (a1 : Int32) (a2 : Int32) (I : zMi) : Option (Int32 × zMi) :=
  if (f_X4_isTable a1) = 0 then (some ((-1), I)) else (if a2 = 3 then (f_X4_bordered_28 fu a1 a2 0 I) else (if a2 = 7 then (f_X4_bordered_28 fu a1 a2 0 I) else (if a2 = 11 then (f_X4_bordered_28 fu a1 a2 0 I) else (some ((-1), I)))))
def rmX4_bordered : Room := { frames := 6, cells := 0, slots := 0, locals := 143 }
def f_X4_roundEcho_13 (I : zMi) : Nat → Int32 → Int32 → Int32 → Int32 → Int32 → Option Int32
  | 0, _, _, _, _, _ => none
  | f + 1, a1, a2, a3, a4, a5 => if a3 ≤ a5 then (some a4) else (if ix ((24 * a1) + a5) 144 then (if a3 = 0 then none else (if ix ((24 * a1) + ((a5 + a2) - (a5 + a2) / a3 * a3)) 144 then (f_X4_roundEcho_13 I f a1 a2 a3 (a4 + ((I (3) ((24 * a1) + a5).toNatClampNeg) * (I (3) ((24 * a1) + ((a5 + a2) - (a5 + a2) / a3 * a3)).toNatClampNeg))) (a5 + 1)) else none)) else none)
def f_X4_roundEcho (a1 : Int32) (a2 : Int32) (I : zMi) : Option Int32 :=
  if ix a1 6 then (f_X4_roundEcho_13 I fu a1 a2 (I (2) a1.toNatClampNeg) 0 0) else none
def rmX4_roundEcho : Room := { frames := 0, cells := 0, slots := 0, locals := 0 }
def f_X4_partAt (a0 : Int32) (a1 : Int32) : Int32 :=
  if ((4 * a0) + a1) = 0 then 1 else (if ((4 * a0) + a1) = 1 then 2 else (if ((4 * a0) + a1) = 2 then 3 else (if ((4 * a0) + a1) = 3 then 4 else (if ((4 * a0) + a1) = 4 then (-2) else (if ((4 * a0) + a1) = 5 then 1 else (if ((4 * a0) + a1) = 6 then (-4) else (if ((4 * a0) + a1) = 7 then 3 else (if ((4 * a0) + a1) = 8 then (-3) else (if ((4 * a0) + a1) = 9 then 4 else (if ((4 * a0) + a1) = 10 then 1 else (if ((4 * a0) + a1) = 11 then (-2) else (if ((4 * a0) + a1) = 12 then (-4) else (if ((4 * a0) + a1) = 13 then (-3) else (if ((4 * a0) + a1) = 14 then 2 else 1))))))))))))))
def rmX4_partAt : Room := { frames := 0, cells := 0, slots := 0, locals := 0 }
def f_X4_four_423 (k377 : Int32 → Int32 → Int32 → zMi → Option (Int32 × zMi)) (k389 : Int32 → Int32 → Int32 → Int32 → zMi → Option (Int32 × zMi)) (a1 : Int32) (a9 : Int32) (a10 : Int32) (a11 : Int32) (a12 : Int32) (s0 : Int32) (I : zMi) : Option (Int32 × zMi) :=
  if ix ((f_X4_abs a12) - 1) 4 then (if a9 = 0 then none else (if ix ((24 * (I (9) ((f_X4_abs a12) - 1).toNatClampNeg)) + ((((a11 - a11 / a9 * a9) - (a10 - a10 / a9 * a9)) + a9) - (((a11 - a11 / a9 * a9) - (a10 - a10 / a9 * a9)) + a9) / a9 * a9)) 144 then (if ix ((12 * a10) + a11) 144 then (k389 a1 a9 a10 (a11 + 1) (wI I (8) ((12 * a10) + a11).toNatClampNeg (s0 * (I (3) ((24 * (I (9) ((f_X4_abs a12) - 1).toNatClampNeg)) + ((((a11 - a11 / a9 * a9) - (a10 - a10 / a9 * a9)) + a9) - (((a11 - a11 / a9 * a9) - (a10 - a10 / a9 * a9)) + a9) / a9 * a9)).toNatClampNeg)))) else none) else none)) else none
def f_X4_four_389 (k377 : Int32 → Int32 → Int32 → zMi → Option (Int32 × zMi)) : Nat → Int32 → Int32 → Int32 → Int32 → zMi → Option (Int32 × zMi)
  | 0, _, _, _, _, _ => none
  | f + 1, a1, a9, a10, a11, I => if (4 * a9) ≤ a11 then (k377 a1 a9 (a10 + 1) I) else (if a9 = 0 then none else (if 0 ≤ (f_X4_partAt (a10 / a9) (a11 / a9)) then (f_X4_four_423 k377 (f_X4_four_389 k377 f) a1 a9 a10 a11 (f_X4_partAt (a10 / a9) (a11 / a9)) 1 I) else (f_X4_four_423 k377 (f_X4_four_389 k377 f) a1 a9 a10 a11 (f_X4_partAt (a10 / a9) (a11 / a9)) (-1) I)))
def f_X4_four_377 : Nat → Int32 → Int32 → Int32 → zMi → Option (Int32 × zMi)
  | 0, _, _, _, _ => none
  | f + 1, a1, a9, a10, I => if (4 * a9) ≤ a10 then ((f_X4_take a1 (4 * a9) I).bind (fun x2 => some (x2.1, x2.2))) else (f_X4_four_389 (f_X4_four_377 f) fu a1 a9 a10 0 I)
def f_X4_four_322 : Nat → Int32 → Int32 → Int32 → Int32 → Int32 → Int32 → Int32 → zMi → Option (Int32 × zMi)
  | 0, _, _, _, _, _, _, _, _ => none
  | f + 1, a1, a2, a3, a4, a5, a9, a10, I => if a9 ≤ a10 then (f_X4_four_377 fu a1 a9 0 I) else ((f_X4_roundEcho a2 a10 I).bind (fun x2 => (f_X4_roundEcho a3 a10 I).bind (fun x3 => (f_X4_roundEcho a4 a10 I).bind (fun x4 => (f_X4_roundEcho a5 a10 I).bind (fun x5 => if (((x2 + x3) + x4) + x5) = 0 then (f_X4_four_322 f a1 a2 a3 a4 a5 a9 (a10 + 1) I) else (some ((-4), I)))))))
def f_X4_four_235 (k200 : Int32 → Int32 → Int32 → Int32 → Int32 → Int32 → Int32 → Int32 → zMi → Option (Int32 × zMi)) : Nat → Int32 → Int32 → Int32 → Int32 → Int32 → Int32 → Int32 → Int32 → Int32 → zMi → Option (Int32 × zMi)
  | 0, _, _, _, _, _, _, _, _, _, _ => none
  | f + 1, a1, a2, a3, a4, a5, a8, a9, a10, a11, I => if a9 ≤ a11 then (k200 a1 a2 a3 a4 a5 a8 a9 (a10 + 1) I) else (if a8 = 0 then (f_X4_four_235 k200 f a1 a2 a3 a4 a5 0 a9 a10 (a11 + 1) I) else (if ix a10 4 then (if ix ((24 * (I (9) a10.toNatClampNeg)) + a11) 144 then (if ix (((24 * (I (9) a10.toNatClampNeg)) + a9) - a11) 144 then (if (I (3) ((24 * (I (9) a10.toNatClampNeg)) + a11).toNatClampNeg) = (I (3) (((24 * (I (9) a10.toNatClampNeg)) + a9) - a11).toNatClampNeg) then (f_X4_four_235 k200 f a1 a2 a3 a4 a5 1 a9 a10 (a11 + 1) I) else (f_X4_four_235 k200 f a1 a2 a3 a4 a5 0 a9 a10 (a11 + 1) I)) else none) else none) else none))
def f_X4_four_200 : Nat → Int32 → Int32 → Int32 → Int32 → Int32 → Int32 → Int32 → Int32 → zMi → Option (Int32 × zMi)
  | 0, _, _, _, _, _, _, _, _, _ => none
  | f + 1, a1, a2, a3, a4, a5, a8, a9, a10, I => if 4 ≤ a10 then (if a8 = 0 then ((f_X4_meets 3 I).bind (fun x3 => some (x3.1, x3.2))) else (f_X4_four_322 fu a1 a2 a3 a4 a5 a9 1 I)) else (if a8 = 0 then (f_X4_four_235 (f_X4_four_200 f) fu a1 a2 a3 a4 a5 0 a9 a10 1 I) else (if ix a10 4 then ((f_X4_areSigns (I (9) a10.toNatClampNeg) I).bind (fun x6 => if x6 = 0 then (f_X4_four_235 (f_X4_four_200 f) fu a1 a2 a3 a4 a5 0 a9 a10 1 I) else (f_X4_four_235 (f_X4_four_200 f) fu a1 a2 a3 a4 a5 1 a9 a10 1 I))) else none))
def f_X4_four_112 (k81 : Int32 → Int32 → Int32 → Int32 → Int32 → Int32 → Int32 → Int32 → Int32 → zMi → Option (Int32 × zMi)) (a1 : Int32) (a2 : Int32) (a3 : Int32) (a4 : Int32) (a5 : Int32) (a7 : Int32) (a8 : Int32) (a9 : Int32) (s0 : Int32) (I : zMi) : Option (Int32 × zMi) :=
  if a7 = 0 then (k81 a1 a2 a3 a4 a5 s0 0 a8 (a9 + 1) I) else (if ix a9 4 then (if ix (I (9) a9.toNatClampNeg) 6 then (if ix a2 6 then (if (I (2) (I (9) a9.toNatClampNeg).toNatClampNeg) = (I (2) a2.toNatClampNeg) then (if (f_X4_in (I (2) a2.toNatClampNeg) 1 3) = 0 then (k81 a1 a2 a3 a4 a5 s0 0 a8 (a9 + 1) I) else (k81 a1 a2 a3 a4 a5 s0 1 a8 (a9 + 1) I)) else (k81 a1 a2 a3 a4 a5 s0 0 a8 (a9 + 1) I)) else none) else none) else none)
def f_X4_four_81 : Nat → Int32 → Int32 → Int32 → Int32 → Int32 → Int32 → Int32 → Int32 → Int32 → zMi → Option (Int32 × zMi)
  | 0, _, _, _, _, _, _, _, _, _, _ => none
  | f + 1, a1, a2, a3, a4, a5, a6, a7, a8, a9, I => if 4 ≤ a9 then (if a6 = 0 then ((f_X4_meets 1 I).bind (fun x6 => some (x6.1, x6.2))) else (if a7 = 0 then ((f_X4_meets 5 I).bind (fun x5 => some (x5.1, x5.2))) else (if ix a2 6 then (f_X4_four_200 fu a1 a2 a3 a4 a5 a8 (I (2) a2.toNatClampNeg) 0 I) else none))) else (if a6 = 0 then (f_X4_four_112 (f_X4_four_81 f) a1 a2 a3 a4 a5 a7 a8 a9 0 I) else (if ix a9 4 then (if ix (I (9) a9.toNatClampNeg) 6 then (if (I (2) (I (9) a9.toNatClampNeg).toNatClampNeg) < 0 then (f_X4_four_112 (f_X4_four_81 f) a1 a2 a3 a4 a5 a7 a8 a9 0 I) else (f_X4_four_112 (f_X4_four_81 f) a1 a2 a3 a4 a5 a7 a8 a9 1 I)) else none) else none))
def f_X4_four (a1 : Int32) (a2 : Int32) (a3 : Int32) (a4 : Int32) (a5 : Int32) (I : zMi) : Option (Int32 × zMi) :=
  if (f_X4_isTable a1) = 0 then (some ((-1), I)) else (if (f_X4_isRow a2) = 0 then (some ((-1), I)) else (if (f_X4_isRow a3) = 0 then (some ((-1), I)) else (if (f_X4_isRow a4) = 0 then (some ((-1), I)) else (if (f_X4_isRow a5) = 0 then (some ((-1), I)) else (f_X4_four_81 fu a1 a2 a3 a4 a5 1 1 1 0 (wI (wI (wI (wI I (9) (0 : Int32).toNatClampNeg a2) (9) (1 : Int32).toNatClampNeg a3) (9) (2 : Int32).toNatClampNeg a4) (9) (3 : Int32).toNatClampNeg a5))))))
def rmX4_four : Room := { frames := 6, cells := 0, slots := 0, locals := 143 }
def f_X4_turnRow_2 : Nat → Int32 → Int32 → Int32 → zMi → Option zMi
  | 0, _, _, _, _ => none
  | f + 1, a1, a2, a3, I => if ix a1 10 then (if (I (5) a1.toNatClampNeg) ≤ a3 then (some I) else ((f_X4_get a1 a2 a3 I).bind (fun x3 => (f_X4_let a1 a2 a3 (-x3) I).bind (fun x4 => f_X4_turnRow_2 f a1 a2 (a3 + 1) x4)))) else none
def f_X4_turnRow (a1 : Int32) (a2 : Int32) (I : zMi) : Option zMi :=
  f_X4_turnRow_2 fu a1 a2 0 I
def rmX4_turnRow : Room := { frames := 1, cells := 0, slots := 0, locals := 24 }
def f_X4_turnColumn_2 : Nat → Int32 → Int32 → Int32 → zMi → Option zMi
  | 0, _, _, _, _ => none
  | f + 1, a1, a2, a3, I => if ix a1 10 then (if (I (5) a1.toNatClampNeg) ≤ a3 then (some I) else ((f_X4_get a1 a3 a2 I).bind (fun x3 => (f_X4_let a1 a3 a2 (-x3) I).bind (fun x4 => f_X4_turnColumn_2 f a1 a2 (a3 + 1) x4)))) else none
def f_X4_turnColumn (a1 : Int32) (a2 : Int32) (I : zMi) : Option zMi :=
  f_X4_turnColumn_2 fu a1 a2 0 I
def rmX4_turnColumn : Room := { frames := 1, cells := 0, slots := 0, locals := 24 }
def f_X4_isSet (a1 : Int32) (a2 : Int32) (I : zMi) : Option Int32 :=
  if ix a1 10 then (some (f_X4_in a2 0 (((1 : Int32) <<< ((I (5) a1.toNatClampNeg) &&& 31)) - 1))) else none
def rmX4_isSet : Room := { frames := 1, cells := 0, slots := 0, locals := 22 }
def f_X4_turn_38 : Nat → Int32 → Int32 → Int32 → Int32 → zMi → Option (Int32 × zMi)
  | 0, _, _, _, _, _ => none
  | f + 1, a1, a2, a3, a5, I => if ix a1 10 then (if (I (5) a1.toNatClampNeg) ≤ a5 then ((f_X4_setKind a1 I).bind (fun x3 => some (x3.1, x3.2))) else (if ((a2 >>> (a5 &&& 31)) &&& 1) = 1 then ((f_X4_turnRow a1 a5 I).bind (fun x7 => if ((a3 >>> (a5 &&& 31)) &&& 1) = 1 then ((f_X4_turnColumn a1 a5 x7).bind (fun x9 => f_X4_turn_38 f a1 a2 a3 (a5 + 1) x9)) else (f_X4_turn_38 f a1 a2 a3 (a5 + 1) x7))) else (if ((a3 >>> (a5 &&& 31)) &&& 1) = 1 then ((f_X4_turnColumn a1 a5 I).bind (fun x6 => f_X4_turn_38 f a1 a2 a3 (a5 + 1) x6)) else (f_X4_turn_38 f a1 a2 a3 (a5 + 1) I)))) else none
def f_X4_turn (a1 : Int32) (a2 : Int32) (a3 : Int32) (I : zMi) : Option (Int32 × zMi) :=
  (f_X4_askedTable a1 I).bind (fun x1 => if 0 ≤ x1.1 then ((f_X4_isSet a1 a2 x1.2).bind (fun x3 => if x3 = 0 then (some ((-1), x1.2)) else ((f_X4_isSet a1 a3 x1.2).bind (fun x5 => if x5 = 0 then (some ((-1), x1.2)) else (f_X4_turn_38 fu a1 a2 a3 0 x1.2))))) else (some (x1.1, x1.2)))
def rmX4_turn : Room := { frames := 5, cells := 0, slots := 0, locals := 119 }
def f_X4_swap_120 (k35 : Int32 → Int32 → Int32 → Int32 → Int32 → zMi → Option (Int32 × zMi)) (a1 : Int32) (a2 : Int32) (a3 : Int32) (a4 : Int32) (a6 : Int32) (a7 : Int32) (a8 : Int32) (s0 : Int32) (s1 : Int32) (s2 : Int32) (I : zMi) : Option (Int32 × zMi) :=
  (f_X4_let s2 s1 s0 a8 I).bind (fun x1 => if a2 = 0 then (if a2 = 0 then ((f_X4_let a1 a4 a6 a7 x1).bind (fun x4 => k35 a1 a2 a3 a4 (a6 + 1) x4)) else ((f_X4_let a1 a4 a4 a7 x1).bind (fun x5 => k35 a1 a2 a3 a4 (a6 + 1) x5))) else (if a2 = 0 then ((f_X4_let a1 a6 a6 a7 x1).bind (fun x7 => k35 a1 a2 a3 a4 (a6 + 1) x7)) else ((f_X4_let a1 a6 a4 a7 x1).bind (fun x8 => k35 a1 a2 a3 a4 (a6 + 1) x8))))
def f_X4_swap_69 (k35 : Int32 → Int32 → Int32 → Int32 → Int32 → zMi → Option (Int32 × zMi)) (a1 : Int32) (a2 : Int32) (a3 : Int32) (a4 : Int32) (a6 : Int32) (s0 : Int32) (I : zMi) : Option (Int32 × zMi) :=
  if a2 = 0 then ((f_X4_get a1 a4 a6 I).bind (fun x2 => if a2 = 0 then (if a2 = 0 then (f_X4_swap_120 k35 a1 a2 a3 a4 a6 s0 x2 a6 a3 a1 I) else (f_X4_swap_120 k35 a1 a2 a3 a4 a6 s0 x2 a3 a3 a1 I)) else (if a2 = 0 then (f_X4_swap_120 k35 a1 a2 a3 a4 a6 s0 x2 a6 a6 a1 I) else (f_X4_swap_120 k35 a1 a2 a3 a4 a6 s0 x2 a3 a6 a1 I)))) else ((f_X4_get a1 a6 a4 I).bind (fun x6 => if a2 = 0 then (if a2 = 0 then (f_X4_swap_120 k35 a1 a2 a3 a4 a6 s0 x6 a6 a3 a1 I) else (f_X4_swap_120 k35 a1 a2 a3 a4 a6 s0 x6 a3 a3 a1 I)) else (if a2 = 0 then (f_X4_swap_120 k35 a1 a2 a3 a4 a6 s0 x6 a6 a6 a1 I) else (f_X4_swap_120 k35 a1 a2 a3 a4 a6 s0 x6 a3 a6 a1 I))))
def f_X4_swap_35 : Nat → Int32 → Int32 → Int32 → Int32 → Int32 → zMi → Option (Int32 × zMi)
  | 0, _, _, _, _, _, _ => none
  | f + 1, a1, a2, a3, a4, a6, I => if ix a1 10 then (if (I (5) a1.toNatClampNeg) ≤ a6 then ((f_X4_setKind a1 I).bind (fun x3 => some (x3.1, x3.2))) else (if a2 = 0 then ((f_X4_get a1 a3 a6 I).bind (fun x5 => f_X4_swap_69 (f_X4_swap_35 f) a1 a2 a3 a4 a6 x5 I)) else ((f_X4_get a1 a6 a3 I).bind (fun x6 => f_X4_swap_69 (f_X4_swap_35 f) a1 a2 a3 a4 a6 x6 I)))) else none
def f_X4_swap (a1 : Int32) (a2 : Int32) (a3 : Int32) (a4 : Int32) (I : zMi) : Option (Int32 × zMi) :=
  (f_X4_askedTable a1 I).bind (fun x1 => if 0 ≤ x1.1 then ((f_X4_isPlace a1 a3 a4 x1.2).bind (fun x3 => if x3 = 0 then ((f_X4_meets 2 x1.2).bind (fun x5 => some (x5.1, x5.2))) else (f_X4_swap_35 fu a1 a2 a3 a4 0 x1.2))) else (some (x1.1, x1.2)))
def rmX4_swap : Room := { frames := 5, cells := 0, slots := 0, locals := 119 }
def f_X4_flip_27 (k14 : Int32 → Int32 → zMi → Option (Int32 × zMi)) : Nat → Int32 → Int32 → Int32 → zMi → Option (Int32 × zMi)
  | 0, _, _, _, _ => none
  | f + 1, a1, a3, a4, I => if a3 ≤ a4 then (k14 a1 (a3 + 1) I) else ((f_X4_get a1 a3 a4 I).bind (fun x2 => (f_X4_get a1 a4 a3 I).bind (fun x3 => (f_X4_let a1 a3 a4 x3 I).bind (fun x4 => (f_X4_let a1 a4 a3 x2 x4).bind (fun x5 => f_X4_flip_27 k14 f a1 a3 (a4 + 1) x5)))))
def f_X4_flip_14 : Nat → Int32 → Int32 → zMi → Option (Int32 × zMi)
  | 0, _, _, _ => none
  | f + 1, a1, a3, I => if ix a1 10 then (if (I (5) a1.toNatClampNeg) ≤ a3 then ((f_X4_setKind a1 I).bind (fun x3 => some (x3.1, x3.2))) else (f_X4_flip_27 (f_X4_flip_14 f) fu a1 a3 0 I)) else none
def f_X4_flip (a1 : Int32) (I : zMi) : Option (Int32 × zMi) :=
  (f_X4_askedTable a1 I).bind (fun x1 => if 0 ≤ x1.1 then (f_X4_flip_14 fu a1 0 x1.2) else (some (x1.1, x1.2)))
def rmX4_flip : Room := { frames := 5, cells := 0, slots := 0, locals := 119 }
def f_X4_normal_72 : Nat → Int32 → Int32 → Int32 → zMi → Option (Int32 × zMi)
  | 0, _, _, _, _ => none
  | f + 1, a1, a3, a4, I => if ix a1 10 then (if (I (5) a1.toNatClampNeg) ≤ a4 then ((f_X4_setKind a1 I).bind (fun x3 => some (a3, x3.2))) else ((f_X4_get a1 a4 0 I).bind (fun x4 => if 0 ≤ x4 then (f_X4_normal_72 f a1 a3 (a4 + 1) I) else ((f_X4_turnRow a1 a4 I).bind (fun x6 => f_X4_normal_72 f a1 (a3 + 1) (a4 + 1) x6))))) else none
def f_X4_normal_31 : Nat → Int32 → Int32 → Int32 → zMi → Option (Int32 × zMi)
  | 0, _, _, _, _ => none
  | f + 1, a1, a3, a4, I => if ix a1 10 then (if (I (5) a1.toNatClampNeg) ≤ a4 then (f_X4_normal_72 fu a1 a3 0 I) else ((f_X4_get a1 0 a4 I).bind (fun x3 => if 0 ≤ x3 then (f_X4_normal_31 f a1 a3 (a4 + 1) I) else ((f_X4_turnColumn a1 a4 I).bind (fun x5 => f_X4_normal_31 f a1 (a3 + 1) (a4 + 1) x5))))) else none
def f_X4_normal (a1 : Int32) (I : zMi) : Option (Int32 × zMi) :=
  (f_X4_askedTable a1 I).bind (fun x1 => if 0 ≤ x1.1 then ((f_X4_hasZero a1 x1.2).bind (fun x3 => if x3 = 0 then (f_X4_normal_31 fu a1 0 0 x1.2) else ((f_X4_meets 3 x1.2).bind (fun x5 => some (x5.1, x5.2))))) else (some (x1.1, x1.2)))
def rmX4_normal : Room := { frames := 5, cells := 0, slots := 0, locals := 119 }
def f_X4_clear_171 (k8 : Int32 → Int64 → Int32 → Int32 → zMl → Option (Int64 × zMl)) (k159 : Int32 → Int64 → Int32 → Int32 → Int32 → zMl → Option (Int64 × zMl)) : Nat → Int32 → Int64 → Int32 → Int32 → Int32 → Int32 → zMl → Option (Int64 × zMl)
  | 0, _, _, _, _, _, _, _ => none
  | f + 1, a1, a2, a4, a5, a7, a8, J => if a1 ≤ a8 then (k159 a1 a2 a4 a5 (a7 + 1) J) else (if ix ((12 * a7) + a8) 144 then (if ix ((12 * a5) + a5) 144 then (if ix ((12 * a7) + a5) 144 then (if ix ((12 * a5) + a8) 144 then (if a2 = 0 then none else (f_X4_clear_171 k8 k159 f a1 a2 a4 a5 a7 (a8 + 1) (wJ J (10) ((12 * a7) + a8).toNatClampNeg ((((J (10) ((12 * a7) + a8).toNatClampNeg) * (J (10) ((12 * a5) + a5).toNatClampNeg)) - ((J (10) ((12 * a7) + a5).toNatClampNeg) * (J (10) ((12 * a5) + a8).toNatClampNeg))) / a2)))) else none) else none) else none) else none)
def f_X4_clear_159 (k8 : Int32 → Int64 → Int32 → Int32 → zMl → Option (Int64 × zMl)) : Nat → Int32 → Int64 → Int32 → Int32 → Int32 → zMl → Option (Int64 × zMl)
  | 0, _, _, _, _, _, _ => none
  | f + 1, a1, a2, a4, a5, a7, J => if a1 ≤ a7 then (if ix ((12 * a5) + a5) 144 then (k8 a1 (J (10) ((12 * a5) + a5).toNatClampNeg) a4 (a5 + 1) J) else none) else (f_X4_clear_171 k8 (f_X4_clear_159 k8 f) fu a1 a2 a4 a5 a7 (a5 + 1) J)
def f_X4_clear_61 (k8 : Int32 → Int64 → Int32 → Int32 → zMl → Option (Int64 × zMl)) : Nat → Int32 → Int64 → Int32 → Int32 → Int32 → Int32 → zMl → Option (Int64 × zMl)
  | 0, _, _, _, _, _, _, _ => none
  | f + 1, a1, a2, a4, a5, a6, a7, J => if a1 ≤ a7 then (if a6 = a5 then (f_X4_clear_159 k8 fu a1 a2 a4 a5 (a5 + 1) J) else (f_X4_clear_159 k8 fu a1 a2 (-a4) a5 (a5 + 1) J)) else (if a6 = a5 then (if a6 = a5 then (f_X4_clear_159 k8 fu a1 a2 a4 a5 (a5 + 1) J) else (f_X4_clear_159 k8 fu a1 a2 (-a4) a5 (a5 + 1) J)) else (if ix ((12 * a6) + a7) 144 then (if ix ((12 * a5) + a7) 144 then (f_X4_clear_61 k8 f a1 a2 a4 a5 a6 (a7 + 1) (wJ (wJ J (10) ((12 * a6) + a7).toNatClampNeg (J (10) ((12 * a5) + a7).toNatClampNeg)) (10) ((12 * a5) + a7).toNatClampNeg (J (10) ((12 * a6) + a7).toNatClampNeg))) else none) else none))
def f_X4_clear_20 (k8 : Int32 → Int64 → Int32 → Int32 → zMl → Option (Int64 × zMl)) : Nat → Int32 → Int64 → Int32 → Int32 → Int32 → zMl → Option (Int64 × zMl)
  | 0, _, _, _, _, _, _ => none
  | f + 1, a1, a2, a4, a5, a6, J => if a1 ≤ a6 then (if a6 = a1 then (some (0, J)) else (f_X4_clear_61 k8 fu a1 a2 a4 a5 a6 0 J)) else (if ix ((12 * a6) + a5) 144 then (if (lg_cmp (J (10) ((12 * a6) + a5).toNatClampNeg) 0) = 0 then (f_X4_clear_20 k8 f a1 a2 a4 a5 (a6 + 1) J) else (if a6 = a1 then (some (0, J)) else (f_X4_clear_61 k8 fu a1 a2 a4 a5 a6 0 J))) else none)
def f_X4_clear_8 : Nat → Int32 → Int64 → Int32 → Int32 → zMl → Option (Int64 × zMl)
  | 0, _, _, _, _, _ => none
  | f + 1, a1, a2, a4, a5, J => if (a1 - 1) ≤ a5 then (if ix (((12 * (a1 - 1)) + a1) - 1) 144 then (some (((a4.toInt64) * (J (10) (((12 * (a1 - 1)) + a1) - 1).toNatClampNeg)), J)) else none) else (f_X4_clear_20 (f_X4_clear_8 f) fu a1 a2 a4 a5 a5 J)
def f_X4_clear (a1 : Int32) (J : zMl) : Option (Int64 × zMl) :=
  f_X4_clear_8 fu a1 1 1 0 J
def rmX4_clear : Room := { frames := 0, cells := 0, slots := 0, locals := 0 }
def f_X4_worth_31 (k22 : Int32 → Int32 → Int32 → zMi → zMl → Option (Int32 × zMi × zMl)) : Nat → Int32 → Int32 → Int32 → Int32 → zMi → zMl → Option (Int32 × zMi × zMl)
  | 0, _, _, _, _, _, _ => none
  | f + 1, a1, a3, a4, a5, I, J => if a3 ≤ a5 then (k22 a1 a3 (a4 + 1) I J) else ((f_X4_get a1 a4 a5 I).bind (fun x2 => if ix ((12 * a4) + a5) 144 then (f_X4_worth_31 k22 f a1 a3 a4 (a5 + 1) I (wJ J (10) ((12 * a4) + a5).toNatClampNeg (x2.toInt64))) else none))
def f_X4_worth_22 : Nat → Int32 → Int32 → Int32 → zMi → zMl → Option (Int32 × zMi × zMl)
  | 0, _, _, _, _, _ => none
  | f + 1, a1, a3, a4, I, J => if a3 ≤ a4 then ((f_X4_clear a3 J).bind (fun x2 => some (1, I, (wJ x2.2 (0) 3 x2.1)))) else (f_X4_worth_31 (f_X4_worth_22 f) fu a1 a3 a4 0 I J)
def f_X4_worth (a1 : Int32) (I : zMi) (J : zMl) : Option (Int32 × zMi × zMl) :=
  (f_X4_askedTable a1 I).bind (fun x1 => if 0 ≤ x1.1 then (if ix a1 10 then (f_X4_worth_22 fu a1 (x1.2 (5) a1.toNatClampNeg) 0 x1.2 J) else none) else (some (x1.1, x1.2, J)))
def rmX4_worth : Room := { frames := 3, cells := 0, slots := 0, locals := 63 }
def f_X4_balanced (a1 : Int32) (I : zMi) : Option (Int32 × zMi) :=
  (f_X4_askedTable a1 I).bind (fun x1 => if 0 ≤ x1.1 then ((f_X4_pairsThatBalance a1 x1.2).bind (fun x3 => some (x3, x1.2))) else (some (x1.1, x1.2)))
def rmX4_balanced : Room := { frames := 3, cells := 0, slots := 0, locals := 72 }
def f_X4_commonSum_23 (I : zMi) (k6 : Int32 → Int32 → Int32 → Int32 → Int32 → Option Int32) : Nat → Int32 → Int32 → Int32 → Int32 → Int32 → Int32 → Int32 → Option Int32
  | 0, _, _, _, _, _, _, _ => none
  | f + 1, a1, a2, a3, a4, a5, a6, a7 => if ix a1 10 then (if (I (5) a1.toNatClampNeg) ≤ a7 then (k6 a1 a2 a3 (a4 + a6) (a5 + 1)) else (if ((a2 >>> (a7 &&& 31)) &&& 1) = 0 then (f_X4_commonSum_23 I k6 f a1 a2 a3 a4 a5 (a6 * 1) (a7 + 1)) else (if a3 = 0 then ((f_X4_get a1 a7 a5 I).bind (fun x5 => f_X4_commonSum_23 I k6 f a1 a2 a3 a4 a5 (a6 * x5) (a7 + 1))) else ((f_X4_get a1 a5 a7 I).bind (fun x6 => f_X4_commonSum_23 I k6 f a1 a2 a3 a4 a5 (a6 * x6) (a7 + 1)))))) else none
def f_X4_commonSum_6 (I : zMi) : Nat → Int32 → Int32 → Int32 → Int32 → Int32 → Option Int32
  | 0, _, _, _, _, _ => none
  | f + 1, a1, a2, a3, a4, a5 => if ix a1 10 then (if (I (5) a1.toNatClampNeg) ≤ a5 then (some (f_X4_abs a4)) else (f_X4_commonSum_23 I (f_X4_commonSum_6 I f) fu a1 a2 a3 a4 a5 1 0)) else none
def f_X4_commonSum (a1 : Int32) (a2 : Int32) (a3 : Int32) (I : zMi) : Option Int32 :=
  f_X4_commonSum_6 I fu a1 a2 a3 0 0
def rmX4_commonSum : Room := { frames := 1, cells := 0, slots := 0, locals := 23 }
def f_X4_common (a1 : Int32) (a2 : Int32) (I : zMi) : Option (Int32 × zMi) :=
  (f_X4_askedTable a1 I).bind (fun x1 => if 0 ≤ x1.1 then ((f_X4_hasZero a1 x1.2).bind (fun x3 => if x3 = 0 then (if a2 = 0 then ((f_X4_meets 2 x1.2).bind (fun x6 => some (x6.1, x6.2))) else ((f_X4_isSet a1 a2 x1.2).bind (fun x7 => if x7 = 0 then ((f_X4_meets 2 x1.2).bind (fun x10 => some (x10.1, x10.2))) else ((f_X4_commonSum a1 a2 0 x1.2).bind (fun x9 => some (x9, x1.2)))))) else ((f_X4_meets 3 x1.2).bind (fun x11 => some (x11.1, x11.2))))) else (some (x1.1, x1.2)))
def rmX4_common : Room := { frames := 3, cells := 0, slots := 0, locals := 63 }
def f_X4_profileOf_6 (I : zMi) : Nat → Int32 → Int32 → Int32 → Int32 → Int32 → Int32 → Option Int32
  | 0, _, _, _, _, _, _ => none
  | f + 1, a1, a2, a3, a4, a5, a6 => if ix a1 10 then (if ((1 : Int32) <<< ((I (5) a1.toNatClampNeg) &&& 31)) ≤ a6 then (some a5) else ((f_X4_bits a6).bind (fun x3 => if x3 = a2 then ((f_X4_commonSum a1 a6 a4 I).bind (fun x5 => if x5 = a3 then (f_X4_profileOf_6 I f a1 a2 a3 a4 (a5 + 1) (a6 + 1)) else (f_X4_profileOf_6 I f a1 a2 a3 a4 (a5 + 0) (a6 + 1)))) else (f_X4_profileOf_6 I f a1 a2 a3 a4 (a5 + 0) (a6 + 1))))) else none
def f_X4_profileOf (a1 : Int32) (a2 : Int32) (a3 : Int32) (a4 : Int32) (I : zMi) : Option Int32 :=
  f_X4_profileOf_6 I fu a1 a2 a3 a4 0 0
def rmX4_profileOf : Room := { frames := 2, cells := 0, slots := 0, locals := 50 }
def f_X4_profile (a1 : Int32) (a2 : Int32) (a3 : Int32) (I : zMi) : Option (Int32 × zMi) :=
  if (f_X4_in a2 2 4) = 0 then (some ((-1), I)) else (if (f_X4_in a3 0 12) = 0 then (some ((-1), I)) else ((f_X4_askedTable a1 I).bind (fun x3 => if 0 ≤ x3.1 then ((f_X4_hasZero a1 x3.2).bind (fun x5 => if x5 = 0 then ((f_X4_profileOf a1 a2 a3 0 x3.2).bind (fun x7 => some (x7, x3.2))) else ((f_X4_meets 3 x3.2).bind (fun x8 => some (x8.1, x8.2))))) else (some (x3.1, x3.2)))))
def rmX4_profile : Room := { frames := 3, cells := 0, slots := 0, locals := 76 }
def f_X4_askedTwo (a1 : Int32) (a2 : Int32) (I : zMi) : Option (Int32 × zMi) :=
  if (f_X4_isTable a1) = 0 then (some ((-1), I)) else (if (f_X4_isTable a2) = 0 then (some ((-1), I)) else (if ix a1 10 then (if (I (5) a1.toNatClampNeg) = 0 then ((f_X4_meets 1 I).bind (fun x5 => some (x5.1, x5.2))) else (if ix a2 10 then (if (I (5) a2.toNatClampNeg) = 0 then ((f_X4_meets 1 I).bind (fun x16 => some (x16.1, x16.2))) else ((f_X4_hasZero a1 I).bind (fun x8 => if x8 = 0 then ((f_X4_hasZero a2 I).bind (fun x11 => if x11 = 0 then (if (I (5) a1.toNatClampNeg) = (I (5) a2.toNatClampNeg) then (some (0, I)) else ((f_X4_meets 3 I).bind (fun x15 => some (x15.1, x15.2)))) else ((f_X4_meets 3 I).bind (fun x13 => some (x13.1, x13.2))))) else ((f_X4_meets 3 I).bind (fun x10 => some (x10.1, x10.2)))))) else none)) else none))
def rmX4_askedTwo : Room := { frames := 2, cells := 0, slots := 0, locals := 47 }
def f_X4_setProfile_50 (k23 : Int32 → Int32 → zMi → Option zMi) (a1 : Int32) (a2 : Int32) (a3 : Int32) (I : zMi) : Option zMi :=
  (f_X4_commonSum a1 a2 0 I).bind (fun x1 => if ix ((13 * (a3 - 2)) + x1) 78 then ((f_X4_commonSum a1 a2 1 (wI I (11) ((13 * (a3 - 2)) + x1).toNatClampNeg ((I (11) ((13 * (a3 - 2)) + x1).toNatClampNeg) + 1))).bind (fun x3 => if ix ((39 + (13 * (a3 - 2))) + x3) 78 then (k23 a1 (a2 + 1) (wI (wI I (11) ((13 * (a3 - 2)) + x1).toNatClampNeg ((I (11) ((13 * (a3 - 2)) + x1).toNatClampNeg) + 1)) (11) ((39 + (13 * (a3 - 2))) + x3).toNatClampNeg (((wI I (11) ((13 * (a3 - 2)) + x1).toNatClampNeg ((I (11) ((13 * (a3 - 2)) + x1).toNatClampNeg) + 1)) (11) ((39 + (13 * (a3 - 2))) + x3).toNatClampNeg) + 1))) else none)) else none)
def f_X4_setProfile_23 : Nat → Int32 → Int32 → zMi → Option zMi
  | 0, _, _, _ => none
  | f + 1, a1, a2, I => if ix a1 10 then (if ((1 : Int32) <<< ((I (5) a1.toNatClampNeg) &&& 31)) ≤ a2 then (some I) else ((f_X4_bits a2).bind (fun x3 => if x3 = 2 then (f_X4_setProfile_50 (f_X4_setProfile_23 f) a1 a2 x3 I) else (if x3 = 4 then (f_X4_setProfile_50 (f_X4_setProfile_23 f) a1 a2 x3 I) else (f_X4_setProfile_23 f a1 (a2 + 1) I))))) else none
def f_X4_setProfile_2 : Nat → Int32 → Int32 → zMi → Option zMi
  | 0, _, _, _ => none
  | f + 1, a1, a2, I => if 78 ≤ a2 then (f_X4_setProfile_23 fu a1 0 I) else (if ix a2 78 then (f_X4_setProfile_2 f a1 (a2 + 1) (wI I (11) a2.toNatClampNeg 0)) else none)
def f_X4_setProfile (a1 : Int32) (I : zMi) : Option zMi :=
  f_X4_setProfile_2 fu a1 0 I
def rmX4_setProfile : Room := { frames := 2, cells := 0, slots := 0, locals := 50 }
def f_X4_mayBeLike_59 : Nat → Int32 → Int32 → zMi → Option (Int32 × zMi)
  | 0, _, _, _ => none
  | f + 1, a4, a5, I => if 78 ≤ a5 then (if a4 = 0 then (some (0, I)) else (some (1, I))) else (if a4 = 0 then (f_X4_mayBeLike_59 f 0 (a5 + 1) I) else (if ix a5 78 then (if (I (12) a5.toNatClampNeg) = (I (11) a5.toNatClampNeg) then (f_X4_mayBeLike_59 f 1 (a5 + 1) I) else (f_X4_mayBeLike_59 f 0 (a5 + 1) I)) else none))
def f_X4_mayBeLike_21 : Nat → Int32 → Int32 → zMi → Option (Int32 × zMi)
  | 0, _, _, _ => none
  | f + 1, a2, a4, I => if 78 ≤ a4 then ((f_X4_setProfile a2 I).bind (fun x2 => f_X4_mayBeLike_59 fu 1 0 x2)) else (if ix a4 78 then (f_X4_mayBeLike_21 f a2 (a4 + 1) (wI I (12) a4.toNatClampNeg (I (11) a4.toNatClampNeg))) else none)
def f_X4_mayBeLike (a1 : Int32) (a2 : Int32) (I : zMi) : Option (Int32 × zMi) :=
  (f_X4_askedTwo a1 a2 I).bind (fun x1 => if 0 ≤ x1.1 then ((f_X4_setProfile a1 x1.2).bind (fun x3 => f_X4_mayBeLike_21 fu a2 0 x3)) else (some (x1.1, x1.2)))
def rmX4_mayBeLike : Room := { frames := 3, cells := 0, slots := 0, locals := 73 }
def f_X4_order (a0 : Int32) (a1 : Int32) : Int32 :=
  ((a0 >>> ((2 * a1) &&& 31)) &&& 3)
def rmX4_order : Room := { frames := 0, cells := 0, slots := 0, locals := 0 }
def f_X4_isLike_24 (I : zMi) (k14 : Int32 → Int32 → Int32 → Int32 → Int32 → Int32 → Int32 → Option Int32) : Nat → Int32 → Int32 → Int32 → Int32 → Int32 → Int32 → Int32 → Int32 → Option Int32
  | 0, _, _, _, _, _, _, _, _ => none
  | f + 1, a1, a2, a3, a4, a5, a6, a7, a8 => if a5 ≤ a8 then (k14 a1 a2 a3 a4 a5 a6 (a7 + 1)) else ((f_X4_get a1 (f_X4_order a3 a7) (f_X4_order a4 a8) I).bind (fun x2 => (f_X4_get a1 (f_X4_order a3 0) (f_X4_order a4 a8) I).bind (fun x3 => (f_X4_get a1 (f_X4_order a3 a7) (f_X4_order a4 0) I).bind (fun x4 => (f_X4_get a1 (f_X4_order a3 0) (f_X4_order a4 0) I).bind (fun x5 => if a6 = 0 then (f_X4_isLike_24 I k14 f a1 a2 a3 a4 a5 0 a7 (a8 + 1)) else ((f_X4_get a2 a7 a8 I).bind (fun x7 => (f_X4_get a2 0 a8 I).bind (fun x8 => (f_X4_get a2 a7 0 I).bind (fun x9 => (f_X4_get a2 0 0 I).bind (fun x10 => if (((x2 * x3) * x4) * x5) = (((x7 * x8) * x9) * x10) then (f_X4_isLike_24 I k14 f a1 a2 a3 a4 a5 1 a7 (a8 + 1)) else (f_X4_isLike_24 I k14 f a1 a2 a3 a4 a5 0 a7 (a8 + 1))))))))))))
def f_X4_isLike_14 (I : zMi) : Nat → Int32 → Int32 → Int32 → Int32 → Int32 → Int32 → Int32 → Option Int32
  | 0, _, _, _, _, _, _, _ => none
  | f + 1, a1, a2, a3, a4, a5, a6, a7 => if a5 ≤ a7 then (some a6) else (f_X4_isLike_24 I (f_X4_isLike_14 I f) fu a1 a2 a3 a4 a5 a6 a7 1)
def f_X4_isLike (a1 : Int32) (a2 : Int32) (a3 : Int32) (a4 : Int32) (I : zMi) : Option Int32 :=
  if ix a1 10 then (f_X4_isLike_14 I fu a1 a2 a3 a4 (I (5) a1.toNatClampNeg) 1 1) else none
def rmX4_isLike : Room := { frames := 1, cells := 0, slots := 0, locals := 23 }
def f_X4_isOrder_4 : Nat → Int32 → Int32 → Int32 → Int32 → Option Int32
  | 0, _, _, _, _ => none
  | f + 1, a0, a1, a2, a3 => if a1 ≤ a3 then (if a2 = (((1 : Int32) <<< (a1 &&& 31)) - 1) then (some 1) else (some 0)) else (f_X4_isOrder_4 f a0 a1 (a2 ||| ((1 : Int32) <<< ((f_X4_order a0 a3) &&& 31))) (a3 + 1))
def f_X4_isOrder (a0 : Int32) (a1 : Int32) : Option Int32 :=
  f_X4_isOrder_4 fu a0 a1 0 0
def rmX4_isOrder : Room := { frames := 1, cells := 0, slots := 0, locals := 21 }
def f_X4_like_50 (k36 : Int32 → Int32 → Int32 → Int32 → zMi → Option (Int32 × zMi)) : Nat → Int32 → Int32 → Int32 → Int32 → Int32 → zMi → Option (Int32 × zMi)
  | 0, _, _, _, _, _, _ => none
  | f + 1, a1, a2, a4, a5, a6, I => if ((1 : Int32) <<< ((2 * a4) &&& 31)) ≤ a6 then (k36 a1 a2 a4 (a5 + 1) I) else ((f_X4_isOrder a5 a4).bind (fun x2 => if x2 = 0 then (k36 a1 a2 a4 (a5 + 1) I) else ((f_X4_isOrder a6 a4).bind (fun x4 => if x4 = 0 then (f_X4_like_50 k36 f a1 a2 a4 a5 (a6 + 1) I) else ((f_X4_isLike a1 a2 a5 a6 I).bind (fun x6 => if x6 = 0 then (f_X4_like_50 k36 f a1 a2 a4 a5 (a6 + 1) I) else (some (1, I))))))))
def f_X4_like_36 : Nat → Int32 → Int32 → Int32 → Int32 → zMi → Option (Int32 × zMi)
  | 0, _, _, _, _, _ => none
  | f + 1, a1, a2, a4, a5, I => if ((1 : Int32) <<< ((2 * a4) &&& 31)) ≤ a5 then (some (0, I)) else (f_X4_like_50 (f_X4_like_36 f) fu a1 a2 a4 a5 0 I)
def f_X4_like (a1 : Int32) (a2 : Int32) (I : zMi) : Option (Int32 × zMi) :=
  (f_X4_askedTwo a1 a2 I).bind (fun x1 => if 0 ≤ x1.1 then (if ix a1 10 then (if (x1.2 (5) a1.toNatClampNeg) ≤ 4 then (f_X4_like_36 fu a1 a2 (x1.2 (5) a1.toNatClampNeg) 0 x1.2) else ((f_X4_meets 5 x1.2).bind (fun x5 => some (x5.1, x5.2)))) else none) else (some (x1.1, x1.2)))
def rmX4_like : Room := { frames := 3, cells := 0, slots := 0, locals := 69 }
def f_X4_turnedSum_6 (I : zMi) : Nat → Int32 → Int32 → Int32 → Int32 → Int32 → Option Int32
  | 0, _, _, _, _, _ => none
  | f + 1, a1, a2, a3, a4, a5 => if ix a1 10 then (if (I (5) a1.toNatClampNeg) ≤ a5 then (some (f_X4_abs a4)) else (if ((a3 >>> (a5 &&& 31)) &&& 1) = 1 then ((f_X4_get a1 a2 a5 I).bind (fun x5 => f_X4_turnedSum_6 I f a1 a2 a3 (a4 + (-x5)) (a5 + 1))) else ((f_X4_get a1 a2 a5 I).bind (fun x4 => f_X4_turnedSum_6 I f a1 a2 a3 (a4 + x4) (a5 + 1))))) else none
def f_X4_turnedSum (a1 : Int32) (a2 : Int32) (a3 : Int32) (I : zMi) : Option Int32 :=
  f_X4_turnedSum_6 I fu a1 a2 a3 0 0
def rmX4_turnedSum : Room := { frames := 1, cells := 0, slots := 0, locals := 23 }
def f_X4_excess_40 (k21 : Int32 → Int32 → Int32 → Int32 → zMi → Option (Int32 × zMi)) : Nat → Int32 → Int32 → Int32 → Int32 → Int32 → Int32 → zMi → Option (Int32 × zMi)
  | 0, _, _, _, _, _, _, _ => none
  | f + 1, a1, a3, a4, a5, a6, a7, I => if ix a1 10 then (if (I (5) a1.toNatClampNeg) ≤ a7 then (if a3 < 0 then (k21 a1 a5 a6 (a5 + 1) I) else (if a6 ≤ a4 then (k21 a1 a3 a4 (a5 + 1) I) else (k21 a1 a5 a6 (a5 + 1) I))) else ((f_X4_turnedSum a1 a7 a5 I).bind (fun x5 => f_X4_excess_40 k21 f a1 a3 a4 a5 (a6 + x5) (a7 + 1) I))) else none
def f_X4_excess_21 : Nat → Int32 → Int32 → Int32 → Int32 → zMi → Option (Int32 × zMi)
  | 0, _, _, _, _, _ => none
  | f + 1, a1, a3, a4, a5, I => if ix a1 10 then (if ((1 : Int32) <<< ((I (5) a1.toNatClampNeg) &&& 31)) ≤ a5 then (some ((f_X4_ask a3 a4 I).1, (f_X4_ask a3 a4 I).2)) else (f_X4_excess_40 (f_X4_excess_21 f) fu a1 a3 a4 a5 0 0 I)) else none
def f_X4_excess (a1 : Int32) (I : zMi) : Option (Int32 × zMi) :=
  (f_X4_askedTable a1 I).bind (fun x1 => if 0 ≤ x1.1 then (f_X4_excess_21 fu a1 (-9) 0 0 x1.2) else (some (x1.1, x1.2)))
def rmX4_excess : Room := { frames := 3, cells := 0, slots := 0, locals := 63 }
def f_X4_peak_40 (k21 : Int32 → Int32 → Int32 → Int32 → zMi → Option (Int32 × zMi)) : Nat → Int32 → Int32 → Int32 → Int32 → Int32 → Int32 → zMi → Option (Int32 × zMi)
  | 0, _, _, _, _, _, _, _ => none
  | f + 1, a1, a3, a4, a5, a6, a7, I => if ix a1 10 then (if (I (5) a1.toNatClampNeg) ≤ a7 then (if a3 < 0 then (k21 a1 a5 a6 (a5 + 1) I) else (if a4 ≤ a6 then (k21 a1 a3 a4 (a5 + 1) I) else (k21 a1 a5 a6 (a5 + 1) I))) else ((f_X4_turnedSum a1 a7 a5 I).bind (fun x5 => if x5 ≤ a6 then (f_X4_peak_40 k21 f a1 a3 a4 a5 a6 (a7 + 1) I) else (f_X4_peak_40 k21 f a1 a3 a4 a5 x5 (a7 + 1) I)))) else none
def f_X4_peak_21 : Nat → Int32 → Int32 → Int32 → Int32 → zMi → Option (Int32 × zMi)
  | 0, _, _, _, _, _ => none
  | f + 1, a1, a3, a4, a5, I => if ix a1 10 then (if ((1 : Int32) <<< ((I (5) a1.toNatClampNeg) &&& 31)) ≤ a5 then (some ((f_X4_ask a3 a4 I).1, (f_X4_ask a3 a4 I).2)) else (f_X4_peak_40 (f_X4_peak_21 f) fu a1 a3 a4 a5 0 0 I)) else none
def f_X4_peak (a1 : Int32) (I : zMi) : Option (Int32 × zMi) :=
  (f_X4_askedTable a1 I).bind (fun x1 => if 0 ≤ x1.1 then (f_X4_peak_21 fu a1 (-9) 0 0 x1.2) else (some (x1.1, x1.2)))
def rmX4_peak : Room := { frames := 3, cells := 0, slots := 0, locals := 63 }
def f_X4_block_71 : Nat → Int32 → Int32 → Int32 → Int32 → Int32 → zMi → Option (Int32 × zMi)
  | 0, _, _, _, _, _, _ => none
  | f + 1, a1, a2, a4, a5, a6, I => if a4 ≤ a6 then (some (a5, I)) else ((f_X4_get a1 (a2 + 1) a6 I).bind (fun x2 => (f_X4_get a1 0 a6 I).bind (fun x3 => (f_X4_get a1 (a2 + 1) 0 I).bind (fun x4 => (f_X4_get a1 0 0 I).bind (fun x5 => if (((x2 * x3) * x4) * x5) = 1 then (f_X4_block_71 f a1 a2 a4 (a5 ||| ((1 : Int32) <<< ((a6 - 1) &&& 31))) (a6 + 1) I) else (f_X4_block_71 f a1 a2 a4 (a5 ||| 0) (a6 + 1) I))))))
def f_X4_block (a1 : Int32) (a2 : Int32) (I : zMi) : Option (Int32 × zMi) :=
  (f_X4_askedTable a1 I).bind (fun x1 => if 0 ≤ x1.1 then ((f_X4_is a1 1 x1.2).bind (fun x3 => if x3 = 0 then ((f_X4_meets 3 x1.2).bind (fun x10 => some (x10.1, x10.2))) else (if ix a1 10 then (if 4 ≤ (x1.2 (5) a1.toNatClampNeg) then (if (f_X4_in a2 0 ((x1.2 (5) a1.toNatClampNeg) - 2)) = 0 then ((f_X4_meets 2 x1.2).bind (fun x8 => some (x8.1, x8.2))) else (f_X4_block_71 fu a1 a2 (x1.2 (5) a1.toNatClampNeg) 0 1 x1.2)) else ((f_X4_meets 5 x1.2).bind (fun x9 => some (x9.1, x9.2)))) else none))) else (some (x1.1, x1.2)))
def rmX4_block : Room := { frames := 3, cells := 0, slots := 0, locals := 63 }
def f_X4_plainEcho_5 (I : zMi) : Nat → Int32 → Int32 → Int32 → Int32 → Option Int32
  | 0, _, _, _, _ => none
  | f + 1, a1, a2, a3, a4 => if ix a1 6 then (if (I (2) a1.toNatClampNeg) ≤ (a4 + a2) then (some a3) else (if ix ((24 * a1) + a4) 144 then (if ix (((24 * a1) + a4) + a2) 144 then (f_X4_plainEcho_5 I f a1 a2 (a3 + ((I (3) ((24 * a1) + a4).toNatClampNeg) * (I (3) (((24 * a1) + a4) + a2).toNatClampNeg))) (a4 + 1)) else none) else none)) else none
def f_X4_plainEcho (a1 : Int32) (a2 : Int32) (I : zMi) : Option Int32 :=
  f_X4_plainEcho_5 I fu a1 a2 0 0
def rmX4_plainEcho : Room := { frames := 0, cells := 0, slots := 0, locals := 0 }
def f_X4_askedSigns (a1 : Int32) (I : zMi) : Option (Int32 × zMi) :=
  (f_X4_askedRow a1 I).bind (fun x1 => if 0 ≤ x1.1 then (if ix a1 6 then (if (x1.2 (2) a1.toNatClampNeg) = 0 then ((f_X4_meets 5 x1.2).bind (fun x8 => some (x8.1, x8.2))) else ((f_X4_areSigns a1 x1.2).bind (fun x5 => if x5 = 0 then ((f_X4_meets 3 x1.2).bind (fun x7 => some (x7.1, x7.2))) else (some (0, x1.2))))) else none) else (some (x1.1, x1.2)))
def rmX4_askedSigns : Room := { frames := 3, cells := 0, slots := 0, locals := 63 }
def f_X4_echo (a1 : Int32) (a2 : Int32) (a3 : Int32) (I : zMi) : Option (Int32 × zMi) :=
  (f_X4_askedSigns a1 I).bind (fun x1 => if 0 ≤ x1.1 then (if ix a1 6 then (if (f_X4_in a2 0 ((x1.2 (2) a1.toNatClampNeg) - 1)) = 0 then ((f_X4_meets 2 x1.2).bind (fun x8 => some (x8.1, x8.2))) else (if a3 = 0 then ((f_X4_plainEcho a1 a2 x1.2).bind (fun x6 => some ((f_X4_ask x6 1 x1.2).1, (f_X4_ask x6 1 x1.2).2))) else ((f_X4_roundEcho a1 a2 x1.2).bind (fun x7 => some ((f_X4_ask x7 1 x1.2).1, (f_X4_ask x7 1 x1.2).2))))) else none) else (some (x1.1, x1.2)))
def rmX4_echo : Room := { frames := 4, cells := 0, slots := 0, locals := 85 }
def f_X4_side_17 : Nat → Int32 → Int32 → Int32 → zMi → Option (Int32 × zMi)
  | 0, _, _, _, _ => none
  | f + 1, a1, a3, a4, I => if ix a1 6 then (if (I (2) a1.toNatClampNeg) ≤ a4 then (some (a3, I)) else ((f_X4_plainEcho a1 a4 I).bind (fun x3 => if (f_X4_abs x3) ≤ a3 then (f_X4_side_17 f a1 a3 (a4 + 1) I) else (f_X4_side_17 f a1 (f_X4_abs x3) (a4 + 1) I)))) else none
def f_X4_side (a1 : Int32) (I : zMi) : Option (Int32 × zMi) :=
  (f_X4_askedSigns a1 I).bind (fun x1 => if 0 ≤ x1.1 then (f_X4_side_17 fu a1 0 1 x1.2) else (some (x1.1, x1.2)))
def rmX4_side : Room := { frames := 4, cells := 0, slots := 0, locals := 85 }
def f_X4_areZero_6 (I : zMi) : Nat → Int32 → Int32 → Int32 → Int32 → Int32 → Option Int32
  | 0, _, _, _, _, _ => none
  | f + 1, a1, a2, a3, a4, a5 => if ix a1 6 then (if (I (2) a1.toNatClampNeg) ≤ a5 then (some a4) else (if a4 = 0 then (f_X4_areZero_6 I f a1 a2 a3 0 (a5 + 1)) else (if a3 = 0 then ((f_X4_plainEcho a1 a5 I).bind (fun x5 => (f_X4_plainEcho a2 a5 I).bind (fun x6 => if (x5 + x6) = 0 then (f_X4_areZero_6 I f a1 a2 a3 1 (a5 + 1)) else (f_X4_areZero_6 I f a1 a2 a3 0 (a5 + 1))))) else ((f_X4_roundEcho a1 a5 I).bind (fun x8 => (f_X4_roundEcho a2 a5 I).bind (fun x9 => if (x8 + x9) = 0 then (f_X4_areZero_6 I f a1 a2 a3 1 (a5 + 1)) else (f_X4_areZero_6 I f a1 a2 a3 0 (a5 + 1)))))))) else none
def f_X4_areZero (a1 : Int32) (a2 : Int32) (a3 : Int32) (I : zMi) : Option Int32 :=
  f_X4_areZero_6 I fu a1 a2 a3 1 1
def rmX4_areZero : Room := { frames := 1, cells := 0, slots := 0, locals := 25 }
def f_X4_askedPair (a1 : Int32) (a2 : Int32) (a3 : Int32) (I : zMi) : Option (Int32 × zMi) :=
  if (f_X4_isRow a1) = 0 then (some ((-1), I)) else (if (f_X4_isRow a2) = 0 then (some ((-1), I)) else (if ix a1 6 then (if (I (2) a1.toNatClampNeg) < 0 then ((f_X4_meets 1 I).bind (fun x5 => some (x5.1, x5.2))) else (if ix a2 6 then (if 0 ≤ (I (2) a2.toNatClampNeg) then (if (I (2) a1.toNatClampNeg) = 0 then ((f_X4_meets 5 I).bind (fun x9 => some (x9.1, x9.2))) else (if (I (2) a1.toNatClampNeg) = (I (2) a2.toNatClampNeg) then (if (I (2) a1.toNatClampNeg) ≤ a3 then ((f_X4_areSigns a1 I).bind (fun x13 => if x13 = 0 then ((f_X4_meets 3 I).bind (fun x15 => some (x15.1, x15.2))) else ((f_X4_areSigns a2 I).bind (fun x16 => if x16 = 0 then ((f_X4_meets 3 I).bind (fun x18 => some (x18.1, x18.2))) else (some (0, I)))))) else ((f_X4_meets 5 I).bind (fun x19 => some (x19.1, x19.2)))) else ((f_X4_meets 5 I).bind (fun x11 => some (x11.1, x11.2))))) else ((f_X4_meets 1 I).bind (fun x20 => some (x20.1, x20.2)))) else none)) else none))
def rmX4_askedPair : Room := { frames := 2, cells := 0, slots := 0, locals := 43 }
def f_X4_cancels (a1 : Int32) (a2 : Int32) (a3 : Int32) (I : zMi) : Option (Int32 × zMi) :=
  (f_X4_askedPair a1 a2 24 I).bind (fun x1 => if 0 ≤ x1.1 then ((f_X4_areZero a1 a2 a3 x1.2).bind (fun x3 => if x3 = 0 then (some (0, x1.2)) else (some (1, x1.2)))) else (some (x1.1, x1.2)))
def rmX4_cancels : Room := { frames := 3, cells := 0, slots := 0, locals := 66 }
def f_X4_sign (a0 : Int32) (a1 : Int32) : Int32 :=
  if ((a0 >>> (a1 &&& 31)) &&& 1) = 1 then (-1) else 1
def rmX4_sign : Room := { frames := 0, cells := 0, slots := 0, locals := 0 }
def f_X4_echoOf_5 : Nat → Int32 → Int32 → Int32 → Int32 → Int32 → Option Int32
  | 0, _, _, _, _, _ => none
  | f + 1, a0, a1, a2, a3, a4 => if a1 ≤ (a4 + a2) then (some a3) else (f_X4_echoOf_5 f a0 a1 a2 (a3 + ((f_X4_sign a0 a4) * (f_X4_sign a0 (a4 + a2)))) (a4 + 1))
def f_X4_echoOf (a0 : Int32) (a1 : Int32) (a2 : Int32) : Option Int32 :=
  f_X4_echoOf_5 fu a0 a1 a2 0 0
def rmX4_echoOf : Room := { frames := 1, cells := 0, slots := 0, locals := 21 }
def f_X4_pairs_85 (k61 : Int32 → Int32 → Int32 → zMi → Option (Int32 × zMi)) (k71 : Int32 → Int32 → Int32 → Int32 → zMi → Option (Int32 × zMi)) : Nat → Int32 → Int32 → Int32 → Int32 → Int32 → Int32 → zMi → Option (Int32 × zMi)
  | 0, _, _, _, _, _, _, _ => none
  | f + 1, a1, a2, a3, a4, a5, a6, I => if a1 ≤ a6 then (if a5 = 0 then (k71 a1 (a2 + 0) a3 (a4 + 1) I) else (k71 a1 (a2 + 1) a3 (a4 + 1) I)) else (if a5 = 0 then (if a5 = 0 then (k71 a1 (a2 + 0) a3 (a4 + 1) I) else (k71 a1 (a2 + 1) a3 (a4 + 1) I)) else (if ix ((8 * a3) + a6) 2048 then (if ix ((8 * a4) + a6) 2048 then (if ((I (13) ((8 * a3) + a6).toNatClampNeg) + (I (13) ((8 * a4) + a6).toNatClampNeg)) = 0 then (f_X4_pairs_85 k61 k71 f a1 a2 a3 a4 1 (a6 + 1) I) else (f_X4_pairs_85 k61 k71 f a1 a2 a3 a4 0 (a6 + 1) I)) else none) else none))
def f_X4_pairs_71 (k61 : Int32 → Int32 → Int32 → zMi → Option (Int32 × zMi)) : Nat → Int32 → Int32 → Int32 → Int32 → zMi → Option (Int32 × zMi)
  | 0, _, _, _, _, _ => none
  | f + 1, a1, a2, a3, a4, I => if ((1 : Int32) <<< (a1 &&& 31)) ≤ a4 then (k61 a1 a2 (a3 + 1) I) else (f_X4_pairs_85 k61 (f_X4_pairs_71 k61 f) fu a1 a2 a3 a4 1 1 I)
def f_X4_pairs_61 : Nat → Int32 → Int32 → Int32 → zMi → Option (Int32 × zMi)
  | 0, _, _, _, _ => none
  | f + 1, a1, a2, a3, I => if ((1 : Int32) <<< (a1 &&& 31)) ≤ a3 then (some (a2, I)) else (f_X4_pairs_71 (f_X4_pairs_61 f) fu a1 a2 a3 0 I)
def f_X4_pairs_23 (k14 : Int32 → Int32 → zMi → Option (Int32 × zMi)) : Nat → Int32 → Int32 → Int32 → zMi → Option (Int32 × zMi)
  | 0, _, _, _, _ => none
  | f + 1, a1, a2, a3, I => if a1 ≤ a3 then (k14 a1 (a2 + 1) I) else ((f_X4_echoOf a2 a1 a3).bind (fun x2 => if ix ((8 * a2) + a3) 2048 then (f_X4_pairs_23 k14 f a1 a2 (a3 + 1) (wI I (13) ((8 * a2) + a3).toNatClampNeg x2)) else none))
def f_X4_pairs_14 : Nat → Int32 → Int32 → zMi → Option (Int32 × zMi)
  | 0, _, _, _ => none
  | f + 1, a1, a2, I => if ((1 : Int32) <<< (a1 &&& 31)) ≤ a2 then (f_X4_pairs_61 fu a1 0 0 I) else (f_X4_pairs_23 (f_X4_pairs_14 f) fu a1 a2 1 I)
def f_X4_pairs (a1 : Int32) (I : zMi) : Option (Int32 × zMi) :=
  if (f_X4_in a1 1 8) = 0 then (some ((-1), I)) else (f_X4_pairs_14 fu a1 0 I)
def rmX4_pairs : Room := { frames := 2, cells := 0, slots := 0, locals := 45 }
def f_X4_leastSide_116 : Nat → Int32 → Int32 → Int32 → Int32 → Int32 → zMi → Option (Int32 × zMi)
  | 0, _, _, _, _, _, _ => none
  | f + 1, a1, a2, a3, a4, a5, I => if a1 ≤ a5 then (some (a4, I)) else (if ix ((24 * a2) + a5) 144 then (f_X4_leastSide_116 f a1 a2 a3 a4 (a5 + 1) (wI I (3) ((24 * a2) + a5).toNatClampNeg (f_X4_sign a3 a5))) else none)
def f_X4_leastSide_42 (k28 : Int32 → Int32 → Int32 → Int32 → Int32 → zMi → Option (Int32 × zMi)) : Nat → Int32 → Int32 → Int32 → Int32 → Int32 → Int32 → Int32 → zMi → Option (Int32 × zMi)
  | 0, _, _, _, _, _, _, _, _ => none
  | f + 1, a1, a2, a3, a4, a5, a6, a7, I => if a1 ≤ a7 then (if a3 < 0 then (k28 a1 a2 a5 a6 (a5 + 1) I) else (if a4 ≤ a6 then (k28 a1 a2 a3 a4 (a5 + 1) I) else (k28 a1 a2 a5 a6 (a5 + 1) I))) else ((f_X4_echoOf a5 a1 a7).bind (fun x4 => if (f_X4_abs x4) ≤ a6 then (f_X4_leastSide_42 k28 f a1 a2 a3 a4 a5 a6 (a7 + 1) I) else (f_X4_leastSide_42 k28 f a1 a2 a3 a4 a5 (f_X4_abs x4) (a7 + 1) I)))
def f_X4_leastSide_28 : Nat → Int32 → Int32 → Int32 → Int32 → Int32 → zMi → Option (Int32 × zMi)
  | 0, _, _, _, _, _, _ => none
  | f + 1, a1, a2, a3, a4, a5, I => if ((1 : Int32) <<< (a1 &&& 31)) ≤ a5 then ((f_X4_begin a2 a1 I).bind (fun x2 => f_X4_leastSide_116 fu a1 a2 a3 a4 0 x2)) else (f_X4_leastSide_42 (f_X4_leastSide_28 f) fu a1 a2 a3 a4 a5 0 1 I)
def f_X4_leastSide (a1 : Int32) (a2 : Int32) (I : zMi) : Option (Int32 × zMi) :=
  if (f_X4_in a1 1 12) = 0 then (some ((-1), I)) else (if (f_X4_isRow a2) = 0 then (some ((-1), I)) else (f_X4_leastSide_28 fu a1 a2 (-9) 0 0 I))
def rmX4_leastSide : Room := { frames := 2, cells := 0, slots := 0, locals := 45 }
def f_X4_longer_141 : Nat → Int32 → Int32 → Int32 → Int32 → zMi → Option (Int32 × zMi)
  | 0, _, _, _, _, _ => none
  | f + 1, a3, a4, a6, a7, I => if (2 * a6) ≤ a7 then (some ((2 * a6), I)) else (if ix a7 24 then (if ix ((24 * a3) + a7) 144 then (if a6 ≤ a7 then (if ix ((24 * a4) + a7) 144 then (f_X4_longer_141 f a3 a4 a6 (a7 + 1) (wI (wI I (3) ((24 * a3) + a7).toNatClampNeg (I (4) a7.toNatClampNeg)) (3) ((24 * a4) + a7).toNatClampNeg (-((wI I (3) ((24 * a3) + a7).toNatClampNeg (I (4) a7.toNatClampNeg)) (4) a7.toNatClampNeg)))) else none) else (if ix ((24 * a4) + a7) 144 then (f_X4_longer_141 f a3 a4 a6 (a7 + 1) (wI (wI I (3) ((24 * a3) + a7).toNatClampNeg (I (4) a7.toNatClampNeg)) (3) ((24 * a4) + a7).toNatClampNeg ((wI I (3) ((24 * a3) + a7).toNatClampNeg (I (4) a7.toNatClampNeg)) (4) a7.toNatClampNeg))) else none)) else none) else none)
def f_X4_longer_65 : Nat → Int32 → Int32 → Int32 → Int32 → Int32 → Int32 → zMi → Option (Int32 × zMi)
  | 0, _, _, _, _, _, _, _ => none
  | f + 1, a1, a2, a3, a4, a6, a7, I => if a6 ≤ a7 then ((f_X4_begin a3 (2 * a6) I).bind (fun x2 => (f_X4_begin a4 (2 * a6) x2).bind (fun x3 => f_X4_longer_141 fu a3 a4 a6 0 x3))) else (if ix ((24 * a1) + a7) 144 then (if ix a7 24 then (if ix ((24 * a2) + a7) 144 then (if ix (a6 + a7) 24 then (f_X4_longer_65 f a1 a2 a3 a4 a6 (a7 + 1) (wI (wI I (4) a7.toNatClampNeg (I (3) ((24 * a1) + a7).toNatClampNeg)) (4) (a6 + a7).toNatClampNeg ((wI I (4) a7.toNatClampNeg (I (3) ((24 * a1) + a7).toNatClampNeg)) (3) ((24 * a2) + a7).toNatClampNeg))) else none) else none) else none) else none)
def f_X4_longer (a1 : Int32) (a2 : Int32) (a3 : Int32) (a4 : Int32) (I : zMi) : Option (Int32 × zMi) :=
  if (f_X4_isRow a3) = 0 then (some ((-1), I)) else (if (f_X4_isRow a4) = 0 then (some ((-1), I)) else (if a3 = a4 then (some ((-1), I)) else ((f_X4_askedPair a1 a2 12 I).bind (fun x4 => if 0 ≤ x4.1 then ((f_X4_areZero a1 a2 0 x4.2).bind (fun x6 => if x6 = 0 then (some ((-4), x4.2)) else (if ix a1 6 then (f_X4_longer_65 fu a1 a2 a3 a4 (x4.2 (2) a1.toNatClampNeg) 0 x4.2) else none))) else (some (x4.1, x4.2))))))
def rmX4_longer : Room := { frames := 3, cells := 0, slots := 0, locals := 66 }
def f_X4_askedGraph (a1 : Int32) (I : zMi) : Option (Int32 × zMi) :=
  (f_X4_askedTable a1 I).bind (fun x1 => if x1.1 < 0 then (some (x1.1, x1.2)) else ((f_X4_is a1 3 x1.2).bind (fun x3 => if x3 = 0 then ((f_X4_meets 3 x1.2).bind (fun x5 => some (x5.1, x5.2))) else (some (x1.1, x1.2)))))
def rmX4_askedGraph : Room := { frames := 3, cells := 0, slots := 0, locals := 63 }
def f_X4_switched_30 : Nat → Int32 → Int32 → Int32 → zMi → Option (Int32 × zMi)
  | 0, _, _, _, _ => none
  | f + 1, a1, a2, a4, I => if ix a1 10 then (if (I (5) a1.toNatClampNeg) ≤ a4 then ((f_X4_setKind a1 I).bind (fun x3 => some (x3.1, x3.2))) else (if ((a2 >>> (a4 &&& 31)) &&& 1) = 1 then ((f_X4_turnRow a1 a4 I).bind (fun x5 => (f_X4_turnColumn a1 a4 x5).bind (fun x6 => f_X4_switched_30 f a1 a2 (a4 + 1) x6))) else (f_X4_switched_30 f a1 a2 (a4 + 1) I))) else none
def f_X4_switched (a1 : Int32) (a2 : Int32) (I : zMi) : Option (Int32 × zMi) :=
  (f_X4_askedGraph a1 I).bind (fun x1 => if 0 ≤ x1.1 then ((f_X4_isSet a1 a2 x1.2).bind (fun x3 => if x3 = 0 then ((f_X4_meets 2 x1.2).bind (fun x5 => some (x5.1, x5.2))) else (f_X4_switched_30 fu a1 a2 0 x1.2))) else (some (x1.1, x1.2)))
def rmX4_switched : Room := { frames := 5, cells := 0, slots := 0, locals := 119 }
def f_X4_oddAt (a1 : Int32) (a2 : Int32) (a3 : Int32) (a4 : Int32) (I : zMi) : Option Int32 :=
  (f_X4_get a1 a2 a3 I).bind (fun x1 => (f_X4_get a1 a2 a4 I).bind (fun x2 => (f_X4_get a1 a3 a4 I).bind (fun x3 => some ((x1 * x2) * x3))))
def rmX4_oddAt : Room := { frames := 1, cells := 0, slots := 0, locals := 23 }
def f_X4_odd_41 (k17 : Int32 → Int32 → Int32 → zMi → Option (Int32 × zMi)) (k31 : Int32 → Int32 → Int32 → Int32 → zMi → Option (Int32 × zMi)) : Nat → Int32 → Int32 → Int32 → Int32 → Int32 → zMi → Option (Int32 × zMi)
  | 0, _, _, _, _, _, _ => none
  | f + 1, a1, a3, a4, a5, a6, I => if a5 ≤ a6 then (k31 a1 a3 a4 (a5 + 1) I) else ((f_X4_oddAt a1 a6 a5 a4 I).bind (fun x2 => if x2 = (-1) then (f_X4_odd_41 k17 k31 f a1 (a3 + 1) a4 a5 (a6 + 1) I) else (f_X4_odd_41 k17 k31 f a1 (a3 + 0) a4 a5 (a6 + 1) I)))
def f_X4_odd_31 (k17 : Int32 → Int32 → Int32 → zMi → Option (Int32 × zMi)) : Nat → Int32 → Int32 → Int32 → Int32 → zMi → Option (Int32 × zMi)
  | 0, _, _, _, _, _ => none
  | f + 1, a1, a3, a4, a5, I => if a4 ≤ a5 then (k17 a1 a3 (a4 + 1) I) else (f_X4_odd_41 k17 (f_X4_odd_31 k17 f) fu a1 a3 a4 a5 0 I)
def f_X4_odd_17 : Nat → Int32 → Int32 → Int32 → zMi → Option (Int32 × zMi)
  | 0, _, _, _, _ => none
  | f + 1, a1, a3, a4, I => if ix a1 10 then (if (I (5) a1.toNatClampNeg) ≤ a4 then (some (a3, I)) else (f_X4_odd_31 (f_X4_odd_17 f) fu a1 a3 a4 0 I)) else none
def f_X4_odd (a1 : Int32) (I : zMi) : Option (Int32 × zMi) :=
  (f_X4_askedGraph a1 I).bind (fun x1 => if 0 ≤ x1.1 then (f_X4_odd_17 fu a1 0 0 x1.2) else (some (x1.1, x1.2)))
def rmX4_odd : Room := { frames := 4, cells := 0, slots := 0, locals := 85 }
def f_X4_alike_141 (k87 : Int32 → Int32 → Int32 → Int32 → Int32 → zMi → Option (Int32 × zMi)) (k131 : Int32 → Int32 → Int32 → Int32 → Int32 → Int32 → zMi → Option (Int32 × zMi)) : Nat → Int32 → Int32 → Int32 → Int32 → Int32 → Int32 → Int32 → zMi → Option (Int32 × zMi)
  | 0, _, _, _, _, _, _, _, _ => none
  | f + 1, a1, a2, a3, a4, a5, a6, a7, I => if a6 ≤ a7 then (k131 a1 a2 a3 a4 a5 (a6 + 1) I) else (if a4 = 0 then (f_X4_alike_141 k87 k131 f a1 a2 a3 0 a5 a6 (a7 + 1) I) else ((f_X4_oddAt a1 a7 a6 a5 I).bind (fun x3 => (f_X4_oddAt a2 a7 a6 a5 I).bind (fun x4 => if x3 = x4 then (f_X4_alike_141 k87 k131 f a1 a2 a3 1 a5 a6 (a7 + 1) I) else (f_X4_alike_141 k87 k131 f a1 a2 a3 0 a5 a6 (a7 + 1) I)))))
def f_X4_alike_131 (k87 : Int32 → Int32 → Int32 → Int32 → Int32 → zMi → Option (Int32 × zMi)) : Nat → Int32 → Int32 → Int32 → Int32 → Int32 → Int32 → zMi → Option (Int32 × zMi)
  | 0, _, _, _, _, _, _, _ => none
  | f + 1, a1, a2, a3, a4, a5, a6, I => if a5 ≤ a6 then (k87 a1 a2 a3 a4 (a5 + 1) I) else (f_X4_alike_141 k87 (f_X4_alike_131 k87 f) fu a1 a2 a3 a4 a5 a6 0 I)
def f_X4_alike_87 : Nat → Int32 → Int32 → Int32 → Int32 → Int32 → zMi → Option (Int32 × zMi)
  | 0, _, _, _, _, _, _ => none
  | f + 1, a1, a2, a3, a4, a5, I => if ix a1 10 then (if (I (5) a1.toNatClampNeg) ≤ a5 then (if a4 = 0 then (some (0, I)) else (some ((f_X4_ask a3 1 I).1, (f_X4_ask a3 1 I).2))) else ((f_X4_get a1 0 a5 I).bind (fun x4 => (f_X4_get a2 0 a5 I).bind (fun x5 => if x4 = x5 then (f_X4_alike_131 (f_X4_alike_87 f) fu a1 a2 (a3 ||| 0) a4 a5 0 I) else (f_X4_alike_131 (f_X4_alike_87 f) fu a1 a2 (a3 ||| ((1 : Int32) <<< (a5 &&& 31))) a4 a5 0 I))))) else none
def f_X4_alike (a1 : Int32) (a2 : Int32) (I : zMi) : Option (Int32 × zMi) :=
  if (f_X4_isTable a1) = 0 then (some ((-1), I)) else (if (f_X4_isTable a2) = 0 then (some ((-1), I)) else (if ix a1 10 then (if (I (5) a1.toNatClampNeg) = 0 then ((f_X4_meets 1 I).bind (fun x5 => some (x5.1, x5.2))) else (if ix a2 10 then (if (I (5) a2.toNatClampNeg) = 0 then ((f_X4_meets 1 I).bind (fun x16 => some (x16.1, x16.2))) else ((f_X4_is a1 3 I).bind (fun x8 => if x8 = 0 then ((f_X4_meets 3 I).bind (fun x10 => some (x10.1, x10.2))) else ((f_X4_is a2 3 I).bind (fun x11 => if x11 = 0 then ((f_X4_meets 3 I).bind (fun x13 => some (x13.1, x13.2))) else (if (I (5) a1.toNatClampNeg) = (I (5) a2.toNatClampNeg) then (f_X4_alike_87 fu a1 a2 0 1 0 I) else ((f_X4_meets 3 I).bind (fun x15 => some (x15.1, x15.2))))))))) else none)) else none))
def rmX4_alike : Room := { frames := 2, cells := 0, slots := 0, locals := 47 }
def f_X4_fewest_54 (k21 : Int32 → Int32 → Int32 → Int32 → zMi → Option (Int32 × zMi)) (k40 : Int32 → Int32 → Int32 → Int32 → Int32 → Int32 → zMi → Option (Int32 × zMi)) : Nat → Int32 → Int32 → Int32 → Int32 → Int32 → Int32 → Int32 → zMi → Option (Int32 × zMi)
  | 0, _, _, _, _, _, _, _, _ => none
  | f + 1, a1, a3, a4, a5, a6, a7, a8, I => if a7 ≤ a8 then (k40 a1 a3 a4 a5 a6 (a7 + 1) I) else ((f_X4_get a1 a7 a8 I).bind (fun x2 => if ((x2 * (f_X4_sign a5 a7)) * (f_X4_sign a5 a8)) = (-1) then (f_X4_fewest_54 k21 k40 f a1 a3 a4 a5 (a6 + 1) a7 (a8 + 1) I) else (f_X4_fewest_54 k21 k40 f a1 a3 a4 a5 (a6 + 0) a7 (a8 + 1) I)))
def f_X4_fewest_40 (k21 : Int32 → Int32 → Int32 → Int32 → zMi → Option (Int32 × zMi)) : Nat → Int32 → Int32 → Int32 → Int32 → Int32 → Int32 → zMi → Option (Int32 × zMi)
  | 0, _, _, _, _, _, _, _ => none
  | f + 1, a1, a3, a4, a5, a6, a7, I => if ix a1 10 then (if (I (5) a1.toNatClampNeg) ≤ a7 then (if a3 < 0 then (k21 a1 a5 a6 (a5 + 2) I) else (if a4 ≤ a6 then (k21 a1 a3 a4 (a5 + 2) I) else (k21 a1 a5 a6 (a5 + 2) I))) else (f_X4_fewest_54 k21 (f_X4_fewest_40 k21 f) fu a1 a3 a4 a5 a6 a7 0 I)) else none
def f_X4_fewest_21 : Nat → Int32 → Int32 → Int32 → Int32 → zMi → Option (Int32 × zMi)
  | 0, _, _, _, _, _ => none
  | f + 1, a1, a3, a4, a5, I => if ix a1 10 then (if ((1 : Int32) <<< ((I (5) a1.toNatClampNeg) &&& 31)) ≤ a5 then (some ((f_X4_ask a3 a4 I).1, (f_X4_ask a3 a4 I).2)) else (f_X4_fewest_40 (f_X4_fewest_21 f) fu a1 a3 a4 a5 0 0 I)) else none
def f_X4_fewest (a1 : Int32) (I : zMi) : Option (Int32 × zMi) :=
  (f_X4_askedGraph a1 I).bind (fun x1 => if 0 ≤ x1.1 then (f_X4_fewest_21 fu a1 (-9) 0 0 x1.2) else (some (x1.1, x1.2)))
def rmX4_fewest : Room := { frames := 4, cells := 0, slots := 0, locals := 85 }
def f_X4_even (a1 : Int32) (a2 : Int32) (I : zMi) : Option (Int32 × zMi) :=
  if (f_X4_in a2 0 3) = 0 then (some ((-1), I)) else ((f_X4_askedTable a1 I).bind (fun x2 => if 0 ≤ x2.1 then (if ix a1 10 then (if (x2.2 (7) a1.toNatClampNeg) = 4 then (if a2 = 0 then (some ((x2.2 (5) a1.toNatClampNeg), x2.2)) else (if a2 = 1 then ((f_X4_neighbours a1 0 x2.2).bind (fun x11 => some (x11, x2.2))) else (if a2 = 2 then ((f_X4_commonOf a1 (-1) x2.2).bind (fun x10 => some (x10, x2.2))) else ((f_X4_commonOf a1 1 x2.2).bind (fun x9 => some (x9, x2.2)))))) else ((f_X4_meets 3 x2.2).bind (fun x12 => some (x12.1, x12.2)))) else none) else (some (x2.1, x2.2))))
def rmX4_even : Room := { frames := 3, cells := 0, slots := 0, locals := 74 }
def f_X4_setForm_217 (I : zMi) (k64 : Int32 → Int32 → Int64 → Int32 → zMl → Option zMl) (k208 : Int32 → Int32 → Int64 → Int32 → Int64 → Int32 → zMl → Option zMl) : Nat → Int32 → Int32 → Int64 → Int32 → Int64 → Int32 → Int32 → zMl → Option zMl
  | 0, _, _, _, _, _, _, _, _ => none
  | f + 1, a1, a2, a3, a5, a8, a10, a11, J => if a2 ≤ a11 then (k208 a1 a2 a3 a5 a8 (a10 + 1) J) else (if ix ((12 * a10) + a11) 144 then (if a10 = a11 then (f_X4_setForm_217 I k64 k208 f a1 a2 a3 a5 a8 a10 (a11 + 1) (wJ J (14) ((12 * a10) + a11).toNatClampNeg ((J (15) ((12 * a10) + a11).toNatClampNeg) + a8))) else (f_X4_setForm_217 I k64 k208 f a1 a2 a3 a5 a8 a10 (a11 + 1) (wJ J (14) ((12 * a10) + a11).toNatClampNeg ((J (15) ((12 * a10) + a11).toNatClampNeg) + 0)))) else none)
def f_X4_setForm_208 (I : zMi) (k64 : Int32 → Int32 → Int64 → Int32 → zMl → Option zMl) : Nat → Int32 → Int32 → Int64 → Int32 → Int64 → Int32 → zMl → Option zMl
  | 0, _, _, _, _, _, _, _ => none
  | f + 1, a1, a2, a3, a5, a8, a10, J => if a2 ≤ a10 then (k64 a1 a2 a3 (a5 + 1) J) else (f_X4_setForm_217 I k64 (f_X4_setForm_208 I k64 f) fu a1 a2 a3 a5 a8 a10 0 J)
def f_X4_setForm_97 (I : zMi) (k64 : Int32 → Int32 → Int64 → Int32 → zMl → Option zMl) (k76 : Int32 → Int32 → Int64 → Int32 → Int64 → Int32 → zMl → Option zMl) (k85 : Int32 → Int32 → Int64 → Int32 → Int64 → Int32 → Int32 → zMl → Option zMl) : Nat → Int32 → Int32 → Int64 → Int32 → Int64 → Int32 → Int32 → Int64 → Int32 → zMl → Option zMl
  | 0, _, _, _, _, _, _, _, _, _, _ => none
  | f + 1, a1, a2, a3, a5, a6, a8, a9, a10, a12, J => if a2 ≤ a12 then (if ix ((12 * a8) + a9) 144 then (if a8 = a9 then (k85 a1 a2 a3 a5 (a6 + a10) a8 (a9 + 1) (wJ J (15) ((12 * a8) + a9).toNatClampNeg a10)) else (k85 a1 a2 a3 a5 (a6 + 0) a8 (a9 + 1) (wJ J (15) ((12 * a8) + a9).toNatClampNeg a10))) else none) else ((f_X4_get a1 a8 a12 I).bind (fun x4 => if ix ((12 * a12) + a9) 144 then (f_X4_setForm_97 I k64 k76 k85 f a1 a2 a3 a5 a6 a8 a9 (a10 + ((x4.toInt64) * (J (14) ((12 * a12) + a9).toNatClampNeg))) (a12 + 1) J) else none))
def f_X4_setForm_85 (I : zMi) (k64 : Int32 → Int32 → Int64 → Int32 → zMl → Option zMl) (k76 : Int32 → Int32 → Int64 → Int32 → Int64 → Int32 → zMl → Option zMl) : Nat → Int32 → Int32 → Int64 → Int32 → Int64 → Int32 → Int32 → zMl → Option zMl
  | 0, _, _, _, _, _, _, _, _ => none
  | f + 1, a1, a2, a3, a5, a6, a8, a9, J => if a2 ≤ a9 then (k76 a1 a2 a3 a5 a6 (a8 + 1) J) else (f_X4_setForm_97 I k64 k76 (f_X4_setForm_85 I k64 k76 f) fu a1 a2 a3 a5 a6 a8 a9 0 0 J)
def f_X4_setForm_76 (I : zMi) (k64 : Int32 → Int32 → Int64 → Int32 → zMl → Option zMl) : Nat → Int32 → Int32 → Int64 → Int32 → Int64 → Int32 → zMl → Option zMl
  | 0, _, _, _, _, _, _, _ => none
  | f + 1, a1, a2, a3, a5, a6, a8, J => if a2 ≤ a8 then (if (a5.toInt64) = 0 then none else (if ix (a2 - a5) 13 then (f_X4_setForm_208 I k64 fu a1 a2 a3 a5 ((-a6) / (a5.toInt64)) 0 (wJ J (16) (a2 - a5).toNatClampNeg (a3 * ((-a6) / (a5.toInt64))))) else none)) else (f_X4_setForm_85 I k64 (f_X4_setForm_76 I k64 f) fu a1 a2 a3 a5 a6 a8 0 J)
def f_X4_setForm_64 (I : zMi) : Nat → Int32 → Int32 → Int64 → Int32 → zMl → Option zMl
  | 0, _, _, _, _, _ => none
  | f + 1, a1, a2, a3, a5, J => if a2 < a5 then (some J) else (f_X4_setForm_76 I (f_X4_setForm_64 I f) fu a1 a2 a3 a5 0 0 J)
def f_X4_setForm_9 (I : zMi) : Nat → Int32 → Int32 → Int32 → zMl → Option zMl
  | 0, _, _, _, _ => none
  | f + 1, a1, a2, a3, J => if 144 ≤ a3 then (if (a2 - a2 / 2 * 2) = 0 then (if ix a2 13 then (f_X4_setForm_64 I fu a1 a2 1 1 (wJ J (16) a2.toNatClampNeg 1)) else none) else (if ix a2 13 then (f_X4_setForm_64 I fu a1 a2 (-1) 1 (wJ J (16) a2.toNatClampNeg (-1))) else none)) else (if (a3 - a3 / 13 * 13) = 0 then (if ix a3 144 then (f_X4_setForm_9 I f a1 a2 (a3 + 1) (wJ J (14) a3.toNatClampNeg 1)) else none) else (if ix a3 144 then (f_X4_setForm_9 I f a1 a2 (a3 + 1) (wJ J (14) a3.toNatClampNeg 0)) else none))
def f_X4_setForm (a1 : Int32) (I : zMi) (J : zMl) : Option zMl :=
  if ix a1 10 then (f_X4_setForm_9 I fu a1 (I (5) a1.toNatClampNeg) 0 J) else none
def rmX4_setForm : Room := { frames := 1, cells := 0, slots := 0, locals := 23 }
def f_X4_divides_60 : Nat → Int32 → Int32 → zMl → Option (Int32 × zMl)
  | 0, _, _, _ => none
  | f + 1, a1, a5, J => if a1 ≤ a5 then (some (1, J)) else (if ix a5 13 then (f_X4_divides_60 f a1 (a5 + 1) (wJ J (16) a5.toNatClampNeg (J (17) a5.toNatClampNeg))) else none)
def f_X4_divides_5 : Nat → Int32 → Int32 → Int64 → Int32 → zMl → Option (Int32 × zMl)
  | 0, _, _, _, _, _ => none
  | f + 1, a1, a2, a3, a5, J => if a5 ≤ 0 then (if (lg_cmp ((J (16) (0 : Int32).toNatClampNeg) + (a3 * (a2.toInt64))) 0) = 0 then (f_X4_divides_60 fu a1 0 J) else (some (0, J))) else (if ix a5 13 then (if ix (a5 - 1) 13 then (f_X4_divides_5 f a1 a2 ((J (16) a5.toNatClampNeg) + (a3 * (a2.toInt64))) (a5 + (-1)) (wJ J (17) (a5 - 1).toNatClampNeg ((J (16) a5.toNatClampNeg) + (a3 * (a2.toInt64))))) else none) else none)
def f_X4_divides (a1 : Int32) (a2 : Int32) (J : zMl) : Option (Int32 × zMl) :=
  f_X4_divides_5 fu a1 a2 0 a1 J
def rmX4_divides : Room := { frames := 0, cells := 0, slots := 0, locals := 0 }
def f_X4_own_41 : Nat → Int32 → Int32 → Int32 → zMi → zMl → Option (Int32 × zMi × zMl)
  | 0, _, _, _, _, _ => none
  | f + 1, a2, a4, a5, I, J => if a4 ≤ 0 then (some (a5, I, J)) else ((f_X4_divides a4 a2 J).bind (fun x2 => if x2.1 = 0 then (some (a5, I, x2.2)) else (f_X4_own_41 f a2 (a4 + (-1)) (a5 + 1) I x2.2)))
def f_X4_own (a1 : Int32) (a2 : Int32) (I : zMi) (J : zMl) : Option (Int32 × zMi × zMl) :=
  if (f_X4_in a2 (-12) 12) = 0 then (some ((-1), I, J)) else ((f_X4_askedTable a1 I).bind (fun x2 => if 0 ≤ x2.1 then ((f_X4_setForm a1 x2.2 J).bind (fun x4 => if ix a1 10 then (f_X4_own_41 fu a2 (x2.2 (5) a1.toNatClampNeg) 0 x2.2 x4) else none)) else (some (x2.1, x2.2, J))))
def rmX4_own : Room := { frames := 3, cells := 0, slots := 0, locals := 63 }
def f_X4_form (a1 : Int32) (a2 : Int32) (I : zMi) (J : zMl) : Option (Int32 × zMi × zMl) :=
  if 0 ≤ a2 then ((f_X4_askedTable a1 I).bind (fun x2 => if 0 ≤ x2.1 then (if ix a1 10 then (if a2 ≤ (x2.2 (5) a1.toNatClampNeg) then ((f_X4_setForm a1 x2.2 J).bind (fun x6 => if ix a2 13 then (some (1, x2.2, (wJ x6 (0) 3 (x6 (16) a2.toNatClampNeg)))) else none)) else ((f_X4_meets 2 x2.2).bind (fun x8 => some (x8.1, x8.2, J)))) else none) else (some (x2.1, x2.2, J)))) else (some ((-1), I, J))
def rmX4_form : Room := { frames := 3, cells := 0, slots := 0, locals := 63 }
def f_X4_weight_60 : Nat → Int32 → Int32 → Int64 → Int64 → zMi → zMl → Option (Int32 × zMi × zMl)
  | 0, _, _, _, _, _, _ => none
  | f + 1, a1, a3, a4, a6, I, J => if (lg_cmp a6 0) = 0 then (if a4 = 0 then none else (if ix a1 10 then (some (1, I, (wJ (wJ J (0) 4 ((a3.toInt64) / a4)) (0) 5 (((I (5) a1.toNatClampNeg).toInt64) / a4)))) else none)) else (if a6 = 0 then none else (f_X4_weight_60 f a1 a3 a6 (a4 - a4 / a6 * a6) I J))
def f_X4_weight_17 : Nat → Int32 → Int32 → Int32 → zMi → zMl → Option (Int32 × zMi × zMl)
  | 0, _, _, _, _, _ => none
  | f + 1, a1, a3, a4, I, J => if ix a1 10 then (if (I (5) a1.toNatClampNeg) ≤ a4 then (f_X4_weight_60 fu a1 a3 ((f_X4_abs a3).toInt64) ((I (5) a1.toNatClampNeg).toInt64) I J) else ((f_X4_rowSum a1 a4 I).bind (fun x3 => f_X4_weight_17 f a1 (a3 + x3) (a4 + 1) I J))) else none
def f_X4_weight (a1 : Int32) (I : zMi) (J : zMl) : Option (Int32 × zMi × zMl) :=
  (f_X4_askedTable a1 I).bind (fun x1 => if 0 ≤ x1.1 then (f_X4_weight_17 fu a1 0 0 x1.2 J) else (some (x1.1, x1.2, J)))
def rmX4_weight : Room := { frames := 3, cells := 0, slots := 0, locals := 63 }
def f_X4_worthTold (J : zMl) : Int64 :=
  (J (0) 3)
def rmX4_worthTold : Room := { frames := 0, cells := 0, slots := 0, locals := 0 }
def f_X4_asked (I : zMi) : Int32 :=
  (I (0) 2)
def rmX4_asked : Room := { frames := 0, cells := 0, slots := 0, locals := 0 }
def f_X4_upper (J : zMl) : Int64 :=
  (J (0) 4)
def rmX4_upper : Room := { frames := 0, cells := 0, slots := 0, locals := 0 }
def f_X4_lower (J : zMl) : Int64 :=
  (J (0) 5)
def rmX4_lower : Room := { frames := 0, cells := 0, slots := 0, locals := 0 }
def f_X4_count_86 (I : zMi) (k39 : Int32 → Int32 → Int32 → Option Int32) (a1 : Int32) (a3 : Int32) (s0 : Int32) : Option Int32 :=
  if a1 = 3 then ((f_X4_is a3 3 I).bind (fun x2 => if x2 = 0 then (k39 a1 (s0 + 0) (a3 + 1)) else (k39 a1 (s0 + 1) (a3 + 1)))) else (k39 a1 (s0 + 0) (a3 + 1))
def f_X4_count_59 (I : zMi) (k39 : Int32 → Int32 → Int32 → Option Int32) (a1 : Int32) (a2 : Int32) (a3 : Int32) (s0 : Int32) : Option Int32 :=
  if s0 = 0 then (k39 a1 (a2 + 0) (a3 + 1)) else (if a1 = 1 then (k39 a1 (a2 + 1) (a3 + 1)) else (if a1 = 2 then ((f_X4_is a3 1 I).bind (fun x4 => if x4 = 0 then (f_X4_count_86 I k39 a1 a3 a2) else (k39 a1 (a2 + 1) (a3 + 1)))) else (f_X4_count_86 I k39 a1 a3 a2)))
def f_X4_count_39 (I : zMi) : Nat → Int32 → Int32 → Int32 → Option Int32
  | 0, _, _, _ => none
  | f + 1, a1, a2, a3 => if 10 ≤ a3 then (if (f_X4_in a1 0 3) = 0 then (some (-1)) else (some a2)) else (if ix a3 10 then (if (I (5) a3.toNatClampNeg) ≤ 0 then (f_X4_count_59 I (f_X4_count_39 I f) a1 a2 a3 0) else (f_X4_count_59 I (f_X4_count_39 I f) a1 a2 a3 1)) else none)
def f_X4_count_4 (I : zMi) : Nat → Int32 → Int32 → Int32 → Option Int32
  | 0, _, _, _ => none
  | f + 1, a1, a2, a3 => if 6 ≤ a3 then (f_X4_count_39 I fu a1 a2 0) else (if a1 = 0 then (if ix a3 6 then (if (I (2) a3.toNatClampNeg) < 0 then (f_X4_count_4 I f a1 (a2 + 0) (a3 + 1)) else (f_X4_count_4 I f a1 (a2 + 1) (a3 + 1))) else none) else (f_X4_count_4 I f a1 (a2 + 0) (a3 + 1)))
def f_X4_count (a1 : Int32) (I : zMi) : Option Int32 :=
  f_X4_count_4 I fu a1 0 0
def rmX4_count : Room := { frames := 1, cells := 0, slots := 0, locals := 22 }
def f_X4_finding (I : zMi) : Int32 :=
  (I (0) 0)
def rmX4_finding : Room := { frames := 0, cells := 0, slots := 0, locals := 0 }
def f_X4_findings (a1 : Int32) (I : zMi) : Option Int32 :=
  if (f_X4_in a1 1 5) = 0 then (some (-1)) else (if ix a1 6 then (some (I (1) a1.toNatClampNeg)) else none)
def rmX4_findings : Room := { frames := 1, cells := 0, slots := 0, locals := 22 }
def f_X4_mix (a1 : Int32) (J : zMl) : zMl :=
  (wJ J (0) 22 ((31 * (J (0) 22)) + (a1.toInt64)))
def rmX4_mix : Room := { frames := 0, cells := 0, slots := 0, locals := 0 }
def f_X4_digest_138 (I : zMi) (k107 : Int32 → zMl → Option (Int64 × zMl)) : Nat → Int32 → Int32 → zMl → Option (Int64 × zMl)
  | 0, _, _, _ => none
  | f + 1, a1, a2, J => if ix a1 6 then (if (I (2) a1.toNatClampNeg) ≤ a2 then (k107 (a1 + 1) J) else (if ix ((24 * a1) + a2) 144 then (f_X4_digest_138 I k107 f a1 (a2 + 1) (f_X4_mix (I (3) ((24 * a1) + a2).toNatClampNeg) J)) else none)) else none
def f_X4_digest_107 (I : zMi) : Nat → Int32 → zMl → Option (Int64 × zMl)
  | 0, _, _ => none
  | f + 1, a1, J => if 6 ≤ a1 then (some ((J (0) 22), J)) else (if ix a1 6 then (if 0 ≤ (I (2) a1.toNatClampNeg) then (f_X4_digest_138 I (f_X4_digest_107 I f) fu a1 0 (f_X4_mix (I (2) a1.toNatClampNeg) J)) else (f_X4_digest_138 I (f_X4_digest_107 I f) fu a1 0 (f_X4_mix (-1) J))) else none)
def f_X4_digest_66 (I : zMi) (k9 : Int32 → zMl → Option (Int64 × zMl)) (k54 : Int32 → Int32 → zMl → Option (Int64 × zMl)) : Nat → Int32 → Int32 → Int32 → zMl → Option (Int64 × zMl)
  | 0, _, _, _, _ => none
  | f + 1, a1, a2, a3, J => if ix a1 10 then (if (I (5) a1.toNatClampNeg) ≤ a3 then (k54 a1 (a2 + 1) J) else ((f_X4_get a1 a2 a3 I).bind (fun x3 => f_X4_digest_66 I k9 k54 f a1 a2 (a3 + 1) (f_X4_mix x3 J)))) else none
def f_X4_digest_54 (I : zMi) (k9 : Int32 → zMl → Option (Int64 × zMl)) : Nat → Int32 → Int32 → zMl → Option (Int64 × zMl)
  | 0, _, _, _ => none
  | f + 1, a1, a2, J => if ix a1 10 then (if (I (5) a1.toNatClampNeg) ≤ a2 then (k9 (a1 + 1) J) else (f_X4_digest_66 I k9 (f_X4_digest_54 I k9 f) fu a1 a2 0 J)) else none
def f_X4_digest_9 (I : zMi) : Nat → Int32 → zMl → Option (Int64 × zMl)
  | 0, _, _ => none
  | f + 1, a1, J => if 10 ≤ a1 then (f_X4_digest_107 I fu 0 J) else (if ix a1 10 then (if (I (5) a1.toNatClampNeg) = 0 then (f_X4_digest_9 I f (a1 + 1) (f_X4_mix (-1) J)) else (f_X4_digest_54 I (f_X4_digest_9 I f) fu a1 0 (f_X4_mix (I (5) a1.toNatClampNeg) (f_X4_mix (I (7) a1.toNatClampNeg) J)))) else none)
def f_X4_digest (I : zMi) (J : zMl) : Option (Int64 × zMl) :=
  f_X4_digest_9 I fu 0 (wJ J (0) 22 17)
def rmX4_digest : Room := { frames := 1, cells := 0, slots := 0, locals := 23 }
