def f_LA_begin (μ : Mem) (o : Nat) (x1 : Int64) (x3 : Int32) (x4 : Int32) : Mem :=
  (sI (sI (sI (sI (sI (sI (sI (sJ μ (28 + o) 0 x1) (28 + o) 1 (-3)) (28 + o) 2 (-3)) (28 + o) 3 (if x4 < x3 then x4 else x3)) (28 + o) 4 (if x3 < x4 then x4 else x3)) (28 + o) 5 0) (28 + o) 6 0) (28 + o) 7 0)
def f_LA_isDouble (μ : Mem) (o : Nat) : Int32 :=
  if (μ.1 (28 + o) 3) = (-3) then (0) else (1)
def f_LA_isFull (μ : Mem) (o : Nat) : Int32 :=
  if (μ.1 (28 + o) 6) = 0 then (0) else (if (μ.1 (28 + o) 7) = (μ.1 (28 + o) 5) then (1) else (0))
def f_LA_spillAt (μ : Mem) (o : Nat) (x1 : Int32) (x2 : Int32) : Mem :=
  (sI (sI μ (28 + o) 1 x1) (28 + o) 2 x2)
def f_LA_appear (μ : Mem) (o : Nat) (x1 : Int32) : Mem :=
  (sI (sI μ (28 + o) 6 1) (28 + o) 7 x1)
def f_LA_vanish (μ : Mem) (o : Nat) : Mem :=
  (sI (sI μ (28 + o) 6 0) (28 + o) 7 0)
def f_LK_isLake (μ : Mem) (x1 : Int32) : Int32 :=
  if x1 < 0 then (0) else (if (μ.1 26 1) ≤ x1 then (0) else (1))
def f_RE_isField (μ : Mem) (x1 : Int32) : Int32 :=
  if x1 < 0 then (0) else (if (μ.1 18 8) ≤ x1 then (0) else (1))
def f_LR_isIn (x0 : Int64) (x2 : Int32) : Int32 :=
  if (lg_cmp ((x0.toUInt64 >>> (x2.toInt64.toUInt64 &&& Int64.toUInt64 63)).toInt64 &&& 1) 0) = 0 then (0) else (1)
def f_RE_isLand (μ : Mem) (x1 : Int32) : Int32 :=
  if (f_RE_isField μ x1) = 0 then (0) else (if (f_LR_isIn (μ.2 18 10) x1) = 0 then (0) else (1))
def f_LK_isLevelOf (μ : Mem) (x1 : Int32) (x2 : Int32) : Option (Int32) :=
  if (f_LK_isLake μ x1) = 0 then (some 0) else (G x1 35 (if (f_RE_isLand μ (μ.1 (28 + x1.toNatClampNeg) 1)) = 0 then (some 0) else (if x2 < (-1000000) then (some 0) else (G x1 35 (G (μ.1 (28 + x1.toNatClampNeg) 1) 64 (if (μ.1 19 (μ.1 (28 + x1.toNatClampNeg) 1).toNatClampNeg) < x2 then (some 0) else (some 1)))))))
def f_RE_beside (μ : Mem) (x1 : Int32) (x2 : Int32) : Option (Int32) :=
  if (f_RE_isField μ x1) = 0 then (some (-5)) else (G ((4 * x1) + x2) 256 (some (μ.1 24 ((4 * x1) + x2).toNatClampNeg)))
def f_LK_topWith_L2 (μ : Mem) (y1 : Int32) (K : Unit → Option (Int32)) : Nat → Int32 → Option (Int32)
  | 0, _ => none
  | n + 1, y2 =>
  if (μ.1 26 1) ≤ y2 then (K ()) else (G y2 35 (if (μ.1 (28 + y2.toNatClampNeg) 2) = (-3) then (if y1 = (-5) then (f_LK_topWith_L2 μ y1 K n (y2 + 1)) else (G y2 35 (if (f_LR_isIn (μ.2 (28 + y2.toNatClampNeg) 0) y1) = 0 then (f_LK_topWith_L2 μ y1 K n (y2 + 1)) else (some y2)))) else (f_LK_topWith_L2 μ y1 K n (y2 + 1))))
def f_LK_topWith (μ : Mem) (x1 : Int32) : Option (Int32) :=
  f_LK_topWith_L2 μ x1 (fun _ => some (-3)) FU 0
def f_LR_only (x0 : Int32) : Int64 :=
  ((1 : Int64) <<< (x0.toInt64 &&& 63))
def f_LK_topsBeside_L5 (μ : Mem) (y1 : Int32) : Nat → Int64 → Int32 → Option (Int64)
  | 0, _, _ => none
  | n + 1, y2, y4 =>
  if 4 ≤ y4 then (some y2) else ((f_RE_beside μ y1 y4).bind fun v1 => (f_LK_topWith μ v1).bind fun v2 => (if v2 = (-3) then (some y2) else (some (y2 ||| (f_LR_only v2)))).bind fun v3 => f_LK_topsBeside_L5 μ y1 n v3 (y4 + 1))
def f_LK_topsBeside (μ : Mem) (x1 : Int32) : Option (Int64) :=
  (f_LK_topsBeside_L5 μ x1 FU 0 0).bind fun v4 => some v4
def f_RE_isBesideSea_L2 (μ : Mem) (y1 : Int32) (K : Unit → Option (Int32)) : Nat → Int32 → Option (Int32)
  | 0, _ => none
  | n + 1, y2 =>
  if 4 ≤ y2 then (K ()) else ((f_RE_beside μ y1 y2).bind fun v1 => if v1 = (-5) then (some 1) else (f_RE_isBesideSea_L2 μ y1 K n (y2 + 1)))
def f_RE_isBesideSea (μ : Mem) (x1 : Int32) : Option (Int32) :=
  f_RE_isBesideSea_L2 μ x1 (fun _ => some 0) FU 0
def f_RE_isLower (μ : Mem) (x1 : Int32) (x2 : Int32) : Option (Int32) :=
  G x1 64 (G x2 64 (if (μ.1 19 x1.toNatClampNeg) < (μ.1 19 x2.toNatClampNeg) then (some 1) else (G x1 64 (G x2 64 (if (μ.1 19 x1.toNatClampNeg) = (μ.1 19 x2.toNatClampNeg) then (if x2 ≤ x1 then (some 0) else (some 1)) else (some 0))))))
def f_RE_lowestBeside_L7 (μ : Mem) (y1 : Int32) (y2 : Int64) : Nat → Int32 → Int32 → Option (Int32)
  | 0, _, _ => none
  | n + 1, y4, y5 =>
  if 4 ≤ y5 then (some y4) else ((f_RE_beside μ y1 y5).bind fun v1 => (if v1 = (-5) then (some y4) else (if (f_LR_isIn y2 v1) = 0 then (some y4) else (if y4 = (-3) then (some v1) else ((f_RE_isLower μ v1 y4).bind fun v3 => if v3 = 0 then (some y4) else (some v1))))).bind fun v2 => f_RE_lowestBeside_L7 μ y1 y2 n v2 (y5 + 1))
def f_RE_lowestBeside (μ : Mem) (x1 : Int32) (x2 : Int64) : Option (Int32) :=
  (f_RE_lowestBeside_L7 μ x1 x2 FU (-3) 0).bind fun v4 => some v4
def f_LK_isBesideSeas (μ : Mem) (x1 : Int32) : Option (Int32) :=
  (f_RE_isBesideSea μ x1).bind fun v1 => if v1 = 0 then ((f_RE_lowestBeside μ x1 (μ.2 26 5)).bind fun v2 => if v2 = (-3) then (some 0) else (some 1)) else (some 1)
def f_LK_spillToSea_L16 (y1 : Int64) (y3 : Int32) : Nat → Mem → Int32 → Option (Mem)
  | 0, _, _ => none
  | n + 1, μ, y4 =>
  if (μ.1 26 1) ≤ y4 then (some μ) else ((if (f_LR_isIn y1 y4) = 0 then (some μ) else (G y4 35 (G y4 35 (some (sJ (f_LA_spillAt μ y4.toNatClampNeg y3 (-5)) 26 5 (((f_LA_spillAt μ y4.toNatClampNeg y3 (-5)).2 26 5) ||| ((f_LA_spillAt μ y4.toNatClampNeg y3 (-5)).2 (28 + y4.toNatClampNeg) 0))))))).bind fun v1 => f_LK_spillToSea_L16 y1 y3 n v1 (y4 + 1))
def f_LK_spillToSea (μ : Mem) (x1 : Int64) (x3 : Int32) : Option (Mem) :=
  (f_LK_spillToSea_L16 x1 x3 FU (sJ μ 26 5 ((μ.2 26 5) ||| (f_LR_only x3))) 0).bind fun v4 => some v4
def f_LK_make (μ : Mem) (x1 : Int64) (x3 : Int32) (x4 : Int32) : Option (Int32 × Mem) :=
  if (μ.1 26 1) < 35 then (G (μ.1 26 1) 35 (some ((μ.1 26 1), (sI (f_LA_begin μ ((μ.1 26 1).toNatClampNeg) x1 x3 x4) 26 1 (((f_LA_begin μ ((μ.1 26 1).toNatClampNeg) x1 x3 x4).1 26 1) + 1))))) else (some ((-3), μ))
def f_LK_makeDouble (μ : Mem) (x1 : Int32) (x2 : Int32) (x3 : Int32) : Option (Int32 × Mem) :=
  if (f_LK_isLake μ x1) = 0 then (some ((-3), μ)) else (if (f_LK_isLake μ x2) = 0 then (some ((-3), μ)) else (G x1 35 (G x2 35 ((f_LK_make μ ((μ.2 (28 + x1.toNatClampNeg) 0) ||| (μ.2 (28 + x2.toNatClampNeg) 0)) x1 x2).bind fun v3 => G x1 35 (G x2 35 (some (v3.1, (f_LA_spillAt (f_LA_spillAt v3.2 x1.toNatClampNeg x3 v3.1) x2.toNatClampNeg x3 v3.1))))))))
def f_LK_joinAt_L13 (y1 : Int64) (y3 : Int32) (y5 : Int32) : Nat → Mem → Int32 → Int32 → Option (Int32 × Mem)
  | 0, _, _, _ => none
  | n + 1, μ, y4, y6 =>
  if y5 ≤ y6 then (some (y4, μ)) else ((if (f_LR_isIn y1 y6) = 0 then (some (y4, μ)) else ((if y4 = (-3) then (some (y6, μ)) else ((f_LK_makeDouble μ y4 y6 y3).bind fun v3 => some (v3.1, v3.2))).bind fun v2 => some (v2.1, v2.2))).bind fun v1 => f_LK_joinAt_L13 y1 y3 y5 n v1.2 v1.1 (y6 + 1))
def f_LK_joinAt (μ : Mem) (x1 : Int64) (x3 : Int32) : Option (Int32 × Mem) :=
  (f_LK_joinAt_L13 x1 x3 (μ.1 26 1) FU μ (-3) 0).bind fun v4 => some (v4.1, v4.2)
def f_LK_goUnder (μ : Mem) (x1 : Int32) : Option (Mem) :=
  (f_LK_topsBeside μ x1).bind fun v1 => (f_LK_isBesideSeas μ x1).bind fun v2 => if v2 = 0 then ((if (lg_cmp v1 0) = 0 then ((f_LK_make μ 0 (-3) (-3)).bind fun v5 => some (v5.1, v5.2)) else ((f_LK_joinAt μ v1 x1).bind fun v4 => some (v4.1, v4.2))).bind fun v3 => if (f_LK_isLake v3.2 v3.1) = 0 then (some v3.2) else (G v3.1 35 (some (sJ v3.2 (28 + v3.1.toNatClampNeg) 0 ((v3.2.2 (28 + v3.1.toNatClampNeg) 0) ||| (f_LR_only x1)))))) else ((f_LK_spillToSea μ v1 x1).bind fun v7 => some v7)
def f_RE_roomBelow_L6 (μ : Mem) (y1 : Int64) (y3 : Int32) : Nat → Int32 → Int32 → Option (Int32)
  | 0, _, _ => none
  | n + 1, y4, y5 =>
  if (μ.1 18 8) ≤ y5 then (some y4) else ((if (f_LR_isIn y1 y5) = 0 then (some y4) else (G y5 64 (if y3 ≤ (μ.1 19 y5.toNatClampNeg) then (some y4) else (G y5 64 (some (y4 + (y3 - (μ.1 19 y5.toNatClampNeg)))))))).bind fun v1 => f_RE_roomBelow_L6 μ y1 y3 n v1 (y5 + 1))
def f_RE_roomBelow (μ : Mem) (x1 : Int64) (x3 : Int32) : Option (Int32) :=
  (f_RE_roomBelow_L6 μ x1 x3 FU 0 0).bind fun v4 => some v4
def f_LK_measure (μ : Mem) (x1 : Nat) : Option (Mem) :=
  (if (f_RE_isLand μ (μ.1 (28 + x1) 1)) = 0 then (some μ) else (G (μ.1 (28 + x1) 1) 64 ((f_RE_roomBelow μ (μ.2 (28 + x1) 0) (μ.1 19 (μ.1 (28 + x1) 1).toNatClampNeg)).bind fun v3 => some (sI μ (28 + x1) 5 v3)))).bind fun v1 => if (f_LA_isDouble v1 x1) = 0 then (some (f_LA_appear v1 x1 0)) else (some v1)
def f_LK_come_L22  : Nat → Mem → Int32 → Option (Mem)
  | 0, _, _ => none
  | n + 1, μ, y1 =>
  if (μ.1 18 9) ≤ y1 then (some μ) else (G y1 64 ((f_LK_goUnder μ (μ.1 23 y1.toNatClampNeg)).bind fun v2 => f_LK_come_L22 n v2 (y1 + 1)))
def f_LK_come_L54  : Nat → Mem → Int32 → Option (Mem)
  | 0, _, _ => none
  | n + 1, μ, y1 =>
  if (μ.1 26 1) ≤ y1 then (some μ) else (G y1 35 ((f_LK_measure μ y1.toNatClampNeg).bind fun v5 => f_LK_come_L54 n v5 (y1 + 1)))
def f_LK_come (μ : Mem)  : Option (Mem) :=
  (f_LK_come_L22 FU (sJ (sJ (sJ (sI μ 26 1 0) 26 2 0) 26 3 0) 26 5 0) 0).bind fun v3 => (f_LK_come_L54 FU v3 0).bind fun v6 => some v6
def f_LK_thereWith_L2 (μ : Mem) (y1 : Int32) (K : Unit → Option (Int32)) : Nat → Int32 → Option (Int32)
  | 0, _ => none
  | n + 1, y2 =>
  if (μ.1 26 1) ≤ y2 then (K ()) else (G y2 35 (if (μ.1 (28 + y2.toNatClampNeg) 6) = 0 then (f_LK_thereWith_L2 μ y1 K n (y2 + 1)) else (G y2 35 (if (f_LR_isIn (μ.2 (28 + y2.toNatClampNeg) 0) y1) = 0 then (f_LK_thereWith_L2 μ y1 K n (y2 + 1)) else (some y2)))))
def f_LK_thereWith (μ : Mem) (x1 : Int32) : Option (Int32) :=
  f_LK_thereWith_L2 μ x1 (fun _ => some (-3)) FU 0
def f_LK_numberThere_L4 (μ : Mem)  : Nat → Int32 → Int32 → Option (Int32)
  | 0, _, _ => none
  | n + 1, y1, y2 =>
  if (μ.1 26 1) ≤ y2 then (some y1) else (G y2 35 ((if (μ.1 (28 + y2.toNatClampNeg) 6) = 0 then (some y1) else (some (y1 + 1))).bind fun v2 => f_LK_numberThere_L4 μ n v2 (y2 + 1)))
def f_LK_numberThere (μ : Mem)  : Option (Int32) :=
  (f_LK_numberThere_L4 μ FU 0 0).bind fun v3 => some v3
def f_LK_waterThere_L4 (μ : Mem)  : Nat → Int64 → Int32 → Option (Int64)
  | 0, _, _ => none
  | n + 1, y1, y3 =>
  if (μ.1 26 1) ≤ y3 then (some y1) else (G y3 35 ((if (μ.1 (28 + y3.toNatClampNeg) 6) = 0 then (some y1) else (G y3 35 (some (y1 + (μ.1 (28 + y3.toNatClampNeg) 7).toInt64)))).bind fun v2 => f_LK_waterThere_L4 μ n v2 (y3 + 1)))
def f_LK_waterThere (μ : Mem)  : Option (Int64) :=
  (f_LK_waterThere_L4 μ FU 0 0).bind fun v4 => some v4
def f_LK_lakeBelow (μ : Mem) (x1 : Int32) : Option (Int32) :=
  if (f_RE_isLand μ x1) = 0 then (some (-5)) else (G x1 64 (if (f_RE_isLand μ (μ.1 21 x1.toNatClampNeg)) = 0 then (some (-5)) else (G x1 64 ((f_LK_thereWith μ (μ.1 21 x1.toNatClampNeg)).bind fun v3 => some v3))))
def f_LK_fillUp (μ : Mem) (x1 : Nat) (x2 : Int32) : Int32 × Mem :=
  ((if ((μ.1 (28 + x1) 5) - (μ.1 (28 + x1) 7)) < x2 then ((μ.1 (28 + x1) 5) - (μ.1 (28 + x1) 7)) else x2), (sI μ (28 + x1) 7 ((μ.1 (28 + x1) 7) + (if ((μ.1 (28 + x1) 5) - (μ.1 (28 + x1) 7)) < x2 then ((μ.1 (28 + x1) 5) - (μ.1 (28 + x1) 7)) else x2))))
def f_LK_join (μ : Mem) (x1 : Nat) (x2 : Nat) (x3 : Nat) : Mem :=
  (f_LA_vanish (f_LA_vanish (f_LA_appear μ x3 ((μ.1 (28 + x1) 7) + (μ.1 (28 + x2) 7))) x1) x2)
def f_LK_next (μ : Mem) (x1 : Int32) : Option (Int32 × Mem) :=
  G x1 35 (if (f_LK_isLake μ (μ.1 (28 + x1.toNatClampNeg) 2)) = 0 then (some ((-5), μ)) else (G (μ.1 (28 + x1.toNatClampNeg) 2) 35 ((if (μ.1 (28 + (μ.1 (28 + x1.toNatClampNeg) 2).toNatClampNeg) 3) = x1 then (G (μ.1 (28 + x1.toNatClampNeg) 2) 35 (some (μ.1 (28 + (μ.1 (28 + x1.toNatClampNeg) 2).toNatClampNeg) 4))) else (G (μ.1 (28 + x1.toNatClampNeg) 2) 35 (some (μ.1 (28 + (μ.1 (28 + x1.toNatClampNeg) 2).toNatClampNeg) 3)))).bind fun v3 => if (f_LK_isLake μ v3) = 0 then (some ((-5), μ)) else (G v3 35 (if (f_LA_isFull μ v3.toNatClampNeg) = 0 then (G x1 35 (G v3 35 ((f_RE_lowestBeside μ (μ.1 (28 + x1.toNatClampNeg) 1) (μ.2 (28 + v3.toNatClampNeg) 0)).bind fun v9 => (f_LK_lakeBelow μ v9).bind fun v10 => some (v10, μ)))) else (G x1 35 (G v3 35 (G (μ.1 (28 + x1.toNatClampNeg) 2) 35 (some ((μ.1 (28 + x1.toNatClampNeg) 2), (f_LK_join μ x1.toNatClampNeg v3.toNatClampNeg ((μ.1 (28 + x1.toNatClampNeg) 2).toNatClampNeg))))))))))))
def f_LK_runDown_L8  : Nat → Mem → Int32 → Int32 → Int32 → Option (Int32 × Mem)
  | 0, _, _, _, _ => none
  | n + 1, μ, y3, y4, y5 =>
  if 35 < y5 then (some (y3, μ)) else (if y3 ≤ 0 then (some (y3, μ)) else (if (f_LK_isLake μ y4) = 0 then (some (y3, μ)) else (G y4 35 ((if (y3 - (f_LK_fillUp μ y4.toNatClampNeg y3).1) ≤ 0 then (some (y4, (f_LK_fillUp μ y4.toNatClampNeg y3).2)) else ((f_LK_next ((f_LK_fillUp μ y4.toNatClampNeg y3).2) y4).bind fun v3 => some (v3.1, v3.2))).bind fun v2 => f_LK_runDown_L8 n v2.2 (y3 - (f_LK_fillUp μ y4.toNatClampNeg y3).1) v2.1 (y5 + 1)))))
def f_LK_runDown (μ : Mem) (x1 : Int32) (x2 : Int32) : Option (Int32 × Mem) :=
  (f_LK_runDown_L8 FU μ x2 x1 0).bind fun v4 => some (v4.1, v4.2)
def f_LK_takeGrains (μ : Mem) (x1 : Int32) (x2 : Int32) : Option (Int32 × Mem) :=
  (f_LK_lakeBelow μ x1).bind fun v1 => (f_LK_runDown μ v1 x2).bind fun v2 => some (v2.1, (sJ (sJ v2.2 26 3 ((v2.2.2 26 3) + x2.toInt64)) 26 2 (((sJ v2.2 26 3 ((v2.2.2 26 3) + x2.toInt64)).2 26 2) + v2.1.toInt64)))
def f_RE_flood_L24  : Nat → Mem → Int32 → Option (Mem)
  | 0, _, _ => none
  | n + 1, μ, y3 =>
  if 64 ≤ y3 then (some μ) else (G y3 64 (G y3 64 (G y3 64 (G y3 64 (f_RE_flood_L24 n (sI (sI (sI (sI μ 19 y3.toNatClampNeg 0) 20 y3.toNatClampNeg (-5)) 21 y3.toNatClampNeg (-5)) 22 y3.toNatClampNeg 0) (y3 + 1))))))
def f_RE_flood (μ : Mem) (x1 : Int32) (x2 : Int32) : Option (Mem) :=
  (f_RE_flood_L24 FU (sJ (sI (sI (sI μ 18 7 x1) 18 8 (x1 * x2)) 18 9 0) 18 10 0) 0).bind fun v5 => some v5
def f_RE_raiseLand (μ : Mem) (x1 : Int32) (x2 : Int32) : Option (Mem) :=
  G x1 64 (some (sJ (sI μ 19 x1.toNatClampNeg x2) 18 10 (((sI μ 19 x1.toNatClampNeg x2).2 18 10) ||| (f_LR_only x1))))
def f_RE_landOrSea (μ : Mem) (x1 : Int32) : Int32 :=
  if (f_RE_isLand μ x1) = 0 then ((-5)) else (x1)
def f_RE_findNeighbours_L2  : Nat → Mem → Int32 → Option (Mem)
  | 0, _, _ => none
  | n + 1, μ, y1 =>
  if (μ.1 18 8) ≤ y1 then (some μ) else ((if (μ.1 18 7) ≤ 0 then (some 0) else (Zg (μ.1 18 7) (some (y1 - y1 / (μ.1 18 7) * (μ.1 18 7))))).bind fun v1 => G (4 * y1) 256 ((if v1 ≤ 0 then (some (-5)) else (some (f_RE_landOrSea (sI μ 24 (4 * y1).toNatClampNeg (f_RE_landOrSea μ (y1 - (μ.1 18 7)))) (y1 - 1)))).bind fun v4 => G ((4 * y1) + 1) 256 ((if (((sI (sI μ 24 (4 * y1).toNatClampNeg (f_RE_landOrSea μ (y1 - (μ.1 18 7)))) 24 ((4 * y1) + 1).toNatClampNeg v4).1 18 7) - 1) ≤ v1 then (some (-5)) else (some (f_RE_landOrSea (sI (sI μ 24 (4 * y1).toNatClampNeg (f_RE_landOrSea μ (y1 - (μ.1 18 7)))) 24 ((4 * y1) + 1).toNatClampNeg v4) (y1 + 1)))).bind fun v6 => G ((4 * y1) + 2) 256 (G ((4 * y1) + 3) 256 (f_RE_findNeighbours_L2 n (sI (sI (sI (sI μ 24 (4 * y1).toNatClampNeg (f_RE_landOrSea μ (y1 - (μ.1 18 7)))) 24 ((4 * y1) + 1).toNatClampNeg v4) 24 ((4 * y1) + 2).toNatClampNeg v6) 24 ((4 * y1) + 3).toNatClampNeg (f_RE_landOrSea (sI (sI (sI μ 24 (4 * y1).toNatClampNeg (f_RE_landOrSea μ (y1 - (μ.1 18 7)))) 24 ((4 * y1) + 1).toNatClampNeg v4) 24 ((4 * y1) + 2).toNatClampNeg v6) (y1 + ((sI (sI (sI μ 24 (4 * y1).toNatClampNeg (f_RE_landOrSea μ (y1 - (μ.1 18 7)))) 24 ((4 * y1) + 1).toNatClampNeg v4) 24 ((4 * y1) + 2).toNatClampNeg v6).1 18 7)))) (y1 + 1))))))
def f_RE_findNeighbours (μ : Mem)  : Option (Mem) :=
  (f_RE_findNeighbours_L2 FU μ 0).bind fun v9 => some v9
def f_RE_insertByHeight_L2 (y1 : Int32) : Nat → Mem → Int32 → Option (Int32 × Mem)
  | 0, _, _ => none
  | n + 1, μ, y3 =>
  if y3 ≤ 0 then (some (y3, μ)) else (G (y3 - 1) 64 ((f_RE_isLower μ y1 (μ.1 23 (y3 - 1).toNatClampNeg)).bind fun v2 => if v2 = 0 then (some (y3, μ)) else (G (y3 - 1) 64 (G y3 64 (f_RE_insertByHeight_L2 y1 n (sI μ 23 y3.toNatClampNeg (μ.1 23 (y3 - 1).toNatClampNeg)) (y3 + (-1)))))))
def f_RE_insertByHeight (μ : Mem) (x1 : Int32) (x2 : Int32) : Option (Mem) :=
  (f_RE_insertByHeight_L2 x1 FU μ x2).bind fun v5 => G v5.1 64 (some (sI v5.2 23 v5.1.toNatClampNeg x1))
def f_RE_sortLand_L2  : Nat → Mem → Int32 → Option (Mem)
  | 0, _, _ => none
  | n + 1, μ, y1 =>
  if (μ.1 18 8) ≤ y1 then (some μ) else ((if (f_RE_isLand μ y1) = 0 then (some μ) else ((f_RE_insertByHeight μ y1 (μ.1 18 9)).bind fun v2 => some (sI v2 18 9 ((v2.1 18 9) + 1)))).bind fun v1 => f_RE_sortLand_L2 n v1 (y1 + 1))
def f_RE_sortLand (μ : Mem)  : Option (Mem) :=
  (f_RE_sortLand_L2 FU μ 0).bind fun v3 => some v3
def f_RE_downOf (μ : Mem) (x1 : Int32) : Option (Int32) :=
  (f_RE_isBesideSea μ x1).bind fun v1 => if v1 = 0 then ((f_RE_lowestBeside μ x1 (μ.2 18 10)).bind fun v2 => if v2 = (-3) then (some (-3)) else ((f_RE_isLower μ x1 v2).bind fun v3 => if v3 = 0 then (some v2) else (some (-3)))) else (some (-5))
def f_RE_findWays_L2  : Nat → Mem → Int32 → Option (Mem)
  | 0, _, _ => none
  | n + 1, μ, y1 =>
  if (μ.1 18 9) ≤ y1 then (some μ) else (G y1 64 ((f_RE_downOf μ (μ.1 23 y1.toNatClampNeg)).bind fun v2 => G (μ.1 23 y1.toNatClampNeg) 64 ((if v2 = (-3) then (some (μ.1 23 y1.toNatClampNeg)) else (if v2 = (-5) then (some (-5)) else (G v2 64 (some ((sI μ 20 (μ.1 23 y1.toNatClampNeg).toNatClampNeg v2).1 21 v2.toNatClampNeg))))).bind fun v4 => G (μ.1 23 y1.toNatClampNeg) 64 (f_RE_findWays_L2 n (sI (sI μ 20 (μ.1 23 y1.toNatClampNeg).toNatClampNeg v2) 21 (μ.1 23 y1.toNatClampNeg).toNatClampNeg v4) (y1 + 1)))))
def f_RE_findWays (μ : Mem)  : Option (Mem) :=
  (f_RE_findWays_L2 FU μ 0).bind fun v7 => some v7
def f_RE_leastFillBeside_L5 (μ : Mem) (y1 : Int32) : Nat → Int32 → Int32 → Option (Int32)
  | 0, _, _ => none
  | n + 1, y2, y3 =>
  if 4 ≤ y3 then (some y2) else ((f_RE_beside μ y1 y3).bind fun v1 => (if v1 = (-5) then (some (-1000000)) else (G v1 64 (some (μ.1 22 v1.toNatClampNeg)))).bind fun v2 => f_RE_leastFillBeside_L5 μ y1 n (if v2 < y2 then v2 else y2) (y3 + 1))
def f_RE_leastFillBeside (μ : Mem) (x1 : Int32) : Option (Int32) :=
  (f_RE_leastFillBeside_L5 μ x1 FU 1000001 0).bind fun v4 => some v4
def f_RE_lowerFills_L4  : Nat → Mem → Int32 → Int32 → Option (Int32 × Mem)
  | 0, _, _, _ => none
  | n + 1, μ, y1, y2 =>
  if (μ.1 18 9) ≤ y2 then (some (y1, μ)) else (G y2 64 (G (μ.1 23 y2.toNatClampNeg) 64 ((f_RE_leastFillBeside μ (μ.1 23 y2.toNatClampNeg)).bind fun v3 => G (μ.1 23 y2.toNatClampNeg) 64 ((if (μ.1 22 (μ.1 23 y2.toNatClampNeg).toNatClampNeg) ≤ (if (μ.1 19 (μ.1 23 y2.toNatClampNeg).toNatClampNeg) < v3 then v3 else (μ.1 19 (μ.1 23 y2.toNatClampNeg).toNatClampNeg)) then (some (y1, μ)) else (G (μ.1 23 y2.toNatClampNeg) 64 (some (1, (sI μ 22 (μ.1 23 y2.toNatClampNeg).toNatClampNeg (if (μ.1 19 (μ.1 23 y2.toNatClampNeg).toNatClampNeg) < v3 then v3 else (μ.1 19 (μ.1 23 y2.toNatClampNeg).toNatClampNeg))))))).bind fun v5 => f_RE_lowerFills_L4 n v5.2 v5.1 (y2 + 1)))))
def f_RE_lowerFills (μ : Mem)  : Option (Int32 × Mem) :=
  (f_RE_lowerFills_L4 FU μ 0 0).bind fun v7 => Bg v7.1 (some (v7.1, v7.2))
def f_RE_findFills_L2  : Nat → Mem → Int32 → Option (Mem)
  | 0, _, _ => none
  | n + 1, μ, y1 =>
  if (μ.1 18 9) ≤ y1 then (some μ) else (G y1 64 (G (μ.1 23 y1.toNatClampNeg) 64 (f_RE_findFills_L2 n (sI μ 22 (μ.1 23 y1.toNatClampNeg).toNatClampNeg 1000001) (y1 + 1))))
def f_RE_findFills_L33  : Nat → Mem → Int32 → Int32 → Option (Mem)
  | 0, _, _, _ => none
  | n + 1, μ, y1, y2 =>
  if (μ.1 18 8) < y2 then (some μ) else (if y1 = 0 then (some μ) else ((f_RE_lowerFills μ).bind fun v4 => f_RE_findFills_L33 n v4.2 v4.1 (y2 + 1)))
def f_RE_findFills (μ : Mem)  : Option (Mem) :=
  (f_RE_findFills_L2 FU μ 0).bind fun v3 => (f_RE_findFills_L33 FU v3 1 0).bind fun v5 => some v5
def f_RE_survey (μ : Mem)  : Option (Mem) :=
  (f_RE_findNeighbours μ).bind fun v1 => (f_RE_sortLand v1).bind fun v2 => (f_RE_findWays v2).bind fun v3 => (f_RE_findFills v3).bind fun v4 => some v4
def f_RE_isHollow (μ : Mem) (x1 : Int32) : Option (Int32) :=
  if (f_RE_isLand μ x1) = 0 then (some 0) else (G x1 64 (if (μ.1 20 x1.toNatClampNeg) = (-3) then (some 1) else (some 0)))
def f_RE_hollowCount_L4 (μ : Mem)  : Nat → Int32 → Int32 → Option (Int32)
  | 0, _, _ => none
  | n + 1, y1, y2 =>
  if (μ.1 18 8) ≤ y2 then (some y1) else ((f_RE_isHollow μ y2).bind fun v1 => (if v1 = 0 then (some y1) else (some (y1 + 1))).bind fun v2 => f_RE_hollowCount_L4 μ n v2 (y2 + 1))
def f_RE_hollowCount (μ : Mem)  : Option (Int32) :=
  (f_RE_hollowCount_L4 μ FU 0 0).bind fun v3 => some v3
def f_RE_hollowAt_L4 (μ : Mem) (y1 : Int32) (K : Unit → Option (Int32)) : Nat → Int32 → Int32 → Option (Int32)
  | 0, _, _ => none
  | n + 1, y2, y3 =>
  if (μ.1 18 8) ≤ y3 then (K ()) else ((f_RE_isHollow μ y3).bind fun v1 => if v1 = 0 then (f_RE_hollowAt_L4 μ y1 K n y2 (y3 + 1)) else (if y2 = y1 then (some y3) else (f_RE_hollowAt_L4 μ y1 K n (y2 + 1) (y3 + 1))))
def f_RE_hollowAt (μ : Mem) (x1 : Int32) : Option (Int32) :=
  f_RE_hollowAt_L4 μ x1 (fun _ => some (-3)) FU 0 0
def f_RE_lowestOf_L2 (μ : Mem) (y1 : Int64) (K : Unit → Option (Int32)) : Nat → Int32 → Option (Int32)
  | 0, _ => none
  | n + 1, y3 =>
  if (μ.1 18 9) ≤ y3 then (K ()) else (G y3 64 (if (f_LR_isIn y1 (μ.1 23 y3.toNatClampNeg)) = 0 then (f_RE_lowestOf_L2 μ y1 K n (y3 + 1)) else (G y3 64 (some (μ.1 23 y3.toNatClampNeg)))))
def f_RE_lowestOf (μ : Mem) (x1 : Int64) : Option (Int32) :=
  f_RE_lowestOf_L2 μ x1 (fun _ => some (-3)) FU 0
def f_RE_countBelow_L6 (μ : Mem) (y1 : Int64) (y3 : Int32) : Nat → Int32 → Int32 → Option (Int32)
  | 0, _, _ => none
  | n + 1, y4, y5 =>
  if (μ.1 18 8) ≤ y5 then (some y4) else ((if (f_LR_isIn y1 y5) = 0 then (some y4) else (G y5 64 (if y3 ≤ (μ.1 19 y5.toNatClampNeg) then (some y4) else (some (y4 + 1))))).bind fun v1 => f_RE_countBelow_L6 μ y1 y3 n v1 (y5 + 1))
def f_RE_countBelow (μ : Mem) (x1 : Int64) (x3 : Int32) : Option (Int32) :=
  (f_RE_countBelow_L6 μ x1 x3 FU 0 0).bind fun v3 => some v3
def f_RE_greatestDivisor_L7  : Nat → Int32 → Int32 → Int32 → Option (Int32)
  | 0, _, _, _ => none
  | n + 1, y2, y3, y4 =>
  if 64 ≤ y4 then (some y2) else (if y3 = 0 then (some y2) else (Zg y3 (f_RE_greatestDivisor_L7 n y3 (y2 - y2 / y3 * y3) (y4 + 1))))
def f_RE_greatestDivisor (x0 : Int32) (x1 : Int32) : Option (Int32) :=
  (f_RE_greatestDivisor_L7 FU x0 x1 0).bind fun v2 => some v2
def f_RE_surface_L9 (μ : Mem) (y1 : Int64) (y4 : Int32) : Nat → Int32 → Int32 → Int32 → Option (Int32 × Int32)
  | 0, _, _, _ => none
  | n + 1, y5, y6, y7 =>
  if (μ.1 18 9) ≤ y7 then (some (y5, y6)) else (G y7 64 ((if (f_LR_isIn y1 (μ.1 23 y7.toNatClampNeg)) = 0 then (some (y5, y6)) else (if y6 = 0 then (G (μ.1 23 y7.toNatClampNeg) 64 (some ((y5 + (μ.1 19 (μ.1 23 y7.toNatClampNeg).toNatClampNeg)), (y6 + 1)))) else (G (μ.1 23 y7.toNatClampNeg) 64 (if (lg_cmp y5.toInt64 ((μ.1 19 (μ.1 23 y7.toNatClampNeg).toNatClampNeg).toInt64 * y6.toInt64)) ≤ 0 then (some (y5, y6)) else (G (μ.1 23 y7.toNatClampNeg) 64 (some ((y5 + (μ.1 19 (μ.1 23 y7.toNatClampNeg).toNatClampNeg)), (y6 + 1)))))))).bind fun v2 => f_RE_surface_L9 μ y1 y4 n v2.1 v2.2 (y7 + 1)))
def f_RE_surface (μ : Mem) (x1 : Int64) (x3 : Int32) (x4 : Int32) : Option (Int32) :=
  (f_RE_surface_L9 μ x1 x4 FU x3 0 0).bind fun v6 => (f_RE_greatestDivisor (if 0 ≤ v6.1 then v6.1 else 0 - v6.1) v6.2).bind fun v7 => if v7 = 0 then (if x4 = 0 then (some 1) else (some 0)) else ((if x4 = 0 then (some v6.2) else (some v6.1)).bind fun v8 => Zg v7 (some (v8 / v7)))
def f_RE_landLeftAt_L5 (μ : Mem) (y1 : Int32) : Nat → Int64 → Int32 → Option (Int64)
  | 0, _, _ => none
  | n + 1, y2, y4 =>
  if (μ.1 18 9) ≤ y4 then (some y2) else (G y4 64 (G (μ.1 23 y4.toNatClampNeg) 64 ((if (μ.1 22 (μ.1 23 y4.toNatClampNeg).toNatClampNeg) < y1 then (some y2) else (some (y2 ||| (f_LR_only (μ.1 23 y4.toNatClampNeg))))).bind fun v3 => f_RE_landLeftAt_L5 μ y1 n v3 (y4 + 1))))
def f_RE_landLeftAt (μ : Mem) (x1 : Int32) : Option (Int64) :=
  (f_RE_landLeftAt_L5 μ x1 FU 0 0).bind fun v4 => some v4
def f_RE_withoutPieceAt_L42 (y7 : Int32) : Nat → Mem → Int64 → Int32 → Int32 → Option (Int64 × Int32 × Mem)
  | 0, _, _, _, _ => none
  | n + 1, μ, y4, y6, y8 =>
  if 4 ≤ y8 then (some (y4, y6, μ)) else (G y7 64 ((f_RE_beside μ (μ.1 25 y7.toNatClampNeg) y8).bind fun v3 => (if v3 = (-5) then (some (y4, y6, μ)) else (if (f_LR_isIn y4 v3) = 0 then (some (y4, y6, μ)) else (if 64 ≤ y6 then (some (y4, y6, μ)) else (G y6 64 (some ((y4 &&& ((f_LR_only v3) ^^^ (-1))), (y6 + 1), (sI μ 25 y6.toNatClampNeg v3))))))).bind fun v4 => f_RE_withoutPieceAt_L42 y7 n v4.2.2 v4.1 v4.2.1 (y8 + 1)))
def f_RE_withoutPieceAt_L25  : Nat → Mem → Int64 → Int32 → Int32 → Option (Int64 × Mem)
  | 0, _, _, _, _ => none
  | n + 1, μ, y4, y6, y7 =>
  if y6 ≤ y7 then (some (y4, μ)) else (if 64 ≤ y7 then (some (y4, μ)) else ((f_RE_withoutPieceAt_L42 y7 FU μ y4 y6 0).bind fun v6 => f_RE_withoutPieceAt_L25 n v6.2.2 v6.1 v6.2.1 (y7 + 1)))
def f_RE_withoutPieceAt (μ : Mem) (x1 : Int32) (x2 : Int64) : Option (Int64 × Mem) :=
  G 0 64 ((f_RE_withoutPieceAt_L25 FU (sI μ 25 (0 : Int32).toNatClampNeg x1) (x2 &&& ((f_LR_only x1) ^^^ (-1))) 1 0).bind fun v7 => some (v7.1, v7.2))
def f_RE_piecesOf_L8  : Nat → Mem → Int64 → Int32 → Int32 → Option (Int32 × Mem)
  | 0, _, _, _, _ => none
  | n + 1, μ, y3, y5, y6 =>
  if (μ.1 18 8) ≤ y6 then (some (y5, μ)) else ((if (f_LR_isIn y3 y6) = 0 then (some (y3, y5, μ)) else ((f_RE_withoutPieceAt μ y6 y3).bind fun v2 => some (v2.1, (y5 + 1), v2.2))).bind fun v1 => f_RE_piecesOf_L8 n v1.2.2 v1.1 v1.2.1 (y6 + 1))
def f_RE_piecesOf (μ : Mem) (x1 : Int64) : Option (Int32 × Mem) :=
  (f_RE_piecesOf_L8 FU μ x1 0 0).bind fun v3 => some (v3.1, v3.2)
def f_ST_become_L12 (y0 : Nat) : Nat → Mem → Int32 → Option (Mem)
  | 0, _, _ => none
  | n + 1, μ, y3 =>
  if 12 ≤ y3 then (some μ) else (G y3 12 (f_ST_become_L12 y0 n (sI μ (10 + y0) y3.toNatClampNeg 0) (y3 + 1)))
def f_ST_become (μ : Mem) (o : Nat) (x1 : Int32) (x2 : Int32) : Option (Mem) :=
  (f_ST_become_L12 o FU (sI (sI μ (2 + o) 1 x1) (2 + o) 2 x2) 0).bind fun v2 => some v2
def f_ST_hasPlace (μ : Mem) (o : Nat) (x1 : Int32) : Int32 :=
  if x1 < 0 then (0) else (if (μ.1 (2 + o) 2) ≤ x1 then (0) else (1))
def f_ST_hasRun (μ : Mem) (o : Nat) (x1 : Int32) (x2 : Int32) : Int32 :=
  if x1 < 0 then (0) else (if x2 < 0 then (0) else (if (μ.1 (2 + o) 2) < x1 then (0) else (if ((μ.1 (2 + o) 2) - x1) < x2 then (0) else (1))))
def f_ST_keep (μ : Mem) (o : Nat) (x1 : Int32) (x2 : Int32) : Option (Mem) :=
  (if (μ.1 (2 + o) 1) = 0 then (some x2.toInt8.toInt32) else (if (μ.1 (2 + o) 1) = 1 then (some x2.toInt16.toInt32) else (some x2))).bind fun v1 => G x1 12 (some (sI μ (10 + o) x1.toNatClampNeg v1))
def f_LR_isStrip (x0 : Int32) : Int32 :=
  if x0 < 0 then (0) else (if 8 ≤ x0 then (0) else (1))
def f_LR_strip (μ : Mem) (x1 : Int32) (x2 : Int32) (x3 : Int32) : Option (Int32 × Mem) :=
  if (f_LR_isStrip x1) = 0 then (some ((-1), μ)) else (if x2 < (-1) then (some ((-1), μ)) else (if x2 ≤ 2 then (if x2 = (-1) then (G x1 8 ((f_ST_become μ x1.toNatClampNeg (-1) 0).bind fun v4 => some (0, v4))) else (if x3 ≤ 12 then (if 0 ≤ x3 then (G x1 8 ((f_ST_become μ x1.toNatClampNeg x2 x3).bind fun v2 => some (0, v2))) else (some ((-13), μ))) else (some ((-1), μ)))) else (some ((-1), μ))))
def f_LR_refusalOfPlace (μ : Mem) (x1 : Int32) (x2 : Int32) : Option (Int32) :=
  if (f_LR_isStrip x1) = 0 then (some (-1)) else (G x1 8 (if (μ.1 (2 + x1.toNatClampNeg) 1) = (-1) then (some (-11)) else (G x1 8 (if (f_ST_hasPlace μ x1.toNatClampNeg x2) = 0 then (some (-12)) else (some 0)))))
def f_LR_put (μ : Mem) (x1 : Int32) (x2 : Int32) (x3 : Int32) : Option (Int32 × Mem) :=
  (f_LR_refusalOfPlace μ x1 x2).bind fun v1 => if v1 = 0 then (G x1 8 ((f_ST_keep μ x1.toNatClampNeg x2 x3).bind fun v3 => some (0, v3))) else (some (v1, μ))
def f_LR_copy (μ : Mem) (x1 : Int32) (x2 : Int32) (x3 : Int32) (x4 : Int32) (x5 : Int32) : Option (Int32 × Mem) :=
  if (f_LR_isStrip x1) = 0 then (some ((-1), μ)) else (if (f_LR_isStrip x3) = 0 then (some ((-1), μ)) else (G x1 8 (G x3 8 (if (μ.1 (2 + x1.toNatClampNeg) 1) = (-1) then (some ((-11), μ)) else (if (μ.1 (2 + x3.toNatClampNeg) 1) = (-1) then (some ((-11), μ)) else (if (μ.1 (2 + x1.toNatClampNeg) 1) = (μ.1 (2 + x3.toNatClampNeg) 1) then (if (f_ST_hasRun μ x1.toNatClampNeg x2 x5) = 0 then (some ((-12), μ)) else (if (f_ST_hasRun μ x3.toNatClampNeg x4 x5) = 0 then (some ((-12), μ)) else (Cg x2 x4 x5 (some (0, (sR μ (10 + x3.toNatClampNeg) (va_cpy (μ.1 (10 + x1.toNatClampNeg)) (μ.1 (10 + x3.toNatClampNeg)) x2.toNatClampNeg x4.toNatClampNeg x5.toNatClampNeg))))))) else (some ((-14), μ))))))))
def f_LR_told (μ : Mem) (x1 : Int32) (x2 : Int32) : Option (Int64) :=
  (f_LR_refusalOfPlace μ x1 x2).bind fun v1 => if v1 = 0 then (G x1 8 (G x2 12 (some ((μ.1 (10 + x1.toNatClampNeg) x2.toNatClampNeg).toInt64)))) else (some (10000000000 - v1.toInt64))
def f_LR_isHeight (x0 : Int32) : Int32 :=
  if x0 < (-1000000) then (0) else (if 1000000 < x0 then (0) else (1))
def f_LR_canBeLaid_L10 (μ : Mem) (y1 : Int32) (y2 : Int32) (y3 : Int32) (K : Unit → Option (Int32)) : Nat → Int32 → Option (Int32)
  | 0, _ => none
  | n + 1, y4 =>
  if y1 ≤ y4 then (K ()) else (G y3 8 (if (f_ST_hasPlace μ y3.toNatClampNeg y4) = 0 then (f_LR_canBeLaid_L10 μ y1 y2 y3 K n (y4 + 1)) else (G y3 8 (G y4 12 (if (f_LR_isHeight (μ.1 (10 + y3.toNatClampNeg) y4.toNatClampNeg)) = 0 then (some 0) else (f_LR_canBeLaid_L10 μ y1 y2 y3 K n (y4 + 1)))))))
def f_LR_canBeLaid_L2 (μ : Mem) (y1 : Int32) (y2 : Int32) (K : Unit → Option (Int32)) : Nat → Int32 → Option (Int32)
  | 0, _ => none
  | n + 1, y3 =>
  if y2 ≤ y3 then (K ()) else (f_LR_canBeLaid_L10 μ y1 y2 y3 (fun _ => f_LR_canBeLaid_L2 μ y1 y2 K n (y3 + 1)) FU 0)
def f_LR_canBeLaid (μ : Mem) (x1 : Int32) (x2 : Int32) : Option (Int32) :=
  f_LR_canBeLaid_L2 μ x1 x2 (fun _ => some 1) FU 0
def f_LR_layLine_L2 (y1 : Int32) (y2 : Int32) : Nat → Mem → Int32 → Option (Mem)
  | 0, _, _ => none
  | n + 1, μ, y3 =>
  if y2 ≤ y3 then (some μ) else (G y1 8 ((if (f_ST_hasPlace μ y1.toNatClampNeg y3) = 0 then (some μ) else (G y1 8 (G y3 12 ((f_RE_raiseLand μ ((y2 * y1) + y3) (μ.1 (10 + y1.toNatClampNeg) y3.toNatClampNeg)).bind fun v5 => some v5)))).bind fun v2 => f_LR_layLine_L2 y1 y2 n v2 (y3 + 1)))
def f_LR_layLine (μ : Mem) (x1 : Int32) (x2 : Int32) : Option (Mem) :=
  (f_LR_layLine_L2 x1 x2 FU μ 0).bind fun v6 => some v6
def f_LR_lay_L44 (y1 : Int32) (y2 : Int32) : Nat → Mem → Int32 → Option (Mem)
  | 0, _, _ => none
  | n + 1, μ, y3 =>
  if y2 ≤ y3 then (some μ) else ((f_LR_layLine μ y3 y1).bind fun v3 => f_LR_lay_L44 y1 y2 n v3 (y3 + 1))
def f_LR_lay (μ : Mem) (x1 : Int32) (x2 : Int32) : Option (Int32 × Mem) :=
  if x1 < 1 then (some ((-1), μ)) else (if 8 < x1 then (some ((-1), μ)) else (if x2 < 1 then (some ((-1), μ)) else (if 8 < x2 then (some ((-1), μ)) else ((f_LR_canBeLaid μ x1 x2).bind fun v1 => if v1 = 0 then (some ((-1), μ)) else ((f_RE_flood μ x1 x2).bind fun v2 => (f_LR_lay_L44 x1 x2 FU v2 0).bind fun v4 => (f_RE_survey v4).bind fun v5 => (f_LK_come v5).bind fun v6 => some (((sI v6 0 3 1).1 18 9), (sI v6 0 3 1)))))))
def f_LR_field (μ : Mem) (x1 : Int32) (x2 : Int32) : Option (Int32) :=
  if (μ.1 0 3) = 0 then (some (-2000002)) else (if (f_RE_isField μ x1) = 0 then (some (-2000001)) else (if x2 < 0 then (some (-2000001)) else (if x2 ≤ 5 then (if (f_RE_isLand μ x1) = 0 then (if x2 = 0 then (some 1) else (if x2 = 5 then (some (-3)) else (some 0))) else (if x2 = 0 then (some 0) else (if x2 = 1 then (G x1 64 (some (μ.1 19 x1.toNatClampNeg))) else (if x2 = 2 then (G x1 64 (some (μ.1 20 x1.toNatClampNeg))) else (if x2 = 3 then (G x1 64 (some (μ.1 21 x1.toNatClampNeg))) else (if x2 = 4 then (G x1 64 (some (μ.1 22 x1.toNatClampNeg))) else ((f_LK_thereWith μ x1).bind fun v5 => some v5))))))) else (some (-2000001)))))
def f_LR_hollow (μ : Mem) (x1 : Int32) : Option (Int32) :=
  if (μ.1 0 3) = 0 then (some (-2)) else (if 0 ≤ x1 then ((f_RE_hollowAt μ x1).bind fun v1 => some v1) else (some (-1)))
def f_JL_bitCount (x0 : Int64) : Int32 :=
  (((((((((x0 - ((x0.toUInt64 >>> ((1 : Int32).toInt64.toUInt64 &&& Int64.toUInt64 63)).toInt64 &&& 6148914691236517205)) &&& 3689348814741910323) + (((x0 - ((x0.toUInt64 >>> ((1 : Int32).toInt64.toUInt64 &&& Int64.toUInt64 63)).toInt64 &&& 6148914691236517205)).toUInt64 >>> ((2 : Int32).toInt64.toUInt64 &&& Int64.toUInt64 63)).toInt64 &&& 3689348814741910323)) + ((((x0 - ((x0.toUInt64 >>> ((1 : Int32).toInt64.toUInt64 &&& Int64.toUInt64 63)).toInt64 &&& 6148914691236517205)) &&& 3689348814741910323) + (((x0 - ((x0.toUInt64 >>> ((1 : Int32).toInt64.toUInt64 &&& Int64.toUInt64 63)).toInt64 &&& 6148914691236517205)).toUInt64 >>> ((2 : Int32).toInt64.toUInt64 &&& Int64.toUInt64 63)).toInt64 &&& 3689348814741910323)).toUInt64 >>> ((4 : Int32).toInt64.toUInt64 &&& Int64.toUInt64 63)).toInt64) &&& 1085102592571150095) + ((((((x0 - ((x0.toUInt64 >>> ((1 : Int32).toInt64.toUInt64 &&& Int64.toUInt64 63)).toInt64 &&& 6148914691236517205)) &&& 3689348814741910323) + (((x0 - ((x0.toUInt64 >>> ((1 : Int32).toInt64.toUInt64 &&& Int64.toUInt64 63)).toInt64 &&& 6148914691236517205)).toUInt64 >>> ((2 : Int32).toInt64.toUInt64 &&& Int64.toUInt64 63)).toInt64 &&& 3689348814741910323)) + ((((x0 - ((x0.toUInt64 >>> ((1 : Int32).toInt64.toUInt64 &&& Int64.toUInt64 63)).toInt64 &&& 6148914691236517205)) &&& 3689348814741910323) + (((x0 - ((x0.toUInt64 >>> ((1 : Int32).toInt64.toUInt64 &&& Int64.toUInt64 63)).toInt64 &&& 6148914691236517205)).toUInt64 >>> ((2 : Int32).toInt64.toUInt64 &&& Int64.toUInt64 63)).toInt64 &&& 3689348814741910323)).toUInt64 >>> ((4 : Int32).toInt64.toUInt64 &&& Int64.toUInt64 63)).toInt64) &&& 1085102592571150095).toUInt64 >>> ((8 : Int32).toInt64.toUInt64 &&& Int64.toUInt64 63)).toInt64) + (((((((x0 - ((x0.toUInt64 >>> ((1 : Int32).toInt64.toUInt64 &&& Int64.toUInt64 63)).toInt64 &&& 6148914691236517205)) &&& 3689348814741910323) + (((x0 - ((x0.toUInt64 >>> ((1 : Int32).toInt64.toUInt64 &&& Int64.toUInt64 63)).toInt64 &&& 6148914691236517205)).toUInt64 >>> ((2 : Int32).toInt64.toUInt64 &&& Int64.toUInt64 63)).toInt64 &&& 3689348814741910323)) + ((((x0 - ((x0.toUInt64 >>> ((1 : Int32).toInt64.toUInt64 &&& Int64.toUInt64 63)).toInt64 &&& 6148914691236517205)) &&& 3689348814741910323) + (((x0 - ((x0.toUInt64 >>> ((1 : Int32).toInt64.toUInt64 &&& Int64.toUInt64 63)).toInt64 &&& 6148914691236517205)).toUInt64 >>> ((2 : Int32).toInt64.toUInt64 &&& Int64.toUInt64 63)).toInt64 &&& 3689348814741910323)).toUInt64 >>> ((4 : Int32).toInt64.toUInt64 &&& Int64.toUInt64 63)).toInt64) &&& 1085102592571150095) + ((((((x0 - ((x0.toUInt64 >>> ((1 : Int32).toInt64.toUInt64 &&& Int64.toUInt64 63)).toInt64 &&& 6148914691236517205)) &&& 3689348814741910323) + (((x0 - ((x0.toUInt64 >>> ((1 : Int32).toInt64.toUInt64 &&& Int64.toUInt64 63)).toInt64 &&& 6148914691236517205)).toUInt64 >>> ((2 : Int32).toInt64.toUInt64 &&& Int64.toUInt64 63)).toInt64 &&& 3689348814741910323)) + ((((x0 - ((x0.toUInt64 >>> ((1 : Int32).toInt64.toUInt64 &&& Int64.toUInt64 63)).toInt64 &&& 6148914691236517205)) &&& 3689348814741910323) + (((x0 - ((x0.toUInt64 >>> ((1 : Int32).toInt64.toUInt64 &&& Int64.toUInt64 63)).toInt64 &&& 6148914691236517205)).toUInt64 >>> ((2 : Int32).toInt64.toUInt64 &&& Int64.toUInt64 63)).toInt64 &&& 3689348814741910323)).toUInt64 >>> ((4 : Int32).toInt64.toUInt64 &&& Int64.toUInt64 63)).toInt64) &&& 1085102592571150095).toUInt64 >>> ((8 : Int32).toInt64.toUInt64 &&& Int64.toUInt64 63)).toInt64).toUInt64 >>> ((16 : Int32).toInt64.toUInt64 &&& Int64.toUInt64 63)).toInt64) + ((((((((x0 - ((x0.toUInt64 >>> ((1 : Int32).toInt64.toUInt64 &&& Int64.toUInt64 63)).toInt64 &&& 6148914691236517205)) &&& 3689348814741910323) + (((x0 - ((x0.toUInt64 >>> ((1 : Int32).toInt64.toUInt64 &&& Int64.toUInt64 63)).toInt64 &&& 6148914691236517205)).toUInt64 >>> ((2 : Int32).toInt64.toUInt64 &&& Int64.toUInt64 63)).toInt64 &&& 3689348814741910323)) + ((((x0 - ((x0.toUInt64 >>> ((1 : Int32).toInt64.toUInt64 &&& Int64.toUInt64 63)).toInt64 &&& 6148914691236517205)) &&& 3689348814741910323) + (((x0 - ((x0.toUInt64 >>> ((1 : Int32).toInt64.toUInt64 &&& Int64.toUInt64 63)).toInt64 &&& 6148914691236517205)).toUInt64 >>> ((2 : Int32).toInt64.toUInt64 &&& Int64.toUInt64 63)).toInt64 &&& 3689348814741910323)).toUInt64 >>> ((4 : Int32).toInt64.toUInt64 &&& Int64.toUInt64 63)).toInt64) &&& 1085102592571150095) + ((((((x0 - ((x0.toUInt64 >>> ((1 : Int32).toInt64.toUInt64 &&& Int64.toUInt64 63)).toInt64 &&& 6148914691236517205)) &&& 3689348814741910323) + (((x0 - ((x0.toUInt64 >>> ((1 : Int32).toInt64.toUInt64 &&& Int64.toUInt64 63)).toInt64 &&& 6148914691236517205)).toUInt64 >>> ((2 : Int32).toInt64.toUInt64 &&& Int64.toUInt64 63)).toInt64 &&& 3689348814741910323)) + ((((x0 - ((x0.toUInt64 >>> ((1 : Int32).toInt64.toUInt64 &&& Int64.toUInt64 63)).toInt64 &&& 6148914691236517205)) &&& 3689348814741910323) + (((x0 - ((x0.toUInt64 >>> ((1 : Int32).toInt64.toUInt64 &&& Int64.toUInt64 63)).toInt64 &&& 6148914691236517205)).toUInt64 >>> ((2 : Int32).toInt64.toUInt64 &&& Int64.toUInt64 63)).toInt64 &&& 3689348814741910323)).toUInt64 >>> ((4 : Int32).toInt64.toUInt64 &&& Int64.toUInt64 63)).toInt64) &&& 1085102592571150095).toUInt64 >>> ((8 : Int32).toInt64.toUInt64 &&& Int64.toUInt64 63)).toInt64) + (((((((x0 - ((x0.toUInt64 >>> ((1 : Int32).toInt64.toUInt64 &&& Int64.toUInt64 63)).toInt64 &&& 6148914691236517205)) &&& 3689348814741910323) + (((x0 - ((x0.toUInt64 >>> ((1 : Int32).toInt64.toUInt64 &&& Int64.toUInt64 63)).toInt64 &&& 6148914691236517205)).toUInt64 >>> ((2 : Int32).toInt64.toUInt64 &&& Int64.toUInt64 63)).toInt64 &&& 3689348814741910323)) + ((((x0 - ((x0.toUInt64 >>> ((1 : Int32).toInt64.toUInt64 &&& Int64.toUInt64 63)).toInt64 &&& 6148914691236517205)) &&& 3689348814741910323) + (((x0 - ((x0.toUInt64 >>> ((1 : Int32).toInt64.toUInt64 &&& Int64.toUInt64 63)).toInt64 &&& 6148914691236517205)).toUInt64 >>> ((2 : Int32).toInt64.toUInt64 &&& Int64.toUInt64 63)).toInt64 &&& 3689348814741910323)).toUInt64 >>> ((4 : Int32).toInt64.toUInt64 &&& Int64.toUInt64 63)).toInt64) &&& 1085102592571150095) + ((((((x0 - ((x0.toUInt64 >>> ((1 : Int32).toInt64.toUInt64 &&& Int64.toUInt64 63)).toInt64 &&& 6148914691236517205)) &&& 3689348814741910323) + (((x0 - ((x0.toUInt64 >>> ((1 : Int32).toInt64.toUInt64 &&& Int64.toUInt64 63)).toInt64 &&& 6148914691236517205)).toUInt64 >>> ((2 : Int32).toInt64.toUInt64 &&& Int64.toUInt64 63)).toInt64 &&& 3689348814741910323)) + ((((x0 - ((x0.toUInt64 >>> ((1 : Int32).toInt64.toUInt64 &&& Int64.toUInt64 63)).toInt64 &&& 6148914691236517205)) &&& 3689348814741910323) + (((x0 - ((x0.toUInt64 >>> ((1 : Int32).toInt64.toUInt64 &&& Int64.toUInt64 63)).toInt64 &&& 6148914691236517205)).toUInt64 >>> ((2 : Int32).toInt64.toUInt64 &&& Int64.toUInt64 63)).toInt64 &&& 3689348814741910323)).toUInt64 >>> ((4 : Int32).toInt64.toUInt64 &&& Int64.toUInt64 63)).toInt64) &&& 1085102592571150095).toUInt64 >>> ((8 : Int32).toInt64.toUInt64 &&& Int64.toUInt64 63)).toInt64).toUInt64 >>> ((16 : Int32).toInt64.toUInt64 &&& Int64.toUInt64 63)).toInt64).toUInt64 >>> ((32 : Int32).toInt64.toUInt64 &&& Int64.toUInt64 63)).toInt64).toInt32 &&& 127)
def f_LR_lake (μ : Mem) (x1 : Int32) (x2 : Int32) : Option (Int32) :=
  if (μ.1 0 3) = 0 then (some (-2000002)) else (if (f_LK_isLake μ x1) = 0 then (some (-2000001)) else (if x2 < 0 then (some (-2000001)) else (if x2 ≤ 9 then (G x1 35 (if x2 = 0 then (if (f_LA_isDouble μ x1.toNatClampNeg) = 0 then (some 0) else (some 1)) else (if x2 = 1 then ((f_RE_lowestOf μ (μ.2 (28 + x1.toNatClampNeg) 0)).bind fun v2 => some v2) else (if x2 = 2 then (some (μ.1 (28 + x1.toNatClampNeg) 1)) else (if x2 = 3 then (some (μ.1 (28 + x1.toNatClampNeg) 2)) else (if x2 = 4 then (some (μ.1 (28 + x1.toNatClampNeg) 3)) else (if x2 = 5 then (some (μ.1 (28 + x1.toNatClampNeg) 4)) else (if x2 = 6 then (some (f_JL_bitCount (μ.2 (28 + x1.toNatClampNeg) 0))) else (if x2 = 7 then (some (μ.1 (28 + x1.toNatClampNeg) 5)) else (if x2 = 8 then (if (μ.1 (28 + x1.toNatClampNeg) 6) = 0 then (some 0) else (some 1)) else (if (μ.1 (28 + x1.toNatClampNeg) 6) = 0 then (some 0) else (some (μ.1 (28 + x1.toNatClampNeg) 7))))))))))))) else (some (-2000001)))))
def f_LR_ground (μ : Mem) (x1 : Int32) (x2 : Int32) : Option (Int32) :=
  if (μ.1 0 3) = 0 then (some (-2)) else (if (f_LK_isLake μ x1) = 0 then (some (-1)) else (if (f_RE_isField μ x2) = 0 then (some (-1)) else (G x1 35 (if (f_LR_isIn (μ.2 (28 + x1.toNatClampNeg) 0) x2) = 0 then (some 0) else (some 1)))))
def f_LR_holds (μ : Mem) (x1 : Int32) (x2 : Int32) : Option (Int32) :=
  if (μ.1 0 3) = 0 then (some (-2)) else ((f_LK_isLevelOf μ x1 x2).bind fun v1 => if v1 = 0 then (some (-1)) else (G x1 35 ((f_RE_roomBelow μ (μ.2 (28 + x1.toNatClampNeg) 0) x2).bind fun v3 => some v3)))
def f_LR_area (μ : Mem) (x1 : Int32) (x2 : Int32) : Option (Int32) :=
  if (μ.1 0 3) = 0 then (some (-2)) else ((f_LK_isLevelOf μ x1 x2).bind fun v1 => if v1 = 0 then (some (-1)) else (G x1 35 ((f_RE_countBelow μ (μ.2 (28 + x1.toNatClampNeg) 0) x2).bind fun v3 => some v3)))
def f_LR_pour (μ : Mem) (x1 : Int32) (x2 : Int32) : Option (Int32 × Mem) :=
  if (μ.1 0 3) = 0 then (some ((-2), μ)) else (if (f_RE_isField μ x1) = 0 then (some ((-1), μ)) else (if x2 < 0 then (some ((-1), μ)) else (if x2 ≤ 1000000 then ((f_LK_takeGrains μ x1 x2).bind fun v1 => some (v1.1, v1.2)) else (some ((-1), μ)))))
def f_LR_level (μ : Mem) (x1 : Int32) (x2 : Int32) : Option (Int32) :=
  if (μ.1 0 3) = 0 then (some (-2000002)) else (if (f_LK_isLake μ x1) = 0 then (some (-2000001)) else (G x1 35 (if (μ.1 (28 + x1.toNatClampNeg) 6) = 0 then (some (-2000001)) else (if x2 < 0 then (some (-2000001)) else (if x2 ≤ 1 then (G x1 35 (G x1 35 ((if x2 = 0 then (some 1) else (some 0)).bind fun v4 => (f_RE_surface μ (μ.2 (28 + x1.toNatClampNeg) 0) (μ.1 (28 + x1.toNatClampNeg) 7) v4).bind fun v5 => some v5))) else (some (-2000001)))))))
def f_LR_isSeaLevel (x0 : Int32) : Int32 :=
  if x0 < (-1000000) then (0) else (if 1000001 < x0 then (0) else (1))
def f_LR_rise (μ : Mem) (x1 : Int32) : Option (Int32) :=
  if (μ.1 0 3) = 0 then (some (-2)) else (if (f_LR_isSeaLevel x1) = 0 then (some (-1)) else ((f_RE_landLeftAt μ x1).bind fun v1 => some ((μ.1 18 9) - (f_JL_bitCount v1))))
def f_LR_islands (μ : Mem) (x1 : Int32) : Option (Int32 × Mem) :=
  if (μ.1 0 3) = 0 then (some ((-2), μ)) else (if (f_LR_isSeaLevel x1) = 0 then (some ((-1), μ)) else ((f_RE_landLeftAt μ x1).bind fun v1 => (f_RE_piecesOf μ v1).bind fun v2 => some (v2.1, v2.2)))
def f_LR_count (μ : Mem) (x1 : Int32) : Option (Int64) :=
  if (μ.1 0 3) = 0 then (some (-2)) else (if x1 = 0 then (some ((μ.1 18 8).toInt64)) else (if x1 = 1 then (some ((μ.1 18 9).toInt64)) else (if x1 = 2 then ((f_RE_hollowCount μ).bind fun v1 => some v1.toInt64) else (if x1 = 3 then (some ((μ.1 26 1).toInt64)) else (if x1 = 4 then ((f_LK_numberThere μ).bind fun v2 => some v2.toInt64) else (if x1 = 5 then ((f_LK_waterThere μ).bind fun v3 => some v3) else (if x1 = 6 then (some (μ.2 26 2)) else (if x1 = 7 then (some (μ.2 26 3)) else (some (-1))))))))))
def f_MO_in (x0 : Int64) (x2 : Int64) (x4 : Int64) : Int32 :=
  if (lg_cmp x0 x2) < 0 then (0) else (if 0 < (lg_cmp x0 x4) then (0) else (1))
def f_MO_isStrip (x0 : Int32) : Option (Int32) :=
  Bg (f_MO_in x0.toInt64 0 7) (some (f_MO_in x0.toInt64 0 7))
def f_MO_strip_L69 (y1 : Int32) : Nat → Mem → Int32 → Option (Mem)
  | 0, _, _ => none
  | n + 1, ν, y4 =>
  if 12 ≤ y4 then (some ν) else (G ((12 * y1) + y4) 96 (f_MO_strip_L69 y1 n (sI ν 66 ((12 * y1) + y4).toNatClampNeg 0) (y4 + 1)))
def f_MO_strip (ν : Mem) (x1 : Int32) (x2 : Int32) (x3 : Int32) : Option (Int32 × Mem) :=
  (f_MO_isStrip x1).bind fun v1 => if v1 = 0 then (some ((-1), ν)) else (if (f_MO_in x2.toInt64 (-1) 2) = 0 then (some ((-1), ν)) else (if x2 < 0 then (if x2 < 0 then (G x1 8 ((if 0 ≤ x2 then (some x3) else (some 0)).bind fun v3 => G x1 8 ((f_MO_strip_L69 x1 FU (sI (sI ν 64 x1.toNatClampNeg x2) 65 x1.toNatClampNeg v3) 0).bind fun v6 => some (0, v6)))) else (if 0 ≤ x3 then (G x1 8 ((if 0 ≤ x2 then (some x3) else (some 0)).bind fun v8 => G x1 8 ((f_MO_strip_L69 x1 FU (sI (sI ν 64 x1.toNatClampNeg x2) 65 x1.toNatClampNeg v8) 0).bind fun v11 => some (0, v11)))) else (some ((-13), ν)))) else (if x3 ≤ 12 then (if x2 < 0 then (G x1 8 ((if 0 ≤ x2 then (some x3) else (some 0)).bind fun v13 => G x1 8 ((f_MO_strip_L69 x1 FU (sI (sI ν 64 x1.toNatClampNeg x2) 65 x1.toNatClampNeg v13) 0).bind fun v16 => some (0, v16)))) else (if 0 ≤ x3 then (G x1 8 ((if 0 ≤ x2 then (some x3) else (some 0)).bind fun v18 => G x1 8 ((f_MO_strip_L69 x1 FU (sI (sI ν 64 x1.toNatClampNeg x2) 65 x1.toNatClampNeg v18) 0).bind fun v21 => some (0, v21)))) else (some ((-13), ν)))) else (some ((-1), ν)))))
def f_MO_against (ν : Mem) (x1 : Int32) (x2 : Int32) : Option (Int32) :=
  (f_MO_isStrip x1).bind fun v1 => if v1 = 0 then (some (-1)) else (G x1 8 (if 0 ≤ (ν.1 64 x1.toNatClampNeg) then (G x1 8 (if (f_MO_in x2.toInt64 0 (((ν.1 65 x1.toNatClampNeg) - 1).toInt64)) = 0 then (some (-12)) else (some 0))) else (some (-11))))
def f_MO_put (ν : Mem) (x1 : Int32) (x2 : Int32) (x3 : Int32) : Option (Int32 × Mem) :=
  (f_MO_against ν x1 x2).bind fun v1 => (if v1 = 0 then (G x1 8 ((if (ν.1 64 x1.toNatClampNeg) = 0 then (some x3.toInt8.toInt32) else (G x1 8 (if (ν.1 64 x1.toNatClampNeg) = 1 then (some x3.toInt16.toInt32) else (some x3)))).bind fun v4 => G ((12 * x1) + x2) 96 (some (sI ν 66 ((12 * x1) + x2).toNatClampNeg v4)))) else (some ν)).bind fun v2 => some (v1, v2)
def f_MO_copy_L110 (y1 : Int32) (y2 : Int32) (y3 : Int32) (y4 : Int32) (y5 : Int32) : Nat → Mem → Int32 → Option (Mem)
  | 0, _, _ => none
  | n + 1, ν, y6 =>
  if y5 ≤ y6 then (some ν) else (G (((12 * y1) + y2) + y6) 96 (G y6 12 (f_MO_copy_L110 y1 y2 y3 y4 y5 n (sI ν 80 y6.toNatClampNeg (ν.1 66 (((12 * y1) + y2) + y6).toNatClampNeg)) (y6 + 1))))
def f_MO_copy_L147 (y3 : Int32) (y4 : Int32) (y5 : Int32) : Nat → Mem → Int32 → Option (Mem)
  | 0, _, _ => none
  | n + 1, ν, y6 =>
  if y5 ≤ y6 then (some ν) else (G y6 12 (G (((12 * y3) + y4) + y6) 96 (f_MO_copy_L147 y3 y4 y5 n (sI ν 66 (((12 * y3) + y4) + y6).toNatClampNeg (ν.1 80 y6.toNatClampNeg)) (y6 + 1))))
def f_MO_copy (ν : Mem) (x1 : Int32) (x2 : Int32) (x3 : Int32) (x4 : Int32) (x5 : Int32) : Option (Int32 × Mem) :=
  (f_MO_isStrip x1).bind fun v1 => if v1 = 0 then (some ((-1), ν)) else ((f_MO_isStrip x3).bind fun v2 => if v2 = 0 then (some ((-1), ν)) else (G x1 8 (if (ν.1 64 x1.toNatClampNeg) < 0 then (some ((-11), ν)) else (G x3 8 (if 0 ≤ (ν.1 64 x3.toNatClampNeg) then (G x1 8 (G x3 8 (if (ν.1 64 x1.toNatClampNeg) = (ν.1 64 x3.toNatClampNeg) then (if x5 < 0 then (some ((-12), ν)) else (if x2 < 0 then (some ((-12), ν)) else (if x4 < 0 then (some ((-12), ν)) else (G x1 8 (if 0 < (lg_cmp (x2.toInt64 + x5.toInt64) ((ν.1 65 x1.toNatClampNeg).toInt64)) then (some ((-12), ν)) else (G x3 8 (if (lg_cmp (x4.toInt64 + x5.toInt64) ((ν.1 65 x3.toNatClampNeg).toInt64)) ≤ 0 then ((f_MO_copy_L110 x1 x2 x3 x4 x5 FU ν 0).bind fun v11 => (f_MO_copy_L147 x3 x4 x5 FU v11 0).bind fun v14 => some (0, v14)) else (some ((-12), ν))))))))) else (some ((-14), ν))))) else (some ((-11), ν)))))))
def f_MO_told (ν : Mem) (x1 : Int32) (x2 : Int32) : Option (Int64) :=
  (f_MO_against ν x1 x2).bind fun v1 => if v1 = 0 then (G ((12 * x1) + x2) 96 (some ((ν.1 66 ((12 * x1) + x2).toNatClampNeg).toInt64))) else (some (10000000000 - v1.toInt64))
def f_MO_beside (ν : Mem) (x1 : Int32) (x2 : Int32) : Option (Int32) :=
  Zg (ν.1 63 4) (Zg (ν.1 63 4) (if x2 = 0 then (if (x1 / (ν.1 63 4)) ≤ 0 then (some 64) else (some (x1 - (ν.1 63 4)))) else (if x2 = 1 then (if (x1 - x1 / (ν.1 63 4) * (ν.1 63 4)) ≤ 0 then (some 64) else (some (x1 - 1))) else (if x2 = 2 then (if ((ν.1 63 4) - 1) ≤ (x1 - x1 / (ν.1 63 4) * (ν.1 63 4)) then (some 64) else (some (x1 + 1))) else (if (ν.1 63 5) ≤ (x1 + (ν.1 63 4)) then (some 64) else (some (x1 + (ν.1 63 4))))))))
def f_MO_isWet (ν : Mem) (x1 : Int32) : Option (Int32) :=
  if x1 = 64 then (some 1) else (G x1 64 (if (ν.1 67 x1.toNatClampNeg) = 0 then (some 0) else (some 1)))
def f_MO_isLower (ν : Mem) (x1 : Int32) (x2 : Int32) : Option (Int32) :=
  G x1 64 (G x2 64 (if (ν.1 68 x1.toNatClampNeg) = (ν.1 68 x2.toNatClampNeg) then (if x2 ≤ x1 then (some 0) else (some 1)) else (G x1 64 (G x2 64 (if (ν.1 68 x2.toNatClampNeg) ≤ (ν.1 68 x1.toNatClampNeg) then (some 0) else (some 1))))))
def f_MO_layDown_L7 (ν : Mem) (y1 : Int32) : Nat → Int32 → Int32 → Int32 → Option (Int32 × Int32)
  | 0, _, _, _ => none
  | n + 1, y2, y3, y4 =>
  if 4 ≤ y4 then (some (y2, y3)) else ((f_MO_beside ν y1 y4).bind fun v1 => (if y3 = 0 then ((f_MO_isWet ν v1).bind fun v3 => if v3 = 0 then (some 0) else (some 1)) else (some 1)).bind fun v2 => (f_MO_isWet ν v1).bind fun v4 => (if v4 = 0 then ((f_MO_isLower ν v1 y2).bind fun v6 => if v6 = 0 then (some y2) else (some v1)) else (some y2)).bind fun v5 => f_MO_layDown_L7 ν y1 n v5 v2 (y4 + 1))
def f_MO_layDown (ν : Mem) (x1 : Int32) : Option (Mem) :=
  (f_MO_layDown_L7 ν x1 FU x1 0 0).bind fun v7 => (if v7.2 = 0 then (if v7.1 = x1 then (some (-3)) else (some v7.1)) else (some (-5))).bind fun v8 => G x1 64 (some (sI ν 69 x1.toNatClampNeg v8))
def f_MO_endOf_L2 (ν : Mem)  : Nat → Int32 → Option (Int32)
  | 0, _ => none
  | n + 1, y2 =>
  if y2 < 0 then (some y2) else (G y2 64 (if (ν.1 69 y2.toNatClampNeg) < 0 then (some y2) else (G y2 64 (f_MO_endOf_L2 ν n (ν.1 69 y2.toNatClampNeg)))))
def f_MO_endOf (ν : Mem) (x1 : Int32) : Option (Int32) :=
  (f_MO_endOf_L2 ν FU x1).bind fun v3 => G v3 64 (if (ν.1 69 v3.toNatClampNeg) = (-5) then (some (-5)) else (some v3))
def f_MO_layFill_L2  : Nat → Mem → Int32 → Option (Mem)
  | 0, _, _ => none
  | n + 1, ν, y1 =>
  if (ν.1 63 5) ≤ y1 then (some ν) else (G y1 64 (f_MO_layFill_L2 n (sI ν 71 y1.toNatClampNeg 3000000) (y1 + 1)))
def f_MO_layFill_L52 (ν : Mem) (y1 : Int32) (y2 : Int32) : Nat → Int32 → Int32 → Option (Int32)
  | 0, _, _ => none
  | n + 1, y3, y4 =>
  if 4 ≤ y4 then (some y3) else (G y2 64 (if (ν.1 67 y2.toNatClampNeg) = 0 then ((f_MO_beside ν y2 y4).bind fun v5 => (f_MO_isWet ν v5).bind fun v6 => (if v6 = 0 then (G v5 64 (G y2 64 (if (ν.1 71 v5.toNatClampNeg) ≤ (ν.1 68 y2.toNatClampNeg) then (G y2 64 (some (ν.1 68 y2.toNatClampNeg))) else (G v5 64 (some (ν.1 71 v5.toNatClampNeg)))))) else (G y2 64 (some (ν.1 68 y2.toNatClampNeg)))).bind fun v7 => (if y3 ≤ v7 then (some y3) else (some v7)).bind fun v13 => f_MO_layFill_L52 ν y1 y2 n v13 (y4 + 1)) else (some y3)))
def f_MO_layFill_L34  : Nat → Mem → Int32 → Int32 → Option (Int32 × Mem)
  | 0, _, _, _ => none
  | n + 1, ν, y1, y2 =>
  if (ν.1 63 5) ≤ y2 then (some (y1, ν)) else (G y2 64 ((f_MO_layFill_L52 ν y1 y2 FU (ν.1 71 y2.toNatClampNeg) 0).bind fun v14 => (if y1 = 0 then (G y2 64 (if (ν.1 71 y2.toNatClampNeg) ≤ v14 then (some 0) else (some 1))) else (some 1)).bind fun v15 => G y2 64 (f_MO_layFill_L34 n (sI ν 71 y2.toNatClampNeg v14) v15 (y2 + 1))))
def f_MO_layFill_L26  : Nat → Mem → Int32 → Option (Mem)
  | 0, _, _ => none
  | n + 1, ν, y1 =>
  if y1 = 0 then (some ν) else ((f_MO_layFill_L34 FU ν 0 0).bind fun v18 => f_MO_layFill_L26 n v18.2 v18.1)
def f_MO_layFill (ν : Mem)  : Option (Mem) :=
  (f_MO_layFill_L2 FU ν 0).bind fun v2 => (f_MO_layFill_L26 FU v2 1).bind fun v19 => some v19
def f_MO_newLake (ν : Mem)  : Option (Int32 × Mem) :=
  G (ν.1 63 11) 64 (G (ν.1 63 11) 64 (G (ν.1 63 11) 64 (G (ν.1 63 11) 64 (G (ν.1 63 11) 64 (G (ν.1 63 11) 64 (G (ν.1 63 11) 64 (G (ν.1 63 11) 64 (some ((ν.1 63 11), (sI (sI (sI (sI (sI (sI (sJ (sI (sI ν 63 11 ((ν.1 63 11) + 1)) 72 (ν.1 63 11).toNatClampNeg (0 &&& 1)) 73 (ν.1 63 11).toNatClampNeg 0) 74 (ν.1 63 11).toNatClampNeg (-3)) 75 (ν.1 63 11).toNatClampNeg (-3)) 76 (ν.1 63 11).toNatClampNeg (-3)) 77 (ν.1 63 11).toNatClampNeg (-3)) 78 (ν.1 63 11).toNatClampNeg (0 &&& 1)) 79 (ν.1 63 11).toNatClampNeg 0))))))))))
def f_MO_joins (ν : Mem) (x1 : Int32) (x2 : Int32) : Option (Mem) :=
  G x1 64 (G x1 64 (G x2 64 (some (sI (sJ ν 73 x1.toNatClampNeg ((ν.2 73 x1.toNatClampNeg) ||| ((1 : Int64) <<< (x2.toInt64 &&& 63)))) 81 x2.toNatClampNeg x1))))
def f_MO_becomes_L2 (y1 : Int32) (y2 : Int32) : Nat → Mem → Int32 → Option (Mem)
  | 0, _, _ => none
  | n + 1, ν, y3 =>
  if (ν.1 63 5) ≤ y3 then (some ν) else (G y3 64 ((if (ν.1 82 y3.toNatClampNeg) = 0 then (some ν) else (G y3 64 (if (ν.1 81 y3.toNatClampNeg) = y1 then (G y3 64 (some (sI ν 81 y3.toNatClampNeg y2))) else (some ν)))).bind fun v2 => f_MO_becomes_L2 y1 y2 n v2 (y3 + 1)))
def f_MO_becomes (ν : Mem) (x1 : Int32) (x2 : Int32) : Option (Mem) :=
  (f_MO_becomes_L2 x1 x2 FU ν 0).bind fun v5 => some v5
def f_MO_lookBeside_L74 (ν : Mem) (y1 : Int32) (y2 : Int32) (y3 : Int32) (y4 : Int32) : Nat → Int32 → Int32 → Option (Int32)
  | 0, _, _ => none
  | n + 1, y5, y6 =>
  if (ν.1 63 26) ≤ y6 then (some y5) else ((if y5 = 0 then (G y6 4 (G y4 64 (if (ν.1 83 y6.toNatClampNeg) = (ν.1 81 y4.toNatClampNeg) then (some 1) else (some 0)))) else (some 1)).bind fun v6 => f_MO_lookBeside_L74 ν y1 y2 y3 y4 n v6 (y6 + 1))
def f_MO_lookBeside_L129 (y1 : Int32) (y2 : Int32) (y3 : Int32) (y4 : Int32) : Nat → Mem → Int32 → Option (Int32 × Mem)
  | 0, _, _ => none
  | n + 1, ν, y6 =>
  if y6 ≤ 0 then (some (y6, ν)) else (G (y6 - 1) 4 (G y4 64 (if (ν.1 83 (y6 - 1).toNatClampNeg) ≤ (ν.1 81 y4.toNatClampNeg) then (some (y6, ν)) else (G (y6 - 1) 4 (G y6 4 (f_MO_lookBeside_L129 y1 y2 y3 y4 n (sI ν 83 y6.toNatClampNeg (ν.1 83 (y6 - 1).toNatClampNeg)) (y6 + (-1))))))))
def f_MO_lookBeside_L9 (y1 : Int32) : Nat → Mem → Int32 → Int32 → Option (Int32 × Mem)
  | 0, _, _, _ => none
  | n + 1, ν, y2, y3 =>
  if 4 ≤ y3 then (some (y2, ν)) else ((f_MO_beside ν y1 y3).bind fun v1 => (f_MO_isWet ν v1).bind fun v2 => (if v2 = 0 then (G v1 64 (if (ν.1 82 v1.toNatClampNeg) = 0 then (G v1 64 (if (ν.1 82 v1.toNatClampNeg) = 0 then (some (y2, ν)) else ((f_MO_lookBeside_L74 ν y1 y2 y3 v1 FU 0 0).bind fun v9 => if v9 = 0 then ((f_MO_lookBeside_L129 y1 y2 y3 v1 FU ν (ν.1 63 26)).bind fun v14 => G v1 64 (G v14.1 4 (some (y2, (sI (sI v14.2 83 v14.1.toNatClampNeg (v14.2.1 81 v1.toNatClampNeg)) 63 26 (((sI v14.2 83 v14.1.toNatClampNeg (v14.2.1 81 v1.toNatClampNeg)).1 63 26) + 1)))))) else (some (y2, ν))))) else (G v1 64 (if (ν.1 81 v1.toNatClampNeg) = (-5) then (some (1, ν)) else (G v1 64 (if (ν.1 82 v1.toNatClampNeg) = 0 then (some (y2, ν)) else ((f_MO_lookBeside_L74 ν y1 y2 y3 v1 FU 0 0).bind fun v22 => if v22 = 0 then ((f_MO_lookBeside_L129 y1 y2 y3 v1 FU ν (ν.1 63 26)).bind fun v27 => G v1 64 (G v27.1 4 (some (y2, (sI (sI v27.2 83 v27.1.toNatClampNeg (v27.2.1 81 v1.toNatClampNeg)) 63 26 (((sI v27.2 83 v27.1.toNatClampNeg (v27.2.1 81 v1.toNatClampNeg)).1 63 26) + 1)))))) else (some (y2, ν))))))))) else (some (1, ν))).bind fun v3 => f_MO_lookBeside_L9 y1 n v3.2 v3.1 (y3 + 1))
def f_MO_lookBeside (ν : Mem) (x1 : Int32) : Option (Int32 × Mem) :=
  (f_MO_lookBeside_L9 x1 FU (sI ν 63 26 0) 0 0).bind fun v30 => Bg v30.1 (some (v30.1, v30.2))
def f_MO_twice (ν : Mem) (x1 : Int32) (x2 : Int32) (x3 : Int32) : Option (Int32 × Mem) :=
  (f_MO_newLake ν).bind fun v1 => G v1.1 64 ((if x2 ≤ x1 then (some x2) else (some x1)).bind fun v3 => G v1.1 64 ((if x2 ≤ x1 then (some x1) else (some x2)).bind fun v5 => G v1.1 64 (G x1 64 (G x2 64 (G v1.1 64 (G x1 64 (G x2 64 (G x1 64 (G x2 64 ((f_MO_becomes (sI (sI (sI (sI (sJ (sI (sI (sI v1.2 72 v1.1.toNatClampNeg (1 &&& 1)) 76 v1.1.toNatClampNeg v3) 77 v1.1.toNatClampNeg v5) 73 v1.1.toNatClampNeg (((sI (sI (sI v1.2 72 v1.1.toNatClampNeg (1 &&& 1)) 76 v1.1.toNatClampNeg v3) 77 v1.1.toNatClampNeg v5).2 73 x1.toNatClampNeg) ||| ((sI (sI (sI v1.2 72 v1.1.toNatClampNeg (1 &&& 1)) 76 v1.1.toNatClampNeg v3) 77 v1.1.toNatClampNeg v5).2 73 x2.toNatClampNeg))) 74 x1.toNatClampNeg x3) 74 x2.toNatClampNeg x3) 75 x1.toNatClampNeg v1.1) 75 x2.toNatClampNeg v1.1) x1 v1.1).bind fun v14 => (f_MO_becomes v14 x2 v1.1).bind fun v15 => some (v1.1, v15)))))))))))
def f_MO_goUnder_L103 (y1 : Int32) : Nat → Mem → Int32 → Int32 → Option (Int32 × Mem)
  | 0, _, _, _ => none
  | n + 1, ν, y3, y4 =>
  if (ν.1 63 26) ≤ y4 then (some (y3, ν)) else (G y4 4 ((f_MO_twice ν y3 (ν.1 83 y4.toNatClampNeg) y1).bind fun v5 => f_MO_goUnder_L103 y1 n v5.2 v5.1 (y4 + 1)))
def f_MO_goUnder_L12 (y1 : Int32) : Nat → Mem → Int32 → Option (Mem)
  | 0, _, _ => none
  | n + 1, ν, y3 =>
  if (ν.1 63 26) ≤ y3 then (some ν) else (G y3 4 (G (ν.1 83 y3.toNatClampNeg) 64 (G y3 4 (G ((sI ν 74 (ν.1 83 y3.toNatClampNeg).toNatClampNeg y1).1 83 y3.toNatClampNeg) 64 (G y3 4 ((f_MO_becomes (sI (sI ν 74 (ν.1 83 y3.toNatClampNeg).toNatClampNeg y1) 75 ((sI ν 74 (ν.1 83 y3.toNatClampNeg).toNatClampNeg y1).1 83 y3.toNatClampNeg).toNatClampNeg (-5)) ((sI (sI ν 74 (ν.1 83 y3.toNatClampNeg).toNatClampNeg y1) 75 ((sI ν 74 (ν.1 83 y3.toNatClampNeg).toNatClampNeg y1).1 83 y3.toNatClampNeg).toNatClampNeg (-5)).1 83 y3.toNatClampNeg) (-5)).bind fun v15 => f_MO_goUnder_L12 y1 n v15 (y3 + 1)))))))
def f_MO_goUnder (ν : Mem) (x1 : Int32) : Option (Mem) :=
  (f_MO_lookBeside ν x1).bind fun v1 => (if v1.1 = 0 then (if (v1.2.1 63 26) = 0 then ((f_MO_newLake v1.2).bind fun v8 => (f_MO_joins v8.2 v8.1 x1).bind fun v9 => some v9) else (G 0 4 ((f_MO_goUnder_L103 x1 FU v1.2 (v1.2.1 83 (0 : Int32).toNatClampNeg) 1).bind fun v6 => (f_MO_joins v6.2 v6.1 x1).bind fun v7 => some v7))) else ((f_MO_goUnder_L12 x1 FU v1.2 0).bind fun v16 => G x1 64 (some (sI v16 81 x1.toNatClampNeg (-5))))).bind fun v2 => G x1 64 (some (sI v2 82 x1.toNatClampNeg (1 &&& 1)))
def f_MO_layLakes_L7  : Nat → Mem → Int32 → Option (Mem)
  | 0, _, _ => none
  | n + 1, ν, y1 =>
  if (ν.1 63 5) ≤ y1 then (some ν) else (G y1 64 (G y1 64 (f_MO_layLakes_L7 n (sI (sI ν 82 y1.toNatClampNeg (0 &&& 1)) 81 y1.toNatClampNeg (-3)) (y1 + 1))))
def f_MO_layLakes_L51 (ν : Mem) (y1 : Int32) : Nat → Int32 → Int32 → Option (Int32)
  | 0, _, _ => none
  | n + 1, y2, y3 =>
  if (ν.1 63 5) ≤ y3 then (some y2) else (G y3 64 ((if (ν.1 67 y3.toNatClampNeg) = 0 then (G y3 64 (if (ν.1 82 y3.toNatClampNeg) = 0 then (if y2 = (-3) then (some y3) else ((f_MO_isLower ν y3 y2).bind fun v7 => if v7 = 0 then (some y2) else (some y3))) else (some y2))) else (some y2)).bind fun v5 => f_MO_layLakes_L51 ν y1 n v5 (y3 + 1)))
def f_MO_layLakes_L38  : Nat → Mem → Int32 → Option (Mem)
  | 0, _, _ => none
  | n + 1, ν, y1 =>
  if (ν.1 63 5) ≤ y1 then (some ν) else ((f_MO_layLakes_L51 ν y1 FU (-3) 0).bind fun v8 => (if v8 = (-3) then (some ν) else ((f_MO_goUnder ν v8).bind fun v10 => some v10)).bind fun v9 => f_MO_layLakes_L38 n v9 (y1 + 1))
def f_MO_layLakes_L119  : Nat → Mem → Int32 → Option (Mem)
  | 0, _, _ => none
  | n + 1, ν, y1 =>
  if (ν.1 63 11) ≤ y1 then (some ν) else (G y1 64 ((if (ν.1 72 y1.toNatClampNeg) = 0 then (some 1) else (some 0)).bind fun v13 => G y1 64 (f_MO_layLakes_L119 n (sI ν 78 y1.toNatClampNeg (v13 &&& 1)) (y1 + 1))))
def f_MO_layLakes (ν : Mem)  : Option (Mem) :=
  (f_MO_layLakes_L7 FU (sI ν 63 11 0) 0).bind fun v3 => (f_MO_layLakes_L38 FU v3 0).bind fun v11 => (f_MO_layLakes_L119 FU v11 0).bind fun v15 => some v15
def f_MO_stripAt (ν : Mem) (x1 : Int32) (x2 : Int32) : Option (Int32) :=
  G ((12 * x1) + x2) 96 (some (ν.1 66 ((12 * x1) + x2).toNatClampNeg))
def f_MO_isPlace (ν : Mem) (x1 : Int32) (x2 : Int32) : Option (Int32) :=
  G x1 8 (if (ν.1 64 x1.toNatClampNeg) < 0 then (some 0) else (G x1 8 (if (ν.1 65 x1.toNatClampNeg) ≤ x2 then (some 0) else (some 1))))
def f_MO_lay_L36 (ν : Mem) (y1 : Int32) (y2 : Int32) (y3 : Int32) (K : Unit → Option (Int32 × Mem)) : Nat → Int32 → Option (Int32 × Mem)
  | 0, _ => none
  | n + 1, y4 =>
  if y1 ≤ y4 then (K ()) else ((f_MO_isPlace ν y3 y4).bind fun v1 => if v1 = 0 then (f_MO_lay_L36 ν y1 y2 y3 K n (y4 + 1)) else ((f_MO_stripAt ν y3 y4).bind fun v2 => if (f_MO_in v2.toInt64 (-1000000) 1000000) = 0 then (some ((-1), ν)) else (f_MO_lay_L36 ν y1 y2 y3 K n (y4 + 1))))
def f_MO_lay_L28 (ν : Mem) (y1 : Int32) (y2 : Int32) (K : Unit → Option (Int32 × Mem)) : Nat → Int32 → Option (Int32 × Mem)
  | 0, _ => none
  | n + 1, y3 =>
  if y2 ≤ y3 then (K ()) else (f_MO_lay_L36 ν y1 y2 y3 (fun _ => f_MO_lay_L28 ν y1 y2 K n (y3 + 1)) FU 0)
def f_MO_lay_L108 (y1 : Int32) : Nat → Mem → Int32 → Int32 → Option (Int32 × Mem)
  | 0, _, _, _ => none
  | n + 1, ν, y3, y4 =>
  if (ν.1 63 5) ≤ y4 then (some (y3, ν)) else (Zg y1 (Zg y1 ((f_MO_isPlace ν (y4 / y1) (y4 - y4 / y1 * y1)).bind fun v7 => (if v7 = 0 then (some 1) else (some 0)).bind fun v8 => G y4 64 (G y4 64 ((if ((sI ν 67 y4.toNatClampNeg (v8 &&& 1)).1 67 y4.toNatClampNeg) = 0 then (Zg y1 (Zg y1 ((f_MO_stripAt (sI ν 67 y4.toNatClampNeg (v8 &&& 1)) (y4 / y1) (y4 - y4 / y1 * y1)).bind fun v14 => some v14))) else (some 0)).bind fun v11 => G y4 64 (G y4 64 ((if ((sI (sI ν 67 y4.toNatClampNeg (v8 &&& 1)) 68 y4.toNatClampNeg v11).1 67 y4.toNatClampNeg) = 0 then (some 1) else (some 0)).bind fun v17 => f_MO_lay_L108 y1 n (sI (sI ν 67 y4.toNatClampNeg (v8 &&& 1)) 68 y4.toNatClampNeg v11) (y3 + v17) (y4 + 1))))))))
def f_MO_lay_L204 (y3 : Int32) : Nat → Mem → Int32 → Option (Mem)
  | 0, _, _ => none
  | n + 1, ν, y4 =>
  if (ν.1 63 5) ≤ y4 then (some ν) else (G y4 64 ((if (ν.1 67 y4.toNatClampNeg) = 0 then ((f_MO_layDown ν y4).bind fun v21 => some v21) else (some ν)).bind fun v20 => f_MO_lay_L204 y3 n v20 (y4 + 1)))
def f_MO_lay_L238 (y3 : Int32) : Nat → Mem → Int32 → Option (Mem)
  | 0, _, _ => none
  | n + 1, ν, y4 =>
  if (ν.1 63 5) ≤ y4 then (some ν) else (G y4 64 ((if (ν.1 67 y4.toNatClampNeg) = 0 then ((f_MO_endOf ν y4).bind fun v25 => some v25) else (some (-5))).bind fun v24 => G y4 64 (f_MO_lay_L238 y3 n (sI ν 70 y4.toNatClampNeg v24) (y4 + 1))))
def f_MO_lay (ν : Mem) (x1 : Int32) (x2 : Int32) : Option (Int32 × Mem) :=
  if (f_MO_in x1.toInt64 1 8) = 0 then (some ((-1), ν)) else (if (f_MO_in x2.toInt64 1 8) = 0 then (some ((-1), ν)) else (f_MO_lay_L28 ν x1 x2 (fun _ => (f_MO_lay_L108 x1 FU (sI (sI (sI ν 63 3 1) 63 4 x1) 63 5 (x1 * x2)) 0 0).bind fun v18 => (f_MO_lay_L204 v18.1 FU v18.2 0).bind fun v22 => (f_MO_lay_L238 v18.1 FU v22 0).bind fun v27 => (f_MO_layFill v27).bind fun v28 => (f_MO_layLakes v28).bind fun v29 => some (v18.1, (sJ (sJ v29 63 20 0) 63 21 0))) FU 0))
def f_MO_isField (ν : Mem) (x1 : Int32) : Option (Int32) :=
  Bg (f_MO_in x1.toInt64 0 (((ν.1 63 5) - 1).toInt64)) (some (f_MO_in x1.toInt64 0 (((ν.1 63 5) - 1).toInt64)))
def f_MO_isOf (ν : Mem) (x1 : Int32) (x2 : Int32) : Option (Int32) :=
  G x1 64 (if (lg_cmp (((ν.2 73 x1.toNatClampNeg) >>> (x2.toInt64 &&& 63)) &&& 1) 1) = 0 then (some 1) else (some 0))
def f_MO_lakeAt_L5 (ν : Mem) (y1 : Int32) : Nat → Int32 → Int32 → Option (Int32)
  | 0, _, _ => none
  | n + 1, y2, y3 =>
  if (ν.1 63 11) ≤ y3 then (some y2) else (G y3 64 ((if (ν.1 78 y3.toNatClampNeg) = 0 then (some y2) else ((f_MO_isOf ν y3 y1).bind fun v3 => if v3 = 0 then (some y2) else (some y3))).bind fun v2 => f_MO_lakeAt_L5 ν y1 n v2 (y3 + 1)))
def f_MO_lakeAt (ν : Mem) (x1 : Int32) : Option (Int32) :=
  (f_MO_lakeAt_L5 ν x1 FU (-3) 0).bind fun v4 => some v4
def f_MO_field (ν : Mem) (x1 : Int32) (x2 : Int32) : Option (Int32) :=
  if (ν.1 63 3) = 0 then (some (-2000002)) else ((f_MO_isField ν x1).bind fun v1 => if v1 = 0 then (some (-2000001)) else (if (f_MO_in x2.toInt64 0 5) = 0 then (some (-2000001)) else (G x1 64 (if (ν.1 67 x1.toNatClampNeg) = 0 then (if x2 = 0 then (some 0) else (if x2 = 1 then (G x1 64 (some (ν.1 68 x1.toNatClampNeg))) else (if x2 = 2 then (G x1 64 (some (ν.1 69 x1.toNatClampNeg))) else (if x2 = 3 then (G x1 64 (some (ν.1 70 x1.toNatClampNeg))) else (if x2 = 4 then (G x1 64 (some (ν.1 71 x1.toNatClampNeg))) else ((f_MO_lakeAt ν x1).bind fun v7 => some v7)))))) else (if x2 = 0 then (some 1) else (if x2 = 5 then (some (-3)) else (some 0)))))))
def f_MO_hollow_L20 (ν : Mem)  (K : Unit → Option (Int32)) : Nat → Int32 → Int32 → Option (Int32)
  | 0, _, _ => none
  | n + 1, y2, y3 =>
  if (ν.1 63 5) ≤ y3 then (K ()) else (G y3 64 (if (ν.1 67 y3.toNatClampNeg) = 0 then (G y3 64 (if (ν.1 69 y3.toNatClampNeg) = (-3) then (if y2 = 0 then (some y3) else (f_MO_hollow_L20 ν K n (y2 + (-1)) (y3 + 1))) else (f_MO_hollow_L20 ν K n y2 (y3 + 1)))) else (f_MO_hollow_L20 ν K n y2 (y3 + 1))))
def f_MO_hollow (ν : Mem) (x1 : Int32) : Option (Int32) :=
  if (ν.1 63 3) = 0 then (some (-2)) else (if 0 ≤ x1 then (f_MO_hollow_L20 ν (fun _ => some (-3)) FU x1 0) else (some (-1)))
def f_MO_isLake (ν : Mem) (x1 : Int32) : Option (Int32) :=
  Bg (f_MO_in x1.toInt64 0 (((ν.1 63 11) - 1).toInt64)) (some (f_MO_in x1.toInt64 0 (((ν.1 63 11) - 1).toInt64)))
def f_MO_holdsTo_L5 (ν : Mem) (y1 : Int32) (y2 : Int32) : Nat → Int32 → Int32 → Option (Int32)
  | 0, _, _ => none
  | n + 1, y3, y4 =>
  if (ν.1 63 5) ≤ y4 then (some y3) else ((f_MO_isOf ν y1 y4).bind fun v1 => (if v1 = 0 then (some 0) else (G y4 64 (if y2 ≤ (ν.1 68 y4.toNatClampNeg) then (some 0) else (G y4 64 (some (y2 - (ν.1 68 y4.toNatClampNeg))))))).bind fun v2 => f_MO_holdsTo_L5 ν y1 y2 n (y3 + v2) (y4 + 1))
def f_MO_holdsTo (ν : Mem) (x1 : Int32) (x2 : Int32) : Option (Int32) :=
  (f_MO_holdsTo_L5 ν x1 x2 FU 0 0).bind fun v5 => some v5
def f_MO_most (ν : Mem) (x1 : Int32) : Option (Int32) :=
  G x1 64 (G (ν.1 74 x1.toNatClampNeg) 64 ((f_MO_holdsTo ν x1 (ν.1 68 (ν.1 74 x1.toNatClampNeg).toNatClampNeg)).bind fun v3 => some v3))
def f_MO_lowest_L5 (ν : Mem) (y1 : Int32) : Nat → Int32 → Int32 → Option (Int32)
  | 0, _, _ => none
  | n + 1, y2, y3 =>
  if (ν.1 63 5) ≤ y3 then (some y2) else ((f_MO_isOf ν y1 y3).bind fun v1 => (if v1 = 0 then (some y2) else (if y2 = (-3) then (some y3) else ((f_MO_isLower ν y3 y2).bind fun v3 => if v3 = 0 then (some y2) else (some y3)))).bind fun v2 => f_MO_lowest_L5 ν y1 n v2 (y3 + 1))
def f_MO_lowest (ν : Mem) (x1 : Int32) : Option (Int32) :=
  (f_MO_lowest_L5 ν x1 FU (-3) 0).bind fun v4 => some v4
def f_MO_groundSize_L4 (ν : Mem) (y1 : Int32) : Nat → Int32 → Int32 → Option (Int32)
  | 0, _, _ => none
  | n + 1, y2, y3 =>
  if (ν.1 63 5) ≤ y3 then (some y2) else ((f_MO_isOf ν y1 y3).bind fun v1 => (if v1 = 0 then (some 0) else (some 1)).bind fun v2 => f_MO_groundSize_L4 ν y1 n (y2 + v2) (y3 + 1))
def f_MO_groundSize (ν : Mem) (x1 : Int32) : Option (Int32) :=
  (f_MO_groundSize_L4 ν x1 FU 0 0).bind fun v3 => some v3
def f_MO_lake (ν : Mem) (x1 : Int32) (x2 : Int32) : Option (Int32) :=
  if (ν.1 63 3) = 0 then (some (-2000002)) else ((f_MO_isLake ν x1).bind fun v1 => if v1 = 0 then (some (-2000001)) else (if (f_MO_in x2.toInt64 0 9) = 0 then (some (-2000001)) else (if x2 = 0 then (G x1 64 (if (ν.1 72 x1.toNatClampNeg) = 0 then (some 0) else (some 1))) else (if x2 = 1 then ((f_MO_lowest ν x1).bind fun v3 => some v3) else (if x2 = 2 then (G x1 64 (some (ν.1 74 x1.toNatClampNeg))) else (if x2 = 3 then (G x1 64 (some (ν.1 75 x1.toNatClampNeg))) else (if x2 = 4 then (G x1 64 (some (ν.1 76 x1.toNatClampNeg))) else (if x2 = 5 then (G x1 64 (some (ν.1 77 x1.toNatClampNeg))) else (if x2 = 6 then ((f_MO_groundSize ν x1).bind fun v8 => some v8) else (if x2 = 7 then ((f_MO_most ν x1).bind fun v9 => some v9) else (if x2 = 8 then (G x1 64 (if (ν.1 78 x1.toNatClampNeg) = 0 then (some 0) else (some 1))) else (G x1 64 (if (ν.1 78 x1.toNatClampNeg) = 0 then (some 0) else (G x1 64 (some (ν.1 79 x1.toNatClampNeg))))))))))))))))
def f_MO_ground (ν : Mem) (x1 : Int32) (x2 : Int32) : Option (Int32) :=
  if (ν.1 63 3) = 0 then (some (-2)) else ((f_MO_isLake ν x1).bind fun v1 => if v1 = 0 then (some (-1)) else ((f_MO_isField ν x2).bind fun v2 => if v2 = 0 then (some (-1)) else ((f_MO_isOf ν x1 x2).bind fun v3 => if v3 = 0 then (some 0) else (some 1))))
def f_MO_against0 (ν : Mem) (x1 : Int32) (x2 : Int32) : Option (Int32) :=
  if (ν.1 63 3) = 0 then (some (-2)) else ((f_MO_isLake ν x1).bind fun v1 => if v1 = 0 then (some (-1)) else (if x2 < (-1000000) then (some (-1)) else (G x1 64 (G (ν.1 74 x1.toNatClampNeg) 64 (if x2 ≤ (ν.1 68 (ν.1 74 x1.toNatClampNeg).toNatClampNeg) then (some 0) else (some (-1)))))))
def f_MO_holds (ν : Mem) (x1 : Int32) (x2 : Int32) : Option (Int32) :=
  (f_MO_against0 ν x1 x2).bind fun v1 => if v1 = 0 then ((f_MO_holdsTo ν x1 x2).bind fun v2 => some v2) else (some v1)
def f_MO_area_L19 (ν : Mem) (y1 : Int32) (y2 : Int32) : Nat → Int32 → Int32 → Option (Int32)
  | 0, _, _ => none
  | n + 1, y4, y5 =>
  if (ν.1 63 5) ≤ y5 then (some y4) else ((f_MO_isOf ν y1 y5).bind fun v2 => (if v2 = 0 then (some 0) else (G y5 64 (if y2 ≤ (ν.1 68 y5.toNatClampNeg) then (some 0) else (some 1)))).bind fun v3 => f_MO_area_L19 ν y1 y2 n (y4 + v3) (y5 + 1))
def f_MO_area (ν : Mem) (x1 : Int32) (x2 : Int32) : Option (Int32) :=
  (f_MO_against0 ν x1 x2).bind fun v1 => if v1 = 0 then ((f_MO_area_L19 ν x1 x2 FU 0 0).bind fun v5 => some v5) else (some v1)
def f_MO_over_L47 (ν : Mem) (y1 : Int32) (y2 : Int32) : Nat → Int32 → Int32 → Option (Int32)
  | 0, _, _ => none
  | n + 1, y3, y4 =>
  if 4 ≤ y4 then (some y3) else (G y1 64 ((f_MO_beside ν (ν.1 74 y1.toNatClampNeg) y4).bind fun v9 => (if v9 = 64 then (some y3) else (G v9 64 (if (ν.1 67 v9.toNatClampNeg) = 0 then ((f_MO_isOf ν y2 v9).bind fun v12 => if v12 = 0 then (some y3) else (if y3 = (-3) then (some v9) else ((f_MO_isLower ν v9 y3).bind fun v13 => if v13 = 0 then (some y3) else (some v9)))) else (some y3)))).bind fun v10 => f_MO_over_L47 ν y1 y2 n v10 (y4 + 1)))
def f_MO_over (ν : Mem) (x1 : Int32) : Option (Int32) :=
  G x1 64 (G (ν.1 75 x1.toNatClampNeg) 64 ((if (ν.1 76 (ν.1 75 x1.toNatClampNeg).toNatClampNeg) = x1 then (G x1 64 (G (ν.1 75 x1.toNatClampNeg) 64 (some (ν.1 77 (ν.1 75 x1.toNatClampNeg).toNatClampNeg)))) else (G x1 64 (G (ν.1 75 x1.toNatClampNeg) 64 (some (ν.1 76 (ν.1 75 x1.toNatClampNeg).toNatClampNeg))))).bind fun v3 => (f_MO_over_L47 ν x1 v3 FU (-3) 0).bind fun v14 => some v14))
def f_MO_pour_L76  : Nat → Mem → Int32 → Int32 → Int32 → Int32 → Option (Int32 × Mem)
  | 0, _, _, _, _, _ => none
  | n + 1, ν, y3, y4, y5, y6 =>
  if y3 ≤ 0 then (some (y5, ν)) else (if y4 = (-5) then (f_MO_pour_L76 n ν 0 y4 y3 y6) else ((f_MO_most ν y6).bind fun v5 => G y6 64 ((if (v5 - (ν.1 79 y6.toNatClampNeg)) ≤ y3 then (some (v5 - (ν.1 79 y6.toNatClampNeg))) else (some y3)).bind fun v7 => G y6 64 (G y6 64 (if (y3 - v7) = 0 then (f_MO_pour_L76 n (sI ν 79 y6.toNatClampNeg ((ν.1 79 y6.toNatClampNeg) + v7)) (y3 - v7) y4 y5 y6) else (G y6 64 (if ((sI ν 79 y6.toNatClampNeg ((ν.1 79 y6.toNatClampNeg) + v7)).1 75 y6.toNatClampNeg) = (-5) then (f_MO_pour_L76 n (sI ν 79 y6.toNatClampNeg ((ν.1 79 y6.toNatClampNeg) + v7)) (y3 - v7) (-5) y5 y6) else (G y6 64 (G ((sI ν 79 y6.toNatClampNeg ((ν.1 79 y6.toNatClampNeg) + v7)).1 75 y6.toNatClampNeg) 64 ((if ((sI ν 79 y6.toNatClampNeg ((ν.1 79 y6.toNatClampNeg) + v7)).1 76 ((sI ν 79 y6.toNatClampNeg ((ν.1 79 y6.toNatClampNeg) + v7)).1 75 y6.toNatClampNeg).toNatClampNeg) = y6 then (G ((sI ν 79 y6.toNatClampNeg ((ν.1 79 y6.toNatClampNeg) + v7)).1 75 y6.toNatClampNeg) 64 (some ((sI ν 79 y6.toNatClampNeg ((ν.1 79 y6.toNatClampNeg) + v7)).1 77 ((sI ν 79 y6.toNatClampNeg ((ν.1 79 y6.toNatClampNeg) + v7)).1 75 y6.toNatClampNeg).toNatClampNeg))) else (G ((sI ν 79 y6.toNatClampNeg ((ν.1 79 y6.toNatClampNeg) + v7)).1 75 y6.toNatClampNeg) 64 (some ((sI ν 79 y6.toNatClampNeg ((ν.1 79 y6.toNatClampNeg) + v7)).1 76 ((sI ν 79 y6.toNatClampNeg ((ν.1 79 y6.toNatClampNeg) + v7)).1 75 y6.toNatClampNeg).toNatClampNeg)))).bind fun v13 => G v13 64 ((if ((sI ν 79 y6.toNatClampNeg ((ν.1 79 y6.toNatClampNeg) + v7)).1 78 v13.toNatClampNeg) = 0 then ((f_MO_over (sI ν 79 y6.toNatClampNeg ((ν.1 79 y6.toNatClampNeg) + v7)) y6).bind fun v18 => G v18 64 ((if ((sI ν 79 y6.toNatClampNeg ((ν.1 79 y6.toNatClampNeg) + v7)).1 70 v18.toNatClampNeg) = (-5) then (some (-3)) else ((f_MO_lakeAt (sI ν 79 y6.toNatClampNeg ((ν.1 79 y6.toNatClampNeg) + v7)) ((sI ν 79 y6.toNatClampNeg ((ν.1 79 y6.toNatClampNeg) + v7)).1 70 v18.toNatClampNeg)).bind fun v21 => some v21)).bind fun v20 => some (((sI ν 79 y6.toNatClampNeg ((ν.1 79 y6.toNatClampNeg) + v7)).1 70 v18.toNatClampNeg), v20, (sI ν 79 y6.toNatClampNeg ((ν.1 79 y6.toNatClampNeg) + v7))))) else (G v13 64 ((f_MO_most (sI ν 79 y6.toNatClampNeg ((ν.1 79 y6.toNatClampNeg) + v7)) v13).bind fun v23 => if ((sI ν 79 y6.toNatClampNeg ((ν.1 79 y6.toNatClampNeg) + v7)).1 79 v13.toNatClampNeg) = v23 then (G y6 64 (G v13 64 (G ((sI ν 79 y6.toNatClampNeg ((ν.1 79 y6.toNatClampNeg) + v7)).1 75 y6.toNatClampNeg) 64 (G y6 64 (G v13 64 (G ((sI ν 79 y6.toNatClampNeg ((ν.1 79 y6.toNatClampNeg) + v7)).1 75 y6.toNatClampNeg) 64 (G y6 64 (G v13 64 (some (y4, ((sI ν 79 y6.toNatClampNeg ((ν.1 79 y6.toNatClampNeg) + v7)).1 75 y6.toNatClampNeg), (sI (sI (sI (sI (sI (sI (sI ν 79 y6.toNatClampNeg ((ν.1 79 y6.toNatClampNeg) + v7)) 78 y6.toNatClampNeg (0 &&& 1)) 78 v13.toNatClampNeg (0 &&& 1)) 78 ((sI ν 79 y6.toNatClampNeg ((ν.1 79 y6.toNatClampNeg) + v7)).1 75 y6.toNatClampNeg).toNatClampNeg (1 &&& 1)) 79 ((sI ν 79 y6.toNatClampNeg ((ν.1 79 y6.toNatClampNeg) + v7)).1 75 y6.toNatClampNeg).toNatClampNeg (((sI (sI (sI (sI ν 79 y6.toNatClampNeg ((ν.1 79 y6.toNatClampNeg) + v7)) 78 y6.toNatClampNeg (0 &&& 1)) 78 v13.toNatClampNeg (0 &&& 1)) 78 ((sI ν 79 y6.toNatClampNeg ((ν.1 79 y6.toNatClampNeg) + v7)).1 75 y6.toNatClampNeg).toNatClampNeg (1 &&& 1)).1 79 y6.toNatClampNeg) + ((sI (sI (sI (sI ν 79 y6.toNatClampNeg ((ν.1 79 y6.toNatClampNeg) + v7)) 78 y6.toNatClampNeg (0 &&& 1)) 78 v13.toNatClampNeg (0 &&& 1)) 78 ((sI ν 79 y6.toNatClampNeg ((ν.1 79 y6.toNatClampNeg) + v7)).1 75 y6.toNatClampNeg).toNatClampNeg (1 &&& 1)).1 79 v13.toNatClampNeg))) 79 y6.toNatClampNeg 0) 79 v13.toNatClampNeg 0))))))))))) else ((f_MO_over (sI ν 79 y6.toNatClampNeg ((ν.1 79 y6.toNatClampNeg) + v7)) y6).bind fun v24 => G v24 64 ((if ((sI ν 79 y6.toNatClampNeg ((ν.1 79 y6.toNatClampNeg) + v7)).1 70 v24.toNatClampNeg) = (-5) then (some (-3)) else ((f_MO_lakeAt (sI ν 79 y6.toNatClampNeg ((ν.1 79 y6.toNatClampNeg) + v7)) ((sI ν 79 y6.toNatClampNeg ((ν.1 79 y6.toNatClampNeg) + v7)).1 70 v24.toNatClampNeg)).bind fun v27 => some v27)).bind fun v26 => some (((sI ν 79 y6.toNatClampNeg ((ν.1 79 y6.toNatClampNeg) + v7)).1 70 v24.toNatClampNeg), v26, (sI ν 79 y6.toNatClampNeg ((ν.1 79 y6.toNatClampNeg) + v7)))))))).bind fun v17 => f_MO_pour_L76 n v17.2.2 (y3 - v7) v17.1 y5 v17.2.1)))))))))))
def f_MO_pour (ν : Mem) (x1 : Int32) (x2 : Int32) : Option (Int32 × Mem) :=
  if (ν.1 63 3) = 0 then (some ((-2), ν)) else ((f_MO_isField ν x1).bind fun v1 => if v1 = 0 then (some ((-1), ν)) else (if (f_MO_in x2.toInt64 0 1000000) = 0 then (some ((-1), ν)) else (G x1 64 ((if ((sJ ν 63 21 ((ν.2 63 21) + x2.toInt64)).1 70 x1.toNatClampNeg) = (-5) then (some (-3)) else ((f_MO_lakeAt (sJ ν 63 21 ((ν.2 63 21) + x2.toInt64)) ((sJ ν 63 21 ((ν.2 63 21) + x2.toInt64)).1 70 x1.toNatClampNeg)).bind fun v4 => some v4)).bind fun v3 => (f_MO_pour_L76 FU (sJ ν 63 21 ((ν.2 63 21) + x2.toInt64)) x2 ((sJ ν 63 21 ((ν.2 63 21) + x2.toInt64)).1 70 x1.toNatClampNeg) 0 v3).bind fun v36 => some (v36.1, (sJ v36.2 63 20 ((v36.2.2 63 20) + v36.1.toInt64)))))))
def f_MO_common_L13  : Nat → Int32 → Int32 → Option (Int32)
  | 0, _, _ => none
  | n + 1, y2, y3 =>
  if y3 = 0 then (some y2) else (Zg y3 (f_MO_common_L13 n y3 (y2 - y2 / y3 * y3)))
def f_MO_common (x0 : Int32) (x1 : Int32) : Option (Int32) :=
  (if 0 ≤ x0 then (some x0) else (some (-x0))).bind fun v1 => (f_MO_common_L13 FU v1 x1).bind fun v3 => some v3
def f_MO_layHeights_L24 (y1 : Int32) (y2 : Int32) (y3 : Int32) : Nat → Mem → Int32 → Option (Int32 × Mem)
  | 0, _, _ => none
  | n + 1, ν, y4 =>
  if y4 ≤ 0 then (some (y4, ν)) else (G (y4 - 1) 64 (G y3 64 (if (ν.1 84 (y4 - 1).toNatClampNeg) ≤ (ν.1 68 y3.toNatClampNeg) then (some (y4, ν)) else (G (y4 - 1) 64 (G y4 64 (f_MO_layHeights_L24 y1 y2 y3 n (sI ν 84 y4.toNatClampNeg (ν.1 84 (y4 - 1).toNatClampNeg)) (y4 + (-1))))))))
def f_MO_layHeights_L4 (y1 : Int32) : Nat → Mem → Int32 → Int32 → Option (Int32 × Mem)
  | 0, _, _, _ => none
  | n + 1, ν, y2, y3 =>
  if (ν.1 63 5) ≤ y3 then (some (y2, ν)) else ((f_MO_isOf ν y1 y3).bind fun v1 => (if v1 = 0 then (some (y2, ν)) else ((f_MO_layHeights_L24 y1 y2 y3 FU ν y2).bind fun v7 => G y3 64 (G v7.1 64 (some ((y2 + 1), (sI v7.2 84 v7.1.toNatClampNeg (v7.2.1 68 y3.toNatClampNeg))))))).bind fun v2 => f_MO_layHeights_L4 y1 n v2.2 v2.1 (y3 + 1))
def f_MO_layHeights (ν : Mem) (x1 : Int32) : Option (Int32 × Mem) :=
  (f_MO_layHeights_L4 x1 FU ν 0 0).bind fun v10 => some (v10.1, v10.2)
def f_MO_level_L57 (ν : Mem) (y2 : Int32) (y3 : Int32) : Nat → Int32 → Int32 → Option (Int32 × Int32)
  | 0, _, _ => none
  | n + 1, y4, y5 =>
  G y5 64 (if y3 ≤ (y5 + 1) then (some ((y4 + (ν.1 84 y5.toNatClampNeg)), (y5 + 1))) else (G (y5 + 1) 64 (if 0 < (lg_cmp ((y4 + (ν.1 84 y5.toNatClampNeg)).toInt64) ((y5 + 1).toInt64 * (ν.1 84 (y5 + 1).toNatClampNeg).toInt64)) then (f_MO_level_L57 ν y2 y3 n (y4 + (ν.1 84 y5.toNatClampNeg)) (y5 + 1)) else (some ((y4 + (ν.1 84 y5.toNatClampNeg)), (y5 + 1))))))
def f_MO_level (ν : Mem) (x1 : Int32) (x2 : Int32) : Option (Int32 × Mem) :=
  if (ν.1 63 3) = 0 then (some ((-2000002), ν)) else ((f_MO_isLake ν x1).bind fun v1 => if v1 = 0 then (some ((-2000001), ν)) else (G x1 64 (if (ν.1 78 x1.toNatClampNeg) = 0 then (some ((-2000001), ν)) else (if (f_MO_in x2.toInt64 0 1) = 0 then (some ((-2000001), ν)) else ((f_MO_layHeights ν x1).bind fun v3 => G x1 64 ((f_MO_level_L57 v3.2 x2 v3.1 FU (v3.2.1 79 x1.toNatClampNeg) 0).bind fun v7 => (f_MO_common v7.1 v7.2).bind fun v8 => if x2 = 0 then (Zg v8 (some ((v7.1 / v8), v3.2))) else (Zg v8 (some ((v7.2 / v8), v3.2)))))))))
def f_MO_rise_L30 (ν : Mem) (y1 : Int32) : Nat → Int32 → Int32 → Option (Int32)
  | 0, _, _ => none
  | n + 1, y2, y3 =>
  if (ν.1 63 5) ≤ y3 then (some y2) else (G y3 64 ((if (ν.1 67 y3.toNatClampNeg) = 0 then (G y3 64 (if y1 ≤ (ν.1 71 y3.toNatClampNeg) then (some 0) else (some 1))) else (some 0)).bind fun v2 => f_MO_rise_L30 ν y1 n (y2 + v2) (y3 + 1)))
def f_MO_rise (ν : Mem) (x1 : Int32) : Option (Int32) :=
  if (ν.1 63 3) = 0 then (some (-2)) else (if (f_MO_in x1.toInt64 (-1000000) 1000001) = 0 then (some (-1)) else ((f_MO_rise_L30 ν x1 FU 0 0).bind fun v4 => some v4))
def f_MO_islands_L28 (y1 : Int32) : Nat → Mem → Int32 → Option (Mem)
  | 0, _, _ => none
  | n + 1, ν, y2 =>
  if (ν.1 63 5) ≤ y2 then (some ν) else (G y2 64 ((if (ν.1 67 y2.toNatClampNeg) = 0 then (G y2 64 (if y1 ≤ (ν.1 71 y2.toNatClampNeg) then (some y2) else (some (-3)))) else (some (-3))).bind fun v2 => G y2 64 (f_MO_islands_L28 y1 n (sI ν 85 y2.toNatClampNeg v2) (y2 + 1))))
def f_MO_islands_L94 (y3 : Int32) : Nat → Mem → Int32 → Int32 → Option (Int32 × Mem)
  | 0, _, _, _ => none
  | n + 1, ν, y2, y4 =>
  if 4 ≤ y4 then (some (y2, ν)) else (G y3 64 (if (ν.1 85 y3.toNatClampNeg) < 0 then (some (y2, ν)) else ((f_MO_beside ν y3 y4).bind fun v7 => (if v7 = 64 then (some (y2, ν)) else (G v7 64 (if (ν.1 85 v7.toNatClampNeg) < 0 then (some (y2, ν)) else (G v7 64 (G y3 64 (if (ν.1 85 y3.toNatClampNeg) ≤ (ν.1 85 v7.toNatClampNeg) then (some (y2, ν)) else (G v7 64 (G y3 64 (some (1, (sI ν 85 y3.toNatClampNeg (ν.1 85 v7.toNatClampNeg)))))))))))).bind fun v8 => f_MO_islands_L94 y3 n v8.2 v8.1 (y4 + 1))))
def f_MO_islands_L83  : Nat → Mem → Int32 → Int32 → Option (Int32 × Mem)
  | 0, _, _, _ => none
  | n + 1, ν, y2, y3 =>
  if (ν.1 63 5) ≤ y3 then (some (y2, ν)) else ((f_MO_islands_L94 y3 FU ν y2 0).bind fun v14 => f_MO_islands_L83 n v14.2 v14.1 (y3 + 1))
def f_MO_islands_L75  : Nat → Mem → Int32 → Option (Mem)
  | 0, _, _ => none
  | n + 1, ν, y2 =>
  if y2 = 0 then (some ν) else ((f_MO_islands_L83 FU ν 0 0).bind fun v15 => f_MO_islands_L75 n v15.2 v15.1)
def f_MO_islands_L186 (ν : Mem)  : Nat → Int32 → Int32 → Option (Int32)
  | 0, _, _ => none
  | n + 1, y3, y4 =>
  if (ν.1 63 5) ≤ y4 then (some y3) else (G y4 64 ((if (ν.1 85 y4.toNatClampNeg) = y4 then (some 1) else (some 0)).bind fun v18 => f_MO_islands_L186 ν n (y3 + v18) (y4 + 1)))
def f_MO_islands (ν : Mem) (x1 : Int32) : Option (Int32 × Mem) :=
  if (ν.1 63 3) = 0 then (some ((-2), ν)) else (if (f_MO_in x1.toInt64 (-1000000) 1000001) = 0 then (some ((-1), ν)) else ((f_MO_islands_L28 x1 FU ν 0).bind fun v5 => (f_MO_islands_L75 FU v5 1).bind fun v16 => (f_MO_islands_L186 v16 FU 0 0).bind fun v19 => some (v19, v16)))
def f_MO_count_L69 (ν : Mem) (y1 : Int32) : Nat → Int64 → Int32 → Option (Int64)
  | 0, _, _ => none
  | n + 1, y2, y4 =>
  if (ν.1 63 5) ≤ y4 then (some y2) else (G y4 64 ((if (ν.1 67 y4.toNatClampNeg) = 0 then (if y1 = 1 then (some 1) else (G y4 64 (if (ν.1 69 y4.toNatClampNeg) = (-3) then (some 1) else (some 0)))) else (some 0)).bind fun v2 => f_MO_count_L69 ν y1 n (y2 + v2) (y4 + 1)))
def f_MO_count_L130 (ν : Mem) (y1 : Int32) : Nat → Int64 → Int32 → Option (Int64)
  | 0, _, _ => none
  | n + 1, y2, y4 =>
  if (ν.1 63 11) ≤ y4 then (some y2) else (G y4 64 ((if (ν.1 78 y4.toNatClampNeg) = 0 then (some 0) else (if y1 = 4 then (some 1) else (G y4 64 (some ((ν.1 79 y4.toNatClampNeg).toInt64))))).bind fun v10 => f_MO_count_L130 ν y1 n (y2 + v10) (y4 + 1)))
def f_MO_count (ν : Mem) (x1 : Int32) : Option (Int64) :=
  if (ν.1 63 3) = 0 then (some (-2)) else (if x1 = 0 then (some ((ν.1 63 5).toInt64)) else (if x1 = 1 then ((f_MO_count_L69 ν x1 FU 0 0).bind fun v4 => some v4) else (if x1 = 2 then ((f_MO_count_L69 ν x1 FU 0 0).bind fun v8 => some v8) else (if x1 = 3 then (some ((ν.1 63 11).toInt64)) else (if x1 = 4 then ((f_MO_count_L130 ν x1 FU 0 0).bind fun v12 => some v12) else (if x1 = 5 then ((f_MO_count_L130 ν x1 FU 0 0).bind fun v16 => some v16) else (if x1 = 6 then (some (ν.2 63 20)) else (if x1 = 7 then (some (ν.2 63 21)) else (some (-1))))))))))
