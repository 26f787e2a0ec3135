-- X3_add
def X3_add (gP : tPi) (a1 : Int32) (a2 : Int32) (a3 : Int32) (a4 : Int32) : Option (tPi) :=
  (if (tPi.size gP) < (24 : Int32) then
  zck (tPi.size gP) 24 (zck (tPi.size gP) 24 (zck (tPi.size gP) 24 (zck (tPi.size gP) 24 (some (tPi.s_size (tPi.s_y1 (tPi.s_x1 (tPi.s_y0 (tPi.s_x0 gP (upd (tPi.x0 gP) (tPi.size gP).toNatClampNeg a1)) (upd (tPi.y0 gP) (tPi.size gP).toNatClampNeg a2)) (upd (tPi.x1 gP) (tPi.size gP).toNatClampNeg a3)) (upd (tPi.y1 gP) (tPi.size gP).toNatClampNeg a4)) ((tPi.size gP) + (1 : Int32)))))))
 else
  some gP)
-- X6_fell
def X6_fell (gQ : tPa) (gT : tTr) : Option (tPa × tTr) :=
  some ((tPa.s_size gQ (0 : Int32)), (tTr.s_height (tTr.s_leaves (tTr.s_knots (tTr.s_stands gT (0 : Int32)) (0 : Int32)) (0 : Int32)) (0 : Int32)))
-- X7_forgetTree
def X7_forgetTree (gQ : tPa) (gT : tTr) (gE : tTe) : Option (tPa × tTr × tTe) :=
  (X6_fell gQ gT).bind (fun u1 =>
  some (u1.1, u1.2, (tTe.s_size gE (0 : Int32))))
-- X7_isBeyond
def X7_isBeyond_b28   : Option (Int32) :=
  zcb (1 : Int32) (some (1 : Int32))
def X7_isBeyond (a0 : Int32) (a1 : Int32) : Option (Int32) :=
  (if a0 < (-1000 : Int32) then
  X7_isBeyond_b28 
 else
  (if (1000 : Int32) < a0 then
  X7_isBeyond_b28 
 else
  (if a1 < (-1000 : Int32) then
  X7_isBeyond_b28 
 else
  (if a1 ≤ (1000 : Int32) then
  zcb (0 : Int32) (some (0 : Int32))
 else
  X7_isBeyond_b28 ))))
-- X7_piece
def X7_piece_b16  (gP : tPi) (gQ : tPa) (gT : tTr) (gE : tTe) (v1 : Int32) (v2 : Int32) (v3 : Int32) (v4 : Int32) (s0 : Int32) : Option (Int32 × tPi × tPa × tTr × tTe) :=
  (if (24 : Int32) ≤ (tPi.size gP) then
  some ((-1 : Int32), gP, gQ, gT, gE)
 else
  (if s0 = (0 : Int32) then
  (X7_isBeyond v1 v2).bind (fun u3 =>
  (if u3 = (0 : Int32) then
  (X7_isBeyond v3 v4).bind (fun u5 =>
  (if u5 = (0 : Int32) then
  (X7_forgetTree gQ gT gE).bind (fun u7 =>
  (X3_add gP v1 v2 v3 v4).bind (fun u8 =>
  some (((tPi.size u8) - (1 : Int32)), u8, u7.1, u7.2.1, u7.2.2)))
 else
  some ((-1 : Int32), gP, gQ, gT, gE)))
 else
  some ((-1 : Int32), gP, gQ, gT, gE)))
 else
  some ((-1 : Int32), gP, gQ, gT, gE)))
def X7_piece_b15  (gP : tPi) (gQ : tPa) (gT : tTr) (gE : tTe) (v1 : Int32) (v2 : Int32) (v3 : Int32) (v4 : Int32) : Option (Int32 × tPi × tPa × tTr × tTe) :=
  X7_piece_b16 gP gQ gT gE v1 v2 v3 v4 (0 : Int32)
def X7_piece (gP : tPi) (gQ : tPa) (gT : tTr) (gE : tTe) (a1 : Int32) (a2 : Int32) (a3 : Int32) (a4 : Int32) : Option (Int32 × tPi × tPa × tTr × tTe) :=
  (if a1 = a3 then
  (if a2 = a4 then
  X7_piece_b16 gP gQ gT gE a1 a2 a3 a4 (1 : Int32)
 else
  X7_piece_b15 gP gQ gT gE a1 a2 a3 a4)
 else
  X7_piece_b15 gP gQ gT gE a1 a2 a3 a4)
-- X7_drop
def X7_drop (gP : tPi) (gQ : tPa) (gT : tTr) (gE : tTe) : Option (Int32 × tPi × tPa × tTr × tTe) :=
  (if (0 : Int32) < (tPi.size gP) then
  (X7_forgetTree gQ gT gE).bind (fun u2 =>
  some (((tPi.size gP) - (1 : Int32)), (tPi.s_size gP ((tPi.size gP) - (1 : Int32))), u2.1, u2.2.1, u2.2.2))
 else
  some ((-1 : Int32), gP, gQ, gT, gE))
-- X2_add_R
def X2_add_R (gR : tPa) (a1 : Int32) (a2 : Int32) (a3 : Int32) (a4 : Int32) (a5 : Int32) : Option (tPa) :=
  (if (tPa.size gR) < (300 : Int32) then
  zck (tPa.size gR) 300 (zck (tPa.size gR) 300 (zck (tPa.size gR) 300 (zck (tPa.size gR) 300 (zck (tPa.size gR) 300 (some (tPa.s_size (tPa.s_d1 (tPa.s_n1 (tPa.s_d0 (tPa.s_n0 (tPa.s_owner gR (upd (tPa.owner gR) (tPa.size gR).toNatClampNeg a1)) (upd (tPa.n0 gR) (tPa.size gR).toNatClampNeg a2)) (upd (tPa.d0 gR) (tPa.size gR).toNatClampNeg a3)) (upd (tPa.n1 gR) (tPa.size gR).toNatClampNeg a4)) (upd (tPa.d1 gR) (tPa.size gR).toNatClampNeg a5)) ((tPa.size gR) + (1 : Int32))))))))
 else
  some gR)
-- X2_addWhole_R
def X2_addWhole_R (gR : tPa) (a1 : Int32) : Option (tPa) :=
  (X2_add_R gR a1 (0 : Int32) (1 : Int32) (1 : Int32) (1 : Int32)).bind (fun u1 =>
  some u1)
-- X0_startWithAll
def X0_startWithAll_b10 (N : Nat) (gP : tPi) : Nat → tPa → Int32 → Option (tPa)
  | 0, _, _ => none
  | n + 1, gR, v1 =>
  (if (tPi.size gP) ≤ v1 then
  some gR
 else
  (X2_addWhole_R gR v1).bind (fun u2 =>
  X0_startWithAll_b10 N gP n u2 (v1 + (1 : Int32))))
def X0_startWithAll (N : Nat) (gP : tPi) (gR : tPa) : Option (tPa) :=
  X0_startWithAll_b10 N gP N (tPa.s_size gR (0 : Int32)) (0 : Int32)
-- X0_sideBetween
def X0_sideBetween (a0 : Int32) (a1 : Int32) (a2 : Int32) (a3 : Int32) : Option (Int32) :=
  zl ((a0.toInt64 * ((a3 - a2)).toInt64) + (a1.toInt64 * a2.toInt64)) (fun x1 =>
  (if (lg_cmp x1 (0 : Int64)) ≤ (0 : Int32) then
  (if (0 : Int32) ≤ (lg_cmp x1 (0 : Int64)) then
  some (0 : Int32)
 else
  some (2 : Int32))
 else
  some (1 : Int32)))
-- X3_sideOf
def X3_sideOf (gP : tPi) (a1 : Int32) (a2 : Int32) (a3 : Int32) : Option (Int32) :=
  zck a1 24 (zck a1 24 (zck a1 24 (zck a1 24 (zck a1 24 (zck a1 24 (some (((((tPi.x1 gP) a1.toNatClampNeg) - ((tPi.x0 gP) a1.toNatClampNeg)) * (a3 - ((tPi.y0 gP) a1.toNatClampNeg))) - ((((tPi.y1 gP) a1.toNatClampNeg) - ((tPi.y0 gP) a1.toNatClampNeg)) * (a2 - ((tPi.x0 gP) a1.toNatClampNeg))))))))))
-- X0_sides
def X0_sides (gP : tPi) (gR : tPa) (a1 : Int32) (a2 : Int32) : Option (Int32) :=
  zck a1 300 (zl ((tPa.owner gR) a1.toNatClampNeg) (fun x2 =>
  zck x2 24 (zck x2 24 ((X3_sideOf gP a2 ((tPi.x0 gP) x2.toNatClampNeg) ((tPi.y0 gP) x2.toNatClampNeg)).bind (fun u5 =>
  zck x2 24 (zck x2 24 ((X3_sideOf gP a2 ((tPi.x1 gP) x2.toNatClampNeg) ((tPi.y1 gP) x2.toNatClampNeg)).bind (fun u8 =>
  zck a1 300 (zck a1 300 ((X0_sideBetween u5 u8 ((tPa.n0 gR) a1.toNatClampNeg) ((tPa.d0 gR) a1.toNatClampNeg)).bind (fun u11 =>
  zck a1 300 (zck a1 300 ((X0_sideBetween u5 u8 ((tPa.n1 gR) a1.toNatClampNeg) ((tPa.d1 gR) a1.toNatClampNeg)).bind (fun u14 =>
  some (u11 ||| u14)))))))))))))))
-- X6_faultOf
def X6_faultOf_b95 (N : Nat) (gP : tPi) (gR : tPa) (gT : tTr) (v4 : Int32) (v5 : Int32) (v6 : Int32) : Option (Int32) :=
  (if (tTr.rule gT) = (1 : Int32) then
  some v6
 else
  some (((if 0 ≤ (v4 - v5) then (v4 - v5) else 0 - (v4 - v5)) * (24 : Int32)) + v6))
def X6_faultOf_b86 (N : Nat) (k12 : Int32 → Int32 → Int32 → Int32 → Int32 → Int32 → Option (Int32)) (gP : tPi) (gR : tPa) (gT : tTr) (v1 : Int32) (v3 : Int32) (v4 : Int32) (v5 : Int32) (v7 : Int32) (s0 : Int32) (s1 : Int32) : Option (Int32) :=
  zl (s1 + s0) (fun x2 =>
  k12 v1 v3 v4 v5 x2 (v7 + (1 : Int32)))
def X6_faultOf_b70 (N : Nat) (k12 : Int32 → Int32 → Int32 → Int32 → Int32 → Int32 → Option (Int32)) (gP : tPi) (gR : tPa) (gT : tTr) (v1 : Int32) (v3 : Int32) (v4 : Int32) (v6 : Int32) (v7 : Int32) (v8 : Int32) (s0 : Int32) (s1 : Int32) : Option (Int32) :=
  zl (s1 + s0) (fun x3 =>
  (if v8 = (3 : Int32) then
  X6_faultOf_b86 N k12 gP gR gT v1 v3 v4 x3 v7 (1 : Int32) v6
 else
  X6_faultOf_b86 N k12 gP gR gT v1 v3 v4 x3 v7 (0 : Int32) v6))
def X6_faultOf_b54 (N : Nat) (k12 : Int32 → Int32 → Int32 → Int32 → Int32 → Int32 → Option (Int32)) (gP : tPi) (gR : tPa) (gT : tTr) (v1 : Int32) (v3 : Int32) (v5 : Int32) (v6 : Int32) (v7 : Int32) (v8 : Int32) (s0 : Int32) (s1 : Int32) : Option (Int32) :=
  zl (s1 + s0) (fun x5 =>
  (if v8 = (2 : Int32) then
  X6_faultOf_b70 N k12 gP gR gT v1 v3 x5 v6 v7 v8 (1 : Int32) v5
 else
  X6_faultOf_b70 N k12 gP gR gT v1 v3 x5 v6 v7 v8 (0 : Int32) v5))
def X6_faultOf_b12 (N : Nat) (gP : tPi) (gR : tPa) (gT : tTr) : Nat → Int32 → Int32 → Int32 → Int32 → Int32 → Int32 → Option (Int32)
  | 0, _, _, _, _, _, _ => none
  | n + 1, v1, v3, v4, v5, v6, v7 =>
  (if v3 ≤ v7 then
  X6_faultOf_b95 N gP gR gT v4 v5 v6
 else
  zck v1 300 ((X0_sides gP gR v7 ((tPa.owner gR) v1.toNatClampNeg)).bind (fun u9 =>
  (if u9 = (1 : Int32) then
  X6_faultOf_b54 N (X6_faultOf_b12 N gP gR gT n) gP gR gT v1 v3 v5 v6 v7 u9 (1 : Int32) v4
 else
  X6_faultOf_b54 N (X6_faultOf_b12 N gP gR gT n) gP gR gT v1 v3 v5 v6 v7 u9 (0 : Int32) v4))))
def X6_faultOf (N : Nat) (gP : tPi) (gR : tPa) (gT : tTr) (a1 : Int32) (a2 : Int32) (a3 : Int32) : Option (Int32) :=
  X6_faultOf_b12 N gP gR gT N a1 a3 (0 : Int32) (0 : Int32) (0 : Int32) a2
-- X6_choose
def X6_choose_b107 (N : Nat) (gP : tPi) (gR : tPa) (gT : tTr) (v3 : Int32) : Option (Int32 × tTr) :=
  some (v3, gT)
def X6_choose_b101 (N : Nat) (k71 : tTr → Int32 → Int32 → Int32 → Int32 → Int32 → Option (Int32 × tTr)) (gP : tPi) (gR : tPa) (gT : tTr) (v1 : Int32) (v2 : Int32) (v3 : Int32) (v4 : Int32) (v5 : Int32) : Option (Int32 × tTr) :=
  k71 gT v1 v2 v3 v4 (v5 + (1 : Int32))
def X6_choose_b71 (N : Nat) (gP : tPi) (gR : tPa) : Nat → tTr → Int32 → Int32 → Int32 → Int32 → Int32 → Option (Int32 × tTr)
  | 0, _, _, _, _, _, _ => none
  | n + 1, gT, v1, v2, v3, v4, v5 =>
  (if v2 ≤ v5 then
  X6_choose_b107 N gP gR gT v3
 else
  (X6_faultOf N gP gR gT v5 v1 v2).bind (fun u2 =>
  (if v4 ≤ u2 then
  X6_choose_b101 N (X6_choose_b71 N gP gR n) gP gR gT v1 v2 v3 v4 v5
 else
  X6_choose_b101 N (X6_choose_b71 N gP gR n) gP gR gT v1 v2 v5 u2 v5)))
def X6_choose_b12 (N : Nat) (gP : tPi) (gR : tPa) (gT : tTr) (v1 : Int32) : Option (Int32 × tTr) :=
  some (v1, gT)
def X6_choose (N : Nat) (gP : tPi) (gR : tPa) (gT : tTr) (a1 : Int32) (a2 : Int32) : Option (Int32 × tTr) :=
  (if (tTr.rule gT) = (0 : Int32) then
  X6_choose_b12 N gP gR gT a1
 else
  (if a1 < a2 then
  (if (tTr.rule gT) = (2 : Int32) then
  zcz (a2 - a1) (some ((a1 + ((((((1103515245 : Int32) * (tTr.draw gT)) + (12345 : Int32)) >>> ((16 : Int32) &&& 31)) &&& (32767 : Int32)) - (((((1103515245 : Int32) * (tTr.draw gT)) + (12345 : Int32)) >>> ((16 : Int32) &&& 31)) &&& (32767 : Int32)) / (a2 - a1) * (a2 - a1))), (tTr.s_draw gT (((1103515245 : Int32) * (tTr.draw gT)) + (12345 : Int32)))))
 else
  (X6_faultOf N gP gR gT a1 a1 a2).bind (fun u7 =>
  zl (a1 + (1 : Int32)) (fun x8 =>
  X6_choose_b71 N gP gR N gT a1 a2 a1 u7 x8)))
 else
  X6_choose_b12 N gP gR gT a1))
-- X0_addHalf
def X0_addHalf_b112 (gP : tPi) (gR : tPa) (v1 : Int32) (v4 : Int32) (v7 : Int32) (v8 : Int32) (s0 : Int32) (s1 : Int32) : Option (tPa) :=
  (if s1 = s0 then
  zck v1 300 (zck v1 300 ((X2_add_R gR v4 ((tPa.n0 gR) v1.toNatClampNeg) ((tPa.d0 gR) v1.toNatClampNeg) v7 v8).bind (fun u7 =>
  some u7)))
 else
  zck v1 300 (zck v1 300 ((X2_add_R gR v4 v7 v8 ((tPa.n1 gR) v1.toNatClampNeg) ((tPa.d1 gR) v1.toNatClampNeg)).bind (fun u4 =>
  some u4))))
def X0_addHalf_b98 (gP : tPi) (gR : tPa) (v1 : Int32) (v3 : Int32) (v4 : Int32) (v7 : Int32) (v8 : Int32) (s0 : Int32) : Option (tPa) :=
  (if v3 = (1 : Int32) then
  X0_addHalf_b112 gP gR v1 v4 v7 v8 (1 : Int32) s0
 else
  X0_addHalf_b112 gP gR v1 v4 v7 v8 (0 : Int32) s0)
def X0_addHalf (gP : tPi) (gR : tPa) (a1 : Int32) (a2 : Int32) (a3 : Int32) : Option (tPa) :=
  zck a1 300 (zl ((tPa.owner gR) a1.toNatClampNeg) (fun x10 =>
  zck x10 24 (zck x10 24 ((X3_sideOf gP a2 ((tPi.x0 gP) x10.toNatClampNeg) ((tPi.y0 gP) x10.toNatClampNeg)).bind (fun u13 =>
  zck x10 24 (zck x10 24 ((X3_sideOf gP a2 ((tPi.x1 gP) x10.toNatClampNeg) ((tPi.y1 gP) x10.toNatClampNeg)).bind (fun u16 =>
  zl (if 0 ≤ u13 then u13 else 0 - u13) (fun x17 =>
  zl (x17 + (if 0 ≤ u16 then u16 else 0 - u16)) (fun x18 =>
  (if u13 ≤ (0 : Int32) then
  X0_addHalf_b98 gP gR a1 a3 x10 x17 x18 (0 : Int32)
 else
  X0_addHalf_b98 gP gR a1 a3 x10 x17 x18 (1 : Int32))))))))))))
-- X2_addCopy_RR
def X2_addCopy_RR (gR : tPa) (a2 : Int32) : Option (tPa) :=
  zck a2 300 (zck a2 300 (zck a2 300 (zck a2 300 (zck a2 300 ((X2_add_R gR ((tPa.owner gR) a2.toNatClampNeg) ((tPa.n0 gR) a2.toNatClampNeg) ((tPa.d0 gR) a2.toNatClampNeg) ((tPa.n1 gR) a2.toNatClampNeg) ((tPa.d1 gR) a2.toNatClampNeg)).bind (fun u6 =>
  some u6))))))
-- X0_addSideRow
def X0_addSideRow_b56 (N : Nat) (k3 : tPa → Int32 → Int32 → Int32 → Int32 → Option (tPa)) (gP : tPi) (gR : tPa) (v2 : Int32) (v3 : Int32) (v4 : Int32) (v5 : Int32) : Option (tPa) :=
  k3 gR v2 v3 v4 (v5 + (1 : Int32))
def X0_addSideRow_b3 (N : Nat) (gP : tPi) : Nat → tPa → Int32 → Int32 → Int32 → Int32 → Option (tPa)
  | 0, _, _, _, _, _ => none
  | n + 1, gR, v2, v3, v4, v5 =>
  (if v2 ≤ v5 then
  some gR
 else
  (X0_sides gP gR v5 v3).bind (fun u2 =>
  (if u2 = (3 : Int32) then
  (X0_addHalf gP gR v5 v3 v4).bind (fun u6 =>
  X0_addSideRow_b56 N (X0_addSideRow_b3 N gP n) gP u6 v2 v3 v4 v5)
 else
  (if u2 = v4 then
  (X2_addCopy_RR gR v5).bind (fun u5 =>
  X0_addSideRow_b56 N (X0_addSideRow_b3 N gP n) gP u5 v2 v3 v4 v5)
 else
  X0_addSideRow_b56 N (X0_addSideRow_b3 N gP n) gP gR v2 v3 v4 v5))))
def X0_addSideRow (N : Nat) (gP : tPi) (gR : tPa) (a1 : Int32) (a2 : Int32) (a3 : Int32) (a4 : Int32) : Option (tPa) :=
  X0_addSideRow_b3 N gP N gR a2 a3 a4 a1
-- X6_growSide
def X6_growSide (N : Nat) (rc : tPi → tPa → tPa → tTr → Int32 → Int32 → Int32 → Int32 → Option (Int32 × tPa × tPa × tTr)) (gP : tPi) (gR : tPa) (gQ : tPa) (gT : tTr) (a1 : Int32) (a2 : Int32) (a3 : Int32) (a4 : Int32) (a5 : Int32) : Option (Int32 × tPa × tPa × tTr) :=
  zl (tPa.size gR) (fun x1 =>
  zck a3 300 ((X0_addSideRow N gP gR a1 a2 ((tTr.line gT) a3.toNatClampNeg) a4).bind (fun u3 =>
  (rc gP u3 gQ gT x1 (tPa.size u3) a3 (a5 + (1 : Int32))).bind (fun u4 =>
  some (u4.1, (tPa.s_size u4.2.1 x1), u4.2.2.1, u4.2.2.2)))))
-- X2_add_Q
def X2_add_Q (gQ : tPa) (a1 : Int32) (a2 : Int32) (a3 : Int32) (a4 : Int32) (a5 : Int32) : Option (tPa) :=
  (if (tPa.size gQ) < (300 : Int32) then
  zck (tPa.size gQ) 300 (zck (tPa.size gQ) 300 (zck (tPa.size gQ) 300 (zck (tPa.size gQ) 300 (zck (tPa.size gQ) 300 (some (tPa.s_size (tPa.s_d1 (tPa.s_n1 (tPa.s_d0 (tPa.s_n0 (tPa.s_owner gQ (upd (tPa.owner gQ) (tPa.size gQ).toNatClampNeg a1)) (upd (tPa.n0 gQ) (tPa.size gQ).toNatClampNeg a2)) (upd (tPa.d0 gQ) (tPa.size gQ).toNatClampNeg a3)) (upd (tPa.n1 gQ) (tPa.size gQ).toNatClampNeg a4)) (upd (tPa.d1 gQ) (tPa.size gQ).toNatClampNeg a5)) ((tPa.size gQ) + (1 : Int32))))))))
 else
  some gQ)
-- X2_addCopy_QR
def X2_addCopy_QR (gR : tPa) (gQ : tPa) (a2 : Int32) : Option (tPa) :=
  zck a2 300 (zck a2 300 (zck a2 300 (zck a2 300 (zck a2 300 ((X2_add_Q gQ ((tPa.owner gR) a2.toNatClampNeg) ((tPa.n0 gR) a2.toNatClampNeg) ((tPa.d0 gR) a2.toNatClampNeg) ((tPa.n1 gR) a2.toNatClampNeg) ((tPa.d1 gR) a2.toNatClampNeg)).bind (fun u6 =>
  some u6))))))
-- X6_hold
def X6_hold_b88 (N : Nat) (gP : tPi) (gR : tPa) (gQ : tPa) (gT : tTr) (v1 : Int32) : Option (tPa × tTr) :=
  zck v1 300 (zck v1 300 (some (gQ, (tTr.s_held gT (upd (tTr.held gT) v1.toNatClampNeg ((tPa.size gQ) - ((tTr.firstHeld gT) v1.toNatClampNeg)))))))
def X6_hold_b82 (N : Nat) (k16 : tPa → tTr → Int32 → Int32 → Int32 → Option (tPa × tTr)) (gP : tPi) (gR : tPa) (gQ : tPa) (gT : tTr) (v1 : Int32) (v3 : Int32) (v4 : Int32) : Option (tPa × tTr) :=
  k16 gQ gT v1 v3 (v4 + (1 : Int32))
def X6_hold_b16 (N : Nat) (gP : tPi) (gR : tPa) : Nat → tPa → tTr → Int32 → Int32 → Int32 → Option (tPa × tTr)
  | 0, _, _, _, _, _ => none
  | n + 1, gQ, gT, v1, v3, v4 =>
  (if v3 ≤ v4 then
  X6_hold_b88 N gP gR gQ gT v1
 else
  (if (300 : Int32) ≤ (tPa.size gQ) then
  X6_hold_b82 N (X6_hold_b16 N gP gR n) gP gR gQ gT v1 v3 v4
 else
  zck v1 300 ((X0_sides gP gR v4 ((tTr.line gT) v1.toNatClampNeg)).bind (fun u6 =>
  (if u6 = (0 : Int32) then
  zck (tPa.size gQ) 300 ((X2_addCopy_QR gR gQ v4).bind (fun u9 =>
  X6_hold_b82 N (X6_hold_b16 N gP gR n) gP gR u9 (tTr.s_home gT (upd (tTr.home gT) (tPa.size gQ).toNatClampNeg v1)) v1 v3 v4))
 else
  X6_hold_b82 N (X6_hold_b16 N gP gR n) gP gR gQ gT v1 v3 v4)))))
def X6_hold (N : Nat) (gP : tPi) (gR : tPa) (gQ : tPa) (gT : tTr) (a1 : Int32) (a2 : Int32) (a3 : Int32) : Option (tPa × tTr) :=
  zck a1 300 (X6_hold_b16 N gP gR N gQ (tTr.s_firstHeld gT (upd (tTr.firstHeld gT) a1.toNatClampNeg (tPa.size gQ))) a1 a3 a2)
-- X6_grow
def X6_grow_b22 (N : Nat) (rc : tPi → tPa → tPa → tTr → Int32 → Int32 → Int32 → Int32 → Option (Int32 × tPa × tPa × tTr)) (gP : tPi) (gR : tPa) (gQ : tPa) (gT : tTr) : Option (Int32 × tPa × tPa × tTr) :=
  some (((-2 : Int32) - (((tTr.leaves gT) + (1 : Int32)) - (1 : Int32))), gR, gQ, (tTr.s_leaves gT ((tTr.leaves gT) + (1 : Int32))))
def X6_grow_body (N : Nat) (rc : tPi → tPa → tPa → tTr → Int32 → Int32 → Int32 → Int32 → Option (Int32 × tPa × tPa × tTr)) (gP : tPi) (gR : tPa) (gQ : tPa) (gT : tTr) (a1 : Int32) (a2 : Int32) (a3 : Int32) (a4 : Int32) : Option (Int32 × tPa × tPa × tTr) :=
  (if a2 ≤ a1 then
  X6_grow_b22 N rc gP gR gQ gT
 else
  (if (24 : Int32) ≤ a4 then
  X6_grow_b22 N rc gP gR gQ gT
 else
  (if (tTr.knots gT) < (300 : Int32) then
  zl (tTr.knots gT) (fun x4 =>
  (X6_choose N gP gR (tTr.s_height (tTr.s_knots gT ((tTr.knots gT) + (1 : Int32))) (if (tTr.height gT) < (a4 + (1 : Int32)) then (a4 + (1 : Int32)) else (tTr.height gT))) a1 a2).bind (fun u5 =>
  zck u5.1 300 (zck x4 300 (zck x4 300 ((X6_hold N gP gR gQ (tTr.s_above (tTr.s_line u5.2 (upd (tTr.line u5.2) x4.toNatClampNeg ((tPa.owner gR) (u5.1).toNatClampNeg))) (upd (tTr.above u5.2) x4.toNatClampNeg a3)) x4 a1 a2).bind (fun u9 =>
  (X6_growSide N rc gP gR u9.1 u9.2 a1 a2 x4 (1 : Int32) a4).bind (fun u10 =>
  zck x4 300 ((X6_growSide N rc gP u10.2.1 u10.2.2.1 (tTr.s_front u10.2.2.2 (upd (tTr.front u10.2.2.2) x4.toNatClampNeg u10.1)) a1 a2 x4 (2 : Int32) a4).bind (fun u12 =>
  zck x4 300 (some (x4, u12.2.1, u12.2.2.1, (tTr.s_back u12.2.2.2 (upd (tTr.back u12.2.2.2) x4.toNatClampNeg u12.1)))))))))))))
 else
  X6_grow_b22 N rc gP gR gQ gT)))
def X6_grow (N : Nat) : Nat → tPi → tPa → tPa → tTr → Int32 → Int32 → Int32 → Int32 → Option (Int32 × tPa × tPa × tTr)
  | 0, _, _, _, _, _, _, _, _ => none
  | d + 1, gP, gR, gQ, gT, a1, a2, a3, a4 => X6_grow_body N (X6_grow N d) gP gR gQ gT a1 a2 a3 a4
-- X6_raise
def X6_raise (N : Nat) (gP : tPi) (gR : tPa) (gQ : tPa) (gT : tTr) (a1 : Int32) (a2 : Int32) : Option (tPa × tPa × tTr) :=
  (X6_fell gQ gT).bind (fun u1 =>
  (X0_startWithAll N gP gR).bind (fun u2 =>
  (X6_grow N 25 gP u2 u1.1 (tTr.s_draw (tTr.s_rule u1.2 a1) a2) (0 : Int32) (tPa.size u2) (-1 : Int32) (0 : Int32)).bind (fun u3 =>
  some (u3.2.1, u3.2.2.1, (tTr.s_top (tTr.s_stands u3.2.2.2 (1 : Int32)) u3.1)))))
-- X7_build
def X7_build (N : Nat) (gP : tPi) (gR : tPa) (gQ : tPa) (gT : tTr) (gE : tTe) (a1 : Int32) (a2 : Int32) : Option (Int32 × tPa × tPa × tTr × tTe) :=
  (if a1 < (0 : Int32) then
  some ((-1 : Int32), gR, gQ, gT, gE)
 else
  (if a1 ≤ (3 : Int32) then
  (X7_forgetTree gQ gT gE).bind (fun u3 =>
  (X6_raise N gP gR u3.1 u3.2.1 a1 a2).bind (fun u4 =>
  some ((tTr.knots u4.2.2), u4.1, u4.2.1, u4.2.2, u3.2.2)))
 else
  some ((-1 : Int32), gR, gQ, gT, gE)))
-- X7_count
def X7_count (gP : tPi) (gQ : tPa) (gT : tTr) (a1 : Int32) : Option (Int32) :=
  (if a1 = (0 : Int32) then
  some (tPi.size gP)
 else
  (if a1 = (1 : Int32) then
  some (tTr.knots gT)
 else
  (if a1 = (2 : Int32) then
  some (tPa.size gQ)
 else
  (if a1 = (3 : Int32) then
  some (tTr.leaves gT)
 else
  (if a1 = (4 : Int32) then
  some (tTr.height gT)
 else
  (if a1 = (5 : Int32) then
  (if (tTr.stands gT) = (0 : Int32) then
  some (0 : Int32)
 else
  some ((tPa.size gQ) - (tPi.size gP)))
 else
  some (-1 : Int32)))))))
-- X6_placeOf
def X6_placeOf_b79 (N : Nat) (gP : tPi) (gT : tTr) (v3 : Int32) : Option (Int32) :=
  some ((-2 : Int32) - v3)
def X6_placeOf_b72 (N : Nat) (k8 : Int32 → Int32 → Int32 → Int32 → Option (Int32)) (gP : tPi) (gT : tTr) (v1 : Int32) (v2 : Int32) (v4 : Int32) (s0 : Int32) : Option (Int32) :=
  k8 v1 v2 s0 (v4 + (1 : Int32))
def X6_placeOf_b49 (N : Nat) (k8 : Int32 → Int32 → Int32 → Int32 → Option (Int32)) (gP : tPi) (gT : tTr) (v3 : Int32) : Option (Int32) :=
  X6_placeOf_b79 N gP gT v3
def X6_placeOf_b8 (N : Nat) (gP : tPi) (gT : tTr) : Nat → Int32 → Int32 → Int32 → Int32 → Option (Int32)
  | 0, _, _, _, _ => none
  | n + 1, v1, v2, v3, v4 =>
  (if (24 : Int32) ≤ v4 then
  X6_placeOf_b79 N gP gT v3
 else
  (if v3 < (0 : Int32) then
  X6_placeOf_b79 N gP gT v3
 else
  (if (tTr.knots gT) ≤ v3 then
  X6_placeOf_b79 N gP gT v3
 else
  zck v3 300 ((X3_sideOf gP ((tTr.line gT) v3.toNatClampNeg) v1 v2).bind (fun u5 =>
  (if u5 = (0 : Int32) then
  X6_placeOf_b49 N (X6_placeOf_b8 N gP gT n) gP gT v3
 else
  (if u5 ≤ (0 : Int32) then
  zck v3 300 (X6_placeOf_b72 N (X6_placeOf_b8 N gP gT n) gP gT v1 v2 v4 ((tTr.back gT) v3.toNatClampNeg))
 else
  zck v3 300 (X6_placeOf_b72 N (X6_placeOf_b8 N gP gT n) gP gT v1 v2 v4 ((tTr.front gT) v3.toNatClampNeg)))))))))
def X6_placeOf (N : Nat) (gP : tPi) (gT : tTr) (a1 : Int32) (a2 : Int32) : Option (Int32) :=
  zl (tTr.top gT) (fun x10 =>
  X6_placeOf_b8 N gP gT N a1 a2 x10 (0 : Int32))
-- X7_where
def X7_where (N : Nat) (gP : tPi) (gT : tTr) (a1 : Int32) (a2 : Int32) : Option (Int32) :=
  (if (tTr.stands gT) = (0 : Int32) then
  some (-1 : Int32)
 else
  (X7_isBeyond a1 a2).bind (fun u2 =>
  (if u2 = (0 : Int32) then
  (X6_placeOf N gP gT a1 a2).bind (fun u4 =>
  some u4)
 else
  some (-1 : Int32))))
-- X5_tellNode
def X5_tellNode_b178 (N : Nat) (rc : tPi → tTr → tTe → Int32 → Int32 → Int32 → Int32 → Option (tTe)) (gP : tPi) (gT : tTr) (gE : tTe) (v2 : Int32) (v3 : Int32) (v4 : Int32) (s0 : Int32) : Option (tTe) :=
  (rc gP gT gE s0 v2 v3 (v4 + (1 : Int32))).bind (fun u1 =>
  some u1)
def X5_tellNode_b151 (N : Nat) (rc : tPi → tTr → tTe → Int32 → Int32 → Int32 → Int32 → Option (tTe)) (gP : tPi) (gT : tTr) (gE : tTe) (v1 : Int32) (v2 : Int32) (v3 : Int32) (v4 : Int32) (v5 : Int32) : Option (tTe) :=
  (if v5 = (0 : Int32) then
  zck v1 300 (X5_tellNode_b178 N rc gP gT gE v2 v3 v4 ((tTr.back gT) v1.toNatClampNeg))
 else
  zck v1 300 (X5_tellNode_b178 N rc gP gT gE v2 v3 v4 ((tTr.front gT) v1.toNatClampNeg)))
def X5_tellNode_b90 (N : Nat) (rc : tPi → tTr → tTe → Int32 → Int32 → Int32 → Int32 → Option (tTe)) (gP : tPi) (gT : tTr) : Nat → tTe → Int32 → Int32 → Int32 → Int32 → Int32 → Int32 → Option (tTe)
  | 0, _, _, _, _, _, _, _ => none
  | n + 1, gE, v1, v2, v3, v4, v5, v6 =>
  zck v1 300 ((if ((tTr.held gT) v1.toNatClampNeg) ≤ v6 then
  X5_tellNode_b151 N rc gP gT gE v1 v2 v3 v4 v5
 else
  (if (300 : Int32) ≤ (tTe.size gE) then
  X5_tellNode_b151 N rc gP gT gE v1 v2 v3 v4 v5
 else
  zck v1 300 (zck (tTe.size gE) 300 (X5_tellNode_b90 N rc gP gT n (tTe.s_size (tTe.s_row gE (upd (tTe.row gE) (tTe.size gE).toNatClampNeg (((tTr.firstHeld gT) v1.toNatClampNeg) + v6))) ((tTe.size gE) + (1 : Int32))) v1 v2 v3 v4 v5 (v6 + (1 : Int32)))))))
def X5_tellNode_b78 (N : Nat) (rc : tPi → tTr → tTe → Int32 → Int32 → Int32 → Int32 → Option (tTe)) (gP : tPi) (gT : tTr) (gE : tTe) (v1 : Int32) (v2 : Int32) (v3 : Int32) (v4 : Int32) (v5 : Int32) (s0 : Int32) : Option (tTe) :=
  (rc gP gT gE s0 v2 v3 (v4 + (1 : Int32))).bind (fun u10 =>
  X5_tellNode_b90 N rc gP gT N u10 v1 v2 v3 v4 v5 (0 : Int32))
def X5_tellNode_b49 (N : Nat) (rc : tPi → tTr → tTe → Int32 → Int32 → Int32 → Int32 → Option (tTe)) (gP : tPi) (gT : tTr) (gE : tTe) (v1 : Int32) (v2 : Int32) (v3 : Int32) (v4 : Int32) (s0 : Int32) : Option (tTe) :=
  (if s0 = (0 : Int32) then
  zck v1 300 (X5_tellNode_b78 N rc gP gT gE v1 v2 v3 v4 s0 ((tTr.front gT) v1.toNatClampNeg))
 else
  zck v1 300 (X5_tellNode_b78 N rc gP gT gE v1 v2 v3 v4 s0 ((tTr.back gT) v1.toNatClampNeg)))
def X5_tellNode_body (N : Nat) (rc : tPi → tTr → tTe → Int32 → Int32 → Int32 → Int32 → Option (tTe)) (gP : tPi) (gT : tTr) (gE : tTe) (a1 : Int32) (a2 : Int32) (a3 : Int32) (a4 : Int32) : Option (tTe) :=
  (if a1 < (0 : Int32) then
  some gE
 else
  (if (tTr.knots gT) ≤ a1 then
  some gE
 else
  (if a4 < (24 : Int32) then
  zck a1 300 ((X3_sideOf gP ((tTr.line gT) a1.toNatClampNeg) a2 a3).bind (fun u18 =>
  (if u18 ≤ (0 : Int32) then
  X5_tellNode_b49 N rc gP gT gE a1 a2 a3 a4 (0 : Int32)
 else
  X5_tellNode_b49 N rc gP gT gE a1 a2 a3 a4 (1 : Int32))))
 else
  some gE)))
def X5_tellNode (N : Nat) : Nat → tPi → tTr → tTe → Int32 → Int32 → Int32 → Int32 → Option (tTe)
  | 0, _, _, _, _, _, _, _ => none
  | d + 1, gP, gT, gE, a1, a2, a3, a4 => X5_tellNode_body N (X5_tellNode N d) gP gT gE a1 a2 a3 a4
-- X5_tellFrom
def X5_tellFrom (N : Nat) (gP : tPi) (gT : tTr) (gE : tTe) (a1 : Int32) (a2 : Int32) : Option (tTe) :=
  (X5_tellNode N 25 gP gT (tTe.s_size gE (0 : Int32)) (tTr.top gT) a1 a2 (0 : Int32)).bind (fun u1 =>
  some u1)
-- X7_order
def X7_order (N : Nat) (gP : tPi) (gT : tTr) (gE : tTe) (a1 : Int32) (a2 : Int32) : Option (Int32 × tTe) :=
  (if (tTr.stands gT) = (0 : Int32) then
  some ((-1 : Int32), gE)
 else
  (X7_isBeyond a1 a2).bind (fun u2 =>
  (if u2 = (0 : Int32) then
  (X5_tellFrom N gP gT gE a1 a2).bind (fun u4 =>
  some ((tTe.size u4), u4))
 else
  some ((-1 : Int32), gE))))
-- X7_told
def X7_told (gE : tTe) (a1 : Int32) : Option (Int32) :=
  (if a1 < (0 : Int32) then
  some (-1 : Int32)
 else
  (if (tTe.size gE) ≤ a1 then
  some (-1 : Int32)
 else
  zck a1 300 (some ((tTe.row gE) a1.toNatClampNeg))))
-- X3_cross
def X3_cross (a0 : Int32) (a1 : Int32) (a2 : Int32) (a3 : Int32) : Option (Int32) :=
  some ((a0 * a3) - (a1 * a2))
-- X3_framesMeet
def X3_framesMeet (a0 : Int32) (a1 : Int32) (a2 : Int32) (a3 : Int32) : Option (Int32) :=
  (if (if a0 < a1 then a1 else a0) < (if a3 < a2 then a3 else a2) then
  zcb (0 : Int32) (some (0 : Int32))
 else
  (if (if a2 < a3 then a3 else a2) < (if a1 < a0 then a1 else a0) then
  zcb (0 : Int32) (some (0 : Int32))
 else
  zcb (1 : Int32) (some (1 : Int32))))
-- X3_sameSide
def X3_sameSide_b16   : Option (Int32) :=
  zcb (1 : Int32) (some (1 : Int32))
def X3_sameSide_b8  (v0 : Int32) (v1 : Int32) : Option (Int32) :=
  (if (0 : Int32) ≤ v0 then
  zcb (0 : Int32) (some (0 : Int32))
 else
  (if (0 : Int32) ≤ v1 then
  zcb (0 : Int32) (some (0 : Int32))
 else
  X3_sameSide_b16 ))
def X3_sameSide (a0 : Int32) (a1 : Int32) : Option (Int32) :=
  (if a0 ≤ (0 : Int32) then
  X3_sameSide_b8 a0 a1
 else
  (if (0 : Int32) < a1 then
  X3_sameSide_b16 
 else
  X3_sameSide_b8 a0 a1))
-- X3_blocks
def X3_blocks (gP : tPi) (a1 : Int32) (a2 : Int32) (a3 : Int32) (a4 : Int32) (a5 : Int32) : Option (Int32) :=
  zck a1 24 (zck a1 24 ((X3_framesMeet ((tPi.x0 gP) a1.toNatClampNeg) ((tPi.x1 gP) a1.toNatClampNeg) a2 a4).bind (fun u3 =>
  (if u3 = (0 : Int32) then
  zcb (0 : Int32) (some (0 : Int32))
 else
  zck a1 24 (zck a1 24 ((X3_framesMeet ((tPi.y0 gP) a1.toNatClampNeg) ((tPi.y1 gP) a1.toNatClampNeg) a3 a5).bind (fun u8 =>
  (if u8 = (0 : Int32) then
  zcb (0 : Int32) (some (0 : Int32))
 else
  (X3_sideOf gP a1 a2 a3).bind (fun u11 =>
  (X3_sideOf gP a1 a4 a5).bind (fun u12 =>
  (X3_sameSide u11 u12).bind (fun u13 =>
  (if u13 = (0 : Int32) then
  zck a1 24 (zck a1 24 ((X3_cross (a4 - a2) (a5 - a3) (((tPi.x0 gP) a1.toNatClampNeg) - a2) (((tPi.y0 gP) a1.toNatClampNeg) - a3)).bind (fun u18 =>
  zck a1 24 (zck a1 24 ((X3_cross (a4 - a2) (a5 - a3) (((tPi.x1 gP) a1.toNatClampNeg) - a2) (((tPi.y1 gP) a1.toNatClampNeg) - a3)).bind (fun u21 =>
  (X3_sameSide u18 u21).bind (fun u22 =>
  (if u22 = (0 : Int32) then
  zcb (1 : Int32) (some (1 : Int32))
 else
  zcb (0 : Int32) (some (0 : Int32))))))))))
 else
  zcb (0 : Int32) (some (0 : Int32))))))))))))))
-- X7_sees
def X7_sees_b22 (N : Nat) (gP : tPi) : Nat → Int32 → Int32 → Int32 → Int32 → Int32 → Option (Int32)
  | 0, _, _, _, _, _ => none
  | n + 1, v1, v2, v3, v4, v5 =>
  (if (tPi.size gP) ≤ v5 then
  some (1 : Int32)
 else
  (X3_blocks gP v5 v1 v2 v3 v4).bind (fun u2 =>
  (if u2 = (0 : Int32) then
  X7_sees_b22 N gP n v1 v2 v3 v4 (v5 + (1 : Int32))
 else
  some (0 : Int32))))
def X7_sees (N : Nat) (gP : tPi) (a1 : Int32) (a2 : Int32) (a3 : Int32) (a4 : Int32) : Option (Int32) :=
  (X7_isBeyond a1 a2).bind (fun u4 =>
  (if u4 = (0 : Int32) then
  (X7_isBeyond a3 a4).bind (fun u6 =>
  (if u6 = (0 : Int32) then
  X7_sees_b22 N gP N a1 a2 a3 a4 (0 : Int32)
 else
  some (-1 : Int32)))
 else
  some (-1 : Int32)))
-- X1_isLater
def X1_isLater (gM : tMe) (a1 : Int32) (a2 : Int32) (a3 : Int32) : Option (Int32) :=
  zck a1 24 (zck a1 24 ((if (lg_cmp ((((tMe.n gM) a1.toNatClampNeg)).toInt64 * a3.toInt64) (a2.toInt64 * (((tMe.d gM) a1.toNatClampNeg)).toInt64)) ≤ (0 : Int32) then
  zcb (0 : Int32) (some (0 : Int32))
 else
  zcb (1 : Int32) (some (1 : Int32)))))
-- X7_commonDivisor
def X7_commonDivisor_b51 (N : Nat) (v4 : Int64) : Option (Int64) :=
  some v4
def X7_commonDivisor_b15 (N : Nat) : Nat → Int64 → Int64 → Int32 → Option (Int64)
  | 0, _, _, _ => none
  | n + 1, v4, v6, v8 =>
  (if (128 : Int32) ≤ v8 then
  X7_commonDivisor_b51 N v4
 else
  (if (lg_cmp v6 (0 : Int64)) = (0 : Int32) then
  X7_commonDivisor_b51 N v4
 else
  zczl v6 (zl (v4 - v4 / v6 * v6) (fun x4 =>
  X7_commonDivisor_b15 N n v6 x4 (v8 + (1 : Int32))))))
def X7_commonDivisor (N : Nat) (a0 : Int64) (a2 : Int64) : Option (Int64) :=
  zl (if 0 < a0 then a0 else -a0) (fun x5 =>
  zl (if 0 < a2 then a2 else -a2) (fun x6 =>
  X7_commonDivisor_b15 N N x5 x6 (0 : Int32)))
-- X1_insert
def X1_insert_b106 (N : Nat) (gM : tMe) (v1 : Int32) (v2 : Int32) (v3 : Int32) (v4 : Int32) (v5 : Int32) : Option (tMe) :=
  zck v4 24 (zcz v5 (zck v4 24 (zcz v5 (zck v4 24 (some (tMe.s_size (tMe.s_d (tMe.s_n (tMe.s_which gM (upd (tMe.which gM) v4.toNatClampNeg v1)) (upd (tMe.n gM) v4.toNatClampNeg (v2 / v5))) (upd (tMe.d gM) v4.toNatClampNeg (v3 / v5))) ((tMe.size gM) + (1 : Int32))))))))
def X1_insert_b88 (N : Nat) (gM : tMe) (v1 : Int32) (v2 : Int32) (v3 : Int32) (v4 : Int32) : Option (tMe) :=
  (X7_commonDivisor N v2.toInt64 v3.toInt64).bind (fun u6 =>
  (if (0 : Int32) < u6.toInt32 then
  X1_insert_b106 N gM v1 v2 v3 v4 u6.toInt32
 else
  X1_insert_b106 N gM v1 v2 v3 v4 (1 : Int32)))
def X1_insert_b16 (N : Nat) : Nat → tMe → Int32 → Int32 → Int32 → Int32 → Option (tMe)
  | 0, _, _, _, _, _ => none
  | n + 1, gM, v1, v2, v3, v4 =>
  (if v4 ≤ (0 : Int32) then
  X1_insert_b88 N gM v1 v2 v3 v4
 else
  (X1_isLater gM (v4 - (1 : Int32)) v2 v3).bind (fun u9 =>
  (if u9 = (0 : Int32) then
  X1_insert_b88 N gM v1 v2 v3 v4
 else
  zck (v4 - (1 : Int32)) 24 (zck v4 24 (zck (v4 - (1 : Int32)) 24 (zck v4 24 (zck (v4 - (1 : Int32)) 24 (zck v4 24 (X1_insert_b16 N n (tMe.s_d (tMe.s_n (tMe.s_which gM (upd (tMe.which gM) v4.toNatClampNeg ((tMe.which gM) (v4 - (1 : Int32)).toNatClampNeg))) (upd (tMe.n gM) v4.toNatClampNeg ((tMe.n gM) (v4 - (1 : Int32)).toNatClampNeg))) (upd (tMe.d gM) v4.toNatClampNeg ((tMe.d gM) (v4 - (1 : Int32)).toNatClampNeg))) v1 v2 v3 (v4 + (-1 : Int32)))))))))))
def X1_insert (N : Nat) (gM : tMe) (a1 : Int32) (a2 : Int32) (a3 : Int32) : Option (tMe) :=
  (if (tMe.size gM) < (24 : Int32) then
  zl (tMe.size gM) (fun x18 =>
  X1_insert_b16 N N gM a1 a2 a3 x18)
 else
  some gM)
-- X1_meetOne
def X1_meetOne_b213 (N : Nat) (gP : tPi) (gM : tMe) (v1 : Int32) (v4 : Int32) (v5 : Int32) (v12 : Int32) (v13 : Int32) : Option (tMe) :=
  (X1_insert N gM v1 (if (0 : Int32) < (if v13 < v12 then v13 else v12) then (if v13 < v12 then v13 else v12) else (0 : Int32)) ((v4 * v4) + (v5 * v5))).bind (fun u1 =>
  some u1)
def X1_meetOne_b166 (N : Nat) (gP : tPi) (gM : tMe) : Option (tMe) :=
  some gM
def X1_meetOne_b109 (N : Nat) (gP : tPi) (gM : tMe) (v1 : Int32) (v6 : Int32) (v7 : Int32) (v8 : Int32) (v9 : Int32) (v10 : Int32) (v11 : Int32) (s0 : Int32) : Option (tMe) :=
  zl (s0 * v11) (fun x2 =>
  (X3_cross v8 v9 v6 v7).bind (fun u3 =>
  zl (s0 * u3) (fun x4 =>
  (if x4 < (0 : Int32) then
  X1_meetOne_b166 N gP gM
 else
  (if x2 < (0 : Int32) then
  X1_meetOne_b166 N gP gM
 else
  (if (s0 * v10) < x2 then
  X1_meetOne_b166 N gP gM
 else
  (X1_insert N gM v1 x4 (s0 * v10)).bind (fun u8 =>
  X1_meetOne_b166 N gP u8)))))))
def X1_meetOne (N : Nat) (gP : tPi) (gM : tMe) (a1 : Int32) (a2 : Int32) (a3 : Int32) (a4 : Int32) (a5 : Int32) : Option (tMe) :=
  zck a1 24 (zck a1 24 (zl (((tPi.x1 gP) a1.toNatClampNeg) - ((tPi.x0 gP) a1.toNatClampNeg)) (fun x11 =>
  zck a1 24 (zck a1 24 (zl (((tPi.y1 gP) a1.toNatClampNeg) - ((tPi.y0 gP) a1.toNatClampNeg)) (fun x14 =>
  zck a1 24 (zl (((tPi.x0 gP) a1.toNatClampNeg) - a2) (fun x16 =>
  zck a1 24 (zl (((tPi.y0 gP) a1.toNatClampNeg) - a3) (fun x18 =>
  (X3_cross a4 a5 x11 x14).bind (fun u19 =>
  (X3_cross x16 x18 a4 a5).bind (fun u20 =>
  (if u19 = (0 : Int32) then
  (if u20 = (0 : Int32) then
  zl ((x16 * a4) + (x18 * a5)) (fun x23 =>
  zl ((x23 + (x11 * a4)) + (x14 * a5)) (fun x24 =>
  (if (0 : Int32) ≤ x23 then
  X1_meetOne_b213 N gP gM a1 a4 a5 x23 x24
 else
  (if x24 < (0 : Int32) then
  some gM
 else
  X1_meetOne_b213 N gP gM a1 a4 a5 x23 x24))))
 else
  some gM)
 else
  (if u19 ≤ (0 : Int32) then
  X1_meetOne_b109 N gP gM a1 x11 x14 x16 x18 u19 u20 (-1 : Int32)
 else
  X1_meetOne_b109 N gP gM a1 x11 x14 x16 x18 u19 u20 (1 : Int32)))))))))))))))
-- X1_meetAll
def X1_meetAll_b8 (N : Nat) (gP : tPi) : Nat → tMe → Int32 → Int32 → Int32 → Int32 → Int32 → Option (tMe)
  | 0, _, _, _, _, _, _ => none
  | n + 1, gM, v1, v2, v3, v4, v5 =>
  (if (tPi.size gP) ≤ v5 then
  some gM
 else
  (X1_meetOne N gP gM v5 v1 v2 v3 v4).bind (fun u2 =>
  X1_meetAll_b8 N gP n u2 v1 v2 v3 v4 (v5 + (1 : Int32))))
def X1_meetAll (N : Nat) (gP : tPi) (gM : tMe) (a1 : Int32) (a2 : Int32) (a3 : Int32) (a4 : Int32) : Option (tMe) :=
  X1_meetAll_b8 N gP N (tMe.s_size gM (0 : Int32)) a1 a2 a3 a4 (0 : Int32)
-- X7_ray
def X7_ray_b14 (N : Nat) (gP : tPi) (gM : tMe) (v1 : Int32) (v2 : Int32) (v3 : Int32) (v4 : Int32) (s0 : Int32) : Option (Int32 × tMe) :=
  (if s0 = (0 : Int32) then
  (X7_isBeyond v1 v2).bind (fun u2 =>
  (if u2 = (0 : Int32) then
  (X7_isBeyond v3 v4).bind (fun u4 =>
  (if u4 = (0 : Int32) then
  (X1_meetAll N gP gM v1 v2 v3 v4).bind (fun u6 =>
  some ((tMe.size u6), u6))
 else
  some ((-1 : Int32), gM)))
 else
  some ((-1 : Int32), gM)))
 else
  some ((-1 : Int32), gM))
def X7_ray_b13 (N : Nat) (gP : tPi) (gM : tMe) (v1 : Int32) (v2 : Int32) (v3 : Int32) (v4 : Int32) : Option (Int32 × tMe) :=
  X7_ray_b14 N gP gM v1 v2 v3 v4 (0 : Int32)
def X7_ray (N : Nat) (gP : tPi) (gM : tMe) (a1 : Int32) (a2 : Int32) (a3 : Int32) (a4 : Int32) : Option (Int32 × tMe) :=
  (if a3 = (0 : Int32) then
  (if a4 = (0 : Int32) then
  X7_ray_b14 N gP gM a1 a2 a3 a4 (1 : Int32)
 else
  X7_ray_b13 N gP gM a1 a2 a3 a4)
 else
  X7_ray_b13 N gP gM a1 a2 a3 a4)
-- X7_met
def X7_met (gM : tMe) (a1 : Int32) (a2 : Int32) : Option (Int32) :=
  (if a1 < (0 : Int32) then
  some (-1 : Int32)
 else
  (if a1 < (tMe.size gM) then
  (if a2 = (0 : Int32) then
  zck a1 24 (some ((tMe.which gM) a1.toNatClampNeg))
 else
  (if a2 = (1 : Int32) then
  zck a1 24 (some ((tMe.n gM) a1.toNatClampNeg))
 else
  (if a2 = (2 : Int32) then
  zck a1 24 (some ((tMe.d gM) a1.toNatClampNeg))
 else
  some (-1 : Int32))))
 else
  some (-1 : Int32)))
-- X4_howManyOn
def X4_howManyOn_b34 (N : Nat) (gP : tPi) (gR : tPa) (v4 : Int32) : Option (Int32) :=
  some v4
def X4_howManyOn_b28 (N : Nat) (k6 : Int32 → Int32 → Int32 → Int32 → Option (Int32)) (gP : tPi) (gR : tPa) (v2 : Int32) (v3 : Int32) (v4 : Int32) (v5 : Int32) : Option (Int32) :=
  k6 v2 v3 v4 (v5 + (1 : Int32))
def X4_howManyOn_b6 (N : Nat) (gP : tPi) (gR : tPa) : Nat → Int32 → Int32 → Int32 → Int32 → Option (Int32)
  | 0, _, _, _, _ => none
  | n + 1, v2, v3, v4, v5 =>
  (if v2 ≤ v5 then
  X4_howManyOn_b34 N gP gR v4
 else
  (X0_sides gP gR v5 v3).bind (fun u2 =>
  (if u2 = (0 : Int32) then
  X4_howManyOn_b28 N (X4_howManyOn_b6 N gP gR n) gP gR v2 v3 (v4 + (1 : Int32)) v5
 else
  X4_howManyOn_b28 N (X4_howManyOn_b6 N gP gR n) gP gR v2 v3 v4 v5)))
def X4_howManyOn (N : Nat) (gP : tPi) (gR : tPa) (a1 : Int32) (a2 : Int32) (a3 : Int32) : Option (Int32) :=
  X4_howManyOn_b6 N gP gR N a2 a3 (0 : Int32) a1
-- X4_fewest
def X4_fewest_b160 (N : Nat) (rc : tPi → tPa → Int32 → Int32 → Int32 → Int32 → Option (Int32 × tPa)) (gP : tPi) (gR : tPa) (v6 : Int32) : Option (Int32 × tPa) :=
  some (v6, gR)
def X4_fewest_b145 (N : Nat) (rc : tPi → tPa → Int32 → Int32 → Int32 → Int32 → Option (Int32 × tPa)) (k35 : tPa → Int32 → Int32 → Int32 → Int32 → Int32 → Int32 → Int32 → Option (Int32 × tPa)) (gP : tPi) (gR : tPa) (v1 : Int32) (v2 : Int32) (v3 : Int32) (v4 : Int32) (v5 : Int32) (v6 : Int32) (v7 : Int32) (v9 : Int32) : Option (Int32 × tPa) :=
  zl (if v9 < v6 then v9 else v6) (fun x1 =>
  k35 gR v1 v2 v3 v4 v5 x1 (v7 + (1 : Int32)))
def X4_fewest_b70 (N : Nat) (rc : tPi → tPa → Int32 → Int32 → Int32 → Int32 → Option (Int32 × tPa)) (k35 : tPa → Int32 → Int32 → Int32 → Int32 → Int32 → Int32 → Int32 → Option (Int32 × tPa)) (gP : tPi) : Nat → tPa → Int32 → Int32 → Int32 → Int32 → Int32 → Int32 → Int32 → Int32 → Int32 → Int32 → Option (Int32 × tPa)
  | 0, _, _, _, _, _, _, _, _, _, _, _ => none
  | n + 1, gR, v1, v2, v3, v4, v5, v6, v7, v8, v9, v10 =>
  (if (2 : Int32) < v10 then
  X4_fewest_b145 N rc k35 gP gR v1 v2 v3 v4 v5 v6 v7 v9
 else
  zl (tPa.size gR) (fun x3 =>
  (X0_addSideRow N gP gR v1 v2 v8 v10).bind (fun u4 =>
  (rc gP u4 x3 (tPa.size u4) v3 (v4 + (1 : Int32))).bind (fun u5 =>
  zl (v9 + u5.1) (fun x6 =>
  X4_fewest_b70 N rc k35 gP n (tPa.s_size u5.2 x3) v1 v2 v3 v4 v5 v6 v7 v8 x6 (v10 + (1 : Int32)))))))
def X4_fewest_b35 (N : Nat) (rc : tPi → tPa → Int32 → Int32 → Int32 → Int32 → Option (Int32 × tPa)) (gP : tPi) : Nat → tPa → Int32 → Int32 → Int32 → Int32 → Int32 → Int32 → Int32 → Option (Int32 × tPa)
  | 0, _, _, _, _, _, _, _, _ => none
  | n + 1, gR, v1, v2, v3, v4, v5, v6, v7 =>
  (if v5 ≤ v7 then
  X4_fewest_b160 N rc gP gR v6
 else
  zck v7 300 (zl ((tPa.owner gR) v7.toNatClampNeg) (fun x9 =>
  (X4_howManyOn N gP gR v1 v2 x9).bind (fun u10 =>
  X4_fewest_b70 N rc (X4_fewest_b35 N rc gP n) gP N gR v1 v2 v3 v4 v5 v6 v7 x9 u10 (1 : Int32)))))
def X4_fewest_b25 (N : Nat) (rc : tPi → tPa → Int32 → Int32 → Int32 → Int32 → Option (Int32 × tPa)) (gP : tPi) (gR : tPa) (v1 : Int32) (v2 : Int32) (v3 : Int32) (v4 : Int32) (s0 : Int32) : Option (Int32 × tPa) :=
  X4_fewest_b35 N rc gP N gR v1 v2 v3 v4 s0 (300 : Int32) v1
def X4_fewest_body (N : Nat) (rc : tPi → tPa → Int32 → Int32 → Int32 → Int32 → Option (Int32 × tPa)) (gP : tPi) (gR : tPa) (a1 : Int32) (a2 : Int32) (a3 : Int32) (a4 : Int32) : Option (Int32 × tPa) :=
  (if a2 ≤ a1 then
  some ((0 : Int32), gR)
 else
  (if a4 < (6 : Int32) then
  (if a3 = (0 : Int32) then
  X4_fewest_b25 N rc gP gR a1 a2 a3 a4 a2
 else
  X4_fewest_b25 N rc gP gR a1 a2 a3 a4 (a1 + (1 : Int32)))
 else
  some ((0 : Int32), gR)))
def X4_fewest (N : Nat) : Nat → tPi → tPa → Int32 → Int32 → Int32 → Int32 → Option (Int32 × tPa)
  | 0, _, _, _, _, _, _ => none
  | d + 1, gP, gR, a1, a2, a3, a4 => X4_fewest_body N (X4_fewest N d) gP gR a1 a2 a3 a4
-- X4_fewestOfAllTrees
def X4_fewestOfAllTrees (N : Nat) (gP : tPi) (gR : tPa) : Option (Int32 × tPa) :=
  (X0_startWithAll N gP gR).bind (fun u1 =>
  (X4_fewest N 7 gP u1 (0 : Int32) (tPa.size u1) (0 : Int32) (0 : Int32)).bind (fun u2 =>
  some (u2.1, u2.2)))
-- X7_least
def X7_least (N : Nat) (gP : tPi) (gR : tPa) : Option (Int32 × tPa) :=
  (if (tPi.size gP) ≤ (5 : Int32) then
  (X4_fewestOfAllTrees N gP gR).bind (fun u2 =>
  some (u2.1, u2.2))
 else
  some ((-1 : Int32), gR))
-- X4_setSequence
def X4_setSequence_b27 (N : Nat) : Nat → tSq → Int32 → Int32 → Option (tSq)
  | 0, _, _, _ => none
  | n + 1, gS, v3, v4 =>
  (if v4 ≤ (0 : Int32) then
  some gS
 else
  zcz (v4 + (1 : Int32)) (zl (v3 - v3 / (v4 + (1 : Int32)) * (v4 + (1 : Int32))) (fun x3 =>
  zcz (v4 + (1 : Int32)) (zl (v3 / (v4 + (1 : Int32))) (fun x5 =>
  zck v4 6 (zl ((tSq.sequence gS) v4.toNatClampNeg) (fun x7 =>
  zck x3 6 (zck v4 6 (zck x3 6 (X4_setSequence_b27 N n (tSq.s_sequence gS (upd (upd (tSq.sequence gS) v4.toNatClampNeg ((tSq.sequence gS) x3.toNatClampNeg)) x3.toNatClampNeg x7)) x5 (v4 + (-1 : Int32))))))))))))
def X4_setSequence_b20 (N : Nat) (gS : tSq) (v1 : Int32) (v2 : Int32) : Option (tSq) :=
  zl (v2 - (1 : Int32)) (fun x11 =>
  X4_setSequence_b27 N N gS v1 x11)
def X4_setSequence_b2 (N : Nat) : Nat → tSq → Int32 → Int32 → Int32 → Option (tSq)
  | 0, _, _, _, _ => none
  | n + 1, gS, v1, v2, v3 =>
  (if v2 ≤ v3 then
  X4_setSequence_b20 N gS v1 v2
 else
  zck v3 6 (X4_setSequence_b2 N n (tSq.s_sequence gS (upd (tSq.sequence gS) v3.toNatClampNeg v3)) v1 v2 (v3 + (1 : Int32))))
def X4_setSequence (N : Nat) (gS : tSq) (a1 : Int32) (a2 : Int32) : Option (tSq) :=
  X4_setSequence_b2 N N gS a1 a2 (0 : Int32)
-- X4_partsOverAllOrders
def X4_partsOverAllOrders_b110 (N : Nat) (gP : tPi) (gR : tPa) (gS : tSq) (v3 : Int32) : Option (Int32 × tPa × tSq) :=
  some (v3, gR, gS)
def X4_partsOverAllOrders_b93 (N : Nat) (k37 : tPa → tSq → Int32 → Int32 → Int32 → Int32 → Option (Int32 × tPa × tSq)) (gP : tPi) (gR : tPa) (gS : tSq) (v1 : Int32) (v2 : Int32) (v3 : Int32) (v4 : Int32) : Option (Int32 × tPa × tSq) :=
  (X4_fewest N 7 gP gR (0 : Int32) v1 (1 : Int32) (0 : Int32)).bind (fun u1 =>
  zl (v3 + u1.1) (fun x2 =>
  k37 u1.2 gS v1 v2 x2 (v4 + (1 : Int32))))
def X4_partsOverAllOrders_b64 (N : Nat) (k37 : tPa → tSq → Int32 → Int32 → Int32 → Int32 → Option (Int32 × tPa × tSq)) (gP : tPi) : Nat → tPa → tSq → Int32 → Int32 → Int32 → Int32 → Int32 → Option (Int32 × tPa × tSq)
  | 0, _, _, _, _, _, _, _ => none
  | n + 1, gR, gS, v1, v2, v3, v4, v5 =>
  (if v1 ≤ v5 then
  X4_partsOverAllOrders_b93 N k37 gP gR gS v1 v2 v3 v4
 else
  zck v5 6 ((X2_addWhole_R gR ((tSq.sequence gS) v5.toNatClampNeg)).bind (fun u5 =>
  X4_partsOverAllOrders_b64 N k37 gP n u5 gS v1 v2 v3 v4 (v5 + (1 : Int32)))))
def X4_partsOverAllOrders_b37 (N : Nat) (gP : tPi) : Nat → tPa → tSq → Int32 → Int32 → Int32 → Int32 → Option (Int32 × tPa × tSq)
  | 0, _, _, _, _, _, _ => none
  | n + 1, gR, gS, v1, v2, v3, v4 =>
  (if v2 ≤ v4 then
  X4_partsOverAllOrders_b110 N gP gR gS v3
 else
  (X4_setSequence N gS v4 v1).bind (fun u7 =>
  X4_partsOverAllOrders_b64 N (X4_partsOverAllOrders_b37 N gP n) gP N (tPa.s_size gR (0 : Int32)) u7 v1 v2 v3 v4 (0 : Int32)))
def X4_partsOverAllOrders_b32 (N : Nat) (gP : tPi) (gR : tPa) (gS : tSq) (v1 : Int32) (v2 : Int32) : Option (Int32 × tPa × tSq) :=
  X4_partsOverAllOrders_b37 N gP N gR gS v1 v2 (0 : Int32) (0 : Int32)
def X4_partsOverAllOrders_b17 (N : Nat) (gP : tPi) : Nat → tPa → tSq → Int32 → Int32 → Int32 → Option (Int32 × tPa × tSq)
  | 0, _, _, _, _, _ => none
  | n + 1, gR, gS, v1, v2, v3 =>
  (if v1 < v3 then
  X4_partsOverAllOrders_b32 N gP gR gS v1 v2
 else
  zl (v2 * v3) (fun x9 =>
  X4_partsOverAllOrders_b17 N gP n gR gS v1 x9 (v3 + (1 : Int32))))
def X4_partsOverAllOrders (N : Nat) (gP : tPi) (gR : tPa) (gS : tSq) : Option (Int32 × tPa × tSq) :=
  zl (if (6 : Int32) < (tPi.size gP) then (6 : Int32) else (tPi.size gP)) (fun x10 =>
  X4_partsOverAllOrders_b17 N gP N gR gS x10 (1 : Int32) (2 : Int32))
-- X7_sum
def X7_sum (N : Nat) (gP : tPi) (gR : tPa) (gS : tSq) : Option (Int32 × tPa × tSq) :=
  (if (tPi.size gP) ≤ (6 : Int32) then
  (X4_partsOverAllOrders N gP gR gS).bind (fun u2 =>
  some (u2.1, u2.2.1, u2.2.2))
 else
  some ((-1 : Int32), gR, gS))
-- X3_placeAt
def X3_placeAt_b97 (N : Nat) (gP : tPi) (v9 : Int64) (s0 : Int64) : Option (Int64) :=
  zczl v9 (some (s0 / v9))
def X3_placeAt_b74 (N : Nat) (gP : tPi) (v3 : Int32) (v4 : Int32) (v5 : Int64) (v7 : Int64) (v9 : Int64) : Option (Int64) :=
  (if v4 = (0 : Int32) then
  X3_placeAt_b97 N gP v9 v5
 else
  (if v4 = (1 : Int32) then
  X3_placeAt_b97 N gP v9 v7
 else
  X3_placeAt_b97 N gP v9 v3.toInt64))
def X3_placeAt (N : Nat) (gP : tPi) (a1 : Int32) (a2 : Int32) (a3 : Int32) (a4 : Int32) : Option (Int64) :=
  zck a1 24 (zck a1 24 (zl (((((tPi.x0 gP) a1.toNatClampNeg)).toInt64 * ((a3 - a2)).toInt64) + ((((tPi.x1 gP) a1.toNatClampNeg)).toInt64 * a2.toInt64)) (fun x6 =>
  zck a1 24 (zck a1 24 (zl (((((tPi.y0 gP) a1.toNatClampNeg)).toInt64 * ((a3 - a2)).toInt64) + ((((tPi.y1 gP) a1.toNatClampNeg)).toInt64 * a2.toInt64)) (fun x9 =>
  (X7_commonDivisor N x6 x9).bind (fun u10 =>
  (X7_commonDivisor N u10 a3.toInt64).bind (fun u11 =>
  (if (0 : Int32) < (lg_cmp u11 (0 : Int64)) then
  X3_placeAt_b74 N gP a3 a4 x6 x9 u11
 else
  X3_placeAt_b74 N gP a3 a4 x6 x9 (1 : Int64))))))))))
-- X2_howManyOf_Q
def X2_howManyOf_Q_b31 (N : Nat) (gQ : tPa) (v2 : Int32) : Option (Int32) :=
  some v2
def X2_howManyOf_Q_b25 (N : Nat) (k4 : Int32 → Int32 → Int32 → Option (Int32)) (gQ : tPa) (v1 : Int32) (v2 : Int32) (v3 : Int32) : Option (Int32) :=
  k4 v1 v2 (v3 + (1 : Int32))
def X2_howManyOf_Q_b4 (N : Nat) (gQ : tPa) : Nat → Int32 → Int32 → Int32 → Option (Int32)
  | 0, _, _, _ => none
  | n + 1, v1, v2, v3 =>
  (if (tPa.size gQ) ≤ v3 then
  X2_howManyOf_Q_b31 N gQ v2
 else
  zck v3 300 ((if ((tPa.owner gQ) v3.toNatClampNeg) = v1 then
  X2_howManyOf_Q_b25 N (X2_howManyOf_Q_b4 N gQ n) gQ v1 (v2 + (1 : Int32)) v3
 else
  X2_howManyOf_Q_b25 N (X2_howManyOf_Q_b4 N gQ n) gQ v1 v2 v3)))
def X2_howManyOf_Q (N : Nat) (gQ : tPa) (a1 : Int32) : Option (Int32) :=
  X2_howManyOf_Q_b4 N gQ N a1 (0 : Int32) (0 : Int32)
-- X8_thrown
def X8_thrown (mH : tmH) : Option (Int32) :=
  some (tmH.thrown mH)
-- X8_isPlace
def X8_isPlace (a0 : Int32) (a1 : Int32) : Option (Int32) :=
  (if a0 < (-1000 : Int32) then
  zcb (0 : Int32) (some (0 : Int32))
 else
  (if (1000 : Int32) < a0 then
  zcb (0 : Int32) (some (0 : Int32))
 else
  (if a1 < (-1000 : Int32) then
  zcb (0 : Int32) (some (0 : Int32))
 else
  (if (1000 : Int32) < a1 then
  zcb (0 : Int32) (some (0 : Int32))
 else
  zcb (1 : Int32) (some (1 : Int32))))))
-- X8_noTree
def X8_noTree (mK : tmK) (mB : tmB) : Option (tmK × tmB) :=
  some ((tmK.s_parts (tmK.s_leaves (tmK.s_knots (tmK.s_isTree mK (0 : Int32)) (0 : Int32)) (0 : Int32)) (0 : Int32)), (tmB.s_toldMany mB (0 : Int32)))
-- X8_piece
def X8_piece_b44  (mG : tmG) (mH : tmH) (mK : tmK) (mB : tmB) (v1 : Int32) (v2 : Int32) (v3 : Int32) (v4 : Int32) : Option (Int32 × tmG × tmH × tmK × tmB) :=
  zck (tmG.pieces mG) 24 (zck (tmG.pieces mG) 24 (zck (tmG.pieces mG) 24 (zck (tmG.pieces mG) 24 ((X8_noTree mK mB).bind (fun u5 =>
  some ((((tmG.pieces mG) + (1 : Int32)) - (1 : Int32)), (tmG.s_dy (tmG.s_dx (tmG.s_py (tmG.s_px (tmG.s_pieces mG ((tmG.pieces mG) + (1 : Int32))) (upd (tmG.px mG) (tmG.pieces mG).toNatClampNeg v1)) (upd (tmG.py mG) (tmG.pieces mG).toNatClampNeg v2)) (upd (tmG.dx mG) (tmG.pieces mG).toNatClampNeg (v3 - v1))) (upd (tmG.dy mG) (tmG.pieces mG).toNatClampNeg (v4 - v2))), mH, u5.1, u5.2))))))
def X8_piece (mG : tmG) (mH : tmH) (mK : tmK) (mB : tmB) (a1 : Int32) (a2 : Int32) (a3 : Int32) (a4 : Int32) : Option (Int32 × tmG × tmH × tmK × tmB) :=
  (if (tmG.pieces mG) = (24 : Int32) then
  some ((-1 : Int32), mG, (tmH.s_thrown mH (0 : Int32)), mK, mB)
 else
  (X8_isPlace a1 a2).bind (fun u7 =>
  (if u7 = (0 : Int32) then
  some ((-1 : Int32), mG, (tmH.s_thrown mH (0 : Int32)), mK, mB)
 else
  (X8_isPlace a3 a4).bind (fun u9 =>
  (if u9 = (0 : Int32) then
  some ((-1 : Int32), mG, (tmH.s_thrown mH (0 : Int32)), mK, mB)
 else
  (if a1 = a3 then
  (if a2 = a4 then
  some ((-1 : Int32), mG, (tmH.s_thrown mH (0 : Int32)), mK, mB)
 else
  X8_piece_b44 mG (tmH.s_thrown mH (0 : Int32)) mK mB a1 a2 a3 a4)
 else
  X8_piece_b44 mG (tmH.s_thrown mH (0 : Int32)) mK mB a1 a2 a3 a4))))))
-- X8_drop
def X8_drop (mG : tmG) (mH : tmH) (mK : tmK) (mB : tmB) : Option (Int32 × tmG × tmH × tmK × tmB) :=
  (if (tmG.pieces mG) = (0 : Int32) then
  some ((-1 : Int32), mG, (tmH.s_thrown mH (0 : Int32)), mK, mB)
 else
  (X8_noTree mK mB).bind (fun u2 =>
  some (((tmG.pieces mG) - (1 : Int32)), (tmG.s_pieces mG ((tmG.pieces mG) - (1 : Int32))), (tmH.s_thrown mH (0 : Int32)), u2.1, u2.2)))
-- X8_fails
def X8_fails (mH : tmH) (a1 : Int32) : Option (Int32 × tmH) :=
  some ((0 : Int32), (tmH.s_thrown mH a1))
-- X8_look
def X8_look_b141 (N : Nat) (mG : tmG) (mK : tmK) (mH : tmH) (v3 : Int32) : Option (Int32 × tmH) :=
  some (v3, mH)
def X8_look_b133 (N : Nat) (k107 : tmH → Int32 → Int32 → Int32 → Option (Int32 × tmH)) (mG : tmG) (mK : tmK) (mH : tmH) (v1 : Int32) (v4 : Int32) (s0 : Int32) (s1 : Int32) : Option (Int32 × tmH) :=
  zl (s1 + s0) (fun x1 =>
  k107 mH v1 x1 (v4 + (1 : Int32)))
def X8_look_b107 (N : Nat) (mG : tmG) (mK : tmK) : Nat → tmH → Int32 → Int32 → Int32 → Option (Int32 × tmH)
  | 0, _, _, _, _ => none
  | n + 1, mH, v1, v3, v4 =>
  (if (tmK.parts mK) ≤ v4 then
  X8_look_b141 N mG mK mH v3
 else
  zck v4 700 ((if ((tmK.pPiece mK) v4.toNatClampNeg) = v1 then
  X8_look_b133 N (X8_look_b107 N mG mK n) mG mK mH v1 v4 (1 : Int32) v3
 else
  X8_look_b133 N (X8_look_b107 N mG mK n) mG mK mH v1 v4 (0 : Int32) v3)))
def X8_look_b17 (N : Nat) (mG : tmG) (mK : tmK) (mH : tmH) : Option (Int32 × tmH) :=
  (X8_fails mH (1 : Int32)).bind (fun u5 =>
  some (u5.1, u5.2))
def X8_look (N : Nat) (mG : tmG) (mH : tmH) (mK : tmK) (a1 : Int32) (a2 : Int32) : Option (Int32 × tmH) :=
  (if a1 < (0 : Int32) then
  X8_look_b17 N mG mK (tmH.s_thrown mH (0 : Int32))
 else
  (if a1 < (tmG.pieces mG) then
  (if a2 = (0 : Int32) then
  zck a1 24 (some (((tmG.px mG) a1.toNatClampNeg), (tmH.s_thrown mH (0 : Int32))))
 else
  (if a2 = (1 : Int32) then
  zck a1 24 (some (((tmG.py mG) a1.toNatClampNeg), (tmH.s_thrown mH (0 : Int32))))
 else
  (if a2 = (2 : Int32) then
  zck a1 24 (zck a1 24 (some ((((tmG.px mG) a1.toNatClampNeg) + ((tmG.dx mG) a1.toNatClampNeg)), (tmH.s_thrown mH (0 : Int32)))))
 else
  (if a2 = (3 : Int32) then
  zck a1 24 (zck a1 24 (some ((((tmG.py mG) a1.toNatClampNeg) + ((tmG.dy mG) a1.toNatClampNeg)), (tmH.s_thrown mH (0 : Int32)))))
 else
  (if a2 = (4 : Int32) then
  X8_look_b107 N mG mK N (tmH.s_thrown mH (0 : Int32)) a1 (0 : Int32) (0 : Int32)
 else
  (X8_fails (tmH.s_thrown mH (0 : Int32)) (2 : Int32)).bind (fun u9 =>
  some (u9.1, u9.2)))))))
 else
  X8_look_b17 N mG mK (tmH.s_thrown mH (0 : Int32))))
-- X8_back
def X8_back (mR : tmR) (mS : tmS) (a1 : Int32) : Option (tmR) :=
  zck a1 1400 (zck (tmR.rMany mR) 700 (zck a1 1400 (zck (tmR.rMany mR) 700 (zck a1 1400 (zck (tmR.rMany mR) 700 (zck a1 1400 (zck (tmR.rMany mR) 700 (zck a1 1400 (zck (tmR.rMany mR) 700 (some (tmR.s_rMany (tmR.s_rLow2 (tmR.s_rUp2 (tmR.s_rLow (tmR.s_rUp (tmR.s_rPiece mR (upd (tmR.rPiece mR) (tmR.rMany mR).toNatClampNeg ((tmS.sPiece mS) a1.toNatClampNeg))) (vp_updL (tmR.rUp mR) (tmR.rMany mR).toNatClampNeg ((tmS.sUp mS) a1.toNatClampNeg))) (vp_updL (tmR.rLow mR) (tmR.rMany mR).toNatClampNeg ((tmS.sLow mS) a1.toNatClampNeg))) (vp_updL (tmR.rUp2 mR) (tmR.rMany mR).toNatClampNeg ((tmS.sUp2 mS) a1.toNatClampNeg))) (vp_updL (tmR.rLow2 mR) (tmR.rMany mR).toNatClampNeg ((tmS.sLow2 mS) a1.toNatClampNeg))) ((tmR.rMany mR) + (1 : Int32)))))))))))))
-- X8_side
def X8_side (mG : tmG) (a1 : Int32) (a2 : Int64) (a4 : Int64) : Option (Int64) :=
  zck a1 24 (zck a1 24 (zck a1 24 (zck a1 24 (some (((((tmG.dx mG) a1.toNatClampNeg)).toInt64 * (a4 - (((tmG.py mG) a1.toNatClampNeg)).toInt64)) - ((((tmG.dy mG) a1.toNatClampNeg)).toInt64 * (a2 - (((tmG.px mG) a1.toNatClampNeg)).toInt64)))))))
-- X8_slope
def X8_slope (mG : tmG) (a1 : Int32) (a2 : Int32) : Option (Int64) :=
  zck a1 24 (zck a2 24 (zck a1 24 (zck a2 24 (some (((((tmG.dx mG) a1.toNatClampNeg)).toInt64 * (((tmG.dy mG) a2.toNatClampNeg)).toInt64) - ((((tmG.dy mG) a1.toNatClampNeg)).toInt64 * (((tmG.dx mG) a2.toNatClampNeg)).toInt64))))))
-- X8_sideAt
def X8_sideAt (mG : tmG) (a1 : Int32) (a2 : Int32) (a3 : Int64) (a5 : Int64) : Option (Int64) :=
  zck a2 24 (zck a2 24 ((X8_side mG a1 ((((tmG.px mG) a2.toNatClampNeg)).toInt64) ((((tmG.py mG) a2.toNatClampNeg)).toInt64)).bind (fun u3 =>
  (X8_slope mG a1 a2).bind (fun u4 =>
  some ((u3 * a5) + (u4 * a3))))))
-- X8_does
def X8_does_b71 (mG : tmG) (v11 : Int64) : Option (Int32) :=
  (if (lg_cmp v11 (0 : Int64)) ≤ (0 : Int32) then
  some (4 : Int32)
 else
  some (3 : Int32))
def X8_does_b55 (mG : tmG) (v11 : Int64) (v13 : Int64) : Option (Int32) :=
  (if (0 : Int32) < (lg_cmp v11 (0 : Int64)) then
  X8_does_b71 mG v11
 else
  (if (0 : Int32) < (lg_cmp v13 (0 : Int64)) then
  X8_does_b71 mG v11
 else
  some (2 : Int32)))
def X8_does_b39 (mG : tmG) (v11 : Int64) (v13 : Int64) : Option (Int32) :=
  (if (lg_cmp v11 (0 : Int64)) < (0 : Int32) then
  X8_does_b55 mG v11 v13
 else
  (if (lg_cmp v13 (0 : Int64)) < (0 : Int32) then
  X8_does_b55 mG v11 v13
 else
  some (1 : Int32)))
def X8_does (mG : tmG) (a1 : Int32) (a2 : Int32) (a3 : Int64) (a5 : Int64) (a7 : Int64) (a9 : Int64) : Option (Int32) :=
  (X8_sideAt mG a1 a2 a3 a5).bind (fun u6 =>
  (X8_sideAt mG a1 a2 a7 a9).bind (fun u7 =>
  (if (lg_cmp u6 (0 : Int64)) = (0 : Int32) then
  (if (lg_cmp u7 (0 : Int64)) = (0 : Int32) then
  some (0 : Int32)
 else
  X8_does_b39 mG u6 u7)
 else
  X8_does_b39 mG u6 u7)))
-- X8_rowDoes
def X8_rowDoes (mG : tmG) (mR : tmR) (a1 : Int32) (a2 : Int32) : Option (Int32) :=
  zck a2 700 (zck a2 700 (zck a2 700 (zck a2 700 (zck a2 700 ((X8_does mG a1 ((tmR.rPiece mR) a2.toNatClampNeg) ((tmR.rUp mR) a2.toNatClampNeg) ((tmR.rLow mR) a2.toNatClampNeg) ((tmR.rUp2 mR) a2.toNatClampNeg) ((tmR.rLow2 mR) a2.toNatClampNeg)).bind (fun u6 =>
  some u6))))))
-- X8_chosen
def X8_chosen_b208 (N : Nat) (mG : tmG) (mR : tmR) (mD : tmD) (v4 : Int32) : Option (Int32 × tmD) :=
  some (v4, mD)
def X8_chosen_b202 (N : Nat) (k56 : tmD → Int32 → Int32 → Int32 → Int32 → Int32 → Int32 → Int32 → Option (Int32 × tmD)) (mG : tmG) (mR : tmR) (mD : tmD) (v1 : Int32) (v2 : Int32) (v3 : Int32) (v4 : Int32) (v5 : Int32) (v6 : Int32) (v7 : Int32) : Option (Int32 × tmD) :=
  k56 mD v1 v2 v3 v4 v5 v6 (v7 + (1 : Int32))
def X8_chosen_b190 (N : Nat) (k56 : tmD → Int32 → Int32 → Int32 → Int32 → Int32 → Int32 → Int32 → Option (Int32 × tmD)) (mG : tmG) (mR : tmR) (mD : tmD) (v1 : Int32) (v2 : Int32) (v3 : Int32) (v7 : Int32) (v8 : Int32) (v9 : Int32) : Option (Int32 × tmD) :=
  X8_chosen_b202 N k56 mG mR mD v1 v2 v3 v7 v8 v9 v7
def X8_chosen_b162 (N : Nat) (k56 : tmD → Int32 → Int32 → Int32 → Int32 → Int32 → Int32 → Int32 → Option (Int32 × tmD)) (mG : tmG) (mR : tmR) (mD : tmD) (v1 : Int32) (v2 : Int32) (v3 : Int32) (v4 : Int32) (v5 : Int32) (v6 : Int32) (v7 : Int32) (v9 : Int32) (s0 : Int32) : Option (Int32 × tmD) :=
  (if v4 < (0 : Int32) then
  X8_chosen_b190 N k56 mG mR mD v1 v2 v3 v7 s0 v9
 else
  (if s0 < v5 then
  X8_chosen_b190 N k56 mG mR mD v1 v2 v3 v7 s0 v9
 else
  (if s0 = v5 then
  (if v6 ≤ v9 then
  X8_chosen_b202 N k56 mG mR mD v1 v2 v3 v4 v5 v6 v7
 else
  X8_chosen_b190 N k56 mG mR mD v1 v2 v3 v7 s0 v9)
 else
  X8_chosen_b202 N k56 mG mR mD v1 v2 v3 v4 v5 v6 v7)))
def X8_chosen_b140 (N : Nat) (k56 : tmD → Int32 → Int32 → Int32 → Int32 → Int32 → Int32 → Int32 → Option (Int32 × tmD)) (mG : tmG) (mR : tmR) (mD : tmD) (v1 : Int32) (v2 : Int32) (v3 : Int32) (v4 : Int32) (v5 : Int32) (v6 : Int32) (v7 : Int32) (v8 : Int32) (v9 : Int32) : Option (Int32 × tmD) :=
  (if v1 = (1 : Int32) then
  X8_chosen_b162 N k56 mG mR mD v1 v2 v3 v4 v5 v6 v7 v9 (0 : Int32)
 else
  (if (0 : Int32) ≤ v8 then
  X8_chosen_b162 N k56 mG mR mD v1 v2 v3 v4 v5 v6 v7 v9 v8
 else
  X8_chosen_b162 N k56 mG mR mD v1 v2 v3 v4 v5 v6 v7 v9 (-v8)))
def X8_chosen_b131 (N : Nat) (k56 : tmD → Int32 → Int32 → Int32 → Int32 → Int32 → Int32 → Int32 → Option (Int32 × tmD)) (k71 : tmD → Int32 → Int32 → Int32 → Int32 → Int32 → Int32 → Int32 → Int32 → Int32 → Int32 → Option (Int32 × tmD)) (mG : tmG) (mR : tmR) (mD : tmD) (v1 : Int32) (v2 : Int32) (v3 : Int32) (v4 : Int32) (v5 : Int32) (v6 : Int32) (v7 : Int32) (v8 : Int32) (v10 : Int32) (s0 : Int32) (s1 : Int32) : Option (Int32 × tmD) :=
  zl (s1 + s0) (fun x7 =>
  k71 mD v1 v2 v3 v4 v5 v6 v7 v8 x7 (v10 + (1 : Int32)))
def X8_chosen_b115 (N : Nat) (k56 : tmD → Int32 → Int32 → Int32 → Int32 → Int32 → Int32 → Int32 → Option (Int32 × tmD)) (k71 : tmD → Int32 → Int32 → Int32 → Int32 → Int32 → Int32 → Int32 → Int32 → Int32 → Int32 → Option (Int32 × tmD)) (mG : tmG) (mR : tmR) (mD : tmD) (v1 : Int32) (v2 : Int32) (v3 : Int32) (v4 : Int32) (v5 : Int32) (v6 : Int32) (v7 : Int32) (v9 : Int32) (v10 : Int32) (v11 : Int32) (s0 : Int32) (s1 : Int32) : Option (Int32 × tmD) :=
  zl (s1 + s0) (fun x8 =>
  (if v11 ≤ (2 : Int32) then
  X8_chosen_b131 N k56 k71 mG mR mD v1 v2 v3 v4 v5 v6 v7 x8 v10 (0 : Int32) v9
 else
  X8_chosen_b131 N k56 k71 mG mR mD v1 v2 v3 v4 v5 v6 v7 x8 v10 (1 : Int32) v9))
def X8_chosen_b71 (N : Nat) (k56 : tmD → Int32 → Int32 → Int32 → Int32 → Int32 → Int32 → Int32 → Option (Int32 × tmD)) (mG : tmG) (mR : tmR) : Nat → tmD → Int32 → Int32 → Int32 → Int32 → Int32 → Int32 → Int32 → Int32 → Int32 → Int32 → Option (Int32 × tmD)
  | 0, _, _, _, _, _, _, _, _, _, _, _ => none
  | n + 1, mD, v1, v2, v3, v4, v5, v6, v7, v8, v9, v10 =>
  (if v3 ≤ v10 then
  X8_chosen_b140 N k56 mG mR mD v1 v2 v3 v4 v5 v6 v7 v8 v9
 else
  zck v7 700 ((X8_rowDoes mG mR ((tmR.rPiece mR) v7.toNatClampNeg) v10).bind (fun u12 =>
  (if u12 = (1 : Int32) then
  X8_chosen_b115 N k56 (X8_chosen_b71 N k56 mG mR n) mG mR mD v1 v2 v3 v4 v5 v6 v7 v9 v10 u12 (1 : Int32) v8
 else
  (if u12 = (2 : Int32) then
  X8_chosen_b115 N k56 (X8_chosen_b71 N k56 mG mR n) mG mR mD v1 v2 v3 v4 v5 v6 v7 v9 v10 u12 (-1 : Int32) v8
 else
  X8_chosen_b115 N k56 (X8_chosen_b71 N k56 mG mR n) mG mR mD v1 v2 v3 v4 v5 v6 v7 v9 v10 u12 (0 : Int32) v8)))))
def X8_chosen_b56 (N : Nat) (mG : tmG) (mR : tmR) : Nat → tmD → Int32 → Int32 → Int32 → Int32 → Int32 → Int32 → Int32 → Option (Int32 × tmD)
  | 0, _, _, _, _, _, _, _, _ => none
  | n + 1, mD, v1, v2, v3, v4, v5, v6, v7 =>
  (if v3 ≤ v7 then
  X8_chosen_b208 N mG mR mD v4
 else
  X8_chosen_b71 N (X8_chosen_b56 N mG mR n) mG mR N mD v1 v2 v3 v4 v5 v6 v7 (0 : Int32) (0 : Int32) v2)
def X8_chosen (N : Nat) (mG : tmG) (mR : tmR) (mD : tmD) (a1 : Int32) (a2 : Int32) (a3 : Int32) : Option (Int32 × tmD) :=
  (if a1 = (0 : Int32) then
  some (a2, mD)
 else
  (if a1 = (2 : Int32) then
  zcz (a3 - a2) (some ((a2 + ((((((1103515245 : Int32) * (tmD.draw mD)) + (12345 : Int32)) >>> ((16 : Int32) &&& 31)) &&& (32767 : Int32)) - (((((1103515245 : Int32) * (tmD.draw mD)) + (12345 : Int32)) >>> ((16 : Int32) &&& 31)) &&& (32767 : Int32)) / (a3 - a2) * (a3 - a2))), (tmD.s_draw mD (((1103515245 : Int32) * (tmD.draw mD)) + (12345 : Int32)))))
 else
  X8_chosen_b56 N mG mR N mD a1 a2 a3 (-1 : Int32) (0 : Int32) (0 : Int32) a2))
-- X8_keep
def X8_keep (mR : tmR) (mK : tmK) (a1 : Int32) (a2 : Int32) : Option (tmK) :=
  zck a2 700 (zck (tmK.parts mK) 700 (zck (tmK.parts mK) 700 (zck a2 700 (zck (tmK.parts mK) 700 (zck a2 700 (zck (tmK.parts mK) 700 (zck a2 700 (zck (tmK.parts mK) 700 (zck a2 700 (zck (tmK.parts mK) 700 (zck a1 700 (zck a1 700 (some (tmK.s_pLow2 (tmK.s_pUp2 (tmK.s_pLow (tmK.s_pUp (tmK.s_pKnot (tmK.s_pPiece (tmK.s_kMany (tmK.s_parts mK ((tmK.parts mK) + (1 : Int32))) (upd (tmK.kMany mK) a1.toNatClampNeg (((tmK.kMany mK) a1.toNatClampNeg) + (1 : Int32)))) (upd (tmK.pPiece mK) (tmK.parts mK).toNatClampNeg ((tmR.rPiece mR) a2.toNatClampNeg))) (upd (tmK.pKnot mK) (tmK.parts mK).toNatClampNeg a1)) (vp_updL (tmK.pUp mK) (tmK.parts mK).toNatClampNeg ((tmR.rUp mR) a2.toNatClampNeg))) (vp_updL (tmK.pLow mK) (tmK.parts mK).toNatClampNeg ((tmR.rLow mR) a2.toNatClampNeg))) (vp_updL (tmK.pUp2 mK) (tmK.parts mK).toNatClampNeg ((tmR.rUp2 mR) a2.toNatClampNeg))) (vp_updL (tmK.pLow2 mK) (tmK.parts mK).toNatClampNeg ((tmR.rLow2 mR) a2.toNatClampNeg))))))))))))))))
-- X8_put
def X8_put (mS : tmS) (a1 : Int32) (a2 : Int32) (a3 : Int64) (a5 : Int64) (a7 : Int64) (a9 : Int64) : Option (tmS) :=
  zck a1 1400 (zck a1 1400 (zck a1 1400 (zck a1 1400 (zck a1 1400 (some (tmS.s_sLow2 (tmS.s_sUp2 (tmS.s_sLow (tmS.s_sUp (tmS.s_sPiece mS (upd (tmS.sPiece mS) a1.toNatClampNeg a2)) (vp_updL (tmS.sUp mS) a1.toNatClampNeg a3)) (vp_updL (tmS.sLow mS) a1.toNatClampNeg a5)) (vp_updL (tmS.sUp2 mS) a1.toNatClampNeg a7)) (vp_updL (tmS.sLow2 mS) a1.toNatClampNeg a9)))))))
-- X8_waitsNow
def X8_waitsNow (mR : tmR) (mW : tmW) (a1 : Int32) (a2 : Int32) : Option (tmW) :=
  zck (tmW.waits mW) 700 (zck (tmW.waits mW) 700 (zck (tmW.waits mW) 700 (some (tmW.s_waits (tmW.s_wFront (tmW.s_wAbove (tmW.s_wFrom mW (upd (tmW.wFrom mW) (tmW.waits mW).toNatClampNeg (tmR.rMany mR))) (upd (tmW.wAbove mW) (tmW.waits mW).toNatClampNeg a1)) (upd (tmW.wFront mW) (tmW.waits mW).toNatClampNeg (vp_nar .boolean a2))) ((tmW.waits mW) + (1 : Int32))))))
-- X8_grow
def X8_grow_b665 (N : Nat) (k57 : tmR → tmW → tmS → tmK → tmD → tmN → Int32 → Int32 → Option (tmR × tmW × tmS × tmK × tmD × tmN)) (mG : tmG) (mO : tmO) (mR : tmR) (mW : tmW) (mS : tmS) (mK : tmK) (mD : tmD) (mN : tmN) (v1 : Int32) (v2 : Int32) : Option (tmR × tmW × tmS × tmK × tmD × tmN) :=
  k57 mR mW mS mK mD mN v1 v2
def X8_grow_b646 (N : Nat) (k57 : tmR → tmW → tmS → tmK → tmD → tmN → Int32 → Int32 → Option (tmR × tmW × tmS × tmK × tmD × tmN)) (mG : tmG) (mO : tmO) : Nat → tmR → tmW → tmS → tmK → tmD → tmN → Int32 → Int32 → Int32 → Int32 → Option (tmR × tmW × tmS × tmK × tmD × tmN)
  | 0, _, _, _, _, _, _, _, _, _, _ => none
  | n + 1, mR, mW, mS, mK, mD, mN, v1, v2, v7, v9 =>
  (if v7 ≤ v9 then
  X8_grow_b665 N k57 mG mO mR mW mS mK mD mN v1 v2
 else
  (X8_back mR mS v9).bind (fun u2 =>
  X8_grow_b646 N k57 mG mO n u2 mW mS mK mD mN v1 v2 v7 (v9 + (1 : Int32))))
def X8_grow_b636 (N : Nat) (k57 : tmR → tmW → tmS → tmK → tmD → tmN → Int32 → Int32 → Option (tmR × tmW × tmS × tmK × tmD × tmN)) (mG : tmG) (mO : tmO) (mR : tmR) (mW : tmW) (mS : tmS) (mK : tmK) (mD : tmD) (mN : tmN) (v1 : Int32) (v2 : Int32) (v5 : Int32) (v7 : Int32) : Option (tmR × tmW × tmS × tmK × tmD × tmN) :=
  (X8_waitsNow mR mW v5 (1 : Int32)).bind (fun u3 =>
  X8_grow_b646 N k57 mG mO N mR u3 mS mK mD mN v1 v2 v7 (0 : Int32))
def X8_grow_b613 (N : Nat) (k57 : tmR → tmW → tmS → tmK → tmD → tmN → Int32 → Int32 → Option (tmR × tmW × tmS × tmK × tmD × tmN)) (mG : tmG) (mO : tmO) : Nat → tmR → tmW → tmS → tmK → tmD → tmN → Int32 → Int32 → Int32 → Int32 → Int32 → Int32 → Option (tmR × tmW × tmS × tmK × tmD × tmN)
  | 0, _, _, _, _, _, _, _, _, _, _, _, _ => none
  | n + 1, mR, mW, mS, mK, mD, mN, v1, v2, v5, v7, v8, v9 =>
  (if v8 ≤ v9 then
  X8_grow_b636 N k57 mG mO mR mW mS mK mD mN v1 v2 v5 v7
 else
  (X8_back mR mS ((700 : Int32) + v9)).bind (fun u5 =>
  X8_grow_b613 N k57 mG mO n u5 mW mS mK mD mN v1 v2 v5 v7 v8 (v9 + (1 : Int32))))
def X8_grow_b598 (N : Nat) (k57 : tmR → tmW → tmS → tmK → tmD → tmN → Int32 → Int32 → Option (tmR × tmW × tmS × tmK × tmD × tmN)) (mG : tmG) (mO : tmO) (mR : tmR) (mW : tmW) (mS : tmS) (mK : tmK) (mD : tmD) (mN : tmN) (v1 : Int32) (v2 : Int32) (v3 : Int32) (v5 : Int32) (v7 : Int32) (v8 : Int32) : Option (tmR × tmW × tmS × tmK × tmD × tmN) :=
  (X8_waitsNow (tmR.s_rMany mR v3) mW v5 (0 : Int32)).bind (fun u6 =>
  X8_grow_b613 N k57 mG mO N (tmR.s_rMany mR v3) u6 mS mK mD mN v1 v2 v5 v7 v8 (0 : Int32))
def X8_grow_b592 (N : Nat) (k57 : tmR → tmW → tmS → tmK → tmD → tmN → Int32 → Int32 → Option (tmR × tmW × tmS × tmK × tmD × tmN)) (k294 : tmR → tmW → tmS → tmK → tmD → tmN → Int32 → Int32 → Int32 → Int32 → Int32 → Int32 → Int32 → Int32 → Option (tmR × tmW × tmS × tmK × tmD × tmN)) (mG : tmG) (mO : tmO) (mR : tmR) (mW : tmW) (mS : tmS) (mK : tmK) (mD : tmD) (mN : tmN) (v1 : Int32) (v2 : Int32) (v3 : Int32) (v5 : Int32) (v6 : Int32) (v7 : Int32) (v8 : Int32) (v9 : Int32) : Option (tmR × tmW × tmS × tmK × tmD × tmN) :=
  k294 mR mW mS mK mD mN v1 v2 v3 v5 v6 v7 v8 (v9 + (1 : Int32))
def X8_grow_b563 (N : Nat) (k57 : tmR → tmW → tmS → tmK → tmD → tmN → Int32 → Int32 → Option (tmR × tmW × tmS × tmK × tmD × tmN)) (k294 : tmR → tmW → tmS → tmK → tmD → tmN → Int32 → Int32 → Int32 → Int32 → Int32 → Int32 → Int32 → Int32 → Option (tmR × tmW × tmS × tmK × tmD × tmN)) (mG : tmG) (mO : tmO) (mR : tmR) (mW : tmW) (mS : tmS) (mK : tmK) (mD : tmD) (mN : tmN) (v1 : Int32) (v2 : Int32) (v3 : Int32) (v5 : Int32) (v6 : Int32) (v7 : Int32) (v8 : Int32) (v9 : Int32) (v11 : Int32) (v12 : Int64) (v14 : Int64) (s0 : Int32) : Option (tmR × tmW × tmS × tmK × tmD × tmN) :=
  zck v9 700 (zck v9 700 ((X8_put mS s0 v11 v12 v14 ((tmR.rUp2 mR) v9.toNatClampNeg) ((tmR.rLow2 mR) v9.toNatClampNeg)).bind (fun u9 =>
  X8_grow_b592 N k57 k294 mG mO mR mW u9 mK mD mN v1 v2 v3 v5 v6 (v7 + (1 : Int32)) (v8 + (1 : Int32)) v9)))
def X8_grow_b522 (N : Nat) (k57 : tmR → tmW → tmS → tmK → tmD → tmN → Int32 → Int32 → Option (tmR × tmW × tmS × tmK × tmD × tmN)) (k294 : tmR → tmW → tmS → tmK → tmD → tmN → Int32 → Int32 → Int32 → Int32 → Int32 → Int32 → Int32 → Int32 → Option (tmR × tmW × tmS × tmK × tmD × tmN)) (mG : tmG) (mO : tmO) (mR : tmR) (mW : tmW) (mS : tmS) (mK : tmK) (mD : tmD) (mN : tmN) (v1 : Int32) (v2 : Int32) (v3 : Int32) (v5 : Int32) (v6 : Int32) (v7 : Int32) (v8 : Int32) (v9 : Int32) (v10 : Int32) (v11 : Int32) (v12 : Int64) (v14 : Int64) (s0 : Int32) : Option (tmR × tmW × tmS × tmK × tmD × tmN) :=
  zck v9 700 (zck v9 700 ((X8_put mS s0 v11 ((tmR.rUp mR) v9.toNatClampNeg) ((tmR.rLow mR) v9.toNatClampNeg) v12 v14).bind (fun u12 =>
  (if v10 = (3 : Int32) then
  X8_grow_b563 N k57 k294 mG mO mR mW u12 mK mD mN v1 v2 v3 v5 v6 v7 v8 v9 v11 v12 v14 ((700 : Int32) + v8)
 else
  X8_grow_b563 N k57 k294 mG mO mR mW u12 mK mD mN v1 v2 v3 v5 v6 v7 v8 v9 v11 v12 v14 v7))))
def X8_grow_b404 (N : Nat) (k57 : tmR → tmW → tmS → tmK → tmD → tmN → Int32 → Int32 → Option (tmR × tmW × tmS × tmK × tmD × tmN)) (k294 : tmR → tmW → tmS → tmK → tmD → tmN → Int32 → Int32 → Int32 → Int32 → Int32 → Int32 → Int32 → Int32 → Option (tmR × tmW × tmS × tmK × tmD × tmN)) (mG : tmG) (mO : tmO) (mR : tmR) (mW : tmW) (mS : tmS) (mK : tmK) (mD : tmD) (mN : tmN) (v1 : Int32) (v2 : Int32) (v3 : Int32) (v5 : Int32) (v6 : Int32) (v7 : Int32) (v8 : Int32) (v9 : Int32) (v10 : Int32) (v11 : Int32) (v12 : Int64) (v14 : Int64) : Option (tmR × tmW × tmS × tmK × tmD × tmN) :=
  (if v10 = (1 : Int32) then
  zck v9 700 (zck v9 700 (zck v9 700 (zck v9 700 ((X8_put mS v7 v11 ((tmR.rUp mR) v9.toNatClampNeg) ((tmR.rLow mR) v9.toNatClampNeg) ((tmR.rUp2 mR) v9.toNatClampNeg) ((tmR.rLow2 mR) v9.toNatClampNeg)).bind (fun u26 =>
  X8_grow_b592 N k57 k294 mG mO mR mW u26 mK mD mN v1 v2 v3 v5 v6 (v7 + (1 : Int32)) v8 v9)))))
 else
  (if v10 = (2 : Int32) then
  zck v9 700 (zck v9 700 (zck v9 700 (zck v9 700 ((X8_put mS ((700 : Int32) + v8) v11 ((tmR.rUp mR) v9.toNatClampNeg) ((tmR.rLow mR) v9.toNatClampNeg) ((tmR.rUp2 mR) v9.toNatClampNeg) ((tmR.rLow2 mR) v9.toNatClampNeg)).bind (fun u21 =>
  X8_grow_b592 N k57 k294 mG mO mR mW u21 mK mD mN v1 v2 v3 v5 v6 v7 (v8 + (1 : Int32)) v9)))))
 else
  (if v10 = (3 : Int32) then
  X8_grow_b522 N k57 k294 mG mO mR mW mS mK mD mN v1 v2 v3 v5 v6 v7 v8 v9 v10 v11 v12 v14 v7
 else
  X8_grow_b522 N k57 k294 mG mO mR mW mS mK mD mN v1 v2 v3 v5 v6 v7 v8 v9 v10 v11 v12 v14 ((700 : Int32) + v8))))
def X8_grow_b294 (N : Nat) (k57 : tmR → tmW → tmS → tmK → tmD → tmN → Int32 → Int32 → Option (tmR × tmW × tmS × tmK × tmD × tmN)) (mG : tmG) (mO : tmO) : Nat → tmR → tmW → tmS → tmK → tmD → tmN → Int32 → Int32 → Int32 → Int32 → Int32 → Int32 → Int32 → Int32 → Option (tmR × tmW × tmS × tmK × tmD × tmN)
  | 0, _, _, _, _, _, _, _, _, _, _, _, _, _, _ => none
  | n + 1, mR, mW, mS, mK, mD, mN, v1, v2, v3, v5, v6, v7, v8, v9 =>
  (if (tmR.rMany mR) ≤ v9 then
  X8_grow_b598 N k57 mG mO mR mW mS mK mD mN v1 v2 v3 v5 v7 v8
 else
  (X8_rowDoes mG mR v6 v9).bind (fun u28 =>
  zck v9 700 (zl ((tmR.rPiece mR) v9.toNatClampNeg) (fun x30 =>
  (if u28 = (0 : Int32) then
  (if v2 = (0 : Int32) then
  X8_grow_b592 N k57 (X8_grow_b294 N k57 mG mO n) mG mO mR mW mS mK mD (tmN.s_made mN ((tmN.made mN) + (1 : Int32))) v1 v2 v3 v5 v6 v7 v8 v9
 else
  (X8_keep mR mK v5 v9).bind (fun u41 =>
  X8_grow_b592 N k57 (X8_grow_b294 N k57 mG mO n) mG mO mR mW mS u41 mD (tmN.s_made mN ((tmN.made mN) + (1 : Int32))) v1 v2 v3 v5 v6 v7 v8 v9))
 else
  zck x30 24 (zck x30 24 ((X8_side mG v6 ((((tmG.px mG) x30.toNatClampNeg)).toInt64) ((((tmG.py mG) x30.toNatClampNeg)).toInt64)).bind (fun u34 =>
  zl (-u34) (fun x35 =>
  (X8_slope mG v6 x30).bind (fun u36 =>
  (if (0 : Int32) ≤ (lg_cmp u36 (0 : Int64)) then
  X8_grow_b404 N k57 (X8_grow_b294 N k57 mG mO n) mG mO mR mW mS mK mD mN v1 v2 v3 v5 v6 v7 v8 v9 u28 x30 x35 u36
 else
  zl (-x35) (fun x38 =>
  zl (-u36) (fun x39 =>
  X8_grow_b404 N k57 (X8_grow_b294 N k57 mG mO n) mG mO mR mW mS mK mD mN v1 v2 v3 v5 v6 v7 v8 v9 u28 x30 x38 x39)))))))))))))
def X8_grow_b291 (N : Nat) (k57 : tmR → tmW → tmS → tmK → tmD → tmN → Int32 → Int32 → Option (tmR × tmW × tmS × tmK × tmD × tmN)) (mG : tmG) (mO : tmO) (mR : tmR) (mW : tmW) (mS : tmS) (mK : tmK) (mD : tmD) (mN : tmN) (v1 : Int32) (v2 : Int32) (v3 : Int32) (v5 : Int32) (v6 : Int32) (v7 : Int32) (v8 : Int32) : Option (tmR × tmW × tmS × tmK × tmD × tmN) :=
  X8_grow_b294 N k57 mG mO N mR mW mS mK mD mN v1 v2 v3 v5 v6 v7 v8 v3
def X8_grow_b216 (N : Nat) (k57 : tmR → tmW → tmS → tmK → tmD → tmN → Int32 → Int32 → Option (tmR × tmW × tmS × tmK × tmD × tmN)) (mG : tmG) (mO : tmO) (mR : tmR) (mW : tmW) (mS : tmS) (mK : tmK) (mD : tmD) (mN : tmN) (v1 : Int32) (v2 : Int32) (v3 : Int32) (v4 : Int32) (v5 : Int32) : Option (tmR × tmW × tmS × tmK × tmD × tmN) :=
  (if v3 = (tmR.rMany mR) then
  k57 mR mW mS mK mD mN v1 v2
 else
  (X8_chosen N mG mR mD v1 v3 (tmR.rMany mR)).bind (fun u43 =>
  zck u43.1 700 (zl ((tmR.rPiece mR) (u43.1).toNatClampNeg) (fun x45 =>
  (if v2 = (0 : Int32) then
  X8_grow_b291 N k57 mG mO mR mW mS mK u43.2 mN v1 v2 v3 v5 x45 (0 : Int32) (0 : Int32)
 else
  zck v5 700 (zck v5 700 (zck v5 700 (zck v5 700 (X8_grow_b291 N k57 mG mO mR mW mS (tmK.s_kAbove (tmK.s_kFirst (tmK.s_kMany (tmK.s_kPiece mK (upd (tmK.kPiece mK) v5.toNatClampNeg x45)) (upd (tmK.kMany mK) v5.toNatClampNeg (0 : Int32))) (upd (tmK.kFirst mK) v5.toNatClampNeg (tmK.parts mK))) (upd (tmK.kAbove mK) v5.toNatClampNeg v4)) u43.2 mN v1 v2 v3 v5 x45 (0 : Int32) (0 : Int32))))))))))
def X8_grow_b206 (N : Nat) (k57 : tmR → tmW → tmS → tmK → tmD → tmN → Int32 → Int32 → Option (tmR × tmW × tmS × tmK × tmD × tmN)) (mG : tmG) (mO : tmO) (mR : tmR) (mW : tmW) (mS : tmS) (mK : tmK) (mD : tmD) (mN : tmN) (v1 : Int32) (v2 : Int32) (v3 : Int32) (v4 : Int32) (v5 : Int32) : Option (tmR × tmW × tmS × tmK × tmD × tmN) :=
  (if v2 = (0 : Int32) then
  X8_grow_b216 N k57 mG mO mR mW mS mK mD mN v1 v2 v3 v4 v5
 else
  X8_grow_b216 N k57 mG mO mR mW mS (tmK.s_top mK v5) mD mN v1 v2 v3 v4 v5)
def X8_grow_b185 (N : Nat) (k57 : tmR → tmW → tmS → tmK → tmD → tmN → Int32 → Int32 → Option (tmR × tmW × tmS × tmK × tmD × tmN)) (mG : tmG) (mO : tmO) (mR : tmR) (mW : tmW) (mS : tmS) (mK : tmK) (mD : tmD) (mN : tmN) (v1 : Int32) (v2 : Int32) (v3 : Int32) (v4 : Int32) (v5 : Int32) : Option (tmR × tmW × tmS × tmK × tmD × tmN) :=
  (if v2 = (0 : Int32) then
  X8_grow_b206 N k57 mG mO mR mW mS mK mD mN v1 v2 v3 v4 v5
 else
  (if v4 < (0 : Int32) then
  X8_grow_b206 N k57 mG mO mR mW mS mK mD mN v1 v2 v3 v4 v5
 else
  zck v4 700 (X8_grow_b216 N k57 mG mO mR mW mS (tmK.s_kBack mK (upd (tmK.kBack mK) v4.toNatClampNeg v5)) mD mN v1 v2 v3 v4 v5)))
def X8_grow_b152 (N : Nat) (k57 : tmR → tmW → tmS → tmK → tmD → tmN → Int32 → Int32 → Option (tmR × tmW × tmS × tmK × tmD × tmN)) (mG : tmG) (mO : tmO) (mR : tmR) (mW : tmW) (mS : tmS) (mK : tmK) (mD : tmD) (mN : tmN) (v1 : Int32) (v2 : Int32) (v3 : Int32) (v4 : Int32) (v5 : Int32) : Option (tmR × tmW × tmS × tmK × tmD × tmN) :=
  (if v2 = (0 : Int32) then
  X8_grow_b185 N k57 mG mO mR mW mS mK mD mN v1 v2 v3 v4 v5
 else
  (if v4 < (0 : Int32) then
  X8_grow_b185 N k57 mG mO mR mW mS mK mD mN v1 v2 v3 v4 v5
 else
  zck (tmW.waits mW) 700 ((if ((tmW.wFront mW) (tmW.waits mW).toNatClampNeg) = (0 : Int32) then
  X8_grow_b185 N k57 mG mO mR mW mS mK mD mN v1 v2 v3 v4 v5
 else
  zck v4 700 (X8_grow_b216 N k57 mG mO mR mW mS (tmK.s_kFront mK (upd (tmK.kFront mK) v4.toNatClampNeg v5)) mD mN v1 v2 v3 v4 v5)))))
def X8_grow_b57 (N : Nat) (mG : tmG) (mO : tmO) : Nat → tmR → tmW → tmS → tmK → tmD → tmN → Int32 → Int32 → Option (tmR × tmW × tmS × tmK × tmD × tmN)
  | 0, _, _, _, _, _, _, _, _ => none
  | n + 1, mR, mW, mS, mK, mD, mN, v1, v2 =>
  (if (tmW.waits mW) ≤ (0 : Int32) then
  some (mR, mW, mS, mK, mD, mN)
 else
  zck ((tmW.waits mW) - (1 : Int32)) 700 (zl ((tmW.wFrom mW) ((tmW.waits mW) - (1 : Int32)).toNatClampNeg) (fun x62 =>
  zck ((tmW.waits mW) - (1 : Int32)) 700 (zl ((tmW.wAbove mW) ((tmW.waits mW) - (1 : Int32)).toNatClampNeg) (fun x64 =>
  (if x62 = (tmR.rMany mR) then
  (if v2 = (0 : Int32) then
  X8_grow_b152 N (X8_grow_b57 N mG mO n) mG mO mR (tmW.s_waits mW ((tmW.waits mW) - (1 : Int32))) mS mK mD mN v1 v2 x62 x64 (-1 : Int32)
 else
  zl ((-2 : Int32) - (tmK.leaves mK)) (fun x69 =>
  X8_grow_b152 N (X8_grow_b57 N mG mO n) mG mO mR (tmW.s_waits mW ((tmW.waits mW) - (1 : Int32))) mS (tmK.s_leaves mK ((tmK.leaves mK) + (1 : Int32))) mD mN v1 v2 x62 x64 x69))
 else
  (if v2 = (0 : Int32) then
  X8_grow_b152 N (X8_grow_b57 N mG mO n) mG mO mR (tmW.s_waits mW ((tmW.waits mW) - (1 : Int32))) mS mK mD mN v1 v2 x62 x64 (-1 : Int32)
 else
  zl (tmK.knots mK) (fun x67 =>
  X8_grow_b152 N (X8_grow_b57 N mG mO n) mG mO mR (tmW.s_waits mW ((tmW.waits mW) - (1 : Int32))) mS (tmK.s_knots mK ((tmK.knots mK) + (1 : Int32))) mD mN v1 v2 x62 x64 x67))))))))
def X8_grow_b23 (N : Nat) (mG : tmG) (mO : tmO) : Nat → tmR → tmW → tmS → tmK → tmD → tmN → Int32 → Int32 → Int32 → Option (tmR × tmW × tmS × tmK × tmD × tmN)
  | 0, _, _, _, _, _, _, _, _, _ => none
  | n + 1, mR, mW, mS, mK, mD, mN, v1, v2, v3 =>
  (if (tmG.pieces mG) ≤ v3 then
  X8_grow_b57 N mG mO N mR mW mS mK mD mN v1 v2
 else
  zck v3 24 ((X8_put mS (0 : Int32) ((tmO.orderOf mO) v3.toNatClampNeg) (0 : Int64) (1 : Int64) (1 : Int64) (1 : Int64)).bind (fun u72 =>
  (X8_back mR u72 (0 : Int32)).bind (fun u73 =>
  X8_grow_b23 N mG mO n u73 mW u72 mK mD mN v1 v2 (v3 + (1 : Int32))))))
def X8_grow (N : Nat) (mG : tmG) (mR : tmR) (mW : tmW) (mS : tmS) (mK : tmK) (mD : tmD) (mN : tmN) (mO : tmO) (a1 : Int32) (a2 : Int32) : Option (tmR × tmW × tmS × tmK × tmD × tmN) :=
  (X8_waitsNow (tmR.s_rMany mR (0 : Int32)) (tmW.s_waits mW (0 : Int32)) (-1 : Int32) (0 : Int32)).bind (fun u74 =>
  X8_grow_b23 N mG mO N (tmR.s_rMany mR (0 : Int32)) u74 mS mK mD (tmN.s_made mN (0 : Int32)) a1 a2 (0 : Int32))
-- X8_build
def X8_build_b51 (N : Nat) (mG : tmG) (mH : tmH) (mR : tmR) (mW : tmW) (mS : tmS) (mK : tmK) (mD : tmD) (mN : tmN) (mO : tmO) (mB : tmB) (v1 : Int32) : Option (Int32 × tmH × tmR × tmW × tmS × tmK × tmD × tmN × tmO × tmB) :=
  (X8_grow N mG mR mW mS mK mD mN mO v1 (1 : Int32)).bind (fun u1 =>
  some ((tmK.knots u1.2.2.2.1), mH, u1.1, u1.2.1, u1.2.2.1, u1.2.2.2.1, u1.2.2.2.2.1, u1.2.2.2.2.2, mO, mB))
def X8_build_b32 (N : Nat) (mG : tmG) : Nat → tmH → tmR → tmW → tmS → tmK → tmD → tmN → tmO → tmB → Int32 → Int32 → Option (Int32 × tmH × tmR × tmW × tmS × tmK × tmD × tmN × tmO × tmB)
  | 0, _, _, _, _, _, _, _, _, _, _, _ => none
  | n + 1, mH, mR, mW, mS, mK, mD, mN, mO, mB, v1, v3 =>
  (if (24 : Int32) ≤ v3 then
  X8_build_b51 N mG mH mR mW mS mK mD mN mO mB v1
 else
  zck v3 24 (X8_build_b32 N mG n mH mR mW mS mK mD mN (tmO.s_orderOf mO (upd (tmO.orderOf mO) v3.toNatClampNeg v3)) mB v1 (v3 + (1 : Int32))))
def X8_build (N : Nat) (mG : tmG) (mH : tmH) (mR : tmR) (mW : tmW) (mS : tmS) (mK : tmK) (mD : tmD) (mN : tmN) (mO : tmO) (mB : tmB) (a1 : Int32) (a2 : Int32) : Option (Int32 × tmH × tmR × tmW × tmS × tmK × tmD × tmN × tmO × tmB) :=
  (if a1 < (0 : Int32) then
  some ((-1 : Int32), (tmH.s_thrown mH (0 : Int32)), mR, mW, mS, mK, mD, mN, mO, mB)
 else
  (if a1 ≤ (3 : Int32) then
  (X8_noTree mK mB).bind (fun u6 =>
  X8_build_b32 N mG N (tmH.s_thrown mH (0 : Int32)) mR mW mS (tmK.s_isTree u6.1 (1 : Int32)) (tmD.s_draw mD a2) mN mO u6.2 a1 (0 : Int32))
 else
  some ((-1 : Int32), (tmH.s_thrown mH (0 : Int32)), mR, mW, mS, mK, mD, mN, mO, mB)))
-- X8_deepest
def X8_deepest_b54 (N : Nat) (mK : tmK) (v1 : Int32) : Option (Int32) :=
  some v1
def X8_deepest_b47 (N : Nat) (k4 : Int32 → Int32 → Option (Int32)) (mK : tmK) (v2 : Int32) (s0 : Int32) : Option (Int32) :=
  k4 s0 (v2 + (1 : Int32))
def X8_deepest_b37 (N : Nat) (k4 : Int32 → Int32 → Option (Int32)) (mK : tmK) (v1 : Int32) (v2 : Int32) (v3 : Int32) : Option (Int32) :=
  (if v3 ≤ v1 then
  X8_deepest_b47 N k4 mK v2 v1
 else
  X8_deepest_b47 N k4 mK v2 v3)
def X8_deepest_b17 (N : Nat) (k4 : Int32 → Int32 → Option (Int32)) (mK : tmK) : Nat → Int32 → Int32 → Int32 → Int32 → Option (Int32)
  | 0, _, _, _, _ => none
  | n + 1, v1, v2, v3, v4 =>
  (if v4 < (0 : Int32) then
  X8_deepest_b37 N k4 mK v1 v2 v3
 else
  zck v4 700 (zl ((tmK.kAbove mK) v4.toNatClampNeg) (fun x4 =>
  X8_deepest_b17 N k4 mK n v1 v2 (v3 + (1 : Int32)) x4)))
def X8_deepest_b4 (N : Nat) (mK : tmK) : Nat → Int32 → Int32 → Option (Int32)
  | 0, _, _ => none
  | n + 1, v1, v2 =>
  (if (tmK.knots mK) ≤ v2 then
  X8_deepest_b54 N mK v1
 else
  X8_deepest_b17 N (X8_deepest_b4 N mK n) mK N v1 v2 (0 : Int32) v2)
def X8_deepest (N : Nat) (mK : tmK) : Option (Int32) :=
  X8_deepest_b4 N mK N (0 : Int32) (0 : Int32)
-- X8_count
def X8_count (N : Nat) (mG : tmG) (mH : tmH) (mK : tmK) (a1 : Int32) : Option (Int32 × tmH) :=
  (if a1 = (0 : Int32) then
  some ((tmG.pieces mG), (tmH.s_thrown mH (0 : Int32)))
 else
  (if a1 = (1 : Int32) then
  some ((tmK.knots mK), (tmH.s_thrown mH (0 : Int32)))
 else
  (if a1 = (2 : Int32) then
  some ((tmK.parts mK), (tmH.s_thrown mH (0 : Int32)))
 else
  (if a1 = (3 : Int32) then
  some ((tmK.leaves mK), (tmH.s_thrown mH (0 : Int32)))
 else
  (if a1 = (4 : Int32) then
  (X8_deepest N mK).bind (fun u3 =>
  some (u3, (tmH.s_thrown mH (0 : Int32))))
 else
  (if a1 = (5 : Int32) then
  (if (tmK.isTree mK) = (0 : Int32) then
  some ((0 : Int32), (tmH.s_thrown mH (0 : Int32)))
 else
  some (((tmK.parts mK) - (tmG.pieces mG)), (tmH.s_thrown mH (0 : Int32))))
 else
  some ((-1 : Int32), (tmH.s_thrown mH (0 : Int32)))))))))
-- X8_knot
def X8_knot_b17 (mK : tmK) (mH : tmH) : Option (Int32 × tmH) :=
  (X8_fails mH (1 : Int32)).bind (fun u1 =>
  some (u1.1, u1.2))
def X8_knot (mH : tmH) (mK : tmK) (a1 : Int32) (a2 : Int32) : Option (Int32 × tmH) :=
  (if a1 < (0 : Int32) then
  X8_knot_b17 mK (tmH.s_thrown mH (0 : Int32))
 else
  (if a1 < (tmK.knots mK) then
  (if a2 = (0 : Int32) then
  zck a1 700 (some (((tmK.kPiece mK) a1.toNatClampNeg), (tmH.s_thrown mH (0 : Int32))))
 else
  (if a2 = (1 : Int32) then
  zck a1 700 (some (((tmK.kMany mK) a1.toNatClampNeg), (tmH.s_thrown mH (0 : Int32))))
 else
  (if a2 = (2 : Int32) then
  zck a1 700 (some (((tmK.kFirst mK) a1.toNatClampNeg), (tmH.s_thrown mH (0 : Int32))))
 else
  (if a2 = (3 : Int32) then
  zck a1 700 (some (((tmK.kFront mK) a1.toNatClampNeg), (tmH.s_thrown mH (0 : Int32))))
 else
  (if a2 = (4 : Int32) then
  zck a1 700 (some (((tmK.kBack mK) a1.toNatClampNeg), (tmH.s_thrown mH (0 : Int32))))
 else
  (if a2 = (5 : Int32) then
  zck a1 700 (some (((tmK.kAbove mK) a1.toNatClampNeg), (tmH.s_thrown mH (0 : Int32))))
 else
  (X8_fails (tmH.s_thrown mH (0 : Int32)) (2 : Int32)).bind (fun u5 =>
  some (u5.1, u5.2))))))))
 else
  X8_knot_b17 mK (tmH.s_thrown mH (0 : Int32))))
-- X8_divisor
def X8_divisor_b53 (N : Nat) (v4 : Int64) : Option (Int64) :=
  some v4
def X8_divisor_b28 (N : Nat) : Nat → Int64 → Int64 → Option (Int64)
  | 0, _, _ => none
  | n + 1, v4, v6 =>
  (if (lg_cmp v6 (0 : Int64)) = (0 : Int32) then
  X8_divisor_b53 N v4
 else
  zczl v6 (zl (v4 - v4 / v6 * v6) (fun x3 =>
  X8_divisor_b28 N n v6 x3)))
def X8_divisor_b26 (N : Nat) (v4 : Int64) (s0 : Int64) : Option (Int64) :=
  X8_divisor_b28 N N v4 s0
def X8_divisor_b12 (N : Nat) (v2 : Int64) (s0 : Int64) : Option (Int64) :=
  (if (0 : Int32) ≤ (lg_cmp v2 (0 : Int64)) then
  X8_divisor_b26 N s0 v2
 else
  X8_divisor_b26 N s0 (-v2))
def X8_divisor (N : Nat) (a0 : Int64) (a2 : Int64) : Option (Int64) :=
  (if (0 : Int32) ≤ (lg_cmp a0 (0 : Int64)) then
  X8_divisor_b12 N a2 a0
 else
  X8_divisor_b12 N a2 (-a0))
-- X8_end
def X8_end_b81 (N : Nat) (mG : tmG) (v11 : Int64) (s0 : Int64) : Option (Int64) :=
  zczl v11 (some (s0 / v11))
def X8_end (N : Nat) (mG : tmG) (a1 : Int32) (a2 : Int64) (a4 : Int64) (a6 : Int32) : Option (Int64) :=
  zck a1 24 (zck a1 24 (zl (((((tmG.px mG) a1.toNatClampNeg)).toInt64 * a4) + ((((tmG.dx mG) a1.toNatClampNeg)).toInt64 * a2)) (fun x4 =>
  zck a1 24 (zck a1 24 (zl (((((tmG.py mG) a1.toNatClampNeg)).toInt64 * a4) + ((((tmG.dy mG) a1.toNatClampNeg)).toInt64 * a2)) (fun x7 =>
  (X8_divisor N x4 x7).bind (fun u8 =>
  (X8_divisor N a4 u8).bind (fun u9 =>
  (if a6 = (0 : Int32) then
  X8_end_b81 N mG u9 x4
 else
  (if a6 = (1 : Int32) then
  X8_end_b81 N mG u9 x7
 else
  X8_end_b81 N mG u9 a4))))))))))
-- X8_part
def X8_part_b17 (N : Nat) (mG : tmG) (mK : tmK) (mH : tmH) : Option (Int64 × tmH) :=
  (X8_fails mH (1 : Int32)).bind (fun u1 =>
  some ((u1.1).toInt64, u1.2))
def X8_part (N : Nat) (mG : tmG) (mH : tmH) (mK : tmK) (a1 : Int32) (a2 : Int32) : Option (Int64 × tmH) :=
  (if a1 < (0 : Int32) then
  X8_part_b17 N mG mK (tmH.s_thrown mH (0 : Int32))
 else
  (if a1 < (tmK.parts mK) then
  (if a2 = (0 : Int32) then
  zck a1 700 (some ((((tmK.pPiece mK) a1.toNatClampNeg)).toInt64, (tmH.s_thrown mH (0 : Int32))))
 else
  (if a2 = (1 : Int32) then
  zck a1 700 (zck a1 700 (zck a1 700 ((X8_end N mG ((tmK.pPiece mK) a1.toNatClampNeg) ((tmK.pUp mK) a1.toNatClampNeg) ((tmK.pLow mK) a1.toNatClampNeg) (a2 - (1 : Int32))).bind (fun u30 =>
  some (u30, (tmH.s_thrown mH (0 : Int32)))))))
 else
  (if a2 = (2 : Int32) then
  zck a1 700 (zck a1 700 (zck a1 700 ((X8_end N mG ((tmK.pPiece mK) a1.toNatClampNeg) ((tmK.pUp mK) a1.toNatClampNeg) ((tmK.pLow mK) a1.toNatClampNeg) (a2 - (1 : Int32))).bind (fun u26 =>
  some (u26, (tmH.s_thrown mH (0 : Int32)))))))
 else
  (if a2 = (3 : Int32) then
  zck a1 700 (zck a1 700 (zck a1 700 ((X8_end N mG ((tmK.pPiece mK) a1.toNatClampNeg) ((tmK.pUp mK) a1.toNatClampNeg) ((tmK.pLow mK) a1.toNatClampNeg) (a2 - (1 : Int32))).bind (fun u22 =>
  some (u22, (tmH.s_thrown mH (0 : Int32)))))))
 else
  (if a2 = (4 : Int32) then
  zck a1 700 (zck a1 700 (zck a1 700 ((X8_end N mG ((tmK.pPiece mK) a1.toNatClampNeg) ((tmK.pUp2 mK) a1.toNatClampNeg) ((tmK.pLow2 mK) a1.toNatClampNeg) (a2 - (4 : Int32))).bind (fun u18 =>
  some (u18, (tmH.s_thrown mH (0 : Int32)))))))
 else
  (if a2 = (5 : Int32) then
  zck a1 700 (zck a1 700 (zck a1 700 ((X8_end N mG ((tmK.pPiece mK) a1.toNatClampNeg) ((tmK.pUp2 mK) a1.toNatClampNeg) ((tmK.pLow2 mK) a1.toNatClampNeg) (a2 - (4 : Int32))).bind (fun u14 =>
  some (u14, (tmH.s_thrown mH (0 : Int32)))))))
 else
  (if a2 = (6 : Int32) then
  zck a1 700 (zck a1 700 (zck a1 700 ((X8_end N mG ((tmK.pPiece mK) a1.toNatClampNeg) ((tmK.pUp2 mK) a1.toNatClampNeg) ((tmK.pLow2 mK) a1.toNatClampNeg) (a2 - (4 : Int32))).bind (fun u10 =>
  some (u10, (tmH.s_thrown mH (0 : Int32)))))))
 else
  (if a2 = (7 : Int32) then
  zck a1 700 (some ((((tmK.pKnot mK) a1.toNatClampNeg)).toInt64, (tmH.s_thrown mH (0 : Int32))))
 else
  (X8_fails (tmH.s_thrown mH (0 : Int32)) (2 : Int32)).bind (fun u5 =>
  some ((u5.1).toInt64, u5.2))))))))))
 else
  X8_part_b17 N mG mK (tmH.s_thrown mH (0 : Int32))))
-- X8_where
def X8_where_b85 (N : Nat) (mG : tmG) (mK : tmK) (mH : tmH) (v3 : Int32) : Option (Int32 × tmH) :=
  some (((-2 : Int32) - v3), mH)
def X8_where_b81 (N : Nat) (k27 : tmH → Int32 → Int32 → Int32 → Option (Int32 × tmH)) (mG : tmG) (mK : tmK) (mH : tmH) (v1 : Int32) (v2 : Int32) (s0 : Int32) : Option (Int32 × tmH) :=
  k27 mH v1 v2 s0
def X8_where_b54 (N : Nat) (k27 : tmH → Int32 → Int32 → Int32 → Option (Int32 × tmH)) (mG : tmG) (mK : tmK) (mH : tmH) (v3 : Int32) : Option (Int32 × tmH) :=
  some (((-2 : Int32) - v3), mH)
def X8_where_b27 (N : Nat) (mG : tmG) (mK : tmK) : Nat → tmH → Int32 → Int32 → Int32 → Option (Int32 × tmH)
  | 0, _, _, _, _ => none
  | n + 1, mH, v1, v2, v3 =>
  (if v3 < (0 : Int32) then
  X8_where_b85 N mG mK mH v3
 else
  zck v3 700 ((X8_side mG ((tmK.kPiece mK) v3.toNatClampNeg) v1.toInt64 v2.toInt64).bind (fun u3 =>
  (if (lg_cmp u3 (0 : Int64)) = (0 : Int32) then
  X8_where_b54 N (X8_where_b27 N mG mK n) mG mK mH v3
 else
  (if (lg_cmp u3 (0 : Int64)) ≤ (0 : Int32) then
  zck v3 700 (X8_where_b81 N (X8_where_b27 N mG mK n) mG mK mH v1 v2 ((tmK.kBack mK) v3.toNatClampNeg))
 else
  zck v3 700 (X8_where_b81 N (X8_where_b27 N mG mK n) mG mK mH v1 v2 ((tmK.kFront mK) v3.toNatClampNeg)))))))
def X8_where (N : Nat) (mG : tmG) (mH : tmH) (mK : tmK) (a1 : Int32) (a2 : Int32) : Option (Int32 × tmH) :=
  (if (tmK.isTree mK) = (0 : Int32) then
  some ((-1 : Int32), (tmH.s_thrown mH (0 : Int32)))
 else
  (X8_isPlace a1 a2).bind (fun u9 =>
  (if u9 = (0 : Int32) then
  some ((-1 : Int32), (tmH.s_thrown mH (0 : Int32)))
 else
  zl (tmK.top mK) (fun x11 =>
  X8_where_b27 N mG mK N (tmH.s_thrown mH (0 : Int32)) a1 a2 x11))))
-- X8_order
def X8_order_b257 (N : Nat) (mG : tmG) (mK : tmK) (mH : tmH) (mB : tmB) : Option (Int32 × tmH × tmB) :=
  some ((tmB.toldMany mB), mH, mB)
def X8_order_b241 (N : Nat) (k46 : tmH → tmB → Int32 → Int32 → Int32 → Option (Int32 × tmH × tmB)) (mG : tmG) (mK : tmK) (mH : tmH) (mB : tmB) (v1 : Int32) (v2 : Int32) (v3 : Int32) (s0 : Int32) (s1 : Int32) : Option (Int32 × tmH × tmB) :=
  zck s1 1400 (zck (v3 + (2 : Int32)) 1400 (k46 mH (tmB.s_oParts (tmB.s_oKnot mB (upd (tmB.oKnot mB) s1.toNatClampNeg s0)) (upd (tmB.oParts mB) (v3 + (2 : Int32)).toNatClampNeg (vp_nar .boolean (0 : Int32)))) v1 v2 (v3 + (3 : Int32))))
def X8_order_b185 (N : Nat) (k46 : tmH → tmB → Int32 → Int32 → Int32 → Option (Int32 × tmH × tmB)) (mG : tmG) (mK : tmK) (mH : tmH) (mB : tmB) (v1 : Int32) (v2 : Int32) (v3 : Int32) (v4 : Int32) (v5 : Int32) (s0 : Int32) (s1 : Int32) : Option (Int32 × tmH × tmB) :=
  zck s1 1400 (zck v3 1400 (zck (v3 + (1 : Int32)) 1400 (zck (v3 + (1 : Int32)) 1400 ((if v5 = (0 : Int32) then
  zck v4 700 (X8_order_b241 N k46 mG mK mH (tmB.s_oParts (tmB.s_oKnot mB (upd (upd (tmB.oKnot mB) s1.toNatClampNeg s0) (v3 + (1 : Int32)).toNatClampNeg v4)) (upd (upd (tmB.oParts mB) v3.toNatClampNeg (vp_nar .boolean (0 : Int32))) (v3 + (1 : Int32)).toNatClampNeg (vp_nar .boolean (1 : Int32)))) v1 v2 v3 ((tmK.kFront mK) v4.toNatClampNeg) (v3 + (2 : Int32)))
 else
  zck v4 700 (X8_order_b241 N k46 mG mK mH (tmB.s_oParts (tmB.s_oKnot mB (upd (upd (tmB.oKnot mB) s1.toNatClampNeg s0) (v3 + (1 : Int32)).toNatClampNeg v4)) (upd (upd (tmB.oParts mB) v3.toNatClampNeg (vp_nar .boolean (0 : Int32))) (v3 + (1 : Int32)).toNatClampNeg (vp_nar .boolean (1 : Int32)))) v1 v2 v3 ((tmK.kBack mK) v4.toNatClampNeg) (v3 + (2 : Int32))))))))
def X8_order_b156 (N : Nat) (k46 : tmH → tmB → Int32 → Int32 → Int32 → Option (Int32 × tmH × tmB)) (mG : tmG) (mK : tmK) (mH : tmH) (mB : tmB) (v1 : Int32) (v2 : Int32) (v3 : Int32) (v4 : Int32) (s0 : Int32) : Option (Int32 × tmH × tmB) :=
  (if s0 = (0 : Int32) then
  zck v4 700 (X8_order_b185 N k46 mG mK mH mB v1 v2 v3 v4 s0 ((tmK.kBack mK) v4.toNatClampNeg) v3)
 else
  zck v4 700 (X8_order_b185 N k46 mG mK mH mB v1 v2 v3 v4 s0 ((tmK.kFront mK) v4.toNatClampNeg) v3))
def X8_order_b128 (N : Nat) (k46 : tmH → tmB → Int32 → Int32 → Int32 → Option (Int32 × tmH × tmB)) (mG : tmG) (mK : tmK) (mH : tmH) (mB : tmB) (v1 : Int32) (v2 : Int32) (v3 : Int32) : Option (Int32 × tmH × tmB) :=
  k46 mH mB v1 v2 v3
def X8_order_b81 (N : Nat) (k46 : tmH → tmB → Int32 → Int32 → Int32 → Option (Int32 × tmH × tmB)) (mG : tmG) (mK : tmK) : Nat → tmH → tmB → Int32 → Int32 → Int32 → Int32 → Int32 → Option (Int32 × tmH × tmB)
  | 0, _, _, _, _, _, _, _ => none
  | n + 1, mH, mB, v1, v2, v3, v4, v5 =>
  zck v4 700 ((if ((tmK.kMany mK) v4.toNatClampNeg) ≤ v5 then
  X8_order_b128 N k46 mG mK mH mB v1 v2 v3
 else
  zck v4 700 (zck (tmB.toldMany mB) 700 (X8_order_b81 N k46 mG mK n mH (tmB.s_toldMany (tmB.s_told mB (upd (tmB.told mB) (tmB.toldMany mB).toNatClampNeg (((tmK.kFirst mK) v4.toNatClampNeg) + v5))) ((tmB.toldMany mB) + (1 : Int32))) v1 v2 v3 v4 (v5 + (1 : Int32))))))
def X8_order_b46 (N : Nat) (mG : tmG) (mK : tmK) : Nat → tmH → tmB → Int32 → Int32 → Int32 → Option (Int32 × tmH × tmB)
  | 0, _, _, _, _, _ => none
  | n + 1, mH, mB, v1, v2, v3 =>
  (if v3 ≤ (0 : Int32) then
  X8_order_b257 N mG mK mH mB
 else
  zck (v3 + (-1 : Int32)) 1400 (zl ((tmB.oKnot mB) (v3 + (-1 : Int32)).toNatClampNeg) (fun x19 =>
  (if (0 : Int32) ≤ x19 then
  zck (v3 + (-1 : Int32)) 1400 ((if ((tmB.oParts mB) (v3 + (-1 : Int32)).toNatClampNeg) = (0 : Int32) then
  zck x19 700 ((X8_side mG ((tmK.kPiece mK) x19.toNatClampNeg) v1.toInt64 v2.toInt64).bind (fun u24 =>
  (if (lg_cmp u24 (0 : Int64)) ≤ (0 : Int32) then
  X8_order_b156 N (X8_order_b46 N mG mK n) mG mK mH mB v1 v2 (v3 + (-1 : Int32)) x19 (0 : Int32)
 else
  X8_order_b156 N (X8_order_b46 N mG mK n) mG mK mH mB v1 v2 (v3 + (-1 : Int32)) x19 (1 : Int32))))
 else
  X8_order_b81 N (X8_order_b46 N mG mK n) mG mK N mH mB v1 v2 (v3 + (-1 : Int32)) x19 (0 : Int32)))
 else
  X8_order_b46 N mG mK n mH mB v1 v2 (v3 + (-1 : Int32))))))
def X8_order (N : Nat) (mG : tmG) (mH : tmH) (mK : tmK) (mB : tmB) (a1 : Int32) (a2 : Int32) : Option (Int32 × tmH × tmB) :=
  (if (tmK.isTree mK) = (0 : Int32) then
  some ((-1 : Int32), (tmH.s_thrown mH (0 : Int32)), mB)
 else
  (X8_isPlace a1 a2).bind (fun u27 =>
  (if u27 = (0 : Int32) then
  some ((-1 : Int32), (tmH.s_thrown mH (0 : Int32)), mB)
 else
  zck (0 : Int32) 1400 (zck (0 : Int32) 1400 (X8_order_b46 N mG mK N (tmH.s_thrown mH (0 : Int32)) (tmB.s_oParts (tmB.s_oKnot (tmB.s_toldMany mB (0 : Int32)) (upd (tmB.oKnot mB) (0 : Int32).toNatClampNeg (tmK.top mK))) (upd (tmB.oParts mB) (0 : Int32).toNatClampNeg (vp_nar .boolean (0 : Int32)))) a1 a2 (1 : Int32))))))
-- X8_told
def X8_told_b17 (mB : tmB) (mH : tmH) : Option (Int32 × tmH) :=
  some ((-1 : Int32), mH)
def X8_told (mH : tmH) (mB : tmB) (a1 : Int32) : Option (Int32 × tmH) :=
  (if a1 < (0 : Int32) then
  X8_told_b17 mB (tmH.s_thrown mH (0 : Int32))
 else
  (if a1 < (tmB.toldMany mB) then
  zck a1 700 (some (((tmB.told mB) a1.toNatClampNeg), (tmH.s_thrown mH (0 : Int32))))
 else
  X8_told_b17 mB (tmH.s_thrown mH (0 : Int32))))
-- X8_between
def X8_between_b57  (s0 : Int32) (s1 : Int32) : Option (Int32) :=
  (if s0 < s1 then
  zcb (0 : Int32) (some (0 : Int32))
 else
  zcb (1 : Int32) (some (1 : Int32)))
def X8_between_b42  (v1 : Int32) (v3 : Int32) (v5 : Int32) (s0 : Int32) (s1 : Int32) : Option (Int32) :=
  (if s1 < s0 then
  zcb (0 : Int32) (some (0 : Int32))
 else
  (if v3 ≤ v1 then
  X8_between_b57 v1 v5
 else
  X8_between_b57 v3 v5))
def X8_between_b27  (v1 : Int32) (v3 : Int32) (v5 : Int32) (s0 : Int32) (s1 : Int32) : Option (Int32) :=
  (if s0 < s1 then
  zcb (0 : Int32) (some (0 : Int32))
 else
  (if v3 ≤ v1 then
  X8_between_b42 v1 v3 v5 v3 v5
 else
  X8_between_b42 v1 v3 v5 v1 v5))
def X8_between_b12  (v0 : Int32) (v1 : Int32) (v2 : Int32) (v3 : Int32) (v4 : Int32) (v5 : Int32) (s0 : Int32) (s1 : Int32) : Option (Int32) :=
  (if s1 < s0 then
  zcb (0 : Int32) (some (0 : Int32))
 else
  (if v2 ≤ v0 then
  X8_between_b27 v1 v3 v5 v0 v4
 else
  X8_between_b27 v1 v3 v5 v2 v4))
def X8_between (a0 : Int32) (a1 : Int32) (a2 : Int32) (a3 : Int32) (a4 : Int32) (a5 : Int32) : Option (Int32) :=
  (if a2 ≤ a0 then
  X8_between_b12 a0 a1 a2 a3 a4 a5 a2 a4
 else
  X8_between_b12 a0 a1 a2 a3 a4 a5 a0 a4)
-- X8_sign
def X8_sign (a0 : Int64) : Option (Int32) :=
  (if (lg_cmp a0 (0 : Int64)) ≤ (0 : Int32) then
  (if (0 : Int32) ≤ (lg_cmp a0 (0 : Int64)) then
  some (0 : Int32)
 else
  some (-1 : Int32))
 else
  some (1 : Int32))
-- X8_turn
def X8_turn (a0 : Int32) (a1 : Int32) (a2 : Int32) (a3 : Int32) (a4 : Int32) (a5 : Int32) : Option (Int32) :=
  (X8_sign ((((a2 - a0)).toInt64 * ((a5 - a1)).toInt64) - (((a3 - a1)).toInt64 * ((a4 - a0)).toInt64))).bind (fun u1 =>
  some u1)
-- X8_within
def X8_within_b131 (mG : tmG) (s0 : Int32) (s1 : Int32) : Option (Int32) :=
  (if s0 < s1 then
  zcb (0 : Int32) (some (0 : Int32))
 else
  zcb (1 : Int32) (some (1 : Int32)))
def X8_within_b105 (mG : tmG) (v1 : Int32) (v3 : Int32) (v5 : Int32) (s0 : Int32) (s1 : Int32) : Option (Int32) :=
  (if s1 < s0 then
  zcb (0 : Int32) (some (0 : Int32))
 else
  zck v1 24 ((if v5 ≤ ((tmG.py mG) v1.toNatClampNeg) then
  zck v1 24 (X8_within_b131 mG ((tmG.py mG) v1.toNatClampNeg) v3)
 else
  X8_within_b131 mG v5 v3)))
def X8_within_b79 (mG : tmG) (v1 : Int32) (v3 : Int32) (v5 : Int32) (s0 : Int32) (s1 : Int32) : Option (Int32) :=
  (if s0 < s1 then
  zcb (0 : Int32) (some (0 : Int32))
 else
  zck v1 24 ((if v5 ≤ ((tmG.py mG) v1.toNatClampNeg) then
  X8_within_b105 mG v1 v3 v5 v5 v3
 else
  zck v1 24 (X8_within_b105 mG v1 v3 v5 ((tmG.py mG) v1.toNatClampNeg) v3))))
def X8_within_b53 (mG : tmG) (v1 : Int32) (v2 : Int32) (v3 : Int32) (v4 : Int32) (v5 : Int32) (s0 : Int32) (s1 : Int32) : Option (Int32) :=
  (if s1 < s0 then
  zcb (0 : Int32) (some (0 : Int32))
 else
  zck v1 24 ((if v4 ≤ ((tmG.px mG) v1.toNatClampNeg) then
  zck v1 24 (X8_within_b79 mG v1 v3 v5 ((tmG.px mG) v1.toNatClampNeg) v2)
 else
  X8_within_b79 mG v1 v3 v5 v4 v2)))
def X8_within (mG : tmG) (a1 : Int32) (a2 : Int32) (a3 : Int32) : Option (Int32) :=
  zck a1 24 (zck a1 24 (zl (((tmG.px mG) a1.toNatClampNeg) + ((tmG.dx mG) a1.toNatClampNeg)) (fun x21 =>
  zck a1 24 (zck a1 24 (zl (((tmG.py mG) a1.toNatClampNeg) + ((tmG.dy mG) a1.toNatClampNeg)) (fun x24 =>
  zck a1 24 ((if x21 ≤ ((tmG.px mG) a1.toNatClampNeg) then
  X8_within_b53 mG a1 a2 a3 x21 x24 x21 a2
 else
  zck a1 24 (X8_within_b53 mG a1 a2 a3 x21 x24 ((tmG.px mG) a1.toNatClampNeg) a2)))))))))
-- X8_meets
def X8_meets_b207 (mG : tmG) (v10 : Int32) (v11 : Int32) (v12 : Int32) (v13 : Int32) : Option (Int32) :=
  (if (0 : Int32) ≤ (v10 * v11) then
  zcb (0 : Int32) (some (0 : Int32))
 else
  (if (0 : Int32) ≤ (v12 * v13) then
  zcb (0 : Int32) (some (0 : Int32))
 else
  zcb (1 : Int32) (some (1 : Int32))))
def X8_meets_b179 (mG : tmG) (v2 : Int32) (v3 : Int32) (v4 : Int32) (v5 : Int32) (v8 : Int32) (v9 : Int32) (v10 : Int32) (v11 : Int32) (v12 : Int32) (v13 : Int32) (v14 : Int32) : Option (Int32) :=
  (if v14 = (0 : Int32) then
  X8_meets_b207 mG v10 v11 v12 v13
 else
  (if v13 = (0 : Int32) then
  (X8_between v2 v3 v4 v5 v8 v9).bind (fun u8 =>
  (if u8 = (0 : Int32) then
  X8_meets_b207 mG v10 v11 v12 v13
 else
  zcb (1 : Int32) (some (1 : Int32))))
 else
  X8_meets_b207 mG v10 v11 v12 v13))
def X8_meets_b151 (mG : tmG) (v2 : Int32) (v3 : Int32) (v4 : Int32) (v5 : Int32) (v6 : Int32) (v7 : Int32) (v8 : Int32) (v9 : Int32) (v10 : Int32) (v11 : Int32) (v12 : Int32) (v13 : Int32) (s0 : Int32) : Option (Int32) :=
  (if s0 = (0 : Int32) then
  X8_meets_b179 mG v2 v3 v4 v5 v8 v9 v10 v11 v12 v13 s0
 else
  (if v12 = (0 : Int32) then
  (X8_between v2 v3 v4 v5 v6 v7).bind (fun u13 =>
  (if u13 = (0 : Int32) then
  X8_meets_b179 mG v2 v3 v4 v5 v8 v9 v10 v11 v12 v13 s0
 else
  zcb (1 : Int32) (some (1 : Int32))))
 else
  X8_meets_b179 mG v2 v3 v4 v5 v8 v9 v10 v11 v12 v13 s0))
def X8_meets_b146 (mG : tmG) (v2 : Int32) (v3 : Int32) (v4 : Int32) (v5 : Int32) (v6 : Int32) (v7 : Int32) (v8 : Int32) (v9 : Int32) (v10 : Int32) (v11 : Int32) (v12 : Int32) (v13 : Int32) : Option (Int32) :=
  X8_meets_b151 mG v2 v3 v4 v5 v6 v7 v8 v9 v10 v11 v12 v13 (1 : Int32)
def X8_meets_b134 (mG : tmG) (v2 : Int32) (v3 : Int32) (v4 : Int32) (v5 : Int32) (v6 : Int32) (v7 : Int32) (v8 : Int32) (v9 : Int32) (v10 : Int32) (v11 : Int32) (v12 : Int32) (v13 : Int32) : Option (Int32) :=
  (if v2 = v4 then
  (if v3 = v5 then
  X8_meets_b151 mG v2 v3 v4 v5 v6 v7 v8 v9 v10 v11 v12 v13 (0 : Int32)
 else
  X8_meets_b146 mG v2 v3 v4 v5 v6 v7 v8 v9 v10 v11 v12 v13)
 else
  X8_meets_b146 mG v2 v3 v4 v5 v6 v7 v8 v9 v10 v11 v12 v13)
def X8_meets_b115 (mG : tmG) (v1 : Int32) (v2 : Int32) (v3 : Int32) (v4 : Int32) (v5 : Int32) (v6 : Int32) (v7 : Int32) (v8 : Int32) (v9 : Int32) (v10 : Int32) (v11 : Int32) (v12 : Int32) (v13 : Int32) : Option (Int32) :=
  (if v11 = (0 : Int32) then
  (X8_within mG v1 v4 v5).bind (fun u19 =>
  (if u19 = (0 : Int32) then
  X8_meets_b134 mG v2 v3 v4 v5 v6 v7 v8 v9 v10 v11 v12 v13
 else
  zcb (1 : Int32) (some (1 : Int32))))
 else
  X8_meets_b134 mG v2 v3 v4 v5 v6 v7 v8 v9 v10 v11 v12 v13)
def X8_meets (mG : tmG) (a1 : Int32) (a2 : Int32) (a3 : Int32) (a4 : Int32) (a5 : Int32) : Option (Int32) :=
  zck a1 24 (zl ((tmG.px mG) a1.toNatClampNeg) (fun x23 =>
  zck a1 24 (zl ((tmG.py mG) a1.toNatClampNeg) (fun x25 =>
  zck a1 24 (zl (x23 + ((tmG.dx mG) a1.toNatClampNeg)) (fun x27 =>
  zck a1 24 (zl (x25 + ((tmG.dy mG) a1.toNatClampNeg)) (fun x29 =>
  (X8_turn x23 x25 x27 x29 a2 a3).bind (fun u30 =>
  (X8_turn x23 x25 x27 x29 a4 a5).bind (fun u31 =>
  (X8_turn a2 a3 a4 a5 x23 x25).bind (fun u32 =>
  (X8_turn a2 a3 a4 a5 x27 x29).bind (fun u33 =>
  (if u30 = (0 : Int32) then
  (X8_within mG a1 a2 a3).bind (fun u35 =>
  (if u35 = (0 : Int32) then
  X8_meets_b115 mG a1 a2 a3 a4 a5 x23 x25 x27 x29 u30 u31 u32 u33
 else
  zcb (1 : Int32) (some (1 : Int32))))
 else
  X8_meets_b115 mG a1 a2 a3 a4 a5 x23 x25 x27 x29 u30 u31 u32 u33)))))))))))))
-- X8_sees
def X8_sees_b27 (N : Nat) (mG : tmG) : Nat → tmH → Int32 → Int32 → Int32 → Int32 → Int32 → Option (Int32 × tmH)
  | 0, _, _, _, _, _, _ => none
  | n + 1, mH, v1, v2, v3, v4, v5 =>
  (if (tmG.pieces mG) ≤ v5 then
  some ((1 : Int32), mH)
 else
  (X8_meets mG v5 v1 v2 v3 v4).bind (fun u2 =>
  (if u2 = (0 : Int32) then
  X8_sees_b27 N mG n mH v1 v2 v3 v4 (v5 + (1 : Int32))
 else
  some ((0 : Int32), mH))))
def X8_sees (N : Nat) (mG : tmG) (mH : tmH) (a1 : Int32) (a2 : Int32) (a3 : Int32) (a4 : Int32) : Option (Int32 × tmH) :=
  (X8_isPlace a1 a2).bind (fun u4 =>
  (if u4 = (0 : Int32) then
  some ((-1 : Int32), (tmH.s_thrown mH (0 : Int32)))
 else
  (X8_isPlace a3 a4).bind (fun u6 =>
  (if u6 = (0 : Int32) then
  some ((-1 : Int32), (tmH.s_thrown mH (0 : Int32)))
 else
  X8_sees_b27 N mG N (tmH.s_thrown mH (0 : Int32)) a1 a2 a3 a4 (0 : Int32)))))
-- X8_comes
def X8_comes_b349 (mG : tmG) (mM : tmM) (v10 : Int64) (v18 : Int64) (s0 : Int64) : Option (Int32 × tmM) :=
  (if (lg_cmp v18 (0 : Int64)) < (0 : Int32) then
  zcb (0 : Int32) (some ((0 : Int32), (tmM.s_comesLow (tmM.s_comesUp mM s0) v10)))
 else
  zcb (1 : Int32) (some ((1 : Int32), (tmM.s_comesLow (tmM.s_comesUp mM s0) v10))))
def X8_comes_b333 (mG : tmG) (mM : tmM) (v10 : Int64) (v16 : Int64) (s0 : Int64) : Option (Int32 × tmM) :=
  (if (0 : Int32) ≤ (lg_cmp v16 (0 : Int64)) then
  X8_comes_b349 mG mM v10 s0 v16
 else
  X8_comes_b349 mG mM v10 s0 (0 : Int64))
def X8_comes_b316 (mG : tmG) (mM : tmM) (v10 : Int64) (v12 : Int64) (v14 : Int64) (s0 : Int64) : Option (Int32 × tmM) :=
  (if (0 : Int32) ≤ (lg_cmp v12 v14) then
  X8_comes_b333 mG mM v10 s0 v12
 else
  X8_comes_b333 mG mM v10 s0 v14)
def X8_comes_b301 (mG : tmG) (mM : tmM) (v10 : Int64) (v12 : Int64) (v14 : Int64) : Option (Int32 × tmM) :=
  (if (0 : Int32) ≤ (lg_cmp v12 v14) then
  X8_comes_b316 mG mM v10 v12 v14 v14
 else
  X8_comes_b316 mG mM v10 v12 v14 v12)
def X8_comes_b277 (mG : tmG) (mM : tmM) (v10 : Int64) (v12 : Int64) (s0 : Int64) : Option (Int32 × tmM) :=
  (if (0 : Int32) ≤ (lg_cmp v10 (0 : Int64)) then
  X8_comes_b301 mG mM v10 v12 s0
 else
  zl (-v10) (fun x8 =>
  zl (-v12) (fun x9 =>
  zl (-s0) (fun x10 =>
  X8_comes_b301 mG mM x8 x9 x10))))
def X8_comes_b247 (mG : tmG) (mM : tmM) (v1 : Int32) (v4 : Int32) (v10 : Int64) (s0 : Int64) : Option (Int32 × tmM) :=
  (if v4 = (0 : Int32) then
  zck v1 24 (X8_comes_b277 mG mM v10 s0 (s0 + (((tmG.dy mG) v1.toNatClampNeg)).toInt64))
 else
  zck v1 24 (X8_comes_b277 mG mM v10 s0 (s0 + (((tmG.dx mG) v1.toNatClampNeg)).toInt64)))
def X8_comes_b219 (mG : tmG) (mM : tmM) (v1 : Int32) (v2 : Int32) (v3 : Int32) (v4 : Int32) (s0 : Int64) : Option (Int32 × tmM) :=
  (if v4 = (0 : Int32) then
  zck v1 24 (X8_comes_b247 mG mM v1 v4 s0 (((((tmG.py mG) v1.toNatClampNeg) - v3)).toInt64))
 else
  zck v1 24 (X8_comes_b247 mG mM v1 v4 s0 (((((tmG.px mG) v1.toNatClampNeg) - v2)).toInt64)))
def X8_comes_b190 (mG : tmG) (mM : tmM) : Option (Int32 × tmM) :=
  zcb (1 : Int32) (some ((1 : Int32), mM))
def X8_comes_b176 (mG : tmG) (mM : tmM) (v10 : Int64) (v12 : Int64) : Option (Int32 × tmM) :=
  (if (lg_cmp v10 (0 : Int64)) < (0 : Int32) then
  zcb (0 : Int32) (some ((0 : Int32), mM))
 else
  (if (0 : Int32) < (lg_cmp v12 (0 : Int64)) then
  zcb (0 : Int32) (some ((0 : Int32), mM))
 else
  X8_comes_b190 mG mM))
def X8_comes_b78 (mG : tmG) (mM : tmM) (v1 : Int32) (v2 : Int32) (v3 : Int32) (v4 : Int32) (v5 : Int32) (s0 : Int64) : Option (Int32 × tmM) :=
  zck v1 24 (zck v1 24 (zl ((v4.toInt64 * ((((tmG.py mG) v1.toNatClampNeg) - v3)).toInt64) - (v5.toInt64 * ((((tmG.px mG) v1.toNatClampNeg) - v2)).toInt64)) (fun x24 =>
  zck v1 24 (zck v1 24 (zck v1 24 (zck v1 24 (zl ((v4.toInt64 * (((((tmG.py mG) v1.toNatClampNeg) + ((tmG.dy mG) v1.toNatClampNeg)) - v3)).toInt64) - (v5.toInt64 * (((((tmG.px mG) v1.toNatClampNeg) + ((tmG.dx mG) v1.toNatClampNeg)) - v2)).toInt64)) (fun x29 =>
  (if (lg_cmp (tmM.comesUp mM) (0 : Int64)) < (0 : Int32) then
  zcb (0 : Int32) (some ((0 : Int32), (tmM.s_comesLow mM s0)))
 else
  (if (0 : Int32) < (lg_cmp x24 (0 : Int64)) then
  X8_comes_b176 mG (tmM.s_comesLow mM s0) x24 x29
 else
  (if (0 : Int32) ≤ (lg_cmp x29 (0 : Int64)) then
  X8_comes_b190 mG (tmM.s_comesLow mM s0)
 else
  X8_comes_b176 mG (tmM.s_comesLow mM s0) x24 x29)))))))))))
def X8_comes_b59 (mG : tmG) (mM : tmM) (v1 : Int32) (v2 : Int32) (v3 : Int32) (v4 : Int32) (v5 : Int32) (v8 : Int64) (s0 : Int64) : Option (Int32 × tmM) :=
  (if (0 : Int32) ≤ (lg_cmp v8 (0 : Int64)) then
  X8_comes_b78 mG (tmM.s_comesUp mM s0) v1 v2 v3 v4 v5 v8
 else
  X8_comes_b78 mG (tmM.s_comesUp mM s0) v1 v2 v3 v4 v5 (-v8))
def X8_comes (mG : tmG) (mM : tmM) (a1 : Int32) (a2 : Int32) (a3 : Int32) (a4 : Int32) (a5 : Int32) : Option (Int32 × tmM) :=
  (X8_side mG a1 a2.toInt64 a3.toInt64).bind (fun u35 =>
  zck a1 24 (zck a1 24 (zl (((((tmG.dx mG) a1.toNatClampNeg)).toInt64 * a5.toInt64) - ((((tmG.dy mG) a1.toNatClampNeg)).toInt64 * a4.toInt64)) (fun x38 =>
  (if (lg_cmp x38 (0 : Int64)) = (0 : Int32) then
  (if (lg_cmp u35 (0 : Int64)) = (0 : Int32) then
  (if a4 = (0 : Int32) then
  X8_comes_b219 mG mM a1 a2 a3 a4 a5.toInt64
 else
  X8_comes_b219 mG mM a1 a2 a3 a4 a4.toInt64)
 else
  zcb (0 : Int32) (some ((0 : Int32), mM)))
 else
  (if (0 : Int32) ≤ (lg_cmp x38 (0 : Int64)) then
  X8_comes_b59 mG mM a1 a2 a3 a4 a5 x38 (-u35)
 else
  X8_comes_b59 mG mM a1 a2 a3 a4 a5 x38 u35))))))
-- X8_ray
def X8_ray_b234 (N : Nat) (mG : tmG) (mH : tmH) (mM : tmM) : Option (Int32 × tmH × tmM) :=
  some ((tmM.metMany mM), mH, mM)
def X8_ray_b228 (N : Nat) (k41 : tmH → tmM → Int32 → Int32 → Int32 → Int32 → Int32 → Option (Int32 × tmH × tmM)) (mG : tmG) (mH : tmH) (mM : tmM) (v1 : Int32) (v2 : Int32) (v3 : Int32) (v4 : Int32) (v5 : Int32) : Option (Int32 × tmH × tmM) :=
  k41 mH mM v1 v2 v3 v4 (v5 + (1 : Int32))
def X8_ray_b191 (N : Nat) (k41 : tmH → tmM → Int32 → Int32 → Int32 → Int32 → Int32 → Option (Int32 × tmH × tmM)) (mG : tmG) (mH : tmH) (mM : tmM) (v1 : Int32) (v2 : Int32) (v3 : Int32) (v4 : Int32) (v5 : Int32) (v8 : Int64) (v10 : Int64) (v12 : Int32) : Option (Int32 × tmH × tmM) :=
  zck v12 24 (zck v12 24 (zck v12 24 (X8_ray_b228 N k41 mG mH (tmM.s_metMany (tmM.s_metLow (tmM.s_metUp (tmM.s_metPiece mM (upd (tmM.metPiece mM) v12.toNatClampNeg v5)) (vp_updL (tmM.metUp mM) v12.toNatClampNeg v8)) (vp_updL (tmM.metLow mM) v12.toNatClampNeg v10)) ((tmM.metMany mM) + (1 : Int32))) v1 v2 v3 v4 v5)))
def X8_ray_b104 (N : Nat) (k41 : tmH → tmM → Int32 → Int32 → Int32 → Int32 → Int32 → Option (Int32 × tmH × tmM)) (mG : tmG) : Nat → tmH → tmM → Int32 → Int32 → Int32 → Int32 → Int32 → Int64 → Int64 → Int32 → Option (Int32 × tmH × tmM)
  | 0, _, _, _, _, _, _, _, _, _, _ => none
  | n + 1, mH, mM, v1, v2, v3, v4, v5, v8, v10, v12 =>
  (if v12 ≤ (0 : Int32) then
  X8_ray_b191 N k41 mG mH mM v1 v2 v3 v4 v5 v8 v10 v12
 else
  zck (v12 - (1 : Int32)) 24 (zck (v12 - (1 : Int32)) 24 ((if (0 : Int32) ≤ (lg_cmp (v8 * ((tmM.metLow mM) (v12 - (1 : Int32)).toNatClampNeg)) (((tmM.metUp mM) (v12 - (1 : Int32)).toNatClampNeg) * v10)) then
  X8_ray_b191 N k41 mG mH mM v1 v2 v3 v4 v5 v8 v10 v12
 else
  zck (v12 - (1 : Int32)) 24 (zck v12 24 (zck (v12 - (1 : Int32)) 24 (zck v12 24 (zck (v12 - (1 : Int32)) 24 (zck v12 24 (X8_ray_b104 N k41 mG n mH (tmM.s_metLow (tmM.s_metUp (tmM.s_metPiece mM (upd (tmM.metPiece mM) v12.toNatClampNeg ((tmM.metPiece mM) (v12 - (1 : Int32)).toNatClampNeg))) (vp_updL (tmM.metUp mM) v12.toNatClampNeg ((tmM.metUp mM) (v12 - (1 : Int32)).toNatClampNeg))) (vp_updL (tmM.metLow mM) v12.toNatClampNeg ((tmM.metLow mM) (v12 - (1 : Int32)).toNatClampNeg))) v1 v2 v3 v4 v5 v8 v10 (v12 + (-1 : Int32))))))))))))
def X8_ray_b41 (N : Nat) (mG : tmG) : Nat → tmH → tmM → Int32 → Int32 → Int32 → Int32 → Int32 → Option (Int32 × tmH × tmM)
  | 0, _, _, _, _, _, _, _ => none
  | n + 1, mH, mM, v1, v2, v3, v4, v5 =>
  (if (tmG.pieces mG) ≤ v5 then
  X8_ray_b234 N mG mH mM
 else
  (X8_comes mG mM v5 v1 v2 v3 v4).bind (fun u15 =>
  (if u15.1 = (0 : Int32) then
  X8_ray_b228 N (X8_ray_b41 N mG n) mG mH u15.2 v1 v2 v3 v4 v5
 else
  (X8_divisor N (tmM.comesUp u15.2) (tmM.comesLow u15.2)).bind (fun u17 =>
  zczl u17 (zl ((tmM.comesUp u15.2) / u17) (fun x19 =>
  zczl u17 (zl ((tmM.comesLow u15.2) / u17) (fun x21 =>
  zl (tmM.metMany u15.2) (fun x22 =>
  X8_ray_b104 N (X8_ray_b41 N mG n) mG N mH u15.2 v1 v2 v3 v4 v5 x19 x21 x22)))))))))
def X8_ray_b33 (N : Nat) (mG : tmG) (mH : tmH) (mM : tmM) (v1 : Int32) (v2 : Int32) (v3 : Int32) (v4 : Int32) : Option (Int32 × tmH × tmM) :=
  X8_ray_b41 N mG N mH (tmM.s_metMany mM (0 : Int32)) v1 v2 v3 v4 (0 : Int32)
def X8_ray (N : Nat) (mG : tmG) (mH : tmH) (mM : tmM) (a1 : Int32) (a2 : Int32) (a3 : Int32) (a4 : Int32) : Option (Int32 × tmH × tmM) :=
  (X8_isPlace a1 a2).bind (fun u23 =>
  (if u23 = (0 : Int32) then
  some ((-1 : Int32), (tmH.s_thrown mH (0 : Int32)), mM)
 else
  (X8_isPlace a3 a4).bind (fun u25 =>
  (if u25 = (0 : Int32) then
  some ((-1 : Int32), (tmH.s_thrown mH (0 : Int32)), mM)
 else
  (if a3 = (0 : Int32) then
  (if a4 = (0 : Int32) then
  some ((-1 : Int32), (tmH.s_thrown mH (0 : Int32)), mM)
 else
  X8_ray_b33 N mG (tmH.s_thrown mH (0 : Int32)) mM a1 a2 a3 a4)
 else
  X8_ray_b33 N mG (tmH.s_thrown mH (0 : Int32)) mM a1 a2 a3 a4)))))
-- X8_met
def X8_met (mH : tmH) (mM : tmM) (a1 : Int32) (a2 : Int32) : Option (Int32 × tmH) :=
  (if a1 < (0 : Int32) then
  some ((-1 : Int32), (tmH.s_thrown mH (0 : Int32)))
 else
  (if a1 < (tmM.metMany mM) then
  (if a2 = (0 : Int32) then
  zck a1 24 (some (((tmM.metPiece mM) a1.toNatClampNeg), (tmH.s_thrown mH (0 : Int32))))
 else
  (if a2 = (1 : Int32) then
  zck a1 24 (some ((((tmM.metUp mM) a1.toNatClampNeg)).toInt32, (tmH.s_thrown mH (0 : Int32))))
 else
  (if a2 = (2 : Int32) then
  zck a1 24 (some ((((tmM.metLow mM) a1.toNatClampNeg)).toInt32, (tmH.s_thrown mH (0 : Int32))))
 else
  some ((-1 : Int32), (tmH.s_thrown mH (0 : Int32))))))
 else
  some ((-1 : Int32), (tmH.s_thrown mH (0 : Int32)))))
-- X8_digit
def X8_digit_b19 (N : Nat) (v2 : Int32) : Option (Int32) :=
  zcz (3 : Int32) (some (v2 - v2 / (3 : Int32) * (3 : Int32)))
def X8_digit_b4 (N : Nat) : Nat → Int32 → Int32 → Int32 → Option (Int32)
  | 0, _, _, _ => none
  | n + 1, v1, v2, v3 =>
  (if v1 ≤ v3 then
  X8_digit_b19 N v2
 else
  zcz (3 : Int32) (zl (v2 / (3 : Int32)) (fun x4 =>
  X8_digit_b4 N n v1 x4 (v3 + (1 : Int32)))))
def X8_digit (N : Nat) (a0 : Int32) (a1 : Int32) : Option (Int32) :=
  X8_digit_b4 N N a1 a0 (0 : Int32)
-- X8_isIn
def X8_isIn_b193 (N : Nat) (k22 : tmF → Int32 → Int32 → Int32 → Option (Int32 × tmF)) (mG : tmG) (mF : tmF) (v1 : Int32) (v2 : Int32) (v3 : Int32) : Option (Int32 × tmF) :=
  k22 mF v1 v2 (v3 + (1 : Int32))
def X8_isIn_b163 (N : Nat) (k22 : tmF → Int32 → Int32 → Int32 → Option (Int32 × tmF)) (mG : tmG) (mF : tmF) (v1 : Int32) (v2 : Int32) (v3 : Int32) (v6 : Int64) (v8 : Int64) (s0 : Int32) (s1 : Int32) : Option (Int32 × tmF) :=
  (if s1 = s0 then
  X8_isIn_b193 N k22 mG (tmF.s_inLow2 (tmF.s_inUp2 mF v6) v8) v1 v2 v3
 else
  X8_isIn_b193 N k22 mG (tmF.s_inLow (tmF.s_inUp mF v6) v8) v1 v2 v3)
def X8_isIn_b152 (N : Nat) (k22 : tmF → Int32 → Int32 → Int32 → Option (Int32 × tmF)) (mG : tmG) (mF : tmF) (v1 : Int32) (v2 : Int32) (v3 : Int32) (v4 : Int32) (v6 : Int64) (v8 : Int64) (s0 : Int32) : Option (Int32 × tmF) :=
  (if v4 = (1 : Int32) then
  X8_isIn_b163 N k22 mG mF v1 v2 v3 v6 v8 (1 : Int32) s0
 else
  X8_isIn_b163 N k22 mG mF v1 v2 v3 v6 v8 (0 : Int32) s0)
def X8_isIn_b141 (N : Nat) (k22 : tmF → Int32 → Int32 → Int32 → Option (Int32 × tmF)) (mG : tmG) (mF : tmF) (v1 : Int32) (v2 : Int32) (v3 : Int32) (v4 : Int32) (v5 : Int32) (v6 : Int64) (v8 : Int64) : Option (Int32 × tmF) :=
  (if v5 = (3 : Int32) then
  X8_isIn_b152 N k22 mG mF v1 v2 v3 v4 v6 v8 (1 : Int32)
 else
  X8_isIn_b152 N k22 mG mF v1 v2 v3 v4 v6 v8 (0 : Int32))
def X8_isIn_b22 (N : Nat) (mG : tmG) : Nat → tmF → Int32 → Int32 → Int32 → Option (Int32 × tmF)
  | 0, _, _, _, _ => none
  | n + 1, mF, v1, v2, v3 =>
  (if (tmG.pieces mG) ≤ v3 then
  zcb (1 : Int32) (some ((1 : Int32), mF))
 else
  (X8_digit N v2 v3).bind (fun u6 =>
  (if u6 = (0 : Int32) then
  X8_isIn_b193 N (X8_isIn_b22 N mG n) mG mF v1 v2 v3
 else
  (X8_does mG v3 v1 (tmF.inUp mF) (tmF.inLow mF) (tmF.inUp2 mF) (tmF.inLow2 mF)).bind (fun u8 =>
  (if u8 = (0 : Int32) then
  zcb (0 : Int32) (some ((0 : Int32), mF))
 else
  (if u8 = ((3 : Int32) - u6) then
  zcb (0 : Int32) (some ((0 : Int32), mF))
 else
  (if (3 : Int32) ≤ u8 then
  zck v1 24 (zck v1 24 ((X8_side mG v3 ((((tmG.px mG) v1.toNatClampNeg)).toInt64) ((((tmG.py mG) v1.toNatClampNeg)).toInt64)).bind (fun u15 =>
  zl (-u15) (fun x16 =>
  (X8_slope mG v3 v1).bind (fun u17 =>
  (if (0 : Int32) ≤ (lg_cmp u17 (0 : Int64)) then
  X8_isIn_b141 N (X8_isIn_b22 N mG n) mG mF v1 v2 v3 u6 u8 x16 u17
 else
  zl (-x16) (fun x19 =>
  zl (-u17) (fun x20 =>
  X8_isIn_b141 N (X8_isIn_b22 N mG n) mG mF v1 v2 v3 u6 u8 x19 x20))))))))
 else
  X8_isIn_b193 N (X8_isIn_b22 N mG n) mG mF v1 v2 v3)))))))
def X8_isIn (N : Nat) (mG : tmG) (mF : tmF) (a1 : Int32) (a2 : Int32) : Option (Int32 × tmF) :=
  X8_isIn_b22 N mG N (tmF.s_inLow2 (tmF.s_inUp2 (tmF.s_inLow (tmF.s_inUp mF (0 : Int64)) (1 : Int64)) (1 : Int64)) (1 : Int64)) a1 a2 (0 : Int32)
-- X8_least
def X8_least_b211 (N : Nat) (mG : tmG) (mH : tmH) (mF : tmF) : Option (Int32 × tmH × tmF) :=
  zck (0 : Int32) 243 (some (((tmF.fewest mF) (0 : Int32).toNatClampNeg), mH, mF))
def X8_least_b198 (N : Nat) (k41 : tmH → tmF → Int32 → Option (Int32 × tmH × tmF)) (mG : tmG) (mH : tmH) (mF : tmF) (v2 : Int32) (v3 : Int32) : Option (Int32 × tmH × tmF) :=
  zck v2 243 (k41 mH (tmF.s_fewest mF (upd (tmF.fewest mF) v2.toNatClampNeg v3)) (v2 + (-1 : Int32)))
def X8_least_b186 (N : Nat) (k41 : tmH → tmF → Int32 → Option (Int32 × tmH × tmF)) (k53 : tmH → tmF → Int32 → Int32 → Int32 → Int32 → Option (Int32 × tmH × tmF)) (mG : tmG) (mH : tmH) (mF : tmF) (v2 : Int32) (v3 : Int32) (v4 : Int32) (v5 : Int32) : Option (Int32 × tmH × tmF) :=
  zl (v4 * (3 : Int32)) (fun x3 =>
  k53 mH mF v2 v3 x3 (v5 + (1 : Int32)))
def X8_least_b185 (N : Nat) (k41 : tmH → tmF → Int32 → Option (Int32 × tmH × tmF)) (k53 : tmH → tmF → Int32 → Int32 → Int32 → Int32 → Option (Int32 × tmH × tmF)) (mG : tmG) (mH : tmH) (mF : tmF) (v2 : Int32) (v4 : Int32) (v5 : Int32) (s0 : Int32) : Option (Int32 × tmH × tmF) :=
  X8_least_b186 N k41 k53 mG mH mF v2 s0 v4 v5
def X8_least_b179 (N : Nat) (k41 : tmH → tmF → Int32 → Option (Int32 × tmH × tmF)) (k53 : tmH → tmF → Int32 → Int32 → Int32 → Int32 → Option (Int32 × tmH × tmF)) (mG : tmG) (mH : tmH) (mF : tmF) (v2 : Int32) (v4 : Int32) (v5 : Int32) (v6 : Int32) : Option (Int32 × tmH × tmF) :=
  X8_least_b185 N k41 k53 mG mH mF v2 v4 v5 v6
def X8_least_b169 (N : Nat) (k41 : tmH → tmF → Int32 → Option (Int32 × tmH × tmF)) (k53 : tmH → tmF → Int32 → Int32 → Int32 → Int32 → Option (Int32 × tmH × tmF)) (mG : tmG) (mH : tmH) (mF : tmF) (v2 : Int32) (v3 : Int32) (v4 : Int32) (v5 : Int32) (v6 : Int32) : Option (Int32 × tmH × tmF) :=
  (if v3 = (0 : Int32) then
  X8_least_b179 N k41 k53 mG mH mF v2 v4 v5 v6
 else
  (if v3 ≤ v6 then
  X8_least_b185 N k41 k53 mG mH mF v2 v4 v5 v3
 else
  X8_least_b179 N k41 k53 mG mH mF v2 v4 v5 v6))
def X8_least_b160 (N : Nat) (k41 : tmH → tmF → Int32 → Option (Int32 × tmH × tmF)) (k53 : tmH → tmF → Int32 → Int32 → Int32 → Int32 → Option (Int32 × tmH × tmF)) (k107 : tmH → tmF → Int32 → Int32 → Int32 → Int32 → Int32 → Int32 → Option (Int32 × tmH × tmF)) (mG : tmG) (mH : tmH) (mF : tmF) (v2 : Int32) (v3 : Int32) (v4 : Int32) (v5 : Int32) (v7 : Int32) (s0 : Int32) (s1 : Int32) : Option (Int32 × tmH × tmF) :=
  zl (s1 + s0) (fun x6 =>
  k107 mH mF v2 v3 v4 v5 x6 (v7 + (1 : Int32)))
def X8_least_b159 (N : Nat) (k41 : tmH → tmF → Int32 → Option (Int32 × tmH × tmF)) (k53 : tmH → tmF → Int32 → Int32 → Int32 → Int32 → Option (Int32 × tmH × tmF)) (k107 : tmH → tmF → Int32 → Int32 → Int32 → Int32 → Int32 → Int32 → Option (Int32 × tmH × tmF)) (mG : tmG) (mH : tmH) (mF : tmF) (v2 : Int32) (v3 : Int32) (v4 : Int32) (v5 : Int32) (v7 : Int32) (s0 : Int32) : Option (Int32 × tmH × tmF) :=
  X8_least_b160 N k41 k53 k107 mG mH mF v2 v3 v4 v5 v7 (0 : Int32) s0
def X8_least_b107 (N : Nat) (k41 : tmH → tmF → Int32 → Option (Int32 × tmH × tmF)) (k53 : tmH → tmF → Int32 → Int32 → Int32 → Int32 → Option (Int32 × tmH × tmF)) (mG : tmG) : Nat → tmH → tmF → Int32 → Int32 → Int32 → Int32 → Int32 → Int32 → Option (Int32 × tmH × tmF)
  | 0, _, _, _, _, _, _, _, _ => none
  | n + 1, mH, mF, v2, v3, v4, v5, v6, v7 =>
  (if (tmG.pieces mG) ≤ v7 then
  X8_least_b169 N k41 k53 mG mH mF v2 v3 v4 v5 v6
 else
  (X8_isIn N mG mF v7 v2).bind (fun u8 =>
  (if u8.1 = (0 : Int32) then
  X8_least_b159 N k41 k53 (X8_least_b107 N k41 k53 mG n) mG mH u8.2 v2 v3 v4 v5 v7 v6
 else
  (X8_does mG v5 v7 (tmF.inUp u8.2) (tmF.inLow u8.2) (tmF.inUp2 u8.2) (tmF.inLow2 u8.2)).bind (fun u10 =>
  (if u10 = (0 : Int32) then
  X8_least_b160 N k41 k53 (X8_least_b107 N k41 k53 mG n) mG mH u8.2 v2 v3 v4 v5 v7 (1 : Int32) v6
 else
  X8_least_b159 N k41 k53 (X8_least_b107 N k41 k53 mG n) mG mH u8.2 v2 v3 v4 v5 v7 v6)))))
def X8_least_b53 (N : Nat) (k41 : tmH → tmF → Int32 → Option (Int32 × tmH × tmF)) (mG : tmG) : Nat → tmH → tmF → Int32 → Int32 → Int32 → Int32 → Option (Int32 × tmH × tmF)
  | 0, _, _, _, _, _, _ => none
  | n + 1, mH, mF, v2, v3, v4, v5 =>
  (if (tmG.pieces mG) ≤ v5 then
  X8_least_b198 N k41 mG mH mF v2 v3
 else
  (X8_digit N v2 v5).bind (fun u13 =>
  (if u13 = (0 : Int32) then
  (X8_isIn N mG mF v5 v2).bind (fun u15 =>
  (if u15.1 = (0 : Int32) then
  X8_least_b186 N k41 (X8_least_b53 N k41 mG n) mG mH u15.2 v2 v3 v4 v5
 else
  zck (v2 + v4) 243 (zck (v2 + ((2 : Int32) * v4)) 243 (zl (((tmF.fewest u15.2) (v2 + v4).toNatClampNeg) + ((tmF.fewest u15.2) (v2 + ((2 : Int32) * v4)).toNatClampNeg)) (fun x19 =>
  X8_least_b107 N k41 (X8_least_b53 N k41 mG n) mG N mH u15.2 v2 v3 v4 v5 x19 (0 : Int32))))))
 else
  X8_least_b186 N k41 (X8_least_b53 N k41 mG n) mG mH mF v2 v3 v4 v5)))
def X8_least_b41 (N : Nat) (mG : tmG) : Nat → tmH → tmF → Int32 → Option (Int32 × tmH × tmF)
  | 0, _, _, _ => none
  | n + 1, mH, mF, v2 =>
  (if v2 < (0 : Int32) then
  X8_least_b211 N mG mH mF
 else
  X8_least_b53 N (X8_least_b41 N mG n) mG N mH mF v2 (0 : Int32) (1 : Int32) (0 : Int32))
def X8_least_b37 (N : Nat) (mG : tmG) (mH : tmH) (mF : tmF) (v1 : Int32) : Option (Int32 × tmH × tmF) :=
  zl (v1 - (1 : Int32)) (fun x21 =>
  X8_least_b41 N mG N mH mF x21)
def X8_least_b19 (N : Nat) (mG : tmG) : Nat → tmH → tmF → Int32 → Int32 → Option (Int32 × tmH × tmF)
  | 0, _, _, _, _ => none
  | n + 1, mH, mF, v1, v2 =>
  (if (tmG.pieces mG) ≤ v2 then
  X8_least_b37 N mG mH mF v1
 else
  zl (v1 * (3 : Int32)) (fun x23 =>
  X8_least_b19 N mG n mH mF x23 (v2 + (1 : Int32))))
def X8_least (N : Nat) (mG : tmG) (mH : tmH) (mF : tmF) : Option (Int32 × tmH × tmF) :=
  (if (tmG.pieces mG) ≤ (5 : Int32) then
  X8_least_b19 N mG N (tmH.s_thrown mH (0 : Int32)) mF (1 : Int32) (0 : Int32)
 else
  some ((-1 : Int32), (tmH.s_thrown mH (0 : Int32)), mF))
-- X8_swap
def X8_swap (mO : tmO) (a1 : Int32) (a2 : Int32) : Option (tmO) :=
  zck a1 24 (zl ((tmO.orderOf mO) a1.toNatClampNeg) (fun x2 =>
  zck a2 24 (zck a1 24 (zck a2 24 (some (tmO.s_orderOf mO (upd (upd (tmO.orderOf mO) a1.toNatClampNeg ((tmO.orderOf mO) a2.toNatClampNeg)) a2.toNatClampNeg x2)))))))
-- X8_sum
def X8_sum_b186 (N : Nat) (mG : tmG) (mH : tmH) (mR : tmR) (mW : tmW) (mS : tmS) (mK : tmK) (mD : tmD) (mN : tmN) (mO : tmO) (v1 : Int32) : Option (Int32 × tmH × tmR × tmW × tmS × tmK × tmD × tmN × tmO) :=
  some (v1, mH, mR, mW, mS, mK, mD, mN, mO)
def X8_sum_b183 (N : Nat) (k41 : tmH → tmR → tmW → tmS → tmK → tmD → tmN → tmO → Int32 → Int32 → Option (Int32 × tmH × tmR × tmW × tmS × tmK × tmD × tmN × tmO)) (mG : tmG) (mH : tmH) (mR : tmR) (mW : tmW) (mS : tmS) (mK : tmK) (mD : tmD) (mN : tmN) (mO : tmO) (v1 : Int32) (v2 : Int32) : Option (Int32 × tmH × tmR × tmW × tmS × tmK × tmD × tmN × tmO) :=
  k41 mH mR mW mS mK mD mN mO v1 v2
def X8_sum_b159 (N : Nat) (k41 : tmH → tmR → tmW → tmS → tmK → tmD → tmN → tmO → Int32 → Int32 → Option (Int32 × tmH × tmR × tmW × tmS × tmK × tmD × tmN × tmO)) (mG : tmG) : Nat → tmH → tmR → tmW → tmS → tmK → tmD → tmN → tmO → Int32 → Int32 → Int32 → Int32 → Option (Int32 × tmH × tmR × tmW × tmS × tmK × tmD × tmN × tmO)
  | 0, _, _, _, _, _, _, _, _, _, _, _, _ => none
  | n + 1, mH, mR, mW, mS, mK, mD, mN, mO, v1, v2, v4, v5 =>
  (if v5 ≤ v4 then
  X8_sum_b183 N k41 mG mH mR mW mS mK mD mN mO v1 v2
 else
  (X8_swap mO v4 v5).bind (fun u2 =>
  X8_sum_b159 N k41 mG n mH mR mW mS mK mD mN u2 v1 v2 (v4 + (1 : Int32)) (v5 + (-1 : Int32))))
def X8_sum_b139 (N : Nat) (k41 : tmH → tmR → tmW → tmS → tmK → tmD → tmN → tmO → Int32 → Int32 → Option (Int32 × tmH × tmR × tmW × tmS × tmK × tmD × tmN × tmO)) (mG : tmG) (mH : tmH) (mR : tmR) (mW : tmW) (mS : tmS) (mK : tmK) (mD : tmD) (mN : tmN) (mO : tmO) (v1 : Int32) (v2 : Int32) (v3 : Int32) (v4 : Int32) : Option (Int32 × tmH × tmR × tmW × tmS × tmK × tmD × tmN × tmO) :=
  (X8_swap mO v4 v3).bind (fun u3 =>
  zl (v3 + (1 : Int32)) (fun x4 =>
  zl ((tmG.pieces mG) - (1 : Int32)) (fun x5 =>
  X8_sum_b159 N k41 mG N mH mR mW mS mK mD mN u3 v1 v2 x4 x5)))
def X8_sum_b117 (N : Nat) (k41 : tmH → tmR → tmW → tmS → tmK → tmD → tmN → tmO → Int32 → Int32 → Option (Int32 × tmH × tmR × tmW × tmS × tmK × tmD × tmN × tmO)) (mG : tmG) : Nat → tmH → tmR → tmW → tmS → tmK → tmD → tmN → tmO → Int32 → Int32 → Int32 → Int32 → Option (Int32 × tmH × tmR × tmW × tmS × tmK × tmD × tmN × tmO)
  | 0, _, _, _, _, _, _, _, _, _, _, _, _ => none
  | n + 1, mH, mR, mW, mS, mK, mD, mN, mO, v1, v2, v3, v4 =>
  zck v4 24 (zck v3 24 ((if ((tmO.orderOf mO) v3.toNatClampNeg) ≤ ((tmO.orderOf mO) v4.toNatClampNeg) then
  X8_sum_b139 N k41 mG mH mR mW mS mK mD mN mO v1 v2 v3 v4
 else
  X8_sum_b117 N k41 mG n mH mR mW mS mK mD mN mO v1 v2 v3 (v4 + (-1 : Int32)))))
def X8_sum_b101 (N : Nat) (k41 : tmH → tmR → tmW → tmS → tmK → tmD → tmN → tmO → Int32 → Int32 → Option (Int32 × tmH × tmR × tmW × tmS × tmK × tmD × tmN × tmO)) (mG : tmG) (mH : tmH) (mR : tmR) (mW : tmW) (mS : tmS) (mK : tmK) (mD : tmD) (mN : tmN) (mO : tmO) (v1 : Int32) (v3 : Int32) (s0 : Int32) : Option (Int32 × tmH × tmR × tmW × tmS × tmK × tmD × tmN × tmO) :=
  (if s0 = (0 : Int32) then
  k41 mH mR mW mS mK mD mN mO v1 s0
 else
  zl ((tmG.pieces mG) - (1 : Int32)) (fun x10 =>
  X8_sum_b117 N k41 mG N mH mR mW mS mK mD mN mO v1 s0 v3 x10))
def X8_sum_b92 (N : Nat) (k41 : tmH → tmR → tmW → tmS → tmK → tmD → tmN → tmO → Int32 → Int32 → Option (Int32 × tmH × tmR × tmW × tmS × tmK × tmD × tmN × tmO)) (mG : tmG) (mH : tmH) (mR : tmR) (mW : tmW) (mS : tmS) (mK : tmK) (mD : tmD) (mN : tmN) (mO : tmO) (v1 : Int32) (v3 : Int32) : Option (Int32 × tmH × tmR × tmW × tmS × tmK × tmD × tmN × tmO) :=
  (if v3 < (0 : Int32) then
  X8_sum_b101 N k41 mG mH mR mW mS mK mD mN mO v1 v3 (0 : Int32)
 else
  X8_sum_b101 N k41 mG mH mR mW mS mK mD mN mO v1 v3 (1 : Int32))
def X8_sum_b65 (N : Nat) (k41 : tmH → tmR → tmW → tmS → tmK → tmD → tmN → tmO → Int32 → Int32 → Option (Int32 × tmH × tmR × tmW × tmS × tmK × tmD × tmN × tmO)) (mG : tmG) : Nat → tmH → tmR → tmW → tmS → tmK → tmD → tmN → tmO → Int32 → Int32 → Option (Int32 × tmH × tmR × tmW × tmS × tmK × tmD × tmN × tmO)
  | 0, _, _, _, _, _, _, _, _, _, _ => none
  | n + 1, mH, mR, mW, mS, mK, mD, mN, mO, v1, v3 =>
  (if v3 < (0 : Int32) then
  X8_sum_b92 N k41 mG mH mR mW mS mK mD mN mO v1 v3
 else
  zck v3 24 (zck (v3 + (1 : Int32)) 24 ((if ((tmO.orderOf mO) v3.toNatClampNeg) ≤ ((tmO.orderOf mO) (v3 + (1 : Int32)).toNatClampNeg) then
  X8_sum_b92 N k41 mG mH mR mW mS mK mD mN mO v1 v3
 else
  X8_sum_b65 N k41 mG n mH mR mW mS mK mD mN mO v1 (v3 + (-1 : Int32))))))
def X8_sum_b41 (N : Nat) (mG : tmG) : Nat → tmH → tmR → tmW → tmS → tmK → tmD → tmN → tmO → Int32 → Int32 → Option (Int32 × tmH × tmR × tmW × tmS × tmK × tmD × tmN × tmO)
  | 0, _, _, _, _, _, _, _, _, _, _ => none
  | n + 1, mH, mR, mW, mS, mK, mD, mN, mO, v1, v2 =>
  (if v2 = (0 : Int32) then
  X8_sum_b186 N mG mH mR mW mS mK mD mN mO v1
 else
  (X8_grow N mG mR mW mS mK mD mN mO (0 : Int32) (0 : Int32)).bind (fun u17 =>
  zl (v1 + (tmN.made u17.2.2.2.2.2)) (fun x18 =>
  zl ((tmG.pieces mG) - (2 : Int32)) (fun x19 =>
  X8_sum_b65 N (X8_sum_b41 N mG n) mG N mH u17.1 u17.2.1 u17.2.2.1 u17.2.2.2.1 u17.2.2.2.2.1 u17.2.2.2.2.2 mO x18 x19))))
def X8_sum_b37 (N : Nat) (mG : tmG) (mH : tmH) (mR : tmR) (mW : tmW) (mS : tmS) (mK : tmK) (mD : tmD) (mN : tmN) (mO : tmO) : Option (Int32 × tmH × tmR × tmW × tmS × tmK × tmD × tmN × tmO) :=
  X8_sum_b41 N mG N mH mR mW mS mK mD mN mO (0 : Int32) (1 : Int32)
def X8_sum_b18 (N : Nat) (mG : tmG) : Nat → tmH → tmR → tmW → tmS → tmK → tmD → tmN → tmO → Int32 → Option (Int32 × tmH × tmR × tmW × tmS × tmK × tmD × tmN × tmO)
  | 0, _, _, _, _, _, _, _, _, _ => none
  | n + 1, mH, mR, mW, mS, mK, mD, mN, mO, v1 =>
  (if (24 : Int32) ≤ v1 then
  X8_sum_b37 N mG mH mR mW mS mK mD mN mO
 else
  zck v1 24 (X8_sum_b18 N mG n mH mR mW mS mK mD mN (tmO.s_orderOf mO (upd (tmO.orderOf mO) v1.toNatClampNeg v1)) (v1 + (1 : Int32))))
def X8_sum (N : Nat) (mG : tmG) (mH : tmH) (mR : tmR) (mW : tmW) (mS : tmS) (mK : tmK) (mD : tmD) (mN : tmN) (mO : tmO) : Option (Int32 × tmH × tmR × tmW × tmS × tmK × tmD × tmN × tmO) :=
  (if (tmG.pieces mG) ≤ (6 : Int32) then
  X8_sum_b18 N mG N (tmH.s_thrown mH (0 : Int32)) mR mW mS mK mD mN mO (0 : Int32)
 else
  some ((-1 : Int32), (tmH.s_thrown mH (0 : Int32)), mR, mW, mS, mK, mD, mN, mO))
