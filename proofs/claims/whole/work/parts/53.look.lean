/-! look, knot, part: what the class gives (0, value), or throws (1 or 2) -/
def Y7_look (N : Nat) (gP : tPi) (gQ : tPa) (a1 a2 : Int32) : Option (Int32 × Int32) :=
  (if a1 < (0 : Int32) then some (1, 0) else (if a1 < (tPi.size gP) then
  (if a2 = (0 : Int32) then zck a1 24 (some (0, (tPi.x0 gP) a1.toNatClampNeg)) else
  (if a2 = (1 : Int32) then zck a1 24 (some (0, (tPi.y0 gP) a1.toNatClampNeg)) else
  (if a2 = (2 : Int32) then zck a1 24 (some (0, (tPi.x1 gP) a1.toNatClampNeg)) else
  (if a2 = (3 : Int32) then zck a1 24 (some (0, (tPi.y1 gP) a1.toNatClampNeg)) else
  (if a2 = (4 : Int32) then (X2_howManyOf_Q N gQ a1).bind (fun u => some (0, u)) else some (2, 0)))))) else some (1, 0)))
def Y7_knot (gT : tTr) (a1 a2 : Int32) : Option (Int32 × Int32) :=
  (if a1 < (0 : Int32) then some (1, 0) else (if a1 < (tTr.knots gT) then
  (if a2 = (0 : Int32) then zck a1 300 (some (0, (tTr.line gT) a1.toNatClampNeg)) else
  (if a2 = (1 : Int32) then zck a1 300 (some (0, (tTr.held gT) a1.toNatClampNeg)) else
  (if a2 = (2 : Int32) then zck a1 300 (some (0, (tTr.firstHeld gT) a1.toNatClampNeg)) else
  (if a2 = (3 : Int32) then zck a1 300 (some (0, (tTr.front gT) a1.toNatClampNeg)) else
  (if a2 = (4 : Int32) then zck a1 300 (some (0, (tTr.back gT) a1.toNatClampNeg)) else
  (if a2 = (5 : Int32) then zck a1 300 (some (0, (tTr.above gT) a1.toNatClampNeg)) else some (2, 0))))))) else some (1, 0)))
def Y7_end0 (N : Nat) (gP : tPi) (gQ : tPa) (a1 w : Int32) : Option (Int32 × Int64) := zck a1 300 ((X3_placeAt N gP ((tPa.owner gQ) a1.toNatClampNeg) ((tPa.n0 gQ) a1.toNatClampNeg) ((tPa.d0 gQ) a1.toNatClampNeg) w).bind (fun u => some (0, u)))
def Y7_end1 (N : Nat) (gP : tPi) (gQ : tPa) (a1 w : Int32) : Option (Int32 × Int64) := zck a1 300 ((X3_placeAt N gP ((tPa.owner gQ) a1.toNatClampNeg) ((tPa.n1 gQ) a1.toNatClampNeg) ((tPa.d1 gQ) a1.toNatClampNeg) w).bind (fun u => some (0, u)))
def Y7_part (N : Nat) (gP : tPi) (gQ : tPa) (gT : tTr) (a1 a2 : Int32) : Option (Int32 × Int64) :=
  (if a1 < (0 : Int32) then some (1, 0) else (if a1 < (tPa.size gQ) then
  (if a2 = (0 : Int32) then zck a1 300 (some (0, ((tPa.owner gQ) a1.toNatClampNeg).toInt64)) else
  (if a2 = (1 : Int32) then Y7_end0 N gP gQ a1 (a2 - (1 : Int32)) else
  (if a2 = (2 : Int32) then Y7_end0 N gP gQ a1 (a2 - (1 : Int32)) else
  (if a2 = (3 : Int32) then Y7_end0 N gP gQ a1 (a2 - (1 : Int32)) else
  (if a2 = (4 : Int32) then Y7_end1 N gP gQ a1 (a2 - (4 : Int32)) else
  (if a2 = (5 : Int32) then Y7_end1 N gP gQ a1 (a2 - (4 : Int32)) else
  (if a2 = (6 : Int32) then Y7_end1 N gP gQ a1 (a2 - (4 : Int32)) else
  (if a2 = (7 : Int32) then zck a1 300 (some (0, ((tTr.home gT) a1.toNatClampNeg).toInt64)) else some (2, 0))))))))) else some (1, 0)))
theorem e_many {gQ : tPa} {mG : tmG} {mK : tmK} {Ps : List (qP × Nat)} (hP : Ps.length ≤ 300) (p1 : gQ.size = iI (Ps.length : Int)) (p2 : mK.parts = iI (Ps.length : Int)) (r1 : rpR gQ 0 (Ps.map (fun x => x.1))) (r2 : rpMP mK 0 Ps) (N : Nat) (mH : tmH) (a : Int32) : ∀ (c fu i : Nat) (v : Int32), i + c = Ps.length → c < fu → ∃ r, X2_howManyOf_Q_b4 N gQ fu a v (iI i) = some r ∧ X8_look_b107 N mG mK fu mH a v (iI i) = some (r, mH)
  | 0, fu, i, v, hi, hf => by
    obtain ⟨fu, rfl⟩ : ∃ f, fu = f + 1 := ⟨fu - 1, by omega⟩
    rw [X2_howManyOf_Q_b4, X8_look_b107, p1, p2, if_pos (by rw [iI_le_n (by omega) (by omega)]; omega), if_pos (by rw [iI_le_n (by omega) (by omega)]; omega)]
    exact ⟨_, rfl, rfl⟩
  | c + 1, fu, i, v, hi, hf => by
    obtain ⟨fu, rfl⟩ : ∃ f, fu = f + 1 := ⟨fu - 1, by omega⟩
    have hl : i < Ps.length := by omega
    have o1 := (r1 i Ps[i].1 (by rw [List.getElem?_map, List.getElem?_eq_getElem hl]; rfl)).1
    have o2 := (r2 i Ps[i] (List.getElem?_eq_getElem hl)).1
    rw [Nat.zero_add] at o1 o2
    have nl : ¬ iI (Ps.length : Int) ≤ iI (i : Int) := by rw [iI_le_n (by omega) (by omega)]; omega
    rw [X2_howManyOf_Q_b4, X8_look_b107, p1, p2, if_neg nl, if_neg nl, zck_n (by omega) (by decide), zck_n (by omega) (by decide), cl_n (by omega), o1, o2, X2_howManyOf_Q_b25, X2_howManyOf_Q_b25, X8_look_b133, X8_look_b133, zl, zl, iI_succ]
    by_cases h : iI (Ps[i].1.o : Int) = a
    · rw [if_pos h, if_pos h]
      exact e_many hP p1 p2 r1 r2 N mH a c fu (i + 1) _ (by omega) (by omega)
    · rw [if_neg h, if_neg h, show v + (0 : Int32) = v from Int32.add_zero v]
      exact e_many hP p1 p2 r1 r2 N mH a c fu (i + 1) _ (by omega) (by omega)
theorem op_look {N : Nat} (hN : 1000 < N) {gP : tPi} {gQ : tPa} {gT : tTr} {gE : tTe} {gM : tMe} {mG : tmG} {mH : tmH} {mK : tmK} {mB : tmB} {mM : tmM} (h : zI gP gQ gT gE gM mG mK mB mM) (a b : Int32) : ∃ k r r', Y7_look N gP gQ a b = some (k, r) ∧ X8_look N mG mH mK a b = some (r', tmH.s_thrown mH k) ∧ (k = 0 ∨ k = 1 ∨ k = 2) ∧ (k = 0 → r' = r) := by
  obtain ⟨⟨G, n, g1, g2, g3, g4, g5, g6, g7⟩, ⟨st, Ks, Ps, L, tp, ⟨s1, s2⟩, ⟨k1, k2⟩, ⟨l1, l2⟩, ⟨p1, p2⟩, ⟨b1, b2⟩, ⟨r1, r2⟩, ⟨q1, q2, q3⟩, hh, hpo, hw, ht, -⟩, -, -⟩ := h
  rw [Y7_look, X8_look, g5, g6]
  by_cases c1 : a < 0
  · rw [if_pos c1, if_pos c1]
    exact ⟨1, _, _, rfl, rfl, by decide, fun q => absurd q (by decide)⟩
  rw [if_neg c1, if_neg c1]
  by_cases c2 : a < iI (n : Int)
  · obtain ⟨j, hj, rfl⟩ := ix_of (by omega) c1 c2
    obtain ⟨x1, x2, x3, x4⟩ := g2 j
    obtain ⟨y1, y2, y3, y4⟩ := g3 j
    have j24 : j < 24 := by omega
    rw [if_pos c2, if_pos c2]
    simp only [zck_n (n := 24) j24 (by decide), cl_n (show j < 2147483648 by omega), x1, x2, x3, x4, y1, y2, y3, y4, iI_add]
    by_cases e0 : b = 0
    · rw [if_pos e0, if_pos e0]; exact ⟨0, _, _, rfl, rfl, by decide, fun _ => rfl⟩
    rw [if_neg e0, if_neg e0]
    by_cases e1 : b = 1
    · rw [if_pos e1, if_pos e1]; exact ⟨0, _, _, rfl, rfl, by decide, fun _ => rfl⟩
    rw [if_neg e1, if_neg e1]
    by_cases e2 : b = 2
    · rw [if_pos e2, if_pos e2]; exact ⟨0, _, _, rfl, rfl, by decide, fun _ => rfl⟩
    rw [if_neg e2, if_neg e2]
    by_cases e3 : b = 3
    · rw [if_pos e3, if_pos e3]; exact ⟨0, _, _, rfl, rfl, by decide, fun _ => rfl⟩
    rw [if_neg e3, if_neg e3]
    by_cases e4 : b = 4
    · rw [if_pos e4, if_pos e4]
      obtain ⟨r, w1, w2⟩ := e_many (mG := mG) b2 p1 p2 q1 q3 N (tmH.s_thrown mH 0) (iI (j : Int)) Ps.length N 0 0 (by omega) (by omega)
      have w1' : X2_howManyOf_Q N gQ (iI (j : Int)) = some r := w1
      rw [w1', Option.bind_some]
      exact ⟨0, _, _, rfl, w2, by decide, fun _ => rfl⟩
    rw [if_neg e4, if_neg e4]
    exact ⟨2, _, _, rfl, rfl, by decide, fun q => absurd q (by decide)⟩
  · rw [if_neg c2, if_neg c2]
    exact ⟨1, _, _, rfl, rfl, by decide, fun q => absurd q (by decide)⟩
theorem op_knot {gP : tPi} {gQ : tPa} {gT : tTr} {gE : tTe} {gM : tMe} {mG : tmG} {mH : tmH} {mK : tmK} {mB : tmB} {mM : tmM} (h : zI gP gQ gT gE gM mG mK mB mM) (a b : Int32) : ∃ k r r', Y7_knot gT a b = some (k, r) ∧ X8_knot mH mK a b = some (r', tmH.s_thrown mH k) ∧ (k = 0 ∨ k = 1 ∨ k = 2) ∧ (k = 0 → r' = r) := by
  obtain ⟨⟨G, n, g1, g2, g3, g4, g5, g6, g7⟩, ⟨st, Ks, Ps, L, tp, ⟨s1, s2⟩, ⟨k1, k2⟩, ⟨l1, l2⟩, ⟨p1, p2⟩, ⟨b1, b2⟩, ⟨r1, r2⟩, ⟨q1, q2, q3⟩, hh, hpo, hw, ht, -⟩, -, -⟩ := h
  rw [Y7_knot, X8_knot, k1, k2]
  by_cases c1 : a < 0
  · rw [if_pos c1, if_pos c1]
    exact ⟨1, _, _, rfl, rfl, by decide, fun q => absurd q (by decide)⟩
  rw [if_neg c1, if_neg c1]
  by_cases c2 : a < iI (Ks.length : Int)
  · obtain ⟨j, hj, rfl⟩ := ix_of (by omega) c1 c2
    have hg := List.getElem?_eq_getElem hj
    obtain ⟨x1, x2, x3, x4, x5, x6⟩ := r1 j _ hg
    obtain ⟨y1, y2, y3, y4, y5, y6⟩ := r2 j _ hg
    rw [Nat.zero_add] at x1 x2 x3 x4 x5 x6 y1 y2 y3 y4 y5 y6
    rw [if_pos c2, if_pos c2]
    simp only [zck_n (n := 300) (show j < 300 by omega) (by decide), zck_n (n := 700) (show j < 700 by omega) (by decide), cl_n (show j < 2147483648 by omega), x1, x2, x3, x4, x5, x6, y1, y2, y3, y4, y5, y6]
    by_cases e0 : b = 0
    · rw [if_pos e0, if_pos e0]; exact ⟨0, _, _, rfl, rfl, by decide, fun _ => rfl⟩
    rw [if_neg e0, if_neg e0]
    by_cases e1 : b = 1
    · rw [if_pos e1, if_pos e1]; exact ⟨0, _, _, rfl, rfl, by decide, fun _ => rfl⟩
    rw [if_neg e1, if_neg e1]
    by_cases e2 : b = 2
    · rw [if_pos e2, if_pos e2]; exact ⟨0, _, _, rfl, rfl, by decide, fun _ => rfl⟩
    rw [if_neg e2, if_neg e2]
    by_cases e3 : b = 3
    · rw [if_pos e3, if_pos e3]; exact ⟨0, _, _, rfl, rfl, by decide, fun _ => rfl⟩
    rw [if_neg e3, if_neg e3]
    by_cases e4 : b = 4
    · rw [if_pos e4, if_pos e4]; exact ⟨0, _, _, rfl, rfl, by decide, fun _ => rfl⟩
    rw [if_neg e4, if_neg e4]
    by_cases e5 : b = 5
    · rw [if_pos e5, if_pos e5]; exact ⟨0, _, _, rfl, rfl, by decide, fun _ => rfl⟩
    rw [if_neg e5, if_neg e5]
    exact ⟨2, _, _, rfl, rfl, by decide, fun q => absurd q (by decide)⟩
  · rw [if_neg c2, if_neg c2]
    exact ⟨1, _, _, rfl, rfl, by decide, fun q => absurd q (by decide)⟩
theorem e_placeAt {N : Nat} (hN : 1000 < N) {G : tGe} {gP : tPi} {mG : tmG} (hG : gok G) (hP : rlP G gP) (hM : rlG G mG) {o : Nat} (ho : o < 24) {n d : Int} (h0 : 0 ≤ n) (h1 : n ≤ d) (h2 : 0 < d) (h3 : d ≤ 8000000) (w : Int32) : ∃ r, X3_placeAt N gP (iI o) (iI n) (iI d) w = some r ∧ X8_end N mG (iI o) (lI n) (lI d) w = some r := by
  obtain ⟨x1, x2, x3, x4⟩ := hP o
  obtain ⟨y1, y2, y3, y4⟩ := hM o
  have g := hG o
  have u := hG.u o
  have v := hG.v o
  have m1 := mul_bd (show -1000 ≤ G.X o by omega) (by omega) (show -8000000 ≤ d by omega) (by omega)
  have m2 := mul_bd (show -2000 ≤ G.U o by omega) (by omega) (show -8000000 ≤ n by omega) (by omega)
  have m3 := mul_bd (show -1000 ≤ G.Y o by omega) (by omega) (show -8000000 ≤ d by omega) (by omega)
  have m4 := mul_bd (show -2000 ≤ G.V o by omega) (by omega) (show -8000000 ≤ n by omega) (by omega)
  have ex : G.X o * (d - n) + (G.X o + G.U o) * n = G.X o * d + G.U o * n := by grind
  have ey : G.Y o * (d - n) + (G.Y o + G.V o) * n = G.Y o * d + G.V o * n := by grind
  have hX : i3 (G.X o) := by unfold i3; omega
  have hY : i3 (G.Y o) := by unfold i3; omega
  have hU : i3 (G.X o + G.U o) := by unfold i3; omega
  have hV : i3 (G.Y o + G.V o) := by unfold i3; omega
  have hu : i3 (G.U o) := by unfold i3; omega
  have hv : i3 (G.V o) := by unfold i3; omega
  have hd : i3 d := by unfold i3; omega
  have hn : i3 n := by unfold i3; omega
  have hdn : i3 (d - n) := by unfold i3; omega
  generalize hx : G.X o * d + G.U o * n = x at *
  generalize hy : G.Y o * d + G.V o * n = y at *
  have a1 : x.natAbs < 2 ^ 60 := by omega
  have a2 : y.natAbs < 2 ^ 60 := by omega
  have a3 : d.natAbs < 2 ^ 60 := by omega
  have gd : 0 < d.natAbs := by omega
  have gg : Nat.gcd (Nat.gcd x.natAbs y.natAbs) d.natAbs ≤ d.natAbs := Nat.gcd_le_right _ gd
  have gp : 0 < Nat.gcd (Nat.gcd x.natAbs y.natAbs) d.natAbs := Nat.gcd_pos_of_pos_right _ gd
  have g1 : Nat.gcd x.natAbs y.natAbs < 2 ^ 60 := by
    by_cases z : x.natAbs = 0
    · rw [z, Nat.gcd_zero_left]; exact a2
    · have := Nat.gcd_le_left y.natAbs (show 0 < x.natAbs by omega); omega
  have gab : ((Nat.gcd x.natAbs y.natAbs : Nat) : Int).natAbs = Nat.gcd x.natAbs y.natAbs := Int.natAbs_natCast _
  have c1 := e_com hN a1 a2
  have c2 := e_com (N := N) hN (x := ((Nat.gcd x.natAbs y.natAbs : Nat) : Int)) (y := d) (by rw [gab]; exact g1) a3
  have d1 := e_div hN a1 a2
  have d2 := e_div (N := N) hN (x := d) (y := ((Nat.gcd x.natAbs y.natAbs : Nat) : Int)) a3 (by rw [gab]; exact g1)
  rw [gab] at c2 d2
  rw [Nat.gcd_comm d.natAbs] at d2
  generalize Nat.gcd (Nat.gcd x.natAbs y.natAbs) d.natAbs = g at *
  simp only [X3_placeAt, X8_end, zl, zck_n (n := 24) ho (by decide), cl_n (show o < 2147483648 by omega), x1, x2, x3, x4, y1, y2, y3, y4, iI_sub, iI_l hX, iI_l hY, iI_l hU, iI_l hV, iI_l hu, iI_l hv, iI_l hdn, iI_l hn, iI_l hd, lI_mul, lI_add, ex, ey, hx, hy, c1, c2, d1, d2, Option.bind_some, X3_placeAt_b74, X3_placeAt_b97, X8_end_b81]
  rw [if_pos (by rw [cmp_0lt ⟨by omega, by omega⟩]; omega)]
  simp only [zczl_n gp (show g < 9223372036854775808 by omega)]
  split
  · exact ⟨_, rfl, rfl⟩
  split
  · exact ⟨_, rfl, rfl⟩
  exact ⟨_, rfl, rfl⟩
theorem op_part {N : Nat} (hN : 1000 < N) {gP : tPi} {gQ : tPa} {gT : tTr} {gE : tTe} {gM : tMe} {mG : tmG} {mH : tmH} {mK : tmK} {mB : tmB} {mM : tmM} (h : zI gP gQ gT gE gM mG mK mB mM) (a b : Int32) : ∃ k r r', Y7_part N gP gQ gT a b = some (k, r) ∧ X8_part N mG mH mK a b = some (r', tmH.s_thrown mH k) ∧ (k = 0 ∨ k = 1 ∨ k = 2) ∧ (k = 0 → r' = r) := by
  obtain ⟨⟨G, n, g1, g2, g3, g4, g5, g6, g7⟩, ⟨st, Ks, Ps, L, tp, ⟨s1, s2⟩, ⟨k1, k2⟩, ⟨l1, l2⟩, ⟨p1, p2⟩, ⟨b1, b2⟩, ⟨r1, r2⟩, ⟨q1, q2, q3⟩, hh, hpo, hw, ht, -⟩, -, -⟩ := h
  rw [Y7_part, X8_part, p1, p2]
  by_cases c1 : a < 0
  · rw [if_pos c1, if_pos c1]
    exact ⟨1, _, _, rfl, rfl, by decide, fun q => absurd q (by decide)⟩
  rw [if_neg c1, if_neg c1]
  by_cases c2 : a < iI (Ps.length : Int)
  · obtain ⟨j, hj, rfl⟩ := ix_of (by omega) c1 c2
    have hg := List.getElem?_eq_getElem hj
    obtain ⟨x1, x2, x3, x4, x5⟩ := q1 j Ps[j].1 (by rw [List.getElem?_map, hg]; rfl)
    have x6 := q2 j _ hg
    obtain ⟨y1, y2, y3, y4, y5, y6⟩ := q3 j _ hg
    obtain ⟨t1, t2, t3, t4, t5, t6, t7, t8, t9, -⟩ := hpo Ps[j] (List.getElem_mem hj)
    rw [Nat.zero_add] at x1 x2 x3 x4 x5 x6 y1 y2 y3 y4 y5 y6
    rw [if_pos c2, if_pos c2]
    simp only [Y7_end0, Y7_end1, zck_n (n := 300) (show j < 300 by omega) (by decide), zck_n (n := 700) (show j < 700 by omega) (by decide), cl_n (show j < 2147483648 by omega), x1, x2, x3, x4, x5, x6, y1, y2, y3, y4, y5, y6]
    obtain ⟨u1, e1, f1⟩ := e_placeAt hN g1 g2 g3 t1 t2 t3 t4 t5 (b - 1)
    obtain ⟨u2, e2, f2⟩ := e_placeAt hN g1 g2 g3 t1 t6 t7 t8 t9 (b - 4)
    rw [e1, e2, f1, f2, Option.bind_some, Option.bind_some, Option.bind_some, Option.bind_some]
    by_cases e0 : b = 0
    · rw [if_pos e0, if_pos e0]; exact ⟨0, _, _, rfl, rfl, by decide, fun _ => rfl⟩
    rw [if_neg e0, if_neg e0]
    by_cases e1 : b = 1
    · rw [if_pos e1, if_pos e1]; exact ⟨0, _, _, rfl, rfl, by decide, fun _ => rfl⟩
    rw [if_neg e1, if_neg e1]
    by_cases e2 : b = 2
    · rw [if_pos e2, if_pos e2]; exact ⟨0, _, _, rfl, rfl, by decide, fun _ => rfl⟩
    rw [if_neg e2, if_neg e2]
    by_cases e3 : b = 3
    · rw [if_pos e3, if_pos e3]; exact ⟨0, _, _, rfl, rfl, by decide, fun _ => rfl⟩
    rw [if_neg e3, if_neg e3]
    by_cases e4 : b = 4
    · rw [if_pos e4, if_pos e4]; exact ⟨0, _, _, rfl, rfl, by decide, fun _ => rfl⟩
    rw [if_neg e4, if_neg e4]
    by_cases e5 : b = 5
    · rw [if_pos e5, if_pos e5]; exact ⟨0, _, _, rfl, rfl, by decide, fun _ => rfl⟩
    rw [if_neg e5, if_neg e5]
    by_cases e6 : b = 6
    · rw [if_pos e6, if_pos e6]; exact ⟨0, _, _, rfl, rfl, by decide, fun _ => rfl⟩
    rw [if_neg e6, if_neg e6]
    by_cases e7 : b = 7
    · rw [if_pos e7, if_pos e7]; exact ⟨0, _, _, rfl, rfl, by decide, fun _ => rfl⟩
    rw [if_neg e7, if_neg e7]
    exact ⟨2, _, _, rfl, rfl, by decide, fun q => absurd q (by decide)⟩
  · rw [if_neg c2, if_neg c2]
    exact ⟨1, _, _, rfl, rfl, by decide, fun q => absurd q (by decide)⟩
