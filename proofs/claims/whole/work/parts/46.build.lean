def whs (os : List Nat) : List qP := os.map (fun o => ((o, 0, 1, 1, 1) : qP))
theorem whs_ok {os : List Nat} (h : ∀ o ∈ os, o < 24) : ∀ p ∈ whs os, pok p := by
  intro p hp
  unfold whs at hp
  obtain ⟨i, hi, rfl⟩ := List.mem_map.mp hp
  exact pok_mk ⟨h i hi, by decide, by decide, by decide, by decide, by decide, by decide, by decide, by decide, by decide⟩
theorem whs_len (os : List Nat) : (whs os).length = os.length := by unfold whs; simp
theorem whs_range (n : Nat) : whs (List.range n) = whl n := rfl
theorem psW_at (g : tmW) (w : Nat) (q ab f : Int32) : (psW g w q ab f).wFrom w = q ∧ (psW g w q ab f).wAbove w = ab ∧ (psW g w q ab f).wFront w = f := by
  show upd g.wFrom w q w = q ∧ upd g.wAbove w ab w = ab ∧ upd g.wFront w f w = f
  exact ⟨upd_eq, upd_eq, upd_eq⟩
theorem m_all {G : tGe} {mG : tmG} {mO : tmO} (hG : gok G) (hM : rlG G mG) {ru : Int} (h3 : 0 ≤ ru ∧ ru ≤ 3) {N : Nat} (hN : 1000 < N) (kp : Bool) {n : Nat} (hn : n ≤ 24) (hs : mG.pieces = iI (n : Int)) (os : List Nat) (hos : os.length = n) (ho24 : ∀ o ∈ os, o < 24) (ho : ∀ i, i < n → mO.orderOf i = iI ((os.getD i 0 : Nat) : Int)) (mR : tmR) (mW : tmW) (mS : tmS) (mK : tmK) (mD : tmD) (mN : tmN) (hk : kp = true → mK.knots = 0 ∧ mK.leaves = 0 ∧ mK.parts = 0) :
    ∃ mR' mW' mS' mK' mD' mN', X8_grow N mG mR mW mS mK mD mN mO (iI ru) (kpv kp) = some (mR', mW', mS', mK', mD', mN') ∧ mN'.made = iI ((grw G ru 25 (whs os) (-1) 0 0 0 0 mD.draw).P.length : Int) ∧ (kp = false → mK' = mK) ∧ (kp = true → mgk mK mK' 0 0 0 (-1) false (cde (whs os) 0 0) (grw G ru 25 (whs os) (-1) 0 0 0 0 mD.draw)) := by
  have wl := whs_len os
  have wo := whs_ok ho24
  have p3 := phi_24 G (r := whs os) (by omega)
  have ew := e_waits (mR := tmR.s_rMany mR (0 : Int32)) (mW := tmW.s_waits mW (0 : Int32)) (w := 0) rfl (by omega) (-1) (f := 0) (Or.inl rfl)
  obtain ⟨mS1, e1⟩ := m_start (mO := mO) hn hs N os hos ho (psW (tmW.s_waits mW (0 : Int32)) 0 (0 : Int32) (-1) 0) mK mD (tmN.s_made mN (0 : Int32)) (iI ru) (kpv kp) n N 0 (tmR.s_rMany mR (0 : Int32)) mS (by omega) rfl (by omega)
  rw [List.drop_zero] at e1
  have m24 : (whs os).length * ((whs os).length + 1) ≤ 24 * 25 := Nat.mul_le_mul (by omega) (by omega)
  obtain ⟨c, mR', mW', mS', mK', mD', mN', c0, c1, -, -, -, c5, -, c7, c8, c9⟩ := m_grow (mO := mO) hG hM h3 (N := N) (by omega) kp 25 (whs os) (pMs (tmR.s_rMany mR (0 : Int32)) 0 (whs os)) (psW (tmW.s_waits mW (0 : Int32)) 0 (0 : Int32) (-1) 0) mS1 mK mD (tmN.s_made mN (0 : Int32)) 0 0 0 0 0 0 (-1) (-1) false 0 wo (by omega) (by omega) rfl (psW_at _ _ _ _ _).1 (psW_at _ _ _ _ _).2.1 (psW_at _ _ _ _ _).2.2 (by omega) (pMs_many _ _ _ rfl) (rpM.pMs _ _ _) (by omega) (fun h => ⟨rfl, by omega, by omega, (hk h).1, (hk h).2.1, (hk h).2.2, by omega, by omega⟩) (fun _ => rfl) rfl
  have bd := grw_bd hG ru 25 (whs os) (-1) 0 0 0 0 mD.draw wo (by omega)
  refine ⟨mR', mW', mS', mK', mD', mN', ?_, by rw [c7, Nat.zero_add], c8, c9⟩
  rw [X8_grow, ew, Option.bind_some]
  refine e1.trans ?_
  have e2 := c1 (N - c)
  rw [show N - c + c = N by omega] at e2
  refine e2.trans ?_
  obtain ⟨f, hf⟩ : ∃ f, N - c = f + 1 := ⟨N - c - 1, by omega⟩
  rw [hf, X8_grow_b57, c5, if_pos (by decide)]
theorem m_order (N : Nat) {mG : tmG} {mR : tmR} {mW : tmW} {mS : tmS} {mK : tmK} {mD : tmD} {mN : tmN} {mH : tmH} {mB : tmB} (v1 : Int32) : ∀ (c fu i : Nat) (mO : tmO), i + c = 24 → (∀ k : Nat, k < i → mO.orderOf k = iI (k : Int)) → c < fu →
    ∃ mO', (∀ k : Nat, k < 24 → mO'.orderOf k = iI (k : Int)) ∧ X8_build_b32 N mG fu mH mR mW mS mK mD mN mO mB v1 (iI i) = X8_build_b51 N mG mH mR mW mS mK mD mN mO' mB v1
  | 0, fu, i, mO, h, hk, hf => by
    obtain ⟨fu, rfl⟩ : ∃ f, fu = f + 1 := ⟨fu - 1, by omega⟩
    refine ⟨mO, fun k h' => hk k (by omega), ?_⟩
    rw [X8_build_b32, if_pos (by rw [c_24, show iI 24 = iI ((24 : Nat) : Int) from rfl, iI_le_n (by omega) (by omega)]; omega)]
  | c + 1, fu, i, mO, h, hk, hf => by
    obtain ⟨fu, rfl⟩ : ∃ f, fu = f + 1 := ⟨fu - 1, by omega⟩
    obtain ⟨mO', h1, h2⟩ := m_order N v1 c fu (i + 1) (tmO.s_orderOf mO (upd mO.orderOf i (iI (i : Int)))) (by omega) (fun k hk' => by
      show upd mO.orderOf i (iI (i : Int)) k = _
      by_cases e : k = i
      · rw [e, upd_eq]
      · rw [upd_ne e]; exact hk k (by omega)) (by omega)
    refine ⟨mO', h1, ?_⟩
    rw [X8_build_b32, if_neg (by rw [c_24, show iI 24 = iI ((24 : Nat) : Int) from rfl, iI_le_n (by omega) (by omega)]; omega), zck_n (by omega) (by decide), cl_n (by omega), iI_succ]
    exact h2
theorem op_build {N : Nat} (hN : 1000 < N) {gP : tPi} {gR gQ : tPa} {gT : tTr} {gE : tTe} {gM : tMe} {mG : tmG} {mH : tmH} {mR : tmR} {mW : tmW} {mS : tmS} {mK : tmK} {mD : tmD} {mN : tmN} {mO : tmO} {mB : tmB} {mM : tmM} (h : zI gP gQ gT gE gM mG mK mB mM) (a b : Int32) :
    ∃ r gR' gQ' gT' gE' mR' mW' mS' mK' mD' mN' mO' mB', X7_build N gP gR gQ gT gE a b = some (r, gR', gQ', gT', gE') ∧ X8_build N mG mH mR mW mS mK mD mN mO mB a b = some (r, tmH.s_thrown mH 0, mR', mW', mS', mK', mD', mN', mO', mB') ∧ zI gP gQ' gT' gE' gM mG mK' mB' mM := by
  obtain ⟨⟨G, n, g1, g2, g3, g4, g5, g6, g7⟩, h2, h3, h4⟩ := id h
  rw [X7_build, X8_build]
  by_cases a0 : a < 0
  · rw [if_pos a0, if_pos a0]
    exact ⟨_, _, _, _, _, _, _, _, _, _, _, _, _, rfl, rfl, h⟩
  · rw [if_neg a0, if_neg a0]
    by_cases a3 : a ≤ 3
    · rw [if_pos a3, if_pos a3, e_fell, e_noTree, Option.bind_some, Option.bind_some]
      dsimp only
      obtain ⟨ru, hru, rfl⟩ : ∃ ru : Int, (0 ≤ ru ∧ ru ≤ 3) ∧ a = iI ru := by
        rw [Int32.lt_iff_toInt_lt, Int32.toInt_zero] at a0
        rw [Int32.le_iff_toInt_le, show (3 : Int32).toInt = 3 from rfl] at a3
        exact ⟨a.toInt, by omega, (iI_of a).symm⟩
      have wl := whl_len n
      have wo := whl_ok g4
      have p3 := phi_24 G (r := whl n) (by omega)
      have m24 : (whl n).length * ((whl n).length - 1) ≤ 24 * 23 := Nat.mul_le_mul (by omega) (by omega)
      -- the class
      have es := e_start (gR := gR) (N := N) g4 g5 (by omega)
      have sz : (pshs (tPa.s_size gR 0) 0 (whl n)).size = iI ((0 + (whl n).length : Nat) : Int) := pshs_size _ _ _ rfl
      generalize hgT0 : tTr.s_draw (tTr.s_rule (tTr.s_height (tTr.s_leaves (tTr.s_knots (tTr.s_stands (tTr.s_height (tTr.s_leaves (tTr.s_knots (tTr.s_stands gT 0) 0) 0) 0) 0) 0) 0) 0) (iI ru)) b = gT0
      have y1 : gT0.knots = iI ((0 : Nat) : Int) := by rw [← hgT0]; rfl
      have y2 : gT0.leaves = iI ((0 : Nat) : Int) := by rw [← hgT0]; rfl
      have y3 : gT0.height = iI ((0 : Nat) : Int) := by rw [← hgT0]; rfl
      have y4 : gT0.rule = iI ru := by rw [← hgT0]
      have y5 : gT0.draw = b := by rw [← hgT0]
      obtain ⟨gR', gQ', gT', eg, ⟨⟨c1, c2⟩, ⟨c3, c4, c5⟩, ⟨c6, c7⟩, ⟨c8, c9⟩, c10, c11, c12, c13, c14⟩⟩ := e_grow g1 g2 hru (N := N) (by omega) 25 25 (whl n) (pshs (tPa.s_size gR 0) 0 (whl n)) (tPa.s_size (tPa.s_size gQ 0) 0) gT0 0 0 0 0 0 (-1) 0 wo (by omega) (by omega) (rpR.pshs _ _ _) sz (by omega) rfl y1 y2 y3 y4 (by omega) (by omega) (by omega) (by omega) (by omega)
      have ra : X6_raise N gP gR (tPa.s_size gQ 0) (tTr.s_height (tTr.s_leaves (tTr.s_knots (tTr.s_stands gT 0) 0) 0) 0) (iI ru) b = some (gR', gQ', tTr.s_top (tTr.s_stands gT' 1) (iI (cde (whl n) 0 0))) := by
        rw [X6_raise, show X6_fell (tPa.s_size gQ 0) (tTr.s_height (tTr.s_leaves (tTr.s_knots (tTr.s_stands gT 0) 0) 0) 0) = some (tPa.s_size (tPa.s_size gQ 0) 0, tTr.s_height (tTr.s_leaves (tTr.s_knots (tTr.s_stands (tTr.s_height (tTr.s_leaves (tTr.s_knots (tTr.s_stands gT 0) 0) 0) 0) 0) 0) 0) 0) from rfl, Option.bind_some, es, Option.bind_some, sz]
        dsimp only
        rw [hgT0, show (0 : Int32) = iI ((0 : Nat) : Int) from rfl, c_m1]
        rw [show (0 : Int32) = iI ((0 : Nat) : Int) from rfl] at eg
        rw [eg]
        rfl
      rw [ra, Option.bind_some]
      dsimp only
      -- the reference
      obtain ⟨mO', ho1, ho2⟩ := m_order N (mG := mG) (mR := mR) (mW := mW) (mS := mS) (mK := tmK.s_isTree (tmK.s_parts (tmK.s_leaves (tmK.s_knots (tmK.s_isTree mK 0) 0) 0) 0) (1 : Int32)) (mD := tmD.s_draw mD b) (mN := mN) (mH := tmH.s_thrown mH 0) (mB := tmB.s_toldMany mB 0) (iI ru) 24 N 0 mO (by omega) (fun k hk => by omega) (by omega)
      obtain ⟨mR', mW', mS', mK', mD', mN', d1, -, -, d4⟩ := m_all (mO := mO') g1 g3 hru hN true g4 g6 (List.range n) (by simp) (fun o ho => by have := List.mem_range.mp ho; omega) (fun i hi => by rw [ho1 i (by omega), List.getD_eq_getElem?_getD, List.getElem?_range hi]; rfl) mR mW mS (tmK.s_isTree (tmK.s_parts (tmK.s_leaves (tmK.s_knots (tmK.s_isTree mK 0) 0) 0) 0) (1 : Int32)) (tmD.s_draw mD b) mN (fun _ => ⟨rfl, rfl, rfl⟩)
      obtain ⟨k1, k2, k3, k4, k5, k6, k7, k8, k9⟩ := d4 rfl
      rw [whs_range] at k2 k3 k4 k5 k6 k7 k9
      rw [show tmD.draw (tmD.s_draw mD b) = b from rfl] at k2 k3 k4 k7 k9
      rw [y5] at c4 c5 c7 c9 c10 c11 c12 c14
      have bd := grw_bd g1 ru 25 (whl n) (-1) 0 0 0 0 b wo (by omega)
      obtain ⟨w1, w2, w3⟩ := grw_wf g1 ru 25 (whl n) (-1) 0 0 0 0 b wo (by omega) (by omega) (by omega)
      generalize grw G ru 25 (whl n) (-1) 0 0 0 0 b = O at *
      rw [Nat.zero_add] at c4 c10 c11 k2 k3 k4
      have tt : tre gQ' (tTr.s_top (tTr.s_stands gT' 1) (iI (cde (whl n) 0 0))) mK' true O.K O.P O.L (cde (whl n) 0 0) := by
        refine ⟨⟨rfl, k1⟩, ⟨c10, k2⟩, ⟨c11, k3⟩, ⟨c4, k4⟩, ⟨by omega, by omega⟩, ⟨c9, k7⟩, ⟨c5, c7, k9⟩, c12, w3, w1, fun _ => ⟨rfl, ?_, chd_mono (by omega) w2⟩, fun h => (by cases h)⟩
        rw [k5, if_pos (by omega)]
      refine ⟨_, _, _, _, _, mR', mW', mS', mK', mD', mN', mO', _, rfl, ?_, ⟨G, n, g1, g2, g3, g4, g5, g6, g7⟩, ⟨_, _, _, _, _, tt⟩, ⟨_, tld_none gE mB⟩, h4⟩
      · refine ho2.trans ?_
        rw [X8_build_b51]
        refine (congrArg (fun z => Option.bind z _) d1).trans ?_
        show some (mK'.knots, _) = some (gT'.knots, _)
        rw [k2, c10]
    · rw [if_neg a3, if_neg a3]
      exact ⟨_, _, _, _, _, _, _, _, _, _, _, _, _, rfl, rfl, h⟩
