/-! The class grows the tree that grw says -/
def rpK (g : tTr) (q : Nat) (l : List kn) : Prop := ∀ (i : Nat) (x : kn), l[i]? = some x → g.line (q + i) = iI (x.line : Int) ∧ g.held (q + i) = iI (x.held : Int) ∧ g.firstHeld (q + i) = iI (x.first : Int) ∧ g.front (q + i) = iI x.front ∧ g.back (q + i) = iI x.back ∧ g.above (q + i) = iI x.above
def smK (g g' : tTr) (n : Nat) : Prop := ∀ i, i < n → g'.line i = g.line i ∧ g'.held i = g.held i ∧ g'.firstHeld i = g.firstHeld i ∧ g'.front i = g.front i ∧ g'.back i = g.back i ∧ g'.above i = g.above i
def smF (f f' : Nat → Int32) (n : Nat) : Prop := ∀ i, i < n → f' i = f i
def rpH (f : Nat → Int32) (q : Nat) (l : List (qP × Nat)) : Prop := ∀ (i : Nat) (x : qP × Nat), l[i]? = some x → f (q + i) = iI (x.2 : Int)
def mxd (l : List kn) (h : Nat) : Nat := l.foldl (fun m x => if m < x.dep then x.dep else m) h
theorem get_app {α : Type} {l1 l2 : List α} {i : Nat} {x : α} (h : (l1 ++ l2)[i]? = some x) : l1[i]? = some x ∨ ∃ m, i = l1.length + m ∧ l2[m]? = some x := by
  by_cases hi : i < l1.length
  · rw [List.getElem?_append_left hi] at h
    exact Or.inl h
  · rw [List.getElem?_append_right (by omega)] at h
    exact Or.inr ⟨i - l1.length, by omega, h⟩
theorem rpK.app {g : tTr} {q : Nat} {l1 l2 : List kn} (h1 : rpK g q l1) (h2 : rpK g (q + l1.length) l2) : rpK g q (l1 ++ l2) := by
  intro i x h
  rcases get_app h with h' | ⟨m, rfl, h'⟩
  · exact h1 i x h'
  · rw [← Nat.add_assoc]; exact h2 m x h'
theorem rpK.keep {g g' : tTr} {q n : Nat} {l : List kn} (h : rpK g q l) (hs : smK g g' n) (hl : q + l.length ≤ n) : rpK g' q l := by
  intro i x hi
  have hi' : i < l.length := (List.getElem?_eq_some_iff.mp hi).1
  obtain ⟨a1, a2, a3, a4, a5, a6⟩ := h i x hi
  obtain ⟨b1, b2, b3, b4, b5, b6⟩ := hs (q + i) (by omega)
  exact ⟨b1.trans a1, b2.trans a2, b3.trans a3, b4.trans a4, b5.trans a5, b6.trans a6⟩
theorem rpK.front {g : tTr} {q k : Nat} {l : List kn} {c : Int32} (h : rpK g q l) (hk : k < q) : rpK (tTr.s_front g (upd g.front k c)) q l := by
  intro i x hi
  obtain ⟨a1, a2, a3, a4, a5, a6⟩ := h i x hi
  exact ⟨a1, a2, a3, (upd_ne (by omega)).trans a4, a5, a6⟩
theorem rpK.back {g : tTr} {q k : Nat} {l : List kn} {c : Int32} (h : rpK g q l) (hk : k < q) : rpK (tTr.s_back g (upd g.back k c)) q l := by
  intro i x hi
  obtain ⟨a1, a2, a3, a4, a5, a6⟩ := h i x hi
  exact ⟨a1, a2, a3, a4, (upd_ne (by omega)).trans a5, a6⟩
theorem rpH.app {f : Nat → Int32} {q : Nat} {l1 l2 : List (qP × Nat)} (h1 : rpH f q l1) (h2 : rpH f (q + l1.length) l2) : rpH f q (l1 ++ l2) := by
  intro i x h
  rcases get_app h with h' | ⟨m, rfl, h'⟩
  · exact h1 i x h'
  · rw [← Nat.add_assoc]; exact h2 m x h'
theorem rpH.keep {f f' : Nat → Int32} {q n : Nat} {l : List (qP × Nat)} (h : rpH f q l) (hs : smF f f' n) (hl : q + l.length ≤ n) : rpH f' q l := by
  intro i x hi
  have hi' : i < l.length := (List.getElem?_eq_some_iff.mp hi).1
  rw [hs (q + i) (by omega)]
  exact h i x hi
theorem rpR.app {g : tPa} {q : Nat} {l1 l2 : List qP} (h1 : rpR g q l1) (h2 : rpR g (q + l1.length) l2) : rpR g q (l1 ++ l2) := by
  intro i x h
  rcases get_app h with h' | ⟨m, rfl, h'⟩
  · exact h1 i x h'
  · rw [← Nat.add_assoc]; exact h2 m x h'
theorem smF.trans {f f' f'' : Nat → Int32} {n n' : Nat} (h : smF f f' n) (h' : smF f' f'' n') (hn : n ≤ n') : smF f f'' n := fun i hi => (h' i (by omega)).trans (h i hi)
theorem mxd_app (l1 l2 : List kn) (h : Nat) : mxd (l1 ++ l2) h = mxd l2 (mxd l1 h) := by unfold mxd; rw [List.foldl_append]
/-- what growing says of the arrays -/
def cgr (gR gQ : tPa) (gT : tTr) (gR' gQ' : tPa) (gT' : tTr) (n k0 p0 l0 ht : Nat) (ru : Int) (O : gO) : Prop :=
  (smR gR gR' n ∧ gR'.size = iI (n : Int)) ∧ (smR gQ gQ' p0 ∧ gQ'.size = iI ((p0 + O.P.length : Nat) : Int) ∧ rpR gQ' p0 (O.P.map (fun x => x.1))) ∧ (smF gT.home gT'.home p0 ∧ rpH gT'.home p0 O.P) ∧ (smK gT gT' k0 ∧ rpK gT' k0 O.K) ∧
  gT'.knots = iI ((k0 + O.K.length : Nat) : Int) ∧ gT'.leaves = iI ((l0 + O.L : Nat) : Int) ∧ gT'.height = iI (mxd O.K ht : Int) ∧ gT'.rule = iI ru ∧ gT'.draw = O.D
theorem tri_le {m m' n : Nat} (h : m' < m) (hn : 2 * n + m * (m - 1) ≤ 600) : 2 * (n + m') + m' * (m' - 1) ≤ 600 := by
  obtain ⟨c, rfl⟩ : ∃ c, m = c + 1 := ⟨m - 1, by omega⟩
  rw [Nat.add_sub_cancel] at hn
  have e : (c + 1) * c = c * c + c := by rw [Nat.add_mul, Nat.one_mul]
  cases m' with
  | zero => simp; omega
  | succ b =>
    rw [Nat.add_sub_cancel]
    have e2 : (b + 1) * b = b * b + b := by rw [Nat.add_mul, Nat.one_mul]
    have e3 : (b + 1) * (b + 1) ≤ c * c := Nat.mul_le_mul (by omega) (by omega)
    have e4 : (b + 1) * (b + 1) = b * b + b + (b + 1) := by rw [Nat.mul_add, Nat.mul_one, e2]
    omega
theorem phi_len (G : tGe) (r : List qP) : r.length ≤ phi G r := by unfold phi; omega
theorem nil_get {α : Type} {i : Nat} {x : α} {P : Prop} (h : ([] : List α)[i]? = some x) : P := by simp at h
theorem mxd_le : ∀ (l : List kn) (h m : Nat), (∀ x ∈ l, x.dep ≤ m) → h ≤ m → mxd l h ≤ m
  | [], h, m, _, hm => hm
  | x :: l, h, m, hl, hm => by
    show mxd l (if h < x.dep then x.dep else h) ≤ m
    refine mxd_le l _ m (fun y hy => hl y (List.mem_cons_of_mem _ hy)) ?_
    split
    · exact hl x List.mem_cons_self
    · exact hm
theorem grw_dep {G : tGe} (ru : Int) : ∀ (fu : Nat) (r : List qP) (ab : Int) (de k0 p0 l0 : Nat) (d : Int32), ∀ x ∈ (grw G ru fu r ab de k0 p0 l0 d).K, x.dep ≤ de + r.length
  | 0, r, ab, de, k0, p0, l0, d, x, h => by
    rw [grw] at h
    cases h
  | fu + 1, r, ab, de, k0, p0, l0, d, x, h => by
    rw [grw] at h
    by_cases h0 : r.length = 0
    · rw [if_pos h0] at h
      cases h
    · rw [if_neg h0] at h
      have hpos : 0 < r.length := by omega
      have fl := frow_lt (G := G) (ru := ru) (d := d) hpos
      have bl := brow_lt (G := G) (ru := ru) (d := d) hpos
      rcases List.mem_cons.mp h with rfl | h
      · show de + 1 ≤ _
        omega
      · rcases List.mem_append.mp h with h | h
        · have := grw_dep ru fu _ _ _ _ _ _ _ x h
          omega
        · have := grw_dep ru fu _ _ _ _ _ _ _ x h
          omega
/-- one side of a knot -/
theorem e_growSide {G : tGe} {gP : tPi} (hG : gok G) (hP : rlP G gP) {rc : tPi → tPa → tPa → tTr → Int32 → Int32 → Int32 → Int32 → Option (Int32 × tPa × tPa × tTr)} {N q k0 j de : Nat} {r : List qP} {gR gQ : tPa} {gT : tTr} (b : Bool) (hk : k0 < 300) (hj : j < 24) (hl : gT.line k0 = iI (j : Int)) (ho : ∀ p ∈ r, pok p) (hr : rpR gR q r) (hs : gR.size = iI ((q + r.length : Nat) : Int)) (h3 : q + r.length + (srow G j b r).length ≤ 300) (hN : r.length < N)
    {c : Int} {gR' gQ' : tPa} {gT' : tTr} (hc : rc gP (pshs gR (q + r.length) (srow G j b r)) gQ gT (iI ((q + r.length : Nat) : Int)) (iI ((q + r.length + (srow G j b r).length : Nat) : Int)) (iI k0) (iI ((de + 1 : Nat) : Int)) = some (iI c, gR', gQ', gT')) :
    X6_growSide N rc gP gR gQ gT (iI q) (iI ((q + r.length : Nat) : Int)) (iI k0) (sid b) (iI de) = some (iI c, tPa.s_size gR' (iI ((q + r.length : Nat) : Int)), gQ', gT') := by
  rw [X6_growSide, zl, zck_n hk (by decide), cl_n (by omega), hl, X0_addSideRow, e_sideRow hG hP hj b N r N q (q + r.length) gR ho hr hs (Nat.le_refl _) h3 hN, Option.bind_some, pshs_size _ _ _ hs, hs, iI_succ, hc]
  rfl
theorem e_grow {G : tGe} {gP : tPi} (hG : gok G) (hP : rlP G gP) {ru : Int} (h3 : 0 ≤ ru ∧ ru ≤ 3) {N : Nat} (hN : 24 < N) : ∀ (fu d : Nat) (r : List qP) (gR gQ : tPa) (gT : tTr) (q k0 p0 l0 ht : Nat) (ab : Int) (de : Nat), (∀ p ∈ r, pok p) → r.length < fu → fu ≤ d → rpR gR q r → gR.size = iI ((q + r.length : Nat) : Int) → 2 * (q + r.length) + r.length * (r.length - 1) ≤ 600 → gQ.size = iI (p0 : Int) → gT.knots = iI (k0 : Int) → gT.leaves = iI (l0 : Int) → gT.height = iI (ht : Int) → gT.rule = iI ru → p0 + phi G r ≤ 300 → k0 + phi G r ≤ 300 → l0 + phi G r ≤ 1000 → ht ≤ 24 → de + r.length ≤ 24 →
    ∃ (gR' gQ' : tPa) (gT' : tTr), X6_grow N d gP gR gQ gT (iI q) (iI ((q + r.length : Nat) : Int)) (iI ab) (iI de) = some (iI (cde r k0 l0), gR', gQ', gT') ∧ cgr gR gQ gT gR' gQ' gT' (q + r.length) k0 p0 l0 ht ru (grw G ru fu r ab de k0 p0 l0 gT.draw)
  | 0, d, r, gR, gQ, gT, q, k0, p0, l0, ht, ab, de, ho, hf, _, _, _, _, _, _, _, _, _, _, _, _, _, _ => by omega
  | fu + 1, 0, r, gR, gQ, gT, q, k0, p0, l0, ht, ab, de, ho, hf, hd, _, _, _, _, _, _, _, _, _, _, _, _, _ => by omega
  | fu + 1, d + 1, r, gR, gQ, gT, q, k0, p0, l0, ht, ab, de, ho, hf, hd, hr, hs, h6, hQ, hK, hL, hH, hR, b1, b2, b4, b5, b6 => by
    rw [X6_grow, X6_grow_body]
    by_cases h0 : r.length = 0
    · rw [if_pos (by rw [iI_le_n (by omega) (by omega)]; omega), X6_grow_b22, hL]
      have e : (-2 : Int32) - (iI (l0 : Int) + 1 - 1) = iI (cde r k0 l0) := by
        unfold cde
        rw [if_pos h0, c_1, c_m2, iI_add, iI_sub, iI_sub]
        congr 1
        omega
      rw [e]
      refine ⟨gR, gQ, tTr.s_leaves gT (iI (l0 : Int) + 1), rfl, ?_⟩
      rw [grw, if_pos h0]
      refine ⟨⟨smR.rfl', hs⟩, ⟨smR.rfl', hQ, fun i x h => nil_get h⟩, ⟨fun _ _ => rfl, fun i x h => nil_get h⟩, ⟨fun _ _ => ⟨rfl, rfl, rfl, rfl, rfl, rfl⟩, fun i x h => nil_get h⟩, hK, iI_succ l0, hH, hR, rfl⟩
    · have hpos : 0 < r.length := by omega
      obtain ⟨p, hp, hj, hix⟩ := lin_mem (G := G) (ru := ru) (d := gT.draw) hpos
      have hj24 : lin G ru r gT.draw < 24 := by rw [← hj]; exact (ho p hp).1
      have ph := phi_le hG ho hp
      rw [hj] at ph
      have op := on_pos (G := G) (ru := ru) (d := gT.draw) hpos
      have fl := frow_lt (G := G) (ru := ru) (d := gT.draw) hpos
      have bl := brow_lt (G := G) (ru := ru) (d := gT.draw) hpos
      have fo := frow_ok (j := lin G ru r gT.draw) hG ho
      have bo := brow_ok (j := lin G ru r gT.draw) hG ho
      have pl := phi_len G r
      have ixl := cho_lt G ru r gT.draw hpos
      have k3 : k0 < 300 := by omega
      have t1 := tri_le fl h6
      have t2 := tri_le bl h6
      rw [if_neg (by rw [iI_le_n (by omega) (by omega)]; omega), if_neg (by rw [c_24, show iI 24 = iI ((24 : Nat) : Int) from rfl, iI_le_n (by omega) (by omega)]; omega), hK, if_pos (by rw [c_300, show iI 300 = iI ((300 : Nat) : Int) from rfl, iI_lt_n (by omega) (by omega)]; omega), zl, iI_succ, iI_succ, hH]
      have eh : (if iI (ht : Int) < iI ((de + 1 : Nat) : Int) then iI ((de + 1 : Nat) : Int) else iI (ht : Int)) = iI (((if ht < de + 1 then de + 1 else ht) : Nat) : Int) := by
        by_cases c : ht < de + 1
        · rw [if_pos (by rw [iI_lt_n (by omega) (by omega)]; exact c), if_pos c]
        · rw [if_neg (by rw [iI_lt_n (by omega) (by omega)]; exact c), if_neg c]
      rw [eh]
      have ech := e_choose (N := N) (gT := tTr.s_height (tTr.s_knots gT (iI ((k0 + 1 : Nat) : Int))) (iI (((if ht < de + 1 then de + 1 else ht) : Nat) : Int))) hG hP hR h3 ho hr (by omega) (by omega) hpos
      rw [ech, Option.bind_some]
      dsimp only
      have edr : tTr.draw (tTr.s_height (tTr.s_knots gT (iI ((k0 + 1 : Nat) : Int))) (iI (((if ht < de + 1 then de + 1 else ht) : Nat) : Int))) = gT.draw := rfl
      rw [edr]
      have eow : gR.owner (q + (cho G ru r gT.draw).1) = iI ((lin G ru r gT.draw : Nat) : Int) := by rw [(hr _ p hix).1, hj]
      rw [zck_n (show q + (cho G ru r gT.draw).1 < 300 by omega) (by decide), zck_n k3 (by decide), zck_n k3 (by decide), cl_n (show k0 < 2147483648 by omega), cl_n (show q + (cho G ru r gT.draw).1 < 2147483648 by omega), eow]
      generalize hgT2 : tTr.s_above (tTr.s_line (tTr.s_draw (tTr.s_height (tTr.s_knots gT (iI ((k0 + 1 : Nat) : Int))) (iI (((if ht < de + 1 then de + 1 else ht) : Nat) : Int))) (cho G ru r gT.draw).2) (upd (tTr.line (tTr.s_draw (tTr.s_height (tTr.s_knots gT (iI ((k0 + 1 : Nat) : Int))) (iI (((if ht < de + 1 then de + 1 else ht) : Nat) : Int))) (cho G ru r gT.draw).2)) k0 (iI ((lin G ru r gT.draw : Nat) : Int)))) (upd (tTr.above (tTr.s_draw (tTr.s_height (tTr.s_knots gT (iI ((k0 + 1 : Nat) : Int))) (iI (((if ht < de + 1 then de + 1 else ht) : Nat) : Int))) (cho G ru r gT.draw).2)) k0 (iI ab)) = gT2
      have z1 : gT2.line = upd gT.line k0 (iI ((lin G ru r gT.draw : Nat) : Int)) := by rw [← hgT2]
      have z2 : gT2.held = gT.held := by rw [← hgT2]
      have z3 : gT2.firstHeld = gT.firstHeld := by rw [← hgT2]
      have z4 : gT2.front = gT.front := by rw [← hgT2]
      have z5 : gT2.back = gT.back := by rw [← hgT2]
      have z6 : gT2.above = upd gT.above k0 (iI ab) := by rw [← hgT2]
      have z7 : gT2.home = gT.home := by rw [← hgT2]
      have z8 : gT2.knots = iI ((k0 + 1 : Nat) : Int) := by rw [← hgT2]
      have z9 : gT2.leaves = gT.leaves := by rw [← hgT2]
      have z10 : gT2.height = iI (((if ht < de + 1 then de + 1 else ht) : Nat) : Int) := by rw [← hgT2]
      have z11 : gT2.rule = gT.rule := by rw [← hgT2]
      have z12 : gT2.draw = (cho G ru r gT.draw).2 := by rw [← hgT2]
      clear hgT2
      have l2 : gT2.line k0 = iI ((lin G ru r gT.draw : Nat) : Int) := by rw [z1, upd_eq]
      rw [e_hold hG hP k3 hj24 ho hr (by omega) hQ (by omega) l2 (by omega), Option.bind_some]
      dsimp only
      generalize hgT3 : tTr.s_held (tTr.s_home (tTr.s_firstHeld gT2 (upd gT2.firstHeld k0 (iI (p0 : Int)))) (fill gT2.home p0 (onrow G (lin G ru r gT.draw) r).length (iI k0))) (upd gT2.held k0 (iI ((onrow G (lin G ru r gT.draw) r).length : Int))) = gT3
      have y1 : gT3.line = upd gT.line k0 (iI ((lin G ru r gT.draw : Nat) : Int)) := by rw [← hgT3]; exact z1
      have y2 : gT3.held = upd gT.held k0 (iI ((onrow G (lin G ru r gT.draw) r).length : Int)) := by rw [← hgT3, ← z2]
      have y3 : gT3.firstHeld = upd gT.firstHeld k0 (iI (p0 : Int)) := by rw [← hgT3, ← z3]
      have y4 : gT3.front = gT.front := by rw [← hgT3]; exact z4
      have y5 : gT3.back = gT.back := by rw [← hgT3]; exact z5
      have y6 : gT3.above = upd gT.above k0 (iI ab) := by rw [← hgT3]; exact z6
      have y7 : gT3.home = fill gT.home p0 (onrow G (lin G ru r gT.draw) r).length (iI k0) := by rw [← hgT3, ← z7]
      have y8 : gT3.knots = iI ((k0 + 1 : Nat) : Int) := by rw [← hgT3]; exact z8
      have y9 : gT3.leaves = iI (l0 : Int) := by rw [← hgT3, ← hL, ← z9]
      have y10 : gT3.height = iI (((if ht < de + 1 then de + 1 else ht) : Nat) : Int) := by rw [← hgT3]; exact z10
      have y11 : gT3.rule = iI ru := by rw [← hgT3, ← hR, ← z11]
      have y12 : gT3.draw = (cho G ru r gT.draw).2 := by rw [← hgT3]; exact z12
      clear hgT3
      have l3 : gT3.line k0 = iI ((lin G ru r gT.draw : Nat) : Int) := by rw [y1, upd_eq]
      rw [grw, if_neg h0]
      dsimp only [gO.K, gO.P, gO.L, gO.D]
      generalize hdw : gT.draw = dw at *
      generalize hjj : lin G ru r dw = j at *
      generalize hon : onrow G j r = on at *
      -- front
      have rf := rpR.pshs (frow G j r) gR (q + r.length)
      have sf := pshs_size (frow G j r) gR (q + r.length) hs
      have qs : (pshs gQ p0 on).size = iI ((p0 + on.length : Nat) : Int) := pshs_size on gQ p0 hQ
      obtain ⟨gRf, gQf, gTf, ef, ⟨⟨f1, f2⟩, ⟨f3, f4, f5⟩, ⟨f6, f7⟩, ⟨f8, f9⟩, f10, f11, f12, f13, f14⟩⟩ := e_grow hG hP h3 hN fu d (frow G j r) (pshs gR (q + r.length) (frow G j r)) (pshs gQ p0 on) gT3 (q + r.length) (k0 + 1) (p0 + on.length) l0 (if ht < de + 1 then de + 1 else ht) (k0 : Int) (de + 1) fo (by omega) (by omega) rf sf t1 qs y8 y9 y10 y11 (by omega) (by omega) (by omega) (by split <;> omega) (by omega)
      have bdF := grw_bd hG ru fu (frow G j r) (k0 : Int) (de + 1) (k0 + 1) (p0 + on.length) l0 gT3.draw fo (by omega)
      rw [y12] at f4 f5 f7 f9 f10 f11 f12 f14 bdF
      generalize hF : grw G ru fu (frow G j r) (k0 : Int) (de + 1) (k0 + 1) (p0 + on.length) l0 (cho G ru r dw).2 = F at *
      have gf := e_growSide hG hP (N := N) (rc := X6_grow N d) (gR := gR) true k3 hj24 l3 ho hr hs (by rw [srow_t]; omega) (by omega) (de := de) (c := cde (frow G j r) (k0 + 1) l0) (by rw [srow_t]; exact ef)
      rw [show (1 : Int32) = sid true from rfl, gf, Option.bind_some]
      dsimp only
      rw [zck_n k3 (by decide)]
      -- back
      have smRR : smR gR (tPa.s_size gRf (iI ((q + r.length : Nat) : Int))) (q + r.length) := smR.trans (smR.pshs (frow G j r) gR (q + r.length)) (fun k hk => f1 k hk) (by omega)
      have rb0 : rpR (tPa.s_size gRf (iI ((q + r.length : Nat) : Int))) q r := hr.keep smRR (Nat.le_refl _)
      generalize hgR2 : tPa.s_size gRf (iI ((q + r.length : Nat) : Int)) = gR2 at *
      have s2' : gR2.size = iI ((q + r.length : Nat) : Int) := by rw [← hgR2]
      generalize hgT4 : tTr.s_front gTf (upd gTf.front k0 (iI (cde (frow G j r) (k0 + 1) l0))) = gT4
      have x1 : gT4.line = gTf.line := by rw [← hgT4]
      have x4 : gT4.front = upd gTf.front k0 (iI (cde (frow G j r) (k0 + 1) l0)) := by rw [← hgT4]
      have rK4 : rpK gT4 (k0 + 1) F.1 := by rw [← hgT4]; exact f9.front (by omega)
      have x8 : gT4.knots = iI ((k0 + 1 + F.1.length : Nat) : Int) := by rw [← hgT4]; exact f10
      have x9 : gT4.leaves = iI ((l0 + F.2.2.1 : Nat) : Int) := by rw [← hgT4]; exact f11
      have x10 : gT4.height = iI (mxd F.1 (if ht < de + 1 then de + 1 else ht) : Int) := by rw [← hgT4]; exact f12
      have x11 : gT4.rule = iI ru := by rw [← hgT4]; exact f13
      have x12 : gT4.draw = F.2.2.2 := by rw [← hgT4]; exact f14
      have x7 : gT4.home = gTf.home := by rw [← hgT4]
      have sm4 : ∀ i, i < k0 → gT4.line i = gT.line i ∧ gT4.held i = gT.held i ∧ gT4.firstHeld i = gT.firstHeld i ∧ gT4.front i = gT.front i ∧ gT4.back i = gT.back i ∧ gT4.above i = gT.above i := by
        intro i hi
        obtain ⟨a1, a2, a3, a4, a5, a6⟩ := f8 i (by omega)
        rw [← hgT4]
        refine ⟨a1.trans ?_, a2.trans ?_, a3.trans ?_, (upd_ne (by omega)).trans (a4.trans ?_), a5.trans ?_, a6.trans ?_⟩
        · rw [y1, upd_ne (by omega)]
        · rw [y2, upd_ne (by omega)]
        · rw [y3, upd_ne (by omega)]
        · rw [y4]
        · rw [y5]
        · rw [y6, upd_ne (by omega)]
      have at4 : gT4.line k0 = iI (j : Int) ∧ gT4.held k0 = iI (on.length : Int) ∧ gT4.firstHeld k0 = iI (p0 : Int) ∧ gT4.front k0 = iI (cde (frow G j r) (k0 + 1) l0) ∧ gT4.above k0 = iI ab := by
        obtain ⟨a1, a2, a3, a4, a5, a6⟩ := f8 k0 (by omega)
        rw [← hgT4]
        refine ⟨a1.trans ?_, a2.trans ?_, a3.trans ?_, upd_eq, a6.trans ?_⟩
        · rw [y1, upd_eq]
        · rw [y2, upd_eq]
        · rw [y3, upd_eq]
        · rw [y6, upd_eq]
      clear hgT4
      have rb := rpR.pshs (brow G j r) gR2 (q + r.length)
      have sb := pshs_size (brow G j r) gR2 (q + r.length) s2'
      have mx : mxd F.1 (if ht < de + 1 then de + 1 else ht) ≤ 24 := by
        refine mxd_le _ _ _ (fun x hx => ?_) (by split <;> omega)
        rw [← hF] at hx
        have := grw_dep ru fu _ _ _ _ _ _ _ x hx
        omega
      obtain ⟨gRb, gQb, gTb, eb, ⟨⟨g1, g2⟩, ⟨g3, g4, g5⟩, ⟨g6, g7⟩, ⟨g8, g9⟩, g10, g11, g12, g13, g14⟩⟩ := e_grow hG hP h3 hN fu d (brow G j r) (pshs gR2 (q + r.length) (brow G j r)) gQf gT4 (q + r.length) (k0 + 1 + F.1.length) (p0 + on.length + F.2.1.length) (l0 + F.2.2.1) (mxd F.1 (if ht < de + 1 then de + 1 else ht)) (k0 : Int) (de + 1) bo (by omega) (by omega) rb sb t2 f4 x8 x9 x10 x11 (by dsimp only [gO.K, gO.P, gO.L] at bdF; omega) (by dsimp only [gO.K, gO.P, gO.L] at bdF; omega) (by dsimp only [gO.K, gO.P, gO.L] at bdF; omega) mx (by omega)
      have bdB := grw_bd hG ru fu (brow G j r) (k0 : Int) (de + 1) (k0 + 1 + F.1.length) (p0 + on.length + F.2.1.length) (l0 + F.2.2.1) gT4.draw bo (by omega)
      rw [x12] at g4 g5 g7 g9 g10 g11 g12 g14 bdB
      generalize hB : grw G ru fu (brow G j r) (k0 : Int) (de + 1) (k0 + 1 + F.1.length) (p0 + on.length + F.2.1.length) (l0 + F.2.2.1) F.2.2.2 = B at *
      have gb := e_growSide hG hP (N := N) (rc := X6_grow N d) (gR := gR2) false k3 hj24 at4.1 ho rb0 s2' (by rw [srow_f]; omega) (by omega) (de := de) (c := cde (brow G j r) (k0 + 1 + F.1.length) (l0 + F.2.2.1)) (by rw [srow_f]; exact eb)
      rw [show (2 : Int32) = sid false from rfl, gb, Option.bind_some]
      dsimp only
      rw [zck_n k3 (by decide)]
      have ec : cde r k0 l0 = (k0 : Int) := by unfold cde; rw [if_neg h0]
      rw [ec]
      refine ⟨_, _, _, rfl, ?_⟩
      dsimp only [gO.K, gO.P, gO.L] at *
      refine ⟨⟨?_, rfl⟩, ⟨?_, ?_, ?_⟩, ⟨?_, ?_⟩, ⟨?_, ?_⟩, ?_, ?_, ?_, ?_, ?_⟩
      · exact smR.trans smRR (smR.trans (smR.pshs (brow G j r) gR2 (q + r.length)) (fun k hk => g1 k hk) (by omega)) (Nat.le_refl _)
      · exact smR.trans (smR.pshs on gQ p0) (smR.trans f3 g3 (by omega)) (by omega)
      · rw [g4]
        congr 1
        simp only [gO.P, List.length_append, List.length_map]
        omega
      · have q1 : rpR gQb p0 on := ((rpR.pshs on gQ p0).keep f3 (by omega)).keep g3 (by omega)
        have q2 : rpR gQb (p0 + on.length) (F.2.1.map (fun x => x.1)) := f5.keep g3 (by rw [List.length_map]; omega)
        have q3 : rpR gQb (p0 + on.length + F.2.1.length) (B.2.1.map (fun x => x.1)) := g5
        show rpR gQb p0 ((on.map (fun q => (q, k0)) ++ (F.2.1 ++ B.2.1)).map (fun x => x.1))
        rw [List.map_append, List.map_append, List.map_map]
        have e9 : on.map ((fun x : qP × Nat => x.1) ∘ fun q => (q, k0)) = on := by
          rw [show ((fun x : qP × Nat => x.1) ∘ fun q => (q, k0)) = id from rfl, List.map_id]
        rw [e9]
        exact q1.app (q2.app (by rw [List.length_map]; exact q3))
      · refine smF.trans (fun i hi => ?_) (smF.trans f6 (show smF gTf.home gTb.home _ from fun i hi => by rw [← x7]; exact g6 i hi) (show p0 + on.length ≤ p0 + on.length + F.2.1.length by omega)) (show p0 ≤ p0 + on.length by omega)
        rw [y7, fill_lo _ _ _ _ _ hi]
      · have q1 : rpH gTb.home p0 (on.map (fun q => (q, k0))) := by
          have a : rpH gT3.home p0 (on.map (fun q => (q, k0))) := by
            intro i x hi
            have hi' : i < on.length := by have := (List.getElem?_eq_some_iff.mp hi).1; rw [List.length_map] at this; exact this
            rw [List.getElem?_map] at hi
            obtain ⟨p9, -, h9⟩ := Option.map_eq_some_iff.mp hi
            rw [y7, fill_in _ _ _ _ _ hi', ← h9]
          have a2 : rpH gT4.home p0 (on.map (fun q => (q, k0))) := by rw [x7]; exact a.keep f6 (by rw [List.length_map]; omega)
          exact a2.keep g6 (by rw [List.length_map]; omega)
        have q2 : rpH gTb.home (p0 + on.length) F.2.1 := (show rpH gT4.home (p0 + on.length) F.2.1 by rw [x7]; exact f7).keep g6 (by omega)
        exact q1.app (by rw [List.length_map]; exact q2.app g7)
      · intro i hi
        obtain ⟨a1, a2, a3, a4, a5, a6⟩ := g8 i (by omega)
        obtain ⟨c1, c2, c3, c4, c5, c6⟩ := sm4 i hi
        exact ⟨a1.trans c1, a2.trans c2, a3.trans c3, a4.trans c4, (upd_ne (by omega)).trans (a5.trans c5), a6.trans c6⟩
      · have q0 : rpK (tTr.s_back gTb (upd gTb.back k0 (iI (cde (brow G j r) (k0 + 1 + F.1.length) (l0 + F.2.2.1))))) (k0 + 1) (F.1 ++ B.1) := ((rK4.keep g8 (by omega)).app g9).back (by omega)
        intro i x hi
        cases i with
        | zero =>
          rw [List.getElem?_cons_zero] at hi
          cases hi
          obtain ⟨a1, a2, a3, a4, a5, a6⟩ := g8 k0 (by omega)
          obtain ⟨c1, c2, c3, c4, c6⟩ := at4
          exact ⟨a1.trans c1, a2.trans c2, a3.trans c3, a4.trans c4, upd_eq, a6.trans c6⟩
        | succ i =>
          rw [List.getElem?_cons_succ] at hi
          rw [show k0 + (i + 1) = k0 + 1 + i by omega]
          exact q0 i x hi
      · show gTb.knots = _
        rw [g10]
        congr 1
        simp only [gO.K, List.length_cons, List.length_append]
        omega
      · show gTb.leaves = _
        rw [g11]
        congr 1
        simp only [gO.L]
        omega
      · show gTb.height = _
        rw [g12]
        show _ = iI ((mxd (_ :: (F.1 ++ B.1)) ht : Nat) : Int)
        rw [show mxd (((j, on.length, p0, cde (frow G j r) (k0 + 1) l0, cde (brow G j r) (k0 + 1 + F.1.length) (l0 + F.2.2.1), ab, de + 1, r.length, on.length + F.2.1.length + B.2.1.length) : kn) :: (F.1 ++ B.1)) ht = mxd (F.1 ++ B.1) (if ht < de + 1 then de + 1 else ht) from rfl, mxd_app]
      · exact g13
      · exact g14
