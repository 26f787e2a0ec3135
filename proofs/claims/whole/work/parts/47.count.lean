/-! count, where -/
theorem n_nlt0 {a : Nat} (h : a < 2147483648) : ¬ iI (a : Int) < (0 : Int32) := by rw [c_0, iI_lt ⟨by omega, by omega⟩ ⟨by omega, by omega⟩]; omega
theorem n_0le {a : Nat} (h : a < 2147483648) : (0 : Int32) ≤ iI (a : Int) := by rw [c_0, iI_le ⟨by omega, by omega⟩ ⟨by omega, by omega⟩]; omega
theorem m_lt0 {c : Int} (h : c < 0) (h' : -2147483648 ≤ c) : iI c < (0 : Int32) := by rw [c_0, iI_lt ⟨by omega, by omega⟩ ⟨by omega, by omega⟩]; exact h
theorem iI_eq0 {x : Int} (h : i3 x) : iI x = (0 : Int32) ↔ x = 0 := by rw [c_0, iI_eq h ⟨by omega, by omega⟩]
theorem iI_le0 {x : Int} (h : i3 x) : iI x ≤ (0 : Int32) ↔ x ≤ 0 := by rw [c_0, iI_le h ⟨by omega, by omega⟩]
theorem iI_lt0 {x : Int} (h : i3 x) : iI x < (0 : Int32) ↔ x < 0 := by rw [c_0, iI_lt h ⟨by omega, by omega⟩]
theorem iI_0le {x : Int} (h : i3 x) : (0 : Int32) ≤ iI x ↔ 0 ≤ x := by rw [c_0, iI_le ⟨by omega, by omega⟩ h]
theorem iI_0lt {x : Int} (h : i3 x) : (0 : Int32) < iI x ↔ 0 < x := by rw [c_0, iI_lt ⟨by omega, by omega⟩ h]
theorem cmp_eq0 {x : Int} (h : i6 x) : lg_cmp (lI x) (0 : Int64) = 0 ↔ x = 0 := cmp_eq (y := 0) h ⟨by omega, by omega⟩
theorem cmp_le0 {x : Int} (h : i6 x) : lg_cmp (lI x) (0 : Int64) ≤ 0 ↔ x ≤ 0 := cmp_le (y := 0) h ⟨by omega, by omega⟩
theorem cmp_lt0 {x : Int} (h : i6 x) : lg_cmp (lI x) (0 : Int64) < 0 ↔ x < 0 := cmp_lt (y := 0) h ⟨by omega, by omega⟩
theorem cmp_0le {x : Int} (h : i6 x) : 0 ≤ lg_cmp (lI x) (0 : Int64) ↔ 0 ≤ x := cmp_ge (y := 0) h ⟨by omega, by omega⟩
theorem cmp_0lt {x : Int} (h : i6 x) : 0 < lg_cmp (lI x) (0 : Int64) ↔ 0 < x := cmp_gt (y := 0) h ⟨by omega, by omega⟩
theorem get_lt {α : Type} {l : List α} {i : Nat} {x : α} (h : l[i]? = some x) : i < l.length := (List.getElem?_eq_some_iff.mp h).1
theorem m_deep1 {mK : tmK} {Ks : List kn} (hr : rpMK mK 0 Ks) (hw : wfK Ks 0 (-1) 0) (hl : Ks.length ≤ 300) (N : Nat) (k4 : Int32 → Int32 → Option Int32) (v1 v2 : Int32) : ∀ (i fu s : Nat) (x : kn), Ks[i]? = some x → i + 1 < fu → x.dep ≤ i + 1 ∧ X8_deepest_b17 N k4 mK fu v1 v2 (iI s) (iI i) = X8_deepest_b37 N k4 mK v1 v2 (iI ((s + x.dep : Nat) : Int)) := by
  intro i
  induction i using Nat.strongRecOn with
  | _ i ih =>
    intro fu s x hx hf
    obtain ⟨fu, rfl⟩ : ∃ f, fu = f + 1 := ⟨fu - 1, by omega⟩
    have hi := get_lt hx
    obtain ⟨-, -, -, -, hab⟩ := hw i x hx
    have hk := (hr i x hx).2.2.2.2.2
    rw [Nat.zero_add] at hk
    have st : X8_deepest_b17 N k4 mK (fu + 1) v1 v2 (iI s) (iI i) = X8_deepest_b17 N k4 mK fu v1 v2 (iI ((s + 1 : Nat) : Int)) (iI x.above) := by
      rw [X8_deepest_b17, if_neg (n_nlt0 (by omega)), zck_n (by omega) (by decide), cl_n (by omega), hk, zl, iI_succ]
    rw [st]
    rcases hab with ⟨h0, h1, h2⟩ | ⟨m, y, hm, hy, h1, h2⟩
    · obtain ⟨fu, rfl⟩ : ∃ f, fu = f + 1 := ⟨fu - 1, by omega⟩
      refine ⟨by omega, ?_⟩
      rw [h1, X8_deepest_b17, if_pos (m_lt0 (by omega) (by omega)), h2]
    · obtain ⟨j1, j2⟩ := ih m hm fu (s + 1) y hy (by omega)
      refine ⟨by omega, ?_⟩
      rw [h1, Nat.zero_add, j2, h2, show s + 1 + y.dep = s + (y.dep + 1) by omega]
theorem m_deep {mK : tmK} {Ks : List kn} (hr : rpMK mK 0 Ks) (hw : wfK Ks 0 (-1) 0) (hl : Ks.length ≤ 300) (hk : mK.knots = iI (Ks.length : Int)) {N : Nat} (hN : 1000 < N) : ∀ (t : List kn) (fu i h : Nat), i + t.length = Ks.length → (∀ m, t[m]? = Ks[i + m]?) → h ≤ 400 → t.length < fu → X8_deepest_b4 N mK fu (iI h) (iI i) = some (iI (mxd t h : Int))
  | [], fu, i, h, hi, _, _, hf => by
    obtain ⟨fu, rfl⟩ : ∃ f, fu = f + 1 := ⟨fu - 1, by omega⟩
    rw [List.length_nil] at hi
    rw [X8_deepest_b4, hk, if_pos (by rw [iI_le_n (by omega) (by omega)]; omega)]
    rfl
  | x :: t, fu, i, h, hi, ht, hh, hf => by
    rw [List.length_cons] at hi hf
    obtain ⟨fu, rfl⟩ : ∃ f, fu = f + 1 := ⟨fu - 1, by omega⟩
    have hx : Ks[i]? = some x := by have := ht 0; rw [Nat.add_zero] at this; rw [← this]; rfl
    have ht' : ∀ m, t[m]? = Ks[i + 1 + m]? := fun m => by have := ht (m + 1); rw [List.getElem?_cons_succ] at this; rw [this]; congr 1; omega
    obtain ⟨d1, d2⟩ := m_deep1 hr hw hl N (X8_deepest_b4 N mK fu) (iI h) (iI i) i N 0 x hx (by omega)
    rw [Nat.zero_add] at d2
    rw [X8_deepest_b4, hk, if_neg (by rw [iI_le_n (by omega) (by omega)]; omega)]
    refine d2.trans ?_
    rw [X8_deepest_b37]
    by_cases c : h < x.dep
    · rw [if_neg (by rw [iI_le_n (by omega) (by omega)]; omega), X8_deepest_b47, iI_succ, m_deep hr hw hl hk hN t fu (i + 1) x.dep (by omega) ht' (by omega) (by omega)]
      show _ = some (iI (mxd t (if h < x.dep then x.dep else h) : Int))
      rw [if_pos c]
    · rw [if_pos (by rw [iI_le_n (by omega) (by omega)]; omega), X8_deepest_b47, iI_succ, m_deep hr hw hl hk hN t fu (i + 1) h (by omega) ht' (by omega) (by omega)]
      show _ = some (iI (mxd t (if h < x.dep then x.dep else h) : Int))
      rw [if_neg c]
theorem op_count {N : Nat} (hN : 1000 < N) {gP : tPi} {gQ : tPa} {gT : tTr} {gE : tTe} {gM : tMe} {mG : tmG} {mH : tmH} {mK : tmK} {mB : tmB} {mM : tmM} (h : zI gP gQ gT gE gM mG mK mB mM) (a : Int32) : ∃ r, X7_count gP gQ gT a = some r ∧ X8_count N mG mH mK a = some (r, tmH.s_thrown mH 0) := by
  obtain ⟨⟨G, n, g1, g2, g3, g4, g5, g6, g7⟩, ⟨st, Ks, Ps, L, tp, ⟨s1, s2⟩, ⟨k1, k2⟩, ⟨l1, l2⟩, ⟨p1, p2⟩, ⟨b1, b2⟩, ⟨r1, r2⟩, -, hh, -, hw, -, -⟩, -, -⟩ := h
  have dd := m_deep r2 hw b1 k2 hN Ks N 0 0 (by omega) (fun m => by rw [Nat.zero_add]) (by omega) (by omega)
  have de : X8_deepest N mK = some (iI (mxd Ks 0 : Int)) := dd
  rw [X7_count, X8_count, g5, g6, k1, k2, p1, p2, l1, l2, hh, s1, s2, de, Option.bind_some]
  by_cases c0 : a = 0
  · rw [if_pos c0, if_pos c0]; exact ⟨_, rfl, rfl⟩
  rw [if_neg c0, if_neg c0]
  by_cases c1 : a = 1
  · rw [if_pos c1, if_pos c1]; exact ⟨_, rfl, rfl⟩
  rw [if_neg c1, if_neg c1]
  by_cases c2 : a = 2
  · rw [if_pos c2, if_pos c2]; exact ⟨_, rfl, rfl⟩
  rw [if_neg c2, if_neg c2]
  by_cases c3 : a = 3
  · rw [if_pos c3, if_pos c3]; exact ⟨_, rfl, rfl⟩
  rw [if_neg c3, if_neg c3]
  by_cases c4 : a = 4
  · rw [if_pos c4, if_pos c4]; exact ⟨_, rfl, rfl⟩
  rw [if_neg c4, if_neg c4]
  by_cases c5 : a = 5
  · rw [if_pos c5, if_pos c5]
    split
    · exact ⟨_, rfl, rfl⟩
    · exact ⟨_, rfl, rfl⟩
  rw [if_neg c5, if_neg c5]
  exact ⟨_, rfl, rfl⟩
theorem i3_in {x : Int} (h : inb x) : i3 x := by unfold inb at h; unfold i3; omega
theorem e_find {G : tGe} {gP : tPi} {mG : tmG} (hG : gok G) (hP : rlP G gP) (hM : rlG G mG) {gT : tTr} {mK : tmK} {Ks : List kn} (hk : gT.knots = iI (Ks.length : Int)) (r1 : rpK gT 0 Ks) (r2 : rpMK mK 0 Ks) (hw : wfK Ks 0 (-1) 0) (hl : Ks.length ≤ 300) {x y : Int} (hx : inb x) (hy : inb y) (N : Nat) (mH : tmH) : ∀ (rk v fu fu' : Nat) (c : Int) (w : Nat), chd Ks 0 rk c w → 1 ≤ rk → rk + v ≤ 25 → rk ≤ fu → rk ≤ fu' →
    ∃ r, X6_placeOf_b8 N gP gT fu (iI x) (iI y) (iI c) (iI v) = some r ∧ X8_where_b27 N mG mK fu' mH (iI x) (iI y) (iI c) = some (r, mH) := by
  intro rk
  induction rk using Nat.strongRecOn with
  | _ rk ih =>
    intro v fu fu' c w hc h1 hv hf hf'
    obtain ⟨fu, rfl⟩ : ∃ f, fu = f + 1 := ⟨fu - 1, by omega⟩
    obtain ⟨fu', rfl⟩ : ∃ f, fu' = f + 1 := ⟨fu' - 1, by omega⟩
    rw [X6_placeOf_b8, X8_where_b27, c_24, show iI 24 = iI ((24 : Nat) : Int) from rfl]
    rcases hc with ⟨c1, c2, -⟩ | ⟨m, z, hz, rfl, hzr, -⟩
    · rw [if_pos (m_lt0 (by omega) (by omega)), if_pos (m_lt0 (by omega) (by omega)), X6_placeOf_b79, X8_where_b85]
      split <;> exact ⟨_, rfl, rfl⟩
    · have hm := get_lt hz
      obtain ⟨z1, z2, z3, ⟨wf, wb, zf, zb, -⟩, -⟩ := hw m z hz
      obtain ⟨a1, -, -, a4, a5, -⟩ := r1 m z hz
      obtain ⟨b1, -, -, b4, b5, -⟩ := r2 m z hz
      rw [Nat.zero_add] at a1 a4 a5 b1 b4 b5 ⊢
      have bd := sd_bd hG z.line hx hy
      have i3s := i3_s bd
      have i6s : i6 (sd G z.line x y) := by unfold i6; omega
      rw [if_neg (by rw [iI_le_n (by omega) (by omega)]; omega), if_neg (n_nlt0 (by omega)), if_neg (n_nlt0 (by omega)), hk, if_neg (by rw [iI_le_n (by omega) (by omega)]; omega), zck_n (by omega) (by decide), zck_n (by omega) (by decide), zck_n (by omega) (by decide), zck_n (by omega) (by decide), zck_n (by omega) (by decide), zck_n (by omega) (by decide), cl_n (by omega), a1, b1, a4, b4, a5, b5, e_sideOf hP z1, iI_l (i3_in hx), iI_l (i3_in hy), e_mside hG hM z1, Option.bind_some, Option.bind_some]
      simp only [cmp_eq0 i6s, cmp_le0 i6s, iI_eq0 i3s, iI_le0 i3s, X6_placeOf_b49, X6_placeOf_b79, X6_placeOf_b72, X8_where_b54, X8_where_b81, iI_succ]
      by_cases e0 : sd G z.line x y = 0
      · rw [if_pos e0, if_pos e0]
        exact ⟨_, rfl, rfl⟩
      · rw [if_neg e0, if_neg e0]
        by_cases e1 : sd G z.line x y ≤ 0
        · rw [if_pos e1, if_pos e1]
          exact ih z.rk hzr (v + 1) fu fu' z.back wb zb z2 (by omega) (by omega) (by omega)
        · rw [if_neg e1, if_neg e1]
          exact ih z.rk hzr (v + 1) fu fu' z.front wf zf z2 (by omega) (by omega) (by omega)
theorem op_where {N : Nat} (hN : 1000 < N) {gP : tPi} {gQ : tPa} {gT : tTr} {gE : tTe} {gM : tMe} {mG : tmG} {mH : tmH} {mK : tmK} {mB : tmB} {mM : tmM} (h : zI gP gQ gT gE gM mG mK mB mM) (a b : Int32) : ∃ r, X7_where N gP gT a b = some r ∧ X8_where N mG mH mK a b = some (r, tmH.s_thrown mH 0) := by
  obtain ⟨⟨G, n, g1, g2, g3, g4, g5, g6, g7⟩, ⟨st, Ks, Ps, L, tp, ⟨s1, s2⟩, ⟨k1, k2⟩, ⟨l1, l2⟩, ⟨p1, p2⟩, ⟨b1, b2⟩, ⟨r1, r2⟩, -, hh, -, hw, ht, -⟩, -, -⟩ := h
  rw [X7_where, X8_where, s1, s2]
  cases st with
  | false =>
    rw [if_pos (show kpv false = 0 from rfl), if_pos (show kpv false = 0 from rfl)]
    exact ⟨_, rfl, rfl⟩
  | true =>
    rw [if_neg (show ¬ kpv true = 0 by decide), if_neg (show ¬ kpv true = 0 by decide)]
    have pa := e_place (i3_of a) (i3_of b)
    rw [iI_of, iI_of] at pa
    rcases pa with ⟨a1, a2, a3, a4⟩ | ⟨a1, a3, a4⟩
    · obtain ⟨t1, t2, t3⟩ := ht rfl
      obtain ⟨r, q1, q2⟩ := e_find g1 g2 g3 k1 r1 r2 hw b1 a1 a2 N (tmH.s_thrown mH 0) 25 0 N N tp Ps.length t3 (by omega) (by omega) (by omega) (by omega)
      rw [iI_of, iI_of] at q1 q2
      rw [a3, a4, Option.bind_some, Option.bind_some, if_pos (show (0 : Int32) = 0 from rfl), if_neg (show ¬ (1 : Int32) = 0 by decide), X6_placeOf, zl, zl, t1, t2, show (0 : Int32) = iI ((0 : Nat) : Int) from rfl, q1]
      exact ⟨r, rfl, q2⟩
    · rw [a3, a4, Option.bind_some, Option.bind_some, if_pos (show (0 : Int32) = 0 from rfl), if_neg (show ¬ (1 : Int32) = 0 by decide)]
      exact ⟨_, rfl, rfl⟩
