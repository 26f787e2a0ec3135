theorem tC_core {gP : tPi} {gT : tTr} {x y : Int} {N : Nat} (hN : 1000 < N) {m : Nat} {z : kn} (hm : m < 300) (hh : gT.held m = iI (z.held : Int)) (hfi : gT.firstHeld m = iI (z.first : Int)) {A B : Int} {lA lB : List Int} {d v n : Nat} {gE : tTe} (cA : tC gP gT x y N z.rk A lA) (cB : tC gP gT x y N z.rk B lB) (hd : z.rk ≤ d) (hv : z.rk + (v + 1) ≤ 25) (hs : gE.size = iI (n : Int)) (hn : n + (lA ++ hel z ++ lB).length ≤ 300) (v5 : Int32) (hB : ∀ g, X5_tellNode_b151 N (X5_tellNode N d) gP gT g (iI m) (iI x) (iI y) (iI v) v5 = X5_tellNode_b178 N (X5_tellNode N d) gP gT g (iI x) (iI y) (iI v) (iI B)) :
    ∃ gE', X5_tellNode_b78 N (X5_tellNode N d) gP gT gE (iI m) (iI x) (iI y) (iI v) v5 (iI A) = some gE' ∧ gE'.size = iI ((n + (lA ++ hel z ++ lB).length : Nat) : Int) ∧ smF gE.row gE'.row n ∧ rpI gE'.row n (lA ++ hel z ++ lB) := by
  rw [List.length_append, List.length_append, hel_len] at hn ⊢
  obtain ⟨g1, a1, a2, a3, a4⟩ := cA d (v + 1) n gE hd hv hs (by omega)
  obtain ⟨g2, b1, b2, b3, b4⟩ := e_tellParts (gP := gP) hm hh hfi (by omega) N (X5_tellNode N d) (iI x) (iI y) (iI v) v5 z.held N 0 (n + lA.length) g1 (by omega) (by omega) a2 (by omega)
  obtain ⟨g3, c1, c2, c3, c4⟩ := cB d (v + 1) (n + lA.length + z.held) g2 hd hv b2 (by omega)
  refine ⟨g3, ?_, by rw [c2]; congr 2; omega, (a3.trans b3 (by omega)).trans c3 (by omega), ?_⟩
  · rw [X5_tellNode_b78, iI_succ, a1, Option.bind_some]
    refine b1.trans ?_
    rw [hB, X5_tellNode_b178, iI_succ, c1]
    rfl
  · refine rpI.app (rpI.app (a4.keep (b3.trans c3 (by omega)) (by omega)) ?_) ?_
    · intro i q hq
      have hi := get_lt hq
      rw [hel_len] at hi
      rw [hel_get hq, c3 _ (by omega), b4 i hi, Nat.zero_add]
    · rw [List.length_append, hel_len, ← Nat.add_assoc]
      exact c4
theorem tC_knot {G : tGe} {gP : tPi} (hG : gok G) (hP : rlP G gP) {gT : tTr} {Ks : List kn} (hk : gT.knots = iI (Ks.length : Int)) (r1 : rpK gT 0 Ks) (hl : Ks.length ≤ 300) {x y : Int} (hx : inb x) (hy : inb y) {N : Nat} (hN : 1000 < N) {m : Nat} {z : kn} (hz : Ks[m]? = some z) (z1 : z.line < 24) (z2 : 1 ≤ z.rk) {lf lb : List Int} (cf : tC gP gT x y N z.rk z.front lf) (cb : tC gP gT x y N z.rk z.back lb) {rk : Nat} (hr : z.rk < rk) :
    tC gP gT x y N rk ((m : Nat) : Int) ((if 0 < sd G z.line x y then lb else lf) ++ hel z ++ (if 0 < sd G z.line x y then lf else lb)) := by
  intro d v n gE hd hv hs hn
  obtain ⟨d, rfl⟩ : ∃ f, d = f + 1 := ⟨d - 1, by omega⟩
  have hm := get_lt hz
  obtain ⟨a1, a2, a3, a4, a5, -⟩ := r1 m z hz
  rw [Nat.zero_add] at a1 a2 a3 a4 a5
  have i3s := i3_s (sd_bd hG z.line hx hy)
  have h24 : iI (v : Int) < (24 : Int32) := by rw [c_24, show iI 24 = iI ((24 : Nat) : Int) from rfl, iI_lt_n (by omega) (by omega)]; omega
  have hkm : ¬ iI (Ks.length : Int) ≤ iI (m : Int) := by rw [iI_le_n (by omega) (by omega)]; omega
  rw [X5_tellNode, X5_tellNode_body, if_neg (n_nlt0 (by omega)), hk, if_neg hkm, if_pos h24, zck_n (by omega) (by decide), cl_n (by omega), a1, e_sideOf hP z1, Option.bind_some]
  by_cases s : 0 < sd G z.line x y
  · rw [if_neg (by rw [iI_le0 i3s]; omega), X5_tellNode_b49, if_neg (by decide), zck_n (by omega) (by decide), cl_n (by omega), a5]
    simp only [if_pos s] at hn ⊢
    exact tC_core hN (by omega) a2 a3 cb cf (by omega) (by omega) hs hn 1 (fun g => by rw [X5_tellNode_b151, if_neg (by decide), zck_n (by omega) (by decide), cl_n (by omega), a4])
  · rw [if_pos (by rw [iI_le0 i3s]; omega), X5_tellNode_b49, if_pos (by decide), zck_n (by omega) (by decide), cl_n (by omega), a4]
    simp only [if_neg s] at hn ⊢
    exact tC_core hN (by omega) a2 a3 cf cb (by omega) (by omega) hs hn 0 (fun g => by rw [X5_tellNode_b151, if_pos (by decide), zck_n (by omega) (by decide), cl_n (by omega), a5])
theorem tC_leaf {gP : tPi} {gT : tTr} {x y : Int} {N rk : Nat} (h1 : 1 ≤ rk) {c : Int} (h : c ≤ -2) (h' : -2000 ≤ c) : tC gP gT x y N rk c [] := by
  intro d v n gE hd hv hs hn
  obtain ⟨d, rfl⟩ : ∃ f, d = f + 1 := ⟨d - 1, by omega⟩
  refine ⟨gE, ?_, hs, fun _ _ => rfl, rpI.nil _ _⟩
  rw [X5_tellNode, X5_tellNode_body, if_pos (m_lt0 (by omega) (by omega))]
def st3 (g : tmB) (v : Nat) (A c B : Int) : tmB := (g.1, g.2.1, upd (upd (upd g.oKnot v (iI A)) (v + 1) (iI c)) (v + 2) (iI B), upd (upd (upd g.oParts v 0) (v + 1) 1) (v + 2) 0)
theorem st3_0 (g : tmB) (v : Nat) (A c B : Int) : (st3 g v A c B).oKnot v = iI A ∧ (st3 g v A c B).oParts v = 0 := by
  refine ⟨?_, ?_⟩
  · show upd (upd (upd g.oKnot v (iI A)) (v + 1) (iI c)) (v + 2) (iI B) v = _
    rw [upd_ne (by omega), upd_ne (by omega), upd_eq]
  · show upd (upd (upd g.oParts v 0) (v + 1) 1) (v + 2) 0 v = _
    rw [upd_ne (by omega), upd_ne (by omega), upd_eq]
theorem st3_1 (g : tmB) (v : Nat) (A c B : Int) : (st3 g v A c B).oKnot (v + 1) = iI c ∧ (st3 g v A c B).oParts (v + 1) = 1 := by
  refine ⟨?_, ?_⟩
  · show upd (upd (upd g.oKnot v (iI A)) (v + 1) (iI c)) (v + 2) (iI B) (v + 1) = _
    rw [upd_ne (by omega), upd_eq]
  · show upd (upd (upd g.oParts v 0) (v + 1) 1) (v + 2) 0 (v + 1) = _
    rw [upd_ne (by omega), upd_eq]
theorem st3_2 (g : tmB) (v : Nat) (A c B : Int) : (st3 g v A c B).oKnot (v + 2) = iI B ∧ (st3 g v A c B).oParts (v + 2) = 0 := ⟨upd_eq, upd_eq⟩
theorem st3_sm (g : tmB) (v : Nat) (A c B : Int) : smO g (st3 g v A c B) v := by
  intro i hi
  refine ⟨?_, ?_⟩
  · show upd (upd (upd g.oKnot v (iI A)) (v + 1) (iI c)) (v + 2) (iI B) i = _
    rw [upd_ne (by omega), upd_ne (by omega), upd_ne (by omega)]
  · show upd (upd (upd g.oParts v 0) (v + 1) 1) (v + 2) 0 i = _
    rw [upd_ne (by omega), upd_ne (by omega), upd_ne (by omega)]
theorem iI_pred (v : Nat) : iI ((v + 1 : Nat) : Int) + (-1 : Int32) = iI (v : Int) := by rw [c_m1, iI_add]; congr 1; omega
theorem n_nle0 {a : Nat} (h : a < 2147483648) (h0 : 0 < a) : ¬ iI (a : Int) ≤ (0 : Int32) := by rw [iI_le0 ⟨by omega, by omega⟩]; omega
theorem tM_leaf {mG : tmG} {mK : tmK} {mH : tmH} {x y : Int} {N rk : Nat} {c : Int} (h : c ≤ -2) (h' : -2000 ≤ c) : tM mG mK mH x y N rk c [] := by
  refine ⟨1, Nat.one_le_pow _ _ (by omega), ?_⟩
  intro v n mB hk hp hv hs hn
  refine ⟨mB, fun fu => ?_, fun _ _ => ⟨rfl, rfl⟩, hs, fun _ _ => rfl, rpI.nil _ _⟩
  rw [X8_order_b46, if_neg (n_nle0 (by omega) (by omega)), iI_pred, zck_n (by omega) (by decide), cl_n (by omega), hk, zl, if_neg (by rw [iI_0le ⟨by omega, by omega⟩]; omega)]
theorem tM_knot {G : tGe} {mG : tmG} (hG : gok G) (hM : rlG G mG) {mK : tmK} {mH : tmH} {Ks : List kn} (r2 : rpMK mK 0 Ks) (hl : Ks.length ≤ 300) {x y : Int} (hx : inb x) (hy : inb y) {N : Nat} (hN : 1000 < N) {m : Nat} {z : kn} (hz : Ks[m]? = some z) (z1 : z.line < 24) (z2 : 1 ≤ z.rk) {A B : Int} {lA lB : List Int} (hA : iI A = (if 0 < sd G z.line x y then iI z.back else iI z.front)) (hB : iI B = (if 0 < sd G z.line x y then iI z.front else iI z.back)) (cA : tM mG mK mH x y N z.rk A lA) (cB : tM mG mK mH x y N z.rk B lB) {rk : Nat} (hr : z.rk < rk) :
    tM mG mK mH x y N rk ((m : Nat) : Int) (lA ++ hel z ++ lB) := by
  obtain ⟨kA, kA4, cA⟩ := cA
  obtain ⟨kB, kB4, cB⟩ := cB
  have hp : 4 ^ (z.rk + 1) ≤ 4 ^ rk := Nat.pow_le_pow_right (by omega) hr
  have h1 : 1 ≤ 4 ^ z.rk := Nat.one_le_pow _ _ (by omega)
  rw [Nat.pow_succ] at hp
  refine ⟨kB + 1 + kA + 1, by omega, ?_⟩
  intro v n mB hk hpt hv hs hn
  have hm := get_lt hz
  obtain ⟨b1, b2, b3, b4, b5, -⟩ := r2 m z hz
  rw [Nat.zero_add] at b1 b2 b3 b4 b5
  have bd := sd_bd hG z.line hx hy
  have i6s : i6 (sd G z.line x y) := by unfold i6; omega
  rw [List.length_append, List.length_append, hel_len] at hn ⊢
  obtain ⟨g1, a1, a2, a3, a4, a5⟩ := cA (v + 2) n (st3 mB v B (m : Int) A) (st3_2 _ _ _ _ _).1 (st3_2 _ _ _ _ _).2 (by omega) hs (by omega)
  have hg1k : g1.oKnot (v + 1) = iI ((m : Nat) : Int) ∧ g1.oParts (v + 1) = 1 := by rw [(a2 (v + 1) (by omega)).1, (a2 (v + 1) (by omega)).2]; exact st3_1 _ _ _ _ _
  have hg1b : g1.oKnot v = iI B ∧ g1.oParts v = 0 := by rw [(a2 v (by omega)).1, (a2 v (by omega)).2]; exact st3_0 _ _ _ _ _
  obtain ⟨g2, p1, p2, ⟨p3, p4⟩, p5, p6⟩ := m_tellParts (mG := mG) (show m < 700 by omega) b2 b3 (by omega) N mH (iI x) (iI y) (iI ((v + 1 : Nat) : Int)) z.held 0 (n + lA.length) g1 (by omega) a3 (by omega)
  obtain ⟨g3, q1, q2, q3, q4, q5⟩ := cB v (n + lA.length + z.held) g2 (by rw [p3]; exact hg1b.1) (by rw [p4]; exact hg1b.2) (by omega) p2 (by omega)
  refine ⟨g3, ?_, ?_, by rw [q3]; congr 2; omega, (a4.trans p5 (by omega)).trans q4 (by omega), ?_⟩
  · intro fu
    have e1 : X8_order_b46 N mG mK (fu + (kB + 1 + kA + 1)) mH mB (iI x) (iI y) (iI ((v + 1 : Nat) : Int)) = X8_order_b46 N mG mK (fu + kB + 1 + kA) mH (st3 mB v B (m : Int) A) (iI x) (iI y) (iI ((v + 2 + 1 : Nat) : Int)) := by
      rw [show fu + (kB + 1 + kA + 1) = fu + kB + 1 + kA + 1 by omega, X8_order_b46, if_neg (n_nle0 (by omega) (by omega)), iI_pred, zck_n (by omega) (by decide), cl_n (by omega), hk, zl, if_pos (n_0le (by omega)), zck_n (by omega) (by decide), hpt, if_pos rfl, zck_n (by omega) (by decide), cl_n (by omega), b1, iI_l (i3_in hx), iI_l (i3_in hy), e_mside hG hM z1, Option.bind_some]
      have ev1 : iI (v : Int) + (1 : Int32) = iI ((v + 1 : Nat) : Int) := iI_succ v
      have ev2 : iI (v : Int) + (2 : Int32) = iI ((v + 2 : Nat) : Int) := by rw [c_2, iI_add]; rfl
      have ev3 : iI (v : Int) + (3 : Int32) = iI ((v + 2 + 1 : Nat) : Int) := by rw [c_3, iI_add]; congr 1
      by_cases s : 0 < sd G z.line x y
      · rw [if_pos s] at hA hB
        rw [if_neg (by rw [cmp_le0 i6s]; omega), X8_order_b156, if_neg (by decide), zck_n (by omega) (by decide), cl_n (by omega), X8_order_b185, ev1, ev2, zck_n (by omega) (by decide), zck_n (by omega) (by decide), zck_n (by omega) (by decide), zck_n (by omega) (by decide), if_neg (by decide), zck_n (by omega) (by decide), X8_order_b241, ev2, ev3, zck_n (by omega) (by decide), zck_n (by omega) (by decide)]
        simp only [cl_n (show v < 2147483648 by omega), cl_n (show v + 1 < 2147483648 by omega), cl_n (show v + 2 < 2147483648 by omega), cl_n (show m < 2147483648 by omega), b4, b5, ← hA, ← hB]
        rfl
      · rw [if_neg s] at hA hB
        rw [if_pos (by rw [cmp_le0 i6s]; omega), X8_order_b156, if_pos (by decide), zck_n (by omega) (by decide), cl_n (by omega), X8_order_b185, ev1, ev2, zck_n (by omega) (by decide), zck_n (by omega) (by decide), zck_n (by omega) (by decide), zck_n (by omega) (by decide), if_pos (by decide), zck_n (by omega) (by decide), X8_order_b241, ev2, ev3, zck_n (by omega) (by decide), zck_n (by omega) (by decide)]
        simp only [cl_n (show v < 2147483648 by omega), cl_n (show v + 1 < 2147483648 by omega), cl_n (show v + 2 < 2147483648 by omega), cl_n (show m < 2147483648 by omega), b4, b5, ← hA, ← hB]
        rfl
    rw [e1, a1]
    have e2 : X8_order_b46 N mG mK (fu + kB + 1) mH g1 (iI x) (iI y) (iI ((v + 2 : Nat) : Int)) = X8_order_b46 N mG mK (fu + kB) mH g2 (iI x) (iI y) (iI ((v + 1 : Nat) : Int)) := by
      rw [X8_order_b46, if_neg (n_nle0 (by omega) (by omega)), show iI ((v + 2 : Nat) : Int) + (-1 : Int32) = iI ((v + 1 : Nat) : Int) from iI_pred (v + 1), zck_n (by omega) (by decide), cl_n (by omega), hg1k.1, zl, if_pos (n_0le (by omega)), zck_n (by omega) (by decide), hg1k.2, if_neg (by decide)]
      exact p1 _ N (by omega)
    rw [e2, q1]
  · refine smO.trans (smO.trans (st3_sm mB v B (m : Int) A) a2 (by omega)) ?_ (Nat.le_refl v)
    intro i hi
    rw [← p3, ← p4]
    exact q2 i hi
  · refine rpI.app (rpI.app (a5.keep (p5.trans q4 (by omega)) (by omega)) ?_) ?_
    · intro i q hq
      have hi := get_lt hq
      rw [hel_len] at hi
      rw [hel_get hq, q4 _ (by omega), p6 i hi, Nat.zero_add]
    · rw [List.length_append, hel_len, ← Nat.add_assoc]
      exact q5
theorem tel {G : tGe} {gP : tPi} {mG : tmG} (hG : gok G) (hP : rlP G gP) (hM : rlG G mG) {gT : tTr} {mK : tmK} {Ks : List kn} (hk : gT.knots = iI (Ks.length : Int)) (r1 : rpK gT 0 Ks) (r2 : rpMK mK 0 Ks) (hw : wfK Ks 0 (-1) 0) (hl : Ks.length ≤ 300) {x y : Int} (hx : inb x) (hy : inb y) {N : Nat} (hN : 1000 < N) (mH : tmH) : ∀ (rk : Nat) (c : Int) (w : Nat), chd Ks 0 rk c w → 1 ≤ rk → ∃ l : List Int, l.length = w ∧ tC gP gT x y N rk c l ∧ tM mG mK mH x y N rk c l := by
  intro rk
  induction rk using Nat.strongRecOn with
  | _ rk ih =>
    intro c w hc h1
    rcases hc with ⟨c1, c2, rfl⟩ | ⟨m, z, hz, rfl, hzr, rfl⟩
    · exact ⟨[], rfl, tC_leaf h1 c1 c2, tM_leaf c1 c2⟩
    · obtain ⟨z1, z2, z3, ⟨wf, wb, zf, zb, ew⟩, -⟩ := hw m z hz
      obtain ⟨lf, f1, f2, f3⟩ := ih z.rk hzr z.front wf zf z2
      obtain ⟨lb, b1, b2, b3⟩ := ih z.rk hzr z.back wb zb z2
      rw [Nat.zero_add]
      refine ⟨(if 0 < sd G z.line x y then lb else lf) ++ hel z ++ (if 0 < sd G z.line x y then lf else lb), ?_, tC_knot hG hP hk r1 hl hx hy hN hz z1 z2 f2 b2 hzr, ?_⟩
      · rw [List.length_append, List.length_append, hel_len]
        split <;> omega
      · refine tM_knot (A := if 0 < sd G z.line x y then z.back else z.front) (B := if 0 < sd G z.line x y then z.front else z.back) hG hM r2 hl hx hy hN hz z1 z2 (by split <;> rfl) (by split <;> rfl) ?_ ?_ hzr
        · split
          · exact b3
          · exact f3
        · split
          · exact f3
          · exact b3
theorem op_order {N : Nat} (hN : 4 ^ 30 < N) {gP : tPi} {gQ : tPa} {gT : tTr} {gE : tTe} {gM : tMe} {mG : tmG} {mH : tmH} {mK : tmK} {mB : tmB} {mM : tmM} (h : zI gP gQ gT gE gM mG mK mB mM) (a b : Int32) : ∃ r gE' mB', X7_order N gP gT gE a b = some (r, gE') ∧ X8_order N mG mH mK mB a b = some (r, tmH.s_thrown mH 0, mB') ∧ zI gP gQ gT gE' gM mG mK mB' mM := by
  obtain ⟨⟨G, n, g1, g2, g3, g4, g5, g6, g7⟩, ⟨st, Ks, Ps, L, tp, ⟨s1, s2⟩, ⟨k1, k2⟩, ⟨l1, l2⟩, ⟨p1, p2⟩, ⟨b1, b2⟩, ⟨r1, r2⟩, -, hh, -, hw, ht, -⟩, j3, j4⟩ := id h
  rw [X7_order, X8_order, s1, s2]
  cases st with
  | false =>
    rw [if_pos (show kpv false = 0 from rfl), if_pos (show kpv false = 0 from rfl)]
    exact ⟨_, _, _, rfl, rfl, h⟩
  | true =>
    rw [if_neg (show ¬ kpv true = 0 by decide), if_neg (show ¬ kpv true = 0 by decide)]
    have pa := e_place (i3_of a) (i3_of b)
    rw [iI_of, iI_of] at pa
    rcases pa with ⟨a1, a2, a3, a4⟩ | ⟨a1, a3, a4⟩
    · obtain ⟨t1, t2, t3⟩ := ht rfl
      obtain ⟨l, q1, q2, k, q3, q4⟩ := tel g1 g2 g3 k1 r1 r2 hw b1 a1 a2 (N := N) (by omega) (tmH.s_thrown mH 0) 25 tp Ps.length t3 (by omega)
      obtain ⟨gE', e1, e2, -, e4⟩ := q2 25 0 0 (tTe.s_size gE 0) (by omega) (by omega) rfl (by omega)
      obtain ⟨mB', m1, -, m3, -, m5⟩ := q4 0 0 (tmB.s_oParts (tmB.s_oKnot (tmB.s_toldMany mB 0) (upd mB.oKnot 0 (iI tp))) (upd mB.oParts 0 0)) (show upd mB.oKnot 0 (iI tp) 0 = _ from upd_eq) (show upd mB.oParts 0 0 0 = 0 from upd_eq) (by omega) rfl (by omega)
      rw [iI_of, iI_of] at e1 m1
      rw [Nat.zero_add] at e2 m3
      have m2 := m1 (N - k)
      have k25 : k < N := by
        have : (4 : Nat) ^ 25 < 4 ^ 30 := by decide
        omega
      rw [show N - k + k = N by omega] at m2
      obtain ⟨f, hf⟩ : ∃ f, N - k = f + 1 := ⟨N - k - 1, by omega⟩
      rw [hf, X8_order_b46, if_pos (by decide), X8_order_b257] at m2
      rw [a3, a4, Option.bind_some, Option.bind_some, if_pos (show (0 : Int32) = 0 from rfl), if_neg (show ¬ (1 : Int32) = 0 by decide), X5_tellFrom, t1, t2]
      have e1' : X5_tellNode N 25 gP gT (tTe.s_size gE 0) (iI tp) a b 0 = some gE' := e1
      rw [e1', Option.bind_some, Option.bind_some]
      refine ⟨_, gE', mB', rfl, ?_, ⟨G, n, g1, g2, g3, g4, g5, g6, g7⟩, h.2.1, ⟨l, e2, m3, by omega, ?_⟩, j4⟩
      · have z0 : ∀ {α : Type} (k : Option α), zck (0 : Int32) 1400 k = k := fun k => zck_n (j := 0) (by omega) (by decide)
        rw [z0, z0]
        refine m2.trans ?_
        rw [m3, e2]
      · intro i z hz
        have w1 := e4 i z hz
        have w2 := m5 i z hz
        rw [Nat.zero_add] at w1 w2
        exact ⟨w1, w2⟩
    · rw [a3, a4, Option.bind_some, Option.bind_some, if_pos (show (0 : Int32) = 0 from rfl), if_neg (show ¬ (1 : Int32) = 0 by decide)]
      exact ⟨_, _, _, rfl, rfl, h⟩
