/-! the reference: the next order -/
theorem e_swap {mO : tmO} {l : List Nat} {i j : Nat} (hi : i < l.length) (hj : j < l.length) (h24 : l.length ≤ 24) (hr : rpN mO l) : ∃ mO' : tmO, X8_swap mO (iI i) (iI j) = some mO' ∧ rpN mO' (lsw l i j) := by
  refine ⟨upd (upd mO i (mO j)) j (mO i), ?_, rpN_lsw hr hi hj⟩
  rw [X8_swap, zck_n (by omega) (by decide), zl, zck_n (by omega) (by decide), zck_n (by omega) (by decide), zck_n (by omega) (by decide), cl_n (by omega), cl_n (by omega)]
abbrev tSm : Type := Int32 × tmH × tmR × tmW × tmS × tmK × tmD × tmN × tmO
section
variable {N : Nat} {k41 : tmH → tmR → tmW → tmS → tmK → tmD → tmN → tmO → Int32 → Int32 → Option tSm} {mG : tmG} {mH : tmH} {mR : tmR} {mW : tmW} {mS : tmS} {mK : tmK} {mD : tmD} {mN : tmN}
theorem n_rev (v1 v2 : Int32) : ∀ (c fu a b : Nat) (l : List Nat) (mO : tmO), l.length ≤ 24 → b < l.length → a ≤ 24 → b ≤ a + c → rpN mO l → c < fu →
    ∃ mO' : tmO, X8_sum_b159 N k41 mG fu mH mR mW mS mK mD mN mO v1 v2 (iI a) (iI b) = X8_sum_b183 N k41 mG mH mR mW mS mK mD mN mO' v1 v2 ∧ rpN mO' (rvl c l a b) ∧ (rvl c l a b).length = l.length
  | 0, fu, a, b, l, mO, h24, hb, ha, hc, hr, hf => by
    obtain ⟨fu, rfl⟩ : ∃ f, fu = f + 1 := ⟨fu - 1, by omega⟩
    refine ⟨mO, ?_, hr, rfl⟩
    rw [X8_sum_b159, if_pos (by rw [iI_le_n (by omega) (by omega)]; omega)]
  | c + 1, fu, a, b, l, mO, h24, hb, ha, hc, hr, hf => by
    obtain ⟨fu, rfl⟩ : ∃ f, fu = f + 1 := ⟨fu - 1, by omega⟩
    rw [X8_sum_b159, rvl]
    by_cases h : b ≤ a
    · rw [if_pos (by rw [iI_le_n (by omega) (by omega)]; omega), if_pos (Nat.ble_eq_true_of_le h)]
      exact ⟨mO, rfl, hr, rfl⟩
    · rw [if_neg (by rw [iI_le_n (by omega) (by omega)]; omega), if_neg (fun q => h (Nat.le_of_ble_eq_true q))]
      obtain ⟨m1, a1, a2⟩ := e_swap (show a < l.length by omega) hb h24 hr
      obtain ⟨m2, b1, b2, b3⟩ := n_rev v1 v2 c fu (a + 1) (b - 1) (lsw l a b) m1 (by rw [lsw_len]; exact h24) (by rw [lsw_len]; omega) (by omega) (by omega) a2 (by omega)
      rw [lsw_len] at b3
      refine ⟨m2, ?_, b2, b3⟩
      rw [a1, Option.bind_some, iI_succ, show iI (b : Int) = iI ((b - 1 + 1 : Nat) : Int) by rw [Nat.sub_add_cancel (by omega)], iI_pred]
      exact b1
theorem f2_at (l : List Nat) (k : Nat) : f2 l k k = k := by
  cases k with
  | zero => rfl
  | succ k => rw [f2, if_pos (Nat.ble_eq_true_of_le (Nat.le_refl _))]
theorem f2_le (l : List Nat) (i : Nat) : ∀ k, f2 l i k ≤ k
  | 0 => Nat.le_refl _
  | k + 1 => by
    rw [f2]
    split
    · exact Nat.le_refl _
    · have := f2_le l i k; omega
theorem f1_le (l : List Nat) : ∀ k, f1 l k ≤ k
  | 0 => Nat.le_refl _
  | k + 1 => by
    rw [f1]
    split
    · exact Nat.le_refl _
    · have := f1_le l k; omega
theorem n_f2 (v1 v2 : Int32) {l : List Nat} {mO : tmO} (hl : l.length ≤ 24) (hr : rpN mO l) (hb : ∀ o ∈ l, o < 24) {k : Nat} : ∀ (c fu : Nat), k + c < l.length → c < fu →
    X8_sum_b117 N k41 mG fu mH mR mW mS mK mD mN mO v1 v2 (iI k) (iI ((k + c : Nat) : Int)) = X8_sum_b139 N k41 mG mH mR mW mS mK mD mN mO v1 v2 (iI k) (iI ((f2 l k (k + c) : Nat) : Int))
  | 0, fu, hc, hf => by
    obtain ⟨fu, rfl⟩ : ∃ f, fu = f + 1 := ⟨fu - 1, by omega⟩
    rw [X8_sum_b117, Nat.add_zero, zck_n (by omega) (by decide), zck_n (by omega) (by decide), f2_at, if_pos (Int32.le_refl _)]
  | c + 1, fu, hc, hf => by
    obtain ⟨fu, rfl⟩ : ∃ f, fu = f + 1 := ⟨fu - 1, by omega⟩
    have b1 := getD_lt (by omega) hb k
    have b2 := getD_lt (by omega) hb (k + (c + 1))
    have e1 : tmO.orderOf mO k = iI ((l.getD k 0 : Nat) : Int) := hr k (by omega)
    have e2 : tmO.orderOf mO (k + (c + 1)) = iI ((l.getD (k + (c + 1)) 0 : Nat) : Int) := hr (k + (c + 1)) hc
    rw [X8_sum_b117, zck_n (by omega) (by decide), zck_n (by omega) (by decide), cl_n (by omega), cl_n (by omega), e1, e2]
    rw [show f2 l k (k + (c + 1)) = (if Nat.ble (l.getD k 0) (l.getD (k + (c + 1)) 0) = true then k + (c + 1) else f2 l k (k + c)) from rfl]
    by_cases h : l.getD k 0 ≤ l.getD (k + (c + 1)) 0
    · rw [if_pos (by rw [iI_le_n (by omega) (by omega)]; exact h), if_pos (Nat.ble_eq_true_of_le h)]
    · rw [if_neg (by rw [iI_le_n (by omega) (by omega)]; exact h), if_neg (fun q => h (Nat.le_of_ble_eq_true q)), show iI ((k + (c + 1) : Nat) : Int) = iI ((k + c + 1 : Nat) : Int) from rfl, iI_pred]
      exact n_f2 v1 v2 hl hr hb c fu (by omega) (by omega)
theorem n_f1 (v1 : Int32) {l : List Nat} {mO : tmO} (hl : l.length ≤ 24) (hr : rpN mO l) (hb : ∀ o ∈ l, o < 24) : ∀ (k fu : Nat), (0 < k → k < l.length) → k < fu →
    X8_sum_b65 N k41 mG fu mH mR mW mS mK mD mN mO v1 (iI ((k : Int) - 1)) = X8_sum_b92 N k41 mG mH mR mW mS mK mD mN mO v1 (iI ((f1 l k : Nat) - 1 : Int))
  | 0, fu, hk, hf => by
    obtain ⟨fu, rfl⟩ : ∃ f, fu = f + 1 := ⟨fu - 1, by omega⟩
    rw [X8_sum_b65, if_pos (m_lt0 (by omega) (by omega))]
    rfl
  | k + 1, fu, hk, hf => by
    obtain ⟨fu, rfl⟩ : ∃ f, fu = f + 1 := ⟨fu - 1, by omega⟩
    have hk' := hk (by omega)
    have b1 := getD_lt (by omega) hb k
    have b2 := getD_lt (by omega) hb (k + 1)
    have e1 : tmO.orderOf mO k = iI ((l.getD k 0 : Nat) : Int) := hr k (by omega)
    have e2 : tmO.orderOf mO (k + 1) = iI ((l.getD (k + 1) 0 : Nat) : Int) := hr (k + 1) hk'
    rw [X8_sum_b65, show (((k + 1 : Nat) : Int) - 1) = (k : Int) by omega, if_neg (n_nlt0 (by omega)), iI_succ, zck_n (by omega) (by decide), zck_n (by omega) (by decide), cl_n (by omega), cl_n (by omega), e1, e2, f1]
    by_cases h : l.getD k 0 ≤ l.getD (k + 1) 0
    · rw [if_pos (by rw [iI_le_n (by omega) (by omega)]; exact h), if_pos (Nat.ble_eq_true_of_le h), show (((k + 1 : Nat) : Int) - 1) = (k : Int) by omega]
    · rw [if_neg (by rw [iI_le_n (by omega) (by omega)]; exact h), if_neg (fun q => h (Nat.le_of_ble_eq_true q)), c_m1, iI_add]
      exact n_f1 v1 hl hr hb k fu (fun _ => by omega) (by omega)
theorem rvl_lt {b : Nat} (hb : 0 < b) : ∀ (c : Nat) (l : List Nat) (x y : Nat), (∀ o ∈ l, o < b) → ∀ o ∈ rvl c l x y, o < b
  | 0, l, x, y, h => h
  | c + 1, l, x, y, h => by
    rw [rvl]
    split
    · exact h
    · exact rvl_lt hb c _ _ _ (lsw_lt hb h _ _)
/-- from one order to the next, or to the end -/
theorem n_next (hN : 1000 < N) (v1 : Int32) {l : List Nat} {mO : tmO} (hl : l.length ≤ 6) (hs : mG.pieces = iI (l.length : Int)) (hr : rpN mO l) (hb : ∀ o ∈ l, o < 24) :
    (nxt l.length l = none ∧ X8_sum_b65 N k41 mG N mH mR mW mS mK mD mN mO v1 (iI ((l.length : Int) - 2)) = k41 mH mR mW mS mK mD mN mO v1 0) ∨
    ∃ (l' : List Nat) (mO' : tmO), nxt l.length l = some l' ∧ l'.length = l.length ∧ (∀ o ∈ l', o < 24) ∧ rpN mO' l' ∧ X8_sum_b65 N k41 mG N mH mR mW mS mK mD mN mO v1 (iI ((l.length : Int) - 2)) = k41 mH mR mW mS mK mD mN mO' v1 1 := by
  have f1l := f1_le l (l.length - 1)
  have e0 : X8_sum_b65 N k41 mG N mH mR mW mS mK mD mN mO v1 (iI ((l.length : Int) - 2)) = X8_sum_b92 N k41 mG mH mR mW mS mK mD mN mO v1 (iI ((f1 l (l.length - 1) : Nat) - 1 : Int)) := by
    by_cases h0 : l.length = 0
    · obtain ⟨M, hM⟩ : ∃ f, N = f + 1 := ⟨N - 1, by omega⟩
      rw [show X8_sum_b65 N k41 mG N = X8_sum_b65 N k41 mG (M + 1) by rw [hM], X8_sum_b65, if_pos (m_lt0 (by omega) (by omega)), X8_sum_b92, X8_sum_b92, if_pos (m_lt0 (by omega) (by omega)), if_pos (m_lt0 (by omega) (by omega)), X8_sum_b101, X8_sum_b101, if_pos rfl, if_pos rfl]
    · have := n_f1 (k41 := k41) (mG := mG) (mH := mH) (mR := mR) (mW := mW) (mS := mS) (mK := mK) (mD := mD) (mN := mN) (N := N) v1 (show l.length ≤ 24 by omega) hr hb (l.length - 1) N (by omega) (by omega)
      rw [show (((l.length - 1 : Nat) : Int) - 1) = (l.length : Int) - 2 by omega] at this
      exact this
  rw [e0]
  unfold nxt
  by_cases h : f1 l (l.length - 1) = 0
  · left
    rw [if_pos h, h]
    refine ⟨rfl, ?_⟩
    rw [X8_sum_b92, if_pos (m_lt0 (by omega) (by omega)), X8_sum_b101, if_pos rfl]
  · right
    rw [if_neg h]
    obtain ⟨k, hk⟩ : ∃ k, f1 l (l.length - 1) = k + 1 := ⟨f1 l (l.length - 1) - 1, by omega⟩
    rw [hk] at f1l ⊢
    have f2l := f2_le l k (l.length - 1)
    have e2 := n_f2 (k41 := k41) (mG := mG) (mH := mH) (mR := mR) (mW := mW) (mS := mS) (mK := mK) (mD := mD) (mN := mN) (N := N) v1 1 (show l.length ≤ 24 by omega) hr hb (k := k) (l.length - 1 - k) N (by omega) (by omega)
    rw [show k + (l.length - 1 - k) = l.length - 1 by omega] at e2
    obtain ⟨m1, a1, a2⟩ := e_swap (show f2 l k (l.length - 1) < l.length by omega) (show k < l.length by omega) (by omega) hr
    obtain ⟨m2, b1, b2, b3⟩ := n_rev (N := N) (k41 := k41) (mG := mG) (mH := mH) (mR := mR) (mW := mW) (mS := mS) (mK := mK) (mD := mD) (mN := mN) v1 1 l.length N (k + 1) (l.length - 1) (lsw l (f2 l k (l.length - 1)) k) m1 (by rw [lsw_len]; omega) (by rw [lsw_len]; omega) (by omega) (by omega) a2 (by omega)
    rw [lsw_len] at b3
    refine ⟨_, m2, rfl, b3, rvl_lt (by omega) _ _ _ _ (lsw_lt (by omega) hb _ _), b2, ?_⟩
    rw [X8_sum_b92, show (((k + 1 : Nat) : Int) - 1) = (k : Int) by omega, if_neg (n_nlt0 (by omega)), X8_sum_b101, if_neg (by decide), zl, hs, c_1, iI_sub, show ((l.length : Int) - 1) = ((l.length - 1 : Nat) : Int) by omega]
    refine e2.trans ?_
    rw [X8_sum_b139, a1, Option.bind_some, zl, zl, hs, iI_succ, c_1, iI_sub, show ((l.length : Int) - 1) = ((l.length - 1 : Nat) : Int) by omega]
    refine b1.trans ?_
    rw [X8_sum_b183]
    rfl
end
theorem n_loop {N n : Nat} (hN : 1000 < N) {G : tGe} {mG : tmG} (hG : gok G) (hM : rlG G mG) (hn : n ≤ 6) (hs : mG.pieces = iI (n : Int)) {mH : tmH} {mK : tmK} : ∀ (c fu : Nat) (l : List Nat) (ls : List (List Nat)) (tot : Nat) (mR : tmR) (mW : tmW) (mS : tmS) (mD : tmD) (mN : tmN) (mO : tmO), vis n c l = some ls → l.length = n → (∀ o ∈ l, o < 24) → rpN mO l → c < fu →
    ∃ mR' mW' mS' mD' mN' mO', X8_sum_b41 N mG fu mH mR mW mS mK mD mN mO (iI tot) 1 = some (iI ((tot + smf (fun os => fwv G false 7 (whs os)) ls : Nat) : Int), mH, mR', mW', mS', mK, mD', mN', mO')
  | 0, fu, l, ls, tot, mR, mW, mS, mD, mN, mO, hv, hl, hb, hr, hf => by rw [vis] at hv; cases hv
  | c + 1, fu, l, ls, tot, mR, mW, mS, mD, mN, mO, hv, hl, hb, hr, hf => by
    obtain ⟨fu, rfl⟩ : ∃ f, fu = f + 1 := ⟨fu - 1, by omega⟩
    have wo := whs_ok hb
    have wl := whs_len l
    have p3 := phi_24 G (r := whs l) (by omega)
    obtain ⟨mR1, mW1, mS1, mK1, mD1, mN1, a1, a2, a3, -⟩ := m_all (mO := mO) hG hM (ru := 0) (by omega) hN false (show n ≤ 24 by omega) hs l hl hb (fun i hi => hr i (by omega)) mR mW mS mK mD mN (fun h => by cases h)
    have a3' := a3 rfl
    rw [a3'] at a1
    rw [fwv_grw hG 25 (whs l) (-1) 0 0 0 0 mD.draw wo p3, fwv_fuel false 25 7 (whs l) (by omega) (by omega)] at a2
    have a1' : X8_grow N mG mR mW mS mK mD mN mO (0 : Int32) (0 : Int32) = some (mR1, mW1, mS1, mK, mD1, mN1) := a1
    rw [X8_sum_b41, if_neg (by decide), a1', Option.bind_some, zl, zl, hs, c_2, iI_sub]
    rw [show tmN.made (mR1, mW1, mS1, mK, mD1, mN1).2.2.2.2.2 = iI (fwv G false 7 (whs l) : Int) from a2, iI_add, ← Int.natCast_add]
    rw [vis] at hv
    have hs' : mG.pieces = iI (l.length : Int) := by rw [hl]; exact hs
    rcases n_next (N := N) (k41 := X8_sum_b41 N mG fu) (mG := mG) (mH := mH) (mR := mR1) (mW := mW1) (mS := mS1) (mK := mK) (mD := mD1) (mN := mN1) hN (iI ((tot + fwv G false 7 (whs l) : Nat) : Int)) (show l.length ≤ 6 by omega) hs' hr hb with ⟨b1, b2⟩ | ⟨l', mO', b1, b2, b3, b4, b5⟩
    · rw [hl] at b1 b2
      rw [b1] at hv
      cases hv
      obtain ⟨fu, rfl⟩ : ∃ f, fu = f + 1 := ⟨fu - 1, by omega⟩
      refine ⟨mR1, mW1, mS1, mD1, mN1, mO, ?_⟩
      refine b2.trans ?_
      rw [X8_sum_b41, if_pos rfl]
      rfl
    · rw [hl] at b1 b2 b5
      rw [b1] at hv
      replace hv : (vis n c l').map (fun t => l :: t) = some ls := hv
      cases e : vis n c l' with
      | none => rw [e] at hv; cases hv
      | some t =>
        rw [e] at hv
        cases hv
        obtain ⟨mR2, mW2, mS2, mD2, mN2, mO2, d1⟩ := n_loop hN hG hM hn hs (mH := mH) (mK := mK) c fu l' t (tot + fwv G false 7 (whs l)) mR1 mW1 mS1 mD1 mN1 mO' e b2 b3 b4 (by omega)
        refine ⟨mR2, mW2, mS2, mD2, mN2, mO2, b5.trans ?_⟩
        rw [d1, smf, Nat.add_assoc]
theorem n_order (N : Nat) {mG : tmG} {mR : tmR} {mW : tmW} {mS : tmS} {mK : tmK} {mD : tmD} {mN : tmN} {mH : tmH} : ∀ (c fu i : Nat) (mO : tmO), i + c = 24 → (∀ k : Nat, k < i → mO.orderOf k = iI (k : Int)) → c < fu →
    ∃ mO', (∀ k : Nat, k < 24 → tmO.orderOf mO' k = iI (k : Int)) ∧ X8_sum_b18 N mG fu mH mR mW mS mK mD mN mO (iI i) = X8_sum_b37 N mG mH mR mW mS mK mD mN mO'
  | 0, fu, i, mO, h, hk, hf => by
    obtain ⟨fu, rfl⟩ : ∃ f, fu = f + 1 := ⟨fu - 1, by omega⟩
    refine ⟨mO, fun k h' => hk k (by omega), ?_⟩
    rw [X8_sum_b18, if_pos (by rw [c_24, show iI 24 = iI ((24 : Nat) : Int) from rfl, iI_le_n (by omega) (by omega)]; omega)]
  | c + 1, fu, i, mO, h, hk, hf => by
    obtain ⟨fu, rfl⟩ : ∃ f, fu = f + 1 := ⟨fu - 1, by omega⟩
    obtain ⟨mO', h1, h2⟩ := n_order N c fu (i + 1) (tmO.s_orderOf mO (upd mO.orderOf i (iI (i : Int)))) (by omega) (fun k hk' => by
      show upd mO.orderOf i (iI (i : Int)) k = _
      by_cases e : k = i
      · rw [e, upd_eq]
      · rw [upd_ne e]; exact hk k (by omega)) (by omega)
    refine ⟨mO', h1, ?_⟩
    rw [X8_sum_b18, if_neg (by rw [c_24, show iI 24 = iI ((24 : Nat) : Int) from rfl, iI_le_n (by omega) (by omega)]; omega), zck_n (by omega) (by decide), cl_n (by omega), iI_succ]
    exact h2
theorem op_sum {N : Nat} (hN : 1000 < N) {gP : tPi} {gR gQ : tPa} {gT : tTr} {gE : tTe} {gM : tMe} {gS : tSq} {mG : tmG} {mH : tmH} {mR : tmR} {mW : tmW} {mS : tmS} {mK : tmK} {mD : tmD} {mN : tmN} {mO : tmO} {mB : tmB} {mM : tmM} (h : zI gP gQ gT gE gM mG mK mB mM) :
    ∃ r gR' gS' mR' mW' mS' mD' mN' mO', X7_sum N gP gR gS = some (r, gR', gS') ∧ X8_sum N mG mH mR mW mS mK mD mN mO = some (r, tmH.s_thrown mH 0, mR', mW', mS', mK, mD', mN', mO') := by
  obtain ⟨⟨G, n, g1, g2, g3, g4, g5, g6, g7⟩, -, -, -⟩ := id h
  by_cases hn : n ≤ 6
  · obtain ⟨gR', gS', e1⟩ := s_class hN g1 g2 hn g5 gR gS
    obtain ⟨ls, hv, hp⟩ := perms hn
    obtain ⟨mO1, o1, o2⟩ := n_order N (mG := mG) (mR := mR) (mW := mW) (mS := mS) (mK := mK) (mD := mD) (mN := mN) (mH := tmH.s_thrown mH (0 : Int32)) 24 N 0 mO (by omega) (fun k hk => by omega) (by omega)
    have r1 : rpN mO1 (List.range n) := fun i hi => by rw [List.length_range] at hi; rw [rg_getD hi]; exact o1 i (by omega)
    obtain ⟨mR', mW', mS', mD', mN', mO', e2⟩ := n_loop hN g1 g3 hn g6 (mH := tmH.s_thrown mH (0 : Int32)) (mK := mK) 721 N (List.range n) ls 0 mR mW mS mD mN mO1 hv List.length_range (fun o ho => by rw [List.mem_range] at ho; omega) r1 (by omega)
    rw [Nat.zero_add, smf_perm _ hp] at e2
    refine ⟨_, gR', gS', mR', mW', mS', mD', mN', mO', e1, ?_⟩
    have o2' : X8_sum_b18 N mG N (tmH.s_thrown mH (0 : Int32)) mR mW mS mK mD mN mO (0 : Int32) = _ := o2
    have e2' : X8_sum_b41 N mG N (tmH.s_thrown mH (0 : Int32)) mR mW mS mK mD mN mO1 (0 : Int32) (1 : Int32) = _ := e2
    rw [X8_sum, g6, if_pos (by rw [show (6 : Int32) = iI ((6 : Nat) : Int) from rfl, iI_le_n (by omega) (by omega)]; omega), o2', X8_sum_b37, e2']
  · refine ⟨(-1 : Int32), gR, gS, mR, mW, mS, mD, mN, mO, ?_, ?_⟩
    · rw [X7_sum, g5, if_neg (by rw [show (6 : Int32) = iI ((6 : Nat) : Int) from rfl, iI_le_n (by omega) (by omega)]; omega)]
    · rw [X8_sum, g6, if_neg (by rw [show (6 : Int32) = iI ((6 : Nat) : Int) from rfl, iI_le_n (by omega) (by omega)]; omega)]
