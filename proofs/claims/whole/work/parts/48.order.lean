/-! order -/
def rpI (f : Nat → Int32) (q : Nat) (l : List Int) : Prop := ∀ (i : Nat) (x : Int), l[i]? = some x → f (q + i) = iI x
theorem rpI.nil (f : Nat → Int32) (q : Nat) : rpI f q [] := fun i x h => nil_get h
theorem rpI.app {f : Nat → Int32} {q : Nat} {l l' : List Int} (h : rpI f q l) (h' : rpI f (q + l.length) l') : rpI f q (l ++ l') := by
  intro i x hx
  rcases get_app hx with h1 | ⟨m, rfl, h1⟩
  · exact h i x h1
  · rw [← Nat.add_assoc]; exact h' m x h1
theorem rpI.keep {f f' : Nat → Int32} {q n : Nat} {l : List Int} (h : rpI f q l) (hs : smF f f' n) (hl : q + l.length ≤ n) : rpI f' q l := by
  intro i x hx
  have := get_lt hx
  rw [hs (q + i) (by omega)]
  exact h i x hx
theorem smF.trans' {f f' f'' : Nat → Int32} {n n' : Nat} (h : smF f f' n) (h' : smF f' f'' n') (hn : n ≤ n') : smF f f'' n := fun i hi => by rw [h' i (by omega), h i hi]
def smO (g g' : tmB) (n : Nat) : Prop := ∀ i, i < n → g'.oKnot i = g.oKnot i ∧ g'.oParts i = g.oParts i
theorem smO.trans {g g' g'' : tmB} {n n' : Nat} (h : smO g g' n) (h' : smO g' g'' n') (hn : n ≤ n') : smO g g'' n := fun i hi => by
  rw [(h' i (by omega)).1, (h' i (by omega)).2]; exact h i hi
def hel (x : kn) : List Int := (List.range x.held).map (fun i => ((x.first + i : Nat) : Int))
theorem hel_len (x : kn) : (hel x).length = x.held := by unfold hel; simp
theorem hel_get {x : kn} {i : Nat} {y : Int} (h : (hel x)[i]? = some y) : y = ((x.first + i : Nat) : Int) := by
  have hi := get_lt h
  rw [hel_len] at hi
  unfold hel at h
  rw [List.getElem?_map, List.getElem?_range hi] at h
  exact (Option.some.inj h).symm
theorem e_tellParts {gP : tPi} {gT : tTr} {m fi he : Nat} (hm : m < 300) (hh : gT.held m = iI (he : Int)) (hfi : gT.firstHeld m = iI (fi : Int)) (hb : he ≤ 300) (N : Nat) (rc : tPi → tTr → tTe → Int32 → Int32 → Int32 → Int32 → Option (tTe)) (v2 v3 v4 v5 : Int32) : ∀ (c fu i n : Nat) (gE : tTe), i + c = he → c < fu → gE.size = iI (n : Int) → n + c ≤ 300 →
    ∃ gE', X5_tellNode_b90 N rc gP gT fu gE (iI m) v2 v3 v4 v5 (iI i) = X5_tellNode_b151 N rc gP gT gE' (iI m) v2 v3 v4 v5 ∧ gE'.size = iI ((n + c : Nat) : Int) ∧ smF gE.row gE'.row n ∧ ∀ j, j < c → gE'.row (n + j) = iI ((fi + (i + j) : Nat) : Int)
  | 0, fu, i, n, gE, hi, hf, hs, hn => by
    obtain ⟨fu, rfl⟩ : ∃ f, fu = f + 1 := ⟨fu - 1, by omega⟩
    refine ⟨gE, ?_, hs, fun _ _ => rfl, fun j hj => by omega⟩
    rw [X5_tellNode_b90, zck_n hm (by decide), cl_n (by omega), hh, if_pos (by rw [iI_le_n (by omega) (by omega)]; omega)]
  | c + 1, fu, i, n, gE, hi, hf, hs, hn => by
    obtain ⟨fu, rfl⟩ : ∃ f, fu = f + 1 := ⟨fu - 1, by omega⟩
    obtain ⟨gE', e1, e2, e3, e4⟩ := e_tellParts hm hh hfi hb N rc v2 v3 v4 v5 c fu (i + 1) (n + 1) (tTe.s_size (tTe.s_row gE (upd gE.row n (iI ((fi + i : Nat) : Int)))) (iI ((n + 1 : Nat) : Int))) (by omega) (by omega) rfl (by omega)
    refine ⟨gE', ?_, by rw [e2]; congr 2; omega, ?_, ?_⟩
    · rw [X5_tellNode_b90, zck_n hm (by decide), cl_n (by omega), hh, if_neg (by rw [iI_le_n (by omega) (by omega)]; omega), hs, c_300, show iI 300 = iI ((300 : Nat) : Int) from rfl, if_neg (by rw [iI_le_n (by omega) (by omega)]; omega), zck_n hm (by decide), zck_n (by omega) (by decide), cl_n (by omega), hfi, iI_succ, iI_succ, iI_add]
      exact e1
    · intro j hj
      rw [e3 j (by omega)]
      exact upd_ne (by omega)
    · intro j hj
      by_cases h0 : j = 0
      · subst h0
        rw [Nat.add_zero, e3 n (by omega)]
        exact upd_eq
      · have := e4 (j - 1) (by omega)
        rw [show n + 1 + (j - 1) = n + j by omega] at this
        rw [this]
        congr 2
        omega
theorem m_tellParts {mG : tmG} {mK : tmK} {m fi he : Nat} (hm : m < 700) (hh : mK.kMany m = iI (he : Int)) (hfi : mK.kFirst m = iI (fi : Int)) (hb : he ≤ 300) (N : Nat) (mH : tmH) (v1 v2 v3 : Int32) : ∀ (c i n : Nat) (mB : tmB), i + c = he → mB.toldMany = iI (n : Int) → n + c ≤ 300 →
    ∃ mB', (∀ (k46 : tmH → tmB → Int32 → Int32 → Int32 → Option (Int32 × tmH × tmB)) (fu : Nat), c < fu → X8_order_b81 N k46 mG mK fu mH mB v1 v2 v3 (iI m) (iI i) = k46 mH mB' v1 v2 v3) ∧ mB'.toldMany = iI ((n + c : Nat) : Int) ∧ (mB'.oKnot = mB.oKnot ∧ mB'.oParts = mB.oParts) ∧ smF mB.told mB'.told n ∧ ∀ j, j < c → mB'.told (n + j) = iI ((fi + (i + j) : Nat) : Int)
  | 0, i, n, mB, hi, hs, hn => by
    refine ⟨mB, fun k46 fu hf => ?_, hs, ⟨rfl, rfl⟩, fun _ _ => rfl, fun j hj => by omega⟩
    obtain ⟨fu, rfl⟩ : ∃ f, fu = f + 1 := ⟨fu - 1, by omega⟩
    rw [X8_order_b81, zck_n hm (by decide), cl_n (by omega), hh, if_pos (by rw [iI_le_n (by omega) (by omega)]; omega)]
    rfl
  | c + 1, i, n, mB, hi, hs, hn => by
    obtain ⟨mB', e1, e2, e5, e3, e4⟩ := m_tellParts (mG := mG) hm hh hfi hb N mH v1 v2 v3 c (i + 1) (n + 1) (tmB.s_toldMany (tmB.s_told mB (upd mB.told n (iI ((fi + i : Nat) : Int)))) (iI ((n + 1 : Nat) : Int))) (by omega) rfl (by omega)
    refine ⟨mB', fun k46 fu hf => ?_, by rw [e2]; congr 2; omega, e5, ?_, ?_⟩
    · obtain ⟨fu, rfl⟩ : ∃ f, fu = f + 1 := ⟨fu - 1, by omega⟩
      rw [X8_order_b81, zck_n hm (by decide), cl_n (by omega), hh, if_neg (by rw [iI_le_n (by omega) (by omega)]; omega), hs, zck_n hm (by decide), zck_n (by omega) (by decide), cl_n (by omega), hfi, iI_succ, iI_succ, iI_add]
      exact e1 k46 fu (by omega)
    · intro j hj
      rw [e3 j (by omega)]
      exact upd_ne (by omega)
    · intro j hj
      by_cases h0 : j = 0
      · subst h0
        rw [Nat.add_zero, e3 n (by omega)]
        exact upd_eq
      · have := e4 (j - 1) (by omega)
        rw [show n + 1 + (j - 1) = n + j by omega] at this
        rw [this]
        congr 2
        omega
def tC (gP : tPi) (gT : tTr) (x y : Int) (N rk : Nat) (c : Int) (l : List Int) : Prop := ∀ (d v n : Nat) (gE : tTe), rk ≤ d → rk + v ≤ 25 → gE.size = iI (n : Int) → n + l.length ≤ 300 →
  ∃ gE', X5_tellNode N d gP gT gE (iI c) (iI x) (iI y) (iI v) = some gE' ∧ gE'.size = iI ((n + l.length : Nat) : Int) ∧ smF gE.row gE'.row n ∧ rpI gE'.row n l
def tM (mG : tmG) (mK : tmK) (mH : tmH) (x y : Int) (N rk : Nat) (c : Int) (l : List Int) : Prop := ∃ k, k ≤ 4 ^ rk ∧ ∀ (v n : Nat) (mB : tmB), mB.oKnot v = iI c → mB.oParts v = 0 → v + 2 * rk + 1 ≤ 1400 → mB.toldMany = iI (n : Int) → n + l.length ≤ 300 →
  ∃ mB', (∀ fu, X8_order_b46 N mG mK (fu + k) mH mB (iI x) (iI y) (iI ((v + 1 : Nat) : Int)) = X8_order_b46 N mG mK fu mH mB' (iI x) (iI y) (iI v)) ∧ smO mB mB' v ∧ mB'.toldMany = iI ((n + l.length : Nat) : Int) ∧ smF mB.told mB'.told n ∧ rpI mB'.told n l
