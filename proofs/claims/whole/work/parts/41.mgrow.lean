/-! The reference grows the same tree -/
theorem m_push1 {mG : tmG} {mO : tmO} {mS : tmS} {mW : tmW} {mK : tmK} {mD : tmD} {mN : tmN} (N : Nat) (k57 : tmR → tmW → tmS → tmK → tmD → tmN → Int32 → Int32 → Option (tmR × tmW × tmS × tmK × tmD × tmN)) (v1 v2 v5 v7 : Int32) : ∀ (t : List qP) (fu k n : Nat) (mR : tmR), rpS mS (700 + k) t → k + t.length ≤ 700 → mR.rMany = iI (n : Int) → n + t.length ≤ 700 → t.length < fu →
    X8_grow_b613 N k57 mG mO fu mR mW mS mK mD mN v1 v2 v5 v7 (iI ((k + t.length : Nat) : Int)) (iI k) = X8_grow_b636 N k57 mG mO (pMs mR n t) mW mS mK mD mN v1 v2 v5 v7
  | [], fu, k, n, mR, _, h1, _, h2, hf => by
    obtain ⟨fu, rfl⟩ : ∃ f, fu = f + 1 := ⟨fu - 1, by simp at hf; omega⟩
    simp only [List.length_nil] at *
    rw [X8_grow_b613, if_pos (by rw [iI_le_n (by omega) (by omega)]; omega)]
    rfl
  | p :: t, fu, k, n, mR, hs, h1, hm, h2, hf => by
    obtain ⟨fu, rfl⟩ : ∃ f, fu = f + 1 := ⟨fu - 1, by rw [List.length_cons] at hf; omega⟩
    have hl : (p :: t).length = t.length + 1 := List.length_cons
    rw [X8_grow_b613, if_neg (by rw [iI_le_n (by omega) (by omega)]; omega), show (700 : Int32) + iI (k : Int) = iI ((700 + k : Nat) : Int) by rw [c_700, iI_add]; rfl, e_back hm (by omega) (by omega) hs.head, Option.bind_some, iI_succ, hl, show k + (t.length + 1) = k + 1 + t.length by omega]
    exact m_push1 N k57 v1 v2 v5 v7 t fu (k + 1) (n + 1) _ hs.tail (by omega) rfl (by omega) (by omega)
theorem m_push2 {mG : tmG} {mO : tmO} {mS : tmS} {mW : tmW} {mK : tmK} {mD : tmD} {mN : tmN} (N : Nat) (k57 : tmR → tmW → tmS → tmK → tmD → tmN → Int32 → Int32 → Option (tmR × tmW × tmS × tmK × tmD × tmN)) (v1 v2 : Int32) : ∀ (t : List qP) (fu k n : Nat) (mR : tmR), rpS mS k t → k + t.length ≤ 700 → mR.rMany = iI (n : Int) → n + t.length ≤ 700 → t.length < fu →
    X8_grow_b646 N k57 mG mO fu mR mW mS mK mD mN v1 v2 (iI ((k + t.length : Nat) : Int)) (iI k) = k57 (pMs mR n t) mW mS mK mD mN v1 v2
  | [], fu, k, n, mR, _, h1, _, h2, hf => by
    obtain ⟨fu, rfl⟩ : ∃ f, fu = f + 1 := ⟨fu - 1, by simp at hf; omega⟩
    simp only [List.length_nil] at *
    rw [X8_grow_b646, if_pos (by rw [iI_le_n (by omega) (by omega)]; omega), X8_grow_b665]
    rfl
  | p :: t, fu, k, n, mR, hs, h1, hm, h2, hf => by
    obtain ⟨fu, rfl⟩ : ∃ f, fu = f + 1 := ⟨fu - 1, by rw [List.length_cons] at hf; omega⟩
    have hl : (p :: t).length = t.length + 1 := List.length_cons
    rw [X8_grow_b646, if_neg (by rw [iI_le_n (by omega) (by omega)]; omega), e_back hm (by omega) (by omega) hs.head, Option.bind_some, iI_succ, hl, show k + (t.length + 1) = k + 1 + t.length by omega]
    exact m_push2 N k57 v1 v2 t fu (k + 1) (n + 1) _ hs.tail (by omega) rfl (by omega) (by omega)
def psW (g : tmW) (w : Nat) (q ab : Int32) (f : Int32) : tmW := (upd g.wFrom w q, upd g.wAbove w ab, upd g.wFront w f, iI ((w + 1 : Nat) : Int))
theorem e_waits {mR : tmR} {mW : tmW} {w : Nat} (hw : mW.waits = iI (w : Int)) (h : w < 700) (ab : Int32) {f : Int32} (hf : f = 0 ∨ f = 1) : X8_waitsNow mR mW ab f = some (psW mW w mR.rMany ab f) := by
  have e : vp_nar .boolean f = f := by rcases hf with rfl | rfl <;> rfl
  simp only [X8_waitsNow, hw, zck_n (n := 700) h (by decide), cl_n (show w < 2147483648 by omega), iI_succ, e]
  rfl
theorem m_push {mG : tmG} {mO : tmO} {mS : tmS} {mW : tmW} {mK : tmK} {mD : tmD} {mN : tmN} (N : Nat) (k57 : tmR → tmW → tmS → tmK → tmD → tmN → Int32 → Int32 → Option (tmR × tmW × tmS × tmK × tmD × tmN)) (v1 v2 v5 : Int32) {q w : Nat} {mR : tmR} {Fr Br : List qP} (hF : rpS mS 0 Fr) (hB : rpS mS 700 Br) (hw : mW.waits = iI (w : Int)) (hw7 : w + 2 ≤ 700) (hq : q + Br.length + Fr.length ≤ 700) (hN : Fr.length < N ∧ Br.length < N) :
    X8_grow_b598 N k57 mG mO mR mW mS mK mD mN v1 v2 (iI q) v5 (iI (Fr.length : Int)) (iI (Br.length : Int)) = k57 (pMs (pMs (tmR.s_rMany mR (iI q)) q Br) (q + Br.length) Fr) (psW (psW mW w (iI q) v5 0) (w + 1) (iI ((q + Br.length : Nat) : Int)) v5 1) mS mK mD mN v1 v2 := by
  have a := m_push1 (mG := mG) (mO := mO) (mS := mS) (mW := psW mW w (iI q) v5 0) (mK := mK) (mD := mD) (mN := mN) N k57 v1 v2 v5 (iI (Fr.length : Int)) Br N 0 q (tmR.s_rMany mR (iI q)) hB (by omega) rfl (by omega) (by omega)
  have b := m_push2 (mG := mG) (mO := mO) (mS := mS) (mW := psW (psW mW w (iI q) v5 0) (w + 1) (iI ((q + Br.length : Nat) : Int)) v5 1) (mK := mK) (mD := mD) (mN := mN) N k57 v1 v2 Fr N 0 (q + Br.length) (pMs (tmR.s_rMany mR (iI q)) q Br) hF (by omega) (pMs_many _ _ _ rfl) (by omega) (by omega)
  rw [Nat.zero_add] at a b
  rw [X8_grow_b598, e_waits hw (by omega) v5 (Or.inl rfl), Option.bind_some, show (0 : Int32) = iI ((0 : Nat) : Int) from rfl] at *
  rw [show tmR.rMany (tmR.s_rMany mR (iI q)) = iI q from rfl, a, X8_grow_b636, e_waits (w := w + 1) rfl (by omega) v5 (Or.inr rfl), Option.bind_some, pMs_many Br (tmR.s_rMany mR (iI q)) q rfl]
  exact b
/-- the pointer to a tree from above -/
def stp (g : tmK) (ab : Int) (fl : Bool) (c : Int32) : tmK := if ab < 0 then tmK.s_top g c else if fl then tmK.s_kFront g (upd g.kFront ab.toNat c) else tmK.s_kBack g (upd g.kBack ab.toNat c)
def kpv (kp : Bool) : Int32 := if kp then 1 else 0
theorem m_ptr {mG : tmG} {mO : tmO} {mR : tmR} {mS : tmS} {mW : tmW} {mK : tmK} {mD : tmD} {mN : tmN} (N : Nat) (k57 : tmR → tmW → tmS → tmK → tmD → tmN → Int32 → Int32 → Option (tmR × tmW × tmS × tmK × tmD × tmN)) (v1 v3 v5 : Int32) {w : Nat} {ab : Int} {fl : Bool} (kp : Bool) (hw : mW.waits = iI (w : Int)) (hw7 : w < 700) (hab : -1 ≤ ab ∧ ab < 700) (hfl : mW.wFront w = kpv fl) :
    X8_grow_b152 N k57 mG mO mR mW mS mK mD mN v1 (kpv kp) v3 (iI ab) v5 = X8_grow_b216 N k57 mG mO mR mW mS (if kp then stp mK ab fl v5 else mK) mD mN v1 (kpv kp) v3 (iI ab) v5 := by
  have f0 : kpv false = (0 : Int32) := rfl
  cases kp with
  | false =>
    rw [X8_grow_b152, if_pos f0, X8_grow_b185, if_pos f0, X8_grow_b206, if_pos f0]
    rfl
  | true =>
    have n0 : ¬ kpv true = (0 : Int32) := by decide
    rw [X8_grow_b152, if_neg n0, if_pos rfl]
    unfold stp
    by_cases h : ab < 0
    · have hl : iI ab < (0 : Int32) := by rw [c_0, iI_lt (by unfold i3; omega) (by unfold i3; omega)]; exact h
      rw [if_pos hl, if_pos h, X8_grow_b185, if_neg n0, if_pos hl, X8_grow_b206, if_neg n0]
    · have hl : ¬ iI ab < (0 : Int32) := by rw [c_0, iI_lt (by unfold i3; omega) (by unfold i3; omega)]; exact h
      have za : ∀ {α : Type} (k : Option α), zck (iI ab) 700 k = k := fun k => zck_i (by omega) (by omega) (by decide)
      have ca : (iI ab).toNatClampNeg = ab.toNat := iI_cl (by unfold i3; omega)
      rw [if_neg hl, if_neg h, hw, zck_n hw7 (by decide), cl_n (by omega), hfl]
      cases fl with
      | false => rw [if_pos f0, X8_grow_b185, if_neg n0, if_neg hl, za, ca]; rfl
      | true => rw [if_neg (by decide), za, ca]; rfl
def rpMK (g : tmK) (q : Nat) (l : List kn) : Prop := ∀ (i : Nat) (x : kn), l[i]? = some x → g.kPiece (q + i) = iI (x.line : Int) ∧ g.kMany (q + i) = iI (x.held : Int) ∧ g.kFirst (q + i) = iI (x.first : Int) ∧ g.kFront (q + i) = iI x.front ∧ g.kBack (q + i) = iI x.back ∧ g.kAbove (q + i) = iI x.above
def rpMP (g : tmK) (q : Nat) (l : List (qP × Nat)) : Prop := ∀ (i : Nat) (x : qP × Nat), l[i]? = some x → g.pPiece (q + i) = iI (x.1.o : Int) ∧ g.pKnot (q + i) = iI (x.2 : Int) ∧ g.pUp (q + i) = lI x.1.a ∧ g.pLow (q + i) = lI x.1.b ∧ g.pUp2 (q + i) = lI x.1.c ∧ g.pLow2 (q + i) = lI x.1.d
def smMP (g g' : tmK) (n : Nat) : Prop := ∀ i, i < n → g'.pPiece i = g.pPiece i ∧ g'.pKnot i = g.pKnot i ∧ g'.pUp i = g.pUp i ∧ g'.pLow i = g.pLow i ∧ g'.pUp2 i = g.pUp2 i ∧ g'.pLow2 i = g.pLow2 i
theorem smMP.trans {g g' g'' : tmK} {n n' : Nat} (h : smMP g g' n) (h' : smMP g' g'' n') (hn : n ≤ n') : smMP g g'' n := by
  intro k hk
  obtain ⟨a1, a2, a3, a4, a5, a6⟩ := h k hk
  obtain ⟨b1, b2, b3, b4, b5, b6⟩ := h' k (by omega)
  exact ⟨b1.trans a1, b2.trans a2, b3.trans a3, b4.trans a4, b5.trans a5, b6.trans a6⟩
theorem rpMP.keep {g g' : tmK} {q n : Nat} {l : List (qP × Nat)} (h : rpMP g q l) (hs : smMP g g' n) (hl : q + l.length ≤ n) : rpMP g' q l := by
  intro i x hi
  have hi' : i < l.length := (List.getElem?_eq_some_iff.mp hi).1
  obtain ⟨a1, a2, a3, a4, a5, a6⟩ := h i x hi
  obtain ⟨b1, b2, b3, b4, b5, b6⟩ := hs (q + i) (by omega)
  exact ⟨b1.trans a1, b2.trans a2, b3.trans a3, b4.trans a4, b5.trans a5, b6.trans a6⟩
theorem rpMP.app {g : tmK} {q : Nat} {l1 l2 : List (qP × Nat)} (h1 : rpMP g q l1) (h2 : rpMP g (q + l1.length) l2) : rpMP g q (l1 ++ l2) := by
  intro i x h
  rcases get_app h with h' | ⟨m, rfl, h'⟩
  · exact h1 i x h'
  · rw [← Nat.add_assoc]; exact h2 m x h'
theorem rpMK.app {g : tmK} {q : Nat} {l1 l2 : List kn} (h1 : rpMK g q l1) (h2 : rpMK g (q + l1.length) l2) : rpMK g q (l1 ++ l2) := by
  intro i x h
  rcases get_app h with h' | ⟨m, rfl, h'⟩
  · exact h1 i x h'
  · rw [← Nat.add_assoc]; exact h2 m x h'
/-- what keeping a knot's parts does -/
theorem keps_is : ∀ (r : List qP) (g : tmK) (m own c : Nat), g.parts = iI (m : Int) → g.kMany own = iI (c : Int) →
    (keps g m own c r).isTree = g.isTree ∧ (keps g m own c r).knots = g.knots ∧ (keps g m own c r).leaves = g.leaves ∧ (keps g m own c r).top = g.top ∧ (keps g m own c r).kPiece = g.kPiece ∧ (keps g m own c r).kFirst = g.kFirst ∧ (keps g m own c r).kFront = g.kFront ∧ (keps g m own c r).kBack = g.kBack ∧ (keps g m own c r).kAbove = g.kAbove ∧ (keps g m own c r).parts = iI ((m + r.length : Nat) : Int) ∧ (keps g m own c r).kMany own = iI ((c + r.length : Nat) : Int) ∧ (∀ i, i ≠ own → (keps g m own c r).kMany i = g.kMany i) ∧ smMP g (keps g m own c r) m ∧ rpMP (keps g m own c r) m (r.map (fun q => (q, own)))
  | [], g, m, own, c, h1, h2 => ⟨rfl, rfl, rfl, rfl, rfl, rfl, rfl, rfl, rfl, h1, h2, fun _ _ => rfl, fun _ _ => ⟨rfl, rfl, rfl, rfl, rfl, rfl⟩, fun i x h => nil_get h⟩
  | p :: r, g, m, own, c, h1, h2 => by
    obtain ⟨a1, a2, a3, a4, a5, a6, a7, a8, a9, a10, a11, a12, a13, a14⟩ := keps_is r (kep g m own c p) (m + 1) own (c + 1) rfl upd_eq
    have s0 : smMP g (kep g m own c p) m := fun i hi => ⟨upd_ne (by omega), upd_ne (by omega), updL_ne (by omega), updL_ne (by omega), updL_ne (by omega), updL_ne (by omega)⟩
    refine ⟨a1, a2, a3, a4, a5, a6, a7, a8, a9, ?_, ?_, ?_, s0.trans a13 (by omega), ?_⟩
    · rw [show keps g m own c (p :: r) = keps (kep g m own c p) (m + 1) own (c + 1) r from rfl, a10, List.length_cons, show m + 1 + r.length = m + (r.length + 1) by omega]
    · rw [show keps g m own c (p :: r) = keps (kep g m own c p) (m + 1) own (c + 1) r from rfl, a11, List.length_cons, show c + 1 + r.length = c + (r.length + 1) by omega]
    · intro i hi
      exact (a12 i hi).trans (upd_ne hi)
    · intro i x hi
      cases i with
      | zero =>
        rw [List.map_cons, List.getElem?_cons_zero] at hi
        cases hi
        obtain ⟨b1, b2, b3, b4, b5, b6⟩ := a13 m (by omega)
        exact ⟨b1.trans upd_eq, b2.trans upd_eq, b3.trans updL_eq, b4.trans updL_eq, b5.trans updL_eq, b6.trans updL_eq⟩
      | succ i =>
        rw [List.map_cons, List.getElem?_cons_succ] at hi
        rw [show m + (i + 1) = m + 1 + i by omega]
        exact a14 i x hi
def smW (g g' : tmW) (n : Nat) : Prop := ∀ i, i < n → g'.wFrom i = g.wFrom i ∧ g'.wAbove i = g.wAbove i ∧ g'.wFront i = g.wFront i
theorem smW.trans {g g' g'' : tmW} {n n' : Nat} (h : smW g g' n) (h' : smW g' g'' n') (hn : n ≤ n') : smW g g'' n := by
  intro k hk
  obtain ⟨a1, a2, a3⟩ := h k hk
  obtain ⟨b1, b2, b3⟩ := h' k (by omega)
  exact ⟨b1.trans a1, b2.trans a2, b3.trans a3⟩
/-- the knots below k0 but for the pointer from above -/
def smB (g g' : tmK) (k0 : Nat) (ab : Int) (fl : Bool) (c : Int32) : Prop := ∀ i : Nat, i < k0 → g'.kPiece i = g.kPiece i ∧ g'.kMany i = g.kMany i ∧ g'.kFirst i = g.kFirst i ∧ g'.kAbove i = g.kAbove i ∧ g'.kFront i = (if fl = true ∧ ab = (i : Int) then c else g.kFront i) ∧ g'.kBack i = (if fl = false ∧ ab = (i : Int) then c else g.kBack i)
def mgk (g g' : tmK) (k0 p0 l0 : Nat) (ab : Int) (fl : Bool) (c : Int) (O : gO) : Prop :=
  g'.isTree = g.isTree ∧ g'.knots = iI ((k0 + O.K.length : Nat) : Int) ∧ g'.leaves = iI ((l0 + O.L : Nat) : Int) ∧ g'.parts = iI ((p0 + O.P.length : Nat) : Int) ∧ g'.top = (if ab < 0 then iI c else g.top) ∧ smB g g' k0 ab fl (iI c) ∧ rpMK g' k0 O.K ∧ smMP g g' p0 ∧ rpMP g' p0 O.P
theorem stp_is (g : tmK) {k0 : Nat} {ab : Int} (hab : -1 ≤ ab ∧ ab < (k0 : Int)) (fl : Bool) (c : Int32) : (stp g ab fl c).isTree = g.isTree ∧ (stp g ab fl c).knots = g.knots ∧ (stp g ab fl c).leaves = g.leaves ∧ (stp g ab fl c).parts = g.parts ∧ (stp g ab fl c).top = (if ab < 0 then c else g.top) ∧ smB g (stp g ab fl c) k0 ab fl c ∧ smMP g (stp g ab fl c) 100000 := by
  unfold stp
  by_cases h : ab < 0
  · rw [if_pos h]
    refine ⟨rfl, rfl, rfl, rfl, by rw [if_pos h], ?_, fun _ _ => ⟨rfl, rfl, rfl, rfl, rfl, rfl⟩⟩
    intro i hi
    refine ⟨rfl, rfl, rfl, rfl, ?_, ?_⟩
    · rw [if_neg (by omega)]
    · rw [if_neg (by omega)]
  · rw [if_neg h]
    have hu : ∀ (f : Nat → Int32) (i : Nat), upd f ab.toNat c i = if ab = (i : Int) then c else f i := by
      intro f i
      unfold upd
      by_cases e : ab = (i : Int)
      · rw [if_pos (by omega), if_pos e]
      · rw [if_neg (by omega), if_neg e]
    cases fl with
    | true =>
      rw [if_pos rfl]
      refine ⟨rfl, rfl, rfl, rfl, by rw [if_neg h], ?_, fun _ _ => ⟨rfl, rfl, rfl, rfl, rfl, rfl⟩⟩
      intro i hi
      refine ⟨rfl, rfl, rfl, rfl, ?_, ?_⟩
      · show upd g.kFront ab.toNat c i = _
        rw [hu]
        simp
      · rw [if_neg (by simp)]
    | false =>
      rw [if_neg (by decide)]
      refine ⟨rfl, rfl, rfl, rfl, by rw [if_neg h], ?_, fun _ _ => ⟨rfl, rfl, rfl, rfl, rfl, rfl⟩⟩
      intro i hi
      refine ⟨rfl, rfl, rfl, rfl, ?_, ?_⟩
      · rw [if_neg (by simp)]
      · show upd g.kBack ab.toNat c i = _
        rw [hu]
        simp
