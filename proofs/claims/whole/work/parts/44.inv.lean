/-! The two states, tied: pieces, tree, what was told, what was met -/
def geo (G : tGe) (n : Nat) (gP : tPi) (mG : tmG) : Prop := gok G ∧ rlP G gP ∧ rlG G mG ∧ n ≤ 24 ∧ gP.size = iI (n : Int) ∧ mG.pieces = iI (n : Int) ∧ (∀ i, i < n → ¬ (G.U i = 0 ∧ G.V i = 0))
def tre (gQ : tPa) (gT : tTr) (mK : tmK) (st : Bool) (Ks : List kn) (Ps : List (qP × Nat)) (L : Nat) (tp : Int) : Prop :=
  (gT.stands = kpv st ∧ mK.isTree = kpv st) ∧ (gT.knots = iI (Ks.length : Int) ∧ mK.knots = iI (Ks.length : Int)) ∧ (gT.leaves = iI (L : Int) ∧ mK.leaves = iI (L : Int)) ∧ (gQ.size = iI (Ps.length : Int) ∧ mK.parts = iI (Ps.length : Int)) ∧ (Ks.length ≤ 300 ∧ Ps.length ≤ 300) ∧ (rpK gT 0 Ks ∧ rpMK mK 0 Ks) ∧ (rpR gQ 0 (Ps.map (fun x => x.1)) ∧ rpH gT.home 0 Ps ∧ rpMP mK 0 Ps) ∧ gT.height = iI (mxd Ks 0 : Int) ∧ (∀ x ∈ Ps, pok x.1) ∧ wfK Ks 0 (-1) 0 ∧ (st = true → gT.top = iI tp ∧ mK.top = iI tp ∧ chd Ks 0 25 tp Ps.length) ∧ (st = false → Ks = [] ∧ Ps = [])
def tld (gE : tTe) (mB : tmB) (tl : List Int) : Prop := gE.size = iI (tl.length : Int) ∧ mB.toldMany = iI (tl.length : Int) ∧ tl.length ≤ 300 ∧ ∀ (i : Nat) (x : Int), tl[i]? = some x → gE.row i = iI x ∧ mB.told i = iI x
def mtt (gM : tMe) (mM : tmM) (ml : List (Nat × Int × Int)) : Prop := gM.size = iI (ml.length : Int) ∧ mM.metMany = iI (ml.length : Int) ∧ ml.length ≤ 24 ∧ ∀ (i : Nat) (x : Nat × Int × Int), ml[i]? = some x → (gM.which i = iI (x.1 : Int) ∧ gM.n i = iI x.2.1 ∧ gM.d i = iI x.2.2) ∧ (mM.metPiece i = iI (x.1 : Int) ∧ mM.metUp i = lI x.2.1 ∧ mM.metLow i = lI x.2.2)
def zI (gP : tPi) (gQ : tPa) (gT : tTr) (gE : tTe) (gM : tMe) (mG : tmG) (mK : tmK) (mB : tmB) (mM : tmM) : Prop :=
  (∃ G n, geo G n gP mG) ∧ (∃ st Ks Ps L tp, tre gQ gT mK st Ks Ps L tp) ∧ (∃ tl, tld gE mB tl) ∧ ∃ ml, mtt gM mM ml
theorem ix_of {a : Int32} {n : Nat} (hn : n < 2147483648) (h0 : ¬ a < 0) (h1 : a < iI (n : Int)) : ∃ j : Nat, j < n ∧ a = iI (j : Int) := by
  rw [Int32.lt_iff_toInt_lt, Int32.toInt_zero] at h0
  rw [Int32.lt_iff_toInt_lt, iI_toInt ⟨by omega, by omega⟩] at h1
  refine ⟨a.toInt.toNat, by omega, ?_⟩
  rw [show ((a.toInt.toNat : Nat) : Int) = a.toInt by omega, iI_of]
theorem nle_lt {a b : Int32} : ¬ a ≤ b ↔ b < a := by rw [Int32.le_iff_toInt_le, Int32.lt_iff_toInt_lt]; omega
theorem op_told {gE : tTe} {mB : tmB} {mH : tmH} {tl : List Int} (h : tld gE mB tl) (a : Int32) : ∃ r, X7_told gE a = some r ∧ X8_told mH mB a = some (r, tmH.s_thrown mH 0) := by
  obtain ⟨h1, h2, h3, h4⟩ := h
  rw [X7_told, X8_told, X8_told_b17, h1, h2]
  by_cases c1 : a < 0
  · rw [if_pos c1, if_pos c1]
    exact ⟨_, rfl, rfl⟩
  · rw [if_neg c1, if_neg c1]
    by_cases c2 : a < iI (tl.length : Int)
    · obtain ⟨j, hj, rfl⟩ := ix_of (by omega) c1 c2
      have := h4 j tl[j] (List.getElem?_eq_getElem hj)
      rw [if_neg (nle_lt.mpr c2), if_pos c2, zck_n (by omega) (by decide), zck_n (by omega) (by decide), cl_n (by omega), this.1, this.2]
      exact ⟨_, rfl, rfl⟩
    · rw [if_pos (Classical.not_not.mp (fun q => c2 (nle_lt.mp q))), if_neg c2]
      exact ⟨_, rfl, rfl⟩
theorem op_met {gM : tMe} {mM : tmM} {mH : tmH} {ml : List (Nat × Int × Int)} (h : mtt gM mM ml) (a b : Int32) : ∃ r, X7_met gM a b = some r ∧ X8_met mH mM a b = some (r, tmH.s_thrown mH 0) := by
  obtain ⟨h1, h2, h3, h4⟩ := h
  rw [X7_met, X8_met, h1, h2]
  by_cases c1 : a < 0
  · rw [if_pos c1, if_pos c1]
    exact ⟨_, rfl, rfl⟩
  · rw [if_neg c1, if_neg c1]
    by_cases c2 : a < iI (ml.length : Int)
    · obtain ⟨j, hj, rfl⟩ := ix_of (by omega) c1 c2
      obtain ⟨⟨r1, r2, r3⟩, r4, r5, r6⟩ := h4 j ml[j] (List.getElem?_eq_getElem hj)
      have j24 : j < 24 := by omega
      rw [if_pos c2, if_pos c2, zck_n j24 (by decide), zck_n j24 (by decide), zck_n j24 (by decide), zck_n j24 (by decide), zck_n j24 (by decide), zck_n j24 (by decide), cl_n (by omega), r1, r2, r3, r4, r5, r6, lI_i, lI_i]
      split
      · exact ⟨_, rfl, rfl⟩
      · split
        · exact ⟨_, rfl, rfl⟩
        · split
          · exact ⟨_, rfl, rfl⟩
          · exact ⟨_, rfl, rfl⟩
    · rw [if_neg c2, if_neg c2]
      exact ⟨_, rfl, rfl⟩
theorem e_fell (gQ : tPa) (gT : tTr) (gE : tTe) : X7_forgetTree gQ gT gE = some (tPa.s_size gQ 0, tTr.s_height (tTr.s_leaves (tTr.s_knots (tTr.s_stands gT 0) 0) 0) 0, tTe.s_size gE 0) := rfl
theorem e_noTree (mK : tmK) (mB : tmB) : X8_noTree mK mB = some (tmK.s_parts (tmK.s_leaves (tmK.s_knots (tmK.s_isTree mK 0) 0) 0) 0, tmB.s_toldMany mB 0) := rfl
theorem tre_none (gQ : tPa) (gT : tTr) (mK : tmK) : tre (tPa.s_size gQ 0) (tTr.s_height (tTr.s_leaves (tTr.s_knots (tTr.s_stands gT 0) 0) 0) 0) (tmK.s_parts (tmK.s_leaves (tmK.s_knots (tmK.s_isTree mK 0) 0) 0) 0) false [] [] 0 0 :=
  ⟨⟨rfl, rfl⟩, ⟨rfl, rfl⟩, ⟨rfl, rfl⟩, ⟨rfl, rfl⟩, ⟨by simp, by simp⟩, ⟨fun i x h => nil_get h, fun i x h => nil_get h⟩, ⟨fun i x h => nil_get h, fun i x h => nil_get h, fun i x h => nil_get h⟩, rfl, fun x h => (by cases h), fun i x h => nil_get h, fun h => (by cases h), fun _ => ⟨rfl, rfl⟩⟩
theorem tld_none (gE : tTe) (mB : tmB) : tld (tTe.s_size gE 0) (tmB.s_toldMany mB 0) [] := ⟨rfl, rfl, by simp, fun i x h => nil_get h⟩
theorem op_drop {gP : tPi} {gQ : tPa} {gT : tTr} {gE : tTe} {gM : tMe} {mG : tmG} {mH : tmH} {mK : tmK} {mB : tmB} {mM : tmM} (h : zI gP gQ gT gE gM mG mK mB mM) :
    ∃ r gP' gQ' gT' gE' mG' mK' mB', X7_drop gP gQ gT gE = some (r, gP', gQ', gT', gE') ∧ X8_drop mG mH mK mB = some (r, mG', tmH.s_thrown mH 0, mK', mB') ∧ zI gP' gQ' gT' gE' gM mG' mK' mB' mM := by
  obtain ⟨⟨G, n, g1, g2, g3, g4, g5, g6, g7⟩, h2, h3, h4⟩ := id h
  rw [X7_drop, X8_drop, g5, g6, e_fell, e_noTree]
  by_cases c : n = 0
  · have c1 : ¬ (0 : Int32) < iI (n : Int) := by rw [c_0, show iI 0 = iI ((0 : Nat) : Int) from rfl, iI_lt_n (by omega) (by omega)]; omega
    have c2 : iI (n : Int) = (0 : Int32) := by rw [c]; rfl
    rw [if_neg c1, if_pos c2]
    exact ⟨_, _, _, _, _, _, _, _, rfl, rfl, h⟩
  · have c1 : (0 : Int32) < iI (n : Int) := by rw [c_0, show iI 0 = iI ((0 : Nat) : Int) from rfl, iI_lt_n (by omega) (by omega)]; omega
    have c2 : ¬ iI (n : Int) = (0 : Int32) := by rw [c_0, show iI 0 = iI ((0 : Nat) : Int) from rfl, iI_eq_n (by omega) (by omega)]; omega
    have e1 : iI (n : Int) - (1 : Int32) = iI ((n - 1 : Nat) : Int) := by rw [c_1, iI_sub]; congr 1; omega
    rw [if_pos c1, if_neg c2, e1, Option.bind_some, Option.bind_some]
    refine ⟨_, _, _, _, _, _, _, _, rfl, rfl, ⟨G, n - 1, g1, g2, g3, by omega, rfl, rfl, fun i hi => g7 i (by omega)⟩, ⟨_, _, _, _, _, tre_none gQ gT mK⟩, ⟨_, tld_none gE mB⟩, h4⟩
def inb (x : Int) : Prop := -1000 ≤ x ∧ x ≤ 1000
theorem e_place {x y : Int} (hx : i3 x) (hy : i3 y) : (inb x ∧ inb y ∧ X8_isPlace (iI x) (iI y) = some 1 ∧ X7_isBeyond (iI x) (iI y) = some 0) ∨ (¬ (inb x ∧ inb y) ∧ X8_isPlace (iI x) (iI y) = some 0 ∧ X7_isBeyond (iI x) (iI y) = some 1) := by
  have m : i3 (-1000) := by unfold i3; omega
  have p : i3 1000 := by unfold i3; omega
  rw [X8_isPlace, X7_isBeyond, X7_isBeyond_b28, show (-1000 : Int32) = iI (-1000) from rfl, show (1000 : Int32) = iI 1000 from rfl]
  simp only [iI_lt hx m, iI_lt p hx, iI_lt hy m, iI_lt p hy, iI_le hy p, zcb_0, zcb_1]
  unfold inb
  by_cases a : x < -1000
  · right
    rw [if_pos a, if_pos a]
    exact ⟨by omega, rfl, rfl⟩
  · rw [if_neg a, if_neg a]
    by_cases b : 1000 < x
    · right
      rw [if_pos b, if_pos b]
      exact ⟨by omega, rfl, rfl⟩
    · rw [if_neg b, if_neg b]
      by_cases c : y < -1000
      · right
        rw [if_pos c, if_pos c]
        exact ⟨by omega, rfl, rfl⟩
      · rw [if_neg c, if_neg c]
        by_cases d : 1000 < y
        · right
          rw [if_pos d, if_neg (by omega)]
          exact ⟨by omega, rfl, rfl⟩
        · left
          rw [if_neg d, if_pos (by omega)]
          exact ⟨by omega, by omega, rfl, rfl⟩
