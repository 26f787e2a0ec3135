/-! least: the reference's rooms -/
theorem e_dig1 (N : Nat) {ln : Nat} (hl : ln < 1000) : ∀ (c fu k v : Nat), k + c = ln → v < 10000 → c < fu → X8_digit_b4 N fu (iI ln) (iI v) (iI k) = some (iI ((v / 3 ^ c % 3 : Nat) : Int))
  | 0, fu, k, v, h, hv, hf => by
    obtain ⟨fu, rfl⟩ : ∃ f, fu = f + 1 := ⟨fu - 1, by omega⟩
    rw [X8_digit_b4, if_pos (by rw [iI_le_n (by omega) (by omega)]; omega), X8_digit_b19, show (3 : Int32) = iI ((3 : Nat) : Int) from rfl, zcz_n (by omega) (by omega), iI_div (by omega) (by omega), iI_mul, iI_sub, Nat.pow_zero, Nat.div_one]
    congr 2
    have := Nat.div_add_mod v 3
    have h9 : ((3 * (v / 3) + v % 3 : Nat) : Int) = (v : Int) := by rw [this]
    rw [Int.natCast_add, Int.natCast_mul] at h9
    omega
  | c + 1, fu, k, v, h, hv, hf => by
    obtain ⟨fu, rfl⟩ : ∃ f, fu = f + 1 := ⟨fu - 1, by omega⟩
    have dv : v / 3 ≤ v := Nat.div_le_self _ _
    rw [X8_digit_b4, if_neg (by rw [iI_le_n (by omega) (by omega)]; omega), show (3 : Int32) = iI ((3 : Nat) : Int) from rfl, zcz_n (by omega) (by omega), iI_div (by omega) (by omega), zl, iI_succ, e_dig1 N hl c fu (k + 1) (v / 3) (by omega) (by omega) (by omega), Nat.div_div_eq_div_mul, Nat.pow_succ, Nat.mul_comm 3]
theorem e_digit {N : Nat} (hN : 1000 < N) {r j : Nat} (hr : r < 10000) (hj : j < 24) : X8_digit N (iI r) (iI j) = some (iI (dg r j : Int)) := e_dig1 N (by omega) j N 0 r (by omega) hr (by omega)
def inF (mF : tmF) (p : qP) : Prop := mF.inUp = lI p.a ∧ mF.inLow = lI p.b ∧ mF.inUp2 = lI p.c ∧ mF.inLow2 = lI p.d
theorem clp_none {G : tGe} {c : Nat → Nat} {i m : Nat} (h : clp G c i m = none) : ∀ k, clp G c i (m + k) = none
  | 0 => h
  | k + 1 => by rw [show m + (k + 1) = m + k + 1 from rfl, clp, clp_none h k, Option.bind_none]
theorem m_cut {α : Type} {G : tGe} {mG : tmG} (hG : gok G) (hM : rlG G mG) {i j : Nat} (hi : i < 24) (hj : j < 24) (K : Int64 → Int64 → Option α) :
    zck (iI (i : Int)) 24 (zck (iI (i : Int)) 24 ((X8_side mG (iI j) (((tmG.px mG) (iI (i : Int)).toNatClampNeg).toInt64) (((tmG.py mG) (iI (i : Int)).toNatClampNeg).toInt64)).bind (fun u15 => zl (-u15) (fun x16 => (X8_slope mG (iI j) (iI i)).bind (fun u17 => if (0 : Int32) ≤ lg_cmp u17 (0 : Int64) then K x16 u17 else zl (-x16) (fun x19 => zl (-u17) (fun x20 => K x19 x20))))))) = K (lI (up G j i)) (lI (low G j i)) := by
  have sb := SL_bd hG j i
  rw [zck_n hi (by decide), zck_n hi (by decide), e_msideP hG hM hi hj, Option.bind_some, zl, e_slope hG hM hi hj, Option.bind_some]
  unfold up low
  by_cases h : SL G j i < 0
  · rw [if_neg (by rw [cmp_0le ⟨by omega, by omega⟩]; omega), if_pos h, if_pos h, zl, zl, lI_neg, lI_neg, lI_neg, Int.neg_neg]
  · rw [if_pos (by rw [cmp_0le ⟨by omega, by omega⟩]; omega), if_neg h, if_neg h, lI_neg]
theorem m_isIn {G : tGe} {mG : tmG} (hG : gok G) (hM : rlG G mG) {n i r : Nat} (hn : n ≤ 5) (hs : mG.pieces = iI (n : Int)) (hi : i < n) (hr : r < 10000) {N : Nat} (hN : 1000 < N) : ∀ (c fu j : Nat) (mF : tmF) (p : qP), j + c = n → c < fu → clp G (dg r) i j = some p → inF mF p →
    ∃ mF', X8_isIn_b22 N mG fu mF (iI i) (iI r) (iI j) = some (kpv (clp G (dg r) i n).isSome, mF') ∧ mF'.fewest = mF.fewest ∧ ∀ q, clp G (dg r) i n = some q → inF mF' q
  | 0, fu, j, mF, p, h, hf, hc, hp => by
    obtain ⟨fu, rfl⟩ : ∃ f, fu = f + 1 := ⟨fu - 1, by omega⟩
    obtain rfl : j = n := by omega
    refine ⟨mF, ?_, rfl, fun q hq => by rw [hc] at hq; cases hq; exact hp⟩
    rw [X8_isIn_b22, hs, if_pos (Int32.le_refl _), zcb_1, hc]
    rfl
  | c + 1, fu, j, mF, p, h, hf, hc, hp => by
    obtain ⟨fu, rfl⟩ : ∃ f, fu = f + 1 := ⟨fu - 1, by omega⟩
    have ih := fun mF p => m_isIn hG hM hn hs hi hr hN c fu (j + 1) mF p (by omega) (by omega)
    obtain ⟨p1, p2⟩ := clp_ok hG (dg r) (show i < 24 by omega) j p hc
    have hd3 : dg r j < 3 := Nat.mod_lt _ (by omega)
    have hcs : clp G (dg r) i (j + 1) = if dg r j = 0 then some p else cts G j (bs (dg r j)) p := by rw [clp, hc, Option.bind_some]
    rw [X8_isIn_b22, hs, if_neg (by rw [iI_le_n (by omega) (by omega)]; omega), e_digit hN hr (by omega), Option.bind_some]
    by_cases d0 : dg r j = 0
    · rw [if_pos d0] at hcs
      obtain ⟨m', a1, a2, a3⟩ := ih mF p hcs hp
      refine ⟨m', ?_, a2, a3⟩
      rw [d0, if_pos (by decide), X8_isIn_b193, iI_succ]
      exact a1
    · rw [if_neg d0] at hcs
      have ed := e_does hG hM (show j < 24 by omega) p1
      rw [p2, ← hp.1, ← hp.2.1, ← hp.2.2.1, ← hp.2.2.2] at ed
      rw [if_neg (by rw [c_0, show iI 0 = iI ((0 : Nat) : Int) from rfl, iI_eq_n (by omega) (by omega)]; exact d0), ed, Option.bind_some]
      have hl := how_le G j p
      have no : cts G j (bs (dg r j)) p = none → ∃ mF', zcb (0 : Int32) (some ((0 : Int32), mF)) = some (kpv (clp G (dg r) i n).isSome, mF') ∧ mF'.fewest = mF.fewest ∧ ∀ q, clp G (dg r) i n = some q → inF mF' q := fun hn' => by
        have z := clp_none (hcs.trans hn') c
        rw [show j + 1 + c = n by omega] at z
        refine ⟨mF, ?_, rfl, fun q hq => by rw [z] at hq; cases hq⟩
        rw [zcb_0, z]
        rfl
      have go : cts G j (bs (dg r j)) p = some p → ∃ mF', X8_isIn_b193 N (X8_isIn_b22 N mG fu) mG mF (iI i) (iI r) (iI j) = some (kpv (clp G (dg r) i n).isSome, mF') ∧ mF'.fewest = mF.fewest ∧ ∀ q, clp G (dg r) i n = some q → inF mF' q := fun hy => by
        obtain ⟨m', a1, a2, a3⟩ := ih mF p (hcs.trans hy) hp
        refine ⟨m', ?_, a2, a3⟩
        rw [X8_isIn_b193, iI_succ]
        exact a1
      have lo : cts G j (bs (dg r j)) p = some (p.o, p.a, p.b, up G j p.o, low G j p.o) → ∃ mF', X8_isIn_b193 N (X8_isIn_b22 N mG fu) mG (tmF.s_inLow2 (tmF.s_inUp2 mF (lI (up G j i))) (lI (low G j i))) (iI i) (iI r) (iI j) = some (kpv (clp G (dg r) i n).isSome, mF') ∧ mF'.fewest = mF.fewest ∧ ∀ q, clp G (dg r) i n = some q → inF mF' q := fun hy => by
        rw [p2] at hy
        obtain ⟨m', a1, a2, a3⟩ := ih (tmF.s_inLow2 (tmF.s_inUp2 mF (lI (up G j i))) (lI (low G j i))) _ (hcs.trans hy) ⟨hp.1, hp.2.1, rfl, rfl⟩
        refine ⟨m', ?_, a2, a3⟩
        rw [X8_isIn_b193, iI_succ]
        exact a1
      have hi' : cts G j (bs (dg r j)) p = some (p.o, up G j p.o, low G j p.o, p.c, p.d) → ∃ mF', X8_isIn_b193 N (X8_isIn_b22 N mG fu) mG (tmF.s_inLow (tmF.s_inUp mF (lI (up G j i))) (lI (low G j i))) (iI i) (iI r) (iI j) = some (kpv (clp G (dg r) i n).isSome, mF') ∧ mF'.fewest = mF.fewest ∧ ∀ q, clp G (dg r) i n = some q → inF mF' q := fun hy => by
        rw [p2] at hy
        obtain ⟨m', a1, a2, a3⟩ := ih (tmF.s_inLow (tmF.s_inUp mF (lI (up G j i))) (lI (low G j i))) _ (hcs.trans hy) ⟨rfl, rfl, hp.2.2.1, hp.2.2.2⟩
        refine ⟨m', ?_, a2, a3⟩
        rw [X8_isIn_b193, iI_succ]
        exact a1
      have mc := m_cut (α := Int32 × tmF) hG hM (show i < 24 by omega) (show j < 24 by omega)
      rcases (show dg r j = 1 ∨ dg r j = 2 by omega) with d | d <;> rw [d] at no go lo hi' ⊢ <;> rcases (show how G j p = 0 ∨ how G j p = 1 ∨ how G j p = 2 ∨ how G j p = 3 ∨ how G j p = 4 by omega) with e | e | e | e | e <;> rw [e]
      · rw [if_pos (by decide)]
        exact no (by unfold cts ctf ctb; rw [e]; rfl)
      · rw [if_neg (by decide), if_neg (by decide), if_neg (by decide)]
        exact go (by unfold cts ctf ctb; rw [e]; rfl)
      · rw [if_neg (by decide), if_pos (by decide)]
        exact no (by unfold cts ctf ctb; rw [e]; rfl)
      · rw [if_neg (by decide), if_neg (by decide), if_pos (by decide), mc (X8_isIn_b141 N (X8_isIn_b22 N mG fu) mG mF (iI i) (iI r) (iI j) (iI ((1 : Nat) : Int)) (iI ((3 : Nat) : Int))), X8_isIn_b141, if_pos (by decide), X8_isIn_b152, if_pos (by decide), X8_isIn_b163, if_pos (by decide)]
        exact lo (by unfold cts ctf ctb; rw [e]; rfl)
      · rw [if_neg (by decide), if_neg (by decide), if_pos (by decide), mc (X8_isIn_b141 N (X8_isIn_b22 N mG fu) mG mF (iI i) (iI r) (iI j) (iI ((1 : Nat) : Int)) (iI ((4 : Nat) : Int))), X8_isIn_b141, if_neg (by decide), X8_isIn_b152, if_pos (by decide), X8_isIn_b163, if_neg (by decide)]
        exact hi' (by unfold cts ctf ctb; rw [e]; rfl)
      · rw [if_pos (by decide)]
        exact no (by unfold cts ctf ctb; rw [e]; rfl)
      · rw [if_neg (by decide), if_pos (by decide)]
        exact no (by unfold cts ctf ctb; rw [e]; rfl)
      · rw [if_neg (by decide), if_neg (by decide), if_neg (by decide)]
        exact go (by unfold cts ctf ctb; rw [e]; rfl)
      · rw [if_neg (by decide), if_neg (by decide), if_pos (by decide), mc (X8_isIn_b141 N (X8_isIn_b22 N mG fu) mG mF (iI i) (iI r) (iI j) (iI ((2 : Nat) : Int)) (iI ((3 : Nat) : Int))), X8_isIn_b141, if_pos (by decide), X8_isIn_b152, if_neg (by decide), X8_isIn_b163, if_neg (by decide)]
        exact hi' (by unfold cts ctf ctb; rw [e]; rfl)
      · rw [if_neg (by decide), if_neg (by decide), if_pos (by decide), mc (X8_isIn_b141 N (X8_isIn_b22 N mG fu) mG mF (iI i) (iI r) (iI j) (iI ((2 : Nat) : Int)) (iI ((4 : Nat) : Int))), X8_isIn_b141, if_neg (by decide), X8_isIn_b152, if_neg (by decide), X8_isIn_b163, if_pos (by decide)]
        exact lo (by unfold cts ctf ctb; rw [e]; rfl)
theorem e_isIn {G : tGe} {mG : tmG} (hG : gok G) (hM : rlG G mG) {n i r : Nat} (hn : n ≤ 5) (hs : mG.pieces = iI (n : Int)) (hi : i < n) (hr : r < 10000) {N : Nat} (hN : 1000 < N) (mF : tmF) :
    ∃ mF', X8_isIn N mG mF (iI i) (iI r) = some (kpv (clp G (dg r) i n).isSome, mF') ∧ mF'.fewest = mF.fewest ∧ ∀ q, clp G (dg r) i n = some q → inF mF' q :=
  m_isIn hG hM hn hs hi hr hN n N 0 (tmF.s_inLow2 (tmF.s_inUp2 (tmF.s_inLow (tmF.s_inUp mF (0 : Int64)) (1 : Int64)) (1 : Int64)) (1 : Int64)) (i, 0, 1, 1, 1) (by omega) (by omega) rfl ⟨rfl, rfl, rfl, rfl⟩
section
variable {G : tGe} {mG : tmG} {n r : Nat} {N : Nat} {k41 : tmH → tmF → Int32 → Option (Int32 × tmH × tmF)} {mH : tmH}
theorem m_cnt (hG : gok G) (hM : rlG G mG) (hn : n ≤ 5) (hs : mG.pieces = iI (n : Int)) (hr : r < 10000) (hN : 1000 < N) {k53 : tmH → tmF → Int32 → Int32 → Int32 → Int32 → Option (Int32 × tmH × tmF)} {j : Nat} (hj : j < n) (v3 v4 : Int32) : ∀ (c fu i acc : Nat) (mF : tmF), i + c = n → c < fu →
    ∃ mF', X8_least_b107 N k41 k53 mG fu mH mF (iI r) v3 v4 (iI j) (iI acc) (iI i) = X8_least_b169 N k41 k53 mG mH mF' (iI r) v3 v4 (iI j) (iI ((acc + (onrow G j ((List.range' i c).filterMap (fun i => clp G (dg r) i n))).length : Nat) : Int)) ∧ mF'.fewest = mF.fewest
  | 0, fu, i, acc, mF, h, hf => by
    obtain ⟨fu, rfl⟩ : ∃ f, fu = f + 1 := ⟨fu - 1, by omega⟩
    refine ⟨mF, ?_, rfl⟩
    rw [X8_least_b107, hs, if_pos (by rw [iI_le_n (by omega) (by omega)]; omega)]
    rfl
  | c + 1, fu, i, acc, mF, h, hf => by
    obtain ⟨fu, rfl⟩ : ∃ f, fu = f + 1 := ⟨fu - 1, by omega⟩
    obtain ⟨m1, a1, a2, a3⟩ := e_isIn hG hM hn hs (show i < n by omega) hr hN mF
    rw [X8_least_b107, hs, if_neg (by rw [iI_le_n (by omega) (by omega)]; omega), a1, Option.bind_some, show List.range' i (c + 1) = i :: List.range' (i + 1) c from rfl, List.filterMap_cons]
    cases e : clp G (dg r) i n with
    | none =>
      obtain ⟨m2, b1, b2⟩ := m_cnt hG hM hn hs hr hN (k53 := k53) hj v3 v4 c fu (i + 1) acc m1 (by omega) (by omega)
      refine ⟨m2, ?_, b2.trans a2⟩
      rw [if_pos (by rfl), X8_least_b159, X8_least_b160, zl, iI_succ, show iI (acc : Int) + 0 = iI (acc : Int) by rw [c_0, iI_add, Int.add_zero]]
      exact b1
    | some p =>
      obtain ⟨p1, p2⟩ := clp_ok hG (dg r) (show i < 24 by omega) n p e
      obtain ⟨i1, i2, i3', i4⟩ := a3 p e
      have ed := e_does hG hM (show j < 24 by omega) p1
      rw [p2, ← i1, ← i2, ← i3', ← i4] at ed
      have hl := how_le G j p
      rw [if_neg (by show ¬ (kpv true = 0); decide), ed, Option.bind_some]
      show ∃ mF', _ = X8_least_b169 N k41 k53 mG mH mF' (iI r) v3 v4 (iI j) (iI ((acc + (onrow G j (p :: (List.range' (i + 1) c).filterMap (fun i => clp G (dg r) i n))).length : Nat) : Int)) ∧ _
      rw [onrow_cons]
      by_cases h0 : how G j p = 0
      · obtain ⟨m2, b1, b2⟩ := m_cnt hG hM hn hs hr hN (k53 := k53) hj v3 v4 c fu (i + 1) (acc + 1) m1 (by omega) (by omega)
        refine ⟨m2, ?_, b2.trans a2⟩
        rw [if_pos (by rw [h0]; rfl), if_pos h0, X8_least_b160, zl, iI_succ, iI_succ, List.length_cons]
        refine b1.trans ?_
        rw [show acc + 1 + (onrow G j ((List.range' (i + 1) c).filterMap (fun i => clp G (dg r) i n))).length = acc + ((onrow G j ((List.range' (i + 1) c).filterMap (fun i => clp G (dg r) i n))).length + 1) by omega]
      · obtain ⟨m2, b1, b2⟩ := m_cnt hG hM hn hs hr hN (k53 := k53) hj v3 v4 c fu (i + 1) acc m1 (by omega) (by omega)
        refine ⟨m2, ?_, b2.trans a2⟩
        rw [if_neg (by rw [c_0, show iI 0 = iI ((0 : Nat) : Int) from rfl, iI_eq_n (by omega) (by omega)]; exact h0), if_neg h0, X8_least_b159, X8_least_b160, zl, iI_succ, show iI (acc : Int) + 0 = iI (acc : Int) by rw [c_0, iI_add, Int.add_zero]]
        exact b1
def fwN (G : tGe) (n r : Nat) (mF : tmF) : Prop := ∀ k, r < k → k < 3 ^ n → mF.fewest k = iI (fwR G n (dg k) : Int)
theorem m_cand (hG : gok G) (hM : rlG G mG) (hn : n ≤ 5) (hs : mG.pieces = iI (n : Int)) (hr : r < 3 ^ n) (hN : 1000 < N) : ∀ (c fu j b : Nat) (mF : tmF), j + c = n → c < fu → b ≤ 300 → fwN G n r mF →
    ∃ mF', X8_least_b53 N k41 mG fu mH mF (iI r) (iI b) (iI ((3 ^ j : Nat) : Int)) (iI j) = X8_least_b198 N k41 mG mH mF' (iI r) (iI ((bst (((List.range' j c).filterMap (fun i => clp G (dg r) i n)).map (fun p => cnd G n (dg r) p.o)) b : Nat) : Int)) ∧ mF'.fewest = mF.fewest
  | 0, fu, j, b, mF, h, hf, hb, hF => by
    obtain ⟨fu, rfl⟩ : ∃ f, fu = f + 1 := ⟨fu - 1, by omega⟩
    refine ⟨mF, ?_, rfl⟩
    rw [X8_least_b53, hs, if_pos (by rw [iI_le_n (by omega) (by omega)]; omega)]
    rfl
  | c + 1, fu, j, b, mF, h, hf, hb, hF => by
    obtain ⟨fu, rfl⟩ : ∃ f, fu = f + 1 := ⟨fu - 1, by omega⟩
    have p5 : (3 : Nat) ^ n ≤ 3 ^ 5 := Nat.pow_le_pow_right (by omega) hn
    have p3 : iI ((3 ^ j : Nat) : Int) * (3 : Int32) = iI ((3 ^ (j + 1) : Nat) : Int) := by rw [c_3, iI_mul, Nat.pow_succ, Int.natCast_mul]; rfl
    have ih := fun b mF => m_cand hG hM hn hs hr hN c fu (j + 1) b mF (by omega) (by omega)
    rw [X8_least_b53, hs, if_neg (by rw [iI_le_n (by omega) (by omega)]; omega), e_digit hN (show r < 10000 by omega) (show j < 24 by omega), Option.bind_some, show List.range' j (c + 1) = j :: List.range' (j + 1) c from rfl, List.filterMap_cons]
    by_cases d0 : dg r j = 0
    · obtain ⟨m1, a1, a2, a3⟩ := e_isIn hG hM hn hs (show j < n by omega) (show r < 10000 by omega) hN mF
      rw [d0, if_pos (by decide), a1, Option.bind_some]
      have hF1 : fwN G n r m1 := fun k h1 h2 => by rw [a2]; exact hF k h1 h2
      cases e : clp G (dg r) j n with
      | none =>
        obtain ⟨m2, b1, b2⟩ := ih b m1 hb hF1
        refine ⟨m2, ?_, b2.trans a2⟩
        rw [if_pos (by rfl), X8_least_b186, zl, p3, iI_succ]
        exact b1
      | some p =>
        obtain ⟨q1, q2⟩ := clp_ok hG (dg r) (show j < 24 by omega) n p e
        have hmem : p ∈ rwC G (dg r) n := List.mem_filterMap.mpr ⟨j, List.mem_range.mpr (by omega), e⟩
        obtain ⟨cl1, cl2⟩ := cnd_le hG (dg r) (show n ≤ 24 by omega) hmem
        obtain ⟨-, -, dl⟩ := dg_set hn hr (show j < n by omega) d0
        have pp : 0 < 3 ^ j := Nat.pow_pos (by omega)
        have cd := cnd_dg (G := G) hn hr (show j < n by omega) d0
        rw [q2] at cl1 cl2
        obtain ⟨m2, b1, b2⟩ := m_cnt (k41 := k41) (mH := mH) hG hM hn hs (show r < 10000 by omega) hN (k53 := X8_least_b53 N k41 mG fu) (show j < n by omega) (iI b) (iI ((3 ^ j : Nat) : Int)) n N 0 (fwR G n (dg (r + 3 ^ j)) + fwR G n (dg (r + 2 * 3 ^ j))) m1 (by omega) (by omega)
        rw [← List.range_eq_range', show (List.range n).filterMap (fun i => clp G (dg r) i n) = rwC G (dg r) n from rfl, ← cd] at b1
        have b300 : (if b = 0 ∨ cnd G n (dg r) j < b then cnd G n (dg r) j else b) ≤ 300 := by split <;> omega
        obtain ⟨m3, c1, c2⟩ := ih (if b = 0 ∨ cnd G n (dg r) j < b then cnd G n (dg r) j else b) m2 b300 (fun k h1 h2 => by rw [b2]; exact hF1 k h1 h2)
        refine ⟨m3, ?_, (c2.trans b2).trans a2⟩
        have e1 : iI (r : Int) + iI ((3 ^ j : Nat) : Int) = iI ((r + 3 ^ j : Nat) : Int) := by rw [iI_add, Int.natCast_add]
        have e2 : iI (r : Int) + (2 : Int32) * iI ((3 ^ j : Nat) : Int) = iI ((r + 2 * 3 ^ j : Nat) : Int) := by rw [c_2, iI_mul, iI_add, Int.natCast_add, Int.natCast_mul]; rfl
        rw [if_neg (by show ¬ (kpv true = 0); decide), e1, e2, zck_n (by omega) (by decide), zck_n (by omega) (by decide), zl, cl_n (by omega), cl_n (by omega), hF1 _ (by omega) (by omega), hF1 _ (by omega) dl, iI_add, ← Int.natCast_add]
        refine b1.trans ?_
        rw [List.map_cons, q2, bst]
        have fin : X8_least_b169 N k41 (X8_least_b53 N k41 mG fu) mG mH m2 (iI r) (iI b) (iI ((3 ^ j : Nat) : Int)) (iI j) (iI ((cnd G n (dg r) j : Nat) : Int)) = X8_least_b53 N k41 mG fu mH m2 (iI r) (iI ((if b = 0 ∨ cnd G n (dg r) j < b then cnd G n (dg r) j else b : Nat) : Int)) (iI ((3 ^ (j + 1) : Nat) : Int)) (iI ((j + 1 : Nat) : Int)) := by
          rw [X8_least_b169]
          by_cases z : b = 0
          · rw [if_pos (by rw [z]; rfl), if_pos (Or.inl z), X8_least_b179, X8_least_b185, X8_least_b186, zl, p3, iI_succ]
          · rw [if_neg (by rw [c_0, show iI 0 = iI ((0 : Nat) : Int) from rfl, iI_eq_n (by omega) (by omega)]; exact z)]
            by_cases y : b ≤ cnd G n (dg r) j
            · rw [if_pos (by rw [iI_le_n (by omega) (by omega)]; exact y), if_neg (by omega), X8_least_b185, X8_least_b186, zl, p3, iI_succ]
            · rw [if_neg (by rw [iI_le_n (by omega) (by omega)]; exact y), if_pos (by omega), X8_least_b179, X8_least_b185, X8_least_b186, zl, p3, iI_succ]
        exact fin.trans c1
    · have hno : clp G (dg r) j n = none := by
        cases e : clp G (dg r) j n with
        | none => rfl
        | some p => exact (d0 (clp_free hG (dg r) (by omega) (by omega) e)).elim
      have hd3 : dg r j < 3 := Nat.mod_lt _ (by omega)
      obtain ⟨m2, b1, b2⟩ := ih b mF hb hF
      refine ⟨m2, ?_, b2⟩
      rw [if_neg (by rw [c_0, show iI 0 = iI ((0 : Nat) : Int) from rfl, iI_eq_n (by omega) (by omega)]; exact d0), X8_least_b186, zl, p3, iI_succ, hno]
      exact b1
theorem m_rooms (hG : gok G) (hM : rlG G mG) (hn : n ≤ 5) (hs : mG.pieces = iI (n : Int)) (hN : 1000 < N) : ∀ (c fu : Nat) (mF : tmF), c ≤ 3 ^ n → c < fu → (∀ k, c ≤ k → k < 3 ^ n → mF.fewest k = iI (fwR G n (dg k) : Int)) →
    ∃ mF', X8_least_b41 N mG fu mH mF (iI ((c : Int) - 1)) = some (iI (fwR G n (dg 0) : Int), mH, mF')
  | 0, fu, mF, h, hf, hF => by
    obtain ⟨fu, rfl⟩ : ∃ f, fu = f + 1 := ⟨fu - 1, by omega⟩
    refine ⟨mF, ?_⟩
    have f0 := hF 0 (by omega) (Nat.pow_pos (by omega))
    rw [X8_least_b41, if_pos (m_lt0 (by omega) (by omega)), X8_least_b211, show (0 : Int32) = iI ((0 : Nat) : Int) from rfl, zck_n (by omega) (by decide), cl_n (by omega), f0]
  | c + 1, fu, mF, h, hf, hF => by
    obtain ⟨fu, rfl⟩ : ∃ f, fu = f + 1 := ⟨fu - 1, by omega⟩
    have p5 : (3 : Nat) ^ n ≤ 3 ^ 5 := Nat.pow_le_pow_right (by omega) hn
    obtain ⟨m1, a1, a2⟩ := m_cand (k41 := X8_least_b41 N mG fu) (mH := mH) hG hM hn hs (show c < 3 ^ n by omega) hN n N 0 0 mF (by omega) (by omega) (by omega) (fun k h1 h2 => hF k (by omega) h2)
    rw [← List.range_eq_range', show (List.range n).filterMap (fun i => clp G (dg c) i n) = rwC G (dg c) n from rfl, ← fwR_bst hG (dg c) (show n ≤ 24 by omega)] at a1
    obtain ⟨m2, b1⟩ := m_rooms hG hM hn hs hN c fu (tmF.s_fewest m1 (upd (tmF.fewest m1) c (iI (fwR G n (dg c) : Int)))) (by omega) (by omega) (fun k h1 h2 => by
      show upd (tmF.fewest m1) c (iI (fwR G n (dg c) : Int)) k = _
      by_cases e : k = c
      · rw [e, upd_eq]
      · rw [upd_ne e, a2]; exact hF k (by omega) h2)
    refine ⟨m2, ?_⟩
    rw [X8_least_b41, show (((c + 1 : Nat) : Int) - 1) = (c : Int) by omega, if_neg (n_nlt0 (by omega))]
    refine (show _ = _ from a1).trans ?_
    rw [X8_least_b198, zck_n (by omega) (by decide), cl_n (by omega), c_m1, iI_add]
    exact b1
theorem m_pow (hs : mG.pieces = iI (n : Int)) (hn : n ≤ 5) {mF : tmF} : ∀ (c fu k : Nat), k + c = n → c < fu → X8_least_b19 N mG fu mH mF (iI ((3 ^ k : Nat) : Int)) (iI k) = X8_least_b37 N mG mH mF (iI ((3 ^ n : Nat) : Int))
  | 0, fu, k, h, hf => by
    obtain ⟨fu, rfl⟩ : ∃ f, fu = f + 1 := ⟨fu - 1, by omega⟩
    rw [X8_least_b19, hs, if_pos (by rw [iI_le_n (by omega) (by omega)]; omega), show k = n by omega]
  | c + 1, fu, k, h, hf => by
    obtain ⟨fu, rfl⟩ : ∃ f, fu = f + 1 := ⟨fu - 1, by omega⟩
    rw [X8_least_b19, hs, if_neg (by rw [iI_le_n (by omega) (by omega)]; omega), zl, iI_succ, show iI ((3 ^ k : Nat) : Int) * (3 : Int32) = iI ((3 ^ (k + 1) : Nat) : Int) by rw [c_3, iI_mul, Nat.pow_succ, Int.natCast_mul]; rfl]
    exact m_pow hs hn c fu (k + 1) (by omega) (by omega)
end
theorem op_least {N : Nat} (hN : 1000 < N) {gP : tPi} {gR gQ : tPa} {gT : tTr} {gE : tTe} {gM : tMe} {mG : tmG} {mH : tmH} {mK : tmK} {mB : tmB} {mM : tmM} {mF : tmF} (h : zI gP gQ gT gE gM mG mK mB mM) :
    ∃ r gR' mF', X7_least N gP gR = some (r, gR') ∧ X8_least N mG mH mF = some (r, tmH.s_thrown mH 0, mF') := by
  obtain ⟨⟨G, n, g1, g2, g3, g4, g5, g6, g7⟩, -, -, -⟩ := id h
  by_cases hn : n ≤ 5
  · have p5 : (3 : Nat) ^ n ≤ 3 ^ 5 := Nat.pow_le_pow_right (by omega) hn
    have wl : (whl n).length = n := by unfold whl; rw [List.length_map, List.length_range]
    have wo : ∀ p ∈ whl n, pok p := by rw [← whs_range]; exact whs_ok (fun o ho => by rw [List.mem_range] at ho; omega)
    have m6 : (whl n).length * ((whl n).length - 1) ≤ 6 * 6 := Nat.mul_le_mul (by omega) (by omega)
    have es := e_start (gR := gR) g4 g5 (show 24 < N by omega)
    have sz := pshs_size (whl n) (tPa.s_size gR 0) 0 rfl
    obtain ⟨g', b1, -, -⟩ := e_few hN g1 g2 true 7 7 (whl n) 0 wo (by omega) (by omega) (by omega) (pshs (tPa.s_size gR 0) 0 (whl n)) 0 (rpR.pshs _ _ _) sz (by omega)
    obtain ⟨m1, a1⟩ := m_rooms (mH := tmH.s_thrown mH (0 : Int32)) g1 g3 hn g6 hN (3 ^ n) N mF (Nat.le_refl _) (by omega) (fun k h1 h2 => by omega)
    have mp := m_pow (N := N) (mH := tmH.s_thrown mH (0 : Int32)) (mF := mF) g6 hn n N 0 (by omega) (by omega)
    refine ⟨iI (fwv G true 7 (whl n) : Int), g', m1, ?_, ?_⟩
    · rw [X7_least, g5, if_pos (by rw [show (5 : Int32) = iI ((5 : Nat) : Int) from rfl, iI_le_n (by omega) (by omega)]; exact hn), X4_fewestOfAllTrees, es, Option.bind_some, sz]
      have b1' : X4_fewest N 7 gP (pshs (tPa.s_size gR 0) 0 (whl n)) (0 : Int32) (iI ((0 + (whl n).length : Nat) : Int)) (0 : Int32) (0 : Int32) = some (iI (fwv G true 7 (whl n) : Int), g') := b1
      rw [b1', Option.bind_some, Option.bind_some]
    · have mp' : X8_least_b19 N mG N (tmH.s_thrown mH (0 : Int32)) mF (1 : Int32) (0 : Int32) = X8_least_b37 N mG (tmH.s_thrown mH (0 : Int32)) mF (iI ((3 ^ n : Nat) : Int)) := mp
      rw [X8_least, g6, if_pos (by rw [show (5 : Int32) = iI ((5 : Nat) : Int) from rfl, iI_le_n (by omega) (by omega)]; exact hn), mp', X8_least_b37, zl, c_1, iI_sub, a1]
      unfold fwR
      rw [rwC_0, fwv_fuel true (n + 1) 7 (whl n) (by omega) (by omega)]
  · refine ⟨(-1 : Int32), gR, mF, ?_, ?_⟩
    · rw [X7_least, g5, if_neg (by rw [show (5 : Int32) = iI ((5 : Nat) : Int) from rfl, iI_le_n (by omega) (by omega)]; exact hn)]
    · rw [X8_least, g6, if_neg (by rw [show (5 : Int32) = iI ((5 : Nat) : Int) from rfl, iI_le_n (by omega) (by omega)]; exact hn)]
