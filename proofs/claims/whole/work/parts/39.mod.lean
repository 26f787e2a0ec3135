/-! The reference: sides, rows -/
theorem i3_s {x : Int} (h : -8000000 ≤ x ∧ x ≤ 8000000) : i3 x := by unfold i3; omega
theorem e_mside {G : tGe} {mG : tmG} (hG : gok G) (hM : rlG G mG) {j : Nat} (hj : j < 24) (x y : Int) : X8_side mG (iI j) (lI x) (lI y) = some (lI (sd G j x y)) := by
  obtain ⟨h1, h2, h3, h4⟩ := hM j
  have b := hG j
  have bu := hG.u j
  have bv := hG.v j
  simp only [X8_side, zck_n (n := 24) hj (by decide), cl_n (show j < 2147483648 by omega), h1, h2, h3, h4]
  rw [iI_l (i3_s (by omega)), iI_l (i3_s (by omega)), iI_l (i3_s (by omega)), iI_l (i3_s (by omega)), lI_sub, lI_sub, lI_mul, lI_mul, lI_sub]
  rfl
theorem e_slope {G : tGe} {mG : tmG} (hG : gok G) (hM : rlG G mG) {i j : Nat} (hi : i < 24) (hj : j < 24) : X8_slope mG (iI j) (iI i) = some (lI (SL G j i)) := by
  obtain ⟨-, -, h3, h4⟩ := hM j
  obtain ⟨-, -, g3, g4⟩ := hM i
  have bu := hG.u j
  have bv := hG.v j
  have cu := hG.u i
  have cv := hG.v i
  simp only [X8_slope, zck_n (n := 24) hj (by decide), zck_n (n := 24) hi (by decide), cl_n (show j < 2147483648 by omega), cl_n (show i < 2147483648 by omega), h3, h4, g3, g4]
  rw [iI_l (i3_s (by omega)), iI_l (i3_s (by omega)), iI_l (i3_s (by omega)), iI_l (i3_s (by omega)), lI_mul, lI_mul, lI_sub]
  rfl
theorem e_msideP {G : tGe} {mG : tmG} (hG : gok G) (hM : rlG G mG) {i j : Nat} (hi : i < 24) (hj : j < 24) : X8_side mG (iI j) (((tmG.px mG) (iI (i : Int)).toNatClampNeg).toInt64) (((tmG.py mG) (iI (i : Int)).toNatClampNeg).toInt64) = some (lI (SD G j i)) := by
  obtain ⟨g1, g2, -, -⟩ := hM i
  have b := hG i
  rw [cl_n (show i < 2147483648 by omega), g1, g2, iI_l (i3_s (by omega)), iI_l (i3_s (by omega)), e_mside hG hM hj]
  rfl
theorem e_sideAt {G : tGe} {mG : tmG} (hG : gok G) (hM : rlG G mG) {i j : Nat} (hi : i < 24) (hj : j < 24) (a b : Int) : X8_sideAt mG (iI j) (iI i) (lI a) (lI b) = some (lI (SD G j i * b + SL G j i * a)) := by
  rw [X8_sideAt, zck_n hi (by decide), zck_n hi (by decide), e_msideP hG hM hi hj, Option.bind_some, e_slope hG hM hi hj, Option.bind_some, lI_mul, lI_mul, lI_add]
theorem e_does {G : tGe} {mG : tmG} (hG : gok G) (hM : rlG G mG) {j : Nat} (hj : j < 24) {p : qP} (hp : pok p) : X8_does mG (iI j) (iI (p.o : Int)) (lI p.a) (lI p.b) (lI p.c) (lI p.d) = some (iI (how G j p : Int)) := by
  have hb := s_bd hG j hp
  have z6 : i6 0 := by unfold i6; omega
  have q1 : i6 (s1 G j p) := by unfold i6; omega
  have q2 : i6 (s2 G j p) := by unfold i6; omega
  rw [X8_does, e_sideAt hG hM hp.1 hj, Option.bind_some, e_sideAt hG hM hp.1 hj, Option.bind_some]
  show (if lg_cmp (lI (s1 G j p)) (0 : Int64) = (0 : Int32) then (if lg_cmp (lI (s2 G j p)) (0 : Int64) = (0 : Int32) then some (0 : Int32) else X8_does_b39 mG (lI (s1 G j p)) (lI (s2 G j p))) else X8_does_b39 mG (lI (s1 G j p)) (lI (s2 G j p))) = _
  rw [X8_does_b39, X8_does_b55, X8_does_b71, cl_0]
  simp only [cmp_eq q1 z6, cmp_eq q2 z6, cmp_lt q1 z6, cmp_lt q2 z6, cmp_gt q1 z6, cmp_gt q2 z6, cmp_le q1 z6]
  unfold how hw
  generalize s1 G j p = s
  generalize s2 G j p = t
  rcases Int.lt_trichotomy s 0 with h | h | h <;> rcases Int.lt_trichotomy t 0 with g | g | g
  · rw [if_neg (by omega), if_pos h, if_neg (by omega), if_neg (by omega), if_neg (by omega), if_neg (by omega), if_pos (by omega)]; rfl
  · rw [if_neg (by omega), if_pos h, if_neg (by omega), if_neg (by omega), if_neg (by omega), if_neg (by omega), if_pos (by omega)]; rfl
  · rw [if_neg (by omega), if_pos h, if_neg (by omega), if_pos g, if_pos (by omega), if_neg (by omega), if_neg (by omega), if_neg (by omega), if_neg (by omega)]; rfl
  · rw [if_pos h, if_neg (by omega), if_neg (by omega), if_pos g, if_neg (by omega), if_neg (by omega), if_neg (by omega), if_neg (by omega), if_pos (by omega)]; rfl
  · rw [if_pos h, if_pos g, if_pos (by omega)]; rfl
  · rw [if_pos h, if_neg (by omega), if_neg (by omega), if_neg (by omega), if_neg (by omega), if_pos (by omega)]; rfl
  · rw [if_neg (by omega), if_neg (by omega), if_pos g, if_pos h, if_neg (by omega), if_neg (by omega), if_neg (by omega), if_neg (by omega), if_pos h]; rfl
  · rw [if_neg (by omega), if_neg (by omega), if_neg (by omega), if_neg (by omega), if_pos (by omega)]; rfl
  · rw [if_neg (by omega), if_neg (by omega), if_neg (by omega), if_neg (by omega), if_pos (by omega)]; rfl
/-- a row of parts lies in the reference's arrays -/
def rpM (g : tmR) (q : Nat) (r : List qP) : Prop := ∀ (k : Nat) (p : qP), r[k]? = some p → g.rPiece (q + k) = iI (p.o : Int) ∧ g.rUp (q + k) = lI p.a ∧ g.rLow (q + k) = lI p.b ∧ g.rUp2 (q + k) = lI p.c ∧ g.rLow2 (q + k) = lI p.d
def rpS (g : tmS) (q : Nat) (r : List qP) : Prop := ∀ (k : Nat) (p : qP), r[k]? = some p → g.sPiece (q + k) = iI (p.o : Int) ∧ g.sUp (q + k) = lI p.a ∧ g.sLow (q + k) = lI p.b ∧ g.sUp2 (q + k) = lI p.c ∧ g.sLow2 (q + k) = lI p.d
def atM (g : tmR) (k : Nat) (p : qP) : Prop := g.rPiece k = iI (p.o : Int) ∧ g.rUp k = lI p.a ∧ g.rLow k = lI p.b ∧ g.rUp2 k = lI p.c ∧ g.rLow2 k = lI p.d
def atS (g : tmS) (k : Nat) (p : qP) : Prop := g.sPiece k = iI (p.o : Int) ∧ g.sUp k = lI p.a ∧ g.sLow k = lI p.b ∧ g.sUp2 k = lI p.c ∧ g.sLow2 k = lI p.d
theorem rpM.head {g : tmR} {q : Nat} {p : qP} {r : List qP} (h : rpM g q (p :: r)) : atM g q p := h 0 p rfl
theorem rpM.tail {g : tmR} {q : Nat} {p : qP} {r : List qP} (h : rpM g q (p :: r)) : rpM g (q + 1) r := by
  intro k p' hk
  have := h (k + 1) p' (by rw [List.getElem?_cons_succ]; exact hk)
  rw [show q + 1 + k = q + (k + 1) by omega]
  exact this
theorem rpS.head {g : tmS} {q : Nat} {p : qP} {r : List qP} (h : rpS g q (p :: r)) : atS g q p := h 0 p rfl
theorem rpS.tail {g : tmS} {q : Nat} {p : qP} {r : List qP} (h : rpS g q (p :: r)) : rpS g (q + 1) r := by
  intro k p' hk
  have := h (k + 1) p' (by rw [List.getElem?_cons_succ]; exact hk)
  rw [show q + 1 + k = q + (k + 1) by omega]
  exact this
theorem e_rowDoes {G : tGe} {mG : tmG} {mR : tmR} (hG : gok G) (hM : rlG G mG) {j k : Nat} (hj : j < 24) (hk : k < 700) {p : qP} (hp : pok p) (h : atM mR k p) : X8_rowDoes mG mR (iI j) (iI k) = some (iI (how G j p : Int)) := by
  obtain ⟨r1, r2, r3, r4, r5⟩ := h
  simp only [X8_rowDoes, zck_n (n := 700) hk (by decide), cl_n (show k < 2147483648 by omega), r1, r2, r3, r4, r5, e_does hG hM hj hp, Option.bind_some]
theorem updL_ne {f : Nat → Int64} {k j : Nat} {x : Int64} (h : j ≠ k) : vp_updL f k x j = f j := by unfold vp_updL; rw [if_neg h]
theorem updL_eq {f : Nat → Int64} {k : Nat} {x : Int64} : vp_updL f k x k = x := by unfold vp_updL; rw [if_pos rfl]
def pM (g : tmR) (n : Nat) (p : qP) : tmR := (upd g.rPiece n (iI (p.o : Int)), vp_updL g.rUp n (lI p.a), vp_updL g.rLow n (lI p.b), vp_updL g.rUp2 n (lI p.c), vp_updL g.rLow2 n (lI p.d), iI ((n + 1 : Nat) : Int))
def pS (g : tmS) (n : Nat) (p : qP) : tmS := (upd g.sPiece n (iI (p.o : Int)), vp_updL g.sUp n (lI p.a), vp_updL g.sLow n (lI p.b), vp_updL g.sUp2 n (lI p.c), vp_updL g.sLow2 n (lI p.d))
theorem e_put (g : tmS) {n : Nat} (hn : n < 1400) (o : Nat) (a b c d : Int) : X8_put g (iI n) (iI (o : Int)) (lI a) (lI b) (lI c) (lI d) = some (pS g n (o, a, b, c, d)) := by
  simp only [X8_put, zck_n (n := 1400) hn (by decide), cl_n (show n < 2147483648 by omega)]
  rfl
theorem e_back {mR : tmR} {mS : tmS} {n k : Nat} {p : qP} (hs : mR.rMany = iI (n : Int)) (hn : n < 700) (hk : k < 1400) (h : atS mS k p) : X8_back mR mS (iI k) = some (pM mR n p) := by
  obtain ⟨r1, r2, r3, r4, r5⟩ := h
  simp only [X8_back, hs, zck_n (n := 1400) hk (by decide), zck_n (n := 700) hn (by decide), cl_n (show k < 2147483648 by omega), cl_n (show n < 2147483648 by omega), r1, r2, r3, r4, r5, iI_succ]
  rfl
theorem pS_at (g : tmS) (n : Nat) (p : qP) : atS (pS g n p) n p := ⟨upd_eq, updL_eq, updL_eq, updL_eq, updL_eq⟩
theorem pS_ne {g : tmS} {n k : Nat} {p q : qP} (h : k ≠ n) (ha : atS g k q) : atS (pS g n p) k q := by
  obtain ⟨a1, a2, a3, a4, a5⟩ := ha
  exact ⟨(upd_ne h).trans a1, (updL_ne h).trans a2, (updL_ne h).trans a3, (updL_ne h).trans a4, (updL_ne h).trans a5⟩
theorem pM_at (g : tmR) (n : Nat) (p : qP) : atM (pM g n p) n p := ⟨upd_eq, updL_eq, updL_eq, updL_eq, updL_eq⟩
theorem rpS.pSne {g : tmS} {n q : Nat} {p : qP} {r : List qP} (h : rpS g q r) (hn : n < q ∨ q + r.length ≤ n) : rpS (pS g n p) q r := by
  intro k p' hk
  have hk' : k < r.length := (List.getElem?_eq_some_iff.mp hk).1
  exact pS_ne (by omega) (h k p' hk)
theorem rpS.snoc {g : tmS} {q : Nat} {p : qP} {r : List qP} (h : rpS g q r) (ha : atS g (q + r.length) p) : rpS g q (r ++ [p]) := by
  intro k p' hk
  rcases get_app hk with h' | ⟨m, rfl, h'⟩
  · exact h k p' h'
  · cases m with
    | zero => rw [List.getElem?_cons_zero] at h'; cases h'; exact ha
    | succ m => simp at h'
/-- the first n entries of the reference's rows are the same -/
def smM (g g' : tmR) (n : Nat) : Prop := ∀ k, k < n → g'.rPiece k = g.rPiece k ∧ g'.rUp k = g.rUp k ∧ g'.rLow k = g.rLow k ∧ g'.rUp2 k = g.rUp2 k ∧ g'.rLow2 k = g.rLow2 k
theorem smM.rfl' {g : tmR} {n : Nat} : smM g g n := fun _ _ => ⟨rfl, rfl, rfl, rfl, rfl⟩
theorem smM.trans {g g' g'' : tmR} {n n' : Nat} (h : smM g g' n) (h' : smM g' g'' n') (hn : n ≤ n') : smM g g'' n := by
  intro k hk
  obtain ⟨a1, a2, a3, a4, a5⟩ := h k hk
  obtain ⟨b1, b2, b3, b4, b5⟩ := h' k (by omega)
  exact ⟨b1.trans a1, b2.trans a2, b3.trans a3, b4.trans a4, b5.trans a5⟩
theorem smM.pM {g : tmR} {n : Nat} {p : qP} : smM g (pM g n p) n := fun k hk => ⟨upd_ne (by omega), updL_ne (by omega), updL_ne (by omega), updL_ne (by omega), updL_ne (by omega)⟩
theorem rpM.keep {g g' : tmR} {q n : Nat} {r : List qP} (h : rpM g q r) (hs : smM g g' n) (hl : q + r.length ≤ n) : rpM g' q r := by
  intro k p hk
  have hk' : k < r.length := (List.getElem?_eq_some_iff.mp hk).1
  obtain ⟨a1, a2, a3, a4, a5⟩ := h k p hk
  obtain ⟨b1, b2, b3, b4, b5⟩ := hs (q + k) (by omega)
  exact ⟨b1.trans a1, b2.trans a2, b3.trans a3, b4.trans a4, b5.trans a5⟩
def pMs (g : tmR) (n : Nat) : List qP → tmR
  | [] => g
  | p :: r => pMs (pM g n p) (n + 1) r
theorem pMs_many : ∀ (r : List qP) (g : tmR) (n : Nat), g.rMany = iI (n : Int) → (pMs g n r).rMany = iI ((n + r.length : Nat) : Int)
  | [], g, n, h => h
  | p :: r, g, n, _ => by
    rw [pMs, pMs_many r (pM g n p) (n + 1) rfl, List.length_cons, show n + 1 + r.length = n + (r.length + 1) by omega]
theorem smM.pMs : ∀ (r : List qP) (g : tmR) (n : Nat), smM g (pMs g n r) n
  | [], g, n => smM.rfl'
  | p :: r, g, n => smM.trans smM.pM (smM.pMs r (Jvm.Pilot.@@N@@.pM g n p) (n + 1)) (by omega)
theorem rpM.pMs : ∀ (r : List qP) (g : tmR) (n : Nat), rpM (Jvm.Pilot.@@N@@.pMs g n r) n r
  | [], g, n => fun k p h => nil_get h
  | p :: r, g, n => by
    intro k p' hk
    cases k with
    | zero =>
      rw [List.getElem?_cons_zero] at hk
      cases hk
      have h1 := smM.pMs r (pM g n p) (n + 1) n (by omega)
      obtain ⟨a1, a2, a3, a4, a5⟩ := pM_at g n p
      exact ⟨h1.1.trans a1, h1.2.1.trans a2, h1.2.2.1.trans a3, h1.2.2.2.1.trans a4, h1.2.2.2.2.trans a5⟩
    | succ k =>
      rw [List.getElem?_cons_succ] at hk
      have := rpM.pMs r (pM g n p) (n + 1) k p' hk
      rw [show n + (k + 1) = n + 1 + k by omega]
      exact this
/-! The reference's choice -/
theorem nct_lt {G : tGe} {r : List qP} {p : qP} (hp : p ∈ r) : nct G p.o r < r.length := by
  obtain ⟨r1, r2, rfl⟩ := List.append_of_mem hp
  unfold nct
  rw [List.countP_append, List.countP_cons, List.length_append, List.length_cons]
  have a : r1.countP (cutb G p.o) ≤ r1.length := List.countP_le_length
  have b : r2.countP (cutb G p.o) ≤ r2.length := List.countP_le_length
  have c : cutb G p.o p = false := by unfold cutb; rw [how_own]; rfl
  rw [c]
  simp
  omega
theorem mch_in {G : tGe} {mG : tmG} {mR : tmR} (hG : gok G) (hM : rlG G mG) {i j : Nat} (hi : i < 700) (hj : j < 24) (hij : mR.rPiece i = iI (j : Int)) (N : Nat) (k56 : tmD → Int32 → Int32 → Int32 → Int32 → Int32 → Int32 → Int32 → Option (Int32 × tmD)) (mD : tmD) (v1 v2 v4 v5 v6 : Int32) : ∀ (r : List qP) (fu k : Nat) (a : Int) (c : Nat), (∀ p ∈ r, pok p) → rpM mR k r → k + r.length ≤ 700 → r.length < fu →
    X8_chosen_b71 N k56 mG mR fu mD v1 v2 (iI ((k + r.length : Nat) : Int)) v4 v5 v6 (iI i) (iI a) (iI c) (iI k) = X8_chosen_b140 N k56 mG mR mD v1 v2 (iI ((k + r.length : Nat) : Int)) v4 v5 v6 (iI i) (iI (a + (cF G j r : Int) - (cB G j r : Int))) (iI ((c + nct G j r : Nat) : Int))
  | [], fu, k, a, c, _, _, h1, hf => by
    obtain ⟨fu, rfl⟩ : ∃ f, fu = f + 1 := ⟨fu - 1, by simp at hf; omega⟩
    simp only [List.length_nil] at *
    rw [X8_chosen_b71, if_pos (by rw [iI_le_n (by omega) (by omega)]; omega)]
    simp [cF, cB, nct]
  | p :: r, fu, k, a, c, ho, hr, h1, hf => by
    obtain ⟨fu, rfl⟩ : ∃ f, fu = f + 1 := ⟨fu - 1, by rw [List.length_cons] at hf; omega⟩
    have hp : pok p := ho p List.mem_cons_self
    have hl : (p :: r).length = r.length + 1 := List.length_cons
    have q4 := how_le G j p
    rw [X8_chosen_b71, if_neg (by rw [iI_le_n (by omega) (by omega)]; omega), zck_n hi (by decide), cl_n (by omega), hij, e_rowDoes hG hM hj (show k < 700 by omega) hp hr.head, Option.bind_some]
    have e1 : iI ((k + (p :: r).length : Nat) : Int) = iI ((k + 1 + r.length : Nat) : Int) := by rw [hl, show k + (r.length + 1) = k + 1 + r.length by omega]
    have ih := mch_in hG hM hi hj hij N k56 mD v1 v2 v4 v5 v6 r fu (k + 1)
    have ho' := fun p' h' => ho p' (List.mem_cons_of_mem _ h')
    have f1 : cF G j (p :: r) = cF G j r + (if how G j p = 1 then 1 else 0) := by unfold cF; rw [List.countP_cons]; simp
    have f2 : cB G j (p :: r) = cB G j r + (if how G j p = 2 then 1 else 0) := by unfold cB; rw [List.countP_cons]; simp
    have f3 : nct G j (p :: r) = nct G j r + (if how G j p = 3 ∨ how G j p = 4 then 1 else 0) := by unfold nct; rw [List.countP_cons]; simp [cutb]
    have s0 : ∀ x : Int, iI x + (0 : Int32) = iI x := fun x => by rw [c_0, iI_add]; simp
    have s1' : ∀ x : Int, iI x + (1 : Int32) = iI (x + 1) := fun x => by rw [c_1, iI_add]
    have sm : ∀ x : Int, iI x + (-1 : Int32) = iI (x - 1) := fun x => by rw [c_m1, iI_add]; rfl
    rw [f1, f2, f3, e1]
    rcases (show how G j p = 0 ∨ how G j p = 1 ∨ how G j p = 2 ∨ how G j p = 3 ∨ how G j p = 4 by omega) with h | h | h | h | h
    all_goals rw [h]
    · rw [if_neg (by decide), if_neg (by decide), X8_chosen_b115, zl, if_pos (by decide), X8_chosen_b131, zl, s0, s0, iI_succ, ih a c ho' hr.tail (by omega) (by omega)]
      rfl
    · rw [if_pos (by decide), X8_chosen_b115, zl, if_pos (by decide), X8_chosen_b131, zl, s1', s0, iI_succ, ih (a + 1) c ho' hr.tail (by omega) (by omega)]
      simp only [if_true, show ¬ (1 : Nat) = 2 by omega, show ¬ ((1 : Nat) = 3 ∨ (1 : Nat) = 4) by omega, if_false, Nat.add_zero]
      rw [show a + 1 + (cF G j r : Int) - (cB G j r : Int) = a + ((cF G j r + 1 : Nat) : Int) - (cB G j r : Int) by omega]
    · rw [if_neg (by decide), if_pos (by decide), X8_chosen_b115, zl, if_pos (by decide), X8_chosen_b131, zl, sm, s0, iI_succ, ih (a - 1) c ho' hr.tail (by omega) (by omega)]
      simp only [if_true, show ¬ (2 : Nat) = 1 by omega, show ¬ ((2 : Nat) = 3 ∨ (2 : Nat) = 4) by omega, if_false, Nat.add_zero]
      rw [show a - 1 + (cF G j r : Int) - (cB G j r : Int) = a + (cF G j r : Int) - ((cB G j r + 1 : Nat) : Int) by omega]
    · rw [if_neg (by decide), if_neg (by decide), X8_chosen_b115, zl, if_neg (by decide), X8_chosen_b131, zl, s0, iI_succ, iI_succ, ih a (c + 1) ho' hr.tail (by omega) (by omega)]
      simp only [show ¬ (3 : Nat) = 1 by omega, show ¬ (3 : Nat) = 2 by omega, true_or, or_true, if_true, if_false, Nat.add_zero]
      rw [show c + 1 + nct G j r = c + (nct G j r + 1) by omega]
    · rw [if_neg (by decide), if_neg (by decide), X8_chosen_b115, zl, if_neg (by decide), X8_chosen_b131, zl, s0, iI_succ, iI_succ, ih a (c + 1) ho' hr.tail (by omega) (by omega)]
      simp only [show ¬ (4 : Nat) = 1 by omega, show ¬ (4 : Nat) = 2 by omega, true_or, or_true, if_true, if_false, Nat.add_zero]
      rw [show c + 1 + nct G j r = c + (nct G j r + 1) by omega]
/-- one part tried against the best so far -/
theorem mch_140 {G : tGe} {mG : tmG} {mR : tmR} (N : Nat) (k56 : tmD → Int32 → Int32 → Int32 → Int32 → Int32 → Int32 → Int32 → Option (Int32 × tmD)) (mD : tmD) {ru : Int} (h3 : 0 ≤ ru ∧ ru ≤ 3) (v2 v3 : Int32) {b : Int} (hb : -1 ≤ b ∧ b ≤ 1000) {pa pc x : Int} {c i : Nat} (hx : -1000 ≤ x ∧ x ≤ 1000) (hpa : 0 ≤ pa ∧ pa ≤ 1000) (hpc : 0 ≤ pc ∧ pc ≤ 23) (hc : c ≤ 23) :
    X8_chosen_b140 N k56 mG mR mD (iI ru) v2 v3 (iI b) (iI pa) (iI pc) (iI i) (iI x) (iI c) = if b < 0 ∨ apt ru x * 24 + c < pa * 24 + pc then k56 mD (iI ru) v2 v3 (iI i) (iI (apt ru x)) (iI c) (iI ((i + 1 : Nat) : Int)) else k56 mD (iI ru) v2 v3 (iI b) (iI pa) (iI pc) (iI ((i + 1 : Nat) : Int)) := by
  have ap : X8_chosen_b140 N k56 mG mR mD (iI ru) v2 v3 (iI b) (iI pa) (iI pc) (iI i) (iI x) (iI c) = X8_chosen_b162 N k56 mG mR mD (iI ru) v2 v3 (iI b) (iI pa) (iI pc) (iI i) (iI c) (iI (apt ru x)) := by
    rw [X8_chosen_b140]
    unfold apt
    by_cases h1 : ru = 1
    · rw [if_pos (by rw [h1]; rfl), if_pos h1]
      rfl
    · rw [if_neg (by rw [c_1, iI_eq (by unfold i3; omega) (by unfold i3; omega)]; exact h1), if_neg h1]
      by_cases h2 : 0 ≤ x
      · rw [if_pos (by rw [c_0, iI_le (by unfold i3; omega) (by unfold i3; omega)]; exact h2), if_pos h2]
      · rw [if_neg (by rw [c_0, iI_le (by unfold i3; omega) (by unfold i3; omega)]; exact h2), if_neg h2, iI_neg]
  have apb : 0 ≤ apt ru x ∧ apt ru x ≤ 1000 := by unfold apt; split; omega; split <;> omega
  rw [ap, X8_chosen_b162, X8_chosen_b190, X8_chosen_b202, X8_chosen_b202, iI_succ]
  generalize apt ru x = y at *
  rw [c_0]
  simp only [iI_lt (show i3 b by unfold i3; omega) (show i3 0 by unfold i3; omega), iI_lt (show i3 y by unfold i3; omega) (show i3 pa by unfold i3; omega), iI_eq (show i3 y by unfold i3; omega) (show i3 pa by unfold i3; omega), iI_le (show i3 pc by unfold i3; omega) (show i3 (c : Int) by unfold i3; omega)]
  by_cases q1 : b < 0
  · rw [if_pos q1, if_pos (Or.inl q1)]
  · rw [if_neg q1]
    by_cases q2 : y < pa
    · rw [if_pos q2, if_pos (by omega)]
    · rw [if_neg q2]
      by_cases q3 : y = pa
      · rw [if_pos q3]
        by_cases q4 : pc ≤ (c : Int)
        · rw [if_pos q4, if_neg (by omega)]
        · rw [if_neg q4, if_pos (by omega)]
      · rw [if_neg q3, if_neg (by omega)]
