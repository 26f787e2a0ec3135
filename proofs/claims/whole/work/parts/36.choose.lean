/-! Which part's line a knot takes -/
def dr (d : Int32) : Int32 := 1103515245 * d + 12345
def rx (d : Int32) (n : Nat) : Nat := ((d >>> ((16 : Int32) &&& 31)).toBitVec.toNat % 2 ^ 15) % n
def cF (G : tGe) (j : Nat) (r : List qP) : Nat := r.countP (fun p => decide (how G j p = 1))
def cB (G : tGe) (j : Nat) (r : List qP) : Nat := r.countP (fun p => decide (how G j p = 2))
def apt (ru : Int) (x : Int) : Int := if ru = 1 then 0 else if 0 ≤ x then x else -x
def ky (G : tGe) (ru : Int) (r : List qP) (p : qP) : Int := apt ru ((cF G p.o r : Int) - cB G p.o r) * 24 + nct G p.o r
def am : List Int → Nat → Nat → Int → Nat
  | [], _, bi, _ => bi
  | k :: ks, i, bi, bk => if k < bk then am ks (i + 1) i k else am ks (i + 1) bi bk
def cho (G : tGe) (ru : Int) (r : List qP) (d : Int32) : Nat × Int32 :=
  if ru = 0 then (0, d) else if ru = 2 then (rx (dr d) r.length, dr d) else match r with
    | [] => (0, d)
    | p :: t => (am (t.map (ky G ru r)) 1 0 (ky G ru r p), d)
theorem am_lt : ∀ (ks : List Int) (i bi : Nat) (bk : Int), bi < i → am ks i bi bk < i + ks.length
  | [], i, bi, bk, h => by simp [am]; exact h
  | k :: ks, i, bi, bk, h => by
    rw [am, List.length_cons]
    split
    · have := am_lt ks (i + 1) i k (by omega)
      omega
    · have := am_lt ks (i + 1) bi bk (by omega)
      omega
theorem cho_lt (G : tGe) (ru : Int) (r : List qP) (d : Int32) (h : 0 < r.length) : (cho G ru r d).1 < r.length := by
  unfold cho
  split
  · exact h
  · split
    · exact Nat.mod_lt _ h
    · cases r with
      | nil => simp at h
      | cons p t =>
        dsimp only
        have := am_lt (t.map (ky G ru (p :: t))) 1 0 (ky G ru (p :: t) p) (by omega)
        rw [List.length_map] at this
        rw [List.length_cons]
        omega
theorem iI_nn (n : Nat) : nI n = iI (n : Int) := (iI_nat n).symm
theorem e_draw (d : Int32) {q n : Nat} (hn : 0 < n) (hn2 : n < 2147483648) : iI (q : Int) + (((dr d >>> ((16 : Int32) &&& 31)) &&& (32767 : Int32)) - ((dr d >>> ((16 : Int32) &&& 31)) &&& (32767 : Int32)) / iI (n : Int) * iI (n : Int)) = iI ((q + rx (dr d) n : Nat) : Int) := by
  rw [pk_and (dr d >>> ((16 : Int32) &&& 31)) (m := 32767) 15 (by decide), ← iI_nn n, pk_rem (by have := Nat.mod_lt (dr d >>> ((16 : Int32) &&& 31)).toBitVec.toNat (show 0 < 2 ^ 15 by decide); omega) hn hn2, iI_nn, iI_add]
  rfl
theorem iI_sub_n {a b : Nat} (h : a ≤ b) : iI (b : Int) - iI (a : Int) = iI ((b - a : Nat) : Int) := by rw [iI_sub]; congr 1; omega
theorem cF_le (G : tGe) (j : Nat) (r : List qP) : cF G j r ≤ r.length := List.countP_le_length
theorem cB_le (G : tGe) (j : Nat) (r : List qP) : cB G j r ≤ r.length := List.countP_le_length
theorem nct_le (G : tGe) (j : Nat) (r : List qP) : nct G j r ≤ r.length := List.countP_le_length
theorem e_fault_loop {G : tGe} {gP : tPi} {gR : tPa} (gT : tTr) (hG : gok G) (hP : rlP G gP) {i j : Nat} (hi : i < 300) (hj : j < 24) (hij : gR.owner i = iI (j : Int)) (N : Nat) : ∀ (r : List qP) (fu k a b c : Nat), (∀ p ∈ r, pok p) → rpR gR k r → k + r.length ≤ 300 → a + r.length ≤ 300 → b + r.length ≤ 300 → c + r.length ≤ 300 → r.length < fu →
    X6_faultOf_b12 N gP gR gT fu (iI i) (iI ((k + r.length : Nat) : Int)) (iI a) (iI b) (iI c) (iI k) = X6_faultOf_b95 N gP gR gT (iI ((a + cF G j r : Nat) : Int)) (iI ((b + cB G j r : Nat) : Int)) (iI ((c + nct G j r : Nat) : Int))
  | [], fu, k, a, b, c, _, _, h1, h2, h3, h4, hf => by
    obtain ⟨fu, rfl⟩ : ∃ f, fu = f + 1 := ⟨fu - 1, by simp at hf; omega⟩
    simp only [List.length_nil] at *
    rw [X6_faultOf_b12, if_pos (by rw [iI_le_n (by omega) (by omega)]; omega)]
    rfl
  | p :: r, fu, k, a, b, c, ho, hr, h1, h2, h3, h4, hf => by
    obtain ⟨fu, rfl⟩ : ∃ f, fu = f + 1 := ⟨fu - 1, by rw [List.length_cons] at hf; omega⟩
    have hp : pok p := ho p List.mem_cons_self
    have hl : (p :: r).length = r.length + 1 := List.length_cons
    have q4 := how_le G j p
    rw [X6_faultOf_b12, if_neg (by rw [iI_le_n (by omega) (by omega)]; omega), zck_n hi (by decide), cl_n (by omega), hij, e_sides hG hP (show k < 300 by omega) hj hp hr.head, Option.bind_some]
    have e1 : iI ((k + (p :: r).length : Nat) : Int) = iI ((k + 1 + r.length : Nat) : Int) := by rw [hl, show k + (r.length + 1) = k + 1 + r.length by omega]
    have ih := e_fault_loop gT hG hP hi hj hij N r fu (k + 1)
    have ho' := fun p' h' => ho p' (List.mem_cons_of_mem _ h')
    have f1 : cF G j (p :: r) = cF G j r + (if how G j p = 1 then 1 else 0) := by unfold cF; rw [List.countP_cons]; simp
    have f2 : cB G j (p :: r) = cB G j r + (if how G j p = 2 then 1 else 0) := by unfold cB; rw [List.countP_cons]; simp
    have f3 : nct G j (p :: r) = nct G j r + (if how G j p = 3 ∨ how G j p = 4 then 1 else 0) := by unfold nct; rw [List.countP_cons]; simp [cutb]
    have s0 : ∀ x : Nat, iI (x : Int) + (0 : Int32) = iI (x : Int) := fun x => by rw [c_0, iI_add]; simp
    rw [f1, f2, f3, e1]
    rcases (show how G j p = 0 ∨ how G j p = 1 ∨ how G j p = 2 ∨ how G j p = 3 ∨ how G j p = 4 by omega) with h | h | h | h | h
    all_goals rw [h]
    · rw [if_neg (by decide), X6_faultOf_b54, zl, if_neg (by decide), X6_faultOf_b70, zl, if_neg (by decide), X6_faultOf_b86, zl, s0, s0, s0, iI_succ]
      rw [ih a b c ho' hr.tail (by omega) (by omega) (by omega) (by omega) (by omega)]
      rfl
    · rw [if_pos (by decide), X6_faultOf_b54, zl, if_neg (by decide), X6_faultOf_b70, zl, if_neg (by decide), X6_faultOf_b86, zl, s0, s0, iI_succ, iI_succ]
      rw [ih (a + 1) b c ho' hr.tail (by omega) (by omega) (by omega) (by omega) (by omega)]
      simp only [if_true, show ¬ (1 : Nat) = 2 by omega, show ¬ ((1 : Nat) = 3 ∨ (1 : Nat) = 4) by omega, if_false, Nat.add_zero]
      rw [show a + 1 + cF G j r = a + (cF G j r + 1) by omega]
    · rw [if_neg (by decide), X6_faultOf_b54, zl, if_pos (by decide), X6_faultOf_b70, zl, if_neg (by decide), X6_faultOf_b86, zl, s0, s0, iI_succ, iI_succ]
      rw [ih a (b + 1) c ho' hr.tail (by omega) (by omega) (by omega) (by omega) (by omega)]
      simp only [if_true, show ¬ (2 : Nat) = 1 by omega, show ¬ ((2 : Nat) = 3 ∨ (2 : Nat) = 4) by omega, if_false, Nat.add_zero]
      rw [show b + 1 + cB G j r = b + (cB G j r + 1) by omega]
    · rw [if_neg (by decide), X6_faultOf_b54, zl, if_neg (by decide), X6_faultOf_b70, zl, if_pos (by decide), X6_faultOf_b86, zl, s0, s0, iI_succ, iI_succ]
      rw [ih a b (c + 1) ho' hr.tail (by omega) (by omega) (by omega) (by omega) (by omega)]
      simp only [show ¬ (3 : Nat) = 1 by omega, show ¬ (3 : Nat) = 2 by omega, true_or, or_true, if_true, if_false, Nat.add_zero]
      rw [show c + 1 + nct G j r = c + (nct G j r + 1) by omega]
    · rw [if_neg (by decide), X6_faultOf_b54, zl, if_neg (by decide), X6_faultOf_b70, zl, if_pos (by decide), X6_faultOf_b86, zl, s0, s0, iI_succ, iI_succ]
      rw [ih a b (c + 1) ho' hr.tail (by omega) (by omega) (by omega) (by omega) (by omega)]
      simp only [show ¬ (4 : Nat) = 1 by omega, show ¬ (4 : Nat) = 2 by omega, true_or, or_true, if_true, if_false, Nat.add_zero]
      rw [show c + 1 + nct G j r = c + (nct G j r + 1) by omega]
theorem e_fault {G : tGe} {gP : tPi} {gR : tPa} {gT : tTr} (hG : gok G) (hP : rlP G gP) {ru : Int} (hru : gT.rule = iI ru) (h3 : 0 ≤ ru ∧ ru ≤ 3) {N k i : Nat} {r : List qP} {p : qP} (ho : ∀ p ∈ r, pok p) (hr : rpR gR k r) (hk : k + r.length ≤ 300) (hN : r.length < N) (hi : r[i]? = some p) :
    X6_faultOf N gP gR gT (iI ((k + i : Nat) : Int)) (iI k) (iI ((k + r.length : Nat) : Int)) = some (iI (ky G ru r p)) := by
  have hil : i < r.length := (List.getElem?_eq_some_iff.mp hi).1
  have hp : pok p := ho p (List.mem_of_getElem? hi)
  have l := e_fault_loop gT hG hP (show k + i < 300 by omega) hp.1 (hr i p hi).1 N r N k 0 0 0 ho hr hk (by omega) (by omega) (by omega) hN
  rw [X6_faultOf, c_0]
  have l' := l
  simp only [Nat.zero_add] at l'
  rw [show iI 0 = iI ((0 : Nat) : Int) from rfl, l', X6_faultOf_b95, hru]
  have a1 := cF_le G p.o r
  have a2 := cB_le G p.o r
  have a3 := nct_le G p.o r
  unfold ky apt
  by_cases h1 : ru = 1
  · rw [if_pos (by rw [h1]; rfl), if_pos h1]
    congr 2
    omega
  · rw [if_neg (by rw [c_1, iI_eq (by unfold i3; omega) (by unfold i3; omega)]; exact h1), if_neg h1, iI_sub, e_abs (by omega), c_24, iI_mul, iI_add]
/-- the choice by least fault -/
theorem e_choose_loop {G : tGe} {gP : tPi} {gR : tPa} {gT : tTr} (hG : gok G) (hP : rlP G gP) {ru : Int} (hru : gT.rule = iI ru) (h3 : 0 ≤ ru ∧ ru ≤ 3) {N k : Nat} {r : List qP} (ho : ∀ p ∈ r, pok p) (hr : rpR gR k r) (hk : k + r.length ≤ 300) (hN : r.length < N) : ∀ (t : List qP) (fu i bi : Nat) (bk : Int), i + t.length = r.length → (∀ m, t[m]? = r[i + m]?) → bi < i → -10000 ≤ bk ∧ bk ≤ 10000 → t.length < fu →
    X6_choose_b71 N gP gR fu gT (iI k) (iI ((k + r.length : Nat) : Int)) (iI ((k + bi : Nat) : Int)) (iI bk) (iI ((k + i : Nat) : Int)) = some (iI ((k + am (t.map (ky G ru r)) i bi bk : Nat) : Int), gT)
  | [], fu, i, bi, bk, hi, _, hb, _, hf => by
    obtain ⟨fu, rfl⟩ : ∃ f, fu = f + 1 := ⟨fu - 1, by simp at hf; omega⟩
    simp only [List.length_nil] at *
    rw [X6_choose_b71, if_pos (by rw [iI_le_n (by omega) (by omega)]; omega)]
    rfl
  | p :: t, fu, i, bi, bk, hi, ht, hb, hbk, hf => by
    obtain ⟨fu, rfl⟩ : ∃ f, fu = f + 1 := ⟨fu - 1, by rw [List.length_cons] at hf; omega⟩
    have hl : (p :: t).length = t.length + 1 := List.length_cons
    have hp : r[i]? = some p := by rw [← Nat.add_zero i, ← ht 0]; rfl
    have hpo : pok p := ho p (List.mem_of_getElem? hp)
    rw [X6_choose_b71, if_neg (by rw [iI_le_n (by omega) (by omega)]; omega), e_fault hG hP hru h3 ho hr hk hN hp, Option.bind_some]
    have b1 := cF_le G p.o r
    have b2 := cB_le G p.o r
    have b3 := nct_le G p.o r
    have kb : -10000 ≤ ky G ru r p ∧ ky G ru r p ≤ 10000 := by
      unfold ky apt
      split
      · omega
      · split <;> omega
    have tl : ∀ m, t[m]? = r[i + 1 + m]? := fun m => by
      have := ht (m + 1)
      rw [List.getElem?_cons_succ] at this
      rw [this, show i + (m + 1) = i + 1 + m by omega]
    rw [List.map_cons, am]
    by_cases h : ky G ru r p < bk
    · rw [if_neg (by rw [iI_le (by unfold i3; omega) (by unfold i3; omega)]; omega), if_pos h, X6_choose_b101, iI_succ, show k + i + 1 = k + (i + 1) by omega]
      exact e_choose_loop hG hP hru h3 ho hr hk hN t fu (i + 1) i _ (by omega) tl (by omega) kb (by omega)
    · rw [if_pos (by rw [iI_le (by unfold i3; omega) (by unfold i3; omega)]; omega), if_neg h, X6_choose_b101, iI_succ, show k + i + 1 = k + (i + 1) by omega]
      exact e_choose_loop hG hP hru h3 ho hr hk hN t fu (i + 1) bi bk (by omega) tl (by omega) hbk (by omega)
theorem e_choose {G : tGe} {gP : tPi} {gR : tPa} {gT : tTr} (hG : gok G) (hP : rlP G gP) {ru : Int} (hru : gT.rule = iI ru) (h3 : 0 ≤ ru ∧ ru ≤ 3) {N k : Nat} {r : List qP} (ho : ∀ p ∈ r, pok p) (hr : rpR gR k r) (hk : k + r.length ≤ 300) (hN : r.length < N) (h0 : 0 < r.length) :
    X6_choose N gP gR gT (iI k) (iI ((k + r.length : Nat) : Int)) = some (iI ((k + (cho G ru r gT.draw).1 : Nat) : Int), tTr.s_draw gT (cho G ru r gT.draw).2) := by
  rw [X6_choose, hru]
  have r3 : i3 ru := by unfold i3; omega
  unfold cho
  by_cases c0 : ru = 0
  · rw [if_pos (by rw [c0]; rfl), if_pos c0, X6_choose_b12]
    rfl
  · rw [if_neg (by rw [c_0, iI_eq r3 (by unfold i3; omega)]; exact c0), if_neg c0, if_pos (by rw [iI_lt_n (by omega) (by omega)]; omega)]
    by_cases c2 : ru = 2
    · rw [if_pos (by rw [c2]; rfl), if_pos c2, iI_sub_n (by omega), show k + r.length - k = r.length by omega]
      unfold zcz
      rw [if_neg (by rw [c_0, show iI 0 = iI ((0 : Nat) : Int) from rfl, iI_eq_n (by omega) (by omega)]; omega)]
      have e := e_draw gT.draw (q := k) (n := r.length) h0 (by omega)
      unfold dr at e
      rw [e]
      rfl
    · rw [if_neg (by rw [c_2, iI_eq r3 (by unfold i3; omega)]; exact c2), if_neg c2]
      cases r with
      | nil => simp at h0
      | cons p t =>
        have e0 := e_fault hG hP hru h3 ho hr hk hN (i := 0) (p := p) rfl
        rw [Nat.add_zero] at e0
        rw [e0, Option.bind_some, zl, iI_succ]
        have b1 := cF_le G p.o (p :: t)
        have b2 := cB_le G p.o (p :: t)
        have b3 := nct_le G p.o (p :: t)
        have kb : -10000 ≤ ky G ru (p :: t) p ∧ ky G ru (p :: t) p ≤ 10000 := by
          unfold ky apt
          split
          · omega
          · split <;> omega
        have hl : (p :: t).length = t.length + 1 := List.length_cons
        exact e_choose_loop hG hP hru h3 ho hr hk hN t N 1 0 _ (by omega) (fun m => by rw [show 1 + m = m + 1 by omega, List.getElem?_cons_succ]) (by omega) kb (by omega)
