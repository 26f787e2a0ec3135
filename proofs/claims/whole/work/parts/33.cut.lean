/-! The class: cutting a row by a line -/
def cts (G : tGe) (j : Nat) (b : Bool) (p : qP) : Option qP := if b then ctf G j p else ctb G j p
def sid (b : Bool) : Int32 := if b then 1 else 2
def srow (G : tGe) (j : Nat) (b : Bool) (r : List qP) : List qP := r.filterMap (cts G j b)
theorem cts_ok {G : tGe} (hG : gok G) {j : Nat} {b : Bool} {p q : qP} (hp : pok p) (h : cts G j b p = some q) : pok q ∧ q.o = p.o := by
  unfold cts at h
  split at h
  · exact ctf_ok hG hp h
  · exact ctb_ok hG hp h
theorem e_abs {s : Int} (h : -8000000 ≤ s ∧ s ≤ 8000000) : (if 0 ≤ iI s then iI s else 0 - iI s) = iI (if 0 ≤ s then s else -s) := by
  have e : (0 ≤ iI s) ↔ 0 ≤ s := by rw [c_0, iI_le (by unfold i3; omega) (by unfold i3; omega)]
  by_cases h1 : 0 ≤ s
  · rw [if_pos (e.mpr h1), if_pos h1]
  · rw [if_neg (fun q => h1 (e.mp q)), if_neg h1, c_0, iI_sub]
    congr 1
    omega
theorem e_addHalf {G : tGe} {gP : tPi} {gR : tPa} (hG : gok G) (hP : rlP G gP) {k j n : Nat} {p : qP} (hk : k < 300) (hj : j < 24) (hp : pok p) (hR : gR.owner k = iI (p.o : Int) ∧ gR.n0 k = iI p.a ∧ gR.d0 k = iI p.b ∧ gR.n1 k = iI p.c ∧ gR.d1 k = iI p.d)
    (hs : gR.size = iI (n : Int)) (hn : n < 300) (b : Bool) (hh : how G j p = 3 ∨ how G j p = 4) {q : qP} (hq : cts G j b p = some q) : X0_addHalf gP gR (iI k) (iI j) (sid b) = some (psh gR n q) := by
  obtain ⟨r1, r2, r3, r4, r5⟩ := hR
  have b1 := SD_bd hG j p.o
  have b2 := SE_bd hG j p.o
  have g0 : p.o < 24 := hp.1
  have z3 : i3 0 := by unfold i3; omega
  have lo := e_add_R hs hn (p.o, p.a, p.b, up G j p.o, low G j p.o)
  have hi := e_add_R hs hn (p.o, up G j p.o, low G j p.o, p.c, p.d)
  simp only [qP.o, qP.a, qP.b, qP.c, qP.d] at lo hi
  rcases hh with hh | hh
  · obtain ⟨c1, c2, c3, c4, c5⟩ := cut3' hp hh
    have a1 : (if 0 ≤ SD G j p.o then SD G j p.o else -SD G j p.o) = up G j p.o := by rw [if_pos (by omega), c4]
    have a2 : (if 0 ≤ SD G j p.o + SL G j p.o then SD G j p.o + SL G j p.o else -(SD G j p.o + SL G j p.o)) = -SD G j p.o + low G j p.o := by rw [if_neg (by omega), c5]; omega
    have a3 : up G j p.o + (-SD G j p.o + low G j p.o) = low G j p.o := by rw [c4]; omega
    have nl : ¬ iI (SD G j p.o) ≤ (0 : Int32) := by rw [c_0, iI_le (by unfold i3; omega) z3]; omega
    simp only [X0_addHalf, zl, zck_n (n := 300) hk (by decide), cl_n (show k < 2147483648 by omega), r1, zck_n (n := 24) g0 (by decide), cl_n (show p.o < 2147483648 by omega), e_first hP hj, e_second hP hj, Option.bind_some, e_abs b1, e_abs b2, a1, a2, iI_add, a3, if_neg nl]
    unfold cts ctf ctb at hq
    cases b
    · rw [if_neg (by decide), if_neg (by omega), if_pos hh] at hq
      cases hq
      simp only [X0_addHalf_b98, X0_addHalf_b112, sid, zck_n (n := 300) hk (by decide), cl_n (show k < 2147483648 by omega), r4, r5, Bool.false_eq_true, if_false]
      rw [if_neg (by decide), if_neg (by decide), hi]; rfl
    · rw [if_pos rfl, if_neg (by omega), if_pos hh] at hq
      cases hq
      simp only [X0_addHalf_b98, X0_addHalf_b112, sid, zck_n (n := 300) hk (by decide), cl_n (show k < 2147483648 by omega), r2, r3, if_true]
      rw [lo]; rfl
  · obtain ⟨c1, c2, c3, c4, c5⟩ := cut4' hp hh
    have a1 : (if 0 ≤ SD G j p.o then SD G j p.o else -SD G j p.o) = up G j p.o := by rw [if_neg (by omega), c4]
    have a2 : (if 0 ≤ SD G j p.o + SL G j p.o then SD G j p.o + SL G j p.o else -(SD G j p.o + SL G j p.o)) = SD G j p.o + low G j p.o := by rw [if_pos (by omega), c5]
    have a3 : up G j p.o + (SD G j p.o + low G j p.o) = low G j p.o := by rw [c4]; omega
    have nl : iI (SD G j p.o) ≤ (0 : Int32) := by rw [c_0, iI_le (by unfold i3; omega) z3]; omega
    simp only [X0_addHalf, zl, zck_n (n := 300) hk (by decide), cl_n (show k < 2147483648 by omega), r1, zck_n (n := 24) g0 (by decide), cl_n (show p.o < 2147483648 by omega), e_first hP hj, e_second hP hj, Option.bind_some, e_abs b1, e_abs b2, a1, a2, iI_add, a3, if_pos nl]
    unfold cts ctf ctb at hq
    cases b
    · rw [if_neg (by decide), if_neg (by omega), if_neg (by omega), if_pos hh] at hq
      cases hq
      simp only [X0_addHalf_b98, X0_addHalf_b112, sid, zck_n (n := 300) hk (by decide), cl_n (show k < 2147483648 by omega), r2, r3, Bool.false_eq_true, if_false]
      rw [if_neg (by decide), if_pos trivial, lo]; rfl
    · rw [if_pos rfl, if_neg (by omega), if_neg (by omega), if_pos hh] at hq
      cases hq
      simp only [X0_addHalf_b98, X0_addHalf_b112, sid, zck_n (n := 300) hk (by decide), cl_n (show k < 2147483648 by omega), r4, r5, if_true]
      rw [if_neg (by decide), hi]; rfl
theorem e_copy_RR {gR : tPa} {k n : Nat} {p : qP} (hk : k < 300) (hR : gR.owner k = iI (p.o : Int) ∧ gR.n0 k = iI p.a ∧ gR.d0 k = iI p.b ∧ gR.n1 k = iI p.c ∧ gR.d1 k = iI p.d) (hs : gR.size = iI (n : Int)) (hn : n < 300) : X2_addCopy_RR gR (iI k) = some (psh gR n p) := by
  obtain ⟨r1, r2, r3, r4, r5⟩ := hR
  simp only [X2_addCopy_RR, zck_n (n := 300) hk (by decide), cl_n (show k < 2147483648 by omega), r1, r2, r3, r4, r5, e_add_R hs hn, Option.bind_some]
theorem e_copy_QR {gR gQ : tPa} {k n : Nat} {p : qP} (hk : k < 300) (hR : gR.owner k = iI (p.o : Int) ∧ gR.n0 k = iI p.a ∧ gR.d0 k = iI p.b ∧ gR.n1 k = iI p.c ∧ gR.d1 k = iI p.d) (hs : gQ.size = iI (n : Int)) (hn : n < 300) : X2_addCopy_QR gR gQ (iI k) = some (psh gQ n p) := by
  obtain ⟨r1, r2, r3, r4, r5⟩ := hR
  simp only [X2_addCopy_QR, zck_n (n := 300) hk (by decide), cl_n (show k < 2147483648 by omega), r1, r2, r3, r4, r5, e_add_Q hs hn, Option.bind_some]
theorem bt_3 {n : Nat} (h : n ≤ 4) : iI (bt n) = (3 : Int32) ↔ n = 3 ∨ n = 4 := by
  rcases (show n = 0 ∨ n = 1 ∨ n = 2 ∨ n = 3 ∨ n = 4 by omega) with rfl | rfl | rfl | rfl | rfl <;> decide
theorem bt_s {n : Nat} (h : n ≤ 4) (h3 : ¬ (n = 3 ∨ n = 4)) (b : Bool) : iI (bt n) = sid b ↔ n = (if b then 1 else 2) := by
  cases b <;> rcases (show n = 0 ∨ n = 1 ∨ n = 2 by omega) with rfl | rfl | rfl <;> decide
theorem bt_0 {n : Nat} (h : n ≤ 4) : iI (bt n) = (0 : Int32) ↔ n = 0 := by
  rcases (show n = 0 ∨ n = 1 ∨ n = 2 ∨ n = 3 ∨ n = 4 by omega) with rfl | rfl | rfl | rfl | rfl <;> decide
theorem bt_1 {n : Nat} (h : n ≤ 4) : iI (bt n) = (1 : Int32) ↔ n = 1 := by
  rcases (show n = 0 ∨ n = 1 ∨ n = 2 ∨ n = 3 ∨ n = 4 by omega) with rfl | rfl | rfl | rfl | rfl <;> decide
theorem bt_2 {n : Nat} (h : n ≤ 4) : iI (bt n) = (2 : Int32) ↔ n = 2 := by
  rcases (show n = 0 ∨ n = 1 ∨ n = 2 ∨ n = 3 ∨ n = 4 by omega) with rfl | rfl | rfl | rfl | rfl <;> decide
theorem cts_34 {G : tGe} {j : Nat} {p : qP} (b : Bool) (h : how G j p = 3 ∨ how G j p = 4) : ∃ q, cts G j b p = some q := by
  unfold cts ctf ctb
  rcases h with h | h <;> cases b <;> simp [h]
theorem cts_s {G : tGe} {j : Nat} {p : qP} (b : Bool) (h : how G j p = (if b then 1 else 2)) : cts G j b p = some p := by
  unfold cts ctf ctb
  cases b <;> simp at h <;> simp [h]
theorem cts_n {G : tGe} {j : Nat} {p : qP} (b : Bool) (h3 : ¬ (how G j p = 3 ∨ how G j p = 4)) (h : ¬ how G j p = (if b then 1 else 2)) : cts G j b p = none := by
  unfold cts ctf ctb
  cases b <;> simp at h <;> simp [h, show ¬ how G j p = 3 from fun q => h3 (Or.inl q), show ¬ how G j p = 4 from fun q => h3 (Or.inr q)]
theorem iI_le_n {a b : Nat} (ha : a < 2147483648) (hb : b < 2147483648) : iI (a : Int) ≤ iI (b : Int) ↔ a ≤ b := by rw [iI_le ⟨by omega, by omega⟩ ⟨by omega, by omega⟩]; omega
theorem iI_lt_n {a b : Nat} (ha : a < 2147483648) (hb : b < 2147483648) : iI (a : Int) < iI (b : Int) ↔ a < b := by rw [iI_lt ⟨by omega, by omega⟩ ⟨by omega, by omega⟩]; omega
theorem iI_eq_n {a b : Nat} (ha : a < 2147483648) (hb : b < 2147483648) : iI (a : Int) = iI (b : Int) ↔ a = b := by rw [iI_eq ⟨by omega, by omega⟩ ⟨by omega, by omega⟩]; omega
theorem iI_succ (a : Nat) : iI (a : Int) + (1 : Int32) = iI ((a + 1 : Nat) : Int) := by rw [c_1, iI_add]; rfl
theorem e_sideRow {G : tGe} {gP : tPi} (hG : gok G) (hP : rlP G gP) {j : Nat} (hj : j < 24) (b : Bool) (N : Nat) : ∀ (r : List qP) (fu k n : Nat) (gR : tPa), (∀ p ∈ r, pok p) → rpR gR k r → gR.size = iI (n : Int) → k + r.length ≤ n → n + (srow G j b r).length ≤ 300 → r.length < fu →
    X0_addSideRow_b3 N gP fu gR (iI ((k + r.length : Nat) : Int)) (iI j) (sid b) (iI k) = some (pshs gR n (srow G j b r))
  | [], fu, k, n, gR, _, _, _, hk, hn, hf => by
    obtain ⟨fu, rfl⟩ : ∃ f, fu = f + 1 := ⟨fu - 1, by simp at hf; omega⟩
    rw [X0_addSideRow_b3, if_pos (by rw [iI_le_n (by simp at hk hn ⊢; omega) (by simp at hk hn ⊢; omega)]; simp)]
    rfl
  | p :: r, fu, k, n, gR, ho, hr, hs, hk, hn, hf => by
    obtain ⟨fu, rfl⟩ : ∃ f, fu = f + 1 := ⟨fu - 1, by rw [List.length_cons] at hf; omega⟩
    have hp : pok p := ho p List.mem_cons_self
    have hl : (p :: r).length = r.length + 1 := List.length_cons
    have hsl : (srow G j b (p :: r)).length = (match cts G j b p with | none => 0 | some _ => 1) + (srow G j b r).length := by
      unfold srow
      rw [List.filterMap_cons]
      cases cts G j b p <;> simp <;> omega
    have h4 := how_le G j p
    rw [X0_addSideRow_b3, if_neg (by rw [iI_le_n (by omega) (by omega)]; omega)]
    rw [e_sides hG hP (show k < 300 by omega) hj hp hr.head, Option.bind_some]
    have e1 : iI ((k + (p :: r).length : Nat) : Int) = iI ((k + 1 + r.length : Nat) : Int) := by rw [hl, show k + (r.length + 1) = k + 1 + r.length by omega]
    rw [e1]
    have ih := e_sideRow hG hP hj b N r
    by_cases h3 : how G j p = 3 ∨ how G j p = 4
    · obtain ⟨q, hq⟩ := cts_34 b h3
      rw [hq] at hsl
      dsimp only at hsl
      rw [if_pos ((bt_3 h4).mpr h3), e_addHalf hG hP (show k < 300 by omega) hj hp hr.head hs (show n < 300 by omega) b h3 hq, Option.bind_some, X0_addSideRow_b56, iI_succ]
      rw [ih fu (k + 1) (n + 1) (psh gR n q) (fun p' h' => ho p' (List.mem_cons_of_mem _ h')) (hr.tail.keep smR.psh (by omega)) rfl (by omega) (by omega) (by omega)]
      unfold srow
      rw [List.filterMap_cons, hq]
      rfl
    · rw [if_neg (fun q => h3 ((bt_3 h4).mp q))]
      by_cases h1 : how G j p = (if b then 1 else 2)
      · have hq := cts_s b h1
        rw [hq] at hsl
        dsimp only at hsl
        rw [if_pos ((bt_s h4 h3 b).mpr h1), e_copy_RR (show k < 300 by omega) hr.head hs (show n < 300 by omega), Option.bind_some, X0_addSideRow_b56, iI_succ]
        rw [ih fu (k + 1) (n + 1) (psh gR n p) (fun p' h' => ho p' (List.mem_cons_of_mem _ h')) (hr.tail.keep smR.psh (by omega)) rfl (by omega) (by omega) (by omega)]
        unfold srow
        rw [List.filterMap_cons, hq]
        rfl
      · have hq := cts_n b h3 h1
        rw [hq] at hsl
        dsimp only at hsl
        rw [if_neg (fun q => h1 ((bt_s h4 h3 b).mp q)), X0_addSideRow_b56, iI_succ]
        rw [ih fu (k + 1) n gR (fun p' h' => ho p' (List.mem_cons_of_mem _ h')) hr.tail hs (by omega) (by omega) (by omega)]
        unfold srow
        rw [List.filterMap_cons, hq]
