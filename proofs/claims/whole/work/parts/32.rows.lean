/-! The class: sides, rows -/
theorem e_cross (a b c d : Int) : X3_cross (iI a) (iI b) (iI c) (iI d) = some (iI (a * d - b * c)) := by
  simp only [X3_cross, iI_mul, iI_sub]
theorem e_sideOf {G : tGe} {gP : tPi} (hP : rlP G gP) {j : Nat} (hj : j < 24) (x y : Int) : X3_sideOf gP (iI j) (iI x) (iI y) = some (iI (sd G j x y)) := by
  obtain ⟨h1, h2, h3, h4⟩ := hP j
  simp only [X3_sideOf, zck_n (n := 24) hj (by decide), cl_n (show j < 2147483648 by omega), h1, h2, h3, h4, iI_sub, iI_mul, Option.bind_some]
  have e : (G.X j + G.U j - G.X j) * (y - G.Y j) - (G.Y j + G.V j - G.Y j) * (x - G.X j) = sd G j x y := by unfold sd; grind
  rw [e]
theorem e_first {G : tGe} {gP : tPi} (hP : rlP G gP) {i j : Nat} (hj : j < 24) : X3_sideOf gP (iI j) ((tPi.x0 gP) i) ((tPi.y0 gP) i) = some (iI (SD G j i)) := by
  obtain ⟨h1, h2, h3, h4⟩ := hP i
  rw [h1, h2, e_sideOf hP hj]
  rfl
theorem e_second {G : tGe} {gP : tPi} (hP : rlP G gP) {i j : Nat} (hj : j < 24) : X3_sideOf gP (iI j) ((tPi.x1 gP) i) ((tPi.y1 gP) i) = some (iI (SD G j i + SL G j i)) := by
  obtain ⟨h1, h2, h3, h4⟩ := hP i
  rw [h3, h4, e_sideOf hP hj, SE_eq]
def sg (x : Int) : Int := if 0 < x then 1 else if x < 0 then 2 else 0
theorem e_between {s t n d : Int} (hs : i3 s) (ht : i3 t) (hn : i3 n) (hd : i3 (d - n)) (h : i6 (s * (d - n) + t * n)) : X0_sideBetween (iI s) (iI t) (iI n) (iI d) = some (iI (sg (s * (d - n) + t * n))) := by
  simp only [X0_sideBetween, zl, iI_sub, iI_l hs, iI_l ht, iI_l hn, iI_l hd, lI_mul, lI_add]
  rw [cl_0]
  have z6 : i6 0 := by unfold i6; omega
  unfold sg
  by_cases h1 : 0 < s * (d - n) + t * n
  · rw [if_neg (by rw [cmp_le h z6]; omega), if_pos h1]; rfl
  · rw [if_pos (by rw [cmp_le h z6]; omega), if_neg h1]
    by_cases h2 : s * (d - n) + t * n < 0
    · rw [if_neg (by rw [cmp_ge h z6]; omega), if_pos h2]; rfl
    · rw [if_pos (by rw [cmp_ge h z6]; omega), if_neg h2]; rfl
def bt (n : Nat) : Int := if n = 0 then 0 else if n = 1 then 1 else if n = 2 then 2 else 3
theorem sg_p {s : Int} (h : 0 < s) : sg s = 1 := by unfold sg; rw [if_pos h]
theorem sg_n {s : Int} (h : s < 0) : sg s = 2 := by unfold sg; rw [if_neg (by omega), if_pos h]
theorem sg_z {s : Int} (h : s = 0) : sg s = 0 := by unfold sg; rw [if_neg (by omega), if_neg (by omega)]
theorem hw_0 {s t : Int} (h : s = 0 ∧ t = 0) : hw s t = 0 := by unfold hw; rw [if_pos h]
theorem hw_1 {s t : Int} (h : ¬ (s = 0 ∧ t = 0)) (h1 : 0 ≤ s ∧ 0 ≤ t) : hw s t = 1 := by unfold hw; rw [if_neg h, if_pos h1]
theorem hw_2 {s t : Int} (h : ¬ (s = 0 ∧ t = 0)) (h1 : s ≤ 0 ∧ t ≤ 0) : hw s t = 2 := by unfold hw; rw [if_neg h, if_neg (by omega), if_pos h1]
theorem hw_3 {s t : Int} (h : 0 < s) (h1 : t < 0) : hw s t = 3 := by unfold hw; rw [if_neg (by omega), if_neg (by omega), if_neg (by omega), if_pos h]
theorem hw_4 {s t : Int} (h : s < 0) (h1 : 0 < t) : hw s t = 4 := by unfold hw; rw [if_neg (by omega), if_neg (by omega), if_neg (by omega), if_neg (by omega)]
theorem or_sg (s t : Int) : iI (sg s) ||| iI (sg t) = iI (bt (hw s t)) := by
  rcases Int.lt_trichotomy s 0 with h | h | h <;> rcases Int.lt_trichotomy t 0 with g | g | g
  · rw [sg_n h, sg_n g, hw_2 (by omega) (by omega)]; decide
  · rw [sg_n h, sg_z g, hw_2 (by omega) (by omega)]; decide
  · rw [sg_n h, sg_p g, hw_4 h g]; decide
  · rw [sg_z h, sg_n g, hw_2 (by omega) (by omega)]; decide
  · rw [sg_z h, sg_z g, hw_0 ⟨h, g⟩]; decide
  · rw [sg_z h, sg_p g, hw_1 (by omega) (by omega)]; decide
  · rw [sg_p h, sg_n g, hw_3 h g]; decide
  · rw [sg_p h, sg_z g, hw_1 (by omega) (by omega)]; decide
  · rw [sg_p h, sg_p g, hw_1 (by omega) (by omega)]; decide
/-- a row of parts lies in the arrays from a place on -/
def rpR (g : tPa) (q : Nat) (r : List qP) : Prop := ∀ (k : Nat) (p : qP), r[k]? = some p → g.owner (q + k) = iI (p.o : Int) ∧ g.n0 (q + k) = iI p.a ∧ g.d0 (q + k) = iI p.b ∧ g.n1 (q + k) = iI p.c ∧ g.d1 (q + k) = iI p.d
theorem rpR.head {g : tPa} {q : Nat} {p : qP} {r : List qP} (h : rpR g q (p :: r)) : g.owner q = iI (p.o : Int) ∧ g.n0 q = iI p.a ∧ g.d0 q = iI p.b ∧ g.n1 q = iI p.c ∧ g.d1 q = iI p.d := h 0 p rfl
theorem rpR.tail {g : tPa} {q : Nat} {p : qP} {r : List qP} (h : rpR g q (p :: r)) : rpR g (q + 1) r := by
  intro k p' hk
  have := h (k + 1) p' (by rw [List.getElem?_cons_succ]; exact hk)
  rw [show q + 1 + k = q + (k + 1) by omega]
  exact this
theorem e_sides {G : tGe} {gP : tPi} {gR : tPa} (hG : gok G) (hP : rlP G gP) {k j : Nat} {p : qP} (hk : k < 300) (hj : j < 24) (hp : pok p) (hR : gR.owner k = iI (p.o : Int) ∧ gR.n0 k = iI p.a ∧ gR.d0 k = iI p.b ∧ gR.n1 k = iI p.c ∧ gR.d1 k = iI p.d) :
    X0_sides gP gR (iI k) (iI j) = some (iI (bt (how G j p))) := by
  obtain ⟨r1, r2, r3, r4, r5⟩ := hR
  have hb := s_bd hG j hp
  have b1 := SD_bd hG j p.o
  have b2 := SE_bd hG j p.o
  obtain ⟨g0, g1, g2, g3, g4, g5, g6, g7, g8, g9⟩ := id hp
  have e1 : SD G j p.o * (p.b - p.a) + (SD G j p.o + SL G j p.o) * p.a = s1 G j p := by unfold s1; grind
  have e2 : SD G j p.o * (p.d - p.c) + (SD G j p.o + SL G j p.o) * p.c = s2 G j p := by unfold s2; grind
  have t1 : X0_sideBetween (iI (SD G j p.o)) (iI (SD G j p.o + SL G j p.o)) (iI p.a) (iI p.b) = some (iI (sg (s1 G j p))) := by
    rw [e_between (by unfold i3; omega) (by unfold i3; omega) (by unfold i3; omega) (by unfold i3; omega) (by rw [e1]; unfold i6; omega), e1]
  have t2 : X0_sideBetween (iI (SD G j p.o)) (iI (SD G j p.o + SL G j p.o)) (iI p.c) (iI p.d) = some (iI (sg (s2 G j p))) := by
    rw [e_between (by unfold i3; omega) (by unfold i3; omega) (by unfold i3; omega) (by unfold i3; omega) (by rw [e2]; unfold i6; omega), e2]
  simp only [X0_sides, zl, zck_n (n := 300) hk (by decide), cl_n (show k < 2147483648 by omega), r1, r2, r3, r4, r5, zck_n (n := 24) g0 (by decide), cl_n (show p.o < 2147483648 by omega), e_first hP hj, e_second hP hj, Option.bind_some, t1, t2, or_sg]
  rfl
/-- one part more -/
def psh (g : tPa) (n : Nat) (p : qP) : tPa := (upd g.owner n (iI (p.o : Int)), upd g.n0 n (iI p.a), upd g.d0 n (iI p.b), upd g.n1 n (iI p.c), upd g.d1 n (iI p.d), iI ((n + 1 : Nat) : Int))
def pshs (g : tPa) (n : Nat) : List qP → tPa
  | [] => g
  | p :: r => pshs (psh g n p) (n + 1) r
theorem upd_ne {f : Nat → Int32} {k j : Nat} {x : Int32} (h : j ≠ k) : upd f k x j = f j := by unfold upd; rw [if_neg h]
theorem upd_eq {f : Nat → Int32} {k : Nat} {x : Int32} : upd f k x k = x := by unfold upd; rw [if_pos rfl]
theorem e_add_R {g : tPa} {n : Nat} (hs : g.size = iI (n : Int)) (hn : n < 300) (p : qP) : X2_add_R g (iI (p.o : Int)) (iI p.a) (iI p.b) (iI p.c) (iI p.d) = some (psh g n p) := by
  have hlt : iI (n : Int) < (300 : Int32) := by rw [c_300, iI_lt ⟨by omega, by omega⟩ (by unfold i3; omega)]; omega
  simp only [X2_add_R, hs, if_pos hlt, zck_n (n := 300) hn (by decide), cl_n (show n < 2147483648 by omega)]
  rw [c_1, iI_add]
  rfl
theorem e_add_Q {g : tPa} {n : Nat} (hs : g.size = iI (n : Int)) (hn : n < 300) (p : qP) : X2_add_Q g (iI (p.o : Int)) (iI p.a) (iI p.b) (iI p.c) (iI p.d) = some (psh g n p) := e_add_R hs hn p
theorem psh_size (g : tPa) (n : Nat) (p : qP) : (psh g n p).size = iI ((n + 1 : Nat) : Int) := rfl
theorem psh_keep {g : tPa} {n : Nat} {p : qP} {k : Nat} (h : k ≠ n) : (psh g n p).owner k = g.owner k ∧ (psh g n p).n0 k = g.n0 k ∧ (psh g n p).d0 k = g.d0 k ∧ (psh g n p).n1 k = g.n1 k ∧ (psh g n p).d1 k = g.d1 k := ⟨upd_ne h, upd_ne h, upd_ne h, upd_ne h, upd_ne h⟩
theorem psh_at (g : tPa) (n : Nat) (p : qP) : (psh g n p).owner n = iI (p.o : Int) ∧ (psh g n p).n0 n = iI p.a ∧ (psh g n p).d0 n = iI p.b ∧ (psh g n p).n1 n = iI p.c ∧ (psh g n p).d1 n = iI p.d := ⟨upd_eq, upd_eq, upd_eq, upd_eq, upd_eq⟩
/-- the first n entries of two groups of rows are the same -/
def smR (g g' : tPa) (n : Nat) : Prop := ∀ k, k < n → g'.owner k = g.owner k ∧ g'.n0 k = g.n0 k ∧ g'.d0 k = g.d0 k ∧ g'.n1 k = g.n1 k ∧ g'.d1 k = g.d1 k
theorem smR.rfl' {g : tPa} {n : Nat} : smR g g n := fun _ _ => ⟨rfl, rfl, rfl, rfl, rfl⟩
theorem smR.trans {g g' g'' : tPa} {n n' : Nat} (h : smR g g' n) (h' : smR g' g'' n') (hn : n ≤ n') : smR g g'' n := by
  intro k hk
  obtain ⟨a1, a2, a3, a4, a5⟩ := h k hk
  obtain ⟨b1, b2, b3, b4, b5⟩ := h' k (by omega)
  exact ⟨b1.trans a1, b2.trans a2, b3.trans a3, b4.trans a4, b5.trans a5⟩
theorem smR.mono {g g' : tPa} {n n' : Nat} (h : smR g g' n) (hn : n' ≤ n) : smR g g' n' := fun k hk => h k (by omega)
theorem rpR.keep {g g' : tPa} {q n : Nat} {r : List qP} (h : rpR g q r) (hs : smR g g' n) (hl : q + r.length ≤ n) : rpR g' q r := by
  intro k p hk
  have hk' : k < r.length := (List.getElem?_eq_some_iff.mp hk).1
  obtain ⟨a1, a2, a3, a4, a5⟩ := h k p hk
  obtain ⟨b1, b2, b3, b4, b5⟩ := hs (q + k) (by omega)
  exact ⟨b1.trans a1, b2.trans a2, b3.trans a3, b4.trans a4, b5.trans a5⟩
theorem smR.psh {g : tPa} {n : Nat} {p : qP} : smR g (psh g n p) n := fun k hk => psh_keep (by omega)
theorem pshs_size : ∀ (r : List qP) (g : tPa) (n : Nat), g.size = iI (n : Int) → (pshs g n r).size = iI ((n + r.length : Nat) : Int)
  | [], g, n, h => h
  | p :: r, g, n, _ => by
    rw [pshs, pshs_size r (psh g n p) (n + 1) rfl, List.length_cons, show n + 1 + r.length = n + (r.length + 1) by omega]
theorem smR.pshs : ∀ (r : List qP) (g : tPa) (n : Nat), smR g (pshs g n r) n
  | [], g, n => smR.rfl'
  | p :: r, g, n => smR.trans smR.psh (smR.pshs r (Jvm.Pilot.@@N@@.psh g n p) (n + 1)) (by omega)
theorem rpR.pshs : ∀ (r : List qP) (g : tPa) (n : Nat), rpR (Jvm.Pilot.@@N@@.pshs g n r) n r
  | [], g, n => fun k p h => by simp at h
  | p :: r, g, n => by
    intro k p' hk
    cases k with
    | zero =>
      rw [List.getElem?_cons_zero] at hk
      cases hk
      have h1 := smR.pshs r (psh g n p) (n + 1) n (by omega)
      obtain ⟨a1, a2, a3, a4, a5⟩ := psh_at g n p
      exact ⟨h1.1.trans a1, h1.2.1.trans a2, h1.2.2.1.trans a3, h1.2.2.2.1.trans a4, h1.2.2.2.2.trans a5⟩
    | succ k =>
      rw [List.getElem?_cons_succ] at hk
      have := rpR.pshs r (psh g n p) (n + 1) k p' hk
      rw [show n + (k + 1) = n + 1 + k by omega]
      exact this
theorem pshs_app : ∀ (r r' : List qP) (g : tPa) (n : Nat), pshs g n (r ++ r') = pshs (pshs g n r) (n + r.length) r'
  | [], r', g, n => rfl
  | p :: r, r', g, n => by
    rw [List.cons_append, pshs, pshs_app r r', pshs, List.length_cons, show n + 1 + r.length = n + (r.length + 1) by omega]
