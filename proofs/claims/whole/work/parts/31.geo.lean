/-! The pieces: corners X, Y and ways U, V, as integers -/
abbrev tGe : Type := (Nat → Int) × (Nat → Int) × (Nat → Int) × (Nat → Int)
abbrev tGe.X (G : tGe) : Nat → Int := G.1
abbrev tGe.Y (G : tGe) : Nat → Int := G.2.1
abbrev tGe.U (G : tGe) : Nat → Int := G.2.2.1
abbrev tGe.V (G : tGe) : Nat → Int := G.2.2.2
def gok (G : tGe) : Prop := ∀ i, (-1000 ≤ G.X i ∧ G.X i ≤ 1000) ∧ (-1000 ≤ G.Y i ∧ G.Y i ≤ 1000) ∧ (-1000 ≤ G.X i + G.U i ∧ G.X i + G.U i ≤ 1000) ∧ (-1000 ≤ G.Y i + G.V i ∧ G.Y i + G.V i ≤ 1000)
def rlP (G : tGe) (gP : tPi) : Prop := ∀ i, gP.x0 i = iI (G.X i) ∧ gP.y0 i = iI (G.Y i) ∧ gP.x1 i = iI (G.X i + G.U i) ∧ gP.y1 i = iI (G.Y i + G.V i)
def rlG (G : tGe) (mG : tmG) : Prop := ∀ i, mG.px i = iI (G.X i) ∧ mG.py i = iI (G.Y i) ∧ mG.dx i = iI (G.U i) ∧ mG.dy i = iI (G.V i)
def sd (G : tGe) (j : Nat) (x y : Int) : Int := G.U j * (y - G.Y j) - G.V j * (x - G.X j)
def SD (G : tGe) (j i : Nat) : Int := sd G j (G.X i) (G.Y i)
def SL (G : tGe) (j i : Nat) : Int := G.U j * G.V i - G.V j * G.U i
theorem zck_n {α : Type} {j n : Nat} {k : Option α} (h : j < n) (hn : n < 2147483648) : zck (iI (j : Int)) n k = k := zck_i (by omega) (by omega) hn
theorem cl_n {j : Nat} (h : j < 2147483648) : (iI (j : Int)).toNatClampNeg = j := by rw [iI_cl ⟨by omega, by omega⟩]; omega
theorem mul_bd {a b m n : Int} (h1 : -m ≤ a) (h2 : a ≤ m) (h3 : -n ≤ b) (h4 : b ≤ n) : -(m * n) ≤ a * b ∧ a * b ≤ m * n := by
  have hm : 0 ≤ m := by omega
  have hn : 0 ≤ n := by omega
  constructor
  · have e1 : 0 ≤ (m + a) * (n + b) := Int.mul_nonneg (by omega) (by omega)
    have e2 : 0 ≤ (m - a) * (n - b) := Int.mul_nonneg (by omega) (by omega)
    have e3 : (m + a) * (n + b) + (m - a) * (n - b) = 2 * (m * n) + 2 * (a * b) := by grind
    omega
  · have e1 : 0 ≤ (m + a) * (n - b) := Int.mul_nonneg (by omega) (by omega)
    have e2 : 0 ≤ (m - a) * (n + b) := Int.mul_nonneg (by omega) (by omega)
    have e3 : (m + a) * (n - b) + (m - a) * (n + b) = 2 * (m * n) - 2 * (a * b) := by grind
    omega
theorem gok.u {G : tGe} (h : gok G) (i : Nat) : -2000 ≤ G.U i ∧ G.U i ≤ 2000 := by have := h i; omega
theorem gok.v {G : tGe} (h : gok G) (i : Nat) : -2000 ≤ G.V i ∧ G.V i ≤ 2000 := by have := h i; omega
theorem sd_bd {G : tGe} (h : gok G) (j : Nat) {x y : Int} (hx : -1000 ≤ x ∧ x ≤ 1000) (hy : -1000 ≤ y ∧ y ≤ 1000) : -8000000 ≤ sd G j x y ∧ sd G j x y ≤ 8000000 := by
  have h0 := h j
  have a := mul_bd (h.u j).1 (h.u j).2 (show -2000 ≤ y - G.Y j by omega) (by omega)
  have b := mul_bd (h.v j).1 (h.v j).2 (show -2000 ≤ x - G.X j by omega) (by omega)
  unfold sd
  omega
theorem SD_bd {G : tGe} (h : gok G) (j i : Nat) : -8000000 ≤ SD G j i ∧ SD G j i ≤ 8000000 := sd_bd h j (h i).1 (h i).2.1
theorem SL_bd {G : tGe} (h : gok G) (j i : Nat) : -8000000 ≤ SL G j i ∧ SL G j i ≤ 8000000 := by
  have a := mul_bd (h.u j).1 (h.u j).2 (h.v i).1 (h.v i).2
  have b := mul_bd (h.v j).1 (h.v j).2 (h.u i).1 (h.u i).2
  unfold SL
  omega
theorem SE_eq (G : tGe) (j i : Nat) : sd G j (G.X i + G.U i) (G.Y i + G.V i) = SD G j i + SL G j i := by
  unfold SD SL sd
  grind
theorem SE_bd {G : tGe} (h : gok G) (j i : Nat) : -8000000 ≤ SD G j i + SL G j i ∧ SD G j i + SL G j i ≤ 8000000 := by
  rw [← SE_eq]
  exact sd_bd h j (h i).2.2.1 (h i).2.2.2
theorem SD_self (G : tGe) (i : Nat) : SD G i i = 0 := by unfold SD sd; grind
theorem SL_self (G : tGe) (i : Nat) : SL G i i = 0 := by unfold SL; grind
/-! A part: its piece, its first end a / b, its second end c / d -/
abbrev qP : Type := Nat × Int × Int × Int × Int
abbrev qP.o (p : qP) : Nat := p.1
abbrev qP.a (p : qP) : Int := p.2.1
abbrev qP.b (p : qP) : Int := p.2.2.1
abbrev qP.c (p : qP) : Int := p.2.2.2.1
abbrev qP.d (p : qP) : Int := p.2.2.2.2
def pok (p : qP) : Prop := p.o < 24 ∧ 0 ≤ p.a ∧ p.a ≤ p.b ∧ 0 < p.b ∧ p.b ≤ 8000000 ∧ 0 ≤ p.c ∧ p.c ≤ p.d ∧ 0 < p.d ∧ p.d ≤ 8000000 ∧ p.a * p.d < p.c * p.b
def s1 (G : tGe) (j : Nat) (p : qP) : Int := SD G j p.o * p.b + SL G j p.o * p.a
def s2 (G : tGe) (j : Nat) (p : qP) : Int := SD G j p.o * p.d + SL G j p.o * p.c
def hw (s t : Int) : Nat := if s = 0 ∧ t = 0 then 0 else if 0 ≤ s ∧ 0 ≤ t then 1 else if s ≤ 0 ∧ t ≤ 0 then 2 else if 0 < s then 3 else 4
def how (G : tGe) (j : Nat) (p : qP) : Nat := hw (s1 G j p) (s2 G j p)
def up (G : tGe) (j i : Nat) : Int := if SL G j i < 0 then SD G j i else -SD G j i
def low (G : tGe) (j i : Nat) : Int := if SL G j i < 0 then -SL G j i else SL G j i
def ctf (G : tGe) (j : Nat) (p : qP) : Option qP :=
  if how G j p = 1 then some p else if how G j p = 3 then some (p.o, p.a, p.b, up G j p.o, low G j p.o) else if how G j p = 4 then some (p.o, up G j p.o, low G j p.o, p.c, p.d) else none
def ctb (G : tGe) (j : Nat) (p : qP) : Option qP :=
  if how G j p = 2 then some p else if how G j p = 3 then some (p.o, up G j p.o, low G j p.o, p.c, p.d) else if how G j p = 4 then some (p.o, p.a, p.b, up G j p.o, low G j p.o) else none
def frow (G : tGe) (j : Nat) (r : List qP) : List qP := r.filterMap (ctf G j)
def brow (G : tGe) (j : Nat) (r : List qP) : List qP := r.filterMap (ctb G j)
def onrow (G : tGe) (j : Nat) (r : List qP) : List qP := r.filter (fun p => how G j p = 0)
theorem s_bd {G : tGe} (h : gok G) (j : Nat) {p : qP} (hp : pok p) : (-128000000000000 ≤ s1 G j p ∧ s1 G j p ≤ 128000000000000) ∧ (-128000000000000 ≤ s2 G j p ∧ s2 G j p ≤ 128000000000000) := by
  obtain ⟨-, h1, h2, h3, h4, h5, h6, h7, h8, -⟩ := hp
  have a := mul_bd (SD_bd h j p.o).1 (SD_bd h j p.o).2 (show -8000000 ≤ p.b by omega) h4
  have b := mul_bd (SL_bd h j p.o).1 (SL_bd h j p.o).2 (show -8000000 ≤ p.a by omega) (by omega)
  have c := mul_bd (SD_bd h j p.o).1 (SD_bd h j p.o).2 (show -8000000 ≤ p.d by omega) h8
  have d := mul_bd (SL_bd h j p.o).1 (SL_bd h j p.o).2 (show -8000000 ≤ p.c by omega) (by omega)
  unfold s1 s2
  omega
/-- what a cut says of the line: from front to back -/
theorem cut3 {G : tGe} {j : Nat} {p : qP} (hp : pok p) (h1 : 0 < s1 G j p) (h2 : s2 G j p < 0) : SL G j p.o < 0 ∧ 0 < SD G j p.o ∧ SD G j p.o + SL G j p.o < 0 := by
  obtain ⟨-, g1, g2, g3, g4, g5, g6, g7, g8, g9⟩ := hp
  unfold s1 at h1
  unfold s2 at h2
  generalize SD G j p.o = S at *
  generalize SL G j p.o = L at *
  generalize p.a = a at *
  generalize p.b = b at *
  generalize p.c = c at *
  generalize p.d = d at *
  have k1 : 0 < (S * b + L * a) * d := Int.mul_pos h1 g7
  have k2 : 0 < (-(S * d + L * c)) * b := Int.mul_pos (by omega) g3
  have k3 : (S * b + L * a) * d + (-(S * d + L * c)) * b = L * (a * d - c * b) := by grind
  have k4 : L < 0 := by
    rcases Int.lt_or_le L 0 with q | q
    · exact q
    · have := Int.mul_nonneg q (show 0 ≤ c * b - a * d by omega)
      have e : L * (c * b - a * d) = -(L * (a * d - c * b)) := by grind
      omega
  refine ⟨k4, ?_, ?_⟩
  · have m1 : 0 ≤ (-L) * a := Int.mul_nonneg (by omega) g1
    have m2 : 0 < S * b := by
      have e : (-L) * a = -(L * a) := by grind
      omega
    rcases Int.lt_or_le 0 S with q | q
    · exact q
    · have := Int.mul_nonneg (show 0 ≤ -S by omega) (show 0 ≤ b by omega)
      have e : (-S) * b = -(S * b) := by grind
      omega
  · have m1 : 0 ≤ (-L) * (d - c) := Int.mul_nonneg (by omega) (by omega)
    have m2 : (S + L) * d < 0 := by
      have e : (S + L) * d = (S * d + L * c) - (-L) * (d - c) := by grind
      omega
    rcases Int.lt_or_le (S + L) 0 with q | q
    · exact q
    · have := Int.mul_nonneg q (show 0 ≤ d by omega)
      omega
theorem cut4 {G : tGe} {j : Nat} {p : qP} (hp : pok p) (h1 : s1 G j p < 0) (h2 : 0 < s2 G j p) : 0 < SL G j p.o ∧ SD G j p.o < 0 ∧ 0 < SD G j p.o + SL G j p.o := by
  obtain ⟨-, g1, g2, g3, g4, g5, g6, g7, g8, g9⟩ := hp
  unfold s1 at h1
  unfold s2 at h2
  generalize SD G j p.o = S at *
  generalize SL G j p.o = L at *
  generalize p.a = a at *
  generalize p.b = b at *
  generalize p.c = c at *
  generalize p.d = d at *
  have k1 : 0 < (-(S * b + L * a)) * d := Int.mul_pos (by omega) g7
  have k2 : 0 < (S * d + L * c) * b := Int.mul_pos h2 g3
  have k3 : (-(S * b + L * a)) * d + (S * d + L * c) * b = L * (c * b - a * d) := by grind
  have k4 : 0 < L := by
    rcases Int.lt_or_le 0 L with q | q
    · exact q
    · have := Int.mul_nonneg (show 0 ≤ -L by omega) (show 0 ≤ c * b - a * d by omega)
      have e : (-L) * (c * b - a * d) = -(L * (c * b - a * d)) := by grind
      omega
  refine ⟨k4, ?_, ?_⟩
  · have m1 : 0 ≤ L * a := Int.mul_nonneg (by omega) g1
    rcases Int.lt_or_le S 0 with q | q
    · exact q
    · have := Int.mul_nonneg q (show 0 ≤ b by omega)
      omega
  · have m1 : 0 ≤ L * (d - c) := Int.mul_nonneg (by omega) (by omega)
    have m2 : 0 < (S + L) * d := by
      have e : (S + L) * d = (S * d + L * c) + L * (d - c) := by grind
      omega
    rcases Int.lt_or_le 0 (S + L) with q | q
    · exact q
    · have := Int.mul_nonneg (show 0 ≤ -(S + L) by omega) (show 0 ≤ d by omega)
      have e : (-(S + L)) * d = -((S + L) * d) := by grind
      omega
theorem how_3 {G : tGe} {j : Nat} {p : qP} : how G j p = 3 ↔ 0 < s1 G j p ∧ s2 G j p < 0 := by
  unfold how hw
  constructor
  · intro h
    repeat' split at h
    all_goals omega
  · intro h
    rw [if_neg (by omega), if_neg (by omega), if_neg (by omega), if_pos h.1]
theorem how_4 {G : tGe} {j : Nat} {p : qP} : how G j p = 4 ↔ s1 G j p < 0 ∧ 0 < s2 G j p := by
  unfold how hw
  constructor
  · intro h
    repeat' split at h
    all_goals omega
  · intro h
    rw [if_neg (by omega), if_neg (by omega), if_neg (by omega), if_neg (by omega)]
theorem how_1 {G : tGe} {j : Nat} {p : qP} : how G j p = 1 ↔ 0 ≤ s1 G j p ∧ 0 ≤ s2 G j p ∧ ¬ (s1 G j p = 0 ∧ s2 G j p = 0) := by
  unfold how hw
  constructor
  · intro h
    repeat' split at h
    all_goals omega
  · intro h
    rw [if_neg (by omega), if_pos (by omega)]
theorem how_2 {G : tGe} {j : Nat} {p : qP} : how G j p = 2 ↔ s1 G j p ≤ 0 ∧ s2 G j p ≤ 0 ∧ ¬ (s1 G j p = 0 ∧ s2 G j p = 0) := by
  unfold how hw
  constructor
  · intro h
    repeat' split at h
    all_goals omega
  · intro h
    rw [if_neg (by omega), if_neg (by omega), if_pos (by omega)]
theorem how_0 {G : tGe} {j : Nat} {p : qP} : how G j p = 0 ↔ s1 G j p = 0 ∧ s2 G j p = 0 := by
  unfold how hw
  constructor
  · intro h
    repeat' split at h
    all_goals omega
  · intro h
    rw [if_pos h]
theorem how_le (G : tGe) (j : Nat) (p : qP) : how G j p ≤ 4 := by
  unfold how hw
  repeat' split
  all_goals omega
theorem cut3' {G : tGe} {j : Nat} {p : qP} (hp : pok p) (h : how G j p = 3) : SL G j p.o < 0 ∧ 0 < SD G j p.o ∧ SD G j p.o + SL G j p.o < 0 ∧ up G j p.o = SD G j p.o ∧ low G j p.o = -SL G j p.o := by
  have c := cut3 hp (how_3.mp h).1 (how_3.mp h).2
  refine ⟨c.1, c.2.1, c.2.2, ?_, ?_⟩
  · rw [up, if_pos c.1]
  · rw [low, if_pos c.1]
theorem cut4' {G : tGe} {j : Nat} {p : qP} (hp : pok p) (h : how G j p = 4) : 0 < SL G j p.o ∧ SD G j p.o < 0 ∧ 0 < SD G j p.o + SL G j p.o ∧ up G j p.o = -SD G j p.o ∧ low G j p.o = SL G j p.o := by
  have c := cut4 hp (how_4.mp h).1 (how_4.mp h).2
  refine ⟨c.1, c.2.1, c.2.2, ?_, ?_⟩
  · rw [up, if_neg (by omega)]
  · rw [low, if_neg (by omega)]
theorem pok_mk {o : Nat} {a b c d : Int} (h : o < 24 ∧ 0 ≤ a ∧ a ≤ b ∧ 0 < b ∧ b ≤ 8000000 ∧ 0 ≤ c ∧ c ≤ d ∧ 0 < d ∧ d ≤ 8000000 ∧ a * d < c * b) : pok (o, a, b, c, d) := h
theorem pok_lo {G : tGe} (hG : gok G) {j : Nat} {p : qP} (hp : pok p) (h : how G j p = 3 ∨ how G j p = 4) : pok (p.o, p.a, p.b, up G j p.o, low G j p.o) := by
  have hb := SL_bd hG j p.o
  rcases h with h | h
  · obtain ⟨c1, c2, c3, c4, c5⟩ := cut3' hp h
    have h1 := (how_3.mp h).1
    obtain ⟨g0, g1, g2, g3, g4, g5, g6, g7, g8, g9⟩ := hp
    unfold s1 at h1
    rw [c4, c5]
    have e : p.a * -SL G j p.o = -(SL G j p.o * p.a) := by grind
    exact pok_mk ⟨g0, g1, g2, g3, g4, by omega, by omega, by omega, by omega, by omega⟩
  · obtain ⟨c1, c2, c3, c4, c5⟩ := cut4' hp h
    have h1 := (how_4.mp h).1
    obtain ⟨g0, g1, g2, g3, g4, g5, g6, g7, g8, g9⟩ := hp
    unfold s1 at h1
    rw [c4, c5]
    have e : p.a * SL G j p.o = SL G j p.o * p.a := by grind
    have e2 : -SD G j p.o * p.b = -(SD G j p.o * p.b) := by grind
    exact pok_mk ⟨g0, g1, g2, g3, g4, by omega, by omega, by omega, by omega, by omega⟩
theorem pok_hi {G : tGe} (hG : gok G) {j : Nat} {p : qP} (hp : pok p) (h : how G j p = 3 ∨ how G j p = 4) : pok (p.o, up G j p.o, low G j p.o, p.c, p.d) := by
  have hb := SL_bd hG j p.o
  rcases h with h | h
  · obtain ⟨c1, c2, c3, c4, c5⟩ := cut3' hp h
    have h1 := (how_3.mp h).2
    obtain ⟨g0, g1, g2, g3, g4, g5, g6, g7, g8, g9⟩ := hp
    unfold s2 at h1
    rw [c4, c5]
    have e : p.c * -SL G j p.o = -(SL G j p.o * p.c) := by grind
    exact pok_mk ⟨g0, by omega, by omega, by omega, by omega, g5, g6, g7, g8, by omega⟩
  · obtain ⟨c1, c2, c3, c4, c5⟩ := cut4' hp h
    have h1 := (how_4.mp h).2
    obtain ⟨g0, g1, g2, g3, g4, g5, g6, g7, g8, g9⟩ := hp
    unfold s2 at h1
    rw [c4, c5]
    have e : p.c * SL G j p.o = SL G j p.o * p.c := by grind
    have e2 : -SD G j p.o * p.d = -(SD G j p.o * p.d) := by grind
    exact pok_mk ⟨g0, by omega, by omega, by omega, by omega, g5, g6, g7, g8, by omega⟩
theorem ctf_ok {G : tGe} (hG : gok G) {j : Nat} {p q : qP} (hp : pok p) (h : ctf G j p = some q) : pok q ∧ q.o = p.o := by
  unfold ctf at h
  split at h
  · cases h; exact ⟨hp, rfl⟩
  · split at h
    · cases h; exact ⟨pok_lo hG hp (Or.inl ‹_›), rfl⟩
    · split at h
      · cases h; exact ⟨pok_hi hG hp (Or.inr ‹_›), rfl⟩
      · cases h
theorem ctb_ok {G : tGe} (hG : gok G) {j : Nat} {p q : qP} (hp : pok p) (h : ctb G j p = some q) : pok q ∧ q.o = p.o := by
  unfold ctb at h
  split at h
  · cases h; exact ⟨hp, rfl⟩
  · split at h
    · cases h; exact ⟨pok_hi hG hp (Or.inl ‹_›), rfl⟩
    · split at h
      · cases h; exact ⟨pok_lo hG hp (Or.inr ‹_›), rfl⟩
      · cases h
