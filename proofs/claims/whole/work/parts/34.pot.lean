/-! How many parts at most: a row's parts and the pairs of them that cross -/
/-- side of the crossing of the lines of i and k along k, as line j sees it, times what is below -/
def ey (G : tGe) (j i k : Nat) : Int := SD G j k * SL G i k - SL G j k * SD G i k
theorem ey_sym (G : tGe) (j i k : Nat) : ey G j i k = -ey G j k i := by
  unfold ey SD SL sd
  grind
theorem SL_sym (G : tGe) (i k : Nat) : SL G i k = -SL G k i := by unfold SL; grind
/-- the line of i's piece cuts the part p -/
def cutb (G : tGe) (i : Nat) (p : qP) : Bool := decide (how G i p = 3 ∨ how G i p = 4)
theorem cutb_iff {G : tGe} {i : Nat} {p : qP} : cutb G i p = true ↔ (0 < s1 G i p ∧ s2 G i p < 0) ∨ (s1 G i p < 0 ∧ 0 < s2 G i p) := by
  unfold cutb
  rw [decide_eq_true_iff, how_3, how_4]
def crs (G : tGe) (p q : qP) : Bool := cutb G p.o q || cutb G q.o p
theorem crs_sym (G : tGe) (p q : qP) : crs G p q = crs G q p := by unfold crs; exact Bool.or_comm _ _
/-- a line that cuts a part p of the front half of q cuts q too, and the crossing is in front -/
theorem sub_cut {a b c d a' b' c' d' S L : Int} (hb : 0 < b) (hd : 0 < d) (hb' : 0 < b') (hd' : 0 < d') (h1 : a * b' ≤ a' * b) (h2 : c' * d ≤ c * d') (h : (0 < S * b' + L * a' ∧ S * d' + L * c' < 0) ∨ (S * b' + L * a' < 0 ∧ 0 < S * d' + L * c')) (h3 : a' * d' < c' * b') :
    (0 < S * b + L * a ∧ S * d + L * c < 0) ∨ (S * b + L * a < 0 ∧ 0 < S * d + L * c) := by
  have k : ∀ {S L : Int}, 0 < S * b' + L * a' → S * d' + L * c' < 0 → 0 < S * b + L * a ∧ S * d + L * c < 0 := by
    intro S L g1 g2
    have k1 : 0 < (S * b' + L * a') * d' := Int.mul_pos g1 hd'
    have k2 : 0 < (-(S * d' + L * c')) * b' := Int.mul_pos (by omega) hb'
    have k3 : (S * b' + L * a') * d' + (-(S * d' + L * c')) * b' = L * (a' * d' - c' * b') := by grind
    have k4 : L < 0 := by
      rcases Int.lt_or_le L 0 with q | q
      · exact q
      · have := Int.mul_nonneg q (show 0 ≤ c' * b' - a' * d' by omega)
        have e : L * (c' * b' - a' * d') = -(L * (a' * d' - c' * b')) := by grind
        omega
    constructor
    · have m1 : 0 ≤ (-L) * (a' * b - a * b') := Int.mul_nonneg (by omega) (by omega)
      have m2 : 0 < (S * b' + L * a') * b := Int.mul_pos g1 hb
      have e : (S * b + L * a) * b' = (S * b' + L * a') * b + (-L) * (a' * b - a * b') := by grind
      rcases Int.lt_or_le 0 (S * b + L * a) with q | q
      · exact q
      · have := Int.mul_nonneg (show 0 ≤ -(S * b + L * a) by omega) (show 0 ≤ b' by omega)
        have e2 : (-(S * b + L * a)) * b' = -((S * b + L * a) * b') := by grind
        omega
    · have m1 : 0 ≤ (-L) * (c * d' - c' * d) := Int.mul_nonneg (by omega) (by omega)
      have m2 : 0 < (-(S * d' + L * c')) * d := Int.mul_pos (by omega) hd
      have e : (S * d + L * c) * d' = -((-(S * d' + L * c')) * d) - (-L) * (c * d' - c' * d) := by grind
      rcases Int.lt_or_le (S * d + L * c) 0 with q | q
      · exact q
      · have := Int.mul_nonneg q (show 0 ≤ d' by omega)
        omega
  rcases h with ⟨g1, g2⟩ | ⟨g1, g2⟩
  · exact Or.inl (k g1 g2)
  · refine Or.inr ?_
    have e1 : (-S) * b' + (-L) * a' = -(S * b' + L * a') := by grind
    have e2 : (-S) * d' + (-L) * c' = -(S * d' + L * c') := by grind
    have := k (S := -S) (L := -L) (by omega) (by omega)
    have e3 : (-S) * b + (-L) * a = -(S * b + L * a) := by grind
    have e4 : (-S) * d + (-L) * c = -(S * d + L * c) := by grind
    omega
/-- the sign of line (S', L') at the crossing with line (S, L), between two ends where (S', L') is not below 0, not both 0 -/
theorem cross_pos {a b c d S L S' L' : Int} (hb : 0 < b) (hd : 0 < d) (h3 : a * d < c * b) (h : (0 < S * b + L * a ∧ S * d + L * c < 0) ∨ (S * b + L * a < 0 ∧ 0 < S * d + L * c)) (g1 : 0 ≤ S' * b + L' * a) (g2 : 0 ≤ S' * d + L' * c) (g3 : ¬ (S' * b + L' * a = 0 ∧ S' * d + L' * c = 0)) :
    (0 < L → 0 < S' * L - L' * S) ∧ (L < 0 → S' * L - L' * S < 0) ∧ L ≠ 0 := by
  -- (S'L - L'S) (c b - a d) = (S' b + L' a)(S d + L c) ... with signs
  have e : (S' * L - L' * S) * (c * b - a * d) = (S' * b + L' * a) * (S * d + L * c) - (S' * d + L' * c) * (S * b + L * a) := by grind
  have eL : L * (c * b - a * d) = (S * d + L * c) * b - (S * b + L * a) * d := by grind
  have hk : 0 < c * b - a * d := by omega
  generalize hx : S' * b + L' * a = x at *
  generalize hy : S' * d + L' * c = y at *
  generalize hu : S * b + L * a = u at *
  generalize hv : S * d + L * c = v at *
  generalize c * b - a * d = w at *
  generalize hz : S' * L - L' * S = z at *
  rcases h with ⟨p1, p2⟩ | ⟨p1, p2⟩
  · have n1 : 0 ≤ x * (-v) := Int.mul_nonneg g1 (by omega)
    have n2 : 0 ≤ y * u := Int.mul_nonneg g2 (by omega)
    have n3 : 0 < x * (-v) + y * u := by
      rcases (show 0 < x ∨ 0 < y by omega) with q | q
      · have := Int.mul_pos q (show 0 < -v by omega)
        omega
      · have := Int.mul_pos q p1
        omega
    have e1 : x * (-v) = -(x * v) := by grind
    have hzn : z < 0 := by
      rcases Int.lt_or_le z 0 with q | q
      · exact q
      · have := Int.mul_nonneg q (show 0 ≤ w by omega)
        omega
    have m1 : 0 < (-v) * b := Int.mul_pos (by omega) hb
    have m2 : 0 < u * d := Int.mul_pos p1 hd
    have m3 : (-v) * b = -(v * b) := by grind
    have hL : L < 0 := by
      rcases Int.lt_or_le L 0 with q | q
      · exact q
      · have := Int.mul_nonneg q (show 0 ≤ w by omega)
        omega
    omega
  · have n1 : 0 ≤ x * v := Int.mul_nonneg g1 (by omega)
    have n2 : 0 ≤ y * (-u) := Int.mul_nonneg g2 (by omega)
    have n3 : 0 < x * v + y * (-u) := by
      rcases (show 0 < x ∨ 0 < y by omega) with q | q
      · have := Int.mul_pos q p2
        omega
      · have := Int.mul_pos q (show 0 < -u by omega)
        omega
    have e1 : y * (-u) = -(y * u) := by grind
    have hzn : 0 < z := by
      rcases Int.lt_or_le 0 z with q | q
      · exact q
      · have := Int.mul_nonneg (show 0 ≤ -z by omega) (show 0 ≤ w by omega)
        have e2 : (-z) * w = -(z * w) := by grind
        omega
    have m1 : 0 < v * b := Int.mul_pos p2 hb
    have m2 : 0 < (-u) * d := Int.mul_pos (by omega) hd
    have m3 : (-u) * d = -(u * d) := by grind
    have hL : 0 < L := by
      rcases Int.lt_or_le 0 L with q | q
      · exact q
      · have := Int.mul_nonneg (show 0 ≤ -L by omega) (show 0 ≤ w by omega)
        have e2 : (-L) * w = -(L * w) := by grind
        omega
    omega
/-- what a side's part is: inside the part, and on its side -/
theorem ctf_in {G : tGe} (hG : gok G) {j : Nat} {p q : qP} (hp : pok p) (h : ctf G j p = some q) : q.o = p.o ∧ pok q ∧ p.a * q.b ≤ q.a * p.b ∧ q.c * p.d ≤ p.c * q.d ∧ 0 ≤ s1 G j q ∧ 0 ≤ s2 G j q ∧ ¬ (s1 G j q = 0 ∧ s2 G j q = 0) := by
  obtain ⟨hq, ho⟩ := ctf_ok hG hp h
  refine ⟨ho, hq, ?_⟩
  unfold ctf at h
  split at h
  · cases h
    have := how_1.mp ‹_›
    exact ⟨Int.le_refl _, Int.le_refl _, this.1, this.2.1, this.2.2⟩
  · split at h
    · rename_i h3
      cases h
      obtain ⟨c1, c2, c3, c4, c5⟩ := cut3' hp h3
      have h2 := how_3.mp h3
      refine ⟨Int.le_refl _, ?_, Int.le_of_lt h2.1, ?_, ?_⟩
      · show up G j p.o * p.d ≤ p.c * low G j p.o
        have := h2.2
        unfold s2 at this
        rw [c4, c5]
        have e : p.c * -SL G j p.o = -(SL G j p.o * p.c) := by grind
        omega
      · show 0 ≤ SD G j p.o * low G j p.o + SL G j p.o * up G j p.o
        rw [c4, c5]
        have e : SD G j p.o * -SL G j p.o + SL G j p.o * SD G j p.o = 0 := by grind
        omega
      · have := h2.1
        show ¬ (s1 G j p = 0 ∧ _)
        omega
    · split at h
      · rename_i h4
        cases h
        obtain ⟨c1, c2, c3, c4, c5⟩ := cut4' hp h4
        have h2 := how_4.mp h4
        refine ⟨?_, Int.le_refl _, ?_, Int.le_of_lt h2.2, ?_⟩
        · show p.a * low G j p.o ≤ up G j p.o * p.b
          have := h2.1
          unfold s1 at this
          rw [c4, c5]
          have e : p.a * SL G j p.o = SL G j p.o * p.a := by grind
          have e2 : -SD G j p.o * p.b = -(SD G j p.o * p.b) := by grind
          omega
        · show 0 ≤ SD G j p.o * low G j p.o + SL G j p.o * up G j p.o
          rw [c4, c5]
          have e : SD G j p.o * SL G j p.o + SL G j p.o * -SD G j p.o = 0 := by grind
          omega
        · have := h2.2
          show ¬ (_ ∧ s2 G j p = 0)
          omega
      · cases h
theorem ctb_in {G : tGe} (hG : gok G) {j : Nat} {p q : qP} (hp : pok p) (h : ctb G j p = some q) : q.o = p.o ∧ pok q ∧ p.a * q.b ≤ q.a * p.b ∧ q.c * p.d ≤ p.c * q.d ∧ s1 G j q ≤ 0 ∧ s2 G j q ≤ 0 ∧ ¬ (s1 G j q = 0 ∧ s2 G j q = 0) := by
  obtain ⟨hq, ho⟩ := ctb_ok hG hp h
  refine ⟨ho, hq, ?_⟩
  unfold ctb at h
  split at h
  · cases h
    have := how_2.mp ‹_›
    exact ⟨Int.le_refl _, Int.le_refl _, this.1, this.2.1, this.2.2⟩
  · split at h
    · rename_i h3
      cases h
      obtain ⟨c1, c2, c3, c4, c5⟩ := cut3' hp h3
      have h2 := how_3.mp h3
      refine ⟨?_, Int.le_refl _, ?_, Int.le_of_lt h2.2, ?_⟩
      · show p.a * low G j p.o ≤ up G j p.o * p.b
        have := h2.1
        unfold s1 at this
        rw [c4, c5]
        have e : p.a * -SL G j p.o = -(SL G j p.o * p.a) := by grind
        omega
      · show SD G j p.o * low G j p.o + SL G j p.o * up G j p.o ≤ 0
        rw [c4, c5]
        have e : SD G j p.o * -SL G j p.o + SL G j p.o * SD G j p.o = 0 := by grind
        omega
      · have := h2.2
        show ¬ (_ ∧ s2 G j p = 0)
        omega
    · split at h
      · rename_i h4
        cases h
        obtain ⟨c1, c2, c3, c4, c5⟩ := cut4' hp h4
        have h2 := how_4.mp h4
        refine ⟨Int.le_refl _, ?_, Int.le_of_lt h2.1, ?_, ?_⟩
        · show up G j p.o * p.d ≤ p.c * low G j p.o
          have := h2.2
          unfold s2 at this
          rw [c4, c5]
          have e : p.c * SL G j p.o = SL G j p.o * p.c := by grind
          have e2 : -SD G j p.o * p.d = -(SD G j p.o * p.d) := by grind
          omega
        · show SD G j p.o * low G j p.o + SL G j p.o * up G j p.o ≤ 0
          rw [c4, c5]
          have e : SD G j p.o * SL G j p.o + SL G j p.o * -SD G j p.o = 0 := by grind
          omega
        · have := h2.1
          show ¬ (s1 G j p = 0 ∧ _)
          omega
      · cases h
theorem cut_sub {G : tGe} {i : Nat} {p q : qP} (hp : pok p) (hq : pok q) (ho : q.o = p.o) (h1 : p.a * q.b ≤ q.a * p.b) (h2 : q.c * p.d ≤ p.c * q.d) (h : cutb G i q = true) : cutb G i p = true := by
  rw [cutb_iff] at h ⊢
  unfold s1 s2 at *
  rw [ho] at h
  exact sub_cut hp.2.2.2.1 hp.2.2.2.2.2.2.2.1 hq.2.2.2.1 hq.2.2.2.2.2.2.2.1 h1 h2 h hq.2.2.2.2.2.2.2.2.2
