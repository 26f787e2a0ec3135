/-! sees: boxes and sides against turns -/
abbrev btw (a b c : Int) : Prop := (a ≤ c ∧ c ≤ b) ∨ (b ≤ c ∧ c ≤ a)
abbrev frm (a b c d : Int) : Prop := (c ≤ a ∨ c ≤ b ∨ d ≤ a ∨ d ≤ b) ∧ (a ≤ c ∨ b ≤ c ∨ a ≤ d ∨ b ≤ d)
theorem btw_mul {a b c : Int} : btw a b c ↔ (a - c) * (b - c) ≤ 0 := by
  unfold btw
  constructor
  · rintro (⟨h1, h2⟩ | ⟨h1, h2⟩)
    · have := Int.mul_nonneg (show 0 ≤ c - a by omega) (show 0 ≤ b - c by omega)
      have e : (a - c) * (b - c) = -((c - a) * (b - c)) := by grind
      omega
    · have := Int.mul_nonneg (show 0 ≤ a - c by omega) (show 0 ≤ c - b by omega)
      have e : (a - c) * (b - c) = -((a - c) * (c - b)) := by grind
      omega
  · intro h
    by_cases h1 : a ≤ c
    · by_cases h2 : c ≤ b
      · exact Or.inl ⟨h1, h2⟩
      · by_cases h3 : c ≤ a
        · exact Or.inr ⟨by omega, h3⟩
        · have := Int.mul_pos (show 0 < c - a by omega) (show 0 < c - b by omega)
          have e : (a - c) * (b - c) = (c - a) * (c - b) := by grind
          omega
    · by_cases h2 : b ≤ c
      · exact Or.inr ⟨h2, by omega⟩
      · have := Int.mul_pos (show 0 < a - c by omega) (show 0 < b - c by omega)
        omega
theorem on_id {ax ay bx by' cx cy wx wy a b K : Int} (h : (bx - ax) * (cy - ay) - (by' - ay) * (cx - ax) = 0) (ha : a = wx * (ay - cy) - wy * (ax - cx)) (hb : b = wx * (by' - cy) - wy * (bx - cx)) (hK : K = (bx - ax) * wy - (by' - ay) * wx) :
    (bx - ax) * (bx - ax) * (a * b) = K * K * ((ax - cx) * (bx - cx)) ∧ (by' - ay) * (by' - ay) * (a * b) = K * K * ((ay - cy) * (by' - cy)) := by
  have e1 : (bx - ax) * a = -(K * (ax - cx)) := by grind
  have e2 : (bx - ax) * b = -(K * (bx - cx)) := by grind
  have e3 : (by' - ay) * a = -(K * (ay - cy)) := by grind
  have e4 : (by' - ay) * b = -(K * (by' - cy)) := by grind
  constructor
  · have : (bx - ax) * (bx - ax) * (a * b) = ((bx - ax) * a) * ((bx - ax) * b) := by grind
    rw [this, e1, e2]; grind
  · have : (by' - ay) * (by' - ay) * (a * b) = ((by' - ay) * a) * ((by' - ay) * b) := by grind
    rw [this, e3, e4]; grind
theorem sq_pos {x : Int} (h : x ≠ 0) : 0 < x * x := by
  rcases Int.lt_or_gt_of_ne h with h | h
  · exact Int.mul_pos_of_neg_of_neg h h
  · exact Int.mul_pos h h
theorem sq_nn (x : Int) : 0 ≤ x * x := by
  by_cases h : x = 0
  · rw [h]; decide
  · have := sq_pos h; omega
theorem pm_le {a b : Int} (ha : 0 < a) (h : a * b ≤ 0) : b ≤ 0 := by
  by_cases hb : 0 < b
  · have := Int.mul_pos ha hb; omega
  · omega
theorem nn_le {a b : Int} (ha : 0 ≤ a) (h : b ≤ 0) : a * b ≤ 0 := by
  have := Int.mul_nonneg ha (show 0 ≤ -b by omega)
  have e : a * -b = -(a * b) := by grind
  omega
/-- a point on the base's line, within its box: the base's ends lie not on one side of any line through it -/
theorem on_op {ax ay bx by' cx cy wx wy a b : Int} (h : (bx - ax) * (cy - ay) - (by' - ay) * (cx - ax) = 0) (ha : a = wx * (ay - cy) - wy * (ax - cx)) (hb : b = wx * (by' - cy) - wy * (bx - cx)) (hne : ¬ (bx - ax = 0 ∧ by' - ay = 0)) (h1 : btw ax bx cx) (h2 : btw ay by' cy) : a * b ≤ 0 := by
  obtain ⟨e1, e2⟩ := on_id h ha hb rfl
  rw [btw_mul] at h1 h2
  by_cases hx : bx - ax = 0
  · refine pm_le (sq_pos (fun hy => hne ⟨hx, hy⟩)) ?_
    rw [e2]
    exact nn_le (sq_nn _) h2
  · refine pm_le (sq_pos hx) ?_
    rw [e1]
    exact nn_le (sq_nn _) h1
theorem on_bx {ax ay bx by' cx cy wx wy a b : Int} (h : (bx - ax) * (cy - ay) - (by' - ay) * (cx - ax) = 0) (ha : a = wx * (ay - cy) - wy * (ax - cx)) (hb : b = wx * (by' - cy) - wy * (bx - cx)) (hK : (bx - ax) * wy - (by' - ay) * wx ≠ 0) (hab : a * b ≤ 0) : btw ax bx cx ∧ btw ay by' cy := by
  obtain ⟨e1, e2⟩ := on_id h ha hb rfl
  rw [btw_mul, btw_mul]
  refine ⟨pm_le (sq_pos hK) ?_, pm_le (sq_pos hK) ?_⟩
  · rw [← e1]; exact nn_le (sq_nn _) hab
  · rw [← e2]; exact nn_le (sq_nn _) hab
/-- on one line: from one coordinate to the other -/
theorem on_co {ax ay bx by' cx cy : Int} (h : (bx - ax) * (cy - ay) - (by' - ay) * (cx - ax) = 0) (hx : bx - ax ≠ 0) (h1 : btw ax bx cx) : btw ay by' cy := by
  rw [btw_mul] at h1 ⊢
  refine pm_le (sq_pos hx) ?_
  have e1 : (bx - ax) * (cy - ay) = (by' - ay) * (cx - ax) := by omega
  have e2 : (bx - ax) * (cy - by') = (by' - ay) * (cx - bx) := by grind
  have : (bx - ax) * (bx - ax) * ((ay - cy) * (by' - cy)) = (by' - ay) * (by' - ay) * ((ax - cx) * (bx - cx)) := by
    have : (bx - ax) * (bx - ax) * ((ay - cy) * (by' - cy)) = ((bx - ax) * (cy - ay)) * ((bx - ax) * (cy - by')) := by grind
    rw [this, e1, e2]; grind
  rw [this]
  exact nn_le (sq_nn _) h1
theorem frm_btw {a b c d : Int} (h : frm a b c d) : btw a b c ∨ btw a b d ∨ (btw c d a ∧ c ≠ d) := by unfold frm at h; unfold btw; omega
theorem btw_frm {a b c d : Int} (h : btw a b c ∨ btw a b d ∨ btw c d a ∨ btw c d b) : frm a b c d := by unfold btw at h; unfold frm; omega
def blk (x0 y0 x1 y1 p q r s s1 s2 s3 s4 : Int) : Prop := frm x0 x1 p r ∧ frm y0 y1 q s ∧ s1 * s2 ≤ 0 ∧ s3 * s4 ≤ 0
def mts (x0 y0 x1 y1 p q r s s1 s2 s3 s4 : Int) : Prop := (s1 = 0 ∧ btw x0 x1 p ∧ btw y0 y1 q) ∨ (s2 = 0 ∧ btw x0 x1 r ∧ btw y0 y1 s) ∨ (¬ (p = r ∧ q = s) ∧ s3 = 0 ∧ btw p r x0 ∧ btw q s y0) ∨ (¬ (p = r ∧ q = s) ∧ s4 = 0 ∧ btw p r x1 ∧ btw q s y1) ∨ (s1 * s2 < 0 ∧ s3 * s4 < 0)
/-- two that cross lie not apart in x -/
theorem no_gap {x0 x1 p r s1 s2 s3 s4 : Int} (q1 : s1 < 0) (q2 : 0 < s2) (q3 : 0 < s3) (q4 : s4 < 0) (h : s4 - s3 = s1 - s2) (hid : s2 * p - s1 * r + s4 * x0 - s3 * x1 = 0) (c0 : x0 < p ∧ x1 < p) (c1 : x0 < r ∧ x1 < r) : False := by
  have h4 : s4 = s3 + s1 - s2 := by omega
  by_cases c : x0 ≤ x1
  · have e1 := Int.mul_nonneg (show 0 ≤ s2 by omega) (show 0 ≤ p - x1 - 1 by omega)
    have e2 := Int.mul_nonneg (show 0 ≤ -s1 by omega) (show 0 ≤ r - x1 - 1 by omega)
    have e3 := Int.mul_nonneg (show 0 ≤ -s4 by omega) (show 0 ≤ x1 - x0 by omega)
    have f1 : s2 * (p - x1 - 1) = s2 * p - s2 * x1 - s2 := by grind
    have f2 : -s1 * (r - x1 - 1) = -(s1 * r) + s1 * x1 + s1 := by grind
    have f3 : -s4 * (x1 - x0) = -(s4 * x1) + s4 * x0 := by grind
    have f4 : s4 * x1 = s3 * x1 + s1 * x1 - s2 * x1 := by rw [h4]; grind
    omega
  · have e1 := Int.mul_nonneg (show 0 ≤ s2 by omega) (show 0 ≤ p - x0 - 1 by omega)
    have e2 := Int.mul_nonneg (show 0 ≤ -s1 by omega) (show 0 ≤ r - x0 - 1 by omega)
    have e3 := Int.mul_nonneg (show 0 ≤ s3 by omega) (show 0 ≤ x0 - x1 by omega)
    have f1 : s2 * (p - x0 - 1) = s2 * p - s2 * x0 - s2 := by grind
    have f2 : -s1 * (r - x0 - 1) = -(s1 * r) + s1 * x0 + s1 := by grind
    have f3 : s3 * (x0 - x1) = s3 * x0 - s3 * x1 := by grind
    have f4 : s4 * x0 = s3 * x0 + s1 * x0 - s2 * x0 := by rw [h4]; grind
    omega
theorem neg_mul {a b : Int} (h : a * b < 0) : (a < 0 ∧ 0 < b) ∨ (0 < a ∧ b < 0) := by
  by_cases c : 0 < b
  · by_cases d : a < 0
    · exact Or.inl ⟨d, c⟩
    · have := Int.mul_nonneg (show 0 ≤ a by omega) (show 0 ≤ b by omega); omega
  · by_cases d : 0 < a
    · by_cases e : b < 0
      · exact Or.inr ⟨d, e⟩
      · have : b = 0 := by omega
        rw [this] at h; omega
    · have := Int.mul_nonneg (show 0 ≤ -a by omega) (show 0 ≤ -b by omega)
      have e : -a * -b = a * b := by grind
      omega
theorem cross_frm {x0 x1 p r s1 s2 s3 s4 : Int} (h : s4 - s3 = s1 - s2) (hid : s2 * p - s1 * r + s4 * x0 - s3 * x1 = 0) (a : s1 * s2 < 0) (b : s3 * s4 < 0) : frm x0 x1 p r := by
  have main : ∀ {x0 x1 p r s1 s2 s3 s4 : Int}, s1 < 0 → 0 < s2 → s4 - s3 = s1 - s2 → s2 * p - s1 * r + s4 * x0 - s3 * x1 = 0 → s3 * s4 < 0 → frm x0 x1 p r := by
    intro x0 x1 p r s1 s2 s3 s4 q1 q2 h hid b
    rcases neg_mul b with ⟨b1, b2⟩ | ⟨b1, b2⟩
    · omega
    · unfold frm
      constructor
      · by_cases c : (p ≤ x0 ∨ p ≤ x1 ∨ r ≤ x0 ∨ r ≤ x1)
        · exact c
        · exact (no_gap q1 q2 b1 b2 h hid (by omega) (by omega)).elim
      · by_cases c : (x0 ≤ p ∨ x1 ≤ p ∨ x0 ≤ r ∨ x1 ≤ r)
        · exact c
        · exact (no_gap (x0 := -x0) (x1 := -x1) (p := -p) (r := -r) q1 q2 b1 b2 h (by grind) (by omega) (by omega)).elim
  rcases neg_mul a with ⟨a1, a2⟩ | ⟨a1, a2⟩
  · exact main a1 a2 h hid b
  · exact main (s1 := -s1) (s2 := -s2) (s3 := -s3) (s4 := -s4) (by omega) (by omega) (by omega) (by grind) (by have e : -s3 * -s4 = s3 * s4 := by grind
                                                                                                               omega)
theorem blk_mts {x0 y0 x1 y1 p q r s s1 s2 s3 s4 : Int} (hne : ¬ (x1 - x0 = 0 ∧ y1 - y0 = 0)) (h1 : s1 = (x1 - x0) * (q - y0) - (y1 - y0) * (p - x0)) (h2 : s2 = (x1 - x0) * (s - y0) - (y1 - y0) * (r - x0)) (h3 : s3 = (r - p) * (y0 - q) - (s - q) * (x0 - p)) (h4 : s4 = (r - p) * (y1 - q) - (s - q) * (x1 - p)) : blk x0 y0 x1 y1 p q r s s1 s2 s3 s4 ↔ mts x0 y0 x1 y1 p q r s s1 s2 s3 s4 := by
  have hk1 : s2 - s1 = (x1 - x0) * (s - q) - (y1 - y0) * (r - p) := by rw [h1, h2]; grind
  have hk2 : s4 - s3 = s1 - s2 := by rw [h1, h2, h3, h4]; grind
  have h3' : s3 = (r - p) * (y0 - s) - (s - q) * (x0 - r) := by rw [h3]; grind
  have h4' : s4 = (r - p) * (y1 - s) - (s - q) * (x1 - r) := by rw [h4]; grind
  have h1' : s1 = (x1 - x0) * (q - y1) - (y1 - y0) * (p - x1) := by rw [h1]; grind
  have h2' : s2 = (x1 - x0) * (s - y1) - (y1 - y0) * (r - x1) := by rw [h2]; grind
  have swap : ∀ {a b : Int}, a * b ≤ 0 → b * a ≤ 0 := fun h => by rw [Int.mul_comm]; exact h
  constructor
  · rintro ⟨f1, f2, o1, o2⟩
    unfold mts
    by_cases hk : s2 - s1 = 0
    · have z1 : s1 = 0 := by
        have : s2 = s1 := by omega
        rw [this] at o1
        by_cases c : s1 = 0
        · exact c
        · have := sq_pos c; omega
      have z2 : s2 = 0 := by omega
      have z3 : s3 = 0 := by
        have : s4 = s3 := by omega
        rw [this] at o2
        by_cases c : s3 = 0
        · exact c
        · have := sq_pos c; omega
      by_cases hx : x1 - x0 = 0
      · have hy : y1 - y0 ≠ 0 := fun e => hne ⟨hx, e⟩
        rcases frm_btw f2 with b | b | ⟨b, bn⟩
        · exact Or.inl ⟨z1, on_co (ax := y0) (bx := y1) (cx := q) (ay := x0) (by' := x1) (cy := p) (by rw [z1] at h1; omega) hy b, b⟩
        · exact Or.inr (Or.inl ⟨z2, on_co (ax := y0) (bx := y1) (cx := s) (ay := x0) (by' := x1) (cy := r) (by rw [z2] at h2; omega) hy b, b⟩)
        · exact Or.inr (Or.inr (Or.inl ⟨fun e => bn e.2, z3, on_co (ax := q) (bx := s) (cx := y0) (ay := p) (by' := r) (cy := x0) (by rw [z3] at h3; omega) (by omega) b, b⟩))
      · rcases frm_btw f1 with b | b | ⟨b, bn⟩
        · exact Or.inl ⟨z1, b, on_co (ax := x0) (bx := x1) (cx := p) (ay := y0) (by' := y1) (cy := q) (by rw [z1] at h1; omega) hx b⟩
        · exact Or.inr (Or.inl ⟨z2, b, on_co (ax := x0) (bx := x1) (cx := r) (ay := y0) (by' := y1) (cy := s) (by rw [z2] at h2; omega) hx b⟩)
        · exact Or.inr (Or.inr (Or.inl ⟨fun e => bn e.1, z3, b, on_co (ax := p) (bx := r) (cx := x0) (ay := q) (by' := s) (cy := y0) (by rw [z3] at h3; omega) (by omega) b⟩))
    · have pq : ¬ (p = r ∧ q = s) := by
        rintro ⟨rfl, rfl⟩
        apply hk
        rw [hk1]
        grind
      by_cases z1 : s1 = 0
      · exact Or.inl ⟨z1, on_bx (wx := r - p) (wy := s - q) (by rw [z1] at h1; omega) h3 h4 (by rw [← hk1]; exact hk) o2⟩
      by_cases z2 : s2 = 0
      · exact Or.inr (Or.inl ⟨z2, on_bx (wx := r - p) (wy := s - q) (by rw [z2] at h2; omega) h3' h4' (by rw [← hk1]; exact hk) o2⟩)
      by_cases z3 : s3 = 0
      · exact Or.inr (Or.inr (Or.inl ⟨pq, z3, on_bx (ax := p) (ay := q) (bx := r) (by' := s) (wx := x1 - x0) (wy := y1 - y0) (by rw [z3] at h3; omega) h1 h2 (fun e => hk (by rw [hk1]; grind)) o1⟩))
      by_cases z4 : s4 = 0
      · exact Or.inr (Or.inr (Or.inr (Or.inl ⟨pq, z4, on_bx (ax := p) (ay := q) (bx := r) (by' := s) (wx := x1 - x0) (wy := y1 - y0) (by rw [z4] at h4; omega) h1' h2' (fun e => hk (by rw [hk1]; grind)) o1⟩)))
      refine Or.inr (Or.inr (Or.inr (Or.inr ⟨?_, ?_⟩)))
      · have : s1 * s2 ≠ 0 := Int.mul_ne_zero z1 z2
        omega
      · have : s3 * s4 ≠ 0 := Int.mul_ne_zero z3 z4
        omega
  · unfold blk
    rintro (⟨z, b1, b2⟩ | ⟨z, b1, b2⟩ | ⟨n, z, b1, b2⟩ | ⟨n, z, b1, b2⟩ | ⟨a, b⟩)
    · exact ⟨btw_frm (Or.inl b1), btw_frm (Or.inl b2), by rw [z, Int.zero_mul]; exact Int.le_refl 0, on_op (by rw [z] at h1; omega) h3 h4 hne b1 b2⟩
    · exact ⟨btw_frm (Or.inr (Or.inl b1)), btw_frm (Or.inr (Or.inl b2)), by rw [z, Int.mul_zero]; exact Int.le_refl 0, on_op (by rw [z] at h2; omega) h3' h4' hne b1 b2⟩
    · exact ⟨btw_frm (Or.inr (Or.inr (Or.inl b1))), btw_frm (Or.inr (Or.inr (Or.inl b2))), on_op (ax := p) (ay := q) (bx := r) (by' := s) (by rw [z] at h3; omega) h1 h2 (by omega) b1 b2, by rw [z, Int.zero_mul]; exact Int.le_refl 0⟩
    · exact ⟨btw_frm (Or.inr (Or.inr (Or.inr b1))), btw_frm (Or.inr (Or.inr (Or.inr b2))), on_op (ax := p) (ay := q) (bx := r) (by' := s) (by rw [z] at h4; omega) h1' h2' (by omega) b1 b2, by rw [z, Int.mul_zero]; exact Int.le_refl 0⟩
    · exact ⟨cross_frm hk2 (by rw [h1, h2, h3, h4]; grind) a b, cross_frm hk2 (by rw [h1, h2, h3, h4]; grind) a b, by omega, by omega⟩
