/-! least: what a room leaves of a piece -/
theorem pm {a b : Int} (ha : 0 < a) (h : 0 < a * b) : 0 < b := by
  by_cases hb : 0 < b
  · exact hb
  · have := Int.mul_le_mul_of_nonneg_left (show b ≤ 0 by omega) (show 0 ≤ a by omega)
    rw [Int.mul_zero] at this
    omega
theorem pn {a b : Int} (ha : 0 < a) (h : a * b ≤ 0) : b ≤ 0 := by
  by_cases hb : 0 < b
  · have := Int.mul_pos ha hb
    omega
  · omega
theorem np {a b : Int} (ha : a ≤ 0) (hb : 0 < b) : a * b ≤ 0 := by
  have := Int.mul_le_mul_of_nonneg_right ha (show 0 ≤ b by omega)
  rw [Int.zero_mul] at this
  exact this
/-- a place x / y is inside a part -/
def inn (p : qP) (x y : Int) : Prop := p.a * y < x * p.b ∧ x * p.d < p.c * y
def Inn (o : Option qP) (x y : Int) : Prop := ∃ p, o = some p ∧ inn p x y
def FF (G : tGe) (j i : Nat) (x y : Int) : Int := SD G j i * y + SL G j i * x
def sF (G : tGe) (j : Nat) (b : Bool) (i : Nat) (x y : Int) : Prop := if b then 0 < FF G j i x y else FF G j i x y < 0
theorem ff_id (G : tGe) (j : Nat) (p : qP) (x y : Int) : (p.c * p.b - p.a * p.d) * FF G j p.o x y = s1 G j p * (p.c * y - x * p.d) + s2 G j p * (x * p.b - p.a * y) := by
  unfold FF s1 s2
  grind
theorem cts_in {G : tGe} {j : Nat} {b : Bool} {p : qP} (hp : pok p) {x y : Int} : Inn (cts G j b p) x y ↔ inn p x y ∧ sF G j b p.o x y := by
  have K : 0 < p.c * p.b - p.a * p.d := by have := hp.2.2.2.2.2.2.2.2.2; omega
  have I := ff_id G j p x y
  have hl := how_le G j p
  have inn_p : inn p x y ↔ 0 < x * p.b - p.a * y ∧ 0 < p.c * y - x * p.d := by unfold inn; omega
  rcases (show how G j p = 0 ∨ how G j p = 1 ∨ how G j p = 2 ∨ how G j p = 3 ∨ how G j p = 4 by omega) with h | h | h | h | h
  · -- on the line
    obtain ⟨h1, h2⟩ := how_0.mp h
    rw [h1, h2, Int.zero_mul, Int.zero_mul] at I
    have F0 : FF G j p.o x y = 0 := by
      rcases Int.mul_eq_zero.mp (show (p.c * p.b - p.a * p.d) * FF G j p.o x y = 0 by omega) with q | q
      · omega
      · exact q
    constructor
    · rintro ⟨q, hq, -⟩
      unfold cts ctf ctb at hq
      rw [h] at hq
      cases b <;> simp at hq
    · rintro ⟨-, hs⟩
      unfold sF at hs
      rw [F0] at hs
      cases b <;> simp at hs
  · obtain ⟨h1, h2, h3⟩ := how_1.mp h
    have pos : inn p x y → 0 < FF G j p.o x y := fun hi => by
      obtain ⟨q1, q2⟩ := inn_p.mp hi
      refine pm K ?_
      rw [I]
      have a1 := Int.mul_nonneg h1 (show 0 ≤ p.c * y - x * p.d by omega)
      have a2 := Int.mul_nonneg h2 (show 0 ≤ x * p.b - p.a * y by omega)
      by_cases z : s1 G j p = 0
      · have := Int.mul_pos (show 0 < s2 G j p by omega) q1
        omega
      · have := Int.mul_pos (show 0 < s1 G j p by omega) q2
        omega
    cases b with
    | true =>
      rw [show cts G j true p = some p by unfold cts ctf; rw [h]; rfl]
      constructor
      · rintro ⟨q, hq, hi⟩; cases hq; exact ⟨hi, pos hi⟩
      · rintro ⟨hi, -⟩; exact ⟨p, rfl, hi⟩
    | false =>
      rw [show cts G j false p = none by unfold cts ctb; rw [h]; rfl]
      constructor
      · rintro ⟨q, hq, hi⟩; cases hq
      · rintro ⟨hi, hs⟩
        have := pos hi
        have hs' : FF G j p.o x y < 0 := hs
        omega
  · obtain ⟨h1, h2, h3⟩ := how_2.mp h
    have neg : inn p x y → FF G j p.o x y < 0 := fun hi => by
      obtain ⟨q1, q2⟩ := inn_p.mp hi
      have I' : (p.c * p.b - p.a * p.d) * -FF G j p.o x y = -s1 G j p * (p.c * y - x * p.d) + -s2 G j p * (x * p.b - p.a * y) := by grind
      have : 0 < -FF G j p.o x y := by
        refine pm K ?_
        rw [I']
        have a1 := Int.mul_nonneg (show 0 ≤ -s1 G j p by omega) (show 0 ≤ p.c * y - x * p.d by omega)
        have a2 := Int.mul_nonneg (show 0 ≤ -s2 G j p by omega) (show 0 ≤ x * p.b - p.a * y by omega)
        by_cases z : s1 G j p = 0
        · have := Int.mul_pos (show 0 < -s2 G j p by omega) q1
          omega
        · have := Int.mul_pos (show 0 < -s1 G j p by omega) q2
          omega
      omega
    cases b with
    | false =>
      rw [show cts G j false p = some p by unfold cts ctb; rw [h]; rfl]
      constructor
      · rintro ⟨q, hq, hi⟩; cases hq; exact ⟨hi, neg hi⟩
      · rintro ⟨hi, -⟩; exact ⟨p, rfl, hi⟩
    | true =>
      rw [show cts G j true p = none by unfold cts ctf; rw [h]; rfl]
      constructor
      · rintro ⟨q, hq, hi⟩; cases hq
      · rintro ⟨hi, hs⟩
        have := neg hi
        have hs' : 0 < FF G j p.o x y := hs
        omega
  · obtain ⟨h1, h2⟩ := how_3.mp h
    obtain ⟨-, -, -, u1, u2⟩ := cut3' hp h
    have lo : inn (p.o, p.a, p.b, up G j p.o, low G j p.o) x y ↔ inn p x y ∧ 0 < FF G j p.o x y := by
      have e1 : inn (p.o, p.a, p.b, up G j p.o, low G j p.o) x y ↔ 0 < x * p.b - p.a * y ∧ 0 < FF G j p.o x y := by
        unfold inn FF
        show p.a * y < x * p.b ∧ x * low G j p.o < up G j p.o * y ↔ _
        rw [u1, u2, Int.mul_neg, Int.mul_comm x (SL G j p.o)]
        omega
      rw [e1, inn_p]
      constructor
      · rintro ⟨q1, q2⟩
        refine ⟨⟨q1, pm h1 ?_⟩, q2⟩
        have a1 := Int.mul_pos K q2
        have a2 := np (show s2 G j p ≤ 0 by omega) q1
        omega
      · rintro ⟨⟨q1, -⟩, q2⟩; exact ⟨q1, q2⟩
    have hi : inn (p.o, up G j p.o, low G j p.o, p.c, p.d) x y ↔ inn p x y ∧ FF G j p.o x y < 0 := by
      have e1 : inn (p.o, up G j p.o, low G j p.o, p.c, p.d) x y ↔ FF G j p.o x y < 0 ∧ 0 < p.c * y - x * p.d := by
        unfold inn FF
        show up G j p.o * y < x * low G j p.o ∧ x * p.d < p.c * y ↔ _
        rw [u1, u2, Int.mul_neg, Int.mul_comm x (SL G j p.o)]
        omega
      rw [e1, inn_p]
      constructor
      · rintro ⟨q1, q2⟩
        refine ⟨⟨?_, q2⟩, q1⟩
        have a1 := Int.mul_pos K (show 0 < -FF G j p.o x y by omega)
        rw [Int.mul_neg] at a1
        have a2 := Int.mul_pos h1 q2
        have a3 : 0 < -s2 G j p * (x * p.b - p.a * y) := by rw [Int.neg_mul]; omega
        exact pm (show 0 < -s2 G j p by omega) a3
      · rintro ⟨⟨-, q1⟩, q2⟩; exact ⟨q2, q1⟩
    cases b with
    | true =>
      rw [show cts G j true p = some (p.o, p.a, p.b, up G j p.o, low G j p.o) by unfold cts ctf; rw [h]; rfl]
      constructor
      · rintro ⟨q, hq, hi'⟩; cases hq; exact lo.mp hi'
      · intro h9; exact ⟨_, rfl, lo.mpr h9⟩
    | false =>
      rw [show cts G j false p = some (p.o, up G j p.o, low G j p.o, p.c, p.d) by unfold cts ctb; rw [h]; rfl]
      constructor
      · rintro ⟨q, hq, hi'⟩; cases hq; exact hi.mp hi'
      · intro h9; exact ⟨_, rfl, hi.mpr h9⟩
  · obtain ⟨h1, h2⟩ := how_4.mp h
    obtain ⟨-, -, -, u1, u2⟩ := cut4' hp h
    have lo : inn (p.o, p.a, p.b, up G j p.o, low G j p.o) x y ↔ inn p x y ∧ FF G j p.o x y < 0 := by
      have e1 : inn (p.o, p.a, p.b, up G j p.o, low G j p.o) x y ↔ 0 < x * p.b - p.a * y ∧ FF G j p.o x y < 0 := by
        unfold inn FF
        show p.a * y < x * p.b ∧ x * low G j p.o < up G j p.o * y ↔ _
        rw [u1, u2, Int.neg_mul, Int.mul_comm x (SL G j p.o)]
        omega
      rw [e1, inn_p]
      constructor
      · rintro ⟨q1, q2⟩
        refine ⟨⟨q1, ?_⟩, q2⟩
        have a1 := Int.mul_pos K (show 0 < -FF G j p.o x y by omega)
        rw [Int.mul_neg] at a1
        have a2 := Int.mul_pos h2 q1
        have a3 : 0 < -s1 G j p * (p.c * y - x * p.d) := by rw [Int.neg_mul]; omega
        exact pm (show 0 < -s1 G j p by omega) a3
      · rintro ⟨⟨q1, -⟩, q2⟩; exact ⟨q1, q2⟩
    have hi : inn (p.o, up G j p.o, low G j p.o, p.c, p.d) x y ↔ inn p x y ∧ 0 < FF G j p.o x y := by
      have e1 : inn (p.o, up G j p.o, low G j p.o, p.c, p.d) x y ↔ 0 < FF G j p.o x y ∧ 0 < p.c * y - x * p.d := by
        unfold inn FF
        show up G j p.o * y < x * low G j p.o ∧ x * p.d < p.c * y ↔ _
        rw [u1, u2, Int.neg_mul, Int.mul_comm x (SL G j p.o)]
        omega
      rw [e1, inn_p]
      constructor
      · rintro ⟨q1, q2⟩
        refine ⟨⟨pm h2 ?_, q2⟩, q1⟩
        have a1 := Int.mul_pos K q1
        have a2 := np (show s1 G j p ≤ 0 by omega) q2
        omega
      · rintro ⟨⟨-, q1⟩, q2⟩; exact ⟨q2, q1⟩
    cases b with
    | true =>
      rw [show cts G j true p = some (p.o, up G j p.o, low G j p.o, p.c, p.d) by unfold cts ctf; rw [h]; rfl]
      constructor
      · rintro ⟨q, hq, hi'⟩; cases hq; exact hi.mp hi'
      · intro h9; exact ⟨_, rfl, hi.mpr h9⟩
    | false =>
      rw [show cts G j false p = some (p.o, p.a, p.b, up G j p.o, low G j p.o) by unfold cts ctb; rw [h]; rfl]
      constructor
      · rintro ⟨q, hq, hi'⟩; cases hq; exact lo.mp hi'
      · intro h9; exact ⟨_, rfl, lo.mpr h9⟩
/-- two parts are of one piece and have the same places -/
def peq (p q : qP) : Prop := p.o = q.o ∧ p.a * q.b = q.a * p.b ∧ p.c * q.d = q.c * p.d
theorem mid_in {p : qP} (hp : pok p) : 0 < p.b + p.d ∧ inn p (p.a + p.c) (p.b + p.d) := by
  obtain ⟨-, -, -, hb, -, -, -, hd, -, h⟩ := hp
  refine ⟨by omega, ?_, ?_⟩
  · rw [Int.mul_add, Int.add_mul]; omega
  · rw [Int.mul_add, Int.add_mul]; omega
theorem lo_le {p q : qP} (hp : pok p) (hq : pok q) (h : ∀ x y, 0 < y → inn p x y → inn q x y) : q.a * p.b ≤ p.a * q.b := by
  apply Classical.byContradiction
  intro hc
  by_cases h1 : q.a * p.d < p.c * q.b
  · have := (h q.a q.b hq.2.2.2.1 ⟨by omega, h1⟩).1
    omega
  · obtain ⟨m1, m2⟩ := mid_in hp
    have := (h _ _ m1 m2).1
    rw [Int.mul_add, Int.add_mul] at this
    omega
theorem hi_le {p q : qP} (hp : pok p) (hq : pok q) (h : ∀ x y, 0 < y → inn p x y → inn q x y) : p.c * q.d ≤ q.c * p.d := by
  apply Classical.byContradiction
  intro hc
  by_cases h1 : p.a * q.d < q.c * p.b
  · have := (h q.c q.d hq.2.2.2.2.2.2.2.1 ⟨h1, by omega⟩).2
    omega
  · obtain ⟨m1, m2⟩ := mid_in hp
    have := (h _ _ m1 m2).2
    rw [Int.mul_add, Int.add_mul] at this
    omega
def oeq : Option qP → Option qP → Prop
  | none, none => True
  | some p, some q => peq p q
  | _, _ => False
theorem oeq_of {o o' : Option qP} {i : Nat} (h : ∀ p, o = some p → pok p ∧ p.o = i) (h' : ∀ p, o' = some p → pok p ∧ p.o = i) (hI : ∀ x y, 0 < y → (Inn o x y ↔ Inn o' x y)) : oeq o o' := by
  cases o with
  | none =>
    cases o' with
    | none => trivial
    | some q =>
      obtain ⟨m1, m2⟩ := mid_in (h' q rfl).1
      obtain ⟨_, e, -⟩ := (hI _ _ m1).mpr ⟨q, rfl, m2⟩
      cases e
  | some p =>
    cases o' with
    | none =>
      obtain ⟨m1, m2⟩ := mid_in (h p rfl).1
      obtain ⟨_, e, -⟩ := (hI _ _ m1).mp ⟨p, rfl, m2⟩
      cases e
    | some q =>
      have a1 : ∀ x y, 0 < y → inn p x y → inn q x y := fun x y hy hi => by obtain ⟨_, e, hi'⟩ := (hI x y hy).mp ⟨p, rfl, hi⟩; cases e; exact hi'
      have a2 : ∀ x y, 0 < y → inn q x y → inn p x y := fun x y hy hi => by obtain ⟨_, e, hi'⟩ := (hI x y hy).mpr ⟨q, rfl, hi⟩; cases e; exact hi'
      have hp := h p rfl
      have hq := h' q rfl
      have b1 := lo_le hp.1 hq.1 a1
      have b2 := lo_le hq.1 hp.1 a2
      have b3 := hi_le hp.1 hq.1 a1
      have b4 := hi_le hq.1 hp.1 a2
      exact ⟨hp.2.trans hq.2.symm, by omega, by omega⟩
/-! rows that are alike -/
theorem sg_eq {s t b d : Int} (hb : 0 < b) (hd : 0 < d) (h : s * d = t * b) : (s = 0 ↔ t = 0) ∧ (0 ≤ s ↔ 0 ≤ t) := by
  have key : ∀ {s t b d : Int}, 0 < b → 0 < d → s * d = t * b → 0 < s → 0 < t := fun hb hd h hs => by
    have := Int.mul_pos hs hd
    rw [h, Int.mul_comm] at this
    exact pm hb this
  have k1 := @key s t b d hb hd h
  have k2 := @key t s d b hd hb h.symm
  have k3 := @key (-s) (-t) b d hb hd (by rw [Int.neg_mul, Int.neg_mul, h])
  have k4 := @key (-t) (-s) d b hd hb (by rw [Int.neg_mul, Int.neg_mul, h])
  constructor <;> constructor <;> intro q <;> omega
theorem peq_how {G : tGe} {j : Nat} {p q : qP} (hp : pok p) (hq : pok q) (h : peq p q) : how G j p = how G j q := by
  obtain ⟨ho, h1, h2⟩ := h
  have e1 : s1 G j p * q.b = s1 G j q * p.b := by unfold s1; rw [ho]; grind
  have e2 : s2 G j p * q.d = s2 G j q * p.d := by unfold s2; rw [ho]; grind
  obtain ⟨a1, a2⟩ := sg_eq hp.2.2.2.1 hq.2.2.2.1 e1
  obtain ⟨b1, b2⟩ := sg_eq hp.2.2.2.2.2.2.2.1 hq.2.2.2.2.2.2.2.1 e2
  unfold how hw
  have c1 : (s1 G j p = 0 ∧ s2 G j p = 0) ↔ (s1 G j q = 0 ∧ s2 G j q = 0) := by rw [a1, b1]
  have c2 : (0 ≤ s1 G j p ∧ 0 ≤ s2 G j p) ↔ (0 ≤ s1 G j q ∧ 0 ≤ s2 G j q) := by rw [a2, b2]
  have c3 : (s1 G j p ≤ 0 ∧ s2 G j p ≤ 0) ↔ (s1 G j q ≤ 0 ∧ s2 G j q ≤ 0) := by omega
  have c4 : (0 < s1 G j p) ↔ (0 < s1 G j q) := by omega
  simp only [c1, c2, c3, c4]
theorem peq_cts {G : tGe} {j : Nat} {b : Bool} {p q : qP} (hp : pok p) (hq : pok q) (h : peq p q) : oeq (cts G j b p) (cts G j b q) := by
  have e := peq_how (G := G) (j := j) hp hq h
  obtain ⟨ho, h1, h2⟩ := id h
  have cl : ∀ u : Int, u * low G j q.o = u * low G j q.o := fun _ => rfl
  unfold cts ctf ctb
  rw [e]
  cases b <;> simp only [Bool.false_eq_true, if_false, if_true] <;> (repeat' split) <;> first | trivial | exact h | (rw [ho]; exact ⟨ho, h1, rfl⟩) | (rw [ho]; exact ⟨ho, rfl, h2⟩) | (refine ⟨ho, ?_, ?_⟩ <;> first | exact h1 | exact h2 | (show up G j p.o * low G j q.o = up G j q.o * low G j p.o; rw [ho]))
def req : List qP → List qP → Prop
  | [], [] => True
  | p :: r, q :: r' => peq p q ∧ req r r'
  | _, _ => False
theorem req_fm {α : Type} (f g : α → Option qP) : ∀ (l : List α), (∀ i ∈ l, oeq (f i) (g i)) → req (l.filterMap f) (l.filterMap g)
  | [], _ => trivial
  | i :: l, h => by
    have ih := req_fm f g l (fun k hk => h k (List.mem_cons_of_mem _ hk))
    have hi := h i List.mem_cons_self
    rw [List.filterMap_cons, List.filterMap_cons]
    cases e : f i with
    | none =>
      cases e' : g i with
      | none => exact ih
      | some q => rw [e, e'] at hi; exact hi.elim
    | some p =>
      cases e' : g i with
      | none => rw [e, e'] at hi; exact hi.elim
      | some q => rw [e, e'] at hi; exact ⟨hi, ih⟩
theorem req_srow {G : tGe} {j : Nat} {b : Bool} : ∀ (r r' : List qP), (∀ p ∈ r, pok p) → (∀ p ∈ r', pok p) → req r r' → req (srow G j b r) (srow G j b r')
  | [], [], _, _, _ => trivial
  | [], q :: r', _, _, h => h.elim
  | p :: r, [], _, _, h => h.elim
  | p :: r, q :: r', hp, hq, h => by
    have ih := req_srow (G := G) (j := j) (b := b) r r' (fun k hk => hp k (List.mem_cons_of_mem _ hk)) (fun k hk => hq k (List.mem_cons_of_mem _ hk)) h.2
    have hi := peq_cts (G := G) (j := j) (b := b) (hp p List.mem_cons_self) (hq q List.mem_cons_self) h.1
    unfold srow at ih ⊢
    rw [List.filterMap_cons, List.filterMap_cons]
    cases e : cts G j b p with
    | none =>
      cases e' : cts G j b q with
      | none => exact ih
      | some q => rw [e, e'] at hi; exact hi.elim
    | some p =>
      cases e' : cts G j b q with
      | none => rw [e, e'] at hi; exact hi.elim
      | some q => rw [e, e'] at hi; exact ⟨hi, ih⟩
theorem req_on {G : tGe} {j : Nat} : ∀ (r r' : List qP), (∀ p ∈ r, pok p) → (∀ p ∈ r', pok p) → req r r' → (onrow G j r).length = (onrow G j r').length
  | [], [], _, _, _ => rfl
  | [], q :: r', _, _, h => h.elim
  | p :: r, [], _, _, h => h.elim
  | p :: r, q :: r', hp, hq, h => by
    have ih := req_on (G := G) (j := j) r r' (fun k hk => hp k (List.mem_cons_of_mem _ hk)) (fun k hk => hq k (List.mem_cons_of_mem _ hk)) h.2
    rw [onrow_cons, onrow_cons, peq_how (hp p List.mem_cons_self) (hq q List.mem_cons_self) h.1]
    split
    · rw [List.length_cons, List.length_cons, ih]
    · exact ih
theorem req_o : ∀ (r r' : List qP), req r r' → r.map (fun p => p.o) = r'.map (fun p => p.o)
  | [], [], _ => rfl
  | [], q :: r', h => h.elim
  | p :: r, [], h => h.elim
  | p :: r, q :: r', h => by rw [List.map_cons, List.map_cons, req_o r r' h.2, h.1.1]
theorem req_fwv {G : tGe} (hG : gok G) : ∀ (fu : Nat) (r r' : List qP), (∀ p ∈ r, pok p) → (∀ p ∈ r', pok p) → req r r' → fwv G true fu r = fwv G true fu r'
  | 0, r, r', _, _, _ => rfl
  | fu + 1, r, r', hp, hq, h => by
    have ho := req_o r r' h
    have hl : r.length = r'.length := by have := congrArg List.length ho; simpa using this
    rw [fwv, fwv, hl, if_pos rfl, if_pos rfl]
    have g : ∀ (r : List qP), r.map (fun p => (onrow G p.o r).length + fwv G true fu (srow G p.o true r) + fwv G true fu (srow G p.o false r)) = (r.map (fun p => p.o)).map (fun j => (onrow G j r).length + fwv G true fu (srow G j true r) + fwv G true fu (srow G j false r)) := fun r => by rw [List.map_map]; rfl
    have e : ∀ j, (onrow G j r).length + fwv G true fu (srow G j true r) + fwv G true fu (srow G j false r) = (onrow G j r').length + fwv G true fu (srow G j true r') + fwv G true fu (srow G j false r') := fun j => by
      rw [req_on r r' hp hq h, req_fwv hG fu _ _ (srow_ok hG hp) (srow_ok hG hq) (req_srow (j := j) (b := true) r r' hp hq h), req_fwv hG fu _ _ (srow_ok hG hp) (srow_ok hG hq) (req_srow (j := j) (b := false) r r' hp hq h)]
    rw [g r, g r', ho, show (fun j => (onrow G j r).length + fwv G true fu (srow G j true r) + fwv G true fu (srow G j false r)) = (fun j => (onrow G j r').length + fwv G true fu (srow G j true r') + fwv G true fu (srow G j false r')) from funext e]
