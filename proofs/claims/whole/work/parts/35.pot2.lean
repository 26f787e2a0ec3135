/-- where the crossing of the lines of i and k lies, as line j sees it -/
def frn (G : tGe) (j i k : Nat) : Prop := (0 < SL G i k → 0 < ey G j i k) ∧ (SL G i k < 0 → ey G j i k < 0) ∧ SL G i k ≠ 0
def bkn (G : tGe) (j i k : Nat) : Prop := (0 < SL G i k → ey G j i k < 0) ∧ (SL G i k < 0 → 0 < ey G j i k) ∧ SL G i k ≠ 0
theorem frn_sym {G : tGe} {j i k : Nat} (h : frn G j i k) : frn G j k i := by
  unfold frn at *
  rw [ey_sym G j k i, SL_sym G k i]
  omega
theorem bkn_sym {G : tGe} {j i k : Nat} (h : bkn G j i k) : bkn G j k i := by
  unfold bkn at *
  rw [ey_sym G j k i, SL_sym G k i]
  omega
theorem frn_bkn {G : tGe} {j i k : Nat} (h : frn G j i k) (h' : bkn G j i k) : False := by
  unfold frn bkn at *
  omega
theorem frn_of {G : tGe} {j i : Nat} {f : qP} (hf : pok f) (h : cutb G i f = true) (g1 : 0 ≤ s1 G j f) (g2 : 0 ≤ s2 G j f) (g3 : ¬ (s1 G j f = 0 ∧ s2 G j f = 0)) : frn G j i f.o := by
  rw [cutb_iff] at h
  unfold s1 s2 at *
  exact cross_pos hf.2.2.2.1 hf.2.2.2.2.2.2.2.1 hf.2.2.2.2.2.2.2.2.2 h g1 g2 g3
theorem bkn_of {G : tGe} {j i : Nat} {f : qP} (hf : pok f) (h : cutb G i f = true) (g1 : s1 G j f ≤ 0) (g2 : s2 G j f ≤ 0) (g3 : ¬ (s1 G j f = 0 ∧ s2 G j f = 0)) : bkn G j i f.o := by
  rw [cutb_iff] at h
  unfold s1 s2 at *
  have e1 : (-SD G j f.o) * f.b + (-SL G j f.o) * f.a = -(SD G j f.o * f.b + SL G j f.o * f.a) := by grind
  have e2 : (-SD G j f.o) * f.d + (-SL G j f.o) * f.c = -(SD G j f.o * f.d + SL G j f.o * f.c) := by grind
  have := cross_pos (S' := -SD G j f.o) (L' := -SL G j f.o) hf.2.2.2.1 hf.2.2.2.2.2.2.2.1 hf.2.2.2.2.2.2.2.2.2 h (by omega) (by omega) (by omega)
  have e3 : -SD G j f.o * SL G i f.o - -SL G j f.o * SD G i f.o = -ey G j i f.o := by unfold ey; grind
  rw [e3] at this
  unfold bkn
  omega
theorem crs_f {G : tGe} (hG : gok G) {j : Nat} {q q' f f' : qP} (hq : pok q) (hq' : pok q') (h : ctf G j q = some f) (h' : ctf G j q' = some f') (hc : crs G f f' = true) : crs G q q' = true ∧ frn G j q.o q'.o := by
  obtain ⟨a1, a2, a3, a4, a5, a6, a7⟩ := ctf_in hG hq h
  obtain ⟨b1, b2, b3, b4, b5, b6, b7⟩ := ctf_in hG hq' h'
  unfold crs at *
  rw [Bool.or_eq_true] at *
  rw [a1, b1] at hc
  rcases hc with hc | hc
  · refine ⟨Or.inl (cut_sub hq' b2 b1 b3 b4 hc), ?_⟩
    rw [← b1]
    exact frn_of b2 hc b5 b6 b7
  · refine ⟨Or.inr (cut_sub hq a2 a1 a3 a4 hc), ?_⟩
    rw [← a1]
    exact frn_sym (frn_of a2 hc a5 a6 a7)
theorem crs_b {G : tGe} (hG : gok G) {j : Nat} {q q' f f' : qP} (hq : pok q) (hq' : pok q') (h : ctb G j q = some f) (h' : ctb G j q' = some f') (hc : crs G f f' = true) : crs G q q' = true ∧ bkn G j q.o q'.o := by
  obtain ⟨a1, a2, a3, a4, a5, a6, a7⟩ := ctb_in hG hq h
  obtain ⟨b1, b2, b3, b4, b5, b6, b7⟩ := ctb_in hG hq' h'
  unfold crs at *
  rw [Bool.or_eq_true] at *
  rw [a1, b1] at hc
  rcases hc with hc | hc
  · refine ⟨Or.inl (cut_sub hq' b2 b1 b3 b4 hc), ?_⟩
    rw [← b1]
    exact bkn_of b2 hc b5 b6 b7
  · refine ⟨Or.inr (cut_sub hq a2 a1 a3 a4 hc), ?_⟩
    rw [← a1]
    exact bkn_sym (bkn_of a2 hc a5 a6 a7)
/-- of how many of a row's parts a (perhaps wanting) part is crossed -/
def cnt (G : tGe) (p : Option qP) (r : List qP) : Nat := match p with
  | none => 0
  | some p => r.countP (crs G p)
def Xs (G : tGe) : List qP → Nat
  | [] => 0
  | p :: r => cnt G (some p) r + Xs G r
theorem cnt_le {G : tGe} (hG : gok G) {j : Nat} {q : qP} (hq : pok q) : ∀ (r : List qP), (∀ p ∈ r, pok p) → cnt G (ctf G j q) (frow G j r) + cnt G (ctb G j q) (brow G j r) ≤ cnt G (some q) r
  | [], _ => by
    unfold frow brow cnt
    cases ctf G j q <;> cases ctb G j q <;> simp
  | p :: r, ho => by
    have hp : pok p := ho p List.mem_cons_self
    have ih := cnt_le hG hq (j := j) r (fun p' h => ho p' (List.mem_cons_of_mem _ h))
    have ef : cnt G (ctf G j q) (frow G j (p :: r)) = cnt G (ctf G j q) (frow G j r) + (match ctf G j q, ctf G j p with | some f, some f' => (crs G f f').toNat | _, _ => 0) := by
      unfold frow cnt
      rw [List.filterMap_cons]
      cases ctf G j q <;> cases ctf G j p <;> simp
      rename_i f f'
      rw [List.countP_cons]
      cases crs G f f' <;> rfl
    have eb : cnt G (ctb G j q) (brow G j (p :: r)) = cnt G (ctb G j q) (brow G j r) + (match ctb G j q, ctb G j p with | some f, some f' => (crs G f f').toNat | _, _ => 0) := by
      unfold brow cnt
      rw [List.filterMap_cons]
      cases ctb G j q <;> cases ctb G j p <;> simp
      rename_i f f'
      rw [List.countP_cons]
      cases crs G f f' <;> rfl
    have ew : cnt G (some q) (p :: r) = cnt G (some q) r + (crs G q p).toNat := by
      unfold cnt
      dsimp only
      rw [List.countP_cons]
      cases crs G q p <;> rfl
    have key : (match ctf G j q, ctf G j p with | some f, some f' => (crs G f f').toNat | _, _ => 0) + (match ctb G j q, ctb G j p with | some f, some f' => (crs G f f').toNat | _, _ => 0) ≤ (crs G q p).toNat := by
      cases h1 : ctf G j q with
      | none =>
        dsimp only
        cases h3 : ctb G j q with
        | none => dsimp only; omega
        | some b =>
          cases h4 : ctb G j p with
          | none => dsimp only; omega
          | some b' =>
            dsimp only
            cases hc : crs G b b' with
            | false => simp
            | true => rw [(crs_b hG hq hp h3 h4 hc).1]; simp
      | some f =>
        cases h2 : ctf G j p with
        | none =>
          dsimp only
          cases h3 : ctb G j q with
          | none => dsimp only; omega
          | some b =>
            cases h4 : ctb G j p with
            | none => dsimp only; omega
            | some b' =>
              dsimp only
              cases hc : crs G b b' with
              | false => simp
              | true => rw [(crs_b hG hq hp h3 h4 hc).1]; simp
        | some f' =>
          dsimp only
          cases hcf : crs G f f' with
          | false =>
            cases h3 : ctb G j q with
            | none => dsimp only; simp
            | some b =>
              cases h4 : ctb G j p with
              | none => dsimp only; simp
              | some b' =>
                dsimp only
                cases hc : crs G b b' with
                | false => simp
                | true => rw [(crs_b hG hq hp h3 h4 hc).1]; simp
          | true =>
            have c1 := crs_f hG hq hp h1 h2 hcf
            rw [c1.1]
            cases h3 : ctb G j q with
            | none => dsimp only; simp
            | some b =>
              cases h4 : ctb G j p with
              | none => dsimp only; simp
              | some b' =>
                dsimp only
                cases hc : crs G b b' with
                | false => simp
                | true => exact (frn_bkn c1.2 (crs_b hG hq hp h3 h4 hc).2).elim
    omega
theorem Xs_le {G : tGe} (hG : gok G) (j : Nat) : ∀ (r : List qP), (∀ p ∈ r, pok p) → Xs G (frow G j r) + Xs G (brow G j r) ≤ Xs G r
  | [], _ => by simp [frow, brow, Xs]
  | p :: r, ho => by
    have hp : pok p := ho p List.mem_cons_self
    have ih := Xs_le hG j r (fun p' h => ho p' (List.mem_cons_of_mem _ h))
    have c := cnt_le hG (j := j) hp r (fun p' h => ho p' (List.mem_cons_of_mem _ h))
    have ef : Xs G (frow G j (p :: r)) = cnt G (ctf G j p) (frow G j r) + Xs G (frow G j r) := by
      unfold frow
      rw [List.filterMap_cons]
      cases ctf G j p with
      | none => simp [cnt]
      | some f => rfl
    have eb : Xs G (brow G j (p :: r)) = cnt G (ctb G j p) (brow G j r) + Xs G (brow G j r) := by
      unfold brow
      rw [List.filterMap_cons]
      cases ctb G j p with
      | none => simp [cnt]
      | some f => rfl
    have ew : Xs G (p :: r) = cnt G (some p) r + Xs G r := rfl
    omega
theorem Xs_mid (G : tGe) (p : qP) : ∀ (r1 r2 : List qP), Xs G (r1 ++ p :: r2) = Xs G (r1 ++ r2) + (r1 ++ r2).countP (crs G p)
  | [], r2 => by
    show cnt G (some p) r2 + Xs G r2 = _
    rw [Nat.add_comm]
    rfl
  | q :: r1, r2 => by
    have ih := Xs_mid G p r1 r2
    show cnt G (some q) (r1 ++ p :: r2) + Xs G (r1 ++ p :: r2) = (cnt G (some q) (r1 ++ r2) + Xs G (r1 ++ r2)) + (q :: (r1 ++ r2)).countP (crs G p)
    rw [ih]
    unfold cnt
    dsimp only
    simp only [List.countP_append, List.countP_cons, crs_sym G q p]
    omega
theorem Xs_bd (G : tGe) : ∀ (r : List qP), 2 * Xs G r ≤ r.length * (r.length - 1)
  | [] => by simp [Xs]
  | p :: r => by
    have ih := Xs_bd G r
    have h : cnt G (some p) r ≤ r.length := List.countP_le_length
    show 2 * (cnt G (some p) r + Xs G r) ≤ (r.length + 1) * (r.length + 1 - 1)
    rw [Nat.add_sub_cancel]
    have e : (r.length + 1) * r.length = r.length * r.length + r.length := by rw [Nat.add_mul, Nat.one_mul]
    cases hn : r.length with
    | zero => rw [hn] at ih h; simp at *; omega
    | succ m =>
      rw [hn] at ih h e
      rw [Nat.add_sub_cancel] at ih
      have e2 : (m + 1) * m = m * m + m := by rw [Nat.add_mul, Nat.one_mul]
      have e3 : (m + 1) * (m + 1) = m * m + m + (m + 1) := by rw [Nat.mul_add, Nat.mul_one, e2]
      omega
def nct (G : tGe) (j : Nat) (r : List qP) : Nat := r.countP (cutb G j)
theorem len_cut (G : tGe) (j : Nat) : ∀ (r : List qP), (frow G j r).length + (brow G j r).length + (onrow G j r).length = r.length + nct G j r
  | [] => by simp [frow, brow, onrow, nct]
  | p :: r => by
    have ih := len_cut G j r
    unfold frow brow onrow nct at *
    rw [List.filterMap_cons, List.filterMap_cons, List.filter_cons, List.countP_cons]
    have h4 := how_le G j p
    rcases (show how G j p = 0 ∨ how G j p = 1 ∨ how G j p = 2 ∨ how G j p = 3 ∨ how G j p = 4 by omega) with h | h | h | h | h <;> simp [ctf, ctb, cutb, h] at * <;> omega
theorem how_own (G : tGe) (p : qP) : how G p.o p = 0 := by
  rw [how_0]
  unfold s1 s2
  rw [SD_self, SL_self]
  omega
def phi (G : tGe) (r : List qP) : Nat := r.length + Xs G r
/-- a split never grows what a row may come to -/
theorem phi_le {G : tGe} (hG : gok G) {r : List qP} (ho : ∀ p ∈ r, pok p) {p : qP} (hp : p ∈ r) : (onrow G p.o r).length + phi G (frow G p.o r) + phi G (brow G p.o r) ≤ phi G r := by
  obtain ⟨r1, r2, rfl⟩ := List.append_of_mem hp
  have h0 := how_own G p
  have ho' : ∀ q ∈ r1 ++ r2, pok q := fun q hq => ho q (by rcases List.mem_append.mp hq with h | h; exact List.mem_append_left _ h; exact List.mem_append_right _ (List.mem_cons_of_mem _ h))
  have ef : frow G p.o (r1 ++ p :: r2) = frow G p.o (r1 ++ r2) := by
    unfold frow
    rw [List.filterMap_append, List.filterMap_append, List.filterMap_cons]
    simp [ctf, h0]
  have eb : brow G p.o (r1 ++ p :: r2) = brow G p.o (r1 ++ r2) := by
    unfold brow
    rw [List.filterMap_append, List.filterMap_append, List.filterMap_cons]
    simp [ctb, h0]
  have l := len_cut G p.o (r1 ++ p :: r2)
  have x := Xs_le hG p.o (r1 ++ r2) ho'
  have m := Xs_mid G p r1 r2
  have c1 : nct G p.o (r1 ++ p :: r2) = nct G p.o (r1 ++ r2) := by
    unfold nct
    rw [List.countP_append, List.countP_append, List.countP_cons]
    simp [cutb, h0]
  have c2 : nct G p.o (r1 ++ r2) ≤ (r1 ++ r2).countP (crs G p) := by
    unfold nct
    apply List.countP_mono_left
    intro q _ h
    unfold crs
    rw [h]
    rfl
  unfold phi
  rw [ef, eb] at *
  omega
theorem phi_24 (G : tGe) {r : List qP} (h : r.length ≤ 24) : phi G r ≤ 300 := by
  have := Xs_bd G r
  have h2 : r.length * (r.length - 1) ≤ 24 * 23 := Nat.mul_le_mul h (by omega)
  unfold phi
  omega
/-- the side rows are shorter -/
theorem len_side {G : tGe} {r : List qP} {p : qP} (hp : p ∈ r) (j : Nat) (hj : j = p.o) (b : Bool) : (srow G j b r).length < r.length := by
  subst hj
  have h0 := how_own G p
  have hn : cts G p.o b p = none := cts_n b (by omega) (by cases b <;> simp <;> omega)
  obtain ⟨r1, r2, rfl⟩ := List.append_of_mem hp
  unfold srow
  rw [List.filterMap_append, List.filterMap_cons, hn]
  dsimp only
  rw [List.length_append, List.length_append, List.length_cons]
  have a := List.length_filterMap_le (cts G p.o b) r1
  have c := List.length_filterMap_le (cts G p.o b) r2
  omega
