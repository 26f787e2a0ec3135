/-! What the tree's lists are: children behind, of a smaller rank; weights; depths -/
def chd (K : List kn) (k0 rk : Nat) (c : Int) (w : Nat) : Prop := (c ≤ -2 ∧ -2000 ≤ c ∧ w = 0) ∨ ∃ (m : Nat) (y : kn), K[m]? = some y ∧ c = ((k0 + m : Nat) : Int) ∧ y.rk < rk ∧ y.w = w
def wfK (K : List kn) (k0 : Nat) (ab : Int) (de : Nat) : Prop := ∀ (i : Nat) (x : kn), K[i]? = some x → x.line < 24 ∧ 1 ≤ x.rk ∧ x.rk ≤ 24 ∧ (∃ wf wb : Nat, chd K k0 x.rk x.front wf ∧ chd K k0 x.rk x.back wb ∧ x.w = x.held + wf + wb) ∧ ((i = 0 ∧ x.above = ab ∧ x.dep = de + 1) ∨ ∃ (m : Nat) (y : kn), m < i ∧ K[m]? = some y ∧ x.above = ((k0 + m : Nat) : Int) ∧ x.dep = y.dep + 1)
theorem chd_sub {K F : List kn} {k0 s rk : Nat} {c : Int} {w : Nat} (hs : ∀ (m : Nat) (y : kn), F[m]? = some y → K[s + m]? = some y) (h : chd F (k0 + s) rk c w) : chd K k0 rk c w := by
  rcases h with h | ⟨m, y, h1, h2, h3, h4⟩
  · exact Or.inl h
  · exact Or.inr ⟨s + m, y, hs m y h1, by rw [h2, Nat.add_assoc], h3, h4⟩
theorem chd_mono {K : List kn} {k0 rk rk' : Nat} {c : Int} {w : Nat} (hr : rk ≤ rk') (h : chd K k0 rk c w) : chd K k0 rk' c w := by
  rcases h with h | ⟨m, y, h1, h2, h3, h4⟩
  · exact Or.inl h
  · exact Or.inr ⟨m, y, h1, h2, by omega, h4⟩
theorem grw_wf {G : tGe} (hG : gok G) (ru : Int) : ∀ (fu : Nat) (r : List qP) (ab : Int) (de k0 p0 l0 : Nat) (d : Int32), (∀ p ∈ r, pok p) → r.length < fu → r.length ≤ 24 → l0 + phi G r ≤ 1000 →
    wfK (grw G ru fu r ab de k0 p0 l0 d).K k0 ab de ∧ chd (grw G ru fu r ab de k0 p0 l0 d).K k0 (r.length + 1) (cde r k0 l0) (grw G ru fu r ab de k0 p0 l0 d).P.length ∧ (∀ x ∈ (grw G ru fu r ab de k0 p0 l0 d).P, pok x.1)
  | 0, r, ab, de, k0, p0, l0, d, ho, hf, _, _ => by omega
  | fu + 1, r, ab, de, k0, p0, l0, d, ho, hf, h24, hl => by
    by_cases h0 : r.length = 0
    · rw [grw, if_pos h0]
      refine ⟨fun i x h => nil_get h, Or.inl ?_, fun x h => by cases h⟩
      unfold cde
      rw [if_pos h0]
      refine ⟨by omega, by omega, rfl⟩
    · have hpos : 0 < r.length := by omega
      obtain ⟨p, hp, hj, -⟩ := lin_mem (G := G) (ru := ru) (d := d) hpos
      have hj24 : lin G ru r d < 24 := by rw [← hj]; exact (ho p hp).1
      have ph := phi_le hG ho hp
      rw [hj] at ph
      have fl := frow_lt (G := G) (ru := ru) (d := d) hpos
      have bl := brow_lt (G := G) (ru := ru) (d := d) hpos
      have fo := frow_ok (j := lin G ru r d) hG ho
      have bo := brow_ok (j := lin G ru r d) hG ho
      rw [grw, if_neg h0]
      dsimp only [gO.K, gO.P, gO.L, gO.D]
      generalize hjj : lin G ru r d = j at *
      have oo : ∀ x ∈ onrow G j r, pok x := fun x hx => ho x (List.mem_filter.mp hx).1
      generalize hon : onrow G j r = on at *
      have bdF := grw_bd hG ru fu (frow G j r) (k0 : Int) (de + 1) (k0 + 1) (p0 + on.length) l0 (cho G ru r d).2 fo (by omega)
      obtain ⟨F1, F2, F3⟩ := grw_wf hG ru fu (frow G j r) (k0 : Int) (de + 1) (k0 + 1) (p0 + on.length) l0 (cho G ru r d).2 fo (by omega) (by omega) (by omega)
      generalize hF : grw G ru fu (frow G j r) (k0 : Int) (de + 1) (k0 + 1) (p0 + on.length) l0 (cho G ru r d).2 = F at *
      have bdF' : F.2.2.1 ≤ phi G (frow G j r) + 1 := by dsimp only [gO.K, gO.P, gO.L] at bdF; omega
      have onp : 0 < on.length := by rw [← hon, ← hjj]; exact on_pos hpos
      obtain ⟨B1, B2, B3⟩ := grw_wf hG ru fu (brow G j r) (k0 : Int) (de + 1) (k0 + 1 + F.1.length) (p0 + on.length + F.2.1.length) (l0 + F.2.2.1) F.2.2.2 bo (by omega) (by omega) (by omega)
      generalize hB : grw G ru fu (brow G j r) (k0 : Int) (de + 1) (k0 + 1 + F.1.length) (p0 + on.length + F.2.1.length) (l0 + F.2.2.1) F.2.2.2 = B at *
      dsimp only [gO.K, gO.P, gO.L, gO.D] at *
      generalize hx0 : ((j, on.length, p0, cde (frow G j r) (k0 + 1) l0, cde (brow G j r) (k0 + 1 + F.1.length) (l0 + F.2.2.1), ab, de + 1, r.length, on.length + F.2.1.length + B.2.1.length) : kn) = x0
      have sF : ∀ (m : Nat) (y : kn), F.1[m]? = some y → (x0 :: (F.1 ++ B.1))[1 + m]? = some y := by
        intro m y h
        rw [Nat.add_comm 1 m, List.getElem?_cons_succ, List.getElem?_append_left (List.getElem?_eq_some_iff.mp h).1]
        exact h
      have sB : ∀ (m : Nat) (y : kn), B.1[m]? = some y → (x0 :: (F.1 ++ B.1))[1 + F.1.length + m]? = some y := by
        intro m y h
        rw [show 1 + F.1.length + m = F.1.length + m + 1 by omega, List.getElem?_cons_succ, List.getElem?_append_right (by omega), show F.1.length + m - F.1.length = m by omega]
        exact h
      have cF := chd_sub (k0 := k0) sF F2
      have cB' := chd_sub (K := x0 :: (F.1 ++ B.1)) (k0 := k0) (s := 1 + F.1.length) sB (by rw [← Nat.add_assoc]; exact B2)
      have z0 : (x0 :: (F.1 ++ B.1))[0]? = some x0 := rfl
      have q1 : kn.line x0 = j := by rw [← hx0]
      have q2 : kn.rk x0 = r.length := by rw [← hx0]
      have q3 : kn.front x0 = cde (frow G j r) (k0 + 1) l0 := by rw [← hx0]
      have q4 : kn.back x0 = cde (brow G j r) (k0 + 1 + F.1.length) (l0 + F.2.2.1) := by rw [← hx0]
      have q5 : kn.w x0 = kn.held x0 + F.2.1.length + B.2.1.length := by rw [← hx0]
      have q6 : kn.w x0 = on.length + F.2.1.length + B.2.1.length := by rw [← hx0]
      have q7 : kn.above x0 = ab ∧ kn.dep x0 = de + 1 := by rw [← hx0]; exact ⟨rfl, rfl⟩
      refine ⟨?_, Or.inr ⟨0, x0, z0, by unfold cde; rw [if_neg h0]; rfl, by rw [q2]; omega, by rw [q6]; simp only [List.length_append, List.length_map]; omega⟩, ?_⟩
      · intro i x hi
        cases i with
        | zero =>
          rw [List.getElem?_cons_zero] at hi
          cases hi
          refine ⟨by rw [q1]; exact hj24, by rw [q2]; exact hpos, by rw [q2]; exact h24, ⟨F.2.1.length, B.2.1.length, ?_, ?_, q5⟩, Or.inl ⟨rfl, q7.1, q7.2⟩⟩
          · rw [q2, q3]
            exact chd_mono (show (frow G j r).length + 1 ≤ r.length by omega) cF
          · rw [q2, q4]
            exact chd_mono (show (brow G j r).length + 1 ≤ r.length by omega) cB'
        | succ i =>
          rw [List.getElem?_cons_succ] at hi
          rcases get_app hi with h' | ⟨m, rfl, h'⟩
          · obtain ⟨a1, a2, a3, ⟨wf, wb, a4, a5, a6⟩, a7⟩ := F1 i x h'
            refine ⟨a1, a2, a3, ⟨wf, wb, chd_sub sF a4, chd_sub sF a5, a6⟩, Or.inr ?_⟩
            rcases a7 with ⟨rfl, e2, e3⟩ | ⟨m, y, e1, e2, e3, e4⟩
            · exact ⟨0, x0, by omega, z0, by rw [e2]; rfl, by rw [e3, ← hx0]⟩
            · exact ⟨1 + m, y, by omega, sF m y e2, by rw [e3, Nat.add_assoc], e4⟩
          · obtain ⟨a1, a2, a3, ⟨wf, wb, a4, a5, a6⟩, a7⟩ := B1 m x h'
            refine ⟨a1, a2, a3, ⟨wf, wb, chd_sub (s := 1 + F.1.length) sB (by rw [← Nat.add_assoc]; exact a4), chd_sub (s := 1 + F.1.length) sB (by rw [← Nat.add_assoc]; exact a5), a6⟩, Or.inr ?_⟩
            rcases a7 with ⟨rfl, e2, e3⟩ | ⟨m', y, e1, e2, e3, e4⟩
            · exact ⟨0, x0, by omega, z0, by rw [e2]; rfl, by rw [e3, ← hx0]⟩
            · exact ⟨1 + F.1.length + m', y, by omega, sB m' y e2, by rw [e3]; omega, e4⟩
      · intro x hx
        rcases List.mem_append.mp hx with h' | h'
        · obtain ⟨q, hq, rfl⟩ := List.mem_map.mp h'
          exact oo q hq
        · rcases List.mem_append.mp h' with h' | h'
          · exact F3 x h'
          · exact B3 x h'
