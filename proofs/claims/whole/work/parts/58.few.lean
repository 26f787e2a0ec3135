/-! fewest: the class's search -/
def mnl (l : List Nat) (m : Nat) : Nat := l.foldl (fun m c => if c < m then c else m) m
def fwv (G : tGe) (all : Bool) : Nat → List qP → Nat
  | 0, _ => 0
  | fu + 1, r => if r.length = 0 then 0 else mnl ((if all = true then r else r.take 1).map (fun p => (onrow G p.o r).length + fwv G all fu (srow G p.o true r) + fwv G all fu (srow G p.o false r))) 300
theorem mnl_le : ∀ (l : List Nat) (m : Nat), mnl l m ≤ m
  | [], m => Nat.le_refl m
  | c :: l, m => by
    have := mnl_le l (if c < m then c else m)
    show mnl l (if c < m then c else m) ≤ m
    split at this <;> split <;> omega
theorem mnl_mem : ∀ (l : List Nat) (m c : Nat), c ∈ l → mnl l m ≤ c
  | [], m, c, h => by cases h
  | x :: l, m, c, h => by
    show mnl l (if x < m then x else m) ≤ c
    rcases List.mem_cons.mp h with rfl | h
    · have := mnl_le l (if c < m then c else m)
      split at this <;> split <;> omega
    · exact mnl_mem l _ c h
theorem srow_ok {G : tGe} (hG : gok G) {j : Nat} {b : Bool} {r : List qP} (h : ∀ p ∈ r, pok p) : ∀ p ∈ srow G j b r, pok p := by
  intro q hq
  obtain ⟨p, hp, h1⟩ := List.mem_filterMap.mp hq
  exact (cts_ok hG (h p hp) h1).1
theorem how_self {G : tGe} (p : qP) : how G p.o p = 0 := by
  unfold how s1 s2
  rw [SD_self, SL_self, Int.zero_mul, Int.zero_mul, Int.zero_mul, Int.zero_mul]
  rfl
theorem cts_self {G : tGe} {b : Bool} {p : qP} : cts G p.o b p = none := by
  have h := how_self (G := G) p
  unfold cts ctf ctb
  rw [h]
  cases b <;> rfl
theorem fm_lt {α β : Type} (f : α → Option β) : ∀ (l : List α) (p : α), p ∈ l → f p = none → (l.filterMap f).length < l.length
  | [], p, h, _ => by cases h
  | x :: l, p, h, hf => by
    rw [List.filterMap_cons, List.length_cons]
    rcases List.mem_cons.mp h with rfl | h
    · rw [hf]
      have := List.length_filterMap_le f l
      show (l.filterMap f).length < _
      omega
    · have := fm_lt f l p h hf
      cases f x with
      | none => show (l.filterMap f).length < _; omega
      | some y => show (y :: l.filterMap f).length < _; rw [List.length_cons]; omega
theorem srow_lt {G : tGe} {b : Bool} {r : List qP} {p : qP} (hp : p ∈ r) : (srow G p.o b r).length < r.length := fm_lt _ r p hp cts_self
theorem fwv_le {G : tGe} (hG : gok G) (all : Bool) : ∀ (fu : Nat) (r : List qP), (∀ p ∈ r, pok p) → fwv G all fu r ≤ phi G r
  | 0, r, _ => Nat.zero_le _
  | fu + 1, r, ho => by
    rw [fwv]
    split
    · exact Nat.zero_le _
    · rename_i h0
      obtain ⟨p, hp⟩ : ∃ p, p ∈ (if all = true then r else r.take 1) := by
        cases r with
        | nil => exact (h0 rfl).elim
        | cons p t => exact ⟨p, by split <;> simp⟩
      have hpr : p ∈ r := by
        split at hp
        · exact hp
        · exact List.mem_of_mem_take hp
      have := mnl_mem _ 300 _ (List.mem_map_of_mem (f := fun p : qP => (onrow G p.o r).length + fwv G all fu (srow G p.o true r) + fwv G all fu (srow G p.o false r)) hp)
      have ph := phi_le hG ho hpr
      have f1 := fwv_le hG all fu (srow G p.o true r) (srow_ok hG ho)
      have f2 := fwv_le hG all fu (srow G p.o false r) (srow_ok hG ho)
      rw [srow_t] at f1
      rw [srow_f] at f2
      rw [srow_t, srow_f] at this
      omega
theorem e_howMany {G : tGe} {gP : tPi} {gR : tPa} (hG : gok G) (hP : rlP G gP) {j : Nat} (hj : j < 24) (N : Nat) : ∀ (r : List qP) (fu k c : Nat), (∀ p ∈ r, pok p) → rpR gR k r → k + r.length ≤ 300 → c + r.length ≤ 300 → r.length < fu →
    X4_howManyOn_b6 N gP gR fu (iI ((k + r.length : Nat) : Int)) (iI j) (iI c) (iI k) = some (iI ((c + (onrow G j r).length : Nat) : Int))
  | [], fu, k, c, _, _, hk, hc, hf => by
    obtain ⟨fu, rfl⟩ : ∃ f, fu = f + 1 := ⟨fu - 1, by simp at hf; omega⟩
    rw [X4_howManyOn_b6, if_pos (by rw [iI_le_n (by simp at hk ⊢; omega) (by simp at hk; omega)]; simp), X4_howManyOn_b34]
    rfl
  | p :: r, fu, k, c, ho, hr, hk, hc, hf => by
    rw [List.length_cons] at hk hc hf ⊢
    obtain ⟨fu, rfl⟩ : ∃ f, fu = f + 1 := ⟨fu - 1, by omega⟩
    have h4 := how_le G j p
    have ih := fun c' => e_howMany hG hP hj N r fu (k + 1) c' (fun p' h' => ho p' (List.mem_cons_of_mem _ h')) hr.tail (by omega)
    rw [X4_howManyOn_b6, if_neg (by rw [iI_le_n (by omega) (by omega)]; omega), e_sides hG hP (show k < 300 by omega) hj (ho p List.mem_cons_self) hr.head, Option.bind_some, show k + (r.length + 1) = k + 1 + r.length by omega]
    unfold onrow at *
    by_cases h0 : how G j p = 0
    · rw [if_pos ((bt_0 h4).mpr h0), X4_howManyOn_b28, iI_succ, iI_succ, ih (c + 1) (by omega) (by omega), List.filter_cons, if_pos (by simp [h0]), List.length_cons]
      congr 3
      omega
    · rw [if_neg (fun q => h0 ((bt_0 h4).mp q)), X4_howManyOn_b28, iI_succ, ih c (by omega) (by omega), List.filter_cons, if_neg (by simp [h0])]
/-- what the search answers for a row -/
def fwS (N : Nat) (gP : tPi) (G : tGe) (all : Bool) (fu d : Nat) (r : List qP) (de : Nat) : Prop := ∀ (gR : tPa) (q : Nat), rpR gR q r → gR.size = iI ((q + r.length : Nat) : Int) → 2 * (q + r.length) + r.length * (r.length - 1) ≤ 600 →
  ∃ gR', X4_fewest N d gP gR (iI q) (iI ((q + r.length : Nat) : Int)) (kpv (!all)) (iI de) = some (iI (fwv G all fu r : Int), gR') ∧ smR gR gR' (q + r.length) ∧ gR'.size = iI ((q + r.length : Nat) : Int)
theorem e_cand {N : Nat} (hN : 1000 < N) {G : tGe} {gP : tPi} (hG : gok G) (hP : rlP G gP) {all : Bool} {fu d de : Nat} {r : List qP} (ho : ∀ p ∈ r, pok p) {p : qP} (hp : p ∈ r) (S1 : fwS N gP G all fu d (srow G p.o true r) (de + 1)) (S2 : fwS N gP G all fu d (srow G p.o false r) (de + 1)) (k35 : tPa → Int32 → Int32 → Int32 → Int32 → Int32 → Int32 → Int32 → Option (Int32 × tPa)) {gR : tPa} {q m : Nat} (hr : rpR gR q r) (hs : gR.size = iI ((q + r.length : Nat) : Int)) (h6 : 2 * (q + r.length) + r.length * (r.length - 1) ≤ 600) (hph : phi G r ≤ 300) (hm : m ≤ 300) (v5 v7 : Int32) :
    ∃ gR', X4_fewest_b70 N (X4_fewest N d) k35 gP N gR (iI q) (iI ((q + r.length : Nat) : Int)) (kpv (!all)) (iI de) v5 (iI m) v7 (iI (p.o : Int)) (iI ((onrow G p.o r).length : Int)) (1 : Int32) = k35 gR' (iI q) (iI ((q + r.length : Nat) : Int)) (kpv (!all)) (iI de) v5 (iI (((if (onrow G p.o r).length + fwv G all fu (srow G p.o true r) + fwv G all fu (srow G p.o false r) < m then (onrow G p.o r).length + fwv G all fu (srow G p.o true r) + fwv G all fu (srow G p.o false r) else m) : Nat) : Int)) (v7 + (1 : Int32)) ∧ smR gR gR' (q + r.length) ∧ gR'.size = iI ((q + r.length : Nat) : Int) := by
  have hj : p.o < 24 := (ho p hp).1
  have l1 := srow_lt (G := G) (b := true) hp
  have l2 := srow_lt (G := G) (b := false) hp
  have t1 := tri_le l1 h6
  have t2 := tri_le l2 h6
  have ph := phi_le hG ho hp
  have f1 := fwv_le hG all fu (srow G p.o true r) (srow_ok hG ho)
  have f2 := fwv_le hG all fu (srow G p.o false r) (srow_ok hG ho)
  rw [srow_t] at f1
  rw [srow_f] at f2
  have w1 : fwv G all fu (srow G p.o true r) + (onrow G p.o r).length ≤ 300 := by rw [srow_t]; omega
  have w2 : (onrow G p.o r).length + fwv G all fu (srow G p.o true r) + fwv G all fu (srow G p.o false r) ≤ 300 := by rw [srow_t, srow_f]; omega
  obtain ⟨N1, hN1⟩ : ∃ k, N = k + 3 := ⟨N - 3, by omega⟩
  -- one side
  obtain ⟨g1, a1, a2, a3⟩ := S1 (pshs gR (q + r.length) (srow G p.o true r)) (q + r.length) (rpR.pshs _ _ _) (pshs_size _ _ _ hs) t1
  have c1 : smR gR (tPa.s_size g1 (iI ((q + r.length : Nat) : Int))) (q + r.length) := smR.trans (smR.pshs _ _ _) (a2.mono (by omega)) (Nat.le_refl _)
  have hr1 : rpR (tPa.s_size g1 (iI ((q + r.length : Nat) : Int))) q r := hr.keep c1 (Nat.le_refl _)
  obtain ⟨g2, b1, b2, b3⟩ := S2 (pshs (tPa.s_size g1 (iI ((q + r.length : Nat) : Int))) (q + r.length) (srow G p.o false r)) (q + r.length) (rpR.pshs _ _ _) (pshs_size _ _ _ rfl) t2
  have c2 : smR gR (tPa.s_size g2 (iI ((q + r.length : Nat) : Int))) (q + r.length) := smR.trans c1 (smR.trans (smR.pshs _ _ _) (b2.mono (by omega)) (Nat.le_refl _)) (Nat.le_refl _)
  refine ⟨tPa.s_size g2 (iI ((q + r.length : Nat) : Int)), ?_, c2, rfl⟩
  have s1 := e_sideRow hG hP hj true N r N q (q + r.length) gR ho hr hs (Nat.le_refl _) (by omega) (by omega)
  have s2 := e_sideRow hG hP hj false N r N q (q + r.length) (tPa.s_size g1 (iI ((q + r.length : Nat) : Int))) ho hr1 rfl (Nat.le_refl _) (by omega) (by omega)
  have s1' : X0_addSideRow N gP gR (iI q) (iI ((q + r.length : Nat) : Int)) (iI (p.o : Int)) (1 : Int32) = some (pshs gR (q + r.length) (srow G p.o true r)) := s1
  have s2' : X0_addSideRow N gP (tPa.s_size g1 (iI ((q + r.length : Nat) : Int))) (iI q) (iI ((q + r.length : Nat) : Int)) (iI (p.o : Int)) ((1 : Int32) + 1) = some (pshs (tPa.s_size g1 (iI ((q + r.length : Nat) : Int))) (q + r.length) (srow G p.o false r)) := s2
  rw [show X4_fewest_b70 N (X4_fewest N d) k35 gP N = X4_fewest_b70 N (X4_fewest N d) k35 gP (N1 + 1 + 1 + 1) by rw [hN1], X4_fewest_b70, if_neg (by decide), zl, hs, s1', Option.bind_some, pshs_size _ _ _ hs, iI_succ, a1, Option.bind_some, zl, iI_add, ← Int.natCast_add]
  rw [X4_fewest_b70, if_neg (by decide), zl]
  rw [show tPa.size (tPa.s_size g1 (iI ((q + r.length : Nat) : Int))) = iI ((q + r.length : Nat) : Int) from rfl, s2', Option.bind_some, pshs_size _ _ _ rfl, iI_succ, b1, Option.bind_some, zl, iI_add, ← Int.natCast_add]
  rw [X4_fewest_b70, if_pos (by decide), X4_fewest_b145, zl]
  by_cases c : (onrow G p.o r).length + fwv G all fu (srow G p.o true r) + fwv G all fu (srow G p.o false r) < m
  · rw [if_pos c, if_pos (by rw [iI_lt_n (by omega) (by omega)]; exact c)]
  · rw [if_neg c, if_neg (by rw [iI_lt_n (by omega) (by omega)]; exact c)]
theorem e_cands {N : Nat} (hN : 1000 < N) {G : tGe} {gP : tPi} (hG : gok G) (hP : rlP G gP) {all : Bool} {fu d de : Nat} {r : List qP} (ho : ∀ p ∈ r, pok p) (S : ∀ p ∈ r, ∀ b, fwS N gP G all fu d (srow G p.o b r) (de + 1)) {q : Nat} (h6 : 2 * (q + r.length) + r.length * (r.length - 1) ≤ 600) (hph : phi G r ≤ 300) : ∀ (t : List qP) (f i m : Nat) (gR : tPa), (∀ k x, t[k]? = some x → r[i + k]? = some x) → t.length < f → m ≤ 300 → rpR gR q r → gR.size = iI ((q + r.length : Nat) : Int) → i + t.length ≤ r.length →
    ∃ gR', X4_fewest_b35 N (X4_fewest N d) gP f gR (iI q) (iI ((q + r.length : Nat) : Int)) (kpv (!all)) (iI de) (iI ((q + i + t.length : Nat) : Int)) (iI m) (iI ((q + i : Nat) : Int)) = some (iI ((mnl (t.map (fun p => (onrow G p.o r).length + fwv G all fu (srow G p.o true r) + fwv G all fu (srow G p.o false r))) m : Nat) : Int), gR') ∧ smR gR gR' (q + r.length) ∧ gR'.size = iI ((q + r.length : Nat) : Int)
  | [], f, i, m, gR, _, hf, hm, hr, hs, hi => by
    rw [List.length_nil] at hf hi ⊢
    obtain ⟨f, rfl⟩ : ∃ k, f = k + 1 := ⟨f - 1, by omega⟩
    refine ⟨gR, ?_, smR.rfl', hs⟩
    rw [X4_fewest_b35, if_pos (by rw [iI_le_n (by omega) (by omega)]; omega)]
    rfl
  | p :: t, f, i, m, gR, ht, hf, hm, hr, hs, hi => by
    rw [List.length_cons] at hf hi ⊢
    obtain ⟨f, rfl⟩ : ∃ k, f = k + 1 := ⟨f - 1, by omega⟩
    have hpi : r[i]? = some p := ht 0 p rfl
    have hp : p ∈ r := List.mem_of_getElem? hpi
    have hj : p.o < 24 := (ho p hp).1
    have ow := (hr i p hpi).1
    have hw := e_howMany (gR := gR) hG hP hj N r N q 0 ho hr (by omega) (by omega) (by omega)
    rw [Nat.zero_add] at hw
    have hw' : X4_howManyOn N gP gR (iI q) (iI ((q + r.length : Nat) : Int)) (iI (p.o : Int)) = some (iI ((onrow G p.o r).length : Int)) := hw
    obtain ⟨g1, e1, e2, e3⟩ := e_cand hN hG hP ho hp (S p hp true) (S p hp false) (X4_fewest_b35 N (X4_fewest N d) gP f) hr hs h6 hph hm (iI ((q + i + (t.length + 1) : Nat) : Int)) (iI ((q + i : Nat) : Int))
    have h300 : (if (onrow G p.o r).length + fwv G all fu (srow G p.o true r) + fwv G all fu (srow G p.o false r) < m then (onrow G p.o r).length + fwv G all fu (srow G p.o true r) + fwv G all fu (srow G p.o false r) else m) ≤ 300 := by split <;> omega
    obtain ⟨g2, i1, i2, i3'⟩ := e_cands hN hG hP ho S h6 hph t f (i + 1) (if (onrow G p.o r).length + fwv G all fu (srow G p.o true r) + fwv G all fu (srow G p.o false r) < m then (onrow G p.o r).length + fwv G all fu (srow G p.o true r) + fwv G all fu (srow G p.o false r) else m) g1 (fun k x hx => by have := ht (k + 1) x hx; rw [show i + 1 + k = i + (k + 1) by omega]; exact this) (by omega) h300 (hr.keep e2 (Nat.le_refl _)) e3 (by omega)
    refine ⟨g2, ?_, e2.trans i2 (Nat.le_refl _), i3'⟩
    rw [X4_fewest_b35, if_neg (by rw [iI_le_n (by omega) (by omega)]; omega), zck_n (show q + i < 300 by omega) (by decide), cl_n (by omega), ow, zl, hw', Option.bind_some, e1, iI_succ, show q + i + (t.length + 1) = q + (i + 1) + t.length by omega, show q + i + 1 = q + (i + 1) by omega]
    exact i1
theorem e_few {N : Nat} (hN : 1000 < N) {G : tGe} {gP : tPi} (hG : gok G) (hP : rlP G gP) (all : Bool) : ∀ (fu d : Nat) (r : List qP) (de : Nat), (∀ p ∈ r, pok p) → r.length < fu → fu ≤ d → r.length + de ≤ 6 → fwS N gP G all fu d r de
  | 0, d, r, de, ho, hf, _, _ => by omega
  | fu + 1, d, r, de, ho, hf, hd, h6 => by
    obtain ⟨d, rfl⟩ : ∃ k, d = k + 1 := ⟨d - 1, by omega⟩
    intro gR q hr hs ht
    rw [X4_fewest, X4_fewest_body, fwv]
    by_cases h0 : r.length = 0
    · rw [if_pos (by rw [iI_le_n (by omega) (by omega)]; omega), if_pos h0]
      exact ⟨gR, rfl, smR.rfl', hs⟩
    · rw [if_neg (by rw [iI_le_n (by omega) (by omega)]; omega), if_neg h0, show (6 : Int32) = iI ((6 : Nat) : Int) from rfl, if_pos (by rw [iI_lt_n (by omega) (by omega)]; omega)]
      have S : ∀ p ∈ r, ∀ b, fwS N gP G all fu d (srow G p.o b r) (de + 1) := fun p hp b => by
        have := srow_lt (G := G) (b := b) hp
        exact e_few hN hG hP all fu d (srow G p.o b r) (de + 1) (srow_ok hG ho) (by omega) (by omega) (by omega)
      have p24 := phi_24 G (r := r) (by omega)
      cases all with
      | true =>
        obtain ⟨g1, e1, e2, e3⟩ := e_cands hN hG hP ho S ht p24 r N 0 300 gR (fun k x hx => by rw [Nat.zero_add]; exact hx) (by omega) (by omega) hr hs (by omega)
        refine ⟨g1, ?_, e2, e3⟩
        rw [if_pos (by decide), X4_fewest_b25]
        exact e1
      | false =>
        have tl : (r.take 1).length = 1 := by rw [List.length_take]; omega
        obtain ⟨g1, e1, e2, e3⟩ := e_cands hN hG hP ho S ht p24 (r.take 1) N 0 300 gR (fun k x hx => by
          rw [Nat.zero_add]
          have := get_lt hx
          rw [List.getElem?_take_of_lt (by omega)] at hx
          exact hx) (by omega) (by omega) hr hs (by omega)
        refine ⟨g1, ?_, e2, e3⟩
        rw [if_neg (by decide), X4_fewest_b25, iI_succ]
        rw [tl] at e1
        exact e1
