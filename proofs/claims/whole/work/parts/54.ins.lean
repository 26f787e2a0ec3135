/-! What a ray comes to: rows of (piece, up, low), put in by order -/
abbrev tE : Type := Nat × Nat × Nat
def rpT (g : tMe) (q : Nat) (l : List tE) : Prop := ∀ (i : Nat) (x : tE), l[i]? = some x → g.which (q + i) = iI (x.1 : Int) ∧ g.n (q + i) = iI (x.2.1 : Int) ∧ g.d (q + i) = iI (x.2.2 : Int)
def rpU (g : tmM) (q : Nat) (l : List tE) : Prop := ∀ (i : Nat) (x : tE), l[i]? = some x → g.metPiece (q + i) = iI (x.1 : Int) ∧ g.metUp (q + i) = lI (x.2.1 : Int) ∧ g.metLow (q + i) = lI (x.2.2 : Int)
def eok (x : tE) : Prop := x.2.1 ≤ 100000000 ∧ x.2.2 ≤ 100000000
def insR : List tE → List tE → tE → List tE
  | [], l2, x => x :: l2
  | e :: t, l2, x => if x.2.1 * e.2.2 < e.2.1 * x.2.2 then insR t (e :: l2) x else (e :: t).reverse ++ x :: l2
theorem insR_len : ∀ (t l2 : List tE) (x : tE), (insR t l2 x).length = t.length + l2.length + 1
  | [], l2, x => by rw [insR]; simp
  | e :: t, l2, x => by
    rw [insR]
    split
    · rw [insR_len t (e :: l2) x]; simp; omega
    · simp; omega
theorem insR_ok : ∀ (t l2 : List tE) (x : tE), (∀ y ∈ t, eok y) → (∀ y ∈ l2, eok y) → eok x → ∀ y ∈ insR t l2 x, eok y
  | [], l2, x, _, h2, hx => by
    rw [insR]
    intro y hy
    rcases List.mem_cons.mp hy with rfl | h
    · exact hx
    · exact h2 y h
  | e :: t, l2, x, h1, h2, hx => by
    rw [insR]
    split
    · refine insR_ok t (e :: l2) x (fun y hy => h1 y (List.mem_cons_of_mem _ hy)) ?_ hx
      intro y hy
      rcases List.mem_cons.mp hy with rfl | h
      · exact h1 _ List.mem_cons_self
      · exact h2 y h
    · intro y hy
      rcases List.mem_append.mp hy with h | h
      · exact h1 y (List.mem_reverse.mp h)
      · rcases List.mem_cons.mp h with rfl | h
        · exact hx
        · exact h2 y h
theorem frac {n d n' d' : Nat} (hd : 0 < d) (hd' : 0 < d') (h : n * d' = n' * d) : n / Nat.gcd n d = n' / Nat.gcd n' d' ∧ d / Nat.gcd n d = d' / Nat.gcd n' d' := by
  have gp : 0 < Nat.gcd n d := Nat.gcd_pos_of_pos_right _ hd
  have gp' : 0 < Nat.gcd n' d' := Nat.gcd_pos_of_pos_right _ hd'
  have c := Nat.coprime_div_gcd_div_gcd gp
  have c' := Nat.coprime_div_gcd_div_gcd gp'
  have e1 : n / Nat.gcd n d * Nat.gcd n d = n := Nat.div_mul_cancel (Nat.gcd_dvd_left n d)
  have e2 : d / Nat.gcd n d * Nat.gcd n d = d := Nat.div_mul_cancel (Nat.gcd_dvd_right n d)
  have e3 : n' / Nat.gcd n' d' * Nat.gcd n' d' = n' := Nat.div_mul_cancel (Nat.gcd_dvd_left n' d')
  have e4 : d' / Nat.gcd n' d' * Nat.gcd n' d' = d' := Nat.div_mul_cancel (Nat.gcd_dvd_right n' d')
  generalize Nat.gcd n d = g at *
  generalize Nat.gcd n' d' = g' at *
  generalize n / g = a at *
  generalize d / g = b at *
  generalize n' / g' = a' at *
  generalize d' / g' = b' at *
  subst e1
  subst e2
  subst e3
  subst e4
  have h2 : a * b' = a' * b := by
    have : (a * b') * (g * g') = (a' * b) * (g * g') := by
      have l : (a * b') * (g * g') = a * g * (b' * g') := by ac_rfl
      have r : (a' * b) * (g * g') = a' * g' * (b * g) := by ac_rfl
      rw [l, r, h]
    exact Nat.eq_of_mul_eq_mul_right (Nat.mul_pos gp gp') this
  have d1 : b ∣ b' := by
    have : b ∣ a * b' := by rw [h2]; exact Nat.dvd_mul_left b a'
    exact (Nat.Coprime.symm c).dvd_of_dvd_mul_left this
  have d2 : b' ∣ b := by
    have : b' ∣ a' * b := by rw [← h2]; exact Nat.dvd_mul_left b' a
    exact (Nat.Coprime.symm c').dvd_of_dvd_mul_left this
  have eb : b = b' := Nat.dvd_antisymm d1 d2
  refine ⟨?_, eb⟩
  subst eb
  have bp : 0 < b := Nat.pos_of_ne_zero (fun z => by subst z; simp at hd)
  exact Nat.eq_of_mul_eq_mul_right bp h2
theorem iI_div {a b : Nat} (ha : a < 2147483648) (hb : b < 2147483648) : iI (a : Int) / iI (b : Int) = iI ((a / b : Nat) : Int) := by
  have h1 : a / b ≤ a := Nat.div_le_self a b
  have key : i3 ((a / b : Nat) : Int) := by generalize a / b = c at h1 ⊢; exact ⟨by omega, by omega⟩
  rw [← Int32.toInt_inj, Int32.toInt_div, iI_toInt ⟨by omega, by omega⟩, iI_toInt ⟨by omega, by omega⟩, iI_toInt key, ← Int.ofNat_tdiv]
  exact Jvm.Kit.bmod32 key.1 key.2
theorem zcz_n {α : Type} {b : Nat} {k : Option α} (h : 0 < b) (hb : b < 2147483648) : zcz (iI (b : Int)) k = k := by
  unfold zcz
  rw [if_neg]
  rw [iI_eq0 ⟨by omega, by omega⟩]
  omega
theorem mul_n {a b : Nat} (ha : a ≤ 100000000) (hb : b ≤ 100000000) : a * b ≤ 10000000000000000 := Nat.mul_le_mul ha hb
theorem e_later {g : tMe} {j : Nat} (hj : j < 24) {e : tE} (he : eok e) (h : g.which j = iI (e.1 : Int) ∧ g.n j = iI (e.2.1 : Int) ∧ g.d j = iI (e.2.2 : Int)) {n d : Nat} (hn : n ≤ 100000000) (hd : d ≤ 100000000) : X1_isLater g (iI j) (iI n) (iI d) = some (if n * e.2.2 < e.2.1 * d then 1 else 0) := by
  obtain ⟨e1, e2⟩ := he
  have m1 := mul_n e1 hd
  have m2 := mul_n hn e2
  have b1 : i3 (e.2.1 : Int) := ⟨by omega, by omega⟩
  have b2 : i3 (e.2.2 : Int) := ⟨by omega, by omega⟩
  have b3 : i3 (n : Int) := ⟨by omega, by omega⟩
  have b4 : i3 (d : Int) := ⟨by omega, by omega⟩
  rw [X1_isLater, zck_n hj (by decide), zck_n hj (by decide), cl_n (by omega), h.2.1, h.2.2, iI_l b1, iI_l b2, iI_l b3, iI_l b4, lI_mul, lI_mul, ← Int.natCast_mul, ← Int.natCast_mul, zcb_0, zcb_1]
  have cm : lg_cmp (lI ((e.2.1 * d : Nat) : Int)) (lI ((n * e.2.2 : Nat) : Int)) ≤ 0 ↔ ((e.2.1 * d : Nat) : Int) ≤ ((n * e.2.2 : Nat) : Int) := cmp_le ⟨by omega, by omega⟩ ⟨by omega, by omega⟩
  by_cases c : n * e.2.2 < e.2.1 * d
  · rw [if_neg (by rw [cm]; omega), if_pos c]
  · rw [if_pos (by rw [cm]; omega), if_neg c]
theorem rpT.last {g : tMe} {e : tE} {t : List tE} (h : rpT g 0 (e :: t).reverse) : g.which t.length = iI (e.1 : Int) ∧ g.n t.length = iI (e.2.1 : Int) ∧ g.d t.length = iI (e.2.2 : Int) := by
  have := h t.length e (by rw [List.reverse_cons, List.getElem?_append_right (by simp)]; simp)
  rw [Nat.zero_add] at this
  exact this
theorem rpU.last {g : tmM} {e : tE} {t : List tE} (h : rpU g 0 (e :: t).reverse) : g.metPiece t.length = iI (e.1 : Int) ∧ g.metUp t.length = lI (e.2.1 : Int) ∧ g.metLow t.length = lI (e.2.2 : Int) := by
  have := h t.length e (by rw [List.reverse_cons, List.getElem?_append_right (by simp)]; simp)
  rw [Nat.zero_add] at this
  exact this
theorem rev_get {e : tE} {t : List tE} {i : Nat} {x : tE} (h : t.reverse[i]? = some x) : (e :: t).reverse[i]? = some x := by
  have := get_lt h
  rw [List.reverse_cons, List.getElem?_append_left this]
  exact h
def setT (g : tMe) (k : Nat) (x : tE) : tMe := (upd g.which k (iI (x.1 : Int)), upd g.n k (iI (x.2.1 : Int)), upd g.d k (iI (x.2.2 : Int)), g.size)
def setU (g : tmM) (k : Nat) (x : tE) : tmM := (upd g.metPiece k (iI (x.1 : Int)), vp_updL g.metUp k (lI (x.2.1 : Int)), vp_updL g.metLow k (lI (x.2.2 : Int)), g.2.2.2)
theorem setT_at (g : tMe) (k : Nat) (x : tE) : (setT g k x).which k = iI (x.1 : Int) ∧ (setT g k x).n k = iI (x.2.1 : Int) ∧ (setT g k x).d k = iI (x.2.2 : Int) := ⟨upd_eq, upd_eq, upd_eq⟩
theorem setU_at (g : tmM) (k : Nat) (x : tE) : (setU g k x).metPiece k = iI (x.1 : Int) ∧ (setU g k x).metUp k = lI (x.2.1 : Int) ∧ (setU g k x).metLow k = lI (x.2.2 : Int) := ⟨upd_eq, updL_eq, updL_eq⟩
theorem setT_ne {g : tMe} {k i : Nat} {x : tE} (h : i ≠ k) : (setT g k x).which i = g.which i ∧ (setT g k x).n i = g.n i ∧ (setT g k x).d i = g.d i := ⟨upd_ne h, upd_ne h, upd_ne h⟩
theorem setU_ne {g : tmM} {k i : Nat} {x : tE} (h : i ≠ k) : (setU g k x).metPiece i = g.metPiece i ∧ (setU g k x).metUp i = g.metUp i ∧ (setU g k x).metLow i = g.metLow i := ⟨upd_ne h, updL_ne h, updL_ne h⟩
theorem rpT.set {g : tMe} {q k : Nat} {x : tE} {l : List tE} (h : rpT g q l) (hk : k < q ∨ q + l.length ≤ k) : rpT (setT g k x) q l := by
  intro i y hy
  have := get_lt hy
  obtain ⟨a, b, c⟩ := setT_ne (g := g) (x := x) (show q + i ≠ k by omega)
  rw [a, b, c]
  exact h i y hy
theorem rpU.set {g : tmM} {q k : Nat} {x : tE} {l : List tE} (h : rpU g q l) (hk : k < q ∨ q + l.length ≤ k) : rpU (setU g k x) q l := by
  intro i y hy
  have := get_lt hy
  obtain ⟨a, b, c⟩ := setU_ne (g := g) (x := x) (show q + i ≠ k by omega)
  rw [a, b, c]
  exact h i y hy
theorem rpT.cons {g : tMe} {q : Nat} {x : tE} {l : List tE} (h : rpT g (q + 1) l) (hx : g.which q = iI (x.1 : Int) ∧ g.n q = iI (x.2.1 : Int) ∧ g.d q = iI (x.2.2 : Int)) : rpT g q (x :: l) := by
  intro i y hy
  rcases i with _ | i
  · rw [List.getElem?_cons_zero] at hy
    rw [← Option.some.inj hy]
    exact hx
  · rw [List.getElem?_cons_succ] at hy
    have := h i y hy
    rw [show q + (i + 1) = q + 1 + i by omega]
    exact this
theorem rpU.cons {g : tmM} {q : Nat} {x : tE} {l : List tE} (h : rpU g (q + 1) l) (hx : g.metPiece q = iI (x.1 : Int) ∧ g.metUp q = lI (x.2.1 : Int) ∧ g.metLow q = lI (x.2.2 : Int)) : rpU g q (x :: l) := by
  intro i y hy
  rcases i with _ | i
  · rw [List.getElem?_cons_zero] at hy
    rw [← Option.some.inj hy]
    exact hx
  · rw [List.getElem?_cons_succ] at hy
    have := h i y hy
    rw [show q + (i + 1) = q + 1 + i by omega]
    exact this
theorem rpT.app {g : tMe} {q : Nat} {l l' : List tE} (h : rpT g q l) (h' : rpT g (q + l.length) l') : rpT g q (l ++ l') := by
  intro i x hx
  rcases get_app hx with h1 | ⟨m, rfl, h1⟩
  · exact h i x h1
  · rw [← Nat.add_assoc]; exact h' m x h1
theorem rpU.app {g : tmM} {q : Nat} {l l' : List tE} (h : rpU g q l) (h' : rpU g (q + l.length) l') : rpU g q (l ++ l') := by
  intro i x hx
  rcases get_app hx with h1 | ⟨m, rfl, h1⟩
  · exact h i x h1
  · rw [← Nat.add_assoc]; exact h' m x h1
theorem iI_p1 (v : Nat) : iI ((v + 1 : Nat) : Int) - (1 : Int32) = iI (v : Int) := by rw [c_1, iI_sub]; congr 1; omega
