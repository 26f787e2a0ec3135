def nrm (i n d : Nat) : tE := (i, n / Nat.gcd n d, d / Nat.gcd n d)
theorem nrm_ok {i n d : Nat} (hn : n ≤ 100000000) (hd : d ≤ 100000000) : eok (nrm i n d) := ⟨Nat.le_trans (Nat.div_le_self _ _) hn, Nat.le_trans (Nat.div_le_self _ _) hd⟩
theorem nrm_lt {i n d : Nat} (hd : 0 < d) {a b : Nat} : n * b < a * d ↔ (nrm i n d).2.1 * b < a * (nrm i n d).2.2 := by
  have gp : 0 < Nat.gcd n d := Nat.gcd_pos_of_pos_right _ hd
  have e1 : n / Nat.gcd n d * Nat.gcd n d = n := Nat.div_mul_cancel (Nat.gcd_dvd_left n d)
  have e2 : d / Nat.gcd n d * Nat.gcd n d = d := Nat.div_mul_cancel (Nat.gcd_dvd_right n d)
  unfold nrm
  dsimp only
  generalize Nat.gcd n d = g at *
  generalize n / g = x at *
  generalize d / g = y at *
  subst e1
  subst e2
  rw [show x * g * b = x * b * g by ac_rfl, show a * (y * g) = a * y * g by ac_rfl]
  exact Nat.mul_lt_mul_right gp
theorem e_put88 {N : Nat} (hN : 1000 < N) {g : tMe} {k m i n d : Nat} (hk : k < 24) (hs : g.size = iI (m : Int)) (hn : n ≤ 100000000) (hd : 0 < d) (hd' : d ≤ 100000000) : X1_insert_b88 N g (iI i) (iI n) (iI d) (iI k) = some (tMe.s_size (setT g k (nrm i n d)) (iI ((m + 1 : Nat) : Int))) := by
  have gp : 0 < Nat.gcd n d := Nat.gcd_pos_of_pos_right _ hd
  have gl : Nat.gcd n d ≤ d := Nat.gcd_le_right _ hd
  have c := e_com hN (x := (n : Int)) (y := (d : Int)) (by omega) (by omega)
  rw [Int.natAbs_natCast, Int.natAbs_natCast] at c
  rw [X1_insert_b88, iI_l ⟨by omega, by omega⟩, iI_l ⟨by omega, by omega⟩, c, Option.bind_some, lI_i, if_pos (by rw [iI_0lt ⟨by omega, by omega⟩]; omega), X1_insert_b106, zck_n hk (by decide), zck_n hk (by decide), zck_n hk (by decide), zcz_n gp (by omega), zcz_n gp (by omega), cl_n (by omega), iI_div (by omega) (by omega), iI_div (by omega) (by omega), hs, iI_succ]
  rfl
theorem e_ins {N : Nat} (hN : 1000 < N) {i n d : Nat} (hn : n ≤ 100000000) (hd : 0 < d) (hd' : d ≤ 100000000) : ∀ (t l2 : List tE) (fu m : Nat) (g : tMe), rpT g 0 t.reverse → rpT g (t.length + 1) l2 → t.length + l2.length = m → m < 24 → g.size = iI (m : Int) → (∀ y ∈ t, eok y) → t.length < fu →
    ∃ g', X1_insert_b16 N fu g (iI i) (iI n) (iI d) (iI (t.length : Int)) = some g' ∧ g'.size = iI ((m + 1 : Nat) : Int) ∧ rpT g' 0 (insR t l2 (nrm i n d))
  | [], l2, fu, m, g, h1, h2, hm, hm24, hs, _, hf => by
    obtain ⟨fu, rfl⟩ : ∃ f, fu = f + 1 := ⟨fu - 1, by omega⟩
    refine ⟨tMe.s_size (setT g 0 (nrm i n d)) (iI ((m + 1 : Nat) : Int)), ?_, rfl, ?_⟩
    · rw [X1_insert_b16, if_pos (by decide)]
      exact e_put88 hN (k := 0) (by omega) hs hn hd hd'
    · rw [insR]
      exact rpT.cons (rpT.set h2 (Or.inl (by simp))) (setT_at g 0 (nrm i n d))
  | e :: t, l2, fu, m, g, h1, h2, hm, hm24, hs, ho, hf => by
    obtain ⟨fu, rfl⟩ : ∃ f, fu = f + 1 := ⟨fu - 1, by omega⟩
    rw [List.length_cons] at hf hm h2 ⊢
    have la := rpT.last h1
    have lt := e_later (show t.length < 24 by omega) (ho e List.mem_cons_self) la hn hd'
    rw [X1_insert_b16, if_neg (n_nle0 (by omega) (by omega)), iI_p1, lt, Option.bind_some, insR]
    by_cases c : n * e.2.2 < e.2.1 * d
    · rw [if_pos c, if_neg (by decide), if_pos ((nrm_lt hd).mp c), zck_n (show t.length < 24 by omega) (by decide), zck_n (show t.length < 24 by omega) (by decide), zck_n (show t.length < 24 by omega) (by decide), zck_n (show t.length + 1 < 24 by omega) (by decide), zck_n (show t.length + 1 < 24 by omega) (by decide), zck_n (show t.length + 1 < 24 by omega) (by decide), cl_n (show t.length < 2147483648 by omega), cl_n (show t.length + 1 < 2147483648 by omega), la.1, la.2.1, la.2.2, iI_pred]
      exact e_ins hN hn hd hd' t (e :: l2) fu m (setT g (t.length + 1) e) (rpT.set (fun i x hx => h1 i x (rev_get hx)) (Or.inr (by rw [List.length_reverse]; omega))) (rpT.cons (rpT.set h2 (Or.inl (by omega))) (setT_at _ _ _)) (by rw [List.length_cons]; omega) hm24 hs (fun y hy => ho y (List.mem_cons_of_mem _ hy)) (by omega)
    · rw [if_neg c, if_pos (by decide), if_neg (fun q => c ((nrm_lt hd).mpr q))]
      refine ⟨_, e_put88 hN (k := t.length + 1) (by omega) hs hn hd hd', rfl, ?_⟩
      refine rpT.app (rpT.set h1 (Or.inr (by simp))) ?_
      rw [List.length_reverse, List.length_cons, Nat.zero_add]
      exact rpT.cons (rpT.set h2 (Or.inl (by omega))) (setT_at _ _ _)
theorem m_ins {N : Nat} (hN : 1000 < N) {mG : tmG} {mH : tmH} (k41 : tmH → tmM → Int32 → Int32 → Int32 → Int32 → Int32 → Option (Int32 × tmH × tmM)) (v1 v2 v3 v4 : Int32) {x : tE} (hx : eok x) : ∀ (t l2 : List tE) (fu m : Nat) (g : tmM), rpU g 0 t.reverse → rpU g (t.length + 1) l2 → t.length + l2.length = m → m < 24 → g.metMany = iI (m : Int) → (∀ y ∈ t, eok y) → t.length < fu →
    ∃ g', X8_ray_b104 N k41 mG fu mH g v1 v2 v3 v4 (iI (x.1 : Int)) (lI (x.2.1 : Int)) (lI (x.2.2 : Int)) (iI (t.length : Int)) = X8_ray_b228 N k41 mG mH g' v1 v2 v3 v4 (iI (x.1 : Int)) ∧ g'.metMany = iI ((m + 1 : Nat) : Int) ∧ rpU g' 0 (insR t l2 x)
  | [], l2, fu, m, g, h1, h2, hm, hm24, hs, _, hf => by
    obtain ⟨fu, rfl⟩ : ∃ f, fu = f + 1 := ⟨fu - 1, by omega⟩
    refine ⟨tmM.s_metMany (setU g 0 x) (iI ((m + 1 : Nat) : Int)), ?_, rfl, ?_⟩
    · rw [X8_ray_b104, if_pos (by decide), X8_ray_b191, List.length_nil, zck_n (by omega) (by decide), zck_n (by omega) (by decide), zck_n (by omega) (by decide), cl_n (by omega), hs, iI_succ]
      rfl
    · rw [insR]
      exact rpU.cons (rpU.set h2 (Or.inl (by simp))) (setU_at g 0 x)
  | e :: t, l2, fu, m, g, h1, h2, hm, hm24, hs, ho, hf => by
    obtain ⟨fu, rfl⟩ : ∃ f, fu = f + 1 := ⟨fu - 1, by omega⟩
    rw [List.length_cons] at hf hm h2 ⊢
    have la := rpU.last h1
    obtain ⟨o1, o2⟩ := ho e List.mem_cons_self
    obtain ⟨x1, x2⟩ := id hx
    have m1 := mul_n x1 o2
    have m2 := mul_n o1 x2
    have cm : 0 ≤ lg_cmp (lI ((x.2.1 * e.2.2 : Nat) : Int)) (lI ((e.2.1 * x.2.2 : Nat) : Int)) ↔ ((e.2.1 * x.2.2 : Nat) : Int) ≤ ((x.2.1 * e.2.2 : Nat) : Int) := cmp_ge ⟨by omega, by omega⟩ ⟨by omega, by omega⟩
    rw [X8_ray_b104, if_neg (n_nle0 (by omega) (by omega)), iI_p1, zck_n (show t.length < 24 by omega) (by decide), zck_n (show t.length < 24 by omega) (by decide), cl_n (show t.length < 2147483648 by omega), la.2.1, la.2.2, lI_mul, lI_mul, ← Int.natCast_mul, ← Int.natCast_mul, insR]
    by_cases c : x.2.1 * e.2.2 < e.2.1 * x.2.2
    · rw [if_neg (by rw [cm]; omega), if_pos c, zck_n (show t.length < 24 by omega) (by decide), zck_n (show t.length < 24 by omega) (by decide), zck_n (show t.length < 24 by omega) (by decide), zck_n (show t.length + 1 < 24 by omega) (by decide), zck_n (show t.length + 1 < 24 by omega) (by decide), zck_n (show t.length + 1 < 24 by omega) (by decide), cl_n (show t.length + 1 < 2147483648 by omega), la.1, iI_pred]
      exact m_ins hN k41 v1 v2 v3 v4 hx t (e :: l2) fu m (setU g (t.length + 1) e) (rpU.set (fun i x hx => h1 i x (rev_get hx)) (Or.inr (by rw [List.length_reverse]; omega))) (rpU.cons (rpU.set h2 (Or.inl (by omega))) (setU_at _ _ _)) (by rw [List.length_cons]; omega) hm24 hs (fun y hy => ho y (List.mem_cons_of_mem _ hy)) (by omega)
    · rw [if_pos (by rw [cm]; omega), if_neg c]
      refine ⟨tmM.s_metMany (setU g (t.length + 1) x) (iI ((m + 1 : Nat) : Int)), ?_, rfl, ?_⟩
      · rw [X8_ray_b191, zck_n (show t.length + 1 < 24 by omega) (by decide), zck_n (show t.length + 1 < 24 by omega) (by decide), zck_n (show t.length + 1 < 24 by omega) (by decide), cl_n (show t.length + 1 < 2147483648 by omega), hs, iI_succ]
        rfl
      · refine rpU.app (rpU.set h1 (Or.inr (by simp))) ?_
        rw [List.length_reverse, List.length_cons, Nat.zero_add]
        exact rpU.cons (rpU.set h2 (Or.inl (by omega))) (setU_at g (t.length + 1) x)
