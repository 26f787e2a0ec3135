/-! The class: what a knot holds; all pieces whole; the tree -/
def fill (f : Nat → Int32) (m : Nat) (c : Nat) (x : Int32) : Nat → Int32 := match c with
  | 0 => f
  | c + 1 => fill (upd f m x) (m + 1) c x
theorem fill_lo : ∀ (c : Nat) (f : Nat → Int32) (m : Nat) (x : Int32) (i : Nat), i < m → fill f m c x i = f i
  | 0, f, m, x, i, h => rfl
  | c + 1, f, m, x, i, h => by
    rw [fill, fill_lo c _ (m + 1) x i (by omega), upd_ne (by omega)]
theorem fill_in : ∀ (c : Nat) (f : Nat → Int32) (m : Nat) (x : Int32) (i : Nat), i < c → fill f m c x (m + i) = x
  | 0, f, m, x, i, h => by omega
  | c + 1, f, m, x, 0, h => by
    rw [fill, fill_lo c _ (m + 1) x (m + 0) (by omega), Nat.add_zero, upd_eq]
  | c + 1, f, m, x, i + 1, h => by
    rw [fill, show m + (i + 1) = m + 1 + i by omega, fill_in c _ (m + 1) x i (by omega)]
theorem onrow_cons (G : tGe) (j : Nat) (p : qP) (r : List qP) : onrow G j (p :: r) = if how G j p = 0 then p :: onrow G j r else onrow G j r := by
  unfold onrow
  rw [List.filter_cons]
  simp
theorem e_hold_loop {G : tGe} {gP : tPi} {gR : tPa} (hG : gok G) (hP : rlP G gP) {kn j : Nat} (hkn : kn < 300) (hj : j < 24) (N : Nat) : ∀ (r : List qP) (fu k m : Nat) (gQ : tPa) (gT : tTr), (∀ p ∈ r, pok p) → rpR gR k r → k + r.length ≤ 300 → gQ.size = iI (m : Int) → m + (onrow G j r).length ≤ 300 → gT.line kn = iI (j : Int) → r.length < fu →
    X6_hold_b16 N gP gR fu gQ gT (iI kn) (iI ((k + r.length : Nat) : Int)) (iI k) = X6_hold_b88 N gP gR (pshs gQ m (onrow G j r)) (tTr.s_home gT (fill gT.home m (onrow G j r).length (iI kn))) (iI kn)
  | [], fu, k, m, gQ, gT, _, _, h1, h2, h3, h4, hf => by
    obtain ⟨fu, rfl⟩ : ∃ f, fu = f + 1 := ⟨fu - 1, by simp at hf; omega⟩
    simp only [List.length_nil] at *
    rw [X6_hold_b16, if_pos (by rw [iI_le_n (by omega) (by omega)]; omega)]
    rfl
  | p :: r, fu, k, m, gQ, gT, ho, hr, h1, h2, h3, h4, hf => by
    obtain ⟨fu, rfl⟩ : ∃ f, fu = f + 1 := ⟨fu - 1, by rw [List.length_cons] at hf; omega⟩
    have hp : pok p := ho p List.mem_cons_self
    have hl : (p :: r).length = r.length + 1 := List.length_cons
    have ho' := fun p' h' => ho p' (List.mem_cons_of_mem _ h')
    have e1 : iI ((k + (p :: r).length : Nat) : Int) = iI ((k + 1 + r.length : Nat) : Int) := by rw [hl, show k + (r.length + 1) = k + 1 + r.length by omega]
    have ih := e_hold_loop (gR := gR) hG hP hkn hj N r fu (k + 1)
    rw [X6_hold_b16, if_neg (by rw [iI_le_n (by omega) (by omega)]; omega), e1, h2]
    rw [onrow_cons] at h3 ⊢
    by_cases hm : m < 300
    · rw [if_neg (by rw [c_300, show iI 300 = iI ((300 : Nat) : Int) from rfl, iI_le_n (by omega) (by omega)]; omega), zck_n hkn (by decide), cl_n (by omega), h4, e_sides hG hP (show k < 300 by omega) hj hp hr.head, Option.bind_some]
      by_cases h : how G j p = 0
      · rw [if_pos h] at h3 ⊢
        rw [List.length_cons] at h3
        rw [if_pos ((bt_0 (how_le G j p)).mpr h), zck_n hm (by decide), e_copy_QR (show k < 300 by omega) hr.head h2 hm, Option.bind_some, X6_hold_b82, iI_succ, cl_n (by omega)]
        rw [ih (m + 1) (psh gQ m p) (tTr.s_home gT (upd gT.home m (iI kn))) ho' hr.tail (by omega) rfl (by omega) h4 (by omega)]
        rfl
      · rw [if_neg h] at h3 ⊢
        rw [if_neg (fun q => h ((bt_0 (how_le G j p)).mp q)), X6_hold_b82, iI_succ]
        exact ih m gQ gT ho' hr.tail (by omega) h2 h3 h4 (by omega)
    · by_cases h : how G j p = 0
      · rw [if_pos h, List.length_cons] at h3
        omega
      · rw [if_neg h] at h3 ⊢
        rw [if_pos (by rw [c_300, show iI 300 = iI ((300 : Nat) : Int) from rfl, iI_le_n (by omega) (by omega)]; omega), X6_hold_b82, iI_succ]
        exact ih m gQ gT ho' hr.tail (by omega) h2 h3 h4 (by omega)
theorem e_hold {G : tGe} {gP : tPi} {gR gQ : tPa} {gT : tTr} (hG : gok G) (hP : rlP G gP) {kn j N k m : Nat} {r : List qP} (hkn : kn < 300) (hj : j < 24) (ho : ∀ p ∈ r, pok p) (hr : rpR gR k r) (hk : k + r.length ≤ 300) (hs : gQ.size = iI (m : Int)) (hm : m + (onrow G j r).length ≤ 300) (hl : gT.line kn = iI (j : Int)) (hN : r.length < N) :
    X6_hold N gP gR gQ gT (iI kn) (iI k) (iI ((k + r.length : Nat) : Int)) = some (pshs gQ m (onrow G j r), tTr.s_held (tTr.s_home (tTr.s_firstHeld gT (upd gT.firstHeld kn (iI (m : Int)))) (fill gT.home m (onrow G j r).length (iI kn))) (upd gT.held kn (iI ((onrow G j r).length : Int)))) := by
  rw [X6_hold, zck_n hkn (by decide), cl_n (by omega), hs]
  have e := e_hold_loop hG hP hkn hj N r N k m gQ (tTr.s_firstHeld gT (upd gT.firstHeld kn (iI (m : Int)))) ho hr hk hs hm hl hN
  rw [e, X6_hold_b88, zck_n hkn (by decide), zck_n hkn (by decide), cl_n (by omega), pshs_size _ _ _ hs]
  have e2 : tTr.firstHeld (tTr.s_home (tTr.s_firstHeld gT (upd gT.firstHeld kn (iI (m : Int)))) (fill (tTr.s_firstHeld gT (upd gT.firstHeld kn (iI (m : Int)))).home m (onrow G j r).length (iI kn))) kn = iI (m : Int) := upd_eq
  rw [e2, iI_sub_n (by omega), show m + (onrow G j r).length - m = (onrow G j r).length by omega]
/-- all pieces whole -/
def whl (n : Nat) : List qP := (List.range n).map (fun i => (i, 0, 1, 1, 1))
theorem whl_get {n i : Nat} (h : i < n) : (whl n)[i]? = some (i, 0, 1, 1, 1) := by
  unfold whl
  rw [List.getElem?_map, List.getElem?_range h]
  rfl
theorem whl_len (n : Nat) : (whl n).length = n := by unfold whl; simp
theorem whl_ok {n : Nat} (h : n ≤ 24) : ∀ p ∈ whl n, pok p := by
  intro p hp
  unfold whl at hp
  obtain ⟨i, hi, rfl⟩ := List.mem_map.mp hp
  have := List.mem_range.mp hi
  exact pok_mk ⟨by omega, by decide, by decide, by decide, by decide, by decide, by decide, by decide, by decide, by decide⟩
theorem e_start_loop {gP : tPi} {n : Nat} (hn : n ≤ 24) (hs : gP.size = iI (n : Int)) (N : Nat) : ∀ (c fu i : Nat) (gR : tPa), i + c = n → gR.size = iI (i : Int) → c < fu →
    X0_startWithAll_b10 N gP fu gR (iI i) = some (pshs gR i ((List.range' i c).map (fun i => (i, 0, 1, 1, 1))))
  | 0, fu, i, gR, h, hr, hf => by
    obtain ⟨fu, rfl⟩ : ∃ f, fu = f + 1 := ⟨fu - 1, by omega⟩
    rw [X0_startWithAll_b10, hs, if_pos (by rw [iI_le_n (by omega) (by omega)]; omega)]
    rfl
  | c + 1, fu, i, gR, h, hr, hf => by
    obtain ⟨fu, rfl⟩ : ∃ f, fu = f + 1 := ⟨fu - 1, by omega⟩
    rw [X0_startWithAll_b10, hs, if_neg (by rw [iI_le_n (by omega) (by omega)]; omega)]
    have e := e_add_R hr (show i < 300 by omega) ((i, 0, 1, 1, 1) : qP)
    have e2 : X2_addWhole_R gR (iI i) = some (psh gR i (i, 0, 1, 1, 1)) := by
      rw [X2_addWhole_R]
      show (X2_add_R gR (iI (i : Int)) (iI 0) (iI 1) (iI 1) (iI 1)).bind _ = _
      rw [e]
      rfl
    rw [e2, Option.bind_some, iI_succ, e_start_loop hn hs N c fu (i + 1) _ (by omega) rfl (by omega)]
    rfl
theorem e_start {gP : tPi} {gR : tPa} {n N : Nat} (hn : n ≤ 24) (hs : gP.size = iI (n : Int)) (hN : 24 < N) : X0_startWithAll N gP gR = some (pshs (tPa.s_size gR 0) 0 (whl n)) := by
  rw [X0_startWithAll]
  have e := e_start_loop hn hs N n N 0 (tPa.s_size gR 0) (by omega) rfl (by omega)
  rw [show (0 : Int32) = iI ((0 : Nat) : Int) from rfl] at *
  rw [e]
  unfold whl
  rw [List.range_eq_range']
/-! The tree as a list of knots (line, how many held, first, front, back, above; depth, length of the row, weight) and a list of parts with their knots -/
abbrev kn : Type := Nat × Nat × Nat × Int × Int × Int × Nat × Nat × Nat
abbrev kn.line (x : kn) : Nat := x.1
abbrev kn.held (x : kn) : Nat := x.2.1
abbrev kn.first (x : kn) : Nat := x.2.2.1
abbrev kn.front (x : kn) : Int := x.2.2.2.1
abbrev kn.back (x : kn) : Int := x.2.2.2.2.1
abbrev kn.above (x : kn) : Int := x.2.2.2.2.2.1
abbrev kn.dep (x : kn) : Nat := x.2.2.2.2.2.2.1
abbrev kn.rk (x : kn) : Nat := x.2.2.2.2.2.2.2.1
abbrev kn.w (x : kn) : Nat := x.2.2.2.2.2.2.2.2
abbrev gO : Type := List kn × List (qP × Nat) × Nat × Int32
abbrev gO.K (o : gO) : List kn := o.1
abbrev gO.P (o : gO) : List (qP × Nat) := o.2.1
abbrev gO.L (o : gO) : Nat := o.2.2.1
abbrev gO.D (o : gO) : Int32 := o.2.2.2
def cde (r : List qP) (k l : Nat) : Int := if r.length = 0 then -2 - (l : Int) else (k : Int)
/-- the line that a row's knot takes -/
def lin (G : tGe) (ru : Int) (r : List qP) (d : Int32) : Nat := qP.o (r.getD (cho G ru r d).1 (0, 0, 0, 0, 0))
def grw (G : tGe) (ru : Int) : Nat → List qP → Int → Nat → Nat → Nat → Nat → Int32 → gO
  | 0, _, _, _, _, _, _, d => ([], [], 0, d)
  | fu + 1, r, ab, de, k0, p0, l0, d =>
    if r.length = 0 then ([], [], 1, d) else
    let j := lin G ru r d
    let F := grw G ru fu (frow G j r) (k0 : Int) (de + 1) (k0 + 1) (p0 + (onrow G j r).length) l0 (cho G ru r d).2
    let B := grw G ru fu (brow G j r) (k0 : Int) (de + 1) (k0 + 1 + F.K.length) (p0 + (onrow G j r).length + F.P.length) (l0 + F.L) F.D
    ((j, (onrow G j r).length, p0, cde (frow G j r) (k0 + 1) l0, cde (brow G j r) (k0 + 1 + F.K.length) (l0 + F.L), ab, de + 1, r.length, (onrow G j r).length + F.P.length + B.P.length) :: (F.K ++ B.K), (onrow G j r).map (fun q => (q, k0)) ++ (F.P ++ B.P), F.L + B.L, B.D)
theorem lin_mem {G : tGe} {ru : Int} {r : List qP} {d : Int32} (h : 0 < r.length) : ∃ p ∈ r, p.o = lin G ru r d ∧ r[(cho G ru r d).1]? = some p := by
  have hl := cho_lt G ru r d h
  refine ⟨r[(cho G ru r d).1], List.getElem_mem hl, ?_, List.getElem?_eq_getElem hl⟩
  unfold lin
  rw [List.getD_eq_getElem?_getD, List.getElem?_eq_getElem hl]
  rfl
theorem frow_ok {G : tGe} (hG : gok G) {j : Nat} {r : List qP} (h : ∀ p ∈ r, pok p) : ∀ p ∈ frow G j r, pok p := by
  intro q hq
  obtain ⟨p, hp, h1⟩ := List.mem_filterMap.mp hq
  exact (ctf_ok hG (h p hp) h1).1
theorem brow_ok {G : tGe} (hG : gok G) {j : Nat} {r : List qP} (h : ∀ p ∈ r, pok p) : ∀ p ∈ brow G j r, pok p := by
  intro q hq
  obtain ⟨p, hp, h1⟩ := List.mem_filterMap.mp hq
  exact (ctb_ok hG (h p hp) h1).1
theorem srow_t (G : tGe) (j : Nat) (r : List qP) : srow G j true r = frow G j r := by
  unfold srow frow
  congr 1
theorem srow_f (G : tGe) (j : Nat) (r : List qP) : srow G j false r = brow G j r := by
  unfold srow brow
  congr 1
theorem frow_lt {G : tGe} {ru : Int} {r : List qP} {d : Int32} (h : 0 < r.length) : (frow G (lin G ru r d) r).length < r.length := by
  obtain ⟨p, hp, h1, -⟩ := lin_mem (G := G) (ru := ru) (d := d) h
  rw [← srow_t]
  exact len_side hp _ h1.symm true
theorem brow_lt {G : tGe} {ru : Int} {r : List qP} {d : Int32} (h : 0 < r.length) : (brow G (lin G ru r d) r).length < r.length := by
  obtain ⟨p, hp, h1, -⟩ := lin_mem (G := G) (ru := ru) (d := d) h
  rw [← srow_f]
  exact len_side hp _ h1.symm false
theorem on_pos {G : tGe} {ru : Int} {r : List qP} {d : Int32} (h : 0 < r.length) : 0 < (onrow G (lin G ru r d) r).length := by
  obtain ⟨p, hp, h1, -⟩ := lin_mem (G := G) (ru := ru) (d := d) h
  apply List.length_pos_of_mem (a := p)
  unfold onrow
  rw [List.mem_filter]
  exact ⟨hp, by rw [← h1, how_own]; rfl⟩
/-- how much the tree of a row holds -/
theorem grw_bd {G : tGe} (hG : gok G) (ru : Int) : ∀ (fu : Nat) (r : List qP) (ab : Int) (de k0 p0 l0 : Nat) (d : Int32), (∀ p ∈ r, pok p) → r.length < fu →
    (grw G ru fu r ab de k0 p0 l0 d).P.length ≤ phi G r ∧ (grw G ru fu r ab de k0 p0 l0 d).K.length ≤ (grw G ru fu r ab de k0 p0 l0 d).P.length ∧ (grw G ru fu r ab de k0 p0 l0 d).L = (grw G ru fu r ab de k0 p0 l0 d).K.length + 1 ∧ ((grw G ru fu r ab de k0 p0 l0 d).K.length = 0 ↔ r.length = 0)
  | 0, r, ab, de, k0, p0, l0, d, ho, hf => by omega
  | fu + 1, r, ab, de, k0, p0, l0, d, ho, hf => by
    by_cases h0 : r.length = 0
    · rw [grw, if_pos h0]
      exact ⟨Nat.zero_le _, Nat.le_refl _, rfl, by simp [h0]⟩
    · have hpos : 0 < r.length := by omega
      obtain ⟨p, hp, h1, -⟩ := lin_mem (G := G) (ru := ru) (d := d) hpos
      have ph := phi_le hG ho hp
      rw [h1] at ph
      have op := on_pos (G := G) (ru := ru) (d := d) hpos
      rw [grw, if_neg h0]
      dsimp only [gO.K, gO.P, gO.L, gO.D]
      have hF := grw_bd hG ru fu (frow G (lin G ru r d) r) (k0 : Int) (de + 1) (k0 + 1) (p0 + (onrow G (lin G ru r d) r).length) l0 (cho G ru r d).2 (frow_ok hG ho) (by have := frow_lt (G := G) (ru := ru) (d := d) hpos; omega)
      generalize grw G ru fu (frow G (lin G ru r d) r) (k0 : Int) (de + 1) (k0 + 1) (p0 + (onrow G (lin G ru r d) r).length) l0 (cho G ru r d).2 = F at *
      have hB := grw_bd hG ru fu (brow G (lin G ru r d) r) (k0 : Int) (de + 1) (k0 + 1 + F.1.length) (p0 + (onrow G (lin G ru r d) r).length + F.2.1.length) (l0 + F.2.2.1) F.2.2.2 (brow_ok hG ho) (by have := brow_lt (G := G) (ru := ru) (d := d) hpos; omega)
      generalize grw G ru fu (brow G (lin G ru r d) r) (k0 : Int) (de + 1) (k0 + 1 + F.1.length) (p0 + (onrow G (lin G ru r d) r).length + F.2.1.length) (l0 + F.2.2.1) F.2.2.2 = B at *
      simp only [List.length_cons, List.length_append, List.length_map]
      dsimp only [gO.K, gO.P, gO.L] at hF hB
      omega
