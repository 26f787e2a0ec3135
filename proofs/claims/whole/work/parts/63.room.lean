/-! the rooms: what is left of each piece; the fewest parts of a room -/
def bs (k : Nat) : Bool := Nat.beq k 1
def clp (G : tGe) (c : Nat → Nat) (i : Nat) : Nat → Option qP
  | 0 => some (i, 0, 1, 1, 1)
  | j + 1 => (clp G c i j).bind (fun p => if c j = 0 then some p else cts G j (bs (c j)) p)
def rwC (G : tGe) (c : Nat → Nat) (n : Nat) : List qP := (List.range n).filterMap (fun i => clp G c i n)
def stc (c : Nat → Nat) (j b : Nat) : Nat → Nat := fun k => if k = j then b else c k
theorem clp_ok {G : tGe} (hG : gok G) (c : Nat → Nat) {i : Nat} (hi : i < 24) : ∀ (m : Nat) (p : qP), clp G c i m = some p → pok p ∧ p.o = i
  | 0, p, h => by
    cases h
    exact ⟨pok_mk (by omega), rfl⟩
  | j + 1, p, h => by
    rw [clp] at h
    cases e : clp G c i j with
    | none => rw [e] at h; cases h
    | some q =>
      rw [e, Option.bind_some] at h
      obtain ⟨q1, q2⟩ := clp_ok hG c hi j q e
      split at h
      · cases h; exact ⟨q1, q2⟩
      · obtain ⟨a1, a2⟩ := cts_ok hG q1 h
        exact ⟨a1, a2.trans q2⟩
theorem clp_in {G : tGe} (hG : gok G) (c : Nat → Nat) {i : Nat} (hi : i < 24) (x y : Int) : ∀ (m : Nat), Inn (clp G c i m) x y ↔ inn (i, 0, 1, 1, 1) x y ∧ ∀ j, j < m → c j ≠ 0 → sF G j (bs (c j)) i x y
  | 0 => by
    rw [clp]
    constructor
    · rintro ⟨p, hp, h⟩; cases hp; exact ⟨h, fun j hj => by omega⟩
    · rintro ⟨h, -⟩; exact ⟨_, rfl, h⟩
  | m + 1 => by
    have ih := clp_in hG c hi x y m
    have st : Inn (clp G c i (m + 1)) x y ↔ Inn (clp G c i m) x y ∧ (c m ≠ 0 → sF G m (bs (c m)) i x y) := by
      rw [clp]
      cases e : clp G c i m with
      | none =>
        rw [Option.bind_none]
        constructor
        · rintro ⟨p, hp, -⟩; cases hp
        · rintro ⟨⟨p, hp, -⟩, -⟩; cases hp
      | some q =>
        obtain ⟨q1, q2⟩ := clp_ok hG c hi m q e
        rw [Option.bind_some]
        by_cases h0 : c m = 0
        · rw [if_pos h0]
          exact ⟨fun h => ⟨h, fun h' => (h' h0).elim⟩, fun h => h.1⟩
        · rw [if_neg h0, cts_in q1, q2]
          constructor
          · rintro ⟨h1, h2⟩; exact ⟨⟨q, rfl, h1⟩, fun _ => h2⟩
          · rintro ⟨⟨p, hp, h1⟩, h2⟩; cases hp; exact ⟨h1, h2 h0⟩
    rw [st, ih]
    constructor
    · rintro ⟨⟨h1, h2⟩, h3⟩
      refine ⟨h1, fun j hj hc => ?_⟩
      by_cases e : j = m
      · subst e; exact h3 hc
      · exact h2 j (by omega) hc
    · rintro ⟨h1, h2⟩
      exact ⟨⟨h1, fun j hj hc => h2 j (by omega) hc⟩, fun hc => h2 m (by omega) hc⟩
theorem clp_free {G : tGe} (hG : gok G) (c : Nat → Nat) {i n : Nat} (hi : i < 24) (hn : i < n) {p : qP} (h : clp G c i n = some p) : c i = 0 := by
  apply Classical.byContradiction
  intro hc
  obtain ⟨p1, p2⟩ := clp_ok hG c hi n p h
  obtain ⟨m1, m2⟩ := mid_in p1
  have := ((clp_in hG c hi _ _ n).mp ⟨p, h, m2⟩).2 i hn hc
  unfold sF FF at this
  rw [SD_self, SL_self, Int.zero_mul, Int.zero_mul] at this
  split at this <;> omega
theorem clp_step {G : tGe} (hG : gok G) (c : Nat → Nat) {i j n b : Nat} (hi : i < 24) (hj : j < n) (hc : c j = 0) (hb : b = 1 ∨ b = 2) : oeq ((clp G c i n).bind (cts G j (bs b))) (clp G (stc c j b) i n) := by
  refine oeq_of (i := i) ?_ (clp_ok hG _ hi n) ?_
  · intro p hp
    cases e : clp G c i n with
    | none => rw [e] at hp; cases hp
    | some q =>
      rw [e, Option.bind_some] at hp
      obtain ⟨q1, q2⟩ := clp_ok hG c hi n q e
      obtain ⟨a1, a2⟩ := cts_ok hG q1 hp
      exact ⟨a1, a2.trans q2⟩
  · intro x y _
    have st : Inn ((clp G c i n).bind (cts G j (bs b))) x y ↔ Inn (clp G c i n) x y ∧ sF G j (bs b) i x y := by
      cases e : clp G c i n with
      | none =>
        rw [Option.bind_none]
        constructor
        · rintro ⟨p, hp, -⟩; cases hp
        · rintro ⟨⟨p, hp, -⟩, -⟩; cases hp
      | some q =>
        obtain ⟨q1, q2⟩ := clp_ok hG c hi n q e
        rw [Option.bind_some, cts_in q1, q2]
        constructor
        · rintro ⟨h1, h2⟩; exact ⟨⟨q, rfl, h1⟩, h2⟩
        · rintro ⟨⟨p, hp, h1⟩, h2⟩; cases hp; exact ⟨h1, h2⟩
    rw [st, clp_in hG c hi, clp_in hG (stc c j b) hi]
    unfold stc
    constructor
    · rintro ⟨⟨h1, h2⟩, h3⟩
      refine ⟨h1, fun k hk hc' => ?_⟩
      by_cases e : k = j
      · subst e; rw [if_pos rfl]; exact h3
      · rw [if_neg e] at hc' ⊢; exact h2 k hk hc'
    · rintro ⟨h1, h2⟩
      refine ⟨⟨h1, fun k hk hc' => ?_⟩, ?_⟩
      · by_cases e : k = j
        · subst e; exact (hc' hc).elim
        · have := h2 k hk (by rw [if_neg e]; exact hc')
          rw [if_neg e] at this
          exact this
      · have := h2 j hj (by rw [if_pos rfl]; omega)
        rw [if_pos rfl] at this
        exact this
theorem clp_congr {G : tGe} {c c' : Nat → Nat} {i : Nat} : ∀ (m : Nat), (∀ k, k < m → c k = c' k) → clp G c i m = clp G c' i m
  | 0, _ => rfl
  | m + 1, h => by rw [clp, clp, clp_congr m (fun k hk => h k (by omega)), h m (by omega)]
theorem rwC_congr {G : tGe} {c c' : Nat → Nat} {n : Nat} (h : ∀ k, k < n → c k = c' k) : rwC G c n = rwC G c' n := by
  unfold rwC
  rw [show (fun i => clp G c i n) = (fun i => clp G c' i n) from funext (fun i => clp_congr n h)]
theorem rwC_ok {G : tGe} (hG : gok G) (c : Nat → Nat) {n : Nat} (hn : n ≤ 24) : ∀ p ∈ rwC G c n, pok p := by
  intro p hp
  obtain ⟨i, hi, h⟩ := List.mem_filterMap.mp hp
  rw [List.mem_range] at hi
  exact (clp_ok hG c (by omega) n p h).1
theorem rwC_len (G : tGe) (c : Nat → Nat) (n : Nat) : (rwC G c n).length ≤ n := by
  have := List.length_filterMap_le (fun i => clp G c i n) (List.range n)
  rw [List.length_range] at this
  exact this
theorem rwC_free {G : tGe} (hG : gok G) (c : Nat → Nat) {n : Nat} (hn : n ≤ 24) {p : qP} (hp : p ∈ rwC G c n) : p.o < n ∧ c p.o = 0 := by
  obtain ⟨i, hi, h⟩ := List.mem_filterMap.mp hp
  rw [List.mem_range] at hi
  obtain ⟨-, e⟩ := clp_ok hG c (show i < 24 by omega) n p h
  rw [e]
  exact ⟨hi, clp_free hG c (by omega) hi h⟩
theorem rwC_srow {G : tGe} (hG : gok G) (c : Nat → Nat) {n j b : Nat} (hn : n ≤ 24) (hj : j < n) (hc : c j = 0) (hb : b = 1 ∨ b = 2) : req (srow G j (bs b) (rwC G c n)) (rwC G (stc c j b) n) := by
  unfold srow rwC
  rw [List.filterMap_filterMap]
  exact req_fm _ _ _ (fun i hi => by rw [List.mem_range] at hi; exact clp_step hG c (by omega) hj hc hb)
/-- the fewest parts of a room -/
def fwR (G : tGe) (n : Nat) (c : Nat → Nat) : Nat := fwv G true (n + 1) (rwC G c n)
def cnd (G : tGe) (n : Nat) (c : Nat → Nat) (j : Nat) : Nat := fwR G n (stc c j 1) + fwR G n (stc c j 2) + (onrow G j (rwC G c n)).length
theorem fwR_eq {G : tGe} (hG : gok G) (c : Nat → Nat) {n : Nat} (hn : n ≤ 24) : fwR G n c = if (rwC G c n).length = 0 then 0 else mnl ((rwC G c n).map (fun p => cnd G n c p.o)) 300 := by
  unfold fwR
  rw [fwv]
  by_cases h0 : (rwC G c n).length = 0
  · rw [if_pos h0, if_pos h0]
  · rw [if_neg h0, if_neg h0, if_pos rfl]
    refine congrArg (fun l => mnl l 300) (List.map_congr_left (fun p hp => ?_))
    obtain ⟨f1, f2⟩ := rwC_free hG c hn hp
    have rl := rwC_len G c n
    have l1 := srow_lt (G := G) (b := true) hp
    have l2 := srow_lt (G := G) (b := false) hp
    have ro := rwC_ok hG c hn
    unfold cnd fwR
    have q1 := rwC_srow hG c hn f1 f2 (b := 1) (Or.inl rfl)
    have q2 := rwC_srow hG c hn f1 f2 (b := 2) (Or.inr rfl)
    rw [show bs 1 = true from rfl] at q1
    rw [show bs 2 = false from rfl] at q2
    rw [← req_fwv hG (n + 1) _ _ (srow_ok hG ro) (rwC_ok hG _ hn) q1, ← req_fwv hG (n + 1) _ _ (srow_ok hG ro) (rwC_ok hG _ hn) q2, fwv_fuel true n (n + 1) _ (by omega) (by omega), fwv_fuel true n (n + 1) (srow G p.o false (rwC G c n)) (by omega) (by omega)]
    omega
theorem fwR_le {G : tGe} (hG : gok G) (c : Nat → Nat) {n : Nat} (hn : n ≤ 24) : fwR G n c ≤ 300 := by
  have h1 := fwv_le hG true (n + 1) (rwC G c n) (rwC_ok hG c hn)
  have h2 := phi_24 G (r := rwC G c n) (by have := rwC_len G c n; omega)
  unfold fwR
  omega
theorem cnd_le {G : tGe} (hG : gok G) (c : Nat → Nat) {n : Nat} (hn : n ≤ 24) {p : qP} (hp : p ∈ rwC G c n) : 1 ≤ cnd G n c p.o ∧ cnd G n c p.o ≤ 300 := by
  obtain ⟨f1, f2⟩ := rwC_free hG c hn hp
  have ro := rwC_ok hG c hn
  have rl := rwC_len G c n
  have q1 := rwC_srow hG c hn f1 f2 (b := 1) (Or.inl rfl)
  have q2 := rwC_srow hG c hn f1 f2 (b := 2) (Or.inr rfl)
  rw [show bs 1 = true from rfl] at q1
  rw [show bs 2 = false from rfl] at q2
  have e1 := req_fwv hG (n + 1) _ _ (srow_ok hG ro) (rwC_ok hG _ hn) q1
  have e2 := req_fwv hG (n + 1) _ _ (srow_ok hG ro) (rwC_ok hG _ hn) q2
  have f1' := fwv_le hG true (n + 1) (srow G p.o true (rwC G c n)) (srow_ok hG ro)
  have f2' := fwv_le hG true (n + 1) (srow G p.o false (rwC G c n)) (srow_ok hG ro)
  rw [e1, srow_t] at f1'
  rw [e2, srow_f] at f2'
  have ph := phi_le hG ro hp
  have p24 := phi_24 G (r := rwC G c n) (by omega)
  have on1 : 0 < (onrow G p.o (rwC G c n)).length := List.length_pos_of_mem (List.mem_filter.mpr ⟨hp, by simp [how_self]⟩)
  unfold cnd fwR
  omega
/-! how the reference finds the least of the candidates -/
def bst : List Nat → Nat → Nat
  | [], m => m
  | v :: l, m => bst l (if m = 0 ∨ v < m then v else m)
theorem bst_mnl : ∀ (l : List Nat) (m : Nat), (∀ v ∈ l, 1 ≤ v) → 0 < m → bst l m = mnl l m
  | [], m, _, _ => rfl
  | v :: l, m, h, hm => by
    have hv := h v List.mem_cons_self
    have ih := fun m hm => bst_mnl l m (fun x hx => h x (List.mem_cons_of_mem _ hx)) hm
    show bst l (if m = 0 ∨ v < m then v else m) = mnl l (if v < m then v else m)
    by_cases c : v < m
    · rw [if_pos (Or.inr c), if_pos c, ih v (by omega)]
    · rw [if_neg (by omega), if_neg c, ih m hm]
theorem fwR_bst {G : tGe} (hG : gok G) (c : Nat → Nat) {n : Nat} (hn : n ≤ 24) : fwR G n c = bst ((rwC G c n).map (fun p => cnd G n c p.o)) 0 := by
  rw [fwR_eq hG c hn]
  have hb := fun p (hp : p ∈ rwC G c n) => cnd_le hG c hn hp
  cases e : rwC G c n with
  | nil => rfl
  | cons p r =>
    rw [e] at hb
    rw [if_neg (by simp), List.map_cons]
    have b1 := hb p List.mem_cons_self
    show mnl _ (if _ < 300 then _ else 300) = bst _ (if 0 = 0 ∨ _ then _ else _)
    rw [if_pos (Or.inl rfl), bst_mnl _ _ (fun v hv => by
      obtain ⟨q, hq, rfl⟩ := List.mem_map.mp hv
      exact (hb q (List.mem_cons_of_mem _ hq)).1) (by omega)]
    split
    · rfl
    · rw [show cnd G n c p.o = 300 by omega]
/-! numbers of rooms -/
def dg (r j : Nat) : Nat := r / 3 ^ j % 3
def okD : Bool := (List.range 243).all (fun r => (List.range 5).all (fun j => (List.range 5).all (fun k => !(Nat.beq (dg r j) 0) || (Nat.beq (dg (r + 3 ^ j) k) (if Nat.beq k j then 1 else dg r k) && Nat.beq (dg (r + 2 * 3 ^ j) k) (if Nat.beq k j then 2 else dg r k)))))
def okE : Bool := (List.range 6).all (fun n => (List.range (3 ^ n)).all (fun r => (List.range n).all (fun j => !(Nat.beq (dg r j) 0) || Nat.blt (r + 2 * 3 ^ j) (3 ^ n))))
theorem okD_t : okD = true := by decide +kernel
theorem okE_t : okE = true := by decide +kernel
theorem dg_set {n r j : Nat} (hn : n ≤ 5) (hr : r < 3 ^ n) (hj : j < n) (h0 : dg r j = 0) : (∀ k, k < n → dg (r + 3 ^ j) k = stc (dg r) j 1 k) ∧ (∀ k, k < n → dg (r + 2 * 3 ^ j) k = stc (dg r) j 2 k) ∧ r + 2 * 3 ^ j < 3 ^ n := by
  have p5 : (3 : Nat) ^ n ≤ 3 ^ 5 := Nat.pow_le_pow_right (by omega) hn
  have r243 : r < 243 := by omega
  have A : ∀ k, k < n → dg (r + 3 ^ j) k = (if Nat.beq k j then 1 else dg r k) ∧ dg (r + 2 * 3 ^ j) k = (if Nat.beq k j then 2 else dg r k) := fun k hk => by
    have h := okD_t
    unfold okD at h
    have h1 := List.all_eq_true.mp h r (List.mem_range.mpr r243)
    have h2 := List.all_eq_true.mp h1 j (List.mem_range.mpr (by omega))
    have h3 := List.all_eq_true.mp h2 k (List.mem_range.mpr (by omega))
    rw [h0] at h3
    simp only [Bool.or_eq_true, Bool.and_eq_true, Bool.not_eq_true'] at h3
    rcases h3 with h3 | ⟨h3, h4⟩
    · cases h3
    · exact ⟨Nat.eq_of_beq_eq_true h3, Nat.eq_of_beq_eq_true h4⟩
  refine ⟨fun k hk => ?_, fun k hk => ?_, ?_⟩
  · rw [(A k hk).1]
    unfold stc
    by_cases e : k = j
    · subst e; rw [if_pos rfl, if_pos (Nat.beq_refl k)]
    · rw [if_neg e, if_neg (fun q => e (Nat.eq_of_beq_eq_true q))]
  · rw [(A k hk).2]
    unfold stc
    by_cases e : k = j
    · subst e; rw [if_pos rfl, if_pos (Nat.beq_refl k)]
    · rw [if_neg e, if_neg (fun q => e (Nat.eq_of_beq_eq_true q))]
  · have h := okE_t
    unfold okE at h
    have h1 := List.all_eq_true.mp h n (List.mem_range.mpr (by omega))
    have h2 := List.all_eq_true.mp h1 r (List.mem_range.mpr hr)
    have h3 := List.all_eq_true.mp h2 j (List.mem_range.mpr hj)
    rw [h0] at h3
    simp only [Bool.or_eq_true, Bool.not_eq_true'] at h3
    rcases h3 with h3 | h3
    · cases h3
    · exact Nat.le_of_ble_eq_true h3
theorem cnd_dg {G : tGe} {n r j : Nat} (hn : n ≤ 5) (hr : r < 3 ^ n) (hj : j < n) (h0 : dg r j = 0) : cnd G n (dg r) j = fwR G n (dg (r + 3 ^ j)) + fwR G n (dg (r + 2 * 3 ^ j)) + (onrow G j (rwC G (dg r) n)).length := by
  obtain ⟨h1, h2, -⟩ := dg_set hn hr hj h0
  unfold cnd fwR
  rw [rwC_congr h1, rwC_congr h2]
theorem rwC_0 (G : tGe) (n : Nat) : rwC G (dg 0) n = whl n := by
  have h : ∀ i m, clp G (dg 0) i m = some (i, 0, 1, 1, 1) := fun i m => by
    induction m with
    | zero => rfl
    | succ m ih => rw [clp, ih, Option.bind_some, if_pos (by unfold dg; rw [Nat.zero_div])]
  unfold rwC whl
  rw [show (fun i => clp G (dg 0) i n) = (fun i => some ((i, 0, 1, 1, 1) : qP)) from funext (fun i => h i n), List.filterMap_eq_map']
