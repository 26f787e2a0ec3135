/-! sum: the class's orders and the reference's -/
theorem fwv_fuel {G : tGe} (all : Bool) : ∀ (fu fu' : Nat) (r : List qP), r.length < fu → r.length < fu' → fwv G all fu r = fwv G all fu' r
  | 0, fu', r, h, _ => by omega
  | fu + 1, 0, r, _, h => by omega
  | fu + 1, fu' + 1, r, h, h' => by
    rw [fwv, fwv]
    by_cases h0 : r.length = 0
    · rw [if_pos h0, if_pos h0]
    · rw [if_neg h0, if_neg h0]
      refine congrArg (fun l => mnl l 300) (List.map_congr_left (fun p hp => ?_))
      have hpr : p ∈ r := by
        split at hp
        · exact hp
        · exact List.mem_of_mem_take hp
      have l1 := srow_lt (G := G) (b := true) hpr
      have l2 := srow_lt (G := G) (b := false) hpr
      rw [fwv_fuel all fu fu' (srow G p.o true r) (by omega) (by omega), fwv_fuel all fu fu' (srow G p.o false r) (by omega) (by omega)]
theorem fwv_grw {G : tGe} (hG : gok G) : ∀ (fu : Nat) (r : List qP) (ab : Int) (de k0 p0 l0 : Nat) (d : Int32), (∀ p ∈ r, pok p) → phi G r ≤ 300 → (grw G 0 fu r ab de k0 p0 l0 d).P.length = fwv G false fu r
  | 0, r, ab, de, k0, p0, l0, d, _, _ => rfl
  | fu + 1, [], ab, de, k0, p0, l0, d, _, _ => by
    rw [grw, fwv, if_pos List.length_nil, if_pos List.length_nil]
    rfl
  | fu + 1, p :: t, ab, de, k0, p0, l0, d, ho, hph => by
    have hp : p ∈ p :: t := List.mem_cons_self
    have hl : lin G 0 (p :: t) d = p.o := by unfold lin cho; rw [if_pos rfl]; rfl
    have hph' := phi_le hG ho hp
    have f1 := fwv_le hG false fu (frow G p.o (p :: t)) (frow_ok hG ho)
    have f2 := fwv_le hG false fu (brow G p.o (p :: t)) (brow_ok hG ho)
    have F := fun ab de k0 p0 l0 d => fwv_grw hG fu (frow G p.o (p :: t)) ab de k0 p0 l0 d (frow_ok hG ho) (by omega)
    have B := fun ab de k0 p0 l0 d => fwv_grw hG fu (brow G p.o (p :: t)) ab de k0 p0 l0 d (brow_ok hG ho) (by omega)
    rw [grw, fwv, if_neg (by simp), if_neg (by simp)]
    show List.length ((onrow G (lin G 0 (p :: t) d) (p :: t)).map _ ++ (gO.P _ ++ gO.P _)) = _
    rw [List.length_append, List.length_append, List.length_map, hl, F, B]
    show _ = mnl [(onrow G p.o (p :: t)).length + fwv G false fu (srow G p.o true (p :: t)) + fwv G false fu (srow G p.o false (p :: t))] 300
    rw [srow_t, srow_f]
    show _ = if _ < 300 then _ else 300
    split <;> omega
def rpN (f : Nat → Int32) (l : List Nat) : Prop := ∀ i, i < l.length → f i = iI ((l.getD i 0 : Nat) : Int)
theorem lsw_len (l : List Nat) (i j : Nat) : (lsw l i j).length = l.length := by unfold lsw; rw [List.length_set, List.length_set]
theorem getD_lt {l : List Nat} {b : Nat} (hb : 0 < b) (h : ∀ o ∈ l, o < b) (i : Nat) : l.getD i 0 < b := by
  rw [List.getD_eq_getElem?_getD]
  cases e : l[i]? with
  | none => exact hb
  | some x => exact h x (List.mem_of_getElem? e)
theorem lsw_lt {l : List Nat} {b : Nat} (hb : 0 < b) (h : ∀ o ∈ l, o < b) (i j : Nat) : ∀ o ∈ lsw l i j, o < b := by
  intro o ho
  rcases List.mem_or_eq_of_mem_set ho with ho | rfl
  · rcases List.mem_or_eq_of_mem_set ho with ho | rfl
    · exact h o ho
    · exact getD_lt hb h j
  · exact getD_lt hb h i
theorem rpN_lsw {f : Nat → Int32} {l : List Nat} (h : rpN f l) {i j : Nat} (hi : i < l.length) (hj : j < l.length) : rpN (upd (upd f i (f j)) j (f i)) (lsw l i j) := by
  intro k hk
  rw [lsw_len] at hk
  unfold lsw
  rw [List.getD_eq_getElem?_getD]
  by_cases e : k = j
  · subst e
    rw [upd_eq, List.getElem?_set_self (by rw [List.length_set]; exact hk)]
    exact h i hi
  · rw [upd_ne e, List.getElem?_set_ne (fun q => e q.symm)]
    by_cases e' : k = i
    · subst e'
      rw [upd_eq, List.getElem?_set_self hk]
      exact h j hj
    · rw [upd_ne e', List.getElem?_set_ne (fun q => e' q.symm), ← List.getD_eq_getElem?_getD]
      exact h k hk
/-! the class: one order -/
theorem s_fill {N n : Nat} (hn : n ≤ 6) (v1 : Int32) : ∀ (c fu i : Nat) (gS : tSq), i + c = n → (∀ k : Nat, k < i → gS.sequence k = iI (k : Int)) → c < fu →
    ∃ gS', (∀ k : Nat, k < n → tSq.sequence gS' k = iI (k : Int)) ∧ X4_setSequence_b2 N fu gS v1 (iI n) (iI i) = X4_setSequence_b20 N gS' v1 (iI n)
  | 0, fu, i, gS, h, hk, hf => by
    obtain ⟨fu, rfl⟩ : ∃ f, fu = f + 1 := ⟨fu - 1, by omega⟩
    refine ⟨gS, fun k h' => hk k (by omega), ?_⟩
    rw [X4_setSequence_b2, if_pos (by rw [iI_le_n (by omega) (by omega)]; omega)]
  | c + 1, fu, i, gS, h, hk, hf => by
    obtain ⟨fu, rfl⟩ : ∃ f, fu = f + 1 := ⟨fu - 1, by omega⟩
    obtain ⟨gS', h1, h2⟩ := s_fill hn v1 c fu (i + 1) (tSq.s_sequence gS (upd gS.sequence i (iI (i : Int)))) (by omega) (fun k hk' => by
      show upd gS.sequence i (iI (i : Int)) k = _
      by_cases e : k = i
      · rw [e, upd_eq]
      · rw [upd_ne e]; exact hk k (by omega)) (by omega)
    refine ⟨gS', h1, ?_⟩
    rw [X4_setSequence_b2, if_neg (by rw [iI_le_n (by omega) (by omega)]; omega), zck_n (by omega) (by decide), cl_n (by omega), iI_succ]
    exact h2
theorem s_perm {N : Nat} : ∀ (m fu : Nat) (l : List Nat) (gS : tSq) (v : Nat), l.length ≤ 6 → m < l.length → v < 10000 → rpN gS l → m < fu →
    ∃ gS' : tSq, X4_setSequence_b27 N fu gS (iI v) (iI m) = some gS' ∧ rpN gS' (sqL m l v) ∧ (sqL m l v).length = l.length
  | 0, fu, l, gS, v, h6, hm, hv, hr, hf => by
    obtain ⟨fu, rfl⟩ : ∃ f, fu = f + 1 := ⟨fu - 1, by omega⟩
    refine ⟨gS, ?_, hr, rfl⟩
    rw [X4_setSequence_b27, if_pos (by rw [iI_le0 ⟨by omega, by omega⟩]; omega)]
  | m + 1, fu, l, gS, v, h6, hm, hv, hr, hf => by
    obtain ⟨fu, rfl⟩ : ∃ f, fu = f + 1 := ⟨fu - 1, by omega⟩
    have md : v % (m + 2) < m + 2 := Nat.mod_lt _ (by omega)
    have dv : v / (m + 2) ≤ v := Nat.div_le_self _ _
    have ee : iI (v : Int) - iI ((v / (m + 2) : Nat) : Int) * iI ((m + 2 : Nat) : Int) = iI ((v % (m + 2) : Nat) : Int) := by
      rw [iI_mul, iI_sub]
      congr 1
      have := Nat.div_add_mod v (m + 2)
      rw [Nat.mul_comm] at this
      have h9 : ((v / (m + 2) * (m + 2) + v % (m + 2) : Nat) : Int) = (v : Int) := by rw [this]
      rw [Int.natCast_add, Int.natCast_mul] at h9
      omega
    obtain ⟨gS', h1, h2, h3⟩ := s_perm (N := N) m fu (lsw l (m + 1) (v % (m + 2))) (upd (upd gS (m + 1) (gS (v % (m + 2)))) (v % (m + 2)) (gS (m + 1))) (v / (m + 2)) (by rw [lsw_len]; exact h6) (by rw [lsw_len]; omega) (by omega) (rpN_lsw hr hm (by omega)) (by omega)
    rw [lsw_len] at h3
    refine ⟨gS', ?_, h2, h3⟩
    rw [X4_setSequence_b27, if_neg (by rw [iI_le0 ⟨by omega, by omega⟩]; omega), iI_succ, zcz_n (by omega) (by omega), iI_div (by omega) (by omega), show m + 1 + 1 = m + 2 from rfl, ee, zl, zcz_n (by omega) (by omega), zl, zck_n (by omega) (by decide), zl, zck_n (by omega) (by decide), zck_n (by omega) (by decide), zck_n (by omega) (by decide), cl_n (by omega), cl_n (by omega), iI_pred]
    exact h1
theorem rg_getD {n k : Nat} (h : k < n) : (List.range n).getD k 0 = k := by
  rw [List.getD_eq_getElem?_getD, List.getElem?_range h]
  rfl
theorem s_seq {N n : Nat} (hN : 1000 < N) (hn : n ≤ 6) (gS : tSq) {k : Nat} (hk : k < 10000) : ∃ gS' : tSq, X4_setSequence N gS (iI k) (iI n) = some gS' ∧ rpN gS' (sqc n k) ∧ (sqc n k).length = n := by
  obtain ⟨g1, a1, a2⟩ := s_fill (N := N) hn (iI (k : Int)) n N 0 gS (by omega) (fun k h => by omega) (by omega)
  have r1 : rpN g1 (List.range n) := fun i hi => by rw [List.length_range] at hi; rw [rg_getD hi]; exact a1 i hi
  have e1 : X4_setSequence N gS (iI k) (iI n) = X4_setSequence_b20 N g1 (iI k) (iI n) := a2
  rw [e1, X4_setSequence_b20]
  by_cases h0 : n = 0
  · subst h0
    refine ⟨g1, ?_, fun i hi => by simp [sqc, sqL] at hi, rfl⟩
    obtain ⟨M, rfl⟩ : ∃ f, N = f + 1 := ⟨N - 1, by omega⟩
    rw [zl, X4_setSequence_b27, if_pos (by decide)]
  · obtain ⟨gS', h1, h2, h3⟩ := s_perm (N := N) (n - 1) N (List.range n) g1 k (by rw [List.length_range]; exact hn) (by rw [List.length_range]; omega) hk r1 (by omega)
    rw [List.length_range] at h3
    refine ⟨gS', ?_, h2, h3⟩
    rw [zl, c_1, iI_sub, show ((n : Int) - 1) = ((n - 1 : Nat) : Int) by omega]
    exact h1
theorem sqL_lt {b : Nat} (hb : 0 < b) : ∀ (m : Nat) (l : List Nat) (v : Nat), (∀ o ∈ l, o < b) → ∀ o ∈ sqL m l v, o < b
  | 0, l, v, h => h
  | m + 1, l, v, h => sqL_lt hb m _ _ (lsw_lt hb h _ _)
theorem s_whole {N n : Nat} {gP : tPi} {gS : tSq} {os : List Nat} (hn : n ≤ 6) (hos : os.length = n) (hr : rpN gS os) (k37 : tPa → tSq → Int32 → Int32 → Int32 → Int32 → Option (Int32 × tPa × tSq)) (v2 v3 v4 : Int32) : ∀ (c fu i : Nat) (gR : tPa), i + c = n → gR.size = iI (i : Int) → c < fu →
    X4_partsOverAllOrders_b64 N k37 gP fu gR gS (iI n) v2 v3 v4 (iI i) = X4_partsOverAllOrders_b93 N k37 gP (pshs gR i (whs (os.drop i))) gS (iI n) v2 v3 v4
  | 0, fu, i, gR, h, hs, hf => by
    obtain ⟨fu, rfl⟩ : ∃ f, fu = f + 1 := ⟨fu - 1, by omega⟩
    rw [X4_partsOverAllOrders_b64, if_pos (by rw [iI_le_n (by omega) (by omega)]; omega), List.drop_of_length_le (by omega)]
    rfl
  | c + 1, fu, i, gR, h, hs, hf => by
    obtain ⟨fu, rfl⟩ : ∃ f, fu = f + 1 := ⟨fu - 1, by omega⟩
    have hi : i < os.length := by omega
    have eo : gS.sequence i = iI ((os[i] : Nat) : Int) := by
      show gS i = _
      rw [hr i hi, List.getD_eq_getElem?_getD, List.getElem?_eq_getElem hi]
      rfl
    have e2 : X2_addWhole_R gR (iI ((os[i] : Nat) : Int)) = some (psh gR i (os[i], 0, 1, 1, 1)) := by
      rw [X2_addWhole_R]
      have := e_add_R hs (show i < 300 by omega) (os[i], 0, 1, 1, 1)
      rw [show X2_add_R gR (iI ((os[i] : Nat) : Int)) (0 : Int32) (1 : Int32) (1 : Int32) (1 : Int32) = some (psh gR i (os[i], 0, 1, 1, 1)) from this]
      rfl
    rw [X4_partsOverAllOrders_b64, if_neg (by rw [iI_le_n (by omega) (by omega)]; omega), zck_n (by omega) (by decide), cl_n (by omega), eo, e2, Option.bind_some, iI_succ, s_whole hn hos hr k37 v2 v3 v4 c fu (i + 1) (psh gR i (os[i], 0, 1, 1, 1)) (by omega) rfl (by omega), List.drop_eq_getElem_cons hi]
    rfl
theorem smf_map (f : List Nat → Nat) (g : Nat → List Nat) (k c : Nat) : smf f ((List.range' k (c + 1)).map g) = f (g k) + smf f ((List.range' (k + 1) c).map g) := rfl
theorem s_all {N n : Nat} (hN : 1000 < N) {G : tGe} {gP : tPi} (hG : gok G) (hP : rlP G gP) (hn : n ≤ 6) (hfn : fac n < 10000) : ∀ (c fu k tot : Nat) (gR : tPa) (gS : tSq), k + c = fac n → c < fu →
    ∃ gR' gS', X4_partsOverAllOrders_b37 N gP fu gR gS (iI n) (iI (fac n)) (iI tot) (iI k) = some (iI ((tot + smf (fun os => fwv G false 7 (whs os)) ((List.range' k c).map (sqc n)) : Nat) : Int), gR', gS')
  | 0, fu, k, tot, gR, gS, h, hf => by
    obtain ⟨fu, rfl⟩ : ∃ f, fu = f + 1 := ⟨fu - 1, by omega⟩
    refine ⟨gR, gS, ?_⟩
    rw [X4_partsOverAllOrders_b37, if_pos (by rw [iI_le_n (by omega) (by omega)]; omega)]
    rfl
  | c + 1, fu, k, tot, gR, gS, h, hf => by
    obtain ⟨fu, rfl⟩ : ∃ f, fu = f + 1 := ⟨fu - 1, by omega⟩
    obtain ⟨g1, a1, a2, a3⟩ := s_seq hN hn gS (show k < 10000 by omega)
    have o24 : ∀ o ∈ sqc n k, o < 24 := sqL_lt (by omega) _ _ _ (fun o ho => by rw [List.mem_range] at ho; omega)
    have wo := whs_ok o24
    have wl := whs_len (sqc n k)
    have W := s_whole (N := N) (gP := gP) hn a3 a2 (X4_partsOverAllOrders_b37 N gP fu) (iI (fac n)) (iI tot) (iI k) n N 0 (tPa.s_size gR 0) (by omega) rfl (by omega)
    rw [List.drop_zero] at W
    have m6 : (whs (sqc n k)).length * ((whs (sqc n k)).length - 1) ≤ 6 * 6 := Nat.mul_le_mul (by omega) (by omega)
    obtain ⟨g2, b1, -, -⟩ := e_few hN hG hP false 7 7 (whs (sqc n k)) 0 wo (by omega) (by omega) (by omega) (pshs (tPa.s_size gR 0) 0 (whs (sqc n k))) 0 (rpR.pshs _ _ _) (pshs_size _ _ _ rfl) (by omega)
    obtain ⟨g3, g4, d1⟩ := s_all hN hG hP hn hfn c fu (k + 1) (tot + fwv G false 7 (whs (sqc n k))) g2 g1 (by omega) (by omega)
    refine ⟨g3, g4, ?_⟩
    rw [X4_partsOverAllOrders_b37, if_neg (by rw [iI_le_n (by omega) (by omega)]; omega), a1, Option.bind_some]
    refine W.trans ?_
    rw [Nat.zero_add, wl, a3] at b1
    have b1' : X4_fewest N 7 gP (pshs (tPa.s_size gR 0) 0 (whs (sqc n k))) (0 : Int32) (iI n) (1 : Int32) (0 : Int32) = some (iI (fwv G false 7 (whs (sqc n k)) : Int), g2) := b1
    rw [X4_partsOverAllOrders_b93, b1', Option.bind_some, zl, iI_succ, iI_add, ← Int.natCast_add, d1, smf_map, Nat.add_assoc]
theorem fac_le {n : Nat} (h : n ≤ 6) : fac n ≤ 720 ∧ 0 < fac n := by
  rcases (show n = 0 ∨ n = 1 ∨ n = 2 ∨ n = 3 ∨ n = 4 ∨ n = 5 ∨ n = 6 by omega) with rfl | rfl | rfl | rfl | rfl | rfl | rfl <;> exact ⟨by decide, by decide⟩
theorem s_orders {N n : Nat} {gP : tPi} {gR : tPa} {gS : tSq} (hn : n ≤ 6) : ∀ (c fu i : Nat), i + 1 + c = n + 1 → c < fu →
    X4_partsOverAllOrders_b17 N gP fu gR gS (iI n) (iI (fac i)) (iI ((i + 1 : Nat) : Int)) = X4_partsOverAllOrders_b32 N gP gR gS (iI n) (iI (fac n))
  | 0, fu, i, h, hf => by
    obtain ⟨fu, rfl⟩ : ∃ f, fu = f + 1 := ⟨fu - 1, by omega⟩
    rw [X4_partsOverAllOrders_b17, if_pos (by rw [iI_lt_n (by omega) (by omega)]; omega), show i = n by omega]
  | c + 1, fu, i, h, hf => by
    obtain ⟨fu, rfl⟩ : ∃ f, fu = f + 1 := ⟨fu - 1, by omega⟩
    rw [X4_partsOverAllOrders_b17, if_neg (by rw [iI_lt_n (by omega) (by omega)]; omega), zl, iI_mul, iI_succ, ← Int.natCast_mul, show fac i * (i + 1) = fac (i + 1) by rw [fac, Nat.mul_comm]]
    exact s_orders hn c fu (i + 1) (by omega) (by omega)
theorem s_class {N n : Nat} (hN : 1000 < N) {G : tGe} {gP : tPi} (hG : gok G) (hP : rlP G gP) (hn : n ≤ 6) (hs : gP.size = iI (n : Int)) (gR : tPa) (gS : tSq) :
    ∃ gR' gS', X7_sum N gP gR gS = some (iI ((smf (fun os => fwv G false 7 (whs os)) ((List.range (fac n)).map (sqc n)) : Nat) : Int), gR', gS') := by
  obtain ⟨f1, f2⟩ := fac_le hn
  obtain ⟨g1, g2, e⟩ := s_all hN hG hP hn (by omega) (fac n) N 0 0 gR gS (by omega) (by omega)
  rw [Nat.zero_add, ← List.range_eq_range'] at e
  refine ⟨g1, g2, ?_⟩
  have e2 : X4_partsOverAllOrders_b17 N gP N gR gS (iI n) (1 : Int32) (2 : Int32) = X4_partsOverAllOrders_b32 N gP gR gS (iI n) (iI (fac n)) := by
    by_cases h0 : n = 0
    · subst h0
      obtain ⟨M, rfl⟩ : ∃ f, N = f + 1 := ⟨N - 1, by omega⟩
      rw [X4_partsOverAllOrders_b17, if_pos (by decide)]
      rfl
    · exact s_orders (i := 1) hn (n - 1) N (by omega) (by omega)
  rw [X7_sum, hs, if_pos (by rw [show (6 : Int32) = iI ((6 : Nat) : Int) from rfl, iI_le_n (by omega) (by omega)]; omega), X4_partsOverAllOrders, hs, if_neg (by rw [show (6 : Int32) = iI ((6 : Nat) : Int) from rfl, iI_lt_n (by omega) (by omega)]; omega), zl, e2, X4_partsOverAllOrders_b32]
  have e' : X4_partsOverAllOrders_b37 N gP N gR gS (iI n) (iI (fac n)) (0 : Int32) (0 : Int32) = _ := e
  rw [e', Option.bind_some]
