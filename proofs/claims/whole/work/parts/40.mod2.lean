theorem cf_cb (G : tGe) (j : Nat) (r : List qP) : cF G j r + cB G j r ≤ r.length := by
  induction r with
  | nil => simp [cF, cB]
  | cons p r ih =>
    unfold cF cB at *
    rw [List.countP_cons, List.countP_cons, List.length_cons]
    by_cases h1 : how G j p = 1
    · simp [h1] at *; omega
    · by_cases h2 : how G j p = 2
      · simp [h1, h2] at *; omega
      · simp [h1, h2] at *; omega
theorem mch_loop {G : tGe} {mG : tmG} {mR : tmR} (hG : gok G) (hM : rlG G mG) {ru : Int} (h3 : 0 ≤ ru ∧ ru ≤ 3) {N k : Nat} {r : List qP} (ho : ∀ p ∈ r, pok p) (hr : rpM mR k r) (hk : k + r.length ≤ 700) (h24 : r.length ≤ 24) (hN : r.length < N) (mD : tmD) : ∀ (t : List qP) (fu i bi : Nat) (pa pc : Int), i + t.length = r.length → (∀ m, t[m]? = r[i + m]?) → bi < i → 0 ≤ pa ∧ pa ≤ 1000 → 0 ≤ pc ∧ pc ≤ 23 → t.length < fu →
    X8_chosen_b56 N mG mR fu mD (iI ru) (iI k) (iI ((k + r.length : Nat) : Int)) (iI ((k + bi : Nat) : Int)) (iI pa) (iI pc) (iI ((k + i : Nat) : Int)) = some (iI ((k + am (t.map (ky G ru r)) i bi (pa * 24 + pc) : Nat) : Int), mD)
  | [], fu, i, bi, pa, pc, hi, _, hb, _, _, hf => by
    obtain ⟨fu, rfl⟩ : ∃ f, fu = f + 1 := ⟨fu - 1, by simp at hf; omega⟩
    simp only [List.length_nil] at *
    rw [X8_chosen_b56, if_pos (by rw [iI_le_n (by omega) (by omega)]; omega), X8_chosen_b208]
    rfl
  | p :: t, fu, i, bi, pa, pc, hi, ht, hb, hpa, hpc, hf => by
    obtain ⟨fu, rfl⟩ : ∃ f, fu = f + 1 := ⟨fu - 1, by rw [List.length_cons] at hf; omega⟩
    have hl : (p :: t).length = t.length + 1 := List.length_cons
    have hp : r[i]? = some p := by rw [← Nat.add_zero i, ← ht 0]; rfl
    have hpm : p ∈ r := List.mem_of_getElem? hp
    have hpo : pok p := ho p hpm
    have tl : ∀ m, t[m]? = r[i + 1 + m]? := fun m => by
      have := ht (m + 1)
      rw [List.getElem?_cons_succ] at this
      rw [this, show i + (m + 1) = i + 1 + m by omega]
    have b1 := cf_cb G p.o r
    have b3 := nct_lt (G := G) hpm
    have e := mch_in hG hM (show k + i < 700 by omega) hpo.1 (hr i p hp).1 N (X8_chosen_b56 N mG mR fu) mD (iI ru) (iI k) (iI ((k + bi : Nat) : Int)) (iI pa) (iI pc) r N k 0 0 ho hr hk hN
    rw [X8_chosen_b56, if_neg (by rw [iI_le_n (by omega) (by omega)]; omega), c_0, show iI 0 = iI ((0 : Nat) : Int) from rfl]
    rw [show (((0 : Nat) : Int)) = (0 : Int) from rfl] at *
    rw [e, mch_140 (G := G) N _ mD h3 (iI k) _ (by omega) (by omega) hpa hpc (by omega), List.map_cons, am]
    have ek : apt ru (0 + (cF G p.o r : Int) - (cB G p.o r : Int)) * 24 + ((0 + nct G p.o r : Nat) : Int) = ky G ru r p := by
      unfold ky
      rw [Int.zero_add, Nat.zero_add]
    rw [ek]
    have apb : 0 ≤ apt ru (0 + (cF G p.o r : Int) - (cB G p.o r : Int)) ∧ apt ru (0 + (cF G p.o r : Int) - (cB G p.o r : Int)) ≤ 1000 := by unfold apt; split; omega; split <;> omega
    by_cases h : ky G ru r p < pa * 24 + pc
    · rw [if_pos (Or.inr h), if_pos h, show k + i + 1 = k + (i + 1) by omega]
      have := mch_loop hG hM h3 ho hr hk h24 hN mD t fu (i + 1) i (apt ru (0 + (cF G p.o r : Int) - (cB G p.o r : Int))) ((0 + nct G p.o r : Nat) : Int) (by omega) tl (by omega) apb (by omega) (by omega)
      rw [ek] at this
      exact this
    · rw [if_neg (by omega), if_neg h, show k + i + 1 = k + (i + 1) by omega]
      exact mch_loop hG hM h3 ho hr hk h24 hN mD t fu (i + 1) bi pa pc (by omega) tl (by omega) hpa hpc (by omega)
theorem e_chosen {G : tGe} {mG : tmG} {mR : tmR} {mD : tmD} (hG : gok G) (hM : rlG G mG) {ru : Int} (h3 : 0 ≤ ru ∧ ru ≤ 3) {N k : Nat} {r : List qP} (ho : ∀ p ∈ r, pok p) (hr : rpM mR k r) (hk : k + r.length ≤ 700) (h24 : r.length ≤ 24) (hN : r.length < N) (h0 : 0 < r.length) :
    X8_chosen N mG mR mD (iI ru) (iI k) (iI ((k + r.length : Nat) : Int)) = some (iI ((k + (cho G ru r mD.draw).1 : Nat) : Int), tmD.s_draw mD (cho G ru r mD.draw).2) := by
  rw [X8_chosen]
  have r3 : i3 ru := by unfold i3; omega
  unfold cho
  by_cases c0 : ru = 0
  · rw [if_pos (by rw [c0]; rfl), if_pos c0]
    rfl
  · rw [if_neg (by rw [c_0, iI_eq r3 (by unfold i3; omega)]; exact c0), if_neg c0]
    by_cases c2 : ru = 2
    · rw [if_pos (by rw [c2]; rfl), if_pos c2, iI_sub_n (by omega), show k + r.length - k = r.length by omega]
      unfold zcz
      rw [if_neg (by rw [c_0, show iI 0 = iI ((0 : Nat) : Int) from rfl, iI_eq_n (by omega) (by omega)]; omega)]
      have e := e_draw mD.draw (q := k) (n := r.length) h0 (by omega)
      unfold dr at e
      rw [e]
      rfl
    · rw [if_neg (by rw [c_2, iI_eq r3 (by unfold i3; omega)]; exact c2), if_neg c2]
      cases r with
      | nil => simp at h0
      | cons p t =>
        have hl : (p :: t).length = t.length + 1 := List.length_cons
        obtain ⟨N, rfl⟩ : ∃ n, N = n + 1 := ⟨N - 1, by omega⟩
        have hpm : p ∈ p :: t := List.mem_cons_self
        have b1 := cf_cb G p.o (p :: t)
        have b3 := nct_lt (G := G) hpm
        have e := mch_in hG hM (show k < 700 by omega) (ho p hpm).1 hr.head.1 (N + 1) (X8_chosen_b56 (N + 1) mG mR N) mD (iI ru) (iI k) (iI (-1)) (iI 0) (iI 0) (p :: t) (N + 1) k 0 0 ho hr hk hN
        rw [X8_chosen_b56, if_neg (by rw [iI_le_n (by omega) (by omega)]; omega), c_0, c_m1]
        rw [show iI ((0 : Nat) : Int) = iI 0 from rfl] at e
        rw [e, mch_140 (G := G) _ _ mD h3 (iI k) _ (by omega) (by omega) (by omega) (by omega) (by omega), if_pos (Or.inl (by omega))]
        have ek : apt ru (0 + (cF G p.o (p :: t) : Int) - (cB G p.o (p :: t) : Int)) * 24 + ((0 + nct G p.o (p :: t) : Nat) : Int) = ky G ru (p :: t) p := by
          unfold ky
          rw [Int.zero_add, Nat.zero_add]
        have apb : 0 ≤ apt ru (0 + (cF G p.o (p :: t) : Int) - (cB G p.o (p :: t) : Int)) ∧ apt ru (0 + (cF G p.o (p :: t) : Int) - (cB G p.o (p :: t) : Int)) ≤ 1000 := by unfold apt; split; omega; split <;> omega
        have := mch_loop hG hM h3 ho hr hk h24 hN mD t N 1 0 (apt ru (0 + (cF G p.o (p :: t) : Int) - (cB G p.o (p :: t) : Int))) ((0 + nct G p.o (p :: t) : Nat) : Int) (by omega) (fun m => by rw [show 1 + m = m + 1 by omega, List.getElem?_cons_succ]) (by omega) apb (by omega) (by omega)
        rw [ek, Nat.add_zero] at this
        exact this
/-! What the reference keeps of a knot's parts -/
def kep (g : tmK) (n kn c : Nat) (p : qP) : tmK := tmK.s_pLow2 (tmK.s_pUp2 (tmK.s_pLow (tmK.s_pUp (tmK.s_pKnot (tmK.s_pPiece (tmK.s_kMany (tmK.s_parts g (iI ((n + 1 : Nat) : Int))) (upd g.kMany kn (iI ((c + 1 : Nat) : Int)))) (upd g.pPiece n (iI (p.o : Int)))) (upd g.pKnot n (iI (kn : Int)))) (vp_updL g.pUp n (lI p.a))) (vp_updL g.pLow n (lI p.b))) (vp_updL g.pUp2 n (lI p.c))) (vp_updL g.pLow2 n (lI p.d))
theorem e_keep {mR : tmR} {mK : tmK} {k n kn c : Nat} {p : qP} (hk : k < 700) (hn : n < 700) (hkn : kn < 700) (hp : mK.parts = iI (n : Int)) (hc : mK.kMany kn = iI (c : Int)) (h : atM mR k p) : X8_keep mR mK (iI kn) (iI k) = some (kep mK n kn c p) := by
  obtain ⟨r1, r2, r3, r4, r5⟩ := h
  simp only [X8_keep, hp, zck_n (n := 700) hk (by decide), zck_n (n := 700) hn (by decide), zck_n (n := 700) hkn (by decide), cl_n (show k < 2147483648 by omega), cl_n (show n < 2147483648 by omega), cl_n (show kn < 2147483648 by omega), r1, r2, r3, r4, r5, hc, iI_succ]
  rfl
def keps (g : tmK) (n kn c : Nat) : List qP → tmK
  | [] => g
  | p :: r => keps (kep g n kn c p) (n + 1) kn (c + 1) r
/-- the cut of a row by its knot's line -/
theorem m_split {G : tGe} {mG : tmG} {mR : tmR} (hG : gok G) (hM : rlG G mG) {j own : Nat} (hj : j < 24) (kp : Bool) (hown : kp = true → own < 700) (N : Nat) (mO : tmO) (mW : tmW) (mD : tmD) (v1 v3 v5 : Int32) (h5 : kp = true → v5 = iI (own : Int)) : ∀ (r : List qP) (fu k f b m c md : Nat) (Fr Br : List qP) (mS : tmS) (mK : tmK) (mN : tmN), (∀ p ∈ r, pok p) → rpM mR k r → mR.rMany = iI ((k + r.length : Nat) : Int) → k + r.length ≤ 700 → Fr.length = f → Br.length = b → rpS mS 0 Fr → rpS mS 700 Br → f + r.length ≤ 700 → b + r.length ≤ 700 → (kp = true → mK.parts = iI (m : Int) ∧ mK.kMany own = iI (c : Int) ∧ m + (onrow G j r).length ≤ 700) → mN.made = iI (md : Int) → r.length < fu →
    ∃ (mS' : tmS) (mN' : tmN), (∀ (k57 : tmR → tmW → tmS → tmK → tmD → tmN → Int32 → Int32 → Option (tmR × tmW × tmS × tmK × tmD × tmN)), X8_grow_b294 N k57 mG mO fu mR mW mS mK mD mN v1 (if kp then 1 else 0) v3 v5 (iI j) (iI f) (iI b) (iI k) = X8_grow_b598 N k57 mG mO mR mW mS' (if kp then keps mK m own c (onrow G j r) else mK) mD mN' v1 (if kp then 1 else 0) v3 v5 (iI ((f + (frow G j r).length : Nat) : Int)) (iI ((b + (brow G j r).length : Nat) : Int))) ∧ rpS mS' 0 (Fr ++ frow G j r) ∧ rpS mS' 700 (Br ++ brow G j r) ∧ mN'.made = iI ((md + (onrow G j r).length : Nat) : Int)
  | [], fu, k, f, b, m, c, md, Fr, Br, mS, mK, mN, _, _, hs, h1, hF, hB, hSF, hSB, _, _, _, hmd, hf => by
    obtain ⟨fu, rfl⟩ : ∃ f, fu = f + 1 := ⟨fu - 1, by simp at hf; omega⟩
    simp only [List.length_nil] at *
    refine ⟨mS, mN, fun k57 => ?_, by simpa [frow] using hSF, by simpa [brow] using hSB, by simpa [onrow] using hmd⟩
    rw [X8_grow_b294, hs, if_pos (by rw [iI_le_n (by omega) (by omega)]; omega)]
    cases kp <;> rfl
  | p :: r, fu, k, f, b, m, c, md, Fr, Br, mS, mK, mN, ho, hr, hs, h1, hF, hB, hSF, hSB, hf7, hb7, hkp, hmd, hf => by
    obtain ⟨fu, rfl⟩ : ∃ f, fu = f + 1 := ⟨fu - 1, by rw [List.length_cons] at hf; omega⟩
    have hp : pok p := ho p List.mem_cons_self
    have hl : (p :: r).length = r.length + 1 := List.length_cons
    have ho' := fun p' h' => ho p' (List.mem_cons_of_mem _ h')
    have q4 := how_le G j p
    have hs' : mR.rMany = iI ((k + 1 + r.length : Nat) : Int) := by rw [hs, hl, show k + (r.length + 1) = k + 1 + r.length by omega]
    have hat := hr.head
    have z6 : i6 0 := by unfold i6; omega
    have bSL := SL_bd hG j p.o
    have bSD := SD_bd hG j p.o
    have k7 : k < 700 := by omega
    obtain ⟨r1, r2, r3, r4, r5⟩ := id hat
    have ih := m_split (mR := mR) hG hM hj kp hown N mO mW mD v1 v3 v5 h5 r fu (k + 1)
    have nle : ¬ mR.rMany ≤ iI (k : Int) := by rw [hs, iI_le_n (by omega) (by omega)]; omega
    have rd := e_rowDoes hG hM hj k7 hp hat
    rw [onrow_cons] at *
    by_cases h0 : how G j p = 0
    · rw [if_pos h0] at *
      have ef : frow G j (p :: r) = frow G j r := by unfold frow; rw [List.filterMap_cons]; simp [ctf, h0]
      have eb : brow G j (p :: r) = brow G j r := by unfold brow; rw [List.filterMap_cons]; simp [ctb, h0]
      rw [ef, eb]
      have z0 : iI (how G j p : Int) = (0 : Int32) := by rw [h0]; rfl
      cases kp with
      | false =>
        obtain ⟨mS', mN', a1, a2, a3, a4⟩ := ih f b m c (md + 1) Fr Br mS mK (tmN.s_made mN (iI ((md + 1 : Nat) : Int))) ho' hr.tail hs' (by omega) hF hB hSF hSB (by omega) (by omega) (fun h => absurd h (by decide)) rfl (by omega)
        refine ⟨mS', mN', fun k57 => ?_, a2, a3, by rw [a4, List.length_cons, show md + 1 + (onrow G j r).length = md + ((onrow G j r).length + 1) by omega]⟩
        rw [X8_grow_b294, if_neg nle, rd, Option.bind_some, zck_n k7 (by decide), cl_n (by omega), zl, r1, if_pos z0, if_pos (show (if false = true then (1 : Int32) else 0) = 0 from rfl), X8_grow_b592, iI_succ, hmd, iI_succ]
        exact a1 k57
      | true =>
        obtain ⟨kp1, kp2, kp3⟩ := hkp rfl
        rw [List.length_cons] at kp3
        have ho7 := hown rfl
        obtain ⟨mS', mN', a1, a2, a3, a4⟩ := ih f b (m + 1) (c + 1) (md + 1) Fr Br mS (kep mK m own c p) (tmN.s_made mN (iI ((md + 1 : Nat) : Int))) ho' hr.tail hs' (by omega) hF hB hSF hSB (by omega) (by omega) (fun _ => ⟨rfl, upd_eq, by omega⟩) rfl (by omega)
        refine ⟨mS', mN', fun k57 => ?_, a2, a3, by rw [a4, List.length_cons, show md + 1 + (onrow G j r).length = md + ((onrow G j r).length + 1) by omega]⟩
        have a1' := a1 k57
        rw [h5 rfl] at a1' ⊢
        rw [X8_grow_b294, if_neg nle, rd, Option.bind_some, zck_n k7 (by decide), cl_n (by omega), zl, r1, if_pos z0, if_neg (by decide), e_keep k7 (show m < 700 by omega) ho7 kp1 kp2 hat, Option.bind_some, X8_grow_b592, iI_succ, hmd, iI_succ]
        exact a1'
    · rw [if_neg h0] at *
      have z0 : ¬ iI (how G j p : Int) = (0 : Int32) := by rw [c_0, show iI 0 = iI ((0 : Nat) : Int) from rfl, iI_eq_n (by omega) (by omega)]; exact h0
      have key : ∀ (K : Int64 → Int64 → Option (tmR × tmW × tmS × tmK × tmD × tmN)), (if (0 : Int32) ≤ lg_cmp (lI (SL G j p.o)) (0 : Int64) then K (-lI (SD G j p.o)) (lI (SL G j p.o)) else zl (-(-lI (SD G j p.o))) (fun x38 => zl (-lI (SL G j p.o)) (fun x39 => K x38 x39))) = K (lI (up G j p.o)) (lI (low G j p.o)) := by
        intro K
        unfold up low
        rw [cl_0]
        by_cases hn : SL G j p.o < 0
        · rw [if_neg (by rw [cmp_ge (by unfold i6; omega) z6]; omega), if_pos hn, if_pos hn, zl, zl, lI_neg, lI_neg, lI_neg, Int.neg_neg]
        · rw [if_pos (by rw [cmp_ge (by unfold i6; omega) z6]; omega), if_neg hn, if_neg hn, lI_neg]
      have lt7 : ∀ x : Nat, (700 : Int32) + iI (x : Int) = iI ((700 + x : Nat) : Int) := fun x => by rw [c_700, iI_add]; rfl
      have pre : ∀ (k57 : tmR → tmW → tmS → tmK → tmD → tmN → Int32 → Int32 → Option (tmR × tmW × tmS × tmK × tmD × tmN)), X8_grow_b294 N k57 mG mO (fu + 1) mR mW mS mK mD mN v1 (if kp then 1 else 0) v3 v5 (iI j) (iI f) (iI b) (iI k) = X8_grow_b404 N k57 (X8_grow_b294 N k57 mG mO fu) mG mO mR mW mS mK mD mN v1 (if kp then 1 else 0) v3 v5 (iI j) (iI f) (iI b) (iI k) (iI (how G j p : Int)) (iI (p.o : Int)) (lI (up G j p.o)) (lI (low G j p.o)) := by
        intro k57
        rw [X8_grow_b294, if_neg nle, rd, Option.bind_some, zck_n k7 (by decide), cl_n (by omega), zl, r1, if_neg z0, zck_n hp.1 (by decide), zck_n hp.1 (by decide), e_msideP hG hM hp.1 hj, Option.bind_some, zl, e_slope hG hM hp.1 hj, Option.bind_some]
        exact key (fun x y => X8_grow_b404 N k57 (X8_grow_b294 N k57 mG mO fu) mG mO mR mW mS mK mD mN v1 (if kp then 1 else 0) v3 v5 (iI j) (iI f) (iI b) (iI k) (iI (how G j p : Int)) (iI (p.o : Int)) x y)
      rcases (show how G j p = 1 ∨ how G j p = 2 ∨ how G j p = 3 ∨ how G j p = 4 by omega) with h | h | h | h
      · have ef : frow G j (p :: r) = p :: frow G j r := by unfold frow; rw [List.filterMap_cons]; simp [ctf, h]
        have eb : brow G j (p :: r) = brow G j r := by unfold brow; rw [List.filterMap_cons]; simp [ctb, h]
        rw [ef, eb]
        obtain ⟨mS', mN', a1, a2, a3, a4⟩ := ih (f + 1) b m c md (Fr ++ [p]) Br (pS mS f p) mK mN ho' hr.tail hs' (by omega) (by simp [hF]) hB ((hSF.pSne (Or.inr (by omega))).snoc (by rw [Nat.zero_add, hF]; exact pS_at mS f p)) (hSB.pSne (Or.inl (by omega))) (by omega) (by omega) hkp hmd (by omega)
        refine ⟨mS', mN', fun k57 => ?_, by rw [List.append_cons]; exact a2, a3, a4⟩
        rw [pre k57, X8_grow_b404, if_pos (by rw [h]; rfl), zck_n k7 (by decide), zck_n k7 (by decide), zck_n k7 (by decide), zck_n k7 (by decide), cl_n (by omega), r2, r3, r4, r5, e_put mS (show f < 1400 by omega), Option.bind_some, X8_grow_b592, iI_succ, iI_succ]
        rw [List.length_cons, show f + ((frow G j r).length + 1) = f + 1 + (frow G j r).length by omega]
        exact a1 k57
      · have ef : frow G j (p :: r) = frow G j r := by unfold frow; rw [List.filterMap_cons]; simp [ctf, h]
        have eb : brow G j (p :: r) = p :: brow G j r := by unfold brow; rw [List.filterMap_cons]; simp [ctb, h]
        rw [ef, eb]
        obtain ⟨mS', mN', a1, a2, a3, a4⟩ := ih f (b + 1) m c md Fr (Br ++ [p]) (pS mS (700 + b) p) mK mN ho' hr.tail hs' (by omega) hF (by simp [hB]) (hSF.pSne (Or.inr (by omega))) ((hSB.pSne (Or.inr (by omega))).snoc (by rw [hB]; exact pS_at mS (700 + b) p)) (by omega) (by omega) hkp hmd (by omega)
        refine ⟨mS', mN', fun k57 => ?_, a2, by rw [List.append_cons]; exact a3, a4⟩
        rw [pre k57, X8_grow_b404, if_neg (by rw [h]; decide), if_pos (by rw [h]; rfl), zck_n k7 (by decide), zck_n k7 (by decide), zck_n k7 (by decide), zck_n k7 (by decide), cl_n (by omega), r2, r3, r4, r5, lt7, e_put mS (show 700 + b < 1400 by omega), Option.bind_some, X8_grow_b592, iI_succ, iI_succ]
        rw [List.length_cons, show b + ((brow G j r).length + 1) = b + 1 + (brow G j r).length by omega]
        exact a1 k57
      · have ef : frow G j (p :: r) = (p.o, p.a, p.b, up G j p.o, low G j p.o) :: frow G j r := by unfold frow; rw [List.filterMap_cons]; simp [ctf, h]
        have eb : brow G j (p :: r) = (p.o, up G j p.o, low G j p.o, p.c, p.d) :: brow G j r := by unfold brow; rw [List.filterMap_cons]; simp [ctb, h]
        rw [ef, eb]
        obtain ⟨mS', mN', a1, a2, a3, a4⟩ := ih (f + 1) (b + 1) m c md (Fr ++ [(p.o, p.a, p.b, up G j p.o, low G j p.o)]) (Br ++ [(p.o, up G j p.o, low G j p.o, p.c, p.d)]) (pS (pS mS f (p.o, p.a, p.b, up G j p.o, low G j p.o)) (700 + b) (p.o, up G j p.o, low G j p.o, p.c, p.d)) mK mN ho' hr.tail hs' (by omega) (by simp [hF]) (by simp [hB]) (((hSF.pSne (Or.inr (by omega))).snoc (by rw [Nat.zero_add, hF]; exact pS_at mS f _)).pSne (Or.inr (by simp; omega))) (((hSB.pSne (Or.inl (by omega))).pSne (Or.inr (by omega))).snoc (by rw [hB]; exact pS_at _ (700 + b) _)) (by omega) (by omega) hkp hmd (by omega)
        refine ⟨mS', mN', fun k57 => ?_, by rw [List.append_cons]; exact a2, by rw [List.append_cons]; exact a3, a4⟩
        rw [pre k57, X8_grow_b404, if_neg (by rw [h]; decide), if_neg (by rw [h]; decide), if_pos (by rw [h]; rfl), X8_grow_b522, zck_n k7 (by decide), zck_n k7 (by decide), cl_n (by omega), r2, r3, e_put mS (show f < 1400 by omega), Option.bind_some, if_pos (by rw [h]; rfl), X8_grow_b563, zck_n k7 (by decide), zck_n k7 (by decide), cl_n (by omega), r4, r5, lt7, e_put _ (show 700 + b < 1400 by omega), Option.bind_some, X8_grow_b592, iI_succ, iI_succ, iI_succ]
        rw [List.length_cons, List.length_cons, show f + ((frow G j r).length + 1) = f + 1 + (frow G j r).length by omega, show b + ((brow G j r).length + 1) = b + 1 + (brow G j r).length by omega]
        exact a1 k57
      · have ef : frow G j (p :: r) = (p.o, up G j p.o, low G j p.o, p.c, p.d) :: frow G j r := by unfold frow; rw [List.filterMap_cons]; simp [ctf, h]
        have eb : brow G j (p :: r) = (p.o, p.a, p.b, up G j p.o, low G j p.o) :: brow G j r := by unfold brow; rw [List.filterMap_cons]; simp [ctb, h]
        rw [ef, eb]
        obtain ⟨mS', mN', a1, a2, a3, a4⟩ := ih (f + 1) (b + 1) m c md (Fr ++ [(p.o, up G j p.o, low G j p.o, p.c, p.d)]) (Br ++ [(p.o, p.a, p.b, up G j p.o, low G j p.o)]) (pS (pS mS (700 + b) (p.o, p.a, p.b, up G j p.o, low G j p.o)) f (p.o, up G j p.o, low G j p.o, p.c, p.d)) mK mN ho' hr.tail hs' (by omega) (by simp [hF]) (by simp [hB]) (((hSF.pSne (Or.inr (by omega))).pSne (Or.inr (by omega))).snoc (by rw [Nat.zero_add, hF]; exact pS_at _ f _)) (((hSB.pSne (Or.inr (by omega))).snoc (by rw [hB]; exact pS_at _ (700 + b) _)).pSne (Or.inl (by omega))) (by omega) (by omega) hkp hmd (by omega)
        refine ⟨mS', mN', fun k57 => ?_, by rw [List.append_cons]; exact a2, by rw [List.append_cons]; exact a3, a4⟩
        rw [pre k57, X8_grow_b404, if_neg (by rw [h]; decide), if_neg (by rw [h]; decide), if_neg (by rw [h]; decide), X8_grow_b522, zck_n k7 (by decide), zck_n k7 (by decide), cl_n (by omega), r2, r3, lt7, e_put mS (show 700 + b < 1400 by omega), Option.bind_some, if_neg (by rw [h]; decide), X8_grow_b563, zck_n k7 (by decide), zck_n k7 (by decide), cl_n (by omega), r4, r5, e_put _ (show f < 1400 by omega), Option.bind_some, X8_grow_b592, iI_succ, iI_succ, iI_succ]
        rw [List.length_cons, List.length_cons, show f + ((frow G j r).length + 1) = f + 1 + (frow G j r).length by omega, show b + ((brow G j r).length + 1) = b + 1 + (brow G j r).length by omega]
        exact a1 k57
