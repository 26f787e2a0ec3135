theorem m_pop {mG : tmG} {mO : tmO} {mR : tmR} {mS : tmS} {mW : tmW} {mK : tmK} {mD : tmD} {mN : tmN} (N n : Nat) (v1 : Int32) {q w k0 l0 len : Nat} {ab : Int} (kp : Bool) (hw : mW.waits = iI ((w + 1 : Nat) : Int)) (hw7 : w < 700) (hq : mW.wFrom w = iI (q : Int)) (ha : mW.wAbove w = iI ab) (hm : mR.rMany = iI ((q + len : Nat) : Int)) (hq7 : q + len ≤ 700) (hk : kp = true → mK.knots = iI (k0 : Int)) (hl : kp = true → mK.leaves = iI (l0 : Int)) :
    X8_grow_b57 N mG mO (n + 1) mR mW mS mK mD mN v1 (kpv kp) = X8_grow_b152 N (X8_grow_b57 N mG mO n) mG mO mR (tmW.s_waits mW (iI (w : Int))) mS (if kp then (if len = 0 then tmK.s_leaves mK (iI ((l0 + 1 : Nat) : Int)) else tmK.s_knots mK (iI ((k0 + 1 : Nat) : Int))) else mK) mD mN v1 (kpv kp) (iI (q : Int)) (iI ab) (if kp then (if len = 0 then iI (-2 - (l0 : Int)) else iI (k0 : Int)) else iI (-1)) := by
  have f0 : kpv false = (0 : Int32) := rfl
  have n0 : ¬ kpv true = (0 : Int32) := by decide
  have e1 : iI ((w + 1 : Nat) : Int) - (1 : Int32) = iI (w : Int) := by rw [c_1, iI_sub]; congr 1; omega
  rw [X8_grow_b57, hw, if_neg (by rw [c_0, show iI 0 = iI ((0 : Nat) : Int) from rfl, iI_le_n (by omega) (by omega)]; omega), e1, zck_n hw7 (by decide), cl_n (by omega), hq, zl, zck_n hw7 (by decide), ha, zl, hm]
  by_cases h0 : len = 0
  · rw [if_pos (by rw [h0]; rfl)]
    cases kp with
    | false => rw [if_pos f0]; rfl
    | true =>
      rw [if_neg n0, zl, hl rfl, iI_succ, c_m2, iI_sub, if_pos rfl, if_pos rfl, if_pos h0, if_pos h0]
  · rw [if_neg (by rw [iI_eq_n (by omega) (by omega)]; omega)]
    cases kp with
    | false => rw [if_pos f0]; rfl
    | true =>
      rw [if_neg n0, zl, hk rfl, iI_succ, if_pos rfl, if_pos rfl, if_neg h0, if_neg h0]
theorem sq_le {m a b q : Nat} (ha : a < m) (hb : b < m) (h : q + m * (m + 1) ≤ 700) : q + b + a * (a + 1) ≤ 700 ∧ q + b + a ≤ 700 := by
  obtain ⟨c, rfl⟩ : ∃ c, m = c + 1 := ⟨m - 1, by omega⟩
  have e1 : (c + 1) * (c + 1 + 1) = c * c + 3 * c + 2 := by grind
  have e2 : a * (a + 1) ≤ c * (c + 1) := Nat.mul_le_mul (by omega) (by omega)
  have e3 : c * (c + 1) = c * c + c := by grind
  have e4 : a ≤ a * (a + 1) := Nat.le_mul_of_pos_right a (by omega)
  omega
theorem m_grow {G : tGe} {mG : tmG} {mO : tmO} (hG : gok G) (hM : rlG G mG) {ru : Int} (h3 : 0 ≤ ru ∧ ru ≤ 3) {N : Nat} (hN : 30 < N) (kp : Bool) : ∀ (fu : Nat) (r : List qP) (mR : tmR) (mW : tmW) (mS : tmS) (mK : tmK) (mD : tmD) (mN : tmN) (q w k0 p0 l0 md : Nat) (ab ab' : Int) (fl : Bool) (de : Nat), (∀ p ∈ r, pok p) → r.length < fu → r.length ≤ 24 → mW.waits = iI ((w + 1 : Nat) : Int) → mW.wFrom w = iI (q : Int) → mW.wAbove w = iI ab' → mW.wFront w = kpv fl → w + r.length + 2 ≤ 700 → mR.rMany = iI ((q + r.length : Nat) : Int) → rpM mR q r → q + r.length * (r.length + 1) ≤ 700 → (kp = true → ab' = ab ∧ -1 ≤ ab ∧ ab < (k0 : Int) ∧ mK.knots = iI (k0 : Int) ∧ mK.leaves = iI (l0 : Int) ∧ mK.parts = iI (p0 : Int) ∧ k0 + phi G r ≤ 300 ∧ p0 + phi G r ≤ 300) → (kp = false → ab' = -1) → mN.made = iI (md : Int) →
    ∃ (c : Nat) (mR' : tmR) (mW' : tmW) (mS' : tmS) (mK' : tmK) (mD' : tmD) (mN' : tmN), c = 2 * (grw G ru fu r ab de k0 p0 l0 mD.draw).K.length + 1 ∧ (∀ n, X8_grow_b57 N mG mO (n + c) mR mW mS mK mD mN (iI ru) (kpv kp) = X8_grow_b57 N mG mO n mR' mW' mS' mK' mD' mN' (iI ru) (kpv kp)) ∧ smM mR mR' q ∧ mR'.rMany = iI (q : Int) ∧ smW mW mW' w ∧ mW'.waits = iI (w : Int) ∧ mD'.draw = (grw G ru fu r ab de k0 p0 l0 mD.draw).D ∧ mN'.made = iI ((md + (grw G ru fu r ab de k0 p0 l0 mD.draw).P.length : Nat) : Int) ∧ (kp = false → mK' = mK) ∧ (kp = true → mgk mK mK' k0 p0 l0 ab fl (cde r k0 l0) (grw G ru fu r ab de k0 p0 l0 mD.draw))
  | 0, r, mR, mW, mS, mK, mD, mN, q, w, k0, p0, l0, md, ab, ab', fl, de, ho, hf, _, _, _, _, _, _, _, _, _, _, _, _ => by omega
  | fu + 1, r, mR, mW, mS, mK, mD, mN, q, w, k0, p0, l0, md, ab, ab', fl, de, ho, hf, h24, hw, hq, ha, hfl, hw7, hm, hr, hq7, hkt, hkf, hmd => by
    have hab : -1 ≤ ab' ∧ ab' < 700 := by
      cases kp with
      | false => have := hkf rfl; omega
      | true => obtain ⟨a1, a2, a3, -, -, -, a7, -⟩ := hkt rfl; omega
    have hql : q + r.length ≤ 700 := by
      have : r.length ≤ r.length * (r.length + 1) := Nat.le_mul_of_pos_right _ (by omega)
      omega
    have pop := fun n => m_pop (mG := mG) (mO := mO) (mR := mR) (mS := mS) (mW := mW) (mK := mK) (mD := mD) (mN := mN) N n (iI ru) (k0 := k0) (l0 := l0) kp hw (by omega) hq ha hm hql (fun h => (hkt h).2.2.2.1) (fun h => (hkt h).2.2.2.2.1)
    by_cases h0 : r.length = 0
    · rw [grw, if_pos h0]
      refine ⟨1, mR, tmW.s_waits mW (iI (w : Int)), mS, if kp then stp (tmK.s_leaves mK (iI ((l0 + 1 : Nat) : Int))) ab fl (iI (-2 - (l0 : Int))) else mK, mD, mN, rfl, ?_, smM.rfl', by rw [hm, h0]; rfl, fun _ _ => ⟨rfl, rfl, rfl⟩, rfl, rfl, hmd, ?_, ?_⟩
      · intro n
        rw [pop n, m_ptr (mW := tmW.s_waits mW (iI (w : Int))) N _ (iI ru) _ _ kp (w := w) (fl := fl) rfl (by omega) hab hfl, X8_grow_b216, if_pos (by rw [hm, h0]; rfl)]
        cases kp with
        | false => rfl
        | true =>
          rw [(hkt rfl).1]
          simp only [if_true, if_pos h0]
      · intro h
        rw [h]
        rfl
      · intro h
        subst h
        obtain ⟨a1, a2, a3, a4, a5, a6, a7, a8⟩ := hkt rfl
        obtain ⟨b1, b2, b3, b4, b5, b6, b7⟩ := stp_is (tmK.s_leaves mK (iI ((l0 + 1 : Nat) : Int))) ⟨a2, a3⟩ fl (iI (-2 - (l0 : Int)))
        rw [if_pos rfl]
        have ec : cde r k0 l0 = -2 - (l0 : Int) := by unfold cde; rw [if_pos h0]
        refine ⟨b1, b2.trans a4, b3, b4.trans a6, by rw [ec]; exact b5, by rw [ec]; exact b6, fun i x h => nil_get h, fun i hi => b7 i (by have := phi_len G r; omega), fun i x h => nil_get h⟩
    · have hpos : 0 < r.length := by omega
      obtain ⟨p, hp, hj, hix⟩ := lin_mem (G := G) (ru := ru) (d := mD.draw) hpos
      have hj24 : lin G ru r mD.draw < 24 := by rw [← hj]; exact (ho p hp).1
      have ph := phi_le hG ho hp
      rw [hj] at ph
      have op := on_pos (G := G) (ru := ru) (d := mD.draw) hpos
      have fl' := frow_lt (G := G) (ru := ru) (d := mD.draw) hpos
      have bl := brow_lt (G := G) (ru := ru) (d := mD.draw) hpos
      have fo := frow_ok (j := lin G ru r mD.draw) hG ho
      have bo := brow_ok (j := lin G ru r mD.draw) hG ho
      have ixl := cho_lt G ru r mD.draw hpos
      have sF := sq_le fl' bl hq7
      have sB := sq_le bl (show 0 < r.length by omega) hq7
      have eow : mR.rPiece (q + (cho G ru r mD.draw).1) = iI ((lin G ru r mD.draw : Nat) : Int) := by rw [(hr _ p hix).1, hj]
      have ech := e_chosen (mD := mD) hG hM h3 (N := N) ho hr hql h24 (by omega) hpos
      -- the knot's own rows
      generalize hown : (if kp then iI (k0 : Int) else iI (-1)) = ownv
      generalize hK1 : (if kp then stp (tmK.s_knots mK (iI ((k0 + 1 : Nat) : Int))) ab fl (iI (k0 : Int)) else mK) = mK1
      generalize hK2 : (if kp then tmK.s_kAbove (tmK.s_kFirst (tmK.s_kMany (tmK.s_kPiece mK1 (upd mK1.kPiece k0 (iI ((lin G ru r mD.draw : Nat) : Int)))) (upd mK1.kMany k0 0)) (upd mK1.kFirst k0 (iI (p0 : Int)))) (upd mK1.kAbove k0 (iI ab)) else mK1) = mK2
      have hk2 : kp = true → mK2.parts = iI (p0 : Int) ∧ mK2.kMany k0 = iI ((0 : Nat) : Int) ∧ p0 + (onrow G (lin G ru r mD.draw) r).length ≤ 700 := by
        intro h
        subst h
        obtain ⟨a1, a2, a3, a4, a5, a6, a7, a8⟩ := hkt rfl
        obtain ⟨b1, b2, b3, b4, b5, b6, b7⟩ := stp_is (tmK.s_knots mK (iI ((k0 + 1 : Nat) : Int))) ⟨a2, a3⟩ fl (iI (k0 : Int))
        rw [if_pos rfl] at hK1 hK2
        refine ⟨?_, ?_, by omega⟩
        · rw [← hK2, ← hK1]
          exact b4.trans a6
        · rw [← hK2]
          exact upd_eq
      have hk7 : kp = true → k0 < 700 := fun h => by obtain ⟨a1, a2, a3, a4, a5, a6, a7, a8⟩ := hkt h; omega
      obtain ⟨mS1, mN1, sp1, sp2, sp3, sp4⟩ := m_split (mR := mR) (own := k0) hG hM hj24 kp hk7 N mO (tmW.s_waits mW (iI (w : Int))) (tmD.s_draw mD (cho G ru r mD.draw).2) (iI ru) (iI (q : Int)) ownv (fun h => by rw [← hown, if_pos h]) r N q 0 0 p0 0 md [] [] mS mK2 mN ho hr hm hql rfl rfl (fun i x h => nil_get h) (fun i x h => nil_get h) (by omega) (by omega) hk2 hmd (by omega)
      rw [List.nil_append] at sp2 sp3
      simp only [Nat.zero_add] at sp1
      generalize hK3 : (if kp then keps mK2 p0 k0 0 (onrow G (lin G ru r mD.draw) r) else mK2) = mK3 at sp1
      -- one step
      have step : ∀ n, X8_grow_b57 N mG mO (n + 1) mR mW mS mK mD mN (iI ru) (kpv kp) = X8_grow_b57 N mG mO n (pMs (pMs (tmR.s_rMany mR (iI (q : Int))) q (brow G (lin G ru r mD.draw) r)) (q + (brow G (lin G ru r mD.draw) r).length) (frow G (lin G ru r mD.draw) r)) (psW (psW (tmW.s_waits mW (iI (w : Int))) w (iI (q : Int)) ownv 0) (w + 1) (iI ((q + (brow G (lin G ru r mD.draw) r).length : Nat) : Int)) ownv 1) mS1 mK3 (tmD.s_draw mD (cho G ru r mD.draw).2) mN1 (iI ru) (kpv kp) := by
        intro n
        rw [pop n, m_ptr (mW := tmW.s_waits mW (iI (w : Int))) N _ (iI ru) _ _ kp (w := w) (fl := fl) rfl (by omega) hab hfl]
        have e1 : (if kp then stp (if kp then (if r.length = 0 then tmK.s_leaves mK (iI ((l0 + 1 : Nat) : Int)) else tmK.s_knots mK (iI ((k0 + 1 : Nat) : Int))) else mK) ab' fl (if kp then (if r.length = 0 then iI (-2 - (l0 : Int)) else iI (k0 : Int)) else iI (-1)) else (if kp then (if r.length = 0 then tmK.s_leaves mK (iI ((l0 + 1 : Nat) : Int)) else tmK.s_knots mK (iI ((k0 + 1 : Nat) : Int))) else mK)) = mK1 := by
          rw [← hK1]
          cases kp with
          | false => rfl
          | true =>
            rw [(hkt rfl).1]
            simp only [if_true, if_neg h0]
        have e2 : (if kp then (if r.length = 0 then iI (-2 - (l0 : Int)) else iI (k0 : Int)) else iI (-1)) = ownv := by
          rw [← hown]
          cases kp with
          | false => rfl
          | true => simp only [if_true, if_neg h0]
        rw [e1, e2, X8_grow_b216, if_neg (by rw [hm, iI_eq_n (by omega) (by omega)]; omega), hm, ech, Option.bind_some]
        dsimp only
        rw [zck_n (show q + (cho G ru r mD.draw).1 < 700 by omega) (by decide), cl_n (by omega), eow, zl]
        have e3 : (if kpv kp = (0 : Int32) then X8_grow_b291 N (X8_grow_b57 N mG mO n) mG mO mR (tmW.s_waits mW (iI (w : Int))) mS mK1 (tmD.s_draw mD (cho G ru r mD.draw).2) mN (iI ru) (kpv kp) (iI (q : Int)) ownv (iI ((lin G ru r mD.draw : Nat) : Int)) (0 : Int32) (0 : Int32) else zck ownv 700 (zck ownv 700 (zck ownv 700 (zck ownv 700 (X8_grow_b291 N (X8_grow_b57 N mG mO n) mG mO mR (tmW.s_waits mW (iI (w : Int))) mS (tmK.s_kAbove (tmK.s_kFirst (tmK.s_kMany (tmK.s_kPiece mK1 (upd (tmK.kPiece mK1) ownv.toNatClampNeg (iI ((lin G ru r mD.draw : Nat) : Int)))) (upd (tmK.kMany mK1) ownv.toNatClampNeg (0 : Int32))) (upd (tmK.kFirst mK1) ownv.toNatClampNeg (tmK.parts mK1))) (upd (tmK.kAbove mK1) ownv.toNatClampNeg (iI ab'))) (tmD.s_draw mD (cho G ru r mD.draw).2) mN (iI ru) (kpv kp) (iI (q : Int)) ownv (iI ((lin G ru r mD.draw : Nat) : Int)) (0 : Int32) (0 : Int32)))))) = X8_grow_b291 N (X8_grow_b57 N mG mO n) mG mO mR (tmW.s_waits mW (iI (w : Int))) mS mK2 (tmD.s_draw mD (cho G ru r mD.draw).2) mN (iI ru) (kpv kp) (iI (q : Int)) ownv (iI ((lin G ru r mD.draw : Nat) : Int)) (0 : Int32) (0 : Int32) := by
          cases kp with
          | false => rw [if_pos (show kpv false = (0 : Int32) from rfl), ← hK2]; rfl
          | true =>
            obtain ⟨a1, a2, a3, a4, a5, a6, a7, a8⟩ := hkt rfl
            obtain ⟨b1, b2, b3, b4, b5, b6, b7⟩ := stp_is (tmK.s_knots mK (iI ((k0 + 1 : Nat) : Int))) ⟨a2, a3⟩ fl (iI (k0 : Int))
            have k7 := hk7 rfl
            have eo : ownv = iI (k0 : Int) := by rw [← hown, if_pos rfl]
            have ep : mK1.parts = iI (p0 : Int) := by rw [← hK1, if_pos rfl]; exact b4.trans a6
            rw [if_neg (show ¬ kpv true = (0 : Int32) by decide), eo, zck_n k7 (by decide), zck_n k7 (by decide), zck_n k7 (by decide), zck_n k7 (by decide), cl_n (by omega), ep, a1, ← hK2, if_pos rfl]
        rw [e3, X8_grow_b291]
        have e4 := sp1 (X8_grow_b57 N mG mO n)
        rw [show (0 : Int32) = iI ((0 : Nat) : Int) from rfl]
        refine e4.trans ?_
        exact m_push N _ (iI ru) _ ownv sp2 sp3 rfl (by omega) (by omega) (by omega)
      rw [grw, if_neg h0]
      dsimp only [gO.K, gO.P, gO.L, gO.D]
      generalize hdw : mD.draw = dw at *
      generalize hjj : lin G ru r dw = j at *
      generalize hon : onrow G j r = on at *
      have bdF := grw_bd hG ru fu (frow G j r) (k0 : Int) (de + 1) (k0 + 1) (p0 + on.length) l0 (cho G ru r dw).2 fo (by omega)
      -- what the knot itself has put
      have own' : ownv = iI (if kp then (k0 : Int) else -1) := by rw [← hown]; cases kp <;> rfl
      have k3 : kp = true → mK3.isTree = mK.isTree ∧ mK3.knots = iI ((k0 + 1 : Nat) : Int) ∧ mK3.leaves = iI (l0 : Int) ∧ mK3.parts = iI ((p0 + on.length : Nat) : Int) ∧ mK3.top = (if ab < 0 then iI (k0 : Int) else mK.top) ∧ smB mK mK3 k0 ab fl (iI (k0 : Int)) ∧ mK3.kPiece k0 = iI (j : Int) ∧ mK3.kMany k0 = iI (on.length : Int) ∧ mK3.kFirst k0 = iI (p0 : Int) ∧ mK3.kAbove k0 = iI ab ∧ smMP mK mK3 p0 ∧ rpMP mK3 p0 (on.map (fun q => (q, k0))) := by
        intro h
        subst h
        obtain ⟨a1, a2, a3, a4, a5, a6, a7, a8⟩ := hkt rfl
        obtain ⟨b1, b2, b3, b4, b5, b6, b7⟩ := stp_is (tmK.s_knots mK (iI ((k0 + 1 : Nat) : Int))) ⟨a2, a3⟩ fl (iI (k0 : Int))
        obtain ⟨c1, c2, -⟩ := hk2 rfl
        rw [if_pos rfl] at hK1 hK2 hK3
        obtain ⟨d1, d2, d3, d4, d5, d6, d7, d8, d9, d10, d11, d12, d13, d14⟩ := keps_is on mK2 p0 k0 0 c1 c2
        rw [hK3] at d1 d2 d3 d4 d5 d6 d7 d8 d9 d10 d11 d12 d13 d14
        have m2 : ∀ i : Nat, i ≠ k0 → mK2.kPiece i = mK1.kPiece i ∧ mK2.kMany i = mK1.kMany i ∧ mK2.kFirst i = mK1.kFirst i ∧ mK2.kAbove i = mK1.kAbove i ∧ mK2.kFront i = mK1.kFront i ∧ mK2.kBack i = mK1.kBack i := by
          intro i hi
          rw [← hK2]
          exact ⟨upd_ne hi, upd_ne hi, upd_ne hi, upd_ne hi, rfl, rfl⟩
        refine ⟨?_, ?_, ?_, d10, ?_, ?_, ?_, ?_, ?_, ?_, ?_, d14⟩
        · rw [d1, ← hK2, ← hK1]; exact b1
        · rw [d2, ← hK2, ← hK1]; exact b2
        · rw [d3, ← hK2, ← hK1]; exact b3.trans a5
        · rw [d4, ← hK2, ← hK1]; exact b5
        · intro i hi
          obtain ⟨e1, e2, e3, e4, e5, e6⟩ := m2 i (by omega)
          obtain ⟨f1, f2, f3, f4, f5, f6⟩ := b6 i hi
          rw [hK1] at f1 f2 f3 f4 f5 f6
          refine ⟨?_, ?_, ?_, ?_, ?_, ?_⟩
          · rw [d5, e1]; exact f1
          · rw [d12 i (by omega), e2]; exact f2
          · rw [d6, e3]; exact f3
          · rw [d9, e4]; exact f4
          · rw [d7, e5]; exact f5
          · rw [d8, e6]; exact f6
        · rw [d5, ← hK2]; exact upd_eq
        · rw [d11, Nat.zero_add]
        · rw [d6, ← hK2]; exact upd_eq
        · rw [d9, ← hK2]; exact upd_eq
        · intro i hi
          obtain ⟨e1, e2, e3, e4, e5, e6⟩ := d13 i hi
          obtain ⟨f1, f2, f3, f4, f5, f6⟩ := b7 i (by omega)
          rw [hK1] at f1 f2 f3 f4 f5 f6
          rw [e1, e2, e3, e4, e5, e6, ← hK2]
          exact ⟨f1, f2, f3, f4, f5, f6⟩
      -- front
      obtain ⟨cf, mRf, mWf, mSf, mKf, mDf, mNf, f0, f1, f2, f3, f4, f5, f6, f7, f8, f9⟩ := m_grow (mO := mO) hG hM h3 hN kp fu (frow G j r) (pMs (pMs (tmR.s_rMany mR (iI (q : Int))) q (brow G j r)) (q + (brow G j r).length) (frow G j r)) (psW (psW (tmW.s_waits mW (iI (w : Int))) w (iI (q : Int)) ownv 0) (w + 1) (iI ((q + (brow G j r).length : Nat) : Int)) ownv 1) mS1 mK3 (tmD.s_draw mD (cho G ru r dw).2) mN1 (q + (brow G j r).length) (w + 1) (k0 + 1) (p0 + on.length) l0 (md + on.length) (k0 : Int) (if kp then (k0 : Int) else -1) true (de + 1) fo (by omega) (by omega) rfl upd_eq (by rw [← own']; exact upd_eq) upd_eq (by omega) (pMs_many _ _ _ (pMs_many _ _ _ rfl)) (rpM.pMs _ _ _) sF.1 (fun h => by
        obtain ⟨a1, a2, a3, a4, a5, a6, a7, a8⟩ := hkt h
        obtain ⟨b1, b2, b3, b4, -⟩ := k3 h
        exact ⟨by rw [if_pos h], by omega, by omega, b2, b3, b4, by omega, by omega⟩) (fun h => by rw [h]; rfl) sp4
      rw [show tmD.draw (tmD.s_draw mD (cho G ru r dw).2) = (cho G ru r dw).2 from rfl] at f0 f6 f7 f9
      generalize hF : grw G ru fu (frow G j r) (k0 : Int) (de + 1) (k0 + 1) (p0 + on.length) l0 (cho G ru r dw).2 = F at *
      -- back
      have rB : rpM mRf q (brow G j r) := ((rpM.pMs (brow G j r) (tmR.s_rMany mR (iI (q : Int))) q).keep (smM.pMs _ _ _) (Nat.le_refl _)).keep f2 (Nat.le_refl _)
      have wB := f4 w (by omega)
      obtain ⟨cb, mRb, mWb, mSb, mKb, mDb, mNb, g0, g1, g2, g3, g4, g5, g6, g7, g8, g9⟩ := m_grow (mO := mO) hG hM h3 hN kp fu (brow G j r) mRf mWf mSf mKf mDf mNf q w (k0 + 1 + F.1.length) (p0 + on.length + F.2.1.length) (l0 + F.2.2.1) (md + on.length + F.2.1.length) (k0 : Int) (if kp then (k0 : Int) else -1) false (de + 1) bo (by omega) (by omega) f5 (by rw [wB.1]; show upd _ _ _ _ = _; rw [upd_ne (by omega)]; exact upd_eq) (by rw [wB.2.1, ← own']; show upd _ _ _ _ = _; rw [upd_ne (by omega)]; exact upd_eq) (by rw [wB.2.2]; show upd _ _ _ _ = _; rw [upd_ne (by omega)]; exact upd_eq) (by omega) f3 rB sB.1 (fun h => by
        obtain ⟨a1, a2, a3, a4, a5, a6, a7, a8⟩ := hkt h
        obtain ⟨b1, b2, b3, b4, -⟩ := f9 h
        dsimp only [gO.K, gO.P, gO.L] at *
        exact ⟨by rw [if_pos h], by omega, by omega, b2, b3, b4, by omega, by omega⟩) (fun h => by rw [h]; rfl) f7
      rw [f6] at g0 g6 g7 g9
      dsimp only [gO.D] at g0 g6 g7 g9
      generalize hB : grw G ru fu (brow G j r) (k0 : Int) (de + 1) (k0 + 1 + F.1.length) (p0 + on.length + F.2.1.length) (l0 + F.2.2.1) F.2.2.2 = B at *
      dsimp only [gO.K, gO.P, gO.L, gO.D] at *
      refine ⟨1 + cf + cb, mRb, mWb, mSb, mKb, mDb, mNb, ?_, ?_, ?_, g3, ?_, g5, g6, ?_, ?_, ?_⟩
      · rw [f0, g0, List.length_cons, List.length_append]
        omega
      · intro n
        rw [show n + (1 + cf + cb) = n + cb + cf + 1 by omega, step, f1, g1]
      · intro i hi
        obtain ⟨x1, x2, x3, x4, x5⟩ := smM.pMs (brow G j r) (tmR.s_rMany mR (iI (q : Int))) q i hi
        obtain ⟨y1, y2, y3, y4, y5⟩ := smM.pMs (frow G j r) (pMs (tmR.s_rMany mR (iI (q : Int))) q (brow G j r)) (q + (brow G j r).length) i (by omega)
        obtain ⟨z1, z2, z3, z4, z5⟩ := f2 i (by omega)
        obtain ⟨w1, w2, w3, w4, w5⟩ := g2 i hi
        exact ⟨w1.trans (z1.trans (y1.trans x1)), w2.trans (z2.trans (y2.trans x2)), w3.trans (z3.trans (y3.trans x3)), w4.trans (z4.trans (y4.trans x4)), w5.trans (z5.trans (y5.trans x5))⟩
      · intro i hi
        obtain ⟨z1, z2, z3⟩ := f4 i (by omega)
        obtain ⟨w1, w2, w3⟩ := g4 i hi
        refine ⟨w1.trans (z1.trans ?_), w2.trans (z2.trans ?_), w3.trans (z3.trans ?_)⟩
        · show upd (upd mW.wFrom w _) (w + 1) _ i = _
          rw [upd_ne (by omega), upd_ne (by omega)]
        · show upd (upd mW.wAbove w _) (w + 1) _ i = _
          rw [upd_ne (by omega), upd_ne (by omega)]
        · show upd (upd mW.wFront w _) (w + 1) _ i = _
          rw [upd_ne (by omega), upd_ne (by omega)]
      · rw [g7]
        simp only [List.length_append, List.length_map]
        congr 1
        omega
      · intro h
        rw [g8 h, f8 h, ← hK3, h]
        rw [h] at hK1 hK2
        rw [← hK2, ← hK1]
        rfl
      · intro h
        obtain ⟨a1, a2, a3, a4, a5, a6, a7, a8⟩ := hkt h
        obtain ⟨k1, k2', k3', k4, k5, k6, k7, k8, k9, k10, k11, k12⟩ := k3 h
        obtain ⟨x1, x2, x3, x4, x5, x6, x7, x8, x9⟩ := f9 h
        obtain ⟨y1, y2, y3, y4, y5, y6, y7, y8, y9⟩ := g9 h
        dsimp only [gO.K, gO.P, gO.L, gO.D] at *
        have ec : cde r k0 l0 = (k0 : Int) := by unfold cde; rw [if_neg h0]
        rw [if_neg (by omega)] at x5 y5
        refine ⟨y1.trans (x1.trans k1), ?_, ?_, ?_, ?_, ?_, ?_, ?_, ?_⟩
        · rw [y2]
          simp only [gO.K, List.length_cons, List.length_append]
          congr 1
          omega
        · rw [y3]
          simp only [gO.L]
          congr 1
          omega
        · rw [y4]
          simp only [gO.P, List.length_append, List.length_map]
          congr 1
          omega
        · rw [y5, x5, k5, ec]
        · rw [ec]
          intro i hi
          obtain ⟨u1, u2, u3, u4, u5, u6⟩ := k6 i hi
          obtain ⟨v1, v2, v3, v4, v5, v6⟩ := x6 i (by omega)
          obtain ⟨w1, w2, w3, w4, w5, w6⟩ := y6 i (by omega)
          rw [if_neg (by omega)] at v5 v6 w5 w6
          exact ⟨w1.trans (v1.trans u1), w2.trans (v2.trans u2), w3.trans (v3.trans u3), w4.trans (v4.trans u4), w5.trans (v5.trans u5), w6.trans (v6.trans u6)⟩
        · have qF : rpMK mKb (k0 + 1) F.1 := by
            intro i x hi
            have hi' : i < F.1.length := (List.getElem?_eq_some_iff.mp hi).1
            obtain ⟨u1, u2, u3, u4, u5, u6⟩ := x7 i x hi
            obtain ⟨w1, w2, w3, w4, w5, w6⟩ := y6 (k0 + 1 + i) (by omega)
            rw [if_neg (by omega)] at w5 w6
            exact ⟨w1.trans u1, w2.trans u2, w3.trans u3, w5.trans u4, w6.trans u5, w4.trans u6⟩
          have q0 := qF.app y7
          intro i x hi
          cases i with
          | zero =>
            rw [List.getElem?_cons_zero] at hi
            cases hi
            obtain ⟨v1, v2, v3, v4, v5, v6⟩ := x6 k0 (by omega)
            obtain ⟨w1, w2, w3, w4, w5, w6⟩ := y6 k0 (by omega)
            rw [if_pos ⟨rfl, rfl⟩] at v5 w6
            rw [if_neg (by simp)] at w5
            exact ⟨w1.trans (v1.trans k7), w2.trans (v2.trans k8), w3.trans (v3.trans k9), w5.trans v5, w6, w4.trans (v4.trans k10)⟩
          | succ i =>
            rw [List.getElem?_cons_succ] at hi
            rw [show k0 + (i + 1) = k0 + 1 + i by omega]
            exact q0 i x hi
        · exact k11.trans (x8.trans y8 (by omega)) (by omega)
        · have q1 : rpMP mKb p0 (on.map (fun q => (q, k0))) := (k12.keep x8 (by rw [List.length_map]; omega)).keep y8 (by rw [List.length_map]; omega)
          have q2 : rpMP mKb (p0 + on.length) F.2.1 := x9.keep y8 (by omega)
          exact q1.app (by rw [List.length_map]; exact q2.app y9)
