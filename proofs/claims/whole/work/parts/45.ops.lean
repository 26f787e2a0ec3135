theorem op_piece {gP : tPi} {gQ : tPa} {gT : tTr} {gE : tTe} {gM : tMe} {mG : tmG} {mH : tmH} {mK : tmK} {mB : tmB} {mM : tmM} (h : zI gP gQ gT gE gM mG mK mB mM) (a b c d : Int32) :
    ∃ r gP' gQ' gT' gE' mG' mK' mB', X7_piece gP gQ gT gE a b c d = some (r, gP', gQ', gT', gE') ∧ X8_piece mG mH mK mB a b c d = some (r, mG', tmH.s_thrown mH 0, mK', mB') ∧ zI gP' gQ' gT' gE' gM mG' mK' mB' mM := by
  obtain ⟨⟨G, n, g1, g2, g3, g4, g5, g6, g7⟩, h2, h3, h4⟩ := id h
  have bad : X7_piece gP gQ gT gE a b c d = some (-1, gP, gQ, gT, gE) → X8_piece mG mH mK mB a b c d = some (-1, mG, tmH.s_thrown mH 0, mK, mB) → ∃ r gP' gQ' gT' gE' mG' mK' mB', X7_piece gP gQ gT gE a b c d = some (r, gP', gQ', gT', gE') ∧ X8_piece mG mH mK mB a b c d = some (r, mG', tmH.s_thrown mH 0, mK', mB') ∧ zI gP' gQ' gT' gE' gM mG' mK' mB' mM := fun e1 e2 => ⟨_, _, _, _, _, _, _, _, e1, e2, h⟩
  have al : ∃ s0 : Int32, X7_piece gP gQ gT gE a b c d = X7_piece_b16 gP gQ gT gE a b c d s0 ∧ (s0 = 0 ↔ ¬ (a = c ∧ b = d)) := by
    rw [X7_piece, X7_piece_b15]
    by_cases e1 : a = c
    · by_cases e2 : b = d
      · rw [if_pos e1, if_pos e2]
        exact ⟨1, rfl, by simp [e1, e2]⟩
      · rw [if_pos e1, if_neg e2]
        exact ⟨0, rfl, by simp [e2]⟩
    · rw [if_neg e1]
      exact ⟨0, rfl, by simp [e1]⟩
  obtain ⟨s0, es, hs0⟩ := al
  rw [es, X7_piece_b16, g5] at bad
  rw [es, X7_piece_b16, g5]
  rw [X8_piece, g6] at bad ⊢
  by_cases c24 : n = 24
  · have q1 : (24 : Int32) ≤ iI (n : Int) := by rw [c24]; decide
    have q2 : iI (n : Int) = (24 : Int32) := by rw [c24]; rfl
    rw [if_pos q1, if_pos q2] at bad ⊢
    exact bad rfl rfl
  · have q1 : ¬ (24 : Int32) ≤ iI (n : Int) := by rw [c_24, show iI 24 = iI ((24 : Nat) : Int) from rfl, iI_le_n (by omega) (by omega)]; omega
    have q2 : ¬ iI (n : Int) = (24 : Int32) := by rw [c_24, show iI 24 = iI ((24 : Nat) : Int) from rfl, iI_eq_n (by omega) (by omega)]; omega
    rw [if_neg q1, if_neg q2] at bad ⊢
    have pa := e_place (i3_of a) (i3_of b)
    have pc := e_place (i3_of c) (i3_of d)
    rw [iI_of, iI_of] at pa pc
    rcases pa with ⟨a1, a2, a3, a4⟩ | ⟨a1, a3, a4⟩
    · rw [a3, a4, Option.bind_some, Option.bind_some, if_neg (show ¬ (1 : Int32) = 0 by decide), if_pos (show (0 : Int32) = 0 from rfl)] at bad ⊢
      rcases pc with ⟨b1, b2, b3, b4⟩ | ⟨b1, b3, b4⟩
      · rw [b3, b4, Option.bind_some, Option.bind_some, if_neg (show ¬ (1 : Int32) = 0 by decide), if_pos (show (0 : Int32) = 0 from rfl)] at bad ⊢
        by_cases eq : a = c ∧ b = d
        · rw [if_neg (fun q => (hs0.mp q) eq), if_pos eq.1, if_pos eq.2] at bad ⊢
          exact bad rfl rfl
        · rw [if_pos (hs0.mpr eq)] at bad ⊢
          have e8 : (if a = c then (if b = d then some ((-1 : Int32), mG, (tmH.s_thrown mH (0 : Int32)), mK, mB) else X8_piece_b44 mG (tmH.s_thrown mH (0 : Int32)) mK mB a b c d) else X8_piece_b44 mG (tmH.s_thrown mH (0 : Int32)) mK mB a b c d) = X8_piece_b44 mG (tmH.s_thrown mH (0 : Int32)) mK mB a b c d := by
            by_cases e1 : a = c
            · rw [if_pos e1, if_neg (fun e2 => eq ⟨e1, e2⟩)]
            · rw [if_neg e1]
          rw [e8, X8_piece_b44, g6, e_fell, e_noTree, Option.bind_some, Option.bind_some]
          have n24 : n < 24 := by omega
          have ea : X3_add gP a b c d = some (upd gP.x0 n a, upd gP.y0 n b, upd gP.x1 n c, upd gP.y1 n d, iI ((n + 1 : Nat) : Int)) := by
            rw [X3_add, g5, if_pos (by rw [c_24, show iI 24 = iI ((24 : Nat) : Int) from rfl, iI_lt_n (by omega) (by omega)]; omega), zck_n n24 (by decide), zck_n n24 (by decide), zck_n n24 (by decide), zck_n n24 (by decide), cl_n (by omega), iI_succ]
          rw [ea, Option.bind_some, zck_n n24 (by decide), zck_n n24 (by decide), zck_n n24 (by decide), zck_n n24 (by decide), cl_n (by omega), iI_succ]
          refine ⟨_, _, _, _, _, _, _, _, rfl, rfl, ⟨(fun i => if i = n then a.toInt else G.X i, fun i => if i = n then b.toInt else G.Y i, fun i => if i = n then c.toInt - a.toInt else G.U i, fun i => if i = n then d.toInt - b.toInt else G.V i), n + 1, ?_, ?_, ?_, by omega, rfl, rfl, ?_⟩, ⟨_, _, _, _, _, tre_none gQ gT mK⟩, ⟨_, tld_none gE mB⟩, h4⟩
          · intro i
            dsimp only [tGe.X, tGe.Y, tGe.U, tGe.V]
            unfold inb at a1 a2 b1 b2
            by_cases hi : i = n
            · simp only [if_pos hi]
              omega
            · simp only [if_neg hi]
              exact g1 i
          · intro i
            show upd gP.x0 n a i = iI (if i = n then a.toInt else G.X i) ∧ upd gP.y0 n b i = iI (if i = n then b.toInt else G.Y i) ∧ upd gP.x1 n c i = iI ((if i = n then a.toInt else G.X i) + (if i = n then c.toInt - a.toInt else G.U i)) ∧ upd gP.y1 n d i = iI ((if i = n then b.toInt else G.Y i) + (if i = n then d.toInt - b.toInt else G.V i))
            unfold upd
            by_cases hi : i = n
            · simp only [if_pos hi]
              refine ⟨(iI_of a).symm, (iI_of b).symm, ?_, ?_⟩
              · rw [show a.toInt + (c.toInt - a.toInt) = c.toInt by omega, iI_of]
              · rw [show b.toInt + (d.toInt - b.toInt) = d.toInt by omega, iI_of]
            · simp only [if_neg hi]
              exact g2 i
          · intro i
            show upd mG.px n a i = iI (if i = n then a.toInt else G.X i) ∧ upd mG.py n b i = iI (if i = n then b.toInt else G.Y i) ∧ upd mG.dx n (c - a) i = iI (if i = n then c.toInt - a.toInt else G.U i) ∧ upd mG.dy n (d - b) i = iI (if i = n then d.toInt - b.toInt else G.V i)
            have sub : ∀ x y : Int32, x - y = iI (x.toInt - y.toInt) := fun x y => by rw [← iI_sub, iI_of, iI_of]
            unfold upd
            by_cases hi : i = n
            · simp only [if_pos hi]
              exact ⟨(iI_of a).symm, (iI_of b).symm, sub c a, sub d b⟩
            · simp only [if_neg hi]
              exact g3 i
          · intro i hi
            dsimp only [tGe.X, tGe.Y, tGe.U, tGe.V]
            by_cases hi : i = n
            · simp only [if_pos hi]
              intro q
              exact eq ⟨Int32.toInt_inj.mp (by omega), Int32.toInt_inj.mp (by omega)⟩
            · simp only [if_neg hi]
              exact g7 i (by omega)
      · rw [b3, b4, Option.bind_some, Option.bind_some, if_pos (show (0 : Int32) = 0 from rfl), if_neg (show ¬ (1 : Int32) = 0 by decide)] at bad ⊢
        refine bad ?_ rfl
        split <;> rfl
    · rw [a3, a4, Option.bind_some, Option.bind_some, if_pos (show (0 : Int32) = 0 from rfl), if_neg (show ¬ (1 : Int32) = 0 by decide)] at bad ⊢
      refine bad ?_ rfl
      split <;> rfl
/-! build -/
theorem rpM_whl {n : Nat} (hn : n ≤ 24) {mO : tmO} (hO : ∀ i, i < 24 → mO.orderOf i = iI (i : Int)) : True := trivial
theorem m_start {mG : tmG} {mO : tmO} {n : Nat} (hn : n ≤ 24) (hs : mG.pieces = iI (n : Int)) (N : Nat) (os : List Nat) (hos : os.length = n) (ho : ∀ i, i < n → mO.orderOf i = iI ((os.getD i 0 : Nat) : Int)) (mW : tmW) (mK : tmK) (mD : tmD) (mN : tmN) (v1 v2 : Int32) : ∀ (c fu i : Nat) (mR : tmR) (mS : tmS), i + c = n → mR.rMany = iI (i : Int) → c < fu →
    ∃ mS', X8_grow_b23 N mG mO fu mR mW mS mK mD mN v1 v2 (iI i) = X8_grow_b57 N mG mO N (pMs mR i ((os.drop i).map (fun o => ((o, 0, 1, 1, 1) : qP)))) mW mS' mK mD mN v1 v2
  | 0, fu, i, mR, mS, h, hr, hf => by
    obtain ⟨fu, rfl⟩ : ∃ f, fu = f + 1 := ⟨fu - 1, by omega⟩
    refine ⟨mS, ?_⟩
    rw [X8_grow_b23, hs, if_pos (by rw [iI_le_n (by omega) (by omega)]; omega), List.drop_of_length_le (by omega)]
    rfl
  | c + 1, fu, i, mR, mS, h, hr, hf => by
    obtain ⟨fu, rfl⟩ : ∃ f, fu = f + 1 := ⟨fu - 1, by omega⟩
    have hi : i < os.length := by omega
    obtain ⟨mS', e⟩ := m_start hn hs N os hos ho mW mK mD mN v1 v2 c fu (i + 1) (pM mR i (os[i], 0, 1, 1, 1)) (pS mS 0 (os[i], 0, 1, 1, 1)) (by omega) rfl (by omega)
    refine ⟨mS', ?_⟩
    have eo : mO.orderOf i = iI ((os[i] : Nat) : Int) := by rw [ho i (by omega), List.getD_eq_getElem?_getD, List.getElem?_eq_getElem hi]; rfl
    have ep := e_put mS (show 0 < 1400 by omega) os[i] 0 1 1 1
    have eb := e_back (mS := pS mS 0 (os[i], 0, 1, 1, 1)) (k := 0) hr (by omega) (by omega) (pS_at mS 0 (os[i], 0, 1, 1, 1))
    rw [X8_grow_b23, hs, if_neg (by rw [iI_le_n (by omega) (by omega)]; omega), zck_n (by omega) (by decide), cl_n (by omega), eo]
    rw [show (0 : Int32) = iI ((0 : Nat) : Int) from rfl, cl_0, cl_1, ep, Option.bind_some, eb, Option.bind_some, iI_succ, e, List.drop_eq_getElem_cons hi, List.map_cons]
    rfl
