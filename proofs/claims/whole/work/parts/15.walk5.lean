set_option maxHeartbeats 4000000 in
set_option maxRecDepth 100000 in
theorem c_X8_thrown (l : Launch) (D : va_G) (cI cJ cZ : ClassId) (h : Nat → Nat) (mG : tmG) (mH : tmH) (mR : tmR) (mW : tmW) (mS : tmS) (mK : tmK) (mD : tmD) (mN : tmN) (mO : tmO) (mB : tmB) (mM : tmM) (mF : tmF)  (u : Int32) (hf : X8_thrown mH = some u) (sz : Nat) : Met l yX8_thrown (Cond.code yX8_thrown cX8_thrown 1 (some .int) :: tb_L) ({ frames := 0, cells := 0, slots := 0, locals := 0 } : Room) (zPre D (zty cI cJ cZ) (zWM cI cJ cZ h mG mH mR mW mS mK mD mN mO mB mM mF) sz [.ref (h 0)]) (zQi D (va_A (zWM cI cJ cZ h mG mH mR mW mS mK mD mN mO mB mM mF) sz) (zWM cI cJ cZ h mG mH mR mW mS mK mD mN mO mB mM mF) (u)) 0 0 (va_A (zWM cI cJ cZ h mG mH mR mW mS mK mD mN mO mB mM mF) sz) := by
  refine zMet (Qc := fun A => zQi D A (zWM cI cJ cZ h mG mH mR mW mS mK mD mN mO mB mM mF) (u)) (by decide) rfl (Nat.le_of_ble_eq_true rfl) ?_
  intro p e s m args below meth c A ls hC _ hP hD hS hl
  replace hl : lv_has ls 1 [(0, .ref (h 0))] := hl
  obtain ⟨hx, hb, hml, hown, hts, hK, hr, hlocks, hA⟩ := id hC
  unfold X8_thrown at hf
  obtain ⟨H, hH⟩ : ∃ H, H = s.heap := ⟨_, rfl⟩
  rw [← hH] at hP
  replace hS : va_S A s.heap H [] := by rw [hH]; exact hS
  show W p l e _ s m args below meth c s.heap [] 0 0 _ _
  rw [← hH]
  clear hH
  obtain ⟨locs, hlo⟩ : ∃ x : List Loc, x = [] := ⟨_, rfl⟩
  rw [← hlo] at hS ⊢
  clear hlo
  refine lv_aload_n hx hb dX8_thrown_0 rfl (lv_at hl 0 rfl) ?_
  refine va_get (D := D) (ci := 8) (v := .int (tmH.thrown mH)) (C := RX8) (T := TX8) (N := 56) hx hb hts tb_wsX80 hown hK.1 hP 0 rfl rfl 5 (by decide) (hts _ tb_8_3) (fun _ h9 => h9) rfl dX8_thrown_1 ?_
  have hu := Option.some.inj hf
  subst hu
  exact z_iret hC hP hD hS dX8_thrown_4
set_option maxHeartbeats 4000000 in
set_option maxRecDepth 100000 in
theorem c_X8_isPlace (l : Launch) (D : va_G) (cI cJ cZ : ClassId) (h : Nat → Nat) (mG : tmG) (mH : tmH) (mR : tmR) (mW : tmW) (mS : tmS) (mK : tmK) (mD : tmD) (mN : tmN) (mO : tmO) (mB : tmB) (mM : tmM) (mF : tmF) (a0 : Int32) (a1 : Int32) (u : Int32) (hf : X8_isPlace a0 a1 = some u) (sz : Nat) : Met l yX8_isPlace (Cond.code yX8_isPlace cX8_isPlace 2 (some .boolean) :: tb_L) ({ frames := 0, cells := 0, slots := 0, locals := 0 } : Room) (zPre D (zty cI cJ cZ) (zWM cI cJ cZ h mG mH mR mW mS mK mD mN mO mB mM mF) sz [.int a0, .int a1]) (zQi D (va_A (zWM cI cJ cZ h mG mH mR mW mS mK mD mN mO mB mM mF) sz) (zWM cI cJ cZ h mG mH mR mW mS mK mD mN mO mB mM mF) (u)) 0 0 (va_A (zWM cI cJ cZ h mG mH mR mW mS mK mD mN mO mB mM mF) sz) := by
  refine zMet (Qc := fun A => zQi D A (zWM cI cJ cZ h mG mH mR mW mS mK mD mN mO mB mM mF) (u)) (by decide) rfl (Nat.le_of_ble_eq_true rfl) ?_
  intro p e s m args below meth c A ls hC _ hP hD hS hl
  replace hl : lv_has ls 2 [(0, .int a0), (1, .int a1)] := hl
  obtain ⟨hx, hb, hml, hown, hts, hK, hr, hlocks, hA⟩ := id hC
  unfold X8_isPlace at hf
  obtain ⟨H, hH⟩ : ∃ H, H = s.heap := ⟨_, rfl⟩
  rw [← hH] at hP
  replace hS : va_S A s.heap H [] := by rw [hH]; exact hS
  show W p l e _ s m args below meth c s.heap [] 0 0 _ _
  rw [← hH]
  clear hH
  obtain ⟨locs, hlo⟩ : ∃ x : List Loc, x = [] := ⟨_, rfl⟩
  rw [← hlo] at hS ⊢
  clear hlo
  refine lv_iload_n hx hb dX8_isPlace_0 rfl (lv_at hl 0 rfl) ?_
  refine lv_sipush (v := -1000) hx hb dX8_isPlace_1 (by decide) ?_
  refine lv_icmp_lt (tgt := 32) hx hb dX8_isPlace_4 (by decide) (fun c1 => ?_) (fun c1 => ?_)
  · replace hf := zif_t hf c1
    refine lv_iconst (v := 0) hx hb dX8_isPlace_32 (by decide) ?_
    obtain ⟨h2, hf⟩ := zcb_s hf
    have hu := Option.some.inj hf
    subst hu
    exact z_zret hC h2 hP hD hS dX8_isPlace_33
  · replace hf := zif_f hf c1
    refine lv_iload_n hx hb dX8_isPlace_7 rfl (lv_at hl 0 rfl) ?_
    refine lv_sipush (v := 1000) hx hb dX8_isPlace_8 (by decide) ?_
    refine lv_icmp_gt (tgt := 32) hx hb dX8_isPlace_11 (by decide) (fun c3 => ?_) (fun c3 => ?_)
    · replace hf := zif_t hf c3
      refine lv_iconst (v := 0) hx hb dX8_isPlace_32 (by decide) ?_
      obtain ⟨h4, hf⟩ := zcb_s hf
      have hu := Option.some.inj hf
      subst hu
      exact z_zret hC h4 hP hD hS dX8_isPlace_33
    · replace hf := zif_f hf c3
      refine lv_iload_n hx hb dX8_isPlace_14 rfl (lv_at hl 1 rfl) ?_
      refine lv_sipush (v := -1000) hx hb dX8_isPlace_15 (by decide) ?_
      refine lv_icmp_lt (tgt := 32) hx hb dX8_isPlace_18 (by decide) (fun c5 => ?_) (fun c5 => ?_)
      · replace hf := zif_t hf c5
        refine lv_iconst (v := 0) hx hb dX8_isPlace_32 (by decide) ?_
        obtain ⟨h6, hf⟩ := zcb_s hf
        have hu := Option.some.inj hf
        subst hu
        exact z_zret hC h6 hP hD hS dX8_isPlace_33
      · replace hf := zif_f hf c5
        refine lv_iload_n hx hb dX8_isPlace_21 rfl (lv_at hl 1 rfl) ?_
        refine lv_sipush (v := 1000) hx hb dX8_isPlace_22 (by decide) ?_
        refine lv_icmp_gt (tgt := 32) hx hb dX8_isPlace_25 (by decide) (fun c7 => ?_) (fun c7 => ?_)
        · replace hf := zif_t hf c7
          refine lv_iconst (v := 0) hx hb dX8_isPlace_32 (by decide) ?_
          obtain ⟨h8, hf⟩ := zcb_s hf
          have hu := Option.some.inj hf
          subst hu
          exact z_zret hC h8 hP hD hS dX8_isPlace_33
        · replace hf := zif_f hf c7
          refine lv_iconst (v := 1) hx hb dX8_isPlace_28 (by decide) ?_
          refine lv_goto (tgt := 33) hx hb dX8_isPlace_29 (by decide) ?_
          obtain ⟨h9, hf⟩ := zcb_s hf
          have hu := Option.some.inj hf
          subst hu
          exact z_zret hC h9 hP hD hS dX8_isPlace_33
set_option maxHeartbeats 4000000 in
set_option maxRecDepth 100000 in
theorem c_X8_noTree (l : Launch) (D : va_G) (cI cJ cZ : ClassId) (h : Nat → Nat) (mG : tmG) (mH : tmH) (mR : tmR) (mW : tmW) (mS : tmS) (mK : tmK) (mD : tmD) (mN : tmN) (mO : tmO) (mB : tmB) (mM : tmM) (mF : tmF)  (u : tmK × tmB) (hf : X8_noTree mK mB = some u) (sz : Nat) : Met l yX8_noTree (Cond.code yX8_noTree cX8_noTree 1 none :: tb_L) ({ frames := 0, cells := 0, slots := 0, locals := 0 } : Room) (zPre D (zty cI cJ cZ) (zWM cI cJ cZ h mG mH mR mW mS mK mD mN mO mB mM mF) sz [.ref (h 0)]) (zQv D (va_A (zWM cI cJ cZ h mG mH mR mW mS mK mD mN mO mB mM mF) sz) (zWM cI cJ cZ h mG mH mR mW mS u.1 mD mN mO u.2 mM mF)) 0 0 (va_A (zWM cI cJ cZ h mG mH mR mW mS mK mD mN mO mB mM mF) sz) := by
  refine zMet (Qc := fun A => zQv D A (zWM cI cJ cZ h mG mH mR mW mS u.1 mD mN mO u.2 mM mF)) (by decide) rfl (Nat.le_of_ble_eq_true rfl) ?_
  intro p e s m args below meth c A ls hC _ hP hD hS hl
  replace hl : lv_has ls 1 [(0, .ref (h 0))] := hl
  obtain ⟨hx, hb, hml, hown, hts, hK, hr, hlocks, hA⟩ := id hC
  unfold X8_noTree at hf
  obtain ⟨H, hH⟩ : ∃ H, H = s.heap := ⟨_, rfl⟩
  rw [← hH] at hP
  replace hS : va_S A s.heap H [] := by rw [hH]; exact hS
  show W p l e _ s m args below meth c s.heap [] 0 0 _ _
  rw [← hH]
  clear hH
  obtain ⟨locs, hlo⟩ : ∃ x : List Loc, x = [] := ⟨_, rfl⟩
  rw [← hlo] at hS ⊢
  clear hlo
  refine lv_aload_n hx hb dX8_noTree_0 rfl (lv_at hl 0 rfl) ?_
  refine lv_iconst (v := 0) hx hb dX8_noTree_1 (by decide) ?_
  refine va_put (D := D) (ci := 8) (v := .int (0 : Int32)) (ty := .boolean) (C := RX8) (T := TX8) (N := 56) hx hb hts tb_wsX80 tyX8 tyX8_ok nmX8 hown hK.1 hP hD hS 0 rfl rfl 21 (by decide) (hts _ tb_8_12) (fun _ h9 => h9) rfl (by decide +kernel) rfl rfl (Nat.le_of_ble_eq_true rfl) dX8_noTree_2 (fun H locs hP hD hS => ?_)
  replace hP : va_P D vwCl (zWM cI cJ cZ h mG mH mR mW mS (tmK.s_isTree mK (0 : Int32)) mD mN mO mB mM mF) H := hP
  replace hD : va_D A (zWM cI cJ cZ h mG mH mR mW mS (tmK.s_isTree mK (0 : Int32)) mD mN mO mB mM mF) := hD
  refine lv_aload_n hx hb dX8_noTree_5 rfl (lv_at hl 0 rfl) ?_
  refine lv_iconst (v := 0) hx hb dX8_noTree_6 (by decide) ?_
  refine va_put (D := D) (ci := 8) (v := .int (0 : Int32)) (ty := .int) (C := RX8) (T := TX8) (N := 56) hx hb hts tb_wsX80 tyX8 tyX8_ok nmX8 hown hK.1 hP hD hS 0 rfl rfl 22 (by decide) (hts _ tb_8_13) (fun _ h9 => h9) rfl (by decide +kernel) rfl rfl (Nat.le_of_ble_eq_true rfl) dX8_noTree_7 (fun H locs hP hD hS => ?_)
  replace hP : va_P D vwCl (zWM cI cJ cZ h mG mH mR mW mS (tmK.s_knots (tmK.s_isTree mK (0 : Int32)) (0 : Int32)) mD mN mO mB mM mF) H := hP
  replace hD : va_D A (zWM cI cJ cZ h mG mH mR mW mS (tmK.s_knots (tmK.s_isTree mK (0 : Int32)) (0 : Int32)) mD mN mO mB mM mF) := hD
  refine lv_aload_n hx hb dX8_noTree_10 rfl (lv_at hl 0 rfl) ?_
  refine lv_iconst (v := 0) hx hb dX8_noTree_11 (by decide) ?_
  refine va_put (D := D) (ci := 8) (v := .int (0 : Int32)) (ty := .int) (C := RX8) (T := TX8) (N := 56) hx hb hts tb_wsX80 tyX8 tyX8_ok nmX8 hown hK.1 hP hD hS 0 rfl rfl 23 (by decide) (hts _ tb_8_14) (fun _ h9 => h9) rfl (by decide +kernel) rfl rfl (Nat.le_of_ble_eq_true rfl) dX8_noTree_12 (fun H locs hP hD hS => ?_)
  replace hP : va_P D vwCl (zWM cI cJ cZ h mG mH mR mW mS (tmK.s_leaves (tmK.s_knots (tmK.s_isTree mK (0 : Int32)) (0 : Int32)) (0 : Int32)) mD mN mO mB mM mF) H := hP
  replace hD : va_D A (zWM cI cJ cZ h mG mH mR mW mS (tmK.s_leaves (tmK.s_knots (tmK.s_isTree mK (0 : Int32)) (0 : Int32)) (0 : Int32)) mD mN mO mB mM mF) := hD
  refine lv_aload_n hx hb dX8_noTree_15 rfl (lv_at hl 0 rfl) ?_
  refine lv_iconst (v := 0) hx hb dX8_noTree_16 (by decide) ?_
  refine va_put (D := D) (ci := 8) (v := .int (0 : Int32)) (ty := .int) (C := RX8) (T := TX8) (N := 56) hx hb hts tb_wsX80 tyX8 tyX8_ok nmX8 hown hK.1 hP hD hS 0 rfl rfl 24 (by decide) (hts _ tb_8_15) (fun _ h9 => h9) rfl (by decide +kernel) rfl rfl (Nat.le_of_ble_eq_true rfl) dX8_noTree_17 (fun H locs hP hD hS => ?_)
  replace hP : va_P D vwCl (zWM cI cJ cZ h mG mH mR mW mS (tmK.s_parts (tmK.s_leaves (tmK.s_knots (tmK.s_isTree mK (0 : Int32)) (0 : Int32)) (0 : Int32)) (0 : Int32)) mD mN mO mB mM mF) H := hP
  replace hD : va_D A (zWM cI cJ cZ h mG mH mR mW mS (tmK.s_parts (tmK.s_leaves (tmK.s_knots (tmK.s_isTree mK (0 : Int32)) (0 : Int32)) (0 : Int32)) (0 : Int32)) mD mN mO mB mM mF) := hD
  refine lv_aload_n hx hb dX8_noTree_20 rfl (lv_at hl 0 rfl) ?_
  refine lv_iconst (v := 0) hx hb dX8_noTree_21 (by decide) ?_
  refine va_put (D := D) (ci := 8) (v := .int (0 : Int32)) (ty := .int) (C := RX8) (T := TX8) (N := 56) hx hb hts tb_wsX80 tyX8 tyX8_ok nmX8 hown hK.1 hP hD hS 0 rfl rfl 42 (by decide) (hts _ tb_8_16) (fun _ h9 => h9) rfl (by decide +kernel) rfl rfl (Nat.le_of_ble_eq_true rfl) dX8_noTree_22 (fun H locs hP hD hS => ?_)
  replace hP : va_P D vwCl (zWM cI cJ cZ h mG mH mR mW mS (tmK.s_parts (tmK.s_leaves (tmK.s_knots (tmK.s_isTree mK (0 : Int32)) (0 : Int32)) (0 : Int32)) (0 : Int32)) mD mN mO (tmB.s_toldMany mB (0 : Int32)) mM mF) H := hP
  replace hD : va_D A (zWM cI cJ cZ h mG mH mR mW mS (tmK.s_parts (tmK.s_leaves (tmK.s_knots (tmK.s_isTree mK (0 : Int32)) (0 : Int32)) (0 : Int32)) (0 : Int32)) mD mN mO (tmB.s_toldMany mB (0 : Int32)) mM mF) := hD
  have hu := Option.some.inj hf
  subst hu
  exact z_vret hC hP hD hS dX8_noTree_25
set_option maxHeartbeats 4000000 in
set_option maxRecDepth 100000 in
theorem t_X8_piece_b44 {p : Program} {l : Launch} {e : Env} {s : State} {m : MethodId} {args : Array Value} {below : List Frame} {meth : Method} {c : Code} {A : Nat → Prop} {D : va_G} {cI cJ cZ : ClassId} {h : Nat → Nat} (hC : zCx p s m args meth c A D (zty cI cJ cZ) cX8_piece RX8 5 (some .int)) (mR : tmR) (mW : tmW) (mS : tmS) (mD : tmD) (mN : tmN) (mO : tmO) (mM : tmM) (mF : tmF) (u : Int32 × tmG × tmH × tmK × tmB) : ∀ (mG : tmG) (mH : tmH) (mK : tmK) (mB : tmB) (v1 : Int32) (v2 : Int32) (v3 : Int32) (v4 : Int32) (H : Heap) (locs : List Loc) (ls : Array Slot), va_P D vwCl (zWM cI cJ cZ h mG mH mR mW mS mK mD mN mO mB mM mF) H → va_D A (zWM cI cJ cZ h mG mH mR mW mS mK mD mN mO mB mM mF) → va_S A s.heap H locs → lv_has ls 5 [(0, .ref (h 0)), (1, .int v1), (2, .int v2), (3, .int v3), (4, .int v4)] → X8_piece_b44 mG mH mK mB v1 v2 v3 v4 = some u → W p l e ({ frames := 1, cells := 0, slots := 0, locals := 21 } : Room) s m args below meth c H locs 0 0 (MQ below (zQi D A (zWM cI cJ cZ h u.2.1 u.2.2.1 mR mW mS u.2.2.2.1 mD mN mO u.2.2.2.2 mM mF) (u.1)) args s 0 0 A) (F0 m 44 ls []) := by
  intro mG mH mK mB v1 v2 v3 v4 H locs ls hP hD hS hl hf
  obtain ⟨hx, hb, hml, hown, hts, hK, hr, hlocks, hA⟩ := id hC
  unfold X8_piece_b44 at hf
  refine lv_aload_n hx hb dX8_piece_44 rfl (lv_at hl 0 rfl) ?_
  refine va_get (D := D) (ci := 8) (v := .ref (h 1)) (C := RX8) (T := TX8) (N := 56) hx hb hts tb_wsX80 hown hK.1 hP 0 rfl rfl 1 (by decide) (hts _ tb_5_6) (fun _ h9 => h9) rfl dX8_piece_45 ?_
  refine lv_aload_n hx hb dX8_piece_48 rfl (lv_at hl 0 rfl) ?_
  refine va_get (D := D) (ci := 8) (v := .int (tmG.pieces mG)) (C := RX8) (T := TX8) (N := 56) hx hb hts tb_wsX80 hown hK.1 hP 0 rfl rfl 0 (by decide) (hts _ tb_8_4) (fun _ h9 => h9) rfl dX8_piece_49 ?_
  refine lv_iload_n hx hb dX8_piece_52 rfl (lv_at hl 1 rfl) ?_
  obtain ⟨h1, hf⟩ := zck_s hf
  refine va_iast hx hb hK.1 hP hD hS 1 0 rfl rfl h1 dX8_piece_53 (fun H locs hP hD hS => ?_)
  replace hP : va_P D vwCl (zWM cI cJ cZ h (tmG.s_px mG (upd (tmG.px mG) (tmG.pieces mG).toNatClampNeg v1)) mH mR mW mS mK mD mN mO mB mM mF) H := hP
  replace hD : va_D A (zWM cI cJ cZ h (tmG.s_px mG (upd (tmG.px mG) (tmG.pieces mG).toNatClampNeg v1)) mH mR mW mS mK mD mN mO mB mM mF) := hD
  refine lv_aload_n hx hb dX8_piece_54 rfl (lv_at hl 0 rfl) ?_
  refine va_get (D := D) (ci := 8) (v := .ref (h 2)) (C := RX8) (T := TX8) (N := 56) hx hb hts tb_wsX80 hown hK.1 hP 0 rfl rfl 2 (by decide) (hts _ tb_5_7) (fun _ h9 => h9) rfl dX8_piece_55 ?_
  refine lv_aload_n hx hb dX8_piece_58 rfl (lv_at hl 0 rfl) ?_
  refine va_get (D := D) (ci := 8) (v := .int (tmG.pieces mG)) (C := RX8) (T := TX8) (N := 56) hx hb hts tb_wsX80 hown hK.1 hP 0 rfl rfl 0 (by decide) (hts _ tb_8_4) (fun _ h9 => h9) rfl dX8_piece_59 ?_
  refine lv_iload_n hx hb dX8_piece_62 rfl (lv_at hl 2 rfl) ?_
  obtain ⟨h2, hf⟩ := zck_s hf
  refine va_iast hx hb hK.1 hP hD hS 2 0 rfl rfl h2 dX8_piece_63 (fun H locs hP hD hS => ?_)
  replace hP : va_P D vwCl (zWM cI cJ cZ h (tmG.s_py (tmG.s_px mG (upd (tmG.px mG) (tmG.pieces mG).toNatClampNeg v1)) (upd (tmG.py mG) (tmG.pieces mG).toNatClampNeg v2)) mH mR mW mS mK mD mN mO mB mM mF) H := hP
  replace hD : va_D A (zWM cI cJ cZ h (tmG.s_py (tmG.s_px mG (upd (tmG.px mG) (tmG.pieces mG).toNatClampNeg v1)) (upd (tmG.py mG) (tmG.pieces mG).toNatClampNeg v2)) mH mR mW mS mK mD mN mO mB mM mF) := hD
  refine lv_aload_n hx hb dX8_piece_64 rfl (lv_at hl 0 rfl) ?_
  refine va_get (D := D) (ci := 8) (v := .ref (h 3)) (C := RX8) (T := TX8) (N := 56) hx hb hts tb_wsX80 hown hK.1 hP 0 rfl rfl 3 (by decide) (hts _ tb_5_8) (fun _ h9 => h9) rfl dX8_piece_65 ?_
  refine lv_aload_n hx hb dX8_piece_68 rfl (lv_at hl 0 rfl) ?_
  refine va_get (D := D) (ci := 8) (v := .int (tmG.pieces mG)) (C := RX8) (T := TX8) (N := 56) hx hb hts tb_wsX80 hown hK.1 hP 0 rfl rfl 0 (by decide) (hts _ tb_8_4) (fun _ h9 => h9) rfl dX8_piece_69 ?_
  refine lv_iload_n hx hb dX8_piece_72 rfl (lv_at hl 3 rfl) ?_
  refine lv_iload_n hx hb dX8_piece_73 rfl (lv_at hl 1 rfl) ?_
  refine lv_isub hx hb dX8_piece_74 ?_
  obtain ⟨h3, hf⟩ := zck_s hf
  refine va_iast hx hb hK.1 hP hD hS 3 0 rfl rfl h3 dX8_piece_75 (fun H locs hP hD hS => ?_)
  replace hP : va_P D vwCl (zWM cI cJ cZ h (tmG.s_dx (tmG.s_py (tmG.s_px mG (upd (tmG.px mG) (tmG.pieces mG).toNatClampNeg v1)) (upd (tmG.py mG) (tmG.pieces mG).toNatClampNeg v2)) (upd (tmG.dx mG) (tmG.pieces mG).toNatClampNeg (v3 - v1))) mH mR mW mS mK mD mN mO mB mM mF) H := hP
  replace hD : va_D A (zWM cI cJ cZ h (tmG.s_dx (tmG.s_py (tmG.s_px mG (upd (tmG.px mG) (tmG.pieces mG).toNatClampNeg v1)) (upd (tmG.py mG) (tmG.pieces mG).toNatClampNeg v2)) (upd (tmG.dx mG) (tmG.pieces mG).toNatClampNeg (v3 - v1))) mH mR mW mS mK mD mN mO mB mM mF) := hD
  refine lv_aload_n hx hb dX8_piece_76 rfl (lv_at hl 0 rfl) ?_
  refine va_get (D := D) (ci := 8) (v := .ref (h 4)) (C := RX8) (T := TX8) (N := 56) hx hb hts tb_wsX80 hown hK.1 hP 0 rfl rfl 4 (by decide) (hts _ tb_5_9) (fun _ h9 => h9) rfl dX8_piece_77 ?_
  refine lv_aload_n hx hb dX8_piece_80 rfl (lv_at hl 0 rfl) ?_
  refine va_get (D := D) (ci := 8) (v := .int (tmG.pieces mG)) (C := RX8) (T := TX8) (N := 56) hx hb hts tb_wsX80 hown hK.1 hP 0 rfl rfl 0 (by decide) (hts _ tb_8_4) (fun _ h9 => h9) rfl dX8_piece_81 ?_
  refine lv_iload hx hb dX8_piece_84 (lv_at hl 4 rfl) ?_
  refine lv_iload_n hx hb dX8_piece_86 rfl (lv_at hl 2 rfl) ?_
  refine lv_isub hx hb dX8_piece_87 ?_
  obtain ⟨h4, hf⟩ := zck_s hf
  refine va_iast hx hb hK.1 hP hD hS 4 0 rfl rfl h4 dX8_piece_88 (fun H locs hP hD hS => ?_)
  replace hP : va_P D vwCl (zWM cI cJ cZ h (tmG.s_dy (tmG.s_dx (tmG.s_py (tmG.s_px mG (upd (tmG.px mG) (tmG.pieces mG).toNatClampNeg v1)) (upd (tmG.py mG) (tmG.pieces mG).toNatClampNeg v2)) (upd (tmG.dx mG) (tmG.pieces mG).toNatClampNeg (v3 - v1))) (upd (tmG.dy mG) (tmG.pieces mG).toNatClampNeg (v4 - v2))) mH mR mW mS mK mD mN mO mB mM mF) H := hP
  replace hD : va_D A (zWM cI cJ cZ h (tmG.s_dy (tmG.s_dx (tmG.s_py (tmG.s_px mG (upd (tmG.px mG) (tmG.pieces mG).toNatClampNeg v1)) (upd (tmG.py mG) (tmG.pieces mG).toNatClampNeg v2)) (upd (tmG.dx mG) (tmG.pieces mG).toNatClampNeg (v3 - v1))) (upd (tmG.dy mG) (tmG.pieces mG).toNatClampNeg (v4 - v2))) mH mR mW mS mK mD mN mO mB mM mF) := hD
  refine lv_aload_n hx hb dX8_piece_89 rfl (lv_at hl 0 rfl) ?_
  refine lv_dup hx hb dX8_piece_90 rfl ?_
  refine va_get (D := D) (ci := 8) (v := .int (tmG.pieces mG)) (C := RX8) (T := TX8) (N := 56) hx hb hts tb_wsX80 hown hK.1 hP 0 rfl rfl 0 (by decide) (hts _ tb_8_4) (fun _ h9 => h9) rfl dX8_piece_91 ?_
  refine lv_iconst (v := 1) hx hb dX8_piece_94 (by decide) ?_
  refine lv_iadd hx hb dX8_piece_95 ?_
  refine va_put (D := D) (ci := 8) (v := .int ((tmG.pieces mG) + (1 : Int32))) (ty := .int) (C := RX8) (T := TX8) (N := 56) hx hb hts tb_wsX80 tyX8 tyX8_ok nmX8 hown hK.1 hP hD hS 0 rfl rfl 0 (by decide) (hts _ tb_8_4) (fun _ h9 => h9) rfl (by decide +kernel) rfl rfl (Nat.le_of_ble_eq_true rfl) dX8_piece_96 (fun H locs hP hD hS => ?_)
  replace hP : va_P D vwCl (zWM cI cJ cZ h (tmG.s_dy (tmG.s_dx (tmG.s_py (tmG.s_px (tmG.s_pieces mG ((tmG.pieces mG) + (1 : Int32))) (upd (tmG.px mG) (tmG.pieces mG).toNatClampNeg v1)) (upd (tmG.py mG) (tmG.pieces mG).toNatClampNeg v2)) (upd (tmG.dx mG) (tmG.pieces mG).toNatClampNeg (v3 - v1))) (upd (tmG.dy mG) (tmG.pieces mG).toNatClampNeg (v4 - v2))) mH mR mW mS mK mD mN mO mB mM mF) H := hP
  replace hD : va_D A (zWM cI cJ cZ h (tmG.s_dy (tmG.s_dx (tmG.s_py (tmG.s_px (tmG.s_pieces mG ((tmG.pieces mG) + (1 : Int32))) (upd (tmG.px mG) (tmG.pieces mG).toNatClampNeg v1)) (upd (tmG.py mG) (tmG.pieces mG).toNatClampNeg v2)) (upd (tmG.dx mG) (tmG.pieces mG).toNatClampNeg (v3 - v1))) (upd (tmG.dy mG) (tmG.pieces mG).toNatClampNeg (v4 - v2))) mH mR mW mS mK mD mN mO mB mM mF) := hD
  refine lv_aload_n hx hb dX8_piece_99 rfl (lv_at hl 0 rfl) ?_
  obtain ⟨u5, hu5, hf⟩ := zbd hf
  refine zthen_v hA hD hS (zrunV (As := []) (rest := []) hC hP hD 0 rfl rfl (c_X8_noTree l D cI cJ cZ h  (tmG.s_dy (tmG.s_dx (tmG.s_py (tmG.s_px (tmG.s_pieces mG ((tmG.pieces mG) + (1 : Int32))) (upd (tmG.px mG) (tmG.pieces mG).toNatClampNeg v1)) (upd (tmG.py mG) (tmG.pieces mG).toNatClampNeg v2)) (upd (tmG.dx mG) (tmG.pieces mG).toNatClampNeg (v3 - v1))) (upd (tmG.dy mG) (tmG.pieces mG).toNatClampNeg (v4 - v2))) mH mR mW mS mK mD mN mO mB mM mF  u5 hu5 H.size) kRX8_134 rfl rfl ⟨by decide, by decide⟩ rfl hl.1 rfl (Nat.le_of_ble_eq_true rfl) dX8_piece_100) (fun H locs hP hD hS => ?_)
  refine lv_aload_n hx hb dX8_piece_103 rfl (lv_at hl 0 rfl) ?_
  refine va_get (D := D) (ci := 8) (v := .int ((tmG.pieces mG) + (1 : Int32))) (C := RX8) (T := TX8) (N := 56) hx hb hts tb_wsX80 hown hK.1 hP 0 rfl rfl 0 (by decide) (hts _ tb_8_4) (fun _ h9 => h9) rfl dX8_piece_104 ?_
  refine lv_iconst (v := 1) hx hb dX8_piece_107 (by decide) ?_
  refine lv_isub hx hb dX8_piece_108 ?_
  have hu := Option.some.inj hf
  subst hu
  exact z_iret hC hP hD hS dX8_piece_109
set_option maxHeartbeats 4000000 in
set_option maxRecDepth 100000 in
theorem c_X8_piece (l : Launch) (D : va_G) (cI cJ cZ : ClassId) (h : Nat → Nat) (mG : tmG) (mH : tmH) (mR : tmR) (mW : tmW) (mS : tmS) (mK : tmK) (mD : tmD) (mN : tmN) (mO : tmO) (mB : tmB) (mM : tmM) (mF : tmF) (a1 : Int32) (a2 : Int32) (a3 : Int32) (a4 : Int32) (u : Int32 × tmG × tmH × tmK × tmB) (hf : X8_piece mG mH mK mB a1 a2 a3 a4 = some u) (sz : Nat) : Met l yX8_piece (Cond.code yX8_piece cX8_piece 5 (some .int) :: tb_L) ({ frames := 1, cells := 0, slots := 0, locals := 21 } : Room) (zPre D (zty cI cJ cZ) (zWM cI cJ cZ h mG mH mR mW mS mK mD mN mO mB mM mF) sz [.ref (h 0), .int a1, .int a2, .int a3, .int a4]) (zQi D (va_A (zWM cI cJ cZ h mG mH mR mW mS mK mD mN mO mB mM mF) sz) (zWM cI cJ cZ h u.2.1 u.2.2.1 mR mW mS u.2.2.2.1 mD mN mO u.2.2.2.2 mM mF) (u.1)) 0 0 (va_A (zWM cI cJ cZ h mG mH mR mW mS mK mD mN mO mB mM mF) sz) := by
  refine zMet (Qc := fun A => zQi D A (zWM cI cJ cZ h u.2.1 u.2.2.1 mR mW mS u.2.2.2.1 mD mN mO u.2.2.2.2 mM mF) (u.1)) (by decide) rfl (Nat.le_of_ble_eq_true rfl) ?_
  intro p e s m args below meth c A ls hC _ hP hD hS hl
  replace hl : lv_has ls 5 [(0, .ref (h 0)), (1, .int a1), (2, .int a2), (3, .int a3), (4, .int a4)] := hl
  obtain ⟨hx, hb, hml, hown, hts, hK, hr, hlocks, hA⟩ := id hC
  unfold X8_piece at hf
  obtain ⟨H, hH⟩ : ∃ H, H = s.heap := ⟨_, rfl⟩
  rw [← hH] at hP
  replace hS : va_S A s.heap H [] := by rw [hH]; exact hS
  show W p l e _ s m args below meth c s.heap [] 0 0 _ _
  rw [← hH]
  clear hH
  obtain ⟨locs, hlo⟩ : ∃ x : List Loc, x = [] := ⟨_, rfl⟩
  rw [← hlo] at hS ⊢
  clear hlo
  refine lv_aload_n hx hb dX8_piece_0 rfl (lv_at hl 0 rfl) ?_
  refine lv_iconst (v := 0) hx hb dX8_piece_1 (by decide) ?_
  refine va_put (D := D) (ci := 8) (v := .int (0 : Int32)) (ty := .int) (C := RX8) (T := TX8) (N := 56) hx hb hts tb_wsX80 tyX8 tyX8_ok nmX8 hown hK.1 hP hD hS 0 rfl rfl 5 (by decide) (hts _ tb_8_3) (fun _ h9 => h9) rfl (by decide +kernel) rfl rfl (Nat.le_of_ble_eq_true rfl) dX8_piece_2 (fun H locs hP hD hS => ?_)
  replace hP : va_P D vwCl (zWM cI cJ cZ h mG (tmH.s_thrown mH (0 : Int32)) mR mW mS mK mD mN mO mB mM mF) H := hP
  replace hD : va_D A (zWM cI cJ cZ h mG (tmH.s_thrown mH (0 : Int32)) mR mW mS mK mD mN mO mB mM mF) := hD
  refine lv_aload_n hx hb dX8_piece_5 rfl (lv_at hl 0 rfl) ?_
  refine va_get (D := D) (ci := 8) (v := .int (tmG.pieces mG)) (C := RX8) (T := TX8) (N := 56) hx hb hts tb_wsX80 hown hK.1 hP 0 rfl rfl 0 (by decide) (hts _ tb_8_4) (fun _ h9 => h9) rfl dX8_piece_6 ?_
  refine lv_bipush (v := 24) hx hb dX8_piece_9 (by decide) ?_
  refine lv_icmp_eq (tgt := 42) hx hb dX8_piece_11 (by decide) (fun c6 => ?_) (fun c6 => ?_)
  · replace hf := zif_t hf c6
    refine lv_iconst (v := -1) hx hb dX8_piece_42 (by decide) ?_
    have hu := Option.some.inj hf
    subst hu
    exact z_iret hC hP hD hS dX8_piece_43
  · replace hf := zif_f hf c6
    refine lv_iload_n hx hb dX8_piece_14 rfl (lv_at hl 1 rfl) ?_
    refine lv_iload_n hx hb dX8_piece_15 rfl (lv_at hl 2 rfl) ?_
    obtain ⟨u7, hu7, hf⟩ := zbd hf
    refine zthen_i hA hD hS (zrunS (As := [.int a1, .int a2]) (rest := []) hC hP hD (c_X8_isPlace l D cI cJ cZ h  mG (tmH.s_thrown mH (0 : Int32)) mR mW mS mK mD mN mO mB mM mF a1 a2 u7 hu7 H.size) kRX8_130 rfl rfl ⟨by decide, by decide⟩ rfl hl.1 rfl (Nat.le_of_ble_eq_true rfl) dX8_piece_16) (fun H locs hP hD hS => ?_)
    refine lv_if_eq (tgt := 42) hx hb dX8_piece_19 (by decide) (fun c8 => ?_) (fun c8 => ?_)
    · replace hf := zif_t hf c8
      refine lv_iconst (v := -1) hx hb dX8_piece_42 (by decide) ?_
      have hu := Option.some.inj hf
      subst hu
      exact z_iret hC hP hD hS dX8_piece_43
    · replace hf := zif_f hf c8
      refine lv_iload_n hx hb dX8_piece_22 rfl (lv_at hl 3 rfl) ?_
      refine lv_iload hx hb dX8_piece_23 (lv_at hl 4 rfl) ?_
      obtain ⟨u9, hu9, hf⟩ := zbd hf
      refine zthen_i hA hD hS (zrunS (As := [.int a3, .int a4]) (rest := []) hC hP hD (c_X8_isPlace l D cI cJ cZ h  mG (tmH.s_thrown mH (0 : Int32)) mR mW mS mK mD mN mO mB mM mF a3 a4 u9 hu9 H.size) kRX8_130 rfl rfl ⟨by decide, by decide⟩ rfl hl.1 rfl (Nat.le_of_ble_eq_true rfl) dX8_piece_25) (fun H locs hP hD hS => ?_)
      refine lv_if_eq (tgt := 42) hx hb dX8_piece_28 (by decide) (fun c10 => ?_) (fun c10 => ?_)
      · replace hf := zif_t hf c10
        refine lv_iconst (v := -1) hx hb dX8_piece_42 (by decide) ?_
        have hu := Option.some.inj hf
        subst hu
        exact z_iret hC hP hD hS dX8_piece_43
      · replace hf := zif_f hf c10
        refine lv_iload_n hx hb dX8_piece_31 rfl (lv_at hl 1 rfl) ?_
        refine lv_iload_n hx hb dX8_piece_32 rfl (lv_at hl 3 rfl) ?_
        refine lv_icmp_ne (tgt := 44) hx hb dX8_piece_33 (by decide) (fun c11 => ?_) (fun c11 => ?_)
        · replace hf := zif_f hf c11
          exact t_X8_piece_b44 hC  mR mW mS mD mN mO mM mF u mG (tmH.s_thrown mH (0 : Int32)) mK mB a1 a2 a3 a4 H locs ls hP hD hS (lv_sub hl [0, 1, 2, 3, 4] rfl) hf
        · replace hf := zif_t hf c11
          refine lv_iload_n hx hb dX8_piece_36 rfl (lv_at hl 2 rfl) ?_
          refine lv_iload hx hb dX8_piece_37 (lv_at hl 4 rfl) ?_
          refine lv_icmp_ne (tgt := 44) hx hb dX8_piece_39 (by decide) (fun c12 => ?_) (fun c12 => ?_)
          · replace hf := zif_f hf c12
            exact t_X8_piece_b44 hC  mR mW mS mD mN mO mM mF u mG (tmH.s_thrown mH (0 : Int32)) mK mB a1 a2 a3 a4 H locs ls hP hD hS (lv_sub hl [0, 1, 2, 3, 4] rfl) hf
          · replace hf := zif_t hf c12
            refine lv_iconst (v := -1) hx hb dX8_piece_42 (by decide) ?_
            have hu := Option.some.inj hf
            subst hu
            exact z_iret hC hP hD hS dX8_piece_43
set_option maxHeartbeats 4000000 in
set_option maxRecDepth 100000 in
theorem c_X8_drop (l : Launch) (D : va_G) (cI cJ cZ : ClassId) (h : Nat → Nat) (mG : tmG) (mH : tmH) (mR : tmR) (mW : tmW) (mS : tmS) (mK : tmK) (mD : tmD) (mN : tmN) (mO : tmO) (mB : tmB) (mM : tmM) (mF : tmF)  (u : Int32 × tmG × tmH × tmK × tmB) (hf : X8_drop mG mH mK mB = some u) (sz : Nat) : Met l yX8_drop (Cond.code yX8_drop cX8_drop 1 (some .int) :: tb_L) ({ frames := 1, cells := 0, slots := 0, locals := 20 } : Room) (zPre D (zty cI cJ cZ) (zWM cI cJ cZ h mG mH mR mW mS mK mD mN mO mB mM mF) sz [.ref (h 0)]) (zQi D (va_A (zWM cI cJ cZ h mG mH mR mW mS mK mD mN mO mB mM mF) sz) (zWM cI cJ cZ h u.2.1 u.2.2.1 mR mW mS u.2.2.2.1 mD mN mO u.2.2.2.2 mM mF) (u.1)) 0 0 (va_A (zWM cI cJ cZ h mG mH mR mW mS mK mD mN mO mB mM mF) sz) := by
  refine zMet (Qc := fun A => zQi D A (zWM cI cJ cZ h u.2.1 u.2.2.1 mR mW mS u.2.2.2.1 mD mN mO u.2.2.2.2 mM mF) (u.1)) (by decide) rfl (Nat.le_of_ble_eq_true rfl) ?_
  intro p e s m args below meth c A ls hC _ hP hD hS hl
  replace hl : lv_has ls 1 [(0, .ref (h 0))] := hl
  obtain ⟨hx, hb, hml, hown, hts, hK, hr, hlocks, hA⟩ := id hC
  unfold X8_drop at hf
  obtain ⟨H, hH⟩ : ∃ H, H = s.heap := ⟨_, rfl⟩
  rw [← hH] at hP
  replace hS : va_S A s.heap H [] := by rw [hH]; exact hS
  show W p l e _ s m args below meth c s.heap [] 0 0 _ _
  rw [← hH]
  clear hH
  obtain ⟨locs, hlo⟩ : ∃ x : List Loc, x = [] := ⟨_, rfl⟩
  rw [← hlo] at hS ⊢
  clear hlo
  refine lv_aload_n hx hb dX8_drop_0 rfl (lv_at hl 0 rfl) ?_
  refine lv_iconst (v := 0) hx hb dX8_drop_1 (by decide) ?_
  refine va_put (D := D) (ci := 8) (v := .int (0 : Int32)) (ty := .int) (C := RX8) (T := TX8) (N := 56) hx hb hts tb_wsX80 tyX8 tyX8_ok nmX8 hown hK.1 hP hD hS 0 rfl rfl 5 (by decide) (hts _ tb_8_3) (fun _ h9 => h9) rfl (by decide +kernel) rfl rfl (Nat.le_of_ble_eq_true rfl) dX8_drop_2 (fun H locs hP hD hS => ?_)
  replace hP : va_P D vwCl (zWM cI cJ cZ h mG (tmH.s_thrown mH (0 : Int32)) mR mW mS mK mD mN mO mB mM mF) H := hP
  replace hD : va_D A (zWM cI cJ cZ h mG (tmH.s_thrown mH (0 : Int32)) mR mW mS mK mD mN mO mB mM mF) := hD
  refine lv_aload_n hx hb dX8_drop_5 rfl (lv_at hl 0 rfl) ?_
  refine va_get (D := D) (ci := 8) (v := .int (tmG.pieces mG)) (C := RX8) (T := TX8) (N := 56) hx hb hts tb_wsX80 hown hK.1 hP 0 rfl rfl 0 (by decide) (hts _ tb_8_4) (fun _ h9 => h9) rfl dX8_drop_6 ?_
  refine lv_if_ne (tgt := 14) hx hb dX8_drop_9 (by decide) (fun c1 => ?_) (fun c1 => ?_)
  · replace hf := zif_f hf c1
    refine lv_aload_n hx hb dX8_drop_14 rfl (lv_at hl 0 rfl) ?_
    refine lv_dup hx hb dX8_drop_15 rfl ?_
    refine va_get (D := D) (ci := 8) (v := .int (tmG.pieces mG)) (C := RX8) (T := TX8) (N := 56) hx hb hts tb_wsX80 hown hK.1 hP 0 rfl rfl 0 (by decide) (hts _ tb_8_4) (fun _ h9 => h9) rfl dX8_drop_16 ?_
    refine lv_iconst (v := 1) hx hb dX8_drop_19 (by decide) ?_
    refine lv_isub hx hb dX8_drop_20 ?_
    refine va_put (D := D) (ci := 8) (v := .int ((tmG.pieces mG) - (1 : Int32))) (ty := .int) (C := RX8) (T := TX8) (N := 56) hx hb hts tb_wsX80 tyX8 tyX8_ok nmX8 hown hK.1 hP hD hS 0 rfl rfl 0 (by decide) (hts _ tb_8_4) (fun _ h9 => h9) rfl (by decide +kernel) rfl rfl (Nat.le_of_ble_eq_true rfl) dX8_drop_21 (fun H locs hP hD hS => ?_)
    replace hP : va_P D vwCl (zWM cI cJ cZ h (tmG.s_pieces mG ((tmG.pieces mG) - (1 : Int32))) (tmH.s_thrown mH (0 : Int32)) mR mW mS mK mD mN mO mB mM mF) H := hP
    replace hD : va_D A (zWM cI cJ cZ h (tmG.s_pieces mG ((tmG.pieces mG) - (1 : Int32))) (tmH.s_thrown mH (0 : Int32)) mR mW mS mK mD mN mO mB mM mF) := hD
    refine lv_aload_n hx hb dX8_drop_24 rfl (lv_at hl 0 rfl) ?_
    obtain ⟨u2, hu2, hf⟩ := zbd hf
    refine zthen_v hA hD hS (zrunV (As := []) (rest := []) hC hP hD 0 rfl rfl (c_X8_noTree l D cI cJ cZ h  (tmG.s_pieces mG ((tmG.pieces mG) - (1 : Int32))) (tmH.s_thrown mH (0 : Int32)) mR mW mS mK mD mN mO mB mM mF  u2 hu2 H.size) kRX8_134 rfl rfl ⟨by decide, by decide⟩ rfl hl.1 rfl (Nat.le_of_ble_eq_true rfl) dX8_drop_25) (fun H locs hP hD hS => ?_)
    refine lv_aload_n hx hb dX8_drop_28 rfl (lv_at hl 0 rfl) ?_
    refine va_get (D := D) (ci := 8) (v := .int ((tmG.pieces mG) - (1 : Int32))) (C := RX8) (T := TX8) (N := 56) hx hb hts tb_wsX80 hown hK.1 hP 0 rfl rfl 0 (by decide) (hts _ tb_8_4) (fun _ h9 => h9) rfl dX8_drop_29 ?_
    have hu := Option.some.inj hf
    subst hu
    exact z_iret hC hP hD hS dX8_drop_32
  · replace hf := zif_t hf c1
    refine lv_iconst (v := -1) hx hb dX8_drop_12 (by decide) ?_
    have hu := Option.some.inj hf
    subst hu
    exact z_iret hC hP hD hS dX8_drop_13
set_option maxHeartbeats 4000000 in
set_option maxRecDepth 100000 in
theorem c_X8_fails (l : Launch) (D : va_G) (cI cJ cZ : ClassId) (h : Nat → Nat) (mG : tmG) (mH : tmH) (mR : tmR) (mW : tmW) (mS : tmS) (mK : tmK) (mD : tmD) (mN : tmN) (mO : tmO) (mB : tmB) (mM : tmM) (mF : tmF) (a1 : Int32) (u : Int32 × tmH) (hf : X8_fails mH a1 = some u) (sz : Nat) : Met l yX8_fails (Cond.code yX8_fails cX8_fails 2 (some .int) :: tb_L) ({ frames := 0, cells := 0, slots := 0, locals := 0 } : Room) (zPre D (zty cI cJ cZ) (zWM cI cJ cZ h mG mH mR mW mS mK mD mN mO mB mM mF) sz [.ref (h 0), .int a1]) (zQi D (va_A (zWM cI cJ cZ h mG mH mR mW mS mK mD mN mO mB mM mF) sz) (zWM cI cJ cZ h mG u.2 mR mW mS mK mD mN mO mB mM mF) (u.1)) 0 0 (va_A (zWM cI cJ cZ h mG mH mR mW mS mK mD mN mO mB mM mF) sz) := by
  refine zMet (Qc := fun A => zQi D A (zWM cI cJ cZ h mG u.2 mR mW mS mK mD mN mO mB mM mF) (u.1)) (by decide) rfl (Nat.le_of_ble_eq_true rfl) ?_
  intro p e s m args below meth c A ls hC _ hP hD hS hl
  replace hl : lv_has ls 2 [(0, .ref (h 0)), (1, .int a1)] := hl
  obtain ⟨hx, hb, hml, hown, hts, hK, hr, hlocks, hA⟩ := id hC
  unfold X8_fails at hf
  obtain ⟨H, hH⟩ : ∃ H, H = s.heap := ⟨_, rfl⟩
  rw [← hH] at hP
  replace hS : va_S A s.heap H [] := by rw [hH]; exact hS
  show W p l e _ s m args below meth c s.heap [] 0 0 _ _
  rw [← hH]
  clear hH
  obtain ⟨locs, hlo⟩ : ∃ x : List Loc, x = [] := ⟨_, rfl⟩
  rw [← hlo] at hS ⊢
  clear hlo
  refine lv_aload_n hx hb dX8_fails_0 rfl (lv_at hl 0 rfl) ?_
  refine lv_iload_n hx hb dX8_fails_1 rfl (lv_at hl 1 rfl) ?_
  refine va_put (D := D) (ci := 8) (v := .int a1) (ty := .int) (C := RX8) (T := TX8) (N := 56) hx hb hts tb_wsX80 tyX8 tyX8_ok nmX8 hown hK.1 hP hD hS 0 rfl rfl 5 (by decide) (hts _ tb_8_3) (fun _ h9 => h9) rfl (by decide +kernel) rfl rfl (Nat.le_of_ble_eq_true rfl) dX8_fails_2 (fun H locs hP hD hS => ?_)
  replace hP : va_P D vwCl (zWM cI cJ cZ h mG (tmH.s_thrown mH a1) mR mW mS mK mD mN mO mB mM mF) H := hP
  replace hD : va_D A (zWM cI cJ cZ h mG (tmH.s_thrown mH a1) mR mW mS mK mD mN mO mB mM mF) := hD
  refine lv_iconst (v := 0) hx hb dX8_fails_5 (by decide) ?_
  have hu := Option.some.inj hf
  subst hu
  exact z_iret hC hP hD hS dX8_fails_6
set_option maxHeartbeats 4000000 in
set_option maxRecDepth 100000 in
theorem t_X8_look_b141 {p : Program} {l : Launch} {e : Env} {s : State} {m : MethodId} {args : Array Value} {below : List Frame} {meth : Method} {c : Code} {A : Nat → Prop} {D : va_G} {cI cJ cZ : ClassId} {h : Nat → Nat} (hC : zCx p s m args meth c A D (zty cI cJ cZ) cX8_look RX8 5 (some .int)) (N : Nat) (mG : tmG) (mR : tmR) (mW : tmW) (mS : tmS) (mK : tmK) (mD : tmD) (mN : tmN) (mO : tmO) (mB : tmB) (mM : tmM) (mF : tmF) (u : Int32 × tmH) : ∀ (mH : tmH) (v3 : Int32) (H : Heap) (locs : List Loc) (ls : Array Slot), va_P D vwCl (zWM cI cJ cZ h mG mH mR mW mS mK mD mN mO mB mM mF) H → va_D A (zWM cI cJ cZ h mG mH mR mW mS mK mD mN mO mB mM mF) → va_S A s.heap H locs → lv_has ls 5 [(3, .int v3)] → X8_look_b141 N mG mK mH v3 = some u → W p l e ({ frames := 1, cells := 0, slots := 0, locals := 21 } : Room) s m args below meth c H locs 0 0 (MQ below (zQi D A (zWM cI cJ cZ h mG u.2 mR mW mS mK mD mN mO mB mM mF) (u.1)) args s 0 0 A) (F0 m 141 ls []) := by
  intro mH v3 H locs ls hP hD hS hl hf
  obtain ⟨hx, hb, hml, hown, hts, hK, hr, hlocks, hA⟩ := id hC
  unfold X8_look_b141 at hf
  refine lv_iload_n hx hb dX8_look_141 rfl (lv_at hl 0 rfl) ?_
  have hu := Option.some.inj hf
  subst hu
  exact z_iret hC hP hD hS dX8_look_142
set_option maxHeartbeats 4000000 in
set_option maxRecDepth 100000 in
theorem t_X8_look_b133 {p : Program} {l : Launch} {e : Env} {s : State} {m : MethodId} {args : Array Value} {below : List Frame} {meth : Method} {c : Code} {A : Nat → Prop} {D : va_G} {cI cJ cZ : ClassId} {h : Nat → Nat} (hC : zCx p s m args meth c A D (zty cI cJ cZ) cX8_look RX8 5 (some .int)) (N : Nat) {mG : tmG} {mR : tmR} {mW : tmW} {mS : tmS} {mK : tmK} {mD : tmD} {mN : tmN} {mO : tmO} {mB : tmB} {mM : tmM} {mF : tmF} {u : Int32 × tmH} (k107 : tmH → Int32 → Int32 → Int32 → Option (Int32 × tmH)) (hk107 : ∀ (mH : tmH) (v1 : Int32) (v3 : Int32) (v4 : Int32) (H : Heap) (locs : List Loc) (ls : Array Slot), va_P D vwCl (zWM cI cJ cZ h mG mH mR mW mS mK mD mN mO mB mM mF) H → va_D A (zWM cI cJ cZ h mG mH mR mW mS mK mD mN mO mB mM mF) → va_S A s.heap H locs → lv_has ls 5 [(0, .ref (h 0)), (1, .int v1), (3, .int v3), (4, .int v4)] → k107 mH v1 v3 v4 = some u → W p l e ({ frames := 1, cells := 0, slots := 0, locals := 21 } : Room) s m args below meth c H locs 0 0 (MQ below (zQi D A (zWM cI cJ cZ h mG u.2 mR mW mS mK mD mN mO mB mM mF) (u.1)) args s 0 0 A) (F0 m 107 ls [])) : ∀ (mH : tmH) (v1 : Int32) (v4 : Int32) (s0 : Int32) (s1 : Int32) (H : Heap) (locs : List Loc) (ls : Array Slot), va_P D vwCl (zWM cI cJ cZ h mG mH mR mW mS mK mD mN mO mB mM mF) H → va_D A (zWM cI cJ cZ h mG mH mR mW mS mK mD mN mO mB mM mF) → va_S A s.heap H locs → lv_has ls 5 [(0, .ref (h 0)), (1, .int v1), (4, .int v4)] → X8_look_b133 N k107 mG mK mH v1 v4 s0 s1 = some u → W p l e ({ frames := 1, cells := 0, slots := 0, locals := 21 } : Room) s m args below meth c H locs 0 0 (MQ below (zQi D A (zWM cI cJ cZ h mG u.2 mR mW mS mK mD mN mO mB mM mF) (u.1)) args s 0 0 A) (F0 m 133 ls [.int s0, .int s1]) := by
  intro mH v1 v4 s0 s1 H locs ls hP hD hS hl hf
  obtain ⟨hx, hb, hml, hown, hts, hK, hr, hlocks, hA⟩ := id hC
  unfold X8_look_b133 at hf
  refine lv_iadd hx hb dX8_look_133 ?_
  refine lv_topi (fun x1 ex1 => ?_)
  replace hf := zl_n ex1 hf
  refine lv_istore_n (lv' := [(3, .int x1), (0, .ref (h 0)), (1, .int v1), (4, .int v4)]) hx hb dX8_look_134 rfl hl (by decide) rfl (fun ls hl => ?_)
  refine lv_iinc (v := (v4 + (1 : Int32))) (lv' := [(4, .int (v4 + (1 : Int32))), (3, .int x1), (0, .ref (h 0)), (1, .int v1)]) hx hb dX8_look_135 hl (k := 3) rfl rfl (by decide) rfl (fun ls hl => ?_)
  refine lv_goto (tgt := 107) hx hb dX8_look_138 (by decide) ?_
  exact hk107 mH v1 x1 (v4 + (1 : Int32)) H locs ls hP hD hS (lv_sub hl [2, 3, 1, 0] rfl) hf
set_option maxHeartbeats 4000000 in
set_option maxRecDepth 100000 in
theorem t_X8_look_b107 {p : Program} {l : Launch} {e : Env} {s : State} {m : MethodId} {args : Array Value} {below : List Frame} {meth : Method} {c : Code} {A : Nat → Prop} {D : va_G} {cI cJ cZ : ClassId} {h : Nat → Nat} (hC : zCx p s m args meth c A D (zty cI cJ cZ) cX8_look RX8 5 (some .int)) (N : Nat) (mG : tmG) (mR : tmR) (mW : tmW) (mS : tmS) (mK : tmK) (mD : tmD) (mN : tmN) (mO : tmO) (mB : tmB) (mM : tmM) (mF : tmF) (u : Int32 × tmH) : ∀ (n : Nat) (mH : tmH) (v1 : Int32) (v3 : Int32) (v4 : Int32) (H : Heap) (locs : List Loc) (ls : Array Slot), va_P D vwCl (zWM cI cJ cZ h mG mH mR mW mS mK mD mN mO mB mM mF) H → va_D A (zWM cI cJ cZ h mG mH mR mW mS mK mD mN mO mB mM mF) → va_S A s.heap H locs → lv_has ls 5 [(0, .ref (h 0)), (1, .int v1), (3, .int v3), (4, .int v4)] → X8_look_b107 N mG mK n mH v1 v3 v4 = some u → W p l e ({ frames := 1, cells := 0, slots := 0, locals := 21 } : Room) s m args below meth c H locs 0 0 (MQ below (zQi D A (zWM cI cJ cZ h mG u.2 mR mW mS mK mD mN mO mB mM mF) (u.1)) args s 0 0 A) (F0 m 107 ls []) := by
  intro n
  induction n with
  | zero =>
    intro mH v1 v3 v4 H locs ls hP hD hS hl hf
    cases hf
  | succ n ih =>
    intro mH v1 v3 v4 H locs ls hP hD hS hl hf
    obtain ⟨hx, hb, hml, hown, hts, hK, hr, hlocks, hA⟩ := id hC
    rw [X8_look_b107] at hf
    refine lv_iload hx hb dX8_look_107 (lv_at hl 3 rfl) ?_
    refine lv_aload_n hx hb dX8_look_109 rfl (lv_at hl 0 rfl) ?_
    refine va_get (D := D) (ci := 8) (v := .int (tmK.parts mK)) (C := RX8) (T := TX8) (N := 56) hx hb hts tb_wsX80 hown hK.1 hP 0 rfl rfl 24 (by decide) (hts _ tb_8_15) (fun _ h9 => h9) rfl dX8_look_110 ?_
    refine lv_icmp_ge (tgt := 141) hx hb dX8_look_113 (by decide) (fun c2 => ?_) (fun c2 => ?_)
    · replace hf := zif_t hf c2
      exact t_X8_look_b141 hC N mG mR mW mS mK mD mN mO mB mM mF u mH v3 H locs ls hP hD hS (lv_sub hl [2] rfl) hf
    · replace hf := zif_f hf c2
      refine lv_iload_n hx hb dX8_look_116 rfl (lv_at hl 2 rfl) ?_
      refine lv_aload_n hx hb dX8_look_117 rfl (lv_at hl 0 rfl) ?_
      refine va_get (D := D) (ci := 8) (v := .ref (h 24)) (C := RX8) (T := TX8) (N := 56) hx hb hts tb_wsX80 hown hK.1 hP 0 rfl rfl 32 (by decide) (hts _ tb_6_6) (fun _ h9 => h9) rfl dX8_look_118 ?_
      refine lv_iload hx hb dX8_look_121 (lv_at hl 3 rfl) ?_
      obtain ⟨h3, hf⟩ := zck_s hf
      refine va_iald hx hb hK.1 hP 24 0 rfl rfl h3 dX8_look_123 ?_
      refine lv_iload_n hx hb dX8_look_124 rfl (lv_at hl 1 rfl) ?_
      refine lv_icmp_ne (tgt := 132) hx hb dX8_look_125 (by decide) (fun c4 => ?_) (fun c4 => ?_)
      · replace hf := zif_f hf c4
        refine lv_iconst (v := 0) hx hb dX8_look_132 (by decide) ?_
        exact t_X8_look_b133 hC N (X8_look_b107 N mG mK n) ih  mH v1 v4 (0 : Int32) v3 H locs ls hP hD hS (lv_sub hl [0, 1, 3] rfl) hf
      · replace hf := zif_t hf c4
        refine lv_iconst (v := 1) hx hb dX8_look_128 (by decide) ?_
        refine lv_goto (tgt := 133) hx hb dX8_look_129 (by decide) ?_
        exact t_X8_look_b133 hC N (X8_look_b107 N mG mK n) ih  mH v1 v4 (1 : Int32) v3 H locs ls hP hD hS (lv_sub hl [0, 1, 3] rfl) hf
set_option maxHeartbeats 4000000 in
set_option maxRecDepth 100000 in
theorem t_X8_look_b17 {p : Program} {l : Launch} {e : Env} {s : State} {m : MethodId} {args : Array Value} {below : List Frame} {meth : Method} {c : Code} {A : Nat → Prop} {D : va_G} {cI cJ cZ : ClassId} {h : Nat → Nat} (hC : zCx p s m args meth c A D (zty cI cJ cZ) cX8_look RX8 5 (some .int)) (N : Nat) (mG : tmG) (mR : tmR) (mW : tmW) (mS : tmS) (mK : tmK) (mD : tmD) (mN : tmN) (mO : tmO) (mB : tmB) (mM : tmM) (mF : tmF) (u : Int32 × tmH) : ∀ (mH : tmH) (H : Heap) (locs : List Loc) (ls : Array Slot), va_P D vwCl (zWM cI cJ cZ h mG mH mR mW mS mK mD mN mO mB mM mF) H → va_D A (zWM cI cJ cZ h mG mH mR mW mS mK mD mN mO mB mM mF) → va_S A s.heap H locs → lv_has ls 5 [(0, .ref (h 0))] → X8_look_b17 N mG mK mH = some u → W p l e ({ frames := 1, cells := 0, slots := 0, locals := 21 } : Room) s m args below meth c H locs 0 0 (MQ below (zQi D A (zWM cI cJ cZ h mG u.2 mR mW mS mK mD mN mO mB mM mF) (u.1)) args s 0 0 A) (F0 m 17 ls []) := by
  intro mH H locs ls hP hD hS hl hf
  obtain ⟨hx, hb, hml, hown, hts, hK, hr, hlocks, hA⟩ := id hC
  unfold X8_look_b17 at hf
  refine lv_aload_n hx hb dX8_look_17 rfl (lv_at hl 0 rfl) ?_
  refine lv_iconst (v := 1) hx hb dX8_look_18 (by decide) ?_
  obtain ⟨u5, hu5, hf⟩ := zbd hf
  refine zthen_i hA hD hS (zrunV (As := [.int (1 : Int32)]) (rest := []) hC hP hD 0 rfl rfl (c_X8_fails l D cI cJ cZ h  mG mH mR mW mS mK mD mN mO mB mM mF (1 : Int32) u5 hu5 H.size) kRX8_212 rfl rfl ⟨by decide, by decide⟩ rfl hl.1 rfl (Nat.le_of_ble_eq_true rfl) dX8_look_19) (fun H locs hP hD hS => ?_)
  have hu := Option.some.inj hf
  subst hu
  exact z_iret hC hP hD hS dX8_look_22
set_option maxHeartbeats 4000000 in
set_option maxRecDepth 100000 in
theorem c_X8_look (l : Launch) (D : va_G) (cI cJ cZ : ClassId) (h : Nat → Nat) (N : Nat) (mG : tmG) (mH : tmH) (mR : tmR) (mW : tmW) (mS : tmS) (mK : tmK) (mD : tmD) (mN : tmN) (mO : tmO) (mB : tmB) (mM : tmM) (mF : tmF) (a1 : Int32) (a2 : Int32) (u : Int32 × tmH) (hf : X8_look N mG mH mK a1 a2 = some u) (sz : Nat) : Met l yX8_look (Cond.code yX8_look cX8_look 5 (some .int) :: tb_L) ({ frames := 1, cells := 0, slots := 0, locals := 21 } : Room) (zPre D (zty cI cJ cZ) (zWM cI cJ cZ h mG mH mR mW mS mK mD mN mO mB mM mF) sz [.ref (h 0), .int a1, .int a2]) (zQi D (va_A (zWM cI cJ cZ h mG mH mR mW mS mK mD mN mO mB mM mF) sz) (zWM cI cJ cZ h mG u.2 mR mW mS mK mD mN mO mB mM mF) (u.1)) 0 0 (va_A (zWM cI cJ cZ h mG mH mR mW mS mK mD mN mO mB mM mF) sz) := by
  refine zMet (Qc := fun A => zQi D A (zWM cI cJ cZ h mG u.2 mR mW mS mK mD mN mO mB mM mF) (u.1)) (by decide) rfl (Nat.le_of_ble_eq_true rfl) ?_
  intro p e s m args below meth c A ls hC _ hP hD hS hl
  replace hl : lv_has ls 5 [(0, .ref (h 0)), (1, .int a1), (2, .int a2)] := hl
  obtain ⟨hx, hb, hml, hown, hts, hK, hr, hlocks, hA⟩ := id hC
  unfold X8_look at hf
  obtain ⟨H, hH⟩ : ∃ H, H = s.heap := ⟨_, rfl⟩
  rw [← hH] at hP
  replace hS : va_S A s.heap H [] := by rw [hH]; exact hS
  show W p l e _ s m args below meth c s.heap [] 0 0 _ _
  rw [← hH]
  clear hH
  obtain ⟨locs, hlo⟩ : ∃ x : List Loc, x = [] := ⟨_, rfl⟩
  rw [← hlo] at hS ⊢
  clear hlo
  refine lv_aload_n hx hb dX8_look_0 rfl (lv_at hl 0 rfl) ?_
  refine lv_iconst (v := 0) hx hb dX8_look_1 (by decide) ?_
  refine va_put (D := D) (ci := 8) (v := .int (0 : Int32)) (ty := .int) (C := RX8) (T := TX8) (N := 56) hx hb hts tb_wsX80 tyX8 tyX8_ok nmX8 hown hK.1 hP hD hS 0 rfl rfl 5 (by decide) (hts _ tb_8_3) (fun _ h9 => h9) rfl (by decide +kernel) rfl rfl (Nat.le_of_ble_eq_true rfl) dX8_look_2 (fun H locs hP hD hS => ?_)
  replace hP : va_P D vwCl (zWM cI cJ cZ h mG (tmH.s_thrown mH (0 : Int32)) mR mW mS mK mD mN mO mB mM mF) H := hP
  replace hD : va_D A (zWM cI cJ cZ h mG (tmH.s_thrown mH (0 : Int32)) mR mW mS mK mD mN mO mB mM mF) := hD
  refine lv_iload_n hx hb dX8_look_5 rfl (lv_at hl 1 rfl) ?_
  refine lv_if_lt (tgt := 17) hx hb dX8_look_6 (by decide) (fun c6 => ?_) (fun c6 => ?_)
  · replace hf := zif_t hf c6
    exact t_X8_look_b17 hC N mG mR mW mS mK mD mN mO mB mM mF u (tmH.s_thrown mH (0 : Int32)) H locs ls hP hD hS (lv_sub hl [0] rfl) hf
  · replace hf := zif_f hf c6
    refine lv_iload_n hx hb dX8_look_9 rfl (lv_at hl 1 rfl) ?_
    refine lv_aload_n hx hb dX8_look_10 rfl (lv_at hl 0 rfl) ?_
    refine va_get (D := D) (ci := 8) (v := .int (tmG.pieces mG)) (C := RX8) (T := TX8) (N := 56) hx hb hts tb_wsX80 hown hK.1 hP 0 rfl rfl 0 (by decide) (hts _ tb_8_4) (fun _ h9 => h9) rfl dX8_look_11 ?_
    refine lv_icmp_lt (tgt := 23) hx hb dX8_look_14 (by decide) (fun c7 => ?_) (fun c7 => ?_)
    · replace hf := zif_t hf c7
      refine lv_iload_n hx hb dX8_look_23 rfl (lv_at hl 2 rfl) ?_
      by_cases c80 : a2 = (0 : Int32)
      · replace hf := zif_t hf c80
        refine lv_tableIn (tgt := 60) hx hb dX8_look_24 (by rw [c80]; decide) (by rw [c80]; decide) (by rw [c80]; rfl) (by decide) ?_
        refine lv_aload_n hx hb dX8_look_60 rfl (lv_at hl 0 rfl) ?_
        refine va_get (D := D) (ci := 8) (v := .ref (h 1)) (C := RX8) (T := TX8) (N := 56) hx hb hts tb_wsX80 hown hK.1 hP 0 rfl rfl 1 (by decide) (hts _ tb_5_6) (fun _ h9 => h9) rfl dX8_look_61 ?_
        refine lv_iload_n hx hb dX8_look_64 rfl (lv_at hl 1 rfl) ?_
        obtain ⟨h15, hf⟩ := zck_s hf
        refine va_iald hx hb hK.1 hP 1 0 rfl rfl h15 dX8_look_65 ?_
        have hu := Option.some.inj hf
        subst hu
        exact z_iret hC hP hD hS dX8_look_66
      replace hf := zif_f hf c80
      by_cases c81 : a2 = (1 : Int32)
      · replace hf := zif_t hf c81
        refine lv_tableIn (tgt := 67) hx hb dX8_look_24 (by rw [c81]; decide) (by rw [c81]; decide) (by rw [c81]; rfl) (by decide) ?_
        refine lv_aload_n hx hb dX8_look_67 rfl (lv_at hl 0 rfl) ?_
        refine va_get (D := D) (ci := 8) (v := .ref (h 2)) (C := RX8) (T := TX8) (N := 56) hx hb hts tb_wsX80 hown hK.1 hP 0 rfl rfl 2 (by decide) (hts _ tb_5_7) (fun _ h9 => h9) rfl dX8_look_68 ?_
        refine lv_iload_n hx hb dX8_look_71 rfl (lv_at hl 1 rfl) ?_
        obtain ⟨h14, hf⟩ := zck_s hf
        refine va_iald hx hb hK.1 hP 2 0 rfl rfl h14 dX8_look_72 ?_
        have hu := Option.some.inj hf
        subst hu
        exact z_iret hC hP hD hS dX8_look_73
      replace hf := zif_f hf c81
      by_cases c82 : a2 = (2 : Int32)
      · replace hf := zif_t hf c82
        refine lv_tableIn (tgt := 74) hx hb dX8_look_24 (by rw [c82]; decide) (by rw [c82]; decide) (by rw [c82]; rfl) (by decide) ?_
        refine lv_aload_n hx hb dX8_look_74 rfl (lv_at hl 0 rfl) ?_
        refine va_get (D := D) (ci := 8) (v := .ref (h 1)) (C := RX8) (T := TX8) (N := 56) hx hb hts tb_wsX80 hown hK.1 hP 0 rfl rfl 1 (by decide) (hts _ tb_5_6) (fun _ h9 => h9) rfl dX8_look_75 ?_
        refine lv_iload_n hx hb dX8_look_78 rfl (lv_at hl 1 rfl) ?_
        obtain ⟨h12, hf⟩ := zck_s hf
        refine va_iald hx hb hK.1 hP 1 0 rfl rfl h12 dX8_look_79 ?_
        refine lv_aload_n hx hb dX8_look_80 rfl (lv_at hl 0 rfl) ?_
        refine va_get (D := D) (ci := 8) (v := .ref (h 3)) (C := RX8) (T := TX8) (N := 56) hx hb hts tb_wsX80 hown hK.1 hP 0 rfl rfl 3 (by decide) (hts _ tb_5_8) (fun _ h9 => h9) rfl dX8_look_81 ?_
        refine lv_iload_n hx hb dX8_look_84 rfl (lv_at hl 1 rfl) ?_
        obtain ⟨h13, hf⟩ := zck_s hf
        refine va_iald hx hb hK.1 hP 3 0 rfl rfl h13 dX8_look_85 ?_
        refine lv_iadd hx hb dX8_look_86 ?_
        have hu := Option.some.inj hf
        subst hu
        exact z_iret hC hP hD hS dX8_look_87
      replace hf := zif_f hf c82
      by_cases c83 : a2 = (3 : Int32)
      · replace hf := zif_t hf c83
        refine lv_tableIn (tgt := 88) hx hb dX8_look_24 (by rw [c83]; decide) (by rw [c83]; decide) (by rw [c83]; rfl) (by decide) ?_
        refine lv_aload_n hx hb dX8_look_88 rfl (lv_at hl 0 rfl) ?_
        refine va_get (D := D) (ci := 8) (v := .ref (h 2)) (C := RX8) (T := TX8) (N := 56) hx hb hts tb_wsX80 hown hK.1 hP 0 rfl rfl 2 (by decide) (hts _ tb_5_7) (fun _ h9 => h9) rfl dX8_look_89 ?_
        refine lv_iload_n hx hb dX8_look_92 rfl (lv_at hl 1 rfl) ?_
        obtain ⟨h10, hf⟩ := zck_s hf
        refine va_iald hx hb hK.1 hP 2 0 rfl rfl h10 dX8_look_93 ?_
        refine lv_aload_n hx hb dX8_look_94 rfl (lv_at hl 0 rfl) ?_
        refine va_get (D := D) (ci := 8) (v := .ref (h 4)) (C := RX8) (T := TX8) (N := 56) hx hb hts tb_wsX80 hown hK.1 hP 0 rfl rfl 4 (by decide) (hts _ tb_5_9) (fun _ h9 => h9) rfl dX8_look_95 ?_
        refine lv_iload_n hx hb dX8_look_98 rfl (lv_at hl 1 rfl) ?_
        obtain ⟨h11, hf⟩ := zck_s hf
        refine va_iald hx hb hK.1 hP 4 0 rfl rfl h11 dX8_look_99 ?_
        refine lv_iadd hx hb dX8_look_100 ?_
        have hu := Option.some.inj hf
        subst hu
        exact z_iret hC hP hD hS dX8_look_101
      replace hf := zif_f hf c83
      by_cases c84 : a2 = (4 : Int32)
      · replace hf := zif_t hf c84
        refine lv_tableIn (tgt := 102) hx hb dX8_look_24 (by rw [c84]; decide) (by rw [c84]; decide) (by rw [c84]; rfl) (by decide) ?_
        refine lv_iconst (v := 0) hx hb dX8_look_102 (by decide) ?_
        refine lv_istore_n (lv' := [(3, .int (0 : Int32)), (0, .ref (h 0)), (1, .int a1), (2, .int a2)]) hx hb dX8_look_103 rfl hl (by decide) rfl (fun ls hl => ?_)
        refine lv_iconst (v := 0) hx hb dX8_look_104 (by decide) ?_
        refine lv_istore (lv' := [(4, .int (0 : Int32)), (3, .int (0 : Int32)), (0, .ref (h 0)), (1, .int a1), (2, .int a2)]) hx hb dX8_look_105 hl (by decide) rfl (fun ls hl => ?_)
        exact t_X8_look_b107 hC N mG mR mW mS mK mD mN mO mB mM mF u N (tmH.s_thrown mH (0 : Int32)) a1 (0 : Int32) (0 : Int32) H locs ls hP hD hS (lv_sub hl [2, 3, 1, 0] rfl) hf
      replace hf := zif_f hf c84
      refine lv_tableOut (tgt := 143) hx hb dX8_look_24 (by have := zsw c80; rw [show ((0 : Int32)).toInt = 0 from rfl] at this; have := zsw c81; rw [show ((1 : Int32)).toInt = 1 from rfl] at this; have := zsw c82; rw [show ((2 : Int32)).toInt = 2 from rfl] at this; have := zsw c83; rw [show ((3 : Int32)).toInt = 3 from rfl] at this; have := zsw c84; rw [show ((4 : Int32)).toInt = 4 from rfl] at this; omega) (by decide) ?_
      refine lv_aload_n hx hb dX8_look_143 rfl (lv_at hl 0 rfl) ?_
      refine lv_iconst (v := 2) hx hb dX8_look_144 (by decide) ?_
      obtain ⟨u9, hu9, hf⟩ := zbd hf
      refine zthen_i hA hD hS (zrunV (As := [.int (2 : Int32)]) (rest := []) hC hP hD 0 rfl rfl (c_X8_fails l D cI cJ cZ h  mG (tmH.s_thrown mH (0 : Int32)) mR mW mS mK mD mN mO mB mM mF (2 : Int32) u9 hu9 H.size) kRX8_212 rfl rfl ⟨by decide, by decide⟩ rfl hl.1 rfl (Nat.le_of_ble_eq_true rfl) dX8_look_145) (fun H locs hP hD hS => ?_)
      have hu := Option.some.inj hf
      subst hu
      exact z_iret hC hP hD hS dX8_look_148
    · replace hf := zif_f hf c7
      exact t_X8_look_b17 hC N mG mR mW mS mK mD mN mO mB mM mF u (tmH.s_thrown mH (0 : Int32)) H locs ls hP hD hS (lv_sub hl [0] rfl) hf
set_option maxHeartbeats 4000000 in
set_option maxRecDepth 100000 in
theorem c_X8_back (l : Launch) (D : va_G) (cI cJ cZ : ClassId) (h : Nat → Nat) (mG : tmG) (mH : tmH) (mR : tmR) (mW : tmW) (mS : tmS) (mK : tmK) (mD : tmD) (mN : tmN) (mO : tmO) (mB : tmB) (mM : tmM) (mF : tmF) (a1 : Int32) (u : tmR) (hf : X8_back mR mS a1 = some u) (sz : Nat) : Met l yX8_back (Cond.code yX8_back cX8_back 2 none :: tb_L) ({ frames := 0, cells := 0, slots := 0, locals := 0 } : Room) (zPre D (zty cI cJ cZ) (zWM cI cJ cZ h mG mH mR mW mS mK mD mN mO mB mM mF) sz [.ref (h 0), .int a1]) (zQv D (va_A (zWM cI cJ cZ h mG mH mR mW mS mK mD mN mO mB mM mF) sz) (zWM cI cJ cZ h mG mH u mW mS mK mD mN mO mB mM mF)) 0 0 (va_A (zWM cI cJ cZ h mG mH mR mW mS mK mD mN mO mB mM mF) sz) := by
  refine zMet (Qc := fun A => zQv D A (zWM cI cJ cZ h mG mH u mW mS mK mD mN mO mB mM mF)) (by decide) rfl (Nat.le_of_ble_eq_true rfl) ?_
  intro p e s m args below meth c A ls hC _ hP hD hS hl
  replace hl : lv_has ls 2 [(0, .ref (h 0)), (1, .int a1)] := hl
  obtain ⟨hx, hb, hml, hown, hts, hK, hr, hlocks, hA⟩ := id hC
  unfold X8_back at hf
  obtain ⟨H, hH⟩ : ∃ H, H = s.heap := ⟨_, rfl⟩
  rw [← hH] at hP
  replace hS : va_S A s.heap H [] := by rw [hH]; exact hS
  show W p l e _ s m args below meth c s.heap [] 0 0 _ _
  rw [← hH]
  clear hH
  obtain ⟨locs, hlo⟩ : ∃ x : List Loc, x = [] := ⟨_, rfl⟩
  rw [← hlo] at hS ⊢
  clear hlo
  refine lv_aload_n hx hb dX8_back_0 rfl (lv_at hl 0 rfl) ?_
  refine va_get (D := D) (ci := 8) (v := .ref (h 5)) (C := RX8) (T := TX8) (N := 56) hx hb hts tb_wsX80 hown hK.1 hP 0 rfl rfl 6 (by decide) (hts _ tb_5_10) (fun _ h9 => h9) rfl dX8_back_1 ?_
  refine lv_aload_n hx hb dX8_back_4 rfl (lv_at hl 0 rfl) ?_
  refine va_get (D := D) (ci := 8) (v := .int (tmR.rMany mR)) (C := RX8) (T := TX8) (N := 56) hx hb hts tb_wsX80 hown hK.1 hP 0 rfl rfl 11 (by decide) (hts _ tb_14_19) (fun _ h9 => h9) rfl dX8_back_5 ?_
  refine lv_aload_n hx hb dX8_back_8 rfl (lv_at hl 0 rfl) ?_
  refine va_get (D := D) (ci := 8) (v := .ref (h 13)) (C := RX8) (T := TX8) (N := 56) hx hb hts tb_wsX80 hown hK.1 hP 0 rfl rfl 16 (by decide) (hts _ tb_5_19) (fun _ h9 => h9) rfl dX8_back_9 ?_
  refine lv_iload_n hx hb dX8_back_12 rfl (lv_at hl 1 rfl) ?_
  obtain ⟨h1, hf⟩ := zck_s hf
  refine va_iald hx hb hK.1 hP 13 0 rfl rfl h1 dX8_back_13 ?_
  obtain ⟨h2, hf⟩ := zck_s hf
  refine va_iast hx hb hK.1 hP hD hS 5 0 rfl rfl h2 dX8_back_14 (fun H locs hP hD hS => ?_)
  replace hP : va_P D vwCl (zWM cI cJ cZ h mG mH (tmR.s_rPiece mR (upd (tmR.rPiece mR) (tmR.rMany mR).toNatClampNeg ((tmS.sPiece mS) a1.toNatClampNeg))) mW mS mK mD mN mO mB mM mF) H := hP
  replace hD : va_D A (zWM cI cJ cZ h mG mH (tmR.s_rPiece mR (upd (tmR.rPiece mR) (tmR.rMany mR).toNatClampNeg ((tmS.sPiece mS) a1.toNatClampNeg))) mW mS mK mD mN mO mB mM mF) := hD
  refine lv_aload_n hx hb dX8_back_15 rfl (lv_at hl 0 rfl) ?_
  refine va_get (D := D) (ci := 8) (v := .ref (h 6)) (C := RX8) (T := TX8) (N := 56) hx hb hts tb_wsX80 hown hK.1 hP 0 rfl rfl 7 (by decide) (hts _ tb_5_11) (fun _ h9 => h9) rfl dX8_back_16 ?_
  refine lv_aload_n hx hb dX8_back_19 rfl (lv_at hl 0 rfl) ?_
  refine va_get (D := D) (ci := 8) (v := .int (tmR.rMany mR)) (C := RX8) (T := TX8) (N := 56) hx hb hts tb_wsX80 hown hK.1 hP 0 rfl rfl 11 (by decide) (hts _ tb_14_19) (fun _ h9 => h9) rfl dX8_back_20 ?_
  refine lv_aload_n hx hb dX8_back_23 rfl (lv_at hl 0 rfl) ?_
  refine va_get (D := D) (ci := 8) (v := .ref (h 14)) (C := RX8) (T := TX8) (N := 56) hx hb hts tb_wsX80 hown hK.1 hP 0 rfl rfl 17 (by decide) (hts _ tb_5_20) (fun _ h9 => h9) rfl dX8_back_24 ?_
  refine lv_iload_n hx hb dX8_back_27 rfl (lv_at hl 1 rfl) ?_
  obtain ⟨h3, hf⟩ := zck_s hf
  refine va_lald hx hb hK.1 hP 14 1 rfl rfl h3 dX8_back_28 ?_
  obtain ⟨h4, hf⟩ := zck_s hf
  refine va_last hx hb hK.1 hP hD hS 6 1 rfl rfl h4 dX8_back_29 (fun H locs hP hD hS => ?_)
  replace hP : va_P D vwCl (zWM cI cJ cZ h mG mH (tmR.s_rUp (tmR.s_rPiece mR (upd (tmR.rPiece mR) (tmR.rMany mR).toNatClampNeg ((tmS.sPiece mS) a1.toNatClampNeg))) (vp_updL (tmR.rUp mR) (tmR.rMany mR).toNatClampNeg ((tmS.sUp mS) a1.toNatClampNeg))) mW mS mK mD mN mO mB mM mF) H := hP
  replace hD : va_D A (zWM cI cJ cZ h mG mH (tmR.s_rUp (tmR.s_rPiece mR (upd (tmR.rPiece mR) (tmR.rMany mR).toNatClampNeg ((tmS.sPiece mS) a1.toNatClampNeg))) (vp_updL (tmR.rUp mR) (tmR.rMany mR).toNatClampNeg ((tmS.sUp mS) a1.toNatClampNeg))) mW mS mK mD mN mO mB mM mF) := hD
  refine lv_aload_n hx hb dX8_back_30 rfl (lv_at hl 0 rfl) ?_
  refine va_get (D := D) (ci := 8) (v := .ref (h 7)) (C := RX8) (T := TX8) (N := 56) hx hb hts tb_wsX80 hown hK.1 hP 0 rfl rfl 8 (by decide) (hts _ tb_5_12) (fun _ h9 => h9) rfl dX8_back_31 ?_
  refine lv_aload_n hx hb dX8_back_34 rfl (lv_at hl 0 rfl) ?_
  refine va_get (D := D) (ci := 8) (v := .int (tmR.rMany mR)) (C := RX8) (T := TX8) (N := 56) hx hb hts tb_wsX80 hown hK.1 hP 0 rfl rfl 11 (by decide) (hts _ tb_14_19) (fun _ h9 => h9) rfl dX8_back_35 ?_
  refine lv_aload_n hx hb dX8_back_38 rfl (lv_at hl 0 rfl) ?_
  refine va_get (D := D) (ci := 8) (v := .ref (h 15)) (C := RX8) (T := TX8) (N := 56) hx hb hts tb_wsX80 hown hK.1 hP 0 rfl rfl 18 (by decide) (hts _ tb_5_21) (fun _ h9 => h9) rfl dX8_back_39 ?_
  refine lv_iload_n hx hb dX8_back_42 rfl (lv_at hl 1 rfl) ?_
  obtain ⟨h5, hf⟩ := zck_s hf
  refine va_lald hx hb hK.1 hP 15 1 rfl rfl h5 dX8_back_43 ?_
  obtain ⟨h6, hf⟩ := zck_s hf
  refine va_last hx hb hK.1 hP hD hS 7 1 rfl rfl h6 dX8_back_44 (fun H locs hP hD hS => ?_)
  replace hP : va_P D vwCl (zWM cI cJ cZ h mG mH (tmR.s_rLow (tmR.s_rUp (tmR.s_rPiece mR (upd (tmR.rPiece mR) (tmR.rMany mR).toNatClampNeg ((tmS.sPiece mS) a1.toNatClampNeg))) (vp_updL (tmR.rUp mR) (tmR.rMany mR).toNatClampNeg ((tmS.sUp mS) a1.toNatClampNeg))) (vp_updL (tmR.rLow mR) (tmR.rMany mR).toNatClampNeg ((tmS.sLow mS) a1.toNatClampNeg))) mW mS mK mD mN mO mB mM mF) H := hP
  replace hD : va_D A (zWM cI cJ cZ h mG mH (tmR.s_rLow (tmR.s_rUp (tmR.s_rPiece mR (upd (tmR.rPiece mR) (tmR.rMany mR).toNatClampNeg ((tmS.sPiece mS) a1.toNatClampNeg))) (vp_updL (tmR.rUp mR) (tmR.rMany mR).toNatClampNeg ((tmS.sUp mS) a1.toNatClampNeg))) (vp_updL (tmR.rLow mR) (tmR.rMany mR).toNatClampNeg ((tmS.sLow mS) a1.toNatClampNeg))) mW mS mK mD mN mO mB mM mF) := hD
  refine lv_aload_n hx hb dX8_back_45 rfl (lv_at hl 0 rfl) ?_
  refine va_get (D := D) (ci := 8) (v := .ref (h 8)) (C := RX8) (T := TX8) (N := 56) hx hb hts tb_wsX80 hown hK.1 hP 0 rfl rfl 9 (by decide) (hts _ tb_5_13) (fun _ h9 => h9) rfl dX8_back_46 ?_
  refine lv_aload_n hx hb dX8_back_49 rfl (lv_at hl 0 rfl) ?_
  refine va_get (D := D) (ci := 8) (v := .int (tmR.rMany mR)) (C := RX8) (T := TX8) (N := 56) hx hb hts tb_wsX80 hown hK.1 hP 0 rfl rfl 11 (by decide) (hts _ tb_14_19) (fun _ h9 => h9) rfl dX8_back_50 ?_
  refine lv_aload_n hx hb dX8_back_53 rfl (lv_at hl 0 rfl) ?_
  refine va_get (D := D) (ci := 8) (v := .ref (h 16)) (C := RX8) (T := TX8) (N := 56) hx hb hts tb_wsX80 hown hK.1 hP 0 rfl rfl 19 (by decide) (hts _ tb_5_22) (fun _ h9 => h9) rfl dX8_back_54 ?_
  refine lv_iload_n hx hb dX8_back_57 rfl (lv_at hl 1 rfl) ?_
  obtain ⟨h7, hf⟩ := zck_s hf
  refine va_lald hx hb hK.1 hP 16 1 rfl rfl h7 dX8_back_58 ?_
  obtain ⟨h8, hf⟩ := zck_s hf
  refine va_last hx hb hK.1 hP hD hS 8 1 rfl rfl h8 dX8_back_59 (fun H locs hP hD hS => ?_)
  replace hP : va_P D vwCl (zWM cI cJ cZ h mG mH (tmR.s_rUp2 (tmR.s_rLow (tmR.s_rUp (tmR.s_rPiece mR (upd (tmR.rPiece mR) (tmR.rMany mR).toNatClampNeg ((tmS.sPiece mS) a1.toNatClampNeg))) (vp_updL (tmR.rUp mR) (tmR.rMany mR).toNatClampNeg ((tmS.sUp mS) a1.toNatClampNeg))) (vp_updL (tmR.rLow mR) (tmR.rMany mR).toNatClampNeg ((tmS.sLow mS) a1.toNatClampNeg))) (vp_updL (tmR.rUp2 mR) (tmR.rMany mR).toNatClampNeg ((tmS.sUp2 mS) a1.toNatClampNeg))) mW mS mK mD mN mO mB mM mF) H := hP
  replace hD : va_D A (zWM cI cJ cZ h mG mH (tmR.s_rUp2 (tmR.s_rLow (tmR.s_rUp (tmR.s_rPiece mR (upd (tmR.rPiece mR) (tmR.rMany mR).toNatClampNeg ((tmS.sPiece mS) a1.toNatClampNeg))) (vp_updL (tmR.rUp mR) (tmR.rMany mR).toNatClampNeg ((tmS.sUp mS) a1.toNatClampNeg))) (vp_updL (tmR.rLow mR) (tmR.rMany mR).toNatClampNeg ((tmS.sLow mS) a1.toNatClampNeg))) (vp_updL (tmR.rUp2 mR) (tmR.rMany mR).toNatClampNeg ((tmS.sUp2 mS) a1.toNatClampNeg))) mW mS mK mD mN mO mB mM mF) := hD
  refine lv_aload_n hx hb dX8_back_60 rfl (lv_at hl 0 rfl) ?_
  refine va_get (D := D) (ci := 8) (v := .ref (h 9)) (C := RX8) (T := TX8) (N := 56) hx hb hts tb_wsX80 hown hK.1 hP 0 rfl rfl 10 (by decide) (hts _ tb_5_14) (fun _ h9 => h9) rfl dX8_back_61 ?_
  refine lv_aload_n hx hb dX8_back_64 rfl (lv_at hl 0 rfl) ?_
  refine va_get (D := D) (ci := 8) (v := .int (tmR.rMany mR)) (C := RX8) (T := TX8) (N := 56) hx hb hts tb_wsX80 hown hK.1 hP 0 rfl rfl 11 (by decide) (hts _ tb_14_19) (fun _ h9 => h9) rfl dX8_back_65 ?_
  refine lv_aload_n hx hb dX8_back_68 rfl (lv_at hl 0 rfl) ?_
  refine va_get (D := D) (ci := 8) (v := .ref (h 17)) (C := RX8) (T := TX8) (N := 56) hx hb hts tb_wsX80 hown hK.1 hP 0 rfl rfl 20 (by decide) (hts _ tb_5_23) (fun _ h9 => h9) rfl dX8_back_69 ?_
  refine lv_iload_n hx hb dX8_back_72 rfl (lv_at hl 1 rfl) ?_
  obtain ⟨h9, hf⟩ := zck_s hf
  refine va_lald hx hb hK.1 hP 17 1 rfl rfl h9 dX8_back_73 ?_
  obtain ⟨h10, hf⟩ := zck_s hf
  refine va_last hx hb hK.1 hP hD hS 9 1 rfl rfl h10 dX8_back_74 (fun H locs hP hD hS => ?_)
  replace hP : va_P D vwCl (zWM cI cJ cZ h mG mH (tmR.s_rLow2 (tmR.s_rUp2 (tmR.s_rLow (tmR.s_rUp (tmR.s_rPiece mR (upd (tmR.rPiece mR) (tmR.rMany mR).toNatClampNeg ((tmS.sPiece mS) a1.toNatClampNeg))) (vp_updL (tmR.rUp mR) (tmR.rMany mR).toNatClampNeg ((tmS.sUp mS) a1.toNatClampNeg))) (vp_updL (tmR.rLow mR) (tmR.rMany mR).toNatClampNeg ((tmS.sLow mS) a1.toNatClampNeg))) (vp_updL (tmR.rUp2 mR) (tmR.rMany mR).toNatClampNeg ((tmS.sUp2 mS) a1.toNatClampNeg))) (vp_updL (tmR.rLow2 mR) (tmR.rMany mR).toNatClampNeg ((tmS.sLow2 mS) a1.toNatClampNeg))) mW mS mK mD mN mO mB mM mF) H := hP
  replace hD : va_D A (zWM cI cJ cZ h mG mH (tmR.s_rLow2 (tmR.s_rUp2 (tmR.s_rLow (tmR.s_rUp (tmR.s_rPiece mR (upd (tmR.rPiece mR) (tmR.rMany mR).toNatClampNeg ((tmS.sPiece mS) a1.toNatClampNeg))) (vp_updL (tmR.rUp mR) (tmR.rMany mR).toNatClampNeg ((tmS.sUp mS) a1.toNatClampNeg))) (vp_updL (tmR.rLow mR) (tmR.rMany mR).toNatClampNeg ((tmS.sLow mS) a1.toNatClampNeg))) (vp_updL (tmR.rUp2 mR) (tmR.rMany mR).toNatClampNeg ((tmS.sUp2 mS) a1.toNatClampNeg))) (vp_updL (tmR.rLow2 mR) (tmR.rMany mR).toNatClampNeg ((tmS.sLow2 mS) a1.toNatClampNeg))) mW mS mK mD mN mO mB mM mF) := hD
  refine lv_aload_n hx hb dX8_back_75 rfl (lv_at hl 0 rfl) ?_
  refine lv_dup hx hb dX8_back_76 rfl ?_
  refine va_get (D := D) (ci := 8) (v := .int (tmR.rMany mR)) (C := RX8) (T := TX8) (N := 56) hx hb hts tb_wsX80 hown hK.1 hP 0 rfl rfl 11 (by decide) (hts _ tb_14_19) (fun _ h9 => h9) rfl dX8_back_77 ?_
  refine lv_iconst (v := 1) hx hb dX8_back_80 (by decide) ?_
  refine lv_iadd hx hb dX8_back_81 ?_
  refine va_put (D := D) (ci := 8) (v := .int ((tmR.rMany mR) + (1 : Int32))) (ty := .int) (C := RX8) (T := TX8) (N := 56) hx hb hts tb_wsX80 tyX8 tyX8_ok nmX8 hown hK.1 hP hD hS 0 rfl rfl 11 (by decide) (hts _ tb_14_19) (fun _ h9 => h9) rfl (by decide +kernel) rfl rfl (Nat.le_of_ble_eq_true rfl) dX8_back_82 (fun H locs hP hD hS => ?_)
  replace hP : va_P D vwCl (zWM cI cJ cZ h mG mH (tmR.s_rMany (tmR.s_rLow2 (tmR.s_rUp2 (tmR.s_rLow (tmR.s_rUp (tmR.s_rPiece mR (upd (tmR.rPiece mR) (tmR.rMany mR).toNatClampNeg ((tmS.sPiece mS) a1.toNatClampNeg))) (vp_updL (tmR.rUp mR) (tmR.rMany mR).toNatClampNeg ((tmS.sUp mS) a1.toNatClampNeg))) (vp_updL (tmR.rLow mR) (tmR.rMany mR).toNatClampNeg ((tmS.sLow mS) a1.toNatClampNeg))) (vp_updL (tmR.rUp2 mR) (tmR.rMany mR).toNatClampNeg ((tmS.sUp2 mS) a1.toNatClampNeg))) (vp_updL (tmR.rLow2 mR) (tmR.rMany mR).toNatClampNeg ((tmS.sLow2 mS) a1.toNatClampNeg))) ((tmR.rMany mR) + (1 : Int32))) mW mS mK mD mN mO mB mM mF) H := hP
  replace hD : va_D A (zWM cI cJ cZ h mG mH (tmR.s_rMany (tmR.s_rLow2 (tmR.s_rUp2 (tmR.s_rLow (tmR.s_rUp (tmR.s_rPiece mR (upd (tmR.rPiece mR) (tmR.rMany mR).toNatClampNeg ((tmS.sPiece mS) a1.toNatClampNeg))) (vp_updL (tmR.rUp mR) (tmR.rMany mR).toNatClampNeg ((tmS.sUp mS) a1.toNatClampNeg))) (vp_updL (tmR.rLow mR) (tmR.rMany mR).toNatClampNeg ((tmS.sLow mS) a1.toNatClampNeg))) (vp_updL (tmR.rUp2 mR) (tmR.rMany mR).toNatClampNeg ((tmS.sUp2 mS) a1.toNatClampNeg))) (vp_updL (tmR.rLow2 mR) (tmR.rMany mR).toNatClampNeg ((tmS.sLow2 mS) a1.toNatClampNeg))) ((tmR.rMany mR) + (1 : Int32))) mW mS mK mD mN mO mB mM mF) := hD
  have hu := Option.some.inj hf
  subst hu
  exact z_vret hC hP hD hS dX8_back_85
set_option maxHeartbeats 4000000 in
set_option maxRecDepth 100000 in
theorem c_X8_side (l : Launch) (D : va_G) (cI cJ cZ : ClassId) (h : Nat → Nat) (mG : tmG) (mH : tmH) (mR : tmR) (mW : tmW) (mS : tmS) (mK : tmK) (mD : tmD) (mN : tmN) (mO : tmO) (mB : tmB) (mM : tmM) (mF : tmF) (a1 : Int32) (a2 : Int64) (a4 : Int64) (u : Int64) (hf : X8_side mG a1 a2 a4 = some u) (sz : Nat) : Met l yX8_side (Cond.code yX8_side cX8_side 6 (some .long) :: tb_L) ({ frames := 0, cells := 0, slots := 0, locals := 0 } : Room) (zPre D (zty cI cJ cZ) (zWM cI cJ cZ h mG mH mR mW mS mK mD mN mO mB mM mF) sz [.ref (h 0), .int a1, .long a2, .long a4]) (zQl D (va_A (zWM cI cJ cZ h mG mH mR mW mS mK mD mN mO mB mM mF) sz) (zWM cI cJ cZ h mG mH mR mW mS mK mD mN mO mB mM mF) (u)) 0 0 (va_A (zWM cI cJ cZ h mG mH mR mW mS mK mD mN mO mB mM mF) sz) := by
  refine zMet (Qc := fun A => zQl D A (zWM cI cJ cZ h mG mH mR mW mS mK mD mN mO mB mM mF) (u)) (by decide) rfl (Nat.le_of_ble_eq_true rfl) ?_
  intro p e s m args below meth c A ls hC _ hP hD hS hl
  replace hl : lv_has ls 6 [(0, .ref (h 0)), (1, .int a1), (2, .long a2), (4, .long a4)] := hl
  obtain ⟨hx, hb, hml, hown, hts, hK, hr, hlocks, hA⟩ := id hC
  unfold X8_side at hf
  obtain ⟨H, hH⟩ : ∃ H, H = s.heap := ⟨_, rfl⟩
  rw [← hH] at hP
  replace hS : va_S A s.heap H [] := by rw [hH]; exact hS
  show W p l e _ s m args below meth c s.heap [] 0 0 _ _
  rw [← hH]
  clear hH
  obtain ⟨locs, hlo⟩ : ∃ x : List Loc, x = [] := ⟨_, rfl⟩
  rw [← hlo] at hS ⊢
  clear hlo
  refine lv_aload_n hx hb dX8_side_0 rfl (lv_at hl 0 rfl) ?_
  refine va_get (D := D) (ci := 8) (v := .ref (h 3)) (C := RX8) (T := TX8) (N := 56) hx hb hts tb_wsX80 hown hK.1 hP 0 rfl rfl 3 (by decide) (hts _ tb_5_8) (fun _ h9 => h9) rfl dX8_side_1 ?_
  refine lv_iload_n hx hb dX8_side_4 rfl (lv_at hl 1 rfl) ?_
  obtain ⟨h1, hf⟩ := zck_s hf
  refine va_iald hx hb hK.1 hP 3 0 rfl rfl h1 dX8_side_5 ?_
  refine lv_i2l (v := (((tmG.dx mG) a1.toNatClampNeg)).toInt64) hx hb dX8_side_6 rfl ?_
  refine lv_lload hx hb dX8_side_7 (lv_at hl 3 rfl) ?_
  refine lv_aload_n hx hb dX8_side_9 rfl (lv_at hl 0 rfl) ?_
  refine va_get (D := D) (ci := 8) (v := .ref (h 2)) (C := RX8) (T := TX8) (N := 56) hx hb hts tb_wsX80 hown hK.1 hP 0 rfl rfl 2 (by decide) (hts _ tb_5_7) (fun _ h9 => h9) rfl dX8_side_10 ?_
  refine lv_iload_n hx hb dX8_side_13 rfl (lv_at hl 1 rfl) ?_
  obtain ⟨h2, hf⟩ := zck_s hf
  refine va_iald hx hb hK.1 hP 2 0 rfl rfl h2 dX8_side_14 ?_
  refine lv_i2l (v := (((tmG.py mG) a1.toNatClampNeg)).toInt64) hx hb dX8_side_15 rfl ?_
  refine lv_lsub hx hb dX8_side_16 ?_
  refine lv_lmul hx hb dX8_side_17 ?_
  refine lv_aload_n hx hb dX8_side_18 rfl (lv_at hl 0 rfl) ?_
  refine va_get (D := D) (ci := 8) (v := .ref (h 4)) (C := RX8) (T := TX8) (N := 56) hx hb hts tb_wsX80 hown hK.1 hP 0 rfl rfl 4 (by decide) (hts _ tb_5_9) (fun _ h9 => h9) rfl dX8_side_19 ?_
  refine lv_iload_n hx hb dX8_side_22 rfl (lv_at hl 1 rfl) ?_
  obtain ⟨h3, hf⟩ := zck_s hf
  refine va_iald hx hb hK.1 hP 4 0 rfl rfl h3 dX8_side_23 ?_
  refine lv_i2l (v := (((tmG.dy mG) a1.toNatClampNeg)).toInt64) hx hb dX8_side_24 rfl ?_
  refine lv_lload_n hx hb dX8_side_25 rfl (lv_at hl 2 rfl) ?_
  refine lv_aload_n hx hb dX8_side_26 rfl (lv_at hl 0 rfl) ?_
  refine va_get (D := D) (ci := 8) (v := .ref (h 1)) (C := RX8) (T := TX8) (N := 56) hx hb hts tb_wsX80 hown hK.1 hP 0 rfl rfl 1 (by decide) (hts _ tb_5_6) (fun _ h9 => h9) rfl dX8_side_27 ?_
  refine lv_iload_n hx hb dX8_side_30 rfl (lv_at hl 1 rfl) ?_
  obtain ⟨h4, hf⟩ := zck_s hf
  refine va_iald hx hb hK.1 hP 1 0 rfl rfl h4 dX8_side_31 ?_
  refine lv_i2l (v := (((tmG.px mG) a1.toNatClampNeg)).toInt64) hx hb dX8_side_32 rfl ?_
  refine lv_lsub hx hb dX8_side_33 ?_
  refine lv_lmul hx hb dX8_side_34 ?_
  refine lv_lsub hx hb dX8_side_35 ?_
  have hu := Option.some.inj hf
  subst hu
  exact z_lret hC hP hD hS dX8_side_36
set_option maxHeartbeats 4000000 in
set_option maxRecDepth 100000 in
theorem c_X8_slope (l : Launch) (D : va_G) (cI cJ cZ : ClassId) (h : Nat → Nat) (mG : tmG) (mH : tmH) (mR : tmR) (mW : tmW) (mS : tmS) (mK : tmK) (mD : tmD) (mN : tmN) (mO : tmO) (mB : tmB) (mM : tmM) (mF : tmF) (a1 : Int32) (a2 : Int32) (u : Int64) (hf : X8_slope mG a1 a2 = some u) (sz : Nat) : Met l yX8_slope (Cond.code yX8_slope cX8_slope 3 (some .long) :: tb_L) ({ frames := 0, cells := 0, slots := 0, locals := 0 } : Room) (zPre D (zty cI cJ cZ) (zWM cI cJ cZ h mG mH mR mW mS mK mD mN mO mB mM mF) sz [.ref (h 0), .int a1, .int a2]) (zQl D (va_A (zWM cI cJ cZ h mG mH mR mW mS mK mD mN mO mB mM mF) sz) (zWM cI cJ cZ h mG mH mR mW mS mK mD mN mO mB mM mF) (u)) 0 0 (va_A (zWM cI cJ cZ h mG mH mR mW mS mK mD mN mO mB mM mF) sz) := by
  refine zMet (Qc := fun A => zQl D A (zWM cI cJ cZ h mG mH mR mW mS mK mD mN mO mB mM mF) (u)) (by decide) rfl (Nat.le_of_ble_eq_true rfl) ?_
  intro p e s m args below meth c A ls hC _ hP hD hS hl
  replace hl : lv_has ls 3 [(0, .ref (h 0)), (1, .int a1), (2, .int a2)] := hl
  obtain ⟨hx, hb, hml, hown, hts, hK, hr, hlocks, hA⟩ := id hC
  unfold X8_slope at hf
  obtain ⟨H, hH⟩ : ∃ H, H = s.heap := ⟨_, rfl⟩
  rw [← hH] at hP
  replace hS : va_S A s.heap H [] := by rw [hH]; exact hS
  show W p l e _ s m args below meth c s.heap [] 0 0 _ _
  rw [← hH]
  clear hH
  obtain ⟨locs, hlo⟩ : ∃ x : List Loc, x = [] := ⟨_, rfl⟩
  rw [← hlo] at hS ⊢
  clear hlo
  refine lv_aload_n hx hb dX8_slope_0 rfl (lv_at hl 0 rfl) ?_
  refine va_get (D := D) (ci := 8) (v := .ref (h 3)) (C := RX8) (T := TX8) (N := 56) hx hb hts tb_wsX80 hown hK.1 hP 0 rfl rfl 3 (by decide) (hts _ tb_5_8) (fun _ h9 => h9) rfl dX8_slope_1 ?_
  refine lv_iload_n hx hb dX8_slope_4 rfl (lv_at hl 1 rfl) ?_
  obtain ⟨h1, hf⟩ := zck_s hf
  refine va_iald hx hb hK.1 hP 3 0 rfl rfl h1 dX8_slope_5 ?_
  refine lv_i2l (v := (((tmG.dx mG) a1.toNatClampNeg)).toInt64) hx hb dX8_slope_6 rfl ?_
  refine lv_aload_n hx hb dX8_slope_7 rfl (lv_at hl 0 rfl) ?_
  refine va_get (D := D) (ci := 8) (v := .ref (h 4)) (C := RX8) (T := TX8) (N := 56) hx hb hts tb_wsX80 hown hK.1 hP 0 rfl rfl 4 (by decide) (hts _ tb_5_9) (fun _ h9 => h9) rfl dX8_slope_8 ?_
  refine lv_iload_n hx hb dX8_slope_11 rfl (lv_at hl 2 rfl) ?_
  obtain ⟨h2, hf⟩ := zck_s hf
  refine va_iald hx hb hK.1 hP 4 0 rfl rfl h2 dX8_slope_12 ?_
  refine lv_i2l (v := (((tmG.dy mG) a2.toNatClampNeg)).toInt64) hx hb dX8_slope_13 rfl ?_
  refine lv_lmul hx hb dX8_slope_14 ?_
  refine lv_aload_n hx hb dX8_slope_15 rfl (lv_at hl 0 rfl) ?_
  refine va_get (D := D) (ci := 8) (v := .ref (h 4)) (C := RX8) (T := TX8) (N := 56) hx hb hts tb_wsX80 hown hK.1 hP 0 rfl rfl 4 (by decide) (hts _ tb_5_9) (fun _ h9 => h9) rfl dX8_slope_16 ?_
  refine lv_iload_n hx hb dX8_slope_19 rfl (lv_at hl 1 rfl) ?_
  obtain ⟨h3, hf⟩ := zck_s hf
  refine va_iald hx hb hK.1 hP 4 0 rfl rfl h3 dX8_slope_20 ?_
  refine lv_i2l (v := (((tmG.dy mG) a1.toNatClampNeg)).toInt64) hx hb dX8_slope_21 rfl ?_
  refine lv_aload_n hx hb dX8_slope_22 rfl (lv_at hl 0 rfl) ?_
  refine va_get (D := D) (ci := 8) (v := .ref (h 3)) (C := RX8) (T := TX8) (N := 56) hx hb hts tb_wsX80 hown hK.1 hP 0 rfl rfl 3 (by decide) (hts _ tb_5_8) (fun _ h9 => h9) rfl dX8_slope_23 ?_
  refine lv_iload_n hx hb dX8_slope_26 rfl (lv_at hl 2 rfl) ?_
  obtain ⟨h4, hf⟩ := zck_s hf
  refine va_iald hx hb hK.1 hP 3 0 rfl rfl h4 dX8_slope_27 ?_
  refine lv_i2l (v := (((tmG.dx mG) a2.toNatClampNeg)).toInt64) hx hb dX8_slope_28 rfl ?_
  refine lv_lmul hx hb dX8_slope_29 ?_
  refine lv_lsub hx hb dX8_slope_30 ?_
  have hu := Option.some.inj hf
  subst hu
  exact z_lret hC hP hD hS dX8_slope_31
set_option maxHeartbeats 4000000 in
set_option maxRecDepth 100000 in
theorem c_X8_sideAt (l : Launch) (D : va_G) (cI cJ cZ : ClassId) (h : Nat → Nat) (mG : tmG) (mH : tmH) (mR : tmR) (mW : tmW) (mS : tmS) (mK : tmK) (mD : tmD) (mN : tmN) (mO : tmO) (mB : tmB) (mM : tmM) (mF : tmF) (a1 : Int32) (a2 : Int32) (a3 : Int64) (a5 : Int64) (u : Int64) (hf : X8_sideAt mG a1 a2 a3 a5 = some u) (sz : Nat) : Met l yX8_sideAt (Cond.code yX8_sideAt cX8_sideAt 7 (some .long) :: tb_L) ({ frames := 1, cells := 0, slots := 0, locals := 25 } : Room) (zPre D (zty cI cJ cZ) (zWM cI cJ cZ h mG mH mR mW mS mK mD mN mO mB mM mF) sz [.ref (h 0), .int a1, .int a2, .long a3, .long a5]) (zQl D (va_A (zWM cI cJ cZ h mG mH mR mW mS mK mD mN mO mB mM mF) sz) (zWM cI cJ cZ h mG mH mR mW mS mK mD mN mO mB mM mF) (u)) 0 0 (va_A (zWM cI cJ cZ h mG mH mR mW mS mK mD mN mO mB mM mF) sz) := by
  refine zMet (Qc := fun A => zQl D A (zWM cI cJ cZ h mG mH mR mW mS mK mD mN mO mB mM mF) (u)) (by decide) rfl (Nat.le_of_ble_eq_true rfl) ?_
  intro p e s m args below meth c A ls hC _ hP hD hS hl
  replace hl : lv_has ls 7 [(0, .ref (h 0)), (1, .int a1), (2, .int a2), (3, .long a3), (5, .long a5)] := hl
  obtain ⟨hx, hb, hml, hown, hts, hK, hr, hlocks, hA⟩ := id hC
  unfold X8_sideAt at hf
  obtain ⟨H, hH⟩ : ∃ H, H = s.heap := ⟨_, rfl⟩
  rw [← hH] at hP
  replace hS : va_S A s.heap H [] := by rw [hH]; exact hS
  show W p l e _ s m args below meth c s.heap [] 0 0 _ _
  rw [← hH]
  clear hH
  obtain ⟨locs, hlo⟩ : ∃ x : List Loc, x = [] := ⟨_, rfl⟩
  rw [← hlo] at hS ⊢
  clear hlo
  refine lv_aload_n hx hb dX8_sideAt_0 rfl (lv_at hl 0 rfl) ?_
  refine lv_iload_n hx hb dX8_sideAt_1 rfl (lv_at hl 1 rfl) ?_
  refine lv_aload_n hx hb dX8_sideAt_2 rfl (lv_at hl 0 rfl) ?_
  refine va_get (D := D) (ci := 8) (v := .ref (h 1)) (C := RX8) (T := TX8) (N := 56) hx hb hts tb_wsX80 hown hK.1 hP 0 rfl rfl 1 (by decide) (hts _ tb_5_6) (fun _ h9 => h9) rfl dX8_sideAt_3 ?_
  refine lv_iload_n hx hb dX8_sideAt_6 rfl (lv_at hl 2 rfl) ?_
  obtain ⟨h1, hf⟩ := zck_s hf
  refine va_iald hx hb hK.1 hP 1 0 rfl rfl h1 dX8_sideAt_7 ?_
  refine lv_i2l (v := (((tmG.px mG) a2.toNatClampNeg)).toInt64) hx hb dX8_sideAt_8 rfl ?_
  refine lv_aload_n hx hb dX8_sideAt_9 rfl (lv_at hl 0 rfl) ?_
  refine va_get (D := D) (ci := 8) (v := .ref (h 2)) (C := RX8) (T := TX8) (N := 56) hx hb hts tb_wsX80 hown hK.1 hP 0 rfl rfl 2 (by decide) (hts _ tb_5_7) (fun _ h9 => h9) rfl dX8_sideAt_10 ?_
  refine lv_iload_n hx hb dX8_sideAt_13 rfl (lv_at hl 2 rfl) ?_
  obtain ⟨h2, hf⟩ := zck_s hf
  refine va_iald hx hb hK.1 hP 2 0 rfl rfl h2 dX8_sideAt_14 ?_
  refine lv_i2l (v := (((tmG.py mG) a2.toNatClampNeg)).toInt64) hx hb dX8_sideAt_15 rfl ?_
  obtain ⟨u3, hu3, hf⟩ := zbd hf
  refine zthen_l hA hD hS (zrunV (As := [.int a1, .long ((((tmG.px mG) a2.toNatClampNeg)).toInt64), .long ((((tmG.py mG) a2.toNatClampNeg)).toInt64)]) (rest := []) hC hP hD 0 rfl rfl (c_X8_side l D cI cJ cZ h  mG mH mR mW mS mK mD mN mO mB mM mF a1 ((((tmG.px mG) a2.toNatClampNeg)).toInt64) ((((tmG.py mG) a2.toNatClampNeg)).toInt64) u3 hu3 H.size) kRX8_153 rfl rfl ⟨by decide, by decide⟩ rfl hl.1 rfl (Nat.le_of_ble_eq_true rfl) dX8_sideAt_16) (fun H locs hP hD hS => ?_)
  refine lv_lload hx hb dX8_sideAt_19 (lv_at hl 4 rfl) ?_
  refine lv_lmul hx hb dX8_sideAt_21 ?_
  refine lv_aload_n hx hb dX8_sideAt_22 rfl (lv_at hl 0 rfl) ?_
  refine lv_iload_n hx hb dX8_sideAt_23 rfl (lv_at hl 1 rfl) ?_
  refine lv_iload_n hx hb dX8_sideAt_24 rfl (lv_at hl 2 rfl) ?_
  obtain ⟨u4, hu4, hf⟩ := zbd hf
  refine zthen_l hA hD hS (zrunV (As := [.int a1, .int a2]) (rest := [.long (u3 * a5)]) hC hP hD 0 rfl rfl (c_X8_slope l D cI cJ cZ h  mG mH mR mW mS mK mD mN mO mB mM mF a1 a2 u4 hu4 H.size) kRX8_157 rfl rfl ⟨by decide, by decide⟩ rfl hl.1 rfl (Nat.le_of_ble_eq_true rfl) dX8_sideAt_25) (fun H locs hP hD hS => ?_)
  refine lv_lload_n hx hb dX8_sideAt_28 rfl (lv_at hl 3 rfl) ?_
  refine lv_lmul hx hb dX8_sideAt_29 ?_
  refine lv_ladd hx hb dX8_sideAt_30 ?_
  have hu := Option.some.inj hf
  subst hu
  exact z_lret hC hP hD hS dX8_sideAt_31
set_option maxHeartbeats 4000000 in
set_option maxRecDepth 100000 in
theorem t_X8_does_b71 {p : Program} {l : Launch} {e : Env} {s : State} {m : MethodId} {args : Array Value} {below : List Frame} {meth : Method} {c : Code} {A : Nat → Prop} {D : va_G} {cI cJ cZ : ClassId} {h : Nat → Nat} (hC : zCx p s m args meth c A D (zty cI cJ cZ) cX8_does RX8 15 (some .int)) (mG : tmG) (mH : tmH) (mR : tmR) (mW : tmW) (mS : tmS) (mK : tmK) (mD : tmD) (mN : tmN) (mO : tmO) (mB : tmB) (mM : tmM) (mF : tmF) (u : Int32) : ∀ (v11 : Int64) (H : Heap) (locs : List Loc) (ls : Array Slot), va_P D vwCl (zWM cI cJ cZ h mG mH mR mW mS mK mD mN mO mB mM mF) H → va_D A (zWM cI cJ cZ h mG mH mR mW mS mK mD mN mO mB mM mF) → va_S A s.heap H locs → lv_has ls 15 [(11, .long v11)] → X8_does_b71 mG v11 = some u → W p l e ({ frames := 2, cells := 0, slots := 0, locals := 51 } : Room) s m args below meth c H locs 0 0 (MQ below (zQi D A (zWM cI cJ cZ h mG mH mR mW mS mK mD mN mO mB mM mF) (u)) args s 0 0 A) (F0 m 71 ls []) := by
  intro v11 H locs ls hP hD hS hl hf
  obtain ⟨hx, hb, hml, hown, hts, hK, hr, hlocks, hA⟩ := id hC
  unfold X8_does_b71 at hf
  refine lv_lload hx hb dX8_does_71 (lv_at hl 0 rfl) ?_
  refine lv_lconst (v := 0) hx hb dX8_does_73 (by decide) ?_
  refine W.lcmp hx hb dX8_does_74 ?_
  refine lv_if_le (tgt := 82) hx hb dX8_does_75 (by decide) (fun c1 => ?_) (fun c1 => ?_)
  · replace hf := zif_t hf c1
    refine lv_iconst (v := 4) hx hb dX8_does_82 (by decide) ?_
    have hu := Option.some.inj hf
    subst hu
    exact z_iret hC hP hD hS dX8_does_83
  · replace hf := zif_f hf c1
    refine lv_iconst (v := 3) hx hb dX8_does_78 (by decide) ?_
    refine lv_goto (tgt := 83) hx hb dX8_does_79 (by decide) ?_
    have hu := Option.some.inj hf
    subst hu
    exact z_iret hC hP hD hS dX8_does_83
set_option maxHeartbeats 4000000 in
set_option maxRecDepth 100000 in
theorem t_X8_does_b55 {p : Program} {l : Launch} {e : Env} {s : State} {m : MethodId} {args : Array Value} {below : List Frame} {meth : Method} {c : Code} {A : Nat → Prop} {D : va_G} {cI cJ cZ : ClassId} {h : Nat → Nat} (hC : zCx p s m args meth c A D (zty cI cJ cZ) cX8_does RX8 15 (some .int)) (mG : tmG) (mH : tmH) (mR : tmR) (mW : tmW) (mS : tmS) (mK : tmK) (mD : tmD) (mN : tmN) (mO : tmO) (mB : tmB) (mM : tmM) (mF : tmF) (u : Int32) : ∀ (v11 : Int64) (v13 : Int64) (H : Heap) (locs : List Loc) (ls : Array Slot), va_P D vwCl (zWM cI cJ cZ h mG mH mR mW mS mK mD mN mO mB mM mF) H → va_D A (zWM cI cJ cZ h mG mH mR mW mS mK mD mN mO mB mM mF) → va_S A s.heap H locs → lv_has ls 15 [(11, .long v11), (13, .long v13)] → X8_does_b55 mG v11 v13 = some u → W p l e ({ frames := 2, cells := 0, slots := 0, locals := 51 } : Room) s m args below meth c H locs 0 0 (MQ below (zQi D A (zWM cI cJ cZ h mG mH mR mW mS mK mD mN mO mB mM mF) (u)) args s 0 0 A) (F0 m 55 ls []) := by
  intro v11 v13 H locs ls hP hD hS hl hf
  obtain ⟨hx, hb, hml, hown, hts, hK, hr, hlocks, hA⟩ := id hC
  unfold X8_does_b55 at hf
  refine lv_lload hx hb dX8_does_55 (lv_at hl 0 rfl) ?_
  refine lv_lconst (v := 0) hx hb dX8_does_57 (by decide) ?_
  refine W.lcmp hx hb dX8_does_58 ?_
  refine lv_if_gt (tgt := 71) hx hb dX8_does_59 (by decide) (fun c2 => ?_) (fun c2 => ?_)
  · replace hf := zif_t hf c2
    exact t_X8_does_b71 hC  mG mH mR mW mS mK mD mN mO mB mM mF u v11 H locs ls hP hD hS (lv_sub hl [0] rfl) hf
  · replace hf := zif_f hf c2
    refine lv_lload hx hb dX8_does_62 (lv_at hl 1 rfl) ?_
    refine lv_lconst (v := 0) hx hb dX8_does_64 (by decide) ?_
    refine W.lcmp hx hb dX8_does_65 ?_
    refine lv_if_gt (tgt := 71) hx hb dX8_does_66 (by decide) (fun c3 => ?_) (fun c3 => ?_)
    · replace hf := zif_t hf c3
      exact t_X8_does_b71 hC  mG mH mR mW mS mK mD mN mO mB mM mF u v11 H locs ls hP hD hS (lv_sub hl [0] rfl) hf
    · replace hf := zif_f hf c3
      refine lv_iconst (v := 2) hx hb dX8_does_69 (by decide) ?_
      have hu := Option.some.inj hf
      subst hu
      exact z_iret hC hP hD hS dX8_does_70
set_option maxHeartbeats 4000000 in
set_option maxRecDepth 100000 in
theorem t_X8_does_b39 {p : Program} {l : Launch} {e : Env} {s : State} {m : MethodId} {args : Array Value} {below : List Frame} {meth : Method} {c : Code} {A : Nat → Prop} {D : va_G} {cI cJ cZ : ClassId} {h : Nat → Nat} (hC : zCx p s m args meth c A D (zty cI cJ cZ) cX8_does RX8 15 (some .int)) (mG : tmG) (mH : tmH) (mR : tmR) (mW : tmW) (mS : tmS) (mK : tmK) (mD : tmD) (mN : tmN) (mO : tmO) (mB : tmB) (mM : tmM) (mF : tmF) (u : Int32) : ∀ (v11 : Int64) (v13 : Int64) (H : Heap) (locs : List Loc) (ls : Array Slot), va_P D vwCl (zWM cI cJ cZ h mG mH mR mW mS mK mD mN mO mB mM mF) H → va_D A (zWM cI cJ cZ h mG mH mR mW mS mK mD mN mO mB mM mF) → va_S A s.heap H locs → lv_has ls 15 [(11, .long v11), (13, .long v13)] → X8_does_b39 mG v11 v13 = some u → W p l e ({ frames := 2, cells := 0, slots := 0, locals := 51 } : Room) s m args below meth c H locs 0 0 (MQ below (zQi D A (zWM cI cJ cZ h mG mH mR mW mS mK mD mN mO mB mM mF) (u)) args s 0 0 A) (F0 m 39 ls []) := by
  intro v11 v13 H locs ls hP hD hS hl hf
  obtain ⟨hx, hb, hml, hown, hts, hK, hr, hlocks, hA⟩ := id hC
  unfold X8_does_b39 at hf
  refine lv_lload hx hb dX8_does_39 (lv_at hl 0 rfl) ?_
  refine lv_lconst (v := 0) hx hb dX8_does_41 (by decide) ?_
  refine W.lcmp hx hb dX8_does_42 ?_
  refine lv_if_lt (tgt := 55) hx hb dX8_does_43 (by decide) (fun c4 => ?_) (fun c4 => ?_)
  · replace hf := zif_t hf c4
    exact t_X8_does_b55 hC  mG mH mR mW mS mK mD mN mO mB mM mF u v11 v13 H locs ls hP hD hS (lv_sub hl [0, 1] rfl) hf
  · replace hf := zif_f hf c4
    refine lv_lload hx hb dX8_does_46 (lv_at hl 1 rfl) ?_
    refine lv_lconst (v := 0) hx hb dX8_does_48 (by decide) ?_
    refine W.lcmp hx hb dX8_does_49 ?_
    refine lv_if_lt (tgt := 55) hx hb dX8_does_50 (by decide) (fun c5 => ?_) (fun c5 => ?_)
    · replace hf := zif_t hf c5
      exact t_X8_does_b55 hC  mG mH mR mW mS mK mD mN mO mB mM mF u v11 v13 H locs ls hP hD hS (lv_sub hl [0, 1] rfl) hf
    · replace hf := zif_f hf c5
      refine lv_iconst (v := 1) hx hb dX8_does_53 (by decide) ?_
      have hu := Option.some.inj hf
      subst hu
      exact z_iret hC hP hD hS dX8_does_54
set_option maxHeartbeats 4000000 in
set_option maxRecDepth 100000 in
theorem c_X8_does (l : Launch) (D : va_G) (cI cJ cZ : ClassId) (h : Nat → Nat) (mG : tmG) (mH : tmH) (mR : tmR) (mW : tmW) (mS : tmS) (mK : tmK) (mD : tmD) (mN : tmN) (mO : tmO) (mB : tmB) (mM : tmM) (mF : tmF) (a1 : Int32) (a2 : Int32) (a3 : Int64) (a5 : Int64) (a7 : Int64) (a9 : Int64) (u : Int32) (hf : X8_does mG a1 a2 a3 a5 a7 a9 = some u) (sz : Nat) : Met l yX8_does (Cond.code yX8_does cX8_does 15 (some .int) :: tb_L) ({ frames := 2, cells := 0, slots := 0, locals := 51 } : Room) (zPre D (zty cI cJ cZ) (zWM cI cJ cZ h mG mH mR mW mS mK mD mN mO mB mM mF) sz [.ref (h 0), .int a1, .int a2, .long a3, .long a5, .long a7, .long a9]) (zQi D (va_A (zWM cI cJ cZ h mG mH mR mW mS mK mD mN mO mB mM mF) sz) (zWM cI cJ cZ h mG mH mR mW mS mK mD mN mO mB mM mF) (u)) 0 0 (va_A (zWM cI cJ cZ h mG mH mR mW mS mK mD mN mO mB mM mF) sz) := by
  refine zMet (Qc := fun A => zQi D A (zWM cI cJ cZ h mG mH mR mW mS mK mD mN mO mB mM mF) (u)) (by decide) rfl (Nat.le_of_ble_eq_true rfl) ?_
  intro p e s m args below meth c A ls hC _ hP hD hS hl
  replace hl : lv_has ls 15 [(0, .ref (h 0)), (1, .int a1), (2, .int a2), (3, .long a3), (5, .long a5), (7, .long a7), (9, .long a9)] := hl
  obtain ⟨hx, hb, hml, hown, hts, hK, hr, hlocks, hA⟩ := id hC
  unfold X8_does at hf
  obtain ⟨H, hH⟩ : ∃ H, H = s.heap := ⟨_, rfl⟩
  rw [← hH] at hP
  replace hS : va_S A s.heap H [] := by rw [hH]; exact hS
  show W p l e _ s m args below meth c s.heap [] 0 0 _ _
  rw [← hH]
  clear hH
  obtain ⟨locs, hlo⟩ : ∃ x : List Loc, x = [] := ⟨_, rfl⟩
  rw [← hlo] at hS ⊢
  clear hlo
  refine lv_aload_n hx hb dX8_does_0 rfl (lv_at hl 0 rfl) ?_
  refine lv_iload_n hx hb dX8_does_1 rfl (lv_at hl 1 rfl) ?_
  refine lv_iload_n hx hb dX8_does_2 rfl (lv_at hl 2 rfl) ?_
  refine lv_lload_n hx hb dX8_does_3 rfl (lv_at hl 3 rfl) ?_
  refine lv_lload hx hb dX8_does_4 (lv_at hl 4 rfl) ?_
  obtain ⟨u6, hu6, hf⟩ := zbd hf
  refine zthen_l hA hD hS (zrunV (As := [.int a1, .int a2, .long a3, .long a5]) (rest := []) hC hP hD 0 rfl rfl (c_X8_sideAt l D cI cJ cZ h  mG mH mR mW mS mK mD mN mO mB mM mF a1 a2 a3 a5 u6 hu6 H.size) kRX8_161 rfl rfl ⟨by decide, by decide⟩ rfl hl.1 rfl (Nat.le_of_ble_eq_true rfl) dX8_does_6) (fun H locs hP hD hS => ?_)
  refine lv_lstore (lv' := [(11, .long u6), (0, .ref (h 0)), (1, .int a1), (2, .int a2), (3, .long a3), (5, .long a5), (7, .long a7), (9, .long a9)]) hx hb dX8_does_9 hl (by decide) rfl (fun ls hl => ?_)
  refine lv_aload_n hx hb dX8_does_11 rfl (lv_at hl 1 rfl) ?_
  refine lv_iload_n hx hb dX8_does_12 rfl (lv_at hl 2 rfl) ?_
  refine lv_iload_n hx hb dX8_does_13 rfl (lv_at hl 3 rfl) ?_
  refine lv_lload hx hb dX8_does_14 (lv_at hl 6 rfl) ?_
  refine lv_lload hx hb dX8_does_16 (lv_at hl 7 rfl) ?_
  obtain ⟨u7, hu7, hf⟩ := zbd hf
  refine zthen_l hA hD hS (zrunV (As := [.int a1, .int a2, .long a7, .long a9]) (rest := []) hC hP hD 0 rfl rfl (c_X8_sideAt l D cI cJ cZ h  mG mH mR mW mS mK mD mN mO mB mM mF a1 a2 a7 a9 u7 hu7 H.size) kRX8_161 rfl rfl ⟨by decide, by decide⟩ rfl hl.1 rfl (Nat.le_of_ble_eq_true rfl) dX8_does_18) (fun H locs hP hD hS => ?_)
  refine lv_lstore (lv' := [(13, .long u7), (11, .long u6), (0, .ref (h 0)), (1, .int a1), (2, .int a2), (3, .long a3), (5, .long a5), (7, .long a7), (9, .long a9)]) hx hb dX8_does_21 hl (by decide) rfl (fun ls hl => ?_)
  refine lv_lload hx hb dX8_does_23 (lv_at hl 1 rfl) ?_
  refine lv_lconst (v := 0) hx hb dX8_does_25 (by decide) ?_
  refine W.lcmp hx hb dX8_does_26 ?_
  refine lv_if_ne (tgt := 39) hx hb dX8_does_27 (by decide) (fun c8 => ?_) (fun c8 => ?_)
  · replace hf := zif_f hf c8
    exact t_X8_does_b39 hC  mG mH mR mW mS mK mD mN mO mB mM mF u u6 u7 H locs ls hP hD hS (lv_sub hl [1, 0] rfl) hf
  · replace hf := zif_t hf c8
    refine lv_lload hx hb dX8_does_30 (lv_at hl 0 rfl) ?_
    refine lv_lconst (v := 0) hx hb dX8_does_32 (by decide) ?_
    refine W.lcmp hx hb dX8_does_33 ?_
    refine lv_if_ne (tgt := 39) hx hb dX8_does_34 (by decide) (fun c9 => ?_) (fun c9 => ?_)
    · replace hf := zif_f hf c9
      exact t_X8_does_b39 hC  mG mH mR mW mS mK mD mN mO mB mM mF u u6 u7 H locs ls hP hD hS (lv_sub hl [1, 0] rfl) hf
    · replace hf := zif_t hf c9
      refine lv_iconst (v := 0) hx hb dX8_does_37 (by decide) ?_
      have hu := Option.some.inj hf
      subst hu
      exact z_iret hC hP hD hS dX8_does_38
set_option maxHeartbeats 4000000 in
set_option maxRecDepth 100000 in
theorem c_X8_rowDoes (l : Launch) (D : va_G) (cI cJ cZ : ClassId) (h : Nat → Nat) (mG : tmG) (mH : tmH) (mR : tmR) (mW : tmW) (mS : tmS) (mK : tmK) (mD : tmD) (mN : tmN) (mO : tmO) (mB : tmB) (mM : tmM) (mF : tmF) (a1 : Int32) (a2 : Int32) (u : Int32) (hf : X8_rowDoes mG mR a1 a2 = some u) (sz : Nat) : Met l yX8_rowDoes (Cond.code yX8_rowDoes cX8_rowDoes 3 (some .int) :: tb_L) ({ frames := 3, cells := 0, slots := 0, locals := 85 } : Room) (zPre D (zty cI cJ cZ) (zWM cI cJ cZ h mG mH mR mW mS mK mD mN mO mB mM mF) sz [.ref (h 0), .int a1, .int a2]) (zQi D (va_A (zWM cI cJ cZ h mG mH mR mW mS mK mD mN mO mB mM mF) sz) (zWM cI cJ cZ h mG mH mR mW mS mK mD mN mO mB mM mF) (u)) 0 0 (va_A (zWM cI cJ cZ h mG mH mR mW mS mK mD mN mO mB mM mF) sz) := by
  refine zMet (Qc := fun A => zQi D A (zWM cI cJ cZ h mG mH mR mW mS mK mD mN mO mB mM mF) (u)) (by decide) rfl (Nat.le_of_ble_eq_true rfl) ?_
  intro p e s m args below meth c A ls hC _ hP hD hS hl
  replace hl : lv_has ls 3 [(0, .ref (h 0)), (1, .int a1), (2, .int a2)] := hl
  obtain ⟨hx, hb, hml, hown, hts, hK, hr, hlocks, hA⟩ := id hC
  unfold X8_rowDoes at hf
  obtain ⟨H, hH⟩ : ∃ H, H = s.heap := ⟨_, rfl⟩
  rw [← hH] at hP
  replace hS : va_S A s.heap H [] := by rw [hH]; exact hS
  show W p l e _ s m args below meth c s.heap [] 0 0 _ _
  rw [← hH]
  clear hH
  obtain ⟨locs, hlo⟩ : ∃ x : List Loc, x = [] := ⟨_, rfl⟩
  rw [← hlo] at hS ⊢
  clear hlo
  refine lv_aload_n hx hb dX8_rowDoes_0 rfl (lv_at hl 0 rfl) ?_
  refine lv_iload_n hx hb dX8_rowDoes_1 rfl (lv_at hl 1 rfl) ?_
  refine lv_aload_n hx hb dX8_rowDoes_2 rfl (lv_at hl 0 rfl) ?_
  refine va_get (D := D) (ci := 8) (v := .ref (h 5)) (C := RX8) (T := TX8) (N := 56) hx hb hts tb_wsX80 hown hK.1 hP 0 rfl rfl 6 (by decide) (hts _ tb_5_10) (fun _ h9 => h9) rfl dX8_rowDoes_3 ?_
  refine lv_iload_n hx hb dX8_rowDoes_6 rfl (lv_at hl 2 rfl) ?_
  obtain ⟨h1, hf⟩ := zck_s hf
  refine va_iald hx hb hK.1 hP 5 0 rfl rfl h1 dX8_rowDoes_7 ?_
  refine lv_aload_n hx hb dX8_rowDoes_8 rfl (lv_at hl 0 rfl) ?_
  refine va_get (D := D) (ci := 8) (v := .ref (h 6)) (C := RX8) (T := TX8) (N := 56) hx hb hts tb_wsX80 hown hK.1 hP 0 rfl rfl 7 (by decide) (hts _ tb_5_11) (fun _ h9 => h9) rfl dX8_rowDoes_9 ?_
  refine lv_iload_n hx hb dX8_rowDoes_12 rfl (lv_at hl 2 rfl) ?_
  obtain ⟨h2, hf⟩ := zck_s hf
  refine va_lald hx hb hK.1 hP 6 1 rfl rfl h2 dX8_rowDoes_13 ?_
  refine lv_aload_n hx hb dX8_rowDoes_14 rfl (lv_at hl 0 rfl) ?_
  refine va_get (D := D) (ci := 8) (v := .ref (h 7)) (C := RX8) (T := TX8) (N := 56) hx hb hts tb_wsX80 hown hK.1 hP 0 rfl rfl 8 (by decide) (hts _ tb_5_12) (fun _ h9 => h9) rfl dX8_rowDoes_15 ?_
  refine lv_iload_n hx hb dX8_rowDoes_18 rfl (lv_at hl 2 rfl) ?_
  obtain ⟨h3, hf⟩ := zck_s hf
  refine va_lald hx hb hK.1 hP 7 1 rfl rfl h3 dX8_rowDoes_19 ?_
  refine lv_aload_n hx hb dX8_rowDoes_20 rfl (lv_at hl 0 rfl) ?_
  refine va_get (D := D) (ci := 8) (v := .ref (h 8)) (C := RX8) (T := TX8) (N := 56) hx hb hts tb_wsX80 hown hK.1 hP 0 rfl rfl 9 (by decide) (hts _ tb_5_13) (fun _ h9 => h9) rfl dX8_rowDoes_21 ?_
  refine lv_iload_n hx hb dX8_rowDoes_24 rfl (lv_at hl 2 rfl) ?_
  obtain ⟨h4, hf⟩ := zck_s hf
  refine va_lald hx hb hK.1 hP 8 1 rfl rfl h4 dX8_rowDoes_25 ?_
  refine lv_aload_n hx hb dX8_rowDoes_26 rfl (lv_at hl 0 rfl) ?_
  refine va_get (D := D) (ci := 8) (v := .ref (h 9)) (C := RX8) (T := TX8) (N := 56) hx hb hts tb_wsX80 hown hK.1 hP 0 rfl rfl 10 (by decide) (hts _ tb_5_14) (fun _ h9 => h9) rfl dX8_rowDoes_27 ?_
  refine lv_iload_n hx hb dX8_rowDoes_30 rfl (lv_at hl 2 rfl) ?_
  obtain ⟨h5, hf⟩ := zck_s hf
  refine va_lald hx hb hK.1 hP 9 1 rfl rfl h5 dX8_rowDoes_31 ?_
  obtain ⟨u6, hu6, hf⟩ := zbd hf
  refine zthen_i hA hD hS (zrunV (As := [.int a1, .int ((tmR.rPiece mR) a2.toNatClampNeg), .long ((tmR.rUp mR) a2.toNatClampNeg), .long ((tmR.rLow mR) a2.toNatClampNeg), .long ((tmR.rUp2 mR) a2.toNatClampNeg), .long ((tmR.rLow2 mR) a2.toNatClampNeg)]) (rest := []) hC hP hD 0 rfl rfl (c_X8_does l D cI cJ cZ h  mG mH mR mW mS mK mD mN mO mB mM mF a1 ((tmR.rPiece mR) a2.toNatClampNeg) ((tmR.rUp mR) a2.toNatClampNeg) ((tmR.rLow mR) a2.toNatClampNeg) ((tmR.rUp2 mR) a2.toNatClampNeg) ((tmR.rLow2 mR) a2.toNatClampNeg) u6 hu6 H.size) kRX8_165 rfl rfl ⟨by decide, by decide⟩ rfl hl.1 rfl (Nat.le_of_ble_eq_true rfl) dX8_rowDoes_32) (fun H locs hP hD hS => ?_)
  have hu := Option.some.inj hf
  subst hu
  exact z_iret hC hP hD hS dX8_rowDoes_35
