set_option maxHeartbeats 4000000 in
set_option maxRecDepth 100000 in
theorem c_X3_add (l : Launch) (D : va_G) (cI cJ cZ : ClassId) (h : Nat → Nat) (gP : tPi) (gR : tPa) (gQ : tPa) (gT : tTr) (gE : tTe) (gM : tMe) (gS : tSq) (a1 : Int32) (a2 : Int32) (a3 : Int32) (a4 : Int32) (u : tPi) (hf : X3_add gP a1 a2 a3 a4 = some u) (sz : Nat) : Met l yX3_add (Cond.code yX3_add cX3_add 5 none :: tb_L) ({ frames := 0, cells := 0, slots := 0, locals := 0 } : Room) (zPre D (zty cI cJ cZ) (zWC cI cJ cZ h gP gR gQ gT gE gM gS) sz [.ref (h 1), .int a1, .int a2, .int a3, .int a4]) (zQv D (va_A (zWC cI cJ cZ h gP gR gQ gT gE gM gS) sz) (zWC cI cJ cZ h u gR gQ gT gE gM gS)) 0 0 (va_A (zWC cI cJ cZ h gP gR gQ gT gE gM gS) sz) := by
  refine zMet (Qc := fun A => zQv D A (zWC cI cJ cZ h u gR gQ gT gE gM gS)) (by decide) rfl (Nat.le_of_ble_eq_true rfl) ?_
  intro p e s m args below meth c A ls hC _ hP hD hS hl
  replace hl : lv_has ls 5 [(0, .ref (h 1)), (1, .int a1), (2, .int a2), (3, .int a3), (4, .int a4)] := hl
  obtain ⟨hx, hb, hml, hown, hts, hK, hr, hlocks, hA⟩ := id hC
  unfold X3_add at hf
  obtain ⟨H, hH⟩ : ∃ H, H = s.heap := ⟨_, rfl⟩
  rw [← hH] at hP
  replace hS : va_S A s.heap H [] := by rw [hH]; exact hS
  show W p l e _ s m args below meth c s.heap [] 0 0 _ _
  rw [← hH]
  clear hH
  obtain ⟨locs, hlo⟩ : ∃ x : List Loc, x = [] := ⟨_, rfl⟩
  rw [← hlo] at hS ⊢
  clear hlo
  refine lv_aload_n hx hb dX3_add_0 rfl (lv_at hl 0 rfl) ?_
  refine va_get (D := D) (ci := 3) (v := .int (tPi.size gP)) (C := RX3) (T := TX3) (N := 5) hx hb hts tb_wsX30 hown hK.1 hP 1 rfl rfl 4 (by decide) (hts _ tb_7_22) (fun _ h9 => h9) rfl dX3_add_1 ?_
  refine lv_bipush (v := 24) hx hb dX3_add_4 (by decide) ?_
  refine lv_icmp_lt (tgt := 10) hx hb dX3_add_6 (by decide) (fun c1 => ?_) (fun c1 => ?_)
  · replace hf := zif_t hf c1
    refine lv_aload_n hx hb dX3_add_10 rfl (lv_at hl 0 rfl) ?_
    refine va_get (D := D) (ci := 3) (v := .ref (h 2)) (C := RX3) (T := TX3) (N := 5) hx hb hts tb_wsX30 hown hK.1 hP 1 rfl rfl 0 (by decide) (hts _ tb_2_16) (fun _ h9 => h9) rfl dX3_add_11 ?_
    refine lv_aload_n hx hb dX3_add_14 rfl (lv_at hl 0 rfl) ?_
    refine va_get (D := D) (ci := 3) (v := .int (tPi.size gP)) (C := RX3) (T := TX3) (N := 5) hx hb hts tb_wsX30 hown hK.1 hP 1 rfl rfl 4 (by decide) (hts _ tb_7_22) (fun _ h9 => h9) rfl dX3_add_15 ?_
    refine lv_iload_n hx hb dX3_add_18 rfl (lv_at hl 1 rfl) ?_
    obtain ⟨h2, hf⟩ := zck_s hf
    refine va_iast hx hb hK.1 hP hD hS 2 0 rfl rfl h2 dX3_add_19 (fun H locs hP hD hS => ?_)
    replace hP : va_P D vwCl (zWC cI cJ cZ h (tPi.s_x0 gP (upd (tPi.x0 gP) (tPi.size gP).toNatClampNeg a1)) gR gQ gT gE gM gS) H := hP
    replace hD : va_D A (zWC cI cJ cZ h (tPi.s_x0 gP (upd (tPi.x0 gP) (tPi.size gP).toNatClampNeg a1)) gR gQ gT gE gM gS) := hD
    refine lv_aload_n hx hb dX3_add_20 rfl (lv_at hl 0 rfl) ?_
    refine va_get (D := D) (ci := 3) (v := .ref (h 3)) (C := RX3) (T := TX3) (N := 5) hx hb hts tb_wsX30 hown hK.1 hP 1 rfl rfl 1 (by decide) (hts _ tb_2_17) (fun _ h9 => h9) rfl dX3_add_21 ?_
    refine lv_aload_n hx hb dX3_add_24 rfl (lv_at hl 0 rfl) ?_
    refine va_get (D := D) (ci := 3) (v := .int (tPi.size gP)) (C := RX3) (T := TX3) (N := 5) hx hb hts tb_wsX30 hown hK.1 hP 1 rfl rfl 4 (by decide) (hts _ tb_7_22) (fun _ h9 => h9) rfl dX3_add_25 ?_
    refine lv_iload_n hx hb dX3_add_28 rfl (lv_at hl 2 rfl) ?_
    obtain ⟨h3, hf⟩ := zck_s hf
    refine va_iast hx hb hK.1 hP hD hS 3 0 rfl rfl h3 dX3_add_29 (fun H locs hP hD hS => ?_)
    replace hP : va_P D vwCl (zWC cI cJ cZ h (tPi.s_y0 (tPi.s_x0 gP (upd (tPi.x0 gP) (tPi.size gP).toNatClampNeg a1)) (upd (tPi.y0 gP) (tPi.size gP).toNatClampNeg a2)) gR gQ gT gE gM gS) H := hP
    replace hD : va_D A (zWC cI cJ cZ h (tPi.s_y0 (tPi.s_x0 gP (upd (tPi.x0 gP) (tPi.size gP).toNatClampNeg a1)) (upd (tPi.y0 gP) (tPi.size gP).toNatClampNeg a2)) gR gQ gT gE gM gS) := hD
    refine lv_aload_n hx hb dX3_add_30 rfl (lv_at hl 0 rfl) ?_
    refine va_get (D := D) (ci := 3) (v := .ref (h 4)) (C := RX3) (T := TX3) (N := 5) hx hb hts tb_wsX30 hown hK.1 hP 1 rfl rfl 2 (by decide) (hts _ tb_2_18) (fun _ h9 => h9) rfl dX3_add_31 ?_
    refine lv_aload_n hx hb dX3_add_34 rfl (lv_at hl 0 rfl) ?_
    refine va_get (D := D) (ci := 3) (v := .int (tPi.size gP)) (C := RX3) (T := TX3) (N := 5) hx hb hts tb_wsX30 hown hK.1 hP 1 rfl rfl 4 (by decide) (hts _ tb_7_22) (fun _ h9 => h9) rfl dX3_add_35 ?_
    refine lv_iload_n hx hb dX3_add_38 rfl (lv_at hl 3 rfl) ?_
    obtain ⟨h4, hf⟩ := zck_s hf
    refine va_iast hx hb hK.1 hP hD hS 4 0 rfl rfl h4 dX3_add_39 (fun H locs hP hD hS => ?_)
    replace hP : va_P D vwCl (zWC cI cJ cZ h (tPi.s_x1 (tPi.s_y0 (tPi.s_x0 gP (upd (tPi.x0 gP) (tPi.size gP).toNatClampNeg a1)) (upd (tPi.y0 gP) (tPi.size gP).toNatClampNeg a2)) (upd (tPi.x1 gP) (tPi.size gP).toNatClampNeg a3)) gR gQ gT gE gM gS) H := hP
    replace hD : va_D A (zWC cI cJ cZ h (tPi.s_x1 (tPi.s_y0 (tPi.s_x0 gP (upd (tPi.x0 gP) (tPi.size gP).toNatClampNeg a1)) (upd (tPi.y0 gP) (tPi.size gP).toNatClampNeg a2)) (upd (tPi.x1 gP) (tPi.size gP).toNatClampNeg a3)) gR gQ gT gE gM gS) := hD
    refine lv_aload_n hx hb dX3_add_40 rfl (lv_at hl 0 rfl) ?_
    refine va_get (D := D) (ci := 3) (v := .ref (h 5)) (C := RX3) (T := TX3) (N := 5) hx hb hts tb_wsX30 hown hK.1 hP 1 rfl rfl 3 (by decide) (hts _ tb_2_19) (fun _ h9 => h9) rfl dX3_add_41 ?_
    refine lv_aload_n hx hb dX3_add_44 rfl (lv_at hl 0 rfl) ?_
    refine va_get (D := D) (ci := 3) (v := .int (tPi.size gP)) (C := RX3) (T := TX3) (N := 5) hx hb hts tb_wsX30 hown hK.1 hP 1 rfl rfl 4 (by decide) (hts _ tb_7_22) (fun _ h9 => h9) rfl dX3_add_45 ?_
    refine lv_iload hx hb dX3_add_48 (lv_at hl 4 rfl) ?_
    obtain ⟨h5, hf⟩ := zck_s hf
    refine va_iast hx hb hK.1 hP hD hS 5 0 rfl rfl h5 dX3_add_50 (fun H locs hP hD hS => ?_)
    replace hP : va_P D vwCl (zWC cI cJ cZ h (tPi.s_y1 (tPi.s_x1 (tPi.s_y0 (tPi.s_x0 gP (upd (tPi.x0 gP) (tPi.size gP).toNatClampNeg a1)) (upd (tPi.y0 gP) (tPi.size gP).toNatClampNeg a2)) (upd (tPi.x1 gP) (tPi.size gP).toNatClampNeg a3)) (upd (tPi.y1 gP) (tPi.size gP).toNatClampNeg a4)) gR gQ gT gE gM gS) H := hP
    replace hD : va_D A (zWC cI cJ cZ h (tPi.s_y1 (tPi.s_x1 (tPi.s_y0 (tPi.s_x0 gP (upd (tPi.x0 gP) (tPi.size gP).toNatClampNeg a1)) (upd (tPi.y0 gP) (tPi.size gP).toNatClampNeg a2)) (upd (tPi.x1 gP) (tPi.size gP).toNatClampNeg a3)) (upd (tPi.y1 gP) (tPi.size gP).toNatClampNeg a4)) gR gQ gT gE gM gS) := hD
    refine lv_aload_n hx hb dX3_add_51 rfl (lv_at hl 0 rfl) ?_
    refine lv_dup hx hb dX3_add_52 rfl ?_
    refine va_get (D := D) (ci := 3) (v := .int (tPi.size gP)) (C := RX3) (T := TX3) (N := 5) hx hb hts tb_wsX30 hown hK.1 hP 1 rfl rfl 4 (by decide) (hts _ tb_7_22) (fun _ h9 => h9) rfl dX3_add_53 ?_
    refine lv_iconst (v := 1) hx hb dX3_add_56 (by decide) ?_
    refine lv_iadd hx hb dX3_add_57 ?_
    refine va_put (D := D) (ci := 3) (v := .int ((tPi.size gP) + (1 : Int32))) (ty := .int) (C := RX3) (T := TX3) (N := 5) hx hb hts tb_wsX30 tyX3 tyX3_ok nmX3 hown hK.1 hP hD hS 1 rfl rfl 4 (by decide) (hts _ tb_7_22) (fun _ h9 => h9) rfl (by decide +kernel) rfl rfl (Nat.le_of_ble_eq_true rfl) dX3_add_58 (fun H locs hP hD hS => ?_)
    replace hP : va_P D vwCl (zWC cI cJ cZ h (tPi.s_size (tPi.s_y1 (tPi.s_x1 (tPi.s_y0 (tPi.s_x0 gP (upd (tPi.x0 gP) (tPi.size gP).toNatClampNeg a1)) (upd (tPi.y0 gP) (tPi.size gP).toNatClampNeg a2)) (upd (tPi.x1 gP) (tPi.size gP).toNatClampNeg a3)) (upd (tPi.y1 gP) (tPi.size gP).toNatClampNeg a4)) ((tPi.size gP) + (1 : Int32))) gR gQ gT gE gM gS) H := hP
    replace hD : va_D A (zWC cI cJ cZ h (tPi.s_size (tPi.s_y1 (tPi.s_x1 (tPi.s_y0 (tPi.s_x0 gP (upd (tPi.x0 gP) (tPi.size gP).toNatClampNeg a1)) (upd (tPi.y0 gP) (tPi.size gP).toNatClampNeg a2)) (upd (tPi.x1 gP) (tPi.size gP).toNatClampNeg a3)) (upd (tPi.y1 gP) (tPi.size gP).toNatClampNeg a4)) ((tPi.size gP) + (1 : Int32))) gR gQ gT gE gM gS) := hD
    have hu := Option.some.inj hf
    subst hu
    exact z_vret hC hP hD hS dX3_add_61
  · replace hf := zif_f hf c1
    have hu := Option.some.inj hf
    subst hu
    exact z_vret hC hP hD hS dX3_add_9
set_option maxHeartbeats 4000000 in
set_option maxRecDepth 100000 in
theorem c_X6_fell (l : Launch) (D : va_G) (cI cJ cZ : ClassId) (h : Nat → Nat) (gP : tPi) (gR : tPa) (gQ : tPa) (gT : tTr) (gE : tTe) (gM : tMe) (gS : tSq)  (u : tPa × tTr) (hf : X6_fell gQ gT = some u) (sz : Nat) : Met l yX6_fell (Cond.code yX6_fell cX6_fell 1 none :: tb_L) ({ frames := 0, cells := 0, slots := 0, locals := 0 } : Room) (zPre D (zty cI cJ cZ) (zWC cI cJ cZ h gP gR gQ gT gE gM gS) sz [.ref (h 13)]) (zQv D (va_A (zWC cI cJ cZ h gP gR gQ gT gE gM gS) sz) (zWC cI cJ cZ h gP gR u.1 u.2 gE gM gS)) 0 0 (va_A (zWC cI cJ cZ h gP gR gQ gT gE gM gS) sz) := by
  refine zMet (Qc := fun A => zQv D A (zWC cI cJ cZ h gP gR u.1 u.2 gE gM gS)) (by decide) rfl (Nat.le_of_ble_eq_true rfl) ?_
  intro p e s m args below meth c A ls hC _ hP hD hS hl
  replace hl : lv_has ls 1 [(0, .ref (h 13))] := hl
  obtain ⟨hx, hb, hml, hown, hts, hK, hr, hlocks, hA⟩ := id hC
  unfold X6_fell at hf
  obtain ⟨H, hH⟩ : ∃ H, H = s.heap := ⟨_, rfl⟩
  rw [← hH] at hP
  replace hS : va_S A s.heap H [] := by rw [hH]; exact hS
  show W p l e _ s m args below meth c s.heap [] 0 0 _ _
  rw [← hH]
  clear hH
  obtain ⟨locs, hlo⟩ : ∃ x : List Loc, x = [] := ⟨_, rfl⟩
  rw [← hlo] at hS ⊢
  clear hlo
  refine lv_aload_n hx hb dX6_fell_0 rfl (lv_at hl 0 rfl) ?_
  refine lv_iconst (v := 0) hx hb dX6_fell_1 (by decide) ?_
  refine va_put (D := D) (ci := 6) (v := .int (0 : Int32)) (ty := .boolean) (C := RX6) (T := TX6) (N := 17) hx hb hts tb_wsX60 tyX6 tyX6_ok nmX6 hown hK.1 hP hD hS 13 rfl rfl 8 (by decide) (hts _ tb_7_13) (fun _ h9 => h9) rfl (by decide +kernel) rfl rfl (Nat.le_of_ble_eq_true rfl) dX6_fell_2 (fun H locs hP hD hS => ?_)
  replace hP : va_P D vwCl (zWC cI cJ cZ h gP gR gQ (tTr.s_stands gT (0 : Int32)) gE gM gS) H := hP
  replace hD : va_D A (zWC cI cJ cZ h gP gR gQ (tTr.s_stands gT (0 : Int32)) gE gM gS) := hD
  refine lv_aload_n hx hb dX6_fell_5 rfl (lv_at hl 0 rfl) ?_
  refine lv_iconst (v := 0) hx hb dX6_fell_6 (by decide) ?_
  refine va_put (D := D) (ci := 6) (v := .int (0 : Int32)) (ty := .int) (C := RX6) (T := TX6) (N := 17) hx hb hts tb_wsX60 tyX6 tyX6_ok nmX6 hown hK.1 hP hD hS 13 rfl rfl 10 (by decide) (hts _ tb_7_14) (fun _ h9 => h9) rfl (by decide +kernel) rfl rfl (Nat.le_of_ble_eq_true rfl) dX6_fell_7 (fun H locs hP hD hS => ?_)
  replace hP : va_P D vwCl (zWC cI cJ cZ h gP gR gQ (tTr.s_knots (tTr.s_stands gT (0 : Int32)) (0 : Int32)) gE gM gS) H := hP
  replace hD : va_D A (zWC cI cJ cZ h gP gR gQ (tTr.s_knots (tTr.s_stands gT (0 : Int32)) (0 : Int32)) gE gM gS) := hD
  refine lv_aload_n hx hb dX6_fell_10 rfl (lv_at hl 0 rfl) ?_
  refine lv_iconst (v := 0) hx hb dX6_fell_11 (by decide) ?_
  refine va_put (D := D) (ci := 6) (v := .int (0 : Int32)) (ty := .int) (C := RX6) (T := TX6) (N := 17) hx hb hts tb_wsX60 tyX6 tyX6_ok nmX6 hown hK.1 hP hD hS 13 rfl rfl 11 (by decide) (hts _ tb_7_15) (fun _ h9 => h9) rfl (by decide +kernel) rfl rfl (Nat.le_of_ble_eq_true rfl) dX6_fell_12 (fun H locs hP hD hS => ?_)
  replace hP : va_P D vwCl (zWC cI cJ cZ h gP gR gQ (tTr.s_leaves (tTr.s_knots (tTr.s_stands gT (0 : Int32)) (0 : Int32)) (0 : Int32)) gE gM gS) H := hP
  replace hD : va_D A (zWC cI cJ cZ h gP gR gQ (tTr.s_leaves (tTr.s_knots (tTr.s_stands gT (0 : Int32)) (0 : Int32)) (0 : Int32)) gE gM gS) := hD
  refine lv_aload_n hx hb dX6_fell_15 rfl (lv_at hl 0 rfl) ?_
  refine lv_iconst (v := 0) hx hb dX6_fell_16 (by decide) ?_
  refine va_put (D := D) (ci := 6) (v := .int (0 : Int32)) (ty := .int) (C := RX6) (T := TX6) (N := 17) hx hb hts tb_wsX60 tyX6 tyX6_ok nmX6 hown hK.1 hP hD hS 13 rfl rfl 12 (by decide) (hts _ tb_7_16) (fun _ h9 => h9) rfl (by decide +kernel) rfl rfl (Nat.le_of_ble_eq_true rfl) dX6_fell_17 (fun H locs hP hD hS => ?_)
  replace hP : va_P D vwCl (zWC cI cJ cZ h gP gR gQ (tTr.s_height (tTr.s_leaves (tTr.s_knots (tTr.s_stands gT (0 : Int32)) (0 : Int32)) (0 : Int32)) (0 : Int32)) gE gM gS) H := hP
  replace hD : va_D A (zWC cI cJ cZ h gP gR gQ (tTr.s_height (tTr.s_leaves (tTr.s_knots (tTr.s_stands gT (0 : Int32)) (0 : Int32)) (0 : Int32)) (0 : Int32)) gE gM gS) := hD
  refine lv_aload_n hx hb dX6_fell_20 rfl (lv_at hl 0 rfl) ?_
  refine va_get (D := D) (ci := 6) (v := .ref (h 20)) (C := RX6) (T := TX6) (N := 17) hx hb hts tb_wsX60 hown hK.1 hP 13 rfl rfl 6 (by decide) (hts _ tb_4_0) (fun _ h9 => h9) rfl dX6_fell_21 ?_
  refine lv_iconst (v := 0) hx hb dX6_fell_24 (by decide) ?_
  refine va_put (D := D) (ci := 2) (v := .int (0 : Int32)) (ty := .int) (C := RX2) (T := TX2) (N := 6) hx hb hts tb_wsX20 tyX2 tyX2_ok nmX2 hown hK.1 hP hD hS 20 rfl rfl 5 (by decide) (hts _ tb_7_17) (fun _ h9 => h9) rfl (by decide +kernel) rfl rfl (Nat.le_of_ble_eq_true rfl) dX6_fell_25 (fun H locs hP hD hS => ?_)
  replace hP : va_P D vwCl (zWC cI cJ cZ h gP gR (tPa.s_size gQ (0 : Int32)) (tTr.s_height (tTr.s_leaves (tTr.s_knots (tTr.s_stands gT (0 : Int32)) (0 : Int32)) (0 : Int32)) (0 : Int32)) gE gM gS) H := hP
  replace hD : va_D A (zWC cI cJ cZ h gP gR (tPa.s_size gQ (0 : Int32)) (tTr.s_height (tTr.s_leaves (tTr.s_knots (tTr.s_stands gT (0 : Int32)) (0 : Int32)) (0 : Int32)) (0 : Int32)) gE gM gS) := hD
  have hu := Option.some.inj hf
  subst hu
  exact z_vret hC hP hD hS dX6_fell_28
set_option maxHeartbeats 4000000 in
set_option maxRecDepth 100000 in
theorem c_X7_forgetTree (l : Launch) (D : va_G) (cI cJ cZ : ClassId) (h : Nat → Nat) (gP : tPi) (gR : tPa) (gQ : tPa) (gT : tTr) (gE : tTe) (gM : tMe) (gS : tSq)  (u : tPa × tTr × tTe) (hf : X7_forgetTree gQ gT gE = some u) (sz : Nat) : Met l yX7_forgetTree (Cond.code yX7_forgetTree cX7_forgetTree 1 none :: tb_L) ({ frames := 1, cells := 0, slots := 0, locals := 20 } : Room) (zPre D (zty cI cJ cZ) (zWC cI cJ cZ h gP gR gQ gT gE gM gS) sz [.ref (h 0)]) (zQv D (va_A (zWC cI cJ cZ h gP gR gQ gT gE gM gS) sz) (zWC cI cJ cZ h gP gR u.1 u.2.1 u.2.2 gM gS)) 0 0 (va_A (zWC cI cJ cZ h gP gR gQ gT gE gM gS) sz) := by
  refine zMet (Qc := fun A => zQv D A (zWC cI cJ cZ h gP gR u.1 u.2.1 u.2.2 gM gS)) (by decide) rfl (Nat.le_of_ble_eq_true rfl) ?_
  intro p e s m args below meth c A ls hC _ hP hD hS hl
  replace hl : lv_has ls 1 [(0, .ref (h 0))] := hl
  obtain ⟨hx, hb, hml, hown, hts, hK, hr, hlocks, hA⟩ := id hC
  unfold X7_forgetTree at hf
  obtain ⟨H, hH⟩ : ∃ H, H = s.heap := ⟨_, rfl⟩
  rw [← hH] at hP
  replace hS : va_S A s.heap H [] := by rw [hH]; exact hS
  show W p l e _ s m args below meth c s.heap [] 0 0 _ _
  rw [← hH]
  clear hH
  obtain ⟨locs, hlo⟩ : ∃ x : List Loc, x = [] := ⟨_, rfl⟩
  rw [← hlo] at hS ⊢
  clear hlo
  refine lv_aload_n hx hb dX7_forgetTree_0 rfl (lv_at hl 0 rfl) ?_
  refine va_get (D := D) (ci := 7) (v := .ref (h 13)) (C := RX7) (T := TX7) (N := 5) hx hb hts tb_wsX70 hown hK.1 hP 0 rfl rfl 1 (by decide) (hts _ tb_1_23) (fun _ h9 => h9) rfl dX7_forgetTree_1 ?_
  obtain ⟨u1, hu1, hf⟩ := zbd hf
  refine zthen_v hA hD hS (zrunV (As := []) (rest := []) hC hP hD 13 rfl rfl (c_X6_fell l D cI cJ cZ h  gP gR gQ gT gE gM gS  u1 hu1 H.size) kRX7_200 rfl rfl ⟨by decide, by decide⟩ rfl hl.1 rfl (Nat.le_of_ble_eq_true rfl) dX7_forgetTree_4) (fun H locs hP hD hS => ?_)
  refine lv_aload_n hx hb dX7_forgetTree_7 rfl (lv_at hl 0 rfl) ?_
  refine va_get (D := D) (ci := 7) (v := .ref (h 27)) (C := RX7) (T := TX7) (N := 5) hx hb hts tb_wsX70 hown hK.1 hP 0 rfl rfl 2 (by decide) (hts _ tb_2_3) (fun _ h9 => h9) rfl dX7_forgetTree_8 ?_
  refine lv_iconst (v := 0) hx hb dX7_forgetTree_11 (by decide) ?_
  refine va_put (D := D) (ci := 5) (v := .int (0 : Int32)) (ty := .int) (C := RX5) (T := TX5) (N := 4) hx hb hts tb_wsX50 tyX5 tyX5_ok nmX5 hown hK.1 hP hD hS 27 rfl rfl 1 (by decide) (hts _ tb_7_8) (fun _ h9 => h9) rfl (by decide +kernel) rfl rfl (Nat.le_of_ble_eq_true rfl) dX7_forgetTree_12 (fun H locs hP hD hS => ?_)
  replace hP : va_P D vwCl (zWC cI cJ cZ h gP gR u1.1 u1.2 (tTe.s_size gE (0 : Int32)) gM gS) H := hP
  replace hD : va_D A (zWC cI cJ cZ h gP gR u1.1 u1.2 (tTe.s_size gE (0 : Int32)) gM gS) := hD
  have hu := Option.some.inj hf
  subst hu
  exact z_vret hC hP hD hS dX7_forgetTree_15
set_option maxHeartbeats 4000000 in
set_option maxRecDepth 100000 in
theorem t_X7_isBeyond_b28 {p : Program} {l : Launch} {e : Env} {s : State} {m : MethodId} {args : Array Value} {below : List Frame} {meth : Method} {c : Code} {A : Nat → Prop} {D : va_G} {cI cJ cZ : ClassId} {h : Nat → Nat} (hC : zCx p s m args meth c A D (zty cI cJ cZ) cX7_isBeyond RX7 2 (some .boolean)) (gP : tPi) (gR : tPa) (gQ : tPa) (gT : tTr) (gE : tTe) (gM : tMe) (gS : tSq) (u : Int32) : ∀  (H : Heap) (locs : List Loc) (ls : Array Slot), va_P D vwCl (zWC cI cJ cZ h gP gR gQ gT gE gM gS) H → va_D A (zWC cI cJ cZ h gP gR gQ gT gE gM gS) → va_S A s.heap H locs → lv_has ls 2 [] → X7_isBeyond_b28  = some u → W p l e ({ frames := 0, cells := 0, slots := 0, locals := 0 } : Room) s m args below meth c H locs 0 0 (MQ below (zQi D A (zWC cI cJ cZ h gP gR gQ gT gE gM gS) (u)) args s 0 0 A) (F0 m 28 ls []) := by
  intro  H locs ls hP hD hS hl hf
  obtain ⟨hx, hb, hml, hown, hts, hK, hr, hlocks, hA⟩ := id hC
  unfold X7_isBeyond_b28 at hf
  refine lv_iconst (v := 1) hx hb dX7_isBeyond_28 (by decide) ?_
  refine lv_goto (tgt := 33) hx hb dX7_isBeyond_29 (by decide) ?_
  obtain ⟨h1, hf⟩ := zcb_s hf
  have hu := Option.some.inj hf
  subst hu
  exact z_zret hC h1 hP hD hS dX7_isBeyond_33
set_option maxHeartbeats 4000000 in
set_option maxRecDepth 100000 in
theorem c_X7_isBeyond (l : Launch) (D : va_G) (cI cJ cZ : ClassId) (h : Nat → Nat) (gP : tPi) (gR : tPa) (gQ : tPa) (gT : tTr) (gE : tTe) (gM : tMe) (gS : tSq) (a0 : Int32) (a1 : Int32) (u : Int32) (hf : X7_isBeyond a0 a1 = some u) (sz : Nat) : Met l yX7_isBeyond (Cond.code yX7_isBeyond cX7_isBeyond 2 (some .boolean) :: tb_L) ({ frames := 0, cells := 0, slots := 0, locals := 0 } : Room) (zPre D (zty cI cJ cZ) (zWC cI cJ cZ h gP gR gQ gT gE gM gS) sz [.int a0, .int a1]) (zQi D (va_A (zWC cI cJ cZ h gP gR gQ gT gE gM gS) sz) (zWC cI cJ cZ h gP gR gQ gT gE gM gS) (u)) 0 0 (va_A (zWC cI cJ cZ h gP gR gQ gT gE gM gS) sz) := by
  refine zMet (Qc := fun A => zQi D A (zWC cI cJ cZ h gP gR gQ gT gE gM gS) (u)) (by decide) rfl (Nat.le_of_ble_eq_true rfl) ?_
  intro p e s m args below meth c A ls hC _ hP hD hS hl
  replace hl : lv_has ls 2 [(0, .int a0), (1, .int a1)] := hl
  obtain ⟨hx, hb, hml, hown, hts, hK, hr, hlocks, hA⟩ := id hC
  unfold X7_isBeyond at hf
  obtain ⟨H, hH⟩ : ∃ H, H = s.heap := ⟨_, rfl⟩
  rw [← hH] at hP
  replace hS : va_S A s.heap H [] := by rw [hH]; exact hS
  show W p l e _ s m args below meth c s.heap [] 0 0 _ _
  rw [← hH]
  clear hH
  obtain ⟨locs, hlo⟩ : ∃ x : List Loc, x = [] := ⟨_, rfl⟩
  rw [← hlo] at hS ⊢
  clear hlo
  refine lv_iload_n hx hb dX7_isBeyond_0 rfl (lv_at hl 0 rfl) ?_
  refine lv_sipush (v := -1000) hx hb dX7_isBeyond_1 (by decide) ?_
  refine lv_icmp_lt (tgt := 28) hx hb dX7_isBeyond_4 (by decide) (fun c2 => ?_) (fun c2 => ?_)
  · replace hf := zif_t hf c2
    exact t_X7_isBeyond_b28 hC  gP gR gQ gT gE gM gS u  H locs ls hP hD hS (lv_sub hl [] rfl) hf
  · replace hf := zif_f hf c2
    refine lv_iload_n hx hb dX7_isBeyond_7 rfl (lv_at hl 0 rfl) ?_
    refine lv_sipush (v := 1000) hx hb dX7_isBeyond_8 (by decide) ?_
    refine lv_icmp_gt (tgt := 28) hx hb dX7_isBeyond_11 (by decide) (fun c3 => ?_) (fun c3 => ?_)
    · replace hf := zif_t hf c3
      exact t_X7_isBeyond_b28 hC  gP gR gQ gT gE gM gS u  H locs ls hP hD hS (lv_sub hl [] rfl) hf
    · replace hf := zif_f hf c3
      refine lv_iload_n hx hb dX7_isBeyond_14 rfl (lv_at hl 1 rfl) ?_
      refine lv_sipush (v := -1000) hx hb dX7_isBeyond_15 (by decide) ?_
      refine lv_icmp_lt (tgt := 28) hx hb dX7_isBeyond_18 (by decide) (fun c4 => ?_) (fun c4 => ?_)
      · replace hf := zif_t hf c4
        exact t_X7_isBeyond_b28 hC  gP gR gQ gT gE gM gS u  H locs ls hP hD hS (lv_sub hl [] rfl) hf
      · replace hf := zif_f hf c4
        refine lv_iload_n hx hb dX7_isBeyond_21 rfl (lv_at hl 1 rfl) ?_
        refine lv_sipush (v := 1000) hx hb dX7_isBeyond_22 (by decide) ?_
        refine lv_icmp_le (tgt := 32) hx hb dX7_isBeyond_25 (by decide) (fun c5 => ?_) (fun c5 => ?_)
        · replace hf := zif_t hf c5
          refine lv_iconst (v := 0) hx hb dX7_isBeyond_32 (by decide) ?_
          obtain ⟨h6, hf⟩ := zcb_s hf
          have hu := Option.some.inj hf
          subst hu
          exact z_zret hC h6 hP hD hS dX7_isBeyond_33
        · replace hf := zif_f hf c5
          exact t_X7_isBeyond_b28 hC  gP gR gQ gT gE gM gS u  H locs ls hP hD hS (lv_sub hl [] rfl) hf
set_option maxHeartbeats 4000000 in
set_option maxRecDepth 100000 in
theorem t_X7_piece_b16 {p : Program} {l : Launch} {e : Env} {s : State} {m : MethodId} {args : Array Value} {below : List Frame} {meth : Method} {c : Code} {A : Nat → Prop} {D : va_G} {cI cJ cZ : ClassId} {h : Nat → Nat} (hC : zCx p s m args meth c A D (zty cI cJ cZ) cX7_piece RX7 6 (some .int)) (gR : tPa) (gM : tMe) (gS : tSq) (u : Int32 × tPi × tPa × tTr × tTe) : ∀ (gP : tPi) (gQ : tPa) (gT : tTr) (gE : tTe) (v1 : Int32) (v2 : Int32) (v3 : Int32) (v4 : Int32) (s0 : Int32) (H : Heap) (locs : List Loc) (ls : Array Slot), va_P D vwCl (zWC cI cJ cZ h gP gR gQ gT gE gM gS) H → va_D A (zWC cI cJ cZ h gP gR gQ gT gE gM gS) → va_S A s.heap H locs → lv_has ls 6 [(0, .ref (h 0)), (1, .int v1), (2, .int v2), (3, .int v3), (4, .int v4)] → X7_piece_b16 gP gQ gT gE v1 v2 v3 v4 s0 = some u → W p l e ({ frames := 2, cells := 0, slots := 0, locals := 40 } : Room) s m args below meth c H locs 0 0 (MQ below (zQi D A (zWC cI cJ cZ h u.2.1 gR u.2.2.1 u.2.2.2.1 u.2.2.2.2 gM gS) (u.1)) args s 0 0 A) (F0 m 16 ls [.int s0]) := by
  intro gP gQ gT gE v1 v2 v3 v4 s0 H locs ls hP hD hS hl hf
  obtain ⟨hx, hb, hml, hown, hts, hK, hr, hlocks, hA⟩ := id hC
  unfold X7_piece_b16 at hf
  refine lv_istore (lv' := [(5, .int s0), (0, .ref (h 0)), (1, .int v1), (2, .int v2), (3, .int v3), (4, .int v4)]) hx hb dX7_piece_16 hl (by decide) rfl (fun ls hl => ?_)
  refine lv_aload_n hx hb dX7_piece_18 rfl (lv_at hl 1 rfl) ?_
  refine va_get (D := D) (ci := 7) (v := .ref (h 1)) (C := RX7) (T := TX7) (N := 5) hx hb hts tb_wsX70 hown hK.1 hP 0 rfl rfl 0 (by decide) (hts _ tb_1_16) (fun _ h9 => h9) rfl dX7_piece_19 ?_
  refine va_get (D := D) (ci := 3) (v := .int (tPi.size gP)) (C := RX3) (T := TX3) (N := 5) hx hb hts tb_wsX30 hown hK.1 hP 1 rfl rfl 4 (by decide) (hts _ tb_7_0) (fun _ h9 => h9) rfl dX7_piece_22 ?_
  refine lv_bipush (v := 24) hx hb dX7_piece_25 (by decide) ?_
  refine lv_icmp_ge (tgt := 52) hx hb dX7_piece_27 (by decide) (fun c1 => ?_) (fun c1 => ?_)
  · replace hf := zif_t hf c1
    refine lv_iconst (v := -1) hx hb dX7_piece_52 (by decide) ?_
    have hu := Option.some.inj hf
    subst hu
    exact z_iret hC hP hD hS dX7_piece_53
  · replace hf := zif_f hf c1
    refine lv_iload hx hb dX7_piece_30 (lv_at hl 0 rfl) ?_
    refine lv_if_ne (tgt := 52) hx hb dX7_piece_32 (by decide) (fun c2 => ?_) (fun c2 => ?_)
    · replace hf := zif_f hf c2
      refine lv_iconst (v := -1) hx hb dX7_piece_52 (by decide) ?_
      have hu := Option.some.inj hf
      subst hu
      exact z_iret hC hP hD hS dX7_piece_53
    · replace hf := zif_t hf c2
      refine lv_iload_n hx hb dX7_piece_35 rfl (lv_at hl 2 rfl) ?_
      refine lv_iload_n hx hb dX7_piece_36 rfl (lv_at hl 3 rfl) ?_
      obtain ⟨u3, hu3, hf⟩ := zbd hf
      refine zthen_i hA hD hS (zrunS (As := [.int v1, .int v2]) (rest := []) hC hP hD (c_X7_isBeyond l D cI cJ cZ h  gP gR gQ gT gE gM gS v1 v2 u3 hu3 H.size) kRX7_57 rfl rfl ⟨by decide, by decide⟩ rfl hl.1 rfl (Nat.le_of_ble_eq_true rfl) dX7_piece_37) (fun H locs hP hD hS => ?_)
      refine lv_if_ne (tgt := 52) hx hb dX7_piece_40 (by decide) (fun c4 => ?_) (fun c4 => ?_)
      · replace hf := zif_f hf c4
        refine lv_iconst (v := -1) hx hb dX7_piece_52 (by decide) ?_
        have hu := Option.some.inj hf
        subst hu
        exact z_iret hC hP hD hS dX7_piece_53
      · replace hf := zif_t hf c4
        refine lv_iload_n hx hb dX7_piece_43 rfl (lv_at hl 4 rfl) ?_
        refine lv_iload hx hb dX7_piece_44 (lv_at hl 5 rfl) ?_
        obtain ⟨u5, hu5, hf⟩ := zbd hf
        refine zthen_i hA hD hS (zrunS (As := [.int v3, .int v4]) (rest := []) hC hP hD (c_X7_isBeyond l D cI cJ cZ h  gP gR gQ gT gE gM gS v3 v4 u5 hu5 H.size) kRX7_57 rfl rfl ⟨by decide, by decide⟩ rfl hl.1 rfl (Nat.le_of_ble_eq_true rfl) dX7_piece_46) (fun H locs hP hD hS => ?_)
        refine lv_if_eq (tgt := 54) hx hb dX7_piece_49 (by decide) (fun c6 => ?_) (fun c6 => ?_)
        · replace hf := zif_t hf c6
          refine lv_aload_n hx hb dX7_piece_54 rfl (lv_at hl 1 rfl) ?_
          obtain ⟨u7, hu7, hf⟩ := zbd hf
          refine zthen_v hA hD hS (zrunV (As := []) (rest := []) hC hP hD 0 rfl rfl (c_X7_forgetTree l D cI cJ cZ h  gP gR gQ gT gE gM gS  u7 hu7 H.size) kRX7_61 rfl rfl ⟨by decide, by decide⟩ rfl hl.1 rfl (Nat.le_of_ble_eq_true rfl) dX7_piece_55) (fun H locs hP hD hS => ?_)
          refine lv_aload_n hx hb dX7_piece_58 rfl (lv_at hl 1 rfl) ?_
          refine va_get (D := D) (ci := 7) (v := .ref (h 1)) (C := RX7) (T := TX7) (N := 5) hx hb hts tb_wsX70 hown hK.1 hP 0 rfl rfl 0 (by decide) (hts _ tb_1_16) (fun _ h9 => h9) rfl dX7_piece_59 ?_
          refine lv_iload_n hx hb dX7_piece_62 rfl (lv_at hl 2 rfl) ?_
          refine lv_iload_n hx hb dX7_piece_63 rfl (lv_at hl 3 rfl) ?_
          refine lv_iload_n hx hb dX7_piece_64 rfl (lv_at hl 4 rfl) ?_
          refine lv_iload hx hb dX7_piece_65 (lv_at hl 5 rfl) ?_
          obtain ⟨u8, hu8, hf⟩ := zbd hf
          refine zthen_v hA hD hS (zrunV (As := [.int v1, .int v2, .int v3, .int v4]) (rest := []) hC hP hD 1 rfl rfl (c_X3_add l D cI cJ cZ h  gP gR u7.1 u7.2.1 u7.2.2 gM gS v1 v2 v3 v4 u8 hu8 H.size) kRX7_64 rfl rfl ⟨by decide, by decide⟩ rfl hl.1 rfl (Nat.le_of_ble_eq_true rfl) dX7_piece_67) (fun H locs hP hD hS => ?_)
          refine lv_aload_n hx hb dX7_piece_70 rfl (lv_at hl 1 rfl) ?_
          refine va_get (D := D) (ci := 7) (v := .ref (h 1)) (C := RX7) (T := TX7) (N := 5) hx hb hts tb_wsX70 hown hK.1 hP 0 rfl rfl 0 (by decide) (hts _ tb_1_16) (fun _ h9 => h9) rfl dX7_piece_71 ?_
          refine va_get (D := D) (ci := 3) (v := .int (tPi.size u8)) (C := RX3) (T := TX3) (N := 5) hx hb hts tb_wsX30 hown hK.1 hP 1 rfl rfl 4 (by decide) (hts _ tb_7_0) (fun _ h9 => h9) rfl dX7_piece_74 ?_
          refine lv_iconst (v := 1) hx hb dX7_piece_77 (by decide) ?_
          refine lv_isub hx hb dX7_piece_78 ?_
          have hu := Option.some.inj hf
          subst hu
          exact z_iret hC hP hD hS dX7_piece_79
        · replace hf := zif_f hf c6
          refine lv_iconst (v := -1) hx hb dX7_piece_52 (by decide) ?_
          have hu := Option.some.inj hf
          subst hu
          exact z_iret hC hP hD hS dX7_piece_53
set_option maxHeartbeats 4000000 in
set_option maxRecDepth 100000 in
theorem t_X7_piece_b15 {p : Program} {l : Launch} {e : Env} {s : State} {m : MethodId} {args : Array Value} {below : List Frame} {meth : Method} {c : Code} {A : Nat → Prop} {D : va_G} {cI cJ cZ : ClassId} {h : Nat → Nat} (hC : zCx p s m args meth c A D (zty cI cJ cZ) cX7_piece RX7 6 (some .int)) (gR : tPa) (gM : tMe) (gS : tSq) (u : Int32 × tPi × tPa × tTr × tTe) : ∀ (gP : tPi) (gQ : tPa) (gT : tTr) (gE : tTe) (v1 : Int32) (v2 : Int32) (v3 : Int32) (v4 : Int32) (H : Heap) (locs : List Loc) (ls : Array Slot), va_P D vwCl (zWC cI cJ cZ h gP gR gQ gT gE gM gS) H → va_D A (zWC cI cJ cZ h gP gR gQ gT gE gM gS) → va_S A s.heap H locs → lv_has ls 6 [(0, .ref (h 0)), (1, .int v1), (2, .int v2), (3, .int v3), (4, .int v4)] → X7_piece_b15 gP gQ gT gE v1 v2 v3 v4 = some u → W p l e ({ frames := 2, cells := 0, slots := 0, locals := 40 } : Room) s m args below meth c H locs 0 0 (MQ below (zQi D A (zWC cI cJ cZ h u.2.1 gR u.2.2.1 u.2.2.2.1 u.2.2.2.2 gM gS) (u.1)) args s 0 0 A) (F0 m 15 ls []) := by
  intro gP gQ gT gE v1 v2 v3 v4 H locs ls hP hD hS hl hf
  obtain ⟨hx, hb, hml, hown, hts, hK, hr, hlocks, hA⟩ := id hC
  unfold X7_piece_b15 at hf
  refine lv_iconst (v := 0) hx hb dX7_piece_15 (by decide) ?_
  exact t_X7_piece_b16 hC  gR gM gS u gP gQ gT gE v1 v2 v3 v4 (0 : Int32) H locs ls hP hD hS (lv_sub hl [0, 1, 2, 3, 4] rfl) hf
set_option maxHeartbeats 4000000 in
set_option maxRecDepth 100000 in
theorem c_X7_piece (l : Launch) (D : va_G) (cI cJ cZ : ClassId) (h : Nat → Nat) (gP : tPi) (gR : tPa) (gQ : tPa) (gT : tTr) (gE : tTe) (gM : tMe) (gS : tSq) (a1 : Int32) (a2 : Int32) (a3 : Int32) (a4 : Int32) (u : Int32 × tPi × tPa × tTr × tTe) (hf : X7_piece gP gQ gT gE a1 a2 a3 a4 = some u) (sz : Nat) : Met l yX7_piece (Cond.code yX7_piece cX7_piece 6 (some .int) :: tb_L) ({ frames := 2, cells := 0, slots := 0, locals := 40 } : Room) (zPre D (zty cI cJ cZ) (zWC cI cJ cZ h gP gR gQ gT gE gM gS) sz [.ref (h 0), .int a1, .int a2, .int a3, .int a4]) (zQi D (va_A (zWC cI cJ cZ h gP gR gQ gT gE gM gS) sz) (zWC cI cJ cZ h u.2.1 gR u.2.2.1 u.2.2.2.1 u.2.2.2.2 gM gS) (u.1)) 0 0 (va_A (zWC cI cJ cZ h gP gR gQ gT gE gM gS) sz) := by
  refine zMet (Qc := fun A => zQi D A (zWC cI cJ cZ h u.2.1 gR u.2.2.1 u.2.2.2.1 u.2.2.2.2 gM gS) (u.1)) (by decide) rfl (Nat.le_of_ble_eq_true rfl) ?_
  intro p e s m args below meth c A ls hC _ hP hD hS hl
  replace hl : lv_has ls 6 [(0, .ref (h 0)), (1, .int a1), (2, .int a2), (3, .int a3), (4, .int a4)] := hl
  obtain ⟨hx, hb, hml, hown, hts, hK, hr, hlocks, hA⟩ := id hC
  unfold X7_piece at hf
  obtain ⟨H, hH⟩ : ∃ H, H = s.heap := ⟨_, rfl⟩
  rw [← hH] at hP
  replace hS : va_S A s.heap H [] := by rw [hH]; exact hS
  show W p l e _ s m args below meth c s.heap [] 0 0 _ _
  rw [← hH]
  clear hH
  obtain ⟨locs, hlo⟩ : ∃ x : List Loc, x = [] := ⟨_, rfl⟩
  rw [← hlo] at hS ⊢
  clear hlo
  refine lv_iload_n hx hb dX7_piece_0 rfl (lv_at hl 1 rfl) ?_
  refine lv_iload_n hx hb dX7_piece_1 rfl (lv_at hl 3 rfl) ?_
  refine lv_icmp_ne (tgt := 15) hx hb dX7_piece_2 (by decide) (fun c9 => ?_) (fun c9 => ?_)
  · replace hf := zif_f hf c9
    exact t_X7_piece_b15 hC  gR gM gS u gP gQ gT gE a1 a2 a3 a4 H locs ls hP hD hS (lv_sub hl [0, 1, 2, 3, 4] rfl) hf
  · replace hf := zif_t hf c9
    refine lv_iload_n hx hb dX7_piece_5 rfl (lv_at hl 2 rfl) ?_
    refine lv_iload hx hb dX7_piece_6 (lv_at hl 4 rfl) ?_
    refine lv_icmp_ne (tgt := 15) hx hb dX7_piece_8 (by decide) (fun c10 => ?_) (fun c10 => ?_)
    · replace hf := zif_f hf c10
      exact t_X7_piece_b15 hC  gR gM gS u gP gQ gT gE a1 a2 a3 a4 H locs ls hP hD hS (lv_sub hl [0, 1, 2, 3, 4] rfl) hf
    · replace hf := zif_t hf c10
      refine lv_iconst (v := 1) hx hb dX7_piece_11 (by decide) ?_
      refine lv_goto (tgt := 16) hx hb dX7_piece_12 (by decide) ?_
      exact t_X7_piece_b16 hC  gR gM gS u gP gQ gT gE a1 a2 a3 a4 (1 : Int32) H locs ls hP hD hS (lv_sub hl [0, 1, 2, 3, 4] rfl) hf
set_option maxHeartbeats 4000000 in
set_option maxRecDepth 100000 in
theorem c_X7_drop (l : Launch) (D : va_G) (cI cJ cZ : ClassId) (h : Nat → Nat) (gP : tPi) (gR : tPa) (gQ : tPa) (gT : tTr) (gE : tTe) (gM : tMe) (gS : tSq)  (u : Int32 × tPi × tPa × tTr × tTe) (hf : X7_drop gP gQ gT gE = some u) (sz : Nat) : Met l yX7_drop (Cond.code yX7_drop cX7_drop 1 (some .int) :: tb_L) ({ frames := 2, cells := 0, slots := 0, locals := 40 } : Room) (zPre D (zty cI cJ cZ) (zWC cI cJ cZ h gP gR gQ gT gE gM gS) sz [.ref (h 0)]) (zQi D (va_A (zWC cI cJ cZ h gP gR gQ gT gE gM gS) sz) (zWC cI cJ cZ h u.2.1 gR u.2.2.1 u.2.2.2.1 u.2.2.2.2 gM gS) (u.1)) 0 0 (va_A (zWC cI cJ cZ h gP gR gQ gT gE gM gS) sz) := by
  refine zMet (Qc := fun A => zQi D A (zWC cI cJ cZ h u.2.1 gR u.2.2.1 u.2.2.2.1 u.2.2.2.2 gM gS) (u.1)) (by decide) rfl (Nat.le_of_ble_eq_true rfl) ?_
  intro p e s m args below meth c A ls hC _ hP hD hS hl
  replace hl : lv_has ls 1 [(0, .ref (h 0))] := hl
  obtain ⟨hx, hb, hml, hown, hts, hK, hr, hlocks, hA⟩ := id hC
  unfold X7_drop at hf
  obtain ⟨H, hH⟩ : ∃ H, H = s.heap := ⟨_, rfl⟩
  rw [← hH] at hP
  replace hS : va_S A s.heap H [] := by rw [hH]; exact hS
  show W p l e _ s m args below meth c s.heap [] 0 0 _ _
  rw [← hH]
  clear hH
  obtain ⟨locs, hlo⟩ : ∃ x : List Loc, x = [] := ⟨_, rfl⟩
  rw [← hlo] at hS ⊢
  clear hlo
  refine lv_aload_n hx hb dX7_drop_0 rfl (lv_at hl 0 rfl) ?_
  refine va_get (D := D) (ci := 7) (v := .ref (h 1)) (C := RX7) (T := TX7) (N := 5) hx hb hts tb_wsX70 hown hK.1 hP 0 rfl rfl 0 (by decide) (hts _ tb_1_16) (fun _ h9 => h9) rfl dX7_drop_1 ?_
  refine va_get (D := D) (ci := 3) (v := .int (tPi.size gP)) (C := RX3) (T := TX3) (N := 5) hx hb hts tb_wsX30 hown hK.1 hP 1 rfl rfl 4 (by decide) (hts _ tb_7_0) (fun _ h9 => h9) rfl dX7_drop_4 ?_
  refine lv_if_gt (tgt := 12) hx hb dX7_drop_7 (by decide) (fun c1 => ?_) (fun c1 => ?_)
  · replace hf := zif_t hf c1
    refine lv_aload_n hx hb dX7_drop_12 rfl (lv_at hl 0 rfl) ?_
    obtain ⟨u2, hu2, hf⟩ := zbd hf
    refine zthen_v hA hD hS (zrunV (As := []) (rest := []) hC hP hD 0 rfl rfl (c_X7_forgetTree l D cI cJ cZ h  gP gR gQ gT gE gM gS  u2 hu2 H.size) kRX7_61 rfl rfl ⟨by decide, by decide⟩ rfl hl.1 rfl (Nat.le_of_ble_eq_true rfl) dX7_drop_13) (fun H locs hP hD hS => ?_)
    refine lv_aload_n hx hb dX7_drop_16 rfl (lv_at hl 0 rfl) ?_
    refine va_get (D := D) (ci := 7) (v := .ref (h 1)) (C := RX7) (T := TX7) (N := 5) hx hb hts tb_wsX70 hown hK.1 hP 0 rfl rfl 0 (by decide) (hts _ tb_1_16) (fun _ h9 => h9) rfl dX7_drop_17 ?_
    refine lv_dup hx hb dX7_drop_20 rfl ?_
    refine va_get (D := D) (ci := 3) (v := .int (tPi.size gP)) (C := RX3) (T := TX3) (N := 5) hx hb hts tb_wsX30 hown hK.1 hP 1 rfl rfl 4 (by decide) (hts _ tb_7_0) (fun _ h9 => h9) rfl dX7_drop_21 ?_
    refine lv_iconst (v := 1) hx hb dX7_drop_24 (by decide) ?_
    refine lv_isub hx hb dX7_drop_25 ?_
    refine va_put (D := D) (ci := 3) (v := .int ((tPi.size gP) - (1 : Int32))) (ty := .int) (C := RX3) (T := TX3) (N := 5) hx hb hts tb_wsX30 tyX3 tyX3_ok nmX3 hown hK.1 hP hD hS 1 rfl rfl 4 (by decide) (hts _ tb_7_0) (fun _ h9 => h9) rfl (by decide +kernel) rfl rfl (Nat.le_of_ble_eq_true rfl) dX7_drop_26 (fun H locs hP hD hS => ?_)
    replace hP : va_P D vwCl (zWC cI cJ cZ h (tPi.s_size gP ((tPi.size gP) - (1 : Int32))) gR u2.1 u2.2.1 u2.2.2 gM gS) H := hP
    replace hD : va_D A (zWC cI cJ cZ h (tPi.s_size gP ((tPi.size gP) - (1 : Int32))) gR u2.1 u2.2.1 u2.2.2 gM gS) := hD
    refine lv_aload_n hx hb dX7_drop_29 rfl (lv_at hl 0 rfl) ?_
    refine va_get (D := D) (ci := 7) (v := .ref (h 1)) (C := RX7) (T := TX7) (N := 5) hx hb hts tb_wsX70 hown hK.1 hP 0 rfl rfl 0 (by decide) (hts _ tb_1_16) (fun _ h9 => h9) rfl dX7_drop_30 ?_
    refine va_get (D := D) (ci := 3) (v := .int ((tPi.size gP) - (1 : Int32))) (C := RX3) (T := TX3) (N := 5) hx hb hts tb_wsX30 hown hK.1 hP 1 rfl rfl 4 (by decide) (hts _ tb_7_0) (fun _ h9 => h9) rfl dX7_drop_33 ?_
    have hu := Option.some.inj hf
    subst hu
    exact z_iret hC hP hD hS dX7_drop_36
  · replace hf := zif_f hf c1
    refine lv_iconst (v := -1) hx hb dX7_drop_10 (by decide) ?_
    have hu := Option.some.inj hf
    subst hu
    exact z_iret hC hP hD hS dX7_drop_11
set_option maxHeartbeats 4000000 in
set_option maxRecDepth 100000 in
theorem c_X2_add_R (l : Launch) (D : va_G) (cI cJ cZ : ClassId) (h : Nat → Nat) (gP : tPi) (gR : tPa) (gQ : tPa) (gT : tTr) (gE : tTe) (gM : tMe) (gS : tSq) (a1 : Int32) (a2 : Int32) (a3 : Int32) (a4 : Int32) (a5 : Int32) (u : tPa) (hf : X2_add_R gR a1 a2 a3 a4 a5 = some u) (sz : Nat) : Met l yX2_add (Cond.code yX2_add cX2_add 6 none :: tb_L) ({ frames := 0, cells := 0, slots := 0, locals := 0 } : Room) (zPre D (zty cI cJ cZ) (zWC cI cJ cZ h gP gR gQ gT gE gM gS) sz [.ref (h 7), .int a1, .int a2, .int a3, .int a4, .int a5]) (zQv D (va_A (zWC cI cJ cZ h gP gR gQ gT gE gM gS) sz) (zWC cI cJ cZ h gP u gQ gT gE gM gS)) 0 0 (va_A (zWC cI cJ cZ h gP gR gQ gT gE gM gS) sz) := by
  refine zMet (Qc := fun A => zQv D A (zWC cI cJ cZ h gP u gQ gT gE gM gS)) (by decide) rfl (Nat.le_of_ble_eq_true rfl) ?_
  intro p e s m args below meth c A ls hC _ hP hD hS hl
  replace hl : lv_has ls 6 [(0, .ref (h 7)), (1, .int a1), (2, .int a2), (3, .int a3), (4, .int a4), (5, .int a5)] := hl
  obtain ⟨hx, hb, hml, hown, hts, hK, hr, hlocks, hA⟩ := id hC
  unfold X2_add_R at hf
  obtain ⟨H, hH⟩ : ∃ H, H = s.heap := ⟨_, rfl⟩
  rw [← hH] at hP
  replace hS : va_S A s.heap H [] := by rw [hH]; exact hS
  show W p l e _ s m args below meth c s.heap [] 0 0 _ _
  rw [← hH]
  clear hH
  obtain ⟨locs, hlo⟩ : ∃ x : List Loc, x = [] := ⟨_, rfl⟩
  rw [← hlo] at hS ⊢
  clear hlo
  refine lv_aload_n hx hb dX2_add_0 rfl (lv_at hl 0 rfl) ?_
  refine va_get (D := D) (ci := 2) (v := .int (tPa.size gR)) (C := RX2) (T := TX2) (N := 6) hx hb hts tb_wsX20 hown hK.1 hP 7 rfl rfl 5 (by decide) (hts _ tb_10_0) (fun _ h9 => h9) rfl dX2_add_1 ?_
  refine lv_sipush (v := 300) hx hb dX2_add_4 (by decide) ?_
  refine lv_icmp_lt (tgt := 11) hx hb dX2_add_7 (by decide) (fun c1 => ?_) (fun c1 => ?_)
  · replace hf := zif_t hf c1
    refine lv_aload_n hx hb dX2_add_11 rfl (lv_at hl 0 rfl) ?_
    refine va_get (D := D) (ci := 2) (v := .ref (h 8)) (C := RX2) (T := TX2) (N := 6) hx hb hts tb_wsX20 hown hK.1 hP 7 rfl rfl 0 (by decide) (hts _ tb_3_8) (fun _ h9 => h9) rfl dX2_add_12 ?_
    refine lv_aload_n hx hb dX2_add_15 rfl (lv_at hl 0 rfl) ?_
    refine va_get (D := D) (ci := 2) (v := .int (tPa.size gR)) (C := RX2) (T := TX2) (N := 6) hx hb hts tb_wsX20 hown hK.1 hP 7 rfl rfl 5 (by decide) (hts _ tb_10_0) (fun _ h9 => h9) rfl dX2_add_16 ?_
    refine lv_iload_n hx hb dX2_add_19 rfl (lv_at hl 1 rfl) ?_
    obtain ⟨h2, hf⟩ := zck_s hf
    refine va_iast hx hb hK.1 hP hD hS 8 0 rfl rfl h2 dX2_add_20 (fun H locs hP hD hS => ?_)
    replace hP : va_P D vwCl (zWC cI cJ cZ h gP (tPa.s_owner gR (upd (tPa.owner gR) (tPa.size gR).toNatClampNeg a1)) gQ gT gE gM gS) H := hP
    replace hD : va_D A (zWC cI cJ cZ h gP (tPa.s_owner gR (upd (tPa.owner gR) (tPa.size gR).toNatClampNeg a1)) gQ gT gE gM gS) := hD
    refine lv_aload_n hx hb dX2_add_21 rfl (lv_at hl 0 rfl) ?_
    refine va_get (D := D) (ci := 2) (v := .ref (h 9)) (C := RX2) (T := TX2) (N := 6) hx hb hts tb_wsX20 hown hK.1 hP 7 rfl rfl 1 (by decide) (hts _ tb_3_9) (fun _ h9 => h9) rfl dX2_add_22 ?_
    refine lv_aload_n hx hb dX2_add_25 rfl (lv_at hl 0 rfl) ?_
    refine va_get (D := D) (ci := 2) (v := .int (tPa.size gR)) (C := RX2) (T := TX2) (N := 6) hx hb hts tb_wsX20 hown hK.1 hP 7 rfl rfl 5 (by decide) (hts _ tb_10_0) (fun _ h9 => h9) rfl dX2_add_26 ?_
    refine lv_iload_n hx hb dX2_add_29 rfl (lv_at hl 2 rfl) ?_
    obtain ⟨h3, hf⟩ := zck_s hf
    refine va_iast hx hb hK.1 hP hD hS 9 0 rfl rfl h3 dX2_add_30 (fun H locs hP hD hS => ?_)
    replace hP : va_P D vwCl (zWC cI cJ cZ h gP (tPa.s_n0 (tPa.s_owner gR (upd (tPa.owner gR) (tPa.size gR).toNatClampNeg a1)) (upd (tPa.n0 gR) (tPa.size gR).toNatClampNeg a2)) gQ gT gE gM gS) H := hP
    replace hD : va_D A (zWC cI cJ cZ h gP (tPa.s_n0 (tPa.s_owner gR (upd (tPa.owner gR) (tPa.size gR).toNatClampNeg a1)) (upd (tPa.n0 gR) (tPa.size gR).toNatClampNeg a2)) gQ gT gE gM gS) := hD
    refine lv_aload_n hx hb dX2_add_31 rfl (lv_at hl 0 rfl) ?_
    refine va_get (D := D) (ci := 2) (v := .ref (h 10)) (C := RX2) (T := TX2) (N := 6) hx hb hts tb_wsX20 hown hK.1 hP 7 rfl rfl 2 (by decide) (hts _ tb_3_10) (fun _ h9 => h9) rfl dX2_add_32 ?_
    refine lv_aload_n hx hb dX2_add_35 rfl (lv_at hl 0 rfl) ?_
    refine va_get (D := D) (ci := 2) (v := .int (tPa.size gR)) (C := RX2) (T := TX2) (N := 6) hx hb hts tb_wsX20 hown hK.1 hP 7 rfl rfl 5 (by decide) (hts _ tb_10_0) (fun _ h9 => h9) rfl dX2_add_36 ?_
    refine lv_iload_n hx hb dX2_add_39 rfl (lv_at hl 3 rfl) ?_
    obtain ⟨h4, hf⟩ := zck_s hf
    refine va_iast hx hb hK.1 hP hD hS 10 0 rfl rfl h4 dX2_add_40 (fun H locs hP hD hS => ?_)
    replace hP : va_P D vwCl (zWC cI cJ cZ h gP (tPa.s_d0 (tPa.s_n0 (tPa.s_owner gR (upd (tPa.owner gR) (tPa.size gR).toNatClampNeg a1)) (upd (tPa.n0 gR) (tPa.size gR).toNatClampNeg a2)) (upd (tPa.d0 gR) (tPa.size gR).toNatClampNeg a3)) gQ gT gE gM gS) H := hP
    replace hD : va_D A (zWC cI cJ cZ h gP (tPa.s_d0 (tPa.s_n0 (tPa.s_owner gR (upd (tPa.owner gR) (tPa.size gR).toNatClampNeg a1)) (upd (tPa.n0 gR) (tPa.size gR).toNatClampNeg a2)) (upd (tPa.d0 gR) (tPa.size gR).toNatClampNeg a3)) gQ gT gE gM gS) := hD
    refine lv_aload_n hx hb dX2_add_41 rfl (lv_at hl 0 rfl) ?_
    refine va_get (D := D) (ci := 2) (v := .ref (h 11)) (C := RX2) (T := TX2) (N := 6) hx hb hts tb_wsX20 hown hK.1 hP 7 rfl rfl 3 (by decide) (hts _ tb_3_11) (fun _ h9 => h9) rfl dX2_add_42 ?_
    refine lv_aload_n hx hb dX2_add_45 rfl (lv_at hl 0 rfl) ?_
    refine va_get (D := D) (ci := 2) (v := .int (tPa.size gR)) (C := RX2) (T := TX2) (N := 6) hx hb hts tb_wsX20 hown hK.1 hP 7 rfl rfl 5 (by decide) (hts _ tb_10_0) (fun _ h9 => h9) rfl dX2_add_46 ?_
    refine lv_iload hx hb dX2_add_49 (lv_at hl 4 rfl) ?_
    obtain ⟨h5, hf⟩ := zck_s hf
    refine va_iast hx hb hK.1 hP hD hS 11 0 rfl rfl h5 dX2_add_51 (fun H locs hP hD hS => ?_)
    replace hP : va_P D vwCl (zWC cI cJ cZ h gP (tPa.s_n1 (tPa.s_d0 (tPa.s_n0 (tPa.s_owner gR (upd (tPa.owner gR) (tPa.size gR).toNatClampNeg a1)) (upd (tPa.n0 gR) (tPa.size gR).toNatClampNeg a2)) (upd (tPa.d0 gR) (tPa.size gR).toNatClampNeg a3)) (upd (tPa.n1 gR) (tPa.size gR).toNatClampNeg a4)) gQ gT gE gM gS) H := hP
    replace hD : va_D A (zWC cI cJ cZ h gP (tPa.s_n1 (tPa.s_d0 (tPa.s_n0 (tPa.s_owner gR (upd (tPa.owner gR) (tPa.size gR).toNatClampNeg a1)) (upd (tPa.n0 gR) (tPa.size gR).toNatClampNeg a2)) (upd (tPa.d0 gR) (tPa.size gR).toNatClampNeg a3)) (upd (tPa.n1 gR) (tPa.size gR).toNatClampNeg a4)) gQ gT gE gM gS) := hD
    refine lv_aload_n hx hb dX2_add_52 rfl (lv_at hl 0 rfl) ?_
    refine va_get (D := D) (ci := 2) (v := .ref (h 12)) (C := RX2) (T := TX2) (N := 6) hx hb hts tb_wsX20 hown hK.1 hP 7 rfl rfl 4 (by decide) (hts _ tb_3_12) (fun _ h9 => h9) rfl dX2_add_53 ?_
    refine lv_aload_n hx hb dX2_add_56 rfl (lv_at hl 0 rfl) ?_
    refine va_get (D := D) (ci := 2) (v := .int (tPa.size gR)) (C := RX2) (T := TX2) (N := 6) hx hb hts tb_wsX20 hown hK.1 hP 7 rfl rfl 5 (by decide) (hts _ tb_10_0) (fun _ h9 => h9) rfl dX2_add_57 ?_
    refine lv_iload hx hb dX2_add_60 (lv_at hl 5 rfl) ?_
    obtain ⟨h6, hf⟩ := zck_s hf
    refine va_iast hx hb hK.1 hP hD hS 12 0 rfl rfl h6 dX2_add_62 (fun H locs hP hD hS => ?_)
    replace hP : va_P D vwCl (zWC cI cJ cZ h gP (tPa.s_d1 (tPa.s_n1 (tPa.s_d0 (tPa.s_n0 (tPa.s_owner gR (upd (tPa.owner gR) (tPa.size gR).toNatClampNeg a1)) (upd (tPa.n0 gR) (tPa.size gR).toNatClampNeg a2)) (upd (tPa.d0 gR) (tPa.size gR).toNatClampNeg a3)) (upd (tPa.n1 gR) (tPa.size gR).toNatClampNeg a4)) (upd (tPa.d1 gR) (tPa.size gR).toNatClampNeg a5)) gQ gT gE gM gS) H := hP
    replace hD : va_D A (zWC cI cJ cZ h gP (tPa.s_d1 (tPa.s_n1 (tPa.s_d0 (tPa.s_n0 (tPa.s_owner gR (upd (tPa.owner gR) (tPa.size gR).toNatClampNeg a1)) (upd (tPa.n0 gR) (tPa.size gR).toNatClampNeg a2)) (upd (tPa.d0 gR) (tPa.size gR).toNatClampNeg a3)) (upd (tPa.n1 gR) (tPa.size gR).toNatClampNeg a4)) (upd (tPa.d1 gR) (tPa.size gR).toNatClampNeg a5)) gQ gT gE gM gS) := hD
    refine lv_aload_n hx hb dX2_add_63 rfl (lv_at hl 0 rfl) ?_
    refine lv_dup hx hb dX2_add_64 rfl ?_
    refine va_get (D := D) (ci := 2) (v := .int (tPa.size gR)) (C := RX2) (T := TX2) (N := 6) hx hb hts tb_wsX20 hown hK.1 hP 7 rfl rfl 5 (by decide) (hts _ tb_10_0) (fun _ h9 => h9) rfl dX2_add_65 ?_
    refine lv_iconst (v := 1) hx hb dX2_add_68 (by decide) ?_
    refine lv_iadd hx hb dX2_add_69 ?_
    refine va_put (D := D) (ci := 2) (v := .int ((tPa.size gR) + (1 : Int32))) (ty := .int) (C := RX2) (T := TX2) (N := 6) hx hb hts tb_wsX20 tyX2 tyX2_ok nmX2 hown hK.1 hP hD hS 7 rfl rfl 5 (by decide) (hts _ tb_10_0) (fun _ h9 => h9) rfl (by decide +kernel) rfl rfl (Nat.le_of_ble_eq_true rfl) dX2_add_70 (fun H locs hP hD hS => ?_)
    replace hP : va_P D vwCl (zWC cI cJ cZ h gP (tPa.s_size (tPa.s_d1 (tPa.s_n1 (tPa.s_d0 (tPa.s_n0 (tPa.s_owner gR (upd (tPa.owner gR) (tPa.size gR).toNatClampNeg a1)) (upd (tPa.n0 gR) (tPa.size gR).toNatClampNeg a2)) (upd (tPa.d0 gR) (tPa.size gR).toNatClampNeg a3)) (upd (tPa.n1 gR) (tPa.size gR).toNatClampNeg a4)) (upd (tPa.d1 gR) (tPa.size gR).toNatClampNeg a5)) ((tPa.size gR) + (1 : Int32))) gQ gT gE gM gS) H := hP
    replace hD : va_D A (zWC cI cJ cZ h gP (tPa.s_size (tPa.s_d1 (tPa.s_n1 (tPa.s_d0 (tPa.s_n0 (tPa.s_owner gR (upd (tPa.owner gR) (tPa.size gR).toNatClampNeg a1)) (upd (tPa.n0 gR) (tPa.size gR).toNatClampNeg a2)) (upd (tPa.d0 gR) (tPa.size gR).toNatClampNeg a3)) (upd (tPa.n1 gR) (tPa.size gR).toNatClampNeg a4)) (upd (tPa.d1 gR) (tPa.size gR).toNatClampNeg a5)) ((tPa.size gR) + (1 : Int32))) gQ gT gE gM gS) := hD
    have hu := Option.some.inj hf
    subst hu
    exact z_vret hC hP hD hS dX2_add_73
  · replace hf := zif_f hf c1
    have hu := Option.some.inj hf
    subst hu
    exact z_vret hC hP hD hS dX2_add_10
set_option maxHeartbeats 4000000 in
set_option maxRecDepth 100000 in
theorem c_X2_addWhole_R (l : Launch) (D : va_G) (cI cJ cZ : ClassId) (h : Nat → Nat) (gP : tPi) (gR : tPa) (gQ : tPa) (gT : tTr) (gE : tTe) (gM : tMe) (gS : tSq) (a1 : Int32) (u : tPa) (hf : X2_addWhole_R gR a1 = some u) (sz : Nat) : Met l yX2_addWhole (Cond.code yX2_addWhole cX2_addWhole 2 none :: tb_L) ({ frames := 1, cells := 0, slots := 0, locals := 25 } : Room) (zPre D (zty cI cJ cZ) (zWC cI cJ cZ h gP gR gQ gT gE gM gS) sz [.ref (h 7), .int a1]) (zQv D (va_A (zWC cI cJ cZ h gP gR gQ gT gE gM gS) sz) (zWC cI cJ cZ h gP u gQ gT gE gM gS)) 0 0 (va_A (zWC cI cJ cZ h gP gR gQ gT gE gM gS) sz) := by
  refine zMet (Qc := fun A => zQv D A (zWC cI cJ cZ h gP u gQ gT gE gM gS)) (by decide) rfl (Nat.le_of_ble_eq_true rfl) ?_
  intro p e s m args below meth c A ls hC _ hP hD hS hl
  replace hl : lv_has ls 2 [(0, .ref (h 7)), (1, .int a1)] := hl
  obtain ⟨hx, hb, hml, hown, hts, hK, hr, hlocks, hA⟩ := id hC
  unfold X2_addWhole_R at hf
  obtain ⟨H, hH⟩ : ∃ H, H = s.heap := ⟨_, rfl⟩
  rw [← hH] at hP
  replace hS : va_S A s.heap H [] := by rw [hH]; exact hS
  show W p l e _ s m args below meth c s.heap [] 0 0 _ _
  rw [← hH]
  clear hH
  obtain ⟨locs, hlo⟩ : ∃ x : List Loc, x = [] := ⟨_, rfl⟩
  rw [← hlo] at hS ⊢
  clear hlo
  refine lv_aload_n hx hb dX2_addWhole_0 rfl (lv_at hl 0 rfl) ?_
  refine lv_iload_n hx hb dX2_addWhole_1 rfl (lv_at hl 1 rfl) ?_
  refine lv_iconst (v := 0) hx hb dX2_addWhole_2 (by decide) ?_
  refine lv_iconst (v := 1) hx hb dX2_addWhole_3 (by decide) ?_
  refine lv_iconst (v := 1) hx hb dX2_addWhole_4 (by decide) ?_
  refine lv_iconst (v := 1) hx hb dX2_addWhole_5 (by decide) ?_
  obtain ⟨u1, hu1, hf⟩ := zbd hf
  refine zthen_v hA hD hS (zrunV (As := [.int a1, .int (0 : Int32), .int (1 : Int32), .int (1 : Int32), .int (1 : Int32)]) (rest := []) hC hP hD 7 rfl rfl (c_X2_add_R l D cI cJ cZ h  gP gR gQ gT gE gM gS a1 (0 : Int32) (1 : Int32) (1 : Int32) (1 : Int32) u1 hu1 H.size) kRX2_27 rfl rfl ⟨by decide, by decide⟩ rfl hl.1 rfl (Nat.le_of_ble_eq_true rfl) dX2_addWhole_6) (fun H locs hP hD hS => ?_)
  have hu := Option.some.inj hf
  subst hu
  exact z_vret hC hP hD hS dX2_addWhole_9
set_option maxHeartbeats 4000000 in
set_option maxRecDepth 100000 in
theorem t_X0_startWithAll_b10 {p : Program} {l : Launch} {e : Env} {s : State} {m : MethodId} {args : Array Value} {below : List Frame} {meth : Method} {c : Code} {A : Nat → Prop} {D : va_G} {cI cJ cZ : ClassId} {h : Nat → Nat} (hC : zCx p s m args meth c A D (zty cI cJ cZ) cX0_startWithAll RX0 2 none) (N : Nat) (gP : tPi) (gQ : tPa) (gT : tTr) (gE : tTe) (gM : tMe) (gS : tSq) (u : tPa) : ∀ (n : Nat) (gR : tPa) (v1 : Int32) (H : Heap) (locs : List Loc) (ls : Array Slot), va_P D vwCl (zWC cI cJ cZ h gP gR gQ gT gE gM gS) H → va_D A (zWC cI cJ cZ h gP gR gQ gT gE gM gS) → va_S A s.heap H locs → lv_has ls 2 [(0, .ref (h 6)), (1, .int v1)] → X0_startWithAll_b10 N gP n gR v1 = some u → W p l e ({ frames := 2, cells := 0, slots := 0, locals := 46 } : Room) s m args below meth c H locs 0 0 (MQ below (zQv D A (zWC cI cJ cZ h gP u gQ gT gE gM gS)) args s 0 0 A) (F0 m 10 ls []) := by
  intro n
  induction n with
  | zero =>
    intro gR v1 H locs ls hP hD hS hl hf
    cases hf
  | succ n ih =>
    intro gR v1 H locs ls hP hD hS hl hf
    obtain ⟨hx, hb, hml, hown, hts, hK, hr, hlocks, hA⟩ := id hC
    rw [X0_startWithAll_b10] at hf
    refine lv_iload_n hx hb dX0_startWithAll_10 rfl (lv_at hl 1 rfl) ?_
    refine lv_aload_n hx hb dX0_startWithAll_11 rfl (lv_at hl 0 rfl) ?_
    refine va_get (D := D) (ci := 0) (v := .ref (h 1)) (C := RX0) (T := TX0) (N := 2) hx hb hts tb_wsX00 hown hK.1 hP 6 rfl rfl 1 (by decide) (hts _ tb_3_4) (fun _ h9 => h9) rfl dX0_startWithAll_12 ?_
    refine va_get (D := D) (ci := 3) (v := .int (tPi.size gP)) (C := RX3) (T := TX3) (N := 5) hx hb hts tb_wsX30 hown hK.1 hP 1 rfl rfl 4 (by decide) (hts _ tb_11_8) (fun _ h9 => h9) rfl dX0_startWithAll_15 ?_
    refine lv_icmp_ge (tgt := 35) hx hb dX0_startWithAll_18 (by decide) (fun c1 => ?_) (fun c1 => ?_)
    · replace hf := zif_t hf c1
      have hu := Option.some.inj hf
      subst hu
      exact z_vret hC hP hD hS dX0_startWithAll_35
    · replace hf := zif_f hf c1
      refine lv_aload_n hx hb dX0_startWithAll_21 rfl (lv_at hl 0 rfl) ?_
      refine va_get (D := D) (ci := 0) (v := .ref (h 7)) (C := RX0) (T := TX0) (N := 2) hx hb hts tb_wsX00 hown hK.1 hP 6 rfl rfl 0 (by decide) (hts _ tb_3_3) (fun _ h9 => h9) rfl dX0_startWithAll_22 ?_
      refine lv_iload_n hx hb dX0_startWithAll_25 rfl (lv_at hl 1 rfl) ?_
      obtain ⟨u2, hu2, hf⟩ := zbd hf
      refine zthen_v hA hD hS (zrunV (As := [.int v1]) (rest := []) hC hP hD 7 rfl rfl (c_X2_addWhole_R l D cI cJ cZ h  gP gR gQ gT gE gM gS v1 u2 hu2 H.size) kRX0_29 rfl rfl ⟨by decide, by decide⟩ rfl hl.1 rfl (Nat.le_of_ble_eq_true rfl) dX0_startWithAll_26) (fun H locs hP hD hS => ?_)
      refine lv_iinc (v := (v1 + (1 : Int32))) (lv' := [(1, .int (v1 + (1 : Int32))), (0, .ref (h 6))]) hx hb dX0_startWithAll_29 hl (k := 1) rfl rfl (by decide) rfl (fun ls hl => ?_)
      refine lv_goto (tgt := 10) hx hb dX0_startWithAll_32 (by decide) ?_
      exact ih u2 (v1 + (1 : Int32)) H locs ls hP hD hS (lv_sub hl [1, 0] rfl) hf
set_option maxHeartbeats 4000000 in
set_option maxRecDepth 100000 in
theorem c_X0_startWithAll (l : Launch) (D : va_G) (cI cJ cZ : ClassId) (h : Nat → Nat) (N : Nat) (gP : tPi) (gR : tPa) (gQ : tPa) (gT : tTr) (gE : tTe) (gM : tMe) (gS : tSq)  (u : tPa) (hf : X0_startWithAll N gP gR = some u) (sz : Nat) : Met l yX0_startWithAll (Cond.code yX0_startWithAll cX0_startWithAll 2 none :: tb_L) ({ frames := 2, cells := 0, slots := 0, locals := 46 } : Room) (zPre D (zty cI cJ cZ) (zWC cI cJ cZ h gP gR gQ gT gE gM gS) sz [.ref (h 6)]) (zQv D (va_A (zWC cI cJ cZ h gP gR gQ gT gE gM gS) sz) (zWC cI cJ cZ h gP u gQ gT gE gM gS)) 0 0 (va_A (zWC cI cJ cZ h gP gR gQ gT gE gM gS) sz) := by
  refine zMet (Qc := fun A => zQv D A (zWC cI cJ cZ h gP u gQ gT gE gM gS)) (by decide) rfl (Nat.le_of_ble_eq_true rfl) ?_
  intro p e s m args below meth c A ls hC _ hP hD hS hl
  replace hl : lv_has ls 2 [(0, .ref (h 6))] := hl
  obtain ⟨hx, hb, hml, hown, hts, hK, hr, hlocks, hA⟩ := id hC
  unfold X0_startWithAll at hf
  obtain ⟨H, hH⟩ : ∃ H, H = s.heap := ⟨_, rfl⟩
  rw [← hH] at hP
  replace hS : va_S A s.heap H [] := by rw [hH]; exact hS
  show W p l e _ s m args below meth c s.heap [] 0 0 _ _
  rw [← hH]
  clear hH
  obtain ⟨locs, hlo⟩ : ∃ x : List Loc, x = [] := ⟨_, rfl⟩
  rw [← hlo] at hS ⊢
  clear hlo
  refine lv_aload_n hx hb dX0_startWithAll_0 rfl (lv_at hl 0 rfl) ?_
  refine va_get (D := D) (ci := 0) (v := .ref (h 7)) (C := RX0) (T := TX0) (N := 2) hx hb hts tb_wsX00 hown hK.1 hP 6 rfl rfl 0 (by decide) (hts _ tb_3_3) (fun _ h9 => h9) rfl dX0_startWithAll_1 ?_
  refine lv_iconst (v := 0) hx hb dX0_startWithAll_4 (by decide) ?_
  refine va_put (D := D) (ci := 2) (v := .int (0 : Int32)) (ty := .int) (C := RX2) (T := TX2) (N := 6) hx hb hts tb_wsX20 tyX2 tyX2_ok nmX2 hown hK.1 hP hD hS 7 rfl rfl 5 (by decide) (hts _ tb_11_7) (fun _ h9 => h9) rfl (by decide +kernel) rfl rfl (Nat.le_of_ble_eq_true rfl) dX0_startWithAll_5 (fun H locs hP hD hS => ?_)
  replace hP : va_P D vwCl (zWC cI cJ cZ h gP (tPa.s_size gR (0 : Int32)) gQ gT gE gM gS) H := hP
  replace hD : va_D A (zWC cI cJ cZ h gP (tPa.s_size gR (0 : Int32)) gQ gT gE gM gS) := hD
  refine lv_iconst (v := 0) hx hb dX0_startWithAll_8 (by decide) ?_
  refine lv_istore_n (lv' := [(1, .int (0 : Int32)), (0, .ref (h 6))]) hx hb dX0_startWithAll_9 rfl hl (by decide) rfl (fun ls hl => ?_)
  exact t_X0_startWithAll_b10 hC N gP gQ gT gE gM gS u N (tPa.s_size gR (0 : Int32)) (0 : Int32) H locs ls hP hD hS (lv_sub hl [1, 0] rfl) hf
set_option maxHeartbeats 4000000 in
set_option maxRecDepth 100000 in
theorem c_X0_sideBetween (l : Launch) (D : va_G) (cI cJ cZ : ClassId) (h : Nat → Nat) (gP : tPi) (gR : tPa) (gQ : tPa) (gT : tTr) (gE : tTe) (gM : tMe) (gS : tSq) (a0 : Int32) (a1 : Int32) (a2 : Int32) (a3 : Int32) (u : Int32) (hf : X0_sideBetween a0 a1 a2 a3 = some u) (sz : Nat) : Met l yX0_sideBetween (Cond.code yX0_sideBetween cX0_sideBetween 6 (some .int) :: tb_L) ({ frames := 0, cells := 0, slots := 0, locals := 0 } : Room) (zPre D (zty cI cJ cZ) (zWC cI cJ cZ h gP gR gQ gT gE gM gS) sz [.int a0, .int a1, .int a2, .int a3]) (zQi D (va_A (zWC cI cJ cZ h gP gR gQ gT gE gM gS) sz) (zWC cI cJ cZ h gP gR gQ gT gE gM gS) (u)) 0 0 (va_A (zWC cI cJ cZ h gP gR gQ gT gE gM gS) sz) := by
  refine zMet (Qc := fun A => zQi D A (zWC cI cJ cZ h gP gR gQ gT gE gM gS) (u)) (by decide) rfl (Nat.le_of_ble_eq_true rfl) ?_
  intro p e s m args below meth c A ls hC _ hP hD hS hl
  replace hl : lv_has ls 6 [(0, .int a0), (1, .int a1), (2, .int a2), (3, .int a3)] := hl
  obtain ⟨hx, hb, hml, hown, hts, hK, hr, hlocks, hA⟩ := id hC
  unfold X0_sideBetween at hf
  obtain ⟨H, hH⟩ : ∃ H, H = s.heap := ⟨_, rfl⟩
  rw [← hH] at hP
  replace hS : va_S A s.heap H [] := by rw [hH]; exact hS
  show W p l e _ s m args below meth c s.heap [] 0 0 _ _
  rw [← hH]
  clear hH
  obtain ⟨locs, hlo⟩ : ∃ x : List Loc, x = [] := ⟨_, rfl⟩
  rw [← hlo] at hS ⊢
  clear hlo
  refine lv_iload_n hx hb dX0_sideBetween_0 rfl (lv_at hl 0 rfl) ?_
  refine lv_i2l (v := a0.toInt64) hx hb dX0_sideBetween_1 rfl ?_
  refine lv_iload_n hx hb dX0_sideBetween_2 rfl (lv_at hl 3 rfl) ?_
  refine lv_iload_n hx hb dX0_sideBetween_3 rfl (lv_at hl 2 rfl) ?_
  refine lv_isub hx hb dX0_sideBetween_4 ?_
  refine lv_i2l (v := ((a3 - a2)).toInt64) hx hb dX0_sideBetween_5 rfl ?_
  refine lv_lmul hx hb dX0_sideBetween_6 ?_
  refine lv_iload_n hx hb dX0_sideBetween_7 rfl (lv_at hl 1 rfl) ?_
  refine lv_i2l (v := a1.toInt64) hx hb dX0_sideBetween_8 rfl ?_
  refine lv_iload_n hx hb dX0_sideBetween_9 rfl (lv_at hl 2 rfl) ?_
  refine lv_i2l (v := a2.toInt64) hx hb dX0_sideBetween_10 rfl ?_
  refine lv_lmul hx hb dX0_sideBetween_11 ?_
  refine lv_ladd hx hb dX0_sideBetween_12 ?_
  refine lv_topl (fun x1 ex1 => ?_)
  replace hf := zl_n ex1 hf
  refine lv_lstore (lv' := [(4, .long x1), (0, .int a0), (1, .int a1), (2, .int a2), (3, .int a3)]) hx hb dX0_sideBetween_13 hl (by decide) rfl (fun ls hl => ?_)
  refine lv_lload hx hb dX0_sideBetween_15 (lv_at hl 0 rfl) ?_
  refine lv_lconst (v := 0) hx hb dX0_sideBetween_17 (by decide) ?_
  refine W.lcmp hx hb dX0_sideBetween_18 ?_
  refine lv_if_le (tgt := 26) hx hb dX0_sideBetween_19 (by decide) (fun c2 => ?_) (fun c2 => ?_)
  · replace hf := zif_t hf c2
    refine lv_lload hx hb dX0_sideBetween_26 (lv_at hl 0 rfl) ?_
    refine lv_lconst (v := 0) hx hb dX0_sideBetween_28 (by decide) ?_
    refine W.lcmp hx hb dX0_sideBetween_29 ?_
    refine lv_if_ge (tgt := 37) hx hb dX0_sideBetween_30 (by decide) (fun c3 => ?_) (fun c3 => ?_)
    · replace hf := zif_t hf c3
      refine lv_iconst (v := 0) hx hb dX0_sideBetween_37 (by decide) ?_
      have hu := Option.some.inj hf
      subst hu
      exact z_iret hC hP hD hS dX0_sideBetween_38
    · replace hf := zif_f hf c3
      refine lv_iconst (v := 2) hx hb dX0_sideBetween_33 (by decide) ?_
      refine lv_goto (tgt := 38) hx hb dX0_sideBetween_34 (by decide) ?_
      have hu := Option.some.inj hf
      subst hu
      exact z_iret hC hP hD hS dX0_sideBetween_38
  · replace hf := zif_f hf c2
    refine lv_iconst (v := 1) hx hb dX0_sideBetween_22 (by decide) ?_
    refine lv_goto (tgt := 38) hx hb dX0_sideBetween_23 (by decide) ?_
    have hu := Option.some.inj hf
    subst hu
    exact z_iret hC hP hD hS dX0_sideBetween_38
set_option maxHeartbeats 4000000 in
set_option maxRecDepth 100000 in
theorem c_X3_sideOf (l : Launch) (D : va_G) (cI cJ cZ : ClassId) (h : Nat → Nat) (gP : tPi) (gR : tPa) (gQ : tPa) (gT : tTr) (gE : tTe) (gM : tMe) (gS : tSq) (a1 : Int32) (a2 : Int32) (a3 : Int32) (u : Int32) (hf : X3_sideOf gP a1 a2 a3 = some u) (sz : Nat) : Met l yX3_sideOf (Cond.code yX3_sideOf cX3_sideOf 4 (some .int) :: tb_L) ({ frames := 0, cells := 0, slots := 0, locals := 0 } : Room) (zPre D (zty cI cJ cZ) (zWC cI cJ cZ h gP gR gQ gT gE gM gS) sz [.ref (h 1), .int a1, .int a2, .int a3]) (zQi D (va_A (zWC cI cJ cZ h gP gR gQ gT gE gM gS) sz) (zWC cI cJ cZ h gP gR gQ gT gE gM gS) (u)) 0 0 (va_A (zWC cI cJ cZ h gP gR gQ gT gE gM gS) sz) := by
  refine zMet (Qc := fun A => zQi D A (zWC cI cJ cZ h gP gR gQ gT gE gM gS) (u)) (by decide) rfl (Nat.le_of_ble_eq_true rfl) ?_
  intro p e s m args below meth c A ls hC _ hP hD hS hl
  replace hl : lv_has ls 4 [(0, .ref (h 1)), (1, .int a1), (2, .int a2), (3, .int a3)] := hl
  obtain ⟨hx, hb, hml, hown, hts, hK, hr, hlocks, hA⟩ := id hC
  unfold X3_sideOf at hf
  obtain ⟨H, hH⟩ : ∃ H, H = s.heap := ⟨_, rfl⟩
  rw [← hH] at hP
  replace hS : va_S A s.heap H [] := by rw [hH]; exact hS
  show W p l e _ s m args below meth c s.heap [] 0 0 _ _
  rw [← hH]
  clear hH
  obtain ⟨locs, hlo⟩ : ∃ x : List Loc, x = [] := ⟨_, rfl⟩
  rw [← hlo] at hS ⊢
  clear hlo
  refine lv_aload_n hx hb dX3_sideOf_0 rfl (lv_at hl 0 rfl) ?_
  refine va_get (D := D) (ci := 3) (v := .ref (h 4)) (C := RX3) (T := TX3) (N := 5) hx hb hts tb_wsX30 hown hK.1 hP 1 rfl rfl 2 (by decide) (hts _ tb_2_18) (fun _ h9 => h9) rfl dX3_sideOf_1 ?_
  refine lv_iload_n hx hb dX3_sideOf_4 rfl (lv_at hl 1 rfl) ?_
  obtain ⟨h1, hf⟩ := zck_s hf
  refine va_iald hx hb hK.1 hP 4 0 rfl rfl h1 dX3_sideOf_5 ?_
  refine lv_aload_n hx hb dX3_sideOf_6 rfl (lv_at hl 0 rfl) ?_
  refine va_get (D := D) (ci := 3) (v := .ref (h 2)) (C := RX3) (T := TX3) (N := 5) hx hb hts tb_wsX30 hown hK.1 hP 1 rfl rfl 0 (by decide) (hts _ tb_2_16) (fun _ h9 => h9) rfl dX3_sideOf_7 ?_
  refine lv_iload_n hx hb dX3_sideOf_10 rfl (lv_at hl 1 rfl) ?_
  obtain ⟨h2, hf⟩ := zck_s hf
  refine va_iald hx hb hK.1 hP 2 0 rfl rfl h2 dX3_sideOf_11 ?_
  refine lv_isub hx hb dX3_sideOf_12 ?_
  refine lv_iload_n hx hb dX3_sideOf_13 rfl (lv_at hl 3 rfl) ?_
  refine lv_aload_n hx hb dX3_sideOf_14 rfl (lv_at hl 0 rfl) ?_
  refine va_get (D := D) (ci := 3) (v := .ref (h 3)) (C := RX3) (T := TX3) (N := 5) hx hb hts tb_wsX30 hown hK.1 hP 1 rfl rfl 1 (by decide) (hts _ tb_2_17) (fun _ h9 => h9) rfl dX3_sideOf_15 ?_
  refine lv_iload_n hx hb dX3_sideOf_18 rfl (lv_at hl 1 rfl) ?_
  obtain ⟨h3, hf⟩ := zck_s hf
  refine va_iald hx hb hK.1 hP 3 0 rfl rfl h3 dX3_sideOf_19 ?_
  refine lv_isub hx hb dX3_sideOf_20 ?_
  refine lv_imul hx hb dX3_sideOf_21 ?_
  refine lv_aload_n hx hb dX3_sideOf_22 rfl (lv_at hl 0 rfl) ?_
  refine va_get (D := D) (ci := 3) (v := .ref (h 5)) (C := RX3) (T := TX3) (N := 5) hx hb hts tb_wsX30 hown hK.1 hP 1 rfl rfl 3 (by decide) (hts _ tb_2_19) (fun _ h9 => h9) rfl dX3_sideOf_23 ?_
  refine lv_iload_n hx hb dX3_sideOf_26 rfl (lv_at hl 1 rfl) ?_
  obtain ⟨h4, hf⟩ := zck_s hf
  refine va_iald hx hb hK.1 hP 5 0 rfl rfl h4 dX3_sideOf_27 ?_
  refine lv_aload_n hx hb dX3_sideOf_28 rfl (lv_at hl 0 rfl) ?_
  refine va_get (D := D) (ci := 3) (v := .ref (h 3)) (C := RX3) (T := TX3) (N := 5) hx hb hts tb_wsX30 hown hK.1 hP 1 rfl rfl 1 (by decide) (hts _ tb_2_17) (fun _ h9 => h9) rfl dX3_sideOf_29 ?_
  refine lv_iload_n hx hb dX3_sideOf_32 rfl (lv_at hl 1 rfl) ?_
  obtain ⟨h5, hf⟩ := zck_s hf
  refine va_iald hx hb hK.1 hP 3 0 rfl rfl h5 dX3_sideOf_33 ?_
  refine lv_isub hx hb dX3_sideOf_34 ?_
  refine lv_iload_n hx hb dX3_sideOf_35 rfl (lv_at hl 2 rfl) ?_
  refine lv_aload_n hx hb dX3_sideOf_36 rfl (lv_at hl 0 rfl) ?_
  refine va_get (D := D) (ci := 3) (v := .ref (h 2)) (C := RX3) (T := TX3) (N := 5) hx hb hts tb_wsX30 hown hK.1 hP 1 rfl rfl 0 (by decide) (hts _ tb_2_16) (fun _ h9 => h9) rfl dX3_sideOf_37 ?_
  refine lv_iload_n hx hb dX3_sideOf_40 rfl (lv_at hl 1 rfl) ?_
  obtain ⟨h6, hf⟩ := zck_s hf
  refine va_iald hx hb hK.1 hP 2 0 rfl rfl h6 dX3_sideOf_41 ?_
  refine lv_isub hx hb dX3_sideOf_42 ?_
  refine lv_imul hx hb dX3_sideOf_43 ?_
  refine lv_isub hx hb dX3_sideOf_44 ?_
  have hu := Option.some.inj hf
  subst hu
  exact z_iret hC hP hD hS dX3_sideOf_45
set_option maxHeartbeats 4000000 in
set_option maxRecDepth 100000 in
theorem c_X0_sides (l : Launch) (D : va_G) (cI cJ cZ : ClassId) (h : Nat → Nat) (gP : tPi) (gR : tPa) (gQ : tPa) (gT : tTr) (gE : tTe) (gM : tMe) (gS : tSq) (a1 : Int32) (a2 : Int32) (u : Int32) (hf : X0_sides gP gR a1 a2 = some u) (sz : Nat) : Met l yX0_sides (Cond.code yX0_sides cX0_sides 6 (some .int) :: tb_L) ({ frames := 1, cells := 0, slots := 0, locals := 25 } : Room) (zPre D (zty cI cJ cZ) (zWC cI cJ cZ h gP gR gQ gT gE gM gS) sz [.ref (h 6), .int a1, .int a2]) (zQi D (va_A (zWC cI cJ cZ h gP gR gQ gT gE gM gS) sz) (zWC cI cJ cZ h gP gR gQ gT gE gM gS) (u)) 0 0 (va_A (zWC cI cJ cZ h gP gR gQ gT gE gM gS) sz) := by
  refine zMet (Qc := fun A => zQi D A (zWC cI cJ cZ h gP gR gQ gT gE gM gS) (u)) (by decide) rfl (Nat.le_of_ble_eq_true rfl) ?_
  intro p e s m args below meth c A ls hC _ hP hD hS hl
  replace hl : lv_has ls 6 [(0, .ref (h 6)), (1, .int a1), (2, .int a2)] := hl
  obtain ⟨hx, hb, hml, hown, hts, hK, hr, hlocks, hA⟩ := id hC
  unfold X0_sides at hf
  obtain ⟨H, hH⟩ : ∃ H, H = s.heap := ⟨_, rfl⟩
  rw [← hH] at hP
  replace hS : va_S A s.heap H [] := by rw [hH]; exact hS
  show W p l e _ s m args below meth c s.heap [] 0 0 _ _
  rw [← hH]
  clear hH
  obtain ⟨locs, hlo⟩ : ∃ x : List Loc, x = [] := ⟨_, rfl⟩
  rw [← hlo] at hS ⊢
  clear hlo
  refine lv_aload_n hx hb dX0_sides_0 rfl (lv_at hl 0 rfl) ?_
  refine va_get (D := D) (ci := 0) (v := .ref (h 7)) (C := RX0) (T := TX0) (N := 2) hx hb hts tb_wsX00 hown hK.1 hP 6 rfl rfl 0 (by decide) (hts _ tb_3_3) (fun _ h9 => h9) rfl dX0_sides_1 ?_
  refine va_get (D := D) (ci := 2) (v := .ref (h 8)) (C := RX2) (T := TX2) (N := 6) hx hb hts tb_wsX20 hown hK.1 hP 7 rfl rfl 0 (by decide) (hts _ tb_12_18) (fun _ h9 => h9) rfl dX0_sides_4 ?_
  refine lv_iload_n hx hb dX0_sides_7 rfl (lv_at hl 1 rfl) ?_
  obtain ⟨h1, hf⟩ := zck_s hf
  refine va_iald hx hb hK.1 hP 8 0 rfl rfl h1 dX0_sides_8 ?_
  refine lv_topi (fun x2 ex2 => ?_)
  replace hf := zl_n ex2 hf
  refine lv_istore_n (lv' := [(3, .int x2), (0, .ref (h 6)), (1, .int a1), (2, .int a2)]) hx hb dX0_sides_9 rfl hl (by decide) rfl (fun ls hl => ?_)
  refine lv_aload_n hx hb dX0_sides_10 rfl (lv_at hl 1 rfl) ?_
  refine va_get (D := D) (ci := 0) (v := .ref (h 1)) (C := RX0) (T := TX0) (N := 2) hx hb hts tb_wsX00 hown hK.1 hP 6 rfl rfl 1 (by decide) (hts _ tb_3_4) (fun _ h9 => h9) rfl dX0_sides_11 ?_
  refine lv_iload_n hx hb dX0_sides_14 rfl (lv_at hl 3 rfl) ?_
  refine lv_aload_n hx hb dX0_sides_15 rfl (lv_at hl 1 rfl) ?_
  refine va_get (D := D) (ci := 0) (v := .ref (h 1)) (C := RX0) (T := TX0) (N := 2) hx hb hts tb_wsX00 hown hK.1 hP 6 rfl rfl 1 (by decide) (hts _ tb_3_4) (fun _ h9 => h9) rfl dX0_sides_16 ?_
  refine va_get (D := D) (ci := 3) (v := .ref (h 2)) (C := RX3) (T := TX3) (N := 5) hx hb hts tb_wsX30 hown hK.1 hP 1 rfl rfl 0 (by decide) (hts _ tb_12_19) (fun _ h9 => h9) rfl dX0_sides_19 ?_
  refine lv_iload_n hx hb dX0_sides_22 rfl (lv_at hl 0 rfl) ?_
  obtain ⟨h3, hf⟩ := zck_s hf
  refine va_iald hx hb hK.1 hP 2 0 rfl rfl h3 dX0_sides_23 ?_
  refine lv_aload_n hx hb dX0_sides_24 rfl (lv_at hl 1 rfl) ?_
  refine va_get (D := D) (ci := 0) (v := .ref (h 1)) (C := RX0) (T := TX0) (N := 2) hx hb hts tb_wsX00 hown hK.1 hP 6 rfl rfl 1 (by decide) (hts _ tb_3_4) (fun _ h9 => h9) rfl dX0_sides_25 ?_
  refine va_get (D := D) (ci := 3) (v := .ref (h 3)) (C := RX3) (T := TX3) (N := 5) hx hb hts tb_wsX30 hown hK.1 hP 1 rfl rfl 1 (by decide) (hts _ tb_12_20) (fun _ h9 => h9) rfl dX0_sides_28 ?_
  refine lv_iload_n hx hb dX0_sides_31 rfl (lv_at hl 0 rfl) ?_
  obtain ⟨h4, hf⟩ := zck_s hf
  refine va_iald hx hb hK.1 hP 3 0 rfl rfl h4 dX0_sides_32 ?_
  obtain ⟨u5, hu5, hf⟩ := zbd hf
  refine zthen_i hA hD hS (zrunV (As := [.int a2, .int ((tPi.x0 gP) x2.toNatClampNeg), .int ((tPi.y0 gP) x2.toNatClampNeg)]) (rest := []) hC hP hD 1 rfl rfl (c_X3_sideOf l D cI cJ cZ h  gP gR gQ gT gE gM gS a2 ((tPi.x0 gP) x2.toNatClampNeg) ((tPi.y0 gP) x2.toNatClampNeg) u5 hu5 H.size) kRX0_43 rfl rfl ⟨by decide, by decide⟩ rfl hl.1 rfl (Nat.le_of_ble_eq_true rfl) dX0_sides_33) (fun H locs hP hD hS => ?_)
  refine lv_istore (lv' := [(4, .int u5), (3, .int x2), (0, .ref (h 6)), (1, .int a1), (2, .int a2)]) hx hb dX0_sides_36 hl (by decide) rfl (fun ls hl => ?_)
  refine lv_aload_n hx hb dX0_sides_38 rfl (lv_at hl 2 rfl) ?_
  refine va_get (D := D) (ci := 0) (v := .ref (h 1)) (C := RX0) (T := TX0) (N := 2) hx hb hts tb_wsX00 hown hK.1 hP 6 rfl rfl 1 (by decide) (hts _ tb_3_4) (fun _ h9 => h9) rfl dX0_sides_39 ?_
  refine lv_iload_n hx hb dX0_sides_42 rfl (lv_at hl 4 rfl) ?_
  refine lv_aload_n hx hb dX0_sides_43 rfl (lv_at hl 2 rfl) ?_
  refine va_get (D := D) (ci := 0) (v := .ref (h 1)) (C := RX0) (T := TX0) (N := 2) hx hb hts tb_wsX00 hown hK.1 hP 6 rfl rfl 1 (by decide) (hts _ tb_3_4) (fun _ h9 => h9) rfl dX0_sides_44 ?_
  refine va_get (D := D) (ci := 3) (v := .ref (h 4)) (C := RX3) (T := TX3) (N := 5) hx hb hts tb_wsX30 hown hK.1 hP 1 rfl rfl 2 (by decide) (hts _ tb_12_21) (fun _ h9 => h9) rfl dX0_sides_47 ?_
  refine lv_iload_n hx hb dX0_sides_50 rfl (lv_at hl 1 rfl) ?_
  obtain ⟨h6, hf⟩ := zck_s hf
  refine va_iald hx hb hK.1 hP 4 0 rfl rfl h6 dX0_sides_51 ?_
  refine lv_aload_n hx hb dX0_sides_52 rfl (lv_at hl 2 rfl) ?_
  refine va_get (D := D) (ci := 0) (v := .ref (h 1)) (C := RX0) (T := TX0) (N := 2) hx hb hts tb_wsX00 hown hK.1 hP 6 rfl rfl 1 (by decide) (hts _ tb_3_4) (fun _ h9 => h9) rfl dX0_sides_53 ?_
  refine va_get (D := D) (ci := 3) (v := .ref (h 5)) (C := RX3) (T := TX3) (N := 5) hx hb hts tb_wsX30 hown hK.1 hP 1 rfl rfl 3 (by decide) (hts _ tb_12_22) (fun _ h9 => h9) rfl dX0_sides_56 ?_
  refine lv_iload_n hx hb dX0_sides_59 rfl (lv_at hl 1 rfl) ?_
  obtain ⟨h7, hf⟩ := zck_s hf
  refine va_iald hx hb hK.1 hP 5 0 rfl rfl h7 dX0_sides_60 ?_
  obtain ⟨u8, hu8, hf⟩ := zbd hf
  refine zthen_i hA hD hS (zrunV (As := [.int a2, .int ((tPi.x1 gP) x2.toNatClampNeg), .int ((tPi.y1 gP) x2.toNatClampNeg)]) (rest := []) hC hP hD 1 rfl rfl (c_X3_sideOf l D cI cJ cZ h  gP gR gQ gT gE gM gS a2 ((tPi.x1 gP) x2.toNatClampNeg) ((tPi.y1 gP) x2.toNatClampNeg) u8 hu8 H.size) kRX0_43 rfl rfl ⟨by decide, by decide⟩ rfl hl.1 rfl (Nat.le_of_ble_eq_true rfl) dX0_sides_61) (fun H locs hP hD hS => ?_)
  refine lv_istore (lv' := [(5, .int u8), (4, .int u5), (3, .int x2), (0, .ref (h 6)), (1, .int a1), (2, .int a2)]) hx hb dX0_sides_64 hl (by decide) rfl (fun ls hl => ?_)
  refine lv_iload hx hb dX0_sides_66 (lv_at hl 1 rfl) ?_
  refine lv_iload hx hb dX0_sides_68 (lv_at hl 0 rfl) ?_
  refine lv_aload_n hx hb dX0_sides_70 rfl (lv_at hl 3 rfl) ?_
  refine va_get (D := D) (ci := 0) (v := .ref (h 7)) (C := RX0) (T := TX0) (N := 2) hx hb hts tb_wsX00 hown hK.1 hP 6 rfl rfl 0 (by decide) (hts _ tb_3_3) (fun _ h9 => h9) rfl dX0_sides_71 ?_
  refine va_get (D := D) (ci := 2) (v := .ref (h 9)) (C := RX2) (T := TX2) (N := 6) hx hb hts tb_wsX20 hown hK.1 hP 7 rfl rfl 1 (by decide) (hts _ tb_12_23) (fun _ h9 => h9) rfl dX0_sides_74 ?_
  refine lv_iload_n hx hb dX0_sides_77 rfl (lv_at hl 4 rfl) ?_
  obtain ⟨h9, hf⟩ := zck_s hf
  refine va_iald hx hb hK.1 hP 9 0 rfl rfl h9 dX0_sides_78 ?_
  refine lv_aload_n hx hb dX0_sides_79 rfl (lv_at hl 3 rfl) ?_
  refine va_get (D := D) (ci := 0) (v := .ref (h 7)) (C := RX0) (T := TX0) (N := 2) hx hb hts tb_wsX00 hown hK.1 hP 6 rfl rfl 0 (by decide) (hts _ tb_3_3) (fun _ h9 => h9) rfl dX0_sides_80 ?_
  refine va_get (D := D) (ci := 2) (v := .ref (h 10)) (C := RX2) (T := TX2) (N := 6) hx hb hts tb_wsX20 hown hK.1 hP 7 rfl rfl 2 (by decide) (hts _ tb_13_0) (fun _ h9 => h9) rfl dX0_sides_83 ?_
  refine lv_iload_n hx hb dX0_sides_86 rfl (lv_at hl 4 rfl) ?_
  obtain ⟨h10, hf⟩ := zck_s hf
  refine va_iald hx hb hK.1 hP 10 0 rfl rfl h10 dX0_sides_87 ?_
  obtain ⟨u11, hu11, hf⟩ := zbd hf
  refine zthen_i hA hD hS (zrunS (As := [.int u5, .int u8, .int ((tPa.n0 gR) a1.toNatClampNeg), .int ((tPa.d0 gR) a1.toNatClampNeg)]) (rest := []) hC hP hD (c_X0_sideBetween l D cI cJ cZ h  gP gR gQ gT gE gM gS u5 u8 ((tPa.n0 gR) a1.toNatClampNeg) ((tPa.d0 gR) a1.toNatClampNeg) u11 hu11 H.size) kRX0_59 rfl rfl ⟨by decide, by decide⟩ rfl hl.1 rfl (Nat.le_of_ble_eq_true rfl) dX0_sides_88) (fun H locs hP hD hS => ?_)
  refine lv_iload hx hb dX0_sides_91 (lv_at hl 1 rfl) ?_
  refine lv_iload hx hb dX0_sides_93 (lv_at hl 0 rfl) ?_
  refine lv_aload_n hx hb dX0_sides_95 rfl (lv_at hl 3 rfl) ?_
  refine va_get (D := D) (ci := 0) (v := .ref (h 7)) (C := RX0) (T := TX0) (N := 2) hx hb hts tb_wsX00 hown hK.1 hP 6 rfl rfl 0 (by decide) (hts _ tb_3_3) (fun _ h9 => h9) rfl dX0_sides_96 ?_
  refine va_get (D := D) (ci := 2) (v := .ref (h 11)) (C := RX2) (T := TX2) (N := 6) hx hb hts tb_wsX20 hown hK.1 hP 7 rfl rfl 3 (by decide) (hts _ tb_13_1) (fun _ h9 => h9) rfl dX0_sides_99 ?_
  refine lv_iload_n hx hb dX0_sides_102 rfl (lv_at hl 4 rfl) ?_
  obtain ⟨h12, hf⟩ := zck_s hf
  refine va_iald hx hb hK.1 hP 11 0 rfl rfl h12 dX0_sides_103 ?_
  refine lv_aload_n hx hb dX0_sides_104 rfl (lv_at hl 3 rfl) ?_
  refine va_get (D := D) (ci := 0) (v := .ref (h 7)) (C := RX0) (T := TX0) (N := 2) hx hb hts tb_wsX00 hown hK.1 hP 6 rfl rfl 0 (by decide) (hts _ tb_3_3) (fun _ h9 => h9) rfl dX0_sides_105 ?_
  refine va_get (D := D) (ci := 2) (v := .ref (h 12)) (C := RX2) (T := TX2) (N := 6) hx hb hts tb_wsX20 hown hK.1 hP 7 rfl rfl 4 (by decide) (hts _ tb_13_2) (fun _ h9 => h9) rfl dX0_sides_108 ?_
  refine lv_iload_n hx hb dX0_sides_111 rfl (lv_at hl 4 rfl) ?_
  obtain ⟨h13, hf⟩ := zck_s hf
  refine va_iald hx hb hK.1 hP 12 0 rfl rfl h13 dX0_sides_112 ?_
  obtain ⟨u14, hu14, hf⟩ := zbd hf
  refine zthen_i hA hD hS (zrunS (As := [.int u5, .int u8, .int ((tPa.n1 gR) a1.toNatClampNeg), .int ((tPa.d1 gR) a1.toNatClampNeg)]) (rest := [.int u11]) hC hP hD (c_X0_sideBetween l D cI cJ cZ h  gP gR gQ gT gE gM gS u5 u8 ((tPa.n1 gR) a1.toNatClampNeg) ((tPa.d1 gR) a1.toNatClampNeg) u14 hu14 H.size) kRX0_59 rfl rfl ⟨by decide, by decide⟩ rfl hl.1 rfl (Nat.le_of_ble_eq_true rfl) dX0_sides_113) (fun H locs hP hD hS => ?_)
  refine lv_ior hx hb dX0_sides_116 ?_
  have hu := Option.some.inj hf
  subst hu
  exact z_iret hC hP hD hS dX0_sides_117
set_option maxHeartbeats 4000000 in
set_option maxRecDepth 100000 in
theorem t_X6_faultOf_b95 {p : Program} {l : Launch} {e : Env} {s : State} {m : MethodId} {args : Array Value} {below : List Frame} {meth : Method} {c : Code} {A : Nat → Prop} {D : va_G} {cI cJ cZ : ClassId} {h : Nat → Nat} (hC : zCx p s m args meth c A D (zty cI cJ cZ) cX6_faultOf RX6 9 (some .int)) (N : Nat) (gP : tPi) (gR : tPa) (gQ : tPa) (gT : tTr) (gE : tTe) (gM : tMe) (gS : tSq) (u : Int32) : ∀ (v4 : Int32) (v5 : Int32) (v6 : Int32) (H : Heap) (locs : List Loc) (ls : Array Slot), va_P D vwCl (zWC cI cJ cZ h gP gR gQ gT gE gM gS) H → va_D A (zWC cI cJ cZ h gP gR gQ gT gE gM gS) → va_S A s.heap H locs → lv_has ls 9 [(0, .ref (h 13)), (4, .int v4), (5, .int v5), (6, .int v6)] → X6_faultOf_b95 N gP gR gT v4 v5 v6 = some u → W p l e ({ frames := 2, cells := 0, slots := 0, locals := 50 } : Room) s m args below meth c H locs 0 0 (MQ below (zQi D A (zWC cI cJ cZ h gP gR gQ gT gE gM gS) (u)) args s 0 0 A) (F0 m 95 ls []) := by
  intro v4 v5 v6 H locs ls hP hD hS hl hf
  obtain ⟨hx, hb, hml, hown, hts, hK, hr, hlocks, hA⟩ := id hC
  unfold X6_faultOf_b95 at hf
  refine lv_aload_n hx hb dX6_faultOf_95 rfl (lv_at hl 0 rfl) ?_
  refine va_get (D := D) (ci := 6) (v := .int (tTr.rule gT)) (C := RX6) (T := TX6) (N := 17) hx hb hts tb_wsX60 hown hK.1 hP 13 rfl rfl 15 (by decide) (hts _ tb_10_22) (fun _ h9 => h9) rfl dX6_faultOf_96 ?_
  refine lv_iconst (v := 1) hx hb dX6_faultOf_99 (by decide) ?_
  refine lv_icmp_ne (tgt := 106) hx hb dX6_faultOf_100 (by decide) (fun c1 => ?_) (fun c1 => ?_)
  · replace hf := zif_f hf c1
    refine lv_iload hx hb dX6_faultOf_106 (lv_at hl 1 rfl) ?_
    refine lv_iload hx hb dX6_faultOf_108 (lv_at hl 2 rfl) ?_
    refine lv_isub hx hb dX6_faultOf_110 ?_
    refine va_mabs hx hb (hml.trans hl.1.symm) hown (hts _ tb_12_11) (hts _ tb_12_12) (hts _ tb_11_23) (hts _ tb_12_13) (by decide) (Nat.le_of_ble_eq_true rfl) (Nat.zero_le _) (Nat.zero_le _) dX6_faultOf_111 ?_
    refine lv_bipush (v := 24) hx hb dX6_faultOf_114 (by decide) ?_
    refine lv_imul hx hb dX6_faultOf_116 ?_
    refine lv_iload hx hb dX6_faultOf_117 (lv_at hl 3 rfl) ?_
    refine lv_iadd hx hb dX6_faultOf_119 ?_
    have hu := Option.some.inj hf
    subst hu
    exact z_iret hC hP hD hS dX6_faultOf_120
  · replace hf := zif_t hf c1
    refine lv_iload hx hb dX6_faultOf_103 (lv_at hl 3 rfl) ?_
    have hu := Option.some.inj hf
    subst hu
    exact z_iret hC hP hD hS dX6_faultOf_105
set_option maxHeartbeats 4000000 in
set_option maxRecDepth 100000 in
theorem t_X6_faultOf_b86 {p : Program} {l : Launch} {e : Env} {s : State} {m : MethodId} {args : Array Value} {below : List Frame} {meth : Method} {c : Code} {A : Nat → Prop} {D : va_G} {cI cJ cZ : ClassId} {h : Nat → Nat} (hC : zCx p s m args meth c A D (zty cI cJ cZ) cX6_faultOf RX6 9 (some .int)) (N : Nat) {gP : tPi} {gR : tPa} {gQ : tPa} {gT : tTr} {gE : tTe} {gM : tMe} {gS : tSq} {u : Int32} (k12 : Int32 → Int32 → Int32 → Int32 → Int32 → Int32 → Option (Int32)) (hk12 : ∀ (v1 : Int32) (v3 : Int32) (v4 : Int32) (v5 : Int32) (v6 : Int32) (v7 : Int32) (H : Heap) (locs : List Loc) (ls : Array Slot), va_P D vwCl (zWC cI cJ cZ h gP gR gQ gT gE gM gS) H → va_D A (zWC cI cJ cZ h gP gR gQ gT gE gM gS) → va_S A s.heap H locs → lv_has ls 9 [(0, .ref (h 13)), (1, .int v1), (3, .int v3), (4, .int v4), (5, .int v5), (6, .int v6), (7, .int v7)] → k12 v1 v3 v4 v5 v6 v7 = some u → W p l e ({ frames := 2, cells := 0, slots := 0, locals := 50 } : Room) s m args below meth c H locs 0 0 (MQ below (zQi D A (zWC cI cJ cZ h gP gR gQ gT gE gM gS) (u)) args s 0 0 A) (F0 m 12 ls [])) : ∀ (v1 : Int32) (v3 : Int32) (v4 : Int32) (v5 : Int32) (v7 : Int32) (s0 : Int32) (s1 : Int32) (H : Heap) (locs : List Loc) (ls : Array Slot), va_P D vwCl (zWC cI cJ cZ h gP gR gQ gT gE gM gS) H → va_D A (zWC cI cJ cZ h gP gR gQ gT gE gM gS) → va_S A s.heap H locs → lv_has ls 9 [(0, .ref (h 13)), (1, .int v1), (3, .int v3), (4, .int v4), (5, .int v5), (7, .int v7)] → X6_faultOf_b86 N k12 gP gR gT v1 v3 v4 v5 v7 s0 s1 = some u → W p l e ({ frames := 2, cells := 0, slots := 0, locals := 50 } : Room) s m args below meth c H locs 0 0 (MQ below (zQi D A (zWC cI cJ cZ h gP gR gQ gT gE gM gS) (u)) args s 0 0 A) (F0 m 86 ls [.int s0, .int s1]) := by
  intro v1 v3 v4 v5 v7 s0 s1 H locs ls hP hD hS hl hf
  obtain ⟨hx, hb, hml, hown, hts, hK, hr, hlocks, hA⟩ := id hC
  unfold X6_faultOf_b86 at hf
  refine lv_iadd hx hb dX6_faultOf_86 ?_
  refine lv_topi (fun x2 ex2 => ?_)
  replace hf := zl_n ex2 hf
  refine lv_istore (lv' := [(6, .int x2), (0, .ref (h 13)), (1, .int v1), (3, .int v3), (4, .int v4), (5, .int v5), (7, .int v7)]) hx hb dX6_faultOf_87 hl (by decide) rfl (fun ls hl => ?_)
  refine lv_iinc (v := (v7 + (1 : Int32))) (lv' := [(7, .int (v7 + (1 : Int32))), (6, .int x2), (0, .ref (h 13)), (1, .int v1), (3, .int v3), (4, .int v4), (5, .int v5)]) hx hb dX6_faultOf_89 hl (k := 6) rfl rfl (by decide) rfl (fun ls hl => ?_)
  refine lv_goto (tgt := 12) hx hb dX6_faultOf_92 (by decide) ?_
  exact hk12 v1 v3 v4 v5 x2 (v7 + (1 : Int32)) H locs ls hP hD hS (lv_sub hl [2, 3, 4, 5, 6, 1, 0] rfl) hf
set_option maxHeartbeats 4000000 in
set_option maxRecDepth 100000 in
theorem t_X6_faultOf_b70 {p : Program} {l : Launch} {e : Env} {s : State} {m : MethodId} {args : Array Value} {below : List Frame} {meth : Method} {c : Code} {A : Nat → Prop} {D : va_G} {cI cJ cZ : ClassId} {h : Nat → Nat} (hC : zCx p s m args meth c A D (zty cI cJ cZ) cX6_faultOf RX6 9 (some .int)) (N : Nat) {gP : tPi} {gR : tPa} {gQ : tPa} {gT : tTr} {gE : tTe} {gM : tMe} {gS : tSq} {u : Int32} (k12 : Int32 → Int32 → Int32 → Int32 → Int32 → Int32 → Option (Int32)) (hk12 : ∀ (v1 : Int32) (v3 : Int32) (v4 : Int32) (v5 : Int32) (v6 : Int32) (v7 : Int32) (H : Heap) (locs : List Loc) (ls : Array Slot), va_P D vwCl (zWC cI cJ cZ h gP gR gQ gT gE gM gS) H → va_D A (zWC cI cJ cZ h gP gR gQ gT gE gM gS) → va_S A s.heap H locs → lv_has ls 9 [(0, .ref (h 13)), (1, .int v1), (3, .int v3), (4, .int v4), (5, .int v5), (6, .int v6), (7, .int v7)] → k12 v1 v3 v4 v5 v6 v7 = some u → W p l e ({ frames := 2, cells := 0, slots := 0, locals := 50 } : Room) s m args below meth c H locs 0 0 (MQ below (zQi D A (zWC cI cJ cZ h gP gR gQ gT gE gM gS) (u)) args s 0 0 A) (F0 m 12 ls [])) : ∀ (v1 : Int32) (v3 : Int32) (v4 : Int32) (v6 : Int32) (v7 : Int32) (v8 : Int32) (s0 : Int32) (s1 : Int32) (H : Heap) (locs : List Loc) (ls : Array Slot), va_P D vwCl (zWC cI cJ cZ h gP gR gQ gT gE gM gS) H → va_D A (zWC cI cJ cZ h gP gR gQ gT gE gM gS) → va_S A s.heap H locs → lv_has ls 9 [(0, .ref (h 13)), (1, .int v1), (3, .int v3), (4, .int v4), (6, .int v6), (7, .int v7), (8, .int v8)] → X6_faultOf_b70 N k12 gP gR gT v1 v3 v4 v6 v7 v8 s0 s1 = some u → W p l e ({ frames := 2, cells := 0, slots := 0, locals := 50 } : Room) s m args below meth c H locs 0 0 (MQ below (zQi D A (zWC cI cJ cZ h gP gR gQ gT gE gM gS) (u)) args s 0 0 A) (F0 m 70 ls [.int s0, .int s1]) := by
  intro v1 v3 v4 v6 v7 v8 s0 s1 H locs ls hP hD hS hl hf
  obtain ⟨hx, hb, hml, hown, hts, hK, hr, hlocks, hA⟩ := id hC
  unfold X6_faultOf_b70 at hf
  refine lv_iadd hx hb dX6_faultOf_70 ?_
  refine lv_topi (fun x3 ex3 => ?_)
  replace hf := zl_n ex3 hf
  refine lv_istore (lv' := [(5, .int x3), (0, .ref (h 13)), (1, .int v1), (3, .int v3), (4, .int v4), (6, .int v6), (7, .int v7), (8, .int v8)]) hx hb dX6_faultOf_71 hl (by decide) rfl (fun ls hl => ?_)
  refine lv_iload hx hb dX6_faultOf_73 (lv_at hl 5 rfl) ?_
  refine lv_iload hx hb dX6_faultOf_75 (lv_at hl 7 rfl) ?_
  refine lv_iconst (v := 3) hx hb dX6_faultOf_77 (by decide) ?_
  refine lv_icmp_ne (tgt := 85) hx hb dX6_faultOf_78 (by decide) (fun c4 => ?_) (fun c4 => ?_)
  · replace hf := zif_f hf c4
    refine lv_iconst (v := 0) hx hb dX6_faultOf_85 (by decide) ?_
    exact t_X6_faultOf_b86 hC N k12 hk12  v1 v3 v4 x3 v7 (0 : Int32) v6 H locs ls hP hD hS (lv_sub hl [1, 2, 3, 4, 0, 6] rfl) hf
  · replace hf := zif_t hf c4
    refine lv_iconst (v := 1) hx hb dX6_faultOf_81 (by decide) ?_
    refine lv_goto (tgt := 86) hx hb dX6_faultOf_82 (by decide) ?_
    exact t_X6_faultOf_b86 hC N k12 hk12  v1 v3 v4 x3 v7 (1 : Int32) v6 H locs ls hP hD hS (lv_sub hl [1, 2, 3, 4, 0, 6] rfl) hf
set_option maxHeartbeats 4000000 in
set_option maxRecDepth 100000 in
theorem t_X6_faultOf_b54 {p : Program} {l : Launch} {e : Env} {s : State} {m : MethodId} {args : Array Value} {below : List Frame} {meth : Method} {c : Code} {A : Nat → Prop} {D : va_G} {cI cJ cZ : ClassId} {h : Nat → Nat} (hC : zCx p s m args meth c A D (zty cI cJ cZ) cX6_faultOf RX6 9 (some .int)) (N : Nat) {gP : tPi} {gR : tPa} {gQ : tPa} {gT : tTr} {gE : tTe} {gM : tMe} {gS : tSq} {u : Int32} (k12 : Int32 → Int32 → Int32 → Int32 → Int32 → Int32 → Option (Int32)) (hk12 : ∀ (v1 : Int32) (v3 : Int32) (v4 : Int32) (v5 : Int32) (v6 : Int32) (v7 : Int32) (H : Heap) (locs : List Loc) (ls : Array Slot), va_P D vwCl (zWC cI cJ cZ h gP gR gQ gT gE gM gS) H → va_D A (zWC cI cJ cZ h gP gR gQ gT gE gM gS) → va_S A s.heap H locs → lv_has ls 9 [(0, .ref (h 13)), (1, .int v1), (3, .int v3), (4, .int v4), (5, .int v5), (6, .int v6), (7, .int v7)] → k12 v1 v3 v4 v5 v6 v7 = some u → W p l e ({ frames := 2, cells := 0, slots := 0, locals := 50 } : Room) s m args below meth c H locs 0 0 (MQ below (zQi D A (zWC cI cJ cZ h gP gR gQ gT gE gM gS) (u)) args s 0 0 A) (F0 m 12 ls [])) : ∀ (v1 : Int32) (v3 : Int32) (v5 : Int32) (v6 : Int32) (v7 : Int32) (v8 : Int32) (s0 : Int32) (s1 : Int32) (H : Heap) (locs : List Loc) (ls : Array Slot), va_P D vwCl (zWC cI cJ cZ h gP gR gQ gT gE gM gS) H → va_D A (zWC cI cJ cZ h gP gR gQ gT gE gM gS) → va_S A s.heap H locs → lv_has ls 9 [(0, .ref (h 13)), (1, .int v1), (3, .int v3), (5, .int v5), (6, .int v6), (7, .int v7), (8, .int v8)] → X6_faultOf_b54 N k12 gP gR gT v1 v3 v5 v6 v7 v8 s0 s1 = some u → W p l e ({ frames := 2, cells := 0, slots := 0, locals := 50 } : Room) s m args below meth c H locs 0 0 (MQ below (zQi D A (zWC cI cJ cZ h gP gR gQ gT gE gM gS) (u)) args s 0 0 A) (F0 m 54 ls [.int s0, .int s1]) := by
  intro v1 v3 v5 v6 v7 v8 s0 s1 H locs ls hP hD hS hl hf
  obtain ⟨hx, hb, hml, hown, hts, hK, hr, hlocks, hA⟩ := id hC
  unfold X6_faultOf_b54 at hf
  refine lv_iadd hx hb dX6_faultOf_54 ?_
  refine lv_topi (fun x5 ex5 => ?_)
  replace hf := zl_n ex5 hf
  refine lv_istore (lv' := [(4, .int x5), (0, .ref (h 13)), (1, .int v1), (3, .int v3), (5, .int v5), (6, .int v6), (7, .int v7), (8, .int v8)]) hx hb dX6_faultOf_55 hl (by decide) rfl (fun ls hl => ?_)
  refine lv_iload hx hb dX6_faultOf_57 (lv_at hl 4 rfl) ?_
  refine lv_iload hx hb dX6_faultOf_59 (lv_at hl 7 rfl) ?_
  refine lv_iconst (v := 2) hx hb dX6_faultOf_61 (by decide) ?_
  refine lv_icmp_ne (tgt := 69) hx hb dX6_faultOf_62 (by decide) (fun c6 => ?_) (fun c6 => ?_)
  · replace hf := zif_f hf c6
    refine lv_iconst (v := 0) hx hb dX6_faultOf_69 (by decide) ?_
    exact t_X6_faultOf_b70 hC N k12 hk12  v1 v3 x5 v6 v7 v8 (0 : Int32) v5 H locs ls hP hD hS (lv_sub hl [1, 2, 3, 0, 5, 6, 7] rfl) hf
  · replace hf := zif_t hf c6
    refine lv_iconst (v := 1) hx hb dX6_faultOf_65 (by decide) ?_
    refine lv_goto (tgt := 70) hx hb dX6_faultOf_66 (by decide) ?_
    exact t_X6_faultOf_b70 hC N k12 hk12  v1 v3 x5 v6 v7 v8 (1 : Int32) v5 H locs ls hP hD hS (lv_sub hl [1, 2, 3, 0, 5, 6, 7] rfl) hf
set_option maxHeartbeats 4000000 in
set_option maxRecDepth 100000 in
theorem t_X6_faultOf_b12 {p : Program} {l : Launch} {e : Env} {s : State} {m : MethodId} {args : Array Value} {below : List Frame} {meth : Method} {c : Code} {A : Nat → Prop} {D : va_G} {cI cJ cZ : ClassId} {h : Nat → Nat} (hC : zCx p s m args meth c A D (zty cI cJ cZ) cX6_faultOf RX6 9 (some .int)) (N : Nat) (gP : tPi) (gR : tPa) (gQ : tPa) (gT : tTr) (gE : tTe) (gM : tMe) (gS : tSq) (u : Int32) : ∀ (n : Nat) (v1 : Int32) (v3 : Int32) (v4 : Int32) (v5 : Int32) (v6 : Int32) (v7 : Int32) (H : Heap) (locs : List Loc) (ls : Array Slot), va_P D vwCl (zWC cI cJ cZ h gP gR gQ gT gE gM gS) H → va_D A (zWC cI cJ cZ h gP gR gQ gT gE gM gS) → va_S A s.heap H locs → lv_has ls 9 [(0, .ref (h 13)), (1, .int v1), (3, .int v3), (4, .int v4), (5, .int v5), (6, .int v6), (7, .int v7)] → X6_faultOf_b12 N gP gR gT n v1 v3 v4 v5 v6 v7 = some u → W p l e ({ frames := 2, cells := 0, slots := 0, locals := 50 } : Room) s m args below meth c H locs 0 0 (MQ below (zQi D A (zWC cI cJ cZ h gP gR gQ gT gE gM gS) (u)) args s 0 0 A) (F0 m 12 ls []) := by
  intro n
  induction n with
  | zero =>
    intro v1 v3 v4 v5 v6 v7 H locs ls hP hD hS hl hf
    cases hf
  | succ n ih =>
    intro v1 v3 v4 v5 v6 v7 H locs ls hP hD hS hl hf
    obtain ⟨hx, hb, hml, hown, hts, hK, hr, hlocks, hA⟩ := id hC
    rw [X6_faultOf_b12] at hf
    refine lv_iload hx hb dX6_faultOf_12 (lv_at hl 6 rfl) ?_
    refine lv_iload_n hx hb dX6_faultOf_14 rfl (lv_at hl 2 rfl) ?_
    refine lv_icmp_ge (tgt := 95) hx hb dX6_faultOf_15 (by decide) (fun c7 => ?_) (fun c7 => ?_)
    · replace hf := zif_t hf c7
      exact t_X6_faultOf_b95 hC N gP gR gQ gT gE gM gS u v4 v5 v6 H locs ls hP hD hS (lv_sub hl [0, 3, 4, 5] rfl) hf
    · replace hf := zif_f hf c7
      refine lv_aload_n hx hb dX6_faultOf_18 rfl (lv_at hl 0 rfl) ?_
      refine va_get (D := D) (ci := 6) (v := .ref (h 6)) (C := RX6) (T := TX6) (N := 17) hx hb hts tb_wsX60 hown hK.1 hP 13 rfl rfl 14 (by decide) (hts _ tb_4_3) (fun _ h9 => h9) rfl dX6_faultOf_19 ?_
      refine lv_iload hx hb dX6_faultOf_22 (lv_at hl 6 rfl) ?_
      refine lv_aload_n hx hb dX6_faultOf_24 rfl (lv_at hl 0 rfl) ?_
      refine va_get (D := D) (ci := 6) (v := .ref (h 6)) (C := RX6) (T := TX6) (N := 17) hx hb hts tb_wsX60 hown hK.1 hP 13 rfl rfl 14 (by decide) (hts _ tb_4_3) (fun _ h9 => h9) rfl dX6_faultOf_25 ?_
      refine va_get (D := D) (ci := 0) (v := .ref (h 7)) (C := RX0) (T := TX0) (N := 2) hx hb hts tb_wsX00 hown hK.1 hP 6 rfl rfl 0 (by decide) (hts _ tb_11_0) (fun _ h9 => h9) rfl dX6_faultOf_28 ?_
      refine va_get (D := D) (ci := 2) (v := .ref (h 8)) (C := RX2) (T := TX2) (N := 6) hx hb hts tb_wsX20 hown hK.1 hP 7 rfl rfl 0 (by decide) (hts _ tb_12_1) (fun _ h9 => h9) rfl dX6_faultOf_31 ?_
      refine lv_iload_n hx hb dX6_faultOf_34 rfl (lv_at hl 1 rfl) ?_
      obtain ⟨h8, hf⟩ := zck_s hf
      refine va_iald hx hb hK.1 hP 8 0 rfl rfl h8 dX6_faultOf_35 ?_
      obtain ⟨u9, hu9, hf⟩ := zbd hf
      refine zthen_i hA hD hS (zrunV (As := [.int v7, .int ((tPa.owner gR) v1.toNatClampNeg)]) (rest := []) hC hP hD 6 rfl rfl (c_X0_sides l D cI cJ cZ h  gP gR gQ gT gE gM gS v7 ((tPa.owner gR) v1.toNatClampNeg) u9 hu9 H.size) kRX6_113 rfl rfl ⟨by decide, by decide⟩ rfl hl.1 rfl (Nat.le_of_ble_eq_true rfl) dX6_faultOf_36) (fun H locs hP hD hS => ?_)
      refine lv_istore (lv' := [(8, .int u9), (0, .ref (h 13)), (1, .int v1), (3, .int v3), (4, .int v4), (5, .int v5), (6, .int v6), (7, .int v7)]) hx hb dX6_faultOf_39 hl (by decide) rfl (fun ls hl => ?_)
      refine lv_iload hx hb dX6_faultOf_41 (lv_at hl 4 rfl) ?_
      refine lv_iload hx hb dX6_faultOf_43 (lv_at hl 0 rfl) ?_
      refine lv_iconst (v := 1) hx hb dX6_faultOf_45 (by decide) ?_
      refine lv_icmp_ne (tgt := 53) hx hb dX6_faultOf_46 (by decide) (fun c10 => ?_) (fun c10 => ?_)
      · replace hf := zif_f hf c10
        refine lv_iconst (v := 0) hx hb dX6_faultOf_53 (by decide) ?_
        exact t_X6_faultOf_b54 hC N (X6_faultOf_b12 N gP gR gT n) ih  v1 v3 v5 v6 v7 u9 (0 : Int32) v4 H locs ls hP hD hS (lv_sub hl [1, 2, 3, 5, 6, 7, 0] rfl) hf
      · replace hf := zif_t hf c10
        refine lv_iconst (v := 1) hx hb dX6_faultOf_49 (by decide) ?_
        refine lv_goto (tgt := 54) hx hb dX6_faultOf_50 (by decide) ?_
        exact t_X6_faultOf_b54 hC N (X6_faultOf_b12 N gP gR gT n) ih  v1 v3 v5 v6 v7 u9 (1 : Int32) v4 H locs ls hP hD hS (lv_sub hl [1, 2, 3, 5, 6, 7, 0] rfl) hf
set_option maxHeartbeats 4000000 in
set_option maxRecDepth 100000 in
theorem c_X6_faultOf (l : Launch) (D : va_G) (cI cJ cZ : ClassId) (h : Nat → Nat) (N : Nat) (gP : tPi) (gR : tPa) (gQ : tPa) (gT : tTr) (gE : tTe) (gM : tMe) (gS : tSq) (a1 : Int32) (a2 : Int32) (a3 : Int32) (u : Int32) (hf : X6_faultOf N gP gR gT a1 a2 a3 = some u) (sz : Nat) : Met l yX6_faultOf (Cond.code yX6_faultOf cX6_faultOf 9 (some .int) :: tb_L) ({ frames := 2, cells := 0, slots := 0, locals := 50 } : Room) (zPre D (zty cI cJ cZ) (zWC cI cJ cZ h gP gR gQ gT gE gM gS) sz [.ref (h 13), .int a1, .int a2, .int a3]) (zQi D (va_A (zWC cI cJ cZ h gP gR gQ gT gE gM gS) sz) (zWC cI cJ cZ h gP gR gQ gT gE gM gS) (u)) 0 0 (va_A (zWC cI cJ cZ h gP gR gQ gT gE gM gS) sz) := by
  refine zMet (Qc := fun A => zQi D A (zWC cI cJ cZ h gP gR gQ gT gE gM gS) (u)) (by decide) rfl (Nat.le_of_ble_eq_true rfl) ?_
  intro p e s m args below meth c A ls hC _ hP hD hS hl
  replace hl : lv_has ls 9 [(0, .ref (h 13)), (1, .int a1), (2, .int a2), (3, .int a3)] := hl
  obtain ⟨hx, hb, hml, hown, hts, hK, hr, hlocks, hA⟩ := id hC
  unfold X6_faultOf at hf
  obtain ⟨H, hH⟩ : ∃ H, H = s.heap := ⟨_, rfl⟩
  rw [← hH] at hP
  replace hS : va_S A s.heap H [] := by rw [hH]; exact hS
  show W p l e _ s m args below meth c s.heap [] 0 0 _ _
  rw [← hH]
  clear hH
  obtain ⟨locs, hlo⟩ : ∃ x : List Loc, x = [] := ⟨_, rfl⟩
  rw [← hlo] at hS ⊢
  clear hlo
  refine lv_iconst (v := 0) hx hb dX6_faultOf_0 (by decide) ?_
  refine lv_istore (lv' := [(4, .int (0 : Int32)), (0, .ref (h 13)), (1, .int a1), (2, .int a2), (3, .int a3)]) hx hb dX6_faultOf_1 hl (by decide) rfl (fun ls hl => ?_)
  refine lv_iconst (v := 0) hx hb dX6_faultOf_3 (by decide) ?_
  refine lv_istore (lv' := [(5, .int (0 : Int32)), (4, .int (0 : Int32)), (0, .ref (h 13)), (1, .int a1), (2, .int a2), (3, .int a3)]) hx hb dX6_faultOf_4 hl (by decide) rfl (fun ls hl => ?_)
  refine lv_iconst (v := 0) hx hb dX6_faultOf_6 (by decide) ?_
  refine lv_istore (lv' := [(6, .int (0 : Int32)), (5, .int (0 : Int32)), (4, .int (0 : Int32)), (0, .ref (h 13)), (1, .int a1), (2, .int a2), (3, .int a3)]) hx hb dX6_faultOf_7 hl (by decide) rfl (fun ls hl => ?_)
  refine lv_iload_n hx hb dX6_faultOf_9 rfl (lv_at hl 5 rfl) ?_
  refine lv_istore (lv' := [(7, .int a2), (6, .int (0 : Int32)), (5, .int (0 : Int32)), (4, .int (0 : Int32)), (0, .ref (h 13)), (1, .int a1), (2, .int a2), (3, .int a3)]) hx hb dX6_faultOf_10 hl (by decide) rfl (fun ls hl => ?_)
  exact t_X6_faultOf_b12 hC N gP gR gQ gT gE gM gS u N a1 a3 (0 : Int32) (0 : Int32) (0 : Int32) a2 H locs ls hP hD hS (lv_sub hl [4, 5, 7, 3, 2, 1, 0] rfl) hf
