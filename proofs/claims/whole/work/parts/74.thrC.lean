set_option maxRecDepth 100000 in
set_option maxHeartbeats 4000000 in
theorem x_X7_look (l : Launch) (hlt : l.stackTraces = false) (D : va_G) (cI cJ cZ : ClassId) (h : Nat → Nat) (N : Nat) (gP : tPi) (gR : tPa) (gQ : tPa) (gT : tTr) (gE : tTe) (gM : tMe) (gS : tSq) (a1 a2 k : Int32) (u : Int32) (hf : Y7_look N gP gQ a1 a2 = some (k, u)) (sz : Nat) : vx_Met l yX7_look (Cond.code yX7_look cX7_look 3 (some .int) :: tb_X) ({ frames := 6, cells := 1, slots := 6, locals := 82 } : Room) (zPreX D (zty cI cJ cZ) (zWC cI cJ cZ h gP gR gQ gT gE gM gS) sz [.ref (h 0), .int a1, .int a2]) (zKi D (va_A (zWC cI cJ cZ h gP gR gQ gT gE gM gS) sz) (zWC cI cJ cZ h gP gR gQ gT gE gM gS) k u) (zXC D (va_A (zWC cI cJ cZ h gP gR gQ gT gE gM gS) sz) (zWC cI cJ cZ h gP gR gQ gT gE gM gS) k) 1 6 (va_A (zWC cI cJ cZ h gP gR gQ gT gE gM gS) sz) := by
  refine zMetX (Qc := fun A => zKi D A (zWC cI cJ cZ h gP gR gQ gT gE gM gS) k u) (XC := fun A => zXC D A (zWC cI cJ cZ h gP gR gQ gT gE gM gS) k) (by decide) rfl (Nat.le_of_ble_eq_true rfl) ?_
  intro p e s m args below meth c A ls hC htx hex hT hH hP hD hS hl
  replace hl : lv_has ls 3 [(0, .ref (h 0)), (1, .int a1), (2, .int a2)] := hl
  obtain ⟨hx, hb, hml, hown, hts, hK, hr, hlocks, hA⟩ := id hC
  unfold Y7_look at hf
  obtain ⟨H, hH0⟩ : ∃ H, H = s.heap := ⟨_, rfl⟩
  rw [← hH0] at hP
  replace hS : va_S A s.heap H [] := by rw [hH0]; exact hS
  show W p l e _ s m args below meth c s.heap [] 0 0 _ _
  rw [← hH0]
  clear hH0
  obtain ⟨locs, hlo⟩ : ∃ x : List Loc, x = [] := ⟨_, rfl⟩
  rw [← hlo] at hS ⊢
  clear hlo
  refine lv_iload_n hx hb dX7_look_0 rfl (lv_at hl 1 rfl) ?_
  refine lv_if_lt (tgt := 15) hx hb dX7_look_1 (by decide) (fun c1 => ?_) (fun c1 => ?_)
  · replace hf := zif_t hf c1
    cases hf
    exact zx_throwI hC htx hex hT hH hlt hT.2.2.2.1 hP hS hl.1 dX7_look_15 dX7_look_18 dX7_look_19 dX7_look_21 dX7_look_24 (by decide) (by decide) (by decide) (by decide)
  · replace hf := zif_f hf c1
    refine lv_iload_n hx hb dX7_look_4 rfl (lv_at hl 1 rfl) ?_
    refine lv_aload_n hx hb dX7_look_5 rfl (lv_at hl 0 rfl) ?_
    refine va_get (D := D) (ci := 7) (v := .ref (h 1)) (C := RX7) (T := TX7) (N := 5) hx hb hts tb_wsX70 hown hK.1 hP 0 rfl rfl 0 (by decide) (hts _ tb_1_16) (fun _ h9 => h9) rfl dX7_look_6 ?_
    refine va_get (D := D) (ci := 3) (v := .int (tPi.size gP)) (C := RX3) (T := TX3) (N := 5) hx hb hts tb_wsX30 hown hK.1 hP 1 rfl rfl 4 (by decide) (hts _ tb_7_0) (fun _ h9 => h9) rfl dX7_look_9 ?_
    refine lv_icmp_lt (tgt := 25) hx hb dX7_look_12 (by decide) (fun c2 => ?_) (fun c2 => ?_)
    · replace hf := zif_t hf c2
      refine lv_iload_n hx hb dX7_look_25 rfl (lv_at hl 2 rfl) ?_
      by_cases c10 : a2 = (0 : Int32)
      · replace hf := zif_t hf c10
        refine lv_tableIn (tgt := 60) hx hb dX7_look_26 (by rw [c10]; decide) (by rw [c10]; decide) (by rw [c10]; rfl) (by decide) ?_
        refine lv_aload_n hx hb dX7_look_60 rfl (lv_at hl 0 rfl) ?_
        refine va_get (D := D) (ci := 7) (v := .ref (h 1)) (C := RX7) (T := TX7) (N := 5) hx hb hts tb_wsX70 hown hK.1 hP 0 rfl rfl 0 (by decide) (hts _ tb_1_16) (fun _ h9 => h9) rfl dX7_look_61 ?_
        refine va_get (D := D) (ci := 3) (v := .ref (h 2)) (C := RX3) (T := TX3) (N := 5) hx hb hts tb_wsX30 hown hK.1 hP 1 rfl rfl 0 (by decide) (hts _ tb_9_15) (fun _ h9 => h9) rfl dX7_look_64 ?_
        refine lv_iload_n hx hb dX7_look_67 rfl (lv_at hl 1 rfl) ?_
        obtain ⟨h4, hf⟩ := zck_s hf
        refine va_iald hx hb hK.1 hP 2 0 rfl rfl h4 dX7_look_68 ?_
        cases hf
        exact zx_iret hC hP hD hS dX7_look_69
      replace hf := zif_f hf c10
      by_cases c11 : a2 = (1 : Int32)
      · replace hf := zif_t hf c11
        refine lv_tableIn (tgt := 70) hx hb dX7_look_26 (by rw [c11]; decide) (by rw [c11]; decide) (by rw [c11]; rfl) (by decide) ?_
        refine lv_aload_n hx hb dX7_look_70 rfl (lv_at hl 0 rfl) ?_
        refine va_get (D := D) (ci := 7) (v := .ref (h 1)) (C := RX7) (T := TX7) (N := 5) hx hb hts tb_wsX70 hown hK.1 hP 0 rfl rfl 0 (by decide) (hts _ tb_1_16) (fun _ h9 => h9) rfl dX7_look_71 ?_
        refine va_get (D := D) (ci := 3) (v := .ref (h 3)) (C := RX3) (T := TX3) (N := 5) hx hb hts tb_wsX30 hown hK.1 hP 1 rfl rfl 1 (by decide) (hts _ tb_9_16) (fun _ h9 => h9) rfl dX7_look_74 ?_
        refine lv_iload_n hx hb dX7_look_77 rfl (lv_at hl 1 rfl) ?_
        obtain ⟨h4, hf⟩ := zck_s hf
        refine va_iald hx hb hK.1 hP 3 0 rfl rfl h4 dX7_look_78 ?_
        cases hf
        exact zx_iret hC hP hD hS dX7_look_79
      replace hf := zif_f hf c11
      by_cases c12 : a2 = (2 : Int32)
      · replace hf := zif_t hf c12
        refine lv_tableIn (tgt := 80) hx hb dX7_look_26 (by rw [c12]; decide) (by rw [c12]; decide) (by rw [c12]; rfl) (by decide) ?_
        refine lv_aload_n hx hb dX7_look_80 rfl (lv_at hl 0 rfl) ?_
        refine va_get (D := D) (ci := 7) (v := .ref (h 1)) (C := RX7) (T := TX7) (N := 5) hx hb hts tb_wsX70 hown hK.1 hP 0 rfl rfl 0 (by decide) (hts _ tb_1_16) (fun _ h9 => h9) rfl dX7_look_81 ?_
        refine va_get (D := D) (ci := 3) (v := .ref (h 4)) (C := RX3) (T := TX3) (N := 5) hx hb hts tb_wsX30 hown hK.1 hP 1 rfl rfl 2 (by decide) (hts _ tb_9_17) (fun _ h9 => h9) rfl dX7_look_84 ?_
        refine lv_iload_n hx hb dX7_look_87 rfl (lv_at hl 1 rfl) ?_
        obtain ⟨h4, hf⟩ := zck_s hf
        refine va_iald hx hb hK.1 hP 4 0 rfl rfl h4 dX7_look_88 ?_
        cases hf
        exact zx_iret hC hP hD hS dX7_look_89
      replace hf := zif_f hf c12
      by_cases c13 : a2 = (3 : Int32)
      · replace hf := zif_t hf c13
        refine lv_tableIn (tgt := 90) hx hb dX7_look_26 (by rw [c13]; decide) (by rw [c13]; decide) (by rw [c13]; rfl) (by decide) ?_
        refine lv_aload_n hx hb dX7_look_90 rfl (lv_at hl 0 rfl) ?_
        refine va_get (D := D) (ci := 7) (v := .ref (h 1)) (C := RX7) (T := TX7) (N := 5) hx hb hts tb_wsX70 hown hK.1 hP 0 rfl rfl 0 (by decide) (hts _ tb_1_16) (fun _ h9 => h9) rfl dX7_look_91 ?_
        refine va_get (D := D) (ci := 3) (v := .ref (h 5)) (C := RX3) (T := TX3) (N := 5) hx hb hts tb_wsX30 hown hK.1 hP 1 rfl rfl 3 (by decide) (hts _ tb_9_18) (fun _ h9 => h9) rfl dX7_look_94 ?_
        refine lv_iload_n hx hb dX7_look_97 rfl (lv_at hl 1 rfl) ?_
        obtain ⟨h4, hf⟩ := zck_s hf
        refine va_iald hx hb hK.1 hP 5 0 rfl rfl h4 dX7_look_98 ?_
        cases hf
        exact zx_iret hC hP hD hS dX7_look_99
      replace hf := zif_f hf c13
      by_cases c14 : a2 = (4 : Int32)
      · replace hf := zif_t hf c14
        refine lv_tableIn (tgt := 100) hx hb dX7_look_26 (by rw [c14]; decide) (by rw [c14]; decide) (by rw [c14]; rfl) (by decide) ?_
        refine lv_aload_n hx hb dX7_look_100 rfl (lv_at hl 0 rfl) ?_
        refine va_get (D := D) (ci := 7) (v := .ref (h 13)) (C := RX7) (T := TX7) (N := 5) hx hb hts tb_wsX70 hown hK.1 hP 0 rfl rfl 1 (by decide) (hts _ tb_1_23) (fun _ h9 => h9) rfl dX7_look_101 ?_
        refine va_get (D := D) (ci := 6) (v := .ref (h 20)) (C := RX6) (T := TX6) (N := 17) hx hb hts tb_wsX60 hown hK.1 hP 13 rfl rfl 6 (by decide) (hts _ tb_9_19) (fun _ h9 => h9) rfl dX7_look_104 ?_
        refine lv_iload_n hx hb dX7_look_107 rfl (lv_at hl 1 rfl) ?_
        obtain ⟨u5, hu5, hf⟩ := zbd hf
        refine zthen_i hA hD hS (zrunV (As := [.int a1]) (rest := []) hC hP hD 20 rfl rfl (c_X2_howManyOf_Q l D cI cJ cZ h N gP gR gQ gT gE gM gS a1 u5 hu5 H.size) kRX7_92 rfl rfl ⟨by decide, by decide⟩ rfl hl.1 rfl (Nat.le_of_ble_eq_true rfl) dX7_look_108) (fun H locs hP hD hS => ?_)
        cases hf
        exact zx_iret hC hP hD hS dX7_look_111
      replace hf := zif_f hf c14
      refine lv_tableOut (tgt := 112) hx hb dX7_look_26 (by have := zsw c10; rw [show ((0 : Int32)).toInt = 0 from rfl] at this; have := zsw c11; rw [show ((1 : Int32)).toInt = 1 from rfl] at this; have := zsw c12; rw [show ((2 : Int32)).toInt = 2 from rfl] at this; have := zsw c13; rw [show ((3 : Int32)).toInt = 3 from rfl] at this; have := zsw c14; rw [show ((4 : Int32)).toInt = 4 from rfl] at this; omega) (by decide) ?_
      cases hf
      exact zx_throwN hC htx hex hT hH hlt hP hS hl.1 dX7_look_112 dX7_look_115 dX7_look_116 dX7_look_118 dX7_look_121 (by decide) (by decide) (by decide) (by decide)
    · replace hf := zif_f hf c2
      cases hf
      exact zx_throwI hC htx hex hT hH hlt hT.2.2.2.1 hP hS hl.1 dX7_look_15 dX7_look_18 dX7_look_19 dX7_look_21 dX7_look_24 (by decide) (by decide) (by decide) (by decide)
set_option maxRecDepth 100000 in
set_option maxHeartbeats 4000000 in
theorem x_X7_knot (l : Launch) (hlt : l.stackTraces = false) (D : va_G) (cI cJ cZ : ClassId) (h : Nat → Nat) (N : Nat) (gP : tPi) (gR : tPa) (gQ : tPa) (gT : tTr) (gE : tTe) (gM : tMe) (gS : tSq) (a1 a2 k : Int32) (u : Int32) (hf : Y7_knot gT a1 a2 = some (k, u)) (sz : Nat) : vx_Met l yX7_knot (Cond.code yX7_knot cX7_knot 3 (some .int) :: tb_X) ({ frames := 6, cells := 1, slots := 6, locals := 82 } : Room) (zPreX D (zty cI cJ cZ) (zWC cI cJ cZ h gP gR gQ gT gE gM gS) sz [.ref (h 0), .int a1, .int a2]) (zKi D (va_A (zWC cI cJ cZ h gP gR gQ gT gE gM gS) sz) (zWC cI cJ cZ h gP gR gQ gT gE gM gS) k u) (zXC D (va_A (zWC cI cJ cZ h gP gR gQ gT gE gM gS) sz) (zWC cI cJ cZ h gP gR gQ gT gE gM gS) k) 1 6 (va_A (zWC cI cJ cZ h gP gR gQ gT gE gM gS) sz) := by
  refine zMetX (Qc := fun A => zKi D A (zWC cI cJ cZ h gP gR gQ gT gE gM gS) k u) (XC := fun A => zXC D A (zWC cI cJ cZ h gP gR gQ gT gE gM gS) k) (by decide) rfl (Nat.le_of_ble_eq_true rfl) ?_
  intro p e s m args below meth c A ls hC htx hex hT hH hP hD hS hl
  replace hl : lv_has ls 3 [(0, .ref (h 0)), (1, .int a1), (2, .int a2)] := hl
  obtain ⟨hx, hb, hml, hown, hts, hK, hr, hlocks, hA⟩ := id hC
  unfold Y7_knot at hf
  obtain ⟨H, hH0⟩ : ∃ H, H = s.heap := ⟨_, rfl⟩
  rw [← hH0] at hP
  replace hS : va_S A s.heap H [] := by rw [hH0]; exact hS
  show W p l e _ s m args below meth c s.heap [] 0 0 _ _
  rw [← hH0]
  clear hH0
  obtain ⟨locs, hlo⟩ : ∃ x : List Loc, x = [] := ⟨_, rfl⟩
  rw [← hlo] at hS ⊢
  clear hlo
  refine lv_iload_n hx hb dX7_knot_0 rfl (lv_at hl 1 rfl) ?_
  refine lv_if_lt (tgt := 15) hx hb dX7_knot_1 (by decide) (fun c1 => ?_) (fun c1 => ?_)
  · replace hf := zif_t hf c1
    cases hf
    exact zx_throwI hC htx hex hT hH hlt hT.2.2.2.2.2.1 hP hS hl.1 dX7_knot_15 dX7_knot_18 dX7_knot_19 dX7_knot_21 dX7_knot_24 (by decide) (by decide) (by decide) (by decide)
  · replace hf := zif_f hf c1
    refine lv_iload_n hx hb dX7_knot_4 rfl (lv_at hl 1 rfl) ?_
    refine lv_aload_n hx hb dX7_knot_5 rfl (lv_at hl 0 rfl) ?_
    refine va_get (D := D) (ci := 7) (v := .ref (h 13)) (C := RX7) (T := TX7) (N := 5) hx hb hts tb_wsX70 hown hK.1 hP 0 rfl rfl 1 (by decide) (hts _ tb_1_23) (fun _ h9 => h9) rfl dX7_knot_6 ?_
    refine va_get (D := D) (ci := 6) (v := .int (tTr.knots gT)) (C := RX6) (T := TX6) (N := 17) hx hb hts tb_wsX60 hown hK.1 hP 13 rfl rfl 10 (by decide) (hts _ tb_10_17) (fun _ h9 => h9) rfl dX7_knot_9 ?_
    refine lv_icmp_lt (tgt := 25) hx hb dX7_knot_12 (by decide) (fun c2 => ?_) (fun c2 => ?_)
    · replace hf := zif_t hf c2
      refine lv_iload_n hx hb dX7_knot_25 rfl (lv_at hl 2 rfl) ?_
      by_cases c10 : a2 = (0 : Int32)
      · replace hf := zif_t hf c10
        refine lv_tableIn (tgt := 64) hx hb dX7_knot_26 (by rw [c10]; decide) (by rw [c10]; decide) (by rw [c10]; rfl) (by decide) ?_
        refine lv_aload_n hx hb dX7_knot_64 rfl (lv_at hl 0 rfl) ?_
        refine va_get (D := D) (ci := 7) (v := .ref (h 13)) (C := RX7) (T := TX7) (N := 5) hx hb hts tb_wsX70 hown hK.1 hP 0 rfl rfl 1 (by decide) (hts _ tb_1_23) (fun _ h9 => h9) rfl dX7_knot_65 ?_
        refine va_get (D := D) (ci := 6) (v := .ref (h 14)) (C := RX6) (T := TX6) (N := 17) hx hb hts tb_wsX60 hown hK.1 hP 13 rfl rfl 0 (by decide) (hts _ tb_17_15) (fun _ h9 => h9) rfl dX7_knot_68 ?_
        refine lv_iload_n hx hb dX7_knot_71 rfl (lv_at hl 1 rfl) ?_
        obtain ⟨h4, hf⟩ := zck_s hf
        refine va_iald hx hb hK.1 hP 14 0 rfl rfl h4 dX7_knot_72 ?_
        cases hf
        exact zx_iret hC hP hD hS dX7_knot_73
      replace hf := zif_f hf c10
      by_cases c11 : a2 = (1 : Int32)
      · replace hf := zif_t hf c11
        refine lv_tableIn (tgt := 74) hx hb dX7_knot_26 (by rw [c11]; decide) (by rw [c11]; decide) (by rw [c11]; rfl) (by decide) ?_
        refine lv_aload_n hx hb dX7_knot_74 rfl (lv_at hl 0 rfl) ?_
        refine va_get (D := D) (ci := 7) (v := .ref (h 13)) (C := RX7) (T := TX7) (N := 5) hx hb hts tb_wsX70 hown hK.1 hP 0 rfl rfl 1 (by decide) (hts _ tb_1_23) (fun _ h9 => h9) rfl dX7_knot_75 ?_
        refine va_get (D := D) (ci := 6) (v := .ref (h 15)) (C := RX6) (T := TX6) (N := 17) hx hb hts tb_wsX60 hown hK.1 hP 13 rfl rfl 1 (by decide) (hts _ tb_17_16) (fun _ h9 => h9) rfl dX7_knot_78 ?_
        refine lv_iload_n hx hb dX7_knot_81 rfl (lv_at hl 1 rfl) ?_
        obtain ⟨h4, hf⟩ := zck_s hf
        refine va_iald hx hb hK.1 hP 15 0 rfl rfl h4 dX7_knot_82 ?_
        cases hf
        exact zx_iret hC hP hD hS dX7_knot_83
      replace hf := zif_f hf c11
      by_cases c12 : a2 = (2 : Int32)
      · replace hf := zif_t hf c12
        refine lv_tableIn (tgt := 84) hx hb dX7_knot_26 (by rw [c12]; decide) (by rw [c12]; decide) (by rw [c12]; rfl) (by decide) ?_
        refine lv_aload_n hx hb dX7_knot_84 rfl (lv_at hl 0 rfl) ?_
        refine va_get (D := D) (ci := 7) (v := .ref (h 13)) (C := RX7) (T := TX7) (N := 5) hx hb hts tb_wsX70 hown hK.1 hP 0 rfl rfl 1 (by decide) (hts _ tb_1_23) (fun _ h9 => h9) rfl dX7_knot_85 ?_
        refine va_get (D := D) (ci := 6) (v := .ref (h 16)) (C := RX6) (T := TX6) (N := 17) hx hb hts tb_wsX60 hown hK.1 hP 13 rfl rfl 2 (by decide) (hts _ tb_17_17) (fun _ h9 => h9) rfl dX7_knot_88 ?_
        refine lv_iload_n hx hb dX7_knot_91 rfl (lv_at hl 1 rfl) ?_
        obtain ⟨h4, hf⟩ := zck_s hf
        refine va_iald hx hb hK.1 hP 16 0 rfl rfl h4 dX7_knot_92 ?_
        cases hf
        exact zx_iret hC hP hD hS dX7_knot_93
      replace hf := zif_f hf c12
      by_cases c13 : a2 = (3 : Int32)
      · replace hf := zif_t hf c13
        refine lv_tableIn (tgt := 94) hx hb dX7_knot_26 (by rw [c13]; decide) (by rw [c13]; decide) (by rw [c13]; rfl) (by decide) ?_
        refine lv_aload_n hx hb dX7_knot_94 rfl (lv_at hl 0 rfl) ?_
        refine va_get (D := D) (ci := 7) (v := .ref (h 13)) (C := RX7) (T := TX7) (N := 5) hx hb hts tb_wsX70 hown hK.1 hP 0 rfl rfl 1 (by decide) (hts _ tb_1_23) (fun _ h9 => h9) rfl dX7_knot_95 ?_
        refine va_get (D := D) (ci := 6) (v := .ref (h 17)) (C := RX6) (T := TX6) (N := 17) hx hb hts tb_wsX60 hown hK.1 hP 13 rfl rfl 3 (by decide) (hts _ tb_17_18) (fun _ h9 => h9) rfl dX7_knot_98 ?_
        refine lv_iload_n hx hb dX7_knot_101 rfl (lv_at hl 1 rfl) ?_
        obtain ⟨h4, hf⟩ := zck_s hf
        refine va_iald hx hb hK.1 hP 17 0 rfl rfl h4 dX7_knot_102 ?_
        cases hf
        exact zx_iret hC hP hD hS dX7_knot_103
      replace hf := zif_f hf c13
      by_cases c14 : a2 = (4 : Int32)
      · replace hf := zif_t hf c14
        refine lv_tableIn (tgt := 104) hx hb dX7_knot_26 (by rw [c14]; decide) (by rw [c14]; decide) (by rw [c14]; rfl) (by decide) ?_
        refine lv_aload_n hx hb dX7_knot_104 rfl (lv_at hl 0 rfl) ?_
        refine va_get (D := D) (ci := 7) (v := .ref (h 13)) (C := RX7) (T := TX7) (N := 5) hx hb hts tb_wsX70 hown hK.1 hP 0 rfl rfl 1 (by decide) (hts _ tb_1_23) (fun _ h9 => h9) rfl dX7_knot_105 ?_
        refine va_get (D := D) (ci := 6) (v := .ref (h 18)) (C := RX6) (T := TX6) (N := 17) hx hb hts tb_wsX60 hown hK.1 hP 13 rfl rfl 4 (by decide) (hts _ tb_17_19) (fun _ h9 => h9) rfl dX7_knot_108 ?_
        refine lv_iload_n hx hb dX7_knot_111 rfl (lv_at hl 1 rfl) ?_
        obtain ⟨h4, hf⟩ := zck_s hf
        refine va_iald hx hb hK.1 hP 18 0 rfl rfl h4 dX7_knot_112 ?_
        cases hf
        exact zx_iret hC hP hD hS dX7_knot_113
      replace hf := zif_f hf c14
      by_cases c15 : a2 = (5 : Int32)
      · replace hf := zif_t hf c15
        refine lv_tableIn (tgt := 114) hx hb dX7_knot_26 (by rw [c15]; decide) (by rw [c15]; decide) (by rw [c15]; rfl) (by decide) ?_
        refine lv_aload_n hx hb dX7_knot_114 rfl (lv_at hl 0 rfl) ?_
        refine va_get (D := D) (ci := 7) (v := .ref (h 13)) (C := RX7) (T := TX7) (N := 5) hx hb hts tb_wsX70 hown hK.1 hP 0 rfl rfl 1 (by decide) (hts _ tb_1_23) (fun _ h9 => h9) rfl dX7_knot_115 ?_
        refine va_get (D := D) (ci := 6) (v := .ref (h 19)) (C := RX6) (T := TX6) (N := 17) hx hb hts tb_wsX60 hown hK.1 hP 13 rfl rfl 5 (by decide) (hts _ tb_17_20) (fun _ h9 => h9) rfl dX7_knot_118 ?_
        refine lv_iload_n hx hb dX7_knot_121 rfl (lv_at hl 1 rfl) ?_
        obtain ⟨h4, hf⟩ := zck_s hf
        refine va_iald hx hb hK.1 hP 19 0 rfl rfl h4 dX7_knot_122 ?_
        cases hf
        exact zx_iret hC hP hD hS dX7_knot_123
      replace hf := zif_f hf c15
      refine lv_tableOut (tgt := 124) hx hb dX7_knot_26 (by have := zsw c10; rw [show ((0 : Int32)).toInt = 0 from rfl] at this; have := zsw c11; rw [show ((1 : Int32)).toInt = 1 from rfl] at this; have := zsw c12; rw [show ((2 : Int32)).toInt = 2 from rfl] at this; have := zsw c13; rw [show ((3 : Int32)).toInt = 3 from rfl] at this; have := zsw c14; rw [show ((4 : Int32)).toInt = 4 from rfl] at this; have := zsw c15; rw [show ((5 : Int32)).toInt = 5 from rfl] at this; omega) (by decide) ?_
      cases hf
      exact zx_throwN hC htx hex hT hH hlt hP hS hl.1 dX7_knot_124 dX7_knot_127 dX7_knot_128 dX7_knot_130 dX7_knot_133 (by decide) (by decide) (by decide) (by decide)
    · replace hf := zif_f hf c2
      cases hf
      exact zx_throwI hC htx hex hT hH hlt hT.2.2.2.2.2.1 hP hS hl.1 dX7_knot_15 dX7_knot_18 dX7_knot_19 dX7_knot_21 dX7_knot_24 (by decide) (by decide) (by decide) (by decide)
set_option maxRecDepth 100000 in
set_option maxHeartbeats 4000000 in
theorem x_X7_part (l : Launch) (hlt : l.stackTraces = false) (D : va_G) (cI cJ cZ : ClassId) (h : Nat → Nat) (N : Nat) (gP : tPi) (gR : tPa) (gQ : tPa) (gT : tTr) (gE : tTe) (gM : tMe) (gS : tSq) (a1 a2 k : Int32) (u : Int64) (hf : Y7_part N gP gQ gT a1 a2 = some (k, u)) (sz : Nat) : vx_Met l yX7_part (Cond.code yX7_part cX7_part 4 (some .long) :: tb_X) ({ frames := 6, cells := 1, slots := 6, locals := 82 } : Room) (zPreX D (zty cI cJ cZ) (zWC cI cJ cZ h gP gR gQ gT gE gM gS) sz [.ref (h 0), .int a1, .int a2]) (zKl D (va_A (zWC cI cJ cZ h gP gR gQ gT gE gM gS) sz) (zWC cI cJ cZ h gP gR gQ gT gE gM gS) k u) (zXC D (va_A (zWC cI cJ cZ h gP gR gQ gT gE gM gS) sz) (zWC cI cJ cZ h gP gR gQ gT gE gM gS) k) 1 6 (va_A (zWC cI cJ cZ h gP gR gQ gT gE gM gS) sz) := by
  refine zMetX (Qc := fun A => zKl D A (zWC cI cJ cZ h gP gR gQ gT gE gM gS) k u) (XC := fun A => zXC D A (zWC cI cJ cZ h gP gR gQ gT gE gM gS) k) (by decide) rfl (Nat.le_of_ble_eq_true rfl) ?_
  intro p e s m args below meth c A ls hC htx hex hT hH hP hD hS hl
  replace hl : lv_has ls 4 [(0, .ref (h 0)), (1, .int a1), (2, .int a2)] := hl
  obtain ⟨hx, hb, hml, hown, hts, hK, hr, hlocks, hA⟩ := id hC
  unfold Y7_part at hf
  obtain ⟨H, hH0⟩ : ∃ H, H = s.heap := ⟨_, rfl⟩
  rw [← hH0] at hP
  replace hS : va_S A s.heap H [] := by rw [hH0]; exact hS
  show W p l e _ s m args below meth c s.heap [] 0 0 _ _
  rw [← hH0]
  clear hH0
  obtain ⟨locs, hlo⟩ : ∃ x : List Loc, x = [] := ⟨_, rfl⟩
  rw [← hlo] at hS ⊢
  clear hlo
  refine lv_aload_n hx hb dX7_part_0 rfl (lv_at hl 0 rfl) ?_
  refine va_get (D := D) (ci := 7) (v := .ref (h 13)) (C := RX7) (T := TX7) (N := 5) hx hb hts tb_wsX70 hown hK.1 hP 0 rfl rfl 1 (by decide) (hts _ tb_1_23) (fun _ h9 => h9) rfl dX7_part_1 ?_
  refine va_get (D := D) (ci := 6) (v := .ref (h 20)) (C := RX6) (T := TX6) (N := 17) hx hb hts tb_wsX60 hown hK.1 hP 13 rfl rfl 6 (by decide) (hts _ tb_9_19) (fun _ h9 => h9) rfl dX7_part_4 ?_
  refine lv_astore_n (lv' := [(3, .ref (h 20)), (0, .ref (h 0)), (1, .int a1), (2, .int a2)]) hx hb dX7_part_7 rfl hl (by decide) rfl (fun ls hl => ?_)
  refine lv_iload_n hx hb dX7_part_8 rfl (lv_at hl 2 rfl) ?_
  refine lv_if_lt (tgt := 20) hx hb dX7_part_9 (by decide) (fun c1 => ?_) (fun c1 => ?_)
  · replace hf := zif_t hf c1
    cases hf
    exact zx_throwI hC htx hex hT hH hlt hT.2.2.2.2.2.2.1 hP hS hl.1 dX7_part_20 dX7_part_23 dX7_part_24 dX7_part_26 dX7_part_29 (by decide) (by decide) (by decide) (by decide)
  · replace hf := zif_f hf c1
    refine lv_iload_n hx hb dX7_part_12 rfl (lv_at hl 2 rfl) ?_
    refine lv_aload_n hx hb dX7_part_13 rfl (lv_at hl 0 rfl) ?_
    refine va_get (D := D) (ci := 2) (v := .int (tPa.size gQ)) (C := RX2) (T := TX2) (N := 6) hx hb hts tb_wsX20 hown hK.1 hP 20 rfl rfl 5 (by decide) (hts _ tb_16_20) (fun _ h9 => h9) rfl dX7_part_14 ?_
    refine lv_icmp_lt (tgt := 30) hx hb dX7_part_17 (by decide) (fun c2 => ?_) (fun c2 => ?_)
    · replace hf := zif_t hf c2
      refine lv_iload_n hx hb dX7_part_30 rfl (lv_at hl 3 rfl) ?_
      by_cases c10 : a2 = (0 : Int32)
      · replace hf := zif_t hf c10
        refine lv_tableIn (tgt := 76) hx hb dX7_part_31 (by rw [c10]; decide) (by rw [c10]; decide) (by rw [c10]; rfl) (by decide) ?_
        obtain ⟨h4, hf⟩ := zck_s hf
        refine lv_aload_n hx hb dX7_part_76 rfl (lv_at hl 0 rfl) ?_
        refine va_get (D := D) (ci := 2) (v := .ref (h 21)) (C := RX2) (T := TX2) (N := 6) hx hb hts tb_wsX20 hown hK.1 hP 20 rfl rfl 0 (by decide) (hts _ tb_18_8) (fun _ h9 => h9) rfl dX7_part_77 ?_
        refine lv_iload_n hx hb dX7_part_80 rfl (lv_at hl 2 rfl) ?_
        refine va_iald hx hb hK.1 hP 21 0 rfl rfl h4 dX7_part_81 ?_
        refine lv_i2l hx hb dX7_part_82 rfl ?_
        cases hf
        exact zx_lret hC hP hD hS dX7_part_83
      replace hf := zif_f hf c10
      by_cases c11 : a2 = (1 : Int32)
      · replace hf := zif_t hf c11
        refine lv_tableIn (tgt := 84) hx hb dX7_part_31 (by rw [c11]; decide) (by rw [c11]; decide) (by rw [c11]; rfl) (by decide) ?_
        unfold Y7_end0 at hf
        obtain ⟨h4, hf⟩ := zck_s hf
        refine lv_aload_n hx hb dX7_part_84 rfl (lv_at hl 1 rfl) ?_
        refine va_get (D := D) (ci := 7) (v := .ref (h 1)) (C := RX7) (T := TX7) (N := 5) hx hb hts tb_wsX70 hown hK.1 hP 0 rfl rfl 0 (by decide) (hts _ tb_1_16) (fun _ h9 => h9) rfl dX7_part_85 ?_
        refine lv_aload_n hx hb dX7_part_88 rfl (lv_at hl 0 rfl) ?_
        refine va_get (D := D) (ci := 2) (v := .ref (h 21)) (C := RX2) (T := TX2) (N := 6) hx hb hts tb_wsX20 hown hK.1 hP 20 rfl rfl 0 (by decide) (hts _ tb_18_8) (fun _ h9 => h9) rfl dX7_part_89 ?_
        refine lv_iload_n hx hb dX7_part_92 rfl (lv_at hl 2 rfl) ?_
        refine va_iald hx hb hK.1 hP 21 0 rfl rfl h4 dX7_part_93 ?_
        refine lv_aload_n hx hb dX7_part_94 rfl (lv_at hl 0 rfl) ?_
        refine va_get (D := D) (ci := 2) (v := .ref (h 22)) (C := RX2) (T := TX2) (N := 6) hx hb hts tb_wsX20 hown hK.1 hP 20 rfl rfl 1 (by decide) (hts _ tb_18_9) (fun _ h9 => h9) rfl dX7_part_95 ?_
        refine lv_iload_n hx hb dX7_part_98 rfl (lv_at hl 2 rfl) ?_
        refine va_iald hx hb hK.1 hP 22 0 rfl rfl h4 dX7_part_99 ?_
        refine lv_aload_n hx hb dX7_part_100 rfl (lv_at hl 0 rfl) ?_
        refine va_get (D := D) (ci := 2) (v := .ref (h 23)) (C := RX2) (T := TX2) (N := 6) hx hb hts tb_wsX20 hown hK.1 hP 20 rfl rfl 2 (by decide) (hts _ tb_18_10) (fun _ h9 => h9) rfl dX7_part_101 ?_
        refine lv_iload_n hx hb dX7_part_104 rfl (lv_at hl 2 rfl) ?_
        refine va_iald hx hb hK.1 hP 23 0 rfl rfl h4 dX7_part_105 ?_
        refine lv_iload_n hx hb dX7_part_106 rfl (lv_at hl 3 rfl) ?_
        refine lv_iconst (v := 1) hx hb dX7_part_107 (by decide) ?_
        refine lv_isub hx hb dX7_part_108 ?_
        obtain ⟨u5, hu5, hf⟩ := zbd hf
        refine zthen_l hA hD hS (zrunV (As := [.int ((tPa.owner gQ) a1.toNatClampNeg), .int ((tPa.n0 gQ) a1.toNatClampNeg), .int ((tPa.d0 gQ) a1.toNatClampNeg), .int (a2 - (1 : Int32))]) (rest := []) hC hP hD 1 rfl rfl (c_X3_placeAt l D cI cJ cZ h N gP gR gQ gT gE gM gS ((tPa.owner gQ) a1.toNatClampNeg) ((tPa.n0 gQ) a1.toNatClampNeg) ((tPa.d0 gQ) a1.toNatClampNeg) (a2 - (1 : Int32)) u5 hu5 H.size) kRX7_152 rfl rfl ⟨by decide, by decide⟩ rfl hl.1 rfl (Nat.le_of_ble_eq_true rfl) dX7_part_109) (fun H locs hP hD hS => ?_)
        cases hf
        exact zx_lret hC hP hD hS dX7_part_112
      replace hf := zif_f hf c11
      by_cases c12 : a2 = (2 : Int32)
      · replace hf := zif_t hf c12
        refine lv_tableIn (tgt := 84) hx hb dX7_part_31 (by rw [c12]; decide) (by rw [c12]; decide) (by rw [c12]; rfl) (by decide) ?_
        unfold Y7_end0 at hf
        obtain ⟨h4, hf⟩ := zck_s hf
        refine lv_aload_n hx hb dX7_part_84 rfl (lv_at hl 1 rfl) ?_
        refine va_get (D := D) (ci := 7) (v := .ref (h 1)) (C := RX7) (T := TX7) (N := 5) hx hb hts tb_wsX70 hown hK.1 hP 0 rfl rfl 0 (by decide) (hts _ tb_1_16) (fun _ h9 => h9) rfl dX7_part_85 ?_
        refine lv_aload_n hx hb dX7_part_88 rfl (lv_at hl 0 rfl) ?_
        refine va_get (D := D) (ci := 2) (v := .ref (h 21)) (C := RX2) (T := TX2) (N := 6) hx hb hts tb_wsX20 hown hK.1 hP 20 rfl rfl 0 (by decide) (hts _ tb_18_8) (fun _ h9 => h9) rfl dX7_part_89 ?_
        refine lv_iload_n hx hb dX7_part_92 rfl (lv_at hl 2 rfl) ?_
        refine va_iald hx hb hK.1 hP 21 0 rfl rfl h4 dX7_part_93 ?_
        refine lv_aload_n hx hb dX7_part_94 rfl (lv_at hl 0 rfl) ?_
        refine va_get (D := D) (ci := 2) (v := .ref (h 22)) (C := RX2) (T := TX2) (N := 6) hx hb hts tb_wsX20 hown hK.1 hP 20 rfl rfl 1 (by decide) (hts _ tb_18_9) (fun _ h9 => h9) rfl dX7_part_95 ?_
        refine lv_iload_n hx hb dX7_part_98 rfl (lv_at hl 2 rfl) ?_
        refine va_iald hx hb hK.1 hP 22 0 rfl rfl h4 dX7_part_99 ?_
        refine lv_aload_n hx hb dX7_part_100 rfl (lv_at hl 0 rfl) ?_
        refine va_get (D := D) (ci := 2) (v := .ref (h 23)) (C := RX2) (T := TX2) (N := 6) hx hb hts tb_wsX20 hown hK.1 hP 20 rfl rfl 2 (by decide) (hts _ tb_18_10) (fun _ h9 => h9) rfl dX7_part_101 ?_
        refine lv_iload_n hx hb dX7_part_104 rfl (lv_at hl 2 rfl) ?_
        refine va_iald hx hb hK.1 hP 23 0 rfl rfl h4 dX7_part_105 ?_
        refine lv_iload_n hx hb dX7_part_106 rfl (lv_at hl 3 rfl) ?_
        refine lv_iconst (v := 1) hx hb dX7_part_107 (by decide) ?_
        refine lv_isub hx hb dX7_part_108 ?_
        obtain ⟨u5, hu5, hf⟩ := zbd hf
        refine zthen_l hA hD hS (zrunV (As := [.int ((tPa.owner gQ) a1.toNatClampNeg), .int ((tPa.n0 gQ) a1.toNatClampNeg), .int ((tPa.d0 gQ) a1.toNatClampNeg), .int (a2 - (1 : Int32))]) (rest := []) hC hP hD 1 rfl rfl (c_X3_placeAt l D cI cJ cZ h N gP gR gQ gT gE gM gS ((tPa.owner gQ) a1.toNatClampNeg) ((tPa.n0 gQ) a1.toNatClampNeg) ((tPa.d0 gQ) a1.toNatClampNeg) (a2 - (1 : Int32)) u5 hu5 H.size) kRX7_152 rfl rfl ⟨by decide, by decide⟩ rfl hl.1 rfl (Nat.le_of_ble_eq_true rfl) dX7_part_109) (fun H locs hP hD hS => ?_)
        cases hf
        exact zx_lret hC hP hD hS dX7_part_112
      replace hf := zif_f hf c12
      by_cases c13 : a2 = (3 : Int32)
      · replace hf := zif_t hf c13
        refine lv_tableIn (tgt := 84) hx hb dX7_part_31 (by rw [c13]; decide) (by rw [c13]; decide) (by rw [c13]; rfl) (by decide) ?_
        unfold Y7_end0 at hf
        obtain ⟨h4, hf⟩ := zck_s hf
        refine lv_aload_n hx hb dX7_part_84 rfl (lv_at hl 1 rfl) ?_
        refine va_get (D := D) (ci := 7) (v := .ref (h 1)) (C := RX7) (T := TX7) (N := 5) hx hb hts tb_wsX70 hown hK.1 hP 0 rfl rfl 0 (by decide) (hts _ tb_1_16) (fun _ h9 => h9) rfl dX7_part_85 ?_
        refine lv_aload_n hx hb dX7_part_88 rfl (lv_at hl 0 rfl) ?_
        refine va_get (D := D) (ci := 2) (v := .ref (h 21)) (C := RX2) (T := TX2) (N := 6) hx hb hts tb_wsX20 hown hK.1 hP 20 rfl rfl 0 (by decide) (hts _ tb_18_8) (fun _ h9 => h9) rfl dX7_part_89 ?_
        refine lv_iload_n hx hb dX7_part_92 rfl (lv_at hl 2 rfl) ?_
        refine va_iald hx hb hK.1 hP 21 0 rfl rfl h4 dX7_part_93 ?_
        refine lv_aload_n hx hb dX7_part_94 rfl (lv_at hl 0 rfl) ?_
        refine va_get (D := D) (ci := 2) (v := .ref (h 22)) (C := RX2) (T := TX2) (N := 6) hx hb hts tb_wsX20 hown hK.1 hP 20 rfl rfl 1 (by decide) (hts _ tb_18_9) (fun _ h9 => h9) rfl dX7_part_95 ?_
        refine lv_iload_n hx hb dX7_part_98 rfl (lv_at hl 2 rfl) ?_
        refine va_iald hx hb hK.1 hP 22 0 rfl rfl h4 dX7_part_99 ?_
        refine lv_aload_n hx hb dX7_part_100 rfl (lv_at hl 0 rfl) ?_
        refine va_get (D := D) (ci := 2) (v := .ref (h 23)) (C := RX2) (T := TX2) (N := 6) hx hb hts tb_wsX20 hown hK.1 hP 20 rfl rfl 2 (by decide) (hts _ tb_18_10) (fun _ h9 => h9) rfl dX7_part_101 ?_
        refine lv_iload_n hx hb dX7_part_104 rfl (lv_at hl 2 rfl) ?_
        refine va_iald hx hb hK.1 hP 23 0 rfl rfl h4 dX7_part_105 ?_
        refine lv_iload_n hx hb dX7_part_106 rfl (lv_at hl 3 rfl) ?_
        refine lv_iconst (v := 1) hx hb dX7_part_107 (by decide) ?_
        refine lv_isub hx hb dX7_part_108 ?_
        obtain ⟨u5, hu5, hf⟩ := zbd hf
        refine zthen_l hA hD hS (zrunV (As := [.int ((tPa.owner gQ) a1.toNatClampNeg), .int ((tPa.n0 gQ) a1.toNatClampNeg), .int ((tPa.d0 gQ) a1.toNatClampNeg), .int (a2 - (1 : Int32))]) (rest := []) hC hP hD 1 rfl rfl (c_X3_placeAt l D cI cJ cZ h N gP gR gQ gT gE gM gS ((tPa.owner gQ) a1.toNatClampNeg) ((tPa.n0 gQ) a1.toNatClampNeg) ((tPa.d0 gQ) a1.toNatClampNeg) (a2 - (1 : Int32)) u5 hu5 H.size) kRX7_152 rfl rfl ⟨by decide, by decide⟩ rfl hl.1 rfl (Nat.le_of_ble_eq_true rfl) dX7_part_109) (fun H locs hP hD hS => ?_)
        cases hf
        exact zx_lret hC hP hD hS dX7_part_112
      replace hf := zif_f hf c13
      by_cases c14 : a2 = (4 : Int32)
      · replace hf := zif_t hf c14
        refine lv_tableIn (tgt := 113) hx hb dX7_part_31 (by rw [c14]; decide) (by rw [c14]; decide) (by rw [c14]; rfl) (by decide) ?_
        unfold Y7_end1 at hf
        obtain ⟨h4, hf⟩ := zck_s hf
        refine lv_aload_n hx hb dX7_part_113 rfl (lv_at hl 1 rfl) ?_
        refine va_get (D := D) (ci := 7) (v := .ref (h 1)) (C := RX7) (T := TX7) (N := 5) hx hb hts tb_wsX70 hown hK.1 hP 0 rfl rfl 0 (by decide) (hts _ tb_1_16) (fun _ h9 => h9) rfl dX7_part_114 ?_
        refine lv_aload_n hx hb dX7_part_117 rfl (lv_at hl 0 rfl) ?_
        refine va_get (D := D) (ci := 2) (v := .ref (h 21)) (C := RX2) (T := TX2) (N := 6) hx hb hts tb_wsX20 hown hK.1 hP 20 rfl rfl 0 (by decide) (hts _ tb_18_8) (fun _ h9 => h9) rfl dX7_part_118 ?_
        refine lv_iload_n hx hb dX7_part_121 rfl (lv_at hl 2 rfl) ?_
        refine va_iald hx hb hK.1 hP 21 0 rfl rfl h4 dX7_part_122 ?_
        refine lv_aload_n hx hb dX7_part_123 rfl (lv_at hl 0 rfl) ?_
        refine va_get (D := D) (ci := 2) (v := .ref (h 24)) (C := RX2) (T := TX2) (N := 6) hx hb hts tb_wsX20 hown hK.1 hP 20 rfl rfl 3 (by decide) (hts _ tb_18_11) (fun _ h9 => h9) rfl dX7_part_124 ?_
        refine lv_iload_n hx hb dX7_part_127 rfl (lv_at hl 2 rfl) ?_
        refine va_iald hx hb hK.1 hP 24 0 rfl rfl h4 dX7_part_128 ?_
        refine lv_aload_n hx hb dX7_part_129 rfl (lv_at hl 0 rfl) ?_
        refine va_get (D := D) (ci := 2) (v := .ref (h 25)) (C := RX2) (T := TX2) (N := 6) hx hb hts tb_wsX20 hown hK.1 hP 20 rfl rfl 4 (by decide) (hts _ tb_18_12) (fun _ h9 => h9) rfl dX7_part_130 ?_
        refine lv_iload_n hx hb dX7_part_133 rfl (lv_at hl 2 rfl) ?_
        refine va_iald hx hb hK.1 hP 25 0 rfl rfl h4 dX7_part_134 ?_
        refine lv_iload_n hx hb dX7_part_135 rfl (lv_at hl 3 rfl) ?_
        refine lv_iconst (v := 4) hx hb dX7_part_136 (by decide) ?_
        refine lv_isub hx hb dX7_part_137 ?_
        obtain ⟨u5, hu5, hf⟩ := zbd hf
        refine zthen_l hA hD hS (zrunV (As := [.int ((tPa.owner gQ) a1.toNatClampNeg), .int ((tPa.n1 gQ) a1.toNatClampNeg), .int ((tPa.d1 gQ) a1.toNatClampNeg), .int (a2 - (4 : Int32))]) (rest := []) hC hP hD 1 rfl rfl (c_X3_placeAt l D cI cJ cZ h N gP gR gQ gT gE gM gS ((tPa.owner gQ) a1.toNatClampNeg) ((tPa.n1 gQ) a1.toNatClampNeg) ((tPa.d1 gQ) a1.toNatClampNeg) (a2 - (4 : Int32)) u5 hu5 H.size) kRX7_152 rfl rfl ⟨by decide, by decide⟩ rfl hl.1 rfl (Nat.le_of_ble_eq_true rfl) dX7_part_138) (fun H locs hP hD hS => ?_)
        cases hf
        exact zx_lret hC hP hD hS dX7_part_141
      replace hf := zif_f hf c14
      by_cases c15 : a2 = (5 : Int32)
      · replace hf := zif_t hf c15
        refine lv_tableIn (tgt := 113) hx hb dX7_part_31 (by rw [c15]; decide) (by rw [c15]; decide) (by rw [c15]; rfl) (by decide) ?_
        unfold Y7_end1 at hf
        obtain ⟨h4, hf⟩ := zck_s hf
        refine lv_aload_n hx hb dX7_part_113 rfl (lv_at hl 1 rfl) ?_
        refine va_get (D := D) (ci := 7) (v := .ref (h 1)) (C := RX7) (T := TX7) (N := 5) hx hb hts tb_wsX70 hown hK.1 hP 0 rfl rfl 0 (by decide) (hts _ tb_1_16) (fun _ h9 => h9) rfl dX7_part_114 ?_
        refine lv_aload_n hx hb dX7_part_117 rfl (lv_at hl 0 rfl) ?_
        refine va_get (D := D) (ci := 2) (v := .ref (h 21)) (C := RX2) (T := TX2) (N := 6) hx hb hts tb_wsX20 hown hK.1 hP 20 rfl rfl 0 (by decide) (hts _ tb_18_8) (fun _ h9 => h9) rfl dX7_part_118 ?_
        refine lv_iload_n hx hb dX7_part_121 rfl (lv_at hl 2 rfl) ?_
        refine va_iald hx hb hK.1 hP 21 0 rfl rfl h4 dX7_part_122 ?_
        refine lv_aload_n hx hb dX7_part_123 rfl (lv_at hl 0 rfl) ?_
        refine va_get (D := D) (ci := 2) (v := .ref (h 24)) (C := RX2) (T := TX2) (N := 6) hx hb hts tb_wsX20 hown hK.1 hP 20 rfl rfl 3 (by decide) (hts _ tb_18_11) (fun _ h9 => h9) rfl dX7_part_124 ?_
        refine lv_iload_n hx hb dX7_part_127 rfl (lv_at hl 2 rfl) ?_
        refine va_iald hx hb hK.1 hP 24 0 rfl rfl h4 dX7_part_128 ?_
        refine lv_aload_n hx hb dX7_part_129 rfl (lv_at hl 0 rfl) ?_
        refine va_get (D := D) (ci := 2) (v := .ref (h 25)) (C := RX2) (T := TX2) (N := 6) hx hb hts tb_wsX20 hown hK.1 hP 20 rfl rfl 4 (by decide) (hts _ tb_18_12) (fun _ h9 => h9) rfl dX7_part_130 ?_
        refine lv_iload_n hx hb dX7_part_133 rfl (lv_at hl 2 rfl) ?_
        refine va_iald hx hb hK.1 hP 25 0 rfl rfl h4 dX7_part_134 ?_
        refine lv_iload_n hx hb dX7_part_135 rfl (lv_at hl 3 rfl) ?_
        refine lv_iconst (v := 4) hx hb dX7_part_136 (by decide) ?_
        refine lv_isub hx hb dX7_part_137 ?_
        obtain ⟨u5, hu5, hf⟩ := zbd hf
        refine zthen_l hA hD hS (zrunV (As := [.int ((tPa.owner gQ) a1.toNatClampNeg), .int ((tPa.n1 gQ) a1.toNatClampNeg), .int ((tPa.d1 gQ) a1.toNatClampNeg), .int (a2 - (4 : Int32))]) (rest := []) hC hP hD 1 rfl rfl (c_X3_placeAt l D cI cJ cZ h N gP gR gQ gT gE gM gS ((tPa.owner gQ) a1.toNatClampNeg) ((tPa.n1 gQ) a1.toNatClampNeg) ((tPa.d1 gQ) a1.toNatClampNeg) (a2 - (4 : Int32)) u5 hu5 H.size) kRX7_152 rfl rfl ⟨by decide, by decide⟩ rfl hl.1 rfl (Nat.le_of_ble_eq_true rfl) dX7_part_138) (fun H locs hP hD hS => ?_)
        cases hf
        exact zx_lret hC hP hD hS dX7_part_141
      replace hf := zif_f hf c15
      by_cases c16 : a2 = (6 : Int32)
      · replace hf := zif_t hf c16
        refine lv_tableIn (tgt := 113) hx hb dX7_part_31 (by rw [c16]; decide) (by rw [c16]; decide) (by rw [c16]; rfl) (by decide) ?_
        unfold Y7_end1 at hf
        obtain ⟨h4, hf⟩ := zck_s hf
        refine lv_aload_n hx hb dX7_part_113 rfl (lv_at hl 1 rfl) ?_
        refine va_get (D := D) (ci := 7) (v := .ref (h 1)) (C := RX7) (T := TX7) (N := 5) hx hb hts tb_wsX70 hown hK.1 hP 0 rfl rfl 0 (by decide) (hts _ tb_1_16) (fun _ h9 => h9) rfl dX7_part_114 ?_
        refine lv_aload_n hx hb dX7_part_117 rfl (lv_at hl 0 rfl) ?_
        refine va_get (D := D) (ci := 2) (v := .ref (h 21)) (C := RX2) (T := TX2) (N := 6) hx hb hts tb_wsX20 hown hK.1 hP 20 rfl rfl 0 (by decide) (hts _ tb_18_8) (fun _ h9 => h9) rfl dX7_part_118 ?_
        refine lv_iload_n hx hb dX7_part_121 rfl (lv_at hl 2 rfl) ?_
        refine va_iald hx hb hK.1 hP 21 0 rfl rfl h4 dX7_part_122 ?_
        refine lv_aload_n hx hb dX7_part_123 rfl (lv_at hl 0 rfl) ?_
        refine va_get (D := D) (ci := 2) (v := .ref (h 24)) (C := RX2) (T := TX2) (N := 6) hx hb hts tb_wsX20 hown hK.1 hP 20 rfl rfl 3 (by decide) (hts _ tb_18_11) (fun _ h9 => h9) rfl dX7_part_124 ?_
        refine lv_iload_n hx hb dX7_part_127 rfl (lv_at hl 2 rfl) ?_
        refine va_iald hx hb hK.1 hP 24 0 rfl rfl h4 dX7_part_128 ?_
        refine lv_aload_n hx hb dX7_part_129 rfl (lv_at hl 0 rfl) ?_
        refine va_get (D := D) (ci := 2) (v := .ref (h 25)) (C := RX2) (T := TX2) (N := 6) hx hb hts tb_wsX20 hown hK.1 hP 20 rfl rfl 4 (by decide) (hts _ tb_18_12) (fun _ h9 => h9) rfl dX7_part_130 ?_
        refine lv_iload_n hx hb dX7_part_133 rfl (lv_at hl 2 rfl) ?_
        refine va_iald hx hb hK.1 hP 25 0 rfl rfl h4 dX7_part_134 ?_
        refine lv_iload_n hx hb dX7_part_135 rfl (lv_at hl 3 rfl) ?_
        refine lv_iconst (v := 4) hx hb dX7_part_136 (by decide) ?_
        refine lv_isub hx hb dX7_part_137 ?_
        obtain ⟨u5, hu5, hf⟩ := zbd hf
        refine zthen_l hA hD hS (zrunV (As := [.int ((tPa.owner gQ) a1.toNatClampNeg), .int ((tPa.n1 gQ) a1.toNatClampNeg), .int ((tPa.d1 gQ) a1.toNatClampNeg), .int (a2 - (4 : Int32))]) (rest := []) hC hP hD 1 rfl rfl (c_X3_placeAt l D cI cJ cZ h N gP gR gQ gT gE gM gS ((tPa.owner gQ) a1.toNatClampNeg) ((tPa.n1 gQ) a1.toNatClampNeg) ((tPa.d1 gQ) a1.toNatClampNeg) (a2 - (4 : Int32)) u5 hu5 H.size) kRX7_152 rfl rfl ⟨by decide, by decide⟩ rfl hl.1 rfl (Nat.le_of_ble_eq_true rfl) dX7_part_138) (fun H locs hP hD hS => ?_)
        cases hf
        exact zx_lret hC hP hD hS dX7_part_141
      replace hf := zif_f hf c16
      by_cases c17 : a2 = (7 : Int32)
      · replace hf := zif_t hf c17
        refine lv_tableIn (tgt := 142) hx hb dX7_part_31 (by rw [c17]; decide) (by rw [c17]; decide) (by rw [c17]; rfl) (by decide) ?_
        obtain ⟨h4, hf⟩ := zck_s hf
        refine lv_aload_n hx hb dX7_part_142 rfl (lv_at hl 1 rfl) ?_
        refine va_get (D := D) (ci := 7) (v := .ref (h 13)) (C := RX7) (T := TX7) (N := 5) hx hb hts tb_wsX70 hown hK.1 hP 0 rfl rfl 1 (by decide) (hts _ tb_1_23) (fun _ h9 => h9) rfl dX7_part_143 ?_
        refine va_get (D := D) (ci := 6) (v := .ref (h 26)) (C := RX6) (T := TX6) (N := 17) hx hb hts tb_wsX60 hown hK.1 hP 13 rfl rfl 7 (by decide) (hts _ tb_18_13) (fun _ h9 => h9) rfl dX7_part_146 ?_
        refine lv_iload_n hx hb dX7_part_149 rfl (lv_at hl 2 rfl) ?_
        refine va_iald hx hb hK.1 hP 26 0 rfl rfl h4 dX7_part_150 ?_
        refine lv_i2l hx hb dX7_part_151 rfl ?_
        cases hf
        exact zx_lret hC hP hD hS dX7_part_152
      replace hf := zif_f hf c17
      refine lv_tableOut (tgt := 153) hx hb dX7_part_31 (by have := zsw c10; rw [show ((0 : Int32)).toInt = 0 from rfl] at this; have := zsw c11; rw [show ((1 : Int32)).toInt = 1 from rfl] at this; have := zsw c12; rw [show ((2 : Int32)).toInt = 2 from rfl] at this; have := zsw c13; rw [show ((3 : Int32)).toInt = 3 from rfl] at this; have := zsw c14; rw [show ((4 : Int32)).toInt = 4 from rfl] at this; have := zsw c15; rw [show ((5 : Int32)).toInt = 5 from rfl] at this; have := zsw c16; rw [show ((6 : Int32)).toInt = 6 from rfl] at this; have := zsw c17; rw [show ((7 : Int32)).toInt = 7 from rfl] at this; omega) (by decide) ?_
      cases hf
      exact zx_throwN hC htx hex hT hH hlt hP hS hl.1 dX7_part_153 dX7_part_156 dX7_part_157 dX7_part_159 dX7_part_162 (by decide) (by decide) (by decide) (by decide)
    · replace hf := zif_f hf c2
      cases hf
      exact zx_throwI hC htx hex hT hH hlt hT.2.2.2.2.2.2.1 hP hS hl.1 dX7_part_20 dX7_part_23 dX7_part_24 dX7_part_26 dX7_part_29 (by decide) (by decide) (by decide) (by decide)
