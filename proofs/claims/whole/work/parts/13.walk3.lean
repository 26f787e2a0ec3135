set_option maxHeartbeats 4000000 in
set_option maxRecDepth 100000 in
theorem c_X3_blocks (l : Launch) (D : va_G) (cI cJ cZ : ClassId) (h : Nat → Nat) (gP : tPi) (gR : tPa) (gQ : tPa) (gT : tTr) (gE : tTe) (gM : tMe) (gS : tSq) (a1 : Int32) (a2 : Int32) (a3 : Int32) (a4 : Int32) (a5 : Int32) (u : Int32) (hf : X3_blocks gP a1 a2 a3 a4 a5 = some u) (sz : Nat) : Met l yX3_blocks (Cond.code yX3_blocks cX3_blocks 6 (some .boolean) :: tb_L) ({ frames := 2, cells := 0, slots := 0, locals := 44 } : Room) (zPre D (zty cI cJ cZ) (zWC cI cJ cZ h gP gR gQ gT gE gM gS) sz [.ref (h 1), .int a1, .int a2, .int a3, .int a4, .int a5]) (zQi D (va_A (zWC cI cJ cZ h gP gR gQ gT gE gM gS) sz) (zWC cI cJ cZ h gP gR gQ gT gE gM gS) (u)) 0 0 (va_A (zWC cI cJ cZ h gP gR gQ gT gE gM gS) sz) := by
  refine zMet (Qc := fun A => zQi D A (zWC cI cJ cZ h gP gR gQ gT gE gM gS) (u)) (by decide) rfl (Nat.le_of_ble_eq_true rfl) ?_
  intro p e s m args below meth c A ls hC _ hP hD hS hl
  replace hl : lv_has ls 6 [(0, .ref (h 1)), (1, .int a1), (2, .int a2), (3, .int a3), (4, .int a4), (5, .int a5)] := hl
  obtain ⟨hx, hb, hml, hown, hts, hK, hr, hlocks, hA⟩ := id hC
  unfold X3_blocks at hf
  obtain ⟨H, hH⟩ : ∃ H, H = s.heap := ⟨_, rfl⟩
  rw [← hH] at hP
  replace hS : va_S A s.heap H [] := by rw [hH]; exact hS
  show W p l e _ s m args below meth c s.heap [] 0 0 _ _
  rw [← hH]
  clear hH
  obtain ⟨locs, hlo⟩ : ∃ x : List Loc, x = [] := ⟨_, rfl⟩
  rw [← hlo] at hS ⊢
  clear hlo
  refine lv_aload_n hx hb dX3_blocks_0 rfl (lv_at hl 0 rfl) ?_
  refine va_get (D := D) (ci := 3) (v := .ref (h 2)) (C := RX3) (T := TX3) (N := 5) hx hb hts tb_wsX30 hown hK.1 hP 1 rfl rfl 0 (by decide) (hts _ tb_2_16) (fun _ h9 => h9) rfl dX3_blocks_1 ?_
  refine lv_iload_n hx hb dX3_blocks_4 rfl (lv_at hl 1 rfl) ?_
  obtain ⟨h1, hf⟩ := zck_s hf
  refine va_iald hx hb hK.1 hP 2 0 rfl rfl h1 dX3_blocks_5 ?_
  refine lv_aload_n hx hb dX3_blocks_6 rfl (lv_at hl 0 rfl) ?_
  refine va_get (D := D) (ci := 3) (v := .ref (h 4)) (C := RX3) (T := TX3) (N := 5) hx hb hts tb_wsX30 hown hK.1 hP 1 rfl rfl 2 (by decide) (hts _ tb_2_18) (fun _ h9 => h9) rfl dX3_blocks_7 ?_
  refine lv_iload_n hx hb dX3_blocks_10 rfl (lv_at hl 1 rfl) ?_
  obtain ⟨h2, hf⟩ := zck_s hf
  refine va_iald hx hb hK.1 hP 4 0 rfl rfl h2 dX3_blocks_11 ?_
  refine lv_iload_n hx hb dX3_blocks_12 rfl (lv_at hl 2 rfl) ?_
  refine lv_iload hx hb dX3_blocks_13 (lv_at hl 4 rfl) ?_
  obtain ⟨u3, hu3, hf⟩ := zbd hf
  refine zthen_i hA hD hS (zrunS (As := [.int ((tPi.x0 gP) a1.toNatClampNeg), .int ((tPi.x1 gP) a1.toNatClampNeg), .int a2, .int a4]) (rest := []) hC hP hD (c_X3_framesMeet l D cI cJ cZ h  gP gR gQ gT gE gM gS ((tPi.x0 gP) a1.toNatClampNeg) ((tPi.x1 gP) a1.toNatClampNeg) a2 a4 u3 hu3 H.size) kRX3_32 rfl rfl ⟨by decide, by decide⟩ rfl hl.1 rfl (Nat.le_of_ble_eq_true rfl) dX3_blocks_15) (fun H locs hP hD hS => ?_)
  refine lv_if_eq (tgt := 128) hx hb dX3_blocks_18 (by decide) (fun c4 => ?_) (fun c4 => ?_)
  · replace hf := zif_t hf c4
    refine lv_iconst (v := 0) hx hb dX3_blocks_128 (by decide) ?_
    obtain ⟨h5, hf⟩ := zcb_s hf
    have hu := Option.some.inj hf
    subst hu
    exact z_zret hC h5 hP hD hS dX3_blocks_129
  · replace hf := zif_f hf c4
    refine lv_aload_n hx hb dX3_blocks_21 rfl (lv_at hl 0 rfl) ?_
    refine va_get (D := D) (ci := 3) (v := .ref (h 3)) (C := RX3) (T := TX3) (N := 5) hx hb hts tb_wsX30 hown hK.1 hP 1 rfl rfl 1 (by decide) (hts _ tb_2_17) (fun _ h9 => h9) rfl dX3_blocks_22 ?_
    refine lv_iload_n hx hb dX3_blocks_25 rfl (lv_at hl 1 rfl) ?_
    obtain ⟨h6, hf⟩ := zck_s hf
    refine va_iald hx hb hK.1 hP 3 0 rfl rfl h6 dX3_blocks_26 ?_
    refine lv_aload_n hx hb dX3_blocks_27 rfl (lv_at hl 0 rfl) ?_
    refine va_get (D := D) (ci := 3) (v := .ref (h 5)) (C := RX3) (T := TX3) (N := 5) hx hb hts tb_wsX30 hown hK.1 hP 1 rfl rfl 3 (by decide) (hts _ tb_2_19) (fun _ h9 => h9) rfl dX3_blocks_28 ?_
    refine lv_iload_n hx hb dX3_blocks_31 rfl (lv_at hl 1 rfl) ?_
    obtain ⟨h7, hf⟩ := zck_s hf
    refine va_iald hx hb hK.1 hP 5 0 rfl rfl h7 dX3_blocks_32 ?_
    refine lv_iload_n hx hb dX3_blocks_33 rfl (lv_at hl 3 rfl) ?_
    refine lv_iload hx hb dX3_blocks_34 (lv_at hl 5 rfl) ?_
    obtain ⟨u8, hu8, hf⟩ := zbd hf
    refine zthen_i hA hD hS (zrunS (As := [.int ((tPi.y0 gP) a1.toNatClampNeg), .int ((tPi.y1 gP) a1.toNatClampNeg), .int a3, .int a5]) (rest := []) hC hP hD (c_X3_framesMeet l D cI cJ cZ h  gP gR gQ gT gE gM gS ((tPi.y0 gP) a1.toNatClampNeg) ((tPi.y1 gP) a1.toNatClampNeg) a3 a5 u8 hu8 H.size) kRX3_32 rfl rfl ⟨by decide, by decide⟩ rfl hl.1 rfl (Nat.le_of_ble_eq_true rfl) dX3_blocks_36) (fun H locs hP hD hS => ?_)
    refine lv_if_eq (tgt := 128) hx hb dX3_blocks_39 (by decide) (fun c9 => ?_) (fun c9 => ?_)
    · replace hf := zif_t hf c9
      refine lv_iconst (v := 0) hx hb dX3_blocks_128 (by decide) ?_
      obtain ⟨h10, hf⟩ := zcb_s hf
      have hu := Option.some.inj hf
      subst hu
      exact z_zret hC h10 hP hD hS dX3_blocks_129
    · replace hf := zif_f hf c9
      refine lv_aload_n hx hb dX3_blocks_42 rfl (lv_at hl 0 rfl) ?_
      refine lv_iload_n hx hb dX3_blocks_43 rfl (lv_at hl 1 rfl) ?_
      refine lv_iload_n hx hb dX3_blocks_44 rfl (lv_at hl 2 rfl) ?_
      refine lv_iload_n hx hb dX3_blocks_45 rfl (lv_at hl 3 rfl) ?_
      obtain ⟨u11, hu11, hf⟩ := zbd hf
      refine zthen_i hA hD hS (zrunV (As := [.int a1, .int a2, .int a3]) (rest := []) hC hP hD 1 rfl rfl (c_X3_sideOf l D cI cJ cZ h  gP gR gQ gT gE gM gS a1 a2 a3 u11 hu11 H.size) kRX3_36 rfl rfl ⟨by decide, by decide⟩ rfl hl.1 rfl (Nat.le_of_ble_eq_true rfl) dX3_blocks_46) (fun H locs hP hD hS => ?_)
      refine lv_aload_n hx hb dX3_blocks_49 rfl (lv_at hl 0 rfl) ?_
      refine lv_iload_n hx hb dX3_blocks_50 rfl (lv_at hl 1 rfl) ?_
      refine lv_iload hx hb dX3_blocks_51 (lv_at hl 4 rfl) ?_
      refine lv_iload hx hb dX3_blocks_53 (lv_at hl 5 rfl) ?_
      obtain ⟨u12, hu12, hf⟩ := zbd hf
      refine zthen_i hA hD hS (zrunV (As := [.int a1, .int a4, .int a5]) (rest := [.int u11]) hC hP hD 1 rfl rfl (c_X3_sideOf l D cI cJ cZ h  gP gR gQ gT gE gM gS a1 a4 a5 u12 hu12 H.size) kRX3_36 rfl rfl ⟨by decide, by decide⟩ rfl hl.1 rfl (Nat.le_of_ble_eq_true rfl) dX3_blocks_55) (fun H locs hP hD hS => ?_)
      obtain ⟨u13, hu13, hf⟩ := zbd hf
      refine zthen_i hA hD hS (zrunS (As := [.int u11, .int u12]) (rest := []) hC hP hD (c_X3_sameSide l D cI cJ cZ h  gP gR gQ gT gE gM gS u11 u12 u13 hu13 H.size) kRX3_40 rfl rfl ⟨by decide, by decide⟩ rfl hl.1 rfl (Nat.le_of_ble_eq_true rfl) dX3_blocks_58) (fun H locs hP hD hS => ?_)
      refine lv_if_ne (tgt := 128) hx hb dX3_blocks_61 (by decide) (fun c14 => ?_) (fun c14 => ?_)
      · replace hf := zif_f hf c14
        refine lv_iconst (v := 0) hx hb dX3_blocks_128 (by decide) ?_
        obtain ⟨h15, hf⟩ := zcb_s hf
        have hu := Option.some.inj hf
        subst hu
        exact z_zret hC h15 hP hD hS dX3_blocks_129
      · replace hf := zif_t hf c14
        refine lv_iload hx hb dX3_blocks_64 (lv_at hl 4 rfl) ?_
        refine lv_iload_n hx hb dX3_blocks_66 rfl (lv_at hl 2 rfl) ?_
        refine lv_isub hx hb dX3_blocks_67 ?_
        refine lv_iload hx hb dX3_blocks_68 (lv_at hl 5 rfl) ?_
        refine lv_iload_n hx hb dX3_blocks_70 rfl (lv_at hl 3 rfl) ?_
        refine lv_isub hx hb dX3_blocks_71 ?_
        refine lv_aload_n hx hb dX3_blocks_72 rfl (lv_at hl 0 rfl) ?_
        refine va_get (D := D) (ci := 3) (v := .ref (h 2)) (C := RX3) (T := TX3) (N := 5) hx hb hts tb_wsX30 hown hK.1 hP 1 rfl rfl 0 (by decide) (hts _ tb_2_16) (fun _ h9 => h9) rfl dX3_blocks_73 ?_
        refine lv_iload_n hx hb dX3_blocks_76 rfl (lv_at hl 1 rfl) ?_
        obtain ⟨h16, hf⟩ := zck_s hf
        refine va_iald hx hb hK.1 hP 2 0 rfl rfl h16 dX3_blocks_77 ?_
        refine lv_iload_n hx hb dX3_blocks_78 rfl (lv_at hl 2 rfl) ?_
        refine lv_isub hx hb dX3_blocks_79 ?_
        refine lv_aload_n hx hb dX3_blocks_80 rfl (lv_at hl 0 rfl) ?_
        refine va_get (D := D) (ci := 3) (v := .ref (h 3)) (C := RX3) (T := TX3) (N := 5) hx hb hts tb_wsX30 hown hK.1 hP 1 rfl rfl 1 (by decide) (hts _ tb_2_17) (fun _ h9 => h9) rfl dX3_blocks_81 ?_
        refine lv_iload_n hx hb dX3_blocks_84 rfl (lv_at hl 1 rfl) ?_
        obtain ⟨h17, hf⟩ := zck_s hf
        refine va_iald hx hb hK.1 hP 3 0 rfl rfl h17 dX3_blocks_85 ?_
        refine lv_iload_n hx hb dX3_blocks_86 rfl (lv_at hl 3 rfl) ?_
        refine lv_isub hx hb dX3_blocks_87 ?_
        obtain ⟨u18, hu18, hf⟩ := zbd hf
        refine zthen_i hA hD hS (zrunS (As := [.int (a4 - a2), .int (a5 - a3), .int (((tPi.x0 gP) a1.toNatClampNeg) - a2), .int (((tPi.y0 gP) a1.toNatClampNeg) - a3)]) (rest := []) hC hP hD (c_X3_cross l D cI cJ cZ h  gP gR gQ gT gE gM gS (a4 - a2) (a5 - a3) (((tPi.x0 gP) a1.toNatClampNeg) - a2) (((tPi.y0 gP) a1.toNatClampNeg) - a3) u18 hu18 H.size) kRX3_44 rfl rfl ⟨by decide, by decide⟩ rfl hl.1 rfl (Nat.le_of_ble_eq_true rfl) dX3_blocks_88) (fun H locs hP hD hS => ?_)
        refine lv_iload hx hb dX3_blocks_91 (lv_at hl 4 rfl) ?_
        refine lv_iload_n hx hb dX3_blocks_93 rfl (lv_at hl 2 rfl) ?_
        refine lv_isub hx hb dX3_blocks_94 ?_
        refine lv_iload hx hb dX3_blocks_95 (lv_at hl 5 rfl) ?_
        refine lv_iload_n hx hb dX3_blocks_97 rfl (lv_at hl 3 rfl) ?_
        refine lv_isub hx hb dX3_blocks_98 ?_
        refine lv_aload_n hx hb dX3_blocks_99 rfl (lv_at hl 0 rfl) ?_
        refine va_get (D := D) (ci := 3) (v := .ref (h 4)) (C := RX3) (T := TX3) (N := 5) hx hb hts tb_wsX30 hown hK.1 hP 1 rfl rfl 2 (by decide) (hts _ tb_2_18) (fun _ h9 => h9) rfl dX3_blocks_100 ?_
        refine lv_iload_n hx hb dX3_blocks_103 rfl (lv_at hl 1 rfl) ?_
        obtain ⟨h19, hf⟩ := zck_s hf
        refine va_iald hx hb hK.1 hP 4 0 rfl rfl h19 dX3_blocks_104 ?_
        refine lv_iload_n hx hb dX3_blocks_105 rfl (lv_at hl 2 rfl) ?_
        refine lv_isub hx hb dX3_blocks_106 ?_
        refine lv_aload_n hx hb dX3_blocks_107 rfl (lv_at hl 0 rfl) ?_
        refine va_get (D := D) (ci := 3) (v := .ref (h 5)) (C := RX3) (T := TX3) (N := 5) hx hb hts tb_wsX30 hown hK.1 hP 1 rfl rfl 3 (by decide) (hts _ tb_2_19) (fun _ h9 => h9) rfl dX3_blocks_108 ?_
        refine lv_iload_n hx hb dX3_blocks_111 rfl (lv_at hl 1 rfl) ?_
        obtain ⟨h20, hf⟩ := zck_s hf
        refine va_iald hx hb hK.1 hP 5 0 rfl rfl h20 dX3_blocks_112 ?_
        refine lv_iload_n hx hb dX3_blocks_113 rfl (lv_at hl 3 rfl) ?_
        refine lv_isub hx hb dX3_blocks_114 ?_
        obtain ⟨u21, hu21, hf⟩ := zbd hf
        refine zthen_i hA hD hS (zrunS (As := [.int (a4 - a2), .int (a5 - a3), .int (((tPi.x1 gP) a1.toNatClampNeg) - a2), .int (((tPi.y1 gP) a1.toNatClampNeg) - a3)]) (rest := [.int u18]) hC hP hD (c_X3_cross l D cI cJ cZ h  gP gR gQ gT gE gM gS (a4 - a2) (a5 - a3) (((tPi.x1 gP) a1.toNatClampNeg) - a2) (((tPi.y1 gP) a1.toNatClampNeg) - a3) u21 hu21 H.size) kRX3_44 rfl rfl ⟨by decide, by decide⟩ rfl hl.1 rfl (Nat.le_of_ble_eq_true rfl) dX3_blocks_115) (fun H locs hP hD hS => ?_)
        obtain ⟨u22, hu22, hf⟩ := zbd hf
        refine zthen_i hA hD hS (zrunS (As := [.int u18, .int u21]) (rest := []) hC hP hD (c_X3_sameSide l D cI cJ cZ h  gP gR gQ gT gE gM gS u18 u21 u22 hu22 H.size) kRX3_40 rfl rfl ⟨by decide, by decide⟩ rfl hl.1 rfl (Nat.le_of_ble_eq_true rfl) dX3_blocks_118) (fun H locs hP hD hS => ?_)
        refine lv_if_ne (tgt := 128) hx hb dX3_blocks_121 (by decide) (fun c23 => ?_) (fun c23 => ?_)
        · replace hf := zif_f hf c23
          refine lv_iconst (v := 0) hx hb dX3_blocks_128 (by decide) ?_
          obtain ⟨h24, hf⟩ := zcb_s hf
          have hu := Option.some.inj hf
          subst hu
          exact z_zret hC h24 hP hD hS dX3_blocks_129
        · replace hf := zif_t hf c23
          refine lv_iconst (v := 1) hx hb dX3_blocks_124 (by decide) ?_
          refine lv_goto (tgt := 129) hx hb dX3_blocks_125 (by decide) ?_
          obtain ⟨h25, hf⟩ := zcb_s hf
          have hu := Option.some.inj hf
          subst hu
          exact z_zret hC h25 hP hD hS dX3_blocks_129
set_option maxHeartbeats 4000000 in
set_option maxRecDepth 100000 in
theorem t_X7_sees_b22 {p : Program} {l : Launch} {e : Env} {s : State} {m : MethodId} {args : Array Value} {below : List Frame} {meth : Method} {c : Code} {A : Nat → Prop} {D : va_G} {cI cJ cZ : ClassId} {h : Nat → Nat} (hC : zCx p s m args meth c A D (zty cI cJ cZ) cX7_sees RX7 6 (some .int)) (N : Nat) (gP : tPi) (gR : tPa) (gQ : tPa) (gT : tTr) (gE : tTe) (gM : tMe) (gS : tSq) (u : Int32) : ∀ (n : Nat) (v1 : Int32) (v2 : Int32) (v3 : Int32) (v4 : Int32) (v5 : Int32) (H : Heap) (locs : List Loc) (ls : Array Slot), va_P D vwCl (zWC cI cJ cZ h gP gR gQ gT gE gM gS) H → va_D A (zWC cI cJ cZ h gP gR gQ gT gE gM gS) → va_S A s.heap H locs → lv_has ls 6 [(0, .ref (h 0)), (1, .int v1), (2, .int v2), (3, .int v3), (4, .int v4), (5, .int v5)] → X7_sees_b22 N gP n v1 v2 v3 v4 v5 = some u → W p l e ({ frames := 3, cells := 0, slots := 0, locals := 69 } : Room) s m args below meth c H locs 0 0 (MQ below (zQi D A (zWC cI cJ cZ h gP gR gQ gT gE gM gS) (u)) args s 0 0 A) (F0 m 22 ls []) := by
  intro n
  induction n with
  | zero =>
    intro v1 v2 v3 v4 v5 H locs ls hP hD hS hl hf
    cases hf
  | succ n ih =>
    intro v1 v2 v3 v4 v5 H locs ls hP hD hS hl hf
    obtain ⟨hx, hb, hml, hown, hts, hK, hr, hlocks, hA⟩ := id hC
    rw [X7_sees_b22] at hf
    refine lv_iload hx hb dX7_sees_22 (lv_at hl 5 rfl) ?_
    refine lv_aload_n hx hb dX7_sees_24 rfl (lv_at hl 0 rfl) ?_
    refine va_get (D := D) (ci := 7) (v := .ref (h 1)) (C := RX7) (T := TX7) (N := 5) hx hb hts tb_wsX70 hown hK.1 hP 0 rfl rfl 0 (by decide) (hts _ tb_1_16) (fun _ h9 => h9) rfl dX7_sees_25 ?_
    refine va_get (D := D) (ci := 3) (v := .int (tPi.size gP)) (C := RX3) (T := TX3) (N := 5) hx hb hts tb_wsX30 hown hK.1 hP 1 rfl rfl 4 (by decide) (hts _ tb_7_0) (fun _ h9 => h9) rfl dX7_sees_28 ?_
    refine lv_icmp_ge (tgt := 59) hx hb dX7_sees_31 (by decide) (fun c1 => ?_) (fun c1 => ?_)
    · replace hf := zif_t hf c1
      refine lv_iconst (v := 1) hx hb dX7_sees_59 (by decide) ?_
      have hu := Option.some.inj hf
      subst hu
      exact z_iret hC hP hD hS dX7_sees_60
    · replace hf := zif_f hf c1
      refine lv_aload_n hx hb dX7_sees_34 rfl (lv_at hl 0 rfl) ?_
      refine va_get (D := D) (ci := 7) (v := .ref (h 1)) (C := RX7) (T := TX7) (N := 5) hx hb hts tb_wsX70 hown hK.1 hP 0 rfl rfl 0 (by decide) (hts _ tb_1_16) (fun _ h9 => h9) rfl dX7_sees_35 ?_
      refine lv_iload hx hb dX7_sees_38 (lv_at hl 5 rfl) ?_
      refine lv_iload_n hx hb dX7_sees_40 rfl (lv_at hl 1 rfl) ?_
      refine lv_iload_n hx hb dX7_sees_41 rfl (lv_at hl 2 rfl) ?_
      refine lv_iload_n hx hb dX7_sees_42 rfl (lv_at hl 3 rfl) ?_
      refine lv_iload hx hb dX7_sees_43 (lv_at hl 4 rfl) ?_
      obtain ⟨u2, hu2, hf⟩ := zbd hf
      refine zthen_i hA hD hS (zrunV (As := [.int v5, .int v1, .int v2, .int v3, .int v4]) (rest := []) hC hP hD 1 rfl rfl (c_X3_blocks l D cI cJ cZ h  gP gR gQ gT gE gM gS v5 v1 v2 v3 v4 u2 hu2 H.size) kRX7_176 rfl rfl ⟨by decide, by decide⟩ rfl hl.1 rfl (Nat.le_of_ble_eq_true rfl) dX7_sees_45) (fun H locs hP hD hS => ?_)
      refine lv_if_eq (tgt := 53) hx hb dX7_sees_48 (by decide) (fun c3 => ?_) (fun c3 => ?_)
      · replace hf := zif_t hf c3
        refine lv_iinc (v := (v5 + (1 : Int32))) (lv' := [(5, .int (v5 + (1 : Int32))), (0, .ref (h 0)), (1, .int v1), (2, .int v2), (3, .int v3), (4, .int v4)]) hx hb dX7_sees_53 hl (k := 5) rfl rfl (by decide) rfl (fun ls hl => ?_)
        refine lv_goto (tgt := 22) hx hb dX7_sees_56 (by decide) ?_
        exact ih v1 v2 v3 v4 (v5 + (1 : Int32)) H locs ls hP hD hS (lv_sub hl [1, 2, 3, 4, 5, 0] rfl) hf
      · replace hf := zif_f hf c3
        refine lv_iconst (v := 0) hx hb dX7_sees_51 (by decide) ?_
        have hu := Option.some.inj hf
        subst hu
        exact z_iret hC hP hD hS dX7_sees_52
set_option maxHeartbeats 4000000 in
set_option maxRecDepth 100000 in
theorem c_X7_sees (l : Launch) (D : va_G) (cI cJ cZ : ClassId) (h : Nat → Nat) (N : Nat) (gP : tPi) (gR : tPa) (gQ : tPa) (gT : tTr) (gE : tTe) (gM : tMe) (gS : tSq) (a1 : Int32) (a2 : Int32) (a3 : Int32) (a4 : Int32) (u : Int32) (hf : X7_sees N gP a1 a2 a3 a4 = some u) (sz : Nat) : Met l yX7_sees (Cond.code yX7_sees cX7_sees 6 (some .int) :: tb_L) ({ frames := 3, cells := 0, slots := 0, locals := 69 } : Room) (zPre D (zty cI cJ cZ) (zWC cI cJ cZ h gP gR gQ gT gE gM gS) sz [.ref (h 0), .int a1, .int a2, .int a3, .int a4]) (zQi D (va_A (zWC cI cJ cZ h gP gR gQ gT gE gM gS) sz) (zWC cI cJ cZ h gP gR gQ gT gE gM gS) (u)) 0 0 (va_A (zWC cI cJ cZ h gP gR gQ gT gE gM gS) sz) := by
  refine zMet (Qc := fun A => zQi D A (zWC cI cJ cZ h gP gR gQ gT gE gM gS) (u)) (by decide) rfl (Nat.le_of_ble_eq_true rfl) ?_
  intro p e s m args below meth c A ls hC _ hP hD hS hl
  replace hl : lv_has ls 6 [(0, .ref (h 0)), (1, .int a1), (2, .int a2), (3, .int a3), (4, .int a4)] := hl
  obtain ⟨hx, hb, hml, hown, hts, hK, hr, hlocks, hA⟩ := id hC
  unfold X7_sees at hf
  obtain ⟨H, hH⟩ : ∃ H, H = s.heap := ⟨_, rfl⟩
  rw [← hH] at hP
  replace hS : va_S A s.heap H [] := by rw [hH]; exact hS
  show W p l e _ s m args below meth c s.heap [] 0 0 _ _
  rw [← hH]
  clear hH
  obtain ⟨locs, hlo⟩ : ∃ x : List Loc, x = [] := ⟨_, rfl⟩
  rw [← hlo] at hS ⊢
  clear hlo
  refine lv_iload_n hx hb dX7_sees_0 rfl (lv_at hl 1 rfl) ?_
  refine lv_iload_n hx hb dX7_sees_1 rfl (lv_at hl 2 rfl) ?_
  obtain ⟨u4, hu4, hf⟩ := zbd hf
  refine zthen_i hA hD hS (zrunS (As := [.int a1, .int a2]) (rest := []) hC hP hD (c_X7_isBeyond l D cI cJ cZ h  gP gR gQ gT gE gM gS a1 a2 u4 hu4 H.size) kRX7_57 rfl rfl ⟨by decide, by decide⟩ rfl hl.1 rfl (Nat.le_of_ble_eq_true rfl) dX7_sees_2) (fun H locs hP hD hS => ?_)
  refine lv_if_ne (tgt := 17) hx hb dX7_sees_5 (by decide) (fun c5 => ?_) (fun c5 => ?_)
  · replace hf := zif_f hf c5
    refine lv_iconst (v := -1) hx hb dX7_sees_17 (by decide) ?_
    have hu := Option.some.inj hf
    subst hu
    exact z_iret hC hP hD hS dX7_sees_18
  · replace hf := zif_t hf c5
    refine lv_iload_n hx hb dX7_sees_8 rfl (lv_at hl 3 rfl) ?_
    refine lv_iload hx hb dX7_sees_9 (lv_at hl 4 rfl) ?_
    obtain ⟨u6, hu6, hf⟩ := zbd hf
    refine zthen_i hA hD hS (zrunS (As := [.int a3, .int a4]) (rest := []) hC hP hD (c_X7_isBeyond l D cI cJ cZ h  gP gR gQ gT gE gM gS a3 a4 u6 hu6 H.size) kRX7_57 rfl rfl ⟨by decide, by decide⟩ rfl hl.1 rfl (Nat.le_of_ble_eq_true rfl) dX7_sees_11) (fun H locs hP hD hS => ?_)
    refine lv_if_eq (tgt := 19) hx hb dX7_sees_14 (by decide) (fun c7 => ?_) (fun c7 => ?_)
    · replace hf := zif_t hf c7
      refine lv_iconst (v := 0) hx hb dX7_sees_19 (by decide) ?_
      refine lv_istore (lv' := [(5, .int (0 : Int32)), (0, .ref (h 0)), (1, .int a1), (2, .int a2), (3, .int a3), (4, .int a4)]) hx hb dX7_sees_20 hl (by decide) rfl (fun ls hl => ?_)
      exact t_X7_sees_b22 hC N gP gR gQ gT gE gM gS u N a1 a2 a3 a4 (0 : Int32) H locs ls hP hD hS (lv_sub hl [1, 2, 3, 4, 5, 0] rfl) hf
    · replace hf := zif_f hf c7
      refine lv_iconst (v := -1) hx hb dX7_sees_17 (by decide) ?_
      have hu := Option.some.inj hf
      subst hu
      exact z_iret hC hP hD hS dX7_sees_18
set_option maxHeartbeats 4000000 in
set_option maxRecDepth 100000 in
theorem c_X1_isLater (l : Launch) (D : va_G) (cI cJ cZ : ClassId) (h : Nat → Nat) (gP : tPi) (gR : tPa) (gQ : tPa) (gT : tTr) (gE : tTe) (gM : tMe) (gS : tSq) (a1 : Int32) (a2 : Int32) (a3 : Int32) (u : Int32) (hf : X1_isLater gM a1 a2 a3 = some u) (sz : Nat) : Met l yX1_isLater (Cond.code yX1_isLater cX1_isLater 4 (some .boolean) :: tb_L) ({ frames := 0, cells := 0, slots := 0, locals := 0 } : Room) (zPre D (zty cI cJ cZ) (zWC cI cJ cZ h gP gR gQ gT gE gM gS) sz [.ref (h 29), .int a1, .int a2, .int a3]) (zQi D (va_A (zWC cI cJ cZ h gP gR gQ gT gE gM gS) sz) (zWC cI cJ cZ h gP gR gQ gT gE gM gS) (u)) 0 0 (va_A (zWC cI cJ cZ h gP gR gQ gT gE gM gS) sz) := by
  refine zMet (Qc := fun A => zQi D A (zWC cI cJ cZ h gP gR gQ gT gE gM gS) (u)) (by decide) rfl (Nat.le_of_ble_eq_true rfl) ?_
  intro p e s m args below meth c A ls hC _ hP hD hS hl
  replace hl : lv_has ls 4 [(0, .ref (h 29)), (1, .int a1), (2, .int a2), (3, .int a3)] := hl
  obtain ⟨hx, hb, hml, hown, hts, hK, hr, hlocks, hA⟩ := id hC
  unfold X1_isLater at hf
  obtain ⟨H, hH⟩ : ∃ H, H = s.heap := ⟨_, rfl⟩
  rw [← hH] at hP
  replace hS : va_S A s.heap H [] := by rw [hH]; exact hS
  show W p l e _ s m args below meth c s.heap [] 0 0 _ _
  rw [← hH]
  clear hH
  obtain ⟨locs, hlo⟩ : ∃ x : List Loc, x = [] := ⟨_, rfl⟩
  rw [← hlo] at hS ⊢
  clear hlo
  refine lv_aload_n hx hb dX1_isLater_0 rfl (lv_at hl 0 rfl) ?_
  refine va_get (D := D) (ci := 1) (v := .ref (h 31)) (C := RX1) (T := TX1) (N := 5) hx hb hts tb_wsX10 hown hK.1 hP 29 rfl rfl 1 (by decide) (hts _ tb_4_16) (fun _ h9 => h9) rfl dX1_isLater_1 ?_
  refine lv_iload_n hx hb dX1_isLater_4 rfl (lv_at hl 1 rfl) ?_
  obtain ⟨h1, hf⟩ := zck_s hf
  refine va_iald hx hb hK.1 hP 31 0 rfl rfl h1 dX1_isLater_5 ?_
  refine lv_i2l (v := (((tMe.n gM) a1.toNatClampNeg)).toInt64) hx hb dX1_isLater_6 rfl ?_
  refine lv_iload_n hx hb dX1_isLater_7 rfl (lv_at hl 3 rfl) ?_
  refine lv_i2l (v := a3.toInt64) hx hb dX1_isLater_8 rfl ?_
  refine lv_lmul hx hb dX1_isLater_9 ?_
  refine lv_iload_n hx hb dX1_isLater_10 rfl (lv_at hl 2 rfl) ?_
  refine lv_i2l (v := a2.toInt64) hx hb dX1_isLater_11 rfl ?_
  refine lv_aload_n hx hb dX1_isLater_12 rfl (lv_at hl 0 rfl) ?_
  refine va_get (D := D) (ci := 1) (v := .ref (h 32)) (C := RX1) (T := TX1) (N := 5) hx hb hts tb_wsX10 hown hK.1 hP 29 rfl rfl 2 (by decide) (hts _ tb_4_17) (fun _ h9 => h9) rfl dX1_isLater_13 ?_
  refine lv_iload_n hx hb dX1_isLater_16 rfl (lv_at hl 1 rfl) ?_
  obtain ⟨h2, hf⟩ := zck_s hf
  refine va_iald hx hb hK.1 hP 32 0 rfl rfl h2 dX1_isLater_17 ?_
  refine lv_i2l (v := (((tMe.d gM) a1.toNatClampNeg)).toInt64) hx hb dX1_isLater_18 rfl ?_
  refine lv_lmul hx hb dX1_isLater_19 ?_
  refine W.lcmp hx hb dX1_isLater_20 ?_
  refine lv_if_le (tgt := 28) hx hb dX1_isLater_21 (by decide) (fun c3 => ?_) (fun c3 => ?_)
  · replace hf := zif_t hf c3
    refine lv_iconst (v := 0) hx hb dX1_isLater_28 (by decide) ?_
    obtain ⟨h4, hf⟩ := zcb_s hf
    have hu := Option.some.inj hf
    subst hu
    exact z_zret hC h4 hP hD hS dX1_isLater_29
  · replace hf := zif_f hf c3
    refine lv_iconst (v := 1) hx hb dX1_isLater_24 (by decide) ?_
    refine lv_goto (tgt := 29) hx hb dX1_isLater_25 (by decide) ?_
    obtain ⟨h5, hf⟩ := zcb_s hf
    have hu := Option.some.inj hf
    subst hu
    exact z_zret hC h5 hP hD hS dX1_isLater_29
set_option maxHeartbeats 4000000 in
set_option maxRecDepth 100000 in
theorem t_X7_commonDivisor_b51 {p : Program} {l : Launch} {e : Env} {s : State} {m : MethodId} {args : Array Value} {below : List Frame} {meth : Method} {c : Code} {A : Nat → Prop} {D : va_G} {cI cJ cZ : ClassId} {h : Nat → Nat} (hC : zCx p s m args meth c A D (zty cI cJ cZ) cX7_commonDivisor RX7 11 (some .long)) (N : Nat) (gP : tPi) (gR : tPa) (gQ : tPa) (gT : tTr) (gE : tTe) (gM : tMe) (gS : tSq) (u : Int64) : ∀ (v4 : Int64) (H : Heap) (locs : List Loc) (ls : Array Slot), va_P D vwCl (zWC cI cJ cZ h gP gR gQ gT gE gM gS) H → va_D A (zWC cI cJ cZ h gP gR gQ gT gE gM gS) → va_S A s.heap H locs → lv_has ls 11 [(4, .long v4)] → X7_commonDivisor_b51 N v4 = some u → W p l e ({ frames := 1, cells := 0, slots := 0, locals := 21 } : Room) s m args below meth c H locs 0 0 (MQ below (zQl D A (zWC cI cJ cZ h gP gR gQ gT gE gM gS) (u)) args s 0 0 A) (F0 m 51 ls []) := by
  intro v4 H locs ls hP hD hS hl hf
  obtain ⟨hx, hb, hml, hown, hts, hK, hr, hlocks, hA⟩ := id hC
  unfold X7_commonDivisor_b51 at hf
  refine lv_lload hx hb dX7_commonDivisor_51 (lv_at hl 0 rfl) ?_
  have hu := Option.some.inj hf
  subst hu
  exact z_lret hC hP hD hS dX7_commonDivisor_53
set_option maxHeartbeats 4000000 in
set_option maxRecDepth 100000 in
theorem t_X7_commonDivisor_b15 {p : Program} {l : Launch} {e : Env} {s : State} {m : MethodId} {args : Array Value} {below : List Frame} {meth : Method} {c : Code} {A : Nat → Prop} {D : va_G} {cI cJ cZ : ClassId} {h : Nat → Nat} (hC : zCx p s m args meth c A D (zty cI cJ cZ) cX7_commonDivisor RX7 11 (some .long)) (N : Nat) (gP : tPi) (gR : tPa) (gQ : tPa) (gT : tTr) (gE : tTe) (gM : tMe) (gS : tSq) (u : Int64) : ∀ (n : Nat) (v4 : Int64) (v6 : Int64) (v8 : Int32) (H : Heap) (locs : List Loc) (ls : Array Slot), va_P D vwCl (zWC cI cJ cZ h gP gR gQ gT gE gM gS) H → va_D A (zWC cI cJ cZ h gP gR gQ gT gE gM gS) → va_S A s.heap H locs → lv_has ls 11 [(4, .long v4), (6, .long v6), (8, .int v8)] → X7_commonDivisor_b15 N n v4 v6 v8 = some u → W p l e ({ frames := 1, cells := 0, slots := 0, locals := 21 } : Room) s m args below meth c H locs 0 0 (MQ below (zQl D A (zWC cI cJ cZ h gP gR gQ gT gE gM gS) (u)) args s 0 0 A) (F0 m 15 ls []) := by
  intro n
  induction n with
  | zero =>
    intro v4 v6 v8 H locs ls hP hD hS hl hf
    cases hf
  | succ n ih =>
    intro v4 v6 v8 H locs ls hP hD hS hl hf
    obtain ⟨hx, hb, hml, hown, hts, hK, hr, hlocks, hA⟩ := id hC
    rw [X7_commonDivisor_b15] at hf
    refine lv_iload hx hb dX7_commonDivisor_15 (lv_at hl 2 rfl) ?_
    refine lv_sipush (v := 128) hx hb dX7_commonDivisor_17 (by decide) ?_
    refine lv_icmp_ge (tgt := 51) hx hb dX7_commonDivisor_20 (by decide) (fun c1 => ?_) (fun c1 => ?_)
    · replace hf := zif_t hf c1
      exact t_X7_commonDivisor_b51 hC N gP gR gQ gT gE gM gS u v4 H locs ls hP hD hS (lv_sub hl [0] rfl) hf
    · replace hf := zif_f hf c1
      refine lv_lload hx hb dX7_commonDivisor_23 (lv_at hl 1 rfl) ?_
      refine lv_lconst (v := 0) hx hb dX7_commonDivisor_25 (by decide) ?_
      refine W.lcmp hx hb dX7_commonDivisor_26 ?_
      refine lv_if_eq (tgt := 51) hx hb dX7_commonDivisor_27 (by decide) (fun c2 => ?_) (fun c2 => ?_)
      · replace hf := zif_t hf c2
        exact t_X7_commonDivisor_b51 hC N gP gR gQ gT gE gM gS u v4 H locs ls hP hD hS (lv_sub hl [0] rfl) hf
      · replace hf := zif_f hf c2
        refine lv_lload hx hb dX7_commonDivisor_30 (lv_at hl 0 rfl) ?_
        refine lv_lload hx hb dX7_commonDivisor_32 (lv_at hl 1 rfl) ?_
        obtain ⟨h3, hf⟩ := zczl_s hf
        refine lv_lrem hx hb dX7_commonDivisor_34 h3 ?_
        refine lv_topl (fun x4 ex4 => ?_)
        replace hf := zl_n ex4 hf
        refine lv_lstore (lv' := [(9, .long x4), (4, .long v4), (6, .long v6), (8, .int v8)]) hx hb dX7_commonDivisor_35 hl (by decide) rfl (fun ls hl => ?_)
        refine lv_lload hx hb dX7_commonDivisor_37 (lv_at hl 2 rfl) ?_
        refine lv_lstore (lv' := [(4, .long v6), (9, .long x4), (6, .long v6), (8, .int v8)]) hx hb dX7_commonDivisor_39 hl (by decide) rfl (fun ls hl => ?_)
        refine lv_lload hx hb dX7_commonDivisor_41 (lv_at hl 1 rfl) ?_
        refine lv_lstore (lv' := [(6, .long x4), (4, .long v6), (9, .long x4), (8, .int v8)]) hx hb dX7_commonDivisor_43 hl (by decide) rfl (fun ls hl => ?_)
        refine lv_iinc (v := (v8 + (1 : Int32))) (lv' := [(8, .int (v8 + (1 : Int32))), (6, .long x4), (4, .long v6), (9, .long x4)]) hx hb dX7_commonDivisor_45 hl (k := 3) rfl rfl (by decide) rfl (fun ls hl => ?_)
        refine lv_goto (tgt := 15) hx hb dX7_commonDivisor_48 (by decide) ?_
        exact ih v6 x4 (v8 + (1 : Int32)) H locs ls hP hD hS (lv_sub hl [2, 1, 0] rfl) hf
set_option maxHeartbeats 4000000 in
set_option maxRecDepth 100000 in
theorem c_X7_commonDivisor (l : Launch) (D : va_G) (cI cJ cZ : ClassId) (h : Nat → Nat) (N : Nat) (gP : tPi) (gR : tPa) (gQ : tPa) (gT : tTr) (gE : tTe) (gM : tMe) (gS : tSq) (a0 : Int64) (a2 : Int64) (u : Int64) (hf : X7_commonDivisor N a0 a2 = some u) (sz : Nat) : Met l yX7_commonDivisor (Cond.code yX7_commonDivisor cX7_commonDivisor 11 (some .long) :: tb_L) ({ frames := 1, cells := 0, slots := 0, locals := 21 } : Room) (zPre D (zty cI cJ cZ) (zWC cI cJ cZ h gP gR gQ gT gE gM gS) sz [.long a0, .long a2]) (zQl D (va_A (zWC cI cJ cZ h gP gR gQ gT gE gM gS) sz) (zWC cI cJ cZ h gP gR gQ gT gE gM gS) (u)) 0 0 (va_A (zWC cI cJ cZ h gP gR gQ gT gE gM gS) sz) := by
  refine zMet (Qc := fun A => zQl D A (zWC cI cJ cZ h gP gR gQ gT gE gM gS) (u)) (by decide) rfl (Nat.le_of_ble_eq_true rfl) ?_
  intro p e s m args below meth c A ls hC _ hP hD hS hl
  replace hl : lv_has ls 11 [(0, .long a0), (2, .long a2)] := hl
  obtain ⟨hx, hb, hml, hown, hts, hK, hr, hlocks, hA⟩ := id hC
  unfold X7_commonDivisor at hf
  obtain ⟨H, hH⟩ : ∃ H, H = s.heap := ⟨_, rfl⟩
  rw [← hH] at hP
  replace hS : va_S A s.heap H [] := by rw [hH]; exact hS
  show W p l e _ s m args below meth c s.heap [] 0 0 _ _
  rw [← hH]
  clear hH
  obtain ⟨locs, hlo⟩ : ∃ x : List Loc, x = [] := ⟨_, rfl⟩
  rw [← hlo] at hS ⊢
  clear hlo
  refine lv_lload_n hx hb dX7_commonDivisor_0 rfl (lv_at hl 0 rfl) ?_
  refine va_mabs_long hx hb (hml.trans hl.1.symm) hown (hts _ tb_18_20) (hts _ tb_18_21) (hts _ tb_11_23) (hts _ tb_18_22) (by decide) (Nat.le_of_ble_eq_true rfl) (Nat.zero_le _) (Nat.zero_le _) dX7_commonDivisor_1 ?_
  refine lv_topl (fun x5 ex5 => ?_)
  replace hf := zl_n ex5 hf
  refine lv_lstore (lv' := [(4, .long x5), (0, .long a0), (2, .long a2)]) hx hb dX7_commonDivisor_4 hl (by decide) rfl (fun ls hl => ?_)
  refine lv_lload_n hx hb dX7_commonDivisor_6 rfl (lv_at hl 2 rfl) ?_
  refine va_mabs_long hx hb (hml.trans hl.1.symm) hown (hts _ tb_18_20) (hts _ tb_18_21) (hts _ tb_11_23) (hts _ tb_18_22) (by decide) (Nat.le_of_ble_eq_true rfl) (Nat.zero_le _) (Nat.zero_le _) dX7_commonDivisor_7 ?_
  refine lv_topl (fun x6 ex6 => ?_)
  replace hf := zl_n ex6 hf
  refine lv_lstore (lv' := [(6, .long x6), (4, .long x5), (0, .long a0), (2, .long a2)]) hx hb dX7_commonDivisor_10 hl (by decide) rfl (fun ls hl => ?_)
  refine lv_iconst (v := 0) hx hb dX7_commonDivisor_12 (by decide) ?_
  refine lv_istore (lv' := [(8, .int (0 : Int32)), (6, .long x6), (4, .long x5), (0, .long a0), (2, .long a2)]) hx hb dX7_commonDivisor_13 hl (by decide) rfl (fun ls hl => ?_)
  exact t_X7_commonDivisor_b15 hC N gP gR gQ gT gE gM gS u N x5 x6 (0 : Int32) H locs ls hP hD hS (lv_sub hl [2, 1, 0] rfl) hf
set_option maxHeartbeats 4000000 in
set_option maxRecDepth 100000 in
theorem t_X1_insert_b106 {p : Program} {l : Launch} {e : Env} {s : State} {m : MethodId} {args : Array Value} {below : List Frame} {meth : Method} {c : Code} {A : Nat → Prop} {D : va_G} {cI cJ cZ : ClassId} {h : Nat → Nat} (hC : zCx p s m args meth c A D (zty cI cJ cZ) cX1_insert RX1 6 none) (N : Nat) (gP : tPi) (gR : tPa) (gQ : tPa) (gT : tTr) (gE : tTe) (gS : tSq) (u : tMe) : ∀ (gM : tMe) (v1 : Int32) (v2 : Int32) (v3 : Int32) (v4 : Int32) (v5 : Int32) (H : Heap) (locs : List Loc) (ls : Array Slot), va_P D vwCl (zWC cI cJ cZ h gP gR gQ gT gE gM gS) H → va_D A (zWC cI cJ cZ h gP gR gQ gT gE gM gS) → va_S A s.heap H locs → lv_has ls 6 [(0, .ref (h 29)), (1, .int v1), (2, .int v2), (3, .int v3), (4, .int v4), (5, .int v5)] → X1_insert_b106 N gM v1 v2 v3 v4 v5 = some u → W p l e ({ frames := 2, cells := 0, slots := 0, locals := 51 } : Room) s m args below meth c H locs 0 0 (MQ below (zQv D A (zWC cI cJ cZ h gP gR gQ gT gE u gS)) args s 0 0 A) (F0 m 106 ls []) := by
  intro gM v1 v2 v3 v4 v5 H locs ls hP hD hS hl hf
  obtain ⟨hx, hb, hml, hown, hts, hK, hr, hlocks, hA⟩ := id hC
  unfold X1_insert_b106 at hf
  refine lv_aload_n hx hb dX1_insert_106 rfl (lv_at hl 0 rfl) ?_
  refine va_get (D := D) (ci := 1) (v := .ref (h 30)) (C := RX1) (T := TX1) (N := 5) hx hb hts tb_wsX10 hown hK.1 hP 29 rfl rfl 0 (by decide) (hts _ tb_4_15) (fun _ h9 => h9) rfl dX1_insert_107 ?_
  refine lv_iload hx hb dX1_insert_110 (lv_at hl 4 rfl) ?_
  refine lv_iload_n hx hb dX1_insert_112 rfl (lv_at hl 1 rfl) ?_
  obtain ⟨h1, hf⟩ := zck_s hf
  refine va_iast hx hb hK.1 hP hD hS 30 0 rfl rfl h1 dX1_insert_113 (fun H locs hP hD hS => ?_)
  replace hP : va_P D vwCl (zWC cI cJ cZ h gP gR gQ gT gE (tMe.s_which gM (upd (tMe.which gM) v4.toNatClampNeg v1)) gS) H := hP
  replace hD : va_D A (zWC cI cJ cZ h gP gR gQ gT gE (tMe.s_which gM (upd (tMe.which gM) v4.toNatClampNeg v1)) gS) := hD
  refine lv_aload_n hx hb dX1_insert_114 rfl (lv_at hl 0 rfl) ?_
  refine va_get (D := D) (ci := 1) (v := .ref (h 31)) (C := RX1) (T := TX1) (N := 5) hx hb hts tb_wsX10 hown hK.1 hP 29 rfl rfl 1 (by decide) (hts _ tb_4_16) (fun _ h9 => h9) rfl dX1_insert_115 ?_
  refine lv_iload hx hb dX1_insert_118 (lv_at hl 4 rfl) ?_
  refine lv_iload_n hx hb dX1_insert_120 rfl (lv_at hl 2 rfl) ?_
  refine lv_iload hx hb dX1_insert_121 (lv_at hl 5 rfl) ?_
  obtain ⟨h2, hf⟩ := zcz_s hf
  refine lv_idiv hx hb dX1_insert_123 h2 ?_
  obtain ⟨h3, hf⟩ := zck_s hf
  refine va_iast hx hb hK.1 hP hD hS 31 0 rfl rfl h3 dX1_insert_124 (fun H locs hP hD hS => ?_)
  replace hP : va_P D vwCl (zWC cI cJ cZ h gP gR gQ gT gE (tMe.s_n (tMe.s_which gM (upd (tMe.which gM) v4.toNatClampNeg v1)) (upd (tMe.n gM) v4.toNatClampNeg (v2 / v5))) gS) H := hP
  replace hD : va_D A (zWC cI cJ cZ h gP gR gQ gT gE (tMe.s_n (tMe.s_which gM (upd (tMe.which gM) v4.toNatClampNeg v1)) (upd (tMe.n gM) v4.toNatClampNeg (v2 / v5))) gS) := hD
  refine lv_aload_n hx hb dX1_insert_125 rfl (lv_at hl 0 rfl) ?_
  refine va_get (D := D) (ci := 1) (v := .ref (h 32)) (C := RX1) (T := TX1) (N := 5) hx hb hts tb_wsX10 hown hK.1 hP 29 rfl rfl 2 (by decide) (hts _ tb_4_17) (fun _ h9 => h9) rfl dX1_insert_126 ?_
  refine lv_iload hx hb dX1_insert_129 (lv_at hl 4 rfl) ?_
  refine lv_iload_n hx hb dX1_insert_131 rfl (lv_at hl 3 rfl) ?_
  refine lv_iload hx hb dX1_insert_132 (lv_at hl 5 rfl) ?_
  obtain ⟨h4, hf⟩ := zcz_s hf
  refine lv_idiv hx hb dX1_insert_134 h4 ?_
  obtain ⟨h5, hf⟩ := zck_s hf
  refine va_iast hx hb hK.1 hP hD hS 32 0 rfl rfl h5 dX1_insert_135 (fun H locs hP hD hS => ?_)
  replace hP : va_P D vwCl (zWC cI cJ cZ h gP gR gQ gT gE (tMe.s_d (tMe.s_n (tMe.s_which gM (upd (tMe.which gM) v4.toNatClampNeg v1)) (upd (tMe.n gM) v4.toNatClampNeg (v2 / v5))) (upd (tMe.d gM) v4.toNatClampNeg (v3 / v5))) gS) H := hP
  replace hD : va_D A (zWC cI cJ cZ h gP gR gQ gT gE (tMe.s_d (tMe.s_n (tMe.s_which gM (upd (tMe.which gM) v4.toNatClampNeg v1)) (upd (tMe.n gM) v4.toNatClampNeg (v2 / v5))) (upd (tMe.d gM) v4.toNatClampNeg (v3 / v5))) gS) := hD
  refine lv_aload_n hx hb dX1_insert_136 rfl (lv_at hl 0 rfl) ?_
  refine lv_dup hx hb dX1_insert_137 rfl ?_
  refine va_get (D := D) (ci := 1) (v := .int (tMe.size gM)) (C := RX1) (T := TX1) (N := 5) hx hb hts tb_wsX10 hown hK.1 hP 29 rfl rfl 3 (by decide) (hts _ tb_23_13) (fun _ h9 => h9) rfl dX1_insert_138 ?_
  refine lv_iconst (v := 1) hx hb dX1_insert_141 (by decide) ?_
  refine lv_iadd hx hb dX1_insert_142 ?_
  refine va_put (D := D) (ci := 1) (v := .int ((tMe.size gM) + (1 : Int32))) (ty := .int) (C := RX1) (T := TX1) (N := 5) hx hb hts tb_wsX10 tyX1 tyX1_ok nmX1 hown hK.1 hP hD hS 29 rfl rfl 3 (by decide) (hts _ tb_23_13) (fun _ h9 => h9) rfl (by decide +kernel) rfl rfl (Nat.le_of_ble_eq_true rfl) dX1_insert_143 (fun H locs hP hD hS => ?_)
  replace hP : va_P D vwCl (zWC cI cJ cZ h gP gR gQ gT gE (tMe.s_size (tMe.s_d (tMe.s_n (tMe.s_which gM (upd (tMe.which gM) v4.toNatClampNeg v1)) (upd (tMe.n gM) v4.toNatClampNeg (v2 / v5))) (upd (tMe.d gM) v4.toNatClampNeg (v3 / v5))) ((tMe.size gM) + (1 : Int32))) gS) H := hP
  replace hD : va_D A (zWC cI cJ cZ h gP gR gQ gT gE (tMe.s_size (tMe.s_d (tMe.s_n (tMe.s_which gM (upd (tMe.which gM) v4.toNatClampNeg v1)) (upd (tMe.n gM) v4.toNatClampNeg (v2 / v5))) (upd (tMe.d gM) v4.toNatClampNeg (v3 / v5))) ((tMe.size gM) + (1 : Int32))) gS) := hD
  have hu := Option.some.inj hf
  subst hu
  exact z_vret hC hP hD hS dX1_insert_146
set_option maxHeartbeats 4000000 in
set_option maxRecDepth 100000 in
theorem t_X1_insert_b88 {p : Program} {l : Launch} {e : Env} {s : State} {m : MethodId} {args : Array Value} {below : List Frame} {meth : Method} {c : Code} {A : Nat → Prop} {D : va_G} {cI cJ cZ : ClassId} {h : Nat → Nat} (hC : zCx p s m args meth c A D (zty cI cJ cZ) cX1_insert RX1 6 none) (N : Nat) (gP : tPi) (gR : tPa) (gQ : tPa) (gT : tTr) (gE : tTe) (gS : tSq) (u : tMe) : ∀ (gM : tMe) (v1 : Int32) (v2 : Int32) (v3 : Int32) (v4 : Int32) (H : Heap) (locs : List Loc) (ls : Array Slot), va_P D vwCl (zWC cI cJ cZ h gP gR gQ gT gE gM gS) H → va_D A (zWC cI cJ cZ h gP gR gQ gT gE gM gS) → va_S A s.heap H locs → lv_has ls 6 [(0, .ref (h 29)), (1, .int v1), (2, .int v2), (3, .int v3), (4, .int v4)] → X1_insert_b88 N gM v1 v2 v3 v4 = some u → W p l e ({ frames := 2, cells := 0, slots := 0, locals := 51 } : Room) s m args below meth c H locs 0 0 (MQ below (zQv D A (zWC cI cJ cZ h gP gR gQ gT gE u gS)) args s 0 0 A) (F0 m 88 ls []) := by
  intro gM v1 v2 v3 v4 H locs ls hP hD hS hl hf
  obtain ⟨hx, hb, hml, hown, hts, hK, hr, hlocks, hA⟩ := id hC
  unfold X1_insert_b88 at hf
  refine lv_iload_n hx hb dX1_insert_88 rfl (lv_at hl 2 rfl) ?_
  refine lv_i2l (v := v2.toInt64) hx hb dX1_insert_89 rfl ?_
  refine lv_iload_n hx hb dX1_insert_90 rfl (lv_at hl 3 rfl) ?_
  refine lv_i2l (v := v3.toInt64) hx hb dX1_insert_91 rfl ?_
  obtain ⟨u6, hu6, hf⟩ := zbd hf
  refine zthen_l hA hD hS (zrunSN (na := 2) (As := [.long v2.toInt64, .long v3.toInt64]) (rest := []) hC hP hD hK.2.1 (c_X7_commonDivisor l D cI cJ cZ h N gP gR gQ gT gE gM gS v2.toInt64 v3.toInt64 u6 hu6 H.size) tb_18_18 tb_1_2 tb_18_19 (by decide +kernel) rfl rfl ⟨by decide, by decide⟩ rfl hl.1 rfl (Nat.le_of_ble_eq_true rfl) dX1_insert_92) (fun H locs hP hD hS => ?_)
  refine lv_l2i (v := u6.toInt32) hx hb dX1_insert_95 rfl ?_
  refine lv_istore (lv' := [(5, .int u6.toInt32), (0, .ref (h 29)), (1, .int v1), (2, .int v2), (3, .int v3), (4, .int v4)]) hx hb dX1_insert_96 hl (by decide) rfl (fun ls hl => ?_)
  refine lv_iload hx hb dX1_insert_98 (lv_at hl 0 rfl) ?_
  refine lv_if_gt (tgt := 106) hx hb dX1_insert_100 (by decide) (fun c7 => ?_) (fun c7 => ?_)
  · replace hf := zif_t hf c7
    exact t_X1_insert_b106 hC N gP gR gQ gT gE gS u gM v1 v2 v3 v4 u6.toInt32 H locs ls hP hD hS (lv_sub hl [1, 2, 3, 4, 5, 0] rfl) hf
  · replace hf := zif_f hf c7
    refine lv_iconst (v := 1) hx hb dX1_insert_103 (by decide) ?_
    refine lv_istore (lv' := [(5, .int (1 : Int32)), (0, .ref (h 29)), (1, .int v1), (2, .int v2), (3, .int v3), (4, .int v4)]) hx hb dX1_insert_104 hl (by decide) rfl (fun ls hl => ?_)
    exact t_X1_insert_b106 hC N gP gR gQ gT gE gS u gM v1 v2 v3 v4 (1 : Int32) H locs ls hP hD hS (lv_sub hl [1, 2, 3, 4, 5, 0] rfl) hf
set_option maxHeartbeats 4000000 in
set_option maxRecDepth 100000 in
theorem t_X1_insert_b16 {p : Program} {l : Launch} {e : Env} {s : State} {m : MethodId} {args : Array Value} {below : List Frame} {meth : Method} {c : Code} {A : Nat → Prop} {D : va_G} {cI cJ cZ : ClassId} {h : Nat → Nat} (hC : zCx p s m args meth c A D (zty cI cJ cZ) cX1_insert RX1 6 none) (N : Nat) (gP : tPi) (gR : tPa) (gQ : tPa) (gT : tTr) (gE : tTe) (gS : tSq) (u : tMe) : ∀ (n : Nat) (gM : tMe) (v1 : Int32) (v2 : Int32) (v3 : Int32) (v4 : Int32) (H : Heap) (locs : List Loc) (ls : Array Slot), va_P D vwCl (zWC cI cJ cZ h gP gR gQ gT gE gM gS) H → va_D A (zWC cI cJ cZ h gP gR gQ gT gE gM gS) → va_S A s.heap H locs → lv_has ls 6 [(0, .ref (h 29)), (1, .int v1), (2, .int v2), (3, .int v3), (4, .int v4)] → X1_insert_b16 N n gM v1 v2 v3 v4 = some u → W p l e ({ frames := 2, cells := 0, slots := 0, locals := 51 } : Room) s m args below meth c H locs 0 0 (MQ below (zQv D A (zWC cI cJ cZ h gP gR gQ gT gE u gS)) args s 0 0 A) (F0 m 16 ls []) := by
  intro n
  induction n with
  | zero =>
    intro gM v1 v2 v3 v4 H locs ls hP hD hS hl hf
    cases hf
  | succ n ih =>
    intro gM v1 v2 v3 v4 H locs ls hP hD hS hl hf
    obtain ⟨hx, hb, hml, hown, hts, hK, hr, hlocks, hA⟩ := id hC
    rw [X1_insert_b16] at hf
    refine lv_iload hx hb dX1_insert_16 (lv_at hl 4 rfl) ?_
    refine lv_if_le (tgt := 88) hx hb dX1_insert_18 (by decide) (fun c8 => ?_) (fun c8 => ?_)
    · replace hf := zif_t hf c8
      exact t_X1_insert_b88 hC N gP gR gQ gT gE gS u gM v1 v2 v3 v4 H locs ls hP hD hS (lv_sub hl [0, 1, 2, 3, 4] rfl) hf
    · replace hf := zif_f hf c8
      refine lv_aload_n hx hb dX1_insert_21 rfl (lv_at hl 0 rfl) ?_
      refine lv_iload hx hb dX1_insert_22 (lv_at hl 4 rfl) ?_
      refine lv_iconst (v := 1) hx hb dX1_insert_24 (by decide) ?_
      refine lv_isub hx hb dX1_insert_25 ?_
      refine lv_iload_n hx hb dX1_insert_26 rfl (lv_at hl 2 rfl) ?_
      refine lv_iload_n hx hb dX1_insert_27 rfl (lv_at hl 3 rfl) ?_
      obtain ⟨u9, hu9, hf⟩ := zbd hf
      refine zthen_i hA hD hS (zrunV (As := [.int (v4 - (1 : Int32)), .int v2, .int v3]) (rest := []) hC hP hD 29 rfl rfl (c_X1_isLater l D cI cJ cZ h  gP gR gQ gT gE gM gS (v4 - (1 : Int32)) v2 v3 u9 hu9 H.size) kRX1_65 rfl rfl ⟨by decide, by decide⟩ rfl hl.1 rfl (Nat.le_of_ble_eq_true rfl) dX1_insert_28) (fun H locs hP hD hS => ?_)
      refine lv_if_eq (tgt := 88) hx hb dX1_insert_31 (by decide) (fun c10 => ?_) (fun c10 => ?_)
      · replace hf := zif_t hf c10
        exact t_X1_insert_b88 hC N gP gR gQ gT gE gS u gM v1 v2 v3 v4 H locs ls hP hD hS (lv_sub hl [0, 1, 2, 3, 4] rfl) hf
      · replace hf := zif_f hf c10
        refine lv_aload_n hx hb dX1_insert_34 rfl (lv_at hl 0 rfl) ?_
        refine va_get (D := D) (ci := 1) (v := .ref (h 30)) (C := RX1) (T := TX1) (N := 5) hx hb hts tb_wsX10 hown hK.1 hP 29 rfl rfl 0 (by decide) (hts _ tb_4_15) (fun _ h9 => h9) rfl dX1_insert_35 ?_
        refine lv_iload hx hb dX1_insert_38 (lv_at hl 4 rfl) ?_
        refine lv_aload_n hx hb dX1_insert_40 rfl (lv_at hl 0 rfl) ?_
        refine va_get (D := D) (ci := 1) (v := .ref (h 30)) (C := RX1) (T := TX1) (N := 5) hx hb hts tb_wsX10 hown hK.1 hP 29 rfl rfl 0 (by decide) (hts _ tb_4_15) (fun _ h9 => h9) rfl dX1_insert_41 ?_
        refine lv_iload hx hb dX1_insert_44 (lv_at hl 4 rfl) ?_
        refine lv_iconst (v := 1) hx hb dX1_insert_46 (by decide) ?_
        refine lv_isub hx hb dX1_insert_47 ?_
        obtain ⟨h11, hf⟩ := zck_s hf
        refine va_iald hx hb hK.1 hP 30 0 rfl rfl h11 dX1_insert_48 ?_
        obtain ⟨h12, hf⟩ := zck_s hf
        refine va_iast hx hb hK.1 hP hD hS 30 0 rfl rfl h12 dX1_insert_49 (fun H locs hP hD hS => ?_)
        replace hP : va_P D vwCl (zWC cI cJ cZ h gP gR gQ gT gE (tMe.s_which gM (upd (tMe.which gM) v4.toNatClampNeg ((tMe.which gM) (v4 - (1 : Int32)).toNatClampNeg))) gS) H := hP
        replace hD : va_D A (zWC cI cJ cZ h gP gR gQ gT gE (tMe.s_which gM (upd (tMe.which gM) v4.toNatClampNeg ((tMe.which gM) (v4 - (1 : Int32)).toNatClampNeg))) gS) := hD
        refine lv_aload_n hx hb dX1_insert_50 rfl (lv_at hl 0 rfl) ?_
        refine va_get (D := D) (ci := 1) (v := .ref (h 31)) (C := RX1) (T := TX1) (N := 5) hx hb hts tb_wsX10 hown hK.1 hP 29 rfl rfl 1 (by decide) (hts _ tb_4_16) (fun _ h9 => h9) rfl dX1_insert_51 ?_
        refine lv_iload hx hb dX1_insert_54 (lv_at hl 4 rfl) ?_
        refine lv_aload_n hx hb dX1_insert_56 rfl (lv_at hl 0 rfl) ?_
        refine va_get (D := D) (ci := 1) (v := .ref (h 31)) (C := RX1) (T := TX1) (N := 5) hx hb hts tb_wsX10 hown hK.1 hP 29 rfl rfl 1 (by decide) (hts _ tb_4_16) (fun _ h9 => h9) rfl dX1_insert_57 ?_
        refine lv_iload hx hb dX1_insert_60 (lv_at hl 4 rfl) ?_
        refine lv_iconst (v := 1) hx hb dX1_insert_62 (by decide) ?_
        refine lv_isub hx hb dX1_insert_63 ?_
        obtain ⟨h13, hf⟩ := zck_s hf
        refine va_iald hx hb hK.1 hP 31 0 rfl rfl h13 dX1_insert_64 ?_
        obtain ⟨h14, hf⟩ := zck_s hf
        refine va_iast hx hb hK.1 hP hD hS 31 0 rfl rfl h14 dX1_insert_65 (fun H locs hP hD hS => ?_)
        replace hP : va_P D vwCl (zWC cI cJ cZ h gP gR gQ gT gE (tMe.s_n (tMe.s_which gM (upd (tMe.which gM) v4.toNatClampNeg ((tMe.which gM) (v4 - (1 : Int32)).toNatClampNeg))) (upd (tMe.n gM) v4.toNatClampNeg ((tMe.n gM) (v4 - (1 : Int32)).toNatClampNeg))) gS) H := hP
        replace hD : va_D A (zWC cI cJ cZ h gP gR gQ gT gE (tMe.s_n (tMe.s_which gM (upd (tMe.which gM) v4.toNatClampNeg ((tMe.which gM) (v4 - (1 : Int32)).toNatClampNeg))) (upd (tMe.n gM) v4.toNatClampNeg ((tMe.n gM) (v4 - (1 : Int32)).toNatClampNeg))) gS) := hD
        refine lv_aload_n hx hb dX1_insert_66 rfl (lv_at hl 0 rfl) ?_
        refine va_get (D := D) (ci := 1) (v := .ref (h 32)) (C := RX1) (T := TX1) (N := 5) hx hb hts tb_wsX10 hown hK.1 hP 29 rfl rfl 2 (by decide) (hts _ tb_4_17) (fun _ h9 => h9) rfl dX1_insert_67 ?_
        refine lv_iload hx hb dX1_insert_70 (lv_at hl 4 rfl) ?_
        refine lv_aload_n hx hb dX1_insert_72 rfl (lv_at hl 0 rfl) ?_
        refine va_get (D := D) (ci := 1) (v := .ref (h 32)) (C := RX1) (T := TX1) (N := 5) hx hb hts tb_wsX10 hown hK.1 hP 29 rfl rfl 2 (by decide) (hts _ tb_4_17) (fun _ h9 => h9) rfl dX1_insert_73 ?_
        refine lv_iload hx hb dX1_insert_76 (lv_at hl 4 rfl) ?_
        refine lv_iconst (v := 1) hx hb dX1_insert_78 (by decide) ?_
        refine lv_isub hx hb dX1_insert_79 ?_
        obtain ⟨h15, hf⟩ := zck_s hf
        refine va_iald hx hb hK.1 hP 32 0 rfl rfl h15 dX1_insert_80 ?_
        obtain ⟨h16, hf⟩ := zck_s hf
        refine va_iast hx hb hK.1 hP hD hS 32 0 rfl rfl h16 dX1_insert_81 (fun H locs hP hD hS => ?_)
        replace hP : va_P D vwCl (zWC cI cJ cZ h gP gR gQ gT gE (tMe.s_d (tMe.s_n (tMe.s_which gM (upd (tMe.which gM) v4.toNatClampNeg ((tMe.which gM) (v4 - (1 : Int32)).toNatClampNeg))) (upd (tMe.n gM) v4.toNatClampNeg ((tMe.n gM) (v4 - (1 : Int32)).toNatClampNeg))) (upd (tMe.d gM) v4.toNatClampNeg ((tMe.d gM) (v4 - (1 : Int32)).toNatClampNeg))) gS) H := hP
        replace hD : va_D A (zWC cI cJ cZ h gP gR gQ gT gE (tMe.s_d (tMe.s_n (tMe.s_which gM (upd (tMe.which gM) v4.toNatClampNeg ((tMe.which gM) (v4 - (1 : Int32)).toNatClampNeg))) (upd (tMe.n gM) v4.toNatClampNeg ((tMe.n gM) (v4 - (1 : Int32)).toNatClampNeg))) (upd (tMe.d gM) v4.toNatClampNeg ((tMe.d gM) (v4 - (1 : Int32)).toNatClampNeg))) gS) := hD
        refine lv_iinc (v := (v4 + (-1 : Int32))) (lv' := [(4, .int (v4 + (-1 : Int32))), (0, .ref (h 29)), (1, .int v1), (2, .int v2), (3, .int v3)]) hx hb dX1_insert_82 hl (k := 4) rfl rfl (by decide) rfl (fun ls hl => ?_)
        refine lv_goto (tgt := 16) hx hb dX1_insert_85 (by decide) ?_
        exact ih (tMe.s_d (tMe.s_n (tMe.s_which gM (upd (tMe.which gM) v4.toNatClampNeg ((tMe.which gM) (v4 - (1 : Int32)).toNatClampNeg))) (upd (tMe.n gM) v4.toNatClampNeg ((tMe.n gM) (v4 - (1 : Int32)).toNatClampNeg))) (upd (tMe.d gM) v4.toNatClampNeg ((tMe.d gM) (v4 - (1 : Int32)).toNatClampNeg))) v1 v2 v3 (v4 + (-1 : Int32)) H locs ls hP hD hS (lv_sub hl [1, 2, 3, 4, 0] rfl) hf
set_option maxHeartbeats 4000000 in
set_option maxRecDepth 100000 in
theorem c_X1_insert (l : Launch) (D : va_G) (cI cJ cZ : ClassId) (h : Nat → Nat) (N : Nat) (gP : tPi) (gR : tPa) (gQ : tPa) (gT : tTr) (gE : tTe) (gM : tMe) (gS : tSq) (a1 : Int32) (a2 : Int32) (a3 : Int32) (u : tMe) (hf : X1_insert N gM a1 a2 a3 = some u) (sz : Nat) : Met l yX1_insert (Cond.code yX1_insert cX1_insert 6 none :: tb_L) ({ frames := 2, cells := 0, slots := 0, locals := 51 } : Room) (zPre D (zty cI cJ cZ) (zWC cI cJ cZ h gP gR gQ gT gE gM gS) sz [.ref (h 29), .int a1, .int a2, .int a3]) (zQv D (va_A (zWC cI cJ cZ h gP gR gQ gT gE gM gS) sz) (zWC cI cJ cZ h gP gR gQ gT gE u gS)) 0 0 (va_A (zWC cI cJ cZ h gP gR gQ gT gE gM gS) sz) := by
  refine zMet (Qc := fun A => zQv D A (zWC cI cJ cZ h gP gR gQ gT gE u gS)) (by decide) rfl (Nat.le_of_ble_eq_true rfl) ?_
  intro p e s m args below meth c A ls hC _ hP hD hS hl
  replace hl : lv_has ls 6 [(0, .ref (h 29)), (1, .int a1), (2, .int a2), (3, .int a3)] := hl
  obtain ⟨hx, hb, hml, hown, hts, hK, hr, hlocks, hA⟩ := id hC
  unfold X1_insert at hf
  obtain ⟨H, hH⟩ : ∃ H, H = s.heap := ⟨_, rfl⟩
  rw [← hH] at hP
  replace hS : va_S A s.heap H [] := by rw [hH]; exact hS
  show W p l e _ s m args below meth c s.heap [] 0 0 _ _
  rw [← hH]
  clear hH
  obtain ⟨locs, hlo⟩ : ∃ x : List Loc, x = [] := ⟨_, rfl⟩
  rw [← hlo] at hS ⊢
  clear hlo
  refine lv_aload_n hx hb dX1_insert_0 rfl (lv_at hl 0 rfl) ?_
  refine va_get (D := D) (ci := 1) (v := .int (tMe.size gM)) (C := RX1) (T := TX1) (N := 5) hx hb hts tb_wsX10 hown hK.1 hP 29 rfl rfl 3 (by decide) (hts _ tb_23_13) (fun _ h9 => h9) rfl dX1_insert_1 ?_
  refine lv_bipush (v := 24) hx hb dX1_insert_4 (by decide) ?_
  refine lv_icmp_lt (tgt := 10) hx hb dX1_insert_6 (by decide) (fun c17 => ?_) (fun c17 => ?_)
  · replace hf := zif_t hf c17
    refine lv_aload_n hx hb dX1_insert_10 rfl (lv_at hl 0 rfl) ?_
    refine va_get (D := D) (ci := 1) (v := .int (tMe.size gM)) (C := RX1) (T := TX1) (N := 5) hx hb hts tb_wsX10 hown hK.1 hP 29 rfl rfl 3 (by decide) (hts _ tb_23_13) (fun _ h9 => h9) rfl dX1_insert_11 ?_
    refine lv_topi (fun x18 ex18 => ?_)
    replace hf := zl_n ex18 hf
    refine lv_istore (lv' := [(4, .int x18), (0, .ref (h 29)), (1, .int a1), (2, .int a2), (3, .int a3)]) hx hb dX1_insert_14 hl (by decide) rfl (fun ls hl => ?_)
    exact t_X1_insert_b16 hC N gP gR gQ gT gE gS u N gM a1 a2 a3 x18 H locs ls hP hD hS (lv_sub hl [1, 2, 3, 4, 0] rfl) hf
  · replace hf := zif_f hf c17
    have hu := Option.some.inj hf
    subst hu
    exact z_vret hC hP hD hS dX1_insert_9
set_option maxHeartbeats 4000000 in
set_option maxRecDepth 100000 in
theorem t_X1_meetOne_b213 {p : Program} {l : Launch} {e : Env} {s : State} {m : MethodId} {args : Array Value} {below : List Frame} {meth : Method} {c : Code} {A : Nat → Prop} {D : va_G} {cI cJ cZ : ClassId} {h : Nat → Nat} (hC : zCx p s m args meth c A D (zty cI cJ cZ) cX1_meetOne RX1 15 none) (N : Nat) (gP : tPi) (gR : tPa) (gQ : tPa) (gT : tTr) (gE : tTe) (gS : tSq) (u : tMe) : ∀ (gM : tMe) (v1 : Int32) (v4 : Int32) (v5 : Int32) (v12 : Int32) (v13 : Int32) (H : Heap) (locs : List Loc) (ls : Array Slot), va_P D vwCl (zWC cI cJ cZ h gP gR gQ gT gE gM gS) H → va_D A (zWC cI cJ cZ h gP gR gQ gT gE gM gS) → va_S A s.heap H locs → lv_has ls 15 [(0, .ref (h 29)), (1, .int v1), (4, .int v4), (5, .int v5), (12, .int v12), (13, .int v13)] → X1_meetOne_b213 N gP gM v1 v4 v5 v12 v13 = some u → W p l e ({ frames := 3, cells := 0, slots := 0, locals := 76 } : Room) s m args below meth c H locs 0 0 (MQ below (zQv D A (zWC cI cJ cZ h gP gR gQ gT gE u gS)) args s 0 0 A) (F0 m 213 ls []) := by
  intro gM v1 v4 v5 v12 v13 H locs ls hP hD hS hl hf
  obtain ⟨hx, hb, hml, hown, hts, hK, hr, hlocks, hA⟩ := id hC
  unfold X1_meetOne_b213 at hf
  refine lv_aload_n hx hb dX1_meetOne_213 rfl (lv_at hl 0 rfl) ?_
  refine lv_iload_n hx hb dX1_meetOne_214 rfl (lv_at hl 1 rfl) ?_
  refine lv_iconst (v := 0) hx hb dX1_meetOne_215 (by decide) ?_
  refine lv_iload hx hb dX1_meetOne_216 (lv_at hl 4 rfl) ?_
  refine lv_iload hx hb dX1_meetOne_218 (lv_at hl 5 rfl) ?_
  refine va_mmin hx hb (hml.trans hl.1.symm) hown (hts _ tb_23_23) (hts _ tb_21_22) (hts _ tb_11_23) (hts _ tb_21_23) (by decide) (Nat.le_of_ble_eq_true rfl) (Nat.zero_le _) (Nat.zero_le _) dX1_meetOne_220 ?_
  refine va_mmax hx hb (hml.trans hl.1.symm) hown (hts _ tb_24_0) (hts _ tb_11_22) (hts _ tb_11_23) (hts _ tb_12_0) (by decide) (Nat.le_of_ble_eq_true rfl) (Nat.zero_le _) (Nat.zero_le _) dX1_meetOne_223 ?_
  refine lv_iload hx hb dX1_meetOne_226 (lv_at hl 2 rfl) ?_
  refine lv_iload hx hb dX1_meetOne_228 (lv_at hl 2 rfl) ?_
  refine lv_imul hx hb dX1_meetOne_230 ?_
  refine lv_iload hx hb dX1_meetOne_231 (lv_at hl 3 rfl) ?_
  refine lv_iload hx hb dX1_meetOne_233 (lv_at hl 3 rfl) ?_
  refine lv_imul hx hb dX1_meetOne_235 ?_
  refine lv_iadd hx hb dX1_meetOne_236 ?_
  obtain ⟨u1, hu1, hf⟩ := zbd hf
  refine zthen_v hA hD hS (zrunV (As := [.int v1, .int (if (0 : Int32) < (if v13 < v12 then v13 else v12) then (if v13 < v12 then v13 else v12) else (0 : Int32)), .int ((v4 * v4) + (v5 * v5))]) (rest := []) hC hP hD 29 rfl rfl (c_X1_insert l D cI cJ cZ h N gP gR gQ gT gE gM gS v1 (if (0 : Int32) < (if v13 < v12 then v13 else v12) then (if v13 < v12 then v13 else v12) else (0 : Int32)) ((v4 * v4) + (v5 * v5)) u1 hu1 H.size) kRX1_52 rfl rfl ⟨by decide, by decide⟩ rfl hl.1 rfl (Nat.le_of_ble_eq_true rfl) dX1_meetOne_237) (fun H locs hP hD hS => ?_)
  have hu := Option.some.inj hf
  subst hu
  exact z_vret hC hP hD hS dX1_meetOne_240
set_option maxHeartbeats 4000000 in
set_option maxRecDepth 100000 in
theorem t_X1_meetOne_b166 {p : Program} {l : Launch} {e : Env} {s : State} {m : MethodId} {args : Array Value} {below : List Frame} {meth : Method} {c : Code} {A : Nat → Prop} {D : va_G} {cI cJ cZ : ClassId} {h : Nat → Nat} (hC : zCx p s m args meth c A D (zty cI cJ cZ) cX1_meetOne RX1 15 none) (N : Nat) (gP : tPi) (gR : tPa) (gQ : tPa) (gT : tTr) (gE : tTe) (gS : tSq) (u : tMe) : ∀ (gM : tMe) (H : Heap) (locs : List Loc) (ls : Array Slot), va_P D vwCl (zWC cI cJ cZ h gP gR gQ gT gE gM gS) H → va_D A (zWC cI cJ cZ h gP gR gQ gT gE gM gS) → va_S A s.heap H locs → lv_has ls 15 [] → X1_meetOne_b166 N gP gM = some u → W p l e ({ frames := 3, cells := 0, slots := 0, locals := 76 } : Room) s m args below meth c H locs 0 0 (MQ below (zQv D A (zWC cI cJ cZ h gP gR gQ gT gE u gS)) args s 0 0 A) (F0 m 166 ls []) := by
  intro gM H locs ls hP hD hS hl hf
  obtain ⟨hx, hb, hml, hown, hts, hK, hr, hlocks, hA⟩ := id hC
  unfold X1_meetOne_b166 at hf
  refine lv_goto (tgt := 240) hx hb dX1_meetOne_166 (by decide) ?_
  have hu := Option.some.inj hf
  subst hu
  exact z_vret hC hP hD hS dX1_meetOne_240
set_option maxHeartbeats 4000000 in
set_option maxRecDepth 100000 in
theorem t_X1_meetOne_b109 {p : Program} {l : Launch} {e : Env} {s : State} {m : MethodId} {args : Array Value} {below : List Frame} {meth : Method} {c : Code} {A : Nat → Prop} {D : va_G} {cI cJ cZ : ClassId} {h : Nat → Nat} (hC : zCx p s m args meth c A D (zty cI cJ cZ) cX1_meetOne RX1 15 none) (N : Nat) (gP : tPi) (gR : tPa) (gQ : tPa) (gT : tTr) (gE : tTe) (gS : tSq) (u : tMe) : ∀ (gM : tMe) (v1 : Int32) (v6 : Int32) (v7 : Int32) (v8 : Int32) (v9 : Int32) (v10 : Int32) (v11 : Int32) (s0 : Int32) (H : Heap) (locs : List Loc) (ls : Array Slot), va_P D vwCl (zWC cI cJ cZ h gP gR gQ gT gE gM gS) H → va_D A (zWC cI cJ cZ h gP gR gQ gT gE gM gS) → va_S A s.heap H locs → lv_has ls 15 [(0, .ref (h 29)), (1, .int v1), (6, .int v6), (7, .int v7), (8, .int v8), (9, .int v9), (10, .int v10), (11, .int v11)] → X1_meetOne_b109 N gP gM v1 v6 v7 v8 v9 v10 v11 s0 = some u → W p l e ({ frames := 3, cells := 0, slots := 0, locals := 76 } : Room) s m args below meth c H locs 0 0 (MQ below (zQv D A (zWC cI cJ cZ h gP gR gQ gT gE u gS)) args s 0 0 A) (F0 m 109 ls [.int s0]) := by
  intro gM v1 v6 v7 v8 v9 v10 v11 s0 H locs ls hP hD hS hl hf
  obtain ⟨hx, hb, hml, hown, hts, hK, hr, hlocks, hA⟩ := id hC
  unfold X1_meetOne_b109 at hf
  refine lv_istore (lv' := [(12, .int s0), (0, .ref (h 29)), (1, .int v1), (6, .int v6), (7, .int v7), (8, .int v8), (9, .int v9), (10, .int v10), (11, .int v11)]) hx hb dX1_meetOne_109 hl (by decide) rfl (fun ls hl => ?_)
  refine lv_iload hx hb dX1_meetOne_111 (lv_at hl 0 rfl) ?_
  refine lv_iload hx hb dX1_meetOne_113 (lv_at hl 8 rfl) ?_
  refine lv_imul hx hb dX1_meetOne_115 ?_
  refine lv_topi (fun x2 ex2 => ?_)
  replace hf := zl_n ex2 hf
  refine lv_istore (lv' := [(13, .int x2), (12, .int s0), (0, .ref (h 29)), (1, .int v1), (6, .int v6), (7, .int v7), (8, .int v8), (9, .int v9), (10, .int v10), (11, .int v11)]) hx hb dX1_meetOne_116 hl (by decide) rfl (fun ls hl => ?_)
  refine lv_iload hx hb dX1_meetOne_118 (lv_at hl 1 rfl) ?_
  refine lv_iload hx hb dX1_meetOne_120 (lv_at hl 6 rfl) ?_
  refine lv_iload hx hb dX1_meetOne_122 (lv_at hl 7 rfl) ?_
  refine lv_iload hx hb dX1_meetOne_124 (lv_at hl 4 rfl) ?_
  refine lv_iload hx hb dX1_meetOne_126 (lv_at hl 5 rfl) ?_
  obtain ⟨u3, hu3, hf⟩ := zbd hf
  refine zthen_i hA hD hS (zrunS (As := [.int v8, .int v9, .int v6, .int v7]) (rest := [.int s0]) hC hP hD (c_X3_cross l D cI cJ cZ h  gP gR gQ gT gE gM gS v8 v9 v6 v7 u3 hu3 H.size) kRX1_48 rfl rfl ⟨by decide, by decide⟩ rfl hl.1 rfl (Nat.le_of_ble_eq_true rfl) dX1_meetOne_128) (fun H locs hP hD hS => ?_)
  refine lv_imul hx hb dX1_meetOne_131 ?_
  refine lv_topi (fun x4 ex4 => ?_)
  replace hf := zl_n ex4 hf
  refine lv_istore (lv' := [(14, .int x4), (13, .int x2), (12, .int s0), (0, .ref (h 29)), (1, .int v1), (6, .int v6), (7, .int v7), (8, .int v8), (9, .int v9), (10, .int v10), (11, .int v11)]) hx hb dX1_meetOne_132 hl (by decide) rfl (fun ls hl => ?_)
  refine lv_iload hx hb dX1_meetOne_134 (lv_at hl 0 rfl) ?_
  refine lv_if_lt (tgt := 166) hx hb dX1_meetOne_136 (by decide) (fun c5 => ?_) (fun c5 => ?_)
  · replace hf := zif_t hf c5
    exact t_X1_meetOne_b166 hC N gP gR gQ gT gE gS u gM H locs ls hP hD hS (lv_sub hl [] rfl) hf
  · replace hf := zif_f hf c5
    refine lv_iload hx hb dX1_meetOne_139 (lv_at hl 1 rfl) ?_
    refine lv_if_lt (tgt := 166) hx hb dX1_meetOne_141 (by decide) (fun c6 => ?_) (fun c6 => ?_)
    · replace hf := zif_t hf c6
      exact t_X1_meetOne_b166 hC N gP gR gQ gT gE gS u gM H locs ls hP hD hS (lv_sub hl [] rfl) hf
    · replace hf := zif_f hf c6
      refine lv_iload hx hb dX1_meetOne_144 (lv_at hl 1 rfl) ?_
      refine lv_iload hx hb dX1_meetOne_146 (lv_at hl 2 rfl) ?_
      refine lv_iload hx hb dX1_meetOne_148 (lv_at hl 9 rfl) ?_
      refine lv_imul hx hb dX1_meetOne_150 ?_
      refine lv_icmp_gt (tgt := 166) hx hb dX1_meetOne_151 (by decide) (fun c7 => ?_) (fun c7 => ?_)
      · replace hf := zif_t hf c7
        exact t_X1_meetOne_b166 hC N gP gR gQ gT gE gS u gM H locs ls hP hD hS (lv_sub hl [] rfl) hf
      · replace hf := zif_f hf c7
        refine lv_aload_n hx hb dX1_meetOne_154 rfl (lv_at hl 3 rfl) ?_
        refine lv_iload_n hx hb dX1_meetOne_155 rfl (lv_at hl 4 rfl) ?_
        refine lv_iload hx hb dX1_meetOne_156 (lv_at hl 0 rfl) ?_
        refine lv_iload hx hb dX1_meetOne_158 (lv_at hl 2 rfl) ?_
        refine lv_iload hx hb dX1_meetOne_160 (lv_at hl 9 rfl) ?_
        refine lv_imul hx hb dX1_meetOne_162 ?_
        obtain ⟨u8, hu8, hf⟩ := zbd hf
        refine zthen_v hA hD hS (zrunV (As := [.int v1, .int x4, .int (s0 * v10)]) (rest := []) hC hP hD 29 rfl rfl (c_X1_insert l D cI cJ cZ h N gP gR gQ gT gE gM gS v1 x4 (s0 * v10) u8 hu8 H.size) kRX1_52 rfl rfl ⟨by decide, by decide⟩ rfl hl.1 rfl (Nat.le_of_ble_eq_true rfl) dX1_meetOne_163) (fun H locs hP hD hS => ?_)
        exact t_X1_meetOne_b166 hC N gP gR gQ gT gE gS u u8 H locs ls hP hD hS (lv_sub hl [] rfl) hf
set_option maxHeartbeats 4000000 in
set_option maxRecDepth 100000 in
theorem c_X1_meetOne (l : Launch) (D : va_G) (cI cJ cZ : ClassId) (h : Nat → Nat) (N : Nat) (gP : tPi) (gR : tPa) (gQ : tPa) (gT : tTr) (gE : tTe) (gM : tMe) (gS : tSq) (a1 : Int32) (a2 : Int32) (a3 : Int32) (a4 : Int32) (a5 : Int32) (u : tMe) (hf : X1_meetOne N gP gM a1 a2 a3 a4 a5 = some u) (sz : Nat) : Met l yX1_meetOne (Cond.code yX1_meetOne cX1_meetOne 15 none :: tb_L) ({ frames := 3, cells := 0, slots := 0, locals := 76 } : Room) (zPre D (zty cI cJ cZ) (zWC cI cJ cZ h gP gR gQ gT gE gM gS) sz [.ref (h 29), .int a1, .int a2, .int a3, .int a4, .int a5]) (zQv D (va_A (zWC cI cJ cZ h gP gR gQ gT gE gM gS) sz) (zWC cI cJ cZ h gP gR gQ gT gE u gS)) 0 0 (va_A (zWC cI cJ cZ h gP gR gQ gT gE gM gS) sz) := by
  refine zMet (Qc := fun A => zQv D A (zWC cI cJ cZ h gP gR gQ gT gE u gS)) (by decide) rfl (Nat.le_of_ble_eq_true rfl) ?_
  intro p e s m args below meth c A ls hC _ hP hD hS hl
  replace hl : lv_has ls 15 [(0, .ref (h 29)), (1, .int a1), (2, .int a2), (3, .int a3), (4, .int a4), (5, .int a5)] := hl
  obtain ⟨hx, hb, hml, hown, hts, hK, hr, hlocks, hA⟩ := id hC
  unfold X1_meetOne at hf
  obtain ⟨H, hH⟩ : ∃ H, H = s.heap := ⟨_, rfl⟩
  rw [← hH] at hP
  replace hS : va_S A s.heap H [] := by rw [hH]; exact hS
  show W p l e _ s m args below meth c s.heap [] 0 0 _ _
  rw [← hH]
  clear hH
  obtain ⟨locs, hlo⟩ : ∃ x : List Loc, x = [] := ⟨_, rfl⟩
  rw [← hlo] at hS ⊢
  clear hlo
  refine lv_aload_n hx hb dX1_meetOne_0 rfl (lv_at hl 0 rfl) ?_
  refine va_get (D := D) (ci := 1) (v := .ref (h 1)) (C := RX1) (T := TX1) (N := 5) hx hb hts tb_wsX10 hown hK.1 hP 29 rfl rfl 4 (by decide) (hts _ tb_4_18) (fun _ h9 => h9) rfl dX1_meetOne_1 ?_
  refine va_get (D := D) (ci := 3) (v := .ref (h 4)) (C := RX3) (T := TX3) (N := 5) hx hb hts tb_wsX30 hown hK.1 hP 1 rfl rfl 2 (by decide) (hts _ tb_23_19) (fun _ h9 => h9) rfl dX1_meetOne_4 ?_
  refine lv_iload_n hx hb dX1_meetOne_7 rfl (lv_at hl 1 rfl) ?_
  obtain ⟨h9, hf⟩ := zck_s hf
  refine va_iald hx hb hK.1 hP 4 0 rfl rfl h9 dX1_meetOne_8 ?_
  refine lv_aload_n hx hb dX1_meetOne_9 rfl (lv_at hl 0 rfl) ?_
  refine va_get (D := D) (ci := 1) (v := .ref (h 1)) (C := RX1) (T := TX1) (N := 5) hx hb hts tb_wsX10 hown hK.1 hP 29 rfl rfl 4 (by decide) (hts _ tb_4_18) (fun _ h9 => h9) rfl dX1_meetOne_10 ?_
  refine va_get (D := D) (ci := 3) (v := .ref (h 2)) (C := RX3) (T := TX3) (N := 5) hx hb hts tb_wsX30 hown hK.1 hP 1 rfl rfl 0 (by decide) (hts _ tb_23_20) (fun _ h9 => h9) rfl dX1_meetOne_13 ?_
  refine lv_iload_n hx hb dX1_meetOne_16 rfl (lv_at hl 1 rfl) ?_
  obtain ⟨h10, hf⟩ := zck_s hf
  refine va_iald hx hb hK.1 hP 2 0 rfl rfl h10 dX1_meetOne_17 ?_
  refine lv_isub hx hb dX1_meetOne_18 ?_
  refine lv_topi (fun x11 ex11 => ?_)
  replace hf := zl_n ex11 hf
  refine lv_istore (lv' := [(6, .int x11), (0, .ref (h 29)), (1, .int a1), (2, .int a2), (3, .int a3), (4, .int a4), (5, .int a5)]) hx hb dX1_meetOne_19 hl (by decide) rfl (fun ls hl => ?_)
  refine lv_aload_n hx hb dX1_meetOne_21 rfl (lv_at hl 1 rfl) ?_
  refine va_get (D := D) (ci := 1) (v := .ref (h 1)) (C := RX1) (T := TX1) (N := 5) hx hb hts tb_wsX10 hown hK.1 hP 29 rfl rfl 4 (by decide) (hts _ tb_4_18) (fun _ h9 => h9) rfl dX1_meetOne_22 ?_
  refine va_get (D := D) (ci := 3) (v := .ref (h 5)) (C := RX3) (T := TX3) (N := 5) hx hb hts tb_wsX30 hown hK.1 hP 1 rfl rfl 3 (by decide) (hts _ tb_23_21) (fun _ h9 => h9) rfl dX1_meetOne_25 ?_
  refine lv_iload_n hx hb dX1_meetOne_28 rfl (lv_at hl 2 rfl) ?_
  obtain ⟨h12, hf⟩ := zck_s hf
  refine va_iald hx hb hK.1 hP 5 0 rfl rfl h12 dX1_meetOne_29 ?_
  refine lv_aload_n hx hb dX1_meetOne_30 rfl (lv_at hl 1 rfl) ?_
  refine va_get (D := D) (ci := 1) (v := .ref (h 1)) (C := RX1) (T := TX1) (N := 5) hx hb hts tb_wsX10 hown hK.1 hP 29 rfl rfl 4 (by decide) (hts _ tb_4_18) (fun _ h9 => h9) rfl dX1_meetOne_31 ?_
  refine va_get (D := D) (ci := 3) (v := .ref (h 3)) (C := RX3) (T := TX3) (N := 5) hx hb hts tb_wsX30 hown hK.1 hP 1 rfl rfl 1 (by decide) (hts _ tb_23_22) (fun _ h9 => h9) rfl dX1_meetOne_34 ?_
  refine lv_iload_n hx hb dX1_meetOne_37 rfl (lv_at hl 2 rfl) ?_
  obtain ⟨h13, hf⟩ := zck_s hf
  refine va_iald hx hb hK.1 hP 3 0 rfl rfl h13 dX1_meetOne_38 ?_
  refine lv_isub hx hb dX1_meetOne_39 ?_
  refine lv_topi (fun x14 ex14 => ?_)
  replace hf := zl_n ex14 hf
  refine lv_istore (lv' := [(7, .int x14), (6, .int x11), (0, .ref (h 29)), (1, .int a1), (2, .int a2), (3, .int a3), (4, .int a4), (5, .int a5)]) hx hb dX1_meetOne_40 hl (by decide) rfl (fun ls hl => ?_)
  refine lv_aload_n hx hb dX1_meetOne_42 rfl (lv_at hl 2 rfl) ?_
  refine va_get (D := D) (ci := 1) (v := .ref (h 1)) (C := RX1) (T := TX1) (N := 5) hx hb hts tb_wsX10 hown hK.1 hP 29 rfl rfl 4 (by decide) (hts _ tb_4_18) (fun _ h9 => h9) rfl dX1_meetOne_43 ?_
  refine va_get (D := D) (ci := 3) (v := .ref (h 2)) (C := RX3) (T := TX3) (N := 5) hx hb hts tb_wsX30 hown hK.1 hP 1 rfl rfl 0 (by decide) (hts _ tb_23_20) (fun _ h9 => h9) rfl dX1_meetOne_46 ?_
  refine lv_iload_n hx hb dX1_meetOne_49 rfl (lv_at hl 3 rfl) ?_
  obtain ⟨h15, hf⟩ := zck_s hf
  refine va_iald hx hb hK.1 hP 2 0 rfl rfl h15 dX1_meetOne_50 ?_
  refine lv_iload_n hx hb dX1_meetOne_51 rfl (lv_at hl 4 rfl) ?_
  refine lv_isub hx hb dX1_meetOne_52 ?_
  refine lv_topi (fun x16 ex16 => ?_)
  replace hf := zl_n ex16 hf
  refine lv_istore (lv' := [(8, .int x16), (7, .int x14), (6, .int x11), (0, .ref (h 29)), (1, .int a1), (2, .int a2), (3, .int a3), (4, .int a4), (5, .int a5)]) hx hb dX1_meetOne_53 hl (by decide) rfl (fun ls hl => ?_)
  refine lv_aload_n hx hb dX1_meetOne_55 rfl (lv_at hl 3 rfl) ?_
  refine va_get (D := D) (ci := 1) (v := .ref (h 1)) (C := RX1) (T := TX1) (N := 5) hx hb hts tb_wsX10 hown hK.1 hP 29 rfl rfl 4 (by decide) (hts _ tb_4_18) (fun _ h9 => h9) rfl dX1_meetOne_56 ?_
  refine va_get (D := D) (ci := 3) (v := .ref (h 3)) (C := RX3) (T := TX3) (N := 5) hx hb hts tb_wsX30 hown hK.1 hP 1 rfl rfl 1 (by decide) (hts _ tb_23_22) (fun _ h9 => h9) rfl dX1_meetOne_59 ?_
  refine lv_iload_n hx hb dX1_meetOne_62 rfl (lv_at hl 4 rfl) ?_
  obtain ⟨h17, hf⟩ := zck_s hf
  refine va_iald hx hb hK.1 hP 3 0 rfl rfl h17 dX1_meetOne_63 ?_
  refine lv_iload_n hx hb dX1_meetOne_64 rfl (lv_at hl 6 rfl) ?_
  refine lv_isub hx hb dX1_meetOne_65 ?_
  refine lv_topi (fun x18 ex18 => ?_)
  replace hf := zl_n ex18 hf
  refine lv_istore (lv' := [(9, .int x18), (8, .int x16), (7, .int x14), (6, .int x11), (0, .ref (h 29)), (1, .int a1), (2, .int a2), (3, .int a3), (4, .int a4), (5, .int a5)]) hx hb dX1_meetOne_66 hl (by decide) rfl (fun ls hl => ?_)
  refine lv_iload hx hb dX1_meetOne_68 (lv_at hl 8 rfl) ?_
  refine lv_iload hx hb dX1_meetOne_70 (lv_at hl 9 rfl) ?_
  refine lv_iload hx hb dX1_meetOne_72 (lv_at hl 3 rfl) ?_
  refine lv_iload hx hb dX1_meetOne_74 (lv_at hl 2 rfl) ?_
  obtain ⟨u19, hu19, hf⟩ := zbd hf
  refine zthen_i hA hD hS (zrunS (As := [.int a4, .int a5, .int x11, .int x14]) (rest := []) hC hP hD (c_X3_cross l D cI cJ cZ h  gP gR gQ gT gE gM gS a4 a5 x11 x14 u19 hu19 H.size) kRX1_48 rfl rfl ⟨by decide, by decide⟩ rfl hl.1 rfl (Nat.le_of_ble_eq_true rfl) dX1_meetOne_76) (fun H locs hP hD hS => ?_)
  refine lv_istore (lv' := [(10, .int u19), (9, .int x18), (8, .int x16), (7, .int x14), (6, .int x11), (0, .ref (h 29)), (1, .int a1), (2, .int a2), (3, .int a3), (4, .int a4), (5, .int a5)]) hx hb dX1_meetOne_79 hl (by decide) rfl (fun ls hl => ?_)
  refine lv_iload hx hb dX1_meetOne_81 (lv_at hl 2 rfl) ?_
  refine lv_iload hx hb dX1_meetOne_83 (lv_at hl 1 rfl) ?_
  refine lv_iload hx hb dX1_meetOne_85 (lv_at hl 9 rfl) ?_
  refine lv_iload hx hb dX1_meetOne_87 (lv_at hl 10 rfl) ?_
  obtain ⟨u20, hu20, hf⟩ := zbd hf
  refine zthen_i hA hD hS (zrunS (As := [.int x16, .int x18, .int a4, .int a5]) (rest := []) hC hP hD (c_X3_cross l D cI cJ cZ h  gP gR gQ gT gE gM gS x16 x18 a4 a5 u20 hu20 H.size) kRX1_48 rfl rfl ⟨by decide, by decide⟩ rfl hl.1 rfl (Nat.le_of_ble_eq_true rfl) dX1_meetOne_89) (fun H locs hP hD hS => ?_)
  refine lv_istore (lv' := [(11, .int u20), (10, .int u19), (9, .int x18), (8, .int x16), (7, .int x14), (6, .int x11), (0, .ref (h 29)), (1, .int a1), (2, .int a2), (3, .int a3), (4, .int a4), (5, .int a5)]) hx hb dX1_meetOne_92 hl (by decide) rfl (fun ls hl => ?_)
  refine lv_iload hx hb dX1_meetOne_94 (lv_at hl 1 rfl) ?_
  refine lv_if_eq (tgt := 169) hx hb dX1_meetOne_96 (by decide) (fun c21 => ?_) (fun c21 => ?_)
  · replace hf := zif_t hf c21
    refine lv_iload hx hb dX1_meetOne_169 (lv_at hl 0 rfl) ?_
    refine lv_if_ne (tgt := 240) hx hb dX1_meetOne_171 (by decide) (fun c22 => ?_) (fun c22 => ?_)
    · replace hf := zif_f hf c22
      have hu := Option.some.inj hf
      subst hu
      exact z_vret hC hP hD hS dX1_meetOne_240
    · replace hf := zif_t hf c22
      refine lv_iload hx hb dX1_meetOne_174 (lv_at hl 3 rfl) ?_
      refine lv_iload hx hb dX1_meetOne_176 (lv_at hl 10 rfl) ?_
      refine lv_imul hx hb dX1_meetOne_178 ?_
      refine lv_iload hx hb dX1_meetOne_179 (lv_at hl 2 rfl) ?_
      refine lv_iload hx hb dX1_meetOne_181 (lv_at hl 11 rfl) ?_
      refine lv_imul hx hb dX1_meetOne_183 ?_
      refine lv_iadd hx hb dX1_meetOne_184 ?_
      refine lv_topi (fun x23 ex23 => ?_)
      replace hf := zl_n ex23 hf
      refine lv_istore (lv' := [(12, .int x23), (11, .int u20), (10, .int u19), (9, .int x18), (8, .int x16), (7, .int x14), (6, .int x11), (0, .ref (h 29)), (1, .int a1), (2, .int a2), (3, .int a3), (4, .int a4), (5, .int a5)]) hx hb dX1_meetOne_185 hl (by decide) rfl (fun ls hl => ?_)
      refine lv_iload hx hb dX1_meetOne_187 (lv_at hl 0 rfl) ?_
      refine lv_iload hx hb dX1_meetOne_189 (lv_at hl 6 rfl) ?_
      refine lv_iload hx hb dX1_meetOne_191 (lv_at hl 11 rfl) ?_
      refine lv_imul hx hb dX1_meetOne_193 ?_
      refine lv_iadd hx hb dX1_meetOne_194 ?_
      refine lv_iload hx hb dX1_meetOne_195 (lv_at hl 5 rfl) ?_
      refine lv_iload hx hb dX1_meetOne_197 (lv_at hl 12 rfl) ?_
      refine lv_imul hx hb dX1_meetOne_199 ?_
      refine lv_iadd hx hb dX1_meetOne_200 ?_
      refine lv_topi (fun x24 ex24 => ?_)
      replace hf := zl_n ex24 hf
      refine lv_istore (lv' := [(13, .int x24), (12, .int x23), (11, .int u20), (10, .int u19), (9, .int x18), (8, .int x16), (7, .int x14), (6, .int x11), (0, .ref (h 29)), (1, .int a1), (2, .int a2), (3, .int a3), (4, .int a4), (5, .int a5)]) hx hb dX1_meetOne_201 hl (by decide) rfl (fun ls hl => ?_)
      refine lv_iload hx hb dX1_meetOne_203 (lv_at hl 1 rfl) ?_
      refine lv_if_ge (tgt := 213) hx hb dX1_meetOne_205 (by decide) (fun c25 => ?_) (fun c25 => ?_)
      · replace hf := zif_t hf c25
        exact t_X1_meetOne_b213 hC N gP gR gQ gT gE gS u gM a1 a4 a5 x23 x24 H locs ls hP hD hS (lv_sub hl [8, 9, 12, 13, 1, 0] rfl) hf
      · replace hf := zif_f hf c25
        refine lv_iload hx hb dX1_meetOne_208 (lv_at hl 0 rfl) ?_
        refine lv_if_lt (tgt := 240) hx hb dX1_meetOne_210 (by decide) (fun c26 => ?_) (fun c26 => ?_)
        · replace hf := zif_t hf c26
          have hu := Option.some.inj hf
          subst hu
          exact z_vret hC hP hD hS dX1_meetOne_240
        · replace hf := zif_f hf c26
          exact t_X1_meetOne_b213 hC N gP gR gQ gT gE gS u gM a1 a4 a5 x23 x24 H locs ls hP hD hS (lv_sub hl [8, 9, 12, 13, 1, 0] rfl) hf
  · replace hf := zif_f hf c21
    refine lv_iload hx hb dX1_meetOne_99 (lv_at hl 1 rfl) ?_
    refine lv_if_le (tgt := 108) hx hb dX1_meetOne_101 (by decide) (fun c27 => ?_) (fun c27 => ?_)
    · replace hf := zif_t hf c27
      refine lv_iconst (v := -1) hx hb dX1_meetOne_108 (by decide) ?_
      exact t_X1_meetOne_b109 hC N gP gR gQ gT gE gS u gM a1 x11 x14 x16 x18 u19 u20 (-1 : Int32) H locs ls hP hD hS (lv_sub hl [6, 7, 5, 4, 3, 2, 1, 0] rfl) hf
    · replace hf := zif_f hf c27
      refine lv_iconst (v := 1) hx hb dX1_meetOne_104 (by decide) ?_
      refine lv_goto (tgt := 109) hx hb dX1_meetOne_105 (by decide) ?_
      exact t_X1_meetOne_b109 hC N gP gR gQ gT gE gS u gM a1 x11 x14 x16 x18 u19 u20 (1 : Int32) H locs ls hP hD hS (lv_sub hl [6, 7, 5, 4, 3, 2, 1, 0] rfl) hf
set_option maxHeartbeats 4000000 in
set_option maxRecDepth 100000 in
theorem t_X1_meetAll_b8 {p : Program} {l : Launch} {e : Env} {s : State} {m : MethodId} {args : Array Value} {below : List Frame} {meth : Method} {c : Code} {A : Nat → Prop} {D : va_G} {cI cJ cZ : ClassId} {h : Nat → Nat} (hC : zCx p s m args meth c A D (zty cI cJ cZ) cX1_meetAll RX1 6 none) (N : Nat) (gP : tPi) (gR : tPa) (gQ : tPa) (gT : tTr) (gE : tTe) (gS : tSq) (u : tMe) : ∀ (n : Nat) (gM : tMe) (v1 : Int32) (v2 : Int32) (v3 : Int32) (v4 : Int32) (v5 : Int32) (H : Heap) (locs : List Loc) (ls : Array Slot), va_P D vwCl (zWC cI cJ cZ h gP gR gQ gT gE gM gS) H → va_D A (zWC cI cJ cZ h gP gR gQ gT gE gM gS) → va_S A s.heap H locs → lv_has ls 6 [(0, .ref (h 29)), (1, .int v1), (2, .int v2), (3, .int v3), (4, .int v4), (5, .int v5)] → X1_meetAll_b8 N gP n gM v1 v2 v3 v4 v5 = some u → W p l e ({ frames := 4, cells := 0, slots := 0, locals := 110 } : Room) s m args below meth c H locs 0 0 (MQ below (zQv D A (zWC cI cJ cZ h gP gR gQ gT gE u gS)) args s 0 0 A) (F0 m 8 ls []) := by
  intro n
  induction n with
  | zero =>
    intro gM v1 v2 v3 v4 v5 H locs ls hP hD hS hl hf
    cases hf
  | succ n ih =>
    intro gM v1 v2 v3 v4 v5 H locs ls hP hD hS hl hf
    obtain ⟨hx, hb, hml, hown, hts, hK, hr, hlocks, hA⟩ := id hC
    rw [X1_meetAll_b8] at hf
    refine lv_iload hx hb dX1_meetAll_8 (lv_at hl 5 rfl) ?_
    refine lv_aload_n hx hb dX1_meetAll_10 rfl (lv_at hl 0 rfl) ?_
    refine va_get (D := D) (ci := 1) (v := .ref (h 1)) (C := RX1) (T := TX1) (N := 5) hx hb hts tb_wsX10 hown hK.1 hP 29 rfl rfl 4 (by decide) (hts _ tb_4_18) (fun _ h9 => h9) rfl dX1_meetAll_11 ?_
    refine va_get (D := D) (ci := 3) (v := .int (tPi.size gP)) (C := RX3) (T := TX3) (N := 5) hx hb hts tb_wsX30 hown hK.1 hP 1 rfl rfl 4 (by decide) (hts _ tb_23_14) (fun _ h9 => h9) rfl dX1_meetAll_14 ?_
    refine lv_icmp_ge (tgt := 37) hx hb dX1_meetAll_17 (by decide) (fun c1 => ?_) (fun c1 => ?_)
    · replace hf := zif_t hf c1
      have hu := Option.some.inj hf
      subst hu
      exact z_vret hC hP hD hS dX1_meetAll_37
    · replace hf := zif_f hf c1
      refine lv_aload_n hx hb dX1_meetAll_20 rfl (lv_at hl 0 rfl) ?_
      refine lv_iload hx hb dX1_meetAll_21 (lv_at hl 5 rfl) ?_
      refine lv_iload_n hx hb dX1_meetAll_23 rfl (lv_at hl 1 rfl) ?_
      refine lv_iload_n hx hb dX1_meetAll_24 rfl (lv_at hl 2 rfl) ?_
      refine lv_iload_n hx hb dX1_meetAll_25 rfl (lv_at hl 3 rfl) ?_
      refine lv_iload hx hb dX1_meetAll_26 (lv_at hl 4 rfl) ?_
      obtain ⟨u2, hu2, hf⟩ := zbd hf
      refine zthen_v hA hD hS (zrunV (As := [.int v5, .int v1, .int v2, .int v3, .int v4]) (rest := []) hC hP hD 29 rfl rfl (c_X1_meetOne l D cI cJ cZ h N gP gR gQ gT gE gM gS v5 v1 v2 v3 v4 u2 hu2 H.size) kRX1_32 rfl rfl ⟨by decide, by decide⟩ rfl hl.1 rfl (Nat.le_of_ble_eq_true rfl) dX1_meetAll_28) (fun H locs hP hD hS => ?_)
      refine lv_iinc (v := (v5 + (1 : Int32))) (lv' := [(5, .int (v5 + (1 : Int32))), (0, .ref (h 29)), (1, .int v1), (2, .int v2), (3, .int v3), (4, .int v4)]) hx hb dX1_meetAll_31 hl (k := 5) rfl rfl (by decide) rfl (fun ls hl => ?_)
      refine lv_goto (tgt := 8) hx hb dX1_meetAll_34 (by decide) ?_
      exact ih u2 v1 v2 v3 v4 (v5 + (1 : Int32)) H locs ls hP hD hS (lv_sub hl [1, 2, 3, 4, 5, 0] rfl) hf
set_option maxHeartbeats 4000000 in
set_option maxRecDepth 100000 in
theorem c_X1_meetAll (l : Launch) (D : va_G) (cI cJ cZ : ClassId) (h : Nat → Nat) (N : Nat) (gP : tPi) (gR : tPa) (gQ : tPa) (gT : tTr) (gE : tTe) (gM : tMe) (gS : tSq) (a1 : Int32) (a2 : Int32) (a3 : Int32) (a4 : Int32) (u : tMe) (hf : X1_meetAll N gP gM a1 a2 a3 a4 = some u) (sz : Nat) : Met l yX1_meetAll (Cond.code yX1_meetAll cX1_meetAll 6 none :: tb_L) ({ frames := 4, cells := 0, slots := 0, locals := 110 } : Room) (zPre D (zty cI cJ cZ) (zWC cI cJ cZ h gP gR gQ gT gE gM gS) sz [.ref (h 29), .int a1, .int a2, .int a3, .int a4]) (zQv D (va_A (zWC cI cJ cZ h gP gR gQ gT gE gM gS) sz) (zWC cI cJ cZ h gP gR gQ gT gE u gS)) 0 0 (va_A (zWC cI cJ cZ h gP gR gQ gT gE gM gS) sz) := by
  refine zMet (Qc := fun A => zQv D A (zWC cI cJ cZ h gP gR gQ gT gE u gS)) (by decide) rfl (Nat.le_of_ble_eq_true rfl) ?_
  intro p e s m args below meth c A ls hC _ hP hD hS hl
  replace hl : lv_has ls 6 [(0, .ref (h 29)), (1, .int a1), (2, .int a2), (3, .int a3), (4, .int a4)] := hl
  obtain ⟨hx, hb, hml, hown, hts, hK, hr, hlocks, hA⟩ := id hC
  unfold X1_meetAll at hf
  obtain ⟨H, hH⟩ : ∃ H, H = s.heap := ⟨_, rfl⟩
  rw [← hH] at hP
  replace hS : va_S A s.heap H [] := by rw [hH]; exact hS
  show W p l e _ s m args below meth c s.heap [] 0 0 _ _
  rw [← hH]
  clear hH
  obtain ⟨locs, hlo⟩ : ∃ x : List Loc, x = [] := ⟨_, rfl⟩
  rw [← hlo] at hS ⊢
  clear hlo
  refine lv_aload_n hx hb dX1_meetAll_0 rfl (lv_at hl 0 rfl) ?_
  refine lv_iconst (v := 0) hx hb dX1_meetAll_1 (by decide) ?_
  refine va_put (D := D) (ci := 1) (v := .int (0 : Int32)) (ty := .int) (C := RX1) (T := TX1) (N := 5) hx hb hts tb_wsX10 tyX1 tyX1_ok nmX1 hown hK.1 hP hD hS 29 rfl rfl 3 (by decide) (hts _ tb_23_13) (fun _ h9 => h9) rfl (by decide +kernel) rfl rfl (Nat.le_of_ble_eq_true rfl) dX1_meetAll_2 (fun H locs hP hD hS => ?_)
  replace hP : va_P D vwCl (zWC cI cJ cZ h gP gR gQ gT gE (tMe.s_size gM (0 : Int32)) gS) H := hP
  replace hD : va_D A (zWC cI cJ cZ h gP gR gQ gT gE (tMe.s_size gM (0 : Int32)) gS) := hD
  refine lv_iconst (v := 0) hx hb dX1_meetAll_5 (by decide) ?_
  refine lv_istore (lv' := [(5, .int (0 : Int32)), (0, .ref (h 29)), (1, .int a1), (2, .int a2), (3, .int a3), (4, .int a4)]) hx hb dX1_meetAll_6 hl (by decide) rfl (fun ls hl => ?_)
  exact t_X1_meetAll_b8 hC N gP gR gQ gT gE gS u N (tMe.s_size gM (0 : Int32)) a1 a2 a3 a4 (0 : Int32) H locs ls hP hD hS (lv_sub hl [1, 2, 3, 4, 5, 0] rfl) hf
set_option maxHeartbeats 4000000 in
set_option maxRecDepth 100000 in
theorem t_X7_ray_b14 {p : Program} {l : Launch} {e : Env} {s : State} {m : MethodId} {args : Array Value} {below : List Frame} {meth : Method} {c : Code} {A : Nat → Prop} {D : va_G} {cI cJ cZ : ClassId} {h : Nat → Nat} (hC : zCx p s m args meth c A D (zty cI cJ cZ) cX7_ray RX7 6 (some .int)) (N : Nat) (gP : tPi) (gR : tPa) (gQ : tPa) (gT : tTr) (gE : tTe) (gS : tSq) (u : Int32 × tMe) : ∀ (gM : tMe) (v1 : Int32) (v2 : Int32) (v3 : Int32) (v4 : Int32) (s0 : Int32) (H : Heap) (locs : List Loc) (ls : Array Slot), va_P D vwCl (zWC cI cJ cZ h gP gR gQ gT gE gM gS) H → va_D A (zWC cI cJ cZ h gP gR gQ gT gE gM gS) → va_S A s.heap H locs → lv_has ls 6 [(0, .ref (h 0)), (1, .int v1), (2, .int v2), (3, .int v3), (4, .int v4)] → X7_ray_b14 N gP gM v1 v2 v3 v4 s0 = some u → W p l e ({ frames := 5, cells := 0, slots := 0, locals := 135 } : Room) s m args below meth c H locs 0 0 (MQ below (zQi D A (zWC cI cJ cZ h gP gR gQ gT gE u.2 gS) (u.1)) args s 0 0 A) (F0 m 14 ls [.int s0]) := by
  intro gM v1 v2 v3 v4 s0 H locs ls hP hD hS hl hf
  obtain ⟨hx, hb, hml, hown, hts, hK, hr, hlocks, hA⟩ := id hC
  unfold X7_ray_b14 at hf
  refine lv_istore (lv' := [(5, .int s0), (0, .ref (h 0)), (1, .int v1), (2, .int v2), (3, .int v3), (4, .int v4)]) hx hb dX7_ray_14 hl (by decide) rfl (fun ls hl => ?_)
  refine lv_iload hx hb dX7_ray_16 (lv_at hl 0 rfl) ?_
  refine lv_if_ne (tgt := 38) hx hb dX7_ray_18 (by decide) (fun c1 => ?_) (fun c1 => ?_)
  · replace hf := zif_f hf c1
    refine lv_iconst (v := -1) hx hb dX7_ray_38 (by decide) ?_
    have hu := Option.some.inj hf
    subst hu
    exact z_iret hC hP hD hS dX7_ray_39
  · replace hf := zif_t hf c1
    refine lv_iload_n hx hb dX7_ray_21 rfl (lv_at hl 2 rfl) ?_
    refine lv_iload_n hx hb dX7_ray_22 rfl (lv_at hl 3 rfl) ?_
    obtain ⟨u2, hu2, hf⟩ := zbd hf
    refine zthen_i hA hD hS (zrunS (As := [.int v1, .int v2]) (rest := []) hC hP hD (c_X7_isBeyond l D cI cJ cZ h  gP gR gQ gT gE gM gS v1 v2 u2 hu2 H.size) kRX7_57 rfl rfl ⟨by decide, by decide⟩ rfl hl.1 rfl (Nat.le_of_ble_eq_true rfl) dX7_ray_23) (fun H locs hP hD hS => ?_)
    refine lv_if_ne (tgt := 38) hx hb dX7_ray_26 (by decide) (fun c3 => ?_) (fun c3 => ?_)
    · replace hf := zif_f hf c3
      refine lv_iconst (v := -1) hx hb dX7_ray_38 (by decide) ?_
      have hu := Option.some.inj hf
      subst hu
      exact z_iret hC hP hD hS dX7_ray_39
    · replace hf := zif_t hf c3
      refine lv_iload_n hx hb dX7_ray_29 rfl (lv_at hl 4 rfl) ?_
      refine lv_iload hx hb dX7_ray_30 (lv_at hl 5 rfl) ?_
      obtain ⟨u4, hu4, hf⟩ := zbd hf
      refine zthen_i hA hD hS (zrunS (As := [.int v3, .int v4]) (rest := []) hC hP hD (c_X7_isBeyond l D cI cJ cZ h  gP gR gQ gT gE gM gS v3 v4 u4 hu4 H.size) kRX7_57 rfl rfl ⟨by decide, by decide⟩ rfl hl.1 rfl (Nat.le_of_ble_eq_true rfl) dX7_ray_32) (fun H locs hP hD hS => ?_)
      refine lv_if_eq (tgt := 40) hx hb dX7_ray_35 (by decide) (fun c5 => ?_) (fun c5 => ?_)
      · replace hf := zif_t hf c5
        refine lv_aload_n hx hb dX7_ray_40 rfl (lv_at hl 1 rfl) ?_
        refine va_get (D := D) (ci := 7) (v := .ref (h 29)) (C := RX7) (T := TX7) (N := 5) hx hb hts tb_wsX70 hown hK.1 hP 0 rfl rfl 3 (by decide) (hts _ tb_2_7) (fun _ h9 => h9) rfl dX7_ray_41 ?_
        refine lv_iload_n hx hb dX7_ray_44 rfl (lv_at hl 2 rfl) ?_
        refine lv_iload_n hx hb dX7_ray_45 rfl (lv_at hl 3 rfl) ?_
        refine lv_iload_n hx hb dX7_ray_46 rfl (lv_at hl 4 rfl) ?_
        refine lv_iload hx hb dX7_ray_47 (lv_at hl 5 rfl) ?_
        obtain ⟨u6, hu6, hf⟩ := zbd hf
        refine zthen_v hA hD hS (zrunV (As := [.int v1, .int v2, .int v3, .int v4]) (rest := []) hC hP hD 29 rfl rfl (c_X1_meetAll l D cI cJ cZ h N gP gR gQ gT gE gM gS v1 v2 v3 v4 u6 hu6 H.size) kRX7_180 rfl rfl ⟨by decide, by decide⟩ rfl hl.1 rfl (Nat.le_of_ble_eq_true rfl) dX7_ray_49) (fun H locs hP hD hS => ?_)
        refine lv_aload_n hx hb dX7_ray_52 rfl (lv_at hl 1 rfl) ?_
        refine va_get (D := D) (ci := 7) (v := .ref (h 29)) (C := RX7) (T := TX7) (N := 5) hx hb hts tb_wsX70 hown hK.1 hP 0 rfl rfl 3 (by decide) (hts _ tb_2_7) (fun _ h9 => h9) rfl dX7_ray_53 ?_
        refine va_get (D := D) (ci := 1) (v := .int (tMe.size u6)) (C := RX1) (T := TX1) (N := 5) hx hb hts tb_wsX10 hown hK.1 hP 29 rfl rfl 3 (by decide) (hts _ tb_23_8) (fun _ h9 => h9) rfl dX7_ray_56 ?_
        have hu := Option.some.inj hf
        subst hu
        exact z_iret hC hP hD hS dX7_ray_59
      · replace hf := zif_f hf c5
        refine lv_iconst (v := -1) hx hb dX7_ray_38 (by decide) ?_
        have hu := Option.some.inj hf
        subst hu
        exact z_iret hC hP hD hS dX7_ray_39
set_option maxHeartbeats 4000000 in
set_option maxRecDepth 100000 in
theorem t_X7_ray_b13 {p : Program} {l : Launch} {e : Env} {s : State} {m : MethodId} {args : Array Value} {below : List Frame} {meth : Method} {c : Code} {A : Nat → Prop} {D : va_G} {cI cJ cZ : ClassId} {h : Nat → Nat} (hC : zCx p s m args meth c A D (zty cI cJ cZ) cX7_ray RX7 6 (some .int)) (N : Nat) (gP : tPi) (gR : tPa) (gQ : tPa) (gT : tTr) (gE : tTe) (gS : tSq) (u : Int32 × tMe) : ∀ (gM : tMe) (v1 : Int32) (v2 : Int32) (v3 : Int32) (v4 : Int32) (H : Heap) (locs : List Loc) (ls : Array Slot), va_P D vwCl (zWC cI cJ cZ h gP gR gQ gT gE gM gS) H → va_D A (zWC cI cJ cZ h gP gR gQ gT gE gM gS) → va_S A s.heap H locs → lv_has ls 6 [(0, .ref (h 0)), (1, .int v1), (2, .int v2), (3, .int v3), (4, .int v4)] → X7_ray_b13 N gP gM v1 v2 v3 v4 = some u → W p l e ({ frames := 5, cells := 0, slots := 0, locals := 135 } : Room) s m args below meth c H locs 0 0 (MQ below (zQi D A (zWC cI cJ cZ h gP gR gQ gT gE u.2 gS) (u.1)) args s 0 0 A) (F0 m 13 ls []) := by
  intro gM v1 v2 v3 v4 H locs ls hP hD hS hl hf
  obtain ⟨hx, hb, hml, hown, hts, hK, hr, hlocks, hA⟩ := id hC
  unfold X7_ray_b13 at hf
  refine lv_iconst (v := 0) hx hb dX7_ray_13 (by decide) ?_
  exact t_X7_ray_b14 hC N gP gR gQ gT gE gS u gM v1 v2 v3 v4 (0 : Int32) H locs ls hP hD hS (lv_sub hl [0, 1, 2, 3, 4] rfl) hf
set_option maxHeartbeats 4000000 in
set_option maxRecDepth 100000 in
theorem c_X7_ray (l : Launch) (D : va_G) (cI cJ cZ : ClassId) (h : Nat → Nat) (N : Nat) (gP : tPi) (gR : tPa) (gQ : tPa) (gT : tTr) (gE : tTe) (gM : tMe) (gS : tSq) (a1 : Int32) (a2 : Int32) (a3 : Int32) (a4 : Int32) (u : Int32 × tMe) (hf : X7_ray N gP gM a1 a2 a3 a4 = some u) (sz : Nat) : Met l yX7_ray (Cond.code yX7_ray cX7_ray 6 (some .int) :: tb_L) ({ frames := 5, cells := 0, slots := 0, locals := 135 } : Room) (zPre D (zty cI cJ cZ) (zWC cI cJ cZ h gP gR gQ gT gE gM gS) sz [.ref (h 0), .int a1, .int a2, .int a3, .int a4]) (zQi D (va_A (zWC cI cJ cZ h gP gR gQ gT gE gM gS) sz) (zWC cI cJ cZ h gP gR gQ gT gE u.2 gS) (u.1)) 0 0 (va_A (zWC cI cJ cZ h gP gR gQ gT gE gM gS) sz) := by
  refine zMet (Qc := fun A => zQi D A (zWC cI cJ cZ h gP gR gQ gT gE u.2 gS) (u.1)) (by decide) rfl (Nat.le_of_ble_eq_true rfl) ?_
  intro p e s m args below meth c A ls hC _ hP hD hS hl
  replace hl : lv_has ls 6 [(0, .ref (h 0)), (1, .int a1), (2, .int a2), (3, .int a3), (4, .int a4)] := hl
  obtain ⟨hx, hb, hml, hown, hts, hK, hr, hlocks, hA⟩ := id hC
  unfold X7_ray at hf
  obtain ⟨H, hH⟩ : ∃ H, H = s.heap := ⟨_, rfl⟩
  rw [← hH] at hP
  replace hS : va_S A s.heap H [] := by rw [hH]; exact hS
  show W p l e _ s m args below meth c s.heap [] 0 0 _ _
  rw [← hH]
  clear hH
  obtain ⟨locs, hlo⟩ : ∃ x : List Loc, x = [] := ⟨_, rfl⟩
  rw [← hlo] at hS ⊢
  clear hlo
  refine lv_iload_n hx hb dX7_ray_0 rfl (lv_at hl 3 rfl) ?_
  refine lv_if_ne (tgt := 13) hx hb dX7_ray_1 (by decide) (fun c7 => ?_) (fun c7 => ?_)
  · replace hf := zif_f hf c7
    exact t_X7_ray_b13 hC N gP gR gQ gT gE gS u gM a1 a2 a3 a4 H locs ls hP hD hS (lv_sub hl [0, 1, 2, 3, 4] rfl) hf
  · replace hf := zif_t hf c7
    refine lv_iload hx hb dX7_ray_4 (lv_at hl 4 rfl) ?_
    refine lv_if_ne (tgt := 13) hx hb dX7_ray_6 (by decide) (fun c8 => ?_) (fun c8 => ?_)
    · replace hf := zif_f hf c8
      exact t_X7_ray_b13 hC N gP gR gQ gT gE gS u gM a1 a2 a3 a4 H locs ls hP hD hS (lv_sub hl [0, 1, 2, 3, 4] rfl) hf
    · replace hf := zif_t hf c8
      refine lv_iconst (v := 1) hx hb dX7_ray_9 (by decide) ?_
      refine lv_goto (tgt := 14) hx hb dX7_ray_10 (by decide) ?_
      exact t_X7_ray_b14 hC N gP gR gQ gT gE gS u gM a1 a2 a3 a4 (1 : Int32) H locs ls hP hD hS (lv_sub hl [0, 1, 2, 3, 4] rfl) hf
