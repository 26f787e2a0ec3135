set_option maxHeartbeats 4000000 in
set_option maxRecDepth 100000 in
theorem t_X6_grow_b22 {p : Program} {l : Launch} {e : Env} {s : State} {m : MethodId} {args : Array Value} {below : List Frame} {meth : Method} {c : Code} {A : Nat → Prop} {D : va_G} {cI cJ cZ : ClassId} {h : Nat → Nat} (hC : zCx p s m args meth c A D (zty cI cJ cZ) cX6_grow RX6 6 (some .int)) (N : Nat) (f lo : Nat) (rc : tPi → tPa → tPa → tTr → Int32 → Int32 → Int32 → Int32 → Option (Int32 × tPa × tPa × tTr)) (hrc : ∀ (gP : tPi) (gR : tPa) (gQ : tPa) (gT : tTr) (gE : tTe) (gM : tMe) (gS : tSq) (b0 b1 b2 b3 : Int32) (u : Int32 × tPa × tPa × tTr), rc gP gR gQ gT b0 b1 b2 b3 = some u → ∀ sz : Nat, Met l yX6_grow (Cond.code yX6_grow cX6_grow 6 (some .int) :: tb_L) ({ frames := f, cells := 0, slots := 0, locals := lo } : Room) (zPre D (zty cI cJ cZ) (zWC cI cJ cZ h gP gR gQ gT gE gM gS) sz [.ref (h 13), .int b0, .int b1, .int b2, .int b3]) (zQi D (va_A (zWC cI cJ cZ h gP gR gQ gT gE gM gS) sz) (zWC cI cJ cZ h gP u.2.1 u.2.2.1 u.2.2.2 gE gM gS) (u.1)) 0 0 (va_A (zWC cI cJ cZ h gP gR gQ gT gE gM gS) sz)) (gP : tPi) (gE : tTe) (gM : tMe) (gS : tSq) (u : Int32 × tPa × tPa × tTr) : ∀ (gR : tPa) (gQ : tPa) (gT : tTr) (H : Heap) (locs : List Loc) (ls : Array Slot), va_P D vwCl (zWC cI cJ cZ h gP gR gQ gT gE gM gS) H → va_D A (zWC cI cJ cZ h gP gR gQ gT gE gM gS) → va_S A s.heap H locs → lv_has ls 6 [(0, .ref (h 13))] → X6_grow_b22 N rc gP gR gQ gT = some u → W p l e ({ frames := f + 4, cells := 0, slots := 0, locals := lo + 107 } : Room) s m args below meth c H locs 0 0 (MQ below (zQi D A (zWC cI cJ cZ h gP u.2.1 u.2.2.1 u.2.2.2 gE gM gS) (u.1)) args s 0 0 A) (F0 m 22 ls []) := by
  intro gR gQ gT H locs ls hP hD hS hl hf
  obtain ⟨hx, hb, hml, hown, hts, hK, hr, hlocks, hA⟩ := id hC
  unfold X6_grow_b22 at hf
  refine lv_aload_n hx hb dX6_grow_22 rfl (lv_at hl 0 rfl) ?_
  refine lv_dup hx hb dX6_grow_23 rfl ?_
  refine va_get (D := D) (ci := 6) (v := .int (tTr.leaves gT)) (C := RX6) (T := TX6) (N := 17) hx hb hts tb_wsX60 hown hK.1 hP 13 rfl rfl 11 (by decide) (hts _ tb_7_15) (fun _ h9 => h9) rfl dX6_grow_24 ?_
  refine lv_iconst (v := 1) hx hb dX6_grow_27 (by decide) ?_
  refine lv_iadd hx hb dX6_grow_28 ?_
  refine va_put (D := D) (ci := 6) (v := .int ((tTr.leaves gT) + (1 : Int32))) (ty := .int) (C := RX6) (T := TX6) (N := 17) hx hb hts tb_wsX60 tyX6 tyX6_ok nmX6 hown hK.1 hP hD hS 13 rfl rfl 11 (by decide) (hts _ tb_7_15) (fun _ h9 => h9) rfl (by decide +kernel) rfl rfl (Nat.le_of_ble_eq_true rfl) dX6_grow_29 (fun H locs hP hD hS => ?_)
  replace hP : va_P D vwCl (zWC cI cJ cZ h gP gR gQ (tTr.s_leaves gT ((tTr.leaves gT) + (1 : Int32))) gE gM gS) H := hP
  replace hD : va_D A (zWC cI cJ cZ h gP gR gQ (tTr.s_leaves gT ((tTr.leaves gT) + (1 : Int32))) gE gM gS) := hD
  refine lv_bipush (v := -2) hx hb dX6_grow_32 (by decide) ?_
  refine lv_aload_n hx hb dX6_grow_34 rfl (lv_at hl 0 rfl) ?_
  refine va_get (D := D) (ci := 6) (v := .int ((tTr.leaves gT) + (1 : Int32))) (C := RX6) (T := TX6) (N := 17) hx hb hts tb_wsX60 hown hK.1 hP 13 rfl rfl 11 (by decide) (hts _ tb_7_15) (fun _ h9 => h9) rfl dX6_grow_35 ?_
  refine lv_iconst (v := 1) hx hb dX6_grow_38 (by decide) ?_
  refine lv_isub hx hb dX6_grow_39 ?_
  refine lv_isub hx hb dX6_grow_40 ?_
  have hu := Option.some.inj hf
  subst hu
  exact z_iret hC hP hD hS dX6_grow_41
set_option maxHeartbeats 4000000 in
set_option maxRecDepth 100000 in
theorem c_X6_grow_body (l : Launch) (D : va_G) (cI cJ cZ : ClassId) (h : Nat → Nat) (N : Nat) (f lo : Nat) (rc : tPi → tPa → tPa → tTr → Int32 → Int32 → Int32 → Int32 → Option (Int32 × tPa × tPa × tTr)) (hrc : ∀ (gP : tPi) (gR : tPa) (gQ : tPa) (gT : tTr) (gE : tTe) (gM : tMe) (gS : tSq) (b0 b1 b2 b3 : Int32) (u : Int32 × tPa × tPa × tTr), rc gP gR gQ gT b0 b1 b2 b3 = some u → ∀ sz : Nat, Met l yX6_grow (Cond.code yX6_grow cX6_grow 6 (some .int) :: tb_L) ({ frames := f, cells := 0, slots := 0, locals := lo } : Room) (zPre D (zty cI cJ cZ) (zWC cI cJ cZ h gP gR gQ gT gE gM gS) sz [.ref (h 13), .int b0, .int b1, .int b2, .int b3]) (zQi D (va_A (zWC cI cJ cZ h gP gR gQ gT gE gM gS) sz) (zWC cI cJ cZ h gP u.2.1 u.2.2.1 u.2.2.2 gE gM gS) (u.1)) 0 0 (va_A (zWC cI cJ cZ h gP gR gQ gT gE gM gS) sz)) (gP : tPi) (gR : tPa) (gQ : tPa) (gT : tTr) (gE : tTe) (gM : tMe) (gS : tSq) (a1 : Int32) (a2 : Int32) (a3 : Int32) (a4 : Int32) (u : Int32 × tPa × tPa × tTr) (hf : X6_grow_body N rc gP gR gQ gT a1 a2 a3 a4 = some u) (sz : Nat) : Met l yX6_grow (Cond.code yX6_grow cX6_grow 6 (some .int) :: tb_L) ({ frames := f + 4, cells := 0, slots := 0, locals := lo + 107 } : Room) (zPre D (zty cI cJ cZ) (zWC cI cJ cZ h gP gR gQ gT gE gM gS) sz [.ref (h 13), .int a1, .int a2, .int a3, .int a4]) (zQi D (va_A (zWC cI cJ cZ h gP gR gQ gT gE gM gS) sz) (zWC cI cJ cZ h gP u.2.1 u.2.2.1 u.2.2.2 gE gM gS) (u.1)) 0 0 (va_A (zWC cI cJ cZ h gP gR gQ gT gE gM gS) sz) := by
  refine zMet (Qc := fun A => zQi D A (zWC cI cJ cZ h gP u.2.1 u.2.2.1 u.2.2.2 gE gM gS) (u.1)) (by decide) rfl (Nat.le_of_ble_eq_true rfl) ?_
  intro p e s m args below meth c A ls hC _ hP hD hS hl
  replace hl : lv_has ls 6 [(0, .ref (h 13)), (1, .int a1), (2, .int a2), (3, .int a3), (4, .int a4)] := hl
  obtain ⟨hx, hb, hml, hown, hts, hK, hr, hlocks, hA⟩ := id hC
  unfold X6_grow_body at hf
  obtain ⟨H, hH⟩ : ∃ H, H = s.heap := ⟨_, rfl⟩
  rw [← hH] at hP
  replace hS : va_S A s.heap H [] := by rw [hH]; exact hS
  show W p l e _ s m args below meth c s.heap [] 0 0 _ _
  rw [← hH]
  clear hH
  obtain ⟨locs, hlo⟩ : ∃ x : List Loc, x = [] := ⟨_, rfl⟩
  rw [← hlo] at hS ⊢
  clear hlo
  refine lv_iload_n hx hb dX6_grow_0 rfl (lv_at hl 1 rfl) ?_
  refine lv_iload_n hx hb dX6_grow_1 rfl (lv_at hl 2 rfl) ?_
  refine lv_icmp_ge (tgt := 22) hx hb dX6_grow_2 (by decide) (fun c1 => ?_) (fun c1 => ?_)
  · replace hf := zif_t hf c1
    exact t_X6_grow_b22 hC N f lo rc hrc gP gE gM gS u gR gQ gT H locs ls hP hD hS (lv_sub hl [0] rfl) hf
  · replace hf := zif_f hf c1
    refine lv_iload hx hb dX6_grow_5 (lv_at hl 4 rfl) ?_
    refine lv_bipush (v := 24) hx hb dX6_grow_7 (by decide) ?_
    refine lv_icmp_ge (tgt := 22) hx hb dX6_grow_9 (by decide) (fun c2 => ?_) (fun c2 => ?_)
    · replace hf := zif_t hf c2
      exact t_X6_grow_b22 hC N f lo rc hrc gP gE gM gS u gR gQ gT H locs ls hP hD hS (lv_sub hl [0] rfl) hf
    · replace hf := zif_f hf c2
      refine lv_aload_n hx hb dX6_grow_12 rfl (lv_at hl 0 rfl) ?_
      refine va_get (D := D) (ci := 6) (v := .int (tTr.knots gT)) (C := RX6) (T := TX6) (N := 17) hx hb hts tb_wsX60 hown hK.1 hP 13 rfl rfl 10 (by decide) (hts _ tb_7_14) (fun _ h9 => h9) rfl dX6_grow_13 ?_
      refine lv_sipush (v := 300) hx hb dX6_grow_16 (by decide) ?_
      refine lv_icmp_lt (tgt := 42) hx hb dX6_grow_19 (by decide) (fun c3 => ?_) (fun c3 => ?_)
      · replace hf := zif_t hf c3
        refine lv_aload_n hx hb dX6_grow_42 rfl (lv_at hl 0 rfl) ?_
        refine va_get (D := D) (ci := 6) (v := .int (tTr.knots gT)) (C := RX6) (T := TX6) (N := 17) hx hb hts tb_wsX60 hown hK.1 hP 13 rfl rfl 10 (by decide) (hts _ tb_7_14) (fun _ h9 => h9) rfl dX6_grow_43 ?_
        refine lv_topi (fun x4 ex4 => ?_)
        replace hf := zl_n ex4 hf
        refine lv_istore (lv' := [(5, .int x4), (0, .ref (h 13)), (1, .int a1), (2, .int a2), (3, .int a3), (4, .int a4)]) hx hb dX6_grow_46 hl (by decide) rfl (fun ls hl => ?_)
        refine lv_aload_n hx hb dX6_grow_48 rfl (lv_at hl 1 rfl) ?_
        refine lv_dup hx hb dX6_grow_49 rfl ?_
        refine va_get (D := D) (ci := 6) (v := .int (tTr.knots gT)) (C := RX6) (T := TX6) (N := 17) hx hb hts tb_wsX60 hown hK.1 hP 13 rfl rfl 10 (by decide) (hts _ tb_7_14) (fun _ h9 => h9) rfl dX6_grow_50 ?_
        refine lv_iconst (v := 1) hx hb dX6_grow_53 (by decide) ?_
        refine lv_iadd hx hb dX6_grow_54 ?_
        refine va_put (D := D) (ci := 6) (v := .int ((tTr.knots gT) + (1 : Int32))) (ty := .int) (C := RX6) (T := TX6) (N := 17) hx hb hts tb_wsX60 tyX6 tyX6_ok nmX6 hown hK.1 hP hD hS 13 rfl rfl 10 (by decide) (hts _ tb_7_14) (fun _ h9 => h9) rfl (by decide +kernel) rfl rfl (Nat.le_of_ble_eq_true rfl) dX6_grow_55 (fun H locs hP hD hS => ?_)
        replace hP : va_P D vwCl (zWC cI cJ cZ h gP gR gQ (tTr.s_knots gT ((tTr.knots gT) + (1 : Int32))) gE gM gS) H := hP
        replace hD : va_D A (zWC cI cJ cZ h gP gR gQ (tTr.s_knots gT ((tTr.knots gT) + (1 : Int32))) gE gM gS) := hD
        refine lv_aload_n hx hb dX6_grow_58 rfl (lv_at hl 1 rfl) ?_
        refine lv_aload_n hx hb dX6_grow_59 rfl (lv_at hl 1 rfl) ?_
        refine va_get (D := D) (ci := 6) (v := .int (tTr.height gT)) (C := RX6) (T := TX6) (N := 17) hx hb hts tb_wsX60 hown hK.1 hP 13 rfl rfl 12 (by decide) (hts _ tb_7_16) (fun _ h9 => h9) rfl dX6_grow_60 ?_
        refine lv_iload hx hb dX6_grow_63 (lv_at hl 5 rfl) ?_
        refine lv_iconst (v := 1) hx hb dX6_grow_65 (by decide) ?_
        refine lv_iadd hx hb dX6_grow_66 ?_
        refine va_mmax hx hb (hml.trans hl.1.symm) hown (hts _ tb_11_21) (hts _ tb_11_22) (hts _ tb_11_23) (hts _ tb_12_0) (by dsimp only; omega) (by simp only [List.map, List.sum, List.foldr, Value.category]; omega) (Nat.zero_le _) (Nat.zero_le _) dX6_grow_67 ?_
        refine va_put (D := D) (ci := 6) (v := .int (if (tTr.height gT) < (a4 + (1 : Int32)) then (a4 + (1 : Int32)) else (tTr.height gT))) (ty := .int) (C := RX6) (T := TX6) (N := 17) hx hb hts tb_wsX60 tyX6 tyX6_ok nmX6 hown hK.1 hP hD hS 13 rfl rfl 12 (by decide) (hts _ tb_7_16) (fun _ h9 => h9) rfl (by decide +kernel) rfl rfl (Nat.le_of_ble_eq_true rfl) dX6_grow_70 (fun H locs hP hD hS => ?_)
        replace hP : va_P D vwCl (zWC cI cJ cZ h gP gR gQ (tTr.s_height (tTr.s_knots gT ((tTr.knots gT) + (1 : Int32))) (if (tTr.height gT) < (a4 + (1 : Int32)) then (a4 + (1 : Int32)) else (tTr.height gT))) gE gM gS) H := hP
        replace hD : va_D A (zWC cI cJ cZ h gP gR gQ (tTr.s_height (tTr.s_knots gT ((tTr.knots gT) + (1 : Int32))) (if (tTr.height gT) < (a4 + (1 : Int32)) then (a4 + (1 : Int32)) else (tTr.height gT))) gE gM gS) := hD
        refine lv_aload_n hx hb dX6_grow_73 rfl (lv_at hl 1 rfl) ?_
        refine va_get (D := D) (ci := 6) (v := .ref (h 14)) (C := RX6) (T := TX6) (N := 17) hx hb hts tb_wsX60 hown hK.1 hP 13 rfl rfl 0 (by decide) (hts _ tb_3_17) (fun _ h9 => h9) rfl dX6_grow_74 ?_
        refine lv_iload hx hb dX6_grow_77 (lv_at hl 0 rfl) ?_
        refine lv_aload_n hx hb dX6_grow_79 rfl (lv_at hl 1 rfl) ?_
        refine va_get (D := D) (ci := 6) (v := .ref (h 6)) (C := RX6) (T := TX6) (N := 17) hx hb hts tb_wsX60 hown hK.1 hP 13 rfl rfl 14 (by decide) (hts _ tb_4_3) (fun _ h9 => h9) rfl dX6_grow_80 ?_
        refine va_get (D := D) (ci := 0) (v := .ref (h 7)) (C := RX0) (T := TX0) (N := 2) hx hb hts tb_wsX00 hown hK.1 hP 6 rfl rfl 0 (by decide) (hts _ tb_11_0) (fun _ h9 => h9) rfl dX6_grow_83 ?_
        refine va_get (D := D) (ci := 2) (v := .ref (h 8)) (C := RX2) (T := TX2) (N := 6) hx hb hts tb_wsX20 hown hK.1 hP 7 rfl rfl 0 (by decide) (hts _ tb_12_1) (fun _ h9 => h9) rfl dX6_grow_86 ?_
        refine lv_aload_n hx hb dX6_grow_89 rfl (lv_at hl 1 rfl) ?_
        refine lv_iload_n hx hb dX6_grow_90 rfl (lv_at hl 2 rfl) ?_
        refine lv_iload_n hx hb dX6_grow_91 rfl (lv_at hl 3 rfl) ?_
        obtain ⟨u5, hu5, hf⟩ := zbd hf
        refine zthen_i hA hD hS (zrunV (As := [.int a1, .int a2]) (rest := [.ref (h 8), .int x4, .ref (h 14)]) hC hP hD 13 rfl rfl (c_X6_choose l D cI cJ cZ h N gP gR gQ (tTr.s_height (tTr.s_knots gT ((tTr.knots gT) + (1 : Int32))) (if (tTr.height gT) < (a4 + (1 : Int32)) then (a4 + (1 : Int32)) else (tTr.height gT))) gE gM gS a1 a2 u5 hu5 H.size) kRX6_98 rfl rfl ⟨by dsimp only; omega, by dsimp only; omega⟩ rfl hl.1 rfl (Nat.le_of_ble_eq_true rfl) dX6_grow_92) (fun H locs hP hD hS => ?_)
        obtain ⟨h6, hf⟩ := zck_s hf
        refine va_iald hx hb hK.1 hP 8 0 rfl rfl h6 dX6_grow_95 ?_
        obtain ⟨h7, hf⟩ := zck_s hf
        refine va_iast hx hb hK.1 hP hD hS 14 0 rfl rfl h7 dX6_grow_96 (fun H locs hP hD hS => ?_)
        replace hP : va_P D vwCl (zWC cI cJ cZ h gP gR gQ (tTr.s_line u5.2 (upd (tTr.line u5.2) x4.toNatClampNeg ((tPa.owner gR) (u5.1).toNatClampNeg))) gE gM gS) H := hP
        replace hD : va_D A (zWC cI cJ cZ h gP gR gQ (tTr.s_line u5.2 (upd (tTr.line u5.2) x4.toNatClampNeg ((tPa.owner gR) (u5.1).toNatClampNeg))) gE gM gS) := hD
        refine lv_aload_n hx hb dX6_grow_97 rfl (lv_at hl 1 rfl) ?_
        refine va_get (D := D) (ci := 6) (v := .ref (h 19)) (C := RX6) (T := TX6) (N := 17) hx hb hts tb_wsX60 hown hK.1 hP 13 rfl rfl 5 (by decide) (hts _ tb_3_22) (fun _ h9 => h9) rfl dX6_grow_98 ?_
        refine lv_iload hx hb dX6_grow_101 (lv_at hl 0 rfl) ?_
        refine lv_iload_n hx hb dX6_grow_103 rfl (lv_at hl 4 rfl) ?_
        obtain ⟨h8, hf⟩ := zck_s hf
        refine va_iast hx hb hK.1 hP hD hS 19 0 rfl rfl h8 dX6_grow_104 (fun H locs hP hD hS => ?_)
        replace hP : va_P D vwCl (zWC cI cJ cZ h gP gR gQ (tTr.s_above (tTr.s_line u5.2 (upd (tTr.line u5.2) x4.toNatClampNeg ((tPa.owner gR) (u5.1).toNatClampNeg))) (upd (tTr.above u5.2) x4.toNatClampNeg a3)) gE gM gS) H := hP
        replace hD : va_D A (zWC cI cJ cZ h gP gR gQ (tTr.s_above (tTr.s_line u5.2 (upd (tTr.line u5.2) x4.toNatClampNeg ((tPa.owner gR) (u5.1).toNatClampNeg))) (upd (tTr.above u5.2) x4.toNatClampNeg a3)) gE gM gS) := hD
        refine lv_aload_n hx hb dX6_grow_105 rfl (lv_at hl 1 rfl) ?_
        refine lv_iload hx hb dX6_grow_106 (lv_at hl 0 rfl) ?_
        refine lv_iload_n hx hb dX6_grow_108 rfl (lv_at hl 2 rfl) ?_
        refine lv_iload_n hx hb dX6_grow_109 rfl (lv_at hl 3 rfl) ?_
        obtain ⟨u9, hu9, hf⟩ := zbd hf
        refine zthen_v hA hD hS (zrunV (As := [.int x4, .int a1, .int a2]) (rest := []) hC hP hD 13 rfl rfl (c_X6_hold l D cI cJ cZ h N gP gR gQ (tTr.s_above (tTr.s_line u5.2 (upd (tTr.line u5.2) x4.toNatClampNeg ((tPa.owner gR) (u5.1).toNatClampNeg))) (upd (tTr.above u5.2) x4.toNatClampNeg a3)) gE gM gS x4 a1 a2 u9 hu9 H.size) kRX6_101 rfl rfl ⟨by dsimp only; omega, by dsimp only; omega⟩ rfl hl.1 rfl (Nat.le_of_ble_eq_true rfl) dX6_grow_110) (fun H locs hP hD hS => ?_)
        refine lv_aload_n hx hb dX6_grow_113 rfl (lv_at hl 1 rfl) ?_
        refine va_get (D := D) (ci := 6) (v := .ref (h 17)) (C := RX6) (T := TX6) (N := 17) hx hb hts tb_wsX60 hown hK.1 hP 13 rfl rfl 3 (by decide) (hts _ tb_3_20) (fun _ h9 => h9) rfl dX6_grow_114 ?_
        refine lv_iload hx hb dX6_grow_117 (lv_at hl 0 rfl) ?_
        refine lv_aload_n hx hb dX6_grow_119 rfl (lv_at hl 1 rfl) ?_
        refine lv_iload_n hx hb dX6_grow_120 rfl (lv_at hl 2 rfl) ?_
        refine lv_iload_n hx hb dX6_grow_121 rfl (lv_at hl 3 rfl) ?_
        refine lv_iload hx hb dX6_grow_122 (lv_at hl 0 rfl) ?_
        refine lv_iconst (v := 1) hx hb dX6_grow_124 (by decide) ?_
        refine lv_iload hx hb dX6_grow_125 (lv_at hl 5 rfl) ?_
        obtain ⟨u10, hu10, hf⟩ := zbd hf
        refine zthen_i hA hD hS (zrunV (As := [.int a1, .int a2, .int x4, .int (1 : Int32), .int a4]) (rest := [.int x4, .ref (h 17)]) hC hP hD 13 rfl rfl (c_X6_growSide l D cI cJ cZ h N f lo rc hrc gP gR u9.1 u9.2 gE gM gS a1 a2 x4 (1 : Int32) a4 u10 hu10 H.size) kRX6_105 rfl rfl ⟨by dsimp only; omega, by dsimp only; omega⟩ rfl hl.1 rfl (Nat.le_of_ble_eq_true rfl) dX6_grow_127) (fun H locs hP hD hS => ?_)
        obtain ⟨h11, hf⟩ := zck_s hf
        refine va_iast hx hb hK.1 hP hD hS 17 0 rfl rfl h11 dX6_grow_130 (fun H locs hP hD hS => ?_)
        replace hP : va_P D vwCl (zWC cI cJ cZ h gP u10.2.1 u10.2.2.1 (tTr.s_front u10.2.2.2 (upd (tTr.front u10.2.2.2) x4.toNatClampNeg u10.1)) gE gM gS) H := hP
        replace hD : va_D A (zWC cI cJ cZ h gP u10.2.1 u10.2.2.1 (tTr.s_front u10.2.2.2 (upd (tTr.front u10.2.2.2) x4.toNatClampNeg u10.1)) gE gM gS) := hD
        refine lv_aload_n hx hb dX6_grow_131 rfl (lv_at hl 1 rfl) ?_
        refine va_get (D := D) (ci := 6) (v := .ref (h 18)) (C := RX6) (T := TX6) (N := 17) hx hb hts tb_wsX60 hown hK.1 hP 13 rfl rfl 4 (by decide) (hts _ tb_3_21) (fun _ h9 => h9) rfl dX6_grow_132 ?_
        refine lv_iload hx hb dX6_grow_135 (lv_at hl 0 rfl) ?_
        refine lv_aload_n hx hb dX6_grow_137 rfl (lv_at hl 1 rfl) ?_
        refine lv_iload_n hx hb dX6_grow_138 rfl (lv_at hl 2 rfl) ?_
        refine lv_iload_n hx hb dX6_grow_139 rfl (lv_at hl 3 rfl) ?_
        refine lv_iload hx hb dX6_grow_140 (lv_at hl 0 rfl) ?_
        refine lv_iconst (v := 2) hx hb dX6_grow_142 (by decide) ?_
        refine lv_iload hx hb dX6_grow_143 (lv_at hl 5 rfl) ?_
        obtain ⟨u12, hu12, hf⟩ := zbd hf
        refine zthen_i hA hD hS (zrunV (As := [.int a1, .int a2, .int x4, .int (2 : Int32), .int a4]) (rest := [.int x4, .ref (h 18)]) hC hP hD 13 rfl rfl (c_X6_growSide l D cI cJ cZ h N f lo rc hrc gP u10.2.1 u10.2.2.1 (tTr.s_front u10.2.2.2 (upd (tTr.front u10.2.2.2) x4.toNatClampNeg u10.1)) gE gM gS a1 a2 x4 (2 : Int32) a4 u12 hu12 H.size) kRX6_105 rfl rfl ⟨by dsimp only; omega, by dsimp only; omega⟩ rfl hl.1 rfl (Nat.le_of_ble_eq_true rfl) dX6_grow_145) (fun H locs hP hD hS => ?_)
        obtain ⟨h13, hf⟩ := zck_s hf
        refine va_iast hx hb hK.1 hP hD hS 18 0 rfl rfl h13 dX6_grow_148 (fun H locs hP hD hS => ?_)
        replace hP : va_P D vwCl (zWC cI cJ cZ h gP u12.2.1 u12.2.2.1 (tTr.s_back u12.2.2.2 (upd (tTr.back u12.2.2.2) x4.toNatClampNeg u12.1)) gE gM gS) H := hP
        replace hD : va_D A (zWC cI cJ cZ h gP u12.2.1 u12.2.2.1 (tTr.s_back u12.2.2.2 (upd (tTr.back u12.2.2.2) x4.toNatClampNeg u12.1)) gE gM gS) := hD
        refine lv_iload hx hb dX6_grow_149 (lv_at hl 0 rfl) ?_
        have hu := Option.some.inj hf
        subst hu
        exact z_iret hC hP hD hS dX6_grow_151
      · replace hf := zif_f hf c3
        exact t_X6_grow_b22 hC N f lo rc hrc gP gE gM gS u gR gQ gT H locs ls hP hD hS (lv_sub hl [0] rfl) hf
set_option maxHeartbeats 4000000 in
set_option maxRecDepth 100000 in
theorem c_X6_grow (l : Launch) (D : va_G) (cI cJ cZ : ClassId) (h : Nat → Nat) (N : Nat) : ∀ (d : Nat) (gP : tPi) (gR : tPa) (gQ : tPa) (gT : tTr) (gE : tTe) (gM : tMe) (gS : tSq) (a1 : Int32) (a2 : Int32) (a3 : Int32) (a4 : Int32) (u : Int32 × tPa × tPa × tTr), X6_grow N d gP gR gQ gT a1 a2 a3 a4 = some u → ∀ (sz : Nat), Met l yX6_grow (Cond.code yX6_grow cX6_grow 6 (some .int) :: tb_L) ({ frames := 4 * d, cells := 0, slots := 0, locals := 107 * d } : Room) (zPre D (zty cI cJ cZ) (zWC cI cJ cZ h gP gR gQ gT gE gM gS) sz [.ref (h 13), .int a1, .int a2, .int a3, .int a4]) (zQi D (va_A (zWC cI cJ cZ h gP gR gQ gT gE gM gS) sz) (zWC cI cJ cZ h gP u.2.1 u.2.2.1 u.2.2.2 gE gM gS) (u.1)) 0 0 (va_A (zWC cI cJ cZ h gP gR gQ gT gE gM gS) sz) := by
  intro d
  induction d with
  | zero => intro gP gR gQ gT gE gM gS a1 a2 a3 a4 u hf; cases hf
  | succ d ih =>
    intro gP gR gQ gT gE gM gS a1 a2 a3 a4 u hf sz
    rw [X6_grow] at hf
    exact c_X6_grow_body l D cI cJ cZ h N (4 * d) (107 * d) _ ih gP gR gQ gT gE gM gS a1 a2 a3 a4 u hf sz
set_option maxHeartbeats 4000000 in
set_option maxRecDepth 100000 in
theorem c_X6_raise (l : Launch) (D : va_G) (cI cJ cZ : ClassId) (h : Nat → Nat) (N : Nat) (gP : tPi) (gR : tPa) (gQ : tPa) (gT : tTr) (gE : tTe) (gM : tMe) (gS : tSq) (a1 : Int32) (a2 : Int32) (u : tPa × tPa × tTr) (hf : X6_raise N gP gR gQ gT a1 a2 = some u) (sz : Nat) : Met l yX6_raise (Cond.code yX6_raise cX6_raise 3 none :: tb_L) ({ frames := 101, cells := 0, slots := 0, locals := 2700 } : Room) (zPre D (zty cI cJ cZ) (zWC cI cJ cZ h gP gR gQ gT gE gM gS) sz [.ref (h 13), .int a1, .int a2]) (zQv D (va_A (zWC cI cJ cZ h gP gR gQ gT gE gM gS) sz) (zWC cI cJ cZ h gP u.1 u.2.1 u.2.2 gE gM gS)) 0 0 (va_A (zWC cI cJ cZ h gP gR gQ gT gE gM gS) sz) := by
  refine zMet (Qc := fun A => zQv D A (zWC cI cJ cZ h gP u.1 u.2.1 u.2.2 gE gM gS)) (by decide) rfl (Nat.le_of_ble_eq_true rfl) ?_
  intro p e s m args below meth c A ls hC _ hP hD hS hl
  replace hl : lv_has ls 3 [(0, .ref (h 13)), (1, .int a1), (2, .int a2)] := hl
  obtain ⟨hx, hb, hml, hown, hts, hK, hr, hlocks, hA⟩ := id hC
  unfold X6_raise at hf
  obtain ⟨H, hH⟩ : ∃ H, H = s.heap := ⟨_, rfl⟩
  rw [← hH] at hP
  replace hS : va_S A s.heap H [] := by rw [hH]; exact hS
  show W p l e _ s m args below meth c s.heap [] 0 0 _ _
  rw [← hH]
  clear hH
  obtain ⟨locs, hlo⟩ : ∃ x : List Loc, x = [] := ⟨_, rfl⟩
  rw [← hlo] at hS ⊢
  clear hlo
  refine lv_aload_n hx hb dX6_raise_0 rfl (lv_at hl 0 rfl) ?_
  obtain ⟨u1, hu1, hf⟩ := zbd hf
  refine zthen_v hA hD hS (zrunV (As := []) (rest := []) hC hP hD 13 rfl rfl (c_X6_fell l D cI cJ cZ h  gP gR gQ gT gE gM gS  u1 hu1 H.size) kRX6_65 rfl rfl ⟨by decide, by decide⟩ rfl hl.1 rfl (Nat.le_of_ble_eq_true rfl) dX6_raise_1) (fun H locs hP hD hS => ?_)
  refine lv_aload_n hx hb dX6_raise_4 rfl (lv_at hl 0 rfl) ?_
  refine lv_iload_n hx hb dX6_raise_5 rfl (lv_at hl 1 rfl) ?_
  refine va_put (D := D) (ci := 6) (v := .int a1) (ty := .int) (C := RX6) (T := TX6) (N := 17) hx hb hts tb_wsX60 tyX6 tyX6_ok nmX6 hown hK.1 hP hD hS 13 rfl rfl 15 (by decide) (hts _ tb_10_22) (fun _ h9 => h9) rfl (by decide +kernel) rfl rfl (Nat.le_of_ble_eq_true rfl) dX6_raise_6 (fun H locs hP hD hS => ?_)
  replace hP : va_P D vwCl (zWC cI cJ cZ h gP gR u1.1 (tTr.s_rule u1.2 a1) gE gM gS) H := hP
  replace hD : va_D A (zWC cI cJ cZ h gP gR u1.1 (tTr.s_rule u1.2 a1) gE gM gS) := hD
  refine lv_aload_n hx hb dX6_raise_9 rfl (lv_at hl 0 rfl) ?_
  refine lv_iload_n hx hb dX6_raise_10 rfl (lv_at hl 2 rfl) ?_
  refine va_put (D := D) (ci := 6) (v := .int a2) (ty := .int) (C := RX6) (T := TX6) (N := 17) hx hb hts tb_wsX60 tyX6 tyX6_ok nmX6 hown hK.1 hP hD hS 13 rfl rfl 16 (by decide) (hts _ tb_10_23) (fun _ h9 => h9) rfl (by decide +kernel) rfl rfl (Nat.le_of_ble_eq_true rfl) dX6_raise_11 (fun H locs hP hD hS => ?_)
  replace hP : va_P D vwCl (zWC cI cJ cZ h gP gR u1.1 (tTr.s_draw (tTr.s_rule u1.2 a1) a2) gE gM gS) H := hP
  replace hD : va_D A (zWC cI cJ cZ h gP gR u1.1 (tTr.s_draw (tTr.s_rule u1.2 a1) a2) gE gM gS) := hD
  refine lv_aload_n hx hb dX6_raise_14 rfl (lv_at hl 0 rfl) ?_
  refine va_get (D := D) (ci := 6) (v := .ref (h 6)) (C := RX6) (T := TX6) (N := 17) hx hb hts tb_wsX60 hown hK.1 hP 13 rfl rfl 14 (by decide) (hts _ tb_4_3) (fun _ h9 => h9) rfl dX6_raise_15 ?_
  obtain ⟨u2, hu2, hf⟩ := zbd hf
  refine zthen_v hA hD hS (zrunV (As := []) (rest := []) hC hP hD 6 rfl rfl (c_X0_startWithAll l D cI cJ cZ h N gP gR u1.1 (tTr.s_draw (tTr.s_rule u1.2 a1) a2) gE gM gS  u2 hu2 H.size) kRX6_74 rfl rfl ⟨by decide, by decide⟩ rfl hl.1 rfl (Nat.le_of_ble_eq_true rfl) dX6_raise_18) (fun H locs hP hD hS => ?_)
  refine lv_aload_n hx hb dX6_raise_21 rfl (lv_at hl 0 rfl) ?_
  refine lv_aload_n hx hb dX6_raise_22 rfl (lv_at hl 0 rfl) ?_
  refine lv_iconst (v := 0) hx hb dX6_raise_23 (by decide) ?_
  refine lv_aload_n hx hb dX6_raise_24 rfl (lv_at hl 0 rfl) ?_
  refine va_get (D := D) (ci := 6) (v := .ref (h 6)) (C := RX6) (T := TX6) (N := 17) hx hb hts tb_wsX60 hown hK.1 hP 13 rfl rfl 14 (by decide) (hts _ tb_4_3) (fun _ h9 => h9) rfl dX6_raise_25 ?_
  refine va_get (D := D) (ci := 0) (v := .ref (h 7)) (C := RX0) (T := TX0) (N := 2) hx hb hts tb_wsX00 hown hK.1 hP 6 rfl rfl 0 (by decide) (hts _ tb_11_0) (fun _ h9 => h9) rfl dX6_raise_28 ?_
  refine va_get (D := D) (ci := 2) (v := .int (tPa.size u2)) (C := RX2) (T := TX2) (N := 6) hx hb hts tb_wsX20 hown hK.1 hP 7 rfl rfl 5 (by decide) (hts _ tb_7_17) (fun _ h9 => h9) rfl dX6_raise_31 ?_
  refine lv_iconst (v := -1) hx hb dX6_raise_34 (by decide) ?_
  refine lv_iconst (v := 0) hx hb dX6_raise_35 (by decide) ?_
  obtain ⟨u3, hu3, hf⟩ := zbd hf
  refine zthen_i hA hD hS (zrunV (As := [.int (0 : Int32), .int (tPa.size u2), .int (-1 : Int32), .int (0 : Int32)]) (rest := [.ref (h 13)]) hC hP hD 13 rfl rfl (c_X6_grow l D cI cJ cZ h N 25 gP u2 u1.1 (tTr.s_draw (tTr.s_rule u1.2 a1) a2) gE gM gS (0 : Int32) (tPa.size u2) (-1 : Int32) (0 : Int32) u3 hu3 H.size) kRX6_82 rfl rfl ⟨by decide, by decide⟩ rfl hl.1 rfl (Nat.le_of_ble_eq_true rfl) dX6_raise_36) (fun H locs hP hD hS => ?_)
  refine va_put (D := D) (ci := 6) (v := .int u3.1) (ty := .int) (C := RX6) (T := TX6) (N := 17) hx hb hts tb_wsX60 tyX6 tyX6_ok nmX6 hown hK.1 hP hD hS 13 rfl rfl 9 (by decide) (hts _ tb_11_1) (fun _ h9 => h9) rfl (by decide +kernel) rfl rfl (Nat.le_of_ble_eq_true rfl) dX6_raise_39 (fun H locs hP hD hS => ?_)
  replace hP : va_P D vwCl (zWC cI cJ cZ h gP u3.2.1 u3.2.2.1 (tTr.s_top u3.2.2.2 u3.1) gE gM gS) H := hP
  replace hD : va_D A (zWC cI cJ cZ h gP u3.2.1 u3.2.2.1 (tTr.s_top u3.2.2.2 u3.1) gE gM gS) := hD
  refine lv_aload_n hx hb dX6_raise_42 rfl (lv_at hl 0 rfl) ?_
  refine lv_iconst (v := 1) hx hb dX6_raise_43 (by decide) ?_
  refine va_put (D := D) (ci := 6) (v := .int (1 : Int32)) (ty := .boolean) (C := RX6) (T := TX6) (N := 17) hx hb hts tb_wsX60 tyX6 tyX6_ok nmX6 hown hK.1 hP hD hS 13 rfl rfl 8 (by decide) (hts _ tb_7_13) (fun _ h9 => h9) rfl (by decide +kernel) rfl rfl (Nat.le_of_ble_eq_true rfl) dX6_raise_44 (fun H locs hP hD hS => ?_)
  replace hP : va_P D vwCl (zWC cI cJ cZ h gP u3.2.1 u3.2.2.1 (tTr.s_top (tTr.s_stands u3.2.2.2 (1 : Int32)) u3.1) gE gM gS) H := hP
  replace hD : va_D A (zWC cI cJ cZ h gP u3.2.1 u3.2.2.1 (tTr.s_top (tTr.s_stands u3.2.2.2 (1 : Int32)) u3.1) gE gM gS) := hD
  have hu := Option.some.inj hf
  subst hu
  exact z_vret hC hP hD hS dX6_raise_47
set_option maxHeartbeats 4000000 in
set_option maxRecDepth 100000 in
theorem c_X7_build (l : Launch) (D : va_G) (cI cJ cZ : ClassId) (h : Nat → Nat) (N : Nat) (gP : tPi) (gR : tPa) (gQ : tPa) (gT : tTr) (gE : tTe) (gM : tMe) (gS : tSq) (a1 : Int32) (a2 : Int32) (u : Int32 × tPa × tPa × tTr × tTe) (hf : X7_build N gP gR gQ gT gE a1 a2 = some u) (sz : Nat) : Met l yX7_build (Cond.code yX7_build cX7_build 3 (some .int) :: tb_L) ({ frames := 102, cells := 0, slots := 0, locals := 2722 } : Room) (zPre D (zty cI cJ cZ) (zWC cI cJ cZ h gP gR gQ gT gE gM gS) sz [.ref (h 0), .int a1, .int a2]) (zQi D (va_A (zWC cI cJ cZ h gP gR gQ gT gE gM gS) sz) (zWC cI cJ cZ h gP u.2.1 u.2.2.1 u.2.2.2.1 u.2.2.2.2 gM gS) (u.1)) 0 0 (va_A (zWC cI cJ cZ h gP gR gQ gT gE gM gS) sz) := by
  refine zMet (Qc := fun A => zQi D A (zWC cI cJ cZ h gP u.2.1 u.2.2.1 u.2.2.2.1 u.2.2.2.2 gM gS) (u.1)) (by decide) rfl (Nat.le_of_ble_eq_true rfl) ?_
  intro p e s m args below meth c A ls hC _ hP hD hS hl
  replace hl : lv_has ls 3 [(0, .ref (h 0)), (1, .int a1), (2, .int a2)] := hl
  obtain ⟨hx, hb, hml, hown, hts, hK, hr, hlocks, hA⟩ := id hC
  unfold X7_build at hf
  obtain ⟨H, hH⟩ : ∃ H, H = s.heap := ⟨_, rfl⟩
  rw [← hH] at hP
  replace hS : va_S A s.heap H [] := by rw [hH]; exact hS
  show W p l e _ s m args below meth c s.heap [] 0 0 _ _
  rw [← hH]
  clear hH
  obtain ⟨locs, hlo⟩ : ∃ x : List Loc, x = [] := ⟨_, rfl⟩
  rw [← hlo] at hS ⊢
  clear hlo
  refine lv_iload_n hx hb dX7_build_0 rfl (lv_at hl 1 rfl) ?_
  refine lv_if_lt (tgt := 9) hx hb dX7_build_1 (by decide) (fun c1 => ?_) (fun c1 => ?_)
  · replace hf := zif_t hf c1
    refine lv_iconst (v := -1) hx hb dX7_build_9 (by decide) ?_
    have hu := Option.some.inj hf
    subst hu
    exact z_iret hC hP hD hS dX7_build_10
  · replace hf := zif_f hf c1
    refine lv_iload_n hx hb dX7_build_4 rfl (lv_at hl 1 rfl) ?_
    refine lv_iconst (v := 3) hx hb dX7_build_5 (by decide) ?_
    refine lv_icmp_le (tgt := 11) hx hb dX7_build_6 (by decide) (fun c2 => ?_) (fun c2 => ?_)
    · replace hf := zif_t hf c2
      refine lv_aload_n hx hb dX7_build_11 rfl (lv_at hl 0 rfl) ?_
      obtain ⟨u3, hu3, hf⟩ := zbd hf
      refine zthen_v hA hD hS (zrunV (As := []) (rest := []) hC hP hD 0 rfl rfl (c_X7_forgetTree l D cI cJ cZ h  gP gR gQ gT gE gM gS  u3 hu3 H.size) kRX7_61 rfl rfl ⟨by decide, by decide⟩ rfl hl.1 rfl (Nat.le_of_ble_eq_true rfl) dX7_build_12) (fun H locs hP hD hS => ?_)
      refine lv_aload_n hx hb dX7_build_15 rfl (lv_at hl 0 rfl) ?_
      refine va_get (D := D) (ci := 7) (v := .ref (h 13)) (C := RX7) (T := TX7) (N := 5) hx hb hts tb_wsX70 hown hK.1 hP 0 rfl rfl 1 (by decide) (hts _ tb_1_23) (fun _ h9 => h9) rfl dX7_build_16 ?_
      refine lv_iload_n hx hb dX7_build_19 rfl (lv_at hl 1 rfl) ?_
      refine lv_iload_n hx hb dX7_build_20 rfl (lv_at hl 2 rfl) ?_
      obtain ⟨u4, hu4, hf⟩ := zbd hf
      refine zthen_v hA hD hS (zrunV (As := [.int a1, .int a2]) (rest := []) hC hP hD 13 rfl rfl (c_X6_raise l D cI cJ cZ h N gP gR u3.1 u3.2.1 u3.2.2 gM gS a1 a2 u4 hu4 H.size) kRX7_103 rfl rfl ⟨by decide, by decide⟩ rfl hl.1 rfl (Nat.le_of_ble_eq_true rfl) dX7_build_21) (fun H locs hP hD hS => ?_)
      refine lv_aload_n hx hb dX7_build_24 rfl (lv_at hl 0 rfl) ?_
      refine va_get (D := D) (ci := 7) (v := .ref (h 13)) (C := RX7) (T := TX7) (N := 5) hx hb hts tb_wsX70 hown hK.1 hP 0 rfl rfl 1 (by decide) (hts _ tb_1_23) (fun _ h9 => h9) rfl dX7_build_25 ?_
      refine va_get (D := D) (ci := 6) (v := .int (tTr.knots u4.2.2)) (C := RX6) (T := TX6) (N := 17) hx hb hts tb_wsX60 hown hK.1 hP 13 rfl rfl 10 (by decide) (hts _ tb_10_17) (fun _ h9 => h9) rfl dX7_build_28 ?_
      have hu := Option.some.inj hf
      subst hu
      exact z_iret hC hP hD hS dX7_build_31
    · replace hf := zif_f hf c2
      refine lv_iconst (v := -1) hx hb dX7_build_9 (by decide) ?_
      have hu := Option.some.inj hf
      subst hu
      exact z_iret hC hP hD hS dX7_build_10
set_option maxHeartbeats 4000000 in
set_option maxRecDepth 100000 in
theorem c_X7_count (l : Launch) (D : va_G) (cI cJ cZ : ClassId) (h : Nat → Nat) (gP : tPi) (gR : tPa) (gQ : tPa) (gT : tTr) (gE : tTe) (gM : tMe) (gS : tSq) (a1 : Int32) (u : Int32) (hf : X7_count gP gQ gT a1 = some u) (sz : Nat) : Met l yX7_count (Cond.code yX7_count cX7_count 2 (some .int) :: tb_L) ({ frames := 0, cells := 0, slots := 0, locals := 0 } : Room) (zPre D (zty cI cJ cZ) (zWC cI cJ cZ h gP gR gQ gT gE gM gS) sz [.ref (h 0), .int a1]) (zQi D (va_A (zWC cI cJ cZ h gP gR gQ gT gE gM gS) sz) (zWC cI cJ cZ h gP gR gQ gT gE gM gS) (u)) 0 0 (va_A (zWC cI cJ cZ h gP gR gQ gT gE gM gS) sz) := by
  refine zMet (Qc := fun A => zQi D A (zWC cI cJ cZ h gP gR gQ gT gE gM gS) (u)) (by decide) rfl (Nat.le_of_ble_eq_true rfl) ?_
  intro p e s m args below meth c A ls hC _ hP hD hS hl
  replace hl : lv_has ls 2 [(0, .ref (h 0)), (1, .int a1)] := hl
  obtain ⟨hx, hb, hml, hown, hts, hK, hr, hlocks, hA⟩ := id hC
  unfold X7_count at hf
  obtain ⟨H, hH⟩ : ∃ H, H = s.heap := ⟨_, rfl⟩
  rw [← hH] at hP
  replace hS : va_S A s.heap H [] := by rw [hH]; exact hS
  show W p l e _ s m args below meth c s.heap [] 0 0 _ _
  rw [← hH]
  clear hH
  obtain ⟨locs, hlo⟩ : ∃ x : List Loc, x = [] := ⟨_, rfl⟩
  rw [← hlo] at hS ⊢
  clear hlo
  refine lv_iload_n hx hb dX7_count_0 rfl (lv_at hl 1 rfl) ?_
  by_cases c10 : a1 = (0 : Int32)
  · replace hf := zif_t hf c10
    refine lv_tableIn (tgt := 40) hx hb dX7_count_1 (by rw [c10]; decide) (by rw [c10]; decide) (by rw [c10]; rfl) (by decide) ?_
    refine lv_aload_n hx hb dX7_count_40 rfl (lv_at hl 0 rfl) ?_
    refine va_get (D := D) (ci := 7) (v := .ref (h 1)) (C := RX7) (T := TX7) (N := 5) hx hb hts tb_wsX70 hown hK.1 hP 0 rfl rfl 0 (by decide) (hts _ tb_1_16) (fun _ h9 => h9) rfl dX7_count_41 ?_
    refine va_get (D := D) (ci := 3) (v := .int (tPi.size gP)) (C := RX3) (T := TX3) (N := 5) hx hb hts tb_wsX30 hown hK.1 hP 1 rfl rfl 4 (by decide) (hts _ tb_7_0) (fun _ h9 => h9) rfl dX7_count_44 ?_
    have hu := Option.some.inj hf
    subst hu
    exact z_iret hC hP hD hS dX7_count_47
  replace hf := zif_f hf c10
  by_cases c11 : a1 = (1 : Int32)
  · replace hf := zif_t hf c11
    refine lv_tableIn (tgt := 48) hx hb dX7_count_1 (by rw [c11]; decide) (by rw [c11]; decide) (by rw [c11]; rfl) (by decide) ?_
    refine lv_aload_n hx hb dX7_count_48 rfl (lv_at hl 0 rfl) ?_
    refine va_get (D := D) (ci := 7) (v := .ref (h 13)) (C := RX7) (T := TX7) (N := 5) hx hb hts tb_wsX70 hown hK.1 hP 0 rfl rfl 1 (by decide) (hts _ tb_1_23) (fun _ h9 => h9) rfl dX7_count_49 ?_
    refine va_get (D := D) (ci := 6) (v := .int (tTr.knots gT)) (C := RX6) (T := TX6) (N := 17) hx hb hts tb_wsX60 hown hK.1 hP 13 rfl rfl 10 (by decide) (hts _ tb_10_17) (fun _ h9 => h9) rfl dX7_count_52 ?_
    have hu := Option.some.inj hf
    subst hu
    exact z_iret hC hP hD hS dX7_count_55
  replace hf := zif_f hf c11
  by_cases c12 : a1 = (2 : Int32)
  · replace hf := zif_t hf c12
    refine lv_tableIn (tgt := 56) hx hb dX7_count_1 (by rw [c12]; decide) (by rw [c12]; decide) (by rw [c12]; rfl) (by decide) ?_
    refine lv_aload_n hx hb dX7_count_56 rfl (lv_at hl 0 rfl) ?_
    refine va_get (D := D) (ci := 7) (v := .ref (h 13)) (C := RX7) (T := TX7) (N := 5) hx hb hts tb_wsX70 hown hK.1 hP 0 rfl rfl 1 (by decide) (hts _ tb_1_23) (fun _ h9 => h9) rfl dX7_count_57 ?_
    refine va_get (D := D) (ci := 6) (v := .ref (h 20)) (C := RX6) (T := TX6) (N := 17) hx hb hts tb_wsX60 hown hK.1 hP 13 rfl rfl 6 (by decide) (hts _ tb_9_19) (fun _ h9 => h9) rfl dX7_count_60 ?_
    refine va_get (D := D) (ci := 2) (v := .int (tPa.size gQ)) (C := RX2) (T := TX2) (N := 6) hx hb hts tb_wsX20 hown hK.1 hP 20 rfl rfl 5 (by decide) (hts _ tb_16_20) (fun _ h9 => h9) rfl dX7_count_63 ?_
    have hu := Option.some.inj hf
    subst hu
    exact z_iret hC hP hD hS dX7_count_66
  replace hf := zif_f hf c12
  by_cases c13 : a1 = (3 : Int32)
  · replace hf := zif_t hf c13
    refine lv_tableIn (tgt := 67) hx hb dX7_count_1 (by rw [c13]; decide) (by rw [c13]; decide) (by rw [c13]; rfl) (by decide) ?_
    refine lv_aload_n hx hb dX7_count_67 rfl (lv_at hl 0 rfl) ?_
    refine va_get (D := D) (ci := 7) (v := .ref (h 13)) (C := RX7) (T := TX7) (N := 5) hx hb hts tb_wsX70 hown hK.1 hP 0 rfl rfl 1 (by decide) (hts _ tb_1_23) (fun _ h9 => h9) rfl dX7_count_68 ?_
    refine va_get (D := D) (ci := 6) (v := .int (tTr.leaves gT)) (C := RX6) (T := TX6) (N := 17) hx hb hts tb_wsX60 hown hK.1 hP 13 rfl rfl 11 (by decide) (hts _ tb_16_21) (fun _ h9 => h9) rfl dX7_count_71 ?_
    have hu := Option.some.inj hf
    subst hu
    exact z_iret hC hP hD hS dX7_count_74
  replace hf := zif_f hf c13
  by_cases c14 : a1 = (4 : Int32)
  · replace hf := zif_t hf c14
    refine lv_tableIn (tgt := 75) hx hb dX7_count_1 (by rw [c14]; decide) (by rw [c14]; decide) (by rw [c14]; rfl) (by decide) ?_
    refine lv_aload_n hx hb dX7_count_75 rfl (lv_at hl 0 rfl) ?_
    refine va_get (D := D) (ci := 7) (v := .ref (h 13)) (C := RX7) (T := TX7) (N := 5) hx hb hts tb_wsX70 hown hK.1 hP 0 rfl rfl 1 (by decide) (hts _ tb_1_23) (fun _ h9 => h9) rfl dX7_count_76 ?_
    refine va_get (D := D) (ci := 6) (v := .int (tTr.height gT)) (C := RX6) (T := TX6) (N := 17) hx hb hts tb_wsX60 hown hK.1 hP 13 rfl rfl 12 (by decide) (hts _ tb_16_22) (fun _ h9 => h9) rfl dX7_count_79 ?_
    have hu := Option.some.inj hf
    subst hu
    exact z_iret hC hP hD hS dX7_count_82
  replace hf := zif_f hf c14
  by_cases c15 : a1 = (5 : Int32)
  · replace hf := zif_t hf c15
    refine lv_tableIn (tgt := 83) hx hb dX7_count_1 (by rw [c15]; decide) (by rw [c15]; decide) (by rw [c15]; rfl) (by decide) ?_
    refine lv_aload_n hx hb dX7_count_83 rfl (lv_at hl 0 rfl) ?_
    refine va_get (D := D) (ci := 7) (v := .ref (h 13)) (C := RX7) (T := TX7) (N := 5) hx hb hts tb_wsX70 hown hK.1 hP 0 rfl rfl 1 (by decide) (hts _ tb_1_23) (fun _ h9 => h9) rfl dX7_count_84 ?_
    refine va_get (D := D) (ci := 6) (v := .int (tTr.stands gT)) (C := RX6) (T := TX6) (N := 17) hx hb hts tb_wsX60 hown hK.1 hP 13 rfl rfl 8 (by decide) (hts _ tb_16_23) (fun _ h9 => h9) rfl dX7_count_87 ?_
    refine lv_if_eq (tgt := 114) hx hb dX7_count_90 (by decide) (fun c2 => ?_) (fun c2 => ?_)
    · replace hf := zif_t hf c2
      refine lv_iconst (v := 0) hx hb dX7_count_114 (by decide) ?_
      have hu := Option.some.inj hf
      subst hu
      exact z_iret hC hP hD hS dX7_count_115
    · replace hf := zif_f hf c2
      refine lv_aload_n hx hb dX7_count_93 rfl (lv_at hl 0 rfl) ?_
      refine va_get (D := D) (ci := 7) (v := .ref (h 13)) (C := RX7) (T := TX7) (N := 5) hx hb hts tb_wsX70 hown hK.1 hP 0 rfl rfl 1 (by decide) (hts _ tb_1_23) (fun _ h9 => h9) rfl dX7_count_94 ?_
      refine va_get (D := D) (ci := 6) (v := .ref (h 20)) (C := RX6) (T := TX6) (N := 17) hx hb hts tb_wsX60 hown hK.1 hP 13 rfl rfl 6 (by decide) (hts _ tb_9_19) (fun _ h9 => h9) rfl dX7_count_97 ?_
      refine va_get (D := D) (ci := 2) (v := .int (tPa.size gQ)) (C := RX2) (T := TX2) (N := 6) hx hb hts tb_wsX20 hown hK.1 hP 20 rfl rfl 5 (by decide) (hts _ tb_16_20) (fun _ h9 => h9) rfl dX7_count_100 ?_
      refine lv_aload_n hx hb dX7_count_103 rfl (lv_at hl 0 rfl) ?_
      refine va_get (D := D) (ci := 7) (v := .ref (h 1)) (C := RX7) (T := TX7) (N := 5) hx hb hts tb_wsX70 hown hK.1 hP 0 rfl rfl 0 (by decide) (hts _ tb_1_16) (fun _ h9 => h9) rfl dX7_count_104 ?_
      refine va_get (D := D) (ci := 3) (v := .int (tPi.size gP)) (C := RX3) (T := TX3) (N := 5) hx hb hts tb_wsX30 hown hK.1 hP 1 rfl rfl 4 (by decide) (hts _ tb_7_0) (fun _ h9 => h9) rfl dX7_count_107 ?_
      refine lv_isub hx hb dX7_count_110 ?_
      refine lv_goto (tgt := 115) hx hb dX7_count_111 (by decide) ?_
      have hu := Option.some.inj hf
      subst hu
      exact z_iret hC hP hD hS dX7_count_115
  replace hf := zif_f hf c15
  refine lv_tableOut (tgt := 116) hx hb dX7_count_1 (by have := zsw c10; rw [show ((0 : Int32)).toInt = 0 from rfl] at this; have := zsw c11; rw [show ((1 : Int32)).toInt = 1 from rfl] at this; have := zsw c12; rw [show ((2 : Int32)).toInt = 2 from rfl] at this; have := zsw c13; rw [show ((3 : Int32)).toInt = 3 from rfl] at this; have := zsw c14; rw [show ((4 : Int32)).toInt = 4 from rfl] at this; have := zsw c15; rw [show ((5 : Int32)).toInt = 5 from rfl] at this; omega) (by decide) ?_
  refine lv_iconst (v := -1) hx hb dX7_count_116 (by decide) ?_
  have hu := Option.some.inj hf
  subst hu
  exact z_iret hC hP hD hS dX7_count_117
set_option maxHeartbeats 4000000 in
set_option maxRecDepth 100000 in
theorem t_X6_placeOf_b79 {p : Program} {l : Launch} {e : Env} {s : State} {m : MethodId} {args : Array Value} {below : List Frame} {meth : Method} {c : Code} {A : Nat → Prop} {D : va_G} {cI cJ cZ : ClassId} {h : Nat → Nat} (hC : zCx p s m args meth c A D (zty cI cJ cZ) cX6_placeOf RX6 6 (some .int)) (N : Nat) (gP : tPi) (gR : tPa) (gQ : tPa) (gT : tTr) (gE : tTe) (gM : tMe) (gS : tSq) (u : Int32) : ∀ (v3 : Int32) (H : Heap) (locs : List Loc) (ls : Array Slot), va_P D vwCl (zWC cI cJ cZ h gP gR gQ gT gE gM gS) H → va_D A (zWC cI cJ cZ h gP gR gQ gT gE gM gS) → va_S A s.heap H locs → lv_has ls 6 [(3, .int v3)] → X6_placeOf_b79 N gP gT v3 = some u → W p l e ({ frames := 1, cells := 0, slots := 0, locals := 23 } : Room) s m args below meth c H locs 0 0 (MQ below (zQi D A (zWC cI cJ cZ h gP gR gQ gT gE gM gS) (u)) args s 0 0 A) (F0 m 79 ls []) := by
  intro v3 H locs ls hP hD hS hl hf
  obtain ⟨hx, hb, hml, hown, hts, hK, hr, hlocks, hA⟩ := id hC
  unfold X6_placeOf_b79 at hf
  refine lv_bipush (v := -2) hx hb dX6_placeOf_79 (by decide) ?_
  refine lv_iload_n hx hb dX6_placeOf_81 rfl (lv_at hl 0 rfl) ?_
  refine lv_isub hx hb dX6_placeOf_82 ?_
  have hu := Option.some.inj hf
  subst hu
  exact z_iret hC hP hD hS dX6_placeOf_83
set_option maxHeartbeats 4000000 in
set_option maxRecDepth 100000 in
theorem t_X6_placeOf_b72 {p : Program} {l : Launch} {e : Env} {s : State} {m : MethodId} {args : Array Value} {below : List Frame} {meth : Method} {c : Code} {A : Nat → Prop} {D : va_G} {cI cJ cZ : ClassId} {h : Nat → Nat} (hC : zCx p s m args meth c A D (zty cI cJ cZ) cX6_placeOf RX6 6 (some .int)) (N : Nat) {gP : tPi} {gR : tPa} {gQ : tPa} {gT : tTr} {gE : tTe} {gM : tMe} {gS : tSq} {u : Int32} (k8 : Int32 → Int32 → Int32 → Int32 → Option (Int32)) (hk8 : ∀ (v1 : Int32) (v2 : Int32) (v3 : Int32) (v4 : Int32) (H : Heap) (locs : List Loc) (ls : Array Slot), va_P D vwCl (zWC cI cJ cZ h gP gR gQ gT gE gM gS) H → va_D A (zWC cI cJ cZ h gP gR gQ gT gE gM gS) → va_S A s.heap H locs → lv_has ls 6 [(0, .ref (h 13)), (1, .int v1), (2, .int v2), (3, .int v3), (4, .int v4)] → k8 v1 v2 v3 v4 = some u → W p l e ({ frames := 1, cells := 0, slots := 0, locals := 23 } : Room) s m args below meth c H locs 0 0 (MQ below (zQi D A (zWC cI cJ cZ h gP gR gQ gT gE gM gS) (u)) args s 0 0 A) (F0 m 8 ls [])) : ∀ (v1 : Int32) (v2 : Int32) (v4 : Int32) (s0 : Int32) (H : Heap) (locs : List Loc) (ls : Array Slot), va_P D vwCl (zWC cI cJ cZ h gP gR gQ gT gE gM gS) H → va_D A (zWC cI cJ cZ h gP gR gQ gT gE gM gS) → va_S A s.heap H locs → lv_has ls 6 [(0, .ref (h 13)), (1, .int v1), (2, .int v2), (4, .int v4)] → X6_placeOf_b72 N k8 gP gT v1 v2 v4 s0 = some u → W p l e ({ frames := 1, cells := 0, slots := 0, locals := 23 } : Room) s m args below meth c H locs 0 0 (MQ below (zQi D A (zWC cI cJ cZ h gP gR gQ gT gE gM gS) (u)) args s 0 0 A) (F0 m 72 ls [.int s0]) := by
  intro v1 v2 v4 s0 H locs ls hP hD hS hl hf
  obtain ⟨hx, hb, hml, hown, hts, hK, hr, hlocks, hA⟩ := id hC
  unfold X6_placeOf_b72 at hf
  refine lv_istore_n (lv' := [(3, .int s0), (0, .ref (h 13)), (1, .int v1), (2, .int v2), (4, .int v4)]) hx hb dX6_placeOf_72 rfl hl (by decide) rfl (fun ls hl => ?_)
  refine lv_iinc (v := (v4 + (1 : Int32))) (lv' := [(4, .int (v4 + (1 : Int32))), (3, .int s0), (0, .ref (h 13)), (1, .int v1), (2, .int v2)]) hx hb dX6_placeOf_73 hl (k := 4) rfl rfl (by decide) rfl (fun ls hl => ?_)
  refine lv_goto (tgt := 8) hx hb dX6_placeOf_76 (by decide) ?_
  exact hk8 v1 v2 s0 (v4 + (1 : Int32)) H locs ls hP hD hS (lv_sub hl [2, 3, 4, 1, 0] rfl) hf
set_option maxHeartbeats 4000000 in
set_option maxRecDepth 100000 in
theorem t_X6_placeOf_b49 {p : Program} {l : Launch} {e : Env} {s : State} {m : MethodId} {args : Array Value} {below : List Frame} {meth : Method} {c : Code} {A : Nat → Prop} {D : va_G} {cI cJ cZ : ClassId} {h : Nat → Nat} (hC : zCx p s m args meth c A D (zty cI cJ cZ) cX6_placeOf RX6 6 (some .int)) (N : Nat) {gP : tPi} {gR : tPa} {gQ : tPa} {gT : tTr} {gE : tTe} {gM : tMe} {gS : tSq} {u : Int32} (k8 : Int32 → Int32 → Int32 → Int32 → Option (Int32)) (hk8 : ∀ (v1 : Int32) (v2 : Int32) (v3 : Int32) (v4 : Int32) (H : Heap) (locs : List Loc) (ls : Array Slot), va_P D vwCl (zWC cI cJ cZ h gP gR gQ gT gE gM gS) H → va_D A (zWC cI cJ cZ h gP gR gQ gT gE gM gS) → va_S A s.heap H locs → lv_has ls 6 [(0, .ref (h 13)), (1, .int v1), (2, .int v2), (3, .int v3), (4, .int v4)] → k8 v1 v2 v3 v4 = some u → W p l e ({ frames := 1, cells := 0, slots := 0, locals := 23 } : Room) s m args below meth c H locs 0 0 (MQ below (zQi D A (zWC cI cJ cZ h gP gR gQ gT gE gM gS) (u)) args s 0 0 A) (F0 m 8 ls [])) : ∀ (v3 : Int32) (H : Heap) (locs : List Loc) (ls : Array Slot), va_P D vwCl (zWC cI cJ cZ h gP gR gQ gT gE gM gS) H → va_D A (zWC cI cJ cZ h gP gR gQ gT gE gM gS) → va_S A s.heap H locs → lv_has ls 6 [(3, .int v3)] → X6_placeOf_b49 N k8 gP gT v3 = some u → W p l e ({ frames := 1, cells := 0, slots := 0, locals := 23 } : Room) s m args below meth c H locs 0 0 (MQ below (zQi D A (zWC cI cJ cZ h gP gR gQ gT gE gM gS) (u)) args s 0 0 A) (F0 m 49 ls []) := by
  intro v3 H locs ls hP hD hS hl hf
  obtain ⟨hx, hb, hml, hown, hts, hK, hr, hlocks, hA⟩ := id hC
  unfold X6_placeOf_b49 at hf
  refine lv_goto (tgt := 79) hx hb dX6_placeOf_49 (by decide) ?_
  exact t_X6_placeOf_b79 hC N gP gR gQ gT gE gM gS u v3 H locs ls hP hD hS (lv_sub hl [0] rfl) hf
set_option maxHeartbeats 4000000 in
set_option maxRecDepth 100000 in
theorem t_X6_placeOf_b8 {p : Program} {l : Launch} {e : Env} {s : State} {m : MethodId} {args : Array Value} {below : List Frame} {meth : Method} {c : Code} {A : Nat → Prop} {D : va_G} {cI cJ cZ : ClassId} {h : Nat → Nat} (hC : zCx p s m args meth c A D (zty cI cJ cZ) cX6_placeOf RX6 6 (some .int)) (N : Nat) (gP : tPi) (gR : tPa) (gQ : tPa) (gT : tTr) (gE : tTe) (gM : tMe) (gS : tSq) (u : Int32) : ∀ (n : Nat) (v1 : Int32) (v2 : Int32) (v3 : Int32) (v4 : Int32) (H : Heap) (locs : List Loc) (ls : Array Slot), va_P D vwCl (zWC cI cJ cZ h gP gR gQ gT gE gM gS) H → va_D A (zWC cI cJ cZ h gP gR gQ gT gE gM gS) → va_S A s.heap H locs → lv_has ls 6 [(0, .ref (h 13)), (1, .int v1), (2, .int v2), (3, .int v3), (4, .int v4)] → X6_placeOf_b8 N gP gT n v1 v2 v3 v4 = some u → W p l e ({ frames := 1, cells := 0, slots := 0, locals := 23 } : Room) s m args below meth c H locs 0 0 (MQ below (zQi D A (zWC cI cJ cZ h gP gR gQ gT gE gM gS) (u)) args s 0 0 A) (F0 m 8 ls []) := by
  intro n
  induction n with
  | zero =>
    intro v1 v2 v3 v4 H locs ls hP hD hS hl hf
    cases hf
  | succ n ih =>
    intro v1 v2 v3 v4 H locs ls hP hD hS hl hf
    obtain ⟨hx, hb, hml, hown, hts, hK, hr, hlocks, hA⟩ := id hC
    rw [X6_placeOf_b8] at hf
    refine lv_iload hx hb dX6_placeOf_8 (lv_at hl 4 rfl) ?_
    refine lv_bipush (v := 24) hx hb dX6_placeOf_10 (by decide) ?_
    refine lv_icmp_ge (tgt := 79) hx hb dX6_placeOf_12 (by decide) (fun c1 => ?_) (fun c1 => ?_)
    · replace hf := zif_t hf c1
      exact t_X6_placeOf_b79 hC N gP gR gQ gT gE gM gS u v3 H locs ls hP hD hS (lv_sub hl [3] rfl) hf
    · replace hf := zif_f hf c1
      refine lv_iload_n hx hb dX6_placeOf_15 rfl (lv_at hl 3 rfl) ?_
      refine lv_if_lt (tgt := 79) hx hb dX6_placeOf_16 (by decide) (fun c2 => ?_) (fun c2 => ?_)
      · replace hf := zif_t hf c2
        exact t_X6_placeOf_b79 hC N gP gR gQ gT gE gM gS u v3 H locs ls hP hD hS (lv_sub hl [3] rfl) hf
      · replace hf := zif_f hf c2
        refine lv_iload_n hx hb dX6_placeOf_19 rfl (lv_at hl 3 rfl) ?_
        refine lv_aload_n hx hb dX6_placeOf_20 rfl (lv_at hl 0 rfl) ?_
        refine va_get (D := D) (ci := 6) (v := .int (tTr.knots gT)) (C := RX6) (T := TX6) (N := 17) hx hb hts tb_wsX60 hown hK.1 hP 13 rfl rfl 10 (by decide) (hts _ tb_7_14) (fun _ h9 => h9) rfl dX6_placeOf_21 ?_
        refine lv_icmp_ge (tgt := 79) hx hb dX6_placeOf_24 (by decide) (fun c3 => ?_) (fun c3 => ?_)
        · replace hf := zif_t hf c3
          exact t_X6_placeOf_b79 hC N gP gR gQ gT gE gM gS u v3 H locs ls hP hD hS (lv_sub hl [3] rfl) hf
        · replace hf := zif_f hf c3
          refine lv_aload_n hx hb dX6_placeOf_27 rfl (lv_at hl 0 rfl) ?_
          refine va_get (D := D) (ci := 6) (v := .ref (h 1)) (C := RX6) (T := TX6) (N := 17) hx hb hts tb_wsX60 hown hK.1 hP 13 rfl rfl 13 (by decide) (hts _ tb_4_2) (fun _ h9 => h9) rfl dX6_placeOf_28 ?_
          refine lv_aload_n hx hb dX6_placeOf_31 rfl (lv_at hl 0 rfl) ?_
          refine va_get (D := D) (ci := 6) (v := .ref (h 14)) (C := RX6) (T := TX6) (N := 17) hx hb hts tb_wsX60 hown hK.1 hP 13 rfl rfl 0 (by decide) (hts _ tb_3_17) (fun _ h9 => h9) rfl dX6_placeOf_32 ?_
          refine lv_iload_n hx hb dX6_placeOf_35 rfl (lv_at hl 3 rfl) ?_
          obtain ⟨h4, hf⟩ := zck_s hf
          refine va_iald hx hb hK.1 hP 14 0 rfl rfl h4 dX6_placeOf_36 ?_
          refine lv_iload_n hx hb dX6_placeOf_37 rfl (lv_at hl 1 rfl) ?_
          refine lv_iload_n hx hb dX6_placeOf_38 rfl (lv_at hl 2 rfl) ?_
          obtain ⟨u5, hu5, hf⟩ := zbd hf
          refine zthen_i hA hD hS (zrunV (As := [.int ((tTr.line gT) v3.toNatClampNeg), .int v1, .int v2]) (rest := []) hC hP hD 1 rfl rfl (c_X3_sideOf l D cI cJ cZ h  gP gR gQ gT gE gM gS ((tTr.line gT) v3.toNatClampNeg) v1 v2 u5 hu5 H.size) kRX6_129 rfl rfl ⟨by decide, by decide⟩ rfl hl.1 rfl (Nat.le_of_ble_eq_true rfl) dX6_placeOf_39) (fun H locs hP hD hS => ?_)
          refine lv_istore (lv' := [(5, .int u5), (0, .ref (h 13)), (1, .int v1), (2, .int v2), (3, .int v3), (4, .int v4)]) hx hb dX6_placeOf_42 hl (by decide) rfl (fun ls hl => ?_)
          refine lv_iload hx hb dX6_placeOf_44 (lv_at hl 0 rfl) ?_
          refine lv_if_ne (tgt := 52) hx hb dX6_placeOf_46 (by decide) (fun c6 => ?_) (fun c6 => ?_)
          · replace hf := zif_f hf c6
            refine lv_iload hx hb dX6_placeOf_52 (lv_at hl 0 rfl) ?_
            refine lv_if_le (tgt := 66) hx hb dX6_placeOf_54 (by decide) (fun c7 => ?_) (fun c7 => ?_)
            · replace hf := zif_t hf c7
              refine lv_aload_n hx hb dX6_placeOf_66 rfl (lv_at hl 1 rfl) ?_
              refine va_get (D := D) (ci := 6) (v := .ref (h 18)) (C := RX6) (T := TX6) (N := 17) hx hb hts tb_wsX60 hown hK.1 hP 13 rfl rfl 4 (by decide) (hts _ tb_3_21) (fun _ h9 => h9) rfl dX6_placeOf_67 ?_
              refine lv_iload_n hx hb dX6_placeOf_70 rfl (lv_at hl 4 rfl) ?_
              obtain ⟨h8, hf⟩ := zck_s hf
              refine va_iald hx hb hK.1 hP 18 0 rfl rfl h8 dX6_placeOf_71 ?_
              exact t_X6_placeOf_b72 hC N (X6_placeOf_b8 N gP gT n) ih  v1 v2 v4 ((tTr.back gT) v3.toNatClampNeg) H locs ls hP hD hS (lv_sub hl [1, 2, 3, 5] rfl) hf
            · replace hf := zif_f hf c7
              refine lv_aload_n hx hb dX6_placeOf_57 rfl (lv_at hl 1 rfl) ?_
              refine va_get (D := D) (ci := 6) (v := .ref (h 17)) (C := RX6) (T := TX6) (N := 17) hx hb hts tb_wsX60 hown hK.1 hP 13 rfl rfl 3 (by decide) (hts _ tb_3_20) (fun _ h9 => h9) rfl dX6_placeOf_58 ?_
              refine lv_iload_n hx hb dX6_placeOf_61 rfl (lv_at hl 4 rfl) ?_
              obtain ⟨h9, hf⟩ := zck_s hf
              refine va_iald hx hb hK.1 hP 17 0 rfl rfl h9 dX6_placeOf_62 ?_
              refine lv_goto (tgt := 72) hx hb dX6_placeOf_63 (by decide) ?_
              exact t_X6_placeOf_b72 hC N (X6_placeOf_b8 N gP gT n) ih  v1 v2 v4 ((tTr.front gT) v3.toNatClampNeg) H locs ls hP hD hS (lv_sub hl [1, 2, 3, 5] rfl) hf
          · replace hf := zif_t hf c6
            exact t_X6_placeOf_b49 hC N (X6_placeOf_b8 N gP gT n) ih  v3 H locs ls hP hD hS (lv_sub hl [4] rfl) hf
set_option maxHeartbeats 4000000 in
set_option maxRecDepth 100000 in
theorem c_X6_placeOf (l : Launch) (D : va_G) (cI cJ cZ : ClassId) (h : Nat → Nat) (N : Nat) (gP : tPi) (gR : tPa) (gQ : tPa) (gT : tTr) (gE : tTe) (gM : tMe) (gS : tSq) (a1 : Int32) (a2 : Int32) (u : Int32) (hf : X6_placeOf N gP gT a1 a2 = some u) (sz : Nat) : Met l yX6_placeOf (Cond.code yX6_placeOf cX6_placeOf 6 (some .int) :: tb_L) ({ frames := 1, cells := 0, slots := 0, locals := 23 } : Room) (zPre D (zty cI cJ cZ) (zWC cI cJ cZ h gP gR gQ gT gE gM gS) sz [.ref (h 13), .int a1, .int a2]) (zQi D (va_A (zWC cI cJ cZ h gP gR gQ gT gE gM gS) sz) (zWC cI cJ cZ h gP gR gQ gT gE gM gS) (u)) 0 0 (va_A (zWC cI cJ cZ h gP gR gQ gT gE gM gS) sz) := by
  refine zMet (Qc := fun A => zQi D A (zWC cI cJ cZ h gP gR gQ gT gE gM gS) (u)) (by decide) rfl (Nat.le_of_ble_eq_true rfl) ?_
  intro p e s m args below meth c A ls hC _ hP hD hS hl
  replace hl : lv_has ls 6 [(0, .ref (h 13)), (1, .int a1), (2, .int a2)] := hl
  obtain ⟨hx, hb, hml, hown, hts, hK, hr, hlocks, hA⟩ := id hC
  unfold X6_placeOf at hf
  obtain ⟨H, hH⟩ : ∃ H, H = s.heap := ⟨_, rfl⟩
  rw [← hH] at hP
  replace hS : va_S A s.heap H [] := by rw [hH]; exact hS
  show W p l e _ s m args below meth c s.heap [] 0 0 _ _
  rw [← hH]
  clear hH
  obtain ⟨locs, hlo⟩ : ∃ x : List Loc, x = [] := ⟨_, rfl⟩
  rw [← hlo] at hS ⊢
  clear hlo
  refine lv_aload_n hx hb dX6_placeOf_0 rfl (lv_at hl 0 rfl) ?_
  refine va_get (D := D) (ci := 6) (v := .int (tTr.top gT)) (C := RX6) (T := TX6) (N := 17) hx hb hts tb_wsX60 hown hK.1 hP 13 rfl rfl 9 (by decide) (hts _ tb_11_1) (fun _ h9 => h9) rfl dX6_placeOf_1 ?_
  refine lv_topi (fun x10 ex10 => ?_)
  replace hf := zl_n ex10 hf
  refine lv_istore_n (lv' := [(3, .int x10), (0, .ref (h 13)), (1, .int a1), (2, .int a2)]) hx hb dX6_placeOf_4 rfl hl (by decide) rfl (fun ls hl => ?_)
  refine lv_iconst (v := 0) hx hb dX6_placeOf_5 (by decide) ?_
  refine lv_istore (lv' := [(4, .int (0 : Int32)), (3, .int x10), (0, .ref (h 13)), (1, .int a1), (2, .int a2)]) hx hb dX6_placeOf_6 hl (by decide) rfl (fun ls hl => ?_)
  exact t_X6_placeOf_b8 hC N gP gR gQ gT gE gM gS u N a1 a2 x10 (0 : Int32) H locs ls hP hD hS (lv_sub hl [2, 3, 4, 1, 0] rfl) hf
set_option maxHeartbeats 4000000 in
set_option maxRecDepth 100000 in
theorem c_X7_where (l : Launch) (D : va_G) (cI cJ cZ : ClassId) (h : Nat → Nat) (N : Nat) (gP : tPi) (gR : tPa) (gQ : tPa) (gT : tTr) (gE : tTe) (gM : tMe) (gS : tSq) (a1 : Int32) (a2 : Int32) (u : Int32) (hf : X7_where N gP gT a1 a2 = some u) (sz : Nat) : Met l yX7_where (Cond.code yX7_where cX7_where 3 (some .int) :: tb_L) ({ frames := 2, cells := 0, slots := 0, locals := 48 } : Room) (zPre D (zty cI cJ cZ) (zWC cI cJ cZ h gP gR gQ gT gE gM gS) sz [.ref (h 0), .int a1, .int a2]) (zQi D (va_A (zWC cI cJ cZ h gP gR gQ gT gE gM gS) sz) (zWC cI cJ cZ h gP gR gQ gT gE gM gS) (u)) 0 0 (va_A (zWC cI cJ cZ h gP gR gQ gT gE gM gS) sz) := by
  refine zMet (Qc := fun A => zQi D A (zWC cI cJ cZ h gP gR gQ gT gE gM gS) (u)) (by decide) rfl (Nat.le_of_ble_eq_true rfl) ?_
  intro p e s m args below meth c A ls hC _ hP hD hS hl
  replace hl : lv_has ls 3 [(0, .ref (h 0)), (1, .int a1), (2, .int a2)] := hl
  obtain ⟨hx, hb, hml, hown, hts, hK, hr, hlocks, hA⟩ := id hC
  unfold X7_where at hf
  obtain ⟨H, hH⟩ : ∃ H, H = s.heap := ⟨_, rfl⟩
  rw [← hH] at hP
  replace hS : va_S A s.heap H [] := by rw [hH]; exact hS
  show W p l e _ s m args below meth c s.heap [] 0 0 _ _
  rw [← hH]
  clear hH
  obtain ⟨locs, hlo⟩ : ∃ x : List Loc, x = [] := ⟨_, rfl⟩
  rw [← hlo] at hS ⊢
  clear hlo
  refine lv_aload_n hx hb dX7_where_0 rfl (lv_at hl 0 rfl) ?_
  refine va_get (D := D) (ci := 7) (v := .ref (h 13)) (C := RX7) (T := TX7) (N := 5) hx hb hts tb_wsX70 hown hK.1 hP 0 rfl rfl 1 (by decide) (hts _ tb_1_23) (fun _ h9 => h9) rfl dX7_where_1 ?_
  refine va_get (D := D) (ci := 6) (v := .int (tTr.stands gT)) (C := RX6) (T := TX6) (N := 17) hx hb hts tb_wsX60 hown hK.1 hP 13 rfl rfl 8 (by decide) (hts _ tb_16_23) (fun _ h9 => h9) rfl dX7_where_4 ?_
  refine lv_if_eq (tgt := 18) hx hb dX7_where_7 (by decide) (fun c1 => ?_) (fun c1 => ?_)
  · replace hf := zif_t hf c1
    refine lv_iconst (v := -1) hx hb dX7_where_18 (by decide) ?_
    have hu := Option.some.inj hf
    subst hu
    exact z_iret hC hP hD hS dX7_where_19
  · replace hf := zif_f hf c1
    refine lv_iload_n hx hb dX7_where_10 rfl (lv_at hl 1 rfl) ?_
    refine lv_iload_n hx hb dX7_where_11 rfl (lv_at hl 2 rfl) ?_
    obtain ⟨u2, hu2, hf⟩ := zbd hf
    refine zthen_i hA hD hS (zrunS (As := [.int a1, .int a2]) (rest := []) hC hP hD (c_X7_isBeyond l D cI cJ cZ h  gP gR gQ gT gE gM gS a1 a2 u2 hu2 H.size) kRX7_57 rfl rfl ⟨by decide, by decide⟩ rfl hl.1 rfl (Nat.le_of_ble_eq_true rfl) dX7_where_12) (fun H locs hP hD hS => ?_)
    refine lv_if_eq (tgt := 20) hx hb dX7_where_15 (by decide) (fun c3 => ?_) (fun c3 => ?_)
    · replace hf := zif_t hf c3
      refine lv_aload_n hx hb dX7_where_20 rfl (lv_at hl 0 rfl) ?_
      refine va_get (D := D) (ci := 7) (v := .ref (h 13)) (C := RX7) (T := TX7) (N := 5) hx hb hts tb_wsX70 hown hK.1 hP 0 rfl rfl 1 (by decide) (hts _ tb_1_23) (fun _ h9 => h9) rfl dX7_where_21 ?_
      refine lv_iload_n hx hb dX7_where_24 rfl (lv_at hl 1 rfl) ?_
      refine lv_iload_n hx hb dX7_where_25 rfl (lv_at hl 2 rfl) ?_
      obtain ⟨u4, hu4, hf⟩ := zbd hf
      refine zthen_i hA hD hS (zrunV (As := [.int a1, .int a2]) (rest := []) hC hP hD 13 rfl rfl (c_X6_placeOf l D cI cJ cZ h N gP gR gQ gT gE gM gS a1 a2 u4 hu4 H.size) kRX7_165 rfl rfl ⟨by decide, by decide⟩ rfl hl.1 rfl (Nat.le_of_ble_eq_true rfl) dX7_where_26) (fun H locs hP hD hS => ?_)
      have hu := Option.some.inj hf
      subst hu
      exact z_iret hC hP hD hS dX7_where_29
    · replace hf := zif_f hf c3
      refine lv_iconst (v := -1) hx hb dX7_where_18 (by decide) ?_
      have hu := Option.some.inj hf
      subst hu
      exact z_iret hC hP hD hS dX7_where_19
set_option maxHeartbeats 4000000 in
set_option maxRecDepth 100000 in
theorem t_X5_tellNode_b178 {p : Program} {l : Launch} {e : Env} {s : State} {m : MethodId} {args : Array Value} {below : List Frame} {meth : Method} {c : Code} {A : Nat → Prop} {D : va_G} {cI cJ cZ : ClassId} {h : Nat → Nat} (hC : zCx p s m args meth c A D (zty cI cJ cZ) cX5_tellNode RX5 7 none) (N : Nat) (f lo : Nat) (rc : tPi → tTr → tTe → Int32 → Int32 → Int32 → Int32 → Option (tTe)) (hrc : ∀ (gP : tPi) (gR : tPa) (gQ : tPa) (gT : tTr) (gE : tTe) (gM : tMe) (gS : tSq) (b0 b1 b2 b3 : Int32) (u : tTe), rc gP gT gE b0 b1 b2 b3 = some u → ∀ sz : Nat, Met l yX5_tellNode (Cond.code yX5_tellNode cX5_tellNode 7 none :: tb_L) ({ frames := f, cells := 0, slots := 0, locals := lo } : Room) (zPre D (zty cI cJ cZ) (zWC cI cJ cZ h gP gR gQ gT gE gM gS) sz [.ref (h 27), .int b0, .int b1, .int b2, .int b3]) (zQv D (va_A (zWC cI cJ cZ h gP gR gQ gT gE gM gS) sz) (zWC cI cJ cZ h gP gR gQ gT u gM gS)) 0 0 (va_A (zWC cI cJ cZ h gP gR gQ gT gE gM gS) sz)) (gP : tPi) (gR : tPa) (gQ : tPa) (gT : tTr) (gM : tMe) (gS : tSq) (u : tTe) : ∀ (gE : tTe) (v2 : Int32) (v3 : Int32) (v4 : Int32) (s0 : Int32) (H : Heap) (locs : List Loc) (ls : Array Slot), va_P D vwCl (zWC cI cJ cZ h gP gR gQ gT gE gM gS) H → va_D A (zWC cI cJ cZ h gP gR gQ gT gE gM gS) → va_S A s.heap H locs → lv_has ls 7 [(2, .int v2), (3, .int v3), (4, .int v4)] → X5_tellNode_b178 N rc gP gT gE v2 v3 v4 s0 = some u → W p l e ({ frames := f + 1, cells := 0, slots := 0, locals := lo + 26 } : Room) s m args below meth c H locs 0 0 (MQ below (zQv D A (zWC cI cJ cZ h gP gR gQ gT u gM gS)) args s 0 0 A) (F0 m 178 ls [.int s0, .ref (h 27)]) := by
  intro gE v2 v3 v4 s0 H locs ls hP hD hS hl hf
  obtain ⟨hx, hb, hml, hown, hts, hK, hr, hlocks, hA⟩ := id hC
  unfold X5_tellNode_b178 at hf
  refine lv_iload_n hx hb dX5_tellNode_178 rfl (lv_at hl 0 rfl) ?_
  refine lv_iload_n hx hb dX5_tellNode_179 rfl (lv_at hl 1 rfl) ?_
  refine lv_iload hx hb dX5_tellNode_180 (lv_at hl 2 rfl) ?_
  refine lv_iconst (v := 1) hx hb dX5_tellNode_182 (by decide) ?_
  refine lv_iadd hx hb dX5_tellNode_183 ?_
  obtain ⟨u1, hu1, hf⟩ := zbd hf
  refine zthen_v hA hD hS (zrunV (As := [.int s0, .int v2, .int v3, .int (v4 + (1 : Int32))]) (rest := []) hC hP hD 27 rfl rfl (hrc gP gR gQ gT gE gM gS s0 v2 v3 (v4 + (1 : Int32)) u1 hu1 H.size) kRX5_32 rfl rfl ⟨by dsimp only; omega, by dsimp only; omega⟩ rfl hl.1 rfl (Nat.le_of_ble_eq_true rfl) dX5_tellNode_184) (fun H locs hP hD hS => ?_)
  have hu := Option.some.inj hf
  subst hu
  exact z_vret hC hP hD hS dX5_tellNode_187
set_option maxHeartbeats 4000000 in
set_option maxRecDepth 100000 in
theorem t_X5_tellNode_b151 {p : Program} {l : Launch} {e : Env} {s : State} {m : MethodId} {args : Array Value} {below : List Frame} {meth : Method} {c : Code} {A : Nat → Prop} {D : va_G} {cI cJ cZ : ClassId} {h : Nat → Nat} (hC : zCx p s m args meth c A D (zty cI cJ cZ) cX5_tellNode RX5 7 none) (N : Nat) (f lo : Nat) (rc : tPi → tTr → tTe → Int32 → Int32 → Int32 → Int32 → Option (tTe)) (hrc : ∀ (gP : tPi) (gR : tPa) (gQ : tPa) (gT : tTr) (gE : tTe) (gM : tMe) (gS : tSq) (b0 b1 b2 b3 : Int32) (u : tTe), rc gP gT gE b0 b1 b2 b3 = some u → ∀ sz : Nat, Met l yX5_tellNode (Cond.code yX5_tellNode cX5_tellNode 7 none :: tb_L) ({ frames := f, cells := 0, slots := 0, locals := lo } : Room) (zPre D (zty cI cJ cZ) (zWC cI cJ cZ h gP gR gQ gT gE gM gS) sz [.ref (h 27), .int b0, .int b1, .int b2, .int b3]) (zQv D (va_A (zWC cI cJ cZ h gP gR gQ gT gE gM gS) sz) (zWC cI cJ cZ h gP gR gQ gT u gM gS)) 0 0 (va_A (zWC cI cJ cZ h gP gR gQ gT gE gM gS) sz)) (gP : tPi) (gR : tPa) (gQ : tPa) (gT : tTr) (gM : tMe) (gS : tSq) (u : tTe) : ∀ (gE : tTe) (v1 : Int32) (v2 : Int32) (v3 : Int32) (v4 : Int32) (v5 : Int32) (H : Heap) (locs : List Loc) (ls : Array Slot), va_P D vwCl (zWC cI cJ cZ h gP gR gQ gT gE gM gS) H → va_D A (zWC cI cJ cZ h gP gR gQ gT gE gM gS) → va_S A s.heap H locs → lv_has ls 7 [(0, .ref (h 27)), (1, .int v1), (2, .int v2), (3, .int v3), (4, .int v4), (5, .int v5)] → X5_tellNode_b151 N rc gP gT gE v1 v2 v3 v4 v5 = some u → W p l e ({ frames := f + 1, cells := 0, slots := 0, locals := lo + 26 } : Room) s m args below meth c H locs 0 0 (MQ below (zQv D A (zWC cI cJ cZ h gP gR gQ gT u gM gS)) args s 0 0 A) (F0 m 151 ls []) := by
  intro gE v1 v2 v3 v4 v5 H locs ls hP hD hS hl hf
  obtain ⟨hx, hb, hml, hown, hts, hK, hr, hlocks, hA⟩ := id hC
  unfold X5_tellNode_b151 at hf
  refine lv_aload_n hx hb dX5_tellNode_151 rfl (lv_at hl 0 rfl) ?_
  refine lv_iload hx hb dX5_tellNode_152 (lv_at hl 5 rfl) ?_
  refine lv_if_eq (tgt := 169) hx hb dX5_tellNode_154 (by decide) (fun c2 => ?_) (fun c2 => ?_)
  · replace hf := zif_t hf c2
    refine lv_aload_n hx hb dX5_tellNode_169 rfl (lv_at hl 0 rfl) ?_
    refine va_get (D := D) (ci := 5) (v := .ref (h 13)) (C := RX5) (T := TX5) (N := 4) hx hb hts tb_wsX50 hown hK.1 hP 27 rfl rfl 3 (by decide) (hts _ tb_4_10) (fun _ h9 => h9) rfl dX5_tellNode_170 ?_
    refine va_get (D := D) (ci := 6) (v := .ref (h 18)) (C := RX6) (T := TX6) (N := 17) hx hb hts tb_wsX60 hown hK.1 hP 13 rfl rfl 4 (by decide) (hts _ tb_20_15) (fun _ h9 => h9) rfl dX5_tellNode_173 ?_
    refine lv_iload_n hx hb dX5_tellNode_176 rfl (lv_at hl 1 rfl) ?_
    obtain ⟨h3, hf⟩ := zck_s hf
    refine va_iald hx hb hK.1 hP 18 0 rfl rfl h3 dX5_tellNode_177 ?_
    exact t_X5_tellNode_b178 hC N f lo rc hrc gP gR gQ gT gM gS u gE v2 v3 v4 ((tTr.back gT) v1.toNatClampNeg) H locs ls hP hD hS (lv_sub hl [2, 3, 4] rfl) hf
  · replace hf := zif_f hf c2
    refine lv_aload_n hx hb dX5_tellNode_157 rfl (lv_at hl 0 rfl) ?_
    refine va_get (D := D) (ci := 5) (v := .ref (h 13)) (C := RX5) (T := TX5) (N := 4) hx hb hts tb_wsX50 hown hK.1 hP 27 rfl rfl 3 (by decide) (hts _ tb_4_10) (fun _ h9 => h9) rfl dX5_tellNode_158 ?_
    refine va_get (D := D) (ci := 6) (v := .ref (h 17)) (C := RX6) (T := TX6) (N := 17) hx hb hts tb_wsX60 hown hK.1 hP 13 rfl rfl 3 (by decide) (hts _ tb_20_16) (fun _ h9 => h9) rfl dX5_tellNode_161 ?_
    refine lv_iload_n hx hb dX5_tellNode_164 rfl (lv_at hl 1 rfl) ?_
    obtain ⟨h4, hf⟩ := zck_s hf
    refine va_iald hx hb hK.1 hP 17 0 rfl rfl h4 dX5_tellNode_165 ?_
    refine lv_goto (tgt := 178) hx hb dX5_tellNode_166 (by decide) ?_
    exact t_X5_tellNode_b178 hC N f lo rc hrc gP gR gQ gT gM gS u gE v2 v3 v4 ((tTr.front gT) v1.toNatClampNeg) H locs ls hP hD hS (lv_sub hl [2, 3, 4] rfl) hf
set_option maxHeartbeats 4000000 in
set_option maxRecDepth 100000 in
theorem t_X5_tellNode_b90 {p : Program} {l : Launch} {e : Env} {s : State} {m : MethodId} {args : Array Value} {below : List Frame} {meth : Method} {c : Code} {A : Nat → Prop} {D : va_G} {cI cJ cZ : ClassId} {h : Nat → Nat} (hC : zCx p s m args meth c A D (zty cI cJ cZ) cX5_tellNode RX5 7 none) (N : Nat) (f lo : Nat) (rc : tPi → tTr → tTe → Int32 → Int32 → Int32 → Int32 → Option (tTe)) (hrc : ∀ (gP : tPi) (gR : tPa) (gQ : tPa) (gT : tTr) (gE : tTe) (gM : tMe) (gS : tSq) (b0 b1 b2 b3 : Int32) (u : tTe), rc gP gT gE b0 b1 b2 b3 = some u → ∀ sz : Nat, Met l yX5_tellNode (Cond.code yX5_tellNode cX5_tellNode 7 none :: tb_L) ({ frames := f, cells := 0, slots := 0, locals := lo } : Room) (zPre D (zty cI cJ cZ) (zWC cI cJ cZ h gP gR gQ gT gE gM gS) sz [.ref (h 27), .int b0, .int b1, .int b2, .int b3]) (zQv D (va_A (zWC cI cJ cZ h gP gR gQ gT gE gM gS) sz) (zWC cI cJ cZ h gP gR gQ gT u gM gS)) 0 0 (va_A (zWC cI cJ cZ h gP gR gQ gT gE gM gS) sz)) (gP : tPi) (gR : tPa) (gQ : tPa) (gT : tTr) (gM : tMe) (gS : tSq) (u : tTe) : ∀ (n : Nat) (gE : tTe) (v1 : Int32) (v2 : Int32) (v3 : Int32) (v4 : Int32) (v5 : Int32) (v6 : Int32) (H : Heap) (locs : List Loc) (ls : Array Slot), va_P D vwCl (zWC cI cJ cZ h gP gR gQ gT gE gM gS) H → va_D A (zWC cI cJ cZ h gP gR gQ gT gE gM gS) → va_S A s.heap H locs → lv_has ls 7 [(0, .ref (h 27)), (1, .int v1), (2, .int v2), (3, .int v3), (4, .int v4), (5, .int v5), (6, .int v6)] → X5_tellNode_b90 N rc gP gT n gE v1 v2 v3 v4 v5 v6 = some u → W p l e ({ frames := f + 1, cells := 0, slots := 0, locals := lo + 26 } : Room) s m args below meth c H locs 0 0 (MQ below (zQv D A (zWC cI cJ cZ h gP gR gQ gT u gM gS)) args s 0 0 A) (F0 m 90 ls []) := by
  intro n
  induction n with
  | zero =>
    intro gE v1 v2 v3 v4 v5 v6 H locs ls hP hD hS hl hf
    cases hf
  | succ n ih =>
    intro gE v1 v2 v3 v4 v5 v6 H locs ls hP hD hS hl hf
    obtain ⟨hx, hb, hml, hown, hts, hK, hr, hlocks, hA⟩ := id hC
    rw [X5_tellNode_b90] at hf
    refine lv_iload hx hb dX5_tellNode_90 (lv_at hl 6 rfl) ?_
    refine lv_aload_n hx hb dX5_tellNode_92 rfl (lv_at hl 0 rfl) ?_
    refine va_get (D := D) (ci := 5) (v := .ref (h 13)) (C := RX5) (T := TX5) (N := 4) hx hb hts tb_wsX50 hown hK.1 hP 27 rfl rfl 3 (by decide) (hts _ tb_4_10) (fun _ h9 => h9) rfl dX5_tellNode_93 ?_
    refine va_get (D := D) (ci := 6) (v := .ref (h 15)) (C := RX6) (T := TX6) (N := 17) hx hb hts tb_wsX60 hown hK.1 hP 13 rfl rfl 1 (by decide) (hts _ tb_20_17) (fun _ h9 => h9) rfl dX5_tellNode_96 ?_
    refine lv_iload_n hx hb dX5_tellNode_99 rfl (lv_at hl 1 rfl) ?_
    obtain ⟨h5, hf⟩ := zck_s hf
    refine va_iald hx hb hK.1 hP 15 0 rfl rfl h5 dX5_tellNode_100 ?_
    refine lv_icmp_ge (tgt := 151) hx hb dX5_tellNode_101 (by decide) (fun c6 => ?_) (fun c6 => ?_)
    · replace hf := zif_t hf c6
      exact t_X5_tellNode_b151 hC N f lo rc hrc gP gR gQ gT gM gS u gE v1 v2 v3 v4 v5 H locs ls hP hD hS (lv_sub hl [0, 1, 2, 3, 4, 5] rfl) hf
    · replace hf := zif_f hf c6
      refine lv_aload_n hx hb dX5_tellNode_104 rfl (lv_at hl 0 rfl) ?_
      refine va_get (D := D) (ci := 5) (v := .int (tTe.size gE)) (C := RX5) (T := TX5) (N := 4) hx hb hts tb_wsX50 hown hK.1 hP 27 rfl rfl 1 (by decide) (hts _ tb_20_7) (fun _ h9 => h9) rfl dX5_tellNode_105 ?_
      refine lv_sipush (v := 300) hx hb dX5_tellNode_108 (by decide) ?_
      refine lv_icmp_ge (tgt := 151) hx hb dX5_tellNode_111 (by decide) (fun c7 => ?_) (fun c7 => ?_)
      · replace hf := zif_t hf c7
        exact t_X5_tellNode_b151 hC N f lo rc hrc gP gR gQ gT gM gS u gE v1 v2 v3 v4 v5 H locs ls hP hD hS (lv_sub hl [0, 1, 2, 3, 4, 5] rfl) hf
      · replace hf := zif_f hf c7
        refine lv_aload_n hx hb dX5_tellNode_114 rfl (lv_at hl 0 rfl) ?_
        refine va_get (D := D) (ci := 5) (v := .ref (h 28)) (C := RX5) (T := TX5) (N := 4) hx hb hts tb_wsX50 hown hK.1 hP 27 rfl rfl 0 (by decide) (hts _ tb_4_8) (fun _ h9 => h9) rfl dX5_tellNode_115 ?_
        refine lv_aload_n hx hb dX5_tellNode_118 rfl (lv_at hl 0 rfl) ?_
        refine va_get (D := D) (ci := 5) (v := .int (tTe.size gE)) (C := RX5) (T := TX5) (N := 4) hx hb hts tb_wsX50 hown hK.1 hP 27 rfl rfl 1 (by decide) (hts _ tb_20_7) (fun _ h9 => h9) rfl dX5_tellNode_119 ?_
        refine lv_aload_n hx hb dX5_tellNode_122 rfl (lv_at hl 0 rfl) ?_
        refine va_get (D := D) (ci := 5) (v := .ref (h 13)) (C := RX5) (T := TX5) (N := 4) hx hb hts tb_wsX50 hown hK.1 hP 27 rfl rfl 3 (by decide) (hts _ tb_4_10) (fun _ h9 => h9) rfl dX5_tellNode_123 ?_
        refine va_get (D := D) (ci := 6) (v := .ref (h 16)) (C := RX6) (T := TX6) (N := 17) hx hb hts tb_wsX60 hown hK.1 hP 13 rfl rfl 2 (by decide) (hts _ tb_20_18) (fun _ h9 => h9) rfl dX5_tellNode_126 ?_
        refine lv_iload_n hx hb dX5_tellNode_129 rfl (lv_at hl 1 rfl) ?_
        obtain ⟨h8, hf⟩ := zck_s hf
        refine va_iald hx hb hK.1 hP 16 0 rfl rfl h8 dX5_tellNode_130 ?_
        refine lv_iload hx hb dX5_tellNode_131 (lv_at hl 6 rfl) ?_
        refine lv_iadd hx hb dX5_tellNode_133 ?_
        obtain ⟨h9, hf⟩ := zck_s hf
        refine va_iast hx hb hK.1 hP hD hS 28 0 rfl rfl h9 dX5_tellNode_134 (fun H locs hP hD hS => ?_)
        replace hP : va_P D vwCl (zWC cI cJ cZ h gP gR gQ gT (tTe.s_row gE (upd (tTe.row gE) (tTe.size gE).toNatClampNeg (((tTr.firstHeld gT) v1.toNatClampNeg) + v6))) gM gS) H := hP
        replace hD : va_D A (zWC cI cJ cZ h gP gR gQ gT (tTe.s_row gE (upd (tTe.row gE) (tTe.size gE).toNatClampNeg (((tTr.firstHeld gT) v1.toNatClampNeg) + v6))) gM gS) := hD
        refine lv_aload_n hx hb dX5_tellNode_135 rfl (lv_at hl 0 rfl) ?_
        refine lv_dup hx hb dX5_tellNode_136 rfl ?_
        refine va_get (D := D) (ci := 5) (v := .int (tTe.size gE)) (C := RX5) (T := TX5) (N := 4) hx hb hts tb_wsX50 hown hK.1 hP 27 rfl rfl 1 (by decide) (hts _ tb_20_7) (fun _ h9 => h9) rfl dX5_tellNode_137 ?_
        refine lv_iconst (v := 1) hx hb dX5_tellNode_140 (by decide) ?_
        refine lv_iadd hx hb dX5_tellNode_141 ?_
        refine va_put (D := D) (ci := 5) (v := .int ((tTe.size gE) + (1 : Int32))) (ty := .int) (C := RX5) (T := TX5) (N := 4) hx hb hts tb_wsX50 tyX5 tyX5_ok nmX5 hown hK.1 hP hD hS 27 rfl rfl 1 (by decide) (hts _ tb_20_7) (fun _ h9 => h9) rfl (by decide +kernel) rfl rfl (Nat.le_of_ble_eq_true rfl) dX5_tellNode_142 (fun H locs hP hD hS => ?_)
        replace hP : va_P D vwCl (zWC cI cJ cZ h gP gR gQ gT (tTe.s_size (tTe.s_row gE (upd (tTe.row gE) (tTe.size gE).toNatClampNeg (((tTr.firstHeld gT) v1.toNatClampNeg) + v6))) ((tTe.size gE) + (1 : Int32))) gM gS) H := hP
        replace hD : va_D A (zWC cI cJ cZ h gP gR gQ gT (tTe.s_size (tTe.s_row gE (upd (tTe.row gE) (tTe.size gE).toNatClampNeg (((tTr.firstHeld gT) v1.toNatClampNeg) + v6))) ((tTe.size gE) + (1 : Int32))) gM gS) := hD
        refine lv_iinc (v := (v6 + (1 : Int32))) (lv' := [(6, .int (v6 + (1 : Int32))), (0, .ref (h 27)), (1, .int v1), (2, .int v2), (3, .int v3), (4, .int v4), (5, .int v5)]) hx hb dX5_tellNode_145 hl (k := 6) rfl rfl (by decide) rfl (fun ls hl => ?_)
        refine lv_goto (tgt := 90) hx hb dX5_tellNode_148 (by decide) ?_
        exact ih (tTe.s_size (tTe.s_row gE (upd (tTe.row gE) (tTe.size gE).toNatClampNeg (((tTr.firstHeld gT) v1.toNatClampNeg) + v6))) ((tTe.size gE) + (1 : Int32))) v1 v2 v3 v4 v5 (v6 + (1 : Int32)) H locs ls hP hD hS (lv_sub hl [1, 2, 3, 4, 5, 6, 0] rfl) hf
set_option maxHeartbeats 4000000 in
set_option maxRecDepth 100000 in
theorem t_X5_tellNode_b78 {p : Program} {l : Launch} {e : Env} {s : State} {m : MethodId} {args : Array Value} {below : List Frame} {meth : Method} {c : Code} {A : Nat → Prop} {D : va_G} {cI cJ cZ : ClassId} {h : Nat → Nat} (hC : zCx p s m args meth c A D (zty cI cJ cZ) cX5_tellNode RX5 7 none) (N : Nat) (f lo : Nat) (rc : tPi → tTr → tTe → Int32 → Int32 → Int32 → Int32 → Option (tTe)) (hrc : ∀ (gP : tPi) (gR : tPa) (gQ : tPa) (gT : tTr) (gE : tTe) (gM : tMe) (gS : tSq) (b0 b1 b2 b3 : Int32) (u : tTe), rc gP gT gE b0 b1 b2 b3 = some u → ∀ sz : Nat, Met l yX5_tellNode (Cond.code yX5_tellNode cX5_tellNode 7 none :: tb_L) ({ frames := f, cells := 0, slots := 0, locals := lo } : Room) (zPre D (zty cI cJ cZ) (zWC cI cJ cZ h gP gR gQ gT gE gM gS) sz [.ref (h 27), .int b0, .int b1, .int b2, .int b3]) (zQv D (va_A (zWC cI cJ cZ h gP gR gQ gT gE gM gS) sz) (zWC cI cJ cZ h gP gR gQ gT u gM gS)) 0 0 (va_A (zWC cI cJ cZ h gP gR gQ gT gE gM gS) sz)) (gP : tPi) (gR : tPa) (gQ : tPa) (gT : tTr) (gM : tMe) (gS : tSq) (u : tTe) : ∀ (gE : tTe) (v1 : Int32) (v2 : Int32) (v3 : Int32) (v4 : Int32) (v5 : Int32) (s0 : Int32) (H : Heap) (locs : List Loc) (ls : Array Slot), va_P D vwCl (zWC cI cJ cZ h gP gR gQ gT gE gM gS) H → va_D A (zWC cI cJ cZ h gP gR gQ gT gE gM gS) → va_S A s.heap H locs → lv_has ls 7 [(0, .ref (h 27)), (1, .int v1), (2, .int v2), (3, .int v3), (4, .int v4), (5, .int v5)] → X5_tellNode_b78 N rc gP gT gE v1 v2 v3 v4 v5 s0 = some u → W p l e ({ frames := f + 1, cells := 0, slots := 0, locals := lo + 26 } : Room) s m args below meth c H locs 0 0 (MQ below (zQv D A (zWC cI cJ cZ h gP gR gQ gT u gM gS)) args s 0 0 A) (F0 m 78 ls [.int s0, .ref (h 27)]) := by
  intro gE v1 v2 v3 v4 v5 s0 H locs ls hP hD hS hl hf
  obtain ⟨hx, hb, hml, hown, hts, hK, hr, hlocks, hA⟩ := id hC
  unfold X5_tellNode_b78 at hf
  refine lv_iload_n hx hb dX5_tellNode_78 rfl (lv_at hl 2 rfl) ?_
  refine lv_iload_n hx hb dX5_tellNode_79 rfl (lv_at hl 3 rfl) ?_
  refine lv_iload hx hb dX5_tellNode_80 (lv_at hl 4 rfl) ?_
  refine lv_iconst (v := 1) hx hb dX5_tellNode_82 (by decide) ?_
  refine lv_iadd hx hb dX5_tellNode_83 ?_
  obtain ⟨u10, hu10, hf⟩ := zbd hf
  refine zthen_v hA hD hS (zrunV (As := [.int s0, .int v2, .int v3, .int (v4 + (1 : Int32))]) (rest := []) hC hP hD 27 rfl rfl (hrc gP gR gQ gT gE gM gS s0 v2 v3 (v4 + (1 : Int32)) u10 hu10 H.size) kRX5_32 rfl rfl ⟨by dsimp only; omega, by dsimp only; omega⟩ rfl hl.1 rfl (Nat.le_of_ble_eq_true rfl) dX5_tellNode_84) (fun H locs hP hD hS => ?_)
  refine lv_iconst (v := 0) hx hb dX5_tellNode_87 (by decide) ?_
  refine lv_istore (lv' := [(6, .int (0 : Int32)), (0, .ref (h 27)), (1, .int v1), (2, .int v2), (3, .int v3), (4, .int v4), (5, .int v5)]) hx hb dX5_tellNode_88 hl (by decide) rfl (fun ls hl => ?_)
  exact t_X5_tellNode_b90 hC N f lo rc hrc gP gR gQ gT gM gS u N u10 v1 v2 v3 v4 v5 (0 : Int32) H locs ls hP hD hS (lv_sub hl [1, 2, 3, 4, 5, 6, 0] rfl) hf
set_option maxHeartbeats 4000000 in
set_option maxRecDepth 100000 in
theorem t_X5_tellNode_b49 {p : Program} {l : Launch} {e : Env} {s : State} {m : MethodId} {args : Array Value} {below : List Frame} {meth : Method} {c : Code} {A : Nat → Prop} {D : va_G} {cI cJ cZ : ClassId} {h : Nat → Nat} (hC : zCx p s m args meth c A D (zty cI cJ cZ) cX5_tellNode RX5 7 none) (N : Nat) (f lo : Nat) (rc : tPi → tTr → tTe → Int32 → Int32 → Int32 → Int32 → Option (tTe)) (hrc : ∀ (gP : tPi) (gR : tPa) (gQ : tPa) (gT : tTr) (gE : tTe) (gM : tMe) (gS : tSq) (b0 b1 b2 b3 : Int32) (u : tTe), rc gP gT gE b0 b1 b2 b3 = some u → ∀ sz : Nat, Met l yX5_tellNode (Cond.code yX5_tellNode cX5_tellNode 7 none :: tb_L) ({ frames := f, cells := 0, slots := 0, locals := lo } : Room) (zPre D (zty cI cJ cZ) (zWC cI cJ cZ h gP gR gQ gT gE gM gS) sz [.ref (h 27), .int b0, .int b1, .int b2, .int b3]) (zQv D (va_A (zWC cI cJ cZ h gP gR gQ gT gE gM gS) sz) (zWC cI cJ cZ h gP gR gQ gT u gM gS)) 0 0 (va_A (zWC cI cJ cZ h gP gR gQ gT gE gM gS) sz)) (gP : tPi) (gR : tPa) (gQ : tPa) (gT : tTr) (gM : tMe) (gS : tSq) (u : tTe) : ∀ (gE : tTe) (v1 : Int32) (v2 : Int32) (v3 : Int32) (v4 : Int32) (s0 : Int32) (H : Heap) (locs : List Loc) (ls : Array Slot), va_P D vwCl (zWC cI cJ cZ h gP gR gQ gT gE gM gS) H → va_D A (zWC cI cJ cZ h gP gR gQ gT gE gM gS) → va_S A s.heap H locs → lv_has ls 7 [(0, .ref (h 27)), (1, .int v1), (2, .int v2), (3, .int v3), (4, .int v4)] → X5_tellNode_b49 N rc gP gT gE v1 v2 v3 v4 s0 = some u → W p l e ({ frames := f + 1, cells := 0, slots := 0, locals := lo + 26 } : Room) s m args below meth c H locs 0 0 (MQ below (zQv D A (zWC cI cJ cZ h gP gR gQ gT u gM gS)) args s 0 0 A) (F0 m 49 ls [.int s0]) := by
  intro gE v1 v2 v3 v4 s0 H locs ls hP hD hS hl hf
  obtain ⟨hx, hb, hml, hown, hts, hK, hr, hlocks, hA⟩ := id hC
  unfold X5_tellNode_b49 at hf
  refine lv_istore (lv' := [(5, .int s0), (0, .ref (h 27)), (1, .int v1), (2, .int v2), (3, .int v3), (4, .int v4)]) hx hb dX5_tellNode_49 hl (by decide) rfl (fun ls hl => ?_)
  refine lv_aload_n hx hb dX5_tellNode_51 rfl (lv_at hl 1 rfl) ?_
  refine lv_iload hx hb dX5_tellNode_52 (lv_at hl 0 rfl) ?_
  refine lv_if_eq (tgt := 69) hx hb dX5_tellNode_54 (by decide) (fun c11 => ?_) (fun c11 => ?_)
  · replace hf := zif_t hf c11
    refine lv_aload_n hx hb dX5_tellNode_69 rfl (lv_at hl 1 rfl) ?_
    refine va_get (D := D) (ci := 5) (v := .ref (h 13)) (C := RX5) (T := TX5) (N := 4) hx hb hts tb_wsX50 hown hK.1 hP 27 rfl rfl 3 (by decide) (hts _ tb_4_10) (fun _ h9 => h9) rfl dX5_tellNode_70 ?_
    refine va_get (D := D) (ci := 6) (v := .ref (h 17)) (C := RX6) (T := TX6) (N := 17) hx hb hts tb_wsX60 hown hK.1 hP 13 rfl rfl 3 (by decide) (hts _ tb_20_16) (fun _ h9 => h9) rfl dX5_tellNode_73 ?_
    refine lv_iload_n hx hb dX5_tellNode_76 rfl (lv_at hl 2 rfl) ?_
    obtain ⟨h12, hf⟩ := zck_s hf
    refine va_iald hx hb hK.1 hP 17 0 rfl rfl h12 dX5_tellNode_77 ?_
    exact t_X5_tellNode_b78 hC N f lo rc hrc gP gR gQ gT gM gS u gE v1 v2 v3 v4 s0 ((tTr.front gT) v1.toNatClampNeg) H locs ls hP hD hS (lv_sub hl [1, 2, 3, 4, 5, 0] rfl) hf
  · replace hf := zif_f hf c11
    refine lv_aload_n hx hb dX5_tellNode_57 rfl (lv_at hl 1 rfl) ?_
    refine va_get (D := D) (ci := 5) (v := .ref (h 13)) (C := RX5) (T := TX5) (N := 4) hx hb hts tb_wsX50 hown hK.1 hP 27 rfl rfl 3 (by decide) (hts _ tb_4_10) (fun _ h9 => h9) rfl dX5_tellNode_58 ?_
    refine va_get (D := D) (ci := 6) (v := .ref (h 18)) (C := RX6) (T := TX6) (N := 17) hx hb hts tb_wsX60 hown hK.1 hP 13 rfl rfl 4 (by decide) (hts _ tb_20_15) (fun _ h9 => h9) rfl dX5_tellNode_61 ?_
    refine lv_iload_n hx hb dX5_tellNode_64 rfl (lv_at hl 2 rfl) ?_
    obtain ⟨h13, hf⟩ := zck_s hf
    refine va_iald hx hb hK.1 hP 18 0 rfl rfl h13 dX5_tellNode_65 ?_
    refine lv_goto (tgt := 78) hx hb dX5_tellNode_66 (by decide) ?_
    exact t_X5_tellNode_b78 hC N f lo rc hrc gP gR gQ gT gM gS u gE v1 v2 v3 v4 s0 ((tTr.back gT) v1.toNatClampNeg) H locs ls hP hD hS (lv_sub hl [1, 2, 3, 4, 5, 0] rfl) hf
set_option maxHeartbeats 4000000 in
set_option maxRecDepth 100000 in
theorem c_X5_tellNode_body (l : Launch) (D : va_G) (cI cJ cZ : ClassId) (h : Nat → Nat) (N : Nat) (f lo : Nat) (rc : tPi → tTr → tTe → Int32 → Int32 → Int32 → Int32 → Option (tTe)) (hrc : ∀ (gP : tPi) (gR : tPa) (gQ : tPa) (gT : tTr) (gE : tTe) (gM : tMe) (gS : tSq) (b0 b1 b2 b3 : Int32) (u : tTe), rc gP gT gE b0 b1 b2 b3 = some u → ∀ sz : Nat, Met l yX5_tellNode (Cond.code yX5_tellNode cX5_tellNode 7 none :: tb_L) ({ frames := f, cells := 0, slots := 0, locals := lo } : Room) (zPre D (zty cI cJ cZ) (zWC cI cJ cZ h gP gR gQ gT gE gM gS) sz [.ref (h 27), .int b0, .int b1, .int b2, .int b3]) (zQv D (va_A (zWC cI cJ cZ h gP gR gQ gT gE gM gS) sz) (zWC cI cJ cZ h gP gR gQ gT u gM gS)) 0 0 (va_A (zWC cI cJ cZ h gP gR gQ gT gE gM gS) sz)) (gP : tPi) (gR : tPa) (gQ : tPa) (gT : tTr) (gE : tTe) (gM : tMe) (gS : tSq) (a1 : Int32) (a2 : Int32) (a3 : Int32) (a4 : Int32) (u : tTe) (hf : X5_tellNode_body N rc gP gT gE a1 a2 a3 a4 = some u) (sz : Nat) : Met l yX5_tellNode (Cond.code yX5_tellNode cX5_tellNode 7 none :: tb_L) ({ frames := f + 1, cells := 0, slots := 0, locals := lo + 26 } : Room) (zPre D (zty cI cJ cZ) (zWC cI cJ cZ h gP gR gQ gT gE gM gS) sz [.ref (h 27), .int a1, .int a2, .int a3, .int a4]) (zQv D (va_A (zWC cI cJ cZ h gP gR gQ gT gE gM gS) sz) (zWC cI cJ cZ h gP gR gQ gT u gM gS)) 0 0 (va_A (zWC cI cJ cZ h gP gR gQ gT gE gM gS) sz) := by
  refine zMet (Qc := fun A => zQv D A (zWC cI cJ cZ h gP gR gQ gT u gM gS)) (by decide) rfl (Nat.le_of_ble_eq_true rfl) ?_
  intro p e s m args below meth c A ls hC _ hP hD hS hl
  replace hl : lv_has ls 7 [(0, .ref (h 27)), (1, .int a1), (2, .int a2), (3, .int a3), (4, .int a4)] := hl
  obtain ⟨hx, hb, hml, hown, hts, hK, hr, hlocks, hA⟩ := id hC
  unfold X5_tellNode_body at hf
  obtain ⟨H, hH⟩ : ∃ H, H = s.heap := ⟨_, rfl⟩
  rw [← hH] at hP
  replace hS : va_S A s.heap H [] := by rw [hH]; exact hS
  show W p l e _ s m args below meth c s.heap [] 0 0 _ _
  rw [← hH]
  clear hH
  obtain ⟨locs, hlo⟩ : ∃ x : List Loc, x = [] := ⟨_, rfl⟩
  rw [← hlo] at hS ⊢
  clear hlo
  refine lv_iload_n hx hb dX5_tellNode_0 rfl (lv_at hl 1 rfl) ?_
  refine lv_if_lt (tgt := 22) hx hb dX5_tellNode_1 (by decide) (fun c14 => ?_) (fun c14 => ?_)
  · replace hf := zif_t hf c14
    have hu := Option.some.inj hf
    subst hu
    exact z_vret hC hP hD hS dX5_tellNode_22
  · replace hf := zif_f hf c14
    refine lv_iload_n hx hb dX5_tellNode_4 rfl (lv_at hl 1 rfl) ?_
    refine lv_aload_n hx hb dX5_tellNode_5 rfl (lv_at hl 0 rfl) ?_
    refine va_get (D := D) (ci := 5) (v := .ref (h 13)) (C := RX5) (T := TX5) (N := 4) hx hb hts tb_wsX50 hown hK.1 hP 27 rfl rfl 3 (by decide) (hts _ tb_4_10) (fun _ h9 => h9) rfl dX5_tellNode_6 ?_
    refine va_get (D := D) (ci := 6) (v := .int (tTr.knots gT)) (C := RX6) (T := TX6) (N := 17) hx hb hts tb_wsX60 hown hK.1 hP 13 rfl rfl 10 (by decide) (hts _ tb_20_13) (fun _ h9 => h9) rfl dX5_tellNode_9 ?_
    refine lv_icmp_ge (tgt := 22) hx hb dX5_tellNode_12 (by decide) (fun c15 => ?_) (fun c15 => ?_)
    · replace hf := zif_t hf c15
      have hu := Option.some.inj hf
      subst hu
      exact z_vret hC hP hD hS dX5_tellNode_22
    · replace hf := zif_f hf c15
      refine lv_iload hx hb dX5_tellNode_15 (lv_at hl 4 rfl) ?_
      refine lv_bipush (v := 24) hx hb dX5_tellNode_17 (by decide) ?_
      refine lv_icmp_lt (tgt := 23) hx hb dX5_tellNode_19 (by decide) (fun c16 => ?_) (fun c16 => ?_)
      · replace hf := zif_t hf c16
        refine lv_aload_n hx hb dX5_tellNode_23 rfl (lv_at hl 0 rfl) ?_
        refine va_get (D := D) (ci := 5) (v := .ref (h 1)) (C := RX5) (T := TX5) (N := 4) hx hb hts tb_wsX50 hown hK.1 hP 27 rfl rfl 2 (by decide) (hts _ tb_4_9) (fun _ h9 => h9) rfl dX5_tellNode_24 ?_
        refine lv_aload_n hx hb dX5_tellNode_27 rfl (lv_at hl 0 rfl) ?_
        refine va_get (D := D) (ci := 5) (v := .ref (h 13)) (C := RX5) (T := TX5) (N := 4) hx hb hts tb_wsX50 hown hK.1 hP 27 rfl rfl 3 (by decide) (hts _ tb_4_10) (fun _ h9 => h9) rfl dX5_tellNode_28 ?_
        refine va_get (D := D) (ci := 6) (v := .ref (h 14)) (C := RX6) (T := TX6) (N := 17) hx hb hts tb_wsX60 hown hK.1 hP 13 rfl rfl 0 (by decide) (hts _ tb_20_14) (fun _ h9 => h9) rfl dX5_tellNode_31 ?_
        refine lv_iload_n hx hb dX5_tellNode_34 rfl (lv_at hl 1 rfl) ?_
        obtain ⟨h17, hf⟩ := zck_s hf
        refine va_iald hx hb hK.1 hP 14 0 rfl rfl h17 dX5_tellNode_35 ?_
        refine lv_iload_n hx hb dX5_tellNode_36 rfl (lv_at hl 2 rfl) ?_
        refine lv_iload_n hx hb dX5_tellNode_37 rfl (lv_at hl 3 rfl) ?_
        obtain ⟨u18, hu18, hf⟩ := zbd hf
        refine zthen_i hA hD hS (zrunV (As := [.int ((tTr.line gT) a1.toNatClampNeg), .int a2, .int a3]) (rest := []) hC hP hD 1 rfl rfl (c_X3_sideOf l D cI cJ cZ h  gP gR gQ gT gE gM gS ((tTr.line gT) a1.toNatClampNeg) a2 a3 u18 hu18 H.size) kRX5_42 rfl rfl ⟨by dsimp only; omega, by dsimp only; omega⟩ rfl hl.1 rfl (Nat.le_of_ble_eq_true rfl) dX5_tellNode_38) (fun H locs hP hD hS => ?_)
        refine lv_if_le (tgt := 48) hx hb dX5_tellNode_41 (by decide) (fun c19 => ?_) (fun c19 => ?_)
        · replace hf := zif_t hf c19
          refine lv_iconst (v := 0) hx hb dX5_tellNode_48 (by decide) ?_
          exact t_X5_tellNode_b49 hC N f lo rc hrc gP gR gQ gT gM gS u gE a1 a2 a3 a4 (0 : Int32) H locs ls hP hD hS (lv_sub hl [0, 1, 2, 3, 4] rfl) hf
        · replace hf := zif_f hf c19
          refine lv_iconst (v := 1) hx hb dX5_tellNode_44 (by decide) ?_
          refine lv_goto (tgt := 49) hx hb dX5_tellNode_45 (by decide) ?_
          exact t_X5_tellNode_b49 hC N f lo rc hrc gP gR gQ gT gM gS u gE a1 a2 a3 a4 (1 : Int32) H locs ls hP hD hS (lv_sub hl [0, 1, 2, 3, 4] rfl) hf
      · replace hf := zif_f hf c16
        have hu := Option.some.inj hf
        subst hu
        exact z_vret hC hP hD hS dX5_tellNode_22
set_option maxHeartbeats 4000000 in
set_option maxRecDepth 100000 in
theorem c_X5_tellNode (l : Launch) (D : va_G) (cI cJ cZ : ClassId) (h : Nat → Nat) (N : Nat) : ∀ (d : Nat) (gP : tPi) (gR : tPa) (gQ : tPa) (gT : tTr) (gE : tTe) (gM : tMe) (gS : tSq) (a1 : Int32) (a2 : Int32) (a3 : Int32) (a4 : Int32) (u : tTe), X5_tellNode N d gP gT gE a1 a2 a3 a4 = some u → ∀ (sz : Nat), Met l yX5_tellNode (Cond.code yX5_tellNode cX5_tellNode 7 none :: tb_L) ({ frames := 1 * d, cells := 0, slots := 0, locals := 26 * d } : Room) (zPre D (zty cI cJ cZ) (zWC cI cJ cZ h gP gR gQ gT gE gM gS) sz [.ref (h 27), .int a1, .int a2, .int a3, .int a4]) (zQv D (va_A (zWC cI cJ cZ h gP gR gQ gT gE gM gS) sz) (zWC cI cJ cZ h gP gR gQ gT u gM gS)) 0 0 (va_A (zWC cI cJ cZ h gP gR gQ gT gE gM gS) sz) := by
  intro d
  induction d with
  | zero => intro gP gR gQ gT gE gM gS a1 a2 a3 a4 u hf; cases hf
  | succ d ih =>
    intro gP gR gQ gT gE gM gS a1 a2 a3 a4 u hf sz
    rw [X5_tellNode] at hf
    exact c_X5_tellNode_body l D cI cJ cZ h N (1 * d) (26 * d) _ ih gP gR gQ gT gE gM gS a1 a2 a3 a4 u hf sz
set_option maxHeartbeats 4000000 in
set_option maxRecDepth 100000 in
theorem c_X5_tellFrom (l : Launch) (D : va_G) (cI cJ cZ : ClassId) (h : Nat → Nat) (N : Nat) (gP : tPi) (gR : tPa) (gQ : tPa) (gT : tTr) (gE : tTe) (gM : tMe) (gS : tSq) (a1 : Int32) (a2 : Int32) (u : tTe) (hf : X5_tellFrom N gP gT gE a1 a2 = some u) (sz : Nat) : Met l yX5_tellFrom (Cond.code yX5_tellFrom cX5_tellFrom 3 none :: tb_L) ({ frames := 26, cells := 0, slots := 0, locals := 676 } : Room) (zPre D (zty cI cJ cZ) (zWC cI cJ cZ h gP gR gQ gT gE gM gS) sz [.ref (h 27), .int a1, .int a2]) (zQv D (va_A (zWC cI cJ cZ h gP gR gQ gT gE gM gS) sz) (zWC cI cJ cZ h gP gR gQ gT u gM gS)) 0 0 (va_A (zWC cI cJ cZ h gP gR gQ gT gE gM gS) sz) := by
  refine zMet (Qc := fun A => zQv D A (zWC cI cJ cZ h gP gR gQ gT u gM gS)) (by decide) rfl (Nat.le_of_ble_eq_true rfl) ?_
  intro p e s m args below meth c A ls hC _ hP hD hS hl
  replace hl : lv_has ls 3 [(0, .ref (h 27)), (1, .int a1), (2, .int a2)] := hl
  obtain ⟨hx, hb, hml, hown, hts, hK, hr, hlocks, hA⟩ := id hC
  unfold X5_tellFrom at hf
  obtain ⟨H, hH⟩ : ∃ H, H = s.heap := ⟨_, rfl⟩
  rw [← hH] at hP
  replace hS : va_S A s.heap H [] := by rw [hH]; exact hS
  show W p l e _ s m args below meth c s.heap [] 0 0 _ _
  rw [← hH]
  clear hH
  obtain ⟨locs, hlo⟩ : ∃ x : List Loc, x = [] := ⟨_, rfl⟩
  rw [← hlo] at hS ⊢
  clear hlo
  refine lv_aload_n hx hb dX5_tellFrom_0 rfl (lv_at hl 0 rfl) ?_
  refine lv_iconst (v := 0) hx hb dX5_tellFrom_1 (by decide) ?_
  refine va_put (D := D) (ci := 5) (v := .int (0 : Int32)) (ty := .int) (C := RX5) (T := TX5) (N := 4) hx hb hts tb_wsX50 tyX5 tyX5_ok nmX5 hown hK.1 hP hD hS 27 rfl rfl 1 (by decide) (hts _ tb_20_7) (fun _ h9 => h9) rfl (by decide +kernel) rfl rfl (Nat.le_of_ble_eq_true rfl) dX5_tellFrom_2 (fun H locs hP hD hS => ?_)
  replace hP : va_P D vwCl (zWC cI cJ cZ h gP gR gQ gT (tTe.s_size gE (0 : Int32)) gM gS) H := hP
  replace hD : va_D A (zWC cI cJ cZ h gP gR gQ gT (tTe.s_size gE (0 : Int32)) gM gS) := hD
  refine lv_aload_n hx hb dX5_tellFrom_5 rfl (lv_at hl 0 rfl) ?_
  refine lv_aload_n hx hb dX5_tellFrom_6 rfl (lv_at hl 0 rfl) ?_
  refine va_get (D := D) (ci := 5) (v := .ref (h 13)) (C := RX5) (T := TX5) (N := 4) hx hb hts tb_wsX50 hown hK.1 hP 27 rfl rfl 3 (by decide) (hts _ tb_4_10) (fun _ h9 => h9) rfl dX5_tellFrom_7 ?_
  refine va_get (D := D) (ci := 6) (v := .int (tTr.top gT)) (C := RX6) (T := TX6) (N := 17) hx hb hts tb_wsX60 hown hK.1 hP 13 rfl rfl 9 (by decide) (hts _ tb_20_8) (fun _ h9 => h9) rfl dX5_tellFrom_10 ?_
  refine lv_iload_n hx hb dX5_tellFrom_13 rfl (lv_at hl 1 rfl) ?_
  refine lv_iload_n hx hb dX5_tellFrom_14 rfl (lv_at hl 2 rfl) ?_
  refine lv_iconst (v := 0) hx hb dX5_tellFrom_15 (by decide) ?_
  obtain ⟨u1, hu1, hf⟩ := zbd hf
  refine zthen_v hA hD hS (zrunV (As := [.int (tTr.top gT), .int a1, .int a2, .int (0 : Int32)]) (rest := []) hC hP hD 27 rfl rfl (c_X5_tellNode l D cI cJ cZ h N 25 gP gR gQ gT (tTe.s_size gE (0 : Int32)) gM gS (tTr.top gT) a1 a2 (0 : Int32) u1 hu1 H.size) kRX5_32 rfl rfl ⟨by decide, by decide⟩ rfl hl.1 rfl (Nat.le_of_ble_eq_true rfl) dX5_tellFrom_16) (fun H locs hP hD hS => ?_)
  have hu := Option.some.inj hf
  subst hu
  exact z_vret hC hP hD hS dX5_tellFrom_19
set_option maxHeartbeats 4000000 in
set_option maxRecDepth 100000 in
theorem c_X7_order (l : Launch) (D : va_G) (cI cJ cZ : ClassId) (h : Nat → Nat) (N : Nat) (gP : tPi) (gR : tPa) (gQ : tPa) (gT : tTr) (gE : tTe) (gM : tMe) (gS : tSq) (a1 : Int32) (a2 : Int32) (u : Int32 × tTe) (hf : X7_order N gP gT gE a1 a2 = some u) (sz : Nat) : Met l yX7_order (Cond.code yX7_order cX7_order 3 (some .int) :: tb_L) ({ frames := 27, cells := 0, slots := 0, locals := 698 } : Room) (zPre D (zty cI cJ cZ) (zWC cI cJ cZ h gP gR gQ gT gE gM gS) sz [.ref (h 0), .int a1, .int a2]) (zQi D (va_A (zWC cI cJ cZ h gP gR gQ gT gE gM gS) sz) (zWC cI cJ cZ h gP gR gQ gT u.2 gM gS) (u.1)) 0 0 (va_A (zWC cI cJ cZ h gP gR gQ gT gE gM gS) sz) := by
  refine zMet (Qc := fun A => zQi D A (zWC cI cJ cZ h gP gR gQ gT u.2 gM gS) (u.1)) (by decide) rfl (Nat.le_of_ble_eq_true rfl) ?_
  intro p e s m args below meth c A ls hC _ hP hD hS hl
  replace hl : lv_has ls 3 [(0, .ref (h 0)), (1, .int a1), (2, .int a2)] := hl
  obtain ⟨hx, hb, hml, hown, hts, hK, hr, hlocks, hA⟩ := id hC
  unfold X7_order at hf
  obtain ⟨H, hH⟩ : ∃ H, H = s.heap := ⟨_, rfl⟩
  rw [← hH] at hP
  replace hS : va_S A s.heap H [] := by rw [hH]; exact hS
  show W p l e _ s m args below meth c s.heap [] 0 0 _ _
  rw [← hH]
  clear hH
  obtain ⟨locs, hlo⟩ : ∃ x : List Loc, x = [] := ⟨_, rfl⟩
  rw [← hlo] at hS ⊢
  clear hlo
  refine lv_aload_n hx hb dX7_order_0 rfl (lv_at hl 0 rfl) ?_
  refine va_get (D := D) (ci := 7) (v := .ref (h 13)) (C := RX7) (T := TX7) (N := 5) hx hb hts tb_wsX70 hown hK.1 hP 0 rfl rfl 1 (by decide) (hts _ tb_1_23) (fun _ h9 => h9) rfl dX7_order_1 ?_
  refine va_get (D := D) (ci := 6) (v := .int (tTr.stands gT)) (C := RX6) (T := TX6) (N := 17) hx hb hts tb_wsX60 hown hK.1 hP 13 rfl rfl 8 (by decide) (hts _ tb_16_23) (fun _ h9 => h9) rfl dX7_order_4 ?_
  refine lv_if_eq (tgt := 18) hx hb dX7_order_7 (by decide) (fun c1 => ?_) (fun c1 => ?_)
  · replace hf := zif_t hf c1
    refine lv_iconst (v := -1) hx hb dX7_order_18 (by decide) ?_
    have hu := Option.some.inj hf
    subst hu
    exact z_iret hC hP hD hS dX7_order_19
  · replace hf := zif_f hf c1
    refine lv_iload_n hx hb dX7_order_10 rfl (lv_at hl 1 rfl) ?_
    refine lv_iload_n hx hb dX7_order_11 rfl (lv_at hl 2 rfl) ?_
    obtain ⟨u2, hu2, hf⟩ := zbd hf
    refine zthen_i hA hD hS (zrunS (As := [.int a1, .int a2]) (rest := []) hC hP hD (c_X7_isBeyond l D cI cJ cZ h  gP gR gQ gT gE gM gS a1 a2 u2 hu2 H.size) kRX7_57 rfl rfl ⟨by decide, by decide⟩ rfl hl.1 rfl (Nat.le_of_ble_eq_true rfl) dX7_order_12) (fun H locs hP hD hS => ?_)
    refine lv_if_eq (tgt := 20) hx hb dX7_order_15 (by decide) (fun c3 => ?_) (fun c3 => ?_)
    · replace hf := zif_t hf c3
      refine lv_aload_n hx hb dX7_order_20 rfl (lv_at hl 0 rfl) ?_
      refine va_get (D := D) (ci := 7) (v := .ref (h 27)) (C := RX7) (T := TX7) (N := 5) hx hb hts tb_wsX70 hown hK.1 hP 0 rfl rfl 2 (by decide) (hts _ tb_2_3) (fun _ h9 => h9) rfl dX7_order_21 ?_
      refine lv_iload_n hx hb dX7_order_24 rfl (lv_at hl 1 rfl) ?_
      refine lv_iload_n hx hb dX7_order_25 rfl (lv_at hl 2 rfl) ?_
      obtain ⟨u4, hu4, hf⟩ := zbd hf
      refine zthen_v hA hD hS (zrunV (As := [.int a1, .int a2]) (rest := []) hC hP hD 27 rfl rfl (c_X5_tellFrom l D cI cJ cZ h N gP gR gQ gT gE gM gS a1 a2 u4 hu4 H.size) kRX7_169 rfl rfl ⟨by decide, by decide⟩ rfl hl.1 rfl (Nat.le_of_ble_eq_true rfl) dX7_order_26) (fun H locs hP hD hS => ?_)
      refine lv_aload_n hx hb dX7_order_29 rfl (lv_at hl 0 rfl) ?_
      refine va_get (D := D) (ci := 7) (v := .ref (h 27)) (C := RX7) (T := TX7) (N := 5) hx hb hts tb_wsX70 hown hK.1 hP 0 rfl rfl 2 (by decide) (hts _ tb_2_3) (fun _ h9 => h9) rfl dX7_order_30 ?_
      refine va_get (D := D) (ci := 5) (v := .int (tTe.size u4)) (C := RX5) (T := TX5) (N := 4) hx hb hts tb_wsX50 hown hK.1 hP 27 rfl rfl 1 (by decide) (hts _ tb_7_8) (fun _ h9 => h9) rfl dX7_order_33 ?_
      have hu := Option.some.inj hf
      subst hu
      exact z_iret hC hP hD hS dX7_order_36
    · replace hf := zif_f hf c3
      refine lv_iconst (v := -1) hx hb dX7_order_18 (by decide) ?_
      have hu := Option.some.inj hf
      subst hu
      exact z_iret hC hP hD hS dX7_order_19
set_option maxHeartbeats 4000000 in
set_option maxRecDepth 100000 in
theorem c_X7_told (l : Launch) (D : va_G) (cI cJ cZ : ClassId) (h : Nat → Nat) (gP : tPi) (gR : tPa) (gQ : tPa) (gT : tTr) (gE : tTe) (gM : tMe) (gS : tSq) (a1 : Int32) (u : Int32) (hf : X7_told gE a1 = some u) (sz : Nat) : Met l yX7_told (Cond.code yX7_told cX7_told 2 (some .int) :: tb_L) ({ frames := 0, cells := 0, slots := 0, locals := 0 } : Room) (zPre D (zty cI cJ cZ) (zWC cI cJ cZ h gP gR gQ gT gE gM gS) sz [.ref (h 0), .int a1]) (zQi D (va_A (zWC cI cJ cZ h gP gR gQ gT gE gM gS) sz) (zWC cI cJ cZ h gP gR gQ gT gE gM gS) (u)) 0 0 (va_A (zWC cI cJ cZ h gP gR gQ gT gE gM gS) sz) := by
  refine zMet (Qc := fun A => zQi D A (zWC cI cJ cZ h gP gR gQ gT gE gM gS) (u)) (by decide) rfl (Nat.le_of_ble_eq_true rfl) ?_
  intro p e s m args below meth c A ls hC _ hP hD hS hl
  replace hl : lv_has ls 2 [(0, .ref (h 0)), (1, .int a1)] := hl
  obtain ⟨hx, hb, hml, hown, hts, hK, hr, hlocks, hA⟩ := id hC
  unfold X7_told at hf
  obtain ⟨H, hH⟩ : ∃ H, H = s.heap := ⟨_, rfl⟩
  rw [← hH] at hP
  replace hS : va_S A s.heap H [] := by rw [hH]; exact hS
  show W p l e _ s m args below meth c s.heap [] 0 0 _ _
  rw [← hH]
  clear hH
  obtain ⟨locs, hlo⟩ : ∃ x : List Loc, x = [] := ⟨_, rfl⟩
  rw [← hlo] at hS ⊢
  clear hlo
  refine lv_iload_n hx hb dX7_told_0 rfl (lv_at hl 1 rfl) ?_
  refine lv_if_lt (tgt := 27) hx hb dX7_told_1 (by decide) (fun c1 => ?_) (fun c1 => ?_)
  · replace hf := zif_t hf c1
    refine lv_iconst (v := -1) hx hb dX7_told_27 (by decide) ?_
    have hu := Option.some.inj hf
    subst hu
    exact z_iret hC hP hD hS dX7_told_28
  · replace hf := zif_f hf c1
    refine lv_iload_n hx hb dX7_told_4 rfl (lv_at hl 1 rfl) ?_
    refine lv_aload_n hx hb dX7_told_5 rfl (lv_at hl 0 rfl) ?_
    refine va_get (D := D) (ci := 7) (v := .ref (h 27)) (C := RX7) (T := TX7) (N := 5) hx hb hts tb_wsX70 hown hK.1 hP 0 rfl rfl 2 (by decide) (hts _ tb_2_3) (fun _ h9 => h9) rfl dX7_told_6 ?_
    refine va_get (D := D) (ci := 5) (v := .int (tTe.size gE)) (C := RX5) (T := TX5) (N := 4) hx hb hts tb_wsX50 hown hK.1 hP 27 rfl rfl 1 (by decide) (hts _ tb_7_8) (fun _ h9 => h9) rfl dX7_told_9 ?_
    refine lv_icmp_ge (tgt := 27) hx hb dX7_told_12 (by decide) (fun c2 => ?_) (fun c2 => ?_)
    · replace hf := zif_t hf c2
      refine lv_iconst (v := -1) hx hb dX7_told_27 (by decide) ?_
      have hu := Option.some.inj hf
      subst hu
      exact z_iret hC hP hD hS dX7_told_28
    · replace hf := zif_f hf c2
      refine lv_aload_n hx hb dX7_told_15 rfl (lv_at hl 0 rfl) ?_
      refine va_get (D := D) (ci := 7) (v := .ref (h 27)) (C := RX7) (T := TX7) (N := 5) hx hb hts tb_wsX70 hown hK.1 hP 0 rfl rfl 2 (by decide) (hts _ tb_2_3) (fun _ h9 => h9) rfl dX7_told_16 ?_
      refine va_get (D := D) (ci := 5) (v := .ref (h 28)) (C := RX5) (T := TX5) (N := 4) hx hb hts tb_wsX50 hown hK.1 hP 27 rfl rfl 0 (by decide) (hts _ tb_21_4) (fun _ h9 => h9) rfl dX7_told_19 ?_
      refine lv_iload_n hx hb dX7_told_22 rfl (lv_at hl 1 rfl) ?_
      obtain ⟨h3, hf⟩ := zck_s hf
      refine va_iald hx hb hK.1 hP 28 0 rfl rfl h3 dX7_told_23 ?_
      refine lv_goto (tgt := 28) hx hb dX7_told_24 (by decide) ?_
      have hu := Option.some.inj hf
      subst hu
      exact z_iret hC hP hD hS dX7_told_28
set_option maxHeartbeats 4000000 in
set_option maxRecDepth 100000 in
theorem c_X3_cross (l : Launch) (D : va_G) (cI cJ cZ : ClassId) (h : Nat → Nat) (gP : tPi) (gR : tPa) (gQ : tPa) (gT : tTr) (gE : tTe) (gM : tMe) (gS : tSq) (a0 : Int32) (a1 : Int32) (a2 : Int32) (a3 : Int32) (u : Int32) (hf : X3_cross a0 a1 a2 a3 = some u) (sz : Nat) : Met l yX3_cross (Cond.code yX3_cross cX3_cross 4 (some .int) :: tb_L) ({ frames := 0, cells := 0, slots := 0, locals := 0 } : Room) (zPre D (zty cI cJ cZ) (zWC cI cJ cZ h gP gR gQ gT gE gM gS) sz [.int a0, .int a1, .int a2, .int a3]) (zQi D (va_A (zWC cI cJ cZ h gP gR gQ gT gE gM gS) sz) (zWC cI cJ cZ h gP gR gQ gT gE gM gS) (u)) 0 0 (va_A (zWC cI cJ cZ h gP gR gQ gT gE gM gS) sz) := by
  refine zMet (Qc := fun A => zQi D A (zWC cI cJ cZ h gP gR gQ gT gE gM gS) (u)) (by decide) rfl (Nat.le_of_ble_eq_true rfl) ?_
  intro p e s m args below meth c A ls hC _ hP hD hS hl
  replace hl : lv_has ls 4 [(0, .int a0), (1, .int a1), (2, .int a2), (3, .int a3)] := hl
  obtain ⟨hx, hb, hml, hown, hts, hK, hr, hlocks, hA⟩ := id hC
  unfold X3_cross at hf
  obtain ⟨H, hH⟩ : ∃ H, H = s.heap := ⟨_, rfl⟩
  rw [← hH] at hP
  replace hS : va_S A s.heap H [] := by rw [hH]; exact hS
  show W p l e _ s m args below meth c s.heap [] 0 0 _ _
  rw [← hH]
  clear hH
  obtain ⟨locs, hlo⟩ : ∃ x : List Loc, x = [] := ⟨_, rfl⟩
  rw [← hlo] at hS ⊢
  clear hlo
  refine lv_iload_n hx hb dX3_cross_0 rfl (lv_at hl 0 rfl) ?_
  refine lv_iload_n hx hb dX3_cross_1 rfl (lv_at hl 3 rfl) ?_
  refine lv_imul hx hb dX3_cross_2 ?_
  refine lv_iload_n hx hb dX3_cross_3 rfl (lv_at hl 1 rfl) ?_
  refine lv_iload_n hx hb dX3_cross_4 rfl (lv_at hl 2 rfl) ?_
  refine lv_imul hx hb dX3_cross_5 ?_
  refine lv_isub hx hb dX3_cross_6 ?_
  have hu := Option.some.inj hf
  subst hu
  exact z_iret hC hP hD hS dX3_cross_7
set_option maxHeartbeats 4000000 in
set_option maxRecDepth 100000 in
theorem c_X3_framesMeet (l : Launch) (D : va_G) (cI cJ cZ : ClassId) (h : Nat → Nat) (gP : tPi) (gR : tPa) (gQ : tPa) (gT : tTr) (gE : tTe) (gM : tMe) (gS : tSq) (a0 : Int32) (a1 : Int32) (a2 : Int32) (a3 : Int32) (u : Int32) (hf : X3_framesMeet a0 a1 a2 a3 = some u) (sz : Nat) : Met l yX3_framesMeet (Cond.code yX3_framesMeet cX3_framesMeet 4 (some .boolean) :: tb_L) ({ frames := 1, cells := 0, slots := 0, locals := 21 } : Room) (zPre D (zty cI cJ cZ) (zWC cI cJ cZ h gP gR gQ gT gE gM gS) sz [.int a0, .int a1, .int a2, .int a3]) (zQi D (va_A (zWC cI cJ cZ h gP gR gQ gT gE gM gS) sz) (zWC cI cJ cZ h gP gR gQ gT gE gM gS) (u)) 0 0 (va_A (zWC cI cJ cZ h gP gR gQ gT gE gM gS) sz) := by
  refine zMet (Qc := fun A => zQi D A (zWC cI cJ cZ h gP gR gQ gT gE gM gS) (u)) (by decide) rfl (Nat.le_of_ble_eq_true rfl) ?_
  intro p e s m args below meth c A ls hC _ hP hD hS hl
  replace hl : lv_has ls 4 [(0, .int a0), (1, .int a1), (2, .int a2), (3, .int a3)] := hl
  obtain ⟨hx, hb, hml, hown, hts, hK, hr, hlocks, hA⟩ := id hC
  unfold X3_framesMeet at hf
  obtain ⟨H, hH⟩ : ∃ H, H = s.heap := ⟨_, rfl⟩
  rw [← hH] at hP
  replace hS : va_S A s.heap H [] := by rw [hH]; exact hS
  show W p l e _ s m args below meth c s.heap [] 0 0 _ _
  rw [← hH]
  clear hH
  obtain ⟨locs, hlo⟩ : ∃ x : List Loc, x = [] := ⟨_, rfl⟩
  rw [← hlo] at hS ⊢
  clear hlo
  refine lv_iload_n hx hb dX3_framesMeet_0 rfl (lv_at hl 0 rfl) ?_
  refine lv_iload_n hx hb dX3_framesMeet_1 rfl (lv_at hl 1 rfl) ?_
  refine va_mmax hx hb (hml.trans hl.1.symm) hown (hts _ tb_21_20) (hts _ tb_11_22) (hts _ tb_11_23) (hts _ tb_12_0) (by decide) (Nat.le_of_ble_eq_true rfl) (Nat.zero_le _) (Nat.zero_le _) dX3_framesMeet_2 ?_
  refine lv_iload_n hx hb dX3_framesMeet_5 rfl (lv_at hl 2 rfl) ?_
  refine lv_iload_n hx hb dX3_framesMeet_6 rfl (lv_at hl 3 rfl) ?_
  refine va_mmin hx hb (hml.trans hl.1.symm) hown (hts _ tb_21_21) (hts _ tb_21_22) (hts _ tb_11_23) (hts _ tb_21_23) (by decide) (Nat.le_of_ble_eq_true rfl) (Nat.zero_le _) (Nat.zero_le _) dX3_framesMeet_7 ?_
  refine lv_icmp_lt (tgt := 30) hx hb dX3_framesMeet_10 (by decide) (fun c1 => ?_) (fun c1 => ?_)
  · replace hf := zif_t hf c1
    refine lv_iconst (v := 0) hx hb dX3_framesMeet_30 (by decide) ?_
    obtain ⟨h2, hf⟩ := zcb_s hf
    have hu := Option.some.inj hf
    subst hu
    exact z_zret hC h2 hP hD hS dX3_framesMeet_31
  · replace hf := zif_f hf c1
    refine lv_iload_n hx hb dX3_framesMeet_13 rfl (lv_at hl 2 rfl) ?_
    refine lv_iload_n hx hb dX3_framesMeet_14 rfl (lv_at hl 3 rfl) ?_
    refine va_mmax hx hb (hml.trans hl.1.symm) hown (hts _ tb_21_20) (hts _ tb_11_22) (hts _ tb_11_23) (hts _ tb_12_0) (by decide) (Nat.le_of_ble_eq_true rfl) (Nat.zero_le _) (Nat.zero_le _) dX3_framesMeet_15 ?_
    refine lv_iload_n hx hb dX3_framesMeet_18 rfl (lv_at hl 0 rfl) ?_
    refine lv_iload_n hx hb dX3_framesMeet_19 rfl (lv_at hl 1 rfl) ?_
    refine va_mmin hx hb (hml.trans hl.1.symm) hown (hts _ tb_21_21) (hts _ tb_21_22) (hts _ tb_11_23) (hts _ tb_21_23) (by decide) (Nat.le_of_ble_eq_true rfl) (Nat.zero_le _) (Nat.zero_le _) dX3_framesMeet_20 ?_
    refine lv_icmp_lt (tgt := 30) hx hb dX3_framesMeet_23 (by decide) (fun c3 => ?_) (fun c3 => ?_)
    · replace hf := zif_t hf c3
      refine lv_iconst (v := 0) hx hb dX3_framesMeet_30 (by decide) ?_
      obtain ⟨h4, hf⟩ := zcb_s hf
      have hu := Option.some.inj hf
      subst hu
      exact z_zret hC h4 hP hD hS dX3_framesMeet_31
    · replace hf := zif_f hf c3
      refine lv_iconst (v := 1) hx hb dX3_framesMeet_26 (by decide) ?_
      refine lv_goto (tgt := 31) hx hb dX3_framesMeet_27 (by decide) ?_
      obtain ⟨h5, hf⟩ := zcb_s hf
      have hu := Option.some.inj hf
      subst hu
      exact z_zret hC h5 hP hD hS dX3_framesMeet_31
set_option maxHeartbeats 4000000 in
set_option maxRecDepth 100000 in
theorem t_X3_sameSide_b16 {p : Program} {l : Launch} {e : Env} {s : State} {m : MethodId} {args : Array Value} {below : List Frame} {meth : Method} {c : Code} {A : Nat → Prop} {D : va_G} {cI cJ cZ : ClassId} {h : Nat → Nat} (hC : zCx p s m args meth c A D (zty cI cJ cZ) cX3_sameSide RX3 2 (some .boolean)) (gP : tPi) (gR : tPa) (gQ : tPa) (gT : tTr) (gE : tTe) (gM : tMe) (gS : tSq) (u : Int32) : ∀  (H : Heap) (locs : List Loc) (ls : Array Slot), va_P D vwCl (zWC cI cJ cZ h gP gR gQ gT gE gM gS) H → va_D A (zWC cI cJ cZ h gP gR gQ gT gE gM gS) → va_S A s.heap H locs → lv_has ls 2 [] → X3_sameSide_b16  = some u → W p l e ({ frames := 0, cells := 0, slots := 0, locals := 0 } : Room) s m args below meth c H locs 0 0 (MQ below (zQi D A (zWC cI cJ cZ h gP gR gQ gT gE gM gS) (u)) args s 0 0 A) (F0 m 16 ls []) := by
  intro  H locs ls hP hD hS hl hf
  obtain ⟨hx, hb, hml, hown, hts, hK, hr, hlocks, hA⟩ := id hC
  unfold X3_sameSide_b16 at hf
  refine lv_iconst (v := 1) hx hb dX3_sameSide_16 (by decide) ?_
  refine lv_goto (tgt := 21) hx hb dX3_sameSide_17 (by decide) ?_
  obtain ⟨h1, hf⟩ := zcb_s hf
  have hu := Option.some.inj hf
  subst hu
  exact z_zret hC h1 hP hD hS dX3_sameSide_21
set_option maxHeartbeats 4000000 in
set_option maxRecDepth 100000 in
theorem t_X3_sameSide_b8 {p : Program} {l : Launch} {e : Env} {s : State} {m : MethodId} {args : Array Value} {below : List Frame} {meth : Method} {c : Code} {A : Nat → Prop} {D : va_G} {cI cJ cZ : ClassId} {h : Nat → Nat} (hC : zCx p s m args meth c A D (zty cI cJ cZ) cX3_sameSide RX3 2 (some .boolean)) (gP : tPi) (gR : tPa) (gQ : tPa) (gT : tTr) (gE : tTe) (gM : tMe) (gS : tSq) (u : Int32) : ∀ (v0 : Int32) (v1 : Int32) (H : Heap) (locs : List Loc) (ls : Array Slot), va_P D vwCl (zWC cI cJ cZ h gP gR gQ gT gE gM gS) H → va_D A (zWC cI cJ cZ h gP gR gQ gT gE gM gS) → va_S A s.heap H locs → lv_has ls 2 [(0, .int v0), (1, .int v1)] → X3_sameSide_b8 v0 v1 = some u → W p l e ({ frames := 0, cells := 0, slots := 0, locals := 0 } : Room) s m args below meth c H locs 0 0 (MQ below (zQi D A (zWC cI cJ cZ h gP gR gQ gT gE gM gS) (u)) args s 0 0 A) (F0 m 8 ls []) := by
  intro v0 v1 H locs ls hP hD hS hl hf
  obtain ⟨hx, hb, hml, hown, hts, hK, hr, hlocks, hA⟩ := id hC
  unfold X3_sameSide_b8 at hf
  refine lv_iload_n hx hb dX3_sameSide_8 rfl (lv_at hl 0 rfl) ?_
  refine lv_if_ge (tgt := 20) hx hb dX3_sameSide_9 (by decide) (fun c2 => ?_) (fun c2 => ?_)
  · replace hf := zif_t hf c2
    refine lv_iconst (v := 0) hx hb dX3_sameSide_20 (by decide) ?_
    obtain ⟨h3, hf⟩ := zcb_s hf
    have hu := Option.some.inj hf
    subst hu
    exact z_zret hC h3 hP hD hS dX3_sameSide_21
  · replace hf := zif_f hf c2
    refine lv_iload_n hx hb dX3_sameSide_12 rfl (lv_at hl 1 rfl) ?_
    refine lv_if_ge (tgt := 20) hx hb dX3_sameSide_13 (by decide) (fun c4 => ?_) (fun c4 => ?_)
    · replace hf := zif_t hf c4
      refine lv_iconst (v := 0) hx hb dX3_sameSide_20 (by decide) ?_
      obtain ⟨h5, hf⟩ := zcb_s hf
      have hu := Option.some.inj hf
      subst hu
      exact z_zret hC h5 hP hD hS dX3_sameSide_21
    · replace hf := zif_f hf c4
      exact t_X3_sameSide_b16 hC  gP gR gQ gT gE gM gS u  H locs ls hP hD hS (lv_sub hl [] rfl) hf
set_option maxHeartbeats 4000000 in
set_option maxRecDepth 100000 in
theorem c_X3_sameSide (l : Launch) (D : va_G) (cI cJ cZ : ClassId) (h : Nat → Nat) (gP : tPi) (gR : tPa) (gQ : tPa) (gT : tTr) (gE : tTe) (gM : tMe) (gS : tSq) (a0 : Int32) (a1 : Int32) (u : Int32) (hf : X3_sameSide a0 a1 = some u) (sz : Nat) : Met l yX3_sameSide (Cond.code yX3_sameSide cX3_sameSide 2 (some .boolean) :: tb_L) ({ frames := 0, cells := 0, slots := 0, locals := 0 } : Room) (zPre D (zty cI cJ cZ) (zWC cI cJ cZ h gP gR gQ gT gE gM gS) sz [.int a0, .int a1]) (zQi D (va_A (zWC cI cJ cZ h gP gR gQ gT gE gM gS) sz) (zWC cI cJ cZ h gP gR gQ gT gE gM gS) (u)) 0 0 (va_A (zWC cI cJ cZ h gP gR gQ gT gE gM gS) sz) := by
  refine zMet (Qc := fun A => zQi D A (zWC cI cJ cZ h gP gR gQ gT gE gM gS) (u)) (by decide) rfl (Nat.le_of_ble_eq_true rfl) ?_
  intro p e s m args below meth c A ls hC _ hP hD hS hl
  replace hl : lv_has ls 2 [(0, .int a0), (1, .int a1)] := hl
  obtain ⟨hx, hb, hml, hown, hts, hK, hr, hlocks, hA⟩ := id hC
  unfold X3_sameSide at hf
  obtain ⟨H, hH⟩ : ∃ H, H = s.heap := ⟨_, rfl⟩
  rw [← hH] at hP
  replace hS : va_S A s.heap H [] := by rw [hH]; exact hS
  show W p l e _ s m args below meth c s.heap [] 0 0 _ _
  rw [← hH]
  clear hH
  obtain ⟨locs, hlo⟩ : ∃ x : List Loc, x = [] := ⟨_, rfl⟩
  rw [← hlo] at hS ⊢
  clear hlo
  refine lv_iload_n hx hb dX3_sameSide_0 rfl (lv_at hl 0 rfl) ?_
  refine lv_if_le (tgt := 8) hx hb dX3_sameSide_1 (by decide) (fun c6 => ?_) (fun c6 => ?_)
  · replace hf := zif_t hf c6
    exact t_X3_sameSide_b8 hC  gP gR gQ gT gE gM gS u a0 a1 H locs ls hP hD hS (lv_sub hl [0, 1] rfl) hf
  · replace hf := zif_f hf c6
    refine lv_iload_n hx hb dX3_sameSide_4 rfl (lv_at hl 1 rfl) ?_
    refine lv_if_gt (tgt := 16) hx hb dX3_sameSide_5 (by decide) (fun c7 => ?_) (fun c7 => ?_)
    · replace hf := zif_t hf c7
      exact t_X3_sameSide_b16 hC  gP gR gQ gT gE gM gS u  H locs ls hP hD hS (lv_sub hl [] rfl) hf
    · replace hf := zif_f hf c7
      exact t_X3_sameSide_b8 hC  gP gR gQ gT gE gM gS u a0 a1 H locs ls hP hD hS (lv_sub hl [0, 1] rfl) hf
