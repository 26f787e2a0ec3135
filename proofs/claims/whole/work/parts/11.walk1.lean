set_option maxHeartbeats 4000000 in
set_option maxRecDepth 100000 in
theorem t_X6_choose_b107 {p : Program} {l : Launch} {e : Env} {s : State} {m : MethodId} {args : Array Value} {below : List Frame} {meth : Method} {c : Code} {A : Nat → Prop} {D : va_G} {cI cJ cZ : ClassId} {h : Nat → Nat} (hC : zCx p s m args meth c A D (zty cI cJ cZ) cX6_choose RX6 7 (some .int)) (N : Nat) (gP : tPi) (gR : tPa) (gQ : tPa) (gE : tTe) (gM : tMe) (gS : tSq) (u : Int32 × tTr) : ∀ (gT : tTr) (v3 : Int32) (H : Heap) (locs : List Loc) (ls : Array Slot), va_P D vwCl (zWC cI cJ cZ h gP gR gQ gT gE gM gS) H → va_D A (zWC cI cJ cZ h gP gR gQ gT gE gM gS) → va_S A s.heap H locs → lv_has ls 7 [(3, .int v3)] → X6_choose_b107 N gP gR gT v3 = some u → W p l e ({ frames := 3, cells := 0, slots := 0, locals := 78 } : Room) s m args below meth c H locs 0 0 (MQ below (zQi D A (zWC cI cJ cZ h gP gR gQ u.2 gE gM gS) (u.1)) args s 0 0 A) (F0 m 107 ls []) := by
  intro gT v3 H locs ls hP hD hS hl hf
  obtain ⟨hx, hb, hml, hown, hts, hK, hr, hlocks, hA⟩ := id hC
  unfold X6_choose_b107 at hf
  refine lv_iload_n hx hb dX6_choose_107 rfl (lv_at hl 0 rfl) ?_
  have hu := Option.some.inj hf
  subst hu
  exact z_iret hC hP hD hS dX6_choose_108
set_option maxHeartbeats 4000000 in
set_option maxRecDepth 100000 in
theorem t_X6_choose_b101 {p : Program} {l : Launch} {e : Env} {s : State} {m : MethodId} {args : Array Value} {below : List Frame} {meth : Method} {c : Code} {A : Nat → Prop} {D : va_G} {cI cJ cZ : ClassId} {h : Nat → Nat} (hC : zCx p s m args meth c A D (zty cI cJ cZ) cX6_choose RX6 7 (some .int)) (N : Nat) {gP : tPi} {gR : tPa} {gQ : tPa} {gE : tTe} {gM : tMe} {gS : tSq} {u : Int32 × tTr} (k71 : tTr → Int32 → Int32 → Int32 → Int32 → Int32 → Option (Int32 × tTr)) (hk71 : ∀ (gT : tTr) (v1 : Int32) (v2 : Int32) (v3 : Int32) (v4 : Int32) (v5 : Int32) (H : Heap) (locs : List Loc) (ls : Array Slot), va_P D vwCl (zWC cI cJ cZ h gP gR gQ gT gE gM gS) H → va_D A (zWC cI cJ cZ h gP gR gQ gT gE gM gS) → va_S A s.heap H locs → lv_has ls 7 [(0, .ref (h 13)), (1, .int v1), (2, .int v2), (3, .int v3), (4, .int v4), (5, .int v5)] → k71 gT v1 v2 v3 v4 v5 = some u → W p l e ({ frames := 3, cells := 0, slots := 0, locals := 78 } : Room) s m args below meth c H locs 0 0 (MQ below (zQi D A (zWC cI cJ cZ h gP gR gQ u.2 gE gM gS) (u.1)) args s 0 0 A) (F0 m 71 ls [])) : ∀ (gT : tTr) (v1 : Int32) (v2 : Int32) (v3 : Int32) (v4 : Int32) (v5 : Int32) (H : Heap) (locs : List Loc) (ls : Array Slot), va_P D vwCl (zWC cI cJ cZ h gP gR gQ gT gE gM gS) H → va_D A (zWC cI cJ cZ h gP gR gQ gT gE gM gS) → va_S A s.heap H locs → lv_has ls 7 [(0, .ref (h 13)), (1, .int v1), (2, .int v2), (3, .int v3), (4, .int v4), (5, .int v5)] → X6_choose_b101 N k71 gP gR gT v1 v2 v3 v4 v5 = some u → W p l e ({ frames := 3, cells := 0, slots := 0, locals := 78 } : Room) s m args below meth c H locs 0 0 (MQ below (zQi D A (zWC cI cJ cZ h gP gR gQ u.2 gE gM gS) (u.1)) args s 0 0 A) (F0 m 101 ls []) := by
  intro gT v1 v2 v3 v4 v5 H locs ls hP hD hS hl hf
  obtain ⟨hx, hb, hml, hown, hts, hK, hr, hlocks, hA⟩ := id hC
  unfold X6_choose_b101 at hf
  refine lv_iinc (v := (v5 + (1 : Int32))) (lv' := [(5, .int (v5 + (1 : Int32))), (0, .ref (h 13)), (1, .int v1), (2, .int v2), (3, .int v3), (4, .int v4)]) hx hb dX6_choose_101 hl (k := 5) rfl rfl (by decide) rfl (fun ls hl => ?_)
  refine lv_goto (tgt := 71) hx hb dX6_choose_104 (by decide) ?_
  exact hk71 gT v1 v2 v3 v4 (v5 + (1 : Int32)) H locs ls hP hD hS (lv_sub hl [1, 2, 3, 4, 5, 0] rfl) hf
set_option maxHeartbeats 4000000 in
set_option maxRecDepth 100000 in
theorem t_X6_choose_b71 {p : Program} {l : Launch} {e : Env} {s : State} {m : MethodId} {args : Array Value} {below : List Frame} {meth : Method} {c : Code} {A : Nat → Prop} {D : va_G} {cI cJ cZ : ClassId} {h : Nat → Nat} (hC : zCx p s m args meth c A D (zty cI cJ cZ) cX6_choose RX6 7 (some .int)) (N : Nat) (gP : tPi) (gR : tPa) (gQ : tPa) (gE : tTe) (gM : tMe) (gS : tSq) (u : Int32 × tTr) : ∀ (n : Nat) (gT : tTr) (v1 : Int32) (v2 : Int32) (v3 : Int32) (v4 : Int32) (v5 : Int32) (H : Heap) (locs : List Loc) (ls : Array Slot), va_P D vwCl (zWC cI cJ cZ h gP gR gQ gT gE gM gS) H → va_D A (zWC cI cJ cZ h gP gR gQ gT gE gM gS) → va_S A s.heap H locs → lv_has ls 7 [(0, .ref (h 13)), (1, .int v1), (2, .int v2), (3, .int v3), (4, .int v4), (5, .int v5)] → X6_choose_b71 N gP gR n gT v1 v2 v3 v4 v5 = some u → W p l e ({ frames := 3, cells := 0, slots := 0, locals := 78 } : Room) s m args below meth c H locs 0 0 (MQ below (zQi D A (zWC cI cJ cZ h gP gR gQ u.2 gE gM gS) (u.1)) args s 0 0 A) (F0 m 71 ls []) := by
  intro n
  induction n with
  | zero =>
    intro gT v1 v2 v3 v4 v5 H locs ls hP hD hS hl hf
    cases hf
  | succ n ih =>
    intro gT v1 v2 v3 v4 v5 H locs ls hP hD hS hl hf
    obtain ⟨hx, hb, hml, hown, hts, hK, hr, hlocks, hA⟩ := id hC
    rw [X6_choose_b71] at hf
    refine lv_iload hx hb dX6_choose_71 (lv_at hl 5 rfl) ?_
    refine lv_iload_n hx hb dX6_choose_73 rfl (lv_at hl 2 rfl) ?_
    refine lv_icmp_ge (tgt := 107) hx hb dX6_choose_74 (by decide) (fun c1 => ?_) (fun c1 => ?_)
    · replace hf := zif_t hf c1
      exact t_X6_choose_b107 hC N gP gR gQ gE gM gS u gT v3 H locs ls hP hD hS (lv_sub hl [3] rfl) hf
    · replace hf := zif_f hf c1
      refine lv_aload_n hx hb dX6_choose_77 rfl (lv_at hl 0 rfl) ?_
      refine lv_iload hx hb dX6_choose_78 (lv_at hl 5 rfl) ?_
      refine lv_iload_n hx hb dX6_choose_80 rfl (lv_at hl 1 rfl) ?_
      refine lv_iload_n hx hb dX6_choose_81 rfl (lv_at hl 2 rfl) ?_
      obtain ⟨u2, hu2, hf⟩ := zbd hf
      refine zthen_i hA hD hS (zrunV (As := [.int v5, .int v1, .int v2]) (rest := []) hC hP hD 13 rfl rfl (c_X6_faultOf l D cI cJ cZ h N gP gR gQ gT gE gM gS v5 v1 v2 u2 hu2 H.size) kRX6_121 rfl rfl ⟨by decide, by decide⟩ rfl hl.1 rfl (Nat.le_of_ble_eq_true rfl) dX6_choose_82) (fun H locs hP hD hS => ?_)
      refine lv_istore (lv' := [(6, .int u2), (0, .ref (h 13)), (1, .int v1), (2, .int v2), (3, .int v3), (4, .int v4), (5, .int v5)]) hx hb dX6_choose_85 hl (by decide) rfl (fun ls hl => ?_)
      refine lv_iload hx hb dX6_choose_87 (lv_at hl 0 rfl) ?_
      refine lv_iload hx hb dX6_choose_89 (lv_at hl 5 rfl) ?_
      refine lv_icmp_ge (tgt := 101) hx hb dX6_choose_91 (by decide) (fun c3 => ?_) (fun c3 => ?_)
      · replace hf := zif_t hf c3
        exact t_X6_choose_b101 hC N (X6_choose_b71 N gP gR n) ih  gT v1 v2 v3 v4 v5 H locs ls hP hD hS (lv_sub hl [1, 2, 3, 4, 5, 6] rfl) hf
      · replace hf := zif_f hf c3
        refine lv_iload hx hb dX6_choose_94 (lv_at hl 6 rfl) ?_
        refine lv_istore_n (lv' := [(3, .int v5), (6, .int u2), (0, .ref (h 13)), (1, .int v1), (2, .int v2), (4, .int v4), (5, .int v5)]) hx hb dX6_choose_96 rfl hl (by decide) rfl (fun ls hl => ?_)
        refine lv_iload hx hb dX6_choose_97 (lv_at hl 1 rfl) ?_
        refine lv_istore (lv' := [(4, .int u2), (3, .int v5), (6, .int u2), (0, .ref (h 13)), (1, .int v1), (2, .int v2), (5, .int v5)]) hx hb dX6_choose_99 hl (by decide) rfl (fun ls hl => ?_)
        exact t_X6_choose_b101 hC N (X6_choose_b71 N gP gR n) ih  gT v1 v2 v5 u2 v5 H locs ls hP hD hS (lv_sub hl [3, 4, 5, 1, 0, 6] rfl) hf
set_option maxHeartbeats 4000000 in
set_option maxRecDepth 100000 in
theorem t_X6_choose_b12 {p : Program} {l : Launch} {e : Env} {s : State} {m : MethodId} {args : Array Value} {below : List Frame} {meth : Method} {c : Code} {A : Nat → Prop} {D : va_G} {cI cJ cZ : ClassId} {h : Nat → Nat} (hC : zCx p s m args meth c A D (zty cI cJ cZ) cX6_choose RX6 7 (some .int)) (N : Nat) (gP : tPi) (gR : tPa) (gQ : tPa) (gE : tTe) (gM : tMe) (gS : tSq) (u : Int32 × tTr) : ∀ (gT : tTr) (v1 : Int32) (H : Heap) (locs : List Loc) (ls : Array Slot), va_P D vwCl (zWC cI cJ cZ h gP gR gQ gT gE gM gS) H → va_D A (zWC cI cJ cZ h gP gR gQ gT gE gM gS) → va_S A s.heap H locs → lv_has ls 7 [(1, .int v1)] → X6_choose_b12 N gP gR gT v1 = some u → W p l e ({ frames := 3, cells := 0, slots := 0, locals := 78 } : Room) s m args below meth c H locs 0 0 (MQ below (zQi D A (zWC cI cJ cZ h gP gR gQ u.2 gE gM gS) (u.1)) args s 0 0 A) (F0 m 12 ls []) := by
  intro gT v1 H locs ls hP hD hS hl hf
  obtain ⟨hx, hb, hml, hown, hts, hK, hr, hlocks, hA⟩ := id hC
  unfold X6_choose_b12 at hf
  refine lv_iload_n hx hb dX6_choose_12 rfl (lv_at hl 0 rfl) ?_
  have hu := Option.some.inj hf
  subst hu
  exact z_iret hC hP hD hS dX6_choose_13
set_option maxHeartbeats 4000000 in
set_option maxRecDepth 100000 in
theorem c_X6_choose (l : Launch) (D : va_G) (cI cJ cZ : ClassId) (h : Nat → Nat) (N : Nat) (gP : tPi) (gR : tPa) (gQ : tPa) (gT : tTr) (gE : tTe) (gM : tMe) (gS : tSq) (a1 : Int32) (a2 : Int32) (u : Int32 × tTr) (hf : X6_choose N gP gR gT a1 a2 = some u) (sz : Nat) : Met l yX6_choose (Cond.code yX6_choose cX6_choose 7 (some .int) :: tb_L) ({ frames := 3, cells := 0, slots := 0, locals := 78 } : Room) (zPre D (zty cI cJ cZ) (zWC cI cJ cZ h gP gR gQ gT gE gM gS) sz [.ref (h 13), .int a1, .int a2]) (zQi D (va_A (zWC cI cJ cZ h gP gR gQ gT gE gM gS) sz) (zWC cI cJ cZ h gP gR gQ u.2 gE gM gS) (u.1)) 0 0 (va_A (zWC cI cJ cZ h gP gR gQ gT gE gM gS) sz) := by
  refine zMet (Qc := fun A => zQi D A (zWC cI cJ cZ h gP gR gQ u.2 gE gM gS) (u.1)) (by decide) rfl (Nat.le_of_ble_eq_true rfl) ?_
  intro p e s m args below meth c A ls hC _ hP hD hS hl
  replace hl : lv_has ls 7 [(0, .ref (h 13)), (1, .int a1), (2, .int a2)] := hl
  obtain ⟨hx, hb, hml, hown, hts, hK, hr, hlocks, hA⟩ := id hC
  unfold X6_choose at hf
  obtain ⟨H, hH⟩ : ∃ H, H = s.heap := ⟨_, rfl⟩
  rw [← hH] at hP
  replace hS : va_S A s.heap H [] := by rw [hH]; exact hS
  show W p l e _ s m args below meth c s.heap [] 0 0 _ _
  rw [← hH]
  clear hH
  obtain ⟨locs, hlo⟩ : ∃ x : List Loc, x = [] := ⟨_, rfl⟩
  rw [← hlo] at hS ⊢
  clear hlo
  refine lv_aload_n hx hb dX6_choose_0 rfl (lv_at hl 0 rfl) ?_
  refine va_get (D := D) (ci := 6) (v := .int (tTr.rule gT)) (C := RX6) (T := TX6) (N := 17) hx hb hts tb_wsX60 hown hK.1 hP 13 rfl rfl 15 (by decide) (hts _ tb_10_22) (fun _ h9 => h9) rfl dX6_choose_1 ?_
  refine lv_if_eq (tgt := 12) hx hb dX6_choose_4 (by decide) (fun c4 => ?_) (fun c4 => ?_)
  · replace hf := zif_t hf c4
    exact t_X6_choose_b12 hC N gP gR gQ gE gM gS u gT a1 H locs ls hP hD hS (lv_sub hl [1] rfl) hf
  · replace hf := zif_f hf c4
    refine lv_iload_n hx hb dX6_choose_7 rfl (lv_at hl 2 rfl) ?_
    refine lv_iload_n hx hb dX6_choose_8 rfl (lv_at hl 1 rfl) ?_
    refine lv_icmp_gt (tgt := 14) hx hb dX6_choose_9 (by decide) (fun c5 => ?_) (fun c5 => ?_)
    · replace hf := zif_t hf c5
      refine lv_aload_n hx hb dX6_choose_14 rfl (lv_at hl 0 rfl) ?_
      refine va_get (D := D) (ci := 6) (v := .int (tTr.rule gT)) (C := RX6) (T := TX6) (N := 17) hx hb hts tb_wsX60 hown hK.1 hP 13 rfl rfl 15 (by decide) (hts _ tb_10_22) (fun _ h9 => h9) rfl dX6_choose_15 ?_
      refine lv_iconst (v := 2) hx hb dX6_choose_18 (by decide) ?_
      refine lv_icmp_ne (tgt := 55) hx hb dX6_choose_19 (by decide) (fun c6 => ?_) (fun c6 => ?_)
      · replace hf := zif_f hf c6
        refine lv_iload_n hx hb dX6_choose_55 rfl (lv_at hl 1 rfl) ?_
        refine lv_istore_n (lv' := [(3, .int a1), (0, .ref (h 13)), (1, .int a1), (2, .int a2)]) hx hb dX6_choose_56 rfl hl (by decide) rfl (fun ls hl => ?_)
        refine lv_aload_n hx hb dX6_choose_57 rfl (lv_at hl 1 rfl) ?_
        refine lv_iload_n hx hb dX6_choose_58 rfl (lv_at hl 2 rfl) ?_
        refine lv_iload_n hx hb dX6_choose_59 rfl (lv_at hl 2 rfl) ?_
        refine lv_iload_n hx hb dX6_choose_60 rfl (lv_at hl 3 rfl) ?_
        obtain ⟨u7, hu7, hf⟩ := zbd hf
        refine zthen_i hA hD hS (zrunV (As := [.int a1, .int a1, .int a2]) (rest := []) hC hP hD 13 rfl rfl (c_X6_faultOf l D cI cJ cZ h N gP gR gQ gT gE gM gS a1 a1 a2 u7 hu7 H.size) kRX6_121 rfl rfl ⟨by decide, by decide⟩ rfl hl.1 rfl (Nat.le_of_ble_eq_true rfl) dX6_choose_61) (fun H locs hP hD hS => ?_)
        refine lv_istore (lv' := [(4, .int u7), (3, .int a1), (0, .ref (h 13)), (1, .int a1), (2, .int a2)]) hx hb dX6_choose_64 hl (by decide) rfl (fun ls hl => ?_)
        refine lv_iload_n hx hb dX6_choose_66 rfl (lv_at hl 3 rfl) ?_
        refine lv_iconst (v := 1) hx hb dX6_choose_67 (by decide) ?_
        refine lv_iadd hx hb dX6_choose_68 ?_
        refine lv_topi (fun x8 ex8 => ?_)
        replace hf := zl_n ex8 hf
        refine lv_istore (lv' := [(5, .int x8), (4, .int u7), (3, .int a1), (0, .ref (h 13)), (1, .int a1), (2, .int a2)]) hx hb dX6_choose_69 hl (by decide) rfl (fun ls hl => ?_)
        exact t_X6_choose_b71 hC N gP gR gQ gE gM gS u N gT a1 a2 a1 u7 x8 H locs ls hP hD hS (lv_sub hl [3, 4, 5, 2, 1, 0] rfl) hf
      · replace hf := zif_t hf c6
        refine lv_aload_n hx hb dX6_choose_22 rfl (lv_at hl 0 rfl) ?_
        refine lv_ldc hx hb hown (hts _ tb_12_6) dX6_choose_23 ?_
        refine lv_aload_n hx hb dX6_choose_25 rfl (lv_at hl 0 rfl) ?_
        refine va_get (D := D) (ci := 6) (v := .int (tTr.draw gT)) (C := RX6) (T := TX6) (N := 17) hx hb hts tb_wsX60 hown hK.1 hP 13 rfl rfl 16 (by decide) (hts _ tb_10_23) (fun _ h9 => h9) rfl dX6_choose_26 ?_
        refine lv_imul hx hb dX6_choose_29 ?_
        refine lv_sipush (v := 12345) hx hb dX6_choose_30 (by decide) ?_
        refine lv_iadd hx hb dX6_choose_33 ?_
        refine va_put (D := D) (ci := 6) (v := .int (((1103515245 : Int32) * (tTr.draw gT)) + (12345 : Int32))) (ty := .int) (C := RX6) (T := TX6) (N := 17) hx hb hts tb_wsX60 tyX6 tyX6_ok nmX6 hown hK.1 hP hD hS 13 rfl rfl 16 (by decide) (hts _ tb_10_23) (fun _ h9 => h9) rfl (by decide +kernel) rfl rfl (Nat.le_of_ble_eq_true rfl) dX6_choose_34 (fun H locs hP hD hS => ?_)
        replace hP : va_P D vwCl (zWC cI cJ cZ h gP gR gQ (tTr.s_draw gT (((1103515245 : Int32) * (tTr.draw gT)) + (12345 : Int32))) gE gM gS) H := hP
        replace hD : va_D A (zWC cI cJ cZ h gP gR gQ (tTr.s_draw gT (((1103515245 : Int32) * (tTr.draw gT)) + (12345 : Int32))) gE gM gS) := hD
        refine lv_iload_n hx hb dX6_choose_37 rfl (lv_at hl 1 rfl) ?_
        refine lv_aload_n hx hb dX6_choose_38 rfl (lv_at hl 0 rfl) ?_
        refine va_get (D := D) (ci := 6) (v := .int (((1103515245 : Int32) * (tTr.draw gT)) + (12345 : Int32))) (C := RX6) (T := TX6) (N := 17) hx hb hts tb_wsX60 hown hK.1 hP 13 rfl rfl 16 (by decide) (hts _ tb_10_23) (fun _ h9 => h9) rfl dX6_choose_39 ?_
        refine lv_bipush (v := 16) hx hb dX6_choose_42 (by decide) ?_
        refine lv_ishr hx hb dX6_choose_44 ?_
        refine lv_sipush (v := 32767) hx hb dX6_choose_45 (by decide) ?_
        refine lv_iand hx hb dX6_choose_48 ?_
        refine lv_iload_n hx hb dX6_choose_49 rfl (lv_at hl 2 rfl) ?_
        refine lv_iload_n hx hb dX6_choose_50 rfl (lv_at hl 1 rfl) ?_
        refine lv_isub hx hb dX6_choose_51 ?_
        obtain ⟨h9, hf⟩ := zcz_s hf
        refine lv_irem hx hb dX6_choose_52 h9 ?_
        refine lv_iadd hx hb dX6_choose_53 ?_
        have hu := Option.some.inj hf
        subst hu
        exact z_iret hC hP hD hS dX6_choose_54
    · replace hf := zif_f hf c5
      exact t_X6_choose_b12 hC N gP gR gQ gE gM gS u gT a1 H locs ls hP hD hS (lv_sub hl [1] rfl) hf
set_option maxHeartbeats 4000000 in
set_option maxRecDepth 100000 in
theorem t_X0_addHalf_b112 {p : Program} {l : Launch} {e : Env} {s : State} {m : MethodId} {args : Array Value} {below : List Frame} {meth : Method} {c : Code} {A : Nat → Prop} {D : va_G} {cI cJ cZ : ClassId} {h : Nat → Nat} (hC : zCx p s m args meth c A D (zty cI cJ cZ) cX0_addHalf RX0 10 none) (gP : tPi) (gQ : tPa) (gT : tTr) (gE : tTe) (gM : tMe) (gS : tSq) (u : tPa) : ∀ (gR : tPa) (v1 : Int32) (v4 : Int32) (v7 : Int32) (v8 : Int32) (s0 : Int32) (s1 : Int32) (H : Heap) (locs : List Loc) (ls : Array Slot), va_P D vwCl (zWC cI cJ cZ h gP gR gQ gT gE gM gS) H → va_D A (zWC cI cJ cZ h gP gR gQ gT gE gM gS) → va_S A s.heap H locs → lv_has ls 10 [(0, .ref (h 6)), (1, .int v1), (4, .int v4), (7, .int v7), (8, .int v8)] → X0_addHalf_b112 gP gR v1 v4 v7 v8 s0 s1 = some u → W p l e ({ frames := 1, cells := 0, slots := 0, locals := 25 } : Room) s m args below meth c H locs 0 0 (MQ below (zQv D A (zWC cI cJ cZ h gP u gQ gT gE gM gS)) args s 0 0 A) (F0 m 112 ls [.int s0, .int s1]) := by
  intro gR v1 v4 v7 v8 s0 s1 H locs ls hP hD hS hl hf
  obtain ⟨hx, hb, hml, hown, hts, hK, hr, hlocks, hA⟩ := id hC
  unfold X0_addHalf_b112 at hf
  refine lv_icmp_ne (tgt := 149) hx hb dX0_addHalf_112 (by decide) (fun c1 => ?_) (fun c1 => ?_)
  · replace hf := zif_f hf c1
    refine lv_aload_n hx hb dX0_addHalf_149 rfl (lv_at hl 0 rfl) ?_
    refine va_get (D := D) (ci := 0) (v := .ref (h 7)) (C := RX0) (T := TX0) (N := 2) hx hb hts tb_wsX00 hown hK.1 hP 6 rfl rfl 0 (by decide) (hts _ tb_3_3) (fun _ h9 => h9) rfl dX0_addHalf_150 ?_
    refine lv_iload hx hb dX0_addHalf_153 (lv_at hl 2 rfl) ?_
    refine lv_iload hx hb dX0_addHalf_155 (lv_at hl 3 rfl) ?_
    refine lv_iload hx hb dX0_addHalf_157 (lv_at hl 4 rfl) ?_
    refine lv_aload_n hx hb dX0_addHalf_159 rfl (lv_at hl 0 rfl) ?_
    refine va_get (D := D) (ci := 0) (v := .ref (h 7)) (C := RX0) (T := TX0) (N := 2) hx hb hts tb_wsX00 hown hK.1 hP 6 rfl rfl 0 (by decide) (hts _ tb_3_3) (fun _ h9 => h9) rfl dX0_addHalf_160 ?_
    refine va_get (D := D) (ci := 2) (v := .ref (h 11)) (C := RX2) (T := TX2) (N := 6) hx hb hts tb_wsX20 hown hK.1 hP 7 rfl rfl 3 (by decide) (hts _ tb_13_1) (fun _ h9 => h9) rfl dX0_addHalf_163 ?_
    refine lv_iload_n hx hb dX0_addHalf_166 rfl (lv_at hl 1 rfl) ?_
    obtain ⟨h2, hf⟩ := zck_s hf
    refine va_iald hx hb hK.1 hP 11 0 rfl rfl h2 dX0_addHalf_167 ?_
    refine lv_aload_n hx hb dX0_addHalf_168 rfl (lv_at hl 0 rfl) ?_
    refine va_get (D := D) (ci := 0) (v := .ref (h 7)) (C := RX0) (T := TX0) (N := 2) hx hb hts tb_wsX00 hown hK.1 hP 6 rfl rfl 0 (by decide) (hts _ tb_3_3) (fun _ h9 => h9) rfl dX0_addHalf_169 ?_
    refine va_get (D := D) (ci := 2) (v := .ref (h 12)) (C := RX2) (T := TX2) (N := 6) hx hb hts tb_wsX20 hown hK.1 hP 7 rfl rfl 4 (by decide) (hts _ tb_13_2) (fun _ h9 => h9) rfl dX0_addHalf_172 ?_
    refine lv_iload_n hx hb dX0_addHalf_175 rfl (lv_at hl 1 rfl) ?_
    obtain ⟨h3, hf⟩ := zck_s hf
    refine va_iald hx hb hK.1 hP 12 0 rfl rfl h3 dX0_addHalf_176 ?_
    obtain ⟨u4, hu4, hf⟩ := zbd hf
    refine zthen_v hA hD hS (zrunV (As := [.int v4, .int v7, .int v8, .int ((tPa.n1 gR) v1.toNatClampNeg), .int ((tPa.d1 gR) v1.toNatClampNeg)]) (rest := []) hC hP hD 7 rfl rfl (c_X2_add_R l D cI cJ cZ h  gP gR gQ gT gE gM gS v4 v7 v8 ((tPa.n1 gR) v1.toNatClampNeg) ((tPa.d1 gR) v1.toNatClampNeg) u4 hu4 H.size) kRX0_87 rfl rfl ⟨by decide, by decide⟩ rfl hl.1 rfl (Nat.le_of_ble_eq_true rfl) dX0_addHalf_177) (fun H locs hP hD hS => ?_)
    have hu := Option.some.inj hf
    subst hu
    exact z_vret hC hP hD hS dX0_addHalf_180
  · replace hf := zif_t hf c1
    refine lv_aload_n hx hb dX0_addHalf_115 rfl (lv_at hl 0 rfl) ?_
    refine va_get (D := D) (ci := 0) (v := .ref (h 7)) (C := RX0) (T := TX0) (N := 2) hx hb hts tb_wsX00 hown hK.1 hP 6 rfl rfl 0 (by decide) (hts _ tb_3_3) (fun _ h9 => h9) rfl dX0_addHalf_116 ?_
    refine lv_iload hx hb dX0_addHalf_119 (lv_at hl 2 rfl) ?_
    refine lv_aload_n hx hb dX0_addHalf_121 rfl (lv_at hl 0 rfl) ?_
    refine va_get (D := D) (ci := 0) (v := .ref (h 7)) (C := RX0) (T := TX0) (N := 2) hx hb hts tb_wsX00 hown hK.1 hP 6 rfl rfl 0 (by decide) (hts _ tb_3_3) (fun _ h9 => h9) rfl dX0_addHalf_122 ?_
    refine va_get (D := D) (ci := 2) (v := .ref (h 9)) (C := RX2) (T := TX2) (N := 6) hx hb hts tb_wsX20 hown hK.1 hP 7 rfl rfl 1 (by decide) (hts _ tb_12_23) (fun _ h9 => h9) rfl dX0_addHalf_125 ?_
    refine lv_iload_n hx hb dX0_addHalf_128 rfl (lv_at hl 1 rfl) ?_
    obtain ⟨h5, hf⟩ := zck_s hf
    refine va_iald hx hb hK.1 hP 9 0 rfl rfl h5 dX0_addHalf_129 ?_
    refine lv_aload_n hx hb dX0_addHalf_130 rfl (lv_at hl 0 rfl) ?_
    refine va_get (D := D) (ci := 0) (v := .ref (h 7)) (C := RX0) (T := TX0) (N := 2) hx hb hts tb_wsX00 hown hK.1 hP 6 rfl rfl 0 (by decide) (hts _ tb_3_3) (fun _ h9 => h9) rfl dX0_addHalf_131 ?_
    refine va_get (D := D) (ci := 2) (v := .ref (h 10)) (C := RX2) (T := TX2) (N := 6) hx hb hts tb_wsX20 hown hK.1 hP 7 rfl rfl 2 (by decide) (hts _ tb_13_0) (fun _ h9 => h9) rfl dX0_addHalf_134 ?_
    refine lv_iload_n hx hb dX0_addHalf_137 rfl (lv_at hl 1 rfl) ?_
    obtain ⟨h6, hf⟩ := zck_s hf
    refine va_iald hx hb hK.1 hP 10 0 rfl rfl h6 dX0_addHalf_138 ?_
    refine lv_iload hx hb dX0_addHalf_139 (lv_at hl 3 rfl) ?_
    refine lv_iload hx hb dX0_addHalf_141 (lv_at hl 4 rfl) ?_
    obtain ⟨u7, hu7, hf⟩ := zbd hf
    refine zthen_v hA hD hS (zrunV (As := [.int v4, .int ((tPa.n0 gR) v1.toNatClampNeg), .int ((tPa.d0 gR) v1.toNatClampNeg), .int v7, .int v8]) (rest := []) hC hP hD 7 rfl rfl (c_X2_add_R l D cI cJ cZ h  gP gR gQ gT gE gM gS v4 ((tPa.n0 gR) v1.toNatClampNeg) ((tPa.d0 gR) v1.toNatClampNeg) v7 v8 u7 hu7 H.size) kRX0_87 rfl rfl ⟨by decide, by decide⟩ rfl hl.1 rfl (Nat.le_of_ble_eq_true rfl) dX0_addHalf_143) (fun H locs hP hD hS => ?_)
    refine lv_goto (tgt := 180) hx hb dX0_addHalf_146 (by decide) ?_
    have hu := Option.some.inj hf
    subst hu
    exact z_vret hC hP hD hS dX0_addHalf_180
set_option maxHeartbeats 4000000 in
set_option maxRecDepth 100000 in
theorem t_X0_addHalf_b98 {p : Program} {l : Launch} {e : Env} {s : State} {m : MethodId} {args : Array Value} {below : List Frame} {meth : Method} {c : Code} {A : Nat → Prop} {D : va_G} {cI cJ cZ : ClassId} {h : Nat → Nat} (hC : zCx p s m args meth c A D (zty cI cJ cZ) cX0_addHalf RX0 10 none) (gP : tPi) (gQ : tPa) (gT : tTr) (gE : tTe) (gM : tMe) (gS : tSq) (u : tPa) : ∀ (gR : tPa) (v1 : Int32) (v3 : Int32) (v4 : Int32) (v7 : Int32) (v8 : Int32) (s0 : Int32) (H : Heap) (locs : List Loc) (ls : Array Slot), va_P D vwCl (zWC cI cJ cZ h gP gR gQ gT gE gM gS) H → va_D A (zWC cI cJ cZ h gP gR gQ gT gE gM gS) → va_S A s.heap H locs → lv_has ls 10 [(0, .ref (h 6)), (1, .int v1), (3, .int v3), (4, .int v4), (7, .int v7), (8, .int v8)] → X0_addHalf_b98 gP gR v1 v3 v4 v7 v8 s0 = some u → W p l e ({ frames := 1, cells := 0, slots := 0, locals := 25 } : Room) s m args below meth c H locs 0 0 (MQ below (zQv D A (zWC cI cJ cZ h gP u gQ gT gE gM gS)) args s 0 0 A) (F0 m 98 ls [.int s0]) := by
  intro gR v1 v3 v4 v7 v8 s0 H locs ls hP hD hS hl hf
  obtain ⟨hx, hb, hml, hown, hts, hK, hr, hlocks, hA⟩ := id hC
  unfold X0_addHalf_b98 at hf
  refine lv_istore (lv' := [(9, .int s0), (0, .ref (h 6)), (1, .int v1), (3, .int v3), (4, .int v4), (7, .int v7), (8, .int v8)]) hx hb dX0_addHalf_98 hl (by decide) rfl (fun ls hl => ?_)
  refine lv_iload hx hb dX0_addHalf_100 (lv_at hl 0 rfl) ?_
  refine lv_iload_n hx hb dX0_addHalf_102 rfl (lv_at hl 3 rfl) ?_
  refine lv_iconst (v := 1) hx hb dX0_addHalf_103 (by decide) ?_
  refine lv_icmp_ne (tgt := 111) hx hb dX0_addHalf_104 (by decide) (fun c8 => ?_) (fun c8 => ?_)
  · replace hf := zif_f hf c8
    refine lv_iconst (v := 0) hx hb dX0_addHalf_111 (by decide) ?_
    exact t_X0_addHalf_b112 hC  gP gQ gT gE gM gS u gR v1 v4 v7 v8 (0 : Int32) s0 H locs ls hP hD hS (lv_sub hl [1, 2, 4, 5, 6] rfl) hf
  · replace hf := zif_t hf c8
    refine lv_iconst (v := 1) hx hb dX0_addHalf_107 (by decide) ?_
    refine lv_goto (tgt := 112) hx hb dX0_addHalf_108 (by decide) ?_
    exact t_X0_addHalf_b112 hC  gP gQ gT gE gM gS u gR v1 v4 v7 v8 (1 : Int32) s0 H locs ls hP hD hS (lv_sub hl [1, 2, 4, 5, 6] rfl) hf
set_option maxHeartbeats 4000000 in
set_option maxRecDepth 100000 in
theorem c_X0_addHalf (l : Launch) (D : va_G) (cI cJ cZ : ClassId) (h : Nat → Nat) (gP : tPi) (gR : tPa) (gQ : tPa) (gT : tTr) (gE : tTe) (gM : tMe) (gS : tSq) (a1 : Int32) (a2 : Int32) (a3 : Int32) (u : tPa) (hf : X0_addHalf gP gR a1 a2 a3 = some u) (sz : Nat) : Met l yX0_addHalf (Cond.code yX0_addHalf cX0_addHalf 10 none :: tb_L) ({ frames := 1, cells := 0, slots := 0, locals := 25 } : Room) (zPre D (zty cI cJ cZ) (zWC cI cJ cZ h gP gR gQ gT gE gM gS) sz [.ref (h 6), .int a1, .int a2, .int a3]) (zQv D (va_A (zWC cI cJ cZ h gP gR gQ gT gE gM gS) sz) (zWC cI cJ cZ h gP u gQ gT gE gM gS)) 0 0 (va_A (zWC cI cJ cZ h gP gR gQ gT gE gM gS) sz) := by
  refine zMet (Qc := fun A => zQv D A (zWC cI cJ cZ h gP u gQ gT gE gM gS)) (by decide) rfl (Nat.le_of_ble_eq_true rfl) ?_
  intro p e s m args below meth c A ls hC _ hP hD hS hl
  replace hl : lv_has ls 10 [(0, .ref (h 6)), (1, .int a1), (2, .int a2), (3, .int a3)] := hl
  obtain ⟨hx, hb, hml, hown, hts, hK, hr, hlocks, hA⟩ := id hC
  unfold X0_addHalf at hf
  obtain ⟨H, hH⟩ : ∃ H, H = s.heap := ⟨_, rfl⟩
  rw [← hH] at hP
  replace hS : va_S A s.heap H [] := by rw [hH]; exact hS
  show W p l e _ s m args below meth c s.heap [] 0 0 _ _
  rw [← hH]
  clear hH
  obtain ⟨locs, hlo⟩ : ∃ x : List Loc, x = [] := ⟨_, rfl⟩
  rw [← hlo] at hS ⊢
  clear hlo
  refine lv_aload_n hx hb dX0_addHalf_0 rfl (lv_at hl 0 rfl) ?_
  refine va_get (D := D) (ci := 0) (v := .ref (h 7)) (C := RX0) (T := TX0) (N := 2) hx hb hts tb_wsX00 hown hK.1 hP 6 rfl rfl 0 (by decide) (hts _ tb_3_3) (fun _ h9 => h9) rfl dX0_addHalf_1 ?_
  refine va_get (D := D) (ci := 2) (v := .ref (h 8)) (C := RX2) (T := TX2) (N := 6) hx hb hts tb_wsX20 hown hK.1 hP 7 rfl rfl 0 (by decide) (hts _ tb_12_18) (fun _ h9 => h9) rfl dX0_addHalf_4 ?_
  refine lv_iload_n hx hb dX0_addHalf_7 rfl (lv_at hl 1 rfl) ?_
  obtain ⟨h9, hf⟩ := zck_s hf
  refine va_iald hx hb hK.1 hP 8 0 rfl rfl h9 dX0_addHalf_8 ?_
  refine lv_topi (fun x10 ex10 => ?_)
  replace hf := zl_n ex10 hf
  refine lv_istore (lv' := [(4, .int x10), (0, .ref (h 6)), (1, .int a1), (2, .int a2), (3, .int a3)]) hx hb dX0_addHalf_9 hl (by decide) rfl (fun ls hl => ?_)
  refine lv_aload_n hx hb dX0_addHalf_11 rfl (lv_at hl 1 rfl) ?_
  refine va_get (D := D) (ci := 0) (v := .ref (h 1)) (C := RX0) (T := TX0) (N := 2) hx hb hts tb_wsX00 hown hK.1 hP 6 rfl rfl 1 (by decide) (hts _ tb_3_4) (fun _ h9 => h9) rfl dX0_addHalf_12 ?_
  refine lv_iload_n hx hb dX0_addHalf_15 rfl (lv_at hl 3 rfl) ?_
  refine lv_aload_n hx hb dX0_addHalf_16 rfl (lv_at hl 1 rfl) ?_
  refine va_get (D := D) (ci := 0) (v := .ref (h 1)) (C := RX0) (T := TX0) (N := 2) hx hb hts tb_wsX00 hown hK.1 hP 6 rfl rfl 1 (by decide) (hts _ tb_3_4) (fun _ h9 => h9) rfl dX0_addHalf_17 ?_
  refine va_get (D := D) (ci := 3) (v := .ref (h 2)) (C := RX3) (T := TX3) (N := 5) hx hb hts tb_wsX30 hown hK.1 hP 1 rfl rfl 0 (by decide) (hts _ tb_12_19) (fun _ h9 => h9) rfl dX0_addHalf_20 ?_
  refine lv_iload hx hb dX0_addHalf_23 (lv_at hl 0 rfl) ?_
  obtain ⟨h11, hf⟩ := zck_s hf
  refine va_iald hx hb hK.1 hP 2 0 rfl rfl h11 dX0_addHalf_25 ?_
  refine lv_aload_n hx hb dX0_addHalf_26 rfl (lv_at hl 1 rfl) ?_
  refine va_get (D := D) (ci := 0) (v := .ref (h 1)) (C := RX0) (T := TX0) (N := 2) hx hb hts tb_wsX00 hown hK.1 hP 6 rfl rfl 1 (by decide) (hts _ tb_3_4) (fun _ h9 => h9) rfl dX0_addHalf_27 ?_
  refine va_get (D := D) (ci := 3) (v := .ref (h 3)) (C := RX3) (T := TX3) (N := 5) hx hb hts tb_wsX30 hown hK.1 hP 1 rfl rfl 1 (by decide) (hts _ tb_12_20) (fun _ h9 => h9) rfl dX0_addHalf_30 ?_
  refine lv_iload hx hb dX0_addHalf_33 (lv_at hl 0 rfl) ?_
  obtain ⟨h12, hf⟩ := zck_s hf
  refine va_iald hx hb hK.1 hP 3 0 rfl rfl h12 dX0_addHalf_35 ?_
  obtain ⟨u13, hu13, hf⟩ := zbd hf
  refine zthen_i hA hD hS (zrunV (As := [.int a2, .int ((tPi.x0 gP) x10.toNatClampNeg), .int ((tPi.y0 gP) x10.toNatClampNeg)]) (rest := []) hC hP hD 1 rfl rfl (c_X3_sideOf l D cI cJ cZ h  gP gR gQ gT gE gM gS a2 ((tPi.x0 gP) x10.toNatClampNeg) ((tPi.y0 gP) x10.toNatClampNeg) u13 hu13 H.size) kRX0_43 rfl rfl ⟨by decide, by decide⟩ rfl hl.1 rfl (Nat.le_of_ble_eq_true rfl) dX0_addHalf_36) (fun H locs hP hD hS => ?_)
  refine lv_istore (lv' := [(5, .int u13), (4, .int x10), (0, .ref (h 6)), (1, .int a1), (2, .int a2), (3, .int a3)]) hx hb dX0_addHalf_39 hl (by decide) rfl (fun ls hl => ?_)
  refine lv_aload_n hx hb dX0_addHalf_41 rfl (lv_at hl 2 rfl) ?_
  refine va_get (D := D) (ci := 0) (v := .ref (h 1)) (C := RX0) (T := TX0) (N := 2) hx hb hts tb_wsX00 hown hK.1 hP 6 rfl rfl 1 (by decide) (hts _ tb_3_4) (fun _ h9 => h9) rfl dX0_addHalf_42 ?_
  refine lv_iload_n hx hb dX0_addHalf_45 rfl (lv_at hl 4 rfl) ?_
  refine lv_aload_n hx hb dX0_addHalf_46 rfl (lv_at hl 2 rfl) ?_
  refine va_get (D := D) (ci := 0) (v := .ref (h 1)) (C := RX0) (T := TX0) (N := 2) hx hb hts tb_wsX00 hown hK.1 hP 6 rfl rfl 1 (by decide) (hts _ tb_3_4) (fun _ h9 => h9) rfl dX0_addHalf_47 ?_
  refine va_get (D := D) (ci := 3) (v := .ref (h 4)) (C := RX3) (T := TX3) (N := 5) hx hb hts tb_wsX30 hown hK.1 hP 1 rfl rfl 2 (by decide) (hts _ tb_12_21) (fun _ h9 => h9) rfl dX0_addHalf_50 ?_
  refine lv_iload hx hb dX0_addHalf_53 (lv_at hl 1 rfl) ?_
  obtain ⟨h14, hf⟩ := zck_s hf
  refine va_iald hx hb hK.1 hP 4 0 rfl rfl h14 dX0_addHalf_55 ?_
  refine lv_aload_n hx hb dX0_addHalf_56 rfl (lv_at hl 2 rfl) ?_
  refine va_get (D := D) (ci := 0) (v := .ref (h 1)) (C := RX0) (T := TX0) (N := 2) hx hb hts tb_wsX00 hown hK.1 hP 6 rfl rfl 1 (by decide) (hts _ tb_3_4) (fun _ h9 => h9) rfl dX0_addHalf_57 ?_
  refine va_get (D := D) (ci := 3) (v := .ref (h 5)) (C := RX3) (T := TX3) (N := 5) hx hb hts tb_wsX30 hown hK.1 hP 1 rfl rfl 3 (by decide) (hts _ tb_12_22) (fun _ h9 => h9) rfl dX0_addHalf_60 ?_
  refine lv_iload hx hb dX0_addHalf_63 (lv_at hl 1 rfl) ?_
  obtain ⟨h15, hf⟩ := zck_s hf
  refine va_iald hx hb hK.1 hP 5 0 rfl rfl h15 dX0_addHalf_65 ?_
  obtain ⟨u16, hu16, hf⟩ := zbd hf
  refine zthen_i hA hD hS (zrunV (As := [.int a2, .int ((tPi.x1 gP) x10.toNatClampNeg), .int ((tPi.y1 gP) x10.toNatClampNeg)]) (rest := []) hC hP hD 1 rfl rfl (c_X3_sideOf l D cI cJ cZ h  gP gR gQ gT gE gM gS a2 ((tPi.x1 gP) x10.toNatClampNeg) ((tPi.y1 gP) x10.toNatClampNeg) u16 hu16 H.size) kRX0_43 rfl rfl ⟨by decide, by decide⟩ rfl hl.1 rfl (Nat.le_of_ble_eq_true rfl) dX0_addHalf_66) (fun H locs hP hD hS => ?_)
  refine lv_istore (lv' := [(6, .int u16), (5, .int u13), (4, .int x10), (0, .ref (h 6)), (1, .int a1), (2, .int a2), (3, .int a3)]) hx hb dX0_addHalf_69 hl (by decide) rfl (fun ls hl => ?_)
  refine lv_iload hx hb dX0_addHalf_71 (lv_at hl 1 rfl) ?_
  refine va_mabs hx hb (hml.trans hl.1.symm) hown (hts _ tb_14_7) (hts _ tb_12_12) (hts _ tb_11_23) (hts _ tb_12_13) (by decide) (Nat.le_of_ble_eq_true rfl) (Nat.zero_le _) (Nat.zero_le _) dX0_addHalf_73 ?_
  refine lv_topi (fun x17 ex17 => ?_)
  replace hf := zl_n ex17 hf
  refine lv_istore (lv' := [(7, .int x17), (6, .int u16), (5, .int u13), (4, .int x10), (0, .ref (h 6)), (1, .int a1), (2, .int a2), (3, .int a3)]) hx hb dX0_addHalf_76 hl (by decide) rfl (fun ls hl => ?_)
  refine lv_iload hx hb dX0_addHalf_78 (lv_at hl 0 rfl) ?_
  refine lv_iload hx hb dX0_addHalf_80 (lv_at hl 1 rfl) ?_
  refine va_mabs hx hb (hml.trans hl.1.symm) hown (hts _ tb_14_7) (hts _ tb_12_12) (hts _ tb_11_23) (hts _ tb_12_13) (by decide) (Nat.le_of_ble_eq_true rfl) (Nat.zero_le _) (Nat.zero_le _) dX0_addHalf_82 ?_
  refine lv_iadd hx hb dX0_addHalf_85 ?_
  refine lv_topi (fun x18 ex18 => ?_)
  replace hf := zl_n ex18 hf
  refine lv_istore (lv' := [(8, .int x18), (7, .int x17), (6, .int u16), (5, .int u13), (4, .int x10), (0, .ref (h 6)), (1, .int a1), (2, .int a2), (3, .int a3)]) hx hb dX0_addHalf_86 hl (by decide) rfl (fun ls hl => ?_)
  refine lv_iload hx hb dX0_addHalf_88 (lv_at hl 3 rfl) ?_
  refine lv_if_le (tgt := 97) hx hb dX0_addHalf_90 (by decide) (fun c19 => ?_) (fun c19 => ?_)
  · replace hf := zif_t hf c19
    refine lv_iconst (v := 0) hx hb dX0_addHalf_97 (by decide) ?_
    exact t_X0_addHalf_b98 hC  gP gQ gT gE gM gS u gR a1 a3 x10 x17 x18 (0 : Int32) H locs ls hP hD hS (lv_sub hl [5, 6, 8, 4, 1, 0] rfl) hf
  · replace hf := zif_f hf c19
    refine lv_iconst (v := 1) hx hb dX0_addHalf_93 (by decide) ?_
    refine lv_goto (tgt := 98) hx hb dX0_addHalf_94 (by decide) ?_
    exact t_X0_addHalf_b98 hC  gP gQ gT gE gM gS u gR a1 a3 x10 x17 x18 (1 : Int32) H locs ls hP hD hS (lv_sub hl [5, 6, 8, 4, 1, 0] rfl) hf
set_option maxHeartbeats 4000000 in
set_option maxRecDepth 100000 in
theorem c_X2_addCopy_RR (l : Launch) (D : va_G) (cI cJ cZ : ClassId) (h : Nat → Nat) (gP : tPi) (gR : tPa) (gQ : tPa) (gT : tTr) (gE : tTe) (gM : tMe) (gS : tSq) (a2 : Int32) (u : tPa) (hf : X2_addCopy_RR gR a2 = some u) (sz : Nat) : Met l yX2_addCopy (Cond.code yX2_addCopy cX2_addCopy 3 none :: tb_L) ({ frames := 1, cells := 0, slots := 0, locals := 25 } : Room) (zPre D (zty cI cJ cZ) (zWC cI cJ cZ h gP gR gQ gT gE gM gS) sz [.ref (h 7), .ref (h 7), .int a2]) (zQv D (va_A (zWC cI cJ cZ h gP gR gQ gT gE gM gS) sz) (zWC cI cJ cZ h gP u gQ gT gE gM gS)) 0 0 (va_A (zWC cI cJ cZ h gP gR gQ gT gE gM gS) sz) := by
  refine zMet (Qc := fun A => zQv D A (zWC cI cJ cZ h gP u gQ gT gE gM gS)) (by decide) rfl (Nat.le_of_ble_eq_true rfl) ?_
  intro p e s m args below meth c A ls hC _ hP hD hS hl
  replace hl : lv_has ls 3 [(0, .ref (h 7)), (1, .ref (h 7)), (2, .int a2)] := hl
  obtain ⟨hx, hb, hml, hown, hts, hK, hr, hlocks, hA⟩ := id hC
  unfold X2_addCopy_RR at hf
  obtain ⟨H, hH⟩ : ∃ H, H = s.heap := ⟨_, rfl⟩
  rw [← hH] at hP
  replace hS : va_S A s.heap H [] := by rw [hH]; exact hS
  show W p l e _ s m args below meth c s.heap [] 0 0 _ _
  rw [← hH]
  clear hH
  obtain ⟨locs, hlo⟩ : ∃ x : List Loc, x = [] := ⟨_, rfl⟩
  rw [← hlo] at hS ⊢
  clear hlo
  refine lv_aload_n hx hb dX2_addCopy_0 rfl (lv_at hl 0 rfl) ?_
  refine lv_aload_n hx hb dX2_addCopy_1 rfl (lv_at hl 1 rfl) ?_
  refine va_get (D := D) (ci := 2) (v := .ref (h 8)) (C := RX2) (T := TX2) (N := 6) hx hb hts tb_wsX20 hown hK.1 hP 7 rfl rfl 0 (by decide) (hts _ tb_3_8) (fun _ h9 => h9) rfl dX2_addCopy_2 ?_
  refine lv_iload_n hx hb dX2_addCopy_5 rfl (lv_at hl 2 rfl) ?_
  obtain ⟨h1, hf⟩ := zck_s hf
  refine va_iald hx hb hK.1 hP 8 0 rfl rfl h1 dX2_addCopy_6 ?_
  refine lv_aload_n hx hb dX2_addCopy_7 rfl (lv_at hl 1 rfl) ?_
  refine va_get (D := D) (ci := 2) (v := .ref (h 9)) (C := RX2) (T := TX2) (N := 6) hx hb hts tb_wsX20 hown hK.1 hP 7 rfl rfl 1 (by decide) (hts _ tb_3_9) (fun _ h9 => h9) rfl dX2_addCopy_8 ?_
  refine lv_iload_n hx hb dX2_addCopy_11 rfl (lv_at hl 2 rfl) ?_
  obtain ⟨h2, hf⟩ := zck_s hf
  refine va_iald hx hb hK.1 hP 9 0 rfl rfl h2 dX2_addCopy_12 ?_
  refine lv_aload_n hx hb dX2_addCopy_13 rfl (lv_at hl 1 rfl) ?_
  refine va_get (D := D) (ci := 2) (v := .ref (h 10)) (C := RX2) (T := TX2) (N := 6) hx hb hts tb_wsX20 hown hK.1 hP 7 rfl rfl 2 (by decide) (hts _ tb_3_10) (fun _ h9 => h9) rfl dX2_addCopy_14 ?_
  refine lv_iload_n hx hb dX2_addCopy_17 rfl (lv_at hl 2 rfl) ?_
  obtain ⟨h3, hf⟩ := zck_s hf
  refine va_iald hx hb hK.1 hP 10 0 rfl rfl h3 dX2_addCopy_18 ?_
  refine lv_aload_n hx hb dX2_addCopy_19 rfl (lv_at hl 1 rfl) ?_
  refine va_get (D := D) (ci := 2) (v := .ref (h 11)) (C := RX2) (T := TX2) (N := 6) hx hb hts tb_wsX20 hown hK.1 hP 7 rfl rfl 3 (by decide) (hts _ tb_3_11) (fun _ h9 => h9) rfl dX2_addCopy_20 ?_
  refine lv_iload_n hx hb dX2_addCopy_23 rfl (lv_at hl 2 rfl) ?_
  obtain ⟨h4, hf⟩ := zck_s hf
  refine va_iald hx hb hK.1 hP 11 0 rfl rfl h4 dX2_addCopy_24 ?_
  refine lv_aload_n hx hb dX2_addCopy_25 rfl (lv_at hl 1 rfl) ?_
  refine va_get (D := D) (ci := 2) (v := .ref (h 12)) (C := RX2) (T := TX2) (N := 6) hx hb hts tb_wsX20 hown hK.1 hP 7 rfl rfl 4 (by decide) (hts _ tb_3_12) (fun _ h9 => h9) rfl dX2_addCopy_26 ?_
  refine lv_iload_n hx hb dX2_addCopy_29 rfl (lv_at hl 2 rfl) ?_
  obtain ⟨h5, hf⟩ := zck_s hf
  refine va_iald hx hb hK.1 hP 12 0 rfl rfl h5 dX2_addCopy_30 ?_
  obtain ⟨u6, hu6, hf⟩ := zbd hf
  refine zthen_v hA hD hS (zrunV (As := [.int ((tPa.owner gR) a2.toNatClampNeg), .int ((tPa.n0 gR) a2.toNatClampNeg), .int ((tPa.d0 gR) a2.toNatClampNeg), .int ((tPa.n1 gR) a2.toNatClampNeg), .int ((tPa.d1 gR) a2.toNatClampNeg)]) (rest := []) hC hP hD 7 rfl rfl (c_X2_add_R l D cI cJ cZ h  gP gR gQ gT gE gM gS ((tPa.owner gR) a2.toNatClampNeg) ((tPa.n0 gR) a2.toNatClampNeg) ((tPa.d0 gR) a2.toNatClampNeg) ((tPa.n1 gR) a2.toNatClampNeg) ((tPa.d1 gR) a2.toNatClampNeg) u6 hu6 H.size) kRX2_27 rfl rfl ⟨by decide, by decide⟩ rfl hl.1 rfl (Nat.le_of_ble_eq_true rfl) dX2_addCopy_31) (fun H locs hP hD hS => ?_)
  have hu := Option.some.inj hf
  subst hu
  exact z_vret hC hP hD hS dX2_addCopy_34
set_option maxHeartbeats 4000000 in
set_option maxRecDepth 100000 in
theorem t_X0_addSideRow_b56 {p : Program} {l : Launch} {e : Env} {s : State} {m : MethodId} {args : Array Value} {below : List Frame} {meth : Method} {c : Code} {A : Nat → Prop} {D : va_G} {cI cJ cZ : ClassId} {h : Nat → Nat} (hC : zCx p s m args meth c A D (zty cI cJ cZ) cX0_addSideRow RX0 7 none) (N : Nat) {gP : tPi} {gQ : tPa} {gT : tTr} {gE : tTe} {gM : tMe} {gS : tSq} {u : tPa} (k3 : tPa → Int32 → Int32 → Int32 → Int32 → Option (tPa)) (hk3 : ∀ (gR : tPa) (v2 : Int32) (v3 : Int32) (v4 : Int32) (v5 : Int32) (H : Heap) (locs : List Loc) (ls : Array Slot), va_P D vwCl (zWC cI cJ cZ h gP gR gQ gT gE gM gS) H → va_D A (zWC cI cJ cZ h gP gR gQ gT gE gM gS) → va_S A s.heap H locs → lv_has ls 7 [(0, .ref (h 6)), (2, .int v2), (3, .int v3), (4, .int v4), (5, .int v5)] → k3 gR v2 v3 v4 v5 = some u → W p l e ({ frames := 2, cells := 0, slots := 0, locals := 54 } : Room) s m args below meth c H locs 0 0 (MQ below (zQv D A (zWC cI cJ cZ h gP u gQ gT gE gM gS)) args s 0 0 A) (F0 m 3 ls [])) : ∀ (gR : tPa) (v2 : Int32) (v3 : Int32) (v4 : Int32) (v5 : Int32) (H : Heap) (locs : List Loc) (ls : Array Slot), va_P D vwCl (zWC cI cJ cZ h gP gR gQ gT gE gM gS) H → va_D A (zWC cI cJ cZ h gP gR gQ gT gE gM gS) → va_S A s.heap H locs → lv_has ls 7 [(0, .ref (h 6)), (2, .int v2), (3, .int v3), (4, .int v4), (5, .int v5)] → X0_addSideRow_b56 N k3 gP gR v2 v3 v4 v5 = some u → W p l e ({ frames := 2, cells := 0, slots := 0, locals := 54 } : Room) s m args below meth c H locs 0 0 (MQ below (zQv D A (zWC cI cJ cZ h gP u gQ gT gE gM gS)) args s 0 0 A) (F0 m 56 ls []) := by
  intro gR v2 v3 v4 v5 H locs ls hP hD hS hl hf
  obtain ⟨hx, hb, hml, hown, hts, hK, hr, hlocks, hA⟩ := id hC
  unfold X0_addSideRow_b56 at hf
  refine lv_iinc (v := (v5 + (1 : Int32))) (lv' := [(5, .int (v5 + (1 : Int32))), (0, .ref (h 6)), (2, .int v2), (3, .int v3), (4, .int v4)]) hx hb dX0_addSideRow_56 hl (k := 4) rfl rfl (by decide) rfl (fun ls hl => ?_)
  refine lv_goto (tgt := 3) hx hb dX0_addSideRow_59 (by decide) ?_
  exact hk3 gR v2 v3 v4 (v5 + (1 : Int32)) H locs ls hP hD hS (lv_sub hl [1, 2, 3, 4, 0] rfl) hf
set_option maxHeartbeats 4000000 in
set_option maxRecDepth 100000 in
theorem t_X0_addSideRow_b3 {p : Program} {l : Launch} {e : Env} {s : State} {m : MethodId} {args : Array Value} {below : List Frame} {meth : Method} {c : Code} {A : Nat → Prop} {D : va_G} {cI cJ cZ : ClassId} {h : Nat → Nat} (hC : zCx p s m args meth c A D (zty cI cJ cZ) cX0_addSideRow RX0 7 none) (N : Nat) (gP : tPi) (gQ : tPa) (gT : tTr) (gE : tTe) (gM : tMe) (gS : tSq) (u : tPa) : ∀ (n : Nat) (gR : tPa) (v2 : Int32) (v3 : Int32) (v4 : Int32) (v5 : Int32) (H : Heap) (locs : List Loc) (ls : Array Slot), va_P D vwCl (zWC cI cJ cZ h gP gR gQ gT gE gM gS) H → va_D A (zWC cI cJ cZ h gP gR gQ gT gE gM gS) → va_S A s.heap H locs → lv_has ls 7 [(0, .ref (h 6)), (2, .int v2), (3, .int v3), (4, .int v4), (5, .int v5)] → X0_addSideRow_b3 N gP n gR v2 v3 v4 v5 = some u → W p l e ({ frames := 2, cells := 0, slots := 0, locals := 54 } : Room) s m args below meth c H locs 0 0 (MQ below (zQv D A (zWC cI cJ cZ h gP u gQ gT gE gM gS)) args s 0 0 A) (F0 m 3 ls []) := by
  intro n
  induction n with
  | zero =>
    intro gR v2 v3 v4 v5 H locs ls hP hD hS hl hf
    cases hf
  | succ n ih =>
    intro gR v2 v3 v4 v5 H locs ls hP hD hS hl hf
    obtain ⟨hx, hb, hml, hown, hts, hK, hr, hlocks, hA⟩ := id hC
    rw [X0_addSideRow_b3] at hf
    refine lv_iload hx hb dX0_addSideRow_3 (lv_at hl 4 rfl) ?_
    refine lv_iload_n hx hb dX0_addSideRow_5 rfl (lv_at hl 1 rfl) ?_
    refine lv_icmp_ge (tgt := 62) hx hb dX0_addSideRow_6 (by decide) (fun c1 => ?_) (fun c1 => ?_)
    · replace hf := zif_t hf c1
      have hu := Option.some.inj hf
      subst hu
      exact z_vret hC hP hD hS dX0_addSideRow_62
    · replace hf := zif_f hf c1
      refine lv_aload_n hx hb dX0_addSideRow_9 rfl (lv_at hl 0 rfl) ?_
      refine lv_iload hx hb dX0_addSideRow_10 (lv_at hl 4 rfl) ?_
      refine lv_iload_n hx hb dX0_addSideRow_12 rfl (lv_at hl 2 rfl) ?_
      obtain ⟨u2, hu2, hf⟩ := zbd hf
      refine zthen_i hA hD hS (zrunV (As := [.int v5, .int v3]) (rest := []) hC hP hD 6 rfl rfl (c_X0_sides l D cI cJ cZ h  gP gR gQ gT gE gM gS v5 v3 u2 hu2 H.size) kRX0_69 rfl rfl ⟨by decide, by decide⟩ rfl hl.1 rfl (Nat.le_of_ble_eq_true rfl) dX0_addSideRow_13) (fun H locs hP hD hS => ?_)
      refine lv_istore (lv' := [(6, .int u2), (0, .ref (h 6)), (2, .int v2), (3, .int v3), (4, .int v4), (5, .int v5)]) hx hb dX0_addSideRow_16 hl (by decide) rfl (fun ls hl => ?_)
      refine lv_iload hx hb dX0_addSideRow_18 (lv_at hl 0 rfl) ?_
      refine lv_iconst (v := 3) hx hb dX0_addSideRow_20 (by decide) ?_
      refine lv_icmp_ne (tgt := 36) hx hb dX0_addSideRow_21 (by decide) (fun c3 => ?_) (fun c3 => ?_)
      · replace hf := zif_f hf c3
        refine lv_iload hx hb dX0_addSideRow_36 (lv_at hl 0 rfl) ?_
        refine lv_iload hx hb dX0_addSideRow_38 (lv_at hl 4 rfl) ?_
        refine lv_icmp_ne (tgt := 56) hx hb dX0_addSideRow_40 (by decide) (fun c4 => ?_) (fun c4 => ?_)
        · replace hf := zif_f hf c4
          exact t_X0_addSideRow_b56 hC N (X0_addSideRow_b3 N gP n) ih  gR v2 v3 v4 v5 H locs ls hP hD hS (lv_sub hl [1, 2, 3, 4, 5] rfl) hf
        · replace hf := zif_t hf c4
          refine lv_aload_n hx hb dX0_addSideRow_43 rfl (lv_at hl 1 rfl) ?_
          refine va_get (D := D) (ci := 0) (v := .ref (h 7)) (C := RX0) (T := TX0) (N := 2) hx hb hts tb_wsX00 hown hK.1 hP 6 rfl rfl 0 (by decide) (hts _ tb_3_3) (fun _ h9 => h9) rfl dX0_addSideRow_44 ?_
          refine lv_aload_n hx hb dX0_addSideRow_47 rfl (lv_at hl 1 rfl) ?_
          refine va_get (D := D) (ci := 0) (v := .ref (h 7)) (C := RX0) (T := TX0) (N := 2) hx hb hts tb_wsX00 hown hK.1 hP 6 rfl rfl 0 (by decide) (hts _ tb_3_3) (fun _ h9 => h9) rfl dX0_addSideRow_48 ?_
          refine lv_iload hx hb dX0_addSideRow_51 (lv_at hl 5 rfl) ?_
          obtain ⟨u5, hu5, hf⟩ := zbd hf
          refine zthen_v hA hD hS (zrunV (As := [.ref (h 7), .int v5]) (rest := []) hC hP hD 7 rfl rfl (c_X2_addCopy_RR l D cI cJ cZ h  gP gR gQ gT gE gM gS v5 u5 hu5 H.size) kRX0_77 rfl rfl ⟨by decide, by decide⟩ rfl hl.1 rfl (Nat.le_of_ble_eq_true rfl) dX0_addSideRow_53) (fun H locs hP hD hS => ?_)
          exact t_X0_addSideRow_b56 hC N (X0_addSideRow_b3 N gP n) ih  u5 v2 v3 v4 v5 H locs ls hP hD hS (lv_sub hl [1, 2, 3, 4, 5] rfl) hf
      · replace hf := zif_t hf c3
        refine lv_aload_n hx hb dX0_addSideRow_24 rfl (lv_at hl 1 rfl) ?_
        refine lv_iload hx hb dX0_addSideRow_25 (lv_at hl 5 rfl) ?_
        refine lv_iload_n hx hb dX0_addSideRow_27 rfl (lv_at hl 3 rfl) ?_
        refine lv_iload hx hb dX0_addSideRow_28 (lv_at hl 4 rfl) ?_
        obtain ⟨u6, hu6, hf⟩ := zbd hf
        refine zthen_v hA hD hS (zrunV (As := [.int v5, .int v3, .int v4]) (rest := []) hC hP hD 6 rfl rfl (c_X0_addHalf l D cI cJ cZ h  gP gR gQ gT gE gM gS v5 v3 v4 u6 hu6 H.size) kRX0_73 rfl rfl ⟨by decide, by decide⟩ rfl hl.1 rfl (Nat.le_of_ble_eq_true rfl) dX0_addSideRow_30) (fun H locs hP hD hS => ?_)
        refine lv_goto (tgt := 56) hx hb dX0_addSideRow_33 (by decide) ?_
        exact t_X0_addSideRow_b56 hC N (X0_addSideRow_b3 N gP n) ih  u6 v2 v3 v4 v5 H locs ls hP hD hS (lv_sub hl [1, 2, 3, 4, 5] rfl) hf
set_option maxHeartbeats 4000000 in
set_option maxRecDepth 100000 in
theorem c_X0_addSideRow (l : Launch) (D : va_G) (cI cJ cZ : ClassId) (h : Nat → Nat) (N : Nat) (gP : tPi) (gR : tPa) (gQ : tPa) (gT : tTr) (gE : tTe) (gM : tMe) (gS : tSq) (a1 : Int32) (a2 : Int32) (a3 : Int32) (a4 : Int32) (u : tPa) (hf : X0_addSideRow N gP gR a1 a2 a3 a4 = some u) (sz : Nat) : Met l yX0_addSideRow (Cond.code yX0_addSideRow cX0_addSideRow 7 none :: tb_L) ({ frames := 2, cells := 0, slots := 0, locals := 54 } : Room) (zPre D (zty cI cJ cZ) (zWC cI cJ cZ h gP gR gQ gT gE gM gS) sz [.ref (h 6), .int a1, .int a2, .int a3, .int a4]) (zQv D (va_A (zWC cI cJ cZ h gP gR gQ gT gE gM gS) sz) (zWC cI cJ cZ h gP u gQ gT gE gM gS)) 0 0 (va_A (zWC cI cJ cZ h gP gR gQ gT gE gM gS) sz) := by
  refine zMet (Qc := fun A => zQv D A (zWC cI cJ cZ h gP u gQ gT gE gM gS)) (by decide) rfl (Nat.le_of_ble_eq_true rfl) ?_
  intro p e s m args below meth c A ls hC _ hP hD hS hl
  replace hl : lv_has ls 7 [(0, .ref (h 6)), (1, .int a1), (2, .int a2), (3, .int a3), (4, .int a4)] := hl
  obtain ⟨hx, hb, hml, hown, hts, hK, hr, hlocks, hA⟩ := id hC
  unfold X0_addSideRow at hf
  obtain ⟨H, hH⟩ : ∃ H, H = s.heap := ⟨_, rfl⟩
  rw [← hH] at hP
  replace hS : va_S A s.heap H [] := by rw [hH]; exact hS
  show W p l e _ s m args below meth c s.heap [] 0 0 _ _
  rw [← hH]
  clear hH
  obtain ⟨locs, hlo⟩ : ∃ x : List Loc, x = [] := ⟨_, rfl⟩
  rw [← hlo] at hS ⊢
  clear hlo
  refine lv_iload_n hx hb dX0_addSideRow_0 rfl (lv_at hl 1 rfl) ?_
  refine lv_istore (lv' := [(5, .int a1), (0, .ref (h 6)), (1, .int a1), (2, .int a2), (3, .int a3), (4, .int a4)]) hx hb dX0_addSideRow_1 hl (by decide) rfl (fun ls hl => ?_)
  exact t_X0_addSideRow_b3 hC N gP gQ gT gE gM gS u N gR a2 a3 a4 a1 H locs ls hP hD hS (lv_sub hl [1, 3, 4, 5, 0] rfl) hf
set_option maxHeartbeats 4000000 in
set_option maxRecDepth 100000 in
theorem c_X6_growSide (l : Launch) (D : va_G) (cI cJ cZ : ClassId) (h : Nat → Nat) (N : Nat) (f lo : Nat) (rc : tPi → tPa → tPa → tTr → Int32 → Int32 → Int32 → Int32 → Option (Int32 × tPa × tPa × tTr)) (hrc : ∀ (gP : tPi) (gR : tPa) (gQ : tPa) (gT : tTr) (gE : tTe) (gM : tMe) (gS : tSq) (b0 b1 b2 b3 : Int32) (u : Int32 × tPa × tPa × tTr), rc gP gR gQ gT b0 b1 b2 b3 = some u → ∀ sz : Nat, Met l yX6_grow (Cond.code yX6_grow cX6_grow 6 (some .int) :: tb_L) ({ frames := f, cells := 0, slots := 0, locals := lo } : Room) (zPre D (zty cI cJ cZ) (zWC cI cJ cZ h gP gR gQ gT gE gM gS) sz [.ref (h 13), .int b0, .int b1, .int b2, .int b3]) (zQi D (va_A (zWC cI cJ cZ h gP gR gQ gT gE gM gS) sz) (zWC cI cJ cZ h gP u.2.1 u.2.2.1 u.2.2.2 gE gM gS) (u.1)) 0 0 (va_A (zWC cI cJ cZ h gP gR gQ gT gE gM gS) sz)) (gP : tPi) (gR : tPa) (gQ : tPa) (gT : tTr) (gE : tTe) (gM : tMe) (gS : tSq) (a1 : Int32) (a2 : Int32) (a3 : Int32) (a4 : Int32) (a5 : Int32) (u : Int32 × tPa × tPa × tTr) (hf : X6_growSide N rc gP gR gQ gT a1 a2 a3 a4 a5 = some u) (sz : Nat) : Met l yX6_growSide (Cond.code yX6_growSide cX6_growSide 8 (some .int) :: tb_L) ({ frames := f + 3, cells := 0, slots := 0, locals := lo + 80 } : Room) (zPre D (zty cI cJ cZ) (zWC cI cJ cZ h gP gR gQ gT gE gM gS) sz [.ref (h 13), .int a1, .int a2, .int a3, .int a4, .int a5]) (zQi D (va_A (zWC cI cJ cZ h gP gR gQ gT gE gM gS) sz) (zWC cI cJ cZ h gP u.2.1 u.2.2.1 u.2.2.2 gE gM gS) (u.1)) 0 0 (va_A (zWC cI cJ cZ h gP gR gQ gT gE gM gS) sz) := by
  refine zMet (Qc := fun A => zQi D A (zWC cI cJ cZ h gP u.2.1 u.2.2.1 u.2.2.2 gE gM gS) (u.1)) (by decide) rfl (Nat.le_of_ble_eq_true rfl) ?_
  intro p e s m args below meth c A ls hC _ hP hD hS hl
  replace hl : lv_has ls 8 [(0, .ref (h 13)), (1, .int a1), (2, .int a2), (3, .int a3), (4, .int a4), (5, .int a5)] := hl
  obtain ⟨hx, hb, hml, hown, hts, hK, hr, hlocks, hA⟩ := id hC
  unfold X6_growSide at hf
  obtain ⟨H, hH⟩ : ∃ H, H = s.heap := ⟨_, rfl⟩
  rw [← hH] at hP
  replace hS : va_S A s.heap H [] := by rw [hH]; exact hS
  show W p l e _ s m args below meth c s.heap [] 0 0 _ _
  rw [← hH]
  clear hH
  obtain ⟨locs, hlo⟩ : ∃ x : List Loc, x = [] := ⟨_, rfl⟩
  rw [← hlo] at hS ⊢
  clear hlo
  refine lv_aload_n hx hb dX6_growSide_0 rfl (lv_at hl 0 rfl) ?_
  refine va_get (D := D) (ci := 6) (v := .ref (h 6)) (C := RX6) (T := TX6) (N := 17) hx hb hts tb_wsX60 hown hK.1 hP 13 rfl rfl 14 (by decide) (hts _ tb_4_3) (fun _ h9 => h9) rfl dX6_growSide_1 ?_
  refine va_get (D := D) (ci := 0) (v := .ref (h 7)) (C := RX0) (T := TX0) (N := 2) hx hb hts tb_wsX00 hown hK.1 hP 6 rfl rfl 0 (by decide) (hts _ tb_11_0) (fun _ h9 => h9) rfl dX6_growSide_4 ?_
  refine va_get (D := D) (ci := 2) (v := .int (tPa.size gR)) (C := RX2) (T := TX2) (N := 6) hx hb hts tb_wsX20 hown hK.1 hP 7 rfl rfl 5 (by decide) (hts _ tb_7_17) (fun _ h9 => h9) rfl dX6_growSide_7 ?_
  refine lv_topi (fun x1 ex1 => ?_)
  replace hf := zl_n ex1 hf
  refine lv_istore (lv' := [(6, .int x1), (0, .ref (h 13)), (1, .int a1), (2, .int a2), (3, .int a3), (4, .int a4), (5, .int a5)]) hx hb dX6_growSide_10 hl (by decide) rfl (fun ls hl => ?_)
  refine lv_aload_n hx hb dX6_growSide_12 rfl (lv_at hl 1 rfl) ?_
  refine va_get (D := D) (ci := 6) (v := .ref (h 6)) (C := RX6) (T := TX6) (N := 17) hx hb hts tb_wsX60 hown hK.1 hP 13 rfl rfl 14 (by decide) (hts _ tb_4_3) (fun _ h9 => h9) rfl dX6_growSide_13 ?_
  refine lv_iload_n hx hb dX6_growSide_16 rfl (lv_at hl 2 rfl) ?_
  refine lv_iload_n hx hb dX6_growSide_17 rfl (lv_at hl 3 rfl) ?_
  refine lv_aload_n hx hb dX6_growSide_18 rfl (lv_at hl 1 rfl) ?_
  refine va_get (D := D) (ci := 6) (v := .ref (h 14)) (C := RX6) (T := TX6) (N := 17) hx hb hts tb_wsX60 hown hK.1 hP 13 rfl rfl 0 (by decide) (hts _ tb_3_17) (fun _ h9 => h9) rfl dX6_growSide_19 ?_
  refine lv_iload_n hx hb dX6_growSide_22 rfl (lv_at hl 4 rfl) ?_
  obtain ⟨h2, hf⟩ := zck_s hf
  refine va_iald hx hb hK.1 hP 14 0 rfl rfl h2 dX6_growSide_23 ?_
  refine lv_iload hx hb dX6_growSide_24 (lv_at hl 5 rfl) ?_
  obtain ⟨u3, hu3, hf⟩ := zbd hf
  refine zthen_v hA hD hS (zrunV (As := [.int a1, .int a2, .int ((tTr.line gT) a3.toNatClampNeg), .int a4]) (rest := []) hC hP hD 6 rfl rfl (c_X0_addSideRow l D cI cJ cZ h N gP gR gQ gT gE gM gS a1 a2 ((tTr.line gT) a3.toNatClampNeg) a4 u3 hu3 H.size) kRX6_109 rfl rfl ⟨by dsimp only; omega, by dsimp only; omega⟩ rfl hl.1 rfl (Nat.le_of_ble_eq_true rfl) dX6_growSide_26) (fun H locs hP hD hS => ?_)
  refine lv_aload_n hx hb dX6_growSide_29 rfl (lv_at hl 1 rfl) ?_
  refine lv_iload hx hb dX6_growSide_30 (lv_at hl 0 rfl) ?_
  refine lv_aload_n hx hb dX6_growSide_32 rfl (lv_at hl 1 rfl) ?_
  refine va_get (D := D) (ci := 6) (v := .ref (h 6)) (C := RX6) (T := TX6) (N := 17) hx hb hts tb_wsX60 hown hK.1 hP 13 rfl rfl 14 (by decide) (hts _ tb_4_3) (fun _ h9 => h9) rfl dX6_growSide_33 ?_
  refine va_get (D := D) (ci := 0) (v := .ref (h 7)) (C := RX0) (T := TX0) (N := 2) hx hb hts tb_wsX00 hown hK.1 hP 6 rfl rfl 0 (by decide) (hts _ tb_11_0) (fun _ h9 => h9) rfl dX6_growSide_36 ?_
  refine va_get (D := D) (ci := 2) (v := .int (tPa.size u3)) (C := RX2) (T := TX2) (N := 6) hx hb hts tb_wsX20 hown hK.1 hP 7 rfl rfl 5 (by decide) (hts _ tb_7_17) (fun _ h9 => h9) rfl dX6_growSide_39 ?_
  refine lv_iload_n hx hb dX6_growSide_42 rfl (lv_at hl 4 rfl) ?_
  refine lv_iload hx hb dX6_growSide_43 (lv_at hl 6 rfl) ?_
  refine lv_iconst (v := 1) hx hb dX6_growSide_45 (by decide) ?_
  refine lv_iadd hx hb dX6_growSide_46 ?_
  obtain ⟨u4, hu4, hf⟩ := zbd hf
  refine zthen_i hA hD hS (zrunV (As := [.int x1, .int (tPa.size u3), .int a3, .int (a5 + (1 : Int32))]) (rest := []) hC hP hD 13 rfl rfl (hrc gP u3 gQ gT gE gM gS x1 (tPa.size u3) a3 (a5 + (1 : Int32)) u4 hu4 H.size) kRX6_82 rfl rfl ⟨by dsimp only; omega, by dsimp only; omega⟩ rfl hl.1 rfl (Nat.le_of_ble_eq_true rfl) dX6_growSide_47) (fun H locs hP hD hS => ?_)
  refine lv_istore (lv' := [(7, .int u4.1), (6, .int x1), (0, .ref (h 13)), (1, .int a1), (2, .int a2), (3, .int a3), (4, .int a4), (5, .int a5)]) hx hb dX6_growSide_50 hl (by decide) rfl (fun ls hl => ?_)
  refine lv_aload_n hx hb dX6_growSide_52 rfl (lv_at hl 2 rfl) ?_
  refine va_get (D := D) (ci := 6) (v := .ref (h 6)) (C := RX6) (T := TX6) (N := 17) hx hb hts tb_wsX60 hown hK.1 hP 13 rfl rfl 14 (by decide) (hts _ tb_4_3) (fun _ h9 => h9) rfl dX6_growSide_53 ?_
  refine va_get (D := D) (ci := 0) (v := .ref (h 7)) (C := RX0) (T := TX0) (N := 2) hx hb hts tb_wsX00 hown hK.1 hP 6 rfl rfl 0 (by decide) (hts _ tb_11_0) (fun _ h9 => h9) rfl dX6_growSide_56 ?_
  refine lv_iload hx hb dX6_growSide_59 (lv_at hl 1 rfl) ?_
  refine va_put (D := D) (ci := 2) (v := .int x1) (ty := .int) (C := RX2) (T := TX2) (N := 6) hx hb hts tb_wsX20 tyX2 tyX2_ok nmX2 hown hK.1 hP hD hS 7 rfl rfl 5 (by decide) (hts _ tb_7_17) (fun _ h9 => h9) rfl (by decide +kernel) rfl rfl (Nat.le_of_ble_eq_true rfl) dX6_growSide_61 (fun H locs hP hD hS => ?_)
  replace hP : va_P D vwCl (zWC cI cJ cZ h gP (tPa.s_size u4.2.1 x1) u4.2.2.1 u4.2.2.2 gE gM gS) H := hP
  replace hD : va_D A (zWC cI cJ cZ h gP (tPa.s_size u4.2.1 x1) u4.2.2.1 u4.2.2.2 gE gM gS) := hD
  refine lv_iload hx hb dX6_growSide_64 (lv_at hl 0 rfl) ?_
  have hu := Option.some.inj hf
  subst hu
  exact z_iret hC hP hD hS dX6_growSide_66
set_option maxHeartbeats 4000000 in
set_option maxRecDepth 100000 in
theorem c_X2_add_Q (l : Launch) (D : va_G) (cI cJ cZ : ClassId) (h : Nat → Nat) (gP : tPi) (gR : tPa) (gQ : tPa) (gT : tTr) (gE : tTe) (gM : tMe) (gS : tSq) (a1 : Int32) (a2 : Int32) (a3 : Int32) (a4 : Int32) (a5 : Int32) (u : tPa) (hf : X2_add_Q gQ a1 a2 a3 a4 a5 = some u) (sz : Nat) : Met l yX2_add (Cond.code yX2_add cX2_add 6 none :: tb_L) ({ frames := 0, cells := 0, slots := 0, locals := 0 } : Room) (zPre D (zty cI cJ cZ) (zWC cI cJ cZ h gP gR gQ gT gE gM gS) sz [.ref (h 20), .int a1, .int a2, .int a3, .int a4, .int a5]) (zQv D (va_A (zWC cI cJ cZ h gP gR gQ gT gE gM gS) sz) (zWC cI cJ cZ h gP gR u gT gE gM gS)) 0 0 (va_A (zWC cI cJ cZ h gP gR gQ gT gE gM gS) sz) := by
  refine zMet (Qc := fun A => zQv D A (zWC cI cJ cZ h gP gR u gT gE gM gS)) (by decide) rfl (Nat.le_of_ble_eq_true rfl) ?_
  intro p e s m args below meth c A ls hC _ hP hD hS hl
  replace hl : lv_has ls 6 [(0, .ref (h 20)), (1, .int a1), (2, .int a2), (3, .int a3), (4, .int a4), (5, .int a5)] := hl
  obtain ⟨hx, hb, hml, hown, hts, hK, hr, hlocks, hA⟩ := id hC
  unfold X2_add_Q at hf
  obtain ⟨H, hH⟩ : ∃ H, H = s.heap := ⟨_, rfl⟩
  rw [← hH] at hP
  replace hS : va_S A s.heap H [] := by rw [hH]; exact hS
  show W p l e _ s m args below meth c s.heap [] 0 0 _ _
  rw [← hH]
  clear hH
  obtain ⟨locs, hlo⟩ : ∃ x : List Loc, x = [] := ⟨_, rfl⟩
  rw [← hlo] at hS ⊢
  clear hlo
  refine lv_aload_n hx hb dX2_add_0 rfl (lv_at hl 0 rfl) ?_
  refine va_get (D := D) (ci := 2) (v := .int (tPa.size gQ)) (C := RX2) (T := TX2) (N := 6) hx hb hts tb_wsX20 hown hK.1 hP 20 rfl rfl 5 (by decide) (hts _ tb_10_0) (fun _ h9 => h9) rfl dX2_add_1 ?_
  refine lv_sipush (v := 300) hx hb dX2_add_4 (by decide) ?_
  refine lv_icmp_lt (tgt := 11) hx hb dX2_add_7 (by decide) (fun c1 => ?_) (fun c1 => ?_)
  · replace hf := zif_t hf c1
    refine lv_aload_n hx hb dX2_add_11 rfl (lv_at hl 0 rfl) ?_
    refine va_get (D := D) (ci := 2) (v := .ref (h 21)) (C := RX2) (T := TX2) (N := 6) hx hb hts tb_wsX20 hown hK.1 hP 20 rfl rfl 0 (by decide) (hts _ tb_3_8) (fun _ h9 => h9) rfl dX2_add_12 ?_
    refine lv_aload_n hx hb dX2_add_15 rfl (lv_at hl 0 rfl) ?_
    refine va_get (D := D) (ci := 2) (v := .int (tPa.size gQ)) (C := RX2) (T := TX2) (N := 6) hx hb hts tb_wsX20 hown hK.1 hP 20 rfl rfl 5 (by decide) (hts _ tb_10_0) (fun _ h9 => h9) rfl dX2_add_16 ?_
    refine lv_iload_n hx hb dX2_add_19 rfl (lv_at hl 1 rfl) ?_
    obtain ⟨h2, hf⟩ := zck_s hf
    refine va_iast hx hb hK.1 hP hD hS 21 0 rfl rfl h2 dX2_add_20 (fun H locs hP hD hS => ?_)
    replace hP : va_P D vwCl (zWC cI cJ cZ h gP gR (tPa.s_owner gQ (upd (tPa.owner gQ) (tPa.size gQ).toNatClampNeg a1)) gT gE gM gS) H := hP
    replace hD : va_D A (zWC cI cJ cZ h gP gR (tPa.s_owner gQ (upd (tPa.owner gQ) (tPa.size gQ).toNatClampNeg a1)) gT gE gM gS) := hD
    refine lv_aload_n hx hb dX2_add_21 rfl (lv_at hl 0 rfl) ?_
    refine va_get (D := D) (ci := 2) (v := .ref (h 22)) (C := RX2) (T := TX2) (N := 6) hx hb hts tb_wsX20 hown hK.1 hP 20 rfl rfl 1 (by decide) (hts _ tb_3_9) (fun _ h9 => h9) rfl dX2_add_22 ?_
    refine lv_aload_n hx hb dX2_add_25 rfl (lv_at hl 0 rfl) ?_
    refine va_get (D := D) (ci := 2) (v := .int (tPa.size gQ)) (C := RX2) (T := TX2) (N := 6) hx hb hts tb_wsX20 hown hK.1 hP 20 rfl rfl 5 (by decide) (hts _ tb_10_0) (fun _ h9 => h9) rfl dX2_add_26 ?_
    refine lv_iload_n hx hb dX2_add_29 rfl (lv_at hl 2 rfl) ?_
    obtain ⟨h3, hf⟩ := zck_s hf
    refine va_iast hx hb hK.1 hP hD hS 22 0 rfl rfl h3 dX2_add_30 (fun H locs hP hD hS => ?_)
    replace hP : va_P D vwCl (zWC cI cJ cZ h gP gR (tPa.s_n0 (tPa.s_owner gQ (upd (tPa.owner gQ) (tPa.size gQ).toNatClampNeg a1)) (upd (tPa.n0 gQ) (tPa.size gQ).toNatClampNeg a2)) gT gE gM gS) H := hP
    replace hD : va_D A (zWC cI cJ cZ h gP gR (tPa.s_n0 (tPa.s_owner gQ (upd (tPa.owner gQ) (tPa.size gQ).toNatClampNeg a1)) (upd (tPa.n0 gQ) (tPa.size gQ).toNatClampNeg a2)) gT gE gM gS) := hD
    refine lv_aload_n hx hb dX2_add_31 rfl (lv_at hl 0 rfl) ?_
    refine va_get (D := D) (ci := 2) (v := .ref (h 23)) (C := RX2) (T := TX2) (N := 6) hx hb hts tb_wsX20 hown hK.1 hP 20 rfl rfl 2 (by decide) (hts _ tb_3_10) (fun _ h9 => h9) rfl dX2_add_32 ?_
    refine lv_aload_n hx hb dX2_add_35 rfl (lv_at hl 0 rfl) ?_
    refine va_get (D := D) (ci := 2) (v := .int (tPa.size gQ)) (C := RX2) (T := TX2) (N := 6) hx hb hts tb_wsX20 hown hK.1 hP 20 rfl rfl 5 (by decide) (hts _ tb_10_0) (fun _ h9 => h9) rfl dX2_add_36 ?_
    refine lv_iload_n hx hb dX2_add_39 rfl (lv_at hl 3 rfl) ?_
    obtain ⟨h4, hf⟩ := zck_s hf
    refine va_iast hx hb hK.1 hP hD hS 23 0 rfl rfl h4 dX2_add_40 (fun H locs hP hD hS => ?_)
    replace hP : va_P D vwCl (zWC cI cJ cZ h gP gR (tPa.s_d0 (tPa.s_n0 (tPa.s_owner gQ (upd (tPa.owner gQ) (tPa.size gQ).toNatClampNeg a1)) (upd (tPa.n0 gQ) (tPa.size gQ).toNatClampNeg a2)) (upd (tPa.d0 gQ) (tPa.size gQ).toNatClampNeg a3)) gT gE gM gS) H := hP
    replace hD : va_D A (zWC cI cJ cZ h gP gR (tPa.s_d0 (tPa.s_n0 (tPa.s_owner gQ (upd (tPa.owner gQ) (tPa.size gQ).toNatClampNeg a1)) (upd (tPa.n0 gQ) (tPa.size gQ).toNatClampNeg a2)) (upd (tPa.d0 gQ) (tPa.size gQ).toNatClampNeg a3)) gT gE gM gS) := hD
    refine lv_aload_n hx hb dX2_add_41 rfl (lv_at hl 0 rfl) ?_
    refine va_get (D := D) (ci := 2) (v := .ref (h 24)) (C := RX2) (T := TX2) (N := 6) hx hb hts tb_wsX20 hown hK.1 hP 20 rfl rfl 3 (by decide) (hts _ tb_3_11) (fun _ h9 => h9) rfl dX2_add_42 ?_
    refine lv_aload_n hx hb dX2_add_45 rfl (lv_at hl 0 rfl) ?_
    refine va_get (D := D) (ci := 2) (v := .int (tPa.size gQ)) (C := RX2) (T := TX2) (N := 6) hx hb hts tb_wsX20 hown hK.1 hP 20 rfl rfl 5 (by decide) (hts _ tb_10_0) (fun _ h9 => h9) rfl dX2_add_46 ?_
    refine lv_iload hx hb dX2_add_49 (lv_at hl 4 rfl) ?_
    obtain ⟨h5, hf⟩ := zck_s hf
    refine va_iast hx hb hK.1 hP hD hS 24 0 rfl rfl h5 dX2_add_51 (fun H locs hP hD hS => ?_)
    replace hP : va_P D vwCl (zWC cI cJ cZ h gP gR (tPa.s_n1 (tPa.s_d0 (tPa.s_n0 (tPa.s_owner gQ (upd (tPa.owner gQ) (tPa.size gQ).toNatClampNeg a1)) (upd (tPa.n0 gQ) (tPa.size gQ).toNatClampNeg a2)) (upd (tPa.d0 gQ) (tPa.size gQ).toNatClampNeg a3)) (upd (tPa.n1 gQ) (tPa.size gQ).toNatClampNeg a4)) gT gE gM gS) H := hP
    replace hD : va_D A (zWC cI cJ cZ h gP gR (tPa.s_n1 (tPa.s_d0 (tPa.s_n0 (tPa.s_owner gQ (upd (tPa.owner gQ) (tPa.size gQ).toNatClampNeg a1)) (upd (tPa.n0 gQ) (tPa.size gQ).toNatClampNeg a2)) (upd (tPa.d0 gQ) (tPa.size gQ).toNatClampNeg a3)) (upd (tPa.n1 gQ) (tPa.size gQ).toNatClampNeg a4)) gT gE gM gS) := hD
    refine lv_aload_n hx hb dX2_add_52 rfl (lv_at hl 0 rfl) ?_
    refine va_get (D := D) (ci := 2) (v := .ref (h 25)) (C := RX2) (T := TX2) (N := 6) hx hb hts tb_wsX20 hown hK.1 hP 20 rfl rfl 4 (by decide) (hts _ tb_3_12) (fun _ h9 => h9) rfl dX2_add_53 ?_
    refine lv_aload_n hx hb dX2_add_56 rfl (lv_at hl 0 rfl) ?_
    refine va_get (D := D) (ci := 2) (v := .int (tPa.size gQ)) (C := RX2) (T := TX2) (N := 6) hx hb hts tb_wsX20 hown hK.1 hP 20 rfl rfl 5 (by decide) (hts _ tb_10_0) (fun _ h9 => h9) rfl dX2_add_57 ?_
    refine lv_iload hx hb dX2_add_60 (lv_at hl 5 rfl) ?_
    obtain ⟨h6, hf⟩ := zck_s hf
    refine va_iast hx hb hK.1 hP hD hS 25 0 rfl rfl h6 dX2_add_62 (fun H locs hP hD hS => ?_)
    replace hP : va_P D vwCl (zWC cI cJ cZ h gP gR (tPa.s_d1 (tPa.s_n1 (tPa.s_d0 (tPa.s_n0 (tPa.s_owner gQ (upd (tPa.owner gQ) (tPa.size gQ).toNatClampNeg a1)) (upd (tPa.n0 gQ) (tPa.size gQ).toNatClampNeg a2)) (upd (tPa.d0 gQ) (tPa.size gQ).toNatClampNeg a3)) (upd (tPa.n1 gQ) (tPa.size gQ).toNatClampNeg a4)) (upd (tPa.d1 gQ) (tPa.size gQ).toNatClampNeg a5)) gT gE gM gS) H := hP
    replace hD : va_D A (zWC cI cJ cZ h gP gR (tPa.s_d1 (tPa.s_n1 (tPa.s_d0 (tPa.s_n0 (tPa.s_owner gQ (upd (tPa.owner gQ) (tPa.size gQ).toNatClampNeg a1)) (upd (tPa.n0 gQ) (tPa.size gQ).toNatClampNeg a2)) (upd (tPa.d0 gQ) (tPa.size gQ).toNatClampNeg a3)) (upd (tPa.n1 gQ) (tPa.size gQ).toNatClampNeg a4)) (upd (tPa.d1 gQ) (tPa.size gQ).toNatClampNeg a5)) gT gE gM gS) := hD
    refine lv_aload_n hx hb dX2_add_63 rfl (lv_at hl 0 rfl) ?_
    refine lv_dup hx hb dX2_add_64 rfl ?_
    refine va_get (D := D) (ci := 2) (v := .int (tPa.size gQ)) (C := RX2) (T := TX2) (N := 6) hx hb hts tb_wsX20 hown hK.1 hP 20 rfl rfl 5 (by decide) (hts _ tb_10_0) (fun _ h9 => h9) rfl dX2_add_65 ?_
    refine lv_iconst (v := 1) hx hb dX2_add_68 (by decide) ?_
    refine lv_iadd hx hb dX2_add_69 ?_
    refine va_put (D := D) (ci := 2) (v := .int ((tPa.size gQ) + (1 : Int32))) (ty := .int) (C := RX2) (T := TX2) (N := 6) hx hb hts tb_wsX20 tyX2 tyX2_ok nmX2 hown hK.1 hP hD hS 20 rfl rfl 5 (by decide) (hts _ tb_10_0) (fun _ h9 => h9) rfl (by decide +kernel) rfl rfl (Nat.le_of_ble_eq_true rfl) dX2_add_70 (fun H locs hP hD hS => ?_)
    replace hP : va_P D vwCl (zWC cI cJ cZ h gP gR (tPa.s_size (tPa.s_d1 (tPa.s_n1 (tPa.s_d0 (tPa.s_n0 (tPa.s_owner gQ (upd (tPa.owner gQ) (tPa.size gQ).toNatClampNeg a1)) (upd (tPa.n0 gQ) (tPa.size gQ).toNatClampNeg a2)) (upd (tPa.d0 gQ) (tPa.size gQ).toNatClampNeg a3)) (upd (tPa.n1 gQ) (tPa.size gQ).toNatClampNeg a4)) (upd (tPa.d1 gQ) (tPa.size gQ).toNatClampNeg a5)) ((tPa.size gQ) + (1 : Int32))) gT gE gM gS) H := hP
    replace hD : va_D A (zWC cI cJ cZ h gP gR (tPa.s_size (tPa.s_d1 (tPa.s_n1 (tPa.s_d0 (tPa.s_n0 (tPa.s_owner gQ (upd (tPa.owner gQ) (tPa.size gQ).toNatClampNeg a1)) (upd (tPa.n0 gQ) (tPa.size gQ).toNatClampNeg a2)) (upd (tPa.d0 gQ) (tPa.size gQ).toNatClampNeg a3)) (upd (tPa.n1 gQ) (tPa.size gQ).toNatClampNeg a4)) (upd (tPa.d1 gQ) (tPa.size gQ).toNatClampNeg a5)) ((tPa.size gQ) + (1 : Int32))) gT gE gM gS) := hD
    have hu := Option.some.inj hf
    subst hu
    exact z_vret hC hP hD hS dX2_add_73
  · replace hf := zif_f hf c1
    have hu := Option.some.inj hf
    subst hu
    exact z_vret hC hP hD hS dX2_add_10
set_option maxHeartbeats 4000000 in
set_option maxRecDepth 100000 in
theorem c_X2_addCopy_QR (l : Launch) (D : va_G) (cI cJ cZ : ClassId) (h : Nat → Nat) (gP : tPi) (gR : tPa) (gQ : tPa) (gT : tTr) (gE : tTe) (gM : tMe) (gS : tSq) (a2 : Int32) (u : tPa) (hf : X2_addCopy_QR gR gQ a2 = some u) (sz : Nat) : Met l yX2_addCopy (Cond.code yX2_addCopy cX2_addCopy 3 none :: tb_L) ({ frames := 1, cells := 0, slots := 0, locals := 25 } : Room) (zPre D (zty cI cJ cZ) (zWC cI cJ cZ h gP gR gQ gT gE gM gS) sz [.ref (h 20), .ref (h 7), .int a2]) (zQv D (va_A (zWC cI cJ cZ h gP gR gQ gT gE gM gS) sz) (zWC cI cJ cZ h gP gR u gT gE gM gS)) 0 0 (va_A (zWC cI cJ cZ h gP gR gQ gT gE gM gS) sz) := by
  refine zMet (Qc := fun A => zQv D A (zWC cI cJ cZ h gP gR u gT gE gM gS)) (by decide) rfl (Nat.le_of_ble_eq_true rfl) ?_
  intro p e s m args below meth c A ls hC _ hP hD hS hl
  replace hl : lv_has ls 3 [(0, .ref (h 20)), (1, .ref (h 7)), (2, .int a2)] := hl
  obtain ⟨hx, hb, hml, hown, hts, hK, hr, hlocks, hA⟩ := id hC
  unfold X2_addCopy_QR at hf
  obtain ⟨H, hH⟩ : ∃ H, H = s.heap := ⟨_, rfl⟩
  rw [← hH] at hP
  replace hS : va_S A s.heap H [] := by rw [hH]; exact hS
  show W p l e _ s m args below meth c s.heap [] 0 0 _ _
  rw [← hH]
  clear hH
  obtain ⟨locs, hlo⟩ : ∃ x : List Loc, x = [] := ⟨_, rfl⟩
  rw [← hlo] at hS ⊢
  clear hlo
  refine lv_aload_n hx hb dX2_addCopy_0 rfl (lv_at hl 0 rfl) ?_
  refine lv_aload_n hx hb dX2_addCopy_1 rfl (lv_at hl 1 rfl) ?_
  refine va_get (D := D) (ci := 2) (v := .ref (h 8)) (C := RX2) (T := TX2) (N := 6) hx hb hts tb_wsX20 hown hK.1 hP 7 rfl rfl 0 (by decide) (hts _ tb_3_8) (fun _ h9 => h9) rfl dX2_addCopy_2 ?_
  refine lv_iload_n hx hb dX2_addCopy_5 rfl (lv_at hl 2 rfl) ?_
  obtain ⟨h1, hf⟩ := zck_s hf
  refine va_iald hx hb hK.1 hP 8 0 rfl rfl h1 dX2_addCopy_6 ?_
  refine lv_aload_n hx hb dX2_addCopy_7 rfl (lv_at hl 1 rfl) ?_
  refine va_get (D := D) (ci := 2) (v := .ref (h 9)) (C := RX2) (T := TX2) (N := 6) hx hb hts tb_wsX20 hown hK.1 hP 7 rfl rfl 1 (by decide) (hts _ tb_3_9) (fun _ h9 => h9) rfl dX2_addCopy_8 ?_
  refine lv_iload_n hx hb dX2_addCopy_11 rfl (lv_at hl 2 rfl) ?_
  obtain ⟨h2, hf⟩ := zck_s hf
  refine va_iald hx hb hK.1 hP 9 0 rfl rfl h2 dX2_addCopy_12 ?_
  refine lv_aload_n hx hb dX2_addCopy_13 rfl (lv_at hl 1 rfl) ?_
  refine va_get (D := D) (ci := 2) (v := .ref (h 10)) (C := RX2) (T := TX2) (N := 6) hx hb hts tb_wsX20 hown hK.1 hP 7 rfl rfl 2 (by decide) (hts _ tb_3_10) (fun _ h9 => h9) rfl dX2_addCopy_14 ?_
  refine lv_iload_n hx hb dX2_addCopy_17 rfl (lv_at hl 2 rfl) ?_
  obtain ⟨h3, hf⟩ := zck_s hf
  refine va_iald hx hb hK.1 hP 10 0 rfl rfl h3 dX2_addCopy_18 ?_
  refine lv_aload_n hx hb dX2_addCopy_19 rfl (lv_at hl 1 rfl) ?_
  refine va_get (D := D) (ci := 2) (v := .ref (h 11)) (C := RX2) (T := TX2) (N := 6) hx hb hts tb_wsX20 hown hK.1 hP 7 rfl rfl 3 (by decide) (hts _ tb_3_11) (fun _ h9 => h9) rfl dX2_addCopy_20 ?_
  refine lv_iload_n hx hb dX2_addCopy_23 rfl (lv_at hl 2 rfl) ?_
  obtain ⟨h4, hf⟩ := zck_s hf
  refine va_iald hx hb hK.1 hP 11 0 rfl rfl h4 dX2_addCopy_24 ?_
  refine lv_aload_n hx hb dX2_addCopy_25 rfl (lv_at hl 1 rfl) ?_
  refine va_get (D := D) (ci := 2) (v := .ref (h 12)) (C := RX2) (T := TX2) (N := 6) hx hb hts tb_wsX20 hown hK.1 hP 7 rfl rfl 4 (by decide) (hts _ tb_3_12) (fun _ h9 => h9) rfl dX2_addCopy_26 ?_
  refine lv_iload_n hx hb dX2_addCopy_29 rfl (lv_at hl 2 rfl) ?_
  obtain ⟨h5, hf⟩ := zck_s hf
  refine va_iald hx hb hK.1 hP 12 0 rfl rfl h5 dX2_addCopy_30 ?_
  obtain ⟨u6, hu6, hf⟩ := zbd hf
  refine zthen_v hA hD hS (zrunV (As := [.int ((tPa.owner gR) a2.toNatClampNeg), .int ((tPa.n0 gR) a2.toNatClampNeg), .int ((tPa.d0 gR) a2.toNatClampNeg), .int ((tPa.n1 gR) a2.toNatClampNeg), .int ((tPa.d1 gR) a2.toNatClampNeg)]) (rest := []) hC hP hD 20 rfl rfl (c_X2_add_Q l D cI cJ cZ h  gP gR gQ gT gE gM gS ((tPa.owner gR) a2.toNatClampNeg) ((tPa.n0 gR) a2.toNatClampNeg) ((tPa.d0 gR) a2.toNatClampNeg) ((tPa.n1 gR) a2.toNatClampNeg) ((tPa.d1 gR) a2.toNatClampNeg) u6 hu6 H.size) kRX2_27 rfl rfl ⟨by decide, by decide⟩ rfl hl.1 rfl (Nat.le_of_ble_eq_true rfl) dX2_addCopy_31) (fun H locs hP hD hS => ?_)
  have hu := Option.some.inj hf
  subst hu
  exact z_vret hC hP hD hS dX2_addCopy_34
set_option maxHeartbeats 4000000 in
set_option maxRecDepth 100000 in
theorem t_X6_hold_b88 {p : Program} {l : Launch} {e : Env} {s : State} {m : MethodId} {args : Array Value} {below : List Frame} {meth : Method} {c : Code} {A : Nat → Prop} {D : va_G} {cI cJ cZ : ClassId} {h : Nat → Nat} (hC : zCx p s m args meth c A D (zty cI cJ cZ) cX6_hold RX6 5 none) (N : Nat) (gP : tPi) (gR : tPa) (gE : tTe) (gM : tMe) (gS : tSq) (u : tPa × tTr) : ∀ (gQ : tPa) (gT : tTr) (v1 : Int32) (H : Heap) (locs : List Loc) (ls : Array Slot), va_P D vwCl (zWC cI cJ cZ h gP gR gQ gT gE gM gS) H → va_D A (zWC cI cJ cZ h gP gR gQ gT gE gM gS) → va_S A s.heap H locs → lv_has ls 5 [(0, .ref (h 13)), (1, .int v1)] → X6_hold_b88 N gP gR gQ gT v1 = some u → W p l e ({ frames := 2, cells := 0, slots := 0, locals := 50 } : Room) s m args below meth c H locs 0 0 (MQ below (zQv D A (zWC cI cJ cZ h gP gR u.1 u.2 gE gM gS)) args s 0 0 A) (F0 m 88 ls []) := by
  intro gQ gT v1 H locs ls hP hD hS hl hf
  obtain ⟨hx, hb, hml, hown, hts, hK, hr, hlocks, hA⟩ := id hC
  unfold X6_hold_b88 at hf
  refine lv_aload_n hx hb dX6_hold_88 rfl (lv_at hl 0 rfl) ?_
  refine va_get (D := D) (ci := 6) (v := .ref (h 15)) (C := RX6) (T := TX6) (N := 17) hx hb hts tb_wsX60 hown hK.1 hP 13 rfl rfl 1 (by decide) (hts _ tb_3_18) (fun _ h9 => h9) rfl dX6_hold_89 ?_
  refine lv_iload_n hx hb dX6_hold_92 rfl (lv_at hl 1 rfl) ?_
  refine lv_aload_n hx hb dX6_hold_93 rfl (lv_at hl 0 rfl) ?_
  refine va_get (D := D) (ci := 6) (v := .ref (h 20)) (C := RX6) (T := TX6) (N := 17) hx hb hts tb_wsX60 hown hK.1 hP 13 rfl rfl 6 (by decide) (hts _ tb_4_0) (fun _ h9 => h9) rfl dX6_hold_94 ?_
  refine va_get (D := D) (ci := 2) (v := .int (tPa.size gQ)) (C := RX2) (T := TX2) (N := 6) hx hb hts tb_wsX20 hown hK.1 hP 20 rfl rfl 5 (by decide) (hts _ tb_7_17) (fun _ h9 => h9) rfl dX6_hold_97 ?_
  refine lv_aload_n hx hb dX6_hold_100 rfl (lv_at hl 0 rfl) ?_
  refine va_get (D := D) (ci := 6) (v := .ref (h 16)) (C := RX6) (T := TX6) (N := 17) hx hb hts tb_wsX60 hown hK.1 hP 13 rfl rfl 2 (by decide) (hts _ tb_3_19) (fun _ h9 => h9) rfl dX6_hold_101 ?_
  refine lv_iload_n hx hb dX6_hold_104 rfl (lv_at hl 1 rfl) ?_
  obtain ⟨h1, hf⟩ := zck_s hf
  refine va_iald hx hb hK.1 hP 16 0 rfl rfl h1 dX6_hold_105 ?_
  refine lv_isub hx hb dX6_hold_106 ?_
  obtain ⟨h2, hf⟩ := zck_s hf
  refine va_iast hx hb hK.1 hP hD hS 15 0 rfl rfl h2 dX6_hold_107 (fun H locs hP hD hS => ?_)
  replace hP : va_P D vwCl (zWC cI cJ cZ h gP gR gQ (tTr.s_held gT (upd (tTr.held gT) v1.toNatClampNeg ((tPa.size gQ) - ((tTr.firstHeld gT) v1.toNatClampNeg)))) gE gM gS) H := hP
  replace hD : va_D A (zWC cI cJ cZ h gP gR gQ (tTr.s_held gT (upd (tTr.held gT) v1.toNatClampNeg ((tPa.size gQ) - ((tTr.firstHeld gT) v1.toNatClampNeg)))) gE gM gS) := hD
  have hu := Option.some.inj hf
  subst hu
  exact z_vret hC hP hD hS dX6_hold_108
set_option maxHeartbeats 4000000 in
set_option maxRecDepth 100000 in
theorem t_X6_hold_b82 {p : Program} {l : Launch} {e : Env} {s : State} {m : MethodId} {args : Array Value} {below : List Frame} {meth : Method} {c : Code} {A : Nat → Prop} {D : va_G} {cI cJ cZ : ClassId} {h : Nat → Nat} (hC : zCx p s m args meth c A D (zty cI cJ cZ) cX6_hold RX6 5 none) (N : Nat) {gP : tPi} {gR : tPa} {gE : tTe} {gM : tMe} {gS : tSq} {u : tPa × tTr} (k16 : tPa → tTr → Int32 → Int32 → Int32 → Option (tPa × tTr)) (hk16 : ∀ (gQ : tPa) (gT : tTr) (v1 : Int32) (v3 : Int32) (v4 : Int32) (H : Heap) (locs : List Loc) (ls : Array Slot), va_P D vwCl (zWC cI cJ cZ h gP gR gQ gT gE gM gS) H → va_D A (zWC cI cJ cZ h gP gR gQ gT gE gM gS) → va_S A s.heap H locs → lv_has ls 5 [(0, .ref (h 13)), (1, .int v1), (3, .int v3), (4, .int v4)] → k16 gQ gT v1 v3 v4 = some u → W p l e ({ frames := 2, cells := 0, slots := 0, locals := 50 } : Room) s m args below meth c H locs 0 0 (MQ below (zQv D A (zWC cI cJ cZ h gP gR u.1 u.2 gE gM gS)) args s 0 0 A) (F0 m 16 ls [])) : ∀ (gQ : tPa) (gT : tTr) (v1 : Int32) (v3 : Int32) (v4 : Int32) (H : Heap) (locs : List Loc) (ls : Array Slot), va_P D vwCl (zWC cI cJ cZ h gP gR gQ gT gE gM gS) H → va_D A (zWC cI cJ cZ h gP gR gQ gT gE gM gS) → va_S A s.heap H locs → lv_has ls 5 [(0, .ref (h 13)), (1, .int v1), (3, .int v3), (4, .int v4)] → X6_hold_b82 N k16 gP gR gQ gT v1 v3 v4 = some u → W p l e ({ frames := 2, cells := 0, slots := 0, locals := 50 } : Room) s m args below meth c H locs 0 0 (MQ below (zQv D A (zWC cI cJ cZ h gP gR u.1 u.2 gE gM gS)) args s 0 0 A) (F0 m 82 ls []) := by
  intro gQ gT v1 v3 v4 H locs ls hP hD hS hl hf
  obtain ⟨hx, hb, hml, hown, hts, hK, hr, hlocks, hA⟩ := id hC
  unfold X6_hold_b82 at hf
  refine lv_iinc (v := (v4 + (1 : Int32))) (lv' := [(4, .int (v4 + (1 : Int32))), (0, .ref (h 13)), (1, .int v1), (3, .int v3)]) hx hb dX6_hold_82 hl (k := 3) rfl rfl (by decide) rfl (fun ls hl => ?_)
  refine lv_goto (tgt := 16) hx hb dX6_hold_85 (by decide) ?_
  exact hk16 gQ gT v1 v3 (v4 + (1 : Int32)) H locs ls hP hD hS (lv_sub hl [1, 2, 3, 0] rfl) hf
set_option maxHeartbeats 4000000 in
set_option maxRecDepth 100000 in
theorem t_X6_hold_b16 {p : Program} {l : Launch} {e : Env} {s : State} {m : MethodId} {args : Array Value} {below : List Frame} {meth : Method} {c : Code} {A : Nat → Prop} {D : va_G} {cI cJ cZ : ClassId} {h : Nat → Nat} (hC : zCx p s m args meth c A D (zty cI cJ cZ) cX6_hold RX6 5 none) (N : Nat) (gP : tPi) (gR : tPa) (gE : tTe) (gM : tMe) (gS : tSq) (u : tPa × tTr) : ∀ (n : Nat) (gQ : tPa) (gT : tTr) (v1 : Int32) (v3 : Int32) (v4 : Int32) (H : Heap) (locs : List Loc) (ls : Array Slot), va_P D vwCl (zWC cI cJ cZ h gP gR gQ gT gE gM gS) H → va_D A (zWC cI cJ cZ h gP gR gQ gT gE gM gS) → va_S A s.heap H locs → lv_has ls 5 [(0, .ref (h 13)), (1, .int v1), (3, .int v3), (4, .int v4)] → X6_hold_b16 N gP gR n gQ gT v1 v3 v4 = some u → W p l e ({ frames := 2, cells := 0, slots := 0, locals := 50 } : Room) s m args below meth c H locs 0 0 (MQ below (zQv D A (zWC cI cJ cZ h gP gR u.1 u.2 gE gM gS)) args s 0 0 A) (F0 m 16 ls []) := by
  intro n
  induction n with
  | zero =>
    intro gQ gT v1 v3 v4 H locs ls hP hD hS hl hf
    cases hf
  | succ n ih =>
    intro gQ gT v1 v3 v4 H locs ls hP hD hS hl hf
    obtain ⟨hx, hb, hml, hown, hts, hK, hr, hlocks, hA⟩ := id hC
    rw [X6_hold_b16] at hf
    refine lv_iload hx hb dX6_hold_16 (lv_at hl 3 rfl) ?_
    refine lv_iload_n hx hb dX6_hold_18 rfl (lv_at hl 2 rfl) ?_
    refine lv_icmp_ge (tgt := 88) hx hb dX6_hold_19 (by decide) (fun c3 => ?_) (fun c3 => ?_)
    · replace hf := zif_t hf c3
      exact t_X6_hold_b88 hC N gP gR gE gM gS u gQ gT v1 H locs ls hP hD hS (lv_sub hl [0, 1] rfl) hf
    · replace hf := zif_f hf c3
      refine lv_aload_n hx hb dX6_hold_22 rfl (lv_at hl 0 rfl) ?_
      refine va_get (D := D) (ci := 6) (v := .ref (h 20)) (C := RX6) (T := TX6) (N := 17) hx hb hts tb_wsX60 hown hK.1 hP 13 rfl rfl 6 (by decide) (hts _ tb_4_0) (fun _ h9 => h9) rfl dX6_hold_23 ?_
      refine va_get (D := D) (ci := 2) (v := .int (tPa.size gQ)) (C := RX2) (T := TX2) (N := 6) hx hb hts tb_wsX20 hown hK.1 hP 20 rfl rfl 5 (by decide) (hts _ tb_7_17) (fun _ h9 => h9) rfl dX6_hold_26 ?_
      refine lv_sipush (v := 300) hx hb dX6_hold_29 (by decide) ?_
      refine lv_icmp_ge (tgt := 82) hx hb dX6_hold_32 (by decide) (fun c4 => ?_) (fun c4 => ?_)
      · replace hf := zif_t hf c4
        exact t_X6_hold_b82 hC N (X6_hold_b16 N gP gR n) ih  gQ gT v1 v3 v4 H locs ls hP hD hS (lv_sub hl [0, 1, 2, 3] rfl) hf
      · replace hf := zif_f hf c4
        refine lv_aload_n hx hb dX6_hold_35 rfl (lv_at hl 0 rfl) ?_
        refine va_get (D := D) (ci := 6) (v := .ref (h 6)) (C := RX6) (T := TX6) (N := 17) hx hb hts tb_wsX60 hown hK.1 hP 13 rfl rfl 14 (by decide) (hts _ tb_4_3) (fun _ h9 => h9) rfl dX6_hold_36 ?_
        refine lv_iload hx hb dX6_hold_39 (lv_at hl 3 rfl) ?_
        refine lv_aload_n hx hb dX6_hold_41 rfl (lv_at hl 0 rfl) ?_
        refine va_get (D := D) (ci := 6) (v := .ref (h 14)) (C := RX6) (T := TX6) (N := 17) hx hb hts tb_wsX60 hown hK.1 hP 13 rfl rfl 0 (by decide) (hts _ tb_3_17) (fun _ h9 => h9) rfl dX6_hold_42 ?_
        refine lv_iload_n hx hb dX6_hold_45 rfl (lv_at hl 1 rfl) ?_
        obtain ⟨h5, hf⟩ := zck_s hf
        refine va_iald hx hb hK.1 hP 14 0 rfl rfl h5 dX6_hold_46 ?_
        obtain ⟨u6, hu6, hf⟩ := zbd hf
        refine zthen_i hA hD hS (zrunV (As := [.int v4, .int ((tTr.line gT) v1.toNatClampNeg)]) (rest := []) hC hP hD 6 rfl rfl (c_X0_sides l D cI cJ cZ h  gP gR gQ gT gE gM gS v4 ((tTr.line gT) v1.toNatClampNeg) u6 hu6 H.size) kRX6_113 rfl rfl ⟨by decide, by decide⟩ rfl hl.1 rfl (Nat.le_of_ble_eq_true rfl) dX6_hold_47) (fun H locs hP hD hS => ?_)
        refine lv_if_ne (tgt := 82) hx hb dX6_hold_50 (by decide) (fun c7 => ?_) (fun c7 => ?_)
        · replace hf := zif_f hf c7
          exact t_X6_hold_b82 hC N (X6_hold_b16 N gP gR n) ih  gQ gT v1 v3 v4 H locs ls hP hD hS (lv_sub hl [0, 1, 2, 3] rfl) hf
        · replace hf := zif_t hf c7
          refine lv_aload_n hx hb dX6_hold_53 rfl (lv_at hl 0 rfl) ?_
          refine va_get (D := D) (ci := 6) (v := .ref (h 26)) (C := RX6) (T := TX6) (N := 17) hx hb hts tb_wsX60 hown hK.1 hP 13 rfl rfl 7 (by decide) (hts _ tb_4_1) (fun _ h9 => h9) rfl dX6_hold_54 ?_
          refine lv_aload_n hx hb dX6_hold_57 rfl (lv_at hl 0 rfl) ?_
          refine va_get (D := D) (ci := 6) (v := .ref (h 20)) (C := RX6) (T := TX6) (N := 17) hx hb hts tb_wsX60 hown hK.1 hP 13 rfl rfl 6 (by decide) (hts _ tb_4_0) (fun _ h9 => h9) rfl dX6_hold_58 ?_
          refine va_get (D := D) (ci := 2) (v := .int (tPa.size gQ)) (C := RX2) (T := TX2) (N := 6) hx hb hts tb_wsX20 hown hK.1 hP 20 rfl rfl 5 (by decide) (hts _ tb_7_17) (fun _ h9 => h9) rfl dX6_hold_61 ?_
          refine lv_iload_n hx hb dX6_hold_64 rfl (lv_at hl 1 rfl) ?_
          obtain ⟨h8, hf⟩ := zck_s hf
          refine va_iast hx hb hK.1 hP hD hS 26 0 rfl rfl h8 dX6_hold_65 (fun H locs hP hD hS => ?_)
          replace hP : va_P D vwCl (zWC cI cJ cZ h gP gR gQ (tTr.s_home gT (upd (tTr.home gT) (tPa.size gQ).toNatClampNeg v1)) gE gM gS) H := hP
          replace hD : va_D A (zWC cI cJ cZ h gP gR gQ (tTr.s_home gT (upd (tTr.home gT) (tPa.size gQ).toNatClampNeg v1)) gE gM gS) := hD
          refine lv_aload_n hx hb dX6_hold_66 rfl (lv_at hl 0 rfl) ?_
          refine va_get (D := D) (ci := 6) (v := .ref (h 20)) (C := RX6) (T := TX6) (N := 17) hx hb hts tb_wsX60 hown hK.1 hP 13 rfl rfl 6 (by decide) (hts _ tb_4_0) (fun _ h9 => h9) rfl dX6_hold_67 ?_
          refine lv_aload_n hx hb dX6_hold_70 rfl (lv_at hl 0 rfl) ?_
          refine va_get (D := D) (ci := 6) (v := .ref (h 6)) (C := RX6) (T := TX6) (N := 17) hx hb hts tb_wsX60 hown hK.1 hP 13 rfl rfl 14 (by decide) (hts _ tb_4_3) (fun _ h9 => h9) rfl dX6_hold_71 ?_
          refine va_get (D := D) (ci := 0) (v := .ref (h 7)) (C := RX0) (T := TX0) (N := 2) hx hb hts tb_wsX00 hown hK.1 hP 6 rfl rfl 0 (by decide) (hts _ tb_11_0) (fun _ h9 => h9) rfl dX6_hold_74 ?_
          refine lv_iload hx hb dX6_hold_77 (lv_at hl 3 rfl) ?_
          obtain ⟨u9, hu9, hf⟩ := zbd hf
          refine zthen_v hA hD hS (zrunV (As := [.ref (h 7), .int v4]) (rest := []) hC hP hD 20 rfl rfl (c_X2_addCopy_QR l D cI cJ cZ h  gP gR gQ (tTr.s_home gT (upd (tTr.home gT) (tPa.size gQ).toNatClampNeg v1)) gE gM gS v4 u9 hu9 H.size) kRX6_116 rfl rfl ⟨by decide, by decide⟩ rfl hl.1 rfl (Nat.le_of_ble_eq_true rfl) dX6_hold_79) (fun H locs hP hD hS => ?_)
          exact t_X6_hold_b82 hC N (X6_hold_b16 N gP gR n) ih  u9 (tTr.s_home gT (upd (tTr.home gT) (tPa.size gQ).toNatClampNeg v1)) v1 v3 v4 H locs ls hP hD hS (lv_sub hl [0, 1, 2, 3] rfl) hf
set_option maxHeartbeats 4000000 in
set_option maxRecDepth 100000 in
theorem c_X6_hold (l : Launch) (D : va_G) (cI cJ cZ : ClassId) (h : Nat → Nat) (N : Nat) (gP : tPi) (gR : tPa) (gQ : tPa) (gT : tTr) (gE : tTe) (gM : tMe) (gS : tSq) (a1 : Int32) (a2 : Int32) (a3 : Int32) (u : tPa × tTr) (hf : X6_hold N gP gR gQ gT a1 a2 a3 = some u) (sz : Nat) : Met l yX6_hold (Cond.code yX6_hold cX6_hold 5 none :: tb_L) ({ frames := 2, cells := 0, slots := 0, locals := 50 } : Room) (zPre D (zty cI cJ cZ) (zWC cI cJ cZ h gP gR gQ gT gE gM gS) sz [.ref (h 13), .int a1, .int a2, .int a3]) (zQv D (va_A (zWC cI cJ cZ h gP gR gQ gT gE gM gS) sz) (zWC cI cJ cZ h gP gR u.1 u.2 gE gM gS)) 0 0 (va_A (zWC cI cJ cZ h gP gR gQ gT gE gM gS) sz) := by
  refine zMet (Qc := fun A => zQv D A (zWC cI cJ cZ h gP gR u.1 u.2 gE gM gS)) (by decide) rfl (Nat.le_of_ble_eq_true rfl) ?_
  intro p e s m args below meth c A ls hC _ hP hD hS hl
  replace hl : lv_has ls 5 [(0, .ref (h 13)), (1, .int a1), (2, .int a2), (3, .int a3)] := hl
  obtain ⟨hx, hb, hml, hown, hts, hK, hr, hlocks, hA⟩ := id hC
  unfold X6_hold at hf
  obtain ⟨H, hH⟩ : ∃ H, H = s.heap := ⟨_, rfl⟩
  rw [← hH] at hP
  replace hS : va_S A s.heap H [] := by rw [hH]; exact hS
  show W p l e _ s m args below meth c s.heap [] 0 0 _ _
  rw [← hH]
  clear hH
  obtain ⟨locs, hlo⟩ : ∃ x : List Loc, x = [] := ⟨_, rfl⟩
  rw [← hlo] at hS ⊢
  clear hlo
  refine lv_aload_n hx hb dX6_hold_0 rfl (lv_at hl 0 rfl) ?_
  refine va_get (D := D) (ci := 6) (v := .ref (h 16)) (C := RX6) (T := TX6) (N := 17) hx hb hts tb_wsX60 hown hK.1 hP 13 rfl rfl 2 (by decide) (hts _ tb_3_19) (fun _ h9 => h9) rfl dX6_hold_1 ?_
  refine lv_iload_n hx hb dX6_hold_4 rfl (lv_at hl 1 rfl) ?_
  refine lv_aload_n hx hb dX6_hold_5 rfl (lv_at hl 0 rfl) ?_
  refine va_get (D := D) (ci := 6) (v := .ref (h 20)) (C := RX6) (T := TX6) (N := 17) hx hb hts tb_wsX60 hown hK.1 hP 13 rfl rfl 6 (by decide) (hts _ tb_4_0) (fun _ h9 => h9) rfl dX6_hold_6 ?_
  refine va_get (D := D) (ci := 2) (v := .int (tPa.size gQ)) (C := RX2) (T := TX2) (N := 6) hx hb hts tb_wsX20 hown hK.1 hP 20 rfl rfl 5 (by decide) (hts _ tb_7_17) (fun _ h9 => h9) rfl dX6_hold_9 ?_
  obtain ⟨h10, hf⟩ := zck_s hf
  refine va_iast hx hb hK.1 hP hD hS 16 0 rfl rfl h10 dX6_hold_12 (fun H locs hP hD hS => ?_)
  replace hP : va_P D vwCl (zWC cI cJ cZ h gP gR gQ (tTr.s_firstHeld gT (upd (tTr.firstHeld gT) a1.toNatClampNeg (tPa.size gQ))) gE gM gS) H := hP
  replace hD : va_D A (zWC cI cJ cZ h gP gR gQ (tTr.s_firstHeld gT (upd (tTr.firstHeld gT) a1.toNatClampNeg (tPa.size gQ))) gE gM gS) := hD
  refine lv_iload_n hx hb dX6_hold_13 rfl (lv_at hl 2 rfl) ?_
  refine lv_istore (lv' := [(4, .int a2), (0, .ref (h 13)), (1, .int a1), (2, .int a2), (3, .int a3)]) hx hb dX6_hold_14 hl (by decide) rfl (fun ls hl => ?_)
  exact t_X6_hold_b16 hC N gP gR gE gM gS u N gQ (tTr.s_firstHeld gT (upd (tTr.firstHeld gT) a1.toNatClampNeg (tPa.size gQ))) a1 a3 a2 H locs ls hP hD hS (lv_sub hl [1, 2, 4, 0] rfl) hf
