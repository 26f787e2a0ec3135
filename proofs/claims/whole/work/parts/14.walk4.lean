set_option maxHeartbeats 4000000 in
set_option maxRecDepth 100000 in
theorem c_X7_met (l : Launch) (D : va_G) (cI cJ cZ : ClassId) (h : Nat → Nat) (gP : tPi) (gR : tPa) (gQ : tPa) (gT : tTr) (gE : tTe) (gM : tMe) (gS : tSq) (a1 : Int32) (a2 : Int32) (u : Int32) (hf : X7_met gM a1 a2 = some u) (sz : Nat) : Met l yX7_met (Cond.code yX7_met cX7_met 3 (some .int) :: tb_L) ({ frames := 0, cells := 0, slots := 0, locals := 0 } : Room) (zPre D (zty cI cJ cZ) (zWC cI cJ cZ h gP gR gQ gT gE gM gS) sz [.ref (h 0), .int a1, .int a2]) (zQi D (va_A (zWC cI cJ cZ h gP gR gQ gT gE gM gS) sz) (zWC cI cJ cZ h gP gR gQ gT gE gM gS) (u)) 0 0 (va_A (zWC cI cJ cZ h gP gR gQ gT gE gM gS) sz) := by
  refine zMet (Qc := fun A => zQi D A (zWC cI cJ cZ h gP gR gQ gT gE gM gS) (u)) (by decide) rfl (Nat.le_of_ble_eq_true rfl) ?_
  intro p e s m args below meth c A ls hC _ hP hD hS hl
  replace hl : lv_has ls 3 [(0, .ref (h 0)), (1, .int a1), (2, .int a2)] := hl
  obtain ⟨hx, hb, hml, hown, hts, hK, hr, hlocks, hA⟩ := id hC
  unfold X7_met at hf
  obtain ⟨H, hH⟩ : ∃ H, H = s.heap := ⟨_, rfl⟩
  rw [← hH] at hP
  replace hS : va_S A s.heap H [] := by rw [hH]; exact hS
  show W p l e _ s m args below meth c s.heap [] 0 0 _ _
  rw [← hH]
  clear hH
  obtain ⟨locs, hlo⟩ : ∃ x : List Loc, x = [] := ⟨_, rfl⟩
  rw [← hlo] at hS ⊢
  clear hlo
  refine lv_iload_n hx hb dX7_met_0 rfl (lv_at hl 1 rfl) ?_
  refine lv_if_lt (tgt := 15) hx hb dX7_met_1 (by decide) (fun c1 => ?_) (fun c1 => ?_)
  · replace hf := zif_t hf c1
    refine lv_iconst (v := -1) hx hb dX7_met_15 (by decide) ?_
    have hu := Option.some.inj hf
    subst hu
    exact z_iret hC hP hD hS dX7_met_16
  · replace hf := zif_f hf c1
    refine lv_iload_n hx hb dX7_met_4 rfl (lv_at hl 1 rfl) ?_
    refine lv_aload_n hx hb dX7_met_5 rfl (lv_at hl 0 rfl) ?_
    refine va_get (D := D) (ci := 7) (v := .ref (h 29)) (C := RX7) (T := TX7) (N := 5) hx hb hts tb_wsX70 hown hK.1 hP 0 rfl rfl 3 (by decide) (hts _ tb_2_7) (fun _ h9 => h9) rfl dX7_met_6 ?_
    refine va_get (D := D) (ci := 1) (v := .int (tMe.size gM)) (C := RX1) (T := TX1) (N := 5) hx hb hts tb_wsX10 hown hK.1 hP 29 rfl rfl 3 (by decide) (hts _ tb_23_8) (fun _ h9 => h9) rfl dX7_met_9 ?_
    refine lv_icmp_lt (tgt := 17) hx hb dX7_met_12 (by decide) (fun c2 => ?_) (fun c2 => ?_)
    · replace hf := zif_t hf c2
      refine lv_iload_n hx hb dX7_met_17 rfl (lv_at hl 2 rfl) ?_
      by_cases c30 : a2 = (0 : Int32)
      · replace hf := zif_t hf c30
        refine lv_tableIn (tgt := 44) hx hb dX7_met_18 (by rw [c30]; decide) (by rw [c30]; decide) (by rw [c30]; rfl) (by decide) ?_
        refine lv_aload_n hx hb dX7_met_44 rfl (lv_at hl 0 rfl) ?_
        refine va_get (D := D) (ci := 7) (v := .ref (h 29)) (C := RX7) (T := TX7) (N := 5) hx hb hts tb_wsX70 hown hK.1 hP 0 rfl rfl 3 (by decide) (hts _ tb_2_7) (fun _ h9 => h9) rfl dX7_met_45 ?_
        refine va_get (D := D) (ci := 1) (v := .ref (h 30)) (C := RX1) (T := TX1) (N := 5) hx hb hts tb_wsX10 hown hK.1 hP 29 rfl rfl 0 (by decide) (hts _ tb_25_1) (fun _ h9 => h9) rfl dX7_met_48 ?_
        refine lv_iload_n hx hb dX7_met_51 rfl (lv_at hl 1 rfl) ?_
        obtain ⟨h6, hf⟩ := zck_s hf
        refine va_iald hx hb hK.1 hP 30 0 rfl rfl h6 dX7_met_52 ?_
        have hu := Option.some.inj hf
        subst hu
        exact z_iret hC hP hD hS dX7_met_53
      replace hf := zif_f hf c30
      by_cases c31 : a2 = (1 : Int32)
      · replace hf := zif_t hf c31
        refine lv_tableIn (tgt := 54) hx hb dX7_met_18 (by rw [c31]; decide) (by rw [c31]; decide) (by rw [c31]; rfl) (by decide) ?_
        refine lv_aload_n hx hb dX7_met_54 rfl (lv_at hl 0 rfl) ?_
        refine va_get (D := D) (ci := 7) (v := .ref (h 29)) (C := RX7) (T := TX7) (N := 5) hx hb hts tb_wsX70 hown hK.1 hP 0 rfl rfl 3 (by decide) (hts _ tb_2_7) (fun _ h9 => h9) rfl dX7_met_55 ?_
        refine va_get (D := D) (ci := 1) (v := .ref (h 31)) (C := RX1) (T := TX1) (N := 5) hx hb hts tb_wsX10 hown hK.1 hP 29 rfl rfl 1 (by decide) (hts _ tb_25_2) (fun _ h9 => h9) rfl dX7_met_58 ?_
        refine lv_iload_n hx hb dX7_met_61 rfl (lv_at hl 1 rfl) ?_
        obtain ⟨h5, hf⟩ := zck_s hf
        refine va_iald hx hb hK.1 hP 31 0 rfl rfl h5 dX7_met_62 ?_
        have hu := Option.some.inj hf
        subst hu
        exact z_iret hC hP hD hS dX7_met_63
      replace hf := zif_f hf c31
      by_cases c32 : a2 = (2 : Int32)
      · replace hf := zif_t hf c32
        refine lv_tableIn (tgt := 64) hx hb dX7_met_18 (by rw [c32]; decide) (by rw [c32]; decide) (by rw [c32]; rfl) (by decide) ?_
        refine lv_aload_n hx hb dX7_met_64 rfl (lv_at hl 0 rfl) ?_
        refine va_get (D := D) (ci := 7) (v := .ref (h 29)) (C := RX7) (T := TX7) (N := 5) hx hb hts tb_wsX70 hown hK.1 hP 0 rfl rfl 3 (by decide) (hts _ tb_2_7) (fun _ h9 => h9) rfl dX7_met_65 ?_
        refine va_get (D := D) (ci := 1) (v := .ref (h 32)) (C := RX1) (T := TX1) (N := 5) hx hb hts tb_wsX10 hown hK.1 hP 29 rfl rfl 2 (by decide) (hts _ tb_25_3) (fun _ h9 => h9) rfl dX7_met_68 ?_
        refine lv_iload_n hx hb dX7_met_71 rfl (lv_at hl 1 rfl) ?_
        obtain ⟨h4, hf⟩ := zck_s hf
        refine va_iald hx hb hK.1 hP 32 0 rfl rfl h4 dX7_met_72 ?_
        have hu := Option.some.inj hf
        subst hu
        exact z_iret hC hP hD hS dX7_met_73
      replace hf := zif_f hf c32
      refine lv_tableOut (tgt := 74) hx hb dX7_met_18 (by have := zsw c30; rw [show ((0 : Int32)).toInt = 0 from rfl] at this; have := zsw c31; rw [show ((1 : Int32)).toInt = 1 from rfl] at this; have := zsw c32; rw [show ((2 : Int32)).toInt = 2 from rfl] at this; omega) (by decide) ?_
      refine lv_iconst (v := -1) hx hb dX7_met_74 (by decide) ?_
      have hu := Option.some.inj hf
      subst hu
      exact z_iret hC hP hD hS dX7_met_75
    · replace hf := zif_f hf c2
      refine lv_iconst (v := -1) hx hb dX7_met_15 (by decide) ?_
      have hu := Option.some.inj hf
      subst hu
      exact z_iret hC hP hD hS dX7_met_16
set_option maxHeartbeats 4000000 in
set_option maxRecDepth 100000 in
theorem t_X4_howManyOn_b34 {p : Program} {l : Launch} {e : Env} {s : State} {m : MethodId} {args : Array Value} {below : List Frame} {meth : Method} {c : Code} {A : Nat → Prop} {D : va_G} {cI cJ cZ : ClassId} {h : Nat → Nat} (hC : zCx p s m args meth c A D (zty cI cJ cZ) cX4_howManyOn RX4 6 (some .int)) (N : Nat) (gP : tPi) (gR : tPa) (gQ : tPa) (gT : tTr) (gE : tTe) (gM : tMe) (gS : tSq) (u : Int32) : ∀ (v4 : Int32) (H : Heap) (locs : List Loc) (ls : Array Slot), va_P D vwCl (zWC cI cJ cZ h gP gR gQ gT gE gM gS) H → va_D A (zWC cI cJ cZ h gP gR gQ gT gE gM gS) → va_S A s.heap H locs → lv_has ls 6 [(4, .int v4)] → X4_howManyOn_b34 N gP gR v4 = some u → W p l e ({ frames := 2, cells := 0, slots := 0, locals := 50 } : Room) s m args below meth c H locs 0 0 (MQ below (zQi D A (zWC cI cJ cZ h gP gR gQ gT gE gM gS) (u)) args s 0 0 A) (F0 m 34 ls []) := by
  intro v4 H locs ls hP hD hS hl hf
  obtain ⟨hx, hb, hml, hown, hts, hK, hr, hlocks, hA⟩ := id hC
  unfold X4_howManyOn_b34 at hf
  refine lv_iload hx hb dX4_howManyOn_34 (lv_at hl 0 rfl) ?_
  have hu := Option.some.inj hf
  subst hu
  exact z_iret hC hP hD hS dX4_howManyOn_36
set_option maxHeartbeats 4000000 in
set_option maxRecDepth 100000 in
theorem t_X4_howManyOn_b28 {p : Program} {l : Launch} {e : Env} {s : State} {m : MethodId} {args : Array Value} {below : List Frame} {meth : Method} {c : Code} {A : Nat → Prop} {D : va_G} {cI cJ cZ : ClassId} {h : Nat → Nat} (hC : zCx p s m args meth c A D (zty cI cJ cZ) cX4_howManyOn RX4 6 (some .int)) (N : Nat) {gP : tPi} {gR : tPa} {gQ : tPa} {gT : tTr} {gE : tTe} {gM : tMe} {gS : tSq} {u : Int32} (k6 : Int32 → Int32 → Int32 → Int32 → Option (Int32)) (hk6 : ∀ (v2 : Int32) (v3 : Int32) (v4 : Int32) (v5 : Int32) (H : Heap) (locs : List Loc) (ls : Array Slot), va_P D vwCl (zWC cI cJ cZ h gP gR gQ gT gE gM gS) H → va_D A (zWC cI cJ cZ h gP gR gQ gT gE gM gS) → va_S A s.heap H locs → lv_has ls 6 [(0, .ref (h 33)), (2, .int v2), (3, .int v3), (4, .int v4), (5, .int v5)] → k6 v2 v3 v4 v5 = some u → W p l e ({ frames := 2, cells := 0, slots := 0, locals := 50 } : Room) s m args below meth c H locs 0 0 (MQ below (zQi D A (zWC cI cJ cZ h gP gR gQ gT gE gM gS) (u)) args s 0 0 A) (F0 m 6 ls [])) : ∀ (v2 : Int32) (v3 : Int32) (v4 : Int32) (v5 : Int32) (H : Heap) (locs : List Loc) (ls : Array Slot), va_P D vwCl (zWC cI cJ cZ h gP gR gQ gT gE gM gS) H → va_D A (zWC cI cJ cZ h gP gR gQ gT gE gM gS) → va_S A s.heap H locs → lv_has ls 6 [(0, .ref (h 33)), (2, .int v2), (3, .int v3), (4, .int v4), (5, .int v5)] → X4_howManyOn_b28 N k6 gP gR v2 v3 v4 v5 = some u → W p l e ({ frames := 2, cells := 0, slots := 0, locals := 50 } : Room) s m args below meth c H locs 0 0 (MQ below (zQi D A (zWC cI cJ cZ h gP gR gQ gT gE gM gS) (u)) args s 0 0 A) (F0 m 28 ls []) := by
  intro v2 v3 v4 v5 H locs ls hP hD hS hl hf
  obtain ⟨hx, hb, hml, hown, hts, hK, hr, hlocks, hA⟩ := id hC
  unfold X4_howManyOn_b28 at hf
  refine lv_iinc (v := (v5 + (1 : Int32))) (lv' := [(5, .int (v5 + (1 : Int32))), (0, .ref (h 33)), (2, .int v2), (3, .int v3), (4, .int v4)]) hx hb dX4_howManyOn_28 hl (k := 4) rfl rfl (by decide) rfl (fun ls hl => ?_)
  refine lv_goto (tgt := 6) hx hb dX4_howManyOn_31 (by decide) ?_
  exact hk6 v2 v3 v4 (v5 + (1 : Int32)) H locs ls hP hD hS (lv_sub hl [1, 2, 3, 4, 0] rfl) hf
set_option maxHeartbeats 4000000 in
set_option maxRecDepth 100000 in
theorem t_X4_howManyOn_b6 {p : Program} {l : Launch} {e : Env} {s : State} {m : MethodId} {args : Array Value} {below : List Frame} {meth : Method} {c : Code} {A : Nat → Prop} {D : va_G} {cI cJ cZ : ClassId} {h : Nat → Nat} (hC : zCx p s m args meth c A D (zty cI cJ cZ) cX4_howManyOn RX4 6 (some .int)) (N : Nat) (gP : tPi) (gR : tPa) (gQ : tPa) (gT : tTr) (gE : tTe) (gM : tMe) (gS : tSq) (u : Int32) : ∀ (n : Nat) (v2 : Int32) (v3 : Int32) (v4 : Int32) (v5 : Int32) (H : Heap) (locs : List Loc) (ls : Array Slot), va_P D vwCl (zWC cI cJ cZ h gP gR gQ gT gE gM gS) H → va_D A (zWC cI cJ cZ h gP gR gQ gT gE gM gS) → va_S A s.heap H locs → lv_has ls 6 [(0, .ref (h 33)), (2, .int v2), (3, .int v3), (4, .int v4), (5, .int v5)] → X4_howManyOn_b6 N gP gR n v2 v3 v4 v5 = some u → W p l e ({ frames := 2, cells := 0, slots := 0, locals := 50 } : Room) s m args below meth c H locs 0 0 (MQ below (zQi D A (zWC cI cJ cZ h gP gR gQ gT gE gM gS) (u)) args s 0 0 A) (F0 m 6 ls []) := by
  intro n
  induction n with
  | zero =>
    intro v2 v3 v4 v5 H locs ls hP hD hS hl hf
    cases hf
  | succ n ih =>
    intro v2 v3 v4 v5 H locs ls hP hD hS hl hf
    obtain ⟨hx, hb, hml, hown, hts, hK, hr, hlocks, hA⟩ := id hC
    rw [X4_howManyOn_b6] at hf
    refine lv_iload hx hb dX4_howManyOn_6 (lv_at hl 4 rfl) ?_
    refine lv_iload_n hx hb dX4_howManyOn_8 rfl (lv_at hl 1 rfl) ?_
    refine lv_icmp_ge (tgt := 34) hx hb dX4_howManyOn_9 (by decide) (fun c1 => ?_) (fun c1 => ?_)
    · replace hf := zif_t hf c1
      exact t_X4_howManyOn_b34 hC N gP gR gQ gT gE gM gS u v4 H locs ls hP hD hS (lv_sub hl [3] rfl) hf
    · replace hf := zif_f hf c1
      refine lv_aload_n hx hb dX4_howManyOn_12 rfl (lv_at hl 0 rfl) ?_
      refine va_get (D := D) (ci := 4) (v := .ref (h 6)) (C := RX4) (T := TX4) (N := 3) hx hb hts tb_wsX40 hown hK.1 hP 33 rfl rfl 1 (by decide) (hts _ tb_5_1) (fun _ h9 => h9) rfl dX4_howManyOn_13 ?_
      refine lv_iload hx hb dX4_howManyOn_16 (lv_at hl 4 rfl) ?_
      refine lv_iload_n hx hb dX4_howManyOn_18 rfl (lv_at hl 2 rfl) ?_
      obtain ⟨u2, hu2, hf⟩ := zbd hf
      refine zthen_i hA hD hS (zrunV (As := [.int v5, .int v3]) (rest := []) hC hP hD 6 rfl rfl (c_X0_sides l D cI cJ cZ h  gP gR gQ gT gE gM gS v5 v3 u2 hu2 H.size) kRX4_70 rfl rfl ⟨by decide, by decide⟩ rfl hl.1 rfl (Nat.le_of_ble_eq_true rfl) dX4_howManyOn_19) (fun H locs hP hD hS => ?_)
      refine lv_if_ne (tgt := 28) hx hb dX4_howManyOn_22 (by decide) (fun c3 => ?_) (fun c3 => ?_)
      · replace hf := zif_f hf c3
        exact t_X4_howManyOn_b28 hC N (X4_howManyOn_b6 N gP gR n) ih  v2 v3 v4 v5 H locs ls hP hD hS (lv_sub hl [0, 1, 2, 3, 4] rfl) hf
      · replace hf := zif_t hf c3
        refine lv_iinc (v := (v4 + (1 : Int32))) (lv' := [(4, .int (v4 + (1 : Int32))), (0, .ref (h 33)), (2, .int v2), (3, .int v3), (5, .int v5)]) hx hb dX4_howManyOn_25 hl (k := 3) rfl rfl (by decide) rfl (fun ls hl => ?_)
        exact t_X4_howManyOn_b28 hC N (X4_howManyOn_b6 N gP gR n) ih  v2 v3 (v4 + (1 : Int32)) v5 H locs ls hP hD hS (lv_sub hl [1, 2, 3, 0, 4] rfl) hf
set_option maxHeartbeats 4000000 in
set_option maxRecDepth 100000 in
theorem c_X4_howManyOn (l : Launch) (D : va_G) (cI cJ cZ : ClassId) (h : Nat → Nat) (N : Nat) (gP : tPi) (gR : tPa) (gQ : tPa) (gT : tTr) (gE : tTe) (gM : tMe) (gS : tSq) (a1 : Int32) (a2 : Int32) (a3 : Int32) (u : Int32) (hf : X4_howManyOn N gP gR a1 a2 a3 = some u) (sz : Nat) : Met l yX4_howManyOn (Cond.code yX4_howManyOn cX4_howManyOn 6 (some .int) :: tb_L) ({ frames := 2, cells := 0, slots := 0, locals := 50 } : Room) (zPre D (zty cI cJ cZ) (zWC cI cJ cZ h gP gR gQ gT gE gM gS) sz [.ref (h 33), .int a1, .int a2, .int a3]) (zQi D (va_A (zWC cI cJ cZ h gP gR gQ gT gE gM gS) sz) (zWC cI cJ cZ h gP gR gQ gT gE gM gS) (u)) 0 0 (va_A (zWC cI cJ cZ h gP gR gQ gT gE gM gS) sz) := by
  refine zMet (Qc := fun A => zQi D A (zWC cI cJ cZ h gP gR gQ gT gE gM gS) (u)) (by decide) rfl (Nat.le_of_ble_eq_true rfl) ?_
  intro p e s m args below meth c A ls hC _ hP hD hS hl
  replace hl : lv_has ls 6 [(0, .ref (h 33)), (1, .int a1), (2, .int a2), (3, .int a3)] := hl
  obtain ⟨hx, hb, hml, hown, hts, hK, hr, hlocks, hA⟩ := id hC
  unfold X4_howManyOn at hf
  obtain ⟨H, hH⟩ : ∃ H, H = s.heap := ⟨_, rfl⟩
  rw [← hH] at hP
  replace hS : va_S A s.heap H [] := by rw [hH]; exact hS
  show W p l e _ s m args below meth c s.heap [] 0 0 _ _
  rw [← hH]
  clear hH
  obtain ⟨locs, hlo⟩ : ∃ x : List Loc, x = [] := ⟨_, rfl⟩
  rw [← hlo] at hS ⊢
  clear hlo
  refine lv_iconst (v := 0) hx hb dX4_howManyOn_0 (by decide) ?_
  refine lv_istore (lv' := [(4, .int (0 : Int32)), (0, .ref (h 33)), (1, .int a1), (2, .int a2), (3, .int a3)]) hx hb dX4_howManyOn_1 hl (by decide) rfl (fun ls hl => ?_)
  refine lv_iload_n hx hb dX4_howManyOn_3 rfl (lv_at hl 2 rfl) ?_
  refine lv_istore (lv' := [(5, .int a1), (4, .int (0 : Int32)), (0, .ref (h 33)), (1, .int a1), (2, .int a2), (3, .int a3)]) hx hb dX4_howManyOn_4 hl (by decide) rfl (fun ls hl => ?_)
  exact t_X4_howManyOn_b6 hC N gP gR gQ gT gE gM gS u N a2 a3 (0 : Int32) a1 H locs ls hP hD hS (lv_sub hl [2, 4, 5, 1, 0] rfl) hf
set_option maxHeartbeats 4000000 in
set_option maxRecDepth 100000 in
theorem t_X4_fewest_b160 {p : Program} {l : Launch} {e : Env} {s : State} {m : MethodId} {args : Array Value} {below : List Frame} {meth : Method} {c : Code} {A : Nat → Prop} {D : va_G} {cI cJ cZ : ClassId} {h : Nat → Nat} (hC : zCx p s m args meth c A D (zty cI cJ cZ) cX4_fewest RX4 12 (some .int)) (N : Nat) (f lo : Nat) (rc : tPi → tPa → Int32 → Int32 → Int32 → Int32 → Option (Int32 × tPa)) (hrc : ∀ (gP : tPi) (gR : tPa) (gQ : tPa) (gT : tTr) (gE : tTe) (gM : tMe) (gS : tSq) (b0 b1 b2 b3 : Int32) (u : Int32 × tPa), rc gP gR b0 b1 b2 b3 = some u → ∀ sz : Nat, Met l yX4_fewest (Cond.code yX4_fewest cX4_fewest 12 (some .int) :: tb_L) ({ frames := f, cells := 0, slots := 0, locals := lo } : Room) (zPre D (zty cI cJ cZ) (zWC cI cJ cZ h gP gR gQ gT gE gM gS) sz [.ref (h 33), .int b0, .int b1, .int b2, .int b3]) (zQi D (va_A (zWC cI cJ cZ h gP gR gQ gT gE gM gS) sz) (zWC cI cJ cZ h gP u.2 gQ gT gE gM gS) (u.1)) 0 0 (va_A (zWC cI cJ cZ h gP gR gQ gT gE gM gS) sz)) (gP : tPi) (gQ : tPa) (gT : tTr) (gE : tTe) (gM : tMe) (gS : tSq) (u : Int32 × tPa) : ∀ (gR : tPa) (v6 : Int32) (H : Heap) (locs : List Loc) (ls : Array Slot), va_P D vwCl (zWC cI cJ cZ h gP gR gQ gT gE gM gS) H → va_D A (zWC cI cJ cZ h gP gR gQ gT gE gM gS) → va_S A s.heap H locs → lv_has ls 12 [(6, .int v6)] → X4_fewest_b160 N rc gP gR v6 = some u → W p l e ({ frames := f + 3, cells := 0, slots := 0, locals := lo + 80 } : Room) s m args below meth c H locs 0 0 (MQ below (zQi D A (zWC cI cJ cZ h gP u.2 gQ gT gE gM gS) (u.1)) args s 0 0 A) (F0 m 160 ls []) := by
  intro gR v6 H locs ls hP hD hS hl hf
  obtain ⟨hx, hb, hml, hown, hts, hK, hr, hlocks, hA⟩ := id hC
  unfold X4_fewest_b160 at hf
  refine lv_iload hx hb dX4_fewest_160 (lv_at hl 0 rfl) ?_
  have hu := Option.some.inj hf
  subst hu
  exact z_iret hC hP hD hS dX4_fewest_162
set_option maxHeartbeats 4000000 in
set_option maxRecDepth 100000 in
theorem t_X4_fewest_b145 {p : Program} {l : Launch} {e : Env} {s : State} {m : MethodId} {args : Array Value} {below : List Frame} {meth : Method} {c : Code} {A : Nat → Prop} {D : va_G} {cI cJ cZ : ClassId} {h : Nat → Nat} (hC : zCx p s m args meth c A D (zty cI cJ cZ) cX4_fewest RX4 12 (some .int)) (N : Nat) (f lo : Nat) (rc : tPi → tPa → Int32 → Int32 → Int32 → Int32 → Option (Int32 × tPa)) (hrc : ∀ (gP : tPi) (gR : tPa) (gQ : tPa) (gT : tTr) (gE : tTe) (gM : tMe) (gS : tSq) (b0 b1 b2 b3 : Int32) (u : Int32 × tPa), rc gP gR b0 b1 b2 b3 = some u → ∀ sz : Nat, Met l yX4_fewest (Cond.code yX4_fewest cX4_fewest 12 (some .int) :: tb_L) ({ frames := f, cells := 0, slots := 0, locals := lo } : Room) (zPre D (zty cI cJ cZ) (zWC cI cJ cZ h gP gR gQ gT gE gM gS) sz [.ref (h 33), .int b0, .int b1, .int b2, .int b3]) (zQi D (va_A (zWC cI cJ cZ h gP gR gQ gT gE gM gS) sz) (zWC cI cJ cZ h gP u.2 gQ gT gE gM gS) (u.1)) 0 0 (va_A (zWC cI cJ cZ h gP gR gQ gT gE gM gS) sz)) {gP : tPi} {gQ : tPa} {gT : tTr} {gE : tTe} {gM : tMe} {gS : tSq} {u : Int32 × tPa} (k35 : tPa → Int32 → Int32 → Int32 → Int32 → Int32 → Int32 → Int32 → Option (Int32 × tPa)) (hk35 : ∀ (gR : tPa) (v1 : Int32) (v2 : Int32) (v3 : Int32) (v4 : Int32) (v5 : Int32) (v6 : Int32) (v7 : Int32) (H : Heap) (locs : List Loc) (ls : Array Slot), va_P D vwCl (zWC cI cJ cZ h gP gR gQ gT gE gM gS) H → va_D A (zWC cI cJ cZ h gP gR gQ gT gE gM gS) → va_S A s.heap H locs → lv_has ls 12 [(0, .ref (h 33)), (1, .int v1), (2, .int v2), (3, .int v3), (4, .int v4), (5, .int v5), (6, .int v6), (7, .int v7)] → k35 gR v1 v2 v3 v4 v5 v6 v7 = some u → W p l e ({ frames := f + 3, cells := 0, slots := 0, locals := lo + 80 } : Room) s m args below meth c H locs 0 0 (MQ below (zQi D A (zWC cI cJ cZ h gP u.2 gQ gT gE gM gS) (u.1)) args s 0 0 A) (F0 m 35 ls [])) : ∀ (gR : tPa) (v1 : Int32) (v2 : Int32) (v3 : Int32) (v4 : Int32) (v5 : Int32) (v6 : Int32) (v7 : Int32) (v9 : Int32) (H : Heap) (locs : List Loc) (ls : Array Slot), va_P D vwCl (zWC cI cJ cZ h gP gR gQ gT gE gM gS) H → va_D A (zWC cI cJ cZ h gP gR gQ gT gE gM gS) → va_S A s.heap H locs → lv_has ls 12 [(0, .ref (h 33)), (1, .int v1), (2, .int v2), (3, .int v3), (4, .int v4), (5, .int v5), (6, .int v6), (7, .int v7), (9, .int v9)] → X4_fewest_b145 N rc k35 gP gR v1 v2 v3 v4 v5 v6 v7 v9 = some u → W p l e ({ frames := f + 3, cells := 0, slots := 0, locals := lo + 80 } : Room) s m args below meth c H locs 0 0 (MQ below (zQi D A (zWC cI cJ cZ h gP u.2 gQ gT gE gM gS) (u.1)) args s 0 0 A) (F0 m 145 ls []) := by
  intro gR v1 v2 v3 v4 v5 v6 v7 v9 H locs ls hP hD hS hl hf
  obtain ⟨hx, hb, hml, hown, hts, hK, hr, hlocks, hA⟩ := id hC
  unfold X4_fewest_b145 at hf
  refine lv_iload hx hb dX4_fewest_145 (lv_at hl 6 rfl) ?_
  refine lv_iload hx hb dX4_fewest_147 (lv_at hl 8 rfl) ?_
  refine va_mmin hx hb (hml.trans hl.1.symm) hown (hts _ tb_26_0) (hts _ tb_21_22) (hts _ tb_11_23) (hts _ tb_21_23) (by dsimp only; omega) (by simp only [List.map, List.sum, List.foldr, Value.category]; omega) (Nat.zero_le _) (Nat.zero_le _) dX4_fewest_149 ?_
  refine lv_topi (fun x1 ex1 => ?_)
  replace hf := zl_n ex1 hf
  refine lv_istore (lv' := [(6, .int x1), (0, .ref (h 33)), (1, .int v1), (2, .int v2), (3, .int v3), (4, .int v4), (5, .int v5), (7, .int v7), (9, .int v9)]) hx hb dX4_fewest_152 hl (by decide) rfl (fun ls hl => ?_)
  refine lv_iinc (v := (v7 + (1 : Int32))) (lv' := [(7, .int (v7 + (1 : Int32))), (6, .int x1), (0, .ref (h 33)), (1, .int v1), (2, .int v2), (3, .int v3), (4, .int v4), (5, .int v5), (9, .int v9)]) hx hb dX4_fewest_154 hl (k := 7) rfl rfl (by decide) rfl (fun ls hl => ?_)
  refine lv_goto (tgt := 35) hx hb dX4_fewest_157 (by decide) ?_
  exact hk35 gR v1 v2 v3 v4 v5 x1 (v7 + (1 : Int32)) H locs ls hP hD hS (lv_sub hl [2, 3, 4, 5, 6, 7, 1, 0] rfl) hf
set_option maxHeartbeats 4000000 in
set_option maxRecDepth 100000 in
theorem t_X4_fewest_b70 {p : Program} {l : Launch} {e : Env} {s : State} {m : MethodId} {args : Array Value} {below : List Frame} {meth : Method} {c : Code} {A : Nat → Prop} {D : va_G} {cI cJ cZ : ClassId} {h : Nat → Nat} (hC : zCx p s m args meth c A D (zty cI cJ cZ) cX4_fewest RX4 12 (some .int)) (N : Nat) (f lo : Nat) (rc : tPi → tPa → Int32 → Int32 → Int32 → Int32 → Option (Int32 × tPa)) (hrc : ∀ (gP : tPi) (gR : tPa) (gQ : tPa) (gT : tTr) (gE : tTe) (gM : tMe) (gS : tSq) (b0 b1 b2 b3 : Int32) (u : Int32 × tPa), rc gP gR b0 b1 b2 b3 = some u → ∀ sz : Nat, Met l yX4_fewest (Cond.code yX4_fewest cX4_fewest 12 (some .int) :: tb_L) ({ frames := f, cells := 0, slots := 0, locals := lo } : Room) (zPre D (zty cI cJ cZ) (zWC cI cJ cZ h gP gR gQ gT gE gM gS) sz [.ref (h 33), .int b0, .int b1, .int b2, .int b3]) (zQi D (va_A (zWC cI cJ cZ h gP gR gQ gT gE gM gS) sz) (zWC cI cJ cZ h gP u.2 gQ gT gE gM gS) (u.1)) 0 0 (va_A (zWC cI cJ cZ h gP gR gQ gT gE gM gS) sz)) {gP : tPi} {gQ : tPa} {gT : tTr} {gE : tTe} {gM : tMe} {gS : tSq} {u : Int32 × tPa} (k35 : tPa → Int32 → Int32 → Int32 → Int32 → Int32 → Int32 → Int32 → Option (Int32 × tPa)) (hk35 : ∀ (gR : tPa) (v1 : Int32) (v2 : Int32) (v3 : Int32) (v4 : Int32) (v5 : Int32) (v6 : Int32) (v7 : Int32) (H : Heap) (locs : List Loc) (ls : Array Slot), va_P D vwCl (zWC cI cJ cZ h gP gR gQ gT gE gM gS) H → va_D A (zWC cI cJ cZ h gP gR gQ gT gE gM gS) → va_S A s.heap H locs → lv_has ls 12 [(0, .ref (h 33)), (1, .int v1), (2, .int v2), (3, .int v3), (4, .int v4), (5, .int v5), (6, .int v6), (7, .int v7)] → k35 gR v1 v2 v3 v4 v5 v6 v7 = some u → W p l e ({ frames := f + 3, cells := 0, slots := 0, locals := lo + 80 } : Room) s m args below meth c H locs 0 0 (MQ below (zQi D A (zWC cI cJ cZ h gP u.2 gQ gT gE gM gS) (u.1)) args s 0 0 A) (F0 m 35 ls [])) : ∀ (n : Nat) (gR : tPa) (v1 : Int32) (v2 : Int32) (v3 : Int32) (v4 : Int32) (v5 : Int32) (v6 : Int32) (v7 : Int32) (v8 : Int32) (v9 : Int32) (v10 : Int32) (H : Heap) (locs : List Loc) (ls : Array Slot), va_P D vwCl (zWC cI cJ cZ h gP gR gQ gT gE gM gS) H → va_D A (zWC cI cJ cZ h gP gR gQ gT gE gM gS) → va_S A s.heap H locs → lv_has ls 12 [(0, .ref (h 33)), (1, .int v1), (2, .int v2), (3, .int v3), (4, .int v4), (5, .int v5), (6, .int v6), (7, .int v7), (8, .int v8), (9, .int v9), (10, .int v10)] → X4_fewest_b70 N rc k35 gP n gR v1 v2 v3 v4 v5 v6 v7 v8 v9 v10 = some u → W p l e ({ frames := f + 3, cells := 0, slots := 0, locals := lo + 80 } : Room) s m args below meth c H locs 0 0 (MQ below (zQi D A (zWC cI cJ cZ h gP u.2 gQ gT gE gM gS) (u.1)) args s 0 0 A) (F0 m 70 ls []) := by
  intro n
  induction n with
  | zero =>
    intro gR v1 v2 v3 v4 v5 v6 v7 v8 v9 v10 H locs ls hP hD hS hl hf
    cases hf
  | succ n ih =>
    intro gR v1 v2 v3 v4 v5 v6 v7 v8 v9 v10 H locs ls hP hD hS hl hf
    obtain ⟨hx, hb, hml, hown, hts, hK, hr, hlocks, hA⟩ := id hC
    rw [X4_fewest_b70] at hf
    refine lv_iload hx hb dX4_fewest_70 (lv_at hl 10 rfl) ?_
    refine lv_iconst (v := 2) hx hb dX4_fewest_72 (by decide) ?_
    refine lv_icmp_gt (tgt := 145) hx hb dX4_fewest_73 (by decide) (fun c2 => ?_) (fun c2 => ?_)
    · replace hf := zif_t hf c2
      exact t_X4_fewest_b145 hC N f lo rc hrc k35 hk35  gR v1 v2 v3 v4 v5 v6 v7 v9 H locs ls hP hD hS (lv_sub hl [0, 1, 2, 3, 4, 5, 6, 7, 9] rfl) hf
    · replace hf := zif_f hf c2
      refine lv_aload_n hx hb dX4_fewest_76 rfl (lv_at hl 0 rfl) ?_
      refine va_get (D := D) (ci := 4) (v := .ref (h 6)) (C := RX4) (T := TX4) (N := 3) hx hb hts tb_wsX40 hown hK.1 hP 33 rfl rfl 1 (by decide) (hts _ tb_5_1) (fun _ h9 => h9) rfl dX4_fewest_77 ?_
      refine va_get (D := D) (ci := 0) (v := .ref (h 7)) (C := RX0) (T := TX0) (N := 2) hx hb hts tb_wsX00 hown hK.1 hP 6 rfl rfl 0 (by decide) (hts _ tb_25_16) (fun _ h9 => h9) rfl dX4_fewest_80 ?_
      refine va_get (D := D) (ci := 2) (v := .int (tPa.size gR)) (C := RX2) (T := TX2) (N := 6) hx hb hts tb_wsX20 hown hK.1 hP 7 rfl rfl 5 (by decide) (hts _ tb_25_17) (fun _ h9 => h9) rfl dX4_fewest_83 ?_
      refine lv_topi (fun x3 ex3 => ?_)
      replace hf := zl_n ex3 hf
      refine lv_istore (lv' := [(11, .int x3), (0, .ref (h 33)), (1, .int v1), (2, .int v2), (3, .int v3), (4, .int v4), (5, .int v5), (6, .int v6), (7, .int v7), (8, .int v8), (9, .int v9), (10, .int v10)]) hx hb dX4_fewest_86 hl (by decide) rfl (fun ls hl => ?_)
      refine lv_aload_n hx hb dX4_fewest_88 rfl (lv_at hl 1 rfl) ?_
      refine va_get (D := D) (ci := 4) (v := .ref (h 6)) (C := RX4) (T := TX4) (N := 3) hx hb hts tb_wsX40 hown hK.1 hP 33 rfl rfl 1 (by decide) (hts _ tb_5_1) (fun _ h9 => h9) rfl dX4_fewest_89 ?_
      refine lv_iload_n hx hb dX4_fewest_92 rfl (lv_at hl 2 rfl) ?_
      refine lv_iload_n hx hb dX4_fewest_93 rfl (lv_at hl 3 rfl) ?_
      refine lv_iload hx hb dX4_fewest_94 (lv_at hl 9 rfl) ?_
      refine lv_iload hx hb dX4_fewest_96 (lv_at hl 11 rfl) ?_
      obtain ⟨u4, hu4, hf⟩ := zbd hf
      refine zthen_v hA hD hS (zrunV (As := [.int v1, .int v2, .int v8, .int v10]) (rest := []) hC hP hD 6 rfl rfl (c_X0_addSideRow l D cI cJ cZ h N gP gR gQ gT gE gM gS v1 v2 v8 v10 u4 hu4 H.size) kRX4_66 rfl rfl ⟨by dsimp only; omega, by dsimp only; omega⟩ rfl hl.1 rfl (Nat.le_of_ble_eq_true rfl) dX4_fewest_98) (fun H locs hP hD hS => ?_)
      refine lv_iload hx hb dX4_fewest_101 (lv_at hl 10 rfl) ?_
      refine lv_aload_n hx hb dX4_fewest_103 rfl (lv_at hl 1 rfl) ?_
      refine lv_iload hx hb dX4_fewest_104 (lv_at hl 0 rfl) ?_
      refine lv_aload_n hx hb dX4_fewest_106 rfl (lv_at hl 1 rfl) ?_
      refine va_get (D := D) (ci := 4) (v := .ref (h 6)) (C := RX4) (T := TX4) (N := 3) hx hb hts tb_wsX40 hown hK.1 hP 33 rfl rfl 1 (by decide) (hts _ tb_5_1) (fun _ h9 => h9) rfl dX4_fewest_107 ?_
      refine va_get (D := D) (ci := 0) (v := .ref (h 7)) (C := RX0) (T := TX0) (N := 2) hx hb hts tb_wsX00 hown hK.1 hP 6 rfl rfl 0 (by decide) (hts _ tb_25_16) (fun _ h9 => h9) rfl dX4_fewest_110 ?_
      refine va_get (D := D) (ci := 2) (v := .int (tPa.size u4)) (C := RX2) (T := TX2) (N := 6) hx hb hts tb_wsX20 hown hK.1 hP 7 rfl rfl 5 (by decide) (hts _ tb_25_17) (fun _ h9 => h9) rfl dX4_fewest_113 ?_
      refine lv_iload_n hx hb dX4_fewest_116 rfl (lv_at hl 4 rfl) ?_
      refine lv_iload hx hb dX4_fewest_117 (lv_at hl 5 rfl) ?_
      refine lv_iconst (v := 1) hx hb dX4_fewest_119 (by decide) ?_
      refine lv_iadd hx hb dX4_fewest_120 ?_
      obtain ⟨u5, hu5, hf⟩ := zbd hf
      refine zthen_i hA hD hS (zrunV (As := [.int x3, .int (tPa.size u4), .int v3, .int (v4 + (1 : Int32))]) (rest := [.int v9]) hC hP hD 33 rfl rfl (hrc gP u4 gQ gT gE gM gS x3 (tPa.size u4) v3 (v4 + (1 : Int32)) u5 hu5 H.size) kRX4_38 rfl rfl ⟨by dsimp only; omega, by dsimp only; omega⟩ rfl hl.1 rfl (Nat.le_of_ble_eq_true rfl) dX4_fewest_121) (fun H locs hP hD hS => ?_)
      refine lv_iadd hx hb dX4_fewest_124 ?_
      refine lv_topi (fun x6 ex6 => ?_)
      replace hf := zl_n ex6 hf
      refine lv_istore (lv' := [(9, .int x6), (11, .int x3), (0, .ref (h 33)), (1, .int v1), (2, .int v2), (3, .int v3), (4, .int v4), (5, .int v5), (6, .int v6), (7, .int v7), (8, .int v8), (10, .int v10)]) hx hb dX4_fewest_125 hl (by decide) rfl (fun ls hl => ?_)
      refine lv_aload_n hx hb dX4_fewest_127 rfl (lv_at hl 2 rfl) ?_
      refine va_get (D := D) (ci := 4) (v := .ref (h 6)) (C := RX4) (T := TX4) (N := 3) hx hb hts tb_wsX40 hown hK.1 hP 33 rfl rfl 1 (by decide) (hts _ tb_5_1) (fun _ h9 => h9) rfl dX4_fewest_128 ?_
      refine va_get (D := D) (ci := 0) (v := .ref (h 7)) (C := RX0) (T := TX0) (N := 2) hx hb hts tb_wsX00 hown hK.1 hP 6 rfl rfl 0 (by decide) (hts _ tb_25_16) (fun _ h9 => h9) rfl dX4_fewest_131 ?_
      refine lv_iload hx hb dX4_fewest_134 (lv_at hl 1 rfl) ?_
      refine va_put (D := D) (ci := 2) (v := .int x3) (ty := .int) (C := RX2) (T := TX2) (N := 6) hx hb hts tb_wsX20 tyX2 tyX2_ok nmX2 hown hK.1 hP hD hS 7 rfl rfl 5 (by decide) (hts _ tb_25_17) (fun _ h9 => h9) rfl (by decide +kernel) rfl rfl (Nat.le_of_ble_eq_true rfl) dX4_fewest_136 (fun H locs hP hD hS => ?_)
      replace hP : va_P D vwCl (zWC cI cJ cZ h gP (tPa.s_size u5.2 x3) gQ gT gE gM gS) H := hP
      replace hD : va_D A (zWC cI cJ cZ h gP (tPa.s_size u5.2 x3) gQ gT gE gM gS) := hD
      refine lv_iinc (v := (v10 + (1 : Int32))) (lv' := [(10, .int (v10 + (1 : Int32))), (9, .int x6), (11, .int x3), (0, .ref (h 33)), (1, .int v1), (2, .int v2), (3, .int v3), (4, .int v4), (5, .int v5), (6, .int v6), (7, .int v7), (8, .int v8)]) hx hb dX4_fewest_139 hl (k := 11) rfl rfl (by decide) rfl (fun ls hl => ?_)
      refine lv_goto (tgt := 70) hx hb dX4_fewest_142 (by decide) ?_
      exact ih (tPa.s_size u5.2 x3) v1 v2 v3 v4 v5 v6 v7 v8 x6 (v10 + (1 : Int32)) H locs ls hP hD hS (lv_sub hl [3, 4, 5, 6, 7, 8, 9, 10, 11, 1, 0] rfl) hf
set_option maxHeartbeats 4000000 in
set_option maxRecDepth 100000 in
theorem t_X4_fewest_b35 {p : Program} {l : Launch} {e : Env} {s : State} {m : MethodId} {args : Array Value} {below : List Frame} {meth : Method} {c : Code} {A : Nat → Prop} {D : va_G} {cI cJ cZ : ClassId} {h : Nat → Nat} (hC : zCx p s m args meth c A D (zty cI cJ cZ) cX4_fewest RX4 12 (some .int)) (N : Nat) (f lo : Nat) (rc : tPi → tPa → Int32 → Int32 → Int32 → Int32 → Option (Int32 × tPa)) (hrc : ∀ (gP : tPi) (gR : tPa) (gQ : tPa) (gT : tTr) (gE : tTe) (gM : tMe) (gS : tSq) (b0 b1 b2 b3 : Int32) (u : Int32 × tPa), rc gP gR b0 b1 b2 b3 = some u → ∀ sz : Nat, Met l yX4_fewest (Cond.code yX4_fewest cX4_fewest 12 (some .int) :: tb_L) ({ frames := f, cells := 0, slots := 0, locals := lo } : Room) (zPre D (zty cI cJ cZ) (zWC cI cJ cZ h gP gR gQ gT gE gM gS) sz [.ref (h 33), .int b0, .int b1, .int b2, .int b3]) (zQi D (va_A (zWC cI cJ cZ h gP gR gQ gT gE gM gS) sz) (zWC cI cJ cZ h gP u.2 gQ gT gE gM gS) (u.1)) 0 0 (va_A (zWC cI cJ cZ h gP gR gQ gT gE gM gS) sz)) (gP : tPi) (gQ : tPa) (gT : tTr) (gE : tTe) (gM : tMe) (gS : tSq) (u : Int32 × tPa) : ∀ (n : Nat) (gR : tPa) (v1 : Int32) (v2 : Int32) (v3 : Int32) (v4 : Int32) (v5 : Int32) (v6 : Int32) (v7 : Int32) (H : Heap) (locs : List Loc) (ls : Array Slot), va_P D vwCl (zWC cI cJ cZ h gP gR gQ gT gE gM gS) H → va_D A (zWC cI cJ cZ h gP gR gQ gT gE gM gS) → va_S A s.heap H locs → lv_has ls 12 [(0, .ref (h 33)), (1, .int v1), (2, .int v2), (3, .int v3), (4, .int v4), (5, .int v5), (6, .int v6), (7, .int v7)] → X4_fewest_b35 N rc gP n gR v1 v2 v3 v4 v5 v6 v7 = some u → W p l e ({ frames := f + 3, cells := 0, slots := 0, locals := lo + 80 } : Room) s m args below meth c H locs 0 0 (MQ below (zQi D A (zWC cI cJ cZ h gP u.2 gQ gT gE gM gS) (u.1)) args s 0 0 A) (F0 m 35 ls []) := by
  intro n
  induction n with
  | zero =>
    intro gR v1 v2 v3 v4 v5 v6 v7 H locs ls hP hD hS hl hf
    cases hf
  | succ n ih =>
    intro gR v1 v2 v3 v4 v5 v6 v7 H locs ls hP hD hS hl hf
    obtain ⟨hx, hb, hml, hown, hts, hK, hr, hlocks, hA⟩ := id hC
    rw [X4_fewest_b35] at hf
    refine lv_iload hx hb dX4_fewest_35 (lv_at hl 7 rfl) ?_
    refine lv_iload hx hb dX4_fewest_37 (lv_at hl 5 rfl) ?_
    refine lv_icmp_ge (tgt := 160) hx hb dX4_fewest_39 (by decide) (fun c7 => ?_) (fun c7 => ?_)
    · replace hf := zif_t hf c7
      exact t_X4_fewest_b160 hC N f lo rc hrc gP gQ gT gE gM gS u gR v6 H locs ls hP hD hS (lv_sub hl [6] rfl) hf
    · replace hf := zif_f hf c7
      refine lv_aload_n hx hb dX4_fewest_42 rfl (lv_at hl 0 rfl) ?_
      refine va_get (D := D) (ci := 4) (v := .ref (h 6)) (C := RX4) (T := TX4) (N := 3) hx hb hts tb_wsX40 hown hK.1 hP 33 rfl rfl 1 (by decide) (hts _ tb_5_1) (fun _ h9 => h9) rfl dX4_fewest_43 ?_
      refine va_get (D := D) (ci := 0) (v := .ref (h 7)) (C := RX0) (T := TX0) (N := 2) hx hb hts tb_wsX00 hown hK.1 hP 6 rfl rfl 0 (by decide) (hts _ tb_25_16) (fun _ h9 => h9) rfl dX4_fewest_46 ?_
      refine va_get (D := D) (ci := 2) (v := .ref (h 8)) (C := RX2) (T := TX2) (N := 6) hx hb hts tb_wsX20 hown hK.1 hP 7 rfl rfl 0 (by decide) (hts _ tb_25_23) (fun _ h9 => h9) rfl dX4_fewest_49 ?_
      refine lv_iload hx hb dX4_fewest_52 (lv_at hl 7 rfl) ?_
      obtain ⟨h8, hf⟩ := zck_s hf
      refine va_iald hx hb hK.1 hP 8 0 rfl rfl h8 dX4_fewest_54 ?_
      refine lv_topi (fun x9 ex9 => ?_)
      replace hf := zl_n ex9 hf
      refine lv_istore (lv' := [(8, .int x9), (0, .ref (h 33)), (1, .int v1), (2, .int v2), (3, .int v3), (4, .int v4), (5, .int v5), (6, .int v6), (7, .int v7)]) hx hb dX4_fewest_55 hl (by decide) rfl (fun ls hl => ?_)
      refine lv_aload_n hx hb dX4_fewest_57 rfl (lv_at hl 1 rfl) ?_
      refine lv_iload_n hx hb dX4_fewest_58 rfl (lv_at hl 2 rfl) ?_
      refine lv_iload_n hx hb dX4_fewest_59 rfl (lv_at hl 3 rfl) ?_
      refine lv_iload hx hb dX4_fewest_60 (lv_at hl 0 rfl) ?_
      obtain ⟨u10, hu10, hf⟩ := zbd hf
      refine zthen_i hA hD hS (zrunV (As := [.int v1, .int v2, .int x9]) (rest := []) hC hP hD 33 rfl rfl (c_X4_howManyOn l D cI cJ cZ h N gP gR gQ gT gE gM gS v1 v2 x9 u10 hu10 H.size) kRX4_62 rfl rfl ⟨by dsimp only; omega, by dsimp only; omega⟩ rfl hl.1 rfl (Nat.le_of_ble_eq_true rfl) dX4_fewest_62) (fun H locs hP hD hS => ?_)
      refine lv_istore (lv' := [(9, .int u10), (8, .int x9), (0, .ref (h 33)), (1, .int v1), (2, .int v2), (3, .int v3), (4, .int v4), (5, .int v5), (6, .int v6), (7, .int v7)]) hx hb dX4_fewest_65 hl (by decide) rfl (fun ls hl => ?_)
      refine lv_iconst (v := 1) hx hb dX4_fewest_67 (by decide) ?_
      refine lv_istore (lv' := [(10, .int (1 : Int32)), (9, .int u10), (8, .int x9), (0, .ref (h 33)), (1, .int v1), (2, .int v2), (3, .int v3), (4, .int v4), (5, .int v5), (6, .int v6), (7, .int v7)]) hx hb dX4_fewest_68 hl (by decide) rfl (fun ls hl => ?_)
      exact t_X4_fewest_b70 hC N f lo rc hrc (X4_fewest_b35 N rc gP n) ih  N gR v1 v2 v3 v4 v5 v6 v7 x9 u10 (1 : Int32) H locs ls hP hD hS (lv_sub hl [3, 4, 5, 6, 7, 8, 9, 10, 2, 1, 0] rfl) hf
set_option maxHeartbeats 4000000 in
set_option maxRecDepth 100000 in
theorem t_X4_fewest_b25 {p : Program} {l : Launch} {e : Env} {s : State} {m : MethodId} {args : Array Value} {below : List Frame} {meth : Method} {c : Code} {A : Nat → Prop} {D : va_G} {cI cJ cZ : ClassId} {h : Nat → Nat} (hC : zCx p s m args meth c A D (zty cI cJ cZ) cX4_fewest RX4 12 (some .int)) (N : Nat) (f lo : Nat) (rc : tPi → tPa → Int32 → Int32 → Int32 → Int32 → Option (Int32 × tPa)) (hrc : ∀ (gP : tPi) (gR : tPa) (gQ : tPa) (gT : tTr) (gE : tTe) (gM : tMe) (gS : tSq) (b0 b1 b2 b3 : Int32) (u : Int32 × tPa), rc gP gR b0 b1 b2 b3 = some u → ∀ sz : Nat, Met l yX4_fewest (Cond.code yX4_fewest cX4_fewest 12 (some .int) :: tb_L) ({ frames := f, cells := 0, slots := 0, locals := lo } : Room) (zPre D (zty cI cJ cZ) (zWC cI cJ cZ h gP gR gQ gT gE gM gS) sz [.ref (h 33), .int b0, .int b1, .int b2, .int b3]) (zQi D (va_A (zWC cI cJ cZ h gP gR gQ gT gE gM gS) sz) (zWC cI cJ cZ h gP u.2 gQ gT gE gM gS) (u.1)) 0 0 (va_A (zWC cI cJ cZ h gP gR gQ gT gE gM gS) sz)) (gP : tPi) (gQ : tPa) (gT : tTr) (gE : tTe) (gM : tMe) (gS : tSq) (u : Int32 × tPa) : ∀ (gR : tPa) (v1 : Int32) (v2 : Int32) (v3 : Int32) (v4 : Int32) (s0 : Int32) (H : Heap) (locs : List Loc) (ls : Array Slot), va_P D vwCl (zWC cI cJ cZ h gP gR gQ gT gE gM gS) H → va_D A (zWC cI cJ cZ h gP gR gQ gT gE gM gS) → va_S A s.heap H locs → lv_has ls 12 [(0, .ref (h 33)), (1, .int v1), (2, .int v2), (3, .int v3), (4, .int v4)] → X4_fewest_b25 N rc gP gR v1 v2 v3 v4 s0 = some u → W p l e ({ frames := f + 3, cells := 0, slots := 0, locals := lo + 80 } : Room) s m args below meth c H locs 0 0 (MQ below (zQi D A (zWC cI cJ cZ h gP u.2 gQ gT gE gM gS) (u.1)) args s 0 0 A) (F0 m 25 ls [.int s0]) := by
  intro gR v1 v2 v3 v4 s0 H locs ls hP hD hS hl hf
  obtain ⟨hx, hb, hml, hown, hts, hK, hr, hlocks, hA⟩ := id hC
  unfold X4_fewest_b25 at hf
  refine lv_istore (lv' := [(5, .int s0), (0, .ref (h 33)), (1, .int v1), (2, .int v2), (3, .int v3), (4, .int v4)]) hx hb dX4_fewest_25 hl (by decide) rfl (fun ls hl => ?_)
  refine lv_sipush (v := 300) hx hb dX4_fewest_27 (by decide) ?_
  refine lv_istore (lv' := [(6, .int (300 : Int32)), (5, .int s0), (0, .ref (h 33)), (1, .int v1), (2, .int v2), (3, .int v3), (4, .int v4)]) hx hb dX4_fewest_30 hl (by decide) rfl (fun ls hl => ?_)
  refine lv_iload_n hx hb dX4_fewest_32 rfl (lv_at hl 3 rfl) ?_
  refine lv_istore (lv' := [(7, .int v1), (6, .int (300 : Int32)), (5, .int s0), (0, .ref (h 33)), (1, .int v1), (2, .int v2), (3, .int v3), (4, .int v4)]) hx hb dX4_fewest_33 hl (by decide) rfl (fun ls hl => ?_)
  exact t_X4_fewest_b35 hC N f lo rc hrc gP gQ gT gE gM gS u N gR v1 v2 v3 v4 s0 (300 : Int32) v1 H locs ls hP hD hS (lv_sub hl [3, 4, 5, 6, 7, 2, 1, 0] rfl) hf
set_option maxHeartbeats 4000000 in
set_option maxRecDepth 100000 in
theorem c_X4_fewest_body (l : Launch) (D : va_G) (cI cJ cZ : ClassId) (h : Nat → Nat) (N : Nat) (f lo : Nat) (rc : tPi → tPa → Int32 → Int32 → Int32 → Int32 → Option (Int32 × tPa)) (hrc : ∀ (gP : tPi) (gR : tPa) (gQ : tPa) (gT : tTr) (gE : tTe) (gM : tMe) (gS : tSq) (b0 b1 b2 b3 : Int32) (u : Int32 × tPa), rc gP gR b0 b1 b2 b3 = some u → ∀ sz : Nat, Met l yX4_fewest (Cond.code yX4_fewest cX4_fewest 12 (some .int) :: tb_L) ({ frames := f, cells := 0, slots := 0, locals := lo } : Room) (zPre D (zty cI cJ cZ) (zWC cI cJ cZ h gP gR gQ gT gE gM gS) sz [.ref (h 33), .int b0, .int b1, .int b2, .int b3]) (zQi D (va_A (zWC cI cJ cZ h gP gR gQ gT gE gM gS) sz) (zWC cI cJ cZ h gP u.2 gQ gT gE gM gS) (u.1)) 0 0 (va_A (zWC cI cJ cZ h gP gR gQ gT gE gM gS) sz)) (gP : tPi) (gR : tPa) (gQ : tPa) (gT : tTr) (gE : tTe) (gM : tMe) (gS : tSq) (a1 : Int32) (a2 : Int32) (a3 : Int32) (a4 : Int32) (u : Int32 × tPa) (hf : X4_fewest_body N rc gP gR a1 a2 a3 a4 = some u) (sz : Nat) : Met l yX4_fewest (Cond.code yX4_fewest cX4_fewest 12 (some .int) :: tb_L) ({ frames := f + 3, cells := 0, slots := 0, locals := lo + 80 } : Room) (zPre D (zty cI cJ cZ) (zWC cI cJ cZ h gP gR gQ gT gE gM gS) sz [.ref (h 33), .int a1, .int a2, .int a3, .int a4]) (zQi D (va_A (zWC cI cJ cZ h gP gR gQ gT gE gM gS) sz) (zWC cI cJ cZ h gP u.2 gQ gT gE gM gS) (u.1)) 0 0 (va_A (zWC cI cJ cZ h gP gR gQ gT gE gM gS) sz) := by
  refine zMet (Qc := fun A => zQi D A (zWC cI cJ cZ h gP u.2 gQ gT gE gM gS) (u.1)) (by decide) rfl (Nat.le_of_ble_eq_true rfl) ?_
  intro p e s m args below meth c A ls hC _ hP hD hS hl
  replace hl : lv_has ls 12 [(0, .ref (h 33)), (1, .int a1), (2, .int a2), (3, .int a3), (4, .int a4)] := hl
  obtain ⟨hx, hb, hml, hown, hts, hK, hr, hlocks, hA⟩ := id hC
  unfold X4_fewest_body at hf
  obtain ⟨H, hH⟩ : ∃ H, H = s.heap := ⟨_, rfl⟩
  rw [← hH] at hP
  replace hS : va_S A s.heap H [] := by rw [hH]; exact hS
  show W p l e _ s m args below meth c s.heap [] 0 0 _ _
  rw [← hH]
  clear hH
  obtain ⟨locs, hlo⟩ : ∃ x : List Loc, x = [] := ⟨_, rfl⟩
  rw [← hlo] at hS ⊢
  clear hlo
  refine lv_iload_n hx hb dX4_fewest_0 rfl (lv_at hl 1 rfl) ?_
  refine lv_iload_n hx hb dX4_fewest_1 rfl (lv_at hl 2 rfl) ?_
  refine lv_icmp_ge (tgt := 12) hx hb dX4_fewest_2 (by decide) (fun c11 => ?_) (fun c11 => ?_)
  · replace hf := zif_t hf c11
    refine lv_iconst (v := 0) hx hb dX4_fewest_12 (by decide) ?_
    have hu := Option.some.inj hf
    subst hu
    exact z_iret hC hP hD hS dX4_fewest_13
  · replace hf := zif_f hf c11
    refine lv_iload hx hb dX4_fewest_5 (lv_at hl 4 rfl) ?_
    refine lv_bipush (v := 6) hx hb dX4_fewest_7 (by decide) ?_
    refine lv_icmp_lt (tgt := 14) hx hb dX4_fewest_9 (by decide) (fun c12 => ?_) (fun c12 => ?_)
    · replace hf := zif_t hf c12
      refine lv_iload_n hx hb dX4_fewest_14 rfl (lv_at hl 3 rfl) ?_
      refine lv_if_eq (tgt := 24) hx hb dX4_fewest_15 (by decide) (fun c13 => ?_) (fun c13 => ?_)
      · replace hf := zif_t hf c13
        refine lv_iload_n hx hb dX4_fewest_24 rfl (lv_at hl 2 rfl) ?_
        exact t_X4_fewest_b25 hC N f lo rc hrc gP gQ gT gE gM gS u gR a1 a2 a3 a4 a2 H locs ls hP hD hS (lv_sub hl [0, 1, 2, 3, 4] rfl) hf
      · replace hf := zif_f hf c13
        refine lv_iload_n hx hb dX4_fewest_18 rfl (lv_at hl 1 rfl) ?_
        refine lv_iconst (v := 1) hx hb dX4_fewest_19 (by decide) ?_
        refine lv_iadd hx hb dX4_fewest_20 ?_
        refine lv_goto (tgt := 25) hx hb dX4_fewest_21 (by decide) ?_
        exact t_X4_fewest_b25 hC N f lo rc hrc gP gQ gT gE gM gS u gR a1 a2 a3 a4 (a1 + (1 : Int32)) H locs ls hP hD hS (lv_sub hl [0, 1, 2, 3, 4] rfl) hf
    · replace hf := zif_f hf c12
      refine lv_iconst (v := 0) hx hb dX4_fewest_12 (by decide) ?_
      have hu := Option.some.inj hf
      subst hu
      exact z_iret hC hP hD hS dX4_fewest_13
set_option maxHeartbeats 4000000 in
set_option maxRecDepth 100000 in
theorem c_X4_fewest (l : Launch) (D : va_G) (cI cJ cZ : ClassId) (h : Nat → Nat) (N : Nat) : ∀ (d : Nat) (gP : tPi) (gR : tPa) (gQ : tPa) (gT : tTr) (gE : tTe) (gM : tMe) (gS : tSq) (a1 : Int32) (a2 : Int32) (a3 : Int32) (a4 : Int32) (u : Int32 × tPa), X4_fewest N d gP gR a1 a2 a3 a4 = some u → ∀ (sz : Nat), Met l yX4_fewest (Cond.code yX4_fewest cX4_fewest 12 (some .int) :: tb_L) ({ frames := 3 * d, cells := 0, slots := 0, locals := 80 * d } : Room) (zPre D (zty cI cJ cZ) (zWC cI cJ cZ h gP gR gQ gT gE gM gS) sz [.ref (h 33), .int a1, .int a2, .int a3, .int a4]) (zQi D (va_A (zWC cI cJ cZ h gP gR gQ gT gE gM gS) sz) (zWC cI cJ cZ h gP u.2 gQ gT gE gM gS) (u.1)) 0 0 (va_A (zWC cI cJ cZ h gP gR gQ gT gE gM gS) sz) := by
  intro d
  induction d with
  | zero => intro gP gR gQ gT gE gM gS a1 a2 a3 a4 u hf; cases hf
  | succ d ih =>
    intro gP gR gQ gT gE gM gS a1 a2 a3 a4 u hf sz
    rw [X4_fewest] at hf
    exact c_X4_fewest_body l D cI cJ cZ h N (3 * d) (80 * d) _ ih gP gR gQ gT gE gM gS a1 a2 a3 a4 u hf sz
set_option maxHeartbeats 4000000 in
set_option maxRecDepth 100000 in
theorem c_X4_fewestOfAllTrees (l : Launch) (D : va_G) (cI cJ cZ : ClassId) (h : Nat → Nat) (N : Nat) (gP : tPi) (gR : tPa) (gQ : tPa) (gT : tTr) (gE : tTe) (gM : tMe) (gS : tSq)  (u : Int32 × tPa) (hf : X4_fewestOfAllTrees N gP gR = some u) (sz : Nat) : Met l yX4_fewestOfAllTrees (Cond.code yX4_fewestOfAllTrees cX4_fewestOfAllTrees 1 (some .int) :: tb_L) ({ frames := 22, cells := 0, slots := 0, locals := 591 } : Room) (zPre D (zty cI cJ cZ) (zWC cI cJ cZ h gP gR gQ gT gE gM gS) sz [.ref (h 33)]) (zQi D (va_A (zWC cI cJ cZ h gP gR gQ gT gE gM gS) sz) (zWC cI cJ cZ h gP u.2 gQ gT gE gM gS) (u.1)) 0 0 (va_A (zWC cI cJ cZ h gP gR gQ gT gE gM gS) sz) := by
  refine zMet (Qc := fun A => zQi D A (zWC cI cJ cZ h gP u.2 gQ gT gE gM gS) (u.1)) (by decide) rfl (Nat.le_of_ble_eq_true rfl) ?_
  intro p e s m args below meth c A ls hC _ hP hD hS hl
  replace hl : lv_has ls 1 [(0, .ref (h 33))] := hl
  obtain ⟨hx, hb, hml, hown, hts, hK, hr, hlocks, hA⟩ := id hC
  unfold X4_fewestOfAllTrees at hf
  obtain ⟨H, hH⟩ : ∃ H, H = s.heap := ⟨_, rfl⟩
  rw [← hH] at hP
  replace hS : va_S A s.heap H [] := by rw [hH]; exact hS
  show W p l e _ s m args below meth c s.heap [] 0 0 _ _
  rw [← hH]
  clear hH
  obtain ⟨locs, hlo⟩ : ∃ x : List Loc, x = [] := ⟨_, rfl⟩
  rw [← hlo] at hS ⊢
  clear hlo
  refine lv_aload_n hx hb dX4_fewestOfAllTrees_0 rfl (lv_at hl 0 rfl) ?_
  refine va_get (D := D) (ci := 4) (v := .ref (h 6)) (C := RX4) (T := TX4) (N := 3) hx hb hts tb_wsX40 hown hK.1 hP 33 rfl rfl 1 (by decide) (hts _ tb_5_1) (fun _ h9 => h9) rfl dX4_fewestOfAllTrees_1 ?_
  obtain ⟨u1, hu1, hf⟩ := zbd hf
  refine zthen_v hA hD hS (zrunV (As := []) (rest := []) hC hP hD 6 rfl rfl (c_X0_startWithAll l D cI cJ cZ h N gP gR gQ gT gE gM gS  u1 hu1 H.size) kRX4_23 rfl rfl ⟨by decide, by decide⟩ rfl hl.1 rfl (Nat.le_of_ble_eq_true rfl) dX4_fewestOfAllTrees_4) (fun H locs hP hD hS => ?_)
  refine lv_aload_n hx hb dX4_fewestOfAllTrees_7 rfl (lv_at hl 0 rfl) ?_
  refine lv_iconst (v := 0) hx hb dX4_fewestOfAllTrees_8 (by decide) ?_
  refine lv_aload_n hx hb dX4_fewestOfAllTrees_9 rfl (lv_at hl 0 rfl) ?_
  refine va_get (D := D) (ci := 4) (v := .ref (h 6)) (C := RX4) (T := TX4) (N := 3) hx hb hts tb_wsX40 hown hK.1 hP 33 rfl rfl 1 (by decide) (hts _ tb_5_1) (fun _ h9 => h9) rfl dX4_fewestOfAllTrees_10 ?_
  refine va_get (D := D) (ci := 0) (v := .ref (h 7)) (C := RX0) (T := TX0) (N := 2) hx hb hts tb_wsX00 hown hK.1 hP 6 rfl rfl 0 (by decide) (hts _ tb_25_16) (fun _ h9 => h9) rfl dX4_fewestOfAllTrees_13 ?_
  refine va_get (D := D) (ci := 2) (v := .int (tPa.size u1)) (C := RX2) (T := TX2) (N := 6) hx hb hts tb_wsX20 hown hK.1 hP 7 rfl rfl 5 (by decide) (hts _ tb_25_17) (fun _ h9 => h9) rfl dX4_fewestOfAllTrees_16 ?_
  refine lv_iconst (v := 0) hx hb dX4_fewestOfAllTrees_19 (by decide) ?_
  refine lv_iconst (v := 0) hx hb dX4_fewestOfAllTrees_20 (by decide) ?_
  obtain ⟨u2, hu2, hf⟩ := zbd hf
  refine zthen_i hA hD hS (zrunV (As := [.int (0 : Int32), .int (tPa.size u1), .int (0 : Int32), .int (0 : Int32)]) (rest := []) hC hP hD 33 rfl rfl (c_X4_fewest l D cI cJ cZ h N 7 gP u1 gQ gT gE gM gS (0 : Int32) (tPa.size u1) (0 : Int32) (0 : Int32) u2 hu2 H.size) kRX4_38 rfl rfl ⟨by decide, by decide⟩ rfl hl.1 rfl (Nat.le_of_ble_eq_true rfl) dX4_fewestOfAllTrees_21) (fun H locs hP hD hS => ?_)
  have hu := Option.some.inj hf
  subst hu
  exact z_iret hC hP hD hS dX4_fewestOfAllTrees_24
set_option maxHeartbeats 4000000 in
set_option maxRecDepth 100000 in
theorem c_X7_least (l : Launch) (D : va_G) (cI cJ cZ : ClassId) (h : Nat → Nat) (N : Nat) (gP : tPi) (gR : tPa) (gQ : tPa) (gT : tTr) (gE : tTe) (gM : tMe) (gS : tSq)  (u : Int32 × tPa) (hf : X7_least N gP gR = some u) (sz : Nat) : Met l yX7_least (Cond.code yX7_least cX7_least 1 (some .int) :: tb_L) ({ frames := 23, cells := 0, slots := 0, locals := 611 } : Room) (zPre D (zty cI cJ cZ) (zWC cI cJ cZ h gP gR gQ gT gE gM gS) sz [.ref (h 0)]) (zQi D (va_A (zWC cI cJ cZ h gP gR gQ gT gE gM gS) sz) (zWC cI cJ cZ h gP u.2 gQ gT gE gM gS) (u.1)) 0 0 (va_A (zWC cI cJ cZ h gP gR gQ gT gE gM gS) sz) := by
  refine zMet (Qc := fun A => zQi D A (zWC cI cJ cZ h gP u.2 gQ gT gE gM gS) (u.1)) (by decide) rfl (Nat.le_of_ble_eq_true rfl) ?_
  intro p e s m args below meth c A ls hC _ hP hD hS hl
  replace hl : lv_has ls 1 [(0, .ref (h 0))] := hl
  obtain ⟨hx, hb, hml, hown, hts, hK, hr, hlocks, hA⟩ := id hC
  unfold X7_least at hf
  obtain ⟨H, hH⟩ : ∃ H, H = s.heap := ⟨_, rfl⟩
  rw [← hH] at hP
  replace hS : va_S A s.heap H [] := by rw [hH]; exact hS
  show W p l e _ s m args below meth c s.heap [] 0 0 _ _
  rw [← hH]
  clear hH
  obtain ⟨locs, hlo⟩ : ∃ x : List Loc, x = [] := ⟨_, rfl⟩
  rw [← hlo] at hS ⊢
  clear hlo
  refine lv_aload_n hx hb dX7_least_0 rfl (lv_at hl 0 rfl) ?_
  refine va_get (D := D) (ci := 7) (v := .ref (h 1)) (C := RX7) (T := TX7) (N := 5) hx hb hts tb_wsX70 hown hK.1 hP 0 rfl rfl 0 (by decide) (hts _ tb_1_16) (fun _ h9 => h9) rfl dX7_least_1 ?_
  refine va_get (D := D) (ci := 3) (v := .int (tPi.size gP)) (C := RX3) (T := TX3) (N := 5) hx hb hts tb_wsX30 hown hK.1 hP 1 rfl rfl 4 (by decide) (hts _ tb_7_0) (fun _ h9 => h9) rfl dX7_least_4 ?_
  refine lv_iconst (v := 5) hx hb dX7_least_7 (by decide) ?_
  refine lv_icmp_le (tgt := 15) hx hb dX7_least_8 (by decide) (fun c1 => ?_) (fun c1 => ?_)
  · replace hf := zif_t hf c1
    refine lv_aload_n hx hb dX7_least_15 rfl (lv_at hl 0 rfl) ?_
    refine va_get (D := D) (ci := 7) (v := .ref (h 33)) (C := RX7) (T := TX7) (N := 5) hx hb hts tb_wsX70 hown hK.1 hP 0 rfl rfl 4 (by decide) (hts _ tb_2_11) (fun _ h9 => h9) rfl dX7_least_16 ?_
    obtain ⟨u2, hu2, hf⟩ := zbd hf
    refine zthen_i hA hD hS (zrunV (As := []) (rest := []) hC hP hD 33 rfl rfl (c_X4_fewestOfAllTrees l D cI cJ cZ h N gP gR gQ gT gE gM gS  u2 hu2 H.size) kRX7_193 rfl rfl ⟨by decide, by decide⟩ rfl hl.1 rfl (Nat.le_of_ble_eq_true rfl) dX7_least_19) (fun H locs hP hD hS => ?_)
    have hu := Option.some.inj hf
    subst hu
    exact z_iret hC hP hD hS dX7_least_22
  · replace hf := zif_f hf c1
    refine lv_iconst (v := -1) hx hb dX7_least_11 (by decide) ?_
    refine lv_goto (tgt := 22) hx hb dX7_least_12 (by decide) ?_
    have hu := Option.some.inj hf
    subst hu
    exact z_iret hC hP hD hS dX7_least_22
set_option maxHeartbeats 4000000 in
set_option maxRecDepth 100000 in
theorem t_X4_setSequence_b27 {p : Program} {l : Launch} {e : Env} {s : State} {m : MethodId} {args : Array Value} {below : List Frame} {meth : Method} {c : Code} {A : Nat → Prop} {D : va_G} {cI cJ cZ : ClassId} {h : Nat → Nat} (hC : zCx p s m args meth c A D (zty cI cJ cZ) cX4_setSequence RX4 7 none) (N : Nat) (gP : tPi) (gR : tPa) (gQ : tPa) (gT : tTr) (gE : tTe) (gM : tMe) (u : tSq) : ∀ (n : Nat) (gS : tSq) (v3 : Int32) (v4 : Int32) (H : Heap) (locs : List Loc) (ls : Array Slot), va_P D vwCl (zWC cI cJ cZ h gP gR gQ gT gE gM gS) H → va_D A (zWC cI cJ cZ h gP gR gQ gT gE gM gS) → va_S A s.heap H locs → lv_has ls 7 [(0, .ref (h 33)), (3, .int v3), (4, .int v4)] → X4_setSequence_b27 N n gS v3 v4 = some u → W p l e ({ frames := 0, cells := 0, slots := 0, locals := 0 } : Room) s m args below meth c H locs 0 0 (MQ below (zQv D A (zWC cI cJ cZ h gP gR gQ gT gE gM u)) args s 0 0 A) (F0 m 27 ls []) := by
  intro n
  induction n with
  | zero =>
    intro gS v3 v4 H locs ls hP hD hS hl hf
    cases hf
  | succ n ih =>
    intro gS v3 v4 H locs ls hP hD hS hl hf
    obtain ⟨hx, hb, hml, hown, hts, hK, hr, hlocks, hA⟩ := id hC
    rw [X4_setSequence_b27] at hf
    refine lv_iload hx hb dX4_setSequence_27 (lv_at hl 2 rfl) ?_
    refine lv_if_le (tgt := 85) hx hb dX4_setSequence_29 (by decide) (fun c1 => ?_) (fun c1 => ?_)
    · replace hf := zif_t hf c1
      have hu := Option.some.inj hf
      subst hu
      exact z_vret hC hP hD hS dX4_setSequence_85
    · replace hf := zif_f hf c1
      refine lv_iload_n hx hb dX4_setSequence_32 rfl (lv_at hl 1 rfl) ?_
      refine lv_iload hx hb dX4_setSequence_33 (lv_at hl 2 rfl) ?_
      refine lv_iconst (v := 1) hx hb dX4_setSequence_35 (by decide) ?_
      refine lv_iadd hx hb dX4_setSequence_36 ?_
      obtain ⟨h2, hf⟩ := zcz_s hf
      refine lv_irem hx hb dX4_setSequence_37 h2 ?_
      refine lv_topi (fun x3 ex3 => ?_)
      replace hf := zl_n ex3 hf
      refine lv_istore (lv' := [(5, .int x3), (0, .ref (h 33)), (3, .int v3), (4, .int v4)]) hx hb dX4_setSequence_38 hl (by decide) rfl (fun ls hl => ?_)
      refine lv_iload_n hx hb dX4_setSequence_40 rfl (lv_at hl 2 rfl) ?_
      refine lv_iload hx hb dX4_setSequence_41 (lv_at hl 3 rfl) ?_
      refine lv_iconst (v := 1) hx hb dX4_setSequence_43 (by decide) ?_
      refine lv_iadd hx hb dX4_setSequence_44 ?_
      obtain ⟨h4, hf⟩ := zcz_s hf
      refine lv_idiv hx hb dX4_setSequence_45 h4 ?_
      refine lv_topi (fun x5 ex5 => ?_)
      replace hf := zl_n ex5 hf
      refine lv_istore_n (lv' := [(3, .int x5), (5, .int x3), (0, .ref (h 33)), (4, .int v4)]) hx hb dX4_setSequence_46 rfl hl (by decide) rfl (fun ls hl => ?_)
      refine lv_aload_n hx hb dX4_setSequence_47 rfl (lv_at hl 2 rfl) ?_
      refine va_get (D := D) (ci := 4) (v := .ref (h 34)) (C := RX4) (T := TX4) (N := 3) hx hb hts tb_wsX40 hown hK.1 hP 33 rfl rfl 2 (by decide) (hts _ tb_4_23) (fun _ h9 => h9) rfl dX4_setSequence_48 ?_
      refine lv_iload hx hb dX4_setSequence_51 (lv_at hl 3 rfl) ?_
      obtain ⟨h6, hf⟩ := zck_s hf
      refine va_iald hx hb hK.1 hP 34 0 rfl rfl h6 dX4_setSequence_53 ?_
      refine lv_topi (fun x7 ex7 => ?_)
      replace hf := zl_n ex7 hf
      refine lv_istore (lv' := [(6, .int x7), (3, .int x5), (5, .int x3), (0, .ref (h 33)), (4, .int v4)]) hx hb dX4_setSequence_54 hl (by decide) rfl (fun ls hl => ?_)
      refine lv_aload_n hx hb dX4_setSequence_56 rfl (lv_at hl 3 rfl) ?_
      refine va_get (D := D) (ci := 4) (v := .ref (h 34)) (C := RX4) (T := TX4) (N := 3) hx hb hts tb_wsX40 hown hK.1 hP 33 rfl rfl 2 (by decide) (hts _ tb_4_23) (fun _ h9 => h9) rfl dX4_setSequence_57 ?_
      refine lv_iload hx hb dX4_setSequence_60 (lv_at hl 4 rfl) ?_
      refine lv_aload_n hx hb dX4_setSequence_62 rfl (lv_at hl 3 rfl) ?_
      refine va_get (D := D) (ci := 4) (v := .ref (h 34)) (C := RX4) (T := TX4) (N := 3) hx hb hts tb_wsX40 hown hK.1 hP 33 rfl rfl 2 (by decide) (hts _ tb_4_23) (fun _ h9 => h9) rfl dX4_setSequence_63 ?_
      refine lv_iload hx hb dX4_setSequence_66 (lv_at hl 2 rfl) ?_
      obtain ⟨h8, hf⟩ := zck_s hf
      refine va_iald hx hb hK.1 hP 34 0 rfl rfl h8 dX4_setSequence_68 ?_
      obtain ⟨h9, hf⟩ := zck_s hf
      refine va_iast hx hb hK.1 hP hD hS 34 0 rfl rfl h9 dX4_setSequence_69 (fun H locs hP hD hS => ?_)
      replace hP : va_P D vwCl (zWC cI cJ cZ h gP gR gQ gT gE gM (tSq.s_sequence gS (upd (tSq.sequence gS) v4.toNatClampNeg ((tSq.sequence gS) x3.toNatClampNeg)))) H := hP
      replace hD : va_D A (zWC cI cJ cZ h gP gR gQ gT gE gM (tSq.s_sequence gS (upd (tSq.sequence gS) v4.toNatClampNeg ((tSq.sequence gS) x3.toNatClampNeg)))) := hD
      refine lv_aload_n hx hb dX4_setSequence_70 rfl (lv_at hl 3 rfl) ?_
      refine va_get (D := D) (ci := 4) (v := .ref (h 34)) (C := RX4) (T := TX4) (N := 3) hx hb hts tb_wsX40 hown hK.1 hP 33 rfl rfl 2 (by decide) (hts _ tb_4_23) (fun _ h9 => h9) rfl dX4_setSequence_71 ?_
      refine lv_iload hx hb dX4_setSequence_74 (lv_at hl 2 rfl) ?_
      refine lv_iload hx hb dX4_setSequence_76 (lv_at hl 0 rfl) ?_
      obtain ⟨h10, hf⟩ := zck_s hf
      refine va_iast hx hb hK.1 hP hD hS 34 0 rfl rfl h10 dX4_setSequence_78 (fun H locs hP hD hS => ?_)
      replace hP : va_P D vwCl (zWC cI cJ cZ h gP gR gQ gT gE gM (tSq.s_sequence gS (upd (upd (tSq.sequence gS) v4.toNatClampNeg ((tSq.sequence gS) x3.toNatClampNeg)) x3.toNatClampNeg x7))) H := hP
      replace hD : va_D A (zWC cI cJ cZ h gP gR gQ gT gE gM (tSq.s_sequence gS (upd (upd (tSq.sequence gS) v4.toNatClampNeg ((tSq.sequence gS) x3.toNatClampNeg)) x3.toNatClampNeg x7))) := hD
      refine lv_iinc (v := (v4 + (-1 : Int32))) (lv' := [(4, .int (v4 + (-1 : Int32))), (6, .int x7), (3, .int x5), (5, .int x3), (0, .ref (h 33))]) hx hb dX4_setSequence_79 hl (k := 4) rfl rfl (by decide) rfl (fun ls hl => ?_)
      refine lv_goto (tgt := 27) hx hb dX4_setSequence_82 (by decide) ?_
      exact ih (tSq.s_sequence gS (upd (upd (tSq.sequence gS) v4.toNatClampNeg ((tSq.sequence gS) x3.toNatClampNeg)) x3.toNatClampNeg x7)) x5 (v4 + (-1 : Int32)) H locs ls hP hD hS (lv_sub hl [4, 2, 0] rfl) hf
set_option maxHeartbeats 4000000 in
set_option maxRecDepth 100000 in
theorem t_X4_setSequence_b20 {p : Program} {l : Launch} {e : Env} {s : State} {m : MethodId} {args : Array Value} {below : List Frame} {meth : Method} {c : Code} {A : Nat → Prop} {D : va_G} {cI cJ cZ : ClassId} {h : Nat → Nat} (hC : zCx p s m args meth c A D (zty cI cJ cZ) cX4_setSequence RX4 7 none) (N : Nat) (gP : tPi) (gR : tPa) (gQ : tPa) (gT : tTr) (gE : tTe) (gM : tMe) (u : tSq) : ∀ (gS : tSq) (v1 : Int32) (v2 : Int32) (H : Heap) (locs : List Loc) (ls : Array Slot), va_P D vwCl (zWC cI cJ cZ h gP gR gQ gT gE gM gS) H → va_D A (zWC cI cJ cZ h gP gR gQ gT gE gM gS) → va_S A s.heap H locs → lv_has ls 7 [(0, .ref (h 33)), (1, .int v1), (2, .int v2)] → X4_setSequence_b20 N gS v1 v2 = some u → W p l e ({ frames := 0, cells := 0, slots := 0, locals := 0 } : Room) s m args below meth c H locs 0 0 (MQ below (zQv D A (zWC cI cJ cZ h gP gR gQ gT gE gM u)) args s 0 0 A) (F0 m 20 ls []) := by
  intro gS v1 v2 H locs ls hP hD hS hl hf
  obtain ⟨hx, hb, hml, hown, hts, hK, hr, hlocks, hA⟩ := id hC
  unfold X4_setSequence_b20 at hf
  refine lv_iload_n hx hb dX4_setSequence_20 rfl (lv_at hl 1 rfl) ?_
  refine lv_istore_n (lv' := [(3, .int v1), (0, .ref (h 33)), (1, .int v1), (2, .int v2)]) hx hb dX4_setSequence_21 rfl hl (by decide) rfl (fun ls hl => ?_)
  refine lv_iload_n hx hb dX4_setSequence_22 rfl (lv_at hl 3 rfl) ?_
  refine lv_iconst (v := 1) hx hb dX4_setSequence_23 (by decide) ?_
  refine lv_isub hx hb dX4_setSequence_24 ?_
  refine lv_topi (fun x11 ex11 => ?_)
  replace hf := zl_n ex11 hf
  refine lv_istore (lv' := [(4, .int x11), (3, .int v1), (0, .ref (h 33)), (1, .int v1), (2, .int v2)]) hx hb dX4_setSequence_25 hl (by decide) rfl (fun ls hl => ?_)
  exact t_X4_setSequence_b27 hC N gP gR gQ gT gE gM u N gS v1 x11 H locs ls hP hD hS (lv_sub hl [2, 1, 0] rfl) hf
set_option maxHeartbeats 4000000 in
set_option maxRecDepth 100000 in
theorem t_X4_setSequence_b2 {p : Program} {l : Launch} {e : Env} {s : State} {m : MethodId} {args : Array Value} {below : List Frame} {meth : Method} {c : Code} {A : Nat → Prop} {D : va_G} {cI cJ cZ : ClassId} {h : Nat → Nat} (hC : zCx p s m args meth c A D (zty cI cJ cZ) cX4_setSequence RX4 7 none) (N : Nat) (gP : tPi) (gR : tPa) (gQ : tPa) (gT : tTr) (gE : tTe) (gM : tMe) (u : tSq) : ∀ (n : Nat) (gS : tSq) (v1 : Int32) (v2 : Int32) (v3 : Int32) (H : Heap) (locs : List Loc) (ls : Array Slot), va_P D vwCl (zWC cI cJ cZ h gP gR gQ gT gE gM gS) H → va_D A (zWC cI cJ cZ h gP gR gQ gT gE gM gS) → va_S A s.heap H locs → lv_has ls 7 [(0, .ref (h 33)), (1, .int v1), (2, .int v2), (3, .int v3)] → X4_setSequence_b2 N n gS v1 v2 v3 = some u → W p l e ({ frames := 0, cells := 0, slots := 0, locals := 0 } : Room) s m args below meth c H locs 0 0 (MQ below (zQv D A (zWC cI cJ cZ h gP gR gQ gT gE gM u)) args s 0 0 A) (F0 m 2 ls []) := by
  intro n
  induction n with
  | zero =>
    intro gS v1 v2 v3 H locs ls hP hD hS hl hf
    cases hf
  | succ n ih =>
    intro gS v1 v2 v3 H locs ls hP hD hS hl hf
    obtain ⟨hx, hb, hml, hown, hts, hK, hr, hlocks, hA⟩ := id hC
    rw [X4_setSequence_b2] at hf
    refine lv_iload_n hx hb dX4_setSequence_2 rfl (lv_at hl 3 rfl) ?_
    refine lv_iload_n hx hb dX4_setSequence_3 rfl (lv_at hl 2 rfl) ?_
    refine lv_icmp_ge (tgt := 20) hx hb dX4_setSequence_4 (by decide) (fun c12 => ?_) (fun c12 => ?_)
    · replace hf := zif_t hf c12
      exact t_X4_setSequence_b20 hC N gP gR gQ gT gE gM u gS v1 v2 H locs ls hP hD hS (lv_sub hl [0, 1, 2] rfl) hf
    · replace hf := zif_f hf c12
      refine lv_aload_n hx hb dX4_setSequence_7 rfl (lv_at hl 0 rfl) ?_
      refine va_get (D := D) (ci := 4) (v := .ref (h 34)) (C := RX4) (T := TX4) (N := 3) hx hb hts tb_wsX40 hown hK.1 hP 33 rfl rfl 2 (by decide) (hts _ tb_4_23) (fun _ h9 => h9) rfl dX4_setSequence_8 ?_
      refine lv_iload_n hx hb dX4_setSequence_11 rfl (lv_at hl 3 rfl) ?_
      refine lv_iload_n hx hb dX4_setSequence_12 rfl (lv_at hl 3 rfl) ?_
      obtain ⟨h13, hf⟩ := zck_s hf
      refine va_iast hx hb hK.1 hP hD hS 34 0 rfl rfl h13 dX4_setSequence_13 (fun H locs hP hD hS => ?_)
      replace hP : va_P D vwCl (zWC cI cJ cZ h gP gR gQ gT gE gM (tSq.s_sequence gS (upd (tSq.sequence gS) v3.toNatClampNeg v3))) H := hP
      replace hD : va_D A (zWC cI cJ cZ h gP gR gQ gT gE gM (tSq.s_sequence gS (upd (tSq.sequence gS) v3.toNatClampNeg v3))) := hD
      refine lv_iinc (v := (v3 + (1 : Int32))) (lv' := [(3, .int (v3 + (1 : Int32))), (0, .ref (h 33)), (1, .int v1), (2, .int v2)]) hx hb dX4_setSequence_14 hl (k := 3) rfl rfl (by decide) rfl (fun ls hl => ?_)
      refine lv_goto (tgt := 2) hx hb dX4_setSequence_17 (by decide) ?_
      exact ih (tSq.s_sequence gS (upd (tSq.sequence gS) v3.toNatClampNeg v3)) v1 v2 (v3 + (1 : Int32)) H locs ls hP hD hS (lv_sub hl [1, 2, 3, 0] rfl) hf
set_option maxHeartbeats 4000000 in
set_option maxRecDepth 100000 in
theorem c_X4_setSequence (l : Launch) (D : va_G) (cI cJ cZ : ClassId) (h : Nat → Nat) (N : Nat) (gP : tPi) (gR : tPa) (gQ : tPa) (gT : tTr) (gE : tTe) (gM : tMe) (gS : tSq) (a1 : Int32) (a2 : Int32) (u : tSq) (hf : X4_setSequence N gS a1 a2 = some u) (sz : Nat) : Met l yX4_setSequence (Cond.code yX4_setSequence cX4_setSequence 7 none :: tb_L) ({ frames := 0, cells := 0, slots := 0, locals := 0 } : Room) (zPre D (zty cI cJ cZ) (zWC cI cJ cZ h gP gR gQ gT gE gM gS) sz [.ref (h 33), .int a1, .int a2]) (zQv D (va_A (zWC cI cJ cZ h gP gR gQ gT gE gM gS) sz) (zWC cI cJ cZ h gP gR gQ gT gE gM u)) 0 0 (va_A (zWC cI cJ cZ h gP gR gQ gT gE gM gS) sz) := by
  refine zMet (Qc := fun A => zQv D A (zWC cI cJ cZ h gP gR gQ gT gE gM u)) (by decide) rfl (Nat.le_of_ble_eq_true rfl) ?_
  intro p e s m args below meth c A ls hC _ hP hD hS hl
  replace hl : lv_has ls 7 [(0, .ref (h 33)), (1, .int a1), (2, .int a2)] := hl
  obtain ⟨hx, hb, hml, hown, hts, hK, hr, hlocks, hA⟩ := id hC
  unfold X4_setSequence at hf
  obtain ⟨H, hH⟩ : ∃ H, H = s.heap := ⟨_, rfl⟩
  rw [← hH] at hP
  replace hS : va_S A s.heap H [] := by rw [hH]; exact hS
  show W p l e _ s m args below meth c s.heap [] 0 0 _ _
  rw [← hH]
  clear hH
  obtain ⟨locs, hlo⟩ : ∃ x : List Loc, x = [] := ⟨_, rfl⟩
  rw [← hlo] at hS ⊢
  clear hlo
  refine lv_iconst (v := 0) hx hb dX4_setSequence_0 (by decide) ?_
  refine lv_istore_n (lv' := [(3, .int (0 : Int32)), (0, .ref (h 33)), (1, .int a1), (2, .int a2)]) hx hb dX4_setSequence_1 rfl hl (by decide) rfl (fun ls hl => ?_)
  exact t_X4_setSequence_b2 hC N gP gR gQ gT gE gM u N gS a1 a2 (0 : Int32) H locs ls hP hD hS (lv_sub hl [1, 2, 3, 0] rfl) hf
set_option maxHeartbeats 4000000 in
set_option maxRecDepth 100000 in
theorem t_X4_partsOverAllOrders_b110 {p : Program} {l : Launch} {e : Env} {s : State} {m : MethodId} {args : Array Value} {below : List Frame} {meth : Method} {c : Code} {A : Nat → Prop} {D : va_G} {cI cJ cZ : ClassId} {h : Nat → Nat} (hC : zCx p s m args meth c A D (zty cI cJ cZ) cX4_partsOverAllOrders RX4 6 (some .int)) (N : Nat) (gP : tPi) (gQ : tPa) (gT : tTr) (gE : tTe) (gM : tMe) (u : Int32 × tPa × tSq) : ∀ (gR : tPa) (gS : tSq) (v3 : Int32) (H : Heap) (locs : List Loc) (ls : Array Slot), va_P D vwCl (zWC cI cJ cZ h gP gR gQ gT gE gM gS) H → va_D A (zWC cI cJ cZ h gP gR gQ gT gE gM gS) → va_S A s.heap H locs → lv_has ls 6 [(3, .int v3)] → X4_partsOverAllOrders_b110 N gP gR gS v3 = some u → W p l e ({ frames := 22, cells := 0, slots := 0, locals := 591 } : Room) s m args below meth c H locs 0 0 (MQ below (zQi D A (zWC cI cJ cZ h gP u.2.1 gQ gT gE gM u.2.2) (u.1)) args s 0 0 A) (F0 m 110 ls []) := by
  intro gR gS v3 H locs ls hP hD hS hl hf
  obtain ⟨hx, hb, hml, hown, hts, hK, hr, hlocks, hA⟩ := id hC
  unfold X4_partsOverAllOrders_b110 at hf
  refine lv_iload_n hx hb dX4_partsOverAllOrders_110 rfl (lv_at hl 0 rfl) ?_
  have hu := Option.some.inj hf
  subst hu
  exact z_iret hC hP hD hS dX4_partsOverAllOrders_111
set_option maxHeartbeats 4000000 in
set_option maxRecDepth 100000 in
theorem t_X4_partsOverAllOrders_b93 {p : Program} {l : Launch} {e : Env} {s : State} {m : MethodId} {args : Array Value} {below : List Frame} {meth : Method} {c : Code} {A : Nat → Prop} {D : va_G} {cI cJ cZ : ClassId} {h : Nat → Nat} (hC : zCx p s m args meth c A D (zty cI cJ cZ) cX4_partsOverAllOrders RX4 6 (some .int)) (N : Nat) {gP : tPi} {gQ : tPa} {gT : tTr} {gE : tTe} {gM : tMe} {u : Int32 × tPa × tSq} (k37 : tPa → tSq → Int32 → Int32 → Int32 → Int32 → Option (Int32 × tPa × tSq)) (hk37 : ∀ (gR : tPa) (gS : tSq) (v1 : Int32) (v2 : Int32) (v3 : Int32) (v4 : Int32) (H : Heap) (locs : List Loc) (ls : Array Slot), va_P D vwCl (zWC cI cJ cZ h gP gR gQ gT gE gM gS) H → va_D A (zWC cI cJ cZ h gP gR gQ gT gE gM gS) → va_S A s.heap H locs → lv_has ls 6 [(0, .ref (h 33)), (1, .int v1), (2, .int v2), (3, .int v3), (4, .int v4)] → k37 gR gS v1 v2 v3 v4 = some u → W p l e ({ frames := 22, cells := 0, slots := 0, locals := 591 } : Room) s m args below meth c H locs 0 0 (MQ below (zQi D A (zWC cI cJ cZ h gP u.2.1 gQ gT gE gM u.2.2) (u.1)) args s 0 0 A) (F0 m 37 ls [])) : ∀ (gR : tPa) (gS : tSq) (v1 : Int32) (v2 : Int32) (v3 : Int32) (v4 : Int32) (H : Heap) (locs : List Loc) (ls : Array Slot), va_P D vwCl (zWC cI cJ cZ h gP gR gQ gT gE gM gS) H → va_D A (zWC cI cJ cZ h gP gR gQ gT gE gM gS) → va_S A s.heap H locs → lv_has ls 6 [(0, .ref (h 33)), (1, .int v1), (2, .int v2), (3, .int v3), (4, .int v4)] → X4_partsOverAllOrders_b93 N k37 gP gR gS v1 v2 v3 v4 = some u → W p l e ({ frames := 22, cells := 0, slots := 0, locals := 591 } : Room) s m args below meth c H locs 0 0 (MQ below (zQi D A (zWC cI cJ cZ h gP u.2.1 gQ gT gE gM u.2.2) (u.1)) args s 0 0 A) (F0 m 93 ls []) := by
  intro gR gS v1 v2 v3 v4 H locs ls hP hD hS hl hf
  obtain ⟨hx, hb, hml, hown, hts, hK, hr, hlocks, hA⟩ := id hC
  unfold X4_partsOverAllOrders_b93 at hf
  refine lv_iload_n hx hb dX4_partsOverAllOrders_93 rfl (lv_at hl 3 rfl) ?_
  refine lv_aload_n hx hb dX4_partsOverAllOrders_94 rfl (lv_at hl 0 rfl) ?_
  refine lv_iconst (v := 0) hx hb dX4_partsOverAllOrders_95 (by decide) ?_
  refine lv_iload_n hx hb dX4_partsOverAllOrders_96 rfl (lv_at hl 1 rfl) ?_
  refine lv_iconst (v := 1) hx hb dX4_partsOverAllOrders_97 (by decide) ?_
  refine lv_iconst (v := 0) hx hb dX4_partsOverAllOrders_98 (by decide) ?_
  obtain ⟨u1, hu1, hf⟩ := zbd hf
  refine zthen_i hA hD hS (zrunV (As := [.int (0 : Int32), .int v1, .int (1 : Int32), .int (0 : Int32)]) (rest := [.int v3]) hC hP hD 33 rfl rfl (c_X4_fewest l D cI cJ cZ h N 7 gP gR gQ gT gE gM gS (0 : Int32) v1 (1 : Int32) (0 : Int32) u1 hu1 H.size) kRX4_38 rfl rfl ⟨by decide, by decide⟩ rfl hl.1 rfl (Nat.le_of_ble_eq_true rfl) dX4_partsOverAllOrders_99) (fun H locs hP hD hS => ?_)
  refine lv_iadd hx hb dX4_partsOverAllOrders_102 ?_
  refine lv_topi (fun x2 ex2 => ?_)
  replace hf := zl_n ex2 hf
  refine lv_istore_n (lv' := [(3, .int x2), (0, .ref (h 33)), (1, .int v1), (2, .int v2), (4, .int v4)]) hx hb dX4_partsOverAllOrders_103 rfl hl (by decide) rfl (fun ls hl => ?_)
  refine lv_iinc (v := (v4 + (1 : Int32))) (lv' := [(4, .int (v4 + (1 : Int32))), (3, .int x2), (0, .ref (h 33)), (1, .int v1), (2, .int v2)]) hx hb dX4_partsOverAllOrders_104 hl (k := 4) rfl rfl (by decide) rfl (fun ls hl => ?_)
  refine lv_goto (tgt := 37) hx hb dX4_partsOverAllOrders_107 (by decide) ?_
  exact hk37 u1.2 gS v1 v2 x2 (v4 + (1 : Int32)) H locs ls hP hD hS (lv_sub hl [2, 3, 4, 1, 0] rfl) hf
set_option maxHeartbeats 4000000 in
set_option maxRecDepth 100000 in
theorem t_X4_partsOverAllOrders_b64 {p : Program} {l : Launch} {e : Env} {s : State} {m : MethodId} {args : Array Value} {below : List Frame} {meth : Method} {c : Code} {A : Nat → Prop} {D : va_G} {cI cJ cZ : ClassId} {h : Nat → Nat} (hC : zCx p s m args meth c A D (zty cI cJ cZ) cX4_partsOverAllOrders RX4 6 (some .int)) (N : Nat) {gP : tPi} {gQ : tPa} {gT : tTr} {gE : tTe} {gM : tMe} {u : Int32 × tPa × tSq} (k37 : tPa → tSq → Int32 → Int32 → Int32 → Int32 → Option (Int32 × tPa × tSq)) (hk37 : ∀ (gR : tPa) (gS : tSq) (v1 : Int32) (v2 : Int32) (v3 : Int32) (v4 : Int32) (H : Heap) (locs : List Loc) (ls : Array Slot), va_P D vwCl (zWC cI cJ cZ h gP gR gQ gT gE gM gS) H → va_D A (zWC cI cJ cZ h gP gR gQ gT gE gM gS) → va_S A s.heap H locs → lv_has ls 6 [(0, .ref (h 33)), (1, .int v1), (2, .int v2), (3, .int v3), (4, .int v4)] → k37 gR gS v1 v2 v3 v4 = some u → W p l e ({ frames := 22, cells := 0, slots := 0, locals := 591 } : Room) s m args below meth c H locs 0 0 (MQ below (zQi D A (zWC cI cJ cZ h gP u.2.1 gQ gT gE gM u.2.2) (u.1)) args s 0 0 A) (F0 m 37 ls [])) : ∀ (n : Nat) (gR : tPa) (gS : tSq) (v1 : Int32) (v2 : Int32) (v3 : Int32) (v4 : Int32) (v5 : Int32) (H : Heap) (locs : List Loc) (ls : Array Slot), va_P D vwCl (zWC cI cJ cZ h gP gR gQ gT gE gM gS) H → va_D A (zWC cI cJ cZ h gP gR gQ gT gE gM gS) → va_S A s.heap H locs → lv_has ls 6 [(0, .ref (h 33)), (1, .int v1), (2, .int v2), (3, .int v3), (4, .int v4), (5, .int v5)] → X4_partsOverAllOrders_b64 N k37 gP n gR gS v1 v2 v3 v4 v5 = some u → W p l e ({ frames := 22, cells := 0, slots := 0, locals := 591 } : Room) s m args below meth c H locs 0 0 (MQ below (zQi D A (zWC cI cJ cZ h gP u.2.1 gQ gT gE gM u.2.2) (u.1)) args s 0 0 A) (F0 m 64 ls []) := by
  intro n
  induction n with
  | zero =>
    intro gR gS v1 v2 v3 v4 v5 H locs ls hP hD hS hl hf
    cases hf
  | succ n ih =>
    intro gR gS v1 v2 v3 v4 v5 H locs ls hP hD hS hl hf
    obtain ⟨hx, hb, hml, hown, hts, hK, hr, hlocks, hA⟩ := id hC
    rw [X4_partsOverAllOrders_b64] at hf
    refine lv_iload hx hb dX4_partsOverAllOrders_64 (lv_at hl 5 rfl) ?_
    refine lv_iload_n hx hb dX4_partsOverAllOrders_66 rfl (lv_at hl 1 rfl) ?_
    refine lv_icmp_ge (tgt := 93) hx hb dX4_partsOverAllOrders_67 (by decide) (fun c3 => ?_) (fun c3 => ?_)
    · replace hf := zif_t hf c3
      exact t_X4_partsOverAllOrders_b93 hC N k37 hk37  gR gS v1 v2 v3 v4 H locs ls hP hD hS (lv_sub hl [0, 1, 2, 3, 4] rfl) hf
    · replace hf := zif_f hf c3
      refine lv_aload_n hx hb dX4_partsOverAllOrders_70 rfl (lv_at hl 0 rfl) ?_
      refine va_get (D := D) (ci := 4) (v := .ref (h 6)) (C := RX4) (T := TX4) (N := 3) hx hb hts tb_wsX40 hown hK.1 hP 33 rfl rfl 1 (by decide) (hts _ tb_5_1) (fun _ h9 => h9) rfl dX4_partsOverAllOrders_71 ?_
      refine va_get (D := D) (ci := 0) (v := .ref (h 7)) (C := RX0) (T := TX0) (N := 2) hx hb hts tb_wsX00 hown hK.1 hP 6 rfl rfl 0 (by decide) (hts _ tb_25_16) (fun _ h9 => h9) rfl dX4_partsOverAllOrders_74 ?_
      refine lv_aload_n hx hb dX4_partsOverAllOrders_77 rfl (lv_at hl 0 rfl) ?_
      refine va_get (D := D) (ci := 4) (v := .ref (h 34)) (C := RX4) (T := TX4) (N := 3) hx hb hts tb_wsX40 hown hK.1 hP 33 rfl rfl 2 (by decide) (hts _ tb_4_23) (fun _ h9 => h9) rfl dX4_partsOverAllOrders_78 ?_
      refine lv_iload hx hb dX4_partsOverAllOrders_81 (lv_at hl 5 rfl) ?_
      obtain ⟨h4, hf⟩ := zck_s hf
      refine va_iald hx hb hK.1 hP 34 0 rfl rfl h4 dX4_partsOverAllOrders_83 ?_
      obtain ⟨u5, hu5, hf⟩ := zbd hf
      refine zthen_v hA hD hS (zrunV (As := [.int ((tSq.sequence gS) v5.toNatClampNeg)]) (rest := []) hC hP hD 7 rfl rfl (c_X2_addWhole_R l D cI cJ cZ h  gP gR gQ gT gE gM gS ((tSq.sequence gS) v5.toNatClampNeg) u5 hu5 H.size) kRX4_55 rfl rfl ⟨by decide, by decide⟩ rfl hl.1 rfl (Nat.le_of_ble_eq_true rfl) dX4_partsOverAllOrders_84) (fun H locs hP hD hS => ?_)
      refine lv_iinc (v := (v5 + (1 : Int32))) (lv' := [(5, .int (v5 + (1 : Int32))), (0, .ref (h 33)), (1, .int v1), (2, .int v2), (3, .int v3), (4, .int v4)]) hx hb dX4_partsOverAllOrders_87 hl (k := 5) rfl rfl (by decide) rfl (fun ls hl => ?_)
      refine lv_goto (tgt := 64) hx hb dX4_partsOverAllOrders_90 (by decide) ?_
      exact ih u5 gS v1 v2 v3 v4 (v5 + (1 : Int32)) H locs ls hP hD hS (lv_sub hl [1, 2, 3, 4, 5, 0] rfl) hf
set_option maxHeartbeats 4000000 in
set_option maxRecDepth 100000 in
theorem t_X4_partsOverAllOrders_b37 {p : Program} {l : Launch} {e : Env} {s : State} {m : MethodId} {args : Array Value} {below : List Frame} {meth : Method} {c : Code} {A : Nat → Prop} {D : va_G} {cI cJ cZ : ClassId} {h : Nat → Nat} (hC : zCx p s m args meth c A D (zty cI cJ cZ) cX4_partsOverAllOrders RX4 6 (some .int)) (N : Nat) (gP : tPi) (gQ : tPa) (gT : tTr) (gE : tTe) (gM : tMe) (u : Int32 × tPa × tSq) : ∀ (n : Nat) (gR : tPa) (gS : tSq) (v1 : Int32) (v2 : Int32) (v3 : Int32) (v4 : Int32) (H : Heap) (locs : List Loc) (ls : Array Slot), va_P D vwCl (zWC cI cJ cZ h gP gR gQ gT gE gM gS) H → va_D A (zWC cI cJ cZ h gP gR gQ gT gE gM gS) → va_S A s.heap H locs → lv_has ls 6 [(0, .ref (h 33)), (1, .int v1), (2, .int v2), (3, .int v3), (4, .int v4)] → X4_partsOverAllOrders_b37 N gP n gR gS v1 v2 v3 v4 = some u → W p l e ({ frames := 22, cells := 0, slots := 0, locals := 591 } : Room) s m args below meth c H locs 0 0 (MQ below (zQi D A (zWC cI cJ cZ h gP u.2.1 gQ gT gE gM u.2.2) (u.1)) args s 0 0 A) (F0 m 37 ls []) := by
  intro n
  induction n with
  | zero =>
    intro gR gS v1 v2 v3 v4 H locs ls hP hD hS hl hf
    cases hf
  | succ n ih =>
    intro gR gS v1 v2 v3 v4 H locs ls hP hD hS hl hf
    obtain ⟨hx, hb, hml, hown, hts, hK, hr, hlocks, hA⟩ := id hC
    rw [X4_partsOverAllOrders_b37] at hf
    refine lv_iload hx hb dX4_partsOverAllOrders_37 (lv_at hl 4 rfl) ?_
    refine lv_iload_n hx hb dX4_partsOverAllOrders_39 rfl (lv_at hl 2 rfl) ?_
    refine lv_icmp_ge (tgt := 110) hx hb dX4_partsOverAllOrders_40 (by decide) (fun c6 => ?_) (fun c6 => ?_)
    · replace hf := zif_t hf c6
      exact t_X4_partsOverAllOrders_b110 hC N gP gQ gT gE gM u gR gS v3 H locs ls hP hD hS (lv_sub hl [3] rfl) hf
    · replace hf := zif_f hf c6
      refine lv_aload_n hx hb dX4_partsOverAllOrders_43 rfl (lv_at hl 0 rfl) ?_
      refine lv_iload hx hb dX4_partsOverAllOrders_44 (lv_at hl 4 rfl) ?_
      refine lv_iload_n hx hb dX4_partsOverAllOrders_46 rfl (lv_at hl 1 rfl) ?_
      obtain ⟨u7, hu7, hf⟩ := zbd hf
      refine zthen_v hA hD hS (zrunV (As := [.int v4, .int v1]) (rest := []) hC hP hD 33 rfl rfl (c_X4_setSequence l D cI cJ cZ h N gP gR gQ gT gE gM gS v4 v1 u7 hu7 H.size) kRX4_51 rfl rfl ⟨by decide, by decide⟩ rfl hl.1 rfl (Nat.le_of_ble_eq_true rfl) dX4_partsOverAllOrders_47) (fun H locs hP hD hS => ?_)
      refine lv_aload_n hx hb dX4_partsOverAllOrders_50 rfl (lv_at hl 0 rfl) ?_
      refine va_get (D := D) (ci := 4) (v := .ref (h 6)) (C := RX4) (T := TX4) (N := 3) hx hb hts tb_wsX40 hown hK.1 hP 33 rfl rfl 1 (by decide) (hts _ tb_5_1) (fun _ h9 => h9) rfl dX4_partsOverAllOrders_51 ?_
      refine va_get (D := D) (ci := 0) (v := .ref (h 7)) (C := RX0) (T := TX0) (N := 2) hx hb hts tb_wsX00 hown hK.1 hP 6 rfl rfl 0 (by decide) (hts _ tb_25_16) (fun _ h9 => h9) rfl dX4_partsOverAllOrders_54 ?_
      refine lv_iconst (v := 0) hx hb dX4_partsOverAllOrders_57 (by decide) ?_
      refine va_put (D := D) (ci := 2) (v := .int (0 : Int32)) (ty := .int) (C := RX2) (T := TX2) (N := 6) hx hb hts tb_wsX20 tyX2 tyX2_ok nmX2 hown hK.1 hP hD hS 7 rfl rfl 5 (by decide) (hts _ tb_25_17) (fun _ h9 => h9) rfl (by decide +kernel) rfl rfl (Nat.le_of_ble_eq_true rfl) dX4_partsOverAllOrders_58 (fun H locs hP hD hS => ?_)
      replace hP : va_P D vwCl (zWC cI cJ cZ h gP (tPa.s_size gR (0 : Int32)) gQ gT gE gM u7) H := hP
      replace hD : va_D A (zWC cI cJ cZ h gP (tPa.s_size gR (0 : Int32)) gQ gT gE gM u7) := hD
      refine lv_iconst (v := 0) hx hb dX4_partsOverAllOrders_61 (by decide) ?_
      refine lv_istore (lv' := [(5, .int (0 : Int32)), (0, .ref (h 33)), (1, .int v1), (2, .int v2), (3, .int v3), (4, .int v4)]) hx hb dX4_partsOverAllOrders_62 hl (by decide) rfl (fun ls hl => ?_)
      exact t_X4_partsOverAllOrders_b64 hC N (X4_partsOverAllOrders_b37 N gP n) ih  N (tPa.s_size gR (0 : Int32)) u7 v1 v2 v3 v4 (0 : Int32) H locs ls hP hD hS (lv_sub hl [1, 2, 3, 4, 5, 0] rfl) hf
set_option maxHeartbeats 4000000 in
set_option maxRecDepth 100000 in
theorem t_X4_partsOverAllOrders_b32 {p : Program} {l : Launch} {e : Env} {s : State} {m : MethodId} {args : Array Value} {below : List Frame} {meth : Method} {c : Code} {A : Nat → Prop} {D : va_G} {cI cJ cZ : ClassId} {h : Nat → Nat} (hC : zCx p s m args meth c A D (zty cI cJ cZ) cX4_partsOverAllOrders RX4 6 (some .int)) (N : Nat) (gP : tPi) (gQ : tPa) (gT : tTr) (gE : tTe) (gM : tMe) (u : Int32 × tPa × tSq) : ∀ (gR : tPa) (gS : tSq) (v1 : Int32) (v2 : Int32) (H : Heap) (locs : List Loc) (ls : Array Slot), va_P D vwCl (zWC cI cJ cZ h gP gR gQ gT gE gM gS) H → va_D A (zWC cI cJ cZ h gP gR gQ gT gE gM gS) → va_S A s.heap H locs → lv_has ls 6 [(0, .ref (h 33)), (1, .int v1), (2, .int v2)] → X4_partsOverAllOrders_b32 N gP gR gS v1 v2 = some u → W p l e ({ frames := 22, cells := 0, slots := 0, locals := 591 } : Room) s m args below meth c H locs 0 0 (MQ below (zQi D A (zWC cI cJ cZ h gP u.2.1 gQ gT gE gM u.2.2) (u.1)) args s 0 0 A) (F0 m 32 ls []) := by
  intro gR gS v1 v2 H locs ls hP hD hS hl hf
  obtain ⟨hx, hb, hml, hown, hts, hK, hr, hlocks, hA⟩ := id hC
  unfold X4_partsOverAllOrders_b32 at hf
  refine lv_iconst (v := 0) hx hb dX4_partsOverAllOrders_32 (by decide) ?_
  refine lv_istore_n (lv' := [(3, .int (0 : Int32)), (0, .ref (h 33)), (1, .int v1), (2, .int v2)]) hx hb dX4_partsOverAllOrders_33 rfl hl (by decide) rfl (fun ls hl => ?_)
  refine lv_iconst (v := 0) hx hb dX4_partsOverAllOrders_34 (by decide) ?_
  refine lv_istore (lv' := [(4, .int (0 : Int32)), (3, .int (0 : Int32)), (0, .ref (h 33)), (1, .int v1), (2, .int v2)]) hx hb dX4_partsOverAllOrders_35 hl (by decide) rfl (fun ls hl => ?_)
  exact t_X4_partsOverAllOrders_b37 hC N gP gQ gT gE gM u N gR gS v1 v2 (0 : Int32) (0 : Int32) H locs ls hP hD hS (lv_sub hl [2, 3, 4, 1, 0] rfl) hf
set_option maxHeartbeats 4000000 in
set_option maxRecDepth 100000 in
theorem t_X4_partsOverAllOrders_b17 {p : Program} {l : Launch} {e : Env} {s : State} {m : MethodId} {args : Array Value} {below : List Frame} {meth : Method} {c : Code} {A : Nat → Prop} {D : va_G} {cI cJ cZ : ClassId} {h : Nat → Nat} (hC : zCx p s m args meth c A D (zty cI cJ cZ) cX4_partsOverAllOrders RX4 6 (some .int)) (N : Nat) (gP : tPi) (gQ : tPa) (gT : tTr) (gE : tTe) (gM : tMe) (u : Int32 × tPa × tSq) : ∀ (n : Nat) (gR : tPa) (gS : tSq) (v1 : Int32) (v2 : Int32) (v3 : Int32) (H : Heap) (locs : List Loc) (ls : Array Slot), va_P D vwCl (zWC cI cJ cZ h gP gR gQ gT gE gM gS) H → va_D A (zWC cI cJ cZ h gP gR gQ gT gE gM gS) → va_S A s.heap H locs → lv_has ls 6 [(0, .ref (h 33)), (1, .int v1), (2, .int v2), (3, .int v3)] → X4_partsOverAllOrders_b17 N gP n gR gS v1 v2 v3 = some u → W p l e ({ frames := 22, cells := 0, slots := 0, locals := 591 } : Room) s m args below meth c H locs 0 0 (MQ below (zQi D A (zWC cI cJ cZ h gP u.2.1 gQ gT gE gM u.2.2) (u.1)) args s 0 0 A) (F0 m 17 ls []) := by
  intro n
  induction n with
  | zero =>
    intro gR gS v1 v2 v3 H locs ls hP hD hS hl hf
    cases hf
  | succ n ih =>
    intro gR gS v1 v2 v3 H locs ls hP hD hS hl hf
    obtain ⟨hx, hb, hml, hown, hts, hK, hr, hlocks, hA⟩ := id hC
    rw [X4_partsOverAllOrders_b17] at hf
    refine lv_iload_n hx hb dX4_partsOverAllOrders_17 rfl (lv_at hl 3 rfl) ?_
    refine lv_iload_n hx hb dX4_partsOverAllOrders_18 rfl (lv_at hl 1 rfl) ?_
    refine lv_icmp_gt (tgt := 32) hx hb dX4_partsOverAllOrders_19 (by decide) (fun c8 => ?_) (fun c8 => ?_)
    · replace hf := zif_t hf c8
      exact t_X4_partsOverAllOrders_b32 hC N gP gQ gT gE gM u gR gS v1 v2 H locs ls hP hD hS (lv_sub hl [0, 1, 2] rfl) hf
    · replace hf := zif_f hf c8
      refine lv_iload_n hx hb dX4_partsOverAllOrders_22 rfl (lv_at hl 2 rfl) ?_
      refine lv_iload_n hx hb dX4_partsOverAllOrders_23 rfl (lv_at hl 3 rfl) ?_
      refine lv_imul hx hb dX4_partsOverAllOrders_24 ?_
      refine lv_topi (fun x9 ex9 => ?_)
      replace hf := zl_n ex9 hf
      refine lv_istore_n (lv' := [(2, .int x9), (0, .ref (h 33)), (1, .int v1), (3, .int v3)]) hx hb dX4_partsOverAllOrders_25 rfl hl (by decide) rfl (fun ls hl => ?_)
      refine lv_iinc (v := (v3 + (1 : Int32))) (lv' := [(3, .int (v3 + (1 : Int32))), (2, .int x9), (0, .ref (h 33)), (1, .int v1)]) hx hb dX4_partsOverAllOrders_26 hl (k := 3) rfl rfl (by decide) rfl (fun ls hl => ?_)
      refine lv_goto (tgt := 17) hx hb dX4_partsOverAllOrders_29 (by decide) ?_
      exact ih gR gS v1 x9 (v3 + (1 : Int32)) H locs ls hP hD hS (lv_sub hl [2, 3, 1, 0] rfl) hf
set_option maxHeartbeats 4000000 in
set_option maxRecDepth 100000 in
theorem c_X4_partsOverAllOrders (l : Launch) (D : va_G) (cI cJ cZ : ClassId) (h : Nat → Nat) (N : Nat) (gP : tPi) (gR : tPa) (gQ : tPa) (gT : tTr) (gE : tTe) (gM : tMe) (gS : tSq)  (u : Int32 × tPa × tSq) (hf : X4_partsOverAllOrders N gP gR gS = some u) (sz : Nat) : Met l yX4_partsOverAllOrders (Cond.code yX4_partsOverAllOrders cX4_partsOverAllOrders 6 (some .int) :: tb_L) ({ frames := 22, cells := 0, slots := 0, locals := 591 } : Room) (zPre D (zty cI cJ cZ) (zWC cI cJ cZ h gP gR gQ gT gE gM gS) sz [.ref (h 33)]) (zQi D (va_A (zWC cI cJ cZ h gP gR gQ gT gE gM gS) sz) (zWC cI cJ cZ h gP u.2.1 gQ gT gE gM u.2.2) (u.1)) 0 0 (va_A (zWC cI cJ cZ h gP gR gQ gT gE gM gS) sz) := by
  refine zMet (Qc := fun A => zQi D A (zWC cI cJ cZ h gP u.2.1 gQ gT gE gM u.2.2) (u.1)) (by decide) rfl (Nat.le_of_ble_eq_true rfl) ?_
  intro p e s m args below meth c A ls hC _ hP hD hS hl
  replace hl : lv_has ls 6 [(0, .ref (h 33))] := hl
  obtain ⟨hx, hb, hml, hown, hts, hK, hr, hlocks, hA⟩ := id hC
  unfold X4_partsOverAllOrders at hf
  obtain ⟨H, hH⟩ : ∃ H, H = s.heap := ⟨_, rfl⟩
  rw [← hH] at hP
  replace hS : va_S A s.heap H [] := by rw [hH]; exact hS
  show W p l e _ s m args below meth c s.heap [] 0 0 _ _
  rw [← hH]
  clear hH
  obtain ⟨locs, hlo⟩ : ∃ x : List Loc, x = [] := ⟨_, rfl⟩
  rw [← hlo] at hS ⊢
  clear hlo
  refine lv_aload_n hx hb dX4_partsOverAllOrders_0 rfl (lv_at hl 0 rfl) ?_
  refine va_get (D := D) (ci := 4) (v := .ref (h 1)) (C := RX4) (T := TX4) (N := 3) hx hb hts tb_wsX40 hown hK.1 hP 33 rfl rfl 0 (by decide) (hts _ tb_5_0) (fun _ h9 => h9) rfl dX4_partsOverAllOrders_1 ?_
  refine va_get (D := D) (ci := 3) (v := .int (tPi.size gP)) (C := RX3) (T := TX3) (N := 5) hx hb hts tb_wsX30 hown hK.1 hP 1 rfl rfl 4 (by decide) (hts _ tb_27_6) (fun _ h9 => h9) rfl dX4_partsOverAllOrders_4 ?_
  refine lv_bipush (v := 6) hx hb dX4_partsOverAllOrders_7 (by decide) ?_
  refine va_mmin hx hb (hml.trans hl.1.symm) hown (hts _ tb_26_0) (hts _ tb_21_22) (hts _ tb_11_23) (hts _ tb_21_23) (by decide) (Nat.le_of_ble_eq_true rfl) (Nat.zero_le _) (Nat.zero_le _) dX4_partsOverAllOrders_9 ?_
  refine lv_topi (fun x10 ex10 => ?_)
  replace hf := zl_n ex10 hf
  refine lv_istore_n (lv' := [(1, .int x10), (0, .ref (h 33))]) hx hb dX4_partsOverAllOrders_12 rfl hl (by decide) rfl (fun ls hl => ?_)
  refine lv_iconst (v := 1) hx hb dX4_partsOverAllOrders_13 (by decide) ?_
  refine lv_istore_n (lv' := [(2, .int (1 : Int32)), (1, .int x10), (0, .ref (h 33))]) hx hb dX4_partsOverAllOrders_14 rfl hl (by decide) rfl (fun ls hl => ?_)
  refine lv_iconst (v := 2) hx hb dX4_partsOverAllOrders_15 (by decide) ?_
  refine lv_istore_n (lv' := [(3, .int (2 : Int32)), (2, .int (1 : Int32)), (1, .int x10), (0, .ref (h 33))]) hx hb dX4_partsOverAllOrders_16 rfl hl (by decide) rfl (fun ls hl => ?_)
  exact t_X4_partsOverAllOrders_b17 hC N gP gQ gT gE gM u N gR gS x10 (1 : Int32) (2 : Int32) H locs ls hP hD hS (lv_sub hl [3, 2, 1, 0] rfl) hf
set_option maxHeartbeats 4000000 in
set_option maxRecDepth 100000 in
theorem c_X7_sum (l : Launch) (D : va_G) (cI cJ cZ : ClassId) (h : Nat → Nat) (N : Nat) (gP : tPi) (gR : tPa) (gQ : tPa) (gT : tTr) (gE : tTe) (gM : tMe) (gS : tSq)  (u : Int32 × tPa × tSq) (hf : X7_sum N gP gR gS = some u) (sz : Nat) : Met l yX7_sum (Cond.code yX7_sum cX7_sum 1 (some .int) :: tb_L) ({ frames := 23, cells := 0, slots := 0, locals := 616 } : Room) (zPre D (zty cI cJ cZ) (zWC cI cJ cZ h gP gR gQ gT gE gM gS) sz [.ref (h 0)]) (zQi D (va_A (zWC cI cJ cZ h gP gR gQ gT gE gM gS) sz) (zWC cI cJ cZ h gP u.2.1 gQ gT gE gM u.2.2) (u.1)) 0 0 (va_A (zWC cI cJ cZ h gP gR gQ gT gE gM gS) sz) := by
  refine zMet (Qc := fun A => zQi D A (zWC cI cJ cZ h gP u.2.1 gQ gT gE gM u.2.2) (u.1)) (by decide) rfl (Nat.le_of_ble_eq_true rfl) ?_
  intro p e s m args below meth c A ls hC _ hP hD hS hl
  replace hl : lv_has ls 1 [(0, .ref (h 0))] := hl
  obtain ⟨hx, hb, hml, hown, hts, hK, hr, hlocks, hA⟩ := id hC
  unfold X7_sum at hf
  obtain ⟨H, hH⟩ : ∃ H, H = s.heap := ⟨_, rfl⟩
  rw [← hH] at hP
  replace hS : va_S A s.heap H [] := by rw [hH]; exact hS
  show W p l e _ s m args below meth c s.heap [] 0 0 _ _
  rw [← hH]
  clear hH
  obtain ⟨locs, hlo⟩ : ∃ x : List Loc, x = [] := ⟨_, rfl⟩
  rw [← hlo] at hS ⊢
  clear hlo
  refine lv_aload_n hx hb dX7_sum_0 rfl (lv_at hl 0 rfl) ?_
  refine va_get (D := D) (ci := 7) (v := .ref (h 1)) (C := RX7) (T := TX7) (N := 5) hx hb hts tb_wsX70 hown hK.1 hP 0 rfl rfl 0 (by decide) (hts _ tb_1_16) (fun _ h9 => h9) rfl dX7_sum_1 ?_
  refine va_get (D := D) (ci := 3) (v := .int (tPi.size gP)) (C := RX3) (T := TX3) (N := 5) hx hb hts tb_wsX30 hown hK.1 hP 1 rfl rfl 4 (by decide) (hts _ tb_7_0) (fun _ h9 => h9) rfl dX7_sum_4 ?_
  refine lv_bipush (v := 6) hx hb dX7_sum_7 (by decide) ?_
  refine lv_icmp_le (tgt := 16) hx hb dX7_sum_9 (by decide) (fun c1 => ?_) (fun c1 => ?_)
  · replace hf := zif_t hf c1
    refine lv_aload_n hx hb dX7_sum_16 rfl (lv_at hl 0 rfl) ?_
    refine va_get (D := D) (ci := 7) (v := .ref (h 33)) (C := RX7) (T := TX7) (N := 5) hx hb hts tb_wsX70 hown hK.1 hP 0 rfl rfl 4 (by decide) (hts _ tb_2_11) (fun _ h9 => h9) rfl dX7_sum_17 ?_
    obtain ⟨u2, hu2, hf⟩ := zbd hf
    refine zthen_i hA hD hS (zrunV (As := []) (rest := []) hC hP hD 33 rfl rfl (c_X4_partsOverAllOrders l D cI cJ cZ h N gP gR gQ gT gE gM gS  u2 hu2 H.size) kRX7_197 rfl rfl ⟨by decide, by decide⟩ rfl hl.1 rfl (Nat.le_of_ble_eq_true rfl) dX7_sum_20) (fun H locs hP hD hS => ?_)
    have hu := Option.some.inj hf
    subst hu
    exact z_iret hC hP hD hS dX7_sum_23
  · replace hf := zif_f hf c1
    refine lv_iconst (v := -1) hx hb dX7_sum_12 (by decide) ?_
    refine lv_goto (tgt := 23) hx hb dX7_sum_13 (by decide) ?_
    have hu := Option.some.inj hf
    subst hu
    exact z_iret hC hP hD hS dX7_sum_23
set_option maxHeartbeats 4000000 in
set_option maxRecDepth 100000 in
theorem t_X3_placeAt_b97 {p : Program} {l : Launch} {e : Env} {s : State} {m : MethodId} {args : Array Value} {below : List Frame} {meth : Method} {c : Code} {A : Nat → Prop} {D : va_G} {cI cJ cZ : ClassId} {h : Nat → Nat} (hC : zCx p s m args meth c A D (zty cI cJ cZ) cX3_placeAt RX3 11 (some .long)) (N : Nat) (gP : tPi) (gR : tPa) (gQ : tPa) (gT : tTr) (gE : tTe) (gM : tMe) (gS : tSq) (u : Int64) : ∀ (v9 : Int64) (s0 : Int64) (H : Heap) (locs : List Loc) (ls : Array Slot), va_P D vwCl (zWC cI cJ cZ h gP gR gQ gT gE gM gS) H → va_D A (zWC cI cJ cZ h gP gR gQ gT gE gM gS) → va_S A s.heap H locs → lv_has ls 11 [(9, .long v9)] → X3_placeAt_b97 N gP v9 s0 = some u → W p l e ({ frames := 2, cells := 0, slots := 0, locals := 51 } : Room) s m args below meth c H locs 0 0 (MQ below (zQl D A (zWC cI cJ cZ h gP gR gQ gT gE gM gS) (u)) args s 0 0 A) (F0 m 97 ls [.long s0]) := by
  intro v9 s0 H locs ls hP hD hS hl hf
  obtain ⟨hx, hb, hml, hown, hts, hK, hr, hlocks, hA⟩ := id hC
  unfold X3_placeAt_b97 at hf
  refine lv_lload hx hb dX3_placeAt_97 (lv_at hl 0 rfl) ?_
  obtain ⟨h1, hf⟩ := zczl_s hf
  refine lv_ldiv hx hb dX3_placeAt_99 h1 ?_
  have hu := Option.some.inj hf
  subst hu
  exact z_lret hC hP hD hS dX3_placeAt_100
set_option maxHeartbeats 4000000 in
set_option maxRecDepth 100000 in
theorem t_X3_placeAt_b74 {p : Program} {l : Launch} {e : Env} {s : State} {m : MethodId} {args : Array Value} {below : List Frame} {meth : Method} {c : Code} {A : Nat → Prop} {D : va_G} {cI cJ cZ : ClassId} {h : Nat → Nat} (hC : zCx p s m args meth c A D (zty cI cJ cZ) cX3_placeAt RX3 11 (some .long)) (N : Nat) (gP : tPi) (gR : tPa) (gQ : tPa) (gT : tTr) (gE : tTe) (gM : tMe) (gS : tSq) (u : Int64) : ∀ (v3 : Int32) (v4 : Int32) (v5 : Int64) (v7 : Int64) (v9 : Int64) (H : Heap) (locs : List Loc) (ls : Array Slot), va_P D vwCl (zWC cI cJ cZ h gP gR gQ gT gE gM gS) H → va_D A (zWC cI cJ cZ h gP gR gQ gT gE gM gS) → va_S A s.heap H locs → lv_has ls 11 [(3, .int v3), (4, .int v4), (5, .long v5), (7, .long v7), (9, .long v9)] → X3_placeAt_b74 N gP v3 v4 v5 v7 v9 = some u → W p l e ({ frames := 2, cells := 0, slots := 0, locals := 51 } : Room) s m args below meth c H locs 0 0 (MQ below (zQl D A (zWC cI cJ cZ h gP gR gQ gT gE gM gS) (u)) args s 0 0 A) (F0 m 74 ls []) := by
  intro v3 v4 v5 v7 v9 H locs ls hP hD hS hl hf
  obtain ⟨hx, hb, hml, hown, hts, hK, hr, hlocks, hA⟩ := id hC
  unfold X3_placeAt_b74 at hf
  refine lv_iload hx hb dX3_placeAt_74 (lv_at hl 1 rfl) ?_
  refine lv_if_ne (tgt := 84) hx hb dX3_placeAt_76 (by decide) (fun c2 => ?_) (fun c2 => ?_)
  · replace hf := zif_f hf c2
    refine lv_iload hx hb dX3_placeAt_84 (lv_at hl 1 rfl) ?_
    refine lv_iconst (v := 1) hx hb dX3_placeAt_86 (by decide) ?_
    refine lv_icmp_ne (tgt := 95) hx hb dX3_placeAt_87 (by decide) (fun c3 => ?_) (fun c3 => ?_)
    · replace hf := zif_f hf c3
      refine lv_iload_n hx hb dX3_placeAt_95 rfl (lv_at hl 0 rfl) ?_
      refine lv_i2l (v := v3.toInt64) hx hb dX3_placeAt_96 rfl ?_
      exact t_X3_placeAt_b97 hC N gP gR gQ gT gE gM gS u v9 v3.toInt64 H locs ls hP hD hS (lv_sub hl [4] rfl) hf
    · replace hf := zif_t hf c3
      refine lv_lload hx hb dX3_placeAt_90 (lv_at hl 3 rfl) ?_
      refine lv_goto (tgt := 97) hx hb dX3_placeAt_92 (by decide) ?_
      exact t_X3_placeAt_b97 hC N gP gR gQ gT gE gM gS u v9 v7 H locs ls hP hD hS (lv_sub hl [4] rfl) hf
  · replace hf := zif_t hf c2
    refine lv_lload hx hb dX3_placeAt_79 (lv_at hl 2 rfl) ?_
    refine lv_goto (tgt := 97) hx hb dX3_placeAt_81 (by decide) ?_
    exact t_X3_placeAt_b97 hC N gP gR gQ gT gE gM gS u v9 v5 H locs ls hP hD hS (lv_sub hl [4] rfl) hf
set_option maxHeartbeats 4000000 in
set_option maxRecDepth 100000 in
theorem c_X3_placeAt (l : Launch) (D : va_G) (cI cJ cZ : ClassId) (h : Nat → Nat) (N : Nat) (gP : tPi) (gR : tPa) (gQ : tPa) (gT : tTr) (gE : tTe) (gM : tMe) (gS : tSq) (a1 : Int32) (a2 : Int32) (a3 : Int32) (a4 : Int32) (u : Int64) (hf : X3_placeAt N gP a1 a2 a3 a4 = some u) (sz : Nat) : Met l yX3_placeAt (Cond.code yX3_placeAt cX3_placeAt 11 (some .long) :: tb_L) ({ frames := 2, cells := 0, slots := 0, locals := 51 } : Room) (zPre D (zty cI cJ cZ) (zWC cI cJ cZ h gP gR gQ gT gE gM gS) sz [.ref (h 1), .int a1, .int a2, .int a3, .int a4]) (zQl D (va_A (zWC cI cJ cZ h gP gR gQ gT gE gM gS) sz) (zWC cI cJ cZ h gP gR gQ gT gE gM gS) (u)) 0 0 (va_A (zWC cI cJ cZ h gP gR gQ gT gE gM gS) sz) := by
  refine zMet (Qc := fun A => zQl D A (zWC cI cJ cZ h gP gR gQ gT gE gM gS) (u)) (by decide) rfl (Nat.le_of_ble_eq_true rfl) ?_
  intro p e s m args below meth c A ls hC _ hP hD hS hl
  replace hl : lv_has ls 11 [(0, .ref (h 1)), (1, .int a1), (2, .int a2), (3, .int a3), (4, .int a4)] := hl
  obtain ⟨hx, hb, hml, hown, hts, hK, hr, hlocks, hA⟩ := id hC
  unfold X3_placeAt at hf
  obtain ⟨H, hH⟩ : ∃ H, H = s.heap := ⟨_, rfl⟩
  rw [← hH] at hP
  replace hS : va_S A s.heap H [] := by rw [hH]; exact hS
  show W p l e _ s m args below meth c s.heap [] 0 0 _ _
  rw [← hH]
  clear hH
  obtain ⟨locs, hlo⟩ : ∃ x : List Loc, x = [] := ⟨_, rfl⟩
  rw [← hlo] at hS ⊢
  clear hlo
  refine lv_aload_n hx hb dX3_placeAt_0 rfl (lv_at hl 0 rfl) ?_
  refine va_get (D := D) (ci := 3) (v := .ref (h 2)) (C := RX3) (T := TX3) (N := 5) hx hb hts tb_wsX30 hown hK.1 hP 1 rfl rfl 0 (by decide) (hts _ tb_2_16) (fun _ h9 => h9) rfl dX3_placeAt_1 ?_
  refine lv_iload_n hx hb dX3_placeAt_4 rfl (lv_at hl 1 rfl) ?_
  obtain ⟨h4, hf⟩ := zck_s hf
  refine va_iald hx hb hK.1 hP 2 0 rfl rfl h4 dX3_placeAt_5 ?_
  refine lv_i2l (v := (((tPi.x0 gP) a1.toNatClampNeg)).toInt64) hx hb dX3_placeAt_6 rfl ?_
  refine lv_iload_n hx hb dX3_placeAt_7 rfl (lv_at hl 3 rfl) ?_
  refine lv_iload_n hx hb dX3_placeAt_8 rfl (lv_at hl 2 rfl) ?_
  refine lv_isub hx hb dX3_placeAt_9 ?_
  refine lv_i2l (v := ((a3 - a2)).toInt64) hx hb dX3_placeAt_10 rfl ?_
  refine lv_lmul hx hb dX3_placeAt_11 ?_
  refine lv_aload_n hx hb dX3_placeAt_12 rfl (lv_at hl 0 rfl) ?_
  refine va_get (D := D) (ci := 3) (v := .ref (h 4)) (C := RX3) (T := TX3) (N := 5) hx hb hts tb_wsX30 hown hK.1 hP 1 rfl rfl 2 (by decide) (hts _ tb_2_18) (fun _ h9 => h9) rfl dX3_placeAt_13 ?_
  refine lv_iload_n hx hb dX3_placeAt_16 rfl (lv_at hl 1 rfl) ?_
  obtain ⟨h5, hf⟩ := zck_s hf
  refine va_iald hx hb hK.1 hP 4 0 rfl rfl h5 dX3_placeAt_17 ?_
  refine lv_i2l (v := (((tPi.x1 gP) a1.toNatClampNeg)).toInt64) hx hb dX3_placeAt_18 rfl ?_
  refine lv_iload_n hx hb dX3_placeAt_19 rfl (lv_at hl 2 rfl) ?_
  refine lv_i2l (v := a2.toInt64) hx hb dX3_placeAt_20 rfl ?_
  refine lv_lmul hx hb dX3_placeAt_21 ?_
  refine lv_ladd hx hb dX3_placeAt_22 ?_
  refine lv_topl (fun x6 ex6 => ?_)
  replace hf := zl_n ex6 hf
  refine lv_lstore (lv' := [(5, .long x6), (0, .ref (h 1)), (1, .int a1), (2, .int a2), (3, .int a3), (4, .int a4)]) hx hb dX3_placeAt_23 hl (by decide) rfl (fun ls hl => ?_)
  refine lv_aload_n hx hb dX3_placeAt_25 rfl (lv_at hl 1 rfl) ?_
  refine va_get (D := D) (ci := 3) (v := .ref (h 3)) (C := RX3) (T := TX3) (N := 5) hx hb hts tb_wsX30 hown hK.1 hP 1 rfl rfl 1 (by decide) (hts _ tb_2_17) (fun _ h9 => h9) rfl dX3_placeAt_26 ?_
  refine lv_iload_n hx hb dX3_placeAt_29 rfl (lv_at hl 2 rfl) ?_
  obtain ⟨h7, hf⟩ := zck_s hf
  refine va_iald hx hb hK.1 hP 3 0 rfl rfl h7 dX3_placeAt_30 ?_
  refine lv_i2l (v := (((tPi.y0 gP) a1.toNatClampNeg)).toInt64) hx hb dX3_placeAt_31 rfl ?_
  refine lv_iload_n hx hb dX3_placeAt_32 rfl (lv_at hl 4 rfl) ?_
  refine lv_iload_n hx hb dX3_placeAt_33 rfl (lv_at hl 3 rfl) ?_
  refine lv_isub hx hb dX3_placeAt_34 ?_
  refine lv_i2l (v := ((a3 - a2)).toInt64) hx hb dX3_placeAt_35 rfl ?_
  refine lv_lmul hx hb dX3_placeAt_36 ?_
  refine lv_aload_n hx hb dX3_placeAt_37 rfl (lv_at hl 1 rfl) ?_
  refine va_get (D := D) (ci := 3) (v := .ref (h 5)) (C := RX3) (T := TX3) (N := 5) hx hb hts tb_wsX30 hown hK.1 hP 1 rfl rfl 3 (by decide) (hts _ tb_2_19) (fun _ h9 => h9) rfl dX3_placeAt_38 ?_
  refine lv_iload_n hx hb dX3_placeAt_41 rfl (lv_at hl 2 rfl) ?_
  obtain ⟨h8, hf⟩ := zck_s hf
  refine va_iald hx hb hK.1 hP 5 0 rfl rfl h8 dX3_placeAt_42 ?_
  refine lv_i2l (v := (((tPi.y1 gP) a1.toNatClampNeg)).toInt64) hx hb dX3_placeAt_43 rfl ?_
  refine lv_iload_n hx hb dX3_placeAt_44 rfl (lv_at hl 3 rfl) ?_
  refine lv_i2l (v := a2.toInt64) hx hb dX3_placeAt_45 rfl ?_
  refine lv_lmul hx hb dX3_placeAt_46 ?_
  refine lv_ladd hx hb dX3_placeAt_47 ?_
  refine lv_topl (fun x9 ex9 => ?_)
  replace hf := zl_n ex9 hf
  refine lv_lstore (lv' := [(7, .long x9), (5, .long x6), (0, .ref (h 1)), (1, .int a1), (2, .int a2), (3, .int a3), (4, .int a4)]) hx hb dX3_placeAt_48 hl (by decide) rfl (fun ls hl => ?_)
  refine lv_lload hx hb dX3_placeAt_50 (lv_at hl 1 rfl) ?_
  refine lv_lload hx hb dX3_placeAt_52 (lv_at hl 0 rfl) ?_
  obtain ⟨u10, hu10, hf⟩ := zbd hf
  refine zthen_l hA hD hS (zrunSN (na := 2) (As := [.long x6, .long x9]) (rest := []) hC hP hD hK.2.2.1 (c_X7_commonDivisor l D cI cJ cZ h N gP gR gQ gT gE gM gS x6 x9 u10 hu10 H.size) tb_18_18 tb_1_2 tb_18_19 (by decide +kernel) rfl rfl ⟨by decide, by decide⟩ rfl hl.1 rfl (Nat.le_of_ble_eq_true rfl) dX3_placeAt_54) (fun H locs hP hD hS => ?_)
  refine lv_iload_n hx hb dX3_placeAt_57 rfl (lv_at hl 5 rfl) ?_
  refine lv_i2l (v := a3.toInt64) hx hb dX3_placeAt_58 rfl ?_
  obtain ⟨u11, hu11, hf⟩ := zbd hf
  refine zthen_l hA hD hS (zrunSN (na := 2) (As := [.long u10, .long a3.toInt64]) (rest := []) hC hP hD hK.2.2.1 (c_X7_commonDivisor l D cI cJ cZ h N gP gR gQ gT gE gM gS u10 a3.toInt64 u11 hu11 H.size) tb_18_18 tb_1_2 tb_18_19 (by decide +kernel) rfl rfl ⟨by decide, by decide⟩ rfl hl.1 rfl (Nat.le_of_ble_eq_true rfl) dX3_placeAt_59) (fun H locs hP hD hS => ?_)
  refine lv_lstore (lv' := [(9, .long u11), (7, .long x9), (5, .long x6), (0, .ref (h 1)), (1, .int a1), (2, .int a2), (3, .int a3), (4, .int a4)]) hx hb dX3_placeAt_62 hl (by decide) rfl (fun ls hl => ?_)
  refine lv_lload hx hb dX3_placeAt_64 (lv_at hl 0 rfl) ?_
  refine lv_lconst (v := 0) hx hb dX3_placeAt_66 (by decide) ?_
  refine W.lcmp hx hb dX3_placeAt_67 ?_
  refine lv_if_gt (tgt := 74) hx hb dX3_placeAt_68 (by decide) (fun c12 => ?_) (fun c12 => ?_)
  · replace hf := zif_t hf c12
    exact t_X3_placeAt_b74 hC N gP gR gQ gT gE gM gS u a3 a4 x6 x9 u11 H locs ls hP hD hS (lv_sub hl [6, 7, 2, 1, 0] rfl) hf
  · replace hf := zif_f hf c12
    refine lv_lconst (v := 1) hx hb dX3_placeAt_71 (by decide) ?_
    refine lv_lstore (lv' := [(9, .long (1 : Int64)), (7, .long x9), (5, .long x6), (0, .ref (h 1)), (1, .int a1), (2, .int a2), (3, .int a3), (4, .int a4)]) hx hb dX3_placeAt_72 hl (by decide) rfl (fun ls hl => ?_)
    exact t_X3_placeAt_b74 hC N gP gR gQ gT gE gM gS u a3 a4 x6 x9 (1 : Int64) H locs ls hP hD hS (lv_sub hl [6, 7, 2, 1, 0] rfl) hf
set_option maxHeartbeats 4000000 in
set_option maxRecDepth 100000 in
theorem t_X2_howManyOf_Q_b31 {p : Program} {l : Launch} {e : Env} {s : State} {m : MethodId} {args : Array Value} {below : List Frame} {meth : Method} {c : Code} {A : Nat → Prop} {D : va_G} {cI cJ cZ : ClassId} {h : Nat → Nat} (hC : zCx p s m args meth c A D (zty cI cJ cZ) cX2_howManyOf RX2 4 (some .int)) (N : Nat) (gP : tPi) (gR : tPa) (gQ : tPa) (gT : tTr) (gE : tTe) (gM : tMe) (gS : tSq) (u : Int32) : ∀ (v2 : Int32) (H : Heap) (locs : List Loc) (ls : Array Slot), va_P D vwCl (zWC cI cJ cZ h gP gR gQ gT gE gM gS) H → va_D A (zWC cI cJ cZ h gP gR gQ gT gE gM gS) → va_S A s.heap H locs → lv_has ls 4 [(2, .int v2)] → X2_howManyOf_Q_b31 N gQ v2 = some u → W p l e ({ frames := 0, cells := 0, slots := 0, locals := 0 } : Room) s m args below meth c H locs 0 0 (MQ below (zQi D A (zWC cI cJ cZ h gP gR gQ gT gE gM gS) (u)) args s 0 0 A) (F0 m 31 ls []) := by
  intro v2 H locs ls hP hD hS hl hf
  obtain ⟨hx, hb, hml, hown, hts, hK, hr, hlocks, hA⟩ := id hC
  unfold X2_howManyOf_Q_b31 at hf
  refine lv_iload_n hx hb dX2_howManyOf_31 rfl (lv_at hl 0 rfl) ?_
  have hu := Option.some.inj hf
  subst hu
  exact z_iret hC hP hD hS dX2_howManyOf_32
set_option maxHeartbeats 4000000 in
set_option maxRecDepth 100000 in
theorem t_X2_howManyOf_Q_b25 {p : Program} {l : Launch} {e : Env} {s : State} {m : MethodId} {args : Array Value} {below : List Frame} {meth : Method} {c : Code} {A : Nat → Prop} {D : va_G} {cI cJ cZ : ClassId} {h : Nat → Nat} (hC : zCx p s m args meth c A D (zty cI cJ cZ) cX2_howManyOf RX2 4 (some .int)) (N : Nat) {gP : tPi} {gR : tPa} {gQ : tPa} {gT : tTr} {gE : tTe} {gM : tMe} {gS : tSq} {u : Int32} (k4 : Int32 → Int32 → Int32 → Option (Int32)) (hk4 : ∀ (v1 : Int32) (v2 : Int32) (v3 : Int32) (H : Heap) (locs : List Loc) (ls : Array Slot), va_P D vwCl (zWC cI cJ cZ h gP gR gQ gT gE gM gS) H → va_D A (zWC cI cJ cZ h gP gR gQ gT gE gM gS) → va_S A s.heap H locs → lv_has ls 4 [(0, .ref (h 20)), (1, .int v1), (2, .int v2), (3, .int v3)] → k4 v1 v2 v3 = some u → W p l e ({ frames := 0, cells := 0, slots := 0, locals := 0 } : Room) s m args below meth c H locs 0 0 (MQ below (zQi D A (zWC cI cJ cZ h gP gR gQ gT gE gM gS) (u)) args s 0 0 A) (F0 m 4 ls [])) : ∀ (v1 : Int32) (v2 : Int32) (v3 : Int32) (H : Heap) (locs : List Loc) (ls : Array Slot), va_P D vwCl (zWC cI cJ cZ h gP gR gQ gT gE gM gS) H → va_D A (zWC cI cJ cZ h gP gR gQ gT gE gM gS) → va_S A s.heap H locs → lv_has ls 4 [(0, .ref (h 20)), (1, .int v1), (2, .int v2), (3, .int v3)] → X2_howManyOf_Q_b25 N k4 gQ v1 v2 v3 = some u → W p l e ({ frames := 0, cells := 0, slots := 0, locals := 0 } : Room) s m args below meth c H locs 0 0 (MQ below (zQi D A (zWC cI cJ cZ h gP gR gQ gT gE gM gS) (u)) args s 0 0 A) (F0 m 25 ls []) := by
  intro v1 v2 v3 H locs ls hP hD hS hl hf
  obtain ⟨hx, hb, hml, hown, hts, hK, hr, hlocks, hA⟩ := id hC
  unfold X2_howManyOf_Q_b25 at hf
  refine lv_iinc (v := (v3 + (1 : Int32))) (lv' := [(3, .int (v3 + (1 : Int32))), (0, .ref (h 20)), (1, .int v1), (2, .int v2)]) hx hb dX2_howManyOf_25 hl (k := 3) rfl rfl (by decide) rfl (fun ls hl => ?_)
  refine lv_goto (tgt := 4) hx hb dX2_howManyOf_28 (by decide) ?_
  exact hk4 v1 v2 (v3 + (1 : Int32)) H locs ls hP hD hS (lv_sub hl [1, 2, 3, 0] rfl) hf
set_option maxHeartbeats 4000000 in
set_option maxRecDepth 100000 in
theorem t_X2_howManyOf_Q_b4 {p : Program} {l : Launch} {e : Env} {s : State} {m : MethodId} {args : Array Value} {below : List Frame} {meth : Method} {c : Code} {A : Nat → Prop} {D : va_G} {cI cJ cZ : ClassId} {h : Nat → Nat} (hC : zCx p s m args meth c A D (zty cI cJ cZ) cX2_howManyOf RX2 4 (some .int)) (N : Nat) (gP : tPi) (gR : tPa) (gQ : tPa) (gT : tTr) (gE : tTe) (gM : tMe) (gS : tSq) (u : Int32) : ∀ (n : Nat) (v1 : Int32) (v2 : Int32) (v3 : Int32) (H : Heap) (locs : List Loc) (ls : Array Slot), va_P D vwCl (zWC cI cJ cZ h gP gR gQ gT gE gM gS) H → va_D A (zWC cI cJ cZ h gP gR gQ gT gE gM gS) → va_S A s.heap H locs → lv_has ls 4 [(0, .ref (h 20)), (1, .int v1), (2, .int v2), (3, .int v3)] → X2_howManyOf_Q_b4 N gQ n v1 v2 v3 = some u → W p l e ({ frames := 0, cells := 0, slots := 0, locals := 0 } : Room) s m args below meth c H locs 0 0 (MQ below (zQi D A (zWC cI cJ cZ h gP gR gQ gT gE gM gS) (u)) args s 0 0 A) (F0 m 4 ls []) := by
  intro n
  induction n with
  | zero =>
    intro v1 v2 v3 H locs ls hP hD hS hl hf
    cases hf
  | succ n ih =>
    intro v1 v2 v3 H locs ls hP hD hS hl hf
    obtain ⟨hx, hb, hml, hown, hts, hK, hr, hlocks, hA⟩ := id hC
    rw [X2_howManyOf_Q_b4] at hf
    refine lv_iload_n hx hb dX2_howManyOf_4 rfl (lv_at hl 3 rfl) ?_
    refine lv_aload_n hx hb dX2_howManyOf_5 rfl (lv_at hl 0 rfl) ?_
    refine va_get (D := D) (ci := 2) (v := .int (tPa.size gQ)) (C := RX2) (T := TX2) (N := 6) hx hb hts tb_wsX20 hown hK.1 hP 20 rfl rfl 5 (by decide) (hts _ tb_10_0) (fun _ h9 => h9) rfl dX2_howManyOf_6 ?_
    refine lv_icmp_ge (tgt := 31) hx hb dX2_howManyOf_9 (by decide) (fun c1 => ?_) (fun c1 => ?_)
    · replace hf := zif_t hf c1
      exact t_X2_howManyOf_Q_b31 hC N gP gR gQ gT gE gM gS u v2 H locs ls hP hD hS (lv_sub hl [2] rfl) hf
    · replace hf := zif_f hf c1
      refine lv_aload_n hx hb dX2_howManyOf_12 rfl (lv_at hl 0 rfl) ?_
      refine va_get (D := D) (ci := 2) (v := .ref (h 21)) (C := RX2) (T := TX2) (N := 6) hx hb hts tb_wsX20 hown hK.1 hP 20 rfl rfl 0 (by decide) (hts _ tb_3_8) (fun _ h9 => h9) rfl dX2_howManyOf_13 ?_
      refine lv_iload_n hx hb dX2_howManyOf_16 rfl (lv_at hl 3 rfl) ?_
      obtain ⟨h2, hf⟩ := zck_s hf
      refine va_iald hx hb hK.1 hP 21 0 rfl rfl h2 dX2_howManyOf_17 ?_
      refine lv_iload_n hx hb dX2_howManyOf_18 rfl (lv_at hl 1 rfl) ?_
      refine lv_icmp_ne (tgt := 25) hx hb dX2_howManyOf_19 (by decide) (fun c3 => ?_) (fun c3 => ?_)
      · replace hf := zif_f hf c3
        exact t_X2_howManyOf_Q_b25 hC N (X2_howManyOf_Q_b4 N gQ n) ih  v1 v2 v3 H locs ls hP hD hS (lv_sub hl [0, 1, 2, 3] rfl) hf
      · replace hf := zif_t hf c3
        refine lv_iinc (v := (v2 + (1 : Int32))) (lv' := [(2, .int (v2 + (1 : Int32))), (0, .ref (h 20)), (1, .int v1), (3, .int v3)]) hx hb dX2_howManyOf_22 hl (k := 2) rfl rfl (by decide) rfl (fun ls hl => ?_)
        exact t_X2_howManyOf_Q_b25 hC N (X2_howManyOf_Q_b4 N gQ n) ih  v1 (v2 + (1 : Int32)) v3 H locs ls hP hD hS (lv_sub hl [1, 2, 0, 3] rfl) hf
set_option maxHeartbeats 4000000 in
set_option maxRecDepth 100000 in
theorem c_X2_howManyOf_Q (l : Launch) (D : va_G) (cI cJ cZ : ClassId) (h : Nat → Nat) (N : Nat) (gP : tPi) (gR : tPa) (gQ : tPa) (gT : tTr) (gE : tTe) (gM : tMe) (gS : tSq) (a1 : Int32) (u : Int32) (hf : X2_howManyOf_Q N gQ a1 = some u) (sz : Nat) : Met l yX2_howManyOf (Cond.code yX2_howManyOf cX2_howManyOf 4 (some .int) :: tb_L) ({ frames := 0, cells := 0, slots := 0, locals := 0 } : Room) (zPre D (zty cI cJ cZ) (zWC cI cJ cZ h gP gR gQ gT gE gM gS) sz [.ref (h 20), .int a1]) (zQi D (va_A (zWC cI cJ cZ h gP gR gQ gT gE gM gS) sz) (zWC cI cJ cZ h gP gR gQ gT gE gM gS) (u)) 0 0 (va_A (zWC cI cJ cZ h gP gR gQ gT gE gM gS) sz) := by
  refine zMet (Qc := fun A => zQi D A (zWC cI cJ cZ h gP gR gQ gT gE gM gS) (u)) (by decide) rfl (Nat.le_of_ble_eq_true rfl) ?_
  intro p e s m args below meth c A ls hC _ hP hD hS hl
  replace hl : lv_has ls 4 [(0, .ref (h 20)), (1, .int a1)] := hl
  obtain ⟨hx, hb, hml, hown, hts, hK, hr, hlocks, hA⟩ := id hC
  unfold X2_howManyOf_Q at hf
  obtain ⟨H, hH⟩ : ∃ H, H = s.heap := ⟨_, rfl⟩
  rw [← hH] at hP
  replace hS : va_S A s.heap H [] := by rw [hH]; exact hS
  show W p l e _ s m args below meth c s.heap [] 0 0 _ _
  rw [← hH]
  clear hH
  obtain ⟨locs, hlo⟩ : ∃ x : List Loc, x = [] := ⟨_, rfl⟩
  rw [← hlo] at hS ⊢
  clear hlo
  refine lv_iconst (v := 0) hx hb dX2_howManyOf_0 (by decide) ?_
  refine lv_istore_n (lv' := [(2, .int (0 : Int32)), (0, .ref (h 20)), (1, .int a1)]) hx hb dX2_howManyOf_1 rfl hl (by decide) rfl (fun ls hl => ?_)
  refine lv_iconst (v := 0) hx hb dX2_howManyOf_2 (by decide) ?_
  refine lv_istore_n (lv' := [(3, .int (0 : Int32)), (2, .int (0 : Int32)), (0, .ref (h 20)), (1, .int a1)]) hx hb dX2_howManyOf_3 rfl hl (by decide) rfl (fun ls hl => ?_)
  exact t_X2_howManyOf_Q_b4 hC N gP gR gQ gT gE gM gS u N a1 (0 : Int32) (0 : Int32) H locs ls hP hD hS (lv_sub hl [2, 3, 1, 0] rfl) hf
