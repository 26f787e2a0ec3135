set_option maxHeartbeats 4000000 in
set_option maxRecDepth 100000 in
theorem t_X8_told_b17 {p : Program} {l : Launch} {e : Env} {s : State} {m : MethodId} {args : Array Value} {below : List Frame} {meth : Method} {c : Code} {A : Nat → Prop} {D : va_G} {cI cJ cZ : ClassId} {h : Nat → Nat} (hC : zCx p s m args meth c A D (zty cI cJ cZ) cX8_told RX8 2 (some .int)) (mG : tmG) (mR : tmR) (mW : tmW) (mS : tmS) (mK : tmK) (mD : tmD) (mN : tmN) (mO : tmO) (mB : tmB) (mM : tmM) (mF : tmF) (u : Int32 × tmH) : ∀ (mH : tmH) (H : Heap) (locs : List Loc) (ls : Array Slot), va_P D vwCl (zWM cI cJ cZ h mG mH mR mW mS mK mD mN mO mB mM mF) H → va_D A (zWM cI cJ cZ h mG mH mR mW mS mK mD mN mO mB mM mF) → va_S A s.heap H locs → lv_has ls 2 [] → X8_told_b17 mB mH = some u → W p l e ({ frames := 0, cells := 0, slots := 0, locals := 0 } : Room) s m args below meth c H locs 0 0 (MQ below (zQi D A (zWM cI cJ cZ h mG u.2 mR mW mS mK mD mN mO mB mM mF) (u.1)) args s 0 0 A) (F0 m 17 ls []) := by
  intro mH H locs ls hP hD hS hl hf
  obtain ⟨hx, hb, hml, hown, hts, hK, hr, hlocks, hA⟩ := id hC
  unfold X8_told_b17 at hf
  refine lv_iconst (v := -1) hx hb dX8_told_17 (by decide) ?_
  refine lv_goto (tgt := 27) hx hb dX8_told_18 (by decide) ?_
  have hu := Option.some.inj hf
  subst hu
  exact z_iret hC hP hD hS dX8_told_27
set_option maxHeartbeats 4000000 in
set_option maxRecDepth 100000 in
theorem c_X8_told (l : Launch) (D : va_G) (cI cJ cZ : ClassId) (h : Nat → Nat) (mG : tmG) (mH : tmH) (mR : tmR) (mW : tmW) (mS : tmS) (mK : tmK) (mD : tmD) (mN : tmN) (mO : tmO) (mB : tmB) (mM : tmM) (mF : tmF) (a1 : Int32) (u : Int32 × tmH) (hf : X8_told mH mB a1 = some u) (sz : Nat) : Met l yX8_told (Cond.code yX8_told cX8_told 2 (some .int) :: tb_L) ({ frames := 0, cells := 0, slots := 0, locals := 0 } : Room) (zPre D (zty cI cJ cZ) (zWM cI cJ cZ h mG mH mR mW mS mK mD mN mO mB mM mF) sz [.ref (h 0), .int a1]) (zQi D (va_A (zWM cI cJ cZ h mG mH mR mW mS mK mD mN mO mB mM mF) sz) (zWM cI cJ cZ h mG u.2 mR mW mS mK mD mN mO mB mM mF) (u.1)) 0 0 (va_A (zWM cI cJ cZ h mG mH mR mW mS mK mD mN mO mB mM mF) sz) := by
  refine zMet (Qc := fun A => zQi D A (zWM cI cJ cZ h mG u.2 mR mW mS mK mD mN mO mB mM mF) (u.1)) (by decide) rfl (Nat.le_of_ble_eq_true rfl) ?_
  intro p e s m args below meth c A ls hC _ hP hD hS hl
  replace hl : lv_has ls 2 [(0, .ref (h 0)), (1, .int a1)] := hl
  obtain ⟨hx, hb, hml, hown, hts, hK, hr, hlocks, hA⟩ := id hC
  unfold X8_told at hf
  obtain ⟨H, hH⟩ : ∃ H, H = s.heap := ⟨_, rfl⟩
  rw [← hH] at hP
  replace hS : va_S A s.heap H [] := by rw [hH]; exact hS
  show W p l e _ s m args below meth c s.heap [] 0 0 _ _
  rw [← hH]
  clear hH
  obtain ⟨locs, hlo⟩ : ∃ x : List Loc, x = [] := ⟨_, rfl⟩
  rw [← hlo] at hS ⊢
  clear hlo
  refine lv_aload_n hx hb dX8_told_0 rfl (lv_at hl 0 rfl) ?_
  refine lv_iconst (v := 0) hx hb dX8_told_1 (by decide) ?_
  refine va_put (D := D) (ci := 8) (v := .int (0 : Int32)) (ty := .int) (C := RX8) (T := TX8) (N := 56) hx hb hts tb_wsX80 tyX8 tyX8_ok nmX8 hown hK.1 hP hD hS 0 rfl rfl 5 (by decide) (hts _ tb_8_3) (fun _ h9 => h9) rfl (by decide +kernel) rfl rfl (Nat.le_of_ble_eq_true rfl) dX8_told_2 (fun H locs hP hD hS => ?_)
  replace hP : va_P D vwCl (zWM cI cJ cZ h mG (tmH.s_thrown mH (0 : Int32)) mR mW mS mK mD mN mO mB mM mF) H := hP
  replace hD : va_D A (zWM cI cJ cZ h mG (tmH.s_thrown mH (0 : Int32)) mR mW mS mK mD mN mO mB mM mF) := hD
  refine lv_iload_n hx hb dX8_told_5 rfl (lv_at hl 1 rfl) ?_
  refine lv_if_lt (tgt := 17) hx hb dX8_told_6 (by decide) (fun c1 => ?_) (fun c1 => ?_)
  · replace hf := zif_t hf c1
    exact t_X8_told_b17 hC  mG mR mW mS mK mD mN mO mB mM mF u (tmH.s_thrown mH (0 : Int32)) H locs ls hP hD hS (lv_sub hl [] rfl) hf
  · replace hf := zif_f hf c1
    refine lv_iload_n hx hb dX8_told_9 rfl (lv_at hl 1 rfl) ?_
    refine lv_aload_n hx hb dX8_told_10 rfl (lv_at hl 0 rfl) ?_
    refine va_get (D := D) (ci := 8) (v := .int (tmB.toldMany mB)) (C := RX8) (T := TX8) (N := 56) hx hb hts tb_wsX80 hown hK.1 hP 0 rfl rfl 42 (by decide) (hts _ tb_8_16) (fun _ h9 => h9) rfl dX8_told_11 ?_
    refine lv_icmp_lt (tgt := 21) hx hb dX8_told_14 (by decide) (fun c2 => ?_) (fun c2 => ?_)
    · replace hf := zif_t hf c2
      refine lv_aload_n hx hb dX8_told_21 rfl (lv_at hl 0 rfl) ?_
      refine va_get (D := D) (ci := 8) (v := .ref (h 31)) (C := RX8) (T := TX8) (N := 56) hx hb hts tb_wsX80 hown hK.1 hP 0 rfl rfl 41 (by decide) (hts _ tb_6_13) (fun _ h9 => h9) rfl dX8_told_22 ?_
      refine lv_iload_n hx hb dX8_told_25 rfl (lv_at hl 1 rfl) ?_
      obtain ⟨h3, hf⟩ := zck_s hf
      refine va_iald hx hb hK.1 hP 31 0 rfl rfl h3 dX8_told_26 ?_
      have hu := Option.some.inj hf
      subst hu
      exact z_iret hC hP hD hS dX8_told_27
    · replace hf := zif_f hf c2
      exact t_X8_told_b17 hC  mG mR mW mS mK mD mN mO mB mM mF u (tmH.s_thrown mH (0 : Int32)) H locs ls hP hD hS (lv_sub hl [] rfl) hf
set_option maxHeartbeats 4000000 in
set_option maxRecDepth 100000 in
theorem t_X8_between_b57 {p : Program} {l : Launch} {e : Env} {s : State} {m : MethodId} {args : Array Value} {below : List Frame} {meth : Method} {c : Code} {A : Nat → Prop} {D : va_G} {cI cJ cZ : ClassId} {h : Nat → Nat} (hC : zCx p s m args meth c A D (zty cI cJ cZ) cX8_between RX8 6 (some .boolean)) (mG : tmG) (mH : tmH) (mR : tmR) (mW : tmW) (mS : tmS) (mK : tmK) (mD : tmD) (mN : tmN) (mO : tmO) (mB : tmB) (mM : tmM) (mF : tmF) (u : Int32) : ∀ (s0 : Int32) (s1 : Int32) (H : Heap) (locs : List Loc) (ls : Array Slot), va_P D vwCl (zWM cI cJ cZ h mG mH mR mW mS mK mD mN mO mB mM mF) H → va_D A (zWM cI cJ cZ h mG mH mR mW mS mK mD mN mO mB mM mF) → va_S A s.heap H locs → lv_has ls 6 [] → X8_between_b57 s0 s1 = some u → W p l e ({ frames := 0, cells := 0, slots := 0, locals := 0 } : Room) s m args below meth c H locs 0 0 (MQ below (zQi D A (zWM cI cJ cZ h mG mH mR mW mS mK mD mN mO mB mM mF) (u)) args s 0 0 A) (F0 m 57 ls [.int s0, .int s1]) := by
  intro s0 s1 H locs ls hP hD hS hl hf
  obtain ⟨hx, hb, hml, hown, hts, hK, hr, hlocks, hA⟩ := id hC
  unfold X8_between_b57 at hf
  refine lv_icmp_gt (tgt := 64) hx hb dX8_between_57 (by decide) (fun c1 => ?_) (fun c1 => ?_)
  · replace hf := zif_t hf c1
    refine lv_iconst (v := 0) hx hb dX8_between_64 (by decide) ?_
    obtain ⟨h2, hf⟩ := zcb_s hf
    have hu := Option.some.inj hf
    subst hu
    exact z_zret hC h2 hP hD hS dX8_between_65
  · replace hf := zif_f hf c1
    refine lv_iconst (v := 1) hx hb dX8_between_60 (by decide) ?_
    refine lv_goto (tgt := 65) hx hb dX8_between_61 (by decide) ?_
    obtain ⟨h3, hf⟩ := zcb_s hf
    have hu := Option.some.inj hf
    subst hu
    exact z_zret hC h3 hP hD hS dX8_between_65
set_option maxHeartbeats 4000000 in
set_option maxRecDepth 100000 in
theorem t_X8_between_b42 {p : Program} {l : Launch} {e : Env} {s : State} {m : MethodId} {args : Array Value} {below : List Frame} {meth : Method} {c : Code} {A : Nat → Prop} {D : va_G} {cI cJ cZ : ClassId} {h : Nat → Nat} (hC : zCx p s m args meth c A D (zty cI cJ cZ) cX8_between RX8 6 (some .boolean)) (mG : tmG) (mH : tmH) (mR : tmR) (mW : tmW) (mS : tmS) (mK : tmK) (mD : tmD) (mN : tmN) (mO : tmO) (mB : tmB) (mM : tmM) (mF : tmF) (u : Int32) : ∀ (v1 : Int32) (v3 : Int32) (v5 : Int32) (s0 : Int32) (s1 : Int32) (H : Heap) (locs : List Loc) (ls : Array Slot), va_P D vwCl (zWM cI cJ cZ h mG mH mR mW mS mK mD mN mO mB mM mF) H → va_D A (zWM cI cJ cZ h mG mH mR mW mS mK mD mN mO mB mM mF) → va_S A s.heap H locs → lv_has ls 6 [(1, .int v1), (3, .int v3), (5, .int v5)] → X8_between_b42 v1 v3 v5 s0 s1 = some u → W p l e ({ frames := 0, cells := 0, slots := 0, locals := 0 } : Room) s m args below meth c H locs 0 0 (MQ below (zQi D A (zWM cI cJ cZ h mG mH mR mW mS mK mD mN mO mB mM mF) (u)) args s 0 0 A) (F0 m 42 ls [.int s0, .int s1]) := by
  intro v1 v3 v5 s0 s1 H locs ls hP hD hS hl hf
  obtain ⟨hx, hb, hml, hown, hts, hK, hr, hlocks, hA⟩ := id hC
  unfold X8_between_b42 at hf
  refine lv_icmp_lt (tgt := 64) hx hb dX8_between_42 (by decide) (fun c4 => ?_) (fun c4 => ?_)
  · replace hf := zif_t hf c4
    refine lv_iconst (v := 0) hx hb dX8_between_64 (by decide) ?_
    obtain ⟨h5, hf⟩ := zcb_s hf
    have hu := Option.some.inj hf
    subst hu
    exact z_zret hC h5 hP hD hS dX8_between_65
  · replace hf := zif_f hf c4
    refine lv_iload hx hb dX8_between_45 (lv_at hl 2 rfl) ?_
    refine lv_iload_n hx hb dX8_between_47 rfl (lv_at hl 0 rfl) ?_
    refine lv_iload_n hx hb dX8_between_48 rfl (lv_at hl 1 rfl) ?_
    refine lv_icmp_ge (tgt := 56) hx hb dX8_between_49 (by decide) (fun c6 => ?_) (fun c6 => ?_)
    · replace hf := zif_t hf c6
      refine lv_iload_n hx hb dX8_between_56 rfl (lv_at hl 0 rfl) ?_
      exact t_X8_between_b57 hC  mG mH mR mW mS mK mD mN mO mB mM mF u v1 v5 H locs ls hP hD hS (lv_sub hl [] rfl) hf
    · replace hf := zif_f hf c6
      refine lv_iload_n hx hb dX8_between_52 rfl (lv_at hl 1 rfl) ?_
      refine lv_goto (tgt := 57) hx hb dX8_between_53 (by decide) ?_
      exact t_X8_between_b57 hC  mG mH mR mW mS mK mD mN mO mB mM mF u v3 v5 H locs ls hP hD hS (lv_sub hl [] rfl) hf
set_option maxHeartbeats 4000000 in
set_option maxRecDepth 100000 in
theorem t_X8_between_b27 {p : Program} {l : Launch} {e : Env} {s : State} {m : MethodId} {args : Array Value} {below : List Frame} {meth : Method} {c : Code} {A : Nat → Prop} {D : va_G} {cI cJ cZ : ClassId} {h : Nat → Nat} (hC : zCx p s m args meth c A D (zty cI cJ cZ) cX8_between RX8 6 (some .boolean)) (mG : tmG) (mH : tmH) (mR : tmR) (mW : tmW) (mS : tmS) (mK : tmK) (mD : tmD) (mN : tmN) (mO : tmO) (mB : tmB) (mM : tmM) (mF : tmF) (u : Int32) : ∀ (v1 : Int32) (v3 : Int32) (v5 : Int32) (s0 : Int32) (s1 : Int32) (H : Heap) (locs : List Loc) (ls : Array Slot), va_P D vwCl (zWM cI cJ cZ h mG mH mR mW mS mK mD mN mO mB mM mF) H → va_D A (zWM cI cJ cZ h mG mH mR mW mS mK mD mN mO mB mM mF) → va_S A s.heap H locs → lv_has ls 6 [(1, .int v1), (3, .int v3), (5, .int v5)] → X8_between_b27 v1 v3 v5 s0 s1 = some u → W p l e ({ frames := 0, cells := 0, slots := 0, locals := 0 } : Room) s m args below meth c H locs 0 0 (MQ below (zQi D A (zWM cI cJ cZ h mG mH mR mW mS mK mD mN mO mB mM mF) (u)) args s 0 0 A) (F0 m 27 ls [.int s0, .int s1]) := by
  intro v1 v3 v5 s0 s1 H locs ls hP hD hS hl hf
  obtain ⟨hx, hb, hml, hown, hts, hK, hr, hlocks, hA⟩ := id hC
  unfold X8_between_b27 at hf
  refine lv_icmp_gt (tgt := 64) hx hb dX8_between_27 (by decide) (fun c7 => ?_) (fun c7 => ?_)
  · replace hf := zif_t hf c7
    refine lv_iconst (v := 0) hx hb dX8_between_64 (by decide) ?_
    obtain ⟨h8, hf⟩ := zcb_s hf
    have hu := Option.some.inj hf
    subst hu
    exact z_zret hC h8 hP hD hS dX8_between_65
  · replace hf := zif_f hf c7
    refine lv_iload hx hb dX8_between_30 (lv_at hl 2 rfl) ?_
    refine lv_iload_n hx hb dX8_between_32 rfl (lv_at hl 0 rfl) ?_
    refine lv_iload_n hx hb dX8_between_33 rfl (lv_at hl 1 rfl) ?_
    refine lv_icmp_ge (tgt := 41) hx hb dX8_between_34 (by decide) (fun c9 => ?_) (fun c9 => ?_)
    · replace hf := zif_t hf c9
      refine lv_iload_n hx hb dX8_between_41 rfl (lv_at hl 1 rfl) ?_
      exact t_X8_between_b42 hC  mG mH mR mW mS mK mD mN mO mB mM mF u v1 v3 v5 v3 v5 H locs ls hP hD hS (lv_sub hl [0, 1, 2] rfl) hf
    · replace hf := zif_f hf c9
      refine lv_iload_n hx hb dX8_between_37 rfl (lv_at hl 0 rfl) ?_
      refine lv_goto (tgt := 42) hx hb dX8_between_38 (by decide) ?_
      exact t_X8_between_b42 hC  mG mH mR mW mS mK mD mN mO mB mM mF u v1 v3 v5 v1 v5 H locs ls hP hD hS (lv_sub hl [0, 1, 2] rfl) hf
set_option maxHeartbeats 4000000 in
set_option maxRecDepth 100000 in
theorem t_X8_between_b12 {p : Program} {l : Launch} {e : Env} {s : State} {m : MethodId} {args : Array Value} {below : List Frame} {meth : Method} {c : Code} {A : Nat → Prop} {D : va_G} {cI cJ cZ : ClassId} {h : Nat → Nat} (hC : zCx p s m args meth c A D (zty cI cJ cZ) cX8_between RX8 6 (some .boolean)) (mG : tmG) (mH : tmH) (mR : tmR) (mW : tmW) (mS : tmS) (mK : tmK) (mD : tmD) (mN : tmN) (mO : tmO) (mB : tmB) (mM : tmM) (mF : tmF) (u : Int32) : ∀ (v0 : Int32) (v1 : Int32) (v2 : Int32) (v3 : Int32) (v4 : Int32) (v5 : Int32) (s0 : Int32) (s1 : Int32) (H : Heap) (locs : List Loc) (ls : Array Slot), va_P D vwCl (zWM cI cJ cZ h mG mH mR mW mS mK mD mN mO mB mM mF) H → va_D A (zWM cI cJ cZ h mG mH mR mW mS mK mD mN mO mB mM mF) → va_S A s.heap H locs → lv_has ls 6 [(0, .int v0), (1, .int v1), (2, .int v2), (3, .int v3), (4, .int v4), (5, .int v5)] → X8_between_b12 v0 v1 v2 v3 v4 v5 s0 s1 = some u → W p l e ({ frames := 0, cells := 0, slots := 0, locals := 0 } : Room) s m args below meth c H locs 0 0 (MQ below (zQi D A (zWM cI cJ cZ h mG mH mR mW mS mK mD mN mO mB mM mF) (u)) args s 0 0 A) (F0 m 12 ls [.int s0, .int s1]) := by
  intro v0 v1 v2 v3 v4 v5 s0 s1 H locs ls hP hD hS hl hf
  obtain ⟨hx, hb, hml, hown, hts, hK, hr, hlocks, hA⟩ := id hC
  unfold X8_between_b12 at hf
  refine lv_icmp_lt (tgt := 64) hx hb dX8_between_12 (by decide) (fun c10 => ?_) (fun c10 => ?_)
  · replace hf := zif_t hf c10
    refine lv_iconst (v := 0) hx hb dX8_between_64 (by decide) ?_
    obtain ⟨h11, hf⟩ := zcb_s hf
    have hu := Option.some.inj hf
    subst hu
    exact z_zret hC h11 hP hD hS dX8_between_65
  · replace hf := zif_f hf c10
    refine lv_iload hx hb dX8_between_15 (lv_at hl 4 rfl) ?_
    refine lv_iload_n hx hb dX8_between_17 rfl (lv_at hl 0 rfl) ?_
    refine lv_iload_n hx hb dX8_between_18 rfl (lv_at hl 2 rfl) ?_
    refine lv_icmp_ge (tgt := 26) hx hb dX8_between_19 (by decide) (fun c12 => ?_) (fun c12 => ?_)
    · replace hf := zif_t hf c12
      refine lv_iload_n hx hb dX8_between_26 rfl (lv_at hl 0 rfl) ?_
      exact t_X8_between_b27 hC  mG mH mR mW mS mK mD mN mO mB mM mF u v1 v3 v5 v0 v4 H locs ls hP hD hS (lv_sub hl [1, 3, 5] rfl) hf
    · replace hf := zif_f hf c12
      refine lv_iload_n hx hb dX8_between_22 rfl (lv_at hl 2 rfl) ?_
      refine lv_goto (tgt := 27) hx hb dX8_between_23 (by decide) ?_
      exact t_X8_between_b27 hC  mG mH mR mW mS mK mD mN mO mB mM mF u v1 v3 v5 v2 v4 H locs ls hP hD hS (lv_sub hl [1, 3, 5] rfl) hf
set_option maxHeartbeats 4000000 in
set_option maxRecDepth 100000 in
theorem c_X8_between (l : Launch) (D : va_G) (cI cJ cZ : ClassId) (h : Nat → Nat) (mG : tmG) (mH : tmH) (mR : tmR) (mW : tmW) (mS : tmS) (mK : tmK) (mD : tmD) (mN : tmN) (mO : tmO) (mB : tmB) (mM : tmM) (mF : tmF) (a0 : Int32) (a1 : Int32) (a2 : Int32) (a3 : Int32) (a4 : Int32) (a5 : Int32) (u : Int32) (hf : X8_between a0 a1 a2 a3 a4 a5 = some u) (sz : Nat) : Met l yX8_between (Cond.code yX8_between cX8_between 6 (some .boolean) :: tb_L) ({ frames := 0, cells := 0, slots := 0, locals := 0 } : Room) (zPre D (zty cI cJ cZ) (zWM cI cJ cZ h mG mH mR mW mS mK mD mN mO mB mM mF) sz [.int a0, .int a1, .int a2, .int a3, .int a4, .int a5]) (zQi D (va_A (zWM cI cJ cZ h mG mH mR mW mS mK mD mN mO mB mM mF) sz) (zWM cI cJ cZ h mG mH mR mW mS mK mD mN mO mB mM mF) (u)) 0 0 (va_A (zWM cI cJ cZ h mG mH mR mW mS mK mD mN mO mB mM mF) sz) := by
  refine zMet (Qc := fun A => zQi D A (zWM cI cJ cZ h mG mH mR mW mS mK mD mN mO mB mM mF) (u)) (by decide) rfl (Nat.le_of_ble_eq_true rfl) ?_
  intro p e s m args below meth c A ls hC _ hP hD hS hl
  replace hl : lv_has ls 6 [(0, .int a0), (1, .int a1), (2, .int a2), (3, .int a3), (4, .int a4), (5, .int a5)] := hl
  obtain ⟨hx, hb, hml, hown, hts, hK, hr, hlocks, hA⟩ := id hC
  unfold X8_between at hf
  obtain ⟨H, hH⟩ : ∃ H, H = s.heap := ⟨_, rfl⟩
  rw [← hH] at hP
  replace hS : va_S A s.heap H [] := by rw [hH]; exact hS
  show W p l e _ s m args below meth c s.heap [] 0 0 _ _
  rw [← hH]
  clear hH
  obtain ⟨locs, hlo⟩ : ∃ x : List Loc, x = [] := ⟨_, rfl⟩
  rw [← hlo] at hS ⊢
  clear hlo
  refine lv_iload hx hb dX8_between_0 (lv_at hl 4 rfl) ?_
  refine lv_iload_n hx hb dX8_between_2 rfl (lv_at hl 0 rfl) ?_
  refine lv_iload_n hx hb dX8_between_3 rfl (lv_at hl 2 rfl) ?_
  refine lv_icmp_ge (tgt := 11) hx hb dX8_between_4 (by decide) (fun c13 => ?_) (fun c13 => ?_)
  · replace hf := zif_t hf c13
    refine lv_iload_n hx hb dX8_between_11 rfl (lv_at hl 2 rfl) ?_
    exact t_X8_between_b12 hC  mG mH mR mW mS mK mD mN mO mB mM mF u a0 a1 a2 a3 a4 a5 a2 a4 H locs ls hP hD hS (lv_sub hl [0, 1, 2, 3, 4, 5] rfl) hf
  · replace hf := zif_f hf c13
    refine lv_iload_n hx hb dX8_between_7 rfl (lv_at hl 0 rfl) ?_
    refine lv_goto (tgt := 12) hx hb dX8_between_8 (by decide) ?_
    exact t_X8_between_b12 hC  mG mH mR mW mS mK mD mN mO mB mM mF u a0 a1 a2 a3 a4 a5 a0 a4 H locs ls hP hD hS (lv_sub hl [0, 1, 2, 3, 4, 5] rfl) hf
set_option maxHeartbeats 4000000 in
set_option maxRecDepth 100000 in
theorem c_X8_sign (l : Launch) (D : va_G) (cI cJ cZ : ClassId) (h : Nat → Nat) (mG : tmG) (mH : tmH) (mR : tmR) (mW : tmW) (mS : tmS) (mK : tmK) (mD : tmD) (mN : tmN) (mO : tmO) (mB : tmB) (mM : tmM) (mF : tmF) (a0 : Int64) (u : Int32) (hf : X8_sign a0 = some u) (sz : Nat) : Met l yX8_sign (Cond.code yX8_sign cX8_sign 2 (some .int) :: tb_L) ({ frames := 0, cells := 0, slots := 0, locals := 0 } : Room) (zPre D (zty cI cJ cZ) (zWM cI cJ cZ h mG mH mR mW mS mK mD mN mO mB mM mF) sz [.long a0]) (zQi D (va_A (zWM cI cJ cZ h mG mH mR mW mS mK mD mN mO mB mM mF) sz) (zWM cI cJ cZ h mG mH mR mW mS mK mD mN mO mB mM mF) (u)) 0 0 (va_A (zWM cI cJ cZ h mG mH mR mW mS mK mD mN mO mB mM mF) sz) := by
  refine zMet (Qc := fun A => zQi D A (zWM cI cJ cZ h mG mH mR mW mS mK mD mN mO mB mM mF) (u)) (by decide) rfl (Nat.le_of_ble_eq_true rfl) ?_
  intro p e s m args below meth c A ls hC _ hP hD hS hl
  replace hl : lv_has ls 2 [(0, .long a0)] := hl
  obtain ⟨hx, hb, hml, hown, hts, hK, hr, hlocks, hA⟩ := id hC
  unfold X8_sign at hf
  obtain ⟨H, hH⟩ : ∃ H, H = s.heap := ⟨_, rfl⟩
  rw [← hH] at hP
  replace hS : va_S A s.heap H [] := by rw [hH]; exact hS
  show W p l e _ s m args below meth c s.heap [] 0 0 _ _
  rw [← hH]
  clear hH
  obtain ⟨locs, hlo⟩ : ∃ x : List Loc, x = [] := ⟨_, rfl⟩
  rw [← hlo] at hS ⊢
  clear hlo
  refine lv_lload_n hx hb dX8_sign_0 rfl (lv_at hl 0 rfl) ?_
  refine lv_lconst (v := 0) hx hb dX8_sign_1 (by decide) ?_
  refine W.lcmp hx hb dX8_sign_2 ?_
  refine lv_if_le (tgt := 10) hx hb dX8_sign_3 (by decide) (fun c1 => ?_) (fun c1 => ?_)
  · replace hf := zif_t hf c1
    refine lv_lload_n hx hb dX8_sign_10 rfl (lv_at hl 0 rfl) ?_
    refine lv_lconst (v := 0) hx hb dX8_sign_11 (by decide) ?_
    refine W.lcmp hx hb dX8_sign_12 ?_
    refine lv_if_ge (tgt := 20) hx hb dX8_sign_13 (by decide) (fun c2 => ?_) (fun c2 => ?_)
    · replace hf := zif_t hf c2
      refine lv_iconst (v := 0) hx hb dX8_sign_20 (by decide) ?_
      have hu := Option.some.inj hf
      subst hu
      exact z_iret hC hP hD hS dX8_sign_21
    · replace hf := zif_f hf c2
      refine lv_iconst (v := -1) hx hb dX8_sign_16 (by decide) ?_
      refine lv_goto (tgt := 21) hx hb dX8_sign_17 (by decide) ?_
      have hu := Option.some.inj hf
      subst hu
      exact z_iret hC hP hD hS dX8_sign_21
  · replace hf := zif_f hf c1
    refine lv_iconst (v := 1) hx hb dX8_sign_6 (by decide) ?_
    refine lv_goto (tgt := 21) hx hb dX8_sign_7 (by decide) ?_
    have hu := Option.some.inj hf
    subst hu
    exact z_iret hC hP hD hS dX8_sign_21
set_option maxHeartbeats 4000000 in
set_option maxRecDepth 100000 in
theorem c_X8_turn (l : Launch) (D : va_G) (cI cJ cZ : ClassId) (h : Nat → Nat) (mG : tmG) (mH : tmH) (mR : tmR) (mW : tmW) (mS : tmS) (mK : tmK) (mD : tmD) (mN : tmN) (mO : tmO) (mB : tmB) (mM : tmM) (mF : tmF) (a0 : Int32) (a1 : Int32) (a2 : Int32) (a3 : Int32) (a4 : Int32) (a5 : Int32) (u : Int32) (hf : X8_turn a0 a1 a2 a3 a4 a5 = some u) (sz : Nat) : Met l yX8_turn (Cond.code yX8_turn cX8_turn 6 (some .int) :: tb_L) ({ frames := 1, cells := 0, slots := 0, locals := 21 } : Room) (zPre D (zty cI cJ cZ) (zWM cI cJ cZ h mG mH mR mW mS mK mD mN mO mB mM mF) sz [.int a0, .int a1, .int a2, .int a3, .int a4, .int a5]) (zQi D (va_A (zWM cI cJ cZ h mG mH mR mW mS mK mD mN mO mB mM mF) sz) (zWM cI cJ cZ h mG mH mR mW mS mK mD mN mO mB mM mF) (u)) 0 0 (va_A (zWM cI cJ cZ h mG mH mR mW mS mK mD mN mO mB mM mF) sz) := by
  refine zMet (Qc := fun A => zQi D A (zWM cI cJ cZ h mG mH mR mW mS mK mD mN mO mB mM mF) (u)) (by decide) rfl (Nat.le_of_ble_eq_true rfl) ?_
  intro p e s m args below meth c A ls hC _ hP hD hS hl
  replace hl : lv_has ls 6 [(0, .int a0), (1, .int a1), (2, .int a2), (3, .int a3), (4, .int a4), (5, .int a5)] := hl
  obtain ⟨hx, hb, hml, hown, hts, hK, hr, hlocks, hA⟩ := id hC
  unfold X8_turn at hf
  obtain ⟨H, hH⟩ : ∃ H, H = s.heap := ⟨_, rfl⟩
  rw [← hH] at hP
  replace hS : va_S A s.heap H [] := by rw [hH]; exact hS
  show W p l e _ s m args below meth c s.heap [] 0 0 _ _
  rw [← hH]
  clear hH
  obtain ⟨locs, hlo⟩ : ∃ x : List Loc, x = [] := ⟨_, rfl⟩
  rw [← hlo] at hS ⊢
  clear hlo
  refine lv_iload_n hx hb dX8_turn_0 rfl (lv_at hl 2 rfl) ?_
  refine lv_iload_n hx hb dX8_turn_1 rfl (lv_at hl 0 rfl) ?_
  refine lv_isub hx hb dX8_turn_2 ?_
  refine lv_i2l (v := ((a2 - a0)).toInt64) hx hb dX8_turn_3 rfl ?_
  refine lv_iload hx hb dX8_turn_4 (lv_at hl 5 rfl) ?_
  refine lv_iload_n hx hb dX8_turn_6 rfl (lv_at hl 1 rfl) ?_
  refine lv_isub hx hb dX8_turn_7 ?_
  refine lv_i2l (v := ((a5 - a1)).toInt64) hx hb dX8_turn_8 rfl ?_
  refine lv_lmul hx hb dX8_turn_9 ?_
  refine lv_iload_n hx hb dX8_turn_10 rfl (lv_at hl 3 rfl) ?_
  refine lv_iload_n hx hb dX8_turn_11 rfl (lv_at hl 1 rfl) ?_
  refine lv_isub hx hb dX8_turn_12 ?_
  refine lv_i2l (v := ((a3 - a1)).toInt64) hx hb dX8_turn_13 rfl ?_
  refine lv_iload hx hb dX8_turn_14 (lv_at hl 4 rfl) ?_
  refine lv_iload_n hx hb dX8_turn_16 rfl (lv_at hl 0 rfl) ?_
  refine lv_isub hx hb dX8_turn_17 ?_
  refine lv_i2l (v := ((a4 - a0)).toInt64) hx hb dX8_turn_18 rfl ?_
  refine lv_lmul hx hb dX8_turn_19 ?_
  refine lv_lsub hx hb dX8_turn_20 ?_
  obtain ⟨u1, hu1, hf⟩ := zbd hf
  refine zthen_i hA hD hS (zrunS (As := [.long ((((a2 - a0)).toInt64 * ((a5 - a1)).toInt64) - (((a3 - a1)).toInt64 * ((a4 - a0)).toInt64))]) (rest := []) hC hP hD (c_X8_sign l D cI cJ cZ h  mG mH mR mW mS mK mD mN mO mB mM mF ((((a2 - a0)).toInt64 * ((a5 - a1)).toInt64) - (((a3 - a1)).toInt64 * ((a4 - a0)).toInt64)) u1 hu1 H.size) kRX8_228 rfl rfl ⟨by decide, by decide⟩ rfl hl.1 rfl (Nat.le_of_ble_eq_true rfl) dX8_turn_21) (fun H locs hP hD hS => ?_)
  have hu := Option.some.inj hf
  subst hu
  exact z_iret hC hP hD hS dX8_turn_24
set_option maxHeartbeats 4000000 in
set_option maxRecDepth 100000 in
theorem t_X8_within_b131 {p : Program} {l : Launch} {e : Env} {s : State} {m : MethodId} {args : Array Value} {below : List Frame} {meth : Method} {c : Code} {A : Nat → Prop} {D : va_G} {cI cJ cZ : ClassId} {h : Nat → Nat} (hC : zCx p s m args meth c A D (zty cI cJ cZ) cX8_within RX8 6 (some .boolean)) (mG : tmG) (mH : tmH) (mR : tmR) (mW : tmW) (mS : tmS) (mK : tmK) (mD : tmD) (mN : tmN) (mO : tmO) (mB : tmB) (mM : tmM) (mF : tmF) (u : Int32) : ∀ (s0 : Int32) (s1 : Int32) (H : Heap) (locs : List Loc) (ls : Array Slot), va_P D vwCl (zWM cI cJ cZ h mG mH mR mW mS mK mD mN mO mB mM mF) H → va_D A (zWM cI cJ cZ h mG mH mR mW mS mK mD mN mO mB mM mF) → va_S A s.heap H locs → lv_has ls 6 [] → X8_within_b131 mG s0 s1 = some u → W p l e ({ frames := 0, cells := 0, slots := 0, locals := 0 } : Room) s m args below meth c H locs 0 0 (MQ below (zQi D A (zWM cI cJ cZ h mG mH mR mW mS mK mD mN mO mB mM mF) (u)) args s 0 0 A) (F0 m 131 ls [.int s0, .int s1]) := by
  intro s0 s1 H locs ls hP hD hS hl hf
  obtain ⟨hx, hb, hml, hown, hts, hK, hr, hlocks, hA⟩ := id hC
  unfold X8_within_b131 at hf
  refine lv_icmp_gt (tgt := 138) hx hb dX8_within_131 (by decide) (fun c1 => ?_) (fun c1 => ?_)
  · replace hf := zif_t hf c1
    refine lv_iconst (v := 0) hx hb dX8_within_138 (by decide) ?_
    obtain ⟨h2, hf⟩ := zcb_s hf
    have hu := Option.some.inj hf
    subst hu
    exact z_zret hC h2 hP hD hS dX8_within_139
  · replace hf := zif_f hf c1
    refine lv_iconst (v := 1) hx hb dX8_within_134 (by decide) ?_
    refine lv_goto (tgt := 139) hx hb dX8_within_135 (by decide) ?_
    obtain ⟨h3, hf⟩ := zcb_s hf
    have hu := Option.some.inj hf
    subst hu
    exact z_zret hC h3 hP hD hS dX8_within_139
set_option maxHeartbeats 4000000 in
set_option maxRecDepth 100000 in
theorem t_X8_within_b105 {p : Program} {l : Launch} {e : Env} {s : State} {m : MethodId} {args : Array Value} {below : List Frame} {meth : Method} {c : Code} {A : Nat → Prop} {D : va_G} {cI cJ cZ : ClassId} {h : Nat → Nat} (hC : zCx p s m args meth c A D (zty cI cJ cZ) cX8_within RX8 6 (some .boolean)) (mG : tmG) (mH : tmH) (mR : tmR) (mW : tmW) (mS : tmS) (mK : tmK) (mD : tmD) (mN : tmN) (mO : tmO) (mB : tmB) (mM : tmM) (mF : tmF) (u : Int32) : ∀ (v1 : Int32) (v3 : Int32) (v5 : Int32) (s0 : Int32) (s1 : Int32) (H : Heap) (locs : List Loc) (ls : Array Slot), va_P D vwCl (zWM cI cJ cZ h mG mH mR mW mS mK mD mN mO mB mM mF) H → va_D A (zWM cI cJ cZ h mG mH mR mW mS mK mD mN mO mB mM mF) → va_S A s.heap H locs → lv_has ls 6 [(0, .ref (h 0)), (1, .int v1), (3, .int v3), (5, .int v5)] → X8_within_b105 mG v1 v3 v5 s0 s1 = some u → W p l e ({ frames := 0, cells := 0, slots := 0, locals := 0 } : Room) s m args below meth c H locs 0 0 (MQ below (zQi D A (zWM cI cJ cZ h mG mH mR mW mS mK mD mN mO mB mM mF) (u)) args s 0 0 A) (F0 m 105 ls [.int s0, .int s1]) := by
  intro v1 v3 v5 s0 s1 H locs ls hP hD hS hl hf
  obtain ⟨hx, hb, hml, hown, hts, hK, hr, hlocks, hA⟩ := id hC
  unfold X8_within_b105 at hf
  refine lv_icmp_lt (tgt := 138) hx hb dX8_within_105 (by decide) (fun c4 => ?_) (fun c4 => ?_)
  · replace hf := zif_t hf c4
    refine lv_iconst (v := 0) hx hb dX8_within_138 (by decide) ?_
    obtain ⟨h5, hf⟩ := zcb_s hf
    have hu := Option.some.inj hf
    subst hu
    exact z_zret hC h5 hP hD hS dX8_within_139
  · replace hf := zif_f hf c4
    refine lv_iload_n hx hb dX8_within_108 rfl (lv_at hl 2 rfl) ?_
    refine lv_aload_n hx hb dX8_within_109 rfl (lv_at hl 0 rfl) ?_
    refine va_get (D := D) (ci := 8) (v := .ref (h 2)) (C := RX8) (T := TX8) (N := 56) hx hb hts tb_wsX80 hown hK.1 hP 0 rfl rfl 2 (by decide) (hts _ tb_5_7) (fun _ h9 => h9) rfl dX8_within_110 ?_
    refine lv_iload_n hx hb dX8_within_113 rfl (lv_at hl 1 rfl) ?_
    obtain ⟨h6, hf⟩ := zck_s hf
    refine va_iald hx hb hK.1 hP 2 0 rfl rfl h6 dX8_within_114 ?_
    refine lv_iload hx hb dX8_within_115 (lv_at hl 3 rfl) ?_
    refine lv_icmp_ge (tgt := 125) hx hb dX8_within_117 (by decide) (fun c7 => ?_) (fun c7 => ?_)
    · replace hf := zif_t hf c7
      refine lv_aload_n hx hb dX8_within_125 rfl (lv_at hl 0 rfl) ?_
      refine va_get (D := D) (ci := 8) (v := .ref (h 2)) (C := RX8) (T := TX8) (N := 56) hx hb hts tb_wsX80 hown hK.1 hP 0 rfl rfl 2 (by decide) (hts _ tb_5_7) (fun _ h9 => h9) rfl dX8_within_126 ?_
      refine lv_iload_n hx hb dX8_within_129 rfl (lv_at hl 1 rfl) ?_
      obtain ⟨h8, hf⟩ := zck_s hf
      refine va_iald hx hb hK.1 hP 2 0 rfl rfl h8 dX8_within_130 ?_
      exact t_X8_within_b131 hC  mG mH mR mW mS mK mD mN mO mB mM mF u ((tmG.py mG) v1.toNatClampNeg) v3 H locs ls hP hD hS (lv_sub hl [] rfl) hf
    · replace hf := zif_f hf c7
      refine lv_iload hx hb dX8_within_120 (lv_at hl 3 rfl) ?_
      refine lv_goto (tgt := 131) hx hb dX8_within_122 (by decide) ?_
      exact t_X8_within_b131 hC  mG mH mR mW mS mK mD mN mO mB mM mF u v5 v3 H locs ls hP hD hS (lv_sub hl [] rfl) hf
set_option maxHeartbeats 4000000 in
set_option maxRecDepth 100000 in
theorem t_X8_within_b79 {p : Program} {l : Launch} {e : Env} {s : State} {m : MethodId} {args : Array Value} {below : List Frame} {meth : Method} {c : Code} {A : Nat → Prop} {D : va_G} {cI cJ cZ : ClassId} {h : Nat → Nat} (hC : zCx p s m args meth c A D (zty cI cJ cZ) cX8_within RX8 6 (some .boolean)) (mG : tmG) (mH : tmH) (mR : tmR) (mW : tmW) (mS : tmS) (mK : tmK) (mD : tmD) (mN : tmN) (mO : tmO) (mB : tmB) (mM : tmM) (mF : tmF) (u : Int32) : ∀ (v1 : Int32) (v3 : Int32) (v5 : Int32) (s0 : Int32) (s1 : Int32) (H : Heap) (locs : List Loc) (ls : Array Slot), va_P D vwCl (zWM cI cJ cZ h mG mH mR mW mS mK mD mN mO mB mM mF) H → va_D A (zWM cI cJ cZ h mG mH mR mW mS mK mD mN mO mB mM mF) → va_S A s.heap H locs → lv_has ls 6 [(0, .ref (h 0)), (1, .int v1), (3, .int v3), (5, .int v5)] → X8_within_b79 mG v1 v3 v5 s0 s1 = some u → W p l e ({ frames := 0, cells := 0, slots := 0, locals := 0 } : Room) s m args below meth c H locs 0 0 (MQ below (zQi D A (zWM cI cJ cZ h mG mH mR mW mS mK mD mN mO mB mM mF) (u)) args s 0 0 A) (F0 m 79 ls [.int s0, .int s1]) := by
  intro v1 v3 v5 s0 s1 H locs ls hP hD hS hl hf
  obtain ⟨hx, hb, hml, hown, hts, hK, hr, hlocks, hA⟩ := id hC
  unfold X8_within_b79 at hf
  refine lv_icmp_gt (tgt := 138) hx hb dX8_within_79 (by decide) (fun c9 => ?_) (fun c9 => ?_)
  · replace hf := zif_t hf c9
    refine lv_iconst (v := 0) hx hb dX8_within_138 (by decide) ?_
    obtain ⟨h10, hf⟩ := zcb_s hf
    have hu := Option.some.inj hf
    subst hu
    exact z_zret hC h10 hP hD hS dX8_within_139
  · replace hf := zif_f hf c9
    refine lv_iload_n hx hb dX8_within_82 rfl (lv_at hl 2 rfl) ?_
    refine lv_aload_n hx hb dX8_within_83 rfl (lv_at hl 0 rfl) ?_
    refine va_get (D := D) (ci := 8) (v := .ref (h 2)) (C := RX8) (T := TX8) (N := 56) hx hb hts tb_wsX80 hown hK.1 hP 0 rfl rfl 2 (by decide) (hts _ tb_5_7) (fun _ h9 => h9) rfl dX8_within_84 ?_
    refine lv_iload_n hx hb dX8_within_87 rfl (lv_at hl 1 rfl) ?_
    obtain ⟨h11, hf⟩ := zck_s hf
    refine va_iald hx hb hK.1 hP 2 0 rfl rfl h11 dX8_within_88 ?_
    refine lv_iload hx hb dX8_within_89 (lv_at hl 3 rfl) ?_
    refine lv_icmp_ge (tgt := 103) hx hb dX8_within_91 (by decide) (fun c12 => ?_) (fun c12 => ?_)
    · replace hf := zif_t hf c12
      refine lv_iload hx hb dX8_within_103 (lv_at hl 3 rfl) ?_
      exact t_X8_within_b105 hC  mG mH mR mW mS mK mD mN mO mB mM mF u v1 v3 v5 v5 v3 H locs ls hP hD hS (lv_sub hl [0, 1, 2, 3] rfl) hf
    · replace hf := zif_f hf c12
      refine lv_aload_n hx hb dX8_within_94 rfl (lv_at hl 0 rfl) ?_
      refine va_get (D := D) (ci := 8) (v := .ref (h 2)) (C := RX8) (T := TX8) (N := 56) hx hb hts tb_wsX80 hown hK.1 hP 0 rfl rfl 2 (by decide) (hts _ tb_5_7) (fun _ h9 => h9) rfl dX8_within_95 ?_
      refine lv_iload_n hx hb dX8_within_98 rfl (lv_at hl 1 rfl) ?_
      obtain ⟨h13, hf⟩ := zck_s hf
      refine va_iald hx hb hK.1 hP 2 0 rfl rfl h13 dX8_within_99 ?_
      refine lv_goto (tgt := 105) hx hb dX8_within_100 (by decide) ?_
      exact t_X8_within_b105 hC  mG mH mR mW mS mK mD mN mO mB mM mF u v1 v3 v5 ((tmG.py mG) v1.toNatClampNeg) v3 H locs ls hP hD hS (lv_sub hl [0, 1, 2, 3] rfl) hf
set_option maxHeartbeats 4000000 in
set_option maxRecDepth 100000 in
theorem t_X8_within_b53 {p : Program} {l : Launch} {e : Env} {s : State} {m : MethodId} {args : Array Value} {below : List Frame} {meth : Method} {c : Code} {A : Nat → Prop} {D : va_G} {cI cJ cZ : ClassId} {h : Nat → Nat} (hC : zCx p s m args meth c A D (zty cI cJ cZ) cX8_within RX8 6 (some .boolean)) (mG : tmG) (mH : tmH) (mR : tmR) (mW : tmW) (mS : tmS) (mK : tmK) (mD : tmD) (mN : tmN) (mO : tmO) (mB : tmB) (mM : tmM) (mF : tmF) (u : Int32) : ∀ (v1 : Int32) (v2 : Int32) (v3 : Int32) (v4 : Int32) (v5 : Int32) (s0 : Int32) (s1 : Int32) (H : Heap) (locs : List Loc) (ls : Array Slot), va_P D vwCl (zWM cI cJ cZ h mG mH mR mW mS mK mD mN mO mB mM mF) H → va_D A (zWM cI cJ cZ h mG mH mR mW mS mK mD mN mO mB mM mF) → va_S A s.heap H locs → lv_has ls 6 [(0, .ref (h 0)), (1, .int v1), (2, .int v2), (3, .int v3), (4, .int v4), (5, .int v5)] → X8_within_b53 mG v1 v2 v3 v4 v5 s0 s1 = some u → W p l e ({ frames := 0, cells := 0, slots := 0, locals := 0 } : Room) s m args below meth c H locs 0 0 (MQ below (zQi D A (zWM cI cJ cZ h mG mH mR mW mS mK mD mN mO mB mM mF) (u)) args s 0 0 A) (F0 m 53 ls [.int s0, .int s1]) := by
  intro v1 v2 v3 v4 v5 s0 s1 H locs ls hP hD hS hl hf
  obtain ⟨hx, hb, hml, hown, hts, hK, hr, hlocks, hA⟩ := id hC
  unfold X8_within_b53 at hf
  refine lv_icmp_lt (tgt := 138) hx hb dX8_within_53 (by decide) (fun c14 => ?_) (fun c14 => ?_)
  · replace hf := zif_t hf c14
    refine lv_iconst (v := 0) hx hb dX8_within_138 (by decide) ?_
    obtain ⟨h15, hf⟩ := zcb_s hf
    have hu := Option.some.inj hf
    subst hu
    exact z_zret hC h15 hP hD hS dX8_within_139
  · replace hf := zif_f hf c14
    refine lv_iload_n hx hb dX8_within_56 rfl (lv_at hl 2 rfl) ?_
    refine lv_aload_n hx hb dX8_within_57 rfl (lv_at hl 0 rfl) ?_
    refine va_get (D := D) (ci := 8) (v := .ref (h 1)) (C := RX8) (T := TX8) (N := 56) hx hb hts tb_wsX80 hown hK.1 hP 0 rfl rfl 1 (by decide) (hts _ tb_5_6) (fun _ h9 => h9) rfl dX8_within_58 ?_
    refine lv_iload_n hx hb dX8_within_61 rfl (lv_at hl 1 rfl) ?_
    obtain ⟨h16, hf⟩ := zck_s hf
    refine va_iald hx hb hK.1 hP 1 0 rfl rfl h16 dX8_within_62 ?_
    refine lv_iload hx hb dX8_within_63 (lv_at hl 4 rfl) ?_
    refine lv_icmp_ge (tgt := 73) hx hb dX8_within_65 (by decide) (fun c17 => ?_) (fun c17 => ?_)
    · replace hf := zif_t hf c17
      refine lv_aload_n hx hb dX8_within_73 rfl (lv_at hl 0 rfl) ?_
      refine va_get (D := D) (ci := 8) (v := .ref (h 1)) (C := RX8) (T := TX8) (N := 56) hx hb hts tb_wsX80 hown hK.1 hP 0 rfl rfl 1 (by decide) (hts _ tb_5_6) (fun _ h9 => h9) rfl dX8_within_74 ?_
      refine lv_iload_n hx hb dX8_within_77 rfl (lv_at hl 1 rfl) ?_
      obtain ⟨h18, hf⟩ := zck_s hf
      refine va_iald hx hb hK.1 hP 1 0 rfl rfl h18 dX8_within_78 ?_
      exact t_X8_within_b79 hC  mG mH mR mW mS mK mD mN mO mB mM mF u v1 v3 v5 ((tmG.px mG) v1.toNatClampNeg) v2 H locs ls hP hD hS (lv_sub hl [0, 1, 3, 5] rfl) hf
    · replace hf := zif_f hf c17
      refine lv_iload hx hb dX8_within_68 (lv_at hl 4 rfl) ?_
      refine lv_goto (tgt := 79) hx hb dX8_within_70 (by decide) ?_
      exact t_X8_within_b79 hC  mG mH mR mW mS mK mD mN mO mB mM mF u v1 v3 v5 v4 v2 H locs ls hP hD hS (lv_sub hl [0, 1, 3, 5] rfl) hf
set_option maxHeartbeats 4000000 in
set_option maxRecDepth 100000 in
theorem c_X8_within (l : Launch) (D : va_G) (cI cJ cZ : ClassId) (h : Nat → Nat) (mG : tmG) (mH : tmH) (mR : tmR) (mW : tmW) (mS : tmS) (mK : tmK) (mD : tmD) (mN : tmN) (mO : tmO) (mB : tmB) (mM : tmM) (mF : tmF) (a1 : Int32) (a2 : Int32) (a3 : Int32) (u : Int32) (hf : X8_within mG a1 a2 a3 = some u) (sz : Nat) : Met l yX8_within (Cond.code yX8_within cX8_within 6 (some .boolean) :: tb_L) ({ frames := 0, cells := 0, slots := 0, locals := 0 } : Room) (zPre D (zty cI cJ cZ) (zWM cI cJ cZ h mG mH mR mW mS mK mD mN mO mB mM mF) sz [.ref (h 0), .int a1, .int a2, .int a3]) (zQi D (va_A (zWM cI cJ cZ h mG mH mR mW mS mK mD mN mO mB mM mF) sz) (zWM cI cJ cZ h mG mH mR mW mS mK mD mN mO mB mM mF) (u)) 0 0 (va_A (zWM cI cJ cZ h mG mH mR mW mS mK mD mN mO mB mM mF) sz) := by
  refine zMet (Qc := fun A => zQi D A (zWM cI cJ cZ h mG mH mR mW mS mK mD mN mO mB mM mF) (u)) (by decide) rfl (Nat.le_of_ble_eq_true rfl) ?_
  intro p e s m args below meth c A ls hC _ hP hD hS hl
  replace hl : lv_has ls 6 [(0, .ref (h 0)), (1, .int a1), (2, .int a2), (3, .int a3)] := hl
  obtain ⟨hx, hb, hml, hown, hts, hK, hr, hlocks, hA⟩ := id hC
  unfold X8_within at hf
  obtain ⟨H, hH⟩ : ∃ H, H = s.heap := ⟨_, rfl⟩
  rw [← hH] at hP
  replace hS : va_S A s.heap H [] := by rw [hH]; exact hS
  show W p l e _ s m args below meth c s.heap [] 0 0 _ _
  rw [← hH]
  clear hH
  obtain ⟨locs, hlo⟩ : ∃ x : List Loc, x = [] := ⟨_, rfl⟩
  rw [← hlo] at hS ⊢
  clear hlo
  refine lv_aload_n hx hb dX8_within_0 rfl (lv_at hl 0 rfl) ?_
  refine va_get (D := D) (ci := 8) (v := .ref (h 1)) (C := RX8) (T := TX8) (N := 56) hx hb hts tb_wsX80 hown hK.1 hP 0 rfl rfl 1 (by decide) (hts _ tb_5_6) (fun _ h9 => h9) rfl dX8_within_1 ?_
  refine lv_iload_n hx hb dX8_within_4 rfl (lv_at hl 1 rfl) ?_
  obtain ⟨h19, hf⟩ := zck_s hf
  refine va_iald hx hb hK.1 hP 1 0 rfl rfl h19 dX8_within_5 ?_
  refine lv_aload_n hx hb dX8_within_6 rfl (lv_at hl 0 rfl) ?_
  refine va_get (D := D) (ci := 8) (v := .ref (h 3)) (C := RX8) (T := TX8) (N := 56) hx hb hts tb_wsX80 hown hK.1 hP 0 rfl rfl 3 (by decide) (hts _ tb_5_8) (fun _ h9 => h9) rfl dX8_within_7 ?_
  refine lv_iload_n hx hb dX8_within_10 rfl (lv_at hl 1 rfl) ?_
  obtain ⟨h20, hf⟩ := zck_s hf
  refine va_iald hx hb hK.1 hP 3 0 rfl rfl h20 dX8_within_11 ?_
  refine lv_iadd hx hb dX8_within_12 ?_
  refine lv_topi (fun x21 ex21 => ?_)
  replace hf := zl_n ex21 hf
  refine lv_istore (lv' := [(4, .int x21), (0, .ref (h 0)), (1, .int a1), (2, .int a2), (3, .int a3)]) hx hb dX8_within_13 hl (by decide) rfl (fun ls hl => ?_)
  refine lv_aload_n hx hb dX8_within_15 rfl (lv_at hl 1 rfl) ?_
  refine va_get (D := D) (ci := 8) (v := .ref (h 2)) (C := RX8) (T := TX8) (N := 56) hx hb hts tb_wsX80 hown hK.1 hP 0 rfl rfl 2 (by decide) (hts _ tb_5_7) (fun _ h9 => h9) rfl dX8_within_16 ?_
  refine lv_iload_n hx hb dX8_within_19 rfl (lv_at hl 2 rfl) ?_
  obtain ⟨h22, hf⟩ := zck_s hf
  refine va_iald hx hb hK.1 hP 2 0 rfl rfl h22 dX8_within_20 ?_
  refine lv_aload_n hx hb dX8_within_21 rfl (lv_at hl 1 rfl) ?_
  refine va_get (D := D) (ci := 8) (v := .ref (h 4)) (C := RX8) (T := TX8) (N := 56) hx hb hts tb_wsX80 hown hK.1 hP 0 rfl rfl 4 (by decide) (hts _ tb_5_9) (fun _ h9 => h9) rfl dX8_within_22 ?_
  refine lv_iload_n hx hb dX8_within_25 rfl (lv_at hl 2 rfl) ?_
  obtain ⟨h23, hf⟩ := zck_s hf
  refine va_iald hx hb hK.1 hP 4 0 rfl rfl h23 dX8_within_26 ?_
  refine lv_iadd hx hb dX8_within_27 ?_
  refine lv_topi (fun x24 ex24 => ?_)
  replace hf := zl_n ex24 hf
  refine lv_istore (lv' := [(5, .int x24), (4, .int x21), (0, .ref (h 0)), (1, .int a1), (2, .int a2), (3, .int a3)]) hx hb dX8_within_28 hl (by decide) rfl (fun ls hl => ?_)
  refine lv_iload_n hx hb dX8_within_30 rfl (lv_at hl 4 rfl) ?_
  refine lv_aload_n hx hb dX8_within_31 rfl (lv_at hl 2 rfl) ?_
  refine va_get (D := D) (ci := 8) (v := .ref (h 1)) (C := RX8) (T := TX8) (N := 56) hx hb hts tb_wsX80 hown hK.1 hP 0 rfl rfl 1 (by decide) (hts _ tb_5_6) (fun _ h9 => h9) rfl dX8_within_32 ?_
  refine lv_iload_n hx hb dX8_within_35 rfl (lv_at hl 3 rfl) ?_
  obtain ⟨h25, hf⟩ := zck_s hf
  refine va_iald hx hb hK.1 hP 1 0 rfl rfl h25 dX8_within_36 ?_
  refine lv_iload hx hb dX8_within_37 (lv_at hl 1 rfl) ?_
  refine lv_icmp_ge (tgt := 51) hx hb dX8_within_39 (by decide) (fun c26 => ?_) (fun c26 => ?_)
  · replace hf := zif_t hf c26
    refine lv_iload hx hb dX8_within_51 (lv_at hl 1 rfl) ?_
    exact t_X8_within_b53 hC  mG mH mR mW mS mK mD mN mO mB mM mF u a1 a2 a3 x21 x24 x21 a2 H locs ls hP hD hS (lv_sub hl [2, 3, 4, 5, 1, 0] rfl) hf
  · replace hf := zif_f hf c26
    refine lv_aload_n hx hb dX8_within_42 rfl (lv_at hl 2 rfl) ?_
    refine va_get (D := D) (ci := 8) (v := .ref (h 1)) (C := RX8) (T := TX8) (N := 56) hx hb hts tb_wsX80 hown hK.1 hP 0 rfl rfl 1 (by decide) (hts _ tb_5_6) (fun _ h9 => h9) rfl dX8_within_43 ?_
    refine lv_iload_n hx hb dX8_within_46 rfl (lv_at hl 3 rfl) ?_
    obtain ⟨h27, hf⟩ := zck_s hf
    refine va_iald hx hb hK.1 hP 1 0 rfl rfl h27 dX8_within_47 ?_
    refine lv_goto (tgt := 53) hx hb dX8_within_48 (by decide) ?_
    exact t_X8_within_b53 hC  mG mH mR mW mS mK mD mN mO mB mM mF u a1 a2 a3 x21 x24 ((tmG.px mG) a1.toNatClampNeg) a2 H locs ls hP hD hS (lv_sub hl [2, 3, 4, 5, 1, 0] rfl) hf
set_option maxHeartbeats 4000000 in
set_option maxRecDepth 100000 in
theorem t_X8_meets_b207 {p : Program} {l : Launch} {e : Env} {s : State} {m : MethodId} {args : Array Value} {below : List Frame} {meth : Method} {c : Code} {A : Nat → Prop} {D : va_G} {cI cJ cZ : ClassId} {h : Nat → Nat} (hC : zCx p s m args meth c A D (zty cI cJ cZ) cX8_meets RX8 15 (some .boolean)) (mG : tmG) (mH : tmH) (mR : tmR) (mW : tmW) (mS : tmS) (mK : tmK) (mD : tmD) (mN : tmN) (mO : tmO) (mB : tmB) (mM : tmM) (mF : tmF) (u : Int32) : ∀ (v10 : Int32) (v11 : Int32) (v12 : Int32) (v13 : Int32) (H : Heap) (locs : List Loc) (ls : Array Slot), va_P D vwCl (zWM cI cJ cZ h mG mH mR mW mS mK mD mN mO mB mM mF) H → va_D A (zWM cI cJ cZ h mG mH mR mW mS mK mD mN mO mB mM mF) → va_S A s.heap H locs → lv_has ls 15 [(10, .int v10), (11, .int v11), (12, .int v12), (13, .int v13)] → X8_meets_b207 mG v10 v11 v12 v13 = some u → W p l e ({ frames := 2, cells := 0, slots := 0, locals := 46 } : Room) s m args below meth c H locs 0 0 (MQ below (zQi D A (zWM cI cJ cZ h mG mH mR mW mS mK mD mN mO mB mM mF) (u)) args s 0 0 A) (F0 m 207 ls []) := by
  intro v10 v11 v12 v13 H locs ls hP hD hS hl hf
  obtain ⟨hx, hb, hml, hown, hts, hK, hr, hlocks, hA⟩ := id hC
  unfold X8_meets_b207 at hf
  refine lv_iload hx hb dX8_meets_207 (lv_at hl 0 rfl) ?_
  refine lv_iload hx hb dX8_meets_209 (lv_at hl 1 rfl) ?_
  refine lv_imul hx hb dX8_meets_211 ?_
  refine lv_if_ge (tgt := 227) hx hb dX8_meets_212 (by decide) (fun c1 => ?_) (fun c1 => ?_)
  · replace hf := zif_t hf c1
    refine lv_iconst (v := 0) hx hb dX8_meets_227 (by decide) ?_
    obtain ⟨h2, hf⟩ := zcb_s hf
    have hu := Option.some.inj hf
    subst hu
    exact z_zret hC h2 hP hD hS dX8_meets_228
  · replace hf := zif_f hf c1
    refine lv_iload hx hb dX8_meets_215 (lv_at hl 2 rfl) ?_
    refine lv_iload hx hb dX8_meets_217 (lv_at hl 3 rfl) ?_
    refine lv_imul hx hb dX8_meets_219 ?_
    refine lv_if_ge (tgt := 227) hx hb dX8_meets_220 (by decide) (fun c3 => ?_) (fun c3 => ?_)
    · replace hf := zif_t hf c3
      refine lv_iconst (v := 0) hx hb dX8_meets_227 (by decide) ?_
      obtain ⟨h4, hf⟩ := zcb_s hf
      have hu := Option.some.inj hf
      subst hu
      exact z_zret hC h4 hP hD hS dX8_meets_228
    · replace hf := zif_f hf c3
      refine lv_iconst (v := 1) hx hb dX8_meets_223 (by decide) ?_
      refine lv_goto (tgt := 228) hx hb dX8_meets_224 (by decide) ?_
      obtain ⟨h5, hf⟩ := zcb_s hf
      have hu := Option.some.inj hf
      subst hu
      exact z_zret hC h5 hP hD hS dX8_meets_228
set_option maxHeartbeats 4000000 in
set_option maxRecDepth 100000 in
theorem t_X8_meets_b179 {p : Program} {l : Launch} {e : Env} {s : State} {m : MethodId} {args : Array Value} {below : List Frame} {meth : Method} {c : Code} {A : Nat → Prop} {D : va_G} {cI cJ cZ : ClassId} {h : Nat → Nat} (hC : zCx p s m args meth c A D (zty cI cJ cZ) cX8_meets RX8 15 (some .boolean)) (mG : tmG) (mH : tmH) (mR : tmR) (mW : tmW) (mS : tmS) (mK : tmK) (mD : tmD) (mN : tmN) (mO : tmO) (mB : tmB) (mM : tmM) (mF : tmF) (u : Int32) : ∀ (v2 : Int32) (v3 : Int32) (v4 : Int32) (v5 : Int32) (v8 : Int32) (v9 : Int32) (v10 : Int32) (v11 : Int32) (v12 : Int32) (v13 : Int32) (v14 : Int32) (H : Heap) (locs : List Loc) (ls : Array Slot), va_P D vwCl (zWM cI cJ cZ h mG mH mR mW mS mK mD mN mO mB mM mF) H → va_D A (zWM cI cJ cZ h mG mH mR mW mS mK mD mN mO mB mM mF) → va_S A s.heap H locs → lv_has ls 15 [(2, .int v2), (3, .int v3), (4, .int v4), (5, .int v5), (8, .int v8), (9, .int v9), (10, .int v10), (11, .int v11), (12, .int v12), (13, .int v13), (14, .int v14)] → X8_meets_b179 mG v2 v3 v4 v5 v8 v9 v10 v11 v12 v13 v14 = some u → W p l e ({ frames := 2, cells := 0, slots := 0, locals := 46 } : Room) s m args below meth c H locs 0 0 (MQ below (zQi D A (zWM cI cJ cZ h mG mH mR mW mS mK mD mN mO mB mM mF) (u)) args s 0 0 A) (F0 m 179 ls []) := by
  intro v2 v3 v4 v5 v8 v9 v10 v11 v12 v13 v14 H locs ls hP hD hS hl hf
  obtain ⟨hx, hb, hml, hown, hts, hK, hr, hlocks, hA⟩ := id hC
  unfold X8_meets_b179 at hf
  refine lv_iload hx hb dX8_meets_179 (lv_at hl 10 rfl) ?_
  refine lv_if_eq (tgt := 207) hx hb dX8_meets_181 (by decide) (fun c6 => ?_) (fun c6 => ?_)
  · replace hf := zif_t hf c6
    exact t_X8_meets_b207 hC  mG mH mR mW mS mK mD mN mO mB mM mF u v10 v11 v12 v13 H locs ls hP hD hS (lv_sub hl [6, 7, 8, 9] rfl) hf
  · replace hf := zif_f hf c6
    refine lv_iload hx hb dX8_meets_184 (lv_at hl 9 rfl) ?_
    refine lv_if_ne (tgt := 207) hx hb dX8_meets_186 (by decide) (fun c7 => ?_) (fun c7 => ?_)
    · replace hf := zif_f hf c7
      exact t_X8_meets_b207 hC  mG mH mR mW mS mK mD mN mO mB mM mF u v10 v11 v12 v13 H locs ls hP hD hS (lv_sub hl [6, 7, 8, 9] rfl) hf
    · replace hf := zif_t hf c7
      refine lv_iload_n hx hb dX8_meets_189 rfl (lv_at hl 0 rfl) ?_
      refine lv_iload_n hx hb dX8_meets_190 rfl (lv_at hl 1 rfl) ?_
      refine lv_iload hx hb dX8_meets_191 (lv_at hl 2 rfl) ?_
      refine lv_iload hx hb dX8_meets_193 (lv_at hl 3 rfl) ?_
      refine lv_iload hx hb dX8_meets_195 (lv_at hl 4 rfl) ?_
      refine lv_iload hx hb dX8_meets_197 (lv_at hl 5 rfl) ?_
      obtain ⟨u8, hu8, hf⟩ := zbd hf
      refine zthen_i hA hD hS (zrunS (As := [.int v2, .int v3, .int v4, .int v5, .int v8, .int v9]) (rest := []) hC hP hD (c_X8_between l D cI cJ cZ h  mG mH mR mW mS mK mD mN mO mB mM mF v2 v3 v4 v5 v8 v9 u8 hu8 H.size) kRX8_240 rfl rfl ⟨by decide, by decide⟩ rfl hl.1 rfl (Nat.le_of_ble_eq_true rfl) dX8_meets_199) (fun H locs hP hD hS => ?_)
      refine lv_if_eq (tgt := 207) hx hb dX8_meets_202 (by decide) (fun c9 => ?_) (fun c9 => ?_)
      · replace hf := zif_t hf c9
        exact t_X8_meets_b207 hC  mG mH mR mW mS mK mD mN mO mB mM mF u v10 v11 v12 v13 H locs ls hP hD hS (lv_sub hl [6, 7, 8, 9] rfl) hf
      · replace hf := zif_f hf c9
        refine lv_iconst (v := 1) hx hb dX8_meets_205 (by decide) ?_
        obtain ⟨h10, hf⟩ := zcb_s hf
        have hu := Option.some.inj hf
        subst hu
        exact z_zret hC h10 hP hD hS dX8_meets_206
set_option maxHeartbeats 4000000 in
set_option maxRecDepth 100000 in
theorem t_X8_meets_b151 {p : Program} {l : Launch} {e : Env} {s : State} {m : MethodId} {args : Array Value} {below : List Frame} {meth : Method} {c : Code} {A : Nat → Prop} {D : va_G} {cI cJ cZ : ClassId} {h : Nat → Nat} (hC : zCx p s m args meth c A D (zty cI cJ cZ) cX8_meets RX8 15 (some .boolean)) (mG : tmG) (mH : tmH) (mR : tmR) (mW : tmW) (mS : tmS) (mK : tmK) (mD : tmD) (mN : tmN) (mO : tmO) (mB : tmB) (mM : tmM) (mF : tmF) (u : Int32) : ∀ (v2 : Int32) (v3 : Int32) (v4 : Int32) (v5 : Int32) (v6 : Int32) (v7 : Int32) (v8 : Int32) (v9 : Int32) (v10 : Int32) (v11 : Int32) (v12 : Int32) (v13 : Int32) (s0 : Int32) (H : Heap) (locs : List Loc) (ls : Array Slot), va_P D vwCl (zWM cI cJ cZ h mG mH mR mW mS mK mD mN mO mB mM mF) H → va_D A (zWM cI cJ cZ h mG mH mR mW mS mK mD mN mO mB mM mF) → va_S A s.heap H locs → lv_has ls 15 [(2, .int v2), (3, .int v3), (4, .int v4), (5, .int v5), (6, .int v6), (7, .int v7), (8, .int v8), (9, .int v9), (10, .int v10), (11, .int v11), (12, .int v12), (13, .int v13)] → X8_meets_b151 mG v2 v3 v4 v5 v6 v7 v8 v9 v10 v11 v12 v13 s0 = some u → W p l e ({ frames := 2, cells := 0, slots := 0, locals := 46 } : Room) s m args below meth c H locs 0 0 (MQ below (zQi D A (zWM cI cJ cZ h mG mH mR mW mS mK mD mN mO mB mM mF) (u)) args s 0 0 A) (F0 m 151 ls [.int s0]) := by
  intro v2 v3 v4 v5 v6 v7 v8 v9 v10 v11 v12 v13 s0 H locs ls hP hD hS hl hf
  obtain ⟨hx, hb, hml, hown, hts, hK, hr, hlocks, hA⟩ := id hC
  unfold X8_meets_b151 at hf
  refine lv_istore (lv' := [(14, .int s0), (2, .int v2), (3, .int v3), (4, .int v4), (5, .int v5), (6, .int v6), (7, .int v7), (8, .int v8), (9, .int v9), (10, .int v10), (11, .int v11), (12, .int v12), (13, .int v13)]) hx hb dX8_meets_151 hl (by decide) rfl (fun ls hl => ?_)
  refine lv_iload hx hb dX8_meets_153 (lv_at hl 0 rfl) ?_
  refine lv_if_eq (tgt := 179) hx hb dX8_meets_155 (by decide) (fun c11 => ?_) (fun c11 => ?_)
  · replace hf := zif_t hf c11
    exact t_X8_meets_b179 hC  mG mH mR mW mS mK mD mN mO mB mM mF u v2 v3 v4 v5 v8 v9 v10 v11 v12 v13 s0 H locs ls hP hD hS (lv_sub hl [1, 2, 3, 4, 7, 8, 9, 10, 11, 12, 0] rfl) hf
  · replace hf := zif_f hf c11
    refine lv_iload hx hb dX8_meets_158 (lv_at hl 11 rfl) ?_
    refine lv_if_ne (tgt := 179) hx hb dX8_meets_160 (by decide) (fun c12 => ?_) (fun c12 => ?_)
    · replace hf := zif_f hf c12
      exact t_X8_meets_b179 hC  mG mH mR mW mS mK mD mN mO mB mM mF u v2 v3 v4 v5 v8 v9 v10 v11 v12 v13 s0 H locs ls hP hD hS (lv_sub hl [1, 2, 3, 4, 7, 8, 9, 10, 11, 12, 0] rfl) hf
    · replace hf := zif_t hf c12
      refine lv_iload_n hx hb dX8_meets_163 rfl (lv_at hl 1 rfl) ?_
      refine lv_iload_n hx hb dX8_meets_164 rfl (lv_at hl 2 rfl) ?_
      refine lv_iload hx hb dX8_meets_165 (lv_at hl 3 rfl) ?_
      refine lv_iload hx hb dX8_meets_167 (lv_at hl 4 rfl) ?_
      refine lv_iload hx hb dX8_meets_169 (lv_at hl 5 rfl) ?_
      refine lv_iload hx hb dX8_meets_171 (lv_at hl 6 rfl) ?_
      obtain ⟨u13, hu13, hf⟩ := zbd hf
      refine zthen_i hA hD hS (zrunS (As := [.int v2, .int v3, .int v4, .int v5, .int v6, .int v7]) (rest := []) hC hP hD (c_X8_between l D cI cJ cZ h  mG mH mR mW mS mK mD mN mO mB mM mF v2 v3 v4 v5 v6 v7 u13 hu13 H.size) kRX8_240 rfl rfl ⟨by decide, by decide⟩ rfl hl.1 rfl (Nat.le_of_ble_eq_true rfl) dX8_meets_173) (fun H locs hP hD hS => ?_)
      refine lv_if_ne (tgt := 205) hx hb dX8_meets_176 (by decide) (fun c14 => ?_) (fun c14 => ?_)
      · replace hf := zif_f hf c14
        refine lv_iconst (v := 1) hx hb dX8_meets_205 (by decide) ?_
        obtain ⟨h15, hf⟩ := zcb_s hf
        have hu := Option.some.inj hf
        subst hu
        exact z_zret hC h15 hP hD hS dX8_meets_206
      · replace hf := zif_t hf c14
        exact t_X8_meets_b179 hC  mG mH mR mW mS mK mD mN mO mB mM mF u v2 v3 v4 v5 v8 v9 v10 v11 v12 v13 s0 H locs ls hP hD hS (lv_sub hl [1, 2, 3, 4, 7, 8, 9, 10, 11, 12, 0] rfl) hf
set_option maxHeartbeats 4000000 in
set_option maxRecDepth 100000 in
theorem t_X8_meets_b146 {p : Program} {l : Launch} {e : Env} {s : State} {m : MethodId} {args : Array Value} {below : List Frame} {meth : Method} {c : Code} {A : Nat → Prop} {D : va_G} {cI cJ cZ : ClassId} {h : Nat → Nat} (hC : zCx p s m args meth c A D (zty cI cJ cZ) cX8_meets RX8 15 (some .boolean)) (mG : tmG) (mH : tmH) (mR : tmR) (mW : tmW) (mS : tmS) (mK : tmK) (mD : tmD) (mN : tmN) (mO : tmO) (mB : tmB) (mM : tmM) (mF : tmF) (u : Int32) : ∀ (v2 : Int32) (v3 : Int32) (v4 : Int32) (v5 : Int32) (v6 : Int32) (v7 : Int32) (v8 : Int32) (v9 : Int32) (v10 : Int32) (v11 : Int32) (v12 : Int32) (v13 : Int32) (H : Heap) (locs : List Loc) (ls : Array Slot), va_P D vwCl (zWM cI cJ cZ h mG mH mR mW mS mK mD mN mO mB mM mF) H → va_D A (zWM cI cJ cZ h mG mH mR mW mS mK mD mN mO mB mM mF) → va_S A s.heap H locs → lv_has ls 15 [(2, .int v2), (3, .int v3), (4, .int v4), (5, .int v5), (6, .int v6), (7, .int v7), (8, .int v8), (9, .int v9), (10, .int v10), (11, .int v11), (12, .int v12), (13, .int v13)] → X8_meets_b146 mG v2 v3 v4 v5 v6 v7 v8 v9 v10 v11 v12 v13 = some u → W p l e ({ frames := 2, cells := 0, slots := 0, locals := 46 } : Room) s m args below meth c H locs 0 0 (MQ below (zQi D A (zWM cI cJ cZ h mG mH mR mW mS mK mD mN mO mB mM mF) (u)) args s 0 0 A) (F0 m 146 ls []) := by
  intro v2 v3 v4 v5 v6 v7 v8 v9 v10 v11 v12 v13 H locs ls hP hD hS hl hf
  obtain ⟨hx, hb, hml, hown, hts, hK, hr, hlocks, hA⟩ := id hC
  unfold X8_meets_b146 at hf
  refine lv_iconst (v := 1) hx hb dX8_meets_146 (by decide) ?_
  refine lv_goto (tgt := 151) hx hb dX8_meets_147 (by decide) ?_
  exact t_X8_meets_b151 hC  mG mH mR mW mS mK mD mN mO mB mM mF u v2 v3 v4 v5 v6 v7 v8 v9 v10 v11 v12 v13 (1 : Int32) H locs ls hP hD hS (lv_sub hl [0, 1, 2, 3, 4, 5, 6, 7, 8, 9, 10, 11] rfl) hf
set_option maxHeartbeats 4000000 in
set_option maxRecDepth 100000 in
theorem t_X8_meets_b134 {p : Program} {l : Launch} {e : Env} {s : State} {m : MethodId} {args : Array Value} {below : List Frame} {meth : Method} {c : Code} {A : Nat → Prop} {D : va_G} {cI cJ cZ : ClassId} {h : Nat → Nat} (hC : zCx p s m args meth c A D (zty cI cJ cZ) cX8_meets RX8 15 (some .boolean)) (mG : tmG) (mH : tmH) (mR : tmR) (mW : tmW) (mS : tmS) (mK : tmK) (mD : tmD) (mN : tmN) (mO : tmO) (mB : tmB) (mM : tmM) (mF : tmF) (u : Int32) : ∀ (v2 : Int32) (v3 : Int32) (v4 : Int32) (v5 : Int32) (v6 : Int32) (v7 : Int32) (v8 : Int32) (v9 : Int32) (v10 : Int32) (v11 : Int32) (v12 : Int32) (v13 : Int32) (H : Heap) (locs : List Loc) (ls : Array Slot), va_P D vwCl (zWM cI cJ cZ h mG mH mR mW mS mK mD mN mO mB mM mF) H → va_D A (zWM cI cJ cZ h mG mH mR mW mS mK mD mN mO mB mM mF) → va_S A s.heap H locs → lv_has ls 15 [(2, .int v2), (3, .int v3), (4, .int v4), (5, .int v5), (6, .int v6), (7, .int v7), (8, .int v8), (9, .int v9), (10, .int v10), (11, .int v11), (12, .int v12), (13, .int v13)] → X8_meets_b134 mG v2 v3 v4 v5 v6 v7 v8 v9 v10 v11 v12 v13 = some u → W p l e ({ frames := 2, cells := 0, slots := 0, locals := 46 } : Room) s m args below meth c H locs 0 0 (MQ below (zQi D A (zWM cI cJ cZ h mG mH mR mW mS mK mD mN mO mB mM mF) (u)) args s 0 0 A) (F0 m 134 ls []) := by
  intro v2 v3 v4 v5 v6 v7 v8 v9 v10 v11 v12 v13 H locs ls hP hD hS hl hf
  obtain ⟨hx, hb, hml, hown, hts, hK, hr, hlocks, hA⟩ := id hC
  unfold X8_meets_b134 at hf
  refine lv_iload_n hx hb dX8_meets_134 rfl (lv_at hl 0 rfl) ?_
  refine lv_iload hx hb dX8_meets_135 (lv_at hl 2 rfl) ?_
  refine lv_icmp_ne (tgt := 146) hx hb dX8_meets_137 (by decide) (fun c16 => ?_) (fun c16 => ?_)
  · replace hf := zif_f hf c16
    exact t_X8_meets_b146 hC  mG mH mR mW mS mK mD mN mO mB mM mF u v2 v3 v4 v5 v6 v7 v8 v9 v10 v11 v12 v13 H locs ls hP hD hS (lv_sub hl [0, 1, 2, 3, 4, 5, 6, 7, 8, 9, 10, 11] rfl) hf
  · replace hf := zif_t hf c16
    refine lv_iload_n hx hb dX8_meets_140 rfl (lv_at hl 1 rfl) ?_
    refine lv_iload hx hb dX8_meets_141 (lv_at hl 3 rfl) ?_
    refine lv_icmp_eq (tgt := 150) hx hb dX8_meets_143 (by decide) (fun c17 => ?_) (fun c17 => ?_)
    · replace hf := zif_t hf c17
      refine lv_iconst (v := 0) hx hb dX8_meets_150 (by decide) ?_
      exact t_X8_meets_b151 hC  mG mH mR mW mS mK mD mN mO mB mM mF u v2 v3 v4 v5 v6 v7 v8 v9 v10 v11 v12 v13 (0 : Int32) H locs ls hP hD hS (lv_sub hl [0, 1, 2, 3, 4, 5, 6, 7, 8, 9, 10, 11] rfl) hf
    · replace hf := zif_f hf c17
      exact t_X8_meets_b146 hC  mG mH mR mW mS mK mD mN mO mB mM mF u v2 v3 v4 v5 v6 v7 v8 v9 v10 v11 v12 v13 H locs ls hP hD hS (lv_sub hl [0, 1, 2, 3, 4, 5, 6, 7, 8, 9, 10, 11] rfl) hf
set_option maxHeartbeats 4000000 in
set_option maxRecDepth 100000 in
theorem t_X8_meets_b115 {p : Program} {l : Launch} {e : Env} {s : State} {m : MethodId} {args : Array Value} {below : List Frame} {meth : Method} {c : Code} {A : Nat → Prop} {D : va_G} {cI cJ cZ : ClassId} {h : Nat → Nat} (hC : zCx p s m args meth c A D (zty cI cJ cZ) cX8_meets RX8 15 (some .boolean)) (mG : tmG) (mH : tmH) (mR : tmR) (mW : tmW) (mS : tmS) (mK : tmK) (mD : tmD) (mN : tmN) (mO : tmO) (mB : tmB) (mM : tmM) (mF : tmF) (u : Int32) : ∀ (v1 : Int32) (v2 : Int32) (v3 : Int32) (v4 : Int32) (v5 : Int32) (v6 : Int32) (v7 : Int32) (v8 : Int32) (v9 : Int32) (v10 : Int32) (v11 : Int32) (v12 : Int32) (v13 : Int32) (H : Heap) (locs : List Loc) (ls : Array Slot), va_P D vwCl (zWM cI cJ cZ h mG mH mR mW mS mK mD mN mO mB mM mF) H → va_D A (zWM cI cJ cZ h mG mH mR mW mS mK mD mN mO mB mM mF) → va_S A s.heap H locs → lv_has ls 15 [(0, .ref (h 0)), (1, .int v1), (2, .int v2), (3, .int v3), (4, .int v4), (5, .int v5), (6, .int v6), (7, .int v7), (8, .int v8), (9, .int v9), (10, .int v10), (11, .int v11), (12, .int v12), (13, .int v13)] → X8_meets_b115 mG v1 v2 v3 v4 v5 v6 v7 v8 v9 v10 v11 v12 v13 = some u → W p l e ({ frames := 2, cells := 0, slots := 0, locals := 46 } : Room) s m args below meth c H locs 0 0 (MQ below (zQi D A (zWM cI cJ cZ h mG mH mR mW mS mK mD mN mO mB mM mF) (u)) args s 0 0 A) (F0 m 115 ls []) := by
  intro v1 v2 v3 v4 v5 v6 v7 v8 v9 v10 v11 v12 v13 H locs ls hP hD hS hl hf
  obtain ⟨hx, hb, hml, hown, hts, hK, hr, hlocks, hA⟩ := id hC
  unfold X8_meets_b115 at hf
  refine lv_iload hx hb dX8_meets_115 (lv_at hl 11 rfl) ?_
  refine lv_if_ne (tgt := 134) hx hb dX8_meets_117 (by decide) (fun c18 => ?_) (fun c18 => ?_)
  · replace hf := zif_f hf c18
    exact t_X8_meets_b134 hC  mG mH mR mW mS mK mD mN mO mB mM mF u v2 v3 v4 v5 v6 v7 v8 v9 v10 v11 v12 v13 H locs ls hP hD hS (lv_sub hl [2, 3, 4, 5, 6, 7, 8, 9, 10, 11, 12, 13] rfl) hf
  · replace hf := zif_t hf c18
    refine lv_aload_n hx hb dX8_meets_120 rfl (lv_at hl 0 rfl) ?_
    refine lv_iload_n hx hb dX8_meets_121 rfl (lv_at hl 1 rfl) ?_
    refine lv_iload hx hb dX8_meets_122 (lv_at hl 4 rfl) ?_
    refine lv_iload hx hb dX8_meets_124 (lv_at hl 5 rfl) ?_
    obtain ⟨u19, hu19, hf⟩ := zbd hf
    refine zthen_i hA hD hS (zrunV (As := [.int v1, .int v4, .int v5]) (rest := []) hC hP hD 0 rfl rfl (c_X8_within l D cI cJ cZ h  mG mH mR mW mS mK mD mN mO mB mM mF v1 v4 v5 u19 hu19 H.size) kRX8_236 rfl rfl ⟨by decide, by decide⟩ rfl hl.1 rfl (Nat.le_of_ble_eq_true rfl) dX8_meets_126) (fun H locs hP hD hS => ?_)
    refine lv_if_eq (tgt := 134) hx hb dX8_meets_129 (by decide) (fun c20 => ?_) (fun c20 => ?_)
    · replace hf := zif_t hf c20
      exact t_X8_meets_b134 hC  mG mH mR mW mS mK mD mN mO mB mM mF u v2 v3 v4 v5 v6 v7 v8 v9 v10 v11 v12 v13 H locs ls hP hD hS (lv_sub hl [2, 3, 4, 5, 6, 7, 8, 9, 10, 11, 12, 13] rfl) hf
    · replace hf := zif_f hf c20
      refine lv_iconst (v := 1) hx hb dX8_meets_132 (by decide) ?_
      obtain ⟨h21, hf⟩ := zcb_s hf
      have hu := Option.some.inj hf
      subst hu
      exact z_zret hC h21 hP hD hS dX8_meets_133
set_option maxHeartbeats 4000000 in
set_option maxRecDepth 100000 in
theorem c_X8_meets (l : Launch) (D : va_G) (cI cJ cZ : ClassId) (h : Nat → Nat) (mG : tmG) (mH : tmH) (mR : tmR) (mW : tmW) (mS : tmS) (mK : tmK) (mD : tmD) (mN : tmN) (mO : tmO) (mB : tmB) (mM : tmM) (mF : tmF) (a1 : Int32) (a2 : Int32) (a3 : Int32) (a4 : Int32) (a5 : Int32) (u : Int32) (hf : X8_meets mG a1 a2 a3 a4 a5 = some u) (sz : Nat) : Met l yX8_meets (Cond.code yX8_meets cX8_meets 15 (some .boolean) :: tb_L) ({ frames := 2, cells := 0, slots := 0, locals := 46 } : Room) (zPre D (zty cI cJ cZ) (zWM cI cJ cZ h mG mH mR mW mS mK mD mN mO mB mM mF) sz [.ref (h 0), .int a1, .int a2, .int a3, .int a4, .int a5]) (zQi D (va_A (zWM cI cJ cZ h mG mH mR mW mS mK mD mN mO mB mM mF) sz) (zWM cI cJ cZ h mG mH mR mW mS mK mD mN mO mB mM mF) (u)) 0 0 (va_A (zWM cI cJ cZ h mG mH mR mW mS mK mD mN mO mB mM mF) sz) := by
  refine zMet (Qc := fun A => zQi D A (zWM cI cJ cZ h mG mH mR mW mS mK mD mN mO mB mM mF) (u)) (by decide) rfl (Nat.le_of_ble_eq_true rfl) ?_
  intro p e s m args below meth c A ls hC _ hP hD hS hl
  replace hl : lv_has ls 15 [(0, .ref (h 0)), (1, .int a1), (2, .int a2), (3, .int a3), (4, .int a4), (5, .int a5)] := hl
  obtain ⟨hx, hb, hml, hown, hts, hK, hr, hlocks, hA⟩ := id hC
  unfold X8_meets at hf
  obtain ⟨H, hH⟩ : ∃ H, H = s.heap := ⟨_, rfl⟩
  rw [← hH] at hP
  replace hS : va_S A s.heap H [] := by rw [hH]; exact hS
  show W p l e _ s m args below meth c s.heap [] 0 0 _ _
  rw [← hH]
  clear hH
  obtain ⟨locs, hlo⟩ : ∃ x : List Loc, x = [] := ⟨_, rfl⟩
  rw [← hlo] at hS ⊢
  clear hlo
  refine lv_aload_n hx hb dX8_meets_0 rfl (lv_at hl 0 rfl) ?_
  refine va_get (D := D) (ci := 8) (v := .ref (h 1)) (C := RX8) (T := TX8) (N := 56) hx hb hts tb_wsX80 hown hK.1 hP 0 rfl rfl 1 (by decide) (hts _ tb_5_6) (fun _ h9 => h9) rfl dX8_meets_1 ?_
  refine lv_iload_n hx hb dX8_meets_4 rfl (lv_at hl 1 rfl) ?_
  obtain ⟨h22, hf⟩ := zck_s hf
  refine va_iald hx hb hK.1 hP 1 0 rfl rfl h22 dX8_meets_5 ?_
  refine lv_topi (fun x23 ex23 => ?_)
  replace hf := zl_n ex23 hf
  refine lv_istore (lv' := [(6, .int x23), (0, .ref (h 0)), (1, .int a1), (2, .int a2), (3, .int a3), (4, .int a4), (5, .int a5)]) hx hb dX8_meets_6 hl (by decide) rfl (fun ls hl => ?_)
  refine lv_aload_n hx hb dX8_meets_8 rfl (lv_at hl 1 rfl) ?_
  refine va_get (D := D) (ci := 8) (v := .ref (h 2)) (C := RX8) (T := TX8) (N := 56) hx hb hts tb_wsX80 hown hK.1 hP 0 rfl rfl 2 (by decide) (hts _ tb_5_7) (fun _ h9 => h9) rfl dX8_meets_9 ?_
  refine lv_iload_n hx hb dX8_meets_12 rfl (lv_at hl 2 rfl) ?_
  obtain ⟨h24, hf⟩ := zck_s hf
  refine va_iald hx hb hK.1 hP 2 0 rfl rfl h24 dX8_meets_13 ?_
  refine lv_topi (fun x25 ex25 => ?_)
  replace hf := zl_n ex25 hf
  refine lv_istore (lv' := [(7, .int x25), (6, .int x23), (0, .ref (h 0)), (1, .int a1), (2, .int a2), (3, .int a3), (4, .int a4), (5, .int a5)]) hx hb dX8_meets_14 hl (by decide) rfl (fun ls hl => ?_)
  refine lv_iload hx hb dX8_meets_16 (lv_at hl 1 rfl) ?_
  refine lv_aload_n hx hb dX8_meets_18 rfl (lv_at hl 2 rfl) ?_
  refine va_get (D := D) (ci := 8) (v := .ref (h 3)) (C := RX8) (T := TX8) (N := 56) hx hb hts tb_wsX80 hown hK.1 hP 0 rfl rfl 3 (by decide) (hts _ tb_5_8) (fun _ h9 => h9) rfl dX8_meets_19 ?_
  refine lv_iload_n hx hb dX8_meets_22 rfl (lv_at hl 3 rfl) ?_
  obtain ⟨h26, hf⟩ := zck_s hf
  refine va_iald hx hb hK.1 hP 3 0 rfl rfl h26 dX8_meets_23 ?_
  refine lv_iadd hx hb dX8_meets_24 ?_
  refine lv_topi (fun x27 ex27 => ?_)
  replace hf := zl_n ex27 hf
  refine lv_istore (lv' := [(8, .int x27), (7, .int x25), (6, .int x23), (0, .ref (h 0)), (1, .int a1), (2, .int a2), (3, .int a3), (4, .int a4), (5, .int a5)]) hx hb dX8_meets_25 hl (by decide) rfl (fun ls hl => ?_)
  refine lv_iload hx hb dX8_meets_27 (lv_at hl 1 rfl) ?_
  refine lv_aload_n hx hb dX8_meets_29 rfl (lv_at hl 3 rfl) ?_
  refine va_get (D := D) (ci := 8) (v := .ref (h 4)) (C := RX8) (T := TX8) (N := 56) hx hb hts tb_wsX80 hown hK.1 hP 0 rfl rfl 4 (by decide) (hts _ tb_5_9) (fun _ h9 => h9) rfl dX8_meets_30 ?_
  refine lv_iload_n hx hb dX8_meets_33 rfl (lv_at hl 4 rfl) ?_
  obtain ⟨h28, hf⟩ := zck_s hf
  refine va_iald hx hb hK.1 hP 4 0 rfl rfl h28 dX8_meets_34 ?_
  refine lv_iadd hx hb dX8_meets_35 ?_
  refine lv_topi (fun x29 ex29 => ?_)
  replace hf := zl_n ex29 hf
  refine lv_istore (lv' := [(9, .int x29), (8, .int x27), (7, .int x25), (6, .int x23), (0, .ref (h 0)), (1, .int a1), (2, .int a2), (3, .int a3), (4, .int a4), (5, .int a5)]) hx hb dX8_meets_36 hl (by decide) rfl (fun ls hl => ?_)
  refine lv_iload hx hb dX8_meets_38 (lv_at hl 3 rfl) ?_
  refine lv_iload hx hb dX8_meets_40 (lv_at hl 2 rfl) ?_
  refine lv_iload hx hb dX8_meets_42 (lv_at hl 1 rfl) ?_
  refine lv_iload hx hb dX8_meets_44 (lv_at hl 0 rfl) ?_
  refine lv_iload_n hx hb dX8_meets_46 rfl (lv_at hl 6 rfl) ?_
  refine lv_iload_n hx hb dX8_meets_47 rfl (lv_at hl 7 rfl) ?_
  obtain ⟨u30, hu30, hf⟩ := zbd hf
  refine zthen_i hA hD hS (zrunS (As := [.int x23, .int x25, .int x27, .int x29, .int a2, .int a3]) (rest := []) hC hP hD (c_X8_turn l D cI cJ cZ h  mG mH mR mW mS mK mD mN mO mB mM mF x23 x25 x27 x29 a2 a3 u30 hu30 H.size) kRX8_232 rfl rfl ⟨by decide, by decide⟩ rfl hl.1 rfl (Nat.le_of_ble_eq_true rfl) dX8_meets_48) (fun H locs hP hD hS => ?_)
  refine lv_istore (lv' := [(10, .int u30), (9, .int x29), (8, .int x27), (7, .int x25), (6, .int x23), (0, .ref (h 0)), (1, .int a1), (2, .int a2), (3, .int a3), (4, .int a4), (5, .int a5)]) hx hb dX8_meets_51 hl (by decide) rfl (fun ls hl => ?_)
  refine lv_iload hx hb dX8_meets_53 (lv_at hl 4 rfl) ?_
  refine lv_iload hx hb dX8_meets_55 (lv_at hl 3 rfl) ?_
  refine lv_iload hx hb dX8_meets_57 (lv_at hl 2 rfl) ?_
  refine lv_iload hx hb dX8_meets_59 (lv_at hl 1 rfl) ?_
  refine lv_iload hx hb dX8_meets_61 (lv_at hl 9 rfl) ?_
  refine lv_iload hx hb dX8_meets_63 (lv_at hl 10 rfl) ?_
  obtain ⟨u31, hu31, hf⟩ := zbd hf
  refine zthen_i hA hD hS (zrunS (As := [.int x23, .int x25, .int x27, .int x29, .int a4, .int a5]) (rest := []) hC hP hD (c_X8_turn l D cI cJ cZ h  mG mH mR mW mS mK mD mN mO mB mM mF x23 x25 x27 x29 a4 a5 u31 hu31 H.size) kRX8_232 rfl rfl ⟨by decide, by decide⟩ rfl hl.1 rfl (Nat.le_of_ble_eq_true rfl) dX8_meets_65) (fun H locs hP hD hS => ?_)
  refine lv_istore (lv' := [(11, .int u31), (10, .int u30), (9, .int x29), (8, .int x27), (7, .int x25), (6, .int x23), (0, .ref (h 0)), (1, .int a1), (2, .int a2), (3, .int a3), (4, .int a4), (5, .int a5)]) hx hb dX8_meets_68 hl (by decide) rfl (fun ls hl => ?_)
  refine lv_iload_n hx hb dX8_meets_70 rfl (lv_at hl 8 rfl) ?_
  refine lv_iload_n hx hb dX8_meets_71 rfl (lv_at hl 9 rfl) ?_
  refine lv_iload hx hb dX8_meets_72 (lv_at hl 10 rfl) ?_
  refine lv_iload hx hb dX8_meets_74 (lv_at hl 11 rfl) ?_
  refine lv_iload hx hb dX8_meets_76 (lv_at hl 5 rfl) ?_
  refine lv_iload hx hb dX8_meets_78 (lv_at hl 4 rfl) ?_
  obtain ⟨u32, hu32, hf⟩ := zbd hf
  refine zthen_i hA hD hS (zrunS (As := [.int a2, .int a3, .int a4, .int a5, .int x23, .int x25]) (rest := []) hC hP hD (c_X8_turn l D cI cJ cZ h  mG mH mR mW mS mK mD mN mO mB mM mF a2 a3 a4 a5 x23 x25 u32 hu32 H.size) kRX8_232 rfl rfl ⟨by decide, by decide⟩ rfl hl.1 rfl (Nat.le_of_ble_eq_true rfl) dX8_meets_80) (fun H locs hP hD hS => ?_)
  refine lv_istore (lv' := [(12, .int u32), (11, .int u31), (10, .int u30), (9, .int x29), (8, .int x27), (7, .int x25), (6, .int x23), (0, .ref (h 0)), (1, .int a1), (2, .int a2), (3, .int a3), (4, .int a4), (5, .int a5)]) hx hb dX8_meets_83 hl (by decide) rfl (fun ls hl => ?_)
  refine lv_iload_n hx hb dX8_meets_85 rfl (lv_at hl 9 rfl) ?_
  refine lv_iload_n hx hb dX8_meets_86 rfl (lv_at hl 10 rfl) ?_
  refine lv_iload hx hb dX8_meets_87 (lv_at hl 11 rfl) ?_
  refine lv_iload hx hb dX8_meets_89 (lv_at hl 12 rfl) ?_
  refine lv_iload hx hb dX8_meets_91 (lv_at hl 4 rfl) ?_
  refine lv_iload hx hb dX8_meets_93 (lv_at hl 3 rfl) ?_
  obtain ⟨u33, hu33, hf⟩ := zbd hf
  refine zthen_i hA hD hS (zrunS (As := [.int a2, .int a3, .int a4, .int a5, .int x27, .int x29]) (rest := []) hC hP hD (c_X8_turn l D cI cJ cZ h  mG mH mR mW mS mK mD mN mO mB mM mF a2 a3 a4 a5 x27 x29 u33 hu33 H.size) kRX8_232 rfl rfl ⟨by decide, by decide⟩ rfl hl.1 rfl (Nat.le_of_ble_eq_true rfl) dX8_meets_95) (fun H locs hP hD hS => ?_)
  refine lv_istore (lv' := [(13, .int u33), (12, .int u32), (11, .int u31), (10, .int u30), (9, .int x29), (8, .int x27), (7, .int x25), (6, .int x23), (0, .ref (h 0)), (1, .int a1), (2, .int a2), (3, .int a3), (4, .int a4), (5, .int a5)]) hx hb dX8_meets_98 hl (by decide) rfl (fun ls hl => ?_)
  refine lv_iload hx hb dX8_meets_100 (lv_at hl 3 rfl) ?_
  refine lv_if_ne (tgt := 115) hx hb dX8_meets_102 (by decide) (fun c34 => ?_) (fun c34 => ?_)
  · replace hf := zif_f hf c34
    exact t_X8_meets_b115 hC  mG mH mR mW mS mK mD mN mO mB mM mF u a1 a2 a3 a4 a5 x23 x25 x27 x29 u30 u31 u32 u33 H locs ls hP hD hS (lv_sub hl [8, 9, 10, 11, 12, 13, 7, 6, 5, 4, 3, 2, 1, 0] rfl) hf
  · replace hf := zif_t hf c34
    refine lv_aload_n hx hb dX8_meets_105 rfl (lv_at hl 8 rfl) ?_
    refine lv_iload_n hx hb dX8_meets_106 rfl (lv_at hl 9 rfl) ?_
    refine lv_iload_n hx hb dX8_meets_107 rfl (lv_at hl 10 rfl) ?_
    refine lv_iload_n hx hb dX8_meets_108 rfl (lv_at hl 11 rfl) ?_
    obtain ⟨u35, hu35, hf⟩ := zbd hf
    refine zthen_i hA hD hS (zrunV (As := [.int a1, .int a2, .int a3]) (rest := []) hC hP hD 0 rfl rfl (c_X8_within l D cI cJ cZ h  mG mH mR mW mS mK mD mN mO mB mM mF a1 a2 a3 u35 hu35 H.size) kRX8_236 rfl rfl ⟨by decide, by decide⟩ rfl hl.1 rfl (Nat.le_of_ble_eq_true rfl) dX8_meets_109) (fun H locs hP hD hS => ?_)
    refine lv_if_ne (tgt := 132) hx hb dX8_meets_112 (by decide) (fun c36 => ?_) (fun c36 => ?_)
    · replace hf := zif_f hf c36
      refine lv_iconst (v := 1) hx hb dX8_meets_132 (by decide) ?_
      obtain ⟨h37, hf⟩ := zcb_s hf
      have hu := Option.some.inj hf
      subst hu
      exact z_zret hC h37 hP hD hS dX8_meets_133
    · replace hf := zif_t hf c36
      exact t_X8_meets_b115 hC  mG mH mR mW mS mK mD mN mO mB mM mF u a1 a2 a3 a4 a5 x23 x25 x27 x29 u30 u31 u32 u33 H locs ls hP hD hS (lv_sub hl [8, 9, 10, 11, 12, 13, 7, 6, 5, 4, 3, 2, 1, 0] rfl) hf
set_option maxHeartbeats 4000000 in
set_option maxRecDepth 100000 in
theorem t_X8_sees_b27 {p : Program} {l : Launch} {e : Env} {s : State} {m : MethodId} {args : Array Value} {below : List Frame} {meth : Method} {c : Code} {A : Nat → Prop} {D : va_G} {cI cJ cZ : ClassId} {h : Nat → Nat} (hC : zCx p s m args meth c A D (zty cI cJ cZ) cX8_sees RX8 6 (some .int)) (N : Nat) (mG : tmG) (mR : tmR) (mW : tmW) (mS : tmS) (mK : tmK) (mD : tmD) (mN : tmN) (mO : tmO) (mB : tmB) (mM : tmM) (mF : tmF) (u : Int32 × tmH) : ∀ (n : Nat) (mH : tmH) (v1 : Int32) (v2 : Int32) (v3 : Int32) (v4 : Int32) (v5 : Int32) (H : Heap) (locs : List Loc) (ls : Array Slot), va_P D vwCl (zWM cI cJ cZ h mG mH mR mW mS mK mD mN mO mB mM mF) H → va_D A (zWM cI cJ cZ h mG mH mR mW mS mK mD mN mO mB mM mF) → va_S A s.heap H locs → lv_has ls 6 [(0, .ref (h 0)), (1, .int v1), (2, .int v2), (3, .int v3), (4, .int v4), (5, .int v5)] → X8_sees_b27 N mG n mH v1 v2 v3 v4 v5 = some u → W p l e ({ frames := 3, cells := 0, slots := 0, locals := 80 } : Room) s m args below meth c H locs 0 0 (MQ below (zQi D A (zWM cI cJ cZ h mG u.2 mR mW mS mK mD mN mO mB mM mF) (u.1)) args s 0 0 A) (F0 m 27 ls []) := by
  intro n
  induction n with
  | zero =>
    intro mH v1 v2 v3 v4 v5 H locs ls hP hD hS hl hf
    cases hf
  | succ n ih =>
    intro mH v1 v2 v3 v4 v5 H locs ls hP hD hS hl hf
    obtain ⟨hx, hb, hml, hown, hts, hK, hr, hlocks, hA⟩ := id hC
    rw [X8_sees_b27] at hf
    refine lv_iload hx hb dX8_sees_27 (lv_at hl 5 rfl) ?_
    refine lv_aload_n hx hb dX8_sees_29 rfl (lv_at hl 0 rfl) ?_
    refine va_get (D := D) (ci := 8) (v := .int (tmG.pieces mG)) (C := RX8) (T := TX8) (N := 56) hx hb hts tb_wsX80 hown hK.1 hP 0 rfl rfl 0 (by decide) (hts _ tb_8_4) (fun _ h9 => h9) rfl dX8_sees_30 ?_
    refine lv_icmp_ge (tgt := 58) hx hb dX8_sees_33 (by decide) (fun c1 => ?_) (fun c1 => ?_)
    · replace hf := zif_t hf c1
      refine lv_iconst (v := 1) hx hb dX8_sees_58 (by decide) ?_
      have hu := Option.some.inj hf
      subst hu
      exact z_iret hC hP hD hS dX8_sees_59
    · replace hf := zif_f hf c1
      refine lv_aload_n hx hb dX8_sees_36 rfl (lv_at hl 0 rfl) ?_
      refine lv_iload hx hb dX8_sees_37 (lv_at hl 5 rfl) ?_
      refine lv_iload_n hx hb dX8_sees_39 rfl (lv_at hl 1 rfl) ?_
      refine lv_iload_n hx hb dX8_sees_40 rfl (lv_at hl 2 rfl) ?_
      refine lv_iload_n hx hb dX8_sees_41 rfl (lv_at hl 3 rfl) ?_
      refine lv_iload hx hb dX8_sees_42 (lv_at hl 4 rfl) ?_
      obtain ⟨u2, hu2, hf⟩ := zbd hf
      refine zthen_i hA hD hS (zrunV (As := [.int v5, .int v1, .int v2, .int v3, .int v4]) (rest := []) hC hP hD 0 rfl rfl (c_X8_meets l D cI cJ cZ h  mG mH mR mW mS mK mD mN mO mB mM mF v5 v1 v2 v3 v4 u2 hu2 H.size) kRX8_244 rfl rfl ⟨by decide, by decide⟩ rfl hl.1 rfl (Nat.le_of_ble_eq_true rfl) dX8_sees_44) (fun H locs hP hD hS => ?_)
      refine lv_if_eq (tgt := 52) hx hb dX8_sees_47 (by decide) (fun c3 => ?_) (fun c3 => ?_)
      · replace hf := zif_t hf c3
        refine lv_iinc (v := (v5 + (1 : Int32))) (lv' := [(5, .int (v5 + (1 : Int32))), (0, .ref (h 0)), (1, .int v1), (2, .int v2), (3, .int v3), (4, .int v4)]) hx hb dX8_sees_52 hl (k := 5) rfl rfl (by decide) rfl (fun ls hl => ?_)
        refine lv_goto (tgt := 27) hx hb dX8_sees_55 (by decide) ?_
        exact ih mH v1 v2 v3 v4 (v5 + (1 : Int32)) H locs ls hP hD hS (lv_sub hl [1, 2, 3, 4, 5, 0] rfl) hf
      · replace hf := zif_f hf c3
        refine lv_iconst (v := 0) hx hb dX8_sees_50 (by decide) ?_
        have hu := Option.some.inj hf
        subst hu
        exact z_iret hC hP hD hS dX8_sees_51
set_option maxHeartbeats 4000000 in
set_option maxRecDepth 100000 in
theorem c_X8_sees (l : Launch) (D : va_G) (cI cJ cZ : ClassId) (h : Nat → Nat) (N : Nat) (mG : tmG) (mH : tmH) (mR : tmR) (mW : tmW) (mS : tmS) (mK : tmK) (mD : tmD) (mN : tmN) (mO : tmO) (mB : tmB) (mM : tmM) (mF : tmF) (a1 : Int32) (a2 : Int32) (a3 : Int32) (a4 : Int32) (u : Int32 × tmH) (hf : X8_sees N mG mH a1 a2 a3 a4 = some u) (sz : Nat) : Met l yX8_sees (Cond.code yX8_sees cX8_sees 6 (some .int) :: tb_L) ({ frames := 3, cells := 0, slots := 0, locals := 80 } : Room) (zPre D (zty cI cJ cZ) (zWM cI cJ cZ h mG mH mR mW mS mK mD mN mO mB mM mF) sz [.ref (h 0), .int a1, .int a2, .int a3, .int a4]) (zQi D (va_A (zWM cI cJ cZ h mG mH mR mW mS mK mD mN mO mB mM mF) sz) (zWM cI cJ cZ h mG u.2 mR mW mS mK mD mN mO mB mM mF) (u.1)) 0 0 (va_A (zWM cI cJ cZ h mG mH mR mW mS mK mD mN mO mB mM mF) sz) := by
  refine zMet (Qc := fun A => zQi D A (zWM cI cJ cZ h mG u.2 mR mW mS mK mD mN mO mB mM mF) (u.1)) (by decide) rfl (Nat.le_of_ble_eq_true rfl) ?_
  intro p e s m args below meth c A ls hC _ hP hD hS hl
  replace hl : lv_has ls 6 [(0, .ref (h 0)), (1, .int a1), (2, .int a2), (3, .int a3), (4, .int a4)] := hl
  obtain ⟨hx, hb, hml, hown, hts, hK, hr, hlocks, hA⟩ := id hC
  unfold X8_sees at hf
  obtain ⟨H, hH⟩ : ∃ H, H = s.heap := ⟨_, rfl⟩
  rw [← hH] at hP
  replace hS : va_S A s.heap H [] := by rw [hH]; exact hS
  show W p l e _ s m args below meth c s.heap [] 0 0 _ _
  rw [← hH]
  clear hH
  obtain ⟨locs, hlo⟩ : ∃ x : List Loc, x = [] := ⟨_, rfl⟩
  rw [← hlo] at hS ⊢
  clear hlo
  refine lv_aload_n hx hb dX8_sees_0 rfl (lv_at hl 0 rfl) ?_
  refine lv_iconst (v := 0) hx hb dX8_sees_1 (by decide) ?_
  refine va_put (D := D) (ci := 8) (v := .int (0 : Int32)) (ty := .int) (C := RX8) (T := TX8) (N := 56) hx hb hts tb_wsX80 tyX8 tyX8_ok nmX8 hown hK.1 hP hD hS 0 rfl rfl 5 (by decide) (hts _ tb_8_3) (fun _ h9 => h9) rfl (by decide +kernel) rfl rfl (Nat.le_of_ble_eq_true rfl) dX8_sees_2 (fun H locs hP hD hS => ?_)
  replace hP : va_P D vwCl (zWM cI cJ cZ h mG (tmH.s_thrown mH (0 : Int32)) mR mW mS mK mD mN mO mB mM mF) H := hP
  replace hD : va_D A (zWM cI cJ cZ h mG (tmH.s_thrown mH (0 : Int32)) mR mW mS mK mD mN mO mB mM mF) := hD
  refine lv_iload_n hx hb dX8_sees_5 rfl (lv_at hl 1 rfl) ?_
  refine lv_iload_n hx hb dX8_sees_6 rfl (lv_at hl 2 rfl) ?_
  obtain ⟨u4, hu4, hf⟩ := zbd hf
  refine zthen_i hA hD hS (zrunS (As := [.int a1, .int a2]) (rest := []) hC hP hD (c_X8_isPlace l D cI cJ cZ h  mG (tmH.s_thrown mH (0 : Int32)) mR mW mS mK mD mN mO mB mM mF a1 a2 u4 hu4 H.size) kRX8_130 rfl rfl ⟨by decide, by decide⟩ rfl hl.1 rfl (Nat.le_of_ble_eq_true rfl) dX8_sees_7) (fun H locs hP hD hS => ?_)
  refine lv_if_eq (tgt := 22) hx hb dX8_sees_10 (by decide) (fun c5 => ?_) (fun c5 => ?_)
  · replace hf := zif_t hf c5
    refine lv_iconst (v := -1) hx hb dX8_sees_22 (by decide) ?_
    have hu := Option.some.inj hf
    subst hu
    exact z_iret hC hP hD hS dX8_sees_23
  · replace hf := zif_f hf c5
    refine lv_iload_n hx hb dX8_sees_13 rfl (lv_at hl 3 rfl) ?_
    refine lv_iload hx hb dX8_sees_14 (lv_at hl 4 rfl) ?_
    obtain ⟨u6, hu6, hf⟩ := zbd hf
    refine zthen_i hA hD hS (zrunS (As := [.int a3, .int a4]) (rest := []) hC hP hD (c_X8_isPlace l D cI cJ cZ h  mG (tmH.s_thrown mH (0 : Int32)) mR mW mS mK mD mN mO mB mM mF a3 a4 u6 hu6 H.size) kRX8_130 rfl rfl ⟨by decide, by decide⟩ rfl hl.1 rfl (Nat.le_of_ble_eq_true rfl) dX8_sees_16) (fun H locs hP hD hS => ?_)
    refine lv_if_ne (tgt := 24) hx hb dX8_sees_19 (by decide) (fun c7 => ?_) (fun c7 => ?_)
    · replace hf := zif_f hf c7
      refine lv_iconst (v := 0) hx hb dX8_sees_24 (by decide) ?_
      refine lv_istore (lv' := [(5, .int (0 : Int32)), (0, .ref (h 0)), (1, .int a1), (2, .int a2), (3, .int a3), (4, .int a4)]) hx hb dX8_sees_25 hl (by decide) rfl (fun ls hl => ?_)
      exact t_X8_sees_b27 hC N mG mR mW mS mK mD mN mO mB mM mF u N (tmH.s_thrown mH (0 : Int32)) a1 a2 a3 a4 (0 : Int32) H locs ls hP hD hS (lv_sub hl [1, 2, 3, 4, 5, 0] rfl) hf
    · replace hf := zif_t hf c7
      refine lv_iconst (v := -1) hx hb dX8_sees_22 (by decide) ?_
      have hu := Option.some.inj hf
      subst hu
      exact z_iret hC hP hD hS dX8_sees_23
