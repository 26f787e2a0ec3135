set_option maxHeartbeats 4000000 in
set_option maxRecDepth 100000 in
theorem c_X8_count (l : Launch) (D : va_G) (cI cJ cZ : ClassId) (h : Nat → Nat) (N : Nat) (mG : tmG) (mH : tmH) (mR : tmR) (mW : tmW) (mS : tmS) (mK : tmK) (mD : tmD) (mN : tmN) (mO : tmO) (mB : tmB) (mM : tmM) (mF : tmF) (a1 : Int32) (u : Int32 × tmH) (hf : X8_count N mG mH mK a1 = some u) (sz : Nat) : Met l yX8_count (Cond.code yX8_count cX8_count 2 (some .int) :: tb_L) ({ frames := 1, cells := 0, slots := 0, locals := 24 } : Room) (zPre D (zty cI cJ cZ) (zWM cI cJ cZ h mG mH mR mW mS mK mD mN mO mB mM mF) sz [.ref (h 0), .int a1]) (zQi D (va_A (zWM cI cJ cZ h mG mH mR mW mS mK mD mN mO mB mM mF) sz) (zWM cI cJ cZ h mG u.2 mR mW mS mK mD mN mO mB mM mF) (u.1)) 0 0 (va_A (zWM cI cJ cZ h mG mH mR mW mS mK mD mN mO mB mM mF) sz) := by
  refine zMet (Qc := fun A => zQi D A (zWM cI cJ cZ h mG u.2 mR mW mS mK mD mN mO mB mM mF) (u.1)) (by decide) rfl (Nat.le_of_ble_eq_true rfl) ?_
  intro p e s m args below meth c A ls hC _ hP hD hS hl
  replace hl : lv_has ls 2 [(0, .ref (h 0)), (1, .int a1)] := hl
  obtain ⟨hx, hb, hml, hown, hts, hK, hr, hlocks, hA⟩ := id hC
  unfold X8_count at hf
  obtain ⟨H, hH⟩ : ∃ H, H = s.heap := ⟨_, rfl⟩
  rw [← hH] at hP
  replace hS : va_S A s.heap H [] := by rw [hH]; exact hS
  show W p l e _ s m args below meth c s.heap [] 0 0 _ _
  rw [← hH]
  clear hH
  obtain ⟨locs, hlo⟩ : ∃ x : List Loc, x = [] := ⟨_, rfl⟩
  rw [← hlo] at hS ⊢
  clear hlo
  refine lv_aload_n hx hb dX8_count_0 rfl (lv_at hl 0 rfl) ?_
  refine lv_iconst (v := 0) hx hb dX8_count_1 (by decide) ?_
  refine va_put (D := D) (ci := 8) (v := .int (0 : Int32)) (ty := .int) (C := RX8) (T := TX8) (N := 56) hx hb hts tb_wsX80 tyX8 tyX8_ok nmX8 hown hK.1 hP hD hS 0 rfl rfl 5 (by decide) (hts _ tb_8_3) (fun _ h9 => h9) rfl (by decide +kernel) rfl rfl (Nat.le_of_ble_eq_true rfl) dX8_count_2 (fun H locs hP hD hS => ?_)
  replace hP : va_P D vwCl (zWM cI cJ cZ h mG (tmH.s_thrown mH (0 : Int32)) mR mW mS mK mD mN mO mB mM mF) H := hP
  replace hD : va_D A (zWM cI cJ cZ h mG (tmH.s_thrown mH (0 : Int32)) mR mW mS mK mD mN mO mB mM mF) := hD
  refine lv_iload_n hx hb dX8_count_5 rfl (lv_at hl 1 rfl) ?_
  by_cases c10 : a1 = (0 : Int32)
  · replace hf := zif_t hf c10
    refine lv_tableIn (tgt := 44) hx hb dX8_count_6 (by rw [c10]; decide) (by rw [c10]; decide) (by rw [c10]; rfl) (by decide) ?_
    refine lv_aload_n hx hb dX8_count_44 rfl (lv_at hl 0 rfl) ?_
    refine va_get (D := D) (ci := 8) (v := .int (tmG.pieces mG)) (C := RX8) (T := TX8) (N := 56) hx hb hts tb_wsX80 hown hK.1 hP 0 rfl rfl 0 (by decide) (hts _ tb_8_4) (fun _ h9 => h9) rfl dX8_count_45 ?_
    have hu := Option.some.inj hf
    subst hu
    exact z_iret hC hP hD hS dX8_count_48
  replace hf := zif_f hf c10
  by_cases c11 : a1 = (1 : Int32)
  · replace hf := zif_t hf c11
    refine lv_tableIn (tgt := 49) hx hb dX8_count_6 (by rw [c11]; decide) (by rw [c11]; decide) (by rw [c11]; rfl) (by decide) ?_
    refine lv_aload_n hx hb dX8_count_49 rfl (lv_at hl 0 rfl) ?_
    refine va_get (D := D) (ci := 8) (v := .int (tmK.knots mK)) (C := RX8) (T := TX8) (N := 56) hx hb hts tb_wsX80 hown hK.1 hP 0 rfl rfl 22 (by decide) (hts _ tb_8_13) (fun _ h9 => h9) rfl dX8_count_50 ?_
    have hu := Option.some.inj hf
    subst hu
    exact z_iret hC hP hD hS dX8_count_53
  replace hf := zif_f hf c11
  by_cases c12 : a1 = (2 : Int32)
  · replace hf := zif_t hf c12
    refine lv_tableIn (tgt := 54) hx hb dX8_count_6 (by rw [c12]; decide) (by rw [c12]; decide) (by rw [c12]; rfl) (by decide) ?_
    refine lv_aload_n hx hb dX8_count_54 rfl (lv_at hl 0 rfl) ?_
    refine va_get (D := D) (ci := 8) (v := .int (tmK.parts mK)) (C := RX8) (T := TX8) (N := 56) hx hb hts tb_wsX80 hown hK.1 hP 0 rfl rfl 24 (by decide) (hts _ tb_8_15) (fun _ h9 => h9) rfl dX8_count_55 ?_
    have hu := Option.some.inj hf
    subst hu
    exact z_iret hC hP hD hS dX8_count_58
  replace hf := zif_f hf c12
  by_cases c13 : a1 = (3 : Int32)
  · replace hf := zif_t hf c13
    refine lv_tableIn (tgt := 59) hx hb dX8_count_6 (by rw [c13]; decide) (by rw [c13]; decide) (by rw [c13]; rfl) (by decide) ?_
    refine lv_aload_n hx hb dX8_count_59 rfl (lv_at hl 0 rfl) ?_
    refine va_get (D := D) (ci := 8) (v := .int (tmK.leaves mK)) (C := RX8) (T := TX8) (N := 56) hx hb hts tb_wsX80 hown hK.1 hP 0 rfl rfl 23 (by decide) (hts _ tb_8_14) (fun _ h9 => h9) rfl dX8_count_60 ?_
    have hu := Option.some.inj hf
    subst hu
    exact z_iret hC hP hD hS dX8_count_63
  replace hf := zif_f hf c13
  by_cases c14 : a1 = (4 : Int32)
  · replace hf := zif_t hf c14
    refine lv_tableIn (tgt := 64) hx hb dX8_count_6 (by rw [c14]; decide) (by rw [c14]; decide) (by rw [c14]; rfl) (by decide) ?_
    refine lv_aload_n hx hb dX8_count_64 rfl (lv_at hl 0 rfl) ?_
    obtain ⟨u3, hu3, hf⟩ := zbd hf
    refine zthen_i hA hD hS (zrunV (As := []) (rest := []) hC hP hD 0 rfl rfl (c_X8_deepest l D cI cJ cZ h N mG (tmH.s_thrown mH (0 : Int32)) mR mW mS mK mD mN mO mB mM mF  u3 hu3 H.size) kRX8_216 rfl rfl ⟨by decide, by decide⟩ rfl hl.1 rfl (Nat.le_of_ble_eq_true rfl) dX8_count_65) (fun H locs hP hD hS => ?_)
    have hu := Option.some.inj hf
    subst hu
    exact z_iret hC hP hD hS dX8_count_68
  replace hf := zif_f hf c14
  by_cases c15 : a1 = (5 : Int32)
  · replace hf := zif_t hf c15
    refine lv_tableIn (tgt := 69) hx hb dX8_count_6 (by rw [c15]; decide) (by rw [c15]; decide) (by rw [c15]; rfl) (by decide) ?_
    refine lv_aload_n hx hb dX8_count_69 rfl (lv_at hl 0 rfl) ?_
    refine va_get (D := D) (ci := 8) (v := .int (tmK.isTree mK)) (C := RX8) (T := TX8) (N := 56) hx hb hts tb_wsX80 hown hK.1 hP 0 rfl rfl 21 (by decide) (hts _ tb_8_12) (fun _ h9 => h9) rfl dX8_count_70 ?_
    refine lv_if_eq (tgt := 88) hx hb dX8_count_73 (by decide) (fun c2 => ?_) (fun c2 => ?_)
    · replace hf := zif_t hf c2
      refine lv_iconst (v := 0) hx hb dX8_count_88 (by decide) ?_
      have hu := Option.some.inj hf
      subst hu
      exact z_iret hC hP hD hS dX8_count_89
    · replace hf := zif_f hf c2
      refine lv_aload_n hx hb dX8_count_76 rfl (lv_at hl 0 rfl) ?_
      refine va_get (D := D) (ci := 8) (v := .int (tmK.parts mK)) (C := RX8) (T := TX8) (N := 56) hx hb hts tb_wsX80 hown hK.1 hP 0 rfl rfl 24 (by decide) (hts _ tb_8_15) (fun _ h9 => h9) rfl dX8_count_77 ?_
      refine lv_aload_n hx hb dX8_count_80 rfl (lv_at hl 0 rfl) ?_
      refine va_get (D := D) (ci := 8) (v := .int (tmG.pieces mG)) (C := RX8) (T := TX8) (N := 56) hx hb hts tb_wsX80 hown hK.1 hP 0 rfl rfl 0 (by decide) (hts _ tb_8_4) (fun _ h9 => h9) rfl dX8_count_81 ?_
      refine lv_isub hx hb dX8_count_84 ?_
      refine lv_goto (tgt := 89) hx hb dX8_count_85 (by decide) ?_
      have hu := Option.some.inj hf
      subst hu
      exact z_iret hC hP hD hS dX8_count_89
  replace hf := zif_f hf c15
  refine lv_tableOut (tgt := 90) hx hb dX8_count_6 (by have := zsw c10; rw [show ((0 : Int32)).toInt = 0 from rfl] at this; have := zsw c11; rw [show ((1 : Int32)).toInt = 1 from rfl] at this; have := zsw c12; rw [show ((2 : Int32)).toInt = 2 from rfl] at this; have := zsw c13; rw [show ((3 : Int32)).toInt = 3 from rfl] at this; have := zsw c14; rw [show ((4 : Int32)).toInt = 4 from rfl] at this; have := zsw c15; rw [show ((5 : Int32)).toInt = 5 from rfl] at this; omega) (by decide) ?_
  refine lv_iconst (v := -1) hx hb dX8_count_90 (by decide) ?_
  have hu := Option.some.inj hf
  subst hu
  exact z_iret hC hP hD hS dX8_count_91
set_option maxHeartbeats 4000000 in
set_option maxRecDepth 100000 in
theorem t_X8_knot_b17 {p : Program} {l : Launch} {e : Env} {s : State} {m : MethodId} {args : Array Value} {below : List Frame} {meth : Method} {c : Code} {A : Nat → Prop} {D : va_G} {cI cJ cZ : ClassId} {h : Nat → Nat} (hC : zCx p s m args meth c A D (zty cI cJ cZ) cX8_knot RX8 3 (some .int)) (mG : tmG) (mR : tmR) (mW : tmW) (mS : tmS) (mK : tmK) (mD : tmD) (mN : tmN) (mO : tmO) (mB : tmB) (mM : tmM) (mF : tmF) (u : Int32 × tmH) : ∀ (mH : tmH) (H : Heap) (locs : List Loc) (ls : Array Slot), va_P D vwCl (zWM cI cJ cZ h mG mH mR mW mS mK mD mN mO mB mM mF) H → va_D A (zWM cI cJ cZ h mG mH mR mW mS mK mD mN mO mB mM mF) → va_S A s.heap H locs → lv_has ls 3 [(0, .ref (h 0))] → X8_knot_b17 mK mH = some u → W p l e ({ frames := 1, cells := 0, slots := 0, locals := 21 } : Room) s m args below meth c H locs 0 0 (MQ below (zQi D A (zWM cI cJ cZ h mG u.2 mR mW mS mK mD mN mO mB mM mF) (u.1)) args s 0 0 A) (F0 m 17 ls []) := by
  intro mH H locs ls hP hD hS hl hf
  obtain ⟨hx, hb, hml, hown, hts, hK, hr, hlocks, hA⟩ := id hC
  unfold X8_knot_b17 at hf
  refine lv_aload_n hx hb dX8_knot_17 rfl (lv_at hl 0 rfl) ?_
  refine lv_iconst (v := 1) hx hb dX8_knot_18 (by decide) ?_
  obtain ⟨u1, hu1, hf⟩ := zbd hf
  refine zthen_i hA hD hS (zrunV (As := [.int (1 : Int32)]) (rest := []) hC hP hD 0 rfl rfl (c_X8_fails l D cI cJ cZ h  mG mH mR mW mS mK mD mN mO mB mM mF (1 : Int32) u1 hu1 H.size) kRX8_212 rfl rfl ⟨by decide, by decide⟩ rfl hl.1 rfl (Nat.le_of_ble_eq_true rfl) dX8_knot_19) (fun H locs hP hD hS => ?_)
  have hu := Option.some.inj hf
  subst hu
  exact z_iret hC hP hD hS dX8_knot_22
set_option maxHeartbeats 4000000 in
set_option maxRecDepth 100000 in
theorem c_X8_knot (l : Launch) (D : va_G) (cI cJ cZ : ClassId) (h : Nat → Nat) (mG : tmG) (mH : tmH) (mR : tmR) (mW : tmW) (mS : tmS) (mK : tmK) (mD : tmD) (mN : tmN) (mO : tmO) (mB : tmB) (mM : tmM) (mF : tmF) (a1 : Int32) (a2 : Int32) (u : Int32 × tmH) (hf : X8_knot mH mK a1 a2 = some u) (sz : Nat) : Met l yX8_knot (Cond.code yX8_knot cX8_knot 3 (some .int) :: tb_L) ({ frames := 1, cells := 0, slots := 0, locals := 21 } : Room) (zPre D (zty cI cJ cZ) (zWM cI cJ cZ h mG mH mR mW mS mK mD mN mO mB mM mF) sz [.ref (h 0), .int a1, .int a2]) (zQi D (va_A (zWM cI cJ cZ h mG mH mR mW mS mK mD mN mO mB mM mF) sz) (zWM cI cJ cZ h mG u.2 mR mW mS mK mD mN mO mB mM mF) (u.1)) 0 0 (va_A (zWM cI cJ cZ h mG mH mR mW mS mK mD mN mO mB mM mF) sz) := by
  refine zMet (Qc := fun A => zQi D A (zWM cI cJ cZ h mG u.2 mR mW mS mK mD mN mO mB mM mF) (u.1)) (by decide) rfl (Nat.le_of_ble_eq_true rfl) ?_
  intro p e s m args below meth c A ls hC _ hP hD hS hl
  replace hl : lv_has ls 3 [(0, .ref (h 0)), (1, .int a1), (2, .int a2)] := hl
  obtain ⟨hx, hb, hml, hown, hts, hK, hr, hlocks, hA⟩ := id hC
  unfold X8_knot at hf
  obtain ⟨H, hH⟩ : ∃ H, H = s.heap := ⟨_, rfl⟩
  rw [← hH] at hP
  replace hS : va_S A s.heap H [] := by rw [hH]; exact hS
  show W p l e _ s m args below meth c s.heap [] 0 0 _ _
  rw [← hH]
  clear hH
  obtain ⟨locs, hlo⟩ : ∃ x : List Loc, x = [] := ⟨_, rfl⟩
  rw [← hlo] at hS ⊢
  clear hlo
  refine lv_aload_n hx hb dX8_knot_0 rfl (lv_at hl 0 rfl) ?_
  refine lv_iconst (v := 0) hx hb dX8_knot_1 (by decide) ?_
  refine va_put (D := D) (ci := 8) (v := .int (0 : Int32)) (ty := .int) (C := RX8) (T := TX8) (N := 56) hx hb hts tb_wsX80 tyX8 tyX8_ok nmX8 hown hK.1 hP hD hS 0 rfl rfl 5 (by decide) (hts _ tb_8_3) (fun _ h9 => h9) rfl (by decide +kernel) rfl rfl (Nat.le_of_ble_eq_true rfl) dX8_knot_2 (fun H locs hP hD hS => ?_)
  replace hP : va_P D vwCl (zWM cI cJ cZ h mG (tmH.s_thrown mH (0 : Int32)) mR mW mS mK mD mN mO mB mM mF) H := hP
  replace hD : va_D A (zWM cI cJ cZ h mG (tmH.s_thrown mH (0 : Int32)) mR mW mS mK mD mN mO mB mM mF) := hD
  refine lv_iload_n hx hb dX8_knot_5 rfl (lv_at hl 1 rfl) ?_
  refine lv_if_lt (tgt := 17) hx hb dX8_knot_6 (by decide) (fun c2 => ?_) (fun c2 => ?_)
  · replace hf := zif_t hf c2
    exact t_X8_knot_b17 hC  mG mR mW mS mK mD mN mO mB mM mF u (tmH.s_thrown mH (0 : Int32)) H locs ls hP hD hS (lv_sub hl [0] rfl) hf
  · replace hf := zif_f hf c2
    refine lv_iload_n hx hb dX8_knot_9 rfl (lv_at hl 1 rfl) ?_
    refine lv_aload_n hx hb dX8_knot_10 rfl (lv_at hl 0 rfl) ?_
    refine va_get (D := D) (ci := 8) (v := .int (tmK.knots mK)) (C := RX8) (T := TX8) (N := 56) hx hb hts tb_wsX80 hown hK.1 hP 0 rfl rfl 22 (by decide) (hts _ tb_8_13) (fun _ h9 => h9) rfl dX8_knot_11 ?_
    refine lv_icmp_lt (tgt := 23) hx hb dX8_knot_14 (by decide) (fun c3 => ?_) (fun c3 => ?_)
    · replace hf := zif_t hf c3
      refine lv_iload_n hx hb dX8_knot_23 rfl (lv_at hl 2 rfl) ?_
      by_cases c40 : a2 = (0 : Int32)
      · replace hf := zif_t hf c40
        refine lv_tableIn (tgt := 64) hx hb dX8_knot_24 (by rw [c40]; decide) (by rw [c40]; decide) (by rw [c40]; rfl) (by decide) ?_
        refine lv_aload_n hx hb dX8_knot_64 rfl (lv_at hl 0 rfl) ?_
        refine va_get (D := D) (ci := 8) (v := .ref (h 18)) (C := RX8) (T := TX8) (N := 56) hx hb hts tb_wsX80 hown hK.1 hP 0 rfl rfl 25 (by decide) (hts _ tb_6_0) (fun _ h9 => h9) rfl dX8_knot_65 ?_
        refine lv_iload_n hx hb dX8_knot_68 rfl (lv_at hl 1 rfl) ?_
        obtain ⟨h11, hf⟩ := zck_s hf
        refine va_iald hx hb hK.1 hP 18 0 rfl rfl h11 dX8_knot_69 ?_
        have hu := Option.some.inj hf
        subst hu
        exact z_iret hC hP hD hS dX8_knot_70
      replace hf := zif_f hf c40
      by_cases c41 : a2 = (1 : Int32)
      · replace hf := zif_t hf c41
        refine lv_tableIn (tgt := 71) hx hb dX8_knot_24 (by rw [c41]; decide) (by rw [c41]; decide) (by rw [c41]; rfl) (by decide) ?_
        refine lv_aload_n hx hb dX8_knot_71 rfl (lv_at hl 0 rfl) ?_
        refine va_get (D := D) (ci := 8) (v := .ref (h 19)) (C := RX8) (T := TX8) (N := 56) hx hb hts tb_wsX80 hown hK.1 hP 0 rfl rfl 26 (by decide) (hts _ tb_6_1) (fun _ h9 => h9) rfl dX8_knot_72 ?_
        refine lv_iload_n hx hb dX8_knot_75 rfl (lv_at hl 1 rfl) ?_
        obtain ⟨h10, hf⟩ := zck_s hf
        refine va_iald hx hb hK.1 hP 19 0 rfl rfl h10 dX8_knot_76 ?_
        have hu := Option.some.inj hf
        subst hu
        exact z_iret hC hP hD hS dX8_knot_77
      replace hf := zif_f hf c41
      by_cases c42 : a2 = (2 : Int32)
      · replace hf := zif_t hf c42
        refine lv_tableIn (tgt := 78) hx hb dX8_knot_24 (by rw [c42]; decide) (by rw [c42]; decide) (by rw [c42]; rfl) (by decide) ?_
        refine lv_aload_n hx hb dX8_knot_78 rfl (lv_at hl 0 rfl) ?_
        refine va_get (D := D) (ci := 8) (v := .ref (h 20)) (C := RX8) (T := TX8) (N := 56) hx hb hts tb_wsX80 hown hK.1 hP 0 rfl rfl 27 (by decide) (hts _ tb_6_2) (fun _ h9 => h9) rfl dX8_knot_79 ?_
        refine lv_iload_n hx hb dX8_knot_82 rfl (lv_at hl 1 rfl) ?_
        obtain ⟨h9, hf⟩ := zck_s hf
        refine va_iald hx hb hK.1 hP 20 0 rfl rfl h9 dX8_knot_83 ?_
        have hu := Option.some.inj hf
        subst hu
        exact z_iret hC hP hD hS dX8_knot_84
      replace hf := zif_f hf c42
      by_cases c43 : a2 = (3 : Int32)
      · replace hf := zif_t hf c43
        refine lv_tableIn (tgt := 85) hx hb dX8_knot_24 (by rw [c43]; decide) (by rw [c43]; decide) (by rw [c43]; rfl) (by decide) ?_
        refine lv_aload_n hx hb dX8_knot_85 rfl (lv_at hl 0 rfl) ?_
        refine va_get (D := D) (ci := 8) (v := .ref (h 21)) (C := RX8) (T := TX8) (N := 56) hx hb hts tb_wsX80 hown hK.1 hP 0 rfl rfl 28 (by decide) (hts _ tb_6_3) (fun _ h9 => h9) rfl dX8_knot_86 ?_
        refine lv_iload_n hx hb dX8_knot_89 rfl (lv_at hl 1 rfl) ?_
        obtain ⟨h8, hf⟩ := zck_s hf
        refine va_iald hx hb hK.1 hP 21 0 rfl rfl h8 dX8_knot_90 ?_
        have hu := Option.some.inj hf
        subst hu
        exact z_iret hC hP hD hS dX8_knot_91
      replace hf := zif_f hf c43
      by_cases c44 : a2 = (4 : Int32)
      · replace hf := zif_t hf c44
        refine lv_tableIn (tgt := 92) hx hb dX8_knot_24 (by rw [c44]; decide) (by rw [c44]; decide) (by rw [c44]; rfl) (by decide) ?_
        refine lv_aload_n hx hb dX8_knot_92 rfl (lv_at hl 0 rfl) ?_
        refine va_get (D := D) (ci := 8) (v := .ref (h 22)) (C := RX8) (T := TX8) (N := 56) hx hb hts tb_wsX80 hown hK.1 hP 0 rfl rfl 29 (by decide) (hts _ tb_6_4) (fun _ h9 => h9) rfl dX8_knot_93 ?_
        refine lv_iload_n hx hb dX8_knot_96 rfl (lv_at hl 1 rfl) ?_
        obtain ⟨h7, hf⟩ := zck_s hf
        refine va_iald hx hb hK.1 hP 22 0 rfl rfl h7 dX8_knot_97 ?_
        have hu := Option.some.inj hf
        subst hu
        exact z_iret hC hP hD hS dX8_knot_98
      replace hf := zif_f hf c44
      by_cases c45 : a2 = (5 : Int32)
      · replace hf := zif_t hf c45
        refine lv_tableIn (tgt := 99) hx hb dX8_knot_24 (by rw [c45]; decide) (by rw [c45]; decide) (by rw [c45]; rfl) (by decide) ?_
        refine lv_aload_n hx hb dX8_knot_99 rfl (lv_at hl 0 rfl) ?_
        refine va_get (D := D) (ci := 8) (v := .ref (h 23)) (C := RX8) (T := TX8) (N := 56) hx hb hts tb_wsX80 hown hK.1 hP 0 rfl rfl 30 (by decide) (hts _ tb_6_5) (fun _ h9 => h9) rfl dX8_knot_100 ?_
        refine lv_iload_n hx hb dX8_knot_103 rfl (lv_at hl 1 rfl) ?_
        obtain ⟨h6, hf⟩ := zck_s hf
        refine va_iald hx hb hK.1 hP 23 0 rfl rfl h6 dX8_knot_104 ?_
        have hu := Option.some.inj hf
        subst hu
        exact z_iret hC hP hD hS dX8_knot_105
      replace hf := zif_f hf c45
      refine lv_tableOut (tgt := 106) hx hb dX8_knot_24 (by have := zsw c40; rw [show ((0 : Int32)).toInt = 0 from rfl] at this; have := zsw c41; rw [show ((1 : Int32)).toInt = 1 from rfl] at this; have := zsw c42; rw [show ((2 : Int32)).toInt = 2 from rfl] at this; have := zsw c43; rw [show ((3 : Int32)).toInt = 3 from rfl] at this; have := zsw c44; rw [show ((4 : Int32)).toInt = 4 from rfl] at this; have := zsw c45; rw [show ((5 : Int32)).toInt = 5 from rfl] at this; omega) (by decide) ?_
      refine lv_aload_n hx hb dX8_knot_106 rfl (lv_at hl 0 rfl) ?_
      refine lv_iconst (v := 2) hx hb dX8_knot_107 (by decide) ?_
      obtain ⟨u5, hu5, hf⟩ := zbd hf
      refine zthen_i hA hD hS (zrunV (As := [.int (2 : Int32)]) (rest := []) hC hP hD 0 rfl rfl (c_X8_fails l D cI cJ cZ h  mG (tmH.s_thrown mH (0 : Int32)) mR mW mS mK mD mN mO mB mM mF (2 : Int32) u5 hu5 H.size) kRX8_212 rfl rfl ⟨by decide, by decide⟩ rfl hl.1 rfl (Nat.le_of_ble_eq_true rfl) dX8_knot_108) (fun H locs hP hD hS => ?_)
      have hu := Option.some.inj hf
      subst hu
      exact z_iret hC hP hD hS dX8_knot_111
    · replace hf := zif_f hf c3
      exact t_X8_knot_b17 hC  mG mR mW mS mK mD mN mO mB mM mF u (tmH.s_thrown mH (0 : Int32)) H locs ls hP hD hS (lv_sub hl [0] rfl) hf
set_option maxHeartbeats 4000000 in
set_option maxRecDepth 100000 in
theorem t_X8_divisor_b53 {p : Program} {l : Launch} {e : Env} {s : State} {m : MethodId} {args : Array Value} {below : List Frame} {meth : Method} {c : Code} {A : Nat → Prop} {D : va_G} {cI cJ cZ : ClassId} {h : Nat → Nat} (hC : zCx p s m args meth c A D (zty cI cJ cZ) cX8_divisor RX8 10 (some .long)) (N : Nat) (mG : tmG) (mH : tmH) (mR : tmR) (mW : tmW) (mS : tmS) (mK : tmK) (mD : tmD) (mN : tmN) (mO : tmO) (mB : tmB) (mM : tmM) (mF : tmF) (u : Int64) : ∀ (v4 : Int64) (H : Heap) (locs : List Loc) (ls : Array Slot), va_P D vwCl (zWM cI cJ cZ h mG mH mR mW mS mK mD mN mO mB mM mF) H → va_D A (zWM cI cJ cZ h mG mH mR mW mS mK mD mN mO mB mM mF) → va_S A s.heap H locs → lv_has ls 10 [(4, .long v4)] → X8_divisor_b53 N v4 = some u → W p l e ({ frames := 0, cells := 0, slots := 0, locals := 0 } : Room) s m args below meth c H locs 0 0 (MQ below (zQl D A (zWM cI cJ cZ h mG mH mR mW mS mK mD mN mO mB mM mF) (u)) args s 0 0 A) (F0 m 53 ls []) := by
  intro v4 H locs ls hP hD hS hl hf
  obtain ⟨hx, hb, hml, hown, hts, hK, hr, hlocks, hA⟩ := id hC
  unfold X8_divisor_b53 at hf
  refine lv_lload hx hb dX8_divisor_53 (lv_at hl 0 rfl) ?_
  have hu := Option.some.inj hf
  subst hu
  exact z_lret hC hP hD hS dX8_divisor_55
set_option maxHeartbeats 4000000 in
set_option maxRecDepth 100000 in
theorem t_X8_divisor_b28 {p : Program} {l : Launch} {e : Env} {s : State} {m : MethodId} {args : Array Value} {below : List Frame} {meth : Method} {c : Code} {A : Nat → Prop} {D : va_G} {cI cJ cZ : ClassId} {h : Nat → Nat} (hC : zCx p s m args meth c A D (zty cI cJ cZ) cX8_divisor RX8 10 (some .long)) (N : Nat) (mG : tmG) (mH : tmH) (mR : tmR) (mW : tmW) (mS : tmS) (mK : tmK) (mD : tmD) (mN : tmN) (mO : tmO) (mB : tmB) (mM : tmM) (mF : tmF) (u : Int64) : ∀ (n : Nat) (v4 : Int64) (v6 : Int64) (H : Heap) (locs : List Loc) (ls : Array Slot), va_P D vwCl (zWM cI cJ cZ h mG mH mR mW mS mK mD mN mO mB mM mF) H → va_D A (zWM cI cJ cZ h mG mH mR mW mS mK mD mN mO mB mM mF) → va_S A s.heap H locs → lv_has ls 10 [(4, .long v4), (6, .long v6)] → X8_divisor_b28 N n v4 v6 = some u → W p l e ({ frames := 0, cells := 0, slots := 0, locals := 0 } : Room) s m args below meth c H locs 0 0 (MQ below (zQl D A (zWM cI cJ cZ h mG mH mR mW mS mK mD mN mO mB mM mF) (u)) args s 0 0 A) (F0 m 28 ls []) := by
  intro n
  induction n with
  | zero =>
    intro v4 v6 H locs ls hP hD hS hl hf
    cases hf
  | succ n ih =>
    intro v4 v6 H locs ls hP hD hS hl hf
    obtain ⟨hx, hb, hml, hown, hts, hK, hr, hlocks, hA⟩ := id hC
    rw [X8_divisor_b28] at hf
    refine lv_lload hx hb dX8_divisor_28 (lv_at hl 1 rfl) ?_
    refine lv_lconst (v := 0) hx hb dX8_divisor_30 (by decide) ?_
    refine W.lcmp hx hb dX8_divisor_31 ?_
    refine lv_if_eq (tgt := 53) hx hb dX8_divisor_32 (by decide) (fun c1 => ?_) (fun c1 => ?_)
    · replace hf := zif_t hf c1
      exact t_X8_divisor_b53 hC N mG mH mR mW mS mK mD mN mO mB mM mF u v4 H locs ls hP hD hS (lv_sub hl [0] rfl) hf
    · replace hf := zif_f hf c1
      refine lv_lload hx hb dX8_divisor_35 (lv_at hl 0 rfl) ?_
      refine lv_lload hx hb dX8_divisor_37 (lv_at hl 1 rfl) ?_
      obtain ⟨h2, hf⟩ := zczl_s hf
      refine lv_lrem hx hb dX8_divisor_39 h2 ?_
      refine lv_topl (fun x3 ex3 => ?_)
      replace hf := zl_n ex3 hf
      refine lv_lstore (lv' := [(8, .long x3), (4, .long v4), (6, .long v6)]) hx hb dX8_divisor_40 hl (by decide) rfl (fun ls hl => ?_)
      refine lv_lload hx hb dX8_divisor_42 (lv_at hl 2 rfl) ?_
      refine lv_lstore (lv' := [(4, .long v6), (8, .long x3), (6, .long v6)]) hx hb dX8_divisor_44 hl (by decide) rfl (fun ls hl => ?_)
      refine lv_lload hx hb dX8_divisor_46 (lv_at hl 1 rfl) ?_
      refine lv_lstore (lv' := [(6, .long x3), (4, .long v6), (8, .long x3)]) hx hb dX8_divisor_48 hl (by decide) rfl (fun ls hl => ?_)
      refine lv_goto (tgt := 28) hx hb dX8_divisor_50 (by decide) ?_
      exact ih v6 x3 H locs ls hP hD hS (lv_sub hl [1, 0] rfl) hf
set_option maxHeartbeats 4000000 in
set_option maxRecDepth 100000 in
theorem t_X8_divisor_b26 {p : Program} {l : Launch} {e : Env} {s : State} {m : MethodId} {args : Array Value} {below : List Frame} {meth : Method} {c : Code} {A : Nat → Prop} {D : va_G} {cI cJ cZ : ClassId} {h : Nat → Nat} (hC : zCx p s m args meth c A D (zty cI cJ cZ) cX8_divisor RX8 10 (some .long)) (N : Nat) (mG : tmG) (mH : tmH) (mR : tmR) (mW : tmW) (mS : tmS) (mK : tmK) (mD : tmD) (mN : tmN) (mO : tmO) (mB : tmB) (mM : tmM) (mF : tmF) (u : Int64) : ∀ (v4 : Int64) (s0 : Int64) (H : Heap) (locs : List Loc) (ls : Array Slot), va_P D vwCl (zWM cI cJ cZ h mG mH mR mW mS mK mD mN mO mB mM mF) H → va_D A (zWM cI cJ cZ h mG mH mR mW mS mK mD mN mO mB mM mF) → va_S A s.heap H locs → lv_has ls 10 [(4, .long v4)] → X8_divisor_b26 N v4 s0 = some u → W p l e ({ frames := 0, cells := 0, slots := 0, locals := 0 } : Room) s m args below meth c H locs 0 0 (MQ below (zQl D A (zWM cI cJ cZ h mG mH mR mW mS mK mD mN mO mB mM mF) (u)) args s 0 0 A) (F0 m 26 ls [.long s0]) := by
  intro v4 s0 H locs ls hP hD hS hl hf
  obtain ⟨hx, hb, hml, hown, hts, hK, hr, hlocks, hA⟩ := id hC
  unfold X8_divisor_b26 at hf
  refine lv_lstore (lv' := [(6, .long s0), (4, .long v4)]) hx hb dX8_divisor_26 hl (by decide) rfl (fun ls hl => ?_)
  exact t_X8_divisor_b28 hC N mG mH mR mW mS mK mD mN mO mB mM mF u N v4 s0 H locs ls hP hD hS (lv_sub hl [1, 0] rfl) hf
set_option maxHeartbeats 4000000 in
set_option maxRecDepth 100000 in
theorem t_X8_divisor_b12 {p : Program} {l : Launch} {e : Env} {s : State} {m : MethodId} {args : Array Value} {below : List Frame} {meth : Method} {c : Code} {A : Nat → Prop} {D : va_G} {cI cJ cZ : ClassId} {h : Nat → Nat} (hC : zCx p s m args meth c A D (zty cI cJ cZ) cX8_divisor RX8 10 (some .long)) (N : Nat) (mG : tmG) (mH : tmH) (mR : tmR) (mW : tmW) (mS : tmS) (mK : tmK) (mD : tmD) (mN : tmN) (mO : tmO) (mB : tmB) (mM : tmM) (mF : tmF) (u : Int64) : ∀ (v2 : Int64) (s0 : Int64) (H : Heap) (locs : List Loc) (ls : Array Slot), va_P D vwCl (zWM cI cJ cZ h mG mH mR mW mS mK mD mN mO mB mM mF) H → va_D A (zWM cI cJ cZ h mG mH mR mW mS mK mD mN mO mB mM mF) → va_S A s.heap H locs → lv_has ls 10 [(2, .long v2)] → X8_divisor_b12 N v2 s0 = some u → W p l e ({ frames := 0, cells := 0, slots := 0, locals := 0 } : Room) s m args below meth c H locs 0 0 (MQ below (zQl D A (zWM cI cJ cZ h mG mH mR mW mS mK mD mN mO mB mM mF) (u)) args s 0 0 A) (F0 m 12 ls [.long s0]) := by
  intro v2 s0 H locs ls hP hD hS hl hf
  obtain ⟨hx, hb, hml, hown, hts, hK, hr, hlocks, hA⟩ := id hC
  unfold X8_divisor_b12 at hf
  refine lv_lstore (lv' := [(4, .long s0), (2, .long v2)]) hx hb dX8_divisor_12 hl (by decide) rfl (fun ls hl => ?_)
  refine lv_lload_n hx hb dX8_divisor_14 rfl (lv_at hl 1 rfl) ?_
  refine lv_lconst (v := 0) hx hb dX8_divisor_15 (by decide) ?_
  refine W.lcmp hx hb dX8_divisor_16 ?_
  refine lv_if_ge (tgt := 25) hx hb dX8_divisor_17 (by decide) (fun c4 => ?_) (fun c4 => ?_)
  · replace hf := zif_t hf c4
    refine lv_lload_n hx hb dX8_divisor_25 rfl (lv_at hl 1 rfl) ?_
    exact t_X8_divisor_b26 hC N mG mH mR mW mS mK mD mN mO mB mM mF u s0 v2 H locs ls hP hD hS (lv_sub hl [0] rfl) hf
  · replace hf := zif_f hf c4
    refine lv_lload_n hx hb dX8_divisor_20 rfl (lv_at hl 1 rfl) ?_
    refine lv_lneg hx hb dX8_divisor_21 ?_
    refine lv_goto (tgt := 26) hx hb dX8_divisor_22 (by decide) ?_
    exact t_X8_divisor_b26 hC N mG mH mR mW mS mK mD mN mO mB mM mF u s0 (-v2) H locs ls hP hD hS (lv_sub hl [0] rfl) hf
set_option maxHeartbeats 4000000 in
set_option maxRecDepth 100000 in
theorem c_X8_divisor (l : Launch) (D : va_G) (cI cJ cZ : ClassId) (h : Nat → Nat) (N : Nat) (mG : tmG) (mH : tmH) (mR : tmR) (mW : tmW) (mS : tmS) (mK : tmK) (mD : tmD) (mN : tmN) (mO : tmO) (mB : tmB) (mM : tmM) (mF : tmF) (a0 : Int64) (a2 : Int64) (u : Int64) (hf : X8_divisor N a0 a2 = some u) (sz : Nat) : Met l yX8_divisor (Cond.code yX8_divisor cX8_divisor 10 (some .long) :: tb_L) ({ frames := 0, cells := 0, slots := 0, locals := 0 } : Room) (zPre D (zty cI cJ cZ) (zWM cI cJ cZ h mG mH mR mW mS mK mD mN mO mB mM mF) sz [.long a0, .long a2]) (zQl D (va_A (zWM cI cJ cZ h mG mH mR mW mS mK mD mN mO mB mM mF) sz) (zWM cI cJ cZ h mG mH mR mW mS mK mD mN mO mB mM mF) (u)) 0 0 (va_A (zWM cI cJ cZ h mG mH mR mW mS mK mD mN mO mB mM mF) sz) := by
  refine zMet (Qc := fun A => zQl D A (zWM cI cJ cZ h mG mH mR mW mS mK mD mN mO mB mM mF) (u)) (by decide) rfl (Nat.le_of_ble_eq_true rfl) ?_
  intro p e s m args below meth c A ls hC _ hP hD hS hl
  replace hl : lv_has ls 10 [(0, .long a0), (2, .long a2)] := hl
  obtain ⟨hx, hb, hml, hown, hts, hK, hr, hlocks, hA⟩ := id hC
  unfold X8_divisor at hf
  obtain ⟨H, hH⟩ : ∃ H, H = s.heap := ⟨_, rfl⟩
  rw [← hH] at hP
  replace hS : va_S A s.heap H [] := by rw [hH]; exact hS
  show W p l e _ s m args below meth c s.heap [] 0 0 _ _
  rw [← hH]
  clear hH
  obtain ⟨locs, hlo⟩ : ∃ x : List Loc, x = [] := ⟨_, rfl⟩
  rw [← hlo] at hS ⊢
  clear hlo
  refine lv_lload_n hx hb dX8_divisor_0 rfl (lv_at hl 0 rfl) ?_
  refine lv_lconst (v := 0) hx hb dX8_divisor_1 (by decide) ?_
  refine W.lcmp hx hb dX8_divisor_2 ?_
  refine lv_if_ge (tgt := 11) hx hb dX8_divisor_3 (by decide) (fun c5 => ?_) (fun c5 => ?_)
  · replace hf := zif_t hf c5
    refine lv_lload_n hx hb dX8_divisor_11 rfl (lv_at hl 0 rfl) ?_
    exact t_X8_divisor_b12 hC N mG mH mR mW mS mK mD mN mO mB mM mF u a2 a0 H locs ls hP hD hS (lv_sub hl [1] rfl) hf
  · replace hf := zif_f hf c5
    refine lv_lload_n hx hb dX8_divisor_6 rfl (lv_at hl 0 rfl) ?_
    refine lv_lneg hx hb dX8_divisor_7 ?_
    refine lv_goto (tgt := 12) hx hb dX8_divisor_8 (by decide) ?_
    exact t_X8_divisor_b12 hC N mG mH mR mW mS mK mD mN mO mB mM mF u a2 (-a0) H locs ls hP hD hS (lv_sub hl [1] rfl) hf
set_option maxHeartbeats 4000000 in
set_option maxRecDepth 100000 in
theorem t_X8_end_b81 {p : Program} {l : Launch} {e : Env} {s : State} {m : MethodId} {args : Array Value} {below : List Frame} {meth : Method} {c : Code} {A : Nat → Prop} {D : va_G} {cI cJ cZ : ClassId} {h : Nat → Nat} (hC : zCx p s m args meth c A D (zty cI cJ cZ) cX8_end RX8 13 (some .long)) (N : Nat) (mG : tmG) (mH : tmH) (mR : tmR) (mW : tmW) (mS : tmS) (mK : tmK) (mD : tmD) (mN : tmN) (mO : tmO) (mB : tmB) (mM : tmM) (mF : tmF) (u : Int64) : ∀ (v11 : Int64) (s0 : Int64) (H : Heap) (locs : List Loc) (ls : Array Slot), va_P D vwCl (zWM cI cJ cZ h mG mH mR mW mS mK mD mN mO mB mM mF) H → va_D A (zWM cI cJ cZ h mG mH mR mW mS mK mD mN mO mB mM mF) → va_S A s.heap H locs → lv_has ls 13 [(11, .long v11)] → X8_end_b81 N mG v11 s0 = some u → W p l e ({ frames := 1, cells := 0, slots := 0, locals := 29 } : Room) s m args below meth c H locs 0 0 (MQ below (zQl D A (zWM cI cJ cZ h mG mH mR mW mS mK mD mN mO mB mM mF) (u)) args s 0 0 A) (F0 m 81 ls [.long s0]) := by
  intro v11 s0 H locs ls hP hD hS hl hf
  obtain ⟨hx, hb, hml, hown, hts, hK, hr, hlocks, hA⟩ := id hC
  unfold X8_end_b81 at hf
  refine lv_lload hx hb dX8_end_81 (lv_at hl 0 rfl) ?_
  obtain ⟨h1, hf⟩ := zczl_s hf
  refine lv_ldiv hx hb dX8_end_83 h1 ?_
  have hu := Option.some.inj hf
  subst hu
  exact z_lret hC hP hD hS dX8_end_84
set_option maxHeartbeats 4000000 in
set_option maxRecDepth 100000 in
theorem c_X8_end (l : Launch) (D : va_G) (cI cJ cZ : ClassId) (h : Nat → Nat) (N : Nat) (mG : tmG) (mH : tmH) (mR : tmR) (mW : tmW) (mS : tmS) (mK : tmK) (mD : tmD) (mN : tmN) (mO : tmO) (mB : tmB) (mM : tmM) (mF : tmF) (a1 : Int32) (a2 : Int64) (a4 : Int64) (a6 : Int32) (u : Int64) (hf : X8_end N mG a1 a2 a4 a6 = some u) (sz : Nat) : Met l yX8_end (Cond.code yX8_end cX8_end 13 (some .long) :: tb_L) ({ frames := 1, cells := 0, slots := 0, locals := 29 } : Room) (zPre D (zty cI cJ cZ) (zWM cI cJ cZ h mG mH mR mW mS mK mD mN mO mB mM mF) sz [.ref (h 0), .int a1, .long a2, .long a4, .int a6]) (zQl D (va_A (zWM cI cJ cZ h mG mH mR mW mS mK mD mN mO mB mM mF) sz) (zWM cI cJ cZ h mG mH mR mW mS mK mD mN mO mB mM mF) (u)) 0 0 (va_A (zWM cI cJ cZ h mG mH mR mW mS mK mD mN mO mB mM mF) sz) := by
  refine zMet (Qc := fun A => zQl D A (zWM cI cJ cZ h mG mH mR mW mS mK mD mN mO mB mM mF) (u)) (by decide) rfl (Nat.le_of_ble_eq_true rfl) ?_
  intro p e s m args below meth c A ls hC _ hP hD hS hl
  replace hl : lv_has ls 13 [(0, .ref (h 0)), (1, .int a1), (2, .long a2), (4, .long a4), (6, .int a6)] := hl
  obtain ⟨hx, hb, hml, hown, hts, hK, hr, hlocks, hA⟩ := id hC
  unfold X8_end at hf
  obtain ⟨H, hH⟩ : ∃ H, H = s.heap := ⟨_, rfl⟩
  rw [← hH] at hP
  replace hS : va_S A s.heap H [] := by rw [hH]; exact hS
  show W p l e _ s m args below meth c s.heap [] 0 0 _ _
  rw [← hH]
  clear hH
  obtain ⟨locs, hlo⟩ : ∃ x : List Loc, x = [] := ⟨_, rfl⟩
  rw [← hlo] at hS ⊢
  clear hlo
  refine lv_aload_n hx hb dX8_end_0 rfl (lv_at hl 0 rfl) ?_
  refine va_get (D := D) (ci := 8) (v := .ref (h 1)) (C := RX8) (T := TX8) (N := 56) hx hb hts tb_wsX80 hown hK.1 hP 0 rfl rfl 1 (by decide) (hts _ tb_5_6) (fun _ h9 => h9) rfl dX8_end_1 ?_
  refine lv_iload_n hx hb dX8_end_4 rfl (lv_at hl 1 rfl) ?_
  obtain ⟨h2, hf⟩ := zck_s hf
  refine va_iald hx hb hK.1 hP 1 0 rfl rfl h2 dX8_end_5 ?_
  refine lv_i2l (v := (((tmG.px mG) a1.toNatClampNeg)).toInt64) hx hb dX8_end_6 rfl ?_
  refine lv_lload hx hb dX8_end_7 (lv_at hl 3 rfl) ?_
  refine lv_lmul hx hb dX8_end_9 ?_
  refine lv_aload_n hx hb dX8_end_10 rfl (lv_at hl 0 rfl) ?_
  refine va_get (D := D) (ci := 8) (v := .ref (h 3)) (C := RX8) (T := TX8) (N := 56) hx hb hts tb_wsX80 hown hK.1 hP 0 rfl rfl 3 (by decide) (hts _ tb_5_8) (fun _ h9 => h9) rfl dX8_end_11 ?_
  refine lv_iload_n hx hb dX8_end_14 rfl (lv_at hl 1 rfl) ?_
  obtain ⟨h3, hf⟩ := zck_s hf
  refine va_iald hx hb hK.1 hP 3 0 rfl rfl h3 dX8_end_15 ?_
  refine lv_i2l (v := (((tmG.dx mG) a1.toNatClampNeg)).toInt64) hx hb dX8_end_16 rfl ?_
  refine lv_lload_n hx hb dX8_end_17 rfl (lv_at hl 2 rfl) ?_
  refine lv_lmul hx hb dX8_end_18 ?_
  refine lv_ladd hx hb dX8_end_19 ?_
  refine lv_topl (fun x4 ex4 => ?_)
  replace hf := zl_n ex4 hf
  refine lv_lstore (lv' := [(7, .long x4), (0, .ref (h 0)), (1, .int a1), (2, .long a2), (4, .long a4), (6, .int a6)]) hx hb dX8_end_20 hl (by decide) rfl (fun ls hl => ?_)
  refine lv_aload_n hx hb dX8_end_22 rfl (lv_at hl 1 rfl) ?_
  refine va_get (D := D) (ci := 8) (v := .ref (h 2)) (C := RX8) (T := TX8) (N := 56) hx hb hts tb_wsX80 hown hK.1 hP 0 rfl rfl 2 (by decide) (hts _ tb_5_7) (fun _ h9 => h9) rfl dX8_end_23 ?_
  refine lv_iload_n hx hb dX8_end_26 rfl (lv_at hl 2 rfl) ?_
  obtain ⟨h5, hf⟩ := zck_s hf
  refine va_iald hx hb hK.1 hP 2 0 rfl rfl h5 dX8_end_27 ?_
  refine lv_i2l (v := (((tmG.py mG) a1.toNatClampNeg)).toInt64) hx hb dX8_end_28 rfl ?_
  refine lv_lload hx hb dX8_end_29 (lv_at hl 4 rfl) ?_
  refine lv_lmul hx hb dX8_end_31 ?_
  refine lv_aload_n hx hb dX8_end_32 rfl (lv_at hl 1 rfl) ?_
  refine va_get (D := D) (ci := 8) (v := .ref (h 4)) (C := RX8) (T := TX8) (N := 56) hx hb hts tb_wsX80 hown hK.1 hP 0 rfl rfl 4 (by decide) (hts _ tb_5_9) (fun _ h9 => h9) rfl dX8_end_33 ?_
  refine lv_iload_n hx hb dX8_end_36 rfl (lv_at hl 2 rfl) ?_
  obtain ⟨h6, hf⟩ := zck_s hf
  refine va_iald hx hb hK.1 hP 4 0 rfl rfl h6 dX8_end_37 ?_
  refine lv_i2l (v := (((tmG.dy mG) a1.toNatClampNeg)).toInt64) hx hb dX8_end_38 rfl ?_
  refine lv_lload_n hx hb dX8_end_39 rfl (lv_at hl 3 rfl) ?_
  refine lv_lmul hx hb dX8_end_40 ?_
  refine lv_ladd hx hb dX8_end_41 ?_
  refine lv_topl (fun x7 ex7 => ?_)
  replace hf := zl_n ex7 hf
  refine lv_lstore (lv' := [(9, .long x7), (7, .long x4), (0, .ref (h 0)), (1, .int a1), (2, .long a2), (4, .long a4), (6, .int a6)]) hx hb dX8_end_42 hl (by decide) rfl (fun ls hl => ?_)
  refine lv_lload hx hb dX8_end_44 (lv_at hl 5 rfl) ?_
  refine lv_lload hx hb dX8_end_46 (lv_at hl 1 rfl) ?_
  refine lv_lload hx hb dX8_end_48 (lv_at hl 0 rfl) ?_
  obtain ⟨u8, hu8, hf⟩ := zbd hf
  refine zthen_l hA hD hS (zrunS (As := [.long x4, .long x7]) (rest := [.long a4]) hC hP hD (c_X8_divisor l D cI cJ cZ h N mG mH mR mW mS mK mD mN mO mB mM mF x4 x7 u8 hu8 H.size) kRX8_220 rfl rfl ⟨by decide, by decide⟩ rfl hl.1 rfl (Nat.le_of_ble_eq_true rfl) dX8_end_50) (fun H locs hP hD hS => ?_)
  obtain ⟨u9, hu9, hf⟩ := zbd hf
  refine zthen_l hA hD hS (zrunS (As := [.long a4, .long u8]) (rest := []) hC hP hD (c_X8_divisor l D cI cJ cZ h N mG mH mR mW mS mK mD mN mO mB mM mF a4 u8 u9 hu9 H.size) kRX8_220 rfl rfl ⟨by decide, by decide⟩ rfl hl.1 rfl (Nat.le_of_ble_eq_true rfl) dX8_end_53) (fun H locs hP hD hS => ?_)
  refine lv_lstore (lv' := [(11, .long u9), (9, .long x7), (7, .long x4), (0, .ref (h 0)), (1, .int a1), (2, .long a2), (4, .long a4), (6, .int a6)]) hx hb dX8_end_56 hl (by decide) rfl (fun ls hl => ?_)
  refine lv_iload hx hb dX8_end_58 (lv_at hl 7 rfl) ?_
  refine lv_if_ne (tgt := 68) hx hb dX8_end_60 (by decide) (fun c10 => ?_) (fun c10 => ?_)
  · replace hf := zif_f hf c10
    refine lv_iload hx hb dX8_end_68 (lv_at hl 7 rfl) ?_
    refine lv_iconst (v := 1) hx hb dX8_end_70 (by decide) ?_
    refine lv_icmp_ne (tgt := 79) hx hb dX8_end_71 (by decide) (fun c11 => ?_) (fun c11 => ?_)
    · replace hf := zif_f hf c11
      refine lv_lload hx hb dX8_end_79 (lv_at hl 6 rfl) ?_
      exact t_X8_end_b81 hC N mG mH mR mW mS mK mD mN mO mB mM mF u u9 a4 H locs ls hP hD hS (lv_sub hl [0] rfl) hf
    · replace hf := zif_t hf c11
      refine lv_lload hx hb dX8_end_74 (lv_at hl 1 rfl) ?_
      refine lv_goto (tgt := 81) hx hb dX8_end_76 (by decide) ?_
      exact t_X8_end_b81 hC N mG mH mR mW mS mK mD mN mO mB mM mF u u9 x7 H locs ls hP hD hS (lv_sub hl [0] rfl) hf
  · replace hf := zif_t hf c10
    refine lv_lload hx hb dX8_end_63 (lv_at hl 2 rfl) ?_
    refine lv_goto (tgt := 81) hx hb dX8_end_65 (by decide) ?_
    exact t_X8_end_b81 hC N mG mH mR mW mS mK mD mN mO mB mM mF u u9 x4 H locs ls hP hD hS (lv_sub hl [0] rfl) hf
set_option maxHeartbeats 4000000 in
set_option maxRecDepth 100000 in
theorem t_X8_part_b17 {p : Program} {l : Launch} {e : Env} {s : State} {m : MethodId} {args : Array Value} {below : List Frame} {meth : Method} {c : Code} {A : Nat → Prop} {D : va_G} {cI cJ cZ : ClassId} {h : Nat → Nat} (hC : zCx p s m args meth c A D (zty cI cJ cZ) cX8_part RX8 3 (some .long)) (N : Nat) (mG : tmG) (mR : tmR) (mW : tmW) (mS : tmS) (mK : tmK) (mD : tmD) (mN : tmN) (mO : tmO) (mB : tmB) (mM : tmM) (mF : tmF) (u : Int64 × tmH) : ∀ (mH : tmH) (H : Heap) (locs : List Loc) (ls : Array Slot), va_P D vwCl (zWM cI cJ cZ h mG mH mR mW mS mK mD mN mO mB mM mF) H → va_D A (zWM cI cJ cZ h mG mH mR mW mS mK mD mN mO mB mM mF) → va_S A s.heap H locs → lv_has ls 3 [(0, .ref (h 0))] → X8_part_b17 N mG mK mH = some u → W p l e ({ frames := 2, cells := 0, slots := 0, locals := 61 } : Room) s m args below meth c H locs 0 0 (MQ below (zQl D A (zWM cI cJ cZ h mG u.2 mR mW mS mK mD mN mO mB mM mF) (u.1)) args s 0 0 A) (F0 m 17 ls []) := by
  intro mH H locs ls hP hD hS hl hf
  obtain ⟨hx, hb, hml, hown, hts, hK, hr, hlocks, hA⟩ := id hC
  unfold X8_part_b17 at hf
  refine lv_aload_n hx hb dX8_part_17 rfl (lv_at hl 0 rfl) ?_
  refine lv_iconst (v := 1) hx hb dX8_part_18 (by decide) ?_
  obtain ⟨u1, hu1, hf⟩ := zbd hf
  refine zthen_i hA hD hS (zrunV (As := [.int (1 : Int32)]) (rest := []) hC hP hD 0 rfl rfl (c_X8_fails l D cI cJ cZ h  mG mH mR mW mS mK mD mN mO mB mM mF (1 : Int32) u1 hu1 H.size) kRX8_212 rfl rfl ⟨by decide, by decide⟩ rfl hl.1 rfl (Nat.le_of_ble_eq_true rfl) dX8_part_19) (fun H locs hP hD hS => ?_)
  refine lv_i2l (v := (u1.1).toInt64) hx hb dX8_part_22 rfl ?_
  have hu := Option.some.inj hf
  subst hu
  exact z_lret hC hP hD hS dX8_part_23
set_option maxHeartbeats 4000000 in
set_option maxRecDepth 100000 in
theorem c_X8_part (l : Launch) (D : va_G) (cI cJ cZ : ClassId) (h : Nat → Nat) (N : Nat) (mG : tmG) (mH : tmH) (mR : tmR) (mW : tmW) (mS : tmS) (mK : tmK) (mD : tmD) (mN : tmN) (mO : tmO) (mB : tmB) (mM : tmM) (mF : tmF) (a1 : Int32) (a2 : Int32) (u : Int64 × tmH) (hf : X8_part N mG mH mK a1 a2 = some u) (sz : Nat) : Met l yX8_part (Cond.code yX8_part cX8_part 3 (some .long) :: tb_L) ({ frames := 2, cells := 0, slots := 0, locals := 61 } : Room) (zPre D (zty cI cJ cZ) (zWM cI cJ cZ h mG mH mR mW mS mK mD mN mO mB mM mF) sz [.ref (h 0), .int a1, .int a2]) (zQl D (va_A (zWM cI cJ cZ h mG mH mR mW mS mK mD mN mO mB mM mF) sz) (zWM cI cJ cZ h mG u.2 mR mW mS mK mD mN mO mB mM mF) (u.1)) 0 0 (va_A (zWM cI cJ cZ h mG mH mR mW mS mK mD mN mO mB mM mF) sz) := by
  refine zMet (Qc := fun A => zQl D A (zWM cI cJ cZ h mG u.2 mR mW mS mK mD mN mO mB mM mF) (u.1)) (by decide) rfl (Nat.le_of_ble_eq_true rfl) ?_
  intro p e s m args below meth c A ls hC _ hP hD hS hl
  replace hl : lv_has ls 3 [(0, .ref (h 0)), (1, .int a1), (2, .int a2)] := hl
  obtain ⟨hx, hb, hml, hown, hts, hK, hr, hlocks, hA⟩ := id hC
  unfold X8_part at hf
  obtain ⟨H, hH⟩ : ∃ H, H = s.heap := ⟨_, rfl⟩
  rw [← hH] at hP
  replace hS : va_S A s.heap H [] := by rw [hH]; exact hS
  show W p l e _ s m args below meth c s.heap [] 0 0 _ _
  rw [← hH]
  clear hH
  obtain ⟨locs, hlo⟩ : ∃ x : List Loc, x = [] := ⟨_, rfl⟩
  rw [← hlo] at hS ⊢
  clear hlo
  refine lv_aload_n hx hb dX8_part_0 rfl (lv_at hl 0 rfl) ?_
  refine lv_iconst (v := 0) hx hb dX8_part_1 (by decide) ?_
  refine va_put (D := D) (ci := 8) (v := .int (0 : Int32)) (ty := .int) (C := RX8) (T := TX8) (N := 56) hx hb hts tb_wsX80 tyX8 tyX8_ok nmX8 hown hK.1 hP hD hS 0 rfl rfl 5 (by decide) (hts _ tb_8_3) (fun _ h9 => h9) rfl (by decide +kernel) rfl rfl (Nat.le_of_ble_eq_true rfl) dX8_part_2 (fun H locs hP hD hS => ?_)
  replace hP : va_P D vwCl (zWM cI cJ cZ h mG (tmH.s_thrown mH (0 : Int32)) mR mW mS mK mD mN mO mB mM mF) H := hP
  replace hD : va_D A (zWM cI cJ cZ h mG (tmH.s_thrown mH (0 : Int32)) mR mW mS mK mD mN mO mB mM mF) := hD
  refine lv_iload_n hx hb dX8_part_5 rfl (lv_at hl 1 rfl) ?_
  refine lv_if_lt (tgt := 17) hx hb dX8_part_6 (by decide) (fun c2 => ?_) (fun c2 => ?_)
  · replace hf := zif_t hf c2
    exact t_X8_part_b17 hC N mG mR mW mS mK mD mN mO mB mM mF u (tmH.s_thrown mH (0 : Int32)) H locs ls hP hD hS (lv_sub hl [0] rfl) hf
  · replace hf := zif_f hf c2
    refine lv_iload_n hx hb dX8_part_9 rfl (lv_at hl 1 rfl) ?_
    refine lv_aload_n hx hb dX8_part_10 rfl (lv_at hl 0 rfl) ?_
    refine va_get (D := D) (ci := 8) (v := .int (tmK.parts mK)) (C := RX8) (T := TX8) (N := 56) hx hb hts tb_wsX80 hown hK.1 hP 0 rfl rfl 24 (by decide) (hts _ tb_8_15) (fun _ h9 => h9) rfl dX8_part_11 ?_
    refine lv_icmp_lt (tgt := 24) hx hb dX8_part_14 (by decide) (fun c3 => ?_) (fun c3 => ?_)
    · replace hf := zif_t hf c3
      refine lv_iload_n hx hb dX8_part_24 rfl (lv_at hl 2 rfl) ?_
      by_cases c40 : a2 = (0 : Int32)
      · replace hf := zif_t hf c40
        refine lv_tableIn (tgt := 72) hx hb dX8_part_25 (by rw [c40]; decide) (by rw [c40]; decide) (by rw [c40]; rfl) (by decide) ?_
        refine lv_aload_n hx hb dX8_part_72 rfl (lv_at hl 0 rfl) ?_
        refine va_get (D := D) (ci := 8) (v := .ref (h 24)) (C := RX8) (T := TX8) (N := 56) hx hb hts tb_wsX80 hown hK.1 hP 0 rfl rfl 32 (by decide) (hts _ tb_6_6) (fun _ h9 => h9) rfl dX8_part_73 ?_
        refine lv_iload_n hx hb dX8_part_76 rfl (lv_at hl 1 rfl) ?_
        obtain ⟨h31, hf⟩ := zck_s hf
        refine va_iald hx hb hK.1 hP 24 0 rfl rfl h31 dX8_part_77 ?_
        refine lv_i2l (v := (((tmK.pPiece mK) a1.toNatClampNeg)).toInt64) hx hb dX8_part_78 rfl ?_
        have hu := Option.some.inj hf
        subst hu
        exact z_lret hC hP hD hS dX8_part_79
      replace hf := zif_f hf c40
      by_cases c41 : a2 = (1 : Int32)
      · replace hf := zif_t hf c41
        refine lv_tableIn (tgt := 80) hx hb dX8_part_25 (by rw [c41]; decide) (by rw [c41]; decide) (by rw [c41]; rfl) (by decide) ?_
        refine lv_aload_n hx hb dX8_part_80 rfl (lv_at hl 0 rfl) ?_
        refine lv_aload_n hx hb dX8_part_81 rfl (lv_at hl 0 rfl) ?_
        refine va_get (D := D) (ci := 8) (v := .ref (h 24)) (C := RX8) (T := TX8) (N := 56) hx hb hts tb_wsX80 hown hK.1 hP 0 rfl rfl 32 (by decide) (hts _ tb_6_6) (fun _ h9 => h9) rfl dX8_part_82 ?_
        refine lv_iload_n hx hb dX8_part_85 rfl (lv_at hl 1 rfl) ?_
        obtain ⟨h27, hf⟩ := zck_s hf
        refine va_iald hx hb hK.1 hP 24 0 rfl rfl h27 dX8_part_86 ?_
        refine lv_aload_n hx hb dX8_part_87 rfl (lv_at hl 0 rfl) ?_
        refine va_get (D := D) (ci := 8) (v := .ref (h 26)) (C := RX8) (T := TX8) (N := 56) hx hb hts tb_wsX80 hown hK.1 hP 0 rfl rfl 34 (by decide) (hts _ tb_6_8) (fun _ h9 => h9) rfl dX8_part_88 ?_
        refine lv_iload_n hx hb dX8_part_91 rfl (lv_at hl 1 rfl) ?_
        obtain ⟨h28, hf⟩ := zck_s hf
        refine va_lald hx hb hK.1 hP 26 1 rfl rfl h28 dX8_part_92 ?_
        refine lv_aload_n hx hb dX8_part_93 rfl (lv_at hl 0 rfl) ?_
        refine va_get (D := D) (ci := 8) (v := .ref (h 27)) (C := RX8) (T := TX8) (N := 56) hx hb hts tb_wsX80 hown hK.1 hP 0 rfl rfl 35 (by decide) (hts _ tb_6_9) (fun _ h9 => h9) rfl dX8_part_94 ?_
        refine lv_iload_n hx hb dX8_part_97 rfl (lv_at hl 1 rfl) ?_
        obtain ⟨h29, hf⟩ := zck_s hf
        refine va_lald hx hb hK.1 hP 27 1 rfl rfl h29 dX8_part_98 ?_
        refine lv_iload_n hx hb dX8_part_99 rfl (lv_at hl 2 rfl) ?_
        refine lv_iconst (v := 1) hx hb dX8_part_100 (by decide) ?_
        refine lv_isub hx hb dX8_part_101 ?_
        obtain ⟨u30, hu30, hf⟩ := zbd hf
        refine zthen_l hA hD hS (zrunV (As := [.int ((tmK.pPiece mK) a1.toNatClampNeg), .long ((tmK.pUp mK) a1.toNatClampNeg), .long ((tmK.pLow mK) a1.toNatClampNeg), .int (a2 - (1 : Int32))]) (rest := []) hC hP hD 0 rfl rfl (c_X8_end l D cI cJ cZ h N mG (tmH.s_thrown mH (0 : Int32)) mR mW mS mK mD mN mO mB mM mF ((tmK.pPiece mK) a1.toNatClampNeg) ((tmK.pUp mK) a1.toNatClampNeg) ((tmK.pLow mK) a1.toNatClampNeg) (a2 - (1 : Int32)) u30 hu30 H.size) kRX8_224 rfl rfl ⟨by decide, by decide⟩ rfl hl.1 rfl (Nat.le_of_ble_eq_true rfl) dX8_part_102) (fun H locs hP hD hS => ?_)
        have hu := Option.some.inj hf
        subst hu
        exact z_lret hC hP hD hS dX8_part_105
      replace hf := zif_f hf c41
      by_cases c42 : a2 = (2 : Int32)
      · replace hf := zif_t hf c42
        refine lv_tableIn (tgt := 80) hx hb dX8_part_25 (by rw [c42]; decide) (by rw [c42]; decide) (by rw [c42]; rfl) (by decide) ?_
        refine lv_aload_n hx hb dX8_part_80 rfl (lv_at hl 0 rfl) ?_
        refine lv_aload_n hx hb dX8_part_81 rfl (lv_at hl 0 rfl) ?_
        refine va_get (D := D) (ci := 8) (v := .ref (h 24)) (C := RX8) (T := TX8) (N := 56) hx hb hts tb_wsX80 hown hK.1 hP 0 rfl rfl 32 (by decide) (hts _ tb_6_6) (fun _ h9 => h9) rfl dX8_part_82 ?_
        refine lv_iload_n hx hb dX8_part_85 rfl (lv_at hl 1 rfl) ?_
        obtain ⟨h23, hf⟩ := zck_s hf
        refine va_iald hx hb hK.1 hP 24 0 rfl rfl h23 dX8_part_86 ?_
        refine lv_aload_n hx hb dX8_part_87 rfl (lv_at hl 0 rfl) ?_
        refine va_get (D := D) (ci := 8) (v := .ref (h 26)) (C := RX8) (T := TX8) (N := 56) hx hb hts tb_wsX80 hown hK.1 hP 0 rfl rfl 34 (by decide) (hts _ tb_6_8) (fun _ h9 => h9) rfl dX8_part_88 ?_
        refine lv_iload_n hx hb dX8_part_91 rfl (lv_at hl 1 rfl) ?_
        obtain ⟨h24, hf⟩ := zck_s hf
        refine va_lald hx hb hK.1 hP 26 1 rfl rfl h24 dX8_part_92 ?_
        refine lv_aload_n hx hb dX8_part_93 rfl (lv_at hl 0 rfl) ?_
        refine va_get (D := D) (ci := 8) (v := .ref (h 27)) (C := RX8) (T := TX8) (N := 56) hx hb hts tb_wsX80 hown hK.1 hP 0 rfl rfl 35 (by decide) (hts _ tb_6_9) (fun _ h9 => h9) rfl dX8_part_94 ?_
        refine lv_iload_n hx hb dX8_part_97 rfl (lv_at hl 1 rfl) ?_
        obtain ⟨h25, hf⟩ := zck_s hf
        refine va_lald hx hb hK.1 hP 27 1 rfl rfl h25 dX8_part_98 ?_
        refine lv_iload_n hx hb dX8_part_99 rfl (lv_at hl 2 rfl) ?_
        refine lv_iconst (v := 1) hx hb dX8_part_100 (by decide) ?_
        refine lv_isub hx hb dX8_part_101 ?_
        obtain ⟨u26, hu26, hf⟩ := zbd hf
        refine zthen_l hA hD hS (zrunV (As := [.int ((tmK.pPiece mK) a1.toNatClampNeg), .long ((tmK.pUp mK) a1.toNatClampNeg), .long ((tmK.pLow mK) a1.toNatClampNeg), .int (a2 - (1 : Int32))]) (rest := []) hC hP hD 0 rfl rfl (c_X8_end l D cI cJ cZ h N mG (tmH.s_thrown mH (0 : Int32)) mR mW mS mK mD mN mO mB mM mF ((tmK.pPiece mK) a1.toNatClampNeg) ((tmK.pUp mK) a1.toNatClampNeg) ((tmK.pLow mK) a1.toNatClampNeg) (a2 - (1 : Int32)) u26 hu26 H.size) kRX8_224 rfl rfl ⟨by decide, by decide⟩ rfl hl.1 rfl (Nat.le_of_ble_eq_true rfl) dX8_part_102) (fun H locs hP hD hS => ?_)
        have hu := Option.some.inj hf
        subst hu
        exact z_lret hC hP hD hS dX8_part_105
      replace hf := zif_f hf c42
      by_cases c43 : a2 = (3 : Int32)
      · replace hf := zif_t hf c43
        refine lv_tableIn (tgt := 80) hx hb dX8_part_25 (by rw [c43]; decide) (by rw [c43]; decide) (by rw [c43]; rfl) (by decide) ?_
        refine lv_aload_n hx hb dX8_part_80 rfl (lv_at hl 0 rfl) ?_
        refine lv_aload_n hx hb dX8_part_81 rfl (lv_at hl 0 rfl) ?_
        refine va_get (D := D) (ci := 8) (v := .ref (h 24)) (C := RX8) (T := TX8) (N := 56) hx hb hts tb_wsX80 hown hK.1 hP 0 rfl rfl 32 (by decide) (hts _ tb_6_6) (fun _ h9 => h9) rfl dX8_part_82 ?_
        refine lv_iload_n hx hb dX8_part_85 rfl (lv_at hl 1 rfl) ?_
        obtain ⟨h19, hf⟩ := zck_s hf
        refine va_iald hx hb hK.1 hP 24 0 rfl rfl h19 dX8_part_86 ?_
        refine lv_aload_n hx hb dX8_part_87 rfl (lv_at hl 0 rfl) ?_
        refine va_get (D := D) (ci := 8) (v := .ref (h 26)) (C := RX8) (T := TX8) (N := 56) hx hb hts tb_wsX80 hown hK.1 hP 0 rfl rfl 34 (by decide) (hts _ tb_6_8) (fun _ h9 => h9) rfl dX8_part_88 ?_
        refine lv_iload_n hx hb dX8_part_91 rfl (lv_at hl 1 rfl) ?_
        obtain ⟨h20, hf⟩ := zck_s hf
        refine va_lald hx hb hK.1 hP 26 1 rfl rfl h20 dX8_part_92 ?_
        refine lv_aload_n hx hb dX8_part_93 rfl (lv_at hl 0 rfl) ?_
        refine va_get (D := D) (ci := 8) (v := .ref (h 27)) (C := RX8) (T := TX8) (N := 56) hx hb hts tb_wsX80 hown hK.1 hP 0 rfl rfl 35 (by decide) (hts _ tb_6_9) (fun _ h9 => h9) rfl dX8_part_94 ?_
        refine lv_iload_n hx hb dX8_part_97 rfl (lv_at hl 1 rfl) ?_
        obtain ⟨h21, hf⟩ := zck_s hf
        refine va_lald hx hb hK.1 hP 27 1 rfl rfl h21 dX8_part_98 ?_
        refine lv_iload_n hx hb dX8_part_99 rfl (lv_at hl 2 rfl) ?_
        refine lv_iconst (v := 1) hx hb dX8_part_100 (by decide) ?_
        refine lv_isub hx hb dX8_part_101 ?_
        obtain ⟨u22, hu22, hf⟩ := zbd hf
        refine zthen_l hA hD hS (zrunV (As := [.int ((tmK.pPiece mK) a1.toNatClampNeg), .long ((tmK.pUp mK) a1.toNatClampNeg), .long ((tmK.pLow mK) a1.toNatClampNeg), .int (a2 - (1 : Int32))]) (rest := []) hC hP hD 0 rfl rfl (c_X8_end l D cI cJ cZ h N mG (tmH.s_thrown mH (0 : Int32)) mR mW mS mK mD mN mO mB mM mF ((tmK.pPiece mK) a1.toNatClampNeg) ((tmK.pUp mK) a1.toNatClampNeg) ((tmK.pLow mK) a1.toNatClampNeg) (a2 - (1 : Int32)) u22 hu22 H.size) kRX8_224 rfl rfl ⟨by decide, by decide⟩ rfl hl.1 rfl (Nat.le_of_ble_eq_true rfl) dX8_part_102) (fun H locs hP hD hS => ?_)
        have hu := Option.some.inj hf
        subst hu
        exact z_lret hC hP hD hS dX8_part_105
      replace hf := zif_f hf c43
      by_cases c44 : a2 = (4 : Int32)
      · replace hf := zif_t hf c44
        refine lv_tableIn (tgt := 106) hx hb dX8_part_25 (by rw [c44]; decide) (by rw [c44]; decide) (by rw [c44]; rfl) (by decide) ?_
        refine lv_aload_n hx hb dX8_part_106 rfl (lv_at hl 0 rfl) ?_
        refine lv_aload_n hx hb dX8_part_107 rfl (lv_at hl 0 rfl) ?_
        refine va_get (D := D) (ci := 8) (v := .ref (h 24)) (C := RX8) (T := TX8) (N := 56) hx hb hts tb_wsX80 hown hK.1 hP 0 rfl rfl 32 (by decide) (hts _ tb_6_6) (fun _ h9 => h9) rfl dX8_part_108 ?_
        refine lv_iload_n hx hb dX8_part_111 rfl (lv_at hl 1 rfl) ?_
        obtain ⟨h15, hf⟩ := zck_s hf
        refine va_iald hx hb hK.1 hP 24 0 rfl rfl h15 dX8_part_112 ?_
        refine lv_aload_n hx hb dX8_part_113 rfl (lv_at hl 0 rfl) ?_
        refine va_get (D := D) (ci := 8) (v := .ref (h 28)) (C := RX8) (T := TX8) (N := 56) hx hb hts tb_wsX80 hown hK.1 hP 0 rfl rfl 36 (by decide) (hts _ tb_6_10) (fun _ h9 => h9) rfl dX8_part_114 ?_
        refine lv_iload_n hx hb dX8_part_117 rfl (lv_at hl 1 rfl) ?_
        obtain ⟨h16, hf⟩ := zck_s hf
        refine va_lald hx hb hK.1 hP 28 1 rfl rfl h16 dX8_part_118 ?_
        refine lv_aload_n hx hb dX8_part_119 rfl (lv_at hl 0 rfl) ?_
        refine va_get (D := D) (ci := 8) (v := .ref (h 29)) (C := RX8) (T := TX8) (N := 56) hx hb hts tb_wsX80 hown hK.1 hP 0 rfl rfl 37 (by decide) (hts _ tb_6_11) (fun _ h9 => h9) rfl dX8_part_120 ?_
        refine lv_iload_n hx hb dX8_part_123 rfl (lv_at hl 1 rfl) ?_
        obtain ⟨h17, hf⟩ := zck_s hf
        refine va_lald hx hb hK.1 hP 29 1 rfl rfl h17 dX8_part_124 ?_
        refine lv_iload_n hx hb dX8_part_125 rfl (lv_at hl 2 rfl) ?_
        refine lv_iconst (v := 4) hx hb dX8_part_126 (by decide) ?_
        refine lv_isub hx hb dX8_part_127 ?_
        obtain ⟨u18, hu18, hf⟩ := zbd hf
        refine zthen_l hA hD hS (zrunV (As := [.int ((tmK.pPiece mK) a1.toNatClampNeg), .long ((tmK.pUp2 mK) a1.toNatClampNeg), .long ((tmK.pLow2 mK) a1.toNatClampNeg), .int (a2 - (4 : Int32))]) (rest := []) hC hP hD 0 rfl rfl (c_X8_end l D cI cJ cZ h N mG (tmH.s_thrown mH (0 : Int32)) mR mW mS mK mD mN mO mB mM mF ((tmK.pPiece mK) a1.toNatClampNeg) ((tmK.pUp2 mK) a1.toNatClampNeg) ((tmK.pLow2 mK) a1.toNatClampNeg) (a2 - (4 : Int32)) u18 hu18 H.size) kRX8_224 rfl rfl ⟨by decide, by decide⟩ rfl hl.1 rfl (Nat.le_of_ble_eq_true rfl) dX8_part_128) (fun H locs hP hD hS => ?_)
        have hu := Option.some.inj hf
        subst hu
        exact z_lret hC hP hD hS dX8_part_131
      replace hf := zif_f hf c44
      by_cases c45 : a2 = (5 : Int32)
      · replace hf := zif_t hf c45
        refine lv_tableIn (tgt := 106) hx hb dX8_part_25 (by rw [c45]; decide) (by rw [c45]; decide) (by rw [c45]; rfl) (by decide) ?_
        refine lv_aload_n hx hb dX8_part_106 rfl (lv_at hl 0 rfl) ?_
        refine lv_aload_n hx hb dX8_part_107 rfl (lv_at hl 0 rfl) ?_
        refine va_get (D := D) (ci := 8) (v := .ref (h 24)) (C := RX8) (T := TX8) (N := 56) hx hb hts tb_wsX80 hown hK.1 hP 0 rfl rfl 32 (by decide) (hts _ tb_6_6) (fun _ h9 => h9) rfl dX8_part_108 ?_
        refine lv_iload_n hx hb dX8_part_111 rfl (lv_at hl 1 rfl) ?_
        obtain ⟨h11, hf⟩ := zck_s hf
        refine va_iald hx hb hK.1 hP 24 0 rfl rfl h11 dX8_part_112 ?_
        refine lv_aload_n hx hb dX8_part_113 rfl (lv_at hl 0 rfl) ?_
        refine va_get (D := D) (ci := 8) (v := .ref (h 28)) (C := RX8) (T := TX8) (N := 56) hx hb hts tb_wsX80 hown hK.1 hP 0 rfl rfl 36 (by decide) (hts _ tb_6_10) (fun _ h9 => h9) rfl dX8_part_114 ?_
        refine lv_iload_n hx hb dX8_part_117 rfl (lv_at hl 1 rfl) ?_
        obtain ⟨h12, hf⟩ := zck_s hf
        refine va_lald hx hb hK.1 hP 28 1 rfl rfl h12 dX8_part_118 ?_
        refine lv_aload_n hx hb dX8_part_119 rfl (lv_at hl 0 rfl) ?_
        refine va_get (D := D) (ci := 8) (v := .ref (h 29)) (C := RX8) (T := TX8) (N := 56) hx hb hts tb_wsX80 hown hK.1 hP 0 rfl rfl 37 (by decide) (hts _ tb_6_11) (fun _ h9 => h9) rfl dX8_part_120 ?_
        refine lv_iload_n hx hb dX8_part_123 rfl (lv_at hl 1 rfl) ?_
        obtain ⟨h13, hf⟩ := zck_s hf
        refine va_lald hx hb hK.1 hP 29 1 rfl rfl h13 dX8_part_124 ?_
        refine lv_iload_n hx hb dX8_part_125 rfl (lv_at hl 2 rfl) ?_
        refine lv_iconst (v := 4) hx hb dX8_part_126 (by decide) ?_
        refine lv_isub hx hb dX8_part_127 ?_
        obtain ⟨u14, hu14, hf⟩ := zbd hf
        refine zthen_l hA hD hS (zrunV (As := [.int ((tmK.pPiece mK) a1.toNatClampNeg), .long ((tmK.pUp2 mK) a1.toNatClampNeg), .long ((tmK.pLow2 mK) a1.toNatClampNeg), .int (a2 - (4 : Int32))]) (rest := []) hC hP hD 0 rfl rfl (c_X8_end l D cI cJ cZ h N mG (tmH.s_thrown mH (0 : Int32)) mR mW mS mK mD mN mO mB mM mF ((tmK.pPiece mK) a1.toNatClampNeg) ((tmK.pUp2 mK) a1.toNatClampNeg) ((tmK.pLow2 mK) a1.toNatClampNeg) (a2 - (4 : Int32)) u14 hu14 H.size) kRX8_224 rfl rfl ⟨by decide, by decide⟩ rfl hl.1 rfl (Nat.le_of_ble_eq_true rfl) dX8_part_128) (fun H locs hP hD hS => ?_)
        have hu := Option.some.inj hf
        subst hu
        exact z_lret hC hP hD hS dX8_part_131
      replace hf := zif_f hf c45
      by_cases c46 : a2 = (6 : Int32)
      · replace hf := zif_t hf c46
        refine lv_tableIn (tgt := 106) hx hb dX8_part_25 (by rw [c46]; decide) (by rw [c46]; decide) (by rw [c46]; rfl) (by decide) ?_
        refine lv_aload_n hx hb dX8_part_106 rfl (lv_at hl 0 rfl) ?_
        refine lv_aload_n hx hb dX8_part_107 rfl (lv_at hl 0 rfl) ?_
        refine va_get (D := D) (ci := 8) (v := .ref (h 24)) (C := RX8) (T := TX8) (N := 56) hx hb hts tb_wsX80 hown hK.1 hP 0 rfl rfl 32 (by decide) (hts _ tb_6_6) (fun _ h9 => h9) rfl dX8_part_108 ?_
        refine lv_iload_n hx hb dX8_part_111 rfl (lv_at hl 1 rfl) ?_
        obtain ⟨h7, hf⟩ := zck_s hf
        refine va_iald hx hb hK.1 hP 24 0 rfl rfl h7 dX8_part_112 ?_
        refine lv_aload_n hx hb dX8_part_113 rfl (lv_at hl 0 rfl) ?_
        refine va_get (D := D) (ci := 8) (v := .ref (h 28)) (C := RX8) (T := TX8) (N := 56) hx hb hts tb_wsX80 hown hK.1 hP 0 rfl rfl 36 (by decide) (hts _ tb_6_10) (fun _ h9 => h9) rfl dX8_part_114 ?_
        refine lv_iload_n hx hb dX8_part_117 rfl (lv_at hl 1 rfl) ?_
        obtain ⟨h8, hf⟩ := zck_s hf
        refine va_lald hx hb hK.1 hP 28 1 rfl rfl h8 dX8_part_118 ?_
        refine lv_aload_n hx hb dX8_part_119 rfl (lv_at hl 0 rfl) ?_
        refine va_get (D := D) (ci := 8) (v := .ref (h 29)) (C := RX8) (T := TX8) (N := 56) hx hb hts tb_wsX80 hown hK.1 hP 0 rfl rfl 37 (by decide) (hts _ tb_6_11) (fun _ h9 => h9) rfl dX8_part_120 ?_
        refine lv_iload_n hx hb dX8_part_123 rfl (lv_at hl 1 rfl) ?_
        obtain ⟨h9, hf⟩ := zck_s hf
        refine va_lald hx hb hK.1 hP 29 1 rfl rfl h9 dX8_part_124 ?_
        refine lv_iload_n hx hb dX8_part_125 rfl (lv_at hl 2 rfl) ?_
        refine lv_iconst (v := 4) hx hb dX8_part_126 (by decide) ?_
        refine lv_isub hx hb dX8_part_127 ?_
        obtain ⟨u10, hu10, hf⟩ := zbd hf
        refine zthen_l hA hD hS (zrunV (As := [.int ((tmK.pPiece mK) a1.toNatClampNeg), .long ((tmK.pUp2 mK) a1.toNatClampNeg), .long ((tmK.pLow2 mK) a1.toNatClampNeg), .int (a2 - (4 : Int32))]) (rest := []) hC hP hD 0 rfl rfl (c_X8_end l D cI cJ cZ h N mG (tmH.s_thrown mH (0 : Int32)) mR mW mS mK mD mN mO mB mM mF ((tmK.pPiece mK) a1.toNatClampNeg) ((tmK.pUp2 mK) a1.toNatClampNeg) ((tmK.pLow2 mK) a1.toNatClampNeg) (a2 - (4 : Int32)) u10 hu10 H.size) kRX8_224 rfl rfl ⟨by decide, by decide⟩ rfl hl.1 rfl (Nat.le_of_ble_eq_true rfl) dX8_part_128) (fun H locs hP hD hS => ?_)
        have hu := Option.some.inj hf
        subst hu
        exact z_lret hC hP hD hS dX8_part_131
      replace hf := zif_f hf c46
      by_cases c47 : a2 = (7 : Int32)
      · replace hf := zif_t hf c47
        refine lv_tableIn (tgt := 132) hx hb dX8_part_25 (by rw [c47]; decide) (by rw [c47]; decide) (by rw [c47]; rfl) (by decide) ?_
        refine lv_aload_n hx hb dX8_part_132 rfl (lv_at hl 0 rfl) ?_
        refine va_get (D := D) (ci := 8) (v := .ref (h 25)) (C := RX8) (T := TX8) (N := 56) hx hb hts tb_wsX80 hown hK.1 hP 0 rfl rfl 33 (by decide) (hts _ tb_6_7) (fun _ h9 => h9) rfl dX8_part_133 ?_
        refine lv_iload_n hx hb dX8_part_136 rfl (lv_at hl 1 rfl) ?_
        obtain ⟨h6, hf⟩ := zck_s hf
        refine va_iald hx hb hK.1 hP 25 0 rfl rfl h6 dX8_part_137 ?_
        refine lv_i2l (v := (((tmK.pKnot mK) a1.toNatClampNeg)).toInt64) hx hb dX8_part_138 rfl ?_
        have hu := Option.some.inj hf
        subst hu
        exact z_lret hC hP hD hS dX8_part_139
      replace hf := zif_f hf c47
      refine lv_tableOut (tgt := 140) hx hb dX8_part_25 (by have := zsw c40; rw [show ((0 : Int32)).toInt = 0 from rfl] at this; have := zsw c41; rw [show ((1 : Int32)).toInt = 1 from rfl] at this; have := zsw c42; rw [show ((2 : Int32)).toInt = 2 from rfl] at this; have := zsw c43; rw [show ((3 : Int32)).toInt = 3 from rfl] at this; have := zsw c44; rw [show ((4 : Int32)).toInt = 4 from rfl] at this; have := zsw c45; rw [show ((5 : Int32)).toInt = 5 from rfl] at this; have := zsw c46; rw [show ((6 : Int32)).toInt = 6 from rfl] at this; have := zsw c47; rw [show ((7 : Int32)).toInt = 7 from rfl] at this; omega) (by decide) ?_
      refine lv_aload_n hx hb dX8_part_140 rfl (lv_at hl 0 rfl) ?_
      refine lv_iconst (v := 2) hx hb dX8_part_141 (by decide) ?_
      obtain ⟨u5, hu5, hf⟩ := zbd hf
      refine zthen_i hA hD hS (zrunV (As := [.int (2 : Int32)]) (rest := []) hC hP hD 0 rfl rfl (c_X8_fails l D cI cJ cZ h  mG (tmH.s_thrown mH (0 : Int32)) mR mW mS mK mD mN mO mB mM mF (2 : Int32) u5 hu5 H.size) kRX8_212 rfl rfl ⟨by decide, by decide⟩ rfl hl.1 rfl (Nat.le_of_ble_eq_true rfl) dX8_part_142) (fun H locs hP hD hS => ?_)
      refine lv_i2l (v := (u5.1).toInt64) hx hb dX8_part_145 rfl ?_
      have hu := Option.some.inj hf
      subst hu
      exact z_lret hC hP hD hS dX8_part_146
    · replace hf := zif_f hf c3
      exact t_X8_part_b17 hC N mG mR mW mS mK mD mN mO mB mM mF u (tmH.s_thrown mH (0 : Int32)) H locs ls hP hD hS (lv_sub hl [0] rfl) hf
set_option maxHeartbeats 4000000 in
set_option maxRecDepth 100000 in
theorem t_X8_where_b85 {p : Program} {l : Launch} {e : Env} {s : State} {m : MethodId} {args : Array Value} {below : List Frame} {meth : Method} {c : Code} {A : Nat → Prop} {D : va_G} {cI cJ cZ : ClassId} {h : Nat → Nat} (hC : zCx p s m args meth c A D (zty cI cJ cZ) cX8_where RX8 6 (some .int)) (N : Nat) (mG : tmG) (mR : tmR) (mW : tmW) (mS : tmS) (mK : tmK) (mD : tmD) (mN : tmN) (mO : tmO) (mB : tmB) (mM : tmM) (mF : tmF) (u : Int32 × tmH) : ∀ (mH : tmH) (v3 : Int32) (H : Heap) (locs : List Loc) (ls : Array Slot), va_P D vwCl (zWM cI cJ cZ h mG mH mR mW mS mK mD mN mO mB mM mF) H → va_D A (zWM cI cJ cZ h mG mH mR mW mS mK mD mN mO mB mM mF) → va_S A s.heap H locs → lv_has ls 6 [(3, .int v3)] → X8_where_b85 N mG mK mH v3 = some u → W p l e ({ frames := 1, cells := 0, slots := 0, locals := 25 } : Room) s m args below meth c H locs 0 0 (MQ below (zQi D A (zWM cI cJ cZ h mG u.2 mR mW mS mK mD mN mO mB mM mF) (u.1)) args s 0 0 A) (F0 m 85 ls []) := by
  intro mH v3 H locs ls hP hD hS hl hf
  obtain ⟨hx, hb, hml, hown, hts, hK, hr, hlocks, hA⟩ := id hC
  unfold X8_where_b85 at hf
  refine lv_bipush (v := -2) hx hb dX8_where_85 (by decide) ?_
  refine lv_iload_n hx hb dX8_where_87 rfl (lv_at hl 0 rfl) ?_
  refine lv_isub hx hb dX8_where_88 ?_
  have hu := Option.some.inj hf
  subst hu
  exact z_iret hC hP hD hS dX8_where_89
set_option maxHeartbeats 4000000 in
set_option maxRecDepth 100000 in
theorem t_X8_where_b81 {p : Program} {l : Launch} {e : Env} {s : State} {m : MethodId} {args : Array Value} {below : List Frame} {meth : Method} {c : Code} {A : Nat → Prop} {D : va_G} {cI cJ cZ : ClassId} {h : Nat → Nat} (hC : zCx p s m args meth c A D (zty cI cJ cZ) cX8_where RX8 6 (some .int)) (N : Nat) {mG : tmG} {mR : tmR} {mW : tmW} {mS : tmS} {mK : tmK} {mD : tmD} {mN : tmN} {mO : tmO} {mB : tmB} {mM : tmM} {mF : tmF} {u : Int32 × tmH} (k27 : tmH → Int32 → Int32 → Int32 → Option (Int32 × tmH)) (hk27 : ∀ (mH : tmH) (v1 : Int32) (v2 : Int32) (v3 : Int32) (H : Heap) (locs : List Loc) (ls : Array Slot), va_P D vwCl (zWM cI cJ cZ h mG mH mR mW mS mK mD mN mO mB mM mF) H → va_D A (zWM cI cJ cZ h mG mH mR mW mS mK mD mN mO mB mM mF) → va_S A s.heap H locs → lv_has ls 6 [(0, .ref (h 0)), (1, .int v1), (2, .int v2), (3, .int v3)] → k27 mH v1 v2 v3 = some u → W p l e ({ frames := 1, cells := 0, slots := 0, locals := 25 } : Room) s m args below meth c H locs 0 0 (MQ below (zQi D A (zWM cI cJ cZ h mG u.2 mR mW mS mK mD mN mO mB mM mF) (u.1)) args s 0 0 A) (F0 m 27 ls [])) : ∀ (mH : tmH) (v1 : Int32) (v2 : Int32) (s0 : Int32) (H : Heap) (locs : List Loc) (ls : Array Slot), va_P D vwCl (zWM cI cJ cZ h mG mH mR mW mS mK mD mN mO mB mM mF) H → va_D A (zWM cI cJ cZ h mG mH mR mW mS mK mD mN mO mB mM mF) → va_S A s.heap H locs → lv_has ls 6 [(0, .ref (h 0)), (1, .int v1), (2, .int v2)] → X8_where_b81 N k27 mG mK mH v1 v2 s0 = some u → W p l e ({ frames := 1, cells := 0, slots := 0, locals := 25 } : Room) s m args below meth c H locs 0 0 (MQ below (zQi D A (zWM cI cJ cZ h mG u.2 mR mW mS mK mD mN mO mB mM mF) (u.1)) args s 0 0 A) (F0 m 81 ls [.int s0]) := by
  intro mH v1 v2 s0 H locs ls hP hD hS hl hf
  obtain ⟨hx, hb, hml, hown, hts, hK, hr, hlocks, hA⟩ := id hC
  unfold X8_where_b81 at hf
  refine lv_istore_n (lv' := [(3, .int s0), (0, .ref (h 0)), (1, .int v1), (2, .int v2)]) hx hb dX8_where_81 rfl hl (by decide) rfl (fun ls hl => ?_)
  refine lv_goto (tgt := 27) hx hb dX8_where_82 (by decide) ?_
  exact hk27 mH v1 v2 s0 H locs ls hP hD hS (lv_sub hl [1, 2, 3, 0] rfl) hf
set_option maxHeartbeats 4000000 in
set_option maxRecDepth 100000 in
theorem t_X8_where_b54 {p : Program} {l : Launch} {e : Env} {s : State} {m : MethodId} {args : Array Value} {below : List Frame} {meth : Method} {c : Code} {A : Nat → Prop} {D : va_G} {cI cJ cZ : ClassId} {h : Nat → Nat} (hC : zCx p s m args meth c A D (zty cI cJ cZ) cX8_where RX8 6 (some .int)) (N : Nat) {mG : tmG} {mR : tmR} {mW : tmW} {mS : tmS} {mK : tmK} {mD : tmD} {mN : tmN} {mO : tmO} {mB : tmB} {mM : tmM} {mF : tmF} {u : Int32 × tmH} (k27 : tmH → Int32 → Int32 → Int32 → Option (Int32 × tmH)) (hk27 : ∀ (mH : tmH) (v1 : Int32) (v2 : Int32) (v3 : Int32) (H : Heap) (locs : List Loc) (ls : Array Slot), va_P D vwCl (zWM cI cJ cZ h mG mH mR mW mS mK mD mN mO mB mM mF) H → va_D A (zWM cI cJ cZ h mG mH mR mW mS mK mD mN mO mB mM mF) → va_S A s.heap H locs → lv_has ls 6 [(0, .ref (h 0)), (1, .int v1), (2, .int v2), (3, .int v3)] → k27 mH v1 v2 v3 = some u → W p l e ({ frames := 1, cells := 0, slots := 0, locals := 25 } : Room) s m args below meth c H locs 0 0 (MQ below (zQi D A (zWM cI cJ cZ h mG u.2 mR mW mS mK mD mN mO mB mM mF) (u.1)) args s 0 0 A) (F0 m 27 ls [])) : ∀ (mH : tmH) (v3 : Int32) (H : Heap) (locs : List Loc) (ls : Array Slot), va_P D vwCl (zWM cI cJ cZ h mG mH mR mW mS mK mD mN mO mB mM mF) H → va_D A (zWM cI cJ cZ h mG mH mR mW mS mK mD mN mO mB mM mF) → va_S A s.heap H locs → lv_has ls 6 [(3, .int v3)] → X8_where_b54 N k27 mG mK mH v3 = some u → W p l e ({ frames := 1, cells := 0, slots := 0, locals := 25 } : Room) s m args below meth c H locs 0 0 (MQ below (zQi D A (zWM cI cJ cZ h mG u.2 mR mW mS mK mD mN mO mB mM mF) (u.1)) args s 0 0 A) (F0 m 54 ls []) := by
  intro mH v3 H locs ls hP hD hS hl hf
  obtain ⟨hx, hb, hml, hown, hts, hK, hr, hlocks, hA⟩ := id hC
  unfold X8_where_b54 at hf
  refine lv_bipush (v := -2) hx hb dX8_where_54 (by decide) ?_
  refine lv_iload_n hx hb dX8_where_56 rfl (lv_at hl 0 rfl) ?_
  refine lv_isub hx hb dX8_where_57 ?_
  have hu := Option.some.inj hf
  subst hu
  exact z_iret hC hP hD hS dX8_where_58
set_option maxHeartbeats 4000000 in
set_option maxRecDepth 100000 in
theorem t_X8_where_b27 {p : Program} {l : Launch} {e : Env} {s : State} {m : MethodId} {args : Array Value} {below : List Frame} {meth : Method} {c : Code} {A : Nat → Prop} {D : va_G} {cI cJ cZ : ClassId} {h : Nat → Nat} (hC : zCx p s m args meth c A D (zty cI cJ cZ) cX8_where RX8 6 (some .int)) (N : Nat) (mG : tmG) (mR : tmR) (mW : tmW) (mS : tmS) (mK : tmK) (mD : tmD) (mN : tmN) (mO : tmO) (mB : tmB) (mM : tmM) (mF : tmF) (u : Int32 × tmH) : ∀ (n : Nat) (mH : tmH) (v1 : Int32) (v2 : Int32) (v3 : Int32) (H : Heap) (locs : List Loc) (ls : Array Slot), va_P D vwCl (zWM cI cJ cZ h mG mH mR mW mS mK mD mN mO mB mM mF) H → va_D A (zWM cI cJ cZ h mG mH mR mW mS mK mD mN mO mB mM mF) → va_S A s.heap H locs → lv_has ls 6 [(0, .ref (h 0)), (1, .int v1), (2, .int v2), (3, .int v3)] → X8_where_b27 N mG mK n mH v1 v2 v3 = some u → W p l e ({ frames := 1, cells := 0, slots := 0, locals := 25 } : Room) s m args below meth c H locs 0 0 (MQ below (zQi D A (zWM cI cJ cZ h mG u.2 mR mW mS mK mD mN mO mB mM mF) (u.1)) args s 0 0 A) (F0 m 27 ls []) := by
  intro n
  induction n with
  | zero =>
    intro mH v1 v2 v3 H locs ls hP hD hS hl hf
    cases hf
  | succ n ih =>
    intro mH v1 v2 v3 H locs ls hP hD hS hl hf
    obtain ⟨hx, hb, hml, hown, hts, hK, hr, hlocks, hA⟩ := id hC
    rw [X8_where_b27] at hf
    refine lv_iload_n hx hb dX8_where_27 rfl (lv_at hl 3 rfl) ?_
    refine lv_if_lt (tgt := 85) hx hb dX8_where_28 (by decide) (fun c1 => ?_) (fun c1 => ?_)
    · replace hf := zif_t hf c1
      exact t_X8_where_b85 hC N mG mR mW mS mK mD mN mO mB mM mF u mH v3 H locs ls hP hD hS (lv_sub hl [3] rfl) hf
    · replace hf := zif_f hf c1
      refine lv_aload_n hx hb dX8_where_31 rfl (lv_at hl 0 rfl) ?_
      refine lv_aload_n hx hb dX8_where_32 rfl (lv_at hl 0 rfl) ?_
      refine va_get (D := D) (ci := 8) (v := .ref (h 18)) (C := RX8) (T := TX8) (N := 56) hx hb hts tb_wsX80 hown hK.1 hP 0 rfl rfl 25 (by decide) (hts _ tb_6_0) (fun _ h9 => h9) rfl dX8_where_33 ?_
      refine lv_iload_n hx hb dX8_where_36 rfl (lv_at hl 3 rfl) ?_
      obtain ⟨h2, hf⟩ := zck_s hf
      refine va_iald hx hb hK.1 hP 18 0 rfl rfl h2 dX8_where_37 ?_
      refine lv_iload_n hx hb dX8_where_38 rfl (lv_at hl 1 rfl) ?_
      refine lv_i2l (v := v1.toInt64) hx hb dX8_where_39 rfl ?_
      refine lv_iload_n hx hb dX8_where_40 rfl (lv_at hl 2 rfl) ?_
      refine lv_i2l (v := v2.toInt64) hx hb dX8_where_41 rfl ?_
      obtain ⟨u3, hu3, hf⟩ := zbd hf
      refine zthen_l hA hD hS (zrunV (As := [.int ((tmK.kPiece mK) v3.toNatClampNeg), .long v1.toInt64, .long v2.toInt64]) (rest := []) hC hP hD 0 rfl rfl (c_X8_side l D cI cJ cZ h  mG mH mR mW mS mK mD mN mO mB mM mF ((tmK.kPiece mK) v3.toNatClampNeg) v1.toInt64 v2.toInt64 u3 hu3 H.size) kRX8_153 rfl rfl ⟨by decide, by decide⟩ rfl hl.1 rfl (Nat.le_of_ble_eq_true rfl) dX8_where_42) (fun H locs hP hD hS => ?_)
      refine lv_lstore (lv' := [(4, .long u3), (0, .ref (h 0)), (1, .int v1), (2, .int v2), (3, .int v3)]) hx hb dX8_where_45 hl (by decide) rfl (fun ls hl => ?_)
      refine lv_lload hx hb dX8_where_47 (lv_at hl 0 rfl) ?_
      refine lv_lconst (v := 0) hx hb dX8_where_49 (by decide) ?_
      refine W.lcmp hx hb dX8_where_50 ?_
      refine lv_if_ne (tgt := 59) hx hb dX8_where_51 (by decide) (fun c4 => ?_) (fun c4 => ?_)
      · replace hf := zif_f hf c4
        refine lv_lload hx hb dX8_where_59 (lv_at hl 0 rfl) ?_
        refine lv_lconst (v := 0) hx hb dX8_where_61 (by decide) ?_
        refine W.lcmp hx hb dX8_where_62 ?_
        refine lv_if_le (tgt := 75) hx hb dX8_where_63 (by decide) (fun c5 => ?_) (fun c5 => ?_)
        · replace hf := zif_t hf c5
          refine lv_aload_n hx hb dX8_where_75 rfl (lv_at hl 1 rfl) ?_
          refine va_get (D := D) (ci := 8) (v := .ref (h 22)) (C := RX8) (T := TX8) (N := 56) hx hb hts tb_wsX80 hown hK.1 hP 0 rfl rfl 29 (by decide) (hts _ tb_6_4) (fun _ h9 => h9) rfl dX8_where_76 ?_
          refine lv_iload_n hx hb dX8_where_79 rfl (lv_at hl 4 rfl) ?_
          obtain ⟨h6, hf⟩ := zck_s hf
          refine va_iald hx hb hK.1 hP 22 0 rfl rfl h6 dX8_where_80 ?_
          exact t_X8_where_b81 hC N (X8_where_b27 N mG mK n) ih  mH v1 v2 ((tmK.kBack mK) v3.toNatClampNeg) H locs ls hP hD hS (lv_sub hl [1, 2, 3] rfl) hf
        · replace hf := zif_f hf c5
          refine lv_aload_n hx hb dX8_where_66 rfl (lv_at hl 1 rfl) ?_
          refine va_get (D := D) (ci := 8) (v := .ref (h 21)) (C := RX8) (T := TX8) (N := 56) hx hb hts tb_wsX80 hown hK.1 hP 0 rfl rfl 28 (by decide) (hts _ tb_6_3) (fun _ h9 => h9) rfl dX8_where_67 ?_
          refine lv_iload_n hx hb dX8_where_70 rfl (lv_at hl 4 rfl) ?_
          obtain ⟨h7, hf⟩ := zck_s hf
          refine va_iald hx hb hK.1 hP 21 0 rfl rfl h7 dX8_where_71 ?_
          refine lv_goto (tgt := 81) hx hb dX8_where_72 (by decide) ?_
          exact t_X8_where_b81 hC N (X8_where_b27 N mG mK n) ih  mH v1 v2 ((tmK.kFront mK) v3.toNatClampNeg) H locs ls hP hD hS (lv_sub hl [1, 2, 3] rfl) hf
      · replace hf := zif_t hf c4
        exact t_X8_where_b54 hC N (X8_where_b27 N mG mK n) ih  mH v3 H locs ls hP hD hS (lv_sub hl [4] rfl) hf
set_option maxHeartbeats 4000000 in
set_option maxRecDepth 100000 in
theorem c_X8_where (l : Launch) (D : va_G) (cI cJ cZ : ClassId) (h : Nat → Nat) (N : Nat) (mG : tmG) (mH : tmH) (mR : tmR) (mW : tmW) (mS : tmS) (mK : tmK) (mD : tmD) (mN : tmN) (mO : tmO) (mB : tmB) (mM : tmM) (mF : tmF) (a1 : Int32) (a2 : Int32) (u : Int32 × tmH) (hf : X8_where N mG mH mK a1 a2 = some u) (sz : Nat) : Met l yX8_where (Cond.code yX8_where cX8_where 6 (some .int) :: tb_L) ({ frames := 1, cells := 0, slots := 0, locals := 25 } : Room) (zPre D (zty cI cJ cZ) (zWM cI cJ cZ h mG mH mR mW mS mK mD mN mO mB mM mF) sz [.ref (h 0), .int a1, .int a2]) (zQi D (va_A (zWM cI cJ cZ h mG mH mR mW mS mK mD mN mO mB mM mF) sz) (zWM cI cJ cZ h mG u.2 mR mW mS mK mD mN mO mB mM mF) (u.1)) 0 0 (va_A (zWM cI cJ cZ h mG mH mR mW mS mK mD mN mO mB mM mF) sz) := by
  refine zMet (Qc := fun A => zQi D A (zWM cI cJ cZ h mG u.2 mR mW mS mK mD mN mO mB mM mF) (u.1)) (by decide) rfl (Nat.le_of_ble_eq_true rfl) ?_
  intro p e s m args below meth c A ls hC _ hP hD hS hl
  replace hl : lv_has ls 6 [(0, .ref (h 0)), (1, .int a1), (2, .int a2)] := hl
  obtain ⟨hx, hb, hml, hown, hts, hK, hr, hlocks, hA⟩ := id hC
  unfold X8_where at hf
  obtain ⟨H, hH⟩ : ∃ H, H = s.heap := ⟨_, rfl⟩
  rw [← hH] at hP
  replace hS : va_S A s.heap H [] := by rw [hH]; exact hS
  show W p l e _ s m args below meth c s.heap [] 0 0 _ _
  rw [← hH]
  clear hH
  obtain ⟨locs, hlo⟩ : ∃ x : List Loc, x = [] := ⟨_, rfl⟩
  rw [← hlo] at hS ⊢
  clear hlo
  refine lv_aload_n hx hb dX8_where_0 rfl (lv_at hl 0 rfl) ?_
  refine lv_iconst (v := 0) hx hb dX8_where_1 (by decide) ?_
  refine va_put (D := D) (ci := 8) (v := .int (0 : Int32)) (ty := .int) (C := RX8) (T := TX8) (N := 56) hx hb hts tb_wsX80 tyX8 tyX8_ok nmX8 hown hK.1 hP hD hS 0 rfl rfl 5 (by decide) (hts _ tb_8_3) (fun _ h9 => h9) rfl (by decide +kernel) rfl rfl (Nat.le_of_ble_eq_true rfl) dX8_where_2 (fun H locs hP hD hS => ?_)
  replace hP : va_P D vwCl (zWM cI cJ cZ h mG (tmH.s_thrown mH (0 : Int32)) mR mW mS mK mD mN mO mB mM mF) H := hP
  replace hD : va_D A (zWM cI cJ cZ h mG (tmH.s_thrown mH (0 : Int32)) mR mW mS mK mD mN mO mB mM mF) := hD
  refine lv_aload_n hx hb dX8_where_5 rfl (lv_at hl 0 rfl) ?_
  refine va_get (D := D) (ci := 8) (v := .int (tmK.isTree mK)) (C := RX8) (T := TX8) (N := 56) hx hb hts tb_wsX80 hown hK.1 hP 0 rfl rfl 21 (by decide) (hts _ tb_8_12) (fun _ h9 => h9) rfl dX8_where_6 ?_
  refine lv_if_eq (tgt := 20) hx hb dX8_where_9 (by decide) (fun c8 => ?_) (fun c8 => ?_)
  · replace hf := zif_t hf c8
    refine lv_iconst (v := -1) hx hb dX8_where_20 (by decide) ?_
    have hu := Option.some.inj hf
    subst hu
    exact z_iret hC hP hD hS dX8_where_21
  · replace hf := zif_f hf c8
    refine lv_iload_n hx hb dX8_where_12 rfl (lv_at hl 1 rfl) ?_
    refine lv_iload_n hx hb dX8_where_13 rfl (lv_at hl 2 rfl) ?_
    obtain ⟨u9, hu9, hf⟩ := zbd hf
    refine zthen_i hA hD hS (zrunS (As := [.int a1, .int a2]) (rest := []) hC hP hD (c_X8_isPlace l D cI cJ cZ h  mG (tmH.s_thrown mH (0 : Int32)) mR mW mS mK mD mN mO mB mM mF a1 a2 u9 hu9 H.size) kRX8_130 rfl rfl ⟨by decide, by decide⟩ rfl hl.1 rfl (Nat.le_of_ble_eq_true rfl) dX8_where_14) (fun H locs hP hD hS => ?_)
    refine lv_if_ne (tgt := 22) hx hb dX8_where_17 (by decide) (fun c10 => ?_) (fun c10 => ?_)
    · replace hf := zif_f hf c10
      refine lv_aload_n hx hb dX8_where_22 rfl (lv_at hl 0 rfl) ?_
      refine va_get (D := D) (ci := 8) (v := .int (tmK.top mK)) (C := RX8) (T := TX8) (N := 56) hx hb hts tb_wsX80 hown hK.1 hP 0 rfl rfl 31 (by decide) (hts _ tb_14_22) (fun _ h9 => h9) rfl dX8_where_23 ?_
      refine lv_topi (fun x11 ex11 => ?_)
      replace hf := zl_n ex11 hf
      refine lv_istore_n (lv' := [(3, .int x11), (0, .ref (h 0)), (1, .int a1), (2, .int a2)]) hx hb dX8_where_26 rfl hl (by decide) rfl (fun ls hl => ?_)
      exact t_X8_where_b27 hC N mG mR mW mS mK mD mN mO mB mM mF u N (tmH.s_thrown mH (0 : Int32)) a1 a2 x11 H locs ls hP hD hS (lv_sub hl [1, 2, 3, 0] rfl) hf
    · replace hf := zif_t hf c10
      refine lv_iconst (v := -1) hx hb dX8_where_20 (by decide) ?_
      have hu := Option.some.inj hf
      subst hu
      exact z_iret hC hP hD hS dX8_where_21
set_option maxHeartbeats 4000000 in
set_option maxRecDepth 100000 in
theorem t_X8_order_b257 {p : Program} {l : Launch} {e : Env} {s : State} {m : MethodId} {args : Array Value} {below : List Frame} {meth : Method} {c : Code} {A : Nat → Prop} {D : va_G} {cI cJ cZ : ClassId} {h : Nat → Nat} (hC : zCx p s m args meth c A D (zty cI cJ cZ) cX8_order RX8 6 (some .int)) (N : Nat) (mG : tmG) (mR : tmR) (mW : tmW) (mS : tmS) (mK : tmK) (mD : tmD) (mN : tmN) (mO : tmO) (mM : tmM) (mF : tmF) (u : Int32 × tmH × tmB) : ∀ (mH : tmH) (mB : tmB) (H : Heap) (locs : List Loc) (ls : Array Slot), va_P D vwCl (zWM cI cJ cZ h mG mH mR mW mS mK mD mN mO mB mM mF) H → va_D A (zWM cI cJ cZ h mG mH mR mW mS mK mD mN mO mB mM mF) → va_S A s.heap H locs → lv_has ls 6 [(0, .ref (h 0))] → X8_order_b257 N mG mK mH mB = some u → W p l e ({ frames := 1, cells := 0, slots := 0, locals := 25 } : Room) s m args below meth c H locs 0 0 (MQ below (zQi D A (zWM cI cJ cZ h mG u.2.1 mR mW mS mK mD mN mO u.2.2 mM mF) (u.1)) args s 0 0 A) (F0 m 257 ls []) := by
  intro mH mB H locs ls hP hD hS hl hf
  obtain ⟨hx, hb, hml, hown, hts, hK, hr, hlocks, hA⟩ := id hC
  unfold X8_order_b257 at hf
  refine lv_aload_n hx hb dX8_order_257 rfl (lv_at hl 0 rfl) ?_
  refine va_get (D := D) (ci := 8) (v := .int (tmB.toldMany mB)) (C := RX8) (T := TX8) (N := 56) hx hb hts tb_wsX80 hown hK.1 hP 0 rfl rfl 42 (by decide) (hts _ tb_8_16) (fun _ h9 => h9) rfl dX8_order_258 ?_
  have hu := Option.some.inj hf
  subst hu
  exact z_iret hC hP hD hS dX8_order_261
set_option maxHeartbeats 4000000 in
set_option maxRecDepth 100000 in
theorem t_X8_order_b241 {p : Program} {l : Launch} {e : Env} {s : State} {m : MethodId} {args : Array Value} {below : List Frame} {meth : Method} {c : Code} {A : Nat → Prop} {D : va_G} {cI cJ cZ : ClassId} {h : Nat → Nat} (hC : zCx p s m args meth c A D (zty cI cJ cZ) cX8_order RX8 6 (some .int)) (N : Nat) {mG : tmG} {mR : tmR} {mW : tmW} {mS : tmS} {mK : tmK} {mD : tmD} {mN : tmN} {mO : tmO} {mM : tmM} {mF : tmF} {u : Int32 × tmH × tmB} (k46 : tmH → tmB → Int32 → Int32 → Int32 → Option (Int32 × tmH × tmB)) (hk46 : ∀ (mH : tmH) (mB : tmB) (v1 : Int32) (v2 : Int32) (v3 : Int32) (H : Heap) (locs : List Loc) (ls : Array Slot), va_P D vwCl (zWM cI cJ cZ h mG mH mR mW mS mK mD mN mO mB mM mF) H → va_D A (zWM cI cJ cZ h mG mH mR mW mS mK mD mN mO mB mM mF) → va_S A s.heap H locs → lv_has ls 6 [(0, .ref (h 0)), (1, .int v1), (2, .int v2), (3, .int v3)] → k46 mH mB v1 v2 v3 = some u → W p l e ({ frames := 1, cells := 0, slots := 0, locals := 25 } : Room) s m args below meth c H locs 0 0 (MQ below (zQi D A (zWM cI cJ cZ h mG u.2.1 mR mW mS mK mD mN mO u.2.2 mM mF) (u.1)) args s 0 0 A) (F0 m 46 ls [])) : ∀ (mH : tmH) (mB : tmB) (v1 : Int32) (v2 : Int32) (v3 : Int32) (s0 : Int32) (s1 : Int32) (H : Heap) (locs : List Loc) (ls : Array Slot), va_P D vwCl (zWM cI cJ cZ h mG mH mR mW mS mK mD mN mO mB mM mF) H → va_D A (zWM cI cJ cZ h mG mH mR mW mS mK mD mN mO mB mM mF) → va_S A s.heap H locs → lv_has ls 6 [(0, .ref (h 0)), (1, .int v1), (2, .int v2), (3, .int v3)] → X8_order_b241 N k46 mG mK mH mB v1 v2 v3 s0 s1 = some u → W p l e ({ frames := 1, cells := 0, slots := 0, locals := 25 } : Room) s m args below meth c H locs 0 0 (MQ below (zQi D A (zWM cI cJ cZ h mG u.2.1 mR mW mS mK mD mN mO u.2.2 mM mF) (u.1)) args s 0 0 A) (F0 m 241 ls [.int s0, .int s1, .ref (h 32)]) := by
  intro mH mB v1 v2 v3 s0 s1 H locs ls hP hD hS hl hf
  obtain ⟨hx, hb, hml, hown, hts, hK, hr, hlocks, hA⟩ := id hC
  unfold X8_order_b241 at hf
  obtain ⟨h1, hf⟩ := zck_s hf
  refine va_iast hx hb hK.1 hP hD hS 32 0 rfl rfl h1 dX8_order_241 (fun H locs hP hD hS => ?_)
  replace hP : va_P D vwCl (zWM cI cJ cZ h mG mH mR mW mS mK mD mN mO (tmB.s_oKnot mB (upd (tmB.oKnot mB) s1.toNatClampNeg s0)) mM mF) H := hP
  replace hD : va_D A (zWM cI cJ cZ h mG mH mR mW mS mK mD mN mO (tmB.s_oKnot mB (upd (tmB.oKnot mB) s1.toNatClampNeg s0)) mM mF) := hD
  refine lv_aload_n hx hb dX8_order_242 rfl (lv_at hl 0 rfl) ?_
  refine va_get (D := D) (ci := 8) (v := .ref (h 33)) (C := RX8) (T := TX8) (N := 56) hx hb hts tb_wsX80 hown hK.1 hP 0 rfl rfl 44 (by decide) (hts _ tb_6_15) (fun _ h9 => h9) rfl dX8_order_243 ?_
  refine lv_iload_n hx hb dX8_order_246 rfl (lv_at hl 3 rfl) ?_
  refine lv_iconst (v := 2) hx hb dX8_order_247 (by decide) ?_
  refine lv_iadd hx hb dX8_order_248 ?_
  refine lv_iconst (v := 0) hx hb dX8_order_249 (by decide) ?_
  obtain ⟨h2, hf⟩ := zck_s hf
  refine va_zast hx hb hK.1 hP hD hS 33 2 rfl rfl h2 dX8_order_250 (fun H locs hP hD hS => ?_)
  replace hP : va_P D vwCl (zWM cI cJ cZ h mG mH mR mW mS mK mD mN mO (tmB.s_oParts (tmB.s_oKnot mB (upd (tmB.oKnot mB) s1.toNatClampNeg s0)) (upd (tmB.oParts mB) (v3 + (2 : Int32)).toNatClampNeg (vp_nar .boolean (0 : Int32)))) mM mF) H := hP
  replace hD : va_D A (zWM cI cJ cZ h mG mH mR mW mS mK mD mN mO (tmB.s_oParts (tmB.s_oKnot mB (upd (tmB.oKnot mB) s1.toNatClampNeg s0)) (upd (tmB.oParts mB) (v3 + (2 : Int32)).toNatClampNeg (vp_nar .boolean (0 : Int32)))) mM mF) := hD
  refine lv_iinc (v := (v3 + (3 : Int32))) (lv' := [(3, .int (v3 + (3 : Int32))), (0, .ref (h 0)), (1, .int v1), (2, .int v2)]) hx hb dX8_order_251 hl (k := 3) rfl rfl (by decide) rfl (fun ls hl => ?_)
  refine lv_goto (tgt := 46) hx hb dX8_order_254 (by decide) ?_
  exact hk46 mH (tmB.s_oParts (tmB.s_oKnot mB (upd (tmB.oKnot mB) s1.toNatClampNeg s0)) (upd (tmB.oParts mB) (v3 + (2 : Int32)).toNatClampNeg (vp_nar .boolean (0 : Int32)))) v1 v2 (v3 + (3 : Int32)) H locs ls hP hD hS (lv_sub hl [1, 2, 3, 0] rfl) hf
set_option maxHeartbeats 4000000 in
set_option maxRecDepth 100000 in
theorem t_X8_order_b185 {p : Program} {l : Launch} {e : Env} {s : State} {m : MethodId} {args : Array Value} {below : List Frame} {meth : Method} {c : Code} {A : Nat → Prop} {D : va_G} {cI cJ cZ : ClassId} {h : Nat → Nat} (hC : zCx p s m args meth c A D (zty cI cJ cZ) cX8_order RX8 6 (some .int)) (N : Nat) {mG : tmG} {mR : tmR} {mW : tmW} {mS : tmS} {mK : tmK} {mD : tmD} {mN : tmN} {mO : tmO} {mM : tmM} {mF : tmF} {u : Int32 × tmH × tmB} (k46 : tmH → tmB → Int32 → Int32 → Int32 → Option (Int32 × tmH × tmB)) (hk46 : ∀ (mH : tmH) (mB : tmB) (v1 : Int32) (v2 : Int32) (v3 : Int32) (H : Heap) (locs : List Loc) (ls : Array Slot), va_P D vwCl (zWM cI cJ cZ h mG mH mR mW mS mK mD mN mO mB mM mF) H → va_D A (zWM cI cJ cZ h mG mH mR mW mS mK mD mN mO mB mM mF) → va_S A s.heap H locs → lv_has ls 6 [(0, .ref (h 0)), (1, .int v1), (2, .int v2), (3, .int v3)] → k46 mH mB v1 v2 v3 = some u → W p l e ({ frames := 1, cells := 0, slots := 0, locals := 25 } : Room) s m args below meth c H locs 0 0 (MQ below (zQi D A (zWM cI cJ cZ h mG u.2.1 mR mW mS mK mD mN mO u.2.2 mM mF) (u.1)) args s 0 0 A) (F0 m 46 ls [])) : ∀ (mH : tmH) (mB : tmB) (v1 : Int32) (v2 : Int32) (v3 : Int32) (v4 : Int32) (v5 : Int32) (s0 : Int32) (s1 : Int32) (H : Heap) (locs : List Loc) (ls : Array Slot), va_P D vwCl (zWM cI cJ cZ h mG mH mR mW mS mK mD mN mO mB mM mF) H → va_D A (zWM cI cJ cZ h mG mH mR mW mS mK mD mN mO mB mM mF) → va_S A s.heap H locs → lv_has ls 6 [(0, .ref (h 0)), (1, .int v1), (2, .int v2), (3, .int v3), (4, .int v4), (5, .int v5)] → X8_order_b185 N k46 mG mK mH mB v1 v2 v3 v4 v5 s0 s1 = some u → W p l e ({ frames := 1, cells := 0, slots := 0, locals := 25 } : Room) s m args below meth c H locs 0 0 (MQ below (zQi D A (zWM cI cJ cZ h mG u.2.1 mR mW mS mK mD mN mO u.2.2 mM mF) (u.1)) args s 0 0 A) (F0 m 185 ls [.int s0, .int s1, .ref (h 32)]) := by
  intro mH mB v1 v2 v3 v4 v5 s0 s1 H locs ls hP hD hS hl hf
  obtain ⟨hx, hb, hml, hown, hts, hK, hr, hlocks, hA⟩ := id hC
  unfold X8_order_b185 at hf
  obtain ⟨h3, hf⟩ := zck_s hf
  refine va_iast hx hb hK.1 hP hD hS 32 0 rfl rfl h3 dX8_order_185 (fun H locs hP hD hS => ?_)
  replace hP : va_P D vwCl (zWM cI cJ cZ h mG mH mR mW mS mK mD mN mO (tmB.s_oKnot mB (upd (tmB.oKnot mB) s1.toNatClampNeg s0)) mM mF) H := hP
  replace hD : va_D A (zWM cI cJ cZ h mG mH mR mW mS mK mD mN mO (tmB.s_oKnot mB (upd (tmB.oKnot mB) s1.toNatClampNeg s0)) mM mF) := hD
  refine lv_aload_n hx hb dX8_order_186 rfl (lv_at hl 0 rfl) ?_
  refine va_get (D := D) (ci := 8) (v := .ref (h 33)) (C := RX8) (T := TX8) (N := 56) hx hb hts tb_wsX80 hown hK.1 hP 0 rfl rfl 44 (by decide) (hts _ tb_6_15) (fun _ h9 => h9) rfl dX8_order_187 ?_
  refine lv_iload_n hx hb dX8_order_190 rfl (lv_at hl 3 rfl) ?_
  refine lv_iconst (v := 0) hx hb dX8_order_191 (by decide) ?_
  obtain ⟨h4, hf⟩ := zck_s hf
  refine va_zast hx hb hK.1 hP hD hS 33 2 rfl rfl h4 dX8_order_192 (fun H locs hP hD hS => ?_)
  replace hP : va_P D vwCl (zWM cI cJ cZ h mG mH mR mW mS mK mD mN mO (tmB.s_oParts (tmB.s_oKnot mB (upd (tmB.oKnot mB) s1.toNatClampNeg s0)) (upd (tmB.oParts mB) v3.toNatClampNeg (vp_nar .boolean (0 : Int32)))) mM mF) H := hP
  replace hD : va_D A (zWM cI cJ cZ h mG mH mR mW mS mK mD mN mO (tmB.s_oParts (tmB.s_oKnot mB (upd (tmB.oKnot mB) s1.toNatClampNeg s0)) (upd (tmB.oParts mB) v3.toNatClampNeg (vp_nar .boolean (0 : Int32)))) mM mF) := hD
  refine lv_aload_n hx hb dX8_order_193 rfl (lv_at hl 0 rfl) ?_
  refine va_get (D := D) (ci := 8) (v := .ref (h 32)) (C := RX8) (T := TX8) (N := 56) hx hb hts tb_wsX80 hown hK.1 hP 0 rfl rfl 43 (by decide) (hts _ tb_6_14) (fun _ h9 => h9) rfl dX8_order_194 ?_
  refine lv_iload_n hx hb dX8_order_197 rfl (lv_at hl 3 rfl) ?_
  refine lv_iconst (v := 1) hx hb dX8_order_198 (by decide) ?_
  refine lv_iadd hx hb dX8_order_199 ?_
  refine lv_iload hx hb dX8_order_200 (lv_at hl 4 rfl) ?_
  obtain ⟨h5, hf⟩ := zck_s hf
  refine va_iast hx hb hK.1 hP hD hS 32 0 rfl rfl h5 dX8_order_202 (fun H locs hP hD hS => ?_)
  replace hP : va_P D vwCl (zWM cI cJ cZ h mG mH mR mW mS mK mD mN mO (tmB.s_oParts (tmB.s_oKnot mB (upd (upd (tmB.oKnot mB) s1.toNatClampNeg s0) (v3 + (1 : Int32)).toNatClampNeg v4)) (upd (tmB.oParts mB) v3.toNatClampNeg (vp_nar .boolean (0 : Int32)))) mM mF) H := hP
  replace hD : va_D A (zWM cI cJ cZ h mG mH mR mW mS mK mD mN mO (tmB.s_oParts (tmB.s_oKnot mB (upd (upd (tmB.oKnot mB) s1.toNatClampNeg s0) (v3 + (1 : Int32)).toNatClampNeg v4)) (upd (tmB.oParts mB) v3.toNatClampNeg (vp_nar .boolean (0 : Int32)))) mM mF) := hD
  refine lv_aload_n hx hb dX8_order_203 rfl (lv_at hl 0 rfl) ?_
  refine va_get (D := D) (ci := 8) (v := .ref (h 33)) (C := RX8) (T := TX8) (N := 56) hx hb hts tb_wsX80 hown hK.1 hP 0 rfl rfl 44 (by decide) (hts _ tb_6_15) (fun _ h9 => h9) rfl dX8_order_204 ?_
  refine lv_iload_n hx hb dX8_order_207 rfl (lv_at hl 3 rfl) ?_
  refine lv_iconst (v := 1) hx hb dX8_order_208 (by decide) ?_
  refine lv_iadd hx hb dX8_order_209 ?_
  refine lv_iconst (v := 1) hx hb dX8_order_210 (by decide) ?_
  obtain ⟨h6, hf⟩ := zck_s hf
  refine va_zast hx hb hK.1 hP hD hS 33 2 rfl rfl h6 dX8_order_211 (fun H locs hP hD hS => ?_)
  replace hP : va_P D vwCl (zWM cI cJ cZ h mG mH mR mW mS mK mD mN mO (tmB.s_oParts (tmB.s_oKnot mB (upd (upd (tmB.oKnot mB) s1.toNatClampNeg s0) (v3 + (1 : Int32)).toNatClampNeg v4)) (upd (upd (tmB.oParts mB) v3.toNatClampNeg (vp_nar .boolean (0 : Int32))) (v3 + (1 : Int32)).toNatClampNeg (vp_nar .boolean (1 : Int32)))) mM mF) H := hP
  replace hD : va_D A (zWM cI cJ cZ h mG mH mR mW mS mK mD mN mO (tmB.s_oParts (tmB.s_oKnot mB (upd (upd (tmB.oKnot mB) s1.toNatClampNeg s0) (v3 + (1 : Int32)).toNatClampNeg v4)) (upd (upd (tmB.oParts mB) v3.toNatClampNeg (vp_nar .boolean (0 : Int32))) (v3 + (1 : Int32)).toNatClampNeg (vp_nar .boolean (1 : Int32)))) mM mF) := hD
  refine lv_aload_n hx hb dX8_order_212 rfl (lv_at hl 0 rfl) ?_
  refine va_get (D := D) (ci := 8) (v := .ref (h 32)) (C := RX8) (T := TX8) (N := 56) hx hb hts tb_wsX80 hown hK.1 hP 0 rfl rfl 43 (by decide) (hts _ tb_6_14) (fun _ h9 => h9) rfl dX8_order_213 ?_
  refine lv_iload_n hx hb dX8_order_216 rfl (lv_at hl 3 rfl) ?_
  refine lv_iconst (v := 2) hx hb dX8_order_217 (by decide) ?_
  refine lv_iadd hx hb dX8_order_218 ?_
  refine lv_iload hx hb dX8_order_219 (lv_at hl 5 rfl) ?_
  refine lv_if_eq (tgt := 234) hx hb dX8_order_221 (by decide) (fun c7 => ?_) (fun c7 => ?_)
  · replace hf := zif_t hf c7
    refine lv_aload_n hx hb dX8_order_234 rfl (lv_at hl 0 rfl) ?_
    refine va_get (D := D) (ci := 8) (v := .ref (h 21)) (C := RX8) (T := TX8) (N := 56) hx hb hts tb_wsX80 hown hK.1 hP 0 rfl rfl 28 (by decide) (hts _ tb_6_3) (fun _ h9 => h9) rfl dX8_order_235 ?_
    refine lv_iload hx hb dX8_order_238 (lv_at hl 4 rfl) ?_
    obtain ⟨h8, hf⟩ := zck_s hf
    refine va_iald hx hb hK.1 hP 21 0 rfl rfl h8 dX8_order_240 ?_
    exact t_X8_order_b241 hC N k46 hk46  mH (tmB.s_oParts (tmB.s_oKnot mB (upd (upd (tmB.oKnot mB) s1.toNatClampNeg s0) (v3 + (1 : Int32)).toNatClampNeg v4)) (upd (upd (tmB.oParts mB) v3.toNatClampNeg (vp_nar .boolean (0 : Int32))) (v3 + (1 : Int32)).toNatClampNeg (vp_nar .boolean (1 : Int32)))) v1 v2 v3 ((tmK.kFront mK) v4.toNatClampNeg) (v3 + (2 : Int32)) H locs ls hP hD hS (lv_sub hl [0, 1, 2, 3] rfl) hf
  · replace hf := zif_f hf c7
    refine lv_aload_n hx hb dX8_order_224 rfl (lv_at hl 0 rfl) ?_
    refine va_get (D := D) (ci := 8) (v := .ref (h 22)) (C := RX8) (T := TX8) (N := 56) hx hb hts tb_wsX80 hown hK.1 hP 0 rfl rfl 29 (by decide) (hts _ tb_6_4) (fun _ h9 => h9) rfl dX8_order_225 ?_
    refine lv_iload hx hb dX8_order_228 (lv_at hl 4 rfl) ?_
    obtain ⟨h9, hf⟩ := zck_s hf
    refine va_iald hx hb hK.1 hP 22 0 rfl rfl h9 dX8_order_230 ?_
    refine lv_goto (tgt := 241) hx hb dX8_order_231 (by decide) ?_
    exact t_X8_order_b241 hC N k46 hk46  mH (tmB.s_oParts (tmB.s_oKnot mB (upd (upd (tmB.oKnot mB) s1.toNatClampNeg s0) (v3 + (1 : Int32)).toNatClampNeg v4)) (upd (upd (tmB.oParts mB) v3.toNatClampNeg (vp_nar .boolean (0 : Int32))) (v3 + (1 : Int32)).toNatClampNeg (vp_nar .boolean (1 : Int32)))) v1 v2 v3 ((tmK.kBack mK) v4.toNatClampNeg) (v3 + (2 : Int32)) H locs ls hP hD hS (lv_sub hl [0, 1, 2, 3] rfl) hf
set_option maxHeartbeats 4000000 in
set_option maxRecDepth 100000 in
theorem t_X8_order_b156 {p : Program} {l : Launch} {e : Env} {s : State} {m : MethodId} {args : Array Value} {below : List Frame} {meth : Method} {c : Code} {A : Nat → Prop} {D : va_G} {cI cJ cZ : ClassId} {h : Nat → Nat} (hC : zCx p s m args meth c A D (zty cI cJ cZ) cX8_order RX8 6 (some .int)) (N : Nat) {mG : tmG} {mR : tmR} {mW : tmW} {mS : tmS} {mK : tmK} {mD : tmD} {mN : tmN} {mO : tmO} {mM : tmM} {mF : tmF} {u : Int32 × tmH × tmB} (k46 : tmH → tmB → Int32 → Int32 → Int32 → Option (Int32 × tmH × tmB)) (hk46 : ∀ (mH : tmH) (mB : tmB) (v1 : Int32) (v2 : Int32) (v3 : Int32) (H : Heap) (locs : List Loc) (ls : Array Slot), va_P D vwCl (zWM cI cJ cZ h mG mH mR mW mS mK mD mN mO mB mM mF) H → va_D A (zWM cI cJ cZ h mG mH mR mW mS mK mD mN mO mB mM mF) → va_S A s.heap H locs → lv_has ls 6 [(0, .ref (h 0)), (1, .int v1), (2, .int v2), (3, .int v3)] → k46 mH mB v1 v2 v3 = some u → W p l e ({ frames := 1, cells := 0, slots := 0, locals := 25 } : Room) s m args below meth c H locs 0 0 (MQ below (zQi D A (zWM cI cJ cZ h mG u.2.1 mR mW mS mK mD mN mO u.2.2 mM mF) (u.1)) args s 0 0 A) (F0 m 46 ls [])) : ∀ (mH : tmH) (mB : tmB) (v1 : Int32) (v2 : Int32) (v3 : Int32) (v4 : Int32) (s0 : Int32) (H : Heap) (locs : List Loc) (ls : Array Slot), va_P D vwCl (zWM cI cJ cZ h mG mH mR mW mS mK mD mN mO mB mM mF) H → va_D A (zWM cI cJ cZ h mG mH mR mW mS mK mD mN mO mB mM mF) → va_S A s.heap H locs → lv_has ls 6 [(0, .ref (h 0)), (1, .int v1), (2, .int v2), (3, .int v3), (4, .int v4)] → X8_order_b156 N k46 mG mK mH mB v1 v2 v3 v4 s0 = some u → W p l e ({ frames := 1, cells := 0, slots := 0, locals := 25 } : Room) s m args below meth c H locs 0 0 (MQ below (zQi D A (zWM cI cJ cZ h mG u.2.1 mR mW mS mK mD mN mO u.2.2 mM mF) (u.1)) args s 0 0 A) (F0 m 156 ls [.int s0]) := by
  intro mH mB v1 v2 v3 v4 s0 H locs ls hP hD hS hl hf
  obtain ⟨hx, hb, hml, hown, hts, hK, hr, hlocks, hA⟩ := id hC
  unfold X8_order_b156 at hf
  refine lv_istore (lv' := [(5, .int s0), (0, .ref (h 0)), (1, .int v1), (2, .int v2), (3, .int v3), (4, .int v4)]) hx hb dX8_order_156 hl (by decide) rfl (fun ls hl => ?_)
  refine lv_aload_n hx hb dX8_order_158 rfl (lv_at hl 1 rfl) ?_
  refine va_get (D := D) (ci := 8) (v := .ref (h 32)) (C := RX8) (T := TX8) (N := 56) hx hb hts tb_wsX80 hown hK.1 hP 0 rfl rfl 43 (by decide) (hts _ tb_6_14) (fun _ h9 => h9) rfl dX8_order_159 ?_
  refine lv_iload_n hx hb dX8_order_162 rfl (lv_at hl 4 rfl) ?_
  refine lv_iload hx hb dX8_order_163 (lv_at hl 0 rfl) ?_
  refine lv_if_eq (tgt := 178) hx hb dX8_order_165 (by decide) (fun c10 => ?_) (fun c10 => ?_)
  · replace hf := zif_t hf c10
    refine lv_aload_n hx hb dX8_order_178 rfl (lv_at hl 1 rfl) ?_
    refine va_get (D := D) (ci := 8) (v := .ref (h 22)) (C := RX8) (T := TX8) (N := 56) hx hb hts tb_wsX80 hown hK.1 hP 0 rfl rfl 29 (by decide) (hts _ tb_6_4) (fun _ h9 => h9) rfl dX8_order_179 ?_
    refine lv_iload hx hb dX8_order_182 (lv_at hl 5 rfl) ?_
    obtain ⟨h11, hf⟩ := zck_s hf
    refine va_iald hx hb hK.1 hP 22 0 rfl rfl h11 dX8_order_184 ?_
    exact t_X8_order_b185 hC N k46 hk46  mH mB v1 v2 v3 v4 s0 ((tmK.kBack mK) v4.toNatClampNeg) v3 H locs ls hP hD hS (lv_sub hl [1, 2, 3, 4, 5, 0] rfl) hf
  · replace hf := zif_f hf c10
    refine lv_aload_n hx hb dX8_order_168 rfl (lv_at hl 1 rfl) ?_
    refine va_get (D := D) (ci := 8) (v := .ref (h 21)) (C := RX8) (T := TX8) (N := 56) hx hb hts tb_wsX80 hown hK.1 hP 0 rfl rfl 28 (by decide) (hts _ tb_6_3) (fun _ h9 => h9) rfl dX8_order_169 ?_
    refine lv_iload hx hb dX8_order_172 (lv_at hl 5 rfl) ?_
    obtain ⟨h12, hf⟩ := zck_s hf
    refine va_iald hx hb hK.1 hP 21 0 rfl rfl h12 dX8_order_174 ?_
    refine lv_goto (tgt := 185) hx hb dX8_order_175 (by decide) ?_
    exact t_X8_order_b185 hC N k46 hk46  mH mB v1 v2 v3 v4 s0 ((tmK.kFront mK) v4.toNatClampNeg) v3 H locs ls hP hD hS (lv_sub hl [1, 2, 3, 4, 5, 0] rfl) hf
set_option maxHeartbeats 4000000 in
set_option maxRecDepth 100000 in
theorem t_X8_order_b128 {p : Program} {l : Launch} {e : Env} {s : State} {m : MethodId} {args : Array Value} {below : List Frame} {meth : Method} {c : Code} {A : Nat → Prop} {D : va_G} {cI cJ cZ : ClassId} {h : Nat → Nat} (hC : zCx p s m args meth c A D (zty cI cJ cZ) cX8_order RX8 6 (some .int)) (N : Nat) {mG : tmG} {mR : tmR} {mW : tmW} {mS : tmS} {mK : tmK} {mD : tmD} {mN : tmN} {mO : tmO} {mM : tmM} {mF : tmF} {u : Int32 × tmH × tmB} (k46 : tmH → tmB → Int32 → Int32 → Int32 → Option (Int32 × tmH × tmB)) (hk46 : ∀ (mH : tmH) (mB : tmB) (v1 : Int32) (v2 : Int32) (v3 : Int32) (H : Heap) (locs : List Loc) (ls : Array Slot), va_P D vwCl (zWM cI cJ cZ h mG mH mR mW mS mK mD mN mO mB mM mF) H → va_D A (zWM cI cJ cZ h mG mH mR mW mS mK mD mN mO mB mM mF) → va_S A s.heap H locs → lv_has ls 6 [(0, .ref (h 0)), (1, .int v1), (2, .int v2), (3, .int v3)] → k46 mH mB v1 v2 v3 = some u → W p l e ({ frames := 1, cells := 0, slots := 0, locals := 25 } : Room) s m args below meth c H locs 0 0 (MQ below (zQi D A (zWM cI cJ cZ h mG u.2.1 mR mW mS mK mD mN mO u.2.2 mM mF) (u.1)) args s 0 0 A) (F0 m 46 ls [])) : ∀ (mH : tmH) (mB : tmB) (v1 : Int32) (v2 : Int32) (v3 : Int32) (H : Heap) (locs : List Loc) (ls : Array Slot), va_P D vwCl (zWM cI cJ cZ h mG mH mR mW mS mK mD mN mO mB mM mF) H → va_D A (zWM cI cJ cZ h mG mH mR mW mS mK mD mN mO mB mM mF) → va_S A s.heap H locs → lv_has ls 6 [(0, .ref (h 0)), (1, .int v1), (2, .int v2), (3, .int v3)] → X8_order_b128 N k46 mG mK mH mB v1 v2 v3 = some u → W p l e ({ frames := 1, cells := 0, slots := 0, locals := 25 } : Room) s m args below meth c H locs 0 0 (MQ below (zQi D A (zWM cI cJ cZ h mG u.2.1 mR mW mS mK mD mN mO u.2.2 mM mF) (u.1)) args s 0 0 A) (F0 m 128 ls []) := by
  intro mH mB v1 v2 v3 H locs ls hP hD hS hl hf
  obtain ⟨hx, hb, hml, hown, hts, hK, hr, hlocks, hA⟩ := id hC
  unfold X8_order_b128 at hf
  refine lv_goto (tgt := 46) hx hb dX8_order_128 (by decide) ?_
  exact hk46 mH mB v1 v2 v3 H locs ls hP hD hS (lv_sub hl [0, 1, 2, 3] rfl) hf
set_option maxHeartbeats 4000000 in
set_option maxRecDepth 100000 in
theorem t_X8_order_b81 {p : Program} {l : Launch} {e : Env} {s : State} {m : MethodId} {args : Array Value} {below : List Frame} {meth : Method} {c : Code} {A : Nat → Prop} {D : va_G} {cI cJ cZ : ClassId} {h : Nat → Nat} (hC : zCx p s m args meth c A D (zty cI cJ cZ) cX8_order RX8 6 (some .int)) (N : Nat) {mG : tmG} {mR : tmR} {mW : tmW} {mS : tmS} {mK : tmK} {mD : tmD} {mN : tmN} {mO : tmO} {mM : tmM} {mF : tmF} {u : Int32 × tmH × tmB} (k46 : tmH → tmB → Int32 → Int32 → Int32 → Option (Int32 × tmH × tmB)) (hk46 : ∀ (mH : tmH) (mB : tmB) (v1 : Int32) (v2 : Int32) (v3 : Int32) (H : Heap) (locs : List Loc) (ls : Array Slot), va_P D vwCl (zWM cI cJ cZ h mG mH mR mW mS mK mD mN mO mB mM mF) H → va_D A (zWM cI cJ cZ h mG mH mR mW mS mK mD mN mO mB mM mF) → va_S A s.heap H locs → lv_has ls 6 [(0, .ref (h 0)), (1, .int v1), (2, .int v2), (3, .int v3)] → k46 mH mB v1 v2 v3 = some u → W p l e ({ frames := 1, cells := 0, slots := 0, locals := 25 } : Room) s m args below meth c H locs 0 0 (MQ below (zQi D A (zWM cI cJ cZ h mG u.2.1 mR mW mS mK mD mN mO u.2.2 mM mF) (u.1)) args s 0 0 A) (F0 m 46 ls [])) : ∀ (n : Nat) (mH : tmH) (mB : tmB) (v1 : Int32) (v2 : Int32) (v3 : Int32) (v4 : Int32) (v5 : Int32) (H : Heap) (locs : List Loc) (ls : Array Slot), va_P D vwCl (zWM cI cJ cZ h mG mH mR mW mS mK mD mN mO mB mM mF) H → va_D A (zWM cI cJ cZ h mG mH mR mW mS mK mD mN mO mB mM mF) → va_S A s.heap H locs → lv_has ls 6 [(0, .ref (h 0)), (1, .int v1), (2, .int v2), (3, .int v3), (4, .int v4), (5, .int v5)] → X8_order_b81 N k46 mG mK n mH mB v1 v2 v3 v4 v5 = some u → W p l e ({ frames := 1, cells := 0, slots := 0, locals := 25 } : Room) s m args below meth c H locs 0 0 (MQ below (zQi D A (zWM cI cJ cZ h mG u.2.1 mR mW mS mK mD mN mO u.2.2 mM mF) (u.1)) args s 0 0 A) (F0 m 81 ls []) := by
  intro n
  induction n with
  | zero =>
    intro mH mB v1 v2 v3 v4 v5 H locs ls hP hD hS hl hf
    cases hf
  | succ n ih =>
    intro mH mB v1 v2 v3 v4 v5 H locs ls hP hD hS hl hf
    obtain ⟨hx, hb, hml, hown, hts, hK, hr, hlocks, hA⟩ := id hC
    rw [X8_order_b81] at hf
    refine lv_iload hx hb dX8_order_81 (lv_at hl 5 rfl) ?_
    refine lv_aload_n hx hb dX8_order_83 rfl (lv_at hl 0 rfl) ?_
    refine va_get (D := D) (ci := 8) (v := .ref (h 19)) (C := RX8) (T := TX8) (N := 56) hx hb hts tb_wsX80 hown hK.1 hP 0 rfl rfl 26 (by decide) (hts _ tb_6_1) (fun _ h9 => h9) rfl dX8_order_84 ?_
    refine lv_iload hx hb dX8_order_87 (lv_at hl 4 rfl) ?_
    obtain ⟨h13, hf⟩ := zck_s hf
    refine va_iald hx hb hK.1 hP 19 0 rfl rfl h13 dX8_order_89 ?_
    refine lv_icmp_ge (tgt := 128) hx hb dX8_order_90 (by decide) (fun c14 => ?_) (fun c14 => ?_)
    · replace hf := zif_t hf c14
      exact t_X8_order_b128 hC N k46 hk46  mH mB v1 v2 v3 H locs ls hP hD hS (lv_sub hl [0, 1, 2, 3] rfl) hf
    · replace hf := zif_f hf c14
      refine lv_aload_n hx hb dX8_order_93 rfl (lv_at hl 0 rfl) ?_
      refine va_get (D := D) (ci := 8) (v := .ref (h 31)) (C := RX8) (T := TX8) (N := 56) hx hb hts tb_wsX80 hown hK.1 hP 0 rfl rfl 41 (by decide) (hts _ tb_6_13) (fun _ h9 => h9) rfl dX8_order_94 ?_
      refine lv_aload_n hx hb dX8_order_97 rfl (lv_at hl 0 rfl) ?_
      refine va_get (D := D) (ci := 8) (v := .int (tmB.toldMany mB)) (C := RX8) (T := TX8) (N := 56) hx hb hts tb_wsX80 hown hK.1 hP 0 rfl rfl 42 (by decide) (hts _ tb_8_16) (fun _ h9 => h9) rfl dX8_order_98 ?_
      refine lv_aload_n hx hb dX8_order_101 rfl (lv_at hl 0 rfl) ?_
      refine va_get (D := D) (ci := 8) (v := .ref (h 20)) (C := RX8) (T := TX8) (N := 56) hx hb hts tb_wsX80 hown hK.1 hP 0 rfl rfl 27 (by decide) (hts _ tb_6_2) (fun _ h9 => h9) rfl dX8_order_102 ?_
      refine lv_iload hx hb dX8_order_105 (lv_at hl 4 rfl) ?_
      obtain ⟨h15, hf⟩ := zck_s hf
      refine va_iald hx hb hK.1 hP 20 0 rfl rfl h15 dX8_order_107 ?_
      refine lv_iload hx hb dX8_order_108 (lv_at hl 5 rfl) ?_
      refine lv_iadd hx hb dX8_order_110 ?_
      obtain ⟨h16, hf⟩ := zck_s hf
      refine va_iast hx hb hK.1 hP hD hS 31 0 rfl rfl h16 dX8_order_111 (fun H locs hP hD hS => ?_)
      replace hP : va_P D vwCl (zWM cI cJ cZ h mG mH mR mW mS mK mD mN mO (tmB.s_told mB (upd (tmB.told mB) (tmB.toldMany mB).toNatClampNeg (((tmK.kFirst mK) v4.toNatClampNeg) + v5))) mM mF) H := hP
      replace hD : va_D A (zWM cI cJ cZ h mG mH mR mW mS mK mD mN mO (tmB.s_told mB (upd (tmB.told mB) (tmB.toldMany mB).toNatClampNeg (((tmK.kFirst mK) v4.toNatClampNeg) + v5))) mM mF) := hD
      refine lv_aload_n hx hb dX8_order_112 rfl (lv_at hl 0 rfl) ?_
      refine lv_dup hx hb dX8_order_113 rfl ?_
      refine va_get (D := D) (ci := 8) (v := .int (tmB.toldMany mB)) (C := RX8) (T := TX8) (N := 56) hx hb hts tb_wsX80 hown hK.1 hP 0 rfl rfl 42 (by decide) (hts _ tb_8_16) (fun _ h9 => h9) rfl dX8_order_114 ?_
      refine lv_iconst (v := 1) hx hb dX8_order_117 (by decide) ?_
      refine lv_iadd hx hb dX8_order_118 ?_
      refine va_put (D := D) (ci := 8) (v := .int ((tmB.toldMany mB) + (1 : Int32))) (ty := .int) (C := RX8) (T := TX8) (N := 56) hx hb hts tb_wsX80 tyX8 tyX8_ok nmX8 hown hK.1 hP hD hS 0 rfl rfl 42 (by decide) (hts _ tb_8_16) (fun _ h9 => h9) rfl (by decide +kernel) rfl rfl (Nat.le_of_ble_eq_true rfl) dX8_order_119 (fun H locs hP hD hS => ?_)
      replace hP : va_P D vwCl (zWM cI cJ cZ h mG mH mR mW mS mK mD mN mO (tmB.s_toldMany (tmB.s_told mB (upd (tmB.told mB) (tmB.toldMany mB).toNatClampNeg (((tmK.kFirst mK) v4.toNatClampNeg) + v5))) ((tmB.toldMany mB) + (1 : Int32))) mM mF) H := hP
      replace hD : va_D A (zWM cI cJ cZ h mG mH mR mW mS mK mD mN mO (tmB.s_toldMany (tmB.s_told mB (upd (tmB.told mB) (tmB.toldMany mB).toNatClampNeg (((tmK.kFirst mK) v4.toNatClampNeg) + v5))) ((tmB.toldMany mB) + (1 : Int32))) mM mF) := hD
      refine lv_iinc (v := (v5 + (1 : Int32))) (lv' := [(5, .int (v5 + (1 : Int32))), (0, .ref (h 0)), (1, .int v1), (2, .int v2), (3, .int v3), (4, .int v4)]) hx hb dX8_order_122 hl (k := 5) rfl rfl (by decide) rfl (fun ls hl => ?_)
      refine lv_goto (tgt := 81) hx hb dX8_order_125 (by decide) ?_
      exact ih mH (tmB.s_toldMany (tmB.s_told mB (upd (tmB.told mB) (tmB.toldMany mB).toNatClampNeg (((tmK.kFirst mK) v4.toNatClampNeg) + v5))) ((tmB.toldMany mB) + (1 : Int32))) v1 v2 v3 v4 (v5 + (1 : Int32)) H locs ls hP hD hS (lv_sub hl [1, 2, 3, 4, 5, 0] rfl) hf
set_option maxHeartbeats 4000000 in
set_option maxRecDepth 100000 in
theorem t_X8_order_b46 {p : Program} {l : Launch} {e : Env} {s : State} {m : MethodId} {args : Array Value} {below : List Frame} {meth : Method} {c : Code} {A : Nat → Prop} {D : va_G} {cI cJ cZ : ClassId} {h : Nat → Nat} (hC : zCx p s m args meth c A D (zty cI cJ cZ) cX8_order RX8 6 (some .int)) (N : Nat) (mG : tmG) (mR : tmR) (mW : tmW) (mS : tmS) (mK : tmK) (mD : tmD) (mN : tmN) (mO : tmO) (mM : tmM) (mF : tmF) (u : Int32 × tmH × tmB) : ∀ (n : Nat) (mH : tmH) (mB : tmB) (v1 : Int32) (v2 : Int32) (v3 : Int32) (H : Heap) (locs : List Loc) (ls : Array Slot), va_P D vwCl (zWM cI cJ cZ h mG mH mR mW mS mK mD mN mO mB mM mF) H → va_D A (zWM cI cJ cZ h mG mH mR mW mS mK mD mN mO mB mM mF) → va_S A s.heap H locs → lv_has ls 6 [(0, .ref (h 0)), (1, .int v1), (2, .int v2), (3, .int v3)] → X8_order_b46 N mG mK n mH mB v1 v2 v3 = some u → W p l e ({ frames := 1, cells := 0, slots := 0, locals := 25 } : Room) s m args below meth c H locs 0 0 (MQ below (zQi D A (zWM cI cJ cZ h mG u.2.1 mR mW mS mK mD mN mO u.2.2 mM mF) (u.1)) args s 0 0 A) (F0 m 46 ls []) := by
  intro n
  induction n with
  | zero =>
    intro mH mB v1 v2 v3 H locs ls hP hD hS hl hf
    cases hf
  | succ n ih =>
    intro mH mB v1 v2 v3 H locs ls hP hD hS hl hf
    obtain ⟨hx, hb, hml, hown, hts, hK, hr, hlocks, hA⟩ := id hC
    rw [X8_order_b46] at hf
    refine lv_iload_n hx hb dX8_order_46 rfl (lv_at hl 3 rfl) ?_
    refine lv_if_le (tgt := 257) hx hb dX8_order_47 (by decide) (fun c17 => ?_) (fun c17 => ?_)
    · replace hf := zif_t hf c17
      exact t_X8_order_b257 hC N mG mR mW mS mK mD mN mO mM mF u mH mB H locs ls hP hD hS (lv_sub hl [0] rfl) hf
    · replace hf := zif_f hf c17
      refine lv_iinc (v := (v3 + (-1 : Int32))) (lv' := [(3, .int (v3 + (-1 : Int32))), (0, .ref (h 0)), (1, .int v1), (2, .int v2)]) hx hb dX8_order_50 hl (k := 3) rfl rfl (by decide) rfl (fun ls hl => ?_)
      refine lv_aload_n hx hb dX8_order_53 rfl (lv_at hl 1 rfl) ?_
      refine va_get (D := D) (ci := 8) (v := .ref (h 32)) (C := RX8) (T := TX8) (N := 56) hx hb hts tb_wsX80 hown hK.1 hP 0 rfl rfl 43 (by decide) (hts _ tb_6_14) (fun _ h9 => h9) rfl dX8_order_54 ?_
      refine lv_iload_n hx hb dX8_order_57 rfl (lv_at hl 0 rfl) ?_
      obtain ⟨h18, hf⟩ := zck_s hf
      refine va_iald hx hb hK.1 hP 32 0 rfl rfl h18 dX8_order_58 ?_
      refine lv_topi (fun x19 ex19 => ?_)
      replace hf := zl_n ex19 hf
      refine lv_istore (lv' := [(4, .int x19), (3, .int (v3 + (-1 : Int32))), (0, .ref (h 0)), (1, .int v1), (2, .int v2)]) hx hb dX8_order_59 hl (by decide) rfl (fun ls hl => ?_)
      refine lv_iload hx hb dX8_order_61 (lv_at hl 0 rfl) ?_
      refine lv_if_ge (tgt := 69) hx hb dX8_order_63 (by decide) (fun c20 => ?_) (fun c20 => ?_)
      · replace hf := zif_t hf c20
        refine lv_aload_n hx hb dX8_order_69 rfl (lv_at hl 2 rfl) ?_
        refine va_get (D := D) (ci := 8) (v := .ref (h 33)) (C := RX8) (T := TX8) (N := 56) hx hb hts tb_wsX80 hown hK.1 hP 0 rfl rfl 44 (by decide) (hts _ tb_6_15) (fun _ h9 => h9) rfl dX8_order_70 ?_
        refine lv_iload_n hx hb dX8_order_73 rfl (lv_at hl 1 rfl) ?_
        obtain ⟨h21, hf⟩ := zck_s hf
        refine va_zald hx hb hK.1 hP 33 2 rfl rfl h21 dX8_order_74 ?_
        refine lv_if_eq (tgt := 131) hx hb dX8_order_75 (by decide) (fun c22 => ?_) (fun c22 => ?_)
        · replace hf := zif_t hf c22
          refine lv_aload_n hx hb dX8_order_131 rfl (lv_at hl 2 rfl) ?_
          refine lv_aload_n hx hb dX8_order_132 rfl (lv_at hl 2 rfl) ?_
          refine va_get (D := D) (ci := 8) (v := .ref (h 18)) (C := RX8) (T := TX8) (N := 56) hx hb hts tb_wsX80 hown hK.1 hP 0 rfl rfl 25 (by decide) (hts _ tb_6_0) (fun _ h9 => h9) rfl dX8_order_133 ?_
          refine lv_iload hx hb dX8_order_136 (lv_at hl 0 rfl) ?_
          obtain ⟨h23, hf⟩ := zck_s hf
          refine va_iald hx hb hK.1 hP 18 0 rfl rfl h23 dX8_order_138 ?_
          refine lv_iload_n hx hb dX8_order_139 rfl (lv_at hl 3 rfl) ?_
          refine lv_i2l (v := v1.toInt64) hx hb dX8_order_140 rfl ?_
          refine lv_iload_n hx hb dX8_order_141 rfl (lv_at hl 4 rfl) ?_
          refine lv_i2l (v := v2.toInt64) hx hb dX8_order_142 rfl ?_
          obtain ⟨u24, hu24, hf⟩ := zbd hf
          refine zthen_l hA hD hS (zrunV (As := [.int ((tmK.kPiece mK) x19.toNatClampNeg), .long v1.toInt64, .long v2.toInt64]) (rest := []) hC hP hD 0 rfl rfl (c_X8_side l D cI cJ cZ h  mG mH mR mW mS mK mD mN mO mB mM mF ((tmK.kPiece mK) x19.toNatClampNeg) v1.toInt64 v2.toInt64 u24 hu24 H.size) kRX8_153 rfl rfl ⟨by decide, by decide⟩ rfl hl.1 rfl (Nat.le_of_ble_eq_true rfl) dX8_order_143) (fun H locs hP hD hS => ?_)
          refine lv_lconst (v := 0) hx hb dX8_order_146 (by decide) ?_
          refine W.lcmp hx hb dX8_order_147 ?_
          refine lv_if_le (tgt := 155) hx hb dX8_order_148 (by decide) (fun c25 => ?_) (fun c25 => ?_)
          · replace hf := zif_t hf c25
            refine lv_iconst (v := 0) hx hb dX8_order_155 (by decide) ?_
            exact t_X8_order_b156 hC N (X8_order_b46 N mG mK n) ih  mH mB v1 v2 (v3 + (-1 : Int32)) x19 (0 : Int32) H locs ls hP hD hS (lv_sub hl [2, 3, 4, 1, 0] rfl) hf
          · replace hf := zif_f hf c25
            refine lv_iconst (v := 1) hx hb dX8_order_151 (by decide) ?_
            refine lv_goto (tgt := 156) hx hb dX8_order_152 (by decide) ?_
            exact t_X8_order_b156 hC N (X8_order_b46 N mG mK n) ih  mH mB v1 v2 (v3 + (-1 : Int32)) x19 (1 : Int32) H locs ls hP hD hS (lv_sub hl [2, 3, 4, 1, 0] rfl) hf
        · replace hf := zif_f hf c22
          refine lv_iconst (v := 0) hx hb dX8_order_78 (by decide) ?_
          refine lv_istore (lv' := [(5, .int (0 : Int32)), (4, .int x19), (3, .int (v3 + (-1 : Int32))), (0, .ref (h 0)), (1, .int v1), (2, .int v2)]) hx hb dX8_order_79 hl (by decide) rfl (fun ls hl => ?_)
          exact t_X8_order_b81 hC N (X8_order_b46 N mG mK n) ih  N mH mB v1 v2 (v3 + (-1 : Int32)) x19 (0 : Int32) H locs ls hP hD hS (lv_sub hl [3, 4, 5, 2, 1, 0] rfl) hf
      · replace hf := zif_f hf c20
        refine lv_goto (tgt := 46) hx hb dX8_order_66 (by decide) ?_
        exact ih mH mB v1 v2 (v3 + (-1 : Int32)) H locs ls hP hD hS (lv_sub hl [2, 3, 4, 1] rfl) hf
set_option maxHeartbeats 4000000 in
set_option maxRecDepth 100000 in
theorem c_X8_order (l : Launch) (D : va_G) (cI cJ cZ : ClassId) (h : Nat → Nat) (N : Nat) (mG : tmG) (mH : tmH) (mR : tmR) (mW : tmW) (mS : tmS) (mK : tmK) (mD : tmD) (mN : tmN) (mO : tmO) (mB : tmB) (mM : tmM) (mF : tmF) (a1 : Int32) (a2 : Int32) (u : Int32 × tmH × tmB) (hf : X8_order N mG mH mK mB a1 a2 = some u) (sz : Nat) : Met l yX8_order (Cond.code yX8_order cX8_order 6 (some .int) :: tb_L) ({ frames := 1, cells := 0, slots := 0, locals := 25 } : Room) (zPre D (zty cI cJ cZ) (zWM cI cJ cZ h mG mH mR mW mS mK mD mN mO mB mM mF) sz [.ref (h 0), .int a1, .int a2]) (zQi D (va_A (zWM cI cJ cZ h mG mH mR mW mS mK mD mN mO mB mM mF) sz) (zWM cI cJ cZ h mG u.2.1 mR mW mS mK mD mN mO u.2.2 mM mF) (u.1)) 0 0 (va_A (zWM cI cJ cZ h mG mH mR mW mS mK mD mN mO mB mM mF) sz) := by
  refine zMet (Qc := fun A => zQi D A (zWM cI cJ cZ h mG u.2.1 mR mW mS mK mD mN mO u.2.2 mM mF) (u.1)) (by decide) rfl (Nat.le_of_ble_eq_true rfl) ?_
  intro p e s m args below meth c A ls hC _ hP hD hS hl
  replace hl : lv_has ls 6 [(0, .ref (h 0)), (1, .int a1), (2, .int a2)] := hl
  obtain ⟨hx, hb, hml, hown, hts, hK, hr, hlocks, hA⟩ := id hC
  unfold X8_order at hf
  obtain ⟨H, hH⟩ : ∃ H, H = s.heap := ⟨_, rfl⟩
  rw [← hH] at hP
  replace hS : va_S A s.heap H [] := by rw [hH]; exact hS
  show W p l e _ s m args below meth c s.heap [] 0 0 _ _
  rw [← hH]
  clear hH
  obtain ⟨locs, hlo⟩ : ∃ x : List Loc, x = [] := ⟨_, rfl⟩
  rw [← hlo] at hS ⊢
  clear hlo
  refine lv_aload_n hx hb dX8_order_0 rfl (lv_at hl 0 rfl) ?_
  refine lv_iconst (v := 0) hx hb dX8_order_1 (by decide) ?_
  refine va_put (D := D) (ci := 8) (v := .int (0 : Int32)) (ty := .int) (C := RX8) (T := TX8) (N := 56) hx hb hts tb_wsX80 tyX8 tyX8_ok nmX8 hown hK.1 hP hD hS 0 rfl rfl 5 (by decide) (hts _ tb_8_3) (fun _ h9 => h9) rfl (by decide +kernel) rfl rfl (Nat.le_of_ble_eq_true rfl) dX8_order_2 (fun H locs hP hD hS => ?_)
  replace hP : va_P D vwCl (zWM cI cJ cZ h mG (tmH.s_thrown mH (0 : Int32)) mR mW mS mK mD mN mO mB mM mF) H := hP
  replace hD : va_D A (zWM cI cJ cZ h mG (tmH.s_thrown mH (0 : Int32)) mR mW mS mK mD mN mO mB mM mF) := hD
  refine lv_aload_n hx hb dX8_order_5 rfl (lv_at hl 0 rfl) ?_
  refine va_get (D := D) (ci := 8) (v := .int (tmK.isTree mK)) (C := RX8) (T := TX8) (N := 56) hx hb hts tb_wsX80 hown hK.1 hP 0 rfl rfl 21 (by decide) (hts _ tb_8_12) (fun _ h9 => h9) rfl dX8_order_6 ?_
  refine lv_if_eq (tgt := 20) hx hb dX8_order_9 (by decide) (fun c26 => ?_) (fun c26 => ?_)
  · replace hf := zif_t hf c26
    refine lv_iconst (v := -1) hx hb dX8_order_20 (by decide) ?_
    have hu := Option.some.inj hf
    subst hu
    exact z_iret hC hP hD hS dX8_order_21
  · replace hf := zif_f hf c26
    refine lv_iload_n hx hb dX8_order_12 rfl (lv_at hl 1 rfl) ?_
    refine lv_iload_n hx hb dX8_order_13 rfl (lv_at hl 2 rfl) ?_
    obtain ⟨u27, hu27, hf⟩ := zbd hf
    refine zthen_i hA hD hS (zrunS (As := [.int a1, .int a2]) (rest := []) hC hP hD (c_X8_isPlace l D cI cJ cZ h  mG (tmH.s_thrown mH (0 : Int32)) mR mW mS mK mD mN mO mB mM mF a1 a2 u27 hu27 H.size) kRX8_130 rfl rfl ⟨by decide, by decide⟩ rfl hl.1 rfl (Nat.le_of_ble_eq_true rfl) dX8_order_14) (fun H locs hP hD hS => ?_)
    refine lv_if_ne (tgt := 22) hx hb dX8_order_17 (by decide) (fun c28 => ?_) (fun c28 => ?_)
    · replace hf := zif_f hf c28
      refine lv_aload_n hx hb dX8_order_22 rfl (lv_at hl 0 rfl) ?_
      refine lv_iconst (v := 0) hx hb dX8_order_23 (by decide) ?_
      refine va_put (D := D) (ci := 8) (v := .int (0 : Int32)) (ty := .int) (C := RX8) (T := TX8) (N := 56) hx hb hts tb_wsX80 tyX8 tyX8_ok nmX8 hown hK.1 hP hD hS 0 rfl rfl 42 (by decide) (hts _ tb_8_16) (fun _ h9 => h9) rfl (by decide +kernel) rfl rfl (Nat.le_of_ble_eq_true rfl) dX8_order_24 (fun H locs hP hD hS => ?_)
      replace hP : va_P D vwCl (zWM cI cJ cZ h mG (tmH.s_thrown mH (0 : Int32)) mR mW mS mK mD mN mO (tmB.s_toldMany mB (0 : Int32)) mM mF) H := hP
      replace hD : va_D A (zWM cI cJ cZ h mG (tmH.s_thrown mH (0 : Int32)) mR mW mS mK mD mN mO (tmB.s_toldMany mB (0 : Int32)) mM mF) := hD
      refine lv_iconst (v := 1) hx hb dX8_order_27 (by decide) ?_
      refine lv_istore_n (lv' := [(3, .int (1 : Int32)), (0, .ref (h 0)), (1, .int a1), (2, .int a2)]) hx hb dX8_order_28 rfl hl (by decide) rfl (fun ls hl => ?_)
      refine lv_aload_n hx hb dX8_order_29 rfl (lv_at hl 1 rfl) ?_
      refine va_get (D := D) (ci := 8) (v := .ref (h 32)) (C := RX8) (T := TX8) (N := 56) hx hb hts tb_wsX80 hown hK.1 hP 0 rfl rfl 43 (by decide) (hts _ tb_6_14) (fun _ h9 => h9) rfl dX8_order_30 ?_
      refine lv_iconst (v := 0) hx hb dX8_order_33 (by decide) ?_
      refine lv_aload_n hx hb dX8_order_34 rfl (lv_at hl 1 rfl) ?_
      refine va_get (D := D) (ci := 8) (v := .int (tmK.top mK)) (C := RX8) (T := TX8) (N := 56) hx hb hts tb_wsX80 hown hK.1 hP 0 rfl rfl 31 (by decide) (hts _ tb_14_22) (fun _ h9 => h9) rfl dX8_order_35 ?_
      obtain ⟨h29, hf⟩ := zck_s hf
      refine va_iast hx hb hK.1 hP hD hS 32 0 rfl rfl h29 dX8_order_38 (fun H locs hP hD hS => ?_)
      replace hP : va_P D vwCl (zWM cI cJ cZ h mG (tmH.s_thrown mH (0 : Int32)) mR mW mS mK mD mN mO (tmB.s_oKnot (tmB.s_toldMany mB (0 : Int32)) (upd (tmB.oKnot mB) (0 : Int32).toNatClampNeg (tmK.top mK))) mM mF) H := hP
      replace hD : va_D A (zWM cI cJ cZ h mG (tmH.s_thrown mH (0 : Int32)) mR mW mS mK mD mN mO (tmB.s_oKnot (tmB.s_toldMany mB (0 : Int32)) (upd (tmB.oKnot mB) (0 : Int32).toNatClampNeg (tmK.top mK))) mM mF) := hD
      refine lv_aload_n hx hb dX8_order_39 rfl (lv_at hl 1 rfl) ?_
      refine va_get (D := D) (ci := 8) (v := .ref (h 33)) (C := RX8) (T := TX8) (N := 56) hx hb hts tb_wsX80 hown hK.1 hP 0 rfl rfl 44 (by decide) (hts _ tb_6_15) (fun _ h9 => h9) rfl dX8_order_40 ?_
      refine lv_iconst (v := 0) hx hb dX8_order_43 (by decide) ?_
      refine lv_iconst (v := 0) hx hb dX8_order_44 (by decide) ?_
      obtain ⟨h30, hf⟩ := zck_s hf
      refine va_zast hx hb hK.1 hP hD hS 33 2 rfl rfl h30 dX8_order_45 (fun H locs hP hD hS => ?_)
      replace hP : va_P D vwCl (zWM cI cJ cZ h mG (tmH.s_thrown mH (0 : Int32)) mR mW mS mK mD mN mO (tmB.s_oParts (tmB.s_oKnot (tmB.s_toldMany mB (0 : Int32)) (upd (tmB.oKnot mB) (0 : Int32).toNatClampNeg (tmK.top mK))) (upd (tmB.oParts mB) (0 : Int32).toNatClampNeg (vp_nar .boolean (0 : Int32)))) mM mF) H := hP
      replace hD : va_D A (zWM cI cJ cZ h mG (tmH.s_thrown mH (0 : Int32)) mR mW mS mK mD mN mO (tmB.s_oParts (tmB.s_oKnot (tmB.s_toldMany mB (0 : Int32)) (upd (tmB.oKnot mB) (0 : Int32).toNatClampNeg (tmK.top mK))) (upd (tmB.oParts mB) (0 : Int32).toNatClampNeg (vp_nar .boolean (0 : Int32)))) mM mF) := hD
      exact t_X8_order_b46 hC N mG mR mW mS mK mD mN mO mM mF u N (tmH.s_thrown mH (0 : Int32)) (tmB.s_oParts (tmB.s_oKnot (tmB.s_toldMany mB (0 : Int32)) (upd (tmB.oKnot mB) (0 : Int32).toNatClampNeg (tmK.top mK))) (upd (tmB.oParts mB) (0 : Int32).toNatClampNeg (vp_nar .boolean (0 : Int32)))) a1 a2 (1 : Int32) H locs ls hP hD hS (lv_sub hl [1, 2, 3, 0] rfl) hf
    · replace hf := zif_t hf c28
      refine lv_iconst (v := -1) hx hb dX8_order_20 (by decide) ?_
      have hu := Option.some.inj hf
      subst hu
      exact z_iret hC hP hD hS dX8_order_21
