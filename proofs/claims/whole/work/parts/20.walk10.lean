set_option maxHeartbeats 4000000 in
set_option maxRecDepth 100000 in
theorem t_X8_comes_b349 {p : Program} {l : Launch} {e : Env} {s : State} {m : MethodId} {args : Array Value} {below : List Frame} {meth : Method} {c : Code} {A : Nat → Prop} {D : va_G} {cI cJ cZ : ClassId} {h : Nat → Nat} (hC : zCx p s m args meth c A D (zty cI cJ cZ) cX8_comes RX8 20 (some .boolean)) (mG : tmG) (mH : tmH) (mR : tmR) (mW : tmW) (mS : tmS) (mK : tmK) (mD : tmD) (mN : tmN) (mO : tmO) (mB : tmB) (mF : tmF) (u : Int32 × tmM) : ∀ (mM : tmM) (v10 : Int64) (v18 : Int64) (s0 : Int64) (H : Heap) (locs : List Loc) (ls : Array Slot), va_P D vwCl (zWM cI cJ cZ h mG mH mR mW mS mK mD mN mO mB mM mF) H → va_D A (zWM cI cJ cZ h mG mH mR mW mS mK mD mN mO mB mM mF) → va_S A s.heap H locs → lv_has ls 20 [(0, .ref (h 0)), (10, .long v10), (18, .long v18)] → X8_comes_b349 mG mM v10 v18 s0 = some u → W p l e ({ frames := 1, cells := 0, slots := 0, locals := 25 } : Room) s m args below meth c H locs 0 0 (MQ below (zQi D A (zWM cI cJ cZ h mG mH mR mW mS mK mD mN mO mB u.2 mF) (u.1)) args s 0 0 A) (F0 m 349 ls [.long s0, .ref (h 0)]) := by
  intro mM v10 v18 s0 H locs ls hP hD hS hl hf
  obtain ⟨hx, hb, hml, hown, hts, hK, hr, hlocks, hA⟩ := id hC
  unfold X8_comes_b349 at hf
  refine va_put (D := D) (ci := 8) (v := .long s0) (ty := .long) (C := RX8) (T := TX8) (N := 56) hx hb hts tb_wsX80 tyX8 tyX8_ok nmX8 hown hK.1 hP hD hS 0 rfl rfl 49 (by decide) (hts _ tb_24_15) (fun _ h9 => h9) rfl (by decide +kernel) rfl rfl (Nat.le_of_ble_eq_true rfl) dX8_comes_349 (fun H locs hP hD hS => ?_)
  replace hP : va_P D vwCl (zWM cI cJ cZ h mG mH mR mW mS mK mD mN mO mB (tmM.s_comesUp mM s0) mF) H := hP
  replace hD : va_D A (zWM cI cJ cZ h mG mH mR mW mS mK mD mN mO mB (tmM.s_comesUp mM s0) mF) := hD
  refine lv_aload_n hx hb dX8_comes_352 rfl (lv_at hl 0 rfl) ?_
  refine lv_lload hx hb dX8_comes_353 (lv_at hl 1 rfl) ?_
  refine va_put (D := D) (ci := 8) (v := .long v10) (ty := .long) (C := RX8) (T := TX8) (N := 56) hx hb hts tb_wsX80 tyX8 tyX8_ok nmX8 hown hK.1 hP hD hS 0 rfl rfl 50 (by decide) (hts _ tb_24_16) (fun _ h9 => h9) rfl (by decide +kernel) rfl rfl (Nat.le_of_ble_eq_true rfl) dX8_comes_355 (fun H locs hP hD hS => ?_)
  replace hP : va_P D vwCl (zWM cI cJ cZ h mG mH mR mW mS mK mD mN mO mB (tmM.s_comesLow (tmM.s_comesUp mM s0) v10) mF) H := hP
  replace hD : va_D A (zWM cI cJ cZ h mG mH mR mW mS mK mD mN mO mB (tmM.s_comesLow (tmM.s_comesUp mM s0) v10) mF) := hD
  refine lv_lload hx hb dX8_comes_358 (lv_at hl 2 rfl) ?_
  refine lv_lconst (v := 0) hx hb dX8_comes_360 (by decide) ?_
  refine W.lcmp hx hb dX8_comes_361 ?_
  refine lv_if_lt (tgt := 369) hx hb dX8_comes_362 (by decide) (fun c1 => ?_) (fun c1 => ?_)
  · replace hf := zif_t hf c1
    refine lv_iconst (v := 0) hx hb dX8_comes_369 (by decide) ?_
    obtain ⟨h2, hf⟩ := zcb_s hf
    have hu := Option.some.inj hf
    subst hu
    exact z_zret hC h2 hP hD hS dX8_comes_370
  · replace hf := zif_f hf c1
    refine lv_iconst (v := 1) hx hb dX8_comes_365 (by decide) ?_
    refine lv_goto (tgt := 370) hx hb dX8_comes_366 (by decide) ?_
    obtain ⟨h3, hf⟩ := zcb_s hf
    have hu := Option.some.inj hf
    subst hu
    exact z_zret hC h3 hP hD hS dX8_comes_370
set_option maxHeartbeats 4000000 in
set_option maxRecDepth 100000 in
theorem t_X8_comes_b333 {p : Program} {l : Launch} {e : Env} {s : State} {m : MethodId} {args : Array Value} {below : List Frame} {meth : Method} {c : Code} {A : Nat → Prop} {D : va_G} {cI cJ cZ : ClassId} {h : Nat → Nat} (hC : zCx p s m args meth c A D (zty cI cJ cZ) cX8_comes RX8 20 (some .boolean)) (mG : tmG) (mH : tmH) (mR : tmR) (mW : tmW) (mS : tmS) (mK : tmK) (mD : tmD) (mN : tmN) (mO : tmO) (mB : tmB) (mF : tmF) (u : Int32 × tmM) : ∀ (mM : tmM) (v10 : Int64) (v16 : Int64) (s0 : Int64) (H : Heap) (locs : List Loc) (ls : Array Slot), va_P D vwCl (zWM cI cJ cZ h mG mH mR mW mS mK mD mN mO mB mM mF) H → va_D A (zWM cI cJ cZ h mG mH mR mW mS mK mD mN mO mB mM mF) → va_S A s.heap H locs → lv_has ls 20 [(0, .ref (h 0)), (10, .long v10), (16, .long v16)] → X8_comes_b333 mG mM v10 v16 s0 = some u → W p l e ({ frames := 1, cells := 0, slots := 0, locals := 25 } : Room) s m args below meth c H locs 0 0 (MQ below (zQi D A (zWM cI cJ cZ h mG mH mR mW mS mK mD mN mO mB u.2 mF) (u.1)) args s 0 0 A) (F0 m 333 ls [.long s0]) := by
  intro mM v10 v16 s0 H locs ls hP hD hS hl hf
  obtain ⟨hx, hb, hml, hown, hts, hK, hr, hlocks, hA⟩ := id hC
  unfold X8_comes_b333 at hf
  refine lv_lstore (lv' := [(18, .long s0), (0, .ref (h 0)), (10, .long v10), (16, .long v16)]) hx hb dX8_comes_333 hl (by decide) rfl (fun ls hl => ?_)
  refine lv_aload_n hx hb dX8_comes_335 rfl (lv_at hl 1 rfl) ?_
  refine lv_lload hx hb dX8_comes_336 (lv_at hl 3 rfl) ?_
  refine lv_lconst (v := 0) hx hb dX8_comes_338 (by decide) ?_
  refine W.lcmp hx hb dX8_comes_339 ?_
  refine lv_if_ge (tgt := 347) hx hb dX8_comes_340 (by decide) (fun c4 => ?_) (fun c4 => ?_)
  · replace hf := zif_t hf c4
    refine lv_lload hx hb dX8_comes_347 (lv_at hl 3 rfl) ?_
    exact t_X8_comes_b349 hC  mG mH mR mW mS mK mD mN mO mB mF u mM v10 s0 v16 H locs ls hP hD hS (lv_sub hl [1, 2, 0] rfl) hf
  · replace hf := zif_f hf c4
    refine lv_lconst (v := 0) hx hb dX8_comes_343 (by decide) ?_
    refine lv_goto (tgt := 349) hx hb dX8_comes_344 (by decide) ?_
    exact t_X8_comes_b349 hC  mG mH mR mW mS mK mD mN mO mB mF u mM v10 s0 (0 : Int64) H locs ls hP hD hS (lv_sub hl [1, 2, 0] rfl) hf
set_option maxHeartbeats 4000000 in
set_option maxRecDepth 100000 in
theorem t_X8_comes_b316 {p : Program} {l : Launch} {e : Env} {s : State} {m : MethodId} {args : Array Value} {below : List Frame} {meth : Method} {c : Code} {A : Nat → Prop} {D : va_G} {cI cJ cZ : ClassId} {h : Nat → Nat} (hC : zCx p s m args meth c A D (zty cI cJ cZ) cX8_comes RX8 20 (some .boolean)) (mG : tmG) (mH : tmH) (mR : tmR) (mW : tmW) (mS : tmS) (mK : tmK) (mD : tmD) (mN : tmN) (mO : tmO) (mB : tmB) (mF : tmF) (u : Int32 × tmM) : ∀ (mM : tmM) (v10 : Int64) (v12 : Int64) (v14 : Int64) (s0 : Int64) (H : Heap) (locs : List Loc) (ls : Array Slot), va_P D vwCl (zWM cI cJ cZ h mG mH mR mW mS mK mD mN mO mB mM mF) H → va_D A (zWM cI cJ cZ h mG mH mR mW mS mK mD mN mO mB mM mF) → va_S A s.heap H locs → lv_has ls 20 [(0, .ref (h 0)), (10, .long v10), (12, .long v12), (14, .long v14)] → X8_comes_b316 mG mM v10 v12 v14 s0 = some u → W p l e ({ frames := 1, cells := 0, slots := 0, locals := 25 } : Room) s m args below meth c H locs 0 0 (MQ below (zQi D A (zWM cI cJ cZ h mG mH mR mW mS mK mD mN mO mB u.2 mF) (u.1)) args s 0 0 A) (F0 m 316 ls [.long s0]) := by
  intro mM v10 v12 v14 s0 H locs ls hP hD hS hl hf
  obtain ⟨hx, hb, hml, hown, hts, hK, hr, hlocks, hA⟩ := id hC
  unfold X8_comes_b316 at hf
  refine lv_lstore (lv' := [(16, .long s0), (0, .ref (h 0)), (10, .long v10), (12, .long v12), (14, .long v14)]) hx hb dX8_comes_316 hl (by decide) rfl (fun ls hl => ?_)
  refine lv_lload hx hb dX8_comes_318 (lv_at hl 3 rfl) ?_
  refine lv_lload hx hb dX8_comes_320 (lv_at hl 4 rfl) ?_
  refine W.lcmp hx hb dX8_comes_322 ?_
  refine lv_if_ge (tgt := 331) hx hb dX8_comes_323 (by decide) (fun c5 => ?_) (fun c5 => ?_)
  · replace hf := zif_t hf c5
    refine lv_lload hx hb dX8_comes_331 (lv_at hl 3 rfl) ?_
    exact t_X8_comes_b333 hC  mG mH mR mW mS mK mD mN mO mB mF u mM v10 s0 v12 H locs ls hP hD hS (lv_sub hl [1, 2, 0] rfl) hf
  · replace hf := zif_f hf c5
    refine lv_lload hx hb dX8_comes_326 (lv_at hl 4 rfl) ?_
    refine lv_goto (tgt := 333) hx hb dX8_comes_328 (by decide) ?_
    exact t_X8_comes_b333 hC  mG mH mR mW mS mK mD mN mO mB mF u mM v10 s0 v14 H locs ls hP hD hS (lv_sub hl [1, 2, 0] rfl) hf
set_option maxHeartbeats 4000000 in
set_option maxRecDepth 100000 in
theorem t_X8_comes_b301 {p : Program} {l : Launch} {e : Env} {s : State} {m : MethodId} {args : Array Value} {below : List Frame} {meth : Method} {c : Code} {A : Nat → Prop} {D : va_G} {cI cJ cZ : ClassId} {h : Nat → Nat} (hC : zCx p s m args meth c A D (zty cI cJ cZ) cX8_comes RX8 20 (some .boolean)) (mG : tmG) (mH : tmH) (mR : tmR) (mW : tmW) (mS : tmS) (mK : tmK) (mD : tmD) (mN : tmN) (mO : tmO) (mB : tmB) (mF : tmF) (u : Int32 × tmM) : ∀ (mM : tmM) (v10 : Int64) (v12 : Int64) (v14 : Int64) (H : Heap) (locs : List Loc) (ls : Array Slot), va_P D vwCl (zWM cI cJ cZ h mG mH mR mW mS mK mD mN mO mB mM mF) H → va_D A (zWM cI cJ cZ h mG mH mR mW mS mK mD mN mO mB mM mF) → va_S A s.heap H locs → lv_has ls 20 [(0, .ref (h 0)), (10, .long v10), (12, .long v12), (14, .long v14)] → X8_comes_b301 mG mM v10 v12 v14 = some u → W p l e ({ frames := 1, cells := 0, slots := 0, locals := 25 } : Room) s m args below meth c H locs 0 0 (MQ below (zQi D A (zWM cI cJ cZ h mG mH mR mW mS mK mD mN mO mB u.2 mF) (u.1)) args s 0 0 A) (F0 m 301 ls []) := by
  intro mM v10 v12 v14 H locs ls hP hD hS hl hf
  obtain ⟨hx, hb, hml, hown, hts, hK, hr, hlocks, hA⟩ := id hC
  unfold X8_comes_b301 at hf
  refine lv_lload hx hb dX8_comes_301 (lv_at hl 2 rfl) ?_
  refine lv_lload hx hb dX8_comes_303 (lv_at hl 3 rfl) ?_
  refine W.lcmp hx hb dX8_comes_305 ?_
  refine lv_if_ge (tgt := 314) hx hb dX8_comes_306 (by decide) (fun c6 => ?_) (fun c6 => ?_)
  · replace hf := zif_t hf c6
    refine lv_lload hx hb dX8_comes_314 (lv_at hl 3 rfl) ?_
    exact t_X8_comes_b316 hC  mG mH mR mW mS mK mD mN mO mB mF u mM v10 v12 v14 v14 H locs ls hP hD hS (lv_sub hl [0, 1, 2, 3] rfl) hf
  · replace hf := zif_f hf c6
    refine lv_lload hx hb dX8_comes_309 (lv_at hl 2 rfl) ?_
    refine lv_goto (tgt := 316) hx hb dX8_comes_311 (by decide) ?_
    exact t_X8_comes_b316 hC  mG mH mR mW mS mK mD mN mO mB mF u mM v10 v12 v14 v12 H locs ls hP hD hS (lv_sub hl [0, 1, 2, 3] rfl) hf
set_option maxHeartbeats 4000000 in
set_option maxRecDepth 100000 in
theorem t_X8_comes_b277 {p : Program} {l : Launch} {e : Env} {s : State} {m : MethodId} {args : Array Value} {below : List Frame} {meth : Method} {c : Code} {A : Nat → Prop} {D : va_G} {cI cJ cZ : ClassId} {h : Nat → Nat} (hC : zCx p s m args meth c A D (zty cI cJ cZ) cX8_comes RX8 20 (some .boolean)) (mG : tmG) (mH : tmH) (mR : tmR) (mW : tmW) (mS : tmS) (mK : tmK) (mD : tmD) (mN : tmN) (mO : tmO) (mB : tmB) (mF : tmF) (u : Int32 × tmM) : ∀ (mM : tmM) (v10 : Int64) (v12 : Int64) (s0 : Int64) (H : Heap) (locs : List Loc) (ls : Array Slot), va_P D vwCl (zWM cI cJ cZ h mG mH mR mW mS mK mD mN mO mB mM mF) H → va_D A (zWM cI cJ cZ h mG mH mR mW mS mK mD mN mO mB mM mF) → va_S A s.heap H locs → lv_has ls 20 [(0, .ref (h 0)), (10, .long v10), (12, .long v12)] → X8_comes_b277 mG mM v10 v12 s0 = some u → W p l e ({ frames := 1, cells := 0, slots := 0, locals := 25 } : Room) s m args below meth c H locs 0 0 (MQ below (zQi D A (zWM cI cJ cZ h mG mH mR mW mS mK mD mN mO mB u.2 mF) (u.1)) args s 0 0 A) (F0 m 277 ls [.long s0]) := by
  intro mM v10 v12 s0 H locs ls hP hD hS hl hf
  obtain ⟨hx, hb, hml, hown, hts, hK, hr, hlocks, hA⟩ := id hC
  unfold X8_comes_b277 at hf
  refine lv_lstore (lv' := [(14, .long s0), (0, .ref (h 0)), (10, .long v10), (12, .long v12)]) hx hb dX8_comes_277 hl (by decide) rfl (fun ls hl => ?_)
  refine lv_lload hx hb dX8_comes_279 (lv_at hl 2 rfl) ?_
  refine lv_lconst (v := 0) hx hb dX8_comes_281 (by decide) ?_
  refine W.lcmp hx hb dX8_comes_282 ?_
  refine lv_if_ge (tgt := 301) hx hb dX8_comes_283 (by decide) (fun c7 => ?_) (fun c7 => ?_)
  · replace hf := zif_t hf c7
    exact t_X8_comes_b301 hC  mG mH mR mW mS mK mD mN mO mB mF u mM v10 v12 s0 H locs ls hP hD hS (lv_sub hl [1, 2, 3, 0] rfl) hf
  · replace hf := zif_f hf c7
    refine lv_lload hx hb dX8_comes_286 (lv_at hl 2 rfl) ?_
    refine lv_lneg hx hb dX8_comes_288 ?_
    refine lv_topl (fun x8 ex8 => ?_)
    replace hf := zl_n ex8 hf
    refine lv_lstore (lv' := [(10, .long x8), (14, .long s0), (0, .ref (h 0)), (12, .long v12)]) hx hb dX8_comes_289 hl (by decide) rfl (fun ls hl => ?_)
    refine lv_lload hx hb dX8_comes_291 (lv_at hl 3 rfl) ?_
    refine lv_lneg hx hb dX8_comes_293 ?_
    refine lv_topl (fun x9 ex9 => ?_)
    replace hf := zl_n ex9 hf
    refine lv_lstore (lv' := [(12, .long x9), (10, .long x8), (14, .long s0), (0, .ref (h 0))]) hx hb dX8_comes_294 hl (by decide) rfl (fun ls hl => ?_)
    refine lv_lload hx hb dX8_comes_296 (lv_at hl 2 rfl) ?_
    refine lv_lneg hx hb dX8_comes_298 ?_
    refine lv_topl (fun x10 ex10 => ?_)
    replace hf := zl_n ex10 hf
    refine lv_lstore (lv' := [(14, .long x10), (12, .long x9), (10, .long x8), (0, .ref (h 0))]) hx hb dX8_comes_299 hl (by decide) rfl (fun ls hl => ?_)
    exact t_X8_comes_b301 hC  mG mH mR mW mS mK mD mN mO mB mF u mM x8 x9 x10 H locs ls hP hD hS (lv_sub hl [3, 2, 1, 0] rfl) hf
set_option maxHeartbeats 4000000 in
set_option maxRecDepth 100000 in
theorem t_X8_comes_b247 {p : Program} {l : Launch} {e : Env} {s : State} {m : MethodId} {args : Array Value} {below : List Frame} {meth : Method} {c : Code} {A : Nat → Prop} {D : va_G} {cI cJ cZ : ClassId} {h : Nat → Nat} (hC : zCx p s m args meth c A D (zty cI cJ cZ) cX8_comes RX8 20 (some .boolean)) (mG : tmG) (mH : tmH) (mR : tmR) (mW : tmW) (mS : tmS) (mK : tmK) (mD : tmD) (mN : tmN) (mO : tmO) (mB : tmB) (mF : tmF) (u : Int32 × tmM) : ∀ (mM : tmM) (v1 : Int32) (v4 : Int32) (v10 : Int64) (s0 : Int64) (H : Heap) (locs : List Loc) (ls : Array Slot), va_P D vwCl (zWM cI cJ cZ h mG mH mR mW mS mK mD mN mO mB mM mF) H → va_D A (zWM cI cJ cZ h mG mH mR mW mS mK mD mN mO mB mM mF) → va_S A s.heap H locs → lv_has ls 20 [(0, .ref (h 0)), (1, .int v1), (4, .int v4), (10, .long v10)] → X8_comes_b247 mG mM v1 v4 v10 s0 = some u → W p l e ({ frames := 1, cells := 0, slots := 0, locals := 25 } : Room) s m args below meth c H locs 0 0 (MQ below (zQi D A (zWM cI cJ cZ h mG mH mR mW mS mK mD mN mO mB u.2 mF) (u.1)) args s 0 0 A) (F0 m 247 ls [.long s0]) := by
  intro mM v1 v4 v10 s0 H locs ls hP hD hS hl hf
  obtain ⟨hx, hb, hml, hown, hts, hK, hr, hlocks, hA⟩ := id hC
  unfold X8_comes_b247 at hf
  refine lv_lstore (lv' := [(12, .long s0), (0, .ref (h 0)), (1, .int v1), (4, .int v4), (10, .long v10)]) hx hb dX8_comes_247 hl (by decide) rfl (fun ls hl => ?_)
  refine lv_iload hx hb dX8_comes_249 (lv_at hl 3 rfl) ?_
  refine lv_if_eq (tgt := 267) hx hb dX8_comes_251 (by decide) (fun c11 => ?_) (fun c11 => ?_)
  · replace hf := zif_t hf c11
    refine lv_lload hx hb dX8_comes_267 (lv_at hl 0 rfl) ?_
    refine lv_aload_n hx hb dX8_comes_269 rfl (lv_at hl 1 rfl) ?_
    refine va_get (D := D) (ci := 8) (v := .ref (h 4)) (C := RX8) (T := TX8) (N := 56) hx hb hts tb_wsX80 hown hK.1 hP 0 rfl rfl 4 (by decide) (hts _ tb_5_9) (fun _ h9 => h9) rfl dX8_comes_270 ?_
    refine lv_iload_n hx hb dX8_comes_273 rfl (lv_at hl 2 rfl) ?_
    obtain ⟨h12, hf⟩ := zck_s hf
    refine va_iald hx hb hK.1 hP 4 0 rfl rfl h12 dX8_comes_274 ?_
    refine lv_i2l (v := (((tmG.dy mG) v1.toNatClampNeg)).toInt64) hx hb dX8_comes_275 rfl ?_
    refine lv_ladd hx hb dX8_comes_276 ?_
    exact t_X8_comes_b277 hC  mG mH mR mW mS mK mD mN mO mB mF u mM v10 s0 (s0 + (((tmG.dy mG) v1.toNatClampNeg)).toInt64) H locs ls hP hD hS (lv_sub hl [1, 4, 0] rfl) hf
  · replace hf := zif_f hf c11
    refine lv_lload hx hb dX8_comes_254 (lv_at hl 0 rfl) ?_
    refine lv_aload_n hx hb dX8_comes_256 rfl (lv_at hl 1 rfl) ?_
    refine va_get (D := D) (ci := 8) (v := .ref (h 3)) (C := RX8) (T := TX8) (N := 56) hx hb hts tb_wsX80 hown hK.1 hP 0 rfl rfl 3 (by decide) (hts _ tb_5_8) (fun _ h9 => h9) rfl dX8_comes_257 ?_
    refine lv_iload_n hx hb dX8_comes_260 rfl (lv_at hl 2 rfl) ?_
    obtain ⟨h13, hf⟩ := zck_s hf
    refine va_iald hx hb hK.1 hP 3 0 rfl rfl h13 dX8_comes_261 ?_
    refine lv_i2l (v := (((tmG.dx mG) v1.toNatClampNeg)).toInt64) hx hb dX8_comes_262 rfl ?_
    refine lv_ladd hx hb dX8_comes_263 ?_
    refine lv_goto (tgt := 277) hx hb dX8_comes_264 (by decide) ?_
    exact t_X8_comes_b277 hC  mG mH mR mW mS mK mD mN mO mB mF u mM v10 s0 (s0 + (((tmG.dx mG) v1.toNatClampNeg)).toInt64) H locs ls hP hD hS (lv_sub hl [1, 4, 0] rfl) hf
set_option maxHeartbeats 4000000 in
set_option maxRecDepth 100000 in
theorem t_X8_comes_b219 {p : Program} {l : Launch} {e : Env} {s : State} {m : MethodId} {args : Array Value} {below : List Frame} {meth : Method} {c : Code} {A : Nat → Prop} {D : va_G} {cI cJ cZ : ClassId} {h : Nat → Nat} (hC : zCx p s m args meth c A D (zty cI cJ cZ) cX8_comes RX8 20 (some .boolean)) (mG : tmG) (mH : tmH) (mR : tmR) (mW : tmW) (mS : tmS) (mK : tmK) (mD : tmD) (mN : tmN) (mO : tmO) (mB : tmB) (mF : tmF) (u : Int32 × tmM) : ∀ (mM : tmM) (v1 : Int32) (v2 : Int32) (v3 : Int32) (v4 : Int32) (s0 : Int64) (H : Heap) (locs : List Loc) (ls : Array Slot), va_P D vwCl (zWM cI cJ cZ h mG mH mR mW mS mK mD mN mO mB mM mF) H → va_D A (zWM cI cJ cZ h mG mH mR mW mS mK mD mN mO mB mM mF) → va_S A s.heap H locs → lv_has ls 20 [(0, .ref (h 0)), (1, .int v1), (2, .int v2), (3, .int v3), (4, .int v4)] → X8_comes_b219 mG mM v1 v2 v3 v4 s0 = some u → W p l e ({ frames := 1, cells := 0, slots := 0, locals := 25 } : Room) s m args below meth c H locs 0 0 (MQ below (zQi D A (zWM cI cJ cZ h mG mH mR mW mS mK mD mN mO mB u.2 mF) (u.1)) args s 0 0 A) (F0 m 219 ls [.long s0]) := by
  intro mM v1 v2 v3 v4 s0 H locs ls hP hD hS hl hf
  obtain ⟨hx, hb, hml, hown, hts, hK, hr, hlocks, hA⟩ := id hC
  unfold X8_comes_b219 at hf
  refine lv_lstore (lv' := [(10, .long s0), (0, .ref (h 0)), (1, .int v1), (2, .int v2), (3, .int v3), (4, .int v4)]) hx hb dX8_comes_219 hl (by decide) rfl (fun ls hl => ?_)
  refine lv_iload hx hb dX8_comes_221 (lv_at hl 5 rfl) ?_
  refine lv_if_eq (tgt := 238) hx hb dX8_comes_223 (by decide) (fun c14 => ?_) (fun c14 => ?_)
  · replace hf := zif_t hf c14
    refine lv_aload_n hx hb dX8_comes_238 rfl (lv_at hl 1 rfl) ?_
    refine va_get (D := D) (ci := 8) (v := .ref (h 2)) (C := RX8) (T := TX8) (N := 56) hx hb hts tb_wsX80 hown hK.1 hP 0 rfl rfl 2 (by decide) (hts _ tb_5_7) (fun _ h9 => h9) rfl dX8_comes_239 ?_
    refine lv_iload_n hx hb dX8_comes_242 rfl (lv_at hl 2 rfl) ?_
    obtain ⟨h15, hf⟩ := zck_s hf
    refine va_iald hx hb hK.1 hP 2 0 rfl rfl h15 dX8_comes_243 ?_
    refine lv_iload_n hx hb dX8_comes_244 rfl (lv_at hl 4 rfl) ?_
    refine lv_isub hx hb dX8_comes_245 ?_
    refine lv_i2l (v := ((((tmG.py mG) v1.toNatClampNeg) - v3)).toInt64) hx hb dX8_comes_246 rfl ?_
    exact t_X8_comes_b247 hC  mG mH mR mW mS mK mD mN mO mB mF u mM v1 v4 s0 (((((tmG.py mG) v1.toNatClampNeg) - v3)).toInt64) H locs ls hP hD hS (lv_sub hl [1, 2, 5, 0] rfl) hf
  · replace hf := zif_f hf c14
    refine lv_aload_n hx hb dX8_comes_226 rfl (lv_at hl 1 rfl) ?_
    refine va_get (D := D) (ci := 8) (v := .ref (h 1)) (C := RX8) (T := TX8) (N := 56) hx hb hts tb_wsX80 hown hK.1 hP 0 rfl rfl 1 (by decide) (hts _ tb_5_6) (fun _ h9 => h9) rfl dX8_comes_227 ?_
    refine lv_iload_n hx hb dX8_comes_230 rfl (lv_at hl 2 rfl) ?_
    obtain ⟨h16, hf⟩ := zck_s hf
    refine va_iald hx hb hK.1 hP 1 0 rfl rfl h16 dX8_comes_231 ?_
    refine lv_iload_n hx hb dX8_comes_232 rfl (lv_at hl 3 rfl) ?_
    refine lv_isub hx hb dX8_comes_233 ?_
    refine lv_i2l (v := ((((tmG.px mG) v1.toNatClampNeg) - v2)).toInt64) hx hb dX8_comes_234 rfl ?_
    refine lv_goto (tgt := 247) hx hb dX8_comes_235 (by decide) ?_
    exact t_X8_comes_b247 hC  mG mH mR mW mS mK mD mN mO mB mF u mM v1 v4 s0 (((((tmG.px mG) v1.toNatClampNeg) - v2)).toInt64) H locs ls hP hD hS (lv_sub hl [1, 2, 5, 0] rfl) hf
set_option maxHeartbeats 4000000 in
set_option maxRecDepth 100000 in
theorem t_X8_comes_b190 {p : Program} {l : Launch} {e : Env} {s : State} {m : MethodId} {args : Array Value} {below : List Frame} {meth : Method} {c : Code} {A : Nat → Prop} {D : va_G} {cI cJ cZ : ClassId} {h : Nat → Nat} (hC : zCx p s m args meth c A D (zty cI cJ cZ) cX8_comes RX8 20 (some .boolean)) (mG : tmG) (mH : tmH) (mR : tmR) (mW : tmW) (mS : tmS) (mK : tmK) (mD : tmD) (mN : tmN) (mO : tmO) (mB : tmB) (mF : tmF) (u : Int32 × tmM) : ∀ (mM : tmM) (H : Heap) (locs : List Loc) (ls : Array Slot), va_P D vwCl (zWM cI cJ cZ h mG mH mR mW mS mK mD mN mO mB mM mF) H → va_D A (zWM cI cJ cZ h mG mH mR mW mS mK mD mN mO mB mM mF) → va_S A s.heap H locs → lv_has ls 20 [] → X8_comes_b190 mG mM = some u → W p l e ({ frames := 1, cells := 0, slots := 0, locals := 25 } : Room) s m args below meth c H locs 0 0 (MQ below (zQi D A (zWM cI cJ cZ h mG mH mR mW mS mK mD mN mO mB u.2 mF) (u.1)) args s 0 0 A) (F0 m 190 ls []) := by
  intro mM H locs ls hP hD hS hl hf
  obtain ⟨hx, hb, hml, hown, hts, hK, hr, hlocks, hA⟩ := id hC
  unfold X8_comes_b190 at hf
  refine lv_iconst (v := 1) hx hb dX8_comes_190 (by decide) ?_
  refine lv_goto (tgt := 195) hx hb dX8_comes_191 (by decide) ?_
  obtain ⟨h17, hf⟩ := zcb_s hf
  have hu := Option.some.inj hf
  subst hu
  exact z_zret hC h17 hP hD hS dX8_comes_195
set_option maxHeartbeats 4000000 in
set_option maxRecDepth 100000 in
theorem t_X8_comes_b176 {p : Program} {l : Launch} {e : Env} {s : State} {m : MethodId} {args : Array Value} {below : List Frame} {meth : Method} {c : Code} {A : Nat → Prop} {D : va_G} {cI cJ cZ : ClassId} {h : Nat → Nat} (hC : zCx p s m args meth c A D (zty cI cJ cZ) cX8_comes RX8 20 (some .boolean)) (mG : tmG) (mH : tmH) (mR : tmR) (mW : tmW) (mS : tmS) (mK : tmK) (mD : tmD) (mN : tmN) (mO : tmO) (mB : tmB) (mF : tmF) (u : Int32 × tmM) : ∀ (mM : tmM) (v10 : Int64) (v12 : Int64) (H : Heap) (locs : List Loc) (ls : Array Slot), va_P D vwCl (zWM cI cJ cZ h mG mH mR mW mS mK mD mN mO mB mM mF) H → va_D A (zWM cI cJ cZ h mG mH mR mW mS mK mD mN mO mB mM mF) → va_S A s.heap H locs → lv_has ls 20 [(10, .long v10), (12, .long v12)] → X8_comes_b176 mG mM v10 v12 = some u → W p l e ({ frames := 1, cells := 0, slots := 0, locals := 25 } : Room) s m args below meth c H locs 0 0 (MQ below (zQi D A (zWM cI cJ cZ h mG mH mR mW mS mK mD mN mO mB u.2 mF) (u.1)) args s 0 0 A) (F0 m 176 ls []) := by
  intro mM v10 v12 H locs ls hP hD hS hl hf
  obtain ⟨hx, hb, hml, hown, hts, hK, hr, hlocks, hA⟩ := id hC
  unfold X8_comes_b176 at hf
  refine lv_lload hx hb dX8_comes_176 (lv_at hl 0 rfl) ?_
  refine lv_lconst (v := 0) hx hb dX8_comes_178 (by decide) ?_
  refine W.lcmp hx hb dX8_comes_179 ?_
  refine lv_if_lt (tgt := 194) hx hb dX8_comes_180 (by decide) (fun c18 => ?_) (fun c18 => ?_)
  · replace hf := zif_t hf c18
    refine lv_iconst (v := 0) hx hb dX8_comes_194 (by decide) ?_
    obtain ⟨h19, hf⟩ := zcb_s hf
    have hu := Option.some.inj hf
    subst hu
    exact z_zret hC h19 hP hD hS dX8_comes_195
  · replace hf := zif_f hf c18
    refine lv_lload hx hb dX8_comes_183 (lv_at hl 1 rfl) ?_
    refine lv_lconst (v := 0) hx hb dX8_comes_185 (by decide) ?_
    refine W.lcmp hx hb dX8_comes_186 ?_
    refine lv_if_gt (tgt := 194) hx hb dX8_comes_187 (by decide) (fun c20 => ?_) (fun c20 => ?_)
    · replace hf := zif_t hf c20
      refine lv_iconst (v := 0) hx hb dX8_comes_194 (by decide) ?_
      obtain ⟨h21, hf⟩ := zcb_s hf
      have hu := Option.some.inj hf
      subst hu
      exact z_zret hC h21 hP hD hS dX8_comes_195
    · replace hf := zif_f hf c20
      exact t_X8_comes_b190 hC  mG mH mR mW mS mK mD mN mO mB mF u mM H locs ls hP hD hS (lv_sub hl [] rfl) hf
set_option maxHeartbeats 4000000 in
set_option maxRecDepth 100000 in
theorem t_X8_comes_b78 {p : Program} {l : Launch} {e : Env} {s : State} {m : MethodId} {args : Array Value} {below : List Frame} {meth : Method} {c : Code} {A : Nat → Prop} {D : va_G} {cI cJ cZ : ClassId} {h : Nat → Nat} (hC : zCx p s m args meth c A D (zty cI cJ cZ) cX8_comes RX8 20 (some .boolean)) (mG : tmG) (mH : tmH) (mR : tmR) (mW : tmW) (mS : tmS) (mK : tmK) (mD : tmD) (mN : tmN) (mO : tmO) (mB : tmB) (mF : tmF) (u : Int32 × tmM) : ∀ (mM : tmM) (v1 : Int32) (v2 : Int32) (v3 : Int32) (v4 : Int32) (v5 : Int32) (s0 : Int64) (H : Heap) (locs : List Loc) (ls : Array Slot), va_P D vwCl (zWM cI cJ cZ h mG mH mR mW mS mK mD mN mO mB mM mF) H → va_D A (zWM cI cJ cZ h mG mH mR mW mS mK mD mN mO mB mM mF) → va_S A s.heap H locs → lv_has ls 20 [(0, .ref (h 0)), (1, .int v1), (2, .int v2), (3, .int v3), (4, .int v4), (5, .int v5)] → X8_comes_b78 mG mM v1 v2 v3 v4 v5 s0 = some u → W p l e ({ frames := 1, cells := 0, slots := 0, locals := 25 } : Room) s m args below meth c H locs 0 0 (MQ below (zQi D A (zWM cI cJ cZ h mG mH mR mW mS mK mD mN mO mB u.2 mF) (u.1)) args s 0 0 A) (F0 m 78 ls [.long s0, .ref (h 0)]) := by
  intro mM v1 v2 v3 v4 v5 s0 H locs ls hP hD hS hl hf
  obtain ⟨hx, hb, hml, hown, hts, hK, hr, hlocks, hA⟩ := id hC
  unfold X8_comes_b78 at hf
  refine va_put (D := D) (ci := 8) (v := .long s0) (ty := .long) (C := RX8) (T := TX8) (N := 56) hx hb hts tb_wsX80 tyX8 tyX8_ok nmX8 hown hK.1 hP hD hS 0 rfl rfl 50 (by decide) (hts _ tb_24_16) (fun _ h9 => h9) rfl (by decide +kernel) rfl rfl (Nat.le_of_ble_eq_true rfl) dX8_comes_78 (fun H locs hP hD hS => ?_)
  replace hP : va_P D vwCl (zWM cI cJ cZ h mG mH mR mW mS mK mD mN mO mB (tmM.s_comesLow mM s0) mF) H := hP
  replace hD : va_D A (zWM cI cJ cZ h mG mH mR mW mS mK mD mN mO mB (tmM.s_comesLow mM s0) mF) := hD
  refine lv_iload hx hb dX8_comes_81 (lv_at hl 4 rfl) ?_
  refine lv_i2l (v := v4.toInt64) hx hb dX8_comes_83 rfl ?_
  refine lv_aload_n hx hb dX8_comes_84 rfl (lv_at hl 0 rfl) ?_
  refine va_get (D := D) (ci := 8) (v := .ref (h 2)) (C := RX8) (T := TX8) (N := 56) hx hb hts tb_wsX80 hown hK.1 hP 0 rfl rfl 2 (by decide) (hts _ tb_5_7) (fun _ h9 => h9) rfl dX8_comes_85 ?_
  refine lv_iload_n hx hb dX8_comes_88 rfl (lv_at hl 1 rfl) ?_
  obtain ⟨h22, hf⟩ := zck_s hf
  refine va_iald hx hb hK.1 hP 2 0 rfl rfl h22 dX8_comes_89 ?_
  refine lv_iload_n hx hb dX8_comes_90 rfl (lv_at hl 3 rfl) ?_
  refine lv_isub hx hb dX8_comes_91 ?_
  refine lv_i2l (v := ((((tmG.py mG) v1.toNatClampNeg) - v3)).toInt64) hx hb dX8_comes_92 rfl ?_
  refine lv_lmul hx hb dX8_comes_93 ?_
  refine lv_iload hx hb dX8_comes_94 (lv_at hl 5 rfl) ?_
  refine lv_i2l (v := v5.toInt64) hx hb dX8_comes_96 rfl ?_
  refine lv_aload_n hx hb dX8_comes_97 rfl (lv_at hl 0 rfl) ?_
  refine va_get (D := D) (ci := 8) (v := .ref (h 1)) (C := RX8) (T := TX8) (N := 56) hx hb hts tb_wsX80 hown hK.1 hP 0 rfl rfl 1 (by decide) (hts _ tb_5_6) (fun _ h9 => h9) rfl dX8_comes_98 ?_
  refine lv_iload_n hx hb dX8_comes_101 rfl (lv_at hl 1 rfl) ?_
  obtain ⟨h23, hf⟩ := zck_s hf
  refine va_iald hx hb hK.1 hP 1 0 rfl rfl h23 dX8_comes_102 ?_
  refine lv_iload_n hx hb dX8_comes_103 rfl (lv_at hl 2 rfl) ?_
  refine lv_isub hx hb dX8_comes_104 ?_
  refine lv_i2l (v := ((((tmG.px mG) v1.toNatClampNeg) - v2)).toInt64) hx hb dX8_comes_105 rfl ?_
  refine lv_lmul hx hb dX8_comes_106 ?_
  refine lv_lsub hx hb dX8_comes_107 ?_
  refine lv_topl (fun x24 ex24 => ?_)
  replace hf := zl_n ex24 hf
  refine lv_lstore (lv' := [(10, .long x24), (0, .ref (h 0)), (1, .int v1), (2, .int v2), (3, .int v3), (4, .int v4), (5, .int v5)]) hx hb dX8_comes_108 hl (by decide) rfl (fun ls hl => ?_)
  refine lv_iload hx hb dX8_comes_110 (lv_at hl 5 rfl) ?_
  refine lv_i2l (v := v4.toInt64) hx hb dX8_comes_112 rfl ?_
  refine lv_aload_n hx hb dX8_comes_113 rfl (lv_at hl 1 rfl) ?_
  refine va_get (D := D) (ci := 8) (v := .ref (h 2)) (C := RX8) (T := TX8) (N := 56) hx hb hts tb_wsX80 hown hK.1 hP 0 rfl rfl 2 (by decide) (hts _ tb_5_7) (fun _ h9 => h9) rfl dX8_comes_114 ?_
  refine lv_iload_n hx hb dX8_comes_117 rfl (lv_at hl 2 rfl) ?_
  obtain ⟨h25, hf⟩ := zck_s hf
  refine va_iald hx hb hK.1 hP 2 0 rfl rfl h25 dX8_comes_118 ?_
  refine lv_aload_n hx hb dX8_comes_119 rfl (lv_at hl 1 rfl) ?_
  refine va_get (D := D) (ci := 8) (v := .ref (h 4)) (C := RX8) (T := TX8) (N := 56) hx hb hts tb_wsX80 hown hK.1 hP 0 rfl rfl 4 (by decide) (hts _ tb_5_9) (fun _ h9 => h9) rfl dX8_comes_120 ?_
  refine lv_iload_n hx hb dX8_comes_123 rfl (lv_at hl 2 rfl) ?_
  obtain ⟨h26, hf⟩ := zck_s hf
  refine va_iald hx hb hK.1 hP 4 0 rfl rfl h26 dX8_comes_124 ?_
  refine lv_iadd hx hb dX8_comes_125 ?_
  refine lv_iload_n hx hb dX8_comes_126 rfl (lv_at hl 4 rfl) ?_
  refine lv_isub hx hb dX8_comes_127 ?_
  refine lv_i2l (v := (((((tmG.py mG) v1.toNatClampNeg) + ((tmG.dy mG) v1.toNatClampNeg)) - v3)).toInt64) hx hb dX8_comes_128 rfl ?_
  refine lv_lmul hx hb dX8_comes_129 ?_
  refine lv_iload hx hb dX8_comes_130 (lv_at hl 6 rfl) ?_
  refine lv_i2l (v := v5.toInt64) hx hb dX8_comes_132 rfl ?_
  refine lv_aload_n hx hb dX8_comes_133 rfl (lv_at hl 1 rfl) ?_
  refine va_get (D := D) (ci := 8) (v := .ref (h 1)) (C := RX8) (T := TX8) (N := 56) hx hb hts tb_wsX80 hown hK.1 hP 0 rfl rfl 1 (by decide) (hts _ tb_5_6) (fun _ h9 => h9) rfl dX8_comes_134 ?_
  refine lv_iload_n hx hb dX8_comes_137 rfl (lv_at hl 2 rfl) ?_
  obtain ⟨h27, hf⟩ := zck_s hf
  refine va_iald hx hb hK.1 hP 1 0 rfl rfl h27 dX8_comes_138 ?_
  refine lv_aload_n hx hb dX8_comes_139 rfl (lv_at hl 1 rfl) ?_
  refine va_get (D := D) (ci := 8) (v := .ref (h 3)) (C := RX8) (T := TX8) (N := 56) hx hb hts tb_wsX80 hown hK.1 hP 0 rfl rfl 3 (by decide) (hts _ tb_5_8) (fun _ h9 => h9) rfl dX8_comes_140 ?_
  refine lv_iload_n hx hb dX8_comes_143 rfl (lv_at hl 2 rfl) ?_
  obtain ⟨h28, hf⟩ := zck_s hf
  refine va_iald hx hb hK.1 hP 3 0 rfl rfl h28 dX8_comes_144 ?_
  refine lv_iadd hx hb dX8_comes_145 ?_
  refine lv_iload_n hx hb dX8_comes_146 rfl (lv_at hl 3 rfl) ?_
  refine lv_isub hx hb dX8_comes_147 ?_
  refine lv_i2l (v := (((((tmG.px mG) v1.toNatClampNeg) + ((tmG.dx mG) v1.toNatClampNeg)) - v2)).toInt64) hx hb dX8_comes_148 rfl ?_
  refine lv_lmul hx hb dX8_comes_149 ?_
  refine lv_lsub hx hb dX8_comes_150 ?_
  refine lv_topl (fun x29 ex29 => ?_)
  replace hf := zl_n ex29 hf
  refine lv_lstore (lv' := [(12, .long x29), (10, .long x24), (0, .ref (h 0)), (1, .int v1), (2, .int v2), (3, .int v3), (4, .int v4), (5, .int v5)]) hx hb dX8_comes_151 hl (by decide) rfl (fun ls hl => ?_)
  refine lv_aload_n hx hb dX8_comes_153 rfl (lv_at hl 2 rfl) ?_
  refine va_get (D := D) (ci := 8) (v := .long (tmM.comesUp mM)) (C := RX8) (T := TX8) (N := 56) hx hb hts tb_wsX80 hown hK.1 hP 0 rfl rfl 49 (by decide) (hts _ tb_24_15) (fun _ h9 => h9) rfl dX8_comes_154 ?_
  refine lv_lconst (v := 0) hx hb dX8_comes_157 (by decide) ?_
  refine W.lcmp hx hb dX8_comes_158 ?_
  refine lv_if_lt (tgt := 194) hx hb dX8_comes_159 (by decide) (fun c30 => ?_) (fun c30 => ?_)
  · replace hf := zif_t hf c30
    refine lv_iconst (v := 0) hx hb dX8_comes_194 (by decide) ?_
    obtain ⟨h31, hf⟩ := zcb_s hf
    have hu := Option.some.inj hf
    subst hu
    exact z_zret hC h31 hP hD hS dX8_comes_195
  · replace hf := zif_f hf c30
    refine lv_lload hx hb dX8_comes_162 (lv_at hl 1 rfl) ?_
    refine lv_lconst (v := 0) hx hb dX8_comes_164 (by decide) ?_
    refine W.lcmp hx hb dX8_comes_165 ?_
    refine lv_if_gt (tgt := 176) hx hb dX8_comes_166 (by decide) (fun c32 => ?_) (fun c32 => ?_)
    · replace hf := zif_t hf c32
      exact t_X8_comes_b176 hC  mG mH mR mW mS mK mD mN mO mB mF u (tmM.s_comesLow mM s0) x24 x29 H locs ls hP hD hS (lv_sub hl [1, 0] rfl) hf
    · replace hf := zif_f hf c32
      refine lv_lload hx hb dX8_comes_169 (lv_at hl 0 rfl) ?_
      refine lv_lconst (v := 0) hx hb dX8_comes_171 (by decide) ?_
      refine W.lcmp hx hb dX8_comes_172 ?_
      refine lv_if_ge (tgt := 190) hx hb dX8_comes_173 (by decide) (fun c33 => ?_) (fun c33 => ?_)
      · replace hf := zif_t hf c33
        exact t_X8_comes_b190 hC  mG mH mR mW mS mK mD mN mO mB mF u (tmM.s_comesLow mM s0) H locs ls hP hD hS (lv_sub hl [] rfl) hf
      · replace hf := zif_f hf c33
        exact t_X8_comes_b176 hC  mG mH mR mW mS mK mD mN mO mB mF u (tmM.s_comesLow mM s0) x24 x29 H locs ls hP hD hS (lv_sub hl [1, 0] rfl) hf
set_option maxHeartbeats 4000000 in
set_option maxRecDepth 100000 in
theorem t_X8_comes_b59 {p : Program} {l : Launch} {e : Env} {s : State} {m : MethodId} {args : Array Value} {below : List Frame} {meth : Method} {c : Code} {A : Nat → Prop} {D : va_G} {cI cJ cZ : ClassId} {h : Nat → Nat} (hC : zCx p s m args meth c A D (zty cI cJ cZ) cX8_comes RX8 20 (some .boolean)) (mG : tmG) (mH : tmH) (mR : tmR) (mW : tmW) (mS : tmS) (mK : tmK) (mD : tmD) (mN : tmN) (mO : tmO) (mB : tmB) (mF : tmF) (u : Int32 × tmM) : ∀ (mM : tmM) (v1 : Int32) (v2 : Int32) (v3 : Int32) (v4 : Int32) (v5 : Int32) (v8 : Int64) (s0 : Int64) (H : Heap) (locs : List Loc) (ls : Array Slot), va_P D vwCl (zWM cI cJ cZ h mG mH mR mW mS mK mD mN mO mB mM mF) H → va_D A (zWM cI cJ cZ h mG mH mR mW mS mK mD mN mO mB mM mF) → va_S A s.heap H locs → lv_has ls 20 [(0, .ref (h 0)), (1, .int v1), (2, .int v2), (3, .int v3), (4, .int v4), (5, .int v5), (8, .long v8)] → X8_comes_b59 mG mM v1 v2 v3 v4 v5 v8 s0 = some u → W p l e ({ frames := 1, cells := 0, slots := 0, locals := 25 } : Room) s m args below meth c H locs 0 0 (MQ below (zQi D A (zWM cI cJ cZ h mG mH mR mW mS mK mD mN mO mB u.2 mF) (u.1)) args s 0 0 A) (F0 m 59 ls [.long s0, .ref (h 0)]) := by
  intro mM v1 v2 v3 v4 v5 v8 s0 H locs ls hP hD hS hl hf
  obtain ⟨hx, hb, hml, hown, hts, hK, hr, hlocks, hA⟩ := id hC
  unfold X8_comes_b59 at hf
  refine va_put (D := D) (ci := 8) (v := .long s0) (ty := .long) (C := RX8) (T := TX8) (N := 56) hx hb hts tb_wsX80 tyX8 tyX8_ok nmX8 hown hK.1 hP hD hS 0 rfl rfl 49 (by decide) (hts _ tb_24_15) (fun _ h9 => h9) rfl (by decide +kernel) rfl rfl (Nat.le_of_ble_eq_true rfl) dX8_comes_59 (fun H locs hP hD hS => ?_)
  replace hP : va_P D vwCl (zWM cI cJ cZ h mG mH mR mW mS mK mD mN mO mB (tmM.s_comesUp mM s0) mF) H := hP
  replace hD : va_D A (zWM cI cJ cZ h mG mH mR mW mS mK mD mN mO mB (tmM.s_comesUp mM s0) mF) := hD
  refine lv_aload_n hx hb dX8_comes_62 rfl (lv_at hl 0 rfl) ?_
  refine lv_lload hx hb dX8_comes_63 (lv_at hl 6 rfl) ?_
  refine lv_lconst (v := 0) hx hb dX8_comes_65 (by decide) ?_
  refine W.lcmp hx hb dX8_comes_66 ?_
  refine lv_if_ge (tgt := 76) hx hb dX8_comes_67 (by decide) (fun c34 => ?_) (fun c34 => ?_)
  · replace hf := zif_t hf c34
    refine lv_lload hx hb dX8_comes_76 (lv_at hl 6 rfl) ?_
    exact t_X8_comes_b78 hC  mG mH mR mW mS mK mD mN mO mB mF u (tmM.s_comesUp mM s0) v1 v2 v3 v4 v5 v8 H locs ls hP hD hS (lv_sub hl [0, 1, 2, 3, 4, 5] rfl) hf
  · replace hf := zif_f hf c34
    refine lv_lload hx hb dX8_comes_70 (lv_at hl 6 rfl) ?_
    refine lv_lneg hx hb dX8_comes_72 ?_
    refine lv_goto (tgt := 78) hx hb dX8_comes_73 (by decide) ?_
    exact t_X8_comes_b78 hC  mG mH mR mW mS mK mD mN mO mB mF u (tmM.s_comesUp mM s0) v1 v2 v3 v4 v5 (-v8) H locs ls hP hD hS (lv_sub hl [0, 1, 2, 3, 4, 5] rfl) hf
set_option maxHeartbeats 4000000 in
set_option maxRecDepth 100000 in
theorem c_X8_comes (l : Launch) (D : va_G) (cI cJ cZ : ClassId) (h : Nat → Nat) (mG : tmG) (mH : tmH) (mR : tmR) (mW : tmW) (mS : tmS) (mK : tmK) (mD : tmD) (mN : tmN) (mO : tmO) (mB : tmB) (mM : tmM) (mF : tmF) (a1 : Int32) (a2 : Int32) (a3 : Int32) (a4 : Int32) (a5 : Int32) (u : Int32 × tmM) (hf : X8_comes mG mM a1 a2 a3 a4 a5 = some u) (sz : Nat) : Met l yX8_comes (Cond.code yX8_comes cX8_comes 20 (some .boolean) :: tb_L) ({ frames := 1, cells := 0, slots := 0, locals := 25 } : Room) (zPre D (zty cI cJ cZ) (zWM cI cJ cZ h mG mH mR mW mS mK mD mN mO mB mM mF) sz [.ref (h 0), .int a1, .int a2, .int a3, .int a4, .int a5]) (zQi D (va_A (zWM cI cJ cZ h mG mH mR mW mS mK mD mN mO mB mM mF) sz) (zWM cI cJ cZ h mG mH mR mW mS mK mD mN mO mB u.2 mF) (u.1)) 0 0 (va_A (zWM cI cJ cZ h mG mH mR mW mS mK mD mN mO mB mM mF) sz) := by
  refine zMet (Qc := fun A => zQi D A (zWM cI cJ cZ h mG mH mR mW mS mK mD mN mO mB u.2 mF) (u.1)) (by decide) rfl (Nat.le_of_ble_eq_true rfl) ?_
  intro p e s m args below meth c A ls hC _ hP hD hS hl
  replace hl : lv_has ls 20 [(0, .ref (h 0)), (1, .int a1), (2, .int a2), (3, .int a3), (4, .int a4), (5, .int a5)] := hl
  obtain ⟨hx, hb, hml, hown, hts, hK, hr, hlocks, hA⟩ := id hC
  unfold X8_comes at hf
  obtain ⟨H, hH⟩ : ∃ H, H = s.heap := ⟨_, rfl⟩
  rw [← hH] at hP
  replace hS : va_S A s.heap H [] := by rw [hH]; exact hS
  show W p l e _ s m args below meth c s.heap [] 0 0 _ _
  rw [← hH]
  clear hH
  obtain ⟨locs, hlo⟩ : ∃ x : List Loc, x = [] := ⟨_, rfl⟩
  rw [← hlo] at hS ⊢
  clear hlo
  refine lv_aload_n hx hb dX8_comes_0 rfl (lv_at hl 0 rfl) ?_
  refine lv_iload_n hx hb dX8_comes_1 rfl (lv_at hl 1 rfl) ?_
  refine lv_iload_n hx hb dX8_comes_2 rfl (lv_at hl 2 rfl) ?_
  refine lv_i2l (v := a2.toInt64) hx hb dX8_comes_3 rfl ?_
  refine lv_iload_n hx hb dX8_comes_4 rfl (lv_at hl 3 rfl) ?_
  refine lv_i2l (v := a3.toInt64) hx hb dX8_comes_5 rfl ?_
  obtain ⟨u35, hu35, hf⟩ := zbd hf
  refine zthen_l hA hD hS (zrunV (As := [.int a1, .long a2.toInt64, .long a3.toInt64]) (rest := []) hC hP hD 0 rfl rfl (c_X8_side l D cI cJ cZ h  mG mH mR mW mS mK mD mN mO mB mM mF a1 a2.toInt64 a3.toInt64 u35 hu35 H.size) kRX8_153 rfl rfl ⟨by decide, by decide⟩ rfl hl.1 rfl (Nat.le_of_ble_eq_true rfl) dX8_comes_6) (fun H locs hP hD hS => ?_)
  refine lv_lstore (lv' := [(6, .long u35), (0, .ref (h 0)), (1, .int a1), (2, .int a2), (3, .int a3), (4, .int a4), (5, .int a5)]) hx hb dX8_comes_9 hl (by decide) rfl (fun ls hl => ?_)
  refine lv_aload_n hx hb dX8_comes_11 rfl (lv_at hl 1 rfl) ?_
  refine va_get (D := D) (ci := 8) (v := .ref (h 3)) (C := RX8) (T := TX8) (N := 56) hx hb hts tb_wsX80 hown hK.1 hP 0 rfl rfl 3 (by decide) (hts _ tb_5_8) (fun _ h9 => h9) rfl dX8_comes_12 ?_
  refine lv_iload_n hx hb dX8_comes_15 rfl (lv_at hl 2 rfl) ?_
  obtain ⟨h36, hf⟩ := zck_s hf
  refine va_iald hx hb hK.1 hP 3 0 rfl rfl h36 dX8_comes_16 ?_
  refine lv_i2l (v := (((tmG.dx mG) a1.toNatClampNeg)).toInt64) hx hb dX8_comes_17 rfl ?_
  refine lv_iload hx hb dX8_comes_18 (lv_at hl 6 rfl) ?_
  refine lv_i2l (v := a5.toInt64) hx hb dX8_comes_20 rfl ?_
  refine lv_lmul hx hb dX8_comes_21 ?_
  refine lv_aload_n hx hb dX8_comes_22 rfl (lv_at hl 1 rfl) ?_
  refine va_get (D := D) (ci := 8) (v := .ref (h 4)) (C := RX8) (T := TX8) (N := 56) hx hb hts tb_wsX80 hown hK.1 hP 0 rfl rfl 4 (by decide) (hts _ tb_5_9) (fun _ h9 => h9) rfl dX8_comes_23 ?_
  refine lv_iload_n hx hb dX8_comes_26 rfl (lv_at hl 2 rfl) ?_
  obtain ⟨h37, hf⟩ := zck_s hf
  refine va_iald hx hb hK.1 hP 4 0 rfl rfl h37 dX8_comes_27 ?_
  refine lv_i2l (v := (((tmG.dy mG) a1.toNatClampNeg)).toInt64) hx hb dX8_comes_28 rfl ?_
  refine lv_iload hx hb dX8_comes_29 (lv_at hl 5 rfl) ?_
  refine lv_i2l (v := a4.toInt64) hx hb dX8_comes_31 rfl ?_
  refine lv_lmul hx hb dX8_comes_32 ?_
  refine lv_lsub hx hb dX8_comes_33 ?_
  refine lv_topl (fun x38 ex38 => ?_)
  replace hf := zl_n ex38 hf
  refine lv_lstore (lv' := [(8, .long x38), (6, .long u35), (0, .ref (h 0)), (1, .int a1), (2, .int a2), (3, .int a3), (4, .int a4), (5, .int a5)]) hx hb dX8_comes_34 hl (by decide) rfl (fun ls hl => ?_)
  refine lv_lload hx hb dX8_comes_36 (lv_at hl 0 rfl) ?_
  refine lv_lconst (v := 0) hx hb dX8_comes_38 (by decide) ?_
  refine W.lcmp hx hb dX8_comes_39 ?_
  refine lv_if_eq (tgt := 196) hx hb dX8_comes_40 (by decide) (fun c39 => ?_) (fun c39 => ?_)
  · replace hf := zif_t hf c39
    refine lv_lload hx hb dX8_comes_196 (lv_at hl 1 rfl) ?_
    refine lv_lconst (v := 0) hx hb dX8_comes_198 (by decide) ?_
    refine W.lcmp hx hb dX8_comes_199 ?_
    refine lv_if_eq (tgt := 205) hx hb dX8_comes_200 (by decide) (fun c40 => ?_) (fun c40 => ?_)
    · replace hf := zif_t hf c40
      refine lv_iload hx hb dX8_comes_205 (lv_at hl 6 rfl) ?_
      refine lv_if_eq (tgt := 216) hx hb dX8_comes_207 (by decide) (fun c41 => ?_) (fun c41 => ?_)
      · replace hf := zif_t hf c41
        refine lv_iload hx hb dX8_comes_216 (lv_at hl 7 rfl) ?_
        refine lv_i2l (v := a5.toInt64) hx hb dX8_comes_218 rfl ?_
        exact t_X8_comes_b219 hC  mG mH mR mW mS mK mD mN mO mB mF u mM a1 a2 a3 a4 a5.toInt64 H locs ls hP hD hS (lv_sub hl [2, 3, 4, 5, 6] rfl) hf
      · replace hf := zif_f hf c41
        refine lv_iload hx hb dX8_comes_210 (lv_at hl 6 rfl) ?_
        refine lv_i2l (v := a4.toInt64) hx hb dX8_comes_212 rfl ?_
        refine lv_goto (tgt := 219) hx hb dX8_comes_213 (by decide) ?_
        exact t_X8_comes_b219 hC  mG mH mR mW mS mK mD mN mO mB mF u mM a1 a2 a3 a4 a4.toInt64 H locs ls hP hD hS (lv_sub hl [2, 3, 4, 5, 6] rfl) hf
    · replace hf := zif_f hf c40
      refine lv_iconst (v := 0) hx hb dX8_comes_203 (by decide) ?_
      obtain ⟨h42, hf⟩ := zcb_s hf
      have hu := Option.some.inj hf
      subst hu
      exact z_zret hC h42 hP hD hS dX8_comes_204
  · replace hf := zif_f hf c39
    refine lv_aload_n hx hb dX8_comes_43 rfl (lv_at hl 2 rfl) ?_
    refine lv_lload hx hb dX8_comes_44 (lv_at hl 0 rfl) ?_
    refine lv_lconst (v := 0) hx hb dX8_comes_46 (by decide) ?_
    refine W.lcmp hx hb dX8_comes_47 ?_
    refine lv_if_ge (tgt := 56) hx hb dX8_comes_48 (by decide) (fun c43 => ?_) (fun c43 => ?_)
    · replace hf := zif_t hf c43
      refine lv_lload hx hb dX8_comes_56 (lv_at hl 1 rfl) ?_
      refine lv_lneg hx hb dX8_comes_58 ?_
      exact t_X8_comes_b59 hC  mG mH mR mW mS mK mD mN mO mB mF u mM a1 a2 a3 a4 a5 x38 (-u35) H locs ls hP hD hS (lv_sub hl [2, 3, 4, 5, 6, 7, 0] rfl) hf
    · replace hf := zif_f hf c43
      refine lv_lload hx hb dX8_comes_51 (lv_at hl 1 rfl) ?_
      refine lv_goto (tgt := 59) hx hb dX8_comes_53 (by decide) ?_
      exact t_X8_comes_b59 hC  mG mH mR mW mS mK mD mN mO mB mF u mM a1 a2 a3 a4 a5 x38 u35 H locs ls hP hD hS (lv_sub hl [2, 3, 4, 5, 6, 7, 0] rfl) hf
set_option maxHeartbeats 4000000 in
set_option maxRecDepth 100000 in
theorem t_X8_ray_b234 {p : Program} {l : Launch} {e : Env} {s : State} {m : MethodId} {args : Array Value} {below : List Frame} {meth : Method} {c : Code} {A : Nat → Prop} {D : va_G} {cI cJ cZ : ClassId} {h : Nat → Nat} (hC : zCx p s m args meth c A D (zty cI cJ cZ) cX8_ray RX8 13 (some .int)) (N : Nat) (mG : tmG) (mR : tmR) (mW : tmW) (mS : tmS) (mK : tmK) (mD : tmD) (mN : tmN) (mO : tmO) (mB : tmB) (mF : tmF) (u : Int32 × tmH × tmM) : ∀ (mH : tmH) (mM : tmM) (H : Heap) (locs : List Loc) (ls : Array Slot), va_P D vwCl (zWM cI cJ cZ h mG mH mR mW mS mK mD mN mO mB mM mF) H → va_D A (zWM cI cJ cZ h mG mH mR mW mS mK mD mN mO mB mM mF) → va_S A s.heap H locs → lv_has ls 13 [(0, .ref (h 0))] → X8_ray_b234 N mG mH mM = some u → W p l e ({ frames := 2, cells := 0, slots := 0, locals := 64 } : Room) s m args below meth c H locs 0 0 (MQ below (zQi D A (zWM cI cJ cZ h mG u.2.1 mR mW mS mK mD mN mO mB u.2.2 mF) (u.1)) args s 0 0 A) (F0 m 234 ls []) := by
  intro mH mM H locs ls hP hD hS hl hf
  obtain ⟨hx, hb, hml, hown, hts, hK, hr, hlocks, hA⟩ := id hC
  unfold X8_ray_b234 at hf
  refine lv_aload_n hx hb dX8_ray_234 rfl (lv_at hl 0 rfl) ?_
  refine va_get (D := D) (ci := 8) (v := .int (tmM.metMany mM)) (C := RX8) (T := TX8) (N := 56) hx hb hts tb_wsX80 hown hK.1 hP 0 rfl rfl 48 (by decide) (hts _ tb_24_14) (fun _ h9 => h9) rfl dX8_ray_235 ?_
  have hu := Option.some.inj hf
  subst hu
  exact z_iret hC hP hD hS dX8_ray_238
set_option maxHeartbeats 4000000 in
set_option maxRecDepth 100000 in
theorem t_X8_ray_b228 {p : Program} {l : Launch} {e : Env} {s : State} {m : MethodId} {args : Array Value} {below : List Frame} {meth : Method} {c : Code} {A : Nat → Prop} {D : va_G} {cI cJ cZ : ClassId} {h : Nat → Nat} (hC : zCx p s m args meth c A D (zty cI cJ cZ) cX8_ray RX8 13 (some .int)) (N : Nat) {mG : tmG} {mR : tmR} {mW : tmW} {mS : tmS} {mK : tmK} {mD : tmD} {mN : tmN} {mO : tmO} {mB : tmB} {mF : tmF} {u : Int32 × tmH × tmM} (k41 : tmH → tmM → Int32 → Int32 → Int32 → Int32 → Int32 → Option (Int32 × tmH × tmM)) (hk41 : ∀ (mH : tmH) (mM : tmM) (v1 : Int32) (v2 : Int32) (v3 : Int32) (v4 : Int32) (v5 : Int32) (H : Heap) (locs : List Loc) (ls : Array Slot), va_P D vwCl (zWM cI cJ cZ h mG mH mR mW mS mK mD mN mO mB mM mF) H → va_D A (zWM cI cJ cZ h mG mH mR mW mS mK mD mN mO mB mM mF) → va_S A s.heap H locs → lv_has ls 13 [(0, .ref (h 0)), (1, .int v1), (2, .int v2), (3, .int v3), (4, .int v4), (5, .int v5)] → k41 mH mM v1 v2 v3 v4 v5 = some u → W p l e ({ frames := 2, cells := 0, slots := 0, locals := 64 } : Room) s m args below meth c H locs 0 0 (MQ below (zQi D A (zWM cI cJ cZ h mG u.2.1 mR mW mS mK mD mN mO mB u.2.2 mF) (u.1)) args s 0 0 A) (F0 m 41 ls [])) : ∀ (mH : tmH) (mM : tmM) (v1 : Int32) (v2 : Int32) (v3 : Int32) (v4 : Int32) (v5 : Int32) (H : Heap) (locs : List Loc) (ls : Array Slot), va_P D vwCl (zWM cI cJ cZ h mG mH mR mW mS mK mD mN mO mB mM mF) H → va_D A (zWM cI cJ cZ h mG mH mR mW mS mK mD mN mO mB mM mF) → va_S A s.heap H locs → lv_has ls 13 [(0, .ref (h 0)), (1, .int v1), (2, .int v2), (3, .int v3), (4, .int v4), (5, .int v5)] → X8_ray_b228 N k41 mG mH mM v1 v2 v3 v4 v5 = some u → W p l e ({ frames := 2, cells := 0, slots := 0, locals := 64 } : Room) s m args below meth c H locs 0 0 (MQ below (zQi D A (zWM cI cJ cZ h mG u.2.1 mR mW mS mK mD mN mO mB u.2.2 mF) (u.1)) args s 0 0 A) (F0 m 228 ls []) := by
  intro mH mM v1 v2 v3 v4 v5 H locs ls hP hD hS hl hf
  obtain ⟨hx, hb, hml, hown, hts, hK, hr, hlocks, hA⟩ := id hC
  unfold X8_ray_b228 at hf
  refine lv_iinc (v := (v5 + (1 : Int32))) (lv' := [(5, .int (v5 + (1 : Int32))), (0, .ref (h 0)), (1, .int v1), (2, .int v2), (3, .int v3), (4, .int v4)]) hx hb dX8_ray_228 hl (k := 5) rfl rfl (by decide) rfl (fun ls hl => ?_)
  refine lv_goto (tgt := 41) hx hb dX8_ray_231 (by decide) ?_
  exact hk41 mH mM v1 v2 v3 v4 (v5 + (1 : Int32)) H locs ls hP hD hS (lv_sub hl [1, 2, 3, 4, 5, 0] rfl) hf
set_option maxHeartbeats 4000000 in
set_option maxRecDepth 100000 in
theorem t_X8_ray_b191 {p : Program} {l : Launch} {e : Env} {s : State} {m : MethodId} {args : Array Value} {below : List Frame} {meth : Method} {c : Code} {A : Nat → Prop} {D : va_G} {cI cJ cZ : ClassId} {h : Nat → Nat} (hC : zCx p s m args meth c A D (zty cI cJ cZ) cX8_ray RX8 13 (some .int)) (N : Nat) {mG : tmG} {mR : tmR} {mW : tmW} {mS : tmS} {mK : tmK} {mD : tmD} {mN : tmN} {mO : tmO} {mB : tmB} {mF : tmF} {u : Int32 × tmH × tmM} (k41 : tmH → tmM → Int32 → Int32 → Int32 → Int32 → Int32 → Option (Int32 × tmH × tmM)) (hk41 : ∀ (mH : tmH) (mM : tmM) (v1 : Int32) (v2 : Int32) (v3 : Int32) (v4 : Int32) (v5 : Int32) (H : Heap) (locs : List Loc) (ls : Array Slot), va_P D vwCl (zWM cI cJ cZ h mG mH mR mW mS mK mD mN mO mB mM mF) H → va_D A (zWM cI cJ cZ h mG mH mR mW mS mK mD mN mO mB mM mF) → va_S A s.heap H locs → lv_has ls 13 [(0, .ref (h 0)), (1, .int v1), (2, .int v2), (3, .int v3), (4, .int v4), (5, .int v5)] → k41 mH mM v1 v2 v3 v4 v5 = some u → W p l e ({ frames := 2, cells := 0, slots := 0, locals := 64 } : Room) s m args below meth c H locs 0 0 (MQ below (zQi D A (zWM cI cJ cZ h mG u.2.1 mR mW mS mK mD mN mO mB u.2.2 mF) (u.1)) args s 0 0 A) (F0 m 41 ls [])) : ∀ (mH : tmH) (mM : tmM) (v1 : Int32) (v2 : Int32) (v3 : Int32) (v4 : Int32) (v5 : Int32) (v8 : Int64) (v10 : Int64) (v12 : Int32) (H : Heap) (locs : List Loc) (ls : Array Slot), va_P D vwCl (zWM cI cJ cZ h mG mH mR mW mS mK mD mN mO mB mM mF) H → va_D A (zWM cI cJ cZ h mG mH mR mW mS mK mD mN mO mB mM mF) → va_S A s.heap H locs → lv_has ls 13 [(0, .ref (h 0)), (1, .int v1), (2, .int v2), (3, .int v3), (4, .int v4), (5, .int v5), (8, .long v8), (10, .long v10), (12, .int v12)] → X8_ray_b191 N k41 mG mH mM v1 v2 v3 v4 v5 v8 v10 v12 = some u → W p l e ({ frames := 2, cells := 0, slots := 0, locals := 64 } : Room) s m args below meth c H locs 0 0 (MQ below (zQi D A (zWM cI cJ cZ h mG u.2.1 mR mW mS mK mD mN mO mB u.2.2 mF) (u.1)) args s 0 0 A) (F0 m 191 ls []) := by
  intro mH mM v1 v2 v3 v4 v5 v8 v10 v12 H locs ls hP hD hS hl hf
  obtain ⟨hx, hb, hml, hown, hts, hK, hr, hlocks, hA⟩ := id hC
  unfold X8_ray_b191 at hf
  refine lv_aload_n hx hb dX8_ray_191 rfl (lv_at hl 0 rfl) ?_
  refine va_get (D := D) (ci := 8) (v := .ref (h 34)) (C := RX8) (T := TX8) (N := 56) hx hb hts tb_wsX80 hown hK.1 hP 0 rfl rfl 45 (by decide) (hts _ tb_6_16) (fun _ h9 => h9) rfl dX8_ray_192 ?_
  refine lv_iload hx hb dX8_ray_195 (lv_at hl 8 rfl) ?_
  refine lv_iload hx hb dX8_ray_197 (lv_at hl 5 rfl) ?_
  obtain ⟨h1, hf⟩ := zck_s hf
  refine va_iast hx hb hK.1 hP hD hS 34 0 rfl rfl h1 dX8_ray_199 (fun H locs hP hD hS => ?_)
  replace hP : va_P D vwCl (zWM cI cJ cZ h mG mH mR mW mS mK mD mN mO mB (tmM.s_metPiece mM (upd (tmM.metPiece mM) v12.toNatClampNeg v5)) mF) H := hP
  replace hD : va_D A (zWM cI cJ cZ h mG mH mR mW mS mK mD mN mO mB (tmM.s_metPiece mM (upd (tmM.metPiece mM) v12.toNatClampNeg v5)) mF) := hD
  refine lv_aload_n hx hb dX8_ray_200 rfl (lv_at hl 0 rfl) ?_
  refine va_get (D := D) (ci := 8) (v := .ref (h 35)) (C := RX8) (T := TX8) (N := 56) hx hb hts tb_wsX80 hown hK.1 hP 0 rfl rfl 46 (by decide) (hts _ tb_6_17) (fun _ h9 => h9) rfl dX8_ray_201 ?_
  refine lv_iload hx hb dX8_ray_204 (lv_at hl 8 rfl) ?_
  refine lv_lload hx hb dX8_ray_206 (lv_at hl 6 rfl) ?_
  obtain ⟨h2, hf⟩ := zck_s hf
  refine va_last hx hb hK.1 hP hD hS 35 1 rfl rfl h2 dX8_ray_208 (fun H locs hP hD hS => ?_)
  replace hP : va_P D vwCl (zWM cI cJ cZ h mG mH mR mW mS mK mD mN mO mB (tmM.s_metUp (tmM.s_metPiece mM (upd (tmM.metPiece mM) v12.toNatClampNeg v5)) (vp_updL (tmM.metUp mM) v12.toNatClampNeg v8)) mF) H := hP
  replace hD : va_D A (zWM cI cJ cZ h mG mH mR mW mS mK mD mN mO mB (tmM.s_metUp (tmM.s_metPiece mM (upd (tmM.metPiece mM) v12.toNatClampNeg v5)) (vp_updL (tmM.metUp mM) v12.toNatClampNeg v8)) mF) := hD
  refine lv_aload_n hx hb dX8_ray_209 rfl (lv_at hl 0 rfl) ?_
  refine va_get (D := D) (ci := 8) (v := .ref (h 36)) (C := RX8) (T := TX8) (N := 56) hx hb hts tb_wsX80 hown hK.1 hP 0 rfl rfl 47 (by decide) (hts _ tb_6_18) (fun _ h9 => h9) rfl dX8_ray_210 ?_
  refine lv_iload hx hb dX8_ray_213 (lv_at hl 8 rfl) ?_
  refine lv_lload hx hb dX8_ray_215 (lv_at hl 7 rfl) ?_
  obtain ⟨h3, hf⟩ := zck_s hf
  refine va_last hx hb hK.1 hP hD hS 36 1 rfl rfl h3 dX8_ray_217 (fun H locs hP hD hS => ?_)
  replace hP : va_P D vwCl (zWM cI cJ cZ h mG mH mR mW mS mK mD mN mO mB (tmM.s_metLow (tmM.s_metUp (tmM.s_metPiece mM (upd (tmM.metPiece mM) v12.toNatClampNeg v5)) (vp_updL (tmM.metUp mM) v12.toNatClampNeg v8)) (vp_updL (tmM.metLow mM) v12.toNatClampNeg v10)) mF) H := hP
  replace hD : va_D A (zWM cI cJ cZ h mG mH mR mW mS mK mD mN mO mB (tmM.s_metLow (tmM.s_metUp (tmM.s_metPiece mM (upd (tmM.metPiece mM) v12.toNatClampNeg v5)) (vp_updL (tmM.metUp mM) v12.toNatClampNeg v8)) (vp_updL (tmM.metLow mM) v12.toNatClampNeg v10)) mF) := hD
  refine lv_aload_n hx hb dX8_ray_218 rfl (lv_at hl 0 rfl) ?_
  refine lv_dup hx hb dX8_ray_219 rfl ?_
  refine va_get (D := D) (ci := 8) (v := .int (tmM.metMany mM)) (C := RX8) (T := TX8) (N := 56) hx hb hts tb_wsX80 hown hK.1 hP 0 rfl rfl 48 (by decide) (hts _ tb_24_14) (fun _ h9 => h9) rfl dX8_ray_220 ?_
  refine lv_iconst (v := 1) hx hb dX8_ray_223 (by decide) ?_
  refine lv_iadd hx hb dX8_ray_224 ?_
  refine va_put (D := D) (ci := 8) (v := .int ((tmM.metMany mM) + (1 : Int32))) (ty := .int) (C := RX8) (T := TX8) (N := 56) hx hb hts tb_wsX80 tyX8 tyX8_ok nmX8 hown hK.1 hP hD hS 0 rfl rfl 48 (by decide) (hts _ tb_24_14) (fun _ h9 => h9) rfl (by decide +kernel) rfl rfl (Nat.le_of_ble_eq_true rfl) dX8_ray_225 (fun H locs hP hD hS => ?_)
  replace hP : va_P D vwCl (zWM cI cJ cZ h mG mH mR mW mS mK mD mN mO mB (tmM.s_metMany (tmM.s_metLow (tmM.s_metUp (tmM.s_metPiece mM (upd (tmM.metPiece mM) v12.toNatClampNeg v5)) (vp_updL (tmM.metUp mM) v12.toNatClampNeg v8)) (vp_updL (tmM.metLow mM) v12.toNatClampNeg v10)) ((tmM.metMany mM) + (1 : Int32))) mF) H := hP
  replace hD : va_D A (zWM cI cJ cZ h mG mH mR mW mS mK mD mN mO mB (tmM.s_metMany (tmM.s_metLow (tmM.s_metUp (tmM.s_metPiece mM (upd (tmM.metPiece mM) v12.toNatClampNeg v5)) (vp_updL (tmM.metUp mM) v12.toNatClampNeg v8)) (vp_updL (tmM.metLow mM) v12.toNatClampNeg v10)) ((tmM.metMany mM) + (1 : Int32))) mF) := hD
  exact t_X8_ray_b228 hC N k41 hk41  mH (tmM.s_metMany (tmM.s_metLow (tmM.s_metUp (tmM.s_metPiece mM (upd (tmM.metPiece mM) v12.toNatClampNeg v5)) (vp_updL (tmM.metUp mM) v12.toNatClampNeg v8)) (vp_updL (tmM.metLow mM) v12.toNatClampNeg v10)) ((tmM.metMany mM) + (1 : Int32))) v1 v2 v3 v4 v5 H locs ls hP hD hS (lv_sub hl [0, 1, 2, 3, 4, 5] rfl) hf
set_option maxHeartbeats 4000000 in
set_option maxRecDepth 100000 in
theorem t_X8_ray_b104 {p : Program} {l : Launch} {e : Env} {s : State} {m : MethodId} {args : Array Value} {below : List Frame} {meth : Method} {c : Code} {A : Nat → Prop} {D : va_G} {cI cJ cZ : ClassId} {h : Nat → Nat} (hC : zCx p s m args meth c A D (zty cI cJ cZ) cX8_ray RX8 13 (some .int)) (N : Nat) {mG : tmG} {mR : tmR} {mW : tmW} {mS : tmS} {mK : tmK} {mD : tmD} {mN : tmN} {mO : tmO} {mB : tmB} {mF : tmF} {u : Int32 × tmH × tmM} (k41 : tmH → tmM → Int32 → Int32 → Int32 → Int32 → Int32 → Option (Int32 × tmH × tmM)) (hk41 : ∀ (mH : tmH) (mM : tmM) (v1 : Int32) (v2 : Int32) (v3 : Int32) (v4 : Int32) (v5 : Int32) (H : Heap) (locs : List Loc) (ls : Array Slot), va_P D vwCl (zWM cI cJ cZ h mG mH mR mW mS mK mD mN mO mB mM mF) H → va_D A (zWM cI cJ cZ h mG mH mR mW mS mK mD mN mO mB mM mF) → va_S A s.heap H locs → lv_has ls 13 [(0, .ref (h 0)), (1, .int v1), (2, .int v2), (3, .int v3), (4, .int v4), (5, .int v5)] → k41 mH mM v1 v2 v3 v4 v5 = some u → W p l e ({ frames := 2, cells := 0, slots := 0, locals := 64 } : Room) s m args below meth c H locs 0 0 (MQ below (zQi D A (zWM cI cJ cZ h mG u.2.1 mR mW mS mK mD mN mO mB u.2.2 mF) (u.1)) args s 0 0 A) (F0 m 41 ls [])) : ∀ (n : Nat) (mH : tmH) (mM : tmM) (v1 : Int32) (v2 : Int32) (v3 : Int32) (v4 : Int32) (v5 : Int32) (v8 : Int64) (v10 : Int64) (v12 : Int32) (H : Heap) (locs : List Loc) (ls : Array Slot), va_P D vwCl (zWM cI cJ cZ h mG mH mR mW mS mK mD mN mO mB mM mF) H → va_D A (zWM cI cJ cZ h mG mH mR mW mS mK mD mN mO mB mM mF) → va_S A s.heap H locs → lv_has ls 13 [(0, .ref (h 0)), (1, .int v1), (2, .int v2), (3, .int v3), (4, .int v4), (5, .int v5), (8, .long v8), (10, .long v10), (12, .int v12)] → X8_ray_b104 N k41 mG n mH mM v1 v2 v3 v4 v5 v8 v10 v12 = some u → W p l e ({ frames := 2, cells := 0, slots := 0, locals := 64 } : Room) s m args below meth c H locs 0 0 (MQ below (zQi D A (zWM cI cJ cZ h mG u.2.1 mR mW mS mK mD mN mO mB u.2.2 mF) (u.1)) args s 0 0 A) (F0 m 104 ls []) := by
  intro n
  induction n with
  | zero =>
    intro mH mM v1 v2 v3 v4 v5 v8 v10 v12 H locs ls hP hD hS hl hf
    cases hf
  | succ n ih =>
    intro mH mM v1 v2 v3 v4 v5 v8 v10 v12 H locs ls hP hD hS hl hf
    obtain ⟨hx, hb, hml, hown, hts, hK, hr, hlocks, hA⟩ := id hC
    rw [X8_ray_b104] at hf
    refine lv_iload hx hb dX8_ray_104 (lv_at hl 8 rfl) ?_
    refine lv_if_le (tgt := 191) hx hb dX8_ray_106 (by decide) (fun c4 => ?_) (fun c4 => ?_)
    · replace hf := zif_t hf c4
      exact t_X8_ray_b191 hC N k41 hk41  mH mM v1 v2 v3 v4 v5 v8 v10 v12 H locs ls hP hD hS (lv_sub hl [0, 1, 2, 3, 4, 5, 6, 7, 8] rfl) hf
    · replace hf := zif_f hf c4
      refine lv_lload hx hb dX8_ray_109 (lv_at hl 6 rfl) ?_
      refine lv_aload_n hx hb dX8_ray_111 rfl (lv_at hl 0 rfl) ?_
      refine va_get (D := D) (ci := 8) (v := .ref (h 36)) (C := RX8) (T := TX8) (N := 56) hx hb hts tb_wsX80 hown hK.1 hP 0 rfl rfl 47 (by decide) (hts _ tb_6_18) (fun _ h9 => h9) rfl dX8_ray_112 ?_
      refine lv_iload hx hb dX8_ray_115 (lv_at hl 8 rfl) ?_
      refine lv_iconst (v := 1) hx hb dX8_ray_117 (by decide) ?_
      refine lv_isub hx hb dX8_ray_118 ?_
      obtain ⟨h5, hf⟩ := zck_s hf
      refine va_lald hx hb hK.1 hP 36 1 rfl rfl h5 dX8_ray_119 ?_
      refine lv_lmul hx hb dX8_ray_120 ?_
      refine lv_aload_n hx hb dX8_ray_121 rfl (lv_at hl 0 rfl) ?_
      refine va_get (D := D) (ci := 8) (v := .ref (h 35)) (C := RX8) (T := TX8) (N := 56) hx hb hts tb_wsX80 hown hK.1 hP 0 rfl rfl 46 (by decide) (hts _ tb_6_17) (fun _ h9 => h9) rfl dX8_ray_122 ?_
      refine lv_iload hx hb dX8_ray_125 (lv_at hl 8 rfl) ?_
      refine lv_iconst (v := 1) hx hb dX8_ray_127 (by decide) ?_
      refine lv_isub hx hb dX8_ray_128 ?_
      obtain ⟨h6, hf⟩ := zck_s hf
      refine va_lald hx hb hK.1 hP 35 1 rfl rfl h6 dX8_ray_129 ?_
      refine lv_lload hx hb dX8_ray_130 (lv_at hl 7 rfl) ?_
      refine lv_lmul hx hb dX8_ray_132 ?_
      refine W.lcmp hx hb dX8_ray_133 ?_
      refine lv_if_ge (tgt := 191) hx hb dX8_ray_134 (by decide) (fun c7 => ?_) (fun c7 => ?_)
      · replace hf := zif_t hf c7
        exact t_X8_ray_b191 hC N k41 hk41  mH mM v1 v2 v3 v4 v5 v8 v10 v12 H locs ls hP hD hS (lv_sub hl [0, 1, 2, 3, 4, 5, 6, 7, 8] rfl) hf
      · replace hf := zif_f hf c7
        refine lv_aload_n hx hb dX8_ray_137 rfl (lv_at hl 0 rfl) ?_
        refine va_get (D := D) (ci := 8) (v := .ref (h 34)) (C := RX8) (T := TX8) (N := 56) hx hb hts tb_wsX80 hown hK.1 hP 0 rfl rfl 45 (by decide) (hts _ tb_6_16) (fun _ h9 => h9) rfl dX8_ray_138 ?_
        refine lv_iload hx hb dX8_ray_141 (lv_at hl 8 rfl) ?_
        refine lv_aload_n hx hb dX8_ray_143 rfl (lv_at hl 0 rfl) ?_
        refine va_get (D := D) (ci := 8) (v := .ref (h 34)) (C := RX8) (T := TX8) (N := 56) hx hb hts tb_wsX80 hown hK.1 hP 0 rfl rfl 45 (by decide) (hts _ tb_6_16) (fun _ h9 => h9) rfl dX8_ray_144 ?_
        refine lv_iload hx hb dX8_ray_147 (lv_at hl 8 rfl) ?_
        refine lv_iconst (v := 1) hx hb dX8_ray_149 (by decide) ?_
        refine lv_isub hx hb dX8_ray_150 ?_
        obtain ⟨h8, hf⟩ := zck_s hf
        refine va_iald hx hb hK.1 hP 34 0 rfl rfl h8 dX8_ray_151 ?_
        obtain ⟨h9, hf⟩ := zck_s hf
        refine va_iast hx hb hK.1 hP hD hS 34 0 rfl rfl h9 dX8_ray_152 (fun H locs hP hD hS => ?_)
        replace hP : va_P D vwCl (zWM cI cJ cZ h mG mH mR mW mS mK mD mN mO mB (tmM.s_metPiece mM (upd (tmM.metPiece mM) v12.toNatClampNeg ((tmM.metPiece mM) (v12 - (1 : Int32)).toNatClampNeg))) mF) H := hP
        replace hD : va_D A (zWM cI cJ cZ h mG mH mR mW mS mK mD mN mO mB (tmM.s_metPiece mM (upd (tmM.metPiece mM) v12.toNatClampNeg ((tmM.metPiece mM) (v12 - (1 : Int32)).toNatClampNeg))) mF) := hD
        refine lv_aload_n hx hb dX8_ray_153 rfl (lv_at hl 0 rfl) ?_
        refine va_get (D := D) (ci := 8) (v := .ref (h 35)) (C := RX8) (T := TX8) (N := 56) hx hb hts tb_wsX80 hown hK.1 hP 0 rfl rfl 46 (by decide) (hts _ tb_6_17) (fun _ h9 => h9) rfl dX8_ray_154 ?_
        refine lv_iload hx hb dX8_ray_157 (lv_at hl 8 rfl) ?_
        refine lv_aload_n hx hb dX8_ray_159 rfl (lv_at hl 0 rfl) ?_
        refine va_get (D := D) (ci := 8) (v := .ref (h 35)) (C := RX8) (T := TX8) (N := 56) hx hb hts tb_wsX80 hown hK.1 hP 0 rfl rfl 46 (by decide) (hts _ tb_6_17) (fun _ h9 => h9) rfl dX8_ray_160 ?_
        refine lv_iload hx hb dX8_ray_163 (lv_at hl 8 rfl) ?_
        refine lv_iconst (v := 1) hx hb dX8_ray_165 (by decide) ?_
        refine lv_isub hx hb dX8_ray_166 ?_
        obtain ⟨h10, hf⟩ := zck_s hf
        refine va_lald hx hb hK.1 hP 35 1 rfl rfl h10 dX8_ray_167 ?_
        obtain ⟨h11, hf⟩ := zck_s hf
        refine va_last hx hb hK.1 hP hD hS 35 1 rfl rfl h11 dX8_ray_168 (fun H locs hP hD hS => ?_)
        replace hP : va_P D vwCl (zWM cI cJ cZ h mG mH mR mW mS mK mD mN mO mB (tmM.s_metUp (tmM.s_metPiece mM (upd (tmM.metPiece mM) v12.toNatClampNeg ((tmM.metPiece mM) (v12 - (1 : Int32)).toNatClampNeg))) (vp_updL (tmM.metUp mM) v12.toNatClampNeg ((tmM.metUp mM) (v12 - (1 : Int32)).toNatClampNeg))) mF) H := hP
        replace hD : va_D A (zWM cI cJ cZ h mG mH mR mW mS mK mD mN mO mB (tmM.s_metUp (tmM.s_metPiece mM (upd (tmM.metPiece mM) v12.toNatClampNeg ((tmM.metPiece mM) (v12 - (1 : Int32)).toNatClampNeg))) (vp_updL (tmM.metUp mM) v12.toNatClampNeg ((tmM.metUp mM) (v12 - (1 : Int32)).toNatClampNeg))) mF) := hD
        refine lv_aload_n hx hb dX8_ray_169 rfl (lv_at hl 0 rfl) ?_
        refine va_get (D := D) (ci := 8) (v := .ref (h 36)) (C := RX8) (T := TX8) (N := 56) hx hb hts tb_wsX80 hown hK.1 hP 0 rfl rfl 47 (by decide) (hts _ tb_6_18) (fun _ h9 => h9) rfl dX8_ray_170 ?_
        refine lv_iload hx hb dX8_ray_173 (lv_at hl 8 rfl) ?_
        refine lv_aload_n hx hb dX8_ray_175 rfl (lv_at hl 0 rfl) ?_
        refine va_get (D := D) (ci := 8) (v := .ref (h 36)) (C := RX8) (T := TX8) (N := 56) hx hb hts tb_wsX80 hown hK.1 hP 0 rfl rfl 47 (by decide) (hts _ tb_6_18) (fun _ h9 => h9) rfl dX8_ray_176 ?_
        refine lv_iload hx hb dX8_ray_179 (lv_at hl 8 rfl) ?_
        refine lv_iconst (v := 1) hx hb dX8_ray_181 (by decide) ?_
        refine lv_isub hx hb dX8_ray_182 ?_
        obtain ⟨h12, hf⟩ := zck_s hf
        refine va_lald hx hb hK.1 hP 36 1 rfl rfl h12 dX8_ray_183 ?_
        obtain ⟨h13, hf⟩ := zck_s hf
        refine va_last hx hb hK.1 hP hD hS 36 1 rfl rfl h13 dX8_ray_184 (fun H locs hP hD hS => ?_)
        replace hP : va_P D vwCl (zWM cI cJ cZ h mG mH mR mW mS mK mD mN mO mB (tmM.s_metLow (tmM.s_metUp (tmM.s_metPiece mM (upd (tmM.metPiece mM) v12.toNatClampNeg ((tmM.metPiece mM) (v12 - (1 : Int32)).toNatClampNeg))) (vp_updL (tmM.metUp mM) v12.toNatClampNeg ((tmM.metUp mM) (v12 - (1 : Int32)).toNatClampNeg))) (vp_updL (tmM.metLow mM) v12.toNatClampNeg ((tmM.metLow mM) (v12 - (1 : Int32)).toNatClampNeg))) mF) H := hP
        replace hD : va_D A (zWM cI cJ cZ h mG mH mR mW mS mK mD mN mO mB (tmM.s_metLow (tmM.s_metUp (tmM.s_metPiece mM (upd (tmM.metPiece mM) v12.toNatClampNeg ((tmM.metPiece mM) (v12 - (1 : Int32)).toNatClampNeg))) (vp_updL (tmM.metUp mM) v12.toNatClampNeg ((tmM.metUp mM) (v12 - (1 : Int32)).toNatClampNeg))) (vp_updL (tmM.metLow mM) v12.toNatClampNeg ((tmM.metLow mM) (v12 - (1 : Int32)).toNatClampNeg))) mF) := hD
        refine lv_iinc (v := (v12 + (-1 : Int32))) (lv' := [(12, .int (v12 + (-1 : Int32))), (0, .ref (h 0)), (1, .int v1), (2, .int v2), (3, .int v3), (4, .int v4), (5, .int v5), (8, .long v8), (10, .long v10)]) hx hb dX8_ray_185 hl (k := 8) rfl rfl (by decide) rfl (fun ls hl => ?_)
        refine lv_goto (tgt := 104) hx hb dX8_ray_188 (by decide) ?_
        exact ih mH (tmM.s_metLow (tmM.s_metUp (tmM.s_metPiece mM (upd (tmM.metPiece mM) v12.toNatClampNeg ((tmM.metPiece mM) (v12 - (1 : Int32)).toNatClampNeg))) (vp_updL (tmM.metUp mM) v12.toNatClampNeg ((tmM.metUp mM) (v12 - (1 : Int32)).toNatClampNeg))) (vp_updL (tmM.metLow mM) v12.toNatClampNeg ((tmM.metLow mM) (v12 - (1 : Int32)).toNatClampNeg))) v1 v2 v3 v4 v5 v8 v10 (v12 + (-1 : Int32)) H locs ls hP hD hS (lv_sub hl [1, 2, 3, 4, 5, 6, 7, 8, 0] rfl) hf
set_option maxHeartbeats 4000000 in
set_option maxRecDepth 100000 in
theorem t_X8_ray_b41 {p : Program} {l : Launch} {e : Env} {s : State} {m : MethodId} {args : Array Value} {below : List Frame} {meth : Method} {c : Code} {A : Nat → Prop} {D : va_G} {cI cJ cZ : ClassId} {h : Nat → Nat} (hC : zCx p s m args meth c A D (zty cI cJ cZ) cX8_ray RX8 13 (some .int)) (N : Nat) (mG : tmG) (mR : tmR) (mW : tmW) (mS : tmS) (mK : tmK) (mD : tmD) (mN : tmN) (mO : tmO) (mB : tmB) (mF : tmF) (u : Int32 × tmH × tmM) : ∀ (n : Nat) (mH : tmH) (mM : tmM) (v1 : Int32) (v2 : Int32) (v3 : Int32) (v4 : Int32) (v5 : Int32) (H : Heap) (locs : List Loc) (ls : Array Slot), va_P D vwCl (zWM cI cJ cZ h mG mH mR mW mS mK mD mN mO mB mM mF) H → va_D A (zWM cI cJ cZ h mG mH mR mW mS mK mD mN mO mB mM mF) → va_S A s.heap H locs → lv_has ls 13 [(0, .ref (h 0)), (1, .int v1), (2, .int v2), (3, .int v3), (4, .int v4), (5, .int v5)] → X8_ray_b41 N mG n mH mM v1 v2 v3 v4 v5 = some u → W p l e ({ frames := 2, cells := 0, slots := 0, locals := 64 } : Room) s m args below meth c H locs 0 0 (MQ below (zQi D A (zWM cI cJ cZ h mG u.2.1 mR mW mS mK mD mN mO mB u.2.2 mF) (u.1)) args s 0 0 A) (F0 m 41 ls []) := by
  intro n
  induction n with
  | zero =>
    intro mH mM v1 v2 v3 v4 v5 H locs ls hP hD hS hl hf
    cases hf
  | succ n ih =>
    intro mH mM v1 v2 v3 v4 v5 H locs ls hP hD hS hl hf
    obtain ⟨hx, hb, hml, hown, hts, hK, hr, hlocks, hA⟩ := id hC
    rw [X8_ray_b41] at hf
    refine lv_iload hx hb dX8_ray_41 (lv_at hl 5 rfl) ?_
    refine lv_aload_n hx hb dX8_ray_43 rfl (lv_at hl 0 rfl) ?_
    refine va_get (D := D) (ci := 8) (v := .int (tmG.pieces mG)) (C := RX8) (T := TX8) (N := 56) hx hb hts tb_wsX80 hown hK.1 hP 0 rfl rfl 0 (by decide) (hts _ tb_8_4) (fun _ h9 => h9) rfl dX8_ray_44 ?_
    refine lv_icmp_ge (tgt := 234) hx hb dX8_ray_47 (by decide) (fun c14 => ?_) (fun c14 => ?_)
    · replace hf := zif_t hf c14
      exact t_X8_ray_b234 hC N mG mR mW mS mK mD mN mO mB mF u mH mM H locs ls hP hD hS (lv_sub hl [0] rfl) hf
    · replace hf := zif_f hf c14
      refine lv_aload_n hx hb dX8_ray_50 rfl (lv_at hl 0 rfl) ?_
      refine lv_iload hx hb dX8_ray_51 (lv_at hl 5 rfl) ?_
      refine lv_iload_n hx hb dX8_ray_53 rfl (lv_at hl 1 rfl) ?_
      refine lv_iload_n hx hb dX8_ray_54 rfl (lv_at hl 2 rfl) ?_
      refine lv_iload_n hx hb dX8_ray_55 rfl (lv_at hl 3 rfl) ?_
      refine lv_iload hx hb dX8_ray_56 (lv_at hl 4 rfl) ?_
      obtain ⟨u15, hu15, hf⟩ := zbd hf
      refine zthen_i hA hD hS (zrunV (As := [.int v5, .int v1, .int v2, .int v3, .int v4]) (rest := []) hC hP hD 0 rfl rfl (c_X8_comes l D cI cJ cZ h  mG mH mR mW mS mK mD mN mO mB mM mF v5 v1 v2 v3 v4 u15 hu15 H.size) kRX8_258 rfl rfl ⟨by decide, by decide⟩ rfl hl.1 rfl (Nat.le_of_ble_eq_true rfl) dX8_ray_58) (fun H locs hP hD hS => ?_)
      refine lv_if_ne (tgt := 67) hx hb dX8_ray_61 (by decide) (fun c16 => ?_) (fun c16 => ?_)
      · replace hf := zif_f hf c16
        refine lv_aload_n hx hb dX8_ray_67 rfl (lv_at hl 0 rfl) ?_
        refine va_get (D := D) (ci := 8) (v := .long (tmM.comesUp u15.2)) (C := RX8) (T := TX8) (N := 56) hx hb hts tb_wsX80 hown hK.1 hP 0 rfl rfl 49 (by decide) (hts _ tb_24_15) (fun _ h9 => h9) rfl dX8_ray_68 ?_
        refine lv_aload_n hx hb dX8_ray_71 rfl (lv_at hl 0 rfl) ?_
        refine va_get (D := D) (ci := 8) (v := .long (tmM.comesLow u15.2)) (C := RX8) (T := TX8) (N := 56) hx hb hts tb_wsX80 hown hK.1 hP 0 rfl rfl 50 (by decide) (hts _ tb_24_16) (fun _ h9 => h9) rfl dX8_ray_72 ?_
        obtain ⟨u17, hu17, hf⟩ := zbd hf
        refine zthen_l hA hD hS (zrunS (As := [.long (tmM.comesUp u15.2), .long (tmM.comesLow u15.2)]) (rest := []) hC hP hD (c_X8_divisor l D cI cJ cZ h N mG mH mR mW mS mK mD mN mO mB u15.2 mF (tmM.comesUp u15.2) (tmM.comesLow u15.2) u17 hu17 H.size) kRX8_220 rfl rfl ⟨by decide, by decide⟩ rfl hl.1 rfl (Nat.le_of_ble_eq_true rfl) dX8_ray_75) (fun H locs hP hD hS => ?_)
        refine lv_lstore (lv' := [(6, .long u17), (0, .ref (h 0)), (1, .int v1), (2, .int v2), (3, .int v3), (4, .int v4), (5, .int v5)]) hx hb dX8_ray_78 hl (by decide) rfl (fun ls hl => ?_)
        refine lv_aload_n hx hb dX8_ray_80 rfl (lv_at hl 1 rfl) ?_
        refine va_get (D := D) (ci := 8) (v := .long (tmM.comesUp u15.2)) (C := RX8) (T := TX8) (N := 56) hx hb hts tb_wsX80 hown hK.1 hP 0 rfl rfl 49 (by decide) (hts _ tb_24_15) (fun _ h9 => h9) rfl dX8_ray_81 ?_
        refine lv_lload hx hb dX8_ray_84 (lv_at hl 0 rfl) ?_
        obtain ⟨h18, hf⟩ := zczl_s hf
        refine lv_ldiv hx hb dX8_ray_86 h18 ?_
        refine lv_topl (fun x19 ex19 => ?_)
        replace hf := zl_n ex19 hf
        refine lv_lstore (lv' := [(8, .long x19), (6, .long u17), (0, .ref (h 0)), (1, .int v1), (2, .int v2), (3, .int v3), (4, .int v4), (5, .int v5)]) hx hb dX8_ray_87 hl (by decide) rfl (fun ls hl => ?_)
        refine lv_aload_n hx hb dX8_ray_89 rfl (lv_at hl 2 rfl) ?_
        refine va_get (D := D) (ci := 8) (v := .long (tmM.comesLow u15.2)) (C := RX8) (T := TX8) (N := 56) hx hb hts tb_wsX80 hown hK.1 hP 0 rfl rfl 50 (by decide) (hts _ tb_24_16) (fun _ h9 => h9) rfl dX8_ray_90 ?_
        refine lv_lload hx hb dX8_ray_93 (lv_at hl 1 rfl) ?_
        obtain ⟨h20, hf⟩ := zczl_s hf
        refine lv_ldiv hx hb dX8_ray_95 h20 ?_
        refine lv_topl (fun x21 ex21 => ?_)
        replace hf := zl_n ex21 hf
        refine lv_lstore (lv' := [(10, .long x21), (8, .long x19), (6, .long u17), (0, .ref (h 0)), (1, .int v1), (2, .int v2), (3, .int v3), (4, .int v4), (5, .int v5)]) hx hb dX8_ray_96 hl (by decide) rfl (fun ls hl => ?_)
        refine lv_aload_n hx hb dX8_ray_98 rfl (lv_at hl 3 rfl) ?_
        refine va_get (D := D) (ci := 8) (v := .int (tmM.metMany u15.2)) (C := RX8) (T := TX8) (N := 56) hx hb hts tb_wsX80 hown hK.1 hP 0 rfl rfl 48 (by decide) (hts _ tb_24_14) (fun _ h9 => h9) rfl dX8_ray_99 ?_
        refine lv_topi (fun x22 ex22 => ?_)
        replace hf := zl_n ex22 hf
        refine lv_istore (lv' := [(12, .int x22), (10, .long x21), (8, .long x19), (6, .long u17), (0, .ref (h 0)), (1, .int v1), (2, .int v2), (3, .int v3), (4, .int v4), (5, .int v5)]) hx hb dX8_ray_102 hl (by decide) rfl (fun ls hl => ?_)
        exact t_X8_ray_b104 hC N (X8_ray_b41 N mG n) ih  N mH u15.2 v1 v2 v3 v4 v5 x19 x21 x22 H locs ls hP hD hS (lv_sub hl [4, 5, 6, 7, 8, 9, 2, 1, 0] rfl) hf
      · replace hf := zif_t hf c16
        refine lv_goto (tgt := 228) hx hb dX8_ray_64 (by decide) ?_
        exact t_X8_ray_b228 hC N (X8_ray_b41 N mG n) ih  mH u15.2 v1 v2 v3 v4 v5 H locs ls hP hD hS (lv_sub hl [0, 1, 2, 3, 4, 5] rfl) hf
set_option maxHeartbeats 4000000 in
set_option maxRecDepth 100000 in
theorem t_X8_ray_b33 {p : Program} {l : Launch} {e : Env} {s : State} {m : MethodId} {args : Array Value} {below : List Frame} {meth : Method} {c : Code} {A : Nat → Prop} {D : va_G} {cI cJ cZ : ClassId} {h : Nat → Nat} (hC : zCx p s m args meth c A D (zty cI cJ cZ) cX8_ray RX8 13 (some .int)) (N : Nat) (mG : tmG) (mR : tmR) (mW : tmW) (mS : tmS) (mK : tmK) (mD : tmD) (mN : tmN) (mO : tmO) (mB : tmB) (mF : tmF) (u : Int32 × tmH × tmM) : ∀ (mH : tmH) (mM : tmM) (v1 : Int32) (v2 : Int32) (v3 : Int32) (v4 : Int32) (H : Heap) (locs : List Loc) (ls : Array Slot), va_P D vwCl (zWM cI cJ cZ h mG mH mR mW mS mK mD mN mO mB mM mF) H → va_D A (zWM cI cJ cZ h mG mH mR mW mS mK mD mN mO mB mM mF) → va_S A s.heap H locs → lv_has ls 13 [(0, .ref (h 0)), (1, .int v1), (2, .int v2), (3, .int v3), (4, .int v4)] → X8_ray_b33 N mG mH mM v1 v2 v3 v4 = some u → W p l e ({ frames := 2, cells := 0, slots := 0, locals := 64 } : Room) s m args below meth c H locs 0 0 (MQ below (zQi D A (zWM cI cJ cZ h mG u.2.1 mR mW mS mK mD mN mO mB u.2.2 mF) (u.1)) args s 0 0 A) (F0 m 33 ls []) := by
  intro mH mM v1 v2 v3 v4 H locs ls hP hD hS hl hf
  obtain ⟨hx, hb, hml, hown, hts, hK, hr, hlocks, hA⟩ := id hC
  unfold X8_ray_b33 at hf
  refine lv_aload_n hx hb dX8_ray_33 rfl (lv_at hl 0 rfl) ?_
  refine lv_iconst (v := 0) hx hb dX8_ray_34 (by decide) ?_
  refine va_put (D := D) (ci := 8) (v := .int (0 : Int32)) (ty := .int) (C := RX8) (T := TX8) (N := 56) hx hb hts tb_wsX80 tyX8 tyX8_ok nmX8 hown hK.1 hP hD hS 0 rfl rfl 48 (by decide) (hts _ tb_24_14) (fun _ h9 => h9) rfl (by decide +kernel) rfl rfl (Nat.le_of_ble_eq_true rfl) dX8_ray_35 (fun H locs hP hD hS => ?_)
  replace hP : va_P D vwCl (zWM cI cJ cZ h mG mH mR mW mS mK mD mN mO mB (tmM.s_metMany mM (0 : Int32)) mF) H := hP
  replace hD : va_D A (zWM cI cJ cZ h mG mH mR mW mS mK mD mN mO mB (tmM.s_metMany mM (0 : Int32)) mF) := hD
  refine lv_iconst (v := 0) hx hb dX8_ray_38 (by decide) ?_
  refine lv_istore (lv' := [(5, .int (0 : Int32)), (0, .ref (h 0)), (1, .int v1), (2, .int v2), (3, .int v3), (4, .int v4)]) hx hb dX8_ray_39 hl (by decide) rfl (fun ls hl => ?_)
  exact t_X8_ray_b41 hC N mG mR mW mS mK mD mN mO mB mF u N mH (tmM.s_metMany mM (0 : Int32)) v1 v2 v3 v4 (0 : Int32) H locs ls hP hD hS (lv_sub hl [1, 2, 3, 4, 5, 0] rfl) hf
set_option maxHeartbeats 4000000 in
set_option maxRecDepth 100000 in
theorem c_X8_ray (l : Launch) (D : va_G) (cI cJ cZ : ClassId) (h : Nat → Nat) (N : Nat) (mG : tmG) (mH : tmH) (mR : tmR) (mW : tmW) (mS : tmS) (mK : tmK) (mD : tmD) (mN : tmN) (mO : tmO) (mB : tmB) (mM : tmM) (mF : tmF) (a1 : Int32) (a2 : Int32) (a3 : Int32) (a4 : Int32) (u : Int32 × tmH × tmM) (hf : X8_ray N mG mH mM a1 a2 a3 a4 = some u) (sz : Nat) : Met l yX8_ray (Cond.code yX8_ray cX8_ray 13 (some .int) :: tb_L) ({ frames := 2, cells := 0, slots := 0, locals := 64 } : Room) (zPre D (zty cI cJ cZ) (zWM cI cJ cZ h mG mH mR mW mS mK mD mN mO mB mM mF) sz [.ref (h 0), .int a1, .int a2, .int a3, .int a4]) (zQi D (va_A (zWM cI cJ cZ h mG mH mR mW mS mK mD mN mO mB mM mF) sz) (zWM cI cJ cZ h mG u.2.1 mR mW mS mK mD mN mO mB u.2.2 mF) (u.1)) 0 0 (va_A (zWM cI cJ cZ h mG mH mR mW mS mK mD mN mO mB mM mF) sz) := by
  refine zMet (Qc := fun A => zQi D A (zWM cI cJ cZ h mG u.2.1 mR mW mS mK mD mN mO mB u.2.2 mF) (u.1)) (by decide) rfl (Nat.le_of_ble_eq_true rfl) ?_
  intro p e s m args below meth c A ls hC _ hP hD hS hl
  replace hl : lv_has ls 13 [(0, .ref (h 0)), (1, .int a1), (2, .int a2), (3, .int a3), (4, .int a4)] := hl
  obtain ⟨hx, hb, hml, hown, hts, hK, hr, hlocks, hA⟩ := id hC
  unfold X8_ray at hf
  obtain ⟨H, hH⟩ : ∃ H, H = s.heap := ⟨_, rfl⟩
  rw [← hH] at hP
  replace hS : va_S A s.heap H [] := by rw [hH]; exact hS
  show W p l e _ s m args below meth c s.heap [] 0 0 _ _
  rw [← hH]
  clear hH
  obtain ⟨locs, hlo⟩ : ∃ x : List Loc, x = [] := ⟨_, rfl⟩
  rw [← hlo] at hS ⊢
  clear hlo
  refine lv_aload_n hx hb dX8_ray_0 rfl (lv_at hl 0 rfl) ?_
  refine lv_iconst (v := 0) hx hb dX8_ray_1 (by decide) ?_
  refine va_put (D := D) (ci := 8) (v := .int (0 : Int32)) (ty := .int) (C := RX8) (T := TX8) (N := 56) hx hb hts tb_wsX80 tyX8 tyX8_ok nmX8 hown hK.1 hP hD hS 0 rfl rfl 5 (by decide) (hts _ tb_8_3) (fun _ h9 => h9) rfl (by decide +kernel) rfl rfl (Nat.le_of_ble_eq_true rfl) dX8_ray_2 (fun H locs hP hD hS => ?_)
  replace hP : va_P D vwCl (zWM cI cJ cZ h mG (tmH.s_thrown mH (0 : Int32)) mR mW mS mK mD mN mO mB mM mF) H := hP
  replace hD : va_D A (zWM cI cJ cZ h mG (tmH.s_thrown mH (0 : Int32)) mR mW mS mK mD mN mO mB mM mF) := hD
  refine lv_iload_n hx hb dX8_ray_5 rfl (lv_at hl 1 rfl) ?_
  refine lv_iload_n hx hb dX8_ray_6 rfl (lv_at hl 2 rfl) ?_
  obtain ⟨u23, hu23, hf⟩ := zbd hf
  refine zthen_i hA hD hS (zrunS (As := [.int a1, .int a2]) (rest := []) hC hP hD (c_X8_isPlace l D cI cJ cZ h  mG (tmH.s_thrown mH (0 : Int32)) mR mW mS mK mD mN mO mB mM mF a1 a2 u23 hu23 H.size) kRX8_130 rfl rfl ⟨by decide, by decide⟩ rfl hl.1 rfl (Nat.le_of_ble_eq_true rfl) dX8_ray_7) (fun H locs hP hD hS => ?_)
  refine lv_if_eq (tgt := 31) hx hb dX8_ray_10 (by decide) (fun c24 => ?_) (fun c24 => ?_)
  · replace hf := zif_t hf c24
    refine lv_iconst (v := -1) hx hb dX8_ray_31 (by decide) ?_
    have hu := Option.some.inj hf
    subst hu
    exact z_iret hC hP hD hS dX8_ray_32
  · replace hf := zif_f hf c24
    refine lv_iload_n hx hb dX8_ray_13 rfl (lv_at hl 3 rfl) ?_
    refine lv_iload hx hb dX8_ray_14 (lv_at hl 4 rfl) ?_
    obtain ⟨u25, hu25, hf⟩ := zbd hf
    refine zthen_i hA hD hS (zrunS (As := [.int a3, .int a4]) (rest := []) hC hP hD (c_X8_isPlace l D cI cJ cZ h  mG (tmH.s_thrown mH (0 : Int32)) mR mW mS mK mD mN mO mB mM mF a3 a4 u25 hu25 H.size) kRX8_130 rfl rfl ⟨by decide, by decide⟩ rfl hl.1 rfl (Nat.le_of_ble_eq_true rfl) dX8_ray_16) (fun H locs hP hD hS => ?_)
    refine lv_if_eq (tgt := 31) hx hb dX8_ray_19 (by decide) (fun c26 => ?_) (fun c26 => ?_)
    · replace hf := zif_t hf c26
      refine lv_iconst (v := -1) hx hb dX8_ray_31 (by decide) ?_
      have hu := Option.some.inj hf
      subst hu
      exact z_iret hC hP hD hS dX8_ray_32
    · replace hf := zif_f hf c26
      refine lv_iload_n hx hb dX8_ray_22 rfl (lv_at hl 3 rfl) ?_
      refine lv_if_ne (tgt := 33) hx hb dX8_ray_23 (by decide) (fun c27 => ?_) (fun c27 => ?_)
      · replace hf := zif_f hf c27
        exact t_X8_ray_b33 hC N mG mR mW mS mK mD mN mO mB mF u (tmH.s_thrown mH (0 : Int32)) mM a1 a2 a3 a4 H locs ls hP hD hS (lv_sub hl [0, 1, 2, 3, 4] rfl) hf
      · replace hf := zif_t hf c27
        refine lv_iload hx hb dX8_ray_26 (lv_at hl 4 rfl) ?_
        refine lv_if_ne (tgt := 33) hx hb dX8_ray_28 (by decide) (fun c28 => ?_) (fun c28 => ?_)
        · replace hf := zif_f hf c28
          exact t_X8_ray_b33 hC N mG mR mW mS mK mD mN mO mB mF u (tmH.s_thrown mH (0 : Int32)) mM a1 a2 a3 a4 H locs ls hP hD hS (lv_sub hl [0, 1, 2, 3, 4] rfl) hf
        · replace hf := zif_t hf c28
          refine lv_iconst (v := -1) hx hb dX8_ray_31 (by decide) ?_
          have hu := Option.some.inj hf
          subst hu
          exact z_iret hC hP hD hS dX8_ray_32
set_option maxHeartbeats 4000000 in
set_option maxRecDepth 100000 in
theorem c_X8_met (l : Launch) (D : va_G) (cI cJ cZ : ClassId) (h : Nat → Nat) (mG : tmG) (mH : tmH) (mR : tmR) (mW : tmW) (mS : tmS) (mK : tmK) (mD : tmD) (mN : tmN) (mO : tmO) (mB : tmB) (mM : tmM) (mF : tmF) (a1 : Int32) (a2 : Int32) (u : Int32 × tmH) (hf : X8_met mH mM a1 a2 = some u) (sz : Nat) : Met l yX8_met (Cond.code yX8_met cX8_met 3 (some .int) :: tb_L) ({ frames := 0, cells := 0, slots := 0, locals := 0 } : Room) (zPre D (zty cI cJ cZ) (zWM cI cJ cZ h mG mH mR mW mS mK mD mN mO mB mM mF) sz [.ref (h 0), .int a1, .int a2]) (zQi D (va_A (zWM cI cJ cZ h mG mH mR mW mS mK mD mN mO mB mM mF) sz) (zWM cI cJ cZ h mG u.2 mR mW mS mK mD mN mO mB mM mF) (u.1)) 0 0 (va_A (zWM cI cJ cZ h mG mH mR mW mS mK mD mN mO mB mM mF) sz) := by
  refine zMet (Qc := fun A => zQi D A (zWM cI cJ cZ h mG u.2 mR mW mS mK mD mN mO mB mM mF) (u.1)) (by decide) rfl (Nat.le_of_ble_eq_true rfl) ?_
  intro p e s m args below meth c A ls hC _ hP hD hS hl
  replace hl : lv_has ls 3 [(0, .ref (h 0)), (1, .int a1), (2, .int a2)] := hl
  obtain ⟨hx, hb, hml, hown, hts, hK, hr, hlocks, hA⟩ := id hC
  unfold X8_met at hf
  obtain ⟨H, hH⟩ : ∃ H, H = s.heap := ⟨_, rfl⟩
  rw [← hH] at hP
  replace hS : va_S A s.heap H [] := by rw [hH]; exact hS
  show W p l e _ s m args below meth c s.heap [] 0 0 _ _
  rw [← hH]
  clear hH
  obtain ⟨locs, hlo⟩ : ∃ x : List Loc, x = [] := ⟨_, rfl⟩
  rw [← hlo] at hS ⊢
  clear hlo
  refine lv_aload_n hx hb dX8_met_0 rfl (lv_at hl 0 rfl) ?_
  refine lv_iconst (v := 0) hx hb dX8_met_1 (by decide) ?_
  refine va_put (D := D) (ci := 8) (v := .int (0 : Int32)) (ty := .int) (C := RX8) (T := TX8) (N := 56) hx hb hts tb_wsX80 tyX8 tyX8_ok nmX8 hown hK.1 hP hD hS 0 rfl rfl 5 (by decide) (hts _ tb_8_3) (fun _ h9 => h9) rfl (by decide +kernel) rfl rfl (Nat.le_of_ble_eq_true rfl) dX8_met_2 (fun H locs hP hD hS => ?_)
  replace hP : va_P D vwCl (zWM cI cJ cZ h mG (tmH.s_thrown mH (0 : Int32)) mR mW mS mK mD mN mO mB mM mF) H := hP
  replace hD : va_D A (zWM cI cJ cZ h mG (tmH.s_thrown mH (0 : Int32)) mR mW mS mK mD mN mO mB mM mF) := hD
  refine lv_iload_n hx hb dX8_met_5 rfl (lv_at hl 1 rfl) ?_
  refine lv_if_lt (tgt := 17) hx hb dX8_met_6 (by decide) (fun c1 => ?_) (fun c1 => ?_)
  · replace hf := zif_t hf c1
    refine lv_iconst (v := -1) hx hb dX8_met_17 (by decide) ?_
    have hu := Option.some.inj hf
    subst hu
    exact z_iret hC hP hD hS dX8_met_18
  · replace hf := zif_f hf c1
    refine lv_iload_n hx hb dX8_met_9 rfl (lv_at hl 1 rfl) ?_
    refine lv_aload_n hx hb dX8_met_10 rfl (lv_at hl 0 rfl) ?_
    refine va_get (D := D) (ci := 8) (v := .int (tmM.metMany mM)) (C := RX8) (T := TX8) (N := 56) hx hb hts tb_wsX80 hown hK.1 hP 0 rfl rfl 48 (by decide) (hts _ tb_24_14) (fun _ h9 => h9) rfl dX8_met_11 ?_
    refine lv_icmp_lt (tgt := 19) hx hb dX8_met_14 (by decide) (fun c2 => ?_) (fun c2 => ?_)
    · replace hf := zif_t hf c2
      refine lv_iload_n hx hb dX8_met_19 rfl (lv_at hl 2 rfl) ?_
      refine lv_if_ne (tgt := 32) hx hb dX8_met_20 (by decide) (fun c3 => ?_) (fun c3 => ?_)
      · replace hf := zif_f hf c3
        refine lv_iload_n hx hb dX8_met_32 rfl (lv_at hl 2 rfl) ?_
        refine lv_iconst (v := 1) hx hb dX8_met_33 (by decide) ?_
        refine lv_icmp_ne (tgt := 47) hx hb dX8_met_34 (by decide) (fun c4 => ?_) (fun c4 => ?_)
        · replace hf := zif_f hf c4
          refine lv_iload_n hx hb dX8_met_47 rfl (lv_at hl 2 rfl) ?_
          refine lv_iconst (v := 2) hx hb dX8_met_48 (by decide) ?_
          refine lv_icmp_ne (tgt := 62) hx hb dX8_met_49 (by decide) (fun c5 => ?_) (fun c5 => ?_)
          · replace hf := zif_f hf c5
            refine lv_iconst (v := -1) hx hb dX8_met_62 (by decide) ?_
            have hu := Option.some.inj hf
            subst hu
            exact z_iret hC hP hD hS dX8_met_63
          · replace hf := zif_t hf c5
            refine lv_aload_n hx hb dX8_met_52 rfl (lv_at hl 0 rfl) ?_
            refine va_get (D := D) (ci := 8) (v := .ref (h 36)) (C := RX8) (T := TX8) (N := 56) hx hb hts tb_wsX80 hown hK.1 hP 0 rfl rfl 47 (by decide) (hts _ tb_6_18) (fun _ h9 => h9) rfl dX8_met_53 ?_
            refine lv_iload_n hx hb dX8_met_56 rfl (lv_at hl 1 rfl) ?_
            obtain ⟨h6, hf⟩ := zck_s hf
            refine va_lald hx hb hK.1 hP 36 1 rfl rfl h6 dX8_met_57 ?_
            refine lv_l2i (v := (((tmM.metLow mM) a1.toNatClampNeg)).toInt32) hx hb dX8_met_58 rfl ?_
            refine lv_goto (tgt := 63) hx hb dX8_met_59 (by decide) ?_
            have hu := Option.some.inj hf
            subst hu
            exact z_iret hC hP hD hS dX8_met_63
        · replace hf := zif_t hf c4
          refine lv_aload_n hx hb dX8_met_37 rfl (lv_at hl 0 rfl) ?_
          refine va_get (D := D) (ci := 8) (v := .ref (h 35)) (C := RX8) (T := TX8) (N := 56) hx hb hts tb_wsX80 hown hK.1 hP 0 rfl rfl 46 (by decide) (hts _ tb_6_17) (fun _ h9 => h9) rfl dX8_met_38 ?_
          refine lv_iload_n hx hb dX8_met_41 rfl (lv_at hl 1 rfl) ?_
          obtain ⟨h7, hf⟩ := zck_s hf
          refine va_lald hx hb hK.1 hP 35 1 rfl rfl h7 dX8_met_42 ?_
          refine lv_l2i (v := (((tmM.metUp mM) a1.toNatClampNeg)).toInt32) hx hb dX8_met_43 rfl ?_
          refine lv_goto (tgt := 63) hx hb dX8_met_44 (by decide) ?_
          have hu := Option.some.inj hf
          subst hu
          exact z_iret hC hP hD hS dX8_met_63
      · replace hf := zif_t hf c3
        refine lv_aload_n hx hb dX8_met_23 rfl (lv_at hl 0 rfl) ?_
        refine va_get (D := D) (ci := 8) (v := .ref (h 34)) (C := RX8) (T := TX8) (N := 56) hx hb hts tb_wsX80 hown hK.1 hP 0 rfl rfl 45 (by decide) (hts _ tb_6_16) (fun _ h9 => h9) rfl dX8_met_24 ?_
        refine lv_iload_n hx hb dX8_met_27 rfl (lv_at hl 1 rfl) ?_
        obtain ⟨h8, hf⟩ := zck_s hf
        refine va_iald hx hb hK.1 hP 34 0 rfl rfl h8 dX8_met_28 ?_
        refine lv_goto (tgt := 63) hx hb dX8_met_29 (by decide) ?_
        have hu := Option.some.inj hf
        subst hu
        exact z_iret hC hP hD hS dX8_met_63
    · replace hf := zif_f hf c2
      refine lv_iconst (v := -1) hx hb dX8_met_17 (by decide) ?_
      have hu := Option.some.inj hf
      subst hu
      exact z_iret hC hP hD hS dX8_met_18
set_option maxHeartbeats 4000000 in
set_option maxRecDepth 100000 in
theorem t_X8_digit_b19 {p : Program} {l : Launch} {e : Env} {s : State} {m : MethodId} {args : Array Value} {below : List Frame} {meth : Method} {c : Code} {A : Nat → Prop} {D : va_G} {cI cJ cZ : ClassId} {h : Nat → Nat} (hC : zCx p s m args meth c A D (zty cI cJ cZ) cX8_digit RX8 4 (some .int)) (N : Nat) (mG : tmG) (mH : tmH) (mR : tmR) (mW : tmW) (mS : tmS) (mK : tmK) (mD : tmD) (mN : tmN) (mO : tmO) (mB : tmB) (mM : tmM) (mF : tmF) (u : Int32) : ∀ (v2 : Int32) (H : Heap) (locs : List Loc) (ls : Array Slot), va_P D vwCl (zWM cI cJ cZ h mG mH mR mW mS mK mD mN mO mB mM mF) H → va_D A (zWM cI cJ cZ h mG mH mR mW mS mK mD mN mO mB mM mF) → va_S A s.heap H locs → lv_has ls 4 [(2, .int v2)] → X8_digit_b19 N v2 = some u → W p l e ({ frames := 0, cells := 0, slots := 0, locals := 0 } : Room) s m args below meth c H locs 0 0 (MQ below (zQi D A (zWM cI cJ cZ h mG mH mR mW mS mK mD mN mO mB mM mF) (u)) args s 0 0 A) (F0 m 19 ls []) := by
  intro v2 H locs ls hP hD hS hl hf
  obtain ⟨hx, hb, hml, hown, hts, hK, hr, hlocks, hA⟩ := id hC
  unfold X8_digit_b19 at hf
  refine lv_iload_n hx hb dX8_digit_19 rfl (lv_at hl 0 rfl) ?_
  refine lv_iconst (v := 3) hx hb dX8_digit_20 (by decide) ?_
  obtain ⟨h1, hf⟩ := zcz_s hf
  refine lv_irem hx hb dX8_digit_21 h1 ?_
  have hu := Option.some.inj hf
  subst hu
  exact z_iret hC hP hD hS dX8_digit_22
set_option maxHeartbeats 4000000 in
set_option maxRecDepth 100000 in
theorem t_X8_digit_b4 {p : Program} {l : Launch} {e : Env} {s : State} {m : MethodId} {args : Array Value} {below : List Frame} {meth : Method} {c : Code} {A : Nat → Prop} {D : va_G} {cI cJ cZ : ClassId} {h : Nat → Nat} (hC : zCx p s m args meth c A D (zty cI cJ cZ) cX8_digit RX8 4 (some .int)) (N : Nat) (mG : tmG) (mH : tmH) (mR : tmR) (mW : tmW) (mS : tmS) (mK : tmK) (mD : tmD) (mN : tmN) (mO : tmO) (mB : tmB) (mM : tmM) (mF : tmF) (u : Int32) : ∀ (n : Nat) (v1 : Int32) (v2 : Int32) (v3 : Int32) (H : Heap) (locs : List Loc) (ls : Array Slot), va_P D vwCl (zWM cI cJ cZ h mG mH mR mW mS mK mD mN mO mB mM mF) H → va_D A (zWM cI cJ cZ h mG mH mR mW mS mK mD mN mO mB mM mF) → va_S A s.heap H locs → lv_has ls 4 [(1, .int v1), (2, .int v2), (3, .int v3)] → X8_digit_b4 N n v1 v2 v3 = some u → W p l e ({ frames := 0, cells := 0, slots := 0, locals := 0 } : Room) s m args below meth c H locs 0 0 (MQ below (zQi D A (zWM cI cJ cZ h mG mH mR mW mS mK mD mN mO mB mM mF) (u)) args s 0 0 A) (F0 m 4 ls []) := by
  intro n
  induction n with
  | zero =>
    intro v1 v2 v3 H locs ls hP hD hS hl hf
    cases hf
  | succ n ih =>
    intro v1 v2 v3 H locs ls hP hD hS hl hf
    obtain ⟨hx, hb, hml, hown, hts, hK, hr, hlocks, hA⟩ := id hC
    rw [X8_digit_b4] at hf
    refine lv_iload_n hx hb dX8_digit_4 rfl (lv_at hl 2 rfl) ?_
    refine lv_iload_n hx hb dX8_digit_5 rfl (lv_at hl 0 rfl) ?_
    refine lv_icmp_ge (tgt := 19) hx hb dX8_digit_6 (by decide) (fun c2 => ?_) (fun c2 => ?_)
    · replace hf := zif_t hf c2
      exact t_X8_digit_b19 hC N mG mH mR mW mS mK mD mN mO mB mM mF u v2 H locs ls hP hD hS (lv_sub hl [1] rfl) hf
    · replace hf := zif_f hf c2
      refine lv_iload_n hx hb dX8_digit_9 rfl (lv_at hl 1 rfl) ?_
      refine lv_iconst (v := 3) hx hb dX8_digit_10 (by decide) ?_
      obtain ⟨h3, hf⟩ := zcz_s hf
      refine lv_idiv hx hb dX8_digit_11 h3 ?_
      refine lv_topi (fun x4 ex4 => ?_)
      replace hf := zl_n ex4 hf
      refine lv_istore_n (lv' := [(2, .int x4), (1, .int v1), (3, .int v3)]) hx hb dX8_digit_12 rfl hl (by decide) rfl (fun ls hl => ?_)
      refine lv_iinc (v := (v3 + (1 : Int32))) (lv' := [(3, .int (v3 + (1 : Int32))), (2, .int x4), (1, .int v1)]) hx hb dX8_digit_13 hl (k := 2) rfl rfl (by decide) rfl (fun ls hl => ?_)
      refine lv_goto (tgt := 4) hx hb dX8_digit_16 (by decide) ?_
      exact ih v1 x4 (v3 + (1 : Int32)) H locs ls hP hD hS (lv_sub hl [2, 1, 0] rfl) hf
set_option maxHeartbeats 4000000 in
set_option maxRecDepth 100000 in
theorem c_X8_digit (l : Launch) (D : va_G) (cI cJ cZ : ClassId) (h : Nat → Nat) (N : Nat) (mG : tmG) (mH : tmH) (mR : tmR) (mW : tmW) (mS : tmS) (mK : tmK) (mD : tmD) (mN : tmN) (mO : tmO) (mB : tmB) (mM : tmM) (mF : tmF) (a0 : Int32) (a1 : Int32) (u : Int32) (hf : X8_digit N a0 a1 = some u) (sz : Nat) : Met l yX8_digit (Cond.code yX8_digit cX8_digit 4 (some .int) :: tb_L) ({ frames := 0, cells := 0, slots := 0, locals := 0 } : Room) (zPre D (zty cI cJ cZ) (zWM cI cJ cZ h mG mH mR mW mS mK mD mN mO mB mM mF) sz [.int a0, .int a1]) (zQi D (va_A (zWM cI cJ cZ h mG mH mR mW mS mK mD mN mO mB mM mF) sz) (zWM cI cJ cZ h mG mH mR mW mS mK mD mN mO mB mM mF) (u)) 0 0 (va_A (zWM cI cJ cZ h mG mH mR mW mS mK mD mN mO mB mM mF) sz) := by
  refine zMet (Qc := fun A => zQi D A (zWM cI cJ cZ h mG mH mR mW mS mK mD mN mO mB mM mF) (u)) (by decide) rfl (Nat.le_of_ble_eq_true rfl) ?_
  intro p e s m args below meth c A ls hC _ hP hD hS hl
  replace hl : lv_has ls 4 [(0, .int a0), (1, .int a1)] := hl
  obtain ⟨hx, hb, hml, hown, hts, hK, hr, hlocks, hA⟩ := id hC
  unfold X8_digit at hf
  obtain ⟨H, hH⟩ : ∃ H, H = s.heap := ⟨_, rfl⟩
  rw [← hH] at hP
  replace hS : va_S A s.heap H [] := by rw [hH]; exact hS
  show W p l e _ s m args below meth c s.heap [] 0 0 _ _
  rw [← hH]
  clear hH
  obtain ⟨locs, hlo⟩ : ∃ x : List Loc, x = [] := ⟨_, rfl⟩
  rw [← hlo] at hS ⊢
  clear hlo
  refine lv_iload_n hx hb dX8_digit_0 rfl (lv_at hl 0 rfl) ?_
  refine lv_istore_n (lv' := [(2, .int a0), (0, .int a0), (1, .int a1)]) hx hb dX8_digit_1 rfl hl (by decide) rfl (fun ls hl => ?_)
  refine lv_iconst (v := 0) hx hb dX8_digit_2 (by decide) ?_
  refine lv_istore_n (lv' := [(3, .int (0 : Int32)), (2, .int a0), (0, .int a0), (1, .int a1)]) hx hb dX8_digit_3 rfl hl (by decide) rfl (fun ls hl => ?_)
  exact t_X8_digit_b4 hC N mG mH mR mW mS mK mD mN mO mB mM mF u N a1 a0 (0 : Int32) H locs ls hP hD hS (lv_sub hl [3, 1, 0] rfl) hf
