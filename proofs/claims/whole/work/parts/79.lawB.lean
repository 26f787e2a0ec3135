theorem kRL_43 : zcw RL 43 RX8 yX8_look cX8_look 5 (some .int) 2 := ⟨tb_10_1, tb_10_2, tb_10_3, tb_1_5, tb_10_4, by decide +kernel⟩
theorem kRL_44 : zcw RL 44 RX8 yX8_thrown cX8_thrown 1 (some .int) 0 := ⟨tb_10_9, tb_10_10, tb_10_11, tb_1_5, tb_10_12, by decide +kernel⟩
set_option maxRecDepth 100000 in
set_option maxHeartbeats 4000000 in
theorem law_look {p : Program} {l : Launch} {e : Env} {s : State} {m : MethodId} {below : List Frame} {meth : Method} {c : Code} {b L : Nat} {xs : Nat → Int32} {D : va_G} {cI cJ cZ : ClassId} {h1 h2 : Nat → Nat} {oa : Nat} {x4 : Int32} {cells slots : Nat} (hX : zLx p l s m meth c b L xs D cI cJ cZ) {N : Nat} (hN : 4 ^ 30 < N) (hv : vp_in (x4 + 1) L ∧ vp_in (x4 + 2) L ∧ vp_in (x4 + 3) L ∧ vp_in (x4 + 4) L) (hc : cells + 1 ≤ 601024) (hs : slots + 6 ≤ 7293034) (kk : zGo p l e s m below meth c b D cI cJ cZ h1 h2 oa x4 (cells + 1) (slots + 6) 735) : zGo p l e s m below meth c b D cI cJ cZ h1 h2 oa x4 cells slots 186 := by
  intro gP gR gQ gT gE gM gS mG mH mR mW mS mK mD mN mO mB mM mF f H locs ls hI hP hD hS hl
  obtain ⟨hlt, hC, htx, hT, hH, hXs, hbl⟩ := id hX
  obtain ⟨hx, hb, hml, hown, hts, hK, hr, hlocks, hA⟩ := id hC
  have hbA : ¬ Al s b := Nat.not_le.mpr hbl
  have hN1 : 1000 < N := Nat.lt_trans (by decide) hN
  obtain ⟨k, r, r2, e1, e2, hk3, hk0⟩ := op_look (mH := mH) hN1 hI (xs (x4 + 1).toNatClampNeg) (xs (x4 + 2).toNatClampNeg)
  refine lv_aload_n hx hb dL_law_186 rfl (lv_at hl 1 rfl) ?_
  refine lv_aload_n hx hb dL_law_187 rfl (lv_at hl 0 rfl) ?_
  refine lv_iload hx hb dL_law_188 (lv_at hl 4 rfl) ?_
  refine lv_iconst (v := 1) hx hb dL_law_190 (by decide) ?_
  refine lv_iadd hx hb dL_law_191 ?_
  refine va_sld hx hb hXs hbl hbA hS hv.1 dL_law_192 ?_
  refine lv_aload_n hx hb dL_law_193 rfl (lv_at hl 0 rfl) ?_
  refine lv_iload hx hb dL_law_194 (lv_at hl 4 rfl) ?_
  refine lv_iconst (v := 2) hx hb dL_law_196 (by decide) ?_
  refine lv_iadd hx hb dL_law_197 ?_
  refine va_sld hx hb hXs hbl hbA hS hv.2.1 dL_law_198 ?_
  refine lv_aload_n hx hb dL_law_199 rfl (lv_at hl 3 rfl) ?_
  refine zthen_3 (na := 4) (As := [.ref (h1 0), .int (xs (x4 + 1).toNatClampNeg), .int (xs (x4 + 2).toNatClampNeg), .ref oa]) (rest := []) hC htx hT hH hP hD hS (x_L_look l hlt D cI cJ cZ h1 N gP gR gQ gT gE gM gS oa f (xs (x4 + 1).toNatClampNeg) (xs (x4 + 2).toNatClampNeg) k r e1 H.size) (zgSX (own := RL) (index := 38) tb_9_1 tb_9_2 tb_9_3 tb_9_4) (by decide +kernel) rfl rfl ⟨by decide, by decide⟩ rfl hl.1 rfl (Nat.le_of_ble_eq_true rfl) dL_law_200 ⟨by show cells + 1 ≤ 601024; omega, by show slots + 6 ≤ 7293034; omega⟩ (fun f H locs hf0 hP hD hS => ?_)
  refine lv_istore (lv' := [(5, .int k), (0, .ref b), (1, .ref (h1 0)), (2, .ref (h2 0)), (3, .ref oa), (4, .int x4)]) hx hb dL_law_203 hl (by decide) rfl (fun ls hl => ?_)
  refine lv_aload_n hx hb dL_law_205 rfl (lv_at hl 3 rfl) ?_
  refine lv_aload_n hx hb dL_law_206 rfl (lv_at hl 1 rfl) ?_
  refine lv_iload hx hb dL_law_207 (lv_at hl 5 rfl) ?_
  refine lv_iconst (v := 1) hx hb dL_law_209 (by decide) ?_
  refine lv_iadd hx hb dL_law_210 ?_
  refine va_sld hx hb hXs hbl hbA hS hv.1 dL_law_211 ?_
  refine lv_aload_n hx hb dL_law_212 rfl (lv_at hl 1 rfl) ?_
  refine lv_iload hx hb dL_law_213 (lv_at hl 5 rfl) ?_
  refine lv_iconst (v := 2) hx hb dL_law_215 (by decide) ?_
  refine lv_iadd hx hb dL_law_216 ?_
  refine va_sld hx hb hXs hbl hbA hS hv.2.1 dL_law_217 ?_
  refine zthen_2 (wb := [(oa, .inl (cJ, 1, .inr (.inl f)))]) (ws := (zWM cI cJ cZ h2 mG mH mR mW mS mK mD mN mO mB mM mF)) hA hP hD hS (zrunVc (As := [.int (xs (x4 + 1).toNatClampNeg), .int (xs (x4 + 2).toNatClampNeg)]) (rest := []) hC (zP_m hP) (zD_m hD) 0 rfl rfl (c_X8_look l D cI cJ cZ h2 N mG mH mR mW mS mK mD mN mO mB mM mF (xs (x4 + 1).toNatClampNeg) (xs (x4 + 2).toNatClampNeg) _ e2 H.size) kRL_43 rfl rfl ⟨by decide, by decide⟩ rfl hl.1 rfl (Nat.le_of_ble_eq_true rfl) dL_law_218 ⟨by show cells + 1 ≤ 601024; omega, by show slots + 6 ≤ 7293034; omega⟩) (fun H locs hP hD hS => ?_)
  replace hP : va_P D vwCl ((zWC cI cJ cZ h1 gP gR gQ gT gE gM gS) ++ ([(oa, .inl (cJ, 1, .inr (.inl f)))] ++ (zWM cI cJ cZ h2 mG (tmH.s_thrown mH k) mR mW mS mK mD mN mO mB mM mF))) H := hP
  replace hD : va_D (Al s) ((zWC cI cJ cZ h1 gP gR gQ gT gE gM gS) ++ ([(oa, .inl (cJ, 1, .inr (.inl f)))] ++ (zWM cI cJ cZ h2 mG (tmH.s_thrown mH k) mR mW mS mK mD mN mO mB mM mF))) := hD
  refine lv_istore (lv' := [(6, .int r2), (5, .int k), (0, .ref b), (1, .ref (h1 0)), (2, .ref (h2 0)), (3, .ref oa), (4, .int x4)]) hx hb dL_law_221 hl (by decide) rfl (fun ls hl => ?_)
  refine lv_aload_n hx hb dL_law_223 rfl (lv_at hl 4 rfl) ?_
  refine zthen_2 (wb := [(oa, .inl (cJ, 1, .inr (.inl f)))]) (ws := (zWM cI cJ cZ h2 mG (tmH.s_thrown mH k) mR mW mS mK mD mN mO mB mM mF)) hA hP hD hS (zrunVc (As := []) (rest := []) hC (zP_m hP) (zD_m hD) 0 rfl rfl (c_X8_thrown l D cI cJ cZ h2 mG (tmH.s_thrown mH k) mR mW mS mK mD mN mO mB mM mF k rfl H.size) kRL_44 rfl rfl ⟨by decide, by decide⟩ rfl hl.1 rfl (Nat.le_of_ble_eq_true rfl) dL_law_224 ⟨by show cells + 1 ≤ 601024; omega, by show slots + 6 ≤ 7293034; omega⟩) (fun H locs hP hD hS => ?_)
  refine lv_iload hx hb dL_law_227 (lv_at hl 1 rfl) ?_
  refine lv_icmp_eq (tgt := 234) hx hb dL_law_229 (by decide) (fun c9 => ?_) (fun c9 => absurd rfl c9)
  refine lv_iload hx hb dL_law_234 (lv_at hl 1 rfl) ?_
  have fin : W p l e room_1 s m #[Value.ref b] below meth c H locs (cells + 1) (slots + 6) (lw_Z below #[Value.ref b] s) (F0 m 251 ls []) := by
    refine lv_goto (tgt := 735) hx hb dL_law_251 (by decide) ?_
    exact kk gP gR gQ gT gE gM gS mG (tmH.s_thrown mH k) mR mW mS mK mD mN mO mB mM mF f H locs ls hI hP hD hS (lv_sub hl [2, 3, 4, 5, 6] rfl)
  refine lv_if_ne (tgt := 251) hx hb dL_law_236 (by decide) (fun _ => fin) (fun z0 => ?_)
  refine lv_aload_n hx hb dL_law_239 rfl (lv_at hl 5 rfl) ?_
  refine lv_iconst (v := 0) hx hb dL_law_240 (by decide) ?_
  refine va_lald hx hb hK.1 hP 35 1 rfl rfl (show ¬ ((0 : Int32) < 0 ∨ 1 ≤ (0 : Int32).toNatClampNeg) by decide) dL_law_241 ?_
  refine lv_iload hx hb dL_law_242 (lv_at hl 0 rfl) ?_
  refine lv_i2l hx hb dL_law_244 rfl ?_
  refine W.lcmp hx hb dL_law_245 ?_
  refine lv_if_eq (tgt := 251) hx hb dL_law_246 (by decide) (fun _ => fin) (fun z1 => absurd ((lg_cmp_eq _ _).mpr ?_) z1)
  rw [show (0 : Int32).toNatClampNeg = 0 from rfl, hf0 z0, hk0 z0]
theorem kRL_58 : zcw RL 58 RX8 yX8_knot cX8_knot 3 (some .int) 2 := ⟨tb_17_21, tb_17_22, tb_17_23, tb_1_5, tb_18_0, by decide +kernel⟩
set_option maxRecDepth 100000 in
set_option maxHeartbeats 4000000 in
theorem law_knot {p : Program} {l : Launch} {e : Env} {s : State} {m : MethodId} {below : List Frame} {meth : Method} {c : Code} {b L : Nat} {xs : Nat → Int32} {D : va_G} {cI cJ cZ : ClassId} {h1 h2 : Nat → Nat} {oa : Nat} {x4 : Int32} {cells slots : Nat} (hX : zLx p l s m meth c b L xs D cI cJ cZ) {N : Nat} (hN : 4 ^ 30 < N) (hv : vp_in (x4 + 1) L ∧ vp_in (x4 + 2) L ∧ vp_in (x4 + 3) L ∧ vp_in (x4 + 4) L) (hc : cells + 1 ≤ 601024) (hs : slots + 6 ≤ 7293034) (kk : zGo p l e s m below meth c b D cI cJ cZ h1 h2 oa x4 (cells + 1) (slots + 6) 735) : zGo p l e s m below meth c b D cI cJ cZ h1 h2 oa x4 cells slots 316 := by
  intro gP gR gQ gT gE gM gS mG mH mR mW mS mK mD mN mO mB mM mF f H locs ls hI hP hD hS hl
  obtain ⟨hlt, hC, htx, hT, hH, hXs, hbl⟩ := id hX
  obtain ⟨hx, hb, hml, hown, hts, hK, hr, hlocks, hA⟩ := id hC
  have hbA : ¬ Al s b := Nat.not_le.mpr hbl
  have hN1 : 1000 < N := Nat.lt_trans (by decide) hN
  obtain ⟨k, r, r2, e1, e2, hk3, hk0⟩ := op_knot (mH := mH) hI (xs (x4 + 1).toNatClampNeg) (xs (x4 + 2).toNatClampNeg)
  refine lv_aload_n hx hb dL_law_316 rfl (lv_at hl 1 rfl) ?_
  refine lv_aload_n hx hb dL_law_317 rfl (lv_at hl 0 rfl) ?_
  refine lv_iload hx hb dL_law_318 (lv_at hl 4 rfl) ?_
  refine lv_iconst (v := 1) hx hb dL_law_320 (by decide) ?_
  refine lv_iadd hx hb dL_law_321 ?_
  refine va_sld hx hb hXs hbl hbA hS hv.1 dL_law_322 ?_
  refine lv_aload_n hx hb dL_law_323 rfl (lv_at hl 0 rfl) ?_
  refine lv_iload hx hb dL_law_324 (lv_at hl 4 rfl) ?_
  refine lv_iconst (v := 2) hx hb dL_law_326 (by decide) ?_
  refine lv_iadd hx hb dL_law_327 ?_
  refine va_sld hx hb hXs hbl hbA hS hv.2.1 dL_law_328 ?_
  refine lv_aload_n hx hb dL_law_329 rfl (lv_at hl 3 rfl) ?_
  refine zthen_3 (na := 4) (As := [.ref (h1 0), .int (xs (x4 + 1).toNatClampNeg), .int (xs (x4 + 2).toNatClampNeg), .ref oa]) (rest := []) hC htx hT hH hP hD hS (x_L_knot l hlt D cI cJ cZ h1 N gP gR gQ gT gE gM gS oa f (xs (x4 + 1).toNatClampNeg) (xs (x4 + 2).toNatClampNeg) k r e1 H.size) (zgSX (own := RL) (index := 56) tb_17_8 tb_17_9 tb_9_3 tb_17_10) (by decide +kernel) rfl rfl ⟨by decide, by decide⟩ rfl hl.1 rfl (Nat.le_of_ble_eq_true rfl) dL_law_330 ⟨by show cells + 1 ≤ 601024; omega, by show slots + 6 ≤ 7293034; omega⟩ (fun f H locs hf0 hP hD hS => ?_)
  refine lv_istore (lv' := [(5, .int k), (0, .ref b), (1, .ref (h1 0)), (2, .ref (h2 0)), (3, .ref oa), (4, .int x4)]) hx hb dL_law_333 hl (by decide) rfl (fun ls hl => ?_)
  refine lv_aload_n hx hb dL_law_335 rfl (lv_at hl 3 rfl) ?_
  refine lv_aload_n hx hb dL_law_336 rfl (lv_at hl 1 rfl) ?_
  refine lv_iload hx hb dL_law_337 (lv_at hl 5 rfl) ?_
  refine lv_iconst (v := 1) hx hb dL_law_339 (by decide) ?_
  refine lv_iadd hx hb dL_law_340 ?_
  refine va_sld hx hb hXs hbl hbA hS hv.1 dL_law_341 ?_
  refine lv_aload_n hx hb dL_law_342 rfl (lv_at hl 1 rfl) ?_
  refine lv_iload hx hb dL_law_343 (lv_at hl 5 rfl) ?_
  refine lv_iconst (v := 2) hx hb dL_law_345 (by decide) ?_
  refine lv_iadd hx hb dL_law_346 ?_
  refine va_sld hx hb hXs hbl hbA hS hv.2.1 dL_law_347 ?_
  refine zthen_2 (wb := [(oa, .inl (cJ, 1, .inr (.inl f)))]) (ws := (zWM cI cJ cZ h2 mG mH mR mW mS mK mD mN mO mB mM mF)) hA hP hD hS (zrunVc (As := [.int (xs (x4 + 1).toNatClampNeg), .int (xs (x4 + 2).toNatClampNeg)]) (rest := []) hC (zP_m hP) (zD_m hD) 0 rfl rfl (c_X8_knot l D cI cJ cZ h2 mG mH mR mW mS mK mD mN mO mB mM mF (xs (x4 + 1).toNatClampNeg) (xs (x4 + 2).toNatClampNeg) _ e2 H.size) kRL_58 rfl rfl ⟨by decide, by decide⟩ rfl hl.1 rfl (Nat.le_of_ble_eq_true rfl) dL_law_348 ⟨by show cells + 1 ≤ 601024; omega, by show slots + 6 ≤ 7293034; omega⟩) (fun H locs hP hD hS => ?_)
  replace hP : va_P D vwCl ((zWC cI cJ cZ h1 gP gR gQ gT gE gM gS) ++ ([(oa, .inl (cJ, 1, .inr (.inl f)))] ++ (zWM cI cJ cZ h2 mG (tmH.s_thrown mH k) mR mW mS mK mD mN mO mB mM mF))) H := hP
  replace hD : va_D (Al s) ((zWC cI cJ cZ h1 gP gR gQ gT gE gM gS) ++ ([(oa, .inl (cJ, 1, .inr (.inl f)))] ++ (zWM cI cJ cZ h2 mG (tmH.s_thrown mH k) mR mW mS mK mD mN mO mB mM mF))) := hD
  refine lv_istore (lv' := [(6, .int r2), (5, .int k), (0, .ref b), (1, .ref (h1 0)), (2, .ref (h2 0)), (3, .ref oa), (4, .int x4)]) hx hb dL_law_351 hl (by decide) rfl (fun ls hl => ?_)
  refine lv_aload_n hx hb dL_law_353 rfl (lv_at hl 4 rfl) ?_
  refine zthen_2 (wb := [(oa, .inl (cJ, 1, .inr (.inl f)))]) (ws := (zWM cI cJ cZ h2 mG (tmH.s_thrown mH k) mR mW mS mK mD mN mO mB mM mF)) hA hP hD hS (zrunVc (As := []) (rest := []) hC (zP_m hP) (zD_m hD) 0 rfl rfl (c_X8_thrown l D cI cJ cZ h2 mG (tmH.s_thrown mH k) mR mW mS mK mD mN mO mB mM mF k rfl H.size) kRL_44 rfl rfl ⟨by decide, by decide⟩ rfl hl.1 rfl (Nat.le_of_ble_eq_true rfl) dL_law_354 ⟨by show cells + 1 ≤ 601024; omega, by show slots + 6 ≤ 7293034; omega⟩) (fun H locs hP hD hS => ?_)
  refine lv_iload hx hb dL_law_357 (lv_at hl 1 rfl) ?_
  refine lv_icmp_eq (tgt := 364) hx hb dL_law_359 (by decide) (fun c9 => ?_) (fun c9 => absurd rfl c9)
  refine lv_iload hx hb dL_law_364 (lv_at hl 1 rfl) ?_
  have fin : W p l e room_1 s m #[Value.ref b] below meth c H locs (cells + 1) (slots + 6) (lw_Z below #[Value.ref b] s) (F0 m 381 ls []) := by
    refine lv_goto (tgt := 735) hx hb dL_law_381 (by decide) ?_
    exact kk gP gR gQ gT gE gM gS mG (tmH.s_thrown mH k) mR mW mS mK mD mN mO mB mM mF f H locs ls hI hP hD hS (lv_sub hl [2, 3, 4, 5, 6] rfl)
  refine lv_if_ne (tgt := 381) hx hb dL_law_366 (by decide) (fun _ => fin) (fun z0 => ?_)
  refine lv_aload_n hx hb dL_law_369 rfl (lv_at hl 5 rfl) ?_
  refine lv_iconst (v := 0) hx hb dL_law_370 (by decide) ?_
  refine va_lald hx hb hK.1 hP 35 1 rfl rfl (show ¬ ((0 : Int32) < 0 ∨ 1 ≤ (0 : Int32).toNatClampNeg) by decide) dL_law_371 ?_
  refine lv_iload hx hb dL_law_372 (lv_at hl 0 rfl) ?_
  refine lv_i2l hx hb dL_law_374 rfl ?_
  refine W.lcmp hx hb dL_law_375 ?_
  refine lv_if_eq (tgt := 381) hx hb dL_law_376 (by decide) (fun _ => fin) (fun z1 => absurd ((lg_cmp_eq _ _).mpr ?_) z1)
  rw [show (0 : Int32).toNatClampNeg = 0 from rfl, hf0 z0, hk0 z0]
theorem kRL_61 : zcw RL 61 RX8 yX8_part cX8_part 3 (some .long) 2 := ⟨tb_18_23, tb_19_0, tb_19_1, tb_1_5, tb_19_2, by decide +kernel⟩
set_option maxRecDepth 100000 in
set_option maxHeartbeats 4000000 in
theorem law_part {p : Program} {l : Launch} {e : Env} {s : State} {m : MethodId} {below : List Frame} {meth : Method} {c : Code} {b L : Nat} {xs : Nat → Int32} {D : va_G} {cI cJ cZ : ClassId} {h1 h2 : Nat → Nat} {oa : Nat} {x4 : Int32} {cells slots : Nat} (hX : zLx p l s m meth c b L xs D cI cJ cZ) {N : Nat} (hN : 4 ^ 30 < N) (hv : vp_in (x4 + 1) L ∧ vp_in (x4 + 2) L ∧ vp_in (x4 + 3) L ∧ vp_in (x4 + 4) L) (hc : cells + 1 ≤ 601024) (hs : slots + 6 ≤ 7293034) (kk : zGo p l e s m below meth c b D cI cJ cZ h1 h2 oa x4 (cells + 1) (slots + 6) 735) : zGo p l e s m below meth c b D cI cJ cZ h1 h2 oa x4 cells slots 384 := by
  intro gP gR gQ gT gE gM gS mG mH mR mW mS mK mD mN mO mB mM mF f H locs ls hI hP hD hS hl
  obtain ⟨hlt, hC, htx, hT, hH, hXs, hbl⟩ := id hX
  obtain ⟨hx, hb, hml, hown, hts, hK, hr, hlocks, hA⟩ := id hC
  have hbA : ¬ Al s b := Nat.not_le.mpr hbl
  have hN1 : 1000 < N := Nat.lt_trans (by decide) hN
  obtain ⟨k, r, r2, e1, e2, hk3, hk0⟩ := op_part (mH := mH) hN1 hI (xs (x4 + 1).toNatClampNeg) (xs (x4 + 2).toNatClampNeg)
  refine lv_aload_n hx hb dL_law_384 rfl (lv_at hl 1 rfl) ?_
  refine lv_aload_n hx hb dL_law_385 rfl (lv_at hl 0 rfl) ?_
  refine lv_iload hx hb dL_law_386 (lv_at hl 4 rfl) ?_
  refine lv_iconst (v := 1) hx hb dL_law_388 (by decide) ?_
  refine lv_iadd hx hb dL_law_389 ?_
  refine va_sld hx hb hXs hbl hbA hS hv.1 dL_law_390 ?_
  refine lv_aload_n hx hb dL_law_391 rfl (lv_at hl 0 rfl) ?_
  refine lv_iload hx hb dL_law_392 (lv_at hl 4 rfl) ?_
  refine lv_iconst (v := 2) hx hb dL_law_394 (by decide) ?_
  refine lv_iadd hx hb dL_law_395 ?_
  refine va_sld hx hb hXs hbl hbA hS hv.2.1 dL_law_396 ?_
  refine lv_aload_n hx hb dL_law_397 rfl (lv_at hl 3 rfl) ?_
  refine zthen_3 (na := 4) (As := [.ref (h1 0), .int (xs (x4 + 1).toNatClampNeg), .int (xs (x4 + 2).toNatClampNeg), .ref oa]) (rest := []) hC htx hT hH hP hD hS (x_L_part l hlt D cI cJ cZ h1 N gP gR gQ gT gE gM gS oa f (xs (x4 + 1).toNatClampNeg) (xs (x4 + 2).toNatClampNeg) k r e1 H.size) (zgSX (own := RL) (index := 59) tb_18_1 tb_18_2 tb_9_3 tb_18_3) (by decide +kernel) rfl rfl ⟨by decide, by decide⟩ rfl hl.1 rfl (Nat.le_of_ble_eq_true rfl) dL_law_398 ⟨by show cells + 1 ≤ 601024; omega, by show slots + 6 ≤ 7293034; omega⟩ (fun f H locs hf0 hP hD hS => ?_)
  refine lv_istore (lv' := [(5, .int k), (0, .ref b), (1, .ref (h1 0)), (2, .ref (h2 0)), (3, .ref oa), (4, .int x4)]) hx hb dL_law_401 hl (by decide) rfl (fun ls hl => ?_)
  refine lv_aload_n hx hb dL_law_403 rfl (lv_at hl 3 rfl) ?_
  refine lv_aload_n hx hb dL_law_404 rfl (lv_at hl 1 rfl) ?_
  refine lv_iload hx hb dL_law_405 (lv_at hl 5 rfl) ?_
  refine lv_iconst (v := 1) hx hb dL_law_407 (by decide) ?_
  refine lv_iadd hx hb dL_law_408 ?_
  refine va_sld hx hb hXs hbl hbA hS hv.1 dL_law_409 ?_
  refine lv_aload_n hx hb dL_law_410 rfl (lv_at hl 1 rfl) ?_
  refine lv_iload hx hb dL_law_411 (lv_at hl 5 rfl) ?_
  refine lv_iconst (v := 2) hx hb dL_law_413 (by decide) ?_
  refine lv_iadd hx hb dL_law_414 ?_
  refine va_sld hx hb hXs hbl hbA hS hv.2.1 dL_law_415 ?_
  refine zthen_2l (wb := [(oa, .inl (cJ, 1, .inr (.inl f)))]) (ws := (zWM cI cJ cZ h2 mG mH mR mW mS mK mD mN mO mB mM mF)) hA hP hD hS (zrunVc (As := [.int (xs (x4 + 1).toNatClampNeg), .int (xs (x4 + 2).toNatClampNeg)]) (rest := []) hC (zP_m hP) (zD_m hD) 0 rfl rfl (c_X8_part l D cI cJ cZ h2 N mG mH mR mW mS mK mD mN mO mB mM mF (xs (x4 + 1).toNatClampNeg) (xs (x4 + 2).toNatClampNeg) _ e2 H.size) kRL_61 rfl rfl ⟨by decide, by decide⟩ rfl hl.1 rfl (Nat.le_of_ble_eq_true rfl) dL_law_416 ⟨by show cells + 1 ≤ 601024; omega, by show slots + 6 ≤ 7293034; omega⟩) (fun H locs hP hD hS => ?_)
  replace hP : va_P D vwCl ((zWC cI cJ cZ h1 gP gR gQ gT gE gM gS) ++ ([(oa, .inl (cJ, 1, .inr (.inl f)))] ++ (zWM cI cJ cZ h2 mG (tmH.s_thrown mH k) mR mW mS mK mD mN mO mB mM mF))) H := hP
  replace hD : va_D (Al s) ((zWC cI cJ cZ h1 gP gR gQ gT gE gM gS) ++ ([(oa, .inl (cJ, 1, .inr (.inl f)))] ++ (zWM cI cJ cZ h2 mG (tmH.s_thrown mH k) mR mW mS mK mD mN mO mB mM mF))) := hD
  refine lv_lstore (lv' := [(6, .long r2), (5, .int k), (0, .ref b), (1, .ref (h1 0)), (2, .ref (h2 0)), (3, .ref oa), (4, .int x4)]) hx hb dL_law_419 hl (by decide) rfl (fun ls hl => ?_)
  refine lv_aload_n hx hb dL_law_421 rfl (lv_at hl 4 rfl) ?_
  refine zthen_2 (wb := [(oa, .inl (cJ, 1, .inr (.inl f)))]) (ws := (zWM cI cJ cZ h2 mG (tmH.s_thrown mH k) mR mW mS mK mD mN mO mB mM mF)) hA hP hD hS (zrunVc (As := []) (rest := []) hC (zP_m hP) (zD_m hD) 0 rfl rfl (c_X8_thrown l D cI cJ cZ h2 mG (tmH.s_thrown mH k) mR mW mS mK mD mN mO mB mM mF k rfl H.size) kRL_44 rfl rfl ⟨by decide, by decide⟩ rfl hl.1 rfl (Nat.le_of_ble_eq_true rfl) dL_law_422 ⟨by show cells + 1 ≤ 601024; omega, by show slots + 6 ≤ 7293034; omega⟩) (fun H locs hP hD hS => ?_)
  refine lv_iload hx hb dL_law_425 (lv_at hl 1 rfl) ?_
  refine lv_icmp_eq (tgt := 432) hx hb dL_law_427 (by decide) (fun c9 => ?_) (fun c9 => absurd rfl c9)
  refine lv_iload hx hb dL_law_432 (lv_at hl 1 rfl) ?_
  have fin : W p l e room_1 s m #[Value.ref b] below meth c H locs (cells + 1) (slots + 6) (lw_Z below #[Value.ref b] s) (F0 m 448 ls []) := by
    refine lv_goto (tgt := 735) hx hb dL_law_448 (by decide) ?_
    exact kk gP gR gQ gT gE gM gS mG (tmH.s_thrown mH k) mR mW mS mK mD mN mO mB mM mF f H locs ls hI hP hD hS (lv_sub hl [2, 3, 4, 5, 6] rfl)
  refine lv_if_ne (tgt := 448) hx hb dL_law_434 (by decide) (fun _ => fin) (fun z0 => ?_)
  refine lv_aload_n hx hb dL_law_437 rfl (lv_at hl 5 rfl) ?_
  refine lv_iconst (v := 0) hx hb dL_law_438 (by decide) ?_
  refine va_lald hx hb hK.1 hP 35 1 rfl rfl (show ¬ ((0 : Int32) < 0 ∨ 1 ≤ (0 : Int32).toNatClampNeg) by decide) dL_law_439 ?_
  refine lv_lload hx hb dL_law_440 (lv_at hl 0 rfl) ?_
  refine W.lcmp hx hb dL_law_442 ?_
  refine lv_if_eq (tgt := 448) hx hb dL_law_443 (by decide) (fun _ => fin) (fun z1 => absurd ((lg_cmp_eq _ _).mpr ?_) z1)
  rw [show (0 : Int32).toNatClampNeg = 0 from rfl, hf0 z0, hk0 z0]
