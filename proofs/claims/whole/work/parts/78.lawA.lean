theorem kRL_28 : zcw RL 28 RX7 yX7_piece cX7_piece 6 (some .int) 4 := ⟨tb_6_20, tb_6_21, tb_6_22, tb_1_2, tb_6_23, by decide +kernel⟩
theorem kRL_32 : zcw RL 32 RX8 yX8_piece cX8_piece 5 (some .int) 4 := ⟨tb_7_23, tb_8_0, tb_8_1, tb_1_5, tb_8_2, by decide +kernel⟩
set_option maxRecDepth 100000 in
set_option maxHeartbeats 4000000 in
theorem law_piece {p : Program} {l : Launch} {e : Env} {s : State} {m : MethodId} {below : List Frame} {meth : Method} {c : Code} {b L : Nat} {xs : Nat → Int32} {D : va_G} {cI cJ cZ : ClassId} {h1 h2 : Nat → Nat} {oa : Nat} {x4 : Int32} {cells slots : Nat} (hX : zLx p l s m meth c b L xs D cI cJ cZ) {N : Nat} (hN : 4 ^ 30 < N) (hv : vp_in (x4 + 1) L ∧ vp_in (x4 + 2) L ∧ vp_in (x4 + 3) L ∧ vp_in (x4 + 4) L) (hc : cells + 1 ≤ 601024) (hs : slots + 6 ≤ 7293034) (kk : zGo p l e s m below meth c b D cI cJ cZ h1 h2 oa x4 (cells + 1) (slots + 6) 735) : zGo p l e s m below meth c b D cI cJ cZ h1 h2 oa x4 cells slots 112 := by
  intro gP gR gQ gT gE gM gS mG mH mR mW mS mK mD mN mO mB mM mF f H locs ls hI hP hD hS hl
  obtain ⟨hlt, hC, htx, hT, hH, hXs, hbl⟩ := id hX
  obtain ⟨hx, hb, hml, hown, hts, hK, hr, hlocks, hA⟩ := id hC
  have hbA : ¬ Al s b := Nat.not_le.mpr hbl
  have hN1 : 1000 < N := Nat.lt_trans (by decide) hN
  obtain ⟨r, gP1, gQ1, gT1, gE1, mG1, mK1, mB1, e1, e2, hI⟩ := op_piece hI (xs (x4 + 1).toNatClampNeg) (xs (x4 + 2).toNatClampNeg) (xs (x4 + 3).toNatClampNeg) (xs (x4 + 4).toNatClampNeg)
  refine lv_aload_n hx hb dL_law_112 rfl (lv_at hl 1 rfl) ?_
  refine lv_aload_n hx hb dL_law_113 rfl (lv_at hl 0 rfl) ?_
  refine lv_iload hx hb dL_law_114 (lv_at hl 4 rfl) ?_
  refine lv_iconst (v := 1) hx hb dL_law_116 (by decide) ?_
  refine lv_iadd hx hb dL_law_117 ?_
  refine va_sld hx hb hXs hbl hbA hS hv.1 dL_law_118 ?_
  refine lv_aload_n hx hb dL_law_119 rfl (lv_at hl 0 rfl) ?_
  refine lv_iload hx hb dL_law_120 (lv_at hl 4 rfl) ?_
  refine lv_iconst (v := 2) hx hb dL_law_122 (by decide) ?_
  refine lv_iadd hx hb dL_law_123 ?_
  refine va_sld hx hb hXs hbl hbA hS hv.2.1 dL_law_124 ?_
  refine lv_aload_n hx hb dL_law_125 rfl (lv_at hl 0 rfl) ?_
  refine lv_iload hx hb dL_law_126 (lv_at hl 4 rfl) ?_
  refine lv_iconst (v := 3) hx hb dL_law_128 (by decide) ?_
  refine lv_iadd hx hb dL_law_129 ?_
  refine va_sld hx hb hXs hbl hbA hS hv.2.2.1 dL_law_130 ?_
  refine lv_aload_n hx hb dL_law_131 rfl (lv_at hl 0 rfl) ?_
  refine lv_iload hx hb dL_law_132 (lv_at hl 4 rfl) ?_
  refine lv_iconst (v := 4) hx hb dL_law_134 (by decide) ?_
  refine lv_iadd hx hb dL_law_135 ?_
  refine va_sld hx hb hXs hbl hbA hS hv.2.2.2 dL_law_136 ?_
  refine zthen_1 hA hP hD hS (zrunVc (As := [.int (xs (x4 + 1).toNatClampNeg), .int (xs (x4 + 2).toNatClampNeg), .int (xs (x4 + 3).toNatClampNeg), .int (xs (x4 + 4).toNatClampNeg)]) (rest := []) hC (zP_l hP) (zD_l hD) 0 rfl rfl (c_X7_piece l D cI cJ cZ h1 gP gR gQ gT gE gM gS (xs (x4 + 1).toNatClampNeg) (xs (x4 + 2).toNatClampNeg) (xs (x4 + 3).toNatClampNeg) (xs (x4 + 4).toNatClampNeg) _ e1 H.size) kRL_28 rfl rfl ⟨by decide, by decide⟩ rfl hl.1 rfl (Nat.le_of_ble_eq_true rfl) dL_law_137 ⟨by show cells ≤ 601024; omega, by show slots ≤ 7293034; omega⟩) (fun H locs hP hD hS => ?_)
  replace hP : va_P D vwCl ((zWC cI cJ cZ h1 gP1 gR gQ1 gT1 gE1 gM gS) ++ ([(oa, .inl (cJ, 1, .inr (.inl f)))] ++ (zWM cI cJ cZ h2 mG mH mR mW mS mK mD mN mO mB mM mF))) H := hP
  replace hD : va_D (Al s) ((zWC cI cJ cZ h1 gP1 gR gQ1 gT1 gE1 gM gS) ++ ([(oa, .inl (cJ, 1, .inr (.inl f)))] ++ (zWM cI cJ cZ h2 mG mH mR mW mS mK mD mN mO mB mM mF))) := hD
  refine lv_aload_n hx hb dL_law_140 rfl (lv_at hl 2 rfl) ?_
  refine lv_aload_n hx hb dL_law_141 rfl (lv_at hl 0 rfl) ?_
  refine lv_iload hx hb dL_law_142 (lv_at hl 4 rfl) ?_
  refine lv_iconst (v := 1) hx hb dL_law_144 (by decide) ?_
  refine lv_iadd hx hb dL_law_145 ?_
  refine va_sld hx hb hXs hbl hbA hS hv.1 dL_law_146 ?_
  refine lv_aload_n hx hb dL_law_147 rfl (lv_at hl 0 rfl) ?_
  refine lv_iload hx hb dL_law_148 (lv_at hl 4 rfl) ?_
  refine lv_iconst (v := 2) hx hb dL_law_150 (by decide) ?_
  refine lv_iadd hx hb dL_law_151 ?_
  refine va_sld hx hb hXs hbl hbA hS hv.2.1 dL_law_152 ?_
  refine lv_aload_n hx hb dL_law_153 rfl (lv_at hl 0 rfl) ?_
  refine lv_iload hx hb dL_law_154 (lv_at hl 4 rfl) ?_
  refine lv_iconst (v := 3) hx hb dL_law_156 (by decide) ?_
  refine lv_iadd hx hb dL_law_157 ?_
  refine va_sld hx hb hXs hbl hbA hS hv.2.2.1 dL_law_158 ?_
  refine lv_aload_n hx hb dL_law_159 rfl (lv_at hl 0 rfl) ?_
  refine lv_iload hx hb dL_law_160 (lv_at hl 4 rfl) ?_
  refine lv_iconst (v := 4) hx hb dL_law_162 (by decide) ?_
  refine lv_iadd hx hb dL_law_163 ?_
  refine va_sld hx hb hXs hbl hbA hS hv.2.2.2 dL_law_164 ?_
  refine zthen_2 (wb := [(oa, .inl (cJ, 1, .inr (.inl f)))]) (ws := (zWM cI cJ cZ h2 mG mH mR mW mS mK mD mN mO mB mM mF)) hA hP hD hS (zrunVc (As := [.int (xs (x4 + 1).toNatClampNeg), .int (xs (x4 + 2).toNatClampNeg), .int (xs (x4 + 3).toNatClampNeg), .int (xs (x4 + 4).toNatClampNeg)]) (rest := [.int r]) hC (zP_m hP) (zD_m hD) 0 rfl rfl (c_X8_piece l D cI cJ cZ h2 mG mH mR mW mS mK mD mN mO mB mM mF (xs (x4 + 1).toNatClampNeg) (xs (x4 + 2).toNatClampNeg) (xs (x4 + 3).toNatClampNeg) (xs (x4 + 4).toNatClampNeg) _ e2 H.size) kRL_32 rfl rfl ⟨by decide, by decide⟩ rfl hl.1 rfl (Nat.le_of_ble_eq_true rfl) dL_law_165 ⟨by show cells ≤ 601024; omega, by show slots ≤ 7293034; omega⟩) (fun H locs hP hD hS => ?_)
  replace hP : va_P D vwCl ((zWC cI cJ cZ h1 gP1 gR gQ1 gT1 gE1 gM gS) ++ ([(oa, .inl (cJ, 1, .inr (.inl f)))] ++ (zWM cI cJ cZ h2 mG1 (tmH.s_thrown mH 0) mR mW mS mK1 mD mN mO mB1 mM mF))) H := hP
  replace hD : va_D (Al s) ((zWC cI cJ cZ h1 gP1 gR gQ1 gT1 gE1 gM gS) ++ ([(oa, .inl (cJ, 1, .inr (.inl f)))] ++ (zWM cI cJ cZ h2 mG1 (tmH.s_thrown mH 0) mR mW mS mK1 mD mN mO mB1 mM mF))) := hD
  refine lv_icmp_eq (tgt := 735) hx hb dL_law_168 (by decide) (fun c9 => ?_) (fun c9 => absurd rfl c9)
  exact W.widen (k := cells + 1) (n := slots + 6) (by omega) (by omega) (kk gP1 gR gQ1 gT1 gE1 gM gS mG1 (tmH.s_thrown mH 0) mR mW mS mK1 mD mN mO mB1 mM mF f H locs ls hI hP hD hS hl)
theorem kRL_33 : zcw RL 33 RX7 yX7_drop cX7_drop 1 (some .int) 0 := ⟨tb_8_17, tb_8_18, tb_8_19, tb_1_2, tb_8_20, by decide +kernel⟩
theorem kRL_37 : zcw RL 37 RX8 yX8_drop cX8_drop 1 (some .int) 0 := ⟨tb_8_21, tb_8_22, tb_8_23, tb_1_5, tb_9_0, by decide +kernel⟩
set_option maxRecDepth 100000 in
set_option maxHeartbeats 4000000 in
theorem law_drop {p : Program} {l : Launch} {e : Env} {s : State} {m : MethodId} {below : List Frame} {meth : Method} {c : Code} {b L : Nat} {xs : Nat → Int32} {D : va_G} {cI cJ cZ : ClassId} {h1 h2 : Nat → Nat} {oa : Nat} {x4 : Int32} {cells slots : Nat} (hX : zLx p l s m meth c b L xs D cI cJ cZ) {N : Nat} (hN : 4 ^ 30 < N) (hv : vp_in (x4 + 1) L ∧ vp_in (x4 + 2) L ∧ vp_in (x4 + 3) L ∧ vp_in (x4 + 4) L) (hc : cells + 1 ≤ 601024) (hs : slots + 6 ≤ 7293034) (kk : zGo p l e s m below meth c b D cI cJ cZ h1 h2 oa x4 (cells + 1) (slots + 6) 735) : zGo p l e s m below meth c b D cI cJ cZ h1 h2 oa x4 cells slots 173 := by
  intro gP gR gQ gT gE gM gS mG mH mR mW mS mK mD mN mO mB mM mF f H locs ls hI hP hD hS hl
  obtain ⟨hlt, hC, htx, hT, hH, hXs, hbl⟩ := id hX
  obtain ⟨hx, hb, hml, hown, hts, hK, hr, hlocks, hA⟩ := id hC
  have hbA : ¬ Al s b := Nat.not_le.mpr hbl
  have hN1 : 1000 < N := Nat.lt_trans (by decide) hN
  obtain ⟨r, gP1, gQ1, gT1, gE1, mG1, mK1, mB1, e1, e2, hI⟩ := op_drop (mH := mH) hI 
  refine lv_aload_n hx hb dL_law_173 rfl (lv_at hl 1 rfl) ?_
  refine zthen_1 hA hP hD hS (zrunVc (As := []) (rest := []) hC (zP_l hP) (zD_l hD) 0 rfl rfl (c_X7_drop l D cI cJ cZ h1 gP gR gQ gT gE gM gS  _ e1 H.size) kRL_33 rfl rfl ⟨by decide, by decide⟩ rfl hl.1 rfl (Nat.le_of_ble_eq_true rfl) dL_law_174 ⟨by show cells ≤ 601024; omega, by show slots ≤ 7293034; omega⟩) (fun H locs hP hD hS => ?_)
  replace hP : va_P D vwCl ((zWC cI cJ cZ h1 gP1 gR gQ1 gT1 gE1 gM gS) ++ ([(oa, .inl (cJ, 1, .inr (.inl f)))] ++ (zWM cI cJ cZ h2 mG mH mR mW mS mK mD mN mO mB mM mF))) H := hP
  replace hD : va_D (Al s) ((zWC cI cJ cZ h1 gP1 gR gQ1 gT1 gE1 gM gS) ++ ([(oa, .inl (cJ, 1, .inr (.inl f)))] ++ (zWM cI cJ cZ h2 mG mH mR mW mS mK mD mN mO mB mM mF))) := hD
  refine lv_aload_n hx hb dL_law_177 rfl (lv_at hl 2 rfl) ?_
  refine zthen_2 (wb := [(oa, .inl (cJ, 1, .inr (.inl f)))]) (ws := (zWM cI cJ cZ h2 mG mH mR mW mS mK mD mN mO mB mM mF)) hA hP hD hS (zrunVc (As := []) (rest := [.int r]) hC (zP_m hP) (zD_m hD) 0 rfl rfl (c_X8_drop l D cI cJ cZ h2 mG mH mR mW mS mK mD mN mO mB mM mF  _ e2 H.size) kRL_37 rfl rfl ⟨by decide, by decide⟩ rfl hl.1 rfl (Nat.le_of_ble_eq_true rfl) dL_law_178 ⟨by show cells ≤ 601024; omega, by show slots ≤ 7293034; omega⟩) (fun H locs hP hD hS => ?_)
  replace hP : va_P D vwCl ((zWC cI cJ cZ h1 gP1 gR gQ1 gT1 gE1 gM gS) ++ ([(oa, .inl (cJ, 1, .inr (.inl f)))] ++ (zWM cI cJ cZ h2 mG1 (tmH.s_thrown mH 0) mR mW mS mK1 mD mN mO mB1 mM mF))) H := hP
  replace hD : va_D (Al s) ((zWC cI cJ cZ h1 gP1 gR gQ1 gT1 gE1 gM gS) ++ ([(oa, .inl (cJ, 1, .inr (.inl f)))] ++ (zWM cI cJ cZ h2 mG1 (tmH.s_thrown mH 0) mR mW mS mK1 mD mN mO mB1 mM mF))) := hD
  refine lv_icmp_eq (tgt := 735) hx hb dL_law_181 (by decide) (fun c9 => ?_) (fun c9 => absurd rfl c9)
  exact W.widen (k := cells + 1) (n := slots + 6) (by omega) (by omega) (kk gP1 gR gQ1 gT1 gE1 gM gS mG1 (tmH.s_thrown mH 0) mR mW mS mK1 mD mN mO mB1 mM mF f H locs ls hI hP hD hS hl)
theorem kRL_47 : zcw RL 47 RX7 yX7_build cX7_build 3 (some .int) 2 := ⟨tb_10_13, tb_10_14, tb_10_15, tb_1_2, tb_10_16, by decide +kernel⟩
theorem kRL_50 : zcw RL 50 RX8 yX8_build cX8_build 4 (some .int) 2 := ⟨tb_14_10, tb_14_11, tb_14_12, tb_1_5, tb_14_13, by decide +kernel⟩
set_option maxRecDepth 100000 in
set_option maxHeartbeats 4000000 in
theorem law_build {p : Program} {l : Launch} {e : Env} {s : State} {m : MethodId} {below : List Frame} {meth : Method} {c : Code} {b L : Nat} {xs : Nat → Int32} {D : va_G} {cI cJ cZ : ClassId} {h1 h2 : Nat → Nat} {oa : Nat} {x4 : Int32} {cells slots : Nat} (hX : zLx p l s m meth c b L xs D cI cJ cZ) {N : Nat} (hN : 4 ^ 30 < N) (hv : vp_in (x4 + 1) L ∧ vp_in (x4 + 2) L ∧ vp_in (x4 + 3) L ∧ vp_in (x4 + 4) L) (hc : cells + 1 ≤ 601024) (hs : slots + 6 ≤ 7293034) (kk : zGo p l e s m below meth c b D cI cJ cZ h1 h2 oa x4 (cells + 1) (slots + 6) 735) : zGo p l e s m below meth c b D cI cJ cZ h1 h2 oa x4 cells slots 254 := by
  intro gP gR gQ gT gE gM gS mG mH mR mW mS mK mD mN mO mB mM mF f H locs ls hI hP hD hS hl
  obtain ⟨hlt, hC, htx, hT, hH, hXs, hbl⟩ := id hX
  obtain ⟨hx, hb, hml, hown, hts, hK, hr, hlocks, hA⟩ := id hC
  have hbA : ¬ Al s b := Nat.not_le.mpr hbl
  have hN1 : 1000 < N := Nat.lt_trans (by decide) hN
  obtain ⟨r, gR1, gQ1, gT1, gE1, mR1, mW1, mS1, mK1, mD1, mN1, mO1, mB1, e1, e2, hI⟩ := op_build (gR := gR) (mH := mH) (mR := mR) (mW := mW) (mS := mS) (mD := mD) (mN := mN) (mO := mO) hN1 hI (xs (x4 + 1).toNatClampNeg) (xs (x4 + 2).toNatClampNeg)
  refine lv_aload_n hx hb dL_law_254 rfl (lv_at hl 1 rfl) ?_
  refine lv_aload_n hx hb dL_law_255 rfl (lv_at hl 0 rfl) ?_
  refine lv_iload hx hb dL_law_256 (lv_at hl 4 rfl) ?_
  refine lv_iconst (v := 1) hx hb dL_law_258 (by decide) ?_
  refine lv_iadd hx hb dL_law_259 ?_
  refine va_sld hx hb hXs hbl hbA hS hv.1 dL_law_260 ?_
  refine lv_aload_n hx hb dL_law_261 rfl (lv_at hl 0 rfl) ?_
  refine lv_iload hx hb dL_law_262 (lv_at hl 4 rfl) ?_
  refine lv_iconst (v := 2) hx hb dL_law_264 (by decide) ?_
  refine lv_iadd hx hb dL_law_265 ?_
  refine va_sld hx hb hXs hbl hbA hS hv.2.1 dL_law_266 ?_
  refine zthen_1 hA hP hD hS (zrunVc (As := [.int (xs (x4 + 1).toNatClampNeg), .int (xs (x4 + 2).toNatClampNeg)]) (rest := []) hC (zP_l hP) (zD_l hD) 0 rfl rfl (c_X7_build l D cI cJ cZ h1 N gP gR gQ gT gE gM gS (xs (x4 + 1).toNatClampNeg) (xs (x4 + 2).toNatClampNeg) _ e1 H.size) kRL_47 rfl rfl ⟨by decide, by decide⟩ rfl hl.1 rfl (Nat.le_of_ble_eq_true rfl) dL_law_267 ⟨by show cells ≤ 601024; omega, by show slots ≤ 7293034; omega⟩) (fun H locs hP hD hS => ?_)
  replace hP : va_P D vwCl ((zWC cI cJ cZ h1 gP gR1 gQ1 gT1 gE1 gM gS) ++ ([(oa, .inl (cJ, 1, .inr (.inl f)))] ++ (zWM cI cJ cZ h2 mG mH mR mW mS mK mD mN mO mB mM mF))) H := hP
  replace hD : va_D (Al s) ((zWC cI cJ cZ h1 gP gR1 gQ1 gT1 gE1 gM gS) ++ ([(oa, .inl (cJ, 1, .inr (.inl f)))] ++ (zWM cI cJ cZ h2 mG mH mR mW mS mK mD mN mO mB mM mF))) := hD
  refine lv_aload_n hx hb dL_law_270 rfl (lv_at hl 2 rfl) ?_
  refine lv_aload_n hx hb dL_law_271 rfl (lv_at hl 0 rfl) ?_
  refine lv_iload hx hb dL_law_272 (lv_at hl 4 rfl) ?_
  refine lv_iconst (v := 1) hx hb dL_law_274 (by decide) ?_
  refine lv_iadd hx hb dL_law_275 ?_
  refine va_sld hx hb hXs hbl hbA hS hv.1 dL_law_276 ?_
  refine lv_aload_n hx hb dL_law_277 rfl (lv_at hl 0 rfl) ?_
  refine lv_iload hx hb dL_law_278 (lv_at hl 4 rfl) ?_
  refine lv_iconst (v := 2) hx hb dL_law_280 (by decide) ?_
  refine lv_iadd hx hb dL_law_281 ?_
  refine va_sld hx hb hXs hbl hbA hS hv.2.1 dL_law_282 ?_
  refine zthen_2 (wb := [(oa, .inl (cJ, 1, .inr (.inl f)))]) (ws := (zWM cI cJ cZ h2 mG mH mR mW mS mK mD mN mO mB mM mF)) hA hP hD hS (zrunVc (As := [.int (xs (x4 + 1).toNatClampNeg), .int (xs (x4 + 2).toNatClampNeg)]) (rest := [.int r]) hC (zP_m hP) (zD_m hD) 0 rfl rfl (c_X8_build l D cI cJ cZ h2 N mG mH mR mW mS mK mD mN mO mB mM mF (xs (x4 + 1).toNatClampNeg) (xs (x4 + 2).toNatClampNeg) _ e2 H.size) kRL_50 rfl rfl ⟨by decide, by decide⟩ rfl hl.1 rfl (Nat.le_of_ble_eq_true rfl) dL_law_283 ⟨by show cells ≤ 601024; omega, by show slots ≤ 7293034; omega⟩) (fun H locs hP hD hS => ?_)
  replace hP : va_P D vwCl ((zWC cI cJ cZ h1 gP gR1 gQ1 gT1 gE1 gM gS) ++ ([(oa, .inl (cJ, 1, .inr (.inl f)))] ++ (zWM cI cJ cZ h2 mG (tmH.s_thrown mH 0) mR1 mW1 mS1 mK1 mD1 mN1 mO1 mB1 mM mF))) H := hP
  replace hD : va_D (Al s) ((zWC cI cJ cZ h1 gP gR1 gQ1 gT1 gE1 gM gS) ++ ([(oa, .inl (cJ, 1, .inr (.inl f)))] ++ (zWM cI cJ cZ h2 mG (tmH.s_thrown mH 0) mR1 mW1 mS1 mK1 mD1 mN1 mO1 mB1 mM mF))) := hD
  refine lv_icmp_eq (tgt := 735) hx hb dL_law_286 (by decide) (fun c9 => ?_) (fun c9 => absurd rfl c9)
  exact W.widen (k := cells + 1) (n := slots + 6) (by omega) (by omega) (kk gP gR1 gQ1 gT1 gE1 gM gS mG (tmH.s_thrown mH 0) mR1 mW1 mS1 mK1 mD1 mN1 mO1 mB1 mM mF f H locs ls hI hP hD hS hl)
theorem kRL_51 : zcw RL 51 RX7 yX7_count cX7_count 2 (some .int) 1 := ⟨tb_16_16, tb_16_17, tb_16_18, tb_1_2, tb_16_19, by decide +kernel⟩
theorem kRL_55 : zcw RL 55 RX8 yX8_count cX8_count 2 (some .int) 1 := ⟨tb_17_0, tb_17_1, tb_17_2, tb_1_5, tb_17_3, by decide +kernel⟩
set_option maxRecDepth 100000 in
set_option maxHeartbeats 4000000 in
theorem law_count {p : Program} {l : Launch} {e : Env} {s : State} {m : MethodId} {below : List Frame} {meth : Method} {c : Code} {b L : Nat} {xs : Nat → Int32} {D : va_G} {cI cJ cZ : ClassId} {h1 h2 : Nat → Nat} {oa : Nat} {x4 : Int32} {cells slots : Nat} (hX : zLx p l s m meth c b L xs D cI cJ cZ) {N : Nat} (hN : 4 ^ 30 < N) (hv : vp_in (x4 + 1) L ∧ vp_in (x4 + 2) L ∧ vp_in (x4 + 3) L ∧ vp_in (x4 + 4) L) (hc : cells + 1 ≤ 601024) (hs : slots + 6 ≤ 7293034) (kk : zGo p l e s m below meth c b D cI cJ cZ h1 h2 oa x4 (cells + 1) (slots + 6) 735) : zGo p l e s m below meth c b D cI cJ cZ h1 h2 oa x4 cells slots 291 := by
  intro gP gR gQ gT gE gM gS mG mH mR mW mS mK mD mN mO mB mM mF f H locs ls hI hP hD hS hl
  obtain ⟨hlt, hC, htx, hT, hH, hXs, hbl⟩ := id hX
  obtain ⟨hx, hb, hml, hown, hts, hK, hr, hlocks, hA⟩ := id hC
  have hbA : ¬ Al s b := Nat.not_le.mpr hbl
  have hN1 : 1000 < N := Nat.lt_trans (by decide) hN
  obtain ⟨r, e1, e2⟩ := op_count (mH := mH) hN1 hI (xs (x4 + 1).toNatClampNeg)
  refine lv_aload_n hx hb dL_law_291 rfl (lv_at hl 1 rfl) ?_
  refine lv_aload_n hx hb dL_law_292 rfl (lv_at hl 0 rfl) ?_
  refine lv_iload hx hb dL_law_293 (lv_at hl 4 rfl) ?_
  refine lv_iconst (v := 1) hx hb dL_law_295 (by decide) ?_
  refine lv_iadd hx hb dL_law_296 ?_
  refine va_sld hx hb hXs hbl hbA hS hv.1 dL_law_297 ?_
  refine zthen_1 hA hP hD hS (zrunVc (As := [.int (xs (x4 + 1).toNatClampNeg)]) (rest := []) hC (zP_l hP) (zD_l hD) 0 rfl rfl (c_X7_count l D cI cJ cZ h1 gP gR gQ gT gE gM gS (xs (x4 + 1).toNatClampNeg) _ e1 H.size) kRL_51 rfl rfl ⟨by decide, by decide⟩ rfl hl.1 rfl (Nat.le_of_ble_eq_true rfl) dL_law_298 ⟨by show cells ≤ 601024; omega, by show slots ≤ 7293034; omega⟩) (fun H locs hP hD hS => ?_)
  replace hP : va_P D vwCl ((zWC cI cJ cZ h1 gP gR gQ gT gE gM gS) ++ ([(oa, .inl (cJ, 1, .inr (.inl f)))] ++ (zWM cI cJ cZ h2 mG mH mR mW mS mK mD mN mO mB mM mF))) H := hP
  replace hD : va_D (Al s) ((zWC cI cJ cZ h1 gP gR gQ gT gE gM gS) ++ ([(oa, .inl (cJ, 1, .inr (.inl f)))] ++ (zWM cI cJ cZ h2 mG mH mR mW mS mK mD mN mO mB mM mF))) := hD
  refine lv_aload_n hx hb dL_law_301 rfl (lv_at hl 2 rfl) ?_
  refine lv_aload_n hx hb dL_law_302 rfl (lv_at hl 0 rfl) ?_
  refine lv_iload hx hb dL_law_303 (lv_at hl 4 rfl) ?_
  refine lv_iconst (v := 1) hx hb dL_law_305 (by decide) ?_
  refine lv_iadd hx hb dL_law_306 ?_
  refine va_sld hx hb hXs hbl hbA hS hv.1 dL_law_307 ?_
  refine zthen_2 (wb := [(oa, .inl (cJ, 1, .inr (.inl f)))]) (ws := (zWM cI cJ cZ h2 mG mH mR mW mS mK mD mN mO mB mM mF)) hA hP hD hS (zrunVc (As := [.int (xs (x4 + 1).toNatClampNeg)]) (rest := [.int r]) hC (zP_m hP) (zD_m hD) 0 rfl rfl (c_X8_count l D cI cJ cZ h2 N mG mH mR mW mS mK mD mN mO mB mM mF (xs (x4 + 1).toNatClampNeg) _ e2 H.size) kRL_55 rfl rfl ⟨by decide, by decide⟩ rfl hl.1 rfl (Nat.le_of_ble_eq_true rfl) dL_law_308 ⟨by show cells ≤ 601024; omega, by show slots ≤ 7293034; omega⟩) (fun H locs hP hD hS => ?_)
  replace hP : va_P D vwCl ((zWC cI cJ cZ h1 gP gR gQ gT gE gM gS) ++ ([(oa, .inl (cJ, 1, .inr (.inl f)))] ++ (zWM cI cJ cZ h2 mG (tmH.s_thrown mH 0) mR mW mS mK mD mN mO mB mM mF))) H := hP
  replace hD : va_D (Al s) ((zWC cI cJ cZ h1 gP gR gQ gT gE gM gS) ++ ([(oa, .inl (cJ, 1, .inr (.inl f)))] ++ (zWM cI cJ cZ h2 mG (tmH.s_thrown mH 0) mR mW mS mK mD mN mO mB mM mF))) := hD
  refine lv_icmp_eq (tgt := 735) hx hb dL_law_311 (by decide) (fun c9 => ?_) (fun c9 => absurd rfl c9)
  exact W.widen (k := cells + 1) (n := slots + 6) (by omega) (by omega) (kk gP gR gQ gT gE gM gS mG (tmH.s_thrown mH 0) mR mW mS mK mD mN mO mB mM mF f H locs ls hI hP hD hS hl)
theorem kRL_62 : zcw RL 62 RX7 yX7_where cX7_where 3 (some .int) 2 := ⟨tb_19_10, tb_19_11, tb_19_12, tb_1_2, tb_19_13, by decide +kernel⟩
theorem kRL_65 : zcw RL 65 RX8 yX8_where cX8_where 6 (some .int) 2 := ⟨tb_19_19, tb_19_20, tb_19_21, tb_1_5, tb_19_22, by decide +kernel⟩
set_option maxRecDepth 100000 in
set_option maxHeartbeats 4000000 in
theorem law_where {p : Program} {l : Launch} {e : Env} {s : State} {m : MethodId} {below : List Frame} {meth : Method} {c : Code} {b L : Nat} {xs : Nat → Int32} {D : va_G} {cI cJ cZ : ClassId} {h1 h2 : Nat → Nat} {oa : Nat} {x4 : Int32} {cells slots : Nat} (hX : zLx p l s m meth c b L xs D cI cJ cZ) {N : Nat} (hN : 4 ^ 30 < N) (hv : vp_in (x4 + 1) L ∧ vp_in (x4 + 2) L ∧ vp_in (x4 + 3) L ∧ vp_in (x4 + 4) L) (hc : cells + 1 ≤ 601024) (hs : slots + 6 ≤ 7293034) (kk : zGo p l e s m below meth c b D cI cJ cZ h1 h2 oa x4 (cells + 1) (slots + 6) 735) : zGo p l e s m below meth c b D cI cJ cZ h1 h2 oa x4 cells slots 451 := by
  intro gP gR gQ gT gE gM gS mG mH mR mW mS mK mD mN mO mB mM mF f H locs ls hI hP hD hS hl
  obtain ⟨hlt, hC, htx, hT, hH, hXs, hbl⟩ := id hX
  obtain ⟨hx, hb, hml, hown, hts, hK, hr, hlocks, hA⟩ := id hC
  have hbA : ¬ Al s b := Nat.not_le.mpr hbl
  have hN1 : 1000 < N := Nat.lt_trans (by decide) hN
  obtain ⟨r, e1, e2⟩ := op_where (mH := mH) hN1 hI (xs (x4 + 1).toNatClampNeg) (xs (x4 + 2).toNatClampNeg)
  refine lv_aload_n hx hb dL_law_451 rfl (lv_at hl 1 rfl) ?_
  refine lv_aload_n hx hb dL_law_452 rfl (lv_at hl 0 rfl) ?_
  refine lv_iload hx hb dL_law_453 (lv_at hl 4 rfl) ?_
  refine lv_iconst (v := 1) hx hb dL_law_455 (by decide) ?_
  refine lv_iadd hx hb dL_law_456 ?_
  refine va_sld hx hb hXs hbl hbA hS hv.1 dL_law_457 ?_
  refine lv_aload_n hx hb dL_law_458 rfl (lv_at hl 0 rfl) ?_
  refine lv_iload hx hb dL_law_459 (lv_at hl 4 rfl) ?_
  refine lv_iconst (v := 2) hx hb dL_law_461 (by decide) ?_
  refine lv_iadd hx hb dL_law_462 ?_
  refine va_sld hx hb hXs hbl hbA hS hv.2.1 dL_law_463 ?_
  refine zthen_1 hA hP hD hS (zrunVc (As := [.int (xs (x4 + 1).toNatClampNeg), .int (xs (x4 + 2).toNatClampNeg)]) (rest := []) hC (zP_l hP) (zD_l hD) 0 rfl rfl (c_X7_where l D cI cJ cZ h1 N gP gR gQ gT gE gM gS (xs (x4 + 1).toNatClampNeg) (xs (x4 + 2).toNatClampNeg) _ e1 H.size) kRL_62 rfl rfl ⟨by decide, by decide⟩ rfl hl.1 rfl (Nat.le_of_ble_eq_true rfl) dL_law_464 ⟨by show cells ≤ 601024; omega, by show slots ≤ 7293034; omega⟩) (fun H locs hP hD hS => ?_)
  replace hP : va_P D vwCl ((zWC cI cJ cZ h1 gP gR gQ gT gE gM gS) ++ ([(oa, .inl (cJ, 1, .inr (.inl f)))] ++ (zWM cI cJ cZ h2 mG mH mR mW mS mK mD mN mO mB mM mF))) H := hP
  replace hD : va_D (Al s) ((zWC cI cJ cZ h1 gP gR gQ gT gE gM gS) ++ ([(oa, .inl (cJ, 1, .inr (.inl f)))] ++ (zWM cI cJ cZ h2 mG mH mR mW mS mK mD mN mO mB mM mF))) := hD
  refine lv_aload_n hx hb dL_law_467 rfl (lv_at hl 2 rfl) ?_
  refine lv_aload_n hx hb dL_law_468 rfl (lv_at hl 0 rfl) ?_
  refine lv_iload hx hb dL_law_469 (lv_at hl 4 rfl) ?_
  refine lv_iconst (v := 1) hx hb dL_law_471 (by decide) ?_
  refine lv_iadd hx hb dL_law_472 ?_
  refine va_sld hx hb hXs hbl hbA hS hv.1 dL_law_473 ?_
  refine lv_aload_n hx hb dL_law_474 rfl (lv_at hl 0 rfl) ?_
  refine lv_iload hx hb dL_law_475 (lv_at hl 4 rfl) ?_
  refine lv_iconst (v := 2) hx hb dL_law_477 (by decide) ?_
  refine lv_iadd hx hb dL_law_478 ?_
  refine va_sld hx hb hXs hbl hbA hS hv.2.1 dL_law_479 ?_
  refine zthen_2 (wb := [(oa, .inl (cJ, 1, .inr (.inl f)))]) (ws := (zWM cI cJ cZ h2 mG mH mR mW mS mK mD mN mO mB mM mF)) hA hP hD hS (zrunVc (As := [.int (xs (x4 + 1).toNatClampNeg), .int (xs (x4 + 2).toNatClampNeg)]) (rest := [.int r]) hC (zP_m hP) (zD_m hD) 0 rfl rfl (c_X8_where l D cI cJ cZ h2 N mG mH mR mW mS mK mD mN mO mB mM mF (xs (x4 + 1).toNatClampNeg) (xs (x4 + 2).toNatClampNeg) _ e2 H.size) kRL_65 rfl rfl ⟨by decide, by decide⟩ rfl hl.1 rfl (Nat.le_of_ble_eq_true rfl) dL_law_480 ⟨by show cells ≤ 601024; omega, by show slots ≤ 7293034; omega⟩) (fun H locs hP hD hS => ?_)
  replace hP : va_P D vwCl ((zWC cI cJ cZ h1 gP gR gQ gT gE gM gS) ++ ([(oa, .inl (cJ, 1, .inr (.inl f)))] ++ (zWM cI cJ cZ h2 mG (tmH.s_thrown mH 0) mR mW mS mK mD mN mO mB mM mF))) H := hP
  replace hD : va_D (Al s) ((zWC cI cJ cZ h1 gP gR gQ gT gE gM gS) ++ ([(oa, .inl (cJ, 1, .inr (.inl f)))] ++ (zWM cI cJ cZ h2 mG (tmH.s_thrown mH 0) mR mW mS mK mD mN mO mB mM mF))) := hD
  refine lv_icmp_eq (tgt := 735) hx hb dL_law_483 (by decide) (fun c9 => ?_) (fun c9 => absurd rfl c9)
  exact W.widen (k := cells + 1) (n := slots + 6) (by omega) (by omega) (kk gP gR gQ gT gE gM gS mG (tmH.s_thrown mH 0) mR mW mS mK mD mN mO mB mM mF f H locs ls hI hP hD hS hl)
theorem kRL_66 : zcw RL 66 RX7 yX7_order cX7_order 3 (some .int) 2 := ⟨tb_19_23, tb_20_0, tb_20_1, tb_1_2, tb_20_2, by decide +kernel⟩
theorem kRL_69 : zcw RL 69 RX8 yX8_order cX8_order 6 (some .int) 2 := ⟨tb_20_20, tb_20_21, tb_20_22, tb_1_5, tb_20_23, by decide +kernel⟩
set_option maxRecDepth 100000 in
set_option maxHeartbeats 4000000 in
theorem law_order {p : Program} {l : Launch} {e : Env} {s : State} {m : MethodId} {below : List Frame} {meth : Method} {c : Code} {b L : Nat} {xs : Nat → Int32} {D : va_G} {cI cJ cZ : ClassId} {h1 h2 : Nat → Nat} {oa : Nat} {x4 : Int32} {cells slots : Nat} (hX : zLx p l s m meth c b L xs D cI cJ cZ) {N : Nat} (hN : 4 ^ 30 < N) (hv : vp_in (x4 + 1) L ∧ vp_in (x4 + 2) L ∧ vp_in (x4 + 3) L ∧ vp_in (x4 + 4) L) (hc : cells + 1 ≤ 601024) (hs : slots + 6 ≤ 7293034) (kk : zGo p l e s m below meth c b D cI cJ cZ h1 h2 oa x4 (cells + 1) (slots + 6) 735) : zGo p l e s m below meth c b D cI cJ cZ h1 h2 oa x4 cells slots 488 := by
  intro gP gR gQ gT gE gM gS mG mH mR mW mS mK mD mN mO mB mM mF f H locs ls hI hP hD hS hl
  obtain ⟨hlt, hC, htx, hT, hH, hXs, hbl⟩ := id hX
  obtain ⟨hx, hb, hml, hown, hts, hK, hr, hlocks, hA⟩ := id hC
  have hbA : ¬ Al s b := Nat.not_le.mpr hbl
  have hN1 : 1000 < N := Nat.lt_trans (by decide) hN
  obtain ⟨r, gE1, mB1, e1, e2, hI⟩ := op_order (mH := mH) hN hI (xs (x4 + 1).toNatClampNeg) (xs (x4 + 2).toNatClampNeg)
  refine lv_aload_n hx hb dL_law_488 rfl (lv_at hl 1 rfl) ?_
  refine lv_aload_n hx hb dL_law_489 rfl (lv_at hl 0 rfl) ?_
  refine lv_iload hx hb dL_law_490 (lv_at hl 4 rfl) ?_
  refine lv_iconst (v := 1) hx hb dL_law_492 (by decide) ?_
  refine lv_iadd hx hb dL_law_493 ?_
  refine va_sld hx hb hXs hbl hbA hS hv.1 dL_law_494 ?_
  refine lv_aload_n hx hb dL_law_495 rfl (lv_at hl 0 rfl) ?_
  refine lv_iload hx hb dL_law_496 (lv_at hl 4 rfl) ?_
  refine lv_iconst (v := 2) hx hb dL_law_498 (by decide) ?_
  refine lv_iadd hx hb dL_law_499 ?_
  refine va_sld hx hb hXs hbl hbA hS hv.2.1 dL_law_500 ?_
  refine zthen_1 hA hP hD hS (zrunVc (As := [.int (xs (x4 + 1).toNatClampNeg), .int (xs (x4 + 2).toNatClampNeg)]) (rest := []) hC (zP_l hP) (zD_l hD) 0 rfl rfl (c_X7_order l D cI cJ cZ h1 N gP gR gQ gT gE gM gS (xs (x4 + 1).toNatClampNeg) (xs (x4 + 2).toNatClampNeg) _ e1 H.size) kRL_66 rfl rfl ⟨by decide, by decide⟩ rfl hl.1 rfl (Nat.le_of_ble_eq_true rfl) dL_law_501 ⟨by show cells ≤ 601024; omega, by show slots ≤ 7293034; omega⟩) (fun H locs hP hD hS => ?_)
  replace hP : va_P D vwCl ((zWC cI cJ cZ h1 gP gR gQ gT gE1 gM gS) ++ ([(oa, .inl (cJ, 1, .inr (.inl f)))] ++ (zWM cI cJ cZ h2 mG mH mR mW mS mK mD mN mO mB mM mF))) H := hP
  replace hD : va_D (Al s) ((zWC cI cJ cZ h1 gP gR gQ gT gE1 gM gS) ++ ([(oa, .inl (cJ, 1, .inr (.inl f)))] ++ (zWM cI cJ cZ h2 mG mH mR mW mS mK mD mN mO mB mM mF))) := hD
  refine lv_aload_n hx hb dL_law_504 rfl (lv_at hl 2 rfl) ?_
  refine lv_aload_n hx hb dL_law_505 rfl (lv_at hl 0 rfl) ?_
  refine lv_iload hx hb dL_law_506 (lv_at hl 4 rfl) ?_
  refine lv_iconst (v := 1) hx hb dL_law_508 (by decide) ?_
  refine lv_iadd hx hb dL_law_509 ?_
  refine va_sld hx hb hXs hbl hbA hS hv.1 dL_law_510 ?_
  refine lv_aload_n hx hb dL_law_511 rfl (lv_at hl 0 rfl) ?_
  refine lv_iload hx hb dL_law_512 (lv_at hl 4 rfl) ?_
  refine lv_iconst (v := 2) hx hb dL_law_514 (by decide) ?_
  refine lv_iadd hx hb dL_law_515 ?_
  refine va_sld hx hb hXs hbl hbA hS hv.2.1 dL_law_516 ?_
  refine zthen_2 (wb := [(oa, .inl (cJ, 1, .inr (.inl f)))]) (ws := (zWM cI cJ cZ h2 mG mH mR mW mS mK mD mN mO mB mM mF)) hA hP hD hS (zrunVc (As := [.int (xs (x4 + 1).toNatClampNeg), .int (xs (x4 + 2).toNatClampNeg)]) (rest := [.int r]) hC (zP_m hP) (zD_m hD) 0 rfl rfl (c_X8_order l D cI cJ cZ h2 N mG mH mR mW mS mK mD mN mO mB mM mF (xs (x4 + 1).toNatClampNeg) (xs (x4 + 2).toNatClampNeg) _ e2 H.size) kRL_69 rfl rfl ⟨by decide, by decide⟩ rfl hl.1 rfl (Nat.le_of_ble_eq_true rfl) dL_law_517 ⟨by show cells ≤ 601024; omega, by show slots ≤ 7293034; omega⟩) (fun H locs hP hD hS => ?_)
  replace hP : va_P D vwCl ((zWC cI cJ cZ h1 gP gR gQ gT gE1 gM gS) ++ ([(oa, .inl (cJ, 1, .inr (.inl f)))] ++ (zWM cI cJ cZ h2 mG (tmH.s_thrown mH 0) mR mW mS mK mD mN mO mB1 mM mF))) H := hP
  replace hD : va_D (Al s) ((zWC cI cJ cZ h1 gP gR gQ gT gE1 gM gS) ++ ([(oa, .inl (cJ, 1, .inr (.inl f)))] ++ (zWM cI cJ cZ h2 mG (tmH.s_thrown mH 0) mR mW mS mK mD mN mO mB1 mM mF))) := hD
  refine lv_icmp_eq (tgt := 735) hx hb dL_law_520 (by decide) (fun c9 => ?_) (fun c9 => absurd rfl c9)
  exact W.widen (k := cells + 1) (n := slots + 6) (by omega) (by omega) (kk gP gR gQ gT gE1 gM gS mG (tmH.s_thrown mH 0) mR mW mS mK mD mN mO mB1 mM mF f H locs ls hI hP hD hS hl)
theorem kRL_70 : zcw RL 70 RX7 yX7_told cX7_told 2 (some .int) 1 := ⟨tb_21_0, tb_21_1, tb_21_2, tb_1_2, tb_21_3, by decide +kernel⟩
theorem kRL_73 : zcw RL 73 RX8 yX8_told cX8_told 2 (some .int) 1 := ⟨tb_21_5, tb_21_6, tb_21_7, tb_1_5, tb_21_8, by decide +kernel⟩
set_option maxRecDepth 100000 in
set_option maxHeartbeats 4000000 in
theorem law_told {p : Program} {l : Launch} {e : Env} {s : State} {m : MethodId} {below : List Frame} {meth : Method} {c : Code} {b L : Nat} {xs : Nat → Int32} {D : va_G} {cI cJ cZ : ClassId} {h1 h2 : Nat → Nat} {oa : Nat} {x4 : Int32} {cells slots : Nat} (hX : zLx p l s m meth c b L xs D cI cJ cZ) {N : Nat} (hN : 4 ^ 30 < N) (hv : vp_in (x4 + 1) L ∧ vp_in (x4 + 2) L ∧ vp_in (x4 + 3) L ∧ vp_in (x4 + 4) L) (hc : cells + 1 ≤ 601024) (hs : slots + 6 ≤ 7293034) (kk : zGo p l e s m below meth c b D cI cJ cZ h1 h2 oa x4 (cells + 1) (slots + 6) 735) : zGo p l e s m below meth c b D cI cJ cZ h1 h2 oa x4 cells slots 525 := by
  intro gP gR gQ gT gE gM gS mG mH mR mW mS mK mD mN mO mB mM mF f H locs ls hI hP hD hS hl
  obtain ⟨hlt, hC, htx, hT, hH, hXs, hbl⟩ := id hX
  obtain ⟨hx, hb, hml, hown, hts, hK, hr, hlocks, hA⟩ := id hC
  have hbA : ¬ Al s b := Nat.not_le.mpr hbl
  have hN1 : 1000 < N := Nat.lt_trans (by decide) hN
  obtain ⟨r, e1, e2⟩ := op_told (mH := mH) hI.2.2.1.choose_spec (xs (x4 + 1).toNatClampNeg)
  refine lv_aload_n hx hb dL_law_525 rfl (lv_at hl 1 rfl) ?_
  refine lv_aload_n hx hb dL_law_526 rfl (lv_at hl 0 rfl) ?_
  refine lv_iload hx hb dL_law_527 (lv_at hl 4 rfl) ?_
  refine lv_iconst (v := 1) hx hb dL_law_529 (by decide) ?_
  refine lv_iadd hx hb dL_law_530 ?_
  refine va_sld hx hb hXs hbl hbA hS hv.1 dL_law_531 ?_
  refine zthen_1 hA hP hD hS (zrunVc (As := [.int (xs (x4 + 1).toNatClampNeg)]) (rest := []) hC (zP_l hP) (zD_l hD) 0 rfl rfl (c_X7_told l D cI cJ cZ h1 gP gR gQ gT gE gM gS (xs (x4 + 1).toNatClampNeg) _ e1 H.size) kRL_70 rfl rfl ⟨by decide, by decide⟩ rfl hl.1 rfl (Nat.le_of_ble_eq_true rfl) dL_law_532 ⟨by show cells ≤ 601024; omega, by show slots ≤ 7293034; omega⟩) (fun H locs hP hD hS => ?_)
  replace hP : va_P D vwCl ((zWC cI cJ cZ h1 gP gR gQ gT gE gM gS) ++ ([(oa, .inl (cJ, 1, .inr (.inl f)))] ++ (zWM cI cJ cZ h2 mG mH mR mW mS mK mD mN mO mB mM mF))) H := hP
  replace hD : va_D (Al s) ((zWC cI cJ cZ h1 gP gR gQ gT gE gM gS) ++ ([(oa, .inl (cJ, 1, .inr (.inl f)))] ++ (zWM cI cJ cZ h2 mG mH mR mW mS mK mD mN mO mB mM mF))) := hD
  refine lv_aload_n hx hb dL_law_535 rfl (lv_at hl 2 rfl) ?_
  refine lv_aload_n hx hb dL_law_536 rfl (lv_at hl 0 rfl) ?_
  refine lv_iload hx hb dL_law_537 (lv_at hl 4 rfl) ?_
  refine lv_iconst (v := 1) hx hb dL_law_539 (by decide) ?_
  refine lv_iadd hx hb dL_law_540 ?_
  refine va_sld hx hb hXs hbl hbA hS hv.1 dL_law_541 ?_
  refine zthen_2 (wb := [(oa, .inl (cJ, 1, .inr (.inl f)))]) (ws := (zWM cI cJ cZ h2 mG mH mR mW mS mK mD mN mO mB mM mF)) hA hP hD hS (zrunVc (As := [.int (xs (x4 + 1).toNatClampNeg)]) (rest := [.int r]) hC (zP_m hP) (zD_m hD) 0 rfl rfl (c_X8_told l D cI cJ cZ h2 mG mH mR mW mS mK mD mN mO mB mM mF (xs (x4 + 1).toNatClampNeg) _ e2 H.size) kRL_73 rfl rfl ⟨by decide, by decide⟩ rfl hl.1 rfl (Nat.le_of_ble_eq_true rfl) dL_law_542 ⟨by show cells ≤ 601024; omega, by show slots ≤ 7293034; omega⟩) (fun H locs hP hD hS => ?_)
  replace hP : va_P D vwCl ((zWC cI cJ cZ h1 gP gR gQ gT gE gM gS) ++ ([(oa, .inl (cJ, 1, .inr (.inl f)))] ++ (zWM cI cJ cZ h2 mG (tmH.s_thrown mH 0) mR mW mS mK mD mN mO mB mM mF))) H := hP
  replace hD : va_D (Al s) ((zWC cI cJ cZ h1 gP gR gQ gT gE gM gS) ++ ([(oa, .inl (cJ, 1, .inr (.inl f)))] ++ (zWM cI cJ cZ h2 mG (tmH.s_thrown mH 0) mR mW mS mK mD mN mO mB mM mF))) := hD
  refine lv_icmp_eq (tgt := 735) hx hb dL_law_545 (by decide) (fun c9 => ?_) (fun c9 => absurd rfl c9)
  exact W.widen (k := cells + 1) (n := slots + 6) (by omega) (by omega) (kk gP gR gQ gT gE gM gS mG (tmH.s_thrown mH 0) mR mW mS mK mD mN mO mB mM mF f H locs ls hI hP hD hS hl)
theorem kRL_74 : zcw RL 74 RX7 yX7_sees cX7_sees 6 (some .int) 4 := ⟨tb_21_9, tb_21_10, tb_21_11, tb_1_2, tb_21_12, by decide +kernel⟩
theorem kRL_77 : zcw RL 77 RX8 yX8_sees cX8_sees 6 (some .int) 4 := ⟨tb_22_7, tb_22_8, tb_22_9, tb_1_5, tb_22_10, by decide +kernel⟩
set_option maxRecDepth 100000 in
set_option maxHeartbeats 4000000 in
theorem law_sees {p : Program} {l : Launch} {e : Env} {s : State} {m : MethodId} {below : List Frame} {meth : Method} {c : Code} {b L : Nat} {xs : Nat → Int32} {D : va_G} {cI cJ cZ : ClassId} {h1 h2 : Nat → Nat} {oa : Nat} {x4 : Int32} {cells slots : Nat} (hX : zLx p l s m meth c b L xs D cI cJ cZ) {N : Nat} (hN : 4 ^ 30 < N) (hv : vp_in (x4 + 1) L ∧ vp_in (x4 + 2) L ∧ vp_in (x4 + 3) L ∧ vp_in (x4 + 4) L) (hc : cells + 1 ≤ 601024) (hs : slots + 6 ≤ 7293034) (kk : zGo p l e s m below meth c b D cI cJ cZ h1 h2 oa x4 (cells + 1) (slots + 6) 735) : zGo p l e s m below meth c b D cI cJ cZ h1 h2 oa x4 cells slots 550 := by
  intro gP gR gQ gT gE gM gS mG mH mR mW mS mK mD mN mO mB mM mF f H locs ls hI hP hD hS hl
  obtain ⟨hlt, hC, htx, hT, hH, hXs, hbl⟩ := id hX
  obtain ⟨hx, hb, hml, hown, hts, hK, hr, hlocks, hA⟩ := id hC
  have hbA : ¬ Al s b := Nat.not_le.mpr hbl
  have hN1 : 1000 < N := Nat.lt_trans (by decide) hN
  obtain ⟨r, e1, e2⟩ := op_sees (mH := mH) hN1 hI (xs (x4 + 1).toNatClampNeg) (xs (x4 + 2).toNatClampNeg) (xs (x4 + 3).toNatClampNeg) (xs (x4 + 4).toNatClampNeg)
  refine lv_aload_n hx hb dL_law_550 rfl (lv_at hl 1 rfl) ?_
  refine lv_aload_n hx hb dL_law_551 rfl (lv_at hl 0 rfl) ?_
  refine lv_iload hx hb dL_law_552 (lv_at hl 4 rfl) ?_
  refine lv_iconst (v := 1) hx hb dL_law_554 (by decide) ?_
  refine lv_iadd hx hb dL_law_555 ?_
  refine va_sld hx hb hXs hbl hbA hS hv.1 dL_law_556 ?_
  refine lv_aload_n hx hb dL_law_557 rfl (lv_at hl 0 rfl) ?_
  refine lv_iload hx hb dL_law_558 (lv_at hl 4 rfl) ?_
  refine lv_iconst (v := 2) hx hb dL_law_560 (by decide) ?_
  refine lv_iadd hx hb dL_law_561 ?_
  refine va_sld hx hb hXs hbl hbA hS hv.2.1 dL_law_562 ?_
  refine lv_aload_n hx hb dL_law_563 rfl (lv_at hl 0 rfl) ?_
  refine lv_iload hx hb dL_law_564 (lv_at hl 4 rfl) ?_
  refine lv_iconst (v := 3) hx hb dL_law_566 (by decide) ?_
  refine lv_iadd hx hb dL_law_567 ?_
  refine va_sld hx hb hXs hbl hbA hS hv.2.2.1 dL_law_568 ?_
  refine lv_aload_n hx hb dL_law_569 rfl (lv_at hl 0 rfl) ?_
  refine lv_iload hx hb dL_law_570 (lv_at hl 4 rfl) ?_
  refine lv_iconst (v := 4) hx hb dL_law_572 (by decide) ?_
  refine lv_iadd hx hb dL_law_573 ?_
  refine va_sld hx hb hXs hbl hbA hS hv.2.2.2 dL_law_574 ?_
  refine zthen_1 hA hP hD hS (zrunVc (As := [.int (xs (x4 + 1).toNatClampNeg), .int (xs (x4 + 2).toNatClampNeg), .int (xs (x4 + 3).toNatClampNeg), .int (xs (x4 + 4).toNatClampNeg)]) (rest := []) hC (zP_l hP) (zD_l hD) 0 rfl rfl (c_X7_sees l D cI cJ cZ h1 N gP gR gQ gT gE gM gS (xs (x4 + 1).toNatClampNeg) (xs (x4 + 2).toNatClampNeg) (xs (x4 + 3).toNatClampNeg) (xs (x4 + 4).toNatClampNeg) _ e1 H.size) kRL_74 rfl rfl ⟨by decide, by decide⟩ rfl hl.1 rfl (Nat.le_of_ble_eq_true rfl) dL_law_575 ⟨by show cells ≤ 601024; omega, by show slots ≤ 7293034; omega⟩) (fun H locs hP hD hS => ?_)
  replace hP : va_P D vwCl ((zWC cI cJ cZ h1 gP gR gQ gT gE gM gS) ++ ([(oa, .inl (cJ, 1, .inr (.inl f)))] ++ (zWM cI cJ cZ h2 mG mH mR mW mS mK mD mN mO mB mM mF))) H := hP
  replace hD : va_D (Al s) ((zWC cI cJ cZ h1 gP gR gQ gT gE gM gS) ++ ([(oa, .inl (cJ, 1, .inr (.inl f)))] ++ (zWM cI cJ cZ h2 mG mH mR mW mS mK mD mN mO mB mM mF))) := hD
  refine lv_aload_n hx hb dL_law_578 rfl (lv_at hl 2 rfl) ?_
  refine lv_aload_n hx hb dL_law_579 rfl (lv_at hl 0 rfl) ?_
  refine lv_iload hx hb dL_law_580 (lv_at hl 4 rfl) ?_
  refine lv_iconst (v := 1) hx hb dL_law_582 (by decide) ?_
  refine lv_iadd hx hb dL_law_583 ?_
  refine va_sld hx hb hXs hbl hbA hS hv.1 dL_law_584 ?_
  refine lv_aload_n hx hb dL_law_585 rfl (lv_at hl 0 rfl) ?_
  refine lv_iload hx hb dL_law_586 (lv_at hl 4 rfl) ?_
  refine lv_iconst (v := 2) hx hb dL_law_588 (by decide) ?_
  refine lv_iadd hx hb dL_law_589 ?_
  refine va_sld hx hb hXs hbl hbA hS hv.2.1 dL_law_590 ?_
  refine lv_aload_n hx hb dL_law_591 rfl (lv_at hl 0 rfl) ?_
  refine lv_iload hx hb dL_law_592 (lv_at hl 4 rfl) ?_
  refine lv_iconst (v := 3) hx hb dL_law_594 (by decide) ?_
  refine lv_iadd hx hb dL_law_595 ?_
  refine va_sld hx hb hXs hbl hbA hS hv.2.2.1 dL_law_596 ?_
  refine lv_aload_n hx hb dL_law_597 rfl (lv_at hl 0 rfl) ?_
  refine lv_iload hx hb dL_law_598 (lv_at hl 4 rfl) ?_
  refine lv_iconst (v := 4) hx hb dL_law_600 (by decide) ?_
  refine lv_iadd hx hb dL_law_601 ?_
  refine va_sld hx hb hXs hbl hbA hS hv.2.2.2 dL_law_602 ?_
  refine zthen_2 (wb := [(oa, .inl (cJ, 1, .inr (.inl f)))]) (ws := (zWM cI cJ cZ h2 mG mH mR mW mS mK mD mN mO mB mM mF)) hA hP hD hS (zrunVc (As := [.int (xs (x4 + 1).toNatClampNeg), .int (xs (x4 + 2).toNatClampNeg), .int (xs (x4 + 3).toNatClampNeg), .int (xs (x4 + 4).toNatClampNeg)]) (rest := [.int r]) hC (zP_m hP) (zD_m hD) 0 rfl rfl (c_X8_sees l D cI cJ cZ h2 N mG mH mR mW mS mK mD mN mO mB mM mF (xs (x4 + 1).toNatClampNeg) (xs (x4 + 2).toNatClampNeg) (xs (x4 + 3).toNatClampNeg) (xs (x4 + 4).toNatClampNeg) _ e2 H.size) kRL_77 rfl rfl ⟨by decide, by decide⟩ rfl hl.1 rfl (Nat.le_of_ble_eq_true rfl) dL_law_603 ⟨by show cells ≤ 601024; omega, by show slots ≤ 7293034; omega⟩) (fun H locs hP hD hS => ?_)
  replace hP : va_P D vwCl ((zWC cI cJ cZ h1 gP gR gQ gT gE gM gS) ++ ([(oa, .inl (cJ, 1, .inr (.inl f)))] ++ (zWM cI cJ cZ h2 mG (tmH.s_thrown mH 0) mR mW mS mK mD mN mO mB mM mF))) H := hP
  replace hD : va_D (Al s) ((zWC cI cJ cZ h1 gP gR gQ gT gE gM gS) ++ ([(oa, .inl (cJ, 1, .inr (.inl f)))] ++ (zWM cI cJ cZ h2 mG (tmH.s_thrown mH 0) mR mW mS mK mD mN mO mB mM mF))) := hD
  refine lv_icmp_eq (tgt := 735) hx hb dL_law_606 (by decide) (fun c9 => ?_) (fun c9 => absurd rfl c9)
  exact W.widen (k := cells + 1) (n := slots + 6) (by omega) (by omega) (kk gP gR gQ gT gE gM gS mG (tmH.s_thrown mH 0) mR mW mS mK mD mN mO mB mM mF f H locs ls hI hP hD hS hl)
theorem kRL_78 : zcw RL 78 RX7 yX7_ray cX7_ray 6 (some .int) 4 := ⟨tb_23_4, tb_23_5, tb_23_6, tb_1_2, tb_23_7, by decide +kernel⟩
theorem kRL_81 : zcw RL 81 RX8 yX8_ray cX8_ray 13 (some .int) 4 := ⟨tb_24_10, tb_24_11, tb_24_12, tb_1_5, tb_24_13, by decide +kernel⟩
set_option maxRecDepth 100000 in
set_option maxHeartbeats 4000000 in
theorem law_ray {p : Program} {l : Launch} {e : Env} {s : State} {m : MethodId} {below : List Frame} {meth : Method} {c : Code} {b L : Nat} {xs : Nat → Int32} {D : va_G} {cI cJ cZ : ClassId} {h1 h2 : Nat → Nat} {oa : Nat} {x4 : Int32} {cells slots : Nat} (hX : zLx p l s m meth c b L xs D cI cJ cZ) {N : Nat} (hN : 4 ^ 30 < N) (hv : vp_in (x4 + 1) L ∧ vp_in (x4 + 2) L ∧ vp_in (x4 + 3) L ∧ vp_in (x4 + 4) L) (hc : cells + 1 ≤ 601024) (hs : slots + 6 ≤ 7293034) (kk : zGo p l e s m below meth c b D cI cJ cZ h1 h2 oa x4 (cells + 1) (slots + 6) 735) : zGo p l e s m below meth c b D cI cJ cZ h1 h2 oa x4 cells slots 611 := by
  intro gP gR gQ gT gE gM gS mG mH mR mW mS mK mD mN mO mB mM mF f H locs ls hI hP hD hS hl
  obtain ⟨hlt, hC, htx, hT, hH, hXs, hbl⟩ := id hX
  obtain ⟨hx, hb, hml, hown, hts, hK, hr, hlocks, hA⟩ := id hC
  have hbA : ¬ Al s b := Nat.not_le.mpr hbl
  have hN1 : 1000 < N := Nat.lt_trans (by decide) hN
  obtain ⟨r, gM1, mM1, e1, e2, hI⟩ := op_ray (mH := mH) hN1 hI (xs (x4 + 1).toNatClampNeg) (xs (x4 + 2).toNatClampNeg) (xs (x4 + 3).toNatClampNeg) (xs (x4 + 4).toNatClampNeg)
  refine lv_aload_n hx hb dL_law_611 rfl (lv_at hl 1 rfl) ?_
  refine lv_aload_n hx hb dL_law_612 rfl (lv_at hl 0 rfl) ?_
  refine lv_iload hx hb dL_law_613 (lv_at hl 4 rfl) ?_
  refine lv_iconst (v := 1) hx hb dL_law_615 (by decide) ?_
  refine lv_iadd hx hb dL_law_616 ?_
  refine va_sld hx hb hXs hbl hbA hS hv.1 dL_law_617 ?_
  refine lv_aload_n hx hb dL_law_618 rfl (lv_at hl 0 rfl) ?_
  refine lv_iload hx hb dL_law_619 (lv_at hl 4 rfl) ?_
  refine lv_iconst (v := 2) hx hb dL_law_621 (by decide) ?_
  refine lv_iadd hx hb dL_law_622 ?_
  refine va_sld hx hb hXs hbl hbA hS hv.2.1 dL_law_623 ?_
  refine lv_aload_n hx hb dL_law_624 rfl (lv_at hl 0 rfl) ?_
  refine lv_iload hx hb dL_law_625 (lv_at hl 4 rfl) ?_
  refine lv_iconst (v := 3) hx hb dL_law_627 (by decide) ?_
  refine lv_iadd hx hb dL_law_628 ?_
  refine va_sld hx hb hXs hbl hbA hS hv.2.2.1 dL_law_629 ?_
  refine lv_aload_n hx hb dL_law_630 rfl (lv_at hl 0 rfl) ?_
  refine lv_iload hx hb dL_law_631 (lv_at hl 4 rfl) ?_
  refine lv_iconst (v := 4) hx hb dL_law_633 (by decide) ?_
  refine lv_iadd hx hb dL_law_634 ?_
  refine va_sld hx hb hXs hbl hbA hS hv.2.2.2 dL_law_635 ?_
  refine zthen_1 hA hP hD hS (zrunVc (As := [.int (xs (x4 + 1).toNatClampNeg), .int (xs (x4 + 2).toNatClampNeg), .int (xs (x4 + 3).toNatClampNeg), .int (xs (x4 + 4).toNatClampNeg)]) (rest := []) hC (zP_l hP) (zD_l hD) 0 rfl rfl (c_X7_ray l D cI cJ cZ h1 N gP gR gQ gT gE gM gS (xs (x4 + 1).toNatClampNeg) (xs (x4 + 2).toNatClampNeg) (xs (x4 + 3).toNatClampNeg) (xs (x4 + 4).toNatClampNeg) _ e1 H.size) kRL_78 rfl rfl ⟨by decide, by decide⟩ rfl hl.1 rfl (Nat.le_of_ble_eq_true rfl) dL_law_636 ⟨by show cells ≤ 601024; omega, by show slots ≤ 7293034; omega⟩) (fun H locs hP hD hS => ?_)
  replace hP : va_P D vwCl ((zWC cI cJ cZ h1 gP gR gQ gT gE gM1 gS) ++ ([(oa, .inl (cJ, 1, .inr (.inl f)))] ++ (zWM cI cJ cZ h2 mG mH mR mW mS mK mD mN mO mB mM mF))) H := hP
  replace hD : va_D (Al s) ((zWC cI cJ cZ h1 gP gR gQ gT gE gM1 gS) ++ ([(oa, .inl (cJ, 1, .inr (.inl f)))] ++ (zWM cI cJ cZ h2 mG mH mR mW mS mK mD mN mO mB mM mF))) := hD
  refine lv_aload_n hx hb dL_law_639 rfl (lv_at hl 2 rfl) ?_
  refine lv_aload_n hx hb dL_law_640 rfl (lv_at hl 0 rfl) ?_
  refine lv_iload hx hb dL_law_641 (lv_at hl 4 rfl) ?_
  refine lv_iconst (v := 1) hx hb dL_law_643 (by decide) ?_
  refine lv_iadd hx hb dL_law_644 ?_
  refine va_sld hx hb hXs hbl hbA hS hv.1 dL_law_645 ?_
  refine lv_aload_n hx hb dL_law_646 rfl (lv_at hl 0 rfl) ?_
  refine lv_iload hx hb dL_law_647 (lv_at hl 4 rfl) ?_
  refine lv_iconst (v := 2) hx hb dL_law_649 (by decide) ?_
  refine lv_iadd hx hb dL_law_650 ?_
  refine va_sld hx hb hXs hbl hbA hS hv.2.1 dL_law_651 ?_
  refine lv_aload_n hx hb dL_law_652 rfl (lv_at hl 0 rfl) ?_
  refine lv_iload hx hb dL_law_653 (lv_at hl 4 rfl) ?_
  refine lv_iconst (v := 3) hx hb dL_law_655 (by decide) ?_
  refine lv_iadd hx hb dL_law_656 ?_
  refine va_sld hx hb hXs hbl hbA hS hv.2.2.1 dL_law_657 ?_
  refine lv_aload_n hx hb dL_law_658 rfl (lv_at hl 0 rfl) ?_
  refine lv_iload hx hb dL_law_659 (lv_at hl 4 rfl) ?_
  refine lv_iconst (v := 4) hx hb dL_law_661 (by decide) ?_
  refine lv_iadd hx hb dL_law_662 ?_
  refine va_sld hx hb hXs hbl hbA hS hv.2.2.2 dL_law_663 ?_
  refine zthen_2 (wb := [(oa, .inl (cJ, 1, .inr (.inl f)))]) (ws := (zWM cI cJ cZ h2 mG mH mR mW mS mK mD mN mO mB mM mF)) hA hP hD hS (zrunVc (As := [.int (xs (x4 + 1).toNatClampNeg), .int (xs (x4 + 2).toNatClampNeg), .int (xs (x4 + 3).toNatClampNeg), .int (xs (x4 + 4).toNatClampNeg)]) (rest := [.int r]) hC (zP_m hP) (zD_m hD) 0 rfl rfl (c_X8_ray l D cI cJ cZ h2 N mG mH mR mW mS mK mD mN mO mB mM mF (xs (x4 + 1).toNatClampNeg) (xs (x4 + 2).toNatClampNeg) (xs (x4 + 3).toNatClampNeg) (xs (x4 + 4).toNatClampNeg) _ e2 H.size) kRL_81 rfl rfl ⟨by decide, by decide⟩ rfl hl.1 rfl (Nat.le_of_ble_eq_true rfl) dL_law_664 ⟨by show cells ≤ 601024; omega, by show slots ≤ 7293034; omega⟩) (fun H locs hP hD hS => ?_)
  replace hP : va_P D vwCl ((zWC cI cJ cZ h1 gP gR gQ gT gE gM1 gS) ++ ([(oa, .inl (cJ, 1, .inr (.inl f)))] ++ (zWM cI cJ cZ h2 mG (tmH.s_thrown mH 0) mR mW mS mK mD mN mO mB mM1 mF))) H := hP
  replace hD : va_D (Al s) ((zWC cI cJ cZ h1 gP gR gQ gT gE gM1 gS) ++ ([(oa, .inl (cJ, 1, .inr (.inl f)))] ++ (zWM cI cJ cZ h2 mG (tmH.s_thrown mH 0) mR mW mS mK mD mN mO mB mM1 mF))) := hD
  refine lv_icmp_eq (tgt := 735) hx hb dL_law_667 (by decide) (fun c9 => ?_) (fun c9 => absurd rfl c9)
  exact W.widen (k := cells + 1) (n := slots + 6) (by omega) (by omega) (kk gP gR gQ gT gE gM1 gS mG (tmH.s_thrown mH 0) mR mW mS mK mD mN mO mB mM1 mF f H locs ls hI hP hD hS hl)
theorem kRL_82 : zcw RL 82 RX7 yX7_met cX7_met 3 (some .int) 2 := ⟨tb_24_21, tb_24_22, tb_24_23, tb_1_2, tb_25_0, by decide +kernel⟩
theorem kRL_85 : zcw RL 85 RX8 yX8_met cX8_met 3 (some .int) 2 := ⟨tb_25_4, tb_25_5, tb_25_6, tb_1_5, tb_25_7, by decide +kernel⟩
set_option maxRecDepth 100000 in
set_option maxHeartbeats 4000000 in
theorem law_met {p : Program} {l : Launch} {e : Env} {s : State} {m : MethodId} {below : List Frame} {meth : Method} {c : Code} {b L : Nat} {xs : Nat → Int32} {D : va_G} {cI cJ cZ : ClassId} {h1 h2 : Nat → Nat} {oa : Nat} {x4 : Int32} {cells slots : Nat} (hX : zLx p l s m meth c b L xs D cI cJ cZ) {N : Nat} (hN : 4 ^ 30 < N) (hv : vp_in (x4 + 1) L ∧ vp_in (x4 + 2) L ∧ vp_in (x4 + 3) L ∧ vp_in (x4 + 4) L) (hc : cells + 1 ≤ 601024) (hs : slots + 6 ≤ 7293034) (kk : zGo p l e s m below meth c b D cI cJ cZ h1 h2 oa x4 (cells + 1) (slots + 6) 735) : zGo p l e s m below meth c b D cI cJ cZ h1 h2 oa x4 cells slots 672 := by
  intro gP gR gQ gT gE gM gS mG mH mR mW mS mK mD mN mO mB mM mF f H locs ls hI hP hD hS hl
  obtain ⟨hlt, hC, htx, hT, hH, hXs, hbl⟩ := id hX
  obtain ⟨hx, hb, hml, hown, hts, hK, hr, hlocks, hA⟩ := id hC
  have hbA : ¬ Al s b := Nat.not_le.mpr hbl
  have hN1 : 1000 < N := Nat.lt_trans (by decide) hN
  obtain ⟨r, e1, e2⟩ := op_met (mH := mH) hI.2.2.2.choose_spec (xs (x4 + 1).toNatClampNeg) (xs (x4 + 2).toNatClampNeg)
  refine lv_aload_n hx hb dL_law_672 rfl (lv_at hl 1 rfl) ?_
  refine lv_aload_n hx hb dL_law_673 rfl (lv_at hl 0 rfl) ?_
  refine lv_iload hx hb dL_law_674 (lv_at hl 4 rfl) ?_
  refine lv_iconst (v := 1) hx hb dL_law_676 (by decide) ?_
  refine lv_iadd hx hb dL_law_677 ?_
  refine va_sld hx hb hXs hbl hbA hS hv.1 dL_law_678 ?_
  refine lv_aload_n hx hb dL_law_679 rfl (lv_at hl 0 rfl) ?_
  refine lv_iload hx hb dL_law_680 (lv_at hl 4 rfl) ?_
  refine lv_iconst (v := 2) hx hb dL_law_682 (by decide) ?_
  refine lv_iadd hx hb dL_law_683 ?_
  refine va_sld hx hb hXs hbl hbA hS hv.2.1 dL_law_684 ?_
  refine zthen_1 hA hP hD hS (zrunVc (As := [.int (xs (x4 + 1).toNatClampNeg), .int (xs (x4 + 2).toNatClampNeg)]) (rest := []) hC (zP_l hP) (zD_l hD) 0 rfl rfl (c_X7_met l D cI cJ cZ h1 gP gR gQ gT gE gM gS (xs (x4 + 1).toNatClampNeg) (xs (x4 + 2).toNatClampNeg) _ e1 H.size) kRL_82 rfl rfl ⟨by decide, by decide⟩ rfl hl.1 rfl (Nat.le_of_ble_eq_true rfl) dL_law_685 ⟨by show cells ≤ 601024; omega, by show slots ≤ 7293034; omega⟩) (fun H locs hP hD hS => ?_)
  replace hP : va_P D vwCl ((zWC cI cJ cZ h1 gP gR gQ gT gE gM gS) ++ ([(oa, .inl (cJ, 1, .inr (.inl f)))] ++ (zWM cI cJ cZ h2 mG mH mR mW mS mK mD mN mO mB mM mF))) H := hP
  replace hD : va_D (Al s) ((zWC cI cJ cZ h1 gP gR gQ gT gE gM gS) ++ ([(oa, .inl (cJ, 1, .inr (.inl f)))] ++ (zWM cI cJ cZ h2 mG mH mR mW mS mK mD mN mO mB mM mF))) := hD
  refine lv_aload_n hx hb dL_law_688 rfl (lv_at hl 2 rfl) ?_
  refine lv_aload_n hx hb dL_law_689 rfl (lv_at hl 0 rfl) ?_
  refine lv_iload hx hb dL_law_690 (lv_at hl 4 rfl) ?_
  refine lv_iconst (v := 1) hx hb dL_law_692 (by decide) ?_
  refine lv_iadd hx hb dL_law_693 ?_
  refine va_sld hx hb hXs hbl hbA hS hv.1 dL_law_694 ?_
  refine lv_aload_n hx hb dL_law_695 rfl (lv_at hl 0 rfl) ?_
  refine lv_iload hx hb dL_law_696 (lv_at hl 4 rfl) ?_
  refine lv_iconst (v := 2) hx hb dL_law_698 (by decide) ?_
  refine lv_iadd hx hb dL_law_699 ?_
  refine va_sld hx hb hXs hbl hbA hS hv.2.1 dL_law_700 ?_
  refine zthen_2 (wb := [(oa, .inl (cJ, 1, .inr (.inl f)))]) (ws := (zWM cI cJ cZ h2 mG mH mR mW mS mK mD mN mO mB mM mF)) hA hP hD hS (zrunVc (As := [.int (xs (x4 + 1).toNatClampNeg), .int (xs (x4 + 2).toNatClampNeg)]) (rest := [.int r]) hC (zP_m hP) (zD_m hD) 0 rfl rfl (c_X8_met l D cI cJ cZ h2 mG mH mR mW mS mK mD mN mO mB mM mF (xs (x4 + 1).toNatClampNeg) (xs (x4 + 2).toNatClampNeg) _ e2 H.size) kRL_85 rfl rfl ⟨by decide, by decide⟩ rfl hl.1 rfl (Nat.le_of_ble_eq_true rfl) dL_law_701 ⟨by show cells ≤ 601024; omega, by show slots ≤ 7293034; omega⟩) (fun H locs hP hD hS => ?_)
  replace hP : va_P D vwCl ((zWC cI cJ cZ h1 gP gR gQ gT gE gM gS) ++ ([(oa, .inl (cJ, 1, .inr (.inl f)))] ++ (zWM cI cJ cZ h2 mG (tmH.s_thrown mH 0) mR mW mS mK mD mN mO mB mM mF))) H := hP
  replace hD : va_D (Al s) ((zWC cI cJ cZ h1 gP gR gQ gT gE gM gS) ++ ([(oa, .inl (cJ, 1, .inr (.inl f)))] ++ (zWM cI cJ cZ h2 mG (tmH.s_thrown mH 0) mR mW mS mK mD mN mO mB mM mF))) := hD
  refine lv_icmp_eq (tgt := 735) hx hb dL_law_704 (by decide) (fun c9 => ?_) (fun c9 => absurd rfl c9)
  exact W.widen (k := cells + 1) (n := slots + 6) (by omega) (by omega) (kk gP gR gQ gT gE gM gS mG (tmH.s_thrown mH 0) mR mW mS mK mD mN mO mB mM mF f H locs ls hI hP hD hS hl)
theorem kRL_86 : zcw RL 86 RX7 yX7_least cX7_least 1 (some .int) 0 := ⟨tb_25_8, tb_25_9, tb_25_10, tb_1_2, tb_25_11, by decide +kernel⟩
theorem kRL_89 : zcw RL 89 RX8 yX8_least cX8_least 8 (some .int) 0 := ⟨tb_26_7, tb_26_8, tb_26_9, tb_1_5, tb_26_10, by decide +kernel⟩
set_option maxRecDepth 100000 in
set_option maxHeartbeats 4000000 in
theorem law_least {p : Program} {l : Launch} {e : Env} {s : State} {m : MethodId} {below : List Frame} {meth : Method} {c : Code} {b L : Nat} {xs : Nat → Int32} {D : va_G} {cI cJ cZ : ClassId} {h1 h2 : Nat → Nat} {oa : Nat} {x4 : Int32} {cells slots : Nat} (hX : zLx p l s m meth c b L xs D cI cJ cZ) {N : Nat} (hN : 4 ^ 30 < N) (hv : vp_in (x4 + 1) L ∧ vp_in (x4 + 2) L ∧ vp_in (x4 + 3) L ∧ vp_in (x4 + 4) L) (hc : cells + 1 ≤ 601024) (hs : slots + 6 ≤ 7293034) (kk : zGo p l e s m below meth c b D cI cJ cZ h1 h2 oa x4 (cells + 1) (slots + 6) 735) : zGo p l e s m below meth c b D cI cJ cZ h1 h2 oa x4 cells slots 709 := by
  intro gP gR gQ gT gE gM gS mG mH mR mW mS mK mD mN mO mB mM mF f H locs ls hI hP hD hS hl
  obtain ⟨hlt, hC, htx, hT, hH, hXs, hbl⟩ := id hX
  obtain ⟨hx, hb, hml, hown, hts, hK, hr, hlocks, hA⟩ := id hC
  have hbA : ¬ Al s b := Nat.not_le.mpr hbl
  have hN1 : 1000 < N := Nat.lt_trans (by decide) hN
  obtain ⟨r, gR1, mF1, e1, e2⟩ := op_least (gR := gR) (mH := mH) (mF := mF) hN1 hI 
  refine lv_aload_n hx hb dL_law_709 rfl (lv_at hl 1 rfl) ?_
  refine zthen_1 hA hP hD hS (zrunVc (As := []) (rest := []) hC (zP_l hP) (zD_l hD) 0 rfl rfl (c_X7_least l D cI cJ cZ h1 N gP gR gQ gT gE gM gS  _ e1 H.size) kRL_86 rfl rfl ⟨by decide, by decide⟩ rfl hl.1 rfl (Nat.le_of_ble_eq_true rfl) dL_law_710 ⟨by show cells ≤ 601024; omega, by show slots ≤ 7293034; omega⟩) (fun H locs hP hD hS => ?_)
  replace hP : va_P D vwCl ((zWC cI cJ cZ h1 gP gR1 gQ gT gE gM gS) ++ ([(oa, .inl (cJ, 1, .inr (.inl f)))] ++ (zWM cI cJ cZ h2 mG mH mR mW mS mK mD mN mO mB mM mF))) H := hP
  replace hD : va_D (Al s) ((zWC cI cJ cZ h1 gP gR1 gQ gT gE gM gS) ++ ([(oa, .inl (cJ, 1, .inr (.inl f)))] ++ (zWM cI cJ cZ h2 mG mH mR mW mS mK mD mN mO mB mM mF))) := hD
  refine lv_aload_n hx hb dL_law_713 rfl (lv_at hl 2 rfl) ?_
  refine zthen_2 (wb := [(oa, .inl (cJ, 1, .inr (.inl f)))]) (ws := (zWM cI cJ cZ h2 mG mH mR mW mS mK mD mN mO mB mM mF)) hA hP hD hS (zrunVc (As := []) (rest := [.int r]) hC (zP_m hP) (zD_m hD) 0 rfl rfl (c_X8_least l D cI cJ cZ h2 N mG mH mR mW mS mK mD mN mO mB mM mF  _ e2 H.size) kRL_89 rfl rfl ⟨by decide, by decide⟩ rfl hl.1 rfl (Nat.le_of_ble_eq_true rfl) dL_law_714 ⟨by show cells ≤ 601024; omega, by show slots ≤ 7293034; omega⟩) (fun H locs hP hD hS => ?_)
  replace hP : va_P D vwCl ((zWC cI cJ cZ h1 gP gR1 gQ gT gE gM gS) ++ ([(oa, .inl (cJ, 1, .inr (.inl f)))] ++ (zWM cI cJ cZ h2 mG (tmH.s_thrown mH 0) mR mW mS mK mD mN mO mB mM mF1))) H := hP
  replace hD : va_D (Al s) ((zWC cI cJ cZ h1 gP gR1 gQ gT gE gM gS) ++ ([(oa, .inl (cJ, 1, .inr (.inl f)))] ++ (zWM cI cJ cZ h2 mG (tmH.s_thrown mH 0) mR mW mS mK mD mN mO mB mM mF1))) := hD
  refine lv_icmp_eq (tgt := 735) hx hb dL_law_717 (by decide) (fun c9 => ?_) (fun c9 => absurd rfl c9)
  exact W.widen (k := cells + 1) (n := slots + 6) (by omega) (by omega) (kk gP gR1 gQ gT gE gM gS mG (tmH.s_thrown mH 0) mR mW mS mK mD mN mO mB mM mF1 f H locs ls hI hP hD hS hl)
theorem kRL_90 : zcw RL 90 RX7 yX7_sum cX7_sum 1 (some .int) 0 := ⟨tb_26_22, tb_26_23, tb_27_0, tb_1_2, tb_27_1, by decide +kernel⟩
theorem kRL_93 : zcw RL 93 RX8 yX8_sum cX8_sum 6 (some .int) 0 := ⟨tb_27_12, tb_27_13, tb_27_14, tb_1_5, tb_27_15, by decide +kernel⟩
set_option maxRecDepth 100000 in
set_option maxHeartbeats 4000000 in
theorem law_sum {p : Program} {l : Launch} {e : Env} {s : State} {m : MethodId} {below : List Frame} {meth : Method} {c : Code} {b L : Nat} {xs : Nat → Int32} {D : va_G} {cI cJ cZ : ClassId} {h1 h2 : Nat → Nat} {oa : Nat} {x4 : Int32} {cells slots : Nat} (hX : zLx p l s m meth c b L xs D cI cJ cZ) {N : Nat} (hN : 4 ^ 30 < N) (hv : vp_in (x4 + 1) L ∧ vp_in (x4 + 2) L ∧ vp_in (x4 + 3) L ∧ vp_in (x4 + 4) L) (hc : cells + 1 ≤ 601024) (hs : slots + 6 ≤ 7293034) (kk : zGo p l e s m below meth c b D cI cJ cZ h1 h2 oa x4 (cells + 1) (slots + 6) 735) : zGo p l e s m below meth c b D cI cJ cZ h1 h2 oa x4 cells slots 722 := by
  intro gP gR gQ gT gE gM gS mG mH mR mW mS mK mD mN mO mB mM mF f H locs ls hI hP hD hS hl
  obtain ⟨hlt, hC, htx, hT, hH, hXs, hbl⟩ := id hX
  obtain ⟨hx, hb, hml, hown, hts, hK, hr, hlocks, hA⟩ := id hC
  have hbA : ¬ Al s b := Nat.not_le.mpr hbl
  have hN1 : 1000 < N := Nat.lt_trans (by decide) hN
  obtain ⟨r, gR1, gS1, mR1, mW1, mS1, mD1, mN1, mO1, e1, e2⟩ := op_sum (gR := gR) (gS := gS) (mH := mH) (mR := mR) (mW := mW) (mS := mS) (mD := mD) (mN := mN) (mO := mO) hN1 hI 
  refine lv_aload_n hx hb dL_law_722 rfl (lv_at hl 1 rfl) ?_
  refine zthen_1 hA hP hD hS (zrunVc (As := []) (rest := []) hC (zP_l hP) (zD_l hD) 0 rfl rfl (c_X7_sum l D cI cJ cZ h1 N gP gR gQ gT gE gM gS  _ e1 H.size) kRL_90 rfl rfl ⟨by decide, by decide⟩ rfl hl.1 rfl (Nat.le_of_ble_eq_true rfl) dL_law_723 ⟨by show cells ≤ 601024; omega, by show slots ≤ 7293034; omega⟩) (fun H locs hP hD hS => ?_)
  replace hP : va_P D vwCl ((zWC cI cJ cZ h1 gP gR1 gQ gT gE gM gS1) ++ ([(oa, .inl (cJ, 1, .inr (.inl f)))] ++ (zWM cI cJ cZ h2 mG mH mR mW mS mK mD mN mO mB mM mF))) H := hP
  replace hD : va_D (Al s) ((zWC cI cJ cZ h1 gP gR1 gQ gT gE gM gS1) ++ ([(oa, .inl (cJ, 1, .inr (.inl f)))] ++ (zWM cI cJ cZ h2 mG mH mR mW mS mK mD mN mO mB mM mF))) := hD
  refine lv_aload_n hx hb dL_law_726 rfl (lv_at hl 2 rfl) ?_
  refine zthen_2 (wb := [(oa, .inl (cJ, 1, .inr (.inl f)))]) (ws := (zWM cI cJ cZ h2 mG mH mR mW mS mK mD mN mO mB mM mF)) hA hP hD hS (zrunVc (As := []) (rest := [.int r]) hC (zP_m hP) (zD_m hD) 0 rfl rfl (c_X8_sum l D cI cJ cZ h2 N mG mH mR mW mS mK mD mN mO mB mM mF  _ e2 H.size) kRL_93 rfl rfl ⟨by decide, by decide⟩ rfl hl.1 rfl (Nat.le_of_ble_eq_true rfl) dL_law_727 ⟨by show cells ≤ 601024; omega, by show slots ≤ 7293034; omega⟩) (fun H locs hP hD hS => ?_)
  replace hP : va_P D vwCl ((zWC cI cJ cZ h1 gP gR1 gQ gT gE gM gS1) ++ ([(oa, .inl (cJ, 1, .inr (.inl f)))] ++ (zWM cI cJ cZ h2 mG (tmH.s_thrown mH 0) mR1 mW1 mS1 mK mD1 mN1 mO1 mB mM mF))) H := hP
  replace hD : va_D (Al s) ((zWC cI cJ cZ h1 gP gR1 gQ gT gE gM gS1) ++ ([(oa, .inl (cJ, 1, .inr (.inl f)))] ++ (zWM cI cJ cZ h2 mG (tmH.s_thrown mH 0) mR1 mW1 mS1 mK mD1 mN1 mO1 mB mM mF))) := hD
  refine lv_icmp_eq (tgt := 735) hx hb dL_law_730 (by decide) (fun c9 => ?_) (fun c9 => absurd rfl c9)
  exact W.widen (k := cells + 1) (n := slots + 6) (by omega) (by omega) (kk gP gR1 gQ gT gE gM gS1 mG (tmH.s_thrown mH 0) mR1 mW1 mS1 mK mD1 mN1 mO1 mB mM mF f H locs ls hI hP hD hS hl)
