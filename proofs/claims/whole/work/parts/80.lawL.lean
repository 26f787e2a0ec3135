theorem nI_plus (j k : Nat) : nI j + (OfNat.ofNat k : Int32) = nI (j + k) := nI_add j k
theorem law_room {L j : Nat} (hL : L ≤ 2560) (hj : j ≤ L) (h : ¬ Int32.ofNat L - 5 < nI j) : j + 5 ≤ L := by
  rw [show Int32.ofNat L = iI (L : Int) from (iI_nat L).symm, show (5 : Int32) = iI 5 from rfl, iI_sub, ← iI_nat, iI_lt ⟨by omega, by omega⟩ ⟨by omega, by omega⟩] at h
  omega
set_option maxRecDepth 100000 in
set_option maxHeartbeats 4000000 in
theorem law_loop {p : Program} {l : Launch} {e : Env} {s : State} {m : MethodId} {below : List Frame} {meth : Method} {c : Code} {b L : Nat} {xs : Nat → Int32} {D : va_G} {cI cJ cZ : ClassId} {h1 h2 : Nat → Nat} {oa : Nat} (hL : L ≤ 2560) (hX : zLx p l s m meth c b L xs D cI cJ cZ) {N : Nat} (hN : 4 ^ 30 < N) : ∀ (n j cells slots : Nat), j ≤ L → L < j + 5 * n → cells + n ≤ 601024 → slots + 6 * n ≤ 7293034 → zGo p l e s m below meth c b D cI cJ cZ h1 h2 oa (nI j) cells slots 23
  | 0, j, cells, slots, hj, hn, hcc, hss => absurd hn (by omega)
  | n + 1, j, cells, slots, hj, hn, hcc, hss => by
    have ih := law_loop (e := e) (below := below) (h1 := h1) (h2 := h2) (oa := oa) hL hX hN n (j + 5) (cells + 1) (slots + 6)
    obtain ⟨hlt, hC, htx, hT, hH, hXs, hbl⟩ := id hX
    obtain ⟨hx, hb, hml, hown, hts, hK, hr, hlocks, hA⟩ := id hC
    have hbA : ¬ Al s b := Nat.not_le.mpr hbl
    intro gP gR gQ gT gE gM gS mG mH mR mW mS mK mD mN mO mB mM mF f H locs ls hI hP hD hS hl
    refine lv_iload hx hb dL_law_23 (lv_at hl 4 rfl) ?_
    refine lv_aload_n hx hb dL_law_25 rfl (lv_at hl 0 rfl) ?_
    refine va_slen hx hb hXs hbl hbA hS dL_law_26 ?_
    refine lv_iconst (v := 5) hx hb dL_law_27 (by decide) ?_
    refine lv_isub hx hb dL_law_28 ?_
    refine lv_icmp_gt (tgt := 741) hx hb dL_law_29 (by decide) (fun c1 => ?_) (fun c1 => ?_)
    · refine lv_iconst (v := 1) hx hb dL_law_741 (by decide) ?_
      refine va_forget (fun q hq => hS.2.2 q hq) ?_
      refine W.widen (k := 601024) (n := 7293034) (by omega) (by omega) ?_
      exact lw_ret hx hb hr hlocks dL_law_742
    · have hlt5 := law_room hL hj c1
      have hv0 : vp_in (nI j) L := nI_in (by omega) (by omega)
      have hv : vp_in (nI j + 1) L ∧ vp_in (nI j + 2) L ∧ vp_in (nI j + 3) L ∧ vp_in (nI j + 4) L := by
        rw [nI_plus j 1, nI_plus j 2, nI_plus j 3, nI_plus j 4]
        exact ⟨nI_in (by omega) (by omega), nI_in (by omega) (by omega), nI_in (by omega) (by omega), nI_in (by omega) (by omega)⟩
      have kk : zGo p l e s m below meth c b D cI cJ cZ h1 h2 oa (nI j) (cells + 1) (slots + 6) 735 := by
        intro gP gR gQ gT gE gM gS mG mH mR mW mS mK mD mN mO mB mM mF f H locs ls hI hP hD hS hl
        refine lv_iinc (v := nI (j + 5)) (lv' := [(4, .int (nI (j + 5))), (0, .ref b), (1, .ref (h1 0)), (2, .ref (h2 0)), (3, .ref oa)]) hx hb dL_law_735 hl (k := 4) rfl (nI_plus j 5) (by decide) rfl (fun ls hl => ?_)
        refine lv_goto (tgt := 23) hx hb dL_law_738 (by decide) ?_
        exact ih (by omega) (by omega) (by omega) (by omega) gP gR gQ gT gE gM gS mG mH mR mW mS mK mD mN mO mB mM mF f H locs ls hI hP hD hS (lv_sub hl [1, 2, 3, 4, 0] rfl)
      refine lv_aload_n hx hb dL_law_32 rfl (lv_at hl 0 rfl) ?_
      refine lv_iload hx hb dL_law_33 (lv_at hl 4 rfl) ?_
      refine va_sld hx hb hXs hbl hbA hS hv0 dL_law_35 ?_
      refine lv_bipush (v := 15) hx hb dL_law_36 (by decide) ?_
      refine lv_iand hx hb dL_law_38 ?_
      refine lv_topi (fun v ev => ?_)
      by_cases c10 : v = (0 : Int32)
      · refine lv_tableIn (tgt := 112) hx hb dL_law_39 (by rw [c10]; decide) (by rw [c10]; decide) (by rw [c10]; rfl) (by decide) ?_
        exact law_piece hX hN hv (by omega) (by omega) kk gP gR gQ gT gE gM gS mG mH mR mW mS mK mD mN mO mB mM mF f H locs ls hI hP hD hS hl
      by_cases c11 : v = (1 : Int32)
      · refine lv_tableIn (tgt := 173) hx hb dL_law_39 (by rw [c11]; decide) (by rw [c11]; decide) (by rw [c11]; rfl) (by decide) ?_
        exact law_drop hX hN hv (by omega) (by omega) kk gP gR gQ gT gE gM gS mG mH mR mW mS mK mD mN mO mB mM mF f H locs ls hI hP hD hS hl
      by_cases c12 : v = (2 : Int32)
      · refine lv_tableIn (tgt := 186) hx hb dL_law_39 (by rw [c12]; decide) (by rw [c12]; decide) (by rw [c12]; rfl) (by decide) ?_
        exact law_look hX hN hv (by omega) (by omega) kk gP gR gQ gT gE gM gS mG mH mR mW mS mK mD mN mO mB mM mF f H locs ls hI hP hD hS hl
      by_cases c13 : v = (3 : Int32)
      · refine lv_tableIn (tgt := 254) hx hb dL_law_39 (by rw [c13]; decide) (by rw [c13]; decide) (by rw [c13]; rfl) (by decide) ?_
        exact law_build hX hN hv (by omega) (by omega) kk gP gR gQ gT gE gM gS mG mH mR mW mS mK mD mN mO mB mM mF f H locs ls hI hP hD hS hl
      by_cases c14 : v = (4 : Int32)
      · refine lv_tableIn (tgt := 291) hx hb dL_law_39 (by rw [c14]; decide) (by rw [c14]; decide) (by rw [c14]; rfl) (by decide) ?_
        exact law_count hX hN hv (by omega) (by omega) kk gP gR gQ gT gE gM gS mG mH mR mW mS mK mD mN mO mB mM mF f H locs ls hI hP hD hS hl
      by_cases c15 : v = (5 : Int32)
      · refine lv_tableIn (tgt := 316) hx hb dL_law_39 (by rw [c15]; decide) (by rw [c15]; decide) (by rw [c15]; rfl) (by decide) ?_
        exact law_knot hX hN hv (by omega) (by omega) kk gP gR gQ gT gE gM gS mG mH mR mW mS mK mD mN mO mB mM mF f H locs ls hI hP hD hS hl
      by_cases c16 : v = (6 : Int32)
      · refine lv_tableIn (tgt := 384) hx hb dL_law_39 (by rw [c16]; decide) (by rw [c16]; decide) (by rw [c16]; rfl) (by decide) ?_
        exact law_part hX hN hv (by omega) (by omega) kk gP gR gQ gT gE gM gS mG mH mR mW mS mK mD mN mO mB mM mF f H locs ls hI hP hD hS hl
      by_cases c17 : v = (7 : Int32)
      · refine lv_tableIn (tgt := 451) hx hb dL_law_39 (by rw [c17]; decide) (by rw [c17]; decide) (by rw [c17]; rfl) (by decide) ?_
        exact law_where hX hN hv (by omega) (by omega) kk gP gR gQ gT gE gM gS mG mH mR mW mS mK mD mN mO mB mM mF f H locs ls hI hP hD hS hl
      by_cases c18 : v = (8 : Int32)
      · refine lv_tableIn (tgt := 488) hx hb dL_law_39 (by rw [c18]; decide) (by rw [c18]; decide) (by rw [c18]; rfl) (by decide) ?_
        exact law_order hX hN hv (by omega) (by omega) kk gP gR gQ gT gE gM gS mG mH mR mW mS mK mD mN mO mB mM mF f H locs ls hI hP hD hS hl
      by_cases c19 : v = (9 : Int32)
      · refine lv_tableIn (tgt := 525) hx hb dL_law_39 (by rw [c19]; decide) (by rw [c19]; decide) (by rw [c19]; rfl) (by decide) ?_
        exact law_told hX hN hv (by omega) (by omega) kk gP gR gQ gT gE gM gS mG mH mR mW mS mK mD mN mO mB mM mF f H locs ls hI hP hD hS hl
      by_cases c20 : v = (10 : Int32)
      · refine lv_tableIn (tgt := 550) hx hb dL_law_39 (by rw [c20]; decide) (by rw [c20]; decide) (by rw [c20]; rfl) (by decide) ?_
        exact law_sees hX hN hv (by omega) (by omega) kk gP gR gQ gT gE gM gS mG mH mR mW mS mK mD mN mO mB mM mF f H locs ls hI hP hD hS hl
      by_cases c21 : v = (11 : Int32)
      · refine lv_tableIn (tgt := 611) hx hb dL_law_39 (by rw [c21]; decide) (by rw [c21]; decide) (by rw [c21]; rfl) (by decide) ?_
        exact law_ray hX hN hv (by omega) (by omega) kk gP gR gQ gT gE gM gS mG mH mR mW mS mK mD mN mO mB mM mF f H locs ls hI hP hD hS hl
      by_cases c22 : v = (12 : Int32)
      · refine lv_tableIn (tgt := 672) hx hb dL_law_39 (by rw [c22]; decide) (by rw [c22]; decide) (by rw [c22]; rfl) (by decide) ?_
        exact law_met hX hN hv (by omega) (by omega) kk gP gR gQ gT gE gM gS mG mH mR mW mS mK mD mN mO mB mM mF f H locs ls hI hP hD hS hl
      by_cases c23 : v = (13 : Int32)
      · refine lv_tableIn (tgt := 709) hx hb dL_law_39 (by rw [c23]; decide) (by rw [c23]; decide) (by rw [c23]; rfl) (by decide) ?_
        exact law_least hX hN hv (by omega) (by omega) kk gP gR gQ gT gE gM gS mG mH mR mW mS mK mD mN mO mB mM mF f H locs ls hI hP hD hS hl
      by_cases c24 : v = (14 : Int32)
      · refine lv_tableIn (tgt := 722) hx hb dL_law_39 (by rw [c24]; decide) (by rw [c24]; decide) (by rw [c24]; rfl) (by decide) ?_
        exact law_sum hX hN hv (by omega) (by omega) kk gP gR gQ gT gE gM gS mG mH mR mW mS mK mD mN mO mB mM mF f H locs ls hI hP hD hS hl
      refine lv_tableOut (tgt := 735) hx hb dL_law_39 (by have := zsw c10; rw [show ((0 : Int32)).toInt = 0 from rfl] at this; have := zsw c11; rw [show ((1 : Int32)).toInt = 1 from rfl] at this; have := zsw c12; rw [show ((2 : Int32)).toInt = 2 from rfl] at this; have := zsw c13; rw [show ((3 : Int32)).toInt = 3 from rfl] at this; have := zsw c14; rw [show ((4 : Int32)).toInt = 4 from rfl] at this; have := zsw c15; rw [show ((5 : Int32)).toInt = 5 from rfl] at this; have := zsw c16; rw [show ((6 : Int32)).toInt = 6 from rfl] at this; have := zsw c17; rw [show ((7 : Int32)).toInt = 7 from rfl] at this; have := zsw c18; rw [show ((8 : Int32)).toInt = 8 from rfl] at this; have := zsw c19; rw [show ((9 : Int32)).toInt = 9 from rfl] at this; have := zsw c20; rw [show ((10 : Int32)).toInt = 10 from rfl] at this; have := zsw c21; rw [show ((11 : Int32)).toInt = 11 from rfl] at this; have := zsw c22; rw [show ((12 : Int32)).toInt = 12 from rfl] at this; have := zsw c23; rw [show ((13 : Int32)).toInt = 13 from rfl] at this; have := zsw c24; rw [show ((14 : Int32)).toInt = 14 from rfl] at this; omega) (by decide) ?_
      exact W.widen (k := cells + 1) (n := slots + 6) (by omega) (by omega) (kk gP gR gQ gT gE gM gS mG mH mR mW mS mK mD mN mO mB mM mF f H locs ls hI hP hD hS hl)
