/-! What holds at the law's entry -/
theorem zD_is {A : Nat → Prop} {wa wb wc : va_W} (h : va_D A (wa ++ (wb ++ wc))) : va_D A (wa ++ (wc ++ wb)) := zD_mk (zD_l h) (zD_sw (zD_r h)) (fun i j p q hi hj => by
  have hm : q ∈ wb ++ wc := by
    rcases List.mem_append.mp (List.mem_of_getElem? hj) with h9 | h9
    · exact List.mem_append_right _ h9
    · exact List.mem_append_left _ h9
  obtain ⟨j', hj'⟩ := List.getElem?_of_mem hm
  exact zD_x h hi hj')
theorem zP_is {D : va_G} {cl : List vw_C} {wa wb wc : va_W} {H : Heap} (h : va_P D cl (wa ++ (wb ++ wc)) H) : va_P D cl (wa ++ (wc ++ wb)) H := (zP_l h).app (zP_sw (zP_r h))
theorem zI_0 : zI iP0 iA0 iT0 iE0 iM0 jG0 jK0 jB0 jM0 := by
  refine ⟨⟨((fun _ => 0), (fun _ => 0), (fun _ => 0), (fun _ => 0)), 0, fun i => (by show (-1000 ≤ (0 : Int) ∧ (0 : Int) ≤ 1000) ∧ (-1000 ≤ (0 : Int) ∧ (0 : Int) ≤ 1000) ∧ (-1000 ≤ (0 : Int) + 0 ∧ (0 : Int) + 0 ≤ 1000) ∧ (-1000 ≤ (0 : Int) + 0 ∧ (0 : Int) + 0 ≤ 1000); omega), fun i => ⟨rfl, rfl, rfl, rfl⟩, fun i => ⟨rfl, rfl, rfl, rfl⟩, by omega, rfl, rfl, fun i hi => by omega⟩, ⟨false, [], [], 0, 0, tre_none iA0 iT0 jK0⟩, ⟨[], tld_none iE0 jB0⟩, ⟨[], rfl, rfl, by simp, fun i x h => nil_get h⟩⟩
theorem zarr {args : Array Value} {s : State} {ty : FieldType} (h : (Cond.arrayClass ty).before args s = true) (hq : ∀ (U : State) (k : ClassId), U.vm.findClass ("[" ++ ty.toString) = some k → va_RA U k ty) : ∃ cT : ClassId, ArrOfT s cT ty ∧ va_RA s cT ty := by
  obtain ⟨cA, kA, comp, h1, h2, h3⟩ := Cond.arrayClass_spec h
  exact ⟨cA, fun n z => ⟨fun k h => (by cases h), kA, h2, comp, h3⟩, hq _ _ h1⟩
theorem zstr {args : Array Value} {s : State} {k : Nat} {tx : String} (h1 : (Cond.stringRef RX7 k tx).before args s = true) (h2 : (Cond.exactly (.string RX7 k) "java/lang/String").before args s = true) : ∃ sa, vk_R RX7 k tx sa s := by
  obtain ⟨a, c, cA, kA, q1, -⟩ := Cond.exactly_spec (args := args) (first := s) (o := none) (s := s) (idx := []) (t := .string RX7 k) (cls := "java/lang/String") h2
  exact ⟨a, vk_R.of h1 q1⟩
set_option maxRecDepth 100000 in
set_option maxHeartbeats 4000000 in
theorem law_know {p : Program} {l : Launch} (hlt : l.stackTraces = false) {s : State} {m : MethodId} {meth : Method} {c : Code} {b L : Nat} {xs : Nat → Int32} (C0 : lw_At p s m meth c b L xs) : ∃ (D : va_G) (cI cJ cZ : ClassId), zLx p l s m meth c b L xs D cI cJ cZ := by
  obtain ⟨hx, hb, hr, hml, hown, hts, hX, hbl, hlocks, hgv⟩ := id C0
  have htx : ∀ w ∈ tb_X, w.before #[Value.ref b] s = true := fun w h => hts w (tb_X_in w h)
  have htb : ∀ w ∈ tb_L, w.before #[Value.ref b] s = true := fun w h => htx w (tb_X0 h)
  have hfl := flat_of_before _ hgv
  obtain ⟨c0, iS0, hKn0⟩ := u_known (C := RX0) (T := TX0) (N := 2) (n := 2) htb tb_wsX00 (htb _ tb_1_18)
  obtain ⟨c1, iS1, hKn1⟩ := u_known (C := RX1) (T := TX1) (N := 5) (n := 5) htb tb_wsX10 (htb _ tb_2_5)
  obtain ⟨c2, iS2, hKn2⟩ := u_known (C := RX2) (T := TX2) (N := 6) (n := 6) htb tb_wsX20 (htb _ tb_3_1)
  obtain ⟨c3, iS3, hKn3⟩ := u_known (C := RX3) (T := TX3) (N := 5) (n := 5) htb tb_wsX30 (htb _ tb_1_14)
  obtain ⟨c4, iS4, hKn4⟩ := u_known (C := RX4) (T := TX4) (N := 3) (n := 3) htb tb_wsX40 (htb _ tb_2_9)
  obtain ⟨c5, iS5, hKn5⟩ := u_known (C := RX5) (T := TX5) (N := 4) (n := 4) htb tb_wsX50 (htb _ tb_2_1)
  obtain ⟨c6, iS6, hKn6⟩ := u_known (C := RX6) (T := TX6) (N := 17) (n := 17) htb tb_wsX60 (htb _ tb_1_21)
  obtain ⟨c7, iS7, hKn7⟩ := u_known (C := RX7) (T := TX7) (N := 5) (n := 5) htb tb_wsX70 (htb _ tb_1_1)
  obtain ⟨c8, iS8, hKn8⟩ := u_known (C := RX8) (T := TX8) (N := 56) (n := 56) htb tb_wsX80 (htb _ tb_1_4)
  obtain ⟨cI, hcI1, hcI2⟩ := zarr (htb _ tb_2_15) (fun _ _ h => h)
  obtain ⟨cJ, hcJ1, hcJ2⟩ := zarr (htb _ tb_1_6) (fun _ _ h => h)
  obtain ⟨cZ, hcZ1, hcZ2⟩ := zarr (htb _ tb_5_17) (fun _ _ h => h)
  obtain ⟨D, hD⟩ : ∃ D : va_G, D = ((fun k => ([c0, c1, c2, c3, c4, c5, c6, c7, c8] : List ClassId).getD k c0), (fun k => ([iS0, iS1, iS2, iS3, iS4, iS5, iS6, iS7, iS8] : List (Nat → Nat)).getD k iS0)) := ⟨_, rfl⟩
  have hKc : ∀ (k : Nat) (q : vw_C), vwCl[k]? = some q → u_Kn s q.1 q.2.1 q.2.2 (D.1 k) (D.2 k) := by
    rw [hD]
    intro k q hq
    match k, hq with
    | 0, hq => cases hq; exact hKn0
    | 1, hq => cases hq; exact hKn1
    | 2, hq => cases hq; exact hKn2
    | 3, hq => cases hq; exact hKn3
    | 4, hq => cases hq; exact hKn4
    | 5, hq => cases hq; exact hKn5
    | 6, hq => cases hq; exact hKn6
    | 7, hq => cases hq; exact hKn7
    | 8, hq => cases hq; exact hKn8
    | k + 9, hq => simp [vwCl] at hq
  have hK : va_K D vwCl (zty cI cJ cZ) s := by
    refine ⟨hKc, fun k q hq => ?_⟩
    match k, hq with
    | 0, hq => cases hq; exact ⟨hcI1, hcI2⟩
    | 1, hq => cases hq; exact ⟨hcJ1, hcJ2⟩
    | 2, hq => cases hq; exact ⟨hcZ1, hcZ2⟩
    | k + 3, hq => simp [zty] at hq
  have hA : ∀ a : Nat, a < s.heap.size → ¬ Al s a := fun a h => Nat.not_le.mpr h
  refine ⟨D, cI, cJ, cZ, hlt, ⟨hx, hb, hml, hown, htb, ⟨hK, va_Nw.of rfl (hts _ lt_n1), va_Nw.of rfl (hts _ lt_n2), va_Nw.of rfl (hts _ lt_n3), va_Nw.of rfl (hts _ lt_n4), va_Nw.of rfl (hts _ lt_n5)⟩, hr, hlocks, fun q h => h⟩, htx, ⟨va_Nw.of rfl (hts _ lt_x1), va_Nw.of rfl (hts _ lt_x2), va_Nc.of (hfl _ lt_g1), zstr (hts _ lt_s1) (hfl _ lt_g2), zstr (hts _ lt_s2) (hfl _ lt_g3), zstr (hts _ lt_s3) (hfl _ lt_g4), zstr (hts _ lt_s4) (hfl _ lt_g5), va_Nw.of rfl (hts _ lt_d1), va_Nw.of rfl (hts _ lt_d2), va_Nw.of rfl (hts _ lt_d3)⟩, ⟨vx_Zqof (hts _ lt_l1) (hts _ lt_i1) (hfl _ lt_g6) hA, vx_Zqof (hts _ lt_l2) (hts _ lt_i1) (hfl _ lt_g7) hA⟩, hX, hbl⟩
set_option maxRecDepth 100000 in
theorem k8_dflt : ∀ j, j < 56 → defaultValue (tyX8 j) = vp_V [.int 0, .null, .null, .null, .null, .int 0, .null, .null, .null, .null, .null, .int 0, .null, .null, .null, .int 0, .null, .null, .null, .null, .null, .int 0, .int 0, .int 0, .int 0, .null, .null, .null, .null, .null, .null, .int 0, .null, .null, .null, .null, .null, .null, .int 0, .int 0, .null, .null, .int 0, .null, .null, .null, .null, .null, .int 0, .long 0, .long 0, .null, .long 0, .long 0, .long 0, .long 0] j := by
  intro j hj
  match j, hj with
  | 0, _ => rfl
  | 1, _ => rfl
  | 2, _ => rfl
  | 3, _ => rfl
  | 4, _ => rfl
  | 5, _ => rfl
  | 6, _ => rfl
  | 7, _ => rfl
  | 8, _ => rfl
  | 9, _ => rfl
  | 10, _ => rfl
  | 11, _ => rfl
  | 12, _ => rfl
  | 13, _ => rfl
  | 14, _ => rfl
  | 15, _ => rfl
  | 16, _ => rfl
  | 17, _ => rfl
  | 18, _ => rfl
  | 19, _ => rfl
  | 20, _ => rfl
  | 21, _ => rfl
  | 22, _ => rfl
  | 23, _ => rfl
  | 24, _ => rfl
  | 25, _ => rfl
  | 26, _ => rfl
  | 27, _ => rfl
  | 28, _ => rfl
  | 29, _ => rfl
  | 30, _ => rfl
  | 31, _ => rfl
  | 32, _ => rfl
  | 33, _ => rfl
  | 34, _ => rfl
  | 35, _ => rfl
  | 36, _ => rfl
  | 37, _ => rfl
  | 38, _ => rfl
  | 39, _ => rfl
  | 40, _ => rfl
  | 41, _ => rfl
  | 42, _ => rfl
  | 43, _ => rfl
  | 44, _ => rfl
  | 45, _ => rfl
  | 46, _ => rfl
  | 47, _ => rfl
  | 48, _ => rfl
  | 49, _ => rfl
  | 50, _ => rfl
  | 51, _ => rfl
  | 52, _ => rfl
  | 53, _ => rfl
  | 54, _ => rfl
  | 55, _ => rfl
  | j + 56, h => exact absurd h (by omega)
set_option maxRecDepth 100000 in
set_option maxHeartbeats 4000000 in
theorem whole_start {p : Program} {e : Env} {s : State} {m : MethodId} {below : List Frame} {meth : Method} {c : Code} (l : Launch) (hlt : l.stackTraces = false) {b L : Nat} {xs : Nat → Int32} (hL : L ≤ 2560) (C0 : lw_At p s m meth c b L xs) : W p l e room_1 s m #[Value.ref b] below meth c s.heap [] 0 0 (lw_Z below #[Value.ref b] s) (entryFrame m ([Value.ref b] : List Value).toArray 8) := by
  obtain ⟨D, cI, cJ, cZ, hX⟩ := law_know hlt C0
  obtain ⟨-, hC, -, -, -, -, -⟩ := id hX
  obtain ⟨hx, hb, hml, hown, hts, hK, hr, hlocks, hA⟩ := id hC
  have hS : va_S (Al s) s.heap s.heap [] := va_S.rf
  have hP : va_P D vwCl [] s.heap := fun k q h => by simp at h
  have hD : va_D (Al s) [] := ⟨fun i j p q h => by simp at h, fun k q h => by simp at h⟩
  have hl := lv_entry ([.ref b]) (n := 8) (Nat.le_of_ble_eq_true rfl)
  rw [lg_entry_eq]
  generalize (lg_sl ([.ref b]) ++ List.replicate (8 - (lg_sl ([.ref b])).length) Slot.unset).toArray = ls at hl ⊢
  have hl : lv_has ls 8 [(0, .ref b)] := hl
  refine va_new (ci := 7) (fs := [.null, .null, .null, .null, .null]) (C := RX7) (T := TX7) (N := 5) hx hb hts tb_wsX70 tyX7 tyX7_ok hown (hts _ tb_1_0) (hts _ tb_1_1) (hts _ tb_1_2) hK.1 hP hD hS hA rfl (fun j hj => by rcases (show j = 0 ∨ j = 1 ∨ j = 2 ∨ j = 3 ∨ j = 4 by omega) with rfl | rfl | rfl | rfl | rfl <;> rfl) (Nat.le_of_ble_eq_true rfl) (Nat.le_of_ble_eq_true rfl) dL_law_0 (fun q0 H hP hD hS => ?_)
  replace hP : va_P D vwCl [(q0, .inr (7, [.null, .null, .null, .null, .null]))] H := hP
  replace hD : va_D (Al s) [(q0, .inr (7, [.null, .null, .null, .null, .null]))] := hD
  refine lv_dup hx hb dL_law_3 rfl ?_
  refine zthen_c (w1 := kW_X7_init cI cJ cZ q0) (wr := []) (wc := [(q0, .inr (7, [.null, .null, .null, .null, .null]))]) (k2 := 35) (n2 := 5627) hA hP hD hS [0] [] rfl rfl (by decide) (by decide) (zrunI (As := []) (rest := [.ref q0]) (na := 0) hC hP hD (k_X7_init l D cI cJ cZ q0 H.size) tb_1_7 tb_1_8 tb_1_9 tb_1_2 rfl (by decide +kernel) rfl rfl ⟨by decide, by decide⟩ rfl hl.1 rfl (Nat.le_of_ble_eq_true rfl) dL_law_4 ⟨by decide, by decide⟩) (Nat.le_of_ble_eq_true rfl) (Nat.le_of_ble_eq_true rfl) (fun u0 H locs hP hD hS => ?_)
  replace hP : va_P D vwCl (zWC cI cJ cZ (hz q0 u0) iP0 iA0 iA0 iT0 iE0 iM0 iS0) H := hP
  replace hD : va_D (Al s) (zWC cI cJ cZ (hz q0 u0) iP0 iA0 iA0 iT0 iE0 iM0 iS0) := hD
  refine lv_astore_n (lv' := [(1, .ref q0), (0, .ref b)]) hx hb dL_law_7 rfl hl (by decide) rfl (fun ls hl => ?_)
  refine va_new (ci := 8) (fs := [.int 0, .null, .null, .null, .null, .int 0, .null, .null, .null, .null, .null, .int 0, .null, .null, .null, .int 0, .null, .null, .null, .null, .null, .int 0, .int 0, .int 0, .int 0, .null, .null, .null, .null, .null, .null, .int 0, .null, .null, .null, .null, .null, .null, .int 0, .int 0, .null, .null, .int 0, .null, .null, .null, .null, .null, .int 0, .long 0, .long 0, .null, .long 0, .long 0, .long 0, .long 0]) (C := RX8) (T := TX8) (N := 56) hx hb hts tb_wsX80 tyX8 tyX8_ok hown (hts _ tb_1_3) (hts _ tb_1_4) (hts _ tb_1_5) hK.1 hP hD hS hA rfl (k8_dflt) (Nat.le_of_ble_eq_true rfl) (Nat.le_of_ble_eq_true rfl) dL_law_8 (fun q1 H hP hD hS => ?_)
  refine lv_dup hx hb dL_law_11 rfl ?_
  refine zthen_c (w1 := kW_X8_init cI cJ cZ q1) (wr := zWC cI cJ cZ (hz q0 u0) iP0 iA0 iA0 iT0 iE0 iM0 iS0) (wc := [(q1, .inr (8, [.int 0, .null, .null, .null, .null, .int 0, .null, .null, .null, .null, .null, .int 0, .null, .null, .null, .int 0, .null, .null, .null, .null, .null, .int 0, .int 0, .int 0, .int 0, .null, .null, .null, .null, .null, .null, .int 0, .null, .null, .null, .null, .null, .null, .int 0, .int 0, .null, .null, .int 0, .null, .null, .null, .null, .null, .int 0, .long 0, .long 0, .null, .long 0, .long 0, .long 0, .long 0]))]) (k2 := 73) (n2 := 30618) hA hP hD hS [35] [0, 1, 2, 3, 4, 5, 6, 7, 8, 9, 10, 11, 12, 13, 14, 15, 16, 17, 18, 19, 20, 21, 22, 23, 24, 25, 26, 27, 28, 29, 30, 31, 32, 33, 34] rfl rfl (by decide) (by decide) (zrunI (As := []) (rest := [.ref q1]) (na := 0) hC (zP_r hP) (zD_r hD) (k_X8_init l D cI cJ cZ q1 H.size) tb_5_2 tb_5_3 tb_5_4 tb_1_5 rfl (by decide +kernel) rfl rfl ⟨by decide, by decide⟩ rfl hl.1 rfl (Nat.le_of_ble_eq_true rfl) dL_law_12 ⟨by decide, by decide⟩) (Nat.le_of_ble_eq_true rfl) (Nat.le_of_ble_eq_true rfl) (fun u1 H locs hP hD hS => ?_)
  replace hP : va_P D vwCl (zWC cI cJ cZ (hz q0 u0) iP0 iA0 iA0 iT0 iE0 iM0 iS0 ++ zWM cI cJ cZ (hz q1 u1) jG0 (0 : Int32) jR0 jW0 jS0 jK0 (0 : Int32) (0 : Int32) zz jB0 jM0 jF0) H := hP
  replace hD : va_D (Al s) (zWC cI cJ cZ (hz q0 u0) iP0 iA0 iA0 iT0 iE0 iM0 iS0 ++ zWM cI cJ cZ (hz q1 u1) jG0 (0 : Int32) jR0 jW0 jS0 jK0 (0 : Int32) (0 : Int32) zz jB0 jM0 jF0) := hD
  refine lv_astore_n (lv' := [(2, .ref q1), (1, .ref q0), (0, .ref b)]) hx hb dL_law_15 rfl hl (by decide) rfl (fun ls hl => ?_)
  refine lv_iconst (v := 1) hx hb dL_law_16 (by decide) ?_
  refine z_newa (atype := .long) (t0 := 1) (a0 := (1, .inr (.inl zzL))) (N' := 1) (k2 := 74) (n2 := 30619) hx hb (hts _ tb_1_6) (ty := .long) rfl hK.1 rfl (fun _ _ h => h) hP hD hS hA (fun _ => rfl) (by decide) (by decide) (by decide) (Nat.le_of_ble_eq_true rfl) (Nat.le_of_ble_eq_true rfl) dL_law_17 (Nat.le_of_ble_eq_true rfl) (Nat.le_of_ble_eq_true rfl) (fun oa H hP hD hS => ?_)
  rw [List.append_assoc] at hP hD
  have hP := zP_is hP
  have hD := zD_is hD
  refine lv_astore_n (lv' := [(3, .ref oa), (2, .ref q1), (1, .ref q0), (0, .ref b)]) hx hb dL_law_19 rfl hl (by decide) rfl (fun ls hl => ?_)
  refine lv_iconst (v := 0) hx hb dL_law_20 (by decide) ?_
  refine lv_istore (lv' := [(4, .int 0), (3, .ref oa), (2, .ref q1), (1, .ref q0), (0, .ref b)]) hx hb dL_law_21 hl (by decide) rfl (fun ls hl => ?_)
  have lp := law_loop (e := e) (below := below) (h1 := hz q0 u0) (h2 := hz q1 u1) (oa := oa) hL hX (N := 4 ^ 30 + 1) (Nat.lt_succ_self _) (L / 5 + 1) 0 74 30619 (Nat.zero_le _) (by omega) (by omega) (by omega)
  exact lp _ _ _ _ _ _ _ _ _ _ _ _ _ _ _ _ _ _ _ zzL H locs ls zI_0 hP hD hS (by rw [nI_0]; exact lv_sub hl [4, 3, 2, 1, 0] rfl)
