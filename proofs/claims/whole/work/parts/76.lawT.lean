/-! The law's own catchers -/
theorem zMetW {l : Launch} {y : MethodName} {cc : ByteArray} {maxL mc ms : Nat} {ret : Option FieldType} {hh : List (Nat × Nat × Nat × Nat)} {rm : Room} {D : va_G} {tys : List (ClassId × FieldType)} {ws : va_W} {av : List Value} {sz : Nat} {Qc : (Nat → Prop) → Array Value → State → Outcome → State → Prop} (hy : plainName y.cls = true) (hrc : (headSpec (Cond.codeWith y cc maxL ret hh :: tb_X) rm).room = rm) (hlen : (lg_sl av).length ≤ maxL)
    (body : ∀ (p : Program) (e : Env) (s : State) (m : MethodId) (args : Array Value) (below : List Frame) (meth : Method) (c : Code) (A : Nat → Prop) (ls : Array Slot), zCx p s m args meth c A D tys cc y.cls maxL ret → (∀ w ∈ tb_X, w.before args s = true) → c.exceptionTable.toList = tableOf hh → zXT s → zXH A s s.heap → va_P D vwCl ws s.heap → va_D A ws → va_S A s.heap s.heap [] → lv_has ls maxL (lv_args 0 av) → W p l e rm s m args below meth c s.heap [] 0 0 (MQ below (Qc A) args s mc ms A) (F0 m 0 ls [])) :
    Met l y (Cond.codeWith y cc maxL ret hh :: tb_X) rm (zPreX D tys ws sz av) (Qc (va_A ws sz)) mc ms (va_A ws sz) := by
  refine va_MetW (cc := cc) (maxL := maxL) (ret := ret) (hh := hh) hy rfl ?_
  intro p e s m args below meth c s₁ B hml hv
  obtain ⟨rfl, hsz, hP, hK, hD0, hT, hH⟩ := hv
  have hts := atoms_spec (ws := Cond.codeWith y cc maxL ret hh :: tb_X) B.pre
  have hown : s.vm.findClass y.cls = some m.cls := findClass_of_methodNamed B.named
  have ht := vx_table (x := y) B (hts _ List.mem_cons_self)
  subst hsz
  have hD := hD0.self (sz := s.heap.size)
  have hl := lv_entry av (n := maxL) hlen
  rw [lg_entry_eq, hrc]
  exact body p e s m av.toArray below meth c _ _ ⟨B.exec, B.bytes, hml, hown, fun w h => hts w (List.mem_cons_of_mem _ (tb_X0 h)), hK, B.returns, B.notSynchronized, fun q h => Or.inr h⟩ (fun w h => hts w (List.mem_cons_of_mem _ h)) ht hT hH hP hD va_S.rf hl
theorem zgVX {own : String} {index : Nat} {C : String} {y : MethodName} {cc : ByteArray} {maxL : Nat} {ret : Option FieldType} {na : Nat} (h : zcw own index C y cc maxL ret na) : GoodIn tb_X (wsV own index C y (Cond.code y cc maxL ret :: tb_X)) := by
  obtain ⟨h1, h2, h3, h4, h5, -⟩ := h
  intro w hw
  rcases List.mem_append.mp hw with hw | hw
  · simp only [List.mem_cons, List.not_mem_nil, or_false] at hw
    rcases hw with rfl | rfl | rfl | rfl
    · exact zgoodX (tb_X0 h1)
    · exact zgoodX (tb_X0 h2)
    · exact zgoodX (tb_X0 h3)
    · exact zgoodX (tb_X0 h4)
  · rcases List.mem_cons.mp hw with rfl | hw
    · exact zgoodX (tb_X0 h5)
    · exact zgoodX hw
section ZY
variable {p : Program} {l : Launch} {e : Env} {R : Room} {s : State} {m : MethodId} {args : Array Value} {below : List Frame} {meth : Method} {c : Code} {H : Heap} {locs : List Loc} {cells slots mc ms : Nat} {Q : State → Prop} {A : Nat → Prop} {D : va_G} {tys : List (ClassId × FieldType)} {cc : ByteArray} {own : String} {nL pc : Nat} {ret : Option FieldType} {ls : Array Slot} {st rest As : List Value} {ws : va_W}
variable {y : MethodName} {cc' : ByteArray} {n' index na : Nat} {ret' : Option FieldType} {rm : Room} {C : String} {T : u_T} {N ci b : Nat} {fs : List Value}
theorem zrunX {Qc : Array Value → State → Outcome → State → Prop} {XC : String → State → State → Prop} (hC : zCx p s m args meth c A D tys cc own nL ret) (htx : ∀ w ∈ tb_X, w.before args s = true) (hT : zXT s) (hH : zXH A s s.heap) (hP : va_P D vwCl ws H) (hD : va_D A ws) (hS : va_S A s.heap H locs) (q0 : Nat) (he : ws[q0]? = some (b, .inr (ci, fs))) (hcl : vwCl[ci]? = some (C, T, N))
    (hM : vx_Met l y (Cond.code y cc' n' ret' :: tb_X) rm (zPreX D tys ws H.size (.ref b :: As)) Qc XC mc ms (va_A ws H.size)) (hk : zcw own index C y cc' n' ret' na) (hrc : rm.cells = mc) (hrs : rm.slots = ms) (hR : rm.frames + 1 ≤ R.frames ∧ 8 + (n' + 11) + rm.locals ≤ R.locals)
    (hn : As.length = na) (hsz : ls.size = nL) (hst : st = As.reverse ++ .ref b :: rest) (hW : (rest.map fun v => v.category).sum ≤ 8) (hdg : decode cc pc = .ok (.invokevirtual index, 3)) (hf : cells + mc ≤ R.cells ∧ slots + ms ≤ R.slots) :
    vx_Run p l e R s m args below meth c H locs cells slots mc ms (F0 m pc ls st) rest (Qc (Value.ref b :: As).toArray) XC (va_A ws H.size) := by
  obtain ⟨hx, hb, hml, hown, hts, hK, -, -, hA⟩ := hC
  exact vx_runV (As := As) (rest := rest) (g := F0 m pc ls st) ⟨hx, hb, hml, hown, htx⟩ hM (cwV na htx (zgVX hk) rfl hrc hrs hk.2.2.2.2.2 hR) ⟨zPreX.blind, va_recv hK.1 hP hcl he, fun U hU hWm => ⟨rfl, by rw [hU], by rw [hU]; exact hP, zKK.warm hWm hK, hD.weaken (fun _ _ _ _ => trivial), zXT.warm hWm hT, by rw [hU]; exact ((hH.kept hS.2.1).narrow (zfree hD hS hA)).moved hWm.alike⟩⟩ rfl hn hsz hst (lv_room hW) hdg hf
end ZY
/-- what the law's catcher gives -/
def zLQ (D : va_G) (A : Nat → Prop) (wc : va_W) (oa : Nat) (cJ : ClassId) (k : Int32) (r : Int64) : Array Value → State → Outcome → State → Prop := va_Qi (fun (x : Int32) (f : Nat → Int64) => x = k ∧ (k = 0 → f 0 = r)) (fun f t => va_P D vwCl (wc ++ [(oa, .inl (cJ, 1, .inr (.inl f)))]) t.heap ∧ va_D A (wc ++ [(oa, .inl (cJ, 1, .inr (.inl f)))])) A
theorem zupL (f : Nat → Int64) (x : Int64) : vp_updL f (0 : Int32).toNatClampNeg x 0 = x := by
  rw [show (0 : Int32).toNatClampNeg = 0 from rfl]
  unfold vp_updL
  rw [if_pos rfl]
theorem kRL_7 : zcw RL 7 RX7 yX7_look cX7_look 3 (some .int) 2 := ⟨tb_9_7, tb_9_8, tb_9_9, tb_1_2, tb_9_10, by decide +kernel⟩
set_option maxRecDepth 100000 in
set_option maxHeartbeats 4000000 in
theorem x_L_look (l : Launch) (hlt : l.stackTraces = false) (D : va_G) (cI cJ cZ : ClassId) (h : Nat → Nat) (N : Nat) (gP : tPi) (gR : tPa) (gQ : tPa) (gT : tTr) (gE : tTe) (gM : tMe) (gS : tSq) (oa : Nat) (f : Nat → Int64) (a1 a2 k : Int32) (u : Int32) (hf : Y7_look N gP gQ a1 a2 = some (k, u)) (sz : Nat) : Met l yL_look (Cond.codeWith yL_look cL_look 5 (some .int) [(0, 10, 13, 13), (0, 10, 17, 15)] :: tb_X) ({ frames := 7, cells := 1, slots := 6, locals := 104 } : Room) (zPreX D (zty cI cJ cZ) ((zWC cI cJ cZ h gP gR gQ gT gE gM gS) ++ [(oa, .inl (cJ, 1, .inr (.inl f)))]) sz [.ref (h 0), .int a1, .int a2, .ref oa]) (zLQ D (va_A ((zWC cI cJ cZ h gP gR gQ gT gE gM gS) ++ [(oa, .inl (cJ, 1, .inr (.inl f)))]) sz) (zWC cI cJ cZ h gP gR gQ gT gE gM gS) oa cJ k u.toInt64) 1 6 (va_A ((zWC cI cJ cZ h gP gR gQ gT gE gM gS) ++ [(oa, .inl (cJ, 1, .inr (.inl f)))]) sz) := by
  refine zMetW (Qc := fun A => zLQ D A (zWC cI cJ cZ h gP gR gQ gT gE gM gS) oa cJ k u.toInt64) (by decide) rfl (Nat.le_of_ble_eq_true rfl) ?_
  intro p e s m args below meth c A ls hC htx hex hT hH hP hD hS hl
  replace hl : lv_has ls 5 [(0, .ref (h 0)), (1, .int a1), (2, .int a2), (3, .ref oa)] := hl
  obtain ⟨hx, hb, hml, hown, hts, hK, hr, hlocks, hA⟩ := id hC
  obtain ⟨H, hH0⟩ : ∃ H, H = s.heap := ⟨_, rfl⟩
  rw [← hH0] at hP
  replace hS : va_S A s.heap H [] := by rw [hH0]; exact hS
  show W p l e _ s m args below meth c s.heap [] 0 0 _ _
  rw [← hH0]
  clear hH0
  refine lv_aload_n hx hb dL_look_0 rfl (lv_at hl 3 rfl) ?_
  refine lv_iconst (v := 0) hx hb dL_look_1 (by decide) ?_
  refine lv_aload_n hx hb dL_look_2 rfl (lv_at hl 0 rfl) ?_
  refine lv_iload_n hx hb dL_look_3 rfl (lv_at hl 1 rfl) ?_
  refine lv_iload_n hx hb dL_look_4 rfl (lv_at hl 2 rfl) ?_
  have hPc := zP_l hP
  have hDc := zD_l hD
  have hF := zfree hDc hS hA
  refine vx_calli (A1 := va_A (zWC cI cJ cZ h gP gR gQ gT gE gM gS) H.size) (AX := va_A (zWC cI cJ cZ h gP gR gQ gT gE gM gS) H.size) (zrunX (As := [.int a1, .int a2]) (rest := [.int 0, .ref oa]) hC htx hT hH hPc hDc hS 0 rfl rfl (x_X7_look l hlt D cI cJ cZ h N gP gR gQ gT gE gM gS a1 a2 k u hf H.size) kRL_7 rfl rfl ⟨by decide, by decide⟩ rfl hl.1 rfl (Nat.le_of_ble_eq_true rfl) dL_look_5 ⟨by decide, by decide⟩) hS (fun q _ h => hF q h) hF (fun q _ h => hF q h) ?_ ?_
  · intro E ce q9 u9 t H1 locs1 ht hvm _ hB hz hk1 hS1 hce hcv hcl
    obtain ⟨hE, hP1⟩ := hB
    rw [ht] at hP1
    obtain ⟨hP, hD⟩ := zjL hP hD hk1 hF hP1 (hDc.self (sz := H.size))
    rcases hE with ⟨rfl, rfl⟩ | ⟨rfl, rfl⟩
    · refine vx_catch (own := RL) (name := IO) hown [] ⟨0, 10, 13, 13⟩ [⟨0, 10, 17, 15⟩] (by rw [hex]; rfl) (fun z hz => by cases hz) (by decide) (by decide) (hts _ tb_9_5) (va_Nw.use rfl hT.1) hce hcv hcl ?_
      refine lv_astore (lv' := [(4, .ref q9), (0, .ref (h 0)), (1, .int a1), (2, .int a2), (3, .ref oa)]) hx hb dL_look_13 hl (by decide) rfl (fun ls hl => ?_)
      refine lv_iconst (v := 1) hx hb dL_look_15 (by decide) ?_
      exact W.iret (v := 1) hx hb hr (fun t ht _ => ⟨⟨1, f, rfl, ⟨rfl, fun z => absurd z (by decide)⟩, by rw [ht]; exact hP, hD⟩, hS1.F ht⟩) hS1.2.2 dL_look_16 hlocks
    · refine vx_catch (own := RL) (name := NS) hown [⟨0, 10, 13, 13⟩] ⟨0, 10, 17, 15⟩ [] (by rw [hex]; rfl) (fun z hz => by rw [List.mem_singleton.mp hz]; exact Or.inr ⟨by decide, IO, hts _ tb_9_5, hT.2.2.1⟩) (by decide) (by decide) (hts _ tb_9_6) (va_Nw.use rfl hT.2.1) hce hcv hcl ?_
      refine lv_astore (lv' := [(4, .ref q9), (0, .ref (h 0)), (1, .int a1), (2, .int a2), (3, .ref oa)]) hx hb dL_look_17 hl (by decide) rfl (fun ls hl => ?_)
      refine lv_iconst (v := 2) hx hb dL_look_19 (by decide) ?_
      exact W.iret (v := 2) hx hb hr (fun t ht _ => ⟨⟨2, f, rfl, ⟨rfl, fun z => absurd z (by decide)⟩, by rw [ht]; exact hP, hD⟩, hS1.F ht⟩) hS1.2.2 dL_look_20 hlocks
  · intro r1 u9 t H1 locs1 ht hvm hp hB hz hk1 hS1
    obtain ⟨rfl, rfl⟩ := hp
    obtain ⟨hP1, hD1⟩ := hB
    rw [ht] at hP1
    obtain ⟨hP, hD⟩ := zjL hP hD hk1 hF hP1 hD1
    refine lv_i2l hx hb dL_look_8 rfl ?_
    refine va_last (D := D) hx hb hK.1 hP hD hS1 35 1 rfl rfl (show ¬ ((0 : Int32) < 0 ∨ 1 ≤ (0 : Int32).toNatClampNeg) by decide) dL_look_9 (fun H locs hP hD hS => ?_)
    replace hP : va_P D vwCl ((zWC cI cJ cZ h gP gR gQ gT gE gM gS) ++ [(oa, .inl (cJ, 1, .inr (.inl (vp_updL f (0 : Int32).toNatClampNeg r1.toInt64))))]) H := hP
    replace hD : va_D A ((zWC cI cJ cZ h gP gR gQ gT gE gM gS) ++ [(oa, .inl (cJ, 1, .inr (.inl (vp_updL f (0 : Int32).toNatClampNeg r1.toInt64))))]) := hD
    refine lv_goto (tgt := 21) hx hb dL_look_10 (by decide) ?_
    refine lv_iconst (v := 0) hx hb dL_look_21 (by decide) ?_
    exact W.iret (v := 0) hx hb hr (fun t ht _ => ⟨⟨0, vp_updL f (0 : Int32).toNatClampNeg r1.toInt64, rfl, ⟨rfl, fun _ => zupL f _⟩, by rw [ht]; exact hP, hD⟩, hS.F ht⟩) hS.2.2 dL_look_22 hlocks
theorem kRL_17 : zcw RL 17 RX7 yX7_knot cX7_knot 3 (some .int) 2 := ⟨tb_17_11, tb_17_12, tb_17_13, tb_1_2, tb_17_14, by decide +kernel⟩
set_option maxRecDepth 100000 in
set_option maxHeartbeats 4000000 in
theorem x_L_knot (l : Launch) (hlt : l.stackTraces = false) (D : va_G) (cI cJ cZ : ClassId) (h : Nat → Nat) (N : Nat) (gP : tPi) (gR : tPa) (gQ : tPa) (gT : tTr) (gE : tTe) (gM : tMe) (gS : tSq) (oa : Nat) (f : Nat → Int64) (a1 a2 k : Int32) (u : Int32) (hf : Y7_knot gT a1 a2 = some (k, u)) (sz : Nat) : Met l yL_knot (Cond.codeWith yL_knot cL_knot 5 (some .int) [(0, 10, 13, 13), (0, 10, 17, 15)] :: tb_X) ({ frames := 7, cells := 1, slots := 6, locals := 104 } : Room) (zPreX D (zty cI cJ cZ) ((zWC cI cJ cZ h gP gR gQ gT gE gM gS) ++ [(oa, .inl (cJ, 1, .inr (.inl f)))]) sz [.ref (h 0), .int a1, .int a2, .ref oa]) (zLQ D (va_A ((zWC cI cJ cZ h gP gR gQ gT gE gM gS) ++ [(oa, .inl (cJ, 1, .inr (.inl f)))]) sz) (zWC cI cJ cZ h gP gR gQ gT gE gM gS) oa cJ k u.toInt64) 1 6 (va_A ((zWC cI cJ cZ h gP gR gQ gT gE gM gS) ++ [(oa, .inl (cJ, 1, .inr (.inl f)))]) sz) := by
  refine zMetW (Qc := fun A => zLQ D A (zWC cI cJ cZ h gP gR gQ gT gE gM gS) oa cJ k u.toInt64) (by decide) rfl (Nat.le_of_ble_eq_true rfl) ?_
  intro p e s m args below meth c A ls hC htx hex hT hH hP hD hS hl
  replace hl : lv_has ls 5 [(0, .ref (h 0)), (1, .int a1), (2, .int a2), (3, .ref oa)] := hl
  obtain ⟨hx, hb, hml, hown, hts, hK, hr, hlocks, hA⟩ := id hC
  obtain ⟨H, hH0⟩ : ∃ H, H = s.heap := ⟨_, rfl⟩
  rw [← hH0] at hP
  replace hS : va_S A s.heap H [] := by rw [hH0]; exact hS
  show W p l e _ s m args below meth c s.heap [] 0 0 _ _
  rw [← hH0]
  clear hH0
  refine lv_aload_n hx hb dL_knot_0 rfl (lv_at hl 3 rfl) ?_
  refine lv_iconst (v := 0) hx hb dL_knot_1 (by decide) ?_
  refine lv_aload_n hx hb dL_knot_2 rfl (lv_at hl 0 rfl) ?_
  refine lv_iload_n hx hb dL_knot_3 rfl (lv_at hl 1 rfl) ?_
  refine lv_iload_n hx hb dL_knot_4 rfl (lv_at hl 2 rfl) ?_
  have hPc := zP_l hP
  have hDc := zD_l hD
  have hF := zfree hDc hS hA
  refine vx_calli (A1 := va_A (zWC cI cJ cZ h gP gR gQ gT gE gM gS) H.size) (AX := va_A (zWC cI cJ cZ h gP gR gQ gT gE gM gS) H.size) (zrunX (As := [.int a1, .int a2]) (rest := [.int 0, .ref oa]) hC htx hT hH hPc hDc hS 0 rfl rfl (x_X7_knot l hlt D cI cJ cZ h N gP gR gQ gT gE gM gS a1 a2 k u hf H.size) kRL_17 rfl rfl ⟨by decide, by decide⟩ rfl hl.1 rfl (Nat.le_of_ble_eq_true rfl) dL_knot_5 ⟨by decide, by decide⟩) hS (fun q _ h => hF q h) hF (fun q _ h => hF q h) ?_ ?_
  · intro E ce q9 u9 t H1 locs1 ht hvm _ hB hz hk1 hS1 hce hcv hcl
    obtain ⟨hE, hP1⟩ := hB
    rw [ht] at hP1
    obtain ⟨hP, hD⟩ := zjL hP hD hk1 hF hP1 (hDc.self (sz := H.size))
    rcases hE with ⟨rfl, rfl⟩ | ⟨rfl, rfl⟩
    · refine vx_catch (own := RL) (name := IO) hown [] ⟨0, 10, 13, 13⟩ [⟨0, 10, 17, 15⟩] (by rw [hex]; rfl) (fun z hz => by cases hz) (by decide) (by decide) (hts _ tb_9_5) (va_Nw.use rfl hT.1) hce hcv hcl ?_
      refine lv_astore (lv' := [(4, .ref q9), (0, .ref (h 0)), (1, .int a1), (2, .int a2), (3, .ref oa)]) hx hb dL_knot_13 hl (by decide) rfl (fun ls hl => ?_)
      refine lv_iconst (v := 1) hx hb dL_knot_15 (by decide) ?_
      exact W.iret (v := 1) hx hb hr (fun t ht _ => ⟨⟨1, f, rfl, ⟨rfl, fun z => absurd z (by decide)⟩, by rw [ht]; exact hP, hD⟩, hS1.F ht⟩) hS1.2.2 dL_knot_16 hlocks
    · refine vx_catch (own := RL) (name := NS) hown [⟨0, 10, 13, 13⟩] ⟨0, 10, 17, 15⟩ [] (by rw [hex]; rfl) (fun z hz => by rw [List.mem_singleton.mp hz]; exact Or.inr ⟨by decide, IO, hts _ tb_9_5, hT.2.2.1⟩) (by decide) (by decide) (hts _ tb_9_6) (va_Nw.use rfl hT.2.1) hce hcv hcl ?_
      refine lv_astore (lv' := [(4, .ref q9), (0, .ref (h 0)), (1, .int a1), (2, .int a2), (3, .ref oa)]) hx hb dL_knot_17 hl (by decide) rfl (fun ls hl => ?_)
      refine lv_iconst (v := 2) hx hb dL_knot_19 (by decide) ?_
      exact W.iret (v := 2) hx hb hr (fun t ht _ => ⟨⟨2, f, rfl, ⟨rfl, fun z => absurd z (by decide)⟩, by rw [ht]; exact hP, hD⟩, hS1.F ht⟩) hS1.2.2 dL_knot_20 hlocks
  · intro r1 u9 t H1 locs1 ht hvm hp hB hz hk1 hS1
    obtain ⟨rfl, rfl⟩ := hp
    obtain ⟨hP1, hD1⟩ := hB
    rw [ht] at hP1
    obtain ⟨hP, hD⟩ := zjL hP hD hk1 hF hP1 hD1
    refine lv_i2l hx hb dL_knot_8 rfl ?_
    refine va_last (D := D) hx hb hK.1 hP hD hS1 35 1 rfl rfl (show ¬ ((0 : Int32) < 0 ∨ 1 ≤ (0 : Int32).toNatClampNeg) by decide) dL_knot_9 (fun H locs hP hD hS => ?_)
    replace hP : va_P D vwCl ((zWC cI cJ cZ h gP gR gQ gT gE gM gS) ++ [(oa, .inl (cJ, 1, .inr (.inl (vp_updL f (0 : Int32).toNatClampNeg r1.toInt64))))]) H := hP
    replace hD : va_D A ((zWC cI cJ cZ h gP gR gQ gT gE gM gS) ++ [(oa, .inl (cJ, 1, .inr (.inl (vp_updL f (0 : Int32).toNatClampNeg r1.toInt64))))]) := hD
    refine lv_goto (tgt := 21) hx hb dL_knot_10 (by decide) ?_
    refine lv_iconst (v := 0) hx hb dL_knot_21 (by decide) ?_
    exact W.iret (v := 0) hx hb hr (fun t ht _ => ⟨⟨0, vp_updL f (0 : Int32).toNatClampNeg r1.toInt64, rfl, ⟨rfl, fun _ => zupL f _⟩, by rw [ht]; exact hP, hD⟩, hS.F ht⟩) hS.2.2 dL_knot_22 hlocks
theorem kRL_20 : zcw RL 20 RX7 yX7_part cX7_part 4 (some .long) 2 := ⟨tb_18_4, tb_18_5, tb_18_6, tb_1_2, tb_18_7, by decide +kernel⟩
set_option maxRecDepth 100000 in
set_option maxHeartbeats 4000000 in
theorem x_L_part (l : Launch) (hlt : l.stackTraces = false) (D : va_G) (cI cJ cZ : ClassId) (h : Nat → Nat) (N : Nat) (gP : tPi) (gR : tPa) (gQ : tPa) (gT : tTr) (gE : tTe) (gM : tMe) (gS : tSq) (oa : Nat) (f : Nat → Int64) (a1 a2 k : Int32) (u : Int64) (hf : Y7_part N gP gQ gT a1 a2 = some (k, u)) (sz : Nat) : Met l yL_part (Cond.codeWith yL_part cL_part 5 (some .int) [(0, 9, 12, 13), (0, 9, 16, 15)] :: tb_X) ({ frames := 7, cells := 1, slots := 6, locals := 105 } : Room) (zPreX D (zty cI cJ cZ) ((zWC cI cJ cZ h gP gR gQ gT gE gM gS) ++ [(oa, .inl (cJ, 1, .inr (.inl f)))]) sz [.ref (h 0), .int a1, .int a2, .ref oa]) (zLQ D (va_A ((zWC cI cJ cZ h gP gR gQ gT gE gM gS) ++ [(oa, .inl (cJ, 1, .inr (.inl f)))]) sz) (zWC cI cJ cZ h gP gR gQ gT gE gM gS) oa cJ k u) 1 6 (va_A ((zWC cI cJ cZ h gP gR gQ gT gE gM gS) ++ [(oa, .inl (cJ, 1, .inr (.inl f)))]) sz) := by
  refine zMetW (Qc := fun A => zLQ D A (zWC cI cJ cZ h gP gR gQ gT gE gM gS) oa cJ k u) (by decide) rfl (Nat.le_of_ble_eq_true rfl) ?_
  intro p e s m args below meth c A ls hC htx hex hT hH hP hD hS hl
  replace hl : lv_has ls 5 [(0, .ref (h 0)), (1, .int a1), (2, .int a2), (3, .ref oa)] := hl
  obtain ⟨hx, hb, hml, hown, hts, hK, hr, hlocks, hA⟩ := id hC
  obtain ⟨H, hH0⟩ : ∃ H, H = s.heap := ⟨_, rfl⟩
  rw [← hH0] at hP
  replace hS : va_S A s.heap H [] := by rw [hH0]; exact hS
  show W p l e _ s m args below meth c s.heap [] 0 0 _ _
  rw [← hH0]
  clear hH0
  refine lv_aload_n hx hb dL_part_0 rfl (lv_at hl 3 rfl) ?_
  refine lv_iconst (v := 0) hx hb dL_part_1 (by decide) ?_
  refine lv_aload_n hx hb dL_part_2 rfl (lv_at hl 0 rfl) ?_
  refine lv_iload_n hx hb dL_part_3 rfl (lv_at hl 1 rfl) ?_
  refine lv_iload_n hx hb dL_part_4 rfl (lv_at hl 2 rfl) ?_
  have hPc := zP_l hP
  have hDc := zD_l hD
  have hF := zfree hDc hS hA
  refine vx_calll (A1 := va_A (zWC cI cJ cZ h gP gR gQ gT gE gM gS) H.size) (AX := va_A (zWC cI cJ cZ h gP gR gQ gT gE gM gS) H.size) (zrunX (As := [.int a1, .int a2]) (rest := [.int 0, .ref oa]) hC htx hT hH hPc hDc hS 0 rfl rfl (x_X7_part l hlt D cI cJ cZ h N gP gR gQ gT gE gM gS a1 a2 k u hf H.size) kRL_20 rfl rfl ⟨by decide, by decide⟩ rfl hl.1 rfl (Nat.le_of_ble_eq_true rfl) dL_part_5 ⟨by decide, by decide⟩) hS (fun q _ h => hF q h) hF (fun q _ h => hF q h) ?_ ?_
  · intro E ce q9 u9 t H1 locs1 ht hvm _ hB hz hk1 hS1 hce hcv hcl
    obtain ⟨hE, hP1⟩ := hB
    rw [ht] at hP1
    obtain ⟨hP, hD⟩ := zjL hP hD hk1 hF hP1 (hDc.self (sz := H.size))
    rcases hE with ⟨rfl, rfl⟩ | ⟨rfl, rfl⟩
    · refine vx_catch (own := RL) (name := IO) hown [] ⟨0, 9, 12, 13⟩ [⟨0, 9, 16, 15⟩] (by rw [hex]; rfl) (fun z hz => by cases hz) (by decide) (by decide) (hts _ tb_9_5) (va_Nw.use rfl hT.1) hce hcv hcl ?_
      refine lv_astore (lv' := [(4, .ref q9), (0, .ref (h 0)), (1, .int a1), (2, .int a2), (3, .ref oa)]) hx hb dL_part_12 hl (by decide) rfl (fun ls hl => ?_)
      refine lv_iconst (v := 1) hx hb dL_part_14 (by decide) ?_
      exact W.iret (v := 1) hx hb hr (fun t ht _ => ⟨⟨1, f, rfl, ⟨rfl, fun z => absurd z (by decide)⟩, by rw [ht]; exact hP, hD⟩, hS1.F ht⟩) hS1.2.2 dL_part_15 hlocks
    · refine vx_catch (own := RL) (name := NS) hown [⟨0, 9, 12, 13⟩] ⟨0, 9, 16, 15⟩ [] (by rw [hex]; rfl) (fun z hz => by rw [List.mem_singleton.mp hz]; exact Or.inr ⟨by decide, IO, hts _ tb_9_5, hT.2.2.1⟩) (by decide) (by decide) (hts _ tb_9_6) (va_Nw.use rfl hT.2.1) hce hcv hcl ?_
      refine lv_astore (lv' := [(4, .ref q9), (0, .ref (h 0)), (1, .int a1), (2, .int a2), (3, .ref oa)]) hx hb dL_part_16 hl (by decide) rfl (fun ls hl => ?_)
      refine lv_iconst (v := 2) hx hb dL_part_18 (by decide) ?_
      exact W.iret (v := 2) hx hb hr (fun t ht _ => ⟨⟨2, f, rfl, ⟨rfl, fun z => absurd z (by decide)⟩, by rw [ht]; exact hP, hD⟩, hS1.F ht⟩) hS1.2.2 dL_part_19 hlocks
  · intro r1 u9 t H1 locs1 ht hvm hp hB hz hk1 hS1
    obtain ⟨rfl, rfl⟩ := hp
    obtain ⟨hP1, hD1⟩ := hB
    rw [ht] at hP1
    obtain ⟨hP, hD⟩ := zjL hP hD hk1 hF hP1 hD1
    refine va_last (D := D) hx hb hK.1 hP hD hS1 35 1 rfl rfl (show ¬ ((0 : Int32) < 0 ∨ 1 ≤ (0 : Int32).toNatClampNeg) by decide) dL_part_8 (fun H locs hP hD hS => ?_)
    replace hP : va_P D vwCl ((zWC cI cJ cZ h gP gR gQ gT gE gM gS) ++ [(oa, .inl (cJ, 1, .inr (.inl (vp_updL f (0 : Int32).toNatClampNeg r1))))]) H := hP
    replace hD : va_D A ((zWC cI cJ cZ h gP gR gQ gT gE gM gS) ++ [(oa, .inl (cJ, 1, .inr (.inl (vp_updL f (0 : Int32).toNatClampNeg r1))))]) := hD
    refine lv_goto (tgt := 20) hx hb dL_part_9 (by decide) ?_
    refine lv_iconst (v := 0) hx hb dL_part_20 (by decide) ?_
    exact W.iret (v := 0) hx hb hr (fun t ht _ => ⟨⟨0, vp_updL f (0 : Int32).toNatClampNeg r1, rfl, ⟨rfl, fun _ => zupL f _⟩, by rw [ht]; exact hP, hD⟩, hS.F ht⟩) hS.2.2 dL_part_21 hlocks
