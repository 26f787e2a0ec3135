/-! Methods that throw -/
abbrev xN : List String := ["java/lang/RuntimeException", "java/lang/Exception"]
def tb_x0 : List Cond := (vx_atS RX7 72 IO xN).filter goodWord
def tb_x1 : List Cond := (xNA.filter vx_no).filter goodWord
def tb_X : List Cond := tb_L ++ (tb_x0 ++ tb_x1)
theorem tb_X0 {w : Cond} (h : w ∈ tb_L) : w ∈ tb_X := List.mem_append_left _ h
theorem tb_X1 {w : Cond} (h : w ∈ tb_x0) : w ∈ tb_X := List.mem_append_right _ (List.mem_append_left _ h)
theorem tb_X2 {w : Cond} (h : w ∈ tb_x1) : w ∈ tb_X := List.mem_append_right _ (List.mem_append_right _ h)
theorem zgoodX {w : Cond} (h : w ∈ tb_X) : w ∈ tb_X ∧ ((w.onTables && w.keeps) = true ∨ ∃ ty, w = .arrayClass ty) := by
  refine ⟨h, ?_⟩
  rcases List.mem_append.mp h with h | h
  · exact (zgood h).2
  · rcases List.mem_append.mp h with h | h
    · exact good_of_word (List.mem_filter.mp h).2
    · exact good_of_word (List.mem_filter.mp h).2
/-- what the tables say for throws -/
def zXT (U : State) : Prop := va_Nw (.castable IO IO) U ∧ va_Nw (.castable NS NS) U ∧ va_Nc NS IO U ∧ (∃ sa, vk_R RX7 70 "no such piece" sa U) ∧ (∃ sa, vk_R RX7 100 "no such what" sa U) ∧ (∃ sa, vk_R RX7 121 "no such knot" sa U) ∧ (∃ sa, vk_R RX7 141 "no such part" sa U) ∧ va_Nw (.declares (Bundle.initS "java/lang/RuntimeException")) U ∧ va_Nw (.declares (Bundle.initS "java/lang/Exception")) U ∧ va_Nw (.declares (Bundle.initS Bundle.tN)) U
theorem zXT.warm {s U : State} (hW : s.WarmedH U.vm) (h : zXT s) : zXT U := by
  obtain ⟨h1, h2, h3, ⟨a4, h4⟩, ⟨a5, h5⟩, ⟨a6, h6⟩, ⟨a7, h7⟩, h8, h9, h10⟩ := h
  exact ⟨va_Nw.warmC hW h1, va_Nw.warmC hW h2, va_Nc.moved hW.alike h3, ⟨a4, vk_R.warm hW h4⟩, ⟨a5, vk_R.warm hW h5⟩, ⟨a6, vk_R.warm hW h6⟩, ⟨a7, vk_R.warm hW h7⟩, va_Nw.warmD hW h8, va_Nw.warmD hW h9, va_Nw.warmD hW h10⟩
theorem zXT.call {U : State} {g : JFrame} {mk : MethodId} {a : Array Value} (h : zXT U) : zXT (U.calling g mk a) := by
  obtain ⟨h1, h2, h3, ⟨a4, h4⟩, ⟨a5, h5⟩, ⟨a6, h6⟩, ⟨a7, h7⟩, h8, h9, h10⟩ := h
  exact ⟨va_Nw.same rfl rfl h1, va_Nw.same rfl rfl h2, va_Nc.moved (u := U) (U := U.calling g mk a) (Vm.Alike.refl U.vm) h3, ⟨a4, vk_R.same rfl h4⟩, ⟨a5, vk_R.same rfl h5⟩, ⟨a6, vk_R.same rfl h6⟩, ⟨a7, vk_R.same rfl h7⟩, va_Nw.same rfl rfl h8, va_Nw.same rfl rfl h9, va_Nw.same rfl rfl h10⟩
def zXH (A : Nat → Prop) (U : State) (H : Heap) : Prop := vx_Zq Bundle.tN "UNASSIGNED_STACK" Bundle.steD A U H ∧ vx_Zq Bundle.tN "SUPPRESSED_SENTINEL" Bundle.listD A U H
theorem zXH.moved {A : Nat → Prop} {u U : State} {H : Heap} (hvm : u.vm.Alike U.vm) (h : zXH A u H) : zXH A U H := ⟨vx_Zq.moved hvm h.1, vx_Zq.moved hvm h.2⟩
theorem zXH.kept {A : Nat → Prop} {U : State} {H H1 : Heap} (h : zXH A U H) (hq : ∀ a : Nat, a < H.size → ¬ A a → H1[a]? = H[a]?) : zXH A U H1 := ⟨vx_Zq.kept h.1 hq, vx_Zq.kept h.2 hq⟩
theorem zXH.narrow {A B : Nat → Prop} {U : State} {H : Heap} (h : zXH A U H) (hAB : ∀ q, B q → A q) : zXH B U H := ⟨vx_Zq.narrow h.1 hAB, vx_Zq.narrow h.2 hAB⟩
def zPreX (D : va_G) (tys : List (ClassId × FieldType)) (ws : va_W) (sz : Nat) (av : List Value) : Array Value → State → Prop := va_Pc av (fun U => U.heap.size = sz ∧ va_P D vwCl ws U.heap ∧ zKK D tys U ∧ va_D (fun _ => True) ws ∧ zXT U ∧ zXH (va_A ws sz) U U.heap)
theorem zPreX.blind {D : va_G} {tys : List (ClassId × FieldType)} {ws : va_W} {sz : Nat} {av : List Value} : FrameBlind (zPreX D tys ws sz av) := fun a U g mk q => ⟨q.1, q.2.1, q.2.2.1, zKK.call q.2.2.2.1, q.2.2.2.2.1, zXT.call q.2.2.2.2.2.1, zXH.moved (u := U) (U := U.calling g mk a) (Vm.Alike.refl U.vm) q.2.2.2.2.2.2⟩
def zKi (D : va_G) (A : Nat → Prop) (ws : va_W) (k r : Int32) : Array Value → State → Outcome → State → Prop := va_Qi (fun (x : Int32) (_ : Unit) => x = r ∧ k = 0) (fun _ t => va_P D vwCl ws t.heap ∧ va_D A ws) A
def zKl (D : va_G) (A : Nat → Prop) (ws : va_W) (k : Int32) (r : Int64) : Array Value → State → Outcome → State → Prop := va_Ql (fun (x : Int64) (_ : Unit) => x = r ∧ k = 0) (fun _ t => va_P D vwCl ws t.heap ∧ va_D A ws) A
def zXC (D : va_G) (A : Nat → Prop) (ws : va_W) (k : Int32) : String → State → State → Prop := vx_X (fun (_ : Unit) => True) (fun E _ t => ((E = IO ∧ k = 1) ∨ (E = NS ∧ k = 2)) ∧ va_P D vwCl ws t.heap) A
theorem zMetX {l : Launch} {y : MethodName} {cc : ByteArray} {maxL mc ms : Nat} {ret : Option FieldType} {rm : Room} {D : va_G} {tys : List (ClassId × FieldType)} {ws : va_W} {av : List Value} {sz : Nat} {Qc : (Nat → Prop) → Array Value → State → Outcome → State → Prop} {XC : (Nat → Prop) → String → State → State → Prop} (hy : plainName y.cls = true) (hrc : (headSpec (Cond.code y cc maxL ret :: tb_X) rm).room = rm) (hlen : (lg_sl av).length ≤ maxL)
    (body : ∀ (p : Program) (e : Env) (s : State) (m : MethodId) (args : Array Value) (below : List Frame) (meth : Method) (c : Code) (A : Nat → Prop) (ls : Array Slot), zCx p s m args meth c A D tys cc y.cls maxL ret → (∀ w ∈ tb_X, w.before args s = true) → (∀ x ∈ c.exceptionTable.toList, False) → zXT s → zXH A s s.heap → va_P D vwCl ws s.heap → va_D A ws → va_S A s.heap s.heap [] → lv_has ls maxL (lv_args 0 av) → W p l e rm s m args below meth c s.heap [] 0 0 (vx_MQ below (Qc A) (XC A) args s mc ms A) (F0 m 0 ls [])) :
    vx_Met l y (Cond.code y cc maxL ret :: tb_X) rm (zPreX D tys ws sz av) (Qc (va_A ws sz)) (XC (va_A ws sz)) mc ms (va_A ws sz) := by
  refine vx_ofW (cc := cc) (maxL := maxL) (ret := ret) hy rfl ?_
  intro p e s m args below meth c s₁ B hml ht hv
  obtain ⟨rfl, hsz, hP, hK, hD0, hT, hH⟩ := hv
  have hts := atoms_spec (ws := Cond.code y cc maxL ret :: tb_X) B.pre
  have hown : s.vm.findClass y.cls = some m.cls := findClass_of_methodNamed B.named
  subst hsz
  have hD := hD0.self (sz := s.heap.size)
  have hl := lv_entry av (n := maxL) hlen
  rw [lg_entry_eq, hrc]
  exact body p e s m av.toArray below meth c _ _ ⟨B.exec, B.bytes, hml, hown, fun w h => hts w (List.mem_cons_of_mem _ (tb_X0 h)), hK, B.returns, B.notSynchronized, fun q h => Or.inr h⟩ (fun w h => hts w (List.mem_cons_of_mem _ h)) ht hT hH hP hD va_S.rf hl
section ZX
variable {p : Program} {l : Launch} {e : Env} {s : State} {m : MethodId} {args : Array Value} {below : List Frame} {meth : Method} {c : Code} {H : Heap} {locs : List Loc} {A : Nat → Prop} {D : va_G} {tys : List (ClassId × FieldType)} {cc : ByteArray} {own : String} {nL pc : Nat} {ret : Option FieldType} {ls : Array Slot} {ws : va_W} {R : Room}
theorem zx_ni : ∀ w ∈ (vx_atS RX7 72 IO xN).filter (fun w => !goodWord w), w ∈ [Cond.castable IO IO, .declares (Bundle.initS "java/lang/RuntimeException"), .declares (Bundle.initS "java/lang/Exception"), .declares (Bundle.initS Bundle.tN)] := by decide +kernel
theorem zx_nn : ∀ w ∈ (xNA.filter vx_no).filter (fun w => !goodWord w), w ∈ [Cond.castable NS NS, .declares (Bundle.initS "java/lang/RuntimeException"), .declares (Bundle.initS "java/lang/Exception"), .declares (Bundle.initS Bundle.tN)] := by decide +kernel
theorem zx_gi : ∀ w ∈ Cond.classLink RX7 68 IO :: Cond.initialized IO :: vx_atS RX7 72 IO xN, vx_ot w = true := by decide +kernel
theorem zx_gn : ∀ w ∈ Cond.classLink RX7 98 NS :: Cond.initialized NS :: xNA.filter vx_no, vx_ot w = true := by decide +kernel
theorem zx_F {t : State} (hS : va_S A s.heap H locs) (h1 : H.size ≤ t.heap.size) (h2 : ∀ q : Nat, q < H.size → t.heap[q]? = H[q]?) : va_F A s t := ⟨Nat.le_trans hS.1 h1, fun q hq hn => (h2 q (Nat.lt_of_lt_of_le hq hS.1)).trans (hS.2.1 q hq hn)⟩
theorem zx_throwI {text : String} {is : Nat} {Qc : Array Value → State → Outcome → State → Prop} (hC : zCx p s m args meth c A D tys cc RX7 nL ret) (htx : ∀ w ∈ tb_X, w.before args s = true) (hex : ∀ x ∈ c.exceptionTable.toList, False) (hT : zXT s) (hH : zXH A s s.heap) (hl : l.stackTraces = false) (hstr : ∃ sa, vk_R RX7 is text sa s) (hP : va_P D vwCl ws H) (hS : va_S A s.heap H locs) (hsz : ls.size = nL)
    (d0 : decode cc pc = .ok (.new 68, 3)) (d3 : decode cc (pc + 3) = .ok (.dup, 1)) (d4 : decode cc (pc + 4) = .ok (.ldc is, 2)) (d6 : decode cc (pc + 6) = .ok (.invokespecial 72, 3)) (d9 : decode cc (pc + 9) = .ok (.athrow, 1)) (h1 : 5 < R.frames) (h2 : 82 ≤ R.locals) (h3 : 1 ≤ R.cells) (h4 : 6 ≤ R.slots) :
    W p l e R s m args below meth c H locs 0 0 (vx_MQ below Qc (zXC D A ws 1) args s 1 6 A) (F0 m pc ls []) := by
  obtain ⟨hx, hb, hml, hown, hts, hK, -, hlocks, hA⟩ := hC
  obtain ⟨sa, hstr⟩ := hstr
  exact vx_throwS (own := RX7) (cls := IO) (text := text) (names := xN) (sa := sa) (A := A) hx hb hl hown (by decide) (by decide) (hts _ tb_9_11) (hts _ tb_9_12) hstr (vx_hat (fun w h => htx w (tb_X1 h)) zx_ni (vx_c (va_Nw.use rfl hT.1) (vx_c (va_Nw.use rfl hT.2.2.2.2.2.2.2.1) (vx_c (va_Nw.use rfl hT.2.2.2.2.2.2.2.2.1) (vx_c (va_Nw.use rfl hT.2.2.2.2.2.2.2.2.2) vx_n))))) zx_gi hH.1 hH.2 hS (by rw [hml]; exact hsz) d0 d3 d4 d6 d9 (fun x h => (hex x h).elim) h1 (by show 0 + 82 ≤ R.locals; omega) (by omega) (by omega) hlocks
    (fun t _ q1 q2 => ⟨(), trivial, ⟨Or.inl ⟨rfl, rfl⟩, hP.kept (fun k x hx => q2 x.1 ((hP k x hx).lt))⟩, zx_F hS q1 q2⟩) hS.2.2 (Nat.le_refl _) (Nat.le_refl _)
theorem zx_throwN {Qc : Array Value → State → Outcome → State → Prop} (hC : zCx p s m args meth c A D tys cc RX7 nL ret) (htx : ∀ w ∈ tb_X, w.before args s = true) (hex : ∀ x ∈ c.exceptionTable.toList, False) (hT : zXT s) (hH : zXH A s s.heap) (hl : l.stackTraces = false) (hP : va_P D vwCl ws H) (hS : va_S A s.heap H locs) (hsz : ls.size = nL)
    (d0 : decode cc pc = .ok (.new 98, 3)) (d3 : decode cc (pc + 3) = .ok (.dup, 1)) (d4 : decode cc (pc + 4) = .ok (.ldc 100, 2)) (d6 : decode cc (pc + 6) = .ok (.invokespecial 102, 3)) (d9 : decode cc (pc + 9) = .ok (.athrow, 1)) (h1 : 5 < R.frames) (h2 : 82 ≤ R.locals) (h3 : 1 ≤ R.cells) (h4 : 6 ≤ R.slots) :
    W p l e R s m args below meth c H locs 0 0 (vx_MQ below Qc (zXC D A ws 2) args s 1 6 A) (F0 m pc ls []) := by
  obtain ⟨hx, hb, hml, hown, hts, hK, -, hlocks, hA⟩ := hC
  obtain ⟨sa, hstr⟩ := hT.2.2.2.2.1
  exact zThrowN (text := "no such what") (sa := sa) (A := A) hx hb hl hown (hts _ tb_9_13) (hts _ tb_9_14) hstr (vx_hat (fun w h => htx w (tb_X2 h)) zx_nn (vx_c (va_Nw.use rfl hT.2.1) (vx_c (va_Nw.use rfl hT.2.2.2.2.2.2.2.1) (vx_c (va_Nw.use rfl hT.2.2.2.2.2.2.2.2.1) (vx_c (va_Nw.use rfl hT.2.2.2.2.2.2.2.2.2) vx_n))))) zx_gn hH.1 hH.2 hS (by rw [hml]; exact hsz) d0 d3 d4 d6 d9 (fun x h => (hex x h).elim) h1 (by show 0 + 82 ≤ R.locals; omega) (by omega) (by omega) hlocks
    (fun t _ q1 q2 => ⟨(), trivial, ⟨Or.inr ⟨rfl, rfl⟩, hP.kept (fun k x hx => q2 x.1 ((hP k x hx).lt))⟩, zx_F hS q1 q2⟩) hS.2.2 (Nat.le_refl _) (Nat.le_refl _)
theorem zx_iret {v : Int32} {XC : String → State → State → Prop} (hC : zCx p s m args meth c A D tys cc own nL (some .int)) (hP : va_P D vwCl ws H) (hD : va_D A ws) (hS : va_S A s.heap H locs) (hdg : decode cc pc = .ok (.ireturn, 1)) : W p l e R s m args below meth c H locs 0 0 (vx_MQ below (zKi D A ws 0 v) XC args s 1 6 A) (F0 m pc ls [.int v]) := by
  obtain ⟨hx, hb, hml, hown, hts, hK, hr, hlocks, hA⟩ := hC
  exact W.widen (k := 1) (n := 6) (by omega) (by omega) (vx_ret (W.iret (v := v) hx hb hr (fun t ht _ => ⟨⟨v, (), rfl, ⟨rfl, rfl⟩, by rw [ht]; exact hP, hD⟩, hS.F ht⟩) hS.2.2 hdg hlocks))
theorem zx_lret {v : Int64} {XC : String → State → State → Prop} (hC : zCx p s m args meth c A D tys cc own nL (some .long)) (hP : va_P D vwCl ws H) (hD : va_D A ws) (hS : va_S A s.heap H locs) (hdg : decode cc pc = .ok (.lreturn, 1)) : W p l e R s m args below meth c H locs 0 0 (vx_MQ below (zKl D A ws 0 v) XC args s 1 6 A) (F0 m pc ls [.long v]) := by
  obtain ⟨hx, hb, hml, hown, hts, hK, hr, hlocks, hA⟩ := hC
  exact W.widen (k := 1) (n := 6) (by omega) (by omega) (vx_ret (W.lret (v := v) hx hb hr (fun t ht _ => ⟨⟨v, (), rfl, ⟨rfl, rfl⟩, by rw [ht]; exact hP, hD⟩, hS.F ht⟩) hS.2.2 hdg hlocks))
end ZX
theorem kRX7_92 : zcw RX7 92 RX2 yX2_howManyOf cX2_howManyOf 4 (some .int) 1 := ⟨tb_9_20, tb_9_21, tb_9_22, tb_3_2, tb_9_23, by decide +kernel⟩
theorem kRX7_152 : zcw RX7 152 RX3 yX3_placeAt cX3_placeAt 11 (some .long) 4 := ⟨tb_18_14, tb_18_15, tb_18_16, tb_1_15, tb_18_17, by decide +kernel⟩
