/-! Checks that a pure function of a method makes, so that 'some' says that the machine goes through -/
def zck {α : Type} (i : Int32) (n : Nat) (k : Option α) : Option α := if i < 0 ∨ n ≤ i.toNatClampNeg then none else k
def zcz {α : Type} (y : Int32) (k : Option α) : Option α := if y = 0 then none else k
def zczl {α : Type} (y : Int64) (k : Option α) : Option α := if y = 0 then none else k
def zcb {α : Type} (x : Int32) (k : Option α) : Option α := if x = 0 ∨ x = 1 then k else none
def zl {α β : Type} (e : α) (k : α → Option β) : Option β := k e
theorem zck_s {α : Type} {i : Int32} {n : Nat} {k : Option α} {r : α} (h : zck i n k = some r) : vp_in i n ∧ k = some r := by
  unfold zck at h
  split at h
  · cases h
  · exact ⟨‹_›, h⟩
theorem zcz_s {α : Type} {y : Int32} {k : Option α} {r : α} (h : zcz y k = some r) : ¬ y = 0 ∧ k = some r := by
  unfold zcz at h
  split at h
  · cases h
  · exact ⟨‹_›, h⟩
theorem zczl_s {α : Type} {y : Int64} {k : Option α} {r : α} (h : zczl y k = some r) : ¬ y = 0 ∧ k = some r := by
  unfold zczl at h
  split at h
  · cases h
  · exact ⟨‹_›, h⟩
theorem zcb_s {α : Type} {x : Int32} {k : Option α} {r : α} (h : zcb x k = some r) : (x = 0 ∨ x = 1) ∧ k = some r := by
  unfold zcb at h
  split at h
  · exact ⟨‹_›, h⟩
  · cases h
theorem zl_n {α β : Type} {x e : α} {k : α → Option β} {r : β} (ex : x = e) (h : zl e k = some r) : k x = some r := by rw [ex]; exact h
theorem zif_t {α : Type} {c : Prop} [Decidable c] {a b : Option α} {r : α} (h : (if c then a else b) = some r) (hc : c) : a = some r := by rw [if_pos hc] at h; exact h
theorem zif_f {α : Type} {c : Prop} [Decidable c] {a b : Option α} {r : α} (h : (if c then a else b) = some r) (hc : ¬ c) : b = some r := by rw [if_neg hc] at h; exact h
theorem zbd {α β : Type} {o : Option α} {k : α → Option β} {r : β} (h : o.bind k = some r) : ∃ a, o = some a ∧ k a = some r := by
  cases o with
  | none => cases h
  | some a => exact ⟨a, rfl, h⟩
theorem znar {v : Int32} (h : v = 0 ∨ v = 1) : narrow .boolean (.int v) = .int v := by
  rcases h with rfl | rfl <;> rfl
theorem zsw {x k : Int32} (h : ¬ x = k) : x.toInt ≠ k.toInt := fun q => h (Int32.toInt_inj.mp q)
/-! What the tables say, for every method -/
abbrev zty (cI cJ cZ : ClassId) : List (ClassId × FieldType) := [(cI, .int), (cJ, .long), (cZ, .boolean)]
def zKK (D : va_G) (tys : List (ClassId × FieldType)) (U : State) : Prop := va_K D vwCl tys U ∧ va_Nw (.methodLinkNest RX1 69 yX7_commonDivisor RX7) U ∧ va_Nw (.methodLinkNest RX3 28 yX7_commonDivisor RX7) U ∧ va_Nw (.methodLinkNest RX7 11 yX3_init RX7) U ∧ va_Nw (.methodLinkNest RX0 11 yX2_init RX7) U ∧ va_Nw (.methodLinkNest RX6 32 yX2_init RX7) U
theorem zKK.warm {D : va_G} {tys : List (ClassId × FieldType)} {s U : State} (hW : s.WarmedH U.vm) (h : zKK D tys s) : zKK D tys U := ⟨va_K.moved hW.alike h.1, va_Nw.warmM hW h.2.1, va_Nw.warmM hW h.2.2.1, va_Nw.warmM hW h.2.2.2.1, va_Nw.warmM hW h.2.2.2.2.1, va_Nw.warmM hW h.2.2.2.2.2⟩
theorem zKK.call {D : va_G} {tys : List (ClassId × FieldType)} {U : State} {g : JFrame} {mk : MethodId} {a : Array Value} (h : zKK D tys U) : zKK D tys (U.calling g mk a) := ⟨va_K.moved (u := U) (U := U.calling g mk a) (Vm.Alike.refl U.vm) h.1, va_Nw.same rfl rfl h.2.1, va_Nw.same rfl rfl h.2.2.1, va_Nw.same rfl rfl h.2.2.2.1, va_Nw.same rfl rfl h.2.2.2.2.1, va_Nw.same rfl rfl h.2.2.2.2.2⟩
/-- where a method begins: its world -/
def zPre (D : va_G) (tys : List (ClassId × FieldType)) (ws : va_W) (sz : Nat) (av : List Value) : Array Value → State → Prop := va_Pc av (fun U => U.heap.size = sz ∧ va_P D vwCl ws U.heap ∧ zKK D tys U ∧ va_D (fun _ => True) ws)
theorem zPre.blind {D : va_G} {tys : List (ClassId × FieldType)} {ws : va_W} {sz : Nat} {av : List Value} : FrameBlind (zPre D tys ws sz av) := fun a U g mk q => ⟨q.1, q.2.1, q.2.2.1, zKK.call q.2.2.2.1, q.2.2.2.2⟩
def zQi (D : va_G) (A : Nat → Prop) (ws' : va_W) (r : Int32) : Array Value → State → Outcome → State → Prop := va_Qi (fun (x : Int32) (_ : Unit) => x = r) (fun _ t => va_P D vwCl ws' t.heap ∧ va_D A ws') A
def zQl (D : va_G) (A : Nat → Prop) (ws' : va_W) (r : Int64) : Array Value → State → Outcome → State → Prop := va_Ql (fun (x : Int64) (_ : Unit) => x = r) (fun _ t => va_P D vwCl ws' t.heap ∧ va_D A ws') A
def zQv (D : va_G) (A : Nat → Prop) (ws' : va_W) : Array Value → State → Outcome → State → Prop := va_Qv (fun (_ : Unit) => True) (fun _ t => va_P D vwCl ws' t.heap ∧ va_D A ws') A
theorem zfree {A : Nat → Prop} {ws : va_W} {H0 H : Heap} {locs : List Loc} (hD : va_D A ws) (hS : va_S A H0 H locs) (hA : ∀ q, H0.size ≤ q → A q) : ∀ q, va_A ws H.size q → A q := by
  intro q h
  rcases h with ⟨k, e, h⟩ | h
  · exact hD.2 k (q, e) h
  · exact hA q (Nat.le_trans hS.1 h)
theorem zgood {w : Cond} (h : w ∈ tb_L) : w ∈ tb_L ∧ ((w.onTables && w.keeps) = true ∨ ∃ ty, w = .arrayClass ty) := ⟨h, good_of_word (List.all_eq_true.mp tb_good w h)⟩
/-- what a method knows from its entry on -/
abbrev zCx (p : Program) (s : State) (m : MethodId) (args : Array Value) (meth : Method) (c : Code) (A : Nat → Prop) (D : va_G) (tys : List (ClassId × FieldType)) (cc : ByteArray) (own : String) (nL : Nat) (ret : Option FieldType) : Prop :=
  p.tables.exec = Jvm.exec ∧ c.code = cc ∧ c.maxLocals = nL ∧ s.vm.findClass own = some m.cls ∧ (∀ w ∈ tb_L, w.before args s = true) ∧ zKK D tys s ∧ meth.sig.returnType = ret ∧ meth.locks = false ∧ (∀ q, s.heap.size ≤ q → A q)
/-- what the tables say of a call -/
def zcw (own : String) (index : Nat) (C : String) (y : MethodName) (cc : ByteArray) (maxL : Nat) (ret : Option FieldType) (na : Nat) : Prop := Cond.methodLink own index y ∈ tb_L ∧ Cond.instanceMethod y ∈ tb_L ∧ Cond.selects C y y ∈ tb_L ∧ Cond.initialized C ∈ tb_L ∧ Cond.code y cc maxL ret ∈ tb_L ∧ (y.cls = C ∧ y.cls ≠ "java/lang/invoke/MethodHandle" ∧ y.cls ≠ "java/lang/invoke/VarHandle" ∧ (parseMethodDescriptor y.desc).map (fun d => d.parameters.length) = some na)
def zcs (own : String) (index : Nat) (y : MethodName) (cc : ByteArray) (maxL : Nat) (ret : Option FieldType) (na : Nat) : Prop := Cond.methodLink own index y ∈ tb_L ∧ Cond.static y ∈ tb_L ∧ Cond.initialized y.cls ∈ tb_L ∧ Cond.code y cc maxL ret ∈ tb_L ∧ (y.cls ≠ "java/lang/invoke/MethodHandle" ∧ y.cls ≠ "java/lang/invoke/VarHandle" ∧ (parseMethodDescriptor y.desc).map (fun d => d.parameters.length) = some na)
theorem zgV {own : String} {index : Nat} {C : String} {y : MethodName} {cc : ByteArray} {maxL : Nat} {ret : Option FieldType} {na : Nat} (h : zcw own index C y cc maxL ret na) : GoodIn tb_L (wsV own index C y (Cond.code y cc maxL ret :: tb_L)) := by
  obtain ⟨h1, h2, h3, h4, h5, -⟩ := h
  intro w hw
  rcases List.mem_append.mp hw with hw | hw
  · simp only [List.mem_cons, List.not_mem_nil, or_false] at hw
    rcases hw with rfl | rfl | rfl | rfl
    · exact zgood h1
    · exact zgood h2
    · exact zgood h3
    · exact zgood h4
  · rcases List.mem_cons.mp hw with rfl | hw
    · exact zgood h5
    · exact zgood hw
theorem zgS {own : String} {index : Nat} {y : MethodName} {cc : ByteArray} {maxL : Nat} {ret : Option FieldType} {na : Nat} (h : zcs own index y cc maxL ret na) : GoodIn tb_L (va_wsS own index y (Cond.code y cc maxL ret :: tb_L)) := by
  obtain ⟨h1, h2, h3, h4, -⟩ := h
  intro w hw
  rcases List.mem_append.mp hw with hw | hw
  · simp only [List.mem_cons, List.not_mem_nil, or_false] at hw
    rcases hw with rfl | rfl | rfl
    · exact zgood h1
    · exact zgood h2
    · exact zgood h3
  · rcases List.mem_cons.mp hw with rfl | hw
    · exact zgood h4
    · exact zgood hw
section ZC
variable {p : Program} {l : Launch} {e : Env} {R : Room} {s : State} {m : MethodId} {args : Array Value} {below : List Frame} {meth : Method} {c : Code} {H : Heap} {locs : List Loc} {Q : State → Prop} {A : Nat → Prop} {D : va_G} {tys : List (ClassId × FieldType)} {cc : ByteArray} {own : String} {nL pc : Nat} {ret : Option FieldType} {ls : Array Slot} {st rest As : List Value} {ws ws' : va_W}
variable {y : MethodName} {cc' : ByteArray} {n' index na : Nat} {ret' : Option FieldType} {rm : Room} {C : String} {T : u_T} {N ci b : Nat} {fs : List Value}
theorem zrunV {Qc : Array Value → State → Outcome → State → Prop} (hC : zCx p s m args meth c A D tys cc own nL ret) (hP : va_P D vwCl ws H) (hD : va_D A ws) (q0 : Nat) (he : ws[q0]? = some (b, .inr (ci, fs))) (hcl : vwCl[ci]? = some (C, T, N))
    (hM : Met l y (Cond.code y cc' n' ret' :: tb_L) rm (zPre D tys ws H.size (.ref b :: As)) Qc 0 0 (va_A ws H.size)) (hk : zcw own index C y cc' n' ret' na) (hrc : rm.cells = 0) (hrs : rm.slots = 0) (hR : rm.frames + 1 ≤ R.frames ∧ 8 + (n' + 11) + rm.locals ≤ R.locals)
    (hn : As.length = na) (hsz : ls.size = nL) (hst : st = As.reverse ++ .ref b :: rest) (hW : (rest.map fun v => v.category).sum ≤ 8) (hdg : decode cc pc = .ok (.invokevirtual index, 3)) :
    va_Run p l e R s m args below meth c H locs 0 0 0 0 (F0 m pc ls st) rest (Qc (Value.ref b :: As).toArray) (va_A ws H.size) := by
  obtain ⟨hx, hb, hml, hown, hts, hK, -, -, -⟩ := hC
  exact va_runV (As := As) (rest := rest) (g := F0 m pc ls st) ⟨hx, hb, hml, hown, hts⟩ hM (cwV na hts (zgV hk) rfl hrc hrs hk.2.2.2.2.2 hR) ⟨zPre.blind, va_recv hK.1 hP hcl he, fun U hU hWm => ⟨rfl, by rw [hU], by rw [hU]; exact hP, zKK.warm hWm hK, hD.weaken (fun _ _ _ _ => trivial)⟩⟩ rfl hn hsz hst (lv_room hW) hdg ⟨Nat.zero_le _, Nat.zero_le _⟩
theorem zrunS {Qc : Array Value → State → Outcome → State → Prop} (hC : zCx p s m args meth c A D tys cc own nL ret) (hP : va_P D vwCl ws H) (hD : va_D A ws)
    (hM : Met l y (Cond.code y cc' n' ret' :: tb_L) rm (zPre D tys ws H.size As) Qc 0 0 (va_A ws H.size)) (hk : zcs own index y cc' n' ret' na) (hrc : rm.cells = 0) (hrs : rm.slots = 0) (hR : rm.frames + 1 ≤ R.frames ∧ 8 + (n' + 11) + rm.locals ≤ R.locals)
    (hn : As.length = na) (hsz : ls.size = nL) (hst : st = As.reverse ++ rest) (hW : (rest.map fun v => v.category).sum ≤ 8) (hdg : decode cc pc = .ok (.invokestatic index, 3)) :
    va_Run p l e R s m args below meth c H locs 0 0 0 0 (F0 m pc ls st) rest (Qc As.toArray) (va_A ws H.size) := by
  obtain ⟨hx, hb, hml, hown, hts, hK, -, -, -⟩ := hC
  exact va_runS (As := As) (rest := rest) (g := F0 m pc ls st) ⟨hx, hb, hml, hown, hts⟩ hM (va_cwS na hts (zgS hk) rfl hrc hrs hk.2.2.2.2 hR) ⟨zPre.blind, fun U hU hWm => ⟨rfl, by rw [hU], by rw [hU]; exact hP, zKK.warm hWm hK, hD.weaken (fun _ _ _ _ => trivial)⟩⟩ rfl hn hsz hst (lv_room hW) hdg ⟨Nat.zero_le _, Nat.zero_le _⟩
theorem zrunSN {Qc : Array Value → State → Outcome → State → Prop} {host : String} (hC : zCx p s m args meth c A D tys cc own nL ret) (hP : va_P D vwCl ws H) (hD : va_D A ws) (hl : va_Nw (.methodLinkNest own index y host) s)
    (hM : Met l y (Cond.code y cc' n' ret' :: tb_L) rm (zPre D tys ws H.size As) Qc 0 0 (va_A ws H.size)) (hk1 : Cond.static y ∈ tb_L) (hk2 : Cond.initialized y.cls ∈ tb_L) (hk3 : Cond.code y cc' n' ret' ∈ tb_L) (hd : y.cls ≠ "java/lang/invoke/MethodHandle" ∧ y.cls ≠ "java/lang/invoke/VarHandle" ∧ (parseMethodDescriptor y.desc).map (fun d => d.parameters.length) = some na) (hrc : rm.cells = 0) (hrs : rm.slots = 0) (hR : rm.frames + 1 ≤ R.frames ∧ 8 + (n' + 11) + rm.locals ≤ R.locals)
    (hn : As.length = na) (hsz : ls.size = nL) (hst : st = As.reverse ++ rest) (hW : (rest.map fun v => v.category).sum ≤ 8) (hdg : decode cc pc = .ok (.invokestatic index, 3)) :
    va_Run p l e R s m args below meth c H locs 0 0 0 0 (F0 m pc ls st) rest (Qc As.toArray) (va_A ws H.size) := by
  obtain ⟨hx, hb, hml, hown, hts, hK, -, -, -⟩ := hC
  exact va_runSN (As := As) (rest := rest) (g := F0 m pc ls st) ⟨hx, hb, hml, hown, hts⟩ hM ⟨va_cnB na hts (fun w hw => by rcases List.mem_cons.mp hw with rfl | hw; exact zgood hk3; exact zgood hw) rfl hrc hrs hl (hts _ hk2) hd hR, hts _ hk1, trivial⟩ ⟨zPre.blind, fun U hU hWm => ⟨rfl, by rw [hU], by rw [hU]; exact hP, zKK.warm hWm hK, hD.weaken (fun _ _ _ _ => trivial)⟩⟩ rfl hn hsz hst (lv_room hW) hdg ⟨Nat.zero_le _, Nat.zero_le _⟩
theorem zthen_i {r : Int32} {a : Array Value} (hA : ∀ q, s.heap.size ≤ q → A q) (hD : va_D A ws) (hS : va_S A s.heap H locs) (hr : va_Run p l e R s m args below meth c H locs 0 0 0 0 (F0 m pc ls st) rest (zQi D (va_A ws H.size) ws' r a) (va_A ws H.size))
    (kk : ∀ (H1 : Heap) (locs1 : List Loc), va_P D vwCl ws' H1 → va_D A ws' → va_S A s.heap H1 locs1 → W p l e R s m args below meth c H1 locs1 0 0 Q (F0 m (pc + 3) ls (.int r :: rest))) : W p l e R s m args below meth c H locs 0 0 Q (F0 m pc ls st) := by
  have hF := zfree hD hS hA
  refine va_calli hr hS (fun q _ h => hF q h) hF (fun r1 u t H1 locs1 ht hvm hw hB hz1 hk1 hS1 => ?_)
  subst hw
  obtain ⟨hP1, hD1⟩ := hB
  rw [ht] at hP1
  exact kk H1 locs1 hP1 (hD1.weaken (fun _ q _ h => hF q.1 h)) hS1
theorem zthen_l {r : Int64} {a : Array Value} (hA : ∀ q, s.heap.size ≤ q → A q) (hD : va_D A ws) (hS : va_S A s.heap H locs) (hr : va_Run p l e R s m args below meth c H locs 0 0 0 0 (F0 m pc ls st) rest (zQl D (va_A ws H.size) ws' r a) (va_A ws H.size))
    (kk : ∀ (H1 : Heap) (locs1 : List Loc), va_P D vwCl ws' H1 → va_D A ws' → va_S A s.heap H1 locs1 → W p l e R s m args below meth c H1 locs1 0 0 Q (F0 m (pc + 3) ls (.long r :: rest))) : W p l e R s m args below meth c H locs 0 0 Q (F0 m pc ls st) := by
  have hF := zfree hD hS hA
  refine va_calll hr hS (fun q _ h => hF q h) hF (fun r1 u t H1 locs1 ht hvm hw hB hz1 hk1 hS1 => ?_)
  subst hw
  obtain ⟨hP1, hD1⟩ := hB
  rw [ht] at hP1
  exact kk H1 locs1 hP1 (hD1.weaken (fun _ q _ h => hF q.1 h)) hS1
theorem zthen_v {a : Array Value} (hA : ∀ q, s.heap.size ≤ q → A q) (hD : va_D A ws) (hS : va_S A s.heap H locs) (hr : va_Run p l e R s m args below meth c H locs 0 0 0 0 (F0 m pc ls st) rest (zQv D (va_A ws H.size) ws' a) (va_A ws H.size))
    (kk : ∀ (H1 : Heap) (locs1 : List Loc), va_P D vwCl ws' H1 → va_D A ws' → va_S A s.heap H1 locs1 → W p l e R s m args below meth c H1 locs1 0 0 Q (F0 m (pc + 3) ls rest)) : W p l e R s m args below meth c H locs 0 0 Q (F0 m pc ls st) := by
  have hF := zfree hD hS hA
  refine va_callv hr hS (fun q _ h => hF q h) hF (fun u t H1 locs1 ht hvm hw hB hz1 hk1 hS1 => ?_)
  obtain ⟨hP1, hD1⟩ := hB
  rw [ht] at hP1
  exact kk H1 locs1 hP1 (hD1.weaken (fun _ q _ h => hF q.1 h)) hS1
theorem z_iret {v : Int32} (hC : zCx p s m args meth c A D tys cc own nL (some .int)) (hP : va_P D vwCl ws' H) (hD : va_D A ws') (hS : va_S A s.heap H locs) (hdg : decode cc pc = .ok (.ireturn, 1)) : W p l e R s m args below meth c H locs 0 0 (MQ below (zQi D A ws' v) args s 0 0 A) (F0 m pc ls [.int v]) := by
  obtain ⟨hx, hb, hml, hown, hts, hK, hr, hlocks, hA⟩ := hC
  exact W.iret (v := v) hx hb hr (fun t ht _ => ⟨⟨v, (), rfl, rfl, by rw [ht]; exact hP, hD⟩, hS.F ht⟩) hS.2.2 hdg hlocks
theorem z_zret {v : Int32} (hC : zCx p s m args meth c A D tys cc own nL (some .boolean)) (hv : v = 0 ∨ v = 1) (hP : va_P D vwCl ws' H) (hD : va_D A ws') (hS : va_S A s.heap H locs) (hdg : decode cc pc = .ok (.ireturn, 1)) : W p l e R s m args below meth c H locs 0 0 (MQ below (zQi D A ws' v) args s 0 0 A) (F0 m pc ls [.int v]) := by
  obtain ⟨hx, hb, hml, hown, hts, hK, hr, hlocks, hA⟩ := hC
  exact W.zret (v := v) hx hb hr (znar hv) (fun t ht _ => ⟨⟨v, (), rfl, rfl, by rw [ht]; exact hP, hD⟩, hS.F ht⟩) hS.2.2 hdg hlocks
theorem z_lret {v : Int64} (hC : zCx p s m args meth c A D tys cc own nL (some .long)) (hP : va_P D vwCl ws' H) (hD : va_D A ws') (hS : va_S A s.heap H locs) (hdg : decode cc pc = .ok (.lreturn, 1)) : W p l e R s m args below meth c H locs 0 0 (MQ below (zQl D A ws' v) args s 0 0 A) (F0 m pc ls [.long v]) := by
  obtain ⟨hx, hb, hml, hown, hts, hK, hr, hlocks, hA⟩ := hC
  exact W.lret (v := v) hx hb hr (fun t ht _ => ⟨⟨v, (), rfl, rfl, by rw [ht]; exact hP, hD⟩, hS.F ht⟩) hS.2.2 hdg hlocks
theorem z_vret (hC : zCx p s m args meth c A D tys cc own nL none) (hP : va_P D vwCl ws' H) (hD : va_D A ws') (hS : va_S A s.heap H locs) (hdg : decode cc pc = .ok (.return_, 1)) : W p l e R s m args below meth c H locs 0 0 (MQ below (zQv D A ws') args s 0 0 A) (F0 m pc ls []) := by
  obtain ⟨hx, hb, hml, hown, hts, hK, hr, hlocks, hA⟩ := hC
  exact W.vret hx hb hr (fun t ht _ => ⟨⟨(), rfl, trivial, by rw [ht]; exact hP, hD⟩, hS.F ht⟩) hS.2.2 hdg hlocks
end ZC
/-- a method's contract, out of its walk -/
theorem zMet {l : Launch} {y : MethodName} {cc : ByteArray} {maxL : Nat} {ret : Option FieldType} {rm : Room} {D : va_G} {tys : List (ClassId × FieldType)} {ws : va_W} {av : List Value} {sz : Nat} {Qc : (Nat → Prop) → Array Value → State → Outcome → State → Prop} (hy : plainName y.cls = true) (hrc : (headSpec (Cond.code y cc maxL ret :: tb_L) rm).room = rm) (hlen : (lg_sl av).length ≤ maxL)
    (body : ∀ (p : Program) (e : Env) (s : State) (m : MethodId) (args : Array Value) (below : List Frame) (meth : Method) (c : Code) (A : Nat → Prop) (ls : Array Slot), zCx p s m args meth c A D tys cc y.cls maxL ret → (meth.name = y.name) → va_P D vwCl ws s.heap → va_D A ws → va_S A s.heap s.heap [] → lv_has ls maxL (lv_args 0 av) → W p l e rm s m args below meth c s.heap [] 0 0 (MQ below (Qc A) args s 0 0 A) (F0 m 0 ls [])) :
    Met l y (Cond.code y cc maxL ret :: tb_L) rm (zPre D tys ws sz av) (Qc (va_A ws sz)) 0 0 (va_A ws sz) := by
  refine Met.ofW (cc := cc) (maxL := maxL) (ret := ret) hy rfl ?_
  intro p e s m args below meth c s₁ B hml hv
  obtain ⟨rfl, hsz, hP, hK, hD0⟩ := hv
  have hts := atoms_spec (ws := Cond.code y cc maxL ret :: tb_L) B.pre
  have hown : s.vm.findClass y.cls = some m.cls := findClass_of_methodNamed B.named
  subst hsz
  have hD := hD0.self (sz := s.heap.size)
  have hl := lv_entry av (n := maxL) hlen
  rw [lg_entry_eq, hrc]
  exact body p e s m av.toArray below meth c _ _ ⟨B.exec, B.bytes, hml, hown, fun w h => hts w (List.mem_cons_of_mem _ h), hK, B.returns, B.notSynchronized, fun q h => Or.inr h⟩ (name_of_methodNamed B.named B.method).1 hP hD va_S.rf hl
