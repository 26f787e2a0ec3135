/-! Makers: contracts of methods that make cells -/
abbrev zz : Nat → Int32 := fun _ => 0
abbrev zzL : Nat → Int64 := fun _ => 0
theorem zMetC {l : Launch} {y : MethodName} {cc : ByteArray} {maxL mc ms : Nat} {ret : Option FieldType} {rm : Room} {D : va_G} {tys : List (ClassId × FieldType)} {ws : va_W} {av : List Value} {sz : Nat} {Qc : (Nat → Prop) → Array Value → State → Outcome → State → Prop} (hy : plainName y.cls = true) (hrc : (headSpec (Cond.code y cc maxL ret :: tb_L) rm).room = rm) (hlen : (lg_sl av).length ≤ maxL)
    (body : ∀ (p : Program) (e : Env) (s : State) (m : MethodId) (args : Array Value) (below : List Frame) (meth : Method) (c : Code) (A : Nat → Prop) (ls : Array Slot), zCx p s m args meth c A D tys cc y.cls maxL ret → (meth.name = y.name) → va_P D vwCl ws s.heap → va_D A ws → va_S A s.heap s.heap [] → lv_has ls maxL (lv_args 0 av) → W p l e rm s m args below meth c s.heap [] 0 0 (MQ below (Qc A) args s mc ms A) (F0 m 0 ls [])) :
    Met l y (Cond.code y cc maxL ret :: tb_L) rm (zPre D tys ws sz av) (Qc (va_A ws sz)) mc ms (va_A ws sz) := by
  refine Met.ofW (cc := cc) (maxL := maxL) (ret := ret) hy rfl ?_
  intro p e s m args below meth c s₁ B hml hv
  obtain ⟨rfl, hsz, hP, hK, hD0⟩ := hv
  have hts := atoms_spec (ws := Cond.code y cc maxL ret :: tb_L) B.pre
  have hown : s.vm.findClass y.cls = some m.cls := findClass_of_methodNamed B.named
  subst hsz
  have hD := hD0.self (sz := s.heap.size)
  have hl := lv_entry av (n := maxL) hlen
  rw [lg_entry_eq, hrc]
  exact body p e s m av.toArray below meth c _ _ ⟨B.exec, B.bytes, hml, hown, fun w h => hts w (List.mem_cons_of_mem _ h), hK, B.returns, B.notSynchronized, fun q h => Or.inr h⟩ (name_of_methodNamed B.named B.method).1 hP hD va_S.rf hl
section ZM
variable {p : Program} {l : Launch} {e : Env} {R : Room} {s : State} {m : MethodId} {args : Array Value} {below : List Frame} {meth : Method} {c : Code} {H : Heap} {locs : List Loc} {cells slots mc ms : Nat} {Q : State → Prop} {A : Nat → Prop} {D : va_G} {tys : List (ClassId × FieldType)} {cc : ByteArray} {own : String} {nL pc : Nat} {ret : Option FieldType} {ls : Array Slot} {st rest As : List Value} {ws wc wr : va_W}
variable {y : MethodName} {cc' : ByteArray} {n' index na : Nat} {rm : Room} {b : Nat}
theorem z_newa {cl : List vw_C} {H0 : Heap} (hexec : p.tables.exec = Jvm.exec) (hb : c.code = cc) {atype : ArrayType} (harr : (Cond.arrayClass (newarray.typeOf atype)).before args s = true) {ty : FieldType} (hty : newarray.typeOf atype = ty) (hK : va_K D cl tys s) (t0 : Nat) {cT : ClassId} (ht : tys[t0]? = some (cT, ty)) (hq : ∀ (U : State) (k : ClassId), va_RA U k ty → U.vm.findClass ("[" ++ ty.toString) = some k) (hP : va_P D cl ws H) (hD : va_D A ws) (hS : va_S A H0 H locs) (hA : ∀ q, H0.size ≤ q → A q)
    {n : Int32} {N' : Nat} {a0 : vp_A} (ha : ∀ cA : ClassId, vp_cell cA a0 = arrV cA N' (fun _ => defaultValue ty)) (hn : ¬ n < 0) (hN : n.toNatClampNeg = N') (hbytes : N' * componentBytes ty ≤ 536870912) (hcells : cells + 1 ≤ R.cells) (hslots : slots + N' ≤ R.slots) (hdg : decode cc pc = .ok (.newarray atype, 2)) {k2 n2 : Nat} (hk2 : cells + 1 ≤ k2) (hn2 : slots + N' ≤ n2)
    (kk : ∀ (q : Nat) (H1 : Heap), va_P D cl (ws ++ [(q, .inl (cT, a0))]) H1 → va_D A (ws ++ [(q, .inl (cT, a0))]) → va_S A H0 H1 locs →
      W p l e R s m args below meth c H1 locs k2 n2 Q (F0 m (pc + 2) ls (.ref q :: rest))) : W p l e R s m args below meth c H locs cells slots Q (F0 m pc ls (.int n :: rest)) := by
  refine va_newa hexec hb harr hty hK hP hD hS hA ha hn hN hbytes hcells hslots hdg (fun q cA H1 hK1 hP1 hD1 hS1 => ?_)
  have e1 := hq _ _ (hK1.2 tys.length (cA, ty) (by rw [List.getElem?_append_right (Nat.le_refl _), Nat.sub_self]; rfl)).2
  have e2 := hq _ _ (hK.2 t0 _ ht).2
  have e3 : cA = cT := Option.some.inj (e1.symm.trans e2)
  subst e3
  exact W.widen hk2 hn2 (kk q H1 hP1 hD1 hS1)
theorem zrunI {Qc : Array Value → State → Outcome → State → Prop} (hC : zCx p s m args meth c A D tys cc own nL ret) (hP : va_P D vwCl wc H) (hD : va_D A wc)
    (hM : Met l y (Cond.code y cc' n' none :: tb_L) rm (zPre D tys wc H.size (.ref b :: As)) Qc mc ms (va_A wc H.size)) (h1 : Cond.methodLink own index y ∈ tb_L) (h2 : Cond.instanceMethod y ∈ tb_L) (h3 : Cond.code y cc' n' none ∈ tb_L) (h4 : Cond.initialized y.cls ∈ tb_L) (hy1 : y.name = "<init>") (hd : y.cls ≠ "java/lang/invoke/MethodHandle" ∧ y.cls ≠ "java/lang/invoke/VarHandle" ∧ (parseMethodDescriptor y.desc).map (fun d => d.parameters.length) = some na) (hrc : rm.cells = mc) (hrs : rm.slots = ms) (hR : rm.frames + 1 ≤ R.frames ∧ 8 + (n' + 11) + rm.locals ≤ R.locals)
    (hn : As.length = na) (hsz : ls.size = nL) (hst : st = As.reverse ++ .ref b :: rest) (hW : (rest.map fun v => v.category).sum ≤ 8) (hdg : decode cc pc = .ok (.invokespecial index, 3)) (hf : cells + mc ≤ R.cells ∧ slots + ms ≤ R.slots) :
    va_Run p l e R s m args below meth c H locs cells slots mc ms (F0 m pc ls st) rest (Qc (Value.ref b :: As).toArray) (va_A wc H.size) := by
  obtain ⟨hx, hb, hml, hown, hts, hK, -, -, -⟩ := hC
  exact va_runI (As := As) (rest := rest) (g := F0 m pc ls st) ⟨hx, hb, hml, hown, hts⟩ hM (cwI na hts (fun w hw => by rcases List.mem_cons.mp hw with rfl | hw; exact zgood h3; exact zgood hw) rfl hrc hrs (hts _ h4) (hts _ h1) (hts _ h2) hy1 hd hR) ⟨zPre.blind, fun U hU hWm => ⟨rfl, by rw [hU], by rw [hU]; exact hP, zKK.warm hWm hK, hD.weaken (fun _ _ _ _ => trivial)⟩⟩ rfl hn hsz hst (lv_room hW) hdg hf
theorem zrunIN {host : String} {Qc : Array Value → State → Outcome → State → Prop} (hC : zCx p s m args meth c A D tys cc own nL ret) (hP : va_P D vwCl wc H) (hD : va_D A wc)
    (hM : Met l y (Cond.code y cc' n' none :: tb_L) rm (zPre D tys wc H.size (.ref b :: As)) Qc mc ms (va_A wc H.size)) (h1 : va_Nw (.methodLinkNest own index y host) s) (h2 : Cond.instanceMethod y ∈ tb_L) (h3 : Cond.code y cc' n' none ∈ tb_L) (h4 : Cond.initialized y.cls ∈ tb_L) (hy1 : y.name = "<init>") (hd : y.cls ≠ "java/lang/invoke/MethodHandle" ∧ y.cls ≠ "java/lang/invoke/VarHandle" ∧ (parseMethodDescriptor y.desc).map (fun d => d.parameters.length) = some na) (hrc : rm.cells = mc) (hrs : rm.slots = ms) (hR : rm.frames + 1 ≤ R.frames ∧ 8 + (n' + 11) + rm.locals ≤ R.locals)
    (hn : As.length = na) (hsz : ls.size = nL) (hst : st = As.reverse ++ .ref b :: rest) (hW : (rest.map fun v => v.category).sum ≤ 8) (hdg : decode cc pc = .ok (.invokespecial index, 3)) (hf : cells + mc ≤ R.cells ∧ slots + ms ≤ R.slots) :
    va_Run p l e R s m args below meth c H locs cells slots mc ms (F0 m pc ls st) rest (Qc (Value.ref b :: As).toArray) (va_A wc H.size) := by
  obtain ⟨hx, hb, hml, hown, hts, hK, -, -, -⟩ := hC
  exact va_runIN (As := As) (rest := rest) (g := F0 m pc ls st) ⟨hx, hb, hml, hown, hts⟩ hM ⟨va_cnB na hts (fun w hw => by rcases List.mem_cons.mp hw with rfl | hw; exact zgood h3; exact zgood hw) rfl hrc hrs h1 (hts _ h4) hd hR, hy1, hts _ h2⟩ ⟨zPre.blind, fun U hU hWm => ⟨rfl, by rw [hU], by rw [hU]; exact hP, zKK.warm hWm hK, hD.weaken (fun _ _ _ _ => trivial)⟩⟩ rfl hn hsz hst (lv_room hW) hdg hf
/-- what a maker gives: cells at addresses that it chooses -/
def zQc (D : va_G) (A : Nat → Prop) (w1 : (Nat → Nat) → va_W) : Array Value → State → Outcome → State → Prop := va_Qv (fun (_ : Nat → Nat) => True) (fun u t => va_P D vwCl (w1 u) t.heap ∧ va_D A (w1 u)) A
theorem zthen_c {w1 : (Nat → Nat) → va_W} {a : Array Value} (hA : ∀ q, s.heap.size ≤ q → A q) (hP : va_P D vwCl ws H) (hD : va_D A ws) (hS : va_S A s.heap H locs) (isC isR : List Nat) (hCw : isC.map (fun i => ws[i]?) = wc.map some) (hRw : isR.map (fun i => ws[i]?) = wr.map some) (hn : va_nd isR = true) (hdis : ∀ i ∈ isR, i ∉ isC)
    (hr : va_Run p l e R s m args below meth c H locs cells slots mc ms (F0 m pc ls st) rest (zQc D (va_A wc H.size) w1 a) (va_A wc H.size)) {k2 n2 : Nat} (hk2 : cells + mc ≤ k2) (hn2 : slots + ms ≤ n2)
    (kk : ∀ (u : Nat → Nat) (H1 : Heap) (locs1 : List Loc), va_P D vwCl (wr ++ w1 u) H1 → va_D A (wr ++ w1 u) → va_S A s.heap H1 locs1 → W p l e R s m args below meth c H1 locs1 k2 n2 Q (F0 m (pc + 3) ls rest)) : W p l e R s m args below meth c H locs cells slots Q (F0 m pc ls st) := by
  have hF := va_free hD hS hA isC hCw
  refine va_callv hr hS (fun q _ h => hF q h) hF (fun u t H1 locs1 ht hvm hw hB hz1 hk1 hS1 => ?_)
  obtain ⟨hP1, hD1⟩ := hB
  rw [ht] at hP1
  obtain ⟨hP2, hD2⟩ := va_join hP hD isC isR hCw hRw hn hdis hk1 hF hP1 hD1
  exact W.widen hk2 hn2 (kk u H1 locs1 hP2 hD2 hS1)
theorem z_cret {w1 : (Nat → Nat) → va_W} (u : Nat → Nat) (hC : zCx p s m args meth c A D tys cc own nL none) (hP : va_P D vwCl (w1 u) H) (hD : va_D A (w1 u)) (hS : va_S A s.heap H locs) (hdg : decode cc pc = .ok (.return_, 1)) : W p l e R s m args below meth c H locs mc ms (MQ below (zQc D A w1) args s mc ms A) (F0 m pc ls []) := by
  obtain ⟨hx, hb, hml, hown, hts, hK, hr, hlocks, hA⟩ := hC
  exact W.vret hx hb hr (fun t ht _ => ⟨⟨u, rfl, trivial, by rw [ht]; exact hP, hD⟩, hS.F ht⟩) hS.2.2 hdg hlocks
end ZM
