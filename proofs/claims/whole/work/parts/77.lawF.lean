/-! THE CLAIM OUT OF ONE WALK OF THE LAW'S BODY. Your part is whole_start (and what it stands on); all else here is the same for every law, but numbers. -/
def R_law : String := "CutTreesLaw"
def lw_P (b : Addr) (xs : List Int32) (args : Array Value) (s : State) : Prop := args = #[.ref b] ∧ s.IntsAt b xs ∧ xs.length ≤ 2560 ∧ (Jvm.Cond.and given_1 narrow_1).before args s = true
def lw_Q (_ : Array Value) (s : State) (o : Outcome) (t : State) : Prop := o = .returned (some (.int 1)) ∧ Framed s o t [] 601024 7293034
def lw_Z (below : List Frame) (a : Array Value) (s : State) : State → Prop := fun t => ∃ o, t.status = .running ∧ Ended t below o ∧ lw_Q a s o t
/-- the law's own end, with 1 on the stack, nothing written that was there before, its room as the claim has it -/
theorem lw_ret {p : Program} {l : Launch} {e : Env} {s : State} {m : MethodId} {below : List Frame} {meth : Method} {c : Code} {b : Nat} (hx : p.tables.exec = Jvm.exec) (hb : c.code = code) (hr : meth.sig.returnType = ret) (hlocks : meth.locks = false) {pc : Nat} {H : Heap} {ls : Array Slot} (hdg : decode code pc = .ok (.ireturn, 1)) : W p l e room_1 s m #[Value.ref b] below meth c H [] 601024 7293034 (lw_Z below #[Value.ref b] s) (F0 m pc ls [.int 1]) := by
  intro T hT X
  obtain ⟨fs, hret, hrun, hended, hW, hframe⟩ := X.leave (v := some (.int 1)) (hlocks := hlocks) (fun h => by rw [hr] at h; cases h)
  have hmeth' : T.vm.method? m = some meth := X.method'
  refine ⟨T.setFrames fs, ?_, .returned (some (.int 1)), hrun, hended, rfl, ⟨_, rfl⟩, hW, hframe⟩
  jvm_step X.here [X.here.top, hx, hb, hdg, hmeth', hr, ret, narrow_b1]
  (try refine ⟨rfl, ?_⟩); (try refine ⟨rfl, ?_⟩)
  first | (intro acts; rw [hret _ acts rfl rfl rfl]) | rw [hret _ _ rfl rfl rfl]
  exact Steps.refl _
/-- what holds at the law's entry: the machine, the code, the tables' words (any of lw_tbl by 'hts w (by decide +kernel)'), the script of L ints xs at the cell b, what the Statement gives of the start (any of its parts by flat_of_before) -/
def lw_At (p : Program) (s : State) (m : MethodId) (meth : Method) (c : Code) (b L : Nat) (xs : Nat → Int32) : Prop :=
  p.tables.exec = Jvm.exec ∧ c.code = code ∧ meth.sig.returnType = ret ∧ c.maxLocals = 8 ∧ s.vm.findClass R_law = some m.cls ∧ (∀ w ∈ lw_tbl, w.before #[Value.ref b] s = true) ∧ va_X b L xs s s.heap ∧ b < s.heap.size ∧ meth.locks = false ∧ (Jvm.Cond.and given_1 narrow_1).before #[Value.ref b] s = true
/-! The law's world, and its calls -/
def Al (s : State) : Nat → Prop := fun q => s.heap.size ≤ q
section ZL
variable {p : Program} {l : Launch} {e : Env} {R : Room} {s : State} {m : MethodId} {args : Array Value} {below : List Frame} {meth : Method} {c : Code} {H : Heap} {locs : List Loc} {cells slots mc ms : Nat} {Q : State → Prop} {A : Nat → Prop} {D : va_G} {tys : List (ClassId × FieldType)} {cc : ByteArray} {own : String} {nL pc : Nat} {ret' : Option FieldType} {ls : Array Slot} {st rest As : List Value} {wa wb ws ws' wr : va_W}
variable {y : MethodName} {cc' : ByteArray} {n' index na : Nat} {rm : Room}
theorem zthen_1 {r : Int32} {a : Array Value} (hA : ∀ q, s.heap.size ≤ q → A q) (hP : va_P D vwCl (ws ++ wr) H) (hD : va_D A (ws ++ wr)) (hS : va_S A s.heap H locs) (hr : va_Run p l e R s m args below meth c H locs cells slots 0 0 (F0 m pc ls st) rest (zQi D (va_A ws H.size) ws' r a) (va_A ws H.size))
    (kk : ∀ (H1 : Heap) (locs1 : List Loc), va_P D vwCl (ws' ++ wr) H1 → va_D A (ws' ++ wr) → va_S A s.heap H1 locs1 → W p l e R s m args below meth c H1 locs1 cells slots Q (F0 m (pc + 3) ls (.int r :: rest))) : W p l e R s m args below meth c H locs cells slots Q (F0 m pc ls st) := by
  have hF : ∀ q, va_A ws H.size q → A q := zfree (zD_l hD) hS hA
  refine va_calli hr hS (fun q _ h => hF q h) hF (fun r1 u t H1 locs1 ht hvm hw hB hz1 hk1 hS1 => ?_)
  subst hw
  obtain ⟨hP1, hD1⟩ := hB
  rw [ht] at hP1
  obtain ⟨hP2, hD2⟩ := zjL hP hD hk1 hF hP1 hD1
  exact kk H1 locs1 hP2 hD2 hS1
theorem zP_m {cl : List vw_C} (h : va_P D cl (wa ++ (wb ++ ws)) H) : va_P D cl ws H := zP_r (zP_r h)
theorem zD_m (h : va_D A (wa ++ (wb ++ ws))) : va_D A ws := zD_r (zD_r h)
theorem zj2 {cl : List vw_C} {H1 : Heap} (hP : va_P D cl (wa ++ (wb ++ ws)) H) (hD : va_D A (wa ++ (wb ++ ws))) (hk : ∀ q : Nat, q < H.size → ¬ va_A ws H.size q → H1[q]? = H[q]?) (hF : ∀ q, va_A ws H.size q → A q) (hP1 : va_P D cl ws' H1) (hD1 : va_D (va_A ws H.size) ws') : va_P D cl (wa ++ (wb ++ ws')) H1 ∧ va_D A (wa ++ (wb ++ ws')) := by
  rw [← List.append_assoc] at hP hD
  have := zjR hP hD hk hF hP1 hD1
  rw [List.append_assoc] at this
  exact this
theorem zthen_2 {r : Int32} {a : Array Value} (hA : ∀ q, s.heap.size ≤ q → A q) (hP : va_P D vwCl (wa ++ (wb ++ ws)) H) (hD : va_D A (wa ++ (wb ++ ws))) (hS : va_S A s.heap H locs) (hr : va_Run p l e R s m args below meth c H locs cells slots 0 0 (F0 m pc ls st) rest (zQi D (va_A ws H.size) ws' r a) (va_A ws H.size))
    (kk : ∀ (H1 : Heap) (locs1 : List Loc), va_P D vwCl (wa ++ (wb ++ ws')) H1 → va_D A (wa ++ (wb ++ ws')) → va_S A s.heap H1 locs1 → W p l e R s m args below meth c H1 locs1 cells slots Q (F0 m (pc + 3) ls (.int r :: rest))) : W p l e R s m args below meth c H locs cells slots Q (F0 m pc ls st) := by
  have hF : ∀ q, va_A ws H.size q → A q := zfree (zD_m hD) hS hA
  refine va_calli hr hS (fun q _ h => hF q h) hF (fun r1 u t H1 locs1 ht hvm hw hB hz1 hk1 hS1 => ?_)
  subst hw
  obtain ⟨hP1, hD1⟩ := hB
  rw [ht] at hP1
  obtain ⟨hP2, hD2⟩ := zj2 hP hD hk1 hF hP1 hD1
  exact kk H1 locs1 hP2 hD2 hS1
theorem zthen_2l {r : Int64} {a : Array Value} (hA : ∀ q, s.heap.size ≤ q → A q) (hP : va_P D vwCl (wa ++ (wb ++ ws)) H) (hD : va_D A (wa ++ (wb ++ ws))) (hS : va_S A s.heap H locs) (hr : va_Run p l e R s m args below meth c H locs cells slots 0 0 (F0 m pc ls st) rest (zQl D (va_A ws H.size) ws' r a) (va_A ws H.size))
    (kk : ∀ (H1 : Heap) (locs1 : List Loc), va_P D vwCl (wa ++ (wb ++ ws')) H1 → va_D A (wa ++ (wb ++ ws')) → va_S A s.heap H1 locs1 → W p l e R s m args below meth c H1 locs1 cells slots Q (F0 m (pc + 3) ls (.long r :: rest))) : W p l e R s m args below meth c H locs cells slots Q (F0 m pc ls st) := by
  have hF : ∀ q, va_A ws H.size q → A q := zfree (zD_m hD) hS hA
  refine va_calll hr hS (fun q _ h => hF q h) hF (fun r1 u t H1 locs1 ht hvm hw hB hz1 hk1 hS1 => ?_)
  subst hw
  obtain ⟨hP1, hD1⟩ := hB
  rw [ht] at hP1
  obtain ⟨hP2, hD2⟩ := zj2 hP hD hk1 hF hP1 hD1
  exact kk H1 locs1 hP2 hD2 hS1
theorem zgSX {hh : List (Nat × Nat × Nat × Nat)} {maxL : Nat} (h1 : Cond.methodLink own index y ∈ tb_L) (h2 : Cond.static y ∈ tb_L) (h3 : Cond.initialized y.cls ∈ tb_L) (h4 : Cond.codeWith y cc' maxL ret' hh ∈ tb_L) : GoodIn tb_X (va_wsS own index y (Cond.codeWith y cc' maxL ret' hh :: tb_X)) := by
  intro w hw
  rcases List.mem_append.mp hw with hw | hw
  · simp only [List.mem_cons, List.not_mem_nil, or_false] at hw
    rcases hw with rfl | rfl | rfl
    · exact zgoodX (tb_X0 h1)
    · exact zgoodX (tb_X0 h2)
    · exact zgoodX (tb_X0 h3)
  · rcases List.mem_cons.mp hw with rfl | hw
    · exact zgoodX (tb_X0 h4)
    · exact zgoodX hw
/-- a call of a catcher of the law's own -/
theorem zthen_3 {cJ : ClassId} {f : Nat → Int64} {oa : Nat} {k : Int32} {r : Int64} {hh : List (Nat × Nat × Nat × Nat)} {retL : Option FieldType} (hC : zCx p s m args meth c A D tys cc own nL retL) (htx : ∀ w ∈ tb_X, w.before args s = true) (hT : zXT s) (hH : zXH A s s.heap) (hP : va_P D vwCl (wa ++ ([(oa, .inl (cJ, 1, .inr (.inl f)))] ++ ws)) H) (hD : va_D A (wa ++ ([(oa, .inl (cJ, 1, .inr (.inl f)))] ++ ws))) (hS : va_S A s.heap H locs)
    (hM : Met l y (Cond.codeWith y cc' n' (some .int) hh :: tb_X) rm (zPreX D tys (wa ++ [(oa, .inl (cJ, 1, .inr (.inl f)))]) H.size As) (zLQ D (va_A (wa ++ [(oa, .inl (cJ, 1, .inr (.inl f)))]) H.size) wa oa cJ k r) mc ms (va_A (wa ++ [(oa, .inl (cJ, 1, .inr (.inl f)))]) H.size)) (hg : GoodIn tb_X (va_wsS own index y (Cond.codeWith y cc' n' (some .int) hh :: tb_X))) (hd : y.cls ≠ "java/lang/invoke/MethodHandle" ∧ y.cls ≠ "java/lang/invoke/VarHandle" ∧ (parseMethodDescriptor y.desc).map (fun d => d.parameters.length) = some na) (hrc : rm.cells = mc) (hrs : rm.slots = ms) (hR : rm.frames + 1 ≤ R.frames ∧ 8 + (n' + 11) + rm.locals ≤ R.locals)
    (hn : As.length = na) (hsz : ls.size = nL) (hst : st = As.reverse ++ rest) (hW : (rest.map fun v => v.category).sum ≤ 8) (hdg : decode cc pc = .ok (.invokestatic index, 3)) (hf : cells + mc ≤ R.cells ∧ slots + ms ≤ R.slots)
    (kk : ∀ (f1 : Nat → Int64) (H1 : Heap) (locs1 : List Loc), (k = 0 → f1 0 = r) → va_P D vwCl (wa ++ ([(oa, .inl (cJ, 1, .inr (.inl f1)))] ++ ws)) H1 → va_D A (wa ++ ([(oa, .inl (cJ, 1, .inr (.inl f1)))] ++ ws)) → va_S A s.heap H1 locs1 → W p l e R s m args below meth c H1 locs1 (cells + mc) (slots + ms) Q (F0 m (pc + 3) ls (.int k :: rest))) : W p l e R s m args below meth c H locs cells slots Q (F0 m pc ls st) := by
  obtain ⟨hx, hb, hml, hown, hts, hK, -, -, hA⟩ := hC
  rw [← List.append_assoc] at hP hD
  have hPc := zP_l hP
  have hDc := zD_l hD
  have hF := zfree hDc hS hA
  refine va_calli (vx_runSW (hh := hh) (As := As) (rest := rest) (g := F0 m pc ls st) ⟨hx, hb, hml, hown, htx⟩ hM (vx_cwSW na htx hg rfl hrc hrs hd hR) ⟨zPreX.blind, fun U hU hWm => ⟨rfl, by rw [hU], by rw [hU]; exact hPc, zKK.warm hWm hK, hDc.weaken (fun _ _ _ _ => trivial), zXT.warm hWm hT, by rw [hU]; exact ((hH.kept hS.2.1).narrow hF).moved hWm.alike⟩⟩ rfl hn hsz hst (lv_room hW) hdg hf) hS (fun q _ h => hF q h) hF (fun r1 u t H1 locs1 ht hvm hw hB hz1 hk1 hS1 => ?_)
  obtain ⟨rfl, hw⟩ := hw
  obtain ⟨hP1, hD1⟩ := hB
  rw [ht] at hP1
  obtain ⟨hP2, hD2⟩ := zjL hP hD hk1 hF hP1 hD1
  rw [List.append_assoc] at hP2 hD2
  exact kk u H1 locs1 hw hP2 hD2 hS1
end ZL
/-- what the law's walk knows all the way -/
def zLx (p : Program) (l : Launch) (s : State) (m : MethodId) (meth : Method) (c : Code) (b L : Nat) (xs : Nat → Int32) (D : va_G) (cI cJ cZ : ClassId) : Prop :=
  l.stackTraces = false ∧ zCx p s m #[Value.ref b] meth c (Al s) D (zty cI cJ cZ) cL_law RL 8 ret ∧ (∀ w ∈ tb_X, w.before #[Value.ref b] s = true) ∧ zXT s ∧ zXH (Al s) s s.heap ∧ va_X b L xs s s.heap ∧ b < s.heap.size
/-- from this place on, whatever the two states are that the invariant ties, the law comes to its end -/
def zGo (p : Program) (l : Launch) (e : Env) (s : State) (m : MethodId) (below : List Frame) (meth : Method) (c : Code) (b : Nat) (D : va_G) (cI cJ cZ : ClassId) (h1 h2 : Nat → Nat) (oa : Nat) (x4 : Int32) (cells slots pc : Nat) : Prop := ∀ (gP : tPi) (gR : tPa) (gQ : tPa) (gT : tTr) (gE : tTe) (gM : tMe) (gS : tSq) (mG : tmG) (mH : tmH) (mR : tmR) (mW : tmW) (mS : tmS) (mK : tmK) (mD : tmD) (mN : tmN) (mO : tmO) (mB : tmB) (mM : tmM) (mF : tmF) (f : Nat → Int64) (H : Heap) (locs : List Loc) (ls : Array Slot), zI gP gQ gT gE gM mG mK mB mM → va_P D vwCl ((zWC cI cJ cZ h1 gP gR gQ gT gE gM gS) ++ ([(oa, .inl (cJ, 1, .inr (.inl f)))] ++ (zWM cI cJ cZ h2 mG mH mR mW mS mK mD mN mO mB mM mF))) H → va_D (Al s) ((zWC cI cJ cZ h1 gP gR gQ gT gE gM gS) ++ ([(oa, .inl (cJ, 1, .inr (.inl f)))] ++ (zWM cI cJ cZ h2 mG mH mR mW mS mK mD mN mO mB mM mF))) → va_S (Al s) s.heap H locs → lv_has ls 8 [(0, .ref b), (1, .ref (h1 0)), (2, .ref (h2 0)), (3, .ref oa), (4, .int x4)] → W p l e room_1 s m #[Value.ref b] below meth c H locs cells slots (lw_Z below #[Value.ref b] s) (F0 m pc ls [])
