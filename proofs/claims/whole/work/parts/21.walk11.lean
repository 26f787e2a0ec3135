set_option maxHeartbeats 4000000 in
set_option maxRecDepth 100000 in
theorem t_X8_isIn_b193 {p : Program} {l : Launch} {e : Env} {s : State} {m : MethodId} {args : Array Value} {below : List Frame} {meth : Method} {c : Code} {A : Nat → Prop} {D : va_G} {cI cJ cZ : ClassId} {h : Nat → Nat} (hC : zCx p s m args meth c A D (zty cI cJ cZ) cX8_isIn RX8 10 (some .boolean)) (N : Nat) {mG : tmG} {mH : tmH} {mR : tmR} {mW : tmW} {mS : tmS} {mK : tmK} {mD : tmD} {mN : tmN} {mO : tmO} {mB : tmB} {mM : tmM} {u : Int32 × tmF} (k22 : tmF → Int32 → Int32 → Int32 → Option (Int32 × tmF)) (hk22 : ∀ (mF : tmF) (v1 : Int32) (v2 : Int32) (v3 : Int32) (H : Heap) (locs : List Loc) (ls : Array Slot), va_P D vwCl (zWM cI cJ cZ h mG mH mR mW mS mK mD mN mO mB mM mF) H → va_D A (zWM cI cJ cZ h mG mH mR mW mS mK mD mN mO mB mM mF) → va_S A s.heap H locs → lv_has ls 10 [(0, .ref (h 0)), (1, .int v1), (2, .int v2), (3, .int v3)] → k22 mF v1 v2 v3 = some u → W p l e ({ frames := 3, cells := 0, slots := 0, locals := 85 } : Room) s m args below meth c H locs 0 0 (MQ below (zQi D A (zWM cI cJ cZ h mG mH mR mW mS mK mD mN mO mB mM u.2) (u.1)) args s 0 0 A) (F0 m 22 ls [])) : ∀ (mF : tmF) (v1 : Int32) (v2 : Int32) (v3 : Int32) (H : Heap) (locs : List Loc) (ls : Array Slot), va_P D vwCl (zWM cI cJ cZ h mG mH mR mW mS mK mD mN mO mB mM mF) H → va_D A (zWM cI cJ cZ h mG mH mR mW mS mK mD mN mO mB mM mF) → va_S A s.heap H locs → lv_has ls 10 [(0, .ref (h 0)), (1, .int v1), (2, .int v2), (3, .int v3)] → X8_isIn_b193 N k22 mG mF v1 v2 v3 = some u → W p l e ({ frames := 3, cells := 0, slots := 0, locals := 85 } : Room) s m args below meth c H locs 0 0 (MQ below (zQi D A (zWM cI cJ cZ h mG mH mR mW mS mK mD mN mO mB mM u.2) (u.1)) args s 0 0 A) (F0 m 193 ls []) := by
  intro mF v1 v2 v3 H locs ls hP hD hS hl hf
  obtain ⟨hx, hb, hml, hown, hts, hK, hr, hlocks, hA⟩ := id hC
  unfold X8_isIn_b193 at hf
  refine lv_iinc (v := (v3 + (1 : Int32))) (lv' := [(3, .int (v3 + (1 : Int32))), (0, .ref (h 0)), (1, .int v1), (2, .int v2)]) hx hb dX8_isIn_193 hl (k := 3) rfl rfl (by decide) rfl (fun ls hl => ?_)
  refine lv_goto (tgt := 22) hx hb dX8_isIn_196 (by decide) ?_
  exact hk22 mF v1 v2 (v3 + (1 : Int32)) H locs ls hP hD hS (lv_sub hl [1, 2, 3, 0] rfl) hf
set_option maxHeartbeats 4000000 in
set_option maxRecDepth 100000 in
theorem t_X8_isIn_b163 {p : Program} {l : Launch} {e : Env} {s : State} {m : MethodId} {args : Array Value} {below : List Frame} {meth : Method} {c : Code} {A : Nat → Prop} {D : va_G} {cI cJ cZ : ClassId} {h : Nat → Nat} (hC : zCx p s m args meth c A D (zty cI cJ cZ) cX8_isIn RX8 10 (some .boolean)) (N : Nat) {mG : tmG} {mH : tmH} {mR : tmR} {mW : tmW} {mS : tmS} {mK : tmK} {mD : tmD} {mN : tmN} {mO : tmO} {mB : tmB} {mM : tmM} {u : Int32 × tmF} (k22 : tmF → Int32 → Int32 → Int32 → Option (Int32 × tmF)) (hk22 : ∀ (mF : tmF) (v1 : Int32) (v2 : Int32) (v3 : Int32) (H : Heap) (locs : List Loc) (ls : Array Slot), va_P D vwCl (zWM cI cJ cZ h mG mH mR mW mS mK mD mN mO mB mM mF) H → va_D A (zWM cI cJ cZ h mG mH mR mW mS mK mD mN mO mB mM mF) → va_S A s.heap H locs → lv_has ls 10 [(0, .ref (h 0)), (1, .int v1), (2, .int v2), (3, .int v3)] → k22 mF v1 v2 v3 = some u → W p l e ({ frames := 3, cells := 0, slots := 0, locals := 85 } : Room) s m args below meth c H locs 0 0 (MQ below (zQi D A (zWM cI cJ cZ h mG mH mR mW mS mK mD mN mO mB mM u.2) (u.1)) args s 0 0 A) (F0 m 22 ls [])) : ∀ (mF : tmF) (v1 : Int32) (v2 : Int32) (v3 : Int32) (v6 : Int64) (v8 : Int64) (s0 : Int32) (s1 : Int32) (H : Heap) (locs : List Loc) (ls : Array Slot), va_P D vwCl (zWM cI cJ cZ h mG mH mR mW mS mK mD mN mO mB mM mF) H → va_D A (zWM cI cJ cZ h mG mH mR mW mS mK mD mN mO mB mM mF) → va_S A s.heap H locs → lv_has ls 10 [(0, .ref (h 0)), (1, .int v1), (2, .int v2), (3, .int v3), (6, .long v6), (8, .long v8)] → X8_isIn_b163 N k22 mG mF v1 v2 v3 v6 v8 s0 s1 = some u → W p l e ({ frames := 3, cells := 0, slots := 0, locals := 85 } : Room) s m args below meth c H locs 0 0 (MQ below (zQi D A (zWM cI cJ cZ h mG mH mR mW mS mK mD mN mO mB mM u.2) (u.1)) args s 0 0 A) (F0 m 163 ls [.int s0, .int s1]) := by
  intro mF v1 v2 v3 v6 v8 s0 s1 H locs ls hP hD hS hl hf
  obtain ⟨hx, hb, hml, hown, hts, hK, hr, hlocks, hA⟩ := id hC
  unfold X8_isIn_b163 at hf
  refine lv_icmp_ne (tgt := 181) hx hb dX8_isIn_163 (by decide) (fun c1 => ?_) (fun c1 => ?_)
  · replace hf := zif_f hf c1
    refine lv_aload_n hx hb dX8_isIn_181 rfl (lv_at hl 0 rfl) ?_
    refine lv_lload hx hb dX8_isIn_182 (lv_at hl 4 rfl) ?_
    refine va_put (D := D) (ci := 8) (v := .long v6) (ty := .long) (C := RX8) (T := TX8) (N := 56) hx hb hts tb_wsX80 tyX8 tyX8_ok nmX8 hown hK.1 hP hD hS 0 rfl rfl 52 (by decide) (hts _ tb_26_11) (fun _ h9 => h9) rfl (by decide +kernel) rfl rfl (Nat.le_of_ble_eq_true rfl) dX8_isIn_184 (fun H locs hP hD hS => ?_)
    replace hP : va_P D vwCl (zWM cI cJ cZ h mG mH mR mW mS mK mD mN mO mB mM (tmF.s_inUp mF v6)) H := hP
    replace hD : va_D A (zWM cI cJ cZ h mG mH mR mW mS mK mD mN mO mB mM (tmF.s_inUp mF v6)) := hD
    refine lv_aload_n hx hb dX8_isIn_187 rfl (lv_at hl 0 rfl) ?_
    refine lv_lload hx hb dX8_isIn_188 (lv_at hl 5 rfl) ?_
    refine va_put (D := D) (ci := 8) (v := .long v8) (ty := .long) (C := RX8) (T := TX8) (N := 56) hx hb hts tb_wsX80 tyX8 tyX8_ok nmX8 hown hK.1 hP hD hS 0 rfl rfl 53 (by decide) (hts _ tb_26_12) (fun _ h9 => h9) rfl (by decide +kernel) rfl rfl (Nat.le_of_ble_eq_true rfl) dX8_isIn_190 (fun H locs hP hD hS => ?_)
    replace hP : va_P D vwCl (zWM cI cJ cZ h mG mH mR mW mS mK mD mN mO mB mM (tmF.s_inLow (tmF.s_inUp mF v6) v8)) H := hP
    replace hD : va_D A (zWM cI cJ cZ h mG mH mR mW mS mK mD mN mO mB mM (tmF.s_inLow (tmF.s_inUp mF v6) v8)) := hD
    exact t_X8_isIn_b193 hC N k22 hk22  (tmF.s_inLow (tmF.s_inUp mF v6) v8) v1 v2 v3 H locs ls hP hD hS (lv_sub hl [0, 1, 2, 3] rfl) hf
  · replace hf := zif_t hf c1
    refine lv_aload_n hx hb dX8_isIn_166 rfl (lv_at hl 0 rfl) ?_
    refine lv_lload hx hb dX8_isIn_167 (lv_at hl 4 rfl) ?_
    refine va_put (D := D) (ci := 8) (v := .long v6) (ty := .long) (C := RX8) (T := TX8) (N := 56) hx hb hts tb_wsX80 tyX8 tyX8_ok nmX8 hown hK.1 hP hD hS 0 rfl rfl 54 (by decide) (hts _ tb_26_13) (fun _ h9 => h9) rfl (by decide +kernel) rfl rfl (Nat.le_of_ble_eq_true rfl) dX8_isIn_169 (fun H locs hP hD hS => ?_)
    replace hP : va_P D vwCl (zWM cI cJ cZ h mG mH mR mW mS mK mD mN mO mB mM (tmF.s_inUp2 mF v6)) H := hP
    replace hD : va_D A (zWM cI cJ cZ h mG mH mR mW mS mK mD mN mO mB mM (tmF.s_inUp2 mF v6)) := hD
    refine lv_aload_n hx hb dX8_isIn_172 rfl (lv_at hl 0 rfl) ?_
    refine lv_lload hx hb dX8_isIn_173 (lv_at hl 5 rfl) ?_
    refine va_put (D := D) (ci := 8) (v := .long v8) (ty := .long) (C := RX8) (T := TX8) (N := 56) hx hb hts tb_wsX80 tyX8 tyX8_ok nmX8 hown hK.1 hP hD hS 0 rfl rfl 55 (by decide) (hts _ tb_26_14) (fun _ h9 => h9) rfl (by decide +kernel) rfl rfl (Nat.le_of_ble_eq_true rfl) dX8_isIn_175 (fun H locs hP hD hS => ?_)
    replace hP : va_P D vwCl (zWM cI cJ cZ h mG mH mR mW mS mK mD mN mO mB mM (tmF.s_inLow2 (tmF.s_inUp2 mF v6) v8)) H := hP
    replace hD : va_D A (zWM cI cJ cZ h mG mH mR mW mS mK mD mN mO mB mM (tmF.s_inLow2 (tmF.s_inUp2 mF v6) v8)) := hD
    refine lv_goto (tgt := 193) hx hb dX8_isIn_178 (by decide) ?_
    exact t_X8_isIn_b193 hC N k22 hk22  (tmF.s_inLow2 (tmF.s_inUp2 mF v6) v8) v1 v2 v3 H locs ls hP hD hS (lv_sub hl [0, 1, 2, 3] rfl) hf
set_option maxHeartbeats 4000000 in
set_option maxRecDepth 100000 in
theorem t_X8_isIn_b152 {p : Program} {l : Launch} {e : Env} {s : State} {m : MethodId} {args : Array Value} {below : List Frame} {meth : Method} {c : Code} {A : Nat → Prop} {D : va_G} {cI cJ cZ : ClassId} {h : Nat → Nat} (hC : zCx p s m args meth c A D (zty cI cJ cZ) cX8_isIn RX8 10 (some .boolean)) (N : Nat) {mG : tmG} {mH : tmH} {mR : tmR} {mW : tmW} {mS : tmS} {mK : tmK} {mD : tmD} {mN : tmN} {mO : tmO} {mB : tmB} {mM : tmM} {u : Int32 × tmF} (k22 : tmF → Int32 → Int32 → Int32 → Option (Int32 × tmF)) (hk22 : ∀ (mF : tmF) (v1 : Int32) (v2 : Int32) (v3 : Int32) (H : Heap) (locs : List Loc) (ls : Array Slot), va_P D vwCl (zWM cI cJ cZ h mG mH mR mW mS mK mD mN mO mB mM mF) H → va_D A (zWM cI cJ cZ h mG mH mR mW mS mK mD mN mO mB mM mF) → va_S A s.heap H locs → lv_has ls 10 [(0, .ref (h 0)), (1, .int v1), (2, .int v2), (3, .int v3)] → k22 mF v1 v2 v3 = some u → W p l e ({ frames := 3, cells := 0, slots := 0, locals := 85 } : Room) s m args below meth c H locs 0 0 (MQ below (zQi D A (zWM cI cJ cZ h mG mH mR mW mS mK mD mN mO mB mM u.2) (u.1)) args s 0 0 A) (F0 m 22 ls [])) : ∀ (mF : tmF) (v1 : Int32) (v2 : Int32) (v3 : Int32) (v4 : Int32) (v6 : Int64) (v8 : Int64) (s0 : Int32) (H : Heap) (locs : List Loc) (ls : Array Slot), va_P D vwCl (zWM cI cJ cZ h mG mH mR mW mS mK mD mN mO mB mM mF) H → va_D A (zWM cI cJ cZ h mG mH mR mW mS mK mD mN mO mB mM mF) → va_S A s.heap H locs → lv_has ls 10 [(0, .ref (h 0)), (1, .int v1), (2, .int v2), (3, .int v3), (4, .int v4), (6, .long v6), (8, .long v8)] → X8_isIn_b152 N k22 mG mF v1 v2 v3 v4 v6 v8 s0 = some u → W p l e ({ frames := 3, cells := 0, slots := 0, locals := 85 } : Room) s m args below meth c H locs 0 0 (MQ below (zQi D A (zWM cI cJ cZ h mG mH mR mW mS mK mD mN mO mB mM u.2) (u.1)) args s 0 0 A) (F0 m 152 ls [.int s0]) := by
  intro mF v1 v2 v3 v4 v6 v8 s0 H locs ls hP hD hS hl hf
  obtain ⟨hx, hb, hml, hown, hts, hK, hr, hlocks, hA⟩ := id hC
  unfold X8_isIn_b152 at hf
  refine lv_iload hx hb dX8_isIn_152 (lv_at hl 4 rfl) ?_
  refine lv_iconst (v := 1) hx hb dX8_isIn_154 (by decide) ?_
  refine lv_icmp_ne (tgt := 162) hx hb dX8_isIn_155 (by decide) (fun c2 => ?_) (fun c2 => ?_)
  · replace hf := zif_f hf c2
    refine lv_iconst (v := 0) hx hb dX8_isIn_162 (by decide) ?_
    exact t_X8_isIn_b163 hC N k22 hk22  mF v1 v2 v3 v6 v8 (0 : Int32) s0 H locs ls hP hD hS (lv_sub hl [0, 1, 2, 3, 5, 6] rfl) hf
  · replace hf := zif_t hf c2
    refine lv_iconst (v := 1) hx hb dX8_isIn_158 (by decide) ?_
    refine lv_goto (tgt := 163) hx hb dX8_isIn_159 (by decide) ?_
    exact t_X8_isIn_b163 hC N k22 hk22  mF v1 v2 v3 v6 v8 (1 : Int32) s0 H locs ls hP hD hS (lv_sub hl [0, 1, 2, 3, 5, 6] rfl) hf
set_option maxHeartbeats 4000000 in
set_option maxRecDepth 100000 in
theorem t_X8_isIn_b141 {p : Program} {l : Launch} {e : Env} {s : State} {m : MethodId} {args : Array Value} {below : List Frame} {meth : Method} {c : Code} {A : Nat → Prop} {D : va_G} {cI cJ cZ : ClassId} {h : Nat → Nat} (hC : zCx p s m args meth c A D (zty cI cJ cZ) cX8_isIn RX8 10 (some .boolean)) (N : Nat) {mG : tmG} {mH : tmH} {mR : tmR} {mW : tmW} {mS : tmS} {mK : tmK} {mD : tmD} {mN : tmN} {mO : tmO} {mB : tmB} {mM : tmM} {u : Int32 × tmF} (k22 : tmF → Int32 → Int32 → Int32 → Option (Int32 × tmF)) (hk22 : ∀ (mF : tmF) (v1 : Int32) (v2 : Int32) (v3 : Int32) (H : Heap) (locs : List Loc) (ls : Array Slot), va_P D vwCl (zWM cI cJ cZ h mG mH mR mW mS mK mD mN mO mB mM mF) H → va_D A (zWM cI cJ cZ h mG mH mR mW mS mK mD mN mO mB mM mF) → va_S A s.heap H locs → lv_has ls 10 [(0, .ref (h 0)), (1, .int v1), (2, .int v2), (3, .int v3)] → k22 mF v1 v2 v3 = some u → W p l e ({ frames := 3, cells := 0, slots := 0, locals := 85 } : Room) s m args below meth c H locs 0 0 (MQ below (zQi D A (zWM cI cJ cZ h mG mH mR mW mS mK mD mN mO mB mM u.2) (u.1)) args s 0 0 A) (F0 m 22 ls [])) : ∀ (mF : tmF) (v1 : Int32) (v2 : Int32) (v3 : Int32) (v4 : Int32) (v5 : Int32) (v6 : Int64) (v8 : Int64) (H : Heap) (locs : List Loc) (ls : Array Slot), va_P D vwCl (zWM cI cJ cZ h mG mH mR mW mS mK mD mN mO mB mM mF) H → va_D A (zWM cI cJ cZ h mG mH mR mW mS mK mD mN mO mB mM mF) → va_S A s.heap H locs → lv_has ls 10 [(0, .ref (h 0)), (1, .int v1), (2, .int v2), (3, .int v3), (4, .int v4), (5, .int v5), (6, .long v6), (8, .long v8)] → X8_isIn_b141 N k22 mG mF v1 v2 v3 v4 v5 v6 v8 = some u → W p l e ({ frames := 3, cells := 0, slots := 0, locals := 85 } : Room) s m args below meth c H locs 0 0 (MQ below (zQi D A (zWM cI cJ cZ h mG mH mR mW mS mK mD mN mO mB mM u.2) (u.1)) args s 0 0 A) (F0 m 141 ls []) := by
  intro mF v1 v2 v3 v4 v5 v6 v8 H locs ls hP hD hS hl hf
  obtain ⟨hx, hb, hml, hown, hts, hK, hr, hlocks, hA⟩ := id hC
  unfold X8_isIn_b141 at hf
  refine lv_iload hx hb dX8_isIn_141 (lv_at hl 5 rfl) ?_
  refine lv_iconst (v := 3) hx hb dX8_isIn_143 (by decide) ?_
  refine lv_icmp_ne (tgt := 151) hx hb dX8_isIn_144 (by decide) (fun c3 => ?_) (fun c3 => ?_)
  · replace hf := zif_f hf c3
    refine lv_iconst (v := 0) hx hb dX8_isIn_151 (by decide) ?_
    exact t_X8_isIn_b152 hC N k22 hk22  mF v1 v2 v3 v4 v6 v8 (0 : Int32) H locs ls hP hD hS (lv_sub hl [0, 1, 2, 3, 4, 6, 7] rfl) hf
  · replace hf := zif_t hf c3
    refine lv_iconst (v := 1) hx hb dX8_isIn_147 (by decide) ?_
    refine lv_goto (tgt := 152) hx hb dX8_isIn_148 (by decide) ?_
    exact t_X8_isIn_b152 hC N k22 hk22  mF v1 v2 v3 v4 v6 v8 (1 : Int32) H locs ls hP hD hS (lv_sub hl [0, 1, 2, 3, 4, 6, 7] rfl) hf
set_option maxHeartbeats 4000000 in
set_option maxRecDepth 100000 in
theorem t_X8_isIn_b22 {p : Program} {l : Launch} {e : Env} {s : State} {m : MethodId} {args : Array Value} {below : List Frame} {meth : Method} {c : Code} {A : Nat → Prop} {D : va_G} {cI cJ cZ : ClassId} {h : Nat → Nat} (hC : zCx p s m args meth c A D (zty cI cJ cZ) cX8_isIn RX8 10 (some .boolean)) (N : Nat) (mG : tmG) (mH : tmH) (mR : tmR) (mW : tmW) (mS : tmS) (mK : tmK) (mD : tmD) (mN : tmN) (mO : tmO) (mB : tmB) (mM : tmM) (u : Int32 × tmF) : ∀ (n : Nat) (mF : tmF) (v1 : Int32) (v2 : Int32) (v3 : Int32) (H : Heap) (locs : List Loc) (ls : Array Slot), va_P D vwCl (zWM cI cJ cZ h mG mH mR mW mS mK mD mN mO mB mM mF) H → va_D A (zWM cI cJ cZ h mG mH mR mW mS mK mD mN mO mB mM mF) → va_S A s.heap H locs → lv_has ls 10 [(0, .ref (h 0)), (1, .int v1), (2, .int v2), (3, .int v3)] → X8_isIn_b22 N mG n mF v1 v2 v3 = some u → W p l e ({ frames := 3, cells := 0, slots := 0, locals := 85 } : Room) s m args below meth c H locs 0 0 (MQ below (zQi D A (zWM cI cJ cZ h mG mH mR mW mS mK mD mN mO mB mM u.2) (u.1)) args s 0 0 A) (F0 m 22 ls []) := by
  intro n
  induction n with
  | zero =>
    intro mF v1 v2 v3 H locs ls hP hD hS hl hf
    cases hf
  | succ n ih =>
    intro mF v1 v2 v3 H locs ls hP hD hS hl hf
    obtain ⟨hx, hb, hml, hown, hts, hK, hr, hlocks, hA⟩ := id hC
    rw [X8_isIn_b22] at hf
    refine lv_iload_n hx hb dX8_isIn_22 rfl (lv_at hl 3 rfl) ?_
    refine lv_aload_n hx hb dX8_isIn_23 rfl (lv_at hl 0 rfl) ?_
    refine va_get (D := D) (ci := 8) (v := .int (tmG.pieces mG)) (C := RX8) (T := TX8) (N := 56) hx hb hts tb_wsX80 hown hK.1 hP 0 rfl rfl 0 (by decide) (hts _ tb_8_4) (fun _ h9 => h9) rfl dX8_isIn_24 ?_
    refine lv_icmp_ge (tgt := 199) hx hb dX8_isIn_27 (by decide) (fun c4 => ?_) (fun c4 => ?_)
    · replace hf := zif_t hf c4
      refine lv_iconst (v := 1) hx hb dX8_isIn_199 (by decide) ?_
      obtain ⟨h5, hf⟩ := zcb_s hf
      have hu := Option.some.inj hf
      subst hu
      exact z_zret hC h5 hP hD hS dX8_isIn_200
    · replace hf := zif_f hf c4
      refine lv_iload_n hx hb dX8_isIn_30 rfl (lv_at hl 2 rfl) ?_
      refine lv_iload_n hx hb dX8_isIn_31 rfl (lv_at hl 3 rfl) ?_
      obtain ⟨u6, hu6, hf⟩ := zbd hf
      refine zthen_i hA hD hS (zrunS (As := [.int v2, .int v3]) (rest := []) hC hP hD (c_X8_digit l D cI cJ cZ h N mG mH mR mW mS mK mD mN mO mB mM mF v2 v3 u6 hu6 H.size) kRX8_273 rfl rfl ⟨by decide, by decide⟩ rfl hl.1 rfl (Nat.le_of_ble_eq_true rfl) dX8_isIn_32) (fun H locs hP hD hS => ?_)
      refine lv_istore (lv' := [(4, .int u6), (0, .ref (h 0)), (1, .int v1), (2, .int v2), (3, .int v3)]) hx hb dX8_isIn_35 hl (by decide) rfl (fun ls hl => ?_)
      refine lv_iload hx hb dX8_isIn_37 (lv_at hl 0 rfl) ?_
      refine lv_if_ne (tgt := 45) hx hb dX8_isIn_39 (by decide) (fun c7 => ?_) (fun c7 => ?_)
      · replace hf := zif_f hf c7
        refine lv_aload_n hx hb dX8_isIn_45 rfl (lv_at hl 1 rfl) ?_
        refine lv_iload_n hx hb dX8_isIn_46 rfl (lv_at hl 4 rfl) ?_
        refine lv_iload_n hx hb dX8_isIn_47 rfl (lv_at hl 2 rfl) ?_
        refine lv_aload_n hx hb dX8_isIn_48 rfl (lv_at hl 1 rfl) ?_
        refine va_get (D := D) (ci := 8) (v := .long (tmF.inUp mF)) (C := RX8) (T := TX8) (N := 56) hx hb hts tb_wsX80 hown hK.1 hP 0 rfl rfl 52 (by decide) (hts _ tb_26_11) (fun _ h9 => h9) rfl dX8_isIn_49 ?_
        refine lv_aload_n hx hb dX8_isIn_52 rfl (lv_at hl 1 rfl) ?_
        refine va_get (D := D) (ci := 8) (v := .long (tmF.inLow mF)) (C := RX8) (T := TX8) (N := 56) hx hb hts tb_wsX80 hown hK.1 hP 0 rfl rfl 53 (by decide) (hts _ tb_26_12) (fun _ h9 => h9) rfl dX8_isIn_53 ?_
        refine lv_aload_n hx hb dX8_isIn_56 rfl (lv_at hl 1 rfl) ?_
        refine va_get (D := D) (ci := 8) (v := .long (tmF.inUp2 mF)) (C := RX8) (T := TX8) (N := 56) hx hb hts tb_wsX80 hown hK.1 hP 0 rfl rfl 54 (by decide) (hts _ tb_26_13) (fun _ h9 => h9) rfl dX8_isIn_57 ?_
        refine lv_aload_n hx hb dX8_isIn_60 rfl (lv_at hl 1 rfl) ?_
        refine va_get (D := D) (ci := 8) (v := .long (tmF.inLow2 mF)) (C := RX8) (T := TX8) (N := 56) hx hb hts tb_wsX80 hown hK.1 hP 0 rfl rfl 55 (by decide) (hts _ tb_26_14) (fun _ h9 => h9) rfl dX8_isIn_61 ?_
        obtain ⟨u8, hu8, hf⟩ := zbd hf
        refine zthen_i hA hD hS (zrunV (As := [.int v3, .int v1, .long (tmF.inUp mF), .long (tmF.inLow mF), .long (tmF.inUp2 mF), .long (tmF.inLow2 mF)]) (rest := []) hC hP hD 0 rfl rfl (c_X8_does l D cI cJ cZ h  mG mH mR mW mS mK mD mN mO mB mM mF v3 v1 (tmF.inUp mF) (tmF.inLow mF) (tmF.inUp2 mF) (tmF.inLow2 mF) u8 hu8 H.size) kRX8_165 rfl rfl ⟨by decide, by decide⟩ rfl hl.1 rfl (Nat.le_of_ble_eq_true rfl) dX8_isIn_64) (fun H locs hP hD hS => ?_)
        refine lv_istore (lv' := [(5, .int u8), (4, .int u6), (0, .ref (h 0)), (1, .int v1), (2, .int v2), (3, .int v3)]) hx hb dX8_isIn_67 hl (by decide) rfl (fun ls hl => ?_)
        refine lv_iload hx hb dX8_isIn_69 (lv_at hl 0 rfl) ?_
        refine lv_if_eq (tgt := 83) hx hb dX8_isIn_71 (by decide) (fun c9 => ?_) (fun c9 => ?_)
        · replace hf := zif_t hf c9
          refine lv_iconst (v := 0) hx hb dX8_isIn_83 (by decide) ?_
          obtain ⟨h10, hf⟩ := zcb_s hf
          have hu := Option.some.inj hf
          subst hu
          exact z_zret hC h10 hP hD hS dX8_isIn_84
        · replace hf := zif_f hf c9
          refine lv_iload hx hb dX8_isIn_74 (lv_at hl 0 rfl) ?_
          refine lv_iconst (v := 3) hx hb dX8_isIn_76 (by decide) ?_
          refine lv_iload hx hb dX8_isIn_77 (lv_at hl 1 rfl) ?_
          refine lv_isub hx hb dX8_isIn_79 ?_
          refine lv_icmp_ne (tgt := 85) hx hb dX8_isIn_80 (by decide) (fun c11 => ?_) (fun c11 => ?_)
          · replace hf := zif_f hf c11
            refine lv_iload hx hb dX8_isIn_85 (lv_at hl 0 rfl) ?_
            refine lv_iconst (v := 3) hx hb dX8_isIn_87 (by decide) ?_
            refine lv_icmp_ge (tgt := 94) hx hb dX8_isIn_88 (by decide) (fun c12 => ?_) (fun c12 => ?_)
            · replace hf := zif_t hf c12
              refine lv_aload_n hx hb dX8_isIn_94 rfl (lv_at hl 2 rfl) ?_
              refine lv_iload_n hx hb dX8_isIn_95 rfl (lv_at hl 5 rfl) ?_
              refine lv_aload_n hx hb dX8_isIn_96 rfl (lv_at hl 2 rfl) ?_
              refine va_get (D := D) (ci := 8) (v := .ref (h 1)) (C := RX8) (T := TX8) (N := 56) hx hb hts tb_wsX80 hown hK.1 hP 0 rfl rfl 1 (by decide) (hts _ tb_5_6) (fun _ h9 => h9) rfl dX8_isIn_97 ?_
              refine lv_iload_n hx hb dX8_isIn_100 rfl (lv_at hl 3 rfl) ?_
              obtain ⟨h13, hf⟩ := zck_s hf
              refine va_iald hx hb hK.1 hP 1 0 rfl rfl h13 dX8_isIn_101 ?_
              refine lv_i2l (v := (((tmG.px mG) v1.toNatClampNeg)).toInt64) hx hb dX8_isIn_102 rfl ?_
              refine lv_aload_n hx hb dX8_isIn_103 rfl (lv_at hl 2 rfl) ?_
              refine va_get (D := D) (ci := 8) (v := .ref (h 2)) (C := RX8) (T := TX8) (N := 56) hx hb hts tb_wsX80 hown hK.1 hP 0 rfl rfl 2 (by decide) (hts _ tb_5_7) (fun _ h9 => h9) rfl dX8_isIn_104 ?_
              refine lv_iload_n hx hb dX8_isIn_107 rfl (lv_at hl 3 rfl) ?_
              obtain ⟨h14, hf⟩ := zck_s hf
              refine va_iald hx hb hK.1 hP 2 0 rfl rfl h14 dX8_isIn_108 ?_
              refine lv_i2l (v := (((tmG.py mG) v1.toNatClampNeg)).toInt64) hx hb dX8_isIn_109 rfl ?_
              obtain ⟨u15, hu15, hf⟩ := zbd hf
              refine zthen_l hA hD hS (zrunV (As := [.int v3, .long ((((tmG.px mG) v1.toNatClampNeg)).toInt64), .long ((((tmG.py mG) v1.toNatClampNeg)).toInt64)]) (rest := []) hC hP hD 0 rfl rfl (c_X8_side l D cI cJ cZ h  mG mH mR mW mS mK mD mN mO mB mM mF v3 ((((tmG.px mG) v1.toNatClampNeg)).toInt64) ((((tmG.py mG) v1.toNatClampNeg)).toInt64) u15 hu15 H.size) kRX8_153 rfl rfl ⟨by decide, by decide⟩ rfl hl.1 rfl (Nat.le_of_ble_eq_true rfl) dX8_isIn_110) (fun H locs hP hD hS => ?_)
              refine lv_lneg hx hb dX8_isIn_113 ?_
              refine lv_topl (fun x16 ex16 => ?_)
              replace hf := zl_n ex16 hf
              refine lv_lstore (lv' := [(6, .long x16), (5, .int u8), (4, .int u6), (0, .ref (h 0)), (1, .int v1), (2, .int v2), (3, .int v3)]) hx hb dX8_isIn_114 hl (by decide) rfl (fun ls hl => ?_)
              refine lv_aload_n hx hb dX8_isIn_116 rfl (lv_at hl 3 rfl) ?_
              refine lv_iload_n hx hb dX8_isIn_117 rfl (lv_at hl 6 rfl) ?_
              refine lv_iload_n hx hb dX8_isIn_118 rfl (lv_at hl 4 rfl) ?_
              obtain ⟨u17, hu17, hf⟩ := zbd hf
              refine zthen_l hA hD hS (zrunV (As := [.int v3, .int v1]) (rest := []) hC hP hD 0 rfl rfl (c_X8_slope l D cI cJ cZ h  mG mH mR mW mS mK mD mN mO mB mM mF v3 v1 u17 hu17 H.size) kRX8_157 rfl rfl ⟨by decide, by decide⟩ rfl hl.1 rfl (Nat.le_of_ble_eq_true rfl) dX8_isIn_119) (fun H locs hP hD hS => ?_)
              refine lv_lstore (lv' := [(8, .long u17), (6, .long x16), (5, .int u8), (4, .int u6), (0, .ref (h 0)), (1, .int v1), (2, .int v2), (3, .int v3)]) hx hb dX8_isIn_122 hl (by decide) rfl (fun ls hl => ?_)
              refine lv_lload hx hb dX8_isIn_124 (lv_at hl 0 rfl) ?_
              refine lv_lconst (v := 0) hx hb dX8_isIn_126 (by decide) ?_
              refine W.lcmp hx hb dX8_isIn_127 ?_
              refine lv_if_ge (tgt := 141) hx hb dX8_isIn_128 (by decide) (fun c18 => ?_) (fun c18 => ?_)
              · replace hf := zif_t hf c18
                exact t_X8_isIn_b141 hC N (X8_isIn_b22 N mG n) ih  mF v1 v2 v3 u6 u8 x16 u17 H locs ls hP hD hS (lv_sub hl [4, 5, 6, 7, 3, 2, 1, 0] rfl) hf
              · replace hf := zif_f hf c18
                refine lv_lload hx hb dX8_isIn_131 (lv_at hl 1 rfl) ?_
                refine lv_lneg hx hb dX8_isIn_133 ?_
                refine lv_topl (fun x19 ex19 => ?_)
                replace hf := zl_n ex19 hf
                refine lv_lstore (lv' := [(6, .long x19), (8, .long u17), (5, .int u8), (4, .int u6), (0, .ref (h 0)), (1, .int v1), (2, .int v2), (3, .int v3)]) hx hb dX8_isIn_134 hl (by decide) rfl (fun ls hl => ?_)
                refine lv_lload hx hb dX8_isIn_136 (lv_at hl 1 rfl) ?_
                refine lv_lneg hx hb dX8_isIn_138 ?_
                refine lv_topl (fun x20 ex20 => ?_)
                replace hf := zl_n ex20 hf
                refine lv_lstore (lv' := [(8, .long x20), (6, .long x19), (5, .int u8), (4, .int u6), (0, .ref (h 0)), (1, .int v1), (2, .int v2), (3, .int v3)]) hx hb dX8_isIn_139 hl (by decide) rfl (fun ls hl => ?_)
                exact t_X8_isIn_b141 hC N (X8_isIn_b22 N mG n) ih  mF v1 v2 v3 u6 u8 x19 x20 H locs ls hP hD hS (lv_sub hl [4, 5, 6, 7, 3, 2, 1, 0] rfl) hf
            · replace hf := zif_f hf c12
              refine lv_goto (tgt := 193) hx hb dX8_isIn_91 (by decide) ?_
              exact t_X8_isIn_b193 hC N (X8_isIn_b22 N mG n) ih  mF v1 v2 v3 H locs ls hP hD hS (lv_sub hl [2, 3, 4, 5] rfl) hf
          · replace hf := zif_t hf c11
            refine lv_iconst (v := 0) hx hb dX8_isIn_83 (by decide) ?_
            obtain ⟨h21, hf⟩ := zcb_s hf
            have hu := Option.some.inj hf
            subst hu
            exact z_zret hC h21 hP hD hS dX8_isIn_84
      · replace hf := zif_t hf c7
        refine lv_goto (tgt := 193) hx hb dX8_isIn_42 (by decide) ?_
        exact t_X8_isIn_b193 hC N (X8_isIn_b22 N mG n) ih  mF v1 v2 v3 H locs ls hP hD hS (lv_sub hl [1, 2, 3, 4] rfl) hf
set_option maxHeartbeats 4000000 in
set_option maxRecDepth 100000 in
theorem c_X8_isIn (l : Launch) (D : va_G) (cI cJ cZ : ClassId) (h : Nat → Nat) (N : Nat) (mG : tmG) (mH : tmH) (mR : tmR) (mW : tmW) (mS : tmS) (mK : tmK) (mD : tmD) (mN : tmN) (mO : tmO) (mB : tmB) (mM : tmM) (mF : tmF) (a1 : Int32) (a2 : Int32) (u : Int32 × tmF) (hf : X8_isIn N mG mF a1 a2 = some u) (sz : Nat) : Met l yX8_isIn (Cond.code yX8_isIn cX8_isIn 10 (some .boolean) :: tb_L) ({ frames := 3, cells := 0, slots := 0, locals := 85 } : Room) (zPre D (zty cI cJ cZ) (zWM cI cJ cZ h mG mH mR mW mS mK mD mN mO mB mM mF) sz [.ref (h 0), .int a1, .int a2]) (zQi D (va_A (zWM cI cJ cZ h mG mH mR mW mS mK mD mN mO mB mM mF) sz) (zWM cI cJ cZ h mG mH mR mW mS mK mD mN mO mB mM u.2) (u.1)) 0 0 (va_A (zWM cI cJ cZ h mG mH mR mW mS mK mD mN mO mB mM mF) sz) := by
  refine zMet (Qc := fun A => zQi D A (zWM cI cJ cZ h mG mH mR mW mS mK mD mN mO mB mM u.2) (u.1)) (by decide) rfl (Nat.le_of_ble_eq_true rfl) ?_
  intro p e s m args below meth c A ls hC _ hP hD hS hl
  replace hl : lv_has ls 10 [(0, .ref (h 0)), (1, .int a1), (2, .int a2)] := hl
  obtain ⟨hx, hb, hml, hown, hts, hK, hr, hlocks, hA⟩ := id hC
  unfold X8_isIn at hf
  obtain ⟨H, hH⟩ : ∃ H, H = s.heap := ⟨_, rfl⟩
  rw [← hH] at hP
  replace hS : va_S A s.heap H [] := by rw [hH]; exact hS
  show W p l e _ s m args below meth c s.heap [] 0 0 _ _
  rw [← hH]
  clear hH
  obtain ⟨locs, hlo⟩ : ∃ x : List Loc, x = [] := ⟨_, rfl⟩
  rw [← hlo] at hS ⊢
  clear hlo
  refine lv_aload_n hx hb dX8_isIn_0 rfl (lv_at hl 0 rfl) ?_
  refine lv_lconst (v := 0) hx hb dX8_isIn_1 (by decide) ?_
  refine va_put (D := D) (ci := 8) (v := .long (0 : Int64)) (ty := .long) (C := RX8) (T := TX8) (N := 56) hx hb hts tb_wsX80 tyX8 tyX8_ok nmX8 hown hK.1 hP hD hS 0 rfl rfl 52 (by decide) (hts _ tb_26_11) (fun _ h9 => h9) rfl (by decide +kernel) rfl rfl (Nat.le_of_ble_eq_true rfl) dX8_isIn_2 (fun H locs hP hD hS => ?_)
  replace hP : va_P D vwCl (zWM cI cJ cZ h mG mH mR mW mS mK mD mN mO mB mM (tmF.s_inUp mF (0 : Int64))) H := hP
  replace hD : va_D A (zWM cI cJ cZ h mG mH mR mW mS mK mD mN mO mB mM (tmF.s_inUp mF (0 : Int64))) := hD
  refine lv_aload_n hx hb dX8_isIn_5 rfl (lv_at hl 0 rfl) ?_
  refine lv_lconst (v := 1) hx hb dX8_isIn_6 (by decide) ?_
  refine va_put (D := D) (ci := 8) (v := .long (1 : Int64)) (ty := .long) (C := RX8) (T := TX8) (N := 56) hx hb hts tb_wsX80 tyX8 tyX8_ok nmX8 hown hK.1 hP hD hS 0 rfl rfl 53 (by decide) (hts _ tb_26_12) (fun _ h9 => h9) rfl (by decide +kernel) rfl rfl (Nat.le_of_ble_eq_true rfl) dX8_isIn_7 (fun H locs hP hD hS => ?_)
  replace hP : va_P D vwCl (zWM cI cJ cZ h mG mH mR mW mS mK mD mN mO mB mM (tmF.s_inLow (tmF.s_inUp mF (0 : Int64)) (1 : Int64))) H := hP
  replace hD : va_D A (zWM cI cJ cZ h mG mH mR mW mS mK mD mN mO mB mM (tmF.s_inLow (tmF.s_inUp mF (0 : Int64)) (1 : Int64))) := hD
  refine lv_aload_n hx hb dX8_isIn_10 rfl (lv_at hl 0 rfl) ?_
  refine lv_lconst (v := 1) hx hb dX8_isIn_11 (by decide) ?_
  refine va_put (D := D) (ci := 8) (v := .long (1 : Int64)) (ty := .long) (C := RX8) (T := TX8) (N := 56) hx hb hts tb_wsX80 tyX8 tyX8_ok nmX8 hown hK.1 hP hD hS 0 rfl rfl 54 (by decide) (hts _ tb_26_13) (fun _ h9 => h9) rfl (by decide +kernel) rfl rfl (Nat.le_of_ble_eq_true rfl) dX8_isIn_12 (fun H locs hP hD hS => ?_)
  replace hP : va_P D vwCl (zWM cI cJ cZ h mG mH mR mW mS mK mD mN mO mB mM (tmF.s_inUp2 (tmF.s_inLow (tmF.s_inUp mF (0 : Int64)) (1 : Int64)) (1 : Int64))) H := hP
  replace hD : va_D A (zWM cI cJ cZ h mG mH mR mW mS mK mD mN mO mB mM (tmF.s_inUp2 (tmF.s_inLow (tmF.s_inUp mF (0 : Int64)) (1 : Int64)) (1 : Int64))) := hD
  refine lv_aload_n hx hb dX8_isIn_15 rfl (lv_at hl 0 rfl) ?_
  refine lv_lconst (v := 1) hx hb dX8_isIn_16 (by decide) ?_
  refine va_put (D := D) (ci := 8) (v := .long (1 : Int64)) (ty := .long) (C := RX8) (T := TX8) (N := 56) hx hb hts tb_wsX80 tyX8 tyX8_ok nmX8 hown hK.1 hP hD hS 0 rfl rfl 55 (by decide) (hts _ tb_26_14) (fun _ h9 => h9) rfl (by decide +kernel) rfl rfl (Nat.le_of_ble_eq_true rfl) dX8_isIn_17 (fun H locs hP hD hS => ?_)
  replace hP : va_P D vwCl (zWM cI cJ cZ h mG mH mR mW mS mK mD mN mO mB mM (tmF.s_inLow2 (tmF.s_inUp2 (tmF.s_inLow (tmF.s_inUp mF (0 : Int64)) (1 : Int64)) (1 : Int64)) (1 : Int64))) H := hP
  replace hD : va_D A (zWM cI cJ cZ h mG mH mR mW mS mK mD mN mO mB mM (tmF.s_inLow2 (tmF.s_inUp2 (tmF.s_inLow (tmF.s_inUp mF (0 : Int64)) (1 : Int64)) (1 : Int64)) (1 : Int64))) := hD
  refine lv_iconst (v := 0) hx hb dX8_isIn_20 (by decide) ?_
  refine lv_istore_n (lv' := [(3, .int (0 : Int32)), (0, .ref (h 0)), (1, .int a1), (2, .int a2)]) hx hb dX8_isIn_21 rfl hl (by decide) rfl (fun ls hl => ?_)
  exact t_X8_isIn_b22 hC N mG mH mR mW mS mK mD mN mO mB mM u N (tmF.s_inLow2 (tmF.s_inUp2 (tmF.s_inLow (tmF.s_inUp mF (0 : Int64)) (1 : Int64)) (1 : Int64)) (1 : Int64)) a1 a2 (0 : Int32) H locs ls hP hD hS (lv_sub hl [1, 2, 3, 0] rfl) hf
set_option maxHeartbeats 4000000 in
set_option maxRecDepth 100000 in
theorem t_X8_least_b211 {p : Program} {l : Launch} {e : Env} {s : State} {m : MethodId} {args : Array Value} {below : List Frame} {meth : Method} {c : Code} {A : Nat → Prop} {D : va_G} {cI cJ cZ : ClassId} {h : Nat → Nat} (hC : zCx p s m args meth c A D (zty cI cJ cZ) cX8_least RX8 8 (some .int)) (N : Nat) (mG : tmG) (mR : tmR) (mW : tmW) (mS : tmS) (mK : tmK) (mD : tmD) (mN : tmN) (mO : tmO) (mB : tmB) (mM : tmM) (u : Int32 × tmH × tmF) : ∀ (mH : tmH) (mF : tmF) (H : Heap) (locs : List Loc) (ls : Array Slot), va_P D vwCl (zWM cI cJ cZ h mG mH mR mW mS mK mD mN mO mB mM mF) H → va_D A (zWM cI cJ cZ h mG mH mR mW mS mK mD mN mO mB mM mF) → va_S A s.heap H locs → lv_has ls 8 [(0, .ref (h 0))] → X8_least_b211 N mG mH mF = some u → W p l e ({ frames := 4, cells := 0, slots := 0, locals := 114 } : Room) s m args below meth c H locs 0 0 (MQ below (zQi D A (zWM cI cJ cZ h mG u.2.1 mR mW mS mK mD mN mO mB mM u.2.2) (u.1)) args s 0 0 A) (F0 m 211 ls []) := by
  intro mH mF H locs ls hP hD hS hl hf
  obtain ⟨hx, hb, hml, hown, hts, hK, hr, hlocks, hA⟩ := id hC
  unfold X8_least_b211 at hf
  refine lv_aload_n hx hb dX8_least_211 rfl (lv_at hl 0 rfl) ?_
  refine va_get (D := D) (ci := 8) (v := .ref (h 37)) (C := RX8) (T := TX8) (N := 56) hx hb hts tb_wsX80 hown hK.1 hP 0 rfl rfl 51 (by decide) (hts _ tb_6_19) (fun _ h9 => h9) rfl dX8_least_212 ?_
  refine lv_iconst (v := 0) hx hb dX8_least_215 (by decide) ?_
  obtain ⟨h1, hf⟩ := zck_s hf
  refine va_iald hx hb hK.1 hP 37 0 rfl rfl h1 dX8_least_216 ?_
  have hu := Option.some.inj hf
  subst hu
  exact z_iret hC hP hD hS dX8_least_217
set_option maxHeartbeats 4000000 in
set_option maxRecDepth 100000 in
theorem t_X8_least_b198 {p : Program} {l : Launch} {e : Env} {s : State} {m : MethodId} {args : Array Value} {below : List Frame} {meth : Method} {c : Code} {A : Nat → Prop} {D : va_G} {cI cJ cZ : ClassId} {h : Nat → Nat} (hC : zCx p s m args meth c A D (zty cI cJ cZ) cX8_least RX8 8 (some .int)) (N : Nat) {mG : tmG} {mR : tmR} {mW : tmW} {mS : tmS} {mK : tmK} {mD : tmD} {mN : tmN} {mO : tmO} {mB : tmB} {mM : tmM} {u : Int32 × tmH × tmF} (k41 : tmH → tmF → Int32 → Option (Int32 × tmH × tmF)) (hk41 : ∀ (mH : tmH) (mF : tmF) (v2 : Int32) (H : Heap) (locs : List Loc) (ls : Array Slot), va_P D vwCl (zWM cI cJ cZ h mG mH mR mW mS mK mD mN mO mB mM mF) H → va_D A (zWM cI cJ cZ h mG mH mR mW mS mK mD mN mO mB mM mF) → va_S A s.heap H locs → lv_has ls 8 [(0, .ref (h 0)), (2, .int v2)] → k41 mH mF v2 = some u → W p l e ({ frames := 4, cells := 0, slots := 0, locals := 114 } : Room) s m args below meth c H locs 0 0 (MQ below (zQi D A (zWM cI cJ cZ h mG u.2.1 mR mW mS mK mD mN mO mB mM u.2.2) (u.1)) args s 0 0 A) (F0 m 41 ls [])) : ∀ (mH : tmH) (mF : tmF) (v2 : Int32) (v3 : Int32) (H : Heap) (locs : List Loc) (ls : Array Slot), va_P D vwCl (zWM cI cJ cZ h mG mH mR mW mS mK mD mN mO mB mM mF) H → va_D A (zWM cI cJ cZ h mG mH mR mW mS mK mD mN mO mB mM mF) → va_S A s.heap H locs → lv_has ls 8 [(0, .ref (h 0)), (2, .int v2), (3, .int v3)] → X8_least_b198 N k41 mG mH mF v2 v3 = some u → W p l e ({ frames := 4, cells := 0, slots := 0, locals := 114 } : Room) s m args below meth c H locs 0 0 (MQ below (zQi D A (zWM cI cJ cZ h mG u.2.1 mR mW mS mK mD mN mO mB mM u.2.2) (u.1)) args s 0 0 A) (F0 m 198 ls []) := by
  intro mH mF v2 v3 H locs ls hP hD hS hl hf
  obtain ⟨hx, hb, hml, hown, hts, hK, hr, hlocks, hA⟩ := id hC
  unfold X8_least_b198 at hf
  refine lv_aload_n hx hb dX8_least_198 rfl (lv_at hl 0 rfl) ?_
  refine va_get (D := D) (ci := 8) (v := .ref (h 37)) (C := RX8) (T := TX8) (N := 56) hx hb hts tb_wsX80 hown hK.1 hP 0 rfl rfl 51 (by decide) (hts _ tb_6_19) (fun _ h9 => h9) rfl dX8_least_199 ?_
  refine lv_iload_n hx hb dX8_least_202 rfl (lv_at hl 1 rfl) ?_
  refine lv_iload_n hx hb dX8_least_203 rfl (lv_at hl 2 rfl) ?_
  obtain ⟨h2, hf⟩ := zck_s hf
  refine va_iast hx hb hK.1 hP hD hS 37 0 rfl rfl h2 dX8_least_204 (fun H locs hP hD hS => ?_)
  replace hP : va_P D vwCl (zWM cI cJ cZ h mG mH mR mW mS mK mD mN mO mB mM (tmF.s_fewest mF (upd (tmF.fewest mF) v2.toNatClampNeg v3))) H := hP
  replace hD : va_D A (zWM cI cJ cZ h mG mH mR mW mS mK mD mN mO mB mM (tmF.s_fewest mF (upd (tmF.fewest mF) v2.toNatClampNeg v3))) := hD
  refine lv_iinc (v := (v2 + (-1 : Int32))) (lv' := [(2, .int (v2 + (-1 : Int32))), (0, .ref (h 0)), (3, .int v3)]) hx hb dX8_least_205 hl (k := 1) rfl rfl (by decide) rfl (fun ls hl => ?_)
  refine lv_goto (tgt := 41) hx hb dX8_least_208 (by decide) ?_
  exact hk41 mH (tmF.s_fewest mF (upd (tmF.fewest mF) v2.toNatClampNeg v3)) (v2 + (-1 : Int32)) H locs ls hP hD hS (lv_sub hl [1, 0] rfl) hf
set_option maxHeartbeats 4000000 in
set_option maxRecDepth 100000 in
theorem t_X8_least_b186 {p : Program} {l : Launch} {e : Env} {s : State} {m : MethodId} {args : Array Value} {below : List Frame} {meth : Method} {c : Code} {A : Nat → Prop} {D : va_G} {cI cJ cZ : ClassId} {h : Nat → Nat} (hC : zCx p s m args meth c A D (zty cI cJ cZ) cX8_least RX8 8 (some .int)) (N : Nat) {mG : tmG} {mR : tmR} {mW : tmW} {mS : tmS} {mK : tmK} {mD : tmD} {mN : tmN} {mO : tmO} {mB : tmB} {mM : tmM} {u : Int32 × tmH × tmF} (k41 : tmH → tmF → Int32 → Option (Int32 × tmH × tmF)) (hk41 : ∀ (mH : tmH) (mF : tmF) (v2 : Int32) (H : Heap) (locs : List Loc) (ls : Array Slot), va_P D vwCl (zWM cI cJ cZ h mG mH mR mW mS mK mD mN mO mB mM mF) H → va_D A (zWM cI cJ cZ h mG mH mR mW mS mK mD mN mO mB mM mF) → va_S A s.heap H locs → lv_has ls 8 [(0, .ref (h 0)), (2, .int v2)] → k41 mH mF v2 = some u → W p l e ({ frames := 4, cells := 0, slots := 0, locals := 114 } : Room) s m args below meth c H locs 0 0 (MQ below (zQi D A (zWM cI cJ cZ h mG u.2.1 mR mW mS mK mD mN mO mB mM u.2.2) (u.1)) args s 0 0 A) (F0 m 41 ls [])) (k53 : tmH → tmF → Int32 → Int32 → Int32 → Int32 → Option (Int32 × tmH × tmF)) (hk53 : ∀ (mH : tmH) (mF : tmF) (v2 : Int32) (v3 : Int32) (v4 : Int32) (v5 : Int32) (H : Heap) (locs : List Loc) (ls : Array Slot), va_P D vwCl (zWM cI cJ cZ h mG mH mR mW mS mK mD mN mO mB mM mF) H → va_D A (zWM cI cJ cZ h mG mH mR mW mS mK mD mN mO mB mM mF) → va_S A s.heap H locs → lv_has ls 8 [(0, .ref (h 0)), (2, .int v2), (3, .int v3), (4, .int v4), (5, .int v5)] → k53 mH mF v2 v3 v4 v5 = some u → W p l e ({ frames := 4, cells := 0, slots := 0, locals := 114 } : Room) s m args below meth c H locs 0 0 (MQ below (zQi D A (zWM cI cJ cZ h mG u.2.1 mR mW mS mK mD mN mO mB mM u.2.2) (u.1)) args s 0 0 A) (F0 m 53 ls [])) : ∀ (mH : tmH) (mF : tmF) (v2 : Int32) (v3 : Int32) (v4 : Int32) (v5 : Int32) (H : Heap) (locs : List Loc) (ls : Array Slot), va_P D vwCl (zWM cI cJ cZ h mG mH mR mW mS mK mD mN mO mB mM mF) H → va_D A (zWM cI cJ cZ h mG mH mR mW mS mK mD mN mO mB mM mF) → va_S A s.heap H locs → lv_has ls 8 [(0, .ref (h 0)), (2, .int v2), (3, .int v3), (4, .int v4), (5, .int v5)] → X8_least_b186 N k41 k53 mG mH mF v2 v3 v4 v5 = some u → W p l e ({ frames := 4, cells := 0, slots := 0, locals := 114 } : Room) s m args below meth c H locs 0 0 (MQ below (zQi D A (zWM cI cJ cZ h mG u.2.1 mR mW mS mK mD mN mO mB mM u.2.2) (u.1)) args s 0 0 A) (F0 m 186 ls []) := by
  intro mH mF v2 v3 v4 v5 H locs ls hP hD hS hl hf
  obtain ⟨hx, hb, hml, hown, hts, hK, hr, hlocks, hA⟩ := id hC
  unfold X8_least_b186 at hf
  refine lv_iload hx hb dX8_least_186 (lv_at hl 3 rfl) ?_
  refine lv_iconst (v := 3) hx hb dX8_least_188 (by decide) ?_
  refine lv_imul hx hb dX8_least_189 ?_
  refine lv_topi (fun x3 ex3 => ?_)
  replace hf := zl_n ex3 hf
  refine lv_istore (lv' := [(4, .int x3), (0, .ref (h 0)), (2, .int v2), (3, .int v3), (5, .int v5)]) hx hb dX8_least_190 hl (by decide) rfl (fun ls hl => ?_)
  refine lv_iinc (v := (v5 + (1 : Int32))) (lv' := [(5, .int (v5 + (1 : Int32))), (4, .int x3), (0, .ref (h 0)), (2, .int v2), (3, .int v3)]) hx hb dX8_least_192 hl (k := 4) rfl rfl (by decide) rfl (fun ls hl => ?_)
  refine lv_goto (tgt := 53) hx hb dX8_least_195 (by decide) ?_
  exact hk53 mH mF v2 v3 x3 (v5 + (1 : Int32)) H locs ls hP hD hS (lv_sub hl [2, 3, 4, 1, 0] rfl) hf
set_option maxHeartbeats 4000000 in
set_option maxRecDepth 100000 in
theorem t_X8_least_b185 {p : Program} {l : Launch} {e : Env} {s : State} {m : MethodId} {args : Array Value} {below : List Frame} {meth : Method} {c : Code} {A : Nat → Prop} {D : va_G} {cI cJ cZ : ClassId} {h : Nat → Nat} (hC : zCx p s m args meth c A D (zty cI cJ cZ) cX8_least RX8 8 (some .int)) (N : Nat) {mG : tmG} {mR : tmR} {mW : tmW} {mS : tmS} {mK : tmK} {mD : tmD} {mN : tmN} {mO : tmO} {mB : tmB} {mM : tmM} {u : Int32 × tmH × tmF} (k41 : tmH → tmF → Int32 → Option (Int32 × tmH × tmF)) (hk41 : ∀ (mH : tmH) (mF : tmF) (v2 : Int32) (H : Heap) (locs : List Loc) (ls : Array Slot), va_P D vwCl (zWM cI cJ cZ h mG mH mR mW mS mK mD mN mO mB mM mF) H → va_D A (zWM cI cJ cZ h mG mH mR mW mS mK mD mN mO mB mM mF) → va_S A s.heap H locs → lv_has ls 8 [(0, .ref (h 0)), (2, .int v2)] → k41 mH mF v2 = some u → W p l e ({ frames := 4, cells := 0, slots := 0, locals := 114 } : Room) s m args below meth c H locs 0 0 (MQ below (zQi D A (zWM cI cJ cZ h mG u.2.1 mR mW mS mK mD mN mO mB mM u.2.2) (u.1)) args s 0 0 A) (F0 m 41 ls [])) (k53 : tmH → tmF → Int32 → Int32 → Int32 → Int32 → Option (Int32 × tmH × tmF)) (hk53 : ∀ (mH : tmH) (mF : tmF) (v2 : Int32) (v3 : Int32) (v4 : Int32) (v5 : Int32) (H : Heap) (locs : List Loc) (ls : Array Slot), va_P D vwCl (zWM cI cJ cZ h mG mH mR mW mS mK mD mN mO mB mM mF) H → va_D A (zWM cI cJ cZ h mG mH mR mW mS mK mD mN mO mB mM mF) → va_S A s.heap H locs → lv_has ls 8 [(0, .ref (h 0)), (2, .int v2), (3, .int v3), (4, .int v4), (5, .int v5)] → k53 mH mF v2 v3 v4 v5 = some u → W p l e ({ frames := 4, cells := 0, slots := 0, locals := 114 } : Room) s m args below meth c H locs 0 0 (MQ below (zQi D A (zWM cI cJ cZ h mG u.2.1 mR mW mS mK mD mN mO mB mM u.2.2) (u.1)) args s 0 0 A) (F0 m 53 ls [])) : ∀ (mH : tmH) (mF : tmF) (v2 : Int32) (v4 : Int32) (v5 : Int32) (s0 : Int32) (H : Heap) (locs : List Loc) (ls : Array Slot), va_P D vwCl (zWM cI cJ cZ h mG mH mR mW mS mK mD mN mO mB mM mF) H → va_D A (zWM cI cJ cZ h mG mH mR mW mS mK mD mN mO mB mM mF) → va_S A s.heap H locs → lv_has ls 8 [(0, .ref (h 0)), (2, .int v2), (4, .int v4), (5, .int v5)] → X8_least_b185 N k41 k53 mG mH mF v2 v4 v5 s0 = some u → W p l e ({ frames := 4, cells := 0, slots := 0, locals := 114 } : Room) s m args below meth c H locs 0 0 (MQ below (zQi D A (zWM cI cJ cZ h mG u.2.1 mR mW mS mK mD mN mO mB mM u.2.2) (u.1)) args s 0 0 A) (F0 m 185 ls [.int s0]) := by
  intro mH mF v2 v4 v5 s0 H locs ls hP hD hS hl hf
  obtain ⟨hx, hb, hml, hown, hts, hK, hr, hlocks, hA⟩ := id hC
  unfold X8_least_b185 at hf
  refine lv_istore_n (lv' := [(3, .int s0), (0, .ref (h 0)), (2, .int v2), (4, .int v4), (5, .int v5)]) hx hb dX8_least_185 rfl hl (by decide) rfl (fun ls hl => ?_)
  exact t_X8_least_b186 hC N k41 hk41 k53 hk53  mH mF v2 s0 v4 v5 H locs ls hP hD hS (lv_sub hl [1, 2, 0, 3, 4] rfl) hf
set_option maxHeartbeats 4000000 in
set_option maxRecDepth 100000 in
theorem t_X8_least_b179 {p : Program} {l : Launch} {e : Env} {s : State} {m : MethodId} {args : Array Value} {below : List Frame} {meth : Method} {c : Code} {A : Nat → Prop} {D : va_G} {cI cJ cZ : ClassId} {h : Nat → Nat} (hC : zCx p s m args meth c A D (zty cI cJ cZ) cX8_least RX8 8 (some .int)) (N : Nat) {mG : tmG} {mR : tmR} {mW : tmW} {mS : tmS} {mK : tmK} {mD : tmD} {mN : tmN} {mO : tmO} {mB : tmB} {mM : tmM} {u : Int32 × tmH × tmF} (k41 : tmH → tmF → Int32 → Option (Int32 × tmH × tmF)) (hk41 : ∀ (mH : tmH) (mF : tmF) (v2 : Int32) (H : Heap) (locs : List Loc) (ls : Array Slot), va_P D vwCl (zWM cI cJ cZ h mG mH mR mW mS mK mD mN mO mB mM mF) H → va_D A (zWM cI cJ cZ h mG mH mR mW mS mK mD mN mO mB mM mF) → va_S A s.heap H locs → lv_has ls 8 [(0, .ref (h 0)), (2, .int v2)] → k41 mH mF v2 = some u → W p l e ({ frames := 4, cells := 0, slots := 0, locals := 114 } : Room) s m args below meth c H locs 0 0 (MQ below (zQi D A (zWM cI cJ cZ h mG u.2.1 mR mW mS mK mD mN mO mB mM u.2.2) (u.1)) args s 0 0 A) (F0 m 41 ls [])) (k53 : tmH → tmF → Int32 → Int32 → Int32 → Int32 → Option (Int32 × tmH × tmF)) (hk53 : ∀ (mH : tmH) (mF : tmF) (v2 : Int32) (v3 : Int32) (v4 : Int32) (v5 : Int32) (H : Heap) (locs : List Loc) (ls : Array Slot), va_P D vwCl (zWM cI cJ cZ h mG mH mR mW mS mK mD mN mO mB mM mF) H → va_D A (zWM cI cJ cZ h mG mH mR mW mS mK mD mN mO mB mM mF) → va_S A s.heap H locs → lv_has ls 8 [(0, .ref (h 0)), (2, .int v2), (3, .int v3), (4, .int v4), (5, .int v5)] → k53 mH mF v2 v3 v4 v5 = some u → W p l e ({ frames := 4, cells := 0, slots := 0, locals := 114 } : Room) s m args below meth c H locs 0 0 (MQ below (zQi D A (zWM cI cJ cZ h mG u.2.1 mR mW mS mK mD mN mO mB mM u.2.2) (u.1)) args s 0 0 A) (F0 m 53 ls [])) : ∀ (mH : tmH) (mF : tmF) (v2 : Int32) (v4 : Int32) (v5 : Int32) (v6 : Int32) (H : Heap) (locs : List Loc) (ls : Array Slot), va_P D vwCl (zWM cI cJ cZ h mG mH mR mW mS mK mD mN mO mB mM mF) H → va_D A (zWM cI cJ cZ h mG mH mR mW mS mK mD mN mO mB mM mF) → va_S A s.heap H locs → lv_has ls 8 [(0, .ref (h 0)), (2, .int v2), (4, .int v4), (5, .int v5), (6, .int v6)] → X8_least_b179 N k41 k53 mG mH mF v2 v4 v5 v6 = some u → W p l e ({ frames := 4, cells := 0, slots := 0, locals := 114 } : Room) s m args below meth c H locs 0 0 (MQ below (zQi D A (zWM cI cJ cZ h mG u.2.1 mR mW mS mK mD mN mO mB mM u.2.2) (u.1)) args s 0 0 A) (F0 m 179 ls []) := by
  intro mH mF v2 v4 v5 v6 H locs ls hP hD hS hl hf
  obtain ⟨hx, hb, hml, hown, hts, hK, hr, hlocks, hA⟩ := id hC
  unfold X8_least_b179 at hf
  refine lv_iload hx hb dX8_least_179 (lv_at hl 4 rfl) ?_
  refine lv_goto (tgt := 185) hx hb dX8_least_181 (by decide) ?_
  exact t_X8_least_b185 hC N k41 hk41 k53 hk53  mH mF v2 v4 v5 v6 H locs ls hP hD hS (lv_sub hl [0, 1, 2, 3] rfl) hf
set_option maxHeartbeats 4000000 in
set_option maxRecDepth 100000 in
theorem t_X8_least_b169 {p : Program} {l : Launch} {e : Env} {s : State} {m : MethodId} {args : Array Value} {below : List Frame} {meth : Method} {c : Code} {A : Nat → Prop} {D : va_G} {cI cJ cZ : ClassId} {h : Nat → Nat} (hC : zCx p s m args meth c A D (zty cI cJ cZ) cX8_least RX8 8 (some .int)) (N : Nat) {mG : tmG} {mR : tmR} {mW : tmW} {mS : tmS} {mK : tmK} {mD : tmD} {mN : tmN} {mO : tmO} {mB : tmB} {mM : tmM} {u : Int32 × tmH × tmF} (k41 : tmH → tmF → Int32 → Option (Int32 × tmH × tmF)) (hk41 : ∀ (mH : tmH) (mF : tmF) (v2 : Int32) (H : Heap) (locs : List Loc) (ls : Array Slot), va_P D vwCl (zWM cI cJ cZ h mG mH mR mW mS mK mD mN mO mB mM mF) H → va_D A (zWM cI cJ cZ h mG mH mR mW mS mK mD mN mO mB mM mF) → va_S A s.heap H locs → lv_has ls 8 [(0, .ref (h 0)), (2, .int v2)] → k41 mH mF v2 = some u → W p l e ({ frames := 4, cells := 0, slots := 0, locals := 114 } : Room) s m args below meth c H locs 0 0 (MQ below (zQi D A (zWM cI cJ cZ h mG u.2.1 mR mW mS mK mD mN mO mB mM u.2.2) (u.1)) args s 0 0 A) (F0 m 41 ls [])) (k53 : tmH → tmF → Int32 → Int32 → Int32 → Int32 → Option (Int32 × tmH × tmF)) (hk53 : ∀ (mH : tmH) (mF : tmF) (v2 : Int32) (v3 : Int32) (v4 : Int32) (v5 : Int32) (H : Heap) (locs : List Loc) (ls : Array Slot), va_P D vwCl (zWM cI cJ cZ h mG mH mR mW mS mK mD mN mO mB mM mF) H → va_D A (zWM cI cJ cZ h mG mH mR mW mS mK mD mN mO mB mM mF) → va_S A s.heap H locs → lv_has ls 8 [(0, .ref (h 0)), (2, .int v2), (3, .int v3), (4, .int v4), (5, .int v5)] → k53 mH mF v2 v3 v4 v5 = some u → W p l e ({ frames := 4, cells := 0, slots := 0, locals := 114 } : Room) s m args below meth c H locs 0 0 (MQ below (zQi D A (zWM cI cJ cZ h mG u.2.1 mR mW mS mK mD mN mO mB mM u.2.2) (u.1)) args s 0 0 A) (F0 m 53 ls [])) : ∀ (mH : tmH) (mF : tmF) (v2 : Int32) (v3 : Int32) (v4 : Int32) (v5 : Int32) (v6 : Int32) (H : Heap) (locs : List Loc) (ls : Array Slot), va_P D vwCl (zWM cI cJ cZ h mG mH mR mW mS mK mD mN mO mB mM mF) H → va_D A (zWM cI cJ cZ h mG mH mR mW mS mK mD mN mO mB mM mF) → va_S A s.heap H locs → lv_has ls 8 [(0, .ref (h 0)), (2, .int v2), (3, .int v3), (4, .int v4), (5, .int v5), (6, .int v6)] → X8_least_b169 N k41 k53 mG mH mF v2 v3 v4 v5 v6 = some u → W p l e ({ frames := 4, cells := 0, slots := 0, locals := 114 } : Room) s m args below meth c H locs 0 0 (MQ below (zQi D A (zWM cI cJ cZ h mG u.2.1 mR mW mS mK mD mN mO mB mM u.2.2) (u.1)) args s 0 0 A) (F0 m 169 ls []) := by
  intro mH mF v2 v3 v4 v5 v6 H locs ls hP hD hS hl hf
  obtain ⟨hx, hb, hml, hown, hts, hK, hr, hlocks, hA⟩ := id hC
  unfold X8_least_b169 at hf
  refine lv_iload_n hx hb dX8_least_169 rfl (lv_at hl 2 rfl) ?_
  refine lv_if_eq (tgt := 179) hx hb dX8_least_170 (by decide) (fun c4 => ?_) (fun c4 => ?_)
  · replace hf := zif_t hf c4
    exact t_X8_least_b179 hC N k41 hk41 k53 hk53  mH mF v2 v4 v5 v6 H locs ls hP hD hS (lv_sub hl [0, 1, 3, 4, 5] rfl) hf
  · replace hf := zif_f hf c4
    refine lv_iload hx hb dX8_least_173 (lv_at hl 5 rfl) ?_
    refine lv_iload_n hx hb dX8_least_175 rfl (lv_at hl 2 rfl) ?_
    refine lv_icmp_ge (tgt := 184) hx hb dX8_least_176 (by decide) (fun c5 => ?_) (fun c5 => ?_)
    · replace hf := zif_t hf c5
      refine lv_iload_n hx hb dX8_least_184 rfl (lv_at hl 2 rfl) ?_
      exact t_X8_least_b185 hC N k41 hk41 k53 hk53  mH mF v2 v4 v5 v3 H locs ls hP hD hS (lv_sub hl [0, 1, 3, 4] rfl) hf
    · replace hf := zif_f hf c5
      exact t_X8_least_b179 hC N k41 hk41 k53 hk53  mH mF v2 v4 v5 v6 H locs ls hP hD hS (lv_sub hl [0, 1, 3, 4, 5] rfl) hf
set_option maxHeartbeats 4000000 in
set_option maxRecDepth 100000 in
theorem t_X8_least_b160 {p : Program} {l : Launch} {e : Env} {s : State} {m : MethodId} {args : Array Value} {below : List Frame} {meth : Method} {c : Code} {A : Nat → Prop} {D : va_G} {cI cJ cZ : ClassId} {h : Nat → Nat} (hC : zCx p s m args meth c A D (zty cI cJ cZ) cX8_least RX8 8 (some .int)) (N : Nat) {mG : tmG} {mR : tmR} {mW : tmW} {mS : tmS} {mK : tmK} {mD : tmD} {mN : tmN} {mO : tmO} {mB : tmB} {mM : tmM} {u : Int32 × tmH × tmF} (k41 : tmH → tmF → Int32 → Option (Int32 × tmH × tmF)) (hk41 : ∀ (mH : tmH) (mF : tmF) (v2 : Int32) (H : Heap) (locs : List Loc) (ls : Array Slot), va_P D vwCl (zWM cI cJ cZ h mG mH mR mW mS mK mD mN mO mB mM mF) H → va_D A (zWM cI cJ cZ h mG mH mR mW mS mK mD mN mO mB mM mF) → va_S A s.heap H locs → lv_has ls 8 [(0, .ref (h 0)), (2, .int v2)] → k41 mH mF v2 = some u → W p l e ({ frames := 4, cells := 0, slots := 0, locals := 114 } : Room) s m args below meth c H locs 0 0 (MQ below (zQi D A (zWM cI cJ cZ h mG u.2.1 mR mW mS mK mD mN mO mB mM u.2.2) (u.1)) args s 0 0 A) (F0 m 41 ls [])) (k53 : tmH → tmF → Int32 → Int32 → Int32 → Int32 → Option (Int32 × tmH × tmF)) (hk53 : ∀ (mH : tmH) (mF : tmF) (v2 : Int32) (v3 : Int32) (v4 : Int32) (v5 : Int32) (H : Heap) (locs : List Loc) (ls : Array Slot), va_P D vwCl (zWM cI cJ cZ h mG mH mR mW mS mK mD mN mO mB mM mF) H → va_D A (zWM cI cJ cZ h mG mH mR mW mS mK mD mN mO mB mM mF) → va_S A s.heap H locs → lv_has ls 8 [(0, .ref (h 0)), (2, .int v2), (3, .int v3), (4, .int v4), (5, .int v5)] → k53 mH mF v2 v3 v4 v5 = some u → W p l e ({ frames := 4, cells := 0, slots := 0, locals := 114 } : Room) s m args below meth c H locs 0 0 (MQ below (zQi D A (zWM cI cJ cZ h mG u.2.1 mR mW mS mK mD mN mO mB mM u.2.2) (u.1)) args s 0 0 A) (F0 m 53 ls [])) (k107 : tmH → tmF → Int32 → Int32 → Int32 → Int32 → Int32 → Int32 → Option (Int32 × tmH × tmF)) (hk107 : ∀ (mH : tmH) (mF : tmF) (v2 : Int32) (v3 : Int32) (v4 : Int32) (v5 : Int32) (v6 : Int32) (v7 : Int32) (H : Heap) (locs : List Loc) (ls : Array Slot), va_P D vwCl (zWM cI cJ cZ h mG mH mR mW mS mK mD mN mO mB mM mF) H → va_D A (zWM cI cJ cZ h mG mH mR mW mS mK mD mN mO mB mM mF) → va_S A s.heap H locs → lv_has ls 8 [(0, .ref (h 0)), (2, .int v2), (3, .int v3), (4, .int v4), (5, .int v5), (6, .int v6), (7, .int v7)] → k107 mH mF v2 v3 v4 v5 v6 v7 = some u → W p l e ({ frames := 4, cells := 0, slots := 0, locals := 114 } : Room) s m args below meth c H locs 0 0 (MQ below (zQi D A (zWM cI cJ cZ h mG u.2.1 mR mW mS mK mD mN mO mB mM u.2.2) (u.1)) args s 0 0 A) (F0 m 107 ls [])) : ∀ (mH : tmH) (mF : tmF) (v2 : Int32) (v3 : Int32) (v4 : Int32) (v5 : Int32) (v7 : Int32) (s0 : Int32) (s1 : Int32) (H : Heap) (locs : List Loc) (ls : Array Slot), va_P D vwCl (zWM cI cJ cZ h mG mH mR mW mS mK mD mN mO mB mM mF) H → va_D A (zWM cI cJ cZ h mG mH mR mW mS mK mD mN mO mB mM mF) → va_S A s.heap H locs → lv_has ls 8 [(0, .ref (h 0)), (2, .int v2), (3, .int v3), (4, .int v4), (5, .int v5), (7, .int v7)] → X8_least_b160 N k41 k53 k107 mG mH mF v2 v3 v4 v5 v7 s0 s1 = some u → W p l e ({ frames := 4, cells := 0, slots := 0, locals := 114 } : Room) s m args below meth c H locs 0 0 (MQ below (zQi D A (zWM cI cJ cZ h mG u.2.1 mR mW mS mK mD mN mO mB mM u.2.2) (u.1)) args s 0 0 A) (F0 m 160 ls [.int s0, .int s1]) := by
  intro mH mF v2 v3 v4 v5 v7 s0 s1 H locs ls hP hD hS hl hf
  obtain ⟨hx, hb, hml, hown, hts, hK, hr, hlocks, hA⟩ := id hC
  unfold X8_least_b160 at hf
  refine lv_iadd hx hb dX8_least_160 ?_
  refine lv_topi (fun x6 ex6 => ?_)
  replace hf := zl_n ex6 hf
  refine lv_istore (lv' := [(6, .int x6), (0, .ref (h 0)), (2, .int v2), (3, .int v3), (4, .int v4), (5, .int v5), (7, .int v7)]) hx hb dX8_least_161 hl (by decide) rfl (fun ls hl => ?_)
  refine lv_iinc (v := (v7 + (1 : Int32))) (lv' := [(7, .int (v7 + (1 : Int32))), (6, .int x6), (0, .ref (h 0)), (2, .int v2), (3, .int v3), (4, .int v4), (5, .int v5)]) hx hb dX8_least_163 hl (k := 6) rfl rfl (by decide) rfl (fun ls hl => ?_)
  refine lv_goto (tgt := 107) hx hb dX8_least_166 (by decide) ?_
  exact hk107 mH mF v2 v3 v4 v5 x6 (v7 + (1 : Int32)) H locs ls hP hD hS (lv_sub hl [2, 3, 4, 5, 6, 1, 0] rfl) hf
set_option maxHeartbeats 4000000 in
set_option maxRecDepth 100000 in
theorem t_X8_least_b159 {p : Program} {l : Launch} {e : Env} {s : State} {m : MethodId} {args : Array Value} {below : List Frame} {meth : Method} {c : Code} {A : Nat → Prop} {D : va_G} {cI cJ cZ : ClassId} {h : Nat → Nat} (hC : zCx p s m args meth c A D (zty cI cJ cZ) cX8_least RX8 8 (some .int)) (N : Nat) {mG : tmG} {mR : tmR} {mW : tmW} {mS : tmS} {mK : tmK} {mD : tmD} {mN : tmN} {mO : tmO} {mB : tmB} {mM : tmM} {u : Int32 × tmH × tmF} (k41 : tmH → tmF → Int32 → Option (Int32 × tmH × tmF)) (hk41 : ∀ (mH : tmH) (mF : tmF) (v2 : Int32) (H : Heap) (locs : List Loc) (ls : Array Slot), va_P D vwCl (zWM cI cJ cZ h mG mH mR mW mS mK mD mN mO mB mM mF) H → va_D A (zWM cI cJ cZ h mG mH mR mW mS mK mD mN mO mB mM mF) → va_S A s.heap H locs → lv_has ls 8 [(0, .ref (h 0)), (2, .int v2)] → k41 mH mF v2 = some u → W p l e ({ frames := 4, cells := 0, slots := 0, locals := 114 } : Room) s m args below meth c H locs 0 0 (MQ below (zQi D A (zWM cI cJ cZ h mG u.2.1 mR mW mS mK mD mN mO mB mM u.2.2) (u.1)) args s 0 0 A) (F0 m 41 ls [])) (k53 : tmH → tmF → Int32 → Int32 → Int32 → Int32 → Option (Int32 × tmH × tmF)) (hk53 : ∀ (mH : tmH) (mF : tmF) (v2 : Int32) (v3 : Int32) (v4 : Int32) (v5 : Int32) (H : Heap) (locs : List Loc) (ls : Array Slot), va_P D vwCl (zWM cI cJ cZ h mG mH mR mW mS mK mD mN mO mB mM mF) H → va_D A (zWM cI cJ cZ h mG mH mR mW mS mK mD mN mO mB mM mF) → va_S A s.heap H locs → lv_has ls 8 [(0, .ref (h 0)), (2, .int v2), (3, .int v3), (4, .int v4), (5, .int v5)] → k53 mH mF v2 v3 v4 v5 = some u → W p l e ({ frames := 4, cells := 0, slots := 0, locals := 114 } : Room) s m args below meth c H locs 0 0 (MQ below (zQi D A (zWM cI cJ cZ h mG u.2.1 mR mW mS mK mD mN mO mB mM u.2.2) (u.1)) args s 0 0 A) (F0 m 53 ls [])) (k107 : tmH → tmF → Int32 → Int32 → Int32 → Int32 → Int32 → Int32 → Option (Int32 × tmH × tmF)) (hk107 : ∀ (mH : tmH) (mF : tmF) (v2 : Int32) (v3 : Int32) (v4 : Int32) (v5 : Int32) (v6 : Int32) (v7 : Int32) (H : Heap) (locs : List Loc) (ls : Array Slot), va_P D vwCl (zWM cI cJ cZ h mG mH mR mW mS mK mD mN mO mB mM mF) H → va_D A (zWM cI cJ cZ h mG mH mR mW mS mK mD mN mO mB mM mF) → va_S A s.heap H locs → lv_has ls 8 [(0, .ref (h 0)), (2, .int v2), (3, .int v3), (4, .int v4), (5, .int v5), (6, .int v6), (7, .int v7)] → k107 mH mF v2 v3 v4 v5 v6 v7 = some u → W p l e ({ frames := 4, cells := 0, slots := 0, locals := 114 } : Room) s m args below meth c H locs 0 0 (MQ below (zQi D A (zWM cI cJ cZ h mG u.2.1 mR mW mS mK mD mN mO mB mM u.2.2) (u.1)) args s 0 0 A) (F0 m 107 ls [])) : ∀ (mH : tmH) (mF : tmF) (v2 : Int32) (v3 : Int32) (v4 : Int32) (v5 : Int32) (v7 : Int32) (s0 : Int32) (H : Heap) (locs : List Loc) (ls : Array Slot), va_P D vwCl (zWM cI cJ cZ h mG mH mR mW mS mK mD mN mO mB mM mF) H → va_D A (zWM cI cJ cZ h mG mH mR mW mS mK mD mN mO mB mM mF) → va_S A s.heap H locs → lv_has ls 8 [(0, .ref (h 0)), (2, .int v2), (3, .int v3), (4, .int v4), (5, .int v5), (7, .int v7)] → X8_least_b159 N k41 k53 k107 mG mH mF v2 v3 v4 v5 v7 s0 = some u → W p l e ({ frames := 4, cells := 0, slots := 0, locals := 114 } : Room) s m args below meth c H locs 0 0 (MQ below (zQi D A (zWM cI cJ cZ h mG u.2.1 mR mW mS mK mD mN mO mB mM u.2.2) (u.1)) args s 0 0 A) (F0 m 159 ls [.int s0]) := by
  intro mH mF v2 v3 v4 v5 v7 s0 H locs ls hP hD hS hl hf
  obtain ⟨hx, hb, hml, hown, hts, hK, hr, hlocks, hA⟩ := id hC
  unfold X8_least_b159 at hf
  refine lv_iconst (v := 0) hx hb dX8_least_159 (by decide) ?_
  exact t_X8_least_b160 hC N k41 hk41 k53 hk53 k107 hk107  mH mF v2 v3 v4 v5 v7 (0 : Int32) s0 H locs ls hP hD hS (lv_sub hl [0, 1, 2, 3, 4, 5] rfl) hf
set_option maxHeartbeats 4000000 in
set_option maxRecDepth 100000 in
theorem t_X8_least_b107 {p : Program} {l : Launch} {e : Env} {s : State} {m : MethodId} {args : Array Value} {below : List Frame} {meth : Method} {c : Code} {A : Nat → Prop} {D : va_G} {cI cJ cZ : ClassId} {h : Nat → Nat} (hC : zCx p s m args meth c A D (zty cI cJ cZ) cX8_least RX8 8 (some .int)) (N : Nat) {mG : tmG} {mR : tmR} {mW : tmW} {mS : tmS} {mK : tmK} {mD : tmD} {mN : tmN} {mO : tmO} {mB : tmB} {mM : tmM} {u : Int32 × tmH × tmF} (k41 : tmH → tmF → Int32 → Option (Int32 × tmH × tmF)) (hk41 : ∀ (mH : tmH) (mF : tmF) (v2 : Int32) (H : Heap) (locs : List Loc) (ls : Array Slot), va_P D vwCl (zWM cI cJ cZ h mG mH mR mW mS mK mD mN mO mB mM mF) H → va_D A (zWM cI cJ cZ h mG mH mR mW mS mK mD mN mO mB mM mF) → va_S A s.heap H locs → lv_has ls 8 [(0, .ref (h 0)), (2, .int v2)] → k41 mH mF v2 = some u → W p l e ({ frames := 4, cells := 0, slots := 0, locals := 114 } : Room) s m args below meth c H locs 0 0 (MQ below (zQi D A (zWM cI cJ cZ h mG u.2.1 mR mW mS mK mD mN mO mB mM u.2.2) (u.1)) args s 0 0 A) (F0 m 41 ls [])) (k53 : tmH → tmF → Int32 → Int32 → Int32 → Int32 → Option (Int32 × tmH × tmF)) (hk53 : ∀ (mH : tmH) (mF : tmF) (v2 : Int32) (v3 : Int32) (v4 : Int32) (v5 : Int32) (H : Heap) (locs : List Loc) (ls : Array Slot), va_P D vwCl (zWM cI cJ cZ h mG mH mR mW mS mK mD mN mO mB mM mF) H → va_D A (zWM cI cJ cZ h mG mH mR mW mS mK mD mN mO mB mM mF) → va_S A s.heap H locs → lv_has ls 8 [(0, .ref (h 0)), (2, .int v2), (3, .int v3), (4, .int v4), (5, .int v5)] → k53 mH mF v2 v3 v4 v5 = some u → W p l e ({ frames := 4, cells := 0, slots := 0, locals := 114 } : Room) s m args below meth c H locs 0 0 (MQ below (zQi D A (zWM cI cJ cZ h mG u.2.1 mR mW mS mK mD mN mO mB mM u.2.2) (u.1)) args s 0 0 A) (F0 m 53 ls [])) : ∀ (n : Nat) (mH : tmH) (mF : tmF) (v2 : Int32) (v3 : Int32) (v4 : Int32) (v5 : Int32) (v6 : Int32) (v7 : Int32) (H : Heap) (locs : List Loc) (ls : Array Slot), va_P D vwCl (zWM cI cJ cZ h mG mH mR mW mS mK mD mN mO mB mM mF) H → va_D A (zWM cI cJ cZ h mG mH mR mW mS mK mD mN mO mB mM mF) → va_S A s.heap H locs → lv_has ls 8 [(0, .ref (h 0)), (2, .int v2), (3, .int v3), (4, .int v4), (5, .int v5), (6, .int v6), (7, .int v7)] → X8_least_b107 N k41 k53 mG n mH mF v2 v3 v4 v5 v6 v7 = some u → W p l e ({ frames := 4, cells := 0, slots := 0, locals := 114 } : Room) s m args below meth c H locs 0 0 (MQ below (zQi D A (zWM cI cJ cZ h mG u.2.1 mR mW mS mK mD mN mO mB mM u.2.2) (u.1)) args s 0 0 A) (F0 m 107 ls []) := by
  intro n
  induction n with
  | zero =>
    intro mH mF v2 v3 v4 v5 v6 v7 H locs ls hP hD hS hl hf
    cases hf
  | succ n ih =>
    intro mH mF v2 v3 v4 v5 v6 v7 H locs ls hP hD hS hl hf
    obtain ⟨hx, hb, hml, hown, hts, hK, hr, hlocks, hA⟩ := id hC
    rw [X8_least_b107] at hf
    refine lv_iload hx hb dX8_least_107 (lv_at hl 6 rfl) ?_
    refine lv_aload_n hx hb dX8_least_109 rfl (lv_at hl 0 rfl) ?_
    refine va_get (D := D) (ci := 8) (v := .int (tmG.pieces mG)) (C := RX8) (T := TX8) (N := 56) hx hb hts tb_wsX80 hown hK.1 hP 0 rfl rfl 0 (by decide) (hts _ tb_8_4) (fun _ h9 => h9) rfl dX8_least_110 ?_
    refine lv_icmp_ge (tgt := 169) hx hb dX8_least_113 (by decide) (fun c7 => ?_) (fun c7 => ?_)
    · replace hf := zif_t hf c7
      exact t_X8_least_b169 hC N k41 hk41 k53 hk53  mH mF v2 v3 v4 v5 v6 H locs ls hP hD hS (lv_sub hl [0, 1, 2, 3, 4, 5] rfl) hf
    · replace hf := zif_f hf c7
      refine lv_iload hx hb dX8_least_116 (lv_at hl 5 rfl) ?_
      refine lv_aload_n hx hb dX8_least_118 rfl (lv_at hl 0 rfl) ?_
      refine lv_iload hx hb dX8_least_119 (lv_at hl 6 rfl) ?_
      refine lv_iload_n hx hb dX8_least_121 rfl (lv_at hl 1 rfl) ?_
      obtain ⟨u8, hu8, hf⟩ := zbd hf
      refine zthen_i hA hD hS (zrunV (As := [.int v7, .int v2]) (rest := [.int v6]) hC hP hD 0 rfl rfl (c_X8_isIn l D cI cJ cZ h N mG mH mR mW mS mK mD mN mO mB mM mF v7 v2 u8 hu8 H.size) kRX8_276 rfl rfl ⟨by decide, by decide⟩ rfl hl.1 rfl (Nat.le_of_ble_eq_true rfl) dX8_least_122) (fun H locs hP hD hS => ?_)
      refine lv_if_eq (tgt := 159) hx hb dX8_least_125 (by decide) (fun c9 => ?_) (fun c9 => ?_)
      · replace hf := zif_t hf c9
        exact t_X8_least_b159 hC N k41 hk41 k53 hk53 (X8_least_b107 N k41 k53 mG n) ih  mH u8.2 v2 v3 v4 v5 v7 v6 H locs ls hP hD hS (lv_sub hl [0, 1, 2, 3, 4, 6] rfl) hf
      · replace hf := zif_f hf c9
        refine lv_aload_n hx hb dX8_least_128 rfl (lv_at hl 0 rfl) ?_
        refine lv_iload hx hb dX8_least_129 (lv_at hl 4 rfl) ?_
        refine lv_iload hx hb dX8_least_131 (lv_at hl 6 rfl) ?_
        refine lv_aload_n hx hb dX8_least_133 rfl (lv_at hl 0 rfl) ?_
        refine va_get (D := D) (ci := 8) (v := .long (tmF.inUp u8.2)) (C := RX8) (T := TX8) (N := 56) hx hb hts tb_wsX80 hown hK.1 hP 0 rfl rfl 52 (by decide) (hts _ tb_26_11) (fun _ h9 => h9) rfl dX8_least_134 ?_
        refine lv_aload_n hx hb dX8_least_137 rfl (lv_at hl 0 rfl) ?_
        refine va_get (D := D) (ci := 8) (v := .long (tmF.inLow u8.2)) (C := RX8) (T := TX8) (N := 56) hx hb hts tb_wsX80 hown hK.1 hP 0 rfl rfl 53 (by decide) (hts _ tb_26_12) (fun _ h9 => h9) rfl dX8_least_138 ?_
        refine lv_aload_n hx hb dX8_least_141 rfl (lv_at hl 0 rfl) ?_
        refine va_get (D := D) (ci := 8) (v := .long (tmF.inUp2 u8.2)) (C := RX8) (T := TX8) (N := 56) hx hb hts tb_wsX80 hown hK.1 hP 0 rfl rfl 54 (by decide) (hts _ tb_26_13) (fun _ h9 => h9) rfl dX8_least_142 ?_
        refine lv_aload_n hx hb dX8_least_145 rfl (lv_at hl 0 rfl) ?_
        refine va_get (D := D) (ci := 8) (v := .long (tmF.inLow2 u8.2)) (C := RX8) (T := TX8) (N := 56) hx hb hts tb_wsX80 hown hK.1 hP 0 rfl rfl 55 (by decide) (hts _ tb_26_14) (fun _ h9 => h9) rfl dX8_least_146 ?_
        obtain ⟨u10, hu10, hf⟩ := zbd hf
        refine zthen_i hA hD hS (zrunV (As := [.int v5, .int v7, .long (tmF.inUp u8.2), .long (tmF.inLow u8.2), .long (tmF.inUp2 u8.2), .long (tmF.inLow2 u8.2)]) (rest := [.int v6]) hC hP hD 0 rfl rfl (c_X8_does l D cI cJ cZ h  mG mH mR mW mS mK mD mN mO mB mM u8.2 v5 v7 (tmF.inUp u8.2) (tmF.inLow u8.2) (tmF.inUp2 u8.2) (tmF.inLow2 u8.2) u10 hu10 H.size) kRX8_165 rfl rfl ⟨by decide, by decide⟩ rfl hl.1 rfl (Nat.le_of_ble_eq_true rfl) dX8_least_149) (fun H locs hP hD hS => ?_)
        refine lv_if_ne (tgt := 159) hx hb dX8_least_152 (by decide) (fun c11 => ?_) (fun c11 => ?_)
        · replace hf := zif_f hf c11
          exact t_X8_least_b159 hC N k41 hk41 k53 hk53 (X8_least_b107 N k41 k53 mG n) ih  mH u8.2 v2 v3 v4 v5 v7 v6 H locs ls hP hD hS (lv_sub hl [0, 1, 2, 3, 4, 6] rfl) hf
        · replace hf := zif_t hf c11
          refine lv_iconst (v := 1) hx hb dX8_least_155 (by decide) ?_
          refine lv_goto (tgt := 160) hx hb dX8_least_156 (by decide) ?_
          exact t_X8_least_b160 hC N k41 hk41 k53 hk53 (X8_least_b107 N k41 k53 mG n) ih  mH u8.2 v2 v3 v4 v5 v7 (1 : Int32) v6 H locs ls hP hD hS (lv_sub hl [0, 1, 2, 3, 4, 6] rfl) hf
set_option maxHeartbeats 4000000 in
set_option maxRecDepth 100000 in
theorem t_X8_least_b53 {p : Program} {l : Launch} {e : Env} {s : State} {m : MethodId} {args : Array Value} {below : List Frame} {meth : Method} {c : Code} {A : Nat → Prop} {D : va_G} {cI cJ cZ : ClassId} {h : Nat → Nat} (hC : zCx p s m args meth c A D (zty cI cJ cZ) cX8_least RX8 8 (some .int)) (N : Nat) {mG : tmG} {mR : tmR} {mW : tmW} {mS : tmS} {mK : tmK} {mD : tmD} {mN : tmN} {mO : tmO} {mB : tmB} {mM : tmM} {u : Int32 × tmH × tmF} (k41 : tmH → tmF → Int32 → Option (Int32 × tmH × tmF)) (hk41 : ∀ (mH : tmH) (mF : tmF) (v2 : Int32) (H : Heap) (locs : List Loc) (ls : Array Slot), va_P D vwCl (zWM cI cJ cZ h mG mH mR mW mS mK mD mN mO mB mM mF) H → va_D A (zWM cI cJ cZ h mG mH mR mW mS mK mD mN mO mB mM mF) → va_S A s.heap H locs → lv_has ls 8 [(0, .ref (h 0)), (2, .int v2)] → k41 mH mF v2 = some u → W p l e ({ frames := 4, cells := 0, slots := 0, locals := 114 } : Room) s m args below meth c H locs 0 0 (MQ below (zQi D A (zWM cI cJ cZ h mG u.2.1 mR mW mS mK mD mN mO mB mM u.2.2) (u.1)) args s 0 0 A) (F0 m 41 ls [])) : ∀ (n : Nat) (mH : tmH) (mF : tmF) (v2 : Int32) (v3 : Int32) (v4 : Int32) (v5 : Int32) (H : Heap) (locs : List Loc) (ls : Array Slot), va_P D vwCl (zWM cI cJ cZ h mG mH mR mW mS mK mD mN mO mB mM mF) H → va_D A (zWM cI cJ cZ h mG mH mR mW mS mK mD mN mO mB mM mF) → va_S A s.heap H locs → lv_has ls 8 [(0, .ref (h 0)), (2, .int v2), (3, .int v3), (4, .int v4), (5, .int v5)] → X8_least_b53 N k41 mG n mH mF v2 v3 v4 v5 = some u → W p l e ({ frames := 4, cells := 0, slots := 0, locals := 114 } : Room) s m args below meth c H locs 0 0 (MQ below (zQi D A (zWM cI cJ cZ h mG u.2.1 mR mW mS mK mD mN mO mB mM u.2.2) (u.1)) args s 0 0 A) (F0 m 53 ls []) := by
  intro n
  induction n with
  | zero =>
    intro mH mF v2 v3 v4 v5 H locs ls hP hD hS hl hf
    cases hf
  | succ n ih =>
    intro mH mF v2 v3 v4 v5 H locs ls hP hD hS hl hf
    obtain ⟨hx, hb, hml, hown, hts, hK, hr, hlocks, hA⟩ := id hC
    rw [X8_least_b53] at hf
    refine lv_iload hx hb dX8_least_53 (lv_at hl 4 rfl) ?_
    refine lv_aload_n hx hb dX8_least_55 rfl (lv_at hl 0 rfl) ?_
    refine va_get (D := D) (ci := 8) (v := .int (tmG.pieces mG)) (C := RX8) (T := TX8) (N := 56) hx hb hts tb_wsX80 hown hK.1 hP 0 rfl rfl 0 (by decide) (hts _ tb_8_4) (fun _ h9 => h9) rfl dX8_least_56 ?_
    refine lv_icmp_ge (tgt := 198) hx hb dX8_least_59 (by decide) (fun c12 => ?_) (fun c12 => ?_)
    · replace hf := zif_t hf c12
      exact t_X8_least_b198 hC N k41 hk41  mH mF v2 v3 H locs ls hP hD hS (lv_sub hl [0, 1, 2] rfl) hf
    · replace hf := zif_f hf c12
      refine lv_iload_n hx hb dX8_least_62 rfl (lv_at hl 1 rfl) ?_
      refine lv_iload hx hb dX8_least_63 (lv_at hl 4 rfl) ?_
      obtain ⟨u13, hu13, hf⟩ := zbd hf
      refine zthen_i hA hD hS (zrunS (As := [.int v2, .int v5]) (rest := []) hC hP hD (c_X8_digit l D cI cJ cZ h N mG mH mR mW mS mK mD mN mO mB mM mF v2 v5 u13 hu13 H.size) kRX8_273 rfl rfl ⟨by decide, by decide⟩ rfl hl.1 rfl (Nat.le_of_ble_eq_true rfl) dX8_least_65) (fun H locs hP hD hS => ?_)
      refine lv_if_ne (tgt := 186) hx hb dX8_least_68 (by decide) (fun c14 => ?_) (fun c14 => ?_)
      · replace hf := zif_f hf c14
        exact t_X8_least_b186 hC N k41 hk41 (X8_least_b53 N k41 mG n) ih  mH mF v2 v3 v4 v5 H locs ls hP hD hS (lv_sub hl [0, 1, 2, 3, 4] rfl) hf
      · replace hf := zif_t hf c14
        refine lv_aload_n hx hb dX8_least_71 rfl (lv_at hl 0 rfl) ?_
        refine lv_iload hx hb dX8_least_72 (lv_at hl 4 rfl) ?_
        refine lv_iload_n hx hb dX8_least_74 rfl (lv_at hl 1 rfl) ?_
        obtain ⟨u15, hu15, hf⟩ := zbd hf
        refine zthen_i hA hD hS (zrunV (As := [.int v5, .int v2]) (rest := []) hC hP hD 0 rfl rfl (c_X8_isIn l D cI cJ cZ h N mG mH mR mW mS mK mD mN mO mB mM mF v5 v2 u15 hu15 H.size) kRX8_276 rfl rfl ⟨by decide, by decide⟩ rfl hl.1 rfl (Nat.le_of_ble_eq_true rfl) dX8_least_75) (fun H locs hP hD hS => ?_)
        refine lv_if_eq (tgt := 186) hx hb dX8_least_78 (by decide) (fun c16 => ?_) (fun c16 => ?_)
        · replace hf := zif_t hf c16
          exact t_X8_least_b186 hC N k41 hk41 (X8_least_b53 N k41 mG n) ih  mH u15.2 v2 v3 v4 v5 H locs ls hP hD hS (lv_sub hl [0, 1, 2, 3, 4] rfl) hf
        · replace hf := zif_f hf c16
          refine lv_aload_n hx hb dX8_least_81 rfl (lv_at hl 0 rfl) ?_
          refine va_get (D := D) (ci := 8) (v := .ref (h 37)) (C := RX8) (T := TX8) (N := 56) hx hb hts tb_wsX80 hown hK.1 hP 0 rfl rfl 51 (by decide) (hts _ tb_6_19) (fun _ h9 => h9) rfl dX8_least_82 ?_
          refine lv_iload_n hx hb dX8_least_85 rfl (lv_at hl 1 rfl) ?_
          refine lv_iload hx hb dX8_least_86 (lv_at hl 3 rfl) ?_
          refine lv_iadd hx hb dX8_least_88 ?_
          obtain ⟨h17, hf⟩ := zck_s hf
          refine va_iald hx hb hK.1 hP 37 0 rfl rfl h17 dX8_least_89 ?_
          refine lv_aload_n hx hb dX8_least_90 rfl (lv_at hl 0 rfl) ?_
          refine va_get (D := D) (ci := 8) (v := .ref (h 37)) (C := RX8) (T := TX8) (N := 56) hx hb hts tb_wsX80 hown hK.1 hP 0 rfl rfl 51 (by decide) (hts _ tb_6_19) (fun _ h9 => h9) rfl dX8_least_91 ?_
          refine lv_iload_n hx hb dX8_least_94 rfl (lv_at hl 1 rfl) ?_
          refine lv_iconst (v := 2) hx hb dX8_least_95 (by decide) ?_
          refine lv_iload hx hb dX8_least_96 (lv_at hl 3 rfl) ?_
          refine lv_imul hx hb dX8_least_98 ?_
          refine lv_iadd hx hb dX8_least_99 ?_
          obtain ⟨h18, hf⟩ := zck_s hf
          refine va_iald hx hb hK.1 hP 37 0 rfl rfl h18 dX8_least_100 ?_
          refine lv_iadd hx hb dX8_least_101 ?_
          refine lv_topi (fun x19 ex19 => ?_)
          replace hf := zl_n ex19 hf
          refine lv_istore (lv' := [(6, .int x19), (0, .ref (h 0)), (2, .int v2), (3, .int v3), (4, .int v4), (5, .int v5)]) hx hb dX8_least_102 hl (by decide) rfl (fun ls hl => ?_)
          refine lv_iconst (v := 0) hx hb dX8_least_104 (by decide) ?_
          refine lv_istore (lv' := [(7, .int (0 : Int32)), (6, .int x19), (0, .ref (h 0)), (2, .int v2), (3, .int v3), (4, .int v4), (5, .int v5)]) hx hb dX8_least_105 hl (by decide) rfl (fun ls hl => ?_)
          exact t_X8_least_b107 hC N k41 hk41 (X8_least_b53 N k41 mG n) ih  N mH u15.2 v2 v3 v4 v5 x19 (0 : Int32) H locs ls hP hD hS (lv_sub hl [2, 3, 4, 5, 6, 1, 0] rfl) hf
set_option maxHeartbeats 4000000 in
set_option maxRecDepth 100000 in
theorem t_X8_least_b41 {p : Program} {l : Launch} {e : Env} {s : State} {m : MethodId} {args : Array Value} {below : List Frame} {meth : Method} {c : Code} {A : Nat → Prop} {D : va_G} {cI cJ cZ : ClassId} {h : Nat → Nat} (hC : zCx p s m args meth c A D (zty cI cJ cZ) cX8_least RX8 8 (some .int)) (N : Nat) (mG : tmG) (mR : tmR) (mW : tmW) (mS : tmS) (mK : tmK) (mD : tmD) (mN : tmN) (mO : tmO) (mB : tmB) (mM : tmM) (u : Int32 × tmH × tmF) : ∀ (n : Nat) (mH : tmH) (mF : tmF) (v2 : Int32) (H : Heap) (locs : List Loc) (ls : Array Slot), va_P D vwCl (zWM cI cJ cZ h mG mH mR mW mS mK mD mN mO mB mM mF) H → va_D A (zWM cI cJ cZ h mG mH mR mW mS mK mD mN mO mB mM mF) → va_S A s.heap H locs → lv_has ls 8 [(0, .ref (h 0)), (2, .int v2)] → X8_least_b41 N mG n mH mF v2 = some u → W p l e ({ frames := 4, cells := 0, slots := 0, locals := 114 } : Room) s m args below meth c H locs 0 0 (MQ below (zQi D A (zWM cI cJ cZ h mG u.2.1 mR mW mS mK mD mN mO mB mM u.2.2) (u.1)) args s 0 0 A) (F0 m 41 ls []) := by
  intro n
  induction n with
  | zero =>
    intro mH mF v2 H locs ls hP hD hS hl hf
    cases hf
  | succ n ih =>
    intro mH mF v2 H locs ls hP hD hS hl hf
    obtain ⟨hx, hb, hml, hown, hts, hK, hr, hlocks, hA⟩ := id hC
    rw [X8_least_b41] at hf
    refine lv_iload_n hx hb dX8_least_41 rfl (lv_at hl 1 rfl) ?_
    refine lv_if_lt (tgt := 211) hx hb dX8_least_42 (by decide) (fun c20 => ?_) (fun c20 => ?_)
    · replace hf := zif_t hf c20
      exact t_X8_least_b211 hC N mG mR mW mS mK mD mN mO mB mM u mH mF H locs ls hP hD hS (lv_sub hl [0] rfl) hf
    · replace hf := zif_f hf c20
      refine lv_iconst (v := 0) hx hb dX8_least_45 (by decide) ?_
      refine lv_istore_n (lv' := [(3, .int (0 : Int32)), (0, .ref (h 0)), (2, .int v2)]) hx hb dX8_least_46 rfl hl (by decide) rfl (fun ls hl => ?_)
      refine lv_iconst (v := 1) hx hb dX8_least_47 (by decide) ?_
      refine lv_istore (lv' := [(4, .int (1 : Int32)), (3, .int (0 : Int32)), (0, .ref (h 0)), (2, .int v2)]) hx hb dX8_least_48 hl (by decide) rfl (fun ls hl => ?_)
      refine lv_iconst (v := 0) hx hb dX8_least_50 (by decide) ?_
      refine lv_istore (lv' := [(5, .int (0 : Int32)), (4, .int (1 : Int32)), (3, .int (0 : Int32)), (0, .ref (h 0)), (2, .int v2)]) hx hb dX8_least_51 hl (by decide) rfl (fun ls hl => ?_)
      exact t_X8_least_b53 hC N (X8_least_b41 N mG n) ih  N mH mF v2 (0 : Int32) (1 : Int32) (0 : Int32) H locs ls hP hD hS (lv_sub hl [3, 4, 2, 1, 0] rfl) hf
set_option maxHeartbeats 4000000 in
set_option maxRecDepth 100000 in
theorem t_X8_least_b37 {p : Program} {l : Launch} {e : Env} {s : State} {m : MethodId} {args : Array Value} {below : List Frame} {meth : Method} {c : Code} {A : Nat → Prop} {D : va_G} {cI cJ cZ : ClassId} {h : Nat → Nat} (hC : zCx p s m args meth c A D (zty cI cJ cZ) cX8_least RX8 8 (some .int)) (N : Nat) (mG : tmG) (mR : tmR) (mW : tmW) (mS : tmS) (mK : tmK) (mD : tmD) (mN : tmN) (mO : tmO) (mB : tmB) (mM : tmM) (u : Int32 × tmH × tmF) : ∀ (mH : tmH) (mF : tmF) (v1 : Int32) (H : Heap) (locs : List Loc) (ls : Array Slot), va_P D vwCl (zWM cI cJ cZ h mG mH mR mW mS mK mD mN mO mB mM mF) H → va_D A (zWM cI cJ cZ h mG mH mR mW mS mK mD mN mO mB mM mF) → va_S A s.heap H locs → lv_has ls 8 [(0, .ref (h 0)), (1, .int v1)] → X8_least_b37 N mG mH mF v1 = some u → W p l e ({ frames := 4, cells := 0, slots := 0, locals := 114 } : Room) s m args below meth c H locs 0 0 (MQ below (zQi D A (zWM cI cJ cZ h mG u.2.1 mR mW mS mK mD mN mO mB mM u.2.2) (u.1)) args s 0 0 A) (F0 m 37 ls []) := by
  intro mH mF v1 H locs ls hP hD hS hl hf
  obtain ⟨hx, hb, hml, hown, hts, hK, hr, hlocks, hA⟩ := id hC
  unfold X8_least_b37 at hf
  refine lv_iload_n hx hb dX8_least_37 rfl (lv_at hl 1 rfl) ?_
  refine lv_iconst (v := 1) hx hb dX8_least_38 (by decide) ?_
  refine lv_isub hx hb dX8_least_39 ?_
  refine lv_topi (fun x21 ex21 => ?_)
  replace hf := zl_n ex21 hf
  refine lv_istore_n (lv' := [(2, .int x21), (0, .ref (h 0)), (1, .int v1)]) hx hb dX8_least_40 rfl hl (by decide) rfl (fun ls hl => ?_)
  exact t_X8_least_b41 hC N mG mR mW mS mK mD mN mO mB mM u N mH mF x21 H locs ls hP hD hS (lv_sub hl [1, 0] rfl) hf
set_option maxHeartbeats 4000000 in
set_option maxRecDepth 100000 in
theorem t_X8_least_b19 {p : Program} {l : Launch} {e : Env} {s : State} {m : MethodId} {args : Array Value} {below : List Frame} {meth : Method} {c : Code} {A : Nat → Prop} {D : va_G} {cI cJ cZ : ClassId} {h : Nat → Nat} (hC : zCx p s m args meth c A D (zty cI cJ cZ) cX8_least RX8 8 (some .int)) (N : Nat) (mG : tmG) (mR : tmR) (mW : tmW) (mS : tmS) (mK : tmK) (mD : tmD) (mN : tmN) (mO : tmO) (mB : tmB) (mM : tmM) (u : Int32 × tmH × tmF) : ∀ (n : Nat) (mH : tmH) (mF : tmF) (v1 : Int32) (v2 : Int32) (H : Heap) (locs : List Loc) (ls : Array Slot), va_P D vwCl (zWM cI cJ cZ h mG mH mR mW mS mK mD mN mO mB mM mF) H → va_D A (zWM cI cJ cZ h mG mH mR mW mS mK mD mN mO mB mM mF) → va_S A s.heap H locs → lv_has ls 8 [(0, .ref (h 0)), (1, .int v1), (2, .int v2)] → X8_least_b19 N mG n mH mF v1 v2 = some u → W p l e ({ frames := 4, cells := 0, slots := 0, locals := 114 } : Room) s m args below meth c H locs 0 0 (MQ below (zQi D A (zWM cI cJ cZ h mG u.2.1 mR mW mS mK mD mN mO mB mM u.2.2) (u.1)) args s 0 0 A) (F0 m 19 ls []) := by
  intro n
  induction n with
  | zero =>
    intro mH mF v1 v2 H locs ls hP hD hS hl hf
    cases hf
  | succ n ih =>
    intro mH mF v1 v2 H locs ls hP hD hS hl hf
    obtain ⟨hx, hb, hml, hown, hts, hK, hr, hlocks, hA⟩ := id hC
    rw [X8_least_b19] at hf
    refine lv_iload_n hx hb dX8_least_19 rfl (lv_at hl 2 rfl) ?_
    refine lv_aload_n hx hb dX8_least_20 rfl (lv_at hl 0 rfl) ?_
    refine va_get (D := D) (ci := 8) (v := .int (tmG.pieces mG)) (C := RX8) (T := TX8) (N := 56) hx hb hts tb_wsX80 hown hK.1 hP 0 rfl rfl 0 (by decide) (hts _ tb_8_4) (fun _ h9 => h9) rfl dX8_least_21 ?_
    refine lv_icmp_ge (tgt := 37) hx hb dX8_least_24 (by decide) (fun c22 => ?_) (fun c22 => ?_)
    · replace hf := zif_t hf c22
      exact t_X8_least_b37 hC N mG mR mW mS mK mD mN mO mB mM u mH mF v1 H locs ls hP hD hS (lv_sub hl [0, 1] rfl) hf
    · replace hf := zif_f hf c22
      refine lv_iload_n hx hb dX8_least_27 rfl (lv_at hl 1 rfl) ?_
      refine lv_iconst (v := 3) hx hb dX8_least_28 (by decide) ?_
      refine lv_imul hx hb dX8_least_29 ?_
      refine lv_topi (fun x23 ex23 => ?_)
      replace hf := zl_n ex23 hf
      refine lv_istore_n (lv' := [(1, .int x23), (0, .ref (h 0)), (2, .int v2)]) hx hb dX8_least_30 rfl hl (by decide) rfl (fun ls hl => ?_)
      refine lv_iinc (v := (v2 + (1 : Int32))) (lv' := [(2, .int (v2 + (1 : Int32))), (1, .int x23), (0, .ref (h 0))]) hx hb dX8_least_31 hl (k := 2) rfl rfl (by decide) rfl (fun ls hl => ?_)
      refine lv_goto (tgt := 19) hx hb dX8_least_34 (by decide) ?_
      exact ih mH mF x23 (v2 + (1 : Int32)) H locs ls hP hD hS (lv_sub hl [2, 1, 0] rfl) hf
set_option maxHeartbeats 4000000 in
set_option maxRecDepth 100000 in
theorem c_X8_least (l : Launch) (D : va_G) (cI cJ cZ : ClassId) (h : Nat → Nat) (N : Nat) (mG : tmG) (mH : tmH) (mR : tmR) (mW : tmW) (mS : tmS) (mK : tmK) (mD : tmD) (mN : tmN) (mO : tmO) (mB : tmB) (mM : tmM) (mF : tmF)  (u : Int32 × tmH × tmF) (hf : X8_least N mG mH mF = some u) (sz : Nat) : Met l yX8_least (Cond.code yX8_least cX8_least 8 (some .int) :: tb_L) ({ frames := 4, cells := 0, slots := 0, locals := 114 } : Room) (zPre D (zty cI cJ cZ) (zWM cI cJ cZ h mG mH mR mW mS mK mD mN mO mB mM mF) sz [.ref (h 0)]) (zQi D (va_A (zWM cI cJ cZ h mG mH mR mW mS mK mD mN mO mB mM mF) sz) (zWM cI cJ cZ h mG u.2.1 mR mW mS mK mD mN mO mB mM u.2.2) (u.1)) 0 0 (va_A (zWM cI cJ cZ h mG mH mR mW mS mK mD mN mO mB mM mF) sz) := by
  refine zMet (Qc := fun A => zQi D A (zWM cI cJ cZ h mG u.2.1 mR mW mS mK mD mN mO mB mM u.2.2) (u.1)) (by decide) rfl (Nat.le_of_ble_eq_true rfl) ?_
  intro p e s m args below meth c A ls hC _ hP hD hS hl
  replace hl : lv_has ls 8 [(0, .ref (h 0))] := hl
  obtain ⟨hx, hb, hml, hown, hts, hK, hr, hlocks, hA⟩ := id hC
  unfold X8_least at hf
  obtain ⟨H, hH⟩ : ∃ H, H = s.heap := ⟨_, rfl⟩
  rw [← hH] at hP
  replace hS : va_S A s.heap H [] := by rw [hH]; exact hS
  show W p l e _ s m args below meth c s.heap [] 0 0 _ _
  rw [← hH]
  clear hH
  obtain ⟨locs, hlo⟩ : ∃ x : List Loc, x = [] := ⟨_, rfl⟩
  rw [← hlo] at hS ⊢
  clear hlo
  refine lv_aload_n hx hb dX8_least_0 rfl (lv_at hl 0 rfl) ?_
  refine lv_iconst (v := 0) hx hb dX8_least_1 (by decide) ?_
  refine va_put (D := D) (ci := 8) (v := .int (0 : Int32)) (ty := .int) (C := RX8) (T := TX8) (N := 56) hx hb hts tb_wsX80 tyX8 tyX8_ok nmX8 hown hK.1 hP hD hS 0 rfl rfl 5 (by decide) (hts _ tb_8_3) (fun _ h9 => h9) rfl (by decide +kernel) rfl rfl (Nat.le_of_ble_eq_true rfl) dX8_least_2 (fun H locs hP hD hS => ?_)
  replace hP : va_P D vwCl (zWM cI cJ cZ h mG (tmH.s_thrown mH (0 : Int32)) mR mW mS mK mD mN mO mB mM mF) H := hP
  replace hD : va_D A (zWM cI cJ cZ h mG (tmH.s_thrown mH (0 : Int32)) mR mW mS mK mD mN mO mB mM mF) := hD
  refine lv_aload_n hx hb dX8_least_5 rfl (lv_at hl 0 rfl) ?_
  refine va_get (D := D) (ci := 8) (v := .int (tmG.pieces mG)) (C := RX8) (T := TX8) (N := 56) hx hb hts tb_wsX80 hown hK.1 hP 0 rfl rfl 0 (by decide) (hts _ tb_8_4) (fun _ h9 => h9) rfl dX8_least_6 ?_
  refine lv_iconst (v := 5) hx hb dX8_least_9 (by decide) ?_
  refine lv_icmp_le (tgt := 15) hx hb dX8_least_10 (by decide) (fun c24 => ?_) (fun c24 => ?_)
  · replace hf := zif_t hf c24
    refine lv_iconst (v := 1) hx hb dX8_least_15 (by decide) ?_
    refine lv_istore_n (lv' := [(1, .int (1 : Int32)), (0, .ref (h 0))]) hx hb dX8_least_16 rfl hl (by decide) rfl (fun ls hl => ?_)
    refine lv_iconst (v := 0) hx hb dX8_least_17 (by decide) ?_
    refine lv_istore_n (lv' := [(2, .int (0 : Int32)), (1, .int (1 : Int32)), (0, .ref (h 0))]) hx hb dX8_least_18 rfl hl (by decide) rfl (fun ls hl => ?_)
    exact t_X8_least_b19 hC N mG mR mW mS mK mD mN mO mB mM u N (tmH.s_thrown mH (0 : Int32)) mF (1 : Int32) (0 : Int32) H locs ls hP hD hS (lv_sub hl [2, 1, 0] rfl) hf
  · replace hf := zif_f hf c24
    refine lv_iconst (v := -1) hx hb dX8_least_13 (by decide) ?_
    have hu := Option.some.inj hf
    subst hu
    exact z_iret hC hP hD hS dX8_least_14
set_option maxHeartbeats 4000000 in
set_option maxRecDepth 100000 in
theorem c_X8_swap (l : Launch) (D : va_G) (cI cJ cZ : ClassId) (h : Nat → Nat) (mG : tmG) (mH : tmH) (mR : tmR) (mW : tmW) (mS : tmS) (mK : tmK) (mD : tmD) (mN : tmN) (mO : tmO) (mB : tmB) (mM : tmM) (mF : tmF) (a1 : Int32) (a2 : Int32) (u : tmO) (hf : X8_swap mO a1 a2 = some u) (sz : Nat) : Met l yX8_swap (Cond.code yX8_swap cX8_swap 4 none :: tb_L) ({ frames := 0, cells := 0, slots := 0, locals := 0 } : Room) (zPre D (zty cI cJ cZ) (zWM cI cJ cZ h mG mH mR mW mS mK mD mN mO mB mM mF) sz [.ref (h 0), .int a1, .int a2]) (zQv D (va_A (zWM cI cJ cZ h mG mH mR mW mS mK mD mN mO mB mM mF) sz) (zWM cI cJ cZ h mG mH mR mW mS mK mD mN u mB mM mF)) 0 0 (va_A (zWM cI cJ cZ h mG mH mR mW mS mK mD mN mO mB mM mF) sz) := by
  refine zMet (Qc := fun A => zQv D A (zWM cI cJ cZ h mG mH mR mW mS mK mD mN u mB mM mF)) (by decide) rfl (Nat.le_of_ble_eq_true rfl) ?_
  intro p e s m args below meth c A ls hC _ hP hD hS hl
  replace hl : lv_has ls 4 [(0, .ref (h 0)), (1, .int a1), (2, .int a2)] := hl
  obtain ⟨hx, hb, hml, hown, hts, hK, hr, hlocks, hA⟩ := id hC
  unfold X8_swap at hf
  obtain ⟨H, hH⟩ : ∃ H, H = s.heap := ⟨_, rfl⟩
  rw [← hH] at hP
  replace hS : va_S A s.heap H [] := by rw [hH]; exact hS
  show W p l e _ s m args below meth c s.heap [] 0 0 _ _
  rw [← hH]
  clear hH
  obtain ⟨locs, hlo⟩ : ∃ x : List Loc, x = [] := ⟨_, rfl⟩
  rw [← hlo] at hS ⊢
  clear hlo
  refine lv_aload_n hx hb dX8_swap_0 rfl (lv_at hl 0 rfl) ?_
  refine va_get (D := D) (ci := 8) (v := .ref (h 30)) (C := RX8) (T := TX8) (N := 56) hx hb hts tb_wsX80 hown hK.1 hP 0 rfl rfl 40 (by decide) (hts _ tb_6_12) (fun _ h9 => h9) rfl dX8_swap_1 ?_
  refine lv_iload_n hx hb dX8_swap_4 rfl (lv_at hl 1 rfl) ?_
  obtain ⟨h1, hf⟩ := zck_s hf
  refine va_iald hx hb hK.1 hP 30 0 rfl rfl h1 dX8_swap_5 ?_
  refine lv_topi (fun x2 ex2 => ?_)
  replace hf := zl_n ex2 hf
  refine lv_istore_n (lv' := [(3, .int x2), (0, .ref (h 0)), (1, .int a1), (2, .int a2)]) hx hb dX8_swap_6 rfl hl (by decide) rfl (fun ls hl => ?_)
  refine lv_aload_n hx hb dX8_swap_7 rfl (lv_at hl 1 rfl) ?_
  refine va_get (D := D) (ci := 8) (v := .ref (h 30)) (C := RX8) (T := TX8) (N := 56) hx hb hts tb_wsX80 hown hK.1 hP 0 rfl rfl 40 (by decide) (hts _ tb_6_12) (fun _ h9 => h9) rfl dX8_swap_8 ?_
  refine lv_iload_n hx hb dX8_swap_11 rfl (lv_at hl 2 rfl) ?_
  refine lv_aload_n hx hb dX8_swap_12 rfl (lv_at hl 1 rfl) ?_
  refine va_get (D := D) (ci := 8) (v := .ref (h 30)) (C := RX8) (T := TX8) (N := 56) hx hb hts tb_wsX80 hown hK.1 hP 0 rfl rfl 40 (by decide) (hts _ tb_6_12) (fun _ h9 => h9) rfl dX8_swap_13 ?_
  refine lv_iload_n hx hb dX8_swap_16 rfl (lv_at hl 3 rfl) ?_
  obtain ⟨h3, hf⟩ := zck_s hf
  refine va_iald hx hb hK.1 hP 30 0 rfl rfl h3 dX8_swap_17 ?_
  obtain ⟨h4, hf⟩ := zck_s hf
  refine va_iast hx hb hK.1 hP hD hS 30 0 rfl rfl h4 dX8_swap_18 (fun H locs hP hD hS => ?_)
  replace hP : va_P D vwCl (zWM cI cJ cZ h mG mH mR mW mS mK mD mN (tmO.s_orderOf mO (upd (tmO.orderOf mO) a1.toNatClampNeg ((tmO.orderOf mO) a2.toNatClampNeg))) mB mM mF) H := hP
  replace hD : va_D A (zWM cI cJ cZ h mG mH mR mW mS mK mD mN (tmO.s_orderOf mO (upd (tmO.orderOf mO) a1.toNatClampNeg ((tmO.orderOf mO) a2.toNatClampNeg))) mB mM mF) := hD
  refine lv_aload_n hx hb dX8_swap_19 rfl (lv_at hl 1 rfl) ?_
  refine va_get (D := D) (ci := 8) (v := .ref (h 30)) (C := RX8) (T := TX8) (N := 56) hx hb hts tb_wsX80 hown hK.1 hP 0 rfl rfl 40 (by decide) (hts _ tb_6_12) (fun _ h9 => h9) rfl dX8_swap_20 ?_
  refine lv_iload_n hx hb dX8_swap_23 rfl (lv_at hl 3 rfl) ?_
  refine lv_iload_n hx hb dX8_swap_24 rfl (lv_at hl 0 rfl) ?_
  obtain ⟨h5, hf⟩ := zck_s hf
  refine va_iast hx hb hK.1 hP hD hS 30 0 rfl rfl h5 dX8_swap_25 (fun H locs hP hD hS => ?_)
  replace hP : va_P D vwCl (zWM cI cJ cZ h mG mH mR mW mS mK mD mN (tmO.s_orderOf mO (upd (upd (tmO.orderOf mO) a1.toNatClampNeg ((tmO.orderOf mO) a2.toNatClampNeg)) a2.toNatClampNeg x2)) mB mM mF) H := hP
  replace hD : va_D A (zWM cI cJ cZ h mG mH mR mW mS mK mD mN (tmO.s_orderOf mO (upd (upd (tmO.orderOf mO) a1.toNatClampNeg ((tmO.orderOf mO) a2.toNatClampNeg)) a2.toNatClampNeg x2)) mB mM mF) := hD
  have hu := Option.some.inj hf
  subst hu
  exact z_vret hC hP hD hS dX8_swap_26
set_option maxHeartbeats 4000000 in
set_option maxRecDepth 100000 in
theorem t_X8_sum_b186 {p : Program} {l : Launch} {e : Env} {s : State} {m : MethodId} {args : Array Value} {below : List Frame} {meth : Method} {c : Code} {A : Nat → Prop} {D : va_G} {cI cJ cZ : ClassId} {h : Nat → Nat} (hC : zCx p s m args meth c A D (zty cI cJ cZ) cX8_sum RX8 6 (some .int)) (N : Nat) (mG : tmG) (mB : tmB) (mM : tmM) (mF : tmF) (u : Int32 × tmH × tmR × tmW × tmS × tmK × tmD × tmN × tmO) : ∀ (mH : tmH) (mR : tmR) (mW : tmW) (mS : tmS) (mK : tmK) (mD : tmD) (mN : tmN) (mO : tmO) (v1 : Int32) (H : Heap) (locs : List Loc) (ls : Array Slot), va_P D vwCl (zWM cI cJ cZ h mG mH mR mW mS mK mD mN mO mB mM mF) H → va_D A (zWM cI cJ cZ h mG mH mR mW mS mK mD mN mO mB mM mF) → va_S A s.heap H locs → lv_has ls 6 [(1, .int v1)] → X8_sum_b186 N mG mH mR mW mS mK mD mN mO v1 = some u → W p l e ({ frames := 6, cells := 0, slots := 0, locals := 173 } : Room) s m args below meth c H locs 0 0 (MQ below (zQi D A (zWM cI cJ cZ h mG u.2.1 u.2.2.1 u.2.2.2.1 u.2.2.2.2.1 u.2.2.2.2.2.1 u.2.2.2.2.2.2.1 u.2.2.2.2.2.2.2.1 u.2.2.2.2.2.2.2.2 mB mM mF) (u.1)) args s 0 0 A) (F0 m 186 ls []) := by
  intro mH mR mW mS mK mD mN mO v1 H locs ls hP hD hS hl hf
  obtain ⟨hx, hb, hml, hown, hts, hK, hr, hlocks, hA⟩ := id hC
  unfold X8_sum_b186 at hf
  refine lv_iload_n hx hb dX8_sum_186 rfl (lv_at hl 0 rfl) ?_
  have hu := Option.some.inj hf
  subst hu
  exact z_iret hC hP hD hS dX8_sum_187
set_option maxHeartbeats 4000000 in
set_option maxRecDepth 100000 in
theorem t_X8_sum_b183 {p : Program} {l : Launch} {e : Env} {s : State} {m : MethodId} {args : Array Value} {below : List Frame} {meth : Method} {c : Code} {A : Nat → Prop} {D : va_G} {cI cJ cZ : ClassId} {h : Nat → Nat} (hC : zCx p s m args meth c A D (zty cI cJ cZ) cX8_sum RX8 6 (some .int)) (N : Nat) {mG : tmG} {mB : tmB} {mM : tmM} {mF : tmF} {u : Int32 × tmH × tmR × tmW × tmS × tmK × tmD × tmN × tmO} (k41 : tmH → tmR → tmW → tmS → tmK → tmD → tmN → tmO → Int32 → Int32 → Option (Int32 × tmH × tmR × tmW × tmS × tmK × tmD × tmN × tmO)) (hk41 : ∀ (mH : tmH) (mR : tmR) (mW : tmW) (mS : tmS) (mK : tmK) (mD : tmD) (mN : tmN) (mO : tmO) (v1 : Int32) (v2 : Int32) (H : Heap) (locs : List Loc) (ls : Array Slot), va_P D vwCl (zWM cI cJ cZ h mG mH mR mW mS mK mD mN mO mB mM mF) H → va_D A (zWM cI cJ cZ h mG mH mR mW mS mK mD mN mO mB mM mF) → va_S A s.heap H locs → lv_has ls 6 [(0, .ref (h 0)), (1, .int v1), (2, .int v2)] → k41 mH mR mW mS mK mD mN mO v1 v2 = some u → W p l e ({ frames := 6, cells := 0, slots := 0, locals := 173 } : Room) s m args below meth c H locs 0 0 (MQ below (zQi D A (zWM cI cJ cZ h mG u.2.1 u.2.2.1 u.2.2.2.1 u.2.2.2.2.1 u.2.2.2.2.2.1 u.2.2.2.2.2.2.1 u.2.2.2.2.2.2.2.1 u.2.2.2.2.2.2.2.2 mB mM mF) (u.1)) args s 0 0 A) (F0 m 41 ls [])) : ∀ (mH : tmH) (mR : tmR) (mW : tmW) (mS : tmS) (mK : tmK) (mD : tmD) (mN : tmN) (mO : tmO) (v1 : Int32) (v2 : Int32) (H : Heap) (locs : List Loc) (ls : Array Slot), va_P D vwCl (zWM cI cJ cZ h mG mH mR mW mS mK mD mN mO mB mM mF) H → va_D A (zWM cI cJ cZ h mG mH mR mW mS mK mD mN mO mB mM mF) → va_S A s.heap H locs → lv_has ls 6 [(0, .ref (h 0)), (1, .int v1), (2, .int v2)] → X8_sum_b183 N k41 mG mH mR mW mS mK mD mN mO v1 v2 = some u → W p l e ({ frames := 6, cells := 0, slots := 0, locals := 173 } : Room) s m args below meth c H locs 0 0 (MQ below (zQi D A (zWM cI cJ cZ h mG u.2.1 u.2.2.1 u.2.2.2.1 u.2.2.2.2.1 u.2.2.2.2.2.1 u.2.2.2.2.2.2.1 u.2.2.2.2.2.2.2.1 u.2.2.2.2.2.2.2.2 mB mM mF) (u.1)) args s 0 0 A) (F0 m 183 ls []) := by
  intro mH mR mW mS mK mD mN mO v1 v2 H locs ls hP hD hS hl hf
  obtain ⟨hx, hb, hml, hown, hts, hK, hr, hlocks, hA⟩ := id hC
  unfold X8_sum_b183 at hf
  refine lv_goto (tgt := 41) hx hb dX8_sum_183 (by decide) ?_
  exact hk41 mH mR mW mS mK mD mN mO v1 v2 H locs ls hP hD hS (lv_sub hl [0, 1, 2] rfl) hf
set_option maxHeartbeats 4000000 in
set_option maxRecDepth 100000 in
theorem t_X8_sum_b159 {p : Program} {l : Launch} {e : Env} {s : State} {m : MethodId} {args : Array Value} {below : List Frame} {meth : Method} {c : Code} {A : Nat → Prop} {D : va_G} {cI cJ cZ : ClassId} {h : Nat → Nat} (hC : zCx p s m args meth c A D (zty cI cJ cZ) cX8_sum RX8 6 (some .int)) (N : Nat) {mG : tmG} {mB : tmB} {mM : tmM} {mF : tmF} {u : Int32 × tmH × tmR × tmW × tmS × tmK × tmD × tmN × tmO} (k41 : tmH → tmR → tmW → tmS → tmK → tmD → tmN → tmO → Int32 → Int32 → Option (Int32 × tmH × tmR × tmW × tmS × tmK × tmD × tmN × tmO)) (hk41 : ∀ (mH : tmH) (mR : tmR) (mW : tmW) (mS : tmS) (mK : tmK) (mD : tmD) (mN : tmN) (mO : tmO) (v1 : Int32) (v2 : Int32) (H : Heap) (locs : List Loc) (ls : Array Slot), va_P D vwCl (zWM cI cJ cZ h mG mH mR mW mS mK mD mN mO mB mM mF) H → va_D A (zWM cI cJ cZ h mG mH mR mW mS mK mD mN mO mB mM mF) → va_S A s.heap H locs → lv_has ls 6 [(0, .ref (h 0)), (1, .int v1), (2, .int v2)] → k41 mH mR mW mS mK mD mN mO v1 v2 = some u → W p l e ({ frames := 6, cells := 0, slots := 0, locals := 173 } : Room) s m args below meth c H locs 0 0 (MQ below (zQi D A (zWM cI cJ cZ h mG u.2.1 u.2.2.1 u.2.2.2.1 u.2.2.2.2.1 u.2.2.2.2.2.1 u.2.2.2.2.2.2.1 u.2.2.2.2.2.2.2.1 u.2.2.2.2.2.2.2.2 mB mM mF) (u.1)) args s 0 0 A) (F0 m 41 ls [])) : ∀ (n : Nat) (mH : tmH) (mR : tmR) (mW : tmW) (mS : tmS) (mK : tmK) (mD : tmD) (mN : tmN) (mO : tmO) (v1 : Int32) (v2 : Int32) (v4 : Int32) (v5 : Int32) (H : Heap) (locs : List Loc) (ls : Array Slot), va_P D vwCl (zWM cI cJ cZ h mG mH mR mW mS mK mD mN mO mB mM mF) H → va_D A (zWM cI cJ cZ h mG mH mR mW mS mK mD mN mO mB mM mF) → va_S A s.heap H locs → lv_has ls 6 [(0, .ref (h 0)), (1, .int v1), (2, .int v2), (4, .int v4), (5, .int v5)] → X8_sum_b159 N k41 mG n mH mR mW mS mK mD mN mO v1 v2 v4 v5 = some u → W p l e ({ frames := 6, cells := 0, slots := 0, locals := 173 } : Room) s m args below meth c H locs 0 0 (MQ below (zQi D A (zWM cI cJ cZ h mG u.2.1 u.2.2.1 u.2.2.2.1 u.2.2.2.2.1 u.2.2.2.2.2.1 u.2.2.2.2.2.2.1 u.2.2.2.2.2.2.2.1 u.2.2.2.2.2.2.2.2 mB mM mF) (u.1)) args s 0 0 A) (F0 m 159 ls []) := by
  intro n
  induction n with
  | zero =>
    intro mH mR mW mS mK mD mN mO v1 v2 v4 v5 H locs ls hP hD hS hl hf
    cases hf
  | succ n ih =>
    intro mH mR mW mS mK mD mN mO v1 v2 v4 v5 H locs ls hP hD hS hl hf
    obtain ⟨hx, hb, hml, hown, hts, hK, hr, hlocks, hA⟩ := id hC
    rw [X8_sum_b159] at hf
    refine lv_iload hx hb dX8_sum_159 (lv_at hl 3 rfl) ?_
    refine lv_iload hx hb dX8_sum_161 (lv_at hl 4 rfl) ?_
    refine lv_icmp_ge (tgt := 183) hx hb dX8_sum_163 (by decide) (fun c1 => ?_) (fun c1 => ?_)
    · replace hf := zif_t hf c1
      exact t_X8_sum_b183 hC N k41 hk41  mH mR mW mS mK mD mN mO v1 v2 H locs ls hP hD hS (lv_sub hl [0, 1, 2] rfl) hf
    · replace hf := zif_f hf c1
      refine lv_aload_n hx hb dX8_sum_166 rfl (lv_at hl 0 rfl) ?_
      refine lv_iload hx hb dX8_sum_167 (lv_at hl 3 rfl) ?_
      refine lv_iload hx hb dX8_sum_169 (lv_at hl 4 rfl) ?_
      obtain ⟨u2, hu2, hf⟩ := zbd hf
      refine zthen_v hA hD hS (zrunV (As := [.int v4, .int v5]) (rest := []) hC hP hD 0 rfl rfl (c_X8_swap l D cI cJ cZ h  mG mH mR mW mS mK mD mN mO mB mM mF v4 v5 u2 hu2 H.size) kRX8_279 rfl rfl ⟨by decide, by decide⟩ rfl hl.1 rfl (Nat.le_of_ble_eq_true rfl) dX8_sum_171) (fun H locs hP hD hS => ?_)
      refine lv_iinc (v := (v4 + (1 : Int32))) (lv' := [(4, .int (v4 + (1 : Int32))), (0, .ref (h 0)), (1, .int v1), (2, .int v2), (5, .int v5)]) hx hb dX8_sum_174 hl (k := 3) rfl rfl (by decide) rfl (fun ls hl => ?_)
      refine lv_iinc (v := (v5 + (-1 : Int32))) (lv' := [(5, .int (v5 + (-1 : Int32))), (4, .int (v4 + (1 : Int32))), (0, .ref (h 0)), (1, .int v1), (2, .int v2)]) hx hb dX8_sum_177 hl (k := 4) rfl rfl (by decide) rfl (fun ls hl => ?_)
      refine lv_goto (tgt := 159) hx hb dX8_sum_180 (by decide) ?_
      exact ih mH mR mW mS mK mD mN u2 v1 v2 (v4 + (1 : Int32)) (v5 + (-1 : Int32)) H locs ls hP hD hS (lv_sub hl [2, 3, 4, 1, 0] rfl) hf
set_option maxHeartbeats 4000000 in
set_option maxRecDepth 100000 in
theorem t_X8_sum_b139 {p : Program} {l : Launch} {e : Env} {s : State} {m : MethodId} {args : Array Value} {below : List Frame} {meth : Method} {c : Code} {A : Nat → Prop} {D : va_G} {cI cJ cZ : ClassId} {h : Nat → Nat} (hC : zCx p s m args meth c A D (zty cI cJ cZ) cX8_sum RX8 6 (some .int)) (N : Nat) {mG : tmG} {mB : tmB} {mM : tmM} {mF : tmF} {u : Int32 × tmH × tmR × tmW × tmS × tmK × tmD × tmN × tmO} (k41 : tmH → tmR → tmW → tmS → tmK → tmD → tmN → tmO → Int32 → Int32 → Option (Int32 × tmH × tmR × tmW × tmS × tmK × tmD × tmN × tmO)) (hk41 : ∀ (mH : tmH) (mR : tmR) (mW : tmW) (mS : tmS) (mK : tmK) (mD : tmD) (mN : tmN) (mO : tmO) (v1 : Int32) (v2 : Int32) (H : Heap) (locs : List Loc) (ls : Array Slot), va_P D vwCl (zWM cI cJ cZ h mG mH mR mW mS mK mD mN mO mB mM mF) H → va_D A (zWM cI cJ cZ h mG mH mR mW mS mK mD mN mO mB mM mF) → va_S A s.heap H locs → lv_has ls 6 [(0, .ref (h 0)), (1, .int v1), (2, .int v2)] → k41 mH mR mW mS mK mD mN mO v1 v2 = some u → W p l e ({ frames := 6, cells := 0, slots := 0, locals := 173 } : Room) s m args below meth c H locs 0 0 (MQ below (zQi D A (zWM cI cJ cZ h mG u.2.1 u.2.2.1 u.2.2.2.1 u.2.2.2.2.1 u.2.2.2.2.2.1 u.2.2.2.2.2.2.1 u.2.2.2.2.2.2.2.1 u.2.2.2.2.2.2.2.2 mB mM mF) (u.1)) args s 0 0 A) (F0 m 41 ls [])) : ∀ (mH : tmH) (mR : tmR) (mW : tmW) (mS : tmS) (mK : tmK) (mD : tmD) (mN : tmN) (mO : tmO) (v1 : Int32) (v2 : Int32) (v3 : Int32) (v4 : Int32) (H : Heap) (locs : List Loc) (ls : Array Slot), va_P D vwCl (zWM cI cJ cZ h mG mH mR mW mS mK mD mN mO mB mM mF) H → va_D A (zWM cI cJ cZ h mG mH mR mW mS mK mD mN mO mB mM mF) → va_S A s.heap H locs → lv_has ls 6 [(0, .ref (h 0)), (1, .int v1), (2, .int v2), (3, .int v3), (4, .int v4)] → X8_sum_b139 N k41 mG mH mR mW mS mK mD mN mO v1 v2 v3 v4 = some u → W p l e ({ frames := 6, cells := 0, slots := 0, locals := 173 } : Room) s m args below meth c H locs 0 0 (MQ below (zQi D A (zWM cI cJ cZ h mG u.2.1 u.2.2.1 u.2.2.2.1 u.2.2.2.2.1 u.2.2.2.2.2.1 u.2.2.2.2.2.2.1 u.2.2.2.2.2.2.2.1 u.2.2.2.2.2.2.2.2 mB mM mF) (u.1)) args s 0 0 A) (F0 m 139 ls []) := by
  intro mH mR mW mS mK mD mN mO v1 v2 v3 v4 H locs ls hP hD hS hl hf
  obtain ⟨hx, hb, hml, hown, hts, hK, hr, hlocks, hA⟩ := id hC
  unfold X8_sum_b139 at hf
  refine lv_aload_n hx hb dX8_sum_139 rfl (lv_at hl 0 rfl) ?_
  refine lv_iload hx hb dX8_sum_140 (lv_at hl 4 rfl) ?_
  refine lv_iload_n hx hb dX8_sum_142 rfl (lv_at hl 3 rfl) ?_
  obtain ⟨u3, hu3, hf⟩ := zbd hf
  refine zthen_v hA hD hS (zrunV (As := [.int v4, .int v3]) (rest := []) hC hP hD 0 rfl rfl (c_X8_swap l D cI cJ cZ h  mG mH mR mW mS mK mD mN mO mB mM mF v4 v3 u3 hu3 H.size) kRX8_279 rfl rfl ⟨by decide, by decide⟩ rfl hl.1 rfl (Nat.le_of_ble_eq_true rfl) dX8_sum_143) (fun H locs hP hD hS => ?_)
  refine lv_iload_n hx hb dX8_sum_146 rfl (lv_at hl 3 rfl) ?_
  refine lv_iconst (v := 1) hx hb dX8_sum_147 (by decide) ?_
  refine lv_iadd hx hb dX8_sum_148 ?_
  refine lv_topi (fun x4 ex4 => ?_)
  replace hf := zl_n ex4 hf
  refine lv_istore (lv' := [(4, .int x4), (0, .ref (h 0)), (1, .int v1), (2, .int v2), (3, .int v3)]) hx hb dX8_sum_149 hl (by decide) rfl (fun ls hl => ?_)
  refine lv_aload_n hx hb dX8_sum_151 rfl (lv_at hl 1 rfl) ?_
  refine va_get (D := D) (ci := 8) (v := .int (tmG.pieces mG)) (C := RX8) (T := TX8) (N := 56) hx hb hts tb_wsX80 hown hK.1 hP 0 rfl rfl 0 (by decide) (hts _ tb_8_4) (fun _ h9 => h9) rfl dX8_sum_152 ?_
  refine lv_iconst (v := 1) hx hb dX8_sum_155 (by decide) ?_
  refine lv_isub hx hb dX8_sum_156 ?_
  refine lv_topi (fun x5 ex5 => ?_)
  replace hf := zl_n ex5 hf
  refine lv_istore (lv' := [(5, .int x5), (4, .int x4), (0, .ref (h 0)), (1, .int v1), (2, .int v2), (3, .int v3)]) hx hb dX8_sum_157 hl (by decide) rfl (fun ls hl => ?_)
  exact t_X8_sum_b159 hC N k41 hk41  N mH mR mW mS mK mD mN u3 v1 v2 x4 x5 H locs ls hP hD hS (lv_sub hl [2, 3, 4, 1, 0] rfl) hf
set_option maxHeartbeats 4000000 in
set_option maxRecDepth 100000 in
theorem t_X8_sum_b117 {p : Program} {l : Launch} {e : Env} {s : State} {m : MethodId} {args : Array Value} {below : List Frame} {meth : Method} {c : Code} {A : Nat → Prop} {D : va_G} {cI cJ cZ : ClassId} {h : Nat → Nat} (hC : zCx p s m args meth c A D (zty cI cJ cZ) cX8_sum RX8 6 (some .int)) (N : Nat) {mG : tmG} {mB : tmB} {mM : tmM} {mF : tmF} {u : Int32 × tmH × tmR × tmW × tmS × tmK × tmD × tmN × tmO} (k41 : tmH → tmR → tmW → tmS → tmK → tmD → tmN → tmO → Int32 → Int32 → Option (Int32 × tmH × tmR × tmW × tmS × tmK × tmD × tmN × tmO)) (hk41 : ∀ (mH : tmH) (mR : tmR) (mW : tmW) (mS : tmS) (mK : tmK) (mD : tmD) (mN : tmN) (mO : tmO) (v1 : Int32) (v2 : Int32) (H : Heap) (locs : List Loc) (ls : Array Slot), va_P D vwCl (zWM cI cJ cZ h mG mH mR mW mS mK mD mN mO mB mM mF) H → va_D A (zWM cI cJ cZ h mG mH mR mW mS mK mD mN mO mB mM mF) → va_S A s.heap H locs → lv_has ls 6 [(0, .ref (h 0)), (1, .int v1), (2, .int v2)] → k41 mH mR mW mS mK mD mN mO v1 v2 = some u → W p l e ({ frames := 6, cells := 0, slots := 0, locals := 173 } : Room) s m args below meth c H locs 0 0 (MQ below (zQi D A (zWM cI cJ cZ h mG u.2.1 u.2.2.1 u.2.2.2.1 u.2.2.2.2.1 u.2.2.2.2.2.1 u.2.2.2.2.2.2.1 u.2.2.2.2.2.2.2.1 u.2.2.2.2.2.2.2.2 mB mM mF) (u.1)) args s 0 0 A) (F0 m 41 ls [])) : ∀ (n : Nat) (mH : tmH) (mR : tmR) (mW : tmW) (mS : tmS) (mK : tmK) (mD : tmD) (mN : tmN) (mO : tmO) (v1 : Int32) (v2 : Int32) (v3 : Int32) (v4 : Int32) (H : Heap) (locs : List Loc) (ls : Array Slot), va_P D vwCl (zWM cI cJ cZ h mG mH mR mW mS mK mD mN mO mB mM mF) H → va_D A (zWM cI cJ cZ h mG mH mR mW mS mK mD mN mO mB mM mF) → va_S A s.heap H locs → lv_has ls 6 [(0, .ref (h 0)), (1, .int v1), (2, .int v2), (3, .int v3), (4, .int v4)] → X8_sum_b117 N k41 mG n mH mR mW mS mK mD mN mO v1 v2 v3 v4 = some u → W p l e ({ frames := 6, cells := 0, slots := 0, locals := 173 } : Room) s m args below meth c H locs 0 0 (MQ below (zQi D A (zWM cI cJ cZ h mG u.2.1 u.2.2.1 u.2.2.2.1 u.2.2.2.2.1 u.2.2.2.2.2.1 u.2.2.2.2.2.2.1 u.2.2.2.2.2.2.2.1 u.2.2.2.2.2.2.2.2 mB mM mF) (u.1)) args s 0 0 A) (F0 m 117 ls []) := by
  intro n
  induction n with
  | zero =>
    intro mH mR mW mS mK mD mN mO v1 v2 v3 v4 H locs ls hP hD hS hl hf
    cases hf
  | succ n ih =>
    intro mH mR mW mS mK mD mN mO v1 v2 v3 v4 H locs ls hP hD hS hl hf
    obtain ⟨hx, hb, hml, hown, hts, hK, hr, hlocks, hA⟩ := id hC
    rw [X8_sum_b117] at hf
    refine lv_aload_n hx hb dX8_sum_117 rfl (lv_at hl 0 rfl) ?_
    refine va_get (D := D) (ci := 8) (v := .ref (h 30)) (C := RX8) (T := TX8) (N := 56) hx hb hts tb_wsX80 hown hK.1 hP 0 rfl rfl 40 (by decide) (hts _ tb_6_12) (fun _ h9 => h9) rfl dX8_sum_118 ?_
    refine lv_iload hx hb dX8_sum_121 (lv_at hl 4 rfl) ?_
    obtain ⟨h6, hf⟩ := zck_s hf
    refine va_iald hx hb hK.1 hP 30 0 rfl rfl h6 dX8_sum_123 ?_
    refine lv_aload_n hx hb dX8_sum_124 rfl (lv_at hl 0 rfl) ?_
    refine va_get (D := D) (ci := 8) (v := .ref (h 30)) (C := RX8) (T := TX8) (N := 56) hx hb hts tb_wsX80 hown hK.1 hP 0 rfl rfl 40 (by decide) (hts _ tb_6_12) (fun _ h9 => h9) rfl dX8_sum_125 ?_
    refine lv_iload_n hx hb dX8_sum_128 rfl (lv_at hl 3 rfl) ?_
    obtain ⟨h7, hf⟩ := zck_s hf
    refine va_iald hx hb hK.1 hP 30 0 rfl rfl h7 dX8_sum_129 ?_
    refine lv_icmp_ge (tgt := 139) hx hb dX8_sum_130 (by decide) (fun c8 => ?_) (fun c8 => ?_)
    · replace hf := zif_t hf c8
      exact t_X8_sum_b139 hC N k41 hk41  mH mR mW mS mK mD mN mO v1 v2 v3 v4 H locs ls hP hD hS (lv_sub hl [0, 1, 2, 3, 4] rfl) hf
    · replace hf := zif_f hf c8
      refine lv_iinc (v := (v4 + (-1 : Int32))) (lv' := [(4, .int (v4 + (-1 : Int32))), (0, .ref (h 0)), (1, .int v1), (2, .int v2), (3, .int v3)]) hx hb dX8_sum_133 hl (k := 4) rfl rfl (by decide) rfl (fun ls hl => ?_)
      refine lv_goto (tgt := 117) hx hb dX8_sum_136 (by decide) ?_
      exact ih mH mR mW mS mK mD mN mO v1 v2 v3 (v4 + (-1 : Int32)) H locs ls hP hD hS (lv_sub hl [1, 2, 3, 4, 0] rfl) hf
set_option maxHeartbeats 4000000 in
set_option maxRecDepth 100000 in
theorem t_X8_sum_b101 {p : Program} {l : Launch} {e : Env} {s : State} {m : MethodId} {args : Array Value} {below : List Frame} {meth : Method} {c : Code} {A : Nat → Prop} {D : va_G} {cI cJ cZ : ClassId} {h : Nat → Nat} (hC : zCx p s m args meth c A D (zty cI cJ cZ) cX8_sum RX8 6 (some .int)) (N : Nat) {mG : tmG} {mB : tmB} {mM : tmM} {mF : tmF} {u : Int32 × tmH × tmR × tmW × tmS × tmK × tmD × tmN × tmO} (k41 : tmH → tmR → tmW → tmS → tmK → tmD → tmN → tmO → Int32 → Int32 → Option (Int32 × tmH × tmR × tmW × tmS × tmK × tmD × tmN × tmO)) (hk41 : ∀ (mH : tmH) (mR : tmR) (mW : tmW) (mS : tmS) (mK : tmK) (mD : tmD) (mN : tmN) (mO : tmO) (v1 : Int32) (v2 : Int32) (H : Heap) (locs : List Loc) (ls : Array Slot), va_P D vwCl (zWM cI cJ cZ h mG mH mR mW mS mK mD mN mO mB mM mF) H → va_D A (zWM cI cJ cZ h mG mH mR mW mS mK mD mN mO mB mM mF) → va_S A s.heap H locs → lv_has ls 6 [(0, .ref (h 0)), (1, .int v1), (2, .int v2)] → k41 mH mR mW mS mK mD mN mO v1 v2 = some u → W p l e ({ frames := 6, cells := 0, slots := 0, locals := 173 } : Room) s m args below meth c H locs 0 0 (MQ below (zQi D A (zWM cI cJ cZ h mG u.2.1 u.2.2.1 u.2.2.2.1 u.2.2.2.2.1 u.2.2.2.2.2.1 u.2.2.2.2.2.2.1 u.2.2.2.2.2.2.2.1 u.2.2.2.2.2.2.2.2 mB mM mF) (u.1)) args s 0 0 A) (F0 m 41 ls [])) : ∀ (mH : tmH) (mR : tmR) (mW : tmW) (mS : tmS) (mK : tmK) (mD : tmD) (mN : tmN) (mO : tmO) (v1 : Int32) (v3 : Int32) (s0 : Int32) (H : Heap) (locs : List Loc) (ls : Array Slot), va_P D vwCl (zWM cI cJ cZ h mG mH mR mW mS mK mD mN mO mB mM mF) H → va_D A (zWM cI cJ cZ h mG mH mR mW mS mK mD mN mO mB mM mF) → va_S A s.heap H locs → lv_has ls 6 [(0, .ref (h 0)), (1, .int v1), (3, .int v3)] → X8_sum_b101 N k41 mG mH mR mW mS mK mD mN mO v1 v3 s0 = some u → W p l e ({ frames := 6, cells := 0, slots := 0, locals := 173 } : Room) s m args below meth c H locs 0 0 (MQ below (zQi D A (zWM cI cJ cZ h mG u.2.1 u.2.2.1 u.2.2.2.1 u.2.2.2.2.1 u.2.2.2.2.2.1 u.2.2.2.2.2.2.1 u.2.2.2.2.2.2.2.1 u.2.2.2.2.2.2.2.2 mB mM mF) (u.1)) args s 0 0 A) (F0 m 101 ls [.int s0]) := by
  intro mH mR mW mS mK mD mN mO v1 v3 s0 H locs ls hP hD hS hl hf
  obtain ⟨hx, hb, hml, hown, hts, hK, hr, hlocks, hA⟩ := id hC
  unfold X8_sum_b101 at hf
  refine lv_istore_n (lv' := [(2, .int s0), (0, .ref (h 0)), (1, .int v1), (3, .int v3)]) hx hb dX8_sum_101 rfl hl (by decide) rfl (fun ls hl => ?_)
  refine lv_iload_n hx hb dX8_sum_102 rfl (lv_at hl 0 rfl) ?_
  refine lv_if_ne (tgt := 109) hx hb dX8_sum_103 (by decide) (fun c9 => ?_) (fun c9 => ?_)
  · replace hf := zif_f hf c9
    refine lv_aload_n hx hb dX8_sum_109 rfl (lv_at hl 1 rfl) ?_
    refine va_get (D := D) (ci := 8) (v := .int (tmG.pieces mG)) (C := RX8) (T := TX8) (N := 56) hx hb hts tb_wsX80 hown hK.1 hP 0 rfl rfl 0 (by decide) (hts _ tb_8_4) (fun _ h9 => h9) rfl dX8_sum_110 ?_
    refine lv_iconst (v := 1) hx hb dX8_sum_113 (by decide) ?_
    refine lv_isub hx hb dX8_sum_114 ?_
    refine lv_topi (fun x10 ex10 => ?_)
    replace hf := zl_n ex10 hf
    refine lv_istore (lv' := [(4, .int x10), (2, .int s0), (0, .ref (h 0)), (1, .int v1), (3, .int v3)]) hx hb dX8_sum_115 hl (by decide) rfl (fun ls hl => ?_)
    exact t_X8_sum_b117 hC N k41 hk41  N mH mR mW mS mK mD mN mO v1 s0 v3 x10 H locs ls hP hD hS (lv_sub hl [2, 3, 1, 4, 0] rfl) hf
  · replace hf := zif_t hf c9
    refine lv_goto (tgt := 41) hx hb dX8_sum_106 (by decide) ?_
    exact hk41 mH mR mW mS mK mD mN mO v1 s0 H locs ls hP hD hS (lv_sub hl [1, 2, 0] rfl) hf
set_option maxHeartbeats 4000000 in
set_option maxRecDepth 100000 in
theorem t_X8_sum_b92 {p : Program} {l : Launch} {e : Env} {s : State} {m : MethodId} {args : Array Value} {below : List Frame} {meth : Method} {c : Code} {A : Nat → Prop} {D : va_G} {cI cJ cZ : ClassId} {h : Nat → Nat} (hC : zCx p s m args meth c A D (zty cI cJ cZ) cX8_sum RX8 6 (some .int)) (N : Nat) {mG : tmG} {mB : tmB} {mM : tmM} {mF : tmF} {u : Int32 × tmH × tmR × tmW × tmS × tmK × tmD × tmN × tmO} (k41 : tmH → tmR → tmW → tmS → tmK → tmD → tmN → tmO → Int32 → Int32 → Option (Int32 × tmH × tmR × tmW × tmS × tmK × tmD × tmN × tmO)) (hk41 : ∀ (mH : tmH) (mR : tmR) (mW : tmW) (mS : tmS) (mK : tmK) (mD : tmD) (mN : tmN) (mO : tmO) (v1 : Int32) (v2 : Int32) (H : Heap) (locs : List Loc) (ls : Array Slot), va_P D vwCl (zWM cI cJ cZ h mG mH mR mW mS mK mD mN mO mB mM mF) H → va_D A (zWM cI cJ cZ h mG mH mR mW mS mK mD mN mO mB mM mF) → va_S A s.heap H locs → lv_has ls 6 [(0, .ref (h 0)), (1, .int v1), (2, .int v2)] → k41 mH mR mW mS mK mD mN mO v1 v2 = some u → W p l e ({ frames := 6, cells := 0, slots := 0, locals := 173 } : Room) s m args below meth c H locs 0 0 (MQ below (zQi D A (zWM cI cJ cZ h mG u.2.1 u.2.2.1 u.2.2.2.1 u.2.2.2.2.1 u.2.2.2.2.2.1 u.2.2.2.2.2.2.1 u.2.2.2.2.2.2.2.1 u.2.2.2.2.2.2.2.2 mB mM mF) (u.1)) args s 0 0 A) (F0 m 41 ls [])) : ∀ (mH : tmH) (mR : tmR) (mW : tmW) (mS : tmS) (mK : tmK) (mD : tmD) (mN : tmN) (mO : tmO) (v1 : Int32) (v3 : Int32) (H : Heap) (locs : List Loc) (ls : Array Slot), va_P D vwCl (zWM cI cJ cZ h mG mH mR mW mS mK mD mN mO mB mM mF) H → va_D A (zWM cI cJ cZ h mG mH mR mW mS mK mD mN mO mB mM mF) → va_S A s.heap H locs → lv_has ls 6 [(0, .ref (h 0)), (1, .int v1), (3, .int v3)] → X8_sum_b92 N k41 mG mH mR mW mS mK mD mN mO v1 v3 = some u → W p l e ({ frames := 6, cells := 0, slots := 0, locals := 173 } : Room) s m args below meth c H locs 0 0 (MQ below (zQi D A (zWM cI cJ cZ h mG u.2.1 u.2.2.1 u.2.2.2.1 u.2.2.2.2.1 u.2.2.2.2.2.1 u.2.2.2.2.2.2.1 u.2.2.2.2.2.2.2.1 u.2.2.2.2.2.2.2.2 mB mM mF) (u.1)) args s 0 0 A) (F0 m 92 ls []) := by
  intro mH mR mW mS mK mD mN mO v1 v3 H locs ls hP hD hS hl hf
  obtain ⟨hx, hb, hml, hown, hts, hK, hr, hlocks, hA⟩ := id hC
  unfold X8_sum_b92 at hf
  refine lv_iload_n hx hb dX8_sum_92 rfl (lv_at hl 2 rfl) ?_
  refine lv_if_lt (tgt := 100) hx hb dX8_sum_93 (by decide) (fun c11 => ?_) (fun c11 => ?_)
  · replace hf := zif_t hf c11
    refine lv_iconst (v := 0) hx hb dX8_sum_100 (by decide) ?_
    exact t_X8_sum_b101 hC N k41 hk41  mH mR mW mS mK mD mN mO v1 v3 (0 : Int32) H locs ls hP hD hS (lv_sub hl [0, 1, 2] rfl) hf
  · replace hf := zif_f hf c11
    refine lv_iconst (v := 1) hx hb dX8_sum_96 (by decide) ?_
    refine lv_goto (tgt := 101) hx hb dX8_sum_97 (by decide) ?_
    exact t_X8_sum_b101 hC N k41 hk41  mH mR mW mS mK mD mN mO v1 v3 (1 : Int32) H locs ls hP hD hS (lv_sub hl [0, 1, 2] rfl) hf
set_option maxHeartbeats 4000000 in
set_option maxRecDepth 100000 in
theorem t_X8_sum_b65 {p : Program} {l : Launch} {e : Env} {s : State} {m : MethodId} {args : Array Value} {below : List Frame} {meth : Method} {c : Code} {A : Nat → Prop} {D : va_G} {cI cJ cZ : ClassId} {h : Nat → Nat} (hC : zCx p s m args meth c A D (zty cI cJ cZ) cX8_sum RX8 6 (some .int)) (N : Nat) {mG : tmG} {mB : tmB} {mM : tmM} {mF : tmF} {u : Int32 × tmH × tmR × tmW × tmS × tmK × tmD × tmN × tmO} (k41 : tmH → tmR → tmW → tmS → tmK → tmD → tmN → tmO → Int32 → Int32 → Option (Int32 × tmH × tmR × tmW × tmS × tmK × tmD × tmN × tmO)) (hk41 : ∀ (mH : tmH) (mR : tmR) (mW : tmW) (mS : tmS) (mK : tmK) (mD : tmD) (mN : tmN) (mO : tmO) (v1 : Int32) (v2 : Int32) (H : Heap) (locs : List Loc) (ls : Array Slot), va_P D vwCl (zWM cI cJ cZ h mG mH mR mW mS mK mD mN mO mB mM mF) H → va_D A (zWM cI cJ cZ h mG mH mR mW mS mK mD mN mO mB mM mF) → va_S A s.heap H locs → lv_has ls 6 [(0, .ref (h 0)), (1, .int v1), (2, .int v2)] → k41 mH mR mW mS mK mD mN mO v1 v2 = some u → W p l e ({ frames := 6, cells := 0, slots := 0, locals := 173 } : Room) s m args below meth c H locs 0 0 (MQ below (zQi D A (zWM cI cJ cZ h mG u.2.1 u.2.2.1 u.2.2.2.1 u.2.2.2.2.1 u.2.2.2.2.2.1 u.2.2.2.2.2.2.1 u.2.2.2.2.2.2.2.1 u.2.2.2.2.2.2.2.2 mB mM mF) (u.1)) args s 0 0 A) (F0 m 41 ls [])) : ∀ (n : Nat) (mH : tmH) (mR : tmR) (mW : tmW) (mS : tmS) (mK : tmK) (mD : tmD) (mN : tmN) (mO : tmO) (v1 : Int32) (v3 : Int32) (H : Heap) (locs : List Loc) (ls : Array Slot), va_P D vwCl (zWM cI cJ cZ h mG mH mR mW mS mK mD mN mO mB mM mF) H → va_D A (zWM cI cJ cZ h mG mH mR mW mS mK mD mN mO mB mM mF) → va_S A s.heap H locs → lv_has ls 6 [(0, .ref (h 0)), (1, .int v1), (3, .int v3)] → X8_sum_b65 N k41 mG n mH mR mW mS mK mD mN mO v1 v3 = some u → W p l e ({ frames := 6, cells := 0, slots := 0, locals := 173 } : Room) s m args below meth c H locs 0 0 (MQ below (zQi D A (zWM cI cJ cZ h mG u.2.1 u.2.2.1 u.2.2.2.1 u.2.2.2.2.1 u.2.2.2.2.2.1 u.2.2.2.2.2.2.1 u.2.2.2.2.2.2.2.1 u.2.2.2.2.2.2.2.2 mB mM mF) (u.1)) args s 0 0 A) (F0 m 65 ls []) := by
  intro n
  induction n with
  | zero =>
    intro mH mR mW mS mK mD mN mO v1 v3 H locs ls hP hD hS hl hf
    cases hf
  | succ n ih =>
    intro mH mR mW mS mK mD mN mO v1 v3 H locs ls hP hD hS hl hf
    obtain ⟨hx, hb, hml, hown, hts, hK, hr, hlocks, hA⟩ := id hC
    rw [X8_sum_b65] at hf
    refine lv_iload_n hx hb dX8_sum_65 rfl (lv_at hl 2 rfl) ?_
    refine lv_if_lt (tgt := 92) hx hb dX8_sum_66 (by decide) (fun c12 => ?_) (fun c12 => ?_)
    · replace hf := zif_t hf c12
      exact t_X8_sum_b92 hC N k41 hk41  mH mR mW mS mK mD mN mO v1 v3 H locs ls hP hD hS (lv_sub hl [0, 1, 2] rfl) hf
    · replace hf := zif_f hf c12
      refine lv_aload_n hx hb dX8_sum_69 rfl (lv_at hl 0 rfl) ?_
      refine va_get (D := D) (ci := 8) (v := .ref (h 30)) (C := RX8) (T := TX8) (N := 56) hx hb hts tb_wsX80 hown hK.1 hP 0 rfl rfl 40 (by decide) (hts _ tb_6_12) (fun _ h9 => h9) rfl dX8_sum_70 ?_
      refine lv_iload_n hx hb dX8_sum_73 rfl (lv_at hl 2 rfl) ?_
      obtain ⟨h13, hf⟩ := zck_s hf
      refine va_iald hx hb hK.1 hP 30 0 rfl rfl h13 dX8_sum_74 ?_
      refine lv_aload_n hx hb dX8_sum_75 rfl (lv_at hl 0 rfl) ?_
      refine va_get (D := D) (ci := 8) (v := .ref (h 30)) (C := RX8) (T := TX8) (N := 56) hx hb hts tb_wsX80 hown hK.1 hP 0 rfl rfl 40 (by decide) (hts _ tb_6_12) (fun _ h9 => h9) rfl dX8_sum_76 ?_
      refine lv_iload_n hx hb dX8_sum_79 rfl (lv_at hl 2 rfl) ?_
      refine lv_iconst (v := 1) hx hb dX8_sum_80 (by decide) ?_
      refine lv_iadd hx hb dX8_sum_81 ?_
      obtain ⟨h14, hf⟩ := zck_s hf
      refine va_iald hx hb hK.1 hP 30 0 rfl rfl h14 dX8_sum_82 ?_
      refine lv_icmp_le (tgt := 92) hx hb dX8_sum_83 (by decide) (fun c15 => ?_) (fun c15 => ?_)
      · replace hf := zif_t hf c15
        exact t_X8_sum_b92 hC N k41 hk41  mH mR mW mS mK mD mN mO v1 v3 H locs ls hP hD hS (lv_sub hl [0, 1, 2] rfl) hf
      · replace hf := zif_f hf c15
        refine lv_iinc (v := (v3 + (-1 : Int32))) (lv' := [(3, .int (v3 + (-1 : Int32))), (0, .ref (h 0)), (1, .int v1)]) hx hb dX8_sum_86 hl (k := 2) rfl rfl (by decide) rfl (fun ls hl => ?_)
        refine lv_goto (tgt := 65) hx hb dX8_sum_89 (by decide) ?_
        exact ih mH mR mW mS mK mD mN mO v1 (v3 + (-1 : Int32)) H locs ls hP hD hS (lv_sub hl [1, 2, 0] rfl) hf
set_option maxHeartbeats 4000000 in
set_option maxRecDepth 100000 in
theorem t_X8_sum_b41 {p : Program} {l : Launch} {e : Env} {s : State} {m : MethodId} {args : Array Value} {below : List Frame} {meth : Method} {c : Code} {A : Nat → Prop} {D : va_G} {cI cJ cZ : ClassId} {h : Nat → Nat} (hC : zCx p s m args meth c A D (zty cI cJ cZ) cX8_sum RX8 6 (some .int)) (N : Nat) (mG : tmG) (mB : tmB) (mM : tmM) (mF : tmF) (u : Int32 × tmH × tmR × tmW × tmS × tmK × tmD × tmN × tmO) : ∀ (n : Nat) (mH : tmH) (mR : tmR) (mW : tmW) (mS : tmS) (mK : tmK) (mD : tmD) (mN : tmN) (mO : tmO) (v1 : Int32) (v2 : Int32) (H : Heap) (locs : List Loc) (ls : Array Slot), va_P D vwCl (zWM cI cJ cZ h mG mH mR mW mS mK mD mN mO mB mM mF) H → va_D A (zWM cI cJ cZ h mG mH mR mW mS mK mD mN mO mB mM mF) → va_S A s.heap H locs → lv_has ls 6 [(0, .ref (h 0)), (1, .int v1), (2, .int v2)] → X8_sum_b41 N mG n mH mR mW mS mK mD mN mO v1 v2 = some u → W p l e ({ frames := 6, cells := 0, slots := 0, locals := 173 } : Room) s m args below meth c H locs 0 0 (MQ below (zQi D A (zWM cI cJ cZ h mG u.2.1 u.2.2.1 u.2.2.2.1 u.2.2.2.2.1 u.2.2.2.2.2.1 u.2.2.2.2.2.2.1 u.2.2.2.2.2.2.2.1 u.2.2.2.2.2.2.2.2 mB mM mF) (u.1)) args s 0 0 A) (F0 m 41 ls []) := by
  intro n
  induction n with
  | zero =>
    intro mH mR mW mS mK mD mN mO v1 v2 H locs ls hP hD hS hl hf
    cases hf
  | succ n ih =>
    intro mH mR mW mS mK mD mN mO v1 v2 H locs ls hP hD hS hl hf
    obtain ⟨hx, hb, hml, hown, hts, hK, hr, hlocks, hA⟩ := id hC
    rw [X8_sum_b41] at hf
    refine lv_iload_n hx hb dX8_sum_41 rfl (lv_at hl 2 rfl) ?_
    refine lv_if_eq (tgt := 186) hx hb dX8_sum_42 (by decide) (fun c16 => ?_) (fun c16 => ?_)
    · replace hf := zif_t hf c16
      exact t_X8_sum_b186 hC N mG mB mM mF u mH mR mW mS mK mD mN mO v1 H locs ls hP hD hS (lv_sub hl [1] rfl) hf
    · replace hf := zif_f hf c16
      refine lv_aload_n hx hb dX8_sum_45 rfl (lv_at hl 0 rfl) ?_
      refine lv_iconst (v := 0) hx hb dX8_sum_46 (by decide) ?_
      refine lv_iconst (v := 0) hx hb dX8_sum_47 (by decide) ?_
      obtain ⟨u17, hu17, hf⟩ := zbd hf
      refine zthen_v hA hD hS (zrunV (As := [.int (0 : Int32), .int (0 : Int32)]) (rest := []) hC hP hD 0 rfl rfl (c_X8_grow l D cI cJ cZ h N mG mH mR mW mS mK mD mN mO mB mM mF (0 : Int32) (0 : Int32) u17 hu17 H.size) kRX8_209 rfl rfl ⟨by decide, by decide⟩ rfl hl.1 rfl (Nat.le_of_ble_eq_true rfl) dX8_sum_48) (fun H locs hP hD hS => ?_)
      refine lv_iload_n hx hb dX8_sum_51 rfl (lv_at hl 1 rfl) ?_
      refine lv_aload_n hx hb dX8_sum_52 rfl (lv_at hl 0 rfl) ?_
      refine va_get (D := D) (ci := 8) (v := .int (tmN.made u17.2.2.2.2.2)) (C := RX8) (T := TX8) (N := 56) hx hb hts tb_wsX80 hown hK.1 hP 0 rfl rfl 39 (by decide) (hts _ tb_14_21) (fun _ h9 => h9) rfl dX8_sum_53 ?_
      refine lv_iadd hx hb dX8_sum_56 ?_
      refine lv_topi (fun x18 ex18 => ?_)
      replace hf := zl_n ex18 hf
      refine lv_istore_n (lv' := [(1, .int x18), (0, .ref (h 0)), (2, .int v2)]) hx hb dX8_sum_57 rfl hl (by decide) rfl (fun ls hl => ?_)
      refine lv_aload_n hx hb dX8_sum_58 rfl (lv_at hl 1 rfl) ?_
      refine va_get (D := D) (ci := 8) (v := .int (tmG.pieces mG)) (C := RX8) (T := TX8) (N := 56) hx hb hts tb_wsX80 hown hK.1 hP 0 rfl rfl 0 (by decide) (hts _ tb_8_4) (fun _ h9 => h9) rfl dX8_sum_59 ?_
      refine lv_iconst (v := 2) hx hb dX8_sum_62 (by decide) ?_
      refine lv_isub hx hb dX8_sum_63 ?_
      refine lv_topi (fun x19 ex19 => ?_)
      replace hf := zl_n ex19 hf
      refine lv_istore_n (lv' := [(3, .int x19), (1, .int x18), (0, .ref (h 0)), (2, .int v2)]) hx hb dX8_sum_64 rfl hl (by decide) rfl (fun ls hl => ?_)
      exact t_X8_sum_b65 hC N (X8_sum_b41 N mG n) ih  N mH u17.1 u17.2.1 u17.2.2.1 u17.2.2.2.1 u17.2.2.2.2.1 u17.2.2.2.2.2 mO x18 x19 H locs ls hP hD hS (lv_sub hl [2, 1, 0] rfl) hf
set_option maxHeartbeats 4000000 in
set_option maxRecDepth 100000 in
theorem t_X8_sum_b37 {p : Program} {l : Launch} {e : Env} {s : State} {m : MethodId} {args : Array Value} {below : List Frame} {meth : Method} {c : Code} {A : Nat → Prop} {D : va_G} {cI cJ cZ : ClassId} {h : Nat → Nat} (hC : zCx p s m args meth c A D (zty cI cJ cZ) cX8_sum RX8 6 (some .int)) (N : Nat) (mG : tmG) (mB : tmB) (mM : tmM) (mF : tmF) (u : Int32 × tmH × tmR × tmW × tmS × tmK × tmD × tmN × tmO) : ∀ (mH : tmH) (mR : tmR) (mW : tmW) (mS : tmS) (mK : tmK) (mD : tmD) (mN : tmN) (mO : tmO) (H : Heap) (locs : List Loc) (ls : Array Slot), va_P D vwCl (zWM cI cJ cZ h mG mH mR mW mS mK mD mN mO mB mM mF) H → va_D A (zWM cI cJ cZ h mG mH mR mW mS mK mD mN mO mB mM mF) → va_S A s.heap H locs → lv_has ls 6 [(0, .ref (h 0))] → X8_sum_b37 N mG mH mR mW mS mK mD mN mO = some u → W p l e ({ frames := 6, cells := 0, slots := 0, locals := 173 } : Room) s m args below meth c H locs 0 0 (MQ below (zQi D A (zWM cI cJ cZ h mG u.2.1 u.2.2.1 u.2.2.2.1 u.2.2.2.2.1 u.2.2.2.2.2.1 u.2.2.2.2.2.2.1 u.2.2.2.2.2.2.2.1 u.2.2.2.2.2.2.2.2 mB mM mF) (u.1)) args s 0 0 A) (F0 m 37 ls []) := by
  intro mH mR mW mS mK mD mN mO H locs ls hP hD hS hl hf
  obtain ⟨hx, hb, hml, hown, hts, hK, hr, hlocks, hA⟩ := id hC
  unfold X8_sum_b37 at hf
  refine lv_iconst (v := 0) hx hb dX8_sum_37 (by decide) ?_
  refine lv_istore_n (lv' := [(1, .int (0 : Int32)), (0, .ref (h 0))]) hx hb dX8_sum_38 rfl hl (by decide) rfl (fun ls hl => ?_)
  refine lv_iconst (v := 1) hx hb dX8_sum_39 (by decide) ?_
  refine lv_istore_n (lv' := [(2, .int (1 : Int32)), (1, .int (0 : Int32)), (0, .ref (h 0))]) hx hb dX8_sum_40 rfl hl (by decide) rfl (fun ls hl => ?_)
  exact t_X8_sum_b41 hC N mG mB mM mF u N mH mR mW mS mK mD mN mO (0 : Int32) (1 : Int32) H locs ls hP hD hS (lv_sub hl [2, 1, 0] rfl) hf
set_option maxHeartbeats 4000000 in
set_option maxRecDepth 100000 in
theorem t_X8_sum_b18 {p : Program} {l : Launch} {e : Env} {s : State} {m : MethodId} {args : Array Value} {below : List Frame} {meth : Method} {c : Code} {A : Nat → Prop} {D : va_G} {cI cJ cZ : ClassId} {h : Nat → Nat} (hC : zCx p s m args meth c A D (zty cI cJ cZ) cX8_sum RX8 6 (some .int)) (N : Nat) (mG : tmG) (mB : tmB) (mM : tmM) (mF : tmF) (u : Int32 × tmH × tmR × tmW × tmS × tmK × tmD × tmN × tmO) : ∀ (n : Nat) (mH : tmH) (mR : tmR) (mW : tmW) (mS : tmS) (mK : tmK) (mD : tmD) (mN : tmN) (mO : tmO) (v1 : Int32) (H : Heap) (locs : List Loc) (ls : Array Slot), va_P D vwCl (zWM cI cJ cZ h mG mH mR mW mS mK mD mN mO mB mM mF) H → va_D A (zWM cI cJ cZ h mG mH mR mW mS mK mD mN mO mB mM mF) → va_S A s.heap H locs → lv_has ls 6 [(0, .ref (h 0)), (1, .int v1)] → X8_sum_b18 N mG n mH mR mW mS mK mD mN mO v1 = some u → W p l e ({ frames := 6, cells := 0, slots := 0, locals := 173 } : Room) s m args below meth c H locs 0 0 (MQ below (zQi D A (zWM cI cJ cZ h mG u.2.1 u.2.2.1 u.2.2.2.1 u.2.2.2.2.1 u.2.2.2.2.2.1 u.2.2.2.2.2.2.1 u.2.2.2.2.2.2.2.1 u.2.2.2.2.2.2.2.2 mB mM mF) (u.1)) args s 0 0 A) (F0 m 18 ls []) := by
  intro n
  induction n with
  | zero =>
    intro mH mR mW mS mK mD mN mO v1 H locs ls hP hD hS hl hf
    cases hf
  | succ n ih =>
    intro mH mR mW mS mK mD mN mO v1 H locs ls hP hD hS hl hf
    obtain ⟨hx, hb, hml, hown, hts, hK, hr, hlocks, hA⟩ := id hC
    rw [X8_sum_b18] at hf
    refine lv_iload_n hx hb dX8_sum_18 rfl (lv_at hl 1 rfl) ?_
    refine lv_bipush (v := 24) hx hb dX8_sum_19 (by decide) ?_
    refine lv_icmp_ge (tgt := 37) hx hb dX8_sum_21 (by decide) (fun c20 => ?_) (fun c20 => ?_)
    · replace hf := zif_t hf c20
      exact t_X8_sum_b37 hC N mG mB mM mF u mH mR mW mS mK mD mN mO H locs ls hP hD hS (lv_sub hl [0] rfl) hf
    · replace hf := zif_f hf c20
      refine lv_aload_n hx hb dX8_sum_24 rfl (lv_at hl 0 rfl) ?_
      refine va_get (D := D) (ci := 8) (v := .ref (h 30)) (C := RX8) (T := TX8) (N := 56) hx hb hts tb_wsX80 hown hK.1 hP 0 rfl rfl 40 (by decide) (hts _ tb_6_12) (fun _ h9 => h9) rfl dX8_sum_25 ?_
      refine lv_iload_n hx hb dX8_sum_28 rfl (lv_at hl 1 rfl) ?_
      refine lv_iload_n hx hb dX8_sum_29 rfl (lv_at hl 1 rfl) ?_
      obtain ⟨h21, hf⟩ := zck_s hf
      refine va_iast hx hb hK.1 hP hD hS 30 0 rfl rfl h21 dX8_sum_30 (fun H locs hP hD hS => ?_)
      replace hP : va_P D vwCl (zWM cI cJ cZ h mG mH mR mW mS mK mD mN (tmO.s_orderOf mO (upd (tmO.orderOf mO) v1.toNatClampNeg v1)) mB mM mF) H := hP
      replace hD : va_D A (zWM cI cJ cZ h mG mH mR mW mS mK mD mN (tmO.s_orderOf mO (upd (tmO.orderOf mO) v1.toNatClampNeg v1)) mB mM mF) := hD
      refine lv_iinc (v := (v1 + (1 : Int32))) (lv' := [(1, .int (v1 + (1 : Int32))), (0, .ref (h 0))]) hx hb dX8_sum_31 hl (k := 1) rfl rfl (by decide) rfl (fun ls hl => ?_)
      refine lv_goto (tgt := 18) hx hb dX8_sum_34 (by decide) ?_
      exact ih mH mR mW mS mK mD mN (tmO.s_orderOf mO (upd (tmO.orderOf mO) v1.toNatClampNeg v1)) (v1 + (1 : Int32)) H locs ls hP hD hS (lv_sub hl [1, 0] rfl) hf
set_option maxHeartbeats 4000000 in
set_option maxRecDepth 100000 in
theorem c_X8_sum (l : Launch) (D : va_G) (cI cJ cZ : ClassId) (h : Nat → Nat) (N : Nat) (mG : tmG) (mH : tmH) (mR : tmR) (mW : tmW) (mS : tmS) (mK : tmK) (mD : tmD) (mN : tmN) (mO : tmO) (mB : tmB) (mM : tmM) (mF : tmF)  (u : Int32 × tmH × tmR × tmW × tmS × tmK × tmD × tmN × tmO) (hf : X8_sum N mG mH mR mW mS mK mD mN mO = some u) (sz : Nat) : Met l yX8_sum (Cond.code yX8_sum cX8_sum 6 (some .int) :: tb_L) ({ frames := 6, cells := 0, slots := 0, locals := 173 } : Room) (zPre D (zty cI cJ cZ) (zWM cI cJ cZ h mG mH mR mW mS mK mD mN mO mB mM mF) sz [.ref (h 0)]) (zQi D (va_A (zWM cI cJ cZ h mG mH mR mW mS mK mD mN mO mB mM mF) sz) (zWM cI cJ cZ h mG u.2.1 u.2.2.1 u.2.2.2.1 u.2.2.2.2.1 u.2.2.2.2.2.1 u.2.2.2.2.2.2.1 u.2.2.2.2.2.2.2.1 u.2.2.2.2.2.2.2.2 mB mM mF) (u.1)) 0 0 (va_A (zWM cI cJ cZ h mG mH mR mW mS mK mD mN mO mB mM mF) sz) := by
  refine zMet (Qc := fun A => zQi D A (zWM cI cJ cZ h mG u.2.1 u.2.2.1 u.2.2.2.1 u.2.2.2.2.1 u.2.2.2.2.2.1 u.2.2.2.2.2.2.1 u.2.2.2.2.2.2.2.1 u.2.2.2.2.2.2.2.2 mB mM mF) (u.1)) (by decide) rfl (Nat.le_of_ble_eq_true rfl) ?_
  intro p e s m args below meth c A ls hC _ hP hD hS hl
  replace hl : lv_has ls 6 [(0, .ref (h 0))] := hl
  obtain ⟨hx, hb, hml, hown, hts, hK, hr, hlocks, hA⟩ := id hC
  unfold X8_sum at hf
  obtain ⟨H, hH⟩ : ∃ H, H = s.heap := ⟨_, rfl⟩
  rw [← hH] at hP
  replace hS : va_S A s.heap H [] := by rw [hH]; exact hS
  show W p l e _ s m args below meth c s.heap [] 0 0 _ _
  rw [← hH]
  clear hH
  obtain ⟨locs, hlo⟩ : ∃ x : List Loc, x = [] := ⟨_, rfl⟩
  rw [← hlo] at hS ⊢
  clear hlo
  refine lv_aload_n hx hb dX8_sum_0 rfl (lv_at hl 0 rfl) ?_
  refine lv_iconst (v := 0) hx hb dX8_sum_1 (by decide) ?_
  refine va_put (D := D) (ci := 8) (v := .int (0 : Int32)) (ty := .int) (C := RX8) (T := TX8) (N := 56) hx hb hts tb_wsX80 tyX8 tyX8_ok nmX8 hown hK.1 hP hD hS 0 rfl rfl 5 (by decide) (hts _ tb_8_3) (fun _ h9 => h9) rfl (by decide +kernel) rfl rfl (Nat.le_of_ble_eq_true rfl) dX8_sum_2 (fun H locs hP hD hS => ?_)
  replace hP : va_P D vwCl (zWM cI cJ cZ h mG (tmH.s_thrown mH (0 : Int32)) mR mW mS mK mD mN mO mB mM mF) H := hP
  replace hD : va_D A (zWM cI cJ cZ h mG (tmH.s_thrown mH (0 : Int32)) mR mW mS mK mD mN mO mB mM mF) := hD
  refine lv_aload_n hx hb dX8_sum_5 rfl (lv_at hl 0 rfl) ?_
  refine va_get (D := D) (ci := 8) (v := .int (tmG.pieces mG)) (C := RX8) (T := TX8) (N := 56) hx hb hts tb_wsX80 hown hK.1 hP 0 rfl rfl 0 (by decide) (hts _ tb_8_4) (fun _ h9 => h9) rfl dX8_sum_6 ?_
  refine lv_bipush (v := 6) hx hb dX8_sum_9 (by decide) ?_
  refine lv_icmp_le (tgt := 16) hx hb dX8_sum_11 (by decide) (fun c22 => ?_) (fun c22 => ?_)
  · replace hf := zif_t hf c22
    refine lv_iconst (v := 0) hx hb dX8_sum_16 (by decide) ?_
    refine lv_istore_n (lv' := [(1, .int (0 : Int32)), (0, .ref (h 0))]) hx hb dX8_sum_17 rfl hl (by decide) rfl (fun ls hl => ?_)
    exact t_X8_sum_b18 hC N mG mB mM mF u N (tmH.s_thrown mH (0 : Int32)) mR mW mS mK mD mN mO (0 : Int32) H locs ls hP hD hS (lv_sub hl [1, 0] rfl) hf
  · replace hf := zif_f hf c22
    refine lv_iconst (v := -1) hx hb dX8_sum_14 (by decide) ?_
    have hu := Option.some.inj hf
    subst hu
    exact z_iret hC hP hD hS dX8_sum_15
