set_option maxHeartbeats 4000000 in
set_option maxRecDepth 100000 in
theorem t_X8_chosen_b208 {p : Program} {l : Launch} {e : Env} {s : State} {m : MethodId} {args : Array Value} {below : List Frame} {meth : Method} {c : Code} {A : Nat → Prop} {D : va_G} {cI cJ cZ : ClassId} {h : Nat → Nat} (hC : zCx p s m args meth c A D (zty cI cJ cZ) cX8_chosen RX8 12 (some .int)) (N : Nat) (mG : tmG) (mH : tmH) (mR : tmR) (mW : tmW) (mS : tmS) (mK : tmK) (mN : tmN) (mO : tmO) (mB : tmB) (mM : tmM) (mF : tmF) (u : Int32 × tmD) : ∀ (mD : tmD) (v4 : Int32) (H : Heap) (locs : List Loc) (ls : Array Slot), va_P D vwCl (zWM cI cJ cZ h mG mH mR mW mS mK mD mN mO mB mM mF) H → va_D A (zWM cI cJ cZ h mG mH mR mW mS mK mD mN mO mB mM mF) → va_S A s.heap H locs → lv_has ls 12 [(4, .int v4)] → X8_chosen_b208 N mG mR mD v4 = some u → W p l e ({ frames := 4, cells := 0, slots := 0, locals := 107 } : Room) s m args below meth c H locs 0 0 (MQ below (zQi D A (zWM cI cJ cZ h mG mH mR mW mS mK u.2 mN mO mB mM mF) (u.1)) args s 0 0 A) (F0 m 208 ls []) := by
  intro mD v4 H locs ls hP hD hS hl hf
  obtain ⟨hx, hb, hml, hown, hts, hK, hr, hlocks, hA⟩ := id hC
  unfold X8_chosen_b208 at hf
  refine lv_iload hx hb dX8_chosen_208 (lv_at hl 0 rfl) ?_
  have hu := Option.some.inj hf
  subst hu
  exact z_iret hC hP hD hS dX8_chosen_210
set_option maxHeartbeats 4000000 in
set_option maxRecDepth 100000 in
theorem t_X8_chosen_b202 {p : Program} {l : Launch} {e : Env} {s : State} {m : MethodId} {args : Array Value} {below : List Frame} {meth : Method} {c : Code} {A : Nat → Prop} {D : va_G} {cI cJ cZ : ClassId} {h : Nat → Nat} (hC : zCx p s m args meth c A D (zty cI cJ cZ) cX8_chosen RX8 12 (some .int)) (N : Nat) {mG : tmG} {mH : tmH} {mR : tmR} {mW : tmW} {mS : tmS} {mK : tmK} {mN : tmN} {mO : tmO} {mB : tmB} {mM : tmM} {mF : tmF} {u : Int32 × tmD} (k56 : tmD → Int32 → Int32 → Int32 → Int32 → Int32 → Int32 → Int32 → Option (Int32 × tmD)) (hk56 : ∀ (mD : tmD) (v1 : Int32) (v2 : Int32) (v3 : Int32) (v4 : Int32) (v5 : Int32) (v6 : Int32) (v7 : Int32) (H : Heap) (locs : List Loc) (ls : Array Slot), va_P D vwCl (zWM cI cJ cZ h mG mH mR mW mS mK mD mN mO mB mM mF) H → va_D A (zWM cI cJ cZ h mG mH mR mW mS mK mD mN mO mB mM mF) → va_S A s.heap H locs → lv_has ls 12 [(0, .ref (h 0)), (1, .int v1), (2, .int v2), (3, .int v3), (4, .int v4), (5, .int v5), (6, .int v6), (7, .int v7)] → k56 mD v1 v2 v3 v4 v5 v6 v7 = some u → W p l e ({ frames := 4, cells := 0, slots := 0, locals := 107 } : Room) s m args below meth c H locs 0 0 (MQ below (zQi D A (zWM cI cJ cZ h mG mH mR mW mS mK u.2 mN mO mB mM mF) (u.1)) args s 0 0 A) (F0 m 56 ls [])) : ∀ (mD : tmD) (v1 : Int32) (v2 : Int32) (v3 : Int32) (v4 : Int32) (v5 : Int32) (v6 : Int32) (v7 : Int32) (H : Heap) (locs : List Loc) (ls : Array Slot), va_P D vwCl (zWM cI cJ cZ h mG mH mR mW mS mK mD mN mO mB mM mF) H → va_D A (zWM cI cJ cZ h mG mH mR mW mS mK mD mN mO mB mM mF) → va_S A s.heap H locs → lv_has ls 12 [(0, .ref (h 0)), (1, .int v1), (2, .int v2), (3, .int v3), (4, .int v4), (5, .int v5), (6, .int v6), (7, .int v7)] → X8_chosen_b202 N k56 mG mR mD v1 v2 v3 v4 v5 v6 v7 = some u → W p l e ({ frames := 4, cells := 0, slots := 0, locals := 107 } : Room) s m args below meth c H locs 0 0 (MQ below (zQi D A (zWM cI cJ cZ h mG mH mR mW mS mK u.2 mN mO mB mM mF) (u.1)) args s 0 0 A) (F0 m 202 ls []) := by
  intro mD v1 v2 v3 v4 v5 v6 v7 H locs ls hP hD hS hl hf
  obtain ⟨hx, hb, hml, hown, hts, hK, hr, hlocks, hA⟩ := id hC
  unfold X8_chosen_b202 at hf
  refine lv_iinc (v := (v7 + (1 : Int32))) (lv' := [(7, .int (v7 + (1 : Int32))), (0, .ref (h 0)), (1, .int v1), (2, .int v2), (3, .int v3), (4, .int v4), (5, .int v5), (6, .int v6)]) hx hb dX8_chosen_202 hl (k := 7) rfl rfl (by decide) rfl (fun ls hl => ?_)
  refine lv_goto (tgt := 56) hx hb dX8_chosen_205 (by decide) ?_
  exact hk56 mD v1 v2 v3 v4 v5 v6 (v7 + (1 : Int32)) H locs ls hP hD hS (lv_sub hl [1, 2, 3, 4, 5, 6, 7, 0] rfl) hf
set_option maxHeartbeats 4000000 in
set_option maxRecDepth 100000 in
theorem t_X8_chosen_b190 {p : Program} {l : Launch} {e : Env} {s : State} {m : MethodId} {args : Array Value} {below : List Frame} {meth : Method} {c : Code} {A : Nat → Prop} {D : va_G} {cI cJ cZ : ClassId} {h : Nat → Nat} (hC : zCx p s m args meth c A D (zty cI cJ cZ) cX8_chosen RX8 12 (some .int)) (N : Nat) {mG : tmG} {mH : tmH} {mR : tmR} {mW : tmW} {mS : tmS} {mK : tmK} {mN : tmN} {mO : tmO} {mB : tmB} {mM : tmM} {mF : tmF} {u : Int32 × tmD} (k56 : tmD → Int32 → Int32 → Int32 → Int32 → Int32 → Int32 → Int32 → Option (Int32 × tmD)) (hk56 : ∀ (mD : tmD) (v1 : Int32) (v2 : Int32) (v3 : Int32) (v4 : Int32) (v5 : Int32) (v6 : Int32) (v7 : Int32) (H : Heap) (locs : List Loc) (ls : Array Slot), va_P D vwCl (zWM cI cJ cZ h mG mH mR mW mS mK mD mN mO mB mM mF) H → va_D A (zWM cI cJ cZ h mG mH mR mW mS mK mD mN mO mB mM mF) → va_S A s.heap H locs → lv_has ls 12 [(0, .ref (h 0)), (1, .int v1), (2, .int v2), (3, .int v3), (4, .int v4), (5, .int v5), (6, .int v6), (7, .int v7)] → k56 mD v1 v2 v3 v4 v5 v6 v7 = some u → W p l e ({ frames := 4, cells := 0, slots := 0, locals := 107 } : Room) s m args below meth c H locs 0 0 (MQ below (zQi D A (zWM cI cJ cZ h mG mH mR mW mS mK u.2 mN mO mB mM mF) (u.1)) args s 0 0 A) (F0 m 56 ls [])) : ∀ (mD : tmD) (v1 : Int32) (v2 : Int32) (v3 : Int32) (v7 : Int32) (v8 : Int32) (v9 : Int32) (H : Heap) (locs : List Loc) (ls : Array Slot), va_P D vwCl (zWM cI cJ cZ h mG mH mR mW mS mK mD mN mO mB mM mF) H → va_D A (zWM cI cJ cZ h mG mH mR mW mS mK mD mN mO mB mM mF) → va_S A s.heap H locs → lv_has ls 12 [(0, .ref (h 0)), (1, .int v1), (2, .int v2), (3, .int v3), (7, .int v7), (8, .int v8), (9, .int v9)] → X8_chosen_b190 N k56 mG mR mD v1 v2 v3 v7 v8 v9 = some u → W p l e ({ frames := 4, cells := 0, slots := 0, locals := 107 } : Room) s m args below meth c H locs 0 0 (MQ below (zQi D A (zWM cI cJ cZ h mG mH mR mW mS mK u.2 mN mO mB mM mF) (u.1)) args s 0 0 A) (F0 m 190 ls []) := by
  intro mD v1 v2 v3 v7 v8 v9 H locs ls hP hD hS hl hf
  obtain ⟨hx, hb, hml, hown, hts, hK, hr, hlocks, hA⟩ := id hC
  unfold X8_chosen_b190 at hf
  refine lv_iload hx hb dX8_chosen_190 (lv_at hl 4 rfl) ?_
  refine lv_istore (lv' := [(4, .int v7), (0, .ref (h 0)), (1, .int v1), (2, .int v2), (3, .int v3), (7, .int v7), (8, .int v8), (9, .int v9)]) hx hb dX8_chosen_192 hl (by decide) rfl (fun ls hl => ?_)
  refine lv_iload hx hb dX8_chosen_194 (lv_at hl 6 rfl) ?_
  refine lv_istore (lv' := [(5, .int v8), (4, .int v7), (0, .ref (h 0)), (1, .int v1), (2, .int v2), (3, .int v3), (7, .int v7), (8, .int v8), (9, .int v9)]) hx hb dX8_chosen_196 hl (by decide) rfl (fun ls hl => ?_)
  refine lv_iload hx hb dX8_chosen_198 (lv_at hl 8 rfl) ?_
  refine lv_istore (lv' := [(6, .int v9), (5, .int v8), (4, .int v7), (0, .ref (h 0)), (1, .int v1), (2, .int v2), (3, .int v3), (7, .int v7), (8, .int v8), (9, .int v9)]) hx hb dX8_chosen_200 hl (by decide) rfl (fun ls hl => ?_)
  exact t_X8_chosen_b202 hC N k56 hk56  mD v1 v2 v3 v7 v8 v9 v7 H locs ls hP hD hS (lv_sub hl [3, 4, 5, 6, 2, 1, 0, 7] rfl) hf
set_option maxHeartbeats 4000000 in
set_option maxRecDepth 100000 in
theorem t_X8_chosen_b162 {p : Program} {l : Launch} {e : Env} {s : State} {m : MethodId} {args : Array Value} {below : List Frame} {meth : Method} {c : Code} {A : Nat → Prop} {D : va_G} {cI cJ cZ : ClassId} {h : Nat → Nat} (hC : zCx p s m args meth c A D (zty cI cJ cZ) cX8_chosen RX8 12 (some .int)) (N : Nat) {mG : tmG} {mH : tmH} {mR : tmR} {mW : tmW} {mS : tmS} {mK : tmK} {mN : tmN} {mO : tmO} {mB : tmB} {mM : tmM} {mF : tmF} {u : Int32 × tmD} (k56 : tmD → Int32 → Int32 → Int32 → Int32 → Int32 → Int32 → Int32 → Option (Int32 × tmD)) (hk56 : ∀ (mD : tmD) (v1 : Int32) (v2 : Int32) (v3 : Int32) (v4 : Int32) (v5 : Int32) (v6 : Int32) (v7 : Int32) (H : Heap) (locs : List Loc) (ls : Array Slot), va_P D vwCl (zWM cI cJ cZ h mG mH mR mW mS mK mD mN mO mB mM mF) H → va_D A (zWM cI cJ cZ h mG mH mR mW mS mK mD mN mO mB mM mF) → va_S A s.heap H locs → lv_has ls 12 [(0, .ref (h 0)), (1, .int v1), (2, .int v2), (3, .int v3), (4, .int v4), (5, .int v5), (6, .int v6), (7, .int v7)] → k56 mD v1 v2 v3 v4 v5 v6 v7 = some u → W p l e ({ frames := 4, cells := 0, slots := 0, locals := 107 } : Room) s m args below meth c H locs 0 0 (MQ below (zQi D A (zWM cI cJ cZ h mG mH mR mW mS mK u.2 mN mO mB mM mF) (u.1)) args s 0 0 A) (F0 m 56 ls [])) : ∀ (mD : tmD) (v1 : Int32) (v2 : Int32) (v3 : Int32) (v4 : Int32) (v5 : Int32) (v6 : Int32) (v7 : Int32) (v9 : Int32) (s0 : Int32) (H : Heap) (locs : List Loc) (ls : Array Slot), va_P D vwCl (zWM cI cJ cZ h mG mH mR mW mS mK mD mN mO mB mM mF) H → va_D A (zWM cI cJ cZ h mG mH mR mW mS mK mD mN mO mB mM mF) → va_S A s.heap H locs → lv_has ls 12 [(0, .ref (h 0)), (1, .int v1), (2, .int v2), (3, .int v3), (4, .int v4), (5, .int v5), (6, .int v6), (7, .int v7), (9, .int v9)] → X8_chosen_b162 N k56 mG mR mD v1 v2 v3 v4 v5 v6 v7 v9 s0 = some u → W p l e ({ frames := 4, cells := 0, slots := 0, locals := 107 } : Room) s m args below meth c H locs 0 0 (MQ below (zQi D A (zWM cI cJ cZ h mG mH mR mW mS mK u.2 mN mO mB mM mF) (u.1)) args s 0 0 A) (F0 m 162 ls [.int s0]) := by
  intro mD v1 v2 v3 v4 v5 v6 v7 v9 s0 H locs ls hP hD hS hl hf
  obtain ⟨hx, hb, hml, hown, hts, hK, hr, hlocks, hA⟩ := id hC
  unfold X8_chosen_b162 at hf
  refine lv_istore (lv' := [(8, .int s0), (0, .ref (h 0)), (1, .int v1), (2, .int v2), (3, .int v3), (4, .int v4), (5, .int v5), (6, .int v6), (7, .int v7), (9, .int v9)]) hx hb dX8_chosen_162 hl (by decide) rfl (fun ls hl => ?_)
  refine lv_iload hx hb dX8_chosen_164 (lv_at hl 5 rfl) ?_
  refine lv_if_lt (tgt := 190) hx hb dX8_chosen_166 (by decide) (fun c1 => ?_) (fun c1 => ?_)
  · replace hf := zif_t hf c1
    exact t_X8_chosen_b190 hC N k56 hk56  mD v1 v2 v3 v7 s0 v9 H locs ls hP hD hS (lv_sub hl [1, 2, 3, 4, 8, 0, 9] rfl) hf
  · replace hf := zif_f hf c1
    refine lv_iload hx hb dX8_chosen_169 (lv_at hl 0 rfl) ?_
    refine lv_iload hx hb dX8_chosen_171 (lv_at hl 6 rfl) ?_
    refine lv_icmp_lt (tgt := 190) hx hb dX8_chosen_173 (by decide) (fun c2 => ?_) (fun c2 => ?_)
    · replace hf := zif_t hf c2
      exact t_X8_chosen_b190 hC N k56 hk56  mD v1 v2 v3 v7 s0 v9 H locs ls hP hD hS (lv_sub hl [1, 2, 3, 4, 8, 0, 9] rfl) hf
    · replace hf := zif_f hf c2
      refine lv_iload hx hb dX8_chosen_176 (lv_at hl 0 rfl) ?_
      refine lv_iload hx hb dX8_chosen_178 (lv_at hl 6 rfl) ?_
      refine lv_icmp_ne (tgt := 202) hx hb dX8_chosen_180 (by decide) (fun c3 => ?_) (fun c3 => ?_)
      · replace hf := zif_f hf c3
        exact t_X8_chosen_b202 hC N k56 hk56  mD v1 v2 v3 v4 v5 v6 v7 H locs ls hP hD hS (lv_sub hl [1, 2, 3, 4, 5, 6, 7, 8] rfl) hf
      · replace hf := zif_t hf c3
        refine lv_iload hx hb dX8_chosen_183 (lv_at hl 9 rfl) ?_
        refine lv_iload hx hb dX8_chosen_185 (lv_at hl 7 rfl) ?_
        refine lv_icmp_ge (tgt := 202) hx hb dX8_chosen_187 (by decide) (fun c4 => ?_) (fun c4 => ?_)
        · replace hf := zif_t hf c4
          exact t_X8_chosen_b202 hC N k56 hk56  mD v1 v2 v3 v4 v5 v6 v7 H locs ls hP hD hS (lv_sub hl [1, 2, 3, 4, 5, 6, 7, 8] rfl) hf
        · replace hf := zif_f hf c4
          exact t_X8_chosen_b190 hC N k56 hk56  mD v1 v2 v3 v7 s0 v9 H locs ls hP hD hS (lv_sub hl [1, 2, 3, 4, 8, 0, 9] rfl) hf
set_option maxHeartbeats 4000000 in
set_option maxRecDepth 100000 in
theorem t_X8_chosen_b140 {p : Program} {l : Launch} {e : Env} {s : State} {m : MethodId} {args : Array Value} {below : List Frame} {meth : Method} {c : Code} {A : Nat → Prop} {D : va_G} {cI cJ cZ : ClassId} {h : Nat → Nat} (hC : zCx p s m args meth c A D (zty cI cJ cZ) cX8_chosen RX8 12 (some .int)) (N : Nat) {mG : tmG} {mH : tmH} {mR : tmR} {mW : tmW} {mS : tmS} {mK : tmK} {mN : tmN} {mO : tmO} {mB : tmB} {mM : tmM} {mF : tmF} {u : Int32 × tmD} (k56 : tmD → Int32 → Int32 → Int32 → Int32 → Int32 → Int32 → Int32 → Option (Int32 × tmD)) (hk56 : ∀ (mD : tmD) (v1 : Int32) (v2 : Int32) (v3 : Int32) (v4 : Int32) (v5 : Int32) (v6 : Int32) (v7 : Int32) (H : Heap) (locs : List Loc) (ls : Array Slot), va_P D vwCl (zWM cI cJ cZ h mG mH mR mW mS mK mD mN mO mB mM mF) H → va_D A (zWM cI cJ cZ h mG mH mR mW mS mK mD mN mO mB mM mF) → va_S A s.heap H locs → lv_has ls 12 [(0, .ref (h 0)), (1, .int v1), (2, .int v2), (3, .int v3), (4, .int v4), (5, .int v5), (6, .int v6), (7, .int v7)] → k56 mD v1 v2 v3 v4 v5 v6 v7 = some u → W p l e ({ frames := 4, cells := 0, slots := 0, locals := 107 } : Room) s m args below meth c H locs 0 0 (MQ below (zQi D A (zWM cI cJ cZ h mG mH mR mW mS mK u.2 mN mO mB mM mF) (u.1)) args s 0 0 A) (F0 m 56 ls [])) : ∀ (mD : tmD) (v1 : Int32) (v2 : Int32) (v3 : Int32) (v4 : Int32) (v5 : Int32) (v6 : Int32) (v7 : Int32) (v8 : Int32) (v9 : Int32) (H : Heap) (locs : List Loc) (ls : Array Slot), va_P D vwCl (zWM cI cJ cZ h mG mH mR mW mS mK mD mN mO mB mM mF) H → va_D A (zWM cI cJ cZ h mG mH mR mW mS mK mD mN mO mB mM mF) → va_S A s.heap H locs → lv_has ls 12 [(0, .ref (h 0)), (1, .int v1), (2, .int v2), (3, .int v3), (4, .int v4), (5, .int v5), (6, .int v6), (7, .int v7), (8, .int v8), (9, .int v9)] → X8_chosen_b140 N k56 mG mR mD v1 v2 v3 v4 v5 v6 v7 v8 v9 = some u → W p l e ({ frames := 4, cells := 0, slots := 0, locals := 107 } : Room) s m args below meth c H locs 0 0 (MQ below (zQi D A (zWM cI cJ cZ h mG mH mR mW mS mK u.2 mN mO mB mM mF) (u.1)) args s 0 0 A) (F0 m 140 ls []) := by
  intro mD v1 v2 v3 v4 v5 v6 v7 v8 v9 H locs ls hP hD hS hl hf
  obtain ⟨hx, hb, hml, hown, hts, hK, hr, hlocks, hA⟩ := id hC
  unfold X8_chosen_b140 at hf
  refine lv_iload_n hx hb dX8_chosen_140 rfl (lv_at hl 1 rfl) ?_
  refine lv_iconst (v := 1) hx hb dX8_chosen_141 (by decide) ?_
  refine lv_icmp_ne (tgt := 149) hx hb dX8_chosen_142 (by decide) (fun c5 => ?_) (fun c5 => ?_)
  · replace hf := zif_f hf c5
    refine lv_iload hx hb dX8_chosen_149 (lv_at hl 8 rfl) ?_
    refine lv_if_ge (tgt := 160) hx hb dX8_chosen_151 (by decide) (fun c6 => ?_) (fun c6 => ?_)
    · replace hf := zif_t hf c6
      refine lv_iload hx hb dX8_chosen_160 (lv_at hl 8 rfl) ?_
      exact t_X8_chosen_b162 hC N k56 hk56  mD v1 v2 v3 v4 v5 v6 v7 v9 v8 H locs ls hP hD hS (lv_sub hl [0, 1, 2, 3, 4, 5, 6, 7, 9] rfl) hf
    · replace hf := zif_f hf c6
      refine lv_iload hx hb dX8_chosen_154 (lv_at hl 8 rfl) ?_
      refine lv_ineg hx hb dX8_chosen_156 ?_
      refine lv_goto (tgt := 162) hx hb dX8_chosen_157 (by decide) ?_
      exact t_X8_chosen_b162 hC N k56 hk56  mD v1 v2 v3 v4 v5 v6 v7 v9 (-v8) H locs ls hP hD hS (lv_sub hl [0, 1, 2, 3, 4, 5, 6, 7, 9] rfl) hf
  · replace hf := zif_t hf c5
    refine lv_iconst (v := 0) hx hb dX8_chosen_145 (by decide) ?_
    refine lv_goto (tgt := 162) hx hb dX8_chosen_146 (by decide) ?_
    exact t_X8_chosen_b162 hC N k56 hk56  mD v1 v2 v3 v4 v5 v6 v7 v9 (0 : Int32) H locs ls hP hD hS (lv_sub hl [0, 1, 2, 3, 4, 5, 6, 7, 9] rfl) hf
set_option maxHeartbeats 4000000 in
set_option maxRecDepth 100000 in
theorem t_X8_chosen_b131 {p : Program} {l : Launch} {e : Env} {s : State} {m : MethodId} {args : Array Value} {below : List Frame} {meth : Method} {c : Code} {A : Nat → Prop} {D : va_G} {cI cJ cZ : ClassId} {h : Nat → Nat} (hC : zCx p s m args meth c A D (zty cI cJ cZ) cX8_chosen RX8 12 (some .int)) (N : Nat) {mG : tmG} {mH : tmH} {mR : tmR} {mW : tmW} {mS : tmS} {mK : tmK} {mN : tmN} {mO : tmO} {mB : tmB} {mM : tmM} {mF : tmF} {u : Int32 × tmD} (k56 : tmD → Int32 → Int32 → Int32 → Int32 → Int32 → Int32 → Int32 → Option (Int32 × tmD)) (hk56 : ∀ (mD : tmD) (v1 : Int32) (v2 : Int32) (v3 : Int32) (v4 : Int32) (v5 : Int32) (v6 : Int32) (v7 : Int32) (H : Heap) (locs : List Loc) (ls : Array Slot), va_P D vwCl (zWM cI cJ cZ h mG mH mR mW mS mK mD mN mO mB mM mF) H → va_D A (zWM cI cJ cZ h mG mH mR mW mS mK mD mN mO mB mM mF) → va_S A s.heap H locs → lv_has ls 12 [(0, .ref (h 0)), (1, .int v1), (2, .int v2), (3, .int v3), (4, .int v4), (5, .int v5), (6, .int v6), (7, .int v7)] → k56 mD v1 v2 v3 v4 v5 v6 v7 = some u → W p l e ({ frames := 4, cells := 0, slots := 0, locals := 107 } : Room) s m args below meth c H locs 0 0 (MQ below (zQi D A (zWM cI cJ cZ h mG mH mR mW mS mK u.2 mN mO mB mM mF) (u.1)) args s 0 0 A) (F0 m 56 ls [])) (k71 : tmD → Int32 → Int32 → Int32 → Int32 → Int32 → Int32 → Int32 → Int32 → Int32 → Int32 → Option (Int32 × tmD)) (hk71 : ∀ (mD : tmD) (v1 : Int32) (v2 : Int32) (v3 : Int32) (v4 : Int32) (v5 : Int32) (v6 : Int32) (v7 : Int32) (v8 : Int32) (v9 : Int32) (v10 : Int32) (H : Heap) (locs : List Loc) (ls : Array Slot), va_P D vwCl (zWM cI cJ cZ h mG mH mR mW mS mK mD mN mO mB mM mF) H → va_D A (zWM cI cJ cZ h mG mH mR mW mS mK mD mN mO mB mM mF) → va_S A s.heap H locs → lv_has ls 12 [(0, .ref (h 0)), (1, .int v1), (2, .int v2), (3, .int v3), (4, .int v4), (5, .int v5), (6, .int v6), (7, .int v7), (8, .int v8), (9, .int v9), (10, .int v10)] → k71 mD v1 v2 v3 v4 v5 v6 v7 v8 v9 v10 = some u → W p l e ({ frames := 4, cells := 0, slots := 0, locals := 107 } : Room) s m args below meth c H locs 0 0 (MQ below (zQi D A (zWM cI cJ cZ h mG mH mR mW mS mK u.2 mN mO mB mM mF) (u.1)) args s 0 0 A) (F0 m 71 ls [])) : ∀ (mD : tmD) (v1 : Int32) (v2 : Int32) (v3 : Int32) (v4 : Int32) (v5 : Int32) (v6 : Int32) (v7 : Int32) (v8 : Int32) (v10 : Int32) (s0 : Int32) (s1 : Int32) (H : Heap) (locs : List Loc) (ls : Array Slot), va_P D vwCl (zWM cI cJ cZ h mG mH mR mW mS mK mD mN mO mB mM mF) H → va_D A (zWM cI cJ cZ h mG mH mR mW mS mK mD mN mO mB mM mF) → va_S A s.heap H locs → lv_has ls 12 [(0, .ref (h 0)), (1, .int v1), (2, .int v2), (3, .int v3), (4, .int v4), (5, .int v5), (6, .int v6), (7, .int v7), (8, .int v8), (10, .int v10)] → X8_chosen_b131 N k56 k71 mG mR mD v1 v2 v3 v4 v5 v6 v7 v8 v10 s0 s1 = some u → W p l e ({ frames := 4, cells := 0, slots := 0, locals := 107 } : Room) s m args below meth c H locs 0 0 (MQ below (zQi D A (zWM cI cJ cZ h mG mH mR mW mS mK u.2 mN mO mB mM mF) (u.1)) args s 0 0 A) (F0 m 131 ls [.int s0, .int s1]) := by
  intro mD v1 v2 v3 v4 v5 v6 v7 v8 v10 s0 s1 H locs ls hP hD hS hl hf
  obtain ⟨hx, hb, hml, hown, hts, hK, hr, hlocks, hA⟩ := id hC
  unfold X8_chosen_b131 at hf
  refine lv_iadd hx hb dX8_chosen_131 ?_
  refine lv_topi (fun x7 ex7 => ?_)
  replace hf := zl_n ex7 hf
  refine lv_istore (lv' := [(9, .int x7), (0, .ref (h 0)), (1, .int v1), (2, .int v2), (3, .int v3), (4, .int v4), (5, .int v5), (6, .int v6), (7, .int v7), (8, .int v8), (10, .int v10)]) hx hb dX8_chosen_132 hl (by decide) rfl (fun ls hl => ?_)
  refine lv_iinc (v := (v10 + (1 : Int32))) (lv' := [(10, .int (v10 + (1 : Int32))), (9, .int x7), (0, .ref (h 0)), (1, .int v1), (2, .int v2), (3, .int v3), (4, .int v4), (5, .int v5), (6, .int v6), (7, .int v7), (8, .int v8)]) hx hb dX8_chosen_134 hl (k := 10) rfl rfl (by decide) rfl (fun ls hl => ?_)
  refine lv_goto (tgt := 71) hx hb dX8_chosen_137 (by decide) ?_
  exact hk71 mD v1 v2 v3 v4 v5 v6 v7 v8 x7 (v10 + (1 : Int32)) H locs ls hP hD hS (lv_sub hl [2, 3, 4, 5, 6, 7, 8, 9, 10, 1, 0] rfl) hf
set_option maxHeartbeats 4000000 in
set_option maxRecDepth 100000 in
theorem t_X8_chosen_b115 {p : Program} {l : Launch} {e : Env} {s : State} {m : MethodId} {args : Array Value} {below : List Frame} {meth : Method} {c : Code} {A : Nat → Prop} {D : va_G} {cI cJ cZ : ClassId} {h : Nat → Nat} (hC : zCx p s m args meth c A D (zty cI cJ cZ) cX8_chosen RX8 12 (some .int)) (N : Nat) {mG : tmG} {mH : tmH} {mR : tmR} {mW : tmW} {mS : tmS} {mK : tmK} {mN : tmN} {mO : tmO} {mB : tmB} {mM : tmM} {mF : tmF} {u : Int32 × tmD} (k56 : tmD → Int32 → Int32 → Int32 → Int32 → Int32 → Int32 → Int32 → Option (Int32 × tmD)) (hk56 : ∀ (mD : tmD) (v1 : Int32) (v2 : Int32) (v3 : Int32) (v4 : Int32) (v5 : Int32) (v6 : Int32) (v7 : Int32) (H : Heap) (locs : List Loc) (ls : Array Slot), va_P D vwCl (zWM cI cJ cZ h mG mH mR mW mS mK mD mN mO mB mM mF) H → va_D A (zWM cI cJ cZ h mG mH mR mW mS mK mD mN mO mB mM mF) → va_S A s.heap H locs → lv_has ls 12 [(0, .ref (h 0)), (1, .int v1), (2, .int v2), (3, .int v3), (4, .int v4), (5, .int v5), (6, .int v6), (7, .int v7)] → k56 mD v1 v2 v3 v4 v5 v6 v7 = some u → W p l e ({ frames := 4, cells := 0, slots := 0, locals := 107 } : Room) s m args below meth c H locs 0 0 (MQ below (zQi D A (zWM cI cJ cZ h mG mH mR mW mS mK u.2 mN mO mB mM mF) (u.1)) args s 0 0 A) (F0 m 56 ls [])) (k71 : tmD → Int32 → Int32 → Int32 → Int32 → Int32 → Int32 → Int32 → Int32 → Int32 → Int32 → Option (Int32 × tmD)) (hk71 : ∀ (mD : tmD) (v1 : Int32) (v2 : Int32) (v3 : Int32) (v4 : Int32) (v5 : Int32) (v6 : Int32) (v7 : Int32) (v8 : Int32) (v9 : Int32) (v10 : Int32) (H : Heap) (locs : List Loc) (ls : Array Slot), va_P D vwCl (zWM cI cJ cZ h mG mH mR mW mS mK mD mN mO mB mM mF) H → va_D A (zWM cI cJ cZ h mG mH mR mW mS mK mD mN mO mB mM mF) → va_S A s.heap H locs → lv_has ls 12 [(0, .ref (h 0)), (1, .int v1), (2, .int v2), (3, .int v3), (4, .int v4), (5, .int v5), (6, .int v6), (7, .int v7), (8, .int v8), (9, .int v9), (10, .int v10)] → k71 mD v1 v2 v3 v4 v5 v6 v7 v8 v9 v10 = some u → W p l e ({ frames := 4, cells := 0, slots := 0, locals := 107 } : Room) s m args below meth c H locs 0 0 (MQ below (zQi D A (zWM cI cJ cZ h mG mH mR mW mS mK u.2 mN mO mB mM mF) (u.1)) args s 0 0 A) (F0 m 71 ls [])) : ∀ (mD : tmD) (v1 : Int32) (v2 : Int32) (v3 : Int32) (v4 : Int32) (v5 : Int32) (v6 : Int32) (v7 : Int32) (v9 : Int32) (v10 : Int32) (v11 : Int32) (s0 : Int32) (s1 : Int32) (H : Heap) (locs : List Loc) (ls : Array Slot), va_P D vwCl (zWM cI cJ cZ h mG mH mR mW mS mK mD mN mO mB mM mF) H → va_D A (zWM cI cJ cZ h mG mH mR mW mS mK mD mN mO mB mM mF) → va_S A s.heap H locs → lv_has ls 12 [(0, .ref (h 0)), (1, .int v1), (2, .int v2), (3, .int v3), (4, .int v4), (5, .int v5), (6, .int v6), (7, .int v7), (9, .int v9), (10, .int v10), (11, .int v11)] → X8_chosen_b115 N k56 k71 mG mR mD v1 v2 v3 v4 v5 v6 v7 v9 v10 v11 s0 s1 = some u → W p l e ({ frames := 4, cells := 0, slots := 0, locals := 107 } : Room) s m args below meth c H locs 0 0 (MQ below (zQi D A (zWM cI cJ cZ h mG mH mR mW mS mK u.2 mN mO mB mM mF) (u.1)) args s 0 0 A) (F0 m 115 ls [.int s0, .int s1]) := by
  intro mD v1 v2 v3 v4 v5 v6 v7 v9 v10 v11 s0 s1 H locs ls hP hD hS hl hf
  obtain ⟨hx, hb, hml, hown, hts, hK, hr, hlocks, hA⟩ := id hC
  unfold X8_chosen_b115 at hf
  refine lv_iadd hx hb dX8_chosen_115 ?_
  refine lv_topi (fun x8 ex8 => ?_)
  replace hf := zl_n ex8 hf
  refine lv_istore (lv' := [(8, .int x8), (0, .ref (h 0)), (1, .int v1), (2, .int v2), (3, .int v3), (4, .int v4), (5, .int v5), (6, .int v6), (7, .int v7), (9, .int v9), (10, .int v10), (11, .int v11)]) hx hb dX8_chosen_116 hl (by decide) rfl (fun ls hl => ?_)
  refine lv_iload hx hb dX8_chosen_118 (lv_at hl 9 rfl) ?_
  refine lv_iload hx hb dX8_chosen_120 (lv_at hl 11 rfl) ?_
  refine lv_iconst (v := 2) hx hb dX8_chosen_122 (by decide) ?_
  refine lv_icmp_le (tgt := 130) hx hb dX8_chosen_123 (by decide) (fun c9 => ?_) (fun c9 => ?_)
  · replace hf := zif_t hf c9
    refine lv_iconst (v := 0) hx hb dX8_chosen_130 (by decide) ?_
    exact t_X8_chosen_b131 hC N k56 hk56 k71 hk71  mD v1 v2 v3 v4 v5 v6 v7 x8 v10 (0 : Int32) v9 H locs ls hP hD hS (lv_sub hl [1, 2, 3, 4, 5, 6, 7, 8, 0, 10] rfl) hf
  · replace hf := zif_f hf c9
    refine lv_iconst (v := 1) hx hb dX8_chosen_126 (by decide) ?_
    refine lv_goto (tgt := 131) hx hb dX8_chosen_127 (by decide) ?_
    exact t_X8_chosen_b131 hC N k56 hk56 k71 hk71  mD v1 v2 v3 v4 v5 v6 v7 x8 v10 (1 : Int32) v9 H locs ls hP hD hS (lv_sub hl [1, 2, 3, 4, 5, 6, 7, 8, 0, 10] rfl) hf
set_option maxHeartbeats 4000000 in
set_option maxRecDepth 100000 in
theorem t_X8_chosen_b71 {p : Program} {l : Launch} {e : Env} {s : State} {m : MethodId} {args : Array Value} {below : List Frame} {meth : Method} {c : Code} {A : Nat → Prop} {D : va_G} {cI cJ cZ : ClassId} {h : Nat → Nat} (hC : zCx p s m args meth c A D (zty cI cJ cZ) cX8_chosen RX8 12 (some .int)) (N : Nat) {mG : tmG} {mH : tmH} {mR : tmR} {mW : tmW} {mS : tmS} {mK : tmK} {mN : tmN} {mO : tmO} {mB : tmB} {mM : tmM} {mF : tmF} {u : Int32 × tmD} (k56 : tmD → Int32 → Int32 → Int32 → Int32 → Int32 → Int32 → Int32 → Option (Int32 × tmD)) (hk56 : ∀ (mD : tmD) (v1 : Int32) (v2 : Int32) (v3 : Int32) (v4 : Int32) (v5 : Int32) (v6 : Int32) (v7 : Int32) (H : Heap) (locs : List Loc) (ls : Array Slot), va_P D vwCl (zWM cI cJ cZ h mG mH mR mW mS mK mD mN mO mB mM mF) H → va_D A (zWM cI cJ cZ h mG mH mR mW mS mK mD mN mO mB mM mF) → va_S A s.heap H locs → lv_has ls 12 [(0, .ref (h 0)), (1, .int v1), (2, .int v2), (3, .int v3), (4, .int v4), (5, .int v5), (6, .int v6), (7, .int v7)] → k56 mD v1 v2 v3 v4 v5 v6 v7 = some u → W p l e ({ frames := 4, cells := 0, slots := 0, locals := 107 } : Room) s m args below meth c H locs 0 0 (MQ below (zQi D A (zWM cI cJ cZ h mG mH mR mW mS mK u.2 mN mO mB mM mF) (u.1)) args s 0 0 A) (F0 m 56 ls [])) : ∀ (n : Nat) (mD : tmD) (v1 : Int32) (v2 : Int32) (v3 : Int32) (v4 : Int32) (v5 : Int32) (v6 : Int32) (v7 : Int32) (v8 : Int32) (v9 : Int32) (v10 : Int32) (H : Heap) (locs : List Loc) (ls : Array Slot), va_P D vwCl (zWM cI cJ cZ h mG mH mR mW mS mK mD mN mO mB mM mF) H → va_D A (zWM cI cJ cZ h mG mH mR mW mS mK mD mN mO mB mM mF) → va_S A s.heap H locs → lv_has ls 12 [(0, .ref (h 0)), (1, .int v1), (2, .int v2), (3, .int v3), (4, .int v4), (5, .int v5), (6, .int v6), (7, .int v7), (8, .int v8), (9, .int v9), (10, .int v10)] → X8_chosen_b71 N k56 mG mR n mD v1 v2 v3 v4 v5 v6 v7 v8 v9 v10 = some u → W p l e ({ frames := 4, cells := 0, slots := 0, locals := 107 } : Room) s m args below meth c H locs 0 0 (MQ below (zQi D A (zWM cI cJ cZ h mG mH mR mW mS mK u.2 mN mO mB mM mF) (u.1)) args s 0 0 A) (F0 m 71 ls []) := by
  intro n
  induction n with
  | zero =>
    intro mD v1 v2 v3 v4 v5 v6 v7 v8 v9 v10 H locs ls hP hD hS hl hf
    cases hf
  | succ n ih =>
    intro mD v1 v2 v3 v4 v5 v6 v7 v8 v9 v10 H locs ls hP hD hS hl hf
    obtain ⟨hx, hb, hml, hown, hts, hK, hr, hlocks, hA⟩ := id hC
    rw [X8_chosen_b71] at hf
    refine lv_iload hx hb dX8_chosen_71 (lv_at hl 10 rfl) ?_
    refine lv_iload_n hx hb dX8_chosen_73 rfl (lv_at hl 3 rfl) ?_
    refine lv_icmp_ge (tgt := 140) hx hb dX8_chosen_74 (by decide) (fun c10 => ?_) (fun c10 => ?_)
    · replace hf := zif_t hf c10
      exact t_X8_chosen_b140 hC N k56 hk56  mD v1 v2 v3 v4 v5 v6 v7 v8 v9 H locs ls hP hD hS (lv_sub hl [0, 1, 2, 3, 4, 5, 6, 7, 8, 9] rfl) hf
    · replace hf := zif_f hf c10
      refine lv_aload_n hx hb dX8_chosen_77 rfl (lv_at hl 0 rfl) ?_
      refine lv_aload_n hx hb dX8_chosen_78 rfl (lv_at hl 0 rfl) ?_
      refine va_get (D := D) (ci := 8) (v := .ref (h 5)) (C := RX8) (T := TX8) (N := 56) hx hb hts tb_wsX80 hown hK.1 hP 0 rfl rfl 6 (by decide) (hts _ tb_5_10) (fun _ h9 => h9) rfl dX8_chosen_79 ?_
      refine lv_iload hx hb dX8_chosen_82 (lv_at hl 7 rfl) ?_
      obtain ⟨h11, hf⟩ := zck_s hf
      refine va_iald hx hb hK.1 hP 5 0 rfl rfl h11 dX8_chosen_84 ?_
      refine lv_iload hx hb dX8_chosen_85 (lv_at hl 10 rfl) ?_
      obtain ⟨u12, hu12, hf⟩ := zbd hf
      refine zthen_i hA hD hS (zrunV (As := [.int ((tmR.rPiece mR) v7.toNatClampNeg), .int v10]) (rest := []) hC hP hD 0 rfl rfl (c_X8_rowDoes l D cI cJ cZ h  mG mH mR mW mS mK mD mN mO mB mM mF ((tmR.rPiece mR) v7.toNatClampNeg) v10 u12 hu12 H.size) kRX8_173 rfl rfl ⟨by decide, by decide⟩ rfl hl.1 rfl (Nat.le_of_ble_eq_true rfl) dX8_chosen_87) (fun H locs hP hD hS => ?_)
      refine lv_istore (lv' := [(11, .int u12), (0, .ref (h 0)), (1, .int v1), (2, .int v2), (3, .int v3), (4, .int v4), (5, .int v5), (6, .int v6), (7, .int v7), (8, .int v8), (9, .int v9), (10, .int v10)]) hx hb dX8_chosen_90 hl (by decide) rfl (fun ls hl => ?_)
      refine lv_iload hx hb dX8_chosen_92 (lv_at hl 9 rfl) ?_
      refine lv_iload hx hb dX8_chosen_94 (lv_at hl 0 rfl) ?_
      refine lv_iconst (v := 1) hx hb dX8_chosen_96 (by decide) ?_
      refine lv_icmp_ne (tgt := 104) hx hb dX8_chosen_97 (by decide) (fun c13 => ?_) (fun c13 => ?_)
      · replace hf := zif_f hf c13
        refine lv_iload hx hb dX8_chosen_104 (lv_at hl 0 rfl) ?_
        refine lv_iconst (v := 2) hx hb dX8_chosen_106 (by decide) ?_
        refine lv_icmp_ne (tgt := 114) hx hb dX8_chosen_107 (by decide) (fun c14 => ?_) (fun c14 => ?_)
        · replace hf := zif_f hf c14
          refine lv_iconst (v := 0) hx hb dX8_chosen_114 (by decide) ?_
          exact t_X8_chosen_b115 hC N k56 hk56 (X8_chosen_b71 N k56 mG mR n) ih  mD v1 v2 v3 v4 v5 v6 v7 v9 v10 u12 (0 : Int32) v8 H locs ls hP hD hS (lv_sub hl [1, 2, 3, 4, 5, 6, 7, 8, 10, 11, 0] rfl) hf
        · replace hf := zif_t hf c14
          refine lv_iconst (v := -1) hx hb dX8_chosen_110 (by decide) ?_
          refine lv_goto (tgt := 115) hx hb dX8_chosen_111 (by decide) ?_
          exact t_X8_chosen_b115 hC N k56 hk56 (X8_chosen_b71 N k56 mG mR n) ih  mD v1 v2 v3 v4 v5 v6 v7 v9 v10 u12 (-1 : Int32) v8 H locs ls hP hD hS (lv_sub hl [1, 2, 3, 4, 5, 6, 7, 8, 10, 11, 0] rfl) hf
      · replace hf := zif_t hf c13
        refine lv_iconst (v := 1) hx hb dX8_chosen_100 (by decide) ?_
        refine lv_goto (tgt := 115) hx hb dX8_chosen_101 (by decide) ?_
        exact t_X8_chosen_b115 hC N k56 hk56 (X8_chosen_b71 N k56 mG mR n) ih  mD v1 v2 v3 v4 v5 v6 v7 v9 v10 u12 (1 : Int32) v8 H locs ls hP hD hS (lv_sub hl [1, 2, 3, 4, 5, 6, 7, 8, 10, 11, 0] rfl) hf
set_option maxHeartbeats 4000000 in
set_option maxRecDepth 100000 in
theorem t_X8_chosen_b56 {p : Program} {l : Launch} {e : Env} {s : State} {m : MethodId} {args : Array Value} {below : List Frame} {meth : Method} {c : Code} {A : Nat → Prop} {D : va_G} {cI cJ cZ : ClassId} {h : Nat → Nat} (hC : zCx p s m args meth c A D (zty cI cJ cZ) cX8_chosen RX8 12 (some .int)) (N : Nat) (mG : tmG) (mH : tmH) (mR : tmR) (mW : tmW) (mS : tmS) (mK : tmK) (mN : tmN) (mO : tmO) (mB : tmB) (mM : tmM) (mF : tmF) (u : Int32 × tmD) : ∀ (n : Nat) (mD : tmD) (v1 : Int32) (v2 : Int32) (v3 : Int32) (v4 : Int32) (v5 : Int32) (v6 : Int32) (v7 : Int32) (H : Heap) (locs : List Loc) (ls : Array Slot), va_P D vwCl (zWM cI cJ cZ h mG mH mR mW mS mK mD mN mO mB mM mF) H → va_D A (zWM cI cJ cZ h mG mH mR mW mS mK mD mN mO mB mM mF) → va_S A s.heap H locs → lv_has ls 12 [(0, .ref (h 0)), (1, .int v1), (2, .int v2), (3, .int v3), (4, .int v4), (5, .int v5), (6, .int v6), (7, .int v7)] → X8_chosen_b56 N mG mR n mD v1 v2 v3 v4 v5 v6 v7 = some u → W p l e ({ frames := 4, cells := 0, slots := 0, locals := 107 } : Room) s m args below meth c H locs 0 0 (MQ below (zQi D A (zWM cI cJ cZ h mG mH mR mW mS mK u.2 mN mO mB mM mF) (u.1)) args s 0 0 A) (F0 m 56 ls []) := by
  intro n
  induction n with
  | zero =>
    intro mD v1 v2 v3 v4 v5 v6 v7 H locs ls hP hD hS hl hf
    cases hf
  | succ n ih =>
    intro mD v1 v2 v3 v4 v5 v6 v7 H locs ls hP hD hS hl hf
    obtain ⟨hx, hb, hml, hown, hts, hK, hr, hlocks, hA⟩ := id hC
    rw [X8_chosen_b56] at hf
    refine lv_iload hx hb dX8_chosen_56 (lv_at hl 7 rfl) ?_
    refine lv_iload_n hx hb dX8_chosen_58 rfl (lv_at hl 3 rfl) ?_
    refine lv_icmp_ge (tgt := 208) hx hb dX8_chosen_59 (by decide) (fun c15 => ?_) (fun c15 => ?_)
    · replace hf := zif_t hf c15
      exact t_X8_chosen_b208 hC N mG mH mR mW mS mK mN mO mB mM mF u mD v4 H locs ls hP hD hS (lv_sub hl [4] rfl) hf
    · replace hf := zif_f hf c15
      refine lv_iconst (v := 0) hx hb dX8_chosen_62 (by decide) ?_
      refine lv_istore (lv' := [(8, .int (0 : Int32)), (0, .ref (h 0)), (1, .int v1), (2, .int v2), (3, .int v3), (4, .int v4), (5, .int v5), (6, .int v6), (7, .int v7)]) hx hb dX8_chosen_63 hl (by decide) rfl (fun ls hl => ?_)
      refine lv_iconst (v := 0) hx hb dX8_chosen_65 (by decide) ?_
      refine lv_istore (lv' := [(9, .int (0 : Int32)), (8, .int (0 : Int32)), (0, .ref (h 0)), (1, .int v1), (2, .int v2), (3, .int v3), (4, .int v4), (5, .int v5), (6, .int v6), (7, .int v7)]) hx hb dX8_chosen_66 hl (by decide) rfl (fun ls hl => ?_)
      refine lv_iload_n hx hb dX8_chosen_68 rfl (lv_at hl 4 rfl) ?_
      refine lv_istore (lv' := [(10, .int v2), (9, .int (0 : Int32)), (8, .int (0 : Int32)), (0, .ref (h 0)), (1, .int v1), (2, .int v2), (3, .int v3), (4, .int v4), (5, .int v5), (6, .int v6), (7, .int v7)]) hx hb dX8_chosen_69 hl (by decide) rfl (fun ls hl => ?_)
      exact t_X8_chosen_b71 hC N (X8_chosen_b56 N mG mR n) ih  N mD v1 v2 v3 v4 v5 v6 v7 (0 : Int32) (0 : Int32) v2 H locs ls hP hD hS (lv_sub hl [3, 4, 5, 6, 7, 8, 9, 10, 2, 1, 0] rfl) hf
set_option maxHeartbeats 4000000 in
set_option maxRecDepth 100000 in
theorem c_X8_chosen (l : Launch) (D : va_G) (cI cJ cZ : ClassId) (h : Nat → Nat) (N : Nat) (mG : tmG) (mH : tmH) (mR : tmR) (mW : tmW) (mS : tmS) (mK : tmK) (mD : tmD) (mN : tmN) (mO : tmO) (mB : tmB) (mM : tmM) (mF : tmF) (a1 : Int32) (a2 : Int32) (a3 : Int32) (u : Int32 × tmD) (hf : X8_chosen N mG mR mD a1 a2 a3 = some u) (sz : Nat) : Met l yX8_chosen (Cond.code yX8_chosen cX8_chosen 12 (some .int) :: tb_L) ({ frames := 4, cells := 0, slots := 0, locals := 107 } : Room) (zPre D (zty cI cJ cZ) (zWM cI cJ cZ h mG mH mR mW mS mK mD mN mO mB mM mF) sz [.ref (h 0), .int a1, .int a2, .int a3]) (zQi D (va_A (zWM cI cJ cZ h mG mH mR mW mS mK mD mN mO mB mM mF) sz) (zWM cI cJ cZ h mG mH mR mW mS mK u.2 mN mO mB mM mF) (u.1)) 0 0 (va_A (zWM cI cJ cZ h mG mH mR mW mS mK mD mN mO mB mM mF) sz) := by
  refine zMet (Qc := fun A => zQi D A (zWM cI cJ cZ h mG mH mR mW mS mK u.2 mN mO mB mM mF) (u.1)) (by decide) rfl (Nat.le_of_ble_eq_true rfl) ?_
  intro p e s m args below meth c A ls hC _ hP hD hS hl
  replace hl : lv_has ls 12 [(0, .ref (h 0)), (1, .int a1), (2, .int a2), (3, .int a3)] := hl
  obtain ⟨hx, hb, hml, hown, hts, hK, hr, hlocks, hA⟩ := id hC
  unfold X8_chosen at hf
  obtain ⟨H, hH⟩ : ∃ H, H = s.heap := ⟨_, rfl⟩
  rw [← hH] at hP
  replace hS : va_S A s.heap H [] := by rw [hH]; exact hS
  show W p l e _ s m args below meth c s.heap [] 0 0 _ _
  rw [← hH]
  clear hH
  obtain ⟨locs, hlo⟩ : ∃ x : List Loc, x = [] := ⟨_, rfl⟩
  rw [← hlo] at hS ⊢
  clear hlo
  refine lv_iload_n hx hb dX8_chosen_0 rfl (lv_at hl 1 rfl) ?_
  refine lv_if_ne (tgt := 6) hx hb dX8_chosen_1 (by decide) (fun c16 => ?_) (fun c16 => ?_)
  · replace hf := zif_f hf c16
    refine lv_iload_n hx hb dX8_chosen_6 rfl (lv_at hl 1 rfl) ?_
    refine lv_iconst (v := 2) hx hb dX8_chosen_7 (by decide) ?_
    refine lv_icmp_ne (tgt := 44) hx hb dX8_chosen_8 (by decide) (fun c17 => ?_) (fun c17 => ?_)
    · replace hf := zif_f hf c17
      refine lv_iconst (v := -1) hx hb dX8_chosen_44 (by decide) ?_
      refine lv_istore (lv' := [(4, .int (-1 : Int32)), (0, .ref (h 0)), (1, .int a1), (2, .int a2), (3, .int a3)]) hx hb dX8_chosen_45 hl (by decide) rfl (fun ls hl => ?_)
      refine lv_iconst (v := 0) hx hb dX8_chosen_47 (by decide) ?_
      refine lv_istore (lv' := [(5, .int (0 : Int32)), (4, .int (-1 : Int32)), (0, .ref (h 0)), (1, .int a1), (2, .int a2), (3, .int a3)]) hx hb dX8_chosen_48 hl (by decide) rfl (fun ls hl => ?_)
      refine lv_iconst (v := 0) hx hb dX8_chosen_50 (by decide) ?_
      refine lv_istore (lv' := [(6, .int (0 : Int32)), (5, .int (0 : Int32)), (4, .int (-1 : Int32)), (0, .ref (h 0)), (1, .int a1), (2, .int a2), (3, .int a3)]) hx hb dX8_chosen_51 hl (by decide) rfl (fun ls hl => ?_)
      refine lv_iload_n hx hb dX8_chosen_53 rfl (lv_at hl 5 rfl) ?_
      refine lv_istore (lv' := [(7, .int a2), (6, .int (0 : Int32)), (5, .int (0 : Int32)), (4, .int (-1 : Int32)), (0, .ref (h 0)), (1, .int a1), (2, .int a2), (3, .int a3)]) hx hb dX8_chosen_54 hl (by decide) rfl (fun ls hl => ?_)
      exact t_X8_chosen_b56 hC N mG mH mR mW mS mK mN mO mB mM mF u N mD a1 a2 a3 (-1 : Int32) (0 : Int32) (0 : Int32) a2 H locs ls hP hD hS (lv_sub hl [4, 5, 6, 7, 3, 2, 1, 0] rfl) hf
    · replace hf := zif_t hf c17
      refine lv_aload_n hx hb dX8_chosen_11 rfl (lv_at hl 0 rfl) ?_
      refine lv_ldc hx hb hown (hts _ tb_15_15) dX8_chosen_12 ?_
      refine lv_aload_n hx hb dX8_chosen_14 rfl (lv_at hl 0 rfl) ?_
      refine va_get (D := D) (ci := 8) (v := .int (tmD.draw mD)) (C := RX8) (T := TX8) (N := 56) hx hb hts tb_wsX80 hown hK.1 hP 0 rfl rfl 38 (by decide) (hts _ tb_14_14) (fun _ h9 => h9) rfl dX8_chosen_15 ?_
      refine lv_imul hx hb dX8_chosen_18 ?_
      refine lv_sipush (v := 12345) hx hb dX8_chosen_19 (by decide) ?_
      refine lv_iadd hx hb dX8_chosen_22 ?_
      refine va_put (D := D) (ci := 8) (v := .int (((1103515245 : Int32) * (tmD.draw mD)) + (12345 : Int32))) (ty := .int) (C := RX8) (T := TX8) (N := 56) hx hb hts tb_wsX80 tyX8 tyX8_ok nmX8 hown hK.1 hP hD hS 0 rfl rfl 38 (by decide) (hts _ tb_14_14) (fun _ h9 => h9) rfl (by decide +kernel) rfl rfl (Nat.le_of_ble_eq_true rfl) dX8_chosen_23 (fun H locs hP hD hS => ?_)
      replace hP : va_P D vwCl (zWM cI cJ cZ h mG mH mR mW mS mK (tmD.s_draw mD (((1103515245 : Int32) * (tmD.draw mD)) + (12345 : Int32))) mN mO mB mM mF) H := hP
      replace hD : va_D A (zWM cI cJ cZ h mG mH mR mW mS mK (tmD.s_draw mD (((1103515245 : Int32) * (tmD.draw mD)) + (12345 : Int32))) mN mO mB mM mF) := hD
      refine lv_iload_n hx hb dX8_chosen_26 rfl (lv_at hl 2 rfl) ?_
      refine lv_aload_n hx hb dX8_chosen_27 rfl (lv_at hl 0 rfl) ?_
      refine va_get (D := D) (ci := 8) (v := .int (((1103515245 : Int32) * (tmD.draw mD)) + (12345 : Int32))) (C := RX8) (T := TX8) (N := 56) hx hb hts tb_wsX80 hown hK.1 hP 0 rfl rfl 38 (by decide) (hts _ tb_14_14) (fun _ h9 => h9) rfl dX8_chosen_28 ?_
      refine lv_bipush (v := 16) hx hb dX8_chosen_31 (by decide) ?_
      refine lv_ishr hx hb dX8_chosen_33 ?_
      refine lv_sipush (v := 32767) hx hb dX8_chosen_34 (by decide) ?_
      refine lv_iand hx hb dX8_chosen_37 ?_
      refine lv_iload_n hx hb dX8_chosen_38 rfl (lv_at hl 3 rfl) ?_
      refine lv_iload_n hx hb dX8_chosen_39 rfl (lv_at hl 2 rfl) ?_
      refine lv_isub hx hb dX8_chosen_40 ?_
      obtain ⟨h18, hf⟩ := zcz_s hf
      refine lv_irem hx hb dX8_chosen_41 h18 ?_
      refine lv_iadd hx hb dX8_chosen_42 ?_
      have hu := Option.some.inj hf
      subst hu
      exact z_iret hC hP hD hS dX8_chosen_43
  · replace hf := zif_t hf c16
    refine lv_iload_n hx hb dX8_chosen_4 rfl (lv_at hl 2 rfl) ?_
    have hu := Option.some.inj hf
    subst hu
    exact z_iret hC hP hD hS dX8_chosen_5
set_option maxHeartbeats 4000000 in
set_option maxRecDepth 100000 in
theorem c_X8_keep (l : Launch) (D : va_G) (cI cJ cZ : ClassId) (h : Nat → Nat) (mG : tmG) (mH : tmH) (mR : tmR) (mW : tmW) (mS : tmS) (mK : tmK) (mD : tmD) (mN : tmN) (mO : tmO) (mB : tmB) (mM : tmM) (mF : tmF) (a1 : Int32) (a2 : Int32) (u : tmK) (hf : X8_keep mR mK a1 a2 = some u) (sz : Nat) : Met l yX8_keep (Cond.code yX8_keep cX8_keep 3 none :: tb_L) ({ frames := 0, cells := 0, slots := 0, locals := 0 } : Room) (zPre D (zty cI cJ cZ) (zWM cI cJ cZ h mG mH mR mW mS mK mD mN mO mB mM mF) sz [.ref (h 0), .int a1, .int a2]) (zQv D (va_A (zWM cI cJ cZ h mG mH mR mW mS mK mD mN mO mB mM mF) sz) (zWM cI cJ cZ h mG mH mR mW mS u mD mN mO mB mM mF)) 0 0 (va_A (zWM cI cJ cZ h mG mH mR mW mS mK mD mN mO mB mM mF) sz) := by
  refine zMet (Qc := fun A => zQv D A (zWM cI cJ cZ h mG mH mR mW mS u mD mN mO mB mM mF)) (by decide) rfl (Nat.le_of_ble_eq_true rfl) ?_
  intro p e s m args below meth c A ls hC _ hP hD hS hl
  replace hl : lv_has ls 3 [(0, .ref (h 0)), (1, .int a1), (2, .int a2)] := hl
  obtain ⟨hx, hb, hml, hown, hts, hK, hr, hlocks, hA⟩ := id hC
  unfold X8_keep at hf
  obtain ⟨H, hH⟩ : ∃ H, H = s.heap := ⟨_, rfl⟩
  rw [← hH] at hP
  replace hS : va_S A s.heap H [] := by rw [hH]; exact hS
  show W p l e _ s m args below meth c s.heap [] 0 0 _ _
  rw [← hH]
  clear hH
  obtain ⟨locs, hlo⟩ : ∃ x : List Loc, x = [] := ⟨_, rfl⟩
  rw [← hlo] at hS ⊢
  clear hlo
  refine lv_aload_n hx hb dX8_keep_0 rfl (lv_at hl 0 rfl) ?_
  refine va_get (D := D) (ci := 8) (v := .ref (h 24)) (C := RX8) (T := TX8) (N := 56) hx hb hts tb_wsX80 hown hK.1 hP 0 rfl rfl 32 (by decide) (hts _ tb_6_6) (fun _ h9 => h9) rfl dX8_keep_1 ?_
  refine lv_aload_n hx hb dX8_keep_4 rfl (lv_at hl 0 rfl) ?_
  refine va_get (D := D) (ci := 8) (v := .int (tmK.parts mK)) (C := RX8) (T := TX8) (N := 56) hx hb hts tb_wsX80 hown hK.1 hP 0 rfl rfl 24 (by decide) (hts _ tb_8_15) (fun _ h9 => h9) rfl dX8_keep_5 ?_
  refine lv_aload_n hx hb dX8_keep_8 rfl (lv_at hl 0 rfl) ?_
  refine va_get (D := D) (ci := 8) (v := .ref (h 5)) (C := RX8) (T := TX8) (N := 56) hx hb hts tb_wsX80 hown hK.1 hP 0 rfl rfl 6 (by decide) (hts _ tb_5_10) (fun _ h9 => h9) rfl dX8_keep_9 ?_
  refine lv_iload_n hx hb dX8_keep_12 rfl (lv_at hl 2 rfl) ?_
  obtain ⟨h1, hf⟩ := zck_s hf
  refine va_iald hx hb hK.1 hP 5 0 rfl rfl h1 dX8_keep_13 ?_
  obtain ⟨h2, hf⟩ := zck_s hf
  refine va_iast hx hb hK.1 hP hD hS 24 0 rfl rfl h2 dX8_keep_14 (fun H locs hP hD hS => ?_)
  replace hP : va_P D vwCl (zWM cI cJ cZ h mG mH mR mW mS (tmK.s_pPiece mK (upd (tmK.pPiece mK) (tmK.parts mK).toNatClampNeg ((tmR.rPiece mR) a2.toNatClampNeg))) mD mN mO mB mM mF) H := hP
  replace hD : va_D A (zWM cI cJ cZ h mG mH mR mW mS (tmK.s_pPiece mK (upd (tmK.pPiece mK) (tmK.parts mK).toNatClampNeg ((tmR.rPiece mR) a2.toNatClampNeg))) mD mN mO mB mM mF) := hD
  refine lv_aload_n hx hb dX8_keep_15 rfl (lv_at hl 0 rfl) ?_
  refine va_get (D := D) (ci := 8) (v := .ref (h 25)) (C := RX8) (T := TX8) (N := 56) hx hb hts tb_wsX80 hown hK.1 hP 0 rfl rfl 33 (by decide) (hts _ tb_6_7) (fun _ h9 => h9) rfl dX8_keep_16 ?_
  refine lv_aload_n hx hb dX8_keep_19 rfl (lv_at hl 0 rfl) ?_
  refine va_get (D := D) (ci := 8) (v := .int (tmK.parts mK)) (C := RX8) (T := TX8) (N := 56) hx hb hts tb_wsX80 hown hK.1 hP 0 rfl rfl 24 (by decide) (hts _ tb_8_15) (fun _ h9 => h9) rfl dX8_keep_20 ?_
  refine lv_iload_n hx hb dX8_keep_23 rfl (lv_at hl 1 rfl) ?_
  obtain ⟨h3, hf⟩ := zck_s hf
  refine va_iast hx hb hK.1 hP hD hS 25 0 rfl rfl h3 dX8_keep_24 (fun H locs hP hD hS => ?_)
  replace hP : va_P D vwCl (zWM cI cJ cZ h mG mH mR mW mS (tmK.s_pKnot (tmK.s_pPiece mK (upd (tmK.pPiece mK) (tmK.parts mK).toNatClampNeg ((tmR.rPiece mR) a2.toNatClampNeg))) (upd (tmK.pKnot mK) (tmK.parts mK).toNatClampNeg a1)) mD mN mO mB mM mF) H := hP
  replace hD : va_D A (zWM cI cJ cZ h mG mH mR mW mS (tmK.s_pKnot (tmK.s_pPiece mK (upd (tmK.pPiece mK) (tmK.parts mK).toNatClampNeg ((tmR.rPiece mR) a2.toNatClampNeg))) (upd (tmK.pKnot mK) (tmK.parts mK).toNatClampNeg a1)) mD mN mO mB mM mF) := hD
  refine lv_aload_n hx hb dX8_keep_25 rfl (lv_at hl 0 rfl) ?_
  refine va_get (D := D) (ci := 8) (v := .ref (h 26)) (C := RX8) (T := TX8) (N := 56) hx hb hts tb_wsX80 hown hK.1 hP 0 rfl rfl 34 (by decide) (hts _ tb_6_8) (fun _ h9 => h9) rfl dX8_keep_26 ?_
  refine lv_aload_n hx hb dX8_keep_29 rfl (lv_at hl 0 rfl) ?_
  refine va_get (D := D) (ci := 8) (v := .int (tmK.parts mK)) (C := RX8) (T := TX8) (N := 56) hx hb hts tb_wsX80 hown hK.1 hP 0 rfl rfl 24 (by decide) (hts _ tb_8_15) (fun _ h9 => h9) rfl dX8_keep_30 ?_
  refine lv_aload_n hx hb dX8_keep_33 rfl (lv_at hl 0 rfl) ?_
  refine va_get (D := D) (ci := 8) (v := .ref (h 6)) (C := RX8) (T := TX8) (N := 56) hx hb hts tb_wsX80 hown hK.1 hP 0 rfl rfl 7 (by decide) (hts _ tb_5_11) (fun _ h9 => h9) rfl dX8_keep_34 ?_
  refine lv_iload_n hx hb dX8_keep_37 rfl (lv_at hl 2 rfl) ?_
  obtain ⟨h4, hf⟩ := zck_s hf
  refine va_lald hx hb hK.1 hP 6 1 rfl rfl h4 dX8_keep_38 ?_
  obtain ⟨h5, hf⟩ := zck_s hf
  refine va_last hx hb hK.1 hP hD hS 26 1 rfl rfl h5 dX8_keep_39 (fun H locs hP hD hS => ?_)
  replace hP : va_P D vwCl (zWM cI cJ cZ h mG mH mR mW mS (tmK.s_pUp (tmK.s_pKnot (tmK.s_pPiece mK (upd (tmK.pPiece mK) (tmK.parts mK).toNatClampNeg ((tmR.rPiece mR) a2.toNatClampNeg))) (upd (tmK.pKnot mK) (tmK.parts mK).toNatClampNeg a1)) (vp_updL (tmK.pUp mK) (tmK.parts mK).toNatClampNeg ((tmR.rUp mR) a2.toNatClampNeg))) mD mN mO mB mM mF) H := hP
  replace hD : va_D A (zWM cI cJ cZ h mG mH mR mW mS (tmK.s_pUp (tmK.s_pKnot (tmK.s_pPiece mK (upd (tmK.pPiece mK) (tmK.parts mK).toNatClampNeg ((tmR.rPiece mR) a2.toNatClampNeg))) (upd (tmK.pKnot mK) (tmK.parts mK).toNatClampNeg a1)) (vp_updL (tmK.pUp mK) (tmK.parts mK).toNatClampNeg ((tmR.rUp mR) a2.toNatClampNeg))) mD mN mO mB mM mF) := hD
  refine lv_aload_n hx hb dX8_keep_40 rfl (lv_at hl 0 rfl) ?_
  refine va_get (D := D) (ci := 8) (v := .ref (h 27)) (C := RX8) (T := TX8) (N := 56) hx hb hts tb_wsX80 hown hK.1 hP 0 rfl rfl 35 (by decide) (hts _ tb_6_9) (fun _ h9 => h9) rfl dX8_keep_41 ?_
  refine lv_aload_n hx hb dX8_keep_44 rfl (lv_at hl 0 rfl) ?_
  refine va_get (D := D) (ci := 8) (v := .int (tmK.parts mK)) (C := RX8) (T := TX8) (N := 56) hx hb hts tb_wsX80 hown hK.1 hP 0 rfl rfl 24 (by decide) (hts _ tb_8_15) (fun _ h9 => h9) rfl dX8_keep_45 ?_
  refine lv_aload_n hx hb dX8_keep_48 rfl (lv_at hl 0 rfl) ?_
  refine va_get (D := D) (ci := 8) (v := .ref (h 7)) (C := RX8) (T := TX8) (N := 56) hx hb hts tb_wsX80 hown hK.1 hP 0 rfl rfl 8 (by decide) (hts _ tb_5_12) (fun _ h9 => h9) rfl dX8_keep_49 ?_
  refine lv_iload_n hx hb dX8_keep_52 rfl (lv_at hl 2 rfl) ?_
  obtain ⟨h6, hf⟩ := zck_s hf
  refine va_lald hx hb hK.1 hP 7 1 rfl rfl h6 dX8_keep_53 ?_
  obtain ⟨h7, hf⟩ := zck_s hf
  refine va_last hx hb hK.1 hP hD hS 27 1 rfl rfl h7 dX8_keep_54 (fun H locs hP hD hS => ?_)
  replace hP : va_P D vwCl (zWM cI cJ cZ h mG mH mR mW mS (tmK.s_pLow (tmK.s_pUp (tmK.s_pKnot (tmK.s_pPiece mK (upd (tmK.pPiece mK) (tmK.parts mK).toNatClampNeg ((tmR.rPiece mR) a2.toNatClampNeg))) (upd (tmK.pKnot mK) (tmK.parts mK).toNatClampNeg a1)) (vp_updL (tmK.pUp mK) (tmK.parts mK).toNatClampNeg ((tmR.rUp mR) a2.toNatClampNeg))) (vp_updL (tmK.pLow mK) (tmK.parts mK).toNatClampNeg ((tmR.rLow mR) a2.toNatClampNeg))) mD mN mO mB mM mF) H := hP
  replace hD : va_D A (zWM cI cJ cZ h mG mH mR mW mS (tmK.s_pLow (tmK.s_pUp (tmK.s_pKnot (tmK.s_pPiece mK (upd (tmK.pPiece mK) (tmK.parts mK).toNatClampNeg ((tmR.rPiece mR) a2.toNatClampNeg))) (upd (tmK.pKnot mK) (tmK.parts mK).toNatClampNeg a1)) (vp_updL (tmK.pUp mK) (tmK.parts mK).toNatClampNeg ((tmR.rUp mR) a2.toNatClampNeg))) (vp_updL (tmK.pLow mK) (tmK.parts mK).toNatClampNeg ((tmR.rLow mR) a2.toNatClampNeg))) mD mN mO mB mM mF) := hD
  refine lv_aload_n hx hb dX8_keep_55 rfl (lv_at hl 0 rfl) ?_
  refine va_get (D := D) (ci := 8) (v := .ref (h 28)) (C := RX8) (T := TX8) (N := 56) hx hb hts tb_wsX80 hown hK.1 hP 0 rfl rfl 36 (by decide) (hts _ tb_6_10) (fun _ h9 => h9) rfl dX8_keep_56 ?_
  refine lv_aload_n hx hb dX8_keep_59 rfl (lv_at hl 0 rfl) ?_
  refine va_get (D := D) (ci := 8) (v := .int (tmK.parts mK)) (C := RX8) (T := TX8) (N := 56) hx hb hts tb_wsX80 hown hK.1 hP 0 rfl rfl 24 (by decide) (hts _ tb_8_15) (fun _ h9 => h9) rfl dX8_keep_60 ?_
  refine lv_aload_n hx hb dX8_keep_63 rfl (lv_at hl 0 rfl) ?_
  refine va_get (D := D) (ci := 8) (v := .ref (h 8)) (C := RX8) (T := TX8) (N := 56) hx hb hts tb_wsX80 hown hK.1 hP 0 rfl rfl 9 (by decide) (hts _ tb_5_13) (fun _ h9 => h9) rfl dX8_keep_64 ?_
  refine lv_iload_n hx hb dX8_keep_67 rfl (lv_at hl 2 rfl) ?_
  obtain ⟨h8, hf⟩ := zck_s hf
  refine va_lald hx hb hK.1 hP 8 1 rfl rfl h8 dX8_keep_68 ?_
  obtain ⟨h9, hf⟩ := zck_s hf
  refine va_last hx hb hK.1 hP hD hS 28 1 rfl rfl h9 dX8_keep_69 (fun H locs hP hD hS => ?_)
  replace hP : va_P D vwCl (zWM cI cJ cZ h mG mH mR mW mS (tmK.s_pUp2 (tmK.s_pLow (tmK.s_pUp (tmK.s_pKnot (tmK.s_pPiece mK (upd (tmK.pPiece mK) (tmK.parts mK).toNatClampNeg ((tmR.rPiece mR) a2.toNatClampNeg))) (upd (tmK.pKnot mK) (tmK.parts mK).toNatClampNeg a1)) (vp_updL (tmK.pUp mK) (tmK.parts mK).toNatClampNeg ((tmR.rUp mR) a2.toNatClampNeg))) (vp_updL (tmK.pLow mK) (tmK.parts mK).toNatClampNeg ((tmR.rLow mR) a2.toNatClampNeg))) (vp_updL (tmK.pUp2 mK) (tmK.parts mK).toNatClampNeg ((tmR.rUp2 mR) a2.toNatClampNeg))) mD mN mO mB mM mF) H := hP
  replace hD : va_D A (zWM cI cJ cZ h mG mH mR mW mS (tmK.s_pUp2 (tmK.s_pLow (tmK.s_pUp (tmK.s_pKnot (tmK.s_pPiece mK (upd (tmK.pPiece mK) (tmK.parts mK).toNatClampNeg ((tmR.rPiece mR) a2.toNatClampNeg))) (upd (tmK.pKnot mK) (tmK.parts mK).toNatClampNeg a1)) (vp_updL (tmK.pUp mK) (tmK.parts mK).toNatClampNeg ((tmR.rUp mR) a2.toNatClampNeg))) (vp_updL (tmK.pLow mK) (tmK.parts mK).toNatClampNeg ((tmR.rLow mR) a2.toNatClampNeg))) (vp_updL (tmK.pUp2 mK) (tmK.parts mK).toNatClampNeg ((tmR.rUp2 mR) a2.toNatClampNeg))) mD mN mO mB mM mF) := hD
  refine lv_aload_n hx hb dX8_keep_70 rfl (lv_at hl 0 rfl) ?_
  refine va_get (D := D) (ci := 8) (v := .ref (h 29)) (C := RX8) (T := TX8) (N := 56) hx hb hts tb_wsX80 hown hK.1 hP 0 rfl rfl 37 (by decide) (hts _ tb_6_11) (fun _ h9 => h9) rfl dX8_keep_71 ?_
  refine lv_aload_n hx hb dX8_keep_74 rfl (lv_at hl 0 rfl) ?_
  refine va_get (D := D) (ci := 8) (v := .int (tmK.parts mK)) (C := RX8) (T := TX8) (N := 56) hx hb hts tb_wsX80 hown hK.1 hP 0 rfl rfl 24 (by decide) (hts _ tb_8_15) (fun _ h9 => h9) rfl dX8_keep_75 ?_
  refine lv_aload_n hx hb dX8_keep_78 rfl (lv_at hl 0 rfl) ?_
  refine va_get (D := D) (ci := 8) (v := .ref (h 9)) (C := RX8) (T := TX8) (N := 56) hx hb hts tb_wsX80 hown hK.1 hP 0 rfl rfl 10 (by decide) (hts _ tb_5_14) (fun _ h9 => h9) rfl dX8_keep_79 ?_
  refine lv_iload_n hx hb dX8_keep_82 rfl (lv_at hl 2 rfl) ?_
  obtain ⟨h10, hf⟩ := zck_s hf
  refine va_lald hx hb hK.1 hP 9 1 rfl rfl h10 dX8_keep_83 ?_
  obtain ⟨h11, hf⟩ := zck_s hf
  refine va_last hx hb hK.1 hP hD hS 29 1 rfl rfl h11 dX8_keep_84 (fun H locs hP hD hS => ?_)
  replace hP : va_P D vwCl (zWM cI cJ cZ h mG mH mR mW mS (tmK.s_pLow2 (tmK.s_pUp2 (tmK.s_pLow (tmK.s_pUp (tmK.s_pKnot (tmK.s_pPiece mK (upd (tmK.pPiece mK) (tmK.parts mK).toNatClampNeg ((tmR.rPiece mR) a2.toNatClampNeg))) (upd (tmK.pKnot mK) (tmK.parts mK).toNatClampNeg a1)) (vp_updL (tmK.pUp mK) (tmK.parts mK).toNatClampNeg ((tmR.rUp mR) a2.toNatClampNeg))) (vp_updL (tmK.pLow mK) (tmK.parts mK).toNatClampNeg ((tmR.rLow mR) a2.toNatClampNeg))) (vp_updL (tmK.pUp2 mK) (tmK.parts mK).toNatClampNeg ((tmR.rUp2 mR) a2.toNatClampNeg))) (vp_updL (tmK.pLow2 mK) (tmK.parts mK).toNatClampNeg ((tmR.rLow2 mR) a2.toNatClampNeg))) mD mN mO mB mM mF) H := hP
  replace hD : va_D A (zWM cI cJ cZ h mG mH mR mW mS (tmK.s_pLow2 (tmK.s_pUp2 (tmK.s_pLow (tmK.s_pUp (tmK.s_pKnot (tmK.s_pPiece mK (upd (tmK.pPiece mK) (tmK.parts mK).toNatClampNeg ((tmR.rPiece mR) a2.toNatClampNeg))) (upd (tmK.pKnot mK) (tmK.parts mK).toNatClampNeg a1)) (vp_updL (tmK.pUp mK) (tmK.parts mK).toNatClampNeg ((tmR.rUp mR) a2.toNatClampNeg))) (vp_updL (tmK.pLow mK) (tmK.parts mK).toNatClampNeg ((tmR.rLow mR) a2.toNatClampNeg))) (vp_updL (tmK.pUp2 mK) (tmK.parts mK).toNatClampNeg ((tmR.rUp2 mR) a2.toNatClampNeg))) (vp_updL (tmK.pLow2 mK) (tmK.parts mK).toNatClampNeg ((tmR.rLow2 mR) a2.toNatClampNeg))) mD mN mO mB mM mF) := hD
  refine lv_aload_n hx hb dX8_keep_85 rfl (lv_at hl 0 rfl) ?_
  refine lv_dup hx hb dX8_keep_86 rfl ?_
  refine va_get (D := D) (ci := 8) (v := .int (tmK.parts mK)) (C := RX8) (T := TX8) (N := 56) hx hb hts tb_wsX80 hown hK.1 hP 0 rfl rfl 24 (by decide) (hts _ tb_8_15) (fun _ h9 => h9) rfl dX8_keep_87 ?_
  refine lv_iconst (v := 1) hx hb dX8_keep_90 (by decide) ?_
  refine lv_iadd hx hb dX8_keep_91 ?_
  refine va_put (D := D) (ci := 8) (v := .int ((tmK.parts mK) + (1 : Int32))) (ty := .int) (C := RX8) (T := TX8) (N := 56) hx hb hts tb_wsX80 tyX8 tyX8_ok nmX8 hown hK.1 hP hD hS 0 rfl rfl 24 (by decide) (hts _ tb_8_15) (fun _ h9 => h9) rfl (by decide +kernel) rfl rfl (Nat.le_of_ble_eq_true rfl) dX8_keep_92 (fun H locs hP hD hS => ?_)
  replace hP : va_P D vwCl (zWM cI cJ cZ h mG mH mR mW mS (tmK.s_pLow2 (tmK.s_pUp2 (tmK.s_pLow (tmK.s_pUp (tmK.s_pKnot (tmK.s_pPiece (tmK.s_parts mK ((tmK.parts mK) + (1 : Int32))) (upd (tmK.pPiece mK) (tmK.parts mK).toNatClampNeg ((tmR.rPiece mR) a2.toNatClampNeg))) (upd (tmK.pKnot mK) (tmK.parts mK).toNatClampNeg a1)) (vp_updL (tmK.pUp mK) (tmK.parts mK).toNatClampNeg ((tmR.rUp mR) a2.toNatClampNeg))) (vp_updL (tmK.pLow mK) (tmK.parts mK).toNatClampNeg ((tmR.rLow mR) a2.toNatClampNeg))) (vp_updL (tmK.pUp2 mK) (tmK.parts mK).toNatClampNeg ((tmR.rUp2 mR) a2.toNatClampNeg))) (vp_updL (tmK.pLow2 mK) (tmK.parts mK).toNatClampNeg ((tmR.rLow2 mR) a2.toNatClampNeg))) mD mN mO mB mM mF) H := hP
  replace hD : va_D A (zWM cI cJ cZ h mG mH mR mW mS (tmK.s_pLow2 (tmK.s_pUp2 (tmK.s_pLow (tmK.s_pUp (tmK.s_pKnot (tmK.s_pPiece (tmK.s_parts mK ((tmK.parts mK) + (1 : Int32))) (upd (tmK.pPiece mK) (tmK.parts mK).toNatClampNeg ((tmR.rPiece mR) a2.toNatClampNeg))) (upd (tmK.pKnot mK) (tmK.parts mK).toNatClampNeg a1)) (vp_updL (tmK.pUp mK) (tmK.parts mK).toNatClampNeg ((tmR.rUp mR) a2.toNatClampNeg))) (vp_updL (tmK.pLow mK) (tmK.parts mK).toNatClampNeg ((tmR.rLow mR) a2.toNatClampNeg))) (vp_updL (tmK.pUp2 mK) (tmK.parts mK).toNatClampNeg ((tmR.rUp2 mR) a2.toNatClampNeg))) (vp_updL (tmK.pLow2 mK) (tmK.parts mK).toNatClampNeg ((tmR.rLow2 mR) a2.toNatClampNeg))) mD mN mO mB mM mF) := hD
  refine lv_aload_n hx hb dX8_keep_95 rfl (lv_at hl 0 rfl) ?_
  refine va_get (D := D) (ci := 8) (v := .ref (h 19)) (C := RX8) (T := TX8) (N := 56) hx hb hts tb_wsX80 hown hK.1 hP 0 rfl rfl 26 (by decide) (hts _ tb_6_1) (fun _ h9 => h9) rfl dX8_keep_96 ?_
  refine lv_iload_n hx hb dX8_keep_99 rfl (lv_at hl 1 rfl) ?_
  refine lv_dup2_11 hx hb dX8_keep_100 rfl rfl ?_
  obtain ⟨h12, hf⟩ := zck_s hf
  refine va_iald hx hb hK.1 hP 19 0 rfl rfl h12 dX8_keep_101 ?_
  refine lv_iconst (v := 1) hx hb dX8_keep_102 (by decide) ?_
  refine lv_iadd hx hb dX8_keep_103 ?_
  obtain ⟨h13, hf⟩ := zck_s hf
  refine va_iast hx hb hK.1 hP hD hS 19 0 rfl rfl h13 dX8_keep_104 (fun H locs hP hD hS => ?_)
  replace hP : va_P D vwCl (zWM cI cJ cZ h mG mH mR mW mS (tmK.s_pLow2 (tmK.s_pUp2 (tmK.s_pLow (tmK.s_pUp (tmK.s_pKnot (tmK.s_pPiece (tmK.s_kMany (tmK.s_parts mK ((tmK.parts mK) + (1 : Int32))) (upd (tmK.kMany mK) a1.toNatClampNeg (((tmK.kMany mK) a1.toNatClampNeg) + (1 : Int32)))) (upd (tmK.pPiece mK) (tmK.parts mK).toNatClampNeg ((tmR.rPiece mR) a2.toNatClampNeg))) (upd (tmK.pKnot mK) (tmK.parts mK).toNatClampNeg a1)) (vp_updL (tmK.pUp mK) (tmK.parts mK).toNatClampNeg ((tmR.rUp mR) a2.toNatClampNeg))) (vp_updL (tmK.pLow mK) (tmK.parts mK).toNatClampNeg ((tmR.rLow mR) a2.toNatClampNeg))) (vp_updL (tmK.pUp2 mK) (tmK.parts mK).toNatClampNeg ((tmR.rUp2 mR) a2.toNatClampNeg))) (vp_updL (tmK.pLow2 mK) (tmK.parts mK).toNatClampNeg ((tmR.rLow2 mR) a2.toNatClampNeg))) mD mN mO mB mM mF) H := hP
  replace hD : va_D A (zWM cI cJ cZ h mG mH mR mW mS (tmK.s_pLow2 (tmK.s_pUp2 (tmK.s_pLow (tmK.s_pUp (tmK.s_pKnot (tmK.s_pPiece (tmK.s_kMany (tmK.s_parts mK ((tmK.parts mK) + (1 : Int32))) (upd (tmK.kMany mK) a1.toNatClampNeg (((tmK.kMany mK) a1.toNatClampNeg) + (1 : Int32)))) (upd (tmK.pPiece mK) (tmK.parts mK).toNatClampNeg ((tmR.rPiece mR) a2.toNatClampNeg))) (upd (tmK.pKnot mK) (tmK.parts mK).toNatClampNeg a1)) (vp_updL (tmK.pUp mK) (tmK.parts mK).toNatClampNeg ((tmR.rUp mR) a2.toNatClampNeg))) (vp_updL (tmK.pLow mK) (tmK.parts mK).toNatClampNeg ((tmR.rLow mR) a2.toNatClampNeg))) (vp_updL (tmK.pUp2 mK) (tmK.parts mK).toNatClampNeg ((tmR.rUp2 mR) a2.toNatClampNeg))) (vp_updL (tmK.pLow2 mK) (tmK.parts mK).toNatClampNeg ((tmR.rLow2 mR) a2.toNatClampNeg))) mD mN mO mB mM mF) := hD
  have hu := Option.some.inj hf
  subst hu
  exact z_vret hC hP hD hS dX8_keep_105
set_option maxHeartbeats 4000000 in
set_option maxRecDepth 100000 in
theorem c_X8_put (l : Launch) (D : va_G) (cI cJ cZ : ClassId) (h : Nat → Nat) (mG : tmG) (mH : tmH) (mR : tmR) (mW : tmW) (mS : tmS) (mK : tmK) (mD : tmD) (mN : tmN) (mO : tmO) (mB : tmB) (mM : tmM) (mF : tmF) (a1 : Int32) (a2 : Int32) (a3 : Int64) (a5 : Int64) (a7 : Int64) (a9 : Int64) (u : tmS) (hf : X8_put mS a1 a2 a3 a5 a7 a9 = some u) (sz : Nat) : Met l yX8_put (Cond.code yX8_put cX8_put 11 none :: tb_L) ({ frames := 0, cells := 0, slots := 0, locals := 0 } : Room) (zPre D (zty cI cJ cZ) (zWM cI cJ cZ h mG mH mR mW mS mK mD mN mO mB mM mF) sz [.ref (h 0), .int a1, .int a2, .long a3, .long a5, .long a7, .long a9]) (zQv D (va_A (zWM cI cJ cZ h mG mH mR mW mS mK mD mN mO mB mM mF) sz) (zWM cI cJ cZ h mG mH mR mW u mK mD mN mO mB mM mF)) 0 0 (va_A (zWM cI cJ cZ h mG mH mR mW mS mK mD mN mO mB mM mF) sz) := by
  refine zMet (Qc := fun A => zQv D A (zWM cI cJ cZ h mG mH mR mW u mK mD mN mO mB mM mF)) (by decide) rfl (Nat.le_of_ble_eq_true rfl) ?_
  intro p e s m args below meth c A ls hC _ hP hD hS hl
  replace hl : lv_has ls 11 [(0, .ref (h 0)), (1, .int a1), (2, .int a2), (3, .long a3), (5, .long a5), (7, .long a7), (9, .long a9)] := hl
  obtain ⟨hx, hb, hml, hown, hts, hK, hr, hlocks, hA⟩ := id hC
  unfold X8_put at hf
  obtain ⟨H, hH⟩ : ∃ H, H = s.heap := ⟨_, rfl⟩
  rw [← hH] at hP
  replace hS : va_S A s.heap H [] := by rw [hH]; exact hS
  show W p l e _ s m args below meth c s.heap [] 0 0 _ _
  rw [← hH]
  clear hH
  obtain ⟨locs, hlo⟩ : ∃ x : List Loc, x = [] := ⟨_, rfl⟩
  rw [← hlo] at hS ⊢
  clear hlo
  refine lv_aload_n hx hb dX8_put_0 rfl (lv_at hl 0 rfl) ?_
  refine va_get (D := D) (ci := 8) (v := .ref (h 13)) (C := RX8) (T := TX8) (N := 56) hx hb hts tb_wsX80 hown hK.1 hP 0 rfl rfl 16 (by decide) (hts _ tb_5_19) (fun _ h9 => h9) rfl dX8_put_1 ?_
  refine lv_iload_n hx hb dX8_put_4 rfl (lv_at hl 1 rfl) ?_
  refine lv_iload_n hx hb dX8_put_5 rfl (lv_at hl 2 rfl) ?_
  obtain ⟨h1, hf⟩ := zck_s hf
  refine va_iast hx hb hK.1 hP hD hS 13 0 rfl rfl h1 dX8_put_6 (fun H locs hP hD hS => ?_)
  replace hP : va_P D vwCl (zWM cI cJ cZ h mG mH mR mW (tmS.s_sPiece mS (upd (tmS.sPiece mS) a1.toNatClampNeg a2)) mK mD mN mO mB mM mF) H := hP
  replace hD : va_D A (zWM cI cJ cZ h mG mH mR mW (tmS.s_sPiece mS (upd (tmS.sPiece mS) a1.toNatClampNeg a2)) mK mD mN mO mB mM mF) := hD
  refine lv_aload_n hx hb dX8_put_7 rfl (lv_at hl 0 rfl) ?_
  refine va_get (D := D) (ci := 8) (v := .ref (h 14)) (C := RX8) (T := TX8) (N := 56) hx hb hts tb_wsX80 hown hK.1 hP 0 rfl rfl 17 (by decide) (hts _ tb_5_20) (fun _ h9 => h9) rfl dX8_put_8 ?_
  refine lv_iload_n hx hb dX8_put_11 rfl (lv_at hl 1 rfl) ?_
  refine lv_lload_n hx hb dX8_put_12 rfl (lv_at hl 3 rfl) ?_
  obtain ⟨h2, hf⟩ := zck_s hf
  refine va_last hx hb hK.1 hP hD hS 14 1 rfl rfl h2 dX8_put_13 (fun H locs hP hD hS => ?_)
  replace hP : va_P D vwCl (zWM cI cJ cZ h mG mH mR mW (tmS.s_sUp (tmS.s_sPiece mS (upd (tmS.sPiece mS) a1.toNatClampNeg a2)) (vp_updL (tmS.sUp mS) a1.toNatClampNeg a3)) mK mD mN mO mB mM mF) H := hP
  replace hD : va_D A (zWM cI cJ cZ h mG mH mR mW (tmS.s_sUp (tmS.s_sPiece mS (upd (tmS.sPiece mS) a1.toNatClampNeg a2)) (vp_updL (tmS.sUp mS) a1.toNatClampNeg a3)) mK mD mN mO mB mM mF) := hD
  refine lv_aload_n hx hb dX8_put_14 rfl (lv_at hl 0 rfl) ?_
  refine va_get (D := D) (ci := 8) (v := .ref (h 15)) (C := RX8) (T := TX8) (N := 56) hx hb hts tb_wsX80 hown hK.1 hP 0 rfl rfl 18 (by decide) (hts _ tb_5_21) (fun _ h9 => h9) rfl dX8_put_15 ?_
  refine lv_iload_n hx hb dX8_put_18 rfl (lv_at hl 1 rfl) ?_
  refine lv_lload hx hb dX8_put_19 (lv_at hl 4 rfl) ?_
  obtain ⟨h3, hf⟩ := zck_s hf
  refine va_last hx hb hK.1 hP hD hS 15 1 rfl rfl h3 dX8_put_21 (fun H locs hP hD hS => ?_)
  replace hP : va_P D vwCl (zWM cI cJ cZ h mG mH mR mW (tmS.s_sLow (tmS.s_sUp (tmS.s_sPiece mS (upd (tmS.sPiece mS) a1.toNatClampNeg a2)) (vp_updL (tmS.sUp mS) a1.toNatClampNeg a3)) (vp_updL (tmS.sLow mS) a1.toNatClampNeg a5)) mK mD mN mO mB mM mF) H := hP
  replace hD : va_D A (zWM cI cJ cZ h mG mH mR mW (tmS.s_sLow (tmS.s_sUp (tmS.s_sPiece mS (upd (tmS.sPiece mS) a1.toNatClampNeg a2)) (vp_updL (tmS.sUp mS) a1.toNatClampNeg a3)) (vp_updL (tmS.sLow mS) a1.toNatClampNeg a5)) mK mD mN mO mB mM mF) := hD
  refine lv_aload_n hx hb dX8_put_22 rfl (lv_at hl 0 rfl) ?_
  refine va_get (D := D) (ci := 8) (v := .ref (h 16)) (C := RX8) (T := TX8) (N := 56) hx hb hts tb_wsX80 hown hK.1 hP 0 rfl rfl 19 (by decide) (hts _ tb_5_22) (fun _ h9 => h9) rfl dX8_put_23 ?_
  refine lv_iload_n hx hb dX8_put_26 rfl (lv_at hl 1 rfl) ?_
  refine lv_lload hx hb dX8_put_27 (lv_at hl 5 rfl) ?_
  obtain ⟨h4, hf⟩ := zck_s hf
  refine va_last hx hb hK.1 hP hD hS 16 1 rfl rfl h4 dX8_put_29 (fun H locs hP hD hS => ?_)
  replace hP : va_P D vwCl (zWM cI cJ cZ h mG mH mR mW (tmS.s_sUp2 (tmS.s_sLow (tmS.s_sUp (tmS.s_sPiece mS (upd (tmS.sPiece mS) a1.toNatClampNeg a2)) (vp_updL (tmS.sUp mS) a1.toNatClampNeg a3)) (vp_updL (tmS.sLow mS) a1.toNatClampNeg a5)) (vp_updL (tmS.sUp2 mS) a1.toNatClampNeg a7)) mK mD mN mO mB mM mF) H := hP
  replace hD : va_D A (zWM cI cJ cZ h mG mH mR mW (tmS.s_sUp2 (tmS.s_sLow (tmS.s_sUp (tmS.s_sPiece mS (upd (tmS.sPiece mS) a1.toNatClampNeg a2)) (vp_updL (tmS.sUp mS) a1.toNatClampNeg a3)) (vp_updL (tmS.sLow mS) a1.toNatClampNeg a5)) (vp_updL (tmS.sUp2 mS) a1.toNatClampNeg a7)) mK mD mN mO mB mM mF) := hD
  refine lv_aload_n hx hb dX8_put_30 rfl (lv_at hl 0 rfl) ?_
  refine va_get (D := D) (ci := 8) (v := .ref (h 17)) (C := RX8) (T := TX8) (N := 56) hx hb hts tb_wsX80 hown hK.1 hP 0 rfl rfl 20 (by decide) (hts _ tb_5_23) (fun _ h9 => h9) rfl dX8_put_31 ?_
  refine lv_iload_n hx hb dX8_put_34 rfl (lv_at hl 1 rfl) ?_
  refine lv_lload hx hb dX8_put_35 (lv_at hl 6 rfl) ?_
  obtain ⟨h5, hf⟩ := zck_s hf
  refine va_last hx hb hK.1 hP hD hS 17 1 rfl rfl h5 dX8_put_37 (fun H locs hP hD hS => ?_)
  replace hP : va_P D vwCl (zWM cI cJ cZ h mG mH mR mW (tmS.s_sLow2 (tmS.s_sUp2 (tmS.s_sLow (tmS.s_sUp (tmS.s_sPiece mS (upd (tmS.sPiece mS) a1.toNatClampNeg a2)) (vp_updL (tmS.sUp mS) a1.toNatClampNeg a3)) (vp_updL (tmS.sLow mS) a1.toNatClampNeg a5)) (vp_updL (tmS.sUp2 mS) a1.toNatClampNeg a7)) (vp_updL (tmS.sLow2 mS) a1.toNatClampNeg a9)) mK mD mN mO mB mM mF) H := hP
  replace hD : va_D A (zWM cI cJ cZ h mG mH mR mW (tmS.s_sLow2 (tmS.s_sUp2 (tmS.s_sLow (tmS.s_sUp (tmS.s_sPiece mS (upd (tmS.sPiece mS) a1.toNatClampNeg a2)) (vp_updL (tmS.sUp mS) a1.toNatClampNeg a3)) (vp_updL (tmS.sLow mS) a1.toNatClampNeg a5)) (vp_updL (tmS.sUp2 mS) a1.toNatClampNeg a7)) (vp_updL (tmS.sLow2 mS) a1.toNatClampNeg a9)) mK mD mN mO mB mM mF) := hD
  have hu := Option.some.inj hf
  subst hu
  exact z_vret hC hP hD hS dX8_put_38
set_option maxHeartbeats 4000000 in
set_option maxRecDepth 100000 in
theorem c_X8_waitsNow (l : Launch) (D : va_G) (cI cJ cZ : ClassId) (h : Nat → Nat) (mG : tmG) (mH : tmH) (mR : tmR) (mW : tmW) (mS : tmS) (mK : tmK) (mD : tmD) (mN : tmN) (mO : tmO) (mB : tmB) (mM : tmM) (mF : tmF) (a1 : Int32) (a2 : Int32) (u : tmW) (hf : X8_waitsNow mR mW a1 a2 = some u) (sz : Nat) : Met l yX8_waitsNow (Cond.code yX8_waitsNow cX8_waitsNow 3 none :: tb_L) ({ frames := 0, cells := 0, slots := 0, locals := 0 } : Room) (zPre D (zty cI cJ cZ) (zWM cI cJ cZ h mG mH mR mW mS mK mD mN mO mB mM mF) sz [.ref (h 0), .int a1, .int a2]) (zQv D (va_A (zWM cI cJ cZ h mG mH mR mW mS mK mD mN mO mB mM mF) sz) (zWM cI cJ cZ h mG mH mR u mS mK mD mN mO mB mM mF)) 0 0 (va_A (zWM cI cJ cZ h mG mH mR mW mS mK mD mN mO mB mM mF) sz) := by
  refine zMet (Qc := fun A => zQv D A (zWM cI cJ cZ h mG mH mR u mS mK mD mN mO mB mM mF)) (by decide) rfl (Nat.le_of_ble_eq_true rfl) ?_
  intro p e s m args below meth c A ls hC _ hP hD hS hl
  replace hl : lv_has ls 3 [(0, .ref (h 0)), (1, .int a1), (2, .int a2)] := hl
  obtain ⟨hx, hb, hml, hown, hts, hK, hr, hlocks, hA⟩ := id hC
  unfold X8_waitsNow at hf
  obtain ⟨H, hH⟩ : ∃ H, H = s.heap := ⟨_, rfl⟩
  rw [← hH] at hP
  replace hS : va_S A s.heap H [] := by rw [hH]; exact hS
  show W p l e _ s m args below meth c s.heap [] 0 0 _ _
  rw [← hH]
  clear hH
  obtain ⟨locs, hlo⟩ : ∃ x : List Loc, x = [] := ⟨_, rfl⟩
  rw [← hlo] at hS ⊢
  clear hlo
  refine lv_aload_n hx hb dX8_waitsNow_0 rfl (lv_at hl 0 rfl) ?_
  refine va_get (D := D) (ci := 8) (v := .ref (h 10)) (C := RX8) (T := TX8) (N := 56) hx hb hts tb_wsX80 hown hK.1 hP 0 rfl rfl 12 (by decide) (hts _ tb_5_15) (fun _ h9 => h9) rfl dX8_waitsNow_1 ?_
  refine lv_aload_n hx hb dX8_waitsNow_4 rfl (lv_at hl 0 rfl) ?_
  refine va_get (D := D) (ci := 8) (v := .int (tmW.waits mW)) (C := RX8) (T := TX8) (N := 56) hx hb hts tb_wsX80 hown hK.1 hP 0 rfl rfl 15 (by decide) (hts _ tb_14_20) (fun _ h9 => h9) rfl dX8_waitsNow_5 ?_
  refine lv_aload_n hx hb dX8_waitsNow_8 rfl (lv_at hl 0 rfl) ?_
  refine va_get (D := D) (ci := 8) (v := .int (tmR.rMany mR)) (C := RX8) (T := TX8) (N := 56) hx hb hts tb_wsX80 hown hK.1 hP 0 rfl rfl 11 (by decide) (hts _ tb_14_19) (fun _ h9 => h9) rfl dX8_waitsNow_9 ?_
  obtain ⟨h1, hf⟩ := zck_s hf
  refine va_iast hx hb hK.1 hP hD hS 10 0 rfl rfl h1 dX8_waitsNow_12 (fun H locs hP hD hS => ?_)
  replace hP : va_P D vwCl (zWM cI cJ cZ h mG mH mR (tmW.s_wFrom mW (upd (tmW.wFrom mW) (tmW.waits mW).toNatClampNeg (tmR.rMany mR))) mS mK mD mN mO mB mM mF) H := hP
  replace hD : va_D A (zWM cI cJ cZ h mG mH mR (tmW.s_wFrom mW (upd (tmW.wFrom mW) (tmW.waits mW).toNatClampNeg (tmR.rMany mR))) mS mK mD mN mO mB mM mF) := hD
  refine lv_aload_n hx hb dX8_waitsNow_13 rfl (lv_at hl 0 rfl) ?_
  refine va_get (D := D) (ci := 8) (v := .ref (h 11)) (C := RX8) (T := TX8) (N := 56) hx hb hts tb_wsX80 hown hK.1 hP 0 rfl rfl 13 (by decide) (hts _ tb_5_16) (fun _ h9 => h9) rfl dX8_waitsNow_14 ?_
  refine lv_aload_n hx hb dX8_waitsNow_17 rfl (lv_at hl 0 rfl) ?_
  refine va_get (D := D) (ci := 8) (v := .int (tmW.waits mW)) (C := RX8) (T := TX8) (N := 56) hx hb hts tb_wsX80 hown hK.1 hP 0 rfl rfl 15 (by decide) (hts _ tb_14_20) (fun _ h9 => h9) rfl dX8_waitsNow_18 ?_
  refine lv_iload_n hx hb dX8_waitsNow_21 rfl (lv_at hl 1 rfl) ?_
  obtain ⟨h2, hf⟩ := zck_s hf
  refine va_iast hx hb hK.1 hP hD hS 11 0 rfl rfl h2 dX8_waitsNow_22 (fun H locs hP hD hS => ?_)
  replace hP : va_P D vwCl (zWM cI cJ cZ h mG mH mR (tmW.s_wAbove (tmW.s_wFrom mW (upd (tmW.wFrom mW) (tmW.waits mW).toNatClampNeg (tmR.rMany mR))) (upd (tmW.wAbove mW) (tmW.waits mW).toNatClampNeg a1)) mS mK mD mN mO mB mM mF) H := hP
  replace hD : va_D A (zWM cI cJ cZ h mG mH mR (tmW.s_wAbove (tmW.s_wFrom mW (upd (tmW.wFrom mW) (tmW.waits mW).toNatClampNeg (tmR.rMany mR))) (upd (tmW.wAbove mW) (tmW.waits mW).toNatClampNeg a1)) mS mK mD mN mO mB mM mF) := hD
  refine lv_aload_n hx hb dX8_waitsNow_23 rfl (lv_at hl 0 rfl) ?_
  refine va_get (D := D) (ci := 8) (v := .ref (h 12)) (C := RX8) (T := TX8) (N := 56) hx hb hts tb_wsX80 hown hK.1 hP 0 rfl rfl 14 (by decide) (hts _ tb_5_18) (fun _ h9 => h9) rfl dX8_waitsNow_24 ?_
  refine lv_aload_n hx hb dX8_waitsNow_27 rfl (lv_at hl 0 rfl) ?_
  refine va_get (D := D) (ci := 8) (v := .int (tmW.waits mW)) (C := RX8) (T := TX8) (N := 56) hx hb hts tb_wsX80 hown hK.1 hP 0 rfl rfl 15 (by decide) (hts _ tb_14_20) (fun _ h9 => h9) rfl dX8_waitsNow_28 ?_
  refine lv_iload_n hx hb dX8_waitsNow_31 rfl (lv_at hl 2 rfl) ?_
  obtain ⟨h3, hf⟩ := zck_s hf
  refine va_zast hx hb hK.1 hP hD hS 12 2 rfl rfl h3 dX8_waitsNow_32 (fun H locs hP hD hS => ?_)
  replace hP : va_P D vwCl (zWM cI cJ cZ h mG mH mR (tmW.s_wFront (tmW.s_wAbove (tmW.s_wFrom mW (upd (tmW.wFrom mW) (tmW.waits mW).toNatClampNeg (tmR.rMany mR))) (upd (tmW.wAbove mW) (tmW.waits mW).toNatClampNeg a1)) (upd (tmW.wFront mW) (tmW.waits mW).toNatClampNeg (vp_nar .boolean a2))) mS mK mD mN mO mB mM mF) H := hP
  replace hD : va_D A (zWM cI cJ cZ h mG mH mR (tmW.s_wFront (tmW.s_wAbove (tmW.s_wFrom mW (upd (tmW.wFrom mW) (tmW.waits mW).toNatClampNeg (tmR.rMany mR))) (upd (tmW.wAbove mW) (tmW.waits mW).toNatClampNeg a1)) (upd (tmW.wFront mW) (tmW.waits mW).toNatClampNeg (vp_nar .boolean a2))) mS mK mD mN mO mB mM mF) := hD
  refine lv_aload_n hx hb dX8_waitsNow_33 rfl (lv_at hl 0 rfl) ?_
  refine lv_dup hx hb dX8_waitsNow_34 rfl ?_
  refine va_get (D := D) (ci := 8) (v := .int (tmW.waits mW)) (C := RX8) (T := TX8) (N := 56) hx hb hts tb_wsX80 hown hK.1 hP 0 rfl rfl 15 (by decide) (hts _ tb_14_20) (fun _ h9 => h9) rfl dX8_waitsNow_35 ?_
  refine lv_iconst (v := 1) hx hb dX8_waitsNow_38 (by decide) ?_
  refine lv_iadd hx hb dX8_waitsNow_39 ?_
  refine va_put (D := D) (ci := 8) (v := .int ((tmW.waits mW) + (1 : Int32))) (ty := .int) (C := RX8) (T := TX8) (N := 56) hx hb hts tb_wsX80 tyX8 tyX8_ok nmX8 hown hK.1 hP hD hS 0 rfl rfl 15 (by decide) (hts _ tb_14_20) (fun _ h9 => h9) rfl (by decide +kernel) rfl rfl (Nat.le_of_ble_eq_true rfl) dX8_waitsNow_40 (fun H locs hP hD hS => ?_)
  replace hP : va_P D vwCl (zWM cI cJ cZ h mG mH mR (tmW.s_waits (tmW.s_wFront (tmW.s_wAbove (tmW.s_wFrom mW (upd (tmW.wFrom mW) (tmW.waits mW).toNatClampNeg (tmR.rMany mR))) (upd (tmW.wAbove mW) (tmW.waits mW).toNatClampNeg a1)) (upd (tmW.wFront mW) (tmW.waits mW).toNatClampNeg (vp_nar .boolean a2))) ((tmW.waits mW) + (1 : Int32))) mS mK mD mN mO mB mM mF) H := hP
  replace hD : va_D A (zWM cI cJ cZ h mG mH mR (tmW.s_waits (tmW.s_wFront (tmW.s_wAbove (tmW.s_wFrom mW (upd (tmW.wFrom mW) (tmW.waits mW).toNatClampNeg (tmR.rMany mR))) (upd (tmW.wAbove mW) (tmW.waits mW).toNatClampNeg a1)) (upd (tmW.wFront mW) (tmW.waits mW).toNatClampNeg (vp_nar .boolean a2))) ((tmW.waits mW) + (1 : Int32))) mS mK mD mN mO mB mM mF) := hD
  have hu := Option.some.inj hf
  subst hu
  exact z_vret hC hP hD hS dX8_waitsNow_43
