set_option maxHeartbeats 4000000 in
set_option maxRecDepth 100000 in
theorem t_X8_grow_b665 {p : Program} {l : Launch} {e : Env} {s : State} {m : MethodId} {args : Array Value} {below : List Frame} {meth : Method} {c : Code} {A : Nat → Prop} {D : va_G} {cI cJ cZ : ClassId} {h : Nat → Nat} (hC : zCx p s m args meth c A D (zty cI cJ cZ) cX8_grow RX8 16 none) (N : Nat) {mG : tmG} {mH : tmH} {mO : tmO} {mB : tmB} {mM : tmM} {mF : tmF} {u : tmR × tmW × tmS × tmK × tmD × tmN} (k57 : tmR → tmW → tmS → tmK → tmD → tmN → Int32 → Int32 → Option (tmR × tmW × tmS × tmK × tmD × tmN)) (hk57 : ∀ (mR : tmR) (mW : tmW) (mS : tmS) (mK : tmK) (mD : tmD) (mN : tmN) (v1 : Int32) (v2 : Int32) (H : Heap) (locs : List Loc) (ls : Array Slot), va_P D vwCl (zWM cI cJ cZ h mG mH mR mW mS mK mD mN mO mB mM mF) H → va_D A (zWM cI cJ cZ h mG mH mR mW mS mK mD mN mO mB mM mF) → va_S A s.heap H locs → lv_has ls 16 [(0, .ref (h 0)), (1, .int v1), (2, .int v2)] → k57 mR mW mS mK mD mN v1 v2 = some u → W p l e ({ frames := 5, cells := 0, slots := 0, locals := 138 } : Room) s m args below meth c H locs 0 0 (MQ below (zQv D A (zWM cI cJ cZ h mG mH u.1 u.2.1 u.2.2.1 u.2.2.2.1 u.2.2.2.2.1 u.2.2.2.2.2 mO mB mM mF)) args s 0 0 A) (F0 m 57 ls [])) : ∀ (mR : tmR) (mW : tmW) (mS : tmS) (mK : tmK) (mD : tmD) (mN : tmN) (v1 : Int32) (v2 : Int32) (H : Heap) (locs : List Loc) (ls : Array Slot), va_P D vwCl (zWM cI cJ cZ h mG mH mR mW mS mK mD mN mO mB mM mF) H → va_D A (zWM cI cJ cZ h mG mH mR mW mS mK mD mN mO mB mM mF) → va_S A s.heap H locs → lv_has ls 16 [(0, .ref (h 0)), (1, .int v1), (2, .int v2)] → X8_grow_b665 N k57 mG mO mR mW mS mK mD mN v1 v2 = some u → W p l e ({ frames := 5, cells := 0, slots := 0, locals := 138 } : Room) s m args below meth c H locs 0 0 (MQ below (zQv D A (zWM cI cJ cZ h mG mH u.1 u.2.1 u.2.2.1 u.2.2.2.1 u.2.2.2.2.1 u.2.2.2.2.2 mO mB mM mF)) args s 0 0 A) (F0 m 665 ls []) := by
  intro mR mW mS mK mD mN v1 v2 H locs ls hP hD hS hl hf
  obtain ⟨hx, hb, hml, hown, hts, hK, hr, hlocks, hA⟩ := id hC
  unfold X8_grow_b665 at hf
  refine lv_goto (tgt := 57) hx hb dX8_grow_665 (by decide) ?_
  exact hk57 mR mW mS mK mD mN v1 v2 H locs ls hP hD hS (lv_sub hl [0, 1, 2] rfl) hf
set_option maxHeartbeats 4000000 in
set_option maxRecDepth 100000 in
theorem t_X8_grow_b646 {p : Program} {l : Launch} {e : Env} {s : State} {m : MethodId} {args : Array Value} {below : List Frame} {meth : Method} {c : Code} {A : Nat → Prop} {D : va_G} {cI cJ cZ : ClassId} {h : Nat → Nat} (hC : zCx p s m args meth c A D (zty cI cJ cZ) cX8_grow RX8 16 none) (N : Nat) {mG : tmG} {mH : tmH} {mO : tmO} {mB : tmB} {mM : tmM} {mF : tmF} {u : tmR × tmW × tmS × tmK × tmD × tmN} (k57 : tmR → tmW → tmS → tmK → tmD → tmN → Int32 → Int32 → Option (tmR × tmW × tmS × tmK × tmD × tmN)) (hk57 : ∀ (mR : tmR) (mW : tmW) (mS : tmS) (mK : tmK) (mD : tmD) (mN : tmN) (v1 : Int32) (v2 : Int32) (H : Heap) (locs : List Loc) (ls : Array Slot), va_P D vwCl (zWM cI cJ cZ h mG mH mR mW mS mK mD mN mO mB mM mF) H → va_D A (zWM cI cJ cZ h mG mH mR mW mS mK mD mN mO mB mM mF) → va_S A s.heap H locs → lv_has ls 16 [(0, .ref (h 0)), (1, .int v1), (2, .int v2)] → k57 mR mW mS mK mD mN v1 v2 = some u → W p l e ({ frames := 5, cells := 0, slots := 0, locals := 138 } : Room) s m args below meth c H locs 0 0 (MQ below (zQv D A (zWM cI cJ cZ h mG mH u.1 u.2.1 u.2.2.1 u.2.2.2.1 u.2.2.2.2.1 u.2.2.2.2.2 mO mB mM mF)) args s 0 0 A) (F0 m 57 ls [])) : ∀ (n : Nat) (mR : tmR) (mW : tmW) (mS : tmS) (mK : tmK) (mD : tmD) (mN : tmN) (v1 : Int32) (v2 : Int32) (v7 : Int32) (v9 : Int32) (H : Heap) (locs : List Loc) (ls : Array Slot), va_P D vwCl (zWM cI cJ cZ h mG mH mR mW mS mK mD mN mO mB mM mF) H → va_D A (zWM cI cJ cZ h mG mH mR mW mS mK mD mN mO mB mM mF) → va_S A s.heap H locs → lv_has ls 16 [(0, .ref (h 0)), (1, .int v1), (2, .int v2), (7, .int v7), (9, .int v9)] → X8_grow_b646 N k57 mG mO n mR mW mS mK mD mN v1 v2 v7 v9 = some u → W p l e ({ frames := 5, cells := 0, slots := 0, locals := 138 } : Room) s m args below meth c H locs 0 0 (MQ below (zQv D A (zWM cI cJ cZ h mG mH u.1 u.2.1 u.2.2.1 u.2.2.2.1 u.2.2.2.2.1 u.2.2.2.2.2 mO mB mM mF)) args s 0 0 A) (F0 m 646 ls []) := by
  intro n
  induction n with
  | zero =>
    intro mR mW mS mK mD mN v1 v2 v7 v9 H locs ls hP hD hS hl hf
    cases hf
  | succ n ih =>
    intro mR mW mS mK mD mN v1 v2 v7 v9 H locs ls hP hD hS hl hf
    obtain ⟨hx, hb, hml, hown, hts, hK, hr, hlocks, hA⟩ := id hC
    rw [X8_grow_b646] at hf
    refine lv_iload hx hb dX8_grow_646 (lv_at hl 4 rfl) ?_
    refine lv_iload hx hb dX8_grow_648 (lv_at hl 3 rfl) ?_
    refine lv_icmp_ge (tgt := 665) hx hb dX8_grow_650 (by decide) (fun c1 => ?_) (fun c1 => ?_)
    · replace hf := zif_t hf c1
      exact t_X8_grow_b665 hC N k57 hk57  mR mW mS mK mD mN v1 v2 H locs ls hP hD hS (lv_sub hl [0, 1, 2] rfl) hf
    · replace hf := zif_f hf c1
      refine lv_aload_n hx hb dX8_grow_653 rfl (lv_at hl 0 rfl) ?_
      refine lv_iload hx hb dX8_grow_654 (lv_at hl 4 rfl) ?_
      obtain ⟨u2, hu2, hf⟩ := zbd hf
      refine zthen_v hA hD hS (zrunV (As := [.int v9]) (rest := []) hC hP hD 0 rfl rfl (c_X8_back l D cI cJ cZ h  mG mH mR mW mS mK mD mN mO mB mM mF v9 u2 hu2 H.size) kRX8_194 rfl rfl ⟨by decide, by decide⟩ rfl hl.1 rfl (Nat.le_of_ble_eq_true rfl) dX8_grow_656) (fun H locs hP hD hS => ?_)
      refine lv_iinc (v := (v9 + (1 : Int32))) (lv' := [(9, .int (v9 + (1 : Int32))), (0, .ref (h 0)), (1, .int v1), (2, .int v2), (7, .int v7)]) hx hb dX8_grow_659 hl (k := 4) rfl rfl (by decide) rfl (fun ls hl => ?_)
      refine lv_goto (tgt := 646) hx hb dX8_grow_662 (by decide) ?_
      exact ih u2 mW mS mK mD mN v1 v2 v7 (v9 + (1 : Int32)) H locs ls hP hD hS (lv_sub hl [1, 2, 3, 4, 0] rfl) hf
set_option maxHeartbeats 4000000 in
set_option maxRecDepth 100000 in
theorem t_X8_grow_b636 {p : Program} {l : Launch} {e : Env} {s : State} {m : MethodId} {args : Array Value} {below : List Frame} {meth : Method} {c : Code} {A : Nat → Prop} {D : va_G} {cI cJ cZ : ClassId} {h : Nat → Nat} (hC : zCx p s m args meth c A D (zty cI cJ cZ) cX8_grow RX8 16 none) (N : Nat) {mG : tmG} {mH : tmH} {mO : tmO} {mB : tmB} {mM : tmM} {mF : tmF} {u : tmR × tmW × tmS × tmK × tmD × tmN} (k57 : tmR → tmW → tmS → tmK → tmD → tmN → Int32 → Int32 → Option (tmR × tmW × tmS × tmK × tmD × tmN)) (hk57 : ∀ (mR : tmR) (mW : tmW) (mS : tmS) (mK : tmK) (mD : tmD) (mN : tmN) (v1 : Int32) (v2 : Int32) (H : Heap) (locs : List Loc) (ls : Array Slot), va_P D vwCl (zWM cI cJ cZ h mG mH mR mW mS mK mD mN mO mB mM mF) H → va_D A (zWM cI cJ cZ h mG mH mR mW mS mK mD mN mO mB mM mF) → va_S A s.heap H locs → lv_has ls 16 [(0, .ref (h 0)), (1, .int v1), (2, .int v2)] → k57 mR mW mS mK mD mN v1 v2 = some u → W p l e ({ frames := 5, cells := 0, slots := 0, locals := 138 } : Room) s m args below meth c H locs 0 0 (MQ below (zQv D A (zWM cI cJ cZ h mG mH u.1 u.2.1 u.2.2.1 u.2.2.2.1 u.2.2.2.2.1 u.2.2.2.2.2 mO mB mM mF)) args s 0 0 A) (F0 m 57 ls [])) : ∀ (mR : tmR) (mW : tmW) (mS : tmS) (mK : tmK) (mD : tmD) (mN : tmN) (v1 : Int32) (v2 : Int32) (v5 : Int32) (v7 : Int32) (H : Heap) (locs : List Loc) (ls : Array Slot), va_P D vwCl (zWM cI cJ cZ h mG mH mR mW mS mK mD mN mO mB mM mF) H → va_D A (zWM cI cJ cZ h mG mH mR mW mS mK mD mN mO mB mM mF) → va_S A s.heap H locs → lv_has ls 16 [(0, .ref (h 0)), (1, .int v1), (2, .int v2), (5, .int v5), (7, .int v7)] → X8_grow_b636 N k57 mG mO mR mW mS mK mD mN v1 v2 v5 v7 = some u → W p l e ({ frames := 5, cells := 0, slots := 0, locals := 138 } : Room) s m args below meth c H locs 0 0 (MQ below (zQv D A (zWM cI cJ cZ h mG mH u.1 u.2.1 u.2.2.1 u.2.2.2.1 u.2.2.2.2.1 u.2.2.2.2.2 mO mB mM mF)) args s 0 0 A) (F0 m 636 ls []) := by
  intro mR mW mS mK mD mN v1 v2 v5 v7 H locs ls hP hD hS hl hf
  obtain ⟨hx, hb, hml, hown, hts, hK, hr, hlocks, hA⟩ := id hC
  unfold X8_grow_b636 at hf
  refine lv_aload_n hx hb dX8_grow_636 rfl (lv_at hl 0 rfl) ?_
  refine lv_iload hx hb dX8_grow_637 (lv_at hl 3 rfl) ?_
  refine lv_iconst (v := 1) hx hb dX8_grow_639 (by decide) ?_
  obtain ⟨u3, hu3, hf⟩ := zbd hf
  refine zthen_v hA hD hS (zrunV (As := [.int v5, .int (1 : Int32)]) (rest := []) hC hP hD 0 rfl rfl (c_X8_waitsNow l D cI cJ cZ h  mG mH mR mW mS mK mD mN mO mB mM mF v5 (1 : Int32) u3 hu3 H.size) kRX8_186 rfl rfl ⟨by decide, by decide⟩ rfl hl.1 rfl (Nat.le_of_ble_eq_true rfl) dX8_grow_640) (fun H locs hP hD hS => ?_)
  refine lv_iconst (v := 0) hx hb dX8_grow_643 (by decide) ?_
  refine lv_istore (lv' := [(9, .int (0 : Int32)), (0, .ref (h 0)), (1, .int v1), (2, .int v2), (5, .int v5), (7, .int v7)]) hx hb dX8_grow_644 hl (by decide) rfl (fun ls hl => ?_)
  exact t_X8_grow_b646 hC N k57 hk57  N mR u3 mS mK mD mN v1 v2 v7 (0 : Int32) H locs ls hP hD hS (lv_sub hl [1, 2, 3, 5, 0] rfl) hf
set_option maxHeartbeats 4000000 in
set_option maxRecDepth 100000 in
theorem t_X8_grow_b613 {p : Program} {l : Launch} {e : Env} {s : State} {m : MethodId} {args : Array Value} {below : List Frame} {meth : Method} {c : Code} {A : Nat → Prop} {D : va_G} {cI cJ cZ : ClassId} {h : Nat → Nat} (hC : zCx p s m args meth c A D (zty cI cJ cZ) cX8_grow RX8 16 none) (N : Nat) {mG : tmG} {mH : tmH} {mO : tmO} {mB : tmB} {mM : tmM} {mF : tmF} {u : tmR × tmW × tmS × tmK × tmD × tmN} (k57 : tmR → tmW → tmS → tmK → tmD → tmN → Int32 → Int32 → Option (tmR × tmW × tmS × tmK × tmD × tmN)) (hk57 : ∀ (mR : tmR) (mW : tmW) (mS : tmS) (mK : tmK) (mD : tmD) (mN : tmN) (v1 : Int32) (v2 : Int32) (H : Heap) (locs : List Loc) (ls : Array Slot), va_P D vwCl (zWM cI cJ cZ h mG mH mR mW mS mK mD mN mO mB mM mF) H → va_D A (zWM cI cJ cZ h mG mH mR mW mS mK mD mN mO mB mM mF) → va_S A s.heap H locs → lv_has ls 16 [(0, .ref (h 0)), (1, .int v1), (2, .int v2)] → k57 mR mW mS mK mD mN v1 v2 = some u → W p l e ({ frames := 5, cells := 0, slots := 0, locals := 138 } : Room) s m args below meth c H locs 0 0 (MQ below (zQv D A (zWM cI cJ cZ h mG mH u.1 u.2.1 u.2.2.1 u.2.2.2.1 u.2.2.2.2.1 u.2.2.2.2.2 mO mB mM mF)) args s 0 0 A) (F0 m 57 ls [])) : ∀ (n : Nat) (mR : tmR) (mW : tmW) (mS : tmS) (mK : tmK) (mD : tmD) (mN : tmN) (v1 : Int32) (v2 : Int32) (v5 : Int32) (v7 : Int32) (v8 : Int32) (v9 : Int32) (H : Heap) (locs : List Loc) (ls : Array Slot), va_P D vwCl (zWM cI cJ cZ h mG mH mR mW mS mK mD mN mO mB mM mF) H → va_D A (zWM cI cJ cZ h mG mH mR mW mS mK mD mN mO mB mM mF) → va_S A s.heap H locs → lv_has ls 16 [(0, .ref (h 0)), (1, .int v1), (2, .int v2), (5, .int v5), (7, .int v7), (8, .int v8), (9, .int v9)] → X8_grow_b613 N k57 mG mO n mR mW mS mK mD mN v1 v2 v5 v7 v8 v9 = some u → W p l e ({ frames := 5, cells := 0, slots := 0, locals := 138 } : Room) s m args below meth c H locs 0 0 (MQ below (zQv D A (zWM cI cJ cZ h mG mH u.1 u.2.1 u.2.2.1 u.2.2.2.1 u.2.2.2.2.1 u.2.2.2.2.2 mO mB mM mF)) args s 0 0 A) (F0 m 613 ls []) := by
  intro n
  induction n with
  | zero =>
    intro mR mW mS mK mD mN v1 v2 v5 v7 v8 v9 H locs ls hP hD hS hl hf
    cases hf
  | succ n ih =>
    intro mR mW mS mK mD mN v1 v2 v5 v7 v8 v9 H locs ls hP hD hS hl hf
    obtain ⟨hx, hb, hml, hown, hts, hK, hr, hlocks, hA⟩ := id hC
    rw [X8_grow_b613] at hf
    refine lv_iload hx hb dX8_grow_613 (lv_at hl 6 rfl) ?_
    refine lv_iload hx hb dX8_grow_615 (lv_at hl 5 rfl) ?_
    refine lv_icmp_ge (tgt := 636) hx hb dX8_grow_617 (by decide) (fun c4 => ?_) (fun c4 => ?_)
    · replace hf := zif_t hf c4
      exact t_X8_grow_b636 hC N k57 hk57  mR mW mS mK mD mN v1 v2 v5 v7 H locs ls hP hD hS (lv_sub hl [0, 1, 2, 3, 4] rfl) hf
    · replace hf := zif_f hf c4
      refine lv_aload_n hx hb dX8_grow_620 rfl (lv_at hl 0 rfl) ?_
      refine lv_sipush (v := 700) hx hb dX8_grow_621 (by decide) ?_
      refine lv_iload hx hb dX8_grow_624 (lv_at hl 6 rfl) ?_
      refine lv_iadd hx hb dX8_grow_626 ?_
      obtain ⟨u5, hu5, hf⟩ := zbd hf
      refine zthen_v hA hD hS (zrunV (As := [.int ((700 : Int32) + v9)]) (rest := []) hC hP hD 0 rfl rfl (c_X8_back l D cI cJ cZ h  mG mH mR mW mS mK mD mN mO mB mM mF ((700 : Int32) + v9) u5 hu5 H.size) kRX8_194 rfl rfl ⟨by decide, by decide⟩ rfl hl.1 rfl (Nat.le_of_ble_eq_true rfl) dX8_grow_627) (fun H locs hP hD hS => ?_)
      refine lv_iinc (v := (v9 + (1 : Int32))) (lv' := [(9, .int (v9 + (1 : Int32))), (0, .ref (h 0)), (1, .int v1), (2, .int v2), (5, .int v5), (7, .int v7), (8, .int v8)]) hx hb dX8_grow_630 hl (k := 6) rfl rfl (by decide) rfl (fun ls hl => ?_)
      refine lv_goto (tgt := 613) hx hb dX8_grow_633 (by decide) ?_
      exact ih u5 mW mS mK mD mN v1 v2 v5 v7 v8 (v9 + (1 : Int32)) H locs ls hP hD hS (lv_sub hl [1, 2, 3, 4, 5, 6, 0] rfl) hf
set_option maxHeartbeats 4000000 in
set_option maxRecDepth 100000 in
theorem t_X8_grow_b598 {p : Program} {l : Launch} {e : Env} {s : State} {m : MethodId} {args : Array Value} {below : List Frame} {meth : Method} {c : Code} {A : Nat → Prop} {D : va_G} {cI cJ cZ : ClassId} {h : Nat → Nat} (hC : zCx p s m args meth c A D (zty cI cJ cZ) cX8_grow RX8 16 none) (N : Nat) {mG : tmG} {mH : tmH} {mO : tmO} {mB : tmB} {mM : tmM} {mF : tmF} {u : tmR × tmW × tmS × tmK × tmD × tmN} (k57 : tmR → tmW → tmS → tmK → tmD → tmN → Int32 → Int32 → Option (tmR × tmW × tmS × tmK × tmD × tmN)) (hk57 : ∀ (mR : tmR) (mW : tmW) (mS : tmS) (mK : tmK) (mD : tmD) (mN : tmN) (v1 : Int32) (v2 : Int32) (H : Heap) (locs : List Loc) (ls : Array Slot), va_P D vwCl (zWM cI cJ cZ h mG mH mR mW mS mK mD mN mO mB mM mF) H → va_D A (zWM cI cJ cZ h mG mH mR mW mS mK mD mN mO mB mM mF) → va_S A s.heap H locs → lv_has ls 16 [(0, .ref (h 0)), (1, .int v1), (2, .int v2)] → k57 mR mW mS mK mD mN v1 v2 = some u → W p l e ({ frames := 5, cells := 0, slots := 0, locals := 138 } : Room) s m args below meth c H locs 0 0 (MQ below (zQv D A (zWM cI cJ cZ h mG mH u.1 u.2.1 u.2.2.1 u.2.2.2.1 u.2.2.2.2.1 u.2.2.2.2.2 mO mB mM mF)) args s 0 0 A) (F0 m 57 ls [])) : ∀ (mR : tmR) (mW : tmW) (mS : tmS) (mK : tmK) (mD : tmD) (mN : tmN) (v1 : Int32) (v2 : Int32) (v3 : Int32) (v5 : Int32) (v7 : Int32) (v8 : Int32) (H : Heap) (locs : List Loc) (ls : Array Slot), va_P D vwCl (zWM cI cJ cZ h mG mH mR mW mS mK mD mN mO mB mM mF) H → va_D A (zWM cI cJ cZ h mG mH mR mW mS mK mD mN mO mB mM mF) → va_S A s.heap H locs → lv_has ls 16 [(0, .ref (h 0)), (1, .int v1), (2, .int v2), (3, .int v3), (5, .int v5), (7, .int v7), (8, .int v8)] → X8_grow_b598 N k57 mG mO mR mW mS mK mD mN v1 v2 v3 v5 v7 v8 = some u → W p l e ({ frames := 5, cells := 0, slots := 0, locals := 138 } : Room) s m args below meth c H locs 0 0 (MQ below (zQv D A (zWM cI cJ cZ h mG mH u.1 u.2.1 u.2.2.1 u.2.2.2.1 u.2.2.2.2.1 u.2.2.2.2.2 mO mB mM mF)) args s 0 0 A) (F0 m 598 ls []) := by
  intro mR mW mS mK mD mN v1 v2 v3 v5 v7 v8 H locs ls hP hD hS hl hf
  obtain ⟨hx, hb, hml, hown, hts, hK, hr, hlocks, hA⟩ := id hC
  unfold X8_grow_b598 at hf
  refine lv_aload_n hx hb dX8_grow_598 rfl (lv_at hl 0 rfl) ?_
  refine lv_iload_n hx hb dX8_grow_599 rfl (lv_at hl 3 rfl) ?_
  refine va_put (D := D) (ci := 8) (v := .int v3) (ty := .int) (C := RX8) (T := TX8) (N := 56) hx hb hts tb_wsX80 tyX8 tyX8_ok nmX8 hown hK.1 hP hD hS 0 rfl rfl 11 (by decide) (hts _ tb_14_19) (fun _ h9 => h9) rfl (by decide +kernel) rfl rfl (Nat.le_of_ble_eq_true rfl) dX8_grow_600 (fun H locs hP hD hS => ?_)
  replace hP : va_P D vwCl (zWM cI cJ cZ h mG mH (tmR.s_rMany mR v3) mW mS mK mD mN mO mB mM mF) H := hP
  replace hD : va_D A (zWM cI cJ cZ h mG mH (tmR.s_rMany mR v3) mW mS mK mD mN mO mB mM mF) := hD
  refine lv_aload_n hx hb dX8_grow_603 rfl (lv_at hl 0 rfl) ?_
  refine lv_iload hx hb dX8_grow_604 (lv_at hl 4 rfl) ?_
  refine lv_iconst (v := 0) hx hb dX8_grow_606 (by decide) ?_
  obtain ⟨u6, hu6, hf⟩ := zbd hf
  refine zthen_v hA hD hS (zrunV (As := [.int v5, .int (0 : Int32)]) (rest := []) hC hP hD 0 rfl rfl (c_X8_waitsNow l D cI cJ cZ h  mG mH (tmR.s_rMany mR v3) mW mS mK mD mN mO mB mM mF v5 (0 : Int32) u6 hu6 H.size) kRX8_186 rfl rfl ⟨by decide, by decide⟩ rfl hl.1 rfl (Nat.le_of_ble_eq_true rfl) dX8_grow_607) (fun H locs hP hD hS => ?_)
  refine lv_iconst (v := 0) hx hb dX8_grow_610 (by decide) ?_
  refine lv_istore (lv' := [(9, .int (0 : Int32)), (0, .ref (h 0)), (1, .int v1), (2, .int v2), (3, .int v3), (5, .int v5), (7, .int v7), (8, .int v8)]) hx hb dX8_grow_611 hl (by decide) rfl (fun ls hl => ?_)
  exact t_X8_grow_b613 hC N k57 hk57  N (tmR.s_rMany mR v3) u6 mS mK mD mN v1 v2 v5 v7 v8 (0 : Int32) H locs ls hP hD hS (lv_sub hl [1, 2, 3, 5, 6, 7, 0] rfl) hf
set_option maxHeartbeats 4000000 in
set_option maxRecDepth 100000 in
theorem t_X8_grow_b592 {p : Program} {l : Launch} {e : Env} {s : State} {m : MethodId} {args : Array Value} {below : List Frame} {meth : Method} {c : Code} {A : Nat → Prop} {D : va_G} {cI cJ cZ : ClassId} {h : Nat → Nat} (hC : zCx p s m args meth c A D (zty cI cJ cZ) cX8_grow RX8 16 none) (N : Nat) {mG : tmG} {mH : tmH} {mO : tmO} {mB : tmB} {mM : tmM} {mF : tmF} {u : tmR × tmW × tmS × tmK × tmD × tmN} (k57 : tmR → tmW → tmS → tmK → tmD → tmN → Int32 → Int32 → Option (tmR × tmW × tmS × tmK × tmD × tmN)) (hk57 : ∀ (mR : tmR) (mW : tmW) (mS : tmS) (mK : tmK) (mD : tmD) (mN : tmN) (v1 : Int32) (v2 : Int32) (H : Heap) (locs : List Loc) (ls : Array Slot), va_P D vwCl (zWM cI cJ cZ h mG mH mR mW mS mK mD mN mO mB mM mF) H → va_D A (zWM cI cJ cZ h mG mH mR mW mS mK mD mN mO mB mM mF) → va_S A s.heap H locs → lv_has ls 16 [(0, .ref (h 0)), (1, .int v1), (2, .int v2)] → k57 mR mW mS mK mD mN v1 v2 = some u → W p l e ({ frames := 5, cells := 0, slots := 0, locals := 138 } : Room) s m args below meth c H locs 0 0 (MQ below (zQv D A (zWM cI cJ cZ h mG mH u.1 u.2.1 u.2.2.1 u.2.2.2.1 u.2.2.2.2.1 u.2.2.2.2.2 mO mB mM mF)) args s 0 0 A) (F0 m 57 ls [])) (k294 : tmR → tmW → tmS → tmK → tmD → tmN → Int32 → Int32 → Int32 → Int32 → Int32 → Int32 → Int32 → Int32 → Option (tmR × tmW × tmS × tmK × tmD × tmN)) (hk294 : ∀ (mR : tmR) (mW : tmW) (mS : tmS) (mK : tmK) (mD : tmD) (mN : tmN) (v1 : Int32) (v2 : Int32) (v3 : Int32) (v5 : Int32) (v6 : Int32) (v7 : Int32) (v8 : Int32) (v9 : Int32) (H : Heap) (locs : List Loc) (ls : Array Slot), va_P D vwCl (zWM cI cJ cZ h mG mH mR mW mS mK mD mN mO mB mM mF) H → va_D A (zWM cI cJ cZ h mG mH mR mW mS mK mD mN mO mB mM mF) → va_S A s.heap H locs → lv_has ls 16 [(0, .ref (h 0)), (1, .int v1), (2, .int v2), (3, .int v3), (5, .int v5), (6, .int v6), (7, .int v7), (8, .int v8), (9, .int v9)] → k294 mR mW mS mK mD mN v1 v2 v3 v5 v6 v7 v8 v9 = some u → W p l e ({ frames := 5, cells := 0, slots := 0, locals := 138 } : Room) s m args below meth c H locs 0 0 (MQ below (zQv D A (zWM cI cJ cZ h mG mH u.1 u.2.1 u.2.2.1 u.2.2.2.1 u.2.2.2.2.1 u.2.2.2.2.2 mO mB mM mF)) args s 0 0 A) (F0 m 294 ls [])) : ∀ (mR : tmR) (mW : tmW) (mS : tmS) (mK : tmK) (mD : tmD) (mN : tmN) (v1 : Int32) (v2 : Int32) (v3 : Int32) (v5 : Int32) (v6 : Int32) (v7 : Int32) (v8 : Int32) (v9 : Int32) (H : Heap) (locs : List Loc) (ls : Array Slot), va_P D vwCl (zWM cI cJ cZ h mG mH mR mW mS mK mD mN mO mB mM mF) H → va_D A (zWM cI cJ cZ h mG mH mR mW mS mK mD mN mO mB mM mF) → va_S A s.heap H locs → lv_has ls 16 [(0, .ref (h 0)), (1, .int v1), (2, .int v2), (3, .int v3), (5, .int v5), (6, .int v6), (7, .int v7), (8, .int v8), (9, .int v9)] → X8_grow_b592 N k57 k294 mG mO mR mW mS mK mD mN v1 v2 v3 v5 v6 v7 v8 v9 = some u → W p l e ({ frames := 5, cells := 0, slots := 0, locals := 138 } : Room) s m args below meth c H locs 0 0 (MQ below (zQv D A (zWM cI cJ cZ h mG mH u.1 u.2.1 u.2.2.1 u.2.2.2.1 u.2.2.2.2.1 u.2.2.2.2.2 mO mB mM mF)) args s 0 0 A) (F0 m 592 ls []) := by
  intro mR mW mS mK mD mN v1 v2 v3 v5 v6 v7 v8 v9 H locs ls hP hD hS hl hf
  obtain ⟨hx, hb, hml, hown, hts, hK, hr, hlocks, hA⟩ := id hC
  unfold X8_grow_b592 at hf
  refine lv_iinc (v := (v9 + (1 : Int32))) (lv' := [(9, .int (v9 + (1 : Int32))), (0, .ref (h 0)), (1, .int v1), (2, .int v2), (3, .int v3), (5, .int v5), (6, .int v6), (7, .int v7), (8, .int v8)]) hx hb dX8_grow_592 hl (k := 8) rfl rfl (by decide) rfl (fun ls hl => ?_)
  refine lv_goto (tgt := 294) hx hb dX8_grow_595 (by decide) ?_
  exact hk294 mR mW mS mK mD mN v1 v2 v3 v5 v6 v7 v8 (v9 + (1 : Int32)) H locs ls hP hD hS (lv_sub hl [1, 2, 3, 4, 5, 6, 7, 8, 0] rfl) hf
set_option maxHeartbeats 4000000 in
set_option maxRecDepth 100000 in
theorem t_X8_grow_b563 {p : Program} {l : Launch} {e : Env} {s : State} {m : MethodId} {args : Array Value} {below : List Frame} {meth : Method} {c : Code} {A : Nat → Prop} {D : va_G} {cI cJ cZ : ClassId} {h : Nat → Nat} (hC : zCx p s m args meth c A D (zty cI cJ cZ) cX8_grow RX8 16 none) (N : Nat) {mG : tmG} {mH : tmH} {mO : tmO} {mB : tmB} {mM : tmM} {mF : tmF} {u : tmR × tmW × tmS × tmK × tmD × tmN} (k57 : tmR → tmW → tmS → tmK → tmD → tmN → Int32 → Int32 → Option (tmR × tmW × tmS × tmK × tmD × tmN)) (hk57 : ∀ (mR : tmR) (mW : tmW) (mS : tmS) (mK : tmK) (mD : tmD) (mN : tmN) (v1 : Int32) (v2 : Int32) (H : Heap) (locs : List Loc) (ls : Array Slot), va_P D vwCl (zWM cI cJ cZ h mG mH mR mW mS mK mD mN mO mB mM mF) H → va_D A (zWM cI cJ cZ h mG mH mR mW mS mK mD mN mO mB mM mF) → va_S A s.heap H locs → lv_has ls 16 [(0, .ref (h 0)), (1, .int v1), (2, .int v2)] → k57 mR mW mS mK mD mN v1 v2 = some u → W p l e ({ frames := 5, cells := 0, slots := 0, locals := 138 } : Room) s m args below meth c H locs 0 0 (MQ below (zQv D A (zWM cI cJ cZ h mG mH u.1 u.2.1 u.2.2.1 u.2.2.2.1 u.2.2.2.2.1 u.2.2.2.2.2 mO mB mM mF)) args s 0 0 A) (F0 m 57 ls [])) (k294 : tmR → tmW → tmS → tmK → tmD → tmN → Int32 → Int32 → Int32 → Int32 → Int32 → Int32 → Int32 → Int32 → Option (tmR × tmW × tmS × tmK × tmD × tmN)) (hk294 : ∀ (mR : tmR) (mW : tmW) (mS : tmS) (mK : tmK) (mD : tmD) (mN : tmN) (v1 : Int32) (v2 : Int32) (v3 : Int32) (v5 : Int32) (v6 : Int32) (v7 : Int32) (v8 : Int32) (v9 : Int32) (H : Heap) (locs : List Loc) (ls : Array Slot), va_P D vwCl (zWM cI cJ cZ h mG mH mR mW mS mK mD mN mO mB mM mF) H → va_D A (zWM cI cJ cZ h mG mH mR mW mS mK mD mN mO mB mM mF) → va_S A s.heap H locs → lv_has ls 16 [(0, .ref (h 0)), (1, .int v1), (2, .int v2), (3, .int v3), (5, .int v5), (6, .int v6), (7, .int v7), (8, .int v8), (9, .int v9)] → k294 mR mW mS mK mD mN v1 v2 v3 v5 v6 v7 v8 v9 = some u → W p l e ({ frames := 5, cells := 0, slots := 0, locals := 138 } : Room) s m args below meth c H locs 0 0 (MQ below (zQv D A (zWM cI cJ cZ h mG mH u.1 u.2.1 u.2.2.1 u.2.2.2.1 u.2.2.2.2.1 u.2.2.2.2.2 mO mB mM mF)) args s 0 0 A) (F0 m 294 ls [])) : ∀ (mR : tmR) (mW : tmW) (mS : tmS) (mK : tmK) (mD : tmD) (mN : tmN) (v1 : Int32) (v2 : Int32) (v3 : Int32) (v5 : Int32) (v6 : Int32) (v7 : Int32) (v8 : Int32) (v9 : Int32) (v11 : Int32) (v12 : Int64) (v14 : Int64) (s0 : Int32) (H : Heap) (locs : List Loc) (ls : Array Slot), va_P D vwCl (zWM cI cJ cZ h mG mH mR mW mS mK mD mN mO mB mM mF) H → va_D A (zWM cI cJ cZ h mG mH mR mW mS mK mD mN mO mB mM mF) → va_S A s.heap H locs → lv_has ls 16 [(0, .ref (h 0)), (1, .int v1), (2, .int v2), (3, .int v3), (5, .int v5), (6, .int v6), (7, .int v7), (8, .int v8), (9, .int v9), (11, .int v11), (12, .long v12), (14, .long v14)] → X8_grow_b563 N k57 k294 mG mO mR mW mS mK mD mN v1 v2 v3 v5 v6 v7 v8 v9 v11 v12 v14 s0 = some u → W p l e ({ frames := 5, cells := 0, slots := 0, locals := 138 } : Room) s m args below meth c H locs 0 0 (MQ below (zQv D A (zWM cI cJ cZ h mG mH u.1 u.2.1 u.2.2.1 u.2.2.2.1 u.2.2.2.2.1 u.2.2.2.2.2 mO mB mM mF)) args s 0 0 A) (F0 m 563 ls [.int s0, .ref (h 0)]) := by
  intro mR mW mS mK mD mN v1 v2 v3 v5 v6 v7 v8 v9 v11 v12 v14 s0 H locs ls hP hD hS hl hf
  obtain ⟨hx, hb, hml, hown, hts, hK, hr, hlocks, hA⟩ := id hC
  unfold X8_grow_b563 at hf
  refine lv_iload hx hb dX8_grow_563 (lv_at hl 9 rfl) ?_
  refine lv_lload hx hb dX8_grow_565 (lv_at hl 10 rfl) ?_
  refine lv_lload hx hb dX8_grow_567 (lv_at hl 11 rfl) ?_
  refine lv_aload_n hx hb dX8_grow_569 rfl (lv_at hl 0 rfl) ?_
  refine va_get (D := D) (ci := 8) (v := .ref (h 8)) (C := RX8) (T := TX8) (N := 56) hx hb hts tb_wsX80 hown hK.1 hP 0 rfl rfl 9 (by decide) (hts _ tb_5_13) (fun _ h9 => h9) rfl dX8_grow_570 ?_
  refine lv_iload hx hb dX8_grow_573 (lv_at hl 8 rfl) ?_
  obtain ⟨h7, hf⟩ := zck_s hf
  refine va_lald hx hb hK.1 hP 8 1 rfl rfl h7 dX8_grow_575 ?_
  refine lv_aload_n hx hb dX8_grow_576 rfl (lv_at hl 0 rfl) ?_
  refine va_get (D := D) (ci := 8) (v := .ref (h 9)) (C := RX8) (T := TX8) (N := 56) hx hb hts tb_wsX80 hown hK.1 hP 0 rfl rfl 10 (by decide) (hts _ tb_5_14) (fun _ h9 => h9) rfl dX8_grow_577 ?_
  refine lv_iload hx hb dX8_grow_580 (lv_at hl 8 rfl) ?_
  obtain ⟨h8, hf⟩ := zck_s hf
  refine va_lald hx hb hK.1 hP 9 1 rfl rfl h8 dX8_grow_582 ?_
  obtain ⟨u9, hu9, hf⟩ := zbd hf
  refine zthen_v hA hD hS (zrunV (As := [.int s0, .int v11, .long v12, .long v14, .long ((tmR.rUp2 mR) v9.toNatClampNeg), .long ((tmR.rLow2 mR) v9.toNatClampNeg)]) (rest := []) hC hP hD 0 rfl rfl (c_X8_put l D cI cJ cZ h  mG mH mR mW mS mK mD mN mO mB mM mF s0 v11 v12 v14 ((tmR.rUp2 mR) v9.toNatClampNeg) ((tmR.rLow2 mR) v9.toNatClampNeg) u9 hu9 H.size) kRX8_190 rfl rfl ⟨by decide, by decide⟩ rfl hl.1 rfl (Nat.le_of_ble_eq_true rfl) dX8_grow_583) (fun H locs hP hD hS => ?_)
  refine lv_iinc (v := (v7 + (1 : Int32))) (lv' := [(7, .int (v7 + (1 : Int32))), (0, .ref (h 0)), (1, .int v1), (2, .int v2), (3, .int v3), (5, .int v5), (6, .int v6), (8, .int v8), (9, .int v9), (11, .int v11), (12, .long v12), (14, .long v14)]) hx hb dX8_grow_586 hl (k := 6) rfl rfl (by decide) rfl (fun ls hl => ?_)
  refine lv_iinc (v := (v8 + (1 : Int32))) (lv' := [(8, .int (v8 + (1 : Int32))), (7, .int (v7 + (1 : Int32))), (0, .ref (h 0)), (1, .int v1), (2, .int v2), (3, .int v3), (5, .int v5), (6, .int v6), (9, .int v9), (11, .int v11), (12, .long v12), (14, .long v14)]) hx hb dX8_grow_589 hl (k := 7) rfl rfl (by decide) rfl (fun ls hl => ?_)
  exact t_X8_grow_b592 hC N k57 hk57 k294 hk294  mR mW u9 mK mD mN v1 v2 v3 v5 v6 (v7 + (1 : Int32)) (v8 + (1 : Int32)) v9 H locs ls hP hD hS (lv_sub hl [2, 3, 4, 5, 6, 7, 1, 0, 8] rfl) hf
set_option maxHeartbeats 4000000 in
set_option maxRecDepth 100000 in
theorem t_X8_grow_b522 {p : Program} {l : Launch} {e : Env} {s : State} {m : MethodId} {args : Array Value} {below : List Frame} {meth : Method} {c : Code} {A : Nat → Prop} {D : va_G} {cI cJ cZ : ClassId} {h : Nat → Nat} (hC : zCx p s m args meth c A D (zty cI cJ cZ) cX8_grow RX8 16 none) (N : Nat) {mG : tmG} {mH : tmH} {mO : tmO} {mB : tmB} {mM : tmM} {mF : tmF} {u : tmR × tmW × tmS × tmK × tmD × tmN} (k57 : tmR → tmW → tmS → tmK → tmD → tmN → Int32 → Int32 → Option (tmR × tmW × tmS × tmK × tmD × tmN)) (hk57 : ∀ (mR : tmR) (mW : tmW) (mS : tmS) (mK : tmK) (mD : tmD) (mN : tmN) (v1 : Int32) (v2 : Int32) (H : Heap) (locs : List Loc) (ls : Array Slot), va_P D vwCl (zWM cI cJ cZ h mG mH mR mW mS mK mD mN mO mB mM mF) H → va_D A (zWM cI cJ cZ h mG mH mR mW mS mK mD mN mO mB mM mF) → va_S A s.heap H locs → lv_has ls 16 [(0, .ref (h 0)), (1, .int v1), (2, .int v2)] → k57 mR mW mS mK mD mN v1 v2 = some u → W p l e ({ frames := 5, cells := 0, slots := 0, locals := 138 } : Room) s m args below meth c H locs 0 0 (MQ below (zQv D A (zWM cI cJ cZ h mG mH u.1 u.2.1 u.2.2.1 u.2.2.2.1 u.2.2.2.2.1 u.2.2.2.2.2 mO mB mM mF)) args s 0 0 A) (F0 m 57 ls [])) (k294 : tmR → tmW → tmS → tmK → tmD → tmN → Int32 → Int32 → Int32 → Int32 → Int32 → Int32 → Int32 → Int32 → Option (tmR × tmW × tmS × tmK × tmD × tmN)) (hk294 : ∀ (mR : tmR) (mW : tmW) (mS : tmS) (mK : tmK) (mD : tmD) (mN : tmN) (v1 : Int32) (v2 : Int32) (v3 : Int32) (v5 : Int32) (v6 : Int32) (v7 : Int32) (v8 : Int32) (v9 : Int32) (H : Heap) (locs : List Loc) (ls : Array Slot), va_P D vwCl (zWM cI cJ cZ h mG mH mR mW mS mK mD mN mO mB mM mF) H → va_D A (zWM cI cJ cZ h mG mH mR mW mS mK mD mN mO mB mM mF) → va_S A s.heap H locs → lv_has ls 16 [(0, .ref (h 0)), (1, .int v1), (2, .int v2), (3, .int v3), (5, .int v5), (6, .int v6), (7, .int v7), (8, .int v8), (9, .int v9)] → k294 mR mW mS mK mD mN v1 v2 v3 v5 v6 v7 v8 v9 = some u → W p l e ({ frames := 5, cells := 0, slots := 0, locals := 138 } : Room) s m args below meth c H locs 0 0 (MQ below (zQv D A (zWM cI cJ cZ h mG mH u.1 u.2.1 u.2.2.1 u.2.2.2.1 u.2.2.2.2.1 u.2.2.2.2.2 mO mB mM mF)) args s 0 0 A) (F0 m 294 ls [])) : ∀ (mR : tmR) (mW : tmW) (mS : tmS) (mK : tmK) (mD : tmD) (mN : tmN) (v1 : Int32) (v2 : Int32) (v3 : Int32) (v5 : Int32) (v6 : Int32) (v7 : Int32) (v8 : Int32) (v9 : Int32) (v10 : Int32) (v11 : Int32) (v12 : Int64) (v14 : Int64) (s0 : Int32) (H : Heap) (locs : List Loc) (ls : Array Slot), va_P D vwCl (zWM cI cJ cZ h mG mH mR mW mS mK mD mN mO mB mM mF) H → va_D A (zWM cI cJ cZ h mG mH mR mW mS mK mD mN mO mB mM mF) → va_S A s.heap H locs → lv_has ls 16 [(0, .ref (h 0)), (1, .int v1), (2, .int v2), (3, .int v3), (5, .int v5), (6, .int v6), (7, .int v7), (8, .int v8), (9, .int v9), (10, .int v10), (11, .int v11), (12, .long v12), (14, .long v14)] → X8_grow_b522 N k57 k294 mG mO mR mW mS mK mD mN v1 v2 v3 v5 v6 v7 v8 v9 v10 v11 v12 v14 s0 = some u → W p l e ({ frames := 5, cells := 0, slots := 0, locals := 138 } : Room) s m args below meth c H locs 0 0 (MQ below (zQv D A (zWM cI cJ cZ h mG mH u.1 u.2.1 u.2.2.1 u.2.2.2.1 u.2.2.2.2.1 u.2.2.2.2.2 mO mB mM mF)) args s 0 0 A) (F0 m 522 ls [.int s0, .ref (h 0)]) := by
  intro mR mW mS mK mD mN v1 v2 v3 v5 v6 v7 v8 v9 v10 v11 v12 v14 s0 H locs ls hP hD hS hl hf
  obtain ⟨hx, hb, hml, hown, hts, hK, hr, hlocks, hA⟩ := id hC
  unfold X8_grow_b522 at hf
  refine lv_iload hx hb dX8_grow_522 (lv_at hl 10 rfl) ?_
  refine lv_aload_n hx hb dX8_grow_524 rfl (lv_at hl 0 rfl) ?_
  refine va_get (D := D) (ci := 8) (v := .ref (h 6)) (C := RX8) (T := TX8) (N := 56) hx hb hts tb_wsX80 hown hK.1 hP 0 rfl rfl 7 (by decide) (hts _ tb_5_11) (fun _ h9 => h9) rfl dX8_grow_525 ?_
  refine lv_iload hx hb dX8_grow_528 (lv_at hl 8 rfl) ?_
  obtain ⟨h10, hf⟩ := zck_s hf
  refine va_lald hx hb hK.1 hP 6 1 rfl rfl h10 dX8_grow_530 ?_
  refine lv_aload_n hx hb dX8_grow_531 rfl (lv_at hl 0 rfl) ?_
  refine va_get (D := D) (ci := 8) (v := .ref (h 7)) (C := RX8) (T := TX8) (N := 56) hx hb hts tb_wsX80 hown hK.1 hP 0 rfl rfl 8 (by decide) (hts _ tb_5_12) (fun _ h9 => h9) rfl dX8_grow_532 ?_
  refine lv_iload hx hb dX8_grow_535 (lv_at hl 8 rfl) ?_
  obtain ⟨h11, hf⟩ := zck_s hf
  refine va_lald hx hb hK.1 hP 7 1 rfl rfl h11 dX8_grow_537 ?_
  refine lv_lload hx hb dX8_grow_538 (lv_at hl 11 rfl) ?_
  refine lv_lload hx hb dX8_grow_540 (lv_at hl 12 rfl) ?_
  obtain ⟨u12, hu12, hf⟩ := zbd hf
  refine zthen_v hA hD hS (zrunV (As := [.int s0, .int v11, .long ((tmR.rUp mR) v9.toNatClampNeg), .long ((tmR.rLow mR) v9.toNatClampNeg), .long v12, .long v14]) (rest := []) hC hP hD 0 rfl rfl (c_X8_put l D cI cJ cZ h  mG mH mR mW mS mK mD mN mO mB mM mF s0 v11 ((tmR.rUp mR) v9.toNatClampNeg) ((tmR.rLow mR) v9.toNatClampNeg) v12 v14 u12 hu12 H.size) kRX8_190 rfl rfl ⟨by decide, by decide⟩ rfl hl.1 rfl (Nat.le_of_ble_eq_true rfl) dX8_grow_542) (fun H locs hP hD hS => ?_)
  refine lv_aload_n hx hb dX8_grow_545 rfl (lv_at hl 0 rfl) ?_
  refine lv_iload hx hb dX8_grow_546 (lv_at hl 9 rfl) ?_
  refine lv_iconst (v := 3) hx hb dX8_grow_548 (by decide) ?_
  refine lv_icmp_ne (tgt := 561) hx hb dX8_grow_549 (by decide) (fun c13 => ?_) (fun c13 => ?_)
  · replace hf := zif_f hf c13
    refine lv_iload hx hb dX8_grow_561 (lv_at hl 6 rfl) ?_
    exact t_X8_grow_b563 hC N k57 hk57 k294 hk294  mR mW u12 mK mD mN v1 v2 v3 v5 v6 v7 v8 v9 v11 v12 v14 v7 H locs ls hP hD hS (lv_sub hl [0, 1, 2, 3, 4, 5, 6, 7, 8, 10, 11, 12] rfl) hf
  · replace hf := zif_t hf c13
    refine lv_sipush (v := 700) hx hb dX8_grow_552 (by decide) ?_
    refine lv_iload hx hb dX8_grow_555 (lv_at hl 7 rfl) ?_
    refine lv_iadd hx hb dX8_grow_557 ?_
    refine lv_goto (tgt := 563) hx hb dX8_grow_558 (by decide) ?_
    exact t_X8_grow_b563 hC N k57 hk57 k294 hk294  mR mW u12 mK mD mN v1 v2 v3 v5 v6 v7 v8 v9 v11 v12 v14 ((700 : Int32) + v8) H locs ls hP hD hS (lv_sub hl [0, 1, 2, 3, 4, 5, 6, 7, 8, 10, 11, 12] rfl) hf
set_option maxHeartbeats 4000000 in
set_option maxRecDepth 100000 in
theorem t_X8_grow_b404 {p : Program} {l : Launch} {e : Env} {s : State} {m : MethodId} {args : Array Value} {below : List Frame} {meth : Method} {c : Code} {A : Nat → Prop} {D : va_G} {cI cJ cZ : ClassId} {h : Nat → Nat} (hC : zCx p s m args meth c A D (zty cI cJ cZ) cX8_grow RX8 16 none) (N : Nat) {mG : tmG} {mH : tmH} {mO : tmO} {mB : tmB} {mM : tmM} {mF : tmF} {u : tmR × tmW × tmS × tmK × tmD × tmN} (k57 : tmR → tmW → tmS → tmK → tmD → tmN → Int32 → Int32 → Option (tmR × tmW × tmS × tmK × tmD × tmN)) (hk57 : ∀ (mR : tmR) (mW : tmW) (mS : tmS) (mK : tmK) (mD : tmD) (mN : tmN) (v1 : Int32) (v2 : Int32) (H : Heap) (locs : List Loc) (ls : Array Slot), va_P D vwCl (zWM cI cJ cZ h mG mH mR mW mS mK mD mN mO mB mM mF) H → va_D A (zWM cI cJ cZ h mG mH mR mW mS mK mD mN mO mB mM mF) → va_S A s.heap H locs → lv_has ls 16 [(0, .ref (h 0)), (1, .int v1), (2, .int v2)] → k57 mR mW mS mK mD mN v1 v2 = some u → W p l e ({ frames := 5, cells := 0, slots := 0, locals := 138 } : Room) s m args below meth c H locs 0 0 (MQ below (zQv D A (zWM cI cJ cZ h mG mH u.1 u.2.1 u.2.2.1 u.2.2.2.1 u.2.2.2.2.1 u.2.2.2.2.2 mO mB mM mF)) args s 0 0 A) (F0 m 57 ls [])) (k294 : tmR → tmW → tmS → tmK → tmD → tmN → Int32 → Int32 → Int32 → Int32 → Int32 → Int32 → Int32 → Int32 → Option (tmR × tmW × tmS × tmK × tmD × tmN)) (hk294 : ∀ (mR : tmR) (mW : tmW) (mS : tmS) (mK : tmK) (mD : tmD) (mN : tmN) (v1 : Int32) (v2 : Int32) (v3 : Int32) (v5 : Int32) (v6 : Int32) (v7 : Int32) (v8 : Int32) (v9 : Int32) (H : Heap) (locs : List Loc) (ls : Array Slot), va_P D vwCl (zWM cI cJ cZ h mG mH mR mW mS mK mD mN mO mB mM mF) H → va_D A (zWM cI cJ cZ h mG mH mR mW mS mK mD mN mO mB mM mF) → va_S A s.heap H locs → lv_has ls 16 [(0, .ref (h 0)), (1, .int v1), (2, .int v2), (3, .int v3), (5, .int v5), (6, .int v6), (7, .int v7), (8, .int v8), (9, .int v9)] → k294 mR mW mS mK mD mN v1 v2 v3 v5 v6 v7 v8 v9 = some u → W p l e ({ frames := 5, cells := 0, slots := 0, locals := 138 } : Room) s m args below meth c H locs 0 0 (MQ below (zQv D A (zWM cI cJ cZ h mG mH u.1 u.2.1 u.2.2.1 u.2.2.2.1 u.2.2.2.2.1 u.2.2.2.2.2 mO mB mM mF)) args s 0 0 A) (F0 m 294 ls [])) : ∀ (mR : tmR) (mW : tmW) (mS : tmS) (mK : tmK) (mD : tmD) (mN : tmN) (v1 : Int32) (v2 : Int32) (v3 : Int32) (v5 : Int32) (v6 : Int32) (v7 : Int32) (v8 : Int32) (v9 : Int32) (v10 : Int32) (v11 : Int32) (v12 : Int64) (v14 : Int64) (H : Heap) (locs : List Loc) (ls : Array Slot), va_P D vwCl (zWM cI cJ cZ h mG mH mR mW mS mK mD mN mO mB mM mF) H → va_D A (zWM cI cJ cZ h mG mH mR mW mS mK mD mN mO mB mM mF) → va_S A s.heap H locs → lv_has ls 16 [(0, .ref (h 0)), (1, .int v1), (2, .int v2), (3, .int v3), (5, .int v5), (6, .int v6), (7, .int v7), (8, .int v8), (9, .int v9), (10, .int v10), (11, .int v11), (12, .long v12), (14, .long v14)] → X8_grow_b404 N k57 k294 mG mO mR mW mS mK mD mN v1 v2 v3 v5 v6 v7 v8 v9 v10 v11 v12 v14 = some u → W p l e ({ frames := 5, cells := 0, slots := 0, locals := 138 } : Room) s m args below meth c H locs 0 0 (MQ below (zQv D A (zWM cI cJ cZ h mG mH u.1 u.2.1 u.2.2.1 u.2.2.2.1 u.2.2.2.2.1 u.2.2.2.2.2 mO mB mM mF)) args s 0 0 A) (F0 m 404 ls []) := by
  intro mR mW mS mK mD mN v1 v2 v3 v5 v6 v7 v8 v9 v10 v11 v12 v14 H locs ls hP hD hS hl hf
  obtain ⟨hx, hb, hml, hown, hts, hK, hr, hlocks, hA⟩ := id hC
  unfold X8_grow_b404 at hf
  refine lv_iload hx hb dX8_grow_404 (lv_at hl 9 rfl) ?_
  refine lv_iconst (v := 1) hx hb dX8_grow_406 (by decide) ?_
  refine lv_icmp_ne (tgt := 452) hx hb dX8_grow_407 (by decide) (fun c14 => ?_) (fun c14 => ?_)
  · replace hf := zif_f hf c14
    refine lv_iload hx hb dX8_grow_452 (lv_at hl 9 rfl) ?_
    refine lv_iconst (v := 2) hx hb dX8_grow_454 (by decide) ?_
    refine lv_icmp_ne (tgt := 504) hx hb dX8_grow_455 (by decide) (fun c15 => ?_) (fun c15 => ?_)
    · replace hf := zif_f hf c15
      refine lv_aload_n hx hb dX8_grow_504 rfl (lv_at hl 0 rfl) ?_
      refine lv_iload hx hb dX8_grow_505 (lv_at hl 9 rfl) ?_
      refine lv_iconst (v := 3) hx hb dX8_grow_507 (by decide) ?_
      refine lv_icmp_ne (tgt := 516) hx hb dX8_grow_508 (by decide) (fun c16 => ?_) (fun c16 => ?_)
      · replace hf := zif_f hf c16
        refine lv_sipush (v := 700) hx hb dX8_grow_516 (by decide) ?_
        refine lv_iload hx hb dX8_grow_519 (lv_at hl 7 rfl) ?_
        refine lv_iadd hx hb dX8_grow_521 ?_
        exact t_X8_grow_b522 hC N k57 hk57 k294 hk294  mR mW mS mK mD mN v1 v2 v3 v5 v6 v7 v8 v9 v10 v11 v12 v14 ((700 : Int32) + v8) H locs ls hP hD hS (lv_sub hl [0, 1, 2, 3, 4, 5, 6, 7, 8, 9, 10, 11, 12] rfl) hf
      · replace hf := zif_t hf c16
        refine lv_iload hx hb dX8_grow_511 (lv_at hl 6 rfl) ?_
        refine lv_goto (tgt := 522) hx hb dX8_grow_513 (by decide) ?_
        exact t_X8_grow_b522 hC N k57 hk57 k294 hk294  mR mW mS mK mD mN v1 v2 v3 v5 v6 v7 v8 v9 v10 v11 v12 v14 v7 H locs ls hP hD hS (lv_sub hl [0, 1, 2, 3, 4, 5, 6, 7, 8, 9, 10, 11, 12] rfl) hf
    · replace hf := zif_t hf c15
      refine lv_aload_n hx hb dX8_grow_458 rfl (lv_at hl 0 rfl) ?_
      refine lv_sipush (v := 700) hx hb dX8_grow_459 (by decide) ?_
      refine lv_iload hx hb dX8_grow_462 (lv_at hl 7 rfl) ?_
      refine lv_iadd hx hb dX8_grow_464 ?_
      refine lv_iload hx hb dX8_grow_465 (lv_at hl 10 rfl) ?_
      refine lv_aload_n hx hb dX8_grow_467 rfl (lv_at hl 0 rfl) ?_
      refine va_get (D := D) (ci := 8) (v := .ref (h 6)) (C := RX8) (T := TX8) (N := 56) hx hb hts tb_wsX80 hown hK.1 hP 0 rfl rfl 7 (by decide) (hts _ tb_5_11) (fun _ h9 => h9) rfl dX8_grow_468 ?_
      refine lv_iload hx hb dX8_grow_471 (lv_at hl 8 rfl) ?_
      obtain ⟨h17, hf⟩ := zck_s hf
      refine va_lald hx hb hK.1 hP 6 1 rfl rfl h17 dX8_grow_473 ?_
      refine lv_aload_n hx hb dX8_grow_474 rfl (lv_at hl 0 rfl) ?_
      refine va_get (D := D) (ci := 8) (v := .ref (h 7)) (C := RX8) (T := TX8) (N := 56) hx hb hts tb_wsX80 hown hK.1 hP 0 rfl rfl 8 (by decide) (hts _ tb_5_12) (fun _ h9 => h9) rfl dX8_grow_475 ?_
      refine lv_iload hx hb dX8_grow_478 (lv_at hl 8 rfl) ?_
      obtain ⟨h18, hf⟩ := zck_s hf
      refine va_lald hx hb hK.1 hP 7 1 rfl rfl h18 dX8_grow_480 ?_
      refine lv_aload_n hx hb dX8_grow_481 rfl (lv_at hl 0 rfl) ?_
      refine va_get (D := D) (ci := 8) (v := .ref (h 8)) (C := RX8) (T := TX8) (N := 56) hx hb hts tb_wsX80 hown hK.1 hP 0 rfl rfl 9 (by decide) (hts _ tb_5_13) (fun _ h9 => h9) rfl dX8_grow_482 ?_
      refine lv_iload hx hb dX8_grow_485 (lv_at hl 8 rfl) ?_
      obtain ⟨h19, hf⟩ := zck_s hf
      refine va_lald hx hb hK.1 hP 8 1 rfl rfl h19 dX8_grow_487 ?_
      refine lv_aload_n hx hb dX8_grow_488 rfl (lv_at hl 0 rfl) ?_
      refine va_get (D := D) (ci := 8) (v := .ref (h 9)) (C := RX8) (T := TX8) (N := 56) hx hb hts tb_wsX80 hown hK.1 hP 0 rfl rfl 10 (by decide) (hts _ tb_5_14) (fun _ h9 => h9) rfl dX8_grow_489 ?_
      refine lv_iload hx hb dX8_grow_492 (lv_at hl 8 rfl) ?_
      obtain ⟨h20, hf⟩ := zck_s hf
      refine va_lald hx hb hK.1 hP 9 1 rfl rfl h20 dX8_grow_494 ?_
      obtain ⟨u21, hu21, hf⟩ := zbd hf
      refine zthen_v hA hD hS (zrunV (As := [.int ((700 : Int32) + v8), .int v11, .long ((tmR.rUp mR) v9.toNatClampNeg), .long ((tmR.rLow mR) v9.toNatClampNeg), .long ((tmR.rUp2 mR) v9.toNatClampNeg), .long ((tmR.rLow2 mR) v9.toNatClampNeg)]) (rest := []) hC hP hD 0 rfl rfl (c_X8_put l D cI cJ cZ h  mG mH mR mW mS mK mD mN mO mB mM mF ((700 : Int32) + v8) v11 ((tmR.rUp mR) v9.toNatClampNeg) ((tmR.rLow mR) v9.toNatClampNeg) ((tmR.rUp2 mR) v9.toNatClampNeg) ((tmR.rLow2 mR) v9.toNatClampNeg) u21 hu21 H.size) kRX8_190 rfl rfl ⟨by decide, by decide⟩ rfl hl.1 rfl (Nat.le_of_ble_eq_true rfl) dX8_grow_495) (fun H locs hP hD hS => ?_)
      refine lv_iinc (v := (v8 + (1 : Int32))) (lv' := [(8, .int (v8 + (1 : Int32))), (0, .ref (h 0)), (1, .int v1), (2, .int v2), (3, .int v3), (5, .int v5), (6, .int v6), (7, .int v7), (9, .int v9), (10, .int v10), (11, .int v11), (12, .long v12), (14, .long v14)]) hx hb dX8_grow_498 hl (k := 7) rfl rfl (by decide) rfl (fun ls hl => ?_)
      refine lv_goto (tgt := 592) hx hb dX8_grow_501 (by decide) ?_
      exact t_X8_grow_b592 hC N k57 hk57 k294 hk294  mR mW u21 mK mD mN v1 v2 v3 v5 v6 v7 (v8 + (1 : Int32)) v9 H locs ls hP hD hS (lv_sub hl [1, 2, 3, 4, 5, 6, 7, 0, 8] rfl) hf
  · replace hf := zif_t hf c14
    refine lv_aload_n hx hb dX8_grow_410 rfl (lv_at hl 0 rfl) ?_
    refine lv_iload hx hb dX8_grow_411 (lv_at hl 6 rfl) ?_
    refine lv_iload hx hb dX8_grow_413 (lv_at hl 10 rfl) ?_
    refine lv_aload_n hx hb dX8_grow_415 rfl (lv_at hl 0 rfl) ?_
    refine va_get (D := D) (ci := 8) (v := .ref (h 6)) (C := RX8) (T := TX8) (N := 56) hx hb hts tb_wsX80 hown hK.1 hP 0 rfl rfl 7 (by decide) (hts _ tb_5_11) (fun _ h9 => h9) rfl dX8_grow_416 ?_
    refine lv_iload hx hb dX8_grow_419 (lv_at hl 8 rfl) ?_
    obtain ⟨h22, hf⟩ := zck_s hf
    refine va_lald hx hb hK.1 hP 6 1 rfl rfl h22 dX8_grow_421 ?_
    refine lv_aload_n hx hb dX8_grow_422 rfl (lv_at hl 0 rfl) ?_
    refine va_get (D := D) (ci := 8) (v := .ref (h 7)) (C := RX8) (T := TX8) (N := 56) hx hb hts tb_wsX80 hown hK.1 hP 0 rfl rfl 8 (by decide) (hts _ tb_5_12) (fun _ h9 => h9) rfl dX8_grow_423 ?_
    refine lv_iload hx hb dX8_grow_426 (lv_at hl 8 rfl) ?_
    obtain ⟨h23, hf⟩ := zck_s hf
    refine va_lald hx hb hK.1 hP 7 1 rfl rfl h23 dX8_grow_428 ?_
    refine lv_aload_n hx hb dX8_grow_429 rfl (lv_at hl 0 rfl) ?_
    refine va_get (D := D) (ci := 8) (v := .ref (h 8)) (C := RX8) (T := TX8) (N := 56) hx hb hts tb_wsX80 hown hK.1 hP 0 rfl rfl 9 (by decide) (hts _ tb_5_13) (fun _ h9 => h9) rfl dX8_grow_430 ?_
    refine lv_iload hx hb dX8_grow_433 (lv_at hl 8 rfl) ?_
    obtain ⟨h24, hf⟩ := zck_s hf
    refine va_lald hx hb hK.1 hP 8 1 rfl rfl h24 dX8_grow_435 ?_
    refine lv_aload_n hx hb dX8_grow_436 rfl (lv_at hl 0 rfl) ?_
    refine va_get (D := D) (ci := 8) (v := .ref (h 9)) (C := RX8) (T := TX8) (N := 56) hx hb hts tb_wsX80 hown hK.1 hP 0 rfl rfl 10 (by decide) (hts _ tb_5_14) (fun _ h9 => h9) rfl dX8_grow_437 ?_
    refine lv_iload hx hb dX8_grow_440 (lv_at hl 8 rfl) ?_
    obtain ⟨h25, hf⟩ := zck_s hf
    refine va_lald hx hb hK.1 hP 9 1 rfl rfl h25 dX8_grow_442 ?_
    obtain ⟨u26, hu26, hf⟩ := zbd hf
    refine zthen_v hA hD hS (zrunV (As := [.int v7, .int v11, .long ((tmR.rUp mR) v9.toNatClampNeg), .long ((tmR.rLow mR) v9.toNatClampNeg), .long ((tmR.rUp2 mR) v9.toNatClampNeg), .long ((tmR.rLow2 mR) v9.toNatClampNeg)]) (rest := []) hC hP hD 0 rfl rfl (c_X8_put l D cI cJ cZ h  mG mH mR mW mS mK mD mN mO mB mM mF v7 v11 ((tmR.rUp mR) v9.toNatClampNeg) ((tmR.rLow mR) v9.toNatClampNeg) ((tmR.rUp2 mR) v9.toNatClampNeg) ((tmR.rLow2 mR) v9.toNatClampNeg) u26 hu26 H.size) kRX8_190 rfl rfl ⟨by decide, by decide⟩ rfl hl.1 rfl (Nat.le_of_ble_eq_true rfl) dX8_grow_443) (fun H locs hP hD hS => ?_)
    refine lv_iinc (v := (v7 + (1 : Int32))) (lv' := [(7, .int (v7 + (1 : Int32))), (0, .ref (h 0)), (1, .int v1), (2, .int v2), (3, .int v3), (5, .int v5), (6, .int v6), (8, .int v8), (9, .int v9), (10, .int v10), (11, .int v11), (12, .long v12), (14, .long v14)]) hx hb dX8_grow_446 hl (k := 6) rfl rfl (by decide) rfl (fun ls hl => ?_)
    refine lv_goto (tgt := 592) hx hb dX8_grow_449 (by decide) ?_
    exact t_X8_grow_b592 hC N k57 hk57 k294 hk294  mR mW u26 mK mD mN v1 v2 v3 v5 v6 (v7 + (1 : Int32)) v8 v9 H locs ls hP hD hS (lv_sub hl [1, 2, 3, 4, 5, 6, 0, 7, 8] rfl) hf
set_option maxHeartbeats 4000000 in
set_option maxRecDepth 100000 in
theorem t_X8_grow_b294 {p : Program} {l : Launch} {e : Env} {s : State} {m : MethodId} {args : Array Value} {below : List Frame} {meth : Method} {c : Code} {A : Nat → Prop} {D : va_G} {cI cJ cZ : ClassId} {h : Nat → Nat} (hC : zCx p s m args meth c A D (zty cI cJ cZ) cX8_grow RX8 16 none) (N : Nat) {mG : tmG} {mH : tmH} {mO : tmO} {mB : tmB} {mM : tmM} {mF : tmF} {u : tmR × tmW × tmS × tmK × tmD × tmN} (k57 : tmR → tmW → tmS → tmK → tmD → tmN → Int32 → Int32 → Option (tmR × tmW × tmS × tmK × tmD × tmN)) (hk57 : ∀ (mR : tmR) (mW : tmW) (mS : tmS) (mK : tmK) (mD : tmD) (mN : tmN) (v1 : Int32) (v2 : Int32) (H : Heap) (locs : List Loc) (ls : Array Slot), va_P D vwCl (zWM cI cJ cZ h mG mH mR mW mS mK mD mN mO mB mM mF) H → va_D A (zWM cI cJ cZ h mG mH mR mW mS mK mD mN mO mB mM mF) → va_S A s.heap H locs → lv_has ls 16 [(0, .ref (h 0)), (1, .int v1), (2, .int v2)] → k57 mR mW mS mK mD mN v1 v2 = some u → W p l e ({ frames := 5, cells := 0, slots := 0, locals := 138 } : Room) s m args below meth c H locs 0 0 (MQ below (zQv D A (zWM cI cJ cZ h mG mH u.1 u.2.1 u.2.2.1 u.2.2.2.1 u.2.2.2.2.1 u.2.2.2.2.2 mO mB mM mF)) args s 0 0 A) (F0 m 57 ls [])) : ∀ (n : Nat) (mR : tmR) (mW : tmW) (mS : tmS) (mK : tmK) (mD : tmD) (mN : tmN) (v1 : Int32) (v2 : Int32) (v3 : Int32) (v5 : Int32) (v6 : Int32) (v7 : Int32) (v8 : Int32) (v9 : Int32) (H : Heap) (locs : List Loc) (ls : Array Slot), va_P D vwCl (zWM cI cJ cZ h mG mH mR mW mS mK mD mN mO mB mM mF) H → va_D A (zWM cI cJ cZ h mG mH mR mW mS mK mD mN mO mB mM mF) → va_S A s.heap H locs → lv_has ls 16 [(0, .ref (h 0)), (1, .int v1), (2, .int v2), (3, .int v3), (5, .int v5), (6, .int v6), (7, .int v7), (8, .int v8), (9, .int v9)] → X8_grow_b294 N k57 mG mO n mR mW mS mK mD mN v1 v2 v3 v5 v6 v7 v8 v9 = some u → W p l e ({ frames := 5, cells := 0, slots := 0, locals := 138 } : Room) s m args below meth c H locs 0 0 (MQ below (zQv D A (zWM cI cJ cZ h mG mH u.1 u.2.1 u.2.2.1 u.2.2.2.1 u.2.2.2.2.1 u.2.2.2.2.2 mO mB mM mF)) args s 0 0 A) (F0 m 294 ls []) := by
  intro n
  induction n with
  | zero =>
    intro mR mW mS mK mD mN v1 v2 v3 v5 v6 v7 v8 v9 H locs ls hP hD hS hl hf
    cases hf
  | succ n ih =>
    intro mR mW mS mK mD mN v1 v2 v3 v5 v6 v7 v8 v9 H locs ls hP hD hS hl hf
    obtain ⟨hx, hb, hml, hown, hts, hK, hr, hlocks, hA⟩ := id hC
    rw [X8_grow_b294] at hf
    refine lv_iload hx hb dX8_grow_294 (lv_at hl 8 rfl) ?_
    refine lv_aload_n hx hb dX8_grow_296 rfl (lv_at hl 0 rfl) ?_
    refine va_get (D := D) (ci := 8) (v := .int (tmR.rMany mR)) (C := RX8) (T := TX8) (N := 56) hx hb hts tb_wsX80 hown hK.1 hP 0 rfl rfl 11 (by decide) (hts _ tb_14_19) (fun _ h9 => h9) rfl dX8_grow_297 ?_
    refine lv_icmp_ge (tgt := 598) hx hb dX8_grow_300 (by decide) (fun c27 => ?_) (fun c27 => ?_)
    · replace hf := zif_t hf c27
      exact t_X8_grow_b598 hC N k57 hk57  mR mW mS mK mD mN v1 v2 v3 v5 v7 v8 H locs ls hP hD hS (lv_sub hl [0, 1, 2, 3, 4, 6, 7] rfl) hf
    · replace hf := zif_f hf c27
      refine lv_aload_n hx hb dX8_grow_303 rfl (lv_at hl 0 rfl) ?_
      refine lv_iload hx hb dX8_grow_304 (lv_at hl 5 rfl) ?_
      refine lv_iload hx hb dX8_grow_306 (lv_at hl 8 rfl) ?_
      obtain ⟨u28, hu28, hf⟩ := zbd hf
      refine zthen_i hA hD hS (zrunV (As := [.int v6, .int v9]) (rest := []) hC hP hD 0 rfl rfl (c_X8_rowDoes l D cI cJ cZ h  mG mH mR mW mS mK mD mN mO mB mM mF v6 v9 u28 hu28 H.size) kRX8_173 rfl rfl ⟨by decide, by decide⟩ rfl hl.1 rfl (Nat.le_of_ble_eq_true rfl) dX8_grow_308) (fun H locs hP hD hS => ?_)
      refine lv_istore (lv' := [(10, .int u28), (0, .ref (h 0)), (1, .int v1), (2, .int v2), (3, .int v3), (5, .int v5), (6, .int v6), (7, .int v7), (8, .int v8), (9, .int v9)]) hx hb dX8_grow_311 hl (by decide) rfl (fun ls hl => ?_)
      refine lv_aload_n hx hb dX8_grow_313 rfl (lv_at hl 1 rfl) ?_
      refine va_get (D := D) (ci := 8) (v := .ref (h 5)) (C := RX8) (T := TX8) (N := 56) hx hb hts tb_wsX80 hown hK.1 hP 0 rfl rfl 6 (by decide) (hts _ tb_5_10) (fun _ h9 => h9) rfl dX8_grow_314 ?_
      refine lv_iload hx hb dX8_grow_317 (lv_at hl 9 rfl) ?_
      obtain ⟨h29, hf⟩ := zck_s hf
      refine va_iald hx hb hK.1 hP 5 0 rfl rfl h29 dX8_grow_319 ?_
      refine lv_topi (fun x30 ex30 => ?_)
      replace hf := zl_n ex30 hf
      refine lv_istore (lv' := [(11, .int x30), (10, .int u28), (0, .ref (h 0)), (1, .int v1), (2, .int v2), (3, .int v3), (5, .int v5), (6, .int v6), (7, .int v7), (8, .int v8), (9, .int v9)]) hx hb dX8_grow_320 hl (by decide) rfl (fun ls hl => ?_)
      refine lv_iload hx hb dX8_grow_322 (lv_at hl 1 rfl) ?_
      refine lv_if_ne (tgt := 352) hx hb dX8_grow_324 (by decide) (fun c31 => ?_) (fun c31 => ?_)
      · replace hf := zif_f hf c31
        refine lv_aload_n hx hb dX8_grow_352 rfl (lv_at hl 2 rfl) ?_
        refine lv_iload hx hb dX8_grow_353 (lv_at hl 7 rfl) ?_
        refine lv_aload_n hx hb dX8_grow_355 rfl (lv_at hl 2 rfl) ?_
        refine va_get (D := D) (ci := 8) (v := .ref (h 1)) (C := RX8) (T := TX8) (N := 56) hx hb hts tb_wsX80 hown hK.1 hP 0 rfl rfl 1 (by decide) (hts _ tb_5_6) (fun _ h9 => h9) rfl dX8_grow_356 ?_
        refine lv_iload hx hb dX8_grow_359 (lv_at hl 0 rfl) ?_
        obtain ⟨h32, hf⟩ := zck_s hf
        refine va_iald hx hb hK.1 hP 1 0 rfl rfl h32 dX8_grow_361 ?_
        refine lv_i2l (v := (((tmG.px mG) x30.toNatClampNeg)).toInt64) hx hb dX8_grow_362 rfl ?_
        refine lv_aload_n hx hb dX8_grow_363 rfl (lv_at hl 2 rfl) ?_
        refine va_get (D := D) (ci := 8) (v := .ref (h 2)) (C := RX8) (T := TX8) (N := 56) hx hb hts tb_wsX80 hown hK.1 hP 0 rfl rfl 2 (by decide) (hts _ tb_5_7) (fun _ h9 => h9) rfl dX8_grow_364 ?_
        refine lv_iload hx hb dX8_grow_367 (lv_at hl 0 rfl) ?_
        obtain ⟨h33, hf⟩ := zck_s hf
        refine va_iald hx hb hK.1 hP 2 0 rfl rfl h33 dX8_grow_369 ?_
        refine lv_i2l (v := (((tmG.py mG) x30.toNatClampNeg)).toInt64) hx hb dX8_grow_370 rfl ?_
        obtain ⟨u34, hu34, hf⟩ := zbd hf
        refine zthen_l hA hD hS (zrunV (As := [.int v6, .long ((((tmG.px mG) x30.toNatClampNeg)).toInt64), .long ((((tmG.py mG) x30.toNatClampNeg)).toInt64)]) (rest := []) hC hP hD 0 rfl rfl (c_X8_side l D cI cJ cZ h  mG mH mR mW mS mK mD mN mO mB mM mF v6 ((((tmG.px mG) x30.toNatClampNeg)).toInt64) ((((tmG.py mG) x30.toNatClampNeg)).toInt64) u34 hu34 H.size) kRX8_153 rfl rfl ⟨by decide, by decide⟩ rfl hl.1 rfl (Nat.le_of_ble_eq_true rfl) dX8_grow_371) (fun H locs hP hD hS => ?_)
        refine lv_lneg hx hb dX8_grow_374 ?_
        refine lv_topl (fun x35 ex35 => ?_)
        replace hf := zl_n ex35 hf
        refine lv_lstore (lv' := [(12, .long x35), (11, .int x30), (10, .int u28), (0, .ref (h 0)), (1, .int v1), (2, .int v2), (3, .int v3), (5, .int v5), (6, .int v6), (7, .int v7), (8, .int v8), (9, .int v9)]) hx hb dX8_grow_375 hl (by decide) rfl (fun ls hl => ?_)
        refine lv_aload_n hx hb dX8_grow_377 rfl (lv_at hl 3 rfl) ?_
        refine lv_iload hx hb dX8_grow_378 (lv_at hl 8 rfl) ?_
        refine lv_iload hx hb dX8_grow_380 (lv_at hl 1 rfl) ?_
        obtain ⟨u36, hu36, hf⟩ := zbd hf
        refine zthen_l hA hD hS (zrunV (As := [.int v6, .int x30]) (rest := []) hC hP hD 0 rfl rfl (c_X8_slope l D cI cJ cZ h  mG mH mR mW mS mK mD mN mO mB mM mF v6 x30 u36 hu36 H.size) kRX8_157 rfl rfl ⟨by decide, by decide⟩ rfl hl.1 rfl (Nat.le_of_ble_eq_true rfl) dX8_grow_382) (fun H locs hP hD hS => ?_)
        refine lv_lstore (lv' := [(14, .long u36), (12, .long x35), (11, .int x30), (10, .int u28), (0, .ref (h 0)), (1, .int v1), (2, .int v2), (3, .int v3), (5, .int v5), (6, .int v6), (7, .int v7), (8, .int v8), (9, .int v9)]) hx hb dX8_grow_385 hl (by decide) rfl (fun ls hl => ?_)
        refine lv_lload hx hb dX8_grow_387 (lv_at hl 0 rfl) ?_
        refine lv_lconst (v := 0) hx hb dX8_grow_389 (by decide) ?_
        refine W.lcmp hx hb dX8_grow_390 ?_
        refine lv_if_ge (tgt := 404) hx hb dX8_grow_391 (by decide) (fun c37 => ?_) (fun c37 => ?_)
        · replace hf := zif_t hf c37
          exact t_X8_grow_b404 hC N k57 hk57 (X8_grow_b294 N k57 mG mO n) ih  mR mW mS mK mD mN v1 v2 v3 v5 v6 v7 v8 v9 u28 x30 x35 u36 H locs ls hP hD hS (lv_sub hl [4, 5, 6, 7, 8, 9, 10, 11, 12, 3, 2, 1, 0] rfl) hf
        · replace hf := zif_f hf c37
          refine lv_lload hx hb dX8_grow_394 (lv_at hl 1 rfl) ?_
          refine lv_lneg hx hb dX8_grow_396 ?_
          refine lv_topl (fun x38 ex38 => ?_)
          replace hf := zl_n ex38 hf
          refine lv_lstore (lv' := [(12, .long x38), (14, .long u36), (11, .int x30), (10, .int u28), (0, .ref (h 0)), (1, .int v1), (2, .int v2), (3, .int v3), (5, .int v5), (6, .int v6), (7, .int v7), (8, .int v8), (9, .int v9)]) hx hb dX8_grow_397 hl (by decide) rfl (fun ls hl => ?_)
          refine lv_lload hx hb dX8_grow_399 (lv_at hl 1 rfl) ?_
          refine lv_lneg hx hb dX8_grow_401 ?_
          refine lv_topl (fun x39 ex39 => ?_)
          replace hf := zl_n ex39 hf
          refine lv_lstore (lv' := [(14, .long x39), (12, .long x38), (11, .int x30), (10, .int u28), (0, .ref (h 0)), (1, .int v1), (2, .int v2), (3, .int v3), (5, .int v5), (6, .int v6), (7, .int v7), (8, .int v8), (9, .int v9)]) hx hb dX8_grow_402 hl (by decide) rfl (fun ls hl => ?_)
          exact t_X8_grow_b404 hC N k57 hk57 (X8_grow_b294 N k57 mG mO n) ih  mR mW mS mK mD mN v1 v2 v3 v5 v6 v7 v8 v9 u28 x30 x38 x39 H locs ls hP hD hS (lv_sub hl [4, 5, 6, 7, 8, 9, 10, 11, 12, 3, 2, 1, 0] rfl) hf
      · replace hf := zif_t hf c31
        refine lv_aload_n hx hb dX8_grow_327 rfl (lv_at hl 2 rfl) ?_
        refine lv_dup hx hb dX8_grow_328 rfl ?_
        refine va_get (D := D) (ci := 8) (v := .int (tmN.made mN)) (C := RX8) (T := TX8) (N := 56) hx hb hts tb_wsX80 hown hK.1 hP 0 rfl rfl 39 (by decide) (hts _ tb_14_21) (fun _ h9 => h9) rfl dX8_grow_329 ?_
        refine lv_iconst (v := 1) hx hb dX8_grow_332 (by decide) ?_
        refine lv_iadd hx hb dX8_grow_333 ?_
        refine va_put (D := D) (ci := 8) (v := .int ((tmN.made mN) + (1 : Int32))) (ty := .int) (C := RX8) (T := TX8) (N := 56) hx hb hts tb_wsX80 tyX8 tyX8_ok nmX8 hown hK.1 hP hD hS 0 rfl rfl 39 (by decide) (hts _ tb_14_21) (fun _ h9 => h9) rfl (by decide +kernel) rfl rfl (Nat.le_of_ble_eq_true rfl) dX8_grow_334 (fun H locs hP hD hS => ?_)
        replace hP : va_P D vwCl (zWM cI cJ cZ h mG mH mR mW mS mK mD (tmN.s_made mN ((tmN.made mN) + (1 : Int32))) mO mB mM mF) H := hP
        replace hD : va_D A (zWM cI cJ cZ h mG mH mR mW mS mK mD (tmN.s_made mN ((tmN.made mN) + (1 : Int32))) mO mB mM mF) := hD
        refine lv_iload_n hx hb dX8_grow_337 rfl (lv_at hl 4 rfl) ?_
        refine lv_if_eq (tgt := 592) hx hb dX8_grow_338 (by decide) (fun c40 => ?_) (fun c40 => ?_)
        · replace hf := zif_t hf c40
          exact t_X8_grow_b592 hC N k57 hk57 (X8_grow_b294 N k57 mG mO n) ih  mR mW mS mK mD (tmN.s_made mN ((tmN.made mN) + (1 : Int32))) v1 v2 v3 v5 v6 v7 v8 v9 H locs ls hP hD hS (lv_sub hl [2, 3, 4, 5, 6, 7, 8, 9, 10] rfl) hf
        · replace hf := zif_f hf c40
          refine lv_aload_n hx hb dX8_grow_341 rfl (lv_at hl 2 rfl) ?_
          refine lv_iload hx hb dX8_grow_342 (lv_at hl 6 rfl) ?_
          refine lv_iload hx hb dX8_grow_344 (lv_at hl 10 rfl) ?_
          obtain ⟨u41, hu41, hf⟩ := zbd hf
          refine zthen_v hA hD hS (zrunV (As := [.int v5, .int v9]) (rest := []) hC hP hD 0 rfl rfl (c_X8_keep l D cI cJ cZ h  mG mH mR mW mS mK mD (tmN.s_made mN ((tmN.made mN) + (1 : Int32))) mO mB mM mF v5 v9 u41 hu41 H.size) kRX8_205 rfl rfl ⟨by decide, by decide⟩ rfl hl.1 rfl (Nat.le_of_ble_eq_true rfl) dX8_grow_346) (fun H locs hP hD hS => ?_)
          refine lv_goto (tgt := 592) hx hb dX8_grow_349 (by decide) ?_
          exact t_X8_grow_b592 hC N k57 hk57 (X8_grow_b294 N k57 mG mO n) ih  mR mW mS u41 mD (tmN.s_made mN ((tmN.made mN) + (1 : Int32))) v1 v2 v3 v5 v6 v7 v8 v9 H locs ls hP hD hS (lv_sub hl [2, 3, 4, 5, 6, 7, 8, 9, 10] rfl) hf
set_option maxHeartbeats 4000000 in
set_option maxRecDepth 100000 in
theorem t_X8_grow_b291 {p : Program} {l : Launch} {e : Env} {s : State} {m : MethodId} {args : Array Value} {below : List Frame} {meth : Method} {c : Code} {A : Nat → Prop} {D : va_G} {cI cJ cZ : ClassId} {h : Nat → Nat} (hC : zCx p s m args meth c A D (zty cI cJ cZ) cX8_grow RX8 16 none) (N : Nat) {mG : tmG} {mH : tmH} {mO : tmO} {mB : tmB} {mM : tmM} {mF : tmF} {u : tmR × tmW × tmS × tmK × tmD × tmN} (k57 : tmR → tmW → tmS → tmK → tmD → tmN → Int32 → Int32 → Option (tmR × tmW × tmS × tmK × tmD × tmN)) (hk57 : ∀ (mR : tmR) (mW : tmW) (mS : tmS) (mK : tmK) (mD : tmD) (mN : tmN) (v1 : Int32) (v2 : Int32) (H : Heap) (locs : List Loc) (ls : Array Slot), va_P D vwCl (zWM cI cJ cZ h mG mH mR mW mS mK mD mN mO mB mM mF) H → va_D A (zWM cI cJ cZ h mG mH mR mW mS mK mD mN mO mB mM mF) → va_S A s.heap H locs → lv_has ls 16 [(0, .ref (h 0)), (1, .int v1), (2, .int v2)] → k57 mR mW mS mK mD mN v1 v2 = some u → W p l e ({ frames := 5, cells := 0, slots := 0, locals := 138 } : Room) s m args below meth c H locs 0 0 (MQ below (zQv D A (zWM cI cJ cZ h mG mH u.1 u.2.1 u.2.2.1 u.2.2.2.1 u.2.2.2.2.1 u.2.2.2.2.2 mO mB mM mF)) args s 0 0 A) (F0 m 57 ls [])) : ∀ (mR : tmR) (mW : tmW) (mS : tmS) (mK : tmK) (mD : tmD) (mN : tmN) (v1 : Int32) (v2 : Int32) (v3 : Int32) (v5 : Int32) (v6 : Int32) (v7 : Int32) (v8 : Int32) (H : Heap) (locs : List Loc) (ls : Array Slot), va_P D vwCl (zWM cI cJ cZ h mG mH mR mW mS mK mD mN mO mB mM mF) H → va_D A (zWM cI cJ cZ h mG mH mR mW mS mK mD mN mO mB mM mF) → va_S A s.heap H locs → lv_has ls 16 [(0, .ref (h 0)), (1, .int v1), (2, .int v2), (3, .int v3), (5, .int v5), (6, .int v6), (7, .int v7), (8, .int v8)] → X8_grow_b291 N k57 mG mO mR mW mS mK mD mN v1 v2 v3 v5 v6 v7 v8 = some u → W p l e ({ frames := 5, cells := 0, slots := 0, locals := 138 } : Room) s m args below meth c H locs 0 0 (MQ below (zQv D A (zWM cI cJ cZ h mG mH u.1 u.2.1 u.2.2.1 u.2.2.2.1 u.2.2.2.2.1 u.2.2.2.2.2 mO mB mM mF)) args s 0 0 A) (F0 m 291 ls []) := by
  intro mR mW mS mK mD mN v1 v2 v3 v5 v6 v7 v8 H locs ls hP hD hS hl hf
  obtain ⟨hx, hb, hml, hown, hts, hK, hr, hlocks, hA⟩ := id hC
  unfold X8_grow_b291 at hf
  refine lv_iload_n hx hb dX8_grow_291 rfl (lv_at hl 3 rfl) ?_
  refine lv_istore (lv' := [(9, .int v3), (0, .ref (h 0)), (1, .int v1), (2, .int v2), (3, .int v3), (5, .int v5), (6, .int v6), (7, .int v7), (8, .int v8)]) hx hb dX8_grow_292 hl (by decide) rfl (fun ls hl => ?_)
  exact t_X8_grow_b294 hC N k57 hk57  N mR mW mS mK mD mN v1 v2 v3 v5 v6 v7 v8 v3 H locs ls hP hD hS (lv_sub hl [1, 2, 3, 4, 5, 6, 7, 8, 0] rfl) hf
set_option maxHeartbeats 4000000 in
set_option maxRecDepth 100000 in
theorem t_X8_grow_b216 {p : Program} {l : Launch} {e : Env} {s : State} {m : MethodId} {args : Array Value} {below : List Frame} {meth : Method} {c : Code} {A : Nat → Prop} {D : va_G} {cI cJ cZ : ClassId} {h : Nat → Nat} (hC : zCx p s m args meth c A D (zty cI cJ cZ) cX8_grow RX8 16 none) (N : Nat) {mG : tmG} {mH : tmH} {mO : tmO} {mB : tmB} {mM : tmM} {mF : tmF} {u : tmR × tmW × tmS × tmK × tmD × tmN} (k57 : tmR → tmW → tmS → tmK → tmD → tmN → Int32 → Int32 → Option (tmR × tmW × tmS × tmK × tmD × tmN)) (hk57 : ∀ (mR : tmR) (mW : tmW) (mS : tmS) (mK : tmK) (mD : tmD) (mN : tmN) (v1 : Int32) (v2 : Int32) (H : Heap) (locs : List Loc) (ls : Array Slot), va_P D vwCl (zWM cI cJ cZ h mG mH mR mW mS mK mD mN mO mB mM mF) H → va_D A (zWM cI cJ cZ h mG mH mR mW mS mK mD mN mO mB mM mF) → va_S A s.heap H locs → lv_has ls 16 [(0, .ref (h 0)), (1, .int v1), (2, .int v2)] → k57 mR mW mS mK mD mN v1 v2 = some u → W p l e ({ frames := 5, cells := 0, slots := 0, locals := 138 } : Room) s m args below meth c H locs 0 0 (MQ below (zQv D A (zWM cI cJ cZ h mG mH u.1 u.2.1 u.2.2.1 u.2.2.2.1 u.2.2.2.2.1 u.2.2.2.2.2 mO mB mM mF)) args s 0 0 A) (F0 m 57 ls [])) : ∀ (mR : tmR) (mW : tmW) (mS : tmS) (mK : tmK) (mD : tmD) (mN : tmN) (v1 : Int32) (v2 : Int32) (v3 : Int32) (v4 : Int32) (v5 : Int32) (H : Heap) (locs : List Loc) (ls : Array Slot), va_P D vwCl (zWM cI cJ cZ h mG mH mR mW mS mK mD mN mO mB mM mF) H → va_D A (zWM cI cJ cZ h mG mH mR mW mS mK mD mN mO mB mM mF) → va_S A s.heap H locs → lv_has ls 16 [(0, .ref (h 0)), (1, .int v1), (2, .int v2), (3, .int v3), (4, .int v4), (5, .int v5)] → X8_grow_b216 N k57 mG mO mR mW mS mK mD mN v1 v2 v3 v4 v5 = some u → W p l e ({ frames := 5, cells := 0, slots := 0, locals := 138 } : Room) s m args below meth c H locs 0 0 (MQ below (zQv D A (zWM cI cJ cZ h mG mH u.1 u.2.1 u.2.2.1 u.2.2.2.1 u.2.2.2.2.1 u.2.2.2.2.2 mO mB mM mF)) args s 0 0 A) (F0 m 216 ls []) := by
  intro mR mW mS mK mD mN v1 v2 v3 v4 v5 H locs ls hP hD hS hl hf
  obtain ⟨hx, hb, hml, hown, hts, hK, hr, hlocks, hA⟩ := id hC
  unfold X8_grow_b216 at hf
  refine lv_iload_n hx hb dX8_grow_216 rfl (lv_at hl 3 rfl) ?_
  refine lv_aload_n hx hb dX8_grow_217 rfl (lv_at hl 0 rfl) ?_
  refine va_get (D := D) (ci := 8) (v := .int (tmR.rMany mR)) (C := RX8) (T := TX8) (N := 56) hx hb hts tb_wsX80 hown hK.1 hP 0 rfl rfl 11 (by decide) (hts _ tb_14_19) (fun _ h9 => h9) rfl dX8_grow_218 ?_
  refine lv_icmp_ne (tgt := 227) hx hb dX8_grow_221 (by decide) (fun c42 => ?_) (fun c42 => ?_)
  · replace hf := zif_f hf c42
    refine lv_aload_n hx hb dX8_grow_227 rfl (lv_at hl 0 rfl) ?_
    refine va_get (D := D) (ci := 8) (v := .ref (h 5)) (C := RX8) (T := TX8) (N := 56) hx hb hts tb_wsX80 hown hK.1 hP 0 rfl rfl 6 (by decide) (hts _ tb_5_10) (fun _ h9 => h9) rfl dX8_grow_228 ?_
    refine lv_aload_n hx hb dX8_grow_231 rfl (lv_at hl 0 rfl) ?_
    refine lv_iload_n hx hb dX8_grow_232 rfl (lv_at hl 1 rfl) ?_
    refine lv_iload_n hx hb dX8_grow_233 rfl (lv_at hl 3 rfl) ?_
    refine lv_aload_n hx hb dX8_grow_234 rfl (lv_at hl 0 rfl) ?_
    refine va_get (D := D) (ci := 8) (v := .int (tmR.rMany mR)) (C := RX8) (T := TX8) (N := 56) hx hb hts tb_wsX80 hown hK.1 hP 0 rfl rfl 11 (by decide) (hts _ tb_14_19) (fun _ h9 => h9) rfl dX8_grow_235 ?_
    obtain ⟨u43, hu43, hf⟩ := zbd hf
    refine zthen_i hA hD hS (zrunV (As := [.int v1, .int v3, .int (tmR.rMany mR)]) (rest := [.ref (h 5)]) hC hP hD 0 rfl rfl (c_X8_chosen l D cI cJ cZ h N mG mH mR mW mS mK mD mN mO mB mM mF v1 v3 (tmR.rMany mR) u43 hu43 H.size) kRX8_201 rfl rfl ⟨by decide, by decide⟩ rfl hl.1 rfl (Nat.le_of_ble_eq_true rfl) dX8_grow_238) (fun H locs hP hD hS => ?_)
    obtain ⟨h44, hf⟩ := zck_s hf
    refine va_iald hx hb hK.1 hP 5 0 rfl rfl h44 dX8_grow_241 ?_
    refine lv_topi (fun x45 ex45 => ?_)
    replace hf := zl_n ex45 hf
    refine lv_istore (lv' := [(6, .int x45), (0, .ref (h 0)), (1, .int v1), (2, .int v2), (3, .int v3), (4, .int v4), (5, .int v5)]) hx hb dX8_grow_242 hl (by decide) rfl (fun ls hl => ?_)
    refine lv_iconst (v := 0) hx hb dX8_grow_244 (by decide) ?_
    refine lv_istore (lv' := [(7, .int (0 : Int32)), (6, .int x45), (0, .ref (h 0)), (1, .int v1), (2, .int v2), (3, .int v3), (4, .int v4), (5, .int v5)]) hx hb dX8_grow_245 hl (by decide) rfl (fun ls hl => ?_)
    refine lv_iconst (v := 0) hx hb dX8_grow_247 (by decide) ?_
    refine lv_istore (lv' := [(8, .int (0 : Int32)), (7, .int (0 : Int32)), (6, .int x45), (0, .ref (h 0)), (1, .int v1), (2, .int v2), (3, .int v3), (4, .int v4), (5, .int v5)]) hx hb dX8_grow_248 hl (by decide) rfl (fun ls hl => ?_)
    refine lv_iload_n hx hb dX8_grow_250 rfl (lv_at hl 5 rfl) ?_
    refine lv_if_eq (tgt := 291) hx hb dX8_grow_251 (by decide) (fun c46 => ?_) (fun c46 => ?_)
    · replace hf := zif_t hf c46
      exact t_X8_grow_b291 hC N k57 hk57  mR mW mS mK u43.2 mN v1 v2 v3 v5 x45 (0 : Int32) (0 : Int32) H locs ls hP hD hS (lv_sub hl [3, 4, 5, 6, 8, 2, 1, 0] rfl) hf
    · replace hf := zif_f hf c46
      refine lv_aload_n hx hb dX8_grow_254 rfl (lv_at hl 3 rfl) ?_
      refine va_get (D := D) (ci := 8) (v := .ref (h 18)) (C := RX8) (T := TX8) (N := 56) hx hb hts tb_wsX80 hown hK.1 hP 0 rfl rfl 25 (by decide) (hts _ tb_6_0) (fun _ h9 => h9) rfl dX8_grow_255 ?_
      refine lv_iload hx hb dX8_grow_258 (lv_at hl 8 rfl) ?_
      refine lv_iload hx hb dX8_grow_260 (lv_at hl 2 rfl) ?_
      obtain ⟨h47, hf⟩ := zck_s hf
      refine va_iast hx hb hK.1 hP hD hS 18 0 rfl rfl h47 dX8_grow_262 (fun H locs hP hD hS => ?_)
      replace hP : va_P D vwCl (zWM cI cJ cZ h mG mH mR mW mS (tmK.s_kPiece mK (upd (tmK.kPiece mK) v5.toNatClampNeg x45)) u43.2 mN mO mB mM mF) H := hP
      replace hD : va_D A (zWM cI cJ cZ h mG mH mR mW mS (tmK.s_kPiece mK (upd (tmK.kPiece mK) v5.toNatClampNeg x45)) u43.2 mN mO mB mM mF) := hD
      refine lv_aload_n hx hb dX8_grow_263 rfl (lv_at hl 3 rfl) ?_
      refine va_get (D := D) (ci := 8) (v := .ref (h 23)) (C := RX8) (T := TX8) (N := 56) hx hb hts tb_wsX80 hown hK.1 hP 0 rfl rfl 30 (by decide) (hts _ tb_6_5) (fun _ h9 => h9) rfl dX8_grow_264 ?_
      refine lv_iload hx hb dX8_grow_267 (lv_at hl 8 rfl) ?_
      refine lv_iload hx hb dX8_grow_269 (lv_at hl 7 rfl) ?_
      obtain ⟨h48, hf⟩ := zck_s hf
      refine va_iast hx hb hK.1 hP hD hS 23 0 rfl rfl h48 dX8_grow_271 (fun H locs hP hD hS => ?_)
      replace hP : va_P D vwCl (zWM cI cJ cZ h mG mH mR mW mS (tmK.s_kAbove (tmK.s_kPiece mK (upd (tmK.kPiece mK) v5.toNatClampNeg x45)) (upd (tmK.kAbove mK) v5.toNatClampNeg v4)) u43.2 mN mO mB mM mF) H := hP
      replace hD : va_D A (zWM cI cJ cZ h mG mH mR mW mS (tmK.s_kAbove (tmK.s_kPiece mK (upd (tmK.kPiece mK) v5.toNatClampNeg x45)) (upd (tmK.kAbove mK) v5.toNatClampNeg v4)) u43.2 mN mO mB mM mF) := hD
      refine lv_aload_n hx hb dX8_grow_272 rfl (lv_at hl 3 rfl) ?_
      refine va_get (D := D) (ci := 8) (v := .ref (h 20)) (C := RX8) (T := TX8) (N := 56) hx hb hts tb_wsX80 hown hK.1 hP 0 rfl rfl 27 (by decide) (hts _ tb_6_2) (fun _ h9 => h9) rfl dX8_grow_273 ?_
      refine lv_iload hx hb dX8_grow_276 (lv_at hl 8 rfl) ?_
      refine lv_aload_n hx hb dX8_grow_278 rfl (lv_at hl 3 rfl) ?_
      refine va_get (D := D) (ci := 8) (v := .int (tmK.parts mK)) (C := RX8) (T := TX8) (N := 56) hx hb hts tb_wsX80 hown hK.1 hP 0 rfl rfl 24 (by decide) (hts _ tb_8_15) (fun _ h9 => h9) rfl dX8_grow_279 ?_
      obtain ⟨h49, hf⟩ := zck_s hf
      refine va_iast hx hb hK.1 hP hD hS 20 0 rfl rfl h49 dX8_grow_282 (fun H locs hP hD hS => ?_)
      replace hP : va_P D vwCl (zWM cI cJ cZ h mG mH mR mW mS (tmK.s_kAbove (tmK.s_kFirst (tmK.s_kPiece mK (upd (tmK.kPiece mK) v5.toNatClampNeg x45)) (upd (tmK.kFirst mK) v5.toNatClampNeg (tmK.parts mK))) (upd (tmK.kAbove mK) v5.toNatClampNeg v4)) u43.2 mN mO mB mM mF) H := hP
      replace hD : va_D A (zWM cI cJ cZ h mG mH mR mW mS (tmK.s_kAbove (tmK.s_kFirst (tmK.s_kPiece mK (upd (tmK.kPiece mK) v5.toNatClampNeg x45)) (upd (tmK.kFirst mK) v5.toNatClampNeg (tmK.parts mK))) (upd (tmK.kAbove mK) v5.toNatClampNeg v4)) u43.2 mN mO mB mM mF) := hD
      refine lv_aload_n hx hb dX8_grow_283 rfl (lv_at hl 3 rfl) ?_
      refine va_get (D := D) (ci := 8) (v := .ref (h 19)) (C := RX8) (T := TX8) (N := 56) hx hb hts tb_wsX80 hown hK.1 hP 0 rfl rfl 26 (by decide) (hts _ tb_6_1) (fun _ h9 => h9) rfl dX8_grow_284 ?_
      refine lv_iload hx hb dX8_grow_287 (lv_at hl 8 rfl) ?_
      refine lv_iconst (v := 0) hx hb dX8_grow_289 (by decide) ?_
      obtain ⟨h50, hf⟩ := zck_s hf
      refine va_iast hx hb hK.1 hP hD hS 19 0 rfl rfl h50 dX8_grow_290 (fun H locs hP hD hS => ?_)
      replace hP : va_P D vwCl (zWM cI cJ cZ h mG mH mR mW mS (tmK.s_kAbove (tmK.s_kFirst (tmK.s_kMany (tmK.s_kPiece mK (upd (tmK.kPiece mK) v5.toNatClampNeg x45)) (upd (tmK.kMany mK) v5.toNatClampNeg (0 : Int32))) (upd (tmK.kFirst mK) v5.toNatClampNeg (tmK.parts mK))) (upd (tmK.kAbove mK) v5.toNatClampNeg v4)) u43.2 mN mO mB mM mF) H := hP
      replace hD : va_D A (zWM cI cJ cZ h mG mH mR mW mS (tmK.s_kAbove (tmK.s_kFirst (tmK.s_kMany (tmK.s_kPiece mK (upd (tmK.kPiece mK) v5.toNatClampNeg x45)) (upd (tmK.kMany mK) v5.toNatClampNeg (0 : Int32))) (upd (tmK.kFirst mK) v5.toNatClampNeg (tmK.parts mK))) (upd (tmK.kAbove mK) v5.toNatClampNeg v4)) u43.2 mN mO mB mM mF) := hD
      exact t_X8_grow_b291 hC N k57 hk57  mR mW mS (tmK.s_kAbove (tmK.s_kFirst (tmK.s_kMany (tmK.s_kPiece mK (upd (tmK.kPiece mK) v5.toNatClampNeg x45)) (upd (tmK.kMany mK) v5.toNatClampNeg (0 : Int32))) (upd (tmK.kFirst mK) v5.toNatClampNeg (tmK.parts mK))) (upd (tmK.kAbove mK) v5.toNatClampNeg v4)) u43.2 mN v1 v2 v3 v5 x45 (0 : Int32) (0 : Int32) H locs ls hP hD hS (lv_sub hl [3, 4, 5, 6, 8, 2, 1, 0] rfl) hf
  · replace hf := zif_t hf c42
    refine lv_goto (tgt := 57) hx hb dX8_grow_224 (by decide) ?_
    exact hk57 mR mW mS mK mD mN v1 v2 H locs ls hP hD hS (lv_sub hl [0, 1, 2] rfl) hf
set_option maxHeartbeats 4000000 in
set_option maxRecDepth 100000 in
theorem t_X8_grow_b206 {p : Program} {l : Launch} {e : Env} {s : State} {m : MethodId} {args : Array Value} {below : List Frame} {meth : Method} {c : Code} {A : Nat → Prop} {D : va_G} {cI cJ cZ : ClassId} {h : Nat → Nat} (hC : zCx p s m args meth c A D (zty cI cJ cZ) cX8_grow RX8 16 none) (N : Nat) {mG : tmG} {mH : tmH} {mO : tmO} {mB : tmB} {mM : tmM} {mF : tmF} {u : tmR × tmW × tmS × tmK × tmD × tmN} (k57 : tmR → tmW → tmS → tmK → tmD → tmN → Int32 → Int32 → Option (tmR × tmW × tmS × tmK × tmD × tmN)) (hk57 : ∀ (mR : tmR) (mW : tmW) (mS : tmS) (mK : tmK) (mD : tmD) (mN : tmN) (v1 : Int32) (v2 : Int32) (H : Heap) (locs : List Loc) (ls : Array Slot), va_P D vwCl (zWM cI cJ cZ h mG mH mR mW mS mK mD mN mO mB mM mF) H → va_D A (zWM cI cJ cZ h mG mH mR mW mS mK mD mN mO mB mM mF) → va_S A s.heap H locs → lv_has ls 16 [(0, .ref (h 0)), (1, .int v1), (2, .int v2)] → k57 mR mW mS mK mD mN v1 v2 = some u → W p l e ({ frames := 5, cells := 0, slots := 0, locals := 138 } : Room) s m args below meth c H locs 0 0 (MQ below (zQv D A (zWM cI cJ cZ h mG mH u.1 u.2.1 u.2.2.1 u.2.2.2.1 u.2.2.2.2.1 u.2.2.2.2.2 mO mB mM mF)) args s 0 0 A) (F0 m 57 ls [])) : ∀ (mR : tmR) (mW : tmW) (mS : tmS) (mK : tmK) (mD : tmD) (mN : tmN) (v1 : Int32) (v2 : Int32) (v3 : Int32) (v4 : Int32) (v5 : Int32) (H : Heap) (locs : List Loc) (ls : Array Slot), va_P D vwCl (zWM cI cJ cZ h mG mH mR mW mS mK mD mN mO mB mM mF) H → va_D A (zWM cI cJ cZ h mG mH mR mW mS mK mD mN mO mB mM mF) → va_S A s.heap H locs → lv_has ls 16 [(0, .ref (h 0)), (1, .int v1), (2, .int v2), (3, .int v3), (4, .int v4), (5, .int v5)] → X8_grow_b206 N k57 mG mO mR mW mS mK mD mN v1 v2 v3 v4 v5 = some u → W p l e ({ frames := 5, cells := 0, slots := 0, locals := 138 } : Room) s m args below meth c H locs 0 0 (MQ below (zQv D A (zWM cI cJ cZ h mG mH u.1 u.2.1 u.2.2.1 u.2.2.2.1 u.2.2.2.2.1 u.2.2.2.2.2 mO mB mM mF)) args s 0 0 A) (F0 m 206 ls []) := by
  intro mR mW mS mK mD mN v1 v2 v3 v4 v5 H locs ls hP hD hS hl hf
  obtain ⟨hx, hb, hml, hown, hts, hK, hr, hlocks, hA⟩ := id hC
  unfold X8_grow_b206 at hf
  refine lv_iload_n hx hb dX8_grow_206 rfl (lv_at hl 2 rfl) ?_
  refine lv_if_eq (tgt := 216) hx hb dX8_grow_207 (by decide) (fun c51 => ?_) (fun c51 => ?_)
  · replace hf := zif_t hf c51
    exact t_X8_grow_b216 hC N k57 hk57  mR mW mS mK mD mN v1 v2 v3 v4 v5 H locs ls hP hD hS (lv_sub hl [0, 1, 2, 3, 4, 5] rfl) hf
  · replace hf := zif_f hf c51
    refine lv_aload_n hx hb dX8_grow_210 rfl (lv_at hl 0 rfl) ?_
    refine lv_iload hx hb dX8_grow_211 (lv_at hl 5 rfl) ?_
    refine va_put (D := D) (ci := 8) (v := .int v5) (ty := .int) (C := RX8) (T := TX8) (N := 56) hx hb hts tb_wsX80 tyX8 tyX8_ok nmX8 hown hK.1 hP hD hS 0 rfl rfl 31 (by decide) (hts _ tb_14_22) (fun _ h9 => h9) rfl (by decide +kernel) rfl rfl (Nat.le_of_ble_eq_true rfl) dX8_grow_213 (fun H locs hP hD hS => ?_)
    replace hP : va_P D vwCl (zWM cI cJ cZ h mG mH mR mW mS (tmK.s_top mK v5) mD mN mO mB mM mF) H := hP
    replace hD : va_D A (zWM cI cJ cZ h mG mH mR mW mS (tmK.s_top mK v5) mD mN mO mB mM mF) := hD
    exact t_X8_grow_b216 hC N k57 hk57  mR mW mS (tmK.s_top mK v5) mD mN v1 v2 v3 v4 v5 H locs ls hP hD hS (lv_sub hl [0, 1, 2, 3, 4, 5] rfl) hf
set_option maxHeartbeats 4000000 in
set_option maxRecDepth 100000 in
theorem t_X8_grow_b185 {p : Program} {l : Launch} {e : Env} {s : State} {m : MethodId} {args : Array Value} {below : List Frame} {meth : Method} {c : Code} {A : Nat → Prop} {D : va_G} {cI cJ cZ : ClassId} {h : Nat → Nat} (hC : zCx p s m args meth c A D (zty cI cJ cZ) cX8_grow RX8 16 none) (N : Nat) {mG : tmG} {mH : tmH} {mO : tmO} {mB : tmB} {mM : tmM} {mF : tmF} {u : tmR × tmW × tmS × tmK × tmD × tmN} (k57 : tmR → tmW → tmS → tmK → tmD → tmN → Int32 → Int32 → Option (tmR × tmW × tmS × tmK × tmD × tmN)) (hk57 : ∀ (mR : tmR) (mW : tmW) (mS : tmS) (mK : tmK) (mD : tmD) (mN : tmN) (v1 : Int32) (v2 : Int32) (H : Heap) (locs : List Loc) (ls : Array Slot), va_P D vwCl (zWM cI cJ cZ h mG mH mR mW mS mK mD mN mO mB mM mF) H → va_D A (zWM cI cJ cZ h mG mH mR mW mS mK mD mN mO mB mM mF) → va_S A s.heap H locs → lv_has ls 16 [(0, .ref (h 0)), (1, .int v1), (2, .int v2)] → k57 mR mW mS mK mD mN v1 v2 = some u → W p l e ({ frames := 5, cells := 0, slots := 0, locals := 138 } : Room) s m args below meth c H locs 0 0 (MQ below (zQv D A (zWM cI cJ cZ h mG mH u.1 u.2.1 u.2.2.1 u.2.2.2.1 u.2.2.2.2.1 u.2.2.2.2.2 mO mB mM mF)) args s 0 0 A) (F0 m 57 ls [])) : ∀ (mR : tmR) (mW : tmW) (mS : tmS) (mK : tmK) (mD : tmD) (mN : tmN) (v1 : Int32) (v2 : Int32) (v3 : Int32) (v4 : Int32) (v5 : Int32) (H : Heap) (locs : List Loc) (ls : Array Slot), va_P D vwCl (zWM cI cJ cZ h mG mH mR mW mS mK mD mN mO mB mM mF) H → va_D A (zWM cI cJ cZ h mG mH mR mW mS mK mD mN mO mB mM mF) → va_S A s.heap H locs → lv_has ls 16 [(0, .ref (h 0)), (1, .int v1), (2, .int v2), (3, .int v3), (4, .int v4), (5, .int v5)] → X8_grow_b185 N k57 mG mO mR mW mS mK mD mN v1 v2 v3 v4 v5 = some u → W p l e ({ frames := 5, cells := 0, slots := 0, locals := 138 } : Room) s m args below meth c H locs 0 0 (MQ below (zQv D A (zWM cI cJ cZ h mG mH u.1 u.2.1 u.2.2.1 u.2.2.2.1 u.2.2.2.2.1 u.2.2.2.2.2 mO mB mM mF)) args s 0 0 A) (F0 m 185 ls []) := by
  intro mR mW mS mK mD mN v1 v2 v3 v4 v5 H locs ls hP hD hS hl hf
  obtain ⟨hx, hb, hml, hown, hts, hK, hr, hlocks, hA⟩ := id hC
  unfold X8_grow_b185 at hf
  refine lv_iload_n hx hb dX8_grow_185 rfl (lv_at hl 2 rfl) ?_
  refine lv_if_eq (tgt := 206) hx hb dX8_grow_186 (by decide) (fun c52 => ?_) (fun c52 => ?_)
  · replace hf := zif_t hf c52
    exact t_X8_grow_b206 hC N k57 hk57  mR mW mS mK mD mN v1 v2 v3 v4 v5 H locs ls hP hD hS (lv_sub hl [0, 1, 2, 3, 4, 5] rfl) hf
  · replace hf := zif_f hf c52
    refine lv_iload hx hb dX8_grow_189 (lv_at hl 4 rfl) ?_
    refine lv_if_lt (tgt := 206) hx hb dX8_grow_191 (by decide) (fun c53 => ?_) (fun c53 => ?_)
    · replace hf := zif_t hf c53
      exact t_X8_grow_b206 hC N k57 hk57  mR mW mS mK mD mN v1 v2 v3 v4 v5 H locs ls hP hD hS (lv_sub hl [0, 1, 2, 3, 4, 5] rfl) hf
    · replace hf := zif_f hf c53
      refine lv_aload_n hx hb dX8_grow_194 rfl (lv_at hl 0 rfl) ?_
      refine va_get (D := D) (ci := 8) (v := .ref (h 22)) (C := RX8) (T := TX8) (N := 56) hx hb hts tb_wsX80 hown hK.1 hP 0 rfl rfl 29 (by decide) (hts _ tb_6_4) (fun _ h9 => h9) rfl dX8_grow_195 ?_
      refine lv_iload hx hb dX8_grow_198 (lv_at hl 4 rfl) ?_
      refine lv_iload hx hb dX8_grow_200 (lv_at hl 5 rfl) ?_
      obtain ⟨h54, hf⟩ := zck_s hf
      refine va_iast hx hb hK.1 hP hD hS 22 0 rfl rfl h54 dX8_grow_202 (fun H locs hP hD hS => ?_)
      replace hP : va_P D vwCl (zWM cI cJ cZ h mG mH mR mW mS (tmK.s_kBack mK (upd (tmK.kBack mK) v4.toNatClampNeg v5)) mD mN mO mB mM mF) H := hP
      replace hD : va_D A (zWM cI cJ cZ h mG mH mR mW mS (tmK.s_kBack mK (upd (tmK.kBack mK) v4.toNatClampNeg v5)) mD mN mO mB mM mF) := hD
      refine lv_goto (tgt := 216) hx hb dX8_grow_203 (by decide) ?_
      exact t_X8_grow_b216 hC N k57 hk57  mR mW mS (tmK.s_kBack mK (upd (tmK.kBack mK) v4.toNatClampNeg v5)) mD mN v1 v2 v3 v4 v5 H locs ls hP hD hS (lv_sub hl [0, 1, 2, 3, 4, 5] rfl) hf
set_option maxHeartbeats 4000000 in
set_option maxRecDepth 100000 in
theorem t_X8_grow_b152 {p : Program} {l : Launch} {e : Env} {s : State} {m : MethodId} {args : Array Value} {below : List Frame} {meth : Method} {c : Code} {A : Nat → Prop} {D : va_G} {cI cJ cZ : ClassId} {h : Nat → Nat} (hC : zCx p s m args meth c A D (zty cI cJ cZ) cX8_grow RX8 16 none) (N : Nat) {mG : tmG} {mH : tmH} {mO : tmO} {mB : tmB} {mM : tmM} {mF : tmF} {u : tmR × tmW × tmS × tmK × tmD × tmN} (k57 : tmR → tmW → tmS → tmK → tmD → tmN → Int32 → Int32 → Option (tmR × tmW × tmS × tmK × tmD × tmN)) (hk57 : ∀ (mR : tmR) (mW : tmW) (mS : tmS) (mK : tmK) (mD : tmD) (mN : tmN) (v1 : Int32) (v2 : Int32) (H : Heap) (locs : List Loc) (ls : Array Slot), va_P D vwCl (zWM cI cJ cZ h mG mH mR mW mS mK mD mN mO mB mM mF) H → va_D A (zWM cI cJ cZ h mG mH mR mW mS mK mD mN mO mB mM mF) → va_S A s.heap H locs → lv_has ls 16 [(0, .ref (h 0)), (1, .int v1), (2, .int v2)] → k57 mR mW mS mK mD mN v1 v2 = some u → W p l e ({ frames := 5, cells := 0, slots := 0, locals := 138 } : Room) s m args below meth c H locs 0 0 (MQ below (zQv D A (zWM cI cJ cZ h mG mH u.1 u.2.1 u.2.2.1 u.2.2.2.1 u.2.2.2.2.1 u.2.2.2.2.2 mO mB mM mF)) args s 0 0 A) (F0 m 57 ls [])) : ∀ (mR : tmR) (mW : tmW) (mS : tmS) (mK : tmK) (mD : tmD) (mN : tmN) (v1 : Int32) (v2 : Int32) (v3 : Int32) (v4 : Int32) (v5 : Int32) (H : Heap) (locs : List Loc) (ls : Array Slot), va_P D vwCl (zWM cI cJ cZ h mG mH mR mW mS mK mD mN mO mB mM mF) H → va_D A (zWM cI cJ cZ h mG mH mR mW mS mK mD mN mO mB mM mF) → va_S A s.heap H locs → lv_has ls 16 [(0, .ref (h 0)), (1, .int v1), (2, .int v2), (3, .int v3), (4, .int v4), (5, .int v5)] → X8_grow_b152 N k57 mG mO mR mW mS mK mD mN v1 v2 v3 v4 v5 = some u → W p l e ({ frames := 5, cells := 0, slots := 0, locals := 138 } : Room) s m args below meth c H locs 0 0 (MQ below (zQv D A (zWM cI cJ cZ h mG mH u.1 u.2.1 u.2.2.1 u.2.2.2.1 u.2.2.2.2.1 u.2.2.2.2.2 mO mB mM mF)) args s 0 0 A) (F0 m 152 ls []) := by
  intro mR mW mS mK mD mN v1 v2 v3 v4 v5 H locs ls hP hD hS hl hf
  obtain ⟨hx, hb, hml, hown, hts, hK, hr, hlocks, hA⟩ := id hC
  unfold X8_grow_b152 at hf
  refine lv_iload_n hx hb dX8_grow_152 rfl (lv_at hl 2 rfl) ?_
  refine lv_if_eq (tgt := 185) hx hb dX8_grow_153 (by decide) (fun c55 => ?_) (fun c55 => ?_)
  · replace hf := zif_t hf c55
    exact t_X8_grow_b185 hC N k57 hk57  mR mW mS mK mD mN v1 v2 v3 v4 v5 H locs ls hP hD hS (lv_sub hl [0, 1, 2, 3, 4, 5] rfl) hf
  · replace hf := zif_f hf c55
    refine lv_iload hx hb dX8_grow_156 (lv_at hl 4 rfl) ?_
    refine lv_if_lt (tgt := 185) hx hb dX8_grow_158 (by decide) (fun c56 => ?_) (fun c56 => ?_)
    · replace hf := zif_t hf c56
      exact t_X8_grow_b185 hC N k57 hk57  mR mW mS mK mD mN v1 v2 v3 v4 v5 H locs ls hP hD hS (lv_sub hl [0, 1, 2, 3, 4, 5] rfl) hf
    · replace hf := zif_f hf c56
      refine lv_aload_n hx hb dX8_grow_161 rfl (lv_at hl 0 rfl) ?_
      refine va_get (D := D) (ci := 8) (v := .ref (h 12)) (C := RX8) (T := TX8) (N := 56) hx hb hts tb_wsX80 hown hK.1 hP 0 rfl rfl 14 (by decide) (hts _ tb_5_18) (fun _ h9 => h9) rfl dX8_grow_162 ?_
      refine lv_aload_n hx hb dX8_grow_165 rfl (lv_at hl 0 rfl) ?_
      refine va_get (D := D) (ci := 8) (v := .int (tmW.waits mW)) (C := RX8) (T := TX8) (N := 56) hx hb hts tb_wsX80 hown hK.1 hP 0 rfl rfl 15 (by decide) (hts _ tb_14_20) (fun _ h9 => h9) rfl dX8_grow_166 ?_
      obtain ⟨h57, hf⟩ := zck_s hf
      refine va_zald hx hb hK.1 hP 12 2 rfl rfl h57 dX8_grow_169 ?_
      refine lv_if_eq (tgt := 185) hx hb dX8_grow_170 (by decide) (fun c58 => ?_) (fun c58 => ?_)
      · replace hf := zif_t hf c58
        exact t_X8_grow_b185 hC N k57 hk57  mR mW mS mK mD mN v1 v2 v3 v4 v5 H locs ls hP hD hS (lv_sub hl [0, 1, 2, 3, 4, 5] rfl) hf
      · replace hf := zif_f hf c58
        refine lv_aload_n hx hb dX8_grow_173 rfl (lv_at hl 0 rfl) ?_
        refine va_get (D := D) (ci := 8) (v := .ref (h 21)) (C := RX8) (T := TX8) (N := 56) hx hb hts tb_wsX80 hown hK.1 hP 0 rfl rfl 28 (by decide) (hts _ tb_6_3) (fun _ h9 => h9) rfl dX8_grow_174 ?_
        refine lv_iload hx hb dX8_grow_177 (lv_at hl 4 rfl) ?_
        refine lv_iload hx hb dX8_grow_179 (lv_at hl 5 rfl) ?_
        obtain ⟨h59, hf⟩ := zck_s hf
        refine va_iast hx hb hK.1 hP hD hS 21 0 rfl rfl h59 dX8_grow_181 (fun H locs hP hD hS => ?_)
        replace hP : va_P D vwCl (zWM cI cJ cZ h mG mH mR mW mS (tmK.s_kFront mK (upd (tmK.kFront mK) v4.toNatClampNeg v5)) mD mN mO mB mM mF) H := hP
        replace hD : va_D A (zWM cI cJ cZ h mG mH mR mW mS (tmK.s_kFront mK (upd (tmK.kFront mK) v4.toNatClampNeg v5)) mD mN mO mB mM mF) := hD
        refine lv_goto (tgt := 216) hx hb dX8_grow_182 (by decide) ?_
        exact t_X8_grow_b216 hC N k57 hk57  mR mW mS (tmK.s_kFront mK (upd (tmK.kFront mK) v4.toNatClampNeg v5)) mD mN v1 v2 v3 v4 v5 H locs ls hP hD hS (lv_sub hl [0, 1, 2, 3, 4, 5] rfl) hf
set_option maxHeartbeats 4000000 in
set_option maxRecDepth 100000 in
theorem t_X8_grow_b57 {p : Program} {l : Launch} {e : Env} {s : State} {m : MethodId} {args : Array Value} {below : List Frame} {meth : Method} {c : Code} {A : Nat → Prop} {D : va_G} {cI cJ cZ : ClassId} {h : Nat → Nat} (hC : zCx p s m args meth c A D (zty cI cJ cZ) cX8_grow RX8 16 none) (N : Nat) (mG : tmG) (mH : tmH) (mO : tmO) (mB : tmB) (mM : tmM) (mF : tmF) (u : tmR × tmW × tmS × tmK × tmD × tmN) : ∀ (n : Nat) (mR : tmR) (mW : tmW) (mS : tmS) (mK : tmK) (mD : tmD) (mN : tmN) (v1 : Int32) (v2 : Int32) (H : Heap) (locs : List Loc) (ls : Array Slot), va_P D vwCl (zWM cI cJ cZ h mG mH mR mW mS mK mD mN mO mB mM mF) H → va_D A (zWM cI cJ cZ h mG mH mR mW mS mK mD mN mO mB mM mF) → va_S A s.heap H locs → lv_has ls 16 [(0, .ref (h 0)), (1, .int v1), (2, .int v2)] → X8_grow_b57 N mG mO n mR mW mS mK mD mN v1 v2 = some u → W p l e ({ frames := 5, cells := 0, slots := 0, locals := 138 } : Room) s m args below meth c H locs 0 0 (MQ below (zQv D A (zWM cI cJ cZ h mG mH u.1 u.2.1 u.2.2.1 u.2.2.2.1 u.2.2.2.2.1 u.2.2.2.2.2 mO mB mM mF)) args s 0 0 A) (F0 m 57 ls []) := by
  intro n
  induction n with
  | zero =>
    intro mR mW mS mK mD mN v1 v2 H locs ls hP hD hS hl hf
    cases hf
  | succ n ih =>
    intro mR mW mS mK mD mN v1 v2 H locs ls hP hD hS hl hf
    obtain ⟨hx, hb, hml, hown, hts, hK, hr, hlocks, hA⟩ := id hC
    rw [X8_grow_b57] at hf
    refine lv_aload_n hx hb dX8_grow_57 rfl (lv_at hl 0 rfl) ?_
    refine va_get (D := D) (ci := 8) (v := .int (tmW.waits mW)) (C := RX8) (T := TX8) (N := 56) hx hb hts tb_wsX80 hown hK.1 hP 0 rfl rfl 15 (by decide) (hts _ tb_14_20) (fun _ h9 => h9) rfl dX8_grow_58 ?_
    refine lv_if_le (tgt := 668) hx hb dX8_grow_61 (by decide) (fun c60 => ?_) (fun c60 => ?_)
    · replace hf := zif_t hf c60
      have hu := Option.some.inj hf
      subst hu
      exact z_vret hC hP hD hS dX8_grow_668
    · replace hf := zif_f hf c60
      refine lv_aload_n hx hb dX8_grow_64 rfl (lv_at hl 0 rfl) ?_
      refine lv_dup hx hb dX8_grow_65 rfl ?_
      refine va_get (D := D) (ci := 8) (v := .int (tmW.waits mW)) (C := RX8) (T := TX8) (N := 56) hx hb hts tb_wsX80 hown hK.1 hP 0 rfl rfl 15 (by decide) (hts _ tb_14_20) (fun _ h9 => h9) rfl dX8_grow_66 ?_
      refine lv_iconst (v := 1) hx hb dX8_grow_69 (by decide) ?_
      refine lv_isub hx hb dX8_grow_70 ?_
      refine va_put (D := D) (ci := 8) (v := .int ((tmW.waits mW) - (1 : Int32))) (ty := .int) (C := RX8) (T := TX8) (N := 56) hx hb hts tb_wsX80 tyX8 tyX8_ok nmX8 hown hK.1 hP hD hS 0 rfl rfl 15 (by decide) (hts _ tb_14_20) (fun _ h9 => h9) rfl (by decide +kernel) rfl rfl (Nat.le_of_ble_eq_true rfl) dX8_grow_71 (fun H locs hP hD hS => ?_)
      replace hP : va_P D vwCl (zWM cI cJ cZ h mG mH mR (tmW.s_waits mW ((tmW.waits mW) - (1 : Int32))) mS mK mD mN mO mB mM mF) H := hP
      replace hD : va_D A (zWM cI cJ cZ h mG mH mR (tmW.s_waits mW ((tmW.waits mW) - (1 : Int32))) mS mK mD mN mO mB mM mF) := hD
      refine lv_aload_n hx hb dX8_grow_74 rfl (lv_at hl 0 rfl) ?_
      refine va_get (D := D) (ci := 8) (v := .ref (h 10)) (C := RX8) (T := TX8) (N := 56) hx hb hts tb_wsX80 hown hK.1 hP 0 rfl rfl 12 (by decide) (hts _ tb_5_15) (fun _ h9 => h9) rfl dX8_grow_75 ?_
      refine lv_aload_n hx hb dX8_grow_78 rfl (lv_at hl 0 rfl) ?_
      refine va_get (D := D) (ci := 8) (v := .int ((tmW.waits mW) - (1 : Int32))) (C := RX8) (T := TX8) (N := 56) hx hb hts tb_wsX80 hown hK.1 hP 0 rfl rfl 15 (by decide) (hts _ tb_14_20) (fun _ h9 => h9) rfl dX8_grow_79 ?_
      obtain ⟨h61, hf⟩ := zck_s hf
      refine va_iald hx hb hK.1 hP 10 0 rfl rfl h61 dX8_grow_82 ?_
      refine lv_topi (fun x62 ex62 => ?_)
      replace hf := zl_n ex62 hf
      refine lv_istore_n (lv' := [(3, .int x62), (0, .ref (h 0)), (1, .int v1), (2, .int v2)]) hx hb dX8_grow_83 rfl hl (by decide) rfl (fun ls hl => ?_)
      refine lv_aload_n hx hb dX8_grow_84 rfl (lv_at hl 1 rfl) ?_
      refine va_get (D := D) (ci := 8) (v := .ref (h 11)) (C := RX8) (T := TX8) (N := 56) hx hb hts tb_wsX80 hown hK.1 hP 0 rfl rfl 13 (by decide) (hts _ tb_5_16) (fun _ h9 => h9) rfl dX8_grow_85 ?_
      refine lv_aload_n hx hb dX8_grow_88 rfl (lv_at hl 1 rfl) ?_
      refine va_get (D := D) (ci := 8) (v := .int ((tmW.waits mW) - (1 : Int32))) (C := RX8) (T := TX8) (N := 56) hx hb hts tb_wsX80 hown hK.1 hP 0 rfl rfl 15 (by decide) (hts _ tb_14_20) (fun _ h9 => h9) rfl dX8_grow_89 ?_
      obtain ⟨h63, hf⟩ := zck_s hf
      refine va_iald hx hb hK.1 hP 11 0 rfl rfl h63 dX8_grow_92 ?_
      refine lv_topi (fun x64 ex64 => ?_)
      replace hf := zl_n ex64 hf
      refine lv_istore (lv' := [(4, .int x64), (3, .int x62), (0, .ref (h 0)), (1, .int v1), (2, .int v2)]) hx hb dX8_grow_93 hl (by decide) rfl (fun ls hl => ?_)
      refine lv_iconst (v := -1) hx hb dX8_grow_95 (by decide) ?_
      refine lv_istore (lv' := [(5, .int (-1 : Int32)), (4, .int x64), (3, .int x62), (0, .ref (h 0)), (1, .int v1), (2, .int v2)]) hx hb dX8_grow_96 hl (by decide) rfl (fun ls hl => ?_)
      refine lv_iload_n hx hb dX8_grow_98 rfl (lv_at hl 2 rfl) ?_
      refine lv_aload_n hx hb dX8_grow_99 rfl (lv_at hl 3 rfl) ?_
      refine va_get (D := D) (ci := 8) (v := .int (tmR.rMany mR)) (C := RX8) (T := TX8) (N := 56) hx hb hts tb_wsX80 hown hK.1 hP 0 rfl rfl 11 (by decide) (hts _ tb_14_19) (fun _ h9 => h9) rfl dX8_grow_100 ?_
      refine lv_icmp_ne (tgt := 132) hx hb dX8_grow_103 (by decide) (fun c65 => ?_) (fun c65 => ?_)
      · replace hf := zif_f hf c65
        refine lv_iload_n hx hb dX8_grow_132 rfl (lv_at hl 5 rfl) ?_
        refine lv_if_eq (tgt := 152) hx hb dX8_grow_133 (by decide) (fun c66 => ?_) (fun c66 => ?_)
        · replace hf := zif_t hf c66
          exact t_X8_grow_b152 hC N (X8_grow_b57 N mG mO n) ih  mR (tmW.s_waits mW ((tmW.waits mW) - (1 : Int32))) mS mK mD mN v1 v2 x62 x64 (-1 : Int32) H locs ls hP hD hS (lv_sub hl [3, 4, 5, 2, 1, 0] rfl) hf
        · replace hf := zif_f hf c66
          refine lv_aload_n hx hb dX8_grow_136 rfl (lv_at hl 3 rfl) ?_
          refine va_get (D := D) (ci := 8) (v := .int (tmK.knots mK)) (C := RX8) (T := TX8) (N := 56) hx hb hts tb_wsX80 hown hK.1 hP 0 rfl rfl 22 (by decide) (hts _ tb_8_13) (fun _ h9 => h9) rfl dX8_grow_137 ?_
          refine lv_topi (fun x67 ex67 => ?_)
          replace hf := zl_n ex67 hf
          refine lv_istore (lv' := [(5, .int x67), (4, .int x64), (3, .int x62), (0, .ref (h 0)), (1, .int v1), (2, .int v2)]) hx hb dX8_grow_140 hl (by decide) rfl (fun ls hl => ?_)
          refine lv_aload_n hx hb dX8_grow_142 rfl (lv_at hl 3 rfl) ?_
          refine lv_dup hx hb dX8_grow_143 rfl ?_
          refine va_get (D := D) (ci := 8) (v := .int (tmK.knots mK)) (C := RX8) (T := TX8) (N := 56) hx hb hts tb_wsX80 hown hK.1 hP 0 rfl rfl 22 (by decide) (hts _ tb_8_13) (fun _ h9 => h9) rfl dX8_grow_144 ?_
          refine lv_iconst (v := 1) hx hb dX8_grow_147 (by decide) ?_
          refine lv_iadd hx hb dX8_grow_148 ?_
          refine va_put (D := D) (ci := 8) (v := .int ((tmK.knots mK) + (1 : Int32))) (ty := .int) (C := RX8) (T := TX8) (N := 56) hx hb hts tb_wsX80 tyX8 tyX8_ok nmX8 hown hK.1 hP hD hS 0 rfl rfl 22 (by decide) (hts _ tb_8_13) (fun _ h9 => h9) rfl (by decide +kernel) rfl rfl (Nat.le_of_ble_eq_true rfl) dX8_grow_149 (fun H locs hP hD hS => ?_)
          replace hP : va_P D vwCl (zWM cI cJ cZ h mG mH mR (tmW.s_waits mW ((tmW.waits mW) - (1 : Int32))) mS (tmK.s_knots mK ((tmK.knots mK) + (1 : Int32))) mD mN mO mB mM mF) H := hP
          replace hD : va_D A (zWM cI cJ cZ h mG mH mR (tmW.s_waits mW ((tmW.waits mW) - (1 : Int32))) mS (tmK.s_knots mK ((tmK.knots mK) + (1 : Int32))) mD mN mO mB mM mF) := hD
          exact t_X8_grow_b152 hC N (X8_grow_b57 N mG mO n) ih  mR (tmW.s_waits mW ((tmW.waits mW) - (1 : Int32))) mS (tmK.s_knots mK ((tmK.knots mK) + (1 : Int32))) mD mN v1 v2 x62 x64 x67 H locs ls hP hD hS (lv_sub hl [3, 4, 5, 2, 1, 0] rfl) hf
      · replace hf := zif_t hf c65
        refine lv_iload_n hx hb dX8_grow_106 rfl (lv_at hl 5 rfl) ?_
        refine lv_if_eq (tgt := 152) hx hb dX8_grow_107 (by decide) (fun c68 => ?_) (fun c68 => ?_)
        · replace hf := zif_t hf c68
          exact t_X8_grow_b152 hC N (X8_grow_b57 N mG mO n) ih  mR (tmW.s_waits mW ((tmW.waits mW) - (1 : Int32))) mS mK mD mN v1 v2 x62 x64 (-1 : Int32) H locs ls hP hD hS (lv_sub hl [3, 4, 5, 2, 1, 0] rfl) hf
        · replace hf := zif_f hf c68
          refine lv_bipush (v := -2) hx hb dX8_grow_110 (by decide) ?_
          refine lv_aload_n hx hb dX8_grow_112 rfl (lv_at hl 3 rfl) ?_
          refine va_get (D := D) (ci := 8) (v := .int (tmK.leaves mK)) (C := RX8) (T := TX8) (N := 56) hx hb hts tb_wsX80 hown hK.1 hP 0 rfl rfl 23 (by decide) (hts _ tb_8_14) (fun _ h9 => h9) rfl dX8_grow_113 ?_
          refine lv_isub hx hb dX8_grow_116 ?_
          refine lv_topi (fun x69 ex69 => ?_)
          replace hf := zl_n ex69 hf
          refine lv_istore (lv' := [(5, .int x69), (4, .int x64), (3, .int x62), (0, .ref (h 0)), (1, .int v1), (2, .int v2)]) hx hb dX8_grow_117 hl (by decide) rfl (fun ls hl => ?_)
          refine lv_aload_n hx hb dX8_grow_119 rfl (lv_at hl 3 rfl) ?_
          refine lv_dup hx hb dX8_grow_120 rfl ?_
          refine va_get (D := D) (ci := 8) (v := .int (tmK.leaves mK)) (C := RX8) (T := TX8) (N := 56) hx hb hts tb_wsX80 hown hK.1 hP 0 rfl rfl 23 (by decide) (hts _ tb_8_14) (fun _ h9 => h9) rfl dX8_grow_121 ?_
          refine lv_iconst (v := 1) hx hb dX8_grow_124 (by decide) ?_
          refine lv_iadd hx hb dX8_grow_125 ?_
          refine va_put (D := D) (ci := 8) (v := .int ((tmK.leaves mK) + (1 : Int32))) (ty := .int) (C := RX8) (T := TX8) (N := 56) hx hb hts tb_wsX80 tyX8 tyX8_ok nmX8 hown hK.1 hP hD hS 0 rfl rfl 23 (by decide) (hts _ tb_8_14) (fun _ h9 => h9) rfl (by decide +kernel) rfl rfl (Nat.le_of_ble_eq_true rfl) dX8_grow_126 (fun H locs hP hD hS => ?_)
          replace hP : va_P D vwCl (zWM cI cJ cZ h mG mH mR (tmW.s_waits mW ((tmW.waits mW) - (1 : Int32))) mS (tmK.s_leaves mK ((tmK.leaves mK) + (1 : Int32))) mD mN mO mB mM mF) H := hP
          replace hD : va_D A (zWM cI cJ cZ h mG mH mR (tmW.s_waits mW ((tmW.waits mW) - (1 : Int32))) mS (tmK.s_leaves mK ((tmK.leaves mK) + (1 : Int32))) mD mN mO mB mM mF) := hD
          refine lv_goto (tgt := 152) hx hb dX8_grow_129 (by decide) ?_
          exact t_X8_grow_b152 hC N (X8_grow_b57 N mG mO n) ih  mR (tmW.s_waits mW ((tmW.waits mW) - (1 : Int32))) mS (tmK.s_leaves mK ((tmK.leaves mK) + (1 : Int32))) mD mN v1 v2 x62 x64 x69 H locs ls hP hD hS (lv_sub hl [3, 4, 5, 2, 1, 0] rfl) hf
set_option maxHeartbeats 4000000 in
set_option maxRecDepth 100000 in
theorem t_X8_grow_b23 {p : Program} {l : Launch} {e : Env} {s : State} {m : MethodId} {args : Array Value} {below : List Frame} {meth : Method} {c : Code} {A : Nat → Prop} {D : va_G} {cI cJ cZ : ClassId} {h : Nat → Nat} (hC : zCx p s m args meth c A D (zty cI cJ cZ) cX8_grow RX8 16 none) (N : Nat) (mG : tmG) (mH : tmH) (mO : tmO) (mB : tmB) (mM : tmM) (mF : tmF) (u : tmR × tmW × tmS × tmK × tmD × tmN) : ∀ (n : Nat) (mR : tmR) (mW : tmW) (mS : tmS) (mK : tmK) (mD : tmD) (mN : tmN) (v1 : Int32) (v2 : Int32) (v3 : Int32) (H : Heap) (locs : List Loc) (ls : Array Slot), va_P D vwCl (zWM cI cJ cZ h mG mH mR mW mS mK mD mN mO mB mM mF) H → va_D A (zWM cI cJ cZ h mG mH mR mW mS mK mD mN mO mB mM mF) → va_S A s.heap H locs → lv_has ls 16 [(0, .ref (h 0)), (1, .int v1), (2, .int v2), (3, .int v3)] → X8_grow_b23 N mG mO n mR mW mS mK mD mN v1 v2 v3 = some u → W p l e ({ frames := 5, cells := 0, slots := 0, locals := 138 } : Room) s m args below meth c H locs 0 0 (MQ below (zQv D A (zWM cI cJ cZ h mG mH u.1 u.2.1 u.2.2.1 u.2.2.2.1 u.2.2.2.2.1 u.2.2.2.2.2 mO mB mM mF)) args s 0 0 A) (F0 m 23 ls []) := by
  intro n
  induction n with
  | zero =>
    intro mR mW mS mK mD mN v1 v2 v3 H locs ls hP hD hS hl hf
    cases hf
  | succ n ih =>
    intro mR mW mS mK mD mN v1 v2 v3 H locs ls hP hD hS hl hf
    obtain ⟨hx, hb, hml, hown, hts, hK, hr, hlocks, hA⟩ := id hC
    rw [X8_grow_b23] at hf
    refine lv_iload_n hx hb dX8_grow_23 rfl (lv_at hl 3 rfl) ?_
    refine lv_aload_n hx hb dX8_grow_24 rfl (lv_at hl 0 rfl) ?_
    refine va_get (D := D) (ci := 8) (v := .int (tmG.pieces mG)) (C := RX8) (T := TX8) (N := 56) hx hb hts tb_wsX80 hown hK.1 hP 0 rfl rfl 0 (by decide) (hts _ tb_8_4) (fun _ h9 => h9) rfl dX8_grow_25 ?_
    refine lv_icmp_ge (tgt := 57) hx hb dX8_grow_28 (by decide) (fun c70 => ?_) (fun c70 => ?_)
    · replace hf := zif_t hf c70
      exact t_X8_grow_b57 hC N mG mH mO mB mM mF u N mR mW mS mK mD mN v1 v2 H locs ls hP hD hS (lv_sub hl [0, 1, 2] rfl) hf
    · replace hf := zif_f hf c70
      refine lv_aload_n hx hb dX8_grow_31 rfl (lv_at hl 0 rfl) ?_
      refine lv_iconst (v := 0) hx hb dX8_grow_32 (by decide) ?_
      refine lv_aload_n hx hb dX8_grow_33 rfl (lv_at hl 0 rfl) ?_
      refine va_get (D := D) (ci := 8) (v := .ref (h 30)) (C := RX8) (T := TX8) (N := 56) hx hb hts tb_wsX80 hown hK.1 hP 0 rfl rfl 40 (by decide) (hts _ tb_6_12) (fun _ h9 => h9) rfl dX8_grow_34 ?_
      refine lv_iload_n hx hb dX8_grow_37 rfl (lv_at hl 3 rfl) ?_
      obtain ⟨h71, hf⟩ := zck_s hf
      refine va_iald hx hb hK.1 hP 30 0 rfl rfl h71 dX8_grow_38 ?_
      refine lv_lconst (v := 0) hx hb dX8_grow_39 (by decide) ?_
      refine lv_lconst (v := 1) hx hb dX8_grow_40 (by decide) ?_
      refine lv_lconst (v := 1) hx hb dX8_grow_41 (by decide) ?_
      refine lv_lconst (v := 1) hx hb dX8_grow_42 (by decide) ?_
      obtain ⟨u72, hu72, hf⟩ := zbd hf
      refine zthen_v hA hD hS (zrunV (As := [.int (0 : Int32), .int ((tmO.orderOf mO) v3.toNatClampNeg), .long (0 : Int64), .long (1 : Int64), .long (1 : Int64), .long (1 : Int64)]) (rest := []) hC hP hD 0 rfl rfl (c_X8_put l D cI cJ cZ h  mG mH mR mW mS mK mD mN mO mB mM mF (0 : Int32) ((tmO.orderOf mO) v3.toNatClampNeg) (0 : Int64) (1 : Int64) (1 : Int64) (1 : Int64) u72 hu72 H.size) kRX8_190 rfl rfl ⟨by decide, by decide⟩ rfl hl.1 rfl (Nat.le_of_ble_eq_true rfl) dX8_grow_43) (fun H locs hP hD hS => ?_)
      refine lv_aload_n hx hb dX8_grow_46 rfl (lv_at hl 0 rfl) ?_
      refine lv_iconst (v := 0) hx hb dX8_grow_47 (by decide) ?_
      obtain ⟨u73, hu73, hf⟩ := zbd hf
      refine zthen_v hA hD hS (zrunV (As := [.int (0 : Int32)]) (rest := []) hC hP hD 0 rfl rfl (c_X8_back l D cI cJ cZ h  mG mH mR mW u72 mK mD mN mO mB mM mF (0 : Int32) u73 hu73 H.size) kRX8_194 rfl rfl ⟨by decide, by decide⟩ rfl hl.1 rfl (Nat.le_of_ble_eq_true rfl) dX8_grow_48) (fun H locs hP hD hS => ?_)
      refine lv_iinc (v := (v3 + (1 : Int32))) (lv' := [(3, .int (v3 + (1 : Int32))), (0, .ref (h 0)), (1, .int v1), (2, .int v2)]) hx hb dX8_grow_51 hl (k := 3) rfl rfl (by decide) rfl (fun ls hl => ?_)
      refine lv_goto (tgt := 23) hx hb dX8_grow_54 (by decide) ?_
      exact ih u73 mW u72 mK mD mN v1 v2 (v3 + (1 : Int32)) H locs ls hP hD hS (lv_sub hl [1, 2, 3, 0] rfl) hf
set_option maxHeartbeats 4000000 in
set_option maxRecDepth 100000 in
theorem c_X8_grow (l : Launch) (D : va_G) (cI cJ cZ : ClassId) (h : Nat → Nat) (N : Nat) (mG : tmG) (mH : tmH) (mR : tmR) (mW : tmW) (mS : tmS) (mK : tmK) (mD : tmD) (mN : tmN) (mO : tmO) (mB : tmB) (mM : tmM) (mF : tmF) (a1 : Int32) (a2 : Int32) (u : tmR × tmW × tmS × tmK × tmD × tmN) (hf : X8_grow N mG mR mW mS mK mD mN mO a1 a2 = some u) (sz : Nat) : Met l yX8_grow (Cond.code yX8_grow cX8_grow 16 none :: tb_L) ({ frames := 5, cells := 0, slots := 0, locals := 138 } : Room) (zPre D (zty cI cJ cZ) (zWM cI cJ cZ h mG mH mR mW mS mK mD mN mO mB mM mF) sz [.ref (h 0), .int a1, .int a2]) (zQv D (va_A (zWM cI cJ cZ h mG mH mR mW mS mK mD mN mO mB mM mF) sz) (zWM cI cJ cZ h mG mH u.1 u.2.1 u.2.2.1 u.2.2.2.1 u.2.2.2.2.1 u.2.2.2.2.2 mO mB mM mF)) 0 0 (va_A (zWM cI cJ cZ h mG mH mR mW mS mK mD mN mO mB mM mF) sz) := by
  refine zMet (Qc := fun A => zQv D A (zWM cI cJ cZ h mG mH u.1 u.2.1 u.2.2.1 u.2.2.2.1 u.2.2.2.2.1 u.2.2.2.2.2 mO mB mM mF)) (by decide) rfl (Nat.le_of_ble_eq_true rfl) ?_
  intro p e s m args below meth c A ls hC _ hP hD hS hl
  replace hl : lv_has ls 16 [(0, .ref (h 0)), (1, .int a1), (2, .int a2)] := hl
  obtain ⟨hx, hb, hml, hown, hts, hK, hr, hlocks, hA⟩ := id hC
  unfold X8_grow at hf
  obtain ⟨H, hH⟩ : ∃ H, H = s.heap := ⟨_, rfl⟩
  rw [← hH] at hP
  replace hS : va_S A s.heap H [] := by rw [hH]; exact hS
  show W p l e _ s m args below meth c s.heap [] 0 0 _ _
  rw [← hH]
  clear hH
  obtain ⟨locs, hlo⟩ : ∃ x : List Loc, x = [] := ⟨_, rfl⟩
  rw [← hlo] at hS ⊢
  clear hlo
  refine lv_aload_n hx hb dX8_grow_0 rfl (lv_at hl 0 rfl) ?_
  refine lv_iconst (v := 0) hx hb dX8_grow_1 (by decide) ?_
  refine va_put (D := D) (ci := 8) (v := .int (0 : Int32)) (ty := .int) (C := RX8) (T := TX8) (N := 56) hx hb hts tb_wsX80 tyX8 tyX8_ok nmX8 hown hK.1 hP hD hS 0 rfl rfl 11 (by decide) (hts _ tb_14_19) (fun _ h9 => h9) rfl (by decide +kernel) rfl rfl (Nat.le_of_ble_eq_true rfl) dX8_grow_2 (fun H locs hP hD hS => ?_)
  replace hP : va_P D vwCl (zWM cI cJ cZ h mG mH (tmR.s_rMany mR (0 : Int32)) mW mS mK mD mN mO mB mM mF) H := hP
  replace hD : va_D A (zWM cI cJ cZ h mG mH (tmR.s_rMany mR (0 : Int32)) mW mS mK mD mN mO mB mM mF) := hD
  refine lv_aload_n hx hb dX8_grow_5 rfl (lv_at hl 0 rfl) ?_
  refine lv_iconst (v := 0) hx hb dX8_grow_6 (by decide) ?_
  refine va_put (D := D) (ci := 8) (v := .int (0 : Int32)) (ty := .int) (C := RX8) (T := TX8) (N := 56) hx hb hts tb_wsX80 tyX8 tyX8_ok nmX8 hown hK.1 hP hD hS 0 rfl rfl 15 (by decide) (hts _ tb_14_20) (fun _ h9 => h9) rfl (by decide +kernel) rfl rfl (Nat.le_of_ble_eq_true rfl) dX8_grow_7 (fun H locs hP hD hS => ?_)
  replace hP : va_P D vwCl (zWM cI cJ cZ h mG mH (tmR.s_rMany mR (0 : Int32)) (tmW.s_waits mW (0 : Int32)) mS mK mD mN mO mB mM mF) H := hP
  replace hD : va_D A (zWM cI cJ cZ h mG mH (tmR.s_rMany mR (0 : Int32)) (tmW.s_waits mW (0 : Int32)) mS mK mD mN mO mB mM mF) := hD
  refine lv_aload_n hx hb dX8_grow_10 rfl (lv_at hl 0 rfl) ?_
  refine lv_iconst (v := 0) hx hb dX8_grow_11 (by decide) ?_
  refine va_put (D := D) (ci := 8) (v := .int (0 : Int32)) (ty := .int) (C := RX8) (T := TX8) (N := 56) hx hb hts tb_wsX80 tyX8 tyX8_ok nmX8 hown hK.1 hP hD hS 0 rfl rfl 39 (by decide) (hts _ tb_14_21) (fun _ h9 => h9) rfl (by decide +kernel) rfl rfl (Nat.le_of_ble_eq_true rfl) dX8_grow_12 (fun H locs hP hD hS => ?_)
  replace hP : va_P D vwCl (zWM cI cJ cZ h mG mH (tmR.s_rMany mR (0 : Int32)) (tmW.s_waits mW (0 : Int32)) mS mK mD (tmN.s_made mN (0 : Int32)) mO mB mM mF) H := hP
  replace hD : va_D A (zWM cI cJ cZ h mG mH (tmR.s_rMany mR (0 : Int32)) (tmW.s_waits mW (0 : Int32)) mS mK mD (tmN.s_made mN (0 : Int32)) mO mB mM mF) := hD
  refine lv_aload_n hx hb dX8_grow_15 rfl (lv_at hl 0 rfl) ?_
  refine lv_iconst (v := -1) hx hb dX8_grow_16 (by decide) ?_
  refine lv_iconst (v := 0) hx hb dX8_grow_17 (by decide) ?_
  obtain ⟨u74, hu74, hf⟩ := zbd hf
  refine zthen_v hA hD hS (zrunV (As := [.int (-1 : Int32), .int (0 : Int32)]) (rest := []) hC hP hD 0 rfl rfl (c_X8_waitsNow l D cI cJ cZ h  mG mH (tmR.s_rMany mR (0 : Int32)) (tmW.s_waits mW (0 : Int32)) mS mK mD (tmN.s_made mN (0 : Int32)) mO mB mM mF (-1 : Int32) (0 : Int32) u74 hu74 H.size) kRX8_186 rfl rfl ⟨by decide, by decide⟩ rfl hl.1 rfl (Nat.le_of_ble_eq_true rfl) dX8_grow_18) (fun H locs hP hD hS => ?_)
  refine lv_iconst (v := 0) hx hb dX8_grow_21 (by decide) ?_
  refine lv_istore_n (lv' := [(3, .int (0 : Int32)), (0, .ref (h 0)), (1, .int a1), (2, .int a2)]) hx hb dX8_grow_22 rfl hl (by decide) rfl (fun ls hl => ?_)
  exact t_X8_grow_b23 hC N mG mH mO mB mM mF u N (tmR.s_rMany mR (0 : Int32)) u74 mS mK mD (tmN.s_made mN (0 : Int32)) a1 a2 (0 : Int32) H locs ls hP hD hS (lv_sub hl [1, 2, 3, 0] rfl) hf
set_option maxHeartbeats 4000000 in
set_option maxRecDepth 100000 in
theorem t_X8_build_b51 {p : Program} {l : Launch} {e : Env} {s : State} {m : MethodId} {args : Array Value} {below : List Frame} {meth : Method} {c : Code} {A : Nat → Prop} {D : va_G} {cI cJ cZ : ClassId} {h : Nat → Nat} (hC : zCx p s m args meth c A D (zty cI cJ cZ) cX8_build RX8 4 (some .int)) (N : Nat) (mG : tmG) (mM : tmM) (mF : tmF) (u : Int32 × tmH × tmR × tmW × tmS × tmK × tmD × tmN × tmO × tmB) : ∀ (mH : tmH) (mR : tmR) (mW : tmW) (mS : tmS) (mK : tmK) (mD : tmD) (mN : tmN) (mO : tmO) (mB : tmB) (v1 : Int32) (H : Heap) (locs : List Loc) (ls : Array Slot), va_P D vwCl (zWM cI cJ cZ h mG mH mR mW mS mK mD mN mO mB mM mF) H → va_D A (zWM cI cJ cZ h mG mH mR mW mS mK mD mN mO mB mM mF) → va_S A s.heap H locs → lv_has ls 4 [(0, .ref (h 0)), (1, .int v1)] → X8_build_b51 N mG mH mR mW mS mK mD mN mO mB v1 = some u → W p l e ({ frames := 6, cells := 0, slots := 0, locals := 173 } : Room) s m args below meth c H locs 0 0 (MQ below (zQi D A (zWM cI cJ cZ h mG u.2.1 u.2.2.1 u.2.2.2.1 u.2.2.2.2.1 u.2.2.2.2.2.1 u.2.2.2.2.2.2.1 u.2.2.2.2.2.2.2.1 u.2.2.2.2.2.2.2.2.1 u.2.2.2.2.2.2.2.2.2 mM mF) (u.1)) args s 0 0 A) (F0 m 51 ls []) := by
  intro mH mR mW mS mK mD mN mO mB v1 H locs ls hP hD hS hl hf
  obtain ⟨hx, hb, hml, hown, hts, hK, hr, hlocks, hA⟩ := id hC
  unfold X8_build_b51 at hf
  refine lv_aload_n hx hb dX8_build_51 rfl (lv_at hl 0 rfl) ?_
  refine lv_iload_n hx hb dX8_build_52 rfl (lv_at hl 1 rfl) ?_
  refine lv_iconst (v := 1) hx hb dX8_build_53 (by decide) ?_
  obtain ⟨u1, hu1, hf⟩ := zbd hf
  refine zthen_v hA hD hS (zrunV (As := [.int v1, .int (1 : Int32)]) (rest := []) hC hP hD 0 rfl rfl (c_X8_grow l D cI cJ cZ h N mG mH mR mW mS mK mD mN mO mB mM mF v1 (1 : Int32) u1 hu1 H.size) kRX8_209 rfl rfl ⟨by decide, by decide⟩ rfl hl.1 rfl (Nat.le_of_ble_eq_true rfl) dX8_build_54) (fun H locs hP hD hS => ?_)
  refine lv_aload_n hx hb dX8_build_57 rfl (lv_at hl 0 rfl) ?_
  refine va_get (D := D) (ci := 8) (v := .int (tmK.knots u1.2.2.2.1)) (C := RX8) (T := TX8) (N := 56) hx hb hts tb_wsX80 hown hK.1 hP 0 rfl rfl 22 (by decide) (hts _ tb_8_13) (fun _ h9 => h9) rfl dX8_build_58 ?_
  have hu := Option.some.inj hf
  subst hu
  exact z_iret hC hP hD hS dX8_build_61
set_option maxHeartbeats 4000000 in
set_option maxRecDepth 100000 in
theorem t_X8_build_b32 {p : Program} {l : Launch} {e : Env} {s : State} {m : MethodId} {args : Array Value} {below : List Frame} {meth : Method} {c : Code} {A : Nat → Prop} {D : va_G} {cI cJ cZ : ClassId} {h : Nat → Nat} (hC : zCx p s m args meth c A D (zty cI cJ cZ) cX8_build RX8 4 (some .int)) (N : Nat) (mG : tmG) (mM : tmM) (mF : tmF) (u : Int32 × tmH × tmR × tmW × tmS × tmK × tmD × tmN × tmO × tmB) : ∀ (n : Nat) (mH : tmH) (mR : tmR) (mW : tmW) (mS : tmS) (mK : tmK) (mD : tmD) (mN : tmN) (mO : tmO) (mB : tmB) (v1 : Int32) (v3 : Int32) (H : Heap) (locs : List Loc) (ls : Array Slot), va_P D vwCl (zWM cI cJ cZ h mG mH mR mW mS mK mD mN mO mB mM mF) H → va_D A (zWM cI cJ cZ h mG mH mR mW mS mK mD mN mO mB mM mF) → va_S A s.heap H locs → lv_has ls 4 [(0, .ref (h 0)), (1, .int v1), (3, .int v3)] → X8_build_b32 N mG n mH mR mW mS mK mD mN mO mB v1 v3 = some u → W p l e ({ frames := 6, cells := 0, slots := 0, locals := 173 } : Room) s m args below meth c H locs 0 0 (MQ below (zQi D A (zWM cI cJ cZ h mG u.2.1 u.2.2.1 u.2.2.2.1 u.2.2.2.2.1 u.2.2.2.2.2.1 u.2.2.2.2.2.2.1 u.2.2.2.2.2.2.2.1 u.2.2.2.2.2.2.2.2.1 u.2.2.2.2.2.2.2.2.2 mM mF) (u.1)) args s 0 0 A) (F0 m 32 ls []) := by
  intro n
  induction n with
  | zero =>
    intro mH mR mW mS mK mD mN mO mB v1 v3 H locs ls hP hD hS hl hf
    cases hf
  | succ n ih =>
    intro mH mR mW mS mK mD mN mO mB v1 v3 H locs ls hP hD hS hl hf
    obtain ⟨hx, hb, hml, hown, hts, hK, hr, hlocks, hA⟩ := id hC
    rw [X8_build_b32] at hf
    refine lv_iload_n hx hb dX8_build_32 rfl (lv_at hl 2 rfl) ?_
    refine lv_bipush (v := 24) hx hb dX8_build_33 (by decide) ?_
    refine lv_icmp_ge (tgt := 51) hx hb dX8_build_35 (by decide) (fun c2 => ?_) (fun c2 => ?_)
    · replace hf := zif_t hf c2
      exact t_X8_build_b51 hC N mG mM mF u mH mR mW mS mK mD mN mO mB v1 H locs ls hP hD hS (lv_sub hl [0, 1] rfl) hf
    · replace hf := zif_f hf c2
      refine lv_aload_n hx hb dX8_build_38 rfl (lv_at hl 0 rfl) ?_
      refine va_get (D := D) (ci := 8) (v := .ref (h 30)) (C := RX8) (T := TX8) (N := 56) hx hb hts tb_wsX80 hown hK.1 hP 0 rfl rfl 40 (by decide) (hts _ tb_6_12) (fun _ h9 => h9) rfl dX8_build_39 ?_
      refine lv_iload_n hx hb dX8_build_42 rfl (lv_at hl 2 rfl) ?_
      refine lv_iload_n hx hb dX8_build_43 rfl (lv_at hl 2 rfl) ?_
      obtain ⟨h3, hf⟩ := zck_s hf
      refine va_iast hx hb hK.1 hP hD hS 30 0 rfl rfl h3 dX8_build_44 (fun H locs hP hD hS => ?_)
      replace hP : va_P D vwCl (zWM cI cJ cZ h mG mH mR mW mS mK mD mN (tmO.s_orderOf mO (upd (tmO.orderOf mO) v3.toNatClampNeg v3)) mB mM mF) H := hP
      replace hD : va_D A (zWM cI cJ cZ h mG mH mR mW mS mK mD mN (tmO.s_orderOf mO (upd (tmO.orderOf mO) v3.toNatClampNeg v3)) mB mM mF) := hD
      refine lv_iinc (v := (v3 + (1 : Int32))) (lv' := [(3, .int (v3 + (1 : Int32))), (0, .ref (h 0)), (1, .int v1)]) hx hb dX8_build_45 hl (k := 2) rfl rfl (by decide) rfl (fun ls hl => ?_)
      refine lv_goto (tgt := 32) hx hb dX8_build_48 (by decide) ?_
      exact ih mH mR mW mS mK mD mN (tmO.s_orderOf mO (upd (tmO.orderOf mO) v3.toNatClampNeg v3)) mB v1 (v3 + (1 : Int32)) H locs ls hP hD hS (lv_sub hl [1, 2, 0] rfl) hf
set_option maxHeartbeats 4000000 in
set_option maxRecDepth 100000 in
theorem c_X8_build (l : Launch) (D : va_G) (cI cJ cZ : ClassId) (h : Nat → Nat) (N : Nat) (mG : tmG) (mH : tmH) (mR : tmR) (mW : tmW) (mS : tmS) (mK : tmK) (mD : tmD) (mN : tmN) (mO : tmO) (mB : tmB) (mM : tmM) (mF : tmF) (a1 : Int32) (a2 : Int32) (u : Int32 × tmH × tmR × tmW × tmS × tmK × tmD × tmN × tmO × tmB) (hf : X8_build N mG mH mR mW mS mK mD mN mO mB a1 a2 = some u) (sz : Nat) : Met l yX8_build (Cond.code yX8_build cX8_build 4 (some .int) :: tb_L) ({ frames := 6, cells := 0, slots := 0, locals := 173 } : Room) (zPre D (zty cI cJ cZ) (zWM cI cJ cZ h mG mH mR mW mS mK mD mN mO mB mM mF) sz [.ref (h 0), .int a1, .int a2]) (zQi D (va_A (zWM cI cJ cZ h mG mH mR mW mS mK mD mN mO mB mM mF) sz) (zWM cI cJ cZ h mG u.2.1 u.2.2.1 u.2.2.2.1 u.2.2.2.2.1 u.2.2.2.2.2.1 u.2.2.2.2.2.2.1 u.2.2.2.2.2.2.2.1 u.2.2.2.2.2.2.2.2.1 u.2.2.2.2.2.2.2.2.2 mM mF) (u.1)) 0 0 (va_A (zWM cI cJ cZ h mG mH mR mW mS mK mD mN mO mB mM mF) sz) := by
  refine zMet (Qc := fun A => zQi D A (zWM cI cJ cZ h mG u.2.1 u.2.2.1 u.2.2.2.1 u.2.2.2.2.1 u.2.2.2.2.2.1 u.2.2.2.2.2.2.1 u.2.2.2.2.2.2.2.1 u.2.2.2.2.2.2.2.2.1 u.2.2.2.2.2.2.2.2.2 mM mF) (u.1)) (by decide) rfl (Nat.le_of_ble_eq_true rfl) ?_
  intro p e s m args below meth c A ls hC _ hP hD hS hl
  replace hl : lv_has ls 4 [(0, .ref (h 0)), (1, .int a1), (2, .int a2)] := hl
  obtain ⟨hx, hb, hml, hown, hts, hK, hr, hlocks, hA⟩ := id hC
  unfold X8_build at hf
  obtain ⟨H, hH⟩ : ∃ H, H = s.heap := ⟨_, rfl⟩
  rw [← hH] at hP
  replace hS : va_S A s.heap H [] := by rw [hH]; exact hS
  show W p l e _ s m args below meth c s.heap [] 0 0 _ _
  rw [← hH]
  clear hH
  obtain ⟨locs, hlo⟩ : ∃ x : List Loc, x = [] := ⟨_, rfl⟩
  rw [← hlo] at hS ⊢
  clear hlo
  refine lv_aload_n hx hb dX8_build_0 rfl (lv_at hl 0 rfl) ?_
  refine lv_iconst (v := 0) hx hb dX8_build_1 (by decide) ?_
  refine va_put (D := D) (ci := 8) (v := .int (0 : Int32)) (ty := .int) (C := RX8) (T := TX8) (N := 56) hx hb hts tb_wsX80 tyX8 tyX8_ok nmX8 hown hK.1 hP hD hS 0 rfl rfl 5 (by decide) (hts _ tb_8_3) (fun _ h9 => h9) rfl (by decide +kernel) rfl rfl (Nat.le_of_ble_eq_true rfl) dX8_build_2 (fun H locs hP hD hS => ?_)
  replace hP : va_P D vwCl (zWM cI cJ cZ h mG (tmH.s_thrown mH (0 : Int32)) mR mW mS mK mD mN mO mB mM mF) H := hP
  replace hD : va_D A (zWM cI cJ cZ h mG (tmH.s_thrown mH (0 : Int32)) mR mW mS mK mD mN mO mB mM mF) := hD
  refine lv_iload_n hx hb dX8_build_5 rfl (lv_at hl 1 rfl) ?_
  refine lv_if_lt (tgt := 14) hx hb dX8_build_6 (by decide) (fun c4 => ?_) (fun c4 => ?_)
  · replace hf := zif_t hf c4
    refine lv_iconst (v := -1) hx hb dX8_build_14 (by decide) ?_
    have hu := Option.some.inj hf
    subst hu
    exact z_iret hC hP hD hS dX8_build_15
  · replace hf := zif_f hf c4
    refine lv_iload_n hx hb dX8_build_9 rfl (lv_at hl 1 rfl) ?_
    refine lv_iconst (v := 3) hx hb dX8_build_10 (by decide) ?_
    refine lv_icmp_le (tgt := 16) hx hb dX8_build_11 (by decide) (fun c5 => ?_) (fun c5 => ?_)
    · replace hf := zif_t hf c5
      refine lv_aload_n hx hb dX8_build_16 rfl (lv_at hl 0 rfl) ?_
      obtain ⟨u6, hu6, hf⟩ := zbd hf
      refine zthen_v hA hD hS (zrunV (As := []) (rest := []) hC hP hD 0 rfl rfl (c_X8_noTree l D cI cJ cZ h  mG (tmH.s_thrown mH (0 : Int32)) mR mW mS mK mD mN mO mB mM mF  u6 hu6 H.size) kRX8_134 rfl rfl ⟨by decide, by decide⟩ rfl hl.1 rfl (Nat.le_of_ble_eq_true rfl) dX8_build_17) (fun H locs hP hD hS => ?_)
      refine lv_aload_n hx hb dX8_build_20 rfl (lv_at hl 0 rfl) ?_
      refine lv_iconst (v := 1) hx hb dX8_build_21 (by decide) ?_
      refine va_put (D := D) (ci := 8) (v := .int (1 : Int32)) (ty := .boolean) (C := RX8) (T := TX8) (N := 56) hx hb hts tb_wsX80 tyX8 tyX8_ok nmX8 hown hK.1 hP hD hS 0 rfl rfl 21 (by decide) (hts _ tb_8_12) (fun _ h9 => h9) rfl (by decide +kernel) rfl rfl (Nat.le_of_ble_eq_true rfl) dX8_build_22 (fun H locs hP hD hS => ?_)
      replace hP : va_P D vwCl (zWM cI cJ cZ h mG (tmH.s_thrown mH (0 : Int32)) mR mW mS (tmK.s_isTree u6.1 (1 : Int32)) mD mN mO u6.2 mM mF) H := hP
      replace hD : va_D A (zWM cI cJ cZ h mG (tmH.s_thrown mH (0 : Int32)) mR mW mS (tmK.s_isTree u6.1 (1 : Int32)) mD mN mO u6.2 mM mF) := hD
      refine lv_aload_n hx hb dX8_build_25 rfl (lv_at hl 0 rfl) ?_
      refine lv_iload_n hx hb dX8_build_26 rfl (lv_at hl 2 rfl) ?_
      refine va_put (D := D) (ci := 8) (v := .int a2) (ty := .int) (C := RX8) (T := TX8) (N := 56) hx hb hts tb_wsX80 tyX8 tyX8_ok nmX8 hown hK.1 hP hD hS 0 rfl rfl 38 (by decide) (hts _ tb_14_14) (fun _ h9 => h9) rfl (by decide +kernel) rfl rfl (Nat.le_of_ble_eq_true rfl) dX8_build_27 (fun H locs hP hD hS => ?_)
      replace hP : va_P D vwCl (zWM cI cJ cZ h mG (tmH.s_thrown mH (0 : Int32)) mR mW mS (tmK.s_isTree u6.1 (1 : Int32)) (tmD.s_draw mD a2) mN mO u6.2 mM mF) H := hP
      replace hD : va_D A (zWM cI cJ cZ h mG (tmH.s_thrown mH (0 : Int32)) mR mW mS (tmK.s_isTree u6.1 (1 : Int32)) (tmD.s_draw mD a2) mN mO u6.2 mM mF) := hD
      refine lv_iconst (v := 0) hx hb dX8_build_30 (by decide) ?_
      refine lv_istore_n (lv' := [(3, .int (0 : Int32)), (0, .ref (h 0)), (1, .int a1), (2, .int a2)]) hx hb dX8_build_31 rfl hl (by decide) rfl (fun ls hl => ?_)
      exact t_X8_build_b32 hC N mG mM mF u N (tmH.s_thrown mH (0 : Int32)) mR mW mS (tmK.s_isTree u6.1 (1 : Int32)) (tmD.s_draw mD a2) mN mO u6.2 a1 (0 : Int32) H locs ls hP hD hS (lv_sub hl [1, 2, 0] rfl) hf
    · replace hf := zif_f hf c5
      refine lv_iconst (v := -1) hx hb dX8_build_14 (by decide) ?_
      have hu := Option.some.inj hf
      subst hu
      exact z_iret hC hP hD hS dX8_build_15
set_option maxHeartbeats 4000000 in
set_option maxRecDepth 100000 in
theorem t_X8_deepest_b54 {p : Program} {l : Launch} {e : Env} {s : State} {m : MethodId} {args : Array Value} {below : List Frame} {meth : Method} {c : Code} {A : Nat → Prop} {D : va_G} {cI cJ cZ : ClassId} {h : Nat → Nat} (hC : zCx p s m args meth c A D (zty cI cJ cZ) cX8_deepest RX8 5 (some .int)) (N : Nat) (mG : tmG) (mH : tmH) (mR : tmR) (mW : tmW) (mS : tmS) (mK : tmK) (mD : tmD) (mN : tmN) (mO : tmO) (mB : tmB) (mM : tmM) (mF : tmF) (u : Int32) : ∀ (v1 : Int32) (H : Heap) (locs : List Loc) (ls : Array Slot), va_P D vwCl (zWM cI cJ cZ h mG mH mR mW mS mK mD mN mO mB mM mF) H → va_D A (zWM cI cJ cZ h mG mH mR mW mS mK mD mN mO mB mM mF) → va_S A s.heap H locs → lv_has ls 5 [(1, .int v1)] → X8_deepest_b54 N mK v1 = some u → W p l e ({ frames := 0, cells := 0, slots := 0, locals := 0 } : Room) s m args below meth c H locs 0 0 (MQ below (zQi D A (zWM cI cJ cZ h mG mH mR mW mS mK mD mN mO mB mM mF) (u)) args s 0 0 A) (F0 m 54 ls []) := by
  intro v1 H locs ls hP hD hS hl hf
  obtain ⟨hx, hb, hml, hown, hts, hK, hr, hlocks, hA⟩ := id hC
  unfold X8_deepest_b54 at hf
  refine lv_iload_n hx hb dX8_deepest_54 rfl (lv_at hl 0 rfl) ?_
  have hu := Option.some.inj hf
  subst hu
  exact z_iret hC hP hD hS dX8_deepest_55
set_option maxHeartbeats 4000000 in
set_option maxRecDepth 100000 in
theorem t_X8_deepest_b47 {p : Program} {l : Launch} {e : Env} {s : State} {m : MethodId} {args : Array Value} {below : List Frame} {meth : Method} {c : Code} {A : Nat → Prop} {D : va_G} {cI cJ cZ : ClassId} {h : Nat → Nat} (hC : zCx p s m args meth c A D (zty cI cJ cZ) cX8_deepest RX8 5 (some .int)) (N : Nat) {mG : tmG} {mH : tmH} {mR : tmR} {mW : tmW} {mS : tmS} {mK : tmK} {mD : tmD} {mN : tmN} {mO : tmO} {mB : tmB} {mM : tmM} {mF : tmF} {u : Int32} (k4 : Int32 → Int32 → Option (Int32)) (hk4 : ∀ (v1 : Int32) (v2 : Int32) (H : Heap) (locs : List Loc) (ls : Array Slot), va_P D vwCl (zWM cI cJ cZ h mG mH mR mW mS mK mD mN mO mB mM mF) H → va_D A (zWM cI cJ cZ h mG mH mR mW mS mK mD mN mO mB mM mF) → va_S A s.heap H locs → lv_has ls 5 [(0, .ref (h 0)), (1, .int v1), (2, .int v2)] → k4 v1 v2 = some u → W p l e ({ frames := 0, cells := 0, slots := 0, locals := 0 } : Room) s m args below meth c H locs 0 0 (MQ below (zQi D A (zWM cI cJ cZ h mG mH mR mW mS mK mD mN mO mB mM mF) (u)) args s 0 0 A) (F0 m 4 ls [])) : ∀ (v2 : Int32) (s0 : Int32) (H : Heap) (locs : List Loc) (ls : Array Slot), va_P D vwCl (zWM cI cJ cZ h mG mH mR mW mS mK mD mN mO mB mM mF) H → va_D A (zWM cI cJ cZ h mG mH mR mW mS mK mD mN mO mB mM mF) → va_S A s.heap H locs → lv_has ls 5 [(0, .ref (h 0)), (2, .int v2)] → X8_deepest_b47 N k4 mK v2 s0 = some u → W p l e ({ frames := 0, cells := 0, slots := 0, locals := 0 } : Room) s m args below meth c H locs 0 0 (MQ below (zQi D A (zWM cI cJ cZ h mG mH mR mW mS mK mD mN mO mB mM mF) (u)) args s 0 0 A) (F0 m 47 ls [.int s0]) := by
  intro v2 s0 H locs ls hP hD hS hl hf
  obtain ⟨hx, hb, hml, hown, hts, hK, hr, hlocks, hA⟩ := id hC
  unfold X8_deepest_b47 at hf
  refine lv_istore_n (lv' := [(1, .int s0), (0, .ref (h 0)), (2, .int v2)]) hx hb dX8_deepest_47 rfl hl (by decide) rfl (fun ls hl => ?_)
  refine lv_iinc (v := (v2 + (1 : Int32))) (lv' := [(2, .int (v2 + (1 : Int32))), (1, .int s0), (0, .ref (h 0))]) hx hb dX8_deepest_48 hl (k := 2) rfl rfl (by decide) rfl (fun ls hl => ?_)
  refine lv_goto (tgt := 4) hx hb dX8_deepest_51 (by decide) ?_
  exact hk4 s0 (v2 + (1 : Int32)) H locs ls hP hD hS (lv_sub hl [2, 1, 0] rfl) hf
set_option maxHeartbeats 4000000 in
set_option maxRecDepth 100000 in
theorem t_X8_deepest_b37 {p : Program} {l : Launch} {e : Env} {s : State} {m : MethodId} {args : Array Value} {below : List Frame} {meth : Method} {c : Code} {A : Nat → Prop} {D : va_G} {cI cJ cZ : ClassId} {h : Nat → Nat} (hC : zCx p s m args meth c A D (zty cI cJ cZ) cX8_deepest RX8 5 (some .int)) (N : Nat) {mG : tmG} {mH : tmH} {mR : tmR} {mW : tmW} {mS : tmS} {mK : tmK} {mD : tmD} {mN : tmN} {mO : tmO} {mB : tmB} {mM : tmM} {mF : tmF} {u : Int32} (k4 : Int32 → Int32 → Option (Int32)) (hk4 : ∀ (v1 : Int32) (v2 : Int32) (H : Heap) (locs : List Loc) (ls : Array Slot), va_P D vwCl (zWM cI cJ cZ h mG mH mR mW mS mK mD mN mO mB mM mF) H → va_D A (zWM cI cJ cZ h mG mH mR mW mS mK mD mN mO mB mM mF) → va_S A s.heap H locs → lv_has ls 5 [(0, .ref (h 0)), (1, .int v1), (2, .int v2)] → k4 v1 v2 = some u → W p l e ({ frames := 0, cells := 0, slots := 0, locals := 0 } : Room) s m args below meth c H locs 0 0 (MQ below (zQi D A (zWM cI cJ cZ h mG mH mR mW mS mK mD mN mO mB mM mF) (u)) args s 0 0 A) (F0 m 4 ls [])) : ∀ (v1 : Int32) (v2 : Int32) (v3 : Int32) (H : Heap) (locs : List Loc) (ls : Array Slot), va_P D vwCl (zWM cI cJ cZ h mG mH mR mW mS mK mD mN mO mB mM mF) H → va_D A (zWM cI cJ cZ h mG mH mR mW mS mK mD mN mO mB mM mF) → va_S A s.heap H locs → lv_has ls 5 [(0, .ref (h 0)), (1, .int v1), (2, .int v2), (3, .int v3)] → X8_deepest_b37 N k4 mK v1 v2 v3 = some u → W p l e ({ frames := 0, cells := 0, slots := 0, locals := 0 } : Room) s m args below meth c H locs 0 0 (MQ below (zQi D A (zWM cI cJ cZ h mG mH mR mW mS mK mD mN mO mB mM mF) (u)) args s 0 0 A) (F0 m 37 ls []) := by
  intro v1 v2 v3 H locs ls hP hD hS hl hf
  obtain ⟨hx, hb, hml, hown, hts, hK, hr, hlocks, hA⟩ := id hC
  unfold X8_deepest_b37 at hf
  refine lv_iload_n hx hb dX8_deepest_37 rfl (lv_at hl 3 rfl) ?_
  refine lv_iload_n hx hb dX8_deepest_38 rfl (lv_at hl 1 rfl) ?_
  refine lv_icmp_le (tgt := 46) hx hb dX8_deepest_39 (by decide) (fun c1 => ?_) (fun c1 => ?_)
  · replace hf := zif_t hf c1
    refine lv_iload_n hx hb dX8_deepest_46 rfl (lv_at hl 1 rfl) ?_
    exact t_X8_deepest_b47 hC N k4 hk4  v2 v1 H locs ls hP hD hS (lv_sub hl [0, 2] rfl) hf
  · replace hf := zif_f hf c1
    refine lv_iload_n hx hb dX8_deepest_42 rfl (lv_at hl 3 rfl) ?_
    refine lv_goto (tgt := 47) hx hb dX8_deepest_43 (by decide) ?_
    exact t_X8_deepest_b47 hC N k4 hk4  v2 v3 H locs ls hP hD hS (lv_sub hl [0, 2] rfl) hf
set_option maxHeartbeats 4000000 in
set_option maxRecDepth 100000 in
theorem t_X8_deepest_b17 {p : Program} {l : Launch} {e : Env} {s : State} {m : MethodId} {args : Array Value} {below : List Frame} {meth : Method} {c : Code} {A : Nat → Prop} {D : va_G} {cI cJ cZ : ClassId} {h : Nat → Nat} (hC : zCx p s m args meth c A D (zty cI cJ cZ) cX8_deepest RX8 5 (some .int)) (N : Nat) {mG : tmG} {mH : tmH} {mR : tmR} {mW : tmW} {mS : tmS} {mK : tmK} {mD : tmD} {mN : tmN} {mO : tmO} {mB : tmB} {mM : tmM} {mF : tmF} {u : Int32} (k4 : Int32 → Int32 → Option (Int32)) (hk4 : ∀ (v1 : Int32) (v2 : Int32) (H : Heap) (locs : List Loc) (ls : Array Slot), va_P D vwCl (zWM cI cJ cZ h mG mH mR mW mS mK mD mN mO mB mM mF) H → va_D A (zWM cI cJ cZ h mG mH mR mW mS mK mD mN mO mB mM mF) → va_S A s.heap H locs → lv_has ls 5 [(0, .ref (h 0)), (1, .int v1), (2, .int v2)] → k4 v1 v2 = some u → W p l e ({ frames := 0, cells := 0, slots := 0, locals := 0 } : Room) s m args below meth c H locs 0 0 (MQ below (zQi D A (zWM cI cJ cZ h mG mH mR mW mS mK mD mN mO mB mM mF) (u)) args s 0 0 A) (F0 m 4 ls [])) : ∀ (n : Nat) (v1 : Int32) (v2 : Int32) (v3 : Int32) (v4 : Int32) (H : Heap) (locs : List Loc) (ls : Array Slot), va_P D vwCl (zWM cI cJ cZ h mG mH mR mW mS mK mD mN mO mB mM mF) H → va_D A (zWM cI cJ cZ h mG mH mR mW mS mK mD mN mO mB mM mF) → va_S A s.heap H locs → lv_has ls 5 [(0, .ref (h 0)), (1, .int v1), (2, .int v2), (3, .int v3), (4, .int v4)] → X8_deepest_b17 N k4 mK n v1 v2 v3 v4 = some u → W p l e ({ frames := 0, cells := 0, slots := 0, locals := 0 } : Room) s m args below meth c H locs 0 0 (MQ below (zQi D A (zWM cI cJ cZ h mG mH mR mW mS mK mD mN mO mB mM mF) (u)) args s 0 0 A) (F0 m 17 ls []) := by
  intro n
  induction n with
  | zero =>
    intro v1 v2 v3 v4 H locs ls hP hD hS hl hf
    cases hf
  | succ n ih =>
    intro v1 v2 v3 v4 H locs ls hP hD hS hl hf
    obtain ⟨hx, hb, hml, hown, hts, hK, hr, hlocks, hA⟩ := id hC
    rw [X8_deepest_b17] at hf
    refine lv_iload hx hb dX8_deepest_17 (lv_at hl 4 rfl) ?_
    refine lv_if_lt (tgt := 37) hx hb dX8_deepest_19 (by decide) (fun c2 => ?_) (fun c2 => ?_)
    · replace hf := zif_t hf c2
      exact t_X8_deepest_b37 hC N k4 hk4  v1 v2 v3 H locs ls hP hD hS (lv_sub hl [0, 1, 2, 3] rfl) hf
    · replace hf := zif_f hf c2
      refine lv_iinc (v := (v3 + (1 : Int32))) (lv' := [(3, .int (v3 + (1 : Int32))), (0, .ref (h 0)), (1, .int v1), (2, .int v2), (4, .int v4)]) hx hb dX8_deepest_22 hl (k := 3) rfl rfl (by decide) rfl (fun ls hl => ?_)
      refine lv_aload_n hx hb dX8_deepest_25 rfl (lv_at hl 1 rfl) ?_
      refine va_get (D := D) (ci := 8) (v := .ref (h 23)) (C := RX8) (T := TX8) (N := 56) hx hb hts tb_wsX80 hown hK.1 hP 0 rfl rfl 30 (by decide) (hts _ tb_6_5) (fun _ h9 => h9) rfl dX8_deepest_26 ?_
      refine lv_iload hx hb dX8_deepest_29 (lv_at hl 4 rfl) ?_
      obtain ⟨h3, hf⟩ := zck_s hf
      refine va_iald hx hb hK.1 hP 23 0 rfl rfl h3 dX8_deepest_31 ?_
      refine lv_topi (fun x4 ex4 => ?_)
      replace hf := zl_n ex4 hf
      refine lv_istore (lv' := [(4, .int x4), (3, .int (v3 + (1 : Int32))), (0, .ref (h 0)), (1, .int v1), (2, .int v2)]) hx hb dX8_deepest_32 hl (by decide) rfl (fun ls hl => ?_)
      refine lv_goto (tgt := 17) hx hb dX8_deepest_34 (by decide) ?_
      exact ih v1 v2 (v3 + (1 : Int32)) x4 H locs ls hP hD hS (lv_sub hl [2, 3, 4, 1, 0] rfl) hf
set_option maxHeartbeats 4000000 in
set_option maxRecDepth 100000 in
theorem t_X8_deepest_b4 {p : Program} {l : Launch} {e : Env} {s : State} {m : MethodId} {args : Array Value} {below : List Frame} {meth : Method} {c : Code} {A : Nat → Prop} {D : va_G} {cI cJ cZ : ClassId} {h : Nat → Nat} (hC : zCx p s m args meth c A D (zty cI cJ cZ) cX8_deepest RX8 5 (some .int)) (N : Nat) (mG : tmG) (mH : tmH) (mR : tmR) (mW : tmW) (mS : tmS) (mK : tmK) (mD : tmD) (mN : tmN) (mO : tmO) (mB : tmB) (mM : tmM) (mF : tmF) (u : Int32) : ∀ (n : Nat) (v1 : Int32) (v2 : Int32) (H : Heap) (locs : List Loc) (ls : Array Slot), va_P D vwCl (zWM cI cJ cZ h mG mH mR mW mS mK mD mN mO mB mM mF) H → va_D A (zWM cI cJ cZ h mG mH mR mW mS mK mD mN mO mB mM mF) → va_S A s.heap H locs → lv_has ls 5 [(0, .ref (h 0)), (1, .int v1), (2, .int v2)] → X8_deepest_b4 N mK n v1 v2 = some u → W p l e ({ frames := 0, cells := 0, slots := 0, locals := 0 } : Room) s m args below meth c H locs 0 0 (MQ below (zQi D A (zWM cI cJ cZ h mG mH mR mW mS mK mD mN mO mB mM mF) (u)) args s 0 0 A) (F0 m 4 ls []) := by
  intro n
  induction n with
  | zero =>
    intro v1 v2 H locs ls hP hD hS hl hf
    cases hf
  | succ n ih =>
    intro v1 v2 H locs ls hP hD hS hl hf
    obtain ⟨hx, hb, hml, hown, hts, hK, hr, hlocks, hA⟩ := id hC
    rw [X8_deepest_b4] at hf
    refine lv_iload_n hx hb dX8_deepest_4 rfl (lv_at hl 2 rfl) ?_
    refine lv_aload_n hx hb dX8_deepest_5 rfl (lv_at hl 0 rfl) ?_
    refine va_get (D := D) (ci := 8) (v := .int (tmK.knots mK)) (C := RX8) (T := TX8) (N := 56) hx hb hts tb_wsX80 hown hK.1 hP 0 rfl rfl 22 (by decide) (hts _ tb_8_13) (fun _ h9 => h9) rfl dX8_deepest_6 ?_
    refine lv_icmp_ge (tgt := 54) hx hb dX8_deepest_9 (by decide) (fun c5 => ?_) (fun c5 => ?_)
    · replace hf := zif_t hf c5
      exact t_X8_deepest_b54 hC N mG mH mR mW mS mK mD mN mO mB mM mF u v1 H locs ls hP hD hS (lv_sub hl [1] rfl) hf
    · replace hf := zif_f hf c5
      refine lv_iconst (v := 0) hx hb dX8_deepest_12 (by decide) ?_
      refine lv_istore_n (lv' := [(3, .int (0 : Int32)), (0, .ref (h 0)), (1, .int v1), (2, .int v2)]) hx hb dX8_deepest_13 rfl hl (by decide) rfl (fun ls hl => ?_)
      refine lv_iload_n hx hb dX8_deepest_14 rfl (lv_at hl 3 rfl) ?_
      refine lv_istore (lv' := [(4, .int v2), (3, .int (0 : Int32)), (0, .ref (h 0)), (1, .int v1), (2, .int v2)]) hx hb dX8_deepest_15 hl (by decide) rfl (fun ls hl => ?_)
      exact t_X8_deepest_b17 hC N (X8_deepest_b4 N mK n) ih  N v1 v2 (0 : Int32) v2 H locs ls hP hD hS (lv_sub hl [2, 3, 4, 1, 0] rfl) hf
set_option maxHeartbeats 4000000 in
set_option maxRecDepth 100000 in
theorem c_X8_deepest (l : Launch) (D : va_G) (cI cJ cZ : ClassId) (h : Nat → Nat) (N : Nat) (mG : tmG) (mH : tmH) (mR : tmR) (mW : tmW) (mS : tmS) (mK : tmK) (mD : tmD) (mN : tmN) (mO : tmO) (mB : tmB) (mM : tmM) (mF : tmF)  (u : Int32) (hf : X8_deepest N mK = some u) (sz : Nat) : Met l yX8_deepest (Cond.code yX8_deepest cX8_deepest 5 (some .int) :: tb_L) ({ frames := 0, cells := 0, slots := 0, locals := 0 } : Room) (zPre D (zty cI cJ cZ) (zWM cI cJ cZ h mG mH mR mW mS mK mD mN mO mB mM mF) sz [.ref (h 0)]) (zQi D (va_A (zWM cI cJ cZ h mG mH mR mW mS mK mD mN mO mB mM mF) sz) (zWM cI cJ cZ h mG mH mR mW mS mK mD mN mO mB mM mF) (u)) 0 0 (va_A (zWM cI cJ cZ h mG mH mR mW mS mK mD mN mO mB mM mF) sz) := by
  refine zMet (Qc := fun A => zQi D A (zWM cI cJ cZ h mG mH mR mW mS mK mD mN mO mB mM mF) (u)) (by decide) rfl (Nat.le_of_ble_eq_true rfl) ?_
  intro p e s m args below meth c A ls hC _ hP hD hS hl
  replace hl : lv_has ls 5 [(0, .ref (h 0))] := hl
  obtain ⟨hx, hb, hml, hown, hts, hK, hr, hlocks, hA⟩ := id hC
  unfold X8_deepest at hf
  obtain ⟨H, hH⟩ : ∃ H, H = s.heap := ⟨_, rfl⟩
  rw [← hH] at hP
  replace hS : va_S A s.heap H [] := by rw [hH]; exact hS
  show W p l e _ s m args below meth c s.heap [] 0 0 _ _
  rw [← hH]
  clear hH
  obtain ⟨locs, hlo⟩ : ∃ x : List Loc, x = [] := ⟨_, rfl⟩
  rw [← hlo] at hS ⊢
  clear hlo
  refine lv_iconst (v := 0) hx hb dX8_deepest_0 (by decide) ?_
  refine lv_istore_n (lv' := [(1, .int (0 : Int32)), (0, .ref (h 0))]) hx hb dX8_deepest_1 rfl hl (by decide) rfl (fun ls hl => ?_)
  refine lv_iconst (v := 0) hx hb dX8_deepest_2 (by decide) ?_
  refine lv_istore_n (lv' := [(2, .int (0 : Int32)), (1, .int (0 : Int32)), (0, .ref (h 0))]) hx hb dX8_deepest_3 rfl hl (by decide) rfl (fun ls hl => ?_)
  exact t_X8_deepest_b4 hC N mG mH mR mW mS mK mD mN mO mB mM mF u N (0 : Int32) (0 : Int32) H locs ls hP hD hS (lv_sub hl [2, 1, 0] rfl) hf
