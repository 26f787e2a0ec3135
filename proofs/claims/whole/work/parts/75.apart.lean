/-! Worlds side by side -/
section ZJ
variable {A : Nat → Prop} {D : va_G} {cl : List vw_C} {wa wb wc wr w1 : va_W} {H H1 : Heap}
theorem zP_l (h : va_P D cl (wa ++ wb) H) : va_P D cl wa H := fun k q hk => h k q (by rw [List.getElem?_append_left (List.getElem?_eq_some_iff.mp hk).1]; exact hk)
theorem zP_r (h : va_P D cl (wa ++ wb) H) : va_P D cl wb H := fun k q hk => h (wa.length + k) q (by rw [List.getElem?_append_right (by omega), Nat.add_sub_cancel_left]; exact hk)
theorem zP_sw (h : va_P D cl (wa ++ wb) H) : va_P D cl (wb ++ wa) H := (zP_r h).app (zP_l h)
theorem zD_l (h : va_D A (wa ++ wb)) : va_D A wa := by
  have f : ∀ {k : Nat} {q : Nat × va_E}, wa[k]? = some q → (wa ++ wb)[k]? = some q := fun hk => by rw [List.getElem?_append_left (List.getElem?_eq_some_iff.mp hk).1]; exact hk
  exact ⟨fun i j p q hi hj e => h.1 i j p q (f hi) (f hj) e, fun k q hk => h.2 k q (f hk)⟩
theorem zD_r (h : va_D A (wa ++ wb)) : va_D A wb := by
  have f : ∀ {k : Nat} {q : Nat × va_E}, wb[k]? = some q → (wa ++ wb)[wa.length + k]? = some q := fun hk => by rw [List.getElem?_append_right (by omega), Nat.add_sub_cancel_left]; exact hk
  exact ⟨fun i j p q hi hj e => by have := h.1 _ _ p q (f hi) (f hj) e; omega, fun k q hk => h.2 _ q (f hk)⟩
/-- cells of the one are none of the other's -/
theorem zD_x (h : va_D A (wa ++ wb)) {i j : Nat} {p q : Nat × va_E} (hi : wa[i]? = some p) (hj : wb[j]? = some q) : p.1 ≠ q.1 := by
  intro e
  have li := (List.getElem?_eq_some_iff.mp hi).1
  have h1 : (wa ++ wb)[i]? = some p := by rw [List.getElem?_append_left li]; exact hi
  have h2 : (wa ++ wb)[wa.length + j]? = some q := by rw [List.getElem?_append_right (by omega), Nat.add_sub_cancel_left]; exact hj
  have := h.1 _ _ p q h1 h2 e
  omega
theorem zD_mk (ha : va_D A wa) (hb : va_D A wb) (hx : ∀ (i j : Nat) (p q : Nat × va_E), wa[i]? = some p → wb[j]? = some q → p.1 ≠ q.1) : va_D A (wa ++ wb) := by
  have sp : ∀ {k : Nat} {q : Nat × va_E}, (wa ++ wb)[k]? = some q → (k < wa.length ∧ wa[k]? = some q) ∨ (wa.length ≤ k ∧ wb[k - wa.length]? = some q) := fun {k q} hk => by
    by_cases l : k < wa.length
    · rw [List.getElem?_append_left l] at hk; exact Or.inl ⟨l, hk⟩
    · rw [List.getElem?_append_right (by omega)] at hk; exact Or.inr ⟨by omega, hk⟩
  refine ⟨fun i j p q hi hj e => ?_, fun k q hk => ?_⟩
  · rcases sp hi with ⟨l1, h1⟩ | ⟨l1, h1⟩ <;> rcases sp hj with ⟨l2, h2⟩ | ⟨l2, h2⟩
    · exact ha.1 i j p q h1 h2 e
    · exact (hx _ _ p q h1 h2 e).elim
    · exact (hx _ _ q p h2 h1 e.symm).elim
    · have := hb.1 _ _ p q h1 h2 e
      omega
  · rcases sp hk with ⟨-, h1⟩ | ⟨-, h1⟩
    · exact ha.2 _ q h1
    · exact hb.2 _ q h1
theorem zD_sw (h : va_D A (wa ++ wb)) : va_D A (wb ++ wa) := zD_mk (zD_r h) (zD_l h) (fun _ _ _ _ hi hj e => zD_x h hj hi e.symm)
/-- what a call does to its own cells leaves the others -/
theorem zjL (hP : va_P D cl (wc ++ wr) H) (hD : va_D A (wc ++ wr)) (hk : ∀ q : Nat, q < H.size → ¬ va_A wc H.size q → H1[q]? = H[q]?) (hF : ∀ q, va_A wc H.size q → A q) (hP1 : va_P D cl w1 H1) (hD1 : va_D (va_A wc H.size) w1) : va_P D cl (w1 ++ wr) H1 ∧ va_D A (w1 ++ wr) := by
  have hPr := zP_r hP
  have ap : ∀ (k : Nat) (q : Nat × va_E), wr[k]? = some q → q.1 < H.size ∧ ¬ va_A wc H.size q.1 := fun k q hq => by
    have hl := (hPr k q hq).lt
    refine ⟨hl, ?_⟩
    rintro (⟨j, e, hj⟩ | hge)
    · exact zD_x hD hj hq rfl
    · omega
  refine ⟨hP1.app (hPr.kept (fun k q hq => hk q.1 (ap k q hq).1 (ap k q hq).2)), zD_mk (hD1.weaken (fun _ q _ h => hF q.1 h)) (zD_r hD) (fun i j p q hi hj e => ?_)⟩
  exact (ap j q hj).2 (by rw [← e]; exact hD1.2 i p hi)
theorem zjM (hP : va_P D cl (wa ++ (wc ++ wr)) H) (hD : va_D A (wa ++ (wc ++ wr))) (hk : ∀ q : Nat, q < H.size → ¬ va_A wc H.size q → H1[q]? = H[q]?) (hF : ∀ q, va_A wc H.size q → A q) (hP1 : va_P D cl w1 H1) (hD1 : va_D (va_A wc H.size) w1) : va_P D cl (wa ++ (w1 ++ wr)) H1 ∧ va_D A (wa ++ (w1 ++ wr)) := by
  have p1 := zP_sw hP
  have d1 := zD_sw hD
  rw [List.append_assoc] at p1 d1
  obtain ⟨p2, d2⟩ := zjL p1 d1 hk hF hP1 hD1
  rw [← List.append_assoc] at p2 d2
  exact ⟨zP_sw p2, zD_sw d2⟩
theorem zjR (hP : va_P D cl (wa ++ wc) H) (hD : va_D A (wa ++ wc)) (hk : ∀ q : Nat, q < H.size → ¬ va_A wc H.size q → H1[q]? = H[q]?) (hF : ∀ q, va_A wc H.size q → A q) (hP1 : va_P D cl w1 H1) (hD1 : va_D (va_A wc H.size) w1) : va_P D cl (wa ++ w1) H1 ∧ va_D A (wa ++ w1) := by
  obtain ⟨p2, d2⟩ := zjL (zP_sw hP) (zD_sw hD) hk hF hP1 hD1
  exact ⟨zP_sw p2, zD_sw d2⟩
end ZJ
section ZK
variable {p : Program} {l : Launch} {e : Env} {R : Room} {s : State} {m : MethodId} {args : Array Value} {below : List Frame} {meth : Method} {c : Code} {H : Heap} {locs : List Loc} {cells slots : Nat} {Q : State → Prop} {A : Nat → Prop} {D : va_G} {tys : List (ClassId × FieldType)} {cc : ByteArray} {own : String} {nL pc : Nat} {ret : Option FieldType} {ls : Array Slot} {st rest As : List Value} {ws ws' : va_W}
variable {y : MethodName} {cc' : ByteArray} {n' index na : Nat} {ret' : Option FieldType} {rm : Room} {C : String} {T : u_T} {N ci b : Nat} {fs : List Value}
/-- an instance call, with cells made before -/
theorem zrunVc {Qc : Array Value → State → Outcome → State → Prop} (hC : zCx p s m args meth c A D tys cc own nL ret) (hP : va_P D vwCl ws H) (hD : va_D A ws) (q0 : Nat) (he : ws[q0]? = some (b, .inr (ci, fs))) (hcl : vwCl[ci]? = some (C, T, N))
    (hM : Met l y (Cond.code y cc' n' ret' :: tb_L) rm (zPre D tys ws H.size (.ref b :: As)) Qc 0 0 (va_A ws H.size)) (hk : zcw own index C y cc' n' ret' na) (hrc : rm.cells = 0) (hrs : rm.slots = 0) (hR : rm.frames + 1 ≤ R.frames ∧ 8 + (n' + 11) + rm.locals ≤ R.locals)
    (hn : As.length = na) (hsz : ls.size = nL) (hst : st = As.reverse ++ .ref b :: rest) (hW : (rest.map fun v => v.category).sum ≤ 8) (hdg : decode cc pc = .ok (.invokevirtual index, 3)) (hf : cells ≤ R.cells ∧ slots ≤ R.slots) :
    va_Run p l e R s m args below meth c H locs cells slots 0 0 (F0 m pc ls st) rest (Qc (Value.ref b :: As).toArray) (va_A ws H.size) := by
  obtain ⟨hx, hb, hml, hown, hts, hK, -, -, -⟩ := hC
  exact va_runV (As := As) (rest := rest) (g := F0 m pc ls st) ⟨hx, hb, hml, hown, hts⟩ hM (cwV na hts (zgV hk) rfl hrc hrs hk.2.2.2.2.2 hR) ⟨zPre.blind, va_recv hK.1 hP hcl he, fun U hU hWm => ⟨rfl, by rw [hU], by rw [hU]; exact hP, zKK.warm hWm hK, hD.weaken (fun _ _ _ _ => trivial)⟩⟩ rfl hn hsz hst (lv_room hW) hdg ⟨hf.1, hf.2⟩
theorem zthen_ic {wa wr : va_W} {r : Int32} {a : Array Value} (hA : ∀ q, s.heap.size ≤ q → A q) (hP : va_P D vwCl (wa ++ (ws ++ wr)) H) (hD : va_D A (wa ++ (ws ++ wr))) (hS : va_S A s.heap H locs) (hr : va_Run p l e R s m args below meth c H locs cells slots 0 0 (F0 m pc ls st) rest (zQi D (va_A ws H.size) ws' r a) (va_A ws H.size))
    (kk : ∀ (H1 : Heap) (locs1 : List Loc), va_P D vwCl (wa ++ (ws' ++ wr)) H1 → va_D A (wa ++ (ws' ++ wr)) → va_S A s.heap H1 locs1 → W p l e R s m args below meth c H1 locs1 cells slots Q (F0 m (pc + 3) ls (.int r :: rest))) : W p l e R s m args below meth c H locs cells slots Q (F0 m pc ls st) := by
  have hF : ∀ q, va_A ws H.size q → A q := zfree (zD_l (zD_r hD)) hS hA
  refine va_calli hr hS (fun q _ h => hF q h) hF (fun r1 u t H1 locs1 ht hvm hw hB hz1 hk1 hS1 => ?_)
  subst hw
  obtain ⟨hP1, hD1⟩ := hB
  rw [ht] at hP1
  obtain ⟨hP2, hD2⟩ := zjM hP hD hk1 hF hP1 hD1
  exact kk H1 locs1 hP2 hD2 hS1
theorem zthen_lc {wa wr : va_W} {r : Int64} {a : Array Value} (hA : ∀ q, s.heap.size ≤ q → A q) (hP : va_P D vwCl (wa ++ (ws ++ wr)) H) (hD : va_D A (wa ++ (ws ++ wr))) (hS : va_S A s.heap H locs) (hr : va_Run p l e R s m args below meth c H locs cells slots 0 0 (F0 m pc ls st) rest (zQl D (va_A ws H.size) ws' r a) (va_A ws H.size))
    (kk : ∀ (H1 : Heap) (locs1 : List Loc), va_P D vwCl (wa ++ (ws' ++ wr)) H1 → va_D A (wa ++ (ws' ++ wr)) → va_S A s.heap H1 locs1 → W p l e R s m args below meth c H1 locs1 cells slots Q (F0 m (pc + 3) ls (.long r :: rest))) : W p l e R s m args below meth c H locs cells slots Q (F0 m pc ls st) := by
  have hF : ∀ q, va_A ws H.size q → A q := zfree (zD_l (zD_r hD)) hS hA
  refine va_calll hr hS (fun q _ h => hF q h) hF (fun r1 u t H1 locs1 ht hvm hw hB hz1 hk1 hS1 => ?_)
  subst hw
  obtain ⟨hP1, hD1⟩ := hB
  rw [ht] at hP1
  obtain ⟨hP2, hD2⟩ := zjM hP hD hk1 hF hP1 hD1
  exact kk H1 locs1 hP2 hD2 hS1
end ZK
