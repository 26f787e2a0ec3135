/-! ray: what one piece gives -/
def sme (g g' : tmM) : Prop := g'.metPiece = g.metPiece ∧ g'.metUp = g.metUp ∧ g'.metLow = g.metLow ∧ g'.metMany = g.metMany
def rOut (g : tmM) (up low : Int) : tmM := (g.1, g.2.1, g.2.2.1, g.2.2.2.1, lI up, lI low)
theorem rOut_sme (g : tmM) (up low : Int) : sme g (rOut g up low) := ⟨rfl, rfl, rfl, rfl⟩
theorem c_301 {mG : tmG} {mM : tmM} {w a b : Int} (ha : i6 a) (hb : i6 b) : X8_comes_b301 mG mM (lI w) (lI a) (lI b) = (if a < 0 ∧ b < 0 then some (0, rOut mM (max 0 (min a b)) w) else some (1, rOut mM (max 0 (min a b)) w)) := by
  rw [X8_comes_b301]
  have e1 : 0 ≤ lg_cmp (lI a) (lI b) ↔ b ≤ a := cmp_ge ha hb
  by_cases c : b ≤ a
  · rw [if_pos (e1.mpr c), X8_comes_b316, if_pos (e1.mpr c), X8_comes_b333, show min a b = b by omega]
    by_cases c0 : 0 ≤ b
    · rw [if_pos ((cmp_0le hb).mpr c0), X8_comes_b349, if_neg (by rw [cmp_lt0 ha]; omega), if_neg (by omega), show max 0 b = b by omega]
      rfl
    · rw [if_neg (fun q => c0 ((cmp_0le hb).mp q)), X8_comes_b349, show max 0 b = 0 by omega]
      by_cases c1 : a < 0
      · rw [if_pos ((cmp_lt0 ha).mpr c1), if_pos (by omega)]; rfl
      · rw [if_neg (fun q => c1 ((cmp_lt0 ha).mp q)), if_neg (by omega)]; rfl
  · rw [if_neg (fun q => c (e1.mp q)), X8_comes_b316, if_neg (fun q => c (e1.mp q)), X8_comes_b333, show min a b = a by omega]
    by_cases c0 : 0 ≤ a
    · rw [if_pos ((cmp_0le ha).mpr c0), X8_comes_b349, if_neg (by rw [cmp_lt0 hb]; omega), if_neg (by omega), show max 0 a = a by omega]
      rfl
    · rw [if_neg (fun q => c0 ((cmp_0le ha).mp q)), X8_comes_b349, show max 0 a = 0 by omega]
      by_cases c1 : b < 0
      · rw [if_pos ((cmp_lt0 hb).mpr c1), if_pos (by omega)]; rfl
      · rw [if_neg (fun q => c1 ((cmp_lt0 hb).mp q)), if_neg (by omega)]; rfl
def sg1 (w a : Int) : Int := if 0 ≤ w then a else -a
theorem c_277 {mG : tmG} {mM : tmM} {w a b : Int} (hw : -10000 ≤ w ∧ w ≤ 10000) (ha : -10000 ≤ a ∧ a ≤ 10000) (hb : -10000 ≤ b ∧ b ≤ 10000) : X8_comes_b277 mG mM (lI w) (lI a) (lI b) = (if sg1 w a < 0 ∧ sg1 w b < 0 then some (0, rOut mM (max 0 (min (sg1 w a) (sg1 w b))) (sg1 w w)) else some (1, rOut mM (max 0 (min (sg1 w a) (sg1 w b))) (sg1 w w))) := by
  rw [X8_comes_b277]
  unfold sg1
  by_cases c : 0 ≤ w
  · rw [if_pos ((cmp_0le ⟨by omega, by omega⟩).mpr c)]
    simp only [if_pos c]
    exact c_301 ⟨by omega, by omega⟩ ⟨by omega, by omega⟩
  · rw [if_neg (fun q => c ((cmp_0le ⟨by omega, by omega⟩).mp q)), zl, zl, zl, lI_neg, lI_neg, lI_neg]
    simp only [if_neg c]
    exact c_301 ⟨by omega, by omega⟩ ⟨by omega, by omega⟩
/-- lying along the ray: the reference -/
theorem c_col {G : tGe} {mG : tmG} {mM : tmM} (hG : gok G) (hM : rlG G mG) {i : Nat} (hi : i < 24) {x y p q : Int} (hx : inb x) (hy : inb y) (hp : inb p) (hq : inb q) (hK : p * G.V i - q * G.U i = 0) (h3 : sd G i x y = 0) {w a b : Int} (hw : w = if p = 0 then q else p) (ha : a = if p = 0 then G.Y i - y else G.X i - x) (hb : b = if p = 0 then G.Y i - y + G.V i else G.X i - x + G.U i) :
    X8_comes mG mM (iI i) (iI x) (iI y) (iI p) (iI q) = (if sg1 w a < 0 ∧ sg1 w b < 0 then some (0, rOut mM (max 0 (min (sg1 w a) (sg1 w b))) (sg1 w w)) else some (1, rOut mM (max 0 (min (sg1 w a) (sg1 w b))) (sg1 w w))) := by
  obtain ⟨m1, m2, m3, m4⟩ := hM i
  have g := hG i
  have u := hG.u i
  have v := hG.v i
  have ix := i3_in hx
  have iy := i3_in hy
  have ip := i3_in hp
  have iq := i3_in hq
  unfold inb at hx hy hp hq
  have iU : i3 (G.U i) := by unfold i3; omega
  have iV : i3 (G.V i) := by unfold i3; omega
  have iX : i3 (G.X i - x) := by unfold i3; omega
  have iY : i3 (G.Y i - y) := by unfold i3; omega
  have e0 : G.U i * q - G.V i * p = 0 := by grind
  rw [X8_comes, iI_l ix, iI_l iy, e_mside hG hM hi, Option.bind_some, h3, zck_n hi (by decide), zck_n hi (by decide), cl_n (by omega), m3, m4, iI_l iU, iI_l iV, iI_l ip, iI_l iq, lI_mul, lI_mul, lI_sub, e0, zl, if_pos (by decide), if_pos (by decide)]
  by_cases p0 : p = 0
  · rw [if_pos p0] at hw ha hb
    rw [if_pos ((iI_eq0 ip).mpr p0), X8_comes_b219, if_pos ((iI_eq0 ip).mpr p0), zck_n hi (by decide), cl_n (by omega), m2, iI_sub, iI_l iY, X8_comes_b247, if_pos ((iI_eq0 ip).mpr p0), zck_n hi (by decide), cl_n (by omega), m4, iI_l iV, lI_add, ← hb, ← ha, ← hw]
    exact c_277 (by omega) (by omega) (by omega)
  · rw [if_neg p0] at hw ha hb
    have np : ¬ iI p = 0 := fun z => p0 ((iI_eq0 ip).mp z)
    rw [if_neg np, X8_comes_b219, if_neg np, zck_n hi (by decide), cl_n (by omega), m1, iI_sub, iI_l iX, X8_comes_b247, if_neg np, zck_n hi (by decide), cl_n (by omega), m3, iI_l iU, lI_add, ← hb, ← ha, ← hw]
    exact c_277 (by omega) (by omega) (by omega)
/-- coming across: the reference -/
theorem c_across {G : tGe} {mG : tmG} {mM : tmM} (hG : gok G) (hM : rlG G mG) {i : Nat} (hi : i < 24) {x y p q : Int} (hx : inb x) (hy : inb y) (hp : inb p) (hq : inb q) {K c1 : Int} (hK : K = p * G.V i - q * G.U i) (hc : c1 = (G.X i - x) * q - (G.Y i - y) * p) (hK0 : K ≠ 0) :
    X8_comes mG mM (iI i) (iI x) (iI y) (iI p) (iI q) = (if sg1 K (sd G i x y) < 0 ∨ sg1 K c1 < 0 ∨ sg1 K K < sg1 K c1 then some (0, rOut mM (sg1 K (sd G i x y)) (sg1 K K)) else some (1, rOut mM (sg1 K (sd G i x y)) (sg1 K K))) := by
  obtain ⟨m1, m2, m3, m4⟩ := hM i
  have g := hG i
  have u := hG.u i
  have v := hG.v i
  have bd := sd_bd hG i hx hy
  have ix := i3_in hx
  have iy := i3_in hy
  have ip := i3_in hp
  have iq := i3_in hq
  unfold inb at hx hy hp hq
  have iU : i3 (G.U i) := by unfold i3; omega
  have iV : i3 (G.V i) := by unfold i3; omega
  have iX : i3 (G.X i - x) := by unfold i3; omega
  have iY : i3 (G.Y i - y) := by unfold i3; omega
  have iX2 : i3 (G.X i + G.U i - x) := by unfold i3; omega
  have iY2 : i3 (G.Y i + G.V i - y) := by unfold i3; omega
  have b1 := mul_bd (show -1000 ≤ p by omega) (by omega) (show -2000 ≤ G.V i by omega) (by omega)
  have b2 := mul_bd (show -1000 ≤ q by omega) (by omega) (show -2000 ≤ G.U i by omega) (by omega)
  have b3 := mul_bd (show -2000 ≤ G.X i - x by omega) (by omega) (show -1000 ≤ q by omega) (by omega)
  have b4 := mul_bd (show -2000 ≤ G.Y i - y by omega) (by omega) (show -1000 ≤ p by omega) (by omega)
  have e0 : G.U i * q - G.V i * p = -K := by rw [hK]; grind
  have e1 : p * (G.Y i - y) - q * (G.X i - x) = -c1 := by rw [hc]; grind
  have e2 : p * (G.Y i + G.V i - y) - q * (G.X i + G.U i - x) = K - c1 := by rw [hc, hK]; grind
  have kb : -4000000 ≤ K ∧ K ≤ 4000000 := by omega
  have cb : -4000000 ≤ c1 ∧ c1 ≤ 4000000 := by omega
  have em := e_mside hG hM hi x y
  generalize sd G i x y = s at *
  have body : ∀ (up s0 : Int), -9000000 ≤ up ∧ up ≤ 9000000 → X8_comes_b78 mG (tmM.s_comesUp mM (lI up)) (iI i) (iI x) (iI y) (iI p) (iI q) (lI s0) = (if up < 0 ∨ (0 < -c1 ∧ 0 < K - c1) ∨ (-c1 < 0 ∧ K - c1 < 0) then some (0, rOut mM up s0) else some (1, rOut mM up s0)) := by
    intro up s0 hu
    have t1 : i6 up := ⟨by omega, by omega⟩
    have t2 : i6 (-c1) := ⟨by omega, by omega⟩
    have t3 : i6 (K - c1) := ⟨by omega, by omega⟩
    have cu : tmM.comesUp (tmM.s_comesUp mM (lI up)) = lI up := rfl
    simp only [X8_comes_b78, zl, zck_n (n := 24) hi (by decide), cl_n (show i < 2147483648 by omega), m1, m2, m3, m4, iI_add, iI_sub, iI_l ip, iI_l iq, iI_l iX, iI_l iY, iI_l iX2, iI_l iY2, lI_mul, lI_sub, e1, e2, X8_comes_b176, X8_comes_b190, zcb_0, zcb_1, cu, cmp_lt0 t1, cmp_lt0 t2, cmp_0lt t2, cmp_0lt t3, cmp_0le t3]
    by_cases c : up < 0 ∨ (0 < -c1 ∧ 0 < K - c1) ∨ (-c1 < 0 ∧ K - c1 < 0)
    · rw [if_pos c]
      repeat' split
      all_goals first | rfl | (exfalso; omega)
    · rw [if_neg c]
      repeat' split
      all_goals first | rfl | (exfalso; omega)
  rw [X8_comes, iI_l ix, iI_l iy, em, Option.bind_some, zck_n hi (by decide), zck_n hi (by decide), cl_n (by omega), m3, m4, iI_l iU, iI_l iV, iI_l ip, iI_l iq, lI_mul, lI_mul, lI_sub, e0, zl]
  have tk : i6 (-K) := ⟨by omega, by omega⟩
  rw [if_neg (by rw [cmp_eq0 tk]; omega)]
  unfold sg1
  by_cases c : 0 ≤ K
  · rw [if_neg (by rw [cmp_0le tk]; omega), X8_comes_b59, if_neg (by rw [cmp_0le tk]; omega), lI_neg, Int.neg_neg, body s K (by omega)]
    simp only [if_pos c]
    by_cases d : s < 0 ∨ c1 < 0 ∨ K < c1
    · rw [if_pos d, if_pos (by omega)]
    · rw [if_neg d, if_neg (by omega)]
  · rw [if_pos (by rw [cmp_0le tk]; omega), X8_comes_b59, if_pos (by rw [cmp_0le tk]; omega), lI_neg, body (-s) (-K) (by omega)]
    simp only [if_neg c]
    by_cases d : -s < 0 ∨ -c1 < 0 ∨ -K < -c1
    · rw [if_pos d, if_pos (by omega)]
    · rw [if_neg d, if_neg (by omega)]
/-- the class -/
theorem bind_id {α : Type} (x : Option α) : x.bind (fun u => some u) = x := by cases x <;> rfl
theorem d_col {N : Nat} {G : tGe} {gP : tPi} {gM : tMe} (hG : gok G) (hP : rlP G gP) {i : Nat} (hi : i < 24) {x y p q : Int} (hx : inb x) (hy : inb y) (hp : inb p) (hq : inb q) (hK : p * G.V i - q * G.U i = 0) (hc : (G.X i - x) * q - (G.Y i - y) * p = 0) {a b : Int} (ha : a = (G.X i - x) * p + (G.Y i - y) * q) (hb : b = a + G.U i * p + G.V i * q) :
    X1_meetOne N gP gM (iI i) (iI x) (iI y) (iI p) (iI q) = (if a < 0 ∧ b < 0 then some gM else X1_insert N gM (iI i) (iI (max 0 (min a b))) (iI (p * p + q * q))) := by
  obtain ⟨m1, m2, m3, m4⟩ := hP i
  have g := hG i
  have u := hG.u i
  have v := hG.v i
  unfold inb at hx hy hp hq
  have b3 := mul_bd (show -2000 ≤ G.X i - x by omega) (by omega) (show -1000 ≤ p by omega) (by omega)
  have b4 := mul_bd (show -2000 ≤ G.Y i - y by omega) (by omega) (show -1000 ≤ q by omega) (by omega)
  have b5 := mul_bd (show -2000 ≤ G.U i by omega) (by omega) (show -1000 ≤ p by omega) (by omega)
  have b6 := mul_bd (show -2000 ≤ G.V i by omega) (by omega) (show -1000 ≤ q by omega) (by omega)
  have eU : G.X i + G.U i - G.X i = G.U i := by omega
  have eV : G.Y i + G.V i - G.Y i = G.V i := by omega
  have ia : i3 a := ⟨by omega, by omega⟩
  have ib : i3 b := ⟨by omega, by omega⟩
  have mn : (if iI b < iI a then iI b else iI a) = iI (min a b) := by
    by_cases c : b < a
    · rw [if_pos ((iI_lt ib ia).mpr c), show min a b = b by omega]
    · rw [if_neg (fun z => c ((iI_lt ib ia).mp z)), show min a b = a by omega]
  have im : i3 (min a b) := ⟨by omega, by omega⟩
  have mx : (if (0 : Int32) < iI (min a b) then iI (min a b) else (0 : Int32)) = iI (max 0 (min a b)) := by
    by_cases c : 0 < min a b
    · rw [if_pos ((iI_0lt im).mpr c), show max 0 (min a b) = min a b by omega]
    · rw [if_neg (fun z => c ((iI_0lt im).mp z)), show max 0 (min a b) = 0 by omega]; rfl
  have t213 : X1_meetOne_b213 N gP gM (iI i) (iI p) (iI q) (iI a) (iI b) = X1_insert N gM (iI i) (iI (max 0 (min a b))) (iI (p * p + q * q)) := by
    rw [X1_meetOne_b213, mn, mx, iI_mul, iI_mul, iI_add, bind_id]
  have z0 : iI 0 = (0 : Int32) := rfl
  simp only [X1_meetOne, zl, zck_n (n := 24) hi (by decide), cl_n (show i < 2147483648 by omega), m1, m2, m3, m4, iI_sub, eU, eV, e_cross, Option.bind_some, hK, hc, z0, if_true, iI_mul, iI_add, ← ha, ← hb, t213]
  by_cases c : a < 0 ∧ b < 0
  · rw [if_neg (by rw [iI_0le ia]; omega), if_pos ((iI_lt0 ib).mpr c.2), if_pos c]
  · rw [if_neg c]
    by_cases d : 0 ≤ a
    · rw [if_pos ((iI_0le ia).mpr d)]
    · rw [if_neg (by rw [iI_0le ia]; omega), if_neg (by rw [iI_lt0 ib]; omega)]
theorem d_miss {N : Nat} {G : tGe} {gP : tPi} {gM : tMe} (hG : gok G) (hP : rlP G gP) {i : Nat} (hi : i < 24) {x y p q : Int} (hx : inb x) (hy : inb y) (hp : inb p) (hq : inb q) (hK : p * G.V i - q * G.U i = 0) (hc : (G.X i - x) * q - (G.Y i - y) * p ≠ 0) :
    X1_meetOne N gP gM (iI i) (iI x) (iI y) (iI p) (iI q) = some gM := by
  obtain ⟨m1, m2, m3, m4⟩ := hP i
  have g := hG i
  unfold inb at hx hy hp hq
  have b3 := mul_bd (show -2000 ≤ G.X i - x by omega) (by omega) (show -1000 ≤ q by omega) (by omega)
  have b4 := mul_bd (show -2000 ≤ G.Y i - y by omega) (by omega) (show -1000 ≤ p by omega) (by omega)
  have eU : G.X i + G.U i - G.X i = G.U i := by omega
  have eV : G.Y i + G.V i - G.Y i = G.V i := by omega
  have z0 : iI 0 = (0 : Int32) := rfl
  simp only [X1_meetOne, zl, zck_n (n := 24) hi (by decide), cl_n (show i < 2147483648 by omega), m1, m2, m3, m4, iI_sub, eU, eV, e_cross, Option.bind_some, hK, z0, if_true]
  rw [if_neg (by rw [iI_eq0 ⟨by omega, by omega⟩]; exact hc)]
theorem d_across {N : Nat} {G : tGe} {gP : tPi} {gM : tMe} (hG : gok G) (hP : rlP G gP) {i : Nat} (hi : i < 24) {x y p q : Int} (hx : inb x) (hy : inb y) (hp : inb p) (hq : inb q) {K c1 : Int} (hK : K = p * G.V i - q * G.U i) (hc : c1 = (G.X i - x) * q - (G.Y i - y) * p) (hK0 : K ≠ 0) :
    X1_meetOne N gP gM (iI i) (iI x) (iI y) (iI p) (iI q) = (if sg1 K (sd G i x y) < 0 ∨ sg1 K c1 < 0 ∨ sg1 K K < sg1 K c1 then some gM else X1_insert N gM (iI i) (iI (sg1 K (sd G i x y))) (iI (sg1 K K))) := by
  obtain ⟨m1, m2, m3, m4⟩ := hP i
  have g := hG i
  have u := hG.u i
  have v := hG.v i
  have bd := sd_bd hG i hx hy
  unfold inb at hx hy hp hq
  have b1 := mul_bd (show -1000 ≤ p by omega) (by omega) (show -2000 ≤ G.V i by omega) (by omega)
  have b2 := mul_bd (show -1000 ≤ q by omega) (by omega) (show -2000 ≤ G.U i by omega) (by omega)
  have b3 := mul_bd (show -2000 ≤ G.X i - x by omega) (by omega) (show -1000 ≤ q by omega) (by omega)
  have b4 := mul_bd (show -2000 ≤ G.Y i - y by omega) (by omega) (show -1000 ≤ p by omega) (by omega)
  have kb : -4000000 ≤ K ∧ K ≤ 4000000 := by omega
  have cb : -4000000 ≤ c1 ∧ c1 ≤ 4000000 := by omega
  have e3 : (G.X i - x) * G.V i - (G.Y i - y) * G.U i = sd G i x y := by unfold sd; grind
  have eU : G.X i + G.U i - G.X i = G.U i := by omega
  have eV : G.Y i + G.V i - G.Y i = G.V i := by omega
  generalize sd G i x y = s at *
  have iK : i3 K := ⟨by omega, by omega⟩
  have body : ∀ (f : Int) (w1 w2 w3 : Int), w1 = f * s → w2 = f * c1 → w3 = f * K → i3 w1 → i3 w2 → i3 w3 → X1_meetOne_b109 N gP gM (iI i) (iI (G.U i)) (iI (G.V i)) (iI (G.X i - x)) (iI (G.Y i - y)) (iI K) (iI c1) (iI f) = (if w1 < 0 ∨ w2 < 0 ∨ w3 < w2 then some gM else X1_insert N gM (iI i) (iI w1) (iI w3)) := by
    intro f w1 w2 w3 h1 h2 h3 j1 j2 j3
    simp only [X1_meetOne_b109, X1_meetOne_b166, zl, e_cross, Option.bind_some, e3, iI_mul, ← h1, ← h2, ← h3, bind_id, iI_lt0 j1, iI_lt0 j2, iI_lt j3 j2]
    by_cases c : w1 < 0 ∨ w2 < 0 ∨ w3 < w2
    · rw [if_pos c]
      repeat' split
      all_goals first | rfl | (exfalso; omega)
    · rw [if_neg c]
      repeat' split
      all_goals first | rfl | (exfalso; omega)
  simp only [X1_meetOne, zl, zck_n (n := 24) hi (by decide), cl_n (show i < 2147483648 by omega), m1, m2, m3, m4, iI_sub, eU, eV, e_cross, Option.bind_some, ← hK, ← hc]
  rw [if_neg (by rw [iI_eq0 iK]; exact hK0)]
  unfold sg1
  by_cases c : 0 ≤ K
  · rw [if_neg (by rw [iI_le0 iK]; omega)]
    simp only [if_pos c]
    exact body 1 s c1 K (by omega) (by omega) (by omega) ⟨by omega, by omega⟩ ⟨by omega, by omega⟩ ⟨by omega, by omega⟩
  · rw [if_pos (by rw [iI_le0 iK]; omega)]
    simp only [if_neg c]
    exact body (-1) (-s) (-c1) (-K) (by omega) (by omega) (by omega) ⟨by omega, by omega⟩ ⟨by omega, by omega⟩ ⟨by omega, by omega⟩
