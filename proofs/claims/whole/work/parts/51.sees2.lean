theorem e_frames {a b c d : Int} (ha : i3 a) (hb : i3 b) (hc : i3 c) (hd : i3 d) : X3_framesMeet (iI a) (iI b) (iI c) (iI d) = some (if frm a b c d then 1 else 0) := by
  rw [X3_framesMeet]
  simp only [Int32.lt_iff_toInt_lt, iI_toInt ha, iI_toInt hb, iI_toInt hc, iI_toInt hd, zcb_0, zcb_1]
  by_cases h : frm a b c d
  · rw [if_pos h]
    unfold frm at h
    repeat' split
    all_goals first | rfl | (exfalso; simp only [iI_toInt ha, iI_toInt hb, iI_toInt hc, iI_toInt hd] at *; omega)
  · rw [if_neg h]
    unfold frm at h
    repeat' split
    all_goals first | rfl | (exfalso; simp only [iI_toInt ha, iI_toInt hb, iI_toInt hc, iI_toInt hd] at *; omega)
theorem e_same {a b : Int} (ha : i3 a) (hb : i3 b) : X3_sameSide (iI a) (iI b) = some (if 0 < a * b then 1 else 0) := by
  rw [X3_sameSide, X3_sameSide_b8, X3_sameSide_b16, zcb_0, zcb_1]
  simp only [iI_le0 ha, iI_0lt hb, iI_0le ha, iI_0le hb]
  by_cases h1 : a ≤ 0
  · rw [if_pos h1]
    by_cases h2 : 0 ≤ a
    · rw [if_pos h2, if_neg]
      have : a = 0 := by omega
      rw [this]; omega
    · rw [if_neg h2]
      by_cases h3 : 0 ≤ b
      · rw [if_pos h3, if_neg]
        have := nn_le h3 h1
        rw [Int.mul_comm] at this
        omega
      · rw [if_neg h3, if_pos]
        exact Int.mul_pos_of_neg_of_neg (by omega) (by omega)
  · rw [if_neg h1]
    by_cases h2 : 0 < b
    · rw [if_pos h2, if_pos]
      exact Int.mul_pos (by omega) h2
    · have := nn_le (show 0 ≤ a by omega) (show b ≤ 0 by omega)
      rw [if_neg h2, if_pos (by omega), if_neg (by omega)]
theorem e_betw {a b c d x y : Int} (ha : i3 a) (hb : i3 b) (hc : i3 c) (hd : i3 d) (hx : i3 x) (hy : i3 y) : X8_between (iI a) (iI b) (iI c) (iI d) (iI x) (iI y) = some (if btw a c x ∧ btw b d y then 1 else 0) := by
  simp only [X8_between, X8_between_b12, X8_between_b27, X8_between_b42, X8_between_b57, zcb_0, zcb_1, iI_lt ha hx, iI_lt hb hx, iI_lt hc hx, iI_lt hd hx, iI_lt hx ha, iI_lt hx hb, iI_lt hx hc, iI_lt hx hd, iI_lt ha hy, iI_lt hb hy, iI_lt hc hy, iI_lt hd hy, iI_lt hy ha, iI_lt hy hb, iI_lt hy hc, iI_lt hy hd, iI_le hc ha, iI_le hd hb]
  by_cases h : btw a c x ∧ btw b d y
  · rw [if_pos h]
    unfold btw at h
    repeat' split
    all_goals first | rfl | (exfalso; omega)
  · rw [if_neg h]
    unfold btw at h
    repeat' split
    all_goals first | rfl | (exfalso; omega)
theorem e_within {G : tGe} {mG : tmG} (hG : gok G) (hM : rlG G mG) {i : Nat} (hi : i < 24) {x y : Int} (hx : i3 x) (hy : i3 y) : X8_within mG (iI i) (iI x) (iI y) = some (if btw (G.X i) (G.X i + G.U i) x ∧ btw (G.Y i) (G.Y i + G.V i) y then 1 else 0) := by
  obtain ⟨m1, m2, m3, m4⟩ := hM i
  have g := hG i
  have hX : i3 (G.X i) := by unfold i3; omega
  have hY : i3 (G.Y i) := by unfold i3; omega
  have hU : i3 (G.X i + G.U i) := by unfold i3; omega
  have hV : i3 (G.Y i + G.V i) := by unfold i3; omega
  simp only [X8_within, X8_within_b53, X8_within_b79, X8_within_b105, X8_within_b131, zl, zck_n (n := 24) hi (by decide), cl_n (show i < 2147483648 by omega), m1, m2, m3, m4, iI_add, zcb_0, zcb_1, iI_lt hX hx, iI_lt hU hx, iI_lt hx hX, iI_lt hx hU, iI_lt hY hy, iI_lt hV hy, iI_lt hy hY, iI_lt hy hV, iI_le hU hX, iI_le hV hY]
  by_cases h : btw (G.X i) (G.X i + G.U i) x ∧ btw (G.Y i) (G.Y i + G.V i) y
  · rw [if_pos h]
    unfold btw at h
    repeat' split
    all_goals first | rfl | (exfalso; omega)
  · rw [if_neg h]
    unfold btw at h
    repeat' split
    all_goals first | rfl | (exfalso; omega)
def sn (s : Int) : Int := if s ≤ 0 then (if 0 ≤ s then 0 else -1) else 1
theorem e_sign {s : Int} (h : i6 s) : X8_sign (lI s) = some (iI (sn s)) := by
  rw [X8_sign]
  simp only [cmp_le0 h, cmp_0le h]
  unfold sn
  split
  · split <;> rfl
  · rfl
theorem sn_3 (s : Int) : i3 (sn s) := by unfold sn i3; split <;> (try split) <;> omega
theorem sn_0 {s : Int} : iI (sn s) = 0 ↔ s = 0 := by
  rw [iI_eq0 (sn_3 s)]
  unfold sn
  split <;> (try split) <;> omega
theorem sn_mul {s t : Int} : (0 : Int32) ≤ iI (sn s) * iI (sn t) ↔ ¬ s * t < 0 := by
  rw [iI_mul, iI_0le (by unfold sn i3; split <;> split <;> (try split) <;> (try split) <;> omega)]
  constructor
  · intro h c
    rcases neg_mul c with ⟨c1, c2⟩ | ⟨c1, c2⟩
    · unfold sn at h
      rw [if_pos (by omega), if_neg (by omega), if_neg (by omega)] at h
      omega
    · unfold sn at h
      rw [if_neg (by omega), if_pos (by omega), if_neg (by omega)] at h
      omega
  · intro h
    unfold sn
    by_cases a : s ≤ 0
    · rw [if_pos a]
      by_cases b : 0 ≤ s
      · rw [if_pos b]; omega
      · rw [if_neg b]
        by_cases c : t ≤ 0
        · rw [if_pos c]; split <;> omega
        · exfalso
          have := Int.mul_pos (show 0 < -s by omega) (show 0 < t by omega)
          have e : -s * t = -(s * t) := by grind
          omega
    · rw [if_neg a]
      by_cases c : t ≤ 0
      · rw [if_pos c]
        by_cases d : 0 ≤ t
        · rw [if_pos d]; omega
        · exfalso
          have := Int.mul_pos (show 0 < s by omega) (show 0 < -t by omega)
          have e : s * -t = -(s * t) := by grind
          omega
      · rw [if_neg c]; omega
theorem e_turn {a b c d x y : Int} (ha : inb a) (hb : inb b) (hc : inb c) (hd : inb d) (hx : inb x) (hy : inb y) : X8_turn (iI a) (iI b) (iI c) (iI d) (iI x) (iI y) = some (iI (sn ((c - a) * (y - b) - (d - b) * (x - a)))) := by
  unfold inb at ha hb hc hd hx hy
  have p1 := mul_bd (show -2000 ≤ c - a by omega) (by omega) (show -2000 ≤ y - b by omega) (by omega)
  have p2 := mul_bd (show -2000 ≤ d - b by omega) (by omega) (show -2000 ≤ x - a by omega) (by omega)
  rw [X8_turn, iI_sub, iI_sub, iI_sub, iI_sub, iI_l (by unfold i3; omega), iI_l (by unfold i3; omega), iI_l (by unfold i3; omega), iI_l (by unfold i3; omega), lI_mul, lI_mul, lI_sub, e_sign (by unfold i6; omega)]
  rfl
theorem ite_10 {c : Prop} [Decidable c] : ((if c then (1 : Int32) else 0) = 0) ↔ ¬ c := by
  by_cases h : c
  · simp [h]
  · simp [h]
theorem ite_aB {α : Type} {a B : Prop} [Decidable a] [Decidable B] {T K : α} : (if a then (if ¬ B then K else T) else K) = (if a ∧ B then T else K) := by
  by_cases h : a
  · by_cases h' : B
    · rw [if_pos h, if_neg (fun n => n h'), if_pos ⟨h, h'⟩]
    · rw [if_pos h, if_pos h', if_neg (fun n => h' n.2)]
  · rw [if_neg h, if_neg (fun n => h n.1)]
theorem e_blocks {G : tGe} {gP : tPi} (hG : gok G) (hP : rlP G gP) {i : Nat} (hi : i < 24) {p q r s : Int} (hp : inb p) (hq : inb q) (hr : inb r) (hs : inb s) {s1 s2 s3 s4 : Int} (h1 : s1 = sd G i p q) (h2 : s2 = sd G i r s) (h3 : s3 = (r - p) * (G.Y i - q) - (s - q) * (G.X i - p)) (h4 : s4 = (r - p) * (G.Y i + G.V i - q) - (s - q) * (G.X i + G.U i - p)) :
    (blk (G.X i) (G.Y i) (G.X i + G.U i) (G.Y i + G.V i) p q r s s1 s2 s3 s4 → X3_blocks gP (iI i) (iI p) (iI q) (iI r) (iI s) = some 1) ∧ (¬ blk (G.X i) (G.Y i) (G.X i + G.U i) (G.Y i + G.V i) p q r s s1 s2 s3 s4 → X3_blocks gP (iI i) (iI p) (iI q) (iI r) (iI s) = some 0) := by
  obtain ⟨m1, m2, m3, m4⟩ := hP i
  have g := hG i
  have b1 := sd_bd hG i hp hq
  have b2 := sd_bd hG i hr hs
  unfold inb at hp hq hr hs
  have p1 := mul_bd (show -2000 ≤ r - p by omega) (by omega) (show -2000 ≤ G.Y i - q by omega) (by omega)
  have p2 := mul_bd (show -2000 ≤ s - q by omega) (by omega) (show -2000 ≤ G.X i - p by omega) (by omega)
  have p3 := mul_bd (show -2000 ≤ r - p by omega) (by omega) (show -2000 ≤ G.Y i + G.V i - q by omega) (by omega)
  have p4 := mul_bd (show -2000 ≤ s - q by omega) (by omega) (show -2000 ≤ G.X i + G.U i - p by omega) (by omega)
  have hX : i3 (G.X i) := by unfold i3; omega
  have hY : i3 (G.Y i) := by unfold i3; omega
  have hU : i3 (G.X i + G.U i) := by unfold i3; omega
  have hV : i3 (G.Y i + G.V i) := by unfold i3; omega
  have ip : i3 p := by unfold i3; omega
  have iq : i3 q := by unfold i3; omega
  have ir : i3 r := by unfold i3; omega
  have is : i3 s := by unfold i3; omega
  have j1 : i3 s1 := by rw [h1]; exact i3_s b1
  have j2 : i3 s2 := by rw [h2]; exact i3_s b2
  have j3 : i3 s3 := by rw [h3]; unfold i3; omega
  have j4 : i3 s4 := by rw [h4]; unfold i3; omega
  have e : X3_blocks gP (iI i) (iI p) (iI q) (iI r) (iI s) = if ¬ frm (G.X i) (G.X i + G.U i) p r then some 0 else if ¬ frm (G.Y i) (G.Y i + G.V i) q s then some 0 else if ¬ 0 < s1 * s2 then (if ¬ 0 < s3 * s4 then some 1 else some 0) else some 0 := by
    simp only [X3_blocks, zck_n (n := 24) hi (by decide), cl_n (show i < 2147483648 by omega), m1, m2, m3, m4, e_frames hX hU ip ir, e_frames hY hV iq is, Option.bind_some, e_sideOf hP hi, ← h1, ← h2, e_same j1 j2, iI_sub, e_cross, ← h3, ← h4, e_same j3 j4, ite_10, zcb_0, zcb_1]
  rw [e]
  unfold blk
  constructor
  · rintro ⟨f1, f2, f3, f4⟩
    rw [if_neg (fun n => n f1), if_neg (fun n => n f2), if_pos (by omega), if_pos (by omega)]
  · intro n
    split
    · rfl
    split
    · rfl
    split
    · split
      · rename_i c1 c2 c3 c4
        exact (n ⟨Classical.not_not.mp c1, Classical.not_not.mp c2, by omega, by omega⟩).elim
      · rfl
    · rfl
theorem e_meets {G : tGe} {mG : tmG} (hG : gok G) (hM : rlG G mG) {i : Nat} (hi : i < 24) {p q r s : Int} (hp : inb p) (hq : inb q) (hr : inb r) (hs : inb s) {s1 s2 s3 s4 : Int} (h1 : s1 = (G.X i + G.U i - G.X i) * (q - G.Y i) - (G.Y i + G.V i - G.Y i) * (p - G.X i)) (h2 : s2 = (G.X i + G.U i - G.X i) * (s - G.Y i) - (G.Y i + G.V i - G.Y i) * (r - G.X i)) (h3 : s3 = (r - p) * (G.Y i - q) - (s - q) * (G.X i - p)) (h4 : s4 = (r - p) * (G.Y i + G.V i - q) - (s - q) * (G.X i + G.U i - p)) :
    (mts (G.X i) (G.Y i) (G.X i + G.U i) (G.Y i + G.V i) p q r s s1 s2 s3 s4 → X8_meets mG (iI i) (iI p) (iI q) (iI r) (iI s) = some 1) ∧ (¬ mts (G.X i) (G.Y i) (G.X i + G.U i) (G.Y i + G.V i) p q r s s1 s2 s3 s4 → X8_meets mG (iI i) (iI p) (iI q) (iI r) (iI s) = some 0) := by
  obtain ⟨m1, m2, m3, m4⟩ := hM i
  have g := hG i
  have ip := i3_in hp
  have iq := i3_in hq
  have ir := i3_in hr
  have is := i3_in hs
  have nX : inb (G.X i) := by unfold inb; omega
  have nY : inb (G.Y i) := by unfold inb; omega
  have nU : inb (G.X i + G.U i) := by unfold inb; omega
  have nV : inb (G.Y i + G.V i) := by unfold inb; omega
  have e : X8_meets mG (iI i) (iI p) (iI q) (iI r) (iI s) = if s1 = 0 ∧ btw (G.X i) (G.X i + G.U i) p ∧ btw (G.Y i) (G.Y i + G.V i) q then some 1 else if s2 = 0 ∧ btw (G.X i) (G.X i + G.U i) r ∧ btw (G.Y i) (G.Y i + G.V i) s then some 1 else if ¬ (p = r ∧ q = s) ∧ s3 = 0 ∧ btw p r (G.X i) ∧ btw q s (G.Y i) then some 1 else if ¬ (p = r ∧ q = s) ∧ s4 = 0 ∧ btw p r (G.X i + G.U i) ∧ btw q s (G.Y i + G.V i) then some 1 else if ¬ s1 * s2 < 0 then some 0 else if ¬ s3 * s4 < 0 then some 0 else some 1 := by
    simp only [X8_meets, X8_meets_b115, X8_meets_b134, X8_meets_b146, X8_meets_b151, X8_meets_b179, X8_meets_b207, zl, zck_n (n := 24) hi (by decide), cl_n (show i < 2147483648 by omega), m1, m2, m3, m4, iI_add, e_turn nX nY nU nV hp hq, e_turn nX nY nU nV hr hs, e_turn hp hq hr hs nX nY, e_turn hp hq hr hs nU nV, Option.bind_some, ← h1, ← h2, ← h3, ← h4, e_within hG hM hi ip iq, e_within hG hM hi ir is, e_betw ip iq ir is (i3_in nX) (i3_in nY), e_betw ip iq ir is (i3_in nU) (i3_in nV), sn_0, sn_mul, ite_10, zcb_0, zcb_1, iI_eq ip ir, iI_eq iq is, if_pos, if_neg (show ¬ (1 : Int32) = 0 by decide)]
    simp only [ite_aB]
    by_cases pe : p = r
    · by_cases qe : q = s
      · have n1 : ∀ (Q : Prop), (¬ (p = r ∧ q = s) ∧ Q) = False := fun Q => eq_false (fun h => h.1 ⟨pe, qe⟩)
        simp only [if_pos pe, if_pos qe, n1, if_false]
      · have n : ¬ (p = r ∧ q = s) := fun h => qe h.2
        simp only [if_pos pe, if_neg qe, n, not_false_eq_true, true_and]
    · have n : ¬ (p = r ∧ q = s) := fun h => pe h.1
      simp only [if_neg pe, n, not_false_eq_true, true_and]
  rw [e]
  unfold mts
  constructor
  · rintro (h | h | h | h | ⟨f1, f2⟩)
    · rw [if_pos h]
    · rw [if_pos h]; split <;> rfl
    · rw [if_pos h]; split <;> (try split) <;> rfl
    · rw [if_pos h]; split <;> (try split) <;> (try split) <;> rfl
    · have g1 : (¬ s1 * s2 < 0) = False := eq_false (fun n => n f1)
      have g2 : (¬ s3 * s4 < 0) = False := eq_false (fun n => n f2)
      simp only [g1, g2, if_false]; split <;> (try split) <;> (try split) <;> (try split) <;> rfl
  · intro n
    rw [if_neg (fun h => n (Or.inl h)), if_neg (fun h => n (Or.inr (Or.inl h))), if_neg (fun h => n (Or.inr (Or.inr (Or.inl h)))), if_neg (fun h => n (Or.inr (Or.inr (Or.inr (Or.inl h)))))]
    split
    · rfl
    split
    · rfl
    rename_i c1 c2
    exact (n (Or.inr (Or.inr (Or.inr (Or.inr ⟨Classical.not_not.mp c1, Classical.not_not.mp c2⟩))))).elim
theorem e_seesLoop {G : tGe} {gP : tPi} {mG : tmG} (hG : gok G) (hP : rlP G gP) (hM : rlG G mG) {n : Nat} (hn : n ≤ 24) (g5 : gP.size = iI (n : Int)) (g6 : mG.pieces = iI (n : Int)) (g7 : ∀ i, i < n → ¬ (G.U i = 0 ∧ G.V i = 0)) {p q r s : Int} (hp : inb p) (hq : inb q) (hr : inb r) (hs : inb s) (N : Nat) (mH : tmH) : ∀ (c fu i : Nat), i + c = n → c < fu → ∃ z, X7_sees_b22 N gP fu (iI p) (iI q) (iI r) (iI s) (iI i) = some z ∧ X8_sees_b27 N mG fu mH (iI p) (iI q) (iI r) (iI s) (iI i) = some (z, mH)
  | 0, fu, i, hi, hf => by
    obtain ⟨fu, rfl⟩ : ∃ f, fu = f + 1 := ⟨fu - 1, by omega⟩
    rw [X7_sees_b22, X8_sees_b27, g5, g6, if_pos (by rw [iI_le_n (by omega) (by omega)]; omega), if_pos (by rw [iI_le_n (by omega) (by omega)]; omega)]
    exact ⟨_, rfl, rfl⟩
  | c + 1, fu, i, hi, hf => by
    obtain ⟨fu, rfl⟩ : ∃ f, fu = f + 1 := ⟨fu - 1, by omega⟩
    have d1 : sd G i p q = (G.X i + G.U i - G.X i) * (q - G.Y i) - (G.Y i + G.V i - G.Y i) * (p - G.X i) := by unfold sd; grind
    have d2 : sd G i r s = (G.X i + G.U i - G.X i) * (s - G.Y i) - (G.Y i + G.V i - G.Y i) * (r - G.X i) := by unfold sd; grind
    have eb := e_blocks hG hP (show i < 24 by omega) hp hq hr hs rfl rfl rfl rfl
    have em := e_meets hG hM (show i < 24 by omega) hp hq hr hs rfl rfl rfl rfl
    rw [← d1, ← d2] at em
    have bm := blk_mts (x0 := G.X i) (y0 := G.Y i) (x1 := G.X i + G.U i) (y1 := G.Y i + G.V i) (p := p) (q := q) (r := r) (s := s) (fun h => g7 i (by omega) ⟨by omega, by omega⟩) d1 d2 rfl rfl
    rw [X7_sees_b22, X8_sees_b27, g5, g6, if_neg (by rw [iI_le_n (by omega) (by omega)]; omega), if_neg (by rw [iI_le_n (by omega) (by omega)]; omega)]
    rw [← bm] at em
    by_cases b : blk (G.X i) (G.Y i) (G.X i + G.U i) (G.Y i + G.V i) p q r s (sd G i p q) (sd G i r s) ((r - p) * (G.Y i - q) - (s - q) * (G.X i - p)) ((r - p) * (G.Y i + G.V i - q) - (s - q) * (G.X i + G.U i - p))
    · rw [eb.1 b, em.1 b, Option.bind_some, Option.bind_some, if_neg (by decide), if_neg (by decide)]
      exact ⟨_, rfl, rfl⟩
    · rw [eb.2 b, em.2 b, Option.bind_some, Option.bind_some, if_pos (by decide), if_pos (by decide), iI_succ]
      exact e_seesLoop hG hP hM hn g5 g6 g7 hp hq hr hs N mH c fu (i + 1) (by omega) (by omega)
theorem op_sees {N : Nat} (hN : 1000 < N) {gP : tPi} {gQ : tPa} {gT : tTr} {gE : tTe} {gM : tMe} {mG : tmG} {mH : tmH} {mK : tmK} {mB : tmB} {mM : tmM} (h : zI gP gQ gT gE gM mG mK mB mM) (a b c d : Int32) : ∃ r, X7_sees N gP a b c d = some r ∧ X8_sees N mG mH a b c d = some (r, tmH.s_thrown mH 0) := by
  obtain ⟨⟨G, n, g1, g2, g3, g4, g5, g6, g7⟩, -, -, -⟩ := h
  have pa := e_place (i3_of a) (i3_of b)
  have pc := e_place (i3_of c) (i3_of d)
  rw [iI_of, iI_of] at pa pc
  rw [X7_sees, X8_sees]
  rcases pa with ⟨a1, a2, a3, a4⟩ | ⟨a1, a3, a4⟩
  · rw [a3, a4, Option.bind_some, Option.bind_some, if_pos (show (0 : Int32) = 0 from rfl), if_neg (show ¬ (1 : Int32) = 0 by decide)]
    rcases pc with ⟨b1, b2, b3, b4⟩ | ⟨b1, b3, b4⟩
    · rw [b3, b4, Option.bind_some, Option.bind_some, if_pos (show (0 : Int32) = 0 from rfl), if_neg (show ¬ (1 : Int32) = 0 by decide)]
      have := e_seesLoop g1 g2 g3 g4 g5 g6 g7 a1 a2 b1 b2 N (tmH.s_thrown mH 0) n N 0 (by omega) (by omega)
      rw [iI_of, iI_of, iI_of, iI_of] at this
      exact this
    · rw [b3, b4, Option.bind_some, Option.bind_some, if_pos (show (0 : Int32) = 0 from rfl), if_neg (show ¬ (1 : Int32) = 0 by decide)]
      exact ⟨_, rfl, rfl⟩
  · rw [a3, a4, Option.bind_some, Option.bind_some, if_pos (show (0 : Int32) = 0 from rfl), if_neg (show ¬ (1 : Int32) = 0 by decide)]
    exact ⟨_, rfl, rfl⟩
