theorem c_miss {G : tGe} {mG : tmG} {mM : tmM} (hG : gok G) (hM : rlG G mG) {i : Nat} (hi : i < 24) {x y p q : Int} (hx : inb x) (hy : inb y) (hp : inb p) (hq : inb q) (hK : p * G.V i - q * G.U i = 0) (h3 : sd G i x y ≠ 0) : X8_comes mG mM (iI i) (iI x) (iI y) (iI p) (iI q) = some (0, mM) := by
  obtain ⟨m1, m2, m3, m4⟩ := hM i
  have u := hG.u i
  have v := hG.v i
  have bd := sd_bd hG i hx hy
  have iU : i3 (G.U i) := by unfold i3; omega
  have iV : i3 (G.V i) := by unfold i3; omega
  have e0 : G.U i * q - G.V i * p = 0 := by grind
  rw [X8_comes, iI_l (i3_in hx), iI_l (i3_in hy), e_mside hG hM hi, Option.bind_some, zck_n hi (by decide), zck_n hi (by decide), cl_n (by omega), m3, m4, iI_l iU, iI_l iV, iI_l (i3_in hp), iI_l (i3_in hq), lI_mul, lI_mul, lI_sub, e0, zl, if_pos (by decide), if_neg (by rw [cmp_eq0 ⟨by omega, by omega⟩]; exact h3)]
  rfl
theorem pos_lt {a w b S : Int} (hw : 0 < w) (hS : 0 < S) (h : a * w = b * S) : a < 0 ↔ b < 0 := by
  constructor
  · intro c
    by_cases d : b < 0
    · exact d
    · have h1 := Int.mul_nonneg (show 0 ≤ b by omega) (show 0 ≤ S by omega)
      have h2 := Int.mul_pos (show 0 < -a by omega) hw
      have e : -a * w = -(a * w) := by grind
      omega
  · intro c
    by_cases d : a < 0
    · exact d
    · have h1 := Int.mul_nonneg (show 0 ≤ a by omega) (show 0 ≤ w by omega)
      have h2 := Int.mul_pos (show 0 < -b by omega) hS
      have e : -b * S = -(b * S) := by grind
      omega
theorem mm_eq {A B a b w S : Int} (hw : 0 < w) (hS : 0 < S) (h1 : A * w = a * S) (h2 : B * w = b * S) : max 0 (min A B) * w = max 0 (min a b) * S := by
  have d : (A - B) * w = (a - b) * S := by grind
  have l := pos_lt hw hS d
  have la := pos_lt hw hS h1
  have lb := pos_lt hw hS h2
  by_cases c : A - B < 0
  · have c' := l.mp c
    rw [show min A B = A by omega, show min a b = a by omega]
    by_cases e : A < 0
    · have := la.mp e
      rw [show max 0 A = 0 by omega, show max 0 a = 0 by omega, Int.zero_mul, Int.zero_mul]
    · have : ¬ a < 0 := fun z => e (la.mpr z)
      rw [show max 0 A = A by omega, show max 0 a = a by omega]
      exact h1
  · have c' : ¬ a - b < 0 := fun z => c (l.mpr z)
    rw [show min A B = B by omega, show min a b = b by omega]
    by_cases e : B < 0
    · have := lb.mp e
      rw [show max 0 B = 0 by omega, show max 0 b = 0 by omega, Int.zero_mul, Int.zero_mul]
    · have : ¬ b < 0 := fun z => e (lb.mpr z)
      rw [show max 0 B = B by omega, show max 0 b = b by omega]
      exact h2
def rMiss (N : Nat) (gP : tPi) (gM : tMe) (mG : tmG) (mM : tmM) (i : Nat) (x y p q : Int) : Prop := X1_meetOne N gP gM (iI i) (iI x) (iI y) (iI p) (iI q) = some gM ∧ ∃ mM', X8_comes mG mM (iI i) (iI x) (iI y) (iI p) (iI q) = some (0, mM') ∧ sme mM mM'
def rHit (N : Nat) (gP : tPi) (gM : tMe) (mG : tmG) (mM : tmM) (i : Nat) (x y p q : Int) : Prop := ∃ n d n' d' : Nat, n ≤ 100000000 ∧ (0 < d ∧ d ≤ 100000000) ∧ n' ≤ 100000000 ∧ (0 < d' ∧ d' ≤ 100000000) ∧ n * d' = n' * d ∧ X1_meetOne N gP gM (iI i) (iI x) (iI y) (iI p) (iI q) = X1_insert N gM (iI i) (iI n) (iI d) ∧ ∃ mM', X8_comes mG mM (iI i) (iI x) (iI y) (iI p) (iI q) = some (1, mM') ∧ sme mM mM' ∧ mM'.comesUp = lI (n' : Int) ∧ mM'.comesLow = lI (d' : Int)
theorem sg1_abs {w : Int} (h : w ≠ 0) : 0 < sg1 w w := by unfold sg1; split <;> omega
theorem sg1_mul {A w a S : Int} (h : A * w = a * S) : A * sg1 w w = sg1 w a * S := by
  unfold sg1
  split
  · exact h
  · have e1 : A * -w = -(A * w) := by grind
    have e2 : -a * S = -(a * S) := by grind
    omega
theorem ray1 {N : Nat} {G : tGe} {gP : tPi} {mG : tmG} (hG : gok G) (hP : rlP G gP) (hM : rlG G mG) {i : Nat} (hi : i < 24) (hne : ¬ (G.U i = 0 ∧ G.V i = 0)) {x y p q : Int} (hx : inb x) (hy : inb y) (hp : inb p) (hq : inb q) (hpq : ¬ (p = 0 ∧ q = 0)) (gM : tMe) (mM : tmM) : rMiss N gP gM mG mM i x y p q ∨ rHit N gP gM mG mM i x y p q := by
  have g := hG i
  have u := hG.u i
  have v := hG.v i
  have bd := sd_bd hG i hx hy
  have hx' := hx
  have hy' := hy
  have hp' := hp
  have hq' := hq
  unfold inb at hx' hy' hp' hq'
  by_cases hK0 : p * G.V i - q * G.U i = 0
  · have e3 : sd G i x y = (G.X i - x) * G.V i - (G.Y i - y) * G.U i := by unfold sd; grind
    have f1 : p * sd G i x y = G.U i * ((G.X i - x) * q - (G.Y i - y) * p) := by rw [e3]; grind
    have f2 : q * sd G i x y = G.V i * ((G.X i - x) * q - (G.Y i - y) * p) := by rw [e3]; grind
    by_cases hc : (G.X i - x) * q - (G.Y i - y) * p = 0
    · have s0 : sd G i x y = 0 := by
        rw [hc, Int.mul_zero] at f1 f2
        by_cases c : sd G i x y = 0
        · exact c
        · exfalso
          apply hpq
          constructor
          · rcases Int.mul_eq_zero.mp f1 with h | h
            · exact h
            · exact (c h).elim
          · rcases Int.mul_eq_zero.mp f2 with h | h
            · exact h
            · exact (c h).elim
      have cc := c_col (mM := mM) hG hM hi hx hy hp hq hK0 s0 rfl rfl rfl
      have dc := d_col (N := N) (gM := gM) hG hP hi hx hy hp hq hK0 hc rfl rfl
      have b3 := mul_bd (show -2000 ≤ G.X i - x by omega) (by omega) (show -1000 ≤ p by omega) (by omega)
      have b4 := mul_bd (show -2000 ≤ G.Y i - y by omega) (by omega) (show -1000 ≤ q by omega) (by omega)
      have b5 := mul_bd (show -2000 ≤ G.U i by omega) (by omega) (show -1000 ≤ p by omega) (by omega)
      have b6 := mul_bd (show -2000 ≤ G.V i by omega) (by omega) (show -1000 ≤ q by omega) (by omega)
      have b7 := mul_bd (show -1000 ≤ p by omega) (by omega) (show -1000 ≤ p by omega) (by omega)
      have b8 := mul_bd (show -1000 ≤ q by omega) (by omega) (show -1000 ≤ q by omega) (by omega)
      have hS : 0 < p * p + q * q := by
        by_cases p0 : p = 0
        · have := sq_pos (fun z => hpq ⟨p0, z⟩); have := sq_nn p; omega
        · have := sq_pos p0; have := sq_nn q; omega
      have key : ∃ w a b : Int, w = (if p = 0 then q else p) ∧ a = (if p = 0 then G.Y i - y else G.X i - x) ∧ b = (if p = 0 then G.Y i - y + G.V i else G.X i - x + G.U i) ∧ w ≠ 0 ∧ -1000 ≤ w ∧ w ≤ 1000 ∧ (-5000 ≤ a ∧ a ≤ 5000) ∧ (-5000 ≤ b ∧ b ≤ 5000) ∧ ((G.X i - x) * p + (G.Y i - y) * q) * w = a * (p * p + q * q) ∧ ((G.X i - x) * p + (G.Y i - y) * q + G.U i * p + G.V i * q) * w = b * (p * p + q * q) := by
        by_cases p0 : p = 0
        · have q0 : q ≠ 0 := fun z => hpq ⟨p0, z⟩
          have ex : G.X i - x = 0 := by
            rw [p0, Int.mul_zero, Int.sub_zero] at hc
            rcases Int.mul_eq_zero.mp hc with h | h
            · exact h
            · exact (q0 h).elim
          have eu : G.U i = 0 := by
            rw [p0, Int.zero_mul] at hK0
            rcases Int.mul_eq_zero.mp (show q * G.U i = 0 by omega) with h | h
            · exact (q0 h).elim
            · exact h
          refine ⟨q, G.Y i - y, G.Y i - y + G.V i, by rw [if_pos p0], by rw [if_pos p0], by rw [if_pos p0], q0, by omega, by omega, by omega, by omega, ?_, ?_⟩
          · rw [ex, p0]; grind
          · rw [ex, eu, p0]; grind
        · refine ⟨p, G.X i - x, G.X i - x + G.U i, by rw [if_neg p0], by rw [if_neg p0], by rw [if_neg p0], p0, by omega, by omega, by omega, by omega, ?_, ?_⟩
          · grind
          · grind
      obtain ⟨w, a, b, k1, k2, k3, k4, k5, k6, k7, k8, k9, k10⟩ := key
      rw [← k1, ← k2, ← k3] at cc
      have j1 := sg1_mul k9
      have j2 := sg1_mul k10
      have wp := sg1_abs k4
      have wb : sg1 w w ≤ 1000 := by unfold sg1; split <;> omega
      have ab : -5000 ≤ sg1 w a ∧ sg1 w a ≤ 5000 := by unfold sg1; split <;> omega
      have bb : -5000 ≤ sg1 w b ∧ sg1 w b ≤ 5000 := by unfold sg1; split <;> omega
      generalize hA : (G.X i - x) * p + (G.Y i - y) * q = A at *
      generalize hB : A + G.U i * p + G.V i * q = B at *
      generalize hSS : p * p + q * q = S at *
      generalize sg1 w w = W at *
      generalize sg1 w a = a' at *
      generalize sg1 w b = b' at *
      have la := pos_lt wp hS j1
      have lb := pos_lt wp hS j2
      by_cases c : A < 0 ∧ B < 0
      · left
        rw [if_pos c] at dc
        rw [if_pos ⟨la.mp c.1, lb.mp c.2⟩] at cc
        exact ⟨dc, _, cc, rOut_sme _ _ _⟩
      · right
        rw [if_neg c] at dc
        rw [if_neg (fun z => c ⟨la.mpr z.1, lb.mpr z.2⟩)] at cc
        have mm := mm_eq wp hS j1 j2
        refine ⟨(max 0 (min A B)).toNat, S.toNat, (max 0 (min a' b')).toNat, W.toNat, by omega, by omega, by omega, by omega, ?_, ?_, _, cc, rOut_sme _ _ _, ?_, ?_⟩
        · have e1 : (((max 0 (min A B)).toNat * W.toNat : Nat) : Int) = max 0 (min A B) * W := by rw [Int.natCast_mul, Int.toNat_of_nonneg (by omega), Int.toNat_of_nonneg (by omega)]
          have e2 : (((max 0 (min a' b')).toNat * S.toNat : Nat) : Int) = max 0 (min a' b') * S := by rw [Int.natCast_mul, Int.toNat_of_nonneg (by omega), Int.toNat_of_nonneg (by omega)]
          omega
        · rw [dc, Int.toNat_of_nonneg (by omega), Int.toNat_of_nonneg (by omega)]
        · rw [Int.toNat_of_nonneg (by omega)]; rfl
        · rw [Int.toNat_of_nonneg (by omega)]; rfl
    · left
      refine ⟨d_miss hG hP hi hx hy hp hq hK0 hc, mM, c_miss hG hM hi hx hy hp hq hK0 ?_, rfl, rfl, rfl, rfl⟩
      intro s0
      rw [s0, Int.mul_zero] at f1 f2
      apply hne
      constructor
      · rcases Int.mul_eq_zero.mp f1.symm with h | h
        · exact h
        · exact (hc h).elim
      · rcases Int.mul_eq_zero.mp f2.symm with h | h
        · exact h
        · exact (hc h).elim
  · have ca := c_across (mM := mM) hG hM hi hx hy hp hq rfl rfl hK0
    have da := d_across (N := N) (gM := gM) hG hP hi hx hy hp hq rfl rfl hK0
    have b1 := mul_bd (show -1000 ≤ p by omega) (by omega) (show -2000 ≤ G.V i by omega) (by omega)
    have b2 := mul_bd (show -1000 ≤ q by omega) (by omega) (show -2000 ≤ G.U i by omega) (by omega)
    have kp := sg1_abs hK0
    have kb : sg1 (p * G.V i - q * G.U i) (p * G.V i - q * G.U i) ≤ 4000000 := by unfold sg1; split <;> omega
    have sb : sg1 (p * G.V i - q * G.U i) (sd G i x y) ≤ 8000000 := by unfold sg1; split <;> omega
    generalize sg1 (p * G.V i - q * G.U i) (p * G.V i - q * G.U i) = W at *
    generalize sg1 (p * G.V i - q * G.U i) (sd G i x y) = s at *
    generalize sg1 (p * G.V i - q * G.U i) ((G.X i - x) * q - (G.Y i - y) * p) = c1 at *
    by_cases c : s < 0 ∨ c1 < 0 ∨ W < c1
    · left
      rw [if_pos c] at ca da
      exact ⟨da, _, ca, rOut_sme _ _ _⟩
    · right
      rw [if_neg c] at ca da
      refine ⟨s.toNat, W.toNat, s.toNat, W.toNat, by omega, by omega, by omega, by omega, rfl, ?_, _, ca, rOut_sme _ _ _, ?_, ?_⟩
      · rw [da, Int.toNat_of_nonneg (by omega), Int.toNat_of_nonneg (by omega)]
      · rw [Int.toNat_of_nonneg (by omega)]; rfl
      · rw [Int.toNat_of_nonneg (by omega)]; rfl
theorem rpU.sme {g g' : tmM} {q : Nat} {l : List tE} (h : rpU g q l) (hs : sme g g') : rpU g' q l := by
  intro i x hx
  rw [hs.1, hs.2.1, hs.2.2.1]
  exact h i x hx
theorem ray_loop {N : Nat} (hN : 1000 < N) {G : tGe} {gP : tPi} {mG : tmG} (hG : gok G) (hP : rlP G gP) (hM : rlG G mG) {n : Nat} (hn : n ≤ 24) (g5 : gP.size = iI (n : Int)) (g6 : mG.pieces = iI (n : Int)) (g7 : ∀ i, i < n → ¬ (G.U i = 0 ∧ G.V i = 0)) {x y p q : Int} (hx : inb x) (hy : inb y) (hp : inb p) (hq : inb q) (hpq : ¬ (p = 0 ∧ q = 0)) (mH : tmH) : ∀ (c fu i : Nat) (l : List tE) (gM : tMe) (mM : tmM), i + c = n → c < fu → l.length ≤ i → gM.size = iI (l.length : Int) → mM.metMany = iI (l.length : Int) → rpT gM 0 l → rpU mM 0 l → (∀ y ∈ l, eok y) →
    ∃ (l' : List tE) (gM' : tMe) (mM' : tmM), X1_meetAll_b8 N gP fu gM (iI x) (iI y) (iI p) (iI q) (iI i) = some gM' ∧ X8_ray_b41 N mG fu mH mM (iI x) (iI y) (iI p) (iI q) (iI i) = some (iI (l'.length : Int), mH, mM') ∧ l'.length ≤ 24 ∧ gM'.size = iI (l'.length : Int) ∧ mM'.metMany = iI (l'.length : Int) ∧ rpT gM' 0 l' ∧ rpU mM' 0 l'
  | 0, fu, i, l, gM, mM, hi, hf, hl, s1, s2, r1, r2, ho => by
    obtain ⟨fu, rfl⟩ : ∃ f, fu = f + 1 := ⟨fu - 1, by omega⟩
    have nl : iI (n : Int) ≤ iI (i : Int) := by rw [iI_le_n (by omega) (by omega)]; omega
    refine ⟨l, gM, mM, ?_, ?_, by omega, s1, s2, r1, r2⟩
    · rw [X1_meetAll_b8, g5, if_pos nl]
    · rw [X8_ray_b41, g6, if_pos nl, X8_ray_b234, s2]
  | c + 1, fu, i, l, gM, mM, hi, hf, hl, s1, s2, r1, r2, ho => by
    obtain ⟨fu, rfl⟩ : ∃ f, fu = f + 1 := ⟨fu - 1, by omega⟩
    have nl : ¬ iI (n : Int) ≤ iI (i : Int) := by rw [iI_le_n (by omega) (by omega)]; omega
    rw [X1_meetAll_b8, X8_ray_b41, g5, g6, if_neg nl, if_neg nl]
    rcases ray1 (N := N) hG hP hM (show i < 24 by omega) (g7 i (by omega)) hx hy hp hq hpq gM mM with ⟨e1, mM', e2, e3⟩ | ⟨a, d, a', d', b1, ⟨b2, b3⟩, b4, ⟨b5, b6⟩, fr, e1, mM', e2, e3, e4, e5⟩
    · rw [e1, e2, Option.bind_some, Option.bind_some, if_pos rfl, X8_ray_b228, iI_succ]
      exact ray_loop hN hG hP hM hn g5 g6 g7 hx hy hp hq hpq mH c fu (i + 1) l gM mM' (by omega) (by omega) (by omega) s1 (by rw [e3.2.2.2]; exact s2) r1 (r2.sme e3) ho
    · have fe := frac b2 b5 fr
      have gp : 0 < Nat.gcd a' d' := Nat.gcd_pos_of_pos_right _ b5
      have gl : Nat.gcd a' d' ≤ d' := Nat.gcd_le_right _ b5
      have nx : nrm i a d = nrm i a' d' := by unfold nrm; rw [fe.1, fe.2]
      obtain ⟨gM2, i1, i2, i3'⟩ := e_ins hN (i := i) b1 b2 b3 l.reverse [] N l.length gM (by rw [List.reverse_reverse]; exact r1) (fun i x h => nil_get h) (by simp) (by omega) s1 (fun y hy => ho y (List.mem_reverse.mp hy)) (by rw [List.length_reverse]; omega)
      obtain ⟨mM2, j1, j2, j3⟩ := m_ins hN (mG := mG) (mH := mH) (X8_ray_b41 N mG fu) (iI x) (iI y) (iI p) (iI q) (x := nrm i a' d') (nrm_ok b4 b6) l.reverse [] N l.length mM' (by rw [List.reverse_reverse]; exact r2.sme e3) (fun i x h => nil_get h) (by simp) (by omega) (by rw [e3.2.2.2]; exact s2) (fun y hy => ho y (List.mem_reverse.mp hy)) (by rw [List.length_reverse]; omega)
      rw [List.length_reverse] at i1 j1
      have ll : (insR l.reverse [] (nrm i a d)).length = l.length + 1 := by rw [insR_len]; simp
      have ins : X1_insert N gM (iI i) (iI a) (iI d) = some gM2 := by
        rw [X1_insert, s1, if_pos (by rw [c_24, show iI 24 = iI ((24 : Nat) : Int) from rfl, iI_lt_n (by omega) (by omega)]; omega), zl]
        exact i1
      have dv := e_div hN (x := (a' : Int)) (y := (d' : Int)) (by omega) (by omega)
      rw [Int.natAbs_natCast, Int.natAbs_natCast] at dv
      rw [e1, ins, e2, Option.bind_some, Option.bind_some]
      dsimp only
      rw [if_neg (show ¬ (1 : Int32) = 0 by decide), e4, e5, dv, Option.bind_some, zczl_n gp (by omega), zl, zczl_n gp (by omega), zl, zl, lI_div (by omega) (by omega), lI_div (by omega) (by omega), e3.2.2.2, s2]
      have j1' : X8_ray_b104 N (X8_ray_b41 N mG fu) mG N mH mM' (iI x) (iI y) (iI p) (iI q) (iI i) (lI ((a' / Nat.gcd a' d' : Nat) : Int)) (lI ((d' / Nat.gcd a' d' : Nat) : Int)) (iI (l.length : Int)) = X8_ray_b228 N (X8_ray_b41 N mG fu) mG mH mM2 (iI x) (iI y) (iI p) (iI q) (iI i) := j1
      rw [j1', X8_ray_b228, iI_succ]
      rw [← nx] at j3
      refine ray_loop hN hG hP hM hn g5 g6 g7 hx hy hp hq hpq mH c fu (i + 1) (insR l.reverse [] (nrm i a d)) gM2 mM2 (by omega) (by omega) (by omega) (by rw [ll]; exact i2) (by rw [ll]; exact j2) i3' j3 ?_
      exact insR_ok _ _ _ (fun y hy => ho y (List.mem_reverse.mp hy)) (fun y hy => by cases hy) (nrm_ok b1 b3)
theorem op_ray {N : Nat} (hN : 1000 < N) {gP : tPi} {gQ : tPa} {gT : tTr} {gE : tTe} {gM : tMe} {mG : tmG} {mH : tmH} {mK : tmK} {mB : tmB} {mM : tmM} (h : zI gP gQ gT gE gM mG mK mB mM) (a b c d : Int32) : ∃ r gM' mM', X7_ray N gP gM a b c d = some (r, gM') ∧ X8_ray N mG mH mM a b c d = some (r, tmH.s_thrown mH 0, mM') ∧ zI gP gQ gT gE gM' mG mK mB mM' := by
  obtain ⟨⟨G, n, g1, g2, g3, g4, g5, g6, g7⟩, h2, h3, h4⟩ := id h
  have al : ∃ s0 : Int32, X7_ray N gP gM a b c d = X7_ray_b14 N gP gM a b c d s0 ∧ (s0 = 0 ↔ ¬ (c = 0 ∧ d = 0)) := by
    rw [X7_ray, X7_ray_b13]
    by_cases e1 : c = 0
    · by_cases e2 : d = 0
      · rw [if_pos e1, if_pos e2]
        exact ⟨1, rfl, by simp [e1, e2]⟩
      · rw [if_pos e1, if_neg e2]
        exact ⟨0, rfl, by simp [e2]⟩
    · rw [if_neg e1]
      exact ⟨0, rfl, by simp [e1]⟩
  obtain ⟨s0, es, hs0⟩ := al
  have pa := e_place (i3_of a) (i3_of b)
  have pc := e_place (i3_of c) (i3_of d)
  rw [iI_of, iI_of] at pa pc
  rw [es, X7_ray_b14, X8_ray]
  rcases pa with ⟨a1, a2, a3, a4⟩ | ⟨a1, a3, a4⟩
  · rw [a3, a4, Option.bind_some, Option.bind_some, if_pos (show (0 : Int32) = 0 from rfl), if_neg (show ¬ (1 : Int32) = 0 by decide)]
    rcases pc with ⟨b1, b2, b3, b4⟩ | ⟨b1, b3, b4⟩
    · rw [b3, b4, Option.bind_some, Option.bind_some, if_pos (show (0 : Int32) = 0 from rfl), if_neg (show ¬ (1 : Int32) = 0 by decide)]
      by_cases eq : c = 0 ∧ d = 0
      · rw [if_neg (fun q => (hs0.mp q) eq), if_pos eq.1, if_pos eq.2]
        exact ⟨_, _, _, rfl, rfl, h⟩
      · rw [if_pos (hs0.mpr eq)]
        have e8 : (if c = 0 then (if d = 0 then some ((-1 : Int32), tmH.s_thrown mH 0, mM) else X8_ray_b33 N mG (tmH.s_thrown mH 0) mM a b c d) else X8_ray_b33 N mG (tmH.s_thrown mH 0) mM a b c d) = X8_ray_b33 N mG (tmH.s_thrown mH 0) mM a b c d := by
          by_cases e1 : c = 0
          · rw [if_pos e1, if_neg (fun e2 => eq ⟨e1, e2⟩)]
          · rw [if_neg e1]
        obtain ⟨l', gM', mM', q1, q2, q3, q4, q5, q6, q7⟩ := ray_loop hN g1 g2 g3 g4 g5 g6 g7 a1 a2 b1 b2 (fun z => eq ⟨Int32.toInt_inj.mp z.1, Int32.toInt_inj.mp z.2⟩) (tmH.s_thrown mH 0) n N 0 [] (tMe.s_size gM 0) (tmM.s_metMany mM 0) (by omega) (by omega) (by simp) rfl rfl (fun i x h => nil_get h) (fun i x h => nil_get h) (fun y hy => by cases hy)
        rw [iI_of, iI_of, iI_of, iI_of] at q1 q2
        have q1' : X1_meetAll N gP gM a b c d = some gM' := q1
        rw [e8, q1', Option.bind_some, X8_ray_b33]
        refine ⟨_, gM', mM', rfl, ?_, ⟨G, n, g1, g2, g3, g4, g5, g6, g7⟩, h2, h3, l'.map (fun x => (x.1, ((x.2.1 : Nat) : Int), ((x.2.2 : Nat) : Int))), ?_⟩
        · rw [q4]; exact q2
        · refine ⟨by rw [List.length_map]; exact q4, by rw [List.length_map]; exact q5, by rw [List.length_map]; exact q3, ?_⟩
          intro i x hx
          rw [List.getElem?_map] at hx
          cases hl : l'[i]? with
          | none => rw [hl] at hx; cases hx
          | some z =>
            rw [hl] at hx
            have hx' := Option.some.inj hx
            have w1 := q6 i z hl
            have w2 := q7 i z hl
            rw [Nat.zero_add] at w1 w2
            subst hx'
            exact ⟨w1, w2⟩
    · rw [b3, b4, Option.bind_some, Option.bind_some, if_pos (show (0 : Int32) = 0 from rfl), if_neg (show ¬ (1 : Int32) = 0 by decide)]
      refine ⟨_, _, _, ?_, rfl, h⟩
      split <;> rfl
  · rw [a3, a4, Option.bind_some, Option.bind_some, if_pos (show (0 : Int32) = 0 from rfl), if_neg (show ¬ (1 : Int32) = 0 by decide)]
    refine ⟨_, _, _, ?_, rfl, h⟩
    split <;> rfl
