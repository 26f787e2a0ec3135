/-! The greatest common divisor, by both loops -/
theorem lI_div {a b : Nat} (ha : a < 9223372036854775808) (hb : b < 9223372036854775808) : lI (a : Int) / lI (b : Int) = lI ((a / b : Nat) : Int) := by
  have h1 : a / b ≤ a := Nat.div_le_self a b
  have key : i6 ((a / b : Nat) : Int) := by generalize a / b = c at h1 ⊢; exact ⟨by omega, by omega⟩
  rw [← Int64.toInt_inj, Int64.toInt_div, lI_toInt ⟨by omega, by omega⟩, lI_toInt ⟨by omega, by omega⟩, lI_toInt key, ← Int.ofNat_tdiv]
  exact Jvm.Kit.bmod64 key.1 key.2
theorem lI_rem {a b : Nat} (ha : a < 9223372036854775808) (hb : b < 9223372036854775808) : lI (a : Int) - lI (a : Int) / lI (b : Int) * lI (b : Int) = lI ((a % b : Nat) : Int) := by
  rw [lI_div ha hb, lI_mul, lI_sub]
  congr 1
  have := Nat.div_add_mod a b
  rw [Nat.mul_comm] at this
  have h2 : ((a / b : Nat) : Int) * (b : Int) = ((a / b * b : Nat) : Int) := by rw [Int.natCast_mul]
  rw [h2]
  omega
theorem zczl_n {α : Type} {b : Nat} {k : Option α} (h : 0 < b) (hb : b < 9223372036854775808) : zczl (lI (b : Int)) k = k := by
  unfold zczl
  rw [if_neg]
  rw [cl_0, lI_eq ⟨by omega, by omega⟩ ⟨by omega, by omega⟩]
  omega
theorem half_mod {a b : Nat} (hb : 0 < b) (h : 0 < a % b) : b % (a % b) < (b + 1) / 2 := by
  have h1 : a % b < b := Nat.mod_lt _ hb
  have h2 : b % (a % b) < a % b := Nat.mod_lt _ h
  by_cases c : 2 * (a % b) ≤ b
  · omega
  · have : b % (a % b) = b - a % b := by
      rw [Nat.mod_eq_sub_mod (by omega), Nat.mod_eq_of_lt (by omega)]
    omega
theorem e_gcdL (N : Nat) : ∀ (m fu v a b : Nat), b < 2 ^ m → m ≤ 60 → a < 9223372036854775808 → v + 2 * m + 1 ≤ 128 → 2 * m + 1 < fu → X7_commonDivisor_b15 N fu (lI (a : Int)) (lI (b : Int)) (iI v) = some (lI (Nat.gcd a b : Int))
  | m, fu, v, a, b, hb, hm, ha, hv, hf => by
    obtain ⟨fu, rfl⟩ : ∃ f, fu = f + 1 := ⟨fu - 1, by omega⟩
    have p60 : 2 ^ m ≤ 2 ^ 60 := Nat.pow_le_pow_right (by omega) hm
    have nv : ∀ v : Nat, v < 128 → ¬ (128 : Int32) ≤ iI v := fun v h => by rw [show (128 : Int32) = iI ((128 : Nat) : Int) from rfl, iI_le_n (by omega) (by omega)]; omega
    have i6b : i6 (b : Int) := ⟨by omega, by omega⟩
    rw [X7_commonDivisor_b15, if_neg (nv v (by omega))]
    by_cases hb0 : b = 0
    · rw [if_pos (by rw [cmp_eq0 i6b]; omega), hb0, Nat.gcd_zero_right]
      rfl
    · rw [if_neg (by rw [cmp_eq0 i6b]; omega), zczl_n (by omega) (by omega), lI_rem ha (by omega), zl, iI_succ]
      obtain ⟨m, rfl⟩ : ∃ k, m = k + 1 := ⟨m - 1, by
        rcases m with _ | m
        · simp at hb; omega
        · omega⟩
      obtain ⟨fu, rfl⟩ : ∃ f, fu = f + 1 := ⟨fu - 1, by omega⟩
      have hr : a % b < b := Nat.mod_lt _ (by omega)
      have i6r : i6 ((a % b : Nat) : Int) := ⟨by omega, by omega⟩
      rw [X7_commonDivisor_b15, if_neg (nv (v + 1) (by omega))]
      by_cases hr0 : a % b = 0
      · rw [if_pos (by rw [cmp_eq0 i6r]; omega), X7_commonDivisor_b51, Nat.gcd_comm, Nat.gcd_rec, hr0, Nat.gcd_zero_left]
      · rw [if_neg (by rw [cmp_eq0 i6r]; omega), zczl_n (by omega) (by omega), lI_rem (by omega) (by omega), zl, iI_succ]
        have h2 := half_mod (show 0 < b by omega) (show 0 < a % b by omega)
        have p2 : 2 ^ (m + 1) = 2 * 2 ^ m := by rw [Nat.pow_succ]; omega
        rw [e_gcdL N m fu (v + 1 + 1) (a % b) (b % (a % b)) (by omega) (by omega) (by omega) (by omega) (by omega)]
        congr 3
        rw [Nat.gcd_comm a b, Nat.gcd_rec b a, Nat.gcd_rec (a % b) b, Nat.gcd_comm]
theorem e_gcdM (N : Nat) : ∀ (m fu a b : Nat), b < 2 ^ m → m ≤ 60 → a < 9223372036854775808 → 2 * m + 1 < fu → X8_divisor_b28 N fu (lI (a : Int)) (lI (b : Int)) = some (lI (Nat.gcd a b : Int))
  | m, fu, a, b, hb, hm, ha, hf => by
    obtain ⟨fu, rfl⟩ : ∃ f, fu = f + 1 := ⟨fu - 1, by omega⟩
    have p60 : 2 ^ m ≤ 2 ^ 60 := Nat.pow_le_pow_right (by omega) hm
    have i6b : i6 (b : Int) := ⟨by omega, by omega⟩
    rw [X8_divisor_b28]
    by_cases hb0 : b = 0
    · rw [if_pos (by rw [cmp_eq0 i6b]; omega), hb0, Nat.gcd_zero_right]
      rfl
    · rw [if_neg (by rw [cmp_eq0 i6b]; omega), zczl_n (by omega) (by omega), lI_rem ha (by omega), zl]
      obtain ⟨m, rfl⟩ : ∃ k, m = k + 1 := ⟨m - 1, by
        rcases m with _ | m
        · simp at hb; omega
        · omega⟩
      obtain ⟨fu, rfl⟩ : ∃ f, fu = f + 1 := ⟨fu - 1, by omega⟩
      have hr : a % b < b := Nat.mod_lt _ (by omega)
      have i6r : i6 ((a % b : Nat) : Int) := ⟨by omega, by omega⟩
      rw [X8_divisor_b28]
      by_cases hr0 : a % b = 0
      · rw [if_pos (by rw [cmp_eq0 i6r]; omega), X8_divisor_b53, Nat.gcd_comm, Nat.gcd_rec, hr0, Nat.gcd_zero_left]
      · rw [if_neg (by rw [cmp_eq0 i6r]; omega), zczl_n (by omega) (by omega), lI_rem (by omega) (by omega), zl]
        have h2 := half_mod (show 0 < b by omega) (show 0 < a % b by omega)
        have p2 : 2 ^ (m + 1) = 2 * 2 ^ m := by rw [Nat.pow_succ]; omega
        rw [e_gcdM N m fu (a % b) (b % (a % b)) (by omega) (by omega) (by omega) (by omega)]
        congr 3
        rw [Nat.gcd_comm a b, Nat.gcd_rec b a, Nat.gcd_rec (a % b) b, Nat.gcd_comm]
theorem e_com {N : Nat} (hN : 1000 < N) {x y : Int} (hx : x.natAbs < 2 ^ 60) (hy : y.natAbs < 2 ^ 60) : X7_commonDivisor N (lI x) (lI y) = some (lI (Nat.gcd x.natAbs y.natAbs : Int)) := by
  have ab : ∀ z : Int, z.natAbs < 2 ^ 60 → (if 0 < lI z then lI z else -lI z) = lI ((z.natAbs : Nat) : Int) := by
    intro z hz
    have e : 0 < lI z ↔ 0 < z := by rw [cl_0, lI_lt ⟨by omega, by omega⟩ ⟨by omega, by omega⟩]
    by_cases c : 0 < z
    · rw [if_pos (e.mpr c)]; congr 1; omega
    · rw [if_neg (fun q => c (e.mp q)), lI_neg]; congr 1; omega
  rw [X7_commonDivisor, ab x hx, ab y hy, zl, zl]
  exact e_gcdL N 60 N 0 _ _ hy (by omega) (by omega) (by omega) (by omega)
theorem e_div {N : Nat} (hN : 1000 < N) {x y : Int} (hx : x.natAbs < 2 ^ 60) (hy : y.natAbs < 2 ^ 60) : X8_divisor N (lI x) (lI y) = some (lI (Nat.gcd x.natAbs y.natAbs : Int)) := by
  have ab : ∀ (z : Int) (K : Int64 → Option Int64), z.natAbs < 2 ^ 60 → (if 0 ≤ lg_cmp (lI z) (0 : Int64) then K (lI z) else K (-lI z)) = K (lI ((z.natAbs : Nat) : Int)) := by
    intro z K hz
    have e : 0 ≤ lg_cmp (lI z) (0 : Int64) ↔ 0 ≤ z := cmp_0le ⟨by omega, by omega⟩
    by_cases c : 0 ≤ z
    · rw [if_pos (e.mpr c)]; congr 2; omega
    · rw [if_neg (fun q => c (e.mp q)), lI_neg]; congr 2; omega
  have e1 : X8_divisor N (lI x) (lI y) = X8_divisor_b12 N (lI y) (lI ((x.natAbs : Nat) : Int)) := ab x (fun z => X8_divisor_b12 N (lI y) z) hx
  have e2 : X8_divisor_b12 N (lI y) (lI ((x.natAbs : Nat) : Int)) = X8_divisor_b26 N (lI ((x.natAbs : Nat) : Int)) (lI ((y.natAbs : Nat) : Int)) := ab y (fun z => X8_divisor_b26 N (lI ((x.natAbs : Nat) : Int)) z) hy
  rw [e1, e2, X8_divisor_b26]
  exact e_gcdM N 60 N _ _ hy (by omega) (by omega) (by omega)
