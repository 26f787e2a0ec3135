/-! Numbers: machine words as images of integers -/
def iI (x : Int) : Int32 := Int32.ofInt x
def lI (x : Int) : Int64 := Int64.ofInt x
theorem iI_add (x y : Int) : iI x + iI y = iI (x + y) := (Int32.ofInt_add x y).symm
theorem iI_sub (x y : Int) : iI x - iI y = iI (x - y) := (Int32.ofInt_sub x y).symm
theorem iI_mul (x y : Int) : iI x * iI y = iI (x * y) := (Int32.ofInt_mul x y).symm
theorem iI_neg (x : Int) : -iI x = iI (-x) := (Int32.ofInt_neg x).symm
theorem lI_add (x y : Int) : lI x + lI y = lI (x + y) := (Int64.ofInt_add x y).symm
theorem lI_sub (x y : Int) : lI x - lI y = lI (x - y) := (Int64.ofInt_sub x y).symm
theorem lI_mul (x y : Int) : lI x * lI y = lI (x * y) := (Int64.ofInt_mul x y).symm
theorem lI_neg (x : Int) : -lI x = lI (-x) := (Int64.ofInt_neg x).symm
def i3 (x : Int) : Prop := -2147483648 ≤ x ∧ x < 2147483648
def i6 (x : Int) : Prop := -9223372036854775808 ≤ x ∧ x < 9223372036854775808
theorem iI_toInt {x : Int} (h : i3 x) : (iI x).toInt = x := by
  unfold i3 at h
  rw [iI, Int32.toInt_ofInt]
  exact Jvm.Kit.bmod32 (by omega) (by omega)
theorem lI_toInt {x : Int} (h : i6 x) : (lI x).toInt = x := by
  unfold i6 at h
  rw [lI, Int64.toInt_ofInt]
  exact Jvm.Kit.bmod64 (by omega) (by omega)
theorem iI_of (x : Int32) : iI x.toInt = x := Int32.ofInt_toInt x
theorem lI_of (x : Int64) : lI x.toInt = x := Int64.ofInt_toInt x
theorem i3_of (x : Int32) : i3 x.toInt := ⟨by have := Int32.le_toInt x; omega, by have := Int32.toInt_lt x; omega⟩
theorem i6_of (x : Int64) : i6 x.toInt := ⟨by have := Int64.le_toInt x; omega, by have := Int64.toInt_lt x; omega⟩
theorem iI_lt {x y : Int} (hx : i3 x) (hy : i3 y) : iI x < iI y ↔ x < y := by rw [Int32.lt_iff_toInt_lt, iI_toInt hx, iI_toInt hy]
theorem iI_le {x y : Int} (hx : i3 x) (hy : i3 y) : iI x ≤ iI y ↔ x ≤ y := by rw [Int32.le_iff_toInt_le, iI_toInt hx, iI_toInt hy]
theorem iI_eq {x y : Int} (hx : i3 x) (hy : i3 y) : iI x = iI y ↔ x = y := by rw [← Int32.toInt_inj, iI_toInt hx, iI_toInt hy]
theorem lI_lt {x y : Int} (hx : i6 x) (hy : i6 y) : lI x < lI y ↔ x < y := by rw [Int64.lt_iff_toInt_lt, lI_toInt hx, lI_toInt hy]
theorem lI_le {x y : Int} (hx : i6 x) (hy : i6 y) : lI x ≤ lI y ↔ x ≤ y := by rw [Int64.le_iff_toInt_le, lI_toInt hx, lI_toInt hy]
theorem lI_eq {x y : Int} (hx : i6 x) (hy : i6 y) : lI x = lI y ↔ x = y := by rw [← Int64.toInt_inj, lI_toInt hx, lI_toInt hy]
theorem iI_l {x : Int} (h : i3 x) : (iI x).toInt64 = lI x := by
  rw [← Int64.toInt_inj, Int32.toInt_toInt64, iI_toInt h, lI_toInt]
  unfold i3 at h
  unfold i6
  omega
theorem lI_i (x : Int) : (lI x).toInt32 = iI x := by
  rw [← Int32.toInt_inj, Int64.toInt_toInt32, lI, Int64.toInt_ofInt, iI, Int32.toInt_ofInt]
  exact Int.bmod_bmod_of_dvd (by decide)
theorem iI_nat (n : Nat) : iI (n : Int) = nI n := by
  rw [← Int32.toInt_inj, iI, nI, Int32.toInt_ofInt, Int32.toInt_ofNat']
theorem iI_cl {x : Int} (h : i3 x) : (iI x).toNatClampNeg = x.toNat := by rw [Int32.toNatClampNeg, iI_toInt h]
theorem iI_n (n : Nat) : (OfNat.ofNat n : Int32) = iI n := by rw [iI_nat]; rfl
theorem c_0 : (0 : Int32) = iI 0 := rfl
theorem c_1 : (1 : Int32) = iI 1 := rfl
theorem c_2 : (2 : Int32) = iI 2 := rfl
theorem c_3 : (3 : Int32) = iI 3 := rfl
theorem c_m1 : (-1 : Int32) = iI (-1) := rfl
theorem c_m2 : (-2 : Int32) = iI (-2) := rfl
theorem c_24 : (24 : Int32) = iI 24 := rfl
theorem c_300 : (300 : Int32) = iI 300 := rfl
theorem c_700 : (700 : Int32) = iI 700 := rfl
theorem cl_0 : (0 : Int64) = lI 0 := rfl
theorem cl_1 : (1 : Int64) = lI 1 := rfl
/-- an index in range -/
theorem zck_i {α : Type} {x : Int} {n : Nat} {k : Option α} (h0 : 0 ≤ x) (h1 : x < n) (hn : n < 2147483648) : zck (iI x) n k = k := by
  have h3 : i3 x := ⟨by omega, by omega⟩
  unfold zck
  rw [if_neg]
  rw [iI_cl h3, c_0, iI_lt h3 (by unfold i3; omega)]
  omega
theorem zcb_1 {α : Type} {k : Option α} : zcb 1 k = k := rfl
theorem zcb_0 {α : Type} {k : Option α} : zcb 0 k = k := rfl
theorem zcb_c {α : Type} {c : Prop} [Decidable c] {k : Option α} : zcb (if c then 1 else 0) k = k := by
  by_cases h : c
  · rw [if_pos h]; rfl
  · rw [if_neg h]; rfl
theorem cmp_eq {x y : Int} (hx : i6 x) (hy : i6 y) : (lg_cmp (lI x) (lI y) = 0 ↔ x = y) := by
  rw [lg_cmp_eq, lI_eq hx hy]
theorem cmp_lt {x y : Int} (hx : i6 x) (hy : i6 y) : (lg_cmp (lI x) (lI y) < 0 ↔ x < y) := by
  rw [lg_cmp_lt, lI_lt hx hy]
theorem cmp_gt {x y : Int} (hx : i6 x) (hy : i6 y) : (0 < lg_cmp (lI x) (lI y) ↔ y < x) := by
  rw [lg_cmp_gt, lI_lt hy hx]
theorem cmp_le {x y : Int} (hx : i6 x) (hy : i6 y) : (lg_cmp (lI x) (lI y) ≤ 0 ↔ x ≤ y) := by
  rw [lg_cmp_le, lI_le hx hy]
theorem cmp_ge {x y : Int} (hx : i6 x) (hy : i6 y) : (0 ≤ lg_cmp (lI x) (lI y) ↔ y ≤ x) := by
  rw [lg_cmp_ge, lI_le hy hx]
