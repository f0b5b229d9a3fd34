/-! Int beside Int32 and Int64 -/
abbrev i32 (x : Int) : Int32 := Int32.ofInt x
abbrev i64 (x : Int) : Int64 := Int64.ofInt x
def inR (x : Int) : Prop := -2147483648 ≤ x ∧ x ≤ 2147483647
def inL (x : Int) : Prop := -9223372036854775808 ≤ x ∧ x ≤ 9223372036854775807
theorem wr_in (z : Int) : inR (wr z) := by unfold inR wr; omega
theorem wl_in (z : Int) : inL (wl z) := by unfold inL wl; omega
theorem wr_id {z : Int} (h1 : -2147483648 ≤ z) (h2 : z ≤ 2147483647) : wr z = z := by unfold wr; omega
theorem wl_id {z : Int} (h1 : -9223372036854775808 ≤ z) (h2 : z ≤ 9223372036854775807) : wl z = z := by unfold wl; omega
theorem i32_toInt {x : Int} (h : inR x) : (i32 x).toInt = x := Int32.toInt_ofInt_of_le (by unfold inR at h; omega) (by unfold inR at h; omega)
theorem i64_toInt {x : Int} (h : inL x) : (i64 x).toInt = x := Int64.toInt_ofInt_of_le (by unfold inL at h; omega) (by unfold inL at h; omega)
theorem toInt_in (x : Int32) : inR x.toInt := by
  have h1 := x.toInt_lt; have h2 := x.le_toInt; unfold inR; omega
theorem toInt_inL (x : Int64) : inL x.toInt := by
  have h1 := x.toInt_lt; have h2 := x.le_toInt; unfold inL; omega
theorem i32_wr (z : Int) : i32 (wr z) = i32 z := by
  apply Int32.toInt_inj.mp
  rw [i32_toInt (wr_in z), Int32.toInt_ofInt]
  unfold wr
  rw [Int.bmod_def, show ((Int32.size : Nat) : Int) = 4294967296 from rfl]
  split <;> omega
theorem i64_wl (z : Int) : i64 (wl z) = i64 z := by
  apply Int64.toInt_inj.mp
  rw [i64_toInt (wl_in z), Int64.toInt_ofInt]
  unfold wl
  rw [Int.bmod_def, show ((Int64.size : Nat) : Int) = 18446744073709551616 from rfl]
  split <;> omega
theorem i32_inj {x y : Int} (hx : inR x) (hy : inR y) : i32 x = i32 y ↔ x = y := by
  constructor
  · intro h
    have := congrArg Int32.toInt h
    rwa [i32_toInt hx, i32_toInt hy] at this
  · intro h; rw [h]
theorem i32_lt {x y : Int} (hx : inR x) (hy : inR y) : i32 x < i32 y ↔ x < y := by
  rw [Int32.lt_iff_toInt_lt, i32_toInt hx, i32_toInt hy]
theorem i32_le {x y : Int} (hx : inR x) (hy : inR y) : i32 x ≤ i32 y ↔ x ≤ y := by
  rw [Int32.le_iff_toInt_le, i32_toInt hx, i32_toInt hy]
theorem inR0 : inR 0 := by unfold inR; omega
theorem inR1 : inR 1 := by unfold inR; omega
theorem i32_0 : (0 : Int32) = i32 0 := rfl
theorem i32_add (x y : Int) : i32 x + i32 y = i32 (wr (x + y)) := by rw [i32_wr]; exact (Int32.ofInt_add x y).symm
theorem i32_sub (x y : Int) : i32 x - i32 y = i32 (wr (x - y)) := by rw [i32_wr]; exact (Int32.ofInt_sub x y).symm
theorem i32_mul (x y : Int) : i32 x * i32 y = i32 (wr (x * y)) := by rw [i32_wr]; exact (Int32.ofInt_mul x y).symm
theorem i64_add (x y : Int) : i64 x + i64 y = i64 (wl (x + y)) := by rw [i64_wl]; exact (Int64.ofInt_add x y).symm
theorem i64_mul (x y : Int) : i64 x * i64 y = i64 (wl (x * y)) := by rw [i64_wl]; exact (Int64.ofInt_mul x y).symm
theorem i32_div {x y : Int} (hx : inR x) (hy : inR y) : i32 x / i32 y = i32 (wr (x.tdiv y)) := by
  rw [i32_wr]
  apply Int32.toInt_inj.mp
  rw [Int32.toInt_div, i32_toInt hx, i32_toInt hy, Int32.toInt_ofInt]
theorem i32_rem {x y : Int} (hx : inR x) (hy : inR y) : i32 x - i32 x / i32 y * i32 y = i32 (x.tmod y) := by
  rw [i32_div hx hy, i32_wr]
  rw [show i32 (x.tdiv y) * i32 y = i32 (x.tdiv y * y) from (Int32.ofInt_mul _ _).symm]
  rw [show i32 x - i32 (x.tdiv y * y) = i32 (x - x.tdiv y * y) from (Int32.ofInt_sub _ _).symm]
  rw [Int.tmod_def, Int.mul_comm y]
theorem tmod_in {x y : Int} (hx : inR x) : inR (x.tmod y) := by
  unfold inR at *
  have h1 := Int.natAbs_tmod x y
  have h2 : (x.tmod y).natAbs ≤ x.natAbs := by rw [h1]; exact Nat.mod_le _ _
  by_cases h : 0 ≤ x
  · have := Int.tmod_nonneg y h; omega
  · have h3 : (-x).tmod y = - x.tmod y := Int.neg_tmod x y
    have := Int.tmod_nonneg y (show 0 ≤ -x by omega)
    omega
theorem i32_ofToInt (x : Int32) : i32 x.toInt = x := Int32.ofInt_toInt x
theorem i64_ofToInt (x : Int64) : i64 x.toInt = x := Int64.ofInt_toInt x
theorem i32_i64 {x : Int} (hx : inR x) : (i32 x).toInt64 = i64 x := Int32.toInt64_ofInt (by rw [show Int32.minValue.toInt = -2147483648 from rfl]; exact hx.1) (by rw [show Int32.maxValue.toInt = 2147483647 from rfl]; exact hx.2)
theorem i64_i32 (x : Int) : (i64 x).toInt32 = i32 (wr x) := by rw [i32_wr]; exact Int64.toInt32_ofInt
theorem i64_cmp {x y : Int} (hx : inL x) (hy : inL y) : lg_cmp (i64 x) (i64 y) = i32 (lCmp x y) := by
  have e1 : (i64 x < i64 y) ↔ x < y := by rw [Int64.lt_iff_toInt_lt, i64_toInt hx, i64_toInt hy]
  have e2 : (i64 x = i64 y) ↔ x = y := by rw [← Int64.toInt_inj, i64_toInt hx, i64_toInt hy]
  have e3 : (i64 y < i64 x) ↔ y < x := by rw [Int64.lt_iff_toInt_lt, i64_toInt hx, i64_toInt hy]
  unfold lg_cmp lCmp
  simp only [e1, e2, e3, gt_iff_lt]
  by_cases h1 : x < y
  · have h2 : ¬ y < x := by omega
    have h3 : ¬ x = y := by omega
    simp [h1, h2, h3] <;> rfl
  · by_cases h3 : x = y
    · have h2 : ¬ y < x := by omega
      simp [h3] <;> rfl
    · have h2 : y < x := by omega
      simp [h1, h2, h3] <;> rfl
theorem lCmp_in (x y : Int) : inR (lCmp x y) := by unfold inR lCmp; split <;> (try split) <;> omega
theorem nclamp {x : Int} (h0 : 0 ≤ x) (h : inR x) : (i32 x).toNatClampNeg = x.toNat := by
  unfold inR at h
  exact Int32.toNatClampNeg_ofInt_of_le (by omega) (by omega)
theorem vp_in_of_le {x : Int} {n : Nat} (h : inR x) (h0 : 0 ≤ x) (h1 : x < n) : vp_in (i32 x) n := by
  rw [vp_in_iff, i32_toInt h]; exact ⟨h0, h1⟩
