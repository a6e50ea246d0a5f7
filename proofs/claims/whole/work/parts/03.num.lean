/-! numbers: a Java int is told by the integer that it is -/
def r32 (x : Int) : Prop := -2147483648 ≤ x ∧ x < 2147483648
def r64 (x : Int) : Prop := -9223372036854775808 ≤ x ∧ x < 9223372036854775808
def w32 (x : Int) : Int := (x + 2147483648) % 4294967296 - 2147483648
def w64 (x : Int) : Int := (x + 9223372036854775808) % 18446744073709551616 - 9223372036854775808
def w8 (x : Int) : Int := (x + 128) % 256 - 128
def w16 (x : Int) : Int := (x + 32768) % 65536 - 32768
abbrev i32 (x : Int) : Int32 := Int32.ofInt x
abbrev i64 (x : Int) : Int64 := Int64.ofInt x
theorem w32_r (x : Int) : r32 (w32 x) := by unfold w32 r32; omega
theorem w64_r (x : Int) : r64 (w64 x) := by unfold w64 r64; omega
theorem w32_of {x : Int} (h : r32 x) : w32 x = x := by unfold w32; unfold r32 at h; omega
theorem w64_of {x : Int} (h : r64 x) : w64 x = x := by unfold w64; unfold r64 at h; omega
theorem w32_bmod (x : Int) : x.bmod 4294967296 = w32 x := by
  unfold w32
  rw [Int.bmod_def]
  split <;> omega
theorem w64_bmod (x : Int) : x.bmod 18446744073709551616 = w64 x := by
  unfold w64
  rw [Int.bmod_def]
  split <;> omega
theorem w8_bmod (x : Int) : x.bmod 256 = w8 x := by
  unfold w8
  rw [Int.bmod_def]
  split <;> omega
theorem w16_bmod (x : Int) : x.bmod 65536 = w16 x := by
  unfold w16
  rw [Int.bmod_def]
  split <;> omega
theorem i32_toInt (x : Int) : (i32 x).toInt = w32 x := by rw [← w32_bmod]; exact Int32.toInt_ofInt
theorem i64_toInt (x : Int) : (i64 x).toInt = w64 x := by rw [← w64_bmod]; exact Int64.toInt_ofInt
theorem i32_to {x : Int} (h : r32 x) : (i32 x).toInt = x := by rw [i32_toInt, w32_of h]
theorem i64_to {x : Int} (h : r64 x) : (i64 x).toInt = x := by rw [i64_toInt, w64_of h]
theorem i32_is {a : Int32} {x : Int} (h : a.toInt = x) : a = i32 x := by rw [← h]; exact (Int32.ofInt_toInt a).symm
theorem i64_is {a : Int64} {x : Int} (h : a.toInt = x) : a = i64 x := by rw [← h]; exact (Int64.ofInt_toInt a).symm
theorem t32_r (a : Int32) : r32 a.toInt := by
  have h1 := Int32.toInt_lt a
  have h2 := Int32.le_toInt a
  unfold r32
  constructor
  · simpa using h2
  · simpa using h1
theorem t64_r (a : Int64) : r64 a.toInt := by
  have h1 := Int64.toInt_lt a
  have h2 := Int64.le_toInt a
  unfold r64
  constructor
  · simpa using h2
  · simpa using h1
theorem i32_add (x y : Int) : i32 x + i32 y = i32 (w32 (x + y)) := i32_is (by rw [Int32.toInt_add, i32_toInt, i32_toInt, ← w32_bmod, ← w32_bmod, ← w32_bmod]; simp [Int.bmod_add_bmod, Int.add_bmod_bmod])
theorem i32_sub (x y : Int) : i32 x - i32 y = i32 (w32 (x - y)) := i32_is (by rw [Int32.toInt_sub, i32_toInt, i32_toInt, ← w32_bmod, ← w32_bmod, ← w32_bmod]; simp [Int.bmod_sub_bmod, Int.sub_bmod_bmod])
theorem i32_mul (x y : Int) : i32 x * i32 y = i32 (w32 (x * y)) := i32_is (by rw [Int32.toInt_mul, i32_toInt, i32_toInt, ← w32_bmod, ← w32_bmod, ← w32_bmod]; simp [Int.bmod_mul_bmod, Int.mul_bmod_bmod])
theorem i32_neg (x : Int) : - i32 x = i32 (w32 (-x)) := i32_is (by rw [Int32.toInt_neg, i32_toInt, ← w32_bmod, ← w32_bmod]; simp)
theorem i64_add (x y : Int) : i64 x + i64 y = i64 (w64 (x + y)) := i64_is (by rw [Int64.toInt_add, i64_toInt, i64_toInt, ← w64_bmod, ← w64_bmod, ← w64_bmod]; simp [Int.bmod_add_bmod, Int.add_bmod_bmod])
theorem i64_sub (x y : Int) : i64 x - i64 y = i64 (w64 (x - y)) := i64_is (by rw [Int64.toInt_sub, i64_toInt, i64_toInt, ← w64_bmod, ← w64_bmod, ← w64_bmod]; simp [Int.bmod_sub_bmod, Int.sub_bmod_bmod])
theorem i64_mul (x y : Int) : i64 x * i64 y = i64 (w64 (x * y)) := i64_is (by rw [Int64.toInt_mul, i64_toInt, i64_toInt, ← w64_bmod, ← w64_bmod, ← w64_bmod]; simp [Int.bmod_mul_bmod, Int.mul_bmod_bmod])
theorem i32_lt {x y : Int} (hx : r32 x) (hy : r32 y) : (i32 x < i32 y) ↔ x < y := by rw [Int32.lt_iff_toInt_lt, i32_to hx, i32_to hy]
theorem i32_le {x y : Int} (hx : r32 x) (hy : r32 y) : (i32 x ≤ i32 y) ↔ x ≤ y := by rw [Int32.le_iff_toInt_le, i32_to hx, i32_to hy]
theorem i32_inj {x y : Int} (hx : r32 x) (hy : r32 y) : (i32 x = i32 y) ↔ x = y := ⟨fun h => by rw [← i32_to hx, ← i32_to hy, h], fun h => by rw [h]⟩
theorem i64_lt {x y : Int} (hx : r64 x) (hy : r64 y) : (i64 x < i64 y) ↔ x < y := by rw [Int64.lt_iff_toInt_lt, i64_to hx, i64_to hy]
theorem i64_inj {x y : Int} (hx : r64 x) (hy : r64 y) : (i64 x = i64 y) ↔ x = y := ⟨fun h => by rw [← i64_to hx, ← i64_to hy, h], fun h => by rw [h]⟩
theorem i32_clamp {x : Int} (hx : r32 x) : (i32 x).toNatClampNeg = x.toNat := by
  show (i32 x).toInt.toNat = x.toNat
  rw [i32_to hx]
theorem r32_0 : r32 0 := by unfold r32; omega
theorem i32_0 : (0 : Int32) = i32 0 := rfl
theorem i64_0 : (0 : Int64) = i64 0 := rfl
/-- an index within -/
theorem i32_in {x : Int} {n : Nat} (hx : r32 x) (h0 : 0 ≤ x) (h1 : x < n) : vp_in (i32 x) n := by
  rintro (h | h)
  · rw [i32_0, i32_lt hx r32_0] at h
    omega
  · rw [i32_clamp hx] at h
    omega
/-- the answers of the bits' operations -/
def bAnd (x y : Int) : Int := (i32 x &&& i32 y).toInt
def bOr (x y : Int) : Int := (i32 x ||| i32 y).toInt
def bXor (x y : Int) : Int := (i32 x ^^^ i32 y).toInt
def bShl (x y : Int) : Int := (i32 x <<< (i32 y &&& 31)).toInt
def bShr (x y : Int) : Int := (i32 x >>> (i32 y &&& 31)).toInt
def bUshr (x y : Int) : Int := ((i32 x).toUInt32 >>> ((i32 y).toUInt32 &&& Int32.toUInt32 31)).toInt32.toInt
def iDiv (x y : Int) : Int := w32 (x.tdiv y)
def iRem (x y : Int) : Int := x.tmod y
def lDiv (x y : Int) : Int := w64 (x.tdiv y)
def lRem (x y : Int) : Int := x.tmod y
def lAnd (x y : Int) : Int := (i64 x &&& i64 y).toInt
def lOr (x y : Int) : Int := (i64 x ||| i64 y).toInt
def lShl (x y : Int) : Int := (i64 x <<< ((i32 y).toInt64 &&& 63)).toInt
def cmp3 (x y : Int) : Int := if x < y then -1 else if x = y then 0 else 1
theorem i32_div {x y : Int} (hx : r32 x) (hy : r32 y) : i32 x / i32 y = i32 (iDiv x y) := i32_is (by rw [Int32.toInt_div, i32_to hx, i32_to hy, iDiv, ← w32_bmod])
theorem i64_div {x y : Int} (hx : r64 x) (hy : r64 y) : i64 x / i64 y = i64 (lDiv x y) := i64_is (by rw [Int64.toInt_div, i64_to hx, i64_to hy, lDiv, ← w64_bmod])
theorem i32_rem {x y : Int} (hx : r32 x) (hy : r32 y) : i32 x - i32 x / i32 y * i32 y = i32 (iRem x y) := i32_is (by rw [rem_toInt, i32_to hx, i32_to hy, iRem])
theorem tmod_le' {x : Int} (h : 0 ≤ x) (y : Int) : x.tmod y ≤ x := by
  obtain ⟨n, rfl⟩ := Int.eq_ofNat_of_zero_le h
  obtain ⟨m, rfl | rfl⟩ := Int.eq_nat_or_neg y
  · rw [← Int.ofNat_tmod]
    exact Int.ofNat_le.mpr (Nat.mod_le n m)
  · rw [Int.tmod_neg, ← Int.ofNat_tmod]
    exact Int.ofNat_le.mpr (Nat.mod_le n m)
theorem tmod_w {x y M : Int} (hM : 0 < M) (hx : -M ≤ x ∧ x < M) : -M ≤ x.tmod y ∧ x.tmod y < M := by
  rcases Int.lt_or_le x 0 with h | h
  · have h1 : x.tmod y ≤ 0 := by
      have := Int.tmod_nonneg y (show 0 ≤ -x by omega)
      rw [Int.neg_tmod] at this
      omega
    have h2 : x ≤ x.tmod y := by
      have := tmod_le' (show 0 ≤ -x by omega) y
      rw [Int.neg_tmod] at this
      omega
    omega
  · have h1 := Int.tmod_nonneg y h
    have h2 := tmod_le' h y
    omega
theorem i64_rem {x y : Int} (hx : r64 x) (hy : r64 y) : i64 x - i64 x / i64 y * i64 y = i64 (lRem x y) := by
  refine i64_is ?_
  rw [Int64.toInt_sub, Int64.toInt_mul, Int64.toInt_div, i64_to hx, i64_to hy, lRem]
  simp only [Int.bmod_mul_bmod, Int.sub_bmod_bmod]
  have e : x - x.tdiv y * y = x.tmod y := by
    have := Int.tmod_add_tdiv_mul x y
    omega
  rw [e]
  have := tmod_w (x := x) (y := y) (M := 9223372036854775808) (by omega) hx
  have h2 : w64 (x.tmod y) = x.tmod y := w64_of this
  rw [← h2, ← w64_bmod]
  simp
theorem r32_iRem {x y : Int} (hx : r32 x) : r32 (iRem x y) := tmod_w (M := 2147483648) (by omega) hx
theorem r64_lRem {x y : Int} (hx : r64 x) : r64 (lRem x y) := tmod_w (M := 9223372036854775808) (by omega) hx
theorem cmp3_r (x y : Int) : r32 (cmp3 x y) := by unfold cmp3 r32; split <;> (try split) <;> omega
theorem lg_cmp3 {x y : Int} (hx : r64 x) (hy : r64 y) : lg_cmp (i64 x) (i64 y) = i32 (cmp3 x y) := by
  unfold lg_cmp cmp3
  simp only [i64_lt hx hy, i64_lt hy hx, i64_inj hx hy]
  by_cases h1 : x < y
  · have h2 : ¬ x = y := by omega
    simp [h1, h2, Int.not_lt.mpr (Int.le_of_lt h1)] <;> (try rfl)
  · by_cases h2 : x = y
    · subst h2
      simp <;> (try rfl)
    · have h3 : y < x := by omega
      simp [h1, h2, h3] <;> (try rfl)
theorem i2l_is {x : Int} (h : r32 x) : (i32 x).toInt64 = i64 x := i64_is (by rw [Int32.toInt_toInt64, i32_to h])
theorem l2i_is {x : Int} (h : r64 x) : (i64 x).toInt32 = i32 (w32 x) := i32_is (by rw [Int64.toInt_toInt32, i64_to h, ← w32_bmod])
theorem i2b_is {x : Int} (h : r32 x) : (i32 x).toInt8.toInt32 = i32 (w8 x) := i32_is (by rw [lg_i2b_toInt, i32_to h, ← w8_bmod])
theorem i2s_is {x : Int} (h : r32 x) : (i32 x).toInt16.toInt32 = i32 (w16 x) := i32_is (by rw [lg_i2s_toInt, i32_to h, ← w16_bmod])
theorem w8_r (x : Int) : r32 (w8 x) := by unfold w8 r32; omega
theorem w16_r (x : Int) : r32 (w16 x) := by unfold w16 r32; omega
theorem r32_64 {x : Int} (h : r32 x) : r64 x := by unfold r32 at h; unfold r64; omega
