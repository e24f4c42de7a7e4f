section NUM
/-! Whole numbers as ints: ring operations always, comparisons in range. -/
def ii_I (x : Int) : Int32 := Int32.ofInt x
theorem ii_n (n : Nat) : nI n = ii_I (n : Int) := (Int32.ofInt_eq_ofNat).symm
theorem ii_t (x : Int32) : ii_I x.toInt = x := Int32.ofInt_toInt x
theorem ii_add (a b : Int) : ii_I a + ii_I b = ii_I (a + b) := (Int32.ofInt_add a b).symm
theorem ii_mul (a b : Int) : ii_I a * ii_I b = ii_I (a * b) := (Int32.ofInt_mul a b).symm
theorem ii_neg (a : Int) : -ii_I a = ii_I (-a) := (Int32.ofInt_neg a).symm
theorem ii_sub (a b : Int) : ii_I a - ii_I b = ii_I (a - b) := (Int32.ofInt_sub a b).symm
def ii_R (x : Int) : Prop := -2147483648 ≤ x ∧ x < 2147483648
theorem ii_toInt {x : Int} (h : ii_R x) : (ii_I x).toInt = x := Int32.toInt_ofInt_of_le h.1 h.2
theorem ii_R32 (x : Int32) : ii_R x.toInt := ⟨by have := Int32.le_toInt x; omega, by have := Int32.toInt_lt x; omega⟩
theorem ii_eq {a b : Int} (ha : ii_R a) (hb : ii_R b) : ii_I a = ii_I b ↔ a = b := by
  constructor
  · intro h
    have := congrArg Int32.toInt h
    rwa [ii_toInt ha, ii_toInt hb] at this
  · intro h; rw [h]
theorem ii_le {a b : Int} (ha : ii_R a) (hb : ii_R b) : ii_I a ≤ ii_I b ↔ a ≤ b := by
  rw [Int32.le_iff_toInt_le, ii_toInt ha, ii_toInt hb]
theorem ii_lt {a b : Int} (ha : ii_R a) (hb : ii_R b) : ii_I a < ii_I b ↔ a < b := by
  rw [Int32.lt_iff_toInt_lt, ii_toInt ha, ii_toInt hb]
/-! longs -/
def jl_J (x : Int) : Int64 := Int64.ofInt x
theorem jl_t (x : Int64) : jl_J x.toInt = x := Int64.ofInt_toInt x
theorem jl_add (a b : Int) : jl_J a + jl_J b = jl_J (a + b) := (Int64.ofInt_add a b).symm
theorem jl_mul (a b : Int) : jl_J a * jl_J b = jl_J (a * b) := (Int64.ofInt_mul a b).symm
theorem jl_neg (a : Int) : -jl_J a = jl_J (-a) := (Int64.ofInt_neg a).symm
theorem jl_sub (a b : Int) : jl_J a - jl_J b = jl_J (a - b) := (Int64.ofInt_sub a b).symm
def jl_R (x : Int) : Prop := -9223372036854775808 ≤ x ∧ x < 9223372036854775808
theorem jl_toInt {x : Int} (h : jl_R x) : (jl_J x).toInt = x := Int64.toInt_ofInt_of_le h.1 h.2
theorem jl_eq {a b : Int} (ha : jl_R a) (hb : jl_R b) : jl_J a = jl_J b ↔ a = b := by
  constructor
  · intro h
    have := congrArg Int64.toInt h
    rwa [jl_toInt ha, jl_toInt hb] at this
  · intro h; rw [h]
theorem jl_le {a b : Int} (ha : jl_R a) (hb : jl_R b) : jl_J a ≤ jl_J b ↔ a ≤ b := by
  rw [Int64.le_iff_toInt_le, jl_toInt ha, jl_toInt hb]
theorem jl_lt {a b : Int} (ha : jl_R a) (hb : jl_R b) : jl_J a < jl_J b ↔ a < b := by
  rw [Int64.lt_iff_toInt_lt, jl_toInt ha, jl_toInt hb]
theorem jl_i {x : Int} (h : ii_R x) : (ii_I x).toInt64 = jl_J x := by
  rw [← jl_t (ii_I x).toInt64, Int32.toInt_toInt64, ii_toInt h]
theorem jl_o {x : Int} (h : jl_R x) (h2 : ii_R x) : (jl_J x).toInt32 = ii_I x := by
  rw [← ii_t (jl_J x).toInt32, Int64.toInt_toInt32, jl_toInt h]
  unfold ii_R at h2
  rw [Int.bmod_eq_of_le (by omega) (by omega)]
end NUM
