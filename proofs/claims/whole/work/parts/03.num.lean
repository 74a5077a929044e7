-- numbers: the machine's ints as whole numbers within their range
abbrev AV : Type := Nat × Int
abbrev Hp : Type := Int → Int → Int
def I32 (z : Int) : Int32 := Int32.ofInt z
def I64 (z : Int) : Int64 := Int64.ofInt z
def w32 (z : Int) : Int := (z + 2147483648) % 4294967296 - 2147483648
def w64 (z : Int) : Int := (z + 9223372036854775808) % 18446744073709551616 - 9223372036854775808
def r32 (z : Int) : Prop := -2147483648 ≤ z ∧ z ≤ 2147483647
def r64 (z : Int) : Prop := -9223372036854775808 ≤ z ∧ z ≤ 9223372036854775807
theorem w32_r (z : Int) : r32 (w32 z) := by unfold r32 w32; omega
theorem w64_r (z : Int) : r64 (w64 z) := by unfold r64 w64; omega
theorem w32_id {z : Int} (h1 : -2147483648 ≤ z) (h2 : z ≤ 2147483647) : w32 z = z := by unfold w32; omega
theorem w64_id {z : Int} (h1 : -9223372036854775808 ≤ z) (h2 : z ≤ 9223372036854775807) : w64 z = z := by unfold w64; omega
theorem w32_bmod (z : Int) : z.bmod 4294967296 = w32 z := by
  unfold Int.bmod w32
  dsimp only
  split <;> omega
theorem w64_bmod (z : Int) : z.bmod 18446744073709551616 = w64 z := by
  unfold Int.bmod w64
  dsimp only
  split <;> omega
theorem I32_toInt' (z : Int) : (I32 z).toInt = w32 z := by
  unfold I32
  rw [Int32.toInt_ofInt]
  exact w32_bmod z
theorem I64_toInt' (z : Int) : (I64 z).toInt = w64 z := by
  unfold I64
  rw [Int64.toInt_ofInt]
  exact w64_bmod z
theorem I32_toInt {z : Int} (h : r32 z) : (I32 z).toInt = z := by rw [I32_toInt', w32_id h.1 h.2]
theorem I64_toInt {z : Int} (h : r64 z) : (I64 z).toInt = z := by rw [I64_toInt', w64_id h.1 h.2]
theorem I32_of (x : Int32) : I32 x.toInt = x := Int32.ofInt_toInt x
theorem I64_of (x : Int64) : I64 x.toInt = x := Int64.ofInt_toInt x
theorem toInt_r32 (x : Int32) : r32 x.toInt := by
  have h1 := x.toInt_lt
  have h2 := x.le_toInt
  unfold r32
  omega
theorem toInt_r64 (x : Int64) : r64 x.toInt := by
  have h1 := x.toInt_lt
  have h2 := x.le_toInt
  unfold r64
  omega
theorem I32_eq {x : Int32} {z : Int} (h : x.toInt = w32 z) : I32 (w32 z) = x := by rw [← h]; exact I32_of x
theorem I32_w (z : Int) : I32 (w32 z) = I32 z := I32_eq (I32_toInt' z)
theorem I64_w (z : Int) : I64 (w64 z) = I64 z := by rw [← I64_toInt' z]; exact I64_of _
theorem I32_add (a b : Int) : I32 (w32 (a + b)) = I32 a + I32 b := by rw [I32_w]; exact Int32.ofInt_add a b
theorem I32_sub (a b : Int) : I32 (w32 (a - b)) = I32 a - I32 b := by rw [I32_w]; exact Int32.ofInt_sub a b
theorem I32_mul (a b : Int) : I32 (w32 (a * b)) = I32 a * I32 b := by rw [I32_w]; exact Int32.ofInt_mul a b
theorem I32_neg (a : Int) : I32 (w32 (-a)) = -I32 a := by rw [I32_w]; exact Int32.ofInt_neg a
theorem I64_add (a b : Int) : I64 (w64 (a + b)) = I64 a + I64 b := by rw [I64_w]; exact Int64.ofInt_add a b
theorem I64_sub (a b : Int) : I64 (w64 (a - b)) = I64 a - I64 b := by rw [I64_w]; exact Int64.ofInt_sub a b
theorem I64_mul (a b : Int) : I64 (w64 (a * b)) = I64 a * I64 b := by rw [I64_w]; exact Int64.ofInt_mul a b
theorem I32_lt {a b : Int} (ha : r32 a) (hb : r32 b) : I32 a < I32 b ↔ a < b := by rw [Int32.lt_iff_toInt_lt, I32_toInt ha, I32_toInt hb]
theorem I32_le {a b : Int} (ha : r32 a) (hb : r32 b) : I32 a ≤ I32 b ↔ a ≤ b := by rw [Int32.le_iff_toInt_le, I32_toInt ha, I32_toInt hb]
theorem I32_inj {a b : Int} (ha : r32 a) (hb : r32 b) : I32 a = I32 b ↔ a = b := by rw [← Int32.toInt_inj, I32_toInt ha, I32_toInt hb]
theorem I64_lt {a b : Int} (ha : r64 a) (hb : r64 b) : I64 a < I64 b ↔ a < b := by rw [Int64.lt_iff_toInt_lt, I64_toInt ha, I64_toInt hb]
theorem I64_inj {a b : Int} (ha : r64 a) (hb : r64 b) : I64 a = I64 b ↔ a = b := by rw [← Int64.toInt_inj, I64_toInt ha, I64_toInt hb]
theorem I32_0 {a : Int} (ha : r32 a) : I32 a = 0 ↔ a = 0 := I32_inj ha (b := 0) (by unfold r32; omega)
theorem I64_0 {a : Int} (ha : r64 a) : I64 a = 0 ↔ a = 0 := I64_inj ha (b := 0) (by unfold r64; omega)
-- division, remainder
def idiv (a b : Int) : Int := w32 (a.tdiv b)
def irem (a b : Int) : Int := a.tmod b
def ldiv (a b : Int) : Int := w64 (a.tdiv b)
def lrem (a b : Int) : Int := a.tmod b
theorem I32_div {a b : Int} (ha : r32 a) (hb : r32 b) : I32 (idiv a b) = I32 a / I32 b := by
  unfold idiv
  refine I32_eq ?_
  rw [Int32.toInt_div, I32_toInt ha, I32_toInt hb]
  exact w32_bmod _
theorem I64_div {a b : Int} (ha : r64 a) (hb : r64 b) : I64 (ldiv a b) = I64 a / I64 b := by
  unfold ldiv
  have h : (I64 a / I64 b).toInt = w64 (a.tdiv b) := by
    rw [Int64.toInt_div, I64_toInt ha, I64_toInt hb]
    exact w64_bmod _
  rw [← h]
  exact I64_of _
theorem I32_rem {a b : Int} (ha : r32 a) (hb : r32 b) : I32 (irem a b) = I32 a - I32 a / I32 b * I32 b := by
  have h : I32 a - I32 a / I32 b * I32 b = I32 (a - idiv a b * b) := by
    rw [← I32_div ha hb]
    unfold I32
    rw [Int32.ofInt_sub, Int32.ofInt_mul]
  rw [h]
  have h2 : a - idiv a b * b = irem a b + (a.tdiv b - idiv a b) * b := by
    unfold irem
    rw [Int.sub_mul, Int.tmod_def, Int.mul_comm b]
    omega
  have h3 : ∃ k : Int, a.tdiv b - idiv a b = 4294967296 * k := by
    refine ⟨(a.tdiv b + 2147483648) / 4294967296, ?_⟩
    unfold idiv w32
    omega
  obtain ⟨k, hk⟩ := h3
  rw [h2, hk, ← I32_w (irem a b), ← I32_w (irem a b + 4294967296 * k * b)]
  congr 1
  have h4 : (4294967296 : Int) * k * b = 4294967296 * (k * b) := by rw [Int.mul_assoc]
  rw [h4]
  unfold w32
  omega
theorem I64_rem {a b : Int} (ha : r64 a) (hb : r64 b) : I64 (lrem a b) = I64 a - I64 a / I64 b * I64 b := by
  have h : I64 a - I64 a / I64 b * I64 b = I64 (a - ldiv a b * b) := by
    rw [← I64_div ha hb]
    unfold I64
    rw [Int64.ofInt_sub, Int64.ofInt_mul]
  rw [h]
  have h2 : a - ldiv a b * b = lrem a b + (a.tdiv b - ldiv a b) * b := by
    unfold lrem
    rw [Int.sub_mul, Int.tmod_def, Int.mul_comm b]
    omega
  have h3 : ∃ k : Int, a.tdiv b - ldiv a b = 18446744073709551616 * k := by
    refine ⟨(a.tdiv b + 9223372036854775808) / 18446744073709551616, ?_⟩
    unfold ldiv w64
    omega
  obtain ⟨k, hk⟩ := h3
  rw [h2, hk, ← I64_w (lrem a b), ← I64_w (lrem a b + 18446744073709551616 * k * b)]
  congr 1
  have h4 : (18446744073709551616 : Int) * k * b = 18446744073709551616 * (k * b) := by rw [Int.mul_assoc]
  rw [h4]
  unfold w64
  omega
theorem irem_r {a b : Int} (ha : r32 a) (hb : r32 b) : r32 (irem a b) := by
  unfold irem r32
  have h1 : (a.tmod b).natAbs ≤ a.natAbs := by rw [Int.natAbs_tmod]; exact Nat.mod_le _ _
  have h2 : a < 0 → a.tmod b ≤ 0 := fun h => by
    have h3 := Int.tmod_nonneg b (a := -a) (by omega)
    rw [Int.neg_tmod] at h3
    omega
  unfold r32 at ha hb
  omega
theorem lrem_r {a b : Int} (ha : r64 a) (hb : r64 b) : r64 (lrem a b) := by
  unfold lrem r64
  have h1 : (a.tmod b).natAbs ≤ a.natAbs := by rw [Int.natAbs_tmod]; exact Nat.mod_le _ _
  have h2 : a < 0 → a.tmod b ≤ 0 := fun h => by
    have h3 := Int.tmod_nonneg b (a := -a) (by omega)
    rw [Int.neg_tmod] at h3
    omega
  unfold r64 at ha hb
  omega
-- bits
def iand (a b : Int) : Int := (I32 a &&& I32 b).toInt
def ior (a b : Int) : Int := (I32 a ||| I32 b).toInt
def ixor (a b : Int) : Int := (I32 a ^^^ I32 b).toInt
def ishl (a b : Int) : Int := (I32 a <<< (I32 b &&& 31)).toInt
def ishr (a b : Int) : Int := (I32 a >>> (I32 b &&& 31)).toInt
def iushr (a b : Int) : Int := ((I32 a).toUInt32 >>> (I32 b &&& 31).toUInt32).toInt32.toInt
def w8 (a : Int) : Int := (a + 128) % 256 - 128
def lcmp (a b : Int) : Int := if b < a then 1 else if a = b then 0 else -1
def b2i (b : Bool) : Int := if b = true then 1 else 0
def zret (v : Int) : Option Bool := if v = 0 then some false else if v = 1 then some true else none
def gd {α : Type} (i n : Int) (X : Option α) : Option α := if 0 ≤ i ∧ i < n then X else none
def nz {α : Type} (b : Int) (X : Option α) : Option α := if b = 0 then none else X
def upd2 (G : Hp) (o j v : Int) : Hp := fun o' j' => if o' = o ∧ j' = j then v else G o' j'
def cpy2 (G : Hp) (a i b j n : Int) : Hp := fun o k => if o = b ∧ j ≤ k ∧ k < j + n then G a (i + (k - j)) else G o k
theorem r32_64 {a : Int} (h : r32 a) : r64 a := by unfold r32 at h; unfold r64; omega
theorem w8_r (a : Int) : r32 (w8 a) := by unfold r32 w8; omega
theorem w8_b (a : Int) : -128 ≤ w8 a ∧ w8 a ≤ 127 := by unfold w8; omega
theorem i2l_I {a : Int} (h : r32 a) : (I32 a).toInt64 = I64 a := by
  rw [← I64_of (I32 a).toInt64, Int32.toInt_toInt64, I32_toInt h]
theorem l2i_I {a : Int} (h : r64 a) : (I64 a).toInt32 = I32 (w32 a) := by
  rw [← I32_of (I64 a).toInt32, Int64.toInt_toInt32, I64_toInt h]
  exact congrArg I32 (w32_bmod a)
theorem i2b_I {a : Int} (h : r32 a) : (I32 a).toInt8.toInt32 = I32 (w8 a) := by
  rw [← I32_of (I32 a).toInt8.toInt32, Int8.toInt_toInt32, Int32.toInt_toInt8, I32_toInt h]
  congr 1
  unfold Int.bmod w8
  dsimp only
  split <;> omega
theorem lcmp_r (a b : Int) : r32 (lcmp a b) := by
  unfold lcmp r32
  split
  · omega
  · split <;> omega
theorem lcmp_I {a b : Int} (ha : r64 a) (hb : r64 b) : I32 (lcmp a b) = lg_cmp (I64 a) (I64 b) := by
  unfold lcmp lg_cmp
  by_cases h1 : b < a
  · rw [if_pos h1, if_pos (show I64 a > I64 b from (I64_lt hb ha).mpr h1)]
    rfl
  · rw [if_neg h1, if_neg (show ¬ I64 a > I64 b from fun z => h1 ((I64_lt hb ha).mp z))]
    by_cases h2 : a = b
    · rw [if_pos h2, if_pos ((I64_inj ha hb).mpr h2)]
      rfl
    · rw [if_neg h2, if_neg (fun z => h2 ((I64_inj ha hb).mp z))]
      rfl
theorem imax_I {a b : Int} (ha : r32 a) (hb : r32 b) : I32 (max a b) = if I32 a < I32 b then I32 b else I32 a := by
  by_cases h : a < b
  · rw [if_pos ((I32_lt ha hb).mpr h), show max a b = b by omega]
  · rw [if_neg (fun z => h ((I32_lt ha hb).mp z)), show max a b = a by omega]
theorem imin_I {a b : Int} (ha : r32 a) (hb : r32 b) : I32 (min a b) = if I32 b < I32 a then I32 b else I32 a := by
  by_cases h : b < a
  · rw [if_pos ((I32_lt hb ha).mpr h), show min a b = b by omega]
  · rw [if_neg (fun z => h ((I32_lt hb ha).mp z)), show min a b = a by omega]
theorem b2i_r (b : Bool) : r32 (b2i b) := by cases b <;> (unfold b2i r32; simp)
theorem clamp_I {i : Int} (h : 0 ≤ i) (h2 : r32 i) : (I32 i).toNatClampNeg = i.toNat := by
  show (I32 i).toInt.toNat = _
  rw [I32_toInt h2]
theorem in_I {i : Int} {n : Nat} (h : 0 ≤ i) (h2 : i < (n : Int)) (h3 : r32 i) : vp_in (I32 i) n := by
  rw [vp_in_iff, I32_toInt h3]
  omega
