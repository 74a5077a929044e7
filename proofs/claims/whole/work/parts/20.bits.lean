-- bits of numbers
def U (a : Int) : Nat := (a % 4294967296).toNat
def Sg (n : Nat) : Int := if n < 2147483648 then (n : Int) else (n : Int) - 4294967296
theorem U_lt (a : Int) : U a < 4294967296 := by unfold U; omega
theorem U_nn {a : Int} (h0 : 0 ≤ a) (h1 : a < 4294967296) : U a = a.toNat := by unfold U; omega
theorem U_w (a : Int) : U (w32 a) = U a := by unfold U w32; omega
theorem Sg_U {a : Int} (h : r32 a) : Sg (U a) = a := by unfold Sg U; unfold r32 at h; split <;> omega
theorem U_Sg {n : Nat} (h : n < 4294967296) : U (Sg n) = n := by unfold Sg U; split <;> omega
theorem U_inj {a b : Int} (ha : r32 a) (hb : r32 b) (h : U a = U b) : a = b := by rw [← Sg_U ha, ← Sg_U hb, h]
theorem I32_bv (z : Int) : (I32 z).toBitVec.toNat = U z := by
  show (BitVec.ofInt 32 z).toNat = U z
  rw [BitVec.toNat_ofInt]
  rfl
theorem toInt_Sg (x : Int32) : x.toInt = Sg x.toBitVec.toNat := by
  show x.toBitVec.toInt = _
  rw [BitVec.toInt_eq_toNat_cond]
  unfold Sg
  split <;> split <;> omega
theorem iand_U (a b : Int) : iand a b = Sg (U a &&& U b) := by
  unfold iand
  rw [toInt_Sg, Int32.toBitVec_and, BitVec.toNat_and, I32_bv, I32_bv]
theorem ior_U (a b : Int) : ior a b = Sg (U a ||| U b) := by
  unfold ior
  rw [toInt_Sg, Int32.toBitVec_or, BitVec.toNat_or, I32_bv, I32_bv]
theorem ixor_U (a b : Int) : ixor a b = Sg (U a ^^^ U b) := by
  unfold ixor
  rw [toInt_Sg, Int32.toBitVec_xor, BitVec.toNat_xor, I32_bv, I32_bv]
theorem sh_ok : ∀ b : Fin 32, (I32 (b.val : Int) &&& 31) = I32 (b.val : Int) ∧ ((I32 (b.val : Int)).toBitVec.smod 32).toNat = b.val ∧ ((I32 (b.val : Int) &&& 31).toUInt32).toNat % 32 = b.val := by decide +kernel
theorem sh_ok' {b : Int} (h0 : 0 ≤ b) (h1 : b < 32) : (I32 b &&& 31) = I32 b ∧ ((I32 b).toBitVec.smod 32).toNat = b.toNat ∧ ((I32 b &&& 31).toUInt32).toNat % 32 = b.toNat := by
  have h := sh_ok ⟨b.toNat, by omega⟩
  have e : (((⟨b.toNat, by omega⟩ : Fin 32).val : Nat) : Int) = b := by show ((b.toNat : Nat) : Int) = b; omega
  rw [e] at h
  exact h
theorem ishl_U {a b : Int} (h0 : 0 ≤ b) (h1 : b < 32) : ishl a b = Sg ((U a <<< b.toNat) % 4294967296) := by
  unfold ishl
  obtain ⟨e1, e2, -⟩ := sh_ok' h0 h1
  rw [toInt_Sg, e1, Int32.toBitVec_shiftLeft]
  show Sg ((I32 a).toBitVec <<< ((I32 b).toBitVec.smod 32)).toNat = _
  rw [BitVec.shiftLeft_eq', BitVec.toNat_shiftLeft, e2, I32_bv]
theorem ishr_eq {a b : Int} (ha : r32 a) (h0 : 0 ≤ b) (h1 : b < 32) : ishr a b = a / (2 ^ b.toNat : Nat) := by
  unfold ishr
  obtain ⟨e1, e2, -⟩ := sh_ok' h0 h1
  rw [e1]
  show ((I32 a) >>> (I32 b)).toBitVec.toInt = _
  rw [Int32.toBitVec_shiftRight]
  show (BitVec.sshiftRight' (I32 a).toBitVec ((I32 b).toBitVec.smod 32)).toInt = _
  rw [BitVec.sshiftRight_eq', BitVec.toInt_sshiftRight, e2]
  show (I32 a).toInt >>> b.toNat = _
  rw [I32_toInt ha, Int.shiftRight_eq_div_pow]
theorem iushr_U {a b : Int} (h0 : 0 ≤ b) (h1 : b < 32) : iushr a b = Sg (U a >>> b.toNat) := by
  unfold iushr
  obtain ⟨e1, -, e3⟩ := sh_ok' h0 h1
  rw [toInt_Sg]
  show Sg ((I32 a).toUInt32 >>> (I32 b &&& 31).toUInt32).toNat = _
  rw [UInt32.toNat_shiftRight, e3]
  show Sg ((I32 a).toBitVec.toNat >>> b.toNat) = _
  rw [I32_bv]
-- small ones
theorem Sg_lo {n : Nat} (h : n < 2147483648) : Sg n = (n : Int) := by unfold Sg; rw [if_pos h]
def bt (x k : Int) : Bool := x.toNat.testBit k.toNat
theorem and_le {a b n : Nat} (h : a < n) : a &&& b < n := Nat.lt_of_le_of_lt Nat.and_le_left h
theorem iand_nn {a b : Int} (ha : 0 ≤ a) (ha2 : a < 2147483648) (hb : 0 ≤ b) (hb2 : b < 2147483648) : iand a b = ((a.toNat &&& b.toNat : Nat) : Int) := by
  rw [iand_U, U_nn ha (by omega), U_nn hb (by omega), Sg_lo (and_le (by omega))]
theorem ior_nn {a b : Int} (ha : 0 ≤ a) (ha2 : a < 2147483648) (hb : 0 ≤ b) (hb2 : b < 2147483648) : ior a b = ((a.toNat ||| b.toNat : Nat) : Int) := by
  rw [ior_U, U_nn ha (by omega), U_nn hb (by omega), Sg_lo (Nat.or_lt_two_pow (n := 31) (by omega) (by omega))]
theorem ishl_1 {k : Int} (h0 : 0 ≤ k) (h1 : k < 31) : ishl 1 k = ((2 ^ k.toNat : Nat) : Int) := by
  rw [ishl_U h0 (by omega)]
  have h2 : U 1 = 1 := rfl
  have h3 : 2 ^ k.toNat < 2147483648 := Nat.pow_lt_pow_of_lt (a := 2) (m := 31) (by decide) (by omega)
  rw [h2, Nat.shiftLeft_eq, Nat.one_mul, Nat.mod_eq_of_lt (by omega), Sg_lo h3]
/-- a mask of n bits -/
def Mk (n : Nat) (x : Int) : Prop := 0 ≤ x ∧ x < (2 ^ n : Nat)
theorem two31 {n : Nat} (h : n ≤ 31) : (2 ^ n : Nat) ≤ 2147483648 := Nat.pow_le_pow_right (n := 2) (by decide) h
theorem Mk.lt {n : Nat} {x : Int} (h : Mk n x) (hn : n ≤ 31) : x < 2147483648 := by
  have := two31 hn
  have := h.2
  omega
theorem bt_and {a b k : Int} {n m : Nat} (ha : Mk n a) (hb : Mk m b) (hn : n ≤ 31) (hm : m ≤ 31) : bt (iand a b) k = (bt a k && bt b k) := by
  unfold bt
  rw [iand_nn ha.1 (ha.lt hn) hb.1 (hb.lt hm), Int.toNat_natCast, Nat.testBit_and]
theorem Mk.and {a b : Int} {n m : Nat} (ha : Mk n a) (hb : Mk m b) (hn : n ≤ 31) (hm : m ≤ 31) : Mk n (iand a b) := by
  rw [iand_nn ha.1 (ha.lt hn) hb.1 (hb.lt hm)]
  have h1 : a.toNat < 2 ^ n := by have := ha.2; have := ha.1; omega
  have := and_le (b := b.toNat) h1
  exact ⟨by omega, by omega⟩
theorem bt_or {a b k : Int} {n m : Nat} (ha : Mk n a) (hb : Mk m b) (hn : n ≤ 31) (hm : m ≤ 31) : bt (ior a b) k = (bt a k || bt b k) := by
  unfold bt
  rw [ior_nn ha.1 (ha.lt hn) hb.1 (hb.lt hm), Int.toNat_natCast, Nat.testBit_or]
theorem Mk.or {a b : Int} {n : Nat} (ha : Mk n a) (hb : Mk n b) (hn : n ≤ 31) : Mk n (ior a b) := by
  rw [ior_nn ha.1 (ha.lt hn) hb.1 (hb.lt hn)]
  have h1 : a.toNat < 2 ^ n := by have := ha.2; have := ha.1; omega
  have h2 : b.toNat < 2 ^ n := by have := hb.2; have := hb.1; omega
  have := Nat.or_lt_two_pow h1 h2
  exact ⟨by omega, by omega⟩
theorem Mk.shl {k : Int} {n : Nat} (h0 : 0 ≤ k) (h1 : k < (n : Int)) (hn : n ≤ 31) : Mk n (ishl 1 k) := by
  rw [ishl_1 h0 (by omega)]
  have : 2 ^ k.toNat < 2 ^ n := Nat.pow_lt_pow_of_lt (by decide) (by omega)
  exact ⟨Int.natCast_nonneg _, Int.ofNat_lt.mpr this⟩
theorem bt_shl {j k : Int} (h0 : 0 ≤ j) (h1 : j < 31) (hk : 0 ≤ k) : bt (ishl 1 j) k = decide (k = j) := by
  unfold bt
  rw [ishl_1 h0 h1, Int.toNat_natCast, Nat.testBit_two_pow]
  by_cases h : k = j
  · subst h; simp
  · have : ¬ j.toNat = k.toNat := by omega
    simp [h, this]
theorem bt_lt {x k : Int} {n : Nat} (h : Mk n x) (hk : (n : Int) ≤ k) : bt x k = false := by
  unfold bt
  apply Nat.testBit_lt_two_pow
  have h1 : x.toNat < 2 ^ n := by have := h.2; have := h.1; omega
  exact Nat.lt_of_lt_of_le h1 (Nat.pow_le_pow_right (by decide) (by omega))
theorem Mk.ext {n : Nat} {x y : Int} (hx : Mk n x) (hy : Mk n y) (h : ∀ k : Int, 0 ≤ k → k < (n : Int) → bt x k = bt y k) : x = y := by
  have e : x.toNat = y.toNat := by
    apply Nat.eq_of_testBit_eq
    intro i
    by_cases hi : i < n
    · have := h (i : Int) (by omega) (by omega)
      unfold bt at this
      rwa [Int.toNat_natCast] at this
    · have h1 := bt_lt hx (k := (i : Int)) (by omega)
      have h2 := bt_lt hy (k := (i : Int)) (by omega)
      unfold bt at h1 h2
      rw [Int.toNat_natCast] at h1 h2
      rw [h1, h2]
  have := hx.1
  have := hy.1
  omega
theorem Mk.zero (n : Nat) : Mk n 0 := ⟨by omega, by have : 0 < 2 ^ n := Nat.pow_pos (by decide); omega⟩
theorem bt_zero (k : Int) : bt 0 k = false := by unfold bt; simp
theorem Mk.mono {n m : Nat} {x : Int} (h : Mk n x) (hm : n ≤ m) : Mk m x := by
  have : 2 ^ n ≤ 2 ^ m := Nat.pow_le_pow_right (by decide) hm
  exact ⟨h.1, by have := h.2; omega⟩
/-- the test of a bit -/
theorem tst {x k : Int} {n : Nat} (hx : Mk n x) (hn : n ≤ 31) (h0 : 0 ≤ k) (h1 : k < 32) : iand (ishr x k) 1 = b2i (bt x k) := by
  have hr : r32 x := by have := hx.1; have := hx.lt hn; unfold r32; omega
  rw [ishr_eq hr h0 h1]
  have hd : 0 ≤ x / ((2 ^ k.toNat : Nat) : Int) := Int.ediv_nonneg hx.1 (Int.natCast_nonneg _)
  have hd2 : x / ((2 ^ k.toNat : Nat) : Int) ≤ x := Int.ediv_le_self _ hx.1
  have hl := hx.lt hn
  rw [iand_nn hd (by omega) (by omega) (by omega)]
  have e : (x / ((2 ^ k.toNat : Nat) : Int)).toNat = x.toNat / 2 ^ k.toNat := by
    have hxx : x = ((x.toNat : Nat) : Int) := by have := hx.1; omega
    rw [hxx, ← Int.natCast_ediv, Int.toNat_natCast, Int.toNat_natCast]
  rw [e]
  unfold bt b2i
  rw [Nat.testBit_eq_decide_div_mod_eq]
  show ((x.toNat / 2 ^ k.toNat &&& 1 : Nat) : Int) = _
  rw [Nat.and_one_is_mod]
  by_cases h : x.toNat / 2 ^ k.toNat % 2 = 1
  · simp [h]
  · have : x.toNat / 2 ^ k.toNat % 2 = 0 := by omega
    simp [this]
theorem tst0 {x k : Int} {n : Nat} (hx : Mk n x) (hn : n ≤ 31) (h0 : 0 ≤ k) (h1 : k < 32) : (iand (ishr x k) 1 = 0) ↔ bt x k = false := by
  rw [tst hx hn h0 h1]
  cases bt x k <;> simp [b2i]
/-- a bit cleared: x & ~y -/
theorem clr_nn {x y : Int} {n : Nat} (hx : Mk n x) (hy : Mk n y) (hn : n ≤ 31) : Mk n (iand x (ixor y (-1))) ∧ ∀ k : Int, 0 ≤ k → bt (iand x (ixor y (-1))) k = (bt x k && !bt y k) := by
  have hx1 : x.toNat < 2 ^ n := by have := hx.2; have := hx.1; omega
  have hy1 : y.toNat < 2 ^ n := by have := hy.2; have := hy.1; omega
  have h31 := two31 hn
  have e1 : U (ixor y (-1)) = y.toNat ^^^ 4294967295 := by
    rw [ixor_U, U_Sg, U_nn hy.1 (by have := hy.lt hn; omega)]
    · rfl
    · exact Nat.xor_lt_two_pow (n := 32) (U_lt _) (U_lt _)
  have e2 : iand x (ixor y (-1)) = ((x.toNat &&& (y.toNat ^^^ 4294967295) : Nat) : Int) := by
    rw [iand_U, e1, U_nn hx.1 (by have := hx.lt hn; omega), Sg_lo (and_le (by omega))]
  rw [e2]
  have hlt := and_le (b := y.toNat ^^^ 4294967295) hx1
  refine ⟨⟨by omega, by omega⟩, fun k hk => ?_⟩
  unfold bt
  rw [Int.toNat_natCast, Nat.testBit_and, Nat.testBit_xor]
  by_cases hk2 : k.toNat < 32
  · have : Nat.testBit 4294967295 k.toNat = true := by
      have e3 : (4294967295 : Nat) = 2 ^ 32 - 1 := by decide
      rw [e3, Nat.testBit_two_pow_sub_one]
      simpa using hk2
    rw [this]
    cases x.toNat.testBit k.toNat <;> cases y.toNat.testBit k.toNat <;> rfl
  · have hx0 : x.toNat.testBit k.toNat = false := Nat.testBit_lt_two_pow (Nat.lt_of_lt_of_le hx1 (Nat.pow_le_pow_right (by decide) (by omega)))
    rw [hx0]
    rfl
