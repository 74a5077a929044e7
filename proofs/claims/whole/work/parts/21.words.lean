-- a proof packed in one number
theorem wordAt_U {a p : Int} (h0 : 0 ≤ p) (h1 : p < 8) : cX_wordAt a p = ((U a / 16 ^ p.toNat % 16 : Nat) : Int) := by
  unfold cX_wordAt
  have e : w32 (4 * p) = 4 * p := w32_id (by omega) (by omega)
  rw [e, iand_U, iushr_U (by omega) (by omega), U_Sg (Nat.lt_of_le_of_lt (Nat.shiftRight_le _ _) (U_lt a))]
  have e2 : U 15 = 2 ^ 4 - 1 := rfl
  rw [e2, Nat.and_two_pow_sub_one_eq_mod, Nat.shiftRight_eq_div_pow, show (4 * p).toNat = 4 * p.toNat by omega, Nat.pow_mul]
  have h16 : (U a / (2 ^ 4) ^ p.toNat % 2 ^ 4 : Nat) < 2147483648 := Nat.lt_of_lt_of_le (Nat.mod_lt _ (by decide)) (by decide)
  rw [Sg_lo h16]
theorem wordAt_r {a p : Int} (h0 : 0 ≤ p) (h1 : p < 8) : 0 ≤ cX_wordAt a p ∧ cX_wordAt a p < 16 := by
  rw [wordAt_U h0 h1]
  have := Nat.mod_lt (U a / 16 ^ p.toNat) (show 16 > 0 by decide)
  omega
theorem wordAt_0 {p : Int} (h0 : 0 ≤ p) (h1 : p < 8) : cX_wordAt 0 p = 0 := by
  rw [wordAt_U h0 h1]
  have : U 0 = 0 := rfl
  rw [this]
  simp
theorem iand_r (a b : Int) : r32 (iand a b) := toInt_r32 _
theorem ior_r (a b : Int) : r32 (ior a b) := toInt_r32 _
theorem put_r (a p w : Int) : r32 (cX_put a p w) := toInt_r32 _
theorem put_U {a p w : Int} (h0 : 0 ≤ p) (h1 : p < 8) (hw0 : 0 ≤ w) (hw : w < 16) : U (cX_put a p w) = (U a &&& ((15 * 16 ^ p.toNat) ^^^ 4294967295)) ||| (w.toNat * 16 ^ p.toNat) := by
  unfold cX_put
  have e : w32 (4 * p) = 4 * p := w32_id (by omega) (by omega)
  have hp : 16 ^ p.toNat ≤ 268435456 := by
    have : 16 ^ p.toNat ≤ 16 ^ 7 := Nat.pow_le_pow_right (by decide) (by omega)
    simpa using this
  have e15 : iand w 15 = w := by
    rw [iand_nn hw0 (by omega) (by omega) (by omega)]
    have e2 : (15 : Int).toNat = 2 ^ 4 - 1 := rfl
    rw [e2, Nat.and_two_pow_sub_one_eq_mod, Nat.mod_eq_of_lt (by omega)]
    omega
  have sh : ∀ x : Int, 0 ≤ x → x < 16 → ishl x (4 * p) = Sg (x.toNat * 16 ^ p.toNat) := by
    intro x hx0 hx1
    rw [ishl_U (by omega) (by omega), U_nn hx0 (by omega), Nat.shiftLeft_eq, show (4 * p).toNat = 4 * p.toNat by omega, Nat.pow_mul]
    have : x.toNat * 16 ^ p.toNat ≤ 15 * 268435456 := Nat.mul_le_mul (by omega) hp
    rw [show ((2 : Nat) ^ 4) = 16 from rfl, Nat.mod_eq_of_lt (show x.toNat * 16 ^ p.toNat < 4294967296 by omega)]
  have b1 : ∀ x : Int, 0 ≤ x → x < 16 → x.toNat * 16 ^ p.toNat < 4294967296 := by
    intro x hx0 hx1
    have : x.toNat * 16 ^ p.toNat ≤ 15 * 268435456 := Nat.mul_le_mul (by omega) hp
    omega
  rw [e, e15, sh w hw0 hw, sh 15 (by omega) (by omega), ior_U, iand_U, ixor_U]
  have em : U (-1) = 4294967295 := rfl
  rw [em, U_Sg (b1 15 (by omega) (by omega)), U_Sg (b1 w hw0 hw)]
  have hx : (15 : Int).toNat * 16 ^ p.toNat ^^^ 4294967295 < 4294967296 := Nat.xor_lt_two_pow (n := 32) (b1 15 (by omega) (by omega)) (by decide)
  rw [U_Sg hx]
  have ha : U a &&& ((15 : Int).toNat * 16 ^ p.toNat ^^^ 4294967295) < 4294967296 := and_le (U_lt a)
  rw [U_Sg ha]
  rw [U_Sg (Nat.or_lt_two_pow (n := 32) ha (b1 w hw0 hw))]
  rfl
theorem tb16 (n p i : Nat) (hi : i < 4) : (n / 16 ^ p % 16).testBit i = n.testBit (4 * p + i) := by
  have e : (16 : Nat) ^ p = 2 ^ (4 * p) := by rw [Nat.pow_mul]
  have e4 : (16 : Nat) = 2 ^ 4 := by decide
  rw [e, ← Nat.shiftRight_eq_div_pow]
  conv => lhs; rw [e4]
  rw [Nat.testBit_mod_two_pow, Nat.testBit_shiftRight]
  simp [hi]
theorem wordAt_put {a p w q : Int} (h0 : 0 ≤ p) (h1 : p < 8) (hw0 : 0 ≤ w) (hw : w < 16) (g0 : 0 ≤ q) (g1 : q < 8) : cX_wordAt (cX_put a p w) q = if q = p then w else cX_wordAt a q := by
  rw [wordAt_U g0 g1, put_U h0 h1 hw0 hw]
  have e15 : (15 * 16 ^ p.toNat) = (2 ^ 4 - 1) * 2 ^ (4 * p.toNat) := by rw [Nat.pow_mul]
  have ew : w.toNat * 16 ^ p.toNat = w.toNat * 2 ^ (4 * p.toNat) := by rw [Nat.pow_mul]
  have key : ((U a &&& ((15 * 16 ^ p.toNat) ^^^ 4294967295) ||| w.toNat * 16 ^ p.toNat) / 16 ^ q.toNat % 16 : Nat) = if q = p then w.toNat else (U a / 16 ^ q.toNat % 16) := by
    apply Nat.eq_of_testBit_eq
    intro i
    by_cases hi : i < 4
    · rw [tb16 _ _ _ hi, Nat.testBit_or, Nat.testBit_and, Nat.testBit_xor, e15, ew, Nat.testBit_mul_two_pow, Nat.testBit_mul_two_pow]
      have h32 : Nat.testBit 4294967295 (4 * q.toNat + i) = true := by
        have e3 : (4294967295 : Nat) = 2 ^ 32 - 1 := by decide
        rw [e3, Nat.testBit_two_pow_sub_one]
        simp
        omega
      rw [h32]
      by_cases hqp : q = p
      · subst hqp
        rw [if_pos rfl]
        have c1 : 4 * q.toNat ≤ 4 * q.toNat + i := by omega
        have c2 : 4 * q.toNat + i - 4 * q.toNat = i := by omega
        rw [c2, Nat.testBit_two_pow_sub_one]
        simp [hi]
      · rw [if_neg hqp, tb16 _ _ _ hi]
        by_cases hlt : q < p
        · have c1 : ¬ 4 * p.toNat ≤ 4 * q.toNat + i := by omega
          simp [c1]
        · have c2 : 4 ≤ 4 * q.toNat + i - 4 * p.toNat := by omega
          have c3 : Nat.testBit (2 ^ 4 - 1) (4 * q.toNat + i - 4 * p.toNat) = false := by
            rw [Nat.testBit_two_pow_sub_one]
            simp
            omega
          have c4 : w.toNat.testBit (4 * q.toNat + i - 4 * p.toNat) = false := Nat.testBit_lt_two_pow (Nat.lt_of_lt_of_le (show w.toNat < 2 ^ 4 by omega) (Nat.pow_le_pow_right (by decide) c2))
          rw [c3, c4]
          simp
    · have f : ∀ x : Nat, x < 16 → x.testBit i = false := fun x hx => Nat.testBit_lt_two_pow (Nat.lt_of_lt_of_le (show x < 2 ^ 4 by omega) (Nat.pow_le_pow_right (by decide) (by omega)))
      rw [f _ (Nat.mod_lt _ (by decide))]
      split
      · rw [f _ (by omega)]
      · rw [f _ (Nat.mod_lt _ (by decide))]
  rw [key]
  split
  · omega
  · rw [wordAt_U g0 g1]
theorem proof_ext {a b : Int} (ha : r32 a) (hb : r32 b) (h : ∀ p : Int, 0 ≤ p → p < 8 → cX_wordAt a p = cX_wordAt b p) : a = b := by
  apply U_inj ha hb
  apply Nat.eq_of_testBit_eq
  intro i
  by_cases hi : i < 32
  · have h1 := h ((i / 4 : Nat) : Int) (by omega) (by omega)
    rw [wordAt_U (by omega) (by omega), wordAt_U (by omega) (by omega), Int.toNat_natCast] at h1
    have h2 : (U a / 16 ^ (i / 4) % 16) = (U b / 16 ^ (i / 4) % 16) := by omega
    have h3 := tb16 (U a) (i / 4) (i % 4) (Nat.mod_lt _ (by decide))
    have h4 := tb16 (U b) (i / 4) (i % 4) (Nat.mod_lt _ (by decide))
    rw [h2] at h3
    rw [show 4 * (i / 4) + i % 4 = i by omega] at h3 h4
    exact h3.symm.trans h4
  · have f : ∀ x : Int, (U x).testBit i = false := fun x => Nat.testBit_lt_two_pow (Nat.lt_of_lt_of_le (show U x < 2 ^ 32 from U_lt x) (Nat.pow_le_pow_right (by decide) (by omega)))
    rw [f, f]
-- right answers: X gives an answer, and it is as Q says
def ok {α : Type} (X : Option α) (Q : α → Prop) : Prop := ∃ r, X = some r ∧ Q r
theorem ok_some {α : Type} {r : α} {Q : α → Prop} (h : Q r) : ok (some r) Q := ⟨r, rfl, h⟩
theorem ok_bind {α β : Type} {X : Option α} {F : α → Option β} {Q : β → Prop} (h : ok X (fun r => ok (F r) Q)) : ok (X.bind F) Q := by
  obtain ⟨r, h1, r2, h2, h3⟩ := h
  exact ⟨r2, by rw [h1]; exact h2, h3⟩
theorem ok_mono {α : Type} {X : Option α} {Q Q' : α → Prop} (h : ok X Q) (hQ : ∀ r, Q r → Q' r) : ok X Q' := by
  obtain ⟨r, h1, h2⟩ := h
  exact ⟨r, h1, hQ r h2⟩
theorem ok_then {α β : Type} {X : Option α} {P : α → Prop} {F : α → Option β} {Q : β → Prop} (h : ok X P) (k : ∀ r, P r → ok (F r) Q) : ok (X.bind F) Q := ok_bind (ok_mono h k)
theorem ok_gd {α : Type} {i n : Int} {X : Option α} {Q : α → Prop} (h0 : 0 ≤ i) (h1 : i < n) (h : ok X Q) : ok (gd i n X) Q := by
  unfold gd
  rw [if_pos ⟨h0, h1⟩]
  exact h
theorem gd_ok {α : Type} {i n : Int} {X : Option α} (h0 : 0 ≤ i) (h1 : i < n) : gd i n X = X := by
  unfold gd
  rw [if_pos ⟨h0, h1⟩]
theorem ok_nz {α : Type} {b : Int} {X : Option α} {Q : α → Prop} (h0 : b ≠ 0) (h : ok X Q) : ok (nz b X) Q := by
  unfold nz
  rw [if_neg h0]
  exact h
theorem ok_cpy {α : Type} {i j k n0 n1 : Int} {X : Option α} {Q : α → Prop} (h0 : 0 ≤ i) (h1 : 0 ≤ j) (h2 : 0 ≤ k) (h3 : i + k ≤ n0) (h4 : j + k ≤ n1) (h : ok X Q) : ok (cpyG i j k n0 n1 X) Q := by
  unfold cpyG
  rw [if_pos ⟨h0, h1, h2, h3, h4⟩]
  exact h
theorem cpyG_ok {α : Type} {i j k n0 n1 : Int} {X : Option α} (h0 : 0 ≤ i) (h1 : 0 ≤ j) (h2 : 0 ≤ k) (h3 : i + k ≤ n0) (h4 : j + k ≤ n1) : cpyG i j k n0 n1 X = X := by
  unfold cpyG
  rw [if_pos ⟨h0, h1, h2, h3, h4⟩]
theorem paper_isP {p : Int} (h : isPaper p) : isP p = true := by
  unfold isPaper at h
  unfold isP
  exact List.contains_iff_mem.mpr h
theorem ok_pg {α : Type} {p : Int} {X : Option α} {Q : α → Prop} (h0 : isPaper p) (h : ok X Q) : ok (pg p X) Q := by
  unfold pg
  rw [if_pos (paper_isP h0)]
  exact h
theorem ok_ite {α : Type} {P : Prop} {dP : Decidable P} {X Y : Option α} {Q : α → Prop} (h1 : P → ok X Q) (h2 : ¬ P → ok Y Q) : ok (if P then X else Y) Q := by
  split
  · next h => exact h1 h
  · next h => exact h2 h
