-- the tape
theorem idiv_nn {a b : Int} (ha : 0 ≤ a) (ha2 : a ≤ 2147483647) (hb : 0 < b) : idiv a b = a / b := by
  unfold idiv
  rw [Int.tdiv_eq_ediv_of_nonneg ha]
  have h1 : 0 ≤ a / b := Int.ediv_nonneg ha (by omega)
  have h2 : a / b ≤ a := Int.ediv_le_self b ha
  exact w32_id (by omega) (by omega)
theorem irem_nn {a b : Int} (ha : 0 ≤ a) : irem a b = a % b := by
  unfold irem
  exact Int.tmod_eq_emod_of_nonneg ha
theorem iand_255 (x : Int) : iand x 255 = x % 256 := by
  rw [iand_U]
  have e : U 255 = 2 ^ 8 - 1 := rfl
  rw [e, Nat.and_two_pow_sub_one_eq_mod]
  have e2 : (2 : Nat) ^ 8 = 256 := rfl
  rw [e2, Sg_lo (by have := Nat.mod_lt (U x) (show 256 > 0 by decide); omega)]
  unfold U
  omega
/-- a byte of a number, the highest first -/
def byt (a k : Int) : Int := if k = 0 then a / 16777216 % 256 else if k = 1 then a / 65536 % 256 else if k = 2 then a / 256 % 256 else a % 256
theorem byt_r (a k : Int) : 0 ≤ byt a k ∧ byt a k ≤ 255 := by
  unfold byt
  split
  · omega
  · split
    · omega
    · split <;> omega
theorem w8_sh (a : Int) (s : Int) (h0 : 0 ≤ s) (h1 : s < 32) : w8 (iushr a s) = w8 ((U a / 2 ^ s.toNat : Nat) : Int) := by
  rw [iushr_U h0 h1, Nat.shiftRight_eq_div_pow]
  unfold Sg w8
  split <;> omega
theorem byt_c (a k : Int) (h0 : 0 ≤ k) (h1 : k < 4) : w8 (iushr a (24 - 8 * k)) = w8 (byt a k) := by
  rw [w8_sh a _ (by omega) (by omega)]
  have : k = 0 ∨ k = 1 ∨ k = 2 ∨ k = 3 := by omega
  unfold byt
  rcases this with rfl | rfl | rfl | rfl
  · rw [if_pos rfl]
    have e : (2 : Nat) ^ ((24 : Int) - 8 * 0).toNat = 16777216 := by decide
    rw [e]
    unfold U w8
    omega
  · rw [if_neg (by omega), if_pos rfl]
    have e : (2 : Nat) ^ ((24 : Int) - 8 * 1).toNat = 65536 := by decide
    rw [e]
    unfold U w8
    omega
  · rw [if_neg (by omega), if_neg (by omega), if_pos rfl]
    have e : (2 : Nat) ^ ((24 : Int) - 8 * 2).toNat = 256 := by decide
    rw [e]
    unfold U w8
    omega
  · rw [if_neg (by omega), if_neg (by omega), if_neg (by omega)]
    have e : (2 : Nat) ^ ((24 : Int) - 8 * 3).toNat = 1 := by decide
    rw [e]
    unfold U w8
    omega
theorem byt_m {a : Int} (ha : r32 a) (k : Int) (h0 : 0 ≤ k) (h1 : k < 4) : iand (ishr a (24 - 8 * k)) 255 = byt a k := by
  rw [ishr_eq ha (by omega) (by omega), iand_255]
  have : k = 0 ∨ k = 1 ∨ k = 2 ∨ k = 3 := by omega
  unfold byt
  rcases this with rfl | rfl | rfl | rfl
  · rw [if_pos rfl]
    have e : ((2 ^ ((24 : Int) - 8 * 0).toNat : Nat) : Int) = 16777216 := by decide
    rw [e]
  · rw [if_neg (by omega), if_pos rfl]
    have e : ((2 ^ ((24 : Int) - 8 * 1).toNat : Nat) : Int) = 65536 := by decide
    rw [e]
  · rw [if_neg (by omega), if_neg (by omega), if_pos rfl]
    have e : ((2 ^ ((24 : Int) - 8 * 2).toNat : Nat) : Int) = 256 := by decide
    rw [e]
  · rw [if_neg (by omega), if_neg (by omega), if_neg (by omega)]
    have e : ((2 ^ ((24 : Int) - 8 * 3).toNat : Nat) : Int) = 1 := by decide
    rw [e, Int.ediv_one]
theorem append_ok {a m : Int} {G : Hp} (hm : G 1 1 = m) (m0 : 0 ≤ m) (m1 : m + 4 ≤ 600) :
    ok (cTo_append 1 a G) (fun G' => G' 1 1 = m + 4 ∧ (∀ k, 0 ≤ k → k < 4 → G' 2 (m + k) = w8 (byt a k)) ∧ ∀ o j, ¬ (o = 1 ∧ j = 1) → ¬ (o = 2 ∧ m ≤ j ∧ j < m + 4) → G' o j = G o j) := by
  unfold cTo_append
  have stp : ∀ (n : Nat) (k : Int) (G1 : Hp), 0 ≤ k → k < 4 → G1 1 1 = m + k → (∀ G2 : Hp, G2 1 1 = m + (k + 1) → G2 2 (m + k) = w8 (byt a k) → (∀ o j, ¬ (o = 1 ∧ j = 1) → ¬ (o = 2 ∧ j = m + k) → G2 o j = G1 o j) → ok (cTo_append_L3 1 a n (24 - 8 * (k + 1)) G2) (fun G' => G' 1 1 = m + 4 ∧ (∀ k, 0 ≤ k → k < 4 → G' 2 (m + k) = w8 (byt a k)) ∧ ∀ o j, ¬ (o = 1 ∧ j = 1) → ¬ (o = 2 ∧ m ≤ j ∧ j < m + 4) → G' o j = G o j)) → ok (cTo_append_L3 1 a (n + 1) (24 - 8 * k) G1) (fun G' => G' 1 1 = m + 4 ∧ (∀ k, 0 ≤ k → k < 4 → G' 2 (m + k) = w8 (byt a k)) ∧ ∀ o j, ¬ (o = 1 ∧ j = 1) → ¬ (o = 2 ∧ m ≤ j ∧ j < m + 4) → G' o j = G o j) := by
    intro n k G1 k0 k1 h1 ih
    rw [cTo_append_L3, if_neg (by omega), h1, if_pos (by omega), gd_ok (by omega) (by omega)]
    have e : (upd2 G1 (1 + 1) (m + k) (w8 (iushr a (24 - 8 * k)))) 1 1 = m + k := by rw [upd2_o (by omega), h1]
    rw [e, byt_c a k k0 k1, w32_id (z := m + k + 1) (by omega) (by omega), w32_id (by omega) (by omega), show 24 - 8 * k + -8 = 24 - 8 * (k + 1) by omega]
    refine ih _ ?_ ?_ fun o j x y => ?_
    · rw [upd2_s]
      omega
    · rw [upd2_o (by omega), upd2_e (by omega) rfl]
    · rw [upd2_o x, upd2_o (by omega)]
  have e24 : (24 : Int) = 24 - 8 * 0 := by omega
  show ok (cTo_append_L3 1 a (99995 + 1 + 1 + 1 + 1 + 1) 24 G) _
  rw [e24]
  refine stp _ 0 G (by omega) (by omega) (by omega) fun G1 a1 b1 c1 => ?_
  refine stp _ (0 + 1) G1 (by omega) (by omega) a1 fun G2 a2 b2 c2 => ?_
  refine stp _ (0 + 1 + 1) G2 (by omega) (by omega) a2 fun G3 a3 b3 c3 => ?_
  refine stp _ (0 + 1 + 1 + 1) G3 (by omega) (by omega) a3 fun G4 a4 b4 c4 => ?_
  rw [cTo_append_L3, if_pos (by omega)]
  refine ok_some ⟨by omega, fun k k0 k1 => ?_, fun o j x y => ?_⟩
  · have : k = 0 ∨ k = 1 ∨ k = 2 ∨ k = 3 := by omega
    rcases this with rfl | rfl | rfl | rfl
    · rw [c4 _ _ (by omega) (by omega), c3 _ _ (by omega) (by omega), c2 _ _ (by omega) (by omega)]
      exact b1
    · rw [c4 _ _ (by omega) (by omega), c3 _ _ (by omega) (by omega)]
      exact b2
    · rw [c4 _ _ (by omega) (by omega)]
      exact b3
    · exact b4
  · rw [c4 _ _ x (by omega), c3 _ _ x (by omega), c2 _ _ x (by omega), c1 _ _ x (by omega)]
/-- the twenty bytes -/
def by20 (a1 a2 a3 a4 a5 k : Int) : Int := byt (if k < 4 then a1 else if k < 8 then a2 else if k < 12 then a3 else if k < 16 then a4 else a5) (k % 4)
theorem feed_c {a1 a2 a3 a4 a5 m : Int} {G : Hp} (hm : G 1 1 = m) (m0 : 0 ≤ m) (m1 : m ≤ 600) :
    ok (cX_feed a1 a2 a3 a4 a5 G) (fun r => if 600 < m + 20 then r = (-1, G) else r.1 = m + 20 ∧ r.2 1 1 = m + 20 ∧ (∀ k, 0 ≤ k → k < 20 → r.2 2 (m + k) = w8 (by20 a1 a2 a3 a4 a5 k)) ∧ ∀ o j, ¬ (o = 1 ∧ j = 1) → ¬ (o = 2 ∧ m ≤ j ∧ j < m + 20) → r.2 o j = G o j) := by
  unfold cX_feed
  rw [hm, w32_id (by omega) (by omega)]
  by_cases h : 600 < m + 20
  · rw [if_pos h]
    simp only [if_pos h]
    exact ok_some rfl
  rw [if_neg h]
  simp only [if_neg h]
  refine ok_then (append_ok hm m0 (by omega)) fun G1 h1 => ?_
  refine ok_then (append_ok h1.1 (by omega) (by omega)) fun G2 h2 => ?_
  refine ok_then (append_ok h2.1 (by omega) (by omega)) fun G3 h3 => ?_
  refine ok_then (append_ok h3.1 (by omega) (by omega)) fun G4 h4 => ?_
  refine ok_then (append_ok h4.1 (by omega) (by omega)) fun G5 h5 => ?_
  have e5 : G5 1 1 = m + 20 := by rw [h5.1]; omega
  refine ok_some ⟨e5, e5, fun k k0 k1 => ?_, fun o j x y => ?_⟩
  · show G5 2 (m + k) = _
    unfold by20
    by_cases c1 : k < 4
    · rw [if_pos c1, h5.2.2 _ _ (by omega) (by omega), h4.2.2 _ _ (by omega) (by omega), h3.2.2 _ _ (by omega) (by omega), h2.2.2 _ _ (by omega) (by omega), h1.2.1 k k0 c1, show k % 4 = k by omega]
    · by_cases c2 : k < 8
      · rw [if_neg c1, if_pos c2, h5.2.2 _ _ (by omega) (by omega), h4.2.2 _ _ (by omega) (by omega), h3.2.2 _ _ (by omega) (by omega), show m + k = m + 4 + (k - 4) by omega, h2.2.1 _ (by omega) (by omega), show k % 4 = k - 4 by omega]
      · by_cases c3 : k < 12
        · rw [if_neg c1, if_neg c2, if_pos c3, h5.2.2 _ _ (by omega) (by omega), h4.2.2 _ _ (by omega) (by omega), show m + k = m + 4 + 4 + (k - 8) by omega, h3.2.1 _ (by omega) (by omega), show k % 4 = k - 8 by omega]
        · by_cases c4 : k < 16
          · rw [if_neg c1, if_neg c2, if_neg c3, if_pos c4, h5.2.2 _ _ (by omega) (by omega), show m + k = m + 4 + 4 + 4 + (k - 12) by omega, h4.2.1 _ (by omega) (by omega), show k % 4 = k - 12 by omega]
          · rw [if_neg c1, if_neg c2, if_neg c3, if_neg c4, show m + k = m + 4 + 4 + 4 + 4 + (k - 16) by omega, h5.2.1 _ (by omega) (by omega), show k % 4 = k - 16 by omega]
  · show G5 o j = _
    rw [h5.2.2 _ _ x (by omega), h4.2.2 _ _ x (by omega), h3.2.2 _ _ x (by omega), h2.2.2 _ _ x (by omega), h1.2.2 _ _ x (by omega)]
theorem feed_m {a1 a2 a3 a4 a5 m : Int} {G : Hp} (h1 : r32 a1) (h2 : r32 a2) (h3 : r32 a3) (h4 : r32 a4) (h5 : r32 a5) (hm : G 202 4 = m) (m0 : 0 ≤ m) (m1 : m ≤ 600) :
    ok (mm_feed a1 a2 a3 a4 a5 G) (fun r => if 600 < m + 20 then r = (-1, G) else r.1 = m + 20 ∧ r.2 202 4 = m + 20 ∧ (∀ k, 0 ≤ k → k < 20 → r.2 202 (10 + m + k) = by20 a1 a2 a3 a4 a5 k) ∧ ∀ o j, ¬ (o = 202 ∧ (j = 4 ∨ (10 + m ≤ j ∧ j < 10 + m + 20))) → r.2 o j = G o j) := by
  unfold mm_feed
  rw [hm, w32_id (by omega) (by omega)]
  by_cases h : 600 < m + 20
  · rw [if_pos h]
    simp only [if_pos h]
    exact ok_some rfl
  rw [if_neg h]
  simp only [if_neg h]
  refine lp_up (fun n i (s : Hp) => mm_feed_L20 a1 a2 a3 a4 a5 n i s) 20 (fun i G1 => G1 202 4 = m + i ∧ (∀ k, 0 ≤ k → k < i → G1 202 (10 + m + k) = by20 a1 a2 a3 a4 a5 k) ∧ ∀ o j, ¬ (o = 202 ∧ (j = 4 ∨ (10 + m ≤ j ∧ j < 10 + m + 20))) → G1 o j = G o j) ?_ ?_ (by omega) (by omega) (by omega) ⟨by omega, fun k k0 k1 => by omega, fun _ _ _ => rfl⟩
  · intro n i G1 i0 i1 hI ih
    obtain ⟨e1, e2, e3⟩ := hI
    show ok (mm_feed_L20 a1 a2 a3 a4 a5 (n + 1) i G1) _
    have key : ∀ a : Int, r32 a → byt a (i % 4) = by20 a1 a2 a3 a4 a5 i → ok (mm_feed_j73 a1 a2 a3 a4 a5 (mm_feed_L20 a1 a2 a3 a4 a5 n) i a G1) (fun r => r.1 = m + 20 ∧ r.2 202 4 = m + 20 ∧ (∀ k, 0 ≤ k → k < 20 → r.2 202 (10 + m + k) = by20 a1 a2 a3 a4 a5 k) ∧ ∀ o j, ¬ (o = 202 ∧ (j = 4 ∨ (10 + m ≤ j ∧ j < 10 + m + 20))) → r.2 o j = G o j) := by
      intro a ha hb
      unfold mm_feed_j73
      rw [e1, irem_nn i0, w32_id (z := 10 + (m + i)) (by omega) (by omega), w32_id (z := 8 * (i % 4)) (by omega) (by omega), w32_id (z := 24 - 8 * (i % 4)) (by omega) (by omega), byt_m ha _ (by omega) (by omega), hb, gd_ok (by omega) (by omega), w32_id (z := i + 1) (by omega) (by omega)]
      have e : (upd2 G1 202 (10 + (m + i)) (by20 a1 a2 a3 a4 a5 i)) 202 4 = m + i := by rw [upd2_o (by omega), e1]
      rw [e, w32_id (by omega) (by omega)]
      refine ih _ ⟨?_, fun k k0 k1 => ?_, fun o j x => ?_⟩
      · rw [upd2_s]
        omega
      · rw [upd2_o (by omega)]
        by_cases hk : k = i
        · subst hk
          rw [upd2_e rfl (by omega)]
        · rw [upd2_o (by omega)]
          exact e2 k k0 (by omega)
      · rw [upd2_o (by omega), upd2_o (by omega)]
        exact e3 o j x
    rw [mm_feed_L20, if_pos i1]
    refine ok_ite (fun c1 => key a1 h1 (by unfold by20; rw [if_pos c1])) fun c1 => ?_
    refine ok_ite (fun c2 => key a2 h2 (by unfold by20; rw [if_neg c1, if_pos c2])) fun c2 => ?_
    refine ok_ite (fun c3 => key a3 h3 (by unfold by20; rw [if_neg c1, if_neg c2, if_pos c3])) fun c3 => ?_
    refine ok_ite (fun c4 => key a4 h4 (by unfold by20; rw [if_neg c1, if_neg c2, if_neg c3, if_pos c4])) fun c4 => ?_
    exact key a5 h5 (by unfold by20; rw [if_neg c1, if_neg c2, if_neg c3, if_neg c4])
  · intro n G1 hI
    show ok (mm_feed_L20 a1 a2 a3 a4 a5 (n + 1) 20 G1) _
    rw [mm_feed_L20, if_neg (by omega)]
    exact ok_some ⟨hI.1, hI.1, hI.2.1, hI.2.2⟩
/-- the tape alone is another -/
theorem CInv.tape {G G' : Hp} {A A' H : Int → Int} (h : CInv G A H) (h1 : ∀ a j, ¬ (1 ≤ a ∧ a ≤ 2) → G' a j = G a j) (h2 : ∀ j, ¬ (4 ≤ j ∧ j < 610) → A' j = A j) (h3 : TapeC G' 1 A' 0) : CInv G' A' H := by
  obtain ⟨⟨⟨c0, c1⟩, c2, c3, c4⟩, c5, c6⟩ := h
  have big : ∀ t b : Int, 93 ≤ t → 1046 ≤ b → ToldC G t A b → ToldC G' t A' b := by
    intro t b ht hb hc
    have hc := hc.fr (G' := G') fun a j x y => h1 a j (by omega)
    refine ⟨?_, hc.2.congr fun k k0 k1 => h2 _ (by omega)⟩
    obtain ⟨d1, d2, d3, d4⟩ := hc.1
    refine ⟨fun j j0 j1 => ?_, ?_, ?_, fun s s0 s1 => ?_⟩
    · rw [h2 _ (by omega)]; exact d1 j j0 j1
    · rw [h2 _ (by omega)]; exact d2
    · rw [h2 _ (by omega), h2 _ (by omega)]; exact d3
    · rw [h2 _ (by omega)]; exact d4 s s0 s1
  have hT : TextsC G' 1 A 0 := by
    obtain ⟨⟨v1, p1⟩, ⟨v2, p2⟩, ⟨v3, p3⟩, ⟨v4, p4⟩, ⟨v5, p5⟩, ⟨v6, p6⟩⟩ := c1
    exact ⟨⟨v1, p1.fr fun a j x y => h1 a j (by omega)⟩, ⟨v2, p2.fr fun a j x y => h1 a j (by omega)⟩, ⟨v3, p3.fr fun a j x y => h1 a j (by omega)⟩, ⟨v4, p4.fr fun a j x y => h1 a j (by omega)⟩, ⟨v5, p5.fr fun a j x y => h1 a j (by omega)⟩, ⟨v6, p6.fr fun a j x y => h1 a j (by omega)⟩⟩
  refine ⟨⟨⟨h3, hT.congr fun k k0 k1 => h2 _ (by omega)⟩, fun z => big _ _ (by omega) (by omega) (c2 z), fun z => big _ _ (by omega) (by omega) (c3 z), fun z => big _ _ (by omega) (by omega) (c4 z)⟩, fun k k0 k1 => ?_, ?_⟩
  · rw [h1 _ _ (by omega)]
    exact c5 k k0 k1
  · have c7 := c6.fr (G' := G') fun a j x y => h1 a j (by omega)
    rcases c7 with c7 | ⟨k, k1, k2, k3⟩
    · exact Or.inl c7
    · refine Or.inr ⟨k, k1, k2, ?_⟩
      have e : ct 80 A' (pb k) = ct 80 A (pb k) := ct_eq fun j j0 j1 => h2 _ (by unfold pb; omega)
      rw [e]
      exact k3
theorem CInv.tp {G : Hp} {A H : Int → Int} (h : CInv G A H) : (∀ j, 0 ≤ j → j < 600 → G 2 j = w8 (A (10 + j)) ∧ 0 ≤ A (10 + j) ∧ A (10 + j) ≤ 255) ∧ (G 1 1 = A 4 ∧ 0 ≤ A 4 ∧ A 4 ≤ 600) ∧ (G 1 2 = A 5 ∧ G 1 3 = A 6) ∧ ∀ s, 0 ≤ s → s < 3 → G 3 s = A s ∧ 0 ≤ A s ∧ A s ≤ 2 := by
  obtain ⟨d1, d2, d3, d4⟩ := h.1.1.1
  refine ⟨fun j j0 j1 => ?_, d2, d3, fun s s0 s1 => h.many s0 s1⟩
  have := d1 j j0 j1
  rw [Int.zero_add] at this
  exact this
theorem TapeC.mk {G : Hp} {A : Int → Int} (h : (∀ j, 0 ≤ j → j < 600 → G 2 j = w8 (A (10 + j)) ∧ 0 ≤ A (10 + j) ∧ A (10 + j) ≤ 255) ∧ (G 1 1 = A 4 ∧ 0 ≤ A 4 ∧ A 4 ≤ 600) ∧ (G 1 2 = A 5 ∧ G 1 3 = A 6) ∧ ∀ s, 0 ≤ s → s < 3 → G 3 s = A s ∧ 0 ≤ A s ∧ A s ≤ 2) : TapeC G 1 A 0 := by
  obtain ⟨d1, d2, d3, d4⟩ := h
  refine ⟨fun j j0 j1 => ?_, d2, d3, fun s s0 s1 => ?_⟩
  · rw [Int.zero_add]
    exact d1 j j0 j1
  · rw [Int.zero_add]
    exact d4 s s0 s1
theorem op0 : Op0 Inv := by
  intro Gc Gm hI a1 a2 a3 a4 a5 r1 r2 r3 r4 r5
  obtain ⟨d1, d2, d3, d4⟩ := hI.tp
  obtain ⟨rc, hc1, hc2⟩ := feed_c (a1 := a1) (a2 := a2) (a3 := a3) (a4 := a4) (a5 := a5) d2.1 d2.2.1 d2.2.2
  obtain ⟨rm, hm1, hm2⟩ := feed_m (G := Gm) r1 r2 r3 r4 r5 rfl d2.2.1 d2.2.2
  refine ⟨rc, rm, hc1, hm1, ?_⟩
  by_cases h : 600 < Gm 202 4 + 20
  · rw [if_pos h] at hc2 hm2
    subst hc2 hm2
    exact ⟨rfl, hI⟩
  rw [if_neg h] at hc2 hm2
  obtain ⟨e1, e2, e3, e4⟩ := hc2
  obtain ⟨f1, f2, f3, f4⟩ := hm2
  refine ⟨by rw [e1, f1], ?_⟩
  have e203 : rm.2 203 = Gm 203 := funext fun j => f4 _ _ (by omega)
  unfold Inv
  rw [e203]
  refine CInv.tape hI (fun a j x => e4 a j (by omega) (by omega)) (fun j x => f4 _ _ (by omega)) (TapeC.mk ⟨fun j j0 j1 => ?_, ?_, ?_, fun s s0 s1 => ?_⟩)
  · by_cases hj : Gm 202 4 ≤ j ∧ j < Gm 202 4 + 20
    · have q1 := e3 (j - Gm 202 4) (by omega) (by omega)
      have q2 := f3 (j - Gm 202 4) (by omega) (by omega)
      rw [show Gm 202 4 + (j - Gm 202 4) = j by omega] at q1
      rw [show 10 + Gm 202 4 + (j - Gm 202 4) = 10 + j by omega] at q2
      rw [q1, q2]
      exact ⟨rfl, byt_r _ _⟩
    · rw [e4 _ _ (by omega) (by omega), f4 _ _ (by omega)]
      exact d1 j j0 j1
  · rw [e2, f2]
    omega
  · rw [e4 _ _ (by omega) (by omega), e4 _ _ (by omega) (by omega), f4 _ _ (by omega), f4 _ _ (by omega)]
    exact d3
  · rw [e4 _ _ (by omega) (by omega), f4 _ _ (by omega)]
    exact d4 s s0 s1
theorem op1 : Op1 Inv := by
  intro Gc Gm hI a1 r1
  obtain ⟨d1, d2, d3, d4⟩ := hI.tp
  unfold cX_end mm_end
  rw [d2.1]
  by_cases h0 : a1 < 0
  · rw [if_pos h0, if_pos h0]
    exact ⟨_, _, rfl, rfl, rfl, hI⟩
  by_cases h1 : Gm 202 4 < a1
  · rw [if_neg h0, if_neg h0, if_pos h1, if_pos h1]
    exact ⟨_, _, rfl, rfl, rfl, hI⟩
  rw [if_neg h0, if_neg h0, if_neg h1, if_neg h1]
  refine ⟨_, _, rfl, rfl, rfl, ?_⟩
  have e203 : (upd2 Gm 202 4 a1) 203 = Gm 203 := funext fun j => upd2_o (by omega)
  unfold Inv
  show CInv (upd2 Gc 1 1 a1) ((upd2 Gm 202 4 a1) 202) ((upd2 Gm 202 4 a1) 203)
  rw [e203]
  refine CInv.tape hI (fun a j x => upd2_o (by omega)) (fun j x => upd2_o (by omega)) (TapeC.mk ⟨fun j j0 j1 => ?_, ?_, ?_, fun s s0 s1 => ?_⟩)
  · rw [upd2_o (by omega), upd2_o (by omega)]
    exact d1 j j0 j1
  · rw [upd2_s, upd2_s]
    omega
  · rw [upd2_o (by omega), upd2_o (by omega), upd2_o (by omega), upd2_o (by omega)]
    exact d3
  · rw [upd2_o (by omega), upd2_o (by omega)]
    exact d4 s s0 s1
theorem op3 : Op3 Inv := by
  intro Gc Gm hI a1 r1
  obtain ⟨d1, d2, d3, d4⟩ := hI.tp
  unfold cX_fault mm_fault
  rw [d3.1, d3.2]
  by_cases h0 : a1 = 0
  · simp only [if_pos h0]
    exact ⟨_, _, rfl, rfl, rfl, hI⟩
  simp only [if_neg h0]
  by_cases h1 : a1 = 1
  · simp only [if_pos h1]
    exact ⟨_, _, rfl, rfl, rfl, hI⟩
  simp only [if_neg h1]
  exact ⟨_, _, rfl, rfl, rfl, hI⟩
theorem op30 : Op30 Inv := by
  intro Gc Gm hI a1 r1
  unfold cX_count mm_count
  rw [isIn_eq]
  by_cases h0 : 0 ≤ a1 ∧ a1 ≤ 2
  · rw [decide_eq_true h0, if_pos rfl, if_neg (by omega), if_neg (by omega), gd_ok (by omega) (by omega), gd_ok (by omega) (by omega), (hI.many (s := a1) (by omega) (by omega)).1]
    exact ⟨_, _, rfl, rfl, rfl, hI⟩
  · rw [decide_eq_false h0, if_ff]
    by_cases h1 : a1 < 0
    · rw [if_pos h1]
      exact ⟨_, _, rfl, rfl, rfl, hI⟩
    · rw [if_neg h1, if_pos (by omega)]
      exact ⟨_, _, rfl, rfl, rfl, hI⟩
