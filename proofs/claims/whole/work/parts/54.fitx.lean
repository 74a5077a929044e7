-- rows that fit, the model's
def FM (P : Int → Int) (fit : Int → Bool) (k : Int) (G : Hp) : Prop := (G 201 40 = cntF fit k.toNat ∧ G 201 41 = fF fit (mxA P) (-1) k.toNat ∧ G 201 42 = fF fit (mnA P) (-1) k.toNat) ∧ (∀ i, 0 ≤ i → i < 6 → G 221 i = if i < P 1 then fF fit (whA P i) 0 k.toNat else 0) ∧ (∀ p w, 0 ≤ p → p < 8 → 0 ≤ w → w < 10 → G 222 (10 * p + w) = if p < P 0 then fF fit (wcA P p w) 0 k.toNat else 0) ∧ (∀ a b, 0 ≤ a → a < P 1 → 0 ≤ b → b < P 1 → G 223 (6 * a + b) = fF fit (ahA P a b) 0 k.toNat)
def Fo (G G' : Hp) : Prop := ∀ a j, ¬ (a = 201 ∧ 40 ≤ j ∧ j ≤ 42) → a ≠ 221 → a ≠ 222 → a ≠ 223 → G' a j = G a j
theorem Fo.trans {G G' G'' : Hp} (h : Fo G G') (h2 : Fo G' G'') : Fo G G'' := fun a j x y z u => (h2 a j x y z u).trans (h a j x y z u)
theorem noFits_ok {G : Hp} {P : Int → Int} {fit : Int → Bool} (h6 : P 1 ≤ 6) : ok (mm_laysNoFits G) (fun G' => FM P fit 0 G' ∧ Fo G G') := by
  unfold mm_laysNoFits
  refine lp_up (fun n i s => mm_laysNoFits_L17 (fun G_36 => mm_laysNoFits_L38 (fun G_57 => mm_laysNoFits_L59 FU 0 G_57) FU 0 G_36) n i s) 6 (fun i s => (s 201 40 = 0 ∧ s 201 41 = -1 ∧ s 201 42 = -1) ∧ (∀ j, 0 ≤ j → j < i → s 221 j = 0) ∧ Fo G s) ?_ ?_ (by omega) (by omega) (by omega) ⟨⟨?_, ?_, upd2_s⟩, fun j j0 j1 => by omega, fun a j x y z u => ?_⟩
  · intro n i s i0 i1 hI ih
    show ok (mm_laysNoFits_L17 _ (n + 1) i s) _
    rw [mm_laysNoFits_L17, if_pos i1, gd_ok i0 i1, w32_id (z := i + 1) (by omega) (by omega)]
    refine ih _ ⟨?_, fun j j0 j1 => ?_, fun a j x y z u => ?_⟩
    · rw [upd2_o (by omega), upd2_o (by omega), upd2_o (by omega)]
      exact hI.1
    · by_cases hj : j = i
      · rw [upd2_e rfl hj]
      · rw [upd2_o (by omega)]
        exact hI.2.1 j j0 (by omega)
    · rw [upd2_o (by omega)]
      exact hI.2.2 a j x y z u
  · intro n s hI
    show ok (mm_laysNoFits_L17 _ (n + 1) 6 s) _
    rw [mm_laysNoFits_L17, if_neg (by omega)]
    refine lp_up (fun n i s => mm_laysNoFits_L38 (fun G_57 => mm_laysNoFits_L59 FU 0 G_57) n i s) 80 (fun i s => (s 201 40 = 0 ∧ s 201 41 = -1 ∧ s 201 42 = -1) ∧ (∀ j, 0 ≤ j → j < 6 → s 221 j = 0) ∧ (∀ j, 0 ≤ j → j < i → s 222 j = 0) ∧ Fo G s) ?_ ?_ (by omega) (by omega) (by omega) ⟨hI.1, hI.2.1, fun j j0 j1 => by omega, hI.2.2⟩
    · intro n i s i0 i1 hI ih
      show ok (mm_laysNoFits_L38 _ (n + 1) i s) _
      rw [mm_laysNoFits_L38, if_pos i1, gd_ok i0 i1, w32_id (z := i + 1) (by omega) (by omega)]
      refine ih _ ⟨?_, fun j j0 j1 => ?_, fun j j0 j1 => ?_, fun a j x y z u => ?_⟩
      · rw [upd2_o (by omega), upd2_o (by omega), upd2_o (by omega)]
        exact hI.1
      · rw [upd2_o (by omega)]
        exact hI.2.1 j j0 j1
      · by_cases hj : j = i
        · rw [upd2_e rfl hj]
        · rw [upd2_o (by omega)]
          exact hI.2.2.1 j j0 (by omega)
      · rw [upd2_o (by omega)]
        exact hI.2.2.2 a j x y z u
    · intro n s hI
      show ok (mm_laysNoFits_L38 _ (n + 1) 80 s) _
      rw [mm_laysNoFits_L38, if_neg (by omega)]
      refine lp_up (fun n i s => mm_laysNoFits_L59 n i s) 36 (fun i s => (s 201 40 = 0 ∧ s 201 41 = -1 ∧ s 201 42 = -1) ∧ (∀ j, 0 ≤ j → j < 6 → s 221 j = 0) ∧ (∀ j, 0 ≤ j → j < 80 → s 222 j = 0) ∧ (∀ j, 0 ≤ j → j < i → s 223 j = 0) ∧ Fo G s) ?_ ?_ (by omega) (by omega) (by omega) ⟨hI.1, hI.2.1, hI.2.2.1, fun j j0 j1 => by omega, hI.2.2.2⟩
      · intro n i s i0 i1 hI ih
        show ok (mm_laysNoFits_L59 (n + 1) i s) _
        rw [mm_laysNoFits_L59, if_pos i1, gd_ok i0 i1, w32_id (z := i + 1) (by omega) (by omega)]
        refine ih _ ⟨?_, fun j j0 j1 => ?_, fun j j0 j1 => ?_, fun j j0 j1 => ?_, fun a j x y z u => ?_⟩
        · rw [upd2_o (by omega), upd2_o (by omega), upd2_o (by omega)]
          exact hI.1
        · rw [upd2_o (by omega)]
          exact hI.2.1 j j0 j1
        · rw [upd2_o (by omega)]
          exact hI.2.2.1 j j0 j1
        · by_cases hj : j = i
          · rw [upd2_e rfl hj]
          · rw [upd2_o (by omega)]
            exact hI.2.2.2.1 j j0 (by omega)
        · rw [upd2_o (by omega)]
          exact hI.2.2.2.2 a j x y z u
      · intro n s hI
        obtain ⟨h1, h2, h3, h4, h5⟩ := hI
        show ok (mm_laysNoFits_L59 (n + 1) 36 s) _
        rw [mm_laysNoFits_L59, if_neg (by omega)]
        refine ok_some ⟨⟨h1, fun i i0 i1 => ?_, fun p w p0 p1 w0 w1 => ?_, fun a b a0 a1 b0 b1 => ?_⟩, h5⟩
        · rw [h2 i i0 i1]
          split <;> rfl
        · rw [h3 _ (by omega) (by omega)]
          split <;> rfl
        · rw [h4 _ (by omega) (by omega)]
          rfl
  · rw [upd2_o (by omega), upd2_o (by omega), upd2_s]
  · rw [upd2_o (by omega), upd2_s]
  · rw [upd2_o (by omega), upd2_o (by omega), upd2_o (by omega)]
theorem isSo_ok {G : Hp} {b0 b k : Int} {P Lg N : Int → Int} (hV : PaperV P) (hL : LogV Lg) (hM : MW P N b G) (h39 : G 201 39 = b0) (hb : 1012 ≤ b0 ∧ b0 ≤ 1029) (hA : ∀ j, 0 ≤ j → j < 17 → G 202 (b0 + j) = Lg j) (hr : ∀ p, 0 ≤ p → p < 8 → G 207 p = prf P k p) : mm_isSo G = some (ftB P Lg k) := by
  apply ok_iff
  have h0 := hV.1
  have hl := hL.1
  have hA0 := hA 0 (by omega) (by omega)
  rw [Int.add_zero] at hA0
  unfold mm_isSo
  refine lp_up (fun n i (s : Int) => mm_isSo_L4 G n s i) (Lg 0) (fun i s => s = b2i (allB (fun j => decide (Lg (1 + 2 * j) < P 0) && decide (prf P k (Lg (1 + 2 * j)) = Lg (2 + 2 * j))) i.toNat)) ?_ ?_ (by omega) (by omega) (by omega) (s := 1) rfl
  · intro n i s i0 i1 hI ih
    have hv := hL.2 i i0 i1
    have hs := allB_s (fun j => decide (Lg (1 + 2 * j) < P 0) && decide (prf P k (Lg (1 + 2 * j)) = Lg (2 + 2 * j))) i0
    have c1 : G 202 (b0 + 1 + 2 * i) = Lg (1 + 2 * i) := by rw [Int.add_assoc]; exact hA _ (by omega) (by omega)
    have c2 : G 202 (b0 + 2 + 2 * i) = Lg (2 + 2 * i) := by rw [Int.add_assoc]; exact hA _ (by omega) (by omega)
    show ok (mm_isSo_L4 G (n + 1) s i) _
    rw [mm_isSo_L4, h39, gd_ok (by omega) (by omega), hA0, if_pos i1, w32_id (z := i + 1) (by omega) (by omega), w32_id (z := b0 + 1) (by omega) (by omega), w32_id (z := b0 + 2) (by omega) (by omega), w32_id (z := 2 * i) (by omega) (by omega), w32_id (z := b0 + 1 + 2 * i) (by omega) (by omega), w32_id (z := b0 + 2 + 2 * i) (by omega) (by omega), c1, c2, isPlace_ok hV hM.1, Option.bind_some]
    refine ok_ite (fun e => ih 0 ?_) (fun e => ok_gd (by omega) (by omega) ?_)
    · rw [e] at hI
      rw [hs]
      cases hq : allB (fun j => decide (Lg (1 + 2 * j) < P 0) && decide (prf P k (Lg (1 + 2 * j)) = Lg (2 + 2 * j))) i.toNat with
      | false => rfl
      | true =>
        rw [hq] at hI
        cases hI
    · have hq : allB (fun j => decide (Lg (1 + 2 * j) < P 0) && decide (prf P k (Lg (1 + 2 * j)) = Lg (2 + 2 * j))) i.toNat = true := by
        cases hq : allB (fun j => decide (Lg (1 + 2 * j) < P 0) && decide (prf P k (Lg (1 + 2 * j)) = Lg (2 + 2 * j))) i.toNat with
        | false =>
          rw [hq] at hI
          exact absurd hI e
        | true => rfl
      rw [hq, Bool.true_and] at hs
      by_cases q : Lg (1 + 2 * i) < P 0
      · rw [decide_eq_true (show 0 ≤ Lg (1 + 2 * i) ∧ Lg (1 + 2 * i) < P 0 by omega), if_tt, gd_ok (by omega) (by omega), gd_ok (by omega) (by omega), gd_ok (by omega) (by omega), hr _ hv.1 (by omega)]
        refine ok_ite (fun e2 => ih 1 ?_) (fun e2 => ih 0 ?_)
        · rw [hs, decide_eq_true q, decide_eq_true e2]
          rfl
        · rw [hs, decide_eq_false e2, Bool.and_false]
          rfl
      · rw [decide_eq_false (fun z => q z.2), if_ff]
        refine ih 0 ?_
        rw [hs, decide_eq_false q, Bool.false_and]
        rfl
  · intro n s hI
    show ok (mm_isSo_L4 G (n + 1) s (Lg 0)) _
    rw [mm_isSo_L4, h39, gd_ok (by omega) (by omega), hA0, if_neg (by omega), hI]
    show ok ((zret (b2i (ftB P Lg k))).bind fun b_ => some b_) _
    cases ftB P Lg k <;> exact ok_some rfl
theorem numberOf_ok {G : Hp} {b k : Int} {P N : Int → Int} (hV : PaperV P) (hM : MW P N b G) (k0 : 0 ≤ k) (k1 : k < PRm (P 1).toNat) (hr : RwM G P k) : mm_numberOf G = some (dgF (rk (P 1).toNat k) (P 1).toNat) := by
  apply ok_iff
  have h1 := hV.2.1
  have hN : (P 1).toNat ≤ 6 := by omega
  unfold mm_numberOf
  refine lp_up (fun n i (s : Int) => mm_numberOf_L4 G n s i) (P 1) (fun i s => s = dgF (rk (P 1).toNat k) i.toNat) ?_ ?_ (by omega) (by omega) (by omega) (s := 1) rfl
  · intro n i s i0 i1 hI ih
    have hs := dgF_s (rk (P 1).toNat k) i0
    have ha := (rk_all hN k0 k1 i0 (show i < ((P 1).toNat : Int) by omega)).1
    have hd := dgF_r (row := rk (P 1).toNat k) i.toNat (fun j j0 j1 => by have := (rk_all hN k0 k1 j0 (show j < ((P 1).toNat : Int) by omega)).1; omega)
    have hp := pw6_t ⟨i.toNat, by omega⟩
    have hp2 : pwD 10 i.toNat ≤ 1000000 := hp
    rw [← hI] at hs hd
    show ok (mm_numberOf_L4 G (n + 1) s i) _
    rw [mm_numberOf_L4, hM.1.1.2.2, if_pos i1, gd_ok i0 (by omega), hr i i0 (by omega), w32_id (z := i + 1) (by omega) (by omega), w32_id (z := 10 * s) (by omega) (by omega), w32_id (z := 10 * s + rk (P 1).toNat k i) (by omega) (by omega)]
    exact ih _ hs.symm
  · intro n s hI
    show ok (mm_numberOf_L4 G (n + 1) s (P 1)) _
    rw [mm_numberOf_L4, hM.1.1.2.2, if_neg (by omega)]
    exact ok_some hI
