/-- a deed: printed -/
theorem cprint_ok {C : Hp} {a w : Int} (ha : a < 0) (h6 : 0 ≤ C 57 6 ∧ C 57 6 ≤ 1000) (h12 : 0 ≤ C 57 12 ∧ C 57 12 < 60) :
    ok (cSt_does 5 a w C) (fun x => x.1 = true ∧ x.2 57 6 = C 57 6 + 1 ∧ x.2 57 8 = C 57 2 ∧ (x.2 57 12 = if anyB (fun i => decide (C 72 i = C 57 2)) (C 57 12).toNat = true then C 57 12 else C 57 12 + 1) ∧ (∀ j, ¬ (j = C 57 12) → x.2 72 j = C 72 j) ∧ (¬ anyB (fun i => decide (C 72 i = C 57 2)) (C 57 12).toNat = true → x.2 72 (C 57 12) = C 57 2) ∧ ∀ b j, ¬ (b = 57 ∧ (j = 6 ∨ j = 8 ∨ j = 12)) → b ≠ 72 → x.2 b j = C b j) := by
  have hcan : cSt_can 5 a w C = some true := by
    unfold cSt_can cSt_can_j20
    rw [if_pos ha]
    rfl
  unfold cSt_does
  rw [hcan, Option.bind_some, if_pos rfl, if_neg (show ¬ (5 : Int) = 0 by omega), if_neg (show ¬ (5 : Int) = 1 by omega), if_neg (show ¬ (5 : Int) = 2 by omega), if_neg (show ¬ (5 : Int) = 3 by omega), if_neg (show ¬ (5 : Int) = 4 by omega)]
  unfold cSt_print
  rw [w32_id (z := C 57 6 + 1) (by omega) (by omega)]
  generalize hH : upd2 (upd2 C 57 6 (C 57 6 + 1)) 57 8 ((upd2 C 57 6 (C 57 6 + 1)) 57 2) = H
  have z : ∀ b j, ¬ (b = 57 ∧ (j = 6 ∨ j = 8)) → H b j = C b j := fun b j q => by rw [← hH, upd2_o (by omega), upd2_o (by omega)]
  have e6 : H 57 6 = C 57 6 + 1 := by rw [← hH, upd2_o (by omega), upd2_s]
  have e8 : H 57 8 = C 57 2 := by rw [← hH, upd2_s, upd2_o (by omega)]
  have e2 : H 57 2 = C 57 2 := z _ _ (by omega)
  have e12 : H 57 12 = C 57 12 := z _ _ (by omega)
  have e72 : ∀ j, H 72 j = C 72 j := fun j => z _ _ (by omega)
  refine ok_then (P := fun G' : Hp => G' 57 6 = C 57 6 + 1 ∧ G' 57 8 = C 57 2 ∧ (G' 57 12 = if anyB (fun i => decide (C 72 i = C 57 2)) (C 57 12).toNat = true then C 57 12 else C 57 12 + 1) ∧ (∀ j, ¬ (j = C 57 12) → G' 72 j = C 72 j) ∧ (¬ anyB (fun i => decide (C 72 i = C 57 2)) (C 57 12).toNat = true → G' 72 (C 57 12) = C 57 2) ∧ ∀ b j, ¬ (b = 57 ∧ (j = 6 ∨ j = 8 ∨ j = 12)) → b ≠ 72 → G' b j = C b j) ?_ fun G' h => ok_some ⟨rfl, h⟩
  rw [e12, e2]
  refine lp_up (fun n i (_ : Unit) => cSt_print_L20 H (if C 57 12 < 60 then gd (C 57 12) 60 (some (upd2 (upd2 H 72 (C 57 12) (C 57 2)) 57 12 (w32 (((upd2 H 72 (C 57 12) (C 57 2)) 57 12) + 1)))) else some H) n i) (C 57 12) (fun i _ => anyB (fun i => decide (C 72 i = C 57 2)) i.toNat = false) ?_ ?_ (by omega) (by omega) (by omega) (s := ()) rfl
  · intro n i s i0 i1 hs ih
    show ok (cSt_print_L20 H _ (n + 1) i) _
    rw [cSt_print_L20, e12, if_pos i1, gd_ok i0 (by omega), e72, e2, w32_id (z := i + 1) (by omega) (by omega)]
    refine ok_ite (fun e => ok_some ?_) (fun e => ih () ?_)
    · have hany : anyB (fun i => decide (C 72 i = C 57 2)) (C 57 12).toNat = true := anyB_iff.mpr ⟨i, i0, by omega, decide_eq_true e⟩
      refine ⟨e6, e8, by rw [if_pos hany]; exact e12, fun j _ => e72 j, fun h => absurd hany h, fun b j q _ => z b j (by omega)⟩
    · refine anyB_false.mpr fun j j0 j1 => ?_
      by_cases hj : j = i
      · rw [hj]
        exact decide_eq_false e
      · exact anyB_false.mp hs j j0 (by omega)
  · intro n s hs
    show ok (cSt_print_L20 H _ (n + 1) (C 57 12)) _
    have e12' : upd2 H 72 (C 57 12) (C 57 2) 57 12 = C 57 12 := by rw [upd2_o (by omega)]; exact e12
    rw [cSt_print_L20, e12, if_neg (by omega), if_pos h12.2, gd_ok h12.1 h12.2, e12', w32_id (by omega) (by omega)]
    refine ok_some ⟨?_, ?_, ?_, fun j q => ?_, fun _ => ?_, fun b j q r => ?_⟩
    · rw [upd2_o (by omega), upd2_o (by omega)]; exact e6
    · rw [upd2_o (by omega), upd2_o (by omega)]; exact e8
    · rw [upd2_s, if_neg (by rw [hs]; decide)]
    · rw [upd2_o (by omega), upd2_o (by omega)]; exact e72 j
    · rw [upd2_o (by omega), upd2_s]
    · rw [upd2_o (by omega), upd2_o (by omega)]; exact z b j (by omega)
theorem mprint_ok {G : Hp} {b a w : Int} {P f N : Int → Int} (hV : PaperV P) (hg : WkM b P f N G) (h18 : 0 ≤ G 201 18 ∧ G 201 18 ≤ 60) :
    ok (mm_does 5 a w G) (fun x => x.1 = true ∧ WkM b P f N x.2 ∧ x.2 201 18 = G 201 18 + 1 ∧ (∀ p, 0 ≤ p → p < 8 → x.2 220 (8 * G 201 18 + p) = f p) ∧ (∀ j, ¬ (8 * G 201 18 ≤ j ∧ j < 8 * G 201 18 + 8) → x.2 220 j = G 220 j) ∧ (∀ p, 0 ≤ p → p < P 0 → x.2 208 p = f p) ∧ ∀ c j, c ≠ 220 → c ≠ 208 → ¬ (c = 201 ∧ j = 18) → x.2 c j = G c j) := by
  have h0 := hV.1
  obtain ⟨m1, m2, m3⟩ := hg
  unfold mm_does mm_printsAll
  rw [if_neg (show ¬ (5 : Int) = 0 by omega), if_neg (show ¬ (5 : Int) = 1 by omega), if_neg (show ¬ (5 : Int) = 2 by omega), if_neg (show ¬ (5 : Int) = 3 by omega), if_neg (show ¬ (5 : Int) = 4 by omega)]
  refine ok_then (P := fun x : Bool × Hp => x.1 = true ∧ WkM b P f N x.2 ∧ x.2 201 18 = G 201 18 + 1 ∧ (∀ p, 0 ≤ p → p < 8 → x.2 220 (8 * G 201 18 + p) = f p) ∧ (∀ j, ¬ (8 * G 201 18 ≤ j ∧ j < 8 * G 201 18 + 8) → x.2 220 j = G 220 j) ∧ (∀ p, 0 ≤ p → p < P 0 → x.2 208 p = f p) ∧ ∀ c j, c ≠ 220 → c ≠ 208 → ¬ (c = 201 ∧ j = 18) → x.2 c j = G c j) ?_ fun x h => ok_some h
  refine ok_then (keeps_ok (a := 220) h18.1 h18.2 (by omega)) fun G1 k1 => ?_
  obtain ⟨k1, k2⟩ := k1
  have e18 : G1 201 18 = G 201 18 := k2 _ _ (by omega)
  rw [e18, w32_id (z := G 201 18 + 1) (by omega) (by omega)]
  refine lp_up (fun n i s => mm_printsAll_L24 n i s) (P 0) (fun i s => (∀ p, 0 ≤ p → p < i → s 208 p = f p) ∧ s 201 18 = G 201 18 + 1 ∧ ∀ c j, c ≠ 208 → ¬ (c = 201 ∧ j = 18) → s c j = G1 c j) ?_ ?_ (by omega) (by omega) (by omega) ⟨fun p p0 p1 => by omega, upd2_s, fun c j _ q => upd2_o (by omega)⟩
  · intro n i s i0 i1 hs ih
    have e13 : s 201 13 = P 0 := by rw [hs.2.2 _ _ (by omega) (by omega), k2 _ _ (by omega)]; exact m1.1.2.1
    have e207 : s 207 i = f i := by rw [hs.2.2 _ _ (by omega) (by omega), k2 _ _ (by omega)]; exact m3 i i0 (by omega)
    show ok (mm_printsAll_L24 (n + 1) i s) _
    rw [mm_printsAll_L24, e13, if_pos i1, gd_ok i0 (by omega), gd_ok i0 (by omega), e207, w32_id (z := i + 1) (by omega) (by omega)]
    refine ih _ ⟨fun p p0 p1 => ?_, ?_, fun c j u v => ?_⟩
    · by_cases hp : p = i
      · rw [upd2_e rfl hp, hp]
      · rw [upd2_o (by omega)]; exact hs.1 p p0 (by omega)
    · rw [upd2_o (by omega)]; exact hs.2.1
    · rw [upd2_o (by omega)]; exact hs.2.2 c j u v
  · intro n s hs
    have e13 : s 201 13 = P 0 := by rw [hs.2.2 _ _ (by omega) (by omega), k2 _ _ (by omega)]; exact m1.1.2.1
    have fr : ∀ c j, c ≠ 220 → c ≠ 208 → ¬ (c = 201 ∧ j = 18) → s c j = G c j := fun c j u v w => by rw [hs.2.2 _ _ v w, k2 _ _ (by omega)]
    show ok (mm_printsAll_L24 (n + 1) (P 0) s) _
    rw [mm_printsAll_L24, e13, if_neg (by omega)]
    have m1' : MS P b s := m1.fr (fun j v => fr _ _ (by omega) (by omega) (by omega)) (fun j => fr _ _ (by omega) (by omega) (by omega))
    have m2' : MN N s := m2.fr (fun j => fr _ _ (by omega) (by omega) (by omega)) (fun j => fr _ _ (by omega) (by omega) (by omega))
    have m3' : ∀ p, 0 ≤ p → p < 8 → s 207 p = f p := fun p p0 p1 => by rw [fr _ _ (by omega) (by omega) (by omega)]; exact m3 p p0 p1
    refine ok_some ⟨rfl, ⟨m1', m2', m3'⟩, hs.2.1, fun p p0 p1 => ?_, fun j q => ?_, hs.1, fr⟩
    · show s 220 (8 * G 201 18 + p) = f p
      rw [hs.2.2 _ _ (by omega) (by omega), k1 p p0 p1]
      exact m3 p p0 p1
    · show s 220 j = _
      rw [hs.2.2 _ _ (by omega) (by omega), k2 _ _ (by omega)]
