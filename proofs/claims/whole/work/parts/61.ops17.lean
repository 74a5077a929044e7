theorem ToldC.congr {G : Hp} {t b b' : Int} {A A' : Int → Int} (h : ToldC G t A b) (hA : ∀ k, 0 ≤ k → k < 1046 → A' (b' + k) = A (b + k)) : ToldC G t A' b' := by
  have e0 : A' b' = A b := by have := hA 0 (by omega) (by omega); rwa [Int.add_zero, Int.add_zero] at this
  obtain ⟨⟨h1, h2, h3, h4⟩, h5⟩ := h
  refine ⟨⟨fun j j0 j1 => ?_, ?_, ?_, fun s s0 s1 => ?_⟩, h5.congr fun k k0 k1 => hA k (by omega) k1⟩
  · have := hA (10 + j) (by omega) (by omega)
    rw [← Int.add_assoc, ← Int.add_assoc] at this
    rw [this]
    exact h1 j j0 j1
  · rw [hA 4 (by omega) (by omega)]; exact h2
  · rw [hA 5 (by omega) (by omega), hA 6 (by omega) (by omega)]; exact h3
  · rw [hA s s0 (by omega)]; exact h4 s s0 s1
theorem rf_t : ∀ t, t = 1 ∨ t = 93 ∨ t = 129 ∨ t = 165 → (RF0 (t + 3) 0 = t + 6 ∧ RF0 (t + 3) 1 = t + 21) ∧ (RF0 (t + 4) 0 = t + 14 ∧ RF0 (t + 4) 1 = t + 29) ∧ (RF0 (t + 5) 0 = t + 18 ∧ RF0 (t + 5) 1 = t + 33) := by
  rintro t (rfl | rfl | rfl | rfl) <;> decide +kernel
theorem tocopy_ok {s d b : Int} {G : Hp} {A : Int → Int} (hs : s = 1 ∨ s = 93 ∨ s = 129 ∨ s = 165) (hd : d = 1 ∨ d = 93 ∨ d = 129 ∨ d = 165) (hsd : s ≠ d) (h : ToldC G s A b) : ok (cTo_copy d s G) (fun G' => ToldC G' d A b ∧ ∀ x j, ¬ (d ≤ x ∧ x ≤ d + 35) → G' x j = G x j) := by
  have hfar : s + 35 < d ∨ d + 35 < s := by omega
  have rs := rf_t s hs
  have rd := rf_t d hd
  obtain ⟨⟨t1, t2, t3, t4⟩, ⟨v1, c1⟩, ⟨v2, c2⟩, ⟨v3, c3⟩, ⟨v4, c4⟩, ⟨v5, c5⟩, ⟨v6, c6⟩⟩ := h
  unfold cTo_copy
  refine ok_cpy (by omega) (by omega) (by omega) (by omega) (by omega) ?_
  generalize hT : cpy2 G (s + 1) 0 (d + 1) 0 600 = T
  have eT : ∀ j, 0 ≤ j → j < 600 → T (d + 1) j = G (s + 1) j := fun j j0 j1 => by
    rw [← hT]
    unfold cpy2
    rw [if_pos ⟨rfl, j0, by omega⟩]
    congr 1
    omega
  have fT : ∀ x j, x ≠ d + 1 → T x j = G x j := fun x j q => by rw [← hT, cpy2_ne q]
  generalize hS : upd2 (upd2 (upd2 T d 1 (T s 1)) d 2 ((upd2 T d 1 (T s 1)) s 2)) d 3 ((upd2 (upd2 T d 1 (T s 1)) d 2 ((upd2 T d 1 (T s 1)) s 2)) s 3) = S
  have s1 : S d 1 = G s 1 := by rw [← hS, upd2_o (by omega), upd2_o (by omega), upd2_s, fT _ _ (by omega)]
  have s2 : S d 2 = G s 2 := by rw [← hS, upd2_o (by omega), upd2_s, upd2_o (by omega), fT _ _ (by omega)]
  have s3 : S d 3 = G s 3 := by rw [← hS, upd2_s, upd2_o (by omega), upd2_o (by omega), fT _ _ (by omega)]
  have sf : ∀ x j, x ≠ d → S x j = T x j := fun x j q => by rw [← hS, upd2_o (by omega), upd2_o (by omega), upd2_o (by omega)]
  refine ok_then (copyRow_ok (by omega) (by omega)) fun G1 k1 => ?_
  have g1 : ∀ x j, ¬ (d ≤ x ∧ x ≤ d + 2) → G1 x j = G x j := fun x j q => by rw [k1.2 _ _ (by omega), sf _ _ (by omega), fT _ _ (by omega)]
  have e : FU = 99997 + 1 + 1 + 1 := rfl
  rw [e, cTo_copy_L53, if_pos (by omega), gd_ok (by omega) (by omega), gd_ok (by omega) (by omega), rs.1.1, rd.1.1]
  refine ok_then (pcopy_ok (G := G1) v1 (c1.fr fun a j x y => g1 a j (by omega)) (by omega)) fun G2 k2 => ok_gd (by omega) (by omega) (ok_gd (by omega) (by omega) ?_)
  rw [rs.2.1.1, rd.2.1.1]
  have g2 : ∀ x j, ¬ (d ≤ x ∧ x ≤ d + 35) → G2 x j = G x j := fun x j q => by rw [k2.2 _ _ (by omega), g1 _ _ (by omega)]
  have w3 := v3.1
  refine ok_then (wcopy_ok (G := G2) (by omega) (c3.fr fun a j x y => g2 a j (by omega)) (by omega)) fun G3 k3 => ok_gd (by omega) (by omega) (ok_gd (by omega) (by omega) ?_)
  rw [rs.2.2.1, rd.2.2.1]
  have g3 : ∀ x j, ¬ (d ≤ x ∧ x ≤ d + 35) → G3 x j = G x j := fun x j q => by rw [k3.2 _ _ (by omega), g2 _ _ (by omega)]
  have w5 := v5.1
  refine ok_then (lcopy_ok (G := G3) (by omega) (c5.fr fun a j x y => g3 a j (by omega)) (by omega)) fun G4 k4 => ?_
  have g4 : ∀ x j, ¬ (d ≤ x ∧ x ≤ d + 35) → G4 x j = G x j := fun x j q => by rw [k4.2 _ _ (by omega), g3 _ _ (by omega)]
  rw [show w32 (0 + 1) = 1 from rfl, cTo_copy_L53, if_pos (by omega), gd_ok (by omega) (by omega), gd_ok (by omega) (by omega), rs.1.2, rd.1.2]
  refine ok_then (pcopy_ok (G := G4) v2 (c2.fr fun a j x y => g4 a j (by omega)) (by omega)) fun G5 k5 => ok_gd (by omega) (by omega) (ok_gd (by omega) (by omega) ?_)
  rw [rs.2.1.2, rd.2.1.2]
  have g5 : ∀ x j, ¬ (d ≤ x ∧ x ≤ d + 35) → G5 x j = G x j := fun x j q => by rw [k5.2 _ _ (by omega), g4 _ _ (by omega)]
  have w4 := v4.1
  refine ok_then (wcopy_ok (G := G5) (by omega) (c4.fr fun a j x y => g5 a j (by omega)) (by omega)) fun G6 k6 => ok_gd (by omega) (by omega) (ok_gd (by omega) (by omega) ?_)
  rw [rs.2.2.2, rd.2.2.2]
  have g6 : ∀ x j, ¬ (d ≤ x ∧ x ≤ d + 35) → G6 x j = G x j := fun x j q => by rw [k6.2 _ _ (by omega), g5 _ _ (by omega)]
  have w6 := v6.1
  refine ok_then (lcopy_ok (G := G6) (by omega) (c6.fr fun a j x y => g6 a j (by omega)) (by omega)) fun G7 k7 => ?_
  rw [show w32 (1 + 1) = 2 from rfl, cTo_copy_L53, if_neg (by omega)]
  have z : ∀ x j, (x ≤ d + 5) → G7 x j = G1 x j := fun x j q => by rw [k7.2 _ _ (by omega), k6.2 _ _ (by omega), k5.2 _ _ (by omega), k4.2 _ _ (by omega), k3.2 _ _ (by omega), k2.2 _ _ (by omega)]
  refine ok_some ⟨⟨⟨fun j j0 j1 => ?_, ⟨?_, t2.2⟩, ⟨?_, ?_⟩, fun q q0 q1 => ⟨?_, (t4 q q0 q1).2⟩⟩, ⟨v1, k2.1.fr fun a j x y => ?_⟩, ⟨v2, k5.1.fr fun a j x y => ?_⟩, ⟨v3, k3.1.fr fun a j x y => ?_⟩, ⟨v4, k6.1.fr fun a j x y => ?_⟩, ⟨v5, k4.1.fr fun a j x y => ?_⟩, ⟨v6, k7.1⟩⟩, fun x j q => ?_⟩
  · rw [z _ _ (by omega), k1.2 _ _ (by omega), sf _ _ (by omega), eT j j0 j1]
    exact t1 j j0 j1
  · rw [z _ _ (by omega), k1.2 _ _ (by omega), s1]; exact t2.1
  · rw [z _ _ (by omega), k1.2 _ _ (by omega), s2]; exact t3.1
  · rw [z _ _ (by omega), k1.2 _ _ (by omega), s3]; exact t3.2
  · rw [z _ _ (by omega), k1.1 _ q0 q1, sf _ _ (by omega), fT _ _ (by omega)]; exact (t4 q q0 q1).1
  · rw [k7.2 _ _ (by omega), k6.2 _ _ (by omega), k5.2 _ _ (by omega), k4.2 _ _ (by omega), k3.2 _ _ (by omega)]
  · rw [k7.2 _ _ (by omega), k6.2 _ _ (by omega)]
  · rw [k7.2 _ _ (by omega), k6.2 _ _ (by omega), k5.2 _ _ (by omega), k4.2 _ _ (by omega)]
  · rw [k7.2 _ _ (by omega)]
  · rw [k7.2 _ _ (by omega), k6.2 _ _ (by omega), k5.2 _ _ (by omega)]
  · rw [k7.2 _ _ (by omega), g6 _ _ (by omega)]
theorem CInv.told {G : Hp} {A H : Int → Int} (h : CInv G A H) {k : Int} (k0 : 0 ≤ k) (k1 : k < 3) (hk : H k = 1) : ToldC G (93 + 36 * k) A (1046 * (k + 1)) := by
  obtain ⟨⟨h1, h2, h3, h4⟩, h5, h6⟩ := h
  rcases (show k = 0 ∨ k = 1 ∨ k = 2 by omega) with rfl | rfl | rfl
  · exact h2 hk
  · exact h3 hk
  · exact h4 hk
theorem CInv.of {G : Hp} {A H : Int → Int} (h1 : ToldC G 1 A 0) (h2 : ∀ k, 0 ≤ k → k < 3 → H k = 1 → ToldC G (93 + 36 * k) A (1046 * (k + 1))) (h3 : ∀ k, 0 ≤ k → k < 3 → G 38 k = H k ∧ (H k = 0 ∨ H k = 1)) (h4 : RowsC G A) : CInv G A H :=
  ⟨⟨h1, h2 0 (by omega) (by omega), h2 1 (by omega) (by omega), h2 2 (by omega) (by omega)⟩, h3, h4⟩
theorem RowsC.congr {G : Hp} {A A' : Int → Int} (h : RowsC G A) (hA : ∀ k, 0 ≤ k → k < 1046 → A' k = A k) : RowsC G A' := by
  rcases h with h | ⟨k, hk, h1, h2⟩
  · exact Or.inl h
  · refine Or.inr ⟨k, hk, h1, ?_⟩
    have e : ct 80 A' (pb k) = ct 80 A (pb k) := ct_eq fun j j0 j1 => hA _ (by unfold pb; omega) (by unfold pb; omega)
    rw [e]
    exact h2
theorem rf37 {k : Int} (k0 : 0 ≤ k) (k1 : k < 3) : RF0 37 k = 93 + 36 * k := by
  rcases (show k = 0 ∨ k = 1 ∨ k = 2 by omega) with rfl | rfl | rfl <;> decide +kernel
theorem op31 : Op31 Inv := by
  intro Gc Gm hI a1 r1
  have hC : CInv Gc (Gm 202) (Gm 203) := hI
  by_cases hk : 0 ≤ a1 ∧ a1 < 3
  · obtain ⟨k0, k1⟩ := hk
    obtain ⟨rm, e1, m1⟩ : ok (mm_image a1 Gm) (fun x => x.1 = true ∧ (∀ j, 0 ≤ j → j < 1046 → x.2 202 (1046 * (a1 + 1) + j) = Gm 202 j) ∧ (∀ j, ¬ (1046 * (a1 + 1) ≤ j ∧ j < 1046 * (a1 + 1) + 1046) → x.2 202 j = Gm 202 j) ∧ ∀ j, x.2 203 j = if j = a1 then 1 else Gm 203 j) := by
      unfold mm_image
      rw [isIn_eq, decide_eq_true (by omega), if_tt, gd_ok k0 k1]
      refine lp_up (fun n i s => mm_image_L20 a1 n i s) 1046 (fun i s => (∀ j, 0 ≤ j → j < i → s 202 (1046 * (a1 + 1) + j) = Gm 202 j) ∧ (∀ j, ¬ (1046 * (a1 + 1) ≤ j ∧ j < 1046 * (a1 + 1) + 1046) → s 202 j = Gm 202 j) ∧ ∀ j, s 203 j = if j = a1 then 1 else Gm 203 j) ?_ ?_ (by omega) (by omega) (by omega) ⟨fun j j0 j1 => by omega, fun j q => upd2_o (by omega), fun j => ?_⟩
      · intro n i s i0 i1 hs ih
        show ok (mm_image_L20 a1 (n + 1) i s) _
        rw [mm_image_L20, if_pos i1, gd_ok i0 (by omega), w32_id (z := i + 1) (by omega) (by omega), w32_id (z := a1 + 1) (by omega) (by omega), w32_id (z := 1046 * (a1 + 1)) (by omega) (by omega), w32_id (z := 1046 * (a1 + 1) + i) (by omega) (by omega), gd_ok (by omega) (by omega), hs.2.1 i (by omega)]
        refine ih _ ⟨fun j j0 j1 => ?_, fun j q => ?_, fun j => ?_⟩
        · by_cases hj : j = i
          · rw [hj, upd2_s]
          · rw [upd2_o (by omega)]
            exact hs.1 j j0 (by omega)
        · rw [upd2_o (by omega)]
          exact hs.2.1 j q
        · rw [upd2_o (by omega)]
          exact hs.2.2 j
      · intro n s hs
        show ok (mm_image_L20 a1 (n + 1) 1046 s) _
        rw [mm_image_L20, if_neg (by omega)]
        exact ok_some ⟨rfl, hs⟩
      · by_cases hj : j = a1
        · rw [if_pos hj, upd2_e rfl hj]
        · rw [if_neg hj, upd2_o (by omega)]
    obtain ⟨m0, m1, m2, m3⟩ := m1
    obtain ⟨rc, e2, c1⟩ : ok (cX_image a1 Gc) (fun x => x.1 = true ∧ CInv x.2 (rm.2 202) (rm.2 203)) := by
      unfold cX_image
      rw [if_neg (by omega), if_neg (by omega), gd_ok k0 k1, rf37 k0 k1]
      refine ok_then (tocopy_ok (Or.inl rfl) (by omega) (by omega) hC.1.1) fun G1 g1 => ok_gd k0 k1 (ok_some ⟨rfl, CInv.of ?_ (fun k q0 q1 hk => ?_) (fun k q0 q1 => ?_) ?_⟩)
      · refine ToldC.congr (b := 0) (A := Gm 202) (hC.1.1.fr fun a j x y => ?_) fun k q0 q1 => m2 _ (by omega)
        show upd2 G1 38 a1 1 a j = _
        rw [upd2_o (by omega)]
        exact g1.2 a j (by omega)
      · by_cases hka : k = a1
        · rw [hka]
          refine ToldC.congr (b := 0) (A := Gm 202) (g1.1.fr fun a j x y => ?_) fun k q0 q1 => ?_
          · show upd2 G1 38 a1 1 a j = _
            rw [upd2_o (by omega)]
          · rw [m1 k q0 q1, Int.zero_add]
        · refine ToldC.congr (b := 1046 * (k + 1)) (A := Gm 202) ((hC.told q0 q1 (by rw [m3 k, if_neg hka] at hk; exact hk)).fr fun a j x y => ?_) fun j j0 j1 => m2 _ (by omega)
          show upd2 G1 38 a1 1 a j = _
          rw [upd2_o (by omega)]
          exact g1.2 a j (by omega)
      · show upd2 G1 38 a1 1 38 k = _ ∧ _
        rw [m3 k]
        by_cases hka : k = a1
        · rw [if_pos hka, upd2_e rfl hka]
          exact ⟨rfl, Or.inr rfl⟩
        · rw [if_neg hka, upd2_o (by omega), g1.2 _ _ (by omega)]
          exact hC.2.1 k q0 q1
      · have hr : RowsC (upd2 G1 38 a1 1) (Gm 202) := by
          have hf : ∀ a j, 80 ≤ a → a ≤ 85 → upd2 G1 38 a1 1 a j = Gc a j := fun a j x y => by rw [upd2_o (by omega), g1.2 _ _ (by omega)]
          rcases hC.2.2 with q | ⟨k, q0, q1, q2⟩
          · exact Or.inl (by rw [hf _ _ (by omega) (by omega)]; exact q)
          · exact Or.inr ⟨k, q0, by rw [hf _ _ (by omega) (by omega)]; exact q1, q2.fr hf⟩
        exact hr.congr fun k q0 q1 => m2 _ (by omega)
    exact ⟨rc, rm, e2, e1, by rw [c1.1, m0], c1.2⟩
  · refine ⟨(false, Gc), (false, Gm), ?_, ?_, rfl, hI⟩
    · unfold cX_image
      by_cases q : a1 < 0
      · rw [if_pos q]
      · rw [if_neg q, if_pos (by omega)]
    · unfold mm_image
      rw [isIn_eq, decide_eq_false (by omega), if_ff]
theorem op32 : Op32 Inv := by
  intro Gc Gm hI a1 r1
  have hC : CInv Gc (Gm 202) (Gm 203) := hI
  by_cases hk : 0 ≤ a1 ∧ a1 < 3
  · obtain ⟨k0, k1⟩ := hk
    have hkp := (hC.2.1 a1 k0 k1).1
    by_cases hz : Gm 203 a1 = 0
    · refine ⟨(false, Gc), (false, Gm), ?_, ?_, rfl, hI⟩
      · unfold cX_again
        rw [if_neg (by omega), if_pos k1, gd_ok k0 k1, hkp, if_pos hz]
      · unfold mm_again
        rw [isIn_eq, decide_eq_true (by omega), if_tt, gd_ok k0 k1, if_pos hz]
    · obtain ⟨rm, e1, m1⟩ : ok (mm_again a1 Gm) (fun x => x.1 = true ∧ (∀ j, 0 ≤ j → j < 1046 → x.2 202 j = Gm 202 (1046 * (a1 + 1) + j)) ∧ (∀ j, ¬ (0 ≤ j ∧ j < 1046) → x.2 202 j = Gm 202 j) ∧ ∀ j, x.2 203 j = Gm 203 j) := by
        unfold mm_again
        rw [isIn_eq, decide_eq_true (by omega), if_tt, gd_ok k0 k1, if_neg hz]
        refine lp_up (fun n i s => mm_again_L22 a1 n i s) 1046 (fun i s => (∀ j, 0 ≤ j → j < i → s 202 j = Gm 202 (1046 * (a1 + 1) + j)) ∧ (∀ j, ¬ (0 ≤ j ∧ j < 1046) → s 202 j = Gm 202 j) ∧ ∀ j, s 203 j = Gm 203 j) ?_ ?_ (by omega) (by omega) (by omega) ⟨fun j j0 j1 => by omega, fun j q => rfl, fun j => rfl⟩
        · intro n i s i0 i1 hs ih
          show ok (mm_again_L22 a1 (n + 1) i s) _
          rw [mm_again_L22, if_pos i1, w32_id (z := i + 1) (by omega) (by omega), w32_id (z := a1 + 1) (by omega) (by omega), w32_id (z := 1046 * (a1 + 1)) (by omega) (by omega), w32_id (z := 1046 * (a1 + 1) + i) (by omega) (by omega), gd_ok (by omega) (by omega), gd_ok i0 (by omega), hs.2.1 _ (by omega)]
          refine ih _ ⟨fun j j0 j1 => ?_, fun j q => ?_, fun j => ?_⟩
          · by_cases hj : j = i
            · rw [hj, upd2_s]
            · rw [upd2_o (by omega)]
              exact hs.1 j j0 (by omega)
          · rw [upd2_o (by omega)]
            exact hs.2.1 j q
          · rw [upd2_o (by omega)]
            exact hs.2.2 j
        · intro n s hs
          show ok (mm_again_L22 a1 (n + 1) 1046 s) _
          rw [mm_again_L22, if_neg (by omega)]
          exact ok_some ⟨rfl, hs⟩
      obtain ⟨m0, m1, m2, m3⟩ := m1
      obtain ⟨rc, e2, c1⟩ : ok (cX_again a1 Gc) (fun x => x.1 = true ∧ CInv x.2 (rm.2 202) (rm.2 203)) := by
        unfold cX_again cRw_forget
        rw [if_neg (by omega), if_pos k1, gd_ok k0 k1, hkp, if_neg hz, gd_ok k0 k1, rf37 k0 k1]
        refine ok_then (tocopy_ok (by omega) (Or.inl rfl) (by omega) (hC.told k0 k1 (by have := (hC.2.1 a1 k0 k1).2; omega))) fun G1 g1 => ?_
        rw [Option.bind_some]
        refine ok_some ⟨rfl, CInv.of ?_ (fun k q0 q1 hk => ?_) (fun k q0 q1 => ?_) (Or.inl (show upd2 G1 80 0 (-1) 80 0 = -1 from upd2_s))⟩
        · refine ToldC.congr (b := 1046 * (a1 + 1)) (A := Gm 202) (g1.1.fr fun a j x y => ?_) fun k q0 q1 => by rw [Int.zero_add]; exact m1 k q0 q1
          show upd2 G1 80 0 (-1) a j = _
          rw [upd2_o (by omega)]
        · refine ToldC.congr (b := 1046 * (k + 1)) (A := Gm 202) ((hC.told q0 q1 (by rw [m3 k] at hk; exact hk)).fr fun a j x y => ?_) fun j j0 j1 => m2 _ (by omega)
          show upd2 G1 80 0 (-1) a j = _
          rw [upd2_o (by omega)]
          exact g1.2 a j (by omega)
        · show upd2 G1 80 0 (-1) 38 k = _ ∧ _
          rw [m3 k, upd2_o (by omega), g1.2 _ _ (by omega)]
          exact hC.2.1 k q0 q1
      exact ⟨rc, rm, e2, e1, by rw [c1.1, m0], c1.2⟩
  · refine ⟨(false, Gc), (false, Gm), ?_, ?_, rfl, hI⟩
    · unfold cX_again
      by_cases q : a1 < 0
      · rw [if_pos q]
      · rw [if_neg q, if_neg (by omega)]
    · unfold mm_again
      rw [isIn_eq, decide_eq_false (by omega), if_ff]
theorem z_ct {n b : Int} (hb : 7 ≤ b) : ct n (G00 202) b = fun _ => 0 := by
  funext k
  unfold ct
  split
  · unfold G00
    rw [if_neg (by omega), if_neg (by omega)]
  · rfl
theorem z_bt (k : Int) : bt 0 k = true → False := by
  intro h
  rw [bt_zero] at h
  cases h
