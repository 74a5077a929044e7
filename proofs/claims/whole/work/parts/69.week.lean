-- weeks: how things stand
theorem begin_ok {G : Hp} {o : Int} {P : Int → Int} (ho : o = 7 ∨ o = 22) (hP : PaperC G o P) : ok (cSt_begin o G) (fun C => (C 57 0 = o ∧ PK (C 57 2) (sl P 2) ∧ NetOK C 66 ∧ ∀ w, 0 ≤ w → w < 10 → C 67 w = sl P 10 w) ∧ (∀ r, 0 ≤ r → r < 6 → C 70 r = 0 ∧ C 71 r = 0) ∧ (C 57 5 = 0 ∧ C 57 6 = 0 ∧ C 57 9 = -1 ∧ C 57 10 = 0 ∧ C 57 11 = 0 ∧ C 57 12 = 0) ∧ ∀ a j, ¬ (57 ≤ a ∧ a ≤ 72) → C a j = G a j) := by
  unfold cSt_begin
  have hP1 : PaperC (upd2 G 57 0 o) o P := hP.fr fun a j x y => upd2_o (by omega)
  refine ok_then (ncopy_ok (d := 66) hP1.2.2.1 (by omega)) fun G1 h1 => ?_
  obtain ⟨n1, n2, n3⟩ := h1
  have e0 : G1 57 0 = o := by rw [n3 _ _ (by omega) (by omega), upd2_s]
  have eo : G1 o 0 = G o 0 := by rw [n3 _ _ (by omega) (by omega), upd2_o (by omega)]
  have hfr : ∀ a j, ¬ (57 ≤ a ∧ a ≤ 72) → G1 a j = G a j := fun a j q => by rw [n3 _ _ (by omega) (by omega), upd2_o (by omega)]
  rw [eo]
  refine lp_up (fun n i (s : Hp) => cSt_begin_L26 o (fun G_52 => some (upd2 (upd2 (upd2 (upd2 (upd2 (upd2 (upd2 G_52 57 5 0) 57 6 0) 57 8 0) 57 9 (-1)) 57 10 0) 57 11 0) 57 12 0)) n i s) 6 (fun i s => (∀ r, 0 ≤ r → r < i → s 70 r = 0 ∧ s 71 r = 0) ∧ ∀ a j, a ≠ 70 → a ≠ 71 → s a j = upd2 G1 57 2 (G o 0) a j) ?_ ?_ (by omega) (by omega) (by omega) ⟨fun r r0 r1 => by omega, fun _ _ _ _ => rfl⟩
  · intro n i s i0 i1 hs ih
    show ok (cSt_begin_L26 o _ (n + 1) i s) _
    rw [cSt_begin_L26, if_pos i1, gd_ok i0 i1, gd_ok i0 i1, w32_id (z := i + 1) (by omega) (by omega)]
    refine ih _ ⟨fun r r0 r1 => ?_, fun a j x y => ?_⟩
    · by_cases hr : r = i
      · rw [hr]
        exact ⟨by rw [upd2_o (by omega), upd2_s], upd2_s⟩
      · rw [upd2_o (by omega), upd2_o (by omega), upd2_o (by omega), upd2_o (by omega)]
        exact hs.1 r r0 (by omega)
    · rw [upd2_o (by omega), upd2_o (by omega)]
      exact hs.2 a j x y
  · intro n s hs
    show ok (cSt_begin_L26 o _ (n + 1) 6 s) _
    rw [cSt_begin_L26, if_neg (by omega)]
    generalize hH : upd2 (upd2 (upd2 (upd2 (upd2 (upd2 (upd2 s 57 5 0) 57 6 0) 57 8 0) 57 9 (-1)) 57 10 0) 57 11 0) 57 12 0 = H
    have fr : ∀ a j, ¬ (a = 57 ∧ 5 ≤ j) → H a j = s a j := fun a j q => by rw [← hH, upd2_o (by omega), upd2_o (by omega), upd2_o (by omega), upd2_o (by omega), upd2_o (by omega), upd2_o (by omega), upd2_o (by omega)]
    have g1 : ∀ a j, a ≠ 70 → a ≠ 71 → a ≠ 57 → H a j = G1 a j := fun a j x y z => by rw [fr _ _ (by omega), hs.2 _ _ x y, upd2_o (by omega)]
    refine ok_some ⟨⟨?_, ?_, n1.fr fun a j x y => g1 a j (by omega) (by omega) (by omega), fun w w0 w1 => ?_⟩, fun r r0 r1 => ?_, ⟨?_, ?_, ?_, ?_, ?_, ?_⟩, fun a j q => ?_⟩
    · rw [fr _ _ (by omega), hs.2 _ _ (by omega) (by omega), upd2_o (by omega)]
      exact e0
    · rw [fr _ _ (by omega), hs.2 _ _ (by omega) (by omega), upd2_s]
      exact hP.2.1
    · rw [g1 _ _ (by omega) (by omega) (by omega)]
      have := n2 w w0 w1
      rw [show (66 : Int) + 1 = 67 from rfl] at this
      rw [this]
      exact hP1.nb w w0 w1
    · rw [fr _ _ (by omega), fr _ _ (by omega)]
      exact hs.1 r r0 r1
    · rw [← hH, upd2_o (by omega), upd2_o (by omega), upd2_o (by omega), upd2_o (by omega), upd2_o (by omega), upd2_o (by omega), upd2_s]
    · rw [← hH, upd2_o (by omega), upd2_o (by omega), upd2_o (by omega), upd2_o (by omega), upd2_o (by omega), upd2_s]
    · rw [← hH, upd2_o (by omega), upd2_o (by omega), upd2_o (by omega), upd2_s]
    · rw [← hH, upd2_o (by omega), upd2_o (by omega), upd2_s]
    · rw [← hH, upd2_o (by omega), upd2_s]
    · rw [← hH, upd2_s]
    · rw [g1 _ _ (by omega) (by omega) (by omega)]
      exact hfr a j q
/-- both systems in the same week: f the words, g the words last printed, N the near words -/
def WkC (o : Int) (P f N : Int → Int) (C : Hp) : Prop := (C 57 0 = o ∧ PK (C 57 2) f ∧ NetOK C 66 ∧ ∀ w, 0 ≤ w → w < 10 → C 67 w = N w) ∧ PaperC C o P
def WkM (b : Int) (P f N : Int → Int) (G : Hp) : Prop := MS P b G ∧ MN N G ∧ ∀ p, 0 ≤ p → p < 8 → G 207 p = f p
def WkF (P f : Int → Int) : Prop := PV f ∧ ∀ p, P 0 ≤ p → p < 8 → f p = 0
/-- k deeds done -/
def WkR (k : Int) (C G : Hp) : Prop := (C 57 5 = G 201 17 ∧ 0 ≤ G 201 17 ∧ G 201 17 ≤ 8 * k) ∧ (C 57 6 = G 201 18 ∧ 0 ≤ G 201 18 ∧ G 201 18 ≤ k) ∧ (C 57 10 = G 201 19 ∧ 0 ≤ G 201 19 ∧ G 201 19 ≤ k) ∧ (C 57 11 = G 201 20 ∧ Mk 8 (G 201 20)) ∧ ∀ r, 0 ≤ r → r < 6 → (C 70 r = G 209 r ∧ Mk 8 (G 209 r)) ∧ C 71 r = G 210 r ∧ 0 ≤ G 210 r ∧ G 210 r ≤ 8 * k
