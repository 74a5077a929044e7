-- all that is told, copied
theorem pcopy_ok {s d : Int} {G : Hp} {P : Int → Int} (hV : PaperV P) (hs : PaperC G s P) (hd : s + 7 < d ∨ d + 7 < s) : ok (cPa_copy d s G) (fun G' => PaperC G' d P ∧ ∀ x j, ¬ (d ≤ x ∧ x ≤ d + 7) → G' x j = G x j) := by
  have h1 := hV.2.1
  obtain ⟨⟨p1, p2⟩, p3, p4, p5, p6, p7⟩ := hs
  unfold cPa_copy
  generalize hS : upd2 (upd2 (upd2 G d 0 (G s 0)) d 1 ((upd2 G d 0 (G s 0)) s 1)) d 2 ((upd2 (upd2 G d 0 (G s 0)) d 1 ((upd2 G d 0 (G s 0)) s 1)) s 2) = S
  have s0 : S d 0 = G s 0 := by rw [← hS, upd2_o (by omega), upd2_o (by omega), upd2_s]
  have s1 : S d 1 = G s 1 := by rw [← hS, upd2_o (by omega), upd2_s, upd2_o (by omega)]
  have s2 : S d 2 = G s 2 := by rw [← hS, upd2_s, upd2_o (by omega), upd2_o (by omega)]
  have sf : ∀ x j, x ≠ d → S x j = G x j := fun x j q => by rw [← hS, upd2_o (by omega), upd2_o (by omega), upd2_o (by omega)]
  have hn : NetOK S (s + 1) := p4.fr fun a j x y => sf a j (by omega)
  refine ok_then (ncopy_ok hn (by omega)) fun G1 h1' => ?_
  obtain ⟨n1, n2, n3⟩ := h1'
  refine ok_then (copyRow_ok (by omega) (by omega)) fun G2 c2 => ok_then (copyRow_ok (by omega) (by omega)) fun G3 c3 => ok_then (copyRow_ok (by omega) (by omega)) fun G4 c4 => ok_some ⟨⟨⟨?_, ?_⟩, ?_, ?_, fun w w0 w1 => ?_, fun r r0 r1 => ⟨?_, ?_⟩, fun r p r0 r1 q0 q1 => ?_⟩, fun x j q => ?_⟩
  · rw [c4.2 _ _ (by omega), c3.2 _ _ (by omega), c2.2 _ _ (by omega), n3 _ _ (by omega) (by omega), s1]; exact p1
  · rw [c4.2 _ _ (by omega), c3.2 _ _ (by omega), c2.2 _ _ (by omega), n3 _ _ (by omega) (by omega), s2]; exact p2
  · rw [c4.2 _ _ (by omega), c3.2 _ _ (by omega), c2.2 _ _ (by omega), n3 _ _ (by omega) (by omega), s0]; exact p3
  · exact n1.fr fun a j x y => by rw [c4.2 _ _ (by omega), c3.2 _ _ (by omega), c2.2 _ _ (by omega)]
  · have e := n2 w w0 w1
    rw [c4.2 _ _ (by omega), c3.2 _ _ (by omega), c2.2 _ _ (by omega), show d + 2 = d + 1 + 1 by omega, e, sf _ _ (by omega), show s + 1 + 1 = s + 2 by omega]
    exact p5 w w0 w1
  · rw [c4.2 _ _ (by omega), c3.2 _ _ (by omega), c2.1 _ r0 (by omega), n3 _ _ (by omega) (by omega), sf _ _ (by omega)]
    exact (p6 r r0 r1).1
  · rw [c4.2 _ _ (by omega), c3.1 _ r0 (by omega), c2.2 _ _ (by omega), n3 _ _ (by omega) (by omega), sf _ _ (by omega)]
    exact (p6 r r0 r1).2
  · rw [c4.1 _ (by omega) (by omega), c3.2 _ _ (by omega), c2.2 _ _ (by omega), n3 _ _ (by omega) (by omega), sf _ _ (by omega)]
    exact p7 r p r0 r1 q0 q1
  · rw [c4.2 _ _ (by omega), c3.2 _ _ (by omega), c2.2 _ _ (by omega), n3 _ _ (by omega) (by omega), sf _ _ (by omega)]
theorem wcopy_ok {s d : Int} {G : Hp} {P : Int → Int} (hV : P 0 ≤ 60) (hs : WeekC G s P) (hd : s + 3 < d ∨ d + 3 < s) : ok (cWe_copy d s G) (fun G' => WeekC G' d P ∧ ∀ x j, ¬ (d ≤ x ∧ x ≤ d + 3) → G' x j = G x j) := by
  unfold cWe_copy
  generalize hS : upd2 G d 0 (G s 0) = S
  have s0 : S d 0 = G s 0 := by rw [← hS, upd2_s]
  have sf : ∀ x j, x ≠ d → S x j = G x j := fun x j q => by rw [← hS, upd2_o (by omega)]
  refine ok_then (copyRow_ok (by omega) (by omega)) fun G2 c2 => ok_then (copyRow_ok (by omega) (by omega)) fun G3 c3 => ok_then (copyRow_ok (by omega) (by omega)) fun G4 c4 => ok_some ⟨⟨?_, fun k k0 k1 => ?_⟩, fun x j q => ?_⟩
  · rw [c4.2 _ _ (by omega), c3.2 _ _ (by omega), c2.2 _ _ (by omega), s0]; exact hs.1
  · have h := hs.2 k k0 k1
    refine ⟨?_, ?_, ?_⟩
    · rw [c4.2 _ _ (by omega), c3.2 _ _ (by omega), c2.1 _ k0 (by omega), sf _ _ (by omega)]; exact h.1
    · rw [c4.2 _ _ (by omega), c3.1 _ k0 (by omega), c2.2 _ _ (by omega), sf _ _ (by omega)]; exact h.2.1
    · rw [c4.1 _ k0 (by omega), c3.2 _ _ (by omega), c2.2 _ _ (by omega), sf _ _ (by omega)]; exact h.2.2
  · rw [c4.2 _ _ (by omega), c3.2 _ _ (by omega), c2.2 _ _ (by omega), sf _ _ (by omega)]
theorem lcopy_ok {s d : Int} {G : Hp} {P : Int → Int} (hV : P 0 ≤ 8) (hs : LogC G s P) (hd : s + 2 < d ∨ d + 2 < s) : ok (cLg_copy d s G) (fun G' => LogC G' d P ∧ ∀ x j, ¬ (d ≤ x ∧ x ≤ d + 2) → G' x j = G x j) := by
  unfold cLg_copy
  generalize hS : upd2 G d 0 (G s 0) = S
  have s0 : S d 0 = G s 0 := by rw [← hS, upd2_s]
  have sf : ∀ x j, x ≠ d → S x j = G x j := fun x j q => by rw [← hS, upd2_o (by omega)]
  refine ok_then (copyRow_ok (by omega) (by omega)) fun G2 c2 => ok_then (copyRow_ok (by omega) (by omega)) fun G3 c3 => ok_some ⟨⟨?_, fun k k0 k1 => ?_⟩, fun x j q => ?_⟩
  · rw [c3.2 _ _ (by omega), c2.2 _ _ (by omega), s0]; exact hs.1
  · have h := hs.2 k k0 k1
    refine ⟨?_, ?_⟩
    · rw [c3.2 _ _ (by omega), c2.1 _ k0 (by omega), sf _ _ (by omega)]; exact h.1
    · rw [c3.1 _ k0 (by omega), c2.2 _ _ (by omega), sf _ _ (by omega)]; exact h.2
  · rw [c3.2 _ _ (by omega), c2.2 _ _ (by omega), sf _ _ (by omega)]
