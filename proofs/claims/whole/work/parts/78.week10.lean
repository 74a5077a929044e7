-- weeks: one step of both
theorem WkC.fr {o : Int} {P f N : Int → Int} {C C' : Hp} (ho : o = 7 ∨ o = 22) (h : WkC o P f N C) (hf : ∀ a j, ¬ (a = 57 ∧ j ≠ 0 ∧ j ≠ 2) → ¬ (58 ≤ a ∧ a ≤ 65) → ¬ (70 ≤ a) → C' a j = C a j) : WkC o P f N C' := by
  obtain ⟨⟨c1, c2, c3, c4⟩, c5⟩ := h
  refine ⟨⟨?_, ?_, c3.fr fun a j u v => hf a j (by omega) (by omega) (by omega), fun w w0 w1 => ?_⟩, c5.fr fun a j u v => hf a j (by omega) (by omega) (by omega)⟩
  · rw [hf _ _ (by omega) (by omega) (by omega)]; exact c1
  · rw [hf _ _ (by omega) (by omega) (by omega)]; exact c2
  · rw [hf _ _ (by omega) (by omega) (by omega)]; exact c4 w w0 w1
theorem WkM.fr {b : Int} {P f N : Int → Int} {G G' : Hp} (h : WkM b P f N G) (hf : ∀ c j, c = 202 ∨ c = 205 ∨ c = 206 ∨ c = 207 ∨ (c = 201 ∧ 12 ≤ j ∧ j ≤ 14) → G' c j = G c j) : WkM b P f N G' := by
  obtain ⟨m1, m2, m3⟩ := h
  refine ⟨m1.fr (fun j v => hf _ _ (by omega)) (fun j => hf _ _ (by omega)), m2.fr (fun j => hf _ _ (by omega)) (fun j => hf _ _ (by omega)), fun p p0 p1 => ?_⟩
  rw [hf _ _ (by omega)]; exact m3 p p0 p1
/-- two prints are alike; a print that is like none ahead of it -/
def likeE (E : Int → Int) (pl a b : Int) : Bool := allB (fun p => decide (E (8 * a + p) = E (8 * b + p))) pl.toNat
def newE (E : Int → Int) (pl a : Int) : Bool := !(anyB (fun b => likeE E pl a b) a.toNat)
/-- what was printed: both know it -/
def WkE (P : Int → Int) (C G : Hp) : Prop :=
  (C 57 12 = sm (fun a => b2i (newE (G 220) (P 0) a)) (G 201 18).toNat ∧ 0 ≤ C 57 12 ∧ C 57 12 ≤ G 201 18) ∧
  (∀ a, 0 ≤ a → a < G 201 18 → WkF P (fun p => G 220 (8 * a + p)) ∧ ∃ i, 0 ≤ i ∧ i < C 57 12 ∧ PK (C 72 i) (fun p => G 220 (8 * a + p))) ∧
  (∀ i, 0 ≤ i → i < C 57 12 → ∃ a, 0 ≤ a ∧ a < G 201 18 ∧ PK (C 72 i) (fun p => G 220 (8 * a + p))) ∧
  ((G 201 18 = 0 ∧ ∀ p, 0 ≤ p → p < P 0 → G 208 p = 10) ∨ (G 201 18 ≠ 0 ∧ ∃ g, PK (C 57 8) g ∧ ∀ p, 0 ≤ p → p < P 0 → G 208 p = g p))
theorem WkE.fr {P : Int → Int} {C G C' G' : Hp} (h : WkE P C G) (h1 : C' 57 12 = C 57 12) (h2 : C' 57 8 = C 57 8) (h3 : ∀ j, C' 72 j = C 72 j) (g1 : G' 201 18 = G 201 18) (g2 : ∀ j, G' 220 j = G 220 j) (g3 : ∀ j, G' 208 j = G 208 j) : WkE P C' G' := by
  have e1 : C' 72 = C 72 := funext h3
  have e2 : G' 220 = G 220 := funext g2
  have e3 : G' 208 = G 208 := funext g3
  unfold WkE
  rw [h1, h2, e1, g1, e2, e3]
  exact h
theorem likeE_congr {E E' : Int → Int} {pl m : Int} (hpl : 0 ≤ pl ∧ pl ≤ 8) (h : ∀ j, j < 8 * m → E' j = E j) {a b : Int} (a1 : a < m) (b1 : b < m) : likeE E' pl a b = likeE E pl a b := by
  unfold likeE
  refine allB_congr fun p p0 p1 => ?_
  rw [h _ (by omega), h _ (by omega)]
theorem newE_congr {E E' : Int → Int} {pl m : Int} (hpl : 0 ≤ pl ∧ pl ≤ 8) (h : ∀ j, j < 8 * m → E' j = E j) {a : Int} (a0 : 0 ≤ a) (a1 : a < m) : newE E' pl a = newE E pl a := by
  unfold newE
  congr 1
  exact anyB_congr fun b b0 b1 => likeE_congr hpl h a1 (by omega)
/-- both systems in the same week -/
def WkJ (o b : Int) (P : Int → Int) (k : Int) (C G : Hp) : Prop := ∃ f N, WkC o P f N C ∧ WkM b P f N G ∧ WkF P f ∧ NW N ∧ WkR k C G ∧ WkE P C G
/-- what a deed leaves -/
def WkS (C G C' G' : Hp) : Prop := ((∀ a j, ¬ (57 ≤ a ∧ a ≤ 72) → C' a j = C a j) ∧ C' 57 9 = C 57 9 ∧ Mq G G') ∧ (∀ j, j = 21 ∨ j = 37 ∨ j = 46 → G' 201 j = G 201 j) ∧ C 57 5 ≤ C' 57 5 ∧ G' 201 22 = if C 57 5 < C' 57 5 ∧ G 201 22 = -1 then G 201 21 else G 201 22
theorem WkR.mono {k k' : Int} {C G : Hp} (h : WkR k C G) (hk : k ≤ k') : WkR k' C G := by
  obtain ⟨⟨w1, w2, w3⟩, ⟨w4, w5, w6⟩, ⟨w7, w8, w9⟩, ⟨w10, w11⟩, w12⟩ := h
  refine ⟨⟨w1, w2, by omega⟩, ⟨w4, w5, by omega⟩, ⟨w7, w8, by omega⟩, ⟨w10, w11⟩, fun r r0 r1 => ?_⟩
  have := w12 r r0 r1
  exact ⟨this.1, this.2.1, this.2.2.1, by omega⟩
theorem WkJ.mono {o b k k' : Int} {P : Int → Int} {C G : Hp} (h : WkJ o b P k C G) (hk : k ≤ k') : WkJ o b P k' C G := by
  obtain ⟨f, N, h1, h2, h3, h4, h5, h6⟩ := h
  exact ⟨f, N, h1, h2, h3, h4, h5.mono hk, h6⟩
theorem WkR.fr {k : Int} {C G C' G' : Hp} (h : WkR k C G) (h1 : ∀ j, j = 5 ∨ j = 6 ∨ j = 10 ∨ j = 11 → C' 57 j = C 57 j) (h2 : ∀ j, C' 70 j = C 70 j ∧ C' 71 j = C 71 j) (g1 : ∀ j, 17 ≤ j ∧ j ≤ 20 → G' 201 j = G 201 j) (g2 : ∀ j, G' 209 j = G 209 j ∧ G' 210 j = G 210 j) : WkR k C' G' := by
  unfold WkR
  rw [h1 5 (by omega), h1 6 (by omega), h1 10 (by omega), h1 11 (by omega), g1 17 (by omega), g1 18 (by omega), g1 19 (by omega), g1 20 (by omega)]
  obtain ⟨a1, a2, a3, a4, a5⟩ := h
  refine ⟨a1, a2, a3, a4, fun r r0 r1 => ?_⟩
  rw [(h2 r).1, (h2 r).2, (g2 r).1, (g2 r).2]
  exact a5 r r0 r1
theorem WkJ.fr {o b k : Int} {P : Int → Int} {C G C' G' : Hp} (ho : o = 7 ∨ o = 22) (h : WkJ o b P k C G) (hC : ∀ a j, ¬ (a = 57 ∧ j = 9) → C' a j = C a j) (hG : ∀ a j, ¬ (a = 201 ∧ (j = 21 ∨ j = 37 ∨ j = 46)) → G' a j = G a j) : WkJ o b P k C' G' := by
  obtain ⟨f, N, h1, h2, h3, h4, h5, h6⟩ := h
  exact ⟨f, N, h1.fr ho fun a j u v w => hC _ _ (by omega), h2.fr fun c j u => hG _ _ (by omega), h3, h4, h5.fr (fun j u => hC _ _ (by omega)) (fun j => ⟨hC _ _ (by omega), hC _ _ (by omega)⟩) (fun j u => hG _ _ (by omega)) (fun j => ⟨hG _ _ (by omega), hG _ _ (by omega)⟩), h6.fr (hC _ _ (by omega)) (hC _ _ (by omega)) (fun j => hC _ _ (by omega)) (hG _ _ (by omega)) (fun j => hG _ _ (by omega)) (fun j => hG _ _ (by omega))⟩
theorem glue {X Y : Option (Bool × Hp)} {C G : Hp} {r : Bool} {A B : Hp → Prop} {R : Hp → Hp → Prop} (hX : ok X (fun x => x.1 = r ∧ (x.1 = false → x.2 = C) ∧ (x.1 = true → A x.2))) (hY : ok Y (fun x => x.1 = r ∧ (x.1 = false → x.2 = G) ∧ (x.1 = true → B x.2))) (h : r = true → ∀ C' G', A C' → B G' → R C' G') :
    ∃ r C' G', X = some (r, C') ∧ Y = some (r, G') ∧ (r = false → C' = C ∧ G' = G) ∧ (r = true → R C' G') := by
  obtain ⟨⟨x1, x2⟩, ex, hx1, hx2, hx3⟩ := hX
  obtain ⟨⟨y1, y2⟩, ey, hy1, hy2, hy3⟩ := hY
  have e1 : x1 = r := hx1
  have e2 : y1 = r := hy1
  subst e1
  subst e2
  exact ⟨_, x2, y2, ex, ey, fun q => ⟨hx2 q, hy2 q⟩, fun q => h q _ _ (hx3 q) (hy3 q)⟩
section DEED
variable {o b k a w : Int} {P : Int → Int} {C G : Hp}
def DeedOk (o b k c a w : Int) (P : Int → Int) (C G : Hp) : Prop := ∃ r C' G', cSt_does c a w C = some (r, C') ∧ mm_does c a w G = some (r, G') ∧ (r = false → C' = C ∧ G' = G) ∧ (r = true → WkJ o b P (k + 1) C' G' ∧ WkS C G C' G')
theorem deed_set (hV : PaperV P) (ho : o = 7 ∨ o = 22) (hJ : WkJ o b P k C G) (k0 : 0 ≤ k) (k1 : k < 60) (a0 : 0 ≤ a) (a1 : a ≤ 7) (w0 : 0 ≤ w) (w1 : w ≤ 9) : DeedOk o b k 1 a w P C G := by
  obtain ⟨f, N, hc, hg, hf, hN, hR, hE⟩ := hJ
  have hR' := hR
  obtain ⟨-, -, ⟨w7, w8, w9⟩, ⟨w10, w11⟩, w12⟩ := hR'
  refine glue (A := fun C' => WkC o P (ud f a w) N C' ∧ C' 57 10 = C 57 10 + 1 ∧ C' 57 11 = ior (C 57 11) (ishl 1 a) ∧ ∀ b j, ¬ (b = 57 ∧ (j = 2 ∨ j = 10 ∨ j = 11)) → C' b j = C b j) (B := fun G' => WkM b P (ud f a w) N G' ∧ G' 201 19 = G 201 19 + 1 ∧ G' 201 20 = ior (G 201 20) (ishl 1 a) ∧ ∀ c j, c ≠ 207 → ¬ (c = 201 ∧ (j = 19 ∨ j = 20)) → G' c j = G c j) (cset_ok ho hc hV a0 a1 w0 w1 (by omega)) (mset_ok hV hg a0 a1 (by omega)) fun hr C' G' hA hB => ?_
  have hq := of_decide_eq_true hr
  obtain ⟨c1, c2, c3, c4⟩ := hA
  obtain ⟨g1, g2, g3, g4⟩ := hB
  have hF : WkF P (ud f a w) := by
    refine ⟨fun p p0 p1 => ?_, fun p p0 p1 => ?_⟩
    · unfold ud
      by_cases e : p = a
      · rw [if_pos e]; omega
      · rw [if_neg e]; exact hf.1 p p0 p1
    · unfold ud
      rw [if_neg (by omega)]
      exact hf.2 p p0 p1
  refine ⟨⟨_, N, c1, g1, hF, hN, ?_, hE.fr (c4 _ _ (by omega)) (c4 _ _ (by omega)) (fun j => c4 _ _ (by omega)) (g4 _ _ (by omega) (by omega)) (fun j => g4 _ _ (by omega) (by omega)) (fun j => g4 _ _ (by omega) (by omega))⟩, ⟨fun x j q => c4 _ _ (by omega), c4 _ _ (by omega), Mq.fr fun j => ⟨g4 _ _ (by omega) (by omega), g4 _ _ (by omega) (by omega)⟩⟩, fun j q => g4 _ _ (by omega) (by omega), ?_, ?_⟩
  · have hR2 := hR.mono (show k ≤ k + 1 by omega)
    obtain ⟨z1, z2, z3, z4, z5⟩ := hR2
    refine ⟨?_, ?_, ⟨by rw [c2, g2]; omega, by rw [g2]; omega, by rw [g2]; omega⟩, ⟨by rw [c3, g3, w10], by rw [g3]; exact w11.or (Mk.shl a0 (show a < 8 by omega) (by omega)) (by omega)⟩, fun r r0 r1 => ?_⟩
    · rw [c4 _ _ (by omega), g4 _ _ (by omega) (by omega)]; exact z1
    · rw [c4 _ _ (by omega), g4 _ _ (by omega) (by omega)]; exact z2
    · rw [c4 _ _ (by omega), c4 _ _ (by omega), g4 _ _ (by omega) (by omega), g4 _ _ (by omega) (by omega)]; exact z5 r r0 r1
  · rw [c4 _ _ (by omega)]; omega
  · rw [c4 57 5 (by omega), if_neg (by omega), g4 _ _ (by omega) (by omega)]
theorem deed_stet (hV : PaperV P) (ho : o = 7 ∨ o = 22) (hJ : WkJ o b P k C G) (k0 : 0 ≤ k) (k1 : k < 60) (a0 : 0 ≤ a) (a1 : a ≤ 5) (w0 : 0 ≤ w) (w1 : w ≤ 7) : DeedOk o b k 2 a w P C G := by
  obtain ⟨f, N, hc, hg, hf, hN, hR, hE⟩ := hJ
  have hR' := hR
  obtain ⟨-, -, -, -, w12⟩ := hR'
  have ha := w12 a a0 (by omega)
  have hb := bit01 ha.1.2 w0 (show w < 8 by omega)
  have e : decide (a < P 1 ∧ w < P 0 ∧ ¬ iand (ishr (G 209 a) w) 1 = 1) = decide (a < P 1 ∧ w < P 0 ∧ ¬ iand (ishr (C 70 a) w) 1 ≠ 0) := by
    rw [ha.1.1]
    exact decide_eq_decide.mpr ⟨fun h => ⟨h.1, h.2.1, hb.mpr h.2.2⟩, fun h => ⟨h.1, h.2.1, hb.mp h.2.2⟩⟩
  have hm := mstet_ok hV hg a0 a1 w0
  rw [e] at hm
  refine glue (A := fun C' => C' = upd2 C 70 a (ior (C 70 a) (ishl 1 w))) (B := fun G' => G' = upd2 G 209 a (ior (G 209 a) (ishl 1 w))) (cstet_ok ho hc hV a0 a1 w0) hm fun hr C' G' hA hB => ?_
  have hq := of_decide_eq_true hr
  have hA' : C' = upd2 C 70 a (ior (C 70 a) (ishl 1 w)) := hA
  have hB' : G' = upd2 G 209 a (ior (G 209 a) (ishl 1 w)) := hB
  subst hA'
  subst hB'
  have zc : ∀ x j, ¬ (x = 70 ∧ j = a) → upd2 C 70 a (ior (C 70 a) (ishl 1 w)) x j = C x j := fun x j q => upd2_o q
  have zg : ∀ x j, ¬ (x = 209 ∧ j = a) → upd2 G 209 a (ior (G 209 a) (ishl 1 w)) x j = G x j := fun x j q => upd2_o q
  refine ⟨⟨f, N, hc.fr ho fun x j u v y => zc _ _ (by omega), hg.fr fun c j u => zg _ _ (by omega), hf, hN, ?_, hE.fr (zc _ _ (by omega)) (zc _ _ (by omega)) (fun j => zc _ _ (by omega)) (zg _ _ (by omega)) (fun j => zg _ _ (by omega)) (fun j => zg _ _ (by omega))⟩, ⟨fun x j q => zc _ _ (by omega), zc _ _ (by omega), Mq.fr fun j => ⟨zg _ _ (by omega), zg _ _ (by omega)⟩⟩, fun j q => zg _ _ (by omega), ?_, ?_⟩
  · have hR2 := hR.mono (show k ≤ k + 1 by omega)
    obtain ⟨z1, z2, z3, z4, z5⟩ := hR2
    refine ⟨?_, ?_, ?_, ?_, fun r r0 r1 => ⟨?_, ?_⟩⟩
    · rw [zc _ _ (by omega), zg _ _ (by omega)]; exact z1
    · rw [zc _ _ (by omega), zg _ _ (by omega)]; exact z2
    · rw [zc _ _ (by omega), zg _ _ (by omega)]; exact z3
    · rw [zc _ _ (by omega), zg _ _ (by omega)]; exact z4
    · by_cases er : r = a
      · rw [er, upd2_s, upd2_s, ha.1.1]
        exact ⟨rfl, ha.1.2.or (Mk.shl w0 (show w < 8 by omega) (by omega)) (by omega)⟩
      · rw [zc _ _ (by omega), zg _ _ (by omega)]
        exact (z5 r r0 r1).1
    · rw [zc _ _ (by omega), zg _ _ (by omega)]
      exact (z5 r r0 r1).2
  · rw [zc _ _ (by omega)]; omega
  · rw [zc 57 5 (by omega), if_neg (by omega), zg _ _ (by omega)]
theorem deed_near (ho : o = 7 ∨ o = 22) (hJ : WkJ o b P k C G) (k0 : 0 ≤ k) (k1 : k < 60) {c : Int} (hc34 : c = 3 ∨ c = 4) (a0 : 0 ≤ a) (a1 : a ≤ 9) (w0 : 0 ≤ w) (w1 : w ≤ 9) (aw : a ≠ w) : DeedOk o b k c a w P C G := by
  obtain ⟨f, N, hc, hg, hf, hN, hR, hE⟩ := hJ
  have fin : ∀ {C' G' : Hp} {N' : Int → Int}, NW N' → (WkC o P f N' C' ∧ ∀ c j, ¬ (66 ≤ c ∧ c ≤ 69) → C' c j = C c j) → (WkM b P f N' G' ∧ ∀ c j, c ≠ 205 → c ≠ 206 → G' c j = G c j) → WkJ o b P (k + 1) C' G' ∧ WkS C G C' G' := by
    intro C' G' N' hN' hA hB
    obtain ⟨c1, zc⟩ := hA
    obtain ⟨g1, zg⟩ := hB
    refine ⟨⟨f, N', c1, g1, hf, hN', (hR.mono (show k ≤ k + 1 by omega)).fr (fun j u => zc _ _ (by omega)) (fun j => ⟨zc _ _ (by omega), zc _ _ (by omega)⟩) (fun j u => zg _ _ (by omega) (by omega)) (fun j => ⟨zg _ _ (by omega) (by omega), zg _ _ (by omega) (by omega)⟩), hE.fr (zc _ _ (by omega)) (zc _ _ (by omega)) (fun j => zc _ _ (by omega)) (zg _ _ (by omega) (by omega)) (fun j => zg _ _ (by omega) (by omega)) (fun j => zg _ _ (by omega) (by omega))⟩, ⟨fun x j q => zc _ _ (by omega), zc _ _ (by omega), Mq.fr fun j => ⟨zg _ _ (by omega) (by omega), zg _ _ (by omega) (by omega)⟩⟩, fun j q => zg _ _ (by omega) (by omega), ?_, ?_⟩
    · rw [zc _ _ (by omega)]; omega
    · rw [zc 57 5 (by omega), if_neg (by omega), zg _ _ (by omega) (by omega)]
  have hm := mnear_ok hg hc34 a0 a1 w0 w1 aw
  rcases hc34 with rfl | rfl
  · rw [if_pos rfl, if_pos rfl] at hm
    exact glue (cjoins_ok ho hc hN a0 a1 w0 w1 aw) hm fun _ C' G' hA hB => fin (jon_NW hN a0 (by omega) w0 (by omega) aw) hA hB
  · rw [if_neg (by omega), if_neg (by omega)] at hm
    exact glue (cparts_ok ho hc hN a0 a1 w0 w1 aw) hm fun _ C' G' hA hB => fin (prt_NW hN a0 (by omega) w0 (by omega) aw) hA hB
theorem deed_read (hV : PaperV P) (ho : o = 7 ∨ o = 22) (hJ : WkJ o b P k C G) (k0 : 0 ≤ k) (k1 : k < 60) (a0 : 0 ≤ a) : DeedOk o b k 0 a w P C G := by
  obtain ⟨f, N, hc, hg, hf, hN, hR, hE⟩ := hJ
  have hR' := hR
  obtain ⟨⟨w1, w2, w3⟩, ⟨w4, w5, w6⟩, ⟨w7, w8, w9⟩, ⟨w10, w11⟩, w12⟩ := hR'
  by_cases a1 : a < P 1
  · obtain ⟨g, n, hgF, hn, hX, hY⟩ := wread_ok hV ho hc hg hf hR k0 (by omega) a0 a1
    have h1 := hV.2.1
    have hX' := cread_yes (w := w) ho hc a0 a1 hX
    have hY' := mread_yes (w := w) hV hg a0 a1 hY
    obtain ⟨⟨x1, C'⟩, ex, e1, hx⟩ := hX'
    obtain ⟨⟨y1, G2⟩, ey, e2, n', G', hy, ey2⟩ := hY'
    have e1' : x1 = true := e1
    have e2' : y1 = true := e2
    subst e1'
    subst e2'
    obtain ⟨c1, ⟨c2, c3, c4, c5, c6, c7⟩, c8, c9, c10⟩ := hx
    obtain ⟨n1, g1, ⟨g2, g3⟩, g4, g5⟩ := hy
    have n1' : n' = n := n1
    subst n1'
    have hb := bm_Mk (df g f) 8 (by omega)
    have c1' : WkC o P g N C' := c1
    have c2' : C' 57 5 = C 57 5 + n' := c2
    have c3' : C' 57 6 = C 57 6 := c3
    have c4' : C' 57 10 = C 57 10 := c4
    have c8' : C' 57 11 = ior (C 57 11) (bm (df g f) 8) := c8
    have g2' : G' 201 17 = G 201 17 + n' := g2
    have g3' : G' 201 20 = ior (G 201 20) (bm (df g f) 8) := g3
    have g4' : ∀ i, G' 210 i = if i = a then G 210 a + n' else G 210 i := g4
    have g5' : ∀ x j, x ≠ 207 → x ≠ 210 → x ≠ 211 → ¬ (x = 201 ∧ (j = 17 ∨ j = 20)) → G' x j = G x j := g5
    have e22 : G' 201 22 = G 201 22 := g5' _ _ (by omega) (by omega) (by omega) (by omega)
    have e21 : G' 201 21 = G 201 21 := g5' _ _ (by omega) (by omega) (by omega) (by omega)
    have ey2' : G2 = if 0 < n' ∧ G' 201 22 = -1 then upd2 G' 201 22 (G' 201 21) else G' := ey2
    have z2 : ∀ x j, ¬ (x = 201 ∧ j = 22) → G2 x j = G' x j := fun x j q => by
      rw [ey2']
      by_cases h : 0 < n' ∧ G' 201 22 = -1
      · rw [if_pos h]; exact upd2_o q
      · rw [if_neg h]
    have z22 : G2 201 22 = if C 57 5 < C' 57 5 ∧ G 201 22 = -1 then G 201 21 else G 201 22 := by
      rw [ey2', c2']
      by_cases h : 0 < n' ∧ G' 201 22 = -1
      · rw [if_pos h, upd2_s, if_pos ⟨by omega, by omega⟩, e21]
      · rw [if_neg h, if_neg (by omega), e22]
    refine ⟨true, C', G2, ex, ey, fun h => Bool.noConfusion h, fun _ => ⟨⟨g, N, c1', WkM.fr (show WkM b P g N G' from g1) fun c j u => z2 _ _ (by omega), hgF, hN, ?_, ?_⟩, ⟨fun x j q => c10 _ _ (by omega), c6, Mq.fr fun j => ⟨?_, ?_⟩⟩, fun j q => ?_, by omega, z22⟩⟩
    · refine ⟨?_, ?_, ?_, ?_, fun r r0 r1 => ⟨?_, ?_⟩⟩
      · rw [z2 _ _ (by omega), c2', g2']; omega
      · rw [z2 _ _ (by omega), c3', g5' _ _ (by omega) (by omega) (by omega) (by omega)]; omega
      · rw [z2 _ _ (by omega), c4', g5' _ _ (by omega) (by omega) (by omega) (by omega)]; omega
      · rw [z2 _ _ (by omega), c8', g3', w10]
        exact ⟨rfl, w11.or hb (by omega)⟩
      · rw [z2 _ _ (by omega), g5' _ _ (by omega) (by omega) (by omega) (by omega)]
        have := (c9 r).1
        rw [show C' 70 r = C 70 r from this]
        exact (w12 r r0 r1).1
      · rw [z2 _ _ (by omega), g4' r, show C' 71 r = _ from (c9 r).2]
        have hr := w12 r r0 r1
        have hra := w12 a a0 (by omega)
        by_cases er : r = a
        · rw [if_pos er, if_pos er]; omega
        · rw [if_neg er, if_neg er]; omega
    · refine hE.fr c7 c5 (fun j => c10 _ _ (by omega)) ?_ (fun j => ?_) (fun j => ?_)
      · rw [z2 _ _ (by omega)]; exact g5' _ _ (by omega) (by omega) (by omega) (by omega)
      · rw [z2 _ _ (by omega)]; exact g5' _ _ (by omega) (by omega) (by omega) (by omega)
      · rw [z2 _ _ (by omega)]; exact g5' _ _ (by omega) (by omega) (by omega) (by omega)
    · rw [z2 _ _ (by omega)]; exact g5' _ _ (by omega) (by omega) (by omega) (by omega)
    · rw [z2 _ _ (by omega)]; exact g5' _ _ (by omega) (by omega) (by omega) (by omega)
    · rw [z2 _ _ (by omega)]; exact g5' _ _ (by omega) (by omega) (by omega) (by omega)
  · have h := read_no (w := w) hV ho hc hg a0 a1
    exact ⟨false, C, G, h.1, h.2, fun _ => ⟨rfl, rfl⟩, fun h => Bool.noConfusion h⟩
theorem deed_print (hV : PaperV P) (ho : o = 7 ∨ o = 22) (hJ : WkJ o b P k C G) (k0 : 0 ≤ k) (k1 : k < 60) (ha : a < 0) : DeedOk o b k 5 a w P C G := by
  have hp0 := hV.1
  obtain ⟨f, N, hc, hg, hf, hN, hR, hE⟩ := hJ
  have hR' := hR
  obtain ⟨⟨w1, w2, w3⟩, ⟨w4, w5, w6⟩, ⟨w7, w8, w9⟩, ⟨w10, w11⟩, w12⟩ := hR'
  obtain ⟨⟨E1, E2, E3⟩, E4, E5, E6⟩ := hE
  have hX := cprint_ok (C := C) (a := a) (w := w) ha (by omega) (by omega)
  have hY := mprint_ok (a := a) (w := w) hV hg (by omega)
  obtain ⟨⟨x1, C'⟩, ex, e1, hx⟩ := hX
  obtain ⟨⟨y1, G'⟩, ey, e2, hy⟩ := hY
  have e1' : x1 = true := e1
  have e2' : y1 = true := e2
  subst e1'
  subst e2'
  obtain ⟨c6, c8, c12, c72, c72n, zc⟩ : C' 57 6 = C 57 6 + 1 ∧ C' 57 8 = C 57 2 ∧ (C' 57 12 = if anyB (fun i => decide (C 72 i = C 57 2)) (C 57 12).toNat = true then C 57 12 else C 57 12 + 1) ∧ (∀ j, ¬ (j = C 57 12) → C' 72 j = C 72 j) ∧ (¬ anyB (fun i => decide (C 72 i = C 57 2)) (C 57 12).toNat = true → C' 72 (C 57 12) = C 57 2) ∧ ∀ b j, ¬ (b = 57 ∧ (j = 6 ∨ j = 8 ∨ j = 12)) → b ≠ 72 → C' b j = C b j := hx
  obtain ⟨g1, g18, gE, gEo, g208, zg⟩ : WkM b P f N G' ∧ G' 201 18 = G 201 18 + 1 ∧ (∀ p, 0 ≤ p → p < 8 → G' 220 (8 * G 201 18 + p) = f p) ∧ (∀ j, ¬ (8 * G 201 18 ≤ j ∧ j < 8 * G 201 18 + 8) → G' 220 j = G 220 j) ∧ (∀ p, 0 ≤ p → p < P 0 → G' 208 p = f p) ∧ ∀ c j, c ≠ 220 → c ≠ 208 → ¬ (c = 201 ∧ j = 18) → G' c j = G c j := hy
  have hq : PK (C 57 2) f := hc.1.2.1
  have rowo : ∀ x, x < G 201 18 → ∀ p, p < 8 → G' 220 (8 * x + p) = G 220 (8 * x + p) := fun x x1 p p1 => gEo _ (by omega)
  have hlike : ∀ x, 0 ≤ x → x < G 201 18 → (likeE (G' 220) (P 0) (G 201 18) x = true ↔ ∀ p, 0 ≤ p → p < 8 → G 220 (8 * x + p) = f p) := by
    intro x x0 x1
    unfold likeE
    rw [allB_iff]
    constructor
    · intro h p p0 p1
      by_cases hp : p < P 0
      · have h2 := of_decide_eq_true (h p p0 (by omega))
        rw [gE p p0 p1, rowo x x1 p p1] at h2
        exact h2.symm
      · rw [hf.2 p (by omega) p1]
        exact (E4 x x0 x1).1.2 p (by omega) p1
    · intro h p p0 p1
      refine decide_eq_true ?_
      rw [gE p p0 (by omega), rowo x x1 p (by omega), h p p0 (by omega)]
  have hany : anyB (fun i => decide (C 72 i = C 57 2)) (C 57 12).toNat = anyB (fun x => likeE (G' 220) (P 0) (G 201 18) x) (G 201 18).toNat := by
    rw [Bool.eq_iff_iff, anyB_iff, anyB_iff]
    constructor
    · rintro ⟨i, i0, i1, i2⟩
      obtain ⟨x, x0, x1, x2⟩ := E5 i i0 (by omega)
      refine ⟨x, x0, by omega, (hlike x x0 x1).mpr ?_⟩
      have e := of_decide_eq_true i2
      exact (PK_inj x2 hq).mp e
    · rintro ⟨x, x0, x1, x2⟩
      obtain ⟨-, i, i0, i1, i2⟩ := E4 x x0 (by omega)
      exact ⟨i, i0, by omega, decide_eq_true ((PK_inj i2 hq).mpr ((hlike x x0 (by omega)).mp x2))⟩
  have hsum : sm (fun x => b2i (newE (G' 220) (P 0) x)) (G 201 18 + 1).toNat = C 57 12 + b2i (newE (G' 220) (P 0) (G 201 18)) := by
    rw [sm_s _ (by omega), E1]
    congr 1
    refine sm_congr fun x x0 x1 => ?_
    rw [newE_congr (m := G 201 18) hp0 (fun j hj => gEo j (by omega)) x0 (by omega)]
  have hpk : ∀ x, 0 ≤ x → x < G 201 18 → ∀ {q : Int}, PK q (fun p => G 220 (8 * x + p)) → PK q (fun p => G' 220 (8 * x + p)) := fun x x0 x1 q h => PK_congr h fun p p0 p1 => (rowo x x1 p p1).symm
  have hpm : PK (C 57 2) (fun p => G' 220 (8 * G 201 18 + p)) := PK_congr hq fun p p0 p1 => (gE p p0 p1).symm
  have hwf : ∀ x, 0 ≤ x → x < G 201 18 + 1 → WkF P (fun p => G' 220 (8 * x + p)) := by
    intro x x0 x1
    by_cases e : x = G 201 18
    · rw [e]
      refine ⟨fun p p0 p1 => ?_, fun p p0 p1 => ?_⟩
      · show 0 ≤ G' 220 (8 * G 201 18 + p) ∧ G' 220 (8 * G 201 18 + p) < 10
        rw [gE p p0 p1]; exact hf.1 p p0 p1
      · show G' 220 (8 * G 201 18 + p) = 0
        rw [gE p (by omega) p1]; exact hf.2 p p0 p1
    · have h := (E4 x x0 (by omega)).1
      refine ⟨fun p p0 p1 => ?_, fun p p0 p1 => ?_⟩
      · show 0 ≤ G' 220 (8 * x + p) ∧ G' 220 (8 * x + p) < 10
        rw [rowo x (by omega) p p1]; exact h.1 p p0 p1
      · show G' 220 (8 * x + p) = 0
        rw [rowo x (by omega) p p1]; exact h.2 p p0 p1
  have hE' : WkE P C' G' := by
    unfold WkE
    rw [g18]
    refine ⟨?_, ?_, ?_, Or.inr ⟨by omega, f, by rw [c8]; exact hq, g208⟩⟩
    · rw [hsum, c12, hany]
      unfold newE
      cases anyB (fun x => likeE (G' 220) (P 0) (G 201 18) x) (G 201 18).toNat with
      | true => exact ⟨by rw [if_pos rfl]; show _ = C 57 12 + 0; omega, by rw [if_pos rfl]; omega, by rw [if_pos rfl]; omega⟩
      | false => exact ⟨by rw [if_neg (by decide)]; rfl, by rw [if_neg (by decide)]; omega, by rw [if_neg (by decide)]; omega⟩
    · intro x x0 x1
      refine ⟨hwf x x0 x1, ?_⟩
      by_cases e : x = G 201 18
      · rw [e]
        by_cases hn : anyB (fun i => decide (C 72 i = C 57 2)) (C 57 12).toNat = true
        · obtain ⟨i, i0, i1, i2⟩ := anyB_iff.mp hn
          refine ⟨i, i0, by rw [c12, if_pos hn]; omega, ?_⟩
          rw [c72 i (by omega), of_decide_eq_true i2]
          exact hpm
        · refine ⟨C 57 12, E2, by rw [c12, if_neg hn]; omega, ?_⟩
          rw [c72n hn]
          exact hpm
      · obtain ⟨-, i, i0, i1, i2⟩ := E4 x x0 (by omega)
        refine ⟨i, i0, ?_, ?_⟩
        · rw [c12]
          split <;> omega
        · rw [c72 i (by omega)]
          exact hpk x x0 (by omega) i2
    · intro i i0 i1
      by_cases e : i < C 57 12
      · obtain ⟨x, x0, x1, x2⟩ := E5 i i0 e
        refine ⟨x, x0, by omega, ?_⟩
        rw [c72 i (by omega)]
        exact hpk x x0 x1 x2
      · by_cases hn : anyB (fun i => decide (C 72 i = C 57 2)) (C 57 12).toNat = true
        · rw [c12, if_pos hn] at i1
          omega
        · rw [c12, if_neg hn] at i1
          have ei : i = C 57 12 := by omega
          refine ⟨G 201 18, by omega, by omega, ?_⟩
          rw [ei, c72n hn]
          exact hpm
  refine ⟨true, C', G', ex, ey, fun h => Bool.noConfusion h, fun _ => ⟨⟨f, N, hc.fr ho fun x j u v y => zc _ _ (by omega) (by omega), g1, hf, hN, ?_, hE'⟩, ⟨fun x j q => zc _ _ (by omega) (by omega), zc _ _ (by omega) (by omega), Mq.fr fun j => ⟨zg _ _ (by omega) (by omega) (by omega), zg _ _ (by omega) (by omega) (by omega)⟩⟩, fun j q => zg _ _ (by omega) (by omega) (by omega), ?_, ?_⟩⟩
  · have hR2 := hR.mono (show k ≤ k + 1 by omega)
    obtain ⟨z1, z2, z3, z4, z5⟩ := hR2
    refine ⟨?_, ?_, ?_, ?_, fun r r0 r1 => ?_⟩
    · rw [zc _ _ (by omega) (by omega), zg _ _ (by omega) (by omega) (by omega)]; exact z1
    · rw [c6, g18]; omega
    · rw [zc _ _ (by omega) (by omega), zg _ _ (by omega) (by omega) (by omega)]; exact z3
    · rw [zc _ _ (by omega) (by omega), zg _ _ (by omega) (by omega) (by omega)]; exact z4
    · rw [zc _ _ (by omega) (by omega), zc _ _ (by omega) (by omega), zg _ _ (by omega) (by omega) (by omega), zg _ _ (by omega) (by omega) (by omega)]; exact z5 r r0 r1
  · rw [zc _ _ (by omega) (by omega)]; omega
  · rw [zc 57 5 (by omega) (by omega), if_neg (by omega), zg _ _ (by omega) (by omega) (by omega)]
theorem deed_ok {c : Int} (hV : PaperV P) (ho : o = 7 ∨ o = 22) (hJ : WkJ o b P k C G) (k0 : 0 ≤ k) (k1 : k < 60) (hD : DeedV c a w) : DeedOk o b k c a w P C G := by
  rcases hD with ⟨rfl, h1, h2, h3⟩ | ⟨rfl, h1, h2, h3, h4⟩ | ⟨rfl, h1, h2, h3, h4⟩ | ⟨hc, h1, h2, h3, h4, h5⟩ | ⟨rfl, h1, h2⟩
  · exact deed_read hV ho hJ k0 k1 h1
  · exact deed_set hV ho hJ k0 k1 h1 h2 h3 h4
  · exact deed_stet hV ho hJ k0 k1 h1 h2 h3 h4
  · exact deed_near ho hJ k0 k1 hc h1 h2 h3 h4 h5
  · exact deed_print hV ho hJ k0 k1 (by omega)
end DEED
