-- texts: both take one
theorem dat_start {s : Int} {C G : Hp} (c40 : C 40 0 = 0 ∧ C 40 1 = 0 ∧ C 40 2 = 0) (c42 : ∀ w, 0 ≤ w → w < 10 → C 42 w = 0) (c41 : C 41 3 = 0) (c47 : ∀ k, 0 ≤ k → k < 48 → C 47 k = 10) (c48 : C 48 0 = 0) (c52 : C 52 0 = 0) (c12 : C 39 12 = -1) (c13 : C 39 13 = -1) (g4 : ∀ k, 0 ≤ k → k < 121 → G 204 k = if s = 0 ∧ 32 ≤ k ∧ k ≤ 79 then 10 else 0) (g9 : G 201 9 = -1) (g10 : G 201 10 = -1) : DatS s C G ∧ CntC C ∧ CMS s G := by
  have g0 : ∀ k, 0 ≤ k → k < 32 → G 204 k = 0 := fun k k0 k1 => by rw [g4 k k0 (by omega), if_neg (by omega)]
  have gz : s ≠ 0 → ∀ k, 0 ≤ k → k < 121 → G 204 k = 0 := fun hs k k0 k1 => by rw [g4 k k0 k1, if_neg (fun z => hs z.1)]
  refine ⟨⟨fun hs => ?_, fun hs => ?_, fun hs => ?_⟩, ⟨⟨by omega, by omega⟩, by omega, by omega⟩, fun hs => ⟨by rw [g0 0 (by omega) (by omega)]; omega, by rw [g0 1 (by omega) (by omega)]; omega⟩, fun hs => by unfold CMo; rw [g0 0 (by omega) (by omega)]; omega⟩
  · have p0 : ∀ k, 0 ≤ k → k < 32 → ct 80 (G 204) 0 k = 0 := fun k k0 k1 => by rw [cz k0 (by omega), g0 k k0 k1]
    have p1 : ∀ k, 32 ≤ k → k < 80 → ct 80 (G 204) 0 k = 10 := fun k k0 k1 => by rw [cz (by omega) k1, g4 k (by omega) (by omega), if_pos ⟨hs, k0, by omega⟩]
    unfold Dat0
    generalize ct 80 (G 204) 0 = P at *
    refine ⟨⟨⟨by rw [p0 0 (by omega) (by omega)]; omega, by rw [p0 1 (by omega) (by omega)]; omega, ⟨fun p x0 x1 => ?_, fun p x0 x1 => ?_⟩, NW_congr (fun w w0 w1 => (p0 (10 + w) (by omega) (by omega)).symm) NW_z, fun r r0 r1 => ?_, fun r p r0 r1 x0 x1 => ?_⟩, ⟨⟨by rw [c40.2.1, p0 0 (by omega) (by omega)], by rw [c40.2.2, p0 1 (by omega) (by omega)]⟩, ?_, ⟨?_, ?_, fun t _ _ ht => ?_⟩, fun w w0 w1 => ?_, fun r r0 r1 => ?_, fun r p r0 r1 x0 x1 => ?_⟩⟩, ⟨by rw [c12, g9], by omega, by omega⟩, ⟨by rw [c13, g10], by omega, by omega⟩⟩
    · show 0 ≤ P (2 + p) ∧ P (2 + p) < 10
      rw [p0 _ (by omega) (by omega)]; omega
    · exact p0 _ (by rw [p0 0 (by omega) (by omega)] at x0; omega) (by omega)
    · rw [p0 _ (by omega) (by omega), p0 _ (by omega) (by omega)]; omega
    · rw [p1 _ (by omega) (by omega)]; omega
    · rw [c40.1]
      exact PK_congr PK_z fun p x0 x1 => (p0 (2 + p) (by omega) (by omega)).symm
    · exact NW_congr (fun w w0 w1 => (c42 w w0 w1).symm) NW_z
    · rw [show (40 : Int) + 1 = 41 from rfl, c41]
      exact Mk.zero 10
    · rw [show (40 : Int) + 1 = 41 from rfl, c41, bt_zero] at ht
      cases ht
    · rw [show (40 : Int) + 2 = 42 from rfl, c42 w w0 w1, p0 _ (by omega) (by omega)]
    · rw [p0 1 (by omega) (by omega)] at r1
      omega
    · rw [show (40 : Int) + 7 = 47 from rfl, c47 _ (by omega) (by omega), p1 _ (by omega) (by omega)]
  · have p0 : ct 121 (G 204) 0 0 = 0 := by rw [cz (by omega) (by omega), g0 0 (by omega) (by omega)]
    exact ⟨⟨⟨by rw [p0]; omega, fun k k0 k1 => by rw [p0] at k1; omega⟩, by rw [p0, c48], fun k k0 k1 => by rw [p0] at k1; omega⟩, c12, c13⟩
  · have p0 : ct 17 (G 204) 0 0 = 0 := by rw [cz (by omega) (by omega), g0 0 (by omega) (by omega)]
    exact ⟨⟨⟨by rw [p0]; omega, fun k k0 k1 => by rw [p0] at k1; omega⟩, by rw [p0, c52], fun k k0 k1 => by rw [p0] at k1; omega⟩, c12, c13⟩
theorem DatS.fr {s : Int} {C G C' G' : Hp} (h : DatS s C G) (hC : FrC C C') (hG : FrM G G') : DatS s C' G' := ⟨fun z => (h.1 z).fr hC hG, fun z => (h.2.1 z).fr hC hG, fun z => (h.2.2 z).fr hC hG⟩
theorem DatS.c {s : Int} {C G C' : Hp} (h : DatS s C G) (hC : ∀ a j, 39 ≤ a → a ≤ 56 → C' a j = C a j) : DatS s C' G := by
  have e12 : C' 39 12 = C 39 12 := hC _ _ (by omega) (by omega)
  have e13 : C' 39 13 = C 39 13 := hC _ _ (by omega) (by omega)
  refine ⟨fun z => ?_, fun z => ?_, fun z => ?_⟩
  · obtain ⟨⟨h1, h2⟩, h3, h4⟩ := h.1 z
    unfold Dat0
    rw [e12, e13]
    exact ⟨⟨h1, h2.fr fun a j u v => hC _ _ (by omega) (by omega)⟩, h3, h4⟩
  · obtain ⟨⟨h1, h2⟩, h3, h4⟩ := h.2.1 z
    unfold Dat1 Far0
    rw [e12, e13]
    exact ⟨⟨h1, h2.fr fun a j u v => hC _ _ (by omega) (by omega)⟩, h3, h4⟩
  · obtain ⟨⟨h1, h2⟩, h3, h4⟩ := h.2.2 z
    unfold Dat2 Far0
    rw [e12, e13]
    exact ⟨⟨h1, h2.fr fun a j u v => hC _ _ (by omega) (by omega)⟩, h3, h4⟩
theorem tscan_ok {s n a2 : Int} {T : Int → Int} {C G : Hp} (s0 : 0 ≤ s) (s1 : s ≤ 2) (n0 : 0 ≤ n) (n1 : n ≤ 600) (hT : ∀ j, 0 ≤ j → j < n → C 2 j = w8 (T j) ∧ G 202 (10 + j) = T j ∧ 0 ≤ T j ∧ T j ≤ 255) (g2 : G 201 2 = n) (g5 : G 202 5 = 0) (g6 : G 202 6 = -1) :
    ∃ C' G', cSc_take n s C = some C' ∧ mm_text_j71 s a2 G = mm_text_j211 s a2 G' ∧ (C' 39 3 = G' 202 5 ∧ C' 39 4 = G' 202 6) ∧ (G' 202 5 = 0 → DatS s C' G') ∧ SFr C C' ∧ MFr G G' := by
  have em : max 0 (min n (min 600 600)) = n := by omega
  have e6 : upd2 C 39 6 n 39 6 = n := upd2_s
  have hX : cSc_take n s C = cpyG 0 0 ((upd2 C 39 6 (max 0 (min n (min 600 600)))) 39 6) 600 600 ((cPa_clear 40 (cpy2 (upd2 C 39 6 (max 0 (min n (min 600 600)))) 2 0 55 0 ((upd2 C 39 6 (max 0 (min n (min 600 600)))) 39 6))).bind fun G38 => (cSc_move (upd2 (upd2 (upd2 (upd2 (upd2 (upd2 (upd2 G38 48 0 0) 52 0 0) 39 3 0) 39 4 (-1)) 39 7 0) 39 12 (-1)) 39 13 (-1))).bind fun G83 => cSc_take_L89 n s (kC123 n s) FU 0 G83) := rfl
  rw [hX, em, e6, cpyG_ok (by omega) (by omega) (by omega) (by omega) (by omega)]
  generalize hS : cpy2 (upd2 C 39 6 n) 2 0 55 0 n = S
  have S55 : ∀ j, 0 ≤ j → j < n → S 55 j = C 2 j := fun j j0 j1 => by
    rw [← hS]
    unfold cpy2
    rw [if_pos ⟨rfl, j0, by omega⟩, upd2_o (by omega)]
    congr 1
    omega
  have Sf : ∀ a j, a ≠ 55 → ¬ (a = 39 ∧ j = 6) → S a j = C a j := fun a j u u2 => by rw [← hS, cpy2_ne u, upd2_o (by omega)]
  have S6 : S 39 6 = n := by rw [← hS, cpy2_ne (by omega), upd2_s]
  obtain ⟨Cc, ec, p1, p2, p3, p4, p5⟩ := pclear_ok (G := S)
  rw [ec, Option.bind_some]
  generalize hC1 : upd2 (upd2 (upd2 (upd2 (upd2 (upd2 (upd2 Cc 48 0 0) 52 0 0) 39 3 0) 39 4 (-1)) 39 7 0) 39 12 (-1)) 39 13 (-1) = C1
  have z : ∀ a j, ¬ (a = 48 ∧ j = 0) → ¬ (a = 52 ∧ j = 0) → ¬ (a = 39 ∧ (j = 3 ∨ j = 4 ∨ j = 7 ∨ j = 12 ∨ j = 13)) → C1 a j = Cc a j := fun a j u u2 u3 => by rw [← hC1, upd2_o (by omega), upd2_o (by omega), upd2_o (by omega), upd2_o (by omega), upd2_o (by omega), upd2_o (by omega), upd2_o (by omega)]
  have c48 : C1 48 0 = 0 := by rw [← hC1, upd2_o (by omega), upd2_o (by omega), upd2_o (by omega), upd2_o (by omega), upd2_o (by omega), upd2_o (by omega), upd2_s]
  have c52 : C1 52 0 = 0 := by rw [← hC1, upd2_o (by omega), upd2_o (by omega), upd2_o (by omega), upd2_o (by omega), upd2_o (by omega), upd2_s]
  have c3 : C1 39 3 = 0 := by rw [← hC1, upd2_o (by omega), upd2_o (by omega), upd2_o (by omega), upd2_o (by omega), upd2_s]
  have c4 : C1 39 4 = -1 := by rw [← hC1, upd2_o (by omega), upd2_o (by omega), upd2_o (by omega), upd2_s]
  have c7 : C1 39 7 = 0 := by rw [← hC1, upd2_o (by omega), upd2_o (by omega), upd2_s]
  have c12 : C1 39 12 = -1 := by rw [← hC1, upd2_o (by omega), upd2_s]
  have c13 : C1 39 13 = -1 := by rw [← hC1, upd2_s]
  have hY : mm_text_j71 s a2 G = (mm_beginsText s G).bind fun G73 => (mm_advance G73).bind fun G77 => mm_text_L80 s a2 (kM141 s a2) FU G77 := rfl
  obtain ⟨Gb, eb, ⟨b3, b8, b9, b10⟩, b204, bf⟩ := mbegt_ok (s := s) (G := G)
  rw [hY, eb, Option.bind_some]
  have tC : TpC n T C1 := ⟨⟨n0, n1⟩, fun j j0 j1 => ⟨by rw [z _ _ (by omega) (by omega) (by omega), p5 _ _ (by omega), S55 j j0 j1]; exact (hT j j0 j1).1, (hT j j0 j1).2.2⟩, by rw [z _ _ (by omega) (by omega) (by omega), p5 _ _ (by omega)]; exact S6⟩
  have tM : TpM n T Gb := ⟨⟨n0, n1⟩, fun j j0 j1 => ⟨by rw [bf _ _ (by omega) (by omega)]; exact (hT j j0 j1).2.1, (hT j j0 j1).2.2⟩, by rw [bf _ _ (by omega) (by omega)]; exact g2⟩
  obtain ⟨C2, G2, e1, e2, ⟨tC2, tM2⟩, hT2, hq2, fc2, fg2⟩ := move_J tC tM c7 b3 (by omega) n0
  rw [e1, Option.bind_some, e2, Option.bind_some]
  have FC2 : FrC C1 C2 := fun a j u u2 => fc2 _ _ (by omega)
  have FM2 : FrM Gb G2 := fun a j u u2 => fg2 _ _ (by omega)
  obtain ⟨d1, d2, d3⟩ := dat_start (s := s) (C := C1) (G := Gb) ⟨by rw [z _ _ (by omega) (by omega) (by omega)]; exact p1.1, by rw [z _ _ (by omega) (by omega) (by omega)]; exact p1.2.1, by rw [z _ _ (by omega) (by omega) (by omega)]; exact p1.2.2⟩ (fun w w0 w1 => by rw [z _ _ (by omega) (by omega) (by omega)]; exact p2 w w0 w1) (by rw [z _ _ (by omega) (by omega) (by omega)]; exact p3) (fun k k0 k1 => by rw [z _ _ (by omega) (by omega) (by omega)]; exact p4 k k0 k1) c48 c52 c12 c13 b204 b9 b10
  have hL2 : Live n T 0 (nx (wsT n T) 0) C2 G2 := by
    refine ⟨⟨tC2, tM2⟩, hT2, ⟨?_, ?_, ?_, ?_⟩, ⟨by omega, by omega⟩, fun h => absurd rfl h⟩
    · rw [fc2 _ _ (by omega)]; exact c3
    · rw [fg2 _ _ (by omega), bf _ _ (by omega) (by omega)]; exact g5
    · rw [fg2 _ _ (by omega)]; exact b8
    · rw [fc2 _ _ (by omega), c4, fg2 _ _ (by omega), bf _ _ (by omega) (by omega), g6]
  have e204 : ∀ j, G2 204 j = Gb 204 j := fun j => fg2 _ _ (by omega)
  have hcm2 : CMS s G2 := ⟨fun h => by have := d3.1 h; unfold CMp at this ⊢; rw [e204, e204]; exact this, fun h => by have := d3.2 h; unfold CMo at this ⊢; rw [e204]; exact this⟩
  have hS2 : StT n T s 0 C2 G2 := Or.inr ⟨0, _, hL2, hq2, d2.fr fun a j u v => fc2 _ _ (by omega), hcm2, fun _ => d1.fr FC2 FM2⟩
  obtain ⟨C3, G3, f1, f2, f3, f4, f5⟩ := tloop_ok (a := n) (a2 := a2) (kC := kC123 n s) (kM := kM141 s a2) s0 s1 n1 600 FU FU 0 C2 G2 (by show 600 < 100000; omega) (by show 600 < 100000; omega) (by omega) (by omega) hS2
  obtain ⟨C4, G4, h1, h2, h3, h4, h5, h6⟩ := tend_ok (a := n) (a2 := a2) s0 s1 f3
  have SC : SFr C C1 := fun a j u => by rw [z _ _ (by omega) (by omega) (by omega), p5 _ _ (by omega)]; exact Sf _ _ (by omega) (by omega)
  have MB : MFr G Gb := fun a j u => bf _ _ (by omega) (by omega)
  exact ⟨C4, G4, f1.trans h1, f2.trans h2, h3, h4, ((SC.trans FC2.s).trans f4).trans h5, ((MB.trans FM2.m).trans f5).trans h6⟩
theorem CInv.scan {G G' : Hp} {A H : Int → Int} (h : CInv G A H) (hf : SFr G G') : CInv G' A H := by
  obtain ⟨⟨h1, h2, h3, h4⟩, h5, h6⟩ := h
  refine ⟨⟨h1.fr fun a j u v => hf _ _ (by omega), fun z => (h2 z).fr fun a j u v => hf _ _ (by omega), fun z => (h3 z).fr fun a j u v => hf _ _ (by omega), fun z => (h4 z).fr fun a j u v => hf _ _ (by omega)⟩, fun k k0 k1 => ?_, h6.fr fun a j u v => hf _ _ (by omega)⟩
  rw [hf _ _ (by omega)]
  exact h5 k k0 k1
/-- a further text, or one in the place of another: all else stays -/
theorem text_inv {C C' : Hp} {A A' H : Int → Int} {s k pl sz d len : Int} (h : CInv C A H) (hk : k = 0 ∨ k = 1)
    (hs : (s = 0 ∧ pl = 610 + 80 * k ∧ sz = 80 ∧ d = 7 + 15 * k ∧ len = 7) ∨ (s = 1 ∧ pl = 770 + 121 * k ∧ sz = 121 ∧ d = 15 + 15 * k ∧ len = 3) ∨ (s = 2 ∧ pl = 1012 + 17 * k ∧ sz = 17 ∧ d = 19 + 15 * k ∧ len = 2))
    (hn : C' 3 s = A' s ∧ 0 ≤ A' s ∧ A' s ≤ 2) (hA : ∀ j, j ≠ s → ¬ (pl ≤ j ∧ j < pl + sz) → A' j = A j) (hC : ∀ a j, ¬ (a = 3 ∧ j = s) → ¬ (a = 80 ∧ j = 0) → ¬ (d ≤ a ∧ a ≤ d + len) → C' a j = C a j) (h80 : C' 80 0 = -1)
    (n0 : s = 0 → PaperV (ct 80 A' (pb k)) ∧ PaperC C' (7 + 15 * k) (ct 80 A' (pb k))) (n1 : s = 1 → WeekV (ct 121 A' (wkb k)) ∧ WeekC C' (15 + 15 * k) (ct 121 A' (wkb k))) (n2 : s = 2 → LogV (ct 17 A' (lgb k)) ∧ LogC C' (19 + 15 * k) (ct 17 A' (lgb k))) : CInv C' A' H := by
  have hp : ∀ x, x = 0 ∨ x = 1 → PaperV (ct 80 A' (pb x)) ∧ PaperC C' (7 + 15 * x) (ct 80 A' (pb x)) := fun x hx => by
    by_cases e : s = 0 ∧ x = k
    · rw [e.2]; exact n0 e.1
    · have h0 := h.paper hx
      have ee : ct 80 A' (pb x) = ct 80 A (pb x) := ct_eq fun j j0 j1 => hA _ (by unfold pb; omega) (by unfold pb; omega)
      rw [ee]
      exact ⟨h0.1, h0.2.fr fun a j u v => hC _ _ (by omega) (by omega) (by omega)⟩
  have hw : ∀ x, x = 0 ∨ x = 1 → WeekV (ct 121 A' (wkb x)) ∧ WeekC C' (15 + 15 * x) (ct 121 A' (wkb x)) := fun x hx => by
    by_cases e : s = 1 ∧ x = k
    · rw [e.2]; exact n1 e.1
    · have h0 := h.week hx
      have ee : ct 121 A' (wkb x) = ct 121 A (wkb x) := ct_eq fun j j0 j1 => hA _ (by unfold wkb; omega) (by unfold wkb; omega)
      rw [ee]
      exact ⟨h0.1, h0.2.fr fun a j u v => hC _ _ (by omega) (by omega) (by omega)⟩
  have hl : ∀ x, x = 0 ∨ x = 1 → LogV (ct 17 A' (lgb x)) ∧ LogC C' (19 + 15 * x) (ct 17 A' (lgb x)) := fun x hx => by
    by_cases e : s = 2 ∧ x = k
    · rw [e.2]; exact n2 e.1
    · have h0 := h.log hx
      have ee : ct 17 A' (lgb x) = ct 17 A (lgb x) := ct_eq fun j j0 j1 => hA _ (by unfold lgb; omega) (by unfold lgb; omega)
      rw [ee]
      exact ⟨h0.1, h0.2.fr fun a j u v => hC _ _ (by omega) (by omega) (by omega)⟩
  obtain ⟨t1, t2, t3, t4⟩ := h.tp
  refine CInv.of ⟨TapeC.mk ⟨fun j j0 j1 => ?_, ?_, ?_, fun q q0 q1 => ?_⟩, hp 0 (Or.inl rfl), hp 1 (Or.inr rfl), hw 0 (Or.inl rfl), hw 1 (Or.inr rfl), hl 0 (Or.inl rfl), hl 1 (Or.inr rfl)⟩ (fun q q0 q1 hq => ?_) (fun q q0 q1 => ?_) (Or.inl h80)
  · rw [hC _ _ (by omega) (by omega) (by omega), hA _ (by omega) (by omega)]
    exact t1 j j0 j1
  · rw [hC _ _ (by omega) (by omega) (by omega), hA _ (by omega) (by omega)]
    exact t2
  · rw [hC _ _ (by omega) (by omega) (by omega), hC _ _ (by omega) (by omega) (by omega), hA _ (by omega) (by omega), hA _ (by omega) (by omega)]
    exact t3
  · by_cases e : q = s
    · rw [e]; exact hn
    · rw [hC _ _ (by omega) (by omega) (by omega), hA _ (by omega) (by omega)]
      exact t4 q q0 q1
  · exact ToldC.congr ((h.told q0 q1 hq).fr fun a j u v => hC _ _ (by omega) (by omega) (by omega)) fun j j0 j1 => hA _ (by omega) (by omega)
  · rw [hC _ _ (by omega) (by omega) (by omega)]
    exact h.2.1 q q0 q1
/-- the model puts what it read beside the others -/
theorem tputs_ok {s a2 k pl sz : Int} {G : Hp} (hk : k = 0 ∨ k = 1) (hs : (s = 0 ∧ pl = 610 + 80 * k ∧ sz = 80) ∨ (s = 1 ∧ pl = 770 + 121 * k ∧ sz = 121) ∨ (s = 2 ∧ pl = 1012 + 17 * k ∧ sz = 17)) :
    ok (mm_text_L256 s a2 k FU 0 G) (fun x => x.1 = k ∧ (∀ j, 0 ≤ j → j < sz → x.2 202 (pl + j) = G 204 j) ∧ (∀ j, ¬ (pl ≤ j ∧ j < pl + sz) → x.2 202 j = G 202 j) ∧ ∀ a j, a ≠ 202 → x.2 a j = G a j) := by
  have e1 : mm_sizeOf s = sz := by
    unfold mm_sizeOf
    rcases hs with ⟨h, -, h2⟩ | ⟨h, -, h2⟩ | ⟨h, -, h2⟩
    · rw [if_pos h, h2]
    · rw [if_neg (by omega), if_pos h, h2]
    · rw [if_neg (by omega), if_neg (by omega), h2]
  have e2 : mm_placeOf s k = pl := by
    unfold mm_placeOf
    rcases hs with ⟨h, h2, -⟩ | ⟨h, h2, -⟩ | ⟨h, h2, -⟩
    · rw [if_pos h, w32_id (z := 80 * k) (by omega) (by omega), w32_id (by omega) (by omega), h2]
    · rw [if_neg (by omega), if_pos h, w32_id (z := 121 * k) (by omega) (by omega), w32_id (by omega) (by omega), h2]
    · rw [if_neg (by omega), if_neg (by omega), w32_id (z := 17 * k) (by omega) (by omega), w32_id (by omega) (by omega), h2]
  refine lp_up (fun m i (x : Hp) => mm_text_L256 s a2 k m i x) sz (fun i x => (∀ j, 0 ≤ j → j < i → x 202 (pl + j) = G 204 j) ∧ (∀ j, ¬ (pl ≤ j ∧ j < pl + sz) → x 202 j = G 202 j) ∧ ∀ a j, a ≠ 202 → x a j = G a j) ?_ ?_ (by omega) (by omega) (by omega) ⟨fun j j0 j1 => by omega, fun _ _ => rfl, fun _ _ _ => rfl⟩
  · intro m i x i0 i1 hx ih
    show ok (mm_text_L256 s a2 k (m + 1) i x) _
    rw [mm_text_L256, e1, e2, if_pos i1, gd_ok i0 (by omega), w32_id (z := pl + i) (by omega) (by omega), gd_ok (by omega) (by omega), w32_id (z := i + 1) (by omega) (by omega)]
    refine ih _ ⟨fun j j0 j1 => ?_, fun j u => ?_, fun a j u => ?_⟩
    · by_cases e : j = i
      · rw [upd2_e rfl (by omega), e]; exact hx.2.2 _ _ (by omega)
      · rw [upd2_o (by omega)]; exact hx.1 j j0 (by omega)
    · rw [upd2_o (by omega)]; exact hx.2.1 j u
    · rw [upd2_o (by omega)]; exact hx.2.2 a j u
  · intro m x hx
    show ok (mm_text_L256 s a2 k (m + 1) sz x) _
    rw [mm_text_L256, e1, if_neg (by omega)]
    exact ok_some ⟨rfl, hx⟩
/-- the class copies what it read -/
theorem ttakes_ok {s k d len : Int} {C G : Hp} (hk : k = 0 ∨ k = 1) (hs : (s = 0 ∧ d = 7 + 15 * k ∧ len = 7) ∨ (s = 1 ∧ d = 15 + 15 * k ∧ len = 3) ∨ (s = 2 ∧ d = 19 + 15 * k ∧ len = 2)) (hD : DatS s C G) :
    ok (cTo_take 1 s k C) (fun C' => C' 3 s = max (C 3 s) (k + 1) ∧ (∀ a j, ¬ (a = 3 ∧ j = s) → ¬ (d ≤ a ∧ a ≤ d + len) → C' a j = C a j) ∧ (s = 0 → PaperC C' (7 + 15 * k) (ct 80 (G 204) 0)) ∧ (s = 1 → WeekC C' (15 + 15 * k) (ct 121 (G 204) 0)) ∧ (s = 2 → LogC C' (19 + 15 * k) (ct 17 (G 204) 0))) := by
  have fin : ∀ C1 : Hp, (∀ a j, ¬ (d ≤ a ∧ a ≤ d + len) → C1 a j = C a j) → ok (cTo_take_j73 1 s k C1) (fun C' => C' 3 s = max (C 3 s) (k + 1) ∧ ∀ a j, ¬ (a = 3 ∧ j = s) → C' a j = C1 a j) := fun C1 h1 => by
    unfold cTo_take_j73
    rw [show (1 : Int) + 2 = 3 from rfl, w32_id (z := k + 1) (by omega) (by omega), h1 3 s (by omega)]
    exact ok_gd (by omega) (by omega) (ok_gd (by omega) (by omega) (ok_some ⟨upd2_s, fun a j u => upd2_o u⟩))
  unfold cTo_take
  rw [if_neg (by omega), if_pos (by omega), if_neg (by omega), if_neg (by omega), show (1 : Int) + 3 = 4 from rfl, show (1 : Int) + 4 = 5 from rfl, show (1 : Int) + 5 = 6 from rfl, RF4 hk, RF5 hk, RF6 hk]
  rcases hs with ⟨h, hd, hl⟩ | ⟨h, hd, hl⟩ | ⟨h, hd, hl⟩
  · obtain ⟨⟨hV, hP⟩, -⟩ := hD.1 h
    rw [if_pos h, gd_ok (by omega) (by omega)]
    refine ok_then (pcopy_ok hV hP (d := 7 + 15 * k) (by omega)) fun C1 c1 => ok_mono (fin C1 fun a j u => c1.2 _ _ (by omega)) fun C' c2 => ⟨c2.1, fun a j u u2 => by rw [c2.2 _ _ u]; exact c1.2 _ _ (by omega), fun _ => c1.1.fr fun a j u v => c2.2 _ _ (by omega), fun z => by omega, fun z => by omega⟩
  · obtain ⟨⟨hV, hP⟩, -⟩ := hD.2.1 h
    have hV0 := hV.1
    rw [if_neg (by omega), if_pos h, gd_ok (by omega) (by omega)]
    refine ok_then (wcopy_ok (by omega) hP (d := 15 + 15 * k) (by omega)) fun C1 c1 => ok_mono (fin C1 fun a j u => c1.2 _ _ (by omega)) fun C' c2 => ⟨c2.1, fun a j u u2 => by rw [c2.2 _ _ u]; exact c1.2 _ _ (by omega), fun z => by omega, fun _ => c1.1.fr fun a j u v => c2.2 _ _ (by omega), fun z => by omega⟩
  · obtain ⟨⟨hV, hP⟩, -⟩ := hD.2.2 h
    have hV0 := hV.1
    rw [if_neg (by omega), if_neg (by omega), gd_ok (by omega) (by omega)]
    refine ok_then (lcopy_ok (by omega) hP (d := 19 + 15 * k) (by omega)) fun C1 c1 => ok_mono (fin C1 fun a j u => c1.2 _ _ (by omega)) fun C' c2 => ⟨c2.1, fun a j u u2 => by rw [c2.2 _ _ u]; exact c1.2 _ _ (by omega), fun z => by omega, fun z => by omega, fun _ => c1.1.fr fun a j u v => c2.2 _ _ (by omega)⟩
theorem text_go {s k a2 fl n : Int} {C1 G1 : Hp} (hC : CInv C1 (G1 202) (G1 203)) (s0 : 0 ≤ s) (s1 : s ≤ 2) (hf : (fl = 1 ∧ a2 = -1 ∧ k = G1 202 s ∧ G1 202 s < 2) ∨ (fl = 0 ∧ a2 = k ∧ 0 ≤ k ∧ k < G1 202 s)) (n0 : 0 ≤ n) (n1 : n ≤ 600) (g2 : G1 201 2 = n) (g5 : G1 202 5 = 0) (g6 : G1 202 6 = -1) :
    ∃ rc rm, cX_text_j97 s a2 n fl C1 = some rc ∧ mm_text_j71 s a2 G1 = some rm ∧ rc.1 = rm.1 ∧ Inv rc.2 rm.2 := by
  obtain ⟨t1, t2, t3, t4⟩ := hC.tp
  have hm := t4 s s0 (by omega)
  have hk : k = 0 ∨ k = 1 := by omega
  obtain ⟨C2, G2, e1, e2, ⟨w1, w2⟩, hD, hSF, hMF⟩ := tscan_ok (s := s) (a2 := a2) (T := fun j => G1 202 (10 + j)) (C := C1) (G := G1) s0 s1 n0 n1 (fun j j0 j1 => ⟨(t1 j j0 (by omega)).1, rfl, (t1 j j0 (by omega)).2⟩) g2 g5 g6
  have h203 : G2 203 = G1 203 := funext fun j => hMF _ _ (by omega)
  have hC2 : CInv C2 (G1 202) (G1 203) := hC.scan hSF
  unfold cX_text_j97
  rw [e1, Option.bind_some, e2]
  have y4 : upd2 C2 1 2 (C2 39 3) 39 4 = C2 39 4 := upd2_o (by omega)
  rw [y4]
  generalize hC3 : upd2 (upd2 C2 1 2 (C2 39 3)) 1 3 (C2 39 4) = C3
  have z3 : ∀ a j, ¬ (a = 1 ∧ (j = 2 ∨ j = 3)) → C3 a j = C2 a j := fun a j u => by rw [← hC3, upd2_o (by omega), upd2_o (by omega)]
  have c3 : C3 39 3 = G2 202 5 := (z3 _ _ (by omega)).trans w1
  have hC3' : CInv C3 (G2 202) (G2 203) := by
    rw [h203]
    obtain ⟨u1, u2, u3, u4⟩ := hC2.tp
    refine CInv.tape hC2 (fun a j u => z3 _ _ (by omega)) (fun j u => hMF _ _ (by omega)) (TapeC.mk ⟨fun j j0 j1 => ?_, ?_, ⟨?_, ?_⟩, fun q q0 q1 => ?_⟩)
    · rw [z3 _ _ (by omega), hMF _ _ (by omega)]; exact u1 j j0 j1
    · rw [z3 _ _ (by omega), hMF _ _ (by omega)]; exact u2
    · rw [← hC3, upd2_o (by omega), upd2_s]; exact w1
    · rw [← hC3, upd2_s]; exact w2
    · rw [z3 _ _ (by omega), hMF _ _ (by omega)]; exact u4 q q0 q1
  rw [c3]
  unfold mm_text_j211
  by_cases hw : G2 202 5 = 0
  · rw [if_pos hw, if_pos hw]
    have hDS := hD hw
    have es : C3 3 s = G2 202 s := (hC3'.tp.2.2.2 s s0 (by omega)).1
    have em : G2 202 s = G1 202 s := hMF _ _ (by omega)
    have hX : (if fl = 0 then cX_text_j171 s a2 a2 C3 else (gd s 3 (cX_text_j171 s a2 (C3 3 s) C3))) = cX_text_j171 s a2 k C3 := by
      rcases hf with ⟨f1, f2, f3, f4⟩ | ⟨f1, f2, f3, f4⟩
      · rw [if_neg (by omega), gd_ok s0 (by omega), es, em, f3]
      · rw [if_pos f1, f2]
    generalize hG3 : (if a2 = -1 then upd2 G2 202 s (G2 202 s + 1) else G2) = G3
    have hY : (if a2 = -1 then (gd s 4184 (mm_text_j237 s a2 (G2 202 s) G2)) else mm_text_j237 s a2 a2 G2) = mm_text_L256 s a2 k FU 0 G3 := by
      unfold mm_text_j237 mm_text_j253
      rcases hf with ⟨f1, f2, f3, f4⟩ | ⟨f1, f2, f3, f4⟩
      · rw [if_pos f2] at hG3
        rw [if_pos f2, gd_ok s0 (by omega), if_pos f2, gd_ok s0 (by omega), gd_ok s0 (by omega), w32_id (by omega) (by omega), hG3, em, f3]
      · rw [if_neg (by omega)] at hG3
        rw [if_neg (by omega), if_neg (by omega), hG3, f2]
    rw [hX, hY]
    obtain ⟨pl, sz, d, len, hps⟩ : ∃ pl sz d len : Int, (s = 0 ∧ pl = 610 + 80 * k ∧ sz = 80 ∧ d = 7 + 15 * k ∧ len = 7) ∨ (s = 1 ∧ pl = 770 + 121 * k ∧ sz = 121 ∧ d = 15 + 15 * k ∧ len = 3) ∨ (s = 2 ∧ pl = 1012 + 17 * k ∧ sz = 17 ∧ d = 19 + 15 * k ∧ len = 2) := by
      rcases (show s = 0 ∨ s = 1 ∨ s = 2 by omega) with h | h | h
      · exact ⟨_, _, _, _, Or.inl ⟨h, rfl, rfl, rfl, rfl⟩⟩
      · exact ⟨_, _, _, _, Or.inr (Or.inl ⟨h, rfl, rfl, rfl, rfl⟩)⟩
      · exact ⟨_, _, _, _, Or.inr (Or.inr ⟨h, rfl, rfl, rfl, rfl⟩)⟩
    have g3 : ∀ a j, ¬ (a = 202 ∧ j = s) → G3 a j = G2 a j := fun a j u => by
      rw [← hG3]
      split
      · rw [upd2_o (by omega)]
      · rfl
    have g3s : G3 202 s = max (G1 202 s) (k + 1) := by
      rw [← hG3]
      rcases hf with ⟨f1, f2, f3, f4⟩ | ⟨f1, f2, f3, f4⟩
      · rw [if_pos f2, upd2_s, em]; omega
      · rw [if_neg (by omega), em]; omega
    obtain ⟨⟨r1, G4⟩, em4, q1, q2, q3, q4⟩ := tputs_ok (s := s) (a2 := a2) (k := k) (pl := pl) (sz := sz) (G := G3) hk (by omega)
    have q1' : r1 = k := q1
    subst q1'
    have q2 : ∀ j, 0 ≤ j → j < sz → G4 202 (pl + j) = G3 204 j := q2
    have q3 : ∀ j, ¬ (pl ≤ j ∧ j < pl + sz) → G4 202 j = G3 202 j := q3
    have q4 : ∀ a j, a ≠ 202 → G4 a j = G3 a j := q4
    have hD3 : DatS s C3 G2 := hDS.c fun a j u v => z3 a j (by omega)
    obtain ⟨C5, ec5, k1, k2, k3, k4, k5⟩ := ttakes_ok (s := s) (k := r1) (d := d) (len := len) hk (by omega) hD3
    refine ⟨(r1, upd2 C5 80 0 (-1)), (r1, G4), ?_, em4, rfl, ?_⟩
    · unfold cX_text_j171 cRw_forget
      rw [ec5, Option.bind_some, Option.bind_some]
    · have e203 : G4 203 = G2 203 := by
        rw [show G4 203 = G3 203 from funext fun j => q4 _ _ (by omega)]
        exact funext fun j => g3 _ _ (by omega)
      have e204 : ∀ j, G3 204 j = G2 204 j := fun j => g3 _ _ (by omega)
      unfold Inv
      show CInv (upd2 C5 80 0 (-1)) (G4 202) (G4 203)
      rw [e203]
      refine text_inv (s := s) (k := r1) (pl := pl) (sz := sz) (d := d) (len := len) hC3' hk hps ?_ (fun j u u2 => ?_) (fun a j u u2 u3 => ?_) upd2_s (fun h => ?_) (fun h => ?_) (fun h => ?_)
      · rw [upd2_o (by omega), k1, q3 _ (by omega), g3s, es, em]
        omega
      · rw [q3 _ u2]
        exact g3 _ _ (by omega)
      · rw [upd2_o u2]
        exact k2 _ _ u u3
      · have ee : ct 80 (G4 202) (pb r1) = ct 80 (G2 204) 0 := ct_eq fun j j0 j1 => by
          have := q2 j j0 (by omega)
          rw [Int.zero_add, ← e204 j, ← this]
          unfold pb
          rw [show pl = 610 + 80 * r1 by omega]
        rw [ee]
        exact ⟨(hDS.1 h).1.1, (k3 h).fr fun a j u v => upd2_o (by omega)⟩
      · have ee : ct 121 (G4 202) (wkb r1) = ct 121 (G2 204) 0 := ct_eq fun j j0 j1 => by
          have := q2 j j0 (by omega)
          rw [Int.zero_add, ← e204 j, ← this]
          unfold wkb
          rw [show pl = 770 + 121 * r1 by omega]
        rw [ee]
        exact ⟨(hDS.2.1 h).1.1, (k4 h).fr fun a j u v => upd2_o (by omega)⟩
      · have ee : ct 17 (G4 202) (lgb r1) = ct 17 (G2 204) 0 := ct_eq fun j j0 j1 => by
          have := q2 j j0 (by omega)
          rw [Int.zero_add, ← e204 j, ← this]
          unfold lgb
          rw [show pl = 1012 + 17 * r1 by omega]
        rw [ee]
        exact ⟨(hDS.2.2 h).1.1, (k5 h).fr fun a j u v => upd2_o (by omega)⟩
  · rw [if_neg hw, if_neg hw]
    exact ⟨_, _, rfl, rfl, rfl, hC3'⟩
theorem op2 : Op2 Inv := by
  intro Gc Gm hI a1 a2 r1 r2
  have hC : CInv Gc (Gm 202) (Gm 203) := hI
  obtain ⟨t1, t2, t3, t4⟩ := hC.tp
  unfold cX_text mm_text
  generalize hC1 : upd2 (upd2 (upd2 Gc 1 1 0) 1 2 0) 1 3 (-1) = C1
  generalize hG1 : upd2 (upd2 (upd2 (upd2 Gm 201 2 (Gm 202 4)) 202 4 0) 202 5 0) 202 6 (-1) = G1
  have zc : ∀ a j, ¬ (a = 1 ∧ (j = 1 ∨ j = 2 ∨ j = 3)) → C1 a j = Gc a j := fun a j u => by rw [← hC1, upd2_o (by omega), upd2_o (by omega), upd2_o (by omega)]
  have zg : ∀ a j, ¬ (a = 201 ∧ j = 2) → ¬ (a = 202 ∧ (j = 4 ∨ j = 5 ∨ j = 6)) → G1 a j = Gm a j := fun a j u u2 => by rw [← hG1, upd2_o (by omega), upd2_o (by omega), upd2_o (by omega), upd2_o (by omega)]
  have g2 : G1 201 2 = Gm 202 4 := by rw [← hG1, upd2_o (by omega), upd2_o (by omega), upd2_o (by omega), upd2_s]
  have g4 : G1 202 4 = 0 := by rw [← hG1, upd2_o (by omega), upd2_o (by omega), upd2_s]
  have g5 : G1 202 5 = 0 := by rw [← hG1, upd2_o (by omega), upd2_s]
  have g6 : G1 202 6 = -1 := by rw [← hG1, upd2_s]
  have h203 : G1 203 = Gm 203 := funext fun j => zg _ _ (by omega) (by omega)
  have hC1' : CInv C1 (G1 202) (G1 203) := by
    rw [h203]
    refine CInv.tape hC (fun a j u => zc _ _ (by omega)) (fun j u => zg _ _ (by omega) (by omega)) (TapeC.mk ⟨fun j j0 j1 => ?_, ?_, ⟨?_, ?_⟩, fun q q0 q1 => ?_⟩)
    · rw [zc _ _ (by omega), zg _ _ (by omega) (by omega)]; exact t1 j j0 j1
    · rw [g4, ← hC1, upd2_o (by omega), upd2_o (by omega), upd2_s]; omega
    · rw [g5, ← hC1, upd2_o (by omega), upd2_s]
    · rw [g6, ← hC1, upd2_s]
    · rw [zc _ _ (by omega), zg _ _ (by omega) (by omega)]; exact t4 q q0 q1
  have no : ∀ v : Int, ∃ rc rm : Int × Hp, some (v, C1) = some rc ∧ some (v, G1) = some rm ∧ rc.1 = rm.1 ∧ Inv rc.2 rm.2 := fun v => ⟨_, _, rfl, rfl, rfl, hC1'⟩
  rw [isIn_eq]
  by_cases hs : 0 ≤ a1 ∧ a1 ≤ 2
  · rw [if_neg (by omega), if_neg (by omega), decide_eq_true hs, if_tt]
    have hm := t4 a1 hs.1 (by omega)
    have ec : C1 3 a1 = Gm 202 a1 := (zc _ _ (by omega)).trans hm.1
    have eg : G1 202 a1 = Gm 202 a1 := zg _ _ (by omega) (by omega)
    rw [t2.1]
    by_cases ha : a2 = -1
    · rw [if_pos ha, if_pos ha, gd_ok hs.1 (by omega), eg]
      unfold cX_text_j54
      rw [if_neg (by omega), gd_ok hs.1 (by omega), ec]
      by_cases h2 : 2 ≤ Gm 202 a1
      · rw [if_pos h2, if_pos h2]
        exact no _
      · rw [if_neg h2, if_neg h2]
        exact text_go (k := Gm 202 a1) hC1' hs.1 hs.2 (Or.inl ⟨rfl, ha, eg.symm, by omega⟩) t2.2.1 t2.2.2 g2 g5 g6
    · have e0 : 0 ≤ G1 202 a1 ∧ G1 202 a1 ≤ 2 := by rw [eg]; exact hm.2
      rw [if_neg ha, if_neg ha, isOf_ok hs.1 (by omega) e0.1 e0.2, Option.bind_some, eg]
      unfold cX_text_j54
      rw [if_pos rfl]
      by_cases hr : 0 ≤ a2 ∧ a2 < Gm 202 a1
      · rw [if_neg (by omega), gd_ok hs.1 (by omega), ec, if_neg (by omega), decide_eq_true hr, if_tt]
        exact text_go (k := a2) hC1' hs.1 hs.2 (Or.inr ⟨rfl, rfl, hr.1, by rw [eg]; exact hr.2⟩) t2.2.1 t2.2.2 g2 g5 g6
      · rw [decide_eq_false hr, if_ff]
        by_cases h0 : a2 < 0
        · rw [if_pos h0]
          exact no _
        · rw [if_neg h0, gd_ok hs.1 (by omega), ec, if_pos (by omega)]
          exact no _
  · rw [decide_eq_false hs, if_ff]
    by_cases h0 : a1 < 0
    · rw [if_pos h0]
      exact no _
    · rw [if_neg h0, if_pos (by omega)]
      exact no _
