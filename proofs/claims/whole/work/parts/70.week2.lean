theorem pg_ok {α : Type} {o : Int} (ho : o = 7 ∨ o = 22) (X : Option α) : pg o X = X := by
  rcases ho with rfl | rfl <;> exact if_pos (by decide)
theorem bit_nch (g f : Int → Int) : jI_bitCount (bm (df g f) 8) = nch g f := by
  have hm : Mk 10 (bm (df g f) 8) := (bm_Mk _ 8 (by omega)).mono (by omega)
  rw [bc hm]
  unfold pop nch
  have e := sm_cut (f := fun p => b2i (bt (bm (df g f) 8) p)) (n := 8) (m := 10) (by omega) fun j j0 j1 => by
    show b2i (bt (bm (df g f) 8) j) = 0
    rw [bt_bm _ 8 (by omega) j (by omega), decide_eq_false (by omega), Bool.false_and]
    rfl
  rw [e]
  refine sm_congr fun j j0 j1 => ?_
  show b2i (bt (bm (df g f) 8) j) = b2i (df g f j)
  rw [bt_bm _ 8 (by omega) j j0, decide_eq_true (by omega), Bool.true_and]
/-- a deed: one reads -/
theorem wread_ok {C G : Hp} {o b r k : Int} {P f N : Int → Int} (hV : PaperV P) (ho : o = 7 ∨ o = 22) (hc : WkC o P f N C) (hg : WkM b P f N G) (hf : WkF P f) (hR : WkR k C G) (k0 : 0 ≤ k) (k1 : k ≤ 60) (r0 : 0 ≤ r) (r1 : r < P 1) :
    ∃ g n, WkF P g ∧ (0 ≤ n ∧ n ≤ 8) ∧ ok (cSt_read r C) (fun C' => WkC o P g N C' ∧ (C' 57 5 = C 57 5 + n ∧ C' 57 6 = C 57 6 ∧ C' 57 10 = C 57 10 ∧ (C' 57 8 = C 57 8 ∧ C' 57 9 = C 57 9 ∧ C' 57 12 = C 57 12)) ∧ (C' 57 11 = ior (C 57 11) (bm (df g f) 8)) ∧ (∀ i, C' 70 i = C 70 i ∧ C' 71 i = if i = r then C 71 r + n else C 71 i) ∧ ∀ a j, ¬ (57 ≤ a ∧ a ≤ 71) → C' a j = C a j) ∧ ok (mm_reads r G) (fun x => x.1 = n ∧ WkM b P g N x.2 ∧ (x.2 201 17 = G 201 17 + n ∧ x.2 201 20 = ior (G 201 20) (bm (df g f) 8)) ∧ (∀ i, x.2 210 i = if i = r then G 210 r + n else G 210 i) ∧ ∀ a j, a ≠ 207 → a ≠ 210 → a ≠ 211 → ¬ (a = 201 ∧ (j = 17 ∨ j = 20)) → x.2 a j = G a j) := by
  have h1 := hV.2.1
  obtain ⟨⟨c1, c2, c3, c4⟩, c5⟩ := hc
  obtain ⟨m1, m2, m3⟩ := hg
  obtain ⟨⟨w1, w2, w3⟩, ⟨w4, w5, w6⟩, ⟨w7, w8, w9⟩, ⟨w10, w11⟩, w12⟩ := hR
  have hr := w12 r r0 (by omega)
  have hgV : PV (rdF N (P (20 + 2 * r)) (bt (G 209 r)) (wnP P r) (P 0) f) := rdF_V hf.1
  have hz : ∀ p, P 0 ≤ p → p < 8 → rdF N (P (20 + 2 * r)) (bt (G 209 r)) (wnP P r) (P 0) f p = 0 := fun p p0 p1 => by
    rw [rdF_out (by omega)]
    exact hf.2 p p0 p1
  have hm := reads_ok hV m1 m2 hf.1 m3 r0 (by omega) hr.1.2 w11
  have hcr := readIn_ok (N := N) (lv := C 70 r) hV c5 c3 (fun w w0 w1 => by rw [show (66 : Int) + 1 = 67 from rfl]; exact c4 w w0 w1) (by omega) r0 r1 (by rw [hr.1.1]; exact hr.1.2) c2 hf.1
  rw [hr.1.1] at hcr
  generalize rdF N (P (20 + 2 * r)) (bt (G 209 r)) (wnP P r) (P 0) f = g at *
  have hn := nch_r g f
  refine ⟨g, nch g f, ⟨hgV, hz⟩, hn, ?_, ?_⟩
  · unfold cSt_read
    rw [c1, pg_ok ho, gd_ok r0 (by omega), hr.1.1]
    refine ok_then hcr fun x hx => ?_
    obtain ⟨x1, x2⟩ := hx
    have fr : ∀ a j, ¬ (66 ≤ a ∧ a ≤ 69) → x.2 a j = C a j := fun a j q => x2.1 a j (by omega) (by omega) (by omega)
    have e2 : x.2 57 2 = C 57 2 := fr _ _ (by omega)
    rw [e2, unlike_PK c2 x1, Option.bind_some, gd_ok r0 (by omega), gd_ok r0 (by omega), bit_nch]
    generalize hH5 : upd2 x.2 57 2 x.1 = H1
    have a1 : H1 57 5 = C 57 5 := by rw [← hH5, upd2_o (by omega), fr _ _ (by omega)]
    rw [a1, w32_id (z := C 57 5 + nch g f) (by omega) (by omega)]
    generalize hH6 : upd2 H1 57 5 (C 57 5 + nch g f) = H2
    have a2 : H2 71 r = C 71 r := by rw [← hH6, upd2_o (by omega), ← hH5, upd2_o (by omega), fr _ _ (by omega)]
    rw [a2, w32_id (z := C 71 r + nch g f) (by omega) (by omega)]
    generalize hH7 : upd2 H2 71 r (C 71 r + nch g f) = H3
    have a3 : H3 57 11 = C 57 11 := by rw [← hH7, upd2_o (by omega), ← hH6, upd2_o (by omega), ← hH5, upd2_o (by omega), fr _ _ (by omega)]
    rw [a3]
    have z : ∀ a j, ¬ (a = 57 ∧ (j = 2 ∨ j = 5 ∨ j = 11)) → ¬ (a = 71 ∧ j = r) → upd2 H3 57 11 (ior (C 57 11) (bm (df g f) 8)) a j = x.2 a j := fun a j q1 q2 => by rw [upd2_o (by omega), ← hH7, upd2_o (by omega), ← hH6, upd2_o (by omega), ← hH5, upd2_o (by omega)]
    have zc : ∀ a j, ¬ (a = 57 ∧ (j = 2 ∨ j = 5 ∨ j = 11)) → ¬ (a = 71 ∧ j = r) → ¬ (66 ≤ a ∧ a ≤ 69) → upd2 H3 57 11 (ior (C 57 11) (bm (df g f) 8)) a j = C a j := fun a j q1 q2 q3 => (z a j q1 q2).trans (fr a j q3)
    refine ok_some ⟨⟨⟨?_, ?_, x2.2.fr fun a j u v => z a j (by omega) (by omega), fun w w0 w1 => ?_⟩, c5.fr fun a j u v => zc a j (by omega) (by omega) (by omega)⟩, ⟨?_, zc _ _ (by omega) (by omega) (by omega), zc _ _ (by omega) (by omega) (by omega), zc _ _ (by omega) (by omega) (by omega), zc _ _ (by omega) (by omega) (by omega), zc _ _ (by omega) (by omega) (by omega)⟩, upd2_s, fun i => ⟨zc _ _ (by omega) (by omega) (by omega), ?_⟩, fun a j q => zc a j (by omega) (by omega) (by omega)⟩
    · rw [zc _ _ (by omega) (by omega) (by omega)]
      exact c1
    · rw [upd2_o (by omega), ← hH7, upd2_o (by omega), ← hH6, upd2_o (by omega), ← hH5, upd2_s]
      exact x1
    · rw [z _ _ (by omega) (by omega)]
      have := congrFun x2.net w
      rw [show (66 : Int) + 1 = 67 from rfl] at this
      rw [this]
      exact c4 w w0 w1
    · rw [upd2_o (by omega), ← hH7, upd2_o (by omega), ← hH6, upd2_s]
    · by_cases hi : i = r
      · rw [if_pos hi, upd2_o (by omega), ← hH7, upd2_e rfl hi]
      · rw [if_neg hi]
        exact zc _ _ (by omega) (by omega) (by omega)
  · refine ok_mono hm fun x hx => ?_
    obtain ⟨x1, ⟨y1, y2, y3, y4, y5, y6⟩⟩ := hx
    have hb := bm_Mk (df g f) 8 (by omega)
    refine ⟨x1, ⟨m1.fr (fun j q => y6 _ _ (by omega) (by omega) (by omega) (by omega)) (fun j => y6 _ _ (by omega) (by omega) (by omega) (by omega)), m2.fr (fun j => y6 _ _ (by omega) (by omega) (by omega) (by omega)) (fun j => y6 _ _ (by omega) (by omega) (by omega) (by omega)), y1⟩, ⟨?_, ?_⟩, fun i => ?_, y6⟩
    · rw [y4, w32_id (by omega) (by omega)]
    · refine Mk.ext y3.1 (w11.or hb (by omega)) fun p p0 p1 => ?_
      rw [y3.2 p p0, bt_or w11 hb (by omega) (by omega), bt_bm _ 8 (by omega) p p0]
      rfl
    · rw [y5, w32_id (by omega) (by omega)]
