-- teaching, blame
def tcV (P : Int → Int) (c : Int) : Int := ctA P (rwN P (jon (sl P 10) (c / 10) (c % 10)) id (sl P 2) (P 1).toNat)
def tcC (N : Int → Int) (c : Int) : Bool := decide (c / 10 < c % 10) && !bt (N (c / 10)) (c % 10)
theorem tcC_at {N : Int → Int} {a b : Int} (b0 : 0 ≤ b) (b1 : b < 10) (ab : a < b) : tcC N (10 * a + b) = !bt (N a) b := by
  unfold tcC
  rw [show (10 * a + b) / 10 = a by omega, show (10 * a + b) % 10 = b by omega, decide_eq_true ab, Bool.true_and]
theorem tcV_at {P : Int → Int} {a b : Int} (b0 : 0 ≤ b) (b1 : b < 10) : tcV P (10 * a + b) = ctA P (rwN P (jon (sl P 10) a b) id (sl P 2) (P 1).toNat) := by
  unfold tcV
  rw [show (10 * a + b) / 10 = a by omega, show (10 * a + b) % 10 = b by omega]
theorem tcC_lo {N : Int → Int} {a c : Int} (h1 : 10 * a ≤ c) (h2 : c < 10 * a + (a + 1)) (ha : a < 10) : tcC N c = false := by
  unfold tcC
  rw [decide_eq_false (show ¬ c / 10 < c % 10 by omega), Bool.false_and]
theorem cround_ok {G : Hp} {o q : Int} {P N f : Int → Int} (hV : PaperV P) (ho : o = 7 ∨ o = 22) (hC : PaperC G o P) (hD : DrC N G) (hq : PK q f) (hf : PV f) : ok (cPa_round o 87 q G) (fun x => PK x.1 (rwN P N id f (P 1).toNat) ∧ CE 87 G x.2) := by
  have h1 := hV.2.1
  unfold cPa_round
  refine lp_up (fun n i (s : Int × Hp) => cPa_round_L5 o 87 q n s.1 i s.2) (P 1) (fun i s => PK s.1 (rwN P N id f i.toNat) ∧ CE 87 G s.2) ?_ ?_ (by omega) (by omega) (by omega) (s := (q, G)) ⟨hq, CE.refl hD.1⟩
  · intro n i s i0 i1 hI ih
    obtain ⟨x, G1⟩ := s
    obtain ⟨e1, e2⟩ := hI
    simp only at e1 e2
    have hC1 := hC.net (Or.inr (Or.inr (by omega))) e2
    have hN1 : ∀ w, 0 ≤ w → w < 10 → G1 (87 + 1) w = N w := fun w w0 w1 => by rw [e2.net]; exact hD.2 w w0 w1
    show ok (cPa_round_L5 o 87 q (n + 1) x i G1) _
    rw [cPa_round_L5, hC1.1.2, if_pos i1, w32_id (z := i + 1) (by omega) (by omega)]
    refine ok_then (readIn_ok hV hC1 e2.2 hN1 (Or.inr (Or.inr (by omega))) i0 i1 (Mk.zero 8) e1 (rwN_V hf _)) fun y hy => ih (y.1, y.2) ⟨?_, e2.trans hy.2⟩
    show PK y.1 _
    rw [rwN_s P N id f i0]
    exact hy.1
  · intro n s hI
    obtain ⟨x, G1⟩ := s
    have hC1 := hC.net (Or.inr (Or.inr (by omega))) hI.2
    show ok (cPa_round_L5 o 87 q (n + 1) x (P 1) G1) _
    rw [cPa_round_L5, show G1 o 2 = P 1 from hC1.1.2, if_neg (by omega)]
    exact ok_some hI
theorem bestCouple_ok {G : Hp} {o : Int} {P : Int → Int} (hV : PaperV P) (ho : o = 7 ∨ o = 22) (hC : PaperC G o P) : ok (cX_bestCouple o G) (fun x => BR (tcV P) x.1 (bwC (tcC (sl P 10)) (tcV P) 100) ∧ Sq G x.2) := by
  have hN := hV.2.2.2.1
  have hval : ∀ k, 0 ≤ tcV P k ∧ tcV P k ≤ 48 := fun k => ctA_r hV _
  unfold cX_bestCouple
  refine ok_then (draft_ok ho hC) fun G1 h1 => ?_
  refine lp_up (fun n i (s : Int × Hp) => cX_bestCouple_L15 o n s.1 i s.2) 10 (fun i s => BR (tcV P) s.1 (bwC (tcC (sl P 10)) (tcV P) (10 * i).toNat) ∧ DrC (sl P 10) s.2 ∧ ∀ a j, ¬ (87 ≤ a ∧ a ≤ 90) → s.2 a j = G a j) ?_ ?_ (by omega) (by omega) (by omega) (s := (-1, G1)) ⟨Or.inl ⟨rfl, rfl⟩, h1⟩
  · intro n a s a0 a1 hI ih
    obtain ⟨best, G2⟩ := s
    obtain ⟨e1, e2, e3⟩ := hI
    simp only at e1 e2 e3
    show ok (cX_bestCouple_L15 o (n + 1) best a G2) _
    rw [cX_bestCouple_L15, if_pos a1, w32_id (z := a + 1) (by omega) (by omega)]
    refine lp_up (fun n2 b (s : Int × Hp) => cX_bestCouple_L26 o a (fun x2_100 G_100 => cX_bestCouple_L15 o n x2_100 (a + 1) G_100) n2 s.1 b s.2) 10 (fun b s => a + 1 ≤ b ∧ BR (tcV P) s.1 (bwC (tcC (sl P 10)) (tcV P) (10 * a + b).toNat) ∧ DrC (sl P 10) s.2 ∧ ∀ a j, ¬ (87 ≤ a ∧ a ≤ 90) → s.2 a j = G a j) ?_ ?_ (by omega) (by omega) (by omega) (s := (best, G2)) ⟨by omega, ?_, e2, e3⟩
    · intro n2 b s b0 b1 hI2 ih2
      obtain ⟨best, G2⟩ := s
      obtain ⟨g0, e1, e2, e3⟩ := hI2
      simp only at e1 e2 e3
      have hP2 := hC.sq ho (sq87 e3)
      have ei : 10 * a + (b + 1) = 10 * a + b + 1 := by omega
      have hs := bwC_s (cond := tcC (sl P 10)) (val := tcV P) (i := 10 * a + b) (by omega)
      show ok (cX_bestCouple_L26 o a _ (n2 + 1) best b G2) _
      rw [cX_bestCouple_L26, if_pos b1, cnear_ok hN hP2.nb a0 a1 b0 b1, Option.bind_some, w32_id (z := b + 1) (by omega) (by omega)]
      refine ok_ite (fun e => ih2 (best, G2) ⟨by omega, ?_, e2, e3⟩) (fun e => ?_)
      · show BR (tcV P) best _
        rw [tcC_at b0 b1 (by omega), e] at hs
        rw [ei, hs, if_neg (fun z => by cases z.1)]
        exact e1
      · have hf : bt (sl P 10 a) b = false := by simpa using e
        have hj := jon_NW hN a0 a1 b0 b1 (show a ≠ b by omega)
        refine ok_then (cjoin_ok (nt := 87) hN e2.2 a0 a1 b0 b1 (by omega)) fun G3 h3 => ?_
        have fr3 : ∀ x j, ¬ (87 ≤ x ∧ x ≤ 90) → G3 x j = G x j := fun x j z => by rw [h3.2.2 x j (by omega) (by omega)]; exact e3 x j z
        have hP3 := hC.sq ho (sq87 fr3)
        refine ok_then (cround_ok (N := jon (sl P 10) a b) hV ho hP3 ⟨h3.1, h3.2.1⟩ hP3.2.1 hV.pv) fun y hy => ?_
        have fr4 : ∀ x j, ¬ (87 ≤ x ∧ x ≤ 90) → y.2 x j = G x j := fun x j z => by rw [hy.2.1 x j (by omega) (by omega) (by omega)]; exact fr3 x j z
        have hP4 := hC.sq ho (sq87 fr4)
        rw [contentAll_ok hV hP4 hy.1, Option.bind_some, w32_id (z := 10 * a) (by omega) (by omega), w32_id (z := 10 * a + b) (by omega) (by omega), ← tcV_at b0 b1]
        refine ok_then (better_ok (cond := tcC (sl P 10)) (val := tcV P) (by omega) (by omega) hval (by rw [tcC_at b0 b1 (by omega), hf]; rfl) e1) fun z hz => ?_
        refine ok_then (cpart_ok (nt := 87) hj (fun w w0 w1 => by rw [hy.2.net]; exact h3.2.1 w w0 w1) a0 a1 b0 b1 (by omega)) fun G5 h5 => ih2 (z, G5) ⟨by omega, ?_, ⟨h5.1, fun w w0 w1 => ?_⟩, fun x j q => ?_⟩
        · show BR (tcV P) z _
          rw [ei]
          exact hz
        · exact (h5.2.1 w w0 w1).trans (prt_jon hN a0 a1 b0 b1 (by omega) hf w0 w1)
        · show G5 x j = _
          rw [h5.2.2 x j (by omega) (by omega)]
          exact fr4 x j q
    · intro n2 s hI2
      obtain ⟨best, G2⟩ := s
      obtain ⟨g0, e1, e2, e3⟩ := hI2
      simp only at e1 e2 e3
      show ok (cX_bestCouple_L26 o a _ (n2 + 1) best 10 G2) _
      rw [cX_bestCouple_L26, if_neg (by omega)]
      refine ih (best, G2) ⟨?_, e2, e3⟩
      show BR (tcV P) best _
      rw [show 10 * (a + 1) = 10 * a + 10 by omega]
      exact e1
    · show BR (tcV P) best _
      rw [bwC_to (i := 10 * a) (j := 10 * a + (a + 1)) (by omega) (by omega) fun k k0 k1 => tcC_lo (a := a) k0 k1 (by omega)]
      exact e1
  · intro n s hI
    obtain ⟨x, G2⟩ := s
    obtain ⟨e1, e2, e3⟩ := hI
    show ok (cX_bestCouple_L15 o (n + 1) x 10 G2) _
    rw [cX_bestCouple_L15, if_neg (by omega)]
    exact ok_some ⟨e1, sq87 e3⟩
theorem teachOf_ok {G : Hp} {b0 is : Int} {P : Int → Int} (hV : PaperV P) (h : MW P (sl P 10) b0 G) : ok (mm_teachOf is G) (fun x => x.1 = (if is = 0 then bwC (tcC (sl P 10)) (tcV P) 100 else if bwC (tcC (sl P 10)) (tcV P) 100 = -1 then 0 else tcV P (bwC (tcC (sl P 10)) (tcV P) 100)) ∧ Mq G x.2) := by
  have h1 := hV.2.1
  have hN := hV.2.2.2.1
  unfold mm_teachOf
  refine ok_then firstRow_ok fun G0 hG0 => ?_
  have hM0 : MW P (sl P 10) b0 G0 := h.fr fun a j z => hG0.2 a j (by omega)
  have hq0 : Mq G G0 := Mq.fr fun j => ⟨hG0.2 _ _ (by omega), hG0.2 _ _ (by omega)⟩
  refine lp_up (fun n i (s : Int × Int × Hp) => mm_teachOf_L11 is (fun x2_107 x3_107 G_107 => if is = 0 then some (x2_107, G_107) else some (x3_107, G_107)) n s.1 s.2.1 i s.2.2) 10 (fun i s => MPv (tcV P) (bwC (tcC (sl P 10)) (tcV P) (10 * i).toNat) s.1 s.2.1 ∧ MW P (sl P 10) b0 s.2.2 ∧ Mq G s.2.2 ∧ ∀ k, 0 ≤ k → k < 6 → s.2.2 213 k = k) ?_ ?_ (by omega) (by omega) (by omega) (s := (-1, 0, G0)) ⟨⟨rfl, rfl⟩, hM0, hq0, hG0.1⟩
  · intro n a s a0 a1 hI ih
    obtain ⟨x, y, G1⟩ := s
    obtain ⟨e1, e2, e3, e4⟩ := hI
    simp only at e1 e2 e3 e4
    show ok (mm_teachOf_L11 is _ (n + 1) x y a G1) _
    rw [mm_teachOf_L11, if_pos a1, w32_id (z := a + 1) (by omega) (by omega)]
    refine lp_up (fun n2 b (s : Int × Int × Hp) => mm_teachOf_L24 is a (fun x2_101 x3_101 G_101 => mm_teachOf_L11 is (fun x2_107 x3_107 G_107 => if is = 0 then some (x2_107, G_107) else some (x3_107, G_107)) n x2_101 x3_101 (a + 1) G_101) n2 s.1 s.2.1 b s.2.2) 10 (fun b s => a + 1 ≤ b ∧ MPv (tcV P) (bwC (tcC (sl P 10)) (tcV P) (10 * a + b).toNat) s.1 s.2.1 ∧ MW P (sl P 10) b0 s.2.2 ∧ Mq G s.2.2 ∧ ∀ k, 0 ≤ k → k < 6 → s.2.2 213 k = k) ?_ ?_ (by omega) (by omega) (by omega) (s := (x, y, G1)) ⟨by omega, ?_, e2, e3, e4⟩
    · intro n2 b s b0' b1 hI2 ih2
      obtain ⟨x, y, G2⟩ := s
      obtain ⟨g0, f1, f2, f3, f4⟩ := hI2
      simp only at f1 f2 f3 f4
      have ei : 10 * a + (b + 1) = 10 * a + b + 1 := by omega
      have hs := bwC_s (cond := tcC (sl P 10)) (val := tcV P) (i := 10 * a + b) (by omega)
      show ok (mm_teachOf_L24 is a _ (n2 + 1) x y b G2) _
      rw [mm_teachOf_L24, if_pos b1, near_ok f2.2.1 a0 a1 b0' b1, Option.bind_some, w32_id (z := b + 1) (by omega) (by omega)]
      refine ok_ite (fun e => ih2 (x, y, G2) ⟨by omega, ?_, f2, f3, f4⟩) (fun e => ?_)
      · show MPv (tcV P) _ x y
        rw [tcC_at b0' b1 (by omega), e] at hs
        rw [ei, hs, if_neg (fun z => by cases z.1)]
        exact f1
      · have hf : bt (sl P 10 a) b = false := by simpa using e
        refine ok_then (mjoins_ok (is := 1) f2.2.1 a0 a1 b0' b1 (by omega)) fun G3 h3 => ?_
        have hN3 : MN (jon (sl P 10) a b) G3 := h3.1
        have hM3 : MW P (jon (sl P 10) a b) b0 G3 := ⟨f2.1.fr (fun j _ => h3.2 _ _ (by omega) (by omega)) (fun j => h3.2 _ _ (by omega) (by omega)), hN3, by rw [h3.2 _ _ (by omega) (by omega)]; exact f2.2.2⟩
        refine ok_then (readsRow_ok (row := id) hV hM3 fun k k0 k1 => ⟨by rw [h3.2 _ _ (by omega) (by omega)]; exact f4 k k0 (by omega), k0, show k < 6 by omega⟩) fun z hz => ?_
        refine ok_then (mjoins_ok (is := 0) hz.2.1.2.1 a0 a1 b0' b1 (by omega)) fun G5 h5 => ?_
        have hN5 : MN (sl P 10) G5 := MN.congr (N := prt (jon (sl P 10) a b) a b) h5.1 fun w w0 w1 => prt_jon hN a0 a1 b0' b1 (by omega) hf w0 w1
        have hM5 : MW P (sl P 10) b0 G5 := ⟨hz.2.1.1.fr (fun j _ => h5.2 _ _ (by omega) (by omega)) (fun j => h5.2 _ _ (by omega) (by omega)), hN5, by rw [h5.2 _ _ (by omega) (by omega)]; exact hz.2.1.2.2⟩
        have hq : Mq G G5 := ((f3.trans (Mq.fr fun j => ⟨h3.2 _ _ (by omega) (by omega), h3.2 _ _ (by omega) (by omega)⟩)).trans hz.2.2.2.mq).trans (Mq.fr fun j => ⟨h5.2 _ _ (by omega) (by omega), h5.2 _ _ (by omega) (by omega)⟩)
        have hrow : ∀ k, 0 ≤ k → k < 6 → G5 213 k = k := fun k k0 k1 => by rw [h5.2 _ _ (by omega) (by omega), hz.2.2.2 _ _ (by omega) (by omega) (by omega) (by omega) (by omega), h3.2 _ _ (by omega) (by omega)]; exact f4 k k0 k1
        have hv : z.1 = tcV P (10 * a + b) := by rw [tcV_at b0' b1]; exact hz.1
        have hst := MPv_s (cond := tcC (sl P 10)) (val := tcV P) (i := 10 * a + b) (by omega) (by rw [tcC_at b0' b1 (by omega), hf]; rfl) f1
        rw [hv]
        unfold mm_teachOf_j83
        rw [w32_id (z := 10 * a) (by omega) (by omega), w32_id (z := 10 * a + b) (by omega) (by omega), w32_id (z := b + 1) (by omega) (by omega)]
        refine ok_ite (fun e => ih2 (10 * a + b, tcV P (10 * a + b), G5) ⟨by omega, by rw [ei]; exact hst.1 e, hM5, hq, hrow⟩) (fun e => ok_ite (fun e5 => ih2 (x, y, G5) ⟨by omega, by rw [ei]; exact hst.2.1 e e5, hM5, hq, hrow⟩) (fun e5 => ih2 (10 * a + b, tcV P (10 * a + b), G5) ⟨by omega, by rw [ei]; exact hst.2.2 e e5, hM5, hq, hrow⟩))
    · intro n2 s hI2
      obtain ⟨x, y, G2⟩ := s
      obtain ⟨g0, f1, f2, f3, f4⟩ := hI2
      simp only at f1 f2 f3 f4
      show ok (mm_teachOf_L24 is a _ (n2 + 1) x y 10 G2) _
      rw [mm_teachOf_L24, if_neg (by omega)]
      refine ih (x, y, G2) ⟨?_, f2, f3, f4⟩
      show MPv (tcV P) _ x y
      rw [show 10 * (a + 1) = 10 * a + 10 by omega]
      exact f1
    · show MPv (tcV P) _ x y
      rw [bwC_to (i := 10 * a) (j := 10 * a + (a + 1)) (by omega) (by omega) fun k k0 k1 => tcC_lo (a := a) k0 k1 (by omega)]
      exact e1
  · intro n s hI
    obtain ⟨x, y, G1⟩ := s
    obtain ⟨e1, e2, e3, e4⟩ := hI
    simp only at e1 e2 e3
    show ok (mm_teachOf_L11 is _ (n + 1) x y 10 G1) _
    rw [mm_teachOf_L11, if_neg (by omega)]
    refine ok_ite (fun e => ok_some ⟨?_, e3⟩) (fun e => ok_some ⟨?_, e3⟩)
    · rw [if_pos e]
      exact e1.1
    · rw [if_neg e]
      exact e1.2
/-- who changed a place last in one round -/
def blB (P : Int → Int) (p : Int) : Int → Bool := fun r => !decide (rn P (sl P 2) (r + 1).toNat p = rn P (sl P 2) r.toNat p)
def blV (P : Int → Int) (p : Int) : Int := lstB (blB P p) (P 1).toNat
theorem blame_ok {G : Hp} {o p : Int} {P : Int → Int} (hV : PaperV P) (hC : PaperC G o P) : ok (cX_blame o p G) (fun x => x.1 = (if 0 ≤ p ∧ p < P 0 then blV P p else -2) ∧ CE (o + 1) G x.2) := by
  have h0 := hV.1
  have h1 := hV.2.1
  unfold cX_blame
  rw [hC.1.1]
  refine ok_ite (fun e => ok_some ⟨by rw [if_neg (by omega)], CE.refl hC.2.2.1⟩) (fun e => ok_ite (fun e2 => ok_some ⟨by rw [if_neg (by omega)], CE.refl hC.2.2.1⟩) (fun e2 => ?_))
  rw [if_pos (by omega)]
  refine lp_up (fun n i (s : Int × Int × Hp) => cX_blame_L25 o p n s.1 s.2.1 i s.2.2) (P 1) (fun i s => s.1 = lstB (blB P p) i.toNat ∧ PK s.2.1 (rn P (sl P 2) i.toNat) ∧ CE (o + 1) G s.2.2) ?_ ?_ (by omega) (by omega) (by omega) (s := (-1, G o 0, G)) ⟨rfl, hC.2.1, CE.refl hC.2.2.1⟩
  · intro n i s i0 i1 hI ih
    obtain ⟨x, q, G1⟩ := s
    obtain ⟨e3, e4, e5⟩ := hI
    simp only at e3 e4 e5
    have hC1 := hC.ce e5
    have hs := lstB_s (blB P p) i0
    show ok (cX_blame_L25 o p (n + 1) x q i G1) _
    rw [cX_blame_L25, hC1.1.2, if_pos i1, w32_id (by omega) (by omega)]
    refine ok_then (readBy_ok hV hC1 i0 i1 e4 (rn_V hV.pv _)) fun y hy => ?_
    rw [← rn_s P _ i0] at hy
    rw [hy.1.2 p (by omega) (by omega), e4.2 p (by omega) (by omega)]
    refine ok_ite (fun e6 => ih (x, y.1, y.2) ⟨?_, hy.1, e5.trans hy.2⟩) (fun e6 => ih (i, y.1, y.2) ⟨?_, hy.1, e5.trans hy.2⟩)
    · show x = _
      rw [hs, if_neg (by unfold blB; simp [e6]), e3]
    · show i = _
      rw [hs, if_pos (by unfold blB; simp [e6])]
  · intro n s hI
    obtain ⟨x, q, G1⟩ := s
    obtain ⟨e3, e4, e5⟩ := hI
    have hC1 := hC.ce e5
    show ok (cX_blame_L25 o p (n + 1) x q (P 1) G1) _
    rw [cX_blame_L25, show G1 o 2 = P 1 from hC1.1.2, if_neg (by omega)]
    exact ok_some ⟨e3, e5⟩
theorem mblame_ok {G : Hp} {b : Int} {P : Int → Int} (hV : PaperV P) (h : M0 P b G) : ok (mm_round G) (fun x => (∀ p, 0 ≤ p → p < 8 → x.2 211 p = blV P p) ∧ Mq G x.2) := by
  have h1 := hV.2.1
  unfold mm_round
  refine lp_up (fun n i (s : Int × Hp) => mm_round_L4 n s.1 i s.2) (P 1) (fun i s => (0 ≤ s.1 ∧ s.1 ≤ 8 * i) ∧ MR P b (rn P (sl P 2) i.toNat) s.2 ∧ (∀ p, 0 ≤ p → p < 8 → s.2 211 p = lstB (blB P p) i.toNat) ∧ Mq G s.2) ?_ ?_ (by omega) (by omega) (by omega) (s := (0, G)) ⟨⟨Int.le_refl 0, by omega⟩, h.mr hV, fun p p0 p1 => (h.2.2.1 p p0 p1).2.2, Mq.refl G⟩
  · intro n i s i0 i1 hI ih
    obtain ⟨x, G1⟩ := s
    obtain ⟨e1, e2, e3, e4⟩ := hI
    simp only at e1 e2 e3 e4
    show ok (mm_round_L4 (n + 1) x i G1) _
    rw [mm_round_L4, e2.1.1.2.2, if_pos i1, w32_id (z := i + 1) (by omega) (by omega)]
    refine ok_then (reads_MR hV e2 i0 (by omega)) fun y hy => ?_
    have hn := nch_r (rb P i (rn P (sl P 2) i.toNat)) (rn P (sl P 2) i.toNat)
    rw [hy.1, w32_id (by omega) (by omega)]
    refine ih (_, y.2) ⟨⟨by show 0 ≤ x + _; omega, by show x + _ ≤ _; omega⟩, ?_, fun p p0 p1 => ?_, e4.trans hy.2.2.mq⟩
    · show MR P b (rn P (sl P 2) (i + 1).toNat) y.2
      rw [rn_s P _ i0]
      exact hy.2.1
    · show y.2 211 p = _
      have hb : blB P p i = !decide (rb P i (rn P (sl P 2) i.toNat) p = rn P (sl P 2) i.toNat p) := by
        unfold blB
        rw [rn_s P _ i0]
      rw [hy.2.2.2.1 p p0 p1, lstB_s _ i0, hb]
      by_cases q : rb P i (rn P (sl P 2) i.toNat) p = rn P (sl P 2) i.toNat p
      · rw [if_neg (fun z => z q), if_neg (by simp [q]), e3 p p0 p1]
      · rw [if_pos q, if_pos (by simp [q])]
  · intro n s hI
    obtain ⟨x, G1⟩ := s
    obtain ⟨e1, e2, e3, e4⟩ := hI
    simp only at e1 e2 e3 e4
    show ok (mm_round_L4 (n + 1) x (P 1) G1) _
    rw [mm_round_L4, e2.1.1.2.2, if_neg (by omega)]
    exact ok_some ⟨e3, e4⟩
theorem op27 : Op27 Inv := by
  intro Gc Gm hI a1 a2 r1 r2
  unfold r32 at r2
  have hC : CInv Gc (Gm 202) (Gm 203) := hI
  by_cases hk : 0 ≤ a1 ∧ a1 < Gm 202 0
  · obtain ⟨hp, hk2⟩ := paperAt_yes hC hk.1 hk.2
    obtain ⟨hV, hP⟩ := hC.paper hk2
    have hyes := isPaper_yes hC.av hk.1 hk.2
    generalize ct 80 (Gm 202) (pb a1) = P at *
    have ho := o_or hk2
    generalize 7 + 15 * a1 = o at *
    have o0 : ¬ o < 0 := by omega
    unfold cX_lastWord mm_lastWord
    simp only [hp, Option.bind_some, if_neg o0]
    have mend : ∀ {F : Bool × Hp → Option (Int × Hp)} {v : Int}, (∀ r : Bool × Hp, r.1 = true → M0 P (pb a1) r.2 → Mq Gm r.2 → ok (F r) (fun y => y.1 = v ∧ Mq Gm y.2)) → ok ((mm_isPaper a1 Gm).bind F) (fun y => y.1 = v ∧ y.2 202 = Gm 202 ∧ y.2 203 = Gm 203) := fun h => ok_then hyes fun r hr => h r hr.1 hr.2.1 ⟨hr.2.2.1, hr.2.2.2⟩
    have vL : ∀ k, 0 ≤ lvL P k ∧ lvL P k ≤ 48 := fun k => ctA_r hV _
    have vS : ∀ k, 0 ≤ swV P k ∧ swV P k ≤ 48 := fun k => ctA_r hV _
    have vT : ∀ k, 0 ≤ tcV P k ∧ tcV P k ≤ 48 := fun k => ctA_r hV _
    by_cases g0 : a2 = 0
    · simp only [if_pos g0]
      refine op_q hI (bm (idB P) (P 1).toNat) (ok_then (idle_ok hV hP) fun x hx => ok_some ⟨hx.1, hC.sq (Sq.ce ho hx.2)⟩) (mend fun r t hm hq => ?_)
      rw [t, if_tt]
      exact ok_then (midle_ok hV hm.mw) fun x hx => ok_some ⟨hx.1, hq.trans hx.2⟩
    simp only [if_neg g0]
    by_cases g1 : a2 = 1
    · simp only [if_pos g1]
      refine op_q hI (bwC (fun _ => true) (lvL P) (P 1).toNat) (ok_then (bestLast_ok hV ho hP) fun x hx => ?_) (mend fun r t hm hq => ?_)
      · rw [which_ok vL hx.1, Option.bind_some]
        exact ok_some ⟨rfl, hC.sq (Sq.ce ho hx.2)⟩
      · rw [t, if_tt]
        unfold mm_lastWord_j61
        rw [if_neg (by omega)]
        unfold mm_lastWord_j72
        refine ok_then (lastWordOf_ok hV hm.mw) fun x hx => ok_some ⟨?_, hq.trans hx.2⟩
        have := hx.1
        rw [if_pos rfl] at this
        exact this
    simp only [if_neg g1]
    by_cases g2 : a2 = 2
    · simp only [if_pos g2]
      refine op_q hI (if bwC (fun _ => true) (lvL P) (P 1).toNat = -1 then 0 else lvL P (bwC (fun _ => true) (lvL P) (P 1).toNat)) (ok_then (bestLast_ok hV ho hP) fun x hx => ?_) (mend fun r t hm hq => ?_)
      · rw [howMuch_ok vL hx.1, Option.bind_some]
        exact ok_some ⟨rfl, hC.sq (Sq.ce ho hx.2)⟩
      · rw [t, if_tt]
        unfold mm_lastWord_j61
        rw [if_pos g2]
        unfold mm_lastWord_j72
        refine ok_then (lastWordOf_ok hV hm.mw) fun x hx => ok_some ⟨?_, hq.trans hx.2⟩
        have := hx.1
        rw [if_neg (by omega)] at this
        exact this
    simp only [if_neg g2]
    by_cases g3 : a2 = 3
    · simp only [if_pos g3]
      refine op_q hI (bwC (swC (P 1)) (swV P) (10 * P 1).toNat) (ok_then (bestSwap_ok hV ho hP) fun x hx => ?_) (mend fun r t hm hq => ?_)
      · rw [which_ok vS hx.1, Option.bind_some]
        exact ok_some ⟨rfl, hC.sq (Sq.ce ho hx.2)⟩
      · rw [t, if_tt]
        unfold mm_lastWord_j76
        rw [if_neg (by omega)]
        unfold mm_lastWord_j87
        refine ok_then (swapOf_ok hV hm.mw) fun x hx => ok_some ⟨?_, hq.trans hx.2⟩
        have := hx.1
        rw [if_pos rfl] at this
        exact this
    simp only [if_neg g3]
    by_cases g4 : a2 = 4
    · simp only [if_pos g4]
      refine op_q hI (if bwC (swC (P 1)) (swV P) (10 * P 1).toNat = -1 then 0 else swV P (bwC (swC (P 1)) (swV P) (10 * P 1).toNat)) (ok_then (bestSwap_ok hV ho hP) fun x hx => ?_) (mend fun r t hm hq => ?_)
      · rw [howMuch_ok vS hx.1, Option.bind_some]
        exact ok_some ⟨rfl, hC.sq (Sq.ce ho hx.2)⟩
      · rw [t, if_tt]
        unfold mm_lastWord_j76
        rw [if_pos g4]
        unfold mm_lastWord_j87
        refine ok_then (swapOf_ok hV hm.mw) fun x hx => ok_some ⟨?_, hq.trans hx.2⟩
        have := hx.1
        rw [if_neg (by omega)] at this
        exact this
    simp only [if_neg g4]
    by_cases g5 : a2 = 5
    · simp only [if_pos g5]
      refine op_q hI (bwC (tcC (sl P 10)) (tcV P) 100) (ok_then (bestCouple_ok hV ho hP) fun x hx => ?_) (mend fun r t hm hq => ?_)
      · rw [which_ok vT hx.1, Option.bind_some]
        exact ok_some ⟨rfl, hC.sq hx.2⟩
      · rw [t, if_tt]
        unfold mm_lastWord_j91
        rw [if_neg (by omega)]
        unfold mm_lastWord_j103
        refine ok_then (teachOf_ok hV hm.mw) fun x hx => ok_some ⟨?_, hq.trans hx.2⟩
        have := hx.1
        rw [if_pos rfl] at this
        exact this
    simp only [if_neg g5]
    by_cases g6 : a2 = 6
    · simp only [if_pos g6]
      refine op_q hI (if bwC (tcC (sl P 10)) (tcV P) 100 = -1 then 0 else tcV P (bwC (tcC (sl P 10)) (tcV P) 100)) (ok_then (bestCouple_ok hV ho hP) fun x hx => ?_) (mend fun r t hm hq => ?_)
      · rw [howMuch_ok vT hx.1, Option.bind_some]
        exact ok_some ⟨rfl, hC.sq hx.2⟩
      · rw [t, if_tt]
        unfold mm_lastWord_j91
        rw [if_pos g6]
        unfold mm_lastWord_j103
        refine ok_then (teachOf_ok hV hm.mw) fun x hx => ok_some ⟨?_, hq.trans hx.2⟩
        have := hx.1
        rw [if_neg (by omega)] at this
        exact this
    simp only [if_neg g6]
    have h0 := hV.1
    refine op_q hI (stV P (blV P) a2) (ok_then (blame_ok hV hP) fun x hx => ok_some ⟨?_, hC.sq (Sq.ce ho hx.2)⟩) (mend fun r t hm hq => ?_)
    · show x.1 = _
      rw [hx.1]
      unfold stV
      by_cases hw : a2 < -2147483638
      · have e : w32 (a2 - 10) = a2 - 10 + 4294967296 := by unfold w32; omega
        rw [e, if_neg (by omega), if_neg (by omega)]
      · rw [w32_id (by omega) (by omega)]
        by_cases q : 0 ≤ a2 - 10 ∧ a2 - 10 < P 0
        · rw [if_pos q, if_pos (by omega)]
        · rw [if_neg q, if_neg (by omega)]
    · rw [t, if_tt, isIn_eq]
      unfold stV
      by_cases h3 : 10 ≤ a2 ∧ a2 ≤ 17
      · rw [decide_eq_true h3, if_tt, w32_id (by omega) (by omega), isPlace_ok hV hm.1, Option.bind_some]
        by_cases h4 : 0 ≤ a2 - 10 ∧ a2 - 10 < P 0
        · rw [decide_eq_true h4, if_tt, if_pos (by omega)]
          refine ok_then (mblame_ok hV hm) fun x hx => ok_gd (by omega) (by omega) (ok_some ⟨hx.1 _ (by omega) (by omega), hq.trans hx.2⟩)
        · rw [decide_eq_false h4, if_ff, if_neg (by omega)]
          exact ok_some ⟨rfl, hq⟩
      · rw [decide_eq_false h3, if_ff, if_neg (by omega)]
        exact ok_some ⟨rfl, hq⟩
  · refine op_q hI (-2) ?_ ?_
    · unfold cX_lastWord
      rw [paperAt_no hC hk, Option.bind_some, if_pos (by omega)]
      exact ok_some ⟨rfl, hC⟩
    · unfold mm_lastWord
      rw [isPaper_no hC.av hk, Option.bind_some, if_ff]
      exact ok_some ⟨rfl, rfl, rfl⟩
