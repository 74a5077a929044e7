-- bend, twice, words
def bd1 (f : Int → Int) (pl p : Int) : Int := b2i (!decide (f p = f (pl - 1 - p)))
def bds (f : Int → Int) (pl : Int) : Int := sm (bd1 f pl) (pl / 2).toNat
theorem bend_ok {G : Hp} {o : Int} {P : Int → Int} (hV : PaperV P) (hC : PaperC G o P) : cPa_bend o G = some (bds (sl P 2) (P 0)) := by
  apply ok_iff
  have h0 := hV.1
  unfold cPa_bend
  refine lp_up (fun n i (s : Int) => cPa_bend_L4 o G n s i) (P 0 / 2) (fun i s => s = sm (bd1 (sl P 2) (P 0)) i.toNat) ?_ ?_ (by omega) (by omega) (by omega) rfl
  · intro n i s i0 i1 hI ih
    show ok (cPa_bend_L4 o G (n + 1) s i) _
    have hs := sm_s (bd1 (sl P 2) (P 0)) i0
    have hb := sm_r (f := bd1 (sl P 2) (P 0)) (a := 0) (b := 1) (n := i.toNat) (fun j _ _ => b2i_b _)
    rw [cPa_bend_L4, hC.1.1, w32_id (z := P 0 - 1) (by omega) (by omega), w32_id (z := P 0 - 1 - i) (by omega) (by omega), if_pos (by omega), hC.2.1.2 i i0 (by omega), hC.2.1.2 _ (by omega) (by omega), w32_id (z := i + 1) (by omega) (by omega), hI]
    refine ok_ite (fun e => ?_) (fun e => ?_)
    · rw [w32_id (by omega) (by omega)]
      refine ih _ ?_
      rw [hs]
      unfold bd1
      rw [decide_eq_true e]
      rfl
    · rw [w32_id (by omega) (by omega)]
      refine ih _ ?_
      rw [hs]
      unfold bd1
      rw [decide_eq_false e]
      rfl
  · intro n s hI
    show ok (cPa_bend_L4 o G (n + 1) s (P 0 / 2)) _
    rw [cPa_bend_L4, hC.1.1, w32_id (z := P 0 - 1) (by omega) (by omega), w32_id (z := P 0 - 1 - P 0 / 2) (by omega) (by omega), if_neg (by omega)]
    exact ok_some hI
theorem mbend_ok {G : Hp} {b : Int} {P f : Int → Int} (hV : PaperV P) (hM : MS P b G) (hG : ∀ p, 0 ≤ p → p < 8 → G 207 p = f p) : mm_bendOf G = some (bds f (P 0)) := by
  apply ok_iff
  have h0 := hV.1
  unfold mm_bendOf
  refine lp_up (fun n i (s : Int) => mm_bendOf_L4 G n s i) (P 0 / 2) (fun i s => s = sm (bd1 f (P 0)) i.toNat) ?_ ?_ (by omega) (by omega) (by omega) rfl
  · intro n i s i0 i1 hI ih
    show ok (mm_bendOf_L4 G (n + 1) s i) _
    have hs := sm_s (bd1 f (P 0)) i0
    have hb := sm_r (f := bd1 f (P 0)) (a := 0) (b := 1) (n := i.toNat) (fun j _ _ => b2i_b _)
    rw [mm_bendOf_L4, hM.1.2.1, idiv_nn h0.1 (by omega) (by omega), if_pos i1, w32_id (z := P 0 - 1) (by omega) (by omega), w32_id (z := P 0 - 1 - i) (by omega) (by omega), gd_ok i0 (by omega), gd_ok (by omega) (by omega), hG i i0 (by omega), hG _ (by omega) (by omega), w32_id (z := i + 1) (by omega) (by omega), hI]
    refine ok_ite (fun e => ?_) (fun e => ?_)
    · rw [w32_id (by omega) (by omega)]
      refine ih _ ?_
      rw [hs]
      unfold bd1
      rw [decide_eq_true e]
      rfl
    · rw [w32_id (by omega) (by omega)]
      refine ih _ ?_
      rw [hs]
      unfold bd1
      rw [decide_eq_false e]
      rfl
  · intro n s hI
    show ok (mm_bendOf_L4 G (n + 1) s (P 0 / 2)) _
    rw [mm_bendOf_L4, hM.1.2.1, idiv_nn h0.1 (by omega) (by omega), if_neg (by omega)]
    exact ok_some hI
/-- how long two places go on alike -/
def alN (f : Int → Int) (pl a b : Int) : Int → Bool := fun n => !(decide (b + n < pl) && decide (f (a + n) = f (b + n)))
def alF (f : Int → Int) (pl a b : Int) : Int := fstB (alN f pl a b) 10
theorem alF_r {f : Int → Int} {pl a b : Int} (hb : 0 ≤ b) (hp : pl ≤ 8) : 0 ≤ alF f pl a b ∧ alF f pl a b < 10 := by
  have h1 := fstB_r (alN f pl a b) 10
  rcases fstB_cases (alN f pl a b) 10 with ⟨p, q⟩ | ⟨p, -⟩
  · have := q 9 (by omega) (by omega)
    unfold alN at this
    rw [decide_eq_false (show ¬ b + 9 < pl by omega)] at this
    cases this
  · unfold alF
    omega
theorem alike_ok {G : Hp} {o a b : Int} {P : Int → Int} (hV : PaperV P) (hC : PaperC G o P) (a0 : 0 ≤ a) (b0 : 0 ≤ b) (ab : a < b) (b1 : b < P 0) : cPa_alikeFrom o a b G = some (alF (sl P 2) (P 0) a b) := by
  apply ok_iff
  have h0 := hV.1
  unfold cPa_alikeFrom
  refine lp_up (fun n i (_ : Unit) => cPa_alikeFrom_L2 o a b G n i) 9 (fun i _ => ∀ j, 0 ≤ j → j < i → alN (sl P 2) (P 0) a b j = false) ?_ ?_ (by omega) (by omega) (by omega) (s := ()) (fun j j0 j1 => by omega)
  · intro n i s i0 i1 hI ih
    show ok (cPa_alikeFrom_L2 o a b G (n + 1) i) _
    rw [cPa_alikeFrom_L2, hC.1.1, w32_id (z := b + i) (by omega) (by omega), w32_id (z := a + i) (by omega) (by omega), w32_id (z := i + 1) (by omega) (by omega)]
    refine ok_ite (fun e => ?_) (fun e => ok_some ?_)
    · rw [hC.2.1.2 _ (by omega) (by omega), hC.2.1.2 _ (by omega) (by omega)]
      refine ok_ite (fun e2 => ih () fun j j0 j1 => ?_) (fun e2 => ok_some ?_)
      · by_cases hj : j = i
        · subst hj
          unfold alN
          rw [decide_eq_true e, decide_eq_true e2]
          rfl
        · exact hI j j0 (by omega)
      · symm
        refine fstB_eq i0 (by omega) ?_ hI
        unfold alN
        rw [decide_eq_false e2, Bool.and_false]
        rfl
    · symm
      refine fstB_eq i0 (by omega) ?_ hI
      unfold alN
      rw [decide_eq_false e]
      rfl
  · intro n s hI
    have := hI 8 (by omega) (by omega)
    unfold alN at this
    rw [decide_eq_false (show ¬ b + 8 < P 0 by omega)] at this
    cases this
def tw1 (f : Int → Int) (pl a : Int) : Int → Int := fun b => if a < b then alF f pl a b else 0
def twO (f : Int → Int) (pl : Int) : Int → Int := fun a => mxS (tw1 f pl a) pl.toNat
def twS (f : Int → Int) (pl : Int) : Int := mxS (twO f pl) pl.toNat
theorem tw1_r {f : Int → Int} {pl a b : Int} (hb : 0 ≤ b) (hp : pl ≤ 8) : tw1 f pl a b ≤ 10 := by
  unfold tw1
  have := alF_r (f := f) (a := a) hb hp
  split <;> omega
theorem tw1_0 {f : Int → Int} {pl a : Int} (n : Nat) (h : (n : Int) ≤ a + 1) : mxS (tw1 f pl a) n = 0 := mxS_0 n fun k k0 k1 => by unfold tw1; rw [if_neg (by omega)]
theorem twice_ok {G : Hp} {o : Int} {P : Int → Int} (hV : PaperV P) (hC : PaperC G o P) : cPa_twice o G = some (twS (sl P 2) (P 0)) := by
  apply ok_iff
  have h0 := hV.1
  unfold cPa_twice
  refine lp_up (fun n i (s : Int) => cPa_twice_L4 o G n s i) (P 0) (fun i s => s = mxS (twO (sl P 2) (P 0)) i.toNat) ?_ ?_ (by omega) (by omega) (by omega) rfl
  · intro n i s i0 i1 hI ih
    show ok (cPa_twice_L4 o G (n + 1) s i) _
    have hm := mxS_s (twO (sl P 2) (P 0)) i0
    have hb := mxS_r (g := twO (sl P 2) (P 0)) (B := 10) (by omega) i.toNat (fun k k0 k1 => (mxS_r (by omega) _ fun j j0 j1 => tw1_r j0 h0.2).2)
    rw [← hI] at hb hm
    rw [cPa_twice_L4, hC.1.1, if_pos i1, w32_id (z := i + 1) (by omega) (by omega)]
    refine lp_up (fun n2 j (x : Int) => cPa_twice_L16 o G i (fun x1_41 => cPa_twice_L4 o G n x1_41 (i + 1)) n2 x j) (P 0) (fun j x => i + 1 ≤ j ∧ x = max s (mxS (tw1 (sl P 2) (P 0) i) j.toNat)) ?_ ?_ (by omega) (by omega) (by omega) ⟨by omega, by rw [tw1_0 _ (by omega)]; omega⟩
    · intro n2 j x j0 j1 hx ih2
      obtain ⟨g0, g1⟩ := hx
      have hm2 := mxS_s (tw1 (sl P 2) (P 0) i) j0
      show ok (cPa_twice_L16 o G i _ (n2 + 1) x j) _
      rw [cPa_twice_L16, hC.1.1, if_pos j1, alike_ok hV hC i0 j0 (by omega) j1, Option.bind_some, w32_id (z := j + 1) (by omega) (by omega)]
      refine ih2 _ ⟨by omega, ?_⟩
      have e : tw1 (sl P 2) (P 0) i j = alF (sl P 2) (P 0) i j := if_pos (by omega)
      rw [hm2, e, g1]
      omega
    · intro n2 x hx
      show ok (cPa_twice_L16 o G i _ (n2 + 1) x (P 0)) _
      rw [cPa_twice_L16, hC.1.1, if_neg (by omega)]
      refine ih _ ?_
      rw [hm, hx.2]
      rfl
  · intro n s hI
    show ok (cPa_twice_L4 o G (n + 1) s (P 0)) _
    rw [cPa_twice_L4, hC.1.1, if_neg (by omega)]
    exact ok_some hI
theorem mtwice_ok {G : Hp} {b : Int} {P f : Int → Int} (hV : PaperV P) (hM : MS P b G) (hG : ∀ p, 0 ≤ p → p < 8 → G 207 p = f p) : mm_twiceOf G = some (twS f (P 0)) := by
  apply ok_iff
  have h0 := hV.1
  unfold mm_twiceOf
  refine lp_up (fun n i (s : Int) => mm_twiceOf_L4 G n s i) (P 0) (fun i s => s = mxS (twO f (P 0)) i.toNat) ?_ ?_ (by omega) (by omega) (by omega) rfl
  · intro n i s i0 i1 hI ih
    show ok (mm_twiceOf_L4 G (n + 1) s i) _
    have hm := mxS_s (twO f (P 0)) i0
    have hb := mxS_r (g := twO f (P 0)) (B := 10) (by omega) i.toNat (fun k k0 k1 => (mxS_r (by omega) _ fun j j0 j1 => tw1_r j0 h0.2).2)
    rw [← hI] at hb hm
    rw [mm_twiceOf_L4, hM.1.2.1, if_pos i1, w32_id (z := i + 1) (by omega) (by omega)]
    refine lp_up (fun n2 j (x : Int) => mm_twiceOf_L16 G i (fun x1_84 => mm_twiceOf_L4 G n x1_84 (i + 1)) n2 x j) (P 0) (fun j x => i + 1 ≤ j ∧ x = max s (mxS (tw1 f (P 0) i) j.toNat)) ?_ ?_ (by omega) (by omega) (by omega) ⟨by omega, by rw [tw1_0 _ (by omega)]; omega⟩
    · intro n2 j x j0 j1 hx ih2
      obtain ⟨g0, g1⟩ := hx
      have hm2 := mxS_s (tw1 f (P 0) i) j0
      have e : tw1 f (P 0) i j = alF f (P 0) i j := if_pos (by omega)
      show ok (mm_twiceOf_L16 G i _ (n2 + 1) x j) _
      rw [mm_twiceOf_L16, hM.1.2.1, if_pos j1, w32_id (z := j + 1) (by omega) (by omega)]
      have fin : ∀ v : Int, v = alF f (P 0) i j → ok (if x < v then mm_twiceOf_L16 G i (fun x1_84 => mm_twiceOf_L4 G n x1_84 (i + 1)) n2 v (j + 1) else mm_twiceOf_L16 G i (fun x1_84 => mm_twiceOf_L4 G n x1_84 (i + 1)) n2 x (j + 1)) (fun v => v = twS f (P 0)) := by
        intro v hv
        refine ok_ite (fun e2 => ih2 _ ⟨by omega, ?_⟩) (fun e2 => ih2 _ ⟨by omega, ?_⟩)
        · rw [hm2, e]
          omega
        · rw [hm2, e]
          omega
      refine lp_up (fun n3 m (_ : Unit) => mm_twiceOf_L27 G x i j (fun x4_65 => if x < x4_65 then mm_twiceOf_L16 G i (fun x1_84 => mm_twiceOf_L4 G n x1_84 (i + 1)) n2 x4_65 (j + 1) else mm_twiceOf_L16 G i (fun x1_84 => mm_twiceOf_L4 G n x1_84 (i + 1)) n2 x (j + 1)) n3 m) 9 (fun m _ => ∀ q, 0 ≤ q → q < m → alN f (P 0) i j q = false) ?_ ?_ (by omega) (by omega) (by omega) (s := ()) (fun q q0 q1 => by omega)
      · intro n3 m u m0 m1 hq ih3
        show ok (mm_twiceOf_L27 G x i j _ (n3 + 1) m) _
        rw [mm_twiceOf_L27, hM.1.2.1, w32_id (z := j + m) (by omega) (by omega), w32_id (z := i + m) (by omega) (by omega), w32_id (z := m + 1) (by omega) (by omega)]
        refine ok_ite (fun e2 => ?_) (fun e2 => fin _ ?_)
        · rw [gd_ok (by omega) (by omega), gd_ok (by omega) (by omega), hG _ (by omega) (by omega), hG _ (by omega) (by omega)]
          refine ok_ite (fun e3 => ih3 () fun q q0 q1 => ?_) (fun e3 => fin _ ?_)
          · by_cases hqm : q = m
            · subst hqm
              unfold alN
              rw [decide_eq_true e2, decide_eq_true e3]
              rfl
            · exact hq q q0 (by omega)
          · symm
            refine fstB_eq m0 (by omega) ?_ hq
            unfold alN
            rw [decide_eq_false e3, Bool.and_false]
            rfl
        · symm
          refine fstB_eq m0 (by omega) ?_ hq
          unfold alN
          rw [decide_eq_false e2]
          rfl
      · intro n3 u hq
        have := hq 8 (by omega) (by omega)
        unfold alN at this
        rw [decide_eq_false (show ¬ j + 8 < P 0 by omega)] at this
        cases this
    · intro n2 x hx
      show ok (mm_twiceOf_L16 G i _ (n2 + 1) x (P 0)) _
      rw [mm_twiceOf_L16, hM.1.2.1, if_neg (by omega)]
      refine ih _ ?_
      rw [hm, hx.2]
      rfl
  · intro n s hI
    show ok (mm_twiceOf_L4 G (n + 1) s (P 0)) _
    rw [mm_twiceOf_L4, hM.1.2.1, if_neg (by omega)]
    exact ok_some hI
/-- how often a word stands -/
def cf1 (f : Int → Int) (w : Int) : Int → Int := fun p => b2i (decide (f p = w))
def cf (f : Int → Int) (pl w : Int) : Int := sm (cf1 f w) pl.toNat
theorem cf_r (f : Int → Int) {pl : Int} (w : Int) (h0 : 0 ≤ pl) (h1 : pl ≤ 8) : 0 ≤ cf f pl w ∧ cf f pl w ≤ 8 := by
  have := sm_r (f := cf1 f w) (a := 0) (b := 1) (n := pl.toNat) (fun j _ _ => b2i_b _)
  unfold cf
  omega
theorem countWords_ok {G : Hp} {o : Int} {P : Int → Int} (hV : PaperV P) (ho : o = 7 ∨ o = 22) (hC : PaperC G o P) : ok (cX_countWords o G) (fun G' => (∀ w, 0 ≤ w → w < 10 → G' 91 w = cf (sl P 2) (P 0) w) ∧ ∀ a j, a ≠ 91 → G' a j = G a j) := by
  have h0 := hV.1
  unfold cX_countWords
  refine ok_then clearRow_ok fun G1 hG1 => ?_
  refine lp_up (fun n i (s : Hp) => cX_countWords_L6 o n i s) (P 0) (fun i s => (∀ w, 0 ≤ w → w < 10 → s 91 w = sm (cf1 (sl P 2) w) i.toNat) ∧ ∀ a j, a ≠ 91 → s a j = G a j) ?_ ?_ (by omega) (by omega) (by omega) hG1
  · intro n i s i0 i1 hI ih
    have hC1 := hC.sq ho (sq91 hI.2)
    have hf := hV.pv i i0 (by omega)
    have hb := fun w => sm_r (f := cf1 (sl P 2) w) (a := 0) (b := 1) (n := i.toNat) (fun j _ _ => b2i_b _)
    have hb2 := hb (sl P 2 i)
    show ok (cX_countWords_L6 o (n + 1) i s) _
    rw [cX_countWords_L6, hC1.1.1, if_pos i1, hC1.2.1.2 i i0 (by omega), if_pos hf.2, hI.1 _ hf.1 hf.2, w32_id (z := i + 1) (by omega) (by omega), w32_id (by omega) (by omega)]
    refine ok_gd hf.1 hf.2 (ok_gd hf.1 hf.2 (ih _ ⟨fun w w0 w1 => ?_, fun a j x => ?_⟩))
    · rw [sm_s _ i0]
      by_cases hw : w = sl P 2 i
      · rw [upd2_e rfl hw, hw]
        unfold cf1
        rw [decide_eq_true rfl]
        rfl
      · rw [upd2_o (by omega), hI.1 w w0 w1]
        unfold cf1
        rw [decide_eq_false (fun z => hw z.symm)]
        show _ = _ + 0
        omega
    · rw [upd2_o (by omega)]
      exact hI.2 a j x
  · intro n s hI
    have hC1 := hC.sq ho (sq91 hI.2)
    show ok (cX_countWords_L6 o (n + 1) (P 0) s) _
    rw [cX_countWords_L6, hC1.1.1, if_neg (by omega)]
    exact ok_some hI
def ulB (f : Int → Int) (pl : Int) : Int → Int := fun w => b2i (decide (0 < cf f pl w))
theorem unlikeWords_ok {G : Hp} {o : Int} {P : Int → Int} (hV : PaperV P) (ho : o = 7 ∨ o = 22) (hC : PaperC G o P) : ok (cX_unlikeWords o G) (fun x => x.1 = sm (ulB (sl P 2) (P 0)) 10 ∧ ∀ a j, a ≠ 91 → x.2 a j = G a j) := by
  unfold cX_unlikeWords
  refine ok_then (countWords_ok hV ho hC) fun G1 hG1 => ?_
  refine lp_up (fun n i (s : Int) => cX_unlikeWords_L9 o G1 n s i) 10 (fun i s => s = sm (ulB (sl P 2) (P 0)) i.toNat) ?_ ?_ (by omega) (by omega) (by omega) rfl
  · intro n i s i0 i1 hI ih
    have hb := sm_r (f := ulB (sl P 2) (P 0)) (a := 0) (b := 1) (n := i.toNat) (fun j _ _ => b2i_b _)
    have hs := sm_s (ulB (sl P 2) (P 0)) i0
    show ok (cX_unlikeWords_L9 o G1 (n + 1) s i) _
    rw [cX_unlikeWords_L9, if_pos i1, gd_ok i0 i1, hG1.1 i i0 i1, w32_id (z := i + 1) (by omega) (by omega), hI]
    refine ok_ite (fun e => ?_) (fun e => ?_)
    · rw [w32_id (by omega) (by omega)]
      refine ih _ ?_
      rw [hs]
      unfold ulB
      rw [decide_eq_true e]
      rfl
    · rw [w32_id (by omega) (by omega)]
      refine ih _ ?_
      rw [hs]
      unfold ulB
      rw [decide_eq_false e]
      rfl
  · intro n s hI
    show ok (cX_unlikeWords_L9 o G1 (n + 1) s 10) _
    rw [cX_unlikeWords_L9, if_neg (by omega)]
    exact ok_some ⟨hI, hG1.2⟩
theorem stands1_ok {G : Hp} {b w : Int} {P f : Int → Int} (hV : PaperV P) (hM : MS P b G) (hG : ∀ p, 0 ≤ p → p < 8 → G 207 p = f p) : mm_standsAt w G = some (cf f (P 0) w) := by
  apply ok_iff
  have h0 := hV.1
  unfold mm_standsAt
  refine lp_up (fun n i (s : Int) => mm_standsAt_L4 w G n s i) (P 0) (fun i s => s = sm (cf1 f w) i.toNat) ?_ ?_ (by omega) (by omega) (by omega) rfl
  · intro n i s i0 i1 hI ih
    have hb := sm_r (f := cf1 f w) (a := 0) (b := 1) (n := i.toNat) (fun j _ _ => b2i_b _)
    have hs := sm_s (cf1 f w) i0
    show ok (mm_standsAt_L4 w G (n + 1) s i) _
    rw [mm_standsAt_L4, hM.1.2.1, if_pos i1, gd_ok i0 (by omega), hG i i0 (by omega), w32_id (z := i + 1) (by omega) (by omega), hI]
    refine ok_ite (fun e => ?_) (fun e => ?_)
    · rw [w32_id (by omega) (by omega)]
      refine ih _ ?_
      rw [hs]
      unfold cf1
      rw [decide_eq_true e]
      rfl
    · rw [w32_id (by omega) (by omega)]
      refine ih _ ?_
      rw [hs]
      unfold cf1
      rw [decide_eq_false e]
      rfl
  · intro n s hI
    show ok (mm_standsAt_L4 w G (n + 1) s (P 0)) _
    rw [mm_standsAt_L4, hM.1.2.1, if_neg (by omega)]
    exact ok_some hI
theorem wordsOf_ok {G : Hp} {b is : Int} {P f : Int → Int} (hV : PaperV P) (hM : MS P b G) (hG : ∀ p, 0 ≤ p → p < 8 → G 207 p = f p) : mm_wordsOf is G = some (if is = 0 then sm (ulB f (P 0)) 10 else mst (cf f (P 0)) 10) := by
  apply ok_iff
  have h0 := hV.1
  unfold mm_wordsOf
  refine lp_up (fun n i (s : Int × Int) => mm_wordsOf_L7 is G (fun x2_63 x3_63 => if is = 0 then some x2_63 else some x3_63) n s.1 s.2 i) 10 (fun i s => s.1 = sm (ulB f (P 0)) i.toNat ∧ s.2 = mst (cf f (P 0)) i.toNat) ?_ ?_ (by omega) (by omega) (by omega) (s := (0, -1)) ⟨rfl, rfl⟩
  · intro n i s i0 i1 hI ih
    obtain ⟨x, y⟩ := s
    obtain ⟨e1, e2⟩ := hI
    simp only at e1 e2
    have hb := sm_r (f := ulB f (P 0)) (a := 0) (b := 1) (n := i.toNat) (fun j _ _ => b2i_b _)
    have hs := sm_s (ulB f (P 0)) i0
    have hs2 := mst_s (cf f (P 0)) i0
    have hr := mst_r (cf f (P 0)) i.toNat
    rw [← e2] at hs2 hr
    have key : ∀ v : Int, v = ulB f (P 0) i → ok (mm_wordsOf_j29 is G (mm_wordsOf_L7 is G (fun x2_63 x3_63 => if is = 0 then some x2_63 else some x3_63) n) y i v x) (fun r => r = if is = 0 then sm (ulB f (P 0)) 10 else mst (cf f (P 0)) 10) := by
      intro v hv
      have hv1 : 0 ≤ v ∧ v ≤ 1 := by rw [hv]; exact b2i_b _
      unfold mm_wordsOf_j29 mm_wordsOf_j51
      rw [stands1_ok hV hM hG, stands1_ok hV hM hG, Option.bind_some, Option.bind_some, w32_id (z := x + v) (by omega) (by omega), w32_id (z := i + 1) (by omega) (by omega)]
      have hx : x + v = sm (ulB f (P 0)) (i + 1).toNat := by rw [hs, e1, hv]
      refine ok_ite (fun e => ok_ite (fun e3 => ih (_, _) ⟨hx, ?_⟩) (fun e3 => ih (_, _) ⟨hx, ?_⟩)) (fun e => ok_ite (fun e3 => ih (_, _) ⟨hx, ?_⟩) (fun e3 => ih (_, _) ⟨hx, ?_⟩))
      · show i = _
        rw [hs2, if_pos ⟨e3, Or.inl e⟩]
      · show y = _
        rw [hs2, if_neg (fun z => e3 z.1)]
      · show i = _
        have : 0 < cf f (P 0) i := by
          rcases hr with q | q
          · exact absurd q e
          · omega
        rw [hs2, if_pos ⟨this, Or.inr e3⟩]
      · show y = _
        rw [hs2, if_neg (fun z => z.2.elim e e3)]
    show ok (mm_wordsOf_L7 is G _ (n + 1) x y i) _
    rw [mm_wordsOf_L7, if_pos i1, stands1_ok hV hM hG, Option.bind_some]
    refine ok_ite (fun e => key 1 ?_) (fun e => key 0 ?_)
    · unfold ulB
      rw [decide_eq_true e]
      rfl
    · unfold ulB
      rw [decide_eq_false e]
      rfl
  · intro n s hI
    obtain ⟨x, y⟩ := s
    obtain ⟨e1, e2⟩ := hI
    show ok (mm_wordsOf_L7 is G _ (n + 1) x y 10) _
    rw [mm_wordsOf_L7, if_neg (by omega)]
    refine ok_ite (fun e => ok_some ?_) (fun e => ok_some ?_)
    · rw [if_pos e]
      exact e1
    · rw [if_neg e]
      exact e2
theorem op26 : Op26 Inv := by
  intro Gc Gm hI a1 a2 r1 r2
  unfold r32 at r2
  have hC : CInv Gc (Gm 202) (Gm 203) := hI
  by_cases hk : 0 ≤ a1 ∧ a1 < Gm 202 0
  · obtain ⟨hp, hk2⟩ := paperAt_yes hC hk.1 hk.2
    obtain ⟨hV, hP⟩ := hC.paper hk2
    have hyes := isPaper_yes hC.av hk.1 hk.2
    generalize ct 80 (Gm 202) (pb a1) = P at *
    have ho := o_or hk2
    generalize 7 + 15 * a1 = o at *
    have o0 : ¬ o < 0 := by omega
    unfold cX_rise mm_rise
    simp only [hp, Option.bind_some, if_neg o0]
    have mend : ∀ {F : Bool × Hp → Option (Int × Hp)} {v : Int}, (∀ r : Bool × Hp, r.1 = true → MS P (pb a1) r.2 → (∀ p, 0 ≤ p → p < 8 → r.2 207 p = sl P 2 p) → Mq Gm r.2 → ok (F r) (fun y => y.1 = v ∧ Mq Gm y.2)) → ok ((mm_isPaper a1 Gm).bind F) (fun y => y.1 = v ∧ y.2 202 = Gm 202 ∧ y.2 203 = Gm 203) := fun h => ok_then hyes fun r hr => h r hr.1 hr.2.1.1 (fun p p0 p1 => (hr.2.1.2.2.1 p p0 p1).1) ⟨hr.2.2.1, hr.2.2.2⟩
    by_cases g0 : a2 = 0
    · simp only [if_pos g0]
      refine op_q hI (rsT (sl P 2) (P 0)) (ok_then (longestRise_ok hV ho hP) fun x hx => ok_some ⟨hx.1, hC.sq (sq91 hx.2.2)⟩) (mend fun r t hm hw hq => ?_)
      rw [t, if_tt]
      exact ok_then (laysRise_ok hV hm hw) fun x hx => ok_some ⟨hx.1, hq.trans (Mq.fr fun j => ⟨hx.2.2 _ _ (by omega), hx.2.2 _ _ (by omega)⟩)⟩
    simp only [if_neg g0]
    by_cases g1 : a2 = 1
    · simp only [if_pos g1]
      refine op_q hI (bds (sl P 2) (P 0)) ?_ (mend fun r t hm hw hq => ?_)
      · rw [bend_ok hV hP, Option.bind_some]
        exact ok_some ⟨rfl, hC⟩
      · rw [t, if_tt, mbend_ok hV hm hw, Option.bind_some]
        exact ok_some ⟨rfl, hq⟩
    simp only [if_neg g1]
    by_cases g2 : a2 = 2
    · simp only [if_pos g2]
      refine op_q hI (twS (sl P 2) (P 0)) ?_ (mend fun r t hm hw hq => ?_)
      · rw [twice_ok hV hP, Option.bind_some]
        exact ok_some ⟨rfl, hC⟩
      · rw [t, if_tt, mtwice_ok hV hm hw, Option.bind_some]
        exact ok_some ⟨rfl, hq⟩
    simp only [if_neg g2]
    by_cases g3 : a2 = 3
    · simp only [if_pos g3]
      refine op_q hI (sm (ulB (sl P 2) (P 0)) 10) (ok_then (unlikeWords_ok hV ho hP) fun x hx => ok_some ⟨hx.1, hC.sq (sq91 hx.2)⟩) (mend fun r t hm hw hq => ?_)
      rw [t, if_tt]
      unfold mm_rise_j63
      rw [if_neg (by omega)]
      unfold mm_rise_j74
      rw [wordsOf_ok hV hm hw, Option.bind_some, if_pos rfl]
      exact ok_some ⟨rfl, hq⟩
    simp only [if_neg g3]
    by_cases g4 : a2 = 4
    · simp only [if_pos g4]
      refine op_q hI (mst (cf (sl P 2) (P 0)) 10) ?_ (mend fun r t hm hw hq => ?_)
      · unfold cX_commonWord
        obtain ⟨x, hx1, hx2⟩ := countWords_ok hV ho hP
        rw [hx1, Option.bind_some, mostOfRow_ok hx2.1, Option.bind_some, Option.bind_some]
        exact ok_some ⟨rfl, hC.sq (sq91 hx2.2)⟩
      · rw [t, if_tt]
        unfold mm_rise_j63
        rw [if_pos g4]
        unfold mm_rise_j74
        rw [wordsOf_ok hV hm hw, Option.bind_some, if_neg (by omega)]
        exact ok_some ⟨rfl, hq⟩
    simp only [if_neg g4]
    have hT := rsT_r (f := sl P 2) hV.1.1
    have h8 := hV.1.2
    refine op_q hI (if 0 ≤ a2 - 10 ∧ a2 - 10 < rsT (sl P 2) (P 0) then rsP (sl P 2) (P 0) (a2 - 10).toNat else -2) (ok_then (riseAt_ok hV ho hP) fun x hx => ok_some ⟨?_, hC.sq (sq91 hx.2)⟩) (mend fun r t hm hw hq => ?_)
    · show x.1 = _
      rw [hx.1]
      by_cases hw : a2 < -2147483638
      · have e : w32 (a2 - 10) = a2 - 10 + 4294967296 := by unfold w32; omega
        rw [e, if_neg (by omega), if_neg (by omega)]
      · rw [w32_id (by omega) (by omega)]
    · rw [t, if_tt]
      refine ok_ite (fun e => ok_some ⟨?_, hq⟩) (fun e => ?_)
      · rw [if_neg (by omega)]
      · rw [w32_id (by omega) (by omega)]
        exact ok_then (mriseAt_ok hV hm hw (by omega)) fun x hx => ok_some ⟨hx.1, hq.trans hx.2⟩
  · refine op_q hI (-2) ?_ ?_
    · unfold cX_rise
      rw [paperAt_no hC hk, Option.bind_some, if_pos (by omega)]
      exact ok_some ⟨rfl, hC⟩
    · unfold mm_rise
      rw [isPaper_no hC.av hk, Option.bind_some, if_ff]
      exact ok_some ⟨rfl, rfl, rfl⟩
