-- steps together, rivals, peace
theorem dst2_r (N : Int → Int) (f t : Int) : -1 ≤ dst2 N f t ∧ dst2 N f t < 10 := by
  unfold dst2
  split
  · exact dst_r N f t
  · omega
theorem dst2_in {N : Int → Int} {f t : Int} (f0 : 0 ≤ f) (f1 : f < 10) (t0 : 0 ≤ t) (t1 : t < 10) : dst2 N f t = dst N f t := if_pos ⟨f0, f1, t0, t1⟩
theorem dst2_10 (N : Int → Int) (f : Int) : dst2 N f 10 = -1 := if_neg (by omega)
/-- STEPS to what one wants, 10 where none lead -/
def stA1 (P : Int → Int) (w p r : Int) : Int := if P (32 + 8 * r + p) = 10 then 0 else if dst2 (sl P 10) w (P (32 + 8 * r + p)) = -1 then 10 else dst2 (sl P 10) w (P (32 + 8 * r + p))
def stA (P : Int → Int) (w p : Int) : Int := sm (stA1 P w p) (P 1).toNat
theorem stA1_r (P : Int → Int) (w p r : Int) : 0 ≤ stA1 P w p r ∧ stA1 P w p r ≤ 10 := by
  unfold stA1
  have := dst2_r (sl P 10) w (P (32 + 8 * r + p))
  split
  · omega
  · split <;> omega
theorem stepsToAll_ok {G : Hp} {o w p : Int} {P : Int → Int} (hV : PaperV P) (hC : PaperC G o P) (p0 : 0 ≤ p) (p1 : p < 8) : ok (cPa_stepsToAll o w p G) (fun r => r.1 = stA P w p ∧ CE (o + 1) G r.2) := by
  unfold cPa_stepsToAll
  have h1 := hV.2.1
  refine lp_up (fun n i (s : Int × Hp) => cPa_stepsToAll_L5 o w p n s.1 i s.2) (P 1) (fun i s => s.1 = sm (stA1 P w p) i.toNat ∧ CE (o + 1) G s.2) ?_ ?_ (by omega) (by omega) (by omega) (s := (0, G)) ⟨rfl, CE.refl hC.2.2.1⟩
  · intro n i s i0 i1 hI ih
    obtain ⟨x, G1⟩ := s
    obtain ⟨e1, e2⟩ := hI
    simp only at e1 e2
    have hC1 := hC.ce e2
    have hb := sm_r (f := stA1 P w p) (a := 0) (b := 10) (n := i.toNat) (fun j _ _ => stA1_r P w p j)
    have hs := sm_s (stA1 P w p) i0
    show ok (cPa_stepsToAll_L5 o w p (n + 1) x i G1) _
    rw [cPa_stepsToAll_L5, hC1.1.2, if_pos i1, wish_ok hC1 i0 (by omega) p0 p1, Option.bind_some, w32_id (z := i + 1) (by omega) (by omega)]
    refine ok_ite (fun e => ih (x, G1) ⟨?_, e2⟩) (fun e => ok_then (between_N hC1.2.2.1 hC1.nb) fun y hy => ?_)
    · show x = _
      rw [hs, e1]
      unfold stA1
      rw [if_pos e]
      omega
    · rw [hy.1]
      have hd := dst2_r (sl P 10) w (P (32 + 8 * i + p))
      refine ok_ite (fun e3 => ?_) (fun e3 => ?_)
      · rw [w32_id (by omega) (by omega)]
        refine ih (x + 10, y.2) ⟨?_, e2.trans hy.2⟩
        show x + 10 = _
        rw [hs, e1]
        unfold stA1
        rw [if_neg e, if_pos e3]
      · rw [w32_id (by omega) (by omega)]
        refine ih (_, y.2) ⟨?_, e2.trans hy.2⟩
        show x + _ = _
        rw [hs, e1]
        unfold stA1
        rw [if_neg e, if_neg e3]
  · intro n s hI
    obtain ⟨x, G1⟩ := s
    have hC1 := hC.ce hI.2
    show ok (cPa_stepsToAll_L5 o w p (n + 1) x (P 1) G1) _
    rw [cPa_stepsToAll_L5, show G1 o 2 = P 1 from hC1.1.2, if_neg (by omega)]
    exact ok_some hI
theorem together_ok {G : Hp} {b w p : Int} {P : Int → Int} (hV : PaperV P) (hM : MS P b G) (hN : MN (sl P 10) G) (w0 : 0 ≤ w) (w1 : w < 10) (p0 : 0 ≤ p) (p1 : p < 8) : mm_togetherFrom w p G = some (stA P w p) := by
  apply ok_iff
  unfold mm_togetherFrom
  have h1 := hV.2.1
  refine lp_up (fun n i (s : Int) => mm_togetherFrom_L5 w p G n s i) (P 1) (fun i s => s = sm (stA1 P w p) i.toNat) ?_ ?_ (by omega) (by omega) (by omega) rfl
  · intro n i x i0 i1 e1 ih
    have hb := sm_r (f := stA1 P w p) (a := 0) (b := 10) (n := i.toNat) (fun j _ _ => stA1_r P w p j)
    have hs := sm_s (stA1 P w p) i0
    have hw := hV.2.2.2.2.2 i p i0 (by omega) p0 p1
    show ok (mm_togetherFrom_L5 w p G (n + 1) x i) _
    rw [mm_togetherFrom_L5, hM.1.2.2, if_pos i1, want_ok hM i0 (by omega) p0 p1, Option.bind_some, Option.bind_some, w32_id (z := i + 1) (by omega) (by omega)]
    refine ok_ite (fun e => ih x ?_) (fun e => ?_)
    · rw [hs, e1]
      unfold stA1
      rw [if_pos e]
      omega
    · have hd := dst_r (sl P 10) w (P (32 + 8 * i + p))
      rw [w32_id (z := 10 * w) (by omega) (by omega), w32_id (z := 10 * w + P (32 + 8 * i + p)) (by omega) (by omega), hN.2.2 w _ w0 w1 hw.1 (by omega)]
      refine ok_gd (by omega) (by omega) (ok_ite (fun e3 => ?_) (fun e3 => ?_))
      · rw [w32_id (by omega) (by omega)]
        refine ih _ ?_
        rw [hs, e1]
        unfold stA1
        rw [if_neg e, dst2_in w0 w1 hw.1 (by omega), if_pos e3]
      · rw [w32_id (by omega) (by omega)]
        refine ih _ ?_
        rw [hs, e1]
        unfold stA1
        rw [if_neg e, dst2_in w0 w1 hw.1 (by omega), if_neg e3]
  · intro n x hI
    show ok (mm_togetherFrom_L5 w p G (n + 1) x (P 1)) _
    rw [mm_togetherFrom_L5, hM.1.2.2, if_neg (by omega)]
    exact ok_some hI
/-- the least of those with the least number -/
def mnI (c : Int → Int) : Nat → Int
  | 0 => 0
  | n + 1 => if c ((n : Int) + 1) < c (mnI c n) then (n : Int) + 1 else mnI c n
theorem mnI_s (c : Int → Int) {i : Int} (h : 1 ≤ i) : mnI c (i + 1 - 1).toNat = if c i < c (mnI c (i - 1).toNat) then i else mnI c (i - 1).toNat := by
  have e : (i + 1 - 1).toNat = (i - 1).toNat + 1 := by omega
  have e2 : (((i - 1).toNat : Nat) : Int) + 1 = i := by omega
  rw [e]
  show (if c ((((i - 1).toNat : Nat) : Int) + 1) < c (mnI c (i - 1).toNat) then (((i - 1).toNat : Nat) : Int) + 1 else mnI c (i - 1).toNat) = _
  rw [e2]
theorem mnI_r (c : Int → Int) : ∀ n : Nat, 0 ≤ mnI c n ∧ mnI c n ≤ n
  | 0 => ⟨Int.le_refl 0, Int.le_refl 0⟩
  | n + 1 => by
    have ih := mnI_r c n
    unfold mnI
    split <;> omega
theorem op25 : Op25 Inv := by
  intro Gc Gm hI a1 a2 a3 r1 r2 r3
  have hC : CInv Gc (Gm 202) (Gm 203) := hI
  by_cases hk : 0 ≤ a1 ∧ a1 < Gm 202 0
  · obtain ⟨hp, hk2⟩ := paperAt_yes hC hk.1 hk.2
    obtain ⟨hV, hP⟩ := hC.paper hk2
    have hyes := isPaper_yes hC.av hk.1 hk.2
    generalize ct 80 (Gm 202) (pb a1) = P at *
    have h0 := hV.1
    have h1 := hV.2.1
    have ho := o_or hk2
    generalize 7 + 15 * a1 = o at *
    have o0 : ¬ o < 0 := by omega
    by_cases hr : 0 ≤ a2 ∧ a2 < P 0
    · refine op_q hI (if a3 = 0 then mnI (fun w => stA P w a2) 9 else stA P (mnI (fun w => stA P w a2) 9) a2) ?_ ?_
      · unfold cX_median
        rw [hp, Option.bind_some, if_neg o0, if_neg (by omega), hP.1.1, if_neg (by omega)]
        refine ok_then (stepsToAll_ok hV hP hr.1 (by omega)) fun x hx => ?_
        refine lp_up (fun n i (s : Int × Int × Hp) => cX_median_L42 a1 a2 a3 o (fun x5_80 x6_80 G_80 => if a3 = 0 then some (x5_80, G_80) else some (x6_80, G_80)) n s.1 s.2.1 i s.2.2) 10 (fun i s => 1 ≤ i ∧ s.1 = mnI (fun w => stA P w a2) (i - 1).toNat ∧ s.2.1 = stA P s.1 a2 ∧ CE (o + 1) Gc s.2.2) ?_ ?_ (by omega) (by omega) (by omega) (s := (0, x.1, x.2)) ⟨by omega, rfl, hx.1, hx.2⟩
        · intro n i s i0 i1 hI2 ih
          obtain ⟨best, least, G1⟩ := s
          obtain ⟨e0, e1, e2, e3⟩ := hI2
          simp only at e1 e2 e3
          have hs := mnI_s (fun w => stA P w a2) e0
          rw [← e1] at hs
          show ok (cX_median_L42 a1 a2 a3 o _ (n + 1) best least i G1) _
          rw [cX_median_L42, if_pos i1, w32_id (by omega) (by omega)]
          refine ok_then (stepsToAll_ok hV (hP.ce e3) hr.1 (by omega)) fun y hy => ?_
          rw [hy.1, e2]
          refine ok_ite (fun e => ih (i, _, y.2) ⟨by omega, ?_, rfl, e3.trans hy.2⟩) (fun e => ih (best, _, y.2) ⟨by omega, ?_, rfl, e3.trans hy.2⟩)
          · show i = _
            rw [hs, if_pos e]
          · show best = _
            rw [hs, if_neg e]
        · intro n s hI2
          obtain ⟨best, least, G1⟩ := s
          obtain ⟨e0, e1, e2, e3⟩ := hI2
          simp only at e1 e2 e3
          show ok (cX_median_L42 a1 a2 a3 o _ (n + 1) best least 10 G1) _
          rw [cX_median_L42, if_neg (by omega)]
          have e1' : best = mnI (fun w => stA P w a2) 9 := e1
          have hC2 := hC.sq (Sq.ce ho e3)
          refine ok_ite (fun e => ok_some ⟨?_, hC2⟩) (fun e => ok_some ⟨?_, hC2⟩)
          · rw [if_pos e]
            exact e1'
          · rw [if_neg e, ← e1']
            exact e2
      · unfold mm_median
        refine ok_then hyes fun r hr2 => ?_
        obtain ⟨e1, e2, e3, e4⟩ := hr2
        have hM := e2.1
        have hN := e2.2.1
        rw [e1, if_tt, isPlace_ok hV hM, Option.bind_some, decide_eq_true hr, if_tt]
        refine lp_up (fun n i (s : Int) => mm_median_L24 a1 a2 a3 r.2 (fun x4_63 => if a3 = 0 then some (x4_63, r.2) else ((mm_togetherFrom x4_63 a2 r.2).bind fun v71 => some (v71, r.2))) n s i) 10 (fun i s => 1 ≤ i ∧ s = mnI (fun w => stA P w a2) (i - 1).toNat) ?_ ?_ (by omega) (by omega) (by omega) ⟨by omega, rfl⟩
        · intro n i s i0 i1 hI2 ih
          obtain ⟨f0, f1⟩ := hI2
          have hs := mnI_s (fun w => stA P w a2) f0
          have hr3 := mnI_r (fun w => stA P w a2) (i - 1).toNat
          rw [← f1] at hs hr3
          show ok (mm_median_L24 a1 a2 a3 r.2 _ (n + 1) s i) _
          rw [mm_median_L24, if_pos i1, w32_id (by omega) (by omega), together_ok hV hM hN i0 i1 hr.1 (by omega), together_ok hV hM hN (by omega) (by omega) hr.1 (by omega), Option.bind_some, Option.bind_some]
          refine ok_ite (fun e => ih _ ⟨by omega, ?_⟩) (fun e => ih _ ⟨by omega, ?_⟩)
          · rw [hs, if_pos e]
          · rw [hs, if_neg e]
        · intro n s hI2
          obtain ⟨f0, f1⟩ := hI2
          have f1' : s = mnI (fun w => stA P w a2) 9 := f1
          have hr3 := mnI_r (fun w => stA P w a2) 9
          show ok (mm_median_L24 a1 a2 a3 r.2 _ (n + 1) s 10) _
          rw [mm_median_L24, if_neg (by omega), together_ok hV hM hN (by omega) (by omega) hr.1 (by omega), Option.bind_some]
          refine ok_ite (fun e => ok_some ⟨?_, e3, e4⟩) (fun e => ok_some ⟨?_, e3, e4⟩)
          · rw [if_pos e]
            exact f1'
          · rw [if_neg e, ← f1']
    · refine op_q hI (-1) ?_ ?_
      · unfold cX_median
        rw [hp, Option.bind_some, if_neg o0, hP.1.1]
        by_cases h2 : a2 < 0
        · rw [if_pos h2]
          exact ok_some ⟨rfl, hC⟩
        · rw [if_neg h2, if_pos (by omega)]
          exact ok_some ⟨rfl, hC⟩
      · unfold mm_median
        refine ok_then hyes fun r hr2 => ?_
        obtain ⟨e1, e2, e3, e4⟩ := hr2
        rw [e1, if_tt, isPlace_ok hV e2.1, Option.bind_some, decide_eq_false hr, if_ff]
        exact ok_some ⟨rfl, e3, e4⟩
  · refine op_q hI (-1) ?_ ?_
    · unfold cX_median
      rw [paperAt_no hC hk, Option.bind_some, if_pos (by omega)]
      exact ok_some ⟨rfl, hC⟩
    · unfold mm_median
      rw [isPaper_no hC.av hk, Option.bind_some, if_ff]
      exact ok_some ⟨rfl, rfl, rfl⟩
/-- whether two want unlike words anywhere both want one -/
def rvP (P : Int → Int) (a b p : Int) : Bool := !decide (P (32 + 8 * a + p) = 10) && (!decide (P (32 + 8 * b + p) = 10) && !decide (P (32 + 8 * a + p) = P (32 + 8 * b + p)))
def riv (P : Int → Int) (a b : Int) : Bool := anyB (rvP P a b) (P 0).toNat
def rvs (P : Int → Int) (a : Int) : Int := bm (riv P a) (P 1).toNat
theorem areRivals_ok {G : Hp} {o a b : Int} {P : Int → Int} (hV : PaperV P) (hC : PaperC G o P) (a0 : 0 ≤ a) (a1 : a < 6) (b0 : 0 ≤ b) (b1 : b < 6) : cPa_areRivals o a b G = some (riv P a b) := by
  apply ok_iff
  unfold cPa_areRivals
  have h0 := hV.1
  refine lp_up (fun n i (_ : Unit) => cPa_areRivals_L2 o a b G n i) (P 0) (fun i _ => anyB (rvP P a b) i.toNat = false) ?_ ?_ (by omega) (by omega) (by omega) (s := ()) rfl
  · intro n i s i0 i1 hI ih
    show ok (cPa_areRivals_L2 o a b G (n + 1) i) _
    rw [cPa_areRivals_L2, hC.1.1, if_pos i1, wish_ok hC a0 a1 i0 (by omega), wish_ok hC b0 b1 i0 (by omega), Option.bind_some, Option.bind_some, w32_id (by omega) (by omega)]
    have hs := anyB_s (rvP P a b) i0
    rw [hI, Bool.false_or] at hs
    refine ok_ite (fun e => ih () ?_) (fun e => ok_ite (fun e2 => ih () ?_) (fun e2 => ok_ite (fun e3 => ih () ?_) (fun e3 => ok_some ?_)))
    · rw [hs]
      unfold rvP
      rw [decide_eq_true e]
      rfl
    · rw [hs]
      unfold rvP
      rw [decide_eq_true e2]
      simp
    · rw [hs]
      unfold rvP
      rw [decide_eq_true e3]
      simp
    · symm
      refine anyB_iff.mpr ⟨i, i0, by omega, ?_⟩
      unfold rvP
      rw [decide_eq_false e, decide_eq_false e2, decide_eq_false e3]
      rfl
  · intro n s hI
    show ok (cPa_areRivals_L2 o a b G (n + 1) (P 0)) _
    rw [cPa_areRivals_L2, hC.1.1, if_neg (by omega)]
    exact ok_some hI.symm
theorem rivals_ok {G : Hp} {o a : Int} {P : Int → Int} (hV : PaperV P) (hC : PaperC G o P) (a0 : 0 ≤ a) (a1 : a < 6) : cPa_rivals o a G = some (rvs P a) := by
  apply ok_iff
  unfold cPa_rivals
  have h1 := hV.2.1
  refine lp_up (fun n i (s : Int) => cPa_rivals_L4 o a G n s i) (P 1) (fun i s => s = bm (riv P a) i.toNat) ?_ ?_ (by omega) (by omega) (by omega) rfl
  · intro n i s i0 i1 hI ih
    show ok (cPa_rivals_L4 o a G (n + 1) s i) _
    have hm := bm_Mk (riv P a) i.toNat (by omega)
    rw [cPa_rivals_L4, hC.1.2, if_pos i1, areRivals_ok hV hC a0 a1 i0 (by omega), Option.bind_some, w32_id (by omega) (by omega)]
    have hs := bm_s (riv P a) i0
    refine ok_ite (fun e => ih _ ?_) (fun e => ih _ ?_)
    · rw [hs, if_pos e, hI]
    · rw [hs, if_neg e, hI, ior_0 hm (by omega)]
  · intro n s hI
    show ok (cPa_rivals_L4 o a G (n + 1) s (P 1)) _
    rw [cPa_rivals_L4, hC.1.2, if_neg (by omega)]
    exact ok_some hI
theorem mrivals_ok {G : Hp} {b a : Int} {P : Int → Int} (hV : PaperV P) (hM : MS P b G) (a0 : 0 ≤ a) (a1 : a < 6) : mm_rivalsOf a G = some (rvs P a) := by
  apply ok_iff
  unfold mm_rivalsOf
  have h0 := hV.1
  have h1 := hV.2.1
  refine lp_up (fun n i (s : Int) => mm_rivalsOf_L4 a G n s i) (P 1) (fun i s => s = bm (riv P a) i.toNat) ?_ ?_ (by omega) (by omega) (by omega) rfl
  · intro n i s i0 i1 hI ih
    show ok (mm_rivalsOf_L4 a G (n + 1) s i) _
    have hm := bm_Mk (riv P a) i.toNat (by omega)
    have hm6 : Mk 6 s := by rw [hI]; exact hm.mono (by omega)
    have hsh : Mk 6 (ishl 1 i) := Mk.shl i0 (by omega) (by omega)
    rw [mm_rivalsOf_L4, hM.1.2.2, if_pos i1, w32_id (by omega) (by omega)]
    have hs := bm_s (riv P a) i0
    refine lp_up (fun n2 j (x : Int) => mm_rivalsOf_L15 a G i (fun x2_77 => mm_rivalsOf_L4 a G n x2_77 (i + 1)) n2 x j) (P 0) (fun j x => x = if anyB (rvP P a i) j.toNat = true then ior s (ishl 1 i) else s) ?_ ?_ (by omega) (by omega) (by omega) (by rw [show anyB (rvP P a i) (0 : Int).toNat = false from rfl, if_ff])
    · intro n2 j x j0 j1 hx ih2
      show ok (mm_rivalsOf_L15 a G i _ (n2 + 1) x j) _
      have hs2 := anyB_s (rvP P a i) j0
      rw [mm_rivalsOf_L15, hM.1.2.1, if_pos j1, want_ok hM a0 a1 j0 (by omega), want_ok hM i0 (by omega) j0 (by omega), w32_id (by omega) (by omega)]
      simp only [Option.bind_some]
      refine ok_ite (fun e => ih2 _ ?_) (fun e => ok_ite (fun e2 => ih2 _ ?_) (fun e2 => ok_ite (fun e3 => ih2 _ ?_) (fun e3 => ih2 _ ?_)))
      · have : rvP P a i j = false := by unfold rvP; rw [decide_eq_true e]; rfl
        rw [hs2, this, Bool.or_false, hx]
      · have : rvP P a i j = false := by unfold rvP; rw [decide_eq_true e2]; simp
        rw [hs2, this, Bool.or_false, hx]
      · have : rvP P a i j = false := by unfold rvP; rw [decide_eq_true e3]; simp
        rw [hs2, this, Bool.or_false, hx]
      · have : rvP P a i j = true := by unfold rvP; rw [decide_eq_false e, decide_eq_false e2, decide_eq_false e3]; rfl
        rw [hs2, this, Bool.or_true, if_tt, hx]
        cases anyB (rvP P a i) j.toNat with
        | false => rw [if_ff]
        | true =>
          rw [if_tt]
          refine Mk.ext ((hm6.or hsh (by omega)).or hsh (by omega)) (hm6.or hsh (by omega)) fun k k0 k1 => ?_
          rw [bt_or (hm6.or hsh (by omega)) hsh (by omega) (by omega), bt_or hm6 hsh (by omega) (by omega), Bool.or_assoc, Bool.or_self]
    · intro n2 x hx
      show ok (mm_rivalsOf_L15 a G i _ (n2 + 1) x (P 0)) _
      rw [mm_rivalsOf_L15, hM.1.2.1, if_neg (by omega)]
      refine ih _ ?_
      rw [hs, hx, hI]
      rfl
  · intro n s hI
    show ok (mm_rivalsOf_L4 a G (n + 1) s (P 1)) _
    rw [mm_rivalsOf_L4, hM.1.2.2, if_neg (by omega)]
    exact ok_some hI
/-- a set without rivals -/
def pcB (P : Int → Int) (g : Int) : Bool := allB (fun r => !bt g r || decide (iand (rvs P r) g = 0)) (P 1).toNat
def pcF (c : Int → Bool) : Nat → Int
  | 0 => 0
  | k + 1 => if pop (pcF c k) < pop ((k : Int) + 1) ∧ c ((k : Int) + 1) = true then (k : Int) + 1 else pcF c k
theorem pcF_s (c : Int → Bool) {i : Int} (h : 1 ≤ i) : pcF c (i + 1 - 1).toNat = if pop (pcF c (i - 1).toNat) < pop i ∧ c i = true then i else pcF c (i - 1).toNat := by
  have e : (i + 1 - 1).toNat = (i - 1).toNat + 1 := by omega
  have e2 : (((i - 1).toNat : Nat) : Int) + 1 = i := by omega
  rw [e]
  show (if pop (pcF c (i - 1).toNat) < pop ((((i - 1).toNat : Nat) : Int) + 1) ∧ c ((((i - 1).toNat : Nat) : Int) + 1) = true then (((i - 1).toNat : Nat) : Int) + 1 else pcF c (i - 1).toNat) = _
  rw [e2]
theorem pcF_r (c : Int → Bool) : ∀ n : Nat, 0 ≤ pcF c n ∧ pcF c n ≤ n
  | 0 => ⟨Int.le_refl 0, Int.le_refl 0⟩
  | n + 1 => by
    have ih := pcF_r c n
    unfold pcF
    split <;> omega
theorem pcB_c {a b : Int} (h : iand a b = iand b a) : decide (iand a b = 0) = decide (iand b a = 0) := by rw [h]
theorem iand_comm (a b : Int) : iand a b = iand b a := by rw [iand_U, iand_U, Nat.and_comm]
theorem atPeace_ok {G : Hp} {g : Int} {P : Int → Int} (hV : PaperV P) (hg : Mk 6 g) (hG : ∀ r, 0 ≤ r → r < P 1 → G 92 r = rvs P r) : cX_atPeace g (P 1) G = some (pcB P g) := by
  apply ok_iff
  unfold cX_atPeace
  have h1 := hV.2.1
  refine lp_up (fun n i (_ : Unit) => cX_atPeace_L2 g (P 1) G n i) (P 1) (fun i _ => allB (fun r => !bt g r || decide (iand (rvs P r) g = 0)) i.toNat = true) ?_ ?_ (by omega) (by omega) (by omega) (s := ()) rfl
  · intro n i s i0 i1 hI ih
    show ok (cX_atPeace_L2 g (P 1) G (n + 1) i) _
    rw [cX_atPeace_L2, if_pos i1, hG i i0 i1, w32_id (by omega) (by omega)]
    have hs := allB_s (fun r => !bt g r || decide (iand (rvs P r) g = 0)) i0
    rw [hI, Bool.true_and] at hs
    refine ok_ite (fun e => ih () ?_) (fun e => ok_gd (by omega) (by omega) (ok_ite (fun e2 => ih () ?_) (fun e2 => ok_some ?_)))
    · rw [hs, (tst0 hg (by omega) i0 (by omega)).mp e]
      rfl
    · rw [hs, iand_comm, decide_eq_true e2, Bool.or_true]
    · symm
      cases hq : pcB P g with
      | false => rfl
      | true =>
        have := allB_iff.mp hq i i0 (by omega)
        have hb : bt g i = true := by
          cases hb : bt g i with
          | true => rfl
          | false => exact absurd ((tst0 hg (by omega) i0 (by omega)).mpr hb) e
        rw [hb, iand_comm, decide_eq_false e2] at this
        cases this
  · intro n s hI
    show ok (cX_atPeace_L2 g (P 1) G (n + 1) (P 1)) _
    rw [cX_atPeace_L2, if_neg (by omega)]
    exact ok_some hI.symm
theorem isPeace_ok {G : Hp} {b g : Int} {P : Int → Int} (hV : PaperV P) (hM : MS P b G) (hg : Mk 6 g) : mm_isPeace g G = some (pcB P g) := by
  apply ok_iff
  unfold mm_isPeace
  have h1 := hV.2.1
  refine lp_up (fun n i (s : Int) => mm_isPeace_L4 g G n s i) (P 1) (fun i s => s = b2i (allB (fun r => !bt g r || decide (iand (rvs P r) g = 0)) i.toNat)) ?_ ?_ (by omega) (by omega) (by omega) rfl
  · intro n i s i0 i1 hI ih
    show ok (mm_isPeace_L4 g G (n + 1) s i) _
    rw [mm_isPeace_L4, hM.1.2.2, if_pos i1, w32_id (by omega) (by omega)]
    have hs := allB_s (fun r => !bt g r || decide (iand (rvs P r) g = 0)) i0
    refine ok_ite (fun e => ih _ ?_) (fun e => ok_ite (fun e2 => ih _ ?_) (fun e2 => ?_))
    · rw [hs]
      rw [hI] at e
      cases hq : allB (fun r => !bt g r || decide (iand (rvs P r) g = 0)) i.toNat with
      | false => rfl
      | true => rw [hq] at e; cases e
    · rw [hs, (tst0 hg (by omega) i0 (by omega)).mp e2]
      cases hq : allB (fun r => !bt g r || decide (iand (rvs P r) g = 0)) i.toNat with
      | true => rfl
      | false => rw [hI, hq] at e; exact absurd rfl e
    · have hb : bt g i = true := by
        cases hb : bt g i with
        | true => rfl
        | false => exact absurd ((tst0 hg (by omega) i0 (by omega)).mpr hb) e2
      have ha : allB (fun r => !bt g r || decide (iand (rvs P r) g = 0)) i.toNat = true := by
        cases hq : allB (fun r => !bt g r || decide (iand (rvs P r) g = 0)) i.toNat with
        | true => rfl
        | false => rw [hI, hq] at e; exact absurd rfl e
      rw [ha, hb, Bool.true_and] at hs
      rw [mrivals_ok hV hM i0 (by omega), Option.bind_some]
      refine ok_ite (fun e3 => ih _ ?_) (fun e3 => ih _ ?_)
      · rw [hs, decide_eq_true e3]
        rfl
      · rw [hs, decide_eq_false e3]
        rfl
  · intro n s hI
    show ok (mm_isPeace_L4 g G (n + 1) s (P 1)) _
    rw [mm_isPeace_L4, hM.1.2.2, if_neg (by omega), hI]
    show ok ((zret (b2i (pcB P g))).bind fun b_ => some b_) _
    cases pcB P g <;> exact ok_some rfl
theorem pow6 {n : Int} (h0 : 0 ≤ n) (h1 : n ≤ 6) : ∃ m : Int, ishl 1 n = m ∧ 1 ≤ m ∧ m ≤ 64 := by
  refine ⟨_, rfl, ?_⟩
  rw [ishl_1 h0 (by omega)]
  have h2 : 2 ^ n.toNat ≤ 2 ^ 6 := Nat.pow_le_pow_right (by decide) (by omega)
  have h3 : 0 < 2 ^ n.toNat := Nat.pow_pos (by decide)
  have e : (2 : Nat) ^ 6 = 64 := rfl
  omega
theorem Mk6 {g : Int} (h0 : 0 ≤ g) (h1 : g < 64) : Mk 6 g := ⟨h0, by have e : ((2 ^ 6 : Nat) : Int) = 64 := rfl; omega⟩
theorem op24 : Op24 Inv := by
  intro Gc Gm hI a1 a2 r1 r2
  have hC : CInv Gc (Gm 202) (Gm 203) := hI
  by_cases hk : 0 ≤ a1 ∧ a1 < Gm 202 0
  · obtain ⟨hp, hk2⟩ := paperAt_yes hC hk.1 hk.2
    obtain ⟨hV, hP⟩ := hC.paper hk2
    have hyes := isPaper_yes hC.av hk.1 hk.2
    generalize ct 80 (Gm 202) (pb a1) = P at *
    have h0 := hV.1
    have h1 := hV.2.1
    have ho := o_or hk2
    generalize 7 + 15 * a1 = o at *
    have o0 : ¬ o < 0 := by omega
    obtain ⟨M, hM1, hM2, hM3⟩ := pow6 h1.1 h1.2
    have hr9 := pcF_r (pcB P) (M - 1).toNat
    refine op_q hI (if a2 = 0 then pop (pcF (pcB P) (M - 1).toNat) else pcF (pcB P) (M - 1).toNat) ?_ ?_
    · unfold cX_peace
      rw [hp, Option.bind_some, if_neg o0]
      refine lp_up (fun n i (s : Hp) => cX_peace_L15 a1 a2 o (fun G_43 => cX_peace_L49 a1 a2 o G_43 (fun x4_96 => if a2 = 0 then some ((jI_bitCount x4_96), G_43) else some (x4_96, G_43)) FU 0 1) n i s) (P 1) (fun i s => (∀ r, 0 ≤ r → r < i → s 92 r = rvs P r) ∧ ∀ a j, a ≠ 92 → s a j = Gc a j) ?_ ?_ (by omega) (by omega) (by omega) ⟨fun r r0 r1 => by omega, fun _ _ _ => rfl⟩
      · intro n i s i0 i1 hI2 ih
        have hsq : Sq Gc s := Sq.fr fun a j x => hI2.2 a j (by omega)
        have hP2 := hP.sq ho hsq
        show ok (cX_peace_L15 a1 a2 o _ (n + 1) i s) _
        rw [cX_peace_L15, hP2.1.2, if_pos i1, rivals_ok hV hP2 i0 (by omega), Option.bind_some, w32_id (by omega) (by omega)]
        refine ok_gd i0 (by omega) (ih _ ⟨fun r r0 r1 => ?_, fun a j x => ?_⟩)
        · by_cases hr : r = i
          · subst hr
            rw [upd2_s]
          · rw [upd2_o (by omega)]
            exact hI2.1 r r0 (by omega)
        · rw [upd2_o (by omega)]
          exact hI2.2 a j x
      · intro n s hI2
        have hsq : Sq Gc s := Sq.fr fun a j x => hI2.2 a j (by omega)
        have hP2 := hP.sq ho hsq
        show ok (cX_peace_L15 a1 a2 o _ (n + 1) (P 1) s) _
        rw [cX_peace_L15, hP2.1.2, if_neg (by omega)]
        refine lp_up (fun n i (x : Int) => cX_peace_L49 a1 a2 o s (fun x4_96 => if a2 = 0 then some ((jI_bitCount x4_96), s) else some (x4_96, s)) n x i) M (fun i x => 1 ≤ i ∧ x = pcF (pcB P) (i - 1).toNat) ?_ ?_ (by omega) (by omega) (by omega) ⟨by omega, rfl⟩
        · intro n i x i0 i1 hx ih
          obtain ⟨f0, f1⟩ := hx
          have hs := pcF_s (pcB P) f0
          have hr3 := pcF_r (pcB P) (i - 1).toNat
          rw [← f1] at hs hr3
          show ok (cX_peace_L49 a1 a2 o s _ (n + 1) x i) _
          have hg : Mk 6 i := Mk6 (by omega) (by omega)
          have hx6 : Mk 6 x := Mk6 (by omega) (by omega)
          rw [cX_peace_L49, hP2.1.2, hM1, if_pos i1, w32_id (by omega) (by omega), bc (hg.mono (by omega)), bc (hx6.mono (by omega)), atPeace_ok hV hg hI2.1, Option.bind_some]
          refine ok_ite (fun e => ok_ite (fun e2 => ih _ ⟨by omega, ?_⟩) (fun e2 => ih _ ⟨by omega, ?_⟩)) (fun e => ih _ ⟨by omega, ?_⟩)
          · rw [hs, if_pos ⟨e, e2⟩]
          · rw [hs, if_neg (fun z => e2 z.2)]
          · rw [hs, if_neg (fun z => e z.1)]
        · intro n x hx
          obtain ⟨f0, f1⟩ := hx
          show ok (cX_peace_L49 a1 a2 o s _ (n + 1) x M) _
          have hx6 : Mk 6 x := Mk6 (by omega) (by omega)
          rw [cX_peace_L49, hP2.1.2, hM1, if_neg (by omega), bc (hx6.mono (by omega)), f1]
          have hC2 := hC.sq hsq
          refine ok_ite (fun e => ok_some ⟨?_, hC2⟩) (fun e => ok_some ⟨?_, hC2⟩)
          · rw [if_pos e]
          · rw [if_neg e]
    · unfold mm_peace
      refine ok_then hyes fun r hr2 => ?_
      obtain ⟨e1, e2, e3, e4⟩ := hr2
      have hM := e2.1
      rw [e1, if_tt]
      refine lp_up (fun n i (x : Int) => mm_peace_L15 a1 a2 r.2 (fun x3_56 => if a2 = 0 then ((mm_bitsOf x3_56 r.2).bind fun v65 => some (v65, r.2)) else some (x3_56, r.2)) n x i) M (fun i x => 1 ≤ i ∧ x = pcF (pcB P) (i - 1).toNat) ?_ ?_ (by omega) (by omega) (by omega) ⟨by omega, rfl⟩
      · intro n i x i0 i1 hx ih
        obtain ⟨f0, f1⟩ := hx
        have hs := pcF_s (pcB P) f0
        have hr3 := pcF_r (pcB P) (i - 1).toNat
        rw [← f1] at hs hr3
        show ok (mm_peace_L15 a1 a2 r.2 _ (n + 1) x i) _
        have hg : Mk 6 i := Mk6 (by omega) (by omega)
        have hx6 : Mk 6 x := Mk6 (by omega) (by omega)
        rw [mm_peace_L15, hM.1.2.2, hM1, if_pos i1, w32_id (by omega) (by omega), bitsOf_ok (hg.mono (by omega)), bitsOf_ok (hx6.mono (by omega)), isPeace_ok hV hM hg]
        simp only [Option.bind_some]
        refine ok_ite (fun e => ok_ite (fun e2 => ih _ ⟨by omega, ?_⟩) (fun e2 => ih _ ⟨by omega, ?_⟩)) (fun e => ih _ ⟨by omega, ?_⟩)
        · rw [hs, if_pos ⟨e, e2⟩]
        · rw [hs, if_neg (fun z => e2 z.2)]
        · rw [hs, if_neg (fun z => e z.1)]
      · intro n x hx
        obtain ⟨f0, f1⟩ := hx
        show ok (mm_peace_L15 a1 a2 r.2 _ (n + 1) x M) _
        have hx6 : Mk 6 x := Mk6 (by omega) (by omega)
        rw [mm_peace_L15, hM.1.2.2, hM1, if_neg (by omega), bitsOf_ok (hx6.mono (by omega)), Option.bind_some, f1]
        refine ok_ite (fun e => ok_some ⟨?_, e3, e4⟩) (fun e => ok_some ⟨?_, e3, e4⟩)
        · rw [if_pos e]
        · rw [if_neg e]
  · refine op_q hI (-1) ?_ ?_
    · unfold cX_peace
      rw [paperAt_no hC hk, Option.bind_some, if_pos (by omega)]
      exact ok_some ⟨rfl, hC⟩
    · unfold mm_peace
      rw [isPaper_no hC.av hk, Option.bind_some, if_ff]
      exact ok_some ⟨rfl, rfl, rfl⟩
