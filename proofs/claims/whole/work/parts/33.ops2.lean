-- what is told of papers, weeks, logs; steps, towards, one reading
theorem PaperC.nb {G : Hp} {o : Int} {P : Int → Int} (h : PaperC G o P) : ∀ w, 0 ≤ w → w < 10 → G (o + 1 + 1) w = sl P 10 w := fun w w0 w1 => by
  rw [Int.add_assoc]
  exact h.2.2.2.1 w w0 w1
/-- what paper() answers -/
def tellV (P : Int → Int) (a : Int) : Int :=
  if a < 0 then -1 else if a / 10 = 0 then (if a % 10 = 0 then P 0 else if a % 10 = 1 then P 1 else -1) else if a / 10 = 1 then (if a % 10 < P 0 then P (2 + a % 10) else -1) else if a / 10 = 2 then P (10 + a % 10) else if a / 10 = 3 then (if a % 10 < P 1 then P (20 + 2 * (a % 10)) else -1) else if a / 10 = 4 then (if a % 10 < P 1 then P (21 + 2 * (a % 10)) else -1) else if 10 ≤ a / 10 ∧ a / 10 - 10 < P 1 ∧ a % 10 < P 0 then P (32 + 8 * (a / 10 - 10) + a % 10) else -1
theorem tell_ok {G : Hp} {o a : Int} {P : Int → Int} (hV : PaperV P) (hC : PaperC G o P) (ha : r32 a) : cPa_tell o a G = some (tellV P a) := by
  unfold r32 at ha
  have hp0 := hV.1
  have hp1 := hV.2.1
  unfold cPa_tell tellV
  rw [hC.1.1, hC.1.2]
  by_cases h : a < 0
  · simp only [if_pos h]
  simp only [if_neg h]
  rw [irem_nn (by omega), idiv_nn (by omega) (by omega) (by omega)]
  by_cases h0 : a / 10 = 0
  · simp only [if_pos h0]
    by_cases g0 : a % 10 = 0
    · simp only [if_pos g0]
    simp only [if_neg g0]
    by_cases g1 : a % 10 = 1
    · simp only [if_pos g1]
    simp only [if_neg g1]
  simp only [if_neg h0]
  by_cases h1 : a / 10 = 1
  · simp only [if_pos h1]
    by_cases g0 : a % 10 < P 0
    · simp only [if_pos g0]
      rw [hC.2.1.2 _ (by omega) (by omega)]
      rfl
    · simp only [if_neg g0]
  simp only [if_neg h1]
  by_cases h2 : a / 10 = 2
  · simp only [if_pos h2]
    rw [gd_ok (by omega) (by omega), hC.nb _ (by omega) (by omega)]
    rfl
  simp only [if_neg h2]
  by_cases h3 : a / 10 = 3
  · simp only [if_pos h3]
    by_cases g0 : a % 10 < P 1
    · simp only [if_pos g0]
      rw [gd_ok (by omega) (by omega), (hC.2.2.2.2.1 _ (by omega) g0).1]
    · simp only [if_neg g0]
  simp only [if_neg h3]
  by_cases h4 : a / 10 = 4
  · simp only [if_pos h4]
    by_cases g0 : a % 10 < P 1
    · simp only [if_pos g0]
      rw [gd_ok (by omega) (by omega), (hC.2.2.2.2.1 _ (by omega) g0).2]
    · simp only [if_neg g0]
  simp only [if_neg h4]
  rw [w32_id (by omega) (by omega)]
  by_cases h5 : a / 10 - 10 < 0
  · rw [if_pos h5, if_neg (by omega)]
  rw [if_neg h5]
  by_cases h6 : a / 10 - 10 < P 1
  · rw [if_pos h6]
    by_cases h7 : P 0 ≤ a % 10
    · rw [if_pos h7, if_neg (by omega)]
    · rw [if_neg h7, if_pos (by omega), wish_ok hC (by omega) (by omega) (by omega) (by omega)]
      rfl
  · rw [if_neg h6, if_neg (by omega)]
theorem mpaper_ok {a k : Int} {G : Hp} (hA : AV0 (G 202)) (k0 : 0 ≤ k) (k1 : k < G 202 0) (ha : r32 a) : ok (mm_paper k a G) (fun r => r.1 = tellV (ct 80 (G 202) (pb k)) a ∧ Mq G r.2) := by
  have hV := hA.paper k0 k1
  unfold r32 at ha
  unfold mm_paper
  refine ok_then (isPaper_yes hA k0 k1) fun r hr => ?_
  obtain ⟨e1, e2, e3, e4⟩ := hr
  generalize ct 80 (G 202) (pb k) = P at *
  have hM := e2.1
  have hMq : Mq G r.2 := ⟨e3, e4⟩
  have hp0 := hV.1
  have hp1 := hV.2.1
  have hb := hM.2.2
  have cell : ∀ j, 0 ≤ j → j < 80 → r.2 202 (pb k + j) = P j := hM.2.1
  unfold tellV
  rw [e1, if_pos rfl, hM.1.1]
  by_cases h : a < 0
  · simp only [if_pos h]
    exact ok_some ⟨rfl, hMq⟩
  simp only [if_neg h]
  rw [irem_nn (by omega), idiv_nn (by omega) (by omega) (by omega)]
  by_cases h0 : a / 10 = 0
  · simp only [if_pos h0]
    refine ok_ite (fun h2 => ?_) (fun h2 => ?_)
    · rw [w32_id (by omega) (by omega), cell _ (by omega) (by omega)]
      refine ok_gd (by omega) (by omega) (ok_some ⟨?_, hMq⟩)
      by_cases g0 : a % 10 = 0
      · rw [if_pos g0, show a = 0 by omega]
      · rw [if_neg g0, if_pos (by omega), show a = 1 by omega]
    · refine ok_some ⟨?_, hMq⟩
      rw [if_neg (by omega), if_neg (by omega)]
  simp only [if_neg h0]
  by_cases h1 : a / 10 = 1
  · simp only [if_pos h1]
    rw [isPlace_ok hV hM, Option.bind_some]
    by_cases g0 : a % 10 < P 0
    · rw [decide_eq_true ⟨by omega, g0⟩, if_pos rfl, told0_ok hM (by omega) (by omega), Option.bind_some]
      exact ok_some ⟨by rw [if_pos g0], hMq⟩
    · rw [decide_eq_false (fun z => g0 z.2), if_ff]
      exact ok_some ⟨by rw [if_neg g0], hMq⟩
  simp only [if_neg h1]
  by_cases h2 : a / 10 = 2
  · simp only [if_pos h2]
    rw [w32_id (z := pb k + 10) (by omega) (by omega), w32_id (by omega) (by omega), show pb k + 10 + a % 10 = pb k + (10 + a % 10) by omega, cell _ (by omega) (by omega)]
    exact ok_gd (by omega) (by omega) (ok_some ⟨rfl, hMq⟩)
  simp only [if_neg h2]
  by_cases h3 : a / 10 = 3
  · simp only [if_pos h3]
    rw [isReader_ok hV hM, Option.bind_some]
    by_cases g0 : a % 10 < P 1
    · rw [decide_eq_true ⟨by omega, g0⟩, if_pos rfl, pat_ok hM (by omega) (by omega), Option.bind_some]
      exact ok_some ⟨by rw [if_pos g0], hMq⟩
    · rw [decide_eq_false (fun z => g0 z.2), if_ff]
      exact ok_some ⟨by rw [if_neg g0], hMq⟩
  simp only [if_neg h3]
  by_cases h4 : a / 10 = 4
  · simp only [if_pos h4]
    rw [isReader_ok hV hM, Option.bind_some]
    by_cases g0 : a % 10 < P 1
    · rw [decide_eq_true ⟨by omega, g0⟩, if_pos rfl, days_ok hM (by omega) (by omega), Option.bind_some]
      exact ok_some ⟨by rw [if_pos g0], hMq⟩
    · rw [decide_eq_false (fun z => g0 z.2), if_ff]
      exact ok_some ⟨by rw [if_neg g0], hMq⟩
  simp only [if_neg h4]
  rw [w32_id (by omega) (by omega)]
  refine ok_ite (fun h5 => ?_) (fun h5 => ok_some ⟨by rw [if_neg (by omega)], hMq⟩)
  rw [isReader_ok hV hM, Option.bind_some]
  by_cases h6 : a / 10 - 10 < P 1
  · rw [decide_eq_true ⟨by omega, h6⟩, if_pos rfl, isPlace_ok hV hM, Option.bind_some]
    by_cases h7 : a % 10 < P 0
    · rw [decide_eq_true ⟨by omega, h7⟩, if_pos rfl, want_ok hM (by omega) (by omega) (by omega) (by omega), Option.bind_some]
      exact ok_some ⟨by rw [if_pos (by omega)], hMq⟩
    · rw [decide_eq_false (fun z => h7 z.2), if_ff]
      exact ok_some ⟨by rw [if_neg (by omega)], hMq⟩
  · rw [decide_eq_false (fun z => h6 z.2), if_ff]
    exact ok_some ⟨by rw [if_neg (by omega)], hMq⟩
theorem op4 : Op4 Inv := by
  intro Gc Gm hI a1 a2 r1 r2
  have hC : CInv Gc (Gm 202) (Gm 203) := hI
  by_cases hk : 0 ≤ a1 ∧ a1 < Gm 202 0
  · obtain ⟨hp, hk2⟩ := paperAt_yes hC hk.1 hk.2
    obtain ⟨hV, hP⟩ := hC.paper hk2
    refine op_p hI (tellV (ct 80 (Gm 202) (pb a1)) a2) ?_ (mpaper_ok hC.av hk.1 hk.2 r2)
    unfold cX_paper
    rw [hp, Option.bind_some, if_neg (by omega), tell_ok hV hP r2, Option.bind_some]
  · refine op_p hI (-1) ?_ ?_
    · unfold cX_paper
      rw [paperAt_no hC hk, Option.bind_some, if_pos (by omega)]
    · unfold mm_paper
      rw [isPaper_no hC.av hk, Option.bind_some, if_ff]
      exact ok_some ⟨rfl, rfl, rfl⟩
theorem upd_Mq {G : Hp} {j v : Int} : Mq G (upd2 G 201 j v) := Mq.fr fun i => ⟨upd2_o (by omega), upd2_o (by omega)⟩
theorem op5 : Op5 Inv := by
  intro Gc Gm hI a1 a2 a3 r1 r2 r3
  unfold r32 at r1 r2 r3
  have hC : CInv Gc (Gm 202) (Gm 203) := hI
  by_cases hk : 0 ≤ a1 ∧ a1 < Gm 202 1
  · obtain ⟨hp, hk2⟩ := weekAt_yes hC hk.1 hk.2
    obtain ⟨hV, hW⟩ := hC.week hk2
    have hb : 770 ≤ wkb a1 ∧ wkb a1 ≤ 891 := by unfold wkb; omega
    have cell : ∀ j, 0 ≤ j → j < 121 → Gm 202 (wkb a1 + j) = ct 121 (Gm 202) (wkb a1) j := fun j j0 j1 => (ct_at j0 j1).symm
    generalize ct 121 (Gm 202) (wkb a1) = P at *
    have h0 := hV.1
    have c0 := cell 0 (by omega) (by omega)
    rw [Int.add_zero] at c0
    unfold cX_deed mm_deed
    rw [hp, Option.bind_some, if_neg (by omega), isWeek_yes hC.av hk.1 hk.2, Option.bind_some, if_pos rfl]
    have e1 : (upd2 Gm 201 37 (wkb a1)) 201 37 = wkb a1 := upd2_s
    have uq : Mq Gm (upd2 Gm 201 37 (wkb a1)) := upd_Mq
    have e2 : ∀ j, (upd2 Gm 201 37 (wkb a1)) 202 j = Gm 202 j := fun j => upd2_o (by omega)
    simp only [e1, e2, c0, hW.1]
    by_cases h1 : a2 = -1
    · rw [if_pos h1, if_pos h1]
      by_cases h3 : a3 = 0
      · rw [if_pos h3, if_pos h3]
        exact op_p hI (P 0) rfl (ok_gd (by omega) (by omega) (ok_some ⟨rfl, uq⟩))
      · rw [if_neg h3, if_neg h3]
        refine op_p hI (-2) ?_ (ok_some ⟨rfl, uq⟩)
        unfold cX_deed_j30
        rw [if_pos (by omega)]
    · rw [if_neg h1, if_neg h1, w32_id (z := P 0 - 1) (by omega) (by omega), isIn_eq, isIn_eq]
      unfold cX_deed_j30
      rw [hW.1]
      by_cases h2 : 0 ≤ a2 ∧ a2 ≤ P 0 - 1
      · have hw := hW.2 a2 h2.1 (by omega)
        rw [if_neg (by omega), if_pos (by omega), decide_eq_true h2]
        by_cases h3 : 0 ≤ a3 ∧ a3 ≤ 2
        · rw [if_neg (by omega), if_neg (by omega), decide_eq_true h3]
          simp only [if_true]
          rw [w32_id (z := wkb a1 + 1) (by omega) (by omega), w32_id (z := 3 * a2) (by omega) (by omega), w32_id (z := wkb a1 + 1 + 3 * a2) (by omega) (by omega), w32_id (by omega) (by omega), show wkb a1 + 1 + 3 * a2 + a3 = wkb a1 + (1 + 3 * a2 + a3) by omega, cell _ (by omega) (by omega)]
          refine op_p hI (P (1 + 3 * a2 + a3)) ?_ (ok_gd (by omega) (by omega) (ok_gd (by omega) (by omega) (ok_some ⟨rfl, uq⟩)))
          by_cases g0 : a3 = 0
          · rw [if_pos g0, gd_ok (by omega) (by omega), hw.1, g0, Int.add_zero]
          rw [if_neg g0]
          by_cases g1 : a3 = 1
          · rw [if_pos g1, gd_ok (by omega) (by omega), hw.2.1, g1, show 1 + 3 * a2 + 1 = 2 + 3 * a2 by omega]
          · rw [if_neg g1, gd_ok (by omega) (by omega), hw.2.2, show 1 + 3 * a2 + a3 = 3 + 3 * a2 by omega]
        · rw [decide_eq_false h3]
          refine op_p hI (-2) ?_ (ok_gd (by omega) (by omega) ?_)
          · by_cases g0 : a3 < 0
            · rw [if_pos g0]
            · rw [if_neg g0, if_pos (by omega)]
          · rw [if_pos rfl, if_ff]
            exact ok_some ⟨rfl, uq⟩
      · rw [decide_eq_false h2]
        refine op_p hI (-2) ?_ (ok_gd (by omega) (by omega) ?_)
        · by_cases g0 : a2 < 0
          · rw [if_pos g0]
          · rw [if_neg g0, if_neg (by omega)]
        · rw [if_neg (by decide)]
          exact ok_some ⟨rfl, uq⟩
  · refine op_p hI (-2) ?_ ?_
    · unfold cX_deed
      rw [weekAt_no hC hk, Option.bind_some, if_pos (by omega)]
    · unfold mm_deed
      rw [isWeek_no hC.av hk, Option.bind_some, if_ff]
      exact ok_some ⟨rfl, rfl, rfl⟩
theorem op18 : Op18 Inv := by
  intro Gc Gm hI a1 a2 a3 r1 r2 r3
  unfold r32 at r1 r2 r3
  have hC : CInv Gc (Gm 202) (Gm 203) := hI
  by_cases hk : 0 ≤ a1 ∧ a1 < Gm 202 2
  · obtain ⟨hp, hk2⟩ := logAt_yes hC hk.1 hk.2
    obtain ⟨hV, hW⟩ := hC.log hk2
    have hb : 1012 ≤ lgb a1 ∧ lgb a1 ≤ 1029 := by unfold lgb; omega
    have cell : ∀ j, 0 ≤ j → j < 17 → Gm 202 (lgb a1 + j) = ct 17 (Gm 202) (lgb a1) j := fun j j0 j1 => (ct_at j0 j1).symm
    generalize ct 17 (Gm 202) (lgb a1) = P at *
    have h0 := hV.1
    have c0 := cell 0 (by omega) (by omega)
    rw [Int.add_zero] at c0
    unfold cX_fact mm_fact
    rw [hp, Option.bind_some, if_neg (by omega), isLog_yes hC.av hk.1 hk.2, Option.bind_some, if_pos rfl]
    have e1 : (upd2 Gm 201 39 (lgb a1)) 201 39 = lgb a1 := upd2_s
    have uq : Mq Gm (upd2 Gm 201 39 (lgb a1)) := upd_Mq
    have e2 : ∀ j, (upd2 Gm 201 39 (lgb a1)) 202 j = Gm 202 j := fun j => upd2_o (by omega)
    simp only [e1, e2, c0, hW.1]
    by_cases h1 : a2 = -1
    · rw [if_pos h1, if_pos h1]
      by_cases h3 : a3 = 0
      · rw [if_pos h3, if_pos h3]
        exact op_p hI (P 0) rfl (ok_gd (by omega) (by omega) (ok_some ⟨rfl, uq⟩))
      · rw [if_neg h3, if_neg h3]
        refine op_p hI (-2) ?_ (ok_some ⟨rfl, uq⟩)
        unfold cX_fact_j30
        rw [if_pos (by omega)]
    · rw [if_neg h1, if_neg h1, w32_id (z := P 0 - 1) (by omega) (by omega), isIn_eq, isIn_eq]
      unfold cX_fact_j30
      rw [hW.1]
      by_cases h2 : 0 ≤ a2 ∧ a2 ≤ P 0 - 1
      · have hw := hW.2 a2 h2.1 (by omega)
        rw [if_neg (by omega), if_pos (by omega), decide_eq_true h2]
        by_cases h3 : 0 ≤ a3 ∧ a3 ≤ 1
        · rw [if_neg (by omega), if_neg (by omega), decide_eq_true h3]
          simp only [if_true]
          rw [w32_id (z := lgb a1 + 1) (by omega) (by omega), w32_id (z := 2 * a2) (by omega) (by omega), w32_id (z := lgb a1 + 1 + 2 * a2) (by omega) (by omega), w32_id (by omega) (by omega), show lgb a1 + 1 + 2 * a2 + a3 = lgb a1 + (1 + 2 * a2 + a3) by omega, cell _ (by omega) (by omega)]
          refine op_p hI (P (1 + 2 * a2 + a3)) ?_ (ok_gd (by omega) (by omega) (ok_gd (by omega) (by omega) (ok_some ⟨rfl, uq⟩)))
          by_cases g0 : a3 = 0
          · rw [if_pos g0, gd_ok (by omega) (by omega), hw.1, g0, Int.add_zero]
          · rw [if_neg g0, gd_ok (by omega) (by omega), hw.2, show 1 + 2 * a2 + a3 = 2 + 2 * a2 by omega]
        · rw [decide_eq_false h3]
          refine op_p hI (-2) ?_ (ok_gd (by omega) (by omega) ?_)
          · by_cases g0 : a3 < 0
            · rw [if_pos g0]
            · rw [if_neg g0, if_pos (by omega)]
          · rw [if_pos rfl, if_ff]
            exact ok_some ⟨rfl, uq⟩
      · rw [decide_eq_false h2]
        refine op_p hI (-2) ?_ (ok_gd (by omega) (by omega) ?_)
        · by_cases g0 : a2 < 0
          · rw [if_pos g0]
          · rw [if_neg g0, if_neg (by omega)]
        · rw [if_neg (by decide)]
          exact ok_some ⟨rfl, uq⟩
  · refine op_p hI (-2) ?_ ?_
    · unfold cX_fact
      rw [logAt_no hC hk, Option.bind_some, if_pos (by omega)]
    · unfold mm_fact
      rw [isLog_no hC.av hk, Option.bind_some, if_ff]
      exact ok_some ⟨rfl, rfl, rfl⟩
theorem o_or {k : Int} (h : k = 0 ∨ k = 1) : 7 + 15 * k = 7 ∨ 7 + 15 * k = 22 := by omega
theorem op8 : Op8 Inv := by
  intro Gc Gm hI a1 a2 a3 r1 r2 r3
  have hC : CInv Gc (Gm 202) (Gm 203) := hI
  by_cases hk : 0 ≤ a1 ∧ a1 < Gm 202 0
  · obtain ⟨hp, hk2⟩ := paperAt_yes hC hk.1 hk.2
    obtain ⟨hV, hP⟩ := hC.paper hk2
    refine op_q hI (dst2 (sl (ct 80 (Gm 202) (pb a1)) 10) a2 a3) ?_ ?_
    · unfold cX_steps
      rw [hp, Option.bind_some, if_neg (by omega)]
      exact ok_then (between_N hP.2.2.1 hP.nb) fun r hr => ok_some ⟨hr.1, hC.sq (Sq.ce (o_or hk2) hr.2)⟩
    · unfold mm_steps
      refine ok_then (isPaper_yes hC.av hk.1 hk.2) fun r hr => ?_
      obtain ⟨e1, e2, e3, e4⟩ := hr
      rw [e1, if_pos rfl]
      unfold mm_isWord dst2
      rw [isIn_eq, isIn_eq]
      by_cases h2 : 0 ≤ a2 ∧ a2 ≤ 9
      · rw [decide_eq_true h2, if_pos rfl]
        by_cases h3 : 0 ≤ a3 ∧ a3 ≤ 9
        · rw [decide_eq_true h3, if_pos rfl, w32_id (z := 10 * a2) (by omega) (by omega), w32_id (by omega) (by omega), if_pos (by omega), e2.2.1.2.2 a2 a3 h2.1 (by omega) h3.1 (by omega)]
          exact ok_gd (by omega) (by omega) (ok_some ⟨rfl, e3, e4⟩)
        · rw [decide_eq_false h3, if_ff, if_neg (by omega)]
          exact ok_some ⟨rfl, e3, e4⟩
      · rw [decide_eq_false h2, if_ff, if_neg (by omega)]
        exact ok_some ⟨rfl, e3, e4⟩
  · refine op_q hI (-1) ?_ ?_
    · unfold cX_steps
      rw [paperAt_no hC hk, Option.bind_some, if_pos (by omega)]
      exact ok_some ⟨rfl, hC⟩
    · unfold mm_steps
      rw [isPaper_no hC.av hk, Option.bind_some, if_ff]
      exact ok_some ⟨rfl, rfl, rfl⟩
theorem op9 : Op9 Inv := by
  intro Gc Gm hI a1 a2 a3 r1 r2 r3
  have hC : CInv Gc (Gm 202) (Gm 203) := hI
  by_cases hk : 0 ≤ a1 ∧ a1 < Gm 202 0
  · obtain ⟨hp, hk2⟩ := paperAt_yes hC hk.1 hk.2
    obtain ⟨hV, hP⟩ := hC.paper hk2
    refine op_q hI (tw2 (sl (ct 80 (Gm 202) (pb a1)) 10) a2 a3) ?_ ?_
    · unfold cX_towards
      rw [hp, Option.bind_some, if_neg (by omega)]
      exact ok_then (next_N hP.2.2.1 hP.nb) fun r hr => ok_some ⟨hr.1, hC.sq (Sq.ce (o_or hk2) hr.2)⟩
    · unfold mm_towards
      refine ok_then (isPaper_yes hC.av hk.1 hk.2) fun r hr => ?_
      obtain ⟨e1, e2, e3, e4⟩ := hr
      rw [e1, if_pos rfl]
      unfold mm_isWord tw2
      rw [isIn_eq, isIn_eq]
      by_cases h2 : 0 ≤ a2 ∧ a2 ≤ 9
      · rw [decide_eq_true h2, if_pos rfl]
        by_cases h3 : 0 ≤ a3 ∧ a3 ≤ 9
        · rw [decide_eq_true h3, if_pos rfl, if_pos (by omega), towards_ok e2.2.1 h2.1 (by omega) h3.1 (by omega), Option.bind_some]
          exact ok_some ⟨rfl, e3, e4⟩
        · rw [decide_eq_false h3, if_ff, if_neg (by omega)]
          exact ok_some ⟨rfl, e3, e4⟩
      · rw [decide_eq_false h2, if_ff, if_neg (by omega)]
        exact ok_some ⟨rfl, e3, e4⟩
  · refine op_q hI (-1) ?_ ?_
    · unfold cX_towards
      rw [paperAt_no hC hk, Option.bind_some, if_pos (by omega)]
      exact ok_some ⟨rfl, hC⟩
    · unfold mm_towards
      rw [isPaper_no hC.av hk, Option.bind_some, if_ff]
      exact ok_some ⟨rfl, rfl, rfl⟩
/-- what stands at a place, by a what of 10 + p -/
def stV (P f : Int → Int) (a : Int) : Int := if 10 ≤ a ∧ a - 10 < P 0 then f (a - 10) else -2
theorem stands_ok {G : Hp} {o q a : Int} {P f : Int → Int} (hV : PaperV P) (hC : PaperC G o P) (hq : PK q f) (ha : r32 a) : cX_standsAt o q a G = some (stV P f a) := by
  unfold r32 at ha
  have h0 := hV.1
  unfold cX_standsAt stV
  rw [hC.1.1]
  by_cases h1 : a < -2147483638
  · have e : w32 (a - 10) = a - 10 + 4294967296 := by unfold w32; omega
    rw [e, if_neg (by omega), if_pos (by omega), if_neg (by omega)]
  · rw [w32_id (by omega) (by omega)]
    by_cases h2 : a - 10 < 0
    · rw [if_pos h2, if_neg (by omega)]
    · rw [if_neg h2]
      by_cases h3 : P 0 ≤ a - 10
      · rw [if_pos h3, if_neg (by omega)]
      · rw [if_neg h3, if_pos (by omega), hq.2 _ (by omega) (by omega)]
theorem mstands_ok {G : Hp} {b a : Int} {P f : Int → Int} {k : Option (Int × Hp)} {Q : Int × Hp → Prop} (hV : PaperV P) (hM : MS P b G) (hG : ∀ p, 0 ≤ p → p < 8 → G 207 p = f p) (ha : r32 a) (h1 : ∀ p, 0 ≤ p → p < 8 → w32 (a - 10) = p → stV P f a = f p → ok k Q) (h2 : stV P f a = -2 → ok (some (-2, G)) Q) :
    ok (if (mm_isIn a 10 17) = true then ((mm_isPlace (w32 (a - 10)) G).bind fun v59 => if v59 = true then k else some ((-2), G)) else some ((-2), G)) Q := by
  unfold r32 at ha
  have h0 := hV.1
  unfold stV at h1 h2
  rw [isIn_eq]
  by_cases h3 : 10 ≤ a ∧ a ≤ 17
  · rw [decide_eq_true h3, if_pos rfl, w32_id (by omega) (by omega), isPlace_ok hV hM, Option.bind_some]
    by_cases h4 : 0 ≤ a - 10 ∧ a - 10 < P 0
    · rw [decide_eq_true h4, if_pos rfl]
      exact h1 (a - 10) (by omega) (by omega) (w32_id (by omega) (by omega)) (by rw [if_pos (by omega)])
    · rw [decide_eq_false h4, if_ff]
      exact h2 (by rw [if_neg (by omega)])
  · rw [decide_eq_false h3, if_ff]
    exact h2 (by rw [if_neg (by omega)])
theorem RdM.ms {g f P : Int → Int} {r n b : Int} {G G' : Hp} (h : RdM g f r n G G') (hM : MS P b G) : MS P b G' := hM.fr (fun j hj => h.2.2.2.2.2 _ _ (by omega) (by omega) (by omega) (by omega)) (fun j => h.2.2.2.2.2 _ _ (by omega) (by omega) (by omega) (by omega))
theorem RdM.mn {g f N : Int → Int} {r n : Int} {G G' : Hp} (h : RdM g f r n G G') (hN : MN N G) : MN N G' := hN.fr (fun j => h.2.2.2.2.2 _ _ (by omega) (by omega) (by omega) (by omega)) (fun j => h.2.2.2.2.2 _ _ (by omega) (by omega) (by omega) (by omega))
theorem RdM.mq {g f : Int → Int} {r n : Int} {G G' : Hp} (h : RdM g f r n G G') : Mq G G' := Mq.fr fun j => ⟨h.2.2.2.2.2 _ _ (by omega) (by omega) (by omega) (by omega), h.2.2.2.2.2 _ _ (by omega) (by omega) (by omega) (by omega)⟩
theorem PaperV.pv {P : Int → Int} (h : PaperV P) : PV (sl P 2) := h.2.2.1.1
theorem Mk0 {G : Hp} {o j : Int} (h : G o j = 0) (n : Nat) : Mk n (G o j) := by rw [h]; exact Mk.zero n
/-- what reading() answers -/
def rdV (P : Int → Int) (r a : Int) : Int := if a = 0 then nch (rb P r (sl P 2)) (sl P 2) else if a = 1 then ctA P (rb P r (sl P 2)) else stV P (rb P r (sl P 2)) a
theorem op10 : Op10 Inv := by
  intro Gc Gm hI a1 a2 a3 r1 r2 r3
  have hC : CInv Gc (Gm 202) (Gm 203) := hI
  by_cases hk : 0 ≤ a1 ∧ a1 < Gm 202 0
  · obtain ⟨hp, hk2⟩ := paperAt_yes hC hk.1 hk.2
    obtain ⟨hV, hP⟩ := hC.paper hk2
    have hyes := isPaper_yes hC.av hk.1 hk.2
    generalize ct 80 (Gm 202) (pb a1) = P at *
    have h1 := hV.2.1
    by_cases hr : 0 ≤ a2 ∧ a2 < P 1
    · refine op_q hI (rdV P a2 a3) ?_ ?_
      · unfold cX_reading
        rw [hp, Option.bind_some, if_neg (by omega), if_neg (by omega), hP.1.2, if_neg (by omega)]
        refine ok_then (readBy_ok hV hP hr.1 hr.2 hP.2.1 hV.pv) fun x hx => ?_
        have hP2 := hP.ce hx.2
        have hC2 := hC.sq (Sq.ce (o_or hk2) hx.2)
        rw [unlike_PK hP2.2.1 hx.1, contentAll_ok hV hP2 hx.1, stands_ok hV hP2 hx.1 r3]
        unfold rdV
        refine ok_ite (fun e => ?_) (fun e => ?_)
        · rw [Option.bind_some, if_pos e]
          refine ok_some ⟨?_, hC2⟩
          show jI_bitCount (bm (df (rb P a2 (sl P 2)) (sl P 2)) 8) = _
          rw [bc ((bm_Mk _ 8 (by omega)).mono (by omega)), pop_bm _ (by omega)]
          rfl
        · rw [if_neg e]
          refine ok_ite (fun e => ?_) (fun e => ?_)
          · rw [Option.bind_some, if_pos e]
            exact ok_some ⟨rfl, hC2⟩
          · rw [Option.bind_some, if_neg e]
            exact ok_some ⟨rfl, hC2⟩
      · unfold mm_reading
        refine ok_then hyes fun r hr2 => ?_
        obtain ⟨e1, e2, e3, e4⟩ := hr2
        obtain ⟨m1, m2, m3, m4, m5, m6, m7, m8, m9, m10⟩ := e2
        rw [e1, if_pos rfl, isReader_ok hV m1, Option.bind_some, decide_eq_true hr, if_pos rfl]
        have z := (m4 a2 hr.1 (by omega)).1
        refine ok_then (reads_ok hV m1 m2 hV.pv (fun p p0 p1 => (m3 p p0 p1).1) hr.1 (by omega) (Mk0 z 8) (Mk0 m8 8)) fun x hx => ?_
        rw [z] at hx
        have hM2 := hx.2.ms m1
        have hq : Mq Gm x.2 := Mq.trans ⟨e3, e4⟩ hx.2.mq
        unfold rdV
        refine ok_ite (fun e => ?_) (fun e => ?_)
        · rw [if_pos e]
          exact ok_some ⟨hx.1, hq⟩
        · rw [if_neg e]
          refine ok_ite (fun e => ?_) (fun e => ?_)
          · rw [if_pos e, mcontentA_ok hV hM2 hx.2.1]
            exact ok_some ⟨rfl, hq⟩
          · rw [if_neg e]
            refine mstands_ok hV hM2 hx.2.1 r3 (fun p p0 p1 h2 h3 => ?_) (fun h2 => ok_some ⟨h2.symm, hq⟩)
            rw [h2]
            exact ok_gd p0 p1 (ok_some ⟨(hx.2.1 p p0 p1).trans h3.symm, hq⟩)
    · refine op_q hI (-2) ?_ ?_
      · unfold cX_reading
        rw [hp, Option.bind_some, if_neg (by omega), hP.1.2]
        by_cases h2 : a2 < 0
        · rw [if_pos h2]
          exact ok_some ⟨rfl, hC⟩
        · rw [if_neg h2, if_pos (by omega)]
          exact ok_some ⟨rfl, hC⟩
      · unfold mm_reading
        refine ok_then hyes fun r hr2 => ?_
        obtain ⟨e1, e2, e3, e4⟩ := hr2
        rw [e1, if_pos rfl, isReader_ok hV e2.1, Option.bind_some, decide_eq_false hr, if_ff]
        exact ok_some ⟨rfl, e3, e4⟩
  · refine op_q hI (-2) ?_ ?_
    · unfold cX_reading
      rw [paperAt_no hC hk, Option.bind_some, if_pos (by omega)]
      exact ok_some ⟨rfl, hC⟩
    · unfold mm_reading
      rw [isPaper_no hC.av hk, Option.bind_some, if_ff]
      exact ok_some ⟨rfl, rfl, rfl⟩
