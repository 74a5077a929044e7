-- weeks: stop, state, after
theorem week_absent {Gc Gm : Hp} {a1 a2 v : Int} {X : Option (Int × Hp)} {F : Int → Int → Option (Int × Hp)} {Y : Bool × Hp → Option (Int × Hp)} (hI : Inv Gc Gm) (hn : ¬ ((0 ≤ a1 ∧ a1 < Gm 202 0) ∧ 0 ≤ a2 ∧ a2 < Gm 202 1)) (hX : X = (cX_paperAt a1 Gc).bind fun v2 => (cX_weekAt a2 Gc).bind fun v9 => if v2 < 0 then some (v, Gc) else (if v9 < 0 then some (v, Gc) else F v2 v9)) :
    ∃ rc rm, X = some rc ∧ ((mm_isPaper a1 Gm).bind fun r2 => if r2.1 = true then ((mm_isWeek a2 r2.2).bind fun r10 => if r10.1 = true then Y r10 else some (v, r10.2)) else some (v, r2.2)) = some rm ∧ rc.1 = rm.1 ∧ Inv rc.2 rm.2 := by
  have hC : CInv Gc (Gm 202) (Gm 203) := hI
  subst hX
  refine op_q hI v ?_ ?_
  · by_cases hk : 0 ≤ a1 ∧ a1 < Gm 202 0
    · rw [(paperAt_yes hC hk.1 hk.2).1, Option.bind_some, weekAt_no hC (fun h => hn ⟨hk, h⟩), Option.bind_some, if_neg (by omega), if_pos (by omega)]
      exact ok_some ⟨rfl, hC⟩
    · rw [paperAt_no hC hk, Option.bind_some]
      by_cases hq : 0 ≤ a2 ∧ a2 < Gm 202 1
      · rw [(weekAt_yes hC hq.1 hq.2).1, Option.bind_some, if_pos (by omega)]
        exact ok_some ⟨rfl, hC⟩
      · rw [weekAt_no hC hq, Option.bind_some, if_pos (by omega)]
        exact ok_some ⟨rfl, hC⟩
  · by_cases hk : 0 ≤ a1 ∧ a1 < Gm 202 0
    · refine ok_then (isPaper_yes hC.av hk.1 hk.2) fun r hr => ?_
      obtain ⟨e1, e2, e3, e4⟩ := hr
      rw [e1, if_tt, isWeek_no (by rw [e3]; exact hC.av) (by rw [e3]; exact fun h => hn ⟨hk, h⟩), Option.bind_some]
      exact ok_some ⟨rfl, e3, e4⟩
    · rw [isPaper_no hC.av hk, Option.bind_some]
      exact ok_some ⟨rfl, rfl, rfl⟩
theorem op6 : Op6 Inv := by
  intro Gc Gm hI a1 a2 r1 r2
  have hC : CInv Gc (Gm 202) (Gm 203) := hI
  by_cases hn : (0 ≤ a1 ∧ a1 < Gm 202 0) ∧ 0 ≤ a2 ∧ a2 < Gm 202 1
  · obtain ⟨⟨k0, k1⟩, q0, q1⟩ := hn
    obtain ⟨hp, hk2⟩ := paperAt_yes hC k0 k1
    obtain ⟨hw, hq2⟩ := weekAt_yes hC q0 q1
    obtain ⟨hW, hWC⟩ := hC.week hq2
    have hW0 := hW.1
    obtain ⟨r, C', G', Gw, ew, hwk, hr1, hr2, e21, hr, hJ, e22, hC2, m2, m3⟩ := wkrun_ok (n := Gc (15 + 15 * a2) 0) (n' := 40) (L := ct 121 (Gm 202) (wkb a2) 0) hC k0 k1 q0 q1 (by rw [hWC.1]; omega) (by omega) hW0.1
    refine op_q hI r ?_ ?_
    · unfold cX_stop
      rw [hp, Option.bind_some, hw, Option.bind_some, if_neg (by omega), if_neg (by omega), hr1, Option.bind_some]
      exact ok_some ⟨rfl, hC2⟩
    · unfold mm_stop
      rw [ew, Option.bind_some]
      show ok ((mm_isWeek a2 Gw).bind _) _
      rw [hwk, Option.bind_some]
      show ok ((mm_runs 40 (upd2 Gw 201 37 (wkb a2))).bind _) _
      rw [hr2, Option.bind_some]
      exact ok_some ⟨e21, m2, m3⟩
  · exact week_absent hI hn rfl
theorem op7 : Op7 Inv := by
  intro Gc Gm hI a1 a2 a3 a4 r1 r2 r3 r4
  have hC : CInv Gc (Gm 202) (Gm 203) := hI
  unfold r32 at r4
  by_cases hn : (0 ≤ a1 ∧ a1 < Gm 202 0) ∧ 0 ≤ a2 ∧ a2 < Gm 202 1
  · obtain ⟨⟨k0, k1⟩, q0, q1⟩ := hn
    obtain ⟨hp, hk2⟩ := paperAt_yes hC k0 k1
    obtain ⟨hw, hq2⟩ := weekAt_yes hC q0 q1
    obtain ⟨hW, hWC⟩ := hC.week hq2
    obtain ⟨hV, hP⟩ := hC.paper hk2
    have hW0 := hW.1
    by_cases h3 : a3 < 0
    · obtain ⟨r, C', G', Gw, ew, hwk, -, -, -, -, -, -, -, -, -⟩ := wkrun_ok (n := 0) (n' := 0) (L := 0) hC k0 k1 q0 q1 (by omega) (by omega) (by omega)
      obtain ⟨⟨x1, Gw'⟩, ew2, e1, e2, e3, e4⟩ := isPaper_yes hC.av k0 k1
      rw [ew2] at ew
      obtain ⟨rfl, rfl⟩ := Prod.mk.inj (Option.some.inj ew)
      refine op_q hI (-2) ?_ ?_
      · unfold cX_state
        rw [hp, Option.bind_some, hw, Option.bind_some, if_neg (by omega), if_neg (by omega), if_pos h3]
        exact ok_some ⟨rfl, hC⟩
      · unfold mm_state
        rw [ew2, Option.bind_some]
        show ok ((mm_isWeek a2 Gw').bind _) _
        rw [hwk, Option.bind_some]
        show ok (if a3 < 0 then some (-2, upd2 Gw' 201 37 (wkb a2)) else _) _
        rw [if_pos h3]
        have u2 : upd2 Gw' 201 37 (wkb a2) 202 = Gw' 202 := funext fun j => upd2_o (by omega)
        have u3 : upd2 Gw' 201 37 (wkb a2) 203 = Gw' 203 := funext fun j => upd2_o (by omega)
        exact ok_some ⟨rfl, u2.trans e3, u3.trans e4⟩
    · by_cases h4 : ct 121 (Gm 202) (wkb a2) 0 < a3
      · obtain ⟨r, C', G', Gw, ew, hwk, hr1, hr2, e21, hr, hJ, e22, hC2, m2, m3⟩ := wkrun_ok (n := ct 121 (Gm 202) (wkb a2) 0) (n' := a3) (L := ct 121 (Gm 202) (wkb a2) 0) hC k0 k1 q0 q1 (by omega) (by omega) hW0.1
        refine op_q hI (-2) ?_ ?_
        · unfold cX_state
          rw [hp, Option.bind_some, hw, Option.bind_some, if_neg (by omega), if_neg (by omega), if_neg h3, hWC.1, if_pos h4]
          exact ok_some ⟨rfl, hC⟩
        · unfold mm_state
          rw [ew, Option.bind_some]
          show ok ((mm_isWeek a2 Gw).bind _) _
          rw [hwk, Option.bind_some]
          show ok (if a3 < 0 then some (-2, upd2 Gw 201 37 (wkb a2)) else ((mm_runs a3 (upd2 Gw 201 37 (wkb a2))).bind _)) _
          rw [if_neg h3, hr2, Option.bind_some, if_neg (by omega)]
          exact ok_some ⟨rfl, m2, m3⟩
      · obtain ⟨r, C', G', Gw, ew, hwk, hr1, hr2, e21, hr, hJ, e22, hC2, m2, m3⟩ := wkrun_ok (n := a3) (n' := a3) (L := a3) hC k0 k1 q0 q1 (by omega) (by omega) (by omega)
        obtain ⟨v, t1, t2⟩ := wtell_J (q := a4) r4.2 hV (o_or hk2) hJ
        refine op_q hI (if r < a3 then -2 else v) ?_ ?_
        · unfold cX_state
          rw [hp, Option.bind_some, hw, Option.bind_some, if_neg (by omega), if_neg (by omega), if_neg h3, hWC.1, if_neg h4, hr1, Option.bind_some]
          show ok (if r < a3 then some (-2, C') else ((cSt_tell a4 C').bind _)) _
          by_cases h5 : r < a3
          · rw [if_pos h5, if_pos h5]
            exact ok_some ⟨rfl, hC2⟩
          · rw [if_neg h5, if_neg h5, t1, Option.bind_some]
            exact ok_some ⟨rfl, hC2⟩
        · unfold mm_state
          rw [ew, Option.bind_some]
          show ok ((mm_isWeek a2 Gw).bind _) _
          rw [hwk, Option.bind_some]
          show ok (if a3 < 0 then some (-2, upd2 Gw 201 37 (wkb a2)) else ((mm_runs a3 (upd2 Gw 201 37 (wkb a2))).bind _)) _
          rw [if_neg h3, hr2, Option.bind_some, e21]
          by_cases h5 : r < a3
          · rw [if_pos h5, if_neg (by omega)]
            exact ok_some ⟨rfl, m2, m3⟩
          · rw [if_neg h5, if_pos (by omega), t2, Option.bind_some]
            exact ok_some ⟨rfl, m2, m3⟩
  · exact week_absent hI hn rfl
theorem op28 : Op28 Inv := by
  intro Gc Gm hI a1 a2 a3 r1 r2 r3
  have hC : CInv Gc (Gm 202) (Gm 203) := hI
  by_cases hn : (0 ≤ a1 ∧ a1 < Gm 202 0) ∧ 0 ≤ a2 ∧ a2 < Gm 202 1
  · obtain ⟨⟨k0, k1⟩, q0, q1⟩ := hn
    obtain ⟨hp, hk2⟩ := paperAt_yes hC k0 k1
    obtain ⟨hw, hq2⟩ := weekAt_yes hC q0 q1
    obtain ⟨hW, hWC⟩ := hC.week hq2
    obtain ⟨hV, hP⟩ := hC.paper hk2
    have hW0 := hW.1
    obtain ⟨r, C', G', Gw, ew, hwk, hr1, hr2, e21, hr, hJ, e22, hC2, m2, m3⟩ := wkrun_ok (n := Gc (15 + 15 * a2) 0) (n' := 40) (L := ct 121 (Gm 202) (wkb a2) 0) hC k0 k1 q0 q1 (by rw [hWC.1]; omega) (by omega) hW0.1
    obtain ⟨f, N, hc, hg, hf, hN, ⟨⟨w1, w2, w3⟩, ⟨w4, w5, w6⟩, ⟨w7, w8, w9⟩, ⟨w10, w11⟩, w12⟩, ⟨E1, E2, E3⟩, -, -, -⟩ := hJ
    have hbc := cbusy_ok (c := G' 210) hV (o_or hk2) hc fun r r0 r1 => ⟨(w12 r r0 r1).2.1, (w12 r r0 r1).2.2.1⟩
    have hbm := mbusy_ok (c := G' 210) hV hg.1 fun r r0 r1 => rfl
    have hed := editions_ok (G := G') hg.1.1.2.1 hV.1 ⟨w5, by omega⟩
    refine op_q hI (if a3 = 0 then C' 57 9 else if a3 = 1 then buF (G' 210) (ct 80 (Gm 202) (pb a1) 1).toNat else if a3 = 2 then C' 57 10 else if a3 = 3 then C' 57 11 else if a3 = 4 then C' 57 12 else -2) ?_ ?_
    · unfold cX_after
      rw [hp, Option.bind_some, hw, Option.bind_some, if_neg (by omega), if_neg (by omega), hr1, Option.bind_some]
      show ok (if a3 = 0 then some (C' 57 9, C') else if a3 = 1 then ((cSt_busiest C').bind fun v92 => some (v92, C')) else if a3 = 2 then some (C' 57 10, C') else if a3 = 3 then some (C' 57 11, C') else if a3 = 4 then some (C' 57 12, C') else some ((-2), C')) _
      rw [hbc, Option.bind_some]
      refine ok_ite (fun e => ?_) (fun e => ok_ite (fun e2 => ?_) (fun e2 => ok_ite (fun e3 => ?_) (fun e3 => ok_ite (fun e4 => ?_) (fun e4 => ok_ite (fun e5 => ?_) (fun e5 => ?_)))))
      · rw [if_pos e]; exact ok_some ⟨rfl, hC2⟩
      · rw [if_neg e, if_pos e2]; exact ok_some ⟨rfl, hC2⟩
      · rw [if_neg e, if_neg e2, if_pos e3]; exact ok_some ⟨rfl, hC2⟩
      · rw [if_neg e, if_neg e2, if_neg e3, if_pos e4]; exact ok_some ⟨rfl, hC2⟩
      · rw [if_neg e, if_neg e2, if_neg e3, if_neg e4, if_pos e5]; exact ok_some ⟨rfl, hC2⟩
      · rw [if_neg e, if_neg e2, if_neg e3, if_neg e4, if_neg e5]; exact ok_some ⟨rfl, hC2⟩
    · unfold mm_after
      rw [ew, Option.bind_some]
      show ok ((mm_isWeek a2 Gw).bind _) _
      rw [hwk, Option.bind_some]
      show ok ((mm_runs 40 (upd2 Gw 201 37 (wkb a2))).bind _) _
      rw [hr2, Option.bind_some, hbm, Option.bind_some, hed, Option.bind_some]
      refine ok_ite (fun e => ?_) (fun e => ok_ite (fun e2 => ?_) (fun e2 => ok_ite (fun e3 => ?_) (fun e3 => ok_ite (fun e4 => ?_) (fun e4 => ok_ite (fun e5 => ?_) (fun e5 => ?_)))))
      · rw [if_pos e]; exact ok_some ⟨e22.symm, m2, m3⟩
      · rw [if_neg e, if_pos e2]; exact ok_some ⟨rfl, m2, m3⟩
      · rw [if_neg e, if_neg e2, if_pos e3]; exact ok_some ⟨w7.symm, m2, m3⟩
      · rw [if_neg e, if_neg e2, if_neg e3, if_pos e4]; exact ok_some ⟨w10.symm, m2, m3⟩
      · rw [if_neg e, if_neg e2, if_neg e3, if_neg e4, if_pos e5]; exact ok_some ⟨E1.symm, m2, m3⟩
      · rw [if_neg e, if_neg e2, if_neg e3, if_neg e4, if_neg e5]; exact ok_some ⟨rfl, m2, m3⟩
  · exact week_absent hI hn rfl
