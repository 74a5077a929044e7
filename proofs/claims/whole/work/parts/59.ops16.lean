theorem ahA_k {fit : Int → Bool} {P : Int → Int} (hV : PaperV P) {a b : Int} (a0 : 0 ≤ a) (a1 : a < P 1) (b0 : 0 ≤ b) (b1 : b < P 1) : ∀ k : Nat, (k : Int) ≤ PRm (P 1).toNat → 0 ≤ fF fit (ahA P a b) 0 k ∧ fF fit (ahA P a b) 0 k ≤ k
  | 0, _ => ⟨Int.le_refl 0, Int.le_refl 0⟩
  | k + 1, hk => by
    have h1 := hV.2.1
    have hN : (P 1).toNat ≤ 6 := by omega
    have ih := ahA_k (fit := fit) hV a0 a1 b0 b1 k (by omega)
    have hall := fun i i0 i1 => rk_all hN (show 0 ≤ (k : Int) by omega) (show (k : Int) < PRm (P 1).toNat by omega) (i := i) i0 i1
    obtain ⟨ia, ia0, ia1, ia2⟩ := (hall a a0 (by omega)).2.2.1
    obtain ⟨ib, ib0, ib1, ib2⟩ := (hall b b0 (by omega)).2.2.1
    have hpr := prs_one ia0 ia1 ib0 ib1 ia2 ib2 fun i j i0 i1 j0 j1 hij => (hall i i0 i1).2.1 j j0 j1 hij
    have hb := b2i_b (decide (ia < ib))
    rw [← hpr] at hb
    show 0 ≤ (if fit (k : Int) = true then fF fit (ahA P a b) 0 k + prs (rk (P 1).toNat (k : Int)) (P 1).toNat a b else fF fit (ahA P a b) 0 k) ∧ (if fit (k : Int) = true then fF fit (ahA P a b) 0 k + prs (rk (P 1).toNat (k : Int)) (P 1).toNat a b else fF fit (ahA P a b) 0 k) ≤ _
    split <;> omega
theorem op20 : Op20 Inv := by
  intro Gc Gm hI a1 a2 a3 a4 a5 r1 r2 r3 r4 r5
  have hC : CInv Gc (Gm 202) (Gm 203) := hI
  by_cases hk : 0 ≤ a1 ∧ a1 < Gm 202 0
  · obtain ⟨hp, hk2⟩ := paperAt_yes hC hk.1 hk.2
    obtain ⟨hV, hP⟩ := hC.paper hk2
    have hyes := isPaper_yes hC.av hk.1 hk.2
    by_cases hq : 0 ≤ a2 ∧ a2 < Gm 202 2
    · obtain ⟨hl, hl2⟩ := logAt_yes hC hq.1 hq.2
      obtain ⟨hL, hLC⟩ := hC.log hl2
      have hch := fun (K : Hp → Option (Int × Hp)) (Q : Int × Hp → Prop) => chosen_ok (K := K) (Q := Q) hC hk2 hl2
      have hbb : 1012 ≤ lgb a2 ∧ lgb a2 ≤ 1029 := by unfold lgb; omega
      have hA : ∀ j, 0 ≤ j → j < 17 → Gm 202 (lgb a2 + j) = ct 17 (Gm 202) (lgb a2) j := fun j j0 j1 => (ct_at j0 j1).symm
      generalize ct 80 (Gm 202) (pb a1) = P at *
      generalize ct 17 (Gm 202) (lgb a2) = Lg at *
      have h1 := hV.2.1
      have hMr := PRm_r (show (P 1).toNat ≤ 6 by omega)
      have hP2 : Gc (7 + 15 * a1) 2 = P 1 := hP.1.2
      have o0 : ¬ 7 + 15 * a1 < 0 := by omega
      have l0 : ¬ 19 + 15 * a2 < 0 := by omega
      by_cases hr : (0 ≤ a3 ∧ a3 < P 1) ∧ (0 ≤ a4 ∧ a4 < P 1) ∧ a3 ≠ a4
      · obtain ⟨⟨p0, p1⟩, ⟨q0, q1⟩, pq⟩ := hr
        have hc := cntF_r (fit := ftB P Lg) (PRm (P 1).toNat).toNat
        have hah := ahA_k (fit := ftB P Lg) hV p0 p1 q0 q1 (PRm (P 1).toNat).toNat (by omega)
        refine op_q hI (if cntF (ftB P Lg) (PRm (P 1).toNat).toNat = 0 then -1 else w32 (lst (fF (ftB P Lg) (ahA P a3 a4) 0 (PRm (P 1).toNat).toNat) (cntF (ftB P Lg) (PRm (P 1).toNat).toNat) a5)) ?_ ?_
        · unfold cX_ahead
          rw [hp, Option.bind_some, hl, Option.bind_some, if_neg o0, if_neg l0, if_neg pq, if_neg (by omega), if_neg (by omega), hP2, if_pos p1, if_neg (by omega)]
          refine hch _ _ fun G1 g1 g2 g3 g4 => ?_
          rw [g4.1, manyAhead_ok hV g3 g4 p0 p1 q0 q1 pq, Option.bind_some]
          refine ok_ite (fun e => ok_some ⟨by rw [if_pos e], g1⟩) (fun e => ?_)
          rw [inLeast_ok (by omega) (by omega) (by omega) (by omega), Option.bind_some, if_neg e]
          exact ok_some ⟨rfl, g1⟩
        · unfold mm_ahead
          refine ok_then hyes fun r hr => ?_
          obtain ⟨e1, e2, e3, e4⟩ := hr
          have hAr : AV0 (r.2 202) := by rw [e3]; exact hC.av
          have u2 : upd2 r.2 201 39 (lgb a2) 202 = Gm 202 := by rw [← e3]; exact funext fun j => upd2_o (by omega)
          have u3 : upd2 r.2 201 39 (lgb a2) 203 = Gm 203 := by rw [← e4]; exact funext fun j => upd2_o (by omega)
          have hMr : MW P (sl P 10) (pb a1) (upd2 r.2 201 39 (lgb a2)) := e2.mw.l39
          rw [e1, if_tt, isLog_yes hAr hq.1 (by rw [e3]; exact hq.2), Option.bind_some, if_tt, isReader_ok hV hMr.1, Option.bind_some, isReader_ok hV hMr.1, Option.bind_some]
          rw [decide_eq_true (show 0 ≤ a3 ∧ a3 < P 1 from ⟨p0, p1⟩), if_tt, decide_eq_true (show 0 ≤ a4 ∧ a4 < P 1 from ⟨q0, q1⟩), if_tt, if_neg pq]
          refine ok_then (laysFits_ok (a := -1) (P := P) (Lg := Lg) (b0 := lgb a2) hV hL hMr (show upd2 r.2 201 39 (lgb a2) 201 39 = lgb a2 from upd2_s) hbb (fun j j0 j1 => (congrFun u2 _).trans (hA j j0 j1))) fun x hx => ?_
          obtain ⟨x1, x2, x3, x4⟩ := hx
          have hm : x.2 202 = Gm 202 ∧ x.2 203 = Gm 203 := ⟨x4.1.trans u2, x4.2.trans u3⟩
          rw [x2.1.1]
          refine ok_ite (fun e => ok_some ⟨by rw [if_pos e], hm⟩) (fun e => ?_)
          rw [w32_id (z := 6 * a3) (by omega) (by omega), w32_id (z := 6 * a3 + a4) (by omega) (by omega), gd_ok (by omega) (by omega), x2.2.2.2 a3 a4 p0 p1 q0 q1, parted_ok (by omega) (by omega) (by omega) (by omega), Option.bind_some, if_neg e]
          exact ok_some ⟨rfl, hm⟩
      · refine op_q hI (-1) ?_ ?_
        · unfold cX_ahead
          rw [hp, Option.bind_some, hl, Option.bind_some, if_neg o0, if_neg l0, hP2]
          refine ok_ite (fun e => ok_some ⟨rfl, hC⟩) (fun e => ok_ite (fun e2 => ok_some ⟨rfl, hC⟩) (fun e2 => ok_ite (fun e3 => ok_some ⟨rfl, hC⟩) (fun e3 => ok_ite (fun e4 => ok_ite (fun e5 => ok_some ⟨rfl, hC⟩) (fun e5 => absurd ⟨⟨by omega, e4⟩, ⟨by omega, by omega⟩, e⟩ hr)) (fun e4 => ok_some ⟨rfl, hC⟩))))
        · unfold mm_ahead
          refine ok_then hyes fun r hr => ?_
          obtain ⟨e1, e2, e3, e4⟩ := hr
          have hAr : AV0 (r.2 202) := by rw [e3]; exact hC.av
          have u2 : upd2 r.2 201 39 (lgb a2) 202 = Gm 202 := by rw [← e3]; exact funext fun j => upd2_o (by omega)
          have u3 : upd2 r.2 201 39 (lgb a2) 203 = Gm 203 := by rw [← e4]; exact funext fun j => upd2_o (by omega)
          have hMr : MW P (sl P 10) (pb a1) (upd2 r.2 201 39 (lgb a2)) := e2.mw.l39
          rw [e1, if_tt, isLog_yes hAr hq.1 (by rw [e3]; exact hq.2), Option.bind_some, if_tt, isReader_ok hV hMr.1, Option.bind_some, isReader_ok hV hMr.1, Option.bind_some]
          by_cases d1 : 0 ≤ a3 ∧ a3 < P 1
          · rw [decide_eq_true d1, if_tt]
            by_cases d2 : 0 ≤ a4 ∧ a4 < P 1
            · rw [decide_eq_true d2, if_tt, if_pos (show a3 = a4 by
                by_cases d3 : a3 = a4
                · exact d3
                · exact absurd ⟨d1, d2, d3⟩ hr)]
              exact ok_some ⟨rfl, u2, u3⟩
            · rw [decide_eq_false d2, if_ff]
              exact ok_some ⟨rfl, u2, u3⟩
          · rw [decide_eq_false d1, if_ff]
            exact ok_some ⟨rfl, u2, u3⟩
    · refine op_q hI (-1) ?_ ?_
      · unfold cX_ahead
        rw [hp, Option.bind_some, logAt_no hC hq, Option.bind_some, if_neg (by omega), if_pos (by omega)]
        exact ok_some ⟨rfl, hC⟩
      · unfold mm_ahead
        refine ok_then hyes fun r hr => ?_
        obtain ⟨e1, e2, e3, e4⟩ := hr
        have hAr : AV0 (r.2 202) := by rw [e3]; exact hC.av
        rw [e1, if_tt, isLog_no hAr (by rw [e3]; exact hq), Option.bind_some, if_ff]
        exact ok_some ⟨rfl, e3, e4⟩
  · refine op_q hI (-1) ?_ ?_
    · unfold cX_ahead
      rw [paperAt_no hC hk, Option.bind_some]
      by_cases hq : 0 ≤ a2 ∧ a2 < Gm 202 2
      · rw [(logAt_yes hC hq.1 hq.2).1, Option.bind_some, if_pos (by omega)]
        exact ok_some ⟨rfl, hC⟩
      · rw [logAt_no hC hq, Option.bind_some, if_pos (by omega)]
        exact ok_some ⟨rfl, hC⟩
    · unfold mm_ahead
      rw [isPaper_no hC.av hk, Option.bind_some, if_ff]
      exact ok_some ⟨rfl, rfl, rfl⟩
