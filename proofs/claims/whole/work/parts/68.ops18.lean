theorem node_all {P : Int → Int} {b r1 r2 D : Int} {Q : Int × Hp → Prop} (hV : PaperV P) (h1 : 0 ≤ r1 ∧ r1 < 6) (h2 : 0 ≤ r2 ∧ r2 < 6) (hD : D ≤ 4) : ∀ m : Nat, Node P b r1 r2 D Q m
  | 0 => node_0 hV h1 h2 hD
  | m + 1 => node_s hV h1 h2 hD (node_all hV h1 h2 hD m)
theorem Cq_t : ∀ m : Fin 5, Cq m.val ≤ 14761 := by decide +kernel
theorem whoAt_0 (a b : Int) : whoAt a b 0 = a := if_pos (by decide)
theorem whoAt_1 (a b : Int) : whoAt a b (0 + 1) = b := if_neg (by decide)
theorem quarrelOf_0 {P f : Int → Int} {b r1 r2 : Int} {G : Hp} (hV : PaperV P) (hS : QS P b f G) (h1 : 0 ≤ r1 ∧ r1 < 6) (h2 : 0 ≤ r2 ∧ r2 < 6) : ok (mm_quarrelOf r1 r2 0 G) (fun x => x.1 = ctn P r1 f - ctn P r2 f ∧ x.2 201 35 = G 201 35 ∧ Mq G x.2) := by
  have c1 := ctn_r hV r1 f
  have c2 := ctn_r hV r2 f
  unfold mm_quarrelOf mm_laysTurn
  rw [gd_ok (by omega) (by omega), gd_ok (by omega) (by omega), Option.bind_some]
  generalize hH : upd2 (upd2 G 216 0 (-1)) 218 0 99999999 = H
  have fr : ∀ a j, a ≠ 216 → a ≠ 218 → H a j = G a j := fun a j u v => by rw [← hH, upd2_o (by omega), upd2_o (by omega)]
  have hS' : QS P b f H := hS.fq (x := 0) (G' := H) ⟨fun a j u v w => by
    by_cases z : (a = 216 ∨ a = 217 ∨ a = 218) ∧ j < 0
    · rw [← hH, upd2_o (by omega), upd2_o (by omega)]
    · by_cases z2 : a = 216 ∨ a = 218
      · exact absurd ⟨by omega, by omega⟩ v
      · exact fr a j (by omega) (by omega), fun z => by omega⟩ fun p p0 p1 => by rw [fr _ _ (by omega) (by omega)]; exact hS.2.2 p p0 p1
  have e : FU = 99998 + 1 + 1 := rfl
  rw [e, L8_s _ (by omega)]
  unfold mm_quarrelOf_j25 mm_quarrelOf_j47 mm_quarrelOf_j114
  have e2 : FU = 99999 + 1 := rfl
  rw [if_pos rfl, e2, mm_quarrelOf_L49, if_neg (show ¬ ((9 : Int) < 8) by omega), if_pos (show (8 : Int) < 9 by omega), if_pos rfl, mcontent_ok hV hS'.1 hS'.2.2 h1.1 h1.2, Option.bind_some, mcontent_ok hV hS'.1 hS'.2.2 h2.1 h2.2, Option.bind_some, gd_ok (by omega) (by omega), w32_id (z := ctn P r1 f - ctn P r2 f) (by omega) (by omega), w32_id (z := 0 + (-1)) (by omega) (by omega), if_pos (by omega), mm_quarrelOf_L8, if_pos (by omega)]
  refine ok_some ⟨(show upd2 H 218 0 (ctn P r1 f - ctn P r2 f) 218 0 = _ from upd2_s), ?_, Mq.fr fun j => ⟨?_, ?_⟩⟩
  · show upd2 H 218 0 (ctn P r1 f - ctn P r2 f) 201 35 = _
    rw [upd2_o (by omega), fr _ _ (by omega) (by omega)]
  · show upd2 H 218 0 (ctn P r1 f - ctn P r2 f) 202 j = _
    rw [upd2_o (by omega), fr _ _ (by omega) (by omega)]
  · show upd2 H 218 0 (ctn P r1 f - ctn P r2 f) 203 j = _
    rw [upd2_o (by omega), fr _ _ (by omega) (by omega)]
theorem quarrelOf_s {P f : Int → Int} {b r1 r2 D : Int} {m : Nat} {G : Hp} (hV : PaperV P) (hS : QS P b f G) (hf : PV f) (h1 : 0 ≤ r1 ∧ r1 < 6) (h2 : 0 ≤ r2 ∧ r2 < 6) (hD : D = ((m + 1 : Nat) : Int)) (hm : m + 1 ≤ 4) : ok (mm_quarrelOf r1 r2 D G) (fun x => x.1 = qv P (m + 1) r1 r2 f ∧ QB (fun p => tp P r1 p f) (fun p => - qv P m r2 r1 (ud f p (tp P r1 p f))) (- qv P m r2 r1 f) (P 0) (x.2 201 35) ∧ Mq G x.2) := by
  unfold mm_quarrelOf
  refine ok_then (laysTurn_ok (x := 0) (by omega) (by omega)) fun G1 k1 => ?_
  obtain ⟨l1, l2, l3, l4⟩ := k1
  have hC : Cq (m + 1) ≤ 14761 := Cq_t ⟨m + 1, by omega⟩
  have eF : FU = 100000 := rfl
  refine node_all hV h1 h2 (by omega) (m + 1) 0 f G1 FU (by omega) (by omega) (by omega) (hS.fq l4 fun p p0 p1 => by rw [l3]; exact hS.2.2 p p0 p1) hf l1 l2 fun G' n' k s q e8 hB => ?_
  obtain ⟨n2, rfl⟩ : ∃ n2, n' = n2 + 1 := ⟨n' - 1, by omega⟩
  unfold mm_quarrelOf_j114
  rw [w32_id (z := 0 + (-1)) (by omega) (by omega), if_pos (by omega), mm_quarrelOf_L8, if_pos (by omega)]
  have hB2 := hB m rfl rfl
  have eq1 : ∀ g, Uq P r1 r2 (0 + 1) m g = qv P m r2 r1 g := fun g => by
    unfold Uq
    rw [whoAt_2, whoAt_0, whoAt_1]
  have eq0 : Uq P r1 r2 0 (m + 1) f = qv P (m + 1) r1 r2 f := by
    unfold Uq
    rw [whoAt_0, whoAt_1]
  rw [whoAt_0] at hB2
  simp only [eq1] at hB2
  have hq2 := l4.trans q
  refine ok_some ⟨?_, hB2, Mq.fr fun j => ⟨hq2.1 _ _ (by omega) (by omega) (by omega), hq2.1 _ _ (by omega) (by omega) (by omega)⟩⟩
  show G' 218 0 = _
  rw [e8, eq0]
  exact if_pos (by decide)
theorem op14 : Op14 Inv := by
  intro Gc Gm hI a1 a2 a3 a4 a5 r1 r2 r3 r4 r5
  have hC : CInv Gc (Gm 202) (Gm 203) := hI
  by_cases hk : 0 ≤ a1 ∧ a1 < Gm 202 0
  · obtain ⟨hp, hk2⟩ := paperAt_yes hC hk.1 hk.2
    obtain ⟨hV, hP⟩ := hC.paper hk2
    have hyes := isPaper_yes hC.av hk.1 hk.2
    generalize ct 80 (Gm 202) (pb a1) = P at *
    have h1 := hV.2.1
    have ho := o_or hk2
    have o0 : ¬ 7 + 15 * a1 < 0 := by omega
    generalize 7 + 15 * a1 = o at *
    by_cases hr : (0 ≤ a2 ∧ a2 < P 1) ∧ (0 ≤ a3 ∧ a3 < P 1) ∧ a2 ≠ a3 ∧ 0 ≤ a4 ∧ a4 ≤ 4
    · obtain ⟨⟨p0, p1⟩, ⟨q0, q1⟩, pq, d0, d1⟩ := hr
      have c1 := ctn_r hV a2 (sl P 2)
      have c2 := ctn_r hV a3 (sl P 2)
      have hcls : ∀ v : Int, (a5 = 0 → v = qv P a4.toNat a2 a3 (sl P 2)) → (a5 ≠ 0 → a4 = 0 → v = -1) → (a5 ≠ 0 → ∀ m : Nat, a4 = ((m + 1 : Nat) : Int) → QB (fun p => tp P a2 p (sl P 2)) (fun p => - qv P m a3 a2 (ud (sl P 2) p (tp P a2 p (sl P 2)))) (- qv P m a3 a2 (sl P 2)) (P 0) v) → ok (cX_quarrel a1 a2 a3 a4 a5 Gc) (fun r => r.1 = v ∧ CInv r.2 (Gm 202) (Gm 203)) := by
        intro v v0 v1 v2
        unfold cX_quarrel
        rw [hp, Option.bind_some, if_neg o0, if_neg (by omega), if_pos d1, if_neg pq, if_neg (by omega), if_neg (by omega), hP.1.2, if_pos p1, if_neg (by omega), content_ok hV hP p0 (by omega) hP.2.1, Option.bind_some, content_ok hV hP q0 (by omega) hP.2.1, Option.bind_some, w32_id (z := ctn P a2 (sl P 2) - ctn P a3 (sl P 2)) (by omega) (by omega)]
        refine ok_ite (fun e => ?_) (fun e => ok_ite (fun e2 => ok_some ⟨(v1 e e2).symm, hC⟩) (fun e2 => ?_))
        · refine ok_then (bestLead_ok hV a4.toNat 5 a2 a3 _ _ a4 (sl P 2) Gc (by omega) (by omega) (by omega) p0 (by omega) q0 (by omega) hP.2.1 hV.pv rfl hP) fun r hr => ok_some ⟨?_, hC.sq (Sq.ce ho hr.2)⟩
          rw [v0 e]
          exact hr.1
        · obtain ⟨m, hm⟩ : ∃ m : Nat, a4 = ((m + 1 : Nat) : Int) := ⟨a4.toNat - 1, by omega⟩
          refine ok_then (bestPlace_ok (m := m) hV hm (by omega) p0 (by omega) q0 (by omega) hP.2.1 hV.pv rfl hP) fun r hr => ok_some ⟨QB_one hr.1 (v2 e m hm), hC.sq (Sq.ce ho hr.2)⟩
      have hmod : ok (mm_quarrel a1 a2 a3 a4 a5 Gm) (fun r => ((a5 = 0 → r.1 = qv P a4.toNat a2 a3 (sl P 2)) ∧ (a5 ≠ 0 → a4 = 0 → r.1 = -1) ∧ (a5 ≠ 0 → ∀ m : Nat, a4 = ((m + 1 : Nat) : Int) → QB (fun p => tp P a2 p (sl P 2)) (fun p => - qv P m a3 a2 (ud (sl P 2) p (tp P a2 p (sl P 2)))) (- qv P m a3 a2 (sl P 2)) (P 0) r.1)) ∧ r.2 202 = Gm 202 ∧ r.2 203 = Gm 203) := by
        unfold mm_quarrel
        refine ok_then hyes fun r hr2 => ?_
        obtain ⟨e1, e2, e3, e4⟩ := hr2
        have hS : QS P (pb a1) (sl P 2) (upd2 r.2 201 35 (-1)) := ⟨e2.1.fr (fun j z => upd2_o (by omega)) (fun j => upd2_o (by omega)), e2.2.1.fr (fun j => upd2_o (by omega)) (fun j => upd2_o (by omega)), fun p z0 z1 => by rw [upd2_o (by omega)]; exact (e2.2.2.1 p z0 z1).1⟩
        have hMq : ∀ G' : Hp, Mq (upd2 r.2 201 35 (-1)) G' → G' 202 = Gm 202 ∧ G' 203 = Gm 203 := fun G' h => ⟨h.1.trans ((funext fun j => upd2_o (by omega)).trans e3), h.2.trans ((funext fun j => upd2_o (by omega)).trans e4)⟩
        rw [e1, if_tt, isReader_ok hV e2.1, Option.bind_some, decide_eq_true (show 0 ≤ a2 ∧ a2 < P 1 from ⟨p0, p1⟩), if_tt, isReader_ok hV e2.1, Option.bind_some, decide_eq_true (show 0 ≤ a3 ∧ a3 < P 1 from ⟨q0, q1⟩), if_tt, if_neg pq, isIn_eq, decide_eq_true (show 0 ≤ a4 ∧ a4 ≤ 4 from ⟨d0, d1⟩), if_tt]
        by_cases hd : a4 = 0
        · rw [hd]
          refine ok_then (quarrelOf_0 hV hS ⟨p0, by omega⟩ ⟨q0, by omega⟩) fun x hx => ?_
          refine ok_ite (fun e => ok_some ⟨⟨fun _ => hx.1, fun z => absurd e z, fun z => absurd e z⟩, hMq _ hx.2.2⟩) (fun e => ok_some ⟨⟨fun z => absurd z e, fun _ _ => ?_, fun _ m hm => by omega⟩, hMq _ hx.2.2⟩)
          show x.2 201 35 = -1
          rw [hx.2.1, upd2_s]
        · obtain ⟨m, hm⟩ : ∃ m : Nat, a4 = ((m + 1 : Nat) : Int) := ⟨a4.toNat - 1, by omega⟩
          refine ok_then (quarrelOf_s (m := m) hV hS hV.pv ⟨p0, by omega⟩ ⟨q0, by omega⟩ hm (by omega)) fun x hx => ?_
          refine ok_ite (fun e => ok_some ⟨⟨fun _ => ?_, fun z => absurd e z, fun z => absurd e z⟩, hMq _ hx.2.2⟩) (fun e => ok_some ⟨⟨fun z => absurd z e, fun _ z => absurd z hd, fun _ m' hm' => ?_⟩, hMq _ hx.2.2⟩)
          · show x.1 = _
            rw [hx.1, show a4.toNat = m + 1 by omega]
          · have : m' = m := by omega
            rw [this]
            exact hx.2.1
      obtain ⟨rm, em, ⟨⟨m1, m2, m3⟩, m4⟩⟩ := hmod
      exact op_q hI rm.1 (hcls rm.1 m1 m2 m3) ⟨rm, em, rfl, m4⟩
    · refine op_q hI (-99) ?_ ?_
      · unfold cX_quarrel
        rw [hp, Option.bind_some, if_neg o0, hP.1.2]
        refine ok_ite (fun e => ok_some ⟨rfl, hC⟩) (fun e => ok_ite (fun e2 => ok_ite (fun e3 => ok_some ⟨rfl, hC⟩) (fun e3 => ok_ite (fun e4 => ok_some ⟨rfl, hC⟩) (fun e4 => ok_ite (fun e5 => ok_some ⟨rfl, hC⟩) (fun e5 => ok_ite (fun e6 => ok_ite (fun e7 => ok_some ⟨rfl, hC⟩) (fun e7 => absurd ⟨⟨by omega, e6⟩, ⟨by omega, by omega⟩, e3, by omega, e2⟩ hr)) (fun e6 => ok_some ⟨rfl, hC⟩))))) (fun e2 => ok_some ⟨rfl, hC⟩))
      · unfold mm_quarrel
        refine ok_then hyes fun r hr2 => ?_
        obtain ⟨e1, e2, e3, e4⟩ := hr2
        rw [e1, if_tt, isReader_ok hV e2.1, Option.bind_some, isReader_ok hV e2.1, Option.bind_some]
        by_cases d1 : 0 ≤ a2 ∧ a2 < P 1
        · rw [decide_eq_true d1, if_tt]
          by_cases d2 : 0 ≤ a3 ∧ a3 < P 1
          · rw [decide_eq_true d2, if_tt]
            refine ok_ite (fun e => ok_some ⟨rfl, e3, e4⟩) (fun e => ?_)
            rw [isIn_eq, decide_eq_false (fun z => hr ⟨d1, d2, e, z.1, z.2⟩), if_ff]
            exact ok_some ⟨rfl, e3, e4⟩
          · rw [decide_eq_false d2, if_ff]
            exact ok_some ⟨rfl, e3, e4⟩
        · rw [decide_eq_false d1, if_ff]
          exact ok_some ⟨rfl, e3, e4⟩
  · refine op_q hI (-99) ?_ ?_
    · unfold cX_quarrel
      rw [paperAt_no hC hk, Option.bind_some, if_pos (by omega)]
      exact ok_some ⟨rfl, hC⟩
    · unfold mm_quarrel
      rw [isPaper_no hC.av hk, Option.bind_some, if_ff]
      exact ok_some ⟨rfl, rfl, rfl⟩
