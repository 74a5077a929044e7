-- the order by which most are content
def cA (P : Int → Int) (k : Int) : Int := ctA P (prf P k)
def bsR (P : Int → Int) : Int := mnI (fun k => - cA P k) (PRm (P 1).toNat - 1).toNat
theorem mostContent_ok {G : Hp} {P : Int → Int} (hV : PaperV P) (hR : RowsOf G P) : cRw_mostContent G = some (bsR P) := by
  apply ok_iff
  have h1 := hV.2.1
  have hM := PRm_r (show (P 1).toNat ≤ 6 by omega)
  obtain ⟨r1, r2, r3, r4⟩ := hR
  unfold cRw_mostContent
  refine lp_up (fun n i (s : Int) => cRw_mostContent_L4 G n s i) (PRm (P 1).toNat) (fun i s => 1 ≤ i ∧ s = mnI (fun k => - cA P k) (i - 1).toNat) ?_ ?_ (by omega) (by omega) (by omega) ⟨by omega, rfl⟩
  · intro n i s i0 i1 hI ih
    obtain ⟨g0, g1⟩ := hI
    have hs := mnI_s (fun k => - cA P k) g0
    have hb := mnI_r (fun k => - cA P k) (i - 1).toNat
    rw [← g1] at hs hb
    show ok (cRw_mostContent_L4 G (n + 1) s i) _
    rw [cRw_mostContent_L4, r1, if_pos i1, gd_ok i0 (by omega), gd_ok (by omega) (by omega), (r4 s (by omega) (by omega)).2.2, (r4 i i0 i1).2.2, w32_id (by omega) (by omega)]
    have e1 : ctA P (prf P s) = cA P s := rfl
    have e2 : ctA P (prf P i) = cA P i := rfl
    rw [e1, e2]
    refine ok_ite (fun e => ih _ ⟨by omega, ?_⟩) (fun e => ih _ ⟨by omega, ?_⟩)
    · rw [hs, if_pos (by omega)]
    · rw [hs, if_neg (by omega)]
  · intro n s hI
    show ok (cRw_mostContent_L4 G (n + 1) s (PRm (P 1).toNat)) _
    rw [cRw_mostContent_L4, r1, if_neg (by omega)]
    exact ok_some hI.2
theorem bsR_r {P : Int → Int} (hV : PaperV P) : 0 ≤ bsR P ∧ bsR P < PRm (P 1).toNat := by
  have h1 := hV.2.1
  have hM := PRm_r (show (P 1).toNat ≤ 6 by omega)
  have := mnI_r (fun k => - cA P k) (PRm (P 1).toNat - 1).toNat
  unfold bsR
  omega
/-- the model's row in hand -/
def RwM (G : Hp) (P : Int → Int) (k : Int) : Prop := ∀ i : Int, 0 ≤ i → i < (P 1).toNat → G 213 i = rk (P 1).toNat k i
theorem nextM {G : Hp} {b k : Int} {P N : Int → Int} (hV : PaperV P) (hM : MW P N b G) (k0 : 0 ≤ k) (k1 : k < PRm (P 1).toNat) (hr : RwM G P k) :
    ok (mm_nextRow G) (fun x => MW P N b x.2 ∧ (∀ a j, a ≠ 213 → x.2 a j = G a j) ∧ (k + 1 < PRm (P 1).toNat → x.1 = true ∧ RwM x.2 P (k + 1)) ∧ (k + 1 = PRm (P 1).toNat → x.1 = false)) := by
  have h1 := hV.2.1
  have hN : (P 1).toNat ≤ 6 := by omega
  have en : (((P 1).toNat : Nat) : Int) = P 1 := by omega
  have row2 : ∀ j : Int, 0 ≤ j → j < P 1 → G 213 j = rk (P 1).toNat k j := fun j j0 j1 => hr j j0 (by omega)
  have hA : nxA (P 1) (fun i => G 213 i) = nxA (P 1) (rk (P 1).toNat k) := nxA_congr row2
  refine ok_mono (nextRow_ok (row := fun i => G 213 i) h1.1 h1.2 hM.1.1.2.2 (fun _ _ _ => rfl)) fun z hz => ?_
  by_cases hlast : k + 1 = PRm (P 1).toNat
  · have hl := rk_last hN hlast
    rw [en] at hl
    have hz1 := hz.1 (by rw [hA]; exact hl)
    rw [hz1]
    exact ⟨hM, fun _ _ _ => rfl, fun q => by omega, fun _ => rfl⟩
  · have hst := rk_step hN k0 (show k + 1 < PRm (P 1).toNat by omega)
    rw [en] at hst
    have hz2 := hz.2 (by rw [hA]; exact hst.1)
    refine ⟨hM.fr fun a j q => hz2.2.2 a j (by omega), hz2.2.2, fun _ => ⟨hz2.1, fun j j0 j1 => ?_⟩, fun q => absurd q hlast⟩
    rw [hz2.2.1 j j0 (by omega), nxR_congr (n := P 1) row2 (by rw [hA]; exact hst.1) j j0 (by omega)]
    exact (hst.2 j j0 (by omega)).1
theorem readsRk {G : Hp} {b k : Int} {P : Int → Int} (hV : PaperV P) (hM : MW P (sl P 10) b G) (k0 : 0 ≤ k) (k1 : k < PRm (P 1).toNat) (hr : RwM G P k) :
    ok (mm_readsRow G) (fun x => x.1 = cA P k ∧ MW P (sl P 10) b x.2 ∧ (∀ p, 0 ≤ p → p < 8 → x.2 207 p = prf P k p) ∧ RwM x.2 P k ∧ Mh G x.2) := by
  have h1 := hV.2.1
  have hN : (P 1).toNat ≤ 6 := by omega
  refine ok_mono (readsRow_ok (row := rk (P 1).toNat k) hV hM fun i i0 i1 => ?_) fun x hx => ?_
  · have := (rk_all hN k0 k1 i0 (show i < ((P 1).toNat : Int) by omega)).1
    exact ⟨hr i i0 (by omega), by omega, by omega⟩
  · rw [rwN_prR] at hx
    refine ⟨hx.1, hx.2.1, hx.2.2.1, fun i i0 i1 => ?_, hx.2.2.2⟩
    rw [hx.2.2.2 _ _ (by omega) (by omega) (by omega) (by omega) (by omega)]
    exact hr i i0 i1
theorem op12 : Op12 Inv := by
  intro Gc Gm hI a1 a2 r1 r2
  have hC : CInv Gc (Gm 202) (Gm 203) := hI
  by_cases hk : 0 ≤ a1 ∧ a1 < Gm 202 0
  · obtain ⟨hp, hk2⟩ := paperAt_yes hC hk.1 hk.2
    obtain ⟨hV, hP⟩ := hC.paper hk2
    have hyes := isPaper_yes hC.av hk.1 hk.2
    have hmk := make_ok hC hk2
    generalize ct 80 (Gm 202) (pb a1) = P at *
    have h1 := hV.2.1
    have hN : (P 1).toNat ≤ 6 := by omega
    have hM := PRm_r hN
    have hb := bsR_r hV
    have o0 : ¬ 7 + 15 * a1 < 0 := by omega
    generalize 7 + 15 * a1 = o at *
    by_cases hr : a2 = -1 ∨ (0 ≤ a2 ∧ a2 < P 1)
    · refine op_q hI (if a2 = -1 then cA P (bsR P) else rk (P 1).toNat (bsR P) a2) ?_ ?_
      · unfold cX_order
        rw [hp, Option.bind_some, if_neg o0, if_pos (by omega), hP.1.2, if_neg (by omega)]
        refine ok_then hmk fun G1 hG1 => ?_
        obtain ⟨g1, g2, g3, g4⟩ := hG1
        rw [mostContent_ok hV g4, Option.bind_some]
        refine ok_ite (fun e => ok_gd hb.1 (by omega) (ok_some ⟨?_, g1⟩)) (fun e => ?_)
        · rw [if_pos e]
          exact (g4.2.2.2 _ hb.1 hb.2).2.2
        · rw [readerAt_ok hV g4 hb.1 hb.2, Option.bind_some, if_pos (by omega)]
          exact ok_some ⟨by rw [if_neg e], g1⟩
      · unfold mm_order
        refine ok_then hyes fun r hr2 => ?_
        obtain ⟨e1, e2, e3, e4⟩ := hr2
        have hW := e2.mw
        have hq0 : Mq Gm r.2 := ⟨e3, e4⟩
        have key : ok (mm_order_j23 a1 a2 r.2) (fun x => x.1 = (if a2 = -1 then cA P (bsR P) else rk (P 1).toNat (bsR P) a2) ∧ x.2 202 = Gm 202 ∧ x.2 203 = Gm 203) := by
          unfold mm_order_j23
          refine ok_then firstRow_ok fun G0 hG0 => ?_
          refine lp_up (fun n k (s : Int × Int × Hp) => mm_order_L32 a1 a2 (fun x3_91 G_91 => if a2 = (-1) then some (x3_91, G_91) else (gd a2 6 (some (G_91 214 a2, G_91)))) n s.1 s.2.1 s.2.2) (PRm (P 1).toNat) (fun k s => MW P (sl P 10) (pb a1) s.2.2 ∧ Mq Gm s.2.2 ∧ (k < PRm (P 1).toNat → s.2.1 = 1 ∧ RwM s.2.2 P k) ∧ (k = PRm (P 1).toNat → s.2.1 = 0) ∧ (k = 0 ∧ s.1 = -1 ∨ 1 ≤ k ∧ s.1 = cA P (mnI (fun k => - cA P k) (k - 1).toNat) ∧ ∀ i : Int, 0 ≤ i → i < P 1 → s.2.2 214 i = rk (P 1).toNat (mnI (fun k => - cA P k) (k - 1).toNat) i)) ?_ ?_ (i := 0) (by omega) (by omega) (by omega) (s := (-1, 1, G0)) ⟨hW.fr fun a j z => hG0.2 a j (by omega), hq0.trans (Mq.fr fun j => ⟨hG0.2 _ _ (by omega), hG0.2 _ _ (by omega)⟩), fun _ => ⟨rfl, fun i i0 i1 => ?_⟩, fun q => by omega, Or.inl ⟨rfl, rfl⟩⟩
          · intro n k s k0 k1 hI2 ih
            obtain ⟨most, goes, G1⟩ := s
            obtain ⟨q1, q2, q3, q4, q5⟩ := hI2
            obtain ⟨q6, q7⟩ := q3 k1
            simp only at q1 q2 q5 q6 q7
            show ok (mm_order_L32 a1 a2 _ (n + 1) most goes G1) _
            rw [mm_order_L32, if_neg (by omega)]
            refine ok_then (readsRk hV q1 k0 k1 q7) fun y hy => ?_
            obtain ⟨y1, y2, y3, y4, y5⟩ := hy
            have hcv := ctA_r hV (prf P k)
            have hcv2 : 0 ≤ cA P k ∧ cA P k ≤ 48 := hcv
            -- on to the next row
            have nxt : ∀ (m2 : Int) (G2 : Hp), MW P (sl P 10) (pb a1) G2 → Mq Gm G2 → RwM G2 P k → (m2 = cA P (mnI (fun k => - cA P k) (k + 1 - 1).toNat) ∧ ∀ i : Int, 0 ≤ i → i < P 1 → G2 214 i = rk (P 1).toNat (mnI (fun k => - cA P k) (k + 1 - 1).toNat) i) → ok (mm_order_j82 a1 a2 (mm_order_L32 a1 a2 (fun x3_91 G_91 => if a2 = (-1) then some (x3_91, G_91) else (gd a2 6 (some (G_91 214 a2, G_91)))) n) m2 G2) (fun x => x.1 = (if a2 = -1 then cA P (bsR P) else rk (P 1).toNat (bsR P) a2) ∧ x.2 202 = Gm 202 ∧ x.2 203 = Gm 203) := by
              intro m2 G2 p1 p2 p3 p4
              unfold mm_order_j82
              refine ok_then (nextM hV p1 k0 k1 p3) fun z hz => ih (m2, b2i z.1, z.2) ⟨hz.1, p2.trans (Mq.fr fun j => ⟨hz.2.1 _ _ (by omega), hz.2.1 _ _ (by omega)⟩), fun q => ?_, fun q => ?_, Or.inr ⟨by omega, p4.1, fun i i0 i1 => ?_⟩⟩
              · obtain ⟨z1, z2⟩ := hz.2.2.1 q
                exact ⟨by show b2i z.1 = 1; rw [z1]; rfl, z2⟩
              · show b2i z.1 = 0
                rw [hz.2.2.2 q]
                rfl
              · show z.2 214 i = _
                rw [hz.2.1 _ _ (by omega)]
                exact p4.2 i i0 i1
            rw [y1]
            refine ok_ite (fun e => ?_) (fun e => ?_)
            · have hnew : mnI (fun k => - cA P k) (k + 1 - 1).toNat = k := by
                rcases q5 with ⟨f1, f2⟩ | ⟨f1, f2, f3⟩
                · rw [f1]
                  rfl
                · have hs := mnI_s (fun k => - cA P k) f1
                  rw [hs, if_pos (by omega)]
              refine lp_up (fun n2 i (s : Hp) => mm_order_L55 a1 a2 (cA P k) (mm_order_j82 a1 a2 (mm_order_L32 a1 a2 (fun x3_91 G_91 => if a2 = (-1) then some (x3_91, G_91) else (gd a2 6 (some (G_91 214 a2, G_91)))) n)) n2 i s) 6 (fun i s => (∀ j : Int, 0 ≤ j → j < i → s 214 j = y.2 213 j) ∧ ∀ a j, a ≠ 214 → s a j = y.2 a j) ?_ ?_ (by omega) (by omega) (by omega) ⟨fun j j0 j1 => by omega, fun _ _ _ => rfl⟩
              · intro n2 i s i0 i1 hI3 ih2
                show ok (mm_order_L55 a1 a2 (cA P k) _ (n2 + 1) i s) _
                rw [mm_order_L55, if_pos i1, gd_ok i0 i1, gd_ok i0 i1, w32_id (by omega) (by omega), hI3.2 213 i (by omega)]
                refine ih2 _ ⟨fun j j0 j1 => ?_, fun a j z => ?_⟩
                · by_cases hj : j = i
                  · rw [upd2_e rfl hj, hj]
                  · rw [upd2_o (by omega)]
                    exact hI3.1 j j0 (by omega)
                · rw [upd2_o (by omega)]
                  exact hI3.2 a j z
              · intro n2 s hI3
                show ok (mm_order_L55 a1 a2 (cA P k) _ (n2 + 1) 6 s) _
                rw [mm_order_L55, if_neg (by omega)]
                refine nxt _ s (y2.fr fun a j z => hI3.2 a j (by omega)) ((q2.trans y5.mq).trans (Mq.fr fun j => ⟨hI3.2 _ _ (by omega), hI3.2 _ _ (by omega)⟩)) (fun i i0 i1 => by rw [hI3.2 _ _ (by omega)]; exact y4 i i0 i1) ⟨by rw [hnew], fun i i0 i1 => ?_⟩
                rw [hnew, hI3.1 i i0 (by omega)]
                exact y4 i i0 (by omega)
            · have hold : 1 ≤ k ∧ mnI (fun k => - cA P k) (k + 1 - 1).toNat = mnI (fun k => - cA P k) (k - 1).toNat := by
                rcases q5 with ⟨f1, f2⟩ | ⟨f1, f2, f3⟩
                · omega
                · have hs := mnI_s (fun k => - cA P k) f1
                  rw [if_neg (by omega)] at hs
                  exact ⟨f1, hs⟩
              rcases q5 with ⟨f1, f2⟩ | ⟨f1, f2, f3⟩
              · omega
              · refine nxt _ y.2 y2 (q2.trans y5.mq) y4 ⟨by rw [hold.2]; exact f2, fun i i0 i1 => ?_⟩
                rw [hold.2, y5 _ _ (by omega) (by omega) (by omega) (by omega) (by omega)]
                exact f3 i i0 i1
          · intro n s hI2
            obtain ⟨most, goes, G1⟩ := s
            obtain ⟨q1, q2, q3, q4, q5⟩ := hI2
            have q6 : goes = 0 := q4 rfl
            simp only at q1 q2 q5
            show ok (mm_order_L32 a1 a2 _ (n + 1) most goes G1) _
            rw [mm_order_L32, if_pos q6]
            rcases q5 with ⟨f1, f2⟩ | ⟨f1, f2, f3⟩
            · omega
            · refine ok_ite (fun e => ok_some ⟨?_, q2⟩) (fun e => ok_gd (by omega) (by omega) (ok_some ⟨?_, q2⟩))
              · rw [if_pos e]
                exact f2
              · rw [if_neg e]
                exact f3 a2 (by omega) (by omega)
          · show G0 213 i = _
            rw [hG0.1 i i0 (by omega), rk_0 hN i0 i1]
        rw [e1, if_tt]
        refine ok_ite (fun e => key) (fun e => ?_)
        rw [isReader_ok hV e2.1, Option.bind_some, decide_eq_true (by omega), if_tt]
        exact key
    · refine op_q hI (-1) ?_ ?_
      · unfold cX_order
        rw [hp, Option.bind_some, if_neg o0, hP.1.2]
        refine ok_ite (fun g0 => ok_ite (fun g1 => ok_some ⟨rfl, hC⟩) (fun g1 => absurd (by omega) hr)) (fun g0 => ok_some ⟨rfl, hC⟩)
      · unfold mm_order
        refine ok_then hyes fun r hr2 => ?_
        obtain ⟨e1, e2, e3, e4⟩ := hr2
        rw [e1, if_tt, if_neg (fun z => hr (Or.inl z)), isReader_ok hV e2.1, Option.bind_some, decide_eq_false (fun z => hr (Or.inr z)), if_ff]
        exact ok_some ⟨rfl, e3, e4⟩
  · refine op_q hI (-1) ?_ ?_
    · unfold cX_order
      rw [paperAt_no hC hk, Option.bind_some, if_pos (by omega)]
      exact ok_some ⟨rfl, hC⟩
    · unfold mm_order
      rw [isPaper_no hC.av hk, Option.bind_some, if_ff]
      exact ok_some ⟨rfl, rfl, rfl⟩
