def svT (B : Int) : Int := if B = 1 then 0 else if B = 2 then 1 else if B = 4 then 2 else if B = 8 then 3 else if B = 16 then 4 else if B = 32 then 5 else -1
theorem sv1_t : ∀ r : Fin 6, (svT (ishl 1 (r.val : Int)) = (r.val : Int) ∧ pop (ishl 1 (r.val : Int)) = 1) ∧ ∀ x : Fin 6, ishr (ishl 1 (r.val : Int)) (x.val : Int) = 1 ↔ x = r := by decide +kernel
theorem sv2_t : ∀ B : Fin 64, (pop (B.val : Int) = 1 → ∃ r : Fin 6, (B.val : Int) = ishl 1 (r.val : Int)) ∧ (pop (B.val : Int) ≠ 1 → svT (B.val : Int) = -1) := by decide +kernel
theorem sv3_t : ∀ r u v : Fin 6, bt (ishl 1 (r.val : Int)) (u.val : Int) = true → bt (ishl 1 (r.val : Int)) (v.val : Int) = true → u = v := by decide +kernel
theorem sureOf_ok {b i : Int} {P Lg : Int → Int} {G : Hp} (hV : PaperV P) (hM : MW P (sl P 10) b G) (hF : FM P (ftB P Lg) (PRm (P 1).toNat) G) (i0 : 0 ≤ i) (i1 : i < 6) : mm_sureOf i G = some (if 0 < cntF (ftB P Lg) (PRm (P 1).toNat).toNat ∧ i < P 1 then svT (fF (ftB P Lg) (whA P i) 0 (PRm (P 1).toNat).toNat) else -1) := by
  have h1 := hV.2.1
  have hMr := PRm_r (show (P 1).toNat ≤ 6 by omega)
  have hc := cntF_r (fit := ftB P Lg) (PRm (P 1).toNat).toNat
  unfold mm_sureOf
  rw [hM.1.1.2.2, hF.1.1]
  by_cases hi : i < P 1
  · have hW := (whA_Mk (Lg := Lg) hV i0 hi (PRm (P 1).toNat).toNat (by omega)).1
    have hw := hF.2.1 i i0 i1
    rw [if_pos hi] at hw
    rw [if_pos hi]
    by_cases h0 : cntF (ftB P Lg) (PRm (P 1).toNat).toNat = 0
    · rw [if_pos h0, if_neg (by omega)]
    · rw [if_neg h0, if_pos (show 0 < cntF (ftB P Lg) (PRm (P 1).toNat).toNat ∧ i < P 1 by omega), gd_ok i0 i1, hw, bitsOf_ok (hW.mono (by omega)), Option.bind_some]
      generalize fF (ftB P Lg) (whA P i) 0 (PRm (P 1).toNat).toNat = B at *
      have hW2 : 0 ≤ B ∧ B < ((2 ^ 6 : Nat) : Int) := hW
      have e64 : ((2 ^ 6 : Nat) : Int) = 64 := rfl
      have t2 := sv2_t ⟨B.toNat, by omega⟩
      have eB : ((B.toNat : Nat) : Int) = B := by omega
      simp only [eB] at t2
      by_cases hp : pop B = 1
      · rw [if_pos hp]
        obtain ⟨r, hr⟩ := t2.1 hp
        have t1 := sv1_t r
        rw [← hr] at t1
        rw [t1.1.1]
        apply ok_iff
        have hr6 := r.isLt
        refine lp_up (fun n x (_ : Unit) => mm_sureOf_L32 i G n x) (r.val : Int) (fun _ _ => True) ?_ ?_ (by omega) (by omega) (by omega) (s := ()) trivial
        · intro n x u x0 x1 _ ih
          have tx := (t1.2 ⟨x.toNat, by omega⟩)
          have ex : ((x.toNat : Nat) : Int) = x := by omega
          simp only [ex] at tx
          have hne : ¬ ishr B x = 1 := fun z => by
            have := tx.mp z
            have : x.toNat = r.val := congrArg Fin.val this
            omega
          show ok (mm_sureOf_L32 i G (n + 1) x) _
          rw [mm_sureOf_L32, gd_ok i0 i1, hw, if_neg hne, w32_id (by omega) (by omega)]
          exact ih () trivial
        · intro n u _
          show ok (mm_sureOf_L32 i G (n + 1) (r.val : Int)) _
          rw [mm_sureOf_L32, gd_ok i0 i1, hw, if_pos ((t1.2 r).mpr rfl)]
          exact ok_some rfl
      · rw [if_neg hp, t2.2 hp]
  · rw [if_neg hi, if_neg (fun z => hi z.2)]
theorem suV_v {P Lg : Int → Int} {B : Int → Int} {i r : Int} (h : suV P Lg B i r) (i0 : 0 ≤ i) (hB : i < P 1 → Mk 6 (B i)) : r = if 0 < cntF (ftB P Lg) (PRm (P 1).toNat).toNat ∧ i < P 1 then svT (B i) else -1 := by
  rcases h with ⟨h0, h1⟩ | ⟨h0, h1⟩
  · rw [if_neg (by omega)]; exact h1
  · rcases h1 with ⟨h1, h2⟩ | ⟨h1, h2⟩
    · rw [if_neg (fun z => h1 ⟨i0, z.2⟩)]; exact h2
    · rw [if_pos ⟨h0, h1.2⟩]
      have hW2 : 0 ≤ B i ∧ B i < ((2 ^ 6 : Nat) : Int) := hB h1.2
      have e64 : ((2 ^ 6 : Nat) : Int) = 64 := rfl
      rcases h2 with ⟨r0, r1, h2⟩ | ⟨h2, u, v, u0, u1, v0, v1, uv, bu, bv⟩
      · have t1 := (sv1_t ⟨r.toNat, by omega⟩).1.1
        have er : ((r.toNat : Nat) : Int) = r := by omega
        simp only [er] at t1
        rw [h2, t1]
      · have t2 := sv2_t ⟨(B i).toNat, by omega⟩
        have eB : (((B i).toNat : Nat) : Int) = B i := by omega
        simp only [eB] at t2
        by_cases hp : pop (B i) = 1
        · obtain ⟨q, hq⟩ := t2.1 hp
          have t3 := sv3_t q ⟨u.toNat, by omega⟩ ⟨v.toNat, by omega⟩
          have eu : ((u.toNat : Nat) : Int) = u := by omega
          have ev : ((v.toNat : Nat) : Int) = v := by omega
          simp only [eu, ev] at t3
          rw [← hq] at t3
          have h5 : u.toNat = v.toNat := congrArg Fin.val (t3 bu bv)
          rw [h5] at eu
          exact absurd (eu.symm.trans ev) uv
        · rw [t2.2 hp]; exact h2
theorem MW.l39 {P N : Int → Int} {b v : Int} {G : Hp} (h : MW P N b G) : MW P N b (upd2 G 201 39 v) :=
  ⟨h.1.fr (fun j _ => upd2_o (by omega)) (fun j => upd2_o (by omega)), h.2.1.fr (fun j => upd2_o (by omega)) (fun j => upd2_o (by omega)), by rw [upd2_o (by omega)]; exact h.2.2⟩
theorem chosen_ok {G : Hp} {A H : Int → Int} {a1 a2 : Int} {K : Hp → Option (Int × Hp)} {Q : Int × Hp → Prop} (hC : CInv G A H) (hk : a1 = 0 ∨ a1 = 1) (hl : a2 = 0 ∨ a2 = 1)
    (hK : ∀ G', CInv G' A H → G' (7 + 15 * a1) 2 = G (7 + 15 * a1) 2 → RowsOf G' (ct 80 A (pb a1)) → FtC (ftB (ct 80 A (pb a1)) (ct 17 A (lgb a2))) (PRm (ct 80 A (pb a1) 1).toNat) G' → ok (K G') Q) :
    ok ((cRw_make a1 (7 + 15 * a1) G).bind fun G34 => (cRw_choose (19 + 15 * a2) G34).bind K) Q := by
  obtain ⟨hV, hP⟩ := hC.paper hk
  refine ok_then (make_ok hC hk) fun G1 hG1 => ?_
  obtain ⟨g1, g2, g3, g4⟩ := hG1
  obtain ⟨hL, hLC⟩ := g1.log hl
  refine ok_then (choose_ok hV hL hl hLC g4) fun G2 hG2 => ?_
  obtain ⟨c1, c2, c3⟩ := hG2
  have hC2 : CInv G2 A H := g1.sr (Sr.fr fun a j x => c3 a j (by omega) (by omega)) (Or.inr ⟨a1, hk, by rw [c3 _ _ (by omega) (by omega)]; exact g3, c2⟩)
  refine hK G2 hC2 ?_ c2 c1
  rw [hP.1.2]
  exact (hC2.paper hk).2.1.2
theorem op29 : Op29 Inv := by
  intro Gc Gm hI a1 a2 a3 r1 r2 r3
  have hC : CInv Gc (Gm 202) (Gm 203) := hI
  by_cases hk : 0 ≤ a1 ∧ a1 < Gm 202 0
  · obtain ⟨hp, hk2⟩ := paperAt_yes hC hk.1 hk.2
    obtain ⟨hV, hP⟩ := hC.paper hk2
    have hyes := isPaper_yes hC.av hk.1 hk.2
    by_cases hq : 0 ≤ a2 ∧ a2 < Gm 202 2
    · obtain ⟨hl, hl2⟩ := logAt_yes hC hq.1 hq.2
      obtain ⟨hL, hLC⟩ := hC.log hl2
      have hch := fun (K : Hp → Option (Int × Hp)) (Q : Int × Hp → Prop) => chosen_ok (K := K) (Q := Q) hC hk2 hl2
      have hbb : 1012 ≤ lgb a2 ∧ lgb a2 ≤ 1029 := by unfold lgb; omega
      have hA : ∀ j, 0 ≤ j → j < 17 → Gm 202 (lgb a2 + j) = ct 17 (Gm 202) (lgb a2) j := fun j j0 j1 => (ct_at j0 j1).symm
      generalize ct 80 (Gm 202) (pb a1) = P at *
      generalize ct 17 (Gm 202) (lgb a2) = Lg at *
      have h1 := hV.2.1
      have hMr := PRm_r (show (P 1).toNat ≤ 6 by omega)
      have hP2 : Gc (7 + 15 * a1) 2 = P 1 := hP.1.2
      have o0 : ¬ 7 + 15 * a1 < 0 := by omega
      have l0 : ¬ 19 + 15 * a2 < 0 := by omega
      refine op_q hI (if a3 = 0 then (if 0 < P 1 then fF (ftB P Lg) (whA P 0) 0 (PRm (P 1).toNat).toNat else 0) else if a3 = 1 then (if 0 < P 1 then fF (ftB P Lg) (whA P (P 1 - 1)) 0 (PRm (P 1).toNat).toNat else 0) else if a3 = 2 then fF (ftB P Lg) (mxA P) (-1) (PRm (P 1).toNat).toNat else if a3 = 3 then fF (ftB P Lg) (mnA P) (-1) (PRm (P 1).toNat).toNat else -2) ?_ ?_
      · unfold cX_firsts
        rw [hp, Option.bind_some, hl, Option.bind_some, if_neg o0, if_neg l0]
        refine hch _ _ fun G1 g1 g2 g3 g4 => ?_
        refine ok_ite (fun e => ?_) (fun e => ok_ite (fun e2 => ?_) (fun e2 => ok_ite (fun e3 => ?_) (fun e3 => ok_ite (fun e4 => ?_) (fun e4 => ?_))))
        · rw [readersAt_ok hV g3 g4, Option.bind_some, if_pos e]
          refine ok_some ⟨?_, g1⟩
          by_cases z : 0 < P 1
          · rw [if_pos z, if_pos ⟨by omega, z⟩]
          · rw [if_neg z, if_neg (by omega)]
        · rw [g2, hP2, w32_id (by omega) (by omega), readersAt_ok hV g3 g4, Option.bind_some, if_neg e, if_pos e2]
          refine ok_some ⟨?_, g1⟩
          by_cases z : 0 < P 1
          · rw [if_pos z, if_pos ⟨by omega, by omega⟩]
          · rw [if_neg z, if_neg (by omega)]
        · rw [mostF_ok hV g3 g4, Option.bind_some, if_neg e, if_neg e2, if_pos e3]
          exact ok_some ⟨rfl, g1⟩
        · rw [leastF_ok hV g3 g4, Option.bind_some, if_neg e, if_neg e2, if_neg e3, if_pos e4]
          exact ok_some ⟨rfl, g1⟩
        · rw [if_neg e, if_neg e2, if_neg e3, if_neg e4]
          exact ok_some ⟨rfl, g1⟩
      · unfold mm_firsts
        refine ok_then hyes fun r hr => ?_
        obtain ⟨e1, e2, e3, e4⟩ := hr
        have hAr : AV0 (r.2 202) := by rw [e3]; exact hC.av
        rw [e1, if_tt, isLog_yes hAr hq.1 (by rw [e3]; exact hq.2), Option.bind_some, if_tt]
        refine ok_then (laysFits_ok (a := -1) (P := P) (Lg := Lg) (b0 := lgb a2) hV hL e2.mw.l39 (show upd2 r.2 201 39 (lgb a2) 201 39 = lgb a2 from upd2_s) hbb (fun j j0 j1 => ?_)) fun x hx => ?_
        · show upd2 r.2 201 39 (lgb a2) 202 _ = _
          rw [upd2_o (by omega), e3]
          exact hA j j0 j1
        · obtain ⟨x1, x2, x3, x4⟩ := hx
          have hm : x.2 202 = Gm 202 ∧ x.2 203 = Gm 203 := by
            have u2 : upd2 r.2 201 39 (lgb a2) 202 = r.2 202 := funext fun j => upd2_o (by omega)
            have u3 : upd2 r.2 201 39 (lgb a2) 203 = r.2 203 := funext fun j => upd2_o (by omega)
            exact ⟨x4.1.trans (u2.trans e3), x4.2.trans (u3.trans e4)⟩
          refine ok_ite (fun e => ?_) (fun e => ok_ite (fun e2 => ?_) (fun e2 => ok_ite (fun e3 => ?_) (fun e3 => ok_ite (fun e4 => ?_) (fun e4 => ?_))))
          · rw [if_pos e]
            exact ok_some ⟨x2.2.1 0 (by omega) (by omega), hm⟩
          · rw [if_neg e, if_pos e2, x3.1.1.2.2]
            refine ok_ite (fun z => ok_some ⟨?_, hm⟩) (fun z => ?_)
            · rw [if_neg (by omega)]
            · rw [w32_id (by omega) (by omega)]
              refine ok_gd (by omega) (by omega) (ok_some ⟨?_, hm⟩)
              show x.2 221 (P 1 - 1) = _
              rw [x2.2.1 _ (by omega) (by omega), if_pos (by omega), if_pos (by omega)]
          · rw [if_neg e, if_neg e2, if_pos e3]
            exact ok_some ⟨x2.1.2.1, hm⟩
          · rw [if_neg e, if_neg e2, if_neg e3, if_pos e4]
            exact ok_some ⟨x2.1.2.2, hm⟩
          · rw [if_neg e, if_neg e2, if_neg e3, if_neg e4]
            exact ok_some ⟨rfl, hm⟩
    · refine op_q hI (-2) ?_ ?_
      · unfold cX_firsts
        rw [hp, Option.bind_some, logAt_no hC hq, Option.bind_some, if_neg (by omega), if_pos (by omega)]
        exact ok_some ⟨rfl, hC⟩
      · unfold mm_firsts
        refine ok_then hyes fun r hr => ?_
        obtain ⟨e1, e2, e3, e4⟩ := hr
        have hAr : AV0 (r.2 202) := by rw [e3]; exact hC.av
        rw [e1, if_tt, isLog_no hAr (by rw [e3]; exact hq), Option.bind_some, if_ff]
        exact ok_some ⟨rfl, e3, e4⟩
  · refine op_q hI (-2) ?_ ?_
    · unfold cX_firsts
      rw [paperAt_no hC hk, Option.bind_some]
      by_cases hq : 0 ≤ a2 ∧ a2 < Gm 202 2
      · rw [(logAt_yes hC hq.1 hq.2).1, Option.bind_some, if_pos (by omega)]
        exact ok_some ⟨rfl, hC⟩
      · rw [logAt_no hC hq, Option.bind_some, if_pos (by omega)]
        exact ok_some ⟨rfl, hC⟩
    · unfold mm_firsts
      rw [isPaper_no hC.av hk, Option.bind_some, if_ff]
      exact ok_some ⟨rfl, rfl, rfl⟩
