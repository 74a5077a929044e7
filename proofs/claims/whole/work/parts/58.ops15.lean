theorem op19 : Op19 Inv := by
  intro Gc Gm hI a1 a2 a3 r1 r2 r3
  have hC : CInv Gc (Gm 202) (Gm 203) := hI
  by_cases hk : 0 ≤ a1 ∧ a1 < Gm 202 0
  · obtain ⟨hp, hk2⟩ := paperAt_yes hC hk.1 hk.2
    obtain ⟨hV, hP⟩ := hC.paper hk2
    have hyes := isPaper_yes hC.av hk.1 hk.2
    by_cases hq : 0 ≤ a2 ∧ a2 < Gm 202 2
    · obtain ⟨hl, hl2⟩ := logAt_yes hC hq.1 hq.2
      obtain ⟨hL, hLC⟩ := hC.log hl2
      have hch := fun (K : Hp → Option (Int × Hp)) (Q : Int × Hp → Prop) => chosen_ok (K := K) (Q := Q) hC hk2 hl2
      have hbb : 1012 ≤ lgb a2 ∧ lgb a2 ≤ 1029 := by unfold lgb; omega
      have hA : ∀ j, 0 ≤ j → j < 17 → Gm 202 (lgb a2 + j) = ct 17 (Gm 202) (lgb a2) j := fun j j0 j1 => (ct_at j0 j1).symm
      generalize ct 80 (Gm 202) (pb a1) = P at *
      generalize ct 17 (Gm 202) (lgb a2) = Lg at *
      have h1 := hV.2.1
      have hMr := PRm_r (show (P 1).toNat ≤ 6 by omega)
      have hP2 : Gc (7 + 15 * a1) 2 = P 1 := hP.1.2
      have o0 : ¬ 7 + 15 * a1 < 0 := by omega
      have l0 : ¬ 19 + 15 * a2 < 0 := by omega
      have fd : ∀ x, FdV P (ftB P Lg) (a3 - 10) (PRm (P 1).toNat) x → ∀ G' : Hp, RowsOf G' P → FtC (ftB P Lg) (PRm (P 1).toNat) G' → (0 ≤ a3 - 10 ∧ a3 - 10 < cntF (ftB P Lg) (PRm (P 1).toNat).toNat → G' 83 (G' 86 (a3 - 10)) = x) ∧ (¬ (0 ≤ a3 - 10 ∧ a3 - 10 < cntF (ftB P Lg) (PRm (P 1).toNat).toNat) → x = -2) := by
        intro x hx G' hR hF
        refine ⟨fun q => ?_, fun q => ?_⟩
        · have hf := hF.2 _ q.1 q.2
          have e83 : G' 83 (G' 86 (a3 - 10)) = dgF (rk (P 1).toNat (G' 86 (a3 - 10))) (P 1).toNat := (hR.2.2.2 _ hf.1.1 hf.1.2).1
          rcases hx with ⟨j, j0, j1, j2, j3, j4⟩ | ⟨j1, j2⟩
          · have := cnt_uniq (fit := ftB P Lg) hf.1.1 j0 hf.2.1 j2 (by rw [hf.2.2, j3])
            rw [e83, j4, this]
          · exact absurd hf.2.2 (j1 _ hf.1.1 hf.1.2 hf.2.1)
        · rcases hx with ⟨j, j0, j1, j2, j3, j4⟩ | ⟨j1, j2⟩
          · have hc0 := cntF_r (fit := ftB P Lg) j.toNat
            have hcs := cntF_s (fit := ftB P Lg) j0
            rw [if_pos j2] at hcs
            have hcl := cntF_le (fit := ftB P Lg) (i := j + 1) (j := PRm (P 1).toNat) (by omega)
            exact absurd ⟨by omega, by omega⟩ q
          · exact j2
      have r3' : -2147483648 ≤ a3 ∧ a3 ≤ 2147483647 := r3
      by_cases hlow : a3 < 0
      · refine op_q hI (-2) ?_ ?_
        · unfold cX_fits cX_fits_j97
          rw [hp, Option.bind_some, hl, Option.bind_some, if_neg o0, if_neg l0]
          refine hch _ _ fun G1 g1 g2 g3 g4 => ?_
          have h80 := cntF_r (fit := ftB P Lg) (PRm (P 1).toNat).toNat
          rw [if_neg (show ¬ a3 = 0 by omega), if_neg (show ¬ a3 = 1 by omega), if_neg (show ¬ 2 ≤ a3 by omega)]
          refine ok_ite (fun e => ok_some ⟨rfl, g1⟩) (fun e => ok_ite (fun e2 => ok_some ⟨rfl, g1⟩) (fun e2 => ?_))
          exfalso
          rw [g4.1] at e2
          by_cases z : -2147483648 ≤ a3 - 10
          · rw [w32_id (by omega) (by omega)] at e
            omega
          · have : w32 (a3 - 10) = a3 - 10 + 4294967296 := by unfold w32; omega
            omega
        · unfold mm_fits
          refine ok_then hyes fun r hr => ?_
          obtain ⟨e1, e2, e3, e4⟩ := hr
          have hAr : AV0 (r.2 202) := by rw [e3]; exact hC.av
          have u2 : upd2 r.2 201 39 (lgb a2) 202 = Gm 202 := by rw [← e3]; exact funext fun j => upd2_o (by omega)
          have u3 : upd2 r.2 201 39 (lgb a2) 203 = Gm 203 := by rw [← e4]; exact funext fun j => upd2_o (by omega)
          have hMr : MW P (sl P 10) (pb a1) (upd2 r.2 201 39 (lgb a2)) := e2.mw.l39
          have hlf := fun a => laysFits_ok (a := a) (P := P) (Lg := Lg) (b0 := lgb a2) hV hL hMr (show upd2 r.2 201 39 (lgb a2) 201 39 = lgb a2 from upd2_s) hbb (fun j j0 j1 => by rw [u2]; exact hA j j0 j1)
          rw [e1, if_tt, isLog_yes hAr hq.1 (by rw [e3]; exact hq.2), Option.bind_some, if_tt]
          rw [if_pos hlow]
          exact ok_some ⟨rfl, u2, u3⟩
      · have ew : w32 (a3 - 10) = a3 - 10 := w32_id (by omega) (by omega)
        by_cases h89 : 8 ≤ a3 ∧ a3 ≤ 9
        · refine op_q hI (-2) ?_ ?_
          · unfold cX_fits cX_fits_j97
            rw [hp, Option.bind_some, hl, Option.bind_some, if_neg o0, if_neg l0]
            refine hch _ _ fun G1 g1 g2 g3 g4 => ?_
            rw [if_neg (show ¬ a3 = 0 by omega), if_neg (show ¬ a3 = 1 by omega), if_pos (show 2 ≤ a3 by omega), if_neg (show ¬ a3 < 8 by omega), ew, if_pos (by omega)]
            exact ok_some ⟨rfl, g1⟩
          · unfold mm_fits
            refine ok_then hyes fun r hr => ?_
            obtain ⟨e1, e2, e3, e4⟩ := hr
            have hAr : AV0 (r.2 202) := by rw [e3]; exact hC.av
            have u2 : upd2 r.2 201 39 (lgb a2) 202 = Gm 202 := by rw [← e3]; exact funext fun j => upd2_o (by omega)
            have u3 : upd2 r.2 201 39 (lgb a2) 203 = Gm 203 := by rw [← e4]; exact funext fun j => upd2_o (by omega)
            have hMr : MW P (sl P 10) (pb a1) (upd2 r.2 201 39 (lgb a2)) := e2.mw.l39
            have hlf := fun a => laysFits_ok (a := a) (P := P) (Lg := Lg) (b0 := lgb a2) hV hL hMr (show upd2 r.2 201 39 (lgb a2) 201 39 = lgb a2 from upd2_s) hbb (fun j j0 j1 => by rw [u2]; exact hA j j0 j1)
            rw [e1, if_tt, isLog_yes hAr hq.1 (by rw [e3]; exact hq.2), Option.bind_some, if_tt]
            rw [if_neg hlow, isIn_eq, decide_eq_true h89, if_tt]
            exact ok_some ⟨rfl, u2, u3⟩
        · obtain ⟨y, hy⟩ : ∃ y, FdV P (ftB P Lg) (a3 - 10) (PRm (P 1).toNat) y := by
            by_cases q : ∃ j, 0 ≤ j ∧ j < PRm (P 1).toNat ∧ ftB P Lg j = true ∧ cntF (ftB P Lg) j.toNat = a3 - 10
            · obtain ⟨j, j0, j1, j2, j3⟩ := q
              exact ⟨_, Or.inl ⟨j, j0, j1, j2, j3, rfl⟩⟩
            · exact ⟨-2, Or.inr ⟨fun j j0 j1 j2 j3 => q ⟨j, j0, j1, j2, j3⟩, rfl⟩⟩
          have yu : ∀ x, FdV P (ftB P Lg) (a3 - 10) (PRm (P 1).toNat) x → x = y := by
            intro x hx
            rcases hx with ⟨j, j0, j1, j2, j3, j4⟩ | ⟨j1, j2⟩
            · rcases hy with ⟨i, i0, i1, i2, i3, i4⟩ | ⟨i1, i2⟩
              · have := cnt_uniq (fit := ftB P Lg) j0 i0 j2 i2 (by rw [j3, i3])
                rw [j4, i4, this]
              · exact absurd j3 (i1 j j0 j1 j2)
            · rcases hy with ⟨i, i0, i1, i2, i3, i4⟩ | ⟨i1, i2⟩
              · exact absurd i3 (j1 i i0 i1 i2)
              · rw [j2, i2]
          refine op_q hI (if a3 = 0 then cntF (ftB P Lg) (PRm (P 1).toNat).toNat else if a3 = 1 then akV P Lg else if a3 < 8 then (if 0 < cntF (ftB P Lg) (PRm (P 1).toNat).toNat ∧ a3 - 2 < P 1 then svT (fF (ftB P Lg) (whA P (a3 - 2)) 0 (PRm (P 1).toNat).toNat) else -1) else y) ?_ ?_
          · have e97 : 8 ≤ a3 → ∀ G1 : Hp, CInv G1 (Gm 202) (Gm 203) → RowsOf G1 P → FtC (ftB P Lg) (PRm (P 1).toNat) G1 → ok (cX_fits_j97 a1 a2 a3 G1) (fun r => r.1 = y ∧ CInv r.2 (Gm 202) (Gm 203)) := by
              intro h8 G1 g1 g3 g4
              have hfd := fd y hy G1 g3 g4
              unfold cX_fits_j97
              rw [ew, g4.1]
              have hc := cntF_r (fit := ftB P Lg) (PRm (P 1).toNat).toNat
              refine ok_ite (fun e => by omega) (fun e => ok_ite (fun e2 => ok_some ⟨(hfd.2 (by omega)).symm, g1⟩) (fun e2 => ?_))
              have hf := g4.2 (a3 - 10) (by omega) (by omega)
              exact ok_gd (by omega) (by omega) (ok_gd (by omega) (by omega) (ok_some ⟨hfd.1 (by omega), g1⟩))
            unfold cX_fits
            rw [hp, Option.bind_some, hl, Option.bind_some, if_neg o0, if_neg l0]
            refine hch _ _ fun G1 g1 g2 g3 g4 => ?_
            refine ok_ite (fun e => ?_) (fun e => ok_ite (fun e2 => ?_) (fun e2 => ?_))
            · rw [if_pos e]
              exact ok_some ⟨g4.1, g1⟩
            · rw [if_neg e, if_pos e2]
              refine ok_then (ask_ok hV g3 g4) fun z hz => ok_some ⟨hz.1, g1.sr (Sr.fr fun a j x => hz.2 a j (by omega)) ?_⟩
              have hrc := g1.2.2
              rcases hrc with q | ⟨k', q0, q1, q2⟩
              · exact Or.inl (by rw [hz.2 _ _ (by omega)]; exact q)
              · exact Or.inr ⟨k', q0, by rw [hz.2 _ _ (by omega)]; exact q1, q2.fr2 hz.2⟩
            · rw [if_neg e, if_neg e2, if_pos (show 2 ≤ a3 by omega)]
              refine ok_ite (fun e3 => ?_) (fun e3 => ?_)
              · rw [if_pos e3, w32_id (z := a3 - 2) (by omega) (by omega)]
                refine ok_then (sure_ok (i := a3 - 2) hV g3 g4) fun z hz => ok_some ⟨?_, g1⟩
                exact suV_v hz (by omega) fun q => (whA_Mk (Lg := Lg) hV (by omega) q (PRm (P 1).toNat).toNat (by omega)).1
              · rw [if_neg e3]
                exact e97 (by omega) G1 g1 g3 g4
          · unfold mm_fits
            refine ok_then hyes fun r hr => ?_
            obtain ⟨e1, e2, e3, e4⟩ := hr
            have hAr : AV0 (r.2 202) := by rw [e3]; exact hC.av
            have u2 : upd2 r.2 201 39 (lgb a2) 202 = Gm 202 := by rw [← e3]; exact funext fun j => upd2_o (by omega)
            have u3 : upd2 r.2 201 39 (lgb a2) 203 = Gm 203 := by rw [← e4]; exact funext fun j => upd2_o (by omega)
            have hMr : MW P (sl P 10) (pb a1) (upd2 r.2 201 39 (lgb a2)) := e2.mw.l39
            have hlf := fun a => laysFits_ok (a := a) (P := P) (Lg := Lg) (b0 := lgb a2) hV hL hMr (show upd2 r.2 201 39 (lgb a2) 201 39 = lgb a2 from upd2_s) hbb (fun j j0 j1 => by rw [u2]; exact hA j j0 j1)
            rw [e1, if_tt, isLog_yes hAr hq.1 (by rw [e3]; exact hq.2), Option.bind_some, if_tt]
            rw [if_neg hlow, isIn_eq, decide_eq_false h89, if_ff, ew]
            refine ok_then (hlf _) fun x hx => ?_
            obtain ⟨x1, x2, x3, x4⟩ := hx
            have hm : x.2 202 = Gm 202 ∧ x.2 203 = Gm 203 := ⟨x4.1.trans u2, x4.2.trans u3⟩
            refine ok_ite (fun e => ?_) (fun e => ok_ite (fun e2 => ?_) (fun e2 => ok_ite (fun e3 => ?_) (fun e3 => ?_)))
            · rw [if_pos e]
              exact ok_some ⟨x2.1.1, hm⟩
            · rw [if_neg e, if_pos e2, askOf_ok hV x3 x2, Option.bind_some]
              exact ok_some ⟨rfl, hm⟩
            · rw [if_neg e, if_neg e2, if_pos e3, w32_id (z := a3 - 2) (by omega) (by omega), sureOf_ok hV x3 x2 (by omega) (by omega), Option.bind_some]
              exact ok_some ⟨rfl, hm⟩
            · rw [if_neg e, if_neg e2, if_neg e3]
              exact ok_some ⟨yu _ x1, hm⟩
    · refine op_q hI (-2) ?_ ?_
      · unfold cX_fits
        rw [hp, Option.bind_some, logAt_no hC hq, Option.bind_some, if_neg (by omega), if_pos (by omega)]
        exact ok_some ⟨rfl, hC⟩
      · unfold mm_fits
        refine ok_then hyes fun r hr => ?_
        obtain ⟨e1, e2, e3, e4⟩ := hr
        have hAr : AV0 (r.2 202) := by rw [e3]; exact hC.av
        rw [e1, if_tt, isLog_no hAr (by rw [e3]; exact hq), Option.bind_some, if_ff]
        exact ok_some ⟨rfl, e3, e4⟩
  · refine op_q hI (-2) ?_ ?_
    · unfold cX_fits
      rw [paperAt_no hC hk, Option.bind_some]
      by_cases hq : 0 ≤ a2 ∧ a2 < Gm 202 2
      · rw [(logAt_yes hC hq.1 hq.2).1, Option.bind_some, if_pos (by omega)]
        exact ok_some ⟨rfl, hC⟩
      · rw [logAt_no hC hq, Option.bind_some, if_pos (by omega)]
        exact ok_some ⟨rfl, hC⟩
    · unfold mm_fits
      rw [isPaper_no hC.av hk, Option.bind_some, if_ff]
      exact ok_some ⟨rfl, rfl, rfl⟩
