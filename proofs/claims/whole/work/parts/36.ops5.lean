-- how far, how often alone
def fa1 (N wn f : Int → Int) (p : Int) : Int := max 0 (dst2 N (f p) (wn p))
def faF (N wn : Int → Int) (pl : Int) (f : Int → Int) : Int := sm (fa1 N wn f) pl.toNat
theorem fa1_r (N wn f : Int → Int) (p : Int) : 0 ≤ fa1 N wn f p ∧ fa1 N wn f p ≤ 9 := by
  unfold fa1
  have := dst2_r N (f p) (wn p)
  omega
theorem farFrom_ok {G : Hp} {o r : Int} {P : Int → Int} (hV : PaperV P) (hC : PaperC G o P) (r0 : 0 ≤ r) (r1 : r < 6) : ok (cPa_farFrom o r G) (fun x => x.1 = faF (sl P 10) (wnP P r) (P 0) (sl P 2) ∧ CE (o + 1) G x.2) := by
  unfold cPa_farFrom
  have h0 := hV.1
  refine lp_up (fun n i (s : Int × Hp) => cPa_farFrom_L4 o r n s.1 i s.2) (P 0) (fun i s => s.1 = sm (fa1 (sl P 10) (wnP P r) (sl P 2)) i.toNat ∧ CE (o + 1) G s.2) ?_ ?_ (by omega) (by omega) (by omega) (s := (0, G)) ⟨rfl, CE.refl hC.2.2.1⟩
  · intro n i s i0 i1 hI ih
    obtain ⟨x, G1⟩ := s
    obtain ⟨e1, e2⟩ := hI
    simp only at e1 e2
    have hC1 := hC.ce e2
    have hb := sm_r (f := fa1 (sl P 10) (wnP P r) (sl P 2)) (a := 0) (b := 9) (n := i.toNat) (fun j _ _ => fa1_r _ _ _ j)
    have hs := sm_s (fa1 (sl P 10) (wnP P r) (sl P 2)) i0
    have hr := fa1_r (sl P 10) (wnP P r) (sl P 2) i
    show ok (cPa_farFrom_L4 o r (n + 1) x i G1) _
    rw [cPa_farFrom_L4, hC1.1.1, if_pos i1, wish_ok hC1 r0 r1 i0 (by omega), Option.bind_some, hC1.2.1.2 i i0 (by omega), w32_id (z := i + 1) (by omega) (by omega)]
    refine ok_then (between_N hC1.2.2.1 hC1.nb) fun y hy => ?_
    rw [hy.1]
    have e9 : max 0 (dst2 (sl P 10) (sl P 2 i) (P (32 + 8 * r + i))) = fa1 (sl P 10) (wnP P r) (sl P 2) i := rfl
    rw [e9, w32_id (by omega) (by omega)]
    refine ih (_, y.2) ⟨?_, e2.trans hy.2⟩
    show x + _ = _
    rw [hs, e1]
  · intro n s hI
    obtain ⟨x, G1⟩ := s
    have hC1 := hC.ce hI.2
    show ok (cPa_farFrom_L4 o r (n + 1) x (P 0) G1) _
    rw [cPa_farFrom_L4, show G1 o 1 = P 0 from hC1.1.1, if_neg (by omega)]
    exact ok_some hI
theorem mdistance_ok {G : Hp} {b r : Int} {P f : Int → Int} (hV : PaperV P) (hM : MS P b G) (hN : MN (sl P 10) G) (hf : PV f) (hG : ∀ p, 0 ≤ p → p < 8 → G 207 p = f p) (r0 : 0 ≤ r) (r1 : r < 6) : mm_distanceOf r G = some (faF (sl P 10) (wnP P r) (P 0) f) := by
  apply ok_iff
  unfold mm_distanceOf
  have h0 := hV.1
  refine lp_up (fun n i (s : Int) => mm_distanceOf_L4 r G n s i) (P 0) (fun i s => s = sm (fa1 (sl P 10) (wnP P r) f) i.toNat) ?_ ?_ (by omega) (by omega) (by omega) rfl
  · intro n i x i0 i1 e1 ih
    have hb := sm_r (f := fa1 (sl P 10) (wnP P r) f) (a := 0) (b := 9) (n := i.toNat) (fun j _ _ => fa1_r _ _ _ j)
    have hs := sm_s (fa1 (sl P 10) (wnP P r) f) i0
    have hw := hV.2.2.2.2.2 r i r0 r1 i0 (by omega)
    have hfi := hf i i0 (by omega)
    have fin : ∀ v : Int, v ≤ 9 → max 0 v = fa1 (sl P 10) (wnP P r) f i → ok (mm_distanceOf_j48 r G (mm_distanceOf_L4 r G n) x i v) (fun v => v = faF (sl P 10) (wnP P r) (P 0) f) := by
      intro v hv9 hv
      unfold mm_distanceOf_j48
      rw [w32_id (z := i + 1) (by omega) (by omega)]
      refine ok_ite (fun e => ?_) (fun e => ?_)
      · rw [w32_id (by omega) (by omega)]
        refine ih _ ?_
        rw [hs]
        omega
      · rw [w32_id (by omega) (by omega)]
        refine ih _ ?_
        rw [hs]
        omega
    show ok (mm_distanceOf_L4 r G (n + 1) x i) _
    rw [mm_distanceOf_L4, hM.1.2.1, if_pos i1, want_ok hM r0 r1 i0 (by omega), Option.bind_some, Option.bind_some]
    refine ok_ite (fun e => fin 0 (by omega) ?_) (fun e => ok_gd i0 (by omega) ?_)
    · unfold fa1 wnP
      rw [e, dst2_10]
      rfl
    · rw [hG i i0 (by omega), w32_id (z := 10 * f i) (by omega) (by omega), w32_id (by omega) (by omega), hN.2.2 _ _ hfi.1 hfi.2 hw.1 (by omega)]
      have hd := dst_r (sl P 10) (f i) (P (32 + 8 * r + i))
      refine ok_gd (by omega) (by omega) (fin _ (by omega) ?_)
      unfold fa1 wnP
      rw [dst2_in hfi.1 hfi.2 hw.1 (by omega)]
  · intro n x hI
    show ok (mm_distanceOf_L4 r G (n + 1) x (P 0)) _
    rw [mm_distanceOf_L4, hM.1.2.1, if_neg (by omega)]
    exact ok_some hI
-- every reading that changes anything brings him nearer
theorem sm_sub (f g : Int → Int) : ∀ n : Nat, sm (fun p => f p - g p) n = sm f n - sm g n
  | 0 => rfl
  | n + 1 => by
    show sm (fun p => f p - g p) n + (f (n : Int) - g (n : Int)) = sm f n + f (n : Int) - (sm g n + g (n : Int))
    rw [sm_sub f g n]
    omega
theorem faF_rd {P f : Int → Int} (hV : PaperV P) (hf : PV f) (r : Int) (r0 : 0 ≤ r) (r1 : r < 6) : faF (sl P 10) (wnP P r) (P 0) (rb P r f) = faF (sl P 10) (wnP P r) (P 0) f - nch (rb P r f) f := by
  have h0 := hV.1
  have e : nch (rb P r f) f = sm (fun p => b2i (df (rb P r f) f p)) (P 0).toNat := by
    unfold nch
    refine sm_cut (by omega) fun j j0 j1 => ?_
    unfold df rb
    rw [rdF_out (by omega)]
    simp [b2i]
  rw [e]
  unfold faF
  rw [← sm_sub]
  refine sm_congr fun p p0 p1 => ?_
  have hfp := hf p p0 (by omega)
  by_cases hc : rb P r f p = f p
  · have : df (rb P r f) f p = false := decide_eq_false (fun z => z hc)
    rw [this]
    unfold fa1
    rw [hc]
    simp [b2i]
  · have hd : df (rb P r f) f p = true := decide_eq_true hc
    rw [hd]
    have h1 : rb P r f p = tw2 (sl P 10) (f p) (wnP P r p) := by
      unfold rb rdF
      unfold rb at hc
      unfold rdF at hc
      split
      · rfl
      · next q => rw [if_neg q] at hc; exact absurd rfl hc
    have h2 : tw2 (sl P 10) (f p) (wnP P r p) ≠ -1 := by
      intro z
      unfold rb rdF at hc
      by_cases q : 0 ≤ p ∧ p < P 0 ∧ chd (wl (sl P 10) (bt 0) (wnP P r) f) (P (20 + 2 * r)) p = true
      · have q3 := q.2.2
        unfold chd at q3
        rw [Bool.and_eq_true] at q3
        have q4 := q3.1
        unfold wl at q4
        rw [Bool.and_eq_true, decide_eq_true_eq] at q4
        exact q4.2 z
      · rw [if_neg q] at hc
        exact hc rfl
    have h3 := tw2_step h2
    unfold fa1
    rw [h1, dst2_in h3.1 h3.2.1 h3.2.2.2.2.2.1 h3.2.2.2.2.2.2, dst2_in hfp.1 hfp.2 h3.2.2.2.2.2.1 h3.2.2.2.2.2.2, h3.2.2.2.1]
    have := h3.2.2.2.2.1
    simp only [b2i]
    rw [if_pos trivial]
    omega
def itr (F : (Int → Int) → Int → Int) : Nat → (Int → Int) → Int → Int
  | 0, f => f
  | k + 1, f => F (itr F k f)
theorem itr_s (F : (Int → Int) → Int → Int) {i : Int} (h : 0 ≤ i) (f : Int → Int) : itr F (i + 1).toNat f = F (itr F i.toNat f) := by
  have e : (i + 1).toNat = i.toNat + 1 := by omega
  rw [e]
  rfl
theorem itr_V {P f : Int → Int} {r : Int} (hf : PV f) : ∀ k : Nat, PV (itr (rb P r) k f)
  | 0 => hf
  | k + 1 => rdF_V (itr_V hf k)
/-- how many readings of his alone change anything -/
def alC (P : Int → Int) (r : Int) (k : Int) : Bool := decide (nch (rb P r (itr (rb P r) k.toNat (sl P 2))) (itr (rb P r) k.toNat (sl P 2)) = 0)
def alo (P : Int → Int) (r : Int) : Int := fstB (alC P r) 74
theorem faF_r (N wn : Int → Int) {pl : Int} (h0 : 0 ≤ pl) (h1 : pl ≤ 8) (f : Int → Int) : 0 ≤ faF N wn pl f ∧ faF N wn pl f ≤ 72 := by
  have hb := sm_r (f := fa1 N wn f) (a := 0) (b := 9) (n := pl.toNat) (fun j _ _ => fa1_r _ _ _ j)
  unfold faF
  omega
theorem alo_step {P : Int → Int} (hV : PaperV P) {r : Int} (r0 : 0 ≤ r) (r1 : r < 6) {k : Int} (k0 : 0 ≤ k) (h : alC P r k = false) : faF (sl P 10) (wnP P r) (P 0) (itr (rb P r) (k + 1).toNat (sl P 2)) + 1 ≤ faF (sl P 10) (wnP P r) (P 0) (itr (rb P r) k.toNat (sl P 2)) := by
  rw [itr_s _ k0, faF_rd hV (itr_V hV.pv k.toNat) r r0 r1]
  have := of_decide_eq_false h
  have h2 := nch_r (rb P r (itr (rb P r) k.toNat (sl P 2))) (itr (rb P r) k.toNat (sl P 2))
  omega
theorem readingsOf_ok {G : Hp} {o r : Int} {P : Int → Int} (hV : PaperV P) (hC : PaperC G o P) (r0 : 0 ≤ r) (r1 : r < P 1) : ok (cPa_readingsOf o r G) (fun x => x.1 = alo P r ∧ CE (o + 1) G x.2) := by
  have h0 := hV.1
  have h1 := hV.2.1
  unfold cPa_readingsOf
  refine lp_up (fun n i (s : Int × Hp) => cPa_readingsOf_L7 o r n s.1 i s.2) 73 (fun i s => PK s.1 (itr (rb P r) i.toNat (sl P 2)) ∧ CE (o + 1) G s.2 ∧ (∀ j, 0 ≤ j → j < i → alC P r j = false) ∧ faF (sl P 10) (wnP P r) (P 0) (itr (rb P r) i.toNat (sl P 2)) + i ≤ 72) ?_ ?_ (by omega) (by omega) (by omega) (s := (G o 0, G)) ⟨hC.2.1, CE.refl hC.2.2.1, fun j j0 j1 => by omega, ?_⟩
  · intro n i s i0 i1 hI ih
    obtain ⟨q, G1⟩ := s
    obtain ⟨e1, e2, e3, e4⟩ := hI
    simp only at e1 e2 e3 e4
    have hC1 := hC.ce e2
    show ok (cPa_readingsOf_L7 o r (n + 1) q i G1) _
    rw [cPa_readingsOf_L7, if_pos (by omega), w32_id (by omega) (by omega)]
    refine ok_then (readBy_ok hV hC1 r0 r1 e1 (itr_V hV.pv i.toNat)) fun x hx => ?_
    refine ok_ite (fun e => ok_some ⟨?_, e2.trans hx.2⟩) (fun e => ih (x.1, x.2) ⟨?_, e2.trans hx.2, fun j j0 j1 => ?_, ?_⟩)
    · symm
      refine fstB_eq i0 (by omega) (decide_eq_true (nch_0.mpr ?_)) e3
      exact (PK_inj hx.1 e1).mp e
    · show PK x.1 _
      rw [itr_s _ i0]
      exact hx.1
    · by_cases hj : j = i
      · subst hj
        refine decide_eq_false fun z => e ?_
        exact (PK_inj hx.1 e1).mpr (nch_0.mp z)
      · exact e3 j j0 (by omega)
    · have := alo_step hV r0 (by omega) i0 (decide_eq_false fun z => e ((PK_inj hx.1 e1).mpr (nch_0.mp z)))
      omega
  · intro n s hI
    obtain ⟨q, G1⟩ := s
    obtain ⟨e1, e2, e3, e4⟩ := hI
    have := faF_r (sl P 10) (wnP P r) h0.1 h0.2 (itr (rb P r) (73 : Int).toNat (sl P 2))
    omega
  · have := faF_r (sl P 10) (wnP P r) h0.1 h0.2 (itr (rb P r) (0 : Int).toNat (sl P 2))
    omega
theorem alone_ok {G : Hp} {b r : Int} {P : Int → Int} (hV : PaperV P) (hM : M0 P b G) (r0 : 0 ≤ r) (r1 : r < 6) : ok (mm_aloneOf r G) (fun x => x.1 = alo P r ∧ Mq G x.2) := by
  have h0 := hV.1
  obtain ⟨m1, m2, m3, m4, m5, m6, m7, m8, m9, m10⟩ := hM
  unfold mm_aloneOf
  have z := (m4 r r0 (by omega)).1
  refine lp_up (fun n i (s : Int × Hp) => mm_aloneOf_L2 r n s.1 s.2) 73 (fun i s => s.1 = i ∧ (∀ p, 0 ≤ p → p < 8 → s.2 207 p = itr (rb P r) i.toNat (sl P 2) p) ∧ (MS P b s.2 ∧ MN (sl P 10) s.2 ∧ s.2 209 r = 0 ∧ Mk 8 (s.2 201 20) ∧ Mq G s.2) ∧ (∀ j, 0 ≤ j → j < i → alC P r j = false) ∧ faF (sl P 10) (wnP P r) (P 0) (itr (rb P r) i.toNat (sl P 2)) + i ≤ 72) ?_ ?_ (i := 0) (by omega) (by omega) (by omega) (s := (0, G)) ⟨rfl, fun p p0 p1 => (m3 p p0 p1).1, ⟨m1, m2, z, Mk0 m8 8, Mq.refl G⟩, fun j j0 j1 => by omega, ?_⟩
  · intro n i s i0 i1 hI ih
    obtain ⟨x, G1⟩ := s
    obtain ⟨e1, e2, ⟨f1, f2, f3, f4, f5⟩, e3, e4⟩ := hI
    simp only at e1 e2 e3 e4 f1 f2 f3 f4 f5
    show ok (mm_aloneOf_L2 r (n + 1) x G1) _
    rw [mm_aloneOf_L2, e1, w32_id (by omega) (by omega)]
    refine ok_then (reads_ok hV f1 f2 (itr_V hV.pv i.toNat) e2 r0 (by omega) (Mk0 f3 8) f4) fun y hy => ?_
    rw [f3] at hy
    have e9 : y.1 = nch (rb P r (itr (rb P r) i.toNat (sl P 2))) (itr (rb P r) i.toNat (sl P 2)) := hy.1
    have hR : RdM (rb P r (itr (rb P r) i.toNat (sl P 2))) (itr (rb P r) i.toNat (sl P 2)) r (nch (rb P r (itr (rb P r) i.toNat (sl P 2))) (itr (rb P r) i.toNat (sl P 2))) G1 y.2 := hy.2
    have hn := nch_r (rb P r (itr (rb P r) i.toNat (sl P 2))) (itr (rb P r) i.toNat (sl P 2))
    refine ok_ite (fun e => ih (i + 1, y.2) ⟨rfl, ?_, ⟨hR.ms f1, hR.mn f2, ?_, hR.2.2.1.1, f5.trans hR.mq⟩, fun j j0 j1 => ?_, ?_⟩) (fun e => ok_some ⟨?_, f5.trans hR.mq⟩)
    · rw [itr_s _ i0]
      exact hR.1
    · show y.2 209 r = 0
      rw [hR.2.2.2.2.2 _ _ (by omega) (by omega) (by omega) (by omega)]
      exact f3
    · by_cases hj : j = i
      · subst hj
        exact decide_eq_false fun z => by omega
      · exact e3 j j0 (by omega)
    · have := alo_step hV r0 r1 i0 (decide_eq_false fun z => by omega)
      omega
    · symm
      have hz : alC P r i = true := by
        refine decide_eq_true ?_
        omega
      exact fstB_eq i0 (by omega) hz e3
  · intro n s hI
    obtain ⟨q, G1⟩ := s
    obtain ⟨e1, e2, e5, e3, e4⟩ := hI
    have := faF_r (sl P 10) (wnP P r) h0.1 h0.2 (itr (rb P r) (73 : Int).toNat (sl P 2))
    omega
  · have := faF_r (sl P 10) (wnP P r) h0.1 h0.2 (itr (rb P r) (0 : Int).toNat (sl P 2))
    omega
def dsV (P : Int → Int) (r a : Int) : Int := if a = 0 then faF (sl P 10) (wnP P r) (P 0) (sl P 2) else if a = 1 then alo P r else if a = 2 then rvs P r else -2
theorem op23 : Op23 Inv := by
  intro Gc Gm hI a1 a2 a3 r1 r2 r3
  have hC : CInv Gc (Gm 202) (Gm 203) := hI
  by_cases hk : 0 ≤ a1 ∧ a1 < Gm 202 0
  · obtain ⟨hp, hk2⟩ := paperAt_yes hC hk.1 hk.2
    obtain ⟨hV, hP⟩ := hC.paper hk2
    have hyes := isPaper_yes hC.av hk.1 hk.2
    generalize ct 80 (Gm 202) (pb a1) = P at *
    have h0 := hV.1
    have h1 := hV.2.1
    have ho := o_or hk2
    generalize 7 + 15 * a1 = o at *
    have o0 : ¬ o < 0 := by omega
    by_cases hr : 0 ≤ a2 ∧ a2 < P 1
    · refine op_q hI (dsV P a2 a3) ?_ ?_
      · unfold cX_distance dsV
        rw [hp, Option.bind_some, if_neg o0, if_neg (by omega), hP.1.2, if_neg (by omega)]
        by_cases g0 : a3 = 0
        · rw [if_pos g0, if_pos g0]
          exact ok_then (farFrom_ok hV hP hr.1 (by omega)) fun x hx => ok_some ⟨hx.1, hC.sq (Sq.ce ho hx.2)⟩
        rw [if_neg g0, if_neg g0]
        by_cases g1 : a3 = 1
        · rw [if_pos g1, if_pos g1]
          exact ok_then (readingsOf_ok hV hP hr.1 hr.2) fun x hx => ok_some ⟨hx.1, hC.sq (Sq.ce ho hx.2)⟩
        rw [if_neg g1, if_neg g1]
        by_cases g2 : a3 = 2
        · rw [if_pos g2, if_pos g2, rivals_ok hV hP hr.1 (by omega), Option.bind_some]
          exact ok_some ⟨rfl, hC⟩
        rw [if_neg g2, if_neg g2]
        exact ok_some ⟨rfl, hC⟩
      · unfold mm_distance dsV
        refine ok_then hyes fun r hr2 => ?_
        obtain ⟨e1, e2, e3, e4⟩ := hr2
        have hM := e2.1
        have hq : Mq Gm r.2 := ⟨e3, e4⟩
        rw [e1, if_tt, isReader_ok hV hM, Option.bind_some, decide_eq_true hr, if_tt]
        by_cases g0 : a3 = 0
        · rw [if_pos g0, if_pos g0, mdistance_ok hV hM e2.2.1 hV.pv (fun p p0 p1 => (e2.2.2.1 p p0 p1).1) hr.1 (by omega), Option.bind_some]
          exact ok_some ⟨rfl, hq⟩
        rw [if_neg g0, if_neg g0]
        by_cases g1 : a3 = 1
        · rw [if_pos g1, if_pos g1]
          exact ok_then (alone_ok hV e2 hr.1 (by omega)) fun x hx => ok_some ⟨hx.1, hq.trans hx.2⟩
        rw [if_neg g1, if_neg g1]
        by_cases g2 : a3 = 2
        · rw [if_pos g2, if_pos g2, mrivals_ok hV hM hr.1 (by omega), Option.bind_some]
          exact ok_some ⟨rfl, hq⟩
        rw [if_neg g2, if_neg g2]
        exact ok_some ⟨rfl, hq⟩
    · refine op_q hI (-2) ?_ ?_
      · unfold cX_distance
        rw [hp, Option.bind_some, if_neg o0, hP.1.2]
        by_cases h2 : a2 < 0
        · rw [if_pos h2]
          exact ok_some ⟨rfl, hC⟩
        · rw [if_neg h2, if_pos (by omega)]
          exact ok_some ⟨rfl, hC⟩
      · unfold mm_distance
        refine ok_then hyes fun r hr2 => ?_
        obtain ⟨e1, e2, e3, e4⟩ := hr2
        rw [e1, if_tt, isReader_ok hV e2.1, Option.bind_some, decide_eq_false hr, if_ff]
        exact ok_some ⟨rfl, e3, e4⟩
  · refine op_q hI (-2) ?_ ?_
    · unfold cX_distance
      rw [paperAt_no hC hk, Option.bind_some, if_pos (by omega)]
      exact ok_some ⟨rfl, hC⟩
    · unfold mm_distance
      rw [isPaper_no hC.av hk, Option.bind_some, if_ff]
      exact ok_some ⟨rfl, rfl, rfl⟩
