-- idle, the last word, swaps, teaching, blame
def idB (P : Int → Int) : Int → Bool := fun r => decide (nch (rb P r (sl P 2)) (sl P 2) = 0)
theorem idle_ok {G : Hp} {o : Int} {P : Int → Int} (hV : PaperV P) (hC : PaperC G o P) : ok (cPa_idle o G) (fun x => x.1 = bm (idB P) (P 1).toNat ∧ CE (o + 1) G x.2) := by
  have h1 := hV.2.1
  unfold cPa_idle
  refine lp_up (fun n i (s : Int × Hp) => cPa_idle_L4 o n s.1 i s.2) (P 1) (fun i s => s.1 = bm (idB P) i.toNat ∧ CE (o + 1) G s.2) ?_ ?_ (by omega) (by omega) (by omega) (s := (0, G)) ⟨rfl, CE.refl hC.2.2.1⟩
  · intro n i s i0 i1 hI ih
    obtain ⟨x, G1⟩ := s
    obtain ⟨e1, e2⟩ := hI
    simp only at e1 e2
    have hC1 := hC.ce e2
    have hs := bm_s (idB P) i0
    have hm := bm_Mk (idB P) i.toNat (by omega)
    show ok (cPa_idle_L4 o (n + 1) x i G1) _
    rw [cPa_idle_L4, hC1.1.2, if_pos i1, w32_id (by omega) (by omega)]
    refine ok_then (readBy_ok hV hC1 i0 i1 hC1.2.1 hV.pv) fun y hy => ?_
    have hC2 := hC1.ce hy.2
    have heq : y.1 = y.2 o 0 ↔ idB P i = true := by
      unfold idB
      rw [decide_eq_true_eq, nch_0]
      exact PK_inj hy.1 hC2.2.1
    refine ok_ite (fun e => ih (_, y.2) ⟨?_, e2.trans hy.2⟩) (fun e => ih (_, y.2) ⟨?_, e2.trans hy.2⟩)
    · show ior x (ishl 1 i) = _
      rw [hs, if_pos (heq.mp e), e1]
    · show ior x 0 = _
      rw [hs, if_neg (fun z => e (heq.mpr z)), e1, ior_0 hm (by omega)]
  · intro n s hI
    obtain ⟨x, G1⟩ := s
    have hC1 := hC.ce hI.2
    show ok (cPa_idle_L4 o (n + 1) x (P 1) G1) _
    rw [cPa_idle_L4, show G1 o 2 = P 1 from hC1.1.2, if_neg (by omega)]
    exact ok_some hI
theorem midle_ok {G : Hp} {b : Int} {P : Int → Int} (hV : PaperV P) (h : MW P (sl P 10) b G) : ok (mm_idleOf G) (fun x => x.1 = bm (idB P) (P 1).toNat ∧ Mq G x.2) := by
  have h1 := hV.2.1
  unfold mm_idleOf
  refine lp_up (fun n i (s : Int × Hp) => mm_idleOf_L4 n s.1 i s.2) (P 1) (fun i s => s.1 = bm (idB P) i.toNat ∧ MW P (sl P 10) b s.2 ∧ Mq G s.2) ?_ ?_ (by omega) (by omega) (by omega) (s := (0, G)) ⟨rfl, h, Mq.refl G⟩
  · intro n i s i0 i1 hI ih
    obtain ⟨x, G1⟩ := s
    obtain ⟨e1, e2, e3⟩ := hI
    simp only at e1 e2 e3
    have hs := bm_s (idB P) i0
    have hm := bm_Mk (idB P) i.toNat (by omega)
    show ok (mm_idleOf_L4 (n + 1) x i G1) _
    rw [mm_idleOf_L4, e2.1.1.2.2, if_pos i1, w32_id (by omega) (by omega)]
    refine ok_then (begun_ok hV e2) fun G2 hG2 => ?_
    obtain ⟨b1, b2, b3, b4, b5, b6, b7⟩ := hG2
    refine ok_then (reads_MR hV ⟨b1, b2, b3, b4, b5, b6⟩ i0 (by omega)) fun y hy => ?_
    have hW : MW P (sl P 10) b y.2 := ⟨hy.2.1.1, hy.2.1.2.1, hy.2.1.2.2.2.2.2⟩
    have hq := (e3.trans b7.mq).trans hy.2.2.mq
    rw [hy.1]
    refine ok_ite (fun e => ih (_, y.2) ⟨?_, hW, hq⟩) (fun e => ih (_, y.2) ⟨?_, hW, hq⟩)
    · show ior x (ishl 1 i) = _
      rw [hs, if_pos (show idB P i = true from decide_eq_true e), e1]
    · show ior x 0 = _
      rw [hs, if_neg (show ¬ idB P i = true from fun z => e (of_decide_eq_true z)), e1, ior_0 hm (by omega)]
  · intro n s hI
    obtain ⟨x, G1⟩ := s
    obtain ⟨e1, e2, e3⟩ := hI
    simp only at e1 e2 e3
    show ok (mm_idleOf_L4 (n + 1) x (P 1) G1) _
    rw [mm_idleOf_L4, e2.1.1.2.2, if_neg (by omega)]
    exact ok_some ⟨e1, e3⟩
/-- all others, and one at last -/
def lrow (n l : Int) : Int → Int := fun k => if k = n - 1 then l else if k < l then k else k + 1
def lvL (P : Int → Int) (l : Int) : Int := ctA P (rwN P (sl P 10) (lrow (P 1) l) (sl P 2) (P 1).toNat)
theorem ctA_v {P : Int → Int} (hV : PaperV P) (g : Int → Int → Int) : ∀ k, 0 ≤ ctA P (g k) ∧ ctA P (g k) ≤ 48 := fun k => ctA_r hV (g k)
def mR (l r : Int) : Int := if r ≤ l then r else r - 1
theorem lrow_m {n l r : Int} (r0 : 0 ≤ r) (r1 : r < n) (l0 : 0 ≤ l) (l1 : l < n) (h : r ≠ l) : lrow n l (mR l r) = r ∧ mR l (r + 1) = mR l r + 1 := by
  unfold lrow mR
  by_cases q : r ≤ l
  · rw [if_pos q, if_neg (by omega), if_pos (by omega), if_pos (by omega)]
    exact ⟨rfl, rfl⟩
  · rw [if_neg q, if_neg (by omega), if_neg (by omega), if_neg (by omega)]
    omega
theorem bestLast_ok {G : Hp} {o : Int} {P : Int → Int} (hV : PaperV P) (ho : o = 7 ∨ o = 22) (hC : PaperC G o P) : ok (cX_bestLast o G) (fun x => BR (lvL P) x.1 (bwC (fun _ => true) (lvL P) (P 1).toNat) ∧ CE (o + 1) G x.2) := by
  have h1 := hV.2.1
  have hval : ∀ k, 0 ≤ lvL P k ∧ lvL P k ≤ 48 := fun k => ctA_r hV _
  unfold cX_bestLast
  refine lp_up (fun n i (s : Int × Hp) => cX_bestLast_L4 o n s.1 i s.2) (P 1) (fun i s => BR (lvL P) s.1 (bwC (fun _ => true) (lvL P) i.toNat) ∧ CE (o + 1) G s.2) ?_ ?_ (by omega) (by omega) (by omega) (s := (-1, G)) ⟨Or.inl ⟨rfl, rfl⟩, CE.refl hC.2.2.1⟩
  · intro n l s l0 l1 hI ih
    obtain ⟨best, G1⟩ := s
    obtain ⟨e1, e2⟩ := hI
    simp only at e1 e2
    have hC1 := hC.ce e2
    show ok (cX_bestLast_L4 o (n + 1) best l G1) _
    rw [cX_bestLast_L4, hC1.1.2, if_pos l1, w32_id (z := l + 1) (by omega) (by omega)]
    refine lp_up (fun n2 r (s : Int × Hp) => cX_bestLast_L20 o best l (fun x3_53 G_53 => (cPa_readBy o l x3_53 G_53).bind fun r58 => (cPa_contentOfAll o r58.1 r58.2).bind fun v61 => (cX_better best v61 l r58.2).bind fun v65 => cX_bestLast_L4 o n v65 (l + 1) r58.2) n2 s.1 r s.2) (P 1) (fun r s => PK s.1 (rwN P (sl P 10) (lrow (P 1) l) (sl P 2) (mR l r).toNat) ∧ CE (o + 1) G s.2) ?_ ?_ (by omega) (by omega) (by omega) (s := (G1 o 0, G1)) ⟨?_, e2⟩
    · intro n2 r s r0 r1 hI2 ih2
      obtain ⟨q, G2⟩ := s
      obtain ⟨f1, f2⟩ := hI2
      simp only at f1 f2
      have hC2 := hC.ce f2
      show ok (cX_bestLast_L20 o best l _ (n2 + 1) q r G2) _
      rw [cX_bestLast_L20, hC2.1.2, if_pos r1, w32_id (z := r + 1) (by omega) (by omega)]
      refine ok_ite (fun e => ih2 (q, G2) ⟨?_, f2⟩) (fun e => ok_then (readBy_ok hV hC2 r0 r1 f1 (rwN_V hV.pv _)) fun y hy => ih2 (y.1, y.2) ⟨?_, f2.trans hy.2⟩)
      · show PK q _
        have : mR l (r + 1) = mR l r := by unfold mR; rw [if_neg (by omega), if_pos (by omega)]; omega
        rw [this]
        exact f1
      · show PK y.1 _
        have hl := lrow_m r0 r1 l0 l1 e
        have hm0 : 0 ≤ mR l r := by unfold mR; split <;> omega
        rw [hl.2, rwN_s P _ _ _ hm0, hl.1]
        exact hy.1
    · intro n2 s hI2
      obtain ⟨q, G2⟩ := s
      obtain ⟨f1, f2⟩ := hI2
      simp only at f1 f2
      have hC2 := hC.ce f2
      show ok (cX_bestLast_L20 o best l _ (n2 + 1) q (P 1) G2) _
      rw [cX_bestLast_L20, hC2.1.2, if_neg (by omega)]
      refine ok_then (readBy_ok hV hC2 l0 l1 f1 (rwN_V hV.pv _)) fun y hy => ?_
      have hpk : PK y.1 (rwN P (sl P 10) (lrow (P 1) l) (sl P 2) (P 1).toNat) := by
        have hm : mR l (P 1) = P 1 - 1 := by unfold mR; rw [if_neg (by omega)]
        have hs := rwN_s P (sl P 10) (lrow (P 1) l) (sl P 2) (i := P 1 - 1) (by omega)
        rw [show P 1 - 1 + 1 = P 1 by omega, show lrow (P 1) l (P 1 - 1) = l from if_pos rfl] at hs
        rw [hs, ← hm]
        exact hy.1
      rw [contentAll_ok hV (hC2.ce hy.2) hpk, Option.bind_some]
      refine ok_then (better_ok (cond := fun _ => true) (val := lvL P) l0 (by omega) hval rfl e1) fun z hz => ih (z, y.2) ⟨hz, f2.trans hy.2⟩
    · show PK (G1 o 0) _
      have : mR l 0 = 0 := by unfold mR; rw [if_pos (by omega)]
      rw [this]
      exact hC1.2.1
  · intro n s hI
    obtain ⟨x, G1⟩ := s
    have hC1 := hC.ce hI.2
    show ok (cX_bestLast_L4 o (n + 1) x (P 1) G1) _
    rw [cX_bestLast_L4, show G1 o 2 = P 1 from hC1.1.2, if_neg (by omega)]
    exact ok_some hI
/-- the model's couple of which and how much -/
def MPv (val : Int → Int) (c x y : Int) : Prop := x = c ∧ y = if c = -1 then 0 else val c
theorem MPv_s {cond : Int → Bool} {val : Int → Int} {i x y : Int} (i0 : 0 ≤ i) (hc : cond i = true) (h : MPv val (bwC cond val i.toNat) x y) : (x = -1 → MPv val (bwC cond val (i + 1).toNat) i (val i)) ∧ (x ≠ -1 → val i ≤ y → MPv val (bwC cond val (i + 1).toNat) x y) ∧ (x ≠ -1 → ¬ val i ≤ y → MPv val (bwC cond val (i + 1).toNat) i (val i)) := by
  have hs := bwC_s (cond := cond) (val := val) i0
  obtain ⟨h1, h2⟩ := h
  rw [← h1] at hs h2
  refine ⟨fun e => ?_, fun e1 e2 => ?_, fun e1 e2 => ?_⟩
  · rw [if_pos ⟨hc, Or.inl e⟩] at hs
    rw [hs]
    exact ⟨rfl, by rw [if_neg (by omega)]⟩
  · rw [if_neg e1] at h2
    rw [if_neg (fun z => z.2.elim e1 (fun q => by omega))] at hs
    rw [hs]
    exact ⟨rfl, by rw [if_neg e1]; exact h2⟩
  · rw [if_neg e1] at h2
    rw [if_pos ⟨hc, Or.inr (by omega)⟩] at hs
    rw [hs]
    exact ⟨rfl, by rw [if_neg (by omega)]⟩
theorem lastWordOf_ok {G : Hp} {b is : Int} {P : Int → Int} (hV : PaperV P) (h : MW P (sl P 10) b G) : ok (mm_lastWordOf is G) (fun x => x.1 = (if is = 0 then bwC (fun _ => true) (lvL P) (P 1).toNat else if bwC (fun _ => true) (lvL P) (P 1).toNat = -1 then 0 else lvL P (bwC (fun _ => true) (lvL P) (P 1).toNat)) ∧ Mq G x.2) := by
  have h1 := hV.2.1
  unfold mm_lastWordOf
  refine lp_up (fun n i (s : Int × Int × Hp) => mm_lastWordOf_L7 is (fun x2_101 x3_101 G_101 => if is = 0 then some (x2_101, G_101) else some (x3_101, G_101)) n s.1 s.2.1 i s.2.2) (P 1) (fun i s => MPv (lvL P) (bwC (fun _ => true) (lvL P) i.toNat) s.1 s.2.1 ∧ MW P (sl P 10) b s.2.2 ∧ Mq G s.2.2) ?_ ?_ (by omega) (by omega) (by omega) (s := (-1, 0, G)) ⟨⟨rfl, rfl⟩, h, Mq.refl G⟩
  · intro n l s l0 l1 hI ih
    obtain ⟨x, y, G1⟩ := s
    obtain ⟨e1, e2, e3⟩ := hI
    simp only at e1 e2 e3
    show ok (mm_lastWordOf_L7 is _ (n + 1) x y l G1) _
    rw [mm_lastWordOf_L7, e2.1.1.2.2, if_pos l1, w32_id (z := l + 1) (by omega) (by omega)]
    refine lp_up (fun n2 r (s : Int × Hp) => mm_lastWordOf_L22 is x y l (fun G_56 => gd (w32 ((G_56 201 14) - 1)) 6 ((mm_readsRow (upd2 G_56 213 (w32 ((G_56 201 14) - 1)) l)).bind fun r70 => if x = (-1) then mm_lastWordOf_L7 is (fun x2_101 x3_101 G_101 => if is = 0 then some (x2_101, G_101) else some (x3_101, G_101)) n l r70.1 (l + 1) r70.2 else (if r70.1 ≤ y then mm_lastWordOf_L7 is (fun x2_101 x3_101 G_101 => if is = 0 then some (x2_101, G_101) else some (x3_101, G_101)) n x y (l + 1) r70.2 else mm_lastWordOf_L7 is (fun x2_101 x3_101 G_101 => if is = 0 then some (x2_101, G_101) else some (x3_101, G_101)) n l r70.1 (l + 1) r70.2))) n2 s.1 r s.2) (P 1) (fun r s => s.1 = mR l r ∧ (∀ k, 0 ≤ k → k < s.1 → s.2 213 k = lrow (P 1) l k) ∧ ∀ a j, a ≠ 213 → s.2 a j = G1 a j) ?_ ?_ (by omega) (by omega) (by omega) (s := (0, G1)) ⟨?_, fun k k0 k1 => absurd (show k < 0 from k1) (by omega), fun _ _ _ => rfl⟩
    · intro n2 r s r0 r1 hI2 ih2
      obtain ⟨m, G2⟩ := s
      obtain ⟨f1, f2, f3⟩ := hI2
      simp only at f1 f2 f3
      show ok (mm_lastWordOf_L22 is x y l _ (n2 + 1) m r G2) _
      rw [mm_lastWordOf_L22, f3 _ _ (by omega), e2.1.1.2.2, if_pos r1, w32_id (z := r + 1) (by omega) (by omega)]
      have hm : 0 ≤ m ∧ m ≤ r ∧ (r ≠ l → m ≤ P 1 - 1) := by
        rw [f1]
        unfold mR
        split
        · omega
        · omega
      refine ok_ite (fun e => ih2 (m, G2) ⟨?_, f2, f3⟩) (fun e => ?_)
      · show m = _
        rw [f1]
        unfold mR
        rw [if_pos (by omega), if_neg (by omega)]
        omega
      · have hl := lrow_m r0 r1 l0 l1 e
        rw [← f1] at hl
        rw [w32_id (by omega) (by omega)]
        refine ok_gd hm.1 (by omega) (ih2 (m + 1, upd2 G2 213 m r) ⟨hl.2.symm, fun k k0 k1 => ?_, fun a j z => ?_⟩)
        · show upd2 G2 213 m r 213 k = _
          have k1' : k < m + 1 := k1
          by_cases hk : k = m
          · rw [upd2_e rfl hk, hk, hl.1]
          · rw [upd2_o (by omega)]
            exact f2 k k0 (by omega)
        · show upd2 G2 213 m r a j = _
          rw [upd2_o (by omega)]
          exact f3 a j z
    · intro n2 s hI2
      obtain ⟨m, G2⟩ := s
      obtain ⟨f1, f2, f3⟩ := hI2
      simp only at f1 f2 f3
      have hm : m = P 1 - 1 := by rw [f1]; unfold mR; rw [if_neg (by omega)]
      have hM2 : MW P (sl P 10) b G2 := e2.fr fun a j z => f3 a j (by omega)
      show ok (mm_lastWordOf_L22 is x y l _ (n2 + 1) m (P 1) G2) _
      rw [mm_lastWordOf_L22, hM2.1.1.2.2, if_neg (by omega), w32_id (by omega) (by omega)]
      have hM3 : MW P (sl P 10) b (upd2 G2 213 (P 1 - 1) l) := hM2.fr fun a j z => upd2_o (by omega)
      refine ok_gd (by omega) (by omega) (ok_then (readsRow_ok (row := lrow (P 1) l) hV hM3 fun k k0 k1 => ?_) fun z hz => ?_)
      · refine ⟨?_, ?_⟩
        · by_cases hk : k = P 1 - 1
          · rw [upd2_e rfl hk]
            exact (if_pos hk).symm
          · rw [upd2_o (by omega)]
            exact f2 k k0 (by omega)
        · unfold lrow
          split
          · omega
          · split <;> omega
      · have hq : Mq G z.2 := (e3.trans (Mq.fr fun j => ⟨by rw [upd2_o (by omega), f3 _ _ (by omega)], by rw [upd2_o (by omega), f3 _ _ (by omega)]⟩)).trans hz.2.2.2.mq
        have hv : z.1 = lvL P l := hz.1
        have hst := MPv_s (cond := fun _ => true) l0 rfl e1
        rw [hv]
        refine ok_ite (fun e => ih (l, lvL P l, z.2) ⟨hst.1 e, hz.2.1, hq⟩) (fun e => ok_ite (fun e5 => ih (x, y, z.2) ⟨hst.2.1 e e5, hz.2.1, hq⟩) (fun e5 => ih (l, lvL P l, z.2) ⟨hst.2.2 e e5, hz.2.1, hq⟩))
    · show (0 : Int) = mR l 0
      unfold mR
      rw [if_pos (by omega)]
  · intro n s hI
    obtain ⟨x, y, G1⟩ := s
    obtain ⟨e1, e2, e3⟩ := hI
    simp only at e1 e2 e3
    show ok (mm_lastWordOf_L7 is _ (n + 1) x y (P 1) G1) _
    rw [mm_lastWordOf_L7, e2.1.1.2.2, if_neg (by omega)]
    refine ok_ite (fun e => ok_some ⟨?_, e3⟩) (fun e => ok_some ⟨?_, e3⟩)
    · rw [if_pos e]
      exact e1.1
    · rw [if_neg e]
      exact e1.2
/-- two change their places -/
def swR (a b : Int) : Int → Int := fun r => if r = a then b else if r = b then a else r
def swV (P : Int → Int) (c : Int) : Int := ctA P (rwN P (sl P 10) (swR (c / 10) (c % 10)) (sl P 2) (P 1).toNat)
def swC (n c : Int) : Bool := decide (c / 10 < c % 10 ∧ c % 10 < n)
theorem swC_t {n a b : Int} (b0 : 0 ≤ b) (b1 : b < 10) (ab : a < b) (bn : b < n) : swC n (10 * a + b) = true := by
  unfold swC
  rw [show (10 * a + b) / 10 = a by omega, show (10 * a + b) % 10 = b by omega]
  exact decide_eq_true ⟨ab, bn⟩
theorem swV_at {P : Int → Int} {a b : Int} (b0 : 0 ≤ b) (b1 : b < 10) : swV P (10 * a + b) = ctA P (rwN P (sl P 10) (swR a b) (sl P 2) (P 1).toNat) := by
  unfold swV
  rw [show (10 * a + b) / 10 = a by omega, show (10 * a + b) % 10 = b by omega]
theorem swC_lo {n a c : Int} (h1 : 10 * a ≤ c) (h2 : c < 10 * a + (a + 1)) (ha : a < 9) : swC n c = false := by
  unfold swC
  exact decide_eq_false (by omega)
theorem swC_hi {n a c : Int} (h1 : 10 * a + n ≤ c) (h2 : c < 10 * (a + 1)) (n0 : 0 ≤ n) : swC n c = false := by
  unfold swC
  exact decide_eq_false (by omega)
theorem bestSwap_ok {G : Hp} {o : Int} {P : Int → Int} (hV : PaperV P) (ho : o = 7 ∨ o = 22) (hC : PaperC G o P) : ok (cX_bestSwap o G) (fun x => BR (swV P) x.1 (bwC (swC (P 1)) (swV P) (10 * P 1).toNat) ∧ CE (o + 1) G x.2) := by
  have h1 := hV.2.1
  have hval : ∀ k, 0 ≤ swV P k ∧ swV P k ≤ 48 := fun k => ctA_r hV _
  unfold cX_bestSwap
  refine lp_up (fun n i (s : Int × Hp) => cX_bestSwap_L4 o n s.1 i s.2) (P 1) (fun i s => BR (swV P) s.1 (bwC (swC (P 1)) (swV P) (10 * i).toNat) ∧ CE (o + 1) G s.2) ?_ ?_ (by omega) (by omega) (by omega) (s := (-1, G)) ⟨Or.inl ⟨rfl, rfl⟩, CE.refl hC.2.2.1⟩
  · intro n a s a0 a1 hI ih
    obtain ⟨best, G1⟩ := s
    obtain ⟨e1, e2⟩ := hI
    simp only at e1 e2
    have hC1 := hC.ce e2
    show ok (cX_bestSwap_L4 o (n + 1) best a G1) _
    rw [cX_bestSwap_L4, hC1.1.2, if_pos a1, w32_id (z := a + 1) (by omega) (by omega)]
    refine lp_up (fun n2 b (s : Int × Hp) => cX_bestSwap_L16 o a (fun x1_101 G_101 => cX_bestSwap_L4 o n x1_101 (a + 1) G_101) n2 s.1 b s.2) (P 1) (fun b s => a + 1 ≤ b ∧ BR (swV P) s.1 (bwC (swC (P 1)) (swV P) (10 * a + b).toNat) ∧ CE (o + 1) G s.2) ?_ ?_ (by omega) (by omega) (by omega) (s := (best, G1)) ⟨by omega, ?_, e2⟩
    · intro n2 b s b0 b1 hI2 ih2
      obtain ⟨best, G2⟩ := s
      obtain ⟨g0, f1, f2⟩ := hI2
      simp only at f1 f2
      have hC2 := hC.ce f2
      show ok (cX_bestSwap_L16 o a _ (n2 + 1) best b G2) _
      rw [cX_bestSwap_L16, hC2.1.2, if_pos b1, w32_id (z := b + 1) (by omega) (by omega)]
      refine lp_up (fun n3 r (s : Int × Hp) => cX_bestSwap_L33 o best a b (fun x4_78 G_78 => (cPa_contentOfAll o x4_78 G_78).bind fun v82 => (cX_better best v82 (w32 ((w32 (10 * a)) + b)) G_78).bind fun v91 => cX_bestSwap_L16 o a (fun x1_101 G_101 => cX_bestSwap_L4 o n x1_101 (a + 1) G_101) n2 v91 (b + 1) G_78) n3 s.1 r s.2) (P 1) (fun r s => PK s.1 (rwN P (sl P 10) (swR a b) (sl P 2) r.toNat) ∧ CE (o + 1) G s.2) ?_ ?_ (by omega) (by omega) (by omega) (s := (G2 o 0, G2)) ⟨hC2.2.1, f2⟩
      · intro n3 r s r0 r1 hI3 ih3
        obtain ⟨q, G3⟩ := s
        obtain ⟨k1, k2⟩ := hI3
        simp only at k1 k2
        have hC3 := hC.ce k2
        have st : ∀ t : Int, t = swR a b r → ok (cX_bestSwap_j65 o (cX_bestSwap_L33 o best a b (fun x4_78 G_78 => (cPa_contentOfAll o x4_78 G_78).bind fun v82 => (cX_better best v82 (w32 ((w32 (10 * a)) + b)) G_78).bind fun v91 => cX_bestSwap_L16 o a (fun x1_101 G_101 => cX_bestSwap_L4 o n x1_101 (a + 1) G_101) n2 v91 (b + 1) G_78) n3) best a b q r t G3) (fun x => BR (swV P) x.1 (bwC (swC (P 1)) (swV P) (10 * P 1).toNat) ∧ CE (o + 1) G x.2) := by
          intro t ht
          have htr : 0 ≤ t ∧ t < P 1 := by
            rw [ht]
            unfold swR
            split
            · omega
            · split <;> omega
          unfold cX_bestSwap_j65
          refine ok_then (readBy_ok hV hC3 htr.1 htr.2 k1 (rwN_V hV.pv _)) fun y hy => ?_
          rw [w32_id (z := r + 1) (by omega) (by omega)]
          refine ih3 (y.1, y.2) ⟨?_, k2.trans hy.2⟩
          show PK y.1 _
          rw [rwN_s P _ _ _ r0, ← ht]
          exact hy.1
        show ok (cX_bestSwap_L33 o best a b _ (n3 + 1) q r G3) _
        rw [cX_bestSwap_L33, hC3.1.2, if_pos r1]
        refine ok_ite (fun e => st _ ?_) (fun e => ok_ite (fun e5 => st _ ?_) (fun e5 => st _ ?_))
        · unfold swR
          rw [if_pos e]
        · unfold swR
          rw [if_neg e, if_pos e5]
        · unfold swR
          rw [if_neg e, if_neg e5]
      · intro n3 s hI3
        obtain ⟨q, G3⟩ := s
        obtain ⟨k1, k2⟩ := hI3
        simp only at k1 k2
        have hC3 := hC.ce k2
        show ok (cX_bestSwap_L33 o best a b _ (n3 + 1) q (P 1) G3) _
        rw [cX_bestSwap_L33, hC3.1.2, if_neg (by omega), contentAll_ok hV hC3 k1, Option.bind_some, w32_id (z := 10 * a) (by omega) (by omega), w32_id (z := 10 * a + b) (by omega) (by omega), ← swV_at b0 (by omega)]
        refine ok_then (better_ok (cond := swC (P 1)) (val := swV P) (by omega) (by omega) hval (swC_t b0 (by omega) (by omega) b1) f1) fun z hz => ih2 (z, G3) ⟨by omega, ?_, k2⟩
        rw [show 10 * a + (b + 1) = 10 * a + b + 1 by omega]
        exact hz
    · intro n2 s hI2
      obtain ⟨best, G2⟩ := s
      obtain ⟨g0, f1, f2⟩ := hI2
      simp only at f1 f2
      have hC2 := hC.ce f2
      show ok (cX_bestSwap_L16 o a _ (n2 + 1) best (P 1) G2) _
      rw [cX_bestSwap_L16, hC2.1.2, if_neg (by omega)]
      refine ih (best, G2) ⟨?_, f2⟩
      show BR (swV P) best _
      rw [bwC_to (i := 10 * a + P 1) (j := 10 * (a + 1)) (by omega) (by omega) fun k k0 k1 => swC_hi (a := a) k0 k1 (by omega)]
      exact f1
    · show BR (swV P) best _
      rw [bwC_to (i := 10 * a) (j := 10 * a + (a + 1)) (by omega) (by omega) fun k k0 k1 => swC_lo (a := a) k0 k1 (by omega)]
      exact e1
  · intro n s hI
    obtain ⟨x, G1⟩ := s
    have hC1 := hC.ce hI.2
    show ok (cX_bestSwap_L4 o (n + 1) x (P 1) G1) _
    rw [cX_bestSwap_L4, show G1 o 2 = P 1 from hC1.1.2, if_neg (by omega)]
    exact ok_some hI
theorem swapOf_ok {G : Hp} {b0 is : Int} {P : Int → Int} (hV : PaperV P) (h : MW P (sl P 10) b0 G) : ok (mm_swapOf is G) (fun x => x.1 = (if is = 0 then bwC (swC (P 1)) (swV P) (10 * P 1).toNat else if bwC (swC (P 1)) (swV P) (10 * P 1).toNat = -1 then 0 else swV P (bwC (swC (P 1)) (swV P) (10 * P 1).toNat)) ∧ Mq G x.2) := by
  have h1 := hV.2.1
  unfold mm_swapOf
  refine lp_up (fun n i (s : Int × Int × Hp) => mm_swapOf_L7 is (fun x2_87 x3_87 G_87 => if is = 0 then some (x2_87, G_87) else some (x3_87, G_87)) n s.1 s.2.1 i s.2.2) (P 1) (fun i s => MPv (swV P) (bwC (swC (P 1)) (swV P) (10 * i).toNat) s.1 s.2.1 ∧ MW P (sl P 10) b0 s.2.2 ∧ Mq G s.2.2) ?_ ?_ (by omega) (by omega) (by omega) (s := (-1, 0, G)) ⟨⟨rfl, rfl⟩, h, Mq.refl G⟩
  · intro n a s a0 a1 hI ih
    obtain ⟨x, y, G1⟩ := s
    obtain ⟨e1, e2, e3⟩ := hI
    simp only at e1 e2 e3
    show ok (mm_swapOf_L7 is _ (n + 1) x y a G1) _
    rw [mm_swapOf_L7, e2.1.1.2.2, if_pos a1, w32_id (z := a + 1) (by omega) (by omega)]
    refine lp_up (fun n2 b (s : Int × Int × Hp) => mm_swapOf_L22 is a (fun x2_81 x3_81 G_81 => mm_swapOf_L7 is (fun x2_87 x3_87 G_87 => if is = 0 then some (x2_87, G_87) else some (x3_87, G_87)) n x2_81 x3_81 (a + 1) G_81) n2 s.1 s.2.1 b s.2.2) (P 1) (fun b s => a + 1 ≤ b ∧ MPv (swV P) (bwC (swC (P 1)) (swV P) (10 * a + b).toNat) s.1 s.2.1 ∧ MW P (sl P 10) b0 s.2.2 ∧ Mq G s.2.2) ?_ ?_ (by omega) (by omega) (by omega) (s := (x, y, G1)) ⟨by omega, ?_, e2, e3⟩
    · intro n2 b s b0' b1 hI2 ih2
      obtain ⟨x, y, G2⟩ := s
      obtain ⟨g0, f1, f2, f3⟩ := hI2
      simp only at f1 f2 f3
      show ok (mm_swapOf_L22 is a _ (n2 + 1) x y b G2) _
      rw [mm_swapOf_L22, f2.1.1.2.2, if_pos b1, w32_id (z := b + 1) (by omega) (by omega)]
      refine ok_then firstRow_ok fun G3 hG3 => ?_
      refine ok_then (mswap_ok (row := id) a0 (by omega) b0' (by omega) hG3.1) fun G4 hG4 => ?_
      have hM4 : MW P (sl P 10) b0 G4 := f2.fr fun c j z => by rw [hG4.2 c j (by omega), hG3.2 c j (by omega)]
      refine ok_then (readsRow_ok (row := swR a b) hV hM4 fun k k0 k1 => ?_) fun z hz => ?_
      · have := hG4.1 k k0 (by omega)
        refine ⟨?_, ?_⟩
        · rw [this]
          unfold swR
          by_cases q1 : k = b
          · rw [if_pos q1, if_neg (by omega), if_pos q1]
            rfl
          · rw [if_neg q1]
            by_cases q2 : k = a
            · rw [if_pos q2, if_pos q2]
              rfl
            · rw [if_neg q2, if_neg q2, if_neg q1]
              rfl
        · unfold swR
          split
          · omega
          · split <;> omega
      · have hq : Mq G z.2 := (f3.trans (Mq.fr fun j => ⟨by rw [hG4.2 _ _ (by omega), hG3.2 _ _ (by omega)], by rw [hG4.2 _ _ (by omega), hG3.2 _ _ (by omega)]⟩)).trans hz.2.2.2.mq
        have hv : z.1 = swV P (10 * a + b) := by rw [swV_at b0' (by omega)]; exact hz.1
        have hst := MPv_s (cond := swC (P 1)) (val := swV P) (i := 10 * a + b) (by omega) (swC_t b0' (by omega) (by omega) b1) f1
        have ei : 10 * a + (b + 1) = 10 * a + b + 1 := by omega
        rw [hv]
        unfold mm_swapOf_j63
        rw [w32_id (z := 10 * a) (by omega) (by omega), w32_id (z := 10 * a + b) (by omega) (by omega), w32_id (z := b + 1) (by omega) (by omega)]
        refine ok_ite (fun e => ih2 (10 * a + b, swV P (10 * a + b), z.2) ⟨by omega, by rw [ei]; exact hst.1 e, hz.2.1, hq⟩) (fun e => ok_ite (fun e5 => ih2 (x, y, z.2) ⟨by omega, by rw [ei]; exact hst.2.1 e e5, hz.2.1, hq⟩) (fun e5 => ih2 (10 * a + b, swV P (10 * a + b), z.2) ⟨by omega, by rw [ei]; exact hst.2.2 e e5, hz.2.1, hq⟩))
    · intro n2 s hI2
      obtain ⟨x, y, G2⟩ := s
      obtain ⟨g0, f1, f2, f3⟩ := hI2
      simp only at f1 f2 f3
      show ok (mm_swapOf_L22 is a _ (n2 + 1) x y (P 1) G2) _
      rw [mm_swapOf_L22, f2.1.1.2.2, if_neg (by omega)]
      refine ih (x, y, G2) ⟨?_, f2, f3⟩
      show MPv (swV P) _ x y
      rw [bwC_to (i := 10 * a + P 1) (j := 10 * (a + 1)) (by omega) (by omega) fun k k0 k1 => swC_hi (a := a) k0 k1 (by omega)]
      exact f1
    · show MPv (swV P) _ x y
      rw [bwC_to (i := 10 * a) (j := 10 * a + (a + 1)) (by omega) (by omega) fun k k0 k1 => swC_lo (a := a) k0 k1 (by omega)]
      exact e1
  · intro n s hI
    obtain ⟨x, y, G1⟩ := s
    obtain ⟨e1, e2, e3⟩ := hI
    simp only at e1 e2 e3
    show ok (mm_swapOf_L7 is _ (n + 1) x y (P 1) G1) _
    rw [mm_swapOf_L7, e2.1.1.2.2, if_neg (by omega)]
    refine ok_ite (fun e => ok_some ⟨?_, e3⟩) (fun e => ok_some ⟨?_, e3⟩)
    · rw [if_pos e]
      exact e1.1
    · rw [if_neg e]
      exact e1.2
