-- rounds
def rn (P : Int → Int) (f : Int → Int) : Nat → Int → Int
  | 0 => f
  | m + 1 => rb P (m : Int) (rn P f m)
def rF (P : Int → Int) (f : Int → Int) : Int → Int := rn P f (P 1).toNat
theorem rn_s (P f : Int → Int) {i : Int} (h : 0 ≤ i) : rn P f (i + 1).toNat = rb P i (rn P f i.toNat) := by
  have e : (i + 1).toNat = i.toNat + 1 := by omega
  have e2 : ((i.toNat : Nat) : Int) = i := by omega
  rw [e]
  show rb P ((i.toNat : Nat) : Int) (rn P f i.toNat) = _
  rw [e2]
theorem rn_V {P f : Int → Int} (hf : PV f) : ∀ m : Nat, PV (rn P f m)
  | 0 => hf
  | m + 1 => rdF_V (rn_V hf m)
def nc1 (P f : Int → Int) (r : Int) : Int := nch (rb P r (rn P f r.toNat)) (rn P f r.toNat)
/-- how many changes one round makes -/
def chR (P f : Int → Int) : Int := sm (nc1 P f) (P 1).toNat
theorem nc1_r (P f : Int → Int) (r : Int) : 0 ≤ nc1 P f r ∧ nc1 P f r ≤ 8 := nch_r _ _
theorem sm_pos0 {g : Int → Int} (hg : ∀ k, 0 ≤ g k) : ∀ n : Nat, 0 ≤ sm g n ∧ (sm g n = 0 ↔ ∀ k : Int, 0 ≤ k → k < n → g k = 0)
  | 0 => ⟨Int.le_refl 0, fun _ k k0 k1 => by omega, fun _ => rfl⟩
  | n + 1 => by
    have ih := sm_pos0 hg n
    have h1 := hg (n : Int)
    have e : sm g (n + 1) = sm g n + g (n : Int) := rfl
    refine ⟨by omega, fun h k k0 k1 => ?_, fun h => ?_⟩
    · by_cases hk : k = (n : Int)
      · subst hk; omega
      · exact ih.2.mp (by omega) k k0 (by omega)
    · rw [e, ih.2.mpr (fun k k0 k1 => h k k0 (by omega)), h (n : Int) (by omega) (by omega)]
      rfl
theorem rb_out {P f : Int → Int} {r p : Int} (h : ¬ (0 ≤ p ∧ p < P 0)) : rb P r f p = f p := rdF_out h
theorem rn_out {P f : Int → Int} {p : Int} (h : ¬ (0 ≤ p ∧ p < P 0)) : ∀ m : Nat, rn P f m p = f p
  | 0 => rfl
  | m + 1 => by
    show rb P (m : Int) (rn P f m) p = f p
    rw [rb_out h, rn_out h m]
theorem lap_ok {G : Hp} {o : Int} {P f : Int → Int} (hV : PaperV P) (ho : o = 7 ∨ o = 22) (hC : PaperC G o P) (hq : PK (G 78 3) f) (hf : PV f) :
    ok (cRo_lap o G) (fun x => (x.1 = true ↔ chR P f ≠ 0) ∧ PK (x.2 78 3) (rF P f) ∧ PaperC x.2 o P ∧ Sq G x.2 ∧ (∀ j, x.2 79 j = G 79 j) ∧ x.2 78 1 = G 78 1 ∧ x.2 78 2 = G 78 2) := by
  have h1 := hV.2.1
  unfold cRo_lap
  refine lp_up (fun n i (s : Int × Hp) => cRo_lap_L4 o n s.1 i s.2) (P 1) (fun i s => s.1 = b2i (anyB (fun r => !decide (nc1 P f r = 0)) i.toNat) ∧ PK (s.2 78 3) (rn P f i.toNat) ∧ PaperC s.2 o P ∧ Sq G s.2 ∧ (∀ j, s.2 79 j = G 79 j) ∧ s.2 78 1 = G 78 1 ∧ s.2 78 2 = G 78 2) ?_ ?_ (by omega) (by omega) (by omega) (s := (0, G)) ⟨rfl, hq, hC, Sq.refl G, fun _ => rfl, rfl, rfl⟩
  · intro n i s i0 i1 hI ih
    obtain ⟨c, G1⟩ := s
    obtain ⟨e1, e2, e3, e4, e5, e6, e7⟩ := hI
    simp only at e1 e2 e3 e4 e5 e6 e7
    have hs := anyB_s (fun r => !decide (nc1 P f r = 0)) i0
    show ok (cRo_lap_L4 o (n + 1) c i G1) _
    rw [cRo_lap_L4, e3.1.2, if_pos i1, w32_id (by omega) (by omega)]
    refine ok_then (readBy_ok hV e3 i0 i1 e2 (rn_V hf i.toNat)) fun y hy => ?_
    have c78 : ∀ j, y.2 78 j = G1 78 j := fun j => hy.2.1 _ _ (by omega) (by omega) (by omega)
    have c79 : ∀ j, y.2 79 j = G1 79 j := fun j => hy.2.1 _ _ (by omega) (by omega) (by omega)
    have hP2 := e3.ce hy.2
    have st : ∀ c' : Int, c' = b2i (anyB (fun r => !decide (nc1 P f r = 0)) (i + 1).toNat) → ok (cRo_lap_L4 o n c' (i + 1) (upd2 y.2 78 3 y.1)) (fun x => (x.1 = true ↔ chR P f ≠ 0) ∧ PK (x.2 78 3) (rF P f) ∧ PaperC x.2 o P ∧ Sq G x.2 ∧ (∀ j, x.2 79 j = G 79 j) ∧ x.2 78 1 = G 78 1 ∧ x.2 78 2 = G 78 2) := by
      intro c' hc'
      have hu : Sq y.2 (upd2 y.2 78 3 y.1) := Sq.upd (by omega)
      refine ih (c', upd2 y.2 78 3 y.1) ⟨hc', ?_, hP2.sq ho hu, (e4.trans (Sq.ce ho hy.2)).trans hu, fun j => ?_, ?_, ?_⟩
      · show PK (upd2 y.2 78 3 y.1 78 3) _
        rw [upd2_s, rn_s P f i0]
        exact hy.1
      · show upd2 y.2 78 3 y.1 79 j = _
        rw [upd2_o (by omega), c79, e5]
      · show upd2 y.2 78 3 y.1 78 1 = _
        rw [upd2_o (by omega), c78, e6]
      · show upd2 y.2 78 3 y.1 78 2 = _
        rw [upd2_o (by omega), c78, e7]
    have heq : y.1 = y.2 78 3 ↔ nc1 P f i = 0 := by
      rw [c78]
      unfold nc1
      rw [nch_0]
      exact PK_inj hy.1 e2
    refine ok_ite (fun e => ok_ite (fun e8 => st 0 ?_) (fun e8 => st 1 ?_)) (fun e => st 1 ?_)
    · rw [hs, decide_eq_true (heq.mp e8)]
      rw [e1] at e
      cases hq : anyB (fun r => !decide (nc1 P f r = 0)) i.toNat with
      | false => rfl
      | true => rw [hq] at e; cases e
    · rw [hs, decide_eq_false (fun z => e8 (heq.mpr z)), Bool.not_false, Bool.or_true]
      rfl
    · rw [hs]
      rw [e1] at e
      cases hq : anyB (fun r => !decide (nc1 P f r = 0)) i.toNat with
      | false => rw [hq] at e; exact absurd rfl e
      | true => rfl
  · intro n s hI
    obtain ⟨c, G1⟩ := s
    obtain ⟨e1, e2, e3, e4, e5, e6, e7⟩ := hI
    simp only at e1 e2 e3 e4 e5 e6 e7
    show ok (cRo_lap_L4 o (n + 1) c (P 1) G1) _
    rw [cRo_lap_L4, e3.1.2, if_neg (by omega), e1]
    have hz : anyB (fun r => !decide (nc1 P f r = 0)) (P 1).toNat = true ↔ chR P f ≠ 0 := by
      have h2 := (sm_pos0 (fun k => (nc1_r P f k).1) (P 1).toNat).2
      constructor
      · intro ha hc
        obtain ⟨k, k0, k1, k2⟩ := anyB_iff.mp ha
        have := h2.mp hc k k0 k1
        rw [decide_eq_true this] at k2
        cases k2
      · intro hc
        cases ha : anyB (fun r => !decide (nc1 P f r = 0)) (P 1).toNat with
        | true => rfl
        | false =>
          refine absurd (h2.mpr fun k k0 k1 => ?_) hc
          have := anyB_false.mp ha k k0 k1
          simpa using this
    have zr : zret (b2i (anyB (fun r => !decide (nc1 P f r = 0)) (P 1).toNat)) = some (anyB (fun r => !decide (nc1 P f r = 0)) (P 1).toNat) := by
      cases anyB (fun r => !decide (nc1 P f r = 0)) (P 1).toNat <;> rfl
    rw [zr, Option.bind_some]
    exact ok_some ⟨hz, e2, e3, e4, e5, e6, e7⟩
/-- the last of the first ones -/
def lstB (c : Int → Bool) : Nat → Int
  | 0 => -1
  | k + 1 => if c (k : Int) = true then (k : Int) else lstB c k
theorem lstB_s (c : Int → Bool) {i : Int} (h : 0 ≤ i) : lstB c (i + 1).toNat = if c i = true then i else lstB c i.toNat := by
  have e : (i + 1).toNat = i.toNat + 1 := by omega
  have e2 : ((i.toNat : Nat) : Int) = i := by omega
  rw [e]
  show (if c ((i.toNat : Nat) : Int) = true then ((i.toNat : Nat) : Int) else lstB c i.toNat) = _
  rw [e2]
theorem lstB_cases (c : Int → Bool) : ∀ n : Nat, (lstB c n = -1 ∧ ∀ j : Int, 0 ≤ j → j < n → c j = false) ∨ (0 ≤ lstB c n ∧ lstB c n < n ∧ c (lstB c n) = true ∧ ∀ j : Int, lstB c n < j → j < n → c j = false)
  | 0 => Or.inl ⟨rfl, fun j j0 j1 => by omega⟩
  | n + 1 => by
    unfold lstB
    by_cases h : c (n : Int) = true
    · rw [if_pos h]
      exact Or.inr ⟨by omega, by omega, h, fun j j0 j1 => by omega⟩
    · rw [if_neg h]
      have hf : c (n : Int) = false := by simpa using h
      rcases lstB_cases c n with ⟨a, b⟩ | ⟨a, b, d, e⟩
      · refine Or.inl ⟨a, fun j j0 j1 => ?_⟩
        by_cases hj : j = (n : Int)
        · rw [hj]; exact hf
        · exact b j j0 (by omega)
      · refine Or.inr ⟨a, by omega, d, fun j j0 j1 => ?_⟩
        by_cases hj : j = (n : Int)
        · rw [hj]; exact hf
        · exact e j j0 (by omega)
theorem lstB_eq {c : Int → Bool} {n : Nat} {k : Int} (h0 : 0 ≤ k) (h1 : k < n) (h2 : c k = true) (h3 : ∀ j : Int, k < j → j < n → c j = false) : lstB c n = k := by
  rcases lstB_cases c n with ⟨a, b⟩ | ⟨a, b, d, e⟩
  · rw [b k h0 h1] at h2
    cases h2
  · rcases Int.lt_trichotomy (lstB c n) k with q | q | q
    · rw [e k q h1] at h2
      cases h2
    · exact q
    · rw [h3 _ q b] at d
      cases d
/-- behind k rounds; the round k + 1 settles or closes a ring -/
def itk (P : Int → Int) (k : Int) : Int → Int := itr (rF P) k.toNat (sl P 2)
theorem itk_s (P : Int → Int) {k : Int} (h : 0 ≤ k) : itk P (k + 1) = rF P (itk P k) := itr_s _ h _
theorem itk_V {P : Int → Int} (hV : PaperV P) (k : Int) : PV (itk P k) := by
  unfold itk
  generalize k.toNat = n
  induction n with
  | zero => exact hV.pv
  | succ n ih => exact rn_V ih _
theorem itk_out {P : Int → Int} {p : Int} (h : ¬ (0 ≤ p ∧ p < P 0)) (k : Int) : itk P k p = sl P 2 p := by
  unfold itk
  generalize k.toNat = n
  induction n with
  | zero => rfl
  | succ n ih =>
    show rn P _ _ p = _
    rw [rn_out h]
    exact ih
def eqF (P : Int → Int) (f g : Int → Int) : Bool := allB (fun p => decide (f p = g p)) (P 0).toNat
def mtc (P : Int → Int) (k : Int) : Int → Bool := fun j => eqF P (itk P j) (itk P k)
theorem eqF_8 {P : Int → Int} (hV : PaperV P) (j k : Int) : mtc P k j = true ↔ ∀ p, 0 ≤ p → p < 8 → itk P j p = itk P k p := by
  have h0 := hV.1
  unfold mtc eqF
  rw [allB_iff]
  constructor
  · intro h p p0 p1
    by_cases hp : p < P 0
    · exact of_decide_eq_true (h p p0 (by omega))
    · rw [itk_out (by omega), itk_out (by omega)]
  · intro h p p0 p1
    exact decide_eq_true (h p p0 (by omega))
def evt (P : Int → Int) (k : Int) : Bool := decide (chR P (itk P k) = 0) || !decide (lstB (mtc P (k + 1)) (k + 1).toNat = -1)
def evK (P : Int → Int) : Int := fstB (evt P) 60
def rdS (P : Int → Int) : Int := if evK P = -1 then -1 else if chR P (itk P (evK P)) = 0 then evK P else -1
def rdR (P : Int → Int) : Int := if evK P = -1 then -1 else if chR P (itk P (evK P)) = 0 then -1 else evK P + 1 - lstB (mtc P (evK P + 1)) (evK P + 1).toNat
def rdL (P : Int → Int) : Int → Int := if evK P = -1 then itk P 60 else itk P (evK P + 1)
theorem seek_ok {G : Hp} {k : Int} {P : Int → Int} (hV : PaperV P) (k0 : 0 ≤ k) (k1 : k ≤ 60) (hb : ∀ j, 0 ≤ j → j < k → PK (G 79 j) (itk P j)) (hl : PK (G 78 3) (itk P k)) (hr : G 78 2 = -1) :
    ok (cRo_seek k G) (fun G' => G' 78 2 = (if lstB (mtc P k) k.toNat = -1 then -1 else k - lstB (mtc P k) k.toNat) ∧ ∀ a j, ¬ (a = 78 ∧ j = 2) → G' a j = G a j) := by
  unfold cRo_seek
  refine lp_up (fun n i (s : Hp) => cRo_seek_L2 k n i s) k (fun i s => s 78 2 = (if lstB (mtc P k) i.toNat = -1 then -1 else k - lstB (mtc P k) i.toNat) ∧ ∀ a j, ¬ (a = 78 ∧ j = 2) → s a j = G a j) ?_ ?_ (by omega) (by omega) k0 ⟨by show G 78 2 = -1; exact hr, fun _ _ _ => rfl⟩
  · intro n i s i0 i1 hI ih
    have hs := lstB_s (mtc P k) i0
    show ok (cRo_seek_L2 k (n + 1) i s) _
    rw [cRo_seek_L2, if_pos i1, hI.2 79 i (by omega), hI.2 78 3 (by omega), w32_id (z := i + 1) (by omega) (by omega), w32_id (by omega) (by omega)]
    have heq := (PK_inj (hb i i0 i1) hl).trans (eqF_8 hV i k).symm
    refine ok_gd i0 (by omega) (ok_ite (fun e => ih _ ⟨?_, fun a j x => ?_⟩) (fun e => ih _ ⟨?_, hI.2⟩))
    · rw [upd2_s, hs, if_pos (heq.mp e), if_neg (by omega)]
    · rw [upd2_o x]
      exact hI.2 a j x
    · rw [hs, if_neg (fun z => e (heq.mpr z))]
      exact hI.1
  · intro n s hI
    show ok (cRo_seek_L2 k (n + 1) k s) _
    rw [cRo_seek_L2, if_neg (by omega)]
    exact ok_some hI
theorem run_ok {G : Hp} {o : Int} {P : Int → Int} (hV : PaperV P) (ho : o = 7 ∨ o = 22) (hC : PaperC G o P) :
    ok (cRo_run o G) (fun G' => G' 78 1 = rdS P ∧ G' 78 2 = rdR P ∧ PK (G' 78 3) (rdL P) ∧ PaperC G' o P ∧ Sq G G') := by
  unfold cRo_run
  have eo : (upd2 (upd2 G 78 1 (-1)) 78 2 (-1)) o 0 = G o 0 := by rw [upd2_o (by omega), upd2_o (by omega)]
  rw [eo]
  have el : (upd2 (upd2 (upd2 G 78 1 (-1)) 78 2 (-1)) 78 3 (G o 0)) 78 3 = G o 0 := upd2_s
  rw [el]
  have hu : Sq G (upd2 (upd2 (upd2 (upd2 G 78 1 (-1)) 78 2 (-1)) 78 3 (G o 0)) 79 0 (G o 0)) := (((Sq.upd (by omega)).trans (Sq.upd (by omega))).trans (Sq.upd (by omega))).trans (Sq.upd (by omega))
  refine lp_up (fun n i (s : Hp) => cRo_run_L30 o n i s) 61
    (fun k s => (1 ≤ k ∧ PaperC s o P ∧ Sq G s) ∧ ((s 78 1 = -1 ∧ s 78 2 = -1 ∧ PK (s 78 3) (itk P (k - 1)) ∧ (∀ j, 0 ≤ j → j < k → PK (s 79 j) (itk P j)) ∧ ∀ j, 0 ≤ j → j < k - 1 → evt P j = false) ∨ ((s 78 1 ≠ -1 ∨ s 78 2 ≠ -1) ∧ s 78 1 = rdS P ∧ s 78 2 = rdR P ∧ PK (s 78 3) (rdL P)))) ?_ ?_ (by omega) (by omega) (by omega) ⟨⟨by omega, hC.sq ho hu, hu⟩, Or.inl ⟨?_, ?_, ?_, fun j j0 j1 => ?_, fun j j0 j1 => by omega⟩⟩
  · intro n k s k0 k1 hI ih
    obtain ⟨⟨g0, g1, g2⟩, hI⟩ := hI
    show ok (cRo_run_L30 o (n + 1) k s) _
    rw [cRo_run_L30, if_pos (by omega)]
    rcases hI with ⟨h1, h2, h3, h4, h5⟩ | ⟨h1, h2, h3, h4⟩
    · rw [if_pos h1, if_pos h2, w32_id (z := k + 1) (by omega) (by omega), w32_id (z := k - 1) (by omega) (by omega)]
      refine ok_then (lap_ok hV ho g1 h3 (itk_V hV _)) fun y hy => ?_
      obtain ⟨y1, y2, y3, y4, y5, y6, y7⟩ := hy
      have ek : itk P k = rF P (itk P (k - 1)) := by
        have := itk_s P (k := k - 1) (by omega)
        rw [show k - 1 + 1 = k by omega] at this
        exact this
      rw [← ek] at y2
      refine ok_gd (by omega) (by omega) ?_
      have hu2 : Sq y.2 (upd2 y.2 79 k (y.2 78 3)) := Sq.upd (by omega)
      have hK : evt P (k - 1) = true → evK P = k - 1 := fun h => fstB_eq (by omega) (by omega) h (fun j j0 j1 => h5 j j0 j1)
      refine ok_ite (fun e => ?_) (fun e => ?_)
      · have hc := y1.mp e
        refine ok_then (seek_ok (P := P) hV (by omega) (by omega) (fun j j0 j1 => ?_) ?_ ?_) fun G3 hG3 => ?_
        · rw [upd2_o (by omega), y5]
          exact h4 j j0 j1
        · rw [upd2_o (by omega)]
          exact y2
        · rw [upd2_o (by omega), y7]
          exact h2
        · have hsq3 : Sq (upd2 y.2 79 k (y.2 78 3)) G3 := Sq.fr fun a j x => hG3.2 a j (by omega)
          have hP3 := (y3.sq ho hu2).sq ho hsq3
          have hS3 := ((g2.trans y4).trans hu2).trans hsq3
          have c1 : G3 78 1 = -1 := by rw [hG3.2 _ _ (by omega), upd2_o (by omega), y6, h1]
          have c3 : PK (G3 78 3) (itk P k) := by rw [hG3.2 _ _ (by omega), upd2_o (by omega)]; exact y2
          refine ih G3 ⟨⟨by omega, hP3, hS3⟩, ?_⟩
          by_cases hm : lstB (mtc P k) k.toNat = -1
          · have hr := hG3.1
            rw [if_pos hm] at hr
            refine Or.inl ⟨c1, hr, by rw [show k + 1 - 1 = k by omega]; exact c3, fun j j0 j1 => ?_, fun j j0 j1 => ?_⟩
            · rw [hG3.2 _ _ (by omega)]
              by_cases hj : j = k
              · rw [upd2_e rfl hj, hj]
                exact y2
              · rw [upd2_o (by omega), y5]
                exact h4 j j0 (by omega)
            · by_cases hj : j = k - 1
              · rw [hj]
                unfold evt
                rw [show k - 1 + 1 = k by omega, decide_eq_false hc, decide_eq_true hm]
                rfl
              · exact h5 j j0 (by omega)
          · have hr := hG3.1
            rw [if_neg hm] at hr
            have he : evt P (k - 1) = true := by
              unfold evt
              rw [show k - 1 + 1 = k by omega, decide_eq_false hm, Bool.not_false, Bool.or_true]
            have hK2 := hK he
            have hlc := lstB_cases (mtc P k) k.toNat
            refine Or.inr ⟨Or.inr (by rw [hr]; omega), ?_, ?_, ?_⟩
            · unfold rdS
              rw [hK2, if_neg (by omega), if_neg hc]
              exact c1
            · unfold rdR
              rw [hK2, if_neg (by omega), if_neg hc, show k - 1 + 1 = k by omega]
              exact hr
            · unfold rdL
              rw [hK2, if_neg (by omega), show k - 1 + 1 = k by omega]
              exact c3
      · have hc : chR P (itk P (k - 1)) = 0 := by
          by_cases q : chR P (itk P (k - 1)) = 0
          · exact q
          · exact absurd (y1.mpr q) e
        have he : evt P (k - 1) = true := by
          unfold evt
          rw [decide_eq_true hc]
          rfl
        have hK2 := hK he
        have hu3 : Sq (upd2 y.2 79 k (y.2 78 3)) (upd2 (upd2 y.2 79 k (y.2 78 3)) 78 1 (k - 1)) := Sq.upd (by omega)
        refine ih _ ⟨⟨by omega, (y3.sq ho hu2).sq ho hu3, ((g2.trans y4).trans hu2).trans hu3⟩, Or.inr ⟨Or.inl ?_, ?_, ?_, ?_⟩⟩
        · rw [upd2_s]
          omega
        · unfold rdS
          rw [upd2_s, hK2, if_neg (by omega), if_pos hc]
        · unfold rdR
          rw [upd2_o (by omega), upd2_o (by omega), y7, h2, hK2, if_neg (by omega), if_pos hc]
        · unfold rdL
          rw [upd2_o (by omega), upd2_o (by omega), hK2, if_neg (by omega), show k - 1 + 1 = k by omega]
          exact y2
    · refine ok_ite (fun e => ok_ite (fun e2 => ?_) (fun e2 => ok_some ⟨h2, h3, h4, g1, g2⟩)) (fun e => ok_some ⟨h2, h3, h4, g1, g2⟩)
      exact absurd e2 (h1.resolve_left (fun z => z e))
  · intro n s hI
    obtain ⟨⟨g0, g1, g2⟩, hI⟩ := hI
    show ok (cRo_run_L30 o (n + 1) 61 s) _
    rw [cRo_run_L30, if_neg (by omega)]
    rcases hI with ⟨h1, h2, h3, h4, h5⟩ | ⟨h1, h2, h3, h4⟩
    · have hK : evK P = -1 := fstB_none fun j j0 j1 => h5 j j0 (by omega)
      refine ok_some ⟨?_, ?_, ?_, g1, g2⟩
      · unfold rdS
        rw [if_pos hK]
        exact h1
      · unfold rdR
        rw [if_pos hK]
        exact h2
      · unfold rdL
        rw [if_pos hK]
        exact h3
    · exact ok_some ⟨h2, h3, h4, g1, g2⟩
  · rw [upd2_o (by omega), upd2_o (by omega), upd2_o (by omega), upd2_s]
  · rw [upd2_o (by omega), upd2_o (by omega), upd2_s]
  · rw [upd2_o (by omega), upd2_s]
    exact hC.2.1
  · have : j = 0 := by omega
    rw [this, upd2_s]
    exact hC.2.1
-- the model
/-- ready to read, nothing to be left -/
def MR (P : Int → Int) (b : Int) (f : Int → Int) (G : Hp) : Prop := MS P b G ∧ MN (sl P 10) G ∧ PV f ∧ (∀ p, 0 ≤ p → p < 8 → G 207 p = f p) ∧ (∀ r, 0 ≤ r → r < 6 → G 209 r = 0) ∧ Mk 8 (G 201 20)
theorem M0.mr {P : Int → Int} {b : Int} {G : Hp} (hV : PaperV P) (h : M0 P b G) : MR P b (sl P 2) G := by
  obtain ⟨m1, m2, m3, m4, m5, m6, m7, m8, m9, m10⟩ := h
  exact ⟨m1, m2, hV.pv, fun p p0 p1 => (m3 p p0 p1).1, fun r r0 r1 => (m4 r r0 r1).1, Mk0 m8 8⟩
theorem reads_MR {P f : Int → Int} {b r : Int} {G : Hp} (hV : PaperV P) (h : MR P b f G) (r0 : 0 ≤ r) (r1 : r < 6) :
    ok (mm_reads r G) (fun x => x.1 = nch (rb P r f) f ∧ MR P b (rb P r f) x.2 ∧ RdM (rb P r f) f r (nch (rb P r f) f) G x.2) := by
  obtain ⟨m1, m2, m3, m4, m5, m6⟩ := h
  have z := m5 r r0 r1
  refine ok_mono (reads_ok hV m1 m2 m3 m4 r0 r1 (Mk0 z 8) m6) fun x hx => ?_
  rw [z] at hx
  have hR : RdM (rb P r f) f r (nch (rb P r f) f) G x.2 := hx.2
  refine ⟨hx.1, ⟨hR.ms m1, hR.mn m2, rdF_V m3, hR.1, fun r' h0 h1 => ?_, hR.2.2.1.1⟩, hR⟩
  rw [hR.2.2.2.2.2 _ _ (by omega) (by omega) (by omega) (by omega)]
  exact m5 r' h0 h1
/-- what readings leave as it was -/
def Mf (G G' : Hp) : Prop := ∀ a j, a ≠ 207 → a ≠ 210 → a ≠ 211 → ¬ (a = 201 ∧ (j = 17 ∨ j = 20)) → G' a j = G a j
theorem Mf.refl (G : Hp) : Mf G G := fun _ _ _ _ _ _ => rfl
theorem Mf.trans {G G' G'' : Hp} (h : Mf G G') (h2 : Mf G' G'') : Mf G G'' := fun a j x y z w => (h2 a j x y z w).trans (h a j x y z w)
theorem Mf.mq {G G' : Hp} (h : Mf G G') : Mq G G' := Mq.fr fun j => ⟨h _ _ (by omega) (by omega) (by omega) (by omega), h _ _ (by omega) (by omega) (by omega) (by omega)⟩
theorem RdM.mf {g f : Int → Int} {r n : Int} {G G' : Hp} (h : RdM g f r n G G') : Mf G G' := h.2.2.2.2.2
theorem MR.fr {P f : Int → Int} {b : Int} {G G' : Hp} (h : MR P b f G) (hf : ∀ a j, (201 ≤ a ∧ a ≤ 202) ∨ (205 ≤ a ∧ a ≤ 207) ∨ a = 209 → G' a j = G a j) : MR P b f G' := by
  obtain ⟨m1, m2, m3, m4, m5, m6⟩ := h
  refine ⟨m1.fr (fun j _ => hf _ _ (by omega)) (fun j => hf _ _ (by omega)), m2.fr (fun j => hf _ _ (by omega)) (fun j => hf _ _ (by omega)), m3, fun p p0 p1 => ?_, fun r r0 r1 => ?_, ?_⟩
  · rw [hf _ _ (by omega)]; exact m4 p p0 p1
  · rw [hf _ _ (by omega)]; exact m5 r r0 r1
  · rw [hf _ _ (by omega)]; exact m6
theorem round_ok {P f : Int → Int} {b : Int} {G : Hp} (hV : PaperV P) (h : MR P b f G) : ok (mm_round G) (fun x => x.1 = chR P f ∧ MR P b (rF P f) x.2 ∧ Mf G x.2) := by
  have h1 := hV.2.1
  unfold mm_round
  refine lp_up (fun n i (s : Int × Hp) => mm_round_L4 n s.1 i s.2) (P 1) (fun i s => s.1 = sm (nc1 P f) i.toNat ∧ MR P b (rn P f i.toNat) s.2 ∧ Mf G s.2) ?_ ?_ (by omega) (by omega) (by omega) (s := (0, G)) ⟨rfl, h, Mf.refl G⟩
  · intro n i s i0 i1 hI ih
    obtain ⟨x, G1⟩ := s
    obtain ⟨e1, e2, e3⟩ := hI
    simp only at e1 e2 e3
    have hs := sm_s (nc1 P f) i0
    have hb := sm_r (f := nc1 P f) (a := 0) (b := 8) (n := i.toNat) (fun j _ _ => nc1_r P f j)
    have hb2 := nc1_r P f i
    show ok (mm_round_L4 (n + 1) x i G1) _
    rw [mm_round_L4, e2.1.1.2.2, if_pos i1, w32_id (z := i + 1) (by omega) (by omega)]
    refine ok_then (reads_MR hV e2 i0 (by omega)) fun y hy => ?_
    have e9 : y.1 = nc1 P f i := hy.1
    rw [e9, w32_id (by omega) (by omega)]
    refine ih (_, y.2) ⟨?_, ?_, e3.trans hy.2.2.mf⟩
    · show x + nc1 P f i = _
      rw [hs, e1]
    · show MR P b (rn P f (i + 1).toNat) y.2
      rw [rn_s P f i0]
      exact hy.2.1
  · intro n s hI
    obtain ⟨x, G1⟩ := s
    obtain ⟨e1, e2, e3⟩ := hI
    simp only at e1 e2 e3
    show ok (mm_round_L4 (n + 1) x (P 1) G1) _
    rw [mm_round_L4, e2.1.1.2.2, if_neg (by omega)]
    exact ok_some ⟨e1, e2, e3⟩
theorem keeps_ok {G : Hp} {k a : Int} (k0 : 0 ≤ k) (k1 : k ≤ 60) (ha : a ≠ 207) : ok (mm_keeps k a G) (fun G' => (∀ p, 0 ≤ p → p < 8 → G' a (8 * k + p) = G 207 p) ∧ ∀ o j, ¬ (o = a ∧ 8 * k ≤ j ∧ j < 8 * k + 8) → G' o j = G o j) := by
  unfold mm_keeps
  refine lp_up (fun n i (s : Hp) => mm_keeps_L2 k a n i s) 8 (fun i s => (∀ p, 0 ≤ p → p < i → s a (8 * k + p) = G 207 p) ∧ ∀ o j, ¬ (o = a ∧ 8 * k ≤ j ∧ j < 8 * k + 8) → s o j = G o j) ?_ ?_ (by omega) (by omega) (by omega) ⟨fun p p0 p1 => by omega, fun _ _ _ => rfl⟩
  · intro n i s i0 i1 hI ih
    show ok (mm_keeps_L2 k a (n + 1) i s) _
    rw [mm_keeps_L2, if_pos i1, w32_id (z := i + 1) (by omega) (by omega), w32_id (z := 8 * k) (by omega) (by omega), w32_id (by omega) (by omega), hI.2 207 i (fun z => ha z.1.symm)]
    refine ok_gd i0 i1 (ok_gd (by omega) (by omega) (ih _ ⟨fun p p0 p1 => ?_, fun o j x => ?_⟩))
    · by_cases hp : p = i
      · rw [hp, upd2_s]
      · rw [upd2_o (by omega)]
        exact hI.1 p p0 (by omega)
    · rw [upd2_o (by omega)]
      exact hI.2 o j x
  · intro n s hI
    show ok (mm_keeps_L2 k a (n + 1) 8 s) _
    rw [mm_keeps_L2, if_neg (by omega)]
    exact ok_some hI
theorem isAsAt_ok {G : Hp} {k b : Int} {P f g : Int → Int} (hV : PaperV P) (hM : MS P b G) (hf : ∀ p, 0 ≤ p → p < 8 → G 207 p = f p) (k0 : 0 ≤ k) (k1 : k ≤ 60) (hg : ∀ p, 0 ≤ p → p < 8 → G 212 (8 * k + p) = g p) : mm_isAsAt k G = some (eqF P g f) := by
  apply ok_iff
  have h0 := hV.1
  unfold mm_isAsAt
  refine lp_up (fun n i (s : Int) => mm_isAsAt_L5 k G n s i) (P 0) (fun i s => s = b2i (allB (fun p => decide (g p = f p)) i.toNat)) ?_ ?_ (by omega) (by omega) (by omega) rfl
  · intro n i s i0 i1 hI ih
    have hs := allB_s (fun p => decide (g p = f p)) i0
    show ok (mm_isAsAt_L5 k G (n + 1) s i) _
    rw [mm_isAsAt_L5, hM.1.2.1, if_pos i1, w32_id (z := i + 1) (by omega) (by omega), w32_id (z := 8 * k) (by omega) (by omega), w32_id (by omega) (by omega), hg i i0 (by omega), hf i i0 (by omega)]
    refine ok_ite (fun e => ih _ ?_) (fun e => ok_gd (by omega) (by omega) (ok_gd i0 (by omega) (ok_ite (fun e2 => ih _ ?_) (fun e2 => ih _ ?_))))
    · rw [hs]
      rw [hI] at e
      cases hq : allB (fun p => decide (g p = f p)) i.toNat with
      | false => rfl
      | true => rw [hq] at e; cases e
    · rw [hs, decide_eq_true e2, Bool.and_true]
      cases hq : allB (fun p => decide (g p = f p)) i.toNat with
      | true => rfl
      | false => rw [hI, hq] at e; exact absurd rfl e
    · rw [hs, decide_eq_false e2, Bool.and_false]
      rfl
  · intro n s hI
    show ok (mm_isAsAt_L5 k G (n + 1) s (P 0)) _
    rw [mm_isAsAt_L5, hM.1.2.1, if_neg (by omega), hI]
    show ok ((zret (b2i (eqF P g f))).bind fun b_ => some b_) _
    cases eqF P g f <;> exact ok_some rfl
theorem roundsOf_ok {G : Hp} {b is : Int} {P : Int → Int} (hV : PaperV P) (h : MR P b (sl P 2) G) : ok (mm_roundsOf is G) (fun x => x.1 = (if is = 0 then rdS P else rdR P) ∧ (∀ p, 0 ≤ p → p < 8 → x.2 207 p = rdL P p) ∧ Mq G x.2) := by
  unfold mm_roundsOf
  refine ok_then (keeps_ok (by omega) (by omega) (by omega)) fun G1 hG1 => ?_
  have hM1 : MR P b (sl P 2) G1 := h.fr fun a j x => hG1.2 a j (by omega)
  have hq1 : Mq G G1 := Mq.fr fun j => ⟨hG1.2 _ _ (by omega), hG1.2 _ _ (by omega)⟩
  refine lp_up (fun n i (s : Hp) => mm_roundsOf_L11 is (fun x2_24 G_24 => if is = 0 then some (x2_24, G_24) else some ((-1), G_24)) (fun x2_52 x3_52 G_52 => if is = 0 then some ((-1), G_52) else some (w32 ((w32 (x2_52 + 1)) - x3_52), G_52)) n i s) 60
    (fun k s => MR P b (itk P k) s ∧ Mq G s ∧ (∀ j p, 0 ≤ j → j ≤ k → 0 ≤ p → p < 8 → s 212 (8 * j + p) = itk P j p) ∧ ∀ j, 0 ≤ j → j < k → evt P j = false) ?_ ?_ (by omega) (by omega) (by omega) ⟨hM1, hq1, fun j p j0 j1 p0 p1 => ?_, fun j j0 j1 => by omega⟩
  · intro n k s k0 k1 hI ih
    obtain ⟨g1, g2, g3, g4⟩ := hI
    show ok (mm_roundsOf_L11 is _ _ (n + 1) k s) _
    rw [mm_roundsOf_L11, if_pos k1]
    refine ok_then (round_ok hV g1) fun y hy => ?_
    obtain ⟨y1, y2, y3⟩ := hy
    rw [← itk_s P k0] at y2
    have hq2 : Mq G y.2 := g2.trans y3.mq
    have hK : evt P k = true → evK P = k := fun h => fstB_eq k0 (by omega) h g4
    rw [y1]
    refine ok_ite (fun e => ?_) (fun e => ?_)
    · have hK2 := hK (by unfold evt; rw [decide_eq_true e]; rfl)
      have hL : rdL P = itk P (k + 1) := by
        unfold rdL
        rw [hK2, if_neg (by omega)]
      have hS : rdS P = k := by
        unfold rdS
        rw [hK2, if_neg (by omega), if_pos e]
      have hR : rdR P = -1 := by
        unfold rdR
        rw [hK2, if_neg (by omega), if_pos e]
      rw [hL, hS, hR]
      refine ok_ite (fun e2 => ok_some ⟨by rw [if_pos e2], y2.2.2.2.1, hq2⟩) (fun e2 => ok_some ⟨by rw [if_neg e2], y2.2.2.2.1, hq2⟩)
    · have e212 : ∀ j p, 0 ≤ j → j ≤ k → 0 ≤ p → p < 8 → y.2 212 (8 * j + p) = itk P j p := fun j p j0 j1 p0 p1 => by rw [y3 _ _ (by omega) (by omega) (by omega) (by omega)]; exact g3 j p j0 j1 p0 p1
      refine lp_dn (fun n3 j (_ : Unit) => mm_roundsOf_L36 is k y.2 (fun x2_52 x3_52 G_52 => if is = 0 then some ((-1), G_52) else some (w32 ((w32 (x2_52 + 1)) - x3_52), G_52)) ((mm_keeps (w32 (k + 1)) 212 y.2).bind fun G80 => mm_roundsOf_L11 is (fun x2_24 G_24 => if is = 0 then some (x2_24, G_24) else some ((-1), G_24)) (fun x2_52 x3_52 G_52 => if is = 0 then some ((-1), G_52) else some (w32 ((w32 (x2_52 + 1)) - x3_52), G_52)) n (w32 (k + 1)) G80) n3 j) (fun j _ => j ≤ k ∧ ∀ q, j < q → q ≤ k → mtc P (k + 1) q = false) ?_ ?_ (by omega) (by omega) (s := ()) ⟨by omega, fun q q0 q1 => by omega⟩
      · intro n3 j u j0 hj ih2
        obtain ⟨j1, hj⟩ := hj
        show ok (mm_roundsOf_L36 is k y.2 _ _ (n3 + 1) j) _
        rw [mm_roundsOf_L36, if_neg (by omega), isAsAt_ok hV y2.1 y2.2.2.2.1 j0 (by omega) (fun p p0 p1 => e212 j p j0 j1 p0 p1), Option.bind_some, w32_id (z := j + -1) (by omega) (by omega)]
        have em : eqF P (itk P j) (itk P (k + 1)) = mtc P (k + 1) j := rfl
        rw [em]
        refine ok_ite (fun e2 => ?_) (fun e2 => ih2 () ⟨by omega, fun q q0 q1 => ?_⟩)
        · have hlst : lstB (mtc P (k + 1)) (k + 1).toNat = j := lstB_eq j0 (by omega) e2 fun q q0 q1 => hj q q0 (by omega)
          have hK2 := hK (by unfold evt; rw [hlst, decide_eq_false (show ¬ j = -1 by omega), Bool.not_false, Bool.or_true])
          have hL : rdL P = itk P (k + 1) := by
            unfold rdL
            rw [hK2, if_neg (by omega)]
          have hS : rdS P = -1 := by
            unfold rdS
            rw [hK2, if_neg (by omega), if_neg e]
          have hR : rdR P = k + 1 - j := by
            unfold rdR
            rw [hK2, if_neg (by omega), if_neg e, hlst]
          rw [hL, hS, hR]
          refine ok_ite (fun e3 => ok_some ⟨by rw [if_pos e3], y2.2.2.2.1, hq2⟩) (fun e3 => ok_some ⟨?_, y2.2.2.2.1, hq2⟩)
          rw [if_neg e3]
          show w32 (w32 (k + 1) - j) = _
          rw [w32_id (z := k + 1) (by omega) (by omega), w32_id (by omega) (by omega)]
        · by_cases hqj : q = j
          · rw [hqj]
            simpa using e2
          · exact hj q (by omega) q1
      · intro n3 u hj
        obtain ⟨j1, hj⟩ := hj
        show ok (mm_roundsOf_L36 is k y.2 _ _ (n3 + 1) (-1)) _
        rw [mm_roundsOf_L36, if_pos (by omega), w32_id (z := k + 1) (by omega) (by omega)]
        refine ok_then (keeps_ok (by omega) (by omega) (by omega)) fun G4 hG4 => ?_
        refine ih G4 ⟨y2.fr fun a j x => hG4.2 a j (by omega), hq2.trans (Mq.fr fun j => ⟨hG4.2 _ _ (by omega), hG4.2 _ _ (by omega)⟩), fun j p j0 j2 p0 p1 => ?_, fun j j0 j2 => ?_⟩
        · by_cases hjk : j = k + 1
          · rw [hjk, hG4.1 p p0 p1]
            exact y2.2.2.2.1 p p0 p1
          · rw [hG4.2 _ _ (by omega)]
            exact e212 j p j0 (by omega) p0 p1
        · by_cases hjk : j = k
          · rw [hjk]
            unfold evt
            have : lstB (mtc P (k + 1)) (k + 1).toNat = -1 := by
              rcases lstB_cases (mtc P (k + 1)) (k + 1).toNat with ⟨a, -⟩ | ⟨a, b, c, -⟩
              · exact a
              · rw [hj _ (by omega) (by omega)] at c
                cases c
            rw [decide_eq_false e, decide_eq_true this]
            rfl
          · exact g4 j j0 (by omega)
  · intro n s hI
    obtain ⟨g1, g2, g3, g4⟩ := hI
    show ok (mm_roundsOf_L11 is _ _ (n + 1) 60 s) _
    rw [mm_roundsOf_L11, if_neg (by omega)]
    have hK : evK P = -1 := fstB_none fun j j0 j1 => g4 j j0 (by omega)
    refine ok_some ⟨?_, ?_, g2⟩
    · unfold rdS rdR
      rw [if_pos hK, if_pos hK]
      split <;> rfl
    · unfold rdL
      rw [if_pos hK]
      exact g1.2.2.2.1
  · have : j = 0 := by omega
    rw [this, hG1.1 p p0 p1]
    exact h.2.2.2.1 p p0 p1
def roV (P : Int → Int) (a : Int) : Int := if a = 0 then rdS P else if a = 1 then rdR P else stV P (rdL P) a
theorem op11 : Op11 Inv := by
  intro Gc Gm hI a1 a2 r1 r2
  have hC : CInv Gc (Gm 202) (Gm 203) := hI
  by_cases hk : 0 ≤ a1 ∧ a1 < Gm 202 0
  · obtain ⟨hp, hk2⟩ := paperAt_yes hC hk.1 hk.2
    obtain ⟨hV, hP⟩ := hC.paper hk2
    have hyes := isPaper_yes hC.av hk.1 hk.2
    generalize ct 80 (Gm 202) (pb a1) = P at *
    have ho := o_or hk2
    generalize 7 + 15 * a1 = o at *
    have o0 : ¬ o < 0 := by omega
    refine op_q hI (roV P a2) ?_ ?_
    · unfold cX_rounds
      rw [hp, Option.bind_some, if_neg o0]
      refine ok_then (run_ok hV ho hP) fun G1 hG1 => ?_
      obtain ⟨g1, g2, g3, g4, g5⟩ := hG1
      have hC2 := hC.sq g5
      unfold roV
      rw [stands_ok hV g4 g3 r2, Option.bind_some, g1, g2]
      refine ok_ite (fun e => ok_some ⟨by rw [if_pos e], hC2⟩) (fun e => ok_ite (fun e2 => ok_some ⟨by rw [if_neg e, if_pos e2], hC2⟩) (fun e2 => ok_some ⟨by rw [if_neg e, if_neg e2], hC2⟩))
    · unfold mm_rounds
      refine ok_then hyes fun r hr2 => ?_
      obtain ⟨e1, e2, e3, e4⟩ := hr2
      have hMR := e2.mr hV
      have hq : Mq Gm r.2 := ⟨e3, e4⟩
      have j20 : ∀ is : Int, (is = 0 ∧ a2 = 0 ∨ is = 1 ∧ a2 = 1) → ok (mm_rounds_j31 a1 a2 is r.2) (fun x => x.1 = roV P a2 ∧ x.2 202 = Gm 202 ∧ x.2 203 = Gm 203) := by
        intro is h
        unfold mm_rounds_j31
        refine ok_then (roundsOf_ok hV hMR) fun x hx => ok_some ⟨?_, hq.trans hx.2.2⟩
        show x.1 = _
        rw [hx.1]
        unfold roV
        rcases h with ⟨h1, h2⟩ | ⟨h1, h2⟩
        · rw [if_pos h1, if_pos h2]
        · rw [if_neg (by omega), if_neg (by omega), if_pos h2]
      rw [e1, if_tt]
      unfold mm_rounds_j20
      refine ok_ite (fun e => ?_) (fun e => ok_ite (fun e5 => ?_) (fun e5 => ?_))
      · rw [if_neg (by omega)]
        exact j20 0 (Or.inl ⟨rfl, e⟩)
      · rw [if_pos e5]
        exact j20 1 (Or.inr ⟨rfl, e5⟩)
      · have ev : roV P a2 = stV P (rdL P) a2 := by
          unfold roV
          rw [if_neg e, if_neg e5]
        rw [ev]
        have h0 := hV.1
        unfold r32 at r2
        rw [isIn_eq]
        unfold stV
        by_cases h3 : 10 ≤ a2 ∧ a2 ≤ 17
        · rw [decide_eq_true h3, if_tt, w32_id (by omega) (by omega), isPlace_ok hV hMR.1, Option.bind_some]
          by_cases h4 : 0 ≤ a2 - 10 ∧ a2 - 10 < P 0
          · rw [decide_eq_true h4, if_tt, if_pos (by omega)]
            refine ok_then (roundsOf_ok hV hMR) fun x hx => ok_gd (by omega) (by omega) (ok_some ⟨hx.2.1 _ (by omega) (by omega), hq.trans hx.2.2⟩)
          · rw [decide_eq_false h4, if_ff, if_neg (by omega)]
            exact ok_some ⟨rfl, hq⟩
        · rw [decide_eq_false h3, if_ff, if_neg (by omega)]
          exact ok_some ⟨rfl, hq⟩
  · refine op_q hI (-2) ?_ ?_
    · unfold cX_rounds
      rw [paperAt_no hC hk, Option.bind_some, if_pos (by omega)]
      exact ok_some ⟨rfl, hC⟩
    · unfold mm_rounds
      rw [isPaper_no hC.av hk, Option.bind_some, if_ff]
      exact ok_some ⟨rfl, rfl, rfl⟩
