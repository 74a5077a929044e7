-- rows that fit
def agB (P Lg f : Int → Int) : Bool := allB (fun j => decide (Lg (1 + 2 * j) < P 0) && decide (f (Lg (1 + 2 * j)) = Lg (2 + 2 * j))) (Lg 0).toNat
def ftB (P Lg : Int → Int) (k : Int) : Bool := agB P Lg (prf P k)
/-- over those that fit, of the first ones -/
def fF {α : Type} (fit : Int → Bool) (st : α → Int → α) (a : α) : Nat → α
  | 0 => a
  | k + 1 => if fit (k : Int) = true then st (fF fit st a k) (k : Int) else fF fit st a k
def cntF (fit : Int → Bool) : Nat → Int := fF fit (fun a _ => a + 1) 0
section FF
variable {α : Type} {fit : Int → Bool} {st : α → Int → α} {a : α}
theorem fF_s {i : Int} (h : 0 ≤ i) : fF fit st a (i + 1).toNat = if fit i = true then st (fF fit st a i.toNat) i else fF fit st a i.toNat := by
  have e : (i + 1).toNat = i.toNat + 1 := by omega
  have e2 : ((i.toNat : Nat) : Int) = i := by omega
  rw [e]
  show (if fit ((i.toNat : Nat) : Int) = true then st (fF fit st a i.toNat) ((i.toNat : Nat) : Int) else fF fit st a i.toNat) = _
  rw [e2]
theorem cntF_s {i : Int} (h : 0 ≤ i) : cntF fit (i + 1).toNat = if fit i = true then cntF fit i.toNat + 1 else cntF fit i.toNat := fF_s h
theorem cntF_r : ∀ k : Nat, 0 ≤ cntF fit k ∧ cntF fit k ≤ k
  | 0 => ⟨Int.le_refl 0, Int.le_refl 0⟩
  | k + 1 => by
    have ih := cntF_r k
    show 0 ≤ (if fit (k : Int) = true then cntF fit k + 1 else cntF fit k) ∧ (if fit (k : Int) = true then cntF fit k + 1 else cntF fit k) ≤ _
    split <;> omega
theorem cntF_mono (i : Nat) : ∀ m : Nat, cntF fit i ≤ cntF fit (i + m)
  | 0 => Int.le_refl _
  | m + 1 => by
    have ih := cntF_mono i m
    show _ ≤ (if fit ((i + m : Nat) : Int) = true then cntF fit (i + m) + 1 else cntF fit (i + m))
    split <;> omega
theorem cntF_le {i j : Int} (ij : i ≤ j) : cntF fit i.toNat ≤ cntF fit j.toNat := by
  have := cntF_mono (fit := fit) i.toNat (j.toNat - i.toNat)
  rw [show i.toNat + (j.toNat - i.toNat) = j.toNat by omega] at this
  exact this
theorem fF_skip (i : Nat) : ∀ m : Nat, cntF fit (i + m) = cntF fit i → fF fit st a (i + m) = fF fit st a i
  | 0, _ => rfl
  | m + 1, h => by
    have h1 := cntF_mono (fit := fit) i m
    have h2 : cntF fit (i + (m + 1)) = if fit ((i + m : Nat) : Int) = true then cntF fit (i + m) + 1 else cntF fit (i + m) := rfl
    show (if fit ((i + m : Nat) : Int) = true then st (fF fit st a (i + m)) ((i + m : Nat) : Int) else fF fit st a (i + m)) = _
    by_cases q : fit ((i + m : Nat) : Int) = true
    · rw [if_pos q] at h2
      omega
    · rw [if_neg q] at h2 ⊢
      exact fF_skip i m (by omega)
theorem fF_to {i j : Int} (ij : i ≤ j) (h : cntF fit j.toNat = cntF fit i.toNat) : fF fit st a j.toNat = fF fit st a i.toNat := by
  have := fF_skip (fit := fit) (st := st) (a := a) i.toNat (j.toNat - i.toNat)
  rw [show i.toNat + (j.toNat - i.toNat) = j.toNat by omega] at this
  exact this h
end FF
/-- the class's list of those that fit -/
def FtC (fit : Int → Bool) (M : Int) (G : Hp) : Prop := G 80 10 = cntF fit M.toNat ∧ ∀ m, 0 ≤ m → m < cntF fit M.toNat → (0 ≤ G 86 m ∧ G 86 m < M) ∧ fit (G 86 m) = true ∧ cntF fit (G 86 m).toNat = m
/-- where the list stands -/
def fcu (fit : Int → Bool) (M : Int) (G : Hp) (m : Int) : Int := if m < cntF fit M.toNat then G 86 m else M
section FC
variable {α : Type} {fit : Int → Bool} {st : α → Int → α} {a : α} {M : Int} {G : Hp}
theorem fcu_cnt (h : FtC fit M G) {m : Int} (m0 : 0 ≤ m) (m1 : m ≤ cntF fit M.toNat) : cntF fit (fcu fit M G m).toNat = m := by
  unfold fcu
  by_cases q : m < cntF fit M.toNat
  · rw [if_pos q]
    exact (h.2 m m0 q).2.2
  · rw [if_neg q]
    omega
theorem fcu_0 (h : FtC fit M G) (hM : 0 ≤ M) : fF fit st a (fcu fit M G 0).toNat = a := by
  have h1 := fcu_cnt h (m := 0) (by omega) (cntF_r _).1
  have h2 : 0 ≤ fcu fit M G 0 := by
    unfold fcu
    split
    · next q => exact (h.2 0 (by omega) q).1.1
    · exact hM
  have := fF_to (fit := fit) (st := st) (a := a) (i := 0) (j := fcu fit M G 0) h2 (by rw [h1]; rfl)
  rw [this]
  rfl
theorem fcu_s (h : FtC fit M G) {m : Int} (m0 : 0 ≤ m) (m1 : m < cntF fit M.toNat) : fF fit st a (fcu fit M G (m + 1)).toNat = st (fF fit st a (fcu fit M G m).toNat) (G 86 m) := by
  have h1 := h.2 m m0 m1
  have h2 := fcu_cnt h (m := m + 1) (by omega) (by omega)
  have e : fcu fit M G m = G 86 m := if_pos m1
  have hs := fF_s (fit := fit) (st := st) (a := a) h1.1.1
  have hc := cntF_s (fit := fit) h1.1.1
  rw [if_pos h1.2.1] at hs hc
  have hle : G 86 m + 1 ≤ fcu fit M G (m + 1) := by
    by_cases q : G 86 m + 1 ≤ fcu fit M G (m + 1)
    · exact q
    · have := cntF_le (fit := fit) (i := fcu fit M G (m + 1)) (j := G 86 m) (by omega)
      omega
  rw [fF_to hle (by rw [h2, hc]; omega), hs, e]
theorem fcu_end (h : FtC fit M G) : fcu fit M G (cntF fit M.toNat) = M := if_neg (by omega)
end FC
theorem agrees_ok {G : Hp} {l q : Int} {P Lg f : Int → Int} (hV : PaperV P) (hL : LogV Lg) (hC : LogC G l Lg) (hq : PK q f) : cLg_agrees l (P 0) q G = some (agB P Lg f) := by
  apply ok_iff
  have h0 := hV.1
  have hl := hL.1
  unfold cLg_agrees
  refine lp_up (fun n i (_ : Unit) => cLg_agrees_L2 l (P 0) q G n i) (Lg 0) (fun i _ => allB (fun j => decide (Lg (1 + 2 * j) < P 0) && decide (f (Lg (1 + 2 * j)) = Lg (2 + 2 * j))) i.toNat = true) ?_ ?_ (by omega) (by omega) (by omega) (s := ()) rfl
  · intro n i s i0 i1 hI ih
    have hc := hC.2 i i0 i1
    have hv := hL.2 i i0 i1
    have hs := allB_s (fun j => decide (Lg (1 + 2 * j) < P 0) && decide (f (Lg (1 + 2 * j)) = Lg (2 + 2 * j))) i0
    rw [hI, Bool.true_and] at hs
    show ok (cLg_agrees_L2 l (P 0) q G (n + 1) i) _
    rw [cLg_agrees_L2, hC.1, if_pos i1, hc.1, hc.2, hq.2 _ hv.1 (by omega), w32_id (by omega) (by omega)]
    have no : (decide (Lg (1 + 2 * i) < P 0) && decide (f (Lg (1 + 2 * i)) = Lg (2 + 2 * i))) = false → false = agB P Lg f := by
      intro e
      cases hq : agB P Lg f with
      | false => rfl
      | true =>
        have := allB_iff.mp hq i i0 (by omega)
        rw [e] at this
        cases this
    refine ok_gd i0 (by omega) (ok_ite (fun e => ok_gd i0 (by omega) (ok_gd i0 (by omega) (ok_ite (fun e2 => ih () ?_) (fun e2 => ok_some (no ?_))))) (fun e => ok_some (no ?_)))
    · rw [hs, decide_eq_true e, decide_eq_true e2]
      rfl
    · rw [decide_eq_false e2, Bool.and_false]
    · rw [decide_eq_false e, Bool.false_and]
  · intro n s hI
    show ok (cLg_agrees_L2 l (P 0) q G (n + 1) (Lg 0)) _
    rw [cLg_agrees_L2, hC.1, if_neg (by omega)]
    exact ok_some hI.symm
theorem LogC.sr {G G' : Hp} {k : Int} {Lg : Int → Int} (hk : k = 0 ∨ k = 1) (h : LogC G (19 + 15 * k) Lg) (hs : Sr G G') : LogC G' (19 + 15 * k) Lg := h.fr fun a j x y => hs.1 a j (by unfold keepB; omega)
theorem choose_ok {G : Hp} {l : Int} {P Lg : Int → Int} (hV : PaperV P) (hL : LogV Lg) (hl : l = 0 ∨ l = 1) (hC : LogC G (19 + 15 * l) Lg) (hR : RowsOf G P) :
    ok (cRw_choose (19 + 15 * l) G) (fun G' => FtC (ftB P Lg) (PRm (P 1).toNat) G' ∧ RowsOf G' P ∧ ∀ a j, ¬ (a = 80 ∧ j = 10) → a ≠ 86 → G' a j = G a j) := by
  have h1 := hV.2.1
  have hM := PRm_r (show (P 1).toNat ≤ 6 by omega)
  have rfr : ∀ {G1 : Hp}, (∀ a j, ¬ (a = 80 ∧ j = 10) → a ≠ 86 → G1 a j = G a j) → RowsOf G1 P := by
    intro G1 hf
    obtain ⟨r1, r2, r3, r4⟩ := hR
    refine ⟨?_, ?_, ?_, fun k k0 k1 => ?_⟩
    · rw [hf _ _ (by omega) (by omega)]; exact r1
    · rw [hf _ _ (by omega) (by omega)]; exact r2
    · rw [hf _ _ (by omega) (by omega)]; exact r3
    · rw [hf _ _ (by omega) (by omega), hf _ _ (by omega) (by omega), hf _ _ (by omega) (by omega)]; exact r4 k k0 k1
  unfold cRw_choose
  refine lp_up (fun n i (s : Hp) => cRw_choose_L7 (19 + 15 * l) n i s) (PRm (P 1).toNat) (fun i s => (s 80 10 = cntF (ftB P Lg) i.toNat ∧ ∀ m, 0 ≤ m → m < cntF (ftB P Lg) i.toNat → (0 ≤ s 86 m ∧ s 86 m < i) ∧ ftB P Lg (s 86 m) = true ∧ cntF (ftB P Lg) (s 86 m).toNat = m) ∧ ∀ a j, ¬ (a = 80 ∧ j = 10) → a ≠ 86 → s a j = G a j) ?_ ?_ (by omega) (by omega) (by omega) ⟨⟨upd2_s, fun m m0 m1 => ?_⟩, fun a j x y => upd2_o (by omega)⟩
  · intro n i s i0 i1 hI ih
    obtain ⟨⟨g1, g2⟩, g3⟩ := hI
    have hR1 := rfr g3
    have hC1 : LogC s (19 + 15 * l) Lg := hC.fr fun a j x y => g3 a j (by omega) (by omega)
    have hc := cntF_r (fit := ftB P Lg) i.toNat
    have hcs := cntF_s (fit := ftB P Lg) i0
    show ok (cRw_choose_L7 (19 + 15 * l) (n + 1) i s) _
    rw [cRw_choose_L7, hR1.1, if_pos i1, hR1.2.2.1, agrees_ok hV hL hC1 (hR1.2.2.2 i i0 i1).2.1, Option.bind_some, w32_id (z := i + 1) (by omega) (by omega), g1]
    have eft : agB P Lg (prf P i) = ftB P Lg i := rfl
    rw [eft]
    refine ok_gd i0 (by omega) (ok_ite (fun e => ok_gd hc.1 (by omega) ?_) (fun e => ih s ⟨⟨?_, fun m m0 m1 => ?_⟩, g3⟩))
    · rw [if_pos e] at hcs
      have e80 : (upd2 s 86 (cntF (ftB P Lg) i.toNat) i) 80 10 = cntF (ftB P Lg) i.toNat := by rw [upd2_o (by omega), g1]
      rw [e80, w32_id (by omega) (by omega)]
      refine ih _ ⟨⟨?_, fun m m0 m1 => ?_⟩, fun a j x y => ?_⟩
      · rw [upd2_s, hcs]
      · rw [hcs] at m1
        rw [upd2_o (by omega)]
        by_cases hm : m = cntF (ftB P Lg) i.toNat
        · rw [upd2_e rfl hm]
          exact ⟨⟨i0, by omega⟩, e, hm.symm⟩
        · rw [upd2_o (by omega)]
          have := g2 m m0 (by omega)
          exact ⟨⟨this.1.1, by omega⟩, this.2⟩
      · rw [upd2_o x, upd2_o (by omega)]
        exact g3 a j x y
    · rw [hcs, if_neg e]
      exact g1
    · rw [hcs, if_neg e] at m1
      have := g2 m m0 m1
      exact ⟨⟨this.1.1, by omega⟩, this.2⟩
  · intro n s hI
    obtain ⟨⟨g1, g2⟩, g3⟩ := hI
    show ok (cRw_choose_L7 (19 + 15 * l) (n + 1) (PRm (P 1).toNat) s) _
    rw [cRw_choose_L7, (rfr g3).1, if_neg (by omega)]
    exact ok_some ⟨⟨g1, g2⟩, rfr g3, g3⟩
  · have : cntF (ftB P Lg) (0 : Int).toNat = 0 := rfl
    omega
-- what each asks of the list
section ASK
variable {G : Hp} {P Lg : Int → Int}
def mxA (P : Int → Int) : Int → Int → Int := fun a k => max a (cA P k)
def mnA (P : Int → Int) : Int → Int → Int := fun a k => if a = -1 then cA P k else min a (cA P k)
theorem mostF_ok (hV : PaperV P) (hR : RowsOf G P) (hF : FtC (ftB P Lg) (PRm (P 1).toNat) G) : cRw_mostFitting G = some (fF (ftB P Lg) (mxA P) (-1) (PRm (P 1).toNat).toNat) := by
  apply ok_iff
  have h1 := hV.2.1
  have hM := PRm_r (show (P 1).toNat ≤ 6 by omega)
  have hc := cntF_r (fit := ftB P Lg) (PRm (P 1).toNat).toNat
  unfold cRw_mostFitting
  refine lp_up (fun n i (s : Int) => cRw_mostFitting_L4 G n s i) (cntF (ftB P Lg) (PRm (P 1).toNat).toNat) (fun i s => s = fF (ftB P Lg) (mxA P) (-1) (fcu (ftB P Lg) (PRm (P 1).toNat) G i).toNat) ?_ ?_ (by omega) (by omega) (by omega) (fcu_0 hF (by omega)).symm
  · intro n i s i0 i1 hs ih
    have hf := hF.2 i i0 i1
    show ok (cRw_mostFitting_L4 G (n + 1) s i) _
    rw [cRw_mostFitting_L4, hF.1, if_pos i1, gd_ok i0 (by omega), gd_ok hf.1.1 (by omega), (hR.2.2.2 _ hf.1.1 hf.1.2).2.2, w32_id (by omega) (by omega)]
    refine ih _ ?_
    rw [fcu_s hF i0 i1, hs]
    rfl
  · intro n s hs
    show ok (cRw_mostFitting_L4 G (n + 1) s _) _
    rw [cRw_mostFitting_L4, hF.1, if_neg (by omega)]
    rw [fcu_end hF] at hs
    exact ok_some hs
theorem leastF_ok (hV : PaperV P) (hR : RowsOf G P) (hF : FtC (ftB P Lg) (PRm (P 1).toNat) G) : cRw_leastFitting G = some (fF (ftB P Lg) (mnA P) (-1) (PRm (P 1).toNat).toNat) := by
  apply ok_iff
  have h1 := hV.2.1
  have hM := PRm_r (show (P 1).toNat ≤ 6 by omega)
  have hc := cntF_r (fit := ftB P Lg) (PRm (P 1).toNat).toNat
  unfold cRw_leastFitting
  refine lp_up (fun n i (s : Int) => cRw_leastFitting_L4 G n s i) (cntF (ftB P Lg) (PRm (P 1).toNat).toNat) (fun i s => s = fF (ftB P Lg) (mnA P) (-1) (fcu (ftB P Lg) (PRm (P 1).toNat) G i).toNat) ?_ ?_ (by omega) (by omega) (by omega) (fcu_0 hF (by omega)).symm
  · intro n i s i0 i1 hs ih
    have hf := hF.2 i i0 i1
    have h2 : fF (ftB P Lg) (mnA P) (-1) (fcu (ftB P Lg) (PRm (P 1).toNat) G (i + 1)).toNat = mnA P s (G 86 i) := by rw [fcu_s hF i0 i1, ← hs]
    show ok (cRw_leastFitting_L4 G (n + 1) s i) _
    rw [cRw_leastFitting_L4, hF.1, if_pos i1, gd_ok i0 (by omega), gd_ok hf.1.1 (by omega), (hR.2.2.2 _ hf.1.1 hf.1.2).2.2, w32_id (by omega) (by omega)]
    refine ok_ite (fun e => ih _ ?_) (fun e => ih _ ?_)
    · rw [h2]
      unfold mnA
      rw [if_pos e]
      rfl
    · rw [h2]
      unfold mnA
      rw [if_neg e]
      rfl
  · intro n s hs
    show ok (cRw_leastFitting_L4 G (n + 1) s _) _
    rw [cRw_leastFitting_L4, hF.1, if_neg (by omega)]
    rw [fcu_end hF] at hs
    exact ok_some hs
/-- who stands at a place in the row, of all that fit -/
def whA (P : Int → Int) (i : Int) : Int → Int → Int := fun a k => ior a (ishl 1 (rk (P 1).toNat k i))
theorem whA_Mk (hV : PaperV P) {i : Int} (i0 : 0 ≤ i) (i1 : i < P 1) : ∀ k : Nat, (k : Int) ≤ PRm (P 1).toNat → Mk 6 (fF (ftB P Lg) (whA P i) 0 k) ∧ ∀ r, 0 ≤ r → bt (fF (ftB P Lg) (whA P i) 0 k) r = anyB (fun j => ftB P Lg j && decide (r = rk (P 1).toNat j i)) k
  | 0, _ => ⟨Mk.zero 6, fun r r0 => bt_zero r⟩
  | k + 1, hk => by
    have h1 := hV.2.1
    have hN : (P 1).toNat ≤ 6 := by omega
    obtain ⟨a1, a2⟩ := whA_Mk hV i0 i1 k (by omega)
    have hr := (rk_all hN (show 0 ≤ (k : Int) by omega) (show (k : Int) < PRm (P 1).toNat by omega) i0 (show i < ((P 1).toNat : Int) by omega)).1
    have hsh : Mk 6 (ishl 1 (rk (P 1).toNat (k : Int) i)) := Mk.shl hr.1 (by omega) (by omega)
    have e : ∀ r, anyB (fun j => ftB P Lg j && decide (r = rk (P 1).toNat j i)) (k + 1) = (anyB (fun j => ftB P Lg j && decide (r = rk (P 1).toNat j i)) k || (ftB P Lg (k : Int) && decide (r = rk (P 1).toNat (k : Int) i))) := fun r => rfl
    show Mk 6 (if ftB P Lg (k : Int) = true then whA P i (fF (ftB P Lg) (whA P i) 0 k) (k : Int) else fF (ftB P Lg) (whA P i) 0 k) ∧ ∀ r, 0 ≤ r → bt (if ftB P Lg (k : Int) = true then whA P i (fF (ftB P Lg) (whA P i) 0 k) (k : Int) else fF (ftB P Lg) (whA P i) 0 k) r = _
    by_cases q : ftB P Lg (k : Int) = true
    · rw [if_pos q]
      refine ⟨a1.or hsh (by omega), fun r r0 => ?_⟩
      rw [e, q, Bool.true_and, ← a2 r r0]
      show bt (ior _ (ishl 1 _)) r = _
      rw [bt_or a1 hsh (by omega) (by omega), bt_shl hr.1 (by omega) r0]
    · rw [if_neg q]
      refine ⟨a1, fun r r0 => ?_⟩
      have qf : ftB P Lg (k : Int) = false := by simpa using q
      rw [e, qf, Bool.false_and, Bool.or_false, ← a2 r r0]
theorem readersAt_ok {i : Int} (hV : PaperV P) (hR : RowsOf G P) (hF : FtC (ftB P Lg) (PRm (P 1).toNat) G) : cRw_readersAt i G = some (if 0 ≤ i ∧ i < P 1 then fF (ftB P Lg) (whA P i) 0 (PRm (P 1).toNat).toNat else 0) := by
  apply ok_iff
  have h1 := hV.2.1
  have hN : (P 1).toNat ≤ 6 := by omega
  have hM := PRm_r hN
  have hc := cntF_r (fit := ftB P Lg) (PRm (P 1).toNat).toNat
  unfold cRw_readersAt
  by_cases hi : 0 ≤ i ∧ i < P 1
  · rw [if_pos hi]
    refine lp_up (fun n m (s : Int) => cRw_readersAt_L4 i G n s m) (cntF (ftB P Lg) (PRm (P 1).toNat).toNat) (fun m s => s = fF (ftB P Lg) (whA P i) 0 (fcu (ftB P Lg) (PRm (P 1).toNat) G m).toNat) ?_ ?_ (by omega) (by omega) (by omega) (fcu_0 hF (by omega)).symm
    · intro n m s m0 m1 hs ih
      have hf := hF.2 m m0 m1
      have hr := (rk_all hN hf.1.1 hf.1.2 hi.1 (show i < ((P 1).toNat : Int) by omega)).1
      show ok (cRw_readersAt_L4 i G (n + 1) s m) _
      rw [cRw_readersAt_L4, hF.1, if_pos m1, readerAt_ok hV hR hf.1.1 hf.1.2, Option.bind_some, if_pos hi, if_neg (by omega), w32_id (by omega) (by omega)]
      refine ok_gd m0 (by omega) (ih _ ?_)
      rw [fcu_s hF m0 m1, hs]
      rfl
    · intro n s hs
      show ok (cRw_readersAt_L4 i G (n + 1) s _) _
      rw [cRw_readersAt_L4, hF.1, if_neg (by omega)]
      rw [fcu_end hF] at hs
      exact ok_some hs
  · rw [if_neg hi]
    refine lp_up (fun n m (s : Int) => cRw_readersAt_L4 i G n s m) (cntF (ftB P Lg) (PRm (P 1).toNat).toNat) (fun m s => s = 0) ?_ ?_ (by omega) (by omega) (by omega) rfl
    · intro n m s m0 m1 hs ih
      have hf := hF.2 m m0 m1
      show ok (cRw_readersAt_L4 i G (n + 1) s m) _
      rw [cRw_readersAt_L4, hF.1, if_pos m1, readerAt_ok hV hR hf.1.1 hf.1.2, Option.bind_some, if_neg hi, if_pos rfl, w32_id (by omega) (by omega), hs]
      exact ok_gd m0 (by omega) (ih _ (ior_0 (Mk.zero 6) (by omega)))
    · intro n s hs
      show ok (cRw_readersAt_L4 i G (n + 1) s _) _
      rw [cRw_readersAt_L4, hF.1, if_neg (by omega)]
      exact ok_some hs
/-- the one who is there in all that fit -/
def suV (P Lg : Int → Int) (B : Int → Int) (i r : Int) : Prop := (cntF (ftB P Lg) (PRm (P 1).toNat).toNat = 0 ∧ r = -1) ∨ (0 < cntF (ftB P Lg) (PRm (P 1).toNat).toNat ∧ (¬ (0 ≤ i ∧ i < P 1) ∧ r = -1 ∨ (0 ≤ i ∧ i < P 1) ∧ ((0 ≤ r ∧ r < 6 ∧ B i = ishl 1 r) ∨ (r = -1 ∧ ∃ u v, 0 ≤ u ∧ u < 6 ∧ 0 ≤ v ∧ v < 6 ∧ u ≠ v ∧ bt (B i) u = true ∧ bt (B i) v = true))))
theorem sure_ok {i : Int} (hV : PaperV P) (hR : RowsOf G P) (hF : FtC (ftB P Lg) (PRm (P 1).toNat) G) : ok (cRw_sure i G) (fun r => suV P Lg (fun i => fF (ftB P Lg) (whA P i) 0 (PRm (P 1).toNat).toNat) i r) := by
  have h1 := hV.2.1
  have hN : (P 1).toNat ≤ 6 := by omega
  have hM := PRm_r hN
  have hc := cntF_r (fit := ftB P Lg) (PRm (P 1).toNat).toNat
  unfold cRw_sure cRw_sure_j22
  rw [hF.1]
  by_cases h0 : 0 < cntF (ftB P Lg) (PRm (P 1).toNat).toNat
  · have hf0 := hF.2 0 (by omega) h0
    rw [if_pos h0, readerAt_ok hV hR hf0.1.1 hf0.1.2, Option.bind_some]
    by_cases hi : 0 ≤ i ∧ i < P 1
    · rw [if_pos hi]
      have hr := (rk_all hN hf0.1.1 hf0.1.2 hi.1 (show i < ((P 1).toNat : Int) by omega)).1
      have hW := whA_Mk (Lg := Lg) hV hi.1 hi.2 (PRm (P 1).toNat).toNat (by omega)
      have bit : ∀ m, 0 ≤ m → m < cntF (ftB P Lg) (PRm (P 1).toNat).toNat → bt (fF (ftB P Lg) (whA P i) 0 (PRm (P 1).toNat).toNat) (rk (P 1).toNat (G 86 m) i) = true := by
        intro m m0 m1
        have hf := hF.2 m m0 m1
        have hrm := (rk_all hN hf.1.1 hf.1.2 hi.1 (show i < ((P 1).toNat : Int) by omega)).1
        rw [hW.2 _ hrm.1]
        exact anyB_iff.mpr ⟨G 86 m, hf.1.1, by omega, by rw [hf.2.1, decide_eq_true rfl]; rfl⟩
      refine lp_up (fun n m (_ : Unit) => cRw_sure_L25 i G (rk (P 1).toNat (G 86 0) i) n m) (cntF (ftB P Lg) (PRm (P 1).toNat).toNat) (fun m _ => 1 ≤ m ∧ ∀ j, 0 ≤ j → j < m → rk (P 1).toNat (G 86 j) i = rk (P 1).toNat (G 86 0) i) ?_ ?_ (by omega) (by omega) (by omega) (s := ()) ⟨by omega, fun j j0 j1 => by rw [show j = 0 by omega]⟩
      · intro n m u m0 m1 hs ih
        have hf := hF.2 m m0 m1
        have hrm := (rk_all hN hf.1.1 hf.1.2 hi.1 (show i < ((P 1).toNat : Int) by omega)).1
        show ok (cRw_sure_L25 i G (rk (P 1).toNat (G 86 0) i) (n + 1) m) _
        rw [cRw_sure_L25, hF.1, if_pos m1, readerAt_ok hV hR hf.1.1 hf.1.2, Option.bind_some, if_pos hi, w32_id (by omega) (by omega)]
        refine ok_gd m0 (by omega) (ok_ite (fun e => ih () ⟨by omega, fun j j0 j1 => ?_⟩) (fun e => ok_some (Or.inr ⟨h0, Or.inr ⟨hi, Or.inr ⟨rfl, _, _, hrm.1, by omega, hr.1, by omega, e, bit m m0 m1, bit 0 (by omega) h0⟩⟩⟩)))
        by_cases hj : j = m
        · rw [hj]; exact e
        · exact hs.2 j j0 (by omega)
      · intro n u hs
        show ok (cRw_sure_L25 i G (rk (P 1).toNat (G 86 0) i) (n + 1) _) _
        rw [cRw_sure_L25, hF.1, if_neg (by omega)]
        refine ok_some (Or.inr ⟨h0, Or.inr ⟨hi, Or.inl ⟨hr.1, by omega, ?_⟩⟩⟩)
        refine Mk.ext hW.1 (Mk.shl hr.1 (by omega) (by omega)) fun r r0 r1 => ?_
        rw [hW.2 r r0, bt_shl hr.1 (by omega) r0]
        by_cases q : r = rk (P 1).toNat (G 86 0) i
        · rw [decide_eq_true q]
          exact anyB_iff.mpr ⟨G 86 0, hf0.1.1, by omega, by rw [hf0.2.1, decide_eq_true q]; rfl⟩
        · rw [decide_eq_false q]
          refine anyB_false.mpr fun j j0 j1 => ?_
          cases hj : ftB P Lg j with
          | false => rfl
          | true =>
            rw [Bool.true_and]
            -- j stands in the list
            have hcj := cntF_s (fit := ftB P Lg) j0
            rw [if_pos hj] at hcj
            have hcl := cntF_le (fit := ftB P Lg) (i := j + 1) (j := PRm (P 1).toNat) (by omega)
            have hcr := cntF_r (fit := ftB P Lg) j.toNat
            have hf := hF.2 (cntF (ftB P Lg) j.toNat) hcr.1 (by omega)
            have : G 86 (cntF (ftB P Lg) j.toNat) = j := by
              have hgs := cntF_s (fit := ftB P Lg) hf.1.1
              rw [if_pos hf.2.1] at hgs
              rcases Int.lt_trichotomy (G 86 (cntF (ftB P Lg) j.toNat)) j with z | z | z
              · have := cntF_le (fit := ftB P Lg) (i := G 86 (cntF (ftB P Lg) j.toNat) + 1) (j := j) (by omega)
                omega
              · exact z
              · have := cntF_le (fit := ftB P Lg) (i := j + 1) (j := G 86 (cntF (ftB P Lg) j.toNat)) (by omega)
                omega
            have h5 := hs.2 (cntF (ftB P Lg) j.toNat) hcr.1 (by omega)
            rw [this] at h5
            exact decide_eq_false (fun z => q (by rw [z, h5]))
    · rw [if_neg hi]
      refine lp_up (fun n m (_ : Unit) => cRw_sure_L25 i G (-1) n m) (cntF (ftB P Lg) (PRm (P 1).toNat).toNat) (fun m _ => 1 ≤ m) ?_ ?_ (by omega) (by omega) (by omega) (s := ()) (by omega)
      · intro n m u m0 m1 hs ih
        have hf := hF.2 m m0 m1
        show ok (cRw_sure_L25 i G (-1) (n + 1) m) _
        rw [cRw_sure_L25, hF.1, if_pos m1, readerAt_ok hV hR hf.1.1 hf.1.2, Option.bind_some, if_neg hi, if_pos rfl, w32_id (by omega) (by omega)]
        exact ok_gd m0 (by omega) (ih () (by omega))
      · intro n u hs
        show ok (cRw_sure_L25 i G (-1) (n + 1) _) _
        rw [cRw_sure_L25, hF.1, if_neg (by omega)]
        exact ok_some (Or.inr ⟨h0, Or.inl ⟨hi, rfl⟩⟩)
  · rw [if_neg h0]
    show ok (cRw_sure_L25 i G (-1) (99999 + 1) 1) _
    rw [cRw_sure_L25, hF.1, if_neg (by omega)]
    exact ok_some (Or.inl ⟨by omega, rfl⟩)
end ASK
