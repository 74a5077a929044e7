-- counts over those that fit
def wcA (P : Int → Int) (p w : Int) : Int → Int → Int := fun a j => a + b2i (decide (prf P j p = w))
def prs1 (row : Int → Int) (a b k : Int) : Int → Int := fun o => b2i (decide (k < o ∧ row k = a ∧ row o = b))
def prs0 (row : Int → Int) (n : Nat) (a b : Int) : Int → Int := fun k => sm (prs1 row a b k) n
def prs (row : Int → Int) (n : Nat) (a b : Int) : Int := sm (prs0 row n a b) n
def ahA (P : Int → Int) (a b : Int) : Int → Int → Int := fun x j => x + prs (rk (P 1).toNat j) (P 1).toNat a b
theorem prs0_r (row : Int → Int) (n : Nat) (a b k : Int) : 0 ≤ prs0 row n a b k ∧ prs0 row n a b k ≤ n := by
  have := sm_r (f := prs1 row a b k) (a := 0) (b := 1) (n := n) (fun j _ _ => b2i_b _)
  unfold prs0
  omega
theorem prs_r (row : Int → Int) (n : Nat) (hn : n ≤ 6) (a b : Int) : 0 ≤ prs row n a b ∧ prs row n a b ≤ 36 := by
  have := sm_r (f := prs0 row n a b) (a := 0) (b := 6) (n := n) (fun j _ _ => by have := prs0_r row n a b j; omega)
  unfold prs
  omega
theorem fF_add {fit : Int → Bool} {d : Int → Int} {B : Int} (hd : ∀ k, 0 ≤ d k ∧ d k ≤ B) : ∀ k : Nat, 0 ≤ fF fit (fun (x : Int) j => x + d j) 0 k ∧ fF fit (fun (x : Int) j => x + d j) 0 k ≤ B * k
  | 0 => ⟨Int.le_refl 0, by show (0 : Int) ≤ B * ((0 : Nat) : Int); simp⟩
  | k + 1 => by
    have ih := fF_add (fit := fit) (d := d) (B := B) hd k
    have h := hd (k : Int)
    have e : B * ((k + 1 : Nat) : Int) = B * (k : Int) + B := by rw [Int.natCast_add, Int.mul_add]; simp
    rw [e]
    show 0 ≤ (if fit (k : Int) = true then fF fit (fun (x : Int) j => x + d j) 0 k + d (k : Int) else fF fit (fun (x : Int) j => x + d j) 0 k) ∧ (if fit (k : Int) = true then fF fit (fun (x : Int) j => x + d j) 0 k + d (k : Int) else fF fit (fun (x : Int) j => x + d j) 0 k) ≤ _
    split <;> omega
theorem wcA_r {fit : Int → Bool} (P : Int → Int) (p w : Int) (k : Nat) : 0 ≤ fF fit (wcA P p w) 0 k ∧ fF fit (wcA P p w) 0 k ≤ k := by
  have := fF_add (fit := fit) (d := fun j => b2i (decide (prf P j p = w))) (B := 1) (fun j => b2i_b _) k
  have e : (1 : Int) * (k : Int) = k := by omega
  rw [e] at this
  exact this
theorem ahA_r {fit : Int → Bool} {P : Int → Int} (h : (P 1).toNat ≤ 6) (a b : Int) (k : Nat) : 0 ≤ fF fit (ahA P a b) 0 k ∧ fF fit (ahA P a b) 0 k ≤ 36 * k := fF_add (fit := fit) (d := fun j => prs (rk (P 1).toNat j) (P 1).toNat a b) (B := 36) (fun j => prs_r _ _ h a b) k
theorem mnA_r {fit : Int → Bool} {P : Int → Int} (hV : PaperV P) : ∀ k : Nat, (cntF fit k = 0 → fF fit (mnA P) (-1) k = -1) ∧ (0 < cntF fit k → 0 ≤ fF fit (mnA P) (-1) k)
  | 0 => ⟨fun _ => rfl, fun h => absurd (show (0 : Int) < 0 from h) (by omega)⟩
  | k + 1 => by
    have ih := mnA_r (fit := fit) hV k
    have hc := cntF_r (fit := fit) k
    have hA : 0 ≤ cA P (k : Int) ∧ cA P (k : Int) ≤ 48 := ctA_r hV _
    have e1 : cntF fit (k + 1) = if fit (k : Int) = true then cntF fit k + 1 else cntF fit k := rfl
    have e2 : fF fit (mnA P) (-1) (k + 1) = if fit (k : Int) = true then mnA P (fF fit (mnA P) (-1) k) (k : Int) else fF fit (mnA P) (-1) k := rfl
    rw [e1, e2]
    by_cases q : fit (k : Int) = true
    · rw [if_pos q, if_pos q]
      refine ⟨fun h => by omega, fun _ => ?_⟩
      unfold mnA
      split
      · omega
      · next h =>
        by_cases hz : cntF fit k = 0
        · exact absurd (ih.1 hz) h
        · have := ih.2 (by omega)
          unfold mnA at this
          omega
    · rw [if_neg q, if_neg q]
      exact ih
theorem mxS_up {g h : Int → Int} {d : Int} (d0 : 0 ≤ d) (hd : h d = g d + 1) : ∀ n : Nat, d < n → (∀ e : Int, 0 ≤ e → e < n → e ≠ d → h e = g e) → mxS h n = max (mxS g n) (h d)
  | 0, h1, _ => by omega
  | n + 1, h1, h2 => by
    show max (mxS h n) (h (n : Int)) = max (max (mxS g n) (g (n : Int))) (h d)
    by_cases q : d = (n : Int)
    · have e : mxS h n = mxS g n := mxS_congr n fun k k0 k1 => h2 k k0 (by omega) (by omega)
      rw [e, ← q]
      omega
    · rw [mxS_up d0 hd n (by omega) (fun e e0 e1 e2 => h2 e e0 (by omega) e2), h2 (n : Int) (by omega) (by omega) (by omega)]
      omega
/-- the first place with the least -/
def akF (c : Int → Int) : Nat → Int
  | 0 => -1
  | k + 1 => if akF c k = -1 ∨ c (k : Int) < c (akF c k) then (k : Int) else akF c k
theorem akF_s (c : Int → Int) {i : Int} (h : 0 ≤ i) : akF c (i + 1).toNat = if akF c i.toNat = -1 ∨ c i < c (akF c i.toNat) then i else akF c i.toNat := by
  have e : (i + 1).toNat = i.toNat + 1 := by omega
  have e2 : ((i.toNat : Nat) : Int) = i := by omega
  rw [e]
  show (if akF c i.toNat = -1 ∨ c ((i.toNat : Nat) : Int) < c (akF c i.toNat) then ((i.toNat : Nat) : Int) else akF c i.toNat) = _
  rw [e2]
theorem akF_r (c : Int → Int) : ∀ k : Nat, -1 ≤ akF c k ∧ akF c k < k
  | 0 => ⟨by show (-1 : Int) ≤ -1; omega, by show (-1 : Int) < 0; omega⟩
  | k + 1 => by
    have ih := akF_r c k
    unfold akF
    split <;> omega
def alk (P Lg : Int → Int) (p : Int) : Int := mxS (fun w => fF (ftB P Lg) (wcA P p w) 0 (PRm (P 1).toNat).toNat) 10
def akV (P Lg : Int → Int) : Int := if 0 < cntF (ftB P Lg) (PRm (P 1).toNat).toNat then akF (alk P Lg) (P 0).toNat else -1
theorem alk_r {P Lg : Int → Int} (hV : PaperV P) (p : Int) : 0 ≤ alk P Lg p ∧ alk P Lg p ≤ 720 := by
  have h1 := hV.2.1
  have hM := PRm_r (show (P 1).toNat ≤ 6 by omega)
  exact mxS_r (by omega) 10 fun k k0 k1 => by have := wcA_r (fit := ftB P Lg) P p k (PRm (P 1).toNat).toNat; omega
theorem prf_V {P : Int → Int} (hV : PaperV P) (k : Int) : PV (prf P k) := prR_V hV.pv _
section ASK2
variable {P Lg : Int → Int}
theorem RowsOf.fr2 {G G' : Hp} (h : RowsOf G P) (hf : ∀ a j, a ≠ 91 → G' a j = G a j) : RowsOf G' P := h.fr fun a j x y => hf a j (by omega)
theorem mostAlike_ok {G : Hp} {p : Int} (hV : PaperV P) (hR : RowsOf G P) (hF : FtC (ftB P Lg) (PRm (P 1).toNat) G) (p0 : 0 ≤ p) (p1 : p < P 0) : ok (cRw_mostAlike p G) (fun x => x.1 = alk P Lg p ∧ ∀ a j, a ≠ 91 → x.2 a j = G a j) := by
  have h0 := hV.1
  have h1 := hV.2.1
  have hM := PRm_r (show (P 1).toNat ≤ 6 by omega)
  have hc := cntF_r (fit := ftB P Lg) (PRm (P 1).toNat).toNat
  unfold cRw_mostAlike
  refine lp_up (fun n i (s : Hp) => cRw_mostAlike_L2 p (fun G_18 => cRw_mostAlike_L23 p FU 0 0 G_18) n i s) 10 (fun i s => (∀ w, 0 ≤ w → w < i → s 91 w = 0) ∧ ∀ a j, a ≠ 91 → s a j = G a j) ?_ ?_ (by omega) (by omega) (by omega) ⟨fun w w0 w1 => by omega, fun _ _ _ => rfl⟩
  · intro n i s i0 i1 hI ih
    show ok (cRw_mostAlike_L2 p _ (n + 1) i s) _
    rw [cRw_mostAlike_L2, if_pos i1, gd_ok i0 i1, w32_id (by omega) (by omega)]
    refine ih _ ⟨fun w w0 w1 => ?_, fun a j x => ?_⟩
    · by_cases hw : w = i
      · rw [upd2_e rfl hw]
      · rw [upd2_o (by omega)]
        exact hI.1 w w0 (by omega)
    · rw [upd2_o (by omega)]
      exact hI.2 a j x
  · intro n s hI
    show ok (cRw_mostAlike_L2 p _ (n + 1) 10 s) _
    rw [cRw_mostAlike_L2, if_neg (by omega)]
    have gx : ∀ {G1 : Hp}, (∀ a j, a ≠ 91 → G1 a j = G a j) → FtC (ftB P Lg) (PRm (P 1).toNat) G1 := fun {G1} hf => ⟨by rw [hf _ _ (by omega)]; exact hF.1, fun m m0 m1 => by rw [hf _ _ (by omega)]; exact hF.2 m m0 m1⟩
    have hwm := fun w k => wcA_r (fit := ftB P Lg) P p w k
    refine lp_up (fun n m (s : Int × Hp) => cRw_mostAlike_L23 p n s.1 m s.2) (cntF (ftB P Lg) (PRm (P 1).toNat).toNat) (fun m s => s.1 = mxS (fun w => fF (ftB P Lg) (wcA P p w) 0 (fcu (ftB P Lg) (PRm (P 1).toNat) G m).toNat) 10 ∧ (∀ w, 0 ≤ w → w < 10 → s.2 91 w = fF (ftB P Lg) (wcA P p w) 0 (fcu (ftB P Lg) (PRm (P 1).toNat) G m).toNat) ∧ ∀ a j, a ≠ 91 → s.2 a j = G a j) ?_ ?_ (by omega) (by omega) (by omega) (s := (0, s)) ⟨?_, fun w w0 w1 => ?_, hI.2⟩
    · intro n m s m0 m1 hs ih
      obtain ⟨most, G1⟩ := s
      obtain ⟨g1, g2, g3⟩ := hs
      simp only at g1 g2 g3
      have hf := hF.2 m m0 m1
      have hR1 : RowsOf G1 P := hR.fr2 g3
      have hpv := prf_V hV (G 86 m) p p0 (by omega)
      have ew : cX_wordAt (G1 84 (G1 86 m)) p = prf P (G 86 m) p := by
        rw [g3 86 m (by omega)]
        exact (hR1.2.2.2 _ hf.1.1 hf.1.2).2.1.2 p p0 (by omega)
      have e10 : G1 80 10 = cntF (ftB P Lg) (PRm (P 1).toNat).toNat := by rw [g3 _ _ (by omega)]; exact hF.1
      have hst : ∀ w, fF (ftB P Lg) (wcA P p w) 0 (fcu (ftB P Lg) (PRm (P 1).toNat) G (m + 1)).toNat = fF (ftB P Lg) (wcA P p w) 0 (fcu (ftB P Lg) (PRm (P 1).toNat) G m).toNat + b2i (decide (prf P (G 86 m) p = w)) := fun w => fcu_s hF m0 m1
      have hfc : fcu (ftB P Lg) (PRm (P 1).toNat) G m = G 86 m := if_pos m1
      have hwb := hwm (prf P (G 86 m) p) (fcu (ftB P Lg) (PRm (P 1).toNat) G m).toNat
      show ok (cRw_mostAlike_L23 p (n + 1) most m G1) _
      rw [cRw_mostAlike_L23, e10, if_pos m1, ew, if_pos hpv.2, upd2_s, g2 _ hpv.1 hpv.2, w32_id (z := m + 1) (by omega) (by omega), w32_id (by omega) (by omega)]
      refine ok_gd m0 (by omega) (ok_gd (by rw [g3 _ _ (by omega)]; exact hf.1.1) (by rw [g3 _ _ (by omega)]; omega) (ok_gd hpv.1 hpv.2 (ok_gd hpv.1 hpv.2 (ok_gd hpv.1 hpv.2 (ih (_, upd2 G1 91 (prf P (G 86 m) p) (fF (ftB P Lg) (wcA P p (prf P (G 86 m) p)) 0 (fcu (ftB P Lg) (PRm (P 1).toNat) G m).toNat + 1)) ⟨?_, fun w w0 w1 => ?_, fun a j x => ?_⟩)))))
      · show max most _ = _
        rw [mxS_up (g := fun w => fF (ftB P Lg) (wcA P p w) 0 (fcu (ftB P Lg) (PRm (P 1).toNat) G m).toNat) (d := prf P (G 86 m) p) hpv.1 ?_ 10 (by omega) (fun e e0 e1 e2 => ?_), ← g1, hst, decide_eq_true rfl]
        · rfl
        · show fF _ _ _ _ = fF _ _ _ _ + 1
          rw [hst, decide_eq_true rfl]
          rfl
        · show fF _ _ _ _ = fF _ _ _ _
          rw [hst, decide_eq_false (fun z => e2 z.symm)]
          show _ + 0 = _
          omega
      · show upd2 G1 91 _ _ 91 w = _
        rw [hst]
        by_cases hw : w = prf P (G 86 m) p
        · rw [upd2_e rfl hw, hw, decide_eq_true rfl]
          rfl
        · rw [upd2_o (by omega), g2 w w0 w1, decide_eq_false (fun z => hw z.symm)]
          show _ = _ + 0
          omega
      · show upd2 G1 91 _ _ a j = _
        rw [upd2_o (by omega)]
        exact g3 a j x
    · intro n s hs
      obtain ⟨most, G1⟩ := s
      obtain ⟨g1, g2, g3⟩ := hs
      have e10 : G1 80 10 = cntF (ftB P Lg) (PRm (P 1).toNat).toNat := by rw [show G1 80 10 = G 80 10 from g3 _ _ (by omega)]; exact hF.1
      show ok (cRw_mostAlike_L23 p (n + 1) most _ G1) _
      rw [cRw_mostAlike_L23, e10, if_neg (by omega)]
      rw [fcu_end hF] at g1
      exact ok_some ⟨g1, g3⟩
    · show (0 : Int) = _
      refine (mxS_0 10 fun w w0 w1 => ?_).symm
      exact fcu_0 hF (by omega)
    · show s 91 w = _
      rw [hI.1 w w0 w1]
      exact (fcu_0 hF (by omega)).symm
theorem ask_ok {G : Hp} (hV : PaperV P) (hR : RowsOf G P) (hF : FtC (ftB P Lg) (PRm (P 1).toNat) G) : ok (cRw_ask G) (fun x => x.1 = akV P Lg ∧ ∀ a j, a ≠ 91 → x.2 a j = G a j) := by
  have h0 := hV.1
  unfold cRw_ask akV
  refine lp_up (fun n i (s : Int × Int × Hp) => cRw_ask_L9 n s.1 s.2.1 i s.2.2) (P 0) (fun i s => s.1 = (if 0 < cntF (ftB P Lg) (PRm (P 1).toNat).toNat then akF (alk P Lg) i.toNat else -1) ∧ (0 < cntF (ftB P Lg) (PRm (P 1).toNat).toNat → s.2.1 = if s.1 = -1 then 721 else alk P Lg s.1) ∧ ∀ a j, a ≠ 91 → s.2.2 a j = G a j) ?_ ?_ (by omega) (by omega) (by omega) (s := (-1, 721, G)) ⟨by split <;> rfl, fun _ => rfl, fun _ _ _ => rfl⟩
  · intro n i s i0 i1 hI ih
    obtain ⟨best, least, G1⟩ := s
    obtain ⟨g1, g2, g3⟩ := hI
    simp only at g1 g2 g3
    have hR1 : RowsOf G1 P := hR.fr2 g3
    have hF1 : FtC (ftB P Lg) (PRm (P 1).toNat) G1 := ⟨by rw [g3 _ _ (by omega)]; exact hF.1, fun m m0 m1 => by rw [g3 _ _ (by omega)]; exact hF.2 m m0 m1⟩
    show ok (cRw_ask_L9 (n + 1) best least i G1) _
    rw [cRw_ask_L9, hR1.2.2.1, if_pos i1, hF1.1, w32_id (by omega) (by omega)]
    by_cases hc : 0 < cntF (ftB P Lg) (PRm (P 1).toNat).toNat
    · rw [if_pos hc]
      rw [if_pos hc] at g1
      have g2' := g2 hc
      have hs := akF_s (alk P Lg) i0
      have hr := akF_r (alk P Lg) i.toNat
      have ha := alk_r (Lg := Lg) hV i
      rw [← g1] at hs hr
      refine ok_then (mostAlike_ok hV hR1 hF1 i0 i1) fun y hy => ?_
      have hfr : ∀ a j, a ≠ 91 → y.2 a j = G a j := fun a j x => (hy.2 a j x).trans (g3 a j x)
      rw [hy.1]
      refine ok_ite (fun e => ih (i, _, y.2) ⟨?_, fun _ => ?_, hfr⟩) (fun e => ih (best, least, y.2) ⟨?_, fun _ => g2', hfr⟩)
      · show i = _
        rw [if_pos hc, hs]
        by_cases q : best = -1
        · rw [if_pos (Or.inl q)]
        · rw [if_neg q] at g2'
          rw [if_pos (Or.inr (by omega))]
      · show alk P Lg i = if i = -1 then 721 else alk P Lg i
        rw [if_neg (by omega)]
      · show best = _
        rw [if_pos hc, hs]
        by_cases q : best = -1
        · rw [if_pos q] at g2'
          omega
        · rw [if_neg q] at g2'
          rw [if_neg (fun z => z.elim q (fun z => by omega))]
    · rw [if_neg hc]
      rw [if_neg hc] at g1
      exact ok_some ⟨by rw [if_neg hc]; exact g1, g3⟩
  · intro n s hI
    obtain ⟨best, least, G1⟩ := s
    obtain ⟨g1, g2, g3⟩ := hI
    have hR1 : RowsOf G1 P := hR.fr2 g3
    show ok (cRw_ask_L9 (n + 1) best least (P 0) G1) _
    rw [cRw_ask_L9, hR1.2.2.1, if_neg (by omega)]
    exact ok_some ⟨g1, g3⟩
theorem sm_one {f : Int → Int} {k : Int} (k0 : 0 ≤ k) : ∀ n : Nat, k < n → (∀ j : Int, 0 ≤ j → j < n → j ≠ k → f j = 0) → sm f n = f k
  | 0, h, _ => by omega
  | n + 1, h, hz => by
    show sm f n + f (n : Int) = _
    by_cases q : k = (n : Int)
    · have : sm f n = 0 := by
        have e := sm_cut (f := f) (n := 0) (m := n) (by omega) fun j j0 j1 => hz j (by omega) (by omega) (by omega)
        rw [e]
        rfl
      rw [this, q]
      omega
    · rw [sm_one k0 n (by omega) (fun j j0 j1 j2 => hz j j0 (by omega) j2), hz (n : Int) (by omega) (by omega) (by omega)]
      omega
/-- once each: who stands ahead -/
theorem prs_one {row : Int → Int} {n : Nat} {a b ia ib : Int} (ia0 : 0 ≤ ia) (ia1 : ia < n) (ib0 : 0 ≤ ib) (ib1 : ib < n) (ha : row ia = a) (hb : row ib = b) (hinj : ∀ i j : Int, 0 ≤ i → i < n → 0 ≤ j → j < n → row i = row j → i = j) : prs row n a b = b2i (decide (ia < ib)) := by
  unfold prs
  rw [sm_one ia0 n ia1 fun j j0 j1 j2 => ?_]
  · unfold prs0
    rw [sm_one ib0 n ib1 fun j j0 j1 j2 => ?_]
    · unfold prs1
      congr 1
      exact decide_eq_decide.mpr ⟨fun z => z.1, fun z => ⟨z, ha, hb⟩⟩
    · unfold prs1
      rw [decide_eq_false (fun z => j2 (hinj j ib j0 j1 ib0 ib1 (by rw [hb]; exact z.2.2)))]
      rfl
  · unfold prs0
    have e := sm_cut (f := prs1 row a b j) (n := 0) (m := n) (by omega) fun o o0 o1 => by
      unfold prs1
      rw [decide_eq_false (fun z => j2 (hinj j ia j0 j1 ia0 ia1 (by rw [ha]; exact z.2.1)))]
      rfl
    rw [e]
    rfl
theorem manyAhead_ok {G : Hp} {a b : Int} (hV : PaperV P) (hR : RowsOf G P) (hF : FtC (ftB P Lg) (PRm (P 1).toNat) G) (a0 : 0 ≤ a) (a1 : a < P 1) (b0 : 0 ≤ b) (b1 : b < P 1) (ab : a ≠ b) : cRw_manyAhead a b G = some (fF (ftB P Lg) (ahA P a b) 0 (PRm (P 1).toNat).toNat) := by
  apply ok_iff
  have h1 := hV.2.1
  have hN : (P 1).toNat ≤ 6 := by omega
  have hM := PRm_r hN
  have hc := cntF_r (fit := ftB P Lg) (PRm (P 1).toNat).toNat
  unfold cRw_manyAhead
  refine lp_up (fun n m (s : Int) => cRw_manyAhead_L5 a b G n s m) (cntF (ftB P Lg) (PRm (P 1).toNat).toNat) (fun m s => s = fF (ftB P Lg) (ahA P a b) 0 (fcu (ftB P Lg) (PRm (P 1).toNat) G m).toNat) ?_ ?_ (by omega) (by omega) (by omega) (fcu_0 hF (by omega)).symm
  · intro n m s m0 m1 hs ih
    have hf := hF.2 m m0 m1
    have hall := fun i i0 i1 => rk_all hN hf.1.1 hf.1.2 (i := i) i0 i1
    obtain ⟨ia, ia0, ia1, ia2⟩ := (hall a a0 (by omega)).2.2.1
    obtain ⟨ib, ib0, ib1, ib2⟩ := (hall b b0 (by omega)).2.2.1
    have hinj : ∀ i j : Int, 0 ≤ i → i < ((P 1).toNat : Int) → 0 ≤ j → j < ((P 1).toNat : Int) → rk (P 1).toNat (G 86 m) i = rk (P 1).toNat (G 86 m) j → i = j := fun i j i0 i1 j0 j1 hij => (hall i i0 i1).2.1 j j0 j1 hij
    have hpr := prs_one ia0 ia1 ib0 ib1 ia2 ib2 hinj
    have hsb := ahA_r (fit := ftB P Lg) hN a b (fcu (ftB P Lg) (PRm (P 1).toNat) G m).toNat
    have hfc : fcu (ftB P Lg) (PRm (P 1).toNat) G m = G 86 m := if_pos m1
    rw [hfc] at hsb hs
    have hne : ia ≠ ib := fun z => ab (by rw [← ia2, ← ib2, z])
    have hst : fF (ftB P Lg) (ahA P a b) 0 (fcu (ftB P Lg) (PRm (P 1).toNat) G (m + 1)).toNat = s + b2i (decide (ia < ib)) := by rw [fcu_s hF m0 m1, hfc, ← hs, ← hpr]; rfl
    show ok (cRw_manyAhead_L5 a b G (n + 1) s m) _
    rw [cRw_manyAhead_L5, hF.1, if_pos m1, w32_id (z := m + 1) (by omega) (by omega)]
    refine lp_up (fun n2 i (_ : Unit) => cRw_manyAhead_L17 a b G s m (fun x6_53 => if x6_53 = a then cRw_manyAhead_L5 a b G n (w32 (s + 1)) (m + 1) else cRw_manyAhead_L5 a b G n (w32 (s + 0)) (m + 1)) (cRw_manyAhead_L5 a b G n s (m + 1)) n2 i) (min ia ib) (fun _ _ => True) ?_ ?_ (by omega) (by omega) (by omega) (s := ()) trivial
    · intro n2 i u i0 i1 _ ih2
      show ok (cRw_manyAhead_L17 a b G s m _ _ (n2 + 1) i) _
      have na : rk (P 1).toNat (G 86 m) i ≠ a := fun z => by have := hinj i ia i0 (by omega) ia0 ia1 (by rw [z, ia2]); omega
      have nb : rk (P 1).toNat (G 86 m) i ≠ b := fun z => by have := hinj i ib i0 (by omega) ib0 ib1 (by rw [z, ib2]); omega
      rw [cRw_manyAhead_L17, hR.2.1, if_pos (show i < P 1 by omega), readerAt_ok hV hR hf.1.1 hf.1.2, Option.bind_some, if_pos (show 0 ≤ i ∧ i < P 1 by omega), if_neg na, if_neg nb, w32_id (z := i + 1) (by omega) (by omega)]
      exact ok_gd m0 (by omega) (ih2 () trivial)
    · intro n2 u _
      show ok (cRw_manyAhead_L17 a b G s m _ _ (n2 + 1) (min ia ib)) _
      rw [cRw_manyAhead_L17, hR.2.1, if_pos (show min ia ib < P 1 by omega), readerAt_ok hV hR hf.1.1 hf.1.2, Option.bind_some, if_pos (show 0 ≤ min ia ib ∧ min ia ib < P 1 by omega)]
      refine ok_gd m0 (by omega) ?_
      by_cases q : ia < ib
      · rw [show min ia ib = ia by omega, ia2, if_pos rfl, if_pos rfl, w32_id (by omega) (by omega)]
        refine ih _ ?_
        rw [hst, decide_eq_true q]
        rfl
      · rw [show min ia ib = ib by omega, ib2, if_neg (fun z => ab z.symm), if_pos rfl, if_neg (fun z => ab z.symm), w32_id (by omega) (by omega)]
        refine ih _ ?_
        rw [hst, decide_eq_false q]
        rfl
  · intro n s hs
    show ok (cRw_manyAhead_L5 a b G (n + 1) s _) _
    rw [cRw_manyAhead_L5, hF.1, if_neg (by omega)]
    rw [fcu_end hF] at hs
    exact ok_some hs
end ASK2
