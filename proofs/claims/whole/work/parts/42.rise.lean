-- the longest rise
theorem mxS_r {g : Int → Int} {B : Int} (hB : 0 ≤ B) : ∀ n : Nat, (∀ k : Int, 0 ≤ k → k < n → g k ≤ B) → 0 ≤ mxS g n ∧ mxS g n ≤ B
  | 0, _ => ⟨Int.le_refl 0, hB⟩
  | n + 1, h => by
    have ih := mxS_r hB n (fun k k0 k1 => h k k0 (by omega))
    have := h (n : Int) (by omega) (by omega)
    show 0 ≤ max (mxS g n) (g (n : Int)) ∧ max (mxS g n) (g (n : Int)) ≤ B
    omega
theorem mxS_0 {g : Int → Int} : ∀ n : Nat, (∀ k : Int, 0 ≤ k → k < n → g k = 0) → mxS g n = 0
  | 0, _ => rfl
  | n + 1, h => by
    show max (mxS g n) (g (n : Int)) = 0
    rw [mxS_0 n (fun k k0 k1 => h k k0 (by omega)), h (n : Int) (by omega) (by omega)]
    omega
theorem mxS_congr {g h : Int → Int} : ∀ n : Nat, (∀ k : Int, 0 ≤ k → k < n → g k = h k) → mxS g n = mxS h n
  | 0, _ => rfl
  | n + 1, e => by
    show max (mxS g n) (g (n : Int)) = max (mxS h n) (h (n : Int))
    rw [mxS_congr n (fun k k0 k1 => e k k0 (by omega)), e (n : Int) (by omega) (by omega)]
theorem mxS_le {g : Int → Int} : ∀ (n : Nat) (k : Int), 0 ≤ k → k < n → g k ≤ mxS g n
  | 0, k, k0, k1 => by omega
  | n + 1, k, k0, k1 => by
    show _ ≤ max (mxS g n) (g (n : Int))
    by_cases h : k = (n : Int)
    · subst h; omega
    · have := mxS_le (g := g) n k k0 (by omega)
      omega
theorem mxS_ex {g : Int → Int} : ∀ (n : Nat), mxS g n = 0 ∨ ∃ k : Int, 0 ≤ k ∧ k < n ∧ g k = mxS g n
  | 0 => Or.inl rfl
  | n + 1 => by
    show max (mxS g n) (g (n : Int)) = 0 ∨ ∃ k : Int, 0 ≤ k ∧ k < ((n + 1 : Nat) : Int) ∧ g k = max (mxS g n) (g (n : Int))
    by_cases h : g (n : Int) ≤ mxS g n
    · rcases mxS_ex (g := g) n with e | ⟨k, k0, k1, k2⟩
      · left; omega
      · right; exact ⟨k, k0, by omega, by omega⟩
    · right; exact ⟨n, by omega, by omega, by omega⟩
/-- of those behind one that are greater -/
def rsG (f R : Int → Int) (p : Int) : Int → Int := fun q => if p < q ∧ f p < f q then R q else 0
def Lr (f : Int → Int) (pl : Int) : Nat → Int → Int
  | 0 => fun _ => 0
  | m + 1 => fun x => if x = pl - ((m : Int) + 1) then 1 + mxS (rsG f (Lr f pl m) (pl - ((m : Int) + 1))) pl.toNat else Lr f pl m x
theorem Lr_r (f : Int → Int) (pl : Int) : ∀ (m : Nat) (x : Int), 0 ≤ Lr f pl m x ∧ Lr f pl m x ≤ m
  | 0, x => ⟨Int.le_refl 0, Int.le_refl 0⟩
  | m + 1, x => by
    have ih := Lr_r f pl m
    show 0 ≤ (if x = pl - ((m : Int) + 1) then 1 + mxS (rsG f (Lr f pl m) (pl - ((m : Int) + 1))) pl.toNat else Lr f pl m x) ∧ (if x = pl - ((m : Int) + 1) then 1 + mxS (rsG f (Lr f pl m) (pl - ((m : Int) + 1))) pl.toNat else Lr f pl m x) ≤ _
    have hm := mxS_r (g := rsG f (Lr f pl m) (pl - ((m : Int) + 1))) (B := (m : Int)) (by omega) pl.toNat (fun k k0 k1 => by
      unfold rsG
      split
      · exact (ih k).2
      · omega)
    split
    · omega
    · have := ih x
      omega
theorem Lr_out (f : Int → Int) (pl : Int) : ∀ (m : Nat) (x : Int), x < pl - m ∨ pl ≤ x → Lr f pl m x = 0
  | 0, x, _ => rfl
  | m + 1, x, h => by
    show (if x = pl - ((m : Int) + 1) then 1 + mxS (rsG f (Lr f pl m) (pl - ((m : Int) + 1))) pl.toNat else Lr f pl m x) = 0
    rw [if_neg (by omega)]
    exact Lr_out f pl m x (by omega)
/-- once laid it stays -/
theorem Lr_st (f : Int → Int) (pl : Int) (m : Nat) : ∀ (j : Nat) (x : Int), pl - m ≤ x → Lr f pl (m + j) x = Lr f pl m x
  | 0, x, _ => rfl
  | j + 1, x, h => by
    show (if x = pl - (((m + j : Nat) : Int) + 1) then _ else Lr f pl (m + j) x) = _
    rw [if_neg (by omega)]
    exact Lr_st f pl m j x h
def lmR (f : Int → Int) (pl : Int) : Nat → Int
  | 0 => 0
  | m + 1 => max (lmR f pl m) (Lr f pl (m + 1) (pl - ((m : Int) + 1)))
def rsR (f : Int → Int) (pl : Int) : Int → Int := Lr f pl pl.toNat
def rsT (f : Int → Int) (pl : Int) : Int := lmR f pl pl.toNat
theorem rsR_eq {f : Int → Int} {pl p : Int} (h0 : 0 ≤ p) (h1 : p < pl) : rsR f pl p = 1 + mxS (rsG f (rsR f pl) p) pl.toNat := by
  obtain ⟨m, hm⟩ : ∃ m : Nat, p = pl - ((m : Int) + 1) := ⟨(pl - p - 1).toNat, by omega⟩
  have e1 : rsR f pl p = Lr f pl (m + 1) p := by
    have := Lr_st f pl (m + 1) (pl.toNat - (m + 1)) p (by omega)
    rw [show m + 1 + (pl.toNat - (m + 1)) = pl.toNat by omega] at this
    exact this
  rw [e1]
  show (if p = pl - ((m : Int) + 1) then 1 + mxS (rsG f (Lr f pl m) (pl - ((m : Int) + 1))) pl.toNat else Lr f pl m p) = _
  rw [if_pos hm, ← hm]
  congr 1
  refine mxS_congr _ fun q q0 q1 => ?_
  unfold rsG
  by_cases h : p < q ∧ f p < f q
  · rw [if_pos h, if_pos h]
    have := Lr_st f pl m (pl.toNat - m) q (by omega)
    rw [show m + (pl.toNat - m) = pl.toNat by omega] at this
    exact this.symm
  · rw [if_neg h, if_neg h]
theorem lmR_le {f : Int → Int} {pl : Int} : ∀ (m : Nat) (p : Int), pl - m ≤ p → p < pl → Lr f pl m p ≤ lmR f pl m
  | 0, p, h0, h1 => by omega
  | m + 1, p, h0, h1 => by
    show _ ≤ max (lmR f pl m) (Lr f pl (m + 1) (pl - ((m : Int) + 1)))
    by_cases h : p = pl - ((m : Int) + 1)
    · rw [← h]; omega
    · have h2 := lmR_le (f := f) (pl := pl) m p (by omega) h1
      have h3 := Lr_st f pl m 1 p (by omega)
      omega
theorem lmR_ex {f : Int → Int} {pl : Int} : ∀ (m : Nat), lmR f pl m = 0 ∨ ∃ p : Int, pl - m ≤ p ∧ p < pl ∧ Lr f pl m p = lmR f pl m
  | 0 => Or.inl rfl
  | m + 1 => by
    show max (lmR f pl m) (Lr f pl (m + 1) (pl - ((m : Int) + 1))) = 0 ∨ ∃ p : Int, pl - ((m + 1 : Nat) : Int) ≤ p ∧ p < pl ∧ Lr f pl (m + 1) p = max (lmR f pl m) (Lr f pl (m + 1) (pl - ((m : Int) + 1)))
    by_cases h : Lr f pl (m + 1) (pl - ((m : Int) + 1)) ≤ lmR f pl m
    · rcases lmR_ex (f := f) (pl := pl) m with e | ⟨p, p0, p1, p2⟩
      · left; omega
      · right
        refine ⟨p, by omega, p1, ?_⟩
        have h3 := Lr_st f pl m 1 p (by omega)
        omega
    · right
      exact ⟨pl - ((m : Int) + 1), by omega, by omega, by omega⟩
theorem rsT_le {f : Int → Int} {pl p : Int} (h0 : 0 ≤ p) (h1 : p < pl) : rsR f pl p ≤ rsT f pl := lmR_le pl.toNat p (by omega) h1
theorem rsT_r {f : Int → Int} {pl : Int} (h0 : 0 ≤ pl) : 0 ≤ rsT f pl ∧ rsT f pl ≤ pl := by
  rcases lmR_ex (f := f) (pl := pl) pl.toNat with e | ⟨p, p0, p1, p2⟩
  · have : rsT f pl = 0 := e
    omega
  · have := Lr_r f pl pl.toNat p
    have : rsT f pl = Lr f pl pl.toNat p := p2.symm
    omega
/-- the k-th place of the first longest row -/
def rsP (f : Int → Int) (pl : Int) : Nat → Int
  | 0 => fstB (fun p => decide (rsR f pl p = rsT f pl)) pl.toNat
  | k + 1 => fstB (fun p => decide (rsP f pl k < p) && (decide (f (rsP f pl k) < f p) && decide (rsR f pl p = rsT f pl - ((k : Int) + 1)))) pl.toNat
theorem rsP_ok {f : Int → Int} {pl : Int} (h0 : 0 ≤ pl) : ∀ k : Nat, (k : Int) < rsT f pl → (0 ≤ rsP f pl k ∧ rsP f pl k < pl) ∧ rsR f pl (rsP f pl k) = rsT f pl - k
  | 0, hk => by
    have ex : ∃ p : Int, 0 ≤ p ∧ p < pl ∧ rsR f pl p = rsT f pl := by
      rcases lmR_ex (f := f) (pl := pl) pl.toNat with e | ⟨p, p0, p1, p2⟩
      · have : rsT f pl = 0 := e
        omega
      · exact ⟨p, by omega, p1, p2⟩
    obtain ⟨p, p0, p1, p2⟩ := ex
    rcases fstB_cases (fun p => decide (rsR f pl p = rsT f pl)) pl.toNat with ⟨a, b⟩ | ⟨a, b, c, d⟩
    · have := b p p0 (by omega)
      rw [decide_eq_true p2] at this
      cases this
    · refine ⟨⟨a, ?_⟩, ?_⟩
      · show fstB _ _ < pl
        omega
      · have := of_decide_eq_true c
        show rsR f pl (fstB (fun p => decide (rsR f pl p = rsT f pl)) pl.toNat) = _
        rw [this]
        omega
  | k + 1, hk => by
    obtain ⟨⟨i0, i1⟩, i2⟩ := rsP_ok (f := f) h0 k (by omega)
    have hR := rsR_eq (f := f) i0 i1
    have hmx : mxS (rsG f (rsR f pl) (rsP f pl k)) pl.toNat = rsT f pl - ((k : Int) + 1) := by omega
    have ex : ∃ p : Int, 0 ≤ p ∧ p < pl ∧ rsP f pl k < p ∧ f (rsP f pl k) < f p ∧ rsR f pl p = rsT f pl - ((k : Int) + 1) := by
      rcases mxS_ex (g := rsG f (rsR f pl) (rsP f pl k)) pl.toNat with e | ⟨p, p0, p1, p2⟩
      · omega
      · rw [hmx] at p2
        unfold rsG at p2
        by_cases q : rsP f pl k < p ∧ f (rsP f pl k) < f p
        · rw [if_pos q] at p2
          exact ⟨p, p0, by omega, q.1, q.2, p2⟩
        · rw [if_neg q] at p2
          omega
    obtain ⟨p, p0, p1, p2, p3, p4⟩ := ex
    rcases fstB_cases (fun p => decide (rsP f pl k < p) && (decide (f (rsP f pl k) < f p) && decide (rsR f pl p = rsT f pl - ((k : Int) + 1)))) pl.toNat with ⟨a, b⟩ | ⟨a, b, c, d⟩
    · have := b p p0 (by omega)
      rw [decide_eq_true p2, decide_eq_true p3, decide_eq_true p4] at this
      cases this
    · simp only [Bool.and_eq_true, decide_eq_true_eq] at c
      refine ⟨⟨a, ?_⟩, ?_⟩
      · show fstB _ _ < pl
        omega
      · show rsR f pl (fstB _ _) = _
        rw [c.2.2]
        omega
theorem rsP_up {f : Int → Int} {pl : Int} (h0 : 0 ≤ pl) {k : Nat} (hk : ((k + 1 : Nat) : Int) < rsT f pl) : rsP f pl k < rsP f pl (k + 1) ∧ f (rsP f pl k) < f (rsP f pl (k + 1)) := by
  have h1 := rsP_ok (f := f) h0 (k + 1) hk
  rcases fstB_cases (fun p => decide (rsP f pl k < p) && (decide (f (rsP f pl k) < f p) && decide (rsR f pl p = rsT f pl - ((k : Int) + 1)))) pl.toNat with ⟨a, b⟩ | ⟨a, b, c, d⟩
  · have : rsP f pl (k + 1) = -1 := a
    omega
  · simp only [Bool.and_eq_true, decide_eq_true_eq] at c
    exact ⟨c.1, c.2.1⟩
theorem rsP_l0 {f : Int → Int} {pl p : Int} (h : 0 < rsT f pl) (hp : 0 ≤ pl) (p0 : 0 ≤ p) (p1 : p < rsP f pl 0) : rsR f pl p ≠ rsT f pl := by
  have h1 := rsP_ok (f := f) hp 0 h
  rcases fstB_cases (fun p => decide (rsR f pl p = rsT f pl)) pl.toNat with ⟨a, b⟩ | ⟨a, b, c, d⟩
  · have : rsP f pl 0 = -1 := a
    omega
  · exact of_decide_eq_false (d p p0 p1)
theorem rsP_ls {f : Int → Int} {pl p : Int} {k : Nat} (h : ((k + 1 : Nat) : Int) < rsT f pl) (hp : 0 ≤ pl) (p0 : rsP f pl k < p) (p1 : p < rsP f pl (k + 1)) : ¬ (f (rsP f pl k) < f p ∧ rsR f pl p = rsT f pl - ((k : Int) + 1)) := by
  have h1 := rsP_ok (f := f) hp (k + 1) h
  have h2 := rsP_ok (f := f) hp k (by omega)
  rintro ⟨q1, q2⟩
  rcases fstB_cases (fun p => decide (rsP f pl k < p) && (decide (f (rsP f pl k) < f p) && decide (rsR f pl p = rsT f pl - ((k : Int) + 1)))) pl.toNat with ⟨a, b⟩ | ⟨a, b, c, d⟩
  · have : rsP f pl (k + 1) = -1 := a
    omega
  · have := d p (by omega) p1
    rw [decide_eq_true p0, decide_eq_true q1, decide_eq_true q2] at this
    cases this
-- the class
theorem longestRise_ok {G : Hp} {o : Int} {P : Int → Int} (hV : PaperV P) (ho : o = 7 ∨ o = 22) (hC : PaperC G o P) : ok (cX_longestRise o G) (fun x => x.1 = rsT (sl P 2) (P 0) ∧ (∀ p, 0 ≤ p → p < 10 → x.2 91 p = rsR (sl P 2) (P 0) p) ∧ ∀ a j, a ≠ 91 → x.2 a j = G a j) := by
  have h0 := hV.1
  unfold cX_longestRise
  refine ok_then clearRow_ok fun G1 hG1 => ?_
  have hC1 := hC.sq ho (sq91 hG1.2)
  rw [hC1.1.1, w32_id (by omega) (by omega)]
  refine lp_dn (fun n i (s : Int × Hp) => cX_longestRise_L13 o n s.1 i s.2) (fun i s => i ≤ P 0 - 1 ∧ s.1 = lmR (sl P 2) (P 0) (P 0 - 1 - i).toNat ∧ (∀ p, 0 ≤ p → p < 10 → s.2 91 p = Lr (sl P 2) (P 0) (P 0 - 1 - i).toNat p) ∧ ∀ a j, a ≠ 91 → s.2 a j = G a j) ?_ ?_ (by omega) (by omega) (s := (0, G1)) ⟨by omega, ?_, ?_, hG1.2⟩
  · intro n i s i0 hI ih
    obtain ⟨lg, G2⟩ := s
    obtain ⟨f0, f1, f2, f3⟩ := hI
    simp only at f1 f2 f3
    have hC2 := hC.sq ho (sq91 f3)
    have em : (P 0 - 1 - (i - 1)).toNat = (P 0 - 1 - i).toNat + 1 := by omega
    have ei : P 0 - (((P 0 - 1 - i).toNat : Int) + 1) = i := by omega
    have hLr := Lr_r (sl P 2) (P 0) (P 0 - 1 - i).toNat
    show ok (cX_longestRise_L13 o (n + 1) lg i G2) _
    rw [cX_longestRise_L13, if_neg (by omega), w32_id (z := i + 1) (by omega) (by omega)]
    refine lp_up (fun n2 j (s : Int) => cX_longestRise_L25 o lg i G2 (fun x4_74 => gd i 10 (gd i 10 (cX_longestRise_L13 o n (max lg ((upd2 G2 91 i (w32 (x4_74 + 1))) 91 i)) (w32 (i + (-1))) (upd2 G2 91 i (w32 (x4_74 + 1)))))) n2 s j) (P 0) (fun j s => i + 1 ≤ j ∧ s = mxS (rsG (sl P 2) (Lr (sl P 2) (P 0) (P 0 - 1 - i).toNat) i) j.toNat) ?_ ?_ (by omega) (by omega) (by omega) ⟨by omega, ?_⟩
    · intro n2 j s j0 j1 hs ih2
      obtain ⟨g0, g1⟩ := hs
      have hm := mxS_s (rsG (sl P 2) (Lr (sl P 2) (P 0) (P 0 - 1 - i).toNat) i) j0
      have hb := mxS_r (g := rsG (sl P 2) (Lr (sl P 2) (P 0) (P 0 - 1 - i).toNat) i) (B := 8) (by omega) j.toNat (fun k k0 k1 => by
        unfold rsG
        split
        · have := hLr k; omega
        · omega)
      rw [← g1] at hm hb
      show ok (cX_longestRise_L25 o lg i G2 _ (n2 + 1) s j) _
      rw [cX_longestRise_L25, hC2.1.1, if_pos j1, hC2.2.1.2 i i0 (by omega), hC2.2.1.2 j j0 (by omega), w32_id (z := j + 1) (by omega) (by omega), f2 j j0 (by omega)]
      refine ok_ite (fun e => ok_gd j0 (by omega) (ih2 _ ⟨by omega, ?_⟩)) (fun e => ih2 _ ⟨by omega, ?_⟩)
      · rw [hm]
        unfold rsG
        rw [if_pos ⟨by omega, e⟩]
      · rw [hm]
        unfold rsG
        rw [if_neg (fun z => e z.2)]
        omega
    · intro n2 s hs
      obtain ⟨g0, g1⟩ := hs
      have hb := mxS_r (g := rsG (sl P 2) (Lr (sl P 2) (P 0) (P 0 - 1 - i).toNat) i) (B := 8) (by omega) (P 0).toNat (fun k k0 k1 => by
        unfold rsG
        split
        · have := hLr k; omega
        · omega)
      rw [← g1] at hb
      show ok (cX_longestRise_L25 o lg i G2 _ (n2 + 1) s (P 0)) _
      rw [cX_longestRise_L25, hC2.1.1, if_neg (by omega), w32_id (z := s + 1) (by omega) (by omega), upd2_s, w32_id (by omega) (by omega)]
      have hnew : Lr (sl P 2) (P 0) ((P 0 - 1 - i).toNat + 1) i = s + 1 := by
        show (if i = P 0 - (((P 0 - 1 - i).toNat : Int) + 1) then 1 + mxS (rsG (sl P 2) (Lr (sl P 2) (P 0) (P 0 - 1 - i).toNat) (P 0 - (((P 0 - 1 - i).toNat : Int) + 1))) (P 0).toNat else Lr (sl P 2) (P 0) (P 0 - 1 - i).toNat i) = _
        rw [ei, if_pos rfl, ← g1]
        omega
      refine ok_gd i0 (by omega) (ok_gd i0 (by omega) (ih (_, upd2 G2 91 i (s + 1)) ⟨by omega, ?_, fun p p0 p1 => ?_, fun a j x => ?_⟩))
      · show max lg (s + 1) = _
        rw [em, f1, ← hnew]
        show _ = max (lmR (sl P 2) (P 0) (P 0 - 1 - i).toNat) (Lr (sl P 2) (P 0) ((P 0 - 1 - i).toNat + 1) (P 0 - (((P 0 - 1 - i).toNat : Int) + 1)))
        rw [ei]
      · show upd2 G2 91 i (s + 1) 91 p = _
        rw [em]
        by_cases hp : p = i
        · rw [upd2_e rfl hp, hp, hnew]
        · rw [upd2_o (by omega), f2 p p0 p1]
          show _ = (if p = P 0 - (((P 0 - 1 - i).toNat : Int) + 1) then _ else Lr (sl P 2) (P 0) (P 0 - 1 - i).toNat p)
          rw [ei, if_neg hp]
      · show upd2 G2 91 i (s + 1) a j = _
        rw [upd2_o (by omega)]
        exact f3 a j x
    · refine (mxS_0 _ fun k k0 k1 => ?_).symm
      unfold rsG
      rw [if_neg (by omega)]
  · intro n s hI
    obtain ⟨lg, G2⟩ := s
    obtain ⟨f0, f1, f2, f3⟩ := hI
    simp only at f1 f2 f3
    show ok (cX_longestRise_L13 o (n + 1) lg (-1) G2) _
    have e : (P 0 - 1 - (-1)).toNat = (P 0).toNat := by omega
    rw [e] at f1 f2
    rw [cX_longestRise_L13, if_pos (by omega)]
    exact ok_some ⟨f1, f2, f3⟩
  · show (0 : Int) = lmR _ _ (P 0 - 1 - (P 0 - 1)).toNat
    rw [show (P 0 - 1 - (P 0 - 1)).toNat = 0 by omega]
    rfl
  · intro p p0 p1
    show G1 91 p = Lr _ _ (P 0 - 1 - (P 0 - 1)).toNat p
    rw [show (P 0 - 1 - (P 0 - 1)).toNat = 0 by omega, hG1.1 p p0 p1]
    rfl
theorem riseAt_ok {G : Hp} {o k : Int} {P : Int → Int} (hV : PaperV P) (ho : o = 7 ∨ o = 22) (hC : PaperC G o P) : ok (cX_riseAt o k G) (fun x => x.1 = (if 0 ≤ k ∧ k < rsT (sl P 2) (P 0) then rsP (sl P 2) (P 0) k.toNat else -2) ∧ ∀ a j, a ≠ 91 → x.2 a j = G a j) := by
  have h0 := hV.1
  unfold cX_riseAt
  refine ok_then (longestRise_ok hV ho hC) fun x hx => ?_
  obtain ⟨hx1, hx2, hx3⟩ := hx
  have hC1 := hC.sq ho (sq91 hx3)
  have hT := rsT_r (f := sl P 2) h0.1
  have hf := hV.pv
  rw [hx1]
  refine ok_ite (fun e => ok_some ⟨by rw [if_neg (by omega)], hx3⟩) (fun e => ok_ite (fun e2 => ok_some ⟨by rw [if_neg (by omega)], hx3⟩) (fun e2 => ?_))
  rw [if_pos (by omega)]
  generalize hff : sl P 2 = f at *
  have hpok : ∀ j : Nat, (j : Int) ≤ k → (0 ≤ rsP f (P 0) j ∧ rsP f (P 0) j < P 0) ∧ rsR f (P 0) (rsP f (P 0) j) = rsT f (P 0) - j := fun j hj => rsP_ok h0.1 j (by omega)
  refine lp_up (fun n i (s : Int × Int × Int) => cX_riseAt_L30 o k (rsT f (P 0)) x.2 n s.1 s.2.1 s.2.2 i) (P 0) (fun i s => (s.1 = 0 ∧ s.2.1 = -1 ∧ s.2.2 = -1 ∧ i ≤ rsP f (P 0) 0) ∨ (∃ j : Nat, (j : Int) ≤ k ∧ s.1 = (j : Int) + 1 ∧ s.2.2 = rsP f (P 0) j ∧ s.2.1 = f (rsP f (P 0) j) ∧ rsP f (P 0) j < i ∧ (((j + 1 : Nat) : Int) ≤ k → i ≤ rsP f (P 0) (j + 1)))) ?_ ?_ (by omega) (by omega) (by omega) (s := (0, -1, -1)) (Or.inl ⟨rfl, rfl, rfl, (hpok 0 (by omega)).1.1⟩)
  · intro n i s i0 i1 hI ih
    obtain ⟨at', word, found⟩ := s
    have hfi := hf i i0 (by omega)
    show ok (cX_riseAt_L30 o k (rsT f (P 0)) x.2 (n + 1) at' word found i) _
    rw [cX_riseAt_L30, hC1.1.1, if_pos i1, hC1.2.1.2 i i0 (by omega), hx2 i i0 (by omega), w32_id (z := i + 1) (by omega) (by omega), hff]
    rcases hI with ⟨g1, g2, g3, g4⟩ | ⟨j, j0, g1, g2, g3, g4, g5⟩
    · simp only at g1 g2 g3
      subst g1 g2 g3
      rw [if_pos (by omega), if_pos (by omega), w32_id (z := 0 + 1) (by omega) (by omega), w32_id (z := rsT f (P 0) - 0) (by omega) (by omega)]
      have p0 := hpok 0 (by omega)
      refine ok_gd i0 (by omega) (ok_ite (fun e5 => ih (0 + 1, f i, i) (Or.inr ⟨0, by omega, rfl, ?_, ?_, ?_, fun h => ?_⟩)) (fun e5 => ih (0, -1, -1) (Or.inl ⟨rfl, rfl, rfl, ?_⟩)))
      · show i = _
        by_cases q : i = rsP f (P 0) 0
        · exact q
        · exact absurd (by omega) (rsP_l0 (by omega) h0.1 i0 (show i < rsP f (P 0) 0 by omega))
      · show f i = _
        by_cases q : i = rsP f (P 0) 0
        · rw [q]
        · exact absurd (by omega) (rsP_l0 (by omega) h0.1 i0 (show i < rsP f (P 0) 0 by omega))
      · by_cases q : i = rsP f (P 0) 0
        · omega
        · exact absurd (by omega) (rsP_l0 (by omega) h0.1 i0 (show i < rsP f (P 0) 0 by omega))
      · by_cases q : i = rsP f (P 0) 0
        · have := (rsP_up (f := f) h0.1 (k := 0) (by omega)).1
          omega
        · exact absurd (by omega) (rsP_l0 (by omega) h0.1 i0 (show i < rsP f (P 0) 0 by omega))
      · by_cases q : i = rsP f (P 0) 0
        · rw [q] at e5
          have := p0.2
          omega
        · omega
    · simp only at g1 g2 g3
      subst g1 g2 g3
      by_cases hle : ((j + 1 : Nat) : Int) ≤ k
      · have g5' := g5 hle
        have pn := hpok (j + 1) hle
        have pu := rsP_up (f := f) h0.1 (k := j) (by omega)
        rw [if_pos (by omega), w32_id (z := (j : Int) + 1 + 1) (by omega) (by omega), w32_id (z := rsT f (P 0) - ((j : Int) + 1)) (by omega) (by omega)]
        by_cases q : i = rsP f (P 0) (j + 1)
        · rw [if_pos (by rw [q]; exact pu.2)]
          refine ok_gd i0 (by omega) ?_
          rw [if_pos (by rw [q, pn.2]; omega)]
          refine ih ((j : Int) + 1 + 1, f i, i) (Or.inr ⟨j + 1, hle, ?_, q, ?_, by omega, fun h => ?_⟩)
          · show (j : Int) + 1 + 1 = _
            omega
          · show f i = _
            rw [q]
          · have := (rsP_up (f := f) h0.1 (k := j + 1) (by omega)).1
            omega
        · have nl := rsP_ls (f := f) (k := j) (by omega) h0.1 g4 (show i < rsP f (P 0) (j + 1) by omega)
          refine ok_ite (fun e5 => ok_gd i0 (by omega) (ok_ite (fun e6 => absurd ⟨e5, e6⟩ nl) (fun e6 => ?_))) (fun e5 => ?_)
          · exact ih ((j : Int) + 1, _, _) (Or.inr ⟨j, j0, rfl, rfl, rfl, by omega, fun h => by omega⟩)
          · exact ih ((j : Int) + 1, _, _) (Or.inr ⟨j, j0, rfl, rfl, rfl, by omega, fun h => by omega⟩)
      · rw [if_neg (by omega)]
        exact ih ((j : Int) + 1, _, _) (Or.inr ⟨j, j0, rfl, rfl, rfl, by omega, fun h => absurd h hle⟩)
  · intro n s hI
    obtain ⟨at', word, found⟩ := s
    show ok (cX_riseAt_L30 o k (rsT f (P 0)) x.2 (n + 1) at' word found (P 0)) _
    rw [cX_riseAt_L30, hC1.1.1, if_neg (by omega)]
    rcases hI with ⟨g1, g2, g3, g4⟩ | ⟨j, j0, g1, g2, g3, g4, g5⟩
    · have := (hpok 0 (by omega)).1
      omega
    · simp only at g2
      by_cases hle : ((j + 1 : Nat) : Int) ≤ k
      · have := g5 hle
        have := (hpok (j + 1) hle).1
        omega
      · refine ok_some ⟨?_, hx3⟩
        show found = _
        rw [g2, show k.toNat = j by omega]
-- the model
theorem laysRise_ok {G : Hp} {b : Int} {P f : Int → Int} (hV : PaperV P) (hM : MS P b G) (hG : ∀ p, 0 ≤ p → p < 8 → G 207 p = f p) : ok (mm_laysRise G) (fun x => x.1 = rsT f (P 0) ∧ (∀ p, 0 ≤ p → p < P 0 → x.2 219 p = rsR f (P 0) p) ∧ ∀ a j, a ≠ 219 → x.2 a j = G a j) := by
  have h0 := hV.1
  unfold mm_laysRise
  rw [hM.1.2.1, w32_id (by omega) (by omega)]
  refine lp_dn (fun n i (s : Int × Hp) => mm_laysRise_L9 n s.1 i s.2) (fun i s => i ≤ P 0 - 1 ∧ s.1 = lmR f (P 0) (P 0 - 1 - i).toNat ∧ (∀ p, i < p → p < P 0 → s.2 219 p = Lr f (P 0) (P 0 - 1 - i).toNat p) ∧ ∀ a j, a ≠ 219 → s.2 a j = G a j) ?_ ?_ (by omega) (by omega) (s := (0, G)) ⟨by omega, ?_, fun p p0 p1 => by omega, fun _ _ _ => rfl⟩
  · intro n i s i0 hI ih
    obtain ⟨lg, G2⟩ := s
    obtain ⟨f0, f1, f2, f3⟩ := hI
    simp only at f1 f2 f3
    have em : (P 0 - 1 - (i - 1)).toNat = (P 0 - 1 - i).toNat + 1 := by omega
    have ei : P 0 - (((P 0 - 1 - i).toNat : Int) + 1) = i := by omega
    have hLr := Lr_r f (P 0) (P 0 - 1 - i).toNat
    show ok (mm_laysRise_L9 (n + 1) lg i G2) _
    rw [mm_laysRise_L9, if_neg (by omega), w32_id (z := i + 1) (by omega) (by omega)]
    refine ok_gd i0 (by omega) ?_
    refine lp_up (fun n2 j (s : Hp) => mm_laysRise_L24 lg i (fun G_82 => gd i 8 (if lg < G_82 219 i then (gd i 8 (mm_laysRise_L9 n (G_82 219 i) (w32 (i + (-1))) G_82)) else mm_laysRise_L9 n lg (w32 (i + (-1))) G_82)) n2 j s) (P 0) (fun j s => i + 1 ≤ j ∧ s 219 i = 1 + mxS (rsG f (Lr f (P 0) (P 0 - 1 - i).toNat) i) j.toNat ∧ (∀ p, p ≠ i → s 219 p = G2 219 p) ∧ ∀ a j, a ≠ 219 → s a j = G2 a j) ?_ ?_ (by omega) (by omega) (by omega) ⟨by omega, ?_, fun p hp => upd2_o (by omega), fun a j x => upd2_o (by omega)⟩
    · intro n2 j s j0 j1 hs ih2
      obtain ⟨g0, g1, g2, g3⟩ := hs
      have hm := mxS_s (rsG f (Lr f (P 0) (P 0 - 1 - i).toNat) i) j0
      have hb := mxS_r (g := rsG f (Lr f (P 0) (P 0 - 1 - i).toNat) i) (B := 8) (by omega) j.toNat (fun k k0 k1 => by
        unfold rsG
        split
        · have := hLr k; omega
        · omega)
      have hj := g2 j (by omega)
      rw [f2 j (by omega) j1] at hj
      have hLj := hLr j
      have e207 : ∀ p, 0 ≤ p → p < 8 → s 207 p = f p := fun p p0 p1 => by rw [g3 _ _ (by omega), f3 _ _ (by omega)]; exact hG p p0 p1
      have e13 : s 201 13 = P 0 := by rw [g3 _ _ (by omega), f3 _ _ (by omega)]; exact hM.1.2.1
      show ok (mm_laysRise_L24 lg i _ (n2 + 1) j s) _
      rw [mm_laysRise_L24, e13, if_pos j1, e207 i i0 (by omega), e207 j j0 (by omega), w32_id (z := j + 1) (by omega) (by omega), hj, g1, w32_id (z := Lr f (P 0) (P 0 - 1 - i).toNat j + 1) (by omega) (by omega)]
      refine ok_gd j0 (by omega) (ok_gd i0 (by omega) (ok_ite (fun e => ok_gd j0 (by omega) (ok_gd i0 (by omega) (ok_ite (fun e2 => ok_gd j0 (by omega) (ok_gd i0 (by omega) (ih2 _ ⟨by omega, ?_, fun p hp => ?_, fun a j x => ?_⟩))) (fun e2 => ih2 s ⟨by omega, ?_, g2, g3⟩)))) (fun e => ih2 s ⟨by omega, ?_, g2, g3⟩)))
      · rw [upd2_s, hm]
        unfold rsG at *
        rw [if_pos ⟨by omega, e⟩]
        omega
      · rw [upd2_o (by omega)]
        exact g2 p hp
      · rw [upd2_o (by omega)]
        exact g3 a j x
      · rw [g1, hm]
        unfold rsG at *
        rw [if_pos ⟨by omega, e⟩]
        omega
      · rw [g1, hm]
        unfold rsG at *
        rw [if_neg (fun z => e z.2)]
        omega
    · intro n2 s hs
      obtain ⟨g0, g1, g2, g3⟩ := hs
      have e13 : s 201 13 = P 0 := by rw [g3 _ _ (by omega), f3 _ _ (by omega)]; exact hM.1.2.1
      show ok (mm_laysRise_L24 lg i _ (n2 + 1) (P 0) s) _
      have hnew : Lr f (P 0) ((P 0 - 1 - i).toNat + 1) i = s 219 i := by
        show (if i = P 0 - (((P 0 - 1 - i).toNat : Int) + 1) then 1 + mxS (rsG f (Lr f (P 0) (P 0 - 1 - i).toNat) (P 0 - (((P 0 - 1 - i).toNat : Int) + 1))) (P 0).toNat else Lr f (P 0) (P 0 - 1 - i).toNat i) = _
        rw [ei, if_pos rfl, g1]
      have harr : ∀ p, i - 1 < p → p < P 0 → s 219 p = Lr f (P 0) (P 0 - 1 - (i - 1)).toNat p := by
        intro p p0 p1
        rw [em]
        by_cases hp : p = i
        · rw [hp, hnew]
        · rw [g2 p hp, f2 p (by omega) p1]
          show _ = (if p = P 0 - (((P 0 - 1 - i).toNat : Int) + 1) then _ else Lr f (P 0) (P 0 - 1 - i).toNat p)
          rw [ei, if_neg hp]
      have hlm : lmR f (P 0) (P 0 - 1 - (i - 1)).toNat = max lg (s 219 i) := by
        rw [em, f1, ← hnew]
        show max (lmR f (P 0) (P 0 - 1 - i).toNat) (Lr f (P 0) ((P 0 - 1 - i).toNat + 1) (P 0 - (((P 0 - 1 - i).toNat : Int) + 1))) = _
        rw [ei]
      rw [mm_laysRise_L24, e13, if_neg (by omega), w32_id (by omega) (by omega)]
      refine ok_gd i0 (by omega) (ok_ite (fun e => ok_gd i0 (by omega) (ih (_, s) ⟨by omega, ?_, harr, fun a j x => ?_⟩)) (fun e => ih (lg, s) ⟨by omega, ?_, harr, fun a j x => ?_⟩))
      · show s 219 i = _
        rw [hlm]; omega
      · exact (g3 a j x).trans (f3 a j x)
      · show lg = _
        rw [hlm]; omega
      · exact (g3 a j x).trans (f3 a j x)
    · rw [upd2_s, mxS_0 _ fun k k0 k1 => ?_]
      · rfl
      · unfold rsG
        rw [if_neg (by omega)]
  · intro n s hI
    obtain ⟨lg, G2⟩ := s
    obtain ⟨f0, f1, f2, f3⟩ := hI
    simp only at f1 f2 f3
    show ok (mm_laysRise_L9 (n + 1) lg (-1) G2) _
    have e : (P 0 - 1 - (-1)).toNat = (P 0).toNat := by omega
    rw [e] at f1 f2
    rw [mm_laysRise_L9, if_pos (by omega)]
    exact ok_some ⟨f1, fun p p0 p1 => f2 p (by omega) p1, f3⟩
  · show (0 : Int) = lmR _ _ (P 0 - 1 - (P 0 - 1)).toNat
    rw [show (P 0 - 1 - (P 0 - 1)).toNat = 0 by omega]
    rfl
theorem mriseAt_ok {G : Hp} {b k : Int} {P f : Int → Int} (hV : PaperV P) (hM : MS P b G) (hG : ∀ p, 0 ≤ p → p < 8 → G 207 p = f p) (k0 : 0 ≤ k) : ok (mm_riseAt k G) (fun x => x.1 = (if 0 ≤ k ∧ k < rsT f (P 0) then rsP f (P 0) k.toNat else -2) ∧ Mq G x.2) := by
  have h0 := hV.1
  unfold mm_riseAt
  refine ok_then (laysRise_ok hV hM hG) fun x hx => ?_
  obtain ⟨hx1, hx2, hx3⟩ := hx
  have hT := rsT_r (f := f) h0.1
  have hq : Mq G x.2 := Mq.fr fun j => ⟨hx3 _ _ (by omega), hx3 _ _ (by omega)⟩
  have hG2 : ∀ p, 0 ≤ p → p < 8 → x.2 207 p = f p := fun p p0 p1 => by rw [hx3 _ _ (by omega)]; exact hG p p0 p1
  rw [hx1]
  refine ok_ite (fun e => ok_some ⟨by rw [if_neg (by omega)], hq⟩) (fun e => ?_)
  rw [if_pos (by omega)]
  have hpok : ∀ j : Nat, (j : Int) ≤ k → (0 ≤ rsP f (P 0) j ∧ rsP f (P 0) j < P 0) ∧ rsR f (P 0) (rsP f (P 0) j) = rsT f (P 0) - j := fun j hj => rsP_ok h0.1 j (by omega)
  refine lp_up (fun n i (s : Int) => mm_riseAt_L18 k (rsT f (P 0)) x.2 n s i) (k + 1) (fun i s => s = if i = 0 then -1 else rsP f (P 0) (i - 1).toNat) ?_ ?_ (by omega) (by omega) (by omega) (by rw [if_pos rfl])
  · intro n i s i0 i1 hs ih
    have pi := hpok i.toNat (by omega)
    show ok (mm_riseAt_L18 k (rsT f (P 0)) x.2 (n + 1) s i) _
    have hs1 : -1 ≤ s ∧ s + 1 ≤ rsP f (P 0) i.toNat := by
      by_cases q : i = 0
      · rw [if_pos q] at hs
        rw [q] at pi
        have : (0 : Int).toNat = 0 := rfl
        rw [q, this]
        rw [this] at pi
        omega
      · rw [if_neg q] at hs
        have h1 := hpok (i - 1).toNat (by omega)
        have h2 := (rsP_up (f := f) h0.1 (k := (i - 1).toNat) (by omega)).1
        rw [show (i - 1).toNat + 1 = i.toNat by omega] at h2
        omega
    rw [mm_riseAt_L18, if_pos (by omega), w32_id (z := s + 1) (by omega) (by omega), w32_id (z := i + 1) (by omega) (by omega)]
    refine lp_up (fun n2 p (_ : Unit) => mm_riseAt_L29 k (rsT f (P 0)) s i x.2 (fun x5_70 => mm_riseAt_L18 k (rsT f (P 0)) x.2 n x5_70 (i + 1)) n2 p) (rsP f (P 0) i.toNat) (fun p _ => s + 1 ≤ p) ?_ ?_ (by omega) (by omega) hs1.2 (s := ()) (by omega)
    · intro n2 p u p0 p1 hp ih2
      show ok (mm_riseAt_L29 k (rsT f (P 0)) s i x.2 _ (n2 + 1) p) _
      rw [mm_riseAt_L29, hx2 p p0 (by omega), w32_id (z := rsT f (P 0) - i) (by omega) (by omega), w32_id (z := p + 1) (by omega) (by omega)]
      refine ok_gd p0 (by omega) (ok_ite (fun e1 => ok_ite (fun e2 => ?_) (fun e2 => ok_gd p0 (by omega) (ok_gd (by omega) (by omega) (ok_ite (fun e3 => ih2 () (by omega)) (fun e3 => ?_))))) (fun e1 => ih2 () (by omega)))
      · exfalso
        by_cases q : i = 0
        · subst q
          exact rsP_l0 (f := f) (by omega) h0.1 p0 p1 (by omega)
        · rw [if_neg q] at hs
          have h1 := hpok (i - 1).toNat (by omega)
          omega
      · exfalso
        by_cases q : i = 0
        · rw [if_pos q] at hs
          exact e2 hs
        · rw [if_neg q] at hs
          have h1 := hpok (i - 1).toNat (by omega)
          rw [hG2 p p0 (by omega), hG2 s (by omega) (by omega), hs] at e3
          refine rsP_ls (f := f) (pl := P 0) (p := p) (k := (i - 1).toNat) (by omega) h0.1 (by omega) ?_ ⟨by omega, by omega⟩
          rw [show (i - 1).toNat + 1 = i.toNat by omega]
          exact p1
    · intro n2 u hp
      show ok (mm_riseAt_L29 k (rsT f (P 0)) s i x.2 _ (n2 + 1) (rsP f (P 0) i.toNat)) _
      rw [mm_riseAt_L29, hx2 _ pi.1.1 pi.1.2, w32_id (z := rsT f (P 0) - i) (by omega) (by omega)]
      have nxt : ok (mm_riseAt_L18 k (rsT f (P 0)) x.2 n (rsP f (P 0) i.toNat) (i + 1)) (fun x => x.1 = rsP f (P 0) k.toNat ∧ Mq G x.2) := by
        refine ih _ ?_
        rw [if_neg (by omega), show (i + 1 - 1).toNat = i.toNat by omega]
      refine ok_gd pi.1.1 (by omega) ?_
      rw [if_pos (by rw [pi.2]; omega)]
      refine ok_ite (fun e2 => nxt) (fun e2 => ok_gd pi.1.1 (by omega) (ok_gd (by omega) (by omega) ?_))
      by_cases q : i = 0
      · rw [if_pos q] at hs
        exact absurd hs e2
      · rw [if_neg q] at hs
        have h1 := hpok (i - 1).toNat (by omega)
        have h2 := (rsP_up (f := f) h0.1 (k := (i - 1).toNat) (by omega)).2
        rw [show (i - 1).toNat + 1 = i.toNat by omega] at h2
        rw [hG2 _ pi.1.1 (by omega), hG2 s (by omega) (by omega), hs, if_neg (by omega)]
        exact nxt
  · intro n s hs
    show ok (mm_riseAt_L18 k (rsT f (P 0)) x.2 (n + 1) s (k + 1)) _
    rw [mm_riseAt_L18, if_neg (by omega)]
    refine ok_some ⟨?_, hq⟩
    show s = _
    rw [hs, if_neg (by omega), show (k + 1 - 1).toNat = k.toNat by omega]
