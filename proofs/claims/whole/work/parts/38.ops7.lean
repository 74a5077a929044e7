-- desks
def dv (n : Int) : Nat → Int → Int
  | 0, x => x
  | k + 1, x => dv n k x / n
theorem dv_r {n x : Int} (hn : 1 ≤ n) (hx : 0 ≤ x) : ∀ k : Nat, 0 ≤ dv n k x ∧ dv n k x ≤ x
  | 0 => ⟨hx, Int.le_refl x⟩
  | k + 1 => by
    have ih := dv_r hn hx k
    have h1 : 0 ≤ dv n k x / n := Int.ediv_nonneg ih.1 (by omega)
    have h2 : dv n k x / n ≤ dv n k x := Int.ediv_le_self n ih.1
    show 0 ≤ dv n k x / n ∧ dv n k x / n ≤ x
    omega
/-- at which desk one is, by a number -/
def dk (rd n x r : Int) : Int := dv n (rd - 1 - r).toNat x % n
theorem dk_r {rd n x r : Int} (hn : 1 ≤ n) : 0 ≤ dk rd n x r ∧ dk rd n x r < n := ⟨Int.emod_nonneg _ (by omega), Int.emod_lt_of_pos _ (by omega)⟩
theorem deskOf_ok {G : Hp} {o n x r : Int} {P : Int → Int} (hV : PaperV P) (hC : PaperC G o P) (hn : 1 ≤ n) (hn3 : n ≤ 3) (hx : 0 ≤ x) (hx2 : x ≤ 2000) (r0 : 0 ≤ r) (r1 : r < P 1) : cX_deskOf o n x r G = some (dk (P 1) n x r) := by
  apply ok_iff
  unfold cX_deskOf
  have h1 := hV.2.1
  rw [hC.1.2, w32_id (by omega) (by omega)]
  have main : ∀ (m k : Nat) (i y : Int), m < k → i - r = m → y = dv n (P 1 - 1 - i).toNat x → i ≤ P 1 - 1 → ok (cX_deskOf_L11 o n x r G (fun x4_33 => if 0 < n then (nz n (some (irem x4_33 n))) else some 0) k y i) (fun v => v = dk (P 1) n x r) := by
    intro m
    induction m with
    | zero =>
      intro k i y hk hi hy hi2
      obtain ⟨k', rfl⟩ : ∃ k', k = k' + 1 := ⟨k - 1, by omega⟩
      have hd := dv_r hn hx (P 1 - 1 - i).toNat
      rw [cX_deskOf_L11, if_neg (by omega), if_pos (by omega)]
      refine ok_nz (by omega) (ok_some ?_)
      rw [hy, irem_nn hd.1]
      unfold dk
      rw [show i = r by omega]
    | succ m ih =>
      intro k i y hk hi hy hi2
      obtain ⟨k', rfl⟩ : ∃ k', k = k' + 1 := ⟨k - 1, by omega⟩
      have hd := dv_r hn hx (P 1 - 1 - i).toNat
      rw [cX_deskOf_L11, if_pos (by omega), if_pos (by omega)]
      refine ok_nz (by omega) ?_
      rw [w32_id (by omega) (by omega), idiv_nn (by omega) (by omega) (by omega)]
      refine ih k' (i + -1) _ (by omega) (by omega) ?_ (by omega)
      rw [show (P 1 - 1 - (i + -1)).toNat = (P 1 - 1 - i).toNat + 1 by omega, hy]
      rfl
  refine main (P 1 - 1 - r).toNat FU (P 1 - 1) x (by show (P 1 - 1 - r).toNat < 100000; omega) (by omega) ?_ (by omega)
  rw [show (P 1 - 1 - (P 1 - 1)).toNat = 0 by omega]
  rfl
theorem mdeskOf_ok {G : Hp} {b n x r : Int} {P : Int → Int} (hV : PaperV P) (hM : MS P b G) (hn : 1 ≤ n) (hn3 : n ≤ 3) (hx : 0 ≤ x) (hx2 : x ≤ 2000) (r0 : 0 ≤ r) (r1 : r < P 1) : mm_deskOf x n r G = some (dk (P 1) n x r) := by
  apply ok_iff
  unfold mm_deskOf
  have h1 := hV.2.1
  rw [hM.1.2.2, w32_id (by omega) (by omega)]
  have main : ∀ (m k : Nat) (i y : Int), m < k → i - r = m → y = dv n (P 1 - 1 - i).toNat x → i ≤ P 1 - 1 → ok (mm_deskOf_L11 x n r G k y i) (fun v => v = dk (P 1) n x r) := by
    intro m
    induction m with
    | zero =>
      intro k i y hk hi hy hi2
      obtain ⟨k', rfl⟩ : ∃ k', k = k' + 1 := ⟨k - 1, by omega⟩
      have hd := dv_r hn hx (P 1 - 1 - i).toNat
      rw [mm_deskOf_L11, if_neg (by omega)]
      refine ok_nz (by omega) (ok_some ?_)
      rw [hy, irem_nn hd.1]
      unfold dk
      rw [show i = r by omega]
    | succ m ih =>
      intro k i y hk hi hy hi2
      obtain ⟨k', rfl⟩ : ∃ k', k = k' + 1 := ⟨k - 1, by omega⟩
      have hd := dv_r hn hx (P 1 - 1 - i).toNat
      rw [mm_deskOf_L11, if_pos (by omega)]
      refine ok_nz (by omega) ?_
      rw [w32_id (by omega) (by omega), idiv_nn (by omega) (by omega) (by omega)]
      refine ih k' (i + -1) _ (by omega) (by omega) ?_ (by omega)
      rw [show (P 1 - 1 - (i + -1)).toNat = (P 1 - 1 - i).toNat + 1 by omega, hy]
      rfl
  refine main (P 1 - 1 - r).toNat FU (P 1 - 1) x (by show (P 1 - 1 - r).toNat < 100000; omega) (by omega) ?_ (by omega)
  rw [show (P 1 - 1 - (P 1 - 1)).toNat = 0 by omega]
  rfl
/-- what one adds to a desk; the days of a desk; the longest -/
def ld1 (P : Int → Int) (n x d r : Int) : Int := if dk (P 1) n x r = d then P (21 + 2 * r) else 0
def ldD (P : Int → Int) (n x d : Int) : Int := sm (ld1 P n x d) (P 1).toNat
def mx3 (g : Int → Int) : Int := max (max (g 0) (g 1)) (g 2)
def lgD (P : Int → Int) (n x : Int) : Int := mx3 (ldD P n x)
theorem ld1_r {P : Int → Int} (hV : PaperV P) {n x d r : Int} (r0 : 0 ≤ r) (r1 : r < 6) : 0 ≤ ld1 P n x d r ∧ ld1 P n x d r ≤ 9 := by
  have := hV.2.2.2.2.1 r r0 r1
  unfold ld1
  split <;> omega
theorem ldS_r {P : Int → Int} (hV : PaperV P) (n x d : Int) : ∀ k : Nat, k ≤ 6 → 0 ≤ sm (ld1 P n x d) k ∧ sm (ld1 P n x d) k ≤ 9 * k
  | 0, _ => ⟨Int.le_refl 0, Int.le_refl 0⟩
  | k + 1, h => by
    have ih := ldS_r hV n x d k (by omega)
    have h1 := ld1_r hV (n := n) (x := x) (d := d) (r := (k : Int)) (by omega) (by omega)
    show 0 ≤ sm (ld1 P n x d) k + ld1 P n x d (k : Int) ∧ sm (ld1 P n x d) k + ld1 P n x d (k : Int) ≤ 9 * ((k + 1 : Nat) : Int)
    omega
theorem ldS_mono {P : Int → Int} (hV : PaperV P) (n x d : Int) {i j : Nat} (hij : i ≤ j) (hj : j ≤ 6) : sm (ld1 P n x d) i ≤ sm (ld1 P n x d) j := by
  obtain ⟨m, rfl⟩ : ∃ m, j = i + m := ⟨j - i, by omega⟩
  induction m with
  | zero => exact Int.le_refl _
  | succ m ih =>
    have h1 := ld1_r hV (n := n) (x := x) (d := d) (r := ((i + m : Nat) : Int)) (by omega) (by omega)
    have ih2 := ih (by omega) (by omega)
    show _ ≤ sm (ld1 P n x d) (i + m) + ld1 P n x d ((i + m : Nat) : Int)
    omega
/-- one desk grows -/
theorem mx3_up {g h : Int → Int} {d a : Int} (d0 : 0 ≤ d) (d1 : d < 3) (ha : 0 ≤ a) (h1 : h d = g d + a) (h2 : ∀ e, 0 ≤ e → e < 3 → e ≠ d → h e = g e) : mx3 h = max (mx3 g) (h d) := by
  have : d = 0 ∨ d = 1 ∨ d = 2 := by omega
  unfold mx3
  rcases this with rfl | rfl | rfl
  · rw [h2 1 (by omega) (by omega) (by omega), h2 2 (by omega) (by omega) (by omega)]
    omega
  · rw [h2 0 (by omega) (by omega) (by omega), h2 2 (by omega) (by omega) (by omega)]
    omega
  · rw [h2 0 (by omega) (by omega) (by omega), h2 1 (by omega) (by omega) (by omega)]
    omega
theorem longestDesk_ok {G : Hp} {o n x : Int} {P : Int → Int} (hV : PaperV P) (ho : o = 7 ∨ o = 22) (hC : PaperC G o P) (hn : 1 ≤ n) (hn3 : n ≤ 3) (hx : 0 ≤ x) (hx2 : x ≤ 2000) : ok (cX_longestDesk o n x G) (fun v => v.1 = lgD P n x ∧ ∀ a j, a ≠ 91 → v.2 a j = G a j) := by
  unfold cX_longestDesk
  have h1 := hV.2.1
  refine ok_then clearRow_ok fun G1 hG1 => ?_
  have hC1 := hC.sq ho (sq91 hG1.2)
  rw [hC1.1.2, w32_id (by omega) (by omega)]
  refine lp_dn (fun k i (s : Int × Int × Hp) => cX_longestDesk_L18 o n x k s.1 s.2.1 i s.2.2) (fun i s => i ≤ P 1 - 1 ∧ s.1 = dv n (P 1 - 1 - i).toNat x ∧ s.2.1 = mx3 (fun d => ldD P n x d - sm (ld1 P n x d) (i + 1).toNat) ∧ (∀ d, 0 ≤ d → d < 3 → s.2.2 91 d = ldD P n x d - sm (ld1 P n x d) (i + 1).toNat) ∧ ∀ a j, a ≠ 91 → s.2.2 a j = G a j) ?_ ?_ (by omega) (by omega) (s := (x, 0, G1)) ⟨by omega, ?_, ?_, ?_, hG1.2⟩
  · intro k i s i0 hI ih
    obtain ⟨rest, lg, G2⟩ := s
    obtain ⟨f0, f1, f2, f3, f4⟩ := hI
    simp only at f1 f2 f3 f4
    have hC2 := hC.sq ho (sq91 f4)
    have hd := dv_r hn hx (P 1 - 1 - i).toNat
    have hk := dk_r (rd := P 1) (n := n) (x := x) (r := i) hn
    have e1 : irem rest n = dk (P 1) n x i := by
      rw [f1, irem_nn hd.1]
      rfl
    have e3 := f3 (dk (P 1) n x i) hk.1 (by omega)
    have hdy := (hC2.2.2.2.2.1 i i0 (by omega)).2
    have hl1 : ld1 P n x (dk (P 1) n x i) i = P (21 + 2 * i) := if_pos rfl
    have hs : ∀ d, sm (ld1 P n x d) (i + 1).toNat = sm (ld1 P n x d) i.toNat + ld1 P n x d i := fun d => sm_s _ i0
    have hdv := hV.2.2.2.2.1 i i0 (by omega)
    have hb1 := ldS_r hV n x (dk (P 1) n x i) (P 1).toNat (by omega)
    have hb2 := ldS_r hV n x (dk (P 1) n x i) i.toNat (by omega)
    have hb0 : ldD P n x (dk (P 1) n x i) = sm (ld1 P n x (dk (P 1) n x i)) (P 1).toNat := rfl
    have hval : G2 91 (dk (P 1) n x i) + P (21 + 2 * i) = ldD P n x (dk (P 1) n x i) - sm (ld1 P n x (dk (P 1) n x i)) i.toNat := by
      rw [e3, hs, hl1]
      omega
    show ok (cX_longestDesk_L18 o n x (k + 1) rest lg i G2) _
    rw [cX_longestDesk_L18, if_neg (by omega), if_pos (by omega), if_pos (by omega), e1, hdy, hval, w32_id (z := ldD P n x (dk (P 1) n x i) - sm (ld1 P n x (dk (P 1) n x i)) i.toNat) (by omega) (by omega), upd2_s, w32_id (by omega) (by omega), idiv_nn (by omega) (by omega) (by omega)]
    refine ok_nz (by omega) (ok_nz (by omega) (ok_gd hk.1 (by omega) (ok_gd i0 (by omega) (ok_gd hk.1 (by omega) (ok_gd hk.1 (by omega) ?_)))))
    have hoth : ∀ d, d ≠ dk (P 1) n x i → ld1 P n x d i = 0 := fun d hd2 => if_neg (fun z => hd2 z.symm)
    have ei : i - 1 + 1 = i := by omega
    refine ih (_, _, upd2 G2 91 (dk (P 1) n x i) (ldD P n x (dk (P 1) n x i) - sm (ld1 P n x (dk (P 1) n x i)) i.toNat)) ⟨by omega, ?_, ?_, fun d d0 d1 => ?_, fun a j y => ?_⟩
    · show rest / n = _
      rw [show (P 1 - 1 - (i - 1)).toNat = (P 1 - 1 - i).toNat + 1 by omega, f1]
      rfl
    · show max lg (ldD P n x (dk (P 1) n x i) - sm (ld1 P n x (dk (P 1) n x i)) i.toNat) = _
      rw [f2, ei]
      refine (mx3_up (g := fun d => ldD P n x d - sm (ld1 P n x d) (i + 1).toNat) (h := fun d => ldD P n x d - sm (ld1 P n x d) i.toNat) (d := dk (P 1) n x i) (a := P (21 + 2 * i)) hk.1 (by omega) hdv.2.2.1 ?_ fun d d0 d1 d2 => ?_).symm
      · show ldD P n x (dk (P 1) n x i) - sm (ld1 P n x (dk (P 1) n x i)) i.toNat = ldD P n x (dk (P 1) n x i) - sm (ld1 P n x (dk (P 1) n x i)) (i + 1).toNat + P (21 + 2 * i)
        rw [hs, hl1]
        omega
      · show ldD P n x d - sm (ld1 P n x d) i.toNat = ldD P n x d - sm (ld1 P n x d) (i + 1).toNat
        rw [hs, hoth d d2]
        omega
    · show upd2 G2 91 _ _ 91 d = _
      rw [ei]
      by_cases hq : d = dk (P 1) n x i
      · rw [upd2_e rfl hq, hq]
      · rw [upd2_o (by omega), f3 d d0 d1, hs, hoth d hq]
        omega
    · show upd2 G2 91 _ _ a j = _
      rw [upd2_o (by omega)]
      exact f4 a j y
  · intro k s hI
    obtain ⟨rest, lg, G2⟩ := s
    obtain ⟨f0, f1, f2, f3, f4⟩ := hI
    simp only at f1 f2 f3 f4
    show ok (cX_longestDesk_L18 o n x (k + 1) rest lg (-1) G2) _
    rw [cX_longestDesk_L18, if_pos (by omega)]
    refine ok_some ⟨?_, f4⟩
    show lg = _
    rw [f2]
    have e : (fun d => ldD P n x d - sm (ld1 P n x d) (-1 + 1 : Int).toNat) = ldD P n x := by
      funext d
      show ldD P n x d - 0 = _
      omega
    rw [e]
    rfl
  · show x = dv n (P 1 - 1 - (P 1 - 1)).toNat x
    rw [show (P 1 - 1 - (P 1 - 1)).toNat = 0 by omega]
    rfl
  · show (0 : Int) = _
    rw [show P 1 - 1 + 1 = P 1 by omega]
    have e : (fun d => ldD P n x d - sm (ld1 P n x d) (P 1).toNat) = fun _ => 0 := by
      funext d
      show ldD P n x d - ldD P n x d = 0
      omega
    rw [e]
    rfl
  · intro d d0 d1
    show G1 91 d = _
    rw [hG1.1 d d0 (by omega), show P 1 - 1 + 1 = P 1 by omega]
    show 0 = ldD P n x d - ldD P n x d
    omega
theorem longest_ok {G : Hp} {b n x : Int} {P : Int → Int} (hV : PaperV P) (hM : MS P b G) (hn : 1 ≤ n) (hn3 : n ≤ 3) (hx : 0 ≤ x) (hx2 : x ≤ 2000) : ok (mm_longest x n G) (fun v => v.1 = lgD P n x ∧ ∀ a j, a ≠ 215 → v.2 a j = G a j) := by
  unfold mm_longest
  have h1 := hV.2.1
  refine lp_up (fun k i (s : Hp) => mm_longest_L2 x n (fun G_20 => mm_longest_L25 x n FU 0 0 G_20) k i s) 3 (fun i G1 => (∀ d, 0 ≤ d → d < i → G1 215 d = 0) ∧ ∀ a j, a ≠ 215 → G1 a j = G a j) ?_ ?_ (by omega) (by omega) (by omega) ⟨fun w w0 w1 => by omega, fun _ _ _ => rfl⟩
  · intro k i G1 i0 i1 hI ih
    show ok (mm_longest_L2 x n _ (k + 1) i G1) _
    rw [mm_longest_L2, if_pos i1, gd_ok i0 i1, w32_id (by omega) (by omega)]
    refine ih _ ⟨fun w w0 w1 => ?_, fun a j y => ?_⟩
    · by_cases hw : w = i
      · rw [upd2_e rfl hw]
      · rw [upd2_o (by omega)]
        exact hI.1 w w0 (by omega)
    · rw [upd2_o (by omega)]
      exact hI.2 a j y
  · intro k G1 hI
    show ok (mm_longest_L2 x n _ (k + 1) 3 G1) _
    rw [mm_longest_L2, if_neg (by omega)]
    refine lp_up (fun k i (s : Int × Hp) => mm_longest_L25 x n k s.1 i s.2) (P 1) (fun i s => s.1 = mx3 (fun d => sm (ld1 P n x d) i.toNat) ∧ (∀ d, 0 ≤ d → d < 3 → s.2 215 d = sm (ld1 P n x d) i.toNat) ∧ ∀ a j, a ≠ 215 → s.2 a j = G a j) ?_ ?_ (by omega) (by omega) (by omega) (s := (0, G1)) ⟨rfl, hI.1, hI.2⟩
    · intro k i s i0 i1 hI2 ih
      obtain ⟨lg, G2⟩ := s
      obtain ⟨f2, f3, f4⟩ := hI2
      simp only at f2 f3 f4
      have hM2 : MS P b G2 := hM.fr (fun j hj => f4 _ _ (by omega)) (fun j => f4 _ _ (by omega))
      have hk := dk_r (rd := P 1) (n := n) (x := x) (r := i) hn
      have e3 := f3 (dk (P 1) n x i) hk.1 (by omega)
      have hl1 : ld1 P n x (dk (P 1) n x i) i = P (21 + 2 * i) := if_pos rfl
      have hs : ∀ d, sm (ld1 P n x d) (i + 1).toNat = sm (ld1 P n x d) i.toNat + ld1 P n x d i := fun d => sm_s _ i0
      have hdv := hV.2.2.2.2.1 i i0 (by omega)
      have hb2 := ldS_r hV n x (dk (P 1) n x i) i.toNat (by omega)
      have hval : G2 215 (dk (P 1) n x i) + P (21 + 2 * i) = sm (ld1 P n x (dk (P 1) n x i)) (i + 1).toNat := by
        rw [e3, hs, hl1]
      have hb3 := ldS_r hV n x (dk (P 1) n x i) (i + 1).toNat (by omega)
      show ok (mm_longest_L25 x n (k + 1) lg i G2) _
      rw [mm_longest_L25, hM2.1.2.2, if_pos i1, mdeskOf_ok hV hM2 hn hn3 hx hx2 i0 i1, Option.bind_some, days_ok hM2 i0 (by omega), Option.bind_some, hval, w32_id (z := sm (ld1 P n x (dk (P 1) n x i)) (i + 1).toNat) (by omega) (by omega), upd2_s, w32_id (z := i + 1) (by omega) (by omega)]
      have hoth : ∀ d, d ≠ dk (P 1) n x i → ld1 P n x d i = 0 := fun d hd2 => if_neg (fun z => hd2 z.symm)
      have hmx : mx3 (fun d => sm (ld1 P n x d) (i + 1).toNat) = max lg (sm (ld1 P n x (dk (P 1) n x i)) (i + 1).toNat) := by
        rw [f2]
        refine mx3_up (g := fun d => sm (ld1 P n x d) i.toNat) (h := fun d => sm (ld1 P n x d) (i + 1).toNat) (d := dk (P 1) n x i) (a := P (21 + 2 * i)) hk.1 (by omega) hdv.2.2.1 ?_ fun d d0 d1 d2 => ?_
        · show sm (ld1 P n x (dk (P 1) n x i)) (i + 1).toNat = sm (ld1 P n x (dk (P 1) n x i)) i.toNat + P (21 + 2 * i)
          rw [hs, hl1]
        · show sm (ld1 P n x d) (i + 1).toNat = sm (ld1 P n x d) i.toNat
          rw [hs, hoth d d2]
          omega
      have nxt : ∀ lg2 : Int, lg2 = max lg (sm (ld1 P n x (dk (P 1) n x i)) (i + 1).toNat) → ok (mm_longest_L25 x n k lg2 (i + 1) (upd2 G2 215 (dk (P 1) n x i) (sm (ld1 P n x (dk (P 1) n x i)) (i + 1).toNat))) (fun v => v.1 = lgD P n x ∧ ∀ a j, a ≠ 215 → v.2 a j = G a j) := by
        intro lg2 h2
        refine ih (lg2, upd2 G2 215 (dk (P 1) n x i) (sm (ld1 P n x (dk (P 1) n x i)) (i + 1).toNat)) ⟨by rw [hmx]; exact h2, fun d d0 d1 => ?_, fun a j y => ?_⟩
        · show upd2 G2 215 _ _ 215 d = _
          by_cases hq : d = dk (P 1) n x i
          · rw [upd2_e rfl hq, hq]
          · rw [upd2_o (by omega), f3 d d0 d1, hs, hoth d hq]
            omega
        · show upd2 G2 215 _ _ a j = _
          rw [upd2_o (by omega)]
          exact f4 a j y
      refine ok_gd hk.1 (by omega) (ok_gd hk.1 (by omega) (ok_gd hk.1 (by omega) (ok_ite (fun e => ok_gd hk.1 (by omega) (nxt _ ?_)) (fun e => nxt _ ?_))))
      · omega
      · omega
    · intro k s hI2
      obtain ⟨lg, G2⟩ := s
      obtain ⟨f2, f3, f4⟩ := hI2
      simp only at f2 f3 f4
      have hM2 : MS P b G2 := hM.fr (fun j hj => f4 _ _ (by omega)) (fun j => f4 _ _ (by omega))
      show ok (mm_longest_L25 x n (k + 1) lg (P 1) G2) _
      rw [mm_longest_L25, hM2.1.2.2, if_neg (by omega)]
      exact ok_some ⟨f2, f4⟩
/-- as many rows of desks -/
def pwD (n : Int) : Nat → Int
  | 0 => 1
  | k + 1 => pwD n k * n
theorem pwD_b : ∀ n : Fin 4, ∀ k : Fin 7, 0 ≤ pwD (n.val : Int) k.val ∧ pwD (n.val : Int) k.val ≤ 729 ∧ (n.val = 0 ∨ 1 ≤ pwD (n.val : Int) k.val) := by decide
theorem pwD_r {n : Int} {k : Nat} (n0 : 1 ≤ n) (n1 : n ≤ 3) (hk : k ≤ 6) : 1 ≤ pwD n k ∧ pwD n k ≤ 729 := by
  have := pwD_b ⟨n.toNat, by omega⟩ ⟨k, by omega⟩
  have e : (((⟨n.toNat, by omega⟩ : Fin 4).val : Nat) : Int) = n := by show ((n.toNat : Nat) : Int) = n; omega
  rw [e] at this
  obtain ⟨a, b, c⟩ := this
  have c2 : n.toNat = 0 ∨ 1 ≤ pwD n k := c
  refine ⟨c2.resolve_left (by omega), b⟩
theorem pwD_s (n : Int) {i : Int} (h : 0 ≤ i) : pwD n (i + 1).toNat = pwD n i.toNat * n := by
  have e : (i + 1).toNat = i.toNat + 1 := by omega
  rw [e]
  rfl
theorem op13 : Op13 Inv := by
  intro Gc Gm hI a1 a2 a3 r1 r2 r3
  have hC : CInv Gc (Gm 202) (Gm 203) := hI
  by_cases hk : 0 ≤ a1 ∧ a1 < Gm 202 0
  · obtain ⟨hp, hk2⟩ := paperAt_yes hC hk.1 hk.2
    obtain ⟨hV, hP⟩ := hC.paper hk2
    have hyes := isPaper_yes hC.av hk.1 hk.2
    generalize ct 80 (Gm 202) (pb a1) = P at *
    have h0 := hV.1
    have h1 := hV.2.1
    have ho := o_or hk2
    generalize 7 + 15 * a1 = o at *
    have o0 : ¬ o < 0 := by omega
    by_cases hr : (1 ≤ a2 ∧ a2 ≤ 3) ∧ (a3 = -1 ∨ (0 ≤ a3 ∧ a3 < P 1))
    · obtain ⟨⟨n0, n1⟩, hk3⟩ := hr
      have hpw := pwD_r (n := a2) (k := (P 1).toNat) n0 n1 (by omega)
      have hbr := mnI_r (lgD P a2) (pwD a2 (P 1).toNat - 1).toNat
      refine op_q hI (if a3 = -1 then lgD P a2 (mnI (lgD P a2) (pwD a2 (P 1).toNat - 1).toNat) else dk (P 1) a2 (mnI (lgD P a2) (pwD a2 (P 1).toNat - 1).toNat) a3) ?_ ?_
      · unfold cX_desks
        rw [hp, Option.bind_some, if_neg o0, if_pos n0, if_pos n1, if_pos (by omega), hP.1.2, if_neg (by omega)]
        refine lp_up (fun n i (x : Int) => cX_desks_L44 a1 a2 a3 o Gc (fun x5_66 => cX_desks_L76 a1 a2 a3 o x5_66 (fun x6_115 x7_115 G_115 => if a3 = (-1) then some (x7_115, G_115) else ((cX_deskOf o a2 x6_115 a3 G_115).bind fun v131 => some (v131, G_115))) FU 0 55 0 Gc) n x i) (P 1) (fun i x => x = pwD a2 i.toNat) ?_ ?_ (by omega) (by omega) (by omega) rfl
        · intro n i x i0 i1 hx ih
          show ok (cX_desks_L44 a1 a2 a3 o Gc _ (n + 1) x i) _
          have hb := pwD_r (n := a2) (k := (i + 1).toNat) n0 n1 (by omega)
          have hs := pwD_s a2 i0
          rw [cX_desks_L44, hP.1.2, if_pos i1, hx, ← hs, w32_id (z := i + 1) (by omega) (by omega), w32_id (by omega) (by omega)]
          exact ih _ rfl
        · intro n x hx
          show ok (cX_desks_L44 a1 a2 a3 o Gc _ (n + 1) x (P 1)) _
          rw [cX_desks_L44, hP.1.2, if_neg (by omega), hx]
          refine lp_up (fun n i (s : Int × Int × Hp) => cX_desks_L76 a1 a2 a3 o (pwD a2 (P 1).toNat) (fun x6_115 x7_115 G_115 => if a3 = (-1) then some (x7_115, G_115) else ((cX_deskOf o a2 x6_115 a3 G_115).bind fun v131 => some (v131, G_115))) n s.1 s.2.1 i s.2.2) (pwD a2 (P 1).toNat) (fun i s => (i = 0 ∧ s.1 = 0 ∧ s.2.1 = 55 ∨ 1 ≤ i ∧ s.1 = mnI (lgD P a2) (i - 1).toNat ∧ s.2.1 = lgD P a2 s.1) ∧ ∀ a j, a ≠ 91 → s.2.2 a j = Gc a j) ?_ ?_ (by omega) (by omega) (by omega) (s := (0, 55, Gc)) ⟨Or.inl ⟨rfl, rfl, rfl⟩, fun _ _ _ => rfl⟩
          · intro n i s i0 i1 hI2 ih
            obtain ⟨best, soon, G1⟩ := s
            obtain ⟨f1, f2⟩ := hI2
            simp only at f1 f2
            have hP2 := hP.sq ho (sq91 f2)
            show ok (cX_desks_L76 a1 a2 a3 o _ _ (n + 1) best soon i G1) _
            rw [cX_desks_L76, if_pos i1, w32_id (by omega) (by omega)]
            refine ok_then (longestDesk_ok hV ho hP2 n0 n1 i0 (by omega)) fun y hy => ?_
            have hfr : ∀ a j, a ≠ 91 → y.2 a j = Gc a j := fun a j q => (hy.2 a j q).trans (f2 a j q)
            rw [hy.1]
            have hlb : lgD P a2 i ≤ 54 := by
              have b0 := ldS_r hV a2 i 0 (P 1).toNat (by omega)
              have b1 := ldS_r hV a2 i 1 (P 1).toNat (by omega)
              have b2 := ldS_r hV a2 i 2 (P 1).toNat (by omega)
              have c0 : ldD P a2 i 0 = sm (ld1 P a2 i 0) (P 1).toNat := rfl
              have c1 : ldD P a2 i 1 = sm (ld1 P a2 i 1) (P 1).toNat := rfl
              have c2 : ldD P a2 i 2 = sm (ld1 P a2 i 2) (P 1).toNat := rfl
              unfold lgD mx3
              omega
            rcases f1 with ⟨g0, g1, g2⟩ | ⟨g0, g1, g2⟩
            · rw [if_pos (by omega)]
              refine ih (i, _, y.2) ⟨Or.inr ⟨by omega, ?_, rfl⟩, hfr⟩
              show i = mnI (lgD P a2) (i + 1 - 1).toNat
              rw [g0]
              rfl
            · have hs := mnI_s (lgD P a2) g0
              rw [← g1] at hs
              refine ok_ite (fun e => ih (i, _, y.2) ⟨Or.inr ⟨by omega, ?_, rfl⟩, hfr⟩) (fun e => ih (best, soon, y.2) ⟨Or.inr ⟨by omega, ?_, g2⟩, hfr⟩)
              · show i = _
                rw [hs, if_pos (by omega)]
              · show best = _
                rw [hs, if_neg (by omega)]
          · intro n s hI2
            obtain ⟨best, soon, G1⟩ := s
            obtain ⟨f1, f2⟩ := hI2
            simp only at f1 f2
            have hP2 := hP.sq ho (sq91 f2)
            have hC2 := hC.sq (sq91 f2)
            show ok (cX_desks_L76 a1 a2 a3 o _ _ (n + 1) best soon (pwD a2 (P 1).toNat) G1) _
            rw [cX_desks_L76, if_neg (by omega)]
            rcases f1 with ⟨g0, g1, g2⟩ | ⟨g0, g1, g2⟩
            · omega
            · refine ok_ite (fun e => ok_some ⟨?_, hC2⟩) (fun e => ?_)
              · show soon = _
                rw [if_pos e, g2, g1]
              · rw [deskOf_ok hV hP2 n0 n1 (by omega) (by omega) (by omega) (by omega), Option.bind_some]
                refine ok_some ⟨?_, hC2⟩
                rw [if_neg e, g1]
      · unfold mm_desks
        refine ok_then hyes fun r hr2 => ?_
        obtain ⟨e1, e2, e3, e4⟩ := hr2
        have hM := e2.1
        rw [e1, if_tt, isIn_eq, decide_eq_true ⟨n0, n1⟩, if_tt]
        have key : ok (mm_desks_j32 a1 a2 a3 r.2) (fun v => v.1 = (if a3 = -1 then lgD P a2 (mnI (lgD P a2) (pwD a2 (P 1).toNat - 1).toNat) else dk (P 1) a2 (mnI (lgD P a2) (pwD a2 (P 1).toNat - 1).toNat) a3) ∧ v.2 202 = Gm 202 ∧ v.2 203 = Gm 203) := by
          unfold mm_desks_j32
          refine lp_up (fun n i (x : Int) => mm_desks_L38 a1 a2 a3 r.2 (fun x4_59 => mm_desks_L65 a1 a2 a3 x4_59 (fun x5_99 G_99 => if a3 = (-1) then ((mm_longest x5_99 a2 G_99).bind fun r108 => some (r108.1, r108.2)) else ((mm_deskOf x5_99 a2 a3 G_99).bind fun v119 => some (v119, G_99))) FU 0 1 r.2) n x i) (P 1) (fun i x => x = pwD a2 i.toNat) ?_ ?_ (by omega) (by omega) (by omega) rfl
          · intro n i x i0 i1 hx ih
            show ok (mm_desks_L38 a1 a2 a3 r.2 _ (n + 1) x i) _
            have hb := pwD_r (n := a2) (k := (i + 1).toNat) n0 n1 (by omega)
            have hs := pwD_s a2 i0
            rw [mm_desks_L38, hM.1.2.2, if_pos i1, hx, ← hs, w32_id (z := i + 1) (by omega) (by omega), w32_id (by omega) (by omega)]
            exact ih _ rfl
          · intro n x hx
            show ok (mm_desks_L38 a1 a2 a3 r.2 _ (n + 1) x (P 1)) _
            rw [mm_desks_L38, hM.1.2.2, if_neg (by omega), hx]
            refine lp_up (fun n i (s : Int × Hp) => mm_desks_L65 a1 a2 a3 (pwD a2 (P 1).toNat) (fun x5_99 G_99 => if a3 = (-1) then ((mm_longest x5_99 a2 G_99).bind fun r108 => some (r108.1, r108.2)) else ((mm_deskOf x5_99 a2 a3 G_99).bind fun v119 => some (v119, G_99))) n s.1 i s.2) (pwD a2 (P 1).toNat) (fun i s => 1 ≤ i ∧ s.1 = mnI (lgD P a2) (i - 1).toNat ∧ ∀ a j, a ≠ 215 → s.2 a j = r.2 a j) ?_ ?_ (by omega) (by omega) (by omega) (s := (0, r.2)) ⟨by omega, rfl, fun _ _ _ => rfl⟩
            · intro n i s i0 i1 hI2 ih
              obtain ⟨best, G1⟩ := s
              obtain ⟨g0, g1, f2⟩ := hI2
              simp only at g1 f2
              have hb := mnI_r (lgD P a2) (i - 1).toNat
              have hs := mnI_s (lgD P a2) g0
              rw [← g1] at hs hb
              have hM2 : MS P (pb a1) G1 := hM.fr (fun j hj => f2 _ _ (by omega)) (fun j => f2 _ _ (by omega))
              show ok (mm_desks_L65 a1 a2 a3 _ _ (n + 1) best i G1) _
              rw [mm_desks_L65, if_pos i1, w32_id (by omega) (by omega)]
              refine ok_then (longest_ok hV hM2 n0 n1 i0 (by omega)) fun y hy => ?_
              have hM3 : MS P (pb a1) y.2 := hM2.fr (fun j hj => hy.2 _ _ (by omega)) (fun j => hy.2 _ _ (by omega))
              refine ok_then (longest_ok hV hM3 n0 n1 (x := best) (by omega) (by omega)) fun z hz => ?_
              have hfr : ∀ a j, a ≠ 215 → z.2 a j = r.2 a j := fun a j q => (hz.2 a j q).trans ((hy.2 a j q).trans (f2 a j q))
              rw [hy.1, hz.1]
              refine ok_ite (fun e => ih (i, z.2) ⟨by omega, ?_, hfr⟩) (fun e => ih (best, z.2) ⟨by omega, ?_, hfr⟩)
              · show i = _
                rw [hs, if_pos e]
              · show best = _
                rw [hs, if_neg e]
            · intro n s hI2
              obtain ⟨best, G1⟩ := s
              obtain ⟨g0, g1, f2⟩ := hI2
              simp only at g1 f2
              have hM2 : MS P (pb a1) G1 := hM.fr (fun j hj => f2 _ _ (by omega)) (fun j => f2 _ _ (by omega))
              have hq1 : Mq Gm G1 := Mq.trans ⟨e3, e4⟩ (Mq.fr fun j => ⟨f2 _ _ (by omega), f2 _ _ (by omega)⟩)
              show ok (mm_desks_L65 a1 a2 a3 _ _ (n + 1) best (pwD a2 (P 1).toNat) G1) _
              rw [mm_desks_L65, if_neg (by omega)]
              refine ok_ite (fun e => ok_then (longest_ok hV hM2 n0 n1 (x := best) (by omega) (by omega)) fun y hy => ok_some ⟨?_, ?_⟩) (fun e => ?_)
              · rw [if_pos e, hy.1, g1]
              · exact hq1.trans (Mq.fr fun j => ⟨hy.2 _ _ (by omega), hy.2 _ _ (by omega)⟩)
              · rw [mdeskOf_ok hV hM2 n0 n1 (by omega) (by omega) (by omega) (by omega), Option.bind_some]
                refine ok_some ⟨?_, hq1⟩
                rw [if_neg e, g1]
        refine ok_ite (fun e => key) (fun e => ?_)
        rw [isReader_ok hV hM, Option.bind_some, decide_eq_true (by omega), if_tt]
        exact key
    · refine op_q hI (-1) ?_ ?_
      · unfold cX_desks
        rw [hp, Option.bind_some, if_neg o0, hP.1.2]
        refine ok_ite (fun g0 => ok_ite (fun g1 => ok_ite (fun g2 => ok_ite (fun g3 => ok_some ⟨rfl, hC⟩) (fun g3 => absurd ⟨⟨g0, g1⟩, by omega⟩ hr)) (fun _ => ok_some ⟨rfl, hC⟩)) (fun _ => ok_some ⟨rfl, hC⟩)) (fun _ => ok_some ⟨rfl, hC⟩)
      · unfold mm_desks
        refine ok_then hyes fun r hr2 => ?_
        obtain ⟨e1, e2, e3, e4⟩ := hr2
        rw [e1, if_tt, isIn_eq]
        by_cases g0 : 1 ≤ a2 ∧ a2 ≤ 3
        · rw [decide_eq_true g0, if_tt, if_neg (fun z => hr ⟨g0, Or.inl z⟩), isReader_ok hV e2.1, Option.bind_some, decide_eq_false (fun z => hr ⟨g0, Or.inr z⟩), if_ff]
          exact ok_some ⟨rfl, e3, e4⟩
        · rw [decide_eq_false g0, if_ff]
          exact ok_some ⟨rfl, e3, e4⟩
  · refine op_q hI (-1) ?_ ?_
    · unfold cX_desks
      rw [paperAt_no hC hk, Option.bind_some, if_pos (by omega)]
      exact ok_some ⟨rfl, hC⟩
    · unfold mm_desks
      rw [isPaper_no hC.av hk, Option.bind_some, if_ff]
      exact ok_some ⟨rfl, rfl, rfl⟩
