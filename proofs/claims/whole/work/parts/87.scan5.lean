-- texts: which line; what one wants stands beside what is read
def lnW (s x : Int) : Int := if s = 0 then (if 1 ≤ x ∧ x ≤ 4 then x + 5 else -1) else if s = 1 then (if 5 ≤ x ∧ x ≤ 10 then x - 5 else -1) else (if x = 11 then 10 else -1)
theorem lineOf_ok {n s w q : Int} {T : Int → Int} {C G : Hp} (hL : Live n T w q C G) : cSc_lineOf s C = some (if tkT n T q = 1 then lnW s (wcT T q (teT n T q)) else -1) := by
  obtain ⟨⟨tC, tM⟩, ⟨⟨q0, qn⟩, ⟨t9, t7, t8, t10⟩, -⟩, -⟩ := hL
  have hn := tC.1.2
  have hte := te_r (T := T) q0 qn hn
  unfold cSc_lineOf
  rw [t8]
  by_cases h : tkT n T q = 1
  · have hlet : ∀ j, q ≤ j → j < teT n T q → ltT n T j = true := by
      have hq : ¬ n ≤ q := fun e => by have := (tk_r n T q).2.2.mpr e; omega
      have hl : ltT n T q = true := by
        unfold tkT at h
        rw [if_neg hq] at h
        by_cases el : ltT n T q = true
        · exact el
        · rw [if_neg el] at h
          split at h
          · split at h <;> omega
          · split at h <;> omega
      have e : teT n T q = nx (ltT n T) q := by unfold teT; rw [if_neg hq, if_pos hl]
      rw [e]
      exact (nx_lt (T := T) q0 qn hn).2.2.2
    have sp : ∀ i : Nat, i < 11 → cSc_spells i C = some (decide (wcT T q (teT n T q) = (i : Int) + 1)) := fun i hi => spells_ok hi tC q0 hte.1 hte.2.1 t9 t7 hlet
    rw [if_pos h, if_pos h, sp 0 (by omega), sp 1 (by omega), sp 2 (by omega), sp 3 (by omega), sp 4 (by omega), sp 5 (by omega), sp 6 (by omega), sp 7 (by omega), sp 8 (by omega), sp 9 (by omega), sp 10 (by omega)]
    simp only [Option.bind_some, decide_eq_true_eq]
    unfold lnW
    generalize wcT T q (teT n T q) = x
    by_cases s0 : s = 0
    · rw [if_pos s0, if_pos s0]
      by_cases x1 : x = 1
      · rw [if_pos (show x = ((0 : Nat) : Int) + 1 by omega), if_pos (by omega), x1]; rfl
      rw [if_neg (show ¬ x = ((0 : Nat) : Int) + 1 by omega)]
      by_cases x2 : x = 2
      · rw [if_pos (show x = ((1 : Nat) : Int) + 1 by omega), if_pos (by omega), x2]; rfl
      rw [if_neg (show ¬ x = ((1 : Nat) : Int) + 1 by omega)]
      by_cases x3 : x = 3
      · rw [if_pos (show x = ((2 : Nat) : Int) + 1 by omega), if_pos (by omega), x3]; rfl
      rw [if_neg (show ¬ x = ((2 : Nat) : Int) + 1 by omega)]
      by_cases x4 : x = 4
      · rw [if_pos (show x = ((3 : Nat) : Int) + 1 by omega), if_pos (by omega), x4]; rfl
      rw [if_neg (show ¬ x = ((3 : Nat) : Int) + 1 by omega), if_neg (by omega)]
    · rw [if_neg s0, if_neg s0]
      by_cases s1 : s = 1
      · rw [if_pos s1, if_pos s1]
        by_cases x1 : x = 5
        · rw [if_pos (show x = ((4 : Nat) : Int) + 1 by omega), if_pos (by omega), x1]; rfl
        rw [if_neg (show ¬ x = ((4 : Nat) : Int) + 1 by omega)]
        by_cases x2 : x = 6
        · rw [if_pos (show x = ((5 : Nat) : Int) + 1 by omega), if_pos (by omega), x2]; rfl
        rw [if_neg (show ¬ x = ((5 : Nat) : Int) + 1 by omega)]
        by_cases x3 : x = 7
        · rw [if_pos (show x = ((6 : Nat) : Int) + 1 by omega), if_pos (by omega), x3]; rfl
        rw [if_neg (show ¬ x = ((6 : Nat) : Int) + 1 by omega)]
        by_cases x4 : x = 8
        · rw [if_pos (show x = ((7 : Nat) : Int) + 1 by omega), if_pos (by omega), x4]; rfl
        rw [if_neg (show ¬ x = ((7 : Nat) : Int) + 1 by omega)]
        by_cases x5 : x = 9
        · rw [if_pos (show x = ((8 : Nat) : Int) + 1 by omega), if_pos (by omega), x5]; rfl
        rw [if_neg (show ¬ x = ((8 : Nat) : Int) + 1 by omega)]
        by_cases x6 : x = 10
        · rw [if_pos (show x = ((9 : Nat) : Int) + 1 by omega), if_pos (by omega), x6]; rfl
        rw [if_neg (show ¬ x = ((9 : Nat) : Int) + 1 by omega), if_neg (by omega)]
      · rw [if_neg s1, if_neg s1]
        by_cases x1 : x = 11
        · rw [if_pos (show x = ((10 : Nat) : Int) + 1 by omega), if_pos x1]
        · rw [if_neg (show ¬ x = ((10 : Nat) : Int) + 1 by omega), if_neg x1]
  · rw [if_neg h, if_neg h]
/-- the model looks for a word -/
theorem wordIn_ok {n w q a b : Int} {T : Int → Int} {C G : Hp} (hL : Live n T w q C G) (ha : 1 ≤ a) (hb : b ≤ 11) : mm_wordIn a b G = if tkT n T q = 1 ∧ a ≤ wcT T q (teT n T q) ∧ wcT T q (teT n T q) ≤ b then ((mm_advance G).bind fun G39 => some (wcT T q (teT n T q), G39)) else some (0, en G) := by
  obtain ⟨-, ⟨-, -, g4, g3, g5, g6, g7⟩, ⟨-, -, h8, -⟩, -⟩ := hL
  unfold mm_wordIn mm_wordIn_j27
  rw [if_pos h8, g5]
  have hm := (mk_1 n T q).2.2.1
  by_cases h3 : mkT n T q = 3
  · obtain ⟨h1, h99⟩ := hm.mp h3
    rw [if_pos h3, isIn_eq, g7 h1]
    by_cases hi : a ≤ wcT T q (teT n T q) ∧ wcT T q (teT n T q) ≤ b
    · rw [decide_eq_true hi, if_tt, if_pos ⟨h1, hi⟩]
    · rw [decide_eq_false hi, if_ff, if_neg (fun z => hi z.2), ends_0 h8, Option.bind_some]
  · rw [if_neg h3, ends_0 h8, Option.bind_some, if_neg]
    intro z
    exact h3 (hm.mpr ⟨z.1, by omega⟩)
theorem en8 (G : Hp) : en G 201 8 = 1 ∧ en G 202 5 = 1 ∧ en G 202 6 = G 201 4 := by
  unfold en
  exact ⟨by rw [upd2_o (by omega), upd2_o (by omega), upd2_s], by rw [upd2_o (by omega), upd2_s], upd2_s⟩
theorem endsLine_1 {G : Hp} (h : G 201 8 = 1) : mm_endsLine G = some G := by
  unfold mm_endsLine mm_endsLine_j22
  rw [if_neg (by omega), ends_1 h, Option.bind_some]
theorem bndS {α : Type} (X : Option α) : (X.bind fun x => some x) = X := by cases X <;> rfl
-- what is written beside does not hang on what is read
section COMM
variable {j s : Int}
theorem U_cm {G : Hp} {x v : Int} (h : x ≠ j) : upd2 (upd2 G 201 j s) 201 x v = upd2 (upd2 G 201 x v) 201 j s := by
  funext a b
  unfold upd2
  by_cases y : a = 201 ∧ b = x
  · rw [if_pos y, if_neg (by omega), if_pos y]
  · rw [if_neg y]
    by_cases z : a = 201 ∧ b = j
    · rw [if_pos z, if_pos z]
    · rw [if_neg z, if_neg z, if_neg y]
theorem U_cm2 {G : Hp} {x v : Int} : upd2 (upd2 G 201 j s) 202 x v = upd2 (upd2 G 202 x v) 201 j s := by
  funext a b
  unfold upd2
  by_cases y : a = 202 ∧ b = x
  · rw [if_pos y, if_neg (by omega), if_pos y]
  · rw [if_neg y]
    by_cases z : a = 201 ∧ b = j
    · rw [if_pos z, if_pos z]
    · rw [if_neg z, if_neg z, if_neg y]
def MU (j s : Int) (X : Option Hp) : Option Hp := X.bind fun G' => some (upd2 G' 201 j s)
theorem byte_U {G : Hp} {p : Int} (hj : j = 9 ∨ j = 10) : mm_byteAt p (upd2 G 201 j s) = mm_byteAt p G := by
  unfold mm_byteAt
  rw [upd2_o (by omega), upd2_o (by omega)]
theorem L0_U {k : Hp → Option Hp} (hj : j = 9 ∨ j = 10) (hk : ∀ G, k (upd2 G 201 j s) = MU j s (k G)) : ∀ (n : Nat) (G : Hp), mm_advance_L0 k n (upd2 G 201 j s) = MU j s (mm_advance_L0 k n G)
  | 0, _ => rfl
  | n + 1, G => by
    rw [mm_advance_L0, mm_advance_L0, upd2_o (show ¬ ((201 : Int) = 201 ∧ (3 : Int) = j) by omega), byte_U hj]
    cases mm_byteAt (G 201 3) G with
    | none => rfl
    | some v =>
      rw [Option.bind_some, Option.bind_some, Option.bind_some, Option.bind_some, U_cm (j := j) (s := s) (by omega), L0_U hj hk n, hk]
      by_cases h : v = 10
      · rw [if_pos h, if_pos h]
      · rw [if_neg h, if_neg h]
        by_cases h2 : v = 32
        · rw [if_pos h2, if_pos h2]
        · rw [if_neg h2, if_neg h2]
theorem L77_U {k : Int → Hp → Option Hp} (hj : j = 9 ∨ j = 10) (hk : ∀ x G, k x (upd2 G 201 j s) = MU j s (k x G)) : ∀ (n : Nat) (x : Int) (G : Hp), mm_advance_L77 k n x (upd2 G 201 j s) = MU j s (mm_advance_L77 k n x G)
  | 0, _, _ => rfl
  | n + 1, x, G => by
    rw [mm_advance_L77, mm_advance_L77, upd2_o (show ¬ ((201 : Int) = 201 ∧ (3 : Int) = j) by omega), byte_U hj, upd2_o (show ¬ ((201 : Int) = 201 ∧ (4 : Int) = j) by omega)]
    cases mm_byteAt (G 201 3) G with
    | none => rfl
    | some v =>
      rw [Option.bind_some, Option.bind_some, Option.bind_some, Option.bind_some, U_cm (j := j) (s := s) (by omega), L77_U hj hk n, L77_U hj hk n, hk]
      by_cases h : mm_isLetter v = true
      · rw [if_pos h, if_pos h]
        by_cases h2 : w32 (G 201 3 - G 201 4) < 8
        · rw [if_pos h2, if_pos h2]
        · rw [if_neg h2, if_neg h2]
      · rw [if_neg h, if_neg h]
theorem L198_U {k : Hp → Option Hp} (hj : j = 9 ∨ j = 10) (hk : ∀ G, k (upd2 G 201 j s) = MU j s (k G)) : ∀ (n : Nat) (G : Hp), mm_advance_L198 k n (upd2 G 201 j s) = MU j s (mm_advance_L198 k n G)
  | 0, _ => rfl
  | n + 1, G => by
    rw [mm_advance_L198, mm_advance_L198, upd2_o (show ¬ ((201 : Int) = 201 ∧ (3 : Int) = j) by omega), byte_U hj, upd2_o (show ¬ ((201 : Int) = 201 ∧ (4 : Int) = j) by omega), upd2_o (show ¬ ((201 : Int) = 201 ∧ (6 : Int) = j) by omega)]
    cases mm_byteAt (G 201 3) G with
    | none => rfl
    | some v =>
      have e : ∀ y, upd2 (upd2 G 201 j s) 201 6 y = upd2 (upd2 G 201 6 y) 201 j s := fun y => U_cm (j := j) (s := s) (by omega)
      have e3 : ∀ y, upd2 (upd2 G 201 6 y) 201 j s 201 3 = upd2 G 201 6 y 201 3 := fun y => upd2_o (by omega)
      rw [Option.bind_some, Option.bind_some, Option.bind_some, Option.bind_some, e, e3, U_cm (j := j) (s := s) (x := 3) (by omega), U_cm (j := j) (s := s) (x := 3) (by omega), L198_U hj hk n, L198_U hj hk n, hk]
      by_cases h : mm_isDigit v = true
      · rw [if_pos h, if_pos h]
        by_cases h2 : w32 (G 201 3 - G 201 4) < 2
        · rw [if_pos h2, if_pos h2]
        · rw [if_neg h2, if_neg h2]
      · rw [if_neg h, if_neg h]
theorem adv_U {G : Hp} (hj : j = 9 ∨ j = 10) : mm_advance (upd2 G 201 j s) = MU j s (mm_advance G) := by
  unfold mm_advance
  refine L0_U hj (fun G => ?_) FU G
  have e3 : upd2 G 201 j s 201 3 = G 201 3 := upd2_o (by omega)
  have e4 : ∀ y, upd2 (upd2 G 201 j s) 201 4 y = upd2 (upd2 G 201 4 y) 201 j s := fun y => U_cm (j := j) (s := s) (by omega)
  show ((mm_byteAt (upd2 (upd2 G 201 j s) 201 4 (upd2 G 201 j s 201 3) 201 3) (upd2 (upd2 G 201 j s) 201 4 (upd2 G 201 j s 201 3))).bind _) = MU j s ((mm_byteAt (upd2 G 201 4 (G 201 3) 201 3) (upd2 G 201 4 (G 201 3))).bind _)
  rw [e3, e4]
  generalize upd2 G 201 4 (G 201 3) = G1
  have f3 : upd2 G1 201 j s 201 3 = G1 201 3 := upd2_o (by omega)
  rw [f3, byte_U hj]
  cases mm_byteAt (G1 201 3) G1 with
  | none => rfl
  | some v =>
    rw [Option.bind_some, Option.bind_some]
    by_cases h0 : v < 0
    · rw [if_pos h0, if_pos h0, U_cm (j := j) (s := s) (by omega)]
      rfl
    · rw [if_neg h0, if_neg h0]
      by_cases hl : mm_isLetter v = true
      · rw [if_pos hl, if_pos hl]
        refine L77_U hj (fun x G => ?_) FU 0 G1
        have g3 : upd2 G 201 j s 201 3 = G 201 3 := upd2_o (by omega)
        have g4 : upd2 G 201 j s 201 4 = G 201 4 := upd2_o (by omega)
        have jj : ∀ y, mm_advance_j162 y (upd2 G 201 j s) = MU j s (mm_advance_j162 y G) := fun y => by
          unfold mm_advance_j162
          rw [U_cm (j := j) (s := s) (x := 7) (by omega)]
          have e7 : upd2 (upd2 G 201 7 y) 201 j s 201 7 = upd2 G 201 7 y 201 7 := upd2_o (by omega)
          rw [e7]
          by_cases h9 : upd2 G 201 7 y 201 7 = 99
          · rw [if_pos h9, if_pos h9, U_cm (j := j) (s := s) (by omega)]; rfl
          · rw [if_neg h9, if_neg h9, U_cm (j := j) (s := s) (by omega)]; rfl
        rw [g3, g4, jj, jj]
        by_cases h8 : 8 < w32 (G 201 3 - G 201 4)
        · rw [if_pos h8, if_pos h8]
        · rw [if_neg h8, if_neg h8]
      · rw [if_neg hl, if_neg hl]
        by_cases hd : mm_isDigit v = true
        · rw [if_pos hd, if_pos hd, U_cm (j := j) (s := s) (by omega)]
          refine L198_U hj (fun G => ?_) FU _
          have g3 : upd2 G 201 j s 201 3 = G 201 3 := upd2_o (by omega)
          have g4 : upd2 G 201 j s 201 4 = G 201 4 := upd2_o (by omega)
          rw [g3, g4]
          by_cases h8 : 2 < w32 (G 201 3 - G 201 4)
          · rw [if_pos h8, if_pos h8, U_cm (j := j) (s := s) (by omega)]; rfl
          · rw [if_neg h8, if_neg h8, U_cm (j := j) (s := s) (by omega)]; rfl
        · rw [if_neg hd, if_neg hd]
          by_cases h5 : v = 59
          · rw [if_pos h5, if_pos h5, U_cm (j := j) (s := s) (x := 3) (by omega), U_cm (j := j) (s := s) (x := 5) (by omega)]; rfl
          · rw [if_neg h5, if_neg h5, U_cm (j := j) (s := s) (x := 3) (by omega), U_cm (j := j) (s := s) (x := 5) (by omega)]; rfl
def MUn (j s : Int) (X : Option (Int × Hp)) : Option (Int × Hp) := X.bind fun r => some (r.1, upd2 r.2 201 j s)
theorem numbered_U {G : Hp} {lo hi : Int} (hj : j = 9 ∨ j = 10) : mm_numbered lo hi (upd2 G 201 j s) = MUn j s (mm_numbered lo hi G) := by
  have e8 : upd2 G 201 j s 201 8 = G 201 8 := upd2_o (by omega)
  have e5 : upd2 G 201 j s 201 5 = G 201 5 := upd2_o (by omega)
  have e6 : upd2 G 201 j s 201 6 = G 201 6 := upd2_o (by omega)
  have e4 : upd2 G 201 j s 201 4 = G 201 4 := upd2_o (by omega)
  have f5 : upd2 G 201 j s 202 5 = G 202 5 := upd2_o (by omega)
  have f6 : upd2 G 201 j s 202 6 = G 202 6 := upd2_o (by omega)
  have hA : ∀ (x : Int) (G : Hp), mm_numbered_j44 lo hi x (upd2 G 201 j s) = MUn j s (mm_numbered_j44 lo hi x G) := fun x G => by
    unfold mm_numbered_j44
    rw [adv_U hj]
    cases mm_advance G with
    | none => rfl
    | some G2 =>
      show (if mm_isIn x lo hi = true then some (x, upd2 G2 201 j s) else some (lo, upd2 G2 201 j s)) = MUn j s (if mm_isIn x lo hi = true then some (x, G2) else some (lo, G2))
      by_cases h : mm_isIn x lo hi = true
      · rw [if_pos h, if_pos h]; rfl
      · rw [if_neg h, if_neg h]; rfl
  have hE : mm_numbered_j15 lo hi (upd2 G 201 j s) = MUn j s (mm_numbered_j15 lo hi G) := by
    unfold mm_numbered_j15 mm_ends
    rw [e8]
    by_cases h : G 201 8 = 0
    · rw [if_pos h, if_pos h, U_cm (j := j) (s := s) (x := 8) (by omega), U_cm2]
      have e : upd2 (upd2 (upd2 G 201 8 1) 202 5 1) 201 j s 201 4 = upd2 (upd2 G 201 8 1) 202 5 1 201 4 := upd2_o (by omega)
      rw [e, U_cm2]
      rfl
    · rw [if_neg h, if_neg h]; rfl
  unfold mm_numbered
  rw [e8, e5, e6, e4, hA, hE]
  by_cases h8 : G 201 8 = 0
  · rw [if_pos h8, if_pos h8]
    by_cases h5 : G 201 5 = 1
    · rw [if_pos h5, if_pos h5]
      by_cases hi' : mm_isIn (G 201 6) lo hi = true
      · rw [if_pos hi', if_pos hi']
      · rw [if_neg hi', if_neg hi']
        have hAl : mm_also 2 (G 201 4) (upd2 G 201 j s) = MU j s (mm_also 2 (G 201 4) G) := by
          unfold mm_also mm_also_j49
          rw [e8, f5, f6, U_cm2, U_cm2]
          rw [if_pos h8, if_pos h8]
          by_cases a : G 202 5 = 0
          · rw [if_pos a, if_pos a]; rfl
          · rw [if_neg a, if_neg a]
            by_cases b : G 201 4 ≤ G 202 6
            · rw [if_pos b, if_pos b]
              by_cases c : G 202 6 = G 201 4
              · rw [if_pos c, if_pos c]
                by_cases d : G 202 5 ≤ 2
                · rw [if_pos d, if_pos d]; rfl
                · rw [if_neg d, if_neg d]; rfl
              · rw [if_neg c, if_neg c]; rfl
            · rw [if_neg b, if_neg b]; rfl
        rw [hAl]
        cases mm_also 2 (G 201 4) G with
        | none => rfl
        | some G2 => exact hA (G 201 6) G2
    · rw [if_neg h5, if_neg h5]
  · rw [if_neg h8, if_neg h8]
theorem numbered_keeps {G G' : Hp} {lo hi x : Int} (hj : j = 9 ∨ j = 10) (h : mm_numbered lo hi G = some (x, G')) : G' 201 j = G 201 j := by
  have e := numbered_U (s := G 201 j) (G := G) (lo := lo) (hi := hi) hj
  rw [upd2_id rfl, h] at e
  have e2 := Option.some.inj e
  have e3 : G' = upd2 G' 201 j (G 201 j) := (Prod.mk.inj e2).2
  have e4 := congrFun (congrFun e3 201) j
  rw [upd2_s] at e4
  exact e4
end COMM
