-- texts: numbers, and one line of both
theorem te_r {n q : Int} {T : Int → Int} (q0 : 0 ≤ q) (qn : q ≤ n) (hn : n ≤ 600) : q ≤ teT n T q ∧ teT n T q ≤ n ∧ (q < n → q < teT n T q) := by
  unfold teT
  by_cases e : n ≤ q
  · rw [if_pos e]; omega
  · rw [if_neg e]
    by_cases el : ltT n T q = true
    · rw [if_pos el]
      have h := nx_lt (T := T) q0 qn hn
      have hne : nx (ltT n T) q ≠ q := fun z => by
        have h2 := h.2.2.1
        rw [z, el] at h2
        cases h2
      omega
    · rw [if_neg el]
      by_cases ed : dgT n T q = true
      · rw [if_pos ed]
        have h := nx_dg (T := T) q0 qn hn
        have hne : nx (dgT n T) q ≠ q := fun z => by
          have h2 := h.2.2.1
          rw [z, ed] at h2
          cases h2
        omega
      · rw [if_neg ed]; omega
theorem tk_r (n : Int) (T : Int → Int) (q : Int) : 0 ≤ tkT n T q ∧ tkT n T q ≤ 4 ∧ (tkT n T q = 0 ↔ n ≤ q) := by
  unfold tkT
  repeat' split
  all_goals omega
theorem mk_1 (n : Int) (T : Int → Int) (q : Int) : (mkT n T q = 1 ↔ tkT n T q = 2) ∧ (mkT n T q = 2 ↔ tkT n T q = 3) ∧ (mkT n T q = 3 ↔ tkT n T q = 1 ∧ wcT T q (teT n T q) ≠ 99) ∧ (mkT n T q = 0 ↔ tkT n T q = 0) := by
  have h := tk_r n T q
  unfold mkT
  repeat' split
  all_goals omega
theorem vl_r {n q : Int} {T : Int → Int} (q0 : 0 ≤ q) (qn : q ≤ n) (hn : n ≤ 600) (h : tkT n T q = 2) : 0 ≤ vlT T q (teT n T q) ∧ vlT T q (teT n T q) ≤ 99 := by
  have e : ¬ n ≤ q := fun e => by have := (tk_r n T q).2.2.mpr e; omega
  unfold tkT at h
  rw [if_neg e] at h
  by_cases el : ltT n T q = true
  · rw [if_pos el] at h; omega
  · rw [if_neg el] at h
    by_cases ed : dgT n T q = true
    · rw [if_pos ed] at h
      have ee : teT n T q = nx (dgT n T) q := by unfold teT; rw [if_neg e, if_neg el, if_pos ed]
      have hd := nx_dg (T := T) q0 qn hn
      rw [← ee] at hd
      have hne := te_r (T := T) q0 qn hn
      have h2 : teT n T q - q ≤ 2 := by
        by_cases x : teT n T q - q ≤ 2
        · exact x
        · rw [if_neg x] at h; omega
      have d0 := of_decide_eq_true (hd.2.2.2 q (by omega) (by omega))
      unfold vlT
      by_cases x1 : teT n T q - q ≤ 0
      · rw [if_pos x1]; omega
      · rw [if_neg x1]
        by_cases x2 : teT n T q - q = 1
        · rw [if_pos x2]; omega
        · have d1 := of_decide_eq_true (hd.2.2.2 (q + 1) (by omega) (by omega))
          rw [if_neg x2]; omega
    · rw [if_neg ed] at h
      split at h <;> omega
def Tok (n : Int) (T : Int → Int) (q : Int) (C G : Hp) : Prop := (0 ≤ q ∧ q ≤ n) ∧ (C 39 9 = q ∧ C 39 7 = teT n T q ∧ C 39 8 = tkT n T q ∧ (tkT n T q = 2 → C 39 10 = vlT T q (teT n T q))) ∧ G 201 4 = q ∧ G 201 3 = teT n T q ∧ G 201 5 = mkT n T q ∧ (tkT n T q = 2 → G 201 6 = vlT T q (teT n T q)) ∧ (tkT n T q = 1 → G 201 7 = wcT T q (teT n T q))
theorem Tok.fr {n q : Int} {T : Int → Int} {C G C' G' : Hp} (h : Tok n T q C G) (hC : ∀ j, 7 ≤ j → j ≤ 10 → C' 39 j = C 39 j) (hG : ∀ j, 3 ≤ j → j ≤ 7 → G' 201 j = G 201 j) : Tok n T q C' G' := by
  unfold Tok
  rw [hC 9 (by omega) (by omega), hC 7 (by omega) (by omega), hC 8 (by omega) (by omega), hC 10 (by omega) (by omega), hG 4 (by omega) (by omega), hG 3 (by omega) (by omega), hG 5 (by omega) (by omega), hG 6 (by omega) (by omega), hG 7 (by omega) (by omega)]
  exact h
theorem move_J {n p : Int} {T : Int → Int} {C G : Hp} (hC : TpC n T C) (hG : TpM n T G) (h7 : C 39 7 = p) (h3 : G 201 3 = p) (p0 : 0 ≤ p) (p1 : p ≤ n) : ∃ C' G', cSc_move C = some C' ∧ mm_advance G = some G' ∧ (TpC n T C' ∧ TpM n T G') ∧ Tok n T (nx (wsT n T) p) C' G' ∧ p ≤ nx (wsT n T) p ∧ (∀ a j, ¬ (a = 39 ∧ 7 ≤ j ∧ j ≤ 10) → C' a j = C a j) ∧ ∀ a j, ¬ (a = 201 ∧ 3 ≤ j ∧ j ≤ 7) → G' a j = G a j := by
  have hw := nx_ws (T := T) p0 p1 hC.1.2
  obtain ⟨C', ec, c1, c2, c3, c4, c5⟩ := cmove_ok hC h7 p0 p1
  obtain ⟨G', eg, g1, g2, g3, g4, g5, g6⟩ := madv_ok hG h3 p0 p1
  exact ⟨C', G', ec, eg, ⟨hC.fr (fun j => c5 _ _ (by omega)) (c5 _ _ (by omega)), hG.fr (fun j _ => g6 _ _ (by omega)) (g6 _ _ (by omega))⟩, ⟨⟨by omega, by omega⟩, ⟨c1, c2, c3, c4⟩, g1, g2, g3, g4, g5⟩, hw.1, c5, g6⟩
/-- both read on: w the fault so far (not the first), q where the token is -/
def Live (n : Int) (T : Int → Int) (w q : Int) (C G : Hp) : Prop := (TpC n T C ∧ TpM n T G) ∧ Tok n T q C G ∧ (C 39 3 = w ∧ G 202 5 = w ∧ G 201 8 = 0 ∧ C 39 4 = G 202 6) ∧ (w ≠ 1 ∧ 0 ≤ w) ∧ (w ≠ 0 → G 202 6 < q)
def Dead (C G : Hp) : Prop := C 39 3 = 1 ∧ G 201 8 = 1 ∧ G 202 5 = 1 ∧ C 39 4 = G 202 6
/-- a fault noted -/
def flk (k at' : Int) (b : Bool) (G : Hp) : Hp := if b = true ∧ G 202 5 = 0 then upd2 (upd2 G 202 5 k) 202 6 at' else G
def ntk (k at' : Int) (b : Bool) (C : Hp) : Hp := if b = true ∧ C 39 3 = 0 then upd2 (upd2 C 39 3 k) 39 4 at' else C
def en (G : Hp) : Hp := upd2 (upd2 (upd2 G 201 8 1) 202 5 1) 202 6 (G 201 4)
theorem flk_fr {k at' : Int} {b : Bool} {G : Hp} {a j : Int} (h : ¬ (a = 202 ∧ (j = 5 ∨ j = 6))) : flk k at' b G a j = G a j := by
  unfold flk
  split
  · rw [upd2_o (by omega), upd2_o (by omega)]
  · rfl
theorem ntk_fr {k at' : Int} {b : Bool} {C : Hp} {a j : Int} (h : ¬ (a = 39 ∧ (j = 3 ∨ j = 4))) : ntk k at' b C a j = C a j := by
  unfold ntk
  split
  · rw [upd2_o (by omega), upd2_o (by omega)]
  · rfl
theorem note_ok {k at' : Int} {C : Hp} : cSc_note k at' C = some (ntk k at' true C) := by
  unfold cSc_note ntk
  by_cases h : C 39 3 = 0
  · rw [if_pos h, if_pos ⟨rfl, h⟩]
  · rw [if_neg h, if_neg (fun z => h z.2)]
theorem also_ok {k at' : Int} {G : Hp} (h8 : G 201 8 = 0) (hp : G 202 5 ≠ 0 → G 202 6 < at' ∨ (G 202 6 = at' ∧ G 202 5 ≤ k)) : mm_also k at' G = some (flk k at' true G) := by
  unfold mm_also flk mm_also_j49
  rw [if_pos h8]
  by_cases h : G 202 5 = 0
  · rw [if_pos h, if_pos ⟨rfl, h⟩]
  · have := hp h
    rw [if_neg h, if_neg (show ¬ (true = true ∧ G 202 5 = 0) from fun z => h z.2)]
    by_cases h2 : at' ≤ G 202 6
    · rw [if_pos h2, if_pos (by omega), if_pos (by omega)]
    · rw [if_neg h2]
theorem ends_0 {G : Hp} (h : G 201 8 = 0) : mm_ends G = some (en G) := by
  unfold mm_ends en
  rw [if_pos h]
  have e : upd2 (upd2 G 201 8 1) 202 5 1 201 4 = G 201 4 := by rw [upd2_o (by omega), upd2_o (by omega)]
  rw [e]
theorem ends_1 {G : Hp} (h : G 201 8 = 1) : mm_ends G = some G := by
  unfold mm_ends
  rw [if_neg (by omega)]
/-- both see the same fault -/
theorem note_J {n w q k at' : Int} {T : Int → Int} {C G : Hp} {b b' : Bool} (hf : C 39 3 = w ∧ G 202 5 = w ∧ G 201 8 = 0 ∧ C 39 4 = G 202 6) (hb : w = 0 → b = b') : ∃ w', (ntk k at' b C 39 3 = w' ∧ flk k at' b' G 202 5 = w' ∧ ntk k at' b C 39 4 = flk k at' b' G 202 6) ∧ ((w' = w ∧ flk k at' b' G 202 6 = G 202 6 ∧ (w = 0 → b = false)) ∨ (w = 0 ∧ b = true ∧ w' = k ∧ flk k at' b' G 202 6 = at')) := by
  obtain ⟨f1, f2, f3, f4⟩ := hf
  by_cases hw : w = 0
  · have e := hb hw
    subst e
    cases b with
    | true =>
      have e1 : ntk k at' true C = upd2 (upd2 C 39 3 k) 39 4 at' := if_pos ⟨rfl, by omega⟩
      have e2 : flk k at' true G = upd2 (upd2 G 202 5 k) 202 6 at' := if_pos ⟨rfl, by omega⟩
      rw [e1, e2]
      exact ⟨k, ⟨by rw [upd2_o (by omega), upd2_s], by rw [upd2_o (by omega), upd2_s], by rw [upd2_s, upd2_s]⟩, Or.inr ⟨hw, rfl, rfl, upd2_s⟩⟩
    | false =>
      have e1 : ntk k at' false C = C := if_neg (fun z => Bool.noConfusion z.1)
      have e2 : flk k at' false G = G := if_neg (fun z => Bool.noConfusion z.1)
      rw [e1, e2]
      exact ⟨w, ⟨f1, f2, f4⟩, Or.inl ⟨rfl, rfl, fun _ => rfl⟩⟩
  · have e1 : ntk k at' b C = C := if_neg (fun z => hw (by omega))
    have e2 : flk k at' b' G = G := if_neg (fun z => hw (by omega))
    rw [e1, e2]
    exact ⟨w, ⟨f1, f2, f4⟩, Or.inl ⟨rfl, rfl, fun z => absurd z hw⟩⟩
-- numbers
def loL (line i : Int) : Int := if line = 8 ∧ i = 1 then 1 else 0
def hiL (line i : Int) : Int := stg 1 (3 * line + i)
def othL (line i : Int) : Bool := decide (i = 1 ∧ (line = 7 ∨ line = 3 ∨ line = 4))
def badN (oth : Bool) (lo hi a x : Int) : Bool := decide (¬ (lo ≤ x ∧ x ≤ hi)) || (oth && decide (x = a))
def nmb (oth : Bool) (lo hi a : Int) (G : Hp) : Option (Int × Hp) := if oth = true then mm_otherWord a G else mm_numbered lo hi G
theorem tblL : ∀ line : Fin 11, (0 ≤ stg 0 (line.val : Int) ∧ stg 0 (line.val : Int) ≤ 3) ∧ ∀ i : Fin 3, loL (line.val : Int) (i.val : Int) ≤ hiL (line.val : Int) (i.val : Int) ∧ hiL (line.val : Int) (i.val : Int) ≤ 9 ∧ (othL (line.val : Int) (i.val : Int) = true → loL (line.val : Int) (i.val : Int) = 0 ∧ hiL (line.val : Int) (i.val : Int) = 9) := by decide +kernel
theorem manyL {line : Int} (l0 : 0 ≤ line) (l1 : line ≤ 10) : 0 ≤ stg 0 line ∧ stg 0 line ≤ 3 := by
  have h := (tblL ⟨line.toNat, by omega⟩).1
  have e : ((line.toNat : Nat) : Int) = line := by omega
  simp only [e] at h
  exact h
theorem loHi {line i : Int} (l0 : 0 ≤ line) (l1 : line ≤ 10) (i0 : 0 ≤ i) (i1 : i < 3) : loL line i ≤ hiL line i ∧ hiL line i ≤ 9 ∧ (othL line i = true → loL line i = 0 ∧ hiL line i = 9) := by
  have h := (tblL ⟨line.toNat, by omega⟩).2 ⟨i.toNat, by omega⟩
  have e : ((line.toNat : Nat) : Int) = line := by omega
  have e2 : ((i.toNat : Nat) : Int) = i := by omega
  simp only [e, e2] at h
  exact h
theorem numbered_live {lo hi : Int} {G : Hp} (h8 : G 201 8 = 0) (hp : G 202 5 ≠ 0 → G 202 6 < G 201 4 ∨ (G 202 6 = G 201 4 ∧ G 202 5 ≤ 2)) : mm_numbered lo hi G = if G 201 5 = 1 then (mm_advance (flk 2 (G 201 4) (badN false lo hi 0 (G 201 6)) G)).bind (fun G' => some (if lo ≤ G 201 6 ∧ G 201 6 ≤ hi then G 201 6 else lo, G')) else some (lo, en G) := by
  unfold mm_numbered mm_numbered_j44 mm_numbered_j15
  rw [if_pos h8]
  by_cases h5 : G 201 5 = 1
  · rw [if_pos h5, if_pos h5, isIn_eq]
    by_cases hi' : lo ≤ G 201 6 ∧ G 201 6 ≤ hi
    · have eb : badN false lo hi 0 (G 201 6) = false := by unfold badN; rw [decide_eq_false (fun z => z hi')]; rfl
      have ef : flk 2 (G 201 4) false G = G := if_neg (fun z => Bool.noConfusion z.1)
      rw [decide_eq_true hi', if_tt, eb, ef, if_pos hi']
      rfl
    · have eb : badN false lo hi 0 (G 201 6) = true := by unfold badN; rw [decide_eq_true hi']; rfl
      rw [decide_eq_false hi', if_ff, also_ok h8 hp, Option.bind_some, eb, if_neg hi']
      rfl
  · rw [if_neg h5, if_neg h5, ends_0 h8, Option.bind_some]
theorem other_live {a : Int} {G : Hp} (h8 : G 201 8 = 0) (hp : G 202 5 ≠ 0 → G 202 6 < G 201 4) : mm_otherWord a G = if G 201 5 = 1 then (mm_advance (flk 2 (G 201 4) (badN true 0 9 a (G 201 6)) G)).bind (fun G' => some (if 0 ≤ G 201 6 ∧ G 201 6 ≤ 9 then G 201 6 else 0, G')) else some (0, en G) := by
  have bnd : ∀ X : Option (Int × Hp), (X.bind fun r36 => some (r36.1, r36.2)) = X := fun X => by cases X <;> rfl
  unfold mm_otherWord mm_otherWord_j32
  rw [if_pos h8]
  by_cases h5 : G 201 5 = 1
  · rw [if_pos h5, if_pos h5]
    by_cases ha : G 201 6 = a
    · have eb : badN true 0 9 a (G 201 6) = true := by unfold badN; rw [decide_eq_true ha]; cases decide (¬ (0 ≤ G 201 6 ∧ G 201 6 ≤ 9)) <;> rfl
      rw [if_pos ha, also_ok h8 (fun z => Or.inl (hp z)), Option.bind_some, bnd, eb]
      have z : ∀ x j, ¬ (x = 202 ∧ (j = 5 ∨ j = 6)) → flk 2 (G 201 4) true G x j = G x j := fun x j q => flk_fr q
      have hp2 : flk 2 (G 201 4) true G 202 5 ≠ 0 ∧ ((flk 2 (G 201 4) true G 202 6 < G 201 4) ∨ (flk 2 (G 201 4) true G 202 6 = G 201 4 ∧ flk 2 (G 201 4) true G 202 5 ≤ 2)) := by
        unfold flk
        by_cases hw : G 202 5 = 0
        · rw [if_pos ⟨rfl, hw⟩]
          exact ⟨by rw [upd2_o (by omega), upd2_s]; omega, Or.inr ⟨upd2_s, by rw [upd2_o (by omega), upd2_s]; omega⟩⟩
        · rw [if_neg (fun z => hw z.2)]
          exact ⟨hw, Or.inl (hp hw)⟩
      rw [numbered_live ((z _ _ (by omega)).trans h8) (fun _ => by rw [z 201 4 (by omega)]; exact hp2.2), z 201 5 (by omega), if_pos h5, z 201 6 (by omega)]
      have ef : flk 2 (flk 2 (G 201 4) true G 201 4) (badN false 0 9 0 (G 201 6)) (flk 2 (G 201 4) true G) = flk 2 (G 201 4) true G := if_neg (fun y => hp2.1 y.2)
      rw [ef]
    · have eb : badN true 0 9 a (G 201 6) = badN false 0 9 0 (G 201 6) := by unfold badN; rw [decide_eq_false ha]; rfl
      rw [if_neg ha, bnd, numbered_live h8 (fun z => Or.inl (hp z)), if_pos h5, eb]
  · rw [if_neg h5, if_neg h5, bnd, numbered_live h8 (fun z => Or.inl (hp z)), if_neg h5]
theorem nmb_live {oth : Bool} {lo hi a : Int} {G : Hp} (ho : oth = true → lo = 0 ∧ hi = 9) (h8 : G 201 8 = 0) (hp : G 202 5 ≠ 0 → G 202 6 < G 201 4) : nmb oth lo hi a G = if G 201 5 = 1 then (mm_advance (flk 2 (G 201 4) (badN oth lo hi a (G 201 6)) G)).bind (fun G' => some (if lo ≤ G 201 6 ∧ G 201 6 ≤ hi then G 201 6 else lo, G')) else some (lo, en G) := by
  unfold nmb
  cases oth with
  | true =>
    obtain ⟨rfl, rfl⟩ := ho rfl
    rw [if_tt, other_live h8 hp]
  | false =>
    rw [if_ff, numbered_live h8 (fun z => Or.inl (hp z))]
    have eb : badN false lo hi 0 (G 201 6) = badN false lo hi a (G 201 6) := rfl
    rw [eb]
theorem nmb_dead {oth : Bool} {lo hi a : Int} {G : Hp} (ho : oth = true → lo = 0 ∧ hi = 9) (h8 : G 201 8 = 1) : nmb oth lo hi a G = some (lo, G) := by
  have h : ∀ lo hi : Int, mm_numbered lo hi G = some (lo, G) := fun lo hi => by
    unfold mm_numbered mm_numbered_j15
    rw [if_neg (by omega), ends_1 h8, Option.bind_some]
  unfold nmb
  cases oth with
  | true =>
    obtain ⟨rfl, rfl⟩ := ho rfl
    rw [if_tt]
    unfold mm_otherWord mm_otherWord_j32
    rw [if_neg (by omega), h, Option.bind_some]
  | false => rw [if_ff, h]
theorem mayBe_ok {line i : Int} {C : Hp} (l0 : 0 ≤ line) (l1 : line ≤ 10) (i0 : 0 ≤ i) (i1 : i < 3) (hx : 0 ≤ C 56 i) : cSc_mayBe line i C = some (!(badN (othL line i) (loL line i) (hiL line i) (C 56 0) (C 56 i))) := by
  unfold cSc_mayBe
  rw [w32_id (z := 3 * line) (by omega) (by omega), w32_id (z := 3 * line + i) (by omega) (by omega), gd_ok i0 i1, gd_ok (by omega) (by omega)]
  unfold badN
  show (if hiL line i < C 56 i then some false else _) = _
  by_cases h : hiL line i < C 56 i
  · rw [if_pos h, decide_eq_true (show ¬ (loL line i ≤ C 56 i ∧ C 56 i ≤ hiL line i) from fun z => by omega)]
    rfl
  · rw [if_neg h]
    unfold cSc_mayBe_j46 cSc_mayBe_j67
    by_cases e1 : i = 1
    · subst e1
      rw [if_pos rfl]
      by_cases e8 : line = 8
      · have ho : othL line 1 = false := decide_eq_false (by omega)
        have hl : loL line 1 = 1 := if_pos ⟨e8, rfl⟩
        rw [if_pos e8, ho, hl]
        by_cases hz : 0 < C 56 1
        · rw [if_pos hz, decide_eq_false (fun z => z ⟨by omega, by omega⟩)]
          rfl
        · rw [if_neg hz, decide_eq_true (show ¬ (1 ≤ C 56 1 ∧ C 56 1 ≤ hiL line 1) from fun z => hz (by omega))]
          rfl
      · have hl : loL line 1 = 0 := if_neg (fun z => e8 z.1)
        rw [if_neg e8, hl, decide_eq_false (fun z => z ⟨by omega, by omega⟩)]
        by_cases h7 : line = 7 ∨ line = 3 ∨ line = 4
        · have ho : othL line 1 = true := decide_eq_true ⟨rfl, h7⟩
          have goal : (if C 56 1 = C 56 0 then some false else some true) = some (!(false || (true && decide (C 56 1 = C 56 0)))) := by
            by_cases he : C 56 1 = C 56 0
            · rw [if_pos he, decide_eq_true he]; rfl
            · rw [if_neg he, decide_eq_false he]; rfl
          rw [ho, if_pos rfl, if_neg (show ¬ (1 : Int) = 0 by omega), if_pos rfl, if_pos rfl]
          rcases h7 with rfl | rfl | rfl
          · rw [if_pos rfl]; exact goal
          · rw [if_neg (by omega), if_pos rfl]; exact goal
          · rw [if_neg (by omega), if_neg (by omega), if_pos rfl]; exact goal
        · have ho : othL line 1 = false := decide_eq_false (fun z => h7 z.2)
          rw [ho, if_neg (by omega), if_neg (by omega), if_neg (by omega), if_pos rfl, if_pos rfl]
          rfl
    · have ho : othL line i = false := decide_eq_false (fun z => e1 z.1)
      have hl : loL line i = 0 := if_neg (fun z => e1 z.2)
      rw [if_neg e1, if_neg e1, if_neg e1, ho, hl, decide_eq_false (fun z => z ⟨by omega, by omega⟩)]
      split
      · rfl
      · split
        · rfl
        · split <;> rfl
/-- the model reads m numbers more -/
def mN (line : Int) (K : (Int → Int) → Hp → Option Hp) : Nat → Int → (Int → Int) → Hp → Option Hp
  | 0, _, v, G => K v G
  | m + 1, i, v, G => (nmb (othL line i) (loL line i) (hiL line i) (v 0) G).bind fun r => mN line K m (i + 1) (fun j => if j = i then r.1 else v j) r.2
def FrC (C C' : Hp) : Prop := ∀ a j, ¬ (a = 39 ∧ (j = 3 ∨ j = 4 ∨ (7 ≤ j ∧ j ≤ 10))) → a ≠ 56 → C' a j = C a j
def FrM (G G' : Hp) : Prop := ∀ a j, ¬ (a = 201 ∧ 3 ≤ j ∧ j ≤ 8) → ¬ (a = 202 ∧ (j = 5 ∨ j = 6)) → G' a j = G a j
theorem FrC.refl (C : Hp) : FrC C C := fun _ _ _ _ => rfl
theorem FrM.refl (G : Hp) : FrM G G := fun _ _ _ _ => rfl
theorem FrC.trans {C C' C'' : Hp} (h : FrC C C') (h2 : FrC C' C'') : FrC C C'' := fun a j u v => (h2 a j u v).trans (h a j u v)
theorem FrM.trans {C C' C'' : Hp} (h : FrM C C') (h2 : FrM C' C'') : FrM C C'' := fun a j u v => (h2 a j u v).trans (h a j u v)
theorem en_fr (G : Hp) : FrM G (en G) := fun a j u v => by
  unfold en
  rw [upd2_o (by omega), upd2_o (by omega), upd2_o (by omega)]
def InL (line m : Int) (v : Int → Int) : Prop := ∀ j, 0 ≤ j → j < m → loL line j ≤ v j ∧ v j ≤ hiL line j
theorem mN_dead {line : Int} {K : (Int → Int) → Hp → Option Hp} (l0 : 0 ≤ line) (l1 : line ≤ 10) : ∀ (m : Nat) (i : Int) (v : Int → Int) (G : Hp), 0 ≤ i → i + m ≤ 3 → InL line i v → G 201 8 = 1 → ∃ v', mN line K m i v G = K v' G ∧ InL line (i + m) v'
  | 0, i, v, G, i0, i1, hv, h8 => ⟨v, rfl, fun j j0 j1 => hv j j0 (by omega)⟩
  | m + 1, i, v, G, i0, i1, hv, h8 => by
    have hl := loHi l0 l1 i0 (by omega)
    obtain ⟨v', h1, h2⟩ := mN_dead (K := K) l0 l1 m (i + 1) (fun j => if j = i then loL line i else v j) G (by omega) (by omega) (fun j j0 j1 => by
      by_cases e : j = i
      · show loL line j ≤ (if j = i then loL line i else v j) ∧ (if j = i then loL line i else v j) ≤ hiL line j
        rw [if_pos e, e]; omega
      · show loL line j ≤ (if j = i then loL line i else v j) ∧ (if j = i then loL line i else v j) ≤ hiL line j
        rw [if_neg e]; exact hv j j0 (by omega)) h8
    refine ⟨v', ?_, fun j j0 j1 => h2 j j0 (by omega)⟩
    show (nmb (othL line i) (loL line i) (hiL line i) (v 0) G).bind _ = _
    rw [nmb_dead hl.2.2 h8, Option.bind_some]
    exact h1
theorem nums_ok {n s line : Int} {T : Int → Int} {K : (Int → Int) → Hp → Option Hp} {kD : Hp → Option Hp} (l0 : 0 ≤ line) (l1 : line ≤ 10) : ∀ (m fuel : Nat) (i q w : Int) (v : Int → Int) (C G : Hp), m < fuel → 0 ≤ i → i + m = stg 0 line → Live n T w q C G → (w = 0 → ∀ j, 0 ≤ j → j < i → v j = C 56 j ∧ (othL line j = true → v j ≠ v 0)) → InL line i v →
    (∃ C' G' v' w' q', cSc_line_L46 s line (stg 0 line) (fun G_60 => (cSc_breakOff G_60).bind fun G61 => some G61) kD fuel i C = kD C' ∧ mN line K m i v G = K v' G' ∧ Live n T w' q' C' G' ∧ q ≤ q' ∧ (w' = 0 → w = 0 ∧ ∀ j, 0 ≤ j → j < stg 0 line → v' j = C' 56 j ∧ (othL line j = true → v' j ≠ v' 0)) ∧ InL line (stg 0 line) v' ∧ FrC C C' ∧ FrM G G') ∨
    (∃ C' G' v', cSc_line_L46 s line (stg 0 line) (fun G_60 => (cSc_breakOff G_60).bind fun G61 => some G61) kD fuel i C = some C' ∧ mN line K m i v G = K v' G' ∧ Dead C' G' ∧ InL line (stg 0 line) v' ∧ FrC C C' ∧ FrM G G') := by
  have hmany := manyL l0 l1
  intro m
  induction m with
  | zero =>
    intro fuel i q w v C G hf i0 hi hL hv hr
    obtain ⟨f', rfl⟩ : ∃ n', fuel = n' + 1 := ⟨fuel - 1, by omega⟩
    have e : i = stg 0 line := by omega
    refine Or.inl ⟨C, G, v, w, q, ?_, rfl, hL, Int.le_refl q, fun hw => ⟨hw, fun j j0 j1 => hv hw j j0 (by omega)⟩, fun j j0 j1 => hr j j0 (by omega), FrC.refl C, FrM.refl G⟩
    rw [cSc_line_L46, if_neg (by omega)]
  | succ m ih =>
    intro fuel i q w v C G hf i0 hi hL hv hr
    obtain ⟨f', rfl⟩ : ∃ n', fuel = n' + 1 := ⟨fuel - 1, by omega⟩
    have hl := loHi l0 l1 i0 (show i < 3 by omega)
    obtain ⟨⟨tC, tM⟩, hT, hF, ⟨hw1, hw0⟩, hp⟩ := hL
    obtain ⟨⟨q0, qn⟩, ⟨t9, t7, t8, t10⟩, g4, g3, g5, g6, g7⟩ := id hT
    have hn := tC.1.2
    have hte := te_r (T := T) q0 qn hn
    have hmk := (mk_1 n T q).1
    have eM : mN line K (m + 1) i v G = (nmb (othL line i) (loL line i) (hiL line i) (v 0) G).bind fun r => mN line K m (i + 1) (fun j => if j = i then r.1 else v j) r.2 := rfl
    rw [eM, nmb_live hl.2.2 hF.2.2.1 (fun z => by rw [g4]; exact hp (by rw [← hF.2.1]; exact z)), g5, g4]
    rw [cSc_line_L46, if_pos (by omega), t8]
    by_cases h2 : tkT n T q = 2
    · rw [if_pos h2, if_pos (hmk.mpr h2), gd_ok i0 (by omega), t10 h2, g6 h2]
      have hvl := vl_r (T := T) q0 qn hn h2
      generalize vlT T q (teT n T q) = x at *
      generalize hC1 : upd2 C 56 i x = C1
      have z1 : ∀ a j, ¬ (a = 56 ∧ j = i) → C1 a j = C a j := fun a j u => by rw [← hC1, upd2_o u]
      have x1 : C1 56 i = x := by rw [← hC1, upd2_s]
      have y9 : C1 39 9 = q := (z1 _ _ (by omega)).trans t9
      rw [mayBe_ok l0 l1 i0 (by omega) (by rw [x1]; omega), Option.bind_some, note_ok, Option.bind_some, x1, y9]
      have hX : (if (!(badN (othL line i) (loL line i) (hiL line i) (C1 56 0) x)) = true then cSc_line_j95 s (cSc_line_L46 s line (stg 0 line) (fun G_60 => (cSc_breakOff G_60).bind fun G61 => some G61) kD f') line (stg 0 line) i C1 else cSc_line_j95 s (cSc_line_L46 s line (stg 0 line) (fun G_60 => (cSc_breakOff G_60).bind fun G61 => some G61) kD f') line (stg 0 line) i (ntk 2 q true C1)) = (cSc_move (ntk 2 q (badN (othL line i) (loL line i) (hiL line i) (C1 56 0) x) C1)).bind fun G96 => cSc_line_L46 s line (stg 0 line) (fun G_60 => (cSc_breakOff G_60).bind fun G61 => some G61) kD f' (i + 1) G96 := by
        unfold cSc_line_j95
        rw [w32_id (z := i + 1) (by omega) (by omega)]
        cases badN (othL line i) (loL line i) (hiL line i) (C1 56 0) x with
        | true => rw [if_neg (by decide)]
        | false =>
          have e : ntk 2 q false C1 = C1 := if_neg (fun z => Bool.noConfusion z.1)
          rw [if_pos (by decide), e]
      rw [hX]
      have hbb : w = 0 → badN (othL line i) (loL line i) (hiL line i) (C1 56 0) x = badN (othL line i) (loL line i) (hiL line i) (v 0) x := fun hw => by
        by_cases ei : i = 0
        · have ho : othL line i = false := decide_eq_false (fun z => by omega)
          rw [ho]
          rfl
        · rw [z1 _ _ (by omega), (hv hw 0 (by omega) (by omega)).1]
      generalize hbc : badN (othL line i) (loL line i) (hiL line i) (C1 56 0) x = bc at *
      generalize hbm : badN (othL line i) (loL line i) (hiL line i) (v 0) x = bmo at *
      obtain ⟨w', ⟨n1, n2, n3⟩, n4⟩ := note_J (n := n) (q := q) (T := T) (k := 2) (at' := q) (C := C1) (G := G) (w := w) (b := bc) (b' := bmo) ⟨(z1 _ _ (by omega)).trans hF.1, hF.2.1, hF.2.2.1, (z1 _ _ (by omega)).trans hF.2.2.2⟩ hbb
      have zc : ∀ a j, ¬ (a = 39 ∧ (j = 3 ∨ j = 4)) → ¬ (a = 56 ∧ j = i) → ntk 2 q bc C1 a j = C a j := fun a j u u2 => by rw [ntk_fr u]; exact z1 _ _ u2
      have zg : ∀ a j, ¬ (a = 202 ∧ (j = 5 ∨ j = 6)) → flk 2 q bmo G a j = G a j := fun a j u => flk_fr u
      obtain ⟨C3, G3, ec, eg, ⟨tC3, tM3⟩, hT3, hq3, fc3, fg3⟩ := move_J (C := ntk 2 q bc C1) (G := flk 2 q bmo G) (p := teT n T q) (tC.fr (fun j => zc _ _ (by omega) (by omega)) (zc _ _ (by omega) (by omega))) (tM.fr (fun j _ => zg _ _ (by omega)) (zg _ _ (by omega))) ((zc _ _ (by omega) (by omega)).trans t7) ((zg _ _ (by omega)).trans g3) (by omega) hte.2.1
      rw [ec, Option.bind_some, eg, Option.bind_some, Option.bind_some]
      have hqn : q < n := by
        have := (tk_r n T q).2.2
        omega
      have FC : FrC C C3 := fun a j u u2 => by rw [fc3 _ _ (by omega)]; exact zc _ _ (by omega) (by omega)
      have FM : FrM G G3 := fun a j u u2 => by rw [fg3 _ _ (by omega)]; exact zg _ _ u2
      have hL3 : Live n T w' (nx (wsT n T) (teT n T q)) C3 G3 := by
        refine ⟨⟨tC3, tM3⟩, hT3, ⟨?_, ?_, ?_, ?_⟩, ?_, ?_⟩
        · rw [fc3 _ _ (by omega)]; exact n1
        · rw [fg3 _ _ (by omega)]; exact n2
        · rw [fg3 _ _ (by omega), zg _ _ (by omega)]; exact hF.2.2.1
        · rw [fc3 _ _ (by omega), fg3 _ _ (by omega)]; exact n3
        · rcases n4 with ⟨h, -, -⟩ | ⟨-, -, h, -⟩
          · rw [h]; exact ⟨hw1, hw0⟩
          · rw [h]; omega
        · intro hw'
          rw [fg3 _ _ (by omega)]
          rcases n4 with ⟨h, h3, -⟩ | ⟨-, -, -, h3⟩
          · rw [h3]
            have := hp (by rw [← h]; exact hw')
            omega
          · rw [h3]; omega
      have x3 : C3 56 i = x := by rw [fc3 _ _ (by omega), ntk_fr (by omega)]; exact x1
      have o3 : ∀ j, j ≠ i → C3 56 j = C 56 j := fun j hj => by rw [fc3 _ _ (by omega)]; exact zc _ _ (by omega) (by omega)
      have hgood : w' = 0 → w = 0 ∧ bc = false := fun hw' => by
        rcases n4 with ⟨h, -, h3⟩ | ⟨-, -, h, -⟩
        · exact ⟨by omega, h3 (by omega)⟩
        · omega
      have hbfalse : bmo = false → (loL line i ≤ x ∧ x ≤ hiL line i) ∧ (othL line i = true → x ≠ v 0) := fun hb => by
        rw [hb] at hbm
        unfold badN at hbm
        rw [Bool.or_eq_false_iff] at hbm
        refine ⟨?_, fun ho hx => ?_⟩
        · have := of_decide_eq_false hbm.1
          omega
        · have h2 := hbm.2
          rw [ho, decide_eq_true hx] at h2
          cases h2
      have hnew : InL line (i + 1) (fun j => if j = i then (if loL line i ≤ x ∧ x ≤ hiL line i then x else loL line i) else v j) := by
        intro j j0 j1
        show loL line j ≤ (if j = i then (if loL line i ≤ x ∧ x ≤ hiL line i then x else loL line i) else v j) ∧ (if j = i then (if loL line i ≤ x ∧ x ≤ hiL line i then x else loL line i) else v j) ≤ hiL line j
        by_cases e : j = i
        · rw [if_pos e, e]
          by_cases e2 : loL line i ≤ x ∧ x ≤ hiL line i
          · rw [if_pos e2]; exact e2
          · rw [if_neg e2]; omega
        · rw [if_neg e]; exact hr j j0 (by omega)
      have hvnew : w' = 0 → ∀ j, 0 ≤ j → j < i + 1 → (fun j => if j = i then (if loL line i ≤ x ∧ x ≤ hiL line i then x else loL line i) else v j) j = C3 56 j ∧ (othL line j = true → (fun j => if j = i then (if loL line i ≤ x ∧ x ≤ hiL line i then x else loL line i) else v j) j ≠ (fun j => if j = i then (if loL line i ≤ x ∧ x ≤ hiL line i then x else loL line i) else v j) 0) := by
        intro hw' j j0 j1
        obtain ⟨hw, hbc0⟩ := hgood hw'
        have hb0 : bmo = false := by rw [← hbb hw]; exact hbc0
        obtain ⟨hin, hot⟩ := hbfalse hb0
        show (if j = i then (if loL line i ≤ x ∧ x ≤ hiL line i then x else loL line i) else v j) = C3 56 j ∧ (othL line j = true → (if j = i then (if loL line i ≤ x ∧ x ≤ hiL line i then x else loL line i) else v j) ≠ (if 0 = i then (if loL line i ≤ x ∧ x ≤ hiL line i then x else loL line i) else v 0))
        by_cases e : j = i
        · rw [if_pos e, if_pos hin, e, x3]
          refine ⟨rfl, fun ho => ?_⟩
          have hi1 := (of_decide_eq_true ho).1
          rw [if_neg (by omega)]
          exact hot ho
        · rw [if_neg e, o3 j e]
          have hvj := hv hw j j0 (by omega)
          refine ⟨hvj.1, fun ho => ?_⟩
          have hi1 := (of_decide_eq_true ho).1
          rw [if_neg (by omega)]
          exact hvj.2 ho
      rcases ih f' (i + 1) (nx (wsT n T) (teT n T q)) w' _ C3 G3 (by omega) (by omega) (by omega) hL3 hvnew hnew with ⟨C', G', v', w'', q', a1, a2, a3, a4, a5, a6, a7, a8⟩ | ⟨C', G', v', a1, a2, a3, a6, a7, a8⟩
      · exact Or.inl ⟨C', G', v', w'', q', a1, a2, a3, by omega, fun h => ⟨(hgood (a5 h).1).1, (a5 h).2⟩, a6, FC.trans a7, FM.trans a8⟩
      · exact Or.inr ⟨C', G', v', a1, a2, a3, a6, FC.trans a7, FM.trans a8⟩
    · rw [if_neg h2, if_neg (fun z => h2 (hmk.mp z)), Option.bind_some]
      have e8 : en G 201 8 = 1 := by unfold en; rw [upd2_o (by omega), upd2_o (by omega), upd2_s]
      obtain ⟨v', b1, b2⟩ := mN_dead (K := K) l0 l1 m (i + 1) (fun j => if j = i then loL line i else v j) (en G) (by omega) (by omega) (fun j j0 j1 => by
        show loL line j ≤ (if j = i then loL line i else v j) ∧ (if j = i then loL line i else v j) ≤ hiL line j
        by_cases e : j = i
        · rw [if_pos e, e]; omega
        · rw [if_neg e]; exact hr j j0 (by omega)) e8
      refine Or.inr ⟨upd2 (upd2 C 39 3 1) 39 4 q, en G, v', ?_, b1, ⟨?_, e8, ?_, ?_⟩, fun j j0 j1 => b2 j j0 (by omega), fun a j u u2 => by rw [upd2_o (by omega), upd2_o (by omega)], en_fr G⟩
      · show (cSc_breakOff C).bind _ = _
        unfold cSc_breakOff
        rw [Option.bind_some, upd2_o (show ¬ ((39 : Int) = 39 ∧ (9 : Int) = 3) by omega), t9]
      · rw [upd2_o (by omega), upd2_s]
      · unfold en; rw [upd2_o (by omega), upd2_s]
      · unfold en; rw [upd2_s, upd2_s, g4]
