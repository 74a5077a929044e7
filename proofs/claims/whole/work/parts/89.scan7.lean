-- texts: wants; a line of a paper
def farU (a b : Int) (G : Hp) : Hp := upd2 (upd2 G 201 9 (if G 201 9 < a then a else G 201 9)) 201 10 (if G 201 10 < b then b else G 201 10)
theorem farU_fr {a b : Int} {G : Hp} {x j : Int} (h : ¬ (x = 201 ∧ (j = 9 ∨ j = 10))) : farU a b G x j = G x j := by
  unfold farU
  rw [upd2_o (by omega), upd2_o (by omega)]
def tl9 (v : Int → Int) (G : Hp) : Hp := upd2 (farU (v 0) (v 1) G) 204 (32 + 8 * v 0 + v 1) (v 2)
def K9 (v : Int → Int) (G : Hp) : Option Hp := (gd (w32 ((w32 (32 + (w32 (8 * v 0)))) + v 1)) 121 (some (upd2 (farU (v 0) (v 1) G) 204 (w32 ((w32 (32 + (w32 (8 * v 0)))) + v 1)) (v 2)))).bind mm_paperLine_j86
theorem want_eq (r0 r1 : Int) (G : Hp) : (if G 201 9 < r0 then mm_wantTold_j32 r0 r1 r0 G else mm_wantTold_j32 r0 r1 (G 201 9) G) = (mm_numbered 0 9 G).bind fun r3 => gd (w32 ((w32 (32 + (w32 (8 * r0)))) + r1)) 121 (some (upd2 (farU r0 r1 r3.2) 204 (w32 ((w32 (32 + (w32 (8 * r0)))) + r1)) r3.1)) := by
  have h1 : (if G 201 9 < r0 then mm_wantTold_j32 r0 r1 r0 G else mm_wantTold_j32 r0 r1 (G 201 9) G) = mm_wantTold_j32 r0 r1 (if G 201 9 < r0 then r0 else G 201 9) G := by
    by_cases h : G 201 9 < r0
    · rw [if_pos h, if_pos h]
    · rw [if_neg h, if_neg h]
  rw [h1]
  unfold mm_wantTold_j32 mm_wantTold_j52
  have e10 : ∀ s, upd2 G 201 9 s 201 10 = G 201 10 := fun s => upd2_o (by omega)
  rw [e10, numbered_U (Or.inr rfl), numbered_U (Or.inr rfl), numbered_U (Or.inl rfl)]
  have h2 : ∀ s t : Int, MUn 10 t (MUn 9 s (mm_numbered 0 9 G)) = (mm_numbered 0 9 G).bind fun r => some (r.1, upd2 (upd2 r.2 201 9 s) 201 10 t) := fun s t => by
    unfold MUn
    cases mm_numbered 0 9 G <;> rfl
  rw [h2, h2]
  cases h : mm_numbered 0 9 G with
  | none =>
    by_cases h3 : G 201 10 < r1
    · rw [if_pos h3]; rfl
    · rw [if_neg h3]; rfl
  | some r3 =>
    obtain ⟨x, G3⟩ := r3
    have k9 := numbered_keeps (Or.inl rfl) h
    have k10 := numbered_keeps (Or.inr rfl) h
    rw [Option.bind_some, Option.bind_some, Option.bind_some, Option.bind_some, Option.bind_some]
    unfold farU
    dsimp only
    have same : ∀ x y r : Int, x = y → (if x < r then r else x) = (if y < r then r else y) := fun x y r e => by rw [e]
    rw [same _ _ r0 k9, same _ _ r1 k10]
    by_cases h3 : G 201 10 < r1
    · rw [if_pos h3, if_pos h3]
    · rw [if_neg h3, if_neg h3]
theorem k9_eq {v0 : Int → Int} {G : Hp} : ((mm_wantTold G).bind fun G80 => mm_paperLine_j86 G80) = mN 9 K9 (stg 0 9).toNat 0 v0 G := by
  have e1 : (stg 0 9).toNat = 3 := by decide
  have e : nmb (othL 9 0) (loL 9 0) (hiL 9 0) (v0 0) G = mm_numbered 0 5 G := rfl
  have e2 : ∀ (a : Int) (G : Hp), nmb (othL 9 1) (loL 9 1) (hiL 9 1) a G = mm_numbered 0 7 G := fun a G => rfl
  have e3 : ∀ (a : Int) (G : Hp), nmb (othL 9 2) (loL 9 2) (hiL 9 2) a G = mm_numbered 0 9 G := fun a G => rfl
  rw [e1]
  show _ = (nmb (othL 9 0) (loL 9 0) (hiL 9 0) (v0 0) G).bind fun r => (nmb (othL 9 1) (loL 9 1) (hiL 9 1) r.1 r.2).bind fun r2 => (nmb (othL 9 2) (loL 9 2) (hiL 9 2) r.1 r2.2).bind fun r3 => mN 9 K9 0 (2 + 1) (fun j => if j = 2 then r3.1 else if j = 1 then r2.1 else if j = 0 then r.1 else v0 j) r3.2
  rw [e]
  unfold mm_wantTold
  cases mm_numbered 0 5 G with
  | none => rfl
  | some r =>
    show ((mm_numbered 0 7 r.2).bind _).bind _ = (nmb (othL 9 1) (loL 9 1) (hiL 9 1) r.1 r.2).bind _
    rw [e2]
    cases mm_numbered 0 7 r.2 with
    | none => rfl
    | some r2 =>
      show (if r2.2 201 9 < r.1 then mm_wantTold_j32 r.1 r2.1 r.1 r2.2 else mm_wantTold_j32 r.1 r2.1 (r2.2 201 9) r2.2).bind _ = (nmb (othL 9 2) (loL 9 2) (hiL 9 2) r.1 r2.2).bind _
      rw [e3, want_eq]
      cases mm_numbered 0 9 r2.2 <;> rfl
theorem K9_ok {v : Int → Int} {G : Hp} (h : CMp G) (a0 : 0 ≤ v 0) (a1 : v 0 ≤ 5) (b0 : 0 ≤ v 1) (b1 : v 1 ≤ 7) : K9 v G = mm_endsLine (tl9 v G) ∧ TFr G (tl9 v G) ∧ CMp (tl9 v G) := by
  obtain ⟨h0, h1⟩ := h
  unfold K9 tl9
  rw [w32_id (z := 8 * v 0) (by omega) (by omega), w32_id (z := 32 + 8 * v 0) (by omega) (by omega), w32_id (z := 32 + 8 * v 0 + v 1) (by omega) (by omega), gd_ok (by omega) (by omega), Option.bind_some, j86_eq]
  exact ⟨rfl, fun a j u x => by rw [upd2_o (by omega), farU_fr (by omega)], by rw [upd2_o (by omega), farU_fr (by omega)]; exact h0, by rw [upd2_o (by omega), farU_fr (by omega)]; exact h1⟩
theorem keep9_eq {C : Hp} : cSc_keep 9 C = (cPa_want 40 (C 56 0) (C 56 1) (C 56 2) C).bind fun G121 => some (upd2 (upd2 G121 39 12 (max (G121 39 12) (G121 56 0))) 39 13 (max (G121 39 13) (G121 56 1))) := by
  unfold cSc_keep
  rw [if_neg (show ¬ (9 : Int) = 6 by omega), if_neg (show ¬ (9 : Int) = 7 by omega), if_neg (show ¬ (9 : Int) = 8 by omega), if_pos rfl]
  cases cPa_want 40 (C 56 0) (C 56 1) (C 56 2) C with
  | none => rfl
  | some G121 =>
    have e1 : upd2 G121 39 12 (max (G121 39 12) (G121 56 0)) 39 13 = G121 39 13 := upd2_o (by omega)
    have e2 : upd2 G121 39 12 (max (G121 39 12) (G121 56 0)) 56 1 = G121 56 1 := upd2_o (by omega)
    rw [Option.bind_some, Option.bind_some, e1, e2]
theorem keep9_any {C : Hp} (h : CntC C) : ok (cSc_keep 9 C) (fun C' => KFr C C' ∧ CntC C') := by
  rw [keep9_eq]
  have hw : ok (cPa_want 40 (C 56 0) (C 56 1) (C 56 2) C) (fun C1 => ∀ x j, x ≠ 47 → C1 x j = C x j) := by
    unfold cPa_want
    refine ok_ite (fun _ => ok_some fun _ _ _ => rfl) (fun e1 => ok_ite (fun e2 => ok_ite (fun _ => ok_some fun _ _ _ => rfl) (fun e3 => ok_ite (fun e4 => ?_) (fun _ => ok_some fun _ _ _ => rfl))) (fun _ => ok_some fun _ _ _ => rfl))
    rw [w32_id (z := 8 * C 56 0) (by omega) (by omega), w32_id (z := 8 * C 56 0 + C 56 1) (by omega) (by omega)]
    exact ok_gd (by omega) (by omega) (ok_some fun x j u => upd2_o (by omega))
  refine ok_then hw fun C1 h1 => ok_some ⟨fun a j u x => ?_, ?_⟩
  · rw [upd2_o (by omega), upd2_o (by omega), h1 _ _ (by omega)]
  · unfold CntC
    rw [upd2_o (by omega), upd2_o (by omega), upd2_o (by omega), upd2_o (by omega), upd2_o (by omega), upd2_o (by omega), upd2_o (by omega), upd2_o (by omega), h1 _ _ (by omega), h1 _ _ (by omega), h1 _ _ (by omega), h1 _ _ (by omega)]
    exact h
theorem keep9_dat {C G : Hp} {v : Int → Int} (h : CntC C) (hD : Dat0 C G) (a0 : 0 ≤ v 0) (a1 : v 0 ≤ 5) (b0 : 0 ≤ v 1) (b1 : v 1 ≤ 7) (w0 : 0 ≤ v 2) (w1 : v 2 ≤ 9) (hv0 : v 0 = C 56 0) (hv1 : v 1 = C 56 1) (hv2 : v 2 = C 56 2) : ok (cSc_keep 9 C) (fun C' => KFr C C' ∧ CntC C' ∧ Dat0 C' (tl9 v G)) := by
  have hA := keep9_any h
  obtain ⟨⟨hV, ⟨⟨p1, p2⟩, p3, p4, p5, p6, p7⟩⟩, ⟨f1, f2, f3⟩, ⟨h1, h2, h3⟩⟩ := hD
  have hw : cPa_want 40 (C 56 0) (C 56 1) (C 56 2) C = some (upd2 C 47 (8 * v 0 + v 1) (v 2)) := by
    unfold cPa_want
    rw [← hv0, ← hv1, ← hv2, if_neg (by omega), if_pos (by omega), if_neg (by omega), if_pos (by omega), w32_id (z := 8 * v 0) (by omega) (by omega), w32_id (z := 8 * v 0 + v 1) (by omega) (by omega), gd_ok (by omega) (by omega)]
    rfl
  rw [keep9_eq, hw, Option.bind_some] at hA ⊢
  have o1 : ∀ x j, x ≠ 47 → upd2 C 47 (8 * v 0 + v 1) (v 2) x j = C x j := fun x j u => upd2_o (by omega)
  rw [o1 39 12 (by omega), o1 39 13 (by omega), o1 56 0 (by omega), o1 56 1 (by omega), ← hv0, ← hv1] at hA ⊢
  generalize hC' : upd2 (upd2 (upd2 C 47 (8 * v 0 + v 1) (v 2)) 39 12 (max (C 39 12) (v 0))) 39 13 (max (C 39 13) (v 1)) = C' at *
  obtain ⟨r, er, k1, k2⟩ := hA
  have er' : C' = r := Option.some.inj er
  subst er'
  refine ok_some ⟨k1, k2, ?_⟩
  have z : ∀ a j, ¬ (a = 39 ∧ (j = 12 ∨ j = 13)) → ¬ (a = 47 ∧ j = 8 * v 0 + v 1) → C' a j = C a j := fun a j u u2 => by rw [← hC', upd2_o (by omega), upd2_o (by omega), upd2_o (by omega)]
  have z12 : C' 39 12 = max (C 39 12) (v 0) := by rw [← hC', upd2_o (by omega), upd2_s]
  have z13 : C' 39 13 = max (C 39 13) (v 1) := by rw [← hC', upd2_s]
  have z47 : C' 47 (8 * v 0 + v 1) = v 2 := by rw [← hC', upd2_o (by omega), upd2_o (by omega), upd2_s]
  have g9 : tl9 v G 201 9 = if G 201 9 < v 0 then v 0 else G 201 9 := by
    unfold tl9 farU
    rw [upd2_o (by omega), upd2_o (by omega), upd2_s]
  have g10 : tl9 v G 201 10 = if G 201 10 < v 1 then v 1 else G 201 10 := by
    unfold tl9 farU
    rw [upd2_o (by omega), upd2_s]
  have g204 : farU (v 0) (v 1) G 204 = G 204 := funext fun j => farU_fr (by omega)
  have eP : ct 80 (tl9 v G 204) 0 = fun k => if k = 32 + 8 * v 0 + v 1 then v 2 else ct 80 (G 204) 0 k := by
    unfold tl9
    rw [cz_upd (by omega) (by omega), g204]
  obtain ⟨V1, V2, ⟨V3, V4⟩, V5, V6, V7⟩ := hV
  generalize hPP : ct 80 (G 204) 0 = P at *
  generalize hPQ : (fun k : Int => if k = 32 + 8 * v 0 + v 1 then v 2 else P k) = P' at *
  have qs : P' (32 + 8 * v 0 + v 1) = v 2 := by
    rw [← hPQ]
    show (if 32 + 8 * v 0 + v 1 = 32 + 8 * v 0 + v 1 then v 2 else _) = _
    rw [if_pos rfl]
  have qk : ∀ k, k ≠ 32 + 8 * v 0 + v 1 → P' k = P k := fun k u => by
    rw [← hPQ]
    show (if k = 32 + 8 * v 0 + v 1 then v 2 else P k) = _
    rw [if_neg u]
  unfold Dat0
  rw [eP, g9, g10, z12, z13]
  refine ⟨⟨⟨by rw [qk 0 (by omega)]; exact V1, by rw [qk 1 (by omega)]; exact V2, ⟨fun p x0 x1 => ?_, fun p x0 x1 => ?_⟩, NW_congr (fun w w0 w1 => (qk (10 + w) (by omega)).symm) V5, fun r r0 r1 => ?_, fun r p r0 r1 x0 x1 => ?_⟩, ⟨⟨by rw [z _ _ (by omega) (by omega), qk 0 (by omega)]; exact p1, by rw [z _ _ (by omega) (by omega), qk 1 (by omega)]; exact p2⟩, ?_, p4.fr fun a j u x => z _ _ (by omega) (by omega), fun w w0 w1 => by rw [z _ _ (by omega) (by omega), qk _ (by omega)]; exact p5 w w0 w1, fun r r0 r1 => ?_, fun r p r0 r1 x0 x1 => ?_⟩⟩, ?_, ?_⟩
  · show 0 ≤ P' (2 + p) ∧ P' (2 + p) < 10
    rw [qk _ (by omega)]; exact V3 p x0 x1
  · rw [qk 0 (by omega)] at x0
    rw [qk _ (by omega)]
    exact V4 p x0 x1
  · rw [qk _ (by omega), qk _ (by omega)]; exact V6 r r0 r1
  · by_cases e : 32 + 8 * r + p = 32 + 8 * v 0 + v 1
    · rw [e, qs]; omega
    · rw [qk _ e]; exact V7 r p r0 r1 x0 x1
  · rw [z _ _ (by omega) (by omega)]
    exact PK_congr p3 fun p x0 x1 => (qk (2 + p) (by omega)).symm
  · rw [qk 1 (by omega)] at r1
    rw [z _ _ (by omega) (by omega), z _ _ (by omega) (by omega), qk _ (by omega), qk _ (by omega)]
    exact p6 r r0 r1
  · by_cases e : 8 * r + p = 8 * v 0 + v 1
    · rw [show (40 : Int) + 7 = 47 from rfl, e, z47, show 32 + 8 * r + p = 32 + 8 * v 0 + v 1 by omega, qs]
    · rw [z _ _ (by omega) (by omega), qk _ (by omega)]
      exact p7 r p r0 r1 x0 x1
  · rw [f1]
    by_cases e : G 201 9 < v 0
    · rw [if_pos e]; omega
    · rw [if_neg e]; omega
  · rw [h1]
    by_cases e : G 201 10 < v 1
    · rw [if_pos e]; omega
    · rw [if_neg e]; omega
/-- a line of a paper -/
theorem paper_line {n w q : Int} {T : Int → Int} {C G : Hp} (hL : Live n T w q C G) (hcc : CntC C) (hcm : CMp G) (hD : w = 0 → Dat0 C G) : LineRes n T Dat0 CMp q (cSc_line 0 C) (mm_paperLine G) C G := by
  have hlo := lineOf_ok (s := 0) hL
  have hwi := wordIn_ok (a := 1) (b := 4) hL (by omega) (by omega)
  have e4 : G 201 4 = q := hL.2.1.2.2.1
  have h8 : G 201 8 = 0 := hL.2.2.1.2.2.1
  have hpl : w ≠ 0 → G 202 6 < q := hL.2.2.2.2
  have hw5 : G 202 5 = w := hL.2.2.1.2.1
  have hcmf : ∀ G G', CMp G → (∀ j, G' 204 j = G 204 j) → CMp G' := fun G G' h e => by unfold CMp; rw [e, e]; exact h
  by_cases hg : tkT n T q = 1 ∧ 1 ≤ wcT T q (teT n T q) ∧ wcT T q (teT n T q) ≤ 4
  · rw [if_pos hg] at hwi
    rw [if_pos hg.1] at hlo
    have hlo2 : lnW 0 (wcT T q (teT n T q)) = wcT T q (teT n T q) + 5 := by
      unfold lnW
      rw [if_pos rfl, if_pos hg.2]
    rw [hlo2] at hlo
    have hML : ∀ G1, mm_advance G = some G1 → (∀ a j, ¬ (a = 201 ∧ 3 ≤ j ∧ j ≤ 7) → G1 a j = G a j) → mm_paperLine G = mm_paperLine_j24 q (wcT T q (teT n T q)) G1 ∧ (∀ fm : Bool, mm_also 3 q G1 = some (flk 3 q true G1) ∧ flk 3 q false G1 = G1 ∧ fm = fm) := fun G1 e f => by
      refine ⟨?_, fun fm => ⟨also_ok ((f _ _ (by omega)).trans h8) (fun z => ?_), if_neg (fun z => Bool.noConfusion z.1), rfl⟩⟩
      · unfold mm_paperLine
        rw [hwi, e, Option.bind_some, Option.bind_some]
        show (if G1 201 8 = 0 then mm_paperLine_j24 (G 201 4) (wcT T q (teT n T q)) G1 else mm_paperLine_j24 (G 201 4) 0 G1) = _
        rw [if_pos ((f _ _ (by omega)).trans h8), e4]
      · rw [f 202 5 (by omega), hw5] at z
        rw [f 202 6 (by omega)]
        exact Or.inl (hpl z)
    have hwc : wcT T q (teT n T q) = 1 ∨ wcT T q (teT n T q) = 2 ∨ wcT T q (teT n T q) = 3 ∨ wcT T q (teT n T q) = 4 := by omega
    rcases hwc with hwc | hwc | hwc | hwc
    · rw [hwc] at hlo hML
      refine line_gen (line := 6) (K := K6) (tl := tl6) (full := decide (8 ≤ C 40 1)) (fullM := decide (8 ≤ G 204 0)) (v0 := fun _ => 0) (by omega) (by omega) hL hg.1 hlo ?_ (fun hw => ?_) (fun G1 e f => ?_) hcc hcm hcmf (fun v G hv hc => K6_ok hc) (fun C h => keep6_any h) (fun C G C' G' h a b => h.fr a b) (fun hw hf v C' G' hc hd he hv hx => ?_) hD
      · unfold cSc_isFull
        rw [if_pos rfl]
        by_cases h : 8 ≤ C 40 1
        · rw [if_pos h, decide_eq_true h]
        · rw [if_neg h, decide_eq_false h]
      · have h := (hD hw).1.2.1.1
        rw [cz (by omega) (by omega)] at h
        rw [h]
      · obtain ⟨m1, m2⟩ := hML G1 e f
        rw [m1]
        unfold mm_paperLine_j24
        rw [if_pos rfl, ← k6_eq (q := q)]
        unfold mm_wordTold
        rw [f 204 0 (by omega), (m2 true).1, Option.bind_some]
        by_cases h : 8 ≤ G 204 0
        · rw [if_pos h, decide_eq_true h]
        · rw [if_neg h, decide_eq_false h, (m2 true).2.1]
      · have hv0 := hv 0 (by omega) (by decide)
        have l0 : loL 6 0 = 0 := rfl
        have h0 : hiL 6 0 = 9 := rfl
        rw [l0, h0] at hv0
        have hf' := of_decide_eq_false hf
        exact keep6_dat hc hd (by rw [he]; omega) hv0.1 hv0.2 (hx 0 (by omega) (by decide)).1
    · rw [hwc] at hlo hML
      refine line_gen (line := 7) (K := K7) (tl := tl7) (full := false) (fullM := false) (v0 := fun _ => 0) (by omega) (by omega) hL hg.1 hlo ?_ (fun hw => rfl) (fun G1 e f => ?_) hcc hcm hcmf (fun v G hv hc => ?_) (fun C h => keep7_any h) (fun C G C' G' h a b => h.fr a b) (fun hw hf v C' G' hc hd he hv hx => ?_) hD
      · unfold cSc_isFull
        rw [if_neg (by omega), if_pos rfl]
      · obtain ⟨m1, m2⟩ := hML G1 e f
        rw [m1, (m2 true).2.1]
        unfold mm_paperLine_j24
        rw [if_neg (by omega), if_pos rfl, ← k7_eq]
      · have hv0 := hv 0 (by omega) (by decide)
        have hv1 := hv 1 (by omega) (by decide)
        have l0 : loL 7 0 = 0 := rfl
        have h0 : hiL 7 0 = 9 := rfl
        have l1 : loL 7 1 = 0 := rfl
        have h1 : hiL 7 1 = 9 := rfl
        rw [l0, h0] at hv0
        rw [l1, h1] at hv1
        exact K7_ok hc hv0.1 hv0.2 hv1.1 hv1.2
      · have hv0 := hv 0 (by omega) (by decide)
        have hv1 := hv 1 (by omega) (by decide)
        have l0 : loL 7 0 = 0 := rfl
        have h0 : hiL 7 0 = 9 := rfl
        have l1 : loL 7 1 = 0 := rfl
        have h1 : hiL 7 1 = 9 := rfl
        rw [l0, h0] at hv0
        rw [l1, h1] at hv1
        have hx1 := hx 1 (by omega) (by decide)
        exact keep7_dat hc hd hv0.1 hv0.2 hv1.1 hv1.2 (hx1.2 rfl) (hx 0 (by omega) (by decide)).1 hx1.1
    · rw [hwc] at hlo hML
      refine line_gen (line := 8) (K := K8) (tl := tl8) (full := decide (6 ≤ C 40 2)) (fullM := decide (6 ≤ G 204 1)) (v0 := fun _ => 0) (by omega) (by omega) hL hg.1 hlo ?_ (fun hw => ?_) (fun G1 e f => ?_) hcc hcm hcmf (fun v G hv hc => K8_ok hc) (fun C h => ok_mono (keep8_all h) fun _ z => ⟨z.1, z.2.1⟩) (fun C G C' G' h a b => h.fr a b) (fun hw hf v C' G' hc hd he hv hx => ?_) hD
      · unfold cSc_isFull
        rw [if_neg (by omega), if_neg (by omega), if_pos rfl]
        by_cases h : 6 ≤ C 40 2
        · rw [if_pos h, decide_eq_true h]
        · rw [if_neg h, decide_eq_false h]
      · have h := (hD hw).1.2.1.2
        rw [cz (by omega) (by omega)] at h
        rw [h]
      · obtain ⟨m1, m2⟩ := hML G1 e f
        rw [m1]
        unfold mm_paperLine_j24
        rw [if_neg (by omega), if_neg (by omega), if_pos rfl, ← k8_eq (q := q)]
        unfold mm_readerTold
        rw [f 204 1 (by omega), (m2 true).1, Option.bind_some]
        by_cases h : 6 ≤ G 204 1
        · rw [if_pos h, decide_eq_true h]
        · rw [if_neg h, decide_eq_false h, (m2 true).2.1]
      · have hv0 := hv 0 (by omega) (by decide)
        have hv1 := hv 1 (by omega) (by decide)
        have l0 : loL 8 0 = 0 := rfl
        have h0 : hiL 8 0 = 9 := rfl
        have l1 : loL 8 1 = 1 := rfl
        have h1 : hiL 8 1 = 9 := rfl
        rw [l0, h0] at hv0
        rw [l1, h1] at hv1
        have hf' := of_decide_eq_false hf
        exact keep8_dat hc hd (by rw [he]; omega) hv0.1 hv0.2 (by omega) hv1.2 (hx 0 (by omega) (by decide)).1 (hx 1 (by omega) (by decide)).1
    · rw [hwc] at hlo hML
      refine line_gen (line := 9) (K := K9) (tl := tl9) (full := false) (fullM := false) (v0 := fun _ => 0) (by omega) (by omega) hL hg.1 hlo ?_ (fun hw => rfl) (fun G1 e f => ?_) hcc hcm hcmf (fun v G hv hc => ?_) (fun C h => keep9_any h) (fun C G C' G' h a b => h.fr a b) (fun hw hf v C' G' hc hd he hv hx => ?_) hD
      · unfold cSc_isFull
        rw [if_neg (by omega), if_neg (by omega), if_neg (by omega), if_pos rfl]
      · obtain ⟨m1, m2⟩ := hML G1 e f
        rw [m1, (m2 true).2.1]
        unfold mm_paperLine_j24
        rw [if_neg (by omega), if_neg (by omega), if_neg (by omega), if_pos rfl, ← k9_eq]
      · have hv0 := hv 0 (by omega) (by decide)
        have hv1 := hv 1 (by omega) (by decide)
        have l0 : loL 9 0 = 0 := rfl
        have h0 : hiL 9 0 = 5 := rfl
        have l1 : loL 9 1 = 0 := rfl
        have h1 : hiL 9 1 = 7 := rfl
        rw [l0, h0] at hv0
        rw [l1, h1] at hv1
        exact K9_ok hc hv0.1 hv0.2 hv1.1 hv1.2
      · have hv0 := hv 0 (by omega) (by decide)
        have hv1 := hv 1 (by omega) (by decide)
        have hv2 := hv 2 (by omega) (by decide)
        have l0 : loL 9 0 = 0 := rfl
        have h0 : hiL 9 0 = 5 := rfl
        have l1 : loL 9 1 = 0 := rfl
        have h1 : hiL 9 1 = 7 := rfl
        have l2 : loL 9 2 = 0 := rfl
        have h2 : hiL 9 2 = 9 := rfl
        rw [l0, h0] at hv0
        rw [l1, h1] at hv1
        rw [l2, h2] at hv2
        exact keep9_dat hc hd hv0.1 hv0.2 hv1.1 hv1.2 hv2.1 hv2.2 (hx 0 (by omega) (by decide)).1 (hx 1 (by omega) (by decide)).1 (hx 2 (by omega) (by decide)).1
  · rw [if_neg hg] at hwi
    have hlo3 : (if tkT n T q = 1 then lnW 0 (wcT T q (teT n T q)) else -1) = -1 := by
      by_cases ht : tkT n T q = 1
      · rw [if_pos ht]
        unfold lnW
        rw [if_pos rfl, if_neg (fun z => hg ⟨ht, z⟩)]
      · rw [if_neg ht]
    rw [hlo3] at hlo
    obtain ⟨x1, x2, x3⟩ := en8 G
    refine line_no hL hlo ⟨en G, ?_, x1, x2, x3.trans e4, (en_fr G).m⟩
    unfold mm_paperLine
    rw [hwi, Option.bind_some]
    show (if en G 201 8 = 0 then mm_paperLine_j24 (G 201 4) 0 (en G) else mm_paperLine_j24 (G 201 4) 0 (en G)) = _
    rw [if_neg (by omega)]
    unfold mm_paperLine_j24
    rw [if_neg (by omega), if_neg (by omega), if_neg (by omega), if_neg (by omega), j86_eq, endsLine_1 x1]
