-- texts: a line of a log, a line of a week
def CMo (G : Hp) : Prop := 0 ≤ G 204 0
def Far0 (C : Hp) : Prop := C 39 12 = -1 ∧ C 39 13 = -1
def Dat2 (C G : Hp) : Prop := (LogV (ct 17 (G 204) 0) ∧ LogC C 52 (ct 17 (G 204) 0)) ∧ Far0 C
def Dat1 (C G : Hp) : Prop := (WeekV (ct 121 (G 204) 0) ∧ WeekC C 48 (ct 121 (G 204) 0)) ∧ Far0 C
theorem Dat2.fr {C G C' G' : Hp} (h : Dat2 C G) (hC : FrC C C') (hG : FrM G G') : Dat2 C' G' := by
  have e : G' 204 = G 204 := funext fun j => hG _ _ (by omega) (by omega)
  unfold Dat2 Far0
  rw [e, hC 39 12 (by omega) (by omega), hC 39 13 (by omega) (by omega)]
  exact ⟨⟨h.1.1, h.1.2.fr fun a j u v => hC _ _ (by omega) (by omega)⟩, h.2⟩
theorem Dat1.fr {C G C' G' : Hp} (h : Dat1 C G) (hC : FrC C C') (hG : FrM G G') : Dat1 C' G' := by
  have e : G' 204 = G 204 := funext fun j => hG _ _ (by omega) (by omega)
  unfold Dat1 Far0
  rw [e, hC 39 12 (by omega) (by omega), hC 39 13 (by omega) (by omega)]
  exact ⟨⟨h.1.1, h.1.2.fr fun a j u v => hC _ _ (by omega) (by omega)⟩, h.2⟩
theorem j107_eq (G : Hp) : mm_logLine_j107 G = mm_endsLine G := by
  unfold mm_logLine_j107
  exact bndS _
theorem j221_eq (G : Hp) : mm_weekLine_j221 G = mm_endsLine G := by
  unfold mm_weekLine_j221
  exact bndS _
-- a log
def tl10 (v : Int → Int) (G : Hp) : Hp := if G 204 0 < 8 then upd2 (upd2 (upd2 G 204 (1 + 2 * G 204 0) (v 0)) 204 (2 + 2 * G 204 0) (v 1)) 204 0 (G 204 0 + 1) else G
def K10 (v : Int → Int) (G : Hp) : Option Hp := if G 204 0 < 8 then (gd (w32 (1 + (w32 (2 * (G 204 0))))) 121 (gd (w32 (2 + (w32 (2 * ((upd2 G 204 (w32 (1 + (w32 (2 * (G 204 0))))) (v 0)) 204 0))))) 121 (mm_logLine_j107 (upd2 (upd2 (upd2 G 204 (w32 (1 + (w32 (2 * (G 204 0))))) (v 0)) 204 (w32 (2 + (w32 (2 * ((upd2 G 204 (w32 (1 + (w32 (2 * (G 204 0))))) (v 0)) 204 0))))) (v 1)) 204 0 (w32 (((upd2 (upd2 G 204 (w32 (1 + (w32 (2 * (G 204 0))))) (v 0)) 204 (w32 (2 + (w32 (2 * ((upd2 G 204 (w32 (1 + (w32 (2 * (G 204 0))))) (v 0)) 204 0))))) (v 1)) 204 0) + 1)))))) else mm_logLine_j107 G
theorem k10_eq {v0 : Int → Int} {G : Hp} : mm_logLine_j38 G = mN 10 K10 (stg 0 10).toNat 0 v0 G := by
  have e1 : (stg 0 10).toNat = 2 := by decide
  have e : nmb (othL 10 0) (loL 10 0) (hiL 10 0) (v0 0) G = mm_numbered 0 7 G := rfl
  have e2 : ∀ (a : Int) (G : Hp), nmb (othL 10 1) (loL 10 1) (hiL 10 1) a G = mm_numbered 0 9 G := fun a G => rfl
  rw [e1]
  show _ = (nmb (othL 10 0) (loL 10 0) (hiL 10 0) (v0 0) G).bind fun r => (nmb (othL 10 1) (loL 10 1) (hiL 10 1) r.1 r.2).bind fun r2 => mN 10 K10 0 (1 + 1) (fun j => if j = 1 then r2.1 else if j = 0 then r.1 else v0 j) r2.2
  rw [e]
  unfold mm_logLine_j38
  cases mm_numbered 0 7 G with
  | none => rfl
  | some r =>
    show (mm_numbered 0 9 r.2).bind _ = (nmb (othL 10 1) (loL 10 1) (hiL 10 1) r.1 r.2).bind _
    rw [e2]
    cases mm_numbered 0 9 r.2 <;> rfl
theorem K10_ok {v : Int → Int} {G : Hp} (h : CMo G) : K10 v G = mm_endsLine (tl10 v G) ∧ TFr G (tl10 v G) ∧ CMo (tl10 v G) := by
  unfold CMo at h
  unfold K10 tl10
  by_cases e : G 204 0 < 8
  · rw [if_pos e, if_pos e, w32_id (z := 2 * G 204 0) (by omega) (by omega), w32_id (z := 1 + 2 * G 204 0) (by omega) (by omega)]
    have e1 : upd2 G 204 (1 + 2 * G 204 0) (v 0) 204 0 = G 204 0 := upd2_o (by omega)
    rw [e1, w32_id (z := 2 * G 204 0) (by omega) (by omega), w32_id (z := 2 + 2 * G 204 0) (by omega) (by omega)]
    have e2 : upd2 (upd2 G 204 (1 + 2 * G 204 0) (v 0)) 204 (2 + 2 * G 204 0) (v 1) 204 0 = G 204 0 := by rw [upd2_o (by omega), upd2_o (by omega)]
    rw [e2, w32_id (z := G 204 0 + 1) (by omega) (by omega), gd_ok (by omega) (by omega), gd_ok (by omega) (by omega), j107_eq]
    exact ⟨rfl, fun a j u _ => by rw [upd2_o (by omega), upd2_o (by omega), upd2_o (by omega)], by unfold CMo; rw [upd2_s]; omega⟩
  · rw [if_neg e, if_neg e, j107_eq]
    exact ⟨rfl, fun _ _ _ _ => rfl, h⟩
theorem keep10_all {C : Hp} (h : CntC C) : ok (cSc_keep 10 C) (fun C' => KFr C C' ∧ CntC C' ∧ (C 52 0 < 8 → C' 52 0 = C 52 0 + 1 ∧ C' 53 (C 52 0) = C 56 0 ∧ C' 54 (C 52 0) = C 56 1 ∧ ∀ a j, ¬ (a = 52 ∧ j = 0) → ¬ ((a = 53 ∨ a = 54) ∧ j = C 52 0) → C' a j = C a j)) := by
  obtain ⟨⟨h1, h2⟩, h3, h4⟩ := h
  unfold cSc_keep cLg_add
  rw [if_neg (show ¬ (10 : Int) = 6 by omega), if_neg (show ¬ (10 : Int) = 7 by omega), if_neg (show ¬ (10 : Int) = 8 by omega), if_neg (show ¬ (10 : Int) = 9 by omega), if_pos rfl, bndS]
  refine ok_ite (fun e => ?_) (fun e => ok_some ⟨fun _ _ _ _ => rfl, ⟨⟨h1, h2⟩, h3, h4⟩, fun x => absurd x e⟩)
  rw [show (52 : Int) + 1 = 53 from rfl, show (52 : Int) + 2 = 54 from rfl]
  have e1 : upd2 C 53 (C 52 0) (C 56 0) 52 0 = C 52 0 := upd2_o (by omega)
  rw [e1]
  have e2 : upd2 (upd2 C 53 (C 52 0) (C 56 0)) 54 (C 52 0) (C 56 1) 52 0 = C 52 0 := by rw [upd2_o (by omega), upd2_o (by omega)]
  rw [e2, w32_id (by omega) (by omega), gd_ok h4 e, gd_ok h4 e]
  refine ok_some ⟨fun a j u _ => by rw [upd2_o (by omega), upd2_o (by omega), upd2_o (by omega)], ⟨⟨by rw [upd2_o (by omega), upd2_o (by omega), upd2_o (by omega)]; exact h1, by rw [upd2_o (by omega), upd2_o (by omega), upd2_o (by omega)]; exact h2⟩, by rw [upd2_o (by omega), upd2_o (by omega), upd2_o (by omega)]; exact h3, by rw [upd2_s]; omega⟩, fun _ => ⟨upd2_s, ?_, ?_, fun a j u u2 => ?_⟩⟩
  · rw [upd2_o (by omega), upd2_o (by omega), upd2_s]
  · rw [upd2_o (by omega), upd2_s]
  · rw [upd2_o (by omega), upd2_o (by omega), upd2_o (by omega)]
theorem keep10_dat {C G : Hp} {v : Int → Int} (h : CntC C) (hD : Dat2 C G) (h8 : G 204 0 < 8) (a0 : 0 ≤ v 0) (a1 : v 0 ≤ 7) (b0 : 0 ≤ v 1) (b1 : v 1 ≤ 9) (hv0 : v 0 = C 56 0) (hv1 : v 1 = C 56 1) : ok (cSc_keep 10 C) (fun C' => KFr C C' ∧ CntC C' ∧ Dat2 C' (tl10 v G)) := by
  obtain ⟨⟨⟨V1, V2⟩, p1, p2⟩, hF, hH⟩ := hD
  rw [cz (by omega) (by omega)] at p1 V1
  have c0 : ct 17 (G 204) 0 0 = G 204 0 := cz (by omega) (by omega)
  have e6 : tl10 v G = upd2 (upd2 (upd2 G 204 (1 + 2 * G 204 0) (v 0)) 204 (2 + 2 * G 204 0) (v 1)) 204 0 (G 204 0 + 1) := if_pos h8
  have eP : ct 17 (tl10 v G 204) 0 = fun k => if k = 0 then G 204 0 + 1 else if k = 2 + 2 * G 204 0 then v 1 else if k = 1 + 2 * G 204 0 then v 0 else ct 17 (G 204) 0 k := by
    rw [e6, cz_upd (by omega) (by omega), cz_upd (by omega) (by omega), cz_upd (by omega) (by omega)]
  refine ok_mono (keep10_all h) fun C' hC' => ?_
  obtain ⟨k1, k2, k3⟩ := hC'
  obtain ⟨k3, k4, k5, k6⟩ := k3 (by omega)
  refine ⟨k1, k2, ?_⟩
  generalize hPP : ct 17 (G 204) 0 = P at *
  generalize hPQ : (fun k : Int => if k = 0 then G 204 0 + 1 else if k = 2 + 2 * G 204 0 then v 1 else if k = 1 + 2 * G 204 0 then v 0 else P k) = P' at *
  have q0 : P' 0 = G 204 0 + 1 := by rw [← hPQ]; rfl
  have q2 : P' (2 + 2 * G 204 0) = v 1 := by
    rw [← hPQ]
    show (if 2 + 2 * G 204 0 = 0 then _ else if 2 + 2 * G 204 0 = 2 + 2 * G 204 0 then v 1 else _) = _
    rw [if_neg (by omega), if_pos rfl]
  have q1 : P' (1 + 2 * G 204 0) = v 0 := by
    rw [← hPQ]
    show (if 1 + 2 * G 204 0 = 0 then _ else if 1 + 2 * G 204 0 = 2 + 2 * G 204 0 then v 1 else if 1 + 2 * G 204 0 = 1 + 2 * G 204 0 then v 0 else _) = _
    rw [if_neg (by omega), if_neg (by omega), if_pos rfl]
  have qk : ∀ k, k ≠ 0 → k ≠ 1 + 2 * G 204 0 → k ≠ 2 + 2 * G 204 0 → P' k = P k := fun k u x y => by
    rw [← hPQ]
    show (if k = 0 then _ else if k = 2 + 2 * G 204 0 then v 1 else if k = 1 + 2 * G 204 0 then v 0 else P k) = _
    rw [if_neg u, if_neg y, if_neg x]
  unfold Dat2 Far0
  rw [eP, k6 39 12 (by omega) (by omega), k6 39 13 (by omega) (by omega)]
  refine ⟨⟨⟨by rw [q0]; omega, fun k x0 x1 => ?_⟩, by rw [q0, k3, p1], fun k x0 x1 => ?_⟩, hF, hH⟩
  · rw [q0] at x1
    by_cases e : k = G 204 0
    · rw [e, q1, q2]; omega
    · rw [qk _ (by omega) (by omega) (by omega), qk _ (by omega) (by omega) (by omega)]
      exact V2 k x0 (by omega)
  · rw [q0] at x1
    by_cases e : k = G 204 0
    · rw [show (52 : Int) + 1 = 53 from rfl, show (52 : Int) + 2 = 54 from rfl, e, q1, q2, ← p1, k4, k5]
      exact ⟨hv0.symm, hv1.symm⟩
    · rw [k6 _ _ (by omega) (by omega), k6 _ _ (by omega) (by omega), qk _ (by omega) (by omega) (by omega), qk _ (by omega) (by omega) (by omega)]
      exact p2 k x0 (by omega)
theorem log_line {n w q s : Int} {T : Int → Int} {C G : Hp} (hs : s ≠ 0 ∧ s ≠ 1) (hL : Live n T w q C G) (hcc : CntC C) (hcm : CMo G) (hD : w = 0 → Dat2 C G) : LineRes n T Dat2 CMo q (cSc_line s C) (mm_logLine G) C G := by
  have hlo := lineOf_ok (s := s) hL
  have hwi := wordIn_ok (a := 11) (b := 11) hL (by omega) (by omega)
  have e4 : G 201 4 = q := hL.2.1.2.2.1
  have h8 : G 201 8 = 0 := hL.2.2.1.2.2.1
  have hpl : w ≠ 0 → G 202 6 < q := hL.2.2.2.2
  have hw5 : G 202 5 = w := hL.2.2.1.2.1
  have hcmf : ∀ G G', CMo G → (∀ j, G' 204 j = G 204 j) → CMo G' := fun G G' h e => by unfold CMo; rw [e]; exact h
  have hlx : ∀ x, lnW s x = if x = 11 then 10 else -1 := fun x => by unfold lnW; rw [if_neg hs.1, if_neg hs.2]
  rw [hlx] at hlo
  by_cases hg : tkT n T q = 1 ∧ 11 ≤ wcT T q (teT n T q) ∧ wcT T q (teT n T q) ≤ 11
  · rw [if_pos hg] at hwi
    rw [if_pos hg.1, if_pos (by omega)] at hlo
    refine line_gen (line := 10) (K := K10) (tl := tl10) (full := decide (8 ≤ C 52 0)) (fullM := decide (8 ≤ G 204 0)) (v0 := fun _ => 0) (by omega) (by omega) hL hg.1 hlo ?_ (fun hw => ?_) (fun G1 e f => ?_) hcc hcm hcmf (fun v G hv hc => K10_ok hc) (fun C h => ok_mono (keep10_all h) fun _ z => ⟨z.1, z.2.1⟩) (fun C G C' G' h a b => h.fr a b) (fun hw hf v C' G' hc hd he hv hx => ?_) hD
    · unfold cSc_isFull
      rw [if_neg (by omega), if_neg (by omega), if_neg (by omega), if_neg (by omega), if_pos rfl]
      by_cases h : 8 ≤ C 52 0
      · rw [if_pos h, decide_eq_true h]
      · rw [if_neg h, decide_eq_false h]
    · have h := (hD hw).1.2.1
      rw [cz (by omega) (by omega)] at h
      rw [h]
    · have hal : mm_also 3 q G1 = some (flk 3 q true G1) := also_ok ((f _ _ (by omega)).trans h8) (fun z => by
        rw [f 202 5 (by omega), hw5] at z
        rw [f 202 6 (by omega)]
        exact Or.inl (hpl z))
      have hfl : flk 3 q false G1 = G1 := if_neg (fun z => Bool.noConfusion z.1)
      unfold mm_logLine
      rw [hwi, e, Option.bind_some, Option.bind_some]
      show (if G1 201 8 = 0 then (if 8 ≤ G1 204 0 then ((mm_also 3 (G 201 4) G1).bind fun G35 => mm_logLine_j38 G35) else mm_logLine_j38 G1) else mm_logLine_j38 G1) = _
      rw [if_pos ((f _ _ (by omega)).trans h8), f 204 0 (by omega), e4, hal, Option.bind_some, ← k10_eq]
      by_cases h : 8 ≤ G 204 0
      · rw [if_pos h, decide_eq_true h]
      · rw [if_neg h, decide_eq_false h, hfl]
    · have hv0 := hv 0 (by omega) (by decide)
      have hv1 := hv 1 (by omega) (by decide)
      have l0 : loL 10 0 = 0 := rfl
      have h0 : hiL 10 0 = 7 := rfl
      have l1 : loL 10 1 = 0 := rfl
      have h1 : hiL 10 1 = 9 := rfl
      rw [l0, h0] at hv0
      rw [l1, h1] at hv1
      have hf' := of_decide_eq_false hf
      exact keep10_dat hc hd (by rw [he]; omega) hv0.1 hv0.2 hv1.1 hv1.2 (hx 0 (by omega) (by decide)).1 (hx 1 (by omega) (by decide)).1
  · rw [if_neg hg] at hwi
    have hlo3 : (if tkT n T q = 1 then (if wcT T q (teT n T q) = 11 then 10 else -1) else (-1 : Int)) = -1 := by
      by_cases ht : tkT n T q = 1
      · rw [if_pos ht, if_neg (fun z => hg ⟨ht, by omega, by omega⟩)]
      · rw [if_neg ht]
    rw [hlo3] at hlo
    obtain ⟨x1, x2, x3⟩ := en8 G
    have hen : CMo (en G) := hcmf _ _ hcm fun j => en_fr G _ _ (by omega) (by omega)
    obtain ⟨v', m1, m2⟩ := mN_dead (line := 10) (K := K10) (by omega) (by omega) (stg 0 10).toNat 0 (fun _ => 0) (en G) (by omega) (by decide) (fun j j0 j1 => by omega) x1
    obtain ⟨k1, k2, k3⟩ := K10_ok (v := v') hen
    have t8 : tl10 v' (en G) 201 8 = 1 := (k2 _ _ (by omega) (by omega)).trans x1
    refine line_no hL hlo ⟨tl10 v' (en G), ?_, t8, (k2 _ _ (by omega) (by omega)).trans x2, (k2 _ _ (by omega) (by omega)).trans (x3.trans e4), (en_fr G).m.trans k2.m⟩
    unfold mm_logLine
    rw [hwi, Option.bind_some]
    show (if en G 201 8 = 0 then _ else mm_logLine_j38 (en G)) = _
    rw [if_neg (by omega), k10_eq (v0 := fun _ => 0), m1, k1, endsLine_1 t8]
-- a week
def avw (line : Int) (v : Int → Int) : Int := if 0 < stg 0 line then v 0 else -1
def bvw (line : Int) (v : Int → Int) : Int := if 1 < stg 0 line then v 1 else -1
def tlw (c a b : Int) (G : Hp) : Hp := if G 204 0 < 40 then upd2 (upd2 (upd2 (upd2 G 204 (1 + 3 * G 204 0) c) 204 (2 + 3 * G 204 0) a) 204 (3 + 3 * G 204 0) b) 204 0 (G 204 0 + 1) else G
theorem j159_ok {c a b : Int} {G : Hp} (h : CMo G) : mm_weekLine_j159 c a b G = mm_endsLine (tlw c a b G) ∧ TFr G (tlw c a b G) ∧ CMo (tlw c a b G) := by
  unfold CMo at h
  unfold mm_weekLine_j159 tlw
  by_cases e : G 204 0 < 40
  · rw [if_pos e, if_pos e, w32_id (z := 3 * G 204 0) (by omega) (by omega), w32_id (z := 1 + 3 * G 204 0) (by omega) (by omega), w32_id (z := 1 + 3 * G 204 0 + 1) (by omega) (by omega), w32_id (z := 1 + 3 * G 204 0 + 2) (by omega) (by omega), show 1 + 3 * G 204 0 + 1 = 2 + 3 * G 204 0 by omega, show 1 + 3 * G 204 0 + 2 = 3 + 3 * G 204 0 by omega]
    have e1 : upd2 (upd2 (upd2 G 204 (1 + 3 * G 204 0) c) 204 (2 + 3 * G 204 0) a) 204 (3 + 3 * G 204 0) b 204 0 = G 204 0 := by rw [upd2_o (by omega), upd2_o (by omega), upd2_o (by omega)]
    rw [e1, w32_id (z := G 204 0 + 1) (by omega) (by omega), gd_ok (by omega) (by omega), gd_ok (by omega) (by omega), gd_ok (by omega) (by omega), j221_eq]
    exact ⟨rfl, fun x j u _ => by rw [upd2_o (by omega), upd2_o (by omega), upd2_o (by omega), upd2_o (by omega)], by unfold CMo; rw [upd2_s]; omega⟩
  · rw [if_neg e, if_neg e, j221_eq]
    exact ⟨rfl, fun _ _ _ _ => rfl, h⟩
def Kw (line : Int) (v : Int → Int) (G : Hp) : Option Hp := mm_weekLine_j159 line (avw line v) (bvw line v) G
theorem kw_eq {line : Int} {v0 : Int → Int} {G : Hp} (l0 : 0 ≤ line) (l1 : line ≤ 5) : mm_weekLine_j56 line (-1) (-1) line G = mN line (Kw line) (stg 0 line).toNat 0 v0 G := by
  have hl : line = 0 ∨ line = 1 ∨ line = 2 ∨ line = 3 ∨ line = 4 ∨ line = 5 := by omega
  unfold mm_weekLine_j56
  rcases hl with rfl | rfl | rfl | rfl | rfl | rfl
  · have e1 : (stg 0 0).toNat = 1 := by decide
    have e : nmb (othL 0 0) (loL 0 0) (hiL 0 0) (v0 0) G = mm_numbered 0 5 G := rfl
    rw [if_pos rfl, e1]
    show _ = (nmb (othL 0 0) (loL 0 0) (hiL 0 0) (v0 0) G).bind fun r => mN 0 (Kw 0) 0 (0 + 1) (fun j => if j = 0 then r.1 else v0 j) r.2
    rw [e]
    cases mm_numbered 0 5 G <;> rfl
  · have e1 : (stg 0 1).toNat = 2 := by decide
    have e : nmb (othL 1 0) (loL 1 0) (hiL 1 0) (v0 0) G = mm_numbered 0 7 G := rfl
    have e2 : ∀ (a : Int) (G : Hp), nmb (othL 1 1) (loL 1 1) (hiL 1 1) a G = mm_numbered 0 9 G := fun a G => rfl
    rw [if_neg (by omega), if_pos rfl, e1]
    show _ = (nmb (othL 1 0) (loL 1 0) (hiL 1 0) (v0 0) G).bind fun r => (nmb (othL 1 1) (loL 1 1) (hiL 1 1) r.1 r.2).bind fun r2 => mN 1 (Kw 1) 0 (1 + 1) (fun j => if j = 1 then r2.1 else if j = 0 then r.1 else v0 j) r2.2
    rw [e]
    cases mm_numbered 0 7 G with
    | none => rfl
    | some r =>
      show (mm_numbered 0 9 r.2).bind _ = (nmb (othL 1 1) (loL 1 1) (hiL 1 1) r.1 r.2).bind _
      rw [e2]
      cases mm_numbered 0 9 r.2 <;> rfl
  · have e1 : (stg 0 2).toNat = 2 := by decide
    have e : nmb (othL 2 0) (loL 2 0) (hiL 2 0) (v0 0) G = mm_numbered 0 5 G := rfl
    have e2 : ∀ (a : Int) (G : Hp), nmb (othL 2 1) (loL 2 1) (hiL 2 1) a G = mm_numbered 0 7 G := fun a G => rfl
    rw [if_neg (by omega), if_neg (by omega), if_pos rfl, e1]
    show _ = (nmb (othL 2 0) (loL 2 0) (hiL 2 0) (v0 0) G).bind fun r => (nmb (othL 2 1) (loL 2 1) (hiL 2 1) r.1 r.2).bind fun r2 => mN 2 (Kw 2) 0 (1 + 1) (fun j => if j = 1 then r2.1 else if j = 0 then r.1 else v0 j) r2.2
    rw [e]
    cases mm_numbered 0 5 G with
    | none => rfl
    | some r =>
      show (mm_numbered 0 7 r.2).bind _ = (nmb (othL 2 1) (loL 2 1) (hiL 2 1) r.1 r.2).bind _
      rw [e2]
      cases mm_numbered 0 7 r.2 <;> rfl
  · have e1 : (stg 0 3).toNat = 2 := by decide
    have e : nmb (othL 3 0) (loL 3 0) (hiL 3 0) (v0 0) G = mm_numbered 0 9 G := rfl
    have e2 : ∀ (a : Int) (G : Hp), nmb (othL 3 1) (loL 3 1) (hiL 3 1) a G = mm_otherWord a G := fun a G => rfl
    rw [if_neg (by omega), if_neg (by omega), if_neg (by omega), if_pos rfl, e1]
    show _ = (nmb (othL 3 0) (loL 3 0) (hiL 3 0) (v0 0) G).bind fun r => (nmb (othL 3 1) (loL 3 1) (hiL 3 1) r.1 r.2).bind fun r2 => mN 3 (Kw 3) 0 (1 + 1) (fun j => if j = 1 then r2.1 else if j = 0 then r.1 else v0 j) r2.2
    rw [e]
    unfold mm_weekLine_j141
    cases mm_numbered 0 9 G with
    | none => rfl
    | some r =>
      show (mm_otherWord r.1 r.2).bind _ = (nmb (othL 3 1) (loL 3 1) (hiL 3 1) r.1 r.2).bind _
      rw [e2]
      cases mm_otherWord r.1 r.2 <;> rfl
  · have e1 : (stg 0 4).toNat = 2 := by decide
    have e : nmb (othL 4 0) (loL 4 0) (hiL 4 0) (v0 0) G = mm_numbered 0 9 G := rfl
    have e2 : ∀ (a : Int) (G : Hp), nmb (othL 4 1) (loL 4 1) (hiL 4 1) a G = mm_otherWord a G := fun a G => rfl
    rw [if_neg (by omega), if_neg (by omega), if_neg (by omega), if_neg (by omega), if_pos rfl, e1]
    show _ = (nmb (othL 4 0) (loL 4 0) (hiL 4 0) (v0 0) G).bind fun r => (nmb (othL 4 1) (loL 4 1) (hiL 4 1) r.1 r.2).bind fun r2 => mN 4 (Kw 4) 0 (1 + 1) (fun j => if j = 1 then r2.1 else if j = 0 then r.1 else v0 j) r2.2
    rw [e]
    unfold mm_weekLine_j141
    cases mm_numbered 0 9 G with
    | none => rfl
    | some r =>
      show (mm_otherWord r.1 r.2).bind _ = (nmb (othL 4 1) (loL 4 1) (hiL 4 1) r.1 r.2).bind _
      rw [e2]
      cases mm_otherWord r.1 r.2 <;> rfl
  · have e1 : (stg 0 5).toNat = 0 := by decide
    rw [if_neg (by omega), if_neg (by omega), if_neg (by omega), if_neg (by omega), if_neg (by omega), e1]
    rfl
theorem keepw_eq {line : Int} {C : Hp} (l0 : 0 ≤ line) (l1 : line ≤ 5) : cSc_keep line C = cWe_add 48 line (avw line (C 56)) (bvw line (C 56)) C := by
  unfold cSc_keep cSc_keep_j208 cSc_keep_j223 avw bvw
  rw [if_neg (by omega), if_neg (by omega), if_neg (by omega), if_neg (by omega), if_neg (by omega), gd_ok l0 (by omega), bndS, bndS, bndS, bndS]
  by_cases h0 : 0 < stg 0 line
  · rw [if_pos h0, if_pos h0]
    by_cases h1 : 1 < stg 0 line
    · rw [if_pos h1, if_pos h1]
    · rw [if_neg h1, if_neg h1]
  · rw [if_neg h0, if_neg h0, if_neg (by omega), if_neg (by omega)]
theorem keepw_all {line : Int} {C : Hp} (l0 : 0 ≤ line) (l1 : line ≤ 5) (h : CntC C) : ok (cSc_keep line C) (fun C' => KFr C C' ∧ CntC C' ∧ (C 48 0 < 60 → C' 48 0 = C 48 0 + 1 ∧ C' 49 (C 48 0) = line ∧ C' 50 (C 48 0) = avw line (C 56) ∧ C' 51 (C 48 0) = bvw line (C 56) ∧ ∀ a j, ¬ (a = 48 ∧ j = 0) → ¬ (49 ≤ a ∧ a ≤ 51 ∧ j = C 48 0) → C' a j = C a j)) := by
  obtain ⟨⟨h1, h2⟩, h3, h4⟩ := h
  rw [keepw_eq l0 l1]
  generalize avw line (C 56) = a
  generalize bvw line (C 56) = b
  unfold cWe_add
  refine ok_ite (fun e => ?_) (fun e => ok_some ⟨fun _ _ _ _ => rfl, ⟨⟨h1, h2⟩, h3, h4⟩, fun x => absurd x e⟩)
  rw [show (48 : Int) + 1 = 49 from rfl, show (48 : Int) + 2 = 50 from rfl, show (48 : Int) + 3 = 51 from rfl]
  have e1 : upd2 C 49 (C 48 0) line 48 0 = C 48 0 := upd2_o (by omega)
  rw [e1]
  have e2 : upd2 (upd2 C 49 (C 48 0) line) 50 (C 48 0) a 48 0 = C 48 0 := by rw [upd2_o (by omega), upd2_o (by omega)]
  rw [e2]
  have e3 : upd2 (upd2 (upd2 C 49 (C 48 0) line) 50 (C 48 0) a) 51 (C 48 0) b 48 0 = C 48 0 := by rw [upd2_o (by omega), upd2_o (by omega), upd2_o (by omega)]
  rw [e3, w32_id (by omega) (by omega), gd_ok h3 e, gd_ok h3 e, gd_ok h3 e]
  refine ok_some ⟨fun x j u _ => by rw [upd2_o (by omega), upd2_o (by omega), upd2_o (by omega), upd2_o (by omega)], ⟨⟨by rw [upd2_o (by omega), upd2_o (by omega), upd2_o (by omega), upd2_o (by omega)]; exact h1, by rw [upd2_o (by omega), upd2_o (by omega), upd2_o (by omega), upd2_o (by omega)]; exact h2⟩, by rw [upd2_s]; omega, by rw [upd2_o (by omega), upd2_o (by omega), upd2_o (by omega), upd2_o (by omega)]; exact h4⟩, fun _ => ⟨upd2_s, ?_, ?_, ?_, fun x j u u2 => ?_⟩⟩
  · rw [upd2_o (by omega), upd2_o (by omega), upd2_o (by omega), upd2_s]
  · rw [upd2_o (by omega), upd2_o (by omega), upd2_s]
  · rw [upd2_o (by omega), upd2_s]
  · rw [upd2_o (by omega), upd2_o (by omega), upd2_o (by omega), upd2_o (by omega)]
theorem deedL {line : Int} {v : Int → Int} (l0 : 0 ≤ line) (l1 : line ≤ 5) (hv : InL line (stg 0 line) v) (ho : ∀ j, 0 ≤ j → j < stg 0 line → othL line j = true → v j ≠ v 0) : DeedV line (avw line v) (bvw line v) := by
  have hl : line = 0 ∨ line = 1 ∨ line = 2 ∨ line = 3 ∨ line = 4 ∨ line = 5 := by omega
  unfold DeedV
  rcases hl with rfl | rfl | rfl | rfl | rfl | rfl
  · have e1 : avw 0 v = v 0 := rfl
    have e2 : bvw 0 v = -1 := rfl
    have h0 := hv 0 (by omega) (by decide)
    rw [show loL 0 0 = 0 from rfl, show hiL 0 0 = 5 from rfl] at h0
    rw [e1, e2]; omega
  · have e1 : avw 1 v = v 0 := rfl
    have e2 : bvw 1 v = v 1 := rfl
    have h0 := hv 0 (by omega) (by decide)
    have h1 := hv 1 (by omega) (by decide)
    rw [show loL 1 0 = 0 from rfl, show hiL 1 0 = 7 from rfl] at h0
    rw [show loL 1 1 = 0 from rfl, show hiL 1 1 = 9 from rfl] at h1
    rw [e1, e2]; omega
  · have e1 : avw 2 v = v 0 := rfl
    have e2 : bvw 2 v = v 1 := rfl
    have h0 := hv 0 (by omega) (by decide)
    have h1 := hv 1 (by omega) (by decide)
    rw [show loL 2 0 = 0 from rfl, show hiL 2 0 = 5 from rfl] at h0
    rw [show loL 2 1 = 0 from rfl, show hiL 2 1 = 7 from rfl] at h1
    rw [e1, e2]; omega
  · have e1 : avw 3 v = v 0 := rfl
    have e2 : bvw 3 v = v 1 := rfl
    have h0 := hv 0 (by omega) (by decide)
    have h1 := hv 1 (by omega) (by decide)
    have h2 := ho 1 (by omega) (by decide) rfl
    rw [show loL 3 0 = 0 from rfl, show hiL 3 0 = 9 from rfl] at h0
    rw [show loL 3 1 = 0 from rfl, show hiL 3 1 = 9 from rfl] at h1
    rw [e1, e2]; omega
  · have e1 : avw 4 v = v 0 := rfl
    have e2 : bvw 4 v = v 1 := rfl
    have h0 := hv 0 (by omega) (by decide)
    have h1 := hv 1 (by omega) (by decide)
    have h2 := ho 1 (by omega) (by decide) rfl
    rw [show loL 4 0 = 0 from rfl, show hiL 4 0 = 9 from rfl] at h0
    rw [show loL 4 1 = 0 from rfl, show hiL 4 1 = 9 from rfl] at h1
    rw [e1, e2]; omega
  · have e1 : avw 5 v = -1 := rfl
    have e2 : bvw 5 v = -1 := rfl
    rw [e1, e2]; omega
theorem keepw_dat {line : Int} {C G : Hp} {v : Int → Int} (l0 : 0 ≤ line) (l1 : line ≤ 5) (h : CntC C) (hD : Dat1 C G) (h8 : G 204 0 < 40) (hv : InL line (stg 0 line) v) (hx : ∀ j, 0 ≤ j → j < stg 0 line → v j = C 56 j ∧ (othL line j = true → v j ≠ v 0)) : ok (cSc_keep line C) (fun C' => KFr C C' ∧ CntC C' ∧ Dat1 C' (tlw line (avw line v) (bvw line v) G)) := by
  have hdd := deedL l0 l1 hv fun j j0 j1 => (hx j j0 j1).2
  have ea : avw line (C 56) = avw line v := by
    unfold avw
    by_cases e : 0 < stg 0 line
    · rw [if_pos e, if_pos e, (hx 0 (by omega) e).1]
    · rw [if_neg e, if_neg e]
  have eb : bvw line (C 56) = bvw line v := by
    unfold bvw
    by_cases e : 1 < stg 0 line
    · rw [if_pos e, if_pos e, (hx 1 (by omega) e).1]
    · rw [if_neg e, if_neg e]
  obtain ⟨⟨⟨V1, V2⟩, p1, p2⟩, hF, hH⟩ := hD
  rw [cz (by omega) (by omega)] at p1 V1
  have c0 : ct 121 (G 204) 0 0 = G 204 0 := cz (by omega) (by omega)
  have hall := keepw_all l0 l1 h
  rw [ea, eb] at hall
  generalize avw line v = a at *
  generalize bvw line v = b at *
  have e6 : tlw line a b G = upd2 (upd2 (upd2 (upd2 G 204 (1 + 3 * G 204 0) line) 204 (2 + 3 * G 204 0) a) 204 (3 + 3 * G 204 0) b) 204 0 (G 204 0 + 1) := if_pos h8
  have eP : ct 121 (tlw line a b G 204) 0 = fun k => if k = 0 then G 204 0 + 1 else if k = 3 + 3 * G 204 0 then b else if k = 2 + 3 * G 204 0 then a else if k = 1 + 3 * G 204 0 then line else ct 121 (G 204) 0 k := by
    rw [e6, cz_upd (by omega) (by omega), cz_upd (by omega) (by omega), cz_upd (by omega) (by omega), cz_upd (by omega) (by omega)]
  refine ok_mono hall fun C' hC' => ?_
  obtain ⟨k1, k2, k3⟩ := hC'
  obtain ⟨k3, k4, k5, k6, k7⟩ := k3 (by omega)
  refine ⟨k1, k2, ?_⟩
  generalize hPP : ct 121 (G 204) 0 = P at *
  generalize hPQ : (fun k : Int => if k = 0 then G 204 0 + 1 else if k = 3 + 3 * G 204 0 then b else if k = 2 + 3 * G 204 0 then a else if k = 1 + 3 * G 204 0 then line else P k) = P' at *
  have q0 : P' 0 = G 204 0 + 1 := by rw [← hPQ]; rfl
  have q3 : P' (3 + 3 * G 204 0) = b := by
    rw [← hPQ]
    show (if 3 + 3 * G 204 0 = 0 then _ else if 3 + 3 * G 204 0 = 3 + 3 * G 204 0 then b else _) = _
    rw [if_neg (by omega), if_pos rfl]
  have q2 : P' (2 + 3 * G 204 0) = a := by
    rw [← hPQ]
    show (if 2 + 3 * G 204 0 = 0 then _ else if 2 + 3 * G 204 0 = 3 + 3 * G 204 0 then b else if 2 + 3 * G 204 0 = 2 + 3 * G 204 0 then a else _) = _
    rw [if_neg (by omega), if_neg (by omega), if_pos rfl]
  have q1 : P' (1 + 3 * G 204 0) = line := by
    rw [← hPQ]
    show (if 1 + 3 * G 204 0 = 0 then _ else if 1 + 3 * G 204 0 = 3 + 3 * G 204 0 then b else if 1 + 3 * G 204 0 = 2 + 3 * G 204 0 then a else if 1 + 3 * G 204 0 = 1 + 3 * G 204 0 then line else _) = _
    rw [if_neg (by omega), if_neg (by omega), if_neg (by omega), if_pos rfl]
  have qk : ∀ k, k ≠ 0 → k ≠ 1 + 3 * G 204 0 → k ≠ 2 + 3 * G 204 0 → k ≠ 3 + 3 * G 204 0 → P' k = P k := fun k u x y z => by
    rw [← hPQ]
    show (if k = 0 then _ else if k = 3 + 3 * G 204 0 then b else if k = 2 + 3 * G 204 0 then a else if k = 1 + 3 * G 204 0 then line else P k) = _
    rw [if_neg u, if_neg z, if_neg y, if_neg x]
  unfold Dat1 Far0
  rw [eP, k7 39 12 (by omega) (by omega), k7 39 13 (by omega) (by omega)]
  refine ⟨⟨⟨by rw [q0]; omega, fun k x0 x1 => ?_⟩, by rw [q0, k3, p1], fun k x0 x1 => ?_⟩, hF, hH⟩
  · rw [q0] at x1
    by_cases e : k = G 204 0
    · rw [e, q1, q2, q3]; exact hdd
    · rw [qk _ (by omega) (by omega) (by omega) (by omega), qk _ (by omega) (by omega) (by omega) (by omega), qk _ (by omega) (by omega) (by omega) (by omega)]
      exact V2 k x0 (by omega)
  · rw [q0] at x1
    by_cases e : k = G 204 0
    · rw [show (48 : Int) + 1 = 49 from rfl, show (48 : Int) + 2 = 50 from rfl, show (48 : Int) + 3 = 51 from rfl, e, q1, q2, q3, ← p1]
      exact ⟨k4, k5, k6⟩
    · rw [k7 _ _ (by omega) (by omega), k7 _ _ (by omega) (by omega), k7 _ _ (by omega) (by omega), qk _ (by omega) (by omega) (by omega) (by omega), qk _ (by omega) (by omega) (by omega) (by omega), qk _ (by omega) (by omega) (by omega) (by omega)]
      exact p2 k x0 (by omega)
theorem week_line {n w q : Int} {T : Int → Int} {C G : Hp} (hL : Live n T w q C G) (hcc : CntC C) (hcm : CMo G) (hD : w = 0 → Dat1 C G) : LineRes n T Dat1 CMo q (cSc_line 1 C) (mm_weekLine G) C G := by
  have hlo := lineOf_ok (s := 1) hL
  have hwi := wordIn_ok (a := 5) (b := 10) hL (by omega) (by omega)
  have e4 : G 201 4 = q := hL.2.1.2.2.1
  have h8 : G 201 8 = 0 := hL.2.2.1.2.2.1
  have hpl : w ≠ 0 → G 202 6 < q := hL.2.2.2.2
  have hw5 : G 202 5 = w := hL.2.2.1.2.1
  have hcmf : ∀ G G', CMo G → (∀ j, G' 204 j = G 204 j) → CMo G' := fun G G' h e => by unfold CMo; rw [e]; exact h
  have hlx : ∀ x, lnW 1 x = if 5 ≤ x ∧ x ≤ 10 then x - 5 else -1 := fun x => by unfold lnW; rw [if_neg (by omega), if_pos rfl]
  rw [hlx] at hlo
  by_cases hg : tkT n T q = 1 ∧ 5 ≤ wcT T q (teT n T q) ∧ wcT T q (teT n T q) ≤ 10
  · rw [if_pos hg] at hwi
    rw [if_pos hg.1, if_pos hg.2] at hlo
    have hg2 := hg.2
    generalize hwc : wcT T q (teT n T q) = x at *
    have l0 : 0 ≤ x - 5 := by omega
    have l1 : x - 5 ≤ 5 := by omega
    have ew : w32 (x - 5) = x - 5 := w32_id (by omega) (by omega)
    generalize hln : x - 5 = line at *
    refine line_gen (line := line) (K := Kw line) (tl := fun v G => tlw line (avw line v) (bvw line v) G) (full := decide (40 ≤ C 48 0)) (fullM := decide (40 ≤ G 204 0)) (v0 := fun _ => 0) l0 (by omega) hL hg.1 hlo ?_ (fun hw => ?_) (fun G1 e f => ?_) hcc hcm hcmf (fun v G hv hc => j159_ok hc) (fun C h => ok_mono (keepw_all l0 l1 h) fun _ z => ⟨z.1, z.2.1⟩) (fun C G C' G' h a b => h.fr a b) (fun hw hf v C' G' hc hd he hv hx => ?_) hD
    · unfold cSc_isFull
      rw [if_neg (by omega), if_neg (by omega), if_neg (by omega), if_neg (by omega), if_neg (by omega)]
      by_cases h : 40 ≤ C 48 0
      · rw [if_pos h, decide_eq_true h]
      · rw [if_neg h, decide_eq_false h]
    · have h := (hD hw).1.2.1
      rw [cz (by omega) (by omega)] at h
      rw [h]
    · have hal : mm_also 3 q G1 = some (flk 3 q true G1) := also_ok ((f _ _ (by omega)).trans h8) (fun z => by
        rw [f 202 5 (by omega), hw5] at z
        rw [f 202 6 (by omega)]
        exact Or.inl (hpl z))
      have hfl : flk 3 q false G1 = G1 := if_neg (fun z => Bool.noConfusion z.1)
      have g8 : G1 201 8 = 0 := (f _ _ (by omega)).trans h8
      have hj : ∀ b : Bool, mm_weekLine_j39 line (flk 3 q b G1) = mm_weekLine_j56 line (-1) (-1) line (flk 3 q b G1) := fun b => by
        unfold mm_weekLine_j39
        rw [if_pos]
        rw [flk_fr (by omega)]; exact g8
      unfold mm_weekLine
      rw [hwi, e, Option.bind_some, Option.bind_some]
      show (if G1 201 8 = 0 then (if 40 ≤ G1 204 0 then ((mm_also 3 (G 201 4) G1).bind fun G36 => mm_weekLine_j39 (w32 (x - 5)) G36) else mm_weekLine_j39 (w32 (x - 5)) G1) else mm_weekLine_j39 (w32 (x - 5)) G1) = _
      rw [if_pos g8, f 204 0 (by omega), e4, hal, Option.bind_some, ← kw_eq l0 l1, hln, ew]
      by_cases h : 40 ≤ G 204 0
      · rw [if_pos h, decide_eq_true h, hj]
      · have h2 := hj false
        rw [hfl] at h2
        rw [if_neg h, decide_eq_false h, hfl, h2]
    · have hf' := of_decide_eq_false hf
      exact keepw_dat l0 l1 hc hd (by rw [he]; omega) hv hx
  · rw [if_neg hg] at hwi
    have hlo3 : (if tkT n T q = 1 then (if 5 ≤ wcT T q (teT n T q) ∧ wcT T q (teT n T q) ≤ 10 then wcT T q (teT n T q) - 5 else -1) else (-1 : Int)) = -1 := by
      by_cases ht : tkT n T q = 1
      · rw [if_pos ht, if_neg (fun z => hg ⟨ht, z⟩)]
      · rw [if_neg ht]
    rw [hlo3] at hlo
    obtain ⟨x1, x2, x3⟩ := en8 G
    have hen : CMo (en G) := hcmf _ _ hcm fun j => en_fr G _ _ (by omega) (by omega)
    obtain ⟨k1, k2, k3⟩ := j159_ok (c := w32 (0 - 5)) (a := -1) (b := -1) hen
    have t8 : tlw (w32 (0 - 5)) (-1) (-1) (en G) 201 8 = 1 := (k2 _ _ (by omega) (by omega)).trans x1
    refine line_no hL hlo ⟨tlw (w32 (0 - 5)) (-1) (-1) (en G), ?_, t8, (k2 _ _ (by omega) (by omega)).trans x2, (k2 _ _ (by omega) (by omega)).trans (x3.trans e4), (en_fr G).m.trans k2.m⟩
    unfold mm_weekLine
    rw [hwi, Option.bind_some]
    show (if en G 201 8 = 0 then _ else mm_weekLine_j39 (w32 (0 - 5)) (en G)) = _
    rw [if_neg (by omega)]
    unfold mm_weekLine_j39
    rw [if_neg (by omega)]
    unfold mm_weekLine_j56
    rw [if_neg (by omega), if_neg (by omega), if_neg (by omega), if_neg (by omega), if_neg (by omega), k1, endsLine_1 t8]
