-- texts: lines of a paper
def CMp (G : Hp) : Prop := 0 ≤ G 204 0 ∧ 0 ≤ G 204 1
def Dat0 (C G : Hp) : Prop := (PaperV (ct 80 (G 204) 0) ∧ PaperC C 40 (ct 80 (G 204) 0)) ∧ (C 39 12 = G 201 9 ∧ -1 ≤ C 39 12 ∧ C 39 12 ≤ 9) ∧ (C 39 13 = G 201 10 ∧ -1 ≤ C 39 13 ∧ C 39 13 ≤ 9)
theorem Dat0.fr {C G C' G' : Hp} (h : Dat0 C G) (hC : FrC C C') (hG : FrM G G') : Dat0 C' G' := by
  have e : G' 204 = G 204 := funext fun j => hG _ _ (by omega) (by omega)
  unfold Dat0
  rw [e, hC 39 12 (by omega) (by omega), hC 39 13 (by omega) (by omega), hG 201 9 (by omega) (by omega), hG 201 10 (by omega) (by omega)]
  exact ⟨⟨h.1.1, h.1.2.fr fun a j u v => hC _ _ (by omega) (by omega)⟩, h.2⟩
theorem cz {m k : Int} {A : Int → Int} (h0 : 0 ≤ k) (h1 : k < m) : ct m A 0 k = A k := by rw [ct_at h0 h1, Int.zero_add]
theorem cz_upd {m i x : Int} {G : Hp} (h0 : 0 ≤ i) (h1 : i < m) : ct m (upd2 G 204 i x 204) 0 = fun k => if k = i then x else ct m (G 204) 0 k := by
  funext k
  unfold ct
  by_cases e : k = i
  · rw [if_pos ⟨by omega, by omega⟩, if_pos e, upd2_e rfl (by omega)]
  · rw [if_neg e]
    by_cases r : 0 ≤ k ∧ k < m
    · rw [if_pos r, if_pos r, upd2_o (by omega)]
    · rw [if_neg r, if_neg r]
-- word
def tl6 (v : Int → Int) (G : Hp) : Hp := if 8 ≤ G 204 0 then G else upd2 (upd2 G 204 (2 + G 204 0) (v 0)) 204 0 (G 204 0 + 1)
def K6 (v : Int → Int) (G : Hp) : Option Hp := (if 8 ≤ G 204 0 then some G else (gd (w32 (2 + (G 204 0))) 121 (some (upd2 (upd2 G 204 (w32 (2 + (G 204 0))) (v 0)) 204 0 (w32 (((upd2 G 204 (w32 (2 + (G 204 0))) (v 0)) 204 0) + 1)))))).bind mm_paperLine_j86
theorem j86_eq (G : Hp) : mm_paperLine_j86 G = mm_endsLine G := by
  unfold mm_paperLine_j86
  exact bndS _
theorem k6_eq {q : Int} {v0 : Int → Int} {G : Hp} : ((mm_wordTold_j17 q G).bind fun G58 => mm_paperLine_j86 G58) = mN 6 K6 (stg 0 6).toNat 0 v0 G := by
  have e1 : (stg 0 6).toNat = 1 := by decide
  have e : nmb (othL 6 0) (loL 6 0) (hiL 6 0) (v0 0) G = mm_numbered 0 9 G := rfl
  rw [e1]
  show _ = (nmb (othL 6 0) (loL 6 0) (hiL 6 0) (v0 0) G).bind fun r => mN 6 K6 0 (0 + 1) (fun j => if j = 0 then r.1 else v0 j) r.2
  rw [e]
  unfold mm_wordTold_j17
  cases mm_numbered 0 9 G <;> rfl
theorem K6_ok {v : Int → Int} {G : Hp} (h : CMp G) : K6 v G = mm_endsLine (tl6 v G) ∧ TFr G (tl6 v G) ∧ CMp (tl6 v G) := by
  obtain ⟨h0, h1⟩ := h
  unfold K6 tl6
  by_cases e : 8 ≤ G 204 0
  · rw [if_pos e, if_pos e, Option.bind_some, j86_eq]
    exact ⟨rfl, fun _ _ _ _ => rfl, h0, h1⟩
  · rw [if_neg e, if_neg e, w32_id (z := 2 + G 204 0) (by omega) (by omega), gd_ok (by omega) (by omega), Option.bind_some, j86_eq]
    have e0 : upd2 G 204 (2 + G 204 0) (v 0) 204 0 = G 204 0 := upd2_o (by omega)
    rw [e0, w32_id (by omega) (by omega)]
    exact ⟨rfl, fun a j u _ => by rw [upd2_o (by omega), upd2_o (by omega)], by rw [upd2_s]; omega, by rw [upd2_o (by omega), upd2_o (by omega)]; exact h1⟩
theorem keep6_any {C : Hp} (h : CntC C) : ok (cSc_keep 6 C) (fun C' => KFr C C' ∧ CntC C') := by
  obtain ⟨⟨h1, h2⟩, h3, h4⟩ := h
  unfold cSc_keep cPa_addPlace
  rw [if_pos rfl, bndS]
  refine ok_ite (fun e => ok_some ?_) (fun e => ok_some ⟨fun _ _ _ _ => rfl, ⟨h1, h2⟩, h3, h4⟩)
  have e1 : ∀ x, upd2 C 40 0 x 40 1 = C 40 1 := fun x => upd2_o (by omega)
  rw [e1, w32_id (by omega) (by omega)]
  exact ⟨fun a j u _ => by rw [upd2_o (by omega), upd2_o (by omega)], ⟨by rw [upd2_s]; omega, by rw [upd2_o (by omega), upd2_o (by omega)]; exact h2⟩, by rw [upd2_o (by omega), upd2_o (by omega)]; exact h3, by rw [upd2_o (by omega), upd2_o (by omega)]; exact h4⟩
theorem keep6_dat {C G : Hp} {v : Int → Int} (h : CntC C) (hD : Dat0 C G) (h8 : G 204 0 < 8) (v0 : 0 ≤ v 0) (v1 : v 0 ≤ 9) (hv : v 0 = C 56 0) : ok (cSc_keep 6 C) (fun C' => KFr C C' ∧ CntC C' ∧ Dat0 C' (tl6 v G)) := by
  obtain ⟨⟨h1, h2⟩, h3, h4⟩ := h
  obtain ⟨⟨hV, ⟨⟨p1, p2⟩, p3, p4, p5, p6, p7⟩⟩, hF, hH⟩ := hD
  rw [cz (by omega) (by omega)] at p1
  have e6 : tl6 v G = upd2 (upd2 G 204 (2 + G 204 0) (v 0)) 204 0 (G 204 0 + 1) := if_neg (by omega)
  have g0 : 0 ≤ G 204 0 := by rw [← p1]; exact h1
  have eP : ct 80 (tl6 v G 204) 0 = fun k => if k = 0 then G 204 0 + 1 else if k = 2 + G 204 0 then v 0 else ct 80 (G 204) 0 k := by
    rw [e6, cz_upd (by omega) (by omega), cz_upd (by omega) (by omega)]
  have e9 : tl6 v G 201 9 = G 201 9 := by rw [e6, upd2_o (by omega), upd2_o (by omega)]
  have e10 : tl6 v G 201 10 = G 201 10 := by rw [e6, upd2_o (by omega), upd2_o (by omega)]
  obtain ⟨V1, V2, ⟨V3, V4⟩, V5, V6, V7⟩ := hV
  rw [cz (by omega) (by omega)] at V1
  have c0 : ct 80 (G 204) 0 0 = G 204 0 := cz (by omega) (by omega)
  generalize hPP : ct 80 (G 204) 0 = P at *
  generalize hPQ : (fun k : Int => if k = 0 then G 204 0 + 1 else if k = 2 + G 204 0 then v 0 else P k) = P' at *
  have q0 : P' 0 = G 204 0 + 1 := by rw [← hPQ]; rfl
  have q2 : P' (2 + G 204 0) = v 0 := by
    rw [← hPQ]
    show (if 2 + G 204 0 = 0 then _ else if 2 + G 204 0 = 2 + G 204 0 then v 0 else _) = _
    rw [if_neg (by omega), if_pos rfl]
  have qk : ∀ k, k ≠ 0 → k ≠ 2 + G 204 0 → P' k = P k := fun k u x => by
    rw [← hPQ]
    show (if k = 0 then _ else if k = 2 + G 204 0 then v 0 else P k) = _
    rw [if_neg u, if_neg x]
  unfold cSc_keep cPa_addPlace
  rw [if_pos rfl, bndS, if_pos (by omega)]
  have e1 : ∀ x, upd2 C 40 0 x 40 1 = C 40 1 := fun x => upd2_o (by omega)
  rw [e1, w32_id (by omega) (by omega)]
  refine ok_some ⟨fun a j u _ => by rw [upd2_o (by omega), upd2_o (by omega)], ⟨⟨by rw [upd2_s]; omega, by rw [upd2_o (by omega), upd2_o (by omega)]; exact h2⟩, by rw [upd2_o (by omega), upd2_o (by omega)]; exact h3, by rw [upd2_o (by omega), upd2_o (by omega)]; exact h4⟩, ?_⟩
  generalize hC' : upd2 (upd2 C 40 0 (cX_put (C 40 0) (C 40 1) (C 56 0))) 40 1 (C 40 1 + 1) = C'
  have z : ∀ a j, ¬ (a = 40 ∧ (j = 0 ∨ j = 1)) → C' a j = C a j := fun a j u => by rw [← hC', upd2_o (by omega), upd2_o (by omega)]
  unfold Dat0
  rw [eP, e9, e10, z 39 12 (by omega), z 39 13 (by omega)]
  refine ⟨⟨⟨by rw [q0]; omega, by rw [qk 1 (by omega) (by omega)]; exact V2, ⟨fun p x0 x1 => ?_, fun p x0 x1 => ?_⟩, NW_congr (fun w w0 w1 => (qk (10 + w) (by omega) (by omega)).symm) V5, fun r r0 r1 => ?_, fun r p r0 r1 x0 x1 => ?_⟩, ⟨⟨by rw [q0, ← hC', upd2_s, p1], by rw [z _ _ (by omega), qk 1 (by omega) (by omega)]; exact p2⟩, ?_, p4.fr fun a j u x => z _ _ (by omega), fun w w0 w1 => by rw [z _ _ (by omega), qk _ (by omega) (by omega)]; exact p5 w w0 w1, fun r r0 r1 => ?_, fun r p r0 r1 x0 x1 => by rw [z _ _ (by omega), qk _ (by omega) (by omega)]; exact p7 r p r0 r1 x0 x1⟩⟩, hF, hH⟩
  · show 0 ≤ P' (2 + p) ∧ P' (2 + p) < 10
    by_cases e : p = G 204 0
    · rw [e, q2]; omega
    · rw [qk _ (by omega) (by omega)]; exact V3 p x0 x1
  · rw [q0] at x0
    rw [qk _ (by omega) (by omega)]
    exact V4 p (by omega) x1
  · rw [qk _ (by omega) (by omega), qk _ (by omega) (by omega)]; exact V6 r r0 r1
  · rw [qk _ (by omega) (by omega)]; exact V7 r p r0 r1 x0 x1
  · rw [← hC', upd2_o (by omega), upd2_s]
    refine PK_congr (PK_put p3 (show 0 ≤ C 40 1 by omega) (show C 40 1 < 8 by omega) (show 0 ≤ C 56 0 by omega) (show C 56 0 < 10 by omega)) fun p x0 x1 => ?_
    show (if p = C 40 1 then C 56 0 else P (2 + p)) = P' (2 + p)
    by_cases e : p = C 40 1
    · rw [if_pos e, e, p1, q2, hv]
    · rw [if_neg e, qk _ (by omega) (by omega)]
  · rw [qk 1 (by omega) (by omega)] at r1
    rw [z _ _ (by omega), z _ _ (by omega), qk _ (by omega) (by omega), qk _ (by omega) (by omega)]
    exact p6 r r0 r1
-- near
def tl7 (v : Int → Int) (G : Hp) : Hp := upd2 (upd2 G 204 (10 + v 0) (ior (G 204 (10 + v 0)) (ishl 1 (v 1)))) 204 (10 + v 1) (ior ((upd2 G 204 (10 + v 0) (ior (G 204 (10 + v 0)) (ishl 1 (v 1)))) 204 (10 + v 1)) (ishl 1 (v 0)))
def K7 (v : Int → Int) (G : Hp) : Option Hp := (gd (w32 (10 + v 0)) 121 (gd (w32 (10 + v 0)) 121 (gd (w32 (10 + v 1)) 121 (gd (w32 (10 + v 1)) 121 (some (upd2 (upd2 G 204 (w32 (10 + v 0)) (ior (G 204 (w32 (10 + v 0))) (ishl 1 (v 1)))) 204 (w32 (10 + v 1)) (ior ((upd2 G 204 (w32 (10 + v 0)) (ior (G 204 (w32 (10 + v 0))) (ishl 1 (v 1)))) 204 (w32 (10 + v 1))) (ishl 1 (v 0))))))))).bind mm_paperLine_j86
theorem k7_eq {v0 : Int → Int} {G : Hp} : ((mm_nearTold G).bind fun G65 => mm_paperLine_j86 G65) = mN 7 K7 (stg 0 7).toNat 0 v0 G := by
  have e1 : (stg 0 7).toNat = 2 := by decide
  have e : nmb (othL 7 0) (loL 7 0) (hiL 7 0) (v0 0) G = mm_numbered 0 9 G := rfl
  have e2 : ∀ (a : Int) (G : Hp), nmb (othL 7 1) (loL 7 1) (hiL 7 1) a G = mm_otherWord a G := fun a G => rfl
  rw [e1]
  show _ = (nmb (othL 7 0) (loL 7 0) (hiL 7 0) (v0 0) G).bind fun r => (nmb (othL 7 1) (loL 7 1) (hiL 7 1) r.1 r.2).bind fun r2 => mN 7 K7 0 (1 + 1) (fun j => if j = 1 then r2.1 else if j = 0 then r.1 else v0 j) r2.2
  rw [e]
  unfold mm_nearTold
  cases mm_numbered 0 9 G with
  | none => rfl
  | some r =>
    show ((mm_otherWord r.1 r.2).bind _).bind _ = (nmb (othL 7 1) (loL 7 1) (hiL 7 1) r.1 r.2).bind _
    rw [e2]
    cases mm_otherWord r.1 r.2 <;> rfl
theorem K7_ok {v : Int → Int} {G : Hp} (h : CMp G) (a0 : 0 ≤ v 0) (a1 : v 0 ≤ 9) (b0 : 0 ≤ v 1) (b1 : v 1 ≤ 9) : K7 v G = mm_endsLine (tl7 v G) ∧ TFr G (tl7 v G) ∧ CMp (tl7 v G) := by
  obtain ⟨h0, h1⟩ := h
  unfold K7 tl7
  rw [w32_id (z := 10 + v 0) (by omega) (by omega), w32_id (z := 10 + v 1) (by omega) (by omega), gd_ok (by omega) (by omega), gd_ok (by omega) (by omega), gd_ok (by omega) (by omega), gd_ok (by omega) (by omega), Option.bind_some, j86_eq]
  exact ⟨rfl, fun a j u _ => by rw [upd2_o (by omega), upd2_o (by omega)], by rw [upd2_o (by omega), upd2_o (by omega)]; exact h0, by rw [upd2_o (by omega), upd2_o (by omega)]; exact h1⟩
theorem keep7_any {C : Hp} (h : CntC C) : ok (cSc_keep 7 C) (fun C' => KFr C C' ∧ CntC C') := by
  have hf : ∀ C' : Hp, (∀ x j, x ≠ 41 → x ≠ 42 → C' x j = C x j) → KFr C C' ∧ CntC C' := fun C' q => by
    refine ⟨fun a j u _ => q _ _ (by omega) (by omega), ?_⟩
    unfold CntC
    rw [q _ _ (by omega) (by omega), q _ _ (by omega) (by omega), q _ _ (by omega) (by omega), q _ _ (by omega) (by omega)]
    exact h
  have hw : ∀ a : Int, cX_isWord a = true → 0 ≤ a ∧ a < 10 := fun a q => by
    unfold cX_isWord at q
    by_cases q0 : a < 0
    · rw [if_pos q0] at q; cases q
    · rw [if_neg q0] at q
      by_cases q1 : a < 10
      · omega
      · rw [if_neg q1] at q; cases q
  unfold cSc_keep cNe_join
  rw [if_neg (show ¬ (7 : Int) = 6 by omega), if_pos rfl, bndS]
  refine ok_ite (fun e => ok_ite (fun e2 => ?_) (fun _ => ok_some (hf C fun _ _ _ _ => rfl))) (fun _ => ok_some (hf C fun _ _ _ _ => rfl))
  have w1 := hw _ e
  have w2 := hw _ e2
  refine ok_gd w1.1 w1.2 (ok_gd w1.1 w1.2 (ok_gd w2.1 w2.2 (ok_gd w2.1 w2.2 (ok_some (hf _ fun x j u u2 => ?_)))))
  rw [upd2_o (by omega), upd2_o (by omega), upd2_o (by omega)]
theorem keep7_dat {C G : Hp} {v : Int → Int} (h : CntC C) (hD : Dat0 C G) (a0 : 0 ≤ v 0) (a1 : v 0 ≤ 9) (b0 : 0 ≤ v 1) (b1 : v 1 ≤ 9) (ab : v 1 ≠ v 0) (hv0 : v 0 = C 56 0) (hv1 : v 1 = C 56 1) : ok (cSc_keep 7 C) (fun C' => KFr C C' ∧ CntC C' ∧ Dat0 C' (tl7 v G)) := by
  obtain ⟨⟨hV, ⟨⟨p1, p2⟩, p3, p4, p5, p6, p7⟩⟩, hF, hH⟩ := hD
  have e9 : tl7 v G 201 9 = G 201 9 := by unfold tl7; rw [upd2_o (by omega), upd2_o (by omega)]
  have e10 : tl7 v G 201 10 = G 201 10 := by unfold tl7; rw [upd2_o (by omega), upd2_o (by omega)]
  have eP : ct 80 (tl7 v G 204) 0 = fun k => if k = 10 + v 1 then ior (G 204 (10 + v 1)) (ishl 1 (v 0)) else if k = 10 + v 0 then ior (G 204 (10 + v 0)) (ishl 1 (v 1)) else ct 80 (G 204) 0 k := by
    unfold tl7
    rw [upd2_o (show ¬ ((204 : Int) = 204 ∧ 10 + v 1 = 10 + v 0) by omega), cz_upd (by omega) (by omega), cz_upd (by omega) (by omega)]
  obtain ⟨V1, V2, ⟨V3, V4⟩, V5, V6, V7⟩ := hV
  have g1 : G 204 (10 + v 1) = ct 80 (G 204) 0 (10 + v 1) := (cz (by omega) (by omega)).symm
  have g0 : G 204 (10 + v 0) = ct 80 (G 204) 0 (10 + v 0) := (cz (by omega) (by omega)).symm
  rw [g1, g0] at eP
  generalize hPP : ct 80 (G 204) 0 = P at *
  generalize hPQ : (fun k : Int => if k = 10 + v 1 then ior (P (10 + v 1)) (ishl 1 (v 0)) else if k = 10 + v 0 then ior (P (10 + v 0)) (ishl 1 (v 1)) else P k) = P' at *
  have qk : ∀ k, ¬ (10 ≤ k ∧ k < 20) → P' k = P k := fun k u => by
    rw [← hPQ]
    show (if k = 10 + v 1 then _ else if k = 10 + v 0 then _ else P k) = _
    rw [if_neg (by omega), if_neg (by omega)]
  have qj : ∀ w, sl P' 10 w = jon (sl P 10) (v 0) (v 1) w := fun w => by
    rw [← hPQ]
    show (if 10 + w = 10 + v 1 then ior (P (10 + v 1)) (ishl 1 (v 0)) else if 10 + w = 10 + v 0 then ior (P (10 + v 0)) (ishl 1 (v 1)) else P (10 + w)) = (if w = v 0 then ior (P (10 + v 0)) (ishl 1 (v 1)) else if w = v 1 then ior (P (10 + v 1)) (ishl 1 (v 0)) else P (10 + w))
    by_cases e : w = v 0
    · rw [if_neg (by omega), if_pos (by omega), if_pos e]
    · rw [if_neg e]
      by_cases e2 : w = v 1
      · rw [if_pos (by omega), if_pos e2]
      · rw [if_neg (by omega), if_neg (by omega), if_neg e2]
  have hj := cjoin_ok (nt := 41) (G := C) V5 (fun w w0 w1 => p5 w w0 w1) a0 (show v 0 < 10 by omega) b0 (show v 1 < 10 by omega) (fun z => ab z.symm)
  unfold cSc_keep
  rw [if_neg (show ¬ (7 : Int) = 6 by omega), if_pos rfl, bndS, ← hv0, ← hv1]
  refine ok_mono hj fun C' hC' => ?_
  obtain ⟨j1, j2, j3⟩ := hC'
  have z : ∀ a j, ¬ (a = 41 ∨ a = 42) → C' a j = C a j := fun a j u => j3 _ _ (by omega) (by omega)
  refine ⟨fun a j u _ => z _ _ (by omega), ?_, ?_⟩
  · unfold CntC
    rw [z _ _ (by omega), z _ _ (by omega), z _ _ (by omega), z _ _ (by omega)]
    exact h
  · unfold Dat0
    rw [eP, e9, e10, z 39 12 (by omega), z 39 13 (by omega)]
    refine ⟨⟨⟨by rw [qk 0 (by omega)]; exact V1, by rw [qk 1 (by omega)]; exact V2, ⟨fun p x0 x1 => ?_, fun p x0 x1 => ?_⟩, ?_, fun r r0 r1 => ?_, fun r p r0 r1 x0 x1 => ?_⟩, ⟨⟨by rw [z _ _ (by omega), qk 0 (by omega)]; exact p1, by rw [z _ _ (by omega), qk 1 (by omega)]; exact p2⟩, ?_, j1, fun w w0 w1 => ?_, fun r r0 r1 => ?_, fun r p r0 r1 x0 x1 => by rw [z _ _ (by omega), qk _ (by omega)]; exact p7 r p r0 r1 x0 x1⟩⟩, hF, hH⟩
    · show 0 ≤ P' (2 + p) ∧ P' (2 + p) < 10
      rw [qk _ (by omega)]; exact V3 p x0 x1
    · rw [qk 0 (by omega)] at x0
      rw [qk _ (by omega)]
      exact V4 p x0 x1
    · have e : sl P' 10 = jon (sl P 10) (v 0) (v 1) := funext qj
      rw [e]
      exact jon_NW V5 a0 (by omega) b0 (by omega) (fun z => ab z.symm)
    · rw [qk _ (by omega), qk _ (by omega)]; exact V6 r r0 r1
    · rw [qk _ (by omega)]; exact V7 r p r0 r1 x0 x1
    · rw [z _ _ (by omega)]
      exact PK_congr p3 fun p x0 x1 => (qk (2 + p) (by omega)).symm
    · have e := j2 w w0 w1
      rw [show (41 : Int) + 1 = 40 + 2 from rfl] at e
      rw [e]
      exact (qj w).symm
    · rw [qk 1 (by omega)] at r1
      rw [z _ _ (by omega), z _ _ (by omega), qk _ (by omega), qk _ (by omega)]
      exact p6 r r0 r1
-- reader
def tl8 (v : Int → Int) (G : Hp) : Hp := if 6 ≤ G 204 1 then G else upd2 (upd2 (upd2 G 204 (20 + 2 * G 204 1) (v 0)) 204 (21 + 2 * G 204 1) (v 1)) 204 1 (G 204 1 + 1)
def K8 (v : Int → Int) (G : Hp) : Option Hp := (if 6 ≤ G 204 1 then some G else (gd (w32 (20 + (w32 (2 * (G 204 1))))) 121 (gd (w32 (21 + (w32 (2 * ((upd2 G 204 (w32 (20 + (w32 (2 * (G 204 1))))) (v 0)) 204 1))))) 121 (some (upd2 (upd2 (upd2 G 204 (w32 (20 + (w32 (2 * (G 204 1))))) (v 0)) 204 (w32 (21 + (w32 (2 * ((upd2 G 204 (w32 (20 + (w32 (2 * (G 204 1))))) (v 0)) 204 1))))) (v 1)) 204 1 (w32 (((upd2 (upd2 G 204 (w32 (20 + (w32 (2 * (G 204 1))))) (v 0)) 204 (w32 (21 + (w32 (2 * ((upd2 G 204 (w32 (20 + (w32 (2 * (G 204 1))))) (v 0)) 204 1))))) (v 1)) 204 1) + 1))))))).bind mm_paperLine_j86
theorem k8_eq {q : Int} {v0 : Int → Int} {G : Hp} : ((mm_readerTold_j17 q G).bind fun G73 => mm_paperLine_j86 G73) = mN 8 K8 (stg 0 8).toNat 0 v0 G := by
  have e1 : (stg 0 8).toNat = 2 := by decide
  have e : nmb (othL 8 0) (loL 8 0) (hiL 8 0) (v0 0) G = mm_numbered 0 9 G := rfl
  have e2 : ∀ (a : Int) (G : Hp), nmb (othL 8 1) (loL 8 1) (hiL 8 1) a G = mm_numbered 1 9 G := fun a G => rfl
  rw [e1]
  show _ = (nmb (othL 8 0) (loL 8 0) (hiL 8 0) (v0 0) G).bind fun r => (nmb (othL 8 1) (loL 8 1) (hiL 8 1) r.1 r.2).bind fun r2 => mN 8 K8 0 (1 + 1) (fun j => if j = 1 then r2.1 else if j = 0 then r.1 else v0 j) r2.2
  rw [e]
  unfold mm_readerTold_j17
  cases mm_numbered 0 9 G with
  | none => rfl
  | some r =>
    show ((mm_numbered 1 9 r.2).bind _).bind _ = (nmb (othL 8 1) (loL 8 1) (hiL 8 1) r.1 r.2).bind _
    rw [e2]
    cases mm_numbered 1 9 r.2 <;> rfl
theorem K8_ok {v : Int → Int} {G : Hp} (h : CMp G) : K8 v G = mm_endsLine (tl8 v G) ∧ TFr G (tl8 v G) ∧ CMp (tl8 v G) := by
  obtain ⟨h0, h1⟩ := h
  unfold K8 tl8
  by_cases e : 6 ≤ G 204 1
  · rw [if_pos e, if_pos e, Option.bind_some, j86_eq]
    exact ⟨rfl, fun _ _ _ _ => rfl, h0, h1⟩
  · rw [if_neg e, if_neg e, w32_id (z := 2 * G 204 1) (by omega) (by omega), w32_id (z := 20 + 2 * G 204 1) (by omega) (by omega)]
    have e1 : upd2 G 204 (20 + 2 * G 204 1) (v 0) 204 1 = G 204 1 := upd2_o (by omega)
    rw [e1, w32_id (z := 2 * G 204 1) (by omega) (by omega), w32_id (z := 21 + 2 * G 204 1) (by omega) (by omega)]
    have e2 : upd2 (upd2 G 204 (20 + 2 * G 204 1) (v 0)) 204 (21 + 2 * G 204 1) (v 1) 204 1 = G 204 1 := by rw [upd2_o (by omega), upd2_o (by omega)]
    rw [e2, w32_id (z := G 204 1 + 1) (by omega) (by omega), gd_ok (by omega) (by omega), gd_ok (by omega) (by omega), Option.bind_some, j86_eq]
    exact ⟨rfl, fun a j u _ => by rw [upd2_o (by omega), upd2_o (by omega), upd2_o (by omega)], by rw [upd2_o (by omega), upd2_o (by omega), upd2_o (by omega)]; exact h0, by rw [upd2_s]; omega⟩
theorem keep8_all {C : Hp} (h : CntC C) : ok (cSc_keep 8 C) (fun C' => KFr C C' ∧ CntC C' ∧ (C 40 2 < 6 → C' 40 2 = C 40 2 + 1 ∧ C' 45 (C 40 2) = C 56 0 ∧ C' 46 (C 40 2) = C 56 1 ∧ ∀ a j, ¬ (a = 40 ∧ j = 2) → ¬ ((a = 45 ∨ a = 46) ∧ j = C 40 2) → C' a j = C a j)) := by
  obtain ⟨⟨h1, h2⟩, h3, h4⟩ := h
  unfold cSc_keep cPa_addReader
  rw [if_neg (show ¬ (8 : Int) = 6 by omega), if_neg (show ¬ (8 : Int) = 7 by omega), if_pos rfl, bndS]
  refine ok_ite (fun e => ?_) (fun e => ok_some ⟨fun _ _ _ _ => rfl, ⟨⟨h1, h2⟩, h3, h4⟩, fun x => absurd x e⟩)
  rw [show (40 : Int) + 5 = 45 from rfl, show (40 : Int) + 6 = 46 from rfl]
  have e1 : upd2 C 45 (C 40 2) (C 56 0) 40 2 = C 40 2 := upd2_o (by omega)
  rw [e1]
  have e2 : upd2 (upd2 C 45 (C 40 2) (C 56 0)) 46 (C 40 2) (C 56 1) 40 2 = C 40 2 := by rw [upd2_o (by omega), upd2_o (by omega)]
  rw [e2, w32_id (by omega) (by omega), gd_ok h2 e, gd_ok h2 e]
  refine ok_some ⟨fun a j u _ => by rw [upd2_o (by omega), upd2_o (by omega), upd2_o (by omega)], ⟨⟨by rw [upd2_o (by omega), upd2_o (by omega), upd2_o (by omega)]; exact h1, by rw [upd2_s]; omega⟩, by rw [upd2_o (by omega), upd2_o (by omega), upd2_o (by omega)]; exact h3, by rw [upd2_o (by omega), upd2_o (by omega), upd2_o (by omega)]; exact h4⟩, fun _ => ⟨upd2_s, ?_, ?_, fun a j u u2 => ?_⟩⟩
  · rw [upd2_o (by omega), upd2_o (by omega), upd2_s]
  · rw [upd2_o (by omega), upd2_s]
  · rw [upd2_o (by omega), upd2_o (by omega), upd2_o (by omega)]
theorem keep8_dat {C G : Hp} {v : Int → Int} (h : CntC C) (hD : Dat0 C G) (h6 : G 204 1 < 6) (a0 : 0 ≤ v 0) (a1 : v 0 ≤ 9) (b0 : 0 ≤ v 1) (b1 : v 1 ≤ 9) (hv0 : v 0 = C 56 0) (hv1 : v 1 = C 56 1) : ok (cSc_keep 8 C) (fun C' => KFr C C' ∧ CntC C' ∧ Dat0 C' (tl8 v G)) := by
  obtain ⟨⟨hV, ⟨⟨p1, p2⟩, p3, p4, p5, p6, p7⟩⟩, hF, hH⟩ := hD
  rw [cz (k := 1) (by omega) (by omega)] at p2
  have g1 : 0 ≤ G 204 1 := by rw [← p2]; exact h.1.2
  have c1 : ct 80 (G 204) 0 1 = G 204 1 := cz (by omega) (by omega)
  have e8 : tl8 v G = upd2 (upd2 (upd2 G 204 (20 + 2 * G 204 1) (v 0)) 204 (21 + 2 * G 204 1) (v 1)) 204 1 (G 204 1 + 1) := if_neg (by omega)
  have e9 : tl8 v G 201 9 = G 201 9 := by rw [e8, upd2_o (by omega), upd2_o (by omega), upd2_o (by omega)]
  have e10 : tl8 v G 201 10 = G 201 10 := by rw [e8, upd2_o (by omega), upd2_o (by omega), upd2_o (by omega)]
  have eP : ct 80 (tl8 v G 204) 0 = fun k => if k = 1 then G 204 1 + 1 else if k = 21 + 2 * G 204 1 then v 1 else if k = 20 + 2 * G 204 1 then v 0 else ct 80 (G 204) 0 k := by
    rw [e8, cz_upd (by omega) (by omega), cz_upd (by omega) (by omega), cz_upd (by omega) (by omega)]
  obtain ⟨V1, V2, ⟨V3, V4⟩, V5, V6, V7⟩ := hV
  refine ok_mono (keep8_all h) fun C' hC' => ?_
  obtain ⟨k1, k2, k3⟩ := hC'
  obtain ⟨k3, k4, k5, k6⟩ := k3 (by omega)
  refine ⟨k1, k2, ?_⟩
  generalize hPP : ct 80 (G 204) 0 = P at *
  generalize hPQ : (fun k : Int => if k = 1 then G 204 1 + 1 else if k = 21 + 2 * G 204 1 then v 1 else if k = 20 + 2 * G 204 1 then v 0 else P k) = P' at *
  have q1 : P' 1 = G 204 1 + 1 := by rw [← hPQ]; rfl
  have q21 : P' (21 + 2 * G 204 1) = v 1 := by
    rw [← hPQ]
    show (if 21 + 2 * G 204 1 = 1 then _ else if 21 + 2 * G 204 1 = 21 + 2 * G 204 1 then v 1 else _) = _
    rw [if_neg (by omega), if_pos rfl]
  have q20 : P' (20 + 2 * G 204 1) = v 0 := by
    rw [← hPQ]
    show (if 20 + 2 * G 204 1 = 1 then _ else if 20 + 2 * G 204 1 = 21 + 2 * G 204 1 then v 1 else if 20 + 2 * G 204 1 = 20 + 2 * G 204 1 then v 0 else _) = _
    rw [if_neg (by omega), if_neg (by omega), if_pos rfl]
  have qk : ∀ k, k ≠ 1 → k ≠ 20 + 2 * G 204 1 → k ≠ 21 + 2 * G 204 1 → P' k = P k := fun k u x y => by
    rw [← hPQ]
    show (if k = 1 then _ else if k = 21 + 2 * G 204 1 then v 1 else if k = 20 + 2 * G 204 1 then v 0 else P k) = _
    rw [if_neg u, if_neg y, if_neg x]
  unfold Dat0
  rw [eP, e9, e10, k6 39 12 (by omega) (by omega), k6 39 13 (by omega) (by omega)]
  refine ⟨⟨⟨by rw [qk 0 (by omega) (by omega) (by omega)]; exact V1, by rw [q1]; omega, ⟨fun p x0 x1 => ?_, fun p x0 x1 => ?_⟩, NW_congr (fun w w0 w1 => (qk (10 + w) (by omega) (by omega) (by omega)).symm) V5, fun r r0 r1 => ?_, fun r p r0 r1 x0 x1 => ?_⟩, ⟨⟨by rw [k6 _ _ (by omega) (by omega), qk 0 (by omega) (by omega) (by omega)]; exact p1, by rw [q1, k3, p2]⟩, ?_, p4.fr fun a j u x => k6 _ _ (by omega) (by omega), fun w w0 w1 => by rw [k6 _ _ (by omega) (by omega), qk _ (by omega) (by omega) (by omega)]; exact p5 w w0 w1, fun r r0 r1 => ?_, fun r p r0 r1 x0 x1 => by rw [k6 _ _ (by omega) (by omega), qk _ (by omega) (by omega) (by omega)]; exact p7 r p r0 r1 x0 x1⟩⟩, hF, hH⟩
  · show 0 ≤ P' (2 + p) ∧ P' (2 + p) < 10
    rw [qk _ (by omega) (by omega) (by omega)]; exact V3 p x0 x1
  · rw [qk 0 (by omega) (by omega) (by omega)] at x0
    rw [qk _ (by omega) (by omega) (by omega)]
    exact V4 p x0 x1
  · by_cases e : r = G 204 1
    · rw [e, q20, q21]; omega
    · rw [qk _ (by omega) (by omega) (by omega), qk _ (by omega) (by omega) (by omega)]; exact V6 r r0 r1
  · rw [qk _ (by omega) (by omega) (by omega)]; exact V7 r p r0 r1 x0 x1
  · rw [k6 _ _ (by omega) (by omega)]
    exact PK_congr p3 fun p x0 x1 => (qk (2 + p) (by omega) (by omega) (by omega)).symm
  · rw [q1] at r1
    by_cases e : r = G 204 1
    · rw [show (40 : Int) + 5 = 45 from rfl, show (40 : Int) + 6 = 46 from rfl, e, q20, q21, ← p2, k4, k5]
      exact ⟨hv0.symm, hv1.symm⟩
    · rw [k6 _ _ (by omega) (by omega), k6 _ _ (by omega) (by omega), qk _ (by omega) (by omega) (by omega), qk _ (by omega) (by omega) (by omega)]
      exact p6 r r0 (by omega)
