-- texts: one line of both, whatever line it is
def CntC (C : Hp) : Prop := (0 ≤ C 40 1 ∧ 0 ≤ C 40 2) ∧ 0 ≤ C 48 0 ∧ 0 ≤ C 52 0
theorem CntC.fr {C C' : Hp} (h : CntC C) (hf : ∀ a j, 40 ≤ a → a ≤ 54 → C' a j = C a j) : CntC C' := by
  unfold CntC
  rw [hf _ _ (by omega) (by omega), hf _ _ (by omega) (by omega), hf _ _ (by omega) (by omega), hf _ _ (by omega) (by omega)]
  exact h
def KFr (C C' : Hp) : Prop := ∀ a j, ¬ (40 ≤ a ∧ a ≤ 54) → ¬ (a = 39 ∧ (j = 12 ∨ j = 13)) → C' a j = C a j
def TFr (G G' : Hp) : Prop := ∀ a j, a ≠ 204 → ¬ (a = 201 ∧ (j = 9 ∨ j = 10)) → G' a j = G a j
def SFr (C C' : Hp) : Prop := ∀ a j, ¬ (39 ≤ a ∧ a ≤ 56) → C' a j = C a j
def MFr (G G' : Hp) : Prop := ∀ a j, (a = 202 ∧ j ≠ 5 ∧ j ≠ 6) ∨ a = 203 → G' a j = G a j
theorem SFr.trans {C C' C'' : Hp} (h : SFr C C') (h2 : SFr C' C'') : SFr C C'' := fun a j u => (h2 a j u).trans (h a j u)
theorem MFr.trans {C C' C'' : Hp} (h : MFr C C') (h2 : MFr C' C'') : MFr C C'' := fun a j u => (h2 a j u).trans (h a j u)
theorem FrC.s {C C' : Hp} (h : FrC C C') : SFr C C' := fun a j u => h _ _ (by omega) (by omega)
theorem FrM.m {G G' : Hp} (h : FrM G G') : MFr G G' := fun a j u => h _ _ (by omega) (by omega)
theorem KFr.s {C C' : Hp} (h : KFr C C') : SFr C C' := fun a j u => h _ _ (by omega) (by omega)
theorem TFr.m {G G' : Hp} (h : TFr G G') : MFr G G' := fun a j u => h _ _ (by omega) (by omega)
def kDl (line : Int) : Hp → Option Hp := fun G_105 => if G_105 39 8 = 3 then ((cSc_move G_105).bind fun G119 => (cSc_keep line G119).bind fun G124 => some G124) else ((cSc_breakOff G_105).bind fun G114 => some G114)
def LineRes (n : Int) (T : Int → Int) (Data : Hp → Hp → Prop) (CM : Hp → Prop) (q : Int) (X Y : Option Hp) (C G : Hp) : Prop := ∃ C' G', X = some C' ∧ Y = some G' ∧ (Dead C' G' ∨ ∃ w' q', Live n T w' q' C' G' ∧ q < q' ∧ CntC C' ∧ CM G' ∧ (w' = 0 → Data C' G')) ∧ SFr C C' ∧ MFr G G'
theorem cline_eq {s line q : Int} {C : Hp} {full : Bool} (l0 : 0 ≤ line) (l1 : line ≤ 10) (h9 : C 39 9 = q) (hlo : cSc_lineOf s C = some line) (hfull : cSc_isFull line C = some full) : cSc_line s C = (cSc_move (ntk 3 q full C)).bind fun G40 => cSc_line_L46 s line (stg 0 line) (fun G_60 => (cSc_breakOff G_60).bind fun G61 => some G61) (kDl line) FU 0 G40 := by
  unfold cSc_line
  rw [hlo, Option.bind_some, if_neg (show ¬ line = -1 by omega), hfull, Option.bind_some]
  unfold cSc_line_j33
  cases full with
  | true =>
    rw [if_tt, note_ok, Option.bind_some, gd_ok (by omega) (by omega), h9]
    rfl
  | false =>
    have e : ntk 3 q false C = C := if_neg (fun z => Bool.noConfusion z.1)
    rw [if_ff, gd_ok (by omega) (by omega), e]
    rfl
theorem line_gen {n s line w q : Int} {T : Int → Int} {K : (Int → Int) → Hp → Option Hp} {tl : (Int → Int) → Hp → Hp} {C G : Hp} {Data : Hp → Hp → Prop} {CM : Hp → Prop} {full fullM : Bool} {ML : Option Hp} {v0 : Int → Int}
    (l0 : 0 ≤ line) (l1 : line ≤ 10) (hL : Live n T w q C G) (htok : tkT n T q = 1) (hlo : cSc_lineOf s C = some line) (hfull : cSc_isFull line C = some full) (hfe : w = 0 → full = fullM)
    (hM : ∀ G1, mm_advance G = some G1 → (∀ a j, ¬ (a = 201 ∧ 3 ≤ j ∧ j ≤ 7) → G1 a j = G a j) → ML = mN line K (stg 0 line).toNat 0 v0 (flk 3 q fullM G1))
    (hcc : CntC C) (hcm : CM G) (hcmf : ∀ G G', CM G → (∀ j, G' 204 j = G 204 j) → CM G')
    (hK : ∀ v G, InL line (stg 0 line) v → CM G → K v G = mm_endsLine (tl v G) ∧ TFr G (tl v G) ∧ CM (tl v G))
    (hKeep : ∀ C, CntC C → ok (cSc_keep line C) (fun C' => KFr C C' ∧ CntC C'))
    (hDfr : ∀ C G C' G', Data C G → FrC C C' → FrM G G' → Data C' G')
    (hData : w = 0 → fullM = false → ∀ v C' G', CntC C' → Data C' G' → (∀ j, G' 204 j = G 204 j) → InL line (stg 0 line) v → (∀ j, 0 ≤ j → j < stg 0 line → v j = C' 56 j ∧ (othL line j = true → v j ≠ v 0)) → ok (cSc_keep line C') (fun C'' => KFr C' C'' ∧ CntC C'' ∧ Data C'' (tl v G')))
    (hD : w = 0 → Data C G) : LineRes n T Data CM q (cSc_line s C) ML C G := by
  have hmany := manyL l0 l1
  obtain ⟨⟨tC, tM⟩, hT, hF, ⟨hw1, hw0⟩, hp⟩ := hL
  obtain ⟨⟨q0, qn⟩, ⟨t9, t7, t8, t10⟩, g4, g3, g5, g6, g7⟩ := id hT
  have hn := tC.1.2
  have hte := te_r (T := T) q0 qn hn
  have hqn : q < n := by
    have := (tk_r n T q).2.2
    omega
  rw [cline_eq l0 l1 t9 hlo hfull]
  obtain ⟨w2, ⟨n1, n2, n3⟩, n4⟩ := note_J (n := n) (q := q) (T := T) (k := 3) (at' := q) (C := C) (G := G) (w := w) (b := full) (b' := fullM) hF hfe
  have zc : ∀ a j, ¬ (a = 39 ∧ (j = 3 ∨ j = 4)) → ntk 3 q full C a j = C a j := fun a j u => ntk_fr u
  obtain ⟨C2, G2, ec, eg, ⟨tC2, tM2⟩, hT2, hq2, fc2, fg2⟩ := move_J (C := ntk 3 q full C) (G := G) (p := teT n T q) (tC.fr (fun j => zc _ _ (by omega)) (zc _ _ (by omega))) tM ((zc _ _ (by omega)).trans t7) g3 (by omega) hte.2.1
  rw [ec, Option.bind_some, hM G2 eg fg2]
  have f5 : G2 202 5 = G 202 5 := fg2 _ _ (by omega)
  have f6 : G2 202 6 = G 202 6 := fg2 _ _ (by omega)
  have m5 : flk 3 q fullM G2 202 5 = flk 3 q fullM G 202 5 ∧ flk 3 q fullM G2 202 6 = flk 3 q fullM G 202 6 := by
    unfold flk
    rw [f5]
    by_cases h : fullM = true ∧ G 202 5 = 0
    · rw [if_pos h, if_pos h]
      exact ⟨by rw [upd2_o (by omega), upd2_s, upd2_o (by omega), upd2_s], by rw [upd2_s, upd2_s]⟩
    · rw [if_neg h, if_neg h]
      exact ⟨f5, f6⟩
  have FC2 : FrC C C2 := fun a j u u2 => by rw [fc2 _ _ (by omega)]; exact zc _ _ (by omega)
  have FM2 : FrM G (flk 3 q fullM G2) := fun a j u u2 => by rw [flk_fr u2]; exact fg2 _ _ (by omega)
  have hL2 : Live n T w2 (nx (wsT n T) (teT n T q)) C2 (flk 3 q fullM G2) := by
    refine ⟨⟨tC2, tM2.fr (fun j _ => flk_fr (by omega)) (flk_fr (by omega))⟩, hT2.fr (fun j _ _ => rfl) (fun j _ _ => flk_fr (by omega)), ⟨?_, ?_, ?_, ?_⟩, ?_, ?_⟩
    · rw [fc2 _ _ (by omega)]; exact n1
    · rw [m5.1]; exact n2
    · rw [flk_fr (by omega), fg2 _ _ (by omega)]; exact hF.2.2.1
    · rw [fc2 _ _ (by omega), m5.2]; exact n3
    · rcases n4 with ⟨h, -, -⟩ | ⟨-, -, h, -⟩
      · rw [h]; exact ⟨hw1, hw0⟩
      · rw [h]; omega
    · intro hw'
      rw [m5.2]
      rcases n4 with ⟨h, h3, -⟩ | ⟨-, -, -, h3⟩
      · rw [h3]
        have := hp (by rw [← h]; exact hw')
        omega
      · rw [h3]; omega
  have hgood : w2 = 0 → w = 0 ∧ full = false := fun hw' => by
    rcases n4 with ⟨h, -, h3⟩ | ⟨-, -, h, -⟩
    · exact ⟨by omega, h3 (by omega)⟩
    · omega
  have hcc2 : ∀ C', FrC C C' → CntC C' := fun C' h => hcc.fr fun a j u v => h _ _ (by omega) (by omega)
  have hcm2 : ∀ G', FrM G G' → CM G' := fun G' h => hcmf G G' hcm fun j => h _ _ (by omega) (by omega)
  rcases nums_ok (n := n) (s := s) (T := T) (K := K) (kD := kDl line) l0 l1 (stg 0 line).toNat FU 0 _ w2 v0 C2 _ (by show _ < 100000; omega) (by omega) (by omega) hL2 (fun _ j j0 j1 => by omega) (fun j j0 j1 => by omega) with ⟨C3, G3, v', w3, q3, a1, a2, hL3, a4, a5, a6, a7, a8⟩ | ⟨C3, G3, v', a1, a2, hd, a6, a7, a8⟩
  · have FC3 := FC2.trans a7
    have FM3 := FM2.trans a8
    obtain ⟨k1, k2, k3⟩ := hK v' G3 a6 (hcm2 _ FM3)
    rw [a1, a2, k1]
    obtain ⟨⟨tC3, tM3⟩, hT3, hF3, ⟨hw31, hw30⟩, hp3⟩ := hL3
    obtain ⟨⟨q30, q3n⟩, ⟨u9, u7, u8, u10⟩, d4, d3, d5, d6, d7⟩ := id hT3
    have hte3 := te_r (T := T) q30 q3n hn
    have e8 : tl v' G3 201 8 = 0 := (k2 _ _ (by omega) (by omega)).trans hF3.2.2.1
    have e5 : tl v' G3 201 5 = mkT n T q3 := (k2 _ _ (by omega) (by omega)).trans d5
    have hkD : kDl line C3 = if tkT n T q3 = 3 then ((cSc_move C3).bind fun G119 => (cSc_keep line G119).bind fun G124 => some G124) else ((cSc_breakOff C3).bind fun G114 => some G114) := by
      show (if C3 39 8 = 3 then _ else _) = _
      rw [u8]
    have hmE : mm_endsLine (tl v' G3) = if mkT n T q3 = 2 then ((mm_advance (tl v' G3)).bind fun G16 => some G16) else some (en (tl v' G3)) := by
      unfold mm_endsLine mm_endsLine_j22
      rw [if_pos e8, e5, ends_0 e8, Option.bind_some]
    rw [hkD, hmE]
    by_cases h3 : tkT n T q3 = 3
    · rw [if_pos h3, if_pos ((mk_1 n T q3).2.1.mpr h3)]
      have tM3' : TpM n T (tl v' G3) := tM3.fr (fun j _ => k2 _ _ (by omega) (by omega)) (k2 _ _ (by omega) (by omega))
      obtain ⟨C4, G4, ec4, eg4, ⟨tC4, tM4⟩, hT4, hq4, fc4, fg4⟩ := move_J (C := C3) (G := tl v' G3) (p := teT n T q3) tC3 tM3' u7 ((k2 _ _ (by omega) (by omega)).trans d3) (by omega) hte3.2.1
      have FC4 : FrC C C4 := FC3.trans fun a j u u2 => fc4 _ _ (by omega)
      have FM4 : FrM (tl v' G3) G4 := fun a j u u2 => fg4 _ _ (by omega)
      rw [ec4, Option.bind_some, eg4, Option.bind_some]
      have hL4 : ∀ C5, KFr C4 C5 → Live n T w3 (nx (wsT n T) (teT n T q3)) C5 G4 := by
        intro C5 hk
        refine ⟨⟨tC4.fr (fun j => hk _ _ (by omega) (by omega)) (hk _ _ (by omega) (by omega)), tM4⟩, hT4.fr (fun j _ _ => hk _ _ (by omega) (by omega)) (fun j _ _ => rfl), ⟨?_, ?_, ?_, ?_⟩, ⟨hw31, hw30⟩, fun hw => ?_⟩
        · rw [hk _ _ (by omega) (by omega), fc4 _ _ (by omega)]; exact hF3.1
        · rw [fg4 _ _ (by omega), k2 _ _ (by omega) (by omega)]; exact hF3.2.1
        · rw [fg4 _ _ (by omega)]; exact e8
        · rw [hk _ _ (by omega) (by omega), fc4 _ _ (by omega), fg4 _ _ (by omega), k2 _ _ (by omega) (by omega)]; exact hF3.2.2.2
        · rw [fg4 _ _ (by omega), k2 _ _ (by omega) (by omega)]
          have := hp3 hw
          omega
      have hcm4 : CM G4 := hcmf _ _ k3 fun j => fg4 _ _ (by omega)
      by_cases hw3 : w3 = 0
      · obtain ⟨hw2, hv⟩ := a5 hw3
        obtain ⟨hw, hfu⟩ := hgood hw2
        have hfm : fullM = false := by rw [← hfe hw]; exact hfu
        have hDat := hData hw hfm v' C4 G3 (hcc2 _ FC4) (hDfr _ _ _ _ (hD hw) FC4 FM3) (fun j => FM3 _ _ (by omega) (by omega)) a6 (fun j j0 j1 => by
          rw [fc4 _ _ (by omega)]
          exact hv j j0 j1)
        obtain ⟨C5, e1, b1, b2, b3⟩ := hDat
        refine ⟨C5, G4, ?_, rfl, Or.inr ⟨w3, _, hL4 C5 b1, by omega, b2, hcm4, fun _ => hDfr _ _ _ _ b3 (FrC.refl C5) FM4⟩, FC4.s.trans b1.s, (FM3.m.trans k2.m).trans FM4.m⟩
        rw [e1, Option.bind_some]
      · obtain ⟨C5, e1, b1, b2⟩ := hKeep C4 (hcc2 _ FC4)
        refine ⟨C5, G4, ?_, rfl, Or.inr ⟨w3, _, hL4 C5 b1, by omega, b2, hcm4, fun h => absurd h hw3⟩, FC4.s.trans b1.s, (FM3.m.trans k2.m).trans FM4.m⟩
        rw [e1, Option.bind_some]
    · rw [if_neg h3, if_neg (fun z => h3 ((mk_1 n T q3).2.1.mp z))]
      have e4 : tl v' G3 201 4 = q3 := (k2 _ _ (by omega) (by omega)).trans d4
      refine ⟨upd2 (upd2 C3 39 3 1) 39 4 q3, en (tl v' G3), ?_, rfl, Or.inl ⟨?_, ?_, ?_, ?_⟩, FC3.s.trans fun a j u => ?_, (FM3.m.trans k2.m).trans (en_fr _).m⟩
      · unfold cSc_breakOff
        rw [Option.bind_some, upd2_o (show ¬ ((39 : Int) = 39 ∧ (9 : Int) = 3) by omega), u9]
      · rw [upd2_o (by omega), upd2_s]
      · unfold en; rw [upd2_o (by omega), upd2_o (by omega), upd2_s]
      · unfold en; rw [upd2_o (by omega), upd2_s]
      · unfold en; rw [upd2_s, upd2_s, e4]
      · rw [upd2_o (by omega), upd2_o (by omega)]
  · have FC3 := FC2.trans a7
    have FM3 := FM2.trans a8
    obtain ⟨k1, k2, k3⟩ := hK v' G3 a6 (hcm2 _ FM3)
    rw [a1, a2, k1]
    obtain ⟨x1, x2, x3, x4⟩ := hd
    have e8 : tl v' G3 201 8 = 1 := (k2 _ _ (by omega) (by omega)).trans x2
    refine ⟨C3, tl v' G3, rfl, ?_, Or.inl ⟨x1, e8, (k2 _ _ (by omega) (by omega)).trans x3, x4.trans (k2 _ _ (by omega) (by omega)).symm⟩, FC3.s, FM3.m.trans k2.m⟩
    unfold mm_endsLine mm_endsLine_j22
    rw [if_neg (by omega), ends_1 e8, Option.bind_some]
/-- no line begins so: both break off -/
theorem line_no {n s w q : Int} {T : Int → Int} {C G : Hp} {Data : Hp → Hp → Prop} {CM : Hp → Prop} {ML : Option Hp} (hL : Live n T w q C G) (hlo : cSc_lineOf s C = some (-1)) (hM : ∃ G', ML = some G' ∧ G' 201 8 = 1 ∧ G' 202 5 = 1 ∧ G' 202 6 = q ∧ MFr G G') : LineRes n T Data CM q (cSc_line s C) ML C G := by
  obtain ⟨G', e, g1, g2, g3, g4⟩ := hM
  have h9 : C 39 9 = q := hL.2.1.2.1.1
  refine ⟨upd2 (upd2 C 39 3 1) 39 4 q, G', ?_, e, Or.inl ⟨?_, g1, g2, ?_⟩, fun a j u => ?_, g4⟩
  · unfold cSc_line
    rw [hlo, Option.bind_some, if_pos rfl]
    unfold cSc_breakOff
    rw [Option.bind_some, upd2_o (show ¬ ((39 : Int) = 39 ∧ (9 : Int) = 3) by omega), h9]
  · rw [upd2_o (by omega), upd2_s]
  · rw [upd2_s, g3]
  · rw [upd2_o (by omega), upd2_o (by omega)]
