-- texts: all lines, from the start to the end
def DatS (s : Int) (C G : Hp) : Prop := (s = 0 → Dat0 C G) ∧ (s = 1 → Dat1 C G) ∧ (s = 2 → Dat2 C G)
def CMS (s : Int) (G : Hp) : Prop := (s = 0 → CMp G) ∧ (s ≠ 0 → CMo G)
def MLn (s : Int) (G : Hp) : Option Hp := if s = 0 then mm_paperLine G else if s = 1 then mm_weekLine G else mm_logLine G
theorem LineRes.mono {n q : Int} {T : Int → Int} {D D' : Hp → Hp → Prop} {M M' : Hp → Prop} {X Y : Option Hp} {C G : Hp} (h : LineRes n T D M q X Y C G) (hD : ∀ C G, D C G → D' C G) (hM : ∀ G, M G → M' G) : LineRes n T D' M' q X Y C G := by
  obtain ⟨C', G', e1, e2, h3, h4⟩ := h
  refine ⟨C', G', e1, e2, ?_, h4⟩
  rcases h3 with h3 | ⟨w', q', a1, a2, a3, a4, a5⟩
  · exact Or.inl h3
  · exact Or.inr ⟨w', q', a1, a2, a3, hM _ a4, fun z => hD _ _ (a5 z)⟩
theorem line_all {n w q s : Int} {T : Int → Int} {C G : Hp} (s0 : 0 ≤ s) (s1 : s ≤ 2) (hL : Live n T w q C G) (hcc : CntC C) (hcm : CMS s G) (hD : w = 0 → DatS s C G) : LineRes n T (DatS s) (CMS s) q (cSc_line s C) (MLn s G) C G := by
  unfold MLn
  rcases (show s = 0 ∨ s = 1 ∨ s = 2 by omega) with rfl | rfl | rfl
  · rw [if_pos rfl]
    exact (paper_line hL hcc (hcm.1 rfl) fun z => (hD z).1 rfl).mono (fun C G h => ⟨fun _ => h, fun z => by omega, fun z => by omega⟩) fun G h => ⟨fun _ => h, fun z => absurd rfl z⟩
  · rw [if_neg (by omega), if_pos rfl]
    exact (week_line hL hcc (hcm.2 (by omega)) fun z => (hD z).2.1 rfl).mono (fun C G h => ⟨fun z => by omega, fun _ => h, fun z => by omega⟩) fun G h => ⟨fun z => by omega, fun _ => h⟩
  · rw [if_neg (by omega), if_neg (by omega)]
    exact (log_line (s := 2) (by omega) hL hcc (hcm.2 (by omega)) fun z => (hD z).2.2 rfl).mono (fun C G h => ⟨fun z => by omega, fun z => by omega, fun _ => h⟩) fun G h => ⟨fun z => by omega, fun _ => h⟩
def StT (n : Int) (T : Int → Int) (s x : Int) (C G : Hp) : Prop := Dead C G ∨ ∃ w q, Live n T w q C G ∧ x ≤ q ∧ CntC C ∧ CMS s G ∧ (w = 0 → DatS s C G)
def EnT (n : Int) (T : Int → Int) (s : Int) (C G : Hp) : Prop := Dead C G ∨ ∃ w q, Live n T w q C G ∧ tkT n T q = 0 ∧ CntC C ∧ (w = 0 → DatS s C G)
theorem tloop_ok {n s a a2 : Int} {T : Int → Int} {kC : Hp → Option Hp} {kM : Hp → Option (Int × Hp)} (s0 : 0 ≤ s) (s1 : s ≤ 2) (hn : n ≤ 600) : ∀ (m n1 n2 : Nat) (x : Int) (C G : Hp), m < n1 → m < n2 → 0 ≤ x → x + m = 600 → StT n T s x C G →
    ∃ C' G', cSc_take_L89 a s kC n1 x C = kC C' ∧ mm_text_L80 s a2 kM n2 G = kM G' ∧ EnT n T s C' G' ∧ SFr C C' ∧ MFr G G' := by
  have dead : ∀ (n1 n2 : Nat) (x : Int) (C G : Hp), Dead C G → cSc_take_L89 a s kC (n1 + 1) x C = kC C ∧ mm_text_L80 s a2 kM (n2 + 1) G = kM G := by
    intro n1 n2 x C G hd
    obtain ⟨d1, d2, d3, d4⟩ := hd
    constructor
    · rw [cSc_take_L89, d1]
      split
      · split <;> rfl
      · rfl
    · rw [mm_text_L80, d2, if_neg (by omega)]
  have stop : ∀ (n1 n2 : Nat) (x w q : Int) (C G : Hp), Live n T w q C G → tkT n T q = 0 → cSc_take_L89 a s kC (n1 + 1) x C = kC C ∧ mm_text_L80 s a2 kM (n2 + 1) G = kM G := by
    intro n1 n2 x w q C G hL ht
    obtain ⟨-, ⟨-, ⟨-, -, t8, -⟩, -, -, g5, -, -⟩, ⟨-, -, h8, -⟩, -⟩ := hL
    constructor
    · rw [cSc_take_L89, t8, if_pos ht]
      split <;> rfl
    · rw [mm_text_L80, h8, if_pos rfl, g5, if_pos ((mk_1 n T q).2.2.2.mpr ht)]
  intro m
  induction m with
  | zero =>
    intro n1 n2 x C G h1 h2 x0 hx hS
    obtain ⟨n1', rfl⟩ : ∃ n', n1 = n' + 1 := ⟨n1 - 1, by omega⟩
    obtain ⟨n2', rfl⟩ : ∃ n', n2 = n' + 1 := ⟨n2 - 1, by omega⟩
    rcases hS with hd | ⟨w, q, hL, hq, hcc, hcm, hD⟩
    · exact ⟨C, G, (dead n1' n2' x C G hd).1, (dead n1' n2' x C G hd).2, Or.inl hd, fun _ _ _ => rfl, fun _ _ _ => rfl⟩
    · have hqn := hL.2.1.1.2
      have ht : tkT n T q = 0 := (tk_r n T q).2.2.mpr (by omega)
      exact ⟨C, G, (stop n1' n2' x w q C G hL ht).1, (stop n1' n2' x w q C G hL ht).2, Or.inr ⟨w, q, hL, ht, hcc, hD⟩, fun _ _ _ => rfl, fun _ _ _ => rfl⟩
  | succ m ih =>
    intro n1 n2 x C G h1 h2 x0 hx hS
    obtain ⟨n1', rfl⟩ : ∃ n', n1 = n' + 1 := ⟨n1 - 1, by omega⟩
    obtain ⟨n2', rfl⟩ : ∃ n', n2 = n' + 1 := ⟨n2 - 1, by omega⟩
    rcases hS with hd | ⟨w, q, hL, hq, hcc, hcm, hD⟩
    · exact ⟨C, G, (dead n1' n2' x C G hd).1, (dead n1' n2' x C G hd).2, Or.inl hd, fun _ _ _ => rfl, fun _ _ _ => rfl⟩
    · by_cases ht : tkT n T q = 0
      · exact ⟨C, G, (stop n1' n2' x w q C G hL ht).1, (stop n1' n2' x w q C G hL ht).2, Or.inr ⟨w, q, hL, ht, hcc, hD⟩, fun _ _ _ => rfl, fun _ _ _ => rfl⟩
      · obtain ⟨C', G', e1, e2, h3, fs, fm⟩ := line_all s0 s1 hL hcc hcm hD
        obtain ⟨-, ⟨-, ⟨-, -, t8, -⟩, -, -, g5, -, -⟩, ⟨w3, -, h8, -⟩, ⟨hw1, -⟩, -⟩ := hL
        have hC : cSc_take_L89 a s kC (n1' + 1) x C = cSc_take_L89 a s kC n1' (x + 1) C' := by
          rw [cSc_take_L89, if_pos (by omega), t8, if_neg ht, w3, if_neg hw1, e1, Option.bind_some, w32_id (by omega) (by omega)]
        have hM : mm_text_L80 s a2 kM (n2' + 1) G = mm_text_L80 s a2 kM n2' G' := by
          rw [mm_text_L80, h8, if_pos rfl, g5, if_neg (fun z => ht ((mk_1 n T q).2.2.2.mp z))]
          unfold MLn at e2
          by_cases z0 : s = 0
          · rw [if_pos z0] at e2
            rw [if_pos z0, e2, Option.bind_some]
          · rw [if_neg z0] at e2
            rw [if_neg z0]
            by_cases z1 : s = 1
            · rw [if_pos z1] at e2
              rw [if_pos z1, e2, Option.bind_some]
            · rw [if_neg z1] at e2
              rw [if_neg z1, e2, Option.bind_some]
        have hS' : StT n T s (x + 1) C' G' := by
          rcases h3 with h3 | ⟨w', q', a1, a2', a3, a4, a5⟩
          · exact Or.inl h3
          · exact Or.inr ⟨w', q', a1, by omega, a3, a4, a5⟩
        obtain ⟨C2, G2, b1, b2, b3, b4, b5⟩ := ih n1' n2' (x + 1) C' G' (by omega) (by omega) (by omega) (by omega) hS'
        exact ⟨C2, G2, hC.trans b1, hM.trans b2, b3, fs.trans b4, fm.trans b5⟩
/-- behind the last line: readers, places told of that are not there -/
def kC123 (a s : Int) : Hp → Option Hp := fun G_123 => if G_123 39 3 = 0 then (if G_123 40 2 ≤ G_123 39 12 then ((cSc_note 4 (G_123 39 6) G_123).bind fun G150 => cSc_take_j153 a s G150) else cSc_take_j153 a s G_123) else cSc_take_j153 a s G_123
def kM141 (s a2 : Int) : Hp → Option (Int × Hp) := fun G_141 => if s = 0 then (if G_141 202 5 = 0 then (if G_141 204 1 ≤ G_141 201 9 then ((mm_also 4 (G_141 201 4) G_141).bind fun G173 => mm_text_j176 s a2 G173) else mm_text_j176 s a2 G_141) else mm_text_j176 s a2 G_141) else mm_text_j176 s a2 G_141
theorem tend_ok {n s a a2 : Int} {T : Int → Int} {C G : Hp} (s0 : 0 ≤ s) (s1 : s ≤ 2) (h : EnT n T s C G) : ∃ C' G', kC123 a s C = some C' ∧ kM141 s a2 G = mm_text_j211 s a2 G' ∧ (C' 39 3 = G' 202 5 ∧ C' 39 4 = G' 202 6) ∧ (G' 202 5 = 0 → DatS s C' G') ∧ SFr C C' ∧ MFr G G' := by
  have away : ∀ w : Int, w ≠ 0 → C 39 3 = w → G 202 5 = w → kC123 a s C = some C ∧ kM141 s a2 G = mm_text_j211 s a2 G := by
    intro w hw h3 h5
    constructor
    · unfold kC123 cSc_take_j153
      rw [h3, if_neg hw, if_neg hw]
    · unfold kM141 mm_text_j176
      rw [h5, if_neg hw, if_neg hw]
      split <;> rfl
  rcases h with ⟨d1, d2, d3, d4⟩ | ⟨w, q, hL, ht, hcc, hD⟩
  · obtain ⟨z1, z2⟩ := away 1 (by omega) d1 d3
    exact ⟨C, G, z1, z2, ⟨by rw [d1, d3], d4⟩, fun z => by omega, fun _ _ _ => rfl, fun _ _ _ => rfl⟩
  · obtain ⟨⟨tC, tM⟩, ⟨⟨q0, qn⟩, -, g4, -⟩, ⟨f1, f2, f3, f4⟩, -, -⟩ := hL
    have hq : q = n := by
      have := (tk_r n T q).2.2.mp ht
      omega
    by_cases hw : w = 0
    · subst hw
      have hDS := hD rfl
      have h6 : C 39 6 = n := tC.2.2
      by_cases z0 : s = 0
      · obtain ⟨⟨hV, hP⟩, ⟨fr, fr1, fr2⟩, ⟨fp, fp1, fp2⟩⟩ := hDS.1 z0
        have e1 : C 40 1 = G 204 0 := by rw [hP.1.1, cz (by omega) (by omega)]
        have e2 : C 40 2 = G 204 1 := by rw [hP.1.2, cz (by omega) (by omega)]
        have hal : ∀ k, mm_also k (G 201 4) G = some (flk k (G 201 4) true G) := fun k => also_ok f3 fun z => absurd f2 z
        have hfl : ∀ k, flk k (G 201 4) true G = upd2 (upd2 G 202 5 k) 202 6 (G 201 4) := fun k => if_pos ⟨rfl, f2⟩
        have hnt : ∀ k, ntk k (C 39 6) true C = upd2 (upd2 C 39 3 k) 39 4 (C 39 6) := fun k => if_pos ⟨rfl, f1⟩
        have y3 : ∀ k, upd2 (upd2 C 39 3 k) 39 4 (C 39 6) 39 3 = k := fun k => by rw [upd2_o (by omega), upd2_s]
        have y5 : ∀ k, upd2 (upd2 G 202 5 k) 202 6 (G 201 4) 202 5 = k := fun k => by rw [upd2_o (by omega), upd2_s]
        have hc4 : G 204 1 ≤ G 201 9 → kC123 a s C = some (upd2 (upd2 C 39 3 4) 39 4 (C 39 6)) ∧ kM141 s a2 G = mm_text_j211 s a2 (upd2 (upd2 G 202 5 4) 202 6 (G 201 4)) := fun c4 => by
          constructor
          · unfold kC123
            rw [f1, if_pos rfl, e2, fr, if_pos c4, note_ok, hnt, Option.bind_some]
            unfold cSc_take_j153
            rw [y3, if_neg (by omega)]
          · unfold kM141
            rw [if_pos z0, f2, if_pos rfl, if_pos c4, hal, hfl, Option.bind_some]
            unfold mm_text_j176
            rw [if_pos z0, y5, if_neg (by omega)]
        have hc0 : ¬ G 204 1 ≤ G 201 9 → kC123 a s C = (if G 204 0 ≤ G 201 10 then some (upd2 (upd2 C 39 3 5) 39 4 (C 39 6)) else some C) ∧ kM141 s a2 G = (if G 204 0 ≤ G 201 10 then mm_text_j211 s a2 (upd2 (upd2 G 202 5 5) 202 6 (G 201 4)) else mm_text_j211 s a2 G) := fun c4 => by
          constructor
          · unfold kC123
            rw [f1, if_pos rfl, e2, fr, if_neg c4]
            unfold cSc_take_j153
            rw [f1, if_pos rfl, e1, fp, note_ok, hnt, Option.bind_some]
          · unfold kM141
            rw [if_pos z0, f2, if_pos rfl, if_neg c4]
            unfold mm_text_j176
            rw [if_pos z0, f2, if_pos rfl, hal, hfl, Option.bind_some]
        by_cases c4 : G 204 1 ≤ G 201 9
        · obtain ⟨k1, k2⟩ := hc4 c4
          refine ⟨_, _, k1, k2, ⟨by rw [y3, y5], by rw [upd2_s, upd2_s, h6, g4, hq]⟩, fun z => by rw [y5] at z; omega, fun x j u => ?_, fun x j u => ?_⟩
          · rw [upd2_o (by omega), upd2_o (by omega)]
          · rw [upd2_o (by omega), upd2_o (by omega)]
        · obtain ⟨k1, k2⟩ := hc0 c4
          by_cases c5 : G 204 0 ≤ G 201 10
          · rw [if_pos c5] at k1 k2
            refine ⟨_, _, k1, k2, ⟨by rw [y3, y5], by rw [upd2_s, upd2_s, h6, g4, hq]⟩, fun z => by rw [y5] at z; omega, fun x j u => ?_, fun x j u => ?_⟩
            · rw [upd2_o (by omega), upd2_o (by omega)]
            · rw [upd2_o (by omega), upd2_o (by omega)]
          · rw [if_neg c5] at k1 k2
            exact ⟨C, G, k1, k2, ⟨by rw [f1, f2], f4⟩, fun _ => hDS, fun _ _ _ => rfl, fun _ _ _ => rfl⟩
      · have hfar : Far0 C := by
          by_cases z1 : s = 1
          · exact (hDS.2.1 z1).2
          · exact (hDS.2.2 (by omega)).2
        obtain ⟨h12, h13⟩ := hfar
        obtain ⟨⟨c1, c2⟩, -, -⟩ := hcc
        unfold kC123 kM141 cSc_take_j153 mm_text_j176
        rw [f1, if_pos rfl, h12, h13, if_neg (by omega), if_pos rfl, if_neg (by omega), if_neg z0, if_neg z0]
        exact ⟨C, G, rfl, rfl, ⟨by rw [f1, f2], f4⟩, fun _ => hDS, fun _ _ _ => rfl, fun _ _ _ => rfl⟩
    · obtain ⟨z1, z2⟩ := away w hw f1 f2
      exact ⟨C, G, z1, z2, ⟨by rw [f1, f2], f4⟩, fun z => absurd (f2.symm.trans z) hw, fun _ _ _ => rfl, fun _ _ _ => rfl⟩
-- the start
theorem nclear_ok {G : Hp} {Q : Hp → Prop} (h : ∀ G', (∀ w, 0 ≤ w → w < 10 → G' 42 w = 0) → G' 41 3 = 0 → (∀ a j, a ≠ 41 → a ≠ 42 → G' a j = G a j) → Q G') : ok (cNe_clear 41 G) Q := by
  unfold cNe_clear
  refine lp_up (fun m i (s : Hp) => cNe_clear_L2 41 m i s) 10 (fun i s => (∀ w, 0 ≤ w → w < i → s 42 w = 0) ∧ ∀ a j, a ≠ 42 → s a j = G a j) ?_ ?_ (by omega) (by omega) (by omega) ⟨fun w w0 w1 => by omega, fun _ _ _ => rfl⟩
  · intro m i s i0 i1 hs ih
    show ok (cNe_clear_L2 41 (m + 1) i s) Q
    rw [cNe_clear_L2, if_pos i1, gd_ok i0 i1, w32_id (z := i + 1) (by omega) (by omega), show (41 : Int) + 1 = 42 from rfl]
    refine ih _ ⟨fun w w0 w1 => ?_, fun a j u => ?_⟩
    · by_cases e : w = i
      · rw [upd2_e rfl e]
      · rw [upd2_o (by omega)]; exact hs.1 w w0 (by omega)
    · rw [upd2_o (by omega)]; exact hs.2 a j u
  · intro m s hs
    show ok (cNe_clear_L2 41 (m + 1) 10 s) Q
    rw [cNe_clear_L2, if_neg (by omega)]
    refine ok_some (h _ (fun w w0 w1 => ?_) upd2_s fun a j u u2 => ?_)
    · rw [upd2_o (by omega)]; exact hs.1 w w0 w1
    · rw [upd2_o (by omega)]; exact hs.2 a j u2
theorem pclear_ok {G : Hp} : ok (cPa_clear 40 G) (fun C' => (C' 40 0 = 0 ∧ C' 40 1 = 0 ∧ C' 40 2 = 0) ∧ (∀ w, 0 ≤ w → w < 10 → C' 42 w = 0) ∧ C' 41 3 = 0 ∧ (∀ k, 0 ≤ k → k < 48 → C' 47 k = 10) ∧ ∀ a j, ¬ (40 ≤ a ∧ a ≤ 47) → C' a j = G a j) := by
  unfold cPa_clear
  generalize hS : upd2 (upd2 (upd2 G 40 0 0) 40 1 0) 40 2 0 = S
  have s0 : S 40 0 = 0 := by rw [← hS, upd2_o (by omega), upd2_o (by omega), upd2_s]
  have s1 : S 40 1 = 0 := by rw [← hS, upd2_o (by omega), upd2_s]
  have s2 : S 40 2 = 0 := by rw [← hS, upd2_s]
  have sf : ∀ a j, a ≠ 40 → S a j = G a j := fun a j u => by rw [← hS, upd2_o (by omega), upd2_o (by omega), upd2_o (by omega)]
  refine ok_bind (nclear_ok fun G1 g1 g2 g3 => ?_)
  refine lp_up (fun m i (s : Hp) => cPa_clear_L24 40 m i s) 48 (fun i s => (∀ k, 0 ≤ k → k < i → s 47 k = 10) ∧ ∀ a j, a ≠ 47 → s a j = G1 a j) ?_ ?_ (by omega) (by omega) (by omega) ⟨fun w w0 w1 => by omega, fun _ _ _ => rfl⟩
  · intro m i s i0 i1 hs ih
    show ok (cPa_clear_L24 40 (m + 1) i s) _
    rw [cPa_clear_L24, if_pos i1, gd_ok i0 i1, w32_id (z := i + 1) (by omega) (by omega), show (40 : Int) + 7 = 47 from rfl]
    refine ih _ ⟨fun w w0 w1 => ?_, fun a j u => ?_⟩
    · by_cases e : w = i
      · rw [upd2_e rfl e]
      · rw [upd2_o (by omega)]; exact hs.1 w w0 (by omega)
    · rw [upd2_o (by omega)]; exact hs.2 a j u
  · intro m s hs
    show ok (cPa_clear_L24 40 (m + 1) 48 s) _
    rw [cPa_clear_L24, if_neg (by omega)]
    refine ok_some ⟨⟨?_, ?_, ?_⟩, fun w w0 w1 => ?_, ?_, hs.1, fun a j u => ?_⟩
    · rw [hs.2 _ _ (by omega), g3 _ _ (by omega) (by omega)]; exact s0
    · rw [hs.2 _ _ (by omega), g3 _ _ (by omega) (by omega)]; exact s1
    · rw [hs.2 _ _ (by omega), g3 _ _ (by omega) (by omega)]; exact s2
    · rw [hs.2 _ _ (by omega)]; exact g1 w w0 w1
    · rw [hs.2 _ _ (by omega)]; exact g2
    · rw [hs.2 _ _ (by omega), g3 _ _ (by omega) (by omega)]; exact sf _ _ (by omega)
theorem mbegt_ok {s : Int} {G : Hp} : ok (mm_beginsText s G) (fun G' => (G' 201 3 = 0 ∧ G' 201 8 = 0 ∧ G' 201 9 = -1 ∧ G' 201 10 = -1) ∧ (∀ k, 0 ≤ k → k < 121 → G' 204 k = if s = 0 ∧ 32 ≤ k ∧ k ≤ 79 then 10 else 0) ∧ ∀ a j, a ≠ 204 → ¬ (a = 201 ∧ (j = 3 ∨ j = 8 ∨ j = 9 ∨ j = 10)) → G' a j = G a j) := by
  unfold mm_beginsText
  generalize hS : upd2 (upd2 (upd2 (upd2 G 201 3 0) 201 8 0) 201 9 (-1)) 201 10 (-1) = S
  have s3 : S 201 3 = 0 := by rw [← hS, upd2_o (by omega), upd2_o (by omega), upd2_o (by omega), upd2_s]
  have s8 : S 201 8 = 0 := by rw [← hS, upd2_o (by omega), upd2_o (by omega), upd2_s]
  have s9 : S 201 9 = -1 := by rw [← hS, upd2_o (by omega), upd2_s]
  have s10 : S 201 10 = -1 := by rw [← hS, upd2_s]
  have sf : ∀ a j, ¬ (a = 201 ∧ (j = 3 ∨ j = 8 ∨ j = 9 ∨ j = 10)) → S a j = G a j := fun a j u => by rw [← hS, upd2_o (by omega), upd2_o (by omega), upd2_o (by omega), upd2_o (by omega)]
  refine lp_up (fun m i (x : Hp) => mm_beginsText_L22 s m i x) 121 (fun i x => (∀ k, 0 ≤ k → k < i → x 204 k = if s = 0 ∧ 32 ≤ k ∧ k ≤ 79 then 10 else 0) ∧ ∀ a j, a ≠ 204 → x a j = S a j) ?_ ?_ (by omega) (by omega) (by omega) ⟨fun w w0 w1 => by omega, fun _ _ _ => rfl⟩
  · intro m i x i0 i1 hs ih
    show ok (mm_beginsText_L22 s (m + 1) i x) _
    have key : ∀ v, v = (if s = 0 ∧ 32 ≤ i ∧ i ≤ 79 then 10 else 0) → ok (mm_beginsText_L22 s m (i + 1) (upd2 x 204 i v)) (fun G' => (G' 201 3 = 0 ∧ G' 201 8 = 0 ∧ G' 201 9 = -1 ∧ G' 201 10 = -1) ∧ (∀ k, 0 ≤ k → k < 121 → G' 204 k = if s = 0 ∧ 32 ≤ k ∧ k ≤ 79 then 10 else 0) ∧ ∀ a j, a ≠ 204 → ¬ (a = 201 ∧ (j = 3 ∨ j = 8 ∨ j = 9 ∨ j = 10)) → G' a j = G a j) := fun v hv => ih _ ⟨fun w w0 w1 => by
      by_cases e : w = i
      · rw [upd2_e rfl e, e, hv]
      · rw [upd2_o (by omega)]; exact hs.1 w w0 (by omega), fun a j u => by rw [upd2_o (by omega)]; exact hs.2 a j u⟩
    rw [mm_beginsText_L22, if_pos i1, gd_ok i0 i1, gd_ok i0 i1, w32_id (z := i + 1) (by omega) (by omega), isIn_eq]
    refine ok_ite (fun e => ok_ite (fun e2 => key _ ?_) (fun e2 => key _ ?_)) (fun e => key _ ?_)
    · have := of_decide_eq_true e2
      rw [if_pos ⟨e, this⟩]
    · rw [if_neg (fun z => e2 (decide_eq_true z.2))]
    · rw [if_neg (fun z => e z.1)]
  · intro m x hs
    show ok (mm_beginsText_L22 s (m + 1) 121 x) _
    rw [mm_beginsText_L22, if_neg (by omega)]
    refine ok_some ⟨⟨?_, ?_, ?_, ?_⟩, hs.1, fun a j u u2 => ?_⟩
    · rw [hs.2 _ _ (by omega)]; exact s3
    · rw [hs.2 _ _ (by omega)]; exact s8
    · rw [hs.2 _ _ (by omega)]; exact s9
    · rw [hs.2 _ _ (by omega)]; exact s10
    · rw [hs.2 _ _ u]; exact sf _ _ u2
