-- weeks: run from the start
theorem begins_J {Gc G : Hp} {o b : Int} {P : Int → Int} (hV : PaperV P) (ho : o = 7 ∨ o = 22) (hP : PaperC Gc o P) (hM : M0 P b G) : ok (cSt_begin o Gc) (fun C => WkJ o b P 0 C G ∧ (C 57 9 = -1 ∧ C 57 5 = 0) ∧ ∀ a j, ¬ (57 ≤ a ∧ a ≤ 72) → C a j = Gc a j) := by
  obtain ⟨m1, m2, m3, m4, m5, m6, m7, m8, m9, m10⟩ := hM
  refine ok_mono (begin_ok ho hP) fun C h => ?_
  obtain ⟨⟨c1, c2, c3, c4⟩, c5, ⟨d5, d6, d9, d10, d11, d12⟩, c6⟩ := h
  refine ⟨⟨sl P 2, sl P 10, ⟨⟨c1, c2, c3, c4⟩, hP.fr fun a j u v => c6 _ _ (by omega)⟩, ⟨m1, m2, fun p p0 p1 => (m3 p p0 p1).1⟩, ⟨hV.pv, fun p p0 p1 => hV.2.2.1.2 p p0 p1⟩, hV.2.2.2.1, ⟨⟨by rw [d5, m5], by rw [m5]; omega, by rw [m5]; omega⟩, ⟨by rw [d6, m6], by rw [m6]; omega, by rw [m6]; omega⟩, ⟨by rw [d10, m7], by rw [m7]; omega, by rw [m7]; omega⟩, ⟨by rw [d11, m8], by rw [m8]; exact Mk.zero 8⟩, fun r r0 r1 => ?_⟩, ?_⟩, ⟨d9, d5⟩, c6⟩
  · have h1 := c5 r r0 r1
    have h2 := m4 r r0 r1
    rw [h1.1, h1.2, h2.1, h2.2]
    exact ⟨⟨rfl, Mk.zero 8⟩, rfl, by omega, by omega⟩
  · refine ⟨⟨by rw [d12, m6]; rfl, by rw [d12]; omega, by rw [d12, m6]; omega⟩, fun a a0 a1 => ?_, fun i i0 i1 => ?_, Or.inl ⟨m6, fun p p0 p1 => (m3 p p0 (by have := hV.1; omega)).2.1⟩⟩
    · rw [m6] at a1; omega
    · rw [d12] at i1; omega
def RunsTo (o b L : Int) (P : Int → Int) (C0 G0 : Hp) (X : Option (Int × Hp)) (Y : Option Hp) : Prop := ∃ r C' G', X = some (r, C') ∧ Y = some G' ∧ G' 201 21 = r ∧ (0 ≤ r ∧ r ≤ L) ∧ WkJ o b P r C' G' ∧ C' 57 9 = G' 201 22 ∧ (∀ a j, ¬ (57 ≤ a ∧ a ≤ 72) → C' a j = C0 a j) ∧ Mq G0 G'
theorem runs_both {o b n n' L kk : Int} {P W : Int → Int} {C0 G0 : Hp} (hV : PaperV P) (ho : o = 7 ∨ o = 22) (hkk : kk = 0 ∨ kk = 1) (hW : WeekV W) (hWe : W = ct 121 (G0 202) (wkb kk)) (hWC : WeekC C0 (15 + 15 * kk) W) (h1 : min n (W 0) = L) (h2 : min n' (W 0) = L) (hL : 0 ≤ L) :
    ∀ (m n1 n2 : Nat) (k : Int) (C G : Hp), m < n1 → m < n2 → 0 ≤ k → k + m = L → WkJ o b P k C G → G 201 21 = k → G 201 37 = wkb kk → (C 57 9 = G 201 22 ∧ (C 57 9 = -1 ↔ C 57 5 = 0) ∧ 0 ≤ C 57 5) → (∀ a j, ¬ (57 ≤ a ∧ a ≤ 72) → C a j = C0 a j) → Mq G0 G →
      RunsTo o b L P C0 G0 (cSt_run_L8 o (15 + 15 * kk) n (fun G_81 => some (min n (G_81 (15 + 15 * kk) 0), G_81)) n1 k C) (mm_runs_L0 n' n2 G) := by
  have hb : 770 ≤ wkb kk ∧ wkb kk ≤ 891 := by unfold wkb; omega
  have hW0 := hW.1
  intro m
  induction m with
  | zero =>
    intro n1 n2 k C G hn1 hn2 k0 hk hJ e21 e37 hF hC0 hM
    obtain ⟨n1', rfl⟩ : ∃ n', n1 = n' + 1 := ⟨n1 - 1, by omega⟩
    obtain ⟨n2', rfl⟩ : ∃ n', n2 = n' + 1 := ⟨n2 - 1, by omega⟩
    have e : k = L := by omega
    have eW : C (15 + 15 * kk) 0 = W 0 := by rw [hC0 _ _ (by omega)]; exact hWC.1
    have eA : G 202 (wkb kk) = W 0 := by
      rw [hM.1, hWe, ct_at (by omega) (by omega), Int.add_zero]
    refine ⟨L, C, G, ?_, ?_, by omega, ⟨hL, Int.le_refl L⟩, by rw [← e]; exact hJ, hF.1, hC0, hM⟩
    · rw [cSt_run_L8]
      show (if k < n then _ else some (min n (C (15 + 15 * kk) 0), C)) = _
      by_cases h : k < n
      · rw [if_pos h, if_neg (by omega)]
        show some (min n (C (15 + 15 * kk) 0), C) = _
        rw [eW, h1]
      · rw [if_neg h, eW, h1]
    · rw [mm_runs_L0, e21, e37, eA]
      by_cases h : k < n'
      · rw [if_pos h, gd_ok (by omega) (by omega), if_neg (by omega)]
      · rw [if_neg h]
  | succ m ih =>
    intro n1 n2 k C G hn1 hn2 k0 hk hJ e21 e37 hF hC0 hM
    obtain ⟨n1', rfl⟩ : ∃ n', n1 = n' + 1 := ⟨n1 - 1, by omega⟩
    obtain ⟨n2', rfl⟩ : ∃ n', n2 = n' + 1 := ⟨n2 - 1, by omega⟩
    have eW : C (15 + 15 * kk) 0 = W 0 := by rw [hC0 _ _ (by omega)]; exact hWC.1
    have eA : G 202 (wkb kk) = W 0 := by
      rw [hM.1, hWe, ct_at (by omega) (by omega), Int.add_zero]
    have hk1 : k < W 0 := by omega
    have hwc := hWC.2 k k0 hk1
    have eC1 : C (15 + 15 * kk + 1) k = W (1 + 3 * k) := by rw [hC0 _ _ (by omega)]; exact hwc.1
    have eC2 : C (15 + 15 * kk + 2) k = W (2 + 3 * k) := by rw [hC0 _ _ (by omega)]; exact hwc.2.1
    have eC3 : C (15 + 15 * kk + 3) k = W (3 + 3 * k) := by rw [hC0 _ _ (by omega)]; exact hwc.2.2
    have eA' : ∀ c, 1 ≤ c → c ≤ 3 → G 202 (wkb kk + c + 3 * k) = W (c + 3 * k) := fun c c0 c1 => by
      rw [hM.1, hWe, ct_at (by omega) (by omega), Int.add_assoc]
    obtain ⟨r, C1, G1, ex, ey, hno, hyes⟩ := deed_ok hV ho hJ k0 (show k < 60 by omega) (hW.2 k k0 hk1)
    have hX : cSt_run_L8 o (15 + 15 * kk) n (fun G_81 => some (min n (G_81 (15 + 15 * kk) 0), G_81)) (n1' + 1) k C = if r = true then (if 0 < C1 57 5 then (if C1 57 9 = (-1) then cSt_run_L8 o (15 + 15 * kk) n (fun G_81 => some (min n (G_81 (15 + 15 * kk) 0), G_81)) n1' (k + 1) (upd2 C1 57 9 k) else cSt_run_L8 o (15 + 15 * kk) n (fun G_81 => some (min n (G_81 (15 + 15 * kk) 0), G_81)) n1' (k + 1) C1) else cSt_run_L8 o (15 + 15 * kk) n (fun G_81 => some (min n (G_81 (15 + 15 * kk) 0), G_81)) n1' (k + 1) C1) else some (k, C1) := by
      rw [cSt_run_L8, eW, if_pos (show k < n by omega), if_pos hk1, gd_ok k0 (by omega), gd_ok k0 (by omega), gd_ok k0 (by omega), eC1, eC2, eC3, ex, Option.bind_some, w32_id (z := k + 1) (by omega) (by omega)]
    have hY : mm_runs_L0 n' (n2' + 1) G = if r = true then mm_runs_L0 n' n2' (upd2 G1 201 21 (w32 (G1 201 21 + 1))) else some G1 := by
      rw [mm_runs_L0, e21, e37, eA, if_pos (show k < n' by omega), gd_ok (by omega) (by omega), if_pos hk1]
      rw [w32_id (z := wkb kk + 1) (by omega) (by omega), w32_id (z := wkb kk + 2) (by omega) (by omega), w32_id (z := wkb kk + 3) (by omega) (by omega), w32_id (z := 3 * k) (by omega) (by omega), w32_id (z := wkb kk + 1 + 3 * k) (by omega) (by omega), w32_id (z := wkb kk + 2 + 3 * k) (by omega) (by omega), w32_id (z := wkb kk + 3 + 3 * k) (by omega) (by omega)]
      rw [gd_ok (by omega) (by omega), gd_ok (by omega) (by omega), gd_ok (by omega) (by omega), eA' 1 (by omega) (by omega), eA' 2 (by omega) (by omega), eA' 3 (by omega) (by omega), ey, Option.bind_some]
    rw [hX, hY]
    cases r with
    | false =>
      obtain ⟨q1, q2⟩ := hno rfl
      subst q1
      subst q2
      exact ⟨k, _, _, rfl, rfl, e21, ⟨k0, by omega⟩, hJ, hF.1, hC0, hM⟩
    | true =>
      obtain ⟨hJ1, ⟨s1, s2, s3⟩, s4, s5, s6⟩ := hyes rfl
      rw [if_tt, if_tt]
      have e21' : G1 201 21 = k := (s4 21 (by omega)).trans e21
      have e37' : G1 201 37 = wkb kk := (s4 37 (by omega)).trans e37
      rw [e21', w32_id (z := k + 1) (by omega) (by omega)]
      have hM1 : Mq G0 (upd2 G1 201 21 (k + 1)) := Mq.trans hM (Mq.trans s3 (Mq.fr fun j => ⟨upd2_o (by omega), upd2_o (by omega)⟩))
      have hJ2 : ∀ C2 : Hp, (∀ a j, ¬ (a = 57 ∧ j = 9) → C2 a j = C1 a j) → WkJ o b P (k + 1) C2 (upd2 G1 201 21 (k + 1)) := fun C2 h => hJ1.fr ho h fun a j q => upd2_o (by omega)
      have e22 : upd2 G1 201 21 (k + 1) 201 22 = G1 201 22 := upd2_o (by omega)
      have f1 := hF.1
      have f2 := hF.2.1
      have f3 := hF.2.2
      by_cases c1 : 0 < C1 57 5
      · rw [if_pos c1]
        by_cases c2 : C1 57 9 = -1
        · rw [if_pos c2]
          rw [s2] at c2
          have z5 := f2.mp c2
          rw [if_pos ⟨by omega, by omega⟩, e21] at s6
          refine ih n1' n2' (k + 1) _ _ (by omega) (by omega) (by omega) (by omega) (hJ2 _ fun a j q => upd2_o q) upd2_s ((upd2_o (by omega)).trans e37') ⟨by rw [upd2_s, e22, s6], ⟨fun h => ?_, fun h => ?_⟩, ?_⟩ (fun a j q => by rw [upd2_o (by omega), s1 _ _ q]; exact hC0 _ _ q) hM1
          · rw [upd2_s] at h; omega
          · rw [upd2_o (by omega)] at h; omega
          · rw [upd2_o (by omega)]; omega
        · rw [if_neg c2]
          rw [s2] at c2
          rw [if_neg (by omega)] at s6
          refine ih n1' n2' (k + 1) _ _ (by omega) (by omega) (by omega) (by omega) (hJ2 _ fun a j q => rfl) upd2_s ((upd2_o (by omega)).trans e37') ⟨by rw [s2, e22, s6, f1], ⟨fun h => ?_, fun h => ?_⟩, by omega⟩ (fun a j q => by rw [s1 _ _ q]; exact hC0 _ _ q) hM1
          · rw [s2] at h; exact absurd h c2
          · omega
      · rw [if_neg c1]
        rw [if_neg (by omega)] at s6
        refine ih n1' n2' (k + 1) _ _ (by omega) (by omega) (by omega) (by omega) (hJ2 _ fun a j q => rfl) upd2_s ((upd2_o (by omega)).trans e37') ⟨by rw [s2, e22, s6, f1], ⟨fun h => by omega, fun h => ?_⟩, by omega⟩ (fun a j q => by rw [s1 _ _ q]; exact hC0 _ _ q) hM1
        rw [s2]
        exact f2.mpr (by omega)
theorem wkrun_ok {Gc Gm : Hp} {k kk n n' L : Int} (hC : CInv Gc (Gm 202) (Gm 203)) (k0 : 0 ≤ k) (k1 : k < Gm 202 0) (q0 : 0 ≤ kk) (q1 : kk < Gm 202 1) (h1 : min n (ct 121 (Gm 202) (wkb kk) 0) = L) (h2 : min n' (ct 121 (Gm 202) (wkb kk) 0) = L) (hL : 0 ≤ L) :
    ∃ r C' G' Gw, mm_isPaper k Gm = some (true, Gw) ∧ mm_isWeek kk Gw = some (true, upd2 Gw 201 37 (wkb kk)) ∧ cSt_run (7 + 15 * k) (15 + 15 * kk) n Gc = some (r, C') ∧ mm_runs n' (upd2 Gw 201 37 (wkb kk)) = some G' ∧ G' 201 21 = r ∧ (0 ≤ r ∧ r ≤ L) ∧ WkJ (7 + 15 * k) (pb k) (ct 80 (Gm 202) (pb k)) r C' G' ∧ C' 57 9 = G' 201 22 ∧ CInv C' (Gm 202) (Gm 203) ∧ G' 202 = Gm 202 ∧ G' 203 = Gm 203 := by
  obtain ⟨hp, hk2⟩ := paperAt_yes hC k0 k1
  obtain ⟨hw, hq2⟩ := weekAt_yes hC q0 q1
  obtain ⟨hV, hP⟩ := hC.paper hk2
  obtain ⟨hW, hWC⟩ := hC.week hq2
  have ho := o_or hk2
  obtain ⟨⟨x1, Gw⟩, ew, e1, e2, e3, e4⟩ := isPaper_yes hC.av k0 k1
  have e1' : x1 = true := e1
  subst e1'
  have e3' : Gw 202 = Gm 202 := e3
  have e4' : Gw 203 = Gm 203 := e4
  have hwk := isWeek_yes (k := kk) (G := Gw) (by rw [e3']; exact hC.av) q0 (by rw [e3']; exact q1)
  have e2' : M0 (ct 80 (Gm 202) (pb k)) (pb k) Gw := e2
  obtain ⟨C1, b1, b2, ⟨b3, b4⟩, b5⟩ := begins_J hV ho hP e2'
  have hW0 := hW.1
  have e21 : Gw 201 21 = 0 := e2'.2.2.2.2.2.2.2.2.1
  have e22 : Gw 201 22 = -1 := e2'.2.2.2.2.2.2.2.2.2
  have hb : ∀ j, upd2 Gw 201 37 (wkb kk) 202 j = Gw 202 j ∧ upd2 Gw 201 37 (wkb kk) 203 j = Gw 203 j := fun j => ⟨upd2_o (by omega), upd2_o (by omega)⟩
  have hM : Mq Gm (upd2 Gw 201 37 (wkb kk)) := Mq.trans ⟨e3', e4'⟩ (Mq.fr hb)
  have hrun := runs_both (o := 7 + 15 * k) (b := pb k) (G0 := Gm) hV ho hq2 hW rfl hWC h1 h2 hL L.toNat FU FU 0 C1 (upd2 Gw 201 37 (wkb kk)) (by show L.toNat < 100000; omega) (by show L.toNat < 100000; omega) (by omega) (by omega) (b2.fr ho (fun a j q => rfl) fun a j q => upd2_o (by omega)) (by rw [upd2_o (by omega)]; exact e21) upd2_s ⟨by rw [upd2_o (by omega), b3, e22], ⟨fun _ => b4, fun _ => b3⟩, by omega⟩ b5 hM
  obtain ⟨r, C', G', r1, r2, r3, r4, r5, r6, r7, r8⟩ := hrun
  refine ⟨r, C', G', Gw, ew, hwk, ?_, r2, r3, r4, r5, r6, hC.sq (Sq.fr fun a j q => r7 _ _ (by omega)), r8.1, r8.2⟩
  unfold cSt_run
  rw [b1, Option.bind_some]
  exact r1
theorem wtell_J {o b k q : Int} {P : Int → Int} {C G : Hp} (hq : q ≤ 2147483647) (hV : PaperV P) (ho : o = 7 ∨ o = 22) (hJ : WkJ o b P k C G) : ∃ v, cSt_tell q C = some v ∧ mm_nowOf q G = some v := by
  obtain ⟨f, N, hc, hg, hf, hN, hR, hE⟩ := hJ
  obtain ⟨⟨w1, w2, w3⟩, ⟨w4, w5, w6⟩, ⟨w7, w8, w9⟩, ⟨w10, w11⟩, w12⟩ := hR
  obtain ⟨-, -, -, hl⟩ := hE
  rcases hl with ⟨l1, l2⟩ | ⟨l1, g, l2, l3⟩
  · exact wtell_ok (g := f) hq hV ho hc hg w1 w4 (fun r r0 r1 => (w12 r r0 r1).1.1) (Or.inl ⟨by omega, l2⟩)
  · exact wtell_ok (g := g) hq hV ho hc hg w1 w4 (fun r r0 r1 => (w12 r r0 r1).1.1) (Or.inr ⟨by omega, l2, l3⟩)
-- how many prints are unlike
section EDIT
variable {Q : Int → Prop} {G : Hp} {pl x1 x2 x3 x4 : Int}
theorem edL29 {k : Int → Option Int} (h13 : G 201 13 = pl) (p0 : 0 ≤ pl ∧ pl ≤ 8) (a0 : 0 ≤ x2 ∧ x2 ≤ 60) (b0 : 0 ≤ x4 ∧ x4 ≤ 60) (hk : ok (k (b2i (likeE (G 220) pl x2 x4))) Q) : ok (mm_editionsOf_L29 G x1 x2 x3 x4 k FU 1 0) Q := by
  refine lp_up (fun n i (s : Int) => mm_editionsOf_L29 G x1 x2 x3 x4 k n s i) pl (fun i s => s = b2i (allB (fun p => decide (G 220 (8 * x2 + p) = G 220 (8 * x4 + p))) i.toNat)) ?_ ?_ (by omega) (by omega) (by omega) (s := 1) rfl
  · intro n i s i0 i1 hs ih
    have hS := allB_s (fun p => decide (G 220 (8 * x2 + p) = G 220 (8 * x4 + p))) i0
    show ok (mm_editionsOf_L29 G x1 x2 x3 x4 k (n + 1) s i) Q
    rw [mm_editionsOf_L29, h13, if_pos i1, w32_id (z := i + 1) (by omega) (by omega), w32_id (z := 8 * x2) (by omega) (by omega), w32_id (z := 8 * x4) (by omega) (by omega), w32_id (z := 8 * x2 + i) (by omega) (by omega), w32_id (z := 8 * x4 + i) (by omega) (by omega), gd_ok (by omega) (by omega), gd_ok (by omega) (by omega)]
    cases hb : allB (fun p => decide (G 220 (8 * x2 + p) = G 220 (8 * x4 + p))) i.toNat with
    | false =>
      rw [hb] at hs hS
      have e : s = 0 := hs
      rw [if_pos e]
      exact ih 0 (by rw [hS]; rfl)
    | true =>
      rw [hb] at hs hS
      have e : s = 1 := hs
      rw [if_neg (by omega)]
      refine ok_ite (fun z => ih 1 ?_) (fun z => ih 0 ?_)
      · rw [hS, decide_eq_true z]; rfl
      · rw [hS, decide_eq_false z]; rfl
  · intro n s hs
    show ok (mm_editionsOf_L29 G x1 x2 x3 x4 k (n + 1) s pl) Q
    rw [mm_editionsOf_L29, h13, if_neg (by omega), hs]
    exact hk
theorem edL17 {k : Int → Option Int} (h13 : G 201 13 = pl) (p0 : 0 ≤ pl ∧ pl ≤ 8) (a0 : 0 ≤ x2 ∧ x2 ≤ 60) (hk : ok (k (b2i (anyB (fun b => likeE (G 220) pl x2 b) x2.toNat))) Q) : ok (mm_editionsOf_L17 G x1 x2 k FU 0 0) Q := by
  refine lp_up (fun n i (s : Int) => mm_editionsOf_L17 G x1 x2 k n s i) x2 (fun i s => s = b2i (anyB (fun b => likeE (G 220) pl x2 b) i.toNat)) ?_ ?_ (by omega) (by omega) (by omega) (s := 0) rfl
  · intro n i s i0 i1 hs ih
    have hS := anyB_s (fun b => likeE (G 220) pl x2 b) i0
    show ok (mm_editionsOf_L17 G x1 x2 k (n + 1) s i) Q
    rw [mm_editionsOf_L17, if_pos i1, w32_id (z := i + 1) (by omega) (by omega)]
    refine edL29 h13 p0 a0 ⟨i0, by omega⟩ ?_
    cases hb : anyB (fun b => likeE (G 220) pl x2 b) i.toNat with
    | true =>
      rw [hb] at hs hS
      have e : s = 1 := hs
      rw [if_neg (by omega)]
      exact ih 1 (by rw [hS]; rfl)
    | false =>
      rw [hb] at hs hS
      have e : s = 0 := hs
      rw [if_pos e]
      cases hl : likeE (G 220) pl x2 i with
      | true =>
        rw [hl] at hS
        rw [if_neg (by decide)]
        exact ih 1 (by rw [hS]; rfl)
      | false =>
        rw [hl] at hS
        rw [if_pos (by decide)]
        exact ih 0 (by rw [hS]; rfl)
  · intro n s hs
    show ok (mm_editionsOf_L17 G x1 x2 k (n + 1) s x2) Q
    rw [mm_editionsOf_L17, if_neg (by omega), hs]
    exact hk
theorem editions_ok (h13 : G 201 13 = pl) (p0 : 0 ≤ pl ∧ pl ≤ 8) (h18 : 0 ≤ G 201 18 ∧ G 201 18 ≤ 60) : mm_editionsOf G = some (sm (fun a => b2i (newE (G 220) pl a)) (G 201 18).toNat) := by
  apply ok_iff
  unfold mm_editionsOf
  refine lp_up (fun n i (s : Int) => mm_editionsOf_L4 G n s i) (G 201 18) (fun i s => s = sm (fun a => b2i (newE (G 220) pl a)) i.toNat) ?_ ?_ (by omega) (by omega) (by omega) (s := 0) rfl
  · intro n i s i0 i1 hs ih
    have hS := sm_s (fun a => b2i (newE (G 220) pl a)) i0
    have hr := sm_r (f := fun a => b2i (newE (G 220) pl a)) (a := 0) (b := 1) (n := i.toNat) fun j _ _ => b2i_b _
    rw [← hs] at hS hr
    show ok (mm_editionsOf_L4 G (n + 1) s i) _
    rw [mm_editionsOf_L4, if_pos i1, w32_id (z := i + 1) (by omega) (by omega), w32_id (z := s + 1) (by omega) (by omega), w32_id (z := s + 0) (by omega) (by omega)]
    refine edL17 h13 p0 ⟨i0, by omega⟩ ?_
    cases hb : anyB (fun b => likeE (G 220) pl i b) i.toNat with
    | true =>
      rw [if_neg (by decide)]
      refine ih _ ?_
      rw [hS]
      unfold newE
      rw [hb]
      rfl
    | false =>
      rw [if_pos (by decide)]
      refine ih _ ?_
      rw [hS]
      unfold newE
      rw [hb]
      rfl
  · intro n s hs
    show ok (mm_editionsOf_L4 G (n + 1) s (G 201 18)) _
    rw [mm_editionsOf_L4, if_neg (by omega)]
    exact ok_some hs
end EDIT
