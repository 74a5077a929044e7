-- weeks by a seed: both
theorem may_both {o b a1 a3 a4 pl rd : Int} {P : Int → Int} {C0 G0 : Hp} {Q : Hp → Int × Hp → Prop} {K : Hp → Option (Int × Hp)} {a2 : Int} (hV : PaperV P) (ho : o = 7 ∨ o = 22) (hpl : pl = P 0) (hrd : rd = P 1) (ha : a3 ≤ 60)
    (hQ : ∀ C G k, WkJ o b P k C G → (∀ a j, ¬ (57 ≤ a ∧ a ≤ 72) → C a j = C0 a j) → Mq G0 G → ok (K G) (Q C)) :
    ∀ (m n1 n2 : Nat) (i k x : Int) (C G : Hp), m < n1 → m < n2 → 0 ≤ i → i + m = a3 → 0 ≤ k → k ≤ i → WkL pl rd C0 m k x → WkJ o b P k C G → G 201 46 = x → (∀ a j, ¬ (57 ≤ a ∧ a ≤ 72) → C a j = C0 a j) → Mq G0 G →
      ∃ C' R, cSt_runWhatMay_L7 o 74 n1 k C = some C' ∧ mm_drawn_L29 a1 a2 a3 a4 K n2 i G = some R ∧ Q C' R := by
  have h0 := hV.1
  have h1 := hV.2.1
  intro m
  induction m with
  | zero =>
    intro n1 n2 i k x C G hn1 hn2 i0 hi k0 k1 hL hJ hx hC hM
    obtain ⟨n1', rfl⟩ : ∃ n', n1 = n' + 1 := ⟨n1 - 1, by omega⟩
    obtain ⟨n2', rfl⟩ : ∃ n', n2 = n' + 1 := ⟨n2 - 1, by omega⟩
    have hL' : C0 74 0 = k := hL
    obtain ⟨R, r1, r2⟩ := hQ C G k hJ hC hM
    refine ⟨C, R, ?_, ?_, r2⟩
    · rw [cSt_runWhatMay_L7, hC 74 0 (by omega), hL', if_neg (by omega)]
    · rw [mm_drawn_L29, if_neg (by omega)]
      exact r1
  | succ m ih =>
    intro n1 n2 i k x C G hn1 hn2 i0 hi k0 k1 hL hJ hx hC hM
    obtain ⟨n1', rfl⟩ : ∃ n', n1 = n' + 1 := ⟨n1 - 1, by omega⟩
    obtain ⟨n2', rfl⟩ : ∃ n', n2 = n' + 1 := ⟨n2 - 1, by omega⟩
    have hms : G 201 13 = pl ∧ G 201 14 = rd := by
      obtain ⟨f, N, -, hg, -⟩ := hJ
      exact ⟨hg.1.1.2.1.trans hpl.symm, hg.1.1.2.2.trans hrd.symm⟩
    have hM2 : ∀ v, Mq G0 (upd2 G 201 46 v) := fun v => Mq.trans hM (Mq.fr fun j => ⟨upd2_o (by omega), upd2_o (by omega)⟩)
    have hJ2 : ∀ v, WkJ o b P k C (upd2 G 201 46 v) := fun v => hJ.fr ho (fun _ _ _ => rfl) fun a j q => upd2_o (by omega)
    rw [mm_drawn_L29, if_pos (by omega), mdraws_eq hms.1 hms.2 (by omega) (by omega) hx, w32_id (z := i + 1) (by omega) (by omega)]
    unfold WkL at hL
    cases hd : (drw pl rd x).1 with
    | none =>
      rw [hd] at hL
      have hL' : WkL pl rd C0 m k (drw pl rd x).2 := hL
      show ∃ C' R, _ ∧ (some (upd2 G 201 46 (drw pl rd x).2)).bind _ = _ ∧ _
      rw [Option.bind_some]
      exact ih (n1' + 1) n2' (i + 1) k _ C _ (by omega) (by omega) (by omega) (by omega) k0 (by omega) hL' (hJ2 _) upd2_s hC (hM2 _)
    | some d =>
      obtain ⟨c, a, w⟩ := d
      rw [hd] at hL
      obtain ⟨⟨l1, l2, l3⟩, l4, l5⟩ : (C0 75 k = c ∧ C0 76 k = a ∧ C0 77 k = w) ∧ k < C0 74 0 ∧ WkL pl rd C0 m (k + 1) (drw pl rd x).2 := hL
      have hD : DeedV c a w := drw_V (by omega) (by omega) hd
      obtain ⟨r, C1, G1, ex, ey, hno, hyes⟩ := deed_ok hV ho (hJ2 (drw pl rd x).2) k0 (by omega) hD
      have hY : ∀ F : Hp → Option (Int × Hp), (mdo (some (c, a, w)) (upd2 G 201 46 (drw pl rd x).2)).bind F = F G1 := fun F => by
        show ((mm_does c a w (upd2 G 201 46 (drw pl rd x).2)).bind fun r => some r.2).bind F = _
        rw [ey]
        rfl
      rw [hY]
      have hX : cSt_runWhatMay_L7 o 74 (n1' + 1) k C = cSt_runWhatMay_L7 o 74 n1' (k + 1) C1 := by
        rw [cSt_runWhatMay_L7, hC 74 0 (by omega), if_pos l4, gd_ok k0 (by omega), gd_ok k0 (by omega), gd_ok k0 (by omega), show (74 : Int) + 1 = 75 from rfl, show (74 : Int) + 2 = 76 from rfl, show (74 : Int) + 3 = 77 from rfl, hC 75 k (by omega), hC 76 k (by omega), hC 77 k (by omega), l1, l2, l3, ex, Option.bind_some, w32_id (z := k + 1) (by omega) (by omega)]
      rw [hX]
      cases r with
      | false =>
        obtain ⟨q1, q2⟩ := hno rfl
        subst q1
        subst q2
        exact ih n1' n2' (i + 1) (k + 1) _ _ _ (by omega) (by omega) (by omega) (by omega) (by omega) (by omega) l5 ((hJ2 _).mono (by omega)) upd2_s hC (hM2 _)
      | true =>
        obtain ⟨hJ1, ⟨s1, s2, s3⟩, s4, s5, s6⟩ := hyes rfl
        exact ih n1' n2' (i + 1) (k + 1) _ _ _ (by omega) (by omega) (by omega) (by omega) (by omega) (by omega) l5 hJ1 ((s4 46 (by omega)).trans upd2_s) (fun a j q => (s1 _ _ q).trans (hC _ _ q)) (Mq.trans (hM2 _) s3)
theorem op21 : Op21 Inv := by
  intro Gc Gm hI a1 a2 a3 a4 r1 r2 r3 r4
  have hC : CInv Gc (Gm 202) (Gm 203) := hI
  unfold r32 at r4
  by_cases hk : 0 ≤ a1 ∧ a1 < Gm 202 0
  · obtain ⟨hp, hk2⟩ := paperAt_yes hC hk.1 hk.2
    obtain ⟨hV, hP⟩ := hC.paper hk2
    have ho := o_or hk2
    obtain ⟨⟨x1, Gw⟩, ew, e1, e2, e3, e4⟩ := isPaper_yes hC.av hk.1 hk.2
    have e1' : x1 = true := e1
    subst e1'
    have e2' : M0 (ct 80 (Gm 202) (pb a1)) (pb a1) Gw := e2
    have e3' : Gw 202 = Gm 202 := e3
    have e4' : Gw 203 = Gm 203 := e4
    by_cases hr : 0 ≤ a3 ∧ a3 ≤ 60
    · -- the class draws
      obtain ⟨Cd, d1, d2, d3, d4, d5⟩ := cdraws_ok (a2 := a2) ho hr.2 a3.toNat FU 0 0 a2 (upd2 (upd2 Gc 74 0 0) 73 1 a2) (by show a3.toNat < 100000; omega) (by omega) (by omega) (by omega) (by omega) upd2_s (by rw [upd2_o (by omega), upd2_s]) (rfl) (rfl)
      have d5' : ∀ a j, ¬ (73 ≤ a ∧ a ≤ 77) → Cd a j = Gc a j := fun a j q => by rw [d5 _ _ q, upd2_o (by omega), upd2_o (by omega)]
      have ep : upd2 (upd2 Gc 74 0 0) 73 1 a2 (7 + 15 * a1) 1 = ct 80 (Gm 202) (pb a1) 0 := by rw [upd2_o (by omega), upd2_o (by omega)]; exact hP.1.1
      have er : upd2 (upd2 Gc 74 0 0) 73 1 a2 (7 + 15 * a1) 2 = ct 80 (Gm 202) (pb a1) 1 := by rw [upd2_o (by omega), upd2_o (by omega)]; exact hP.1.2
      have hPd : PaperC Cd (7 + 15 * a1) (ct 80 (Gm 202) (pb a1)) := hP.fr fun a j u v => d5' _ _ (by omega)
      have hCd : CInv Cd (Gm 202) (Gm 203) := hC.sq (Sq.fr fun a j q => d5' _ _ (by omega))
      -- it begins
      obtain ⟨C1, b1, b2, b3, b4⟩ := begins_J hV ho hPd (show M0 (ct 80 (Gm 202) (pb a1)) (pb a1) Gw from e2')
      have hJ : WkJ (7 + 15 * a1) (pb a1) (ct 80 (Gm 202) (pb a1)) 0 C1 (upd2 Gw 201 46 a2) := b2.fr ho (fun _ _ _ => rfl) fun a j q => upd2_o (by omega)
      have hM : Mq Gm (upd2 Gw 201 46 a2) := Mq.trans ⟨e3', e4'⟩ (Mq.fr fun j => ⟨upd2_o (by omega), upd2_o (by omega)⟩)
      obtain ⟨C', R, f1, f2, v, f3, f4, f5⟩ := may_both (a1 := a1) (a2 := a2) (a4 := a4) (C0 := Cd) (G0 := Gm) (Q := fun C R => ∃ v, cSt_tell a4 C = some v ∧ (R.1 = v ∧ R.2 202 = Gm 202 ∧ R.2 203 = Gm 203) ∧ CInv C (Gm 202) (Gm 203)) (K := fun G_45 => (mm_nowOf a4 G_45).bind fun v48 => some (v48, G_45)) hV ho ep er hr.2 (fun C G k hJ hC hM => by
          obtain ⟨v, t1, t2⟩ := wtell_J (q := a4) r4.2 hV ho hJ
          rw [t2, Option.bind_some]
          exact ok_some ⟨v, t1, ⟨rfl, hM.1, hM.2⟩, hCd.sq (Sq.fr fun a j q => hC _ _ (by omega))⟩) a3.toNat FU FU 0 0 a2 C1 (upd2 Gw 201 46 a2) (by show a3.toNat < 100000; omega) (by show a3.toNat < 100000; omega) (by omega) (by omega) (by omega) (by omega) d2 hJ upd2_s b4 hM
      refine op_q hI v ?_ ?_
      · unfold cX_drawn cLo_draw cSt_runWhatMay
        rw [hp, Option.bind_some, if_neg (by omega), if_neg (by omega), if_neg (by omega), d1, Option.bind_some, b1, Option.bind_some, f1, Option.bind_some, f3, Option.bind_some]
        exact ok_some ⟨rfl, f5⟩
      · unfold mm_drawn
        rw [ew, Option.bind_some]
        show ok (if mm_isIn a3 0 60 = true then _ else some (-2, Gw)) _
        rw [isIn_eq, decide_eq_true hr, if_tt]
        exact ⟨R, f2, f4⟩
    · refine op_q hI (-2) ?_ ?_
      · unfold cX_drawn
        rw [hp, Option.bind_some, if_neg (by omega)]
        by_cases h3 : a3 < 0
        · rw [if_pos h3]
          exact ok_some ⟨rfl, hC⟩
        · rw [if_neg h3, if_pos (by omega)]
          exact ok_some ⟨rfl, hC⟩
      · unfold mm_drawn
        rw [ew, Option.bind_some]
        show ok (if mm_isIn a3 0 60 = true then _ else some (-2, Gw)) _
        rw [isIn_eq, decide_eq_false hr, if_neg (by decide)]
        exact ok_some ⟨rfl, e3', e4'⟩
  · refine op_q hI (-2) ?_ ?_
    · unfold cX_drawn
      rw [paperAt_no hC hk, Option.bind_some, if_pos (by omega)]
      exact ok_some ⟨rfl, hC⟩
    · unfold mm_drawn
      rw [isPaper_no hC.av hk, Option.bind_some]
      exact ok_some ⟨rfl, rfl, rfl⟩
