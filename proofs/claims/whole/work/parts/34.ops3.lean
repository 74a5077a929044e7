-- counts of words
theorem clearRow_ok {G : Hp} : ok (cX_clearRow G) (fun G' => (∀ w, 0 ≤ w → w < 10 → G' 91 w = 0) ∧ ∀ a j, a ≠ 91 → G' a j = G a j) := by
  unfold cX_clearRow
  refine lp_up (fun n i (s : Hp) => cX_clearRow_L2 n i s) 10 (fun i G1 => (∀ w, 0 ≤ w → w < i → G1 91 w = 0) ∧ ∀ a j, a ≠ 91 → G1 a j = G a j) ?_ ?_ (by omega) (by omega) (by omega) ⟨fun w w0 w1 => by omega, fun _ _ _ => rfl⟩
  · intro n i G1 i0 i1 hI ih
    show ok (cX_clearRow_L2 (n + 1) i G1) _
    rw [cX_clearRow_L2, if_pos i1, gd_ok i0 i1, w32_id (by omega) (by omega)]
    refine ih _ ⟨fun w w0 w1 => ?_, fun a j x => ?_⟩
    · by_cases hw : w = i
      · rw [upd2_e rfl hw]
      · rw [upd2_o (by omega)]
        exact hI.1 w w0 (by omega)
    · rw [upd2_o (by omega)]
      exact hI.2 a j x
  · intro n G1 hI
    show ok (cX_clearRow_L2 (n + 1) 10 G1) _
    rw [cX_clearRow_L2, if_neg (by omega)]
    exact ok_some hI
/-- the least of those counted most, of the first ones -/
def mst (c : Int → Int) : Nat → Int
  | 0 => -1
  | k + 1 => if 0 < c (k : Int) ∧ (mst c k = -1 ∨ c (mst c k) < c (k : Int)) then (k : Int) else mst c k
theorem mst_s (c : Int → Int) {i : Int} (h : 0 ≤ i) : mst c (i + 1).toNat = if 0 < c i ∧ (mst c i.toNat = -1 ∨ c (mst c i.toNat) < c i) then i else mst c i.toNat := by
  have e : (i + 1).toNat = i.toNat + 1 := by omega
  have e2 : ((i.toNat : Nat) : Int) = i := by omega
  rw [e]
  show (if 0 < c ((i.toNat : Nat) : Int) ∧ (mst c i.toNat = -1 ∨ c (mst c i.toNat) < c ((i.toNat : Nat) : Int)) then ((i.toNat : Nat) : Int) else mst c i.toNat) = _
  rw [e2]
theorem mst_r (c : Int → Int) : ∀ k : Nat, mst c k = -1 ∨ (0 ≤ mst c k ∧ mst c k < k ∧ 0 < c (mst c k))
  | 0 => Or.inl rfl
  | k + 1 => by
    have ih := mst_r c k
    unfold mst
    split
    · next h => exact Or.inr ⟨by omega, by omega, h.1⟩
    · rcases ih with h | h
      · exact Or.inl h
      · exact Or.inr ⟨h.1, by omega, h.2.2⟩
theorem mst_congr {c d : Int → Int} : ∀ {n : Nat}, (∀ j : Int, 0 ≤ j → j < n → c j = d j) → mst c n = mst d n
  | 0, _ => rfl
  | n + 1, h => by
    have ih := mst_congr (c := c) (d := d) (n := n) (fun j h0 h1 => h j h0 (by omega))
    have h2 := h (n : Int) (by omega) (by omega)
    unfold mst
    rw [← ih, ← h2]
    rcases mst_r c n with e | e
    · rw [e]
      simp
    · rw [← h _ e.1 (by omega)]
theorem mostOfRow_ok {G : Hp} {c : Int → Int} (hc : ∀ w, 0 ≤ w → w < 10 → G 91 w = c w) : cX_mostOfRow G = some (mst c 10) := by
  apply ok_iff
  unfold cX_mostOfRow
  refine lp_up (fun n i (s : Int) => cX_mostOfRow_L4 G n s i) 10 (fun i s => s = mst c i.toNat) ?_ ?_ (by omega) (by omega) (by omega) rfl
  · intro n i s i0 i1 hI ih
    show ok (cX_mostOfRow_L4 G (n + 1) s i) _
    have hr := mst_r c i.toNat
    have hs := mst_s c i0
    rw [← hI] at hs hr
    rw [cX_mostOfRow_L4, if_pos i1, gd_ok i0 i1, hc i i0 i1, w32_id (by omega) (by omega)]
    refine ok_ite (fun h1 => ?_) (fun h1 => ih _ ?_)
    · refine ok_ite (fun h2 => ih _ ?_) (fun h2 => ?_)
      · rw [hs, if_pos ⟨h1, Or.inl h2⟩]
      · rw [gd_ok i0 i1, gd_ok (by omega) (by omega), hc s (by omega) (by omega)]
        refine ok_ite (fun h3 => ih _ ?_) (fun h3 => ih _ ?_)
        · rw [hs, if_pos ⟨h1, Or.inr h3⟩]
        · rw [hs, if_neg (fun z => z.2.elim h2 h3)]
    · rw [hs, if_neg (fun z => h1 z.1)]
  · intro n s hI
    show ok (cX_mostOfRow_L4 G (n + 1) s 10) _
    rw [cX_mostOfRow_L4, if_neg (by omega)]
    exact ok_some hI
/-- how many want a word at a place -/
def cw (P : Int → Int) (p w : Int) : Int := sm (fun r => b2i (decide (P (32 + 8 * r + p) = w))) (P 1).toNat
theorem sq91 {G G' : Hp} (h : ∀ a j, a ≠ 91 → G' a j = G a j) : Sq G G' := Sq.fr fun a j x => h a j (by omega)
theorem op16 : Op16 Inv := by
  intro Gc Gm hI a1 a2 r1 r2
  have hC : CInv Gc (Gm 202) (Gm 203) := hI
  by_cases hk : 0 ≤ a1 ∧ a1 < Gm 202 0
  · obtain ⟨hp, hk2⟩ := paperAt_yes hC hk.1 hk.2
    obtain ⟨hV, hP⟩ := hC.paper hk2
    have hyes := isPaper_yes hC.av hk.1 hk.2
    generalize ct 80 (Gm 202) (pb a1) = P at *
    have h0 := hV.1
    have h1 := hV.2.1
    by_cases hr : 0 ≤ a2 ∧ a2 < P 0
    · refine op_q hI (mst (cw P a2) 10) ?_ ?_
      · unfold cX_vote
        rw [hp, Option.bind_some, if_neg (by omega), if_neg (by omega), hP.1.1, if_neg (by omega)]
        refine ok_then clearRow_ok fun G1 hG1 => ?_
        refine lp_up (fun n i (s : Hp) => cX_vote_L31 a1 a2 (7 + 15 * a1) (fun G_73 => (cX_mostOfRow G_73).bind fun v74 => some (v74, G_73)) n i s) (P 1) (fun i G2 => (∀ w, 0 ≤ w → w < 10 → G2 91 w = sm (fun r => b2i (decide (P (32 + 8 * r + a2) = w))) i.toNat) ∧ ∀ a j, a ≠ 91 → G2 a j = Gc a j) ?_ ?_ (by omega) (by omega) (by omega) ⟨fun w w0 w1 => hG1.1 w w0 w1, hG1.2⟩
        · intro n i G2 i0 i1 hI2 ih
          have hP2 := hP.sq (o_or hk2) (sq91 hI2.2)
          show ok (cX_vote_L31 a1 a2 (7 + 15 * a1) _ (n + 1) i G2) _
          have hw := hV.2.2.2.2.2 i a2 i0 (by omega) hr.1 (by omega)
          rw [cX_vote_L31, hP2.1.2, if_pos i1, wish_ok hP2 i0 (by omega) hr.1 (by omega), Option.bind_some, w32_id (z := i + 1) (by omega) (by omega)]
          have hb := fun w => sm_r (f := fun r => b2i (decide (P (32 + 8 * r + a2) = w))) (a := 0) (b := 1) (n := i.toNat) (fun j _ _ => b2i_b _)
          refine ok_ite (fun e => ok_gd hw.1 e (ok_gd hw.1 e (ih _ ⟨fun w w0 w1 => ?_, fun a j x => ?_⟩))) (fun e => ih _ ⟨fun w w0 w1 => ?_, hI2.2⟩)
          · rw [sm_s _ i0]
            by_cases hw2 : w = P (32 + 8 * i + a2)
            · subst hw2
              have := hb (P (32 + 8 * i + a2))
              rw [upd2_e rfl rfl, hI2.1 _ w0 w1, w32_id (by omega) (by omega), decide_eq_true rfl]
              rfl
            · rw [upd2_o (by omega), hI2.1 _ w0 w1, decide_eq_false (fun z => hw2 z.symm)]
              simp [b2i]
          · rw [upd2_o (by omega)]
            exact hI2.2 a j x
          · rw [sm_s _ i0, hI2.1 _ w0 w1, decide_eq_false (by omega)]
            simp [b2i]
        · intro n G2 hI2
          have hP2 := hP.sq (o_or hk2) (sq91 hI2.2)
          show ok (cX_vote_L31 a1 a2 (7 + 15 * a1) _ (n + 1) (P 1) G2) _
          rw [cX_vote_L31, hP2.1.2, if_neg (by omega), mostOfRow_ok (c := cw P a2) hI2.1, Option.bind_some]
          exact ok_some ⟨rfl, hC.sq (sq91 hI2.2)⟩
      · unfold mm_vote
        refine ok_then hyes fun r hr2 => ?_
        obtain ⟨e1, e2, e3, e4⟩ := hr2
        have hM := e2.1
        rw [e1, if_pos rfl, isPlace_ok hV hM, Option.bind_some, decide_eq_true hr, if_pos rfl]
        refine lp_up (fun n i (s : Int × Int) => mm_vote_L26 a1 a2 r.2 n s.1 s.2 i) 10 (fun i s => s.1 = mst (cw P a2) i.toNat ∧ s.2 = if s.1 = -1 then 0 else cw P a2 s.1) ?_ ?_ (by omega) (by omega) (by omega) (s := (-1, 0)) ⟨rfl, rfl⟩
        · intro n i s i0 i1 hI2 ih
          obtain ⟨best, most⟩ := s
          show ok (mm_vote_L26 a1 a2 r.2 (n + 1) best most i) _
          simp only at hI2
          have hr2 := mst_r (cw P a2) i.toNat
          have hs := mst_s (cw P a2) i0
          rw [← hI2.1] at hs hr2
          rw [mm_vote_L26, if_pos i1, w32_id (z := i + 1) (by omega) (by omega)]
          refine lp_up (fun n2 j (s : Int) => mm_vote_L39 a1 a2 best most i r.2 (fun x6_76 => if x6_76 ≤ most then mm_vote_L26 a1 a2 r.2 n best most (i + 1) else mm_vote_L26 a1 a2 r.2 n i x6_76 (i + 1)) n2 s j) (P 1) (fun j s => s = sm (fun r => b2i (decide (P (32 + 8 * r + a2) = i))) j.toNat) ?_ ?_ (by omega) (by omega) (by omega) rfl
          · intro n2 j s j0 j1 hs2 ih2
            show ok (mm_vote_L39 a1 a2 best most i r.2 _ (n2 + 1) s j) _
            have hb := sm_r (f := fun r => b2i (decide (P (32 + 8 * r + a2) = i))) (a := 0) (b := 1) (n := j.toNat) (fun j _ _ => b2i_b _)
            rw [mm_vote_L39, hM.1.2.2, if_pos j1, want_ok hM j0 (by omega) hr.1 (by omega), Option.bind_some]
            subst hs2
            simp (disch := omega) only [w32_id]
            refine ok_ite (fun e => ih2 _ ?_) (fun e => ih2 _ ?_)
            · rw [sm_s _ j0, decide_eq_true e]
              rfl
            · rw [sm_s _ j0, decide_eq_false e]
              rfl
          · intro n2 s hs2
            show ok (mm_vote_L39 a1 a2 best most i r.2 _ (n2 + 1) s (P 1)) _
            have hs3 : s = cw P a2 i := hs2
            rw [mm_vote_L39, hM.1.2.2, if_neg (by omega), hs3]
            refine ok_ite (fun e => ih (best, most) ⟨?_, hI2.2⟩) (fun e => ih (i, cw P a2 i) ⟨?_, ?_⟩)
            · show best = _
              rw [hs, if_neg]
              rintro ⟨z1, z2⟩
              rw [hI2.2] at e
              by_cases hb : best = -1
              · rw [if_pos hb] at e
                omega
              · rw [if_neg hb] at e
                rcases z2 with z2 | z2
                · exact hb z2
                · omega
            · show i = _
              rw [hs, if_pos]
              rw [hI2.2] at e
              by_cases hb : best = -1
              · rw [if_pos hb] at e
                exact ⟨by omega, Or.inl hb⟩
              · rw [if_neg hb] at e
                rcases hr2 with h | h
                · exact absurd h hb
                · exact ⟨by omega, Or.inr (by omega)⟩
            · show cw P a2 i = if i = -1 then 0 else cw P a2 i
              rw [if_neg (by omega)]
        · intro n s hI2
          obtain ⟨best, most⟩ := s
          show ok (mm_vote_L26 a1 a2 r.2 (n + 1) best most 10) _
          rw [mm_vote_L26, if_neg (by omega)]
          exact ok_some ⟨hI2.1, e3, e4⟩
    · refine op_q hI (-1) ?_ ?_
      · unfold cX_vote
        rw [hp, Option.bind_some, if_neg (by omega), hP.1.1]
        by_cases h2 : a2 < 0
        · rw [if_pos h2]
          exact ok_some ⟨rfl, hC⟩
        · rw [if_neg h2, if_pos (by omega)]
          exact ok_some ⟨rfl, hC⟩
      · unfold mm_vote
        refine ok_then hyes fun r hr2 => ?_
        obtain ⟨e1, e2, e3, e4⟩ := hr2
        rw [e1, if_pos rfl, isPlace_ok hV e2.1, Option.bind_some, decide_eq_false hr, if_ff]
        exact ok_some ⟨rfl, e3, e4⟩
  · refine op_q hI (-1) ?_ ?_
    · unfold cX_vote
      rw [paperAt_no hC hk, Option.bind_some, if_pos (by omega)]
      exact ok_some ⟨rfl, hC⟩
    · unfold mm_vote
      rw [isPaper_no hC.av hk, Option.bind_some, if_ff]
      exact ok_some ⟨rfl, rfl, rfl⟩
