-- by which places readers are told apart
def uw1 (P : Int → Int) (a b p : Int) : Bool := decide (P (32 + 8 * a + p) ≠ P (32 + 8 * b + p))
def uw (P : Int → Int) (a b : Int) : Int := bm (uw1 P a b) (P 0).toNat
theorem uw_sym (P : Int → Int) (a b : Int) : uw P a b = uw P b a := bm_congr fun p _ _ => decide_eq_decide.mpr ⟨fun h e => h e.symm, fun h e => h e.symm⟩
theorem uw_ok {G : Hp} {o a b : Int} {P : Int → Int} (hV : PaperV P) (hC : PaperC G o P) (a0 : 0 ≤ a) (a1 : a < 6) (b0 : 0 ≤ b) (b1 : b < 6) : cPa_unlikeWishes o a b G = some (uw P a b) := by
  apply ok_iff
  unfold cPa_unlikeWishes
  have h0 := hV.1
  refine lp_up (fun n i (s : Int) => cPa_unlikeWishes_L5 o a b G n s i) (P 0) (fun i s => s = bm (uw1 P a b) i.toNat) ?_ ?_ (by omega) (by omega) (by omega) rfl
  · intro n i s i0 i1 hI ih
    show ok (cPa_unlikeWishes_L5 o a b G (n + 1) s i) _
    have hm := bm_Mk (uw1 P a b) i.toNat (by omega)
    have hs := bm_s (uw1 P a b) i0
    rw [cPa_unlikeWishes_L5, hC.1.1, if_pos i1, wish_ok hC a0 a1 i0 (by omega), wish_ok hC b0 b1 i0 (by omega), w32_id (by omega) (by omega)]
    simp only [Option.bind_some]
    refine ok_ite (fun e => ih _ ?_) (fun e => ih _ ?_)
    · rw [hs, hI, ior_0 hm (by omega), if_neg (by unfold uw1; simp [e])]
    · rw [hs, hI, if_pos (by unfold uw1; simp [e])]
  · intro n s hI
    show ok (cPa_unlikeWishes_L5 o a b G (n + 1) s (P 0)) _
    rw [cPa_unlikeWishes_L5, hC.1.1, if_neg (by omega)]
    exact ok_some hI
theorem muw_ok {G : Hp} {c a b : Int} {P : Int → Int} (hV : PaperV P) (hM : MS P c G) (a0 : 0 ≤ a) (a1 : a < 6) (b0 : 0 ≤ b) (b1 : b < 6) : mm_unlikeAt a b G = some (uw P a b) := by
  apply ok_iff
  unfold mm_unlikeAt
  have h0 := hV.1
  refine lp_up (fun n i (s : Int) => mm_unlikeAt_L5 a b G n s i) (P 0) (fun i s => s = bm (uw1 P a b) i.toNat) ?_ ?_ (by omega) (by omega) (by omega) rfl
  · intro n i s i0 i1 hI ih
    show ok (mm_unlikeAt_L5 a b G (n + 1) s i) _
    have hm := bm_Mk (uw1 P a b) i.toNat (by omega)
    have hs := bm_s (uw1 P a b) i0
    rw [mm_unlikeAt_L5, hM.1.2.1, if_pos i1, want_ok hM a0 a1 i0 (by omega), want_ok hM b0 b1 i0 (by omega), w32_id (by omega) (by omega)]
    simp only [Option.bind_some]
    refine ok_ite (fun e => ih _ ?_) (fun e => ih _ ?_)
    · rw [hs, hI, ior_0 hm (by omega), if_neg (by unfold uw1; simp [e])]
    · rw [hs, hI, if_pos (by unfold uw1; simp [e])]
  · intro n s hI
    show ok (mm_unlikeAt_L5 a b G (n + 1) s (P 0)) _
    rw [mm_unlikeAt_L5, hM.1.2.1, if_neg (by omega)]
    exact ok_some hI
def sg2 (P : Int → Int) (g a : Int) : Int → Bool := fun b => !decide (iand (uw P a b) g = 0)
def sgB (P : Int → Int) (g : Int) : Bool := allB (fun a => allB (sg2 P g a) a.toNat) (P 1).toNat
theorem sgB_iff (P : Int → Int) (g : Int) : sgB P g = true ↔ ∀ a b, 0 ≤ a → a < b → b < P 1 → iand (uw P a b) g ≠ 0 := by
  unfold sgB
  rw [allB_iff]
  constructor
  · intro h a b a0 ab b1
    have := allB_iff.mp (h b (by omega) (by omega)) a a0 (by omega)
    unfold sg2 at this
    rw [uw_sym P a b]
    simpa using this
  · intro h a a0 a1
    refine allB_iff.mpr fun b b0 b1 => ?_
    have := h b a b0 (by omega) (by omega)
    unfold sg2
    rw [uw_sym P a b]
    simpa using this
theorem areSigns_ok {G : Hp} {c g : Int} {P : Int → Int} (hV : PaperV P) (hM : MS P c G) : mm_areSigns g G = some (sgB P g) := by
  apply ok_iff
  unfold mm_areSigns
  have h1 := hV.2.1
  refine lp_up (fun n i (s : Int) => mm_areSigns_L4 g G n s i) (P 1) (fun i s => s = b2i (allB (fun a => allB (sg2 P g a) a.toNat) i.toNat)) ?_ ?_ (by omega) (by omega) (by omega) rfl
  · intro n i s i0 i1 hI ih
    show ok (mm_areSigns_L4 g G (n + 1) s i) _
    have hs := allB_s (fun a => allB (sg2 P g a) a.toNat) i0
    rw [mm_areSigns_L4, hM.1.2.2, if_pos i1, w32_id (by omega) (by omega)]
    refine lp_up (fun n2 j (x : Int) => mm_areSigns_L15 g G i (fun x2_49 => mm_areSigns_L4 g G n x2_49 (i + 1)) n2 x j) i (fun j x => x = b2i (allB (fun a => allB (sg2 P g a) a.toNat) i.toNat && allB (sg2 P g i) j.toNat)) ?_ ?_ (by omega) (by omega) (by omega) (by rw [show allB (sg2 P g i) (0 : Int).toNat = true from rfl, Bool.and_true]; exact hI)
    · intro n2 j x j0 j1 hx ih2
      show ok (mm_areSigns_L15 g G i _ (n2 + 1) x j) _
      have hs2 := allB_s (sg2 P g i) j0
      rw [mm_areSigns_L15, if_pos j1, w32_id (by omega) (by omega)]
      refine ok_ite (fun e => ih2 _ ?_) (fun e => ?_)
      · rw [hs2, ← Bool.and_assoc]
        rw [hx] at e
        cases hq : (allB (fun a => allB (sg2 P g a) a.toNat) i.toNat && allB (sg2 P g i) j.toNat) with
        | false => rfl
        | true => rw [hq] at e; cases e
      · have hq : (allB (fun a => allB (sg2 P g a) a.toNat) i.toNat && allB (sg2 P g i) j.toNat) = true := by
          cases hq : (allB (fun a => allB (sg2 P g a) a.toNat) i.toNat && allB (sg2 P g i) j.toNat) with
          | true => rfl
          | false => rw [hx, hq] at e; exact absurd rfl e
        rw [muw_ok hV hM i0 (by omega) j0 (by omega), Option.bind_some]
        refine ok_ite (fun e3 => ih2 _ ?_) (fun e3 => ih2 _ ?_)
        · rw [hs2, ← Bool.and_assoc, hq]
          unfold sg2
          rw [decide_eq_true e3]
          rfl
        · rw [hs2, ← Bool.and_assoc, hq]
          unfold sg2
          rw [decide_eq_false e3]
          rfl
    · intro n2 x hx
      show ok (mm_areSigns_L15 g G i _ (n2 + 1) x i) _
      rw [mm_areSigns_L15, if_neg (by omega)]
      refine ih _ ?_
      rw [hs, hx]
  · intro n s hI
    show ok (mm_areSigns_L4 g G (n + 1) s (P 1)) _
    rw [mm_areSigns_L4, hM.1.2.2, if_neg (by omega), hI]
    show ok ((zret (b2i (sgB P g))).bind fun b_ => some b_) _
    cases sgB P g <;> exact ok_some rfl
theorem tellsApart_ok {G : Hp} {g n : Int} (n0 : 0 ≤ n) (n1 : n ≤ 36) : ok (cX_tellsApart g n G) (fun r => r = true ↔ ∀ k, 0 ≤ k → k < n → iand (G 92 k) g ≠ 0) := by
  unfold cX_tellsApart
  refine lp_up (fun m i (_ : Unit) => cX_tellsApart_L2 g n G m i) n (fun i _ => ∀ k, 0 ≤ k → k < i → iand (G 92 k) g ≠ 0) ?_ ?_ (by omega) (by omega) (by omega) (s := ()) (fun k k0 k1 => by omega)
  · intro m i s i0 i1 hI ih
    show ok (cX_tellsApart_L2 g n G (m + 1) i) _
    rw [cX_tellsApart_L2, if_pos i1, w32_id (by omega) (by omega)]
    refine ok_gd i0 (by omega) (ok_ite (fun e => ok_some ⟨fun z => Bool.noConfusion z, fun z => absurd e (z i i0 i1)⟩) (fun e => ih () fun k k0 k1 => ?_))
    by_cases hk : k = i
    · subst hk
      exact e
    · exact hI k k0 (by omega)
  · intro m s hI
    show ok (cX_tellsApart_L2 g n G (m + 1) n) _
    rw [cX_tellsApart_L2, if_neg (by omega)]
    exact ok_some ⟨fun _ => hI, fun _ => rfl⟩
/-- the least of the smallest sets -/
def sgF (c : Int → Bool) : Nat → Int
  | 0 => -1
  | k + 1 => if c (k : Int) = true ∧ (sgF c k = -1 ∨ pop (k : Int) < pop (sgF c k)) then (k : Int) else sgF c k
theorem sgF_s (c : Int → Bool) {i : Int} (h : 0 ≤ i) : sgF c (i + 1).toNat = if c i = true ∧ (sgF c i.toNat = -1 ∨ pop i < pop (sgF c i.toNat)) then i else sgF c i.toNat := by
  have e : (i + 1).toNat = i.toNat + 1 := by omega
  have e2 : ((i.toNat : Nat) : Int) = i := by omega
  rw [e]
  show (if c ((i.toNat : Nat) : Int) = true ∧ (sgF c i.toNat = -1 ∨ pop ((i.toNat : Nat) : Int) < pop (sgF c i.toNat)) then ((i.toNat : Nat) : Int) else sgF c i.toNat) = _
  rw [e2]
def isB (c : Int → Bool) (l M b : Int) : Prop := (b = -1 ∧ ∀ s, l ≤ s → s < M → c s = false) ∨ (l ≤ b ∧ b < M ∧ c b = true ∧ ∀ s, l ≤ s → s < M → c s = true → pop b < pop s ∨ (pop b = pop s ∧ b ≤ s))
theorem sgF_B (c : Int → Bool) : ∀ k : Nat, isB c 0 k (sgF c k)
  | 0 => Or.inl ⟨rfl, fun s s0 s1 => by omega⟩
  | k + 1 => by
    have ih := sgF_B c k
    unfold sgF
    by_cases h : c (k : Int) = true ∧ (sgF c k = -1 ∨ pop (k : Int) < pop (sgF c k))
    · rw [if_pos h]
      refine Or.inr ⟨by omega, by omega, h.1, fun s s0 s1 hs => ?_⟩
      by_cases hk : s = (k : Int)
      · subst hk
        exact Or.inr ⟨rfl, by omega⟩
      · rcases ih with ⟨a, b⟩ | ⟨a, b, d, e⟩
        · rw [b s s0 (by omega)] at hs
          cases hs
        · have := e s s0 (by omega) hs
          rcases h.2 with q | q
          · omega
          · omega
    · rw [if_neg h]
      rcases ih with ⟨a, b⟩ | ⟨a, b, d, e⟩
      · refine Or.inl ⟨a, fun s s0 s1 => ?_⟩
        by_cases hk : s = (k : Int)
        · subst hk
          cases hc : c (k : Int) with
          | false => rfl
          | true => exact absurd ⟨hc, Or.inl a⟩ h
        · exact b s s0 (by omega)
      · refine Or.inr ⟨a, by omega, d, fun s s0 s1 hs => ?_⟩
        by_cases hk : s = (k : Int)
        · subst hk
          by_cases hp : pop (k : Int) < pop (sgF c k)
          · exact absurd ⟨hs, Or.inr hp⟩ h
          · omega
        · exact e s s0 (by omega) hs
theorem isB_u {c : Int → Bool} {M a b : Int} (ha : isB c 0 M a) (hb : isB c 0 M b) : a = b := by
  rcases ha with ⟨a1, a2⟩ | ⟨a1, a2, a3, a4⟩
  · rcases hb with ⟨b1, b2⟩ | ⟨b1, b2, b3, b4⟩
    · omega
    · rw [a2 b b1 b2] at b3
      cases b3
  · rcases hb with ⟨b1, b2⟩ | ⟨b1, b2, b3, b4⟩
    · rw [b2 a a1 a2] at a3
      cases a3
    · have := a4 b b1 b2 b3
      have := b4 a a1 a2 a3
      omega
theorem pow8 {n : Int} (h0 : 0 ≤ n) (h1 : n ≤ 8) : ∃ m : Int, ishl 1 n = m ∧ 1 ≤ m ∧ m ≤ 256 := by
  refine ⟨_, rfl, ?_⟩
  rw [ishl_1 h0 (by omega)]
  have h2 : 2 ^ n.toNat ≤ 2 ^ 8 := Nat.pow_le_pow_right (by decide) (by omega)
  have h3 : 0 < 2 ^ n.toNat := Nat.pow_pos (by decide)
  have e : (2 : Nat) ^ 8 = 256 := rfl
  omega
theorem Mk8 {g : Int} (h0 : 0 ≤ g) (h1 : g < 256) : Mk 8 g := ⟨h0, by have e : ((2 ^ 8 : Nat) : Int) = 256 := rfl; omega⟩
/-- the couples ahead of one -/
def cpl (n a b : Int) : Int → Int → Prop := fun x y => 0 ≤ x ∧ x < y ∧ y < n ∧ (x < a ∨ (x = a ∧ y < b))
def Jp (P : Int → Int) (pr : Int → Int → Prop) (cnt : Int) (G : Hp) : Prop := ∀ g, (∀ k, 0 ≤ k → k < cnt → iand (G 92 k) g ≠ 0) ↔ ∀ a b, pr a b → iand (uw P a b) g ≠ 0
theorem op15 : Op15 Inv := by
  intro Gc Gm hI a1 a2 r1 r2
  have hC : CInv Gc (Gm 202) (Gm 203) := hI
  by_cases hk : 0 ≤ a1 ∧ a1 < Gm 202 0
  · obtain ⟨hp, hk2⟩ := paperAt_yes hC hk.1 hk.2
    obtain ⟨hV, hP⟩ := hC.paper hk2
    have hyes := isPaper_yes hC.av hk.1 hk.2
    generalize ct 80 (Gm 202) (pb a1) = P at *
    have h0 := hV.1
    have h1 := hV.2.1
    have ho := o_or hk2
    generalize 7 + 15 * a1 = o at *
    have o0 : ¬ o < 0 := by omega
    obtain ⟨M, hM1, hM2, hM3⟩ := pow8 h0.1 h0.2
    have hbs := sgF_B (sgB P) M.toNat
    rw [show ((M.toNat : Nat) : Int) = M by omega] at hbs
    refine op_q hI (if sgF (sgB P) M.toNat = -1 then -1 else if a2 = 0 then pop (sgF (sgB P) M.toNat) else sgF (sgB P) M.toNat) ?_ ?_
    · unfold cX_signs
      rw [hp, Option.bind_some, if_neg o0]
      refine lp_up (fun n i (s : Int × Hp) => cX_signs_L18 a1 a2 o (fun x4_72 G_72 => cX_signs_L78 a1 a2 o x4_72 G_72 (fun x5_129 => if x5_129 = (-1) then some (x5_129, G_72) else (if a2 = 0 then some ((jI_bitCount x5_129), G_72) else some (x5_129, G_72))) FU (-1) 0) n s.1 i s.2) (P 1) (fun i s => (0 ≤ s.1 ∧ s.1 ≤ 6 * i) ∧ Jp P (cpl (P 1) i 0) s.1 s.2 ∧ ∀ a j, a ≠ 92 → s.2 a j = Gc a j) ?_ ?_ (by omega) (by omega) (by omega) (s := (0, Gc)) ⟨⟨Int.le_refl 0, by omega⟩, fun g => ⟨fun _ x y h => by unfold cpl at h; omega, fun _ k k0 k1 => absurd (show k < 0 from k1) (by omega)⟩, fun _ _ _ => rfl⟩
      · intro n i s i0 i1 hI2 ih
        obtain ⟨cnt, G1⟩ := s
        obtain ⟨f1, f2, f3⟩ := hI2
        simp only at f1 f2 f3
        have hP2 := hP.sq ho (Sq.fr fun a j x => f3 a j (by omega))
        show ok (cX_signs_L18 a1 a2 o _ (n + 1) cnt i G1) _
        rw [cX_signs_L18, hP2.1.2, if_pos i1, w32_id (by omega) (by omega)]
        refine lp_up (fun n2 j (s : Int × Hp) => cX_signs_L33 a1 a2 o i (fun x4_66 G_66 => cX_signs_L18 a1 a2 o (fun x4_72 G_72 => cX_signs_L78 a1 a2 o x4_72 G_72 (fun x5_129 => if x5_129 = (-1) then some (x5_129, G_72) else (if a2 = 0 then some ((jI_bitCount x5_129), G_72) else some (x5_129, G_72))) FU (-1) 0) n x4_66 (i + 1) G_66) n2 s.1 j s.2) (P 1) (fun j s => i + 1 ≤ j ∧ (0 ≤ s.1 ∧ s.1 ≤ 6 * i + (j - i - 1)) ∧ Jp P (cpl (P 1) i j) s.1 s.2 ∧ ∀ a j, a ≠ 92 → s.2 a j = Gc a j) ?_ ?_ (by omega) (by omega) (by omega) (s := (cnt, G1)) ⟨by omega, ⟨f1.1, by show cnt ≤ _; omega⟩, fun g => ?_, f3⟩
        · intro n2 j s j0 j1 hI3 ih2
          obtain ⟨cnt, G1⟩ := s
          obtain ⟨g0, g1, g2, g3⟩ := hI3
          simp only at g1 g2 g3
          have hP2 := hP.sq ho (Sq.fr fun a j x => g3 a j (by omega))
          show ok (cX_signs_L33 a1 a2 o i _ (n2 + 1) cnt j G1) _
          rw [cX_signs_L33, hP2.1.2, if_pos j1, uw_ok hV hP2 i0 (by omega) j0 (by omega), Option.bind_some, w32_id (by omega) (by omega), w32_id (by omega) (by omega)]
          refine ok_gd (by omega) (by omega) (ih2 (cnt + 1, upd2 G1 92 cnt (uw P i j)) ⟨by omega, ⟨by omega, by omega⟩, fun g => ?_, fun a b x => ?_⟩)
          · show (∀ k, 0 ≤ k → k < cnt + 1 → iand (upd2 G1 92 cnt (uw P i j) 92 k) g ≠ 0) ↔ _
            constructor
            · intro hk a b hab
              by_cases e : a = i ∧ b = j
              · have := hk cnt g1.1 (by omega)
                rw [upd2_s] at this
                rw [e.1, e.2]
                exact this
              · refine (g2 g).mp (fun k k0 k1 => ?_) a b ?_
                · have := hk k k0 (by omega)
                  rw [upd2_o (by omega)] at this
                  exact this
                · unfold cpl at hab ⊢
                  omega
            · intro hab k k0 k1
              by_cases e : k = cnt
              · subst e
                rw [upd2_s]
                exact hab i j (by unfold cpl; omega)
              · rw [upd2_o (by omega)]
                exact (g2 g).mpr (fun a b h => hab a b (by unfold cpl at h ⊢; omega)) k k0 (by omega)
          · show upd2 G1 92 cnt (uw P i j) a b = _
            rw [upd2_o (by omega)]
            exact g3 a b x
        · intro n2 s hI3
          obtain ⟨cnt, G1⟩ := s
          obtain ⟨g0, g1, g2, g3⟩ := hI3
          simp only at g1 g2 g3
          have hP2 := hP.sq ho (Sq.fr fun a j x => g3 a j (by omega))
          show ok (cX_signs_L33 a1 a2 o i _ (n2 + 1) cnt (P 1) G1) _
          rw [cX_signs_L33, hP2.1.2, if_neg (by omega)]
          refine ih (cnt, G1) ⟨⟨g1.1, by show cnt ≤ _; omega⟩, fun g => ?_, g3⟩
          refine (g2 g).trans ⟨fun h a b hab => h a b (by unfold cpl at hab ⊢; omega), fun h a b hab => h a b (by unfold cpl at hab ⊢; omega)⟩
        · refine (f2 g).trans ⟨fun h a b hab => h a b (by unfold cpl at hab ⊢; omega), fun h a b hab => h a b (by unfold cpl at hab ⊢; omega)⟩
      · intro n s hI2
        obtain ⟨cnt, G1⟩ := s
        obtain ⟨f1, f2, f3⟩ := hI2
        simp only at f1 f2 f3
        have hsq : Sq Gc G1 := Sq.fr fun a j x => f3 a j (by omega)
        have hP2 := hP.sq ho hsq
        have hC2 := hC.sq hsq
        show ok (cX_signs_L18 a1 a2 o _ (n + 1) cnt (P 1) G1) _
        rw [cX_signs_L18, hP2.1.2, if_neg (by omega)]
        refine lp_up (fun n i (x : Int) => cX_signs_L78 a1 a2 o cnt G1 (fun x5_129 => if x5_129 = (-1) then some (x5_129, G1) else (if a2 = 0 then some ((jI_bitCount x5_129), G1) else some (x5_129, G1))) n x i) M (fun i x => x = sgF (sgB P) i.toNat) ?_ ?_ (by omega) (by omega) (by omega) rfl
        · intro n i x i0 i1 hx ih
          have hs := sgF_s (sgB P) i0
          have hb := sgF_B (sgB P) i.toNat
          rw [← hx] at hs hb
          show ok (cX_signs_L78 a1 a2 o cnt G1 _ (n + 1) x i) _
          rw [cX_signs_L78, hP2.1.1, hM1, if_pos i1, w32_id (by omega) (by omega)]
          refine ok_then (tellsApart_ok f1.1 (by omega)) fun v hv => ?_
          have hv2 : v = true ↔ sgB P i = true := by
            rw [hv, f2 i, sgB_iff]
            exact ⟨fun h a b a0 ab b1 => h a b (by unfold cpl; omega), fun h a b hab => by unfold cpl at hab; exact h a b hab.1 hab.2.1 hab.2.2.1⟩
          refine ok_ite (fun e => ok_ite (fun e2 => ih _ ?_) (fun e2 => ?_)) (fun e => ih _ ?_)
          · rw [hs, if_pos ⟨hv2.mp e, Or.inl e2⟩]
          · have hx0 : 0 ≤ x ∧ x < i := by
              rcases hb with ⟨q, -⟩ | ⟨q1, q2, -⟩
              · exact absurd q e2
              · omega
            rw [bc ((Mk8 (by omega) (by omega)).mono (by omega)), bc ((Mk8 (by omega) (by omega)).mono (by omega))]
            refine ok_ite (fun e3 => ih _ ?_) (fun e3 => ih _ ?_)
            · rw [hs, if_pos ⟨hv2.mp e, Or.inr e3⟩]
            · rw [hs, if_neg (fun z => z.2.elim e2 e3)]
          · rw [hs, if_neg (fun z => e (hv2.mpr z.1))]
        · intro n x hx
          show ok (cX_signs_L78 a1 a2 o cnt G1 _ (n + 1) x M) _
          rw [cX_signs_L78, hP2.1.1, hM1, if_neg (by omega), hx]
          refine ok_ite (fun e => ok_some ⟨?_, hC2⟩) (fun e => ?_)
          · rw [if_pos e]
            exact e
          · rw [if_neg e]
            refine ok_ite (fun e2 => ok_some ⟨?_, hC2⟩) (fun e2 => ok_some ⟨?_, hC2⟩)
            · rw [if_pos e2]
              have hx0 : 0 ≤ sgF (sgB P) M.toNat ∧ sgF (sgB P) M.toNat < 256 := by
                rcases hbs with ⟨q, -⟩ | ⟨q1, q2, -⟩
                · exact absurd q e
                · omega
              exact bc ((Mk8 hx0.1 hx0.2).mono (by omega))
            · rw [if_neg e2]
    · unfold mm_signs
      refine ok_then hyes fun r hr2 => ?_
      obtain ⟨e1, e2, e3, e4⟩ := hr2
      have hM := e2.1
      rw [e1, if_tt, hM.1.2.1, hM1, w32_id (by omega) (by omega)]
      refine lp_dn (fun n i (x : Int) => mm_signs_L22 a1 a2 r.2 (fun x3_62 => if x3_62 = (-1) then some (x3_62, r.2) else (if a2 = 0 then ((mm_bitsOf x3_62 r.2).bind fun v76 => some (v76, r.2)) else some (x3_62, r.2))) n x i) (fun i x => i ≤ M - 1 ∧ isB (sgB P) (i + 1) M x) ?_ ?_ (by omega) (by omega) ⟨by omega, Or.inl ⟨rfl, fun s s0 s1 => by omega⟩⟩
      · intro n i x i0 hx ih
        obtain ⟨hi, hx⟩ := hx
        show ok (mm_signs_L22 a1 a2 r.2 _ (n + 1) x i) _
        rw [mm_signs_L22, if_neg (by omega), areSigns_ok hV hM, Option.bind_some, w32_id (by omega) (by omega)]
        have hi1 : i - 1 + 1 = i := by omega
        refine ok_ite (fun e => ?_) (fun e => ih _ ⟨by omega, ?_⟩)
        · have take : (∀ s, i + 1 ≤ s → s < M → sgB P s = true → pop i ≤ pop s) → isB (sgB P) (i - 1 + 1) M i := by
            intro h
            rw [hi1]
            refine Or.inr ⟨by omega, by omega, e, fun s s0 s1 hs => ?_⟩
            by_cases hk : s = i
            · subst hk
              exact Or.inr ⟨rfl, by omega⟩
            · have := h s (by omega) s1 hs
              omega
          refine ok_ite (fun e2 => ih _ ⟨by omega, take fun s s0 s1 hs => ?_⟩) (fun e2 => ?_)
          · rcases hx with ⟨q1, q2⟩ | ⟨q1, -⟩
            · rw [q2 s s0 s1] at hs
              cases hs
            · omega
          · rcases hx with ⟨q1, q2⟩ | ⟨q1, q2, q3, q4⟩
            · exact absurd q1 e2
            · rw [bitsOf_ok ((Mk8 (by omega) (by omega)).mono (by omega)), bitsOf_ok ((Mk8 (by omega) (by omega)).mono (by omega)), Option.bind_some, Option.bind_some]
              refine ok_ite (fun e3 => ih _ ⟨by omega, take fun s s0 s1 hs => ?_⟩) (fun e3 => ih _ ⟨by omega, ?_⟩)
              · have := q4 s s0 s1 hs
                omega
              · rw [hi1]
                refine Or.inr ⟨by omega, q2, q3, fun s s0 s1 hs => ?_⟩
                by_cases hk : s = i
                · subst hk
                  omega
                · exact q4 s (by omega) s1 hs
        · rw [hi1]
          have ef : sgB P i = false := by
            cases q : sgB P i with
            | false => rfl
            | true => exact absurd q e
          rcases hx with ⟨q1, q2⟩ | ⟨q1, q2, q3, q4⟩
          · refine Or.inl ⟨q1, fun s s0 s1 => ?_⟩
            by_cases hk : s = i
            · rw [hk]
              exact ef
            · exact q2 s (by omega) s1
          · refine Or.inr ⟨by omega, q2, q3, fun s s0 s1 hs => ?_⟩
            by_cases hk : s = i
            · rw [hk, ef] at hs
              cases hs
            · exact q4 s (by omega) s1 hs
      · intro n x hx
        show ok (mm_signs_L22 a1 a2 r.2 _ (n + 1) x (-1)) _
        have hxe : x = sgF (sgB P) M.toNat := isB_u hx.2 hbs
        rw [mm_signs_L22, if_pos (by omega), hxe]
        refine ok_ite (fun e => ok_some ⟨?_, e3, e4⟩) (fun e => ?_)
        · rw [if_pos e]
          exact e
        · rw [if_neg e]
          have hx0 : 0 ≤ sgF (sgB P) M.toNat ∧ sgF (sgB P) M.toNat < 256 := by
            rcases hbs with ⟨q, -⟩ | ⟨q1, q2, -⟩
            · exact absurd q e
            · omega
          rw [bitsOf_ok ((Mk8 hx0.1 hx0.2).mono (by omega)), Option.bind_some]
          refine ok_ite (fun e2 => ok_some ⟨?_, e3, e4⟩) (fun e2 => ok_some ⟨?_, e3, e4⟩)
          · rw [if_pos e2]
          · rw [if_neg e2]
  · refine op_q hI (-1) ?_ ?_
    · unfold cX_signs
      rw [paperAt_no hC hk, Option.bind_some, if_pos (by omega)]
      exact ok_some ⟨rfl, hC⟩
    · unfold mm_signs
      rw [isPaper_no hC.av hk, Option.bind_some, if_ff]
      exact ok_some ⟨rfl, rfl, rfl⟩
