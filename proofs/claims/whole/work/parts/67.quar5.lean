/-- one place in the turns -/
def Node (P : Int → Int) (b r1 r2 D : Int) (Q : Int × Hp → Prop) (m : Nat) : Prop :=
  ∀ (x : Int) (f : Int → Int) (G : Hp) (n : Nat), 0 ≤ x → x + m = D → Cq m ≤ n → QS P b f G → PV f → G 216 x = -1 → G 218 x = 99999999 →
    (∀ (G' : Hp) (n' : Nat), n ≤ n' + Cq m → QS P b f G' → Fq x G G' → G' 218 x = sgn x (Uq P r1 r2 x m f) → (∀ m' : Nat, m = m' + 1 → x = 0 → QB (fun p => tp P (whoAt r1 r2 x) p f) (fun p => - Uq P r1 r2 (x + 1) m' (ud f p (tp P (whoAt r1 r2 x) p f))) (- Uq P r1 r2 (x + 1) m' f) (P 0) (G' 201 35)) → ok (mm_quarrelOf_j114 r1 r2 D (mm_quarrelOf_L8 r1 r2 D n') x G') Q) →
    ok (mm_quarrelOf_L8 r1 r2 D n x G) Q
section NODE
variable {P : Int → Int} {b r1 r2 D : Int} {Q : Int × Hp → Prop}
theorem L8_s (n : Nat) {x : Int} (x0 : 0 ≤ x) (G : Hp) : mm_quarrelOf_L8 r1 r2 D (n + 1) x G = mm_quarrelOf_j25 r1 r2 D (mm_quarrelOf_L8 r1 r2 D n) x (whoAt r1 r2 x) G := by
  rw [mm_quarrelOf_L8, if_neg (by omega), irem_nn x0]
  unfold whoAt
  by_cases h : x % 2 = 0
  · rw [if_pos h, if_pos h]
  · rw [if_neg h, if_neg h]
theorem who_r (h1 : 0 ≤ r1 ∧ r1 < 6) (h2 : 0 ≤ r2 ∧ r2 < 6) (x : Int) : 0 ≤ whoAt r1 r2 x ∧ whoAt r1 r2 x < 6 := by
  unfold whoAt
  split
  · exact h1
  · exact h2
theorem node_0 (hV : PaperV P) (h1 : 0 ≤ r1 ∧ r1 < 6) (h2 : 0 ≤ r2 ∧ r2 < 6) (hD : D ≤ 4) : Node P b r1 r2 D Q 0 := by
  intro x f G n x0 xD hn hS hf g6 g8 hK
  obtain ⟨n', rfl⟩ : ∃ n', n = n' + 1 := ⟨n - 1, by have : Cq 0 = 1 := rfl; omega⟩
  have c1 := ctn_r hV r1 f
  have c2 := ctn_r hV r2 f
  rw [L8_s n' x0]
  unfold mm_quarrelOf_j25 mm_quarrelOf_j47
  have e : FU = 99999 + 1 := rfl
  rw [if_pos (show x = D by omega), e, mm_quarrelOf_L49, if_neg (show ¬ ((9 : Int) < 8) by omega), if_pos (show (8 : Int) < 9 by omega), if_pos (show x = D by omega), mcontent_ok hV hS.1 hS.2.2 h1.1 h1.2, Option.bind_some, mcontent_ok hV hS.1 hS.2.2 h2.1 h2.2, Option.bind_some, gd_ok x0 (by omega), w32_id (by omega) (by omega)]
  have hq : Fq x G (upd2 G 218 x (ctn P r1 f - ctn P r2 f)) := ⟨fun a j u v w => upd2_o (by omega), fun _ => upd2_o (by omega)⟩
  refine hK _ n' (by have : Cq 0 = 1 := rfl; omega) (hS.fq hq fun p p0 p1 => ?_) hq ?_ (fun m' hm => by omega)
  · rw [upd2_o (by omega)]
    exact hS.2.2 p p0 p1
  · rw [upd2_s]
    show _ = sgn x (ctn P (whoAt r1 r2 x) f - ctn P (whoAt r1 r2 (x + 1)) f)
    unfold sgn whoAt
    by_cases h : x % 2 = 0
    · rw [if_pos h, if_pos h, if_neg (by omega)]
    · rw [if_neg h, if_neg h, if_pos (by omega)]
      omega
theorem node_s {m : Nat} (hV : PaperV P) (h1 : 0 ≤ r1 ∧ r1 < 6) (h2 : 0 ≤ r2 ∧ r2 < 6) (hD : D ≤ 4) (hm : Node P b r1 r2 D Q m) : Node P b r1 r2 D Q (m + 1) := by
  have h0 := hV.1
  intro x f G n x0 xD hn hS hf g6 g8 hK
  have hw := who_r h1 h2 x
  have x4 : x < 4 := by omega
  generalize hwho : whoAt r1 r2 x = who at *
  generalize ht : (fun p => tp P who p f) = t at *
  generalize hv : (fun p => - Uq P r1 r2 (x + 1) m (ud f p (tp P who p f))) = v at *
  generalize hx0 : - Uq P r1 r2 (x + 1) m f = z0 at *
  have et : ∀ p, tp P who p f = t p := fun p => by rw [← ht]
  have ev : ∀ p, - Uq P r1 r2 (x + 1) m (ud f p (tp P who p f)) = v p := fun p => by rw [← hv]
  have inner : ∀ (k : Nat) (i : Int) (G : Hp) (n : Nat), -1 ≤ i → i ≤ 8 → 8 - i ≤ k → k * (1 + Cq m) + 1 ≤ n → QS P b f G → G 216 x = i → PBm t v z0 (P 0) i x G → (∀ (G' : Hp) (n' : Nat), n ≤ n' + (k * (1 + Cq m) + 1) → QS P b f G' → Fq x G G' → PBm t v z0 (P 0) 8 x G' → ok (mm_quarrelOf_j114 r1 r2 D (mm_quarrelOf_L8 r1 r2 D n') x G') Q) → ok (mm_quarrelOf_L8 r1 r2 D n x G) Q := by
    intro k
    induction k with
    | zero =>
      intro i G n i0 i1 ik hn hS g6 hP hE
      obtain ⟨n', rfl⟩ : ∃ n', n = n' + 1 := ⟨n - 1, by omega⟩
      have i8 : i = 8 := by omega
      rw [L8_s n' x0]
      unfold mm_quarrelOf_j25 mm_quarrelOf_j47
      have e : FU = 99999 + 1 := rfl
      rw [if_neg (show ¬ x = D by omega), gd_ok x0 (by omega), g6, i8, w32_id (z := (8 : Int) + 1) (by omega) (by omega), e, mm_quarrelOf_L49, if_neg (show ¬ ((8 : Int) + 1 < 8) by omega), if_pos (show (8 : Int) < 8 + 1 by omega), if_neg (show ¬ x = D by omega)]
      rw [i8] at hP
      exact hE G n' (by omega) hS (Fq.refl _ _) hP
    | succ k ih =>
      intro i G n i0 i1 ik hn hS g6 hP hE
      have hmul : (k + 1) * (1 + Cq m) = k * (1 + Cq m) + (1 + Cq m) := Nat.succ_mul k (1 + Cq m)
      rw [hmul] at hn hE
      obtain ⟨n', rfl⟩ : ∃ n', n = n' + 1 := ⟨n - 1, by omega⟩
      by_cases i8 : i = 8
      · rw [L8_s n' x0]
        unfold mm_quarrelOf_j25 mm_quarrelOf_j47
        have e : FU = 99999 + 1 := rfl
        rw [if_neg (show ¬ x = D by omega), gd_ok x0 (by omega), g6, i8, w32_id (z := (8 : Int) + 1) (by omega) (by omega), e, mm_quarrelOf_L49, if_neg (show ¬ ((8 : Int) + 1 < 8) by omega), if_pos (show (8 : Int) < 8 + 1 by omega), if_neg (show ¬ x = D by omega)]
        rw [i8] at hP
        exact hE G n' (by omega) hS (Fq.refl _ _) hP
      · have go : ∀ y : Int, i < y → y ≤ 8 → (y < 8 → y < P 0 ∧ tp P who y f ≠ -1) → (∀ p, i < p → p < y → p < P 0 → tp P who p f = -1) → ok ((mm_puts x y who G).bind fun G147 => (mm_laysTurn (w32 (x + 1)) G147).bind fun G156 => mm_quarrelOf_L8 r1 r2 D n' (w32 (x + 1)) G156) Q := by
          intro y y0 y1 y2 y3
          rw [w32_id (z := x + 1) (by omega) (by omega)]
          refine ok_then (puts_ok hV hS hf x0 (by omega) (by omega) y1 hw.1 hw.2) fun G1 k1 => ?_
          obtain ⟨p1, p2, p3, p4, p5, p6⟩ := k1
          refine ok_then (laysTurn_ok (x := x + 1) (by omega) (by omega)) fun G2 k2 => ?_
          obtain ⟨l1, l2, l3, l4⟩ := k2
          generalize hu : (if y < 8 then v y else z0) = u
          obtain ⟨f', hf', hV', hU⟩ : ∃ f', (∀ p, 0 ≤ p → p < 8 → G2 207 p = f' p) ∧ PV f' ∧ - Uq P r1 r2 (x + 1) m f' = u ∧ ∀ p, p ≠ y → f' p = f p := by
            by_cases y8 : y < 8
            · have hst := tw2_step (N := sl P 10) (f := f y) (t := wnP P who y) (y2 y8).2
              refine ⟨ud f y (tp P who y f), fun p q0 q1 => ?_, PV_ud hf hst.1 hst.2.1, ?_, fun p hp => if_neg hp⟩
              · rw [l3, p3 p q0 q1]
                unfold ud
                by_cases hp : p = y
                · rw [if_pos ⟨y8, hp⟩, if_pos hp]
                · rw [if_neg (fun z => hp z.2), if_neg hp]
              · rw [ev, ← hu, if_pos y8]
            · refine ⟨f, fun p q0 q1 => ?_, hf, ?_, fun p hp => rfl⟩
              · rw [l3, p3 p q0 q1, if_neg (fun z => y8 z.1)]
              · rw [hx0, ← hu, if_neg y8]
          have hU8 := qv_r hV m (whoAt r1 r2 (x + 1)) (whoAt r1 r2 (x + 1 + 1)) f'
          have hU8' : -8 ≤ u ∧ u ≤ 8 := by
            have : Uq P r1 r2 (x + 1) m f' = qv P m (whoAt r1 r2 (x + 1)) (whoAt r1 r2 (x + 1 + 1)) f' := rfl
            omega
          have q2 : Fq x G G2 := p5.trans (l4.up (by omega) (by omega))
          refine hm (x + 1) f' G2 n' (by omega) (by omega) (by omega) (hS.fq q2 hf') hV' l1 l2 fun G3 n3 k3 s3 q3 e3 _ => ?_
          have z3 : ∀ a j, a ≠ 207 → (a = 216 ∨ a = 217 ∨ a = 218) → j = x → G3 a j = G1 a j := fun a j u1 u2 u3 => by rw [q3.1 a j u1 (by omega) (by omega), l4.1 a j u1 (by omega) (by omega)]
          have z35 : G3 201 35 = G 201 35 := by rw [q3.2 (by omega), l4.2 (by omega), p6]
          have e8 : G3 218 x = G 218 x := by rw [z3 _ _ (by omega) (by omega) rfl, p4]
          unfold mm_quarrelOf_j114
          rw [w32_id (z := x + 1 + (-1)) (by omega) (by omega), show x + 1 + (-1) = x by omega, if_neg (show ¬ x < 0 by omega), w32_id (z := x + 1) (by omega) (by omega), gd_ok (by omega) (by omega), e3, sgn_s, hU.1]
          obtain ⟨best, hb, hc, hold⟩ : ∃ best, (-8 ≤ best ∧ best ≤ 8) ∧ (G3 218 x = 99999999 ∨ G3 218 x = sgn x best) ∧ ((G 218 x = 99999999 ∧ ∀ p, 0 ≤ p → p ≤ i → p < P 0 → t p = -1) ∨ ∃ r, (0 ≤ r ∧ r ≤ i) ∧ G 218 x = sgn x best ∧ (x = 0 → G 201 35 = r) ∧ (∀ p, 0 ≤ p → p ≤ i → p < P 0 → t p ≠ -1 → v p ≤ best ∧ (p < r → v p < best)) ∧ ((r < 8 ∧ r < P 0 ∧ t r ≠ -1 ∧ best = v r ∧ (i = 8 → z0 ≤ best)) ∨ (r = 8 ∧ best = z0))) := by
            rcases hP with ⟨w1, w2, w3⟩ | ⟨r, best, w1, w2, w3, w4⟩
            · exact ⟨0, by omega, Or.inl (by rw [e8]; exact w1), Or.inl ⟨w1, w3⟩⟩
            · exact ⟨best, w3, Or.inr (by rw [e8]; exact w2), Or.inr ⟨r, w1, w2, w4⟩⟩
          refine ok_then (comes_ok (x := x) (y := y) (old := f y) (u := u) (best := best) x0 (by omega) (by rw [z3 _ _ (by omega) (by omega) rfl]; exact p1) (by omega) y1 (fun y8 => by rw [z3 _ _ (by omega) (by omega) rfl]; exact p2 y8) hb hc) fun G4 k4 => ?_
          obtain ⟨c1, c2, c3, c4, c5⟩ := k4
          have q4 : Fq x G G4 := (q2.trans (q3.up (by omega) (by omega))).trans c5
          have s4 : QS P b f G4 := hS.fq q4 fun p w0 w1 => by
            rw [c1 p w0 w1]
            by_cases hp : p = y
            · rw [if_pos ⟨by omega, hp⟩, hp]
            · rw [if_neg (fun z => hp z.2), s3.2.2 p w0 w1, hU.2 p hp]
          refine ih y G4 n3 (by omega) y1 (by omega) (by omega) s4 c4 ?_ fun G5 n5 k5 s5 q5 b5 => hE G5 n5 (by omega) s5 (q4.trans q5) b5
          have tw : ∀ p, 0 ≤ p → ¬ p ≤ i → p ≠ y → p ≤ y → p < P 0 → t p ≠ -1 → False := fun p w0 w1 w2 w3 w4 w5 => w5 (by rw [← et]; exact y3 p (by omega) (by omega) w4)
          have vu : y < 8 → v y = u := fun z => by rw [← hu, if_pos z]
          have zu : ¬ y < 8 → z0 = u := fun z => by rw [← hu, if_neg z]
          by_cases hz : G3 218 x = 99999999 ∨ best < u
          · have c := c2 hz
            refine Or.inr ⟨y, u, ⟨by omega, by omega⟩, c.1, hU8', c.2, fun p w0 w1 w2 w3 => ?_, ?_⟩
            · by_cases hp : p = y
              · have := vu (by omega)
                rw [hp]
                exact ⟨by omega, fun z => by omega⟩
              · by_cases hpi : p ≤ i
                · rcases hold with ⟨n1, n2⟩ | ⟨r, n1, n2, n3, n4, n5⟩
                  · exact absurd (n2 p w0 hpi w2) w3
                  · have := (n4 p w0 hpi w2 w3).1
                    rcases hz with hz | hz
                    · rw [e8, n2] at hz
                      unfold sgn at hz
                      split at hz <;> omega
                    · exact ⟨by omega, fun _ => by omega⟩
                · exact (tw p w0 hpi hp w1 w2 w3).elim
            · by_cases y8 : y < 8
              · exact Or.inl ⟨y8, (y2 y8).1, by rw [← et]; exact (y2 y8).2, (vu y8).symm, fun z => by omega⟩
              · exact Or.inr ⟨by omega, (zu y8).symm⟩
          · have c := c3 hz
            have hz2 : ¬ best < u := fun z => hz (Or.inr z)
            rcases hold with ⟨n1, n2⟩ | ⟨r, n1, n2, n3, n4, n5⟩
            · exact absurd (Or.inl (by rw [e8]; exact n1)) hz
            · refine Or.inr ⟨r, best, ⟨n1.1, by omega⟩, by rw [c.1, e8]; exact n2, hb, fun z => by rw [c.2, z35]; exact n3 z, fun p w0 w1 w2 w3 => ?_, ?_⟩
              · by_cases hp : p = y
                · have := vu (by omega)
                  rw [hp]
                  exact ⟨by omega, fun z => by omega⟩
                · by_cases hpi : p ≤ i
                  · exact n4 p w0 hpi w2 w3
                  · exact (tw p w0 hpi hp w1 w2 w3).elim
              · rcases n5 with ⟨m1, m2, m3, m4, m5⟩ | ⟨m1, m2⟩
                · refine Or.inl ⟨m1, m2, m3, m4, fun z => ?_⟩
                  have := zu (by omega)
                  omega
                · omega
        rw [L8_s n' x0, hwho]
        unfold mm_quarrelOf_j25 mm_quarrelOf_j47
        rw [if_neg (show ¬ x = D by omega), gd_ok x0 (by omega), g6, w32_id (z := i + 1) (by omega) (by omega)]
        refine scan_ok hV hS hf hw.1 hw.2 i0 (by omega) (fun y y0 y1 y2 y3 => ?_) (fun y3 => ?_)
        · rw [if_neg (show ¬ 8 < y by omega)]
          exact go y y0 (by omega) (fun _ => ⟨y1, y2⟩) y3
        · rw [if_neg (show ¬ (8 : Int) < 8 by omega)]
          exact go 8 (by omega) (by omega) (fun z => by omega) y3
  refine inner 9 (-1) G n (by omega) (by omega) (by omega) hn hS g6 (Or.inl ⟨g8, by omega, fun p p0 p1 => by omega⟩) fun G' n' k' s' q' b' => ?_
  obtain ⟨r, e1, e2, e3⟩ := PBm_end (by omega) b'
  refine hK G' n' k' s' q' ?_ fun m' hm' hx => ?_
  · rw [e2]
    have hqm := QB_qm h0.1 h0.2 e1
    rw [← hqm]
    have eU : Uq P r1 r2 x (m + 1) f = qm t v z0 (P 0).toNat := by
      show qm (fun p => tp P (whoAt r1 r2 x) p f) (fun p => - qv P m (whoAt r1 r2 (x + 1)) (whoAt r1 r2 x) (ud f p (tp P (whoAt r1 r2 x) p f))) (- qv P m (whoAt r1 r2 (x + 1)) (whoAt r1 r2 x) f) (P 0).toNat = _
      rw [← ht, ← hv, ← hx0, hwho]
      unfold Uq
      rw [whoAt_2, hwho]
    rw [eU]
  · have : m' = m := by omega
    subst this
    rw [e3 hx]
    rw [hv, hx0]
    exact e1
end NODE
