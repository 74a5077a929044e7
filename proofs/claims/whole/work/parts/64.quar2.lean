/-- the first put: the least place with the most, 8 only where it is more than each -/
def QB (t v : Int → Int) (x0 n r : Int) : Prop := (r = 8 ∧ ∀ p, 0 ≤ p → p < n → t p ≠ -1 → v p < x0) ∨ ((0 ≤ r ∧ r < n) ∧ t r ≠ -1 ∧ x0 ≤ v r ∧ ∀ p, 0 ≤ p → p < n → t p ≠ -1 → v p ≤ v r ∧ (p < r → v p < v r))
theorem QB_one {t v : Int → Int} {x0 n r r' : Int} (h : QB t v x0 n r) (h' : QB t v x0 n r') : r = r' := by
  rcases h with ⟨h1, h2⟩ | ⟨⟨h1, h2⟩, h3, h4, h5⟩
  · rcases h' with ⟨g1, g2⟩ | ⟨⟨g1, g2⟩, g3, g4, g5⟩
    · rw [h1, g1]
    · have := h2 r' g1 g2 g3
      omega
  · rcases h' with ⟨g1, g2⟩ | ⟨⟨g1, g2⟩, g3, g4, g5⟩
    · have := g2 r h1 h2 h3
      omega
    · have x1 := h5 r' g1 g2 g3
      have x2 := g5 r h1 h2 h3
      rcases Int.lt_trichotomy r r' with z | z | z
      · have := x2.2 z
        omega
      · exact z
      · have := x1.2 z
        omega
theorem bestPlace_ok {o a b lead k : Int} {m : Nat} {P f : Int → Int} {G : Hp} (hV : PaperV P) (hk : k = ((m + 1 : Nat) : Int)) (hm : m + 1 ≤ 4) (a0 : 0 ≤ a) (a1 : a < 6) (b0 : 0 ≤ b) (b1 : b < 6) (hq : PK (G o 0) f) (hf : PV f) (hl : lead = ctn P a f - ctn P b f) (hC : PaperC G o P) : ok (cX_bestPlace o a b k lead G) (fun r => QB (fun p => tp P a p f) (fun p => - qv P m b a (ud f p (tp P a p f))) (- qv P m b a f) (P 0) r.1 ∧ CE (o + 1) G r.2) := by
  have h0 := hV.1
  have c1 := ctn_r hV a f
  have c2 := ctn_r hV b f
  unfold cX_bestPlace
  rw [w32_id (z := k - 1) (by omega) (by omega), w32_id (z := -lead) (by omega) (by omega)]
  refine ok_then (bestLead_ok hV m 5 b a (G o 0) (-lead) (k - 1) f G (by omega) (by omega) (by omega) b0 b1 a0 a1 hq hf (by omega) hC) fun r hr => ?_
  have hb0 := qv_r hV m b a f
  have hCr := hC.ce hr.2
  rw [hr.1, hCr.1.1, w32_id (z := - qv P m b a f) (by omega) (by omega), w32_id (z := P 0 - 1) (by omega) (by omega)]
  refine lp_dn (fun n i (s : Int × Int × Hp) => cX_bestPlace_L31 o a b k lead n s.1 s.2.1 i s.2.2) (fun i s => CE (o + 1) G s.2.2 ∧ -1 ≤ i ∧ i < P 0 ∧ ((s.1 = 8 ∧ s.2.1 = - qv P m b a f ∧ ∀ p, i < p → p < P 0 → tp P a p f ≠ -1 → - qv P m b a (ud f p (tp P a p f)) < - qv P m b a f) ∨ ((i < s.1 ∧ s.1 < P 0) ∧ tp P a s.1 f ≠ -1 ∧ s.2.1 = - qv P m b a (ud f s.1 (tp P a s.1 f)) ∧ - qv P m b a f ≤ s.2.1 ∧ ∀ p, i < p → p < P 0 → tp P a p f ≠ -1 → - qv P m b a (ud f p (tp P a p f)) ≤ s.2.1 ∧ (p < s.1 → - qv P m b a (ud f p (tp P a p f)) < s.2.1)))) ?_ ?_ (by omega) (by omega) (s := (8, - qv P m b a f, r.2)) ⟨hr.2, by omega, by omega, Or.inl ⟨rfl, rfl, fun p p0 p1 => by omega⟩⟩
  · intro n i s i0 hs ih
    obtain ⟨best, val, G1⟩ := s
    obtain ⟨g1, g2, g3, g4⟩ := hs
    simp only at g1 g4
    have hC1 := hC.ce g1
    have e0 : ∀ {G2 : Hp}, CE (o + 1) G G2 → G2 o 0 = G o 0 := fun h => h.1 _ _ (by omega) (by omega) (by omega)
    show ok (cX_bestPlace_L31 o a b k lead (n + 1) best val i G1) _
    rw [cX_bestPlace_L31, if_neg (by omega), wish_ok hC1 a0 a1 i0 (by omega), Option.bind_some, e0 g1, hq.2 i i0 (by omega), w32_id (z := i + (-1)) (by omega) (by omega), w32_id (z := k - 1) (by omega) (by omega)]
    refine ok_then (next_N hC1.2.2.1 hC1.nb) fun x hx => ?_
    have ht : x.1 = tp P a i f := hx.1
    have hx2 := g1.trans hx.2
    have hC2 := hC1.ce hx.2
    rw [ht, e0 hx2]
    refine ok_ite (fun e => ih (best, val, x.2) ⟨hx2, by omega, by omega, ?_⟩) (fun e => ?_)
    · rcases g4 with ⟨z1, z2, z3⟩ | ⟨⟨z1, z2⟩, z3, z4, z5, z6⟩
      · refine Or.inl ⟨z1, z2, fun p p0 p1 p2 => ?_⟩
        by_cases hp : p = i
        · rw [hp] at p2
          exact absurd e p2
        · exact z3 p (by omega) p1 p2
      · refine Or.inr ⟨⟨by show i - 1 < best; omega, z2⟩, z3, z4, z5, fun p p0 p1 p2 => ?_⟩
        by_cases hp : p = i
        · rw [hp] at p2
          exact absurd e p2
        · exact z6 p (by omega) p1 p2
    · have hst : 0 ≤ tp P a i f ∧ tp P a i f < 10 := by
        have := tw2_step (N := sl P 10) (f := f i) (t := wnP P a i) e
        exact ⟨this.1, this.2.1⟩
      have d1 := ctn_r hV a (ud f i (tp P a i f))
      have d2 := ctn_r hV b (ud f i (tp P a i f))
      rw [gain_ok hV hC2 hq a0 a1 b0 b1 i0 g3, Option.bind_some]
      have el : lead + (ctn P a (ud f i (tp P a i f)) - ctn P b (ud f i (tp P a i f)) - (ctn P a f - ctn P b f)) = ctn P a (ud f i (tp P a i f)) - ctn P b (ud f i (tp P a i f)) := by omega
      rw [el, w32_id (z := ctn P a (ud f i (tp P a i f)) - ctn P b (ud f i (tp P a i f))) (by omega) (by omega), w32_id (z := -(ctn P a (ud f i (tp P a i f)) - ctn P b (ud f i (tp P a i f)))) (by omega) (by omega)]
      refine ok_then (bestLead_ok hV m 5 b a _ _ (k - 1) (ud f i (tp P a i f)) x.2 (by omega) (by omega) (by omega) b0 b1 a0 a1 (PK_put hq i0 (by omega) hst.1 hst.2) (PV_ud hf hst.1 hst.2) (by omega) hC2) fun y hy => ?_
      have hb1 := qv_r hV m b a (ud f i (tp P a i f))
      rw [hy.1, w32_id (z := - qv P m b a (ud f i (tp P a i f))) (by omega) (by omega)]
      have hy2 := hx2.trans hy.2
      refine ok_ite (fun e3 => ih (i, _, y.2) ⟨hy2, by omega, by omega, Or.inr ⟨⟨by show i - 1 < i; omega, g3⟩, e, rfl, ?_, fun p p0 p1 p2 => ?_⟩⟩) (fun e3 => ih (best, val, y.2) ⟨hy2, by omega, by omega, ?_⟩)
      · show _ ≤ - qv P m b a (ud f i (tp P a i f))
        rcases g4 with ⟨z1, z2, z3⟩ | ⟨⟨z1, z2⟩, z3, z4, z5, z6⟩ <;> omega
      · show _ ≤ - qv P m b a (ud f i (tp P a i f)) ∧ (p < i → _)
        by_cases hp : p = i
        · rw [hp]
          exact ⟨by omega, fun z => by omega⟩
        · rcases g4 with ⟨z1, z2, z3⟩ | ⟨⟨z1, z2⟩, z3, z4, z5, z6⟩
          · have := z3 p (by omega) p1 p2
            exact ⟨by omega, fun z => by omega⟩
          · have := z6 p (by omega) p1 p2
            exact ⟨by omega, fun z => by omega⟩
      · rcases g4 with ⟨z1, z2, z3⟩ | ⟨⟨z1, z2⟩, z3, z4, z5, z6⟩
        · refine Or.inl ⟨z1, z2, fun p p0 p1 p2 => ?_⟩
          by_cases hp : p = i
          · rw [hp]
            omega
          · exact z3 p (by omega) p1 p2
        · refine Or.inr ⟨⟨by show i - 1 < best; omega, z2⟩, z3, z4, z5, fun p p0 p1 p2 => ?_⟩
          by_cases hp : p = i
          · rw [hp]
            show _ ≤ val ∧ (_ → _ < val)
            exact ⟨by omega, fun _ => by omega⟩
          · exact z6 p (by omega) p1 p2
  · intro n s hs
    obtain ⟨best, val, G1⟩ := s
    obtain ⟨g1, g2, g3, g4⟩ := hs
    simp only at g1 g4
    show ok (cX_bestPlace_L31 o a b k lead (n + 1) best val (-1) G1) _
    rw [cX_bestPlace_L31, if_pos (by omega)]
    refine ok_some ⟨?_, g1⟩
    rcases g4 with ⟨z1, z2, z3⟩ | ⟨⟨z1, z2⟩, z3, z4, z5, z6⟩
    · exact Or.inl ⟨z1, fun p p0 p1 p2 => z3 p (by omega) p1 p2⟩
    · refine Or.inr ⟨⟨by omega, z2⟩, z3, ?_, fun p p0 p1 p2 => ?_⟩
      · show _ ≤ - qv P m b a (ud f best (tp P a best f))
        omega
      · have := z6 p (by omega) p1 p2
        rw [z4] at this
        exact this
