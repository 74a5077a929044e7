theorem cnt_uniq {fit : Int → Bool} {i j : Int} (i0 : 0 ≤ i) (j0 : 0 ≤ j) (hi : fit i = true) (hj : fit j = true) (h : cntF fit i.toNat = cntF fit j.toNat) : i = j := by
  have si := cntF_s (fit := fit) i0
  have sj := cntF_s (fit := fit) j0
  rw [if_pos hi] at si
  rw [if_pos hj] at sj
  rcases Int.lt_trichotomy i j with z | z | z
  · have := cntF_le (fit := fit) (i := i + 1) (j := j) (by omega)
    omega
  · exact z
  · have := cntF_le (fit := fit) (i := j + 1) (j := i) (by omega)
    omega
/-- the sought one's number -/
def FdV (P : Int → Int) (fit : Int → Bool) (a : Int) (k x : Int) : Prop := (∃ j, 0 ≤ j ∧ j < k ∧ fit j = true ∧ cntF fit j.toNat = a ∧ x = dgF (rk (P 1).toNat j) (P 1).toNat) ∨ ((∀ j, 0 ≤ j → j < k → fit j = true → cntF fit j.toNat ≠ a) ∧ x = -2)
theorem FM.mh {P : Int → Int} {fit : Int → Bool} {k : Int} {G G' : Hp} (h : FM P fit k G) (hm : Mh G G') : FM P fit k G' := by
  have hf : ∀ a j, a = 201 ∧ 40 ≤ j ∧ j ≤ 42 ∨ a = 221 ∨ a = 222 ∨ a = 223 → G' a j = G a j := fun a j q => hm a j (by omega) (by omega) (by omega) (by omega) (by omega)
  obtain ⟨⟨f0, f1, f2⟩, f3, f4, f5⟩ := h
  refine ⟨⟨?_, ?_, ?_⟩, fun i i0 i1 => ?_, fun p w p0 p1 w0 w1 => ?_, fun a b a0 a1 b0 b1 => ?_⟩
  · rw [hf _ _ (by omega)]; exact f0
  · rw [hf _ _ (by omega)]; exact f1
  · rw [hf _ _ (by omega)]; exact f2
  · rw [hf _ _ (by omega)]; exact f3 i i0 i1
  · rw [hf _ _ (by omega)]; exact f4 p w p0 p1 w0 w1
  · rw [hf _ _ (by omega)]; exact f5 a b a0 a1 b0 b1
theorem FM.fr {P : Int → Int} {fit : Int → Bool} {k : Int} {G G' : Hp} (h : FM P fit k G) (hf : ∀ a j, a ≠ 213 → G' a j = G a j) : FM P fit k G' := by
  obtain ⟨⟨f0, f1, f2⟩, f3, f4, f5⟩ := h
  refine ⟨⟨?_, ?_, ?_⟩, fun i i0 i1 => ?_, fun p w p0 p1 w0 w1 => ?_, fun a b a0 a1 b0 b1 => ?_⟩
  · rw [hf _ _ (by omega)]; exact f0
  · rw [hf _ _ (by omega)]; exact f1
  · rw [hf _ _ (by omega)]; exact f2
  · rw [hf _ _ (by omega)]; exact f3 i i0 i1
  · rw [hf _ _ (by omega)]; exact f4 p w p0 p1 w0 w1
  · rw [hf _ _ (by omega)]; exact f5 a b a0 a1 b0 b1
theorem laysFits_ok {a b b0 : Int} {P Lg : Int → Int} {G : Hp} (hV : PaperV P) (hL : LogV Lg) (hM : MW P (sl P 10) b G) (h39 : G 201 39 = b0) (hb : 1012 ≤ b0 ∧ b0 ≤ 1029) (hA : ∀ j, 0 ≤ j → j < 17 → G 202 (b0 + j) = Lg j) :
    ok (mm_laysFits a G) (fun x => FdV P (ftB P Lg) a (PRm (P 1).toNat) x.1 ∧ FM P (ftB P Lg) (PRm (P 1).toNat) x.2 ∧ MW P (sl P 10) b x.2 ∧ Mq G x.2) := by
  have h1 := hV.2.1
  have hN : (P 1).toNat ≤ 6 := by omega
  have hMr := PRm_r hN
  unfold mm_laysFits
  refine ok_then (noFits_ok (fit := ftB P Lg) h1.2) fun G1 hG1 => ok_then firstRow_ok fun G2 hG2 => ?_
  have hM1 := hM.fo hG1.2
  refine lp_up (fun n k (s : Int × Int × Hp) => mm_laysFits_L13 a n s.1 s.2.1 s.2.2) (PRm (P 1).toNat) (fun k s => (MW P (sl P 10) b s.2.2 ∧ Mq G s.2.2 ∧ s.2.2 201 39 = b0) ∧ FM P (ftB P Lg) k s.2.2 ∧ FdV P (ftB P Lg) a k s.1 ∧ (k < PRm (P 1).toNat → s.2.1 = 1 ∧ RwM s.2.2 P k) ∧ (k = PRm (P 1).toNat → s.2.1 = 0)) ?_ ?_ (i := 0) (by omega) (by omega) (by omega) (s := (-2, 1, G2)) ⟨⟨hM1.fr fun x j z => hG2.2 x j (by omega), hG1.2.mq.trans (Mq.fr fun j => ⟨hG2.2 _ _ (by omega), hG2.2 _ _ (by omega)⟩), ?_⟩, hG1.1.fr hG2.2, Or.inr ⟨fun j j0 j1 => by omega, rfl⟩, fun _ => ⟨rfl, fun i i0 i1 => ?_⟩, fun q => by omega⟩
  · intro n k s k0 k1 hI ih
    obtain ⟨x2, goes, G3⟩ := s
    obtain ⟨⟨q1, q2, q3⟩, q4, q5, q6, -⟩ := hI
    obtain ⟨q6, q7⟩ := q6 k1
    simp only at q1 q2 q3 q4 q5 q6 q7
    show ok (mm_laysFits_L13 a (n + 1) x2 goes G3) _
    rw [mm_laysFits_L13, if_neg (by omega)]
    refine ok_then (readsRk hV q1 k0 k1 q7) fun y hy => ?_
    obtain ⟨y1, y2, y3, y4, y5⟩ := hy
    have y39 : y.2 201 39 = b0 := by rw [y5 _ _ (by omega) (by omega) (by omega) (by omega) (by omega)]; exact q3
    have y202 : ∀ j, 0 ≤ j → j < 17 → y.2 202 (b0 + j) = Lg j := fun j j0 j1 => by
      rw [(q2.trans y5.mq).1]
      exact hA j j0 j1
    have hFy := q4.mh y5
    have nxt : ∀ (x3 : Int) (G4 : Hp), MW P (sl P 10) b G4 → Mq G G4 → G4 201 39 = b0 → RwM G4 P k → FM P (ftB P Lg) (k + 1) G4 → FdV P (ftB P Lg) a (k + 1) x3 → ok (mm_laysFits_j49 a (mm_laysFits_L13 a n) x3 G4) (fun x => FdV P (ftB P Lg) a (PRm (P 1).toNat) x.1 ∧ FM P (ftB P Lg) (PRm (P 1).toNat) x.2 ∧ MW P (sl P 10) b x.2 ∧ Mq G x.2) := by
      intro x3 G4 p1 p2 p3 p4 p5 p6
      unfold mm_laysFits_j49
      refine ok_then (nextM hV p1 k0 k1 p4) fun z hz => ih (x3, b2i z.1, z.2) ⟨⟨hz.1, p2.trans (Mq.fr fun j => ⟨hz.2.1 _ _ (by omega), hz.2.1 _ _ (by omega)⟩), ?_⟩, p5.fr hz.2.1, p6, fun q => ?_, fun q => ?_⟩
      · show z.2 201 39 = b0
        rw [hz.2.1 _ _ (by omega)]
        exact p3
      · obtain ⟨z1, z2⟩ := hz.2.2.1 q
        exact ⟨by show b2i z.1 = 1; rw [z1]; rfl, z2⟩
      · show b2i z.1 = 0
        rw [hz.2.2.2 q]
        rfl
    have sC := cntF_s (fit := ftB P Lg) k0
    rw [isSo_ok (k := k) hV hL y2 y39 hb y202 y3, Option.bind_some, y1]
    refine ok_ite (fun e => ?_) (fun e => ?_)
    · have lay : ∀ x3 : Int, FdV P (ftB P Lg) a (k + 1) x3 → ok (mm_laysFits_j43 a (mm_laysFits_j49 a (mm_laysFits_L13 a n)) x3 (cA P k) y.2) (fun x => FdV P (ftB P Lg) a (PRm (P 1).toNat) x.1 ∧ FM P (ftB P Lg) (PRm (P 1).toNat) x.2 ∧ MW P (sl P 10) b x.2 ∧ Mq G x.2) := by
        intro x3 hx3
        unfold mm_laysFits_j43
        refine ok_then (laysFit_ok hV y2 k0 k1 e y4 y3 hFy) fun G4 hG4 => nxt x3 G4 (y2.fo hG4.2) ((q2.trans y5.mq).trans hG4.2.mq) (by rw [hG4.2 _ _ (by omega) (by omega) (by omega) (by omega)]; exact y39) (fun i i0 i1 => by rw [hG4.2 _ _ (by omega) (by omega) (by omega) (by omega)]; exact y4 i i0 i1) hG4.1 hx3
      rw [hFy.1.1]
      refine ok_ite (fun e2 => ?_) (fun e2 => lay x2 ?_)
      · rw [numberOf_ok hV y2 k0 k1 y4, Option.bind_some]
        exact lay _ (Or.inl ⟨k, k0, by omega, e, e2, rfl⟩)
      · rcases q5 with ⟨j, j0, j1, j2, j3, j4⟩ | ⟨j1, j2⟩
        · exact Or.inl ⟨j, j0, by omega, j2, j3, j4⟩
        · refine Or.inr ⟨fun j j0 j3 j4 => ?_, j2⟩
          by_cases hj : j = k
          · rw [hj]; exact e2
          · exact j1 j j0 (by omega) j4
    · refine nxt x2 y.2 y2 (q2.trans y5.mq) y39 y4 ?_ ?_
      · obtain ⟨⟨f0, f1, f2⟩, f3, f4, f5⟩ := hFy
        have sk : ∀ {α : Type} (st : α → Int → α) (a : α), fF (ftB P Lg) st a (k + 1).toNat = fF (ftB P Lg) st a k.toNat := fun st a => by rw [fF_s k0, if_neg e]
        refine ⟨⟨?_, ?_, ?_⟩, fun i i0 i1 => ?_, fun p w p0 p1 w0 w1 => ?_, fun a b a0 a1 b0 b1 => ?_⟩
        · rw [sC, if_neg e]; exact f0
        · rw [sk]; exact f1
        · rw [sk]; exact f2
        · rw [sk]; exact f3 i i0 i1
        · rw [sk]; exact f4 p w p0 p1 w0 w1
        · rw [sk]; exact f5 a b a0 a1 b0 b1
      · rcases q5 with ⟨j, j0, j1, j2, j3, j4⟩ | ⟨j1, j2⟩
        · exact Or.inl ⟨j, j0, by omega, j2, j3, j4⟩
        · refine Or.inr ⟨fun j j0 j3 j4 => ?_, j2⟩
          by_cases hj : j = k
          · rw [hj] at j4; exact absurd j4 e
          · exact j1 j j0 (by omega) j4
  · intro n s hI
    obtain ⟨x2, goes, G3⟩ := s
    obtain ⟨⟨q1, q2, q3⟩, q4, q5, -, q6⟩ := hI
    have q6 : goes = 0 := q6 rfl
    show ok (mm_laysFits_L13 a (n + 1) x2 goes G3) _
    rw [mm_laysFits_L13, if_pos q6]
    exact ok_some ⟨q5, q4, q1, q2⟩
  · show G2 201 39 = b0
    rw [hG2.2 _ _ (by omega), hG1.2 _ _ (by omega) (by omega) (by omega) (by omega)]
    exact h39
  · show G2 213 i = _
    rw [hG2.1 i i0 (by omega), rk_0 hN i0 i1]
theorem askOf_ok {b : Int} {P Lg : Int → Int} {G : Hp} (hV : PaperV P) (hM : MW P (sl P 10) b G) (hF : FM P (ftB P Lg) (PRm (P 1).toNat) G) : mm_askOf G = some (akV P Lg) := by
  apply ok_iff
  have h0 := hV.1
  have h1 := hV.2.1
  have hMr := PRm_r (show (P 1).toNat ≤ 6 by omega)
  unfold mm_askOf akV
  refine lp_up (fun n i (s : Int × Int) => mm_askOf_L8 G n s.1 s.2 i) (P 0) (fun i s => s.1 = (if 0 < cntF (ftB P Lg) (PRm (P 1).toNat).toNat then akF (alk P Lg) i.toNat else -1) ∧ (0 < cntF (ftB P Lg) (PRm (P 1).toNat).toNat → s.2 = if s.1 = -1 then 99999999 else alk P Lg s.1)) ?_ ?_ (by omega) (by omega) (by omega) (s := (-1, 99999999)) ⟨by split <;> rfl, fun _ => rfl⟩
  · intro n i s i0 i1 hI ih
    obtain ⟨best, least⟩ := s
    obtain ⟨g1, g2⟩ := hI
    simp only at g1 g2
    show ok (mm_askOf_L8 G (n + 1) best least i) _
    rw [mm_askOf_L8, hM.1.1.2.1, if_pos i1, hF.1.1]
    by_cases hc : 0 < cntF (ftB P Lg) (PRm (P 1).toNat).toNat
    · rw [if_pos hc]
      rw [if_pos hc] at g1
      have g2' := g2 hc
      have hs := akF_s (alk P Lg) i0
      have hr := akF_r (alk P Lg) i.toNat
      have ha := alk_r (Lg := Lg) hV i
      rw [← g1] at hs hr
      refine lp_up (fun n2 w (x : Int) => mm_askOf_L29 G best least i (fun x4_78 => if least ≤ x4_78 then mm_askOf_L8 G n best least (w32 (i + 1)) else mm_askOf_L8 G n i x4_78 (w32 (i + 1))) n2 x w) 10 (fun w x => x = mxS (fun w => fF (ftB P Lg) (wcA P i w) 0 (PRm (P 1).toNat).toNat) w.toNat) ?_ ?_ (by omega) (by omega) (by omega) (s := 0) rfl
      · intro n2 w x w0 w1 hx ih2
        have hs2 := mxS_s (fun w => fF (ftB P Lg) (wcA P i w) 0 (PRm (P 1).toNat).toNat) w0
        have e222 := hF.2.2.1 i w i0 (by omega) w0 w1
        rw [if_pos i1] at e222
        rw [← hx] at hs2
        show ok (mm_askOf_L29 G best least i _ (n2 + 1) x w) _
        rw [mm_askOf_L29, if_pos w1, w32_id (z := 10 * i) (by omega) (by omega), w32_id (z := 10 * i + w) (by omega) (by omega), gd_ok (by omega) (by omega), gd_ok (by omega) (by omega), w32_id (z := w + 1) (by omega) (by omega), e222]
        refine ok_ite (fun e => ih2 _ ?_) (fun e => ih2 _ ?_)
        · rw [hs2]; omega
        · rw [hs2]; omega
      · intro n2 x hx
        have hx2 : x = alk P Lg i := hx
        show ok (mm_askOf_L29 G best least i _ (n2 + 1) x 10) _
        rw [mm_askOf_L29, if_neg (by omega), w32_id (z := i + 1) (by omega) (by omega), hx2]
        refine ok_ite (fun e => ih (best, least) ⟨?_, fun _ => g2'⟩) (fun e => ih (i, _) ⟨?_, fun _ => ?_⟩)
        · show best = _
          rw [if_pos hc, hs]
          by_cases q : best = -1
          · rw [if_pos q] at g2'
            omega
          · rw [if_neg q] at g2'
            rw [if_neg (fun z => z.elim q (fun z => by omega))]
        · show i = _
          rw [if_pos hc, hs]
          by_cases q : best = -1
          · rw [if_pos (Or.inl q)]
          · rw [if_neg q] at g2'
            rw [if_pos (Or.inr (by omega))]
        · show alk P Lg i = if i = -1 then 99999999 else alk P Lg i
          rw [if_neg (by omega)]
    · rw [if_neg hc]
      rw [if_neg hc] at g1
      exact ok_some (by rw [if_neg hc]; exact g1)
  · intro n s hI
    obtain ⟨best, least⟩ := s
    obtain ⟨g1, g2⟩ := hI
    show ok (mm_askOf_L8 G (n + 1) best least (P 0)) _
    rw [mm_askOf_L8, hM.1.1.2.1, if_neg (by omega)]
    exact ok_some g1
