-- two who change by turns
def tp (P : Int → Int) (a p : Int) (f : Int → Int) : Int := tw2 (sl P 10) (f p) (wnP P a p)
def ud (f : Int → Int) (p w : Int) : Int → Int := fun j => if j = p then w else f j
def qm (t v : Int → Int) (x0 : Int) : Nat → Int
  | 0 => x0
  | n + 1 => if t (n : Int) = -1 then qm t v x0 n else max (qm t v x0 n) (v (n : Int))
theorem qm_s (t v : Int → Int) (x0 : Int) {i : Int} (h : 0 ≤ i) : qm t v x0 (i + 1).toNat = if t i = -1 then qm t v x0 i.toNat else max (qm t v x0 i.toNat) (v i) := by
  have e : (i + 1).toNat = i.toNat + 1 := by omega
  have e2 : ((i.toNat : Nat) : Int) = i := by omega
  rw [e]
  show (if t ((i.toNat : Nat) : Int) = -1 then qm t v x0 i.toNat else max (qm t v x0 i.toNat) (v ((i.toNat : Nat) : Int))) = _
  rw [e2]
theorem qm_r {t v : Int → Int} {x0 a b : Int} (h0 : a ≤ x0 ∧ x0 ≤ b) (hv : ∀ p, a ≤ v p ∧ v p ≤ b) : ∀ n : Nat, a ≤ qm t v x0 n ∧ qm t v x0 n ≤ b
  | 0 => h0
  | n + 1 => by
    have ih := qm_r (t := t) h0 hv n
    have h := hv (n : Int)
    show a ≤ (if t (n : Int) = -1 then qm t v x0 n else max (qm t v x0 n) (v (n : Int))) ∧ (if t (n : Int) = -1 then qm t v x0 n else max (qm t v x0 n) (v (n : Int))) ≤ b
    split <;> omega
def qv (P : Int → Int) : Nat → Int → Int → (Int → Int) → Int
  | 0, a, b, f => ctn P a f - ctn P b f
  | m + 1, a, b, f => qm (fun p => tp P a p f) (fun p => - qv P m b a (ud f p (tp P a p f))) (- qv P m b a f) (P 0).toNat
theorem qv_r {P : Int → Int} (hV : PaperV P) : ∀ (m : Nat) (a b : Int) (f : Int → Int), -8 ≤ qv P m a b f ∧ qv P m a b f ≤ 8
  | 0, a, b, f => by
    have h1 := ctn_r hV a f
    have h2 := ctn_r hV b f
    show -8 ≤ ctn P a f - ctn P b f ∧ ctn P a f - ctn P b f ≤ 8
    omega
  | m + 1, a, b, f => by
    have h := qv_r hV m b a f
    exact qm_r (by omega) (fun p => by have := qv_r hV m b a (ud f p (tp P a p f)); omega) _
theorem sm_ud {f g : Int → Int} {p : Int} (p0 : 0 ≤ p) : ∀ n : Nat, p < n → (∀ j : Int, 0 ≤ j → j < n → j ≠ p → g j = f j) → sm g n = sm f n + (g p - f p)
  | 0, h, _ => by omega
  | n + 1, h, hz => by
    show sm g n + g (n : Int) = sm f n + f (n : Int) + _
    by_cases q : p = (n : Int)
    · have : sm g n = sm f n := sm_congr fun j j0 j1 => hz j j0 (by omega) (by omega)
      rw [this, q]
      omega
    · rw [sm_ud p0 n (by omega) (fun j j0 j1 j2 => hz j j0 (by omega) j2), hz (n : Int) (by omega) (by omega) (by omega)]
      omega
theorem ctn_ud {P : Int → Int} {r p w : Int} {f : Int → Int} (p0 : 0 ≤ p) (p1 : p < P 0) : ctn P r (ud f p w) = ctn P r f + (b2i (decide (wnP P r p = w)) - b2i (decide (wnP P r p = f p))) := by
  unfold ctn
  rw [sm_ud (f := fun j => b2i (decide (P (32 + 8 * r + j) = f j))) (p := p) p0 _ (by omega) (fun j j0 j1 j2 => by
    unfold ud
    rw [if_neg j2])]
  have e : ud f p w p = w := if_pos rfl
  show _ + (b2i (decide (P (32 + 8 * r + p) = ud f p w p)) - _) = _
  rw [e]
  rfl
theorem leadAt_ok {G : Hp} {o a b p w : Int} {P : Int → Int} (hC : PaperC G o P) (a0 : 0 ≤ a) (a1 : a < 6) (b0 : 0 ≤ b) (b1 : b < 6) (p0 : 0 ≤ p) (p1 : p < 8) : cPa_leadAt o a b p w G = some (b2i (decide (wnP P a p = w)) - b2i (decide (wnP P b p = w))) := by
  apply ok_iff
  unfold cPa_leadAt cPa_leadAt_j16
  rw [wish_ok hC a0 a1 p0 p1, Option.bind_some]
  simp only [wish_ok hC b0 b1 p0 p1, Option.bind_some]
  have ea : P (32 + 8 * a + p) = wnP P a p := rfl
  have eb : P (32 + 8 * b + p) = wnP P b p := rfl
  rw [ea, eb]
  refine ok_ite (fun e => ok_ite (fun e2 => ok_some ?_) (fun e2 => ok_some ?_)) (fun e => ok_ite (fun e2 => ok_some ?_) (fun e2 => ok_some ?_))
  · rw [decide_eq_true e, decide_eq_true e2]; rfl
  · rw [decide_eq_true e, decide_eq_false e2]; rfl
  · rw [decide_eq_false e, decide_eq_true e2]; rfl
  · rw [decide_eq_false e, decide_eq_false e2]; rfl
theorem gain_ok {G : Hp} {o a b p q w : Int} {P f : Int → Int} (hV : PaperV P) (hC : PaperC G o P) (hq : PK q f) (a0 : 0 ≤ a) (a1 : a < 6) (b0 : 0 ≤ b) (b1 : b < 6) (p0 : 0 ≤ p) (p1 : p < P 0) : cPa_gain o a b p q w G = some ((ctn P a (ud f p w) - ctn P b (ud f p w)) - (ctn P a f - ctn P b f)) := by
  have h0 := hV.1
  unfold cPa_gain
  rw [leadAt_ok hC a0 a1 b0 b1 p0 (by omega), Option.bind_some, leadAt_ok hC a0 a1 b0 b1 p0 (by omega), Option.bind_some, hq.2 p p0 (by omega), ctn_ud p0 p1, ctn_ud p0 p1]
  have x1 := b2i_b (decide (wnP P a p = w))
  have x2 := b2i_b (decide (wnP P b p = w))
  have x3 := b2i_b (decide (wnP P a p = f p))
  have x4 := b2i_b (decide (wnP P b p = f p))
  rw [w32_id (by omega) (by omega)]
  congr 1
  omega
theorem PK_put {q p w : Int} {f : Int → Int} (hq : PK q f) (p0 : 0 ≤ p) (p1 : p < 8) (w0 : 0 ≤ w) (w1 : w < 10) : PK (cX_put q p w) (ud f p w) :=
  ⟨put_r _ _ _, fun j j0 j1 => by rw [wordAt_put p0 p1 w0 (by omega) j0 j1, hq.2 j j0 j1]; rfl⟩
theorem PV_ud {f : Int → Int} {p w : Int} (hf : PV f) (w0 : 0 ≤ w) (w1 : w < 10) : PV (ud f p w) := fun j j0 j1 => by
  unfold ud
  split
  · exact ⟨w0, w1⟩
  · exact hf j j0 j1
theorem bestLead_ok {o : Int} {P : Int → Int} (hV : PaperV P) : ∀ (m n : Nat) (a b q lead k : Int) (f : Int → Int) (G : Hp), m < n → k = (m : Int) → m ≤ 4 → 0 ≤ a → a < 6 → 0 ≤ b → b < 6 → PK q f → PV f → lead = ctn P a f - ctn P b f → PaperC G o P → ok (cX_bestLead n o a b k q lead G) (fun r => r.1 = qv P m a b f ∧ CE (o + 1) G r.2) := by
  have h0 := hV.1
  intro m
  induction m with
  | zero =>
    intro n a b q lead k f G hn hk hm a0 a1 b0 b1 hq hf hl hC
    obtain ⟨n', rfl⟩ : ∃ n', n = n' + 1 := ⟨n - 1, by omega⟩
    show ok (cX_bestLead_b n' (cX_bestLead n') o a b k q lead G) _
    unfold cX_bestLead_b
    rw [if_neg (by omega)]
    exact ok_some ⟨hl, CE.refl hC.2.2.1⟩
  | succ m ih =>
    intro n a b q lead k f G hn hk hm a0 a1 b0 b1 hq hf hl hC
    obtain ⟨n', rfl⟩ : ∃ n', n = n' + 1 := ⟨n - 1, by omega⟩
    have c1 := ctn_r hV a f
    have c2 := ctn_r hV b f
    show ok (cX_bestLead_b n' (cX_bestLead n') o a b k q lead G) _
    unfold cX_bestLead_b
    rw [if_pos (by omega), w32_id (z := k - 1) (by omega) (by omega), w32_id (z := -lead) (by omega) (by omega)]
    refine ok_then (ih n' b a q (-lead) (k - 1) f G (by omega) (by omega) (by omega) b0 b1 a0 a1 hq hf (by omega) hC) fun r hr => ?_
    have hb0 := qv_r hV m b a f
    rw [hr.1, w32_id (z := - qv P m b a f) (by omega) (by omega)]
    refine lp_up (fun n2 i (s : Int × Hp) => cX_bestLead_L27 n' (cX_bestLead n') o a b k q lead n2 s.1 i s.2) (P 0) (fun i s => s.1 = qm (fun p => tp P a p f) (fun p => - qv P m b a (ud f p (tp P a p f))) (- qv P m b a f) i.toNat ∧ CE (o + 1) G s.2) ?_ ?_ (by omega) (by omega) (by omega) (s := (- qv P m b a f, r.2)) ⟨rfl, hr.2⟩
    · intro n2 i s i0 i1 hs ih2
      obtain ⟨best, G1⟩ := s
      obtain ⟨g1, g2⟩ := hs
      simp only at g1 g2
      have hC1 := hC.ce g2
      have hqs := qm_s (fun p => tp P a p f) (fun p => - qv P m b a (ud f p (tp P a p f))) (- qv P m b a f) i0
      have hqr := qm_r (t := fun p => tp P a p f) (v := fun p => - qv P m b a (ud f p (tp P a p f))) (x0 := - qv P m b a f) (a := -8) (b := 8) (by omega) (fun p => by have := qv_r hV m b a (ud f p (tp P a p f)); omega) i.toNat
      rw [← g1] at hqs hqr
      show ok (cX_bestLead_L27 n' (cX_bestLead n') o a b k q lead (n2 + 1) best i G1) _
      rw [cX_bestLead_L27, hC1.1.1, if_pos i1, wish_ok hC1 a0 a1 i0 (by omega), Option.bind_some, hq.2 i i0 (by omega), w32_id (z := i + 1) (by omega) (by omega), w32_id (z := k - 1) (by omega) (by omega)]
      refine ok_then (next_N hC1.2.2.1 hC1.nb) fun x hx => ?_
      have ht : x.1 = tp P a i f := hx.1
      have hC2 := hC1.ce hx.2
      rw [ht]
      refine ok_ite (fun e => ih2 (best, x.2) ⟨?_, g2.trans hx.2⟩) (fun e => ?_)
      · show best = _
        rw [hqs, if_pos e]
      · have hst : 0 ≤ tp P a i f ∧ tp P a i f < 10 := by
          have := tw2_step (N := sl P 10) (f := f i) (t := wnP P a i) e
          exact ⟨this.1, this.2.1⟩
        have d1 := ctn_r hV a (ud f i (tp P a i f))
        have d2 := ctn_r hV b (ud f i (tp P a i f))
        rw [gain_ok hV hC2 hq a0 a1 b0 b1 i0 i1, Option.bind_some, hl]
        rw [w32_id (z := ctn P a f - ctn P b f + (ctn P a (ud f i (tp P a i f)) - ctn P b (ud f i (tp P a i f)) - (ctn P a f - ctn P b f))) (by omega) (by omega), w32_id (z := -(ctn P a f - ctn P b f + (ctn P a (ud f i (tp P a i f)) - ctn P b (ud f i (tp P a i f)) - (ctn P a f - ctn P b f)))) (by omega) (by omega)]
        refine ok_then (ih n' b a _ _ (k - 1) (ud f i (tp P a i f)) x.2 (by omega) (by omega) (by omega) b0 b1 a0 a1 (PK_put hq i0 (by omega) hst.1 hst.2) (PV_ud hf hst.1 hst.2) (by omega) hC2) fun y hy => ?_
        have hb1 := qv_r hV m b a (ud f i (tp P a i f))
        rw [hy.1, w32_id (z := - qv P m b a (ud f i (tp P a i f))) (by omega) (by omega)]
        have hcont := ih2 (max best (- qv P m b a (ud f i (tp P a i f))), y.2) ⟨by show max best _ = _; rw [hqs, if_neg e], (g2.trans hx.2).trans hy.2⟩
        rw [hl] at hcont
        exact hcont
    · intro n2 s hs
      obtain ⟨best, G1⟩ := s
      obtain ⟨g1, g2⟩ := hs
      simp only at g1 g2
      have hC1 := hC.ce g2
      show ok (cX_bestLead_L27 n' (cX_bestLead n') o a b k q lead (n2 + 1) best (P 0) G1) _
      rw [cX_bestLead_L27, hC1.1.1, if_neg (by omega)]
      exact ok_some ⟨g1, g2⟩
