def whoAt (a b x : Int) : Int := if x % 2 = 0 then a else b
def Uq (P : Int → Int) (a b x : Int) (m : Nat) (f : Int → Int) : Int := qv P m (whoAt a b x) (whoAt a b (x + 1)) f
def Cq : Nat → Nat
  | 0 => 1
  | m + 1 => 9 * (1 + Cq m) + 1
theorem whoAt_2 (a b x : Int) : whoAt a b (x + 1 + 1) = whoAt a b x := by
  unfold whoAt
  by_cases h : x % 2 = 0
  · rw [if_pos h, if_pos (by omega)]
  · rw [if_neg h, if_neg (by omega)]
theorem sgn_s (x w : Int) : sgn (x + 1) w = sgn x (-w) := by
  unfold sgn
  by_cases h : x % 2 = 0
  · rw [if_pos h, if_neg (by omega)]
  · rw [if_neg h, if_pos (by omega)]
    omega
theorem qm_max {t v : Int → Int} {x0 : Int} : ∀ n : Nat, x0 ≤ qm t v x0 n ∧ (∀ p : Int, 0 ≤ p → p < n → t p ≠ -1 → v p ≤ qm t v x0 n) ∧ (qm t v x0 n = x0 ∨ ∃ p : Int, (0 ≤ p ∧ p < n) ∧ t p ≠ -1 ∧ qm t v x0 n = v p)
  | 0 => ⟨Int.le_refl _, fun p p0 p1 => by omega, Or.inl rfl⟩
  | n + 1 => by
    obtain ⟨h1, h2, h3⟩ := qm_max (t := t) (v := v) (x0 := x0) n
    have e : qm t v x0 (n + 1) = if t (n : Int) = -1 then qm t v x0 n else max (qm t v x0 n) (v (n : Int)) := rfl
    rw [e]
    by_cases q : t (n : Int) = -1
    · rw [if_pos q]
      refine ⟨h1, fun p p0 p1 p2 => ?_, ?_⟩
      · by_cases hp : p = (n : Int)
        · rw [hp] at p2
          exact absurd q p2
        · exact h2 p p0 (by omega) p2
      · rcases h3 with h3 | ⟨p, p0, p1, p2⟩
        · exact Or.inl h3
        · exact Or.inr ⟨p, ⟨p0.1, by omega⟩, p1, p2⟩
    · rw [if_neg q]
      refine ⟨by omega, fun p p0 p1 p2 => ?_, ?_⟩
      · by_cases hp : p = (n : Int)
        · rw [hp]
          omega
        · have := h2 p p0 (by omega) p2
          omega
      · by_cases hm : qm t v x0 n ≤ v (n : Int)
        · exact Or.inr ⟨(n : Int), ⟨by omega, by omega⟩, q, by omega⟩
        · rcases h3 with h3 | ⟨p, p0, p1, p2⟩
          · exact Or.inl (by omega)
          · exact Or.inr ⟨p, ⟨p0.1, by omega⟩, p1, by omega⟩
theorem QB_qm {t v : Int → Int} {x0 n r : Int} (n0 : 0 ≤ n) (n8 : n ≤ 8) (h : QB t v x0 n r) : qm t v x0 n.toNat = if r = 8 then x0 else v r := by
  obtain ⟨h1, h2, h3⟩ := qm_max (t := t) (v := v) (x0 := x0) n.toNat
  rcases h with ⟨g1, g2⟩ | ⟨⟨g1, g2⟩, g3, g4, g5⟩
  · rw [if_pos g1]
    rcases h3 with h3 | ⟨p, p0, p1, p2⟩
    · exact h3
    · have := g2 p p0.1 (by omega) p1
      omega
  · rw [if_neg (by omega)]
    have x1 := h2 r g1 (by omega) g3
    rcases h3 with h3 | ⟨p, p0, p1, p2⟩
    · omega
    · have := (g5 p p0.1 (by omega) p1).1
      omega
def PBm (t v : Int → Int) (x0 n i x : Int) (G : Hp) : Prop :=
  (G 218 x = 99999999 ∧ i < 8 ∧ ∀ p, 0 ≤ p → p ≤ i → p < n → t p = -1) ∨ ∃ r best, (0 ≤ r ∧ r ≤ i) ∧ G 218 x = sgn x best ∧ (-8 ≤ best ∧ best ≤ 8) ∧ (x = 0 → G 201 35 = r) ∧ (∀ p, 0 ≤ p → p ≤ i → p < n → t p ≠ -1 → v p ≤ best ∧ (p < r → v p < best)) ∧ ((r < 8 ∧ r < n ∧ t r ≠ -1 ∧ best = v r ∧ (i = 8 → x0 ≤ best)) ∨ (r = 8 ∧ best = x0))
theorem PBm_end {t v : Int → Int} {x0 n x : Int} {G : Hp} (n8 : n ≤ 8) (h : PBm t v x0 n 8 x G) : ∃ r, QB t v x0 n r ∧ G 218 x = sgn x (if r = 8 then x0 else v r) ∧ (x = 0 → G 201 35 = r) := by
  rcases h with ⟨_, h, _⟩ | ⟨r, best, h1, h2, h3, h4, h5, h6⟩
  · omega
  · refine ⟨r, ?_, ?_, h4⟩
    · rcases h6 with ⟨g1, g2, g3, g4, g5⟩ | ⟨g1, g2⟩
      · refine Or.inr ⟨⟨h1.1, g2⟩, g3, by rw [← g4]; exact g5 rfl, fun p p0 p1 p2 => ?_⟩
        rw [← g4]
        exact h5 p p0 (by omega) p1 p2
      · refine Or.inl ⟨g1, fun p p0 p1 p2 => ?_⟩
        rw [← g2]
        exact (h5 p p0 (by omega) p1 p2).2 (by omega)
    · rcases h6 with ⟨g1, g2, g3, g4, g5⟩ | ⟨g1, g2⟩
      · rw [if_neg (by omega), ← g4]; exact h2
      · rw [if_pos g1, ← g2]; exact h2
theorem scan_ok {r1 r2 D x who i b : Int} {P f : Int → Int} {G : Hp} {K : Int → Option (Int × Hp)} {Q : Int × Hp → Prop} (hV : PaperV P) (hS : QS P b f G) (hf : PV f) (w0 : 0 ≤ who) (w1 : who < 6) (i0 : -1 ≤ i) (i1 : i < 8)
    (h1 : ∀ y, i < y → y < P 0 → tp P who y f ≠ -1 → (∀ p, i < p → p < y → p < P 0 → tp P who p f = -1) → ok (K y) Q)
    (h2 : (∀ p, i < p → p < 8 → p < P 0 → tp P who p f = -1) → ok (K 8) Q) : ok (mm_quarrelOf_L49 r1 r2 D x who G K FU (i + 1)) Q := by
  have h0 := hV.1
  refine lp_up (fun n j (_ : Unit) => mm_quarrelOf_L49 r1 r2 D x who G K n j) 8 (fun j _ => i + 1 ≤ j ∧ ∀ p, i < p → p < j → p < P 0 → tp P who p f = -1) ?_ ?_ (by omega) (by omega) (by omega) (s := ()) ⟨by omega, fun p p0 p1 => by omega⟩
  · intro n j s j0 j1 hs ih
    have skip : (j < P 0 → tp P who j f = -1) → ok (mm_quarrelOf_L49 r1 r2 D x who G K n (j + 1)) Q := fun z => ih () ⟨by omega, fun p p0 p1 p2 => by
      by_cases hp : p = j
      · rw [hp]; exact z (by omega)
      · exact hs.2 p p0 (by omega) p2⟩
    have hp : mm_putOf who j G = some (tp P who j f) := put_ok hV hS.1 hS.2.1 hf hS.2.2 w0 w1 j0 j1
    show ok (mm_quarrelOf_L49 r1 r2 D x who G K (n + 1) j) _
    rw [mm_quarrelOf_L49, if_pos j1, isPlace_ok hV hS.1, Option.bind_some, w32_id (z := j + 1) (by omega) (by omega), hp, Option.bind_some]
    by_cases q : 0 ≤ j ∧ j < P 0
    · rw [decide_eq_true q, if_tt]
      exact ok_ite (fun e => skip fun _ => e) (fun e => h1 j (by omega) q.2 e hs.2)
    · rw [decide_eq_false q, if_ff]
      exact skip fun z => absurd ⟨j0, z⟩ q
  · intro n s hs
    show ok (mm_quarrelOf_L49 r1 r2 D x who G K (n + 1) 8) _
    rw [mm_quarrelOf_L49, if_neg (by omega)]
    exact h2 hs.2
