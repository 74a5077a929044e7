-- the same by hand-written turns
def sgn (x w : Int) : Int := if x % 2 = 0 then w else -w
def QS (P : Int → Int) (b : Int) (f : Int → Int) (G : Hp) : Prop := MS P b G ∧ MN (sl P 10) G ∧ ∀ p, 0 ≤ p → p < 8 → G 207 p = f p
/-- only from x on -/
def Fq (x : Int) (G G' : Hp) : Prop := (∀ a j, a ≠ 207 → ¬ ((a = 216 ∨ a = 217 ∨ a = 218) ∧ x ≤ j) → ¬ (a = 201 ∧ j = 35) → G' a j = G a j) ∧ (1 ≤ x → G' 201 35 = G 201 35)
theorem Fq.refl (x : Int) (G : Hp) : Fq x G G := ⟨fun _ _ _ _ _ => rfl, fun _ => rfl⟩
theorem Fq.trans {x : Int} {G G' G'' : Hp} (h : Fq x G G') (h2 : Fq x G' G'') : Fq x G G'' := ⟨fun a j u v w => (h2.1 a j u v w).trans (h.1 a j u v w), fun z => (h2.2 z).trans (h.2 z)⟩
theorem Fq.up {x y : Int} {G G' : Hp} (h : Fq y G G') (xy : x ≤ y) (y1 : 1 ≤ y) : Fq x G G' := ⟨fun a j u v w => h.1 a j u (fun z => v ⟨z.1, by omega⟩) w, fun _ => h.2 y1⟩
theorem QS.fq {P : Int → Int} {b x : Int} {f g : Int → Int} {G G' : Hp} (h : QS P b f G) (hf : Fq x G G') (hg : ∀ p, 0 ≤ p → p < 8 → G' 207 p = g p) : QS P b g G' :=
  ⟨h.1.fr (fun j z => hf.1 _ _ (by omega) (by omega) (by omega)) (fun j => hf.1 _ _ (by omega) (by omega) (by omega)), h.2.1.fr (fun j => hf.1 _ _ (by omega) (by omega) (by omega)) (fun j => hf.1 _ _ (by omega) (by omega) (by omega)), hg⟩
theorem laysTurn_ok {x : Int} {G : Hp} (x0 : 0 ≤ x) (x1 : x < 5) : ok (mm_laysTurn x G) (fun G' => G' 216 x = -1 ∧ G' 218 x = 99999999 ∧ (∀ p, G' 207 p = G 207 p) ∧ Fq x G G') := by
  unfold mm_laysTurn
  refine ok_gd x0 x1 (ok_gd x0 x1 (ok_some ⟨?_, upd2_s, fun p => ?_, fun a j u v w => ?_, fun z => ?_⟩))
  · rw [upd2_o (by omega), upd2_s]
  · rw [upd2_o (by omega), upd2_o (by omega)]
  · rw [upd2_o (by omega), upd2_o (by omega)]
  · rw [upd2_o (by omega), upd2_o (by omega)]
theorem puts_ok {P f : Int → Int} {b x y who : Int} {G : Hp} (hV : PaperV P) (hS : QS P b f G) (hf : PV f) (x0 : 0 ≤ x) (x1 : x < 5) (y0 : 0 ≤ y) (y1 : y ≤ 8) (w0 : 0 ≤ who) (w1 : who < 6) : ok (mm_puts x y who G) (fun G' => G' 216 x = y ∧ (y < 8 → G' 217 x = f y) ∧ (∀ p, 0 ≤ p → p < 8 → G' 207 p = if y < 8 ∧ p = y then tp P who y f else f p) ∧ G' 218 x = G 218 x ∧ Fq x G G' ∧ G' 201 35 = G 201 35) := by
  unfold mm_puts
  refine ok_gd x0 x1 (ok_ite (fun e => ok_some ⟨upd2_s, fun z => by omega, fun p p0 p1 => ?_, upd2_o (by omega), ⟨fun a j u v w => ?_, fun z => ?_⟩, upd2_o (by omega)⟩) (fun e => ok_gd (by omega) (by omega) (ok_gd (by omega) (by omega) ?_)))
  · rw [upd2_o (by omega), if_neg (by omega)]
    exact hS.2.2 p p0 p1
  · rw [upd2_o (by omega)]
  · rw [upd2_o (by omega)]
  · have e1 : upd2 G 216 x y 207 y = f y := by rw [upd2_o (by omega)]; exact hS.2.2 y y0 (by omega)
    rw [e1]
    generalize hH : upd2 (upd2 G 216 x y) 217 x (f y) = H
    have fr : ∀ a j, ¬ (a = 216 ∧ j = x) → ¬ (a = 217 ∧ j = x) → H a j = G a j := fun a j u v => by rw [← hH, upd2_o (by omega), upd2_o (by omega)]
    have hq : Fq x G H := ⟨fun a j u v w => fr a j (fun z => v ⟨Or.inl z.1, by omega⟩) (fun z => v ⟨Or.inr (Or.inl z.1), by omega⟩), fun _ => fr _ _ (by omega) (by omega)⟩
    have hS' : QS P b f H := hS.fq hq fun p p0 p1 => by rw [fr _ _ (by omega) (by omega)]; exact hS.2.2 p p0 p1
    have hp : mm_putOf who y H = some (tp P who y f) := put_ok hV hS'.1 hS'.2.1 hf hS'.2.2 w0 w1 y0 (by omega)
    rw [hp, Option.bind_some]
    refine ok_gd (by omega) (by omega) (ok_some ⟨?_, fun _ => ?_, fun p p0 p1 => ?_, ?_, ⟨fun a j u v w => ?_, fun z => ?_⟩, ?_⟩)
    · rw [upd2_o (by omega), ← hH, upd2_o (by omega), upd2_s]
    · rw [upd2_o (by omega), ← hH, upd2_s]
    · by_cases hpy : p = y
      · rw [upd2_e rfl hpy, if_pos ⟨by omega, hpy⟩]
      · rw [upd2_o (by omega), if_neg (fun z => hpy z.2)]
        exact hS'.2.2 p p0 p1
    · rw [upd2_o (by omega)]
      exact fr _ _ (by omega) (by omega)
    · rw [upd2_o (by omega)]
      exact hq.1 a j u v w
    · rw [upd2_o (by omega)]
      exact hq.2 z
    · rw [upd2_o (by omega)]
      exact fr _ _ (by omega) (by omega)
theorem comes_ok {x y old u best : Int} {G : Hp} (x0 : 0 ≤ x) (x1 : x < 5) (hy : G 216 x = y) (y0 : 0 ≤ y) (y1 : y ≤ 8) (ho : y < 8 → G 217 x = old) (hb : -8 ≤ best ∧ best ≤ 8) (hc : G 218 x = 99999999 ∨ G 218 x = sgn x best) :
    ok (mm_comesBack x (sgn x u) G) (fun G' => (∀ p, 0 ≤ p → p < 8 → G' 207 p = if y < 8 ∧ p = y then old else G 207 p) ∧ (G 218 x = 99999999 ∨ best < u → G' 218 x = sgn x u ∧ (x = 0 → G' 201 35 = y)) ∧ (¬ (G 218 x = 99999999 ∨ best < u) → G' 218 x = G 218 x ∧ G' 201 35 = G 201 35) ∧ G' 216 x = y ∧ Fq x G G') := by
  have key : ∀ H : Hp, (∀ p, 0 ≤ p → p < 8 → H 207 p = if y < 8 ∧ p = y then old else G 207 p) → (∀ a j, a ≠ 207 → H a j = G a j) → ok (mm_comesBack_j28 x (sgn x u) H) (fun G' => (∀ p, 0 ≤ p → p < 8 → G' 207 p = if y < 8 ∧ p = y then old else G 207 p) ∧ (G 218 x = 99999999 ∨ best < u → G' 218 x = sgn x u ∧ (x = 0 → G' 201 35 = y)) ∧ (¬ (G 218 x = 99999999 ∨ best < u) → G' 218 x = G 218 x ∧ G' 201 35 = G 201 35) ∧ G' 216 x = y ∧ Fq x G G') := by
    intro H h7 hf
    have e8 : H 218 x = G 218 x := hf _ _ (by omega)
    have take : (G 218 x = 99999999 ∨ best < u) → ok (mm_comesBack_j70 x (sgn x u) H) (fun G' => (∀ p, 0 ≤ p → p < 8 → G' 207 p = if y < 8 ∧ p = y then old else G 207 p) ∧ (G 218 x = 99999999 ∨ best < u → G' 218 x = sgn x u ∧ (x = 0 → G' 201 35 = y)) ∧ (¬ (G 218 x = 99999999 ∨ best < u) → G' 218 x = G 218 x ∧ G' 201 35 = G 201 35) ∧ G' 216 x = y ∧ Fq x G G') := by
      intro hz
      unfold mm_comesBack_j70
      refine ok_gd x0 x1 (ok_ite (fun e => ok_some ⟨fun p p0 p1 => ?_, fun _ => ⟨?_, fun _ => ?_⟩, fun n => absurd hz n, ?_, fun a j s v w => ?_, fun z => by omega⟩) (fun e => ok_some ⟨fun p p0 p1 => ?_, fun _ => ⟨upd2_s, fun z => absurd z e⟩, fun n => absurd hz n, ?_, fun a j s v w => ?_, fun z => ?_⟩))
      · rw [upd2_o (by omega), upd2_o (by omega)]; exact h7 p p0 p1
      · rw [upd2_o (by omega), upd2_s]
      · rw [upd2_s, upd2_o (by omega), hf _ _ (by omega), ← e]; exact hy
      · rw [upd2_o (by omega), upd2_o (by omega), hf _ _ (by omega)]; exact hy
      · rw [upd2_o (by omega), upd2_o (by omega), hf _ _ s]
      · rw [upd2_o (by omega)]; exact h7 p p0 p1
      · rw [upd2_o (by omega), hf _ _ (by omega)]; exact hy
      · rw [upd2_o (by omega), hf _ _ s]
      · rw [upd2_o (by omega), hf _ _ (by omega)]
    have keep : ¬ (G 218 x = 99999999 ∨ best < u) → ok (some H) (fun G' => (∀ p, 0 ≤ p → p < 8 → G' 207 p = if y < 8 ∧ p = y then old else G 207 p) ∧ (G 218 x = 99999999 ∨ best < u → G' 218 x = sgn x u ∧ (x = 0 → G' 201 35 = y)) ∧ (¬ (G 218 x = 99999999 ∨ best < u) → G' 218 x = G 218 x ∧ G' 201 35 = G 201 35) ∧ G' 216 x = y ∧ Fq x G G') := fun hz => ok_some ⟨h7, fun n => absurd n hz, fun _ => ⟨e8, hf _ _ (by omega)⟩, (hf _ _ (by omega)).trans hy, fun a j s v w => hf _ _ s, fun _ => hf _ _ (by omega)⟩
    unfold mm_comesBack_j28
    rw [e8, irem_nn x0]
    refine ok_gd x0 x1 (ok_ite (fun e => take (Or.inl e)) (fun e => ?_))
    have hc2 : G 218 x = sgn x best := hc.resolve_left e
    refine ok_ite (fun e2 => ok_gd x0 x1 (ok_ite (fun e3 => keep ?_) (fun e3 => take ?_))) (fun e2 => ok_gd x0 x1 (ok_ite (fun e3 => keep ?_) (fun e3 => take ?_)))
    · rw [hc2] at e3 e ⊢
      unfold sgn at *
      rw [if_pos e2] at *
      rw [if_pos e2] at e3
      omega
    · rw [hc2] at e3 e ⊢
      unfold sgn at *
      rw [if_pos e2] at *
      rw [if_pos e2] at e3
      omega
    · rw [hc2] at e3 e ⊢
      unfold sgn at *
      rw [if_neg e2] at *
      rw [if_neg e2] at e3
      omega
    · rw [hc2] at e3 e ⊢
      unfold sgn at *
      rw [if_neg e2] at *
      rw [if_neg e2] at e3
      omega
  unfold mm_comesBack
  rw [hy]
  refine ok_gd x0 x1 (ok_ite (fun e => ok_gd x0 x1 (ok_gd x0 x1 (ok_gd y0 e ?_))) (fun e => key G (fun p p0 p1 => by rw [if_neg (by omega)]) fun _ _ _ => rfl))
  rw [ho e]
  refine key _ (fun p p0 p1 => ?_) fun a j z => upd2_o (by omega)
  by_cases hp : p = y
  · rw [upd2_e rfl hp, if_pos ⟨e, hp⟩]
  · rw [upd2_o (by omega), if_neg (fun z => hp z.2)]
