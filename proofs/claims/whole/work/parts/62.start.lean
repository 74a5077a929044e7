theorem PV_z : PV (fun _ => (0 : Int)) := fun p p0 p1 => ⟨Int.le_refl 0, by show (0 : Int) < 10; omega⟩
theorem NW_z : NW (fun _ => (0 : Int)) := ⟨fun w _ _ => Mk.zero 10, fun v w _ _ _ _ => by show bt 0 w = bt 0 v; rw [bt_zero, bt_zero], fun w _ _ => bt_zero w⟩
theorem PK_z : PK 0 (fun _ => 0) := by
  have h : ∀ p : Fin 8, cX_wordAt 0 (p.val : Int) = 0 := by decide +kernel
  refine ⟨by unfold r32; omega, fun p p0 p1 => ?_⟩
  have := h ⟨p.toNat, by omega⟩
  have e : ((p.toNat : Nat) : Int) = p := by omega
  simp only [e] at this
  exact this
theorem z_paper {o : Int} (ho : o = 7 ∨ o = 22) : PaperV (fun _ => 0) ∧ PaperC G00 o (fun _ => 0) := by
  have z : ∀ a j : Int, o ≤ a → a ≤ o + 7 → G00 a j = 0 := fun a j x y => by
    unfold G00
    rw [if_neg (by omega), if_neg (by omega)]
  refine ⟨⟨⟨Int.le_refl 0, (by decide : (0 : Int) ≤ 8)⟩, ⟨Int.le_refl 0, (by decide : (0 : Int) ≤ 6)⟩, ⟨PV_z, fun _ _ _ => rfl⟩, NW_z, fun r _ _ => ⟨Int.le_refl 0, (by decide : (0 : Int) ≤ 9), Int.le_refl 0, (by decide : (0 : Int) ≤ 9)⟩, fun r p _ _ _ _ => ⟨Int.le_refl 0, (by decide : (0 : Int) ≤ 10)⟩⟩, ⟨z _ _ (by omega) (by omega), z _ _ (by omega) (by omega)⟩, ?_, ⟨?_, ?_, fun t _ _ ht => ?_⟩, fun w _ _ => z _ _ (by omega) (by omega), fun r _ _ => ⟨z _ _ (by omega) (by omega), z _ _ (by omega) (by omega)⟩, fun r p _ _ _ _ => z _ _ (by omega) (by omega)⟩
  · rw [z _ _ (by omega) (by omega)]
    exact PK_z
  · have e : G00 (o + 1 + 1) = fun _ => 0 := funext fun j => z _ _ (by omega) (by omega)
    rw [e]
    exact NW_z
  · rw [z _ _ (by omega) (by omega)]
    exact Mk.zero 10
  · rw [z _ _ (by omega) (by omega), bt_zero] at ht
    cases ht
theorem Inv_0 : Inv G00 G00 := by
  have z : ∀ a j : Int, 3 ≤ a → a ≤ 40 → G00 a j = 0 := fun a j x y => by
    unfold G00
    rw [if_neg (by omega), if_neg (by omega)]
  have zA : ∀ j : Int, j ≠ 6 → G00 202 j = 0 := fun j x => by
    unfold G00
    rw [if_neg (by omega), if_neg (by omega)]
  have zW : ∀ o : Int, 3 ≤ o → o ≤ 36 → WeekV (fun _ => 0) ∧ WeekC G00 o (fun _ => 0) := fun o x y => ⟨⟨⟨Int.le_refl 0, (by decide : (0 : Int) ≤ 40)⟩, fun k k0 k1 => by have : k < 0 := k1; omega⟩, z _ _ (by omega) (by omega), fun k k0 k1 => by have : k < 0 := k1; omega⟩
  have zL : ∀ o : Int, 3 ≤ o → o ≤ 36 → LogV (fun _ => 0) ∧ LogC G00 o (fun _ => 0) := fun o x y => ⟨⟨⟨Int.le_refl 0, (by decide : (0 : Int) ≤ 8)⟩, fun k k0 k1 => by have : k < 0 := k1; omega⟩, z _ _ (by omega) (by omega), fun k k0 k1 => by have : k < 0 := k1; omega⟩
  have zH : ∀ k : Int, G00 203 k = 0 := fun k => by
    unfold G00
    rw [if_neg (by omega), if_neg (by omega)]
  have no : ∀ k : Int, G00 203 k = 1 → False := fun k h => by rw [zH k] at h; cases h
  refine ⟨⟨⟨⟨fun j j0 j1 => ?_, ⟨?_, ?_⟩, ⟨?_, ?_⟩, fun s s0 s1 => ?_⟩, ?_⟩, fun h => (no _ h).elim, fun h => (no _ h).elim, fun h => (no _ h).elim⟩, fun k k0 k1 => ⟨?_, Or.inl (zH k)⟩, Or.inl rfl⟩
  · rw [zA _ (by omega)]
    refine ⟨?_, by omega, by omega⟩
    unfold G00
    rw [if_neg (by omega), if_neg (by omega)]
    rfl
  · rw [zA _ (by omega)]
    rfl
  · rw [zA _ (by omega)]
    exact ⟨by omega, by omega⟩
  · rw [zA _ (by omega)]
    rfl
  · rfl
  · rw [zA _ (by omega), z _ _ (by omega) (by omega)]
    exact ⟨rfl, by omega, by omega⟩
  · unfold TextsC
    rw [z_ct (by omega), z_ct (by omega), z_ct (by omega), z_ct (by omega), z_ct (by omega), z_ct (by omega)]
    exact ⟨z_paper (Or.inl rfl), z_paper (Or.inr rfl), zW _ (by omega) (by omega), zW _ (by omega) (by omega), zL _ (by omega) (by omega), zL _ (by omega) (by omega)⟩
  · rw [z _ _ (by omega) (by omega), zH]
