theorem bit01_t : ∀ (x : Fin 256) (p : Fin 8), iand (ishr (x.val : Int) (p.val : Int)) 1 = 0 ∨ iand (ishr (x.val : Int) (p.val : Int)) 1 = 1 := by decide +kernel
theorem bit01 {x p : Int} (hx : Mk 8 x) (p0 : 0 ≤ p) (p1 : p < 8) : (¬ iand (ishr x p) 1 ≠ 0) ↔ ¬ iand (ishr x p) 1 = 1 := by
  have e256 : ((2 ^ 8 : Nat) : Int) = 256 := rfl
  have hx2 : 0 ≤ x ∧ x < ((2 ^ 8 : Nat) : Int) := hx
  have h := bit01_t ⟨x.toNat, by omega⟩ ⟨p.toNat, by omega⟩
  have ex : ((x.toNat : Nat) : Int) = x := by omega
  have ep : ((p.toNat : Nat) : Int) = p := by omega
  simp only [ex, ep] at h
  omega
