-- words that are near: how far, and towards
def rch (N : Int → Int) (a : Int) : Nat → Int → Bool
  | 0, w => decide (w = a)
  | n + 1, w => rch N a n w || anyB (fun v => rch N a n v && bt (N v) w) 10
/-- near each other, none near itself -/
def NW (N : Int → Int) : Prop := (∀ w, 0 ≤ w → w < 10 → Mk 10 (N w)) ∧ (∀ v w, 0 ≤ v → v < 10 → 0 ≤ w → w < 10 → bt (N v) w = bt (N w) v) ∧ ∀ w, 0 ≤ w → w < 10 → bt (N w) w = false
def dst (N : Int → Int) (a w : Int) : Int := fstB (fun n => rch N a n.toNat w) 10
theorem rch_s {N : Int → Int} {a w : Int} {n : Nat} : rch N a (n + 1) w = true ↔ rch N a n w = true ∨ ∃ v : Int, 0 ≤ v ∧ v < 10 ∧ rch N a n v = true ∧ bt (N v) w = true := by
  show (rch N a n w || anyB (fun v => rch N a n v && bt (N v) w) 10) = true ↔ _
  rw [Bool.or_eq_true, anyB_iff]
  constructor
  · rintro (h | ⟨v, h0, h1, h2⟩)
    · exact Or.inl h
    · rw [Bool.and_eq_true] at h2
      exact Or.inr ⟨v, h0, h1, h2⟩
  · rintro (h | ⟨v, h0, h1, h2⟩)
    · exact Or.inl h
    · exact Or.inr ⟨v, h0, h1, by rw [Bool.and_eq_true]; exact h2⟩
theorem rch_up {N : Int → Int} {a w : Int} {n m : Nat} (h : rch N a n w = true) (hm : n ≤ m) : rch N a m w = true := by
  induction m with
  | zero =>
    have : n = 0 := by omega
    subst this
    exact h
  | succ m ih =>
    by_cases h1 : n ≤ m
    · exact rch_s.mpr (Or.inl (ih h1))
    · have : n = m + 1 := by omega
      subst this
      exact h
theorem rch_pre {N : Int → Int} {a : Int} (ha : 0 ≤ a ∧ a < 10) : ∀ (n : Nat) (w : Int), 0 ≤ w ∧ w < 10 → (rch N a (n + 1) w = true ↔ rch N a n w = true ∨ ∃ v : Int, 0 ≤ v ∧ v < 10 ∧ bt (N a) v = true ∧ rch N v n w = true)
  | 0, w, hw => by
    rw [rch_s]
    constructor
    · rintro (h | ⟨v, h0, h1, h2, h3⟩)
      · exact Or.inl h
      · have e : v = a := of_decide_eq_true h2
        subst e
        exact Or.inr ⟨w, hw.1, hw.2, h3, decide_eq_true rfl⟩
    · rintro (h | ⟨v, h0, h1, h2, h3⟩)
      · exact Or.inl h
      · have e : w = v := of_decide_eq_true h3
        subst e
        exact Or.inr ⟨a, ha.1, ha.2, decide_eq_true rfl, h2⟩
  | n + 1, w, hw => by
    rw [rch_s]
    constructor
    · rintro (h | ⟨v, h0, h1, h2, h3⟩)
      · exact Or.inl h
      · rcases (rch_pre ha n v ⟨h0, h1⟩).mp h2 with h4 | ⟨u, u0, u1, u2, u3⟩
        · exact Or.inl (rch_s.mpr (Or.inr ⟨v, h0, h1, h4, h3⟩))
        · exact Or.inr ⟨u, u0, u1, u2, rch_s.mpr (Or.inr ⟨v, h0, h1, u3, h3⟩)⟩
    · rintro (h | ⟨u, u0, u1, u2, u3⟩)
      · exact Or.inl h
      · rcases rch_s.mp u3 with h4 | ⟨v, h0, h1, h5, h3⟩
        · exact Or.inl ((rch_pre ha n w hw).mpr (Or.inr ⟨u, u0, u1, u2, h4⟩))
        · exact Or.inr ⟨v, h0, h1, (rch_pre ha n v ⟨h0, h1⟩).mpr (Or.inr ⟨u, u0, u1, u2, h5⟩), h3⟩
theorem rch_sym' {N : Int → Int} (hN : NW N) : ∀ (n : Nat) (a w : Int), 0 ≤ a ∧ a < 10 → 0 ≤ w ∧ w < 10 → rch N a n w = true → rch N w n a = true
  | 0, a, w, ha, hw, h => by
    have e : w = a := of_decide_eq_true h
    subst e
    exact h
  | n + 1, a, w, ha, hw, h => by
    rw [rch_pre hw n a ha]
    rcases rch_s.mp h with h1 | ⟨v, h0, h1, h2, h3⟩
    · exact Or.inl (rch_sym' hN n a w ha hw h1)
    · exact Or.inr ⟨v, h0, h1, by rw [hN.2.1 w v hw.1 hw.2 h0 h1]; exact h3, rch_sym' hN n a v ha ⟨h0, h1⟩ h2⟩
theorem rch_sym {N : Int → Int} (hN : NW N) {n : Nat} {a w : Int} (ha : 0 ≤ a ∧ a < 10) (hw : 0 ≤ w ∧ w < 10) : rch N a n w = rch N w n a := by
  cases h1 : rch N a n w with
  | true => exact (rch_sym' hN n a w ha hw h1).symm
  | false =>
    cases h2 : rch N w n a with
    | false => rfl
    | true =>
      rw [rch_sym' hN n w a hw ha h2] at h1
      cases h1
theorem dst_sym {N : Int → Int} (hN : NW N) {a w : Int} (ha : 0 ≤ a ∧ a < 10) (hw : 0 ≤ w ∧ w < 10) : dst N a w = dst N w a := fstB_congr fun _ _ _ => rch_sym hN ha hw
theorem dst_r (N : Int → Int) (a w : Int) : -1 ≤ dst N a w ∧ dst N a w < 10 := fstB_r _ 10
theorem dst_iff {N : Int → Int} {a w : Int} {k : Nat} (hk : k < 10) : dst N a w = (k : Int) ↔ rch N a k w = true ∧ (k = 0 ∨ rch N a (k - 1) w = false) := by
  constructor
  · intro h
    rcases fstB_cases (fun n => rch N a n.toNat w) 10 with ⟨e, -⟩ | ⟨e0, e1, e2, e3⟩
    · have e' : dst N a w = -1 := e
      omega
    · have e4 : fstB (fun n => rch N a n.toNat w) 10 = (k : Int) := h
      rw [e4] at e2 e3
      rw [Int.toNat_natCast] at e2
      refine ⟨e2, ?_⟩
      by_cases h0 : k = 0
      · exact Or.inl h0
      · have := e3 ((k - 1 : Nat) : Int) (by omega) (by omega)
        rw [Int.toNat_natCast] at this
        exact Or.inr this
  · rintro ⟨h1, h2⟩
    refine fstB_eq (by omega) (by omega) (by rw [Int.toNat_natCast]; exact h1) fun j h0 h3 => ?_
    cases hj : rch N a j.toNat w with
    | false => rfl
    | true =>
      rcases h2 with h2 | h2
      · omega
      · rw [rch_up hj (show j.toNat ≤ k - 1 by omega)] at h2
        cases h2
theorem dst_nat {N : Int → Int} {a w : Int} (h : dst N a w ≠ -1) : ∃ k : Nat, k < 10 ∧ dst N a w = (k : Int) := by
  have := dst_r N a w
  exact ⟨(dst N a w).toNat, by omega, by omega⟩
theorem dst_rch {N : Int → Int} {a w : Int} {k : Nat} (hk : k < 10) : rch N a k w = true ↔ (0 ≤ dst N a w ∧ dst N a w ≤ k) := by
  constructor
  · intro h
    rcases fstB_cases (fun n => rch N a n.toNat w) 10 with ⟨-, e⟩ | ⟨e0, e1, e2, e3⟩
    · have := e (k : Int) (by omega) (by omega)
      rw [Int.toNat_natCast, h] at this
      cases this
    · refine ⟨e0, ?_⟩
      by_cases hle : fstB (fun n => rch N a n.toNat w) 10 ≤ (k : Int)
      · exact hle
      · have := e3 (k : Int) (by omega) (by omega)
        rw [Int.toNat_natCast, h] at this
        cases this
  · rintro ⟨h0, h1⟩
    obtain ⟨d, hd, e⟩ := dst_nat (N := N) (a := a) (w := w) (by omega)
    exact rch_up ((dst_iff hd).mp e).1 (by omega)
theorem dst_none {N : Int → Int} {a w : Int} : dst N a w = -1 ↔ rch N a 9 w = false := by
  have h := dst_rch (N := N) (a := a) (w := w) (k := 9) (by omega)
  have := dst_r N a w
  constructor
  · intro e
    cases hc : rch N a 9 w with
    | false => rfl
    | true =>
      have := h.mp hc
      omega
  · intro e
    by_cases hd : dst N a w = -1
    · exact hd
    · have := h.mpr ⟨by omega, by omega⟩
      rw [this] at e
      cases e
theorem dst_self (N : Int → Int) (a : Int) : dst N a a = 0 := (dst_iff (k := 0) (by omega)).mpr ⟨decide_eq_true rfl, Or.inl rfl⟩
/-- one step farther -/
theorem dst_step {N : Int → Int} {a w : Int} {d : Nat} (h0 : 1 ≤ d) (h1 : d < 10) : dst N a w = (d : Int) ↔ rch N a (d - 1) w = false ∧ ∃ v : Int, 0 ≤ v ∧ v < 10 ∧ dst N a v = (d : Int) - 1 ∧ bt (N v) w = true := by
  obtain ⟨e, rfl⟩ : ∃ e, d = e + 1 := ⟨d - 1, by omega⟩
  rw [dst_iff h1, Nat.add_sub_cancel]
  constructor
  · rintro ⟨h2, h3⟩
    have h3 : rch N a e w = false := h3.resolve_left (by omega)
    refine ⟨h3, ?_⟩
    rcases rch_s.mp h2 with h4 | ⟨v, v0, v1, v2, v3⟩
    · rw [h4] at h3
      cases h3
    · refine ⟨v, v0, v1, ?_, v3⟩
      have key : dst N a v = (e : Int) := by
        rw [dst_iff (by omega)]
        refine ⟨v2, ?_⟩
        by_cases he : e = 0
        · exact Or.inl he
        · refine Or.inr ?_
          cases hc : rch N a (e - 1) v with
          | false => rfl
          | true =>
            have : rch N a (e - 1 + 1) w = true := rch_s.mpr (Or.inr ⟨v, v0, v1, hc, v3⟩)
            rw [show e - 1 + 1 = e by omega, h3] at this
            cases this
      omega
  · rintro ⟨h2, v, v0, v1, v2, v3⟩
    refine ⟨rch_s.mpr (Or.inr ⟨v, v0, v1, ?_, v3⟩), Or.inr h2⟩
    exact (dst_rch (by omega)).mpr (by omega)
theorem dst_level {N : Int → Int} {a w : Int} : ∀ (d : Nat) (j : Nat), dst N a w = (d : Int) → j ≤ d → (0 ≤ w ∧ w < 10) → ∃ v : Int, 0 ≤ v ∧ v < 10 ∧ dst N a v = (j : Int) := by
  intro d
  induction d generalizing w with
  | zero =>
    intro j h hj hw
    have : j = 0 := by omega
    subst this
    exact ⟨w, hw.1, hw.2, h⟩
  | succ d ih =>
    intro j h hj hw
    by_cases hjd : j = d + 1
    · subst hjd
      exact ⟨w, hw.1, hw.2, h⟩
    · have h9 := dst_r N a w
      obtain ⟨-, v, v0, v1, v2, -⟩ := (dst_step (by omega) (by omega)).mp h
      exact ih j (by omega) (by omega) ⟨v0, v1⟩
/-- towards a word from another -/
def tw (N : Int → Int) (f t : Int) : Int := if dst N f t < 1 then -1 else fstB (fun w => bt (N f) w && decide (dst N w t = dst N f t - 1)) 10
theorem tw_r (N : Int → Int) (f t : Int) : -1 ≤ tw N f t ∧ tw N f t < 10 := by
  unfold tw
  split
  · omega
  · exact fstB_r _ 10
