-- folds over the first numbers
def fstB (f : Int → Bool) : Nat → Int
  | 0 => -1
  | n + 1 => if fstB f n = -1 then (if f (n : Int) = true then (n : Int) else -1) else fstB f n
theorem fstB_cases (f : Int → Bool) : ∀ n : Nat, (fstB f n = -1 ∧ ∀ j : Int, 0 ≤ j → j < n → f j = false) ∨ (0 ≤ fstB f n ∧ fstB f n < n ∧ f (fstB f n) = true ∧ ∀ j : Int, 0 ≤ j → j < fstB f n → f j = false)
  | 0 => Or.inl ⟨rfl, fun j h0 h1 => by omega⟩
  | n + 1 => by
    unfold fstB
    rcases fstB_cases f n with ⟨h1, h2⟩ | ⟨h1, h2, h3, h4⟩
    · rw [if_pos h1]
      by_cases h : f (n : Int) = true
      · rw [if_pos h]
        exact Or.inr ⟨by omega, by omega, h, fun j h0 h5 => h2 j h0 h5⟩
      · rw [if_neg h]
        refine Or.inl ⟨rfl, fun j h0 h5 => ?_⟩
        by_cases hj : j = (n : Int)
        · subst hj
          simpa using h
        · exact h2 j h0 (by omega)
    · rw [if_neg (by omega)]
      exact Or.inr ⟨h1, by omega, h3, h4⟩
theorem fstB_eq {f : Int → Bool} {n : Nat} {k : Int} (h0 : 0 ≤ k) (h1 : k < n) (h2 : f k = true) (h3 : ∀ j : Int, 0 ≤ j → j < k → f j = false) : fstB f n = k := by
  rcases fstB_cases f n with ⟨a, b⟩ | ⟨a, b, c, d⟩
  · rw [b k h0 h1] at h2
    cases h2
  · rcases Int.lt_trichotomy (fstB f n) k with h | h | h
    · rw [h3 _ a h] at c
      cases c
    · exact h
    · rw [d k h0 h] at h2
      cases h2
theorem fstB_none {f : Int → Bool} {n : Nat} (h : ∀ j : Int, 0 ≤ j → j < n → f j = false) : fstB f n = -1 := by
  rcases fstB_cases f n with ⟨a, b⟩ | ⟨a, b, c, d⟩
  · exact a
  · rw [h _ a b] at c
    cases c
theorem fstB_r (f : Int → Bool) (n : Nat) : -1 ≤ fstB f n ∧ fstB f n < n := by
  rcases fstB_cases f n with ⟨a, b⟩ | ⟨a, b, c, d⟩ <;> omega
theorem fstB_congr {f g : Int → Bool} : ∀ {n : Nat}, (∀ j : Int, 0 ≤ j → j < n → f j = g j) → fstB f n = fstB g n
  | 0, _ => rfl
  | n + 1, h => by
    unfold fstB
    rw [fstB_congr (fun j h0 h1 => h j h0 (by omega)), h (n : Int) (by omega) (by omega)]
/-- whether any, whether all -/
def anyB (f : Int → Bool) : Nat → Bool
  | 0 => false
  | n + 1 => anyB f n || f (n : Int)
theorem anyB_iff {f : Int → Bool} : ∀ {n : Nat}, anyB f n = true ↔ ∃ k : Int, 0 ≤ k ∧ k < n ∧ f k = true
  | 0 => by
    constructor
    · intro h; cases h
    · rintro ⟨k, h0, h1, -⟩; omega
  | n + 1 => by
    unfold anyB
    rw [Bool.or_eq_true, anyB_iff]
    constructor
    · rintro (⟨k, h0, h1, h2⟩ | h)
      · exact ⟨k, h0, by omega, h2⟩
      · exact ⟨n, by omega, by omega, h⟩
    · rintro ⟨k, h0, h1, h2⟩
      by_cases h : k = (n : Int)
      · subst h; exact Or.inr h2
      · exact Or.inl ⟨k, h0, by omega, h2⟩
theorem anyB_false {f : Int → Bool} {n : Nat} : anyB f n = false ↔ ∀ k : Int, 0 ≤ k → k < n → f k = false := by
  constructor
  · intro h k h0 h1
    cases hk : f k with
    | false => rfl
    | true =>
      rw [anyB_iff.mpr ⟨k, h0, h1, hk⟩] at h
      cases h
  · intro h
    cases ha : anyB f n with
    | false => rfl
    | true =>
      obtain ⟨k, h0, h1, h2⟩ := anyB_iff.mp ha
      rw [h k h0 h1] at h2
      cases h2
def allB (f : Int → Bool) : Nat → Bool
  | 0 => true
  | n + 1 => allB f n && f (n : Int)
theorem allB_iff {f : Int → Bool} : ∀ {n : Nat}, allB f n = true ↔ ∀ k : Int, 0 ≤ k → k < n → f k = true
  | 0 => by
    constructor
    · intro _ k h0 h1; omega
    · intro _; rfl
  | n + 1 => by
    unfold allB
    rw [Bool.and_eq_true, allB_iff]
    constructor
    · rintro ⟨h1, h2⟩ k h0 h3
      by_cases h : k = (n : Int)
      · subst h; exact h2
      · exact h1 k h0 (by omega)
    · intro h
      exact ⟨fun k h0 h1 => h k h0 (by omega), h n (by omega) (by omega)⟩
theorem allB_congr {f g : Int → Bool} : ∀ {n : Nat}, (∀ j : Int, 0 ≤ j → j < n → f j = g j) → allB f n = allB g n
  | 0, _ => rfl
  | n + 1, h => by
    unfold allB
    rw [allB_congr (fun j h0 h1 => h j h0 (by omega)), h (n : Int) (by omega) (by omega)]
theorem anyB_congr {f g : Int → Bool} : ∀ {n : Nat}, (∀ j : Int, 0 ≤ j → j < n → f j = g j) → anyB f n = anyB g n
  | 0, _ => rfl
  | n + 1, h => by
    unfold anyB
    rw [anyB_congr (fun j h0 h1 => h j h0 (by omega)), h (n : Int) (by omega) (by omega)]
/-- the bits of those -/
def bm (f : Int → Bool) : Nat → Int
  | 0 => 0
  | n + 1 => if f (n : Int) = true then ior (bm f n) (ishl 1 (n : Int)) else bm f n
theorem bm_Mk (f : Int → Bool) : ∀ n : Nat, n ≤ 31 → Mk n (bm f n)
  | 0, _ => Mk.zero 0
  | n + 1, h => by
    unfold bm
    have ih := (bm_Mk f n (by omega)).mono (Nat.le_succ n)
    split
    · exact ih.or (Mk.shl (by omega) (by omega) h) h
    · exact ih
theorem bt_bm (f : Int → Bool) : ∀ (n : Nat), n ≤ 31 → ∀ k : Int, 0 ≤ k → bt (bm f n) k = (decide (k < n) && f k)
  | 0, _, k, hk => by
    rw [show bm f 0 = 0 from rfl, bt_zero, decide_eq_false (show ¬ k < ((0 : Nat) : Int) by omega)]
    rfl
  | n + 1, h, k, hk => by
    have ih := bt_bm f n (by omega) k hk
    have m1 := (bm_Mk f n (by omega)).mono (Nat.le_succ n)
    unfold bm
    by_cases hf : f (n : Int) = true
    · rw [if_pos hf, bt_or m1 (Mk.shl (n := n + 1) (by omega) (by omega) h) h h, ih, bt_shl (by omega) (by omega) hk]
      by_cases hkn : k = (n : Int)
      · subst hkn
        rw [decide_eq_true rfl, Bool.or_true, decide_eq_true (show (n : Int) < ((n + 1 : Nat) : Int) by omega), hf]
        rfl
      · have e : (k < (n : Int)) ↔ k < ((n + 1 : Nat) : Int) := by omega
        rw [decide_eq_false hkn, Bool.or_false, decide_eq_decide.mpr e]
    · rw [if_neg hf, ih]
      by_cases hkn : k = (n : Int)
      · subst hkn
        have hf' : f (n : Int) = false := by simpa using hf
        rw [hf', Bool.and_false, Bool.and_false]
      · have e : (k < (n : Int)) ↔ k < ((n + 1 : Nat) : Int) := by omega
        rw [decide_eq_decide.mpr e]
theorem bm_congr {f g : Int → Bool} : ∀ {n : Nat}, (∀ j : Int, 0 ≤ j → j < n → f j = g j) → bm f n = bm g n
  | 0, _ => rfl
  | n + 1, h => by
    unfold bm
    rw [bm_congr (fun j h0 h1 => h j h0 (by omega)), h (n : Int) (by omega) (by omega)]
/-- sums -/
def sm (f : Int → Int) : Nat → Int
  | 0 => 0
  | n + 1 => sm f n + f (n : Int)
theorem sm_congr {f g : Int → Int} : ∀ {n : Nat}, (∀ j : Int, 0 ≤ j → j < n → f j = g j) → sm f n = sm g n
  | 0, _ => rfl
  | n + 1, h => by
    unfold sm
    rw [sm_congr (fun j h0 h1 => h j h0 (by omega)), h (n : Int) (by omega) (by omega)]
theorem sm_r {f : Int → Int} {a b : Int} : ∀ {n : Nat}, (∀ j : Int, 0 ≤ j → j < n → a ≤ f j ∧ f j ≤ b) → (n : Int) * a ≤ sm f n ∧ sm f n ≤ (n : Int) * b
  | 0, _ => by
    show ((0 : Nat) : Int) * a ≤ 0 ∧ 0 ≤ ((0 : Nat) : Int) * b
    simp
  | n + 1, h => by
    have ih := sm_r (f := f) (a := a) (b := b) (n := n) (fun j h0 h1 => h j h0 (by omega))
    have h1 := h (n : Int) (by omega) (by omega)
    have e1 : ((n + 1 : Nat) : Int) * a = (n : Int) * a + a := by rw [Int.natCast_add, Int.add_mul]; simp
    have e2 : ((n + 1 : Nat) : Int) * b = (n : Int) * b + b := by rw [Int.natCast_add, Int.add_mul]; simp
    rw [e1, e2]
    unfold sm
    omega
/-- cells after a write -/
theorem upd2_o {G : Hp} {o j v a b : Int} (h : ¬ (a = o ∧ b = j)) : upd2 G o j v a b = G a b := by
  unfold upd2
  rw [if_neg h]
theorem upd2_s {G : Hp} {o j v : Int} : upd2 G o j v o j = v := by
  unfold upd2
  rw [if_pos ⟨rfl, rfl⟩]
theorem upd2_e {G : Hp} {o j v a b : Int} (h1 : a = o) (h2 : b = j) : upd2 G o j v a b = v := by
  unfold upd2
  rw [if_pos ⟨h1, h2⟩]
theorem if_b2 {P : Prop} {dP : Decidable P} {α : Type} {a b : α} : (if P then a else b) = (if decide P = true then a else b) := by
  by_cases h : P <;> simp [h]
