-- texts: the model's tokens; words as numbers
def lvl (f : Int → Int) : Nat → Int
  | 0 => 0
  | m + 1 => 32 * lvl f m + f (m : Int)
theorem lvl_s (f : Int → Int) {i : Int} (h : 0 ≤ i) : lvl f (i + 1).toNat = 32 * lvl f i.toNat + f i := by
  have e : (i + 1).toNat = i.toNat + 1 := by omega
  have e2 : ((i.toNat : Nat) : Int) = i := by omega
  rw [e]
  show 32 * lvl f i.toNat + f ((i.toNat : Nat) : Int) = _
  rw [e2]
theorem lvl_b {f : Int → Int} : ∀ m : Nat, (∀ j : Int, 0 ≤ j → j < (m : Int) → 1 ≤ f j ∧ f j ≤ 26) → 0 ≤ lvl f m ∧ lvl f m + 1 ≤ ((32 ^ m : Nat) : Int)
  | 0, _ => ⟨Int.le_refl 0, by show (0 : Int) + 1 ≤ ((32 ^ 0 : Nat) : Int); decide⟩
  | m + 1, h => by
    have ih := lvl_b m fun j j0 j1 => h j j0 (by omega)
    have hm := h (m : Int) (by omega) (by omega)
    have e : (32 ^ (m + 1) : Nat) = 32 * 32 ^ m := by rw [Nat.pow_succ]; omega
    rw [e]
    show 0 ≤ 32 * lvl f m + f (m : Int) ∧ 32 * lvl f m + f (m : Int) + 1 ≤ _
    omega
theorem lvl_b8 {f : Int → Int} {m : Nat} (hm : m ≤ 8) (h : ∀ j : Int, 0 ≤ j → j < (m : Int) → 1 ≤ f j ∧ f j ≤ 26) : 0 ≤ lvl f m ∧ lvl f m < 1099511627776 := by
  have h1 := lvl_b m h
  have h2 : 32 ^ m ≤ 32 ^ 8 := Nat.pow_le_pow_right (by decide) hm
  have e : (32 ^ 8 : Nat) = 1099511627776 := by decide
  omega
theorem lvl_inj {f g : Int → Int} : ∀ (m L : Nat), (∀ j : Int, 0 ≤ j → j < (m : Int) → 1 ≤ f j ∧ f j ≤ 26) → (∀ j : Int, 0 ≤ j → j < (L : Int) → 1 ≤ g j ∧ g j ≤ 26) → (lvl f m = lvl g L ↔ m = L ∧ ∀ j : Int, 0 ≤ j → j < (m : Int) → f j = g j)
  | 0, 0, _, _ => ⟨fun _ => ⟨rfl, fun j _ _ => by omega⟩, fun _ => rfl⟩
  | 0, L + 1, _, hg => by
    have ih := lvl_b L fun j j0 j1 => hg j j0 (by omega)
    have hL := hg (L : Int) (by omega) (by omega)
    refine ⟨fun h => ?_, fun h => absurd h.1 (by omega)⟩
    have h' : (0 : Int) = 32 * lvl g L + g (L : Int) := h
    omega
  | m + 1, 0, hf, _ => by
    have ih := lvl_b m fun j j0 j1 => hf j j0 (by omega)
    have hm := hf (m : Int) (by omega) (by omega)
    refine ⟨fun h => ?_, fun h => absurd h.1 (by omega)⟩
    have h' : 32 * lvl f m + f (m : Int) = (0 : Int) := h
    omega
  | m + 1, L + 1, hf, hg => by
    have ih := lvl_inj m L (fun j j0 j1 => hf j j0 (by omega)) fun j j0 j1 => hg j j0 (by omega)
    have hm := hf (m : Int) (by omega) (by omega)
    have hL := hg (L : Int) (by omega) (by omega)
    constructor
    · intro h
      have h' : 32 * lvl f m + f (m : Int) = 32 * lvl g L + g (L : Int) := h
      have h1 : lvl f m = lvl g L := by omega
      have h2 : f (m : Int) = g (L : Int) := by omega
      obtain ⟨h3, h4⟩ := ih.mp h1
      refine ⟨by omega, fun j j0 j1 => ?_⟩
      by_cases e : j = (m : Int)
      · rw [e, h2, h3]
      · exact h4 j j0 (by omega)
    · intro h
      have hmL : m = L := by omega
      subst hmL
      have h1 := ih.mpr ⟨rfl, fun j j0 j1 => h.2 j j0 (by omega)⟩
      show 32 * lvl f m + f (m : Int) = 32 * lvl g m + g (m : Int)
      rw [h1, h.2 (m : Int) (by omega) (by omega)]
/-- which word a row of letters is -/
def ltF (T : Int → Int) (q : Int) : Int → Int := fun j => T (q + j) - 96
def wcT (T : Int → Int) (q e : Int) : Int := if 8 < e - q then 99 else mm_wordOf (lvl (ltF T q) (e - q).toNat)
def chF (i : Nat) : Int → Int := fun j => schz i j - 96
theorem ch_ok : ∀ i : Fin 11, ∀ j : Fin 8, j.val < slen.getD i.val 0 → 1 ≤ chF i.val (j.val : Int) ∧ chF i.val (j.val : Int) ≤ 26 := by decide +kernel
theorem sl_ok : ∀ i : Fin 11, 1 ≤ slen.getD i.val 0 ∧ slen.getD i.val 0 ≤ 6 := by decide +kernel
theorem ch_r {i : Nat} (hi : i < 11) : ∀ j : Int, 0 ≤ j → j < ((slen.getD i 0 : Nat) : Int) → 1 ≤ chF i j ∧ chF i j ≤ 26 := fun j j0 j1 => by
  have h1 := sl_ok ⟨i, hi⟩
  have h1' : slen.getD i 0 ≤ 6 := h1.2
  have h := ch_ok ⟨i, hi⟩ ⟨j.toNat, by omega⟩ (by show j.toNat < slen.getD i 0; omega)
  have e : ((j.toNat : Nat) : Int) = j := by omega
  simp only [e] at h
  exact h
def cst (i : Nat) : Int := lvl (chF i) (slen.getD i 0)
theorem cst_ok : mm_four 23 15 18 4 = cst 0 ∧ mm_four 14 5 1 18 = cst 1 ∧ mm_eight 0 0 18 5 1 4 5 18 = cst 2 ∧ mm_eight 0 0 0 23 1 14 20 19 = cst 3 ∧ mm_four 18 5 1 4 = cst 4 ∧ mm_four 0 19 5 20 = cst 5 ∧ mm_four 19 20 5 20 = cst 6 ∧ mm_four 10 15 9 14 = cst 7 ∧ mm_four 16 1 18 20 = cst 8 ∧ mm_eight 0 0 0 16 18 9 14 20 = cst 9 ∧ mm_four 0 23 1 19 = cst 10 := by decide +kernel
theorem cst_ne : ∀ i j : Fin 11, cst i.val = cst j.val → i.val = j.val := by decide +kernel
theorem lcmp_eq0 {a b : Int} : lcmp a b = 0 ↔ a = b := by
  unfold lcmp
  by_cases h : b < a
  · rw [if_pos h]
    constructor
    · intro h; omega
    · intro h; omega
  · rw [if_neg h]
    by_cases h2 : a = b
    · rw [if_pos h2]
      exact ⟨fun _ => h2, fun _ => rfl⟩
    · rw [if_neg h2]
      exact ⟨fun h => by omega, fun h => absurd h h2⟩
theorem wordOf_eq (v : Int) : mm_wordOf v = if v = cst 0 then 1 else if v = cst 1 then 2 else if v = cst 2 then 3 else if v = cst 3 then 4 else if v = cst 4 then 5 else if v = cst 5 then 6 else if v = cst 6 then 7 else if v = cst 7 then 8 else if v = cst 8 then 9 else if v = cst 9 then 10 else if v = cst 10 then 11 else 99 := by
  obtain ⟨c0, c1, c2, c3, c4, c5, c6, c7, c8, c9, c10⟩ := cst_ok
  unfold mm_wordOf
  rw [c0, c1, c2, c3, c4, c5, c6, c7, c8, c9, c10]
  simp only [lcmp_eq0]
theorem wordOf_r (v : Int) : (1 ≤ mm_wordOf v ∧ mm_wordOf v ≤ 11) ∨ mm_wordOf v = 99 := by
  rw [wordOf_eq]
  repeat' split
  all_goals omega
theorem wordOf_i {v : Int} {i : Nat} (hi : i < 11) : mm_wordOf v = (i : Int) + 1 ↔ v = cst i := by
  have ne : ∀ j : Nat, j < 11 → v = cst j → v = cst i → i = j := fun j hj h1 h2 => cst_ne ⟨i, hi⟩ ⟨j, hj⟩ (by show cst i = cst j; rw [← h1, ← h2])
  rw [wordOf_eq]
  constructor
  · intro h
    have d : ∀ j : Nat, (j : Int) + 1 = (i : Int) + 1 → v = cst j → v = cst i := fun j h1 h2 => by
      have : j = i := by omega
      rw [← this]; exact h2
    by_cases h0 : v = cst 0
    · rw [if_pos h0] at h; exact d 0 h h0
    rw [if_neg h0] at h
    by_cases h1 : v = cst 1
    · rw [if_pos h1] at h; exact d 1 h h1
    rw [if_neg h1] at h
    by_cases h2 : v = cst 2
    · rw [if_pos h2] at h; exact d 2 h h2
    rw [if_neg h2] at h
    by_cases h3 : v = cst 3
    · rw [if_pos h3] at h; exact d 3 h h3
    rw [if_neg h3] at h
    by_cases h4 : v = cst 4
    · rw [if_pos h4] at h; exact d 4 h h4
    rw [if_neg h4] at h
    by_cases h5 : v = cst 5
    · rw [if_pos h5] at h; exact d 5 h h5
    rw [if_neg h5] at h
    by_cases h6 : v = cst 6
    · rw [if_pos h6] at h; exact d 6 h h6
    rw [if_neg h6] at h
    by_cases h7 : v = cst 7
    · rw [if_pos h7] at h; exact d 7 h h7
    rw [if_neg h7] at h
    by_cases h8 : v = cst 8
    · rw [if_pos h8] at h; exact d 8 h h8
    rw [if_neg h8] at h
    by_cases h9 : v = cst 9
    · rw [if_pos h9] at h; exact d 9 h h9
    rw [if_neg h9] at h
    by_cases h10 : v = cst 10
    · rw [if_pos h10] at h; exact d 10 h h10
    rw [if_neg h10] at h
    omega
  · intro h
    have n : ∀ j : Nat, j < 11 → j ≠ i → ¬ v = cst j := fun j hj hne h1 => hne (ne j hj h1 h).symm
    have hi' : i = 0 ∨ i = 1 ∨ i = 2 ∨ i = 3 ∨ i = 4 ∨ i = 5 ∨ i = 6 ∨ i = 7 ∨ i = 8 ∨ i = 9 ∨ i = 10 := by omega
    rcases hi' with rfl | rfl | rfl | rfl | rfl | rfl | rfl | rfl | rfl | rfl | rfl
    · rw [if_pos h]; rfl
    · rw [if_neg (n 0 (by omega) (by omega)), if_pos h]; rfl
    · rw [if_neg (n 0 (by omega) (by omega)), if_neg (n 1 (by omega) (by omega)), if_pos h]; rfl
    · rw [if_neg (n 0 (by omega) (by omega)), if_neg (n 1 (by omega) (by omega)), if_neg (n 2 (by omega) (by omega)), if_pos h]; rfl
    · rw [if_neg (n 0 (by omega) (by omega)), if_neg (n 1 (by omega) (by omega)), if_neg (n 2 (by omega) (by omega)), if_neg (n 3 (by omega) (by omega)), if_pos h]; rfl
    · rw [if_neg (n 0 (by omega) (by omega)), if_neg (n 1 (by omega) (by omega)), if_neg (n 2 (by omega) (by omega)), if_neg (n 3 (by omega) (by omega)), if_neg (n 4 (by omega) (by omega)), if_pos h]; rfl
    · rw [if_neg (n 0 (by omega) (by omega)), if_neg (n 1 (by omega) (by omega)), if_neg (n 2 (by omega) (by omega)), if_neg (n 3 (by omega) (by omega)), if_neg (n 4 (by omega) (by omega)), if_neg (n 5 (by omega) (by omega)), if_pos h]; rfl
    · rw [if_neg (n 0 (by omega) (by omega)), if_neg (n 1 (by omega) (by omega)), if_neg (n 2 (by omega) (by omega)), if_neg (n 3 (by omega) (by omega)), if_neg (n 4 (by omega) (by omega)), if_neg (n 5 (by omega) (by omega)), if_neg (n 6 (by omega) (by omega)), if_pos h]; rfl
    · rw [if_neg (n 0 (by omega) (by omega)), if_neg (n 1 (by omega) (by omega)), if_neg (n 2 (by omega) (by omega)), if_neg (n 3 (by omega) (by omega)), if_neg (n 4 (by omega) (by omega)), if_neg (n 5 (by omega) (by omega)), if_neg (n 6 (by omega) (by omega)), if_neg (n 7 (by omega) (by omega)), if_pos h]; rfl
    · rw [if_neg (n 0 (by omega) (by omega)), if_neg (n 1 (by omega) (by omega)), if_neg (n 2 (by omega) (by omega)), if_neg (n 3 (by omega) (by omega)), if_neg (n 4 (by omega) (by omega)), if_neg (n 5 (by omega) (by omega)), if_neg (n 6 (by omega) (by omega)), if_neg (n 7 (by omega) (by omega)), if_neg (n 8 (by omega) (by omega)), if_pos h]; rfl
    · rw [if_neg (n 0 (by omega) (by omega)), if_neg (n 1 (by omega) (by omega)), if_neg (n 2 (by omega) (by omega)), if_neg (n 3 (by omega) (by omega)), if_neg (n 4 (by omega) (by omega)), if_neg (n 5 (by omega) (by omega)), if_neg (n 6 (by omega) (by omega)), if_neg (n 7 (by omega) (by omega)), if_neg (n 8 (by omega) (by omega)), if_neg (n 9 (by omega) (by omega)), if_pos h]; rfl
theorem wcT_r (T : Int → Int) (q e : Int) : (1 ≤ wcT T q e ∧ wcT T q e ≤ 11) ∨ wcT T q e = 99 := by
  unfold wcT
  split
  · omega
  · exact wordOf_r _
/-- the class compares letters: it is the same word -/
theorem spells_ok {n q e : Int} {T : Int → Int} {C : Hp} {i : Nat} (hi : i < 11) (h : TpC n T C) (q0 : 0 ≤ q) (qe : q ≤ e) (en : e ≤ n) (h9 : C 39 9 = q) (h7 : C 39 7 = e) (hl : ∀ j, q ≤ j → j < e → ltT n T j = true) : cSc_spells i C = some (decide (wcT T q e = (i : Int) + 1)) := by
  have hs := sl_ok ⟨i, hi⟩
  have hs1 : 1 ≤ slen.getD i 0 := hs.1
  have hs2 : slen.getD i 0 ≤ 6 := hs.2
  have hn := h.1.2
  have hf : ∀ j : Int, 0 ≤ j → j < (((e - q).toNat : Nat) : Int) → 1 ≤ ltF T q j ∧ ltF T q j ≤ 26 := fun j j0 j1 => by
    have := of_decide_eq_true (hl (q + j) (by omega) (by omega))
    unfold ltF
    omega
  have hz : slz i = ((slen.getD i 0 : Nat) : Int) := rfl
  have key : wcT T q e = (i : Int) + 1 ↔ (e - q).toNat = slen.getD i 0 ∧ ∀ j : Int, 0 ≤ j → j < (((e - q).toNat : Nat) : Int) → ltF T q j = chF i j := by
    unfold wcT
    by_cases h8 : 8 < e - q
    · rw [if_pos h8]
      exact ⟨fun x => by omega, fun x => by omega⟩
    · rw [if_neg h8, wordOf_i hi]
      exact lvl_inj _ _ hf (ch_r hi)
  apply ok_iff
  unfold cSc_spells
  rw [h9, h7, w32_id (by omega) (by omega), hz]
  by_cases hlen : e - q = ((slen.getD i 0 : Nat) : Int)
  · rw [if_pos hlen]
    refine lp_up (fun m j (_ : Unit) => cSc_spells_L22 i C ((slen.getD i 0 : Nat) : Int) m j) ((slen.getD i 0 : Nat) : Int) (fun j _ => ∀ x, 0 ≤ x → x < j → ltF T q x = chF i x) ?_ ?_ (by omega) (by omega) (by omega) (s := ()) (fun x x0 x1 => by omega)
    · intro m j s j0 j1 hs ih
      have hb := h.2.1 (q + j) (by omega) (by omega)
      have hlj := of_decide_eq_true (hl (q + j) (by omega) (by omega))
      have w8e : w8 (T (q + j)) = T (q + j) := by unfold w8; omega
      show ok (cSc_spells_L22 i C ((slen.getD i 0 : Nat) : Int) (m + 1) j) _
      rw [cSc_spells_L22, if_pos j1, h9, w32_id (z := q + j) (by omega) (by omega), cbyte_ok h (by omega) (by omega), Option.bind_some, w8e, hz, gd_ok j0 j1, w32_id (z := j + 1) (by omega) (by omega)]
      refine ok_ite (fun x => ih () fun y y0 y1 => ?_) (fun x => ok_some ?_)
      · by_cases ey : y = j
        · rw [ey]
          unfold ltF chF
          omega
        · exact hs y y0 (by omega)
      · refine (decide_eq_false fun z => x ?_).symm
        have := (key.mp z).2 j j0 (by omega)
        unfold ltF chF at this
        omega
    · intro m s hs
      show ok (cSc_spells_L22 i C ((slen.getD i 0 : Nat) : Int) (m + 1) ((slen.getD i 0 : Nat) : Int)) _
      rw [cSc_spells_L22, if_neg (by omega)]
      exact ok_some (decide_eq_true (key.mpr ⟨by omega, fun j j0 j1 => hs j j0 (by omega)⟩)).symm
  · rw [if_neg hlen]
    exact ok_some (decide_eq_false fun z => hlen (by have := (key.mp z).1; omega)).symm
-- the model moves
def mkT (n : Int) (T : Int → Int) (q : Int) : Int := if tkT n T q = 1 then (if wcT T q (teT n T q) = 99 then 4 else 3) else if tkT n T q = 2 then 1 else if tkT n T q = 3 then 2 else tkT n T q
def MvM (n : Int) (T : Int → Int) (p : Int) (G G' : Hp) : Prop := G' 201 4 = nx (wsT n T) p ∧ G' 201 3 = teT n T (nx (wsT n T) p) ∧ G' 201 5 = mkT n T (nx (wsT n T) p) ∧ (tkT n T (nx (wsT n T) p) = 2 → G' 201 6 = vlT T (nx (wsT n T) p) (teT n T (nx (wsT n T) p))) ∧ (tkT n T (nx (wsT n T) p) = 1 → G' 201 7 = wcT T (nx (wsT n T) p) (teT n T (nx (wsT n T) p))) ∧ ∀ a j, ¬ (a = 201 ∧ 3 ≤ j ∧ j ≤ 7) → G' a j = G a j
section MMOVE
variable {n p : Int} {T : Int → Int} {G : Hp} {Q : Hp → Prop}
theorem mblank {k : Hp → Option Hp} (h : TpM n T G) (p0 : 0 ≤ p) (p1 : p ≤ n) (hk : ok (k (upd2 G 201 3 (nx (wsT n T) p))) Q) : ok (mm_advance_L0 k FU (upd2 G 201 3 p)) Q := by
  have hn := h.1.2
  have hw := nx_ws (T := T) p0 p1 hn
  refine lp_up (fun m (_ : Int) (s : Hp) => mm_advance_L0 k m s) (nx (wsT n T) p) (fun i s => p ≤ i ∧ s = upd2 G 201 3 i) ?_ ?_ (by omega) p0 hw.1 ⟨by omega, rfl⟩
  · intro m i s i0 i1 hs ih
    obtain ⟨hp, rfl⟩ := hs
    have hT : TpM n T (upd2 G 201 3 i) := h.fr (fun j _ => upd2_o (by omega)) (upd2_o (by omega))
    have hi := of_decide_eq_true (hw.2.2.2 i hp i1)
    have e7 : upd2 G 201 3 i 201 3 = i := upd2_s
    show ok (mm_advance_L0 k (m + 1) (upd2 G 201 3 i)) Q
    rw [mm_advance_L0, e7, mbyte_ok hT (by omega) hi.1, Option.bind_some, w32_id (z := i + 1) (by omega) (by omega), upd2_t]
    have ih' := ih (upd2 G 201 3 (i + 1)) ⟨by omega, rfl⟩
    refine ok_ite (fun _ => ih') (fun e => ?_)
    rw [Option.bind_some, if_pos (by omega)]
    exact ih'
  · intro m s hs
    obtain ⟨hp, rfl⟩ := hs
    have hT : TpM n T (upd2 G 201 3 (nx (wsT n T) p)) := h.fr (fun j _ => upd2_o (by omega)) (upd2_o (by omega))
    have e7 : upd2 G 201 3 (nx (wsT n T) p) 201 3 = nx (wsT n T) p := upd2_s
    have hi := of_decide_eq_false hw.2.2.1
    show ok (mm_advance_L0 k (m + 1) (upd2 G 201 3 (nx (wsT n T) p))) Q
    rw [mm_advance_L0, e7]
    by_cases e : nx (wsT n T) p < n
    · rw [mbyte_ok hT (by omega) e, Option.bind_some, if_neg (by omega), Option.bind_some, if_neg (by omega)]
      exact hk
    · rw [mbyte_e hT (by omega), Option.bind_some, if_neg (by omega), Option.bind_some, if_neg (by omega)]
      exact hk
theorem mletters {k : Int → Hp → Option Hp} (h : TpM n T G) (p0 : 0 ≤ p) (p1 : p ≤ n) (h4 : G 201 4 = p) (hk : ∀ x, (nx (ltT n T) p - p ≤ 8 → x = lvl (ltF T p) (nx (ltT n T) p - p).toNat) → ok (k x (upd2 G 201 3 (nx (ltT n T) p))) Q) : ok (mm_advance_L77 k FU 0 (upd2 G 201 3 p)) Q := by
  have hn := h.1.2
  have hw := nx_lt (T := T) p0 p1 hn
  refine lp_up (fun m (_ : Int) (s : Int × Hp) => mm_advance_L77 k m s.1 s.2) (nx (ltT n T) p) (fun i s => p ≤ i ∧ s.2 = upd2 G 201 3 i ∧ (i - p ≤ 8 → s.1 = lvl (ltF T p) (i - p).toNat)) ?_ ?_ (by omega) p0 hw.1 (s := (0, upd2 G 201 3 p)) ⟨by omega, rfl, fun _ => by rw [show (p - p).toNat = 0 by omega]; rfl⟩
  · intro m i s i0 i1 hs ih
    obtain ⟨s1, s2⟩ := s
    obtain ⟨hp, hs2, hs1⟩ := hs
    have hs2' : s2 = upd2 G 201 3 i := hs2
    subst hs2'
    have hT : TpM n T (upd2 G 201 3 i) := h.fr (fun j _ => upd2_o (by omega)) (upd2_o (by omega))
    have hl := hw.2.2.2 i hp i1
    have hi := of_decide_eq_true hl
    have e7 : upd2 G 201 3 i 201 3 = i := upd2_s
    have e4 : upd2 G 201 3 i 201 4 = p := (upd2_o (by omega)).trans h4
    show ok (mm_advance_L77 k (m + 1) s1 (upd2 G 201 3 i)) Q
    rw [mm_advance_L77, e7, e4, mbyte_ok hT (by omega) hi.1, Option.bind_some, mlet_ok (n := n) hi.1, if_pos hl, w32_id (z := i - p) (by omega) (by omega), w32_id (z := i + 1) (by omega) (by omega), upd2_t]
    refine ok_ite (fun e => ?_) (fun e => ?_)
    · have hs1' : s1 = lvl (ltF T p) (i - p).toNat := hs1 (by omega)
      have hb := lvl_b8 (f := ltF T p) (m := (i - p).toNat) (by omega) fun j j0 j1 => by
        have := of_decide_eq_true (hw.2.2.2 (p + j) (by omega) (by omega))
        unfold ltF
        omega
      rw [← hs1'] at hb
      rw [Option.bind_some, w64_id (z := 32 * s1) (by omega) (by omega), w64_id (z := 32 * s1 + T i) (by omega) (by omega), w64_id (z := 32 * s1 + T i - 96) (by omega) (by omega)]
      refine ih (32 * s1 + T i - 96, upd2 G 201 3 (i + 1)) ⟨by omega, rfl, fun _ => ?_⟩
      show 32 * s1 + T i - 96 = _
      have := lvl_s (ltF T p) (i := i - p) (by omega)
      rw [show i - p + 1 = i + 1 - p by omega] at this
      rw [this, ← hs1']
      unfold ltF
      rw [show p + (i - p) = i by omega]
      omega
    · refine ih (s1, upd2 G 201 3 (i + 1)) ⟨by omega, rfl, fun x => by omega⟩
  · intro m s hs
    obtain ⟨s1, s2⟩ := s
    obtain ⟨hp, hs2, hs1⟩ := hs
    have hs2' : s2 = upd2 G 201 3 (nx (ltT n T) p) := hs2
    subst hs2'
    have hT : TpM n T (upd2 G 201 3 (nx (ltT n T) p)) := h.fr (fun j _ => upd2_o (by omega)) (upd2_o (by omega))
    have e7 : upd2 G 201 3 (nx (ltT n T) p) 201 3 = nx (ltT n T) p := upd2_s
    show ok (mm_advance_L77 k (m + 1) s1 (upd2 G 201 3 (nx (ltT n T) p))) Q
    rw [mm_advance_L77, e7]
    by_cases e : nx (ltT n T) p < n
    · rw [mbyte_ok hT (by omega) e, Option.bind_some, mlet_ok (n := n) e, hw.2.2.1, if_neg (by decide)]
      exact hk s1 hs1
    · rw [mbyte_e hT (by omega), Option.bind_some, if_neg (by decide)]
      exact hk s1 hs1
theorem mdigits {k : Hp → Option Hp} (h : TpM n T G) (p0 : 0 ≤ p) (p1 : p ≤ n) (h4 : G 201 4 = p) (hk : ∀ G', (nx (dgT n T) p - p ≤ 2 → G' 201 6 = vlT T p (nx (dgT n T) p)) → G' 201 3 = nx (dgT n T) p → (∀ a j, ¬ (a = 201 ∧ (j = 3 ∨ j = 6)) → G' a j = G a j) → ok (k G') Q) : ok (mm_advance_L198 k FU (upd2 (upd2 G 201 3 p) 201 6 0)) Q := by
  have hn := h.1.2
  have hw := nx_dg (T := T) p0 p1 hn
  refine lp_up (fun m (_ : Int) (s : Hp) => mm_advance_L198 k m s) (nx (dgT n T) p) (fun i s => p ≤ i ∧ s 201 6 = vlT T p i ∧ s 201 3 = i ∧ ∀ a j, ¬ (a = 201 ∧ (j = 3 ∨ j = 6)) → s a j = G a j) ?_ ?_ (by omega) p0 hw.1 ⟨by omega, by rw [upd2_s]; unfold vlT; rw [if_pos (by omega)], by rw [upd2_o (by omega), upd2_s], fun a j q => by rw [upd2_o (by omega), upd2_o (by omega)]⟩
  · intro m i s i0 i1 hs ih
    obtain ⟨hp, e6, e3, hf⟩ := hs
    have hT : TpM n T s := h.fr (fun j _ => hf _ _ (by omega)) (hf _ _ (by omega))
    have hl := hw.2.2.2 i hp i1
    have hi := of_decide_eq_true hl
    have e4 : s 201 4 = p := (hf _ _ (by omega)).trans h4
    show ok (mm_advance_L198 k (m + 1) s) Q
    rw [mm_advance_L198, e3, e4, mbyte_ok hT (by omega) hi.1, Option.bind_some, mdig_ok (n := n) hi.1, if_pos hl, w32_id (z := i - p) (by omega) (by omega)]
    refine ok_ite (fun e => ?_) (fun e => ?_)
    · have hv : 0 ≤ vlT T p i ∧ vlT T p i ≤ 9 ∧ 10 * vlT T p i + T i - 48 = vlT T p (i + 1) := by
        unfold vlT
        by_cases z : i = p
        · subst z
          rw [if_pos (by omega), if_neg (by omega), if_pos (by omega)]
          omega
        · have z2 : i = p + 1 := by omega
          have hp9 := of_decide_eq_true (hw.2.2.2 p (by omega) (by omega))
          subst z2
          rw [if_neg (by omega), if_pos (by omega), if_neg (by omega), if_neg (by omega)]
          omega
      have e3' : ∀ v, upd2 s 201 6 v 201 3 = i := fun v => (upd2_o (by omega)).trans e3
      rw [Option.bind_some, e6, e3', w32_id (z := 10 * vlT T p i) (by omega) (by omega), w32_id (z := 10 * vlT T p i + T i) (by omega) (by omega), w32_id (z := 10 * vlT T p i + T i - 48) (by omega) (by omega), hv.2.2, w32_id (z := i + 1) (by omega) (by omega)]
      exact ih _ ⟨by omega, by rw [upd2_o (by omega), upd2_s], upd2_s, fun a j q => by rw [upd2_o (by omega), upd2_o (by omega)]; exact hf _ _ q⟩
    · have hv : vlT T p i = vlT T p (i + 1) := by
        unfold vlT
        rw [if_neg (by omega), if_neg (by omega), if_neg (by omega), if_neg (by omega)]
      rw [w32_id (z := i + 1) (by omega) (by omega)]
      exact ih _ ⟨by omega, by rw [upd2_o (by omega), e6, hv], upd2_s, fun a j q => by rw [upd2_o (by omega)]; exact hf _ _ q⟩
  · intro m s hs
    obtain ⟨hp, e6, e3, hf⟩ := hs
    have hT : TpM n T s := h.fr (fun j _ => hf _ _ (by omega)) (hf _ _ (by omega))
    show ok (mm_advance_L198 k (m + 1) s) Q
    rw [mm_advance_L198, e3]
    by_cases e : nx (dgT n T) p < n
    · rw [mbyte_ok hT (by omega) e, Option.bind_some, mdig_ok (n := n) e, hw.2.2.1, if_neg (by decide)]
      exact hk s (fun _ => e6) e3 hf
    · rw [mbyte_e hT (by omega), Option.bind_some, if_neg (by decide)]
      exact hk s (fun _ => e6) e3 hf
theorem madv_ok (h : TpM n T G) (h3 : G 201 3 = p) (p0 : 0 ≤ p) (p1 : p ≤ n) : ok (mm_advance G) (fun G' => MvM n T p G G') := by
  have hn := h.1.2
  have hw := nx_ws (T := T) p0 p1 hn
  have e0 : mm_advance G = mm_advance (upd2 G 201 3 p) := by rw [upd2_id h3]
  rw [e0]
  unfold mm_advance MvM
  refine mblank h p0 p1 ?_
  generalize hq : nx (wsT n T) p = q at *
  have e7 : upd2 G 201 3 q 201 3 = q := upd2_s
  show ok ((mm_byteAt ((upd2 (upd2 G 201 3 q) 201 4 (upd2 G 201 3 q 201 3)) 201 3) (upd2 (upd2 G 201 3 q) 201 4 (upd2 G 201 3 q 201 3))).bind _) _
  rw [e7]
  generalize hG1 : upd2 (upd2 G 201 3 q) 201 4 q = G1
  have z : ∀ a j, ¬ (a = 201 ∧ 3 ≤ j ∧ j ≤ 7) → G1 a j = G a j := fun a j u => by rw [← hG1, upd2_o (by omega), upd2_o (by omega)]
  have hT : TpM n T G1 := h.fr (fun j _ => z _ _ (by omega)) (z _ _ (by omega))
  have d3 : G1 201 3 = q := by rw [← hG1, upd2_o (by omega), upd2_s]
  have d4 : G1 201 4 = q := by rw [← hG1, upd2_s]
  rw [d3]
  unfold mkT
  by_cases en : n ≤ q
  · have et : tkT n T q = 0 := by unfold tkT; rw [if_pos en]
    have ee : teT n T q = q := by unfold teT; rw [if_pos en]
    rw [mbyte_e hT en, Option.bind_some, if_pos (by omega), et, ee]
    exact ok_some ⟨by rw [upd2_o (by omega)]; exact d4, by rw [upd2_o (by omega)]; exact d3, upd2_s, fun x => by omega, fun x => by omega, fun a j u => by rw [upd2_o (by omega)]; exact z _ _ u⟩
  · have hb := h.2.1 q (by omega) (by omega)
    rw [mbyte_ok hT (by omega) (by omega), Option.bind_some, if_neg (by omega), mlet_ok (n := n) (by omega), mdig_ok (n := n) (by omega)]
    refine ok_ite (fun el => ?_) (fun el => ?_)
    · have et : tkT n T q = 1 := by unfold tkT; rw [if_neg en, if_pos el]
      have ee : teT n T q = nx (ltT n T) q := by unfold teT; rw [if_neg en, if_pos el]
      rw [et, ee, if_pos rfl]
      have hl := nx_lt (T := T) (show 0 ≤ q by omega) (show q ≤ n by omega) hn
      have e1 : G1 = upd2 G1 201 3 q := (upd2_id d3).symm
      rw [e1]
      refine mletters hT (by omega) (by omega) d4 fun x hx => ?_
      have f3 : upd2 G1 201 3 (nx (ltT n T) q) 201 3 = nx (ltT n T) q := upd2_s
      have f4 : upd2 G1 201 3 (nx (ltT n T) q) 201 4 = q := (upd2_o (by omega)).trans d4
      have fin : ∀ w, w = wcT T q (nx (ltT n T) q) → ok (mm_advance_j162 w (upd2 G1 201 3 (nx (ltT n T) q))) (fun G' => G' 201 4 = q ∧ G' 201 3 = nx (ltT n T) q ∧ G' 201 5 = (if wcT T q (nx (ltT n T) q) = 99 then 4 else 3) ∧ ((1 : Int) = 2 → G' 201 6 = vlT T q (nx (ltT n T) q)) ∧ ((1 : Int) = 1 → G' 201 7 = wcT T q (nx (ltT n T) q)) ∧ ∀ a j, ¬ (a = 201 ∧ 3 ≤ j ∧ j ≤ 7) → G' a j = G a j) := by
        intro w hw2
        have f7 : upd2 (upd2 G1 201 3 (nx (ltT n T) q)) 201 7 w 201 7 = w := upd2_s
        unfold mm_advance_j162
        rw [f7, ← hw2]
        refine ok_ite (fun e9 => ok_some ?_) (fun e9 => ok_some ?_)
        · rw [if_pos e9]
          exact ⟨by rw [upd2_o (by omega), upd2_o (by omega), upd2_o (by omega)]; exact d4, by rw [upd2_o (by omega), upd2_o (by omega), upd2_s], upd2_s, fun x => by omega, fun _ => by rw [upd2_o (by omega), upd2_s], fun a j u => by rw [upd2_o (by omega), upd2_o (by omega), upd2_o (by omega)]; exact z _ _ u⟩
        · rw [if_neg e9]
          exact ⟨by rw [upd2_o (by omega), upd2_o (by omega), upd2_o (by omega)]; exact d4, by rw [upd2_o (by omega), upd2_o (by omega), upd2_s], upd2_s, fun x => by omega, fun _ => by rw [upd2_o (by omega), upd2_s], fun a j u => by rw [upd2_o (by omega), upd2_o (by omega), upd2_o (by omega)]; exact z _ _ u⟩
      show ok (if 8 < w32 ((upd2 G1 201 3 (nx (ltT n T) q) 201 3) - (upd2 G1 201 3 (nx (ltT n T) q) 201 4)) then mm_advance_j162 99 (upd2 G1 201 3 (nx (ltT n T) q)) else mm_advance_j162 (mm_wordOf x) (upd2 G1 201 3 (nx (ltT n T) q))) _
      rw [f3, f4, w32_id (by omega) (by omega)]
      refine ok_ite (fun e8 => ?_) (fun e8 => ?_)
      · exact fin 99 (by unfold wcT; rw [if_pos e8])
      · exact fin _ (by unfold wcT; rw [if_neg e8, hx (by omega)])
    · refine ok_ite (fun ed => ?_) (fun ed => ?_)
      · have ee : teT n T q = nx (dgT n T) q := by unfold teT; rw [if_neg en, if_neg el, if_pos ed]
        have et : tkT n T q = if nx (dgT n T) q - q ≤ 2 then 2 else 4 := by unfold tkT; rw [if_neg en, if_neg el, if_pos ed, ee]
        rw [et, ee]
        have hl := nx_dg (T := T) (show 0 ≤ q by omega) (show q ≤ n by omega) hn
        have e1 : upd2 G1 201 6 0 = upd2 (upd2 G1 201 3 q) 201 6 0 := by rw [upd2_id d3]
        rw [e1]
        refine mdigits hT (by omega) (by omega) d4 fun G' g1 g2 g3 => ?_
        have f4 : G' 201 4 = q := (g3 _ _ (by omega)).trans d4
        show ok (if 2 < w32 ((G' 201 3) - (G' 201 4)) then some (upd2 G' 201 5 4) else some (upd2 G' 201 5 1)) _
        rw [g2, f4, w32_id (by omega) (by omega)]
        refine ok_ite (fun e8 => ok_some ?_) (fun e8 => ok_some ?_)
        · rw [show (if nx (dgT n T) q - q ≤ 2 then (2 : Int) else 4) = 4 from if_neg (by omega)]
          exact ⟨by rw [upd2_o (by omega)]; exact f4, by rw [upd2_o (by omega)]; exact g2, upd2_s, fun x => by omega, fun x => by omega, fun a j u => by rw [upd2_o (by omega), g3 _ _ (by omega)]; exact z _ _ u⟩
        · rw [show (if nx (dgT n T) q - q ≤ 2 then (2 : Int) else 4) = 2 from if_pos (by omega)]
          exact ⟨by rw [upd2_o (by omega)]; exact f4, by rw [upd2_o (by omega)]; exact g2, upd2_s, fun x => by rw [upd2_o (by omega)]; exact g1 (by omega), fun x => by omega, fun a j u => by rw [upd2_o (by omega), g3 _ _ (by omega)]; exact z _ _ u⟩
      · have ee : teT n T q = q + 1 := by unfold teT; rw [if_neg en, if_neg el, if_neg ed]
        have et : tkT n T q = if T q = 59 then 3 else 4 := by unfold tkT; rw [if_neg en, if_neg el, if_neg ed]
        rw [et, ee, w32_id (z := q + 1) (by omega) (by omega)]
        refine ok_ite (fun e5 => ok_some ?_) (fun e5 => ok_some ?_)
        · rw [if_pos e5]
          exact ⟨by rw [upd2_o (by omega), upd2_o (by omega)]; exact d4, by rw [upd2_o (by omega), upd2_s], upd2_s, fun x => by omega, fun x => by omega, fun a j u => by rw [upd2_o (by omega), upd2_o (by omega)]; exact z _ _ u⟩
        · rw [if_neg e5]
          exact ⟨by rw [upd2_o (by omega), upd2_o (by omega)]; exact d4, by rw [upd2_o (by omega), upd2_s], upd2_s, fun x => by omega, fun x => by omega, fun a j u => by rw [upd2_o (by omega), upd2_o (by omega)]; exact z _ _ u⟩
end MMOVE
