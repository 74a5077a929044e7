theorem dnW_le {c : Int → Bool} : ∀ (m : Nat) (i : Int), dnW c m i ≤ i
  | 0, i => Int.le_refl i
  | m + 1, i => by
    unfold dnW
    split
    · have := dnW_le (c := c) m (i - 1)
      omega
    · exact Int.le_refl i
theorem dnW_ge {c : Int → Bool} : ∀ (m : Nat) (i : Int), -2 ≤ i → (-1 ≤ i → -1 ≤ dnW c m i) ∧ -2 ≤ dnW c m i
  | 0, i, h => ⟨id, h⟩
  | m + 1, i, h => by
    unfold dnW
    split
    · next q =>
      have := dnW_ge (c := c) m (i - 1) (by omega)
      exact ⟨fun _ => this.1 (by omega), this.2⟩
    · exact ⟨id, h⟩
theorem dnW_st {c : Int → Bool} {a : Int} (a0 : 0 ≤ a) (ha : c a = false) : ∀ (m : Nat) (i : Int), a ≤ i → a ≤ dnW c m i
  | 0, i, h => h
  | m + 1, i, h => by
    unfold dnW
    split
    · next q =>
      by_cases e : i = a
      · rw [e, ha] at q
        cases q.2
      · exact dnW_st a0 ha m (i - 1) (by omega)
    · exact h
theorem dnW_congr {c d : Int → Bool} : ∀ (m : Nat) (i : Int), (∀ j : Int, 0 ≤ j → j ≤ i → c j = d j) → dnW c m i = dnW d m i
  | 0, i, _ => rfl
  | m + 1, i, h => by
    unfold dnW
    by_cases h0 : 0 ≤ i
    · rw [h i h0 (Int.le_refl i), dnW_congr m (i - 1) (fun j j0 j1 => h j j0 (by omega))]
    · rw [if_neg (fun z => h0 z.1), if_neg (fun z => h0 z.1)]
theorem nxA_congr {n : Int} {row row' : Int → Int} (h : ∀ i, 0 ≤ i → i < n → row i = row' i) : nxA n row = nxA n row' := dnW_congr _ _ fun j j0 j1 => by rw [h j j0 (by omega), h (j + 1) (by omega) (by omega)]
theorem nxA_r {n : Int} (n0 : 0 ≤ n) (row : Int → Int) : -2 ≤ nxA n row ∧ nxA n row ≤ n - 2 := ⟨(dnW_ge 8 (n - 2) (by omega)).2, dnW_le 8 (n - 2)⟩
theorem nxO_r {n a : Int} {row : Int → Int} (a0 : 0 ≤ a) (a1 : a < n) : a ≤ nxO n row a ∧ nxO n row a ≤ n - 1 := ⟨dnW_st a0 (decide_eq_false (by omega)) 8 (n - 1) (by omega), dnW_le 8 (n - 1)⟩
theorem revF_congr {n : Int} : ∀ (m : Nat) (lo hi : Int) (row row' : Int → Int), 0 ≤ lo → hi < n → (∀ i, 0 ≤ i → i < n → row i = row' i) → ∀ i, 0 ≤ i → i < n → revF m lo hi row i = revF m lo hi row' i
  | 0, _, _, _, _, _, _, h => h
  | m + 1, lo, hi, row, row', l0, h1, h => by
    intro i i0 i1
    unfold revF
    by_cases q : lo < hi
    · rw [if_pos q, if_pos q]
      refine revF_congr m (lo + 1) (hi - 1) _ _ (by omega) (by omega) (fun k k0 k1 => ?_) i i0 i1
      unfold swpF
      rw [h lo l0 (by omega), h hi (by omega) h1, h k k0 k1]
    · rw [if_neg q, if_neg q]
      exact h i i0 i1
theorem nxR_congr {n : Int} {row row' : Int → Int} (h : ∀ i, 0 ≤ i → i < n → row i = row' i) (ha : 0 ≤ nxA n row) : ∀ i, 0 ≤ i → i < n → nxR n row i = nxR n row' i := by
  have hn : 0 ≤ n := by
    have := dnW_le (c := fun i => decide (row (i + 1) < row i)) 8 (n - 2)
    have e : nxA n row = dnW (fun i => decide (row (i + 1) < row i)) 8 (n - 2) := rfl
    omega
  have hr := nxA_r hn row
  have e := nxA_congr h
  have hO : nxO n row (nxA n row) = nxO n row' (nxA n row') := by
    rw [← e]
    refine dnW_congr _ _ fun j j0 j1 => ?_
    show decide (row j < row (nxA n row)) = decide (row' j < row' (nxA n row))
    rw [h j j0 (by omega), h (nxA n row) ha (by omega)]
  have hOr := nxO_r (row := row) ha (show nxA n row < n by omega)
  intro i i0 i1
  unfold nxR
  rw [← hO, ← e]
  refine revF_congr 4 _ _ _ _ (by omega) (by omega) (fun k k0 k1 => ?_) i i0 i1
  unfold swpF
  rw [h (nxA n row) ha (by omega), h _ (by omega) (by omega), h k k0 k1]
-- the class
section TURN
variable {G : Hp} {row : Int → Int} {Q : Int × Hp → Prop}
theorem turn7 {k : Int → Option (Int × Hp)} (hr : ∀ i, 0 ≤ i → i < 6 → G 81 i = row i) : ∀ (m nn : Nat) (i : Int), i < m → m < nn → -2 ≤ i → i ≤ 4 → ok (k (dnW (fun i => decide (row (i + 1) < row i)) m i)) Q → ok (cRw_turn_L7 G k nn i) Q := by
  intro m
  induction m with
  | zero =>
    intro nn i h1 h2 h3 h4 h
    obtain ⟨n', rfl⟩ : ∃ n', nn = n' + 1 := ⟨nn - 1, by omega⟩
    rw [cRw_turn_L7, if_pos (by omega)]
    exact h
  | succ m ih =>
    intro nn i h1 h2 h3 h4 h
    obtain ⟨n', rfl⟩ : ∃ n', nn = n' + 1 := ⟨nn - 1, by omega⟩
    rw [cRw_turn_L7]
    unfold dnW at h
    by_cases q : i < 0
    · rw [if_pos q]
      rw [if_neg (by omega)] at h
      exact h
    · rw [if_neg q, w32_id (z := i + 1) (by omega) (by omega), w32_id (z := i + -1) (by omega) (by omega), hr i (by omega) (by omega), hr (i + 1) (by omega) (by omega)]
      refine ok_gd (by omega) (by omega) (ok_gd (by omega) (by omega) (ok_ite (fun e => ?_) (fun e => ?_)))
      · rw [if_pos ⟨by omega, decide_eq_true e⟩] at h
        exact ih n' (i + -1) (by omega) (by omega) (by omega) (by omega) h
      · rw [if_neg (fun z => e (of_decide_eq_true z.2))] at h
        exact h
theorem turn47 {k : Int → Option (Int × Hp)} {a : Int} (a0 : 0 ≤ a) (hr : ∀ i, 0 ≤ i → i < 6 → G 81 i = row i) : ∀ (m nn : Nat) (i : Int), i < m → m < nn → a ≤ i → i ≤ 5 → ok (k (dnW (fun i => decide (row i < row a)) m i)) Q → ok (cRw_turn_L47 a G k nn i) Q := by
  intro m
  induction m with
  | zero =>
    intro nn i h1 h2 h3 h4 h
    omega
  | succ m ih =>
    intro nn i h1 h2 h3 h4 h
    obtain ⟨n', rfl⟩ : ∃ n', nn = n' + 1 := ⟨nn - 1, by omega⟩
    rw [cRw_turn_L47]
    unfold dnW at h
    by_cases q : a < i
    · rw [if_pos q, w32_id (z := i + -1) (by omega) (by omega), hr i (by omega) (by omega), hr a (by omega) (by omega)]
      refine ok_gd (by omega) (by omega) (ok_gd (by omega) (by omega) (ok_ite (fun e => ?_) (fun e => ?_)))
      · rw [if_pos ⟨by omega, decide_eq_true e⟩] at h
        exact ih n' (i + -1) (by omega) (by omega) (by omega) (by omega) h
      · rw [if_neg (fun z => e (of_decide_eq_true z.2))] at h
        exact h
    · rw [if_neg q]
      have e : i = a := by omega
      rw [if_neg (fun z => by have := of_decide_eq_true z.2; rw [e] at this; omega)] at h
      exact h
theorem swap_ok {a b : Int} (a0 : 0 ≤ a) (a1 : a < 6) (b0 : 0 ≤ b) (b1 : b < 6) (hr : ∀ i, 0 ≤ i → i < 6 → G 81 i = row i) : ok (cRw_swap a b G) (fun G' => (∀ i, 0 ≤ i → i < 6 → G' 81 i = swpF row a b i) ∧ ∀ x j, x ≠ 81 → G' x j = G x j) := by
  unfold cRw_swap
  rw [gd_ok a0 a1, gd_ok b0 b1, gd_ok a0 a1, gd_ok b0 b1]
  refine ok_some ⟨fun k k0 k1 => ?_, fun x j h => ?_⟩
  · unfold swpF
    by_cases h1 : k = b
    · rw [upd2_e rfl h1, if_pos h1, hr a a0 a1]
    · rw [upd2_o (by omega), if_neg h1]
      by_cases h2 : k = a
      · rw [upd2_e rfl h2, if_pos h2, hr b b0 b1]
      · rw [upd2_o (by omega), if_neg h2, hr k k0 k1]
  · rw [upd2_o (by omega), upd2_o (by omega)]
end TURN
theorem turn91 {a : Int} : ∀ (m nn : Nat) (lo hi : Int) (G : Hp) (row : Int → Int), hi - lo ≤ 2 * m → m < nn → 0 ≤ lo → hi ≤ 5 → lo ≤ 6 → -2 ≤ hi → (∀ i, 0 ≤ i → i < 6 → G 81 i = row i) → ok (cRw_turn_L91 a nn lo hi G) (fun x => x.1 = a ∧ (∀ i, 0 ≤ i → i < 6 → x.2 81 i = revF m lo hi row i) ∧ ∀ x' j, x' ≠ 81 → x.2 x' j = G x' j) := by
  intro m
  induction m with
  | zero =>
    intro nn lo hi G row h1 h2 h3 h4 h5 h6 hr
    obtain ⟨n', rfl⟩ : ∃ n', nn = n' + 1 := ⟨nn - 1, by omega⟩
    rw [cRw_turn_L91, if_neg (by omega)]
    exact ok_some ⟨rfl, hr, fun _ _ _ => rfl⟩
  | succ m ih =>
    intro nn lo hi G row h1 h2 h3 h4 h5 h6 hr
    obtain ⟨n', rfl⟩ : ∃ n', nn = n' + 1 := ⟨nn - 1, by omega⟩
    rw [cRw_turn_L91]
    unfold revF
    by_cases q : lo < hi
    · rw [if_pos q, if_pos q, w32_id (z := lo + 1) (by omega) (by omega), w32_id (z := hi + -1) (by omega) (by omega)]
      refine ok_then (swap_ok h3 (by omega) (by omega) (by omega) hr) fun G1 hG1 => ok_mono (ih n' (lo + 1) (hi + -1) G1 _ (by omega) (by omega) (by omega) (by omega) (by omega) (by omega) hG1.1) fun x hx => ⟨hx.1, hx.2.1, fun x' j z => (hx.2.2 x' j z).trans (hG1.2 x' j z)⟩
    · rw [if_neg q, if_neg q]
      exact ok_some ⟨rfl, hr, fun _ _ _ => rfl⟩
theorem turn_ok {G : Hp} {n : Int} {row : Int → Int} (n0 : 0 ≤ n) (n1 : n ≤ 6) (hn : G 80 2 = n) (hr : ∀ i, 0 ≤ i → i < 6 → G 81 i = row i) : ok (cRw_turn G) (fun x => (nxA n row < 0 → x = (-1, G)) ∧ (0 ≤ nxA n row → x.1 = nxA n row ∧ (∀ i, 0 ≤ i → i < 6 → x.2 81 i = nxR n row i) ∧ ∀ a j, a ≠ 81 → x.2 a j = G a j)) := by
  unfold cRw_turn
  rw [hn, w32_id (z := n - 2) (by omega) (by omega), w32_id (z := n - 1) (by omega) (by omega)]
  refine turn7 hr 8 FU (n - 2) (by omega) (by decide) (by omega) (by omega) ?_
  have hA := nxA_r n0 row
  rw [show dnW (fun i => decide (row (i + 1) < row i)) 8 (n - 2) = nxA n row from rfl]
  refine ok_ite (fun e => ok_some ⟨fun _ => rfl, fun z => by omega⟩) (fun e => ?_)
  have a0 : 0 ≤ nxA n row := by omega
  refine turn47 a0 hr 8 FU (n - 1) (by omega) (by decide) (by omega) (by omega) ?_
  have hO := nxO_r (row := row) a0 (show nxA n row < n by omega)
  rw [show dnW (fun i => decide (row i < row (nxA n row))) 8 (n - 1) = nxO n row (nxA n row) from rfl]
  refine ok_then (swap_ok a0 (by omega) (by omega) (by omega) hr) fun G1 hG1 => ?_
  rw [hG1.2 _ _ (by omega), hn, w32_id (z := nxA n row + 1) (by omega) (by omega), w32_id (z := n - 1) (by omega) (by omega)]
  refine ok_mono (turn91 4 FU (nxA n row + 1) (n - 1) G1 _ (by omega) (by decide) (by omega) (by omega) (by omega) (by omega) hG1.1) fun x hx => ⟨fun z => by omega, fun _ => ⟨hx.1, hx.2.1, fun a j z => (hx.2.2 a j z).trans (hG1.2 a j z)⟩⟩
-- the model
section NEXT
variable {G : Hp} {row : Int → Int} {Q : Bool × Hp → Prop}
theorem next7 {k : Int → Option (Bool × Hp)} (hr : ∀ i, 0 ≤ i → i < 6 → G 213 i = row i) : ∀ (m nn : Nat) (i : Int), i < m → m < nn → -2 ≤ i → i ≤ 4 → ok (k (dnW (fun i => decide (row (i + 1) < row i)) m i)) Q → ok (mm_nextRow_L7 G k nn i) Q := by
  intro m
  induction m with
  | zero =>
    intro nn i h1 h2 h3 h4 h
    obtain ⟨n', rfl⟩ : ∃ n', nn = n' + 1 := ⟨nn - 1, by omega⟩
    rw [mm_nextRow_L7, if_pos (by omega)]
    exact h
  | succ m ih =>
    intro nn i h1 h2 h3 h4 h
    obtain ⟨n', rfl⟩ : ∃ n', nn = n' + 1 := ⟨nn - 1, by omega⟩
    rw [mm_nextRow_L7]
    unfold dnW at h
    by_cases q : i < 0
    · rw [if_pos q]
      rw [if_neg (by omega)] at h
      exact h
    · rw [if_neg q, w32_id (z := i + 1) (by omega) (by omega), w32_id (z := i + -1) (by omega) (by omega), hr i (by omega) (by omega), hr (i + 1) (by omega) (by omega)]
      refine ok_gd (by omega) (by omega) (ok_gd (by omega) (by omega) (ok_ite (fun e => ?_) (fun e => ?_)))
      · rw [if_pos ⟨by omega, decide_eq_true e⟩] at h
        exact ih n' (i + -1) (by omega) (by omega) (by omega) (by omega) h
      · rw [if_neg (fun z => e (of_decide_eq_true z.2))] at h
        exact h
theorem next47 {k : Int → Option (Bool × Hp)} {a : Int} (a0 : 0 ≤ a) (hr : ∀ i, 0 ≤ i → i < 6 → G 213 i = row i) : ∀ (m nn : Nat) (i : Int), i < m → m < nn → a ≤ i → i ≤ 5 → ok (k (dnW (fun i => decide (row i < row a)) m i)) Q → ok (mm_nextRow_L47 a G k nn i) Q := by
  intro m
  induction m with
  | zero =>
    intro nn i h1 h2 h3 h4 h
    omega
  | succ m ih =>
    intro nn i h1 h2 h3 h4 h
    obtain ⟨n', rfl⟩ : ∃ n', nn = n' + 1 := ⟨nn - 1, by omega⟩
    rw [mm_nextRow_L47]
    unfold dnW at h
    rw [w32_id (z := i + -1) (by omega) (by omega), hr i (by omega) (by omega), hr a (by omega) (by omega)]
    refine ok_gd (by omega) (by omega) (ok_gd (by omega) (by omega) (ok_ite (fun e => ?_) (fun e => ?_)))
    · rw [if_pos ⟨by omega, decide_eq_true e⟩] at h
      have : i ≠ a := fun z => by rw [z] at e; omega
      exact ih n' (i + -1) (by omega) (by omega) (by omega) (by omega) h
    · rw [if_neg (fun z => e (of_decide_eq_true z.2))] at h
      exact h
end NEXT
theorem next86 : ∀ (m nn : Nat) (lo hi : Int) (G : Hp) (row : Int → Int), hi - lo ≤ 2 * m → m < nn → 0 ≤ lo → hi ≤ 5 → lo ≤ 6 → -2 ≤ hi → (∀ i, 0 ≤ i → i < 6 → G 213 i = row i) → ok (mm_nextRow_L86 nn lo hi G) (fun x => x.1 = true ∧ (∀ i, 0 ≤ i → i < 6 → x.2 213 i = revF m lo hi row i) ∧ ∀ x' j, x' ≠ 213 → x.2 x' j = G x' j) := by
  intro m
  induction m with
  | zero =>
    intro nn lo hi G row h1 h2 h3 h4 h5 h6 hr
    obtain ⟨n', rfl⟩ : ∃ n', nn = n' + 1 := ⟨nn - 1, by omega⟩
    rw [mm_nextRow_L86, if_neg (by omega)]
    exact ok_some ⟨rfl, hr, fun _ _ _ => rfl⟩
  | succ m ih =>
    intro nn lo hi G row h1 h2 h3 h4 h5 h6 hr
    obtain ⟨n', rfl⟩ : ∃ n', nn = n' + 1 := ⟨nn - 1, by omega⟩
    rw [mm_nextRow_L86]
    unfold revF
    by_cases q : lo < hi
    · rw [if_pos q, if_pos q, w32_id (z := lo + 1) (by omega) (by omega), w32_id (z := hi + -1) (by omega) (by omega)]
      refine ok_then (mswap_ok h3 (by omega) (by omega) (by omega) hr) fun G1 hG1 => ok_mono (ih n' (lo + 1) (hi + -1) G1 (swpF row lo hi) (by omega) (by omega) (by omega) (by omega) (by omega) (by omega) hG1.1) fun x hx => ⟨hx.1, hx.2.1, fun x' j z => (hx.2.2 x' j z).trans (hG1.2 x' j z)⟩
    · rw [if_neg q, if_neg q]
      exact ok_some ⟨rfl, hr, fun _ _ _ => rfl⟩
theorem nextRow_ok {G : Hp} {n : Int} {row : Int → Int} (n0 : 0 ≤ n) (n1 : n ≤ 6) (hn : G 201 14 = n) (hr : ∀ i, 0 ≤ i → i < 6 → G 213 i = row i) : ok (mm_nextRow G) (fun x => (nxA n row < 0 → x = (false, G)) ∧ (0 ≤ nxA n row → x.1 = true ∧ (∀ i, 0 ≤ i → i < 6 → x.2 213 i = nxR n row i) ∧ ∀ a j, a ≠ 213 → x.2 a j = G a j)) := by
  unfold mm_nextRow
  rw [hn, w32_id (z := n - 2) (by omega) (by omega), w32_id (z := n - 1) (by omega) (by omega)]
  refine next7 hr 8 FU (n - 2) (by omega) (by decide) (by omega) (by omega) ?_
  have hA := nxA_r n0 row
  rw [show dnW (fun i => decide (row (i + 1) < row i)) 8 (n - 2) = nxA n row from rfl]
  refine ok_ite (fun e => ok_some ⟨fun _ => rfl, fun z => by omega⟩) (fun e => ?_)
  have a0 : 0 ≤ nxA n row := by omega
  refine next47 a0 hr 8 FU (n - 1) (by omega) (by decide) (by omega) (by omega) ?_
  have hO := nxO_r (row := row) a0 (show nxA n row < n by omega)
  rw [show dnW (fun i => decide (row i < row (nxA n row))) 8 (n - 1) = nxO n row (nxA n row) from rfl]
  refine ok_then (mswap_ok a0 (by omega) (by omega) (by omega) hr) fun G1 hG1 => ?_
  rw [hG1.2 _ _ (by omega), hn, w32_id (z := nxA n row + 1) (by omega) (by omega), w32_id (z := n - 1) (by omega) (by omega)]
  refine ok_mono (next86 4 FU (nxA n row + 1) (n - 1) G1 (swpF row (nxA n row) (nxO n row (nxA n row))) (by omega) (by decide) (by omega) (by omega) (by omega) (by omega) hG1.1) fun x hx => ⟨fun z => by omega, fun _ => ⟨hx.1, hx.2.1, fun a j z => (hx.2.2 a j z).trans (hG1.2 a j z)⟩⟩
-- the table by places
def rk (n : Nat) (k : Int) : Int → Int := lf (PRk n k)
theorem chain_at {n : Nat} : ∀ (l : List (List Int)), chain n l = true → 1 ≤ l.length ∧ (∀ k : Nat, k + 1 < l.length → okStep n (l.getD k []) (l.getD (k + 1) []) = true) ∧ nxA (n : Int) (lf (l.getD (l.length - 1) [])) < 0
  | [], h => by cases h
  | [L], h => ⟨Nat.le_refl 1, fun k hk => absurd hk (by simp), by
    have h2 : decide (nxA (n : Int) (lf L) < 0) = true := h
    exact of_decide_eq_true h2⟩
  | L :: L' :: t, h => by
    have h2 : (okStep n L L' && chain n (L' :: t)) = true := h
    rw [Bool.and_eq_true] at h2
    obtain ⟨i1, i2, i3⟩ := chain_at (L' :: t) h2.2
    refine ⟨by simp, fun k hk => ?_, ?_⟩
    · cases k with
      | zero => exact h2.1
      | succ k =>
        have hk' : k + 1 < (L' :: t).length := by simpa using hk
        exact i2 k hk'
    · have e : (L :: L' :: t).length - 1 = ((L' :: t).length - 1) + 1 := by simp
      rw [e]
      exact i3
section RK
variable {n : Nat}
theorem PRm_r (hn : n ≤ 6) : 1 ≤ PRm n ∧ PRm n ≤ 720 := PRm_t ⟨n, by omega⟩
theorem rk_in {k : Int} (k0 : 0 ≤ k) (k1 : k < PRm n) : PRk n k ∈ PR n := by
  unfold PRm at k1
  unfold PRk
  have h : k.toNat < (PR n).length := by omega
  rw [List.getD_eq_getElem?_getD, List.getElem?_eq_getElem h, Option.getD_some]
  exact List.getElem_mem h
theorem rk_ok (hn : n ≤ 6) {k : Int} (k0 : 0 ≤ k) (k1 : k < PRm n) : rowOK n (PRk n k) = true := by
  have h := rowOK_t ⟨n, by omega⟩
  exact List.all_eq_true.mp h _ (rk_in k0 k1)
theorem rk_all (hn : n ≤ 6) {k i : Int} (k0 : 0 ≤ k) (k1 : k < PRm n) (i0 : 0 ≤ i) (i1 : i < n) : (0 ≤ rk n k i ∧ rk n k i < n) ∧ (∀ j : Int, 0 ≤ j → j < n → rk n k i = rk n k j → i = j) ∧ (∃ j : Int, 0 ≤ j ∧ j < n ∧ rk n k j = i) ∧ dgF (rk n k) n / 10 ^ (n - 1 - i.toNat) % 10 = rk n k i := by
  have h := List.all_eq_true.mp (rk_ok hn k0 k1) i.toNat (List.mem_range.mpr (by omega))
  have e : ((i.toNat : Nat) : Int) = i := by omega
  rw [e] at h
  simp only [Bool.and_eq_true, decide_eq_true_eq] at h
  obtain ⟨h1, h2, h3, h4, h5⟩ := h
  refine ⟨⟨h1, h2⟩, fun j j0 j1 hj => ?_, ?_, h5⟩
  · have := List.all_eq_true.mp h3 j.toNat (List.mem_range.mpr (by omega))
    have e2 : ((j.toNat : Nat) : Int) = j := by omega
    rw [e2, decide_eq_true_eq] at this
    have := this hj
    omega
  · obtain ⟨j, hj1, hj2⟩ := List.any_eq_true.mp h4
    have := List.mem_range.mp hj1
    exact ⟨(j : Int), by omega, by omega, of_decide_eq_true hj2⟩
theorem rk_dgr (hn : n ≤ 6) {k : Int} (k0 : 0 ≤ k) (k1 : k < PRm n) : 0 ≤ dgF (rk n k) n ∧ dgF (rk n k) n ≤ 2000000 := by
  have h := List.all_eq_true.mp (dg_t ⟨n, by omega⟩) _ (rk_in k0 k1)
  simp only [Bool.and_eq_true, decide_eq_true_eq] at h
  exact h
theorem rk_0 (hn : n ≤ 6) {i : Int} (i0 : 0 ≤ i) (i1 : i < n) : rk n 0 i = i := by
  have h := List.all_eq_true.mp (PR0_t ⟨n, by omega⟩) i.toNat (List.mem_range.mpr (by show i.toNat < n; omega))
  have e : ((i.toNat : Nat) : Int) = i := by omega
  rw [e] at h
  exact of_decide_eq_true h
theorem rk_step (hn : n ≤ 6) {k : Int} (k0 : 0 ≤ k) (k1 : k + 1 < PRm n) : 0 ≤ nxA n (rk n k) ∧ ∀ i : Int, 0 ≤ i → i < n → nxR n (rk n k) i = rk n (k + 1) i ∧ (i < nxA n (rk n k) → rk n (k + 1) i = rk n k i) := by
  have h := (chain_at _ (chain_t ⟨n, by omega⟩)).2.1 k.toNat (by unfold PRm at k1; show k.toNat + 1 < (PR n).length; omega)
  have e : (PR n).getD (k.toNat + 1) [] = PRk n (k + 1) := by
    unfold PRk
    rw [show (k + 1).toNat = k.toNat + 1 by omega]
  have h2 : okStep n (PRk n k) (PRk n (k + 1)) = true := by
    rw [← e]
    exact h
  unfold okStep at h2
  rw [Bool.and_eq_true, decide_eq_true_eq] at h2
  refine ⟨h2.1, fun i i0 i1 => ?_⟩
  have h3 := List.all_eq_true.mp h2.2 i.toNat (List.mem_range.mpr (by omega))
  have e2 : ((i.toNat : Nat) : Int) = i := by omega
  rw [e2] at h3
  simp only [Bool.and_eq_true, Bool.or_eq_true, decide_eq_true_eq] at h3
  refine ⟨h3.1, fun hi => ?_⟩
  rcases h3.2 with q | q
  · exact absurd hi (by show ¬ i < nxA n (lf (PRk n k)); omega)
  · exact q
theorem rk_last (hn : n ≤ 6) {k : Int} (k0 : k + 1 = PRm n) : nxA n (rk n k) < 0 := by
  have h := (chain_at _ (chain_t ⟨n, by omega⟩)).2.2
  have e : (PR n).length - 1 = k.toNat := by
    unfold PRm at k0
    omega
  have h2 : nxA (n : Int) (lf ((PR n).getD ((PR n).length - 1) [])) < 0 := h
  rw [e] at h2
  exact h2
end RK
