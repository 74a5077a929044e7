-- loops that count up, and down
theorem lp_upm {σ α : Type} {Q : α → Prop} (L : Nat → Int → σ → Option α) (N : Int) (I : Int → σ → Prop)
    (hs : ∀ (n : Nat) (i : Int) (s : σ), 0 ≤ i → i < N → I i s → (∀ s', I (i + 1) s' → ok (L n (i + 1) s') Q) → ok (L (n + 1) i s) Q)
    (he : ∀ (n : Nat) (s : σ), I N s → ok (L (n + 1) N s) Q) :
    ∀ (m n : Nat) (i : Int) (s : σ), m < n → 0 ≤ i → i + m = N → I i s → ok (L n i s) Q := by
  intro m
  induction m with
  | zero =>
    intro n i s hn h0 hi h
    obtain ⟨n', rfl⟩ : ∃ n', n = n' + 1 := ⟨n - 1, by omega⟩
    have e : i = N := by omega
    subst e
    exact he n' s h
  | succ m ih =>
    intro n i s hn h0 hi h
    obtain ⟨n', rfl⟩ : ∃ n', n = n' + 1 := ⟨n - 1, by omega⟩
    exact hs n' i s h0 (by omega) h fun s' h' => ih n' (i + 1) s' (by omega) (by omega) (by omega) h'
theorem lp_up {σ α : Type} {Q : α → Prop} (L : Nat → Int → σ → Option α) (N : Int) (I : Int → σ → Prop)
    (hs : ∀ (n : Nat) (i : Int) (s : σ), 0 ≤ i → i < N → I i s → (∀ s', I (i + 1) s' → ok (L n (i + 1) s') Q) → ok (L (n + 1) i s) Q)
    (he : ∀ (n : Nat) (s : σ), I N s → ok (L (n + 1) N s) Q)
    {i : Int} {s : σ} (hN : N ≤ 90000) (h0 : 0 ≤ i) (h1 : i ≤ N) (hI : I i s) : ok (L FU i s) Q :=
  lp_upm L N I hs he (N - i).toNat FU i s (by show (N - i).toNat < 100000; omega) h0 (by omega) hI
theorem lp_dnm {σ α : Type} {Q : α → Prop} (L : Nat → Int → σ → Option α) (I : Int → σ → Prop)
    (hs : ∀ (n : Nat) (i : Int) (s : σ), 0 ≤ i → I i s → (∀ s', I (i - 1) s' → ok (L n (i + (-1)) s') Q) → ok (L (n + 1) i s) Q)
    (he : ∀ (n : Nat) (s : σ), I (-1) s → ok (L (n + 1) (-1) s) Q) :
    ∀ (m n : Nat) (i : Int) (s : σ), m < n → i + 1 = m → I i s → ok (L n i s) Q := by
  intro m
  induction m with
  | zero =>
    intro n i s hn hi h
    obtain ⟨n', rfl⟩ : ∃ n', n = n' + 1 := ⟨n - 1, by omega⟩
    have e : i = -1 := by omega
    subst e
    exact he n' s h
  | succ m ih =>
    intro n i s hn hi h
    obtain ⟨n', rfl⟩ : ∃ n', n = n' + 1 := ⟨n - 1, by omega⟩
    exact hs n' i s (by omega) h fun s' h' => ih n' (i + (-1)) s' (by omega) (by omega) h'
theorem lp_dn {σ α : Type} {Q : α → Prop} (L : Nat → Int → σ → Option α) (I : Int → σ → Prop)
    (hs : ∀ (n : Nat) (i : Int) (s : σ), 0 ≤ i → I i s → (∀ s', I (i - 1) s' → ok (L n (i + (-1)) s') Q) → ok (L (n + 1) i s) Q)
    (he : ∀ (n : Nat) (s : σ), I (-1) s → ok (L (n + 1) (-1) s) Q)
    {i : Int} {s : σ} (h0 : -1 ≤ i) (h1 : i ≤ 90000) (hI : I i s) : ok (L FU i s) Q :=
  lp_dnm L I hs he (i + 1).toNat FU i s (by show (i + 1).toNat < 100000; omega) (by omega) hI
theorem ok_iff {α : Type} {X : Option α} {a : α} (h : ok X (fun r => r = a)) : X = some a := by
  obtain ⟨r, h1, h2⟩ := h
  rw [h1, h2]
-- the model: how far words are
theorem iand1_1 {x k : Int} {n : Nat} (hx : Mk n x) (hn : n ≤ 31) (h0 : 0 ≤ k) (h1 : k < 32) : (iand (ishr x k) 1 = 1) ↔ bt x k = true := by
  rw [tst hx hn h0 h1]
  cases bt x k <;> simp [b2i]
section LAYS
variable {Q : Hp → Prop}
theorem lS14 {a x2 : Int} {k : Hp → Option Hp} {G : Hp} (a0 : 0 ≤ a) (a1 : a < 10)
    (hk : ∀ G' : Hp, (∀ o j, o ≠ 206 ∨ j < 10 * a ∨ 10 * a + 10 ≤ j → G' o j = G o j) → (∀ w, 0 ≤ w → w < 10 → G' 206 (10 * a + w) = if a = w then 0 else -1) → ok (k G') Q) :
    ok (mm_laysSteps_L14 a x2 k FU 0 G) Q := by
  refine lp_up (fun n i (s : Hp) => mm_laysSteps_L14 a x2 k n i s) 10 (fun i G' => (∀ o j, o ≠ 206 ∨ j < 10 * a ∨ 10 * a + 10 ≤ j → G' o j = G o j) ∧ ∀ w, 0 ≤ w → w < i → G' 206 (10 * a + w) = if a = w then 0 else -1) ?_ ?_ (by omega) (by omega) (by omega) ⟨fun _ _ _ => rfl, fun w h0 h1 => by omega⟩
  · intro n i s i0 i1 hI ih
    obtain ⟨h1, h2⟩ := hI
    show ok (mm_laysSteps_L14 a x2 k (n + 1) i s) Q
    rw [mm_laysSteps_L14, if_pos i1]
    simp (disch := omega) only [w32_id]
    have key : ∀ v : Int, v = (if a = i then 0 else -1) → ok (gd (10 * a + i) 100 (mm_laysSteps_L14 a x2 k n (i + 1) (upd2 s 206 (10 * a + i) v))) Q := by
      intro v hv
      refine ok_gd (by omega) (by omega) (ih _ ⟨fun o j h => ?_, fun w w0 w1 => ?_⟩)
      · rw [upd2_o (by omega)]
        exact h1 o j h
      · by_cases hw : w = i
        · subst hw
          rw [upd2_e rfl rfl, hv]
        · rw [upd2_o (by omega)]
          exact h2 w w0 (by omega)
    refine ok_ite (fun h => key 0 ?_) (fun h => key (-1) ?_)
    · rw [if_pos h]
    · rw [if_neg h]
  · intro n s hI
    show ok (mm_laysSteps_L14 a x2 k (n + 1) 10 s) Q
    rw [mm_laysSteps_L14, if_neg (by omega)]
    exact hk s hI.1 hI.2
theorem lS61 {N : Int → Int} {a x2 x3 : Int} {k : Int → Option Hp} {G : Hp} {m : Nat} (hN : NW N) (hG : ∀ w, 0 ≤ w → w < 10 → G 205 w = N w) (hm : Mk 10 x2) (hb : ∀ w, 0 ≤ w → w < 10 → bt x2 w = rch N a m w)
    (hk : ∀ x4, Mk 10 x4 → (∀ w, 0 ≤ w → w < 10 → bt x4 w = rch N a (m + 1) w) → ok (k x4) Q) :
    ok (mm_laysSteps_L61 a x2 x3 G k FU x2 0) Q := by
  refine lp_up (fun n i (s : Int) => mm_laysSteps_L61 a x2 x3 G k n s i) 10 (fun i s => Mk 10 s ∧ ∀ w, 0 ≤ w → w < 10 → bt s w = (rch N a m w || anyB (fun v => rch N a m v && bt (N v) w) i.toNat)) ?_ ?_ (by omega) (by omega) (by omega) ⟨hm, fun w w0 w1 => by rw [hb w w0 w1]; simp [anyB]⟩
  · intro n i s i0 i1 hI ih
    obtain ⟨h1, h2⟩ := hI
    show ok (mm_laysSteps_L61 a x2 x3 G k (n + 1) s i) Q
    rw [mm_laysSteps_L61, if_pos i1]
    simp (disch := omega) only [w32_id]
    have et : (i + 1).toNat = i.toNat + 1 := by omega
    have ei : ((i.toNat : Nat) : Int) = i := by omega
    refine ok_ite (fun h => ok_gd (by omega) (by omega) (ih _ ⟨?_, fun w w0 w1 => ?_⟩)) (fun h => ih _ ⟨?_, fun w w0 w1 => ?_⟩)
    · rw [hG i i0 i1]
      exact h1.or (hN.1 i i0 i1) (by omega)
    · rw [hG i i0 i1, bt_or h1 (hN.1 i i0 i1) (by omega) (by omega), h2 w w0 w1, et]
      show _ = (rch N a m w || (anyB (fun v => rch N a m v && bt (N v) w) i.toNat || (rch N a m ((i.toNat : Nat) : Int) && bt (N ((i.toNat : Nat) : Int)) w)))
      rw [ei, ← hb i i0 i1, (iand1_1 hm (by omega) i0 (by omega)).mp h, Bool.true_and, Bool.or_assoc]
    · exact h1.or (Mk.zero 10) (by omega)
    · have hf : bt x2 i = false := by
        cases hq : bt x2 i with
        | false => rfl
        | true => exact absurd ((iand1_1 hm (by omega) i0 (by omega)).mpr hq) h
      rw [bt_or h1 (Mk.zero 10) (by omega) (by omega), bt_zero, Bool.or_false, h2 w w0 w1, et]
      show _ = (rch N a m w || (anyB (fun v => rch N a m v && bt (N v) w) i.toNat || (rch N a m ((i.toNat : Nat) : Int) && bt (N ((i.toNat : Nat) : Int)) w)))
      rw [ei, ← hb i i0 i1, hf, Bool.false_and, Bool.or_false]
  · intro n s hI
    show ok (mm_laysSteps_L61 a x2 x3 G k (n + 1) s 10) Q
    rw [mm_laysSteps_L61, if_neg (by omega)]
    exact hk s hI.1 hI.2
theorem lS103 {N : Int → Int} {a x2 x4 d : Int} {k : Hp → Option Hp} {G : Hp} (a0 : 0 ≤ a) (a1 : a < 10) (d0 : 1 ≤ d) (d1 : d < 10) (h2 : Mk 10 x2) (h4 : Mk 10 x4) (hb2 : ∀ w, 0 ≤ w → w < 10 → bt x2 w = rch N a (d - 1).toNat w) (hb4 : ∀ w, 0 ≤ w → w < 10 → bt x4 w = rch N a ((d - 1).toNat + 1) w)
    (hk : ∀ G' : Hp, (∀ o j, o ≠ 206 ∨ j < 10 * a ∨ 10 * a + 10 ≤ j → G' o j = G o j) → (∀ w, 0 ≤ w → w < 10 → G' 206 (10 * a + w) = if dst N a w = d then d else G 206 (10 * a + w)) → ok (k G') Q) :
    ok (mm_laysSteps_L103 a x2 d x4 k FU 0 G) Q := by
  obtain ⟨c1, c2⟩ := clr_nn h4 h2 (by omega)
  have hd : ∀ w, 0 ≤ w → w < 10 → bt (iand x4 (ixor x2 (-1))) w = decide (dst N a w = d) := by
    intro w w0 w1
    have e1 : (d - 1).toNat + 1 = d.toNat := by omega
    have e2 : ((d.toNat : Nat) : Int) = d := by omega
    rw [c2 w w0, hb4 w w0 w1, hb2 w w0 w1, e1]
    have := dst_iff (N := N) (a := a) (w := w) (k := d.toNat) (by omega)
    rw [e2] at this
    have e3 : (d - 1).toNat = d.toNat - 1 := by omega
    rw [e3]
    cases q1 : rch N a d.toNat w with
    | false =>
      have : ¬ dst N a w = d := fun z => by
        have := (this.mp z).1
        rw [q1] at this
        cases this
      simp [this]
    | true =>
      cases q2 : rch N a (d.toNat - 1) w with
      | true =>
        have : ¬ dst N a w = d := fun z => by
          rcases (this.mp z).2 with q | q
          · omega
          · rw [q2] at q
            cases q
        simp [this]
      | false =>
        have : dst N a w = d := this.mpr ⟨q1, Or.inr q2⟩
        simp [this]
  refine lp_up (fun n i (s : Hp) => mm_laysSteps_L103 a x2 d x4 k n i s) 10 (fun i G' => (∀ o j, o ≠ 206 ∨ j < 10 * a ∨ 10 * a + 10 ≤ j → G' o j = G o j) ∧ ∀ w, 0 ≤ w → w < 10 → G' 206 (10 * a + w) = if w < i ∧ dst N a w = d then d else G 206 (10 * a + w)) ?_ ?_ (by omega) (by omega) (by omega) ⟨fun _ _ _ => rfl, fun w w0 w1 => by rw [if_neg (by omega)]⟩
  · intro n i s i0 i1 hI ih
    obtain ⟨h1, h2⟩ := hI
    show ok (mm_laysSteps_L103 a x2 d x4 k (n + 1) i s) Q
    rw [mm_laysSteps_L103, if_pos i1]
    simp (disch := omega) only [w32_id]
    refine ok_ite (fun h => ok_gd (by omega) (by omega) (ih _ ⟨fun o j h => ?_, fun w w0 w1 => ?_⟩)) (fun h => ih _ ⟨h1, fun w w0 w1 => ?_⟩)
    · rw [upd2_o (by omega)]
      exact h1 o j h
    · have e := (iand1_1 c1 (by omega) i0 (by omega)).mp h
      rw [hd i i0 i1, decide_eq_true_eq] at e
      by_cases hw : w = i
      · subst hw
        rw [upd2_e rfl rfl, if_pos ⟨by omega, e⟩]
      · rw [upd2_o (by omega), h2 w w0 w1]
        by_cases q : w < i ∧ dst N a w = d
        · rw [if_pos q, if_pos ⟨by omega, q.2⟩]
        · rw [if_neg q, if_neg (fun z => q ⟨by omega, z.2⟩)]
    · rw [h2 w w0 w1]
      by_cases hw : w = i
      · subst hw
        have : ¬ dst N a w = d := fun z => h ((iand1_1 c1 (by omega) i0 (by omega)).mpr (by rw [hd w i0 i1]; exact decide_eq_true z))
        rw [if_neg (by omega), if_neg (fun z => this z.2)]
      · by_cases q : w < i ∧ dst N a w = d
        · rw [if_pos q, if_pos ⟨by omega, q.2⟩]
        · rw [if_neg q, if_neg (fun z => q ⟨by omega, z.2⟩)]
  · intro n s hI
    show ok (mm_laysSteps_L103 a x2 d x4 k (n + 1) 10 s) Q
    rw [mm_laysSteps_L103, if_neg (by omega)]
    refine hk s hI.1 fun w w0 w1 => ?_
    rw [hI.2 w w0 w1]
    by_cases q : dst N a w = d
    · rw [if_pos ⟨w1, q⟩, if_pos q]
    · rw [if_neg (fun z => q z.2), if_neg q]
theorem lS49 {N : Int → Int} {a : Int} {k : Hp → Option Hp} {G : Hp} (hN : NW N) (a0 : 0 ≤ a) (a1 : a < 10) (hG : ∀ w, 0 ≤ w → w < 10 → G 205 w = N w) (hG2 : ∀ w, 0 ≤ w → w < 10 → G 206 (10 * a + w) = if a = w then 0 else -1)
    (hk : ∀ G' : Hp, (∀ o j, o ≠ 206 ∨ j < 10 * a ∨ 10 * a + 10 ≤ j → G' o j = G o j) → (∀ w, 0 ≤ w → w < 10 → G' 206 (10 * a + w) = dst N a w) → ok (k G') Q) :
    ok (mm_laysSteps_L49 a k FU (ishl 1 a) 1 G) Q := by
  refine lp_up (fun n i (s : Int × Hp) => mm_laysSteps_L49 a k n s.1 i s.2) 10 (fun i s => 1 ≤ i ∧ Mk 10 s.1 ∧ (∀ w, 0 ≤ w → w < 10 → bt s.1 w = rch N a (i - 1).toNat w) ∧ (∀ o j, o ≠ 206 ∨ j < 10 * a ∨ 10 * a + 10 ≤ j → s.2 o j = G o j) ∧ ∀ w, 0 ≤ w → w < 10 → s.2 206 (10 * a + w) = if dst N a w < i then dst N a w else -1) ?_ ?_ (by omega) (by omega) (by omega) (s := (ishl 1 a, G)) ⟨by omega, Mk.shl a0 a1 (by omega), fun w w0 w1 => ?_, fun _ _ _ => rfl, fun w w0 w1 => ?_⟩
  · intro n i s i0 i1 hI ih
    obtain ⟨x2, G1⟩ := s
    obtain ⟨h0, h1, h2, h3, h4⟩ := hI
    simp only at h1 h2 h3 h4
    show ok (mm_laysSteps_L49 a k (n + 1) x2 i G1) Q
    rw [mm_laysSteps_L49, if_pos i1]
    simp (disch := omega) only [w32_id]
    refine lS61 (N := N) (m := (i - 1).toNat) hN (fun w w0 w1 => by rw [h3 _ _ (by omega)]; exact hG w w0 w1) h1 h2 fun x4 g1 g2 => ?_
    refine lS103 (N := N) a0 a1 h0 i1 h1 g1 h2 g2 fun G2 f1 f2 => ih (x4, G2) ⟨by omega, g1, fun w w0 w1 => ?_, fun o j h => ?_, fun w w0 w1 => ?_⟩
    · rw [g2 w w0 w1, show (i + 1 - 1).toNat = (i - 1).toNat + 1 by omega]
    · show G2 o j = _
      rw [f1 o j h]
      exact h3 o j h
    · show G2 206 (10 * a + w) = _
      rw [f2 w w0 w1]
      have e := h4 w w0 w1
      by_cases q : dst N a w = i
      · rw [if_pos q, if_pos (by omega), q]
      · rw [if_neg q]
        rw [e]
        by_cases q2 : dst N a w < i
        · rw [if_pos q2, if_pos (by omega)]
        · rw [if_neg q2, if_neg (by omega)]
  · intro n s hI
    obtain ⟨x2, G1⟩ := s
    obtain ⟨h0, h1, h2, h3, h4⟩ := hI
    simp only at h1 h2 h3 h4
    show ok (mm_laysSteps_L49 a k (n + 1) x2 10 G1) Q
    rw [mm_laysSteps_L49, if_neg (by omega)]
    refine hk G1 h3 fun w w0 w1 => ?_
    rw [h4 w w0 w1]
    have := dst_r N a w
    rw [if_pos (by omega)]
  · show bt (ishl 1 a) w = decide (w = a)
    exact bt_shl a0 (by omega) w0
  · show G 206 (10 * a + w) = _
    rw [hG2 w w0 w1]
    have hr := dst_r N a w
    by_cases e : a = w
    · subst e
      rw [if_pos rfl, dst_self, if_pos (by omega)]
    · rw [if_neg e]
      by_cases q : dst N a w < 1
      · rw [if_pos q]
        by_cases q0 : dst N a w = 0
        · exfalso
          have := (dst_iff (N := N) (a := a) (w := w) (k := 0) (by omega)).mp q0
          exact e (of_decide_eq_true this.1).symm
        · omega
      · rw [if_neg q]
theorem lays_ok {N : Int → Int} {G : Hp} (hN : NW N) (hG : ∀ w, 0 ≤ w → w < 10 → G 205 w = N w) :
    ok (mm_laysSteps G) (fun G' => (∀ o j, o ≠ 206 → G' o j = G o j) ∧ ∀ a w, 0 ≤ a → a < 10 → 0 ≤ w → w < 10 → G' 206 (10 * a + w) = dst N a w) := by
  unfold mm_laysSteps
  refine lp_up (fun n i (s : Hp) => mm_laysSteps_L2 n i s) 10 (fun i G' => (∀ o j, o ≠ 206 → G' o j = G o j) ∧ ∀ a w, 0 ≤ a → a < i → 0 ≤ w → w < 10 → G' 206 (10 * a + w) = dst N a w) ?_ ?_ (by omega) (by omega) (by omega) ⟨fun _ _ _ => rfl, fun a w h0 h1 => by omega⟩
  · intro n i s i0 i1 hI ih
    obtain ⟨h1, h2⟩ := hI
    show ok (mm_laysSteps_L2 (n + 1) i s) _
    rw [mm_laysSteps_L2, if_pos i1]
    refine lS14 i0 i1 fun G1 f1 f2 => ?_
    refine lS49 (N := N) hN i0 i1 (fun w w0 w1 => ?_) f2 fun G2 g1 g2 => ?_
    · rw [f1 _ _ (by omega), h1 _ _ (by omega)]
      exact hG w w0 w1
    · simp (disch := omega) only [w32_id]
      refine ih G2 ⟨fun o j h => ?_, fun a w a0 a1 w0 w1 => ?_⟩
      · rw [g1 _ _ (by omega), f1 _ _ (by omega), h1 _ _ h]
      · by_cases ha : a = i
        · subst ha
          exact g2 w w0 w1
        · rw [g1 _ _ (by omega), f1 _ _ (by omega)]
          exact h2 a w a0 (by omega) w0 w1
  · intro n s hI
    show ok (mm_laysSteps_L2 (n + 1) 10 s) _
    rw [mm_laysSteps_L2, if_neg (by omega)]
    exact ok_some hI
end LAYS
/-- the model's words that are near, with how far they are -/
def MN (N : Int → Int) (G : Hp) : Prop := NW N ∧ (∀ w, 0 ≤ w → w < 10 → G 205 w = N w) ∧ ∀ a w, 0 ≤ a → a < 10 → 0 ≤ w → w < 10 → G 206 (10 * a + w) = dst N a w
theorem MN.fr {N : Int → Int} {G G' : Hp} (h : MN N G) (h1 : ∀ j, G' 205 j = G 205 j) (h2 : ∀ j, G' 206 j = G 206 j) : MN N G' := ⟨h.1, fun w w0 w1 => by rw [h1]; exact h.2.1 w w0 w1, fun a w a0 a1 w0 w1 => by rw [h2]; exact h.2.2 a w a0 a1 w0 w1⟩
theorem near_ok {N : Int → Int} {G : Hp} {a b : Int} (h : MN N G) (a0 : 0 ≤ a) (a1 : a < 10) (b0 : 0 ≤ b) (b1 : b < 10) : mm_areNear a b G = some (bt (N a) b) := by
  unfold mm_areNear
  rw [gd_ok a0 a1, h.2.1 a a0 a1]
  by_cases e : iand (ishr (N a) b) 1 = 1
  · rw [if_pos e, (iand1_1 (h.1.1 a a0 a1) (by omega) b0 (by omega)).mp e]
  · rw [if_neg e]
    cases q : bt (N a) b with
    | false => rfl
    | true => exact absurd ((iand1_1 (h.1.1 a a0 a1) (by omega) b0 (by omega)).mpr q) e
theorem towards_ok {N : Int → Int} {G : Hp} {f t : Int} (h : MN N G) (f0 : 0 ≤ f) (f1 : f < 10) (t0 : 0 ≤ t) (t1 : t < 10) : mm_towardsOf f t G = some (tw N f t) := by
  apply ok_iff
  unfold mm_towardsOf
  simp (disch := omega) only [w32_id]
  refine ok_gd (by omega) (by omega) ?_
  rw [h.2.2 f t f0 f1 t0 t1]
  unfold tw
  refine ok_ite (fun q => ok_some (by rw [if_pos q])) (fun q => ?_)
  rw [if_neg q]
  have hr := dst_r N f t
  refine lp_up (fun n i (_ : Unit) => mm_towardsOf_L22 f t G (dst N f t) n i) 10 (fun i _ => ∀ j, 0 ≤ j → j < i → (bt (N f) j && decide (dst N j t = dst N f t - 1)) = false) ?_ ?_ (by omega) (by omega) (by omega) (s := ()) (fun j j0 j1 => by omega)
  · intro n i s i0 i1 hI ih
    show ok (mm_towardsOf_L22 f t G (dst N f t) (n + 1) i) _
    rw [mm_towardsOf_L22, if_pos i1, near_ok h f0 f1 i0 i1, Option.bind_some]
    simp (disch := omega) only [w32_id]
    have nxt : (bt (N f) i && decide (dst N i t = dst N f t - 1)) = false → ok (mm_towardsOf_L22 f t G (dst N f t) n (i + 1)) (fun r => r = fstB (fun w => bt (N f) w && decide (dst N w t = dst N f t - 1)) 10) := by
      intro e
      refine ih () fun j j0 j1 => ?_
      by_cases hj : j = i
      · subst hj
        exact e
      · exact hI j j0 (by omega)
    refine ok_ite (fun e => ?_) (fun e => nxt ?_)
    · refine ok_gd (by omega) (by omega) ?_
      rw [h.2.2 i t i0 i1 t0 t1]
      refine ok_ite (fun e2 => ok_some ?_) (fun e2 => nxt ?_)
      · symm
        exact fstB_eq i0 i1 (by rw [e, decide_eq_true e2]; rfl) hI
      · rw [decide_eq_false e2, Bool.and_false]
    · have : bt (N f) i = false := by simpa using e
      rw [this, Bool.false_and]
  · intro n s hI
    show ok (mm_towardsOf_L22 f t G (dst N f t) (n + 1) 10) _
    rw [mm_towardsOf_L22, if_neg (by omega)]
    exact ok_some (fstB_none hI).symm
