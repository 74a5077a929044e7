-- the world: all cells of the two systems, in the order in which they are made
/-- entry heap; class numbers and layouts; classes of arrays; addresses of what stands outside -/
abbrev WP : Type := Heap × va_G × (Nat → ClassId) × (Nat → Nat)
def wb (w : WP) : Nat := w.1.size
def conc (w : WP) (v : AV) : Value := match v.1 with
  | 0 => .int (I32 v.2)
  | 1 => .long (I64 v.2)
  | 2 => if v.2 < 0 then .null else .ref (wb w + v.2.toNat)
  | _ => .ref (w.2.2.2 v.2.toNat)
def SH : List (Nat × Nat) := [(10, 11), (8, 8), (21, 600), (20, 3), (23, 2), (24, 2), (25, 2), (3, 7), (2, 4), (20, 10), (20, 100), (20, 100), (20, 6), (20, 6), (20, 48), (9, 4), (20, 60), (20, 60), (20, 60), (0, 3), (20, 8), (20, 8), (3, 7), (2, 4), (20, 10), (20, 100), (20, 100), (20, 6), (20, 6), (20, 48), (9, 4), (20, 60), (20, 60), (20, 60), (0, 3), (20, 8), (20, 8), (26, 3), (22, 3), (6, 14), (3, 7), (2, 4), (20, 10), (20, 100), (20, 100), (20, 6), (20, 6), (20, 48), (9, 4), (20, 60), (20, 60), (20, 60), (0, 3), (20, 8), (20, 8), (21, 600), (20, 3), (7, 13), (3, 7), (2, 4), (20, 10), (20, 100), (20, 100), (20, 6), (20, 6), (20, 48), (2, 4), (20, 10), (20, 100), (20, 100), (20, 6), (20, 6), (20, 60), (1, 2), (9, 4), (20, 60), (20, 60), (20, 60), (4, 4), (20, 61), (5, 11), (20, 6), (20, 7), (20, 720), (20, 720), (20, 720), (20, 720), (2, 4), (20, 10), (20, 100), (20, 100), (20, 10), (20, 36), (8, 8), (21, 600), (20, 3), (23, 2), (24, 2), (25, 2), (3, 7), (2, 4), (20, 10), (20, 100), (20, 100), (20, 6), (20, 6), (20, 48), (9, 4), (20, 60), (20, 60), (20, 60), (0, 3), (20, 8), (20, 8), (3, 7), (2, 4), (20, 10), (20, 100), (20, 100), (20, 6), (20, 6), (20, 48), (9, 4), (20, 60), (20, 60), (20, 60), (0, 3), (20, 8), (20, 8), (8, 8), (21, 600), (20, 3), (23, 2), (24, 2), (25, 2), (3, 7), (2, 4), (20, 10), (20, 100), (20, 100), (20, 6), (20, 6), (20, 48), (9, 4), (20, 60), (20, 60), (20, 60), (0, 3), (20, 8), (20, 8), (3, 7), (2, 4), (20, 10), (20, 100), (20, 100), (20, 6), (20, 6), (20, 48), (9, 4), (20, 60), (20, 60), (20, 60), (0, 3), (20, 8), (20, 8), (8, 8), (21, 600), (20, 3), (23, 2), (24, 2), (25, 2), (3, 7), (2, 4), (20, 10), (20, 100), (20, 100), (20, 6), (20, 6), (20, 48), (9, 4), (20, 60), (20, 60), (20, 60), (0, 3), (20, 8), (20, 8), (3, 7), (2, 4), (20, 10), (20, 100), (20, 100), (20, 6), (20, 6), (20, 48), (9, 4), (20, 60), (20, 60), (20, 60), (0, 3), (20, 8), (20, 8), (11, 47), (20, 4184), (22, 3), (20, 121), (20, 10), (20, 100), (20, 8), (20, 8), (20, 6), (20, 6), (20, 8), (20, 488), (20, 6), (20, 6), (20, 3), (20, 5), (20, 5), (20, 5), (20, 8), (20, 488), (20, 6), (20, 80), (20, 36)]
def sh (k : Nat) : Nat × Nat := SH.getD k (99, 0)
def tyX (ci : Nat) : Nat → FieldType := match ci with
  | 0 => tyX0
  | 1 => tyX1
  | 2 => tyX2
  | 3 => tyX3
  | 4 => tyX4
  | 5 => tyX5
  | 6 => tyX6
  | 7 => tyX7
  | 8 => tyX8
  | 9 => tyX9
  | 10 => tyX10
  | _ => tyX11
/-- 2: a reference; 0: a number -/
def ftg (ci j : Nat) : Nat := match (tyX ci) j with
  | .object _ => 2
  | .array _ => 2
  | _ => 0
def rfo (w : WP) (z : Int) : Option Nat := if z < 0 then none else some (wb w + z.toNat)
def cellE (w : WP) (k : Nat) (g : Int → Int) : va_E :=
  if (sh k).1 < 20 then .inr ((sh k).1, (List.range (sh k).2).map (fun (j : Nat) => conc w (ftg (sh k).1 j, g (j : Int))))
  else if (sh k).1 < 23 then .inl (w.2.2.1 ((sh k).1 - 20), (sh k).2, .inl (fun j => I32 (g (j : Int))))
  else .inl (w.2.2.1 ((sh k).1 - 20), (sh k).2, .inr (.inr (.inr (.inr (fun j => rfo w (g (j : Int)))))))
def wsOf (w : WP) (n : Nat) (C : Hp) : va_W := (List.range n).map (fun (k : Nat) => (wb w + k, cellE w k (C (k : Int))))
def tysOf (w : WP) : List (ClassId × FieldType) := [(w.2.2.1 0, .int), (w.2.2.1 1, .byte), (w.2.2.1 2, .boolean), (w.2.2.1 3, .object "ProofLine$Paper"), (w.2.2.1 4, .object "ProofLine$Week"), (w.2.2.1 5, .object "ProofLine$Log"), (w.2.2.1 6, .object "ProofLine$Told")]
def RgH (C : Hp) : Prop := ∀ o j : Int, r32 (C o j) ∧ ((sh o.toNat).1 = 21 → -128 ≤ C o j ∧ C o j ≤ 127)
def WRel (w : WP) (n : Nat) (C : Hp) (H : Heap) : Prop := va_P w.2.1 vwCl (wsOf w n C) H ∧ H.size = wb w + n ∧ (∀ q : Nat, q < wb w → H[q]? = w.1[q]?) ∧ RgH C
def aw (w : WP) : Nat → Prop := fun q => wb w ≤ q
theorem wsOf_get {w : WP} {n k : Nat} {C : Hp} (h : k < n) : (wsOf w n C)[k]? = some (wb w + k, cellE w k (C (k : Int))) := by
  unfold wsOf
  rw [List.getElem?_map, List.getElem?_range h]
  rfl
theorem wsOf_len (w : WP) (n : Nat) (C : Hp) : (wsOf w n C).length = n := by simp [wsOf]
theorem wsOf_at {w : WP} {n k : Nat} {C : Hp} {q : Nat × va_E} (h : (wsOf w n C)[k]? = some q) : k < n ∧ q = (wb w + k, cellE w k (C (k : Int))) := by
  have h1 : k < n := by
    have := (List.getElem?_eq_some_iff.mp h).1
    rwa [wsOf_len] at this
  refine ⟨h1, ?_⟩
  rw [wsOf_get h1] at h
  exact (Option.some.inj h).symm
theorem wsOf_D (w : WP) (n : Nat) (C : Hp) : va_D (aw w) (wsOf w n C) := by
  refine ⟨fun i j p q hi hj e => ?_, fun k q hk => ?_⟩
  · obtain ⟨-, rfl⟩ := wsOf_at hi
    obtain ⟨-, rfl⟩ := wsOf_at hj
    dsimp only at e
    omega
  · obtain ⟨-, rfl⟩ := wsOf_at hk
    show wb w ≤ wb w + k
    omega
theorem wsOf_ext {w : WP} {n : Nat} {ws : va_W} {C : Hp} (hl : ws.length = n) (h : ∀ k : Nat, k < n → ws[k]? = some (wb w + k, cellE w k (C (k : Int)))) : ws = wsOf w n C := by
  apply List.ext_getElem?
  intro k
  by_cases hk : k < n
  · rw [h k hk, wsOf_get hk]
  · rw [List.getElem?_eq_none (by omega), List.getElem?_eq_none (by rw [wsOf_len]; omega)]
theorem wsOf_set {w : WP} {n k : Nat} {C C' : Hp} {e : va_E} (hk : k < n) (he : cellE w k (C' (k : Int)) = e) (ho : ∀ o : Int, o ≠ (k : Int) → C' o = C o) : (wsOf w n C).set k (wb w + k, e) = wsOf w n C' := by
  refine wsOf_ext (by simp [wsOf_len]) fun j hj => ?_
  by_cases h : j = k
  · subst h
    rw [List.getElem?_set_self (by rw [wsOf_len]; exact hk), he]
  · rw [List.getElem?_set_ne (Ne.symm h), wsOf_get hj, ho _ (by omega)]
theorem wsOf_push {w : WP} {n : Nat} {C C' : Hp} {e : va_E} (he : cellE w n (C' (n : Int)) = e) (ho : ∀ o : Int, o ≠ (n : Int) → C' o = C o) : wsOf w n C ++ [(wb w + n, e)] = wsOf w (n + 1) C' := by
  refine wsOf_ext (by simp [wsOf_len]) fun j hj => ?_
  by_cases h : j < n
  · rw [List.getElem?_append_left (by rw [wsOf_len]; exact h), wsOf_get h, ho _ (by omega)]
  · have : j = n := by omega
    subst this
    rw [List.getElem?_append_right (by rw [wsOf_len]; omega), wsOf_len, Nat.sub_self, ← he]
    rfl
-- objects by number
/-- an object or array: its kind and length -/
def OB (n : Nat) (o : Int) (k len : Nat) : Prop := 0 ≤ o ∧ o < (n : Int) ∧ sh o.toNat = (k, len)
theorem OB.nat {n k len : Nat} {o : Int} (h : OB n o k len) : ∃ q : Nat, o = (q : Int) ∧ q < n ∧ sh q = (k, len) := ⟨o.toNat, by have := h.1; omega, by have := h.1; have := h.2.1; omega, h.2.2⟩
theorem cell_ob {w : WP} {q ci N : Nat} {g : Int → Int} (h : sh q = (ci, N)) (hc : ci < 20) : cellE w q g = .inr (ci, (List.range N).map (fun (j : Nat) => conc w (ftg ci j, g (j : Int)))) := by
  unfold cellE
  rw [h, if_pos hc]
theorem cell_i {w : WP} {q t N : Nat} {g : Int → Int} (h : sh q = (20 + t, N)) (ht : t < 3) : cellE w q g = .inl (w.2.2.1 t, N, .inl (fun j => I32 (g (j : Int)))) := by
  unfold cellE
  rw [h, if_neg (by dsimp only; omega), if_pos (by dsimp only; omega)]
  dsimp only
  rw [Nat.add_sub_cancel_left]
theorem cell_r {w : WP} {q t N : Nat} {g : Int → Int} (h : sh q = (23 + t, N)) : cellE w q g = .inl (w.2.2.1 (3 + t), N, .inr (.inr (.inr (.inr (fun j => rfo w (g (j : Int))))))) := by
  unfold cellE
  rw [h, if_neg (by dsimp only; omega), if_neg (by dsimp only; omega)]
  dsimp only
  rw [show 23 + t - 20 = 3 + t by omega]
theorem rf_conc (w : WP) (z : Int) : va_rf (rfo w z) = conc w (2, z) := by
  unfold rfo conc
  dsimp only
  split <;> rfl
theorem set_range {α : Type} (N k : Nat) (f g : Nat → α) (v : α) (hv : k < N → g k = v) (h : ∀ j, j ≠ k → g j = f j) : ((List.range N).map f).set k v = (List.range N).map g := by
  apply List.ext_getElem?
  intro j
  by_cases hk : j = k
  · subst hk
    by_cases hj : j < N
    · rw [List.getElem?_set_self (by simpa using hj)]
      simp [hj, hv hj]
    · rw [List.getElem?_eq_none (by simp; omega), List.getElem?_eq_none (by simp; omega)]
  · rw [List.getElem?_set_ne (Ne.symm hk)]
    simp only [List.getElem?_map]
    by_cases hj : j < N
    · rw [List.getElem?_range hj]
      simp [h j hk]
    · rw [List.getElem?_eq_none (by simp; omega)]
      rfl
theorem upd2_ne {C : Hp} {o j v : Int} {q : Int} (h : q ≠ o) : upd2 C o j v q = C q := by
  funext k
  simp [upd2, h]
theorem RgH.upd {C : Hp} (h : RgH C) {o j v : Int} (hv : r32 v) (hb : (sh o.toNat).1 = 21 → -128 ≤ v ∧ v ≤ 127) : RgH (upd2 C o j v) := by
  intro a b
  unfold upd2
  split
  · next e => exact ⟨hv, by rw [e.1]; exact hb⟩
  · exact h a b
-- values in range
def rgV (v : AV) : Prop := (v.1 = 0 → r32 v.2) ∧ (v.1 = 1 → r64 v.2)
def RgL (l : List AV) : Prop := ∀ v ∈ l, rgV v
theorem RgL.tl {v : AV} {l : List AV} (h : RgL (v :: l)) : RgL l := fun x hx => h x (List.mem_cons_of_mem _ hx)
theorem RgL.hd {v : AV} {l : List AV} (h : RgL (v :: l)) : rgV v := h v List.mem_cons_self
theorem RgL.cons {v : AV} {l : List AV} (h1 : rgV v) (h : RgL l) : RgL (v :: l) := fun x hx => (List.mem_cons.mp hx).elim (fun e => e ▸ h1) (h x)
theorem RgL.app {a b : List AV} (h1 : RgL a) (h2 : RgL b) : RgL (a ++ b) := fun x hx => (List.mem_append.mp hx).elim (h1 x) (h2 x)
theorem RgL.left {a b : List AV} (h : RgL (a ++ b)) : RgL a := fun x hx => h x (List.mem_append_left _ hx)
theorem RgL.right {a b : List AV} (h : RgL (a ++ b)) : RgL b := fun x hx => h x (List.mem_append_right _ hx)
theorem rg0 {z : Int} (h : r32 z) : rgV (0, z) := ⟨fun _ => h, fun e => absurd e (by decide : ¬ (0 : Nat) = 1)⟩
theorem rg1 {z : Int} (h : r64 z) : rgV (1, z) := ⟨fun e => absurd e (by decide : ¬ (1 : Nat) = 0), fun _ => h⟩
theorem rg2 {z : Int} : rgV (2, z) := ⟨fun e => absurd e (by decide : ¬ (2 : Nat) = 0), fun e => absurd e (by decide : ¬ (2 : Nat) = 1)⟩
theorem rg3 {z : Int} : rgV (3, z) := ⟨fun e => absurd e (by decide : ¬ (3 : Nat) = 0), fun e => absurd e (by decide : ¬ (3 : Nat) = 1)⟩
theorem rg9 {z : Int} : rgV (9, z) := ⟨fun e => absurd e (by decide : ¬ (9 : Nat) = 0), fun e => absurd e (by decide : ¬ (9 : Nat) = 1)⟩
theorem conc_cat (w : WP) (v : AV) : (conc w v).category = if v.1 = 1 then 2 else 1 := by
  obtain ⟨t, z⟩ := v
  unfold conc
  dsimp only
  split
  · rfl
  · rfl
  · split <;> rfl
  · next h0 h1 h2 => rw [if_neg h1]; rfl
-- locals
/-- what the locals hold; tag 9: nothing known -/
def LRel (w : WP) (ls : Array Slot) (nL : Nat) (L : List AV) : Prop := ls.size = nL ∧ lv_wf ls ∧ (∀ (i : Nat) (v : AV), L[i]? = some v → v.1 ≠ 9 → ls[i]? = some (.val (conc w v))) ∧ RgL L
def LAl (w : WP) (L : List AV) : List (Nat × Value) := (List.range L.length).filterMap (fun k => match L[k]? with | some v => if v.1 = 9 then none else some (k, conc w v) | none => none)
theorem LAl_mem {w : WP} {L : List AV} {i : Nat} {v : AV} (h : L[i]? = some v) (h9 : v.1 ≠ 9) : (i, conc w v) ∈ LAl w L := by
  refine List.mem_filterMap.mpr ⟨i, List.mem_range.mpr (List.getElem?_eq_some_iff.mp h).1, ?_⟩
  rw [h]
  dsimp only
  rw [if_neg h9]
theorem LAl_of {w : WP} {L : List AV} {q : Nat × Value} (h : q ∈ LAl w L) : ∃ v, L[q.1]? = some v ∧ v.1 ≠ 9 ∧ q.2 = conc w v := by
  obtain ⟨k, -, h2⟩ := List.mem_filterMap.mp h
  cases hk : L[k]? with
  | none => rw [hk] at h2; cases h2
  | some v =>
    rw [hk] at h2
    dsimp only at h2
    by_cases h9 : v.1 = 9
    · rw [if_pos h9] at h2; cases h2
    · rw [if_neg h9] at h2
      cases h2
      exact ⟨v, hk, h9, rfl⟩
theorem LRel.has {w : WP} {ls : Array Slot} {nL : Nat} {L : List AV} (h : LRel w ls nL L) : lv_has ls nL (LAl w L) := by
  refine ⟨h.1, h.2.1, fun q hq => ?_⟩
  obtain ⟨v, h1, h2, h3⟩ := LAl_of hq
  rw [h.2.2.1 _ v h1 h2, h3]
theorem LRel.get {w : WP} {ls : Array Slot} {nL i : Nat} {L : List AV} {v : AV} (h : LRel w ls nL L) (hi : L[i]? = some v) (h9 : v.1 ≠ 9) : ls[i]? = some (.val (conc w v)) := h.2.2.1 i v hi h9
theorem LRel.rg {w : WP} {ls : Array Slot} {nL i : Nat} {L : List AV} {v : AV} (h : LRel w ls nL L) (hi : L[i]? = some v) : rgV v := h.2.2.2 v (List.mem_of_getElem? hi)
/-- no long stands just ahead of i -/
def noL (L : List AV) : Nat → Bool
  | 0 => true
  | i + 1 => match L[i]? with
    | some v => v.1 != 1
    | none => true
theorem noL_spec {L : List AV} {i k : Nat} (h : noL L i = true) (hk : k + 1 = i) {v : AV} (hv : L[k]? = some v) : v.1 ≠ 1 := by
  subst hk
  have h' : (match L[k]? with | some v => v.1 != 1 | none => true) = true := h
  rw [hv] at h'
  simpa using h'
theorem LRel.put1 {w : WP} {ls ls' : Array Slot} {nL i : Nat} {L : List AV} {v : AV} (h : LRel w ls nL L) (hv : v.1 ≠ 1) (hr : rgV v) (hn : noL L i = true)
    (h1 : lv_has ls' nL ((i, conc w v) :: (LAl w L).filter (fun q => !(q.1 == i) && !(q.1 + 1 == i && q.2.category == 2)))) : LRel w ls' nL (L.set i v) := by
  refine ⟨h1.1, h1.2.1, fun k x hk h9 => ?_, fun x hx => ?_⟩
  · by_cases hki : k = i
    · subst hki
      have hlt : k < L.length := by
        have := (List.getElem?_eq_some_iff.mp hk).1
        simpa using this
      rw [List.getElem?_set_self hlt] at hk
      cases hk
      exact h1.2.2 (k, conc w v) List.mem_cons_self
    · rw [List.getElem?_set_ne (Ne.symm hki)] at hk
      refine h1.2.2 (k, conc w x) (List.mem_cons_of_mem _ (List.mem_filter.mpr ⟨LAl_mem hk h9, ?_⟩))
      have h2 : (k + 1 == i && (conc w x).category == 2) = false := by
        by_cases hk1 : k + 1 = i
        · have h3 := noL_spec hn hk1 hk
          simp [conc_cat, h3]
        · simp [hk1]
      simp [hki, h2]
  · rcases List.mem_or_eq_of_mem_set hx with h2 | h2
    · exact h.2.2.2 x h2
    · rw [h2]; exact hr
theorem LRel.put2 {w : WP} {ls ls' : Array Slot} {nL i : Nat} {L : List AV} {z : Int} (h : LRel w ls nL L) (hr : r64 z) (hn : noL L i = true)
    (h1 : lv_has ls' nL ((i, conc w (1, z)) :: (LAl w L).filter (fun q => !(q.1 == i) && (!(q.1 == i + 1) && !(q.1 + 1 == i && q.2.category == 2))))) : LRel w ls' nL ((L.set i (1, z)).set (i + 1) (9, 0)) := by
  refine ⟨h1.1, h1.2.1, fun k x hk h9 => ?_, fun x hx => ?_⟩
  · by_cases hk1 : k = i + 1
    · subst hk1
      have hlt : i + 1 < L.length := by
        have := (List.getElem?_eq_some_iff.mp hk).1
        simpa using this
      rw [List.getElem?_set_self (by simpa using hlt)] at hk
      cases hk
      exact absurd rfl h9
    · rw [List.getElem?_set_ne (Ne.symm hk1)] at hk
      by_cases hki : k = i
      · subst hki
        have hlt : k < L.length := by
          have := (List.getElem?_eq_some_iff.mp hk).1
          simpa using this
        rw [List.getElem?_set_self hlt] at hk
        cases hk
        exact h1.2.2 (k, conc w (1, z)) List.mem_cons_self
      · rw [List.getElem?_set_ne (Ne.symm hki)] at hk
        refine h1.2.2 (k, conc w x) (List.mem_cons_of_mem _ (List.mem_filter.mpr ⟨LAl_mem hk h9, ?_⟩))
        have h2 : (k + 1 == i && (conc w x).category == 2) = false := by
          by_cases hk2 : k + 1 = i
          · have h3 := noL_spec hn hk2 hk
            simp [conc_cat, h3]
          · simp [hk2]
        simp [hki, hk1, h2]
  · rcases List.mem_or_eq_of_mem_set hx with h2 | h2
    · rcases List.mem_or_eq_of_mem_set h2 with h3 | h3
      · exact h.2.2.2 x h3
      · rw [h3]; exact rg1 hr
    · rw [h2]; exact rg9
def maskL : List Bool → List AV → List AV
  | b :: bs, v :: vs => (if b = true then v else (9, 0)) :: maskL bs vs
  | _, _ => []
theorem maskL_get : ∀ (bs : List Bool) (L : List AV) (i : Nat) (v : AV), (maskL bs L)[i]? = some v → v.1 ≠ 9 → L[i]? = some v
  | [], L, i, v, h, _ => by simp [maskL] at h
  | b :: bs, [], i, v, h, _ => by simp [maskL] at h
  | b :: bs, x :: L, 0, v, h, h9 => by
    simp only [maskL, List.getElem?_cons_zero] at h
    split at h
    · simpa using h
    · cases h; exact absurd rfl h9
  | b :: bs, x :: L, i + 1, v, h, h9 => by
    simp only [maskL, List.getElem?_cons_succ] at h
    simpa using maskL_get bs L i v h h9
theorem maskL_rg : ∀ (bs : List Bool) (L : List AV), RgL L → RgL (maskL bs L)
  | [], L, _ => by intro v h; simp [maskL] at h
  | b :: bs, [], _ => by intro v h; simp [maskL] at h
  | b :: bs, x :: L, h => by
    refine RgL.cons ?_ (maskL_rg bs L h.tl)
    split
    · exact h.hd
    · exact rg9
theorem LRel.mask {w : WP} {ls : Array Slot} {nL : Nat} {L : List AV} (bs : List Bool) (h : LRel w ls nL L) : LRel w ls nL (maskL bs L) :=
  ⟨h.1, h.2.1, fun i v hi h9 => h.2.2.1 i v (maskL_get bs L i v hi h9) h9, maskL_rg bs L h.2.2.2⟩
/-- the locals at a method's entry -/
def L0 : List AV → List AV
  | [] => []
  | v :: vs => if v.1 = 1 then v :: (9, 0) :: L0 vs else v :: L0 vs
theorem L0_at (w : WP) : ∀ (As : List AV) (k i : Nat) (v : AV), (L0 As)[i]? = some v → v.1 ≠ 9 → (k + i, conc w v) ∈ lv_args k (As.map (conc w))
  | [], k, i, v, h, _ => by simp [L0] at h
  | x :: As, k, i, v, h, h9 => by
    show _ ∈ (k, conc w x) :: lv_args (if (conc w x).category = 2 then k + 2 else k + 1) (As.map (conc w))
    rw [conc_cat]
    unfold L0 at h
    by_cases hx : x.1 = 1
    · rw [if_pos hx] at h
      rw [if_pos hx, if_pos rfl]
      match i, h with
      | 0, h => cases (by simpa using h : x = v); exact List.mem_cons_self
      | 1, h => cases (by simpa using h : ((9, 0) : AV) = v); exact absurd rfl h9
      | i + 2, h =>
        have := L0_at w As (k + 2) i v (by simpa using h) h9
        rw [show k + (i + 2) = k + 2 + i by omega]
        exact List.mem_cons_of_mem _ this
    · rw [if_neg hx] at h
      rw [if_neg hx, if_neg (by decide)]
      match i, h with
      | 0, h => cases (by simpa using h : x = v); exact List.mem_cons_self
      | i + 1, h =>
        have := L0_at w As (k + 1) i v (by simpa using h) h9
        rw [show k + (i + 1) = k + 1 + i by omega]
        exact List.mem_cons_of_mem _ this
theorem L0_rg : ∀ (As : List AV), RgL As → RgL (L0 As)
  | [], _ => by intro v h; simp [L0] at h
  | x :: As, h => by
    unfold L0
    split
    · exact RgL.cons h.hd (RgL.cons rg9 (L0_rg As h.tl))
    · exact RgL.cons h.hd (L0_rg As h.tl)
theorem L0_size (w : WP) : ∀ (As : List AV), (lg_sl (As.map (conc w))).length = (L0 As).length
  | [] => rfl
  | x :: As => by
    have ih := L0_size w As
    show ((if (conc w x).category = 2 then [Slot.val (conc w x), .second] else [.val (conc w x)]) ++ lg_sl (As.map (conc w))).length = (L0 (x :: As)).length
    rw [conc_cat]
    unfold L0
    by_cases hx : x.1 = 1
    · simp [hx, ih]
    · simp [hx, ih]
theorem conc_null {w : WP} {z : Int} (h : z < 0) : conc w (2, z) = .null := by
  show (if z < 0 then Value.null else .ref (wb w + z.toNat)) = _
  rw [if_pos h]
theorem conc_ref {w : WP} {z : Int} (h : ¬ z < 0) : conc w (2, z) = .ref (wb w + z.toNat) := by
  show (if z < 0 then Value.null else .ref (wb w + z.toNat)) = _
  rw [if_neg h]
