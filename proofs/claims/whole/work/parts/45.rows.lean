-- reading by rows
def rbN (P N : Int → Int) (r : Int) (f : Int → Int) : Int → Int := rdF N (P (20 + 2 * r)) (bt 0) (wnP P r) (P 0) f
def rwN (P N row f : Int → Int) : Nat → Int → Int
  | 0 => f
  | m + 1 => rbN P N (row (m : Int)) (rwN P N row f m)
theorem rwN_s (P N row f : Int → Int) {i : Int} (h : 0 ≤ i) : rwN P N row f (i + 1).toNat = rbN P N (row i) (rwN P N row f i.toNat) := by
  have e : (i + 1).toNat = i.toNat + 1 := by omega
  have e2 : ((i.toNat : Nat) : Int) = i := by omega
  rw [e]
  show rbN P N (row ((i.toNat : Nat) : Int)) (rwN P N row f i.toNat) = _
  rw [e2]
theorem rwN_V {P N row f : Int → Int} (hf : PV f) : ∀ m : Nat, PV (rwN P N row f m)
  | 0 => hf
  | m + 1 => rdF_V (rwN_V hf m)
theorem rwN_congr {P N row row' f : Int → Int} : ∀ m : Nat, (∀ k : Int, 0 ≤ k → k < m → row k = row' k) → rwN P N row f m = rwN P N row' f m
  | 0, _ => rfl
  | m + 1, h => by
    show rbN P N (row (m : Int)) (rwN P N row f m) = rbN P N (row' (m : Int)) (rwN P N row' f m)
    rw [rwN_congr m (fun k k0 k1 => h k k0 (by omega)), h (m : Int) (by omega) (by omega)]
theorem rwN_net {P N N' row f : Int → Int} (h : ∀ w, 0 ≤ w → w < 10 → N w = N' w) : ∀ m : Nat, rwN P N row f m = rwN P N' row f m
  | 0 => rfl
  | m + 1 => by
    show rbN P N (row (m : Int)) (rwN P N row f m) = rbN P N' (row (m : Int)) (rwN P N' row f m)
    rw [rwN_net h m]
    exact rdF_congr h
theorem rwN_rn (P f : Int → Int) : ∀ m : Nat, rwN P (sl P 10) id f m = rn P f m
  | 0 => rfl
  | m + 1 => by
    show rbN P (sl P 10) (m : Int) (rwN P (sl P 10) id f m) = rb P (m : Int) (rn P f m)
    rw [rwN_rn P f m]
    rfl
/-- the model ready for rows -/
def MW (P N : Int → Int) (b : Int) (G : Hp) : Prop := MS P b G ∧ MN N G ∧ Mk 8 (G 201 20)
/-- what rows leave as it was -/
def Mh (G G' : Hp) : Prop := ∀ a j, a ≠ 207 → a ≠ 209 → a ≠ 210 → a ≠ 211 → ¬ (a = 201 ∧ (j = 17 ∨ j = 20)) → G' a j = G a j
theorem Mh.refl (G : Hp) : Mh G G := fun _ _ _ _ _ _ _ => rfl
theorem Mh.trans {G G' G'' : Hp} (h : Mh G G') (h2 : Mh G' G'') : Mh G G'' := fun a j x y z w v => (h2 a j x y z w v).trans (h a j x y z w v)
theorem Mh.mq {G G' : Hp} (h : Mh G G') : Mq G G' := Mq.fr fun j => ⟨h _ _ (by omega) (by omega) (by omega) (by omega) (by omega), h _ _ (by omega) (by omega) (by omega) (by omega) (by omega)⟩
theorem Mf.mh {G G' : Hp} (h : Mf G G') : Mh G G' := fun a j x y z w v => h a j x z w v
/-- begun anew -/
theorem begun_ok {P N : Int → Int} {b : Int} {G : Hp} (hV : PaperV P) (h : MW P N b G) : ok (mm_beginsProof G) (fun G' => MS P b G' ∧ MN N G' ∧ PV (sl P 2) ∧ (∀ p, 0 ≤ p → p < 8 → G' 207 p = sl P 2 p) ∧ (∀ r, 0 ≤ r → r < 6 → G' 209 r = 0) ∧ Mk 8 (G' 201 20) ∧ Mh G G') := by
  refine ok_mono (bproof_ok h.1) fun G' hG' => ?_
  obtain ⟨h1, h2, h3, h4⟩ := hG'
  refine ⟨h.1.fr (fun j _ => h4 _ _ (by omega) (by omega) (by omega) (by omega) (by omega)) (fun j => h4 _ _ (by omega) (by omega) (by omega) (by omega) (by omega)), h.2.1.fr (fun j => h4 _ _ (by omega) (by omega) (by omega) (by omega) (by omega)) (fun j => h4 _ _ (by omega) (by omega) (by omega) (by omega) (by omega)), hV.pv, fun p p0 p1 => (h1 p p0 p1).1, fun r r0 r1 => (h2 r r0 r1).1, ?_, fun a j x y z w v => h4 a j x y z w (by omega)⟩
  rw [h4 _ _ (by omega) (by omega) (by omega) (by omega) (by omega)]
  exact h.2.2
theorem readsRow_ok {P N row : Int → Int} {b : Int} {G : Hp} (hV : PaperV P) (h : MW P N b G) (hr : ∀ k, 0 ≤ k → k < P 1 → G 213 k = row k ∧ 0 ≤ row k ∧ row k < 6) :
    ok (mm_readsRow G) (fun x => x.1 = ctA P (rwN P N row (sl P 2) (P 1).toNat) ∧ MW P N b x.2 ∧ (∀ p, 0 ≤ p → p < 8 → x.2 207 p = rwN P N row (sl P 2) (P 1).toNat p) ∧ Mh G x.2) := by
  have h1 := hV.2.1
  unfold mm_readsRow
  refine ok_then (begun_ok hV h) fun G0 hG0 => ?_
  obtain ⟨b1, b2, b3, b4, b5, b6, b7⟩ := hG0
  refine lp_up (fun n i (s : Hp) => mm_readsRow_L6 (fun G_31 => (mm_contentAll G_31).bind fun v32 => some (v32, G_31)) n i s) (P 1) (fun i s => MW P N b s ∧ (∀ p, 0 ≤ p → p < 8 → s 207 p = rwN P N row (sl P 2) i.toNat p) ∧ (∀ r, 0 ≤ r → r < 6 → s 209 r = 0) ∧ Mh G s) ?_ ?_ (by omega) (by omega) (by omega) ⟨⟨b1, b2, b6⟩, b4, b5, b7⟩
  · intro n i s i0 i1 hI ih
    obtain ⟨g1, g2, g3, g4⟩ := hI
    obtain ⟨k1, k2, k3⟩ := hr i i0 i1
    show ok (mm_readsRow_L6 _ (n + 1) i s) _
    rw [mm_readsRow_L6, g1.1.1.2.2, if_pos i1, gd_ok i0 (by omega), g4 213 i (by omega) (by omega) (by omega) (by omega) (by omega), k1, w32_id (by omega) (by omega)]
    have z := g3 _ k2 k3
    refine ok_then (reads_ok hV g1.1 g1.2.1 (rwN_V b3 i.toNat) g2 k2 k3 (Mk0 z 8) g1.2.2) fun y hy => ?_
    rw [z] at hy
    have hR : RdM (rbN P N (row i) (rwN P N row (sl P 2) i.toNat)) (rwN P N row (sl P 2) i.toNat) (row i) (nch (rbN P N (row i) (rwN P N row (sl P 2) i.toNat)) (rwN P N row (sl P 2) i.toNat)) s y.2 := hy.2
    refine ih y.2 ⟨⟨hR.ms g1.1, hR.mn g1.2.1, hR.2.2.1.1⟩, ?_, fun r r0 r1 => ?_, g4.trans hR.mf.mh⟩
    · rw [rwN_s P N row _ i0]
      exact hR.1
    · rw [hR.2.2.2.2.2 _ _ (by omega) (by omega) (by omega) (by omega)]
      exact g3 r r0 r1
  · intro n s hI
    obtain ⟨g1, g2, g3, g4⟩ := hI
    show ok (mm_readsRow_L6 _ (n + 1) (P 1) s) _
    rw [mm_readsRow_L6, g1.1.1.2.2, if_neg (by omega), mcontentA_ok hV g1.1 g2, Option.bind_some]
    exact ok_some ⟨rfl, g1, g2, g4⟩
theorem MW.fr {P N : Int → Int} {b : Int} {G G' : Hp} (h : MW P N b G) (hf : ∀ a j, (201 ≤ a ∧ a ≤ 202) ∨ (205 ≤ a ∧ a ≤ 206) → G' a j = G a j) : MW P N b G' :=
  ⟨h.1.fr (fun j _ => hf _ _ (by omega)) (fun j => hf _ _ (by omega)), h.2.1.fr (fun j => hf _ _ (by omega)) (fun j => hf _ _ (by omega)), by rw [hf _ _ (by omega)]; exact h.2.2⟩
theorem M0.mw {P : Int → Int} {b : Int} {G : Hp} (h : M0 P b G) : MW P (sl P 10) b G := ⟨h.1, h.2.1, Mk0 h.2.2.2.2.2.2.2.1 8⟩
theorem firstRow_ok {G : Hp} : ok (mm_firstRow G) (fun G' => (∀ k, 0 ≤ k → k < 6 → G' 213 k = k) ∧ ∀ a j, a ≠ 213 → G' a j = G a j) := by
  unfold mm_firstRow
  refine lp_up (fun n i (s : Hp) => mm_firstRow_L2 n i s) 6 (fun i s => (∀ k, 0 ≤ k → k < i → s 213 k = k) ∧ ∀ a j, a ≠ 213 → s a j = G a j) ?_ ?_ (by omega) (by omega) (by omega) ⟨fun k k0 k1 => by omega, fun _ _ _ => rfl⟩
  · intro n i s i0 i1 hI ih
    show ok (mm_firstRow_L2 (n + 1) i s) _
    rw [mm_firstRow_L2, if_pos i1, gd_ok i0 i1, w32_id (by omega) (by omega)]
    refine ih _ ⟨fun k k0 k1 => ?_, fun a j x => ?_⟩
    · by_cases hk : k = i
      · rw [upd2_e rfl hk, hk]
      · rw [upd2_o (by omega)]
        exact hI.1 k k0 (by omega)
    · rw [upd2_o (by omega)]
      exact hI.2 a j x
  · intro n s hI
    show ok (mm_firstRow_L2 (n + 1) 6 s) _
    rw [mm_firstRow_L2, if_neg (by omega)]
    exact ok_some hI
theorem mswap_ok {G : Hp} {a b : Int} {row : Int → Int} (a0 : 0 ≤ a) (a1 : a < 6) (b0 : 0 ≤ b) (b1 : b < 6) (hr : ∀ k, 0 ≤ k → k < 6 → G 213 k = row k) : ok (mm_changesPlaces a b G) (fun G' => (∀ k, 0 ≤ k → k < 6 → G' 213 k = if k = b then row a else if k = a then row b else row k) ∧ ∀ x j, x ≠ 213 → G' x j = G x j) := by
  unfold mm_changesPlaces
  rw [gd_ok a0 a1, gd_ok b0 b1, gd_ok a0 a1, gd_ok b0 b1]
  refine ok_some ⟨fun k k0 k1 => ?_, fun x j h => ?_⟩
  · by_cases h1 : k = b
    · rw [upd2_e rfl h1, if_pos h1, hr a a0 a1]
    · rw [upd2_o (by omega), if_neg h1]
      by_cases h2 : k = a
      · rw [upd2_e rfl h2, if_pos h2, hr b b0 b1]
      · rw [upd2_o (by omega), if_neg h2, hr k k0 k1]
  · rw [upd2_o (by omega), upd2_o (by omega)]
/-- the first best of those that count -/
def bwC (cond : Int → Bool) (val : Int → Int) : Nat → Int
  | 0 => -1
  | k + 1 => if cond (k : Int) = true ∧ (bwC cond val k = -1 ∨ val (bwC cond val k) < val (k : Int)) then (k : Int) else bwC cond val k
section BW
variable {cond : Int → Bool} {val : Int → Int}
theorem bwC_s {i : Int} (h : 0 ≤ i) : bwC cond val (i + 1).toNat = if cond i = true ∧ (bwC cond val i.toNat = -1 ∨ val (bwC cond val i.toNat) < val i) then i else bwC cond val i.toNat := by
  have e : (i + 1).toNat = i.toNat + 1 := by omega
  have e2 : ((i.toNat : Nat) : Int) = i := by omega
  rw [e]
  show (if cond ((i.toNat : Nat) : Int) = true ∧ (bwC cond val i.toNat = -1 ∨ val (bwC cond val i.toNat) < val ((i.toNat : Nat) : Int)) then ((i.toNat : Nat) : Int) else bwC cond val i.toNat) = _
  rw [e2]
theorem bwC_r : ∀ k : Nat, -1 ≤ bwC cond val k ∧ bwC cond val k < k
  | 0 => ⟨by show (-1 : Int) ≤ -1; omega, by show (-1 : Int) < 0; omega⟩
  | k + 1 => by
    have ih := bwC_r k
    unfold bwC
    split <;> omega
theorem bwC_c : ∀ k : Nat, bwC cond val k = -1 ∨ cond (bwC cond val k) = true
  | 0 => Or.inl rfl
  | k + 1 => by
    unfold bwC
    split
    · next h => exact Or.inr h.1
    · exact bwC_c k
theorem bwC_skip {i : Nat} : ∀ m : Nat, (∀ k : Int, (i : Int) ≤ k → k < ((i + m : Nat) : Int) → cond k = false) → bwC cond val (i + m) = bwC cond val i
  | 0, _ => rfl
  | m + 1, h => by
    show (if cond ((i + m : Nat) : Int) = true ∧ _ then ((i + m : Nat) : Int) else bwC cond val (i + m)) = _
    rw [if_neg (fun z => by have := h ((i + m : Nat) : Int) (by omega) (by omega); rw [this] at z; cases z.1), bwC_skip m (fun k k0 k1 => h k k0 (by omega))]
theorem bwC_to {i j : Int} (i0 : 0 ≤ i) (ij : i ≤ j) (h : ∀ k, i ≤ k → k < j → cond k = false) : bwC cond val j.toNat = bwC cond val i.toNat := by
  obtain ⟨m, hm⟩ : ∃ m : Nat, j.toNat = i.toNat + m := ⟨j.toNat - i.toNat, by omega⟩
  rw [hm]
  exact bwC_skip m fun k k0 k1 => h k (by omega) (by omega)
/-- how the class packs it -/
def BR (val : Int → Int) (best c : Int) : Prop := (c = -1 ∧ best = -1) ∨ (0 ≤ c ∧ c < 100 ∧ best = 100 * val c + c)
theorem better_ok {best i : Int} {G : Hp} (i0 : 0 ≤ i) (i1 : i < 100) (hv : ∀ k, 0 ≤ val k ∧ val k ≤ 48) (hc : cond i = true) (h : BR val best (bwC cond val i.toNat)) : ok (cX_better best (val i) i G) (fun r => BR val r (bwC cond val (i + 1).toNat)) := by
  have hvi := hv i
  have hs := bwC_s (cond := cond) (val := val) i0
  unfold cX_better
  rw [w32_id (z := 100 * val i) (by omega) (by omega), w32_id (z := 100 * val i + i) (by omega) (by omega)]
  rcases h with ⟨h1, h2⟩ | ⟨h1, h2, h3⟩
  · rw [h2, if_pos (by omega)]
    rw [if_pos ⟨hc, Or.inl h1⟩] at hs
    exact ok_some (by rw [hs]; exact Or.inr ⟨i0, i1, rfl⟩)
  · have hvc := hv (bwC cond val i.toNat)
    rw [if_neg (by omega), idiv_nn (by omega) (by omega) (by omega), show best / 100 = val (bwC cond val i.toNat) by omega]
    refine ok_ite (fun e => ok_some ?_) (fun e => ok_some ?_)
    · rw [hs, if_pos ⟨hc, Or.inr e⟩]
      exact Or.inr ⟨i0, i1, rfl⟩
    · rw [hs, if_neg (fun z => z.2.elim (fun q => by omega) e)]
      exact Or.inr ⟨h1, h2, h3⟩
theorem which_ok {best c : Int} {G : Hp} (hv : ∀ k, 0 ≤ val k ∧ val k ≤ 48) (h : BR val best c) : cX_which best G = some c := by
  unfold cX_which
  rcases h with ⟨h1, h2⟩ | ⟨h1, h2, h3⟩
  · rw [if_pos (by omega), h1]
  · have := hv c
    rw [if_neg (by omega), irem_nn (by omega)]
    congr 1
    omega
theorem howMuch_ok {best c : Int} {G : Hp} (hv : ∀ k, 0 ≤ val k ∧ val k ≤ 48) (h : BR val best c) : cX_howMuch best G = some (if c = -1 then 0 else val c) := by
  unfold cX_howMuch
  rcases h with ⟨h1, h2⟩ | ⟨h1, h2, h3⟩
  · rw [if_pos (by omega), if_pos h1]
  · have := hv c
    rw [if_neg (by omega), if_neg (by omega), idiv_nn (by omega) (by omega) (by omega)]
    congr 1
    omega
end BW
