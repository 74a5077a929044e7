theorem MW.fo {P N : Int → Int} {b : Int} {G G' : Hp} (h : MW P N b G) (hf : Fo G G') : MW P N b G' :=
  ⟨h.1.fr (fun j _ => hf _ _ (by omega) (by omega) (by omega) (by omega)) (fun j => hf _ _ (by omega) (by omega) (by omega) (by omega)), h.2.1.fr (fun j => hf _ _ (by omega) (by omega) (by omega) (by omega)) (fun j => hf _ _ (by omega) (by omega) (by omega) (by omega)), by rw [hf _ _ (by omega) (by omega) (by omega) (by omega)]; exact h.2.2⟩
theorem Fo.mq {G G' : Hp} (h : Fo G G') : Mq G G' := Mq.fr fun j => ⟨h _ _ (by omega) (by omega) (by omega) (by omega), h _ _ (by omega) (by omega) (by omega) (by omega)⟩
/-- one row's pairs -/
theorem fit124_ok {a1 i : Int} {row : Int → Int} {n6 : Int} {S : Hp} {K : Hp → Option Hp} {Q : Hp → Prop} {B : Int → Int → Int} (h0 : 0 ≤ n6) (h6 : n6 ≤ 6) (h14 : S 201 14 = n6) (i0 : 0 ≤ i) (i1 : i < n6) (hrow : ∀ j, 0 ≤ j → j < n6 → S 213 j = row j ∧ 0 ≤ row j ∧ row j < n6) (hB : ∀ a b, 0 ≤ a → a < n6 → 0 ≤ b → b < n6 → S 223 (6 * a + b) = B a b ∧ 0 ≤ B a b ∧ B a b ≤ 100000)
    (hK : ∀ G', (∀ a b, 0 ≤ a → a < n6 → 0 ≤ b → b < n6 → G' 223 (6 * a + b) = B a b + prs0 row n6.toNat a b i) → (∀ x j, x ≠ 223 → G' x j = S x j) → ok (K G') Q) : ok (mm_laysFit_L124 a1 i K FU (i + 1) S) Q := by
  refine lp_up (fun n o s => mm_laysFit_L124 a1 i K n o s) n6 (fun o s => i + 1 ≤ o ∧ (∀ a b, 0 ≤ a → a < n6 → 0 ≤ b → b < n6 → s 223 (6 * a + b) = B a b + sm (prs1 row a b i) o.toNat) ∧ ∀ x j, x ≠ 223 → s x j = S x j) ?_ ?_ (by omega) (by omega) (by omega) ⟨by omega, fun a b a0 a2 b0 b2 => ?_, fun _ _ _ => rfl⟩
  · intro n o s o0 o1 hI ih
    obtain ⟨g0, g1, g2⟩ := hI
    have ri := hrow i i0 i1
    have ro := hrow o o0 o1
    have hb := hB _ _ ri.2.1 ri.2.2 ro.2.1 ro.2.2
    have hsr := sm_r (f := prs1 row (row i) (row o) i) (a := 0) (b := 1) (n := o.toNat) (fun j _ _ => b2i_b _)
    show ok (mm_laysFit_L124 a1 i K (n + 1) o s) _
    rw [mm_laysFit_L124, g2 201 14 (by omega), h14, if_pos o1, g2 213 i (by omega), g2 213 o (by omega), ri.1, ro.1, gd_ok i0 (by omega), gd_ok o0 (by omega), w32_id (z := o + 1) (by omega) (by omega), w32_id (z := 6 * row i) (by omega) (by omega), w32_id (z := 6 * row i + row o) (by omega) (by omega), gd_ok (by omega) (by omega), gd_ok (by omega) (by omega), g1 _ _ ri.2.1 ri.2.2 ro.2.1 ro.2.2, w32_id (z := B (row i) (row o) + sm (prs1 row (row i) (row o) i) o.toNat + 1) (by omega) (by omega)]
    refine ih _ ⟨by omega, fun a b a0 a2 b0 b2 => ?_, fun x j hx => ?_⟩
    · rw [sm_s _ o0]
      show upd2 s 223 _ _ 223 _ = _
      by_cases q : a = row i ∧ b = row o
      · rw [q.1, q.2, upd2_s]
        have : prs1 row (row i) (row o) i o = 1 := by
          unfold prs1
          rw [decide_eq_true ⟨by omega, rfl, rfl⟩]
          rfl
        omega
      · rw [upd2_o (by omega), g1 a b a0 a2 b0 b2]
        have : prs1 row a b i o = 0 := by
          unfold prs1
          rw [decide_eq_false (fun z => q ⟨z.2.1.symm, z.2.2.symm⟩)]
          rfl
        omega
    · show upd2 s 223 _ _ x j = _
      rw [upd2_o (by omega)]
      exact g2 x j hx
  · intro n s hI
    obtain ⟨g0, g1, g2⟩ := hI
    show ok (mm_laysFit_L124 a1 i K (n + 1) n6 s) _
    rw [mm_laysFit_L124, g2 201 14 (by omega), h14, if_neg (by omega)]
    exact hK s g1 g2
  · have e := sm_cut (f := prs1 row a b i) (n := 0) (m := (i + 1).toNat) (by omega) fun o o0 o1 => by
      unfold prs1
      rw [decide_eq_false (fun z => by omega)]
      rfl
    rw [e, (hB a b a0 a2 b0 b2).1]
    show _ = _ + 0
    omega
theorem fit95_ok {a1 k : Int} {P : Int → Int} {fit : Int → Bool} {S : Hp} (hV : PaperV P) (k0 : 0 ≤ k) (k1 : k < PRm (P 1).toNat) (hfit : fit k = true) (h14 : S 201 14 = P 1) (hrow : RwM S P k) (hw : ∀ i, 0 ≤ i → i < 6 → S 221 i = if i < P 1 then fF fit (whA P i) 0 k.toNat else 0) (ha : ∀ a b, 0 ≤ a → a < P 1 → 0 ≤ b → b < P 1 → S 223 (6 * a + b) = fF fit (ahA P a b) 0 k.toNat) :
    ok (mm_laysFit_L95 a1 FU 0 S) (fun G' => (∀ i, 0 ≤ i → i < 6 → G' 221 i = if i < P 1 then fF fit (whA P i) 0 (k + 1).toNat else 0) ∧ (∀ a b, 0 ≤ a → a < P 1 → 0 ≤ b → b < P 1 → G' 223 (6 * a + b) = fF fit (ahA P a b) 0 (k + 1).toNat) ∧ ∀ x j, x ≠ 221 → x ≠ 223 → G' x j = S x j) := by
  have h1 := hV.2.1
  have hN : (P 1).toNat ≤ 6 := by omega
  have hMr := PRm_r hN
  have hall := fun i (i0 : 0 ≤ i) (i1 : i < P 1) => (rk_all hN k0 k1 i0 (show i < ((P 1).toNat : Int) by omega)).1
  have sW : ∀ i, fF fit (whA P i) 0 (k + 1).toNat = ior (fF fit (whA P i) 0 k.toNat) (ishl 1 (rk (P 1).toNat k i)) := fun i => by rw [fF_s k0, if_pos hfit]; rfl
  have sA : ∀ a b, fF fit (ahA P a b) 0 (k + 1).toNat = fF fit (ahA P a b) 0 k.toNat + sm (prs0 (rk (P 1).toNat k) (P 1).toNat a b) (P 1).toNat := fun a b => by rw [fF_s k0, if_pos hfit]; rfl
  refine lp_up (fun n i s => mm_laysFit_L95 a1 n i s) (P 1) (fun i s => (∀ j, 0 ≤ j → j < 6 → s 221 j = if j < P 1 then (if j < i then fF fit (whA P j) 0 (k + 1).toNat else fF fit (whA P j) 0 k.toNat) else 0) ∧ (∀ a b, 0 ≤ a → a < P 1 → 0 ≤ b → b < P 1 → s 223 (6 * a + b) = fF fit (ahA P a b) 0 k.toNat + sm (prs0 (rk (P 1).toNat k) (P 1).toNat a b) i.toNat) ∧ ∀ x j, x ≠ 221 → x ≠ 223 → s x j = S x j) ?_ ?_ (by omega) (by omega) (by omega) ⟨fun j j0 j1 => ?_, fun a b a0 a2 b0 b2 => ?_, fun _ _ _ _ => rfl⟩
  · intro n i s i0 i1 hI ih
    obtain ⟨g1, g2, g3⟩ := hI
    have e213 : s 213 i = rk (P 1).toNat k i := by rw [g3 _ _ (by omega) (by omega)]; exact hrow i i0 (by omega)
    have e221 : s 221 i = fF fit (whA P i) 0 k.toNat := by rw [g1 i i0 (by omega), if_pos i1, if_neg (by omega)]
    show ok (mm_laysFit_L95 a1 (n + 1) i s) _
    rw [mm_laysFit_L95, g3 201 14 (by omega) (by omega), h14, if_pos i1, gd_ok i0 (by omega), gd_ok i0 (by omega), gd_ok i0 (by omega), w32_id (z := i + 1) (by omega) (by omega), e213, e221, ← sW i]
    refine fit124_ok (row := rk (P 1).toNat k) (n6 := P 1) (B := fun a b => fF fit (ahA P a b) 0 k.toNat + sm (prs0 (rk (P 1).toNat k) (P 1).toNat a b) i.toNat) h1.1 h1.2 ?_ i0 i1 (fun j j0 j1 => ⟨?_, hall j j0 j1 |>.1, by have := (hall j j0 j1).2; omega⟩) (fun a b a0 a2 b0 b2 => ⟨?_, ?_⟩) fun G' q1 q2 => ih G' ⟨fun j j0 j1 => ?_, fun a b a0 a2 b0 b2 => ?_, fun x j x1 x2 => ?_⟩
    · rw [upd2_o (by omega), g3 _ _ (by omega) (by omega)]
      exact h14
    · rw [upd2_o (by omega), g3 _ _ (by omega) (by omega)]
      exact hrow j j0 (by omega)
    · rw [upd2_o (by omega)]
      exact g2 a b a0 a2 b0 b2
    · have x1 := ahA_r (fit := fit) hN a b k.toNat
      have x2 := sm_r (f := prs0 (rk (P 1).toNat k) (P 1).toNat a b) (a := 0) (b := 6) (n := i.toNat) (fun j _ _ => by have := prs0_r (rk (P 1).toNat k) (P 1).toNat a b j; omega)
      show 0 ≤ fF fit (ahA P a b) 0 k.toNat + sm (prs0 (rk (P 1).toNat k) (P 1).toNat a b) i.toNat ∧ fF fit (ahA P a b) 0 k.toNat + sm (prs0 (rk (P 1).toNat k) (P 1).toNat a b) i.toNat ≤ 100000
      omega
    · rw [q2 _ _ (by omega)]
      by_cases hj : j = i
      · rw [upd2_e rfl hj, hj, if_pos i1, if_pos (by omega)]
      · rw [upd2_o (by omega), g1 j j0 j1]
        by_cases hp : j < P 1
        · rw [if_pos hp, if_pos hp]
          by_cases hq : j < i
          · rw [if_pos hq, if_pos (by omega)]
          · rw [if_neg hq, if_neg (by omega)]
        · rw [if_neg hp, if_neg hp]
    · rw [q1 a b a0 a2 b0 b2, sm_s _ i0]
      exact Int.add_assoc _ _ _
    · rw [q2 _ _ x2, upd2_o (by omega)]
      exact g3 x j x1 x2
  · intro n s hI
    obtain ⟨g1, g2, g3⟩ := hI
    show ok (mm_laysFit_L95 a1 (n + 1) (P 1) s) _
    rw [mm_laysFit_L95, g3 201 14 (by omega) (by omega), h14, if_neg (by omega)]
    refine ok_some ⟨fun i i0 i1 => ?_, fun a b a0 a2 b0 b2 => ?_, g3⟩
    · rw [g1 i i0 i1]
      by_cases hp : i < P 1
      · rw [if_pos hp, if_pos hp, if_pos hp]
      · rw [if_neg hp, if_neg hp]
    · rw [g2 a b a0 a2 b0 b2, sA]
  · rw [hw j j0 j1, if_neg (show ¬ j < 0 by omega)]
  · rw [ha a b a0 a2 b0 b2]
    show _ = _ + 0
    omega
theorem laysFit_ok {k b : Int} {P N : Int → Int} {fit : Int → Bool} {G : Hp} (hV : PaperV P) (hM : MW P N b G) (k0 : 0 ≤ k) (k1 : k < PRm (P 1).toNat) (hfit : fit k = true) (hrow : RwM G P k) (hr : ∀ p, 0 ≤ p → p < 8 → G 207 p = prf P k p) (hF : FM P fit k G) : ok (mm_laysFit (cA P k) G) (fun G' => FM P fit (k + 1) G' ∧ Fo G G') := by
  have h0 := hV.1
  have h1 := hV.2.1
  have hN : (P 1).toNat ≤ 6 := by omega
  have hMr := PRm_r hN
  obtain ⟨⟨f0, f1, f2⟩, f3, f4, f5⟩ := hF
  have hc := cntF_r (fit := fit) k.toNat
  have hmn := mnA_r (fit := fit) hV k.toNat
  have sC := cntF_s (fit := fit) k0
  have sX : fF fit (mxA P) (-1) (k + 1).toNat = max (fF fit (mxA P) (-1) k.toNat) (cA P k) := by rw [fF_s k0, if_pos hfit]; rfl
  have sN : fF fit (mnA P) (-1) (k + 1).toNat = if fF fit (mnA P) (-1) k.toNat = -1 then cA P k else min (fF fit (mnA P) (-1) k.toNat) (cA P k) := by rw [fF_s k0, if_pos hfit]; rfl
  have sW : ∀ p w, fF fit (wcA P p w) 0 (k + 1).toNat = fF fit (wcA P p w) 0 k.toNat + b2i (decide (prf P k p = w)) := fun p w => by rw [fF_s k0, if_pos hfit]; rfl
  rw [if_pos hfit] at sC
  have key : ∀ S : Hp, S 201 40 = cntF fit (k + 1).toNat → S 201 41 = fF fit (mxA P) (-1) (k + 1).toNat → S 201 42 = fF fit (mnA P) (-1) (k + 1).toNat → (∀ a j, ¬ (a = 201 ∧ 40 ≤ j ∧ j ≤ 42) → S a j = G a j) → ok (mm_laysFit_L59 (cA P k) (fun G_93 => mm_laysFit_L95 (cA P k) FU 0 G_93) FU 0 S) (fun G' => FM P fit (k + 1) G' ∧ Fo G G') := by
    intro S s0 s1 s2 sf
    refine lp_up (fun n i s => mm_laysFit_L59 (cA P k) (fun G_93 => mm_laysFit_L95 (cA P k) FU 0 G_93) n i s) (P 0) (fun i s => (∀ p w, 0 ≤ p → p < 8 → 0 ≤ w → w < 10 → s 222 (10 * p + w) = if p < P 0 then fF fit (wcA P p w) 0 k.toNat + (if p < i then b2i (decide (prf P k p = w)) else 0) else 0) ∧ ∀ x j, x ≠ 222 → s x j = S x j) ?_ ?_ (by omega) (by omega) (by omega) ⟨fun p w p0 p1 w0 w1 => ?_, fun _ _ _ => rfl⟩
    · intro n i s i0 i1 hI ih
      obtain ⟨g1, g2⟩ := hI
      have hpv := prf_V hV k i i0 (by omega)
      have e207 : s 207 i = prf P k i := by rw [g2 _ _ (by omega), sf _ _ (by omega)]; exact hr i i0 (by omega)
      have e13 : s 201 13 = P 0 := by rw [g2 _ _ (by omega), sf _ _ (by omega)]; exact hM.1.1.2.1
      have e222 : s 222 (10 * i + prf P k i) = fF fit (wcA P i (prf P k i)) 0 k.toNat := by
        rw [g1 i _ i0 (by omega) hpv.1 hpv.2, if_pos i1, if_neg (by omega)]
        omega
      have hwr := wcA_r (fit := fit) P i (prf P k i) k.toNat
      show ok (mm_laysFit_L59 (cA P k) _ (n + 1) i s) _
      rw [mm_laysFit_L59, e13, if_pos i1, e207, gd_ok i0 (by omega), w32_id (z := i + 1) (by omega) (by omega), w32_id (z := 10 * i) (by omega) (by omega), w32_id (z := 10 * i + prf P k i) (by omega) (by omega), gd_ok (by omega) (by omega), gd_ok (by omega) (by omega), e222, w32_id (z := fF fit (wcA P i (prf P k i)) 0 k.toNat + 1) (by omega) (by omega)]
      refine ih _ ⟨fun p w p0 p1 w0 w1 => ?_, fun x j hx => ?_⟩
      · by_cases q : p = i ∧ w = prf P k i
        · rw [q.1, q.2, upd2_s, if_pos i1, if_pos (by omega), decide_eq_true rfl]
          rfl
        · rw [upd2_o (by omega), g1 p w p0 p1 w0 w1]
          by_cases hp : p < P 0
          · rw [if_pos hp, if_pos hp]
            by_cases hq : p < i
            · rw [if_pos hq, if_pos (by omega)]
            · rw [if_neg hq]
              by_cases hpi : p = i
              · rw [if_pos (by omega), hpi, decide_eq_false (fun z => q ⟨hpi, z.symm⟩)]
                rfl
              · rw [if_neg (by omega)]
          · rw [if_neg hp, if_neg hp]
      · rw [upd2_o (by omega)]
        exact g2 x j hx
    · intro n s hI
      obtain ⟨g1, g2⟩ := hI
      have gg : ∀ a j, ¬ (a = 201 ∧ 40 ≤ j ∧ j ≤ 42) → a ≠ 222 → s a j = G a j := fun a j x y => (g2 a j y).trans (sf a j x)
      have e13 : s 201 13 = P 0 := by rw [gg _ _ (by omega) (by omega)]; exact hM.1.1.2.1
      show ok (mm_laysFit_L59 (cA P k) _ (n + 1) (P 0) s) _
      rw [mm_laysFit_L59, e13, if_neg (by omega)]
      refine ok_mono (fit95_ok (fit := fit) hV k0 k1 hfit (by rw [gg _ _ (by omega) (by omega)]; exact hM.1.1.2.2) (fun i i0 i1 => by rw [gg _ _ (by omega) (by omega)]; exact hrow i i0 i1) (fun i i0 i1 => by rw [gg _ _ (by omega) (by omega)]; exact f3 i i0 i1) (fun a b a0 a2 b0 b2 => by rw [gg _ _ (by omega) (by omega)]; exact f5 a b a0 a2 b0 b2)) fun z hz => ?_
      obtain ⟨z1, z2, z3⟩ := hz
      refine ⟨⟨⟨?_, ?_, ?_⟩, z1, fun p w p0 p1 w0 w1 => ?_, z2⟩, fun a j x y u v => ?_⟩
      · rw [z3 _ _ (by omega) (by omega), g2 _ _ (by omega)]; exact s0
      · rw [z3 _ _ (by omega) (by omega), g2 _ _ (by omega)]; exact s1
      · rw [z3 _ _ (by omega) (by omega), g2 _ _ (by omega)]; exact s2
      · rw [z3 _ _ (by omega) (by omega), g1 p w p0 p1 w0 w1]
        by_cases hp : p < P 0
        · rw [if_pos hp, if_pos hp, if_pos hp, sW]
        · rw [if_neg hp, if_neg hp]
      · rw [z3 _ _ y v]
        exact gg a j x u
    · rw [sf _ _ (by omega), f4 p w p0 p1 w0 w1, if_neg (show ¬ p < 0 by omega), Int.add_zero]
  have k44 : ∀ (S : Hp) (s0 : Int), S 201 40 = cntF fit k.toNat → S 201 41 = fF fit (mxA P) (-1) (k + 1).toNat → s0 = fF fit (mnA P) (-1) (k + 1).toNat → (∀ a j, ¬ (a = 201 ∧ 40 ≤ j ∧ j ≤ 42) → S a j = G a j) → ok (mm_laysFit_j44 (cA P k) s0 S) (fun G' => FM P fit (k + 1) G' ∧ Fo G G') := by
    intro S s0 q0 q1 q2 q3
    unfold mm_laysFit_j44
    have e : upd2 S 201 42 s0 201 40 = cntF fit k.toNat := by rw [upd2_o (by omega)]; exact q0
    rw [e, w32_id (by omega) (by omega)]
    refine key _ ?_ ?_ ?_ fun a j x => ?_
    · rw [upd2_s, sC]
    · rw [upd2_o (by omega), upd2_o (by omega)]; exact q1
    · rw [upd2_o (by omega), upd2_s]; exact q2
    · rw [upd2_o (by omega), upd2_o (by omega)]; exact q3 a j x
  have k17 : ∀ s0 : Int, s0 = fF fit (mxA P) (-1) (k + 1).toNat → ok (mm_laysFit_j17 (cA P k) s0 G) (fun G' => FM P fit (k + 1) G' ∧ Fo G G') := by
    intro s0 q
    have e0 : upd2 G 201 41 s0 201 40 = cntF fit k.toNat := by rw [upd2_o (by omega)]; exact f0
    have e2 : upd2 G 201 41 s0 201 42 = fF fit (mnA P) (-1) k.toNat := by rw [upd2_o (by omega)]; exact f2
    have k3 : ∀ v : Int, v = fF fit (mnA P) (-1) (k + 1).toNat → ok (mm_laysFit_j44 (cA P k) v (upd2 G 201 41 s0)) (fun G' => FM P fit (k + 1) G' ∧ Fo G G') := fun v hv => k44 _ v e0 (by rw [upd2_s]; exact q) hv fun a j x => upd2_o (by omega)
    unfold mm_laysFit_j17
    rw [e0, e2]
    refine ok_ite (fun e => k3 _ ?_) (fun e => ok_ite (fun e3 => k3 _ ?_) (fun e3 => k3 _ ?_))
    · rw [sN, if_pos (hmn.1 e)]
    · have := hmn.2 (by omega)
      rw [sN, if_neg (by omega)]
      omega
    · have := hmn.2 (by omega)
      rw [sN, if_neg (by omega)]
      omega
  unfold mm_laysFit
  rw [f1]
  refine ok_ite (fun e => k17 _ ?_) (fun e => k17 _ ?_)
  · rw [sX]; omega
  · rw [sX]; omega
