-- the model: one reading
def RdM (g f : Int → Int) (r n : Int) (G G' : Hp) : Prop :=
  (∀ p, 0 ≤ p → p < 8 → G' 207 p = g p) ∧ (∀ p, 0 ≤ p → p < 8 → G' 211 p = if g p ≠ f p then r else G 211 p) ∧ (Mk 8 (G' 201 20) ∧ ∀ p, 0 ≤ p → bt (G' 201 20) p = (bt (G 201 20) p || (decide (p < 8) && df g f p))) ∧ G' 201 17 = w32 (G 201 17 + n) ∧ (∀ j, G' 210 j = if j = r then w32 (G 210 r + n) else G 210 j) ∧ ∀ a j, a ≠ 207 → a ≠ 210 → a ≠ 211 → ¬ (a = 201 ∧ (j = 17 ∨ j = 20)) → G' a j = G a j
/-- how many changes one reading makes -/
def nch (g f : Int → Int) : Int := sm (fun p => b2i (df g f p)) 8
theorem nch_r (g f : Int → Int) : 0 ≤ nch g f ∧ nch g f ≤ 8 := by
  have := sm_r (f := fun p => b2i (df g f p)) (a := 0) (b := 1) (n := 8) (fun j _ _ => b2i_b _)
  unfold nch
  omega
theorem nch_0 {g f : Int → Int} : nch g f = 0 ↔ ∀ p, 0 ≤ p → p < 8 → g p = f p := by
  have key : ∀ n : Nat, (0 ≤ sm (fun p => b2i (df g f p)) n) ∧ (sm (fun p => b2i (df g f p)) n = 0 ↔ ∀ p : Int, 0 ≤ p → p < n → g p = f p) := by
    intro n
    induction n with
    | zero => exact ⟨Int.le_refl 0, fun _ p p0 p1 => by omega, fun _ => rfl⟩
    | succ n ih =>
      have hb := b2i_b (df g f (n : Int))
      have e : sm (fun p => b2i (df g f p)) (n + 1) = sm (fun p => b2i (df g f p)) n + b2i (df g f (n : Int)) := rfl
      refine ⟨by omega, ?_⟩
      rw [e]
      constructor
      · intro h p p0 p1
        by_cases hp : p = (n : Int)
        · subst hp
          have : b2i (df g f (n : Int)) = 0 := by omega
          unfold b2i df at this
          by_cases q : g (n : Int) = f (n : Int)
          · exact q
          · simp [q] at this
        · exact ih.2.mp (by omega) p p0 (by omega)
      · intro h
        have h1 := ih.2.mpr fun p p0 p1 => h p p0 (by omega)
        have h2 := h (n : Int) (by omega) (by omega)
        rw [h1]
        unfold b2i df
        simp [h2]
  exact (key 8).2
theorem reads_ok {P N f : Int → Int} {b r : Int} {G : Hp} (hV : PaperV P) (h : MS P b G) (hN : MN N G) (hf : PV f) (hG : ∀ p, 0 ≤ p → p < 8 → G 207 p = f p) (r0 : 0 ≤ r) (r1 : r < 6) (hl : Mk 8 (G 209 r)) (ht : Mk 8 (G 201 20)) :
    ok (mm_reads r G) (fun x => x.1 = nch (rdF N (P (20 + 2 * r)) (bt (G 209 r)) (wnP P r) (P 0) f) f ∧ RdM (rdF N (P (20 + 2 * r)) (bt (G 209 r)) (wnP P r) (P 0) f) f r (nch (rdF N (P (20 + 2 * r)) (bt (G 209 r)) (wnP P r) (P 0) f) f) G x.2) := by
  have hp0 := hV.1
  have hpat := hV.2.2.2.2.1 r r0 r1
  generalize hlv : bt (G 209 r) = lv at *
  generalize hg : rdF N (P (20 + 2 * r)) lv (wnP P r) (P 0) f = g at *
  have hdf : ∀ p, 0 ≤ p → p < P 0 → df g f p = chd (wl N lv (wnP P r) f) (P (20 + 2 * r)) p := fun p a c => by rw [← hg]; exact rdF_df _ _ _ _ _ a c
  have hgo : ∀ p, ¬ (0 ≤ p ∧ p < P 0) → g p = f p := fun p a => by rw [← hg]; exact rdF_out a
  have hn : nch g f = cR (wl N lv (wnP P r) f) (P (20 + 2 * r)) (P 0).toNat := by
    rw [← hg]
    exact (rdF_n (by omega) (by omega)).symm
  have c9 : ∀ k : Nat, 0 ≤ cR (wl N lv (wnP P r) f) (P (20 + 2 * r)) k ∧ cR (wl N lv (wnP P r) f) (P (20 + 2 * r)) k ≤ P (20 + 2 * r) := fun k => ⟨(cR_r _ _ k).1, cR_pat _ hpat.1 k⟩
  unfold mm_reads
  -- the end
  have fin : ∀ (i : Int) (G1 : Hp), 0 ≤ i → i ≤ P 0 → (∀ p, i ≤ p → p < 8 → g p = f p) → (∀ p, 0 ≤ p → p < 8 → G1 207 p = if p < i then g p else f p) → (∀ p, 0 ≤ p → p < 8 → G1 211 p = if p < i ∧ g p ≠ f p then r else G 211 p) → (Mk 8 (G1 201 20) ∧ ∀ p, 0 ≤ p → bt (G1 201 20) p = (bt (G 201 20) p || (decide (p < i) && df g f p))) → (∀ a j, a ≠ 207 → a ≠ 211 → ¬ (a = 201 ∧ j = 20) → G1 a j = G a j) → ok (gd r 6 (gd r 6 (some (nch g f, upd2 (upd2 G1 201 17 (w32 ((G1 201 17) + nch g f))) 210 r (w32 (((upd2 G1 201 17 (w32 ((G1 201 17) + nch g f))) 210 r) + nch g f)))))) (fun x => x.1 = nch g f ∧ RdM g f r (nch g f) G x.2) := by
    intro i G1 i0 i1 e0 e1 e2 e3 e4
    have hdfo : ∀ p, 0 ≤ p → (decide (p < i) && df g f p) = (decide (p < 8) && df g f p) := by
      intro p p0
      by_cases h1 : p < i
      · rw [decide_eq_true h1, decide_eq_true (by omega)]
      · by_cases h2 : p < 8
        · have : df g f p = false := decide_eq_false (fun z => z (e0 p (by omega) h2))
          rw [this, Bool.and_false, Bool.and_false]
        · rw [decide_eq_false h1, decide_eq_false h2]
    refine ok_gd r0 r1 (ok_gd r0 r1 (ok_some ⟨rfl, fun p p0 p1 => ?_, fun p p0 p1 => ?_, ⟨?_, fun p p0 => ?_⟩, ?_, fun j => ?_, fun a j a1 a2 a3 a4 => ?_⟩))
    · dsimp only
      rw [upd2_o (by omega), upd2_o (by omega), e1 p p0 p1]
      by_cases q : p < i
      · rw [if_pos q]
      · rw [if_neg q, e0 p (by omega) p1]
    · dsimp only
      rw [upd2_o (by omega), upd2_o (by omega), e2 p p0 p1]
      by_cases q : p < i
      · by_cases q2 : g p ≠ f p
        · rw [if_pos ⟨q, q2⟩, if_pos q2]
        · rw [if_neg (fun z => q2 z.2), if_neg q2]
      · rw [if_neg (fun z => q z.1), if_neg (fun z => z (e0 p (by omega) p1))]
    · dsimp only
      rw [upd2_o (by omega), upd2_o (by omega)]
      exact e3.1
    · dsimp only
      rw [upd2_o (by omega), upd2_o (by omega), e3.2 p p0, hdfo p p0]
    · dsimp only
      rw [upd2_o (by omega), upd2_s, e4 201 17 (by omega) (by omega) (by omega)]
    · dsimp only
      by_cases q : j = r
      · rw [upd2_e rfl q, if_pos q, upd2_o (by omega), e4 210 r (by omega) (by omega) (by omega)]
      · rw [upd2_o (by omega), upd2_o (by omega), if_neg q, e4 210 j (by omega) (by omega) (by omega)]
    · dsimp only
      rw [upd2_o (by omega), upd2_o (by omega), e4 a j a1 a3 (by omega)]
  refine lp_up (fun n i (s : Int × Hp) => mm_reads_L4 r (fun x2_92 G_92 => gd r 6 (gd r 6 (some (x2_92, upd2 (upd2 G_92 201 17 (w32 ((G_92 201 17) + x2_92))) 210 r (w32 (((upd2 G_92 201 17 (w32 ((G_92 201 17) + x2_92))) 210 r) + x2_92)))))) n s.1 i s.2) (P 0)
    (fun i s => s.1 = cR (wl N lv (wnP P r) f) (P (20 + 2 * r)) i.toNat ∧ (∀ p, 0 ≤ p → p < 8 → s.2 207 p = if p < i then g p else f p) ∧ (∀ p, 0 ≤ p → p < 8 → s.2 211 p = if p < i ∧ g p ≠ f p then r else G 211 p) ∧ (Mk 8 (s.2 201 20) ∧ ∀ p, 0 ≤ p → bt (s.2 201 20) p = (bt (G 201 20) p || (decide (p < i) && df g f p))) ∧ ∀ a j, a ≠ 207 → a ≠ 211 → ¬ (a = 201 ∧ j = 20) → s.2 a j = G a j) ?_ ?_ (by omega) (by omega) (by omega) (s := (0, G)) ⟨rfl, fun p p0 p1 => by rw [if_neg (by omega)]; exact hG p p0 p1, fun p p0 p1 => by rw [if_neg (by omega)], ⟨ht, fun p p0 => by rw [decide_eq_false (by omega), Bool.false_and, Bool.or_false]⟩, fun _ _ _ _ _ => rfl⟩
  · intro n i s i0 i1 hI ih
    obtain ⟨cnt, G1⟩ := s
    obtain ⟨h1, h2, h3, h4, h5⟩ := hI
    simp only at h1 h2 h3 h4 h5
    have hM1 : MS P b G1 := h.fr (fun j hj => h5 _ _ (by omega) (by omega) (by omega)) (fun j => h5 _ _ (by omega) (by omega) (by omega))
    have hN1 : MN N G1 := hN.fr (fun j => h5 _ _ (by omega) (by omega) (by omega)) (fun j => h5 _ _ (by omega) (by omega) (by omega))
    show ok (mm_reads_L4 r _ (n + 1) cnt i G1) _
    have hck := c9 i.toNat
    rw [mm_reads_L4, hM1.1.2.1, if_pos i1, pat_ok hM1 r0 r1, Option.bind_some]
    by_cases hle : cnt < P (20 + 2 * r)
    · rw [if_pos hle, gd_ok r0 r1, h5 209 r (by omega) (by omega) (by omega)]
      have hcs := cR_s (wl N lv (wnP P r) f) (P (20 + 2 * r)) i0
      have hch : chd (wl N lv (wnP P r) f) (P (20 + 2 * r)) i = wl N lv (wnP P r) f i := by
        unfold chd
        rw [decide_eq_true (by omega), Bool.and_true]
      have hdi := hdf i i0 i1
      rw [hch] at hdi
      have step : ∀ w : Int, w = (if lv i = true then -1 else tw2 N (f i) (wnP P r i)) → ok (mm_reads_j45 r (mm_reads_L4 r (fun x2_92 G_92 => gd r 6 (gd r 6 (some (x2_92, upd2 (upd2 G_92 201 17 (w32 ((G_92 201 17) + x2_92))) 210 r (w32 (((upd2 G_92 201 17 (w32 ((G_92 201 17) + x2_92))) 210 r) + x2_92)))))) n) cnt i w G1) (fun x => x.1 = nch g f ∧ RdM g f r (nch g f) G x.2) := by
        intro w hw
        have hwl : wl N lv (wnP P r) f i = decide (w ≠ -1) := by
          unfold wl
          rw [hw]
          cases lv i <;> simp
        unfold mm_reads_j45
        simp (disch := omega) only [w32_id]
        generalize hS : upd2 (upd2 (upd2 G1 207 i w) 211 i r) 201 20 (ior ((upd2 (upd2 G1 207 i w) 211 i r) 201 20) (ishl 1 i)) = S
        have so : ∀ a j, ¬ (a = 207 ∧ j = i) → ¬ (a = 211 ∧ j = i) → ¬ (a = 201 ∧ j = 20) → S a j = G1 a j := fun a j x y z => by rw [← hS, upd2_o z, upd2_o y, upd2_o x]
        have s1 : S 207 i = w := by rw [← hS, upd2_o (by omega), upd2_o (by omega), upd2_s]
        have s2 : S 211 i = r := by rw [← hS, upd2_o (by omega), upd2_s]
        have s3 : S 201 20 = ior (G1 201 20) (ishl 1 i) := by rw [← hS, upd2_s, upd2_o (by omega), upd2_o (by omega)]
        refine ok_ite (fun e => ih (cnt, G1) ⟨?_, fun p p0 p1 => ?_, fun p p0 p1 => ?_, ⟨h4.1, fun p p0 => ?_⟩, h5⟩) (fun e => ok_gd i0 (by omega) (ok_gd i0 (by omega) (ih (cnt + 1, S) ⟨?_, fun p p0 p1 => ?_, fun p p0 p1 => ?_, ⟨?_, fun p p0 => ?_⟩, fun a j a1 a2 a3 => ?_⟩)))
        · show cnt = _
          rw [hcs, hch, hwl, h1]
          simp [e, b2i]
        · show G1 207 p = _
          rw [h2 p p0 p1]
          by_cases hp : p = i
          · subst hp
            rw [if_neg (by omega), if_pos (by omega)]
            have : df g f p = false := by rw [hdi, hwl]; simp [e]
            have := of_decide_eq_false this
            exact (Classical.not_not.mp this).symm
          · by_cases hp2 : p < i
            · rw [if_pos hp2, if_pos (by omega)]
            · rw [if_neg hp2, if_neg (by omega)]
        · show G1 211 p = _
          rw [h3 p p0 p1]
          by_cases hp : p = i
          · subst hp
            have : df g f p = false := by rw [hdi, hwl]; simp [e]
            have := of_decide_eq_false this
            rw [if_neg (by omega), if_neg (fun z => this z.2)]
          · have e9 : (p < i + 1 ∧ g p ≠ f p) ↔ (p < i ∧ g p ≠ f p) := ⟨fun z => ⟨by omega, z.2⟩, fun z => ⟨by omega, z.2⟩⟩
            simp only [e9]
        · show bt (G1 201 20) p = _
          rw [h4.2 p p0]
          by_cases hp : p = i
          · subst hp
            have : df g f p = false := by rw [hdi, hwl]; simp [e]
            rw [this, Bool.and_false, Bool.and_false]
          · rw [decide_eq_decide.mpr (show p < i ↔ p < i + 1 by omega)]
        · show cnt + 1 = _
          rw [hcs, hch, hwl, h1]
          simp [e, b2i]
        · show S 207 p = _
          by_cases hp : p = i
          · subst hp
            rw [s1, if_pos (by omega), ← hg]
            unfold rdF
            rw [hch, hwl, if_pos ⟨p0, i1, decide_eq_true e⟩]
            rw [hw]
            have : lv p = false := by
              cases hb : lv p with
              | false => rfl
              | true =>
                rw [hb, if_pos rfl] at hw
                exact absurd hw e
            rw [this, if_neg (by decide)]
          · rw [so _ _ (by omega) (by omega) (by omega), h2 p p0 p1]
            by_cases hp2 : p < i
            · rw [if_pos hp2, if_pos (by omega)]
            · rw [if_neg hp2, if_neg (by omega)]
        · show S 211 p = _
          by_cases hp : p = i
          · subst hp
            have : df g f p = true := by rw [hdi, hwl]; simp [e]
            have := of_decide_eq_true this
            rw [s2, if_pos ⟨by omega, this⟩]
          · rw [so _ _ (by omega) (by omega) (by omega), h3 p p0 p1]
            have e9 : (p < i + 1 ∧ g p ≠ f p) ↔ (p < i ∧ g p ≠ f p) := ⟨fun z => ⟨by omega, z.2⟩, fun z => ⟨by omega, z.2⟩⟩
            simp only [e9]
        · show Mk 8 (S 201 20)
          rw [s3]
          exact h4.1.or (Mk.shl i0 (by omega) (by omega)) (by omega)
        · show bt (S 201 20) p = _
          rw [s3, bt_or h4.1 (Mk.shl (n := 8) i0 (by omega) (by omega)) (by omega) (by omega), h4.2 p p0, bt_shl i0 (by omega) p0]
          by_cases hp : p = i
          · subst hp
            have : df g f p = true := by rw [hdi, hwl]; simp [e]
            rw [this, decide_eq_true rfl, decide_eq_true (show p < p + 1 by omega)]
            simp
          · rw [decide_eq_false hp, Bool.or_false, decide_eq_decide.mpr (show p < i ↔ p < i + 1 by omega)]
        · show S a j = _
          rw [so _ _ (by omega) (by omega) (by omega), h5 a j a1 a2 a3]
      by_cases hb : iand (ishr (G 209 r) i) 1 = 1
      · rw [if_pos hb]
        have := (iand1_1 hl (by omega) i0 (by omega)).mp hb
        rw [hlv] at this
        exact step _ (by rw [this, if_pos rfl])
      · rw [if_neg hb]
        have : lv i = false := by
          cases hq : lv i with
          | false => rfl
          | true =>
            rw [← hlv] at hq
            exact absurd ((iand1_1 hl (by omega) i0 (by omega)).mpr hq) hb
        -- the words as they stand now
        have hV2 : PV (fun p => if p < i then g p else f p) := by
          intro p p0 p1
          show 0 ≤ (if p < i then g p else f p) ∧ (if p < i then g p else f p) < 10
          by_cases hp : p < i
          · rw [if_pos hp, ← hg]
            exact rdF_V hf p p0 p1
          · rw [if_neg hp]
            exact hf p p0 p1
        rw [put_ok hV hM1 hN1 hV2 h2 r0 r1 i0 (by omega), Option.bind_some, if_neg (show ¬ i < i by omega)]
        exact step _ (by rw [this, if_neg (by decide)])
    · rw [if_neg hle]
      have e : nch g f = cnt := by
        rw [hn, h1]
        have := cR_stop (c := wl N lv (wnP P r) f) (pat := P (20 + 2 * r)) (k := i.toNat) (by omega) ((P 0).toNat - i.toNat)
        rw [show i.toNat + ((P 0).toNat - i.toNat) = (P 0).toNat by omega] at this
        exact this
      rw [← e]
      refine fin i G1 i0 (by omega) (fun p p0 p1 => ?_) h2 h3 h4 h5
      by_cases hp : p < P 0
      · have h9 := hdf p (by omega) hp
        rw [chd_stop (k := i.toNat) (by omega) (by omega)] at h9
        exact Classical.not_not.mp (of_decide_eq_false h9)
      · exact hgo p (by omega)
  · intro n s hI
    obtain ⟨cnt, G1⟩ := s
    obtain ⟨h1, h2, h3, h4, h5⟩ := hI
    simp only at h1 h2 h3 h4 h5
    have hM1 : MS P b G1 := h.fr (fun j hj => h5 _ _ (by omega) (by omega) (by omega)) (fun j => h5 _ _ (by omega) (by omega) (by omega))
    show ok (mm_reads_L4 r _ (n + 1) cnt (P 0) G1) _
    rw [mm_reads_L4, hM1.1.2.1, if_neg (by omega), h1, ← hn]
    exact fin (P 0) G1 hp0.1 (by omega) (fun p p0 p1 => hgo p (by omega)) h2 h3 h4 h5
theorem mcontent_ok {P f : Int → Int} {b r : Int} {G : Hp} (hV : PaperV P) (h : MS P b G) (hG : ∀ p, 0 ≤ p → p < 8 → G 207 p = f p) (r0 : 0 ≤ r) (r1 : r < 6) : mm_contentOf r G = some (ctn P r f) := by
  apply ok_iff
  unfold mm_contentOf
  have hp0 := hV.1
  have hr : ∀ n : Nat, 0 ≤ sm (fun p => b2i (decide (P (32 + 8 * r + p) = f p))) n ∧ sm (fun p => b2i (decide (P (32 + 8 * r + p) = f p))) n ≤ n := fun n => by
    have := sm_r (f := fun p => b2i (decide (P (32 + 8 * r + p) = f p))) (a := 0) (b := 1) (n := n) (fun j _ _ => b2i_b _)
    omega
  refine lp_up (fun n i (s : Int) => mm_contentOf_L4 r G n s i) (P 0) (fun i s => s = sm (fun p => b2i (decide (P (32 + 8 * r + p) = f p))) i.toNat) ?_ ?_ (by omega) (by omega) (by omega) rfl
  · intro n i s i0 i1 hI ih
    show ok (mm_contentOf_L4 r G (n + 1) s i) _
    have := hr i.toNat
    rw [mm_contentOf_L4, h.1.2.1, if_pos i1, gd_ok i0 (by omega), want_ok h r0 r1 i0 (by omega), Option.bind_some, hG i i0 (by omega)]
    simp (disch := omega) only [w32_id]
    refine ok_ite (fun h => ih _ ?_) (fun h => ih _ ?_)
    · rw [sm_s _ i0, decide_eq_true h.symm, hI]
      rfl
    · rw [sm_s _ i0, decide_eq_false (fun z => h z.symm), hI]
      rfl
  · intro n s hI
    show ok (mm_contentOf_L4 r G (n + 1) s (P 0)) _
    rw [mm_contentOf_L4, h.1.2.1, if_neg (by omega), hI]
    exact ok_some rfl
theorem mcontentA_ok {P f : Int → Int} {b : Int} {G : Hp} (hV : PaperV P) (h : MS P b G) (hG : ∀ p, 0 ≤ p → p < 8 → G 207 p = f p) : mm_contentAll G = some (ctA P f) := by
  apply ok_iff
  unfold mm_contentAll
  have hp1 := hV.2.1
  refine lp_up (fun n i (s : Int) => mm_contentAll_L4 G n s i) (P 1) (fun i s => s = sm (fun r => ctn P r f) i.toNat) ?_ ?_ (by omega) (by omega) (by omega) rfl
  · intro n i s i0 i1 hI ih
    show ok (mm_contentAll_L4 G (n + 1) s i) _
    have h1 := sm_r (f := fun r => ctn P r f) (a := 0) (b := 8) (n := i.toNat) (fun j _ _ => ctn_r hV j f)
    have h2 := ctn_r hV i f
    rw [mm_contentAll_L4, h.1.2.2, if_pos i1, mcontent_ok hV h hG i0 (by omega), Option.bind_some]
    subst hI
    simp (disch := omega) only [w32_id]
    exact ih _ (sm_s _ i0).symm
  · intro n s hI
    show ok (mm_contentAll_L4 G (n + 1) s (P 1)) _
    rw [mm_contentAll_L4, h.1.2.2, if_neg (by omega), hI]
    exact ok_some rfl
