-- counting bits
def pop (x : Int) : Int := sm (fun p => b2i (bt x p)) 10
theorem bc_ok : ∀ x : Fin 1024, jI_bitCount (x.val : Int) = pop (x.val : Int) := by decide +kernel
theorem bc {x : Int} (h : Mk 10 x) : jI_bitCount x = pop x := by
  have h2 : x.toNat < 1024 := by have := h.2; have := h.1; have e : (2 ^ 10 : Nat) = 1024 := rfl; omega
  have := bc_ok ⟨x.toNat, h2⟩
  have e : (((⟨x.toNat, h2⟩ : Fin 1024).val : Nat) : Int) = x := by have := h.1; show ((x.toNat : Nat) : Int) = x; omega
  rw [e] at this
  exact this
theorem pop_bm (f : Int → Bool) {n : Nat} (hn : n ≤ 10) : pop (bm f n) = sm (fun p => b2i (f p)) n := by
  unfold pop
  rw [sm_cut (n := n) hn]
  · exact sm_congr fun p p0 p1 => by rw [bt_bm f n (by omega) p p0, decide_eq_true p1, Bool.true_and]
  · intro j j0 j1
    rw [bt_bm f n (by omega) j (by omega), decide_eq_false (by omega), Bool.false_and]
    rfl
theorem pop_0 : pop 0 = 0 := by decide +kernel
theorem pop_r (x : Int) : 0 ≤ pop x ∧ pop x ≤ 10 := by
  have := sm_r (f := fun p => b2i (bt x p)) (a := 0) (b := 1) (n := 10) (fun j _ _ => b2i_b _)
  unfold pop
  omega
theorem bitsOf_ok {x : Int} {G : Hp} (h : Mk 10 x) : mm_bitsOf x G = some (pop x) := by
  apply ok_iff
  unfold mm_bitsOf
  refine lp_up (fun n i (s : Int) => mm_bitsOf_L4 x G n s i) 12 (fun i s => s = sm (fun p => b2i (bt x p)) i.toNat) ?_ ?_ (by omega) (by omega) (by omega) rfl
  · intro n i s i0 i1 hI ih
    show ok (mm_bitsOf_L4 x G (n + 1) s i) _
    have hr := sm_r (f := fun p => b2i (bt x p)) (a := 0) (b := 1) (n := i.toNat) (fun j _ _ => b2i_b _)
    have hb := b2i_b (bt x i)
    rw [mm_bitsOf_L4, if_pos i1, tst h (by omega) i0 (by omega), hI]
    simp (disch := omega) only [w32_id]
    exact ih _ (sm_s _ i0).symm
  · intro n s hI
    show ok (mm_bitsOf_L4 x G (n + 1) s 12) _
    rw [mm_bitsOf_L4, if_neg (by omega), hI]
    refine ok_some ?_
    unfold pop
    refine sm_cut (n := 10) (by decide) fun j j0 j1 => ?_
    rw [bt_lt h (by omega)]
    rfl
-- the class: places at which two proofs are unlike, content
theorem unlike_ok {a b : Int} {G : Hp} : cX_unlikePlaces a b G = some (bm (fun p => decide (cX_wordAt a p ≠ cX_wordAt b p)) 8) := by
  apply ok_iff
  unfold cX_unlikePlaces
  refine lp_up (fun n i (s : Int) => cX_unlikePlaces_L4 a b G n s i) 8 (fun i s => s = bm (fun p => decide (cX_wordAt a p ≠ cX_wordAt b p)) i.toNat) ?_ ?_ (by omega) (by omega) (by omega) rfl
  · intro n i s i0 i1 hI ih
    show ok (cX_unlikePlaces_L4 a b G (n + 1) s i) _
    rw [cX_unlikePlaces_L4, if_pos i1]
    simp (disch := omega) only [w32_id]
    refine ok_ite (fun h => ih _ ?_) (fun h => ih _ ?_)
    · rw [bm_s _ i0, if_neg (by simp [h]), hI]
    · rw [bm_s _ i0, if_pos (by simp [h]), hI]
  · intro n s hI
    show ok (cX_unlikePlaces_L4 a b G (n + 1) s 8) _
    rw [cX_unlikePlaces_L4, if_neg (by omega), hI]
    exact ok_some rfl
theorem unlike_PK {a b : Int} {f g : Int → Int} {G : Hp} (ha : PK a f) (hb : PK b g) : cX_unlikePlaces a b G = some (bm (df g f) 8) := by
  rw [unlike_ok]
  congr 1
  refine bm_congr fun p p0 p1 => ?_
  rw [ha.2 p p0 (by omega), hb.2 p p0 (by omega)]
  unfold df
  exact decide_eq_decide.mpr ⟨fun h e => h e.symm, fun h e => h e.symm⟩
theorem PK_inj {a b : Int} {f g : Int → Int} (ha : PK a f) (hb : PK b g) : a = b ↔ ∀ p, 0 ≤ p → p < 8 → f p = g p := by
  constructor
  · intro e p p0 p1
    rw [← ha.2 p p0 p1, ← hb.2 p p0 p1, e]
  · intro h
    exact proof_ext ha.1 hb.1 fun p p0 p1 => by rw [ha.2 p p0 p1, hb.2 p p0 p1, h p p0 p1]
theorem PK_congr {a : Int} {f g : Int → Int} (ha : PK a f) (h : ∀ p, 0 ≤ p → p < 8 → f p = g p) : PK a g := ⟨ha.1, fun p p0 p1 => by rw [ha.2 p p0 p1, h p p0 p1]⟩
/-- CONTENT of one, of all -/
def ctn (P : Int → Int) (r : Int) (f : Int → Int) : Int := sm (fun p => b2i (decide (P (32 + 8 * r + p) = f p))) (P 0).toNat
def ctA (P : Int → Int) (f : Int → Int) : Int := sm (fun r => ctn P r f) (P 1).toNat
theorem ctn_r {P : Int → Int} (hV : PaperV P) (r : Int) (f : Int → Int) : 0 ≤ ctn P r f ∧ ctn P r f ≤ 8 := by
  have := sm_r (f := fun p => b2i (decide (P (32 + 8 * r + p) = f p))) (a := 0) (b := 1) (n := (P 0).toNat) (fun j _ _ => b2i_b _)
  have h0 := hV.1
  unfold ctn
  omega
theorem ctA_r {P : Int → Int} (hV : PaperV P) (f : Int → Int) : 0 ≤ ctA P f ∧ ctA P f ≤ 48 := by
  have := sm_r (f := fun r => ctn P r f) (a := 0) (b := 8) (n := (P 1).toNat) (fun j _ _ => ctn_r hV j f)
  have h0 := hV.2.1
  unfold ctA
  omega
theorem ctn_congr {P : Int → Int} (hV : PaperV P) {r : Int} {f g : Int → Int} (h : ∀ p, 0 ≤ p → p < 8 → f p = g p) : ctn P r f = ctn P r g := by
  have h0 := hV.1
  exact sm_congr fun p p0 p1 => by rw [h p p0 (by omega)]
theorem ctA_congr {P : Int → Int} (hV : PaperV P) {f g : Int → Int} (h : ∀ p, 0 ≤ p → p < 8 → f p = g p) : ctA P f = ctA P g := sm_congr fun r _ _ => ctn_congr hV h
theorem content_ok {G : Hp} {o r q : Int} {P f : Int → Int} (hV : PaperV P) (hC : PaperC G o P) (r0 : 0 ≤ r) (r1 : r < 6) (hq : PK q f) : cPa_content o r q G = some (ctn P r f) := by
  apply ok_iff
  unfold cPa_content
  have hp0 := hV.1
  have hr : ∀ n : Nat, 0 ≤ sm (fun p => b2i (decide (P (32 + 8 * r + p) = f p))) n ∧ sm (fun p => b2i (decide (P (32 + 8 * r + p) = f p))) n ≤ n := fun n => by
    have := sm_r (f := fun p => b2i (decide (P (32 + 8 * r + p) = f p))) (a := 0) (b := 1) (n := n) (fun j _ _ => b2i_b _)
    omega
  refine lp_up (fun n i (s : Int) => cPa_content_L5 o r q G n s i) (P 0) (fun i s => s = sm (fun p => b2i (decide (P (32 + 8 * r + p) = f p))) i.toNat) ?_ ?_ (by omega) (by omega) (by omega) rfl
  · intro n i s i0 i1 hI ih
    show ok (cPa_content_L5 o r q G (n + 1) s i) _
    have := hr i.toNat
    rw [cPa_content_L5, hC.1.1, if_pos i1, wish_ok hC r0 r1 i0 (by omega), Option.bind_some, hq.2 i i0 (by omega)]
    simp (disch := omega) only [w32_id]
    refine ok_ite (fun h => ih _ ?_) (fun h => ih _ ?_)
    · rw [sm_s _ i0, decide_eq_true h, hI]
      rfl
    · rw [sm_s _ i0, decide_eq_false h, hI]
      rfl
  · intro n s hI
    show ok (cPa_content_L5 o r q G (n + 1) s (P 0)) _
    rw [cPa_content_L5, hC.1.1, if_neg (by omega), hI]
    exact ok_some rfl
theorem contentAll_ok {G : Hp} {o q : Int} {P f : Int → Int} (hV : PaperV P) (hC : PaperC G o P) (hq : PK q f) : cPa_contentOfAll o q G = some (ctA P f) := by
  apply ok_iff
  unfold cPa_contentOfAll
  have hp1 := hV.2.1
  refine lp_up (fun n i (s : Int) => cPa_contentOfAll_L4 o q G n s i) (P 1) (fun i s => s = sm (fun r => ctn P r f) i.toNat) ?_ ?_ (by omega) (by omega) (by omega) rfl
  · intro n i s i0 i1 hI ih
    show ok (cPa_contentOfAll_L4 o q G (n + 1) s i) _
    have h1 := sm_r (f := fun r => ctn P r f) (a := 0) (b := 8) (n := i.toNat) (fun j _ _ => ctn_r hV j f)
    have h2 := ctn_r hV i f
    rw [cPa_contentOfAll_L4, hC.1.2, if_pos i1, content_ok hV hC i0 (by omega) hq, Option.bind_some]
    subst hI
    simp (disch := omega) only [w32_id]
    exact ih _ (sm_s _ i0).symm
  · intro n s hI
    show ok (cPa_contentOfAll_L4 o q G (n + 1) s (P 1)) _
    rw [cPa_contentOfAll_L4, hC.1.2, if_neg (by omega), hI]
    exact ok_some rfl
/-- one reading of one alone, nothing to be left -/
def rb (P : Int → Int) (r : Int) (f : Int → Int) : Int → Int := rdF (sl P 10) (P (20 + 2 * r)) (bt 0) (wnP P r) (P 0) f
theorem readBy_ok {G : Hp} {o r q : Int} {P f : Int → Int} (hV : PaperV P) (hC : PaperC G o P) (r0 : 0 ≤ r) (r1 : r < P 1) (hq : PK q f) (hf : PV f) :
    ok (cPa_readBy o r q G) (fun x => PK x.1 (rb P r f) ∧ CE (o + 1) G x.2) := by
  unfold cPa_readBy
  refine ok_then (readIn_ok (N := sl P 10) hV hC hC.2.2.1 (fun w w0 w1 => ?_) (Or.inl rfl) r0 r1 (Mk.zero 8) hq hf) fun x hx => ok_some hx
  rw [Int.add_assoc]
  exact hC.2.2.2.1 w w0 w1
-- the model: a paper in hand
def MS (P : Int → Int) (b : Int) (G : Hp) : Prop := (G 201 12 = b ∧ G 201 13 = P 0 ∧ G 201 14 = P 1) ∧ (∀ k, 0 ≤ k → k < 80 → G 202 (b + k) = P k) ∧ 610 ≤ b ∧ b ≤ 690
theorem MS.fr {P : Int → Int} {b : Int} {G G' : Hp} (h : MS P b G) (h1 : ∀ j, j = 12 ∨ j = 13 ∨ j = 14 → G' 201 j = G 201 j) (h2 : ∀ j, G' 202 j = G 202 j) : MS P b G' := by
  obtain ⟨⟨a1, a2, a3⟩, a4, a5⟩ := h
  refine ⟨⟨?_, ?_, ?_⟩, fun k k0 k1 => ?_, a5⟩
  · rw [h1 _ (by omega)]; exact a1
  · rw [h1 _ (by omega)]; exact a2
  · rw [h1 _ (by omega)]; exact a3
  · rw [h2]; exact a4 k k0 k1
theorem pat_ok {P : Int → Int} {b r : Int} {G : Hp} (h : MS P b G) (r0 : 0 ≤ r) (r1 : r < 6) : mm_patienceOf r G = some (P (20 + 2 * r)) := by
  obtain ⟨⟨a1, a2, a3⟩, a4, a5, a6⟩ := h
  unfold mm_patienceOf
  rw [a1]
  simp (disch := omega) only [w32_id, gd_ok]
  rw [Int.add_assoc, a4 _ (by omega) (by omega)]
theorem days_ok {P : Int → Int} {b r : Int} {G : Hp} (h : MS P b G) (r0 : 0 ≤ r) (r1 : r < 6) : mm_daysOf r G = some (P (21 + 2 * r)) := by
  obtain ⟨⟨a1, a2, a3⟩, a4, a5, a6⟩ := h
  unfold mm_daysOf
  rw [a1]
  simp (disch := omega) only [w32_id, gd_ok]
  rw [show b + 20 + 1 + 2 * r = b + (21 + 2 * r) by omega, a4 _ (by omega) (by omega)]
theorem want_ok {P : Int → Int} {b r p : Int} {G : Hp} (h : MS P b G) (r0 : 0 ≤ r) (r1 : r < 6) (p0 : 0 ≤ p) (p1 : p < 8) : mm_wantOf r p G = some (P (32 + 8 * r + p)) := by
  obtain ⟨⟨a1, a2, a3⟩, a4, a5, a6⟩ := h
  unfold mm_wantOf
  rw [a1]
  simp (disch := omega) only [w32_id, gd_ok]
  rw [show b + 32 + 8 * r + p = b + (32 + 8 * r + p) by omega, a4 _ (by omega) (by omega)]
theorem told0_ok {P : Int → Int} {b p : Int} {G : Hp} (h : MS P b G) (p0 : 0 ≤ p) (p1 : p < 8) : mm_wordTold0 p G = some (P (2 + p)) := by
  obtain ⟨⟨a1, a2, a3⟩, a4, a5, a6⟩ := h
  unfold mm_wordTold0
  rw [a1]
  simp (disch := omega) only [w32_id, gd_ok]
  rw [Int.add_assoc, a4 _ (by omega) (by omega)]
theorem isIn_eq (v a b : Int) : mm_isIn v a b = decide (a ≤ v ∧ v ≤ b) := by
  unfold mm_isIn
  by_cases h1 : a ≤ v
  · by_cases h2 : v ≤ b
    · simp [h1, h2]
    · simp [h1, h2]
  · simp [h1]
theorem isPlace_ok {P : Int → Int} {b p : Int} {G : Hp} (hV : PaperV P) (h : MS P b G) : mm_isPlace p G = some (decide (0 ≤ p ∧ p < P 0)) := by
  have h0 := hV.1
  unfold mm_isPlace
  rw [h.1.2.1, w32_id (by omega) (by omega), isIn_eq]
  congr 1
  exact decide_eq_decide.mpr (by omega)
theorem isReader_ok {P : Int → Int} {b p : Int} {G : Hp} (hV : PaperV P) (h : MS P b G) : mm_isReader p G = some (decide (0 ≤ p ∧ p < P 1)) := by
  have h0 := hV.2.1
  unfold mm_isReader
  rw [h.1.2.2, w32_id (by omega) (by omega), isIn_eq]
  congr 1
  exact decide_eq_decide.mpr (by omega)
theorem put_ok {P N f : Int → Int} {b r p : Int} {G : Hp} (hV : PaperV P) (h : MS P b G) (hN : MN N G) (hf : PV f) (hG : ∀ p, 0 ≤ p → p < 8 → G 207 p = f p) (r0 : 0 ≤ r) (r1 : r < 6) (p0 : 0 ≤ p) (p1 : p < 8) : mm_putOf r p G = some (tw2 N (f p) (wnP P r p)) := by
  unfold mm_putOf
  have hw := hV.2.2.2.2.2 r p r0 r1 p0 p1
  have hfp := hf p p0 p1
  rw [want_ok h r0 r1 p0 p1, Option.bind_some, Option.bind_some, gd_ok p0 p1, hG p p0 p1]
  unfold wnP
  by_cases e : P (32 + 8 * r + p) = 10
  · rw [if_pos e, e, tw2_10]
  · rw [if_neg e, towards_ok hN hfp.1 hfp.2 hw.1 (by omega), Option.bind_some]
    unfold tw2
    rw [if_pos (by omega)]
