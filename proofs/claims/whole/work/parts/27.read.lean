-- one reading
def cR (c : Int → Bool) (pat : Int) : Nat → Int
  | 0 => 0
  | k + 1 => if c (k : Int) = true ∧ cR c pat k < pat then cR c pat k + 1 else cR c pat k
def chd (c : Int → Bool) (pat p : Int) : Bool := c p && decide (cR c pat p.toNat < pat)
theorem cR_r (c : Int → Bool) (pat : Int) : ∀ k : Nat, 0 ≤ cR c pat k ∧ cR c pat k ≤ k
  | 0 => ⟨Int.le_refl 0, Int.le_refl 0⟩
  | k + 1 => by
    have ih := cR_r c pat k
    unfold cR
    split <;> omega
theorem cR_pat (c : Int → Bool) {pat : Int} (h : 0 ≤ pat) : ∀ k : Nat, cR c pat k ≤ pat
  | 0 => h
  | k + 1 => by
    have ih := cR_pat c h k
    unfold cR
    split <;> omega
theorem cR_stop {c : Int → Bool} {pat : Int} {k : Nat} (h : pat ≤ cR c pat k) : ∀ j : Nat, cR c pat (k + j) = cR c pat k
  | 0 => rfl
  | j + 1 => by
    have ih := cR_stop h j
    show (if c ((k + j : Nat) : Int) = true ∧ cR c pat (k + j) < pat then cR c pat (k + j) + 1 else cR c pat (k + j)) = _
    rw [if_neg (by omega), ih]
theorem chd_stop {c : Int → Bool} {pat : Int} {k : Nat} (h : pat ≤ cR c pat k) {p : Int} (hp : (k : Int) ≤ p) : chd c pat p = false := by
  unfold chd
  have e : p.toNat = k + (p.toNat - k) := by omega
  rw [e, cR_stop h, decide_eq_false (by omega), Bool.and_false]
theorem cR_s (c : Int → Bool) (pat : Int) {i : Int} (h : 0 ≤ i) : cR c pat (i + 1).toNat = cR c pat i.toNat + b2i (chd c pat i) := by
  have e : (i + 1).toNat = i.toNat + 1 := by omega
  have e2 : ((i.toNat : Nat) : Int) = i := by omega
  rw [e]
  show (if c ((i.toNat : Nat) : Int) = true ∧ cR c pat i.toNat < pat then cR c pat i.toNat + 1 else cR c pat i.toNat) = _
  rw [e2]
  unfold chd b2i
  by_cases h1 : c i = true <;> by_cases h2 : cR c pat i.toNat < pat <;> simp [h1, h2]
theorem cR_sm (c : Int → Bool) (pat : Int) : ∀ k : Nat, cR c pat k = sm (fun p => b2i (chd c pat p)) k
  | 0 => rfl
  | k + 1 => by
    have h := cR_s c pat (i := (k : Int)) (by omega)
    have e : ((k : Int) + 1).toNat = k + 1 := by omega
    rw [e, Int.toNat_natCast] at h
    rw [h, cR_sm c pat k]
    rfl
theorem sm_tail {f : Int → Int} {n : Nat} : ∀ m : Nat, (∀ j : Int, (n : Int) ≤ j → j < ((n + m : Nat) : Int) → f j = 0) → sm f (n + m) = sm f n
  | 0, _ => rfl
  | m + 1, h => by
    show sm f (n + m) + f ((n + m : Nat) : Int) = _
    rw [sm_tail m (fun j j0 j1 => h j j0 (by omega)), h _ (by omega) (by omega), Int.add_zero]
theorem sm_cut {f : Int → Int} {n m : Nat} (hm : n ≤ m) (h : ∀ j : Int, (n : Int) ≤ j → j < (m : Int) → f j = 0) : sm f m = sm f n := by
  obtain ⟨k, rfl⟩ : ∃ k, m = n + k := ⟨m - n, by omega⟩
  exact sm_tail k h
theorem sm_s (f : Int → Int) {i : Int} (h : 0 ≤ i) : sm f (i + 1).toNat = sm f i.toNat + f i := by
  have e : (i + 1).toNat = i.toNat + 1 := by omega
  have e2 : ((i.toNat : Nat) : Int) = i := by omega
  rw [e]
  show sm f i.toNat + f ((i.toNat : Nat) : Int) = _
  rw [e2]
theorem bm_s (f : Int → Bool) {i : Int} (h : 0 ≤ i) : bm f (i + 1).toNat = if f i = true then ior (bm f i.toNat) (ishl 1 i) else bm f i.toNat := by
  have e : (i + 1).toNat = i.toNat + 1 := by omega
  have e2 : ((i.toNat : Nat) : Int) = i := by omega
  rw [e]
  show (if f ((i.toNat : Nat) : Int) = true then ior (bm f i.toNat) (ishl 1 ((i.toNat : Nat) : Int)) else bm f i.toNat) = _
  rw [e2]
theorem anyB_s (f : Int → Bool) {i : Int} (h : 0 ≤ i) : anyB f (i + 1).toNat = (anyB f i.toNat || f i) := by
  have e : (i + 1).toNat = i.toNat + 1 := by omega
  have e2 : ((i.toNat : Nat) : Int) = i := by omega
  rw [e]
  show (anyB f i.toNat || f ((i.toNat : Nat) : Int)) = _
  rw [e2]
theorem allB_s (f : Int → Bool) {i : Int} (h : 0 ≤ i) : allB f (i + 1).toNat = (allB f i.toNat && f i) := by
  have e : (i + 1).toNat = i.toNat + 1 := by omega
  have e2 : ((i.toNat : Nat) : Int) = i := by omega
  rw [e]
  show (allB f i.toNat && f ((i.toNat : Nat) : Int)) = _
  rw [e2]
theorem b2i_b (b : Bool) : 0 ≤ b2i b ∧ b2i b ≤ 1 := by cases b <;> simp [b2i]
theorem ior_0 {n : Nat} {x : Int} (h : Mk n x) (hn : n ≤ 31) : ior x 0 = x := by
  have hx := h.1
  rw [ior_nn h.1 (h.lt hn) (by omega) (by omega)]
  have : (0 : Int).toNat = 0 := rfl
  rw [this, Nat.or_zero]
  omega
/-- whether he would change, not left, PATIENCE aside -/
def wl (N : Int → Int) (lv : Int → Bool) (wn f : Int → Int) : Int → Bool := fun p => !lv p && decide (tw2 N (f p) (wn p) ≠ -1)
/-- the words behind one reading -/
def rdF (N : Int → Int) (pat : Int) (lv : Int → Bool) (wn : Int → Int) (pl : Int) (f : Int → Int) : Int → Int := fun p => if 0 ≤ p ∧ p < pl ∧ chd (wl N lv wn f) pat p = true then tw2 N (f p) (wn p) else f p
def df (g f : Int → Int) : Int → Bool := fun p => decide (g p ≠ f p)
theorem rdF_df (N : Int → Int) (pat : Int) (lv : Int → Bool) (wn : Int → Int) {pl : Int} (f : Int → Int) {p : Int} (h0 : 0 ≤ p) (h1 : p < pl) : df (rdF N pat lv wn pl f) f p = chd (wl N lv wn f) pat p := by
  unfold df rdF
  cases h : chd (wl N lv wn f) pat p with
  | false => simp
  | true =>
    rw [if_pos ⟨h0, h1, rfl⟩]
    have hw : wl N lv wn f p = true := by
      unfold chd at h
      rw [Bool.and_eq_true] at h
      exact h.1
    unfold wl at hw
    rw [Bool.and_eq_true, decide_eq_true_eq] at hw
    exact decide_eq_true (tw2_step hw.2).2.2.1
theorem rdF_out {N : Int → Int} {pat : Int} {lv : Int → Bool} {wn : Int → Int} {pl : Int} {f : Int → Int} {p : Int} (h : ¬ (0 ≤ p ∧ p < pl)) : rdF N pat lv wn pl f p = f p := by
  unfold rdF
  rw [if_neg (fun z => h ⟨z.1, z.2.1⟩)]
theorem rdF_V {N : Int → Int} {pat : Int} {lv : Int → Bool} {wn : Int → Int} {pl : Int} {f : Int → Int} (hf : PV f) : PV (rdF N pat lv wn pl f) := by
  intro p p0 p1
  unfold rdF
  split
  · next h =>
    have hw : wl N lv wn f p = true := by
      have := h.2.2
      unfold chd at this
      rw [Bool.and_eq_true] at this
      exact this.1
    unfold wl at hw
    rw [Bool.and_eq_true, decide_eq_true_eq] at hw
    have := tw2_step hw.2
    exact ⟨this.1, this.2.1⟩
  · exact hf p p0 p1
theorem rdF_n {N : Int → Int} {pat : Int} {lv : Int → Bool} {wn : Int → Int} {pl : Int} {f : Int → Int} (h0 : 0 ≤ pl) (h1 : pl ≤ 8) : cR (wl N lv wn f) pat pl.toNat = sm (fun p => b2i (df (rdF N pat lv wn pl f) f p)) 8 := by
  rw [cR_sm, sm_cut (n := pl.toNat) (m := 8) (by omega)]
  · exact sm_congr fun p p0 p1 => by rw [rdF_df N pat lv wn f p0 (by omega)]
  · intro j j0 j1
    unfold df
    rw [rdF_out (by omega)]
    simp [b2i]
theorem rdF_congr {N N' : Int → Int} {pat : Int} {lv : Int → Bool} {wn : Int → Int} {pl : Int} {f : Int → Int} (h : ∀ w, 0 ≤ w → w < 10 → N w = N' w) : rdF N pat lv wn pl f = rdF N' pat lv wn pl f := by
  have e : wl N lv wn f = wl N' lv wn f := by
    funext p
    unfold wl
    rw [tw2_congr h]
  funext p
  unfold rdF
  rw [e, tw2_congr h]
-- the class
theorem PaperC.net {G G' : Hp} {o nt : Int} {P : Int → Int} (h : PaperC G o P) (hne : nt = o + 1 ∨ nt + 3 < o ∨ o + 7 < nt) (hc : CE nt G G') : PaperC G' o P := by
  rcases hne with rfl | hne
  · exact h.ce hc
  · exact h.fr fun a j x y => hc.1 a j (by omega) (by omega) (by omega)
theorem wish_ok {G : Hp} {o r p : Int} {P : Int → Int} (hC : PaperC G o P) (r0 : 0 ≤ r) (r1 : r < 6) (p0 : 0 ≤ p) (p1 : p < 8) : cPa_wish o r p G = some (P (32 + 8 * r + p)) := by
  unfold cPa_wish
  rw [if_neg (by omega), if_pos r1, if_neg (by omega), if_neg (by omega)]
  simp (disch := omega) only [w32_id]
  rw [gd_ok (by omega) (by omega), hC.2.2.2.2.2 r p r0 r1 p0 p1]
theorem next_N {G : Hp} {nt f t : Int} {N : Int → Int} (hn : NetOK G nt) (hN : ∀ w, 0 ≤ w → w < 10 → G (nt + 1) w = N w) : ok (cNe_next nt f t G) (fun r => r.1 = tw2 N f t ∧ CE nt G r.2) :=
  ok_mono (next_ok hn) fun r h => ⟨by rw [h.1]; exact tw2_congr hN f t, h.2⟩
theorem between_N {G : Hp} {nt f t : Int} {N : Int → Int} (hn : NetOK G nt) (hN : ∀ w, 0 ≤ w → w < 10 → G (nt + 1) w = N w) : ok (cNe_between nt f t G) (fun r => r.1 = dst2 N f t ∧ CE nt G r.2) :=
  ok_mono (between_ok hn) fun r h => ⟨by rw [h.1]; exact dst2_congr hN f t, h.2⟩
/-- what he wants, by places -/
def wnP (P : Int → Int) (r : Int) : Int → Int := fun p => P (32 + 8 * r + p)
theorem readIn_ok {G : Hp} {o nt r q lv : Int} {P N f : Int → Int} (hV : PaperV P) (hC : PaperC G o P) (hn : NetOK G nt) (hN : ∀ w, 0 ≤ w → w < 10 → G (nt + 1) w = N w) (hne : nt = o + 1 ∨ nt + 3 < o ∨ o + 7 < nt) (r0 : 0 ≤ r) (r1 : r < P 1) (hl : Mk 8 lv) (hq : PK q f) (hf : PV f) :
    ok (cPa_readIn o nt r q lv G) (fun x => PK x.1 (rdF N (P (20 + 2 * r)) (bt lv) (wnP P r) (P 0) f) ∧ CE nt G x.2) := by
  have hp0 := hV.1
  have hp1 := hV.2.1
  have hpat := hV.2.2.2.2.1 r r0 (by omega)
  unfold cPa_readIn
  rw [if_neg (by omega), hC.1.2, if_neg (by omega), gd_ok r0 (by omega), (hC.2.2.2.2.1 r r0 r1).1]
  have c9 : ∀ k : Nat, 0 ≤ cR (wl N (bt lv) (wnP P r) f) (P (20 + 2 * r)) k ∧ cR (wl N (bt lv) (wnP P r) f) (P (20 + 2 * r)) k ≤ P (20 + 2 * r) := fun k => ⟨(cR_r _ _ k).1, cR_pat _ hpat.1 k⟩
  refine lp_up (fun n i (s : Int × Int × Hp) => cPa_readIn_L28 o nt r q lv n s.1 s.2.1 i s.2.2) (P 0)
    (fun i s => (r32 s.1 ∧ ∀ p, 0 ≤ p → p < 8 → cX_wordAt s.1 p = if p < i then rdF N (P (20 + 2 * r)) (bt lv) (wnP P r) (P 0) f p else f p) ∧ s.2.1 = P (20 + 2 * r) - cR (wl N (bt lv) (wnP P r) f) (P (20 + 2 * r)) i.toNat ∧ CE nt G s.2.2) ?_ ?_ (by omega) (by omega) (by omega) (s := (q, P (20 + 2 * r), G)) ⟨⟨hq.1, fun p p0 p1 => by rw [if_neg (by omega)]; exact hq.2 p p0 p1⟩, ?_, CE.refl hn⟩
  · intro n i s i0 i1 hI ih
    obtain ⟨now, left, G1⟩ := s
    obtain ⟨h1, h2, h3⟩ := hI
    simp only at h1 h2 h3
    have hC1 := hC.net hne h3
    have hN1 : ∀ w, 0 ≤ w → w < 10 → G1 (nt + 1) w = N w := fun w w0 w1 => by rw [h3.net]; exact hN w w0 w1
    show ok (cPa_readIn_L28 o nt r q lv (n + 1) now left i G1) _
    rw [cPa_readIn_L28, hC1.1.1, if_pos i1]
    have hck := c9 i.toNat
    by_cases hle : 0 < left
    · rw [if_pos hle]
      have hcs := cR_s (wl N (bt lv) (wnP P r) f) (P (20 + 2 * r)) i0
      have hlt : cR (wl N (bt lv) (wnP P r) f) (P (20 + 2 * r)) i.toNat < P (20 + 2 * r) := by omega
      have hch : chd (wl N (bt lv) (wnP P r) f) (P (20 + 2 * r)) i = wl N (bt lv) (wnP P r) f i := by
        unfold chd
        rw [decide_eq_true hlt, Bool.and_true]
      have hnow : cX_wordAt now i = f i := by rw [h1.2 i i0 (by omega), if_neg (by omega)]
      -- behind one place
      have fin : ∀ (G2 : Hp) (w : Int), CE nt G G2 → w = (if bt lv i = true then -1 else tw2 N (f i) (wnP P r i)) → ok (cPa_readIn_j90 o nt r q lv (cPa_readIn_L28 o nt r q lv n) now left i w G2) (fun x => PK x.1 (rdF N (P (20 + 2 * r)) (bt lv) (wnP P r) (P 0) f) ∧ CE nt G x.2) := by
        intro G2 w hG2 hw
        unfold cPa_readIn_j90
        simp (disch := omega) only [w32_id]
        have hwl : wl N (bt lv) (wnP P r) f i = decide (w ≠ -1) := by
          unfold wl
          rw [hw]
          cases bt lv i <;> simp
        refine ok_ite (fun e => ih (now, left, G2) ⟨⟨h1.1, fun p p0 p1 => ?_⟩, ?_, hG2⟩) (fun e => ih (_, _, G2) ⟨⟨put_r _ _ _, fun p p0 p1 => ?_⟩, ?_, hG2⟩)
        · show cX_wordAt now p = _
          rw [h1.2 p p0 p1]
          by_cases hp : p = i
          · subst hp
            rw [if_neg (by omega), if_pos (by omega)]
            unfold rdF
            rw [hch, hwl]
            simp [e]
          · by_cases hp2 : p < i
            · rw [if_pos hp2, if_pos (by omega)]
            · rw [if_neg hp2, if_neg (by omega)]
        · show left = _
          rw [hcs, hch, hwl]
          simp [e, b2i]
          omega
        · show cX_wordAt (cX_put now i w) p = _
          have hb : bt lv i = false := by
            cases hb : bt lv i with
            | false => rfl
            | true =>
              rw [hb, if_pos rfl] at hw
              exact absurd hw e
          have hw2 : w = tw2 N (f i) (wnP P r i) := by rw [hw, hb, if_neg (by decide)]
          have hs := tw2_step (N := N) (f := f i) (t := wnP P r i) (by rw [← hw2]; exact e)
          rw [wordAt_put i0 (by omega) (by omega) (by omega) p0 p1, h1.2 p p0 p1]
          by_cases hp : p = i
          · subst hp
            rw [if_pos rfl, if_pos (by omega)]
            unfold rdF
            rw [hch, hwl, if_pos ⟨p0, i1, decide_eq_true e⟩, hw2]
          · rw [if_neg hp]
            by_cases hp2 : p < i
            · rw [if_pos hp2, if_pos (by omega)]
            · rw [if_neg hp2, if_neg (by omega)]
        · show left + -1 = _
          rw [hcs, hch, hwl]
          simp [e, b2i]
          omega
      have tail : ∀ wv : Int, (bt lv i = true ∧ wv = 10 ∨ bt lv i = false ∧ wv = wnP P r i) → ok (cPa_readIn_j64 o nt r q lv (cPa_readIn_L28 o nt r q lv n) now left i wv G1) (fun x => PK x.1 (rdF N (P (20 + 2 * r)) (bt lv) (wnP P r) (P 0) f) ∧ CE nt G x.2) := by
        intro wv hwv
        unfold cPa_readIn_j64
        rw [hnow]
        refine ok_ite (fun e => fin G1 (-1) h3 ?_) (fun e => ok_then (next_N (N := N) h3.2 hN1) fun x hx => fin x.2 x.1 (h3.trans hx.2) ?_)
        · rcases hwv with ⟨a, b⟩ | ⟨a, b⟩
          · rw [a, if_pos rfl]
          · rw [a, if_neg (by decide), ← b, e, tw2_10]
        · rcases hwv with ⟨a, b⟩ | ⟨a, b⟩
          · exact absurd b e
          · rw [a, if_neg (by decide), ← b, hx.1]
      by_cases hb : iand (ishr lv i) 1 = 0
      · rw [if_pos hb]
        have := (tst0 hl (by omega) i0 (by omega)).mp hb
        rw [wish_ok hC1 r0 (by omega) i0 (by omega), Option.bind_some]
        exact tail _ (Or.inr ⟨this, rfl⟩)
      · rw [if_neg hb]
        have : bt lv i = true := by
          cases hq : bt lv i with
          | true => rfl
          | false => exact absurd ((tst0 hl (by omega) i0 (by omega)).mpr hq) hb
        exact tail _ (Or.inl ⟨this, rfl⟩)
    · rw [if_neg hle]
      refine ok_some ⟨⟨h1.1, fun p p0 p1 => ?_⟩, h3⟩
      rw [h1.2 p p0 p1]
      by_cases hp : p < i
      · rw [if_pos hp]
      · rw [if_neg hp]
        unfold rdF
        rw [chd_stop (k := i.toNat) (by omega) (by omega)]
        simp
  · intro n s hI
    obtain ⟨now, left, G1⟩ := s
    obtain ⟨h1, h2, h3⟩ := hI
    simp only at h1 h2 h3
    have hC1 := hC.net hne h3
    show ok (cPa_readIn_L28 o nt r q lv (n + 1) now left (P 0) G1) _
    rw [cPa_readIn_L28, hC1.1.1, if_neg (by omega)]
    refine ok_some ⟨⟨h1.1, fun p p0 p1 => ?_⟩, h3⟩
    rw [h1.2 p p0 p1]
    by_cases hp : p < P 0
    · rw [if_pos hp]
    · rw [if_neg hp, rdF_out (by omega)]
  · show P (20 + 2 * r) = P (20 + 2 * r) - 0
    omega
