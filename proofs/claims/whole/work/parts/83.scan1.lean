-- texts: rows of like bytes, tokens
def nxF (f : Int → Bool) : Nat → Int → Int
  | 0, p => p
  | m + 1, p => if f p = true then nxF f m (p + 1) else p
def nx (f : Int → Bool) (p : Int) : Int := nxF f 600 p
theorem nxF_r {f : Int → Bool} {N : Int} (hN : f N = false) : ∀ (m : Nat) (p : Int), p ≤ N → N ≤ p + m → p ≤ nxF f m p ∧ nxF f m p ≤ N ∧ f (nxF f m p) = false ∧ ∀ i, p ≤ i → i < nxF f m p → f i = true
  | 0, p, h1, h2 => by
    have e : p = N := by omega
    show p ≤ p ∧ p ≤ N ∧ f p = false ∧ ∀ i, p ≤ i → i < p → f i = true
    exact ⟨by omega, h1, by rw [e]; exact hN, fun i _ _ => by omega⟩
  | m + 1, p, h1, h2 => by
    show p ≤ (if f p = true then nxF f m (p + 1) else p) ∧ (if f p = true then nxF f m (p + 1) else p) ≤ N ∧ f (if f p = true then nxF f m (p + 1) else p) = false ∧ ∀ i, p ≤ i → i < (if f p = true then nxF f m (p + 1) else p) → f i = true
    by_cases h : f p = true
    · have hp : p ≠ N := fun e => by
        rw [e, hN] at h
        cases h
      have ih := nxF_r hN m (p + 1) (by omega) (by omega)
      rw [if_pos h]
      refine ⟨by omega, ih.2.1, ih.2.2.1, fun i i0 i1 => ?_⟩
      by_cases e : i = p
      · rw [e]; exact h
      · exact ih.2.2.2 i (by omega) i1
    · rw [if_neg h]
      exact ⟨by omega, h1, by cases hf : f p with | true => exact absurd hf h | false => rfl, fun i _ _ => by omega⟩
def wsT (n : Int) (T : Int → Int) (i : Int) : Bool := decide (i < n ∧ (T i = 10 ∨ T i = 32))
def ltT (n : Int) (T : Int → Int) (i : Int) : Bool := decide (i < n ∧ 97 ≤ T i ∧ T i ≤ 122)
def dgT (n : Int) (T : Int → Int) (i : Int) : Bool := decide (i < n ∧ 48 ≤ T i ∧ T i ≤ 57)
theorem nx_ws {n p : Int} {T : Int → Int} (h0 : 0 ≤ p) (h1 : p ≤ n) (hn : n ≤ 600) : p ≤ nx (wsT n T) p ∧ nx (wsT n T) p ≤ n ∧ wsT n T (nx (wsT n T) p) = false ∧ ∀ i, p ≤ i → i < nx (wsT n T) p → wsT n T i = true :=
  nxF_r (N := n) (decide_eq_false (by omega)) 600 p h1 (by omega)
theorem nx_lt {n p : Int} {T : Int → Int} (h0 : 0 ≤ p) (h1 : p ≤ n) (hn : n ≤ 600) : p ≤ nx (ltT n T) p ∧ nx (ltT n T) p ≤ n ∧ ltT n T (nx (ltT n T) p) = false ∧ ∀ i, p ≤ i → i < nx (ltT n T) p → ltT n T i = true :=
  nxF_r (N := n) (decide_eq_false (by omega)) 600 p h1 (by omega)
theorem nx_dg {n p : Int} {T : Int → Int} (h0 : 0 ≤ p) (h1 : p ≤ n) (hn : n ≤ 600) : p ≤ nx (dgT n T) p ∧ nx (dgT n T) p ≤ n ∧ dgT n T (nx (dgT n T) p) = false ∧ ∀ i, p ≤ i → i < nx (dgT n T) p → dgT n T i = true :=
  nxF_r (N := n) (decide_eq_false (by omega)) 600 p h1 (by omega)
theorem upd2_id {G : Hp} {o j v : Int} (h : G o j = v) : upd2 G o j v = G := by
  funext a b
  by_cases e : a = o ∧ b = j
  · rw [upd2_e e.1 e.2, e.1, e.2, h]
  · rw [upd2_o e]
def TpC (n : Int) (T : Int → Int) (C : Hp) : Prop := (0 ≤ n ∧ n ≤ 600) ∧ (∀ j, 0 ≤ j → j < n → C 55 j = w8 (T j) ∧ 0 ≤ T j ∧ T j ≤ 255) ∧ C 39 6 = n
def TpM (n : Int) (T : Int → Int) (G : Hp) : Prop := (0 ≤ n ∧ n ≤ 600) ∧ (∀ j, 0 ≤ j → j < n → G 202 (10 + j) = T j ∧ 0 ≤ T j ∧ T j ≤ 255) ∧ G 201 2 = n
theorem TpC.fr {n : Int} {T : Int → Int} {C C' : Hp} (h : TpC n T C) (h1 : ∀ j, C' 55 j = C 55 j) (h2 : C' 39 6 = C 39 6) : TpC n T C' := ⟨h.1, fun j j0 j1 => by rw [h1]; exact h.2.1 j j0 j1, by rw [h2]; exact h.2.2⟩
theorem TpM.fr {n : Int} {T : Int → Int} {G G' : Hp} (h : TpM n T G) (h1 : ∀ j, 10 ≤ j → G' 202 j = G 202 j) (h2 : G' 201 2 = G 201 2) : TpM n T G' := ⟨h.1, fun j j0 j1 => by rw [h1 _ (by omega)]; exact h.2.1 j j0 j1, by rw [h2]; exact h.2.2⟩
theorem w8_c {t c : Int} (h0 : 0 ≤ t) (h1 : t ≤ 255) (c0 : 0 ≤ c) (c1 : c < 128) : (w8 t = c) ↔ t = c := by unfold w8; omega
theorem cbyte_ok {n i : Int} {T : Int → Int} {C : Hp} (h : TpC n T C) (h0 : 0 ≤ i) (h1 : i < n) : cSc_byteAt i C = some (w8 (T i)) := by
  unfold cSc_byteAt
  rw [if_neg (by omega), h.2.2, if_pos h1, gd_ok h0 (by have := h.1.2; omega), (h.2.1 i h0 h1).1]
theorem mbyte_ok {n i : Int} {T : Int → Int} {G : Hp} (h : TpM n T G) (h0 : 0 ≤ i) (h1 : i < n) : mm_byteAt i G = some (T i) := by
  have := h.1.2
  unfold mm_byteAt
  rw [h.2.2, if_pos h1, w32_id (by omega) (by omega), gd_ok (by omega) (by omega), (h.2.1 i h0 h1).1]
theorem mbyte_e {n i : Int} {T : Int → Int} {G : Hp} (h : TpM n T G) (h1 : n ≤ i) : mm_byteAt i G = some (-1) := by
  unfold mm_byteAt
  rw [h.2.2, if_neg (by omega)]
theorem clet_ok {n i : Int} {T : Int → Int} (h0 : 0 ≤ T i) (h1 : T i ≤ 255) (hi : i < n) : cSc_isLetter (w8 (T i)) = ltT n T i := by
  unfold cSc_isLetter ltT w8
  by_cases a : 97 ≤ T i
  · by_cases b : T i ≤ 122
    · rw [if_pos (by omega), if_pos (by omega), decide_eq_true ⟨hi, a, b⟩]
    · rw [decide_eq_false (by omega)]
      by_cases c : 97 ≤ (T i + 128) % 256 - 128
      · rw [if_pos c, if_neg (by omega)]
      · rw [if_neg c]
  · rw [if_neg (by omega), decide_eq_false (by omega)]
theorem cdig_ok {n i : Int} {T : Int → Int} (h0 : 0 ≤ T i) (h1 : T i ≤ 255) (hi : i < n) : cSc_isDigit (w8 (T i)) = dgT n T i := by
  unfold cSc_isDigit dgT w8
  by_cases a : 48 ≤ T i
  · by_cases b : T i ≤ 57
    · rw [if_pos (by omega), if_pos (by omega), decide_eq_true ⟨hi, a, b⟩]
    · rw [decide_eq_false (by omega)]
      by_cases c : 48 ≤ (T i + 128) % 256 - 128
      · rw [if_pos c, if_neg (by omega)]
      · rw [if_neg c]
  · rw [if_neg (by omega), decide_eq_false (by omega)]
theorem mlet_ok {n i : Int} {T : Int → Int} (hi : i < n) : mm_isLetter (T i) = ltT n T i := by
  unfold mm_isLetter ltT
  by_cases a : 97 ≤ T i
  · by_cases b : T i ≤ 122
    · rw [if_pos a, if_pos b, decide_eq_true ⟨hi, a, b⟩]
    · rw [if_pos a, if_neg b, decide_eq_false (by omega)]
  · rw [if_neg a, decide_eq_false (by omega)]
theorem mdig_ok {n i : Int} {T : Int → Int} (hi : i < n) : mm_isDigit (T i) = dgT n T i := by
  unfold mm_isDigit dgT
  by_cases a : 48 ≤ T i
  · by_cases b : T i ≤ 57
    · rw [if_pos a, if_pos b, decide_eq_true ⟨hi, a, b⟩]
    · rw [if_pos a, if_neg b, decide_eq_false (by omega)]
  · rw [if_neg a, decide_eq_false (by omega)]
/-- where a token ends, of which kind it is, a number's value -/
def teT (n : Int) (T : Int → Int) (q : Int) : Int := if n ≤ q then q else if ltT n T q = true then nx (ltT n T) q else if dgT n T q = true then nx (dgT n T) q else q + 1
def tkT (n : Int) (T : Int → Int) (q : Int) : Int := if n ≤ q then 0 else if ltT n T q = true then 1 else if dgT n T q = true then (if teT n T q - q ≤ 2 then 2 else 4) else if T q = 59 then 3 else 4
def vlT (T : Int → Int) (q e : Int) : Int := if e - q ≤ 0 then 0 else if e - q = 1 then T q - 48 else 10 * (T q - 48) + (T (q + 1) - 48)
def MvC (n : Int) (T : Int → Int) (p : Int) (C C' : Hp) : Prop := C' 39 9 = nx (wsT n T) p ∧ C' 39 7 = teT n T (nx (wsT n T) p) ∧ C' 39 8 = tkT n T (nx (wsT n T) p) ∧ (tkT n T (nx (wsT n T) p) = 2 → C' 39 10 = vlT T (nx (wsT n T) p) (teT n T (nx (wsT n T) p))) ∧ ∀ a j, ¬ (a = 39 ∧ 7 ≤ j ∧ j ≤ 10) → C' a j = C a j
section CMOVE
variable {n p : Int} {T : Int → Int} {C : Hp} {Q : Hp → Prop}
theorem cblank {k : Hp → Option Hp} (h : TpC n T C) (p0 : 0 ≤ p) (p1 : p ≤ n) (hk : ok (k (upd2 C 39 7 (nx (wsT n T) p))) Q) : ok (cSc_move_L0 k FU (upd2 C 39 7 p)) Q := by
  have hn := h.1.2
  have hw := nx_ws (T := T) p0 p1 hn
  refine lp_up (fun m (_ : Int) (s : Hp) => cSc_move_L0 k m s) (nx (wsT n T) p) (fun i s => p ≤ i ∧ s = upd2 C 39 7 i) ?_ ?_ (by omega) p0 hw.1 ⟨by omega, rfl⟩
  · intro m i s i0 i1 hs ih
    obtain ⟨hp, rfl⟩ := hs
    have hT : TpC n T (upd2 C 39 7 i) := h.fr (fun j => upd2_o (by omega)) (upd2_o (by omega))
    have hb := h.2.1 i (by omega) (by omega)
    have hi := of_decide_eq_true (hw.2.2.2 i hp i1)
    have e7 : upd2 C 39 7 i 39 7 = i := upd2_s
    have e6 : upd2 C 39 7 i 39 6 = n := hT.2.2
    show ok (cSc_move_L0 k (m + 1) (upd2 C 39 7 i)) Q
    rw [cSc_move_L0, e7, e6, if_pos hi.1, cbyte_ok hT (by omega) hi.1, Option.bind_some, w32_id (z := i + 1) (by omega) (by omega), upd2_t]
    have ih' := ih (upd2 C 39 7 (i + 1)) ⟨by omega, rfl⟩
    refine ok_ite (fun _ => ih') (fun e => ?_)
    rw [Option.bind_some, if_pos]
    · exact ih'
    · rw [w8_c hb.2.1 hb.2.2 (by omega) (by omega)] at e ⊢
      omega
  · intro m s hs
    obtain ⟨hp, rfl⟩ := hs
    have hT : TpC n T (upd2 C 39 7 (nx (wsT n T) p)) := h.fr (fun j => upd2_o (by omega)) (upd2_o (by omega))
    have e7 : upd2 C 39 7 (nx (wsT n T) p) 39 7 = nx (wsT n T) p := upd2_s
    have e6 : upd2 C 39 7 (nx (wsT n T) p) 39 6 = n := hT.2.2
    show ok (cSc_move_L0 k (m + 1) (upd2 C 39 7 (nx (wsT n T) p))) Q
    rw [cSc_move_L0, e7, e6]
    refine ok_ite (fun e => ?_) (fun e => hk)
    have hi := of_decide_eq_false hw.2.2.1
    have hb := h.2.1 (nx (wsT n T) p) (by omega) e
    rw [cbyte_ok hT (by omega) e, Option.bind_some, if_neg, Option.bind_some, if_neg]
    · exact hk
    · rw [w8_c hb.2.1 hb.2.2 (by omega) (by omega)]
      omega
    · rw [w8_c hb.2.1 hb.2.2 (by omega) (by omega)]
      omega
theorem cletters (h : TpC n T C) (p0 : 0 ≤ p) (p1 : p ≤ n) (hk : Q (upd2 C 39 7 (nx (ltT n T) p))) : ok (cSc_move_L96 FU (upd2 C 39 7 p)) Q := by
  have hn := h.1.2
  have hw := nx_lt (T := T) p0 p1 hn
  refine lp_up (fun m (_ : Int) (s : Hp) => cSc_move_L96 m s) (nx (ltT n T) p) (fun i s => p ≤ i ∧ s = upd2 C 39 7 i) ?_ ?_ (by omega) p0 hw.1 ⟨by omega, rfl⟩
  · intro m i s i0 i1 hs ih
    obtain ⟨hp, rfl⟩ := hs
    have hT : TpC n T (upd2 C 39 7 i) := h.fr (fun j => upd2_o (by omega)) (upd2_o (by omega))
    have hl := hw.2.2.2 i hp i1
    have hi := of_decide_eq_true hl
    have hb := h.2.1 i (by omega) hi.1
    have e7 : upd2 C 39 7 i 39 7 = i := upd2_s
    have e6 : upd2 C 39 7 i 39 6 = n := hT.2.2
    show ok (cSc_move_L96 (m + 1) (upd2 C 39 7 i)) Q
    rw [cSc_move_L96, e7, e6, if_pos hi.1, cbyte_ok hT (by omega) hi.1, Option.bind_some, clet_ok hb.2.1 hb.2.2 hi.1, if_pos hl, w32_id (z := i + 1) (by omega) (by omega), upd2_t]
    exact ih (upd2 C 39 7 (i + 1)) ⟨by omega, rfl⟩
  · intro m s hs
    obtain ⟨hp, rfl⟩ := hs
    have hT : TpC n T (upd2 C 39 7 (nx (ltT n T) p)) := h.fr (fun j => upd2_o (by omega)) (upd2_o (by omega))
    have e7 : upd2 C 39 7 (nx (ltT n T) p) 39 7 = nx (ltT n T) p := upd2_s
    have e6 : upd2 C 39 7 (nx (ltT n T) p) 39 6 = n := hT.2.2
    show ok (cSc_move_L96 (m + 1) (upd2 C 39 7 (nx (ltT n T) p))) Q
    rw [cSc_move_L96, e7, e6]
    refine ok_ite (fun e => ?_) (fun e => ok_some hk)
    have hb := h.2.1 (nx (ltT n T) p) (by omega) e
    rw [cbyte_ok hT (by omega) e, Option.bind_some, clet_ok hb.2.1 hb.2.2 e, hw.2.2.1, if_neg (by decide)]
    exact ok_some hk
theorem cdigits (h : TpC n T C) (p0 : 0 ≤ p) (p1 : p ≤ n) (h9 : C 39 9 = p) (hk : ∀ v, v = vlT T p (nx (dgT n T) p) → Q (upd2 (upd2 (upd2 C 39 10 v) 39 7 (nx (dgT n T) p)) 39 8 (if nx (dgT n T) p - p ≤ 2 then 2 else 4))) : ok (cSc_moveOverDigits (upd2 C 39 7 p)) Q := by
  have hn := h.1.2
  have hw := nx_dg (T := T) p0 p1 hn
  unfold cSc_moveOverDigits
  have e0 : upd2 (upd2 C 39 7 p) 39 10 0 = upd2 (upd2 C 39 10 0) 39 7 p := by
    funext a b
    unfold upd2
    by_cases x : a = 39 ∧ b = 10
    · rw [if_pos x, if_neg (by omega), if_pos x]
    · rw [if_neg x]
      by_cases y : a = 39 ∧ b = 7
      · rw [if_pos y, if_pos y]
      · rw [if_neg y, if_neg y, if_neg x]
  rw [e0]
  refine lp_up (fun m (_ : Int) (s : Hp) => cSc_moveOverDigits_L5 (fun G_86 => if w32 ((G_86 39 7) - (G_86 39 9)) ≤ 2 then some (upd2 G_86 39 8 2) else some (upd2 G_86 39 8 4)) m s) (nx (dgT n T) p) (fun i s => p ≤ i ∧ s = upd2 (upd2 C 39 10 (vlT T p i)) 39 7 i) ?_ ?_ (by omega) p0 hw.1 ⟨by omega, by unfold vlT; rw [if_pos (by omega)]⟩
  · intro m i s i0 i1 hs ih
    obtain ⟨hp, rfl⟩ := hs
    have hT : TpC n T (upd2 (upd2 C 39 10 (vlT T p i)) 39 7 i) := h.fr (fun j => by rw [upd2_o (by omega), upd2_o (by omega)]) (by rw [upd2_o (by omega), upd2_o (by omega)])
    have hl := hw.2.2.2 i hp i1
    have hi := of_decide_eq_true hl
    have hb := h.2.1 i (by omega) hi.1
    have e7 : upd2 (upd2 C 39 10 (vlT T p i)) 39 7 i 39 7 = i := upd2_s
    have e6 : upd2 (upd2 C 39 10 (vlT T p i)) 39 7 i 39 6 = n := hT.2.2
    have e9 : upd2 (upd2 C 39 10 (vlT T p i)) 39 7 i 39 9 = p := by rw [upd2_o (by omega), upd2_o (by omega)]; exact h9
    have e10 : upd2 (upd2 C 39 10 (vlT T p i)) 39 7 i 39 10 = vlT T p i := by rw [upd2_o (by omega), upd2_s]
    have step : ∀ v, upd2 (upd2 (upd2 (upd2 C 39 10 (vlT T p i)) 39 7 i) 39 10 v) 39 7 (i + 1) = upd2 (upd2 C 39 10 v) 39 7 (i + 1) := fun v => by
      funext a b
      unfold upd2
      by_cases y : a = 39 ∧ b = 7
      · rw [if_pos y, if_pos y]
      · by_cases x : a = 39 ∧ b = 10
        · simp only [if_neg y, if_pos x]
        · simp only [if_neg y, if_neg x]
    have w8e : w8 (T i) = T i := by unfold w8; omega
    show ok (cSc_moveOverDigits_L5 _ (m + 1) (upd2 (upd2 C 39 10 (vlT T p i)) 39 7 i)) Q
    rw [cSc_moveOverDigits_L5, e7, e6, e9, e10, if_pos hi.1, cbyte_ok hT (by omega) hi.1, Option.bind_some, cdig_ok hb.2.1 hb.2.2 hi.1, if_pos hl, w32_id (z := i - p) (by omega) (by omega)]
    have e8 : ∀ v, upd2 (upd2 (upd2 C 39 10 (vlT T p i)) 39 7 i) 39 10 v 39 7 = i := fun v => by rw [upd2_o (by omega)]; exact e7
    refine ok_ite (fun e => ?_) (fun e => ?_)
    · rw [Option.bind_some, w8e]
      have hv : 0 ≤ vlT T p i ∧ vlT T p i ≤ 9 ∧ 10 * vlT T p i + T i - 48 = vlT T p (i + 1) := by
        unfold vlT
        by_cases z : i = p
        · subst z
          rw [if_pos (by omega), if_neg (by omega), if_pos (by omega)]
          omega
        · have z2 : i = p + 1 := by omega
          have hp9 := of_decide_eq_true (hw.2.2.2 p (by omega) (by omega))
          subst z2
          rw [if_neg (by omega), if_pos (by omega), if_neg (by omega), if_neg (by omega)]
          omega
      unfold cSc_moveOverDigits_j70
      rw [e8, w32_id (z := 10 * vlT T p i) (by omega) (by omega), w32_id (z := 10 * vlT T p i + T i) (by omega) (by omega), w32_id (z := 10 * vlT T p i + T i - 48) (by omega) (by omega), hv.2.2, w32_id (z := i + 1) (by omega) (by omega), step]
      exact ih _ ⟨by omega, rfl⟩
    · have hv : vlT T p i = vlT T p (i + 1) := by
        unfold vlT
        rw [if_neg (by omega), if_neg (by omega), if_neg (by omega), if_neg (by omega)]
      unfold cSc_moveOverDigits_j70
      rw [e8, w32_id (z := i + 1) (by omega) (by omega), step]
      exact ih _ ⟨by omega, by rw [← hv]⟩
  · intro m s hs
    obtain ⟨hp, rfl⟩ := hs
    generalize hq : nx (dgT n T) p = q at *
    have hT : TpC n T (upd2 (upd2 C 39 10 (vlT T p q)) 39 7 q) := h.fr (fun j => by rw [upd2_o (by omega), upd2_o (by omega)]) (by rw [upd2_o (by omega), upd2_o (by omega)])
    have e7 : upd2 (upd2 C 39 10 (vlT T p q)) 39 7 q 39 7 = q := upd2_s
    have e6 : upd2 (upd2 C 39 10 (vlT T p q)) 39 7 q 39 6 = n := hT.2.2
    have e9 : upd2 (upd2 C 39 10 (vlT T p q)) 39 7 q 39 9 = p := by rw [upd2_o (by omega), upd2_o (by omega)]; exact h9
    have hk' := hk _ rfl
    have fin : ok (if w32 ((upd2 (upd2 C 39 10 (vlT T p q)) 39 7 q 39 7) - (upd2 (upd2 C 39 10 (vlT T p q)) 39 7 q 39 9)) ≤ 2 then some (upd2 (upd2 (upd2 C 39 10 (vlT T p q)) 39 7 q) 39 8 2) else some (upd2 (upd2 (upd2 C 39 10 (vlT T p q)) 39 7 q) 39 8 4)) Q := by
      rw [e7, e9, w32_id (z := q - p) (by omega) (by omega)]
      refine ok_ite (fun e => ok_some ?_) (fun e => ok_some ?_)
      · rw [if_pos e] at hk'; exact hk'
      · rw [if_neg e] at hk'; exact hk'
    show ok (cSc_moveOverDigits_L5 _ (m + 1) (upd2 (upd2 C 39 10 (vlT T p q)) 39 7 q)) Q
    rw [cSc_moveOverDigits_L5, e7, e6]
    refine ok_ite (fun e => ?_) (fun e => fin)
    have hb := h.2.1 q (by omega) e
    rw [cbyte_ok hT (by omega) e, Option.bind_some, cdig_ok hb.2.1 hb.2.2 e, hw.2.2.1, if_neg (by decide)]
    exact fin
theorem cmove_ok (h : TpC n T C) (h7 : C 39 7 = p) (p0 : 0 ≤ p) (p1 : p ≤ n) : ok (cSc_move C) (fun C' => MvC n T p C C') := by
  have hn := h.1.2
  have hw := nx_ws (T := T) p0 p1 hn
  unfold MvC
  generalize hq : nx (wsT n T) p = q at *
  have e0 : C = upd2 C 39 7 p := (upd2_id h7).symm
  unfold cSc_move
  have key : ok ((fun G_50 : Hp => if (upd2 G_50 39 9 (G_50 39 7)) 39 6 ≤ (upd2 G_50 39 9 (G_50 39 7)) 39 7 then some (upd2 (upd2 G_50 39 9 (G_50 39 7)) 39 8 0) else ((cSc_byteAt ((upd2 G_50 39 9 (G_50 39 7)) 39 7) (upd2 G_50 39 9 (G_50 39 7))).bind fun v82 => if (cSc_isLetter v82) = true then cSc_move_L96 FU (upd2 (upd2 G_50 39 9 (G_50 39 7)) 39 8 1) else ((cSc_byteAt ((upd2 G_50 39 9 (G_50 39 7)) 39 7) (upd2 G_50 39 9 (G_50 39 7))).bind fun v139 => if (cSc_isDigit v139) = true then ((cSc_moveOverDigits (upd2 G_50 39 9 (G_50 39 7))).bind fun G149 => some G149) else ((cSc_byteAt ((upd2 G_50 39 9 (G_50 39 7)) 39 7) (upd2 G_50 39 9 (G_50 39 7))).bind fun v161 => if v161 = 59 then some (upd2 (upd2 (upd2 G_50 39 9 (G_50 39 7)) 39 8 3) 39 7 (w32 (((upd2 (upd2 G_50 39 9 (G_50 39 7)) 39 8 3) 39 7) + 1))) else some (upd2 (upd2 (upd2 G_50 39 9 (G_50 39 7)) 39 8 4) 39 7 (w32 (((upd2 (upd2 G_50 39 9 (G_50 39 7)) 39 8 4) 39 7) + 1))))))) (upd2 C 39 7 q)) (fun C' => C' 39 9 = q ∧ C' 39 7 = teT n T q ∧ C' 39 8 = tkT n T q ∧ (tkT n T q = 2 → C' 39 10 = vlT T q (teT n T q)) ∧ ∀ a j, ¬ (a = 39 ∧ 7 ≤ j ∧ j ≤ 10) → C' a j = C a j) := by
    have e7 : upd2 C 39 7 q 39 7 = q := upd2_s
    show ok (if (upd2 (upd2 C 39 7 q) 39 9 (upd2 C 39 7 q 39 7)) 39 6 ≤ (upd2 (upd2 C 39 7 q) 39 9 (upd2 C 39 7 q 39 7)) 39 7 then some (upd2 (upd2 (upd2 C 39 7 q) 39 9 (upd2 C 39 7 q 39 7)) 39 8 0) else _) _
    rw [e7]
    generalize hC1 : upd2 (upd2 C 39 7 q) 39 9 q = C1
    have z : ∀ a j, ¬ (a = 39 ∧ 7 ≤ j ∧ j ≤ 10) → C1 a j = C a j := fun a j u => by rw [← hC1, upd2_o (by omega), upd2_o (by omega)]
    have hT : TpC n T C1 := h.fr (fun j => z _ _ (by omega)) (z _ _ (by omega))
    have d7 : C1 39 7 = q := by rw [← hC1, upd2_o (by omega), upd2_s]
    have d9 : C1 39 9 = q := by rw [← hC1, upd2_s]
    rw [d7, hT.2.2]
    unfold tkT teT
    refine ok_ite (fun e => ok_some ?_) (fun e => ?_)
    · rw [if_pos e, if_pos e]
      exact ⟨by rw [upd2_o (by omega)]; exact d9, by rw [upd2_o (by omega)]; exact d7, upd2_s, fun x => by omega, fun a j u => by rw [upd2_o (by omega)]; exact z _ _ u⟩
    · have hb := h.2.1 q (by omega) (by omega)
      rw [if_neg e, if_neg e, cbyte_ok hT (by omega) (by omega), Option.bind_some, Option.bind_some, Option.bind_some, clet_ok (n := n) hb.2.1 hb.2.2 (by omega), cdig_ok (n := n) hb.2.1 hb.2.2 (by omega)]
      refine ok_ite (fun el => ?_) (fun el => ?_)
      · rw [if_pos el, if_pos el]
        have ee : upd2 C1 39 8 1 = upd2 (upd2 C1 39 8 1) 39 7 q := (upd2_id ((upd2_o (by omega)).trans d7)).symm
        rw [ee]
        refine cletters (hT.fr (fun j => upd2_o (by omega)) (upd2_o (by omega))) (by omega) (by omega) ?_
        exact ⟨by rw [upd2_o (by omega), upd2_o (by omega)]; exact d9, upd2_s, by rw [upd2_o (by omega), upd2_s], fun x => by omega, fun a j u => by rw [upd2_o (by omega), upd2_o (by omega)]; exact z _ _ u⟩
      · rw [if_neg el, if_neg el]
        refine ok_ite (fun ed => ?_) (fun ed => ?_)
        · rw [if_pos ed, if_pos ed]
          have ee : C1 = upd2 C1 39 7 q := (upd2_id d7).symm
          rw [ee]
          refine ok_then (cdigits hT (by omega) (by omega) d9 (Q := fun C' => C' 39 9 = q ∧ C' 39 7 = nx (dgT n T) q ∧ C' 39 8 = (if nx (dgT n T) q - q ≤ 2 then 2 else 4) ∧ ((if nx (dgT n T) q - q ≤ 2 then 2 else 4) = (2 : Int) → C' 39 10 = vlT T q (nx (dgT n T) q)) ∧ ∀ a j, ¬ (a = 39 ∧ 7 ≤ j ∧ j ≤ 10) → C' a j = C a j) fun v hv => ?_) fun C' hC' => ok_some hC'
          exact ⟨by rw [upd2_o (by omega), upd2_o (by omega), upd2_o (by omega)]; exact d9, by rw [upd2_o (by omega), upd2_s], upd2_s, fun x => by rw [upd2_o (by omega), upd2_o (by omega), upd2_s]; exact hv, fun a j u => by rw [upd2_o (by omega), upd2_o (by omega), upd2_o (by omega)]; exact z _ _ u⟩
        · rw [if_neg ed, if_neg ed]
          have i1 : w32 (q + 1) = q + 1 := w32_id (by omega) (by omega)
          have d7' : ∀ v, upd2 C1 39 8 v 39 7 = q := fun v => (upd2_o (by omega)).trans d7
          rw [d7', d7', i1]
          refine ok_ite (fun e5 => ok_some ?_) (fun e5 => ok_some ?_)
          · rw [w8_c hb.2.1 hb.2.2 (by omega) (by omega)] at e5
            rw [if_pos e5]
            exact ⟨by rw [upd2_o (by omega), upd2_o (by omega)]; exact d9, upd2_s, by rw [upd2_o (by omega), upd2_s], fun x => by omega, fun a j u => by rw [upd2_o (by omega), upd2_o (by omega)]; exact z _ _ u⟩
          · rw [w8_c hb.2.1 hb.2.2 (by omega) (by omega)] at e5
            rw [if_neg e5]
            exact ⟨by rw [upd2_o (by omega), upd2_o (by omega)]; exact d9, upd2_s, by rw [upd2_o (by omega), upd2_s], fun x => by omega, fun a j u => by rw [upd2_o (by omega), upd2_o (by omega)]; exact z _ _ u⟩
  rw [e0]
  refine ok_mono (cblank (p := p) h p0 p1 (by rw [hq]; exact key)) fun C' hC' => ?_
  rw [← e0]
  exact hC'
end CMOVE
