-- all rows made
def keepB (a j : Int) : Prop := (a < 57 ∨ 93 ≤ a) ∧ a ≠ 10 ∧ a ≠ 11 ∧ a ≠ 25 ∧ a ≠ 26 ∧ ¬ (a = 8 ∧ j = 3) ∧ ¬ (a = 23 ∧ j = 3)
def Sr (G G' : Hp) : Prop := (∀ a j, keepB a j → G' a j = G a j) ∧ (NetOK G 8 → NetOK G' 8) ∧ (NetOK G 23 → NetOK G' 23)
theorem Sr.refl (G : Hp) : Sr G G := ⟨fun _ _ _ => rfl, id, id⟩
theorem Sr.trans {G G' G'' : Hp} (h1 : Sr G G') (h2 : Sr G' G'') : Sr G G'' := ⟨fun a j h => (h2.1 a j h).trans (h1.1 a j h), fun h => h2.2.1 (h1.2.1 h), fun h => h2.2.2 (h1.2.2 h)⟩
theorem Sr.fr {G G' : Hp} (hf : ∀ a j, (a < 57 ∨ 93 ≤ a) → G' a j = G a j) : Sr G G' := ⟨fun a j h => hf a j h.1, fun h => h.fr fun a j x y => hf a j (by omega), fun h => h.fr fun a j x y => hf a j (by omega)⟩
theorem Sq.sr {G G' : Hp} (h : Sq G G') : Sr G G' := ⟨fun a j k => h.1 a j (by obtain ⟨k1, k2, k3, k4, k5, k6, k7⟩ := k; exact ⟨by omega, k2, k3, k4, k5, k6, k7⟩), h.2⟩
theorem Sr.upd {G : Hp} {o j v : Int} (h : 57 ≤ o ∧ o ≤ 92) : Sr G (upd2 G o j v) := Sr.fr fun a k x => upd2_o (by omega)
theorem PaperC.sr {G G' : Hp} {o : Int} {P : Int → Int} (ho : o = 7 ∨ o = 22) (h : PaperC G o P) (hs : Sr G G') : PaperC G' o P := by
  obtain ⟨⟨h1, h2⟩, h3, h4, h5, h6, h7⟩ := h
  have hf : ∀ a j, keepB a j → G' a j = G a j := hs.1
  have k : ∀ c j, (c = 0 ∨ c = 2 ∨ c = 5 ∨ c = 6 ∨ c = 7) → G' (o + c) j = G (o + c) j := fun c j hc => hf _ _ (by unfold keepB; omega)
  have k0 : ∀ j, G' o j = G o j := fun j => by have := k 0 j (Or.inl rfl); rwa [Int.add_zero] at this
  refine ⟨⟨?_, ?_⟩, ?_, ?_, ?_, ?_, ?_⟩
  · rw [k0]; exact h1
  · rw [k0]; exact h2
  · rw [k0]; exact h3
  · rcases ho with rfl | rfl
    · exact hs.2.1 h4
    · exact hs.2.2 h4
  · intro w w0 w1
    rw [k 2 _ (by omega)]; exact h5 w w0 w1
  · intro r r0 r1
    rw [k 5 _ (by omega), k 6 _ (by omega)]; exact h6 r r0 r1
  · intro r p r0 r1 p0 p1
    rw [k 7 _ (by omega)]; exact h7 r p r0 r1 p0 p1
theorem CInv.sr {G G' : Hp} {A H : Int → Int} (h : CInv G A H) (hs : Sr G G') (hr : RowsC G' A) : CInv G' A H := by
  obtain ⟨⟨h1, h2, h3, h4⟩, h5, h6⟩ := h
  have hf : ∀ a j, keepB a j → G' a j = G a j := hs.1
  have g1 : ToldC G' 1 A 0 := by
    obtain ⟨k0, ⟨v1, k1⟩, ⟨v2, k2⟩, ⟨v3, k3⟩, ⟨v4, k4⟩, ⟨v5, k5⟩, ⟨v6, k6⟩⟩ := h1
    exact ⟨k0.fr fun a j x y => hf a j (by unfold keepB; omega), ⟨v1, PaperC.sr (by omega) k1 hs⟩, ⟨v2, PaperC.sr (by omega) k2 hs⟩, ⟨v3, k3.fr fun a j x y => hf a j (by unfold keepB; omega)⟩, ⟨v4, k4.fr fun a j x y => hf a j (by unfold keepB; omega)⟩, ⟨v5, k5.fr fun a j x y => hf a j (by unfold keepB; omega)⟩, ⟨v6, k6.fr fun a j x y => hf a j (by unfold keepB; omega)⟩⟩
  refine ⟨⟨g1, fun z => (h2 z).fr fun a j x y => hf a j (by unfold keepB; omega), fun z => (h3 z).fr fun a j x y => hf a j (by unfold keepB; omega), fun z => (h4 z).fr fun a j x y => hf a j (by unfold keepB; omega)⟩, fun k k0 k1 => ?_, hr⟩
  rw [hf _ _ (by unfold keepB; omega)]
  exact h5 k k0 k1
theorem prR_congr {P row row' f : Int → Int} : ∀ m : Nat, (∀ k : Int, 0 ≤ k → k < m → row k = row' k) → prR P row f m = prR P row' f m
  | 0, _ => rfl
  | m + 1, h => by
    show rb P (row (m : Int)) (prR P row f m) = rb P (row' (m : Int)) (prR P row' f m)
    rw [prR_congr m (fun k k0 k1 => h k k0 (by omega)), h (m : Int) (by omega) (by omega)]
theorem prR_V {P row f : Int → Int} (hf : PV f) : ∀ m : Nat, PV (prR P row f m)
  | 0 => hf
  | m + 1 => rdF_V (prR_V hf m)
theorem prR_s (P row f : Int → Int) {i : Int} (h : 0 ≤ i) : prR P row f (i + 1).toNat = rb P (row i) (prR P row f i.toNat) := by
  have e : (i + 1).toNat = i.toNat + 1 := by omega
  have e2 : ((i.toNat : Nat) : Int) = i := by omega
  rw [e]
  show rb P (row ((i.toNat : Nat) : Int)) (prR P row f i.toNat) = _
  rw [e2]
theorem rwN_prR (P row f : Int → Int) : ∀ m : Nat, rwN P (sl P 10) row f m = prR P row f m
  | 0 => rfl
  | m + 1 => by
    show rbN P (sl P 10) (row (m : Int)) (rwN P (sl P 10) row f m) = rb P (row (m : Int)) (prR P row f m)
    rw [rwN_prR P row f m]
    rfl
theorem dgF_s (row : Int → Int) {i : Int} (h : 0 ≤ i) : dgF row (i + 1).toNat = 10 * dgF row i.toNat + row i := by
  have e : (i + 1).toNat = i.toNat + 1 := by omega
  have e2 : ((i.toNat : Nat) : Int) = i := by omega
  rw [e]
  show 10 * dgF row i.toNat + row ((i.toNat : Nat) : Int) = _
  rw [e2]
theorem dgF_r {row : Int → Int} : ∀ m : Nat, (∀ k : Int, 0 ≤ k → k < m → 0 ≤ row k ∧ row k ≤ 9) → 1 ≤ dgF row m ∧ dgF row m < 2 * pwD 10 m
  | 0, _ => ⟨Int.le_refl 1, by show (1 : Int) < 2 * 1; omega⟩
  | m + 1, h => by
    have ih := dgF_r m (fun k k0 k1 => h k k0 (by omega))
    have hm := h (m : Int) (by omega) (by omega)
    show 1 ≤ 10 * dgF row m + row (m : Int) ∧ 10 * dgF row m + row (m : Int) < 2 * (pwD 10 m * 10)
    omega
theorem pw6_t : ∀ m : Fin 7, pwD 10 m.val ≤ 1000000 := by decide +kernel
/-- the row as it stands -/
def RwC (G : Hp) (P : Int → Int) (k : Int) : Prop := ∀ i : Int, 0 ≤ i → i < (P 1).toNat → G 81 i = rk (P 1).toNat k i
theorem keepL4 {G : Hp} {o c : Int} {row : Int → Int} {k : Int → Option Hp} {Q : Hp → Prop} (c0 : 0 ≤ c) (c1 : c ≤ 6) (hn : G 80 2 = c) (hr : ∀ i : Int, 0 ≤ i → i < c → G 81 i = row i ∧ 0 ≤ row i ∧ row i ≤ 9) (h : ok (k (dgF row c.toNat)) Q) : ok (cRw_keep_L4 o G k FU 1 0) Q := by
  refine lp_up (fun n i (s : Int) => cRw_keep_L4 o G k n s i) c (fun i s => s = dgF row i.toNat) ?_ ?_ (by omega) (by omega) (by omega) rfl
  · intro n i s i0 i1 hs ih
    have hb := dgF_r (row := row) i.toNat (fun j j0 j1 => (hr j j0 (by omega)).2)
    have hb2 : pwD 10 i.toNat ≤ 1000000 := pw6_t ⟨i.toNat, by omega⟩
    have hri := hr i i0 i1
    show ok (cRw_keep_L4 o G k (n + 1) s i) _
    rw [cRw_keep_L4, hn, if_pos i1, hri.1, w32_id (z := i + 1) (by omega) (by omega), hs, w32_id (z := 10 * dgF row i.toNat) (by omega) (by omega), w32_id (by omega) (by omega)]
    refine ok_gd i0 (by omega) (ih _ ?_)
    rw [dgF_s _ i0]
  · intro n s hs
    show ok (cRw_keep_L4 o G k (n + 1) s c) _
    rw [cRw_keep_L4, hn, if_neg (by omega), hs]
    exact h
theorem ckeep_ok {G : Hp} {o k : Int} {P : Int → Int} (hV : PaperV P) (ho : o = 7 ∨ o = 22) (hC : PaperC G o P) (k0 : 0 ≤ k) (k1 : k < PRm (P 1).toNat) (hk : G 80 1 = k) (hn : G 80 2 = P 1) (hr : RwC G P k) (hp : PK (G 82 (P 1)) (prf P k)) :
    ok (cRw_keep o G) (fun G' => (G' 83 k = dgF (rk (P 1).toNat k) (P 1).toNat ∧ PK (G' 84 k) (prf P k) ∧ G' 85 k = ctA P (prf P k)) ∧ G' 80 1 = k + 1 ∧ (∀ j, j ≠ k → G' 83 j = G 83 j ∧ G' 84 j = G 84 j ∧ G' 85 j = G 85 j) ∧ ∀ a j, a ≠ 83 → a ≠ 84 → a ≠ 85 → ¬ (a = 80 ∧ j = 1) → G' a j = G a j) := by
  have h1 := hV.2.1
  have hN : (P 1).toNat ≤ 6 := by omega
  have hM := PRm_r hN
  unfold cRw_keep
  refine keepL4 (row := rk (P 1).toNat k) h1.1 h1.2 hn (fun i i0 i1 => ?_) ?_
  · have := (rk_all hN k0 k1 i0 (show i < ((P 1).toNat : Int) by omega)).1
    exact ⟨hr i i0 (by omega), by omega, by omega⟩
  · generalize hs : dgF (rk (P 1).toNat k) (P 1).toNat = s
    rw [hk]
    have e1 : (upd2 G 83 k s) 80 2 = P 1 := by rw [upd2_o (by omega), hn]
    have e2 : (upd2 G 83 k s) 80 1 = k := by rw [upd2_o (by omega), hk]
    simp only [e1, e2]
    have e3 : (upd2 G 83 k s) 82 (P 1) = G 82 (P 1) := upd2_o (by omega)
    rw [e3]
    have e4 : (upd2 (upd2 G 83 k s) 84 k (G 82 (P 1))) 80 2 = P 1 := by rw [upd2_o (by omega), e1]
    have e5 : (upd2 (upd2 G 83 k s) 84 k (G 82 (P 1))) 80 1 = k := by rw [upd2_o (by omega), e2]
    simp only [e4, e5]
    have e6 : (upd2 (upd2 G 83 k s) 84 k (G 82 (P 1))) 82 (P 1) = G 82 (P 1) := by rw [upd2_o (by omega), e3]
    rw [e6]
    have hC2 : PaperC (upd2 (upd2 G 83 k s) 84 k (G 82 (P 1))) o P := hC.sr ho ((Sr.upd (by omega)).trans (Sr.upd (by omega)))
    rw [contentAll_ok hV hC2 hp, Option.bind_some]
    have e7 : (upd2 (upd2 (upd2 G 83 k s) 84 k (G 82 (P 1))) 85 k (ctA P (prf P k))) 80 1 = k := by rw [upd2_o (by omega), e5]
    simp only [e7]
    rw [w32_id (by omega) (by omega)]
    refine ok_gd k0 (by omega) (ok_gd (by omega) (by omega) (ok_gd k0 (by omega) (ok_gd (by omega) (by omega) (ok_gd k0 (by omega) (ok_some ⟨⟨?_, ?_, ?_⟩, ?_, fun j hj => ⟨?_, ?_, ?_⟩, fun a j q1 q2 q3 q4 => ?_⟩)))))
    · rw [upd2_o (by omega), upd2_o (by omega), upd2_o (by omega), upd2_s]
    · rw [upd2_o (by omega), upd2_o (by omega), upd2_s]
      exact hp
    · rw [upd2_o (by omega), upd2_s]
    · rw [upd2_s]
    · rw [upd2_o (by omega), upd2_o (by omega), upd2_o (by omega), upd2_o (by omega)]
    · rw [upd2_o (by omega), upd2_o (by omega), upd2_o (by omega), upd2_o (by omega)]
    · rw [upd2_o (by omega), upd2_o (by omega), upd2_o (by omega), upd2_o (by omega)]
    · rw [upd2_o q4, upd2_o (by omega), upd2_o (by omega), upd2_o (by omega)]
/-- while they are made: k rows are kept, the next one is in hand -/
def MkI (G0 G : Hp) (P : Int → Int) (o num k : Int) : Prop := Sr G0 G ∧ PaperC G o P ∧ (G 80 0 = num ∧ G 80 1 = k ∧ G 80 2 = P 1 ∧ G 80 3 = P 0) ∧ ∀ j, 0 ≤ j → j < k → G 83 j = dgF (rk (P 1).toNat j) (P 1).toNat ∧ PK (G 84 j) (prf P j) ∧ G 85 j = ctA P (prf P j)
theorem MkI.fr {G0 G G' : Hp} {P : Int → Int} {o num k : Int} (ho : o = 7 ∨ o = 22) (h : MkI G0 G P o num k) (hs : Sr G G') (hf : ∀ a j, (a = 80 ∧ 0 ≤ j ∧ j ≤ 3) ∨ a = 83 ∨ a = 84 ∨ a = 85 → G' a j = G a j) : MkI G0 G' P o num k := by
  obtain ⟨h1, h2, ⟨h3, h4, h5, h6⟩, h7⟩ := h
  refine ⟨h1.trans hs, h2.sr ho hs, ⟨?_, ?_, ?_, ?_⟩, fun j j0 j1 => ?_⟩
  · rw [hf _ _ (by omega)]; exact h3
  · rw [hf _ _ (by omega)]; exact h4
  · rw [hf _ _ (by omega)]; exact h5
  · rw [hf _ _ (by omega)]; exact h6
  · rw [hf _ _ (by omega), hf _ _ (by omega), hf _ _ (by omega)]; exact h7 j j0 j1
theorem make_new {G : Hp} {o num : Int} {P : Int → Int} (hV : PaperV P) (ho : o = 7 ∨ o = 22) (hC : PaperC G o P) (hnum : G 80 0 ≠ num) : ok (cRw_make num o G) (fun G' => MkI G G' P o num (PRm (P 1).toNat)) := by
  have h0 := hV.1
  have h1 := hV.2.1
  have hN : (P 1).toNat ≤ 6 := by omega
  have hM := PRm_r hN
  unfold cRw_make
  rw [if_neg hnum]
  have e1 : (upd2 (upd2 G 80 0 num) 80 1 0) o 2 = P 1 := by rw [upd2_o (by omega), upd2_o (by omega)]; exact hC.1.2
  rw [e1, show min (P 1) 6 = P 1 by omega]
  have e2 : (upd2 (upd2 (upd2 G 80 0 num) 80 1 0) 80 2 (P 1)) o 1 = P 0 := by rw [upd2_o (by omega), upd2_o (by omega), upd2_o (by omega)]; exact hC.1.1
  rw [e2]
  generalize hS : upd2 (upd2 (upd2 (upd2 G 80 0 num) 80 1 0) 80 2 (P 1)) 80 3 (P 0) = S
  have hS0 : MkI G S P o num 0 := by
    have hsr : Sr G S := by
      rw [← hS]
      exact (((Sr.upd (by omega)).trans (Sr.upd (by omega))).trans (Sr.upd (by omega))).trans (Sr.upd (by omega))
    refine ⟨hsr, hC.sr ho hsr, ⟨?_, ?_, ?_, ?_⟩, fun j j0 j1 => by omega⟩
    · rw [← hS, upd2_o (by omega), upd2_o (by omega), upd2_o (by omega), upd2_s]
    · rw [← hS, upd2_o (by omega), upd2_o (by omega), upd2_s]
    · rw [← hS, upd2_o (by omega), upd2_s]
    · rw [← hS, upd2_s]
  clear hS e1 e2
  refine lp_up (fun n i (s : Hp) => cRw_make_L42 num o (fun G_63 => cRw_make_L78 num o FU 0 0 (upd2 G_63 82 0 (G_63 o 0))) n i s) (P 1) (fun i s => MkI G s P o num 0 ∧ ∀ j : Int, 0 ≤ j → j < i → s 81 j = j) ?_ ?_ (by omega) (by omega) (by omega) ⟨hS0, fun j j0 j1 => by omega⟩
  · intro n i s i0 i1 hI ih
    show ok (cRw_make_L42 num o _ (n + 1) i s) _
    rw [cRw_make_L42, hI.1.2.2.1.2.2.1, if_pos i1, w32_id (by omega) (by omega)]
    refine ok_gd i0 (by omega) (ih _ ⟨hI.1.fr ho (Sr.upd (by omega)) fun a j q => upd2_o (by omega), fun j j0 j1 => ?_⟩)
    by_cases hj : j = i
    · rw [upd2_e rfl hj, hj]
    · rw [upd2_o (by omega)]
      exact hI.2 j j0 (by omega)
  · intro n s hI
    show ok (cRw_make_L42 num o _ (n + 1) (P 1) s) _
    rw [cRw_make_L42, hI.1.2.2.1.2.2.1, if_neg (by omega)]
    refine lp_up (fun n k (s : Int × Hp) => cRw_make_L78 num o n s.1 k s.2) (PRm (P 1).toNat) (fun k s => MkI G s.2 P o num k ∧ (k < PRm (P 1).toNat → RwC s.2 P k ∧ (0 ≤ s.1 ∧ s.1 ≤ P 1) ∧ ∀ j : Int, 0 ≤ j → j ≤ s.1 → PK (s.2 82 j) (prR P (rk (P 1).toNat k) (sl P 2) j.toNat)) ∧ (k = PRm (P 1).toNat → s.1 = -1)) ?_ ?_ (by omega) (by omega) (by omega) (s := (0, upd2 s 82 0 (s o 0))) ⟨hI.1.fr ho (Sr.upd (by omega)) fun a j q => upd2_o (by omega), fun _ => ⟨fun i i0 i1 => ?_, ⟨Int.le_refl 0, h1.1⟩, fun j j0 j1 => ?_⟩, fun q => by omega⟩
    · intro n k s k0 k1 hI2 ih
      obtain ⟨from', G1⟩ := s
      obtain ⟨m1, m2, m3⟩ := hI2
      obtain ⟨r1, r2, r3⟩ := m2 k1
      simp only at m1 r1 r2 r3
      show ok (cRw_make_L78 num o (n + 1) from' k G1) _
      rw [cRw_make_L78, if_pos (by omega), if_neg (by omega), w32_id (z := k + 1) (by omega) (by omega)]
      refine lp_up (fun n2 i (s : Hp) => cRw_make_L94 num o k (fun G_136 => (cRw_keep o G_136).bind fun G138 => (cRw_turn G138).bind fun r142 => cRw_make_L78 num o n r142.1 (k + 1) r142.2) n2 i s) (P 1) (fun i s => from' ≤ i ∧ MkI G s P o num k ∧ RwC s P k ∧ ∀ j : Int, 0 ≤ j → j ≤ i → PK (s 82 j) (prR P (rk (P 1).toNat k) (sl P 2) j.toNat)) ?_ ?_ (by omega) r2.1 r2.2 ⟨by omega, m1, r1, r3⟩
      · intro n2 i s i0 i1 hI3 ih2
        obtain ⟨q0, q1, q2, q3⟩ := hI3
        have hri := (rk_all hN k0 k1 i0 (show i < ((P 1).toNat : Int) by omega)).1
        show ok (cRw_make_L94 num o k _ (n2 + 1) i s) _
        rw [cRw_make_L94, q1.2.2.1.2.2.1, if_pos i1, q2 i i0 (by omega), w32_id (z := i + 1) (by omega) (by omega)]
        refine ok_gd i0 (by omega) (ok_gd i0 (by omega) (ok_then (readBy_ok hV q1.2.1 hri.1 (by omega) (q3 i i0 (Int.le_refl i)) (prR_V hV.pv _)) fun y hy => ok_gd (by omega) (by omega) ?_))
        have hfr : ∀ a j, 57 ≤ a → a ≤ 92 → y.2 a j = s a j := fun a j z1 z2 => hy.2.1 a j (by omega) (by omega) (by omega)
        have m4 : MkI G y.2 P o num k := q1.fr ho (Sq.ce ho hy.2).sr fun a j q => hfr a j (by omega) (by omega)
        refine ih2 _ ⟨by omega, m4.fr ho (Sr.upd (by omega)) fun a j q => upd2_o (by omega), fun j j0 j1 => ?_, fun j j0 j1 => ?_⟩
        · rw [upd2_o (by omega), hfr _ _ (by omega) (by omega)]
          exact q2 j j0 j1
        · by_cases hj : j = i + 1
          · rw [upd2_e rfl hj, hj, prR_s P _ _ i0]
            exact hy.1
          · rw [upd2_o (by omega), hfr _ _ (by omega) (by omega)]
            exact q3 j j0 (by omega)
      · intro n2 s hI3
        obtain ⟨q0, q1, q2, q3⟩ := hI3
        show ok (cRw_make_L94 num o k _ (n2 + 1) (P 1) s) _
        rw [cRw_make_L94, q1.2.2.1.2.2.1, if_neg (by omega)]
        refine ok_then (ckeep_ok hV ho q1.2.1 k0 k1 q1.2.2.1.2.1 q1.2.2.1.2.2.1 q2 (q3 (P 1) h1.1 (Int.le_refl _))) fun G2 hG2 => ?_
        obtain ⟨w1, w2, w3, w4⟩ := hG2
        have hsr2 : Sr s G2 := Sr.fr fun a j z => w4 a j (by omega) (by omega) (by omega) (by omega)
        have m5 : MkI G G2 P o num (k + 1) := by
          obtain ⟨c1, c2, ⟨c3, c4, c5, c6⟩, c7⟩ := q1
          refine ⟨c1.trans hsr2, c2.sr ho hsr2, ⟨?_, w2, ?_, ?_⟩, fun j j0 j1 => ?_⟩
          · rw [w4 _ _ (by omega) (by omega) (by omega) (by omega)]; exact c3
          · rw [w4 _ _ (by omega) (by omega) (by omega) (by omega)]; exact c5
          · rw [w4 _ _ (by omega) (by omega) (by omega) (by omega)]; exact c6
          · by_cases hj : j = k
            · rw [hj]; exact w1
            · obtain ⟨x1, x2, x3⟩ := w3 j hj
              rw [x1, x2, x3]
              exact c7 j j0 (by omega)
        have row2 : ∀ j : Int, 0 ≤ j → j < P 1 → G2 81 j = rk (P 1).toNat k j := fun j j0 j1 => by
          rw [w4 _ _ (by omega) (by omega) (by omega) (by omega)]
          exact q2 j j0 (by omega)
        have prf2 : ∀ j : Int, 0 ≤ j → j ≤ P 1 → PK (G2 82 j) (prR P (rk (P 1).toNat k) (sl P 2) j.toNat) := fun j j0 j1 => by
          rw [w4 _ _ (by omega) (by omega) (by omega) (by omega)]
          exact q3 j j0 j1
        refine ok_then (turn_ok (row := fun i => G2 81 i) h1.1 h1.2 m5.2.2.1.2.2.1 (fun _ _ _ => rfl)) fun z hz => ?_
        have hA : nxA (P 1) (fun i => G2 81 i) = nxA (P 1) (rk (P 1).toNat k) := nxA_congr row2
        have en : (((P 1).toNat : Nat) : Int) = P 1 := by omega
        by_cases hlast : k + 1 = PRm (P 1).toNat
        · have hl := rk_last hN hlast
          rw [en] at hl
          have hz1 := hz.1 (by rw [hA]; exact hl)
          rw [hz1]
          refine ih (-1, G2) ⟨m5, fun q => by omega, fun _ => rfl⟩
        · have hst := rk_step hN k0 (show k + 1 < PRm (P 1).toNat by omega)
          rw [en] at hst
          have hz2 := hz.2 (by rw [hA]; exact hst.1)
          have hAr := nxA_r h1.1 (rk (P 1).toNat k)
          have hfr : ∀ a j, a ≠ 81 → z.2 a j = G2 a j := hz2.2.2
          refine ih (z.1, z.2) ⟨m5.fr ho (Sr.fr fun a j q => hfr a j (by omega)) fun a j q => hfr a j (by omega), fun q => ⟨fun j j0 j1 => ?_, ⟨?_, ?_⟩, fun j j0 j1 => ?_⟩, fun q => absurd q hlast⟩
          · show z.2 81 j = _
            rw [hz2.2.1 j j0 (by omega), nxR_congr (n := P 1) row2 (by rw [hA]; exact hst.1) j j0 (by omega)]
            exact (hst.2 j j0 (by omega)).1
          · show 0 ≤ z.1
            rw [hz2.1, hA]
            exact hst.1
          · show z.1 ≤ P 1
            rw [hz2.1, hA]
            omega
          · show PK (z.2 82 j) _
            have hj1 : j ≤ nxA (P 1) (rk (P 1).toNat k) := by
              have j1' : j ≤ z.1 := j1
              rw [hz2.1, hA] at j1'
              exact j1'
            rw [hfr _ _ (by omega)]
            have e9 : prR P (rk (P 1).toNat (k + 1)) (sl P 2) j.toNat = prR P (rk (P 1).toNat k) (sl P 2) j.toNat := prR_congr _ fun i i0 i1 => (hst.2 i i0 (by omega)).2 (by omega)
            rw [e9]
            exact prf2 j j0 (by omega)
    · intro n s hI2
      obtain ⟨from', G1⟩ := s
      obtain ⟨m1, m2, m3⟩ := hI2
      have m4 : from' = -1 := m3 rfl
      show ok (cRw_make_L78 num o (n + 1) from' (PRm (P 1).toNat) G1) _
      rw [cRw_make_L78]
      exact ok_ite (fun _ => ok_ite (fun _ => ok_some m1) (fun q => absurd m4 q)) (fun _ => ok_some m1)
    · show upd2 s 82 0 (s o 0) 81 i = _
      rw [upd2_o (by omega), hI.2 i i0 (by omega), rk_0 hN i0 i1]
    · have : j = 0 := by
        have j1' : j ≤ 0 := j1
        omega
      show PK (upd2 s 82 0 (s o 0) 82 j) _
      rw [this, upd2_s]
      exact hI.1.2.1.2.1
theorem make_ok {G : Hp} {A H : Int → Int} {k : Int} (hI : CInv G A H) (hk : k = 0 ∨ k = 1) : ok (cRw_make k (7 + 15 * k) G) (fun G' => CInv G' A H ∧ PaperC G' (7 + 15 * k) (ct 80 A (pb k)) ∧ G' 80 0 = k ∧ RowsOf G' (ct 80 A (pb k))) := by
  obtain ⟨hV, hP⟩ := hI.paper hk
  by_cases h : G 80 0 = k
  · unfold cRw_make
    rw [if_pos h]
    refine ok_some ⟨hI, hP, h, ?_⟩
    rcases hI.2.2 with q | ⟨j, j1, j2, j3⟩
    · omega
    · have : j = k := by omega
      rw [this] at j3
      exact j3
  · refine ok_mono (make_new hV (o_or hk) hP h) fun G' hG' => ?_
    obtain ⟨h1, h2, ⟨h3, h4, h5, h6⟩, h7⟩ := hG'
    have hR : RowsOf G' (ct 80 A (pb k)) := ⟨h4, h5, h6, h7⟩
    exact ⟨hI.sr h1 (Or.inr ⟨k, hk, h3, hR⟩), h2, h3, hR⟩
theorem stg2_t : ∀ m : Fin 7, stg 2 (m.val : Int) = 10 ^ m.val ∧ 0 < (10 : Int) ^ m.val := by decide +kernel
theorem readerAt_ok {G : Hp} {P : Int → Int} (hV : PaperV P) (hR : RowsOf G P) {k i : Int} (k0 : 0 ≤ k) (k1 : k < PRm (P 1).toNat) : cRw_readerAt k i G = some (if 0 ≤ i ∧ i < P 1 then rk (P 1).toNat k i else -1) := by
  have h1 := hV.2.1
  have hN : (P 1).toNat ≤ 6 := by omega
  have hM := PRm_r hN
  obtain ⟨r1, r2, r3, r4⟩ := hR
  unfold cRw_readerAt
  rw [if_neg (by omega), r1, if_pos k1, r2]
  by_cases g0 : i < 0
  · rw [if_pos g0, if_neg (by omega)]
  rw [if_neg g0]
  by_cases g1 : P 1 ≤ i
  · rw [if_pos g1, if_neg (by omega)]
  rw [if_neg g1, if_pos (by omega), w32_id (z := P 1 - 1) (by omega) (by omega), w32_id (z := P 1 - 1 - i) (by omega) (by omega), gd_ok k0 (by omega), gd_ok (by omega) (by omega)]
  have hs := stg2_t ⟨((P 1).toNat - 1 - i.toNat), by omega⟩
  have es : (((⟨((P 1).toNat - 1 - i.toNat), by omega⟩ : Fin 7).val : Nat) : Int) = P 1 - 1 - i := by show (((P 1).toNat - 1 - i.toNat : Nat) : Int) = _; omega
  rw [es] at hs
  have hs1 : stg 2 (P 1 - 1 - i) = 10 ^ ((P 1).toNat - 1 - i.toNat) := hs.1
  have hs2 : 0 < (10 : Int) ^ ((P 1).toNat - 1 - i.toNat) := hs.2
  have ha := rk_all hN k0 k1 (show 0 ≤ i by omega) (show i < ((P 1).toNat : Int) by omega)
  have hd := rk_dgr hN k0 k1
  have hd2 : 0 ≤ dgF (rk (P 1).toNat k) (P 1).toNat / 10 ^ ((P 1).toNat - 1 - i.toNat) := Int.ediv_nonneg hd.1 (by omega)
  have e83 : G 83 k = dgF (rk (P 1).toNat k) (P 1).toNat := (r4 k k0 k1).1
  rw [hs1, e83, idiv_nn hd.1 (by omega) hs2, irem_nn hd2, ha.2.2.2]
  unfold nz
  rw [if_neg (by omega)]
