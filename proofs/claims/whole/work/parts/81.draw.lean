-- drawn by a seed: what is drawn
def lcg (x : Int) : Int := w32 (w32 (x * 1103515245) + 12345)
def bl (x n : Int) : Int := irem (iushr (lcg x) 16) n
theorem bl_r {x n : Int} (h : 0 < n) : 0 ≤ bl x n ∧ bl x n < n := by
  have h0 : 0 ≤ iushr (lcg x) 16 := by
    rw [iushr_U (by omega) (by omega)]
    have h1 := U_lt (lcg x)
    have h2 : U (lcg x) >>> (16 : Int).toNat = U (lcg x) / 65536 := by
      rw [Nat.shiftRight_eq_div_pow]
      rfl
    rw [h2, Sg_lo (by omega)]
    omega
  unfold bl
  rw [irem_nn h0]
  exact ⟨Int.emod_nonneg _ (by omega), Int.emod_lt_of_pos _ h⟩
def drD (pl rd lot x : Int) : Option (Int × Int × Int) × Int :=
  if lot ≤ 3 then (if 0 < rd then (some (0, bl x rd, -1), lcg x) else (none, x))
  else if lot ≤ 5 then (if 0 < pl then (some (1, bl x pl, bl (lcg x) 10), lcg (lcg x)) else (none, x))
  else if lot = 6 then (if 0 < rd ∧ 0 < pl then (some (2, bl x rd, bl (lcg x) pl), lcg (lcg x)) else (none, x))
  else if lot ≤ 8 then (some (lot - 4, bl x 10, (bl x 10 + 1 + bl (lcg x) 9) % 10), lcg (lcg x))
  else (some (5, -1, -1), x)
def drw (pl rd x : Int) : Option (Int × Int × Int) × Int := drD pl rd (bl x 10) (lcg x)
theorem drD_V {pl rd lot x c a b : Int} (hp : pl ≤ 8) (hr : rd ≤ 6) (h0 : 0 ≤ lot) (h1 : lot < 10) (h : (drD pl rd lot x).1 = some (c, a, b)) : DeedV c a b := by
  unfold drD at h
  unfold DeedV
  have q10 := bl_r (x := x) (n := 10) (by omega)
  have p10 := bl_r (x := lcg x) (n := 10) (by omega)
  have p9 := bl_r (x := lcg x) (n := 9) (by omega)
  by_cases e1 : lot ≤ 3
  · rw [if_pos e1] at h
    by_cases e2 : 0 < rd
    · rw [if_pos e2] at h
      have := bl_r (x := x) e2
      obtain ⟨rfl, h2⟩ := Prod.mk.inj (Option.some.inj h)
      obtain ⟨rfl, rfl⟩ := Prod.mk.inj h2
      omega
    · rw [if_neg e2] at h; cases h
  · rw [if_neg e1] at h
    by_cases e2 : lot ≤ 5
    · rw [if_pos e2] at h
      by_cases e3 : 0 < pl
      · rw [if_pos e3] at h
        have := bl_r (x := x) e3
        obtain ⟨rfl, h2⟩ := Prod.mk.inj (Option.some.inj h)
        obtain ⟨rfl, rfl⟩ := Prod.mk.inj h2
        omega
      · rw [if_neg e3] at h; cases h
    · rw [if_neg e2] at h
      by_cases e3 : lot = 6
      · rw [if_pos e3] at h
        by_cases e4 : 0 < rd ∧ 0 < pl
        · rw [if_pos e4] at h
          have := bl_r (x := x) e4.1
          have := bl_r (x := lcg x) e4.2
          obtain ⟨rfl, h2⟩ := Prod.mk.inj (Option.some.inj h)
          obtain ⟨rfl, rfl⟩ := Prod.mk.inj h2
          omega
        · rw [if_neg e4] at h; cases h
      · rw [if_neg e3] at h
        by_cases e4 : lot ≤ 8
        · rw [if_pos e4] at h
          obtain ⟨rfl, h2⟩ := Prod.mk.inj (Option.some.inj h)
          obtain ⟨rfl, rfl⟩ := Prod.mk.inj h2
          omega
        · rw [if_neg e4] at h
          obtain ⟨rfl, h2⟩ := Prod.mk.inj (Option.some.inj h)
          obtain ⟨rfl, rfl⟩ := Prod.mk.inj h2
          omega
theorem drw_V {pl rd x c a b : Int} (hp : pl ≤ 8) (hr : rd ≤ 6) (h : (drw pl rd x).1 = some (c, a, b)) : DeedV c a b := by
  have := bl_r (x := x) (n := 10) (by omega)
  exact drD_V hp hr this.1 this.2 h
theorem upd2_t {G : Hp} {o j u v : Int} : upd2 (upd2 G o j u) o j v = upd2 G o j v := by
  funext a b
  by_cases h : a = o ∧ b = j
  · rw [upd2_e h.1 h.2, upd2_e h.1 h.2]
  · rw [upd2_o h, upd2_o h, upd2_o h]
-- the class
theorem cbelow_ok {n x : Int} {G : Hp} (h : 0 < n) (hx : G 73 1 = x) : cLo_below n G = some (bl x n, upd2 G 73 1 (lcg x)) := by
  unfold cLo_below
  rw [if_pos h, upd2_s, hx]
  apply ok_iff
  refine ok_nz (by omega) (ok_some rfl)
/-- one more deed in the week that is drawn -/
def AddR (d : Option (Int × Int × Int)) (k : Int) (C : Hp) : Prop := match d with
  | none => C 74 0 = k
  | some (c, a, b) => C 74 0 = k + 1 ∧ C 75 k = c ∧ C 76 k = a ∧ C 77 k = b
theorem wadd_ok {c a b k : Int} {G : Hp} (k0 : 0 ≤ k) (k1 : k < 60) (hk : G 74 0 = k) : ok (cWe_add 74 c a b G) (fun C => (C 74 0 = k + 1 ∧ C 75 k = c ∧ C 76 k = a ∧ C 77 k = b) ∧ ∀ x j, ¬ (74 ≤ x ∧ x ≤ 77 ∧ (j = k ∨ x = 74)) → C x j = G x j) := by
  unfold cWe_add
  rw [show (74 : Int) + 1 = 75 from rfl, show (74 : Int) + 2 = 76 from rfl, show (74 : Int) + 3 = 77 from rfl, hk, if_pos k1, gd_ok k0 k1]
  have e1 : upd2 G 75 k c 74 0 = k := by rw [upd2_o (by omega)]; exact hk
  rw [e1, gd_ok k0 k1]
  have e2 : upd2 (upd2 G 75 k c) 76 k a 74 0 = k := by rw [upd2_o (by omega)]; exact e1
  rw [e2, gd_ok k0 k1]
  have e3 : upd2 (upd2 (upd2 G 75 k c) 76 k a) 77 k b 74 0 = k := by rw [upd2_o (by omega)]; exact e2
  rw [e3, w32_id (by omega) (by omega)]
  refine ok_some ⟨⟨upd2_s, ?_, ?_, ?_⟩, fun x j q => ?_⟩
  · rw [upd2_o (by omega), upd2_o (by omega), upd2_o (by omega), upd2_s]
  · rw [upd2_o (by omega), upd2_o (by omega), upd2_s]
  · rw [upd2_o (by omega), upd2_s]
  · rw [upd2_o (by omega), upd2_o (by omega), upd2_o (by omega), upd2_o (by omega)]
theorem wadd_D {c a b k x : Int} {G G1 : Hp} (k0 : 0 ≤ k) (k1 : k < 60) (hk : G1 74 0 = k) (hx : G1 73 1 = x) (hf : ∀ a j, a ≠ 73 → G1 a j = G a j) : ok ((cWe_add 74 c a b G1).bind fun G' => some G') (fun C => C 73 1 = x ∧ AddR (some (c, a, b)) k C ∧ ∀ a j, ¬ (73 ≤ a ∧ a ≤ 77 ∧ (j = k ∨ a ≤ 74)) → C a j = G a j) := by
  refine ok_then (wadd_ok k0 k1 hk) fun C hC => ok_some ⟨?_, hC.1, fun a j q => ?_⟩
  · rw [hC.2 _ _ (by omega)]; exact hx
  · rw [hC.2 _ _ (by omega)]; exact hf _ _ (by omega)
theorem cdraw_ok {pl rd lot k x : Int} {G : Hp} (h0 : 0 ≤ lot) (h1 : lot < 10) (k0 : 0 ≤ k) (k1 : k < 60) (hk : G 74 0 = k) (hx : G 73 1 = x) : ok (cLo_drawDeed rd pl lot G) (fun C => C 73 1 = (drD pl rd lot x).2 ∧ AddR (drD pl rd lot x).1 k C ∧ ∀ a j, ¬ (73 ≤ a ∧ a ≤ 77 ∧ (j = k ∨ a ≤ 74)) → C a j = G a j) := by
  have hk1 : ∀ v, upd2 G 73 1 v 74 0 = k := fun v => (upd2_o (by omega)).trans hk
  have hs1 : ∀ v, upd2 G 73 1 v 73 1 = v := fun v => upd2_s
  have hf1 : ∀ v, ∀ a j, a ≠ 73 → upd2 G 73 1 v a j = G a j := fun v a j q => upd2_o (by omega)
  have p10 := bl_r (x := x) (n := 10) (by omega)
  have p9 := bl_r (x := lcg x) (n := 9) (by omega)
  unfold cLo_drawDeed drD
  by_cases e1 : lot ≤ 3
  · rw [if_pos e1, if_pos e1]
    by_cases e2 : 0 < rd
    · rw [if_pos e2, if_pos e2, cbelow_ok e2 hx, Option.bind_some]
      exact wadd_D k0 k1 (hk1 (lcg x)) (hs1 (lcg x)) (hf1 (lcg x))
    · rw [if_neg e2, if_neg e2]
      exact ok_some ⟨hx, hk, fun _ _ _ => rfl⟩
  · rw [if_neg e1, if_neg e1]
    by_cases e2 : lot ≤ 5
    · rw [if_pos e2, if_pos e2]
      by_cases e3 : 0 < pl
      · rw [if_pos e3, if_pos e3, cbelow_ok e3 hx, Option.bind_some]
        show ok ((cLo_below 10 (upd2 G 73 1 (lcg x))).bind _) _
        rw [cbelow_ok (by omega) upd2_s, Option.bind_some, upd2_t]
        exact wadd_D k0 k1 (hk1 (lcg (lcg x))) (hs1 (lcg (lcg x))) (hf1 (lcg (lcg x)))
      · rw [if_neg e3, if_neg e3]
        exact ok_some ⟨hx, hk, fun _ _ _ => rfl⟩
    · rw [if_neg e2, if_neg e2]
      by_cases e3 : lot = 6
      · rw [if_pos e3, if_pos e3]
        by_cases e4 : 0 < rd
        · rw [if_pos e4]
          by_cases e5 : 0 < pl
          · rw [if_pos e5, if_pos ⟨e4, e5⟩, cbelow_ok e4 hx, Option.bind_some]
            show ok ((cLo_below pl (upd2 G 73 1 (lcg x))).bind _) _
            rw [cbelow_ok e5 upd2_s, Option.bind_some, upd2_t]
            exact wadd_D k0 k1 (hk1 (lcg (lcg x))) (hs1 (lcg (lcg x))) (hf1 (lcg (lcg x)))
          · rw [if_neg e5, if_neg (fun z => e5 z.2)]
            exact ok_some ⟨hx, hk, fun _ _ _ => rfl⟩
        · rw [if_neg e4, if_neg (fun z => e4 z.1)]
          exact ok_some ⟨hx, hk, fun _ _ _ => rfl⟩
      · rw [if_neg e3, if_neg e3]
        by_cases e4 : lot ≤ 8
        · rw [if_pos e4, if_pos e4, cbelow_ok (by omega) hx, Option.bind_some]
          have key : ∀ c, ok (cLo_drawDeed_j129 rd pl lot (bl x 10) c (upd2 G 73 1 (lcg x))) (fun C => C 73 1 = lcg (lcg x) ∧ AddR (some (c, bl x 10, (bl x 10 + 1 + bl (lcg x) 9) % 10)) k C ∧ ∀ a j, ¬ (73 ≤ a ∧ a ≤ 77 ∧ (j = k ∨ a ≤ 74)) → C a j = G a j) := by
            intro c
            unfold cLo_drawDeed_j129
            rw [cbelow_ok (by omega) upd2_s, Option.bind_some, upd2_t, w32_id (z := bl x 10 + 1) (by omega) (by omega), w32_id (by omega) (by omega), irem_nn (by omega)]
            exact wadd_D k0 k1 (hk1 (lcg (lcg x))) (hs1 (lcg (lcg x))) (hf1 (lcg (lcg x)))
          show ok (if lot = 7 then cLo_drawDeed_j129 rd pl lot (bl x 10) 3 (upd2 G 73 1 (lcg x)) else cLo_drawDeed_j129 rd pl lot (bl x 10) 4 (upd2 G 73 1 (lcg x))) _
          by_cases e5 : lot = 7
          · rw [if_pos e5, show lot - 4 = 3 by omega]
            exact key 3
          · rw [if_neg e5, show lot - 4 = 4 by omega]
            exact key 4
        · rw [if_neg e4, if_neg e4]
          exact wadd_D k0 k1 hk hx fun _ _ _ => rfl
/-- from one deed on, what is drawn stands in the week -/
def WkL (pl rd : Int) (C : Hp) : Nat → Int → Int → Prop
  | 0, k, _ => C 74 0 = k
  | n + 1, k, x => match (drw pl rd x).1 with
    | none => WkL pl rd C n k (drw pl rd x).2
    | some (c, a, b) => (C 75 k = c ∧ C 76 k = a ∧ C 77 k = b) ∧ k < C 74 0 ∧ WkL pl rd C n (k + 1) (drw pl rd x).2
theorem cdraws_ok {o pl rd a2 a3 : Int} (ho : o = 7 ∨ o = 22) (ha : a3 ≤ 60) : ∀ (m n : Nat) (i k x : Int) (G : Hp), m < n → 0 ≤ i → i + m = a3 → 0 ≤ k → k ≤ i → G 73 1 = x → G 74 0 = k → G o 1 = pl → G o 2 = rd →
    ok (cLo_draw_L16 o a2 a3 n i G) (fun C => WkL pl rd C m k x ∧ k ≤ C 74 0 ∧ (∀ a j, 75 ≤ a → a ≤ 77 → j < k → C a j = G a j) ∧ ∀ a j, ¬ (73 ≤ a ∧ a ≤ 77) → C a j = G a j) := by
  intro m
  induction m with
  | zero =>
    intro n i k x G hn i0 hi k0 k1 hx hk hp hr
    obtain ⟨n', rfl⟩ : ∃ n', n = n' + 1 := ⟨n - 1, by omega⟩
    rw [cLo_draw_L16, if_neg (by omega)]
    exact ok_some ⟨hk, by omega, fun _ _ _ _ _ => rfl, fun _ _ _ => rfl⟩
  | succ m ih =>
    intro n i k x G hn i0 hi k0 k1 hx hk hp hr
    obtain ⟨n', rfl⟩ : ∃ n', n = n' + 1 := ⟨n - 1, by omega⟩
    have hb := bl_r (x := x) (n := 10) (by omega)
    rw [cLo_draw_L16, if_pos (by omega), cbelow_ok (by omega) hx, Option.bind_some, hp, hr, w32_id (z := i + 1) (by omega) (by omega)]
    show ok ((cLo_drawDeed rd pl (bl x 10) (upd2 G 73 1 (lcg x))).bind _) _
    refine ok_then (cdraw_ok (x := lcg x) (k := k) hb.1 hb.2 k0 (by omega) ((upd2_o (by omega)).trans hk) upd2_s) fun C1 h => ?_
    obtain ⟨d1, d2, d3⟩ := h
    have d3' : ∀ a j, ¬ (73 ≤ a ∧ a ≤ 77 ∧ (j = k ∨ a ≤ 74)) → C1 a j = G a j := fun a j q => by rw [d3 _ _ q, upd2_o (by omega)]
    have e1 : C1 o 1 = pl := by rw [d3' _ _ (by omega)]; exact hp
    have e2 : C1 o 2 = rd := by rw [d3' _ _ (by omega)]; exact hr
    have d1' : C1 73 1 = (drw pl rd x).2 := d1
    have d2' : AddR (drw pl rd x).1 k C1 := d2
    unfold WkL
    cases hd : (drw pl rd x).1 with
    | none =>
      rw [hd] at d2'
      refine ok_mono (ih n' (i + 1) k _ C1 (by omega) (by omega) (by omega) k0 (by omega) d1' d2' e1 e2) fun C h => ?_
      obtain ⟨h1, h2, h3, h4⟩ := h
      exact ⟨h1, h2, fun a j u v w => by rw [h3 a j u v w]; exact d3' _ _ (by omega), fun a j q => by rw [h4 _ _ q]; exact d3' _ _ (by omega)⟩
    | some d =>
      obtain ⟨c, a, b⟩ := d
      rw [hd] at d2'
      obtain ⟨u1, u2, u3, u4⟩ := d2'
      refine ok_mono (ih n' (i + 1) (k + 1) _ C1 (by omega) (by omega) (by omega) (by omega) (by omega) d1' u1 e1 e2) fun C h => ?_
      obtain ⟨h1, h2, h3, h4⟩ := h
      refine ⟨⟨⟨?_, ?_, ?_⟩, by omega, h1⟩, by omega, fun a j u v w => by rw [h3 a j u v (by omega)]; exact d3' _ _ (by omega), fun a j q => by rw [h4 _ _ q]; exact d3' _ _ (by omega)⟩
      · rw [h3 _ _ (by omega) (by omega) (by omega)]; exact u2
      · rw [h3 _ _ (by omega) (by omega) (by omega)]; exact u3
      · rw [h3 _ _ (by omega) (by omega) (by omega)]; exact u4
-- the model
theorem mbelow_ok {n x : Int} {G : Hp} (h : 0 < n) (hx : G 201 46 = x) : mm_below n G = some (bl x n, upd2 G 201 46 (lcg x)) := by
  unfold mm_below
  rw [upd2_s, hx]
  apply ok_iff
  refine ok_nz (by omega) (ok_some rfl)
def mdo (d : Option (Int × Int × Int)) (G : Hp) : Option Hp := match d with
  | none => some G
  | some (c, a, b) => (mm_does c a b G).bind fun r => some r.2
theorem mdraws_eq {pl rd x : Int} {G : Hp} (hp : G 201 13 = pl) (hr : G 201 14 = rd) (p0 : 0 ≤ pl) (r0 : 0 ≤ rd) (hx : G 201 46 = x) : mm_draws G = mdo (drw pl rd x).1 (upd2 G 201 46 (drw pl rd x).2) := by
  have hb := bl_r (x := x) (n := 10) (by omega)
  have p10 := bl_r (x := lcg x) (n := 10) (by omega)
  have p9 := bl_r (x := lcg (lcg x)) (n := 9) (by omega)
  have hp1 : ∀ v, upd2 G 201 46 v 201 13 = pl := fun v => (upd2_o (by omega)).trans hp
  have hr1 : ∀ v, upd2 G 201 46 v 201 14 = rd := fun v => (upd2_o (by omega)).trans hr
  unfold mm_draws drw
  rw [mbelow_ok (by omega) hx, Option.bind_some]
  show (if bl x 10 < 4 then mm_draws_j29 0 (upd2 G 201 46 (lcg x)) else (if bl x 10 < 6 then mm_draws_j29 1 (upd2 G 201 46 (lcg x)) else mm_draws_j29 (w32 (bl x 10 - 4)) (upd2 G 201 46 (lcg x)))) = _
  generalize bl x 10 = lot at *
  unfold drD
  by_cases e1 : lot ≤ 3
  · rw [if_pos (show lot < 4 by omega), if_pos e1]
    unfold mm_draws_j29 mm_draws_j39
    rw [if_pos rfl, hr1]
    by_cases e2 : 0 < rd
    · rw [if_neg (show ¬ rd = 0 by omega), if_pos e2]
      unfold mm_draws_j46 mm_draws_j64 mm_draws_j100
      rw [if_neg (show ¬ (0 : Int) = 1 by omega), if_neg (show ¬ (0 : Int) = 2 by omega), if_neg (show ¬ (0 : Int) = 5 by omega), if_neg (show ¬ (0 : Int) = 1 by omega), if_pos (show (0 : Int) < 3 by omega), hr1, mbelow_ok e2 upd2_s, Option.bind_some, upd2_t]
      rfl
    · rw [if_pos (show rd = 0 by omega), if_neg e2]
      rfl
  · rw [if_neg (show ¬ lot < 4 by omega), if_neg e1]
    by_cases e2 : lot ≤ 5
    · rw [if_pos (show lot < 6 by omega), if_pos e2]
      unfold mm_draws_j29 mm_draws_j46 mm_draws_j56
      rw [if_neg (show ¬ (1 : Int) = 0 by omega), if_neg (show ¬ (1 : Int) = 2 by omega), if_pos rfl, hp1]
      by_cases e3 : 0 < pl
      · rw [if_neg (show ¬ pl = 0 by omega), if_pos e3]
        unfold mm_draws_j64 mm_draws_j100
        rw [if_neg (show ¬ (1 : Int) = 5 by omega), if_pos rfl, hp1, mbelow_ok e3 upd2_s, Option.bind_some, upd2_t]
        show mm_draws_j103 1 (bl (lcg x) pl) (upd2 G 201 46 (lcg (lcg x))) = _
        unfold mm_draws_j103
        rw [if_pos rfl, mbelow_ok (by omega) upd2_s, Option.bind_some, upd2_t]
        rfl
      · rw [if_pos (show pl = 0 by omega), if_neg e3]
        rfl
    · rw [if_neg (show ¬ lot < 6 by omega), if_neg e2, w32_id (by omega) (by omega)]
      by_cases e3 : lot = 6
      · subst e3
        rw [show (6 : Int) - 4 = 2 from rfl, if_pos rfl]
        unfold mm_draws_j29 mm_draws_j39
        rw [if_neg (show ¬ (2 : Int) = 0 by omega), if_pos rfl, hr1]
        by_cases e4 : 0 < rd
        · rw [if_neg (show ¬ rd = 0 by omega)]
          unfold mm_draws_j46 mm_draws_j56
          rw [if_neg (show ¬ (2 : Int) = 1 by omega), if_pos rfl, hp1]
          by_cases e5 : 0 < pl
          · rw [if_neg (show ¬ pl = 0 by omega), if_pos ⟨e4, e5⟩]
            unfold mm_draws_j64 mm_draws_j100
            rw [if_neg (show ¬ (2 : Int) = 5 by omega), if_neg (show ¬ (2 : Int) = 1 by omega), if_pos (show (2 : Int) < 3 by omega), hr1, mbelow_ok e4 upd2_s, Option.bind_some, upd2_t]
            show mm_draws_j103 2 (bl (lcg x) rd) (upd2 G 201 46 (lcg (lcg x))) = _
            unfold mm_draws_j103
            rw [if_neg (show ¬ (2 : Int) = 1 by omega), if_pos rfl, hp1, mbelow_ok e5 upd2_s, Option.bind_some, upd2_t]
            rfl
          · rw [if_pos (show pl = 0 by omega), if_neg (fun z => e5 z.2)]
            rfl
        · rw [if_pos (show rd = 0 by omega), if_neg (fun z => e4 z.1)]
          rfl
      · rw [if_neg e3]
        by_cases e4 : lot ≤ 8
        · rw [if_pos e4]
          have hc : lot - 4 = 3 ∨ lot - 4 = 4 := by omega
          generalize lot - 4 = c at *
          unfold mm_draws_j29 mm_draws_j46 mm_draws_j64 mm_draws_j100
          rw [if_neg (by omega), if_neg (by omega), if_neg (by omega), if_neg (by omega), if_neg (by omega), if_neg (by omega), if_neg (by omega), mbelow_ok (by omega) upd2_s, Option.bind_some, upd2_t]
          show mm_draws_j103 c (bl (lcg x) 10) (upd2 G 201 46 (lcg (lcg x))) = _
          have key : mm_draws_j164 mm_draws_j182 c (bl (lcg x) 10) (upd2 G 201 46 (lcg (lcg x))) = mdo (some (c, bl (lcg x) 10, (bl (lcg x) 10 + 1 + bl (lcg (lcg x)) 9) % 10)) (upd2 G 201 46 (lcg (lcg (lcg x)))) := by
            unfold mm_draws_j164
            rw [mbelow_ok (by omega) upd2_s, Option.bind_some, upd2_t, w32_id (z := bl (lcg x) 10 + 1) (by omega) (by omega), w32_id (by omega) (by omega), irem_nn (by omega)]
            rfl
          unfold mm_draws_j103
          rw [if_neg (by omega), if_neg (by omega)]
          rcases hc with rfl | rfl
          · rw [if_pos rfl]
            exact key
          · rw [if_neg (by omega), if_pos rfl]
            exact key
        · rw [if_neg e4, show lot - 4 = 5 by omega]
          unfold mm_draws_j29 mm_draws_j46 mm_draws_j64
          rw [if_neg (by omega), if_neg (by omega), if_neg (by omega), if_neg (by omega), if_pos rfl]
          rfl
