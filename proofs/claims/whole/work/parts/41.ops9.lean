-- fractions in least terms
def gcI (a b : Int) : Int := ((Nat.gcd a.toNat b.toNat : Nat) : Int)
theorem gcI_0 {a : Int} (ha : 0 ≤ a) : gcI a 0 = a := by
  unfold gcI
  rw [show (0 : Int).toNat = 0 from rfl, Nat.gcd_zero_right]
  omega
theorem gcI_s {a b : Int} (ha : 0 ≤ a) (hb : 0 ≤ b) : gcI a b = gcI b (a % b) := by
  obtain ⟨m, rfl⟩ := Int.eq_ofNat_of_zero_le ha
  obtain ⟨n, rfl⟩ := Int.eq_ofNat_of_zero_le hb
  unfold gcI
  rw [← Int.natCast_emod, Int.toNat_natCast, Int.toNat_natCast, Int.toNat_natCast, Nat.gcd_comm m n, Nat.gcd_rec n m, Nat.gcd_comm]
theorem lcmp_0 (x : Int) : lcmp x 0 = 0 ↔ x = 0 := by
  unfold lcmp
  split
  · omega
  · split <;> omega
theorem lcmp_p (x : Int) : 0 < lcmp x 0 ↔ 0 < x := by
  unfold lcmp
  split
  · omega
  · split <;> omega
theorem lrem_nn {a b : Int} (ha : 0 ≤ a) : lrem a b = a % b := by
  unfold lrem
  exact Int.tmod_eq_emod_of_nonneg ha
theorem ldiv_nn {a b : Int} (ha : 0 ≤ a) (ha2 : a ≤ 9223372036854775807) (hb : 0 < b) : ldiv a b = a / b := by
  unfold ldiv
  rw [Int.tdiv_eq_ediv_of_nonneg ha]
  have h1 : 0 ≤ a / b := Int.ediv_nonneg ha (by omega)
  have h2 : a / b ≤ a := Int.ediv_le_self b ha
  exact w64_id (by omega) (by omega)
theorem emod_half {a b : Int} (hb : 0 < b) (hab : b ≤ a) : 2 * (a % b) < a := by
  have h1 := Int.emod_lt_of_pos a hb
  have h2 := Int.mul_ediv_add_emod a b
  have h3 : 1 ≤ a / b := (Int.le_ediv_iff_mul_le hb).mpr (by omega)
  have h4 : b * 1 ≤ b * (a / b) := Int.mul_le_mul_of_nonneg_left h3 (by omega)
  omega
/-- two steps halve -/
theorem eu_c {a0 a2 a4 : Int} {G : Hp} {k : Int → Option Int} {Q : Int → Prop} : ∀ (m n : Nat) (a b i : Int), 0 ≤ a → 0 ≤ b → b < (2 ^ m : Nat) → 2 * m + 1 < n → 0 ≤ i → i + 2 * m < 100 → ok (k (gcI a b)) Q → ok (cX_inLeast_L9 a0 a2 a4 G k n a b i) Q := by
  intro m
  induction m with
  | zero =>
    intro n a b i ha hb hm hn i0 i1 h
    obtain ⟨n', rfl⟩ : ∃ n', n = n' + 1 := ⟨n - 1, by omega⟩
    have e : b = 0 := by
      have : (2 ^ 0 : Nat) = 1 := rfl
      omega
    subst e
    rw [cX_inLeast_L9, if_pos (by omega), if_pos ((lcmp_0 0).mpr rfl)]
    rw [gcI_0 ha] at h
    exact h
  | succ m ih =>
    intro n a b i ha hb hm hn i0 i1 h
    obtain ⟨n', rfl⟩ : ∃ n', n = n' + 1 + 1 := ⟨n - 2, by omega⟩
    rw [cX_inLeast_L9, if_pos (by omega)]
    by_cases e : b = 0
    · subst e
      rw [if_pos ((lcmp_0 0).mpr rfl)]
      rw [gcI_0 ha] at h
      exact h
    · rw [if_neg (fun z => e ((lcmp_0 b).mp z)), lrem_nn ha, w32_id (by omega) (by omega)]
      refine ok_nz e ?_
      have hr0 := Int.emod_nonneg a e
      have hr1 := Int.emod_lt_of_pos a (show 0 < b by omega)
      rw [cX_inLeast_L9, if_pos (by omega)]
      rw [gcI_s ha hb] at h
      by_cases e2 : a % b = 0
      · rw [if_pos ((lcmp_0 _).mpr e2)]
        rw [e2, gcI_0 hb] at h
        exact h
      · rw [if_neg (fun z => e2 ((lcmp_0 _).mp z)), lrem_nn hb, w32_id (by omega) (by omega)]
        refine ok_nz e2 ?_
        rw [gcI_s hb hr0] at h
        have h3 := emod_half (a := b) (b := a % b) (by omega) (by omega)
        have hp : (2 ^ (m + 1) : Nat) = 2 ^ m * 2 := Nat.pow_succ 2 m
        exact ih n' _ _ _ hr0 (Int.emod_nonneg _ e2) (by omega) (by omega) (by omega) (by omega) h
theorem eu_m {a0 a2 : Int} {G : Hp} {Q : Int → Prop} : ∀ (m n : Nat) (a b : Int), 0 ≤ a → 0 ≤ b → b < (2 ^ m : Nat) → 2 * m + 1 < n → Q (gcI a b) → ok (mm_common_L6 a0 a2 G n a b) Q := by
  intro m
  induction m with
  | zero =>
    intro n a b ha hb hm hn h
    obtain ⟨n', rfl⟩ : ∃ n', n = n' + 1 := ⟨n - 1, by omega⟩
    have e : b = 0 := by
      have : (2 ^ 0 : Nat) = 1 := rfl
      omega
    subst e
    rw [mm_common_L6, if_pos ((lcmp_0 0).mpr rfl)]
    rw [gcI_0 ha] at h
    exact ok_some h
  | succ m ih =>
    intro n a b ha hb hm hn h
    obtain ⟨n', rfl⟩ : ∃ n', n = n' + 1 + 1 := ⟨n - 2, by omega⟩
    rw [mm_common_L6]
    by_cases e : b = 0
    · subst e
      rw [if_pos ((lcmp_0 0).mpr rfl)]
      rw [gcI_0 ha] at h
      exact ok_some h
    · rw [if_neg (fun z => e ((lcmp_0 b).mp z)), lrem_nn ha]
      refine ok_nz e ?_
      have hr0 := Int.emod_nonneg a e
      have hr1 := Int.emod_lt_of_pos a (show 0 < b by omega)
      rw [mm_common_L6]
      rw [gcI_s ha hb] at h
      by_cases e2 : a % b = 0
      · rw [if_pos ((lcmp_0 _).mpr e2)]
        rw [e2, gcI_0 hb] at h
        exact ok_some h
      · rw [if_neg (fun z => e2 ((lcmp_0 _).mp z)), lrem_nn hb]
        refine ok_nz e2 ?_
        rw [gcI_s hb hr0] at h
        have h3 := emod_half (a := b) (b := a % b) (by omega) (by omega)
        have hp : (2 ^ (m + 1) : Nat) = 2 ^ m * 2 := Nat.pow_succ 2 m
        exact ih n' _ _ hr0 (Int.emod_nonneg _ e2) (by omega) (by omega) h
theorem gcI_comm (a b : Int) : gcI a b = gcI b a := by
  unfold gcI
  rw [Nat.gcd_comm]
theorem gcI_pos {a b : Int} (hb : 0 < b) : 0 < gcI a b := by
  unfold gcI
  have : 0 < Nat.gcd a.toNat b.toNat := Nat.gcd_pos_of_pos_right _ (by omega)
  omega
/-- one side of a fraction in least terms -/
def lst (o b u : Int) : Int := (if u = 0 then o else b) / gcI o b
theorem inLeast_ok {o b u : Int} {G : Hp} (o0 : 0 ≤ o) (o1 : o < 1024) (b0 : 0 < b) (b1 : b < 1024) : cX_inLeast o b u G = some (lst o b u) := by
  apply ok_iff
  unfold cX_inLeast
  refine eu_c 10 FU b o 0 (by omega) o0 (by have e : (2 ^ 10 : Nat) = 1024 := rfl; omega) (by decide) (by omega) (by omega) ?_
  have hg := gcI_pos (a := o) b0
  rw [gcI_comm b o]
  unfold cX_inLeast_j54 lst
  rw [if_pos ((lcmp_p _).mpr hg), if_pos ((lcmp_p _).mpr hg)]
  refine ok_ite (fun e => ok_nz (by omega) (ok_some ?_)) (fun e => ok_nz (by omega) (ok_some ?_))
  · rw [if_pos e, ldiv_nn o0 (by omega) hg]
  · rw [if_neg e, ldiv_nn (by omega) (by omega) hg]
theorem parted_ok {o b u : Int} {G : Hp} (o0 : 0 ≤ o) (o1 : o ≤ 1000000000000000000) (b0 : 0 < b) (b1 : b ≤ 1000000000000000000) : mm_parted o b u G = some (lst o b u) := by
  apply ok_iff
  have hg := gcI_pos (a := o) b0
  have hc : mm_common o b G = some (gcI o b) := by
    apply ok_iff
    unfold mm_common
    exact eu_m 60 FU o b o0 (by omega) (by have e : (2 ^ 60 : Nat) = 1152921504606846976 := rfl; omega) (by decide) rfl
  unfold mm_parted mm_parted_j10 lst
  rw [hc, Option.bind_some, Option.bind_some]
  refine ok_ite (fun e => ok_nz (by omega) (ok_some ?_)) (fun e => ok_nz (by omega) (ok_some ?_))
  · rw [if_pos e, ldiv_nn o0 (by omega) hg]
  · rw [if_neg e, ldiv_nn (by omega) (by omega) hg]
-- chances
def cmO (p : Int) (n : Nat) : Int := pwD 10 n - pwD (10 - p) n
def cmI (p : Int) (n : Nat) (u : Int) : Int := lst (cmO p n) (pwD 10 n) u
theorem come_t : ∀ p : Fin 11, ∀ n : Fin 4, (0 ≤ pwD (10 - (p.val : Int)) n.val ∧ pwD (10 - (p.val : Int)) n.val ≤ pwD 10 n.val ∧ 1 ≤ pwD 10 n.val ∧ pwD 10 n.val ≤ 1000) ∧ ∀ k : Fin 7, (0 ≤ pwD (cmO (p.val : Int) n.val) k.val ∧ pwD (cmO (p.val : Int) n.val) k.val ≤ 1000000000000000000) ∧ ∀ u : Fin 2, (0 ≤ pwD (cmI (p.val : Int) n.val (u.val : Int)) k.val ∧ pwD (cmI (p.val : Int) n.val (u.val : Int)) k.val ≤ 1000000000000000000) ∧ pwD (cmI (p.val : Int) n.val (u.val : Int)) k.val = lst (pwD (cmO (p.val : Int) n.val) k.val) (pwD 10 (n.val * k.val)) (u.val : Int) := by decide +kernel
theorem pw10_t : ∀ k : Fin 19, 1 ≤ pwD 10 k.val ∧ pwD 10 k.val ≤ 1000000000000000000 := by decide +kernel
theorem powerOf_ok {b n : Int} {G : Hp} (n0 : 0 ≤ n) (n1 : n ≤ 18) (h : ∀ k : Nat, (k : Int) ≤ n → 0 ≤ pwD b k ∧ pwD b k ≤ 1000000000000000000) : mm_powerOf b n G = some (pwD b n.toNat) := by
  apply ok_iff
  unfold mm_powerOf
  refine lp_up (fun k i (s : Int) => mm_powerOf_L5 b n G k s i) n (fun i s => s = pwD b i.toNat) ?_ ?_ (by omega) (by omega) (by omega) rfl
  · intro k i s i0 i1 hI ih
    show ok (mm_powerOf_L5 b n G (k + 1) s i) _
    have hs := pwD_s b i0
    have hb := h (i + 1).toNat (by omega)
    rw [mm_powerOf_L5, if_pos i1, hI, ← hs, w32_id (by omega) (by omega), w64_id (by omega) (by omega)]
    exact ih _ rfl
  · intro k s hI
    show ok (mm_powerOf_L5 b n G (k + 1) s n) _
    rw [mm_powerOf_L5, if_neg (by omega)]
    exact ok_some hI
theorem op17 : Op17 Inv := by
  intro Gc Gm hI a1 a2 a3 a4 r1 r2 r3 r4
  have hC : CInv Gc (Gm 202) (Gm 203) := hI
  by_cases hk : 0 ≤ a1 ∧ a1 < Gm 202 0
  · obtain ⟨hp, hk2⟩ := paperAt_yes hC hk.1 hk.2
    obtain ⟨hV, hP⟩ := hC.paper hk2
    have hyes := isPaper_yes hC.av hk.1 hk.2
    generalize ct 80 (Gm 202) (pb a1) = P at *
    have h1 := hV.2.1
    have ho := o_or hk2
    generalize 7 + 15 * a1 = o at *
    by_cases hr : (0 ≤ a2 ∧ a2 ≤ 10) ∧ 0 ≤ a3 ∧ a3 ≤ 3
    · obtain ⟨⟨p0, p1⟩, n0, n1⟩ := hr
      have ct0 := come_t ⟨a2.toNat, by omega⟩ ⟨a3.toNat, by omega⟩
      have ep : (((⟨a2.toNat, by omega⟩ : Fin 11).val : Nat) : Int) = a2 := by show ((a2.toNat : Nat) : Int) = a2; omega
      rw [ep] at ct0
      have ct1 : (0 ≤ pwD (10 - a2) a3.toNat ∧ pwD (10 - a2) a3.toNat ≤ pwD 10 a3.toNat ∧ 1 ≤ pwD 10 a3.toNat ∧ pwD 10 a3.toNat ≤ 1000) := ct0.1
      have ck : ∀ k : Nat, k ≤ 6 → (0 ≤ pwD (cmO a2 a3.toNat) k ∧ pwD (cmO a2 a3.toNat) k ≤ 1000000000000000000) ∧ (0 ≤ pwD (cmI a2 a3.toNat a4) k ∧ pwD (cmI a2 a3.toNat a4) k ≤ 1000000000000000000) ∧ pwD (cmI a2 a3.toNat a4) k = lst (pwD (cmO a2 a3.toNat) k) (pwD 10 (a3.toNat * k)) a4 := by
        intro k hk
        have q := ct0.2 ⟨k, by omega⟩
        rcases r4 with rfl | rfl
        · exact ⟨q.1, q.2 ⟨0, by omega⟩⟩
        · exact ⟨q.1, q.2 ⟨1, by omega⟩⟩
      have hall : ∀ i : Nat, (i : Int) ≤ a3 → 0 ≤ pwD 10 i ∧ pwD 10 i ≤ 1000000000000000000 := fun i hi => by
        have := pw10_t ⟨i, by omega⟩
        exact ⟨by have := this.1; show 0 ≤ pwD 10 i; have e : 1 ≤ pwD 10 i := this; omega, this.2⟩
      have haw : ∀ i : Nat, (i : Int) ≤ a3 → 0 ≤ pwD (10 - a2) i ∧ pwD (10 - a2) i ≤ 1000 := fun i hi => by
        have q := (come_t ⟨a2.toNat, by omega⟩ ⟨i, by omega⟩).1
        rw [ep] at q
        have q2 : (0 ≤ pwD (10 - a2) i ∧ pwD (10 - a2) i ≤ pwD 10 i ∧ 1 ≤ pwD 10 i ∧ pwD 10 i ≤ 1000) := q
        omega
      refine op_p hI (pwD (cmI a2 a3.toNat a4) (P 1).toNat) ?_ ?_
      · apply ok_iff
        unfold cX_come
        rw [hp, Option.bind_some, if_neg (by omega), if_neg (by omega), if_pos p1, if_neg (by omega), if_neg (by omega)]
        refine lp_up (fun n i (s : Int × Int) => cX_come_L44 a1 a2 a3 a4 Gc o (fun x6_74 x8_74 => (cX_inLeast (w64 (x6_74 - x8_74)) x6_74 a4 Gc).bind fun v83 => cX_come_L94 a1 a2 a3 a4 Gc o v83 FU 1 0) n s.1 s.2 i) a3 (fun i s => s.1 = pwD 10 i.toNat ∧ s.2 = pwD (10 - a2) i.toNat) ?_ ?_ (by omega) (by omega) (by omega) (s := (1, 1)) ⟨rfl, rfl⟩
        · intro n i s i0 i1 hs ih
          obtain ⟨x, y⟩ := s
          obtain ⟨e1, e2⟩ := hs
          simp only at e1 e2
          have s1 := pwD_s 10 i0
          have s2 := pwD_s (10 - a2) i0
          have b1 := hall (i + 1).toNat (by omega)
          have b2 := haw (i + 1).toNat (by omega)
          show ok (cX_come_L44 a1 a2 a3 a4 Gc o _ (n + 1) x y i) _
          rw [cX_come_L44, if_pos i1, w32_id (z := 10 - a2) (by omega) (by omega), e1, e2, ← s1, ← s2, w64_id (by omega) (by omega), w64_id (by omega) (by omega), w32_id (by omega) (by omega)]
          exact ih (_, _) ⟨rfl, rfl⟩
        · intro n s hs
          obtain ⟨x, y⟩ := s
          obtain ⟨e1, e2⟩ := hs
          simp only at e1 e2
          show ok (cX_come_L44 a1 a2 a3 a4 Gc o _ (n + 1) x y a3) _
          rw [cX_come_L44, if_neg (by omega), e1, e2, w64_id (by omega) (by omega), inLeast_ok (by omega) (by omega) (by omega) (by omega), Option.bind_some]
          show ok (cX_come_L94 a1 a2 a3 a4 Gc o (cmI a2 a3.toNat a4) FU 1 0) _
          refine lp_up (fun n i (s : Int) => cX_come_L94 a1 a2 a3 a4 Gc o (cmI a2 a3.toNat a4) n s i) (P 1) (fun i s => s = pwD (cmI a2 a3.toNat a4) i.toNat) ?_ ?_ (by omega) (by omega) (by omega) rfl
          · intro n i s i0 i1 hs ih
            have s1 := pwD_s (cmI a2 a3.toNat a4) i0
            have b1 := (ck (i + 1).toNat (by omega)).2.1
            show ok (cX_come_L94 a1 a2 a3 a4 Gc o (cmI a2 a3.toNat a4) (n + 1) s i) _
            rw [cX_come_L94, hP.1.2, if_pos i1, hs, ← s1, w64_id (by omega) (by omega), w32_id (by omega) (by omega)]
            exact ih _ rfl
          · intro n s hs
            show ok (cX_come_L94 a1 a2 a3 a4 Gc o (cmI a2 a3.toNat a4) (n + 1) s (P 1)) _
            rw [cX_come_L94, hP.1.2, if_neg (by omega)]
            exact ok_some hs
      · unfold mm_come
        refine ok_then hyes fun r hr2 => ?_
        obtain ⟨e1, e2, e3, e4⟩ := hr2
        have hM := e2.1
        have hrd : (P 1).toNat ≤ 6 := by omega
        have hmul : a3 * P 1 = ((a3.toNat * (P 1).toNat : Nat) : Int) := by
          rw [Int.natCast_mul]
          congr 1 <;> omega
        have hmb : a3.toNat * (P 1).toNat ≤ 18 := Nat.mul_le_mul (show a3.toNat ≤ 3 by omega) hrd
        rw [e1, if_tt, isIn_eq, isIn_eq, decide_eq_true ⟨p0, p1⟩, decide_eq_true ⟨n0, n1⟩, if_tt, if_tt, powerOf_ok n0 (by omega) hall, Option.bind_some, w64_id (z := 10 - a2) (by omega) (by omega), powerOf_ok n0 (by omega) (fun k hk => by have := haw k hk; omega), Option.bind_some, w64_id (by omega) (by omega), hM.1.2.2]
        have q1 := powerOf_ok (b := cmO a2 a3.toNat) (n := P 1) (G := r.2) h1.1 (by omega) (fun k hk => (ck k (by omega)).1)
        unfold cmO at q1
        rw [q1, Option.bind_some, hmul, w32_id (by omega) (by omega), powerOf_ok (by omega) (by omega) (fun k hk => by
          have := pw10_t ⟨k, by omega⟩
          exact ⟨by have := this.1; show 0 ≤ pwD 10 k; have e : 1 ≤ pwD 10 k := this; omega, this.2⟩), Option.bind_some, Int.toNat_natCast]
        have q2 := ck (P 1).toNat hrd
        have q3 := pw10_t ⟨a3.toNat * (P 1).toNat, by omega⟩
        have q4 : 1 ≤ pwD 10 (a3.toNat * (P 1).toNat) ∧ pwD 10 (a3.toNat * (P 1).toNat) ≤ 1000000000000000000 := q3
        have q5 := q2.1
        unfold cmO at q5
        rw [parted_ok q5.1 q5.2 (by omega) q4.2, Option.bind_some]
        exact ok_some ⟨q2.2.2.symm, e3, e4⟩
    · refine op_p hI (-1) ?_ ?_
      · apply ok_iff
        unfold cX_come
        rw [hp, Option.bind_some, if_neg (by omega)]
        refine ok_ite (fun _ => ok_some rfl) (fun g0 => ok_ite (fun g1 => ok_ite (fun _ => ok_some rfl) (fun g2 => ok_ite (fun _ => ok_some rfl) (fun g3 => absurd ⟨⟨by omega, g1⟩, by omega, by omega⟩ hr))) (fun _ => ok_some rfl))
      · unfold mm_come
        refine ok_then hyes fun r hr2 => ?_
        obtain ⟨e1, e2, e3, e4⟩ := hr2
        rw [e1, if_tt, isIn_eq, isIn_eq]
        by_cases g0 : 0 ≤ a2 ∧ a2 ≤ 10
        · rw [decide_eq_true g0, if_tt, decide_eq_false (fun z => hr ⟨g0, z⟩), if_ff]
          exact ok_some ⟨rfl, e3, e4⟩
        · rw [decide_eq_false g0, if_ff]
          exact ok_some ⟨rfl, e3, e4⟩
  · refine op_p hI (-1) ?_ ?_
    · unfold cX_come
      rw [paperAt_no hC hk, Option.bind_some, if_pos (by omega)]
    · unfold mm_come
      rw [isPaper_no hC.av hk, Option.bind_some, if_ff]
      exact ok_some ⟨rfl, rfl, rfl⟩
