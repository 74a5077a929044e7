/-- whose readings made the most -/
def buF (c : Int → Int) : Nat → Int
  | 0 => -1
  | k + 1 => if (if buF c k = -1 then 0 else c (buF c k)) < c (k : Int) then (k : Int) else buF c k
theorem buF_s (c : Int → Int) {i : Int} (h : 0 ≤ i) : buF c (i + 1).toNat = if (if buF c i.toNat = -1 then 0 else c (buF c i.toNat)) < c i then i else buF c i.toNat := by
  have e : (i + 1).toNat = i.toNat + 1 := by omega
  have e2 : ((i.toNat : Nat) : Int) = i := by omega
  rw [e]
  show (if (if buF c i.toNat = -1 then 0 else c (buF c i.toNat)) < c ((i.toNat : Nat) : Int) then ((i.toNat : Nat) : Int) else buF c i.toNat) = _
  rw [e2]
theorem buF_r (c : Int → Int) : ∀ k : Nat, -1 ≤ buF c k ∧ buF c k < k
  | 0 => ⟨by show (-1 : Int) ≤ -1; omega, by show (-1 : Int) < 0; omega⟩
  | k + 1 => by
    have ih := buF_r c k
    unfold buF
    split <;> omega
theorem cbusy_ok {C : Hp} {o : Int} {P f N c : Int → Int} (hV : PaperV P) (ho : o = 7 ∨ o = 22) (hc : WkC o P f N C) (h71 : ∀ r, 0 ≤ r → r < 6 → C 71 r = c r ∧ 0 ≤ c r) : cSt_busiest C = some (buF c (P 1).toNat) := by
  have h1 := hV.2.1
  obtain ⟨⟨c1, c2, c3, c4⟩, c5⟩ := hc
  apply ok_iff
  unfold cSt_busiest
  refine lp_up (fun n i (s : Int) => cSt_busiest_L4 C n s i) (P 1) (fun i s => s = buF c i.toNat) ?_ ?_ (by omega) (by omega) (by omega) (s := -1) rfl
  · intro n i s i0 i1 hs ih
    have hi := h71 i i0 (by omega)
    have hb := buF_s c i0
    have hr := buF_r c i.toNat
    rw [← hs] at hb hr
    show ok (cSt_busiest_L4 C (n + 1) s i) _
    rw [cSt_busiest_L4, c1, pg_ok ho, c5.1.2, if_pos i1, gd_ok i0 (by omega), hi.1, w32_id (z := i + 1) (by omega) (by omega)]
    refine ok_ite (fun e => ok_ite (fun e2 => ih _ ?_) (fun e2 => ?_)) (fun e => ih _ ?_)
    · rw [hb, if_pos e2, if_pos e]
    · have hs1 := h71 s (by omega) (by omega)
      rw [gd_ok i0 (by omega), gd_ok (by omega) (by omega), hs1.1]
      refine ok_ite (fun e3 => ih _ ?_) (fun e3 => ih _ ?_)
      · rw [hb, if_neg e2, if_pos e3]
      · rw [hb, if_neg e2, if_neg e3]
    · rw [hb]
      by_cases e2 : s = -1
      · rw [if_pos e2, if_neg e]
      · have hs1 := h71 s (by omega) (by omega)
        rw [if_neg e2, if_neg (by omega)]
  · intro n s hs
    show ok (cSt_busiest_L4 C (n + 1) s (P 1)) _
    rw [cSt_busiest_L4, c1, pg_ok ho, c5.1.2, if_neg (by omega)]
    exact ok_some hs
theorem mbusy_ok {G : Hp} {b : Int} {P c : Int → Int} (hV : PaperV P) (hS : MS P b G) (h210 : ∀ r, 0 ≤ r → r < 6 → G 210 r = c r) : mm_busiestOf G = some (buF c (P 1).toNat) := by
  have h1 := hV.2.1
  apply ok_iff
  unfold mm_busiestOf
  refine lp_up (fun n i (s : Int) => mm_busiestOf_L4 G n s i) (P 1) (fun i s => s = buF c i.toNat) ?_ ?_ (by omega) (by omega) (by omega) (s := -1) rfl
  · intro n i s i0 i1 hs ih
    have hi := h210 i i0 (by omega)
    have hb := buF_s c i0
    have hr := buF_r c i.toNat
    rw [← hs] at hb hr
    show ok (mm_busiestOf_L4 G (n + 1) s i) _
    unfold mm_busiestOf_L4 mm_busiestOf_j33
    rw [hS.1.2.2, if_pos i1, gd_ok i0 (by omega), hi, w32_id (z := i + 1) (by omega) (by omega)]
    refine ok_ite (fun e2 => ok_ite (fun e => ih _ ?_) (fun e => ih _ ?_)) (fun e2 => ok_gd (by omega) (by omega) ?_)
    · rw [hb, if_pos e2, if_pos e]
    · rw [hb, if_pos e2, if_neg e]
    · rw [h210 s (by omega) (by omega)]
      refine ok_ite (fun e => ih _ ?_) (fun e => ih _ ?_)
      · rw [hb, if_neg e2, if_pos e]
      · rw [hb, if_neg e2, if_neg e]
  · intro n s hs
    show ok (mm_busiestOf_L4 G (n + 1) s (P 1)) _
    rw [mm_busiestOf_L4, hS.1.2.2, if_neg (by omega)]
    exact ok_some hs
