theorem cread_can {C : Hp} {o a w : Int} {P f N : Int → Int} (ho : o = 7 ∨ o = 22) (hc : WkC o P f N C) (a0 : 0 ≤ a) : cSt_can 0 a w C = some (decide (a < P 1)) := by
  obtain ⟨⟨c1, c2, c3, c4⟩, c5⟩ := hc
  apply ok_iff
  unfold cSt_can cSt_can_j20
  rw [if_neg (show ¬ a < 0 by omega), c1, pg_ok ho, c5.1.2]
  refine ok_ite (fun e => ?_) (fun e => ?_)
  · rw [if_pos rfl]
    exact ok_some (decide_eq_true e).symm
  · rw [if_pos rfl]
    exact ok_some (decide_eq_false e).symm
/-- one who is no reader: both break off -/
theorem read_no {C G : Hp} {o b a w : Int} {P f N : Int → Int} (hV : PaperV P) (ho : o = 7 ∨ o = 22) (hc : WkC o P f N C) (hg : WkM b P f N G) (a0 : 0 ≤ a) (a1 : ¬ a < P 1) : cSt_does 0 a w C = some (false, C) ∧ mm_does 0 a w G = some (false, G) := by
  constructor
  · unfold cSt_does
    rw [cread_can ho hc a0, Option.bind_some, decide_eq_false a1, if_neg (by decide)]
  · unfold mm_does mm_readsDeed
    rw [if_pos rfl, isReader_ok hV hg.1, Option.bind_some, decide_eq_false (fun z => a1 z.2), if_neg (by decide), Option.bind_some]
/-- one reads: the class -/
theorem cread_yes {C : Hp} {o a w : Int} {P f N : Int → Int} {Q : Hp → Prop} (ho : o = 7 ∨ o = 22) (hc : WkC o P f N C) (a0 : 0 ≤ a) (a1 : a < P 1) (h : ok (cSt_read a C) Q) : ok (cSt_does 0 a w C) (fun x => x.1 = true ∧ Q x.2) := by
  unfold cSt_does
  rw [cread_can ho hc a0, Option.bind_some, decide_eq_true a1, if_pos rfl, if_pos rfl]
  exact ok_then h fun G' hG => ok_some ⟨rfl, hG⟩
/-- one reads: the model, and when it was first that words changed -/
theorem mread_yes {G : Hp} {b a w : Int} {P f N : Int → Int} {Q : Int × Hp → Prop} (hV : PaperV P) (hg : WkM b P f N G) (a0 : 0 ≤ a) (a1 : a < P 1) (h : ok (mm_reads a G) Q) : ok (mm_does 0 a w G) (fun x => x.1 = true ∧ ∃ n G', Q (n, G') ∧ x.2 = if 0 < n ∧ G' 201 22 = -1 then upd2 G' 201 22 (G' 201 21) else G') := by
  unfold mm_does mm_readsDeed
  rw [if_pos rfl, isReader_ok hV hg.1, Option.bind_some, decide_eq_true (show 0 ≤ a ∧ a < P 1 from ⟨a0, a1⟩), if_pos rfl]
  obtain ⟨⟨n, G'⟩, e, hQ⟩ := h
  rw [e, Option.bind_some]
  by_cases h1 : 0 < n
  · rw [if_pos h1]
    by_cases h2 : G' 201 22 = -1
    · rw [if_pos h2, Option.bind_some]
      exact ok_some ⟨rfl, n, G', hQ, by rw [if_pos ⟨h1, h2⟩]⟩
    · rw [if_neg h2, Option.bind_some]
      exact ok_some ⟨rfl, n, G', hQ, by rw [if_neg (fun z => h2 z.2)]⟩
  · rw [if_neg h1, Option.bind_some]
    exact ok_some ⟨rfl, n, G', hQ, by rw [if_neg (fun z => h1 z.1)]⟩
