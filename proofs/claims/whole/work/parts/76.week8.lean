/-- what is told of how things stand -/
theorem wtell_ok {C G : Hp} {o b q : Int} {P f N g : Int → Int} (hq : q ≤ 2147483647) (hV : PaperV P) (ho : o = 7 ∨ o = 22) (hc : WkC o P f N C) (hg : WkM b P f N G) (h5 : C 57 5 = G 201 17) (h6 : C 57 6 = G 201 18) (hl : ∀ r, 0 ≤ r → r < 6 → C 70 r = G 209 r) (hp : (C 57 6 = 0 ∧ ∀ p, 0 ≤ p → p < P 0 → G 208 p = 10) ∨ (C 57 6 ≠ 0 ∧ PK (C 57 8) g ∧ ∀ p, 0 ≤ p → p < P 0 → G 208 p = g p)) :
    ∃ v, cSt_tell q C = some v ∧ mm_nowOf q G = some v := by
  have h0 := hV.1
  have h1 := hV.2.1
  obtain ⟨⟨c1, c2, c3, c4⟩, c5⟩ := hc
  obtain ⟨m1, m2, m3⟩ := hg
  unfold cSt_tell mm_nowOf
  by_cases q0 : q < 0
  · exact ⟨-2, by rw [if_pos q0], by rw [if_pos q0]⟩
  · rw [if_neg q0, if_neg q0, idiv_nn (by omega) hq (by omega), irem_nn (by omega), c1, pg_ok ho, pg_ok ho, pg_ok ho, pg_ok ho, pg_ok ho, c5.1.1, c5.1.2]
    have r0 : 0 ≤ q % 10 := Int.emod_nonneg _ (by omega)
    have r1 : q % 10 < 10 := Int.emod_lt_of_pos _ (by omega)
    by_cases d0 : q / 10 = 0
    · rw [if_pos d0]
      by_cases e0 : q = 0
      · exact ⟨G 201 17, by rw [if_pos (by omega), h5], by rw [if_pos (by omega), if_pos e0]⟩
      · by_cases e1 : q = 1
        · exact ⟨G 201 18, by rw [if_neg (by omega), if_pos (by omega), h6], by rw [if_pos (by omega), if_neg e0]⟩
        · exact ⟨-2, by rw [if_neg (by omega), if_neg (by omega)], by rw [if_neg (by omega), if_neg (by omega), if_neg (by omega), if_neg (by omega), if_neg (by omega), if_neg (by omega)]⟩
    · rw [if_neg d0, if_neg (show ¬ q < 2 by omega), isPlace_ok hV m1, Option.bind_some, Option.bind_some, isReader_ok hV m1, Option.bind_some, Option.bind_some]
      by_cases d1 : q / 10 = 1
      · rw [if_pos d1, if_pos d1]
        by_cases z : q % 10 < P 0
        · refine ⟨f (q % 10), ?_, ?_⟩
          · rw [if_pos z, c2.2 _ r0 (by omega)]
          · rw [decide_eq_true (show 0 ≤ q % 10 ∧ q % 10 < P 0 from ⟨r0, z⟩), if_pos rfl, gd_ok r0 (by omega), m3 _ r0 (by omega)]
        · exact ⟨-2, by rw [if_neg z], by rw [decide_eq_false (fun y => z y.2), if_neg (by decide)]⟩
      · rw [if_neg d1, if_neg d1]
        by_cases d2 : q / 10 = 2
        · rw [if_pos d2, if_pos d2]
          by_cases z : q % 10 < P 0
          · refine ⟨G 208 (q % 10), ?_, ?_⟩
            · rw [if_neg (by omega)]
              rcases hp with ⟨p1, p2⟩ | ⟨p1, p2, p3⟩
              · rw [if_pos p1, p2 _ r0 z]
              · rw [if_neg p1, p2.2 _ r0 (by omega), p3 _ r0 z]
            · rw [decide_eq_true (show 0 ≤ q % 10 ∧ q % 10 < P 0 from ⟨r0, z⟩), if_pos rfl, gd_ok r0 (by omega)]
          · exact ⟨-2, by rw [if_pos (by omega)], by rw [decide_eq_false (fun y => z y.2), if_neg (by decide)]⟩
        · rw [if_neg d2, if_neg d2]
          by_cases d3 : q / 10 = 3
          · rw [if_pos d3, if_pos d3]
            by_cases z : q % 10 < P 1
            · refine ⟨ctn P (q % 10) f, ?_, ?_⟩
              · rw [if_pos z, content_ok hV c5 r0 (by omega) c2, Option.bind_some]
              · rw [decide_eq_true (show 0 ≤ q % 10 ∧ q % 10 < P 1 from ⟨r0, z⟩), if_pos rfl, mcontent_ok hV m1 m3 r0 (by omega), Option.bind_some]
            · exact ⟨-2, by rw [if_neg z], by rw [decide_eq_false (fun y => z y.2), if_neg (by decide)]⟩
          · rw [if_neg d3, if_neg d3]
            by_cases d4 : q / 10 = 4
            · rw [if_pos d4, if_pos d4]
              by_cases z : q % 10 < P 1
              · refine ⟨G 209 (q % 10), ?_, ?_⟩
                · rw [if_pos z, gd_ok r0 (by omega), hl _ r0 (by omega)]
                · rw [decide_eq_true (show 0 ≤ q % 10 ∧ q % 10 < P 1 from ⟨r0, z⟩), if_pos rfl, gd_ok r0 (by omega)]
              · exact ⟨-2, by rw [if_neg z], by rw [decide_eq_false (fun y => z y.2), if_neg (by decide)]⟩
            · rw [if_neg d4, if_neg d4]
              by_cases d5 : q / 10 = 5
              · rw [if_pos d5, if_pos d5]
                exact ⟨N (q % 10), by rw [gd_ok r0 r1, c4 _ r0 r1], by rw [gd_ok r0 r1, m2.2.1 _ r0 r1]⟩
              · rw [if_neg d5, if_neg d5]
                exact ⟨-2, rfl, rfl⟩
