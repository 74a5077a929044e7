/-- a deed: a word set -/
theorem cset_ok {C : Hp} {o a w : Int} {P f N : Int → Int} (ho : o = 7 ∨ o = 22) (hc : WkC o P f N C) (hV : PaperV P) (a0 : 0 ≤ a) (a1 : a ≤ 7) (w0 : 0 ≤ w) (w1 : w ≤ 9) (h10 : 0 ≤ C 57 10 ∧ C 57 10 ≤ 1000) :
    ok (cSt_does 1 a w C) (fun x => x.1 = decide (a < P 0 ∧ f a ≠ w) ∧ (x.1 = false → x.2 = C) ∧ (x.1 = true → WkC o P (ud f a w) N x.2 ∧ x.2 57 10 = C 57 10 + 1 ∧ x.2 57 11 = ior (C 57 11) (ishl 1 a) ∧ ∀ b j, ¬ (b = 57 ∧ (j = 2 ∨ j = 10 ∨ j = 11)) → x.2 b j = C b j)) := by
  obtain ⟨⟨c1, c2, c3, c4⟩, c5⟩ := hc
  have hcan : cSt_can 1 a w C = some (decide (a < P 0 ∧ f a ≠ w)) := by
    apply ok_iff
    have key : ∀ s, ok (cSt_can_j20 1 a w C s) (fun r => r = decide (a < P 0 ∧ f a ≠ w)) := by
      intro s
      unfold cSt_can_j20
      rw [if_neg (by omega), if_pos rfl, if_neg (by omega), c1, pg_ok ho, c5.1.1, c2.2 a a0 (by omega)]
      refine ok_ite (fun e => ok_ite (fun e2 => ok_some ?_) (fun e2 => ok_some ?_)) (fun e => ok_some ?_)
      · exact (decide_eq_false (fun z => z.2 e2)).symm
      · exact (decide_eq_true ⟨e, e2⟩).symm
      · exact (decide_eq_false (fun z => e z.1)).symm
    unfold cSt_can
    rw [if_neg (by omega), c1, pg_ok ho]
    exact ok_ite (fun _ => key 1) (fun _ => key 0)
  unfold cSt_does
  rw [hcan, Option.bind_some]
  by_cases q : a < P 0 ∧ f a ≠ w
  · rw [decide_eq_true q, if_pos rfl, if_neg (by omega), if_pos rfl]
    generalize hH1 : upd2 C 57 2 (cX_put (C 57 2) a w) = H1
    have e10 : H1 57 10 = C 57 10 := by rw [← hH1, upd2_o (by omega)]
    rw [e10, w32_id (by omega) (by omega)]
    generalize hH2 : upd2 H1 57 10 (C 57 10 + 1) = H2
    have e11 : H2 57 11 = C 57 11 := by rw [← hH2, upd2_o (by omega), ← hH1, upd2_o (by omega)]
    rw [e11]
    have z : ∀ b j, ¬ (b = 57 ∧ (j = 2 ∨ j = 10 ∨ j = 11)) → upd2 H2 57 11 (ior (C 57 11) (ishl 1 a)) b j = C b j := fun b j q1 => by rw [upd2_o (by omega), ← hH2, upd2_o (by omega), ← hH1, upd2_o (by omega)]
    refine ok_some ⟨rfl, (fun h => Bool.noConfusion (show true = false from h)), fun _ => ⟨⟨⟨?_, ?_, c3.fr fun b j u v => z b j (by omega), fun v v0 v1 => ?_⟩, c5.fr fun b j u v => z b j (by omega)⟩, ?_, (show upd2 H2 57 11 (ior (C 57 11) (ishl 1 a)) 57 11 = _ from upd2_s), z⟩⟩
    · show upd2 H2 57 11 (ior (C 57 11) (ishl 1 a)) 57 0 = o
      rw [z _ _ (by omega)]; exact c1
    · show PK (upd2 H2 57 11 (ior (C 57 11) (ishl 1 a)) 57 2) _
      rw [upd2_o (by omega), ← hH2, upd2_o (by omega), ← hH1, upd2_s]
      exact PK_put c2 a0 (by omega) w0 (by omega)
    · show upd2 H2 57 11 (ior (C 57 11) (ishl 1 a)) 67 v = _
      rw [z _ _ (by omega)]; exact c4 v v0 v1
    · show upd2 H2 57 11 (ior (C 57 11) (ishl 1 a)) 57 10 = _
      rw [upd2_o (by omega), ← hH2, upd2_s]
  · rw [decide_eq_false q, if_neg (by decide)]
    exact ok_some ⟨rfl, fun _ => rfl, (fun h => Bool.noConfusion (show false = true from h))⟩
theorem mset_ok {G : Hp} {b a w : Int} {P f N : Int → Int} (hV : PaperV P) (hg : WkM b P f N G) (a0 : 0 ≤ a) (a1 : a ≤ 7) (h19 : 0 ≤ G 201 19 ∧ G 201 19 ≤ 1000) :
    ok (mm_does 1 a w G) (fun x => x.1 = decide (a < P 0 ∧ f a ≠ w) ∧ (x.1 = false → x.2 = G) ∧ (x.1 = true → WkM b P (ud f a w) N x.2 ∧ x.2 201 19 = G 201 19 + 1 ∧ x.2 201 20 = ior (G 201 20) (ishl 1 a) ∧ ∀ c j, c ≠ 207 → ¬ (c = 201 ∧ (j = 19 ∨ j = 20)) → x.2 c j = G c j)) := by
  obtain ⟨m1, m2, m3⟩ := hg
  unfold mm_does mm_setsWord
  rw [if_neg (by omega), if_pos rfl, isPlace_ok hV m1, Option.bind_some, gd_ok a0 (by omega), gd_ok a0 (by omega), m3 a a0 (by omega)]
  by_cases q : a < P 0
  · rw [decide_eq_true (show 0 ≤ a ∧ a < P 0 from ⟨a0, q⟩), if_pos rfl]
    by_cases q2 : f a = w
    · rw [if_pos q2, Option.bind_some]
      exact ok_some ⟨(decide_eq_false (fun z => z.2 q2)).symm, fun _ => rfl, (fun h => Bool.noConfusion (show false = true from h))⟩
    · rw [if_neg q2, Option.bind_some]
      generalize hH1 : upd2 G 207 a w = H1
      have e20 : H1 201 20 = G 201 20 := by rw [← hH1, upd2_o (by omega)]
      rw [e20]
      generalize hH2 : upd2 H1 201 20 (ior (G 201 20) (ishl 1 a)) = H2
      have e19 : H2 201 19 = G 201 19 := by rw [← hH2, upd2_o (by omega), ← hH1, upd2_o (by omega)]
      rw [e19, w32_id (by omega) (by omega)]
      have z : ∀ c j, c ≠ 207 → ¬ (c = 201 ∧ (j = 19 ∨ j = 20)) → upd2 H2 201 19 (G 201 19 + 1) c j = G c j := fun c j u v => by rw [upd2_o (by omega), ← hH2, upd2_o (by omega), ← hH1, upd2_o (by omega)]
      have m1' : MS P b (upd2 H2 201 19 (G 201 19 + 1)) := m1.fr (fun j v => z _ _ (by omega) (by omega)) (fun j => z _ _ (by omega) (by omega))
      have m2' : MN N (upd2 H2 201 19 (G 201 19 + 1)) := m2.fr (fun j => z _ _ (by omega) (by omega)) (fun j => z _ _ (by omega) (by omega))
      refine ok_some ⟨(decide_eq_true ⟨q, q2⟩).symm, (fun h => Bool.noConfusion (show true = false from h)), fun _ => ⟨⟨m1', m2', fun p p0 p1 => ?_⟩, (show upd2 H2 201 19 (G 201 19 + 1) 201 19 = _ from upd2_s), ?_, z⟩⟩
      · show upd2 H2 201 19 (G 201 19 + 1) 207 p = _
        rw [upd2_o (by omega), ← hH2, upd2_o (by omega), ← hH1]
        unfold ud
        by_cases hp : p = a
        · rw [upd2_e rfl hp, if_pos hp]
        · rw [upd2_o (by omega), if_neg hp]
          exact m3 p p0 p1
      · show upd2 H2 201 19 (G 201 19 + 1) 201 20 = _
        rw [upd2_o (by omega), ← hH2, upd2_s]
  · rw [decide_eq_false (fun z => q z.2), if_neg (by decide), Option.bind_some]
    exact ok_some ⟨(decide_eq_false (fun z => q z.1)).symm, fun _ => rfl, (fun h => Bool.noConfusion (show false = true from h))⟩
/-- a deed: a word left -/
theorem cstet_ok {C : Hp} {o a p : Int} {P f N : Int → Int} (ho : o = 7 ∨ o = 22) (hc : WkC o P f N C) (hV : PaperV P) (a0 : 0 ≤ a) (a1 : a ≤ 5) (p0 : 0 ≤ p) :
    ok (cSt_does 2 a p C) (fun x => x.1 = decide (a < P 1 ∧ p < P 0 ∧ ¬ iand (ishr (C 70 a) p) 1 ≠ 0) ∧ (x.1 = false → x.2 = C) ∧ (x.1 = true → x.2 = upd2 C 70 a (ior (C 70 a) (ishl 1 p)))) := by
  obtain ⟨⟨c1, c2, c3, c4⟩, c5⟩ := hc
  have hcan : cSt_can 2 a p C = some (decide (a < P 1 ∧ p < P 0 ∧ ¬ iand (ishr (C 70 a) p) 1 ≠ 0)) := by
    apply ok_iff
    have e1 : C o 1 = P 0 := c5.1.1
    unfold cSt_can
    rw [if_neg (show ¬ a < 0 by omega), c1, pg_ok ho, c5.1.2]
    refine ok_ite (fun e => ?_) (fun e => ?_)
    · unfold cSt_can_j20
      rw [if_neg (show ¬ (2 : Int) = 0 by omega), if_neg (show ¬ (2 : Int) = 1 by omega), if_pos rfl, if_neg (show ¬ (1 : Int) = 0 by omega), if_neg (show ¬ p < 0 by omega), c1, pg_ok ho, e1, gd_ok a0 (by omega)]
      refine ok_ite (fun e2 => ok_ite (fun e3 => ok_some ?_) (fun e3 => ok_some ?_)) (fun e2 => ok_some ?_)
      · exact (decide_eq_true ⟨e, e2, fun z => z e3⟩).symm
      · exact (decide_eq_false (fun z => z.2.2 e3)).symm
      · exact (decide_eq_false (fun z => e2 z.2.1)).symm
    · unfold cSt_can_j20
      rw [if_neg (show ¬ (2 : Int) = 0 by omega), if_neg (show ¬ (2 : Int) = 1 by omega), if_pos rfl, if_pos rfl]
      exact ok_some (decide_eq_false (fun z => e z.1)).symm
  unfold cSt_does
  rw [hcan, Option.bind_some]
  by_cases q : a < P 1 ∧ p < P 0 ∧ ¬ iand (ishr (C 70 a) p) 1 ≠ 0
  · rw [decide_eq_true q, if_pos rfl, if_neg (by omega), if_neg (by omega), if_pos rfl, gd_ok a0 (by omega), gd_ok a0 (by omega)]
    exact ok_some ⟨rfl, (fun h => Bool.noConfusion (show true = false from h)), fun _ => rfl⟩
  · rw [decide_eq_false q, if_neg (by decide)]
    exact ok_some ⟨rfl, fun _ => rfl, (fun h => Bool.noConfusion (show false = true from h))⟩
