theorem mstet_ok {G : Hp} {b a p : Int} {P f N : Int → Int} (hV : PaperV P) (hg : WkM b P f N G) (a0 : 0 ≤ a) (a1 : a ≤ 5) (p0 : 0 ≤ p) :
    ok (mm_does 2 a p G) (fun x => x.1 = decide (a < P 1 ∧ p < P 0 ∧ ¬ iand (ishr (G 209 a) p) 1 = 1) ∧ (x.1 = false → x.2 = G) ∧ (x.1 = true → x.2 = upd2 G 209 a (ior (G 209 a) (ishl 1 p)))) := by
  obtain ⟨m1, m2, m3⟩ := hg
  unfold mm_does mm_stets
  rw [if_neg (show ¬ (2 : Int) = 0 by omega), if_neg (show ¬ (2 : Int) = 1 by omega), if_pos rfl, isReader_ok hV m1, Option.bind_some, isPlace_ok hV m1, Option.bind_some, gd_ok a0 (by omega), gd_ok a0 (by omega), gd_ok a0 (by omega)]
  by_cases q : a < P 1
  · rw [decide_eq_true (show 0 ≤ a ∧ a < P 1 from ⟨a0, q⟩), if_pos rfl]
    by_cases q2 : p < P 0
    · rw [decide_eq_true (show 0 ≤ p ∧ p < P 0 from ⟨p0, q2⟩), if_pos rfl]
      by_cases q3 : iand (ishr (G 209 a) p) 1 = 1
      · rw [if_pos q3, Option.bind_some]
        exact ok_some ⟨(decide_eq_false (fun z => z.2.2 q3)).symm, fun _ => rfl, (fun h => Bool.noConfusion (show false = true from h))⟩
      · rw [if_neg q3, Option.bind_some]
        exact ok_some ⟨(decide_eq_true ⟨q, q2, q3⟩).symm, (fun h => Bool.noConfusion (show true = false from h)), fun _ => rfl⟩
    · rw [decide_eq_false (fun z => q2 z.2), if_neg (by decide), Option.bind_some]
      exact ok_some ⟨(decide_eq_false (fun z => q2 z.2.1)).symm, fun _ => rfl, (fun h => Bool.noConfusion (show false = true from h))⟩
  · rw [decide_eq_false (fun z => q z.2), if_neg (by decide), Option.bind_some]
    exact ok_some ⟨(decide_eq_false (fun z => q z.1)).symm, fun _ => rfl, (fun h => Bool.noConfusion (show false = true from h))⟩
/-- a deed: words come near -/
theorem cjoins_ok {C : Hp} {o a w : Int} {P f N : Int → Int} (ho : o = 7 ∨ o = 22) (hc : WkC o P f N C) (hN : NW N) (a0 : 0 ≤ a) (a1 : a ≤ 9) (w0 : 0 ≤ w) (w1 : w ≤ 9) (aw : a ≠ w) :
    ok (cSt_does 3 a w C) (fun x => x.1 = !(bt (N a) w) ∧ (x.1 = false → x.2 = C) ∧ (x.1 = true → WkC o P f (jon N a w) x.2 ∧ ∀ c j, ¬ (66 ≤ c ∧ c ≤ 69) → x.2 c j = C c j)) := by
  obtain ⟨⟨c1, c2, c3, c4⟩, c5⟩ := hc
  have c4' : ∀ v, 0 ≤ v → v < 10 → C (66 + 1) v = N v := c4
  have hcan : cSt_can 3 a w C = some (!(bt (N a) w)) := by
    apply ok_iff
    have key : ∀ s, ok (cSt_can_j20 3 a w C s) (fun r => r = !(bt (N a) w)) := by
      intro s
      unfold cSt_can_j20
      rw [if_neg (show ¬ (3 : Int) = 0 by omega), if_neg (show ¬ (3 : Int) = 1 by omega), if_neg (show ¬ (3 : Int) = 2 by omega), if_pos rfl, if_neg aw, cnear_ok hN c4' a0 (by omega) w0 (by omega), Option.bind_some]
      cases bt (N a) w with
      | false => exact ok_some rfl
      | true => exact ok_some rfl
    unfold cSt_can
    rw [if_neg (by omega), c1, pg_ok ho]
    exact ok_ite (fun _ => key 1) (fun _ => key 0)
  unfold cSt_does
  rw [hcan, Option.bind_some]
  cases hb : bt (N a) w with
  | true => exact ok_some ⟨rfl, fun _ => rfl, (fun h => Bool.noConfusion (show false = true from h))⟩
  | false =>
    rw [show (!false) = true from rfl, if_pos rfl, if_neg (show ¬ (3 : Int) = 0 by omega), if_neg (show ¬ (3 : Int) = 1 by omega), if_neg (show ¬ (3 : Int) = 2 by omega), if_pos rfl]
    refine ok_then (cjoin_ok hN c4' a0 (by omega) w0 (by omega) aw) fun G' h => ?_
    obtain ⟨h1, h2, h3⟩ := h
    have fr : ∀ c j, ¬ (66 ≤ c ∧ c ≤ 69) → G' c j = C c j := fun c j q => h3 c j (by omega) (by omega)
    refine ok_some ⟨rfl, (fun h => Bool.noConfusion (show true = false from h)), fun _ => ⟨⟨⟨?_, ?_, h1, h2⟩, c5.fr fun c j u v => fr c j (by omega)⟩, fr⟩⟩
    · show G' 57 0 = o
      rw [fr _ _ (by omega)]; exact c1
    · show PK (G' 57 2) f
      rw [fr _ _ (by omega)]; exact c2
/-- a deed: words part -/
theorem cparts_ok {C : Hp} {o a w : Int} {P f N : Int → Int} (ho : o = 7 ∨ o = 22) (hc : WkC o P f N C) (hN : NW N) (a0 : 0 ≤ a) (a1 : a ≤ 9) (w0 : 0 ≤ w) (w1 : w ≤ 9) (aw : a ≠ w) :
    ok (cSt_does 4 a w C) (fun x => x.1 = bt (N a) w ∧ (x.1 = false → x.2 = C) ∧ (x.1 = true → WkC o P f (prt N a w) x.2 ∧ ∀ c j, ¬ (66 ≤ c ∧ c ≤ 69) → x.2 c j = C c j)) := by
  obtain ⟨⟨c1, c2, c3, c4⟩, c5⟩ := hc
  have c4' : ∀ v, 0 ≤ v → v < 10 → C (66 + 1) v = N v := c4
  have hcan : cSt_can 4 a w C = some (bt (N a) w) := by
    apply ok_iff
    have key : ∀ s, ok (cSt_can_j20 4 a w C s) (fun r => r = bt (N a) w) := by
      intro s
      unfold cSt_can_j20
      rw [if_neg (show ¬ (4 : Int) = 0 by omega), if_neg (show ¬ (4 : Int) = 1 by omega), if_neg (show ¬ (4 : Int) = 2 by omega), if_neg (show ¬ (4 : Int) = 3 by omega), if_pos rfl, cnear_ok hN c4' a0 (by omega) w0 (by omega), Option.bind_some]
      exact ok_some rfl
    unfold cSt_can
    rw [if_neg (by omega), c1, pg_ok ho]
    exact ok_ite (fun _ => key 1) (fun _ => key 0)
  unfold cSt_does
  rw [hcan, Option.bind_some]
  cases hb : bt (N a) w with
  | false => exact ok_some ⟨rfl, fun _ => rfl, (fun h => Bool.noConfusion (show false = true from h))⟩
  | true =>
    rw [if_pos rfl, if_neg (show ¬ (4 : Int) = 0 by omega), if_neg (show ¬ (4 : Int) = 1 by omega), if_neg (show ¬ (4 : Int) = 2 by omega), if_neg (show ¬ (4 : Int) = 3 by omega), if_pos rfl]
    refine ok_then (cpart_ok hN c4' a0 (by omega) w0 (by omega) aw) fun G' h => ?_
    obtain ⟨h1, h2, h3⟩ := h
    have fr : ∀ c j, ¬ (66 ≤ c ∧ c ≤ 69) → G' c j = C c j := fun c j q => h3 c j (by omega) (by omega)
    refine ok_some ⟨rfl, (fun h => Bool.noConfusion (show true = false from h)), fun _ => ⟨⟨⟨?_, ?_, h1, h2⟩, c5.fr fun c j u v => fr c j (by omega)⟩, fr⟩⟩
    · show G' 57 0 = o
      rw [fr _ _ (by omega)]; exact c1
    · show PK (G' 57 2) f
      rw [fr _ _ (by omega)]; exact c2
/-- the model's: come near, part -/
theorem mnear_ok {G : Hp} {b a w k : Int} {P f N : Int → Int} (hg : WkM b P f N G) (hk : k = 3 ∨ k = 4) (a0 : 0 ≤ a) (a1 : a ≤ 9) (w0 : 0 ≤ w) (w1 : w ≤ 9) (aw : a ≠ w) :
    ok (mm_does k a w G) (fun x => x.1 = (if k = 3 then !(bt (N a) w) else bt (N a) w) ∧ (x.1 = false → x.2 = G) ∧ (x.1 = true → WkM b P f (jpN N a w (if k = 3 then 1 else 0)) x.2 ∧ ∀ c j, c ≠ 205 → c ≠ 206 → x.2 c j = G c j)) := by
  obtain ⟨m1, m2, m3⟩ := hg
  have hn := near_ok m2 a0 (show a < 10 by omega) w0 (show w < 10 by omega)
  have go : ∀ is : Int, ok (mm_joins a w is G) (fun G' => WkM b P f (jpN N a w is) G' ∧ ∀ c j, c ≠ 205 → c ≠ 206 → G' c j = G c j) := fun is => ok_mono (mjoins_ok m2 a0 (by omega) w0 (by omega) aw) fun G' h => ⟨⟨m1.fr (fun j _ => h.2 _ _ (by omega) (by omega)) (fun j => h.2 _ _ (by omega) (by omega)), h.1, fun p p0 p1 => by rw [h.2 _ _ (by omega) (by omega)]; exact m3 p p0 p1⟩, h.2⟩
  unfold mm_does mm_does_j56 mm_does_j69 mm_joinsWords
  rcases hk with rfl | rfl
  · rw [if_neg (show ¬ (3 : Int) = 0 by omega), if_neg (show ¬ (3 : Int) = 1 by omega), if_neg (show ¬ (3 : Int) = 2 by omega), if_pos rfl, if_pos rfl, if_pos rfl, if_pos rfl, hn, Option.bind_some]
    cases hb : bt (N a) w with
    | true => exact ok_some ⟨rfl, fun _ => rfl, (fun h => Bool.noConfusion (show false = true from h))⟩
    | false =>
      rw [if_neg (show ¬ b2i false = 1 by decide)]
      refine ok_then (ok_then (go 1) fun G' h => ok_some (r := (true, G')) (Q := fun y => y.1 = true ∧ WkM b P f (jpN N a w 1) y.2 ∧ ∀ c j, c ≠ 205 → c ≠ 206 → y.2 c j = G c j) ⟨rfl, h⟩) fun y hy => ok_some ⟨hy.1, fun h => ?_, fun _ => hy.2⟩
      have h' : y.1 = false := h
      rw [hy.1] at h'
      cases h'
  · rw [if_neg (show ¬ (4 : Int) = 0 by omega), if_neg (show ¬ (4 : Int) = 1 by omega), if_neg (show ¬ (4 : Int) = 2 by omega), if_neg (show ¬ (4 : Int) = 3 by omega), if_pos rfl, if_neg (show ¬ (4 : Int) = 3 by omega), if_neg (show ¬ (4 : Int) = 3 by omega), if_neg (show ¬ (4 : Int) = 3 by omega), hn, Option.bind_some]
    cases hb : bt (N a) w with
    | false => exact ok_some ⟨rfl, fun _ => rfl, (fun h => Bool.noConfusion (show false = true from h))⟩
    | true =>
      rw [if_neg (show ¬ b2i true = 0 by decide)]
      refine ok_then (ok_then (go 0) fun G' h => ok_some (r := (true, G')) (Q := fun y => y.1 = true ∧ WkM b P f (jpN N a w 0) y.2 ∧ ∀ c j, c ≠ 205 → c ≠ 206 → y.2 c j = G c j) ⟨rfl, h⟩) fun y hy => ok_some ⟨hy.1, fun h => ?_, fun _ => hy.2⟩
      have h' : y.1 = false := h
      rw [hy.1] at h'
      cases h'
