-- the model: a paper, a week, a log in hand
theorem bproof_ok {P : Int → Int} {b : Int} {G : Hp} (h : MS P b G) :
    ok (mm_beginsProof G) (fun G' => (∀ p, 0 ≤ p → p < 8 → G' 207 p = P (2 + p) ∧ G' 211 p = -1) ∧ (∀ r, 0 ≤ r → r < 6 → G' 209 r = 0 ∧ G' 210 r = 0) ∧ G' 201 17 = 0 ∧ ∀ a j, a ≠ 207 → a ≠ 209 → a ≠ 210 → a ≠ 211 → ¬ (a = 201 ∧ j = 17) → G' a j = G a j) := by
  unfold mm_beginsProof
  refine lp_up (fun n i (s : Hp) => mm_beginsProof_L7 (fun G_37 => mm_beginsProof_L39 FU 0 G_37) n i s) 8 (fun i G1 => (∀ p, 0 ≤ p → p < i → G1 207 p = P (2 + p) ∧ G1 211 p = -1) ∧ G1 201 17 = 0 ∧ ∀ a j, a ≠ 207 → a ≠ 211 → ¬ (a = 201 ∧ j = 17) → G1 a j = G a j) ?_ ?_ (by omega) (by omega) (by omega) ⟨fun p p0 p1 => by omega, upd2_s, fun a j _ _ h => upd2_o h⟩
  · intro n i G1 i0 i1 hI ih
    obtain ⟨h1, h2, h3⟩ := hI
    have hM1 : MS P b G1 := h.fr (fun j hj => h3 _ _ (by omega) (by omega) (by omega)) (fun j => h3 _ _ (by omega) (by omega) (by omega))
    show ok (mm_beginsProof_L7 _ (n + 1) i G1) _
    rw [mm_beginsProof_L7, if_pos i1, told0_ok hM1 i0 i1, Option.bind_some, gd_ok i0 i1, gd_ok i0 i1, w32_id (by omega) (by omega)]
    refine ih _ ⟨fun p p0 p1 => ?_, ?_, fun a j a1 a2 a3 => ?_⟩
    · by_cases hp : p = i
      · subst hp
        rw [upd2_o (by omega), upd2_e rfl rfl, upd2_e rfl rfl]
        exact ⟨rfl, rfl⟩
      · rw [upd2_o (by omega), upd2_o (by omega), upd2_o (by omega), upd2_o (by omega)]
        exact h1 p p0 (by omega)
    · rw [upd2_o (by omega), upd2_o (by omega)]
      exact h2
    · rw [upd2_o (by omega), upd2_o (by omega)]
      exact h3 a j a1 a2 a3
  · intro n G1 hI
    obtain ⟨h1, h2, h3⟩ := hI
    show ok (mm_beginsProof_L7 _ (n + 1) 8 G1) _
    rw [mm_beginsProof_L7, if_neg (by omega)]
    refine lp_up (fun n i (s : Hp) => mm_beginsProof_L39 n i s) 6 (fun i G2 => (∀ r, 0 ≤ r → r < i → G2 209 r = 0 ∧ G2 210 r = 0) ∧ ∀ a j, a ≠ 209 → a ≠ 210 → G2 a j = G1 a j) ?_ ?_ (by omega) (by omega) (by omega) ⟨fun r r0 r1 => by omega, fun _ _ _ _ => rfl⟩
    · intro n i G2 i0 i1 hI ih
      obtain ⟨g1, g2⟩ := hI
      show ok (mm_beginsProof_L39 (n + 1) i G2) _
      rw [mm_beginsProof_L39, if_pos i1, gd_ok i0 i1, gd_ok i0 i1, w32_id (by omega) (by omega)]
      refine ih _ ⟨fun p p0 p1 => ?_, fun a j a1 a2 => ?_⟩
      · by_cases hp : p = i
        · subst hp
          rw [upd2_o (by omega), upd2_e rfl rfl, upd2_e rfl rfl]
          exact ⟨rfl, rfl⟩
        · rw [upd2_o (by omega), upd2_o (by omega), upd2_o (by omega), upd2_o (by omega)]
          exact g1 p p0 (by omega)
      · rw [upd2_o (by omega), upd2_o (by omega)]
        exact g2 a j a1 a2
    · intro n G2 hI
      obtain ⟨g1, g2⟩ := hI
      show ok (mm_beginsProof_L39 (n + 1) 6 G2) _
      rw [mm_beginsProof_L39, if_neg (by omega)]
      refine ok_some ⟨fun p p0 p1 => ?_, g1, ?_, fun a j a1 a2 a3 a4 a5 => ?_⟩
      · rw [g2 _ _ (by omega) (by omega), g2 _ _ (by omega) (by omega)]
        exact h1 p p0 p1
      · rw [g2 _ _ (by omega) (by omega)]
        exact h2
      · rw [g2 _ _ a2 a3]
        exact h3 a j a1 a4 a5
/-- a paper as told, begun -/
def M0 (P : Int → Int) (b : Int) (G : Hp) : Prop := MS P b G ∧ MN (sl P 10) G ∧ (∀ p, 0 ≤ p → p < 8 → G 207 p = P (2 + p) ∧ G 208 p = 10 ∧ G 211 p = -1) ∧ (∀ r, 0 ≤ r → r < 6 → G 209 r = 0 ∧ G 210 r = 0) ∧ G 201 17 = 0 ∧ G 201 18 = 0 ∧ G 201 19 = 0 ∧ G 201 20 = 0 ∧ G 201 21 = 0 ∧ G 201 22 = -1
theorem begins_ok {P : Int → Int} {b : Int} {G : Hp} (hV : PaperV P) (h : MS P b G) :
    ok (mm_begins G) (fun G' => M0 P b G' ∧ ∀ j, G' 202 j = G 202 j ∧ G' 203 j = G 203 j) := by
  unfold mm_begins
  refine ok_then (bproof_ok h) fun G1 hG1 => ?_
  obtain ⟨h1, h2, h3, h4⟩ := hG1
  have hM1 : MS P b G1 := h.fr (fun j hj => h4 _ _ (by omega) (by omega) (by omega) (by omega) (by omega)) (fun j => h4 _ _ (by omega) (by omega) (by omega) (by omega) (by omega))
  generalize hS : upd2 (upd2 (upd2 (upd2 (upd2 G1 201 18 0) 201 19 0) 201 20 0) 201 21 0) 201 22 (-1) = S
  have s18 : S 201 18 = 0 := by rw [← hS, upd2_o (by omega), upd2_o (by omega), upd2_o (by omega), upd2_o (by omega), upd2_s]
  have s19 : S 201 19 = 0 := by rw [← hS, upd2_o (by omega), upd2_o (by omega), upd2_o (by omega), upd2_s]
  have s20 : S 201 20 = 0 := by rw [← hS, upd2_o (by omega), upd2_o (by omega), upd2_s]
  have s21 : S 201 21 = 0 := by rw [← hS, upd2_o (by omega), upd2_s]
  have s22 : S 201 22 = -1 := by rw [← hS, upd2_s]
  have so : ∀ a j, ¬ (a = 201 ∧ 18 ≤ j ∧ j ≤ 22) → S a j = G1 a j := fun a j q => by
    rw [← hS, upd2_o (by omega), upd2_o (by omega), upd2_o (by omega), upd2_o (by omega), upd2_o (by omega)]
  refine lp_up (fun n i (s : Hp) => mm_begins_L31 (fun G_51 => mm_begins_L53 (fun G_85 => (mm_laysSteps G_85).bind fun G86 => some G86) FU 0 G_51) n i s) 8 (fun i G2 => (∀ p, 0 ≤ p → p < i → G2 208 p = 10) ∧ ∀ a j, a ≠ 208 → G2 a j = S a j) ?_ ?_ (by omega) (by omega) (by omega) ⟨fun p p0 p1 => by omega, fun _ _ _ => rfl⟩
  · intro n i G2 i0 i1 hI ih
    obtain ⟨g1, g2⟩ := hI
    show ok (mm_begins_L31 _ (n + 1) i G2) _
    rw [mm_begins_L31, if_pos i1, gd_ok i0 i1, w32_id (by omega) (by omega)]
    refine ih _ ⟨fun p p0 p1 => ?_, fun a j a1 => ?_⟩
    · by_cases hp : p = i
      · subst hp
        rw [upd2_e rfl rfl]
      · rw [upd2_o (by omega)]
        exact g1 p p0 (by omega)
    · rw [upd2_o (by omega)]
      exact g2 a j a1
  · intro n G2 hI
    obtain ⟨g1, g2⟩ := hI
    show ok (mm_begins_L31 _ (n + 1) 8 G2) _
    rw [mm_begins_L31, if_neg (by omega)]
    have hM2 : MS P b G2 := hM1.fr (fun j hj => by rw [g2 _ _ (by omega), so _ _ (by omega)]) (fun j => by rw [g2 _ _ (by omega), so _ _ (by omega)])
    refine lp_up (fun n i (s : Hp) => mm_begins_L53 (fun G_85 => (mm_laysSteps G_85).bind fun G86 => some G86) n i s) 10 (fun i G3 => (∀ w, 0 ≤ w → w < i → G3 205 w = P (10 + w)) ∧ ∀ a j, a ≠ 205 → G3 a j = G2 a j) ?_ ?_ (by omega) (by omega) (by omega) ⟨fun p p0 p1 => by omega, fun _ _ _ => rfl⟩
    · intro n i G3 i0 i1 hI ih
      obtain ⟨f1, f2⟩ := hI
      have hM3 : MS P b G3 := hM2.fr (fun j hj => f2 _ _ (by omega)) (fun j => f2 _ _ (by omega))
      obtain ⟨⟨a1, a2, a3⟩, a4, a5, a6⟩ := hM3
      show ok (mm_begins_L53 _ (n + 1) i G3) _
      rw [mm_begins_L53, if_pos i1, a1]
      simp (disch := omega) only [w32_id]
      refine ok_gd (by omega) (by omega) (ok_gd i0 i1 (ih _ ⟨fun p p0 p1 => ?_, fun a j a1 => ?_⟩))
      · by_cases hp : p = i
        · subst hp
          rw [upd2_e rfl rfl, Int.add_assoc, a4 _ (by omega) (by omega)]
        · rw [upd2_o (by omega)]
          exact f1 p p0 (by omega)
      · rw [upd2_o (by omega)]
        exact f2 a j a1
    · intro n G3 hI
      obtain ⟨f1, f2⟩ := hI
      show ok (mm_begins_L53 _ (n + 1) 10 G3) _
      rw [mm_begins_L53, if_neg (by omega)]
      refine ok_then (lays_ok (N := sl P 10) hV.2.2.2.1 (fun w w0 w1 => f1 w w0 w1)) fun G4 hG4 => ok_some ?_
      obtain ⟨e1, e2⟩ := hG4
      have tr : ∀ a j, a ≠ 205 → a ≠ 206 → a ≠ 208 → G4 a j = S a j := fun a j x y z => by rw [e1 _ _ y, f2 _ _ x, g2 _ _ z]
      have tr2 : ∀ a j, a ≠ 205 → a ≠ 206 → a ≠ 208 → ¬ (a = 201 ∧ 18 ≤ j ∧ j ≤ 22) → G4 a j = G1 a j := fun a j x y z q => by rw [tr _ _ x y z, so _ _ q]
      refine ⟨⟨hM1.fr (fun j hj => tr2 _ _ (by omega) (by omega) (by omega) (by omega)) (fun j => tr2 _ _ (by omega) (by omega) (by omega) (by omega)), ⟨hV.2.2.2.1, fun w w0 w1 => ?_, e2⟩, fun p p0 p1 => ⟨?_, ?_, ?_⟩, fun r r0 r1 => ?_, ?_, ?_, ?_, ?_, ?_, ?_⟩, fun j => ⟨?_, ?_⟩⟩
      · rw [e1 _ _ (by omega)]
        exact f1 w w0 w1
      · rw [tr2 _ _ (by omega) (by omega) (by omega) (by omega)]
        exact (h1 p p0 p1).1
      · rw [e1 _ _ (by omega), f2 _ _ (by omega)]
        exact g1 p p0 p1
      · rw [tr2 _ _ (by omega) (by omega) (by omega) (by omega)]
        exact (h1 p p0 p1).2
      · rw [tr2 _ _ (by omega) (by omega) (by omega) (by omega), tr2 _ _ (by omega) (by omega) (by omega) (by omega)]
        exact h2 r r0 r1
      · rw [tr2 _ _ (by omega) (by omega) (by omega) (by omega)]
        exact h3
      · rw [tr _ _ (by omega) (by omega) (by omega)]
        exact s18
      · rw [tr _ _ (by omega) (by omega) (by omega)]
        exact s19
      · rw [tr _ _ (by omega) (by omega) (by omega)]
        exact s20
      · rw [tr _ _ (by omega) (by omega) (by omega)]
        exact s21
      · rw [tr _ _ (by omega) (by omega) (by omega)]
        exact s22
      · rw [tr2 _ _ (by omega) (by omega) (by omega) (by omega)]
        exact h4 _ _ (by omega) (by omega) (by omega) (by omega) (by omega)
      · rw [tr2 _ _ (by omega) (by omega) (by omega) (by omega)]
        exact h4 _ _ (by omega) (by omega) (by omega) (by omega) (by omega)
theorem isOf_ok {s k : Int} {G : Hp} (s0 : 0 ≤ s) (s1 : s < 3) (h0 : 0 ≤ G 202 s) (h1 : G 202 s ≤ 2) : mm_isOf s k G = some (decide (0 ≤ k ∧ k < G 202 s)) := by
  unfold mm_isOf
  rw [gd_ok s0 (by omega), w32_id (by omega) (by omega), isIn_eq]
  congr 1
  exact decide_eq_decide.mpr (by omega)
/-- the model's row as it should be -/
def AV0 (A : Int → Int) : Prop := (∀ s, 0 ≤ s → s < 3 → 0 ≤ A s ∧ A s ≤ 2) ∧ PaperV (ct 80 A 610) ∧ PaperV (ct 80 A 690) ∧ WeekV (ct 121 A 770) ∧ WeekV (ct 121 A 891) ∧ LogV (ct 17 A 1012) ∧ LogV (ct 17 A 1029)
def pb (k : Int) : Int := 610 + 80 * k
theorem AV0.paper {A : Int → Int} (h : AV0 A) {k : Int} (k0 : 0 ≤ k) (k1 : k < A 0) : PaperV (ct 80 A (pb k)) := by
  have h2 := (h.1 0 (by omega) (by omega)).2
  have : k = 0 ∨ k = 1 := by omega
  rcases this with rfl | rfl
  · exact h.2.1
  · exact h.2.2.1
theorem isPaper_no {k : Int} {G : Hp} (hA : AV0 (G 202)) (hk : ¬ (0 ≤ k ∧ k < G 202 0)) : mm_isPaper k G = some (false, G) := by
  unfold mm_isPaper
  have h0 := hA.1 0 (by omega) (by omega)
  rw [isOf_ok (by omega) (by omega) h0.1 h0.2, decide_eq_false hk, Option.bind_some, if_neg (by decide)]
theorem isPaper_yes {k : Int} {G : Hp} (hA : AV0 (G 202)) (k0 : 0 ≤ k) (k1 : k < G 202 0) : ok (mm_isPaper k G) (fun r => r.1 = true ∧ M0 (ct 80 (G 202) (pb k)) (pb k) r.2 ∧ r.2 202 = G 202 ∧ r.2 203 = G 203) := by
  have h0 := hA.1 0 (by omega) (by omega)
  have hV := hA.paper k0 k1
  unfold mm_isPaper
  rw [isOf_ok (by omega) (by omega) h0.1 h0.2, decide_eq_true ⟨k0, k1⟩, Option.bind_some, if_pos rfl]
  have hpl : mm_placeOf 0 k = pb k := by
    unfold mm_placeOf pb
    rw [if_pos rfl]
    simp (disch := omega) only [w32_id]
  rw [hpl]
  have hb : 610 ≤ pb k ∧ pb k ≤ 690 := by unfold pb; omega
  have e1 : (upd2 G 201 12 (pb k)) 201 12 = pb k := upd2_s
  have e2 : (upd2 G 201 12 (pb k)) 202 (pb k) = G 202 (pb k) := upd2_o (by omega)
  rw [e1, e2]
  have e3 : (upd2 (upd2 G 201 12 (pb k)) 201 13 (G 202 (pb k))) 201 12 = pb k := by rw [upd2_o (by omega), upd2_s]
  rw [e3, w32_id (by omega) (by omega)]
  have e4 : (upd2 (upd2 G 201 12 (pb k)) 201 13 (G 202 (pb k))) 202 (pb k + 1) = G 202 (pb k + 1) := by rw [upd2_o (by omega), upd2_o (by omega)]
  rw [e4, gd_ok (by omega) (by omega), gd_ok (by omega) (by omega)]
  generalize hS : upd2 (upd2 (upd2 G 201 12 (pb k)) 201 13 (G 202 (pb k))) 201 14 (G 202 (pb k + 1)) = S
  have so : ∀ a j, a ≠ 201 → S a j = G a j := fun a j q => by rw [← hS, upd2_o (by omega), upd2_o (by omega), upd2_o (by omega)]
  have hMS : MS (ct 80 (G 202) (pb k)) (pb k) S := by
    refine ⟨⟨?_, ?_, ?_⟩, fun j j0 j1 => by rw [ct_at j0 j1]; exact so _ _ (by omega), hb⟩
    · rw [← hS, upd2_o (by omega), upd2_o (by omega), upd2_s]
    · rw [← hS, upd2_o (by omega), upd2_s, ct_at (by omega) (by omega), Int.add_zero]
    · rw [← hS, upd2_s, ct_at (by omega) (by omega)]
  refine ok_then (begins_ok hV hMS) fun G' hG' => ok_some ⟨rfl, hG'.1, funext fun j => ?_, funext fun j => ?_⟩
  · show G' 202 j = _
    rw [(hG'.2 j).1, so _ _ (by omega)]
  · show G' 203 j = _
    rw [(hG'.2 j).2, so _ _ (by omega)]
