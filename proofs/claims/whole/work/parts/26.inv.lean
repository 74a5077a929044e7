-- what is told, on both sides
theorem rch_congr {N N' : Int → Int} {a : Int} (h : ∀ w, 0 ≤ w → w < 10 → N w = N' w) : ∀ (n : Nat) (w : Int), rch N a n w = rch N' a n w
  | 0, _ => rfl
  | n + 1, w => by
    show (rch N a n w || anyB (fun v => rch N a n v && bt (N v) w) 10) = (rch N' a n w || anyB (fun v => rch N' a n v && bt (N' v) w) 10)
    rw [rch_congr h n w, anyB_congr (g := fun v => rch N' a n v && bt (N' v) w) (fun j j0 j1 => by rw [rch_congr h n j, h j j0 (by omega)])]
theorem dst_congr {N N' : Int → Int} (h : ∀ w, 0 ≤ w → w < 10 → N w = N' w) (a w : Int) : dst N a w = dst N' a w := fstB_congr fun _ _ _ => rch_congr h _ _
theorem tw_congr {N N' : Int → Int} (h : ∀ w, 0 ≤ w → w < 10 → N w = N' w) {f t : Int} (f0 : 0 ≤ f) (f1 : f < 10) : tw N f t = tw N' f t := by
  unfold tw
  rw [dst_congr h, h f f0 f1]
  congr 1
  exact fstB_congr fun j _ _ => by rw [dst_congr h]
theorem NW_congr {N N' : Int → Int} (h : ∀ w, 0 ≤ w → w < 10 → N w = N' w) (hN : NW N) : NW N' :=
  ⟨fun w w0 w1 => by rw [← h w w0 w1]; exact hN.1 w w0 w1, fun v w v0 v1 w0 w1 => by rw [← h v v0 v1, ← h w w0 w1]; exact hN.2.1 v w v0 v1 w0 w1, fun w w0 w1 => by rw [← h w w0 w1]; exact hN.2.2 w w0 w1⟩
def tw2 (N : Int → Int) (f t : Int) : Int := if 0 ≤ f ∧ f < 10 ∧ 0 ≤ t ∧ t < 10 then tw N f t else -1
def dst2 (N : Int → Int) (f t : Int) : Int := if 0 ≤ f ∧ f < 10 ∧ 0 ≤ t ∧ t < 10 then dst N f t else -1
theorem tw_step {N : Int → Int} {f t : Int} (h : tw N f t ≠ -1) : 0 ≤ tw N f t ∧ tw N f t < 10 ∧ dst N (tw N f t) t = dst N f t - 1 ∧ 1 ≤ dst N f t ∧ bt (N f) (tw N f t) = true := by
  unfold tw at h ⊢
  by_cases q : dst N f t < 1
  · rw [if_pos q] at h
    exact absurd rfl h
  · rw [if_neg q] at h ⊢
    rcases fstB_cases (fun w => bt (N f) w && decide (dst N w t = dst N f t - 1)) 10 with ⟨a, -⟩ | ⟨a, b, c, -⟩
    · exact absurd a h
    · simp only [Bool.and_eq_true, decide_eq_true_eq] at c
      exact ⟨a, by omega, c.2, by omega, c.1⟩
theorem tw2_step {N : Int → Int} {f t : Int} (h : tw2 N f t ≠ -1) : 0 ≤ tw2 N f t ∧ tw2 N f t < 10 ∧ tw2 N f t ≠ f ∧ dst N (tw2 N f t) t = dst N f t - 1 ∧ 1 ≤ dst N f t ∧ 0 ≤ t ∧ t < 10 := by
  unfold tw2 at h ⊢
  by_cases q : 0 ≤ f ∧ f < 10 ∧ 0 ≤ t ∧ t < 10
  · rw [if_pos q] at h ⊢
    have := tw_step h
    refine ⟨this.1, this.2.1, fun e => ?_, this.2.2.1, this.2.2.2.1, q.2.2.1, q.2.2.2⟩
    have h3 := this.2.2.1
    rw [e] at h3
    omega
  · rw [if_neg q] at h
    exact absurd rfl h
theorem tw2_r (N : Int → Int) (f t : Int) : -1 ≤ tw2 N f t ∧ tw2 N f t < 10 := by
  by_cases h : tw2 N f t = -1
  · omega
  · have := tw2_step h
    omega
theorem tw2_10 (N : Int → Int) (f : Int) : tw2 N f 10 = -1 := by
  unfold tw2
  rw [if_neg (by omega)]
theorem tw2_congr {N N' : Int → Int} (h : ∀ w, 0 ≤ w → w < 10 → N w = N' w) (f t : Int) : tw2 N f t = tw2 N' f t := by
  unfold tw2
  by_cases q : 0 ≤ f ∧ f < 10 ∧ 0 ≤ t ∧ t < 10
  · rw [if_pos q, if_pos q, tw_congr h q.1 q.2.1]
  · rw [if_neg q, if_neg q]
theorem dst2_congr {N N' : Int → Int} (h : ∀ w, 0 ≤ w → w < 10 → N w = N' w) (f t : Int) : dst2 N f t = dst2 N' f t := by
  unfold dst2
  rw [dst_congr h]
/-- cells from one place on -/
def sl (A : Int → Int) (b : Int) : Int → Int := fun k => A (b + k)
/-- n cells from one place on -/
def ct (n : Int) (A : Int → Int) (b : Int) : Int → Int := fun k => if 0 ≤ k ∧ k < n then A (b + k) else 0
theorem ct_at {n b k : Int} {A : Int → Int} (h0 : 0 ≤ k) (h1 : k < n) : ct n A b k = A (b + k) := if_pos ⟨h0, h1⟩
theorem ct_eq {n b b' : Int} {A A' : Int → Int} (h : ∀ k, 0 ≤ k → k < n → A' (b' + k) = A (b + k)) : ct n A' b' = ct n A b := by
  funext k
  unfold ct
  by_cases q : 0 ≤ k ∧ k < n
  · rw [if_pos q, if_pos q, h k q.1 q.2]
  · rw [if_neg q, if_neg q]
/-- a proof in one number, and as words -/
def PK (q : Int) (f : Int → Int) : Prop := r32 q ∧ ∀ p, 0 ≤ p → p < 8 → cX_wordAt q p = f p
def PV (f : Int → Int) : Prop := ∀ p, 0 ≤ p → p < 8 → 0 ≤ f p ∧ f p < 10
def PaperV (P : Int → Int) : Prop := (0 ≤ P 0 ∧ P 0 ≤ 8) ∧ (0 ≤ P 1 ∧ P 1 ≤ 6) ∧ (PV (sl P 2) ∧ ∀ p, P 0 ≤ p → p < 8 → P (2 + p) = 0) ∧ NW (sl P 10) ∧ (∀ r, 0 ≤ r → r < 6 → 0 ≤ P (20 + 2 * r) ∧ P (20 + 2 * r) ≤ 9 ∧ 0 ≤ P (21 + 2 * r) ∧ P (21 + 2 * r) ≤ 9) ∧ ∀ r p, 0 ≤ r → r < 6 → 0 ≤ p → p < 8 → 0 ≤ P (32 + 8 * r + p) ∧ P (32 + 8 * r + p) ≤ 10
def PaperC (G : Hp) (o : Int) (P : Int → Int) : Prop := (G o 1 = P 0 ∧ G o 2 = P 1) ∧ PK (G o 0) (sl P 2) ∧ NetOK G (o + 1) ∧ (∀ w, 0 ≤ w → w < 10 → G (o + 2) w = P (10 + w)) ∧ (∀ r, 0 ≤ r → r < P 1 → G (o + 5) r = P (20 + 2 * r) ∧ G (o + 6) r = P (21 + 2 * r)) ∧ ∀ r p, 0 ≤ r → r < 6 → 0 ≤ p → p < 8 → G (o + 7) (8 * r + p) = P (32 + 8 * r + p)
def DeedV (c a b : Int) : Prop := (c = 0 ∧ 0 ≤ a ∧ a ≤ 5 ∧ b = -1) ∨ (c = 1 ∧ 0 ≤ a ∧ a ≤ 7 ∧ 0 ≤ b ∧ b ≤ 9) ∨ (c = 2 ∧ 0 ≤ a ∧ a ≤ 5 ∧ 0 ≤ b ∧ b ≤ 7) ∨ ((c = 3 ∨ c = 4) ∧ 0 ≤ a ∧ a ≤ 9 ∧ 0 ≤ b ∧ b ≤ 9 ∧ a ≠ b) ∨ (c = 5 ∧ a = -1 ∧ b = -1)
def WeekV (P : Int → Int) : Prop := (0 ≤ P 0 ∧ P 0 ≤ 40) ∧ ∀ k, 0 ≤ k → k < P 0 → DeedV (P (1 + 3 * k)) (P (2 + 3 * k)) (P (3 + 3 * k))
def WeekC (G : Hp) (o : Int) (P : Int → Int) : Prop := G o 0 = P 0 ∧ ∀ k, 0 ≤ k → k < P 0 → G (o + 1) k = P (1 + 3 * k) ∧ G (o + 2) k = P (2 + 3 * k) ∧ G (o + 3) k = P (3 + 3 * k)
def LogV (P : Int → Int) : Prop := (0 ≤ P 0 ∧ P 0 ≤ 8) ∧ ∀ k, 0 ≤ k → k < P 0 → 0 ≤ P (1 + 2 * k) ∧ P (1 + 2 * k) ≤ 7 ∧ 0 ≤ P (2 + 2 * k) ∧ P (2 + 2 * k) ≤ 9
def LogC (G : Hp) (o : Int) (P : Int → Int) : Prop := G o 0 = P 0 ∧ ∀ k, 0 ≤ k → k < P 0 → G (o + 1) k = P (1 + 2 * k) ∧ G (o + 2) k = P (2 + 2 * k)
/-- all that is told: the tape, how many, papers, weeks, logs -/
def TapeC (G : Hp) (t : Int) (A : Int → Int) (b : Int) : Prop := (∀ j, 0 ≤ j → j < 600 → G (t + 1) j = w8 (A (b + 10 + j)) ∧ 0 ≤ A (b + 10 + j) ∧ A (b + 10 + j) ≤ 255) ∧ (G t 1 = A (b + 4) ∧ 0 ≤ A (b + 4) ∧ A (b + 4) ≤ 600) ∧ (G t 2 = A (b + 5) ∧ G t 3 = A (b + 6)) ∧ ∀ s, 0 ≤ s → s < 3 → G (t + 2) s = A (b + s) ∧ 0 ≤ A (b + s) ∧ A (b + s) ≤ 2
def TextsC (G : Hp) (t : Int) (A : Int → Int) (b : Int) : Prop :=
  (PaperV (ct 80 A (b + 610)) ∧ PaperC G (t + 6) (ct 80 A (b + 610))) ∧ (PaperV (ct 80 A (b + 690)) ∧ PaperC G (t + 21) (ct 80 A (b + 690))) ∧ (WeekV (ct 121 A (b + 770)) ∧ WeekC G (t + 14) (ct 121 A (b + 770))) ∧ (WeekV (ct 121 A (b + 891)) ∧ WeekC G (t + 29) (ct 121 A (b + 891))) ∧ (LogV (ct 17 A (b + 1012)) ∧ LogC G (t + 18) (ct 17 A (b + 1012))) ∧ (LogV (ct 17 A (b + 1029)) ∧ LogC G (t + 33) (ct 17 A (b + 1029)))
def ToldC (G : Hp) (t : Int) (A : Int → Int) (b : Int) : Prop := TapeC G t A b ∧ TextsC G t A b
-- what stays
theorem NetOK.fr {G G' : Hp} {o : Int} (h : NetOK G o) (hf : ∀ a j, o ≤ a → a ≤ o + 3 → G' a j = G a j) : NetOK G' o := by
  have e1 : G' (o + 1) = G (o + 1) := funext fun j => hf _ j (by omega) (by omega)
  have e2 : G' (o + 2) = G (o + 2) := funext fun j => hf _ j (by omega) (by omega)
  have e3 : G' (o + 3) = G (o + 3) := funext fun j => hf _ j (by omega) (by omega)
  have e4 : G' o 3 = G o 3 := hf _ _ (by omega) (by omega)
  unfold NetOK
  rw [e1, e2, e3, e4]
  exact h
theorem PaperC.fr {G G' : Hp} {o : Int} {P : Int → Int} (h : PaperC G o P) (hf : ∀ a j, o ≤ a → a ≤ o + 7 → G' a j = G a j) : PaperC G' o P := by
  obtain ⟨⟨h1, h2⟩, h3, h4, h5, h6, h7⟩ := h
  refine ⟨⟨?_, ?_⟩, ?_, ?_, ?_, ?_, ?_⟩
  · rw [hf _ _ (by omega) (by omega)]; exact h1
  · rw [hf _ _ (by omega) (by omega)]; exact h2
  · rw [hf _ _ (by omega) (by omega)]; exact h3
  · exact h4.fr fun a j x y => hf a j (by omega) (by omega)
  · intro w w0 w1
    rw [hf _ _ (by omega) (by omega)]; exact h5 w w0 w1
  · intro r r0 r1
    rw [hf _ _ (by omega) (by omega), hf _ _ (by omega) (by omega)]; exact h6 r r0 r1
  · intro r p r0 r1 p0 p1
    rw [hf _ _ (by omega) (by omega)]; exact h7 r p r0 r1 p0 p1
theorem PaperC.ce {G G' : Hp} {o : Int} {P : Int → Int} (h : PaperC G o P) (hc : CE (o + 1) G G') : PaperC G' o P := by
  obtain ⟨⟨h1, h2⟩, h3, h4, h5, h6, h7⟩ := h
  refine ⟨⟨?_, ?_⟩, ?_, hc.2, ?_, ?_, ?_⟩
  · rw [hc.1 _ _ (by omega) (by omega) (by omega)]; exact h1
  · rw [hc.1 _ _ (by omega) (by omega) (by omega)]; exact h2
  · rw [hc.1 _ _ (by omega) (by omega) (by omega)]; exact h3
  · intro w w0 w1
    rw [hc.1 _ _ (by omega) (by omega) (by omega)]; exact h5 w w0 w1
  · intro r r0 r1
    rw [hc.1 _ _ (by omega) (by omega) (by omega), hc.1 _ _ (by omega) (by omega) (by omega)]; exact h6 r r0 r1
  · intro r p r0 r1 p0 p1
    rw [hc.1 _ _ (by omega) (by omega) (by omega)]; exact h7 r p r0 r1 p0 p1
theorem WeekC.fr {G G' : Hp} {o : Int} {P : Int → Int} (h : WeekC G o P) (hf : ∀ a j, o ≤ a → a ≤ o + 3 → G' a j = G a j) : WeekC G' o P := by
  refine ⟨?_, fun k k0 k1 => ?_⟩
  · rw [hf _ _ (by omega) (by omega)]; exact h.1
  · rw [hf _ _ (by omega) (by omega), hf _ _ (by omega) (by omega), hf _ _ (by omega) (by omega)]; exact h.2 k k0 k1
theorem LogC.fr {G G' : Hp} {o : Int} {P : Int → Int} (h : LogC G o P) (hf : ∀ a j, o ≤ a → a ≤ o + 2 → G' a j = G a j) : LogC G' o P := by
  refine ⟨?_, fun k k0 k1 => ?_⟩
  · rw [hf _ _ (by omega) (by omega)]; exact h.1
  · rw [hf _ _ (by omega) (by omega), hf _ _ (by omega) (by omega)]; exact h.2 k k0 k1
theorem TapeC.fr {G G' : Hp} {t b : Int} {A : Int → Int} (h : TapeC G t A b) (hf : ∀ a j, t ≤ a → a ≤ t + 2 → G' a j = G a j) : TapeC G' t A b := by
  obtain ⟨h1, h2, h3, h4⟩ := h
  refine ⟨fun j j0 j1 => ?_, ?_, ?_, fun s s0 s1 => ?_⟩
  · rw [hf _ _ (by omega) (by omega)]; exact h1 j j0 j1
  · rw [hf _ _ (by omega) (by omega)]; exact h2
  · rw [hf _ _ (by omega) (by omega), hf _ _ (by omega) (by omega)]; exact h3
  · rw [hf _ _ (by omega) (by omega)]; exact h4 s s0 s1
theorem ToldC.fr {G G' : Hp} {t b : Int} {A : Int → Int} (h : ToldC G t A b) (hf : ∀ a j, t ≤ a → a ≤ t + 35 → G' a j = G a j) : ToldC G' t A b := by
  obtain ⟨h0, ⟨v1, h1⟩, ⟨v2, h2⟩, ⟨v3, h3⟩, ⟨v4, h4⟩, ⟨v5, h5⟩, ⟨v6, h6⟩⟩ := h
  exact ⟨h0.fr fun a j x y => hf a j (by omega) (by omega), ⟨v1, h1.fr fun a j x y => hf a j (by omega) (by omega)⟩, ⟨v2, h2.fr fun a j x y => hf a j (by omega) (by omega)⟩, ⟨v3, h3.fr fun a j x y => hf a j (by omega) (by omega)⟩, ⟨v4, h4.fr fun a j x y => hf a j (by omega) (by omega)⟩, ⟨v5, h5.fr fun a j x y => hf a j (by omega) (by omega)⟩, ⟨v6, h6.fr fun a j x y => hf a j (by omega) (by omega)⟩⟩
/-- only rows that are lent, and what nets keep, may be others -/
def keepA (a j : Int) : Prop := (a < 57 ∨ 93 ≤ a ∨ (80 ≤ a ∧ a ≤ 85)) ∧ a ≠ 10 ∧ a ≠ 11 ∧ a ≠ 25 ∧ a ≠ 26 ∧ ¬ (a = 8 ∧ j = 3) ∧ ¬ (a = 23 ∧ j = 3)
def Sq (G G' : Hp) : Prop := (∀ a j, keepA a j → G' a j = G a j) ∧ (NetOK G 8 → NetOK G' 8) ∧ (NetOK G 23 → NetOK G' 23)
theorem Sq.refl (G : Hp) : Sq G G := ⟨fun _ _ _ => rfl, id, id⟩
theorem Sq.trans {G G' G'' : Hp} (h1 : Sq G G') (h2 : Sq G' G'') : Sq G G'' := ⟨fun a j h => (h2.1 a j h).trans (h1.1 a j h), fun h => h2.2.1 (h1.2.1 h), fun h => h2.2.2 (h1.2.2 h)⟩
theorem Sq.fr {G G' : Hp} (hf : ∀ a j, (a < 57 ∨ 93 ≤ a ∨ (80 ≤ a ∧ a ≤ 85)) → G' a j = G a j) : Sq G G' := ⟨fun a j h => hf a j h.1, fun h => h.fr fun a j x y => hf a j (by omega), fun h => h.fr fun a j x y => hf a j (by omega)⟩
theorem Sq.upd {G : Hp} {o j v : Int} (h : (57 ≤ o ∧ o ≤ 79) ∨ (86 ≤ o ∧ o ≤ 92)) : Sq G (upd2 G o j v) := Sq.fr fun a k x => upd2_o (by omega)
theorem Sq.ce {G G' : Hp} {o : Int} (ho : o = 7 ∨ o = 22) (h : CE (o + 1) G G') : Sq G G' := by
  refine ⟨fun a j k => ?_, fun n => ?_, fun n => ?_⟩
  · obtain ⟨k1, k2, k3, k4, k5, k6, k7⟩ := k
    exact h.1 a j (by omega) (by omega) (by omega)
  · rcases ho with rfl | rfl
    · exact h.2
    · exact n.fr fun a j x y => h.1 a j (by omega) (by omega) (by omega)
  · rcases ho with rfl | rfl
    · exact n.fr fun a j x y => h.1 a j (by omega) (by omega) (by omega)
    · exact h.2
theorem Sq.ce2 {G G' : Hp} {o : Int} (ho : o = 66 ∨ o = 87) (h : CE o G G') : Sq G G' := Sq.fr fun a j x => h.1 a j (by omega) (by omega) (by omega)
theorem PaperC.sq {G G' : Hp} {o : Int} {P : Int → Int} (ho : o = 7 ∨ o = 22) (h : PaperC G o P) (hs : Sq G G') : PaperC G' o P := by
  obtain ⟨⟨h1, h2⟩, h3, h4, h5, h6, h7⟩ := h
  have hf : ∀ a j, keepA a j → G' a j = G a j := hs.1
  have k : ∀ c j, (c = 0 ∨ c = 2 ∨ c = 5 ∨ c = 6 ∨ c = 7) → G' (o + c) j = G (o + c) j := fun c j hc => hf _ _ (by unfold keepA; omega)
  have k0 : ∀ j, G' o j = G o j := fun j => by have := k 0 j (Or.inl rfl); rwa [Int.add_zero] at this
  refine ⟨⟨?_, ?_⟩, ?_, ?_, ?_, ?_, ?_⟩
  · rw [k0]; exact h1
  · rw [k0]; exact h2
  · rw [k0]; exact h3
  · rcases ho with rfl | rfl
    · exact hs.2.1 h4
    · exact hs.2.2 h4
  · intro w w0 w1
    rw [k 2 _ (by omega)]; exact h5 w w0 w1
  · intro r r0 r1
    rw [k 5 _ (by omega), k 6 _ (by omega)]; exact h6 r r0 r1
  · intro r p r0 r1 p0 p1
    rw [k 7 _ (by omega)]; exact h7 r p r0 r1 p0 p1
theorem ToldC.sq1 {G G' : Hp} {A : Int → Int} {b : Int} (h : ToldC G 1 A b) (hs : Sq G G') : ToldC G' 1 A b := by
  obtain ⟨h0, ⟨v1, h1⟩, ⟨v2, h2⟩, ⟨v3, h3⟩, ⟨v4, h4⟩, ⟨v5, h5⟩, ⟨v6, h6⟩⟩ := h
  have hf : ∀ a j, keepA a j → G' a j = G a j := hs.1
  exact ⟨h0.fr fun a j x y => hf a j (by unfold keepA; omega), ⟨v1, PaperC.sq (by omega) h1 hs⟩, ⟨v2, PaperC.sq (by omega) h2 hs⟩, ⟨v3, h3.fr fun a j x y => hf a j (by unfold keepA; omega)⟩, ⟨v4, h4.fr fun a j x y => hf a j (by unfold keepA; omega)⟩, ⟨v5, h5.fr fun a j x y => hf a j (by unfold keepA; omega)⟩, ⟨v6, h6.fr fun a j x y => hf a j (by unfold keepA; omega)⟩⟩
theorem TextsC.congr {G : Hp} {t b b' : Int} {A A' : Int → Int} (h : TextsC G t A b) (hA : ∀ k, 610 ≤ k → k < 1046 → A' (b' + k) = A (b + k)) : TextsC G t A' b' := by
  have e : ∀ n c : Int, 610 ≤ c → c + n ≤ 1046 → ct n A' (b' + c) = ct n A (b + c) := fun n c c0 c1 => ct_eq fun k k0 k1 => by rw [Int.add_assoc, Int.add_assoc]; exact hA _ (by omega) (by omega)
  unfold TextsC
  rw [e 80 610 (by omega) (by omega), e 80 690 (by omega) (by omega), e 121 770 (by omega) (by omega), e 121 891 (by omega) (by omega), e 17 1012 (by omega) (by omega), e 17 1029 (by omega) (by omega)]
  exact h
