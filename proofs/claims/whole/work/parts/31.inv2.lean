-- rows of readers: all orders, by numbers
def prm : Nat → List Int → List (List Int)
  | 0, _ => [[]]
  | k + 1, l => l.flatMap fun a => (prm k (l.erase a)).map (fun t => a :: t)
def PR (n : Nat) : List (List Int) := prm n ([0, 1, 2, 3, 4, 5].take n)
def lf (L : List Int) : Int → Int := fun i => L.getD i.toNat 0
def dgF (row : Int → Int) : Nat → Int
  | 0 => 1
  | m + 1 => 10 * dgF row m + row (m : Int)
def PRk (n : Nat) (k : Int) : List Int := (PR n).getD k.toNat []
def PRm (n : Nat) : Int := ((PR n).length : Nat)
/-- the words behind all that read by a row -/
def prR (P row f : Int → Int) : Nat → Int → Int
  | 0 => f
  | m + 1 => rb P (row (m : Int)) (prR P row f m)
def prf (P : Int → Int) (k : Int) : Int → Int := prR P (lf (PRk (P 1).toNat k)) (sl P 2) (P 1).toNat
def RowsOf (G : Hp) (P : Int → Int) : Prop := G 80 1 = PRm (P 1).toNat ∧ G 80 2 = P 1 ∧ G 80 3 = P 0 ∧ ∀ k, 0 ≤ k → k < PRm (P 1).toNat → G 83 k = dgF (lf (PRk (P 1).toNat k)) (P 1).toNat ∧ PK (G 84 k) (prf P k) ∧ G 85 k = ctA P (prf P k)
def RowsC (G : Hp) (A : Int → Int) : Prop := G 80 0 = -1 ∨ ∃ k, (k = 0 ∨ k = 1) ∧ G 80 0 = k ∧ RowsOf G (ct 80 A (pb k))
def CInv (G : Hp) (A H : Int → Int) : Prop := (ToldC G 1 A 0 ∧ (H 0 = 1 → ToldC G 93 A 1046) ∧ (H 1 = 1 → ToldC G 129 A 2092) ∧ (H 2 = 1 → ToldC G 165 A 3138)) ∧ (∀ k, 0 ≤ k → k < 3 → G 38 k = H k ∧ (H k = 0 ∨ H k = 1)) ∧ RowsC G A
def Inv (Gc Gm : Hp) : Prop := CInv Gc (Gm 202) (Gm 203)
theorem RowsOf.fr {G G' : Hp} {P : Int → Int} (h : RowsOf G P) (hf : ∀ a j, 80 ≤ a → a ≤ 85 → G' a j = G a j) : RowsOf G' P := by
  obtain ⟨h1, h2, h3, h4⟩ := h
  refine ⟨?_, ?_, ?_, fun k k0 k1 => ?_⟩
  · rw [hf _ _ (by omega) (by omega)]; exact h1
  · rw [hf _ _ (by omega) (by omega)]; exact h2
  · rw [hf _ _ (by omega) (by omega)]; exact h3
  · rw [hf _ _ (by omega) (by omega), hf _ _ (by omega) (by omega), hf _ _ (by omega) (by omega)]; exact h4 k k0 k1
theorem RowsC.fr {G G' : Hp} {A : Int → Int} (h : RowsC G A) (hf : ∀ a j, 80 ≤ a → a ≤ 85 → G' a j = G a j) : RowsC G' A := by
  unfold RowsC
  rw [hf _ _ (by omega) (by omega)]
  rcases h with h | ⟨k, h1, h2, h3⟩
  · exact Or.inl h
  · exact Or.inr ⟨k, h1, h2, h3.fr hf⟩
theorem CInv.sq {G G' : Hp} {A H : Int → Int} (h : CInv G A H) (hs : Sq G G') : CInv G' A H := by
  obtain ⟨⟨h1, h2, h3, h4⟩, h5, h6⟩ := h
  have hf : ∀ a j, keepA a j → G' a j = G a j := hs.1
  refine ⟨⟨h1.sq1 hs, fun z => (h2 z).fr fun a j x y => hf a j (by unfold keepA; omega), fun z => (h3 z).fr fun a j x y => hf a j (by unfold keepA; omega), fun z => (h4 z).fr fun a j x y => hf a j (by unfold keepA; omega)⟩, fun k k0 k1 => ?_, h6.fr fun a j x y => hf a j (by unfold keepA; omega)⟩
  rw [hf _ _ (by unfold keepA; omega)]
  exact h5 k k0 k1
theorem ToldC.av {G : Hp} {A : Int → Int} (h : ToldC G 1 A 0) : AV0 A := by
  obtain ⟨⟨-, -, -, h0⟩, ⟨v1, -⟩, ⟨v2, -⟩, ⟨v3, -⟩, ⟨v4, -⟩, ⟨v5, -⟩, ⟨v6, -⟩⟩ := h
  refine ⟨fun s s0 s1 => ?_, ?_, ?_, ?_, ?_, ?_, ?_⟩
  · have := (h0 s s0 s1).2
    rw [Int.zero_add] at this
    exact this
  · rw [Int.zero_add] at v1; exact v1
  · rw [Int.zero_add] at v2; exact v2
  · rw [Int.zero_add] at v3; exact v3
  · rw [Int.zero_add] at v4; exact v4
  · rw [Int.zero_add] at v5; exact v5
  · rw [Int.zero_add] at v6; exact v6
theorem CInv.av {G : Hp} {A H : Int → Int} (h : CInv G A H) : AV0 A := h.1.1.av
/-- how many there are of a sort -/
theorem CInv.many {G : Hp} {A H : Int → Int} (h : CInv G A H) {s : Int} (s0 : 0 ≤ s) (s1 : s < 3) : G 3 s = A s ∧ 0 ≤ A s ∧ A s ≤ 2 := by
  have := h.1.1.1.2.2.2 s s0 s1
  rw [Int.zero_add] at this
  exact this
theorem CInv.paper {G : Hp} {A H : Int → Int} (h : CInv G A H) {k : Int} (hk : k = 0 ∨ k = 1) : PaperV (ct 80 A (pb k)) ∧ PaperC G (7 + 15 * k) (ct 80 A (pb k)) := by
  obtain ⟨⟨⟨-, ⟨v1, c1⟩, ⟨v2, c2⟩, -⟩, -⟩, -⟩ := h
  rcases hk with rfl | rfl
  · rw [Int.zero_add] at v1 c1
    exact ⟨v1, c1⟩
  · rw [Int.zero_add] at v2 c2
    exact ⟨v2, c2⟩
def wkb (k : Int) : Int := 770 + 121 * k
def lgb (k : Int) : Int := 1012 + 17 * k
theorem CInv.week {G : Hp} {A H : Int → Int} (h : CInv G A H) {k : Int} (hk : k = 0 ∨ k = 1) : WeekV (ct 121 A (wkb k)) ∧ WeekC G (15 + 15 * k) (ct 121 A (wkb k)) := by
  obtain ⟨⟨⟨-, -, -, ⟨v1, c1⟩, ⟨v2, c2⟩, -⟩, -⟩, -⟩ := h
  rcases hk with rfl | rfl
  · rw [Int.zero_add] at v1 c1
    exact ⟨v1, c1⟩
  · rw [Int.zero_add] at v2 c2
    exact ⟨v2, c2⟩
theorem CInv.log {G : Hp} {A H : Int → Int} (h : CInv G A H) {k : Int} (hk : k = 0 ∨ k = 1) : LogV (ct 17 A (lgb k)) ∧ LogC G (19 + 15 * k) (ct 17 A (lgb k)) := by
  obtain ⟨⟨⟨-, -, -, -, -, ⟨v1, c1⟩, ⟨v2, c2⟩⟩, -⟩, -⟩ := h
  rcases hk with rfl | rfl
  · rw [Int.zero_add] at v1 c1
    exact ⟨v1, c1⟩
  · rw [Int.zero_add] at v2 c2
    exact ⟨v2, c2⟩
theorem RFT4 : RF0 4 0 = 7 ∧ RF0 4 1 = 22 ∧ RF0 5 0 = 15 ∧ RF0 5 1 = 30 ∧ RF0 6 0 = 19 ∧ RF0 6 1 = 34 := by decide +kernel
theorem RF4 {k : Int} (hk : k = 0 ∨ k = 1) : RF0 4 k = 7 + 15 * k := by
  rcases hk with rfl | rfl
  · exact RFT4.1
  · exact RFT4.2.1
theorem RF5 {k : Int} (hk : k = 0 ∨ k = 1) : RF0 5 k = 15 + 15 * k := by
  rcases hk with rfl | rfl
  · exact RFT4.2.2.1
  · exact RFT4.2.2.2.1
theorem RF6 {k : Int} (hk : k = 0 ∨ k = 1) : RF0 6 k = 19 + 15 * k := by
  rcases hk with rfl | rfl
  · exact RFT4.2.2.2.2.1
  · exact RFT4.2.2.2.2.2
theorem paperAt_no {G : Hp} {A H : Int → Int} {k : Int} (h : CInv G A H) (hk : ¬ (0 ≤ k ∧ k < A 0)) : cX_paperAt k G = some (-1) := by
  unfold cX_paperAt
  rw [(h.many (s := 0) (by omega) (by omega)).1]
  by_cases h0 : k < 0
  · rw [if_pos h0]
  · rw [if_neg h0, if_pos (by omega)]
theorem paperAt_yes {G : Hp} {A H : Int → Int} {k : Int} (h : CInv G A H) (k0 : 0 ≤ k) (k1 : k < A 0) : cX_paperAt k G = some (7 + 15 * k) ∧ (k = 0 ∨ k = 1) := by
  have hm := h.many (s := 0) (by omega) (by omega)
  have hk : k = 0 ∨ k = 1 := by omega
  refine ⟨?_, hk⟩
  unfold cX_paperAt
  rw [hm.1, if_neg (by omega), if_neg (by omega), gd_ok k0 (by omega), RF4 hk]
theorem weekAt_no {G : Hp} {A H : Int → Int} {k : Int} (h : CInv G A H) (hk : ¬ (0 ≤ k ∧ k < A 1)) : cX_weekAt k G = some (-1) := by
  unfold cX_weekAt
  rw [(h.many (s := 1) (by omega) (by omega)).1]
  by_cases h0 : k < 0
  · rw [if_pos h0]
  · rw [if_neg h0, if_pos (by omega)]
theorem weekAt_yes {G : Hp} {A H : Int → Int} {k : Int} (h : CInv G A H) (k0 : 0 ≤ k) (k1 : k < A 1) : cX_weekAt k G = some (15 + 15 * k) ∧ (k = 0 ∨ k = 1) := by
  have hm := h.many (s := 1) (by omega) (by omega)
  have hk : k = 0 ∨ k = 1 := by omega
  refine ⟨?_, hk⟩
  unfold cX_weekAt
  rw [hm.1, if_neg (by omega), if_neg (by omega), gd_ok k0 (by omega), RF5 hk]
theorem logAt_no {G : Hp} {A H : Int → Int} {k : Int} (h : CInv G A H) (hk : ¬ (0 ≤ k ∧ k < A 2)) : cX_logAt k G = some (-1) := by
  unfold cX_logAt
  rw [(h.many (s := 2) (by omega) (by omega)).1]
  by_cases h0 : k < 0
  · rw [if_pos h0]
  · rw [if_neg h0, if_pos (by omega)]
theorem logAt_yes {G : Hp} {A H : Int → Int} {k : Int} (h : CInv G A H) (k0 : 0 ≤ k) (k1 : k < A 2) : cX_logAt k G = some (19 + 15 * k) ∧ (k = 0 ∨ k = 1) := by
  have hm := h.many (s := 2) (by omega) (by omega)
  have hk : k = 0 ∨ k = 1 := by omega
  refine ⟨?_, hk⟩
  unfold cX_logAt
  rw [hm.1, if_neg (by omega), if_neg (by omega), gd_ok k0 (by omega), RF6 hk]
theorem isWeek_no {k : Int} {G : Hp} (hA : AV0 (G 202)) (hk : ¬ (0 ≤ k ∧ k < G 202 1)) : mm_isWeek k G = some (false, G) := by
  unfold mm_isWeek
  have h0 := hA.1 1 (by omega) (by omega)
  rw [isOf_ok (by omega) (by omega) h0.1 h0.2, decide_eq_false hk, Option.bind_some, if_neg (by decide)]
theorem isWeek_yes {k : Int} {G : Hp} (hA : AV0 (G 202)) (k0 : 0 ≤ k) (k1 : k < G 202 1) : mm_isWeek k G = some (true, upd2 G 201 37 (wkb k)) := by
  unfold mm_isWeek
  have h0 := hA.1 1 (by omega) (by omega)
  rw [isOf_ok (by omega) (by omega) h0.1 h0.2, decide_eq_true ⟨k0, k1⟩, Option.bind_some, if_pos rfl]
  have hpl : mm_placeOf 1 k = wkb k := by
    unfold mm_placeOf wkb
    rw [if_neg (by omega), if_pos rfl]
    simp (disch := omega) only [w32_id]
  rw [hpl]
theorem isLog_no {k : Int} {G : Hp} (hA : AV0 (G 202)) (hk : ¬ (0 ≤ k ∧ k < G 202 2)) : mm_isLog k G = some (false, G) := by
  unfold mm_isLog
  have h0 := hA.1 2 (by omega) (by omega)
  rw [isOf_ok (by omega) (by omega) h0.1 h0.2, decide_eq_false hk, Option.bind_some, if_neg (by decide)]
theorem isLog_yes {k : Int} {G : Hp} (hA : AV0 (G 202)) (k0 : 0 ≤ k) (k1 : k < G 202 2) : mm_isLog k G = some (true, upd2 G 201 39 (lgb k)) := by
  unfold mm_isLog
  have h0 := hA.1 2 (by omega) (by omega)
  rw [isOf_ok (by omega) (by omega) h0.1 h0.2, decide_eq_true ⟨k0, k1⟩, Option.bind_some, if_pos rfl]
  have hpl : mm_placeOf 2 k = lgb k := by
    unfold mm_placeOf lgb
    rw [if_neg (by omega), if_neg (by omega)]
    simp (disch := omega) only [w32_id]
  rw [hpl]
/-- an answer alone -/
theorem op_q {X Y : Option (Int × Hp)} {Gc Gm : Hp} (_hI : Inv Gc Gm) (v : Int) (hX : ok X (fun r => r.1 = v ∧ CInv r.2 (Gm 202) (Gm 203))) (hY : ok Y (fun r => r.1 = v ∧ r.2 202 = Gm 202 ∧ r.2 203 = Gm 203)) :
    ∃ rc rm, X = some rc ∧ Y = some rm ∧ rc.1 = rm.1 ∧ Inv rc.2 rm.2 := by
  obtain ⟨rc, a1, a2, a3⟩ := hX
  obtain ⟨rm, b1, b2, b3, b4⟩ := hY
  refine ⟨rc, rm, a1, b1, by rw [a2, b2], ?_⟩
  unfold Inv
  rw [b3, b4]
  exact a3
theorem op_p {X : Option Int} {Y : Option (Int × Hp)} {Gc Gm : Hp} (hI : Inv Gc Gm) (v : Int) (hX : X = some v) (hY : ok Y (fun r => r.1 = v ∧ r.2 202 = Gm 202 ∧ r.2 203 = Gm 203)) :
    ∃ rc rm, X = some rc ∧ Y = some rm ∧ rc = rm.1 ∧ Inv Gc rm.2 := by
  obtain ⟨rm, b1, b2, b3, b4⟩ := hY
  refine ⟨v, rm, hX, b1, b2.symm, ?_⟩
  unfold Inv
  rw [b3, b4]
  exact hI
/-- what stays of the model's row, if only what is not told is written -/
def Mq (G G' : Hp) : Prop := G' 202 = G 202 ∧ G' 203 = G 203
theorem Mq.refl (G : Hp) : Mq G G := ⟨rfl, rfl⟩
theorem Mq.trans {G G' G'' : Hp} (h : Mq G G') (h2 : Mq G' G'') : Mq G G'' := ⟨h2.1.trans h.1, h2.2.trans h.2⟩
theorem Mq.fr {G G' : Hp} (h : ∀ j, G' 202 j = G 202 j ∧ G' 203 j = G 203 j) : Mq G G' := ⟨funext fun j => (h j).1, funext fun j => (h j).2⟩
theorem if_ff {α : Type} {a b : α} : (if (false = true) then a else b) = b := rfl
theorem if_tt {α : Type} {a b : α} : (if (true = true) then a else b) = a := rfl
