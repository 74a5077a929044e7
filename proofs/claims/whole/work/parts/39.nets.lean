-- words joined and parted, nets copied
def prt (N : Int → Int) (a b : Int) : Int → Int := fun w => if w = a then iand (N a) (ixor (ishl 1 b) (-1)) else if w = b then iand (N b) (ixor (ishl 1 a) (-1)) else N w
def jon (N : Int → Int) (a b : Int) : Int → Int := fun w => if w = a then ior (N a) (ishl 1 b) else if w = b then ior (N b) (ishl 1 a) else N w
theorem bt_clr {x k j : Int} (hx : Mk 10 x) (k0 : 0 ≤ k) (k1 : k < 10) (j0 : 0 ≤ j) : bt (iand x (ixor (ishl 1 k) (-1))) j = (bt x j && !decide (j = k)) ∧ Mk 10 (iand x (ixor (ishl 1 k) (-1))) := by
  have hs : Mk 10 (ishl 1 k) := Mk.shl k0 (by omega) (by omega)
  obtain ⟨h1, h2⟩ := clr_nn hx hs (by omega)
  exact ⟨by rw [h2 j j0, bt_shl k0 (by omega) j0], h1⟩
theorem bt_put {x k j : Int} (hx : Mk 10 x) (k0 : 0 ≤ k) (k1 : k < 10) (j0 : 0 ≤ j) : bt (ior x (ishl 1 k)) j = (bt x j || decide (j = k)) ∧ Mk 10 (ior x (ishl 1 k)) := by
  have hs : Mk 10 (ishl 1 k) := Mk.shl k0 (by omega) (by omega)
  exact ⟨by rw [bt_or hx hs (by omega) (by omega), bt_shl k0 (by omega) j0], hx.or hs (by omega)⟩
section PJ
variable {N : Int → Int} {a b : Int}
theorem prt_bt (hN : ∀ w, 0 ≤ w → w < 10 → Mk 10 (N w)) (a0 : 0 ≤ a) (a1 : a < 10) (b0 : 0 ≤ b) (b1 : b < 10) (ab : a ≠ b) {v w : Int} (v0 : 0 ≤ v) (v1 : v < 10) (w0 : 0 ≤ w) : bt (prt N a b v) w = (bt (N v) w && !(decide (v = a ∧ w = b) || decide (v = b ∧ w = a))) ∧ Mk 10 (prt N a b v) := by
  unfold prt
  by_cases h1 : v = a
  · subst h1
    rw [if_pos rfl]
    have h := bt_clr (hN v v0 v1) b0 b1 w0
    refine ⟨?_, h.2⟩
    rw [h.1]
    have e : ¬ (v = b ∧ w = v) := fun z => ab z.1
    rw [decide_eq_false e, Bool.or_false, decide_eq_decide.mpr (show w = b ↔ (v = v ∧ w = b) from ⟨fun z => ⟨rfl, z⟩, fun z => z.2⟩)]
  · rw [if_neg h1]
    have e : ¬ (v = a ∧ w = b) := fun z => h1 z.1
    rw [decide_eq_false e, Bool.false_or]
    by_cases h2 : v = b
    · subst h2
      rw [if_pos rfl]
      have h := bt_clr (hN v v0 v1) a0 a1 w0
      refine ⟨?_, h.2⟩
      rw [h.1, decide_eq_decide.mpr (show w = a ↔ (v = v ∧ w = a) from ⟨fun z => ⟨rfl, z⟩, fun z => z.2⟩)]
    · rw [if_neg h2, decide_eq_false (fun z => h2 z.1), Bool.not_false, Bool.and_true]
      exact ⟨rfl, hN v v0 v1⟩
theorem jon_bt (hN : ∀ w, 0 ≤ w → w < 10 → Mk 10 (N w)) (a0 : 0 ≤ a) (a1 : a < 10) (b0 : 0 ≤ b) (b1 : b < 10) (ab : a ≠ b) {v w : Int} (v0 : 0 ≤ v) (v1 : v < 10) (w0 : 0 ≤ w) : bt (jon N a b v) w = (bt (N v) w || (decide (v = a ∧ w = b) || decide (v = b ∧ w = a))) ∧ Mk 10 (jon N a b v) := by
  unfold jon
  by_cases h1 : v = a
  · subst h1
    rw [if_pos rfl]
    have h := bt_put (hN v v0 v1) b0 b1 w0
    refine ⟨?_, h.2⟩
    rw [h.1]
    have e : ¬ (v = b ∧ w = v) := fun z => ab z.1
    rw [decide_eq_false e, Bool.or_false, decide_eq_decide.mpr (show w = b ↔ (v = v ∧ w = b) from ⟨fun z => ⟨rfl, z⟩, fun z => z.2⟩)]
  · rw [if_neg h1]
    have e : ¬ (v = a ∧ w = b) := fun z => h1 z.1
    rw [decide_eq_false e, Bool.false_or]
    by_cases h2 : v = b
    · subst h2
      rw [if_pos rfl]
      have h := bt_put (hN v v0 v1) a0 a1 w0
      refine ⟨?_, h.2⟩
      rw [h.1, decide_eq_decide.mpr (show w = a ↔ (v = v ∧ w = a) from ⟨fun z => ⟨rfl, z⟩, fun z => z.2⟩)]
    · rw [if_neg h2, decide_eq_false (fun z => h2 z.1), Bool.or_false]
      exact ⟨rfl, hN v v0 v1⟩
theorem swp_d (v w : Int) : (decide (v = a ∧ w = b) || decide (v = b ∧ w = a)) = (decide (w = a ∧ v = b) || decide (w = b ∧ v = a)) := by
  rw [Bool.or_comm, decide_eq_decide.mpr (show (v = b ∧ w = a) ↔ (w = a ∧ v = b) from And.comm), decide_eq_decide.mpr (show (v = a ∧ w = b) ↔ (w = b ∧ v = a) from And.comm)]
theorem prt_NW (hN : NW N) (a0 : 0 ≤ a) (a1 : a < 10) (b0 : 0 ≤ b) (b1 : b < 10) (ab : a ≠ b) : NW (prt N a b) := by
  refine ⟨fun w w0 w1 => (prt_bt hN.1 a0 a1 b0 b1 ab w0 w1 w0).2, fun v w v0 v1 w0 w1 => ?_, fun w w0 w1 => ?_⟩
  · rw [(prt_bt hN.1 a0 a1 b0 b1 ab v0 v1 w0).1, (prt_bt hN.1 a0 a1 b0 b1 ab w0 w1 v0).1, hN.2.1 v w v0 v1 w0 w1, swp_d v w]
  · rw [(prt_bt hN.1 a0 a1 b0 b1 ab w0 w1 w0).1, hN.2.2 w w0 w1, Bool.false_and]
theorem jon_NW (hN : NW N) (a0 : 0 ≤ a) (a1 : a < 10) (b0 : 0 ≤ b) (b1 : b < 10) (ab : a ≠ b) : NW (jon N a b) := by
  refine ⟨fun w w0 w1 => (jon_bt hN.1 a0 a1 b0 b1 ab w0 w1 w0).2, fun v w v0 v1 w0 w1 => ?_, fun w w0 w1 => ?_⟩
  · rw [(jon_bt hN.1 a0 a1 b0 b1 ab v0 v1 w0).1, (jon_bt hN.1 a0 a1 b0 b1 ab w0 w1 v0).1, hN.2.1 v w v0 v1 w0 w1, swp_d v w]
  · rw [(jon_bt hN.1 a0 a1 b0 b1 ab w0 w1 w0).1, hN.2.2 w w0 w1, decide_eq_false (fun z => ab (z.1.symm.trans z.2)), decide_eq_false (fun z => ab (z.2.symm.trans z.1))]
    rfl
theorem jon_prt (hN : NW N) (a0 : 0 ≤ a) (a1 : a < 10) (b0 : 0 ≤ b) (b1 : b < 10) (ab : a ≠ b) (h : bt (N a) b = true) {v : Int} (v0 : 0 ≤ v) (v1 : v < 10) : jon (prt N a b) a b v = N v := by
  have hp := prt_NW hN a0 a1 b0 b1 ab
  refine Mk.ext (jon_bt hp.1 a0 a1 b0 b1 ab v0 v1 v0).2 (hN.1 v v0 v1) fun w w0 w1 => ?_
  rw [(jon_bt hp.1 a0 a1 b0 b1 ab v0 v1 w0).1, (prt_bt hN.1 a0 a1 b0 b1 ab v0 v1 w0).1]
  by_cases q : (v = a ∧ w = b) ∨ (v = b ∧ w = a)
  · have e : (decide (v = a ∧ w = b) || decide (v = b ∧ w = a)) = true := by
      rcases q with q | q
      · rw [decide_eq_true q, Bool.true_or]
      · rw [decide_eq_true q, Bool.or_true]
    rw [e, Bool.or_true]
    rcases q with ⟨q1, q2⟩ | ⟨q1, q2⟩
    · rw [q1, q2, h]
    · rw [q1, q2, hN.2.1 b a b0 b1 a0 a1, h]
  · have e : (decide (v = a ∧ w = b) || decide (v = b ∧ w = a)) = false := by rw [decide_eq_false (fun z => q (Or.inl z)), decide_eq_false (fun z => q (Or.inr z))]; rfl
    rw [e, Bool.not_false, Bool.and_true, Bool.or_false]
theorem prt_jon (hN : NW N) (a0 : 0 ≤ a) (a1 : a < 10) (b0 : 0 ≤ b) (b1 : b < 10) (ab : a ≠ b) (h : bt (N a) b = false) {v : Int} (v0 : 0 ≤ v) (v1 : v < 10) : prt (jon N a b) a b v = N v := by
  have hp := jon_NW hN a0 a1 b0 b1 ab
  refine Mk.ext (prt_bt hp.1 a0 a1 b0 b1 ab v0 v1 v0).2 (hN.1 v v0 v1) fun w w0 w1 => ?_
  rw [(prt_bt hp.1 a0 a1 b0 b1 ab v0 v1 w0).1, (jon_bt hN.1 a0 a1 b0 b1 ab v0 v1 w0).1]
  by_cases q : (v = a ∧ w = b) ∨ (v = b ∧ w = a)
  · have e : (decide (v = a ∧ w = b) || decide (v = b ∧ w = a)) = true := by
      rcases q with q | q
      · rw [decide_eq_true q, Bool.true_or]
      · rw [decide_eq_true q, Bool.or_true]
    rw [e, Bool.not_true, Bool.and_false]
    rcases q with ⟨q1, q2⟩ | ⟨q1, q2⟩
    · rw [q1, q2, h]
    · rw [q1, q2, hN.2.1 b a b0 b1 a0 a1, h]
  · have e : (decide (v = a ∧ w = b) || decide (v = b ∧ w = a)) = false := by rw [decide_eq_false (fun z => q (Or.inl z)), decide_eq_false (fun z => q (Or.inr z))]; rfl
    rw [e, Bool.not_false, Bool.and_true, Bool.or_false]
theorem prt_comm (ab : a ≠ b) : prt N a b = prt N b a := by
  funext v
  unfold prt
  by_cases h1 : v = a
  · rw [if_pos h1, if_neg (fun z => ab (h1.symm.trans z)), if_pos h1]
  · rw [if_neg h1]
    by_cases h2 : v = b
    · rw [if_pos h2, if_pos h2]
    · rw [if_neg h2, if_neg h2, if_neg h1]
theorem prt_congr {N' : Int → Int} (h : ∀ w, 0 ≤ w → w < 10 → N w = N' w) (a0 : 0 ≤ a) (a1 : a < 10) (b0 : 0 ≤ b) (b1 : b < 10) : ∀ w, 0 ≤ w → w < 10 → prt N a b w = prt N' a b w := by
  intro w w0 w1
  unfold prt
  rw [h a a0 a1, h b b0 b1, h w w0 w1]
theorem jon_congr {N' : Int → Int} (h : ∀ w, 0 ≤ w → w < 10 → N w = N' w) (a0 : 0 ≤ a) (a1 : a < 10) (b0 : 0 ≤ b) (b1 : b < 10) : ∀ w, 0 ≤ w → w < 10 → jon N a b w = jon N' a b w := by
  intro w w0 w1
  unfold jon
  rw [h a a0 a1, h b b0 b1, h w w0 w1]
theorem isWord_t {w : Int} (w0 : 0 ≤ w) (w1 : w < 10) : cX_isWord w = true := by
  unfold cX_isWord
  rw [if_neg (by omega), if_pos w1]
theorem cnear_ok {nt : Int} {G : Hp} (hN : NW N) (hG : ∀ w, 0 ≤ w → w < 10 → G (nt + 1) w = N w) (a0 : 0 ≤ a) (a1 : a < 10) (b0 : 0 ≤ b) (b1 : b < 10) : cNe_near nt a b G = some (bt (N a) b) := by
  unfold cNe_near
  rw [isWord_t a0 a1, isWord_t b0 b1, if_tt, if_tt, gd_ok a0 a1, hG a a0 a1]
  by_cases h : iand (ishr (N a) b) 1 = 0
  · rw [if_pos h, (tst0 (hN.1 a a0 a1) (by omega) b0 (by omega)).mp h]
  · rw [if_neg h]
    cases q : bt (N a) b with
    | true => rfl
    | false => exact absurd ((tst0 (hN.1 a a0 a1) (by omega) b0 (by omega)).mpr q) h
theorem NetOK_0 {nt : Int} {G : Hp} (hN : NW N) (hG : ∀ w, 0 ≤ w → w < 10 → G (nt + 1) w = N w) (h0 : G nt 3 = 0) : NetOK G nt := by
  refine ⟨NW_congr (fun w w0 w1 => (hG w w0 w1).symm) hN, by rw [h0]; exact Mk.zero 10, fun t t0 t1 ht => ?_⟩
  rw [h0, bt_zero] at ht
  cases ht
theorem cpart_ok {nt : Int} {G : Hp} (hN : NW N) (hG : ∀ w, 0 ≤ w → w < 10 → G (nt + 1) w = N w) (a0 : 0 ≤ a) (a1 : a < 10) (b0 : 0 ≤ b) (b1 : b < 10) (ab : a ≠ b) :
    ok (cNe_part nt a b G) (fun G' => NetOK G' nt ∧ (∀ w, 0 ≤ w → w < 10 → G' (nt + 1) w = prt N a b w) ∧ ∀ x j, x ≠ nt + 1 → ¬ (x = nt ∧ j = 3) → G' x j = G x j) := by
  unfold cNe_part
  rw [isWord_t a0 a1, isWord_t b0 b1, if_tt, if_tt, gd_ok a0 a1, gd_ok a0 a1, gd_ok b0 b1, gd_ok b0 b1, upd2_o (o := nt + 1) (j := a) (a := nt + 1) (b := b) (fun z => ab z.2.symm), hG a a0 a1, hG b b0 b1]
  have hw : ∀ w, 0 ≤ w → w < 10 → (upd2 (upd2 (upd2 G (nt + 1) a (iand (N a) (ixor (ishl 1 b) (-1)))) (nt + 1) b (iand (N b) (ixor (ishl 1 a) (-1)))) nt 3 0) (nt + 1) w = prt N a b w := by
    intro w w0 w1
    rw [upd2_o (by omega)]
    unfold prt
    by_cases h1 : w = a
    · rw [upd2_o (fun z => ab (h1.symm.trans z.2)), upd2_e rfl h1, if_pos h1]
    · rw [if_neg h1]
      by_cases h2 : w = b
      · rw [upd2_e rfl h2, if_pos h2]
      · rw [upd2_o (fun z => h2 z.2), upd2_o (fun z => h1 z.2), if_neg h2, hG w w0 w1]
  refine ok_some ⟨NetOK_0 (prt_NW hN a0 a1 b0 b1 ab) hw upd2_s, hw, fun x j h1 h2 => ?_⟩
  rw [upd2_o h2, upd2_o (fun z => h1 z.1), upd2_o (fun z => h1 z.1)]
theorem cjoin_ok {nt : Int} {G : Hp} (hN : NW N) (hG : ∀ w, 0 ≤ w → w < 10 → G (nt + 1) w = N w) (a0 : 0 ≤ a) (a1 : a < 10) (b0 : 0 ≤ b) (b1 : b < 10) (ab : a ≠ b) :
    ok (cNe_join nt a b G) (fun G' => NetOK G' nt ∧ (∀ w, 0 ≤ w → w < 10 → G' (nt + 1) w = jon N a b w) ∧ ∀ x j, x ≠ nt + 1 → ¬ (x = nt ∧ j = 3) → G' x j = G x j) := by
  unfold cNe_join
  rw [isWord_t a0 a1, isWord_t b0 b1, if_tt, if_tt, gd_ok a0 a1, gd_ok a0 a1, gd_ok b0 b1, gd_ok b0 b1, upd2_o (o := nt + 1) (j := a) (a := nt + 1) (b := b) (fun z => ab z.2.symm), hG a a0 a1, hG b b0 b1]
  have hw : ∀ w, 0 ≤ w → w < 10 → (upd2 (upd2 (upd2 G (nt + 1) a (ior (N a) (ishl 1 b))) (nt + 1) b (ior (N b) (ishl 1 a))) nt 3 0) (nt + 1) w = jon N a b w := by
    intro w w0 w1
    rw [upd2_o (by omega)]
    unfold jon
    by_cases h1 : w = a
    · rw [upd2_o (fun z => ab (h1.symm.trans z.2)), upd2_e rfl h1, if_pos h1]
    · rw [if_neg h1]
      by_cases h2 : w = b
      · rw [upd2_e rfl h2, if_pos h2]
      · rw [upd2_o (fun z => h2 z.2), upd2_o (fun z => h1 z.2), if_neg h2, hG w w0 w1]
  refine ok_some ⟨NetOK_0 (jon_NW hN a0 a1 b0 b1 ab) hw upd2_s, hw, fun x j h1 h2 => ?_⟩
  rw [upd2_o h2, upd2_o (fun z => h1 z.1), upd2_o (fun z => h1 z.1)]
/-- joined (1) or parted (0) -/
def jpN (N : Int → Int) (a b is : Int) : Int → Int := if is = 0 then prt N a b else jon N a b
theorem mjoins_ok {G : Hp} {is : Int} (hM : MN N G) (a0 : 0 ≤ a) (a1 : a < 10) (b0 : 0 ≤ b) (b1 : b < 10) (ab : a ≠ b) :
    ok (mm_joins a b is G) (fun G' => MN (jpN N a b is) G' ∧ ∀ o j, o ≠ 205 → o ≠ 206 → G' o j = G o j) := by
  have key : ∀ (va vb : Int) (N' : Int → Int), NW N' → (∀ w, 0 ≤ w → w < 10 → (if w = a then va else if w = b then vb else N w) = N' w) → ok (gd b 10 ((mm_laysSteps (upd2 (upd2 G 205 a va) 205 b vb)).bind fun G71 => some G71)) (fun G' => MN N' G' ∧ ∀ o j, o ≠ 205 → o ≠ 206 → G' o j = G o j) := by
    intro va vb N' hN' hv
    have hw : ∀ w, 0 ≤ w → w < 10 → (upd2 (upd2 G 205 a va) 205 b vb) 205 w = N' w := by
      intro w w0 w1
      rw [← hv w w0 w1]
      by_cases h1 : w = a
      · rw [upd2_o (fun z => ab (h1.symm.trans z.2)), upd2_e rfl h1, if_pos h1]
      · rw [if_neg h1]
        by_cases h2 : w = b
        · rw [upd2_e rfl h2, if_pos h2]
        · rw [upd2_o (fun z => h2 z.2), upd2_o (fun z => h1 z.2), if_neg h2, hM.2.1 w w0 w1]
    refine ok_gd b0 b1 (ok_then (lays_ok hN' hw) fun G' hG' => ok_some ⟨⟨hN', fun w w0 w1 => ?_, hG'.2⟩, fun o j h1 h2 => ?_⟩)
    · rw [hG'.1 _ _ (by omega)]
      exact hw w w0 w1
    · rw [hG'.1 _ _ h2, upd2_o (by omega), upd2_o (by omega)]
  have eo : ∀ v : Int, (upd2 G 205 a v) 205 b = N b := fun v => by rw [upd2_o (fun z => ab z.2.symm), hM.2.1 b b0 b1]
  unfold mm_joins jpN
  by_cases h : is = 0
  · rw [if_pos h, if_pos h, gd_ok a0 a1]
    unfold mm_joins_j34
    rw [gd_ok a0 a1, if_pos h, gd_ok b0 b1, eo, hM.2.1 a a0 a1]
    unfold mm_joins_j69
    exact key _ _ _ (prt_NW hM.1 a0 a1 b0 b1 ab) fun w w0 w1 => rfl
  · rw [if_neg h, if_neg h, gd_ok a0 a1]
    unfold mm_joins_j34
    rw [gd_ok a0 a1, if_neg h, gd_ok b0 b1, eo, hM.2.1 a a0 a1]
    unfold mm_joins_j69
    exact key _ _ _ (jon_NW hM.1 a0 a1 b0 b1 ab) fun w w0 w1 => rfl
end PJ
theorem MN.congr {N N' : Int → Int} {G : Hp} (h : MN N G) (hN : ∀ w, 0 ≤ w → w < 10 → N w = N' w) : MN N' G :=
  ⟨NW_congr hN h.1, fun w w0 w1 => by rw [← hN w w0 w1]; exact h.2.1 w w0 w1, fun a w a0 a1 w0 w1 => by rw [← dst_congr hN]; exact h.2.2 a w a0 a1 w0 w1⟩
-- rows copied
theorem copyRow_ok {n a b : Int} {G : Hp} (hn : 0 ≤ n) (hab : a ≠ b) : ok (cX_copyRow n a b G) (fun G' => (∀ j, 0 ≤ j → j < n → G' b j = G a j) ∧ ∀ x j, x ≠ b → G' x j = G x j) := by
  unfold cX_copyRow
  have e : min n n = n := by omega
  rw [e]
  refine ok_cpy (by omega) (by omega) hn (by omega) (by omega) (ok_some ⟨fun j j0 j1 => ?_, fun x j h => ?_⟩)
  · unfold cpy2
    rw [if_pos ⟨rfl, j0, by omega⟩]
    congr 1
    omega
  · unfold cpy2
    rw [if_neg (fun z => h z.1)]
theorem ncopy_ok {s d : Int} {G : Hp} (hs : NetOK G s) (hd : s + 3 < d ∨ d + 3 < s) : ok (cNe_copy d s G) (fun G' => NetOK G' d ∧ (∀ w, 0 ≤ w → w < 10 → G' (d + 1) w = G (s + 1) w) ∧ ∀ x j, ¬ (d < x ∧ x ≤ d + 3) → ¬ (x = d ∧ j = 3) → G' x j = G x j) := by
  unfold cNe_copy
  refine ok_then (copyRow_ok (by omega) (by omega)) fun G1 h1 => ?_
  refine ok_then (copyRow_ok (by omega) (by omega)) fun G2 h2 => ?_
  refine ok_then (copyRow_ok (by omega) (by omega)) fun G3 h3 => ?_
  have b1 : ∀ w, 0 ≤ w → w < 10 → (upd2 G3 d 3 (G3 s 3)) (d + 1) w = G (s + 1) w := fun w w0 w1 => by
    rw [upd2_o (by omega), h3.2 _ _ (by omega), h2.2 _ _ (by omega), h1.1 w w0 w1]
  have b2 : ∀ j, 0 ≤ j → j < 100 → (upd2 G3 d 3 (G3 s 3)) (d + 2) j = G (s + 2) j := fun w w0 w1 => by
    rw [upd2_o (by omega), h3.2 _ _ (by omega), h2.1 w w0 w1, h1.2 _ _ (by omega)]
  have b3 : ∀ j, 0 ≤ j → j < 100 → (upd2 G3 d 3 (G3 s 3)) (d + 3) j = G (s + 3) j := fun w w0 w1 => by
    rw [upd2_o (by omega), h3.1 w w0 w1, h2.2 _ _ (by omega), h1.2 _ _ (by omega)]
  have b4 : (upd2 G3 d 3 (G3 s 3)) d 3 = G s 3 := by rw [upd2_s, h3.2 _ _ (by omega), h2.2 _ _ (by omega), h1.2 _ _ (by omega)]
  refine ok_some ⟨⟨NW_congr (fun w w0 w1 => (b1 w w0 w1).symm) hs.1, by rw [b4]; exact hs.2.1, fun t t0 t1 ht w w0 w1 => ?_⟩, b1, fun x j q1 q2 => ?_⟩
  · rw [b4] at ht
    have := hs.2.2 t t0 t1 ht w w0 w1
    rw [b2 _ (by omega) (by omega), b3 _ (by omega) (by omega), dst_congr b1, tw_congr b1 w0 w1]
    exact this
  · rw [upd2_o q2, h3.2 _ _ (by omega), h2.2 _ _ (by omega), h1.2 _ _ (by omega)]
