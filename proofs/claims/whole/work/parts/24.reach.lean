-- the class: how far a net's words are from one
def bu (x k : Int) : Bool := (U x).testBit k.toNat
theorem bu_bt {x k : Int} (h : Mk 31 x) : bu x k = bt x k := by
  unfold bu bt
  rw [U_nn h.1 (by have := h.lt (by omega); omega)]
theorem bu_and (a b k : Int) : bu (iand a b) k = (bu a k && bu b k) := by
  unfold bu
  rw [iand_U, U_Sg (and_le (U_lt a)), Nat.testBit_and]
theorem bu_not {x k : Int} (h0 : 0 ≤ k) (h1 : k < 32) : bu (ixor x (-1)) k = !bu x k := by
  unfold bu
  have e : U (-1) = 2 ^ 32 - 1 := rfl
  rw [ixor_U, U_Sg (Nat.xor_lt_two_pow (n := 32) (U_lt _) (U_lt _)), Nat.testBit_xor, e, Nat.testBit_two_pow_sub_one]
  have : k.toNat < 32 := by omega
  simp [this]
theorem Mk_and_any {m x : Int} {n : Nat} (hm : Mk n m) (hn : n ≤ 31) : Mk n (iand m x) := by
  have h1 := two31 hn
  have h2 : U m = m.toNat := U_nn hm.1 (by have := hm.lt hn; omega)
  have h3 : m.toNat < 2 ^ n := by have := hm.1; have := hm.2; omega
  have h4 := and_le (b := U x) h3
  rw [iand_U, h2, Sg_lo (by omega)]
  exact ⟨by omega, by omega⟩
theorem bt_and_any {m x k : Int} {n : Nat} (hm : Mk n m) (hn : n ≤ 31) : bt (iand m x) k = (bt m k && bu x k) := by
  rw [← bu_bt ((Mk_and_any hm hn).mono hn), bu_and, bu_bt (hm.mono hn)]
theorem bt_all0 {c : Int} {n : Nat} (hc : Mk n c) (hn : n ≤ 31) : c = 0 ↔ ∀ k : Int, 0 ≤ k → k < n → bt c k = false := by
  constructor
  · intro h k _ _
    rw [h, bt_zero]
  · intro h
    exact Mk.ext hc (Mk.zero n) fun k h0 h1 => by rw [h k h0 h1, bt_zero]
/-- d and v put where c has bits, from x on -/
def setL (o b x c d v : Int) (G : Hp) : Hp := fun a j => if a = o + 2 ∧ b + x ≤ j ∧ j < b + 10 ∧ bt c (j - b) = true then d else if a = o + 3 ∧ b + x ≤ j ∧ j < b + 10 ∧ bt c (j - b) = true then v else G a j
theorem setL_none {o b x c d v : Int} {G : Hp} (h : ∀ k : Int, x ≤ k → k < 10 → bt c k = false) : setL o b x c d v G = G := by
  funext a j
  unfold setL
  have e : ¬ (b + x ≤ j ∧ j < b + 10 ∧ bt c (j - b) = true) := by
    rintro ⟨h1, h2, h3⟩
    rw [h (j - b) (by omega) (by omega)] at h3
    cases h3
  rw [if_neg (fun z => e z.2), if_neg (fun z => e z.2)]
theorem setL_skip {o b x c d v : Int} {G : Hp} (h : bt c x = false) : setL o b (x + 1) c d v G = setL o b x c d v G := by
  funext a j
  unfold setL
  have e : (b + (x + 1) ≤ j ∧ j < b + 10 ∧ bt c (j - b) = true) ↔ (b + x ≤ j ∧ j < b + 10 ∧ bt c (j - b) = true) := by
    constructor
    · rintro ⟨h1, h2, h3⟩
      exact ⟨by omega, h2, h3⟩
    · rintro ⟨h1, h2, h3⟩
      refine ⟨?_, h2, h3⟩
      by_cases hj : j = b + x
      · subst hj
        rw [show b + x - b = x by omega, h] at h3
        cases h3
      · omega
  simp only [e]
theorem setL_take {o b x c d v : Int} {G : Hp} (h : bt c x = true) (hx : x < 10) : setL o b (x + 1) c d v (upd2 (upd2 G (o + 2) (b + x) d) (o + 3) (b + x) v) = setL o b x c d v G := by
  funext a j
  unfold setL upd2
  by_cases hj : j = b + x
  · subst hj
    rw [show b + x - b = x by omega, h]
    by_cases h2 : a = o + 2
    · subst h2
      have n1 : ¬ (o + 2 = o + 3) := by omega
      have n2 : ¬ (b + (x + 1) ≤ b + x) := by omega
      have n3 : b + x < b + 10 := by omega
      simp [n1, n2, n3]
    · by_cases h3 : a = o + 3
      · subst h3
        have n2 : ¬ (b + (x + 1) ≤ b + x) := by omega
        have n3 : b + x < b + 10 := by omega
        simp [h2, n2, n3]
      · simp [h2, h3]
  · have e : (b + (x + 1) ≤ j) ↔ (b + x ≤ j) := by omega
    simp only [e]
    simp [hj]
theorem r113 {o a1 b x3 x4 d x6 w c : Int} {k : Hp → Option Hp} {Q : Hp → Prop} (hc : Mk 10 c) (hb : 0 ≤ b) (hb2 : b ≤ 90) : ∀ (m n : Nat) (x : Int) (G : Hp), m < n → 0 ≤ x → x + m = 10 → ok (k (setL o b x c d w G)) Q → ok (cNe_reach_L113 o a1 b x3 x4 d x6 w c k n x G) Q := by
  intro m
  induction m with
  | zero =>
    intro n x G hn h0 hx h
    obtain ⟨n', rfl⟩ : ∃ n', n = n' + 1 := ⟨n - 1, by omega⟩
    rw [cNe_reach_L113, if_neg (by omega)]
    rw [setL_none (fun k _ _ => by omega)] at h
    exact h
  | succ m ih =>
    intro n x G hn h0 hx h
    obtain ⟨n', rfl⟩ : ∃ n', n = n' + 1 := ⟨n - 1, by omega⟩
    rw [cNe_reach_L113, if_pos (by omega)]
    by_cases hc0 : c = 0
    · rw [if_pos hc0]
      rw [setL_none (fun k _ _ => by rw [hc0, bt_zero])] at h
      exact h
    · rw [if_neg hc0]
      have ew : w32 (x + 1) = x + 1 := w32_id (by omega) (by omega)
      have eb : w32 (b + x) = b + x := w32_id (by omega) (by omega)
      rw [ew, eb]
      by_cases hbt : iand (ishr c x) 1 = 0
      · rw [if_pos hbt]
        have hf := (tst0 hc (by omega) h0 (by omega)).mp hbt
        refine ih n' (x + 1) G (by omega) (by omega) (by omega) ?_
        rw [setL_skip hf]
        exact h
      · rw [if_neg hbt]
        have hf : bt c x = true := by
          cases hq : bt c x with
          | true => rfl
          | false => exact absurd ((tst0 hc (by omega) h0 (by omega)).mpr hq) hbt
        refine ok_gd (by omega) (by omega) (ok_gd (by omega) (by omega) ?_)
        refine ih n' (x + 1) _ (by omega) (by omega) (by omega) ?_
        rw [setL_take hf (by omega)]
        exact h
section REACH
variable {N : Int → Int} {to d : Int}
/-- v is as far as the edge, next to n -/
def lvn (N : Int → Int) (to d n : Int) : Int → Bool := fun v => decide (dst N to v = d - 1) && bt (N v) n
def nwB (N : Int → Int) (to d : Int) (w : Nat) (n : Int) : Bool := !rch N to (d - 1).toNat n && anyB (lvn N to d n) w
def stL (N : Int → Int) (o b to d : Int) (w : Nat) (G : Hp) : Hp := fun a j => if a = o + 2 ∧ b ≤ j ∧ j < b + 10 ∧ nwB N to d w (j - b) = true then d else if a = o + 3 ∧ b ≤ j ∧ j < b + 10 ∧ nwB N to d w (j - b) = true then fstB (lvn N to d (j - b)) w else G a j
theorem stL_0 {o b : Int} {G : Hp} : stL N o b to d 0 G = G := by
  funext a j
  unfold stL
  have e : nwB N to d 0 (j - b) = false := by
    unfold nwB
    rw [show anyB (lvn N to d (j - b)) 0 = false from rfl, Bool.and_false]
  rw [e]
  simp
theorem stL_s {o b c : Int} {G : Hp} {w : Nat} (hc : ∀ n : Int, 0 ≤ n → n < 10 → bt c n = (lvn N to d n (w : Int) && (!rch N to (d - 1).toNat n && !anyB (lvn N to d n) w))) : setL o b 0 c d (w : Int) (stL N o b to d w G) = stL N o b to d (w + 1) G := by
  funext a j
  unfold setL stL
  by_cases hj : b ≤ j ∧ j < b + 10
  · have e := hc (j - b) (by omega) (by omega)
    have h1 : b + 0 ≤ j := by omega
    have h2 := hj.1
    have h3 := hj.2
    have en : nwB N to d (w + 1) (j - b) = (!rch N to (d - 1).toNat (j - b) && (anyB (lvn N to d (j - b)) w || lvn N to d (j - b) (w : Int))) := rfl
    have eo : nwB N to d w (j - b) = (!rch N to (d - 1).toNat (j - b) && anyB (lvn N to d (j - b)) w) := rfl
    have ef : fstB (lvn N to d (j - b)) (w + 1) = if fstB (lvn N to d (j - b)) w = -1 then (if lvn N to d (j - b) (w : Int) = true then (w : Int) else -1) else fstB (lvn N to d (j - b)) w := rfl
    rw [e, en, eo, ef]
    cases hr : rch N to (d - 1).toNat (j - b) with
    | true => simp
    | false =>
      cases ha : anyB (lvn N to d (j - b)) w with
      | true =>
        have hne : fstB (lvn N to d (j - b)) w ≠ -1 := by
          obtain ⟨v, v0, v1, v2⟩ := anyB_iff.mp ha
          intro e1
          rcases fstB_cases (lvn N to d (j - b)) w with ⟨-, q⟩ | ⟨q, -⟩
          · rw [q v v0 v1] at v2
            cases v2
          · omega
        simp [h2, h3, hne]
      | false =>
        have he : fstB (lvn N to d (j - b)) w = -1 := fstB_none (anyB_false.mp ha)
        cases hl : lvn N to d (j - b) (w : Int) with
        | true => simp [h2, h3, he]
        | false => simp
  · have h1 : ¬ (b + 0 ≤ j ∧ j < b + 10 ∧ bt c (j - b) = true) := fun z => hj ⟨by omega, z.2.1⟩
    have h2 : ∀ q : Nat, ¬ (b ≤ j ∧ j < b + 10 ∧ nwB N to d q (j - b) = true) := fun q z => hj ⟨z.1, z.2.1⟩
    rw [if_neg (fun z => h1 z.2), if_neg (fun z => h1 z.2), if_neg (fun z => h2 w z.2), if_neg (fun z => h2 w z.2), if_neg (fun z => h2 (w + 1) z.2), if_neg (fun z => h2 (w + 1) z.2)]
theorem stL_1 {o b : Int} {G : Hp} {w : Nat} {j : Int} : stL N o b to d w G (o + 1) j = G (o + 1) j := by
  unfold stL
  rw [if_neg (by omega), if_neg (by omega)]
theorem r78 {o a1 b x4 : Int} {k : Int → Int → Hp → Option Hp} {Q : Hp → Prop} {G0 : Hp} (hb : 0 ≤ b) (hb2 : b ≤ 90) (hN : ∀ w, 0 ≤ w → w < 10 → Mk 10 (N w)) (hG : ∀ w, 0 ≤ w → w < 10 → G0 (o + 1) w = N w) (h4 : Mk 10 x4) (h4b : ∀ v, 0 ≤ v → v < 10 → bt x4 v = decide (dst N to v = d - 1))
    (hk : ∀ x3 x6, (∀ n, 0 ≤ n → n < 10 → bu x3 n = (!rch N to (d - 1).toNat n && !nwB N to d 10 n)) → Mk 10 x6 → (∀ n, 0 ≤ n → n < 10 → bt x6 n = nwB N to d 10 n) → ok (k x3 x6 (stL N o b to d 10 G0)) Q) :
    ∀ (m n x : Nat) (x3 x6 : Int), m < n → x + m = 10 → (∀ n, 0 ≤ n → n < 10 → bu x3 n = (!rch N to (d - 1).toNat n && !nwB N to d x n)) → Mk 10 x6 → (∀ n, 0 ≤ n → n < 10 → bt x6 n = nwB N to d x n) → ok (cNe_reach_L78 o a1 b x4 d k n x3 x6 (x : Int) (stL N o b to d x G0)) Q := by
  intro m
  induction m with
  | zero =>
    intro n x x3 x6 hn hx h3 h6 h6b
    obtain ⟨n', rfl⟩ : ∃ n', n = n' + 1 := ⟨n - 1, by omega⟩
    have : x = 10 := by omega
    subst this
    rw [cNe_reach_L78, if_neg (by omega)]
    exact hk x3 x6 h3 h6 h6b
  | succ m ih =>
    intro n x x3 x6 hn hx h3 h6 h6b
    obtain ⟨n', rfl⟩ : ∃ n', n = n' + 1 := ⟨n - 1, by omega⟩
    rw [cNe_reach_L78, if_pos (by omega)]
    have key : ∀ c : Int, Mk 10 c → (∀ n : Int, 0 ≤ n → n < 10 → bt c n = (lvn N to d n (x : Int) && (!rch N to (d - 1).toNat n && !anyB (lvn N to d n) x))) → ok (cNe_reach_j108 o a1 (cNe_reach_L78 o a1 b x4 d k n') b x3 x4 d x6 (x : Int) c (stL N o b to d x G0)) Q := by
      intro c hc hcb
      unfold cNe_reach_j108
      refine r113 hc hb hb2 10 FU 0 _ (by decide) (by omega) (by omega) ?_
      rw [stL_s hcb]
      have ew : w32 ((x : Int) + 1) = ((x + 1 : Nat) : Int) := by
        rw [w32_id (by omega) (by omega)]
        omega
      rw [ew]
      refine ih n' (x + 1) _ _ (by omega) (by omega) (fun n n0 n1 => ?_) (h6.or hc (by omega)) (fun n n0 n1 => ?_)
      · rw [bu_and, bu_not n0 (by omega), bu_bt (hc.mono (by omega)), h3 n n0 n1, hcb n n0 n1]
        show _ = (!rch N to (d - 1).toNat n && !(!rch N to (d - 1).toNat n && (anyB (lvn N to d n) x || lvn N to d n (x : Int))))
        unfold nwB
        cases rch N to (d - 1).toNat n <;> cases anyB (lvn N to d n) x <;> cases lvn N to d n (x : Int) <;> rfl
      · rw [bt_or h6 hc (by omega) (by omega), h6b n n0 n1, hcb n n0 n1]
        show _ = (!rch N to (d - 1).toNat n && (anyB (lvn N to d n) x || lvn N to d n (x : Int)))
        unfold nwB
        cases rch N to (d - 1).toNat n <;> cases anyB (lvn N to d n) x <;> cases lvn N to d n (x : Int) <;> rfl
    by_cases hbt : iand (ishr x4 (x : Int)) 1 = 0
    · rw [if_pos hbt]
      refine key 0 (Mk.zero 10) fun n n0 n1 => ?_
      have hf := (tst0 h4 (by omega) (by omega) (by omega)).mp hbt
      rw [h4b (x : Int) (by omega) (by omega)] at hf
      rw [bt_zero]
      unfold lvn
      rw [hf]
      rfl
    · rw [if_neg hbt]
      refine ok_gd (by omega) (by omega) ?_
      have hf : bt x4 (x : Int) = true := by
        cases hq : bt x4 (x : Int) with
        | true => rfl
        | false => exact absurd ((tst0 h4 (by omega) (by omega) (by omega)).mpr hq) hbt
      rw [stL_1, hG _ (by omega) (by omega)]
      refine key _ (Mk_and_any (hN _ (by omega) (by omega)) (by omega)) fun n n0 n1 => ?_
      rw [bt_and_any (hN _ (by omega) (by omega)) (by omega), h3 n n0 n1]
      rw [h4b (x : Int) (by omega) (by omega)] at hf
      unfold nwB
      have e : lvn N to d n (x : Int) = bt (N (x : Int)) n := by
        unfold lvn
        rw [hf, Bool.true_and]
      rw [e]
      cases rch N to (d - 1).toNat n <;> cases anyB (lvn N to d n) x <;> simp
end REACH
section REACH2
variable {N : Int → Int} {to : Int}
def twr (N : Int → Int) (to n : Int) : Int := if dst N to n < 1 then -1 else fstB (fun v => decide (dst N to v = dst N to n - 1) && bt (N v) n) 10
theorem twr_tw (hN : NW N) {n : Int} (ht : 0 ≤ to ∧ to < 10) (hn : 0 ≤ n ∧ n < 10) : twr N to n = tw N n to := by
  unfold twr tw
  rw [dst_sym hN ht hn]
  congr 1
  refine fstB_congr fun v v0 v1 => ?_
  rw [dst_sym hN ht ⟨v0, by omega⟩, hN.2.1 v n v0 (by omega) hn.1 hn.2, Bool.and_comm]
theorem nwB_iff {n : Int} {d : Nat} (h0 : 1 ≤ d) (h1 : d < 10) : nwB N to (d : Int) 10 n = decide (dst N to n = (d : Int)) := by
  have e : ((d : Int) - 1).toNat = d - 1 := by omega
  unfold nwB
  rw [e]
  by_cases h : dst N to n = (d : Int)
  · rw [decide_eq_true h]
    obtain ⟨a1, v, v0, v1, v2, v3⟩ := (dst_step h0 h1).mp h
    have : anyB (lvn N to (d : Int) n) 10 = true := anyB_iff.mpr ⟨v, v0, v1, by unfold lvn; rw [decide_eq_true v2, v3]; rfl⟩
    rw [a1, this]
    rfl
  · rw [decide_eq_false h]
    cases hr : rch N to (d - 1) n with
    | true => rfl
    | false =>
      cases ha : anyB (lvn N to (d : Int) n) 10 with
      | false => rfl
      | true =>
        exfalso
        obtain ⟨v, v0, v1, v2⟩ := anyB_iff.mp ha
        unfold lvn at v2
        rw [Bool.and_eq_true, decide_eq_true_eq] at v2
        exact h ((dst_step h0 h1).mpr ⟨hr, v, v0, v1, v2.1, v2.2⟩)
def fsL (N : Int → Int) (o b to : Int) (d : Nat) (G : Hp) : Hp := fun a j => if a = o + 2 ∧ b ≤ j ∧ j < b + 10 then (if rch N to (d - 1) (j - b) = true then dst N to (j - b) else -1) else if a = o + 3 ∧ b ≤ j ∧ j < b + 10 then (if rch N to (d - 1) (j - b) = true then twr N to (j - b) else -1) else G a j
theorem rch_nw {n : Int} {d : Nat} (h0 : 1 ≤ d) (h1 : d < 10) : rch N to d n = (rch N to (d - 1) n || decide (dst N to n = (d : Int))) := by
  have e1 := dst_rch (N := N) (a := to) (w := n) (k := d) (by omega)
  have e2 := dst_rch (N := N) (a := to) (w := n) (k := d - 1) (by omega)
  cases h : rch N to d n with
  | true =>
    have q := e1.mp h
    cases h2 : rch N to (d - 1) n with
    | true => rfl
    | false =>
      have : ¬ (0 ≤ dst N to n ∧ dst N to n ≤ ((d - 1 : Nat) : Int)) := fun z => by
        rw [e2.mpr z] at h2
        cases h2
      have : dst N to n = (d : Int) := by omega
      rw [decide_eq_true this]
      rfl
  | false =>
    have n1 : ¬ (0 ≤ dst N to n ∧ dst N to n ≤ (d : Int)) := fun z => by
      rw [e1.mpr z] at h
      cases h
    have n2 : rch N to (d - 1) n = false := by
      cases h2 : rch N to (d - 1) n with
      | false => rfl
      | true =>
        have := e2.mp h2
        omega
    have n3 : ¬ dst N to n = (d : Int) := by omega
    rw [n2, decide_eq_false n3]
    rfl
theorem fs_step {o b : Int} {G : Hp} {d : Nat} (h0 : 1 ≤ d) (h1 : d < 10) : stL N o b to (d : Int) 10 (fsL N o b to d G) = fsL N o b to (d + 1) G := by
  funext a j
  unfold stL fsL
  rw [nwB_iff h0 h1, Nat.add_sub_cancel, rch_nw h0 h1]
  by_cases hj : b ≤ j ∧ j < b + 10
  · by_cases hd : dst N to (j - b) = (d : Int)
    · have h2 := hj.1
      have h3 := hj.2
      have ne : ¬ (o + 3 = o + 2) := by omega
      have e3 : twr N to (j - b) = fstB (lvn N to (d : Int) (j - b)) 10 := by
        unfold twr
        rw [if_neg (by omega), hd]
        rfl
      by_cases a2 : a = o + 2
      · simp [a2, h2, h3, hd]
      · by_cases a3 : a = o + 3
        · subst a3
          simp [h2, h3, hd, ne, e3]
        · simp [a2, a3]
    · simp [hd]
  · have n1 : ¬ (b ≤ j ∧ j < b + 10 ∧ decide (dst N to (j - b) = (d : Int)) = true) := fun z => hj ⟨z.1, z.2.1⟩
    rw [if_neg (fun z => n1 z.2), if_neg (fun z => n1 z.2), if_neg (fun z => hj z.2), if_neg (fun z => hj z.2), if_neg (fun z => hj z.2), if_neg (fun z => hj z.2)]
theorem fsL_1 {o b : Int} {G : Hp} {d : Nat} {j : Int} : fsL N o b to d G (o + 1) j = G (o + 1) j := by
  unfold fsL
  rw [if_neg (by omega), if_neg (by omega)]
theorem r60 {o a1 b : Int} {k : Hp → Option Hp} {Q : Hp → Prop} {G : Hp} (hb : 0 ≤ b) (hb2 : b ≤ 90) (hN : ∀ w, 0 ≤ w → w < 10 → Mk 10 (N w)) (hG : ∀ w, 0 ≤ w → w < 10 → G (o + 1) w = N w) (hk : ok (k (fsL N o b to 10 G)) Q) :
    ∀ (m n d : Nat) (x3 x4 : Int), m < n → d + m = 10 → 1 ≤ d → (∀ n, 0 ≤ n → n < 10 → bu x3 n = !rch N to (d - 1) n) → Mk 10 x4 → (∀ v, 0 ≤ v → v < 10 → bt x4 v = decide (dst N to v = (d : Int) - 1)) → ok (cNe_reach_L60 o a1 b k n x3 x4 (d : Int) (fsL N o b to d G)) Q := by
  intro m
  induction m with
  | zero =>
    intro n d x3 x4 hn hd h1 h3 h4 h4b
    obtain ⟨n', rfl⟩ : ∃ n', n = n' + 1 := ⟨n - 1, by omega⟩
    have : d = 10 := by omega
    subst this
    rw [cNe_reach_L60, if_neg (by omega)]
    exact hk
  | succ m ih =>
    intro n d x3 x4 hn hd h1 h3 h4 h4b
    obtain ⟨n', rfl⟩ : ∃ n', n = n' + 1 := ⟨n - 1, by omega⟩
    rw [cNe_reach_L60, if_pos (by omega)]
    have ed : ((d : Int) - 1).toNat = d - 1 := by omega
    by_cases h40 : x4 = 0
    · rw [if_pos h40]
      have e : fsL N o b to d G = fsL N o b to 10 G := by
        have key : ∀ n : Int, 0 ≤ n → n < 10 → rch N to (d - 1) n = rch N to 9 n := by
          intro n n0 n1
          cases h9 : rch N to 9 n with
          | false =>
            cases hr : rch N to (d - 1) n with
            | false => rfl
            | true =>
              rw [rch_up hr (show d - 1 ≤ 9 by omega)] at h9
              cases h9
          | true =>
            have q := (dst_rch (N := N) (a := to) (w := n) (k := 9) (by omega)).mp h9
            by_cases hle : dst N to n ≤ ((d - 1 : Nat) : Int)
            · exact (dst_rch (by omega)).mpr ⟨q.1, hle⟩
            · exfalso
              obtain ⟨v, v0, v1, v2⟩ := dst_level (N := N) (a := to) (w := n) (dst N to n).toNat (d - 1) (by omega) (by omega) ⟨n0, n1⟩
              have := h4b v v0 v1
              rw [h40, bt_zero, decide_eq_true (show dst N to v = (d : Int) - 1 by omega)] at this
              cases this
        funext a j
        unfold fsL
        by_cases hj : b ≤ j ∧ j < b + 10
        · rw [key (j - b) (by omega) (by omega)]
        · rw [if_neg (fun z => hj z.2), if_neg (fun z => hj z.2), if_neg (fun z => hj z.2), if_neg (fun z => hj z.2)]
      rw [e]
      exact hk
    · rw [if_neg h40]
      have s0 : fsL N o b to d G = stL N o b to (d : Int) 0 (fsL N o b to d G) := stL_0.symm
      rw [s0]
      refine r78 (G0 := fsL N o b to d G) hb hb2 hN (fun w w0 w1 => by rw [fsL_1]; exact hG w w0 w1) h4 h4b (fun x3' x6' e3 e6 e6b => ?_) 10 FU 0 x3 0 (by decide) (by omega) (fun n n0 n1 => ?_) (Mk.zero 10) (fun n n0 n1 => ?_)
      · rw [fs_step h1 (by omega)]
        have ew : w32 ((d : Int) + 1) = ((d + 1 : Nat) : Int) := by
          rw [w32_id (by omega) (by omega)]
          omega
        rw [ew]
        refine ih n' (d + 1) x3' x6' (by omega) (by omega) (by omega) (fun n n0 n1 => ?_) e6 (fun v v0 v1 => ?_)
        · rw [e3 n n0 n1, ed, nwB_iff h1 (by omega), Nat.add_sub_cancel, rch_nw h1 (by omega)]
          cases rch N to (d - 1) n <;> simp
        · rw [e6b v v0 v1, nwB_iff h1 (by omega)]
          exact decide_eq_decide.mpr (by omega)
      · rw [h3 n n0 n1, ed]
        have : nwB N to (d : Int) 0 n = false := by
          unfold nwB
          rw [show anyB (lvn N to (d : Int) n) 0 = false from rfl, Bool.and_false]
        rw [this]
        simp
      · have : nwB N to (d : Int) 0 n = false := by
          unfold nwB
          rw [show anyB (lvn N to (d : Int) n) 0 = false from rfl, Bool.and_false]
        rw [this, bt_zero]
def clL (o b x : Int) (G : Hp) : Hp := fun a j => if (a = o + 2 ∨ a = o + 3) ∧ b + x ≤ j ∧ j < b + 10 then -1 else G a j
theorem r7 {o a1 b : Int} {k : Hp → Option Hp} {Q : Hp → Prop} (hb : 0 ≤ b) (hb2 : b ≤ 90) : ∀ (m n : Nat) (x : Int) (G : Hp), m < n → 0 ≤ x → x + m = 10 → ok (k (clL o b x G)) Q → ok (cNe_reach_L7 o a1 b k n x G) Q := by
  intro m
  induction m with
  | zero =>
    intro n x G hn h0 hx h
    obtain ⟨n', rfl⟩ : ∃ n', n = n' + 1 := ⟨n - 1, by omega⟩
    rw [cNe_reach_L7, if_neg (by omega)]
    have e : clL o b x G = G := by
      funext a j
      unfold clL
      rw [if_neg (by omega)]
    rw [e] at h
    exact h
  | succ m ih =>
    intro n x G hn h0 hx h
    obtain ⟨n', rfl⟩ : ∃ n', n = n' + 1 := ⟨n - 1, by omega⟩
    rw [cNe_reach_L7, if_pos (by omega)]
    have ew : w32 (x + 1) = x + 1 := w32_id (by omega) (by omega)
    have eb : w32 (b + x) = b + x := w32_id (by omega) (by omega)
    rw [ew, eb]
    refine ok_gd (by omega) (by omega) (ok_gd (by omega) (by omega) (ih n' (x + 1) _ (by omega) (by omega) (by omega) ?_))
    have e : clL o b (x + 1) (upd2 (upd2 G (o + 2) (b + x) (-1)) (o + 3) (b + x) (-1)) = clL o b x G := by
      funext a j
      unfold clL upd2
      by_cases hj : j = b + x
      · subst hj
        have n2 : ¬ (b + (x + 1) ≤ b + x) := by omega
        have n3 : b + x < b + 10 := by omega
        by_cases h2 : a = o + 2 <;> by_cases h3 : a = o + 3 <;> simp [h2, h3, n2, n3]
      · have e2 : (b + (x + 1) ≤ j) ↔ (b + x ≤ j) := by omega
        simp only [e2]
        simp [hj]
    rw [e]
    exact h
/-- a net's cells when one of its words was gone out from -/
def rchd (N : Int → Int) (o to : Int) (G : Hp) : Hp := upd2 (fsL N o (10 * to) to 10 G) o 3 (ior (G o 3) (ishl 1 to))
theorem reach_eq {o : Int} {G : Hp} (h0 : 0 ≤ to) (h1 : to < 10) (hN : ∀ w, 0 ≤ w → w < 10 → Mk 10 (N w)) (hG : ∀ w, 0 ≤ w → w < 10 → G (o + 1) w = N w) : cNe_reach o to G = some (rchd N o to G) := by
  have key : ok (cNe_reach o to G) (fun G' => G' = rchd N o to G) := by
    unfold cNe_reach
    have eb : w32 (10 * to) = 10 * to := w32_id (by omega) (by omega)
    have eb2 : w32 (10 * to + to) = 10 * to + to := w32_id (by omega) (by omega)
    rw [eb, eb2]
    refine r7 (by omega) (by omega) 10 FU 0 G (by decide) (by omega) (by omega) ?_
    refine ok_gd (by omega) (by omega) ?_
    have e1 : upd2 (clL o (10 * to) 0 G) (o + 2) (10 * to + to) 0 = fsL N o (10 * to) to 1 G := by
      funext a j
      unfold upd2 clL fsL
      have hr : ∀ q, rch N to (1 - 1) q = decide (q = to) := fun q => rfl
      rw [hr]
      by_cases hj : 10 * to ≤ j ∧ j < 10 * to + 10
      · have h2 := hj.1
        have h3 := hj.2
        have h4 : 10 * to + 0 ≤ j := by omega
        by_cases hq : j = 10 * to + to
        · subst hq
          have e5 : 10 * to + to - 10 * to = to := by omega
          have e6 : twr N to to = -1 := by
            unfold twr
            rw [dst_self, if_pos (by omega)]
          have n1 : 10 * to ≤ 10 * to + to := by omega
          have n2 : 10 * to + to < 10 * to + 10 := by omega
          have n3 : ¬ (o + 3 = o + 2) := by omega
          rw [e5]
          by_cases a2 : a = o + 2
          · simp [a2, n1, n2, dst_self]
          · by_cases a3 : a = o + 3
            · subst a3
              simp [n1, n2, n3, e6]
            · simp [a2, a3]
        · have n5 : ¬ (j - 10 * to = to) := by omega
          by_cases a2 : a = o + 2
          · simp [a2, h2, h3, hq, n5]
          · by_cases a3 : a = o + 3
            · have n3 : ¬ (o + 3 = o + 2) := by omega
              subst a3
              simp [h2, h3, hq, n5, n3]
            · simp [a2, a3]
      · have n1 : ¬ (a = o + 2 ∧ j = 10 * to + to) := fun z => hj (by omega)
        rw [if_neg n1, if_neg (fun z => hj (by omega)), if_neg (fun z => hj z.2), if_neg (fun z => hj z.2)]
    rw [e1]
    have c1 : ∀ v : Int, 0 ≤ v → v < 10 → bt (ishl 1 to) v = decide (v = to) := fun v v0 v1 => bt_shl h0 (by omega) v0
    refine r60 (by omega) (by omega) hN hG ?_ 9 FU 1 _ _ (by decide) (by omega) (by omega) (fun n n0 n1 => ?_) (Mk.shl h0 h1 (by omega)) (fun v v0 v1 => ?_)
    · refine ok_some ?_
      have e3 : fsL N o (10 * to) to 10 G o 3 = G o 3 := by
        unfold fsL
        rw [if_neg (by omega), if_neg (by omega)]
      rw [e3]
      rfl
    · rw [bu_not n0 (by omega), bu_bt ((Mk.shl (n := 10) h0 h1 (by omega)).mono (by omega)), c1 n n0 n1]
      rfl
    · rw [c1 v v0 v1]
      by_cases hv : v = to
      · subst hv
        rw [dst_self]
        simp
      · rw [decide_eq_false hv]
        symm
        rw [decide_eq_false_iff_not]
        intro e
        have := (dst_iff (N := N) (a := to) (w := v) (k := 0) (by omega)).mp (by omega)
        exact hv (of_decide_eq_true this.1)
  obtain ⟨r, h2, h3⟩ := key
  rw [h2, h3]
end REACH2
/-- a net as it should be: near each other, and what is kept is right -/
def NetOK (G : Hp) (o : Int) : Prop := NW (G (o + 1)) ∧ Mk 10 (G o 3) ∧ ∀ t : Int, 0 ≤ t → t < 10 → bt (G o 3) t = true → ∀ w : Int, 0 ≤ w → w < 10 → G (o + 2) (10 * t + w) = dst (G (o + 1)) t w ∧ G (o + 3) (10 * t + w) = tw (G (o + 1)) w t
/-- another only in what the net keeps -/
def CE (o : Int) (G G' : Hp) : Prop := (∀ a j : Int, a ≠ o + 2 → a ≠ o + 3 → ¬ (a = o ∧ j = 3) → G' a j = G a j) ∧ NetOK G' o
theorem CE.refl {o : Int} {G : Hp} (h : NetOK G o) : CE o G G := ⟨fun _ _ _ _ _ => rfl, h⟩
theorem CE.trans {o : Int} {G G' G'' : Hp} (h1 : CE o G G') (h2 : CE o G' G'') : CE o G G'' := ⟨fun a j x y z => (h2.1 a j x y z).trans (h1.1 a j x y z), h2.2⟩
theorem CE.net {o : Int} {G G' : Hp} (h : CE o G G') : G' (o + 1) = G (o + 1) := funext fun j => h.1 _ j (by omega) (by omega) (by omega)
theorem rchd_CE {o to : Int} {G : Hp} (hN : NetOK G o) (h0 : 0 ≤ to) (h1 : to < 10) : CE o G (rchd (G (o + 1)) o to G) ∧ bt (rchd (G (o + 1)) o to G o 3) to = true := by
  have fr : ∀ a j : Int, a ≠ o + 2 → a ≠ o + 3 → ¬ (a = o ∧ j = 3) → rchd (G (o + 1)) o to G a j = G a j := by
    intro a j x y z
    unfold rchd
    rw [upd2_o z]
    unfold fsL
    rw [if_neg (fun q => x q.1), if_neg (fun q => y q.1)]
  have e1 : rchd (G (o + 1)) o to G (o + 1) = G (o + 1) := funext fun j => fr _ j (by omega) (by omega) (by omega)
  have e3 : rchd (G (o + 1)) o to G o 3 = ior (G o 3) (ishl 1 to) := upd2_s
  have ms : Mk 10 (ishl 1 to) := Mk.shl h0 h1 (by omega)
  have f2 : ∀ j, rchd (G (o + 1)) o to G (o + 2) j = if 10 * to ≤ j ∧ j < 10 * to + 10 then (if rch (G (o + 1)) to 9 (j - 10 * to) = true then dst (G (o + 1)) to (j - 10 * to) else -1) else G (o + 2) j := by
    intro j
    unfold rchd
    rw [upd2_o (by omega)]
    unfold fsL
    by_cases hj : 10 * to ≤ j ∧ j < 10 * to + 10
    · rw [if_pos ⟨rfl, hj⟩, if_pos hj]
    · rw [if_neg (fun z => hj z.2), if_neg (fun z => hj z.2), if_neg hj]
  have f3 : ∀ j, rchd (G (o + 1)) o to G (o + 3) j = if 10 * to ≤ j ∧ j < 10 * to + 10 then (if rch (G (o + 1)) to 9 (j - 10 * to) = true then twr (G (o + 1)) to (j - 10 * to) else -1) else G (o + 3) j := by
    intro j
    unfold rchd
    rw [upd2_o (by omega)]
    unfold fsL
    by_cases hj : 10 * to ≤ j ∧ j < 10 * to + 10
    · rw [if_neg (by omega), if_pos ⟨rfl, hj⟩, if_pos hj]
    · rw [if_neg (fun z => hj z.2), if_neg (fun z => hj z.2), if_neg hj]
  refine ⟨⟨fr, ?_, ?_, ?_⟩, ?_⟩
  · rw [e1]; exact hN.1
  · rw [e3]; exact hN.2.1.or ms (by omega)
  · intro t t0 t1 ht w w0 w1
    rw [e1, f2, f3]
    by_cases htt : t = to
    · subst htt
      have hcw : 10 * t ≤ 10 * t + w ∧ 10 * t + w < 10 * t + 10 := by omega
      have e9 : 10 * t + w - 10 * t = w := by omega
      rw [if_pos hcw, if_pos hcw, e9]
      cases h9 : rch (G (o + 1)) t 9 w with
      | true =>
        rw [if_pos rfl, if_pos rfl]
        exact ⟨rfl, twr_tw hN.1 ⟨h0, h1⟩ ⟨w0, w1⟩⟩
      | false =>
        rw [if_neg (by decide), if_neg (by decide)]
        have hd := dst_none.mpr h9
        refine ⟨hd.symm, ?_⟩
        unfold tw
        rw [dst_sym hN.1 ⟨w0, w1⟩ ⟨h0, h1⟩, hd, if_pos (by omega)]
    · rw [if_neg (by omega), if_neg (by omega)]
      rw [e3, bt_or hN.2.1 ms (by omega) (by omega), bt_shl h0 (by omega) t0, decide_eq_false htt, Bool.or_false] at ht
      exact hN.2.2 t t0 t1 ht w w0 w1
  · rw [e3, bt_or hN.2.1 ms (by omega) (by omega), bt_shl h0 (by omega) h0, decide_eq_true rfl, Bool.or_true]
def isWd (w : Int) : Prop := 0 ≤ w ∧ w < 10
theorem next_ok {o f t : Int} {G : Hp} (hN : NetOK G o) : ok (cNe_next o f t G) (fun r => r.1 = (if 0 ≤ f ∧ f < 10 ∧ 0 ≤ t ∧ t < 10 then tw (G (o + 1)) f t else -1) ∧ CE o G r.2) := by
  unfold cNe_next
  by_cases f0 : f < 0
  · rw [if_pos f0]
    exact ok_some ⟨by rw [if_neg (by omega)], CE.refl hN⟩
  rw [if_neg f0]
  by_cases f1 : f < 10
  · rw [if_pos f1]
    by_cases t0 : t < 0
    · rw [if_pos t0]
      exact ok_some ⟨by rw [if_neg (by omega)], CE.refl hN⟩
    rw [if_neg t0]
    by_cases t1 : 10 ≤ t
    · rw [if_pos t1]
      exact ok_some ⟨by rw [if_neg (by omega)], CE.refl hN⟩
    rw [if_neg t1, if_pos (show 0 ≤ f ∧ f < 10 ∧ 0 ≤ t ∧ t < 10 by omega)]
    have e1 : w32 (10 * t) = 10 * t := w32_id (by omega) (by omega)
    have e2 : w32 (10 * t + f) = 10 * t + f := w32_id (by omega) (by omega)
    by_cases hb : iand (ishr (G o 3) t) 1 = 0
    · rw [if_pos hb, reach_eq (N := G (o + 1)) (by omega) (by omega) hN.1.1 (fun _ _ _ => rfl)]
      show ok (cNe_next_j38 o f t (rchd (G (o + 1)) o t G)) _
      unfold cNe_next_j38
      obtain ⟨c1, c2⟩ := rchd_CE hN (to := t) (by omega) (by omega)
      rw [e1, e2]
      refine ok_gd (by omega) (by omega) (ok_some ⟨?_, c1⟩)
      have := (c1.2.2.2 t (by omega) (by omega) c2 f (by omega) (by omega)).2
      rw [c1.net] at this
      exact this
    · rw [if_neg hb]
      unfold cNe_next_j38
      rw [e1, e2]
      refine ok_gd (by omega) (by omega) (ok_some ⟨?_, CE.refl hN⟩)
      have hbt : bt (G o 3) t = true := by
        cases hq : bt (G o 3) t with
        | true => rfl
        | false => exact absurd ((tst0 hN.2.1 (by omega) (by omega) (by omega)).mpr hq) hb
      exact (hN.2.2 t (by omega) (by omega) hbt f (by omega) (by omega)).2
  · rw [if_neg f1]
    exact ok_some ⟨by rw [if_neg (by omega)], CE.refl hN⟩
theorem between_ok {o f t : Int} {G : Hp} (hN : NetOK G o) : ok (cNe_between o f t G) (fun r => r.1 = (if 0 ≤ f ∧ f < 10 ∧ 0 ≤ t ∧ t < 10 then dst (G (o + 1)) f t else -1) ∧ CE o G r.2) := by
  unfold cNe_between
  by_cases f0 : f < 0
  · rw [if_pos f0]
    exact ok_some ⟨by rw [if_neg (by omega)], CE.refl hN⟩
  rw [if_neg f0]
  by_cases f1 : f < 10
  · rw [if_pos f1]
    by_cases t0 : t < 0
    · rw [if_pos t0]
      exact ok_some ⟨by rw [if_neg (by omega)], CE.refl hN⟩
    rw [if_neg t0]
    by_cases t1 : 10 ≤ t
    · rw [if_pos t1]
      exact ok_some ⟨by rw [if_neg (by omega)], CE.refl hN⟩
    rw [if_neg t1, if_pos (show 0 ≤ f ∧ f < 10 ∧ 0 ≤ t ∧ t < 10 by omega), dst_sym hN.1 ⟨by omega, by omega⟩ ⟨by omega, by omega⟩]
    have e1 : w32 (10 * t) = 10 * t := w32_id (by omega) (by omega)
    have e2 : w32 (10 * t + f) = 10 * t + f := w32_id (by omega) (by omega)
    by_cases hb : iand (ishr (G o 3) t) 1 = 0
    · rw [if_pos hb, reach_eq (N := G (o + 1)) (by omega) (by omega) hN.1.1 (fun _ _ _ => rfl)]
      show ok (cNe_between_j38 o f t (rchd (G (o + 1)) o t G)) _
      unfold cNe_between_j38
      obtain ⟨c1, c2⟩ := rchd_CE hN (to := t) (by omega) (by omega)
      rw [e1, e2]
      refine ok_gd (by omega) (by omega) (ok_some ⟨?_, c1⟩)
      have := (c1.2.2.2 t (by omega) (by omega) c2 f (by omega) (by omega)).1
      rw [c1.net] at this
      exact this
    · rw [if_neg hb]
      unfold cNe_between_j38
      rw [e1, e2]
      refine ok_gd (by omega) (by omega) (ok_some ⟨?_, CE.refl hN⟩)
      have hbt : bt (G o 3) t = true := by
        cases hq : bt (G o 3) t with
        | true => rfl
        | false => exact absurd ((tst0 hN.2.1 (by omega) (by omega) (by omega)).mpr hq) hb
      exact (hN.2.2 t (by omega) (by omega) hbt f (by omega) (by omega)).1
  · rw [if_neg f1]
    exact ok_some ⟨by rw [if_neg (by omega)], CE.refl hN⟩
