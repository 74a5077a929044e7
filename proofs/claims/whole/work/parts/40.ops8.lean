-- kin
def knB (N : Int → Int) (a : Int) : Int → Bool := fun w => !decide (dst N a w = -1)
def kn (N : Int → Int) (a : Int) : Int := bm (knB N a) 10
theorem kn_Mk (N : Int → Int) (a : Int) : Mk 10 (kn N a) := bm_Mk _ 10 (by omega)
theorem kinOf_ok {G : Hp} {nt a : Int} {N : Int → Int} (hN : NW N) (hn : NetOK G nt) (hG : ∀ w, 0 ≤ w → w < 10 → G (nt + 1) w = N w) (a0 : 0 ≤ a) (a1 : a < 10) : ok (cNe_kinOf nt a G) (fun x => x.1 = kn N a ∧ CE nt G x.2) := by
  unfold cNe_kinOf
  refine lp_up (fun n i (s : Int × Hp) => cNe_kinOf_L4 nt a n s.1 i s.2) 10 (fun i s => s.1 = bm (knB N a) i.toNat ∧ CE nt G s.2) ?_ ?_ (by omega) (by omega) (by omega) (s := (0, G)) ⟨rfl, CE.refl hn⟩
  · intro n i s i0 i1 hI ih
    obtain ⟨x, G1⟩ := s
    obtain ⟨e1, e2⟩ := hI
    simp only at e1 e2
    have hs := bm_s (knB N a) i0
    have hG1 : ∀ w, 0 ≤ w → w < 10 → G1 (nt + 1) w = N w := fun w w0 w1 => by rw [e2.net]; exact hG w w0 w1
    show ok (cNe_kinOf_L4 nt a (n + 1) x i G1) _
    rw [cNe_kinOf_L4, if_pos i1, w32_id (by omega) (by omega)]
    refine ok_then (between_N e2.2 hG1) fun y hy => ?_
    rw [hy.1, dst2_in i0 i1 a0 a1, dst_sym hN ⟨i0, i1⟩ ⟨a0, a1⟩]
    refine ok_ite (fun e => ih (x, y.2) ⟨?_, e2.trans hy.2⟩) (fun e => ih (_, y.2) ⟨?_, e2.trans hy.2⟩)
    · show x = _
      rw [hs, if_neg (by unfold knB; simp [e]), e1]
    · show ior x (ishl 1 i) = _
      rw [hs, if_pos (by unfold knB; simp [e]), e1]
  · intro n s hI
    obtain ⟨x, G1⟩ := s
    show ok (cNe_kinOf_L4 nt a (n + 1) x 10 G1) _
    rw [cNe_kinOf_L4, if_neg (by omega)]
    exact ok_some hI
theorem mkinOf_ok {G : Hp} {a : Int} {N : Int → Int} (hM : MN N G) (a0 : 0 ≤ a) (a1 : a < 10) : mm_kinOf a G = some (kn N a) := by
  apply ok_iff
  unfold mm_kinOf
  refine lp_up (fun n i (s : Int) => mm_kinOf_L4 a G n s i) 10 (fun i s => s = bm (knB N a) i.toNat) ?_ ?_ (by omega) (by omega) (by omega) rfl
  · intro n i s i0 i1 hI ih
    have hs := bm_s (knB N a) i0
    have hm := bm_Mk (knB N a) i.toNat (by omega)
    show ok (mm_kinOf_L4 a G (n + 1) s i) _
    rw [mm_kinOf_L4, if_pos i1, w32_id (z := 10 * a) (by omega) (by omega), w32_id (z := 10 * a + i) (by omega) (by omega), w32_id (by omega) (by omega), hM.2.2 a i a0 a1 i0 i1]
    refine ok_gd (by omega) (by omega) (ok_ite (fun e => ih _ ?_) (fun e => ih _ ?_))
    · rw [hs, if_neg (by unfold knB; simp [e]), hI, ior_0 hm (by omega)]
    · rw [hs, if_pos (by unfold knB; simp [e]), hI]
  · intro n s hI
    show ok (mm_kinOf_L4 a G (n + 1) s 10) _
    rw [mm_kinOf_L4, if_neg (by omega)]
    exact ok_some hI
def mxS (g : Int → Int) : Nat → Int
  | 0 => 0
  | k + 1 => max (mxS g k) (g (k : Int))
theorem mxS_s (g : Int → Int) {i : Int} (h : 0 ≤ i) : mxS g (i + 1).toNat = max (mxS g i.toNat) (g i) := by
  have e : (i + 1).toNat = i.toNat + 1 := by omega
  have e2 : ((i.toNat : Nat) : Int) = i := by omega
  rw [e]
  show max (mxS g i.toNat) (g ((i.toNat : Nat) : Int)) = _
  rw [e2]
def kd1 (N : Int → Int) (w : Int) : Int := b2i (decide (iand (kn N w) (w32 (ishl 1 w - 1)) = 0))
def kds (N : Int → Int) : Int := sm (kd1 N) 10
def lgs (N : Int → Int) : Int := mxS (fun w => pop (kn N w)) 10
theorem kinds_ok {G : Hp} {nt : Int} {N : Int → Int} (hN : NW N) (hn : NetOK G nt) (hG : ∀ w, 0 ≤ w → w < 10 → G (nt + 1) w = N w) : ok (cNe_kinds nt G) (fun x => x.1 = kds N ∧ CE nt G x.2) := by
  unfold cNe_kinds
  refine lp_up (fun n i (s : Int × Hp) => cNe_kinds_L4 nt n s.1 i s.2) 10 (fun i s => s.1 = sm (kd1 N) i.toNat ∧ CE nt G s.2) ?_ ?_ (by omega) (by omega) (by omega) (s := (0, G)) ⟨rfl, CE.refl hn⟩
  · intro n i s i0 i1 hI ih
    obtain ⟨x, G1⟩ := s
    obtain ⟨e1, e2⟩ := hI
    simp only at e1 e2
    have hs := sm_s (kd1 N) i0
    have hb := sm_r (f := kd1 N) (a := 0) (b := 1) (n := i.toNat) (fun j _ _ => b2i_b _)
    have hG1 : ∀ w, 0 ≤ w → w < 10 → G1 (nt + 1) w = N w := fun w w0 w1 => by rw [e2.net]; exact hG w w0 w1
    show ok (cNe_kinds_L4 nt (n + 1) x i G1) _
    rw [cNe_kinds_L4, if_pos i1, w32_id (z := i + 1) (by omega) (by omega)]
    refine ok_then (kinOf_ok hN e2.2 hG1 i0 i1) fun y hy => ?_
    rw [hy.1]
    refine ok_ite (fun e => ?_) (fun e => ?_)
    · rw [w32_id (by omega) (by omega)]
      refine ih (_, y.2) ⟨?_, e2.trans hy.2⟩
      show x + 1 = _
      rw [hs, e1]
      unfold kd1
      rw [decide_eq_true e]
      rfl
    · rw [w32_id (by omega) (by omega)]
      refine ih (_, y.2) ⟨?_, e2.trans hy.2⟩
      show x + 0 = _
      rw [hs, e1]
      unfold kd1
      rw [decide_eq_false e]
      rfl
  · intro n s hI
    obtain ⟨x, G1⟩ := s
    show ok (cNe_kinds_L4 nt (n + 1) x 10 G1) _
    rw [cNe_kinds_L4, if_neg (by omega)]
    exact ok_some hI
theorem largest_ok {G : Hp} {nt : Int} {N : Int → Int} (hN : NW N) (hn : NetOK G nt) (hG : ∀ w, 0 ≤ w → w < 10 → G (nt + 1) w = N w) : ok (cNe_largest nt G) (fun x => x.1 = lgs N ∧ CE nt G x.2) := by
  unfold cNe_largest
  refine lp_up (fun n i (s : Int × Hp) => cNe_largest_L4 nt n s.1 i s.2) 10 (fun i s => s.1 = mxS (fun w => pop (kn N w)) i.toNat ∧ CE nt G s.2) ?_ ?_ (by omega) (by omega) (by omega) (s := (0, G)) ⟨rfl, CE.refl hn⟩
  · intro n i s i0 i1 hI ih
    obtain ⟨x, G1⟩ := s
    obtain ⟨e1, e2⟩ := hI
    simp only at e1 e2
    have hs := mxS_s (fun w => pop (kn N w)) i0
    have hG1 : ∀ w, 0 ≤ w → w < 10 → G1 (nt + 1) w = N w := fun w w0 w1 => by rw [e2.net]; exact hG w w0 w1
    show ok (cNe_largest_L4 nt (n + 1) x i G1) _
    rw [cNe_largest_L4, if_pos i1, w32_id (z := i + 1) (by omega) (by omega)]
    refine ok_then (kinOf_ok hN e2.2 hG1 i0 i1) fun y hy => ?_
    rw [hy.1, bc (kn_Mk N i)]
    refine ih (_, y.2) ⟨?_, e2.trans hy.2⟩
    show max x (pop (kn N i)) = _
    rw [hs, e1]
  · intro n s hI
    obtain ⟨x, G1⟩ := s
    show ok (cNe_largest_L4 nt (n + 1) x 10 G1) _
    rw [cNe_largest_L4, if_neg (by omega)]
    exact ok_some hI
theorem kinAll_ok {G : Hp} {is : Int} {N : Int → Int} (hM : MN N G) : mm_kinAll is G = some (if is = 0 then kds N else lgs N) := by
  apply ok_iff
  unfold mm_kinAll
  refine lp_up (fun n i (s : Int × Int) => mm_kinAll_L7 is G (fun x2_71 x3_71 => if is = 0 then some x2_71 else some x3_71) n s.1 s.2 i) 10 (fun i s => s.1 = sm (kd1 N) i.toNat ∧ s.2 = mxS (fun w => pop (kn N w)) i.toNat) ?_ ?_ (by omega) (by omega) (by omega) (s := (0, 0)) ⟨rfl, rfl⟩
  · intro n i s i0 i1 hI ih
    obtain ⟨x, y⟩ := s
    obtain ⟨e1, e2⟩ := hI
    simp only at e1 e2
    have hs := sm_s (kd1 N) i0
    have hb := sm_r (f := kd1 N) (a := 0) (b := 1) (n := i.toNat) (fun j _ _ => b2i_b _)
    have hs2 := mxS_s (fun w => pop (kn N w)) i0
    show ok (mm_kinAll_L7 is G _ (n + 1) x y i) _
    have key : ∀ v : Int, v = kd1 N i → ok (mm_kinAll_j36 is G (mm_kinAll_L7 is G (fun x2_71 x3_71 => if is = 0 then some x2_71 else some x3_71) n) y i v x) (fun r => r = if is = 0 then kds N else lgs N) := by
      intro v hv
      have hv1 : 0 ≤ v ∧ v ≤ 1 := by rw [hv]; exact b2i_b _
      unfold mm_kinAll_j36
      rw [mkinOf_ok hM i0 i1, Option.bind_some, bitsOf_ok (kn_Mk N i), Option.bind_some, Option.bind_some, bitsOf_ok (kn_Mk N i), Option.bind_some, w32_id (z := x + v) (by omega) (by omega), w32_id (by omega) (by omega)]
      refine ok_ite (fun e => ih (_, _) ⟨?_, ?_⟩) (fun e => ih (_, _) ⟨?_, ?_⟩)
      · show x + v = _
        rw [hs, e1, hv]
      · show pop (kn N i) = _
        rw [hs2]
        omega
      · show x + v = _
        rw [hs, e1, hv]
      · show y = _
        rw [hs2]
        omega
    rw [mm_kinAll_L7, if_pos i1, mkinOf_ok hM i0 i1, Option.bind_some]
    refine ok_ite (fun e => key 1 ?_) (fun e => key 0 ?_)
    · unfold kd1
      rw [decide_eq_true e]
      rfl
    · unfold kd1
      rw [decide_eq_false e]
      rfl
  · intro n s hI
    obtain ⟨x, y⟩ := s
    obtain ⟨e1, e2⟩ := hI
    show ok (mm_kinAll_L7 is G _ (n + 1) x y 10) _
    rw [mm_kinAll_L7, if_neg (by omega)]
    refine ok_ite (fun e => ok_some ?_) (fun e => ok_some ?_)
    · rw [if_pos e]
      exact e1
    · rw [if_neg e]
      exact e2
/-- the widest -/
def wd1 (N : Int → Int) (k : Int) : Int := dst N (k / 10) (k % 10)
def wds (N : Int → Int) : Int := mxS (wd1 N) 100
theorem wd1_at (N : Int → Int) {a b : Int} (b0 : 0 ≤ b) (b1 : b < 10) : wd1 N (10 * a + b) = dst N a b := by
  unfold wd1
  rw [show (10 * a + b) / 10 = a by omega, show (10 * a + b) % 10 = b by omega]
theorem widest_ok {G : Hp} {nt : Int} {N : Int → Int} (hn : NetOK G nt) (hG : ∀ w, 0 ≤ w → w < 10 → G (nt + 1) w = N w) : ok (cNe_widest nt G) (fun x => x.1 = wds N ∧ CE nt G x.2) := by
  unfold cNe_widest
  refine lp_up (fun n i (s : Int × Hp) => cNe_widest_L4 nt n s.1 i s.2) 10 (fun i s => s.1 = mxS (wd1 N) (10 * i).toNat ∧ CE nt G s.2) ?_ ?_ (by omega) (by omega) (by omega) (s := (0, G)) ⟨rfl, CE.refl hn⟩
  · intro n i s i0 i1 hI ih
    obtain ⟨x, G1⟩ := s
    obtain ⟨e1, e2⟩ := hI
    simp only at e1 e2
    show ok (cNe_widest_L4 nt (n + 1) x i G1) _
    rw [cNe_widest_L4, if_pos i1, w32_id (z := i + 1) (by omega) (by omega)]
    refine lp_up (fun n2 j (s : Int × Hp) => cNe_widest_L12 nt i (fun x1_35 G_35 => cNe_widest_L4 nt n x1_35 (i + 1) G_35) n2 s.1 j s.2) 10 (fun j s => s.1 = mxS (wd1 N) (10 * i + j).toNat ∧ CE nt G s.2) ?_ ?_ (by omega) (by omega) (by omega) (s := (x, G1)) ⟨by show x = _; rw [e1, Int.add_zero], e2⟩
    · intro n2 j s j0 j1 hI2 ih2
      obtain ⟨x, G1⟩ := s
      obtain ⟨e1, e2⟩ := hI2
      simp only at e1 e2
      have hG1 : ∀ w, 0 ≤ w → w < 10 → G1 (nt + 1) w = N w := fun w w0 w1 => by rw [e2.net]; exact hG w w0 w1
      have hs := mxS_s (wd1 N) (i := 10 * i + j) (by omega)
      show ok (cNe_widest_L12 nt i _ (n2 + 1) x j G1) _
      rw [cNe_widest_L12, if_pos j1, w32_id (z := j + 1) (by omega) (by omega)]
      refine ok_then (between_N e2.2 hG1) fun y hy => ih2 (_, y.2) ⟨?_, e2.trans hy.2⟩
      show max x y.1 = _
      rw [show 10 * i + (j + 1) = 10 * i + j + 1 by omega, hs, hy.1, dst2_in i0 i1 j0 j1, wd1_at N j0 j1, e1]
    · intro n2 s hI2
      obtain ⟨x, G1⟩ := s
      obtain ⟨e1, e2⟩ := hI2
      show ok (cNe_widest_L12 nt i _ (n2 + 1) x 10 G1) _
      rw [cNe_widest_L12, if_neg (by omega)]
      refine ih (x, G1) ⟨?_, e2⟩
      rw [show 10 * (i + 1) = 10 * i + 10 by omega]
      exact e1
  · intro n s hI
    obtain ⟨x, G1⟩ := s
    show ok (cNe_widest_L4 nt (n + 1) x 10 G1) _
    rw [cNe_widest_L4, if_neg (by omega)]
    exact ok_some hI
theorem mwidest_ok {G : Hp} {N : Int → Int} (hM : MN N G) : mm_widest G = some (wds N) := by
  apply ok_iff
  unfold mm_widest
  refine lp_up (fun n i (s : Int) => mm_widest_L4 G n s i) 100 (fun i s => s = mxS (wd1 N) i.toNat) ?_ ?_ (by omega) (by omega) (by omega) rfl
  · intro n i s i0 i1 hI ih
    have hs := mxS_s (wd1 N) i0
    have e : G 206 i = wd1 N i := by
      have := hM.2.2 (i / 10) (i % 10) (by omega) (by omega) (by omega) (by omega)
      rw [show 10 * (i / 10) + i % 10 = i by omega] at this
      exact this
    show ok (mm_widest_L4 G (n + 1) s i) _
    rw [mm_widest_L4, if_pos i1, gd_ok i0 i1, gd_ok i0 i1, w32_id (by omega) (by omega), e]
    refine ok_ite (fun e => ih _ ?_) (fun e => ih _ ?_)
    · rw [hs]; omega
    · rw [hs]; omega
  · intro n s hI
    show ok (mm_widest_L4 G (n + 1) s 100) _
    rw [mm_widest_L4, if_neg (by omega)]
    exact ok_some hI
def lnB (N : Int → Int) : Int → Bool := fun w => decide (N w = 0)
theorem lone_ok {G : Hp} {nt : Int} {N : Int → Int} (hG : ∀ w, 0 ≤ w → w < 10 → G (nt + 1) w = N w) : cNe_lone nt G = some (bm (lnB N) 10) := by
  apply ok_iff
  unfold cNe_lone
  refine lp_up (fun n i (s : Int) => cNe_lone_L4 nt G n s i) 10 (fun i s => s = bm (lnB N) i.toNat) ?_ ?_ (by omega) (by omega) (by omega) rfl
  · intro n i s i0 i1 hI ih
    have hs := bm_s (lnB N) i0
    have hm := bm_Mk (lnB N) i.toNat (by omega)
    show ok (cNe_lone_L4 nt G (n + 1) s i) _
    rw [cNe_lone_L4, if_pos i1, gd_ok i0 i1, hG i i0 i1, w32_id (by omega) (by omega)]
    refine ok_ite (fun e => ih _ ?_) (fun e => ih _ ?_)
    · rw [hs, if_pos (show lnB N i = true from decide_eq_true e), hI]
    · rw [hs, if_neg (show ¬ lnB N i = true from fun z => e (of_decide_eq_true z)), hI, ior_0 hm (by omega)]
  · intro n s hI
    show ok (cNe_lone_L4 nt G (n + 1) s 10) _
    rw [cNe_lone_L4, if_neg (by omega)]
    exact ok_some hI
theorem mlone_ok {G : Hp} {N : Int → Int} (hM : MN N G) : mm_lone G = some (bm (lnB N) 10) := by
  apply ok_iff
  unfold mm_lone
  refine lp_up (fun n i (s : Int) => mm_lone_L4 G n s i) 10 (fun i s => s = bm (lnB N) i.toNat) ?_ ?_ (by omega) (by omega) (by omega) rfl
  · intro n i s i0 i1 hI ih
    have hs := bm_s (lnB N) i0
    have hm := bm_Mk (lnB N) i.toNat (by omega)
    show ok (mm_lone_L4 G (n + 1) s i) _
    rw [mm_lone_L4, if_pos i1, gd_ok i0 i1, hM.2.1 i i0 i1, w32_id (by omega) (by omega)]
    refine ok_ite (fun e => ih _ ?_) (fun e => ih _ ?_)
    · rw [hs, if_pos (show lnB N i = true from decide_eq_true e), hI]
    · rw [hs, if_neg (show ¬ lnB N i = true from fun z => e (of_decide_eq_true z)), hI, ior_0 hm (by omega)]
  · intro n s hI
    show ok (mm_lone_L4 G (n + 1) s 10) _
    rw [mm_lone_L4, if_neg (by omega)]
    exact ok_some hI
-- couples parted
/-- STEPS between two that are near, were they not; none if they aren't -/
def ar (N : Int → Int) (a b : Int) : Int := dst (prt N a b) a b
theorem ar_comm {N : Int → Int} (hN : NW N) {a b : Int} (a0 : 0 ≤ a) (a1 : a < 10) (b0 : 0 ≤ b) (b1 : b < 10) (ab : a ≠ b) : ar N a b = ar N b a := by
  unfold ar
  rw [prt_comm ab]
  exact dst_sym (prt_NW hN b0 b1 a0 a1 (Ne.symm ab)) ⟨a0, a1⟩ ⟨b0, b1⟩
/-- the draft holds these words -/
def DrC (N : Int → Int) (G : Hp) : Prop := NetOK G 87 ∧ ∀ w, 0 ≤ w → w < 10 → G 88 w = N w
theorem around_ok {G : Hp} {N : Int → Int} {a b : Int} (hN : NW N) (hD : DrC N G) (a0 : 0 ≤ a) (a1 : a < 10) (b0 : 0 ≤ b) (b1 : b < 10) (ab : a ≠ b) (hb : bt (N a) b = true) : ok (cX_aroundTo a b G) (fun x => x.1 = ar N a b ∧ DrC N x.2 ∧ ∀ o j, ¬ (87 ≤ o ∧ o ≤ 90) → x.2 o j = G o j) := by
  unfold cX_aroundTo
  have hp := prt_NW hN a0 a1 b0 b1 ab
  refine ok_then (cpart_ok hN hD.2 a0 a1 b0 b1 ab) fun G1 h1 => ?_
  refine ok_then (between_N (N := prt N a b) h1.1 h1.2.1) fun y hy => ?_
  refine ok_then (cjoin_ok (nt := 87) hp (fun w w0 w1 => by rw [hy.2.net]; exact h1.2.1 w w0 w1) a0 a1 b0 b1 ab) fun G3 h3 => ok_some ⟨?_, ⟨h3.1, fun w w0 w1 => ?_⟩, fun o j q => ?_⟩
  · show y.1 = _
    rw [hy.1, dst2_in a0 a1 b0 b1]
    rfl
  · exact (h3.2.1 w w0 w1).trans (jon_prt hN a0 a1 b0 b1 ab hb w0 w1)
  · show G3 o j = _
    rw [h3.2.2 o j (by omega) (by omega), hy.2.1 o j (by omega) (by omega) (by omega), h1.2.2 o j (by omega) (by omega)]
theorem draft_ok {G : Hp} {o : Int} {P : Int → Int} (ho : o = 7 ∨ o = 22) (hC : PaperC G o P) : ok (cNe_copy 87 (o + 1) G) (fun G' => DrC (sl P 10) G' ∧ ∀ a j, ¬ (87 ≤ a ∧ a ≤ 90) → G' a j = G a j) := by
  refine ok_mono (ncopy_ok hC.2.2.1 (by omega)) fun G' h => ⟨⟨h.1, fun w w0 w1 => ?_⟩, fun a j q => h.2.2 a j (by omega) (by omega)⟩
  exact (h.2.1 w w0 w1).trans (hC.nb w w0 w1)
theorem sq87 {G G' : Hp} (h : ∀ a j, ¬ (87 ≤ a ∧ a ≤ 90) → G' a j = G a j) : Sq G G' := Sq.fr fun a j x => h a j (by omega)
/-- counted over couples, the lesser first -/
def br1 (N : Int → Int) (a b : Int) : Int := b2i (bt (N a) b && decide (ar N a b = -1))
def brI (N : Int → Int) (a b : Int) : Int := if a < b then br1 N a b else 0
def brs (N : Int → Int) : Int := sm (fun a => sm (brI N a) 10) 10
theorem sm_swap (g : Int → Int → Int) : ∀ m n : Nat, sm (fun a => sm (fun b => g a b) n) m = sm (fun b => sm (fun a => g a b) m) n
  | 0, n => by
    show 0 = sm (fun _ => 0) n
    induction n with
    | zero => rfl
    | succ n ih => show 0 = sm (fun _ => 0) n + 0; rw [← ih]; rfl
  | m + 1, n => by
    show sm (fun a => sm (fun b => g a b) n) m + sm (fun b => g (m : Int) b) n = _
    rw [sm_swap g m n]
    have : ∀ k : Nat, sm (fun b => sm (fun a => g a b) m) k + sm (fun b => g (m : Int) b) k = sm (fun b => sm (fun a => g a b) (m + 1)) k := by
      intro k
      induction k with
      | zero => rfl
      | succ k ih =>
        show sm (fun b => sm (fun a => g a b) m) k + sm (fun a => g a (k : Int)) m + (sm (fun b => g (m : Int) b) k + g (m : Int) (k : Int)) = sm (fun b => sm (fun a => g a b) (m + 1)) k + (sm (fun a => g a (k : Int)) m + g (m : Int) (k : Int))
        rw [← ih]
        omega
    exact this n
theorem brI_r (N : Int → Int) (a b : Int) : 0 ≤ brI N a b ∧ brI N a b ≤ 1 := by
  unfold brI
  split
  · exact b2i_b _
  · omega
theorem brS_r (N : Int → Int) (a : Int) (n : Nat) : 0 ≤ sm (brI N a) n ∧ sm (brI N a) n ≤ n := by
  have := sm_r (f := brI N a) (a := 0) (b := 1) (n := n) (fun j _ _ => brI_r N a j)
  omega
theorem brSS_r (N : Int → Int) (n : Nat) : 0 ≤ sm (fun a => sm (brI N a) 10) n ∧ sm (fun a => sm (brI N a) 10) n ≤ 10 * n := by
  have := sm_r (f := fun a => sm (brI N a) 10) (a := 0) (b := 10) (n := n) (fun j _ _ => brS_r N j 10)
  omega
theorem brI_0 (N : Int → Int) {a : Int} (a0 : 0 ≤ a) : ∀ k : Nat, (k : Int) ≤ a + 1 → sm (brI N a) k = 0
  | 0, _ => rfl
  | k + 1, h => by
    show sm (brI N a) k + brI N a (k : Int) = 0
    rw [brI_0 N a0 k (by omega)]
    unfold brI
    rw [if_neg (by omega)]
    rfl
theorem bridges_ok {G : Hp} {o : Int} {P : Int → Int} (hV : PaperV P) (ho : o = 7 ∨ o = 22) (hC : PaperC G o P) : ok (cX_bridges o G) (fun x => x.1 = brs (sl P 10) ∧ Sq G x.2) := by
  have hN := hV.2.2.2.1
  unfold cX_bridges
  refine ok_then (draft_ok ho hC) fun G1 h1 => ?_
  refine lp_up (fun n i (s : Int × Hp) => cX_bridges_L15 o n s.1 i s.2) 10 (fun i s => s.1 = sm (fun a => sm (brI (sl P 10) a) 10) i.toNat ∧ DrC (sl P 10) s.2 ∧ ∀ a j, ¬ (87 ≤ a ∧ a ≤ 90) → s.2 a j = G a j) ?_ ?_ (by omega) (by omega) (by omega) (s := (0, G1)) ⟨rfl, h1⟩
  · intro n i s i0 i1 hI ih
    obtain ⟨x, G2⟩ := s
    obtain ⟨e1, e2, e3⟩ := hI
    simp only at e1 e2 e3
    have hb0 := brSS_r (sl P 10) i.toNat
    show ok (cX_bridges_L15 o (n + 1) x i G2) _
    rw [cX_bridges_L15, if_pos i1, w32_id (z := i + 1) (by omega) (by omega)]
    refine lp_up (fun n2 j (s : Int × Hp) => cX_bridges_L26 o i (fun x2_66 G_66 => cX_bridges_L15 o n x2_66 (i + 1) G_66) n2 s.1 j s.2) 10 (fun j s => i + 1 ≤ j ∧ s.1 = sm (fun a => sm (brI (sl P 10) a) 10) i.toNat + sm (brI (sl P 10) i) j.toNat ∧ DrC (sl P 10) s.2 ∧ ∀ a j, ¬ (87 ≤ a ∧ a ≤ 90) → s.2 a j = G a j) ?_ ?_ (by omega) (by omega) (by omega) (s := (x, G2)) ⟨by omega, ?_, e2, e3⟩
    · intro n2 j s j0 j1 hI2 ih2
      obtain ⟨x, G2⟩ := s
      obtain ⟨g0, e1, e2, e3⟩ := hI2
      simp only at e1 e2 e3
      have hb1 := brS_r (sl P 10) i j.toNat
      have hs := sm_s (brI (sl P 10) i) j0
      have hP2 := hC.sq ho (sq87 e3)
      have hbi : brI (sl P 10) i j = br1 (sl P 10) i j := if_pos (by omega)
      show ok (cX_bridges_L26 o i _ (n2 + 1) x j G2) _
      rw [cX_bridges_L26, if_pos j1, cnear_ok hN hP2.nb i0 i1 j0 j1, Option.bind_some, w32_id (z := j + 1) (by omega) (by omega)]
      refine ok_ite (fun e => ok_then (around_ok hN e2 i0 i1 j0 j1 (by omega) e) fun y hy => ?_) (fun e => ih2 (x, G2) ⟨by omega, ?_, e2, e3⟩)
      · have hfr : ∀ a j, ¬ (87 ≤ a ∧ a ≤ 90) → y.2 a j = G a j := fun a j q => (hy.2.2 a j q).trans (e3 a j q)
        rw [hy.1]
        refine ok_ite (fun e4 => ?_) (fun e4 => ih2 (x, y.2) ⟨by omega, ?_, hy.2.1, hfr⟩)
        · rw [w32_id (by omega) (by omega)]
          refine ih2 (x + 1, y.2) ⟨by omega, ?_, hy.2.1, hfr⟩
          show x + 1 = _
          rw [hs, hbi, e1]
          unfold br1
          rw [e, decide_eq_true e4]
          show _ = _ + (_ + 1)
          omega
        · show x = _
          rw [hs, hbi, e1]
          unfold br1
          rw [decide_eq_false e4, Bool.and_false]
          show _ = _ + (_ + 0)
          omega
      · show x = _
        have : bt (sl P 10 i) j = false := by simpa using e
        rw [hs, hbi, e1]
        unfold br1
        rw [this, Bool.false_and]
        show _ = _ + (_ + 0)
        omega
    · intro n2 s hI2
      obtain ⟨x, G2⟩ := s
      obtain ⟨g0, e1, e2, e3⟩ := hI2
      show ok (cX_bridges_L26 o i _ (n2 + 1) x 10 G2) _
      rw [cX_bridges_L26, if_neg (by omega)]
      refine ih (x, G2) ⟨?_, e2, e3⟩
      rw [sm_s _ i0]
      exact e1
    · show x = _
      rw [brI_0 (sl P 10) i0 (i + 1).toNat (by omega), e1, Int.add_zero]
  · intro n s hI
    obtain ⟨x, G2⟩ := s
    obtain ⟨e1, e2, e3⟩ := hI
    show ok (cX_bridges_L15 o (n + 1) x 10 G2) _
    rw [cX_bridges_L15, if_neg (by omega)]
    exact ok_some ⟨e1, sq87 e3⟩
/-- the least over couples -/
def Mnc (v : Int → Int → Int) (pr : Int → Int → Prop) (r : Int) : Prop := (r = -1 ∧ ∀ x y, pr x y → v x y = -1) ∨ ((∃ x y, pr x y ∧ v x y ≠ -1 ∧ r = v x y + 1) ∧ ∀ x y, pr x y → v x y ≠ -1 → r ≤ v x y + 1)
def cv (N : Int → Int) (a b : Int) : Int := if bt (N a) b = true then ar N a b else -1
theorem cv_r (N : Int → Int) (a b : Int) : -1 ≤ cv N a b ∧ cv N a b < 10 := by
  unfold cv ar
  split
  · exact dst_r _ _ _
  · omega
theorem Mnc_s {v : Int → Int → Int} {pr pr' : Int → Int → Prop} {r a b : Int} (h : Mnc v pr r) (hv : ∀ x y, -1 ≤ v x y) (h1 : ∀ x y, pr' x y ↔ (pr x y ∨ (x = a ∧ y = b))) : Mnc v pr' (if v a b = -1 then r else if r = -1 then v a b + 1 else if v a b + 1 < r then v a b + 1 else r) := by
  have hab : pr' a b := (h1 a b).mpr (Or.inr ⟨rfl, rfl⟩)
  by_cases e : v a b = -1
  · rw [if_pos e]
    rcases h with ⟨p1, p2⟩ | ⟨⟨x, y, p1, p2, p3⟩, p4⟩
    · refine Or.inl ⟨p1, fun x y hxy => ?_⟩
      rcases (h1 x y).mp hxy with q | ⟨rfl, rfl⟩
      · exact p2 x y q
      · exact e
    · refine Or.inr ⟨⟨x, y, (h1 x y).mpr (Or.inl p1), p2, p3⟩, fun x y hxy hn => ?_⟩
      rcases (h1 x y).mp hxy with q | ⟨rfl, rfl⟩
      · exact p4 x y q hn
      · exact absurd e hn
  · rw [if_neg e]
    rcases h with ⟨p1, p2⟩ | ⟨⟨x, y, p1, p2, p3⟩, p4⟩
    · rw [if_pos p1]
      refine Or.inr ⟨⟨a, b, hab, e, rfl⟩, fun x y hxy hn => ?_⟩
      rcases (h1 x y).mp hxy with q | ⟨rfl, rfl⟩
      · exact absurd (p2 x y q) hn
      · exact Int.le_refl _
    · have hxr := hv x y
      rw [if_neg (by omega)]
      by_cases e2 : v a b + 1 < r
      · rw [if_pos e2]
        refine Or.inr ⟨⟨a, b, hab, e, rfl⟩, fun x y hxy hn => ?_⟩
        rcases (h1 x y).mp hxy with q | ⟨rfl, rfl⟩
        · have := p4 x y q hn
          omega
        · exact Int.le_refl _
      · rw [if_neg e2]
        refine Or.inr ⟨⟨x, y, (h1 x y).mpr (Or.inl p1), p2, p3⟩, fun x y hxy hn => ?_⟩
        rcases (h1 x y).mp hxy with q | ⟨rfl, rfl⟩
        · exact p4 x y q hn
        · omega
theorem Mnc_c {v : Int → Int → Int} {pr pr' : Int → Int → Prop} {r : Int} (h : Mnc v pr r) (h1 : ∀ x y, pr' x y ↔ pr x y) : Mnc v pr' r := by
  rcases h with ⟨p1, p2⟩ | ⟨⟨x, y, p1, p2, p3⟩, p4⟩
  · exact Or.inl ⟨p1, fun x y q => p2 x y ((h1 x y).mp q)⟩
  · exact Or.inr ⟨⟨x, y, (h1 x y).mpr p1, p2, p3⟩, fun x y q => p4 x y ((h1 x y).mp q)⟩
theorem Mnc_u {v : Int → Int → Int} {pr : Int → Int → Prop} {r s : Int} (hv : ∀ x y, -1 ≤ v x y) (h : Mnc v pr r) (g : Mnc v pr s) : r = s := by
  rcases h with ⟨p1, p2⟩ | ⟨⟨x, y, p1, p2, p3⟩, p4⟩
  · rcases g with ⟨q1, q2⟩ | ⟨⟨z, w, q1, q2, q3⟩, q4⟩
    · omega
    · exact absurd (p2 z w q1) q2
  · rcases g with ⟨q1, q2⟩ | ⟨⟨z, w, q1, q2, q3⟩, q4⟩
    · exact absurd (q2 x y p1) p2
    · have := p4 z w q1 q2
      have := q4 x y p1 p2
      omega
theorem circle_ok {G : Hp} {o : Int} {P : Int → Int} (hV : PaperV P) (ho : o = 7 ∨ o = 22) (hC : PaperC G o P) : ok (cX_circle o G) (fun x => Mnc (cv (sl P 10)) (cpl 10 10 0) x.1 ∧ Sq G x.2) := by
  have hN := hV.2.2.2.1
  have hv := fun x y => (cv_r (sl P 10) x y).1
  unfold cX_circle
  refine ok_then (draft_ok ho hC) fun G1 h1 => ?_
  refine lp_up (fun n i (s : Int × Hp) => cX_circle_L15 o n s.1 i s.2) 10 (fun i s => (Mnc (cv (sl P 10)) (cpl 10 i 0) s.1 ∧ s.1 ≤ 10) ∧ DrC (sl P 10) s.2 ∧ ∀ a j, ¬ (87 ≤ a ∧ a ≤ 90) → s.2 a j = G a j) ?_ ?_ (by omega) (by omega) (by omega) (s := (-1, G1)) ⟨⟨Or.inl ⟨rfl, fun x y h => by unfold cpl at h; omega⟩, by show (-1 : Int) ≤ 10; omega⟩, h1⟩
  · intro n i s i0 i1 hI ih
    obtain ⟨x, G2⟩ := s
    obtain ⟨e1, e2, e3⟩ := hI
    simp only at e1 e2 e3
    show ok (cX_circle_L15 o (n + 1) x i G2) _
    rw [cX_circle_L15, if_pos i1, w32_id (z := i + 1) (by omega) (by omega)]
    refine lp_up (fun n2 j (s : Int × Hp) => cX_circle_L26 o i (fun x2_89 G_89 => cX_circle_L15 o n x2_89 (i + 1) G_89) n2 s.1 j s.2) 10 (fun j s => i + 1 ≤ j ∧ (Mnc (cv (sl P 10)) (cpl 10 i j) s.1 ∧ s.1 ≤ 10) ∧ DrC (sl P 10) s.2 ∧ ∀ a j, ¬ (87 ≤ a ∧ a ≤ 90) → s.2 a j = G a j) ?_ ?_ (by omega) (by omega) (by omega) (s := (x, G2)) ⟨by omega, ⟨Mnc_c e1.1 fun x y => ?_, e1.2⟩, e2, e3⟩
    · intro n2 j s j0 j1 hI2 ih2
      obtain ⟨x, G2⟩ := s
      obtain ⟨g0, e1, e2, e3⟩ := hI2
      simp only at e1 e2 e3
      have hP2 := hC.sq ho (sq87 e3)
      have hcr := cv_r (sl P 10) i j
      have hx0 : -1 ≤ x := by
        rcases e1.1 with ⟨q, -⟩ | ⟨⟨z, w, -, -, q⟩, -⟩
        · omega
        · have := hv z w
          omega
      have st := Mnc_s (pr' := cpl 10 i (j + 1)) e1.1 hv (a := i) (b := j) (fun x y => by unfold cpl; omega)
      -- behind one couple
      have fin : ∀ (c : Int) (G3 : Hp), c = cv (sl P 10) i j → DrC (sl P 10) G3 → (∀ a j, ¬ (87 ≤ a ∧ a ≤ 90) → G3 a j = G a j) → ok (cX_circle_j57 o (cX_circle_L26 o i (fun x2_89 G_89 => cX_circle_L15 o n x2_89 (i + 1) G_89) n2) x i j c G3) (fun x => Mnc (cv (sl P 10)) (cpl 10 10 0) x.1 ∧ Sq G x.2) := by
        intro c G3 hc k1 k2
        rw [← hc] at st hcr
        unfold cX_circle_j57
        rw [w32_id (z := j + 1) (by omega) (by omega), w32_id (z := c + 1) (by omega) (by omega)]
        refine ok_ite (fun e => ih2 (x, G3) ⟨by omega, ⟨?_, e1.2⟩, k1, k2⟩) (fun e => ok_ite (fun e5 => ih2 (c + 1, G3) ⟨by omega, ⟨?_, by show c + 1 ≤ 10; omega⟩, k1, k2⟩) (fun e5 => ok_ite (fun e6 => ih2 (c + 1, G3) ⟨by omega, ⟨?_, by show c + 1 ≤ 10; omega⟩, k1, k2⟩) (fun e6 => ih2 (x, G3) ⟨by omega, ⟨?_, e1.2⟩, k1, k2⟩)))
        · rw [if_pos e] at st
          exact st
        · rw [if_neg e, if_pos e5] at st
          exact st
        · rw [if_neg e, if_neg e5, if_pos e6] at st
          exact st
        · rw [if_neg e, if_neg e5, if_neg e6] at st
          exact st
      show ok (cX_circle_L26 o i _ (n2 + 1) x j G2) _
      rw [cX_circle_L26, if_pos j1, cnear_ok hN hP2.nb i0 i1 j0 j1, Option.bind_some]
      refine ok_ite (fun e => ok_then (around_ok hN e2 i0 i1 j0 j1 (by omega) e) fun y hy => fin y.1 y.2 ?_ hy.2.1 fun a j q => (hy.2.2 a j q).trans (e3 a j q)) (fun e => fin (-1) G2 ?_ e2 e3)
      · rw [hy.1]
        unfold cv
        rw [if_pos e]
      · unfold cv
        rw [if_neg e]
    · intro n2 s hI2
      obtain ⟨x, G2⟩ := s
      obtain ⟨g0, e1, e2, e3⟩ := hI2
      show ok (cX_circle_L26 o i _ (n2 + 1) x 10 G2) _
      rw [cX_circle_L26, if_neg (by omega)]
      exact ih (x, G2) ⟨⟨Mnc_c e1.1 fun x y => by unfold cpl; omega, e1.2⟩, e2, e3⟩
    · unfold cpl; omega
  · intro n s hI
    obtain ⟨x, G2⟩ := s
    obtain ⟨e1, e2, e3⟩ := hI
    show ok (cX_circle_L15 o (n + 1) x 10 G2) _
    rw [cX_circle_L15, if_neg (by omega)]
    exact ok_some ⟨e1.1, sq87 e3⟩
/-- couples with the lesser second, counted the model's way -/
def brM (N : Int → Int) (a b : Int) : Int := if b < a then br1 N b a else 0
theorem brM_r (N : Int → Int) (a b : Int) : 0 ≤ brM N a b ∧ brM N a b ≤ 1 := by
  unfold brM
  split
  · exact b2i_b _
  · omega
theorem brMS_r (N : Int → Int) (a : Int) (n : Nat) : 0 ≤ sm (brM N a) n ∧ sm (brM N a) n ≤ n := by
  have := sm_r (f := brM N a) (a := 0) (b := 1) (n := n) (fun j _ _ => brM_r N a j)
  omega
theorem brMSS_r (N : Int → Int) (n : Nat) : 0 ≤ sm (fun a => sm (brM N a) a.toNat) n ∧ sm (fun a => sm (brM N a) a.toNat) n ≤ n * n := by
  induction n with
  | zero => exact ⟨Int.le_refl 0, Int.le_refl 0⟩
  | succ n ih =>
    have h1 := brMS_r N (n : Int) ((n : Int)).toNat
    have e : ((n : Int)).toNat = n := by omega
    rw [e] at h1
    have e2 : ((n + 1 : Nat) : Int) * ((n + 1 : Nat) : Int) = (n : Int) * n + n + n + 1 := by
      rw [Int.natCast_add, Int.add_mul, Int.mul_add]
      simp
      omega
    rw [e2]
    show 0 ≤ sm (fun a => sm (brM N a) a.toNat) n + sm (brM N (n : Int)) ((n : Int)).toNat ∧ sm (fun a => sm (brM N a) a.toNat) n + sm (brM N (n : Int)) ((n : Int)).toNat ≤ _
    rw [e]
    omega
theorem brM_all (N : Int → Int) : sm (fun a => sm (brM N a) a.toNat) 10 = brs N := by
  have h1 : sm (fun a => sm (brM N a) a.toNat) 10 = sm (fun a => sm (fun b => brM N a b) 10) 10 := by
    refine sm_congr fun a a0 a1 => ?_
    symm
    refine sm_cut (by omega) fun j j0 j1 => ?_
    unfold brM
    rw [if_neg (by omega)]
  rw [h1, sm_swap]
  exact sm_congr fun a a0 a1 => sm_congr fun b b0 b1 => rfl
/-- couples ahead of one, the lesser second -/
def cpm (a b : Int) : Int → Int → Prop := fun x y => 0 ≤ x ∧ x < y ∧ (y < a ∨ (y = a ∧ x < b))
theorem parting_ok {G : Hp} {N : Int → Int} {is : Int} (hN : NW N) (hM : MN N G) : ok (mm_parting is G) (fun x => (if is = 0 then x.1 = brs N else Mnc (cv N) (cpl 10 10 0) x.1) ∧ ∀ o j, o ≠ 205 → o ≠ 206 → x.2 o j = G o j) := by
  have hv := fun x y => (cv_r N x y).1
  unfold mm_parting
  refine lp_up (fun n i (s : Int × Int × Hp) => mm_parting_L9 is (fun x2_122 x3_122 G_122 => if is = 0 then some (x2_122, G_122) else (if x3_122 = 99999999 then some ((-1), G_122) else some (x3_122, G_122))) n s.1 s.2.1 i s.2.2) 10 (fun i s => s.1 = sm (fun a => sm (brM N a) a.toNat) i.toNat ∧ (Mnc (cv N) (cpm i 0) (if s.2.1 = 99999999 then -1 else s.2.1) ∧ 0 ≤ s.2.1 ∧ (s.2.1 ≤ 10 ∨ s.2.1 = 99999999)) ∧ MN N s.2.2 ∧ ∀ o j, o ≠ 205 → o ≠ 206 → s.2.2 o j = G o j) ?_ ?_ (by omega) (by omega) (by omega) (s := (0, 99999999, G)) ⟨rfl, ⟨Or.inl ⟨rfl, fun x y h => by unfold cpm at h; omega⟩, by show (0 : Int) ≤ 99999999; omega, Or.inr rfl⟩, hM, fun _ _ _ _ => rfl⟩
  · intro n i s i0 i1 hI ih
    obtain ⟨x, l, G2⟩ := s
    obtain ⟨e1, e2, e3, e4⟩ := hI
    simp only at e1 e2 e3 e4
    have hb0 := brMSS_r N i.toNat
    have hb9 : (i.toNat : Int) * (i.toNat : Int) ≤ 81 := by
      have h9 : i.toNat ≤ 9 := by omega
      have := Nat.mul_le_mul h9 h9
      omega
    show ok (mm_parting_L9 is _ (n + 1) x l i G2) _
    rw [mm_parting_L9, if_pos i1, w32_id (z := i + 1) (by omega) (by omega)]
    refine lp_up (fun n2 j (s : Int × Int × Hp) => mm_parting_L19 is i (fun x2_116 x3_116 G_116 => mm_parting_L9 is (fun x2_122 x3_122 G_122 => if is = 0 then some (x2_122, G_122) else (if x3_122 = 99999999 then some ((-1), G_122) else some (x3_122, G_122))) n x2_116 x3_116 (i + 1) G_116) n2 s.1 s.2.1 j s.2.2) i (fun j s => s.1 = sm (fun a => sm (brM N a) a.toNat) i.toNat + sm (brM N i) j.toNat ∧ (Mnc (cv N) (cpm i j) (if s.2.1 = 99999999 then -1 else s.2.1) ∧ 0 ≤ s.2.1 ∧ (s.2.1 ≤ 10 ∨ s.2.1 = 99999999)) ∧ MN N s.2.2 ∧ ∀ o j, o ≠ 205 → o ≠ 206 → s.2.2 o j = G o j) ?_ ?_ (by omega) (by omega) (by omega) (s := (x, l, G2)) ⟨by show x = _ + 0; rw [e1]; omega, e2, e3, e4⟩
    · intro n2 j s j0 j1 hI2 ih2
      obtain ⟨x, l, G2⟩ := s
      obtain ⟨e1, e2, e3, e4⟩ := hI2
      simp only at e1 e2 e3 e4
      have hb1 := brMS_r N i j.toNat
      have hs := sm_s (brM N i) j0
      have hbi : brM N i j = br1 N j i := if_pos j1
      have hsy : bt (N i) j = bt (N j) i := hN.2.1 i j i0 i1 j0 (by omega)
      have st := Mnc_s (pr' := cpm i (j + 1)) e2.1 hv (a := j) (b := i) (fun x y => by unfold cpm; omega)
      show ok (mm_parting_L19 is i _ (n2 + 1) x l j G2) _
      rw [mm_parting_L19, if_pos j1, near_ok e3 i0 i1 j0 (by omega), Option.bind_some]
      refine ok_ite (fun e => ?_) (fun e => ?_)
      · refine ok_then (mjoins_ok (is := 0) e3 i0 i1 j0 (by omega) (by omega)) fun G3 h3 => ?_
        have hM3 : MN (prt N i j) G3 := h3.1
        rw [w32_id (z := 10 * i) (by omega) (by omega), w32_id (z := 10 * i + j) (by omega) (by omega), hM3.2.2 i j i0 i1 j0 (by omega)]
        have hcv : cv N j i = dst (prt N i j) i j := by
          unfold cv
          rw [if_pos (by rw [← hsy]; exact e)]
          exact ar_comm hN j0 (by omega) i0 i1 (by omega)
        have hdr := dst_r (prt N i j) i j
        -- joined again, and on
        have back : ∀ (l' m : Int), m = sm (fun a => sm (brM N a) a.toNat) i.toNat + sm (brM N i) (j + 1).toNat → (Mnc (cv N) (cpm i (j + 1)) (if l' = 99999999 then -1 else l') ∧ 0 ≤ l' ∧ (l' ≤ 10 ∨ l' = 99999999)) → ok (mm_parting_j100 is (mm_parting_L19 is i (fun x2_116 x3_116 G_116 => mm_parting_L9 is (fun x2_122 x3_122 G_122 => if is = 0 then some (x2_122, G_122) else (if x3_122 = 99999999 then some ((-1), G_122) else some (x3_122, G_122))) n x2_116 x3_116 (i + 1) G_116) n2) m i j l' G3) (fun x => (if is = 0 then x.1 = brs N else Mnc (cv N) (cpl 10 10 0) x.1) ∧ ∀ o j, o ≠ 205 → o ≠ 206 → x.2 o j = G o j) := by
          intro l' m hm hl
          unfold mm_parting_j100
          refine ok_then (mjoins_ok (is := 1) hM3 i0 i1 j0 (by omega) (by omega)) fun G4 h4 => ?_
          rw [w32_id (by omega) (by omega)]
          refine ih2 (m, l', G4) ⟨hm, hl, ?_, fun o j q1 q2 => ?_⟩
          · exact MN.congr (N := jon (prt N i j) i j) h4.1 fun w w0 w1 => jon_prt hN i0 i1 j0 (by omega) (by omega) e w0 w1
          · show G4 o j = _
            rw [h4.2 o j q1 q2, h3.2 o j q1 q2, e4 o j q1 q2]
        have j76 : ∀ (c : Int), c = br1 N j i → ok (mm_parting_j76 is (mm_parting_L19 is i (fun x2_116 x3_116 G_116 => mm_parting_L9 is (fun x2_122 x3_122 G_122 => if is = 0 then some (x2_122, G_122) else (if x3_122 = 99999999 then some ((-1), G_122) else some (x3_122, G_122))) n x2_116 x3_116 (i + 1) G_116) n2) l i j (dst (prt N i j) i j) c x G3) (fun x => (if is = 0 then x.1 = brs N else Mnc (cv N) (cpl 10 10 0) x.1) ∧ ∀ o j, o ≠ 205 → o ≠ 206 → x.2 o j = G o j) := by
          intro c hc
          have hc1 : 0 ≤ c ∧ c ≤ 1 := by rw [hc]; exact b2i_b _
          unfold mm_parting_j76
          rw [w32_id (z := x + c) (by omega) (by omega), w32_id (by omega) (by omega)]
          have hm : x + c = sm (fun a => sm (brM N a) a.toNat) i.toNat + sm (brM N i) (j + 1).toNat := by
            rw [hs, hbi, hc, e1]
            omega
          rw [hcv] at st
          refine ok_ite (fun e5 => back l _ hm ⟨?_, e2.2⟩) (fun e5 => ok_ite (fun e6 => back _ _ hm ⟨?_, by omega, by omega⟩) (fun e6 => back l _ hm ⟨?_, e2.2⟩))
          · rw [if_pos e5] at st
            exact st
          · rw [if_neg e5] at st
            rw [if_neg (by omega)]
            by_cases q : l = 99999999
            · rw [if_pos q, if_pos rfl] at st
              exact st
            · rw [if_neg q, if_neg (by omega), if_pos e6] at st
              exact st
          · rw [if_neg e5] at st
            by_cases q : l = 99999999
            · omega
            · rw [if_neg q, if_neg (by omega), if_neg e6] at st
              rw [if_neg q]
              exact st
        have hbr : br1 N j i = b2i (decide (dst (prt N i j) i j = -1)) := by
          unfold br1
          have : ar N j i = dst (prt N i j) i j := ar_comm hN j0 (by omega) i0 i1 (by omega)
          rw [← hsy, e, Bool.true_and, this]
        refine ok_gd (by omega) (by omega) (ok_ite (fun e5 => j76 1 ?_) (fun e5 => j76 0 ?_))
        · rw [hbr, decide_eq_true e5]
          rfl
        · rw [hbr, decide_eq_false e5]
          rfl
      · rw [w32_id (by omega) (by omega)]
        have hf : bt (N j) i = false := by rw [← hsy]; simpa using e
        have hcv : cv N j i = -1 := by
          unfold cv
          rw [hf, if_ff]
        rw [if_pos hcv] at st
        refine ih2 (x, l, G2) ⟨?_, ⟨st, e2.2⟩, e3, e4⟩
        show x = _
        rw [hs, hbi, e1]
        unfold br1
        rw [hf, Bool.false_and]
        show _ = _ + (_ + 0)
        omega
    · intro n2 s hI2
      obtain ⟨x, l, G2⟩ := s
      obtain ⟨e1, e2, e3, e4⟩ := hI2
      show ok (mm_parting_L19 is i _ (n2 + 1) x l i G2) _
      rw [mm_parting_L19, if_neg (by omega)]
      refine ih (x, l, G2) ⟨?_, ⟨Mnc_c e2.1 fun x y => by unfold cpm; omega, e2.2⟩, e3, e4⟩
      rw [sm_s _ i0]
      exact e1
  · intro n s hI
    obtain ⟨x, l, G2⟩ := s
    obtain ⟨e1, e2, e3, e4⟩ := hI
    simp only at e1 e2 e3 e4
    show ok (mm_parting_L9 is _ (n + 1) x l 10 G2) _
    rw [mm_parting_L9, if_neg (by omega)]
    have e2' := Mnc_c (pr' := cpl 10 10 0) e2.1 fun x y => by unfold cpm cpl; omega
    by_cases q : is = 0
    · simp only [if_pos q]
      refine ok_some ⟨?_, e4⟩
      show x = _
      rw [e1]
      exact brM_all N
    · simp only [if_neg q]
      by_cases q2 : l = 99999999
      · rw [if_pos q2] at e2' ⊢
        exact ok_some ⟨e2', e4⟩
      · rw [if_neg q2] at e2' ⊢
        exact ok_some ⟨e2', e4⟩
theorem op22 : Op22 Inv := by
  intro Gc Gm hI a1 a2 r1 r2
  have hC : CInv Gc (Gm 202) (Gm 203) := hI
  by_cases hk : 0 ≤ a1 ∧ a1 < Gm 202 0
  · obtain ⟨hp, hk2⟩ := paperAt_yes hC hk.1 hk.2
    obtain ⟨hV, hP⟩ := hC.paper hk2
    have hyes := isPaper_yes hC.av hk.1 hk.2
    generalize ct 80 (Gm 202) (pb a1) = P at *
    have ho := o_or hk2
    generalize 7 + 15 * a1 = o at *
    have o0 : ¬ o < 0 := by omega
    have hN := hV.2.2.2.1
    have hv := fun x y => (cv_r (sl P 10) x y).1
    unfold cX_kin mm_kin
    simp only [hp, Option.bind_some, if_neg o0]
    -- the model's own end
    have mend : ∀ {F : Bool × Hp → Option (Int × Hp)} {v : Int}, (∀ r : Bool × Hp, r.1 = true → M0 P (pb a1) r.2 → Mq Gm r.2 → ok (F r) (fun y => y.1 = v ∧ Mq Gm y.2)) → ok ((mm_isPaper a1 Gm).bind F) (fun y => y.1 = v ∧ y.2 202 = Gm 202 ∧ y.2 203 = Gm 203) := fun h => ok_then hyes fun r hr => h r hr.1 hr.2.1 ⟨hr.2.2.1, hr.2.2.2⟩
    by_cases g0 : a2 = 0
    · simp only [if_pos g0]
      refine op_q hI (kds (sl P 10)) (ok_then (kinds_ok hN hP.2.2.1 hP.nb) fun x hx => ok_some ⟨hx.1, hC.sq (Sq.ce ho hx.2)⟩) (mend fun r t hm hq => ?_)
      rw [t, if_tt]
      unfold mm_kin_j52
      rw [if_neg (by omega)]
      unfold mm_kin_j63
      rw [kinAll_ok hm.2.1, Option.bind_some, if_pos rfl]
      exact ok_some ⟨rfl, hq⟩
    simp only [if_neg g0]
    by_cases g1 : a2 = 1
    · simp only [if_pos g1]
      refine op_q hI (lgs (sl P 10)) (ok_then (largest_ok hN hP.2.2.1 hP.nb) fun x hx => ok_some ⟨hx.1, hC.sq (Sq.ce ho hx.2)⟩) (mend fun r t hm hq => ?_)
      rw [t, if_tt]
      unfold mm_kin_j52
      rw [if_pos g1]
      unfold mm_kin_j63
      rw [kinAll_ok hm.2.1, Option.bind_some, if_neg (by omega)]
      exact ok_some ⟨rfl, hq⟩
    simp only [if_neg g1]
    by_cases g2 : a2 = 2
    · simp only [if_pos g2]
      refine op_q hI (wds (sl P 10)) (ok_then (widest_ok hP.2.2.1 hP.nb) fun x hx => ok_some ⟨hx.1, hC.sq (Sq.ce ho hx.2)⟩) (mend fun r t hm hq => ?_)
      rw [t, if_tt, mwidest_ok hm.2.1, Option.bind_some]
      exact ok_some ⟨rfl, hq⟩
    simp only [if_neg g2]
    by_cases g3 : a2 = 3
    · simp only [if_pos g3]
      refine op_q hI (bm (lnB (sl P 10)) 10) ?_ (mend fun r t hm hq => ?_)
      · rw [lone_ok hP.nb, Option.bind_some]
        exact ok_some ⟨rfl, hC⟩
      · rw [t, if_tt, mlone_ok hm.2.1, Option.bind_some]
        exact ok_some ⟨rfl, hq⟩
    simp only [if_neg g3]
    by_cases g4 : a2 = 4
    · simp only [if_pos g4]
      refine op_q hI (brs (sl P 10)) (ok_then (bridges_ok hV ho hP) fun x hx => ok_some ⟨hx.1, hC.sq hx.2⟩) (mend fun r t hm hq => ?_)
      rw [t, if_tt]
      unfold mm_kin_j77
      rw [if_neg (by omega)]
      unfold mm_kin_j88
      refine ok_then (parting_ok hN hm.2.1) fun x hx => ok_some ⟨?_, hq.trans (Mq.fr fun j => ⟨hx.2 _ _ (by omega) (by omega), hx.2 _ _ (by omega) (by omega)⟩)⟩
      have h1 := hx.1
      rw [if_pos rfl] at h1
      exact h1
    simp only [if_neg g4]
    by_cases g5 : a2 = 5
    · simp only [if_pos g5]
      obtain ⟨x, hx1, hx2, hx3⟩ := circle_ok hV ho hP
      refine op_q hI x.1 ?_ (mend fun r t hm hq => ?_)
      · rw [hx1, Option.bind_some]
        exact ok_some ⟨rfl, hC.sq hx3⟩
      · rw [t, if_tt]
        unfold mm_kin_j77
        rw [if_pos g5]
        unfold mm_kin_j88
        refine ok_then (parting_ok hN hm.2.1) fun y hy => ok_some ⟨?_, hq.trans (Mq.fr fun j => ⟨hy.2 _ _ (by omega) (by omega), hy.2 _ _ (by omega) (by omega)⟩)⟩
        have h1 := hy.1
        rw [if_neg (by omega)] at h1
        exact Mnc_u hv h1 hx2
    simp only [if_neg g5]
    refine op_q hI (-2) (ok_some ⟨rfl, hC⟩) (mend fun r t hm hq => ?_)
    rw [t, if_tt]
    exact ok_some ⟨rfl, hq⟩
  · refine op_q hI (-2) ?_ ?_
    · unfold cX_kin
      rw [paperAt_no hC hk, Option.bind_some, if_pos (by omega)]
      exact ok_some ⟨rfl, hC⟩
    · unfold mm_kin
      rw [isPaper_no hC.av hk, Option.bind_some, if_ff]
      exact ok_some ⟨rfl, rfl, rfl⟩
