-- both systems made: what never changes of the references, and rules that speak of the numbers alone
def RFT : List (List Int) := [[1, 37, 38, 39, 57, 73, 78, 80, 87, 91, 92], [2, 0, 0, (-1), 3, 4, 5, 6], [], [], [7, 22], [15, 30], [19, 34], [0, 0, 0, 8, 12, 13, 14], [9, 10, 11, 0], [], [], [], [], [], [], [0, 16, 17, 18], [], [], [], [0, 20, 21], [], [], [0, 0, 0, 23, 27, 28, 29], [24, 25, 26, 0], [], [], [], [], [], [], [0, 31, 32, 33], [], [], [], [0, 35, 36], [], [], [93, 129, 165], [], [40, 48, 52, 0, 0, 55, 0, 0, 0, 0, 0, 56, 0, 0], [0, 0, 0, 41, 45, 46, 47], [42, 43, 44, 0], [], [], [], [], [], [], [0, 49, 50, 51], [], [], [], [0, 53, 54], [], [], [], [], [58, 66, 0, 70, 71, 0, 0, 72, 0, 0, 0, 0, 0], [0, 0, 0, 59, 63, 64, 65], [60, 61, 62, 0], [], [], [], [], [], [], [67, 68, 69, 0], [], [], [], [], [], [], [74, 0], [0, 75, 76, 77], [], [], [], [79, 0, 0, 0], [], [(-1), 0, 0, 0, 81, 82, 83, 84, 85, 86, 0], [], [], [], [], [], [], [88, 89, 90, 0], [], [], [], [], [], [94, 0, 0, (-1), 95, 96, 97, 98], [], [], [99, 114], [107, 122], [111, 126], [0, 0, 0, 100, 104, 105, 106], [101, 102, 103, 0], [], [], [], [], [], [], [0, 108, 109, 110], [], [], [], [0, 112, 113], [], [], [0, 0, 0, 115, 119, 120, 121], [116, 117, 118, 0], [], [], [], [], [], [], [0, 123, 124, 125], [], [], [], [0, 127, 128], [], [], [130, 0, 0, (-1), 131, 132, 133, 134], [], [], [135, 150], [143, 158], [147, 162], [0, 0, 0, 136, 140, 141, 142], [137, 138, 139, 0], [], [], [], [], [], [], [0, 144, 145, 146], [], [], [], [0, 148, 149], [], [], [0, 0, 0, 151, 155, 156, 157], [152, 153, 154, 0], [], [], [], [], [], [], [0, 159, 160, 161], [], [], [], [0, 163, 164], [], [], [166, 0, 0, (-1), 167, 168, 169, 170], [], [], [171, 186], [179, 194], [183, 198], [0, 0, 0, 172, 176, 177, 178], [173, 174, 175, 0], [], [], [], [], [], [], [0, 180, 181, 182], [], [], [], [0, 184, 185], [], [], [0, 0, 0, 187, 191, 192, 193], [188, 189, 190, 0], [], [], [], [], [], [], [0, 195, 196, 197], [], [], [], [0, 199, 200], [], [], [202, 203, 0, 0, 0, 0, 0, 0, 0, 0, 0, 204, 0, 0, 0, 205, 206, 0, 0, 0, 0, 0, 0, 207, 208, 209, 210, 211, 212, 213, 214, 215, 216, 217, 218, 0, 219, 0, 220, 0, 0, 0, 0, 221, 222, 223, 0], [], [], [], [], [], [], [], [], [], [], [], [], [], [], [], [], [], [], [], [], [], []]
def RF0 (o j : Int) : Int := (RFT.getD o.toNat []).getD j.toNat (-1)
def isRefS (o j : Int) : Bool := if o = 57 ∧ j = 0 then false else if (sh o.toNat).1 < 20 then ftg (sh o.toNat).1 j.toNat == 2 else decide (23 ≤ (sh o.toNat).1)
/-- the whole heap out of the numbers of the class's objects and those of the reference's -/
def fu (Gc Gm : Hp) : Hp := fun o j => if isRefS o j = true then RF0 o j else if o < 201 then Gc o j else Gm o j
def NO : Nat := 224
/-- an object of the class; of the reference -/
def OC (o : Int) (k len : Nat) : Prop := OB 224 o k len ∧ o < 201
def OM (o : Int) (k len : Nat) : Prop := OB 224 o k len ∧ 201 ≤ o
theorem refS_ob {o j : Int} {k len : Nat} (h : OB 224 o k len) (hk : k < 20) (h0 : ftg k j.toNat = 0) : isRefS o j = false := by
  unfold isRefS
  rw [h.2.2]
  by_cases e : o = 57 ∧ j = 0
  · rw [if_pos e]
  · rw [if_neg e, if_pos hk]
    show (ftg k j.toNat == 2) = false
    rw [h0]
    rfl
theorem refS_arr {o j : Int} {k len : Nat} (h : OB 224 o k len) (hk : 20 ≤ k) (hk2 : k < 23) : isRefS o j = false := by
  unfold isRefS
  rw [h.2.2]
  by_cases e : o = 57 ∧ j = 0
  · rw [if_pos e]
  · rw [if_neg e, if_neg (by dsimp only; omega)]
    show decide (23 ≤ k) = false
    rw [decide_eq_false_iff_not]
    omega
theorem refS_ref {o j : Int} {k len : Nat} (h : OB 224 o k len) (hk : k < 20) (h2 : ftg k j.toNat = 2) (h57 : k ≠ 7) : isRefS o j = true := by
  unfold isRefS
  rw [h.2.2]
  rw [if_neg, if_pos hk]
  · show (ftg k j.toNat == 2) = true
    rw [h2]
    rfl
  · rintro ⟨rfl, -⟩
    have e : (sh (57 : Int).toNat).1 = 7 := rfl
    rw [h.2.2] at e
    exact h57 e
theorem refS_ref' {o j : Int} {k len : Nat} (h : OB 224 o k len) (hk : k < 20) (h2 : ftg k j.toNat = 2) (h57 : j ≠ 0) : isRefS o j = true := by
  unfold isRefS
  rw [h.2.2]
  rw [if_neg, if_pos hk]
  · show (ftg k j.toNat == 2) = true
    rw [h2]
    rfl
  · rintro ⟨-, rfl⟩
    exact h57 rfl
theorem refS_aref {o j : Int} {k len : Nat} (h : OB 224 o k len) (hk : 23 ≤ k) (h57 : o ≠ 57) : isRefS o j = true := by
  unfold isRefS
  rw [h.2.2]
  rw [if_neg (fun z => h57 z.1), if_neg (by dsimp only; omega)]
  show decide (23 ≤ k) = true
  rw [decide_eq_true_eq]
  exact hk
theorem fu_c {Gc Gm : Hp} {o j : Int} (h : isRefS o j = false) (ho : o < 201) : fu Gc Gm o j = Gc o j := by
  unfold fu
  rw [h, if_neg (by decide), if_pos ho]
theorem fu_m {Gc Gm : Hp} {o j : Int} (h : isRefS o j = false) (ho : 201 ≤ o) : fu Gc Gm o j = Gm o j := by
  unfold fu
  rw [h, if_neg (by decide), if_neg (by omega)]
theorem fu_r {Gc Gm : Hp} {o j : Int} (h : isRefS o j = true) : fu Gc Gm o j = RF0 o j := by
  unfold fu
  rw [h, if_pos rfl]
theorem fu_updc {Gc Gm : Hp} {o j v : Int} (h : isRefS o j = false) (ho : o < 201) : upd2 (fu Gc Gm) o j v = fu (upd2 Gc o j v) Gm := by
  funext a b
  unfold fu upd2
  by_cases e : a = o ∧ b = j
  · obtain ⟨rfl, rfl⟩ := e
    rw [if_pos ⟨rfl, rfl⟩, h, if_neg (by decide), if_pos ho]
    simp
  · rw [if_neg e]
    simp [e]
theorem fu_updm {Gc Gm : Hp} {o j v : Int} (h : isRefS o j = false) (ho : 201 ≤ o) : upd2 (fu Gc Gm) o j v = fu Gc (upd2 Gm o j v) := by
  funext a b
  unfold fu upd2
  by_cases e : a = o ∧ b = j
  · obtain ⟨rfl, rfl⟩ := e
    rw [if_pos ⟨rfl, rfl⟩, h, if_neg (by decide), if_neg (by omega)]
    simp
  · rw [if_neg e]
    simp [e]
theorem fu_cpyc {Gc Gm : Hp} {a i b j k : Int} {ka kb la lb : Nat} (ha : OC a ka la) (hb : OC b kb lb) (hka : 20 ≤ ka ∧ ka < 23) (hkb : 20 ≤ kb ∧ kb < 23) : cpy2 (fu Gc Gm) a i b j k = fu (cpy2 Gc a i b j k) Gm := by
  funext x y
  by_cases e : x = b ∧ j ≤ y ∧ y < j + k
  · obtain ⟨rfl, e2, e3⟩ := e
    rw [fu_c (refS_arr hb.1 hkb.1 hkb.2) hb.2]
    unfold cpy2
    rw [if_pos ⟨rfl, e2, e3⟩, if_pos ⟨rfl, e2, e3⟩, fu_c (refS_arr ha.1 hka.1 hka.2) ha.2]
  · unfold fu cpy2
    rw [if_neg e]
    simp [e]
/-- a field as a class's instruction names it, with its tag -/
def GF (own : String) (idx ci fi N t : Nat) (fz : Int) : Prop := FOK own idx ci fi ∧ fi < N ∧ (fi : Int) = fz ∧ ftg ci fi = t ∧ ci < 20
section POST
variable {α : Type} {l : Launch} {M : MC} {K : α → Option AV × Nat × Hp} {X X1 X2 : Option α} {pc : Nat} {L S : List AV} {Gc Gm : Hp} {q : Nat × Nat}
theorem j_gic {idx ci fi N : Nat} {o fz : Int} (hd : decode M.cc pc = .ok (.getfield idx, 3)) (hF : GF M.y.cls idx ci fi N 0 fz) (hs : OC o ci N) (k : J l M K X (pc + 3) L ((0, Gc o fz) :: S) 224 (fu Gc Gm) q) : J l M K X pc L ((2, o) :: S) 224 (fu Gc Gm) q := by
  obtain ⟨h1, h2, h3, h4, h5⟩ := hF
  refine j_getf hd h1 hs.1 h2 h3 h4 ?_
  rw [fu_c (refS_ob hs.1 h5 (by rw [← h3, Int.toNat_natCast]; exact h4)) hs.2]
  exact k
theorem j_grc {idx ci fi N : Nat} {o fz z : Int} (hd : decode M.cc pc = .ok (.getfield idx, 3)) (hF : GF M.y.cls idx ci fi N 2 fz) (hs : OC o ci N) (h57 : ci ≠ 7 ∨ fz ≠ 0) (hv : RF0 o fz = z) (k : J l M K X (pc + 3) L ((2, z) :: S) 224 (fu Gc Gm) q) : J l M K X pc L ((2, o) :: S) 224 (fu Gc Gm) q := by
  obtain ⟨h1, h2, h3, h4, h5⟩ := hF
  refine j_getf hd h1 hs.1 h2 h3 h4 ?_
  have e : isRefS o fz = true := by
    have e2 : ftg ci fz.toNat = 2 := by rw [← h3, Int.toNat_natCast]; exact h4
    rcases h57 with h | h
    · exact refS_ref hs.1 h5 e2 h
    · exact refS_ref' hs.1 h5 e2 h
  rw [fu_r e, hv]
  exact k
theorem j_pic {idx ci fi N : Nat} {o fz z : Int} (hd : decode M.cc pc = .ok (.putfield idx, 3)) (hF : GF M.y.cls idx ci fi N 0 fz) (hp : PutOK M idx ci fi) (hs : OC o ci N) (hnf : NF ci fi 0 z) (k : J l M K X (pc + 3) L S 224 (fu (upd2 Gc o fz z) Gm) q) : J l M K X pc L ((0, z) :: (2, o) :: S) 224 (fu Gc Gm) q := by
  obtain ⟨h1, h2, h3, h4, h5⟩ := hF
  refine j_putf hd h1 hp hs.1 h2 h3 h4 hnf (fun e => absurd e (by decide)) ?_
  rw [fu_updc (refS_ob hs.1 h5 (by rw [← h3, Int.toNat_natCast]; exact h4)) hs.2]
  exact k
theorem j_aic {N : Nat} {Nz : Int} {o i : Int} (hd : decode M.cc pc = .ok (.iaload, 1)) (hs : OC o 20 N) (hN : (N : Int) = Nz) (h0 : 0 ≤ i) (h1 : i < Nz) (k : J l M K X (pc + 1) L ((0, Gc o i) :: S) 224 (fu Gc Gm) q) : J l M K X pc L ((0, i) :: (2, o) :: S) 224 (fu Gc Gm) q := by
  refine j_iald hd hs.1 h0 (by omega) ?_
  rw [fu_c (refS_arr hs.1 (by decide) (by decide)) hs.2]
  exact k
theorem j_abc {N : Nat} {Nz : Int} {o i : Int} (hd : decode M.cc pc = .ok (.baload, 1)) (hs : OC o 21 N) (hN : (N : Int) = Nz) (h0 : 0 ≤ i) (h1 : i < Nz) (k : J l M K X (pc + 1) L ((0, Gc o i) :: S) 224 (fu Gc Gm) q) : J l M K X pc L ((0, i) :: (2, o) :: S) 224 (fu Gc Gm) q := by
  refine j_bald hd hs.1 h0 (by omega) ?_
  rw [fu_c (refS_arr hs.1 (by decide) (by decide)) hs.2]
  exact k
theorem j_azc {N : Nat} {Nz : Int} {o i : Int} (hd : decode M.cc pc = .ok (.baload, 1)) (hs : OC o 22 N) (hN : (N : Int) = Nz) (h0 : 0 ≤ i) (h1 : i < Nz) (k : J l M K X (pc + 1) L ((0, Gc o i) :: S) 224 (fu Gc Gm) q) : J l M K X pc L ((0, i) :: (2, o) :: S) 224 (fu Gc Gm) q := by
  refine j_zald hd hs.1 h0 (by omega) ?_
  rw [fu_c (refS_arr hs.1 (by decide) (by decide)) hs.2]
  exact k
theorem j_sic {N : Nat} {Nz : Int} {o i z : Int} (hd : decode M.cc pc = .ok (.iastore, 1)) (hs : OC o 20 N) (hN : (N : Int) = Nz) (h0 : 0 ≤ i) (h1 : i < Nz) (k : J l M K X (pc + 1) L S 224 (fu (upd2 Gc o i z) Gm) q) : J l M K X pc L ((0, z) :: (0, i) :: (2, o) :: S) 224 (fu Gc Gm) q := by
  refine j_iast hd hs.1 h0 (by omega) ?_
  rw [fu_updc (refS_arr hs.1 (by decide) (by decide)) hs.2]
  exact k
theorem j_szc {N : Nat} {Nz : Int} {o i z : Int} (hd : decode M.cc pc = .ok (.bastore, 1)) (hs : OC o 22 N) (hN : (N : Int) = Nz) (hz : z = 0 ∨ z = 1) (h0 : 0 ≤ i) (h1 : i < Nz) (k : J l M K X (pc + 1) L S 224 (fu (upd2 Gc o i z) Gm) q) : J l M K X pc L ((0, z) :: (0, i) :: (2, o) :: S) 224 (fu Gc Gm) q := by
  refine j_zast hd hs.1 h0 (by omega) hz ?_
  rw [fu_updc (refS_arr hs.1 (by decide) (by decide)) hs.2]
  exact k
theorem j_sbc {N : Nat} {Nz : Int} {o i z : Int} (hd : decode M.cc pc = .ok (.bastore, 1)) (hs : OC o 21 N) (hN : (N : Int) = Nz) (hz : -128 ≤ z ∧ z ≤ 127) (h0 : 0 ≤ i) (h1 : i < Nz) (k : J l M K X (pc + 1) L S 224 (fu (upd2 Gc o i z) Gm) q) : J l M K X pc L ((0, z) :: (0, i) :: (2, o) :: S) 224 (fu Gc Gm) q := by
  refine j_bast hd hs.1 h0 (by omega) hz ?_
  rw [fu_updc (refS_arr hs.1 (by decide) (by decide)) hs.2]
  exact k
theorem j_gim {idx ci fi N : Nat} {o fz : Int} (hd : decode M.cc pc = .ok (.getfield idx, 3)) (hF : GF M.y.cls idx ci fi N 0 fz) (hs : OM o ci N) (k : J l M K X (pc + 3) L ((0, Gm o fz) :: S) 224 (fu Gc Gm) q) : J l M K X pc L ((2, o) :: S) 224 (fu Gc Gm) q := by
  obtain ⟨h1, h2, h3, h4, h5⟩ := hF
  refine j_getf hd h1 hs.1 h2 h3 h4 ?_
  rw [fu_m (refS_ob hs.1 h5 (by rw [← h3, Int.toNat_natCast]; exact h4)) hs.2]
  exact k
theorem j_grm {idx ci fi N : Nat} {o fz z : Int} (hd : decode M.cc pc = .ok (.getfield idx, 3)) (hF : GF M.y.cls idx ci fi N 2 fz) (hs : OM o ci N) (h57 : ci ≠ 7 ∨ fz ≠ 0) (hv : RF0 o fz = z) (k : J l M K X (pc + 3) L ((2, z) :: S) 224 (fu Gc Gm) q) : J l M K X pc L ((2, o) :: S) 224 (fu Gc Gm) q := by
  obtain ⟨h1, h2, h3, h4, h5⟩ := hF
  refine j_getf hd h1 hs.1 h2 h3 h4 ?_
  have e : isRefS o fz = true := by
    have e2 : ftg ci fz.toNat = 2 := by rw [← h3, Int.toNat_natCast]; exact h4
    rcases h57 with h | h
    · exact refS_ref hs.1 h5 e2 h
    · exact refS_ref' hs.1 h5 e2 h
  rw [fu_r e, hv]
  exact k
theorem j_pim {idx ci fi N : Nat} {o fz z : Int} (hd : decode M.cc pc = .ok (.putfield idx, 3)) (hF : GF M.y.cls idx ci fi N 0 fz) (hp : PutOK M idx ci fi) (hs : OM o ci N) (hnf : NF ci fi 0 z) (k : J l M K X (pc + 3) L S 224 (fu Gc (upd2 Gm o fz z)) q) : J l M K X pc L ((0, z) :: (2, o) :: S) 224 (fu Gc Gm) q := by
  obtain ⟨h1, h2, h3, h4, h5⟩ := hF
  refine j_putf hd h1 hp hs.1 h2 h3 h4 hnf (fun e => absurd e (by decide)) ?_
  rw [fu_updm (refS_ob hs.1 h5 (by rw [← h3, Int.toNat_natCast]; exact h4)) hs.2]
  exact k
theorem j_aim {N : Nat} {Nz : Int} {o i : Int} (hd : decode M.cc pc = .ok (.iaload, 1)) (hs : OM o 20 N) (hN : (N : Int) = Nz) (h0 : 0 ≤ i) (h1 : i < Nz) (k : J l M K X (pc + 1) L ((0, Gm o i) :: S) 224 (fu Gc Gm) q) : J l M K X pc L ((0, i) :: (2, o) :: S) 224 (fu Gc Gm) q := by
  refine j_iald hd hs.1 h0 (by omega) ?_
  rw [fu_m (refS_arr hs.1 (by decide) (by decide)) hs.2]
  exact k
theorem j_abm {N : Nat} {Nz : Int} {o i : Int} (hd : decode M.cc pc = .ok (.baload, 1)) (hs : OM o 21 N) (hN : (N : Int) = Nz) (h0 : 0 ≤ i) (h1 : i < Nz) (k : J l M K X (pc + 1) L ((0, Gm o i) :: S) 224 (fu Gc Gm) q) : J l M K X pc L ((0, i) :: (2, o) :: S) 224 (fu Gc Gm) q := by
  refine j_bald hd hs.1 h0 (by omega) ?_
  rw [fu_m (refS_arr hs.1 (by decide) (by decide)) hs.2]
  exact k
theorem j_azm {N : Nat} {Nz : Int} {o i : Int} (hd : decode M.cc pc = .ok (.baload, 1)) (hs : OM o 22 N) (hN : (N : Int) = Nz) (h0 : 0 ≤ i) (h1 : i < Nz) (k : J l M K X (pc + 1) L ((0, Gm o i) :: S) 224 (fu Gc Gm) q) : J l M K X pc L ((0, i) :: (2, o) :: S) 224 (fu Gc Gm) q := by
  refine j_zald hd hs.1 h0 (by omega) ?_
  rw [fu_m (refS_arr hs.1 (by decide) (by decide)) hs.2]
  exact k
theorem j_sim {N : Nat} {Nz : Int} {o i z : Int} (hd : decode M.cc pc = .ok (.iastore, 1)) (hs : OM o 20 N) (hN : (N : Int) = Nz) (h0 : 0 ≤ i) (h1 : i < Nz) (k : J l M K X (pc + 1) L S 224 (fu Gc (upd2 Gm o i z)) q) : J l M K X pc L ((0, z) :: (0, i) :: (2, o) :: S) 224 (fu Gc Gm) q := by
  refine j_iast hd hs.1 h0 (by omega) ?_
  rw [fu_updm (refS_arr hs.1 (by decide) (by decide)) hs.2]
  exact k
theorem j_szm {N : Nat} {Nz : Int} {o i z : Int} (hd : decode M.cc pc = .ok (.bastore, 1)) (hs : OM o 22 N) (hN : (N : Int) = Nz) (hz : z = 0 ∨ z = 1) (h0 : 0 ≤ i) (h1 : i < Nz) (k : J l M K X (pc + 1) L S 224 (fu Gc (upd2 Gm o i z)) q) : J l M K X pc L ((0, z) :: (0, i) :: (2, o) :: S) 224 (fu Gc Gm) q := by
  refine j_zast hd hs.1 h0 (by omega) hz ?_
  rw [fu_updm (refS_arr hs.1 (by decide) (by decide)) hs.2]
  exact k
theorem j_sbm {N : Nat} {Nz : Int} {o i z : Int} (hd : decode M.cc pc = .ok (.bastore, 1)) (hs : OM o 21 N) (hN : (N : Int) = Nz) (hz : -128 ≤ z ∧ z ≤ 127) (h0 : 0 ≤ i) (h1 : i < Nz) (k : J l M K X (pc + 1) L S 224 (fu Gc (upd2 Gm o i z)) q) : J l M K X pc L ((0, z) :: (0, i) :: (2, o) :: S) 224 (fu Gc Gm) q := by
  refine j_bast hd hs.1 h0 (by omega) hz ?_
  rw [fu_updm (refS_arr hs.1 (by decide) (by decide)) hs.2]
  exact k
theorem j_aq {t N : Nat} {Nz : Int} {o i : Int} (hd : decode M.cc pc = .ok (.aaload, 1)) (hs : OC o (23 + t) N) (ht : t < 4) (hN : (N : Int) = Nz) (h0 : 0 ≤ i) (h1 : i < Nz) (k : J l M K X (pc + 1) L ((2, RF0 o i) :: S) 224 (fu Gc Gm) q) : J l M K X pc L ((0, i) :: (2, o) :: S) 224 (fu Gc Gm) q := by
  refine j_aald hd hs.1 ht h0 (by omega) ?_
  rw [fu_r (refS_aref hs.1 (by omega) (fun e => by
    have h := hs.1.2.2
    rw [e] at h
    have h2 := congrArg Prod.fst h
    have h3 : (7 : Nat) = 23 + t := h2
    omega))]
  exact k
theorem j_gsp {idx : Nat} (hd : decode M.cc pc = .ok (.getfield idx, 3)) (hF : GF M.y.cls idx 7 0 13 2 0) (hs : OC 57 7 13) (k : J l M K X (pc + 3) L ((2, Gc 57 0) :: S) 224 (fu Gc Gm) q) : J l M K X pc L ((2, 57) :: S) 224 (fu Gc Gm) q := by
  obtain ⟨h1, h2, h3, h4, h5⟩ := hF
  refine j_getf hd h1 hs.1 h2 h3 h4 ?_
  rw [fu_c rfl hs.2]
  exact k
theorem j_psp {idx : Nat} {z : Int} (hd : decode M.cc pc = .ok (.putfield idx, 3)) (hF : GF M.y.cls idx 7 0 13 2 0) (hp : PutOK M idx 7 0) (hs : OC 57 7 13) (hz : r32 z) (k : J l M K X (pc + 3) L S 224 (fu (upd2 Gc 57 0 z) Gm) q) : J l M K X pc L ((2, z) :: (2, 57) :: S) 224 (fu Gc Gm) q := by
  obtain ⟨h1, h2, h3, h4, h5⟩ := hF
  refine j_putf hd h1 hp hs.1 h2 h3 h4 (fun w => nf_obj) (fun _ => hz) ?_
  rw [fu_updc rfl hs.2]
  exact k
theorem j_len {t N : Nat} {Nz : Int} {o : Int} (hd : decode M.cc pc = .ok (.arraylength, 1)) (hs : OB 224 o (20 + t) N) (ht : t < 3) (hN : (N : Int) = Nz) (hr : r32 Nz) (k : J l M K X (pc + 1) L ((0, Nz) :: S) 224 (fu Gc Gm) q) : J l M K X pc L ((2, o) :: S) 224 (fu Gc Gm) q := by
  subst hN
  exact j_alen hd hs ht hr k
theorem j_cpy {t N0 N1 idx : Nat} {Z0 Z1 a b i j k : Int} (hd : decode M.cc pc = .ok (.invokestatic idx, 3)) (ho : CpyOK M idx) (ht : t < 2) (ha : OC a (20 + t) N0) (hb : OC b (20 + t) N1) (h0 : (N0 : Int) = Z0) (h1 : (N1 : Int) = Z1) (hd1 : 1 ≤ M.d) (hS8 : wt S ≤ 8) (kk : J l M K X (pc + 3) L S 224 (fu (cpy2 Gc a i b j k) Gm) q) : J l M K (cpyG i j k Z0 Z1 X) pc L ((0, k) :: (0, j) :: (2, b) :: (0, i) :: (2, a) :: S) 224 (fu Gc Gm) q := by
  subst h0 h1
  refine j_copy hd ho ht ha.1 hb.1 hd1 hS8 (fun _ => ?_)
  rw [fu_cpyc ha hb (by omega) (by omega)]
  exact kk
end POST
-- kinds of answers
def KRi (C : Hp) : Int → Option AV × Nat × Hp := fun v => (some (0, v), 224, C)
def KRb (C : Hp) : Bool → Option AV × Nat × Hp := fun v => (some (0, b2i v), 224, C)
def KRl (C : Hp) : Int → Option AV × Nat × Hp := fun v => (some (1, v), 224, C)
def KRr (C : Hp) : Int → Option AV × Nat × Hp := fun v => (some (2, v), 224, C)
def KWi (f : Hp → Hp) : Int × Hp → Option AV × Nat × Hp := fun r => (some (0, r.1), 224, f r.2)
def KWb (f : Hp → Hp) : Bool × Hp → Option AV × Nat × Hp := fun r => (some (0, b2i r.1), 224, f r.2)
def KWl (f : Hp → Hp) : Int × Hp → Option AV × Nat × Hp := fun r => (some (1, r.1), 224, f r.2)
def KWv (f : Hp → Hp) : Hp → Option AV × Nat × Hp := fun r => (none, 224, f r)
/-- the calls that make nothing: what the tables must say -/
def LK (M M' : MC) (idx : Nat) : Prop := Cond.methodLink M.y.cls idx M'.y ∈ lw_gt ∨ ∃ host : String, Cond.methodLinkNest M.y.cls idx M'.y host ∈ lw_ns
def IM (M' : MC) (k ci N : Nat) : Prop := YOK M' k ∧ Cond.instanceMethod M'.y ∈ lw_gt ∧ Cond.selects M'.y.cls M'.y M'.y ∈ lw_gt ∧ (∃ (T : u_T) (N2 : Nat), ClsOK ci M'.y.cls T N2) ∧ M'.mc = 0 ∧ M'.ms = 0
def SM (M' : MC) (k : Nat) : Prop := YOK M' k ∧ Cond.static M'.y ∈ lw_gt ∧ M'.mc = 0 ∧ M'.ms = 0
section CALLK
variable {α β : Type} {l : Launch} {M M' : MC} {K : α → Option AV × Nat × Hp} {X : Option α} {Xk : β → Option α} {F : Option β} {pc idx k : Nat} {L S stk As : List AV} {C : Hp}
theorem j_cV {Kc : β → Option AV × Nat × Hp} {b : Int} {ci N : Nat} (hd : decode M.cc pc = .ok (.invokevirtual idx, 3)) (hI : IM M' k ci N) (hl : LK M M' idx) (hk : As.length = k) (hst : As.reverse ++ (2, b) :: S = stk) (hob : OB 224 b ci N) (hR : RmOK M M') (hS8 : wt S ≤ 8) (hn : ∀ r, (Kc r).2.1 = 224) (hc : ∀ r, F = some r → Ct l M' ((2, b) :: As) 224 C (Kc r))
    (kk : ∀ r, F = some r → J l M K (Xk r) (pc + 3) L ((Kc r).1.toList ++ S) 224 (Kc r).2.2 (0, 0)) : J l M K (F.bind Xk) pc L stk 224 C (0, 0) := by
  obtain ⟨hY, hi, hs, ⟨T, N2, hcl⟩, hm1, hm2⟩ := hI
  subst hst
  subst hk
  refine j_callV (Kc := Kc) hd hY hl hi hs hcl hob hR hS8 (by rw [hm1]; exact Nat.zero_le _) (by rw [hm2]; exact Nat.zero_le _) hc (fun r => by rw [hn r, hm1]) (fun r hr => ?_)
  rw [hm1, hm2, hn r]
  exact kk r hr
theorem j_cS {Kc : β → Option AV × Nat × Hp} (hd : decode M.cc pc = .ok (.invokestatic idx, 3)) (hI : SM M' k) (hl : LK M M' idx) (hk : As.length = k) (hst : As.reverse ++ S = stk) (hR : RmOK M M') (hS8 : wt S ≤ 8) (hn : ∀ r, (Kc r).2.1 = 224) (hc : ∀ r, F = some r → Ct l M' As 224 C (Kc r))
    (kk : ∀ r, F = some r → J l M K (Xk r) (pc + 3) L ((Kc r).1.toList ++ S) 224 (Kc r).2.2 (0, 0)) : J l M K (F.bind Xk) pc L stk 224 C (0, 0) := by
  obtain ⟨hY, hi, hm1, hm2⟩ := hI
  subst hst
  subst hk
  refine j_callS (Kc := Kc) hd hY hl hi hR hS8 (by rw [hm1]; exact Nat.zero_le _) (by rw [hm2]; exact Nat.zero_le _) hc (fun r => by rw [hn r, hm1]) (fun r hr => ?_)
  rw [hm1, hm2, hn r]
  exact kk r hr
theorem j_cVRi {F : Option Int} {Xk : Int → Option α} {b : Int} {ci N : Nat} (hd : decode M.cc pc = .ok (.invokevirtual idx, 3)) (hI : IM M' k ci N) (hl : LK M M' idx) (hk : As.length = k) (hst : As.reverse ++ (2, b) :: S = stk) (hob : OB 224 b ci N) (hR : RmOK M M') (hS8 : wt S ≤ 8) (hc : ∀ r, F = some r → Ct l M' ((2, b) :: As) 224 C (KRi C r)) (kk : ∀ v, F = some v → J l M K (Xk v) (pc + 3) L ((0, v) :: S) 224 C (0, 0)) : J l M K (F.bind Xk) pc L stk 224 C (0, 0) :=
  j_cV (Kc := KRi C) hd hI hl hk hst hob hR hS8 (fun _ => rfl) hc kk
theorem j_cVRip {v : Int} {b : Int} {ci N : Nat} (hd : decode M.cc pc = .ok (.invokevirtual idx, 3)) (hI : IM M' k ci N) (hl : LK M M' idx) (hk : As.length = k) (hst : As.reverse ++ (2, b) :: S = stk) (hob : OB 224 b ci N) (hR : RmOK M M') (hS8 : wt S ≤ 8) (hc : Ct l M' ((2, b) :: As) 224 C (KRi C v)) (kk : J l M K X (pc + 3) L ((0, v) :: S) 224 C (0, 0)) : J l M K X pc L stk 224 C (0, 0) :=
  j_cV (F := some v) (Xk := fun _ => X) (Kc := KRi C) hd hI hl hk hst hob hR hS8 (fun _ => rfl) (fun r hr => by cases hr; exact hc) (fun r hr => by cases hr; exact kk)
theorem j_cSRi {F : Option Int} {Xk : Int → Option α} (hd : decode M.cc pc = .ok (.invokestatic idx, 3)) (hI : SM M' k) (hl : LK M M' idx) (hk : As.length = k) (hst : As.reverse ++ S = stk) (hR : RmOK M M') (hS8 : wt S ≤ 8) (hc : ∀ r, F = some r → Ct l M' As 224 C (KRi C r)) (kk : ∀ v, F = some v → J l M K (Xk v) (pc + 3) L ((0, v) :: S) 224 C (0, 0)) : J l M K (F.bind Xk) pc L stk 224 C (0, 0) :=
  j_cS (Kc := KRi C) hd hI hl hk hst hR hS8 (fun _ => rfl) hc kk
theorem j_cSRip {v : Int} (hd : decode M.cc pc = .ok (.invokestatic idx, 3)) (hI : SM M' k) (hl : LK M M' idx) (hk : As.length = k) (hst : As.reverse ++ S = stk) (hR : RmOK M M') (hS8 : wt S ≤ 8) (hc : Ct l M' As 224 C (KRi C v)) (kk : J l M K X (pc + 3) L ((0, v) :: S) 224 C (0, 0)) : J l M K X pc L stk 224 C (0, 0) :=
  j_cS (F := some v) (Xk := fun _ => X) (Kc := KRi C) hd hI hl hk hst hR hS8 (fun _ => rfl) (fun r hr => by cases hr; exact hc) (fun r hr => by cases hr; exact kk)
theorem j_cVRb {F : Option Bool} {Xk : Bool → Option α} {b : Int} {ci N : Nat} (hd : decode M.cc pc = .ok (.invokevirtual idx, 3)) (hI : IM M' k ci N) (hl : LK M M' idx) (hk : As.length = k) (hst : As.reverse ++ (2, b) :: S = stk) (hob : OB 224 b ci N) (hR : RmOK M M') (hS8 : wt S ≤ 8) (hc : ∀ r, F = some r → Ct l M' ((2, b) :: As) 224 C (KRb C r)) (kk : ∀ v, F = some v → J l M K (Xk v) (pc + 3) L ((0, b2i v) :: S) 224 C (0, 0)) : J l M K (F.bind Xk) pc L stk 224 C (0, 0) :=
  j_cV (Kc := KRb C) hd hI hl hk hst hob hR hS8 (fun _ => rfl) hc kk
theorem j_cVRbp {v : Bool} {b : Int} {ci N : Nat} (hd : decode M.cc pc = .ok (.invokevirtual idx, 3)) (hI : IM M' k ci N) (hl : LK M M' idx) (hk : As.length = k) (hst : As.reverse ++ (2, b) :: S = stk) (hob : OB 224 b ci N) (hR : RmOK M M') (hS8 : wt S ≤ 8) (hc : Ct l M' ((2, b) :: As) 224 C (KRb C v)) (kk : J l M K X (pc + 3) L ((0, b2i v) :: S) 224 C (0, 0)) : J l M K X pc L stk 224 C (0, 0) :=
  j_cV (F := some v) (Xk := fun _ => X) (Kc := KRb C) hd hI hl hk hst hob hR hS8 (fun _ => rfl) (fun r hr => by cases hr; exact hc) (fun r hr => by cases hr; exact kk)
theorem j_cSRb {F : Option Bool} {Xk : Bool → Option α} (hd : decode M.cc pc = .ok (.invokestatic idx, 3)) (hI : SM M' k) (hl : LK M M' idx) (hk : As.length = k) (hst : As.reverse ++ S = stk) (hR : RmOK M M') (hS8 : wt S ≤ 8) (hc : ∀ r, F = some r → Ct l M' As 224 C (KRb C r)) (kk : ∀ v, F = some v → J l M K (Xk v) (pc + 3) L ((0, b2i v) :: S) 224 C (0, 0)) : J l M K (F.bind Xk) pc L stk 224 C (0, 0) :=
  j_cS (Kc := KRb C) hd hI hl hk hst hR hS8 (fun _ => rfl) hc kk
theorem j_cSRbp {v : Bool} (hd : decode M.cc pc = .ok (.invokestatic idx, 3)) (hI : SM M' k) (hl : LK M M' idx) (hk : As.length = k) (hst : As.reverse ++ S = stk) (hR : RmOK M M') (hS8 : wt S ≤ 8) (hc : Ct l M' As 224 C (KRb C v)) (kk : J l M K X (pc + 3) L ((0, b2i v) :: S) 224 C (0, 0)) : J l M K X pc L stk 224 C (0, 0) :=
  j_cS (F := some v) (Xk := fun _ => X) (Kc := KRb C) hd hI hl hk hst hR hS8 (fun _ => rfl) (fun r hr => by cases hr; exact hc) (fun r hr => by cases hr; exact kk)
theorem j_cVRl {F : Option Int} {Xk : Int → Option α} {b : Int} {ci N : Nat} (hd : decode M.cc pc = .ok (.invokevirtual idx, 3)) (hI : IM M' k ci N) (hl : LK M M' idx) (hk : As.length = k) (hst : As.reverse ++ (2, b) :: S = stk) (hob : OB 224 b ci N) (hR : RmOK M M') (hS8 : wt S ≤ 8) (hc : ∀ r, F = some r → Ct l M' ((2, b) :: As) 224 C (KRl C r)) (kk : ∀ v, F = some v → J l M K (Xk v) (pc + 3) L ((1, v) :: S) 224 C (0, 0)) : J l M K (F.bind Xk) pc L stk 224 C (0, 0) :=
  j_cV (Kc := KRl C) hd hI hl hk hst hob hR hS8 (fun _ => rfl) hc kk
theorem j_cVRlp {v : Int} {b : Int} {ci N : Nat} (hd : decode M.cc pc = .ok (.invokevirtual idx, 3)) (hI : IM M' k ci N) (hl : LK M M' idx) (hk : As.length = k) (hst : As.reverse ++ (2, b) :: S = stk) (hob : OB 224 b ci N) (hR : RmOK M M') (hS8 : wt S ≤ 8) (hc : Ct l M' ((2, b) :: As) 224 C (KRl C v)) (kk : J l M K X (pc + 3) L ((1, v) :: S) 224 C (0, 0)) : J l M K X pc L stk 224 C (0, 0) :=
  j_cV (F := some v) (Xk := fun _ => X) (Kc := KRl C) hd hI hl hk hst hob hR hS8 (fun _ => rfl) (fun r hr => by cases hr; exact hc) (fun r hr => by cases hr; exact kk)
theorem j_cSRl {F : Option Int} {Xk : Int → Option α} (hd : decode M.cc pc = .ok (.invokestatic idx, 3)) (hI : SM M' k) (hl : LK M M' idx) (hk : As.length = k) (hst : As.reverse ++ S = stk) (hR : RmOK M M') (hS8 : wt S ≤ 8) (hc : ∀ r, F = some r → Ct l M' As 224 C (KRl C r)) (kk : ∀ v, F = some v → J l M K (Xk v) (pc + 3) L ((1, v) :: S) 224 C (0, 0)) : J l M K (F.bind Xk) pc L stk 224 C (0, 0) :=
  j_cS (Kc := KRl C) hd hI hl hk hst hR hS8 (fun _ => rfl) hc kk
theorem j_cSRlp {v : Int} (hd : decode M.cc pc = .ok (.invokestatic idx, 3)) (hI : SM M' k) (hl : LK M M' idx) (hk : As.length = k) (hst : As.reverse ++ S = stk) (hR : RmOK M M') (hS8 : wt S ≤ 8) (hc : Ct l M' As 224 C (KRl C v)) (kk : J l M K X (pc + 3) L ((1, v) :: S) 224 C (0, 0)) : J l M K X pc L stk 224 C (0, 0) :=
  j_cS (F := some v) (Xk := fun _ => X) (Kc := KRl C) hd hI hl hk hst hR hS8 (fun _ => rfl) (fun r hr => by cases hr; exact hc) (fun r hr => by cases hr; exact kk)
theorem j_cVRr {F : Option Int} {Xk : Int → Option α} {b : Int} {ci N : Nat} (hd : decode M.cc pc = .ok (.invokevirtual idx, 3)) (hI : IM M' k ci N) (hl : LK M M' idx) (hk : As.length = k) (hst : As.reverse ++ (2, b) :: S = stk) (hob : OB 224 b ci N) (hR : RmOK M M') (hS8 : wt S ≤ 8) (hc : ∀ r, F = some r → Ct l M' ((2, b) :: As) 224 C (KRr C r)) (kk : ∀ v, F = some v → J l M K (Xk v) (pc + 3) L ((2, v) :: S) 224 C (0, 0)) : J l M K (F.bind Xk) pc L stk 224 C (0, 0) :=
  j_cV (Kc := KRr C) hd hI hl hk hst hob hR hS8 (fun _ => rfl) hc kk
theorem j_cVRrp {v : Int} {b : Int} {ci N : Nat} (hd : decode M.cc pc = .ok (.invokevirtual idx, 3)) (hI : IM M' k ci N) (hl : LK M M' idx) (hk : As.length = k) (hst : As.reverse ++ (2, b) :: S = stk) (hob : OB 224 b ci N) (hR : RmOK M M') (hS8 : wt S ≤ 8) (hc : Ct l M' ((2, b) :: As) 224 C (KRr C v)) (kk : J l M K X (pc + 3) L ((2, v) :: S) 224 C (0, 0)) : J l M K X pc L stk 224 C (0, 0) :=
  j_cV (F := some v) (Xk := fun _ => X) (Kc := KRr C) hd hI hl hk hst hob hR hS8 (fun _ => rfl) (fun r hr => by cases hr; exact hc) (fun r hr => by cases hr; exact kk)
theorem j_cSRr {F : Option Int} {Xk : Int → Option α} (hd : decode M.cc pc = .ok (.invokestatic idx, 3)) (hI : SM M' k) (hl : LK M M' idx) (hk : As.length = k) (hst : As.reverse ++ S = stk) (hR : RmOK M M') (hS8 : wt S ≤ 8) (hc : ∀ r, F = some r → Ct l M' As 224 C (KRr C r)) (kk : ∀ v, F = some v → J l M K (Xk v) (pc + 3) L ((2, v) :: S) 224 C (0, 0)) : J l M K (F.bind Xk) pc L stk 224 C (0, 0) :=
  j_cS (Kc := KRr C) hd hI hl hk hst hR hS8 (fun _ => rfl) hc kk
theorem j_cSRrp {v : Int} (hd : decode M.cc pc = .ok (.invokestatic idx, 3)) (hI : SM M' k) (hl : LK M M' idx) (hk : As.length = k) (hst : As.reverse ++ S = stk) (hR : RmOK M M') (hS8 : wt S ≤ 8) (hc : Ct l M' As 224 C (KRr C v)) (kk : J l M K X (pc + 3) L ((2, v) :: S) 224 C (0, 0)) : J l M K X pc L stk 224 C (0, 0) :=
  j_cS (F := some v) (Xk := fun _ => X) (Kc := KRr C) hd hI hl hk hst hR hS8 (fun _ => rfl) (fun r hr => by cases hr; exact hc) (fun r hr => by cases hr; exact kk)
theorem j_cVWi {f : Hp → Hp} {F : Option (Int × Hp)} {Xk : Int × Hp → Option α} {b : Int} {ci N : Nat} (hd : decode M.cc pc = .ok (.invokevirtual idx, 3)) (hI : IM M' k ci N) (hl : LK M M' idx) (hk : As.length = k) (hst : As.reverse ++ (2, b) :: S = stk) (hob : OB 224 b ci N) (hR : RmOK M M') (hS8 : wt S ≤ 8) (hc : ∀ r, F = some r → Ct l M' ((2, b) :: As) 224 C (KWi f r)) (kk : ∀ v, F = some v → J l M K (Xk v) (pc + 3) L ((0, v.1) :: S) 224 (f v.2) (0, 0)) : J l M K (F.bind Xk) pc L stk 224 C (0, 0) :=
  j_cV (Kc := KWi f) hd hI hl hk hst hob hR hS8 (fun _ => rfl) hc kk
theorem j_cSWi {f : Hp → Hp} {F : Option (Int × Hp)} {Xk : Int × Hp → Option α} (hd : decode M.cc pc = .ok (.invokestatic idx, 3)) (hI : SM M' k) (hl : LK M M' idx) (hk : As.length = k) (hst : As.reverse ++ S = stk) (hR : RmOK M M') (hS8 : wt S ≤ 8) (hc : ∀ r, F = some r → Ct l M' As 224 C (KWi f r)) (kk : ∀ v, F = some v → J l M K (Xk v) (pc + 3) L ((0, v.1) :: S) 224 (f v.2) (0, 0)) : J l M K (F.bind Xk) pc L stk 224 C (0, 0) :=
  j_cS (Kc := KWi f) hd hI hl hk hst hR hS8 (fun _ => rfl) hc kk
theorem j_cVWb {f : Hp → Hp} {F : Option (Bool × Hp)} {Xk : Bool × Hp → Option α} {b : Int} {ci N : Nat} (hd : decode M.cc pc = .ok (.invokevirtual idx, 3)) (hI : IM M' k ci N) (hl : LK M M' idx) (hk : As.length = k) (hst : As.reverse ++ (2, b) :: S = stk) (hob : OB 224 b ci N) (hR : RmOK M M') (hS8 : wt S ≤ 8) (hc : ∀ r, F = some r → Ct l M' ((2, b) :: As) 224 C (KWb f r)) (kk : ∀ v, F = some v → J l M K (Xk v) (pc + 3) L ((0, b2i v.1) :: S) 224 (f v.2) (0, 0)) : J l M K (F.bind Xk) pc L stk 224 C (0, 0) :=
  j_cV (Kc := KWb f) hd hI hl hk hst hob hR hS8 (fun _ => rfl) hc kk
theorem j_cSWb {f : Hp → Hp} {F : Option (Bool × Hp)} {Xk : Bool × Hp → Option α} (hd : decode M.cc pc = .ok (.invokestatic idx, 3)) (hI : SM M' k) (hl : LK M M' idx) (hk : As.length = k) (hst : As.reverse ++ S = stk) (hR : RmOK M M') (hS8 : wt S ≤ 8) (hc : ∀ r, F = some r → Ct l M' As 224 C (KWb f r)) (kk : ∀ v, F = some v → J l M K (Xk v) (pc + 3) L ((0, b2i v.1) :: S) 224 (f v.2) (0, 0)) : J l M K (F.bind Xk) pc L stk 224 C (0, 0) :=
  j_cS (Kc := KWb f) hd hI hl hk hst hR hS8 (fun _ => rfl) hc kk
theorem j_cVWl {f : Hp → Hp} {F : Option (Int × Hp)} {Xk : Int × Hp → Option α} {b : Int} {ci N : Nat} (hd : decode M.cc pc = .ok (.invokevirtual idx, 3)) (hI : IM M' k ci N) (hl : LK M M' idx) (hk : As.length = k) (hst : As.reverse ++ (2, b) :: S = stk) (hob : OB 224 b ci N) (hR : RmOK M M') (hS8 : wt S ≤ 8) (hc : ∀ r, F = some r → Ct l M' ((2, b) :: As) 224 C (KWl f r)) (kk : ∀ v, F = some v → J l M K (Xk v) (pc + 3) L ((1, v.1) :: S) 224 (f v.2) (0, 0)) : J l M K (F.bind Xk) pc L stk 224 C (0, 0) :=
  j_cV (Kc := KWl f) hd hI hl hk hst hob hR hS8 (fun _ => rfl) hc kk
theorem j_cSWl {f : Hp → Hp} {F : Option (Int × Hp)} {Xk : Int × Hp → Option α} (hd : decode M.cc pc = .ok (.invokestatic idx, 3)) (hI : SM M' k) (hl : LK M M' idx) (hk : As.length = k) (hst : As.reverse ++ S = stk) (hR : RmOK M M') (hS8 : wt S ≤ 8) (hc : ∀ r, F = some r → Ct l M' As 224 C (KWl f r)) (kk : ∀ v, F = some v → J l M K (Xk v) (pc + 3) L ((1, v.1) :: S) 224 (f v.2) (0, 0)) : J l M K (F.bind Xk) pc L stk 224 C (0, 0) :=
  j_cS (Kc := KWl f) hd hI hl hk hst hR hS8 (fun _ => rfl) hc kk
theorem j_cVWv {f : Hp → Hp} {F : Option (Hp)} {Xk : Hp → Option α} {b : Int} {ci N : Nat} (hd : decode M.cc pc = .ok (.invokevirtual idx, 3)) (hI : IM M' k ci N) (hl : LK M M' idx) (hk : As.length = k) (hst : As.reverse ++ (2, b) :: S = stk) (hob : OB 224 b ci N) (hR : RmOK M M') (hS8 : wt S ≤ 8) (hc : ∀ r, F = some r → Ct l M' ((2, b) :: As) 224 C (KWv f r)) (kk : ∀ v, F = some v → J l M K (Xk v) (pc + 3) L S 224 (f v) (0, 0)) : J l M K (F.bind Xk) pc L stk 224 C (0, 0) :=
  j_cV (Kc := KWv f) hd hI hl hk hst hob hR hS8 (fun _ => rfl) hc kk
theorem j_cSWv {f : Hp → Hp} {F : Option (Hp)} {Xk : Hp → Option α} (hd : decode M.cc pc = .ok (.invokestatic idx, 3)) (hI : SM M' k) (hl : LK M M' idx) (hk : As.length = k) (hst : As.reverse ++ S = stk) (hR : RmOK M M') (hS8 : wt S ≤ 8) (hc : ∀ r, F = some r → Ct l M' As 224 C (KWv f r)) (kk : ∀ v, F = some v → J l M K (Xk v) (pc + 3) L S 224 (f v) (0, 0)) : J l M K (F.bind Xk) pc L stk 224 C (0, 0) :=
  j_cS (Kc := KWv f) hd hI hl hk hst hR hS8 (fun _ => rfl) hc kk
end CALLK
-- the single objects
theorem oc_0 : OC 0 10 11 := ⟨⟨by decide, by decide, rfl⟩, by decide⟩
theorem oc_1 : OC 1 8 8 := ⟨⟨by decide, by decide, rfl⟩, by decide⟩
theorem oc_2 : OC 2 21 600 := ⟨⟨by decide, by decide, rfl⟩, by decide⟩
theorem oc_3 : OC 3 20 3 := ⟨⟨by decide, by decide, rfl⟩, by decide⟩
theorem oc_4 : OC 4 23 2 := ⟨⟨by decide, by decide, rfl⟩, by decide⟩
theorem oc_5 : OC 5 24 2 := ⟨⟨by decide, by decide, rfl⟩, by decide⟩
theorem oc_6 : OC 6 25 2 := ⟨⟨by decide, by decide, rfl⟩, by decide⟩
theorem oc_7 : OC 7 3 7 := ⟨⟨by decide, by decide, rfl⟩, by decide⟩
theorem oc_8 : OC 8 2 4 := ⟨⟨by decide, by decide, rfl⟩, by decide⟩
theorem oc_9 : OC 9 20 10 := ⟨⟨by decide, by decide, rfl⟩, by decide⟩
theorem oc_10 : OC 10 20 100 := ⟨⟨by decide, by decide, rfl⟩, by decide⟩
theorem oc_11 : OC 11 20 100 := ⟨⟨by decide, by decide, rfl⟩, by decide⟩
theorem oc_12 : OC 12 20 6 := ⟨⟨by decide, by decide, rfl⟩, by decide⟩
theorem oc_13 : OC 13 20 6 := ⟨⟨by decide, by decide, rfl⟩, by decide⟩
theorem oc_14 : OC 14 20 48 := ⟨⟨by decide, by decide, rfl⟩, by decide⟩
theorem oc_15 : OC 15 9 4 := ⟨⟨by decide, by decide, rfl⟩, by decide⟩
theorem oc_16 : OC 16 20 60 := ⟨⟨by decide, by decide, rfl⟩, by decide⟩
theorem oc_17 : OC 17 20 60 := ⟨⟨by decide, by decide, rfl⟩, by decide⟩
theorem oc_18 : OC 18 20 60 := ⟨⟨by decide, by decide, rfl⟩, by decide⟩
theorem oc_19 : OC 19 0 3 := ⟨⟨by decide, by decide, rfl⟩, by decide⟩
theorem oc_20 : OC 20 20 8 := ⟨⟨by decide, by decide, rfl⟩, by decide⟩
theorem oc_21 : OC 21 20 8 := ⟨⟨by decide, by decide, rfl⟩, by decide⟩
theorem oc_22 : OC 22 3 7 := ⟨⟨by decide, by decide, rfl⟩, by decide⟩
theorem oc_23 : OC 23 2 4 := ⟨⟨by decide, by decide, rfl⟩, by decide⟩
theorem oc_24 : OC 24 20 10 := ⟨⟨by decide, by decide, rfl⟩, by decide⟩
theorem oc_25 : OC 25 20 100 := ⟨⟨by decide, by decide, rfl⟩, by decide⟩
theorem oc_26 : OC 26 20 100 := ⟨⟨by decide, by decide, rfl⟩, by decide⟩
theorem oc_27 : OC 27 20 6 := ⟨⟨by decide, by decide, rfl⟩, by decide⟩
theorem oc_28 : OC 28 20 6 := ⟨⟨by decide, by decide, rfl⟩, by decide⟩
theorem oc_29 : OC 29 20 48 := ⟨⟨by decide, by decide, rfl⟩, by decide⟩
theorem oc_30 : OC 30 9 4 := ⟨⟨by decide, by decide, rfl⟩, by decide⟩
theorem oc_31 : OC 31 20 60 := ⟨⟨by decide, by decide, rfl⟩, by decide⟩
theorem oc_32 : OC 32 20 60 := ⟨⟨by decide, by decide, rfl⟩, by decide⟩
theorem oc_33 : OC 33 20 60 := ⟨⟨by decide, by decide, rfl⟩, by decide⟩
theorem oc_34 : OC 34 0 3 := ⟨⟨by decide, by decide, rfl⟩, by decide⟩
theorem oc_35 : OC 35 20 8 := ⟨⟨by decide, by decide, rfl⟩, by decide⟩
theorem oc_36 : OC 36 20 8 := ⟨⟨by decide, by decide, rfl⟩, by decide⟩
theorem oc_37 : OC 37 26 3 := ⟨⟨by decide, by decide, rfl⟩, by decide⟩
theorem oc_38 : OC 38 22 3 := ⟨⟨by decide, by decide, rfl⟩, by decide⟩
theorem oc_39 : OC 39 6 14 := ⟨⟨by decide, by decide, rfl⟩, by decide⟩
theorem oc_40 : OC 40 3 7 := ⟨⟨by decide, by decide, rfl⟩, by decide⟩
theorem oc_41 : OC 41 2 4 := ⟨⟨by decide, by decide, rfl⟩, by decide⟩
theorem oc_42 : OC 42 20 10 := ⟨⟨by decide, by decide, rfl⟩, by decide⟩
theorem oc_43 : OC 43 20 100 := ⟨⟨by decide, by decide, rfl⟩, by decide⟩
theorem oc_44 : OC 44 20 100 := ⟨⟨by decide, by decide, rfl⟩, by decide⟩
theorem oc_45 : OC 45 20 6 := ⟨⟨by decide, by decide, rfl⟩, by decide⟩
theorem oc_46 : OC 46 20 6 := ⟨⟨by decide, by decide, rfl⟩, by decide⟩
theorem oc_47 : OC 47 20 48 := ⟨⟨by decide, by decide, rfl⟩, by decide⟩
theorem oc_48 : OC 48 9 4 := ⟨⟨by decide, by decide, rfl⟩, by decide⟩
theorem oc_49 : OC 49 20 60 := ⟨⟨by decide, by decide, rfl⟩, by decide⟩
theorem oc_50 : OC 50 20 60 := ⟨⟨by decide, by decide, rfl⟩, by decide⟩
theorem oc_51 : OC 51 20 60 := ⟨⟨by decide, by decide, rfl⟩, by decide⟩
theorem oc_52 : OC 52 0 3 := ⟨⟨by decide, by decide, rfl⟩, by decide⟩
theorem oc_53 : OC 53 20 8 := ⟨⟨by decide, by decide, rfl⟩, by decide⟩
theorem oc_54 : OC 54 20 8 := ⟨⟨by decide, by decide, rfl⟩, by decide⟩
theorem oc_55 : OC 55 21 600 := ⟨⟨by decide, by decide, rfl⟩, by decide⟩
theorem oc_56 : OC 56 20 3 := ⟨⟨by decide, by decide, rfl⟩, by decide⟩
theorem oc_57 : OC 57 7 13 := ⟨⟨by decide, by decide, rfl⟩, by decide⟩
theorem oc_58 : OC 58 3 7 := ⟨⟨by decide, by decide, rfl⟩, by decide⟩
theorem oc_59 : OC 59 2 4 := ⟨⟨by decide, by decide, rfl⟩, by decide⟩
theorem oc_60 : OC 60 20 10 := ⟨⟨by decide, by decide, rfl⟩, by decide⟩
theorem oc_61 : OC 61 20 100 := ⟨⟨by decide, by decide, rfl⟩, by decide⟩
theorem oc_62 : OC 62 20 100 := ⟨⟨by decide, by decide, rfl⟩, by decide⟩
theorem oc_63 : OC 63 20 6 := ⟨⟨by decide, by decide, rfl⟩, by decide⟩
theorem oc_64 : OC 64 20 6 := ⟨⟨by decide, by decide, rfl⟩, by decide⟩
theorem oc_65 : OC 65 20 48 := ⟨⟨by decide, by decide, rfl⟩, by decide⟩
theorem oc_66 : OC 66 2 4 := ⟨⟨by decide, by decide, rfl⟩, by decide⟩
theorem oc_67 : OC 67 20 10 := ⟨⟨by decide, by decide, rfl⟩, by decide⟩
theorem oc_68 : OC 68 20 100 := ⟨⟨by decide, by decide, rfl⟩, by decide⟩
theorem oc_69 : OC 69 20 100 := ⟨⟨by decide, by decide, rfl⟩, by decide⟩
theorem oc_70 : OC 70 20 6 := ⟨⟨by decide, by decide, rfl⟩, by decide⟩
theorem oc_71 : OC 71 20 6 := ⟨⟨by decide, by decide, rfl⟩, by decide⟩
theorem oc_72 : OC 72 20 60 := ⟨⟨by decide, by decide, rfl⟩, by decide⟩
theorem oc_73 : OC 73 1 2 := ⟨⟨by decide, by decide, rfl⟩, by decide⟩
theorem oc_74 : OC 74 9 4 := ⟨⟨by decide, by decide, rfl⟩, by decide⟩
theorem oc_75 : OC 75 20 60 := ⟨⟨by decide, by decide, rfl⟩, by decide⟩
theorem oc_76 : OC 76 20 60 := ⟨⟨by decide, by decide, rfl⟩, by decide⟩
theorem oc_77 : OC 77 20 60 := ⟨⟨by decide, by decide, rfl⟩, by decide⟩
theorem oc_78 : OC 78 4 4 := ⟨⟨by decide, by decide, rfl⟩, by decide⟩
theorem oc_79 : OC 79 20 61 := ⟨⟨by decide, by decide, rfl⟩, by decide⟩
theorem oc_80 : OC 80 5 11 := ⟨⟨by decide, by decide, rfl⟩, by decide⟩
theorem oc_81 : OC 81 20 6 := ⟨⟨by decide, by decide, rfl⟩, by decide⟩
theorem oc_82 : OC 82 20 7 := ⟨⟨by decide, by decide, rfl⟩, by decide⟩
theorem oc_83 : OC 83 20 720 := ⟨⟨by decide, by decide, rfl⟩, by decide⟩
theorem oc_84 : OC 84 20 720 := ⟨⟨by decide, by decide, rfl⟩, by decide⟩
theorem oc_85 : OC 85 20 720 := ⟨⟨by decide, by decide, rfl⟩, by decide⟩
theorem oc_86 : OC 86 20 720 := ⟨⟨by decide, by decide, rfl⟩, by decide⟩
theorem oc_87 : OC 87 2 4 := ⟨⟨by decide, by decide, rfl⟩, by decide⟩
theorem oc_88 : OC 88 20 10 := ⟨⟨by decide, by decide, rfl⟩, by decide⟩
theorem oc_89 : OC 89 20 100 := ⟨⟨by decide, by decide, rfl⟩, by decide⟩
theorem oc_90 : OC 90 20 100 := ⟨⟨by decide, by decide, rfl⟩, by decide⟩
theorem oc_91 : OC 91 20 10 := ⟨⟨by decide, by decide, rfl⟩, by decide⟩
theorem oc_92 : OC 92 20 36 := ⟨⟨by decide, by decide, rfl⟩, by decide⟩
theorem oc_93 : OC 93 8 8 := ⟨⟨by decide, by decide, rfl⟩, by decide⟩
theorem oc_94 : OC 94 21 600 := ⟨⟨by decide, by decide, rfl⟩, by decide⟩
theorem oc_95 : OC 95 20 3 := ⟨⟨by decide, by decide, rfl⟩, by decide⟩
theorem oc_96 : OC 96 23 2 := ⟨⟨by decide, by decide, rfl⟩, by decide⟩
theorem oc_97 : OC 97 24 2 := ⟨⟨by decide, by decide, rfl⟩, by decide⟩
theorem oc_98 : OC 98 25 2 := ⟨⟨by decide, by decide, rfl⟩, by decide⟩
theorem oc_99 : OC 99 3 7 := ⟨⟨by decide, by decide, rfl⟩, by decide⟩
theorem oc_100 : OC 100 2 4 := ⟨⟨by decide, by decide, rfl⟩, by decide⟩
theorem oc_101 : OC 101 20 10 := ⟨⟨by decide, by decide, rfl⟩, by decide⟩
theorem oc_102 : OC 102 20 100 := ⟨⟨by decide, by decide, rfl⟩, by decide⟩
theorem oc_103 : OC 103 20 100 := ⟨⟨by decide, by decide, rfl⟩, by decide⟩
theorem oc_104 : OC 104 20 6 := ⟨⟨by decide, by decide, rfl⟩, by decide⟩
theorem oc_105 : OC 105 20 6 := ⟨⟨by decide, by decide, rfl⟩, by decide⟩
theorem oc_106 : OC 106 20 48 := ⟨⟨by decide, by decide, rfl⟩, by decide⟩
theorem oc_107 : OC 107 9 4 := ⟨⟨by decide, by decide, rfl⟩, by decide⟩
theorem oc_108 : OC 108 20 60 := ⟨⟨by decide, by decide, rfl⟩, by decide⟩
theorem oc_109 : OC 109 20 60 := ⟨⟨by decide, by decide, rfl⟩, by decide⟩
theorem oc_110 : OC 110 20 60 := ⟨⟨by decide, by decide, rfl⟩, by decide⟩
theorem oc_111 : OC 111 0 3 := ⟨⟨by decide, by decide, rfl⟩, by decide⟩
theorem oc_112 : OC 112 20 8 := ⟨⟨by decide, by decide, rfl⟩, by decide⟩
theorem oc_113 : OC 113 20 8 := ⟨⟨by decide, by decide, rfl⟩, by decide⟩
theorem oc_114 : OC 114 3 7 := ⟨⟨by decide, by decide, rfl⟩, by decide⟩
theorem oc_115 : OC 115 2 4 := ⟨⟨by decide, by decide, rfl⟩, by decide⟩
theorem oc_116 : OC 116 20 10 := ⟨⟨by decide, by decide, rfl⟩, by decide⟩
theorem oc_117 : OC 117 20 100 := ⟨⟨by decide, by decide, rfl⟩, by decide⟩
theorem oc_118 : OC 118 20 100 := ⟨⟨by decide, by decide, rfl⟩, by decide⟩
theorem oc_119 : OC 119 20 6 := ⟨⟨by decide, by decide, rfl⟩, by decide⟩
theorem oc_120 : OC 120 20 6 := ⟨⟨by decide, by decide, rfl⟩, by decide⟩
theorem oc_121 : OC 121 20 48 := ⟨⟨by decide, by decide, rfl⟩, by decide⟩
theorem oc_122 : OC 122 9 4 := ⟨⟨by decide, by decide, rfl⟩, by decide⟩
theorem oc_123 : OC 123 20 60 := ⟨⟨by decide, by decide, rfl⟩, by decide⟩
theorem oc_124 : OC 124 20 60 := ⟨⟨by decide, by decide, rfl⟩, by decide⟩
theorem oc_125 : OC 125 20 60 := ⟨⟨by decide, by decide, rfl⟩, by decide⟩
theorem oc_126 : OC 126 0 3 := ⟨⟨by decide, by decide, rfl⟩, by decide⟩
theorem oc_127 : OC 127 20 8 := ⟨⟨by decide, by decide, rfl⟩, by decide⟩
theorem oc_128 : OC 128 20 8 := ⟨⟨by decide, by decide, rfl⟩, by decide⟩
theorem oc_129 : OC 129 8 8 := ⟨⟨by decide, by decide, rfl⟩, by decide⟩
theorem oc_130 : OC 130 21 600 := ⟨⟨by decide, by decide, rfl⟩, by decide⟩
theorem oc_131 : OC 131 20 3 := ⟨⟨by decide, by decide, rfl⟩, by decide⟩
theorem oc_132 : OC 132 23 2 := ⟨⟨by decide, by decide, rfl⟩, by decide⟩
theorem oc_133 : OC 133 24 2 := ⟨⟨by decide, by decide, rfl⟩, by decide⟩
theorem oc_134 : OC 134 25 2 := ⟨⟨by decide, by decide, rfl⟩, by decide⟩
theorem oc_135 : OC 135 3 7 := ⟨⟨by decide, by decide, rfl⟩, by decide⟩
theorem oc_136 : OC 136 2 4 := ⟨⟨by decide, by decide, rfl⟩, by decide⟩
theorem oc_137 : OC 137 20 10 := ⟨⟨by decide, by decide, rfl⟩, by decide⟩
theorem oc_138 : OC 138 20 100 := ⟨⟨by decide, by decide, rfl⟩, by decide⟩
theorem oc_139 : OC 139 20 100 := ⟨⟨by decide, by decide, rfl⟩, by decide⟩
theorem oc_140 : OC 140 20 6 := ⟨⟨by decide, by decide, rfl⟩, by decide⟩
theorem oc_141 : OC 141 20 6 := ⟨⟨by decide, by decide, rfl⟩, by decide⟩
theorem oc_142 : OC 142 20 48 := ⟨⟨by decide, by decide, rfl⟩, by decide⟩
theorem oc_143 : OC 143 9 4 := ⟨⟨by decide, by decide, rfl⟩, by decide⟩
theorem oc_144 : OC 144 20 60 := ⟨⟨by decide, by decide, rfl⟩, by decide⟩
theorem oc_145 : OC 145 20 60 := ⟨⟨by decide, by decide, rfl⟩, by decide⟩
theorem oc_146 : OC 146 20 60 := ⟨⟨by decide, by decide, rfl⟩, by decide⟩
theorem oc_147 : OC 147 0 3 := ⟨⟨by decide, by decide, rfl⟩, by decide⟩
theorem oc_148 : OC 148 20 8 := ⟨⟨by decide, by decide, rfl⟩, by decide⟩
theorem oc_149 : OC 149 20 8 := ⟨⟨by decide, by decide, rfl⟩, by decide⟩
theorem oc_150 : OC 150 3 7 := ⟨⟨by decide, by decide, rfl⟩, by decide⟩
theorem oc_151 : OC 151 2 4 := ⟨⟨by decide, by decide, rfl⟩, by decide⟩
theorem oc_152 : OC 152 20 10 := ⟨⟨by decide, by decide, rfl⟩, by decide⟩
theorem oc_153 : OC 153 20 100 := ⟨⟨by decide, by decide, rfl⟩, by decide⟩
theorem oc_154 : OC 154 20 100 := ⟨⟨by decide, by decide, rfl⟩, by decide⟩
theorem oc_155 : OC 155 20 6 := ⟨⟨by decide, by decide, rfl⟩, by decide⟩
theorem oc_156 : OC 156 20 6 := ⟨⟨by decide, by decide, rfl⟩, by decide⟩
theorem oc_157 : OC 157 20 48 := ⟨⟨by decide, by decide, rfl⟩, by decide⟩
theorem oc_158 : OC 158 9 4 := ⟨⟨by decide, by decide, rfl⟩, by decide⟩
theorem oc_159 : OC 159 20 60 := ⟨⟨by decide, by decide, rfl⟩, by decide⟩
theorem oc_160 : OC 160 20 60 := ⟨⟨by decide, by decide, rfl⟩, by decide⟩
theorem oc_161 : OC 161 20 60 := ⟨⟨by decide, by decide, rfl⟩, by decide⟩
theorem oc_162 : OC 162 0 3 := ⟨⟨by decide, by decide, rfl⟩, by decide⟩
theorem oc_163 : OC 163 20 8 := ⟨⟨by decide, by decide, rfl⟩, by decide⟩
theorem oc_164 : OC 164 20 8 := ⟨⟨by decide, by decide, rfl⟩, by decide⟩
theorem oc_165 : OC 165 8 8 := ⟨⟨by decide, by decide, rfl⟩, by decide⟩
theorem oc_166 : OC 166 21 600 := ⟨⟨by decide, by decide, rfl⟩, by decide⟩
theorem oc_167 : OC 167 20 3 := ⟨⟨by decide, by decide, rfl⟩, by decide⟩
theorem oc_168 : OC 168 23 2 := ⟨⟨by decide, by decide, rfl⟩, by decide⟩
theorem oc_169 : OC 169 24 2 := ⟨⟨by decide, by decide, rfl⟩, by decide⟩
theorem oc_170 : OC 170 25 2 := ⟨⟨by decide, by decide, rfl⟩, by decide⟩
theorem oc_171 : OC 171 3 7 := ⟨⟨by decide, by decide, rfl⟩, by decide⟩
theorem oc_172 : OC 172 2 4 := ⟨⟨by decide, by decide, rfl⟩, by decide⟩
theorem oc_173 : OC 173 20 10 := ⟨⟨by decide, by decide, rfl⟩, by decide⟩
theorem oc_174 : OC 174 20 100 := ⟨⟨by decide, by decide, rfl⟩, by decide⟩
theorem oc_175 : OC 175 20 100 := ⟨⟨by decide, by decide, rfl⟩, by decide⟩
theorem oc_176 : OC 176 20 6 := ⟨⟨by decide, by decide, rfl⟩, by decide⟩
theorem oc_177 : OC 177 20 6 := ⟨⟨by decide, by decide, rfl⟩, by decide⟩
theorem oc_178 : OC 178 20 48 := ⟨⟨by decide, by decide, rfl⟩, by decide⟩
theorem oc_179 : OC 179 9 4 := ⟨⟨by decide, by decide, rfl⟩, by decide⟩
theorem oc_180 : OC 180 20 60 := ⟨⟨by decide, by decide, rfl⟩, by decide⟩
theorem oc_181 : OC 181 20 60 := ⟨⟨by decide, by decide, rfl⟩, by decide⟩
theorem oc_182 : OC 182 20 60 := ⟨⟨by decide, by decide, rfl⟩, by decide⟩
theorem oc_183 : OC 183 0 3 := ⟨⟨by decide, by decide, rfl⟩, by decide⟩
theorem oc_184 : OC 184 20 8 := ⟨⟨by decide, by decide, rfl⟩, by decide⟩
theorem oc_185 : OC 185 20 8 := ⟨⟨by decide, by decide, rfl⟩, by decide⟩
theorem oc_186 : OC 186 3 7 := ⟨⟨by decide, by decide, rfl⟩, by decide⟩
theorem oc_187 : OC 187 2 4 := ⟨⟨by decide, by decide, rfl⟩, by decide⟩
theorem oc_188 : OC 188 20 10 := ⟨⟨by decide, by decide, rfl⟩, by decide⟩
theorem oc_189 : OC 189 20 100 := ⟨⟨by decide, by decide, rfl⟩, by decide⟩
theorem oc_190 : OC 190 20 100 := ⟨⟨by decide, by decide, rfl⟩, by decide⟩
theorem oc_191 : OC 191 20 6 := ⟨⟨by decide, by decide, rfl⟩, by decide⟩
theorem oc_192 : OC 192 20 6 := ⟨⟨by decide, by decide, rfl⟩, by decide⟩
theorem oc_193 : OC 193 20 48 := ⟨⟨by decide, by decide, rfl⟩, by decide⟩
theorem oc_194 : OC 194 9 4 := ⟨⟨by decide, by decide, rfl⟩, by decide⟩
theorem oc_195 : OC 195 20 60 := ⟨⟨by decide, by decide, rfl⟩, by decide⟩
theorem oc_196 : OC 196 20 60 := ⟨⟨by decide, by decide, rfl⟩, by decide⟩
theorem oc_197 : OC 197 20 60 := ⟨⟨by decide, by decide, rfl⟩, by decide⟩
theorem oc_198 : OC 198 0 3 := ⟨⟨by decide, by decide, rfl⟩, by decide⟩
theorem oc_199 : OC 199 20 8 := ⟨⟨by decide, by decide, rfl⟩, by decide⟩
theorem oc_200 : OC 200 20 8 := ⟨⟨by decide, by decide, rfl⟩, by decide⟩
theorem om_201 : OM 201 11 47 := ⟨⟨by decide, by decide, rfl⟩, by decide⟩
theorem om_202 : OM 202 20 4184 := ⟨⟨by decide, by decide, rfl⟩, by decide⟩
theorem om_203 : OM 203 22 3 := ⟨⟨by decide, by decide, rfl⟩, by decide⟩
theorem om_204 : OM 204 20 121 := ⟨⟨by decide, by decide, rfl⟩, by decide⟩
theorem om_205 : OM 205 20 10 := ⟨⟨by decide, by decide, rfl⟩, by decide⟩
theorem om_206 : OM 206 20 100 := ⟨⟨by decide, by decide, rfl⟩, by decide⟩
theorem om_207 : OM 207 20 8 := ⟨⟨by decide, by decide, rfl⟩, by decide⟩
theorem om_208 : OM 208 20 8 := ⟨⟨by decide, by decide, rfl⟩, by decide⟩
theorem om_209 : OM 209 20 6 := ⟨⟨by decide, by decide, rfl⟩, by decide⟩
theorem om_210 : OM 210 20 6 := ⟨⟨by decide, by decide, rfl⟩, by decide⟩
theorem om_211 : OM 211 20 8 := ⟨⟨by decide, by decide, rfl⟩, by decide⟩
theorem om_212 : OM 212 20 488 := ⟨⟨by decide, by decide, rfl⟩, by decide⟩
theorem om_213 : OM 213 20 6 := ⟨⟨by decide, by decide, rfl⟩, by decide⟩
theorem om_214 : OM 214 20 6 := ⟨⟨by decide, by decide, rfl⟩, by decide⟩
theorem om_215 : OM 215 20 3 := ⟨⟨by decide, by decide, rfl⟩, by decide⟩
theorem om_216 : OM 216 20 5 := ⟨⟨by decide, by decide, rfl⟩, by decide⟩
theorem om_217 : OM 217 20 5 := ⟨⟨by decide, by decide, rfl⟩, by decide⟩
theorem om_218 : OM 218 20 5 := ⟨⟨by decide, by decide, rfl⟩, by decide⟩
theorem om_219 : OM 219 20 8 := ⟨⟨by decide, by decide, rfl⟩, by decide⟩
theorem om_220 : OM 220 20 488 := ⟨⟨by decide, by decide, rfl⟩, by decide⟩
theorem om_221 : OM 221 20 6 := ⟨⟨by decide, by decide, rfl⟩, by decide⟩
theorem om_222 : OM 222 20 80 := ⟨⟨by decide, by decide, rfl⟩, by decide⟩
theorem om_223 : OM 223 20 36 := ⟨⟨by decide, by decide, rfl⟩, by decide⟩
def isNet (p : Int) : Prop := p ∈ ([8, 23, 41, 59, 66, 87, 100, 115, 136, 151, 172, 187] : List Int)
theorem oc_net {p : Int} (h : isNet p) : OC p 2 4 := by
  unfold isNet at h
  simp only [List.mem_cons, List.not_mem_nil, or_false] at h
  rcases h with rfl | rfl | rfl | rfl | rfl | rfl | rfl | rfl | rfl | rfl | rfl | rfl <;> exact ⟨⟨by decide, by decide, rfl⟩, by decide⟩
theorem oc_net_1 {p : Int} (h : isNet p) : OC (p + 1) 20 10 := by
  unfold isNet at h
  simp only [List.mem_cons, List.not_mem_nil, or_false] at h
  rcases h with rfl | rfl | rfl | rfl | rfl | rfl | rfl | rfl | rfl | rfl | rfl | rfl <;> exact ⟨⟨by decide, by decide, rfl⟩, by decide⟩
theorem oc_net_2 {p : Int} (h : isNet p) : OC (p + 2) 20 100 := by
  unfold isNet at h
  simp only [List.mem_cons, List.not_mem_nil, or_false] at h
  rcases h with rfl | rfl | rfl | rfl | rfl | rfl | rfl | rfl | rfl | rfl | rfl | rfl <;> exact ⟨⟨by decide, by decide, rfl⟩, by decide⟩
theorem oc_net_3 {p : Int} (h : isNet p) : OC (p + 3) 20 100 := by
  unfold isNet at h
  simp only [List.mem_cons, List.not_mem_nil, or_false] at h
  rcases h with rfl | rfl | rfl | rfl | rfl | rfl | rfl | rfl | rfl | rfl | rfl | rfl <;> exact ⟨⟨by decide, by decide, rfl⟩, by decide⟩
theorem rf_net_0 {p : Int} (h : isNet p) : RF0 p 0 = p + 1 := by
  unfold isNet at h
  simp only [List.mem_cons, List.not_mem_nil, or_false] at h
  rcases h with rfl | rfl | rfl | rfl | rfl | rfl | rfl | rfl | rfl | rfl | rfl | rfl <;> decide +kernel
theorem rf_net_1 {p : Int} (h : isNet p) : RF0 p 1 = p + 2 := by
  unfold isNet at h
  simp only [List.mem_cons, List.not_mem_nil, or_false] at h
  rcases h with rfl | rfl | rfl | rfl | rfl | rfl | rfl | rfl | rfl | rfl | rfl | rfl <;> decide +kernel
theorem rf_net_2 {p : Int} (h : isNet p) : RF0 p 2 = p + 3 := by
  unfold isNet at h
  simp only [List.mem_cons, List.not_mem_nil, or_false] at h
  rcases h with rfl | rfl | rfl | rfl | rfl | rfl | rfl | rfl | rfl | rfl | rfl | rfl <;> decide +kernel
theorem r32_net {p : Int} (h : isNet p) : r32 p := by
  unfold isNet at h
  simp only [List.mem_cons, List.not_mem_nil, or_false] at h
  rcases h with rfl | rfl | rfl | rfl | rfl | rfl | rfl | rfl | rfl | rfl | rfl | rfl <;> (unfold r32; omega)
def isPaper (p : Int) : Prop := p ∈ ([7, 22, 40, 58, 99, 114, 135, 150, 171, 186] : List Int)
theorem oc_paper {p : Int} (h : isPaper p) : OC p 3 7 := by
  unfold isPaper at h
  simp only [List.mem_cons, List.not_mem_nil, or_false] at h
  rcases h with rfl | rfl | rfl | rfl | rfl | rfl | rfl | rfl | rfl | rfl <;> exact ⟨⟨by decide, by decide, rfl⟩, by decide⟩
theorem oc_paper_5 {p : Int} (h : isPaper p) : OC (p + 5) 20 6 := by
  unfold isPaper at h
  simp only [List.mem_cons, List.not_mem_nil, or_false] at h
  rcases h with rfl | rfl | rfl | rfl | rfl | rfl | rfl | rfl | rfl | rfl <;> exact ⟨⟨by decide, by decide, rfl⟩, by decide⟩
theorem oc_paper_6 {p : Int} (h : isPaper p) : OC (p + 6) 20 6 := by
  unfold isPaper at h
  simp only [List.mem_cons, List.not_mem_nil, or_false] at h
  rcases h with rfl | rfl | rfl | rfl | rfl | rfl | rfl | rfl | rfl | rfl <;> exact ⟨⟨by decide, by decide, rfl⟩, by decide⟩
theorem oc_paper_7 {p : Int} (h : isPaper p) : OC (p + 7) 20 48 := by
  unfold isPaper at h
  simp only [List.mem_cons, List.not_mem_nil, or_false] at h
  rcases h with rfl | rfl | rfl | rfl | rfl | rfl | rfl | rfl | rfl | rfl <;> exact ⟨⟨by decide, by decide, rfl⟩, by decide⟩
theorem rf_paper_3 {p : Int} (h : isPaper p) : RF0 p 3 = p + 1 := by
  unfold isPaper at h
  simp only [List.mem_cons, List.not_mem_nil, or_false] at h
  rcases h with rfl | rfl | rfl | rfl | rfl | rfl | rfl | rfl | rfl | rfl <;> decide +kernel
theorem rf_paper_4 {p : Int} (h : isPaper p) : RF0 p 4 = p + 5 := by
  unfold isPaper at h
  simp only [List.mem_cons, List.not_mem_nil, or_false] at h
  rcases h with rfl | rfl | rfl | rfl | rfl | rfl | rfl | rfl | rfl | rfl <;> decide +kernel
theorem rf_paper_5 {p : Int} (h : isPaper p) : RF0 p 5 = p + 6 := by
  unfold isPaper at h
  simp only [List.mem_cons, List.not_mem_nil, or_false] at h
  rcases h with rfl | rfl | rfl | rfl | rfl | rfl | rfl | rfl | rfl | rfl <;> decide +kernel
theorem rf_paper_6 {p : Int} (h : isPaper p) : RF0 p 6 = p + 7 := by
  unfold isPaper at h
  simp only [List.mem_cons, List.not_mem_nil, or_false] at h
  rcases h with rfl | rfl | rfl | rfl | rfl | rfl | rfl | rfl | rfl | rfl <;> decide +kernel
theorem r32_paper {p : Int} (h : isPaper p) : r32 p := by
  unfold isPaper at h
  simp only [List.mem_cons, List.not_mem_nil, or_false] at h
  rcases h with rfl | rfl | rfl | rfl | rfl | rfl | rfl | rfl | rfl | rfl <;> (unfold r32; omega)
def isWeek (p : Int) : Prop := p ∈ ([15, 30, 48, 74, 107, 122, 143, 158, 179, 194] : List Int)
theorem oc_week {p : Int} (h : isWeek p) : OC p 9 4 := by
  unfold isWeek at h
  simp only [List.mem_cons, List.not_mem_nil, or_false] at h
  rcases h with rfl | rfl | rfl | rfl | rfl | rfl | rfl | rfl | rfl | rfl <;> exact ⟨⟨by decide, by decide, rfl⟩, by decide⟩
theorem oc_week_1 {p : Int} (h : isWeek p) : OC (p + 1) 20 60 := by
  unfold isWeek at h
  simp only [List.mem_cons, List.not_mem_nil, or_false] at h
  rcases h with rfl | rfl | rfl | rfl | rfl | rfl | rfl | rfl | rfl | rfl <;> exact ⟨⟨by decide, by decide, rfl⟩, by decide⟩
theorem oc_week_2 {p : Int} (h : isWeek p) : OC (p + 2) 20 60 := by
  unfold isWeek at h
  simp only [List.mem_cons, List.not_mem_nil, or_false] at h
  rcases h with rfl | rfl | rfl | rfl | rfl | rfl | rfl | rfl | rfl | rfl <;> exact ⟨⟨by decide, by decide, rfl⟩, by decide⟩
theorem oc_week_3 {p : Int} (h : isWeek p) : OC (p + 3) 20 60 := by
  unfold isWeek at h
  simp only [List.mem_cons, List.not_mem_nil, or_false] at h
  rcases h with rfl | rfl | rfl | rfl | rfl | rfl | rfl | rfl | rfl | rfl <;> exact ⟨⟨by decide, by decide, rfl⟩, by decide⟩
theorem rf_week_1 {p : Int} (h : isWeek p) : RF0 p 1 = p + 1 := by
  unfold isWeek at h
  simp only [List.mem_cons, List.not_mem_nil, or_false] at h
  rcases h with rfl | rfl | rfl | rfl | rfl | rfl | rfl | rfl | rfl | rfl <;> decide +kernel
theorem rf_week_2 {p : Int} (h : isWeek p) : RF0 p 2 = p + 2 := by
  unfold isWeek at h
  simp only [List.mem_cons, List.not_mem_nil, or_false] at h
  rcases h with rfl | rfl | rfl | rfl | rfl | rfl | rfl | rfl | rfl | rfl <;> decide +kernel
theorem rf_week_3 {p : Int} (h : isWeek p) : RF0 p 3 = p + 3 := by
  unfold isWeek at h
  simp only [List.mem_cons, List.not_mem_nil, or_false] at h
  rcases h with rfl | rfl | rfl | rfl | rfl | rfl | rfl | rfl | rfl | rfl <;> decide +kernel
theorem r32_week {p : Int} (h : isWeek p) : r32 p := by
  unfold isWeek at h
  simp only [List.mem_cons, List.not_mem_nil, or_false] at h
  rcases h with rfl | rfl | rfl | rfl | rfl | rfl | rfl | rfl | rfl | rfl <;> (unfold r32; omega)
def isLog (p : Int) : Prop := p ∈ ([19, 34, 52, 111, 126, 147, 162, 183, 198] : List Int)
theorem oc_log {p : Int} (h : isLog p) : OC p 0 3 := by
  unfold isLog at h
  simp only [List.mem_cons, List.not_mem_nil, or_false] at h
  rcases h with rfl | rfl | rfl | rfl | rfl | rfl | rfl | rfl | rfl <;> exact ⟨⟨by decide, by decide, rfl⟩, by decide⟩
theorem oc_log_1 {p : Int} (h : isLog p) : OC (p + 1) 20 8 := by
  unfold isLog at h
  simp only [List.mem_cons, List.not_mem_nil, or_false] at h
  rcases h with rfl | rfl | rfl | rfl | rfl | rfl | rfl | rfl | rfl <;> exact ⟨⟨by decide, by decide, rfl⟩, by decide⟩
theorem oc_log_2 {p : Int} (h : isLog p) : OC (p + 2) 20 8 := by
  unfold isLog at h
  simp only [List.mem_cons, List.not_mem_nil, or_false] at h
  rcases h with rfl | rfl | rfl | rfl | rfl | rfl | rfl | rfl | rfl <;> exact ⟨⟨by decide, by decide, rfl⟩, by decide⟩
theorem rf_log_1 {p : Int} (h : isLog p) : RF0 p 1 = p + 1 := by
  unfold isLog at h
  simp only [List.mem_cons, List.not_mem_nil, or_false] at h
  rcases h with rfl | rfl | rfl | rfl | rfl | rfl | rfl | rfl | rfl <;> decide +kernel
theorem rf_log_2 {p : Int} (h : isLog p) : RF0 p 2 = p + 2 := by
  unfold isLog at h
  simp only [List.mem_cons, List.not_mem_nil, or_false] at h
  rcases h with rfl | rfl | rfl | rfl | rfl | rfl | rfl | rfl | rfl <;> decide +kernel
theorem r32_log {p : Int} (h : isLog p) : r32 p := by
  unfold isLog at h
  simp only [List.mem_cons, List.not_mem_nil, or_false] at h
  rcases h with rfl | rfl | rfl | rfl | rfl | rfl | rfl | rfl | rfl <;> (unfold r32; omega)
def isTold (p : Int) : Prop := p ∈ ([1, 93, 129, 165] : List Int)
theorem oc_told {p : Int} (h : isTold p) : OC p 8 8 := by
  unfold isTold at h
  simp only [List.mem_cons, List.not_mem_nil, or_false] at h
  rcases h with rfl | rfl | rfl | rfl <;> exact ⟨⟨by decide, by decide, rfl⟩, by decide⟩
theorem oc_told_1 {p : Int} (h : isTold p) : OC (p + 1) 21 600 := by
  unfold isTold at h
  simp only [List.mem_cons, List.not_mem_nil, or_false] at h
  rcases h with rfl | rfl | rfl | rfl <;> exact ⟨⟨by decide, by decide, rfl⟩, by decide⟩
theorem oc_told_2 {p : Int} (h : isTold p) : OC (p + 2) 20 3 := by
  unfold isTold at h
  simp only [List.mem_cons, List.not_mem_nil, or_false] at h
  rcases h with rfl | rfl | rfl | rfl <;> exact ⟨⟨by decide, by decide, rfl⟩, by decide⟩
theorem oc_told_3 {p : Int} (h : isTold p) : OC (p + 3) 23 2 := by
  unfold isTold at h
  simp only [List.mem_cons, List.not_mem_nil, or_false] at h
  rcases h with rfl | rfl | rfl | rfl <;> exact ⟨⟨by decide, by decide, rfl⟩, by decide⟩
theorem oc_told_4 {p : Int} (h : isTold p) : OC (p + 4) 24 2 := by
  unfold isTold at h
  simp only [List.mem_cons, List.not_mem_nil, or_false] at h
  rcases h with rfl | rfl | rfl | rfl <;> exact ⟨⟨by decide, by decide, rfl⟩, by decide⟩
theorem oc_told_5 {p : Int} (h : isTold p) : OC (p + 5) 25 2 := by
  unfold isTold at h
  simp only [List.mem_cons, List.not_mem_nil, or_false] at h
  rcases h with rfl | rfl | rfl | rfl <;> exact ⟨⟨by decide, by decide, rfl⟩, by decide⟩
theorem rf_told_0 {p : Int} (h : isTold p) : RF0 p 0 = p + 1 := by
  unfold isTold at h
  simp only [List.mem_cons, List.not_mem_nil, or_false] at h
  rcases h with rfl | rfl | rfl | rfl <;> decide +kernel
theorem rf_told_4 {p : Int} (h : isTold p) : RF0 p 4 = p + 2 := by
  unfold isTold at h
  simp only [List.mem_cons, List.not_mem_nil, or_false] at h
  rcases h with rfl | rfl | rfl | rfl <;> decide +kernel
theorem rf_told_5 {p : Int} (h : isTold p) : RF0 p 5 = p + 3 := by
  unfold isTold at h
  simp only [List.mem_cons, List.not_mem_nil, or_false] at h
  rcases h with rfl | rfl | rfl | rfl <;> decide +kernel
theorem rf_told_6 {p : Int} (h : isTold p) : RF0 p 6 = p + 4 := by
  unfold isTold at h
  simp only [List.mem_cons, List.not_mem_nil, or_false] at h
  rcases h with rfl | rfl | rfl | rfl <;> decide +kernel
theorem rf_told_7 {p : Int} (h : isTold p) : RF0 p 7 = p + 5 := by
  unfold isTold at h
  simp only [List.mem_cons, List.not_mem_nil, or_false] at h
  rcases h with rfl | rfl | rfl | rfl <;> decide +kernel
theorem r32_told {p : Int} (h : isTold p) : r32 p := by
  unfold isTold at h
  simp only [List.mem_cons, List.not_mem_nil, or_false] at h
  rcases h with rfl | rfl | rfl | rfl <;> (unfold r32; omega)
theorem net_paper {p : Int} (h : isPaper p) : isNet (p + 1) := by
  unfold isPaper at h
  simp only [List.mem_cons, List.not_mem_nil, or_false] at h
  rcases h with rfl | rfl | rfl | rfl | rfl | rfl | rfl | rfl | rfl | rfl <;> (unfold isNet; decide)
theorem pap_told {t i : Int} (h : isTold t) (h0 : 0 ≤ i) (h1 : i < 2) : isPaper (RF0 (t + 3) i) := by
  unfold isTold at h
  simp only [List.mem_cons, List.not_mem_nil, or_false] at h
  have e : i = 0 ∨ i = 1 := by omega
  rcases e with rfl | rfl <;> rcases h with rfl | rfl | rfl | rfl <;> (unfold isPaper; decide +kernel)
theorem wee_told {t i : Int} (h : isTold t) (h0 : 0 ≤ i) (h1 : i < 2) : isWeek (RF0 (t + 4) i) := by
  unfold isTold at h
  simp only [List.mem_cons, List.not_mem_nil, or_false] at h
  have e : i = 0 ∨ i = 1 := by omega
  rcases e with rfl | rfl <;> rcases h with rfl | rfl | rfl | rfl <;> (unfold isWeek; decide +kernel)
theorem log_told {t i : Int} (h : isTold t) (h0 : 0 ≤ i) (h1 : i < 2) : isLog (RF0 (t + 5) i) := by
  unfold isTold at h
  simp only [List.mem_cons, List.not_mem_nil, or_false] at h
  have e : i = 0 ∨ i = 1 := by omega
  rcases e with rfl | rfl <;> rcases h with rfl | rfl | rfl | rfl <;> (unfold isLog; decide +kernel)
theorem told_37 {i : Int} (h0 : 0 ≤ i) (h1 : i < 3) : isTold (RF0 37 i) := by
  have e : i = 0 ∨ i = 1 ∨ i = 2 := by omega
  rcases e with rfl | rfl | rfl <;> (unfold isTold; decide +kernel)
def isP (p : Int) : Bool := ([7, 22, 40, 58, 99, 114, 135, 150, 171, 186] : List Int).contains p
theorem isP_paper {p : Int} (h : isP p = true) : isPaper p := by
  unfold isP at h
  unfold isPaper
  exact List.contains_iff_mem.mp h
def pg {α : Type} (p : Int) (X : Option α) : Option α := if isP p = true then X else none
theorem j_pg {α : Type} {l : Launch} {M : MC} {K : α → Option AV × Nat × Hp} {X : Option α} {pc n : Nat} {L S : List AV} {C : Hp} {q : Nat × Nat} {p : Int} (k : isPaper p → J l M K X pc L S n C q) : J l M K (pg p X) pc L S n C q := by
  unfold pg
  by_cases h : isP p = true
  · rw [if_pos h]; exact k (isP_paper h)
  · rw [if_neg h]; exact j_none
theorem rf_0_0 : RF0 0 0 = 1 := by decide +kernel
theorem rf_0_1 : RF0 0 1 = 37 := by decide +kernel
theorem rf_0_2 : RF0 0 2 = 38 := by decide +kernel
theorem rf_0_3 : RF0 0 3 = 39 := by decide +kernel
theorem rf_0_4 : RF0 0 4 = 57 := by decide +kernel
theorem rf_0_5 : RF0 0 5 = 73 := by decide +kernel
theorem rf_0_6 : RF0 0 6 = 78 := by decide +kernel
theorem rf_0_7 : RF0 0 7 = 80 := by decide +kernel
theorem rf_0_8 : RF0 0 8 = 87 := by decide +kernel
theorem rf_0_9 : RF0 0 9 = 91 := by decide +kernel
theorem rf_0_10 : RF0 0 10 = 92 := by decide +kernel
theorem rf_1_0 : RF0 1 0 = 2 := by decide +kernel
theorem rf_1_4 : RF0 1 4 = 3 := by decide +kernel
theorem rf_1_5 : RF0 1 5 = 4 := by decide +kernel
theorem rf_1_6 : RF0 1 6 = 5 := by decide +kernel
theorem rf_1_7 : RF0 1 7 = 6 := by decide +kernel
theorem rf_7_3 : RF0 7 3 = 8 := by decide +kernel
theorem rf_7_4 : RF0 7 4 = 12 := by decide +kernel
theorem rf_7_5 : RF0 7 5 = 13 := by decide +kernel
theorem rf_7_6 : RF0 7 6 = 14 := by decide +kernel
theorem rf_8_0 : RF0 8 0 = 9 := by decide +kernel
theorem rf_8_1 : RF0 8 1 = 10 := by decide +kernel
theorem rf_8_2 : RF0 8 2 = 11 := by decide +kernel
theorem rf_15_1 : RF0 15 1 = 16 := by decide +kernel
theorem rf_15_2 : RF0 15 2 = 17 := by decide +kernel
theorem rf_15_3 : RF0 15 3 = 18 := by decide +kernel
theorem rf_19_1 : RF0 19 1 = 20 := by decide +kernel
theorem rf_19_2 : RF0 19 2 = 21 := by decide +kernel
theorem rf_22_3 : RF0 22 3 = 23 := by decide +kernel
theorem rf_22_4 : RF0 22 4 = 27 := by decide +kernel
theorem rf_22_5 : RF0 22 5 = 28 := by decide +kernel
theorem rf_22_6 : RF0 22 6 = 29 := by decide +kernel
theorem rf_23_0 : RF0 23 0 = 24 := by decide +kernel
theorem rf_23_1 : RF0 23 1 = 25 := by decide +kernel
theorem rf_23_2 : RF0 23 2 = 26 := by decide +kernel
theorem rf_30_1 : RF0 30 1 = 31 := by decide +kernel
theorem rf_30_2 : RF0 30 2 = 32 := by decide +kernel
theorem rf_30_3 : RF0 30 3 = 33 := by decide +kernel
theorem rf_34_1 : RF0 34 1 = 35 := by decide +kernel
theorem rf_34_2 : RF0 34 2 = 36 := by decide +kernel
theorem rf_39_0 : RF0 39 0 = 40 := by decide +kernel
theorem rf_39_1 : RF0 39 1 = 48 := by decide +kernel
theorem rf_39_2 : RF0 39 2 = 52 := by decide +kernel
theorem rf_39_5 : RF0 39 5 = 55 := by decide +kernel
theorem rf_39_11 : RF0 39 11 = 56 := by decide +kernel
theorem rf_40_3 : RF0 40 3 = 41 := by decide +kernel
theorem rf_40_4 : RF0 40 4 = 45 := by decide +kernel
theorem rf_40_5 : RF0 40 5 = 46 := by decide +kernel
theorem rf_40_6 : RF0 40 6 = 47 := by decide +kernel
theorem rf_41_0 : RF0 41 0 = 42 := by decide +kernel
theorem rf_41_1 : RF0 41 1 = 43 := by decide +kernel
theorem rf_41_2 : RF0 41 2 = 44 := by decide +kernel
theorem rf_48_1 : RF0 48 1 = 49 := by decide +kernel
theorem rf_48_2 : RF0 48 2 = 50 := by decide +kernel
theorem rf_48_3 : RF0 48 3 = 51 := by decide +kernel
theorem rf_52_1 : RF0 52 1 = 53 := by decide +kernel
theorem rf_52_2 : RF0 52 2 = 54 := by decide +kernel
theorem rf_57_1 : RF0 57 1 = 66 := by decide +kernel
theorem rf_57_3 : RF0 57 3 = 70 := by decide +kernel
theorem rf_57_4 : RF0 57 4 = 71 := by decide +kernel
theorem rf_57_7 : RF0 57 7 = 72 := by decide +kernel
theorem rf_58_3 : RF0 58 3 = 59 := by decide +kernel
theorem rf_58_4 : RF0 58 4 = 63 := by decide +kernel
theorem rf_58_5 : RF0 58 5 = 64 := by decide +kernel
theorem rf_58_6 : RF0 58 6 = 65 := by decide +kernel
theorem rf_59_0 : RF0 59 0 = 60 := by decide +kernel
theorem rf_59_1 : RF0 59 1 = 61 := by decide +kernel
theorem rf_59_2 : RF0 59 2 = 62 := by decide +kernel
theorem rf_66_0 : RF0 66 0 = 67 := by decide +kernel
theorem rf_66_1 : RF0 66 1 = 68 := by decide +kernel
theorem rf_66_2 : RF0 66 2 = 69 := by decide +kernel
theorem rf_73_0 : RF0 73 0 = 74 := by decide +kernel
theorem rf_74_1 : RF0 74 1 = 75 := by decide +kernel
theorem rf_74_2 : RF0 74 2 = 76 := by decide +kernel
theorem rf_74_3 : RF0 74 3 = 77 := by decide +kernel
theorem rf_78_0 : RF0 78 0 = 79 := by decide +kernel
theorem rf_80_4 : RF0 80 4 = 81 := by decide +kernel
theorem rf_80_5 : RF0 80 5 = 82 := by decide +kernel
theorem rf_80_6 : RF0 80 6 = 83 := by decide +kernel
theorem rf_80_7 : RF0 80 7 = 84 := by decide +kernel
theorem rf_80_8 : RF0 80 8 = 85 := by decide +kernel
theorem rf_80_9 : RF0 80 9 = 86 := by decide +kernel
theorem rf_87_0 : RF0 87 0 = 88 := by decide +kernel
theorem rf_87_1 : RF0 87 1 = 89 := by decide +kernel
theorem rf_87_2 : RF0 87 2 = 90 := by decide +kernel
theorem rf_93_0 : RF0 93 0 = 94 := by decide +kernel
theorem rf_93_4 : RF0 93 4 = 95 := by decide +kernel
theorem rf_93_5 : RF0 93 5 = 96 := by decide +kernel
theorem rf_93_6 : RF0 93 6 = 97 := by decide +kernel
theorem rf_93_7 : RF0 93 7 = 98 := by decide +kernel
theorem rf_99_3 : RF0 99 3 = 100 := by decide +kernel
theorem rf_99_4 : RF0 99 4 = 104 := by decide +kernel
theorem rf_99_5 : RF0 99 5 = 105 := by decide +kernel
theorem rf_99_6 : RF0 99 6 = 106 := by decide +kernel
theorem rf_100_0 : RF0 100 0 = 101 := by decide +kernel
theorem rf_100_1 : RF0 100 1 = 102 := by decide +kernel
theorem rf_100_2 : RF0 100 2 = 103 := by decide +kernel
theorem rf_107_1 : RF0 107 1 = 108 := by decide +kernel
theorem rf_107_2 : RF0 107 2 = 109 := by decide +kernel
theorem rf_107_3 : RF0 107 3 = 110 := by decide +kernel
theorem rf_111_1 : RF0 111 1 = 112 := by decide +kernel
theorem rf_111_2 : RF0 111 2 = 113 := by decide +kernel
theorem rf_114_3 : RF0 114 3 = 115 := by decide +kernel
theorem rf_114_4 : RF0 114 4 = 119 := by decide +kernel
theorem rf_114_5 : RF0 114 5 = 120 := by decide +kernel
theorem rf_114_6 : RF0 114 6 = 121 := by decide +kernel
theorem rf_115_0 : RF0 115 0 = 116 := by decide +kernel
theorem rf_115_1 : RF0 115 1 = 117 := by decide +kernel
theorem rf_115_2 : RF0 115 2 = 118 := by decide +kernel
theorem rf_122_1 : RF0 122 1 = 123 := by decide +kernel
theorem rf_122_2 : RF0 122 2 = 124 := by decide +kernel
theorem rf_122_3 : RF0 122 3 = 125 := by decide +kernel
theorem rf_126_1 : RF0 126 1 = 127 := by decide +kernel
theorem rf_126_2 : RF0 126 2 = 128 := by decide +kernel
theorem rf_129_0 : RF0 129 0 = 130 := by decide +kernel
theorem rf_129_4 : RF0 129 4 = 131 := by decide +kernel
theorem rf_129_5 : RF0 129 5 = 132 := by decide +kernel
theorem rf_129_6 : RF0 129 6 = 133 := by decide +kernel
theorem rf_129_7 : RF0 129 7 = 134 := by decide +kernel
theorem rf_135_3 : RF0 135 3 = 136 := by decide +kernel
theorem rf_135_4 : RF0 135 4 = 140 := by decide +kernel
theorem rf_135_5 : RF0 135 5 = 141 := by decide +kernel
theorem rf_135_6 : RF0 135 6 = 142 := by decide +kernel
theorem rf_136_0 : RF0 136 0 = 137 := by decide +kernel
theorem rf_136_1 : RF0 136 1 = 138 := by decide +kernel
theorem rf_136_2 : RF0 136 2 = 139 := by decide +kernel
theorem rf_143_1 : RF0 143 1 = 144 := by decide +kernel
theorem rf_143_2 : RF0 143 2 = 145 := by decide +kernel
theorem rf_143_3 : RF0 143 3 = 146 := by decide +kernel
theorem rf_147_1 : RF0 147 1 = 148 := by decide +kernel
theorem rf_147_2 : RF0 147 2 = 149 := by decide +kernel
theorem rf_150_3 : RF0 150 3 = 151 := by decide +kernel
theorem rf_150_4 : RF0 150 4 = 155 := by decide +kernel
theorem rf_150_5 : RF0 150 5 = 156 := by decide +kernel
theorem rf_150_6 : RF0 150 6 = 157 := by decide +kernel
theorem rf_151_0 : RF0 151 0 = 152 := by decide +kernel
theorem rf_151_1 : RF0 151 1 = 153 := by decide +kernel
theorem rf_151_2 : RF0 151 2 = 154 := by decide +kernel
theorem rf_158_1 : RF0 158 1 = 159 := by decide +kernel
theorem rf_158_2 : RF0 158 2 = 160 := by decide +kernel
theorem rf_158_3 : RF0 158 3 = 161 := by decide +kernel
theorem rf_162_1 : RF0 162 1 = 163 := by decide +kernel
theorem rf_162_2 : RF0 162 2 = 164 := by decide +kernel
theorem rf_165_0 : RF0 165 0 = 166 := by decide +kernel
theorem rf_165_4 : RF0 165 4 = 167 := by decide +kernel
theorem rf_165_5 : RF0 165 5 = 168 := by decide +kernel
theorem rf_165_6 : RF0 165 6 = 169 := by decide +kernel
theorem rf_165_7 : RF0 165 7 = 170 := by decide +kernel
theorem rf_171_3 : RF0 171 3 = 172 := by decide +kernel
theorem rf_171_4 : RF0 171 4 = 176 := by decide +kernel
theorem rf_171_5 : RF0 171 5 = 177 := by decide +kernel
theorem rf_171_6 : RF0 171 6 = 178 := by decide +kernel
theorem rf_172_0 : RF0 172 0 = 173 := by decide +kernel
theorem rf_172_1 : RF0 172 1 = 174 := by decide +kernel
theorem rf_172_2 : RF0 172 2 = 175 := by decide +kernel
theorem rf_179_1 : RF0 179 1 = 180 := by decide +kernel
theorem rf_179_2 : RF0 179 2 = 181 := by decide +kernel
theorem rf_179_3 : RF0 179 3 = 182 := by decide +kernel
theorem rf_183_1 : RF0 183 1 = 184 := by decide +kernel
theorem rf_183_2 : RF0 183 2 = 185 := by decide +kernel
theorem rf_186_3 : RF0 186 3 = 187 := by decide +kernel
theorem rf_186_4 : RF0 186 4 = 191 := by decide +kernel
theorem rf_186_5 : RF0 186 5 = 192 := by decide +kernel
theorem rf_186_6 : RF0 186 6 = 193 := by decide +kernel
theorem rf_187_0 : RF0 187 0 = 188 := by decide +kernel
theorem rf_187_1 : RF0 187 1 = 189 := by decide +kernel
theorem rf_187_2 : RF0 187 2 = 190 := by decide +kernel
theorem rf_194_1 : RF0 194 1 = 195 := by decide +kernel
theorem rf_194_2 : RF0 194 2 = 196 := by decide +kernel
theorem rf_194_3 : RF0 194 3 = 197 := by decide +kernel
theorem rf_198_1 : RF0 198 1 = 199 := by decide +kernel
theorem rf_198_2 : RF0 198 2 = 200 := by decide +kernel
theorem rf_201_0 : RF0 201 0 = 202 := by decide +kernel
theorem rf_201_1 : RF0 201 1 = 203 := by decide +kernel
theorem rf_201_11 : RF0 201 11 = 204 := by decide +kernel
theorem rf_201_15 : RF0 201 15 = 205 := by decide +kernel
theorem rf_201_16 : RF0 201 16 = 206 := by decide +kernel
theorem rf_201_23 : RF0 201 23 = 207 := by decide +kernel
theorem rf_201_24 : RF0 201 24 = 208 := by decide +kernel
theorem rf_201_25 : RF0 201 25 = 209 := by decide +kernel
theorem rf_201_26 : RF0 201 26 = 210 := by decide +kernel
theorem rf_201_27 : RF0 201 27 = 211 := by decide +kernel
theorem rf_201_28 : RF0 201 28 = 212 := by decide +kernel
theorem rf_201_29 : RF0 201 29 = 213 := by decide +kernel
theorem rf_201_30 : RF0 201 30 = 214 := by decide +kernel
theorem rf_201_31 : RF0 201 31 = 215 := by decide +kernel
theorem rf_201_32 : RF0 201 32 = 216 := by decide +kernel
theorem rf_201_33 : RF0 201 33 = 217 := by decide +kernel
theorem rf_201_34 : RF0 201 34 = 218 := by decide +kernel
theorem rf_201_36 : RF0 201 36 = 219 := by decide +kernel
theorem rf_201_38 : RF0 201 38 = 220 := by decide +kernel
theorem rf_201_43 : RF0 201 43 = 221 := by decide +kernel
theorem rf_201_44 : RF0 201 44 = 222 := by decide +kernel
theorem rf_201_45 : RF0 201 45 = 223 := by decide +kernel
theorem isNet_8 : isNet 8 := by unfold isNet; decide
theorem isNet_23 : isNet 23 := by unfold isNet; decide
theorem isNet_41 : isNet 41 := by unfold isNet; decide
theorem isNet_59 : isNet 59 := by unfold isNet; decide
theorem isNet_66 : isNet 66 := by unfold isNet; decide
theorem isNet_87 : isNet 87 := by unfold isNet; decide
theorem isNet_100 : isNet 100 := by unfold isNet; decide
theorem isNet_115 : isNet 115 := by unfold isNet; decide
theorem isNet_136 : isNet 136 := by unfold isNet; decide
theorem isNet_151 : isNet 151 := by unfold isNet; decide
theorem isNet_172 : isNet 172 := by unfold isNet; decide
theorem isNet_187 : isNet 187 := by unfold isNet; decide
theorem isPaper_7 : isPaper 7 := by unfold isPaper; decide
theorem isPaper_22 : isPaper 22 := by unfold isPaper; decide
theorem isPaper_40 : isPaper 40 := by unfold isPaper; decide
theorem isPaper_58 : isPaper 58 := by unfold isPaper; decide
theorem isPaper_99 : isPaper 99 := by unfold isPaper; decide
theorem isPaper_114 : isPaper 114 := by unfold isPaper; decide
theorem isPaper_135 : isPaper 135 := by unfold isPaper; decide
theorem isPaper_150 : isPaper 150 := by unfold isPaper; decide
theorem isPaper_171 : isPaper 171 := by unfold isPaper; decide
theorem isPaper_186 : isPaper 186 := by unfold isPaper; decide
theorem isWeek_15 : isWeek 15 := by unfold isWeek; decide
theorem isWeek_30 : isWeek 30 := by unfold isWeek; decide
theorem isWeek_48 : isWeek 48 := by unfold isWeek; decide
theorem isWeek_74 : isWeek 74 := by unfold isWeek; decide
theorem isWeek_107 : isWeek 107 := by unfold isWeek; decide
theorem isWeek_122 : isWeek 122 := by unfold isWeek; decide
theorem isWeek_143 : isWeek 143 := by unfold isWeek; decide
theorem isWeek_158 : isWeek 158 := by unfold isWeek; decide
theorem isWeek_179 : isWeek 179 := by unfold isWeek; decide
theorem isWeek_194 : isWeek 194 := by unfold isWeek; decide
theorem isLog_19 : isLog 19 := by unfold isLog; decide
theorem isLog_34 : isLog 34 := by unfold isLog; decide
theorem isLog_52 : isLog 52 := by unfold isLog; decide
theorem isLog_111 : isLog 111 := by unfold isLog; decide
theorem isLog_126 : isLog 126 := by unfold isLog; decide
theorem isLog_147 : isLog 147 := by unfold isLog; decide
theorem isLog_162 : isLog 162 := by unfold isLog; decide
theorem isLog_183 : isLog 183 := by unfold isLog; decide
theorem isLog_198 : isLog 198 := by unfold isLog; decide
theorem isTold_1 : isTold 1 := by unfold isTold; decide
theorem isTold_93 : isTold 93 := by unfold isTold; decide
theorem isTold_129 : isTold 129 := by unfold isTold; decide
theorem isTold_165 : isTold 165 := by unfold isTold; decide
