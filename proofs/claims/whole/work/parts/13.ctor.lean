-- the constructors
def okTy : FieldType → Bool
  | .object _ => true
  | .array _ => true
  | .int => true
  | .byte => true
  | .boolean => true
  | _ => false
theorem dv_of {ci j : Nat} (h : okTy (tyX ci j) = true) : defaultValue (tyX ci j) = if ftg ci j = 2 then .null else .int 0 := by
  unfold ftg
  cases h2 : tyX ci j <;> rw [h2] at h <;> first | rfl | cases h
theorem fc_int {U : State} {cA cB : ClassId} (h1 : va_RA U cA .int) (h2 : va_RA U cB .int) : cA = cB := Option.some.inj ((show U.vm.findClass ("[" ++ FieldType.int.toString) = some cA from h1).symm.trans h2)
theorem fc_byte {U : State} {cA cB : ClassId} (h1 : va_RA U cA .byte) (h2 : va_RA U cB .byte) : cA = cB := Option.some.inj ((show U.vm.findClass ("[" ++ FieldType.byte.toString) = some cA from h1).symm.trans h2)
theorem fc_boolean {U : State} {cA cB : ClassId} (h1 : va_RA U cA .boolean) (h2 : va_RA U cB .boolean) : cA = cB := Option.some.inj ((show U.vm.findClass ("[" ++ FieldType.boolean.toString) = some cA from h1).symm.trans h2)
theorem ob_at {n k len q : Nat} (h : sh q = (k, len)) (hq : q < n) : OB n ((q : Nat) : Int) k len := ⟨by omega, by omega, by rw [Int.toNat_natCast]; exact h⟩
theorem OB.up {n m k len : Nat} {o : Int} (h : OB n o k len) (hle : n ≤ m) : OB m o k len := ⟨h.1, by have := h.2.1; omega, h.2.2⟩
theorem upd2_self {C : Hp} {o j v : Int} : upd2 C o j v o j = v := by simp [upd2]
theorem upd2_nj {C : Hp} {o j v k : Int} (h : k ≠ j) : upd2 C o j v o k = C o k := by simp [upd2, h]
section KRULES
variable {α : Type} {l : Launch} {M : MC} {K : α → Option AV × Nat × Hp} {X : Option α} {pc n : Nat} {L S : List AV} {C : Hp} {q : Nat × Nat}
theorem k_new {idx ci N n2 : Nat} {q2 : Nat × Nat} {Cn : String} {T : u_T} (hd : decode M.cc pc = .ok (.new idx, 3)) (hcl : ClsOK ci Cn T N) (hl : Cond.classLink M.y.cls idx Cn ∈ lw_gt) (hi : Cond.instantiable Cn N ∈ lw_gt) (hini : Cond.initialized Cn ∈ lw_gt) (hok : ∀ j, j < N → okTy (tyX ci j) = true) (hs : sh n = (ci, N)) (hn : n + 1 = n2) (hq : (q.1 + 1, q.2 + N) = q2) (h1 : q2.1 ≤ M.mc) (h2 : q2.2 ≤ M.ms)
    (k : J l M K X (pc + 3) L ((2, (n : Int)) :: S) n2 (newC C (n : Int) (dflt ci)) q2) : J l M K X pc L S n C q := by
  subst hn
  subst hq
  exact j_new hd hcl hl hi hini (fun j hj => dv_of (hok j hj)) hs h1 h2 k
theorem k_arr {atype : ArrayType} {ty : FieldType} {t N n2 : Nat} {q2 : Nat × Nat} {z : Int} (hd : decode M.cc pc = .ok (.newarray atype, 2)) (harr : Cond.arrayClass (newarray.typeOf atype) ∈ lw_gt) (hty : newarray.typeOf atype = ty) (ht : t < 3) (htw : ∀ w : WP, (tysOf w)[t]? = some (w.2.2.1 t, ty)) (hdv : defaultValue ty = .int 0) (hfc : ∀ (U : State) (cA cB : ClassId), va_RA U cA ty → va_RA U cB ty → cA = cB) (hcb : componentBytes ty ≤ 8) (hN : N < 100000) (hs : sh n = (20 + t, N)) (hz : (N : Int) = z) (hn : n + 1 = n2) (hq : (q.1 + 1, q.2 + N) = q2) (h1 : q2.1 ≤ M.mc) (h2 : q2.2 ≤ M.ms)
    (k : J l M K X (pc + 2) L ((2, (n : Int)) :: S) n2 (newC C (n : Int) (fun _ => 0)) q2) : J l M K X pc L ((0, z) :: S) n C q := by
  subst hn
  subst hq
  subst hz
  exact j_newarr hd harr hty ht htw hdv hfc hcb hN hs h1 h2 k
theorem k_anew {idx t N n2 : Nat} {q2 : Nat × Nat} {z : Int} {Cn : String} (hd : decode M.cc pc = .ok (.anewarray idx, 3)) (hl : Cond.classLink M.y.cls idx Cn ∈ lw_gt) (hov : Cond.arrayOver (.object Cn) ∈ lw_ns) (ht : t < 4) (htw : ∀ w : WP, (tysOf w)[3 + t]? = some (w.2.2.1 (3 + t), .object Cn)) (hN : N < 100000) (hs : sh n = (23 + t, N)) (hz : (N : Int) = z) (hn : n + 1 = n2) (hq : (q.1 + 1, q.2 + N) = q2) (h1 : q2.1 ≤ M.mc) (h2 : q2.2 ≤ M.ms)
    (k : J l M K X (pc + 3) L ((2, (n : Int)) :: S) n2 (newC C (n : Int) (fun _ => -1)) q2) : J l M K X pc L ((0, z) :: S) n C q := by
  subst hn
  subst hq
  subst hz
  exact j_anewarr hd hl hov ht htw hN hs h1 h2 k
theorem k_put {idx ci fi N t : Nat} {o fz z : Int} (hd : decode M.cc pc = .ok (.putfield idx, 3)) (hF : GF M.y.cls idx ci fi N t fz) (hp : PutOK M idx ci fi) (hs : OB n o ci N) (hnf : NF ci fi t z) (hr : r32 z) (k : J l M K X (pc + 3) L S n (upd2 C o fz z) q) : J l M K X pc L ((t, z) :: (2, o) :: S) n C q :=
  j_putf hd hF.1 hp hs hF.2.1 hF.2.2.1 hF.2.2.2.1 hnf (fun _ => hr) k
theorem k_get {idx ci fi N : Nat} {o fz z : Int} (hd : decode M.cc pc = .ok (.getfield idx, 3)) (hF : GF M.y.cls idx ci fi N 2 fz) (hs : OB n o ci N) (hv : C o fz = z) (k : J l M K X (pc + 3) L ((2, z) :: S) n C q) : J l M K X pc L ((2, o) :: S) n C q := by
  refine j_getf hd hF.1 hs hF.2.1 hF.2.2.1 hF.2.2.2.1 ?_
  rw [hv]
  exact k
theorem k_iinc {i : Nat} {z d z2 : Int} (hd : decode M.cc pc = .ok (.iinc i d, 3)) (hi : L[i]? = some (0, z)) (hz : w32 (z + d) = z2) (hn : i < M.nL) (h0 : noL L i = true) (k : J l M K X (pc + 3) (L.set i (0, z2)) S n C q) : J l M K X pc L S n C q := by
  subst hz
  exact j_iinc hd hi hn h0 k
theorem k_ge_no {a b off : Int} {tgt : Nat} (hd : decode M.cc pc = .ok (.if_icmp .ge off, 3)) (ht : (pc : Int) + off = (tgt : Int)) (h : a < b) (k : J l M K X (pc + 3) L S n C q) : J l M K X pc L ((0, b) :: (0, a) :: S) n C q := by
  have := j_icmp_ge (X1 := X) (X2 := X) hd ht (fun _ => k) (fun h9 => absurd h h9)
  rwa [if_pos h] at this
theorem k_ge_yes {a b off : Int} {tgt : Nat} (hd : decode M.cc pc = .ok (.if_icmp .ge off, 3)) (ht : (pc : Int) + off = (tgt : Int)) (h : ¬ a < b) (k : J l M K X tgt L S n C q) : J l M K X pc L ((0, b) :: (0, a) :: S) n C q := by
  have := j_icmp_ge (X1 := X) (X2 := X) hd ht (fun h9 => absurd h9 h) (fun _ => k)
  rwa [if_neg h] at this
theorem k_call {M' : MC} {b : Int} {idx n2 : Nat} {q2 : Nat × Nat} {C2 : Hp} (hd : decode M.cc pc = .ok (.invokespecial idx, 3)) (hY : YOK M' 0) (hl : Cond.methodLink M.y.cls idx M'.y ∈ lw_gt ∨ ∃ host : String, Cond.methodLinkNest M.y.cls idx M'.y host ∈ lw_ns) (hi : Cond.instanceMethod M'.y ∈ lw_gt) (hy1 : M'.y.name = "<init>") (hret : M'.ret = none) (hb0 : 0 ≤ b) (hR : RmOK M M') (hS8 : wt S ≤ 8) (hn : n + M'.mc = n2) (hq : (q.1 + M'.mc, q.2 + M'.ms) = q2) (h1 : q2.1 ≤ M.mc) (h2 : q2.2 ≤ M.ms)
    (hc : Ct l M' [(2, b)] n C (none, n2, C2)) (k : J l M K X (pc + 3) L S n2 C2 q2) : J l M K X pc L ((2, b) :: S) n C q := by
  subst hn
  subst hq
  exact j_callI (F := some ()) (Xk := fun _ => X) (Kc := fun _ => (none, n + M'.mc, C2)) (As := []) (S := S) hd hY hl hi hy1 hret hb0 hR hS8 h1 h2 (fun _ _ => hc) (fun _ => rfl) (fun _ _ => k)
end KRULES
/-- what is done to cells, as a list: object; 0 made as a class, 1 made as an array, 2 written; place or class; value -/
abbrev Ev : Type := Int × Nat × Int × Int
def stepE (C : Hp) (e : Ev) : Hp := match e.2.1 with
  | 0 => newC C e.1 (dflt e.2.2.1.toNat)
  | 1 => newC C e.1 (fun _ => e.2.2.2)
  | _ => upd2 C e.1 e.2.2.1 e.2.2.2
def run (es : List Ev) (C : Hp) : Hp := es.foldl stepE C
theorem run_app (a b : List Ev) (C : Hp) : run (a ++ b) C = run b (run a C) := by
  unfold run
  rw [List.foldl_append]
abbrev M_kModel : MC := (yX11_init, cX11_init, 1, (none : Option FieldType), 1, 22, 5590)
abbrev M_kLine : MC := (yX10_init, cX10_init, 2, (none : Option FieldType), 4, 200, 11442)
abbrev M_kRows : MC := (yX5_init, cX5_init, 1, (none : Option FieldType), 1, 6, 2893)
abbrev M_kRounds : MC := (yX4_init, cX4_init, 1, (none : Option FieldType), 1, 1, 61)
abbrev M_kLots : MC := (yX1_init, cX1_init, 1, (none : Option FieldType), 2, 4, 184)
abbrev M_kStand : MC := (yX7_init, cX7_init, 1, (none : Option FieldType), 3, 15, 567)
abbrev M_kScan : MC := (yX6_init, cX6_init, 1, (none : Option FieldType), 3, 17, 1087)
abbrev M_kTold : MC := (yX8_init, cX8_init, 2, (none : Option FieldType), 3, 35, 1577)
abbrev M_kPaper : MC := (yX3_init, cX3_init, 1, (none : Option FieldType), 2, 7, 274)
abbrev M_kLog : MC := (yX0_init, cX0_init, 1, (none : Option FieldType), 1, 2, 16)
abbrev M_kWeek : MC := (yX9_init, cX9_init, 1, (none : Option FieldType), 1, 3, 180)
abbrev M_kNet : MC := (yX2_init, cX2_init, 1, (none : Option FieldType), 1, 3, 210)
theorem ko_ini : Cond.instanceMethod Lib.objectInit ∈ lw_gt := (gt_in 163 (by decide +kernel) (by decide +kernel))
theorem ko_cod : Cond.code Lib.objectInit ⟨#[0xb1]⟩ 1 none ∈ lw_gt := (gt_in 164 (by decide +kernel) (by decide +kernel))
theorem ka_int : Cond.arrayClass (newarray.typeOf .int) ∈ lw_gt := (gt_in 204 (by decide +kernel) (by decide +kernel))
theorem ka_byte : Cond.arrayClass (newarray.typeOf .byte) ∈ lw_gt := (gt_in 203 (by decide +kernel) (by decide +kernel))
theorem ka_boolean : Cond.arrayClass (newarray.typeOf .boolean) ∈ lw_gt := (gt_in 387 (by decide +kernel) (by decide +kernel))
theorem ki_2 : Cond.instantiable RX2 4 ∈ lw_gt := (gt_in 183 (by decide +kernel) (by decide +kernel))
theorem kz_2 : Cond.initialized RX2 ∈ lw_gt := (gt_in 141 (by decide +kernel) (by decide +kernel))
theorem kd_2 : ∀ j, j < 4 → okTy (tyX 2 j) = true := by decide +kernel
theorem ko_2 : Cond.methodLink RX2 3 Lib.objectInit ∈ lw_gt := (gt_in 187 (by decide +kernel) (by decide +kernel))
theorem ki_9 : Cond.instantiable RX9 4 ∈ lw_gt := (gt_in 246 (by decide +kernel) (by decide +kernel))
theorem kz_9 : Cond.initialized RX9 ∈ lw_gt := (gt_in 142 (by decide +kernel) (by decide +kernel))
theorem kd_9 : ∀ j, j < 4 → okTy (tyX 9 j) = true := by decide +kernel
theorem ko_9 : Cond.methodLink RX9 3 Lib.objectInit ∈ lw_gt := (gt_in 250 (by decide +kernel) (by decide +kernel))
theorem ki_0 : Cond.instantiable RX0 3 ∈ lw_gt := (gt_in 274 (by decide +kernel) (by decide +kernel))
theorem kz_0 : Cond.initialized RX0 ∈ lw_gt := (gt_in 143 (by decide +kernel) (by decide +kernel))
theorem kd_0 : ∀ j, j < 3 → okTy (tyX 0 j) = true := by decide +kernel
theorem ko_0 : Cond.methodLink RX0 3 Lib.objectInit ∈ lw_gt := (gt_in 278 (by decide +kernel) (by decide +kernel))
theorem ki_3 : Cond.instantiable RX3 7 ∈ lw_gt := (gt_in 177 (by decide +kernel) (by decide +kernel))
theorem kz_3 : Cond.initialized RX3 ∈ lw_gt := (gt_in 140 (by decide +kernel) (by decide +kernel))
theorem kd_3 : ∀ j, j < 7 → okTy (tyX 3 j) = true := by decide +kernel
theorem ko_3 : Cond.methodLink RX3 3 Lib.objectInit ∈ lw_gt := (gt_in 181 (by decide +kernel) (by decide +kernel))
theorem ki_8 : Cond.instantiable RX8 8 ∈ lw_gt := (gt_in 166 (by decide +kernel) (by decide +kernel))
theorem kz_8 : Cond.initialized RX8 ∈ lw_gt := (gt_in 139 (by decide +kernel) (by decide +kernel))
theorem kd_8 : ∀ j, j < 8 → okTy (tyX 8 j) = true := by decide +kernel
theorem ko_8 : Cond.methodLink RX8 3 Lib.objectInit ∈ lw_gt := (gt_in 170 (by decide +kernel) (by decide +kernel))
theorem ki_6 : Cond.instantiable RX6 14 ∈ lw_gt := (gt_in 328 (by decide +kernel) (by decide +kernel))
theorem kz_6 : Cond.initialized RX6 ∈ lw_gt := (gt_in 144 (by decide +kernel) (by decide +kernel))
theorem kd_6 : ∀ j, j < 14 → okTy (tyX 6 j) = true := by decide +kernel
theorem ko_6 : Cond.methodLink RX6 3 Lib.objectInit ∈ lw_gt := (gt_in 332 (by decide +kernel) (by decide +kernel))
theorem ki_7 : Cond.instantiable RX7 13 ∈ lw_gt := (gt_in 389 (by decide +kernel) (by decide +kernel))
theorem kz_7 : Cond.initialized RX7 ∈ lw_gt := (gt_in 145 (by decide +kernel) (by decide +kernel))
theorem kd_7 : ∀ j, j < 13 → okTy (tyX 7 j) = true := by decide +kernel
theorem ko_7 : Cond.methodLink RX7 3 Lib.objectInit ∈ lw_gt := (gt_in 393 (by decide +kernel) (by decide +kernel))
theorem ki_1 : Cond.instantiable RX1 2 ∈ lw_gt := (gt_in 443 (by decide +kernel) (by decide +kernel))
theorem kz_1 : Cond.initialized RX1 ∈ lw_gt := (gt_in 146 (by decide +kernel) (by decide +kernel))
theorem kd_1 : ∀ j, j < 2 → okTy (tyX 1 j) = true := by decide +kernel
theorem ko_1 : Cond.methodLink RX1 3 Lib.objectInit ∈ lw_gt := (gt_in 447 (by decide +kernel) (by decide +kernel))
theorem ki_4 : Cond.instantiable RX4 4 ∈ lw_gt := (gt_in 459 (by decide +kernel) (by decide +kernel))
theorem kz_4 : Cond.initialized RX4 ∈ lw_gt := (gt_in 147 (by decide +kernel) (by decide +kernel))
theorem kd_4 : ∀ j, j < 4 → okTy (tyX 4 j) = true := by decide +kernel
theorem ko_4 : Cond.methodLink RX4 3 Lib.objectInit ∈ lw_gt := (gt_in 463 (by decide +kernel) (by decide +kernel))
theorem ki_5 : Cond.instantiable RX5 11 ∈ lw_gt := (gt_in 481 (by decide +kernel) (by decide +kernel))
theorem kz_5 : Cond.initialized RX5 ∈ lw_gt := (gt_in 148 (by decide +kernel) (by decide +kernel))
theorem kd_5 : ∀ j, j < 11 → okTy (tyX 5 j) = true := by decide +kernel
theorem ko_5 : Cond.methodLink RX5 3 Lib.objectInit ∈ lw_gt := (gt_in 485 (by decide +kernel) (by decide +kernel))
theorem ki_10 : Cond.instantiable RX10 11 ∈ lw_gt := (gt_in 158 (by decide +kernel) (by decide +kernel))
theorem kz_10 : Cond.initialized RX10 ∈ lw_gt := (gt_in 138 (by decide +kernel) (by decide +kernel))
theorem kd_10 : ∀ j, j < 11 → okTy (tyX 10 j) = true := by decide +kernel
theorem ko_10 : Cond.methodLink RX10 1 Lib.objectInit ∈ lw_gt := (gt_in 162 (by decide +kernel) (by decide +kernel))
theorem ki_11 : Cond.instantiable RX11 47 ∈ lw_gt := (gt_in 1288 (by decide +kernel) (by decide +kernel))
theorem kz_11 : Cond.initialized RX11 ∈ lw_gt := (gt_in 149 (by decide +kernel) (by decide +kernel))
theorem kd_11 : ∀ j, j < 47 → okTy (tyX 11 j) = true := by decide +kernel
theorem ko_11 : Cond.methodLink RX11 1 Lib.objectInit ∈ lw_gt := (gt_in 1292 (by decide +kernel) (by decide +kernel))
theorem kv_3 : Cond.arrayOver (.object RX3) ∈ lw_ns := (ns_in 172 (by decide +kernel) (by decide +kernel))
theorem kv_9 : Cond.arrayOver (.object RX9) ∈ lw_ns := (ns_in 174 (by decide +kernel) (by decide +kernel))
theorem kv_0 : Cond.arrayOver (.object RX0) ∈ lw_ns := (ns_in 176 (by decide +kernel) (by decide +kernel))
theorem kv_8 : Cond.arrayOver (.object RX8) ∈ lw_ns := (ns_in 326 (by decide +kernel) (by decide +kernel))
theorem kb_10 : (Int8.ofInt 10).toInt32 = I32 10 := by decide +kernel
theorem kr_10 : r32 10 := by unfold r32; omega
theorem kf_2_9 : GF RX2 9 2 0 4 2 0 := ⟨⟨_, _, _, cls2, by decide, Or.inl (gt_in 188 (by decide +kernel) (by decide +kernel))⟩, by decide, rfl, rfl, by decide⟩
theorem kp_2_0 : PutOK M_kNet 9 2 0 := fun C T N h => by cases (Option.some.inj h); exact Or.inr ⟨rfl, rfl, rfl, (gt_in 188 (by decide +kernel) (by decide +kernel))⟩
theorem kb_100 : (Int8.ofInt 100).toInt32 = I32 100 := by decide +kernel
theorem kr_100 : r32 100 := by unfold r32; omega
theorem kf_2_15 : GF RX2 15 2 1 4 2 1 := ⟨⟨_, _, _, cls2, by decide, Or.inl (gt_in 191 (by decide +kernel) (by decide +kernel))⟩, by decide, rfl, rfl, by decide⟩
theorem kp_2_1 : PutOK M_kNet 15 2 1 := fun C T N h => by cases (Option.some.inj h); exact Or.inr ⟨rfl, rfl, rfl, (gt_in 191 (by decide +kernel) (by decide +kernel))⟩
theorem kf_2_18 : GF RX2 18 2 2 4 2 2 := ⟨⟨_, _, _, cls2, by decide, Or.inl (gt_in 192 (by decide +kernel) (by decide +kernel))⟩, by decide, rfl, rfl, by decide⟩
theorem kp_2_2 : PutOK M_kNet 18 2 2 := fun C T N h => by cases (Option.some.inj h); exact Or.inr ⟨rfl, rfl, rfl, (gt_in 192 (by decide +kernel) (by decide +kernel))⟩
theorem ky_kNet : YOK M_kNet 0 := ⟨(gt_in 186 (by decide +kernel) (by decide +kernel)), kz_2, by decide +kernel⟩
theorem kt_kNet : Cond.instanceMethod M_kNet.y ∈ lw_gt := (gt_in 185 (by decide +kernel) (by decide +kernel))
def kNet (b : Int) (n : Nat) (C : Hp) : Hp := upd2 (newC (upd2 (newC (upd2 (newC (C) ((n : Nat) : Int) (fun _ => 0)) b 0 ((n : Nat) : Int)) ((n + 1 : Nat) : Int) (fun _ => 0)) b 1 ((n + 1 : Nat) : Int)) ((n + 2 : Nat) : Int) (fun _ => 0)) b 2 ((n + 2 : Nat) : Int)
theorem kNet_ne {b : Int} {n : Nat} {C : Hp} {a : Int} (h1 : a ≠ b) (h2 : a < (n : Int)) : kNet b n C a = C a := by
  unfold kNet
  rw [upd2_ne (by omega), newC_ne (by omega), upd2_ne (by omega), newC_ne (by omega), upd2_ne (by omega), newC_ne (by omega)]
set_option maxRecDepth 100000 in
theorem kNet_ct {l : Launch} {b : Int} {n : Nat} {C : Hp} (hb : OB n b 2 4) (hn : n < 1700) (h0 : sh (n) = (20, 10)) (h1 : sh (n + 1) = (20, 100)) (h2 : sh (n + 2) = (20, 100)) : Ct l M_kNet [(2, b)] n C (none, n + 3, kNet b n C) := by
  have hb0 := hb.1
  have hb1 := hb.2.1
  refine ct_of_J (K := fun _ : Unit => (none, n + 3, kNet b n C)) (X := some ()) (L := [(2, b)]) (by decide +kernel) rfl (Nat.le_of_ble_eq_true rfl) ?_ rfl
  unfold kNet
  refine j_aload_n dX2_init_0 rfl rfl ?_
  refine j_objinit dX2_init_1 ko_2 ko_ini ko_cod (by omega) (Nat.le_of_ble_eq_true rfl) ?_
  refine j_aload_n dX2_init_4 rfl rfl ?_
  refine j_bipush dX2_init_5 kr_10 kb_10 ?_
  refine k_arr (atype := .int) (n2 := n + 1) (q2 := (1, 10)) (N := 10) (t := 0) dX2_init_7 ka_int rfl (by decide) (fun _ => rfl) rfl (fun U cA cB h1 h2 => fc_int h1 h2) (by decide) (Nat.le_of_ble_eq_true rfl) h0 rfl rfl rfl (Nat.le_of_ble_eq_true rfl) (Nat.le_of_ble_eq_true rfl) ?_
  refine k_put dX2_init_9 kf_2_9 kp_2_0 (hb.up (by omega)) (fun _ => nf_arr) (by unfold r32; omega) ?_
  refine j_aload_n dX2_init_12 rfl rfl ?_
  refine j_bipush dX2_init_13 kr_100 kb_100 ?_
  refine k_arr (atype := .int) (n2 := n + 2) (q2 := (2, 110)) (N := 100) (t := 0) dX2_init_15 ka_int rfl (by decide) (fun _ => rfl) rfl (fun U cA cB h1 h2 => fc_int h1 h2) (by decide) (Nat.le_of_ble_eq_true rfl) h1 rfl rfl rfl (Nat.le_of_ble_eq_true rfl) (Nat.le_of_ble_eq_true rfl) ?_
  refine k_put dX2_init_17 kf_2_15 kp_2_1 (hb.up (by omega)) (fun _ => nf_arr) (by unfold r32; omega) ?_
  refine j_aload_n dX2_init_20 rfl rfl ?_
  refine j_bipush dX2_init_21 kr_100 kb_100 ?_
  refine k_arr (atype := .int) (n2 := n + 3) (q2 := (3, 210)) (N := 100) (t := 0) dX2_init_23 ka_int rfl (by decide) (fun _ => rfl) rfl (fun U cA cB h1 h2 => fc_int h1 h2) (by decide) (Nat.le_of_ble_eq_true rfl) h2 rfl rfl rfl (Nat.le_of_ble_eq_true rfl) (Nat.le_of_ble_eq_true rfl) ?_
  refine k_put dX2_init_25 kf_2_18 kp_2_2 (hb.up (by omega)) (fun _ => nf_arr) (by unfold r32; omega) ?_
  exact j_return dX2_init_28 rfl rfl (Nat.le_of_ble_eq_true rfl) (Nat.le_of_ble_eq_true rfl)
def eNet (b : Int) (n : Nat) : List Ev := [(((n : Nat) : Int), 1, 0, 0), (b, 2, 0, ((n : Nat) : Int)), (((n + 1 : Nat) : Int), 1, 0, 0), (b, 2, 1, ((n + 1 : Nat) : Int)), (((n + 2 : Nat) : Int), 1, 0, 0), (b, 2, 2, ((n + 2 : Nat) : Int))]
theorem kNet_run (b : Int) (n : Nat) (C : Hp) : kNet b n C = run (eNet b n) C := rfl
theorem kb_60 : (Int8.ofInt 60).toInt32 = I32 60 := by decide +kernel
theorem kr_60 : r32 60 := by unfold r32; omega
theorem kf_9_9 : GF RX9 9 9 1 4 2 1 := ⟨⟨_, _, _, cls9, by decide, Or.inl (gt_in 256 (by decide +kernel) (by decide +kernel))⟩, by decide, rfl, rfl, by decide⟩
theorem kp_9_1 : PutOK M_kWeek 9 9 1 := fun C T N h => by cases (Option.some.inj h); exact Or.inr ⟨rfl, rfl, rfl, (gt_in 256 (by decide +kernel) (by decide +kernel))⟩
theorem kf_9_15 : GF RX9 15 9 2 4 2 2 := ⟨⟨_, _, _, cls9, by decide, Or.inl (gt_in 259 (by decide +kernel) (by decide +kernel))⟩, by decide, rfl, rfl, by decide⟩
theorem kp_9_2 : PutOK M_kWeek 15 9 2 := fun C T N h => by cases (Option.some.inj h); exact Or.inr ⟨rfl, rfl, rfl, (gt_in 259 (by decide +kernel) (by decide +kernel))⟩
theorem kf_9_18 : GF RX9 18 9 3 4 2 3 := ⟨⟨_, _, _, cls9, by decide, Or.inl (gt_in 262 (by decide +kernel) (by decide +kernel))⟩, by decide, rfl, rfl, by decide⟩
theorem kp_9_3 : PutOK M_kWeek 18 9 3 := fun C T N h => by cases (Option.some.inj h); exact Or.inr ⟨rfl, rfl, rfl, (gt_in 262 (by decide +kernel) (by decide +kernel))⟩
theorem ky_kWeek : YOK M_kWeek 0 := ⟨(gt_in 249 (by decide +kernel) (by decide +kernel)), kz_9, by decide +kernel⟩
theorem kt_kWeek : Cond.instanceMethod M_kWeek.y ∈ lw_gt := (gt_in 248 (by decide +kernel) (by decide +kernel))
def kWeek (b : Int) (n : Nat) (C : Hp) : Hp := upd2 (newC (upd2 (newC (upd2 (newC (C) ((n : Nat) : Int) (fun _ => 0)) b 1 ((n : Nat) : Int)) ((n + 1 : Nat) : Int) (fun _ => 0)) b 2 ((n + 1 : Nat) : Int)) ((n + 2 : Nat) : Int) (fun _ => 0)) b 3 ((n + 2 : Nat) : Int)
theorem kWeek_ne {b : Int} {n : Nat} {C : Hp} {a : Int} (h1 : a ≠ b) (h2 : a < (n : Int)) : kWeek b n C a = C a := by
  unfold kWeek
  rw [upd2_ne (by omega), newC_ne (by omega), upd2_ne (by omega), newC_ne (by omega), upd2_ne (by omega), newC_ne (by omega)]
set_option maxRecDepth 100000 in
theorem kWeek_ct {l : Launch} {b : Int} {n : Nat} {C : Hp} (hb : OB n b 9 4) (hn : n < 1700) (h0 : sh (n) = (20, 60)) (h1 : sh (n + 1) = (20, 60)) (h2 : sh (n + 2) = (20, 60)) : Ct l M_kWeek [(2, b)] n C (none, n + 3, kWeek b n C) := by
  have hb0 := hb.1
  have hb1 := hb.2.1
  refine ct_of_J (K := fun _ : Unit => (none, n + 3, kWeek b n C)) (X := some ()) (L := [(2, b)]) (by decide +kernel) rfl (Nat.le_of_ble_eq_true rfl) ?_ rfl
  unfold kWeek
  refine j_aload_n dX9_init_0 rfl rfl ?_
  refine j_objinit dX9_init_1 ko_9 ko_ini ko_cod (by omega) (Nat.le_of_ble_eq_true rfl) ?_
  refine j_aload_n dX9_init_4 rfl rfl ?_
  refine j_bipush dX9_init_5 kr_60 kb_60 ?_
  refine k_arr (atype := .int) (n2 := n + 1) (q2 := (1, 60)) (N := 60) (t := 0) dX9_init_7 ka_int rfl (by decide) (fun _ => rfl) rfl (fun U cA cB h1 h2 => fc_int h1 h2) (by decide) (Nat.le_of_ble_eq_true rfl) h0 rfl rfl rfl (Nat.le_of_ble_eq_true rfl) (Nat.le_of_ble_eq_true rfl) ?_
  refine k_put dX9_init_9 kf_9_9 kp_9_1 (hb.up (by omega)) (fun _ => nf_arr) (by unfold r32; omega) ?_
  refine j_aload_n dX9_init_12 rfl rfl ?_
  refine j_bipush dX9_init_13 kr_60 kb_60 ?_
  refine k_arr (atype := .int) (n2 := n + 2) (q2 := (2, 120)) (N := 60) (t := 0) dX9_init_15 ka_int rfl (by decide) (fun _ => rfl) rfl (fun U cA cB h1 h2 => fc_int h1 h2) (by decide) (Nat.le_of_ble_eq_true rfl) h1 rfl rfl rfl (Nat.le_of_ble_eq_true rfl) (Nat.le_of_ble_eq_true rfl) ?_
  refine k_put dX9_init_17 kf_9_15 kp_9_2 (hb.up (by omega)) (fun _ => nf_arr) (by unfold r32; omega) ?_
  refine j_aload_n dX9_init_20 rfl rfl ?_
  refine j_bipush dX9_init_21 kr_60 kb_60 ?_
  refine k_arr (atype := .int) (n2 := n + 3) (q2 := (3, 180)) (N := 60) (t := 0) dX9_init_23 ka_int rfl (by decide) (fun _ => rfl) rfl (fun U cA cB h1 h2 => fc_int h1 h2) (by decide) (Nat.le_of_ble_eq_true rfl) h2 rfl rfl rfl (Nat.le_of_ble_eq_true rfl) (Nat.le_of_ble_eq_true rfl) ?_
  refine k_put dX9_init_25 kf_9_18 kp_9_3 (hb.up (by omega)) (fun _ => nf_arr) (by unfold r32; omega) ?_
  exact j_return dX9_init_28 rfl rfl (Nat.le_of_ble_eq_true rfl) (Nat.le_of_ble_eq_true rfl)
def eWeek (b : Int) (n : Nat) : List Ev := [(((n : Nat) : Int), 1, 0, 0), (b, 2, 1, ((n : Nat) : Int)), (((n + 1 : Nat) : Int), 1, 0, 0), (b, 2, 2, ((n + 1 : Nat) : Int)), (((n + 2 : Nat) : Int), 1, 0, 0), (b, 2, 3, ((n + 2 : Nat) : Int))]
theorem kWeek_run (b : Int) (n : Nat) (C : Hp) : kWeek b n C = run (eWeek b n) C := rfl
theorem kb_8 : (Int8.ofInt 8).toInt32 = I32 8 := by decide +kernel
theorem kr_8 : r32 8 := by unfold r32; omega
theorem kf_0_9 : GF RX0 9 0 1 3 2 1 := ⟨⟨_, _, _, cls0, by decide, Or.inl (gt_in 282 (by decide +kernel) (by decide +kernel))⟩, by decide, rfl, rfl, by decide⟩
theorem kp_0_1 : PutOK M_kLog 9 0 1 := fun C T N h => by cases (Option.some.inj h); exact Or.inr ⟨rfl, rfl, rfl, (gt_in 282 (by decide +kernel) (by decide +kernel))⟩
theorem kf_0_15 : GF RX0 15 0 2 3 2 2 := ⟨⟨_, _, _, cls0, by decide, Or.inl (gt_in 284 (by decide +kernel) (by decide +kernel))⟩, by decide, rfl, rfl, by decide⟩
theorem kp_0_2 : PutOK M_kLog 15 0 2 := fun C T N h => by cases (Option.some.inj h); exact Or.inr ⟨rfl, rfl, rfl, (gt_in 284 (by decide +kernel) (by decide +kernel))⟩
theorem ky_kLog : YOK M_kLog 0 := ⟨(gt_in 277 (by decide +kernel) (by decide +kernel)), kz_0, by decide +kernel⟩
theorem kt_kLog : Cond.instanceMethod M_kLog.y ∈ lw_gt := (gt_in 276 (by decide +kernel) (by decide +kernel))
def kLog (b : Int) (n : Nat) (C : Hp) : Hp := upd2 (newC (upd2 (newC (C) ((n : Nat) : Int) (fun _ => 0)) b 1 ((n : Nat) : Int)) ((n + 1 : Nat) : Int) (fun _ => 0)) b 2 ((n + 1 : Nat) : Int)
theorem kLog_ne {b : Int} {n : Nat} {C : Hp} {a : Int} (h1 : a ≠ b) (h2 : a < (n : Int)) : kLog b n C a = C a := by
  unfold kLog
  rw [upd2_ne (by omega), newC_ne (by omega), upd2_ne (by omega), newC_ne (by omega)]
set_option maxRecDepth 100000 in
theorem kLog_ct {l : Launch} {b : Int} {n : Nat} {C : Hp} (hb : OB n b 0 3) (hn : n < 1700) (h0 : sh (n) = (20, 8)) (h1 : sh (n + 1) = (20, 8)) : Ct l M_kLog [(2, b)] n C (none, n + 2, kLog b n C) := by
  have hb0 := hb.1
  have hb1 := hb.2.1
  refine ct_of_J (K := fun _ : Unit => (none, n + 2, kLog b n C)) (X := some ()) (L := [(2, b)]) (by decide +kernel) rfl (Nat.le_of_ble_eq_true rfl) ?_ rfl
  unfold kLog
  refine j_aload_n dX0_init_0 rfl rfl ?_
  refine j_objinit dX0_init_1 ko_0 ko_ini ko_cod (by omega) (Nat.le_of_ble_eq_true rfl) ?_
  refine j_aload_n dX0_init_4 rfl rfl ?_
  refine j_bipush dX0_init_5 kr_8 kb_8 ?_
  refine k_arr (atype := .int) (n2 := n + 1) (q2 := (1, 8)) (N := 8) (t := 0) dX0_init_7 ka_int rfl (by decide) (fun _ => rfl) rfl (fun U cA cB h1 h2 => fc_int h1 h2) (by decide) (Nat.le_of_ble_eq_true rfl) h0 rfl rfl rfl (Nat.le_of_ble_eq_true rfl) (Nat.le_of_ble_eq_true rfl) ?_
  refine k_put dX0_init_9 kf_0_9 kp_0_1 (hb.up (by omega)) (fun _ => nf_arr) (by unfold r32; omega) ?_
  refine j_aload_n dX0_init_12 rfl rfl ?_
  refine j_bipush dX0_init_13 kr_8 kb_8 ?_
  refine k_arr (atype := .int) (n2 := n + 2) (q2 := (2, 16)) (N := 8) (t := 0) dX0_init_15 ka_int rfl (by decide) (fun _ => rfl) rfl (fun U cA cB h1 h2 => fc_int h1 h2) (by decide) (Nat.le_of_ble_eq_true rfl) h1 rfl rfl rfl (Nat.le_of_ble_eq_true rfl) (Nat.le_of_ble_eq_true rfl) ?_
  refine k_put dX0_init_17 kf_0_15 kp_0_2 (hb.up (by omega)) (fun _ => nf_arr) (by unfold r32; omega) ?_
  exact j_return dX0_init_20 rfl rfl (Nat.le_of_ble_eq_true rfl) (Nat.le_of_ble_eq_true rfl)
def eLog (b : Int) (n : Nat) : List Ev := [(((n : Nat) : Int), 1, 0, 0), (b, 2, 1, ((n : Nat) : Int)), (((n + 1 : Nat) : Int), 1, 0, 0), (b, 2, 2, ((n + 1 : Nat) : Int))]
theorem kLog_run (b : Int) (n : Nat) (C : Hp) : kLog b n C = run (eLog b n) C := rfl
theorem kn_3_9 : Cond.classLink RX3 9 RX2 ∈ lw_gt := (gt_in 182 (by decide +kernel) (by decide +kernel))
theorem kl_3_11 : Cond.methodLink RX3 11 M_kNet.y ∈ lw_gt ∨ ∃ host : String, Cond.methodLinkNest RX3 11 M_kNet.y host ∈ lw_ns := Or.inr ⟨"ProofLine", (ns_in 184 (by decide +kernel) (by decide +kernel))⟩
theorem kf_3_12 : GF RX3 12 3 3 7 2 3 := ⟨⟨_, _, _, cls3, by decide, Or.inl (gt_in 223 (by decide +kernel) (by decide +kernel))⟩, by decide, rfl, rfl, by decide⟩
theorem kp_3_3 : PutOK M_kPaper 12 3 3 := fun C T N h => by cases (Option.some.inj h); exact Or.inr ⟨rfl, rfl, rfl, (gt_in 223 (by decide +kernel) (by decide +kernel))⟩
theorem kb_6 : (Int8.ofInt 6).toInt32 = I32 6 := by decide +kernel
theorem kr_6 : r32 6 := by unfold r32; omega
theorem kf_3_18 : GF RX3 18 3 4 7 2 4 := ⟨⟨_, _, _, cls3, by decide, Or.inl (gt_in 227 (by decide +kernel) (by decide +kernel))⟩, by decide, rfl, rfl, by decide⟩
theorem kp_3_4 : PutOK M_kPaper 18 3 4 := fun C T N h => by cases (Option.some.inj h); exact Or.inr ⟨rfl, rfl, rfl, (gt_in 227 (by decide +kernel) (by decide +kernel))⟩
theorem kf_3_22 : GF RX3 22 3 5 7 2 5 := ⟨⟨_, _, _, cls3, by decide, Or.inl (gt_in 228 (by decide +kernel) (by decide +kernel))⟩, by decide, rfl, rfl, by decide⟩
theorem kp_3_5 : PutOK M_kPaper 22 3 5 := fun C T N h => by cases (Option.some.inj h); exact Or.inr ⟨rfl, rfl, rfl, (gt_in 228 (by decide +kernel) (by decide +kernel))⟩
theorem kb_48 : (Int8.ofInt 48).toInt32 = I32 48 := by decide +kernel
theorem kr_48 : r32 48 := by unfold r32; omega
theorem kf_3_25 : GF RX3 25 3 6 7 2 6 := ⟨⟨_, _, _, cls3, by decide, Or.inl (gt_in 230 (by decide +kernel) (by decide +kernel))⟩, by decide, rfl, rfl, by decide⟩
theorem kp_3_6 : PutOK M_kPaper 25 3 6 := fun C T N h => by cases (Option.some.inj h); exact Or.inr ⟨rfl, rfl, rfl, (gt_in 230 (by decide +kernel) (by decide +kernel))⟩
theorem ky_kPaper : YOK M_kPaper 0 := ⟨(gt_in 180 (by decide +kernel) (by decide +kernel)), kz_3, by decide +kernel⟩
theorem kt_kPaper : Cond.instanceMethod M_kPaper.y ∈ lw_gt := (gt_in 179 (by decide +kernel) (by decide +kernel))
def kPaper (b : Int) (n : Nat) (C : Hp) : Hp := upd2 (newC (upd2 (newC (upd2 (newC (upd2 (kNet ((n : Nat) : Int) (n + 1) (newC (C) ((n : Nat) : Int) (dflt 2))) b 3 ((n : Nat) : Int)) ((n + 4 : Nat) : Int) (fun _ => 0)) b 4 ((n + 4 : Nat) : Int)) ((n + 5 : Nat) : Int) (fun _ => 0)) b 5 ((n + 5 : Nat) : Int)) ((n + 6 : Nat) : Int) (fun _ => 0)) b 6 ((n + 6 : Nat) : Int)
theorem kPaper_ne {b : Int} {n : Nat} {C : Hp} {a : Int} (h1 : a ≠ b) (h2 : a < (n : Int)) : kPaper b n C a = C a := by
  unfold kPaper
  rw [upd2_ne (by omega), newC_ne (by omega), upd2_ne (by omega), newC_ne (by omega), upd2_ne (by omega), newC_ne (by omega), upd2_ne (by omega), kNet_ne (by omega) (by omega), newC_ne (by omega)]
set_option maxRecDepth 100000 in
theorem kPaper_ct {l : Launch} {b : Int} {n : Nat} {C : Hp} (hb : OB n b 3 7) (hn : n < 1400) (h0 : sh (n) = (2, 4)) (h1 : sh (n + 1) = (20, 10)) (h2 : sh (n + 2) = (20, 100)) (h3 : sh (n + 3) = (20, 100)) (h4 : sh (n + 4) = (20, 6)) (h5 : sh (n + 5) = (20, 6)) (h6 : sh (n + 6) = (20, 48)) : Ct l M_kPaper [(2, b)] n C (none, n + 7, kPaper b n C) := by
  have hb0 := hb.1
  have hb1 := hb.2.1
  refine ct_of_J (K := fun _ : Unit => (none, n + 7, kPaper b n C)) (X := some ()) (L := [(2, b)]) (by decide +kernel) rfl (Nat.le_of_ble_eq_true rfl) ?_ rfl
  unfold kPaper
  refine j_aload_n dX3_init_0 rfl rfl ?_
  refine j_objinit dX3_init_1 ko_3 ko_ini ko_cod (by omega) (Nat.le_of_ble_eq_true rfl) ?_
  refine j_aload_n dX3_init_4 rfl rfl ?_
  refine k_new (n2 := n + 1) (q2 := (1, 4)) dX3_init_5 cls2 kn_3_9 ki_2 kz_2 kd_2 h0 rfl rfl (Nat.le_of_ble_eq_true rfl) (Nat.le_of_ble_eq_true rfl) ?_
  refine j_dup dX3_init_8 (by decide) ?_
  refine k_call (n2 := n + 4) (q2 := (4, 214)) dX3_init_9 ky_kNet kl_3_11 kt_kNet rfl rfl (by omega) ⟨by decide, by decide⟩ (Nat.le_of_ble_eq_true rfl) rfl rfl (Nat.le_of_ble_eq_true rfl) (Nat.le_of_ble_eq_true rfl) (kNet_ct (ob_at (h0) (by omega)) (by omega) h1 h2 h3) ?_
  refine k_put dX3_init_12 kf_3_12 kp_3_3 (hb.up (by omega)) (fun _ => nf_obj) (by unfold r32; omega) ?_
  refine j_aload_n dX3_init_15 rfl rfl ?_
  refine j_bipush dX3_init_16 kr_6 kb_6 ?_
  refine k_arr (atype := .int) (n2 := n + 5) (q2 := (5, 220)) (N := 6) (t := 0) dX3_init_18 ka_int rfl (by decide) (fun _ => rfl) rfl (fun U cA cB h1 h2 => fc_int h1 h2) (by decide) (Nat.le_of_ble_eq_true rfl) h4 rfl rfl rfl (Nat.le_of_ble_eq_true rfl) (Nat.le_of_ble_eq_true rfl) ?_
  refine k_put dX3_init_20 kf_3_18 kp_3_4 (hb.up (by omega)) (fun _ => nf_arr) (by unfold r32; omega) ?_
  refine j_aload_n dX3_init_23 rfl rfl ?_
  refine j_bipush dX3_init_24 kr_6 kb_6 ?_
  refine k_arr (atype := .int) (n2 := n + 6) (q2 := (6, 226)) (N := 6) (t := 0) dX3_init_26 ka_int rfl (by decide) (fun _ => rfl) rfl (fun U cA cB h1 h2 => fc_int h1 h2) (by decide) (Nat.le_of_ble_eq_true rfl) h5 rfl rfl rfl (Nat.le_of_ble_eq_true rfl) (Nat.le_of_ble_eq_true rfl) ?_
  refine k_put dX3_init_28 kf_3_22 kp_3_5 (hb.up (by omega)) (fun _ => nf_arr) (by unfold r32; omega) ?_
  refine j_aload_n dX3_init_31 rfl rfl ?_
  refine j_bipush dX3_init_32 kr_48 kb_48 ?_
  refine k_arr (atype := .int) (n2 := n + 7) (q2 := (7, 274)) (N := 48) (t := 0) dX3_init_34 ka_int rfl (by decide) (fun _ => rfl) rfl (fun U cA cB h1 h2 => fc_int h1 h2) (by decide) (Nat.le_of_ble_eq_true rfl) h6 rfl rfl rfl (Nat.le_of_ble_eq_true rfl) (Nat.le_of_ble_eq_true rfl) ?_
  refine k_put dX3_init_36 kf_3_25 kp_3_6 (hb.up (by omega)) (fun _ => nf_arr) (by unfold r32; omega) ?_
  exact j_return dX3_init_39 rfl rfl (Nat.le_of_ble_eq_true rfl) (Nat.le_of_ble_eq_true rfl)
def ePaper (b : Int) (n : Nat) : List Ev := [(((n : Nat) : Int), 0, 2, 0)] ++ (eNet ((n : Nat) : Int) (n + 1) ++ ([(b, 2, 3, ((n : Nat) : Int)), (((n + 4 : Nat) : Int), 1, 0, 0), (b, 2, 4, ((n + 4 : Nat) : Int)), (((n + 5 : Nat) : Int), 1, 0, 0), (b, 2, 5, ((n + 5 : Nat) : Int)), (((n + 6 : Nat) : Int), 1, 0, 0), (b, 2, 6, ((n + 6 : Nat) : Int))]))
theorem kPaper_run (b : Int) (n : Nat) (C : Hp) : kPaper b n C = run (ePaper b n) C := by
  unfold kPaper ePaper
  simp only [run_app, kNet_run]
  rfl
theorem ks_600 : (Int16.ofInt 600).toInt32 = I32 600 := by decide +kernel
theorem kr_600 : r32 600 := by unfold r32; omega
theorem kf_8_9 : GF RX8 9 8 0 8 2 0 := ⟨⟨_, _, _, cls8, by decide, Or.inl (gt_in 293 (by decide +kernel) (by decide +kernel))⟩, by decide, rfl, rfl, by decide⟩
theorem kp_8_0 : PutOK M_kTold 9 8 0 := fun C T N h => by cases (Option.some.inj h); exact Or.inr ⟨rfl, rfl, rfl, (gt_in 293 (by decide +kernel) (by decide +kernel))⟩
theorem kr_m1 : r32 (-1) := by unfold r32; omega
theorem kf_8_15 : GF RX8 15 8 3 8 0 3 := ⟨⟨_, _, _, cls8, by decide, Or.inl (gt_in 299 (by decide +kernel) (by decide +kernel))⟩, by decide, rfl, rfl, by decide⟩
theorem kp_8_3 : PutOK M_kTold 15 8 3 := fun C T N h => by cases (Option.some.inj h); exact Or.inl rfl
theorem kr_3 : r32 3 := by unfold r32; omega
theorem kf_8_19 : GF RX8 19 8 4 8 2 4 := ⟨⟨_, _, _, cls8, by decide, Or.inl (gt_in 301 (by decide +kernel) (by decide +kernel))⟩, by decide, rfl, rfl, by decide⟩
theorem kp_8_4 : PutOK M_kTold 19 8 4 := fun C T N h => by cases (Option.some.inj h); exact Or.inr ⟨rfl, rfl, rfl, (gt_in 301 (by decide +kernel) (by decide +kernel))⟩
theorem kr_2 : r32 2 := by unfold r32; omega
theorem kn_8_23 : Cond.classLink RX8 23 RX3 ∈ lw_gt := (gt_in 171 (by decide +kernel) (by decide +kernel))
theorem kf_8_25 : GF RX8 25 8 5 8 2 5 := ⟨⟨_, _, _, cls8, by decide, Or.inl (gt_in 303 (by decide +kernel) (by decide +kernel))⟩, by decide, rfl, rfl, by decide⟩
theorem kp_8_5 : PutOK M_kTold 25 8 5 := fun C T N h => by cases (Option.some.inj h); exact Or.inr ⟨rfl, rfl, rfl, (gt_in 303 (by decide +kernel) (by decide +kernel))⟩
theorem kn_8_29 : Cond.classLink RX8 29 RX9 ∈ lw_gt := (gt_in 173 (by decide +kernel) (by decide +kernel))
theorem kf_8_31 : GF RX8 31 8 6 8 2 6 := ⟨⟨_, _, _, cls8, by decide, Or.inl (gt_in 305 (by decide +kernel) (by decide +kernel))⟩, by decide, rfl, rfl, by decide⟩
theorem kp_8_6 : PutOK M_kTold 31 8 6 := fun C T N h => by cases (Option.some.inj h); exact Or.inr ⟨rfl, rfl, rfl, (gt_in 305 (by decide +kernel) (by decide +kernel))⟩
theorem kn_8_35 : Cond.classLink RX8 35 RX0 ∈ lw_gt := (gt_in 175 (by decide +kernel) (by decide +kernel))
theorem kf_8_37 : GF RX8 37 8 7 8 2 7 := ⟨⟨_, _, _, cls8, by decide, Or.inl (gt_in 307 (by decide +kernel) (by decide +kernel))⟩, by decide, rfl, rfl, by decide⟩
theorem kp_8_7 : PutOK M_kTold 37 8 7 := fun C T N h => by cases (Option.some.inj h); exact Or.inr ⟨rfl, rfl, rfl, (gt_in 307 (by decide +kernel) (by decide +kernel))⟩
theorem kr_0 : r32 0 := by unfold r32; omega
theorem kl_8_41 : Cond.methodLink RX8 41 M_kPaper.y ∈ lw_gt ∨ ∃ host : String, Cond.methodLinkNest RX8 41 M_kPaper.y host ∈ lw_ns := Or.inr ⟨"ProofLine", (ns_in 178 (by decide +kernel) (by decide +kernel))⟩
theorem kl_8_42 : Cond.methodLink RX8 42 M_kWeek.y ∈ lw_gt ∨ ∃ host : String, Cond.methodLinkNest RX8 42 M_kWeek.y host ∈ lw_ns := Or.inr ⟨"ProofLine", (ns_in 247 (by decide +kernel) (by decide +kernel))⟩
theorem kl_8_43 : Cond.methodLink RX8 43 M_kLog.y ∈ lw_gt ∨ ∃ host : String, Cond.methodLinkNest RX8 43 M_kLog.y host ∈ lw_ns := Or.inr ⟨"ProofLine", (ns_in 275 (by decide +kernel) (by decide +kernel))⟩
theorem ky_kTold : YOK M_kTold 0 := ⟨(gt_in 169 (by decide +kernel) (by decide +kernel)), kz_8, by decide +kernel⟩
theorem kt_kTold : Cond.instanceMethod M_kTold.y ∈ lw_gt := (gt_in 168 (by decide +kernel) (by decide +kernel))
def kTold (b : Int) (n : Nat) (C : Hp) : Hp := upd2 (kLog ((n + 32 : Nat) : Int) (n + 33) (newC (upd2 (kWeek ((n + 28 : Nat) : Int) (n + 29) (newC (upd2 (kPaper ((n + 20 : Nat) : Int) (n + 21) (newC (upd2 (kLog ((n + 17 : Nat) : Int) (n + 18) (newC (upd2 (kWeek ((n + 13 : Nat) : Int) (n + 14) (newC (upd2 (kPaper ((n + 5 : Nat) : Int) (n + 6) (newC (upd2 (newC (upd2 (newC (upd2 (newC (upd2 (newC (upd2 (upd2 (newC (C) ((n : Nat) : Int) (fun _ => 0)) b 0 ((n : Nat) : Int)) b 3 (-1)) ((n + 1 : Nat) : Int) (fun _ => 0)) b 4 ((n + 1 : Nat) : Int)) ((n + 2 : Nat) : Int) (fun _ => -1)) b 5 ((n + 2 : Nat) : Int)) ((n + 3 : Nat) : Int) (fun _ => -1)) b 6 ((n + 3 : Nat) : Int)) ((n + 4 : Nat) : Int) (fun _ => -1)) b 7 ((n + 4 : Nat) : Int)) ((n + 5 : Nat) : Int) (dflt 3))) ((n + 2 : Nat) : Int) 0 ((n + 5 : Nat) : Int)) ((n + 13 : Nat) : Int) (dflt 9))) ((n + 3 : Nat) : Int) 0 ((n + 13 : Nat) : Int)) ((n + 17 : Nat) : Int) (dflt 0))) ((n + 4 : Nat) : Int) 0 ((n + 17 : Nat) : Int)) ((n + 20 : Nat) : Int) (dflt 3))) ((n + 2 : Nat) : Int) 1 ((n + 20 : Nat) : Int)) ((n + 28 : Nat) : Int) (dflt 9))) ((n + 3 : Nat) : Int) 1 ((n + 28 : Nat) : Int)) ((n + 32 : Nat) : Int) (dflt 0))) ((n + 4 : Nat) : Int) 1 ((n + 32 : Nat) : Int)
theorem kTold_ne {b : Int} {n : Nat} {C : Hp} {a : Int} (h1 : a ≠ b) (h2 : a < (n : Int)) : kTold b n C a = C a := by
  unfold kTold
  rw [upd2_ne (by omega), kLog_ne (by omega) (by omega), newC_ne (by omega), upd2_ne (by omega), kWeek_ne (by omega) (by omega), newC_ne (by omega), upd2_ne (by omega), kPaper_ne (by omega) (by omega), newC_ne (by omega), upd2_ne (by omega), kLog_ne (by omega) (by omega), newC_ne (by omega), upd2_ne (by omega), kWeek_ne (by omega) (by omega), newC_ne (by omega), upd2_ne (by omega), kPaper_ne (by omega) (by omega), newC_ne (by omega), upd2_ne (by omega), newC_ne (by omega), upd2_ne (by omega), newC_ne (by omega), upd2_ne (by omega), newC_ne (by omega), upd2_ne (by omega), newC_ne (by omega), upd2_ne (by omega), upd2_ne (by omega), newC_ne (by omega)]
set_option maxRecDepth 100000 in
theorem kTold_ct {l : Launch} {b : Int} {n : Nat} {C : Hp} (hb : OB n b 8 8) (hn : n < 1100) (h0 : sh (n) = (21, 600)) (h1 : sh (n + 1) = (20, 3)) (h2 : sh (n + 2) = (23, 2)) (h3 : sh (n + 3) = (24, 2)) (h4 : sh (n + 4) = (25, 2)) (h5 : sh (n + 5) = (3, 7)) (h6 : sh (n + 6) = (2, 4)) (h7 : sh (n + 7) = (20, 10)) (h8 : sh (n + 8) = (20, 100)) (h9 : sh (n + 9) = (20, 100)) (h10 : sh (n + 10) = (20, 6)) (h11 : sh (n + 11) = (20, 6)) (h12 : sh (n + 12) = (20, 48)) (h13 : sh (n + 13) = (9, 4)) (h14 : sh (n + 14) = (20, 60)) (h15 : sh (n + 15) = (20, 60)) (h16 : sh (n + 16) = (20, 60)) (h17 : sh (n + 17) = (0, 3)) (h18 : sh (n + 18) = (20, 8)) (h19 : sh (n + 19) = (20, 8)) (h20 : sh (n + 20) = (3, 7)) (h21 : sh (n + 21) = (2, 4)) (h22 : sh (n + 22) = (20, 10)) (h23 : sh (n + 23) = (20, 100)) (h24 : sh (n + 24) = (20, 100)) (h25 : sh (n + 25) = (20, 6)) (h26 : sh (n + 26) = (20, 6)) (h27 : sh (n + 27) = (20, 48)) (h28 : sh (n + 28) = (9, 4)) (h29 : sh (n + 29) = (20, 60)) (h30 : sh (n + 30) = (20, 60)) (h31 : sh (n + 31) = (20, 60)) (h32 : sh (n + 32) = (0, 3)) (h33 : sh (n + 33) = (20, 8)) (h34 : sh (n + 34) = (20, 8)) : Ct l M_kTold [(2, b)] n C (none, n + 35, kTold b n C) := by
  have hb0 := hb.1
  have hb1 := hb.2.1
  refine ct_of_J (K := fun _ : Unit => (none, n + 35, kTold b n C)) (X := some ()) (L := [(2, b), (9, 0)]) (by decide +kernel) rfl (Nat.le_of_ble_eq_true rfl) ?_ rfl
  unfold kTold
  refine j_aload_n dX8_init_0 rfl rfl ?_
  refine j_objinit dX8_init_1 ko_8 ko_ini ko_cod (by omega) (Nat.le_of_ble_eq_true rfl) ?_
  refine j_aload_n dX8_init_4 rfl rfl ?_
  refine j_sipush dX8_init_5 kr_600 ks_600 ?_
  refine k_arr (atype := .byte) (n2 := n + 1) (q2 := (1, 600)) (N := 600) (t := 1) dX8_init_8 ka_byte rfl (by decide) (fun _ => rfl) rfl (fun U cA cB h1 h2 => fc_byte h1 h2) (by decide) (Nat.le_of_ble_eq_true rfl) h0 rfl rfl rfl (Nat.le_of_ble_eq_true rfl) (Nat.le_of_ble_eq_true rfl) ?_
  refine k_put dX8_init_10 kf_8_9 kp_8_0 (hb.up (by omega)) (fun _ => nf_arr) (by unfold r32; omega) ?_
  refine j_aload_n dX8_init_13 rfl rfl ?_
  refine j_iconst dX8_init_14 kr_m1 ?_
  refine k_put dX8_init_15 kf_8_15 kp_8_3 (hb.up (by omega)) (fun _ => nf_int) (by unfold r32; omega) ?_
  refine j_aload_n dX8_init_18 rfl rfl ?_
  refine j_iconst dX8_init_19 kr_3 ?_
  refine k_arr (atype := .int) (n2 := n + 2) (q2 := (2, 603)) (N := 3) (t := 0) dX8_init_20 ka_int rfl (by decide) (fun _ => rfl) rfl (fun U cA cB h1 h2 => fc_int h1 h2) (by decide) (Nat.le_of_ble_eq_true rfl) h1 rfl rfl rfl (Nat.le_of_ble_eq_true rfl) (Nat.le_of_ble_eq_true rfl) ?_
  refine k_put dX8_init_22 kf_8_19 kp_8_4 (hb.up (by omega)) (fun _ => nf_arr) (by unfold r32; omega) ?_
  refine j_aload_n dX8_init_25 rfl rfl ?_
  refine j_iconst dX8_init_26 kr_2 ?_
  refine k_anew (n2 := n + 3) (q2 := (3, 605)) (N := 2) (t := 0) dX8_init_27 kn_8_23 kv_3 (by decide) (fun _ => rfl) (Nat.le_of_ble_eq_true rfl) h2 rfl rfl rfl (Nat.le_of_ble_eq_true rfl) (Nat.le_of_ble_eq_true rfl) ?_
  refine k_put dX8_init_30 kf_8_25 kp_8_5 (hb.up (by omega)) (fun _ => nf_arr) (by unfold r32; omega) ?_
  refine j_aload_n dX8_init_33 rfl rfl ?_
  refine j_iconst dX8_init_34 kr_2 ?_
  refine k_anew (n2 := n + 4) (q2 := (4, 607)) (N := 2) (t := 1) dX8_init_35 kn_8_29 kv_9 (by decide) (fun _ => rfl) (Nat.le_of_ble_eq_true rfl) h3 rfl rfl rfl (Nat.le_of_ble_eq_true rfl) (Nat.le_of_ble_eq_true rfl) ?_
  refine k_put dX8_init_38 kf_8_31 kp_8_6 (hb.up (by omega)) (fun _ => nf_arr) (by unfold r32; omega) ?_
  refine j_aload_n dX8_init_41 rfl rfl ?_
  refine j_iconst dX8_init_42 kr_2 ?_
  refine k_anew (n2 := n + 5) (q2 := (5, 609)) (N := 2) (t := 2) dX8_init_43 kn_8_35 kv_0 (by decide) (fun _ => rfl) (Nat.le_of_ble_eq_true rfl) h4 rfl rfl rfl (Nat.le_of_ble_eq_true rfl) (Nat.le_of_ble_eq_true rfl) ?_
  refine k_put dX8_init_46 kf_8_37 kp_8_7 (hb.up (by omega)) (fun _ => nf_arr) (by unfold r32; omega) ?_
  refine j_iconst dX8_init_49 kr_0 ?_
  refine j_istore_n dX8_init_50 rfl (Nat.le_of_ble_eq_true rfl) rfl ?_
  refine j_iload_n dX8_init_51 rfl rfl ?_
  refine j_iconst dX8_init_52 kr_2 ?_
  refine k_ge_no (tgt := 101) dX8_init_53 rfl (by decide) ?_
  refine j_aload_n dX8_init_56 rfl rfl ?_
  refine k_get (z := ((n + 2 : Nat) : Int)) dX8_init_57 kf_8_25 (hb.up (by omega)) (by rw [upd2_nj (by omega), newC_ne (by omega), upd2_nj (by omega), newC_ne (by omega), upd2_self]) ?_
  refine j_iload_n dX8_init_60 rfl rfl ?_
  refine k_new (n2 := n + 6) (q2 := (6, 616)) dX8_init_61 cls3 kn_8_23 ki_3 kz_3 kd_3 h5 rfl rfl (Nat.le_of_ble_eq_true rfl) (Nat.le_of_ble_eq_true rfl) ?_
  refine j_dup dX8_init_64 (by decide) ?_
  refine k_call (n2 := n + 13) (q2 := (13, 890)) dX8_init_65 ky_kPaper kl_8_41 kt_kPaper rfl rfl (by omega) ⟨by decide, by decide⟩ (Nat.le_of_ble_eq_true rfl) rfl rfl (Nat.le_of_ble_eq_true rfl) (Nat.le_of_ble_eq_true rfl) (kPaper_ct (ob_at (h5) (by omega)) (by omega) h6 h7 h8 h9 h10 h11 h12) ?_
  refine j_aast (t := 0) dX8_init_68 (ob_at (h2) (by omega)) cls3 (fun _ => rfl) (ob_at (h5) (by omega)) (by unfold r32; omega) (by decide) (by decide) ?_
  refine j_aload_n dX8_init_69 rfl rfl ?_
  refine k_get (z := ((n + 3 : Nat) : Int)) dX8_init_70 kf_8_31 (hb.up (by omega)) (by rw [upd2_ne (by omega), kPaper_ne (by omega) (by omega), newC_ne (by omega), upd2_nj (by omega), newC_ne (by omega), upd2_self]) ?_
  refine j_iload_n dX8_init_73 rfl rfl ?_
  refine k_new (n2 := n + 14) (q2 := (14, 894)) dX8_init_74 cls9 kn_8_29 ki_9 kz_9 kd_9 h13 rfl rfl (Nat.le_of_ble_eq_true rfl) (Nat.le_of_ble_eq_true rfl) ?_
  refine j_dup dX8_init_77 (by decide) ?_
  refine k_call (n2 := n + 17) (q2 := (17, 1074)) dX8_init_78 ky_kWeek kl_8_42 kt_kWeek rfl rfl (by omega) ⟨by decide, by decide⟩ (Nat.le_of_ble_eq_true rfl) rfl rfl (Nat.le_of_ble_eq_true rfl) (Nat.le_of_ble_eq_true rfl) (kWeek_ct (ob_at (h13) (by omega)) (by omega) h14 h15 h16) ?_
  refine j_aast (t := 1) dX8_init_81 (ob_at (h3) (by omega)) cls9 (fun _ => rfl) (ob_at (h13) (by omega)) (by unfold r32; omega) (by decide) (by decide) ?_
  refine j_aload_n dX8_init_82 rfl rfl ?_
  refine k_get (z := ((n + 4 : Nat) : Int)) dX8_init_83 kf_8_37 (hb.up (by omega)) (by rw [upd2_ne (by omega), kWeek_ne (by omega) (by omega), newC_ne (by omega), upd2_ne (by omega), kPaper_ne (by omega) (by omega), newC_ne (by omega), upd2_self]) ?_
  refine j_iload_n dX8_init_86 rfl rfl ?_
  refine k_new (n2 := n + 18) (q2 := (18, 1077)) dX8_init_87 cls0 kn_8_35 ki_0 kz_0 kd_0 h17 rfl rfl (Nat.le_of_ble_eq_true rfl) (Nat.le_of_ble_eq_true rfl) ?_
  refine j_dup dX8_init_90 (by decide) ?_
  refine k_call (n2 := n + 20) (q2 := (20, 1093)) dX8_init_91 ky_kLog kl_8_43 kt_kLog rfl rfl (by omega) ⟨by decide, by decide⟩ (Nat.le_of_ble_eq_true rfl) rfl rfl (Nat.le_of_ble_eq_true rfl) (Nat.le_of_ble_eq_true rfl) (kLog_ct (ob_at (h17) (by omega)) (by omega) h18 h19) ?_
  refine j_aast (t := 2) dX8_init_94 (ob_at (h4) (by omega)) cls0 (fun _ => rfl) (ob_at (h17) (by omega)) (by unfold r32; omega) (by decide) (by decide) ?_
  refine k_iinc (z2 := 1) dX8_init_95 rfl (by decide +kernel) (Nat.le_of_ble_eq_true rfl) rfl ?_
  refine j_goto (tgt := 51) dX8_init_98 rfl ?_
  refine j_iload_n dX8_init_51 rfl rfl ?_
  refine j_iconst dX8_init_52 kr_2 ?_
  refine k_ge_no (tgt := 101) dX8_init_53 rfl (by decide) ?_
  refine j_aload_n dX8_init_56 rfl rfl ?_
  refine k_get (z := ((n + 2 : Nat) : Int)) dX8_init_57 kf_8_25 (hb.up (by omega)) (by rw [upd2_ne (by omega), kLog_ne (by omega) (by omega), newC_ne (by omega), upd2_ne (by omega), kWeek_ne (by omega) (by omega), newC_ne (by omega), upd2_ne (by omega), kPaper_ne (by omega) (by omega), newC_ne (by omega), upd2_nj (by omega), newC_ne (by omega), upd2_nj (by omega), newC_ne (by omega), upd2_self]) ?_
  refine j_iload_n dX8_init_60 rfl rfl ?_
  refine k_new (n2 := n + 21) (q2 := (21, 1100)) dX8_init_61 cls3 kn_8_23 ki_3 kz_3 kd_3 h20 rfl rfl (Nat.le_of_ble_eq_true rfl) (Nat.le_of_ble_eq_true rfl) ?_
  refine j_dup dX8_init_64 (by decide) ?_
  refine k_call (n2 := n + 28) (q2 := (28, 1374)) dX8_init_65 ky_kPaper kl_8_41 kt_kPaper rfl rfl (by omega) ⟨by decide, by decide⟩ (Nat.le_of_ble_eq_true rfl) rfl rfl (Nat.le_of_ble_eq_true rfl) (Nat.le_of_ble_eq_true rfl) (kPaper_ct (ob_at (h20) (by omega)) (by omega) h21 h22 h23 h24 h25 h26 h27) ?_
  refine j_aast (t := 0) dX8_init_68 (ob_at (h2) (by omega)) cls3 (fun _ => rfl) (ob_at (h20) (by omega)) (by unfold r32; omega) (by decide) (by decide) ?_
  refine j_aload_n dX8_init_69 rfl rfl ?_
  refine k_get (z := ((n + 3 : Nat) : Int)) dX8_init_70 kf_8_31 (hb.up (by omega)) (by rw [upd2_ne (by omega), kPaper_ne (by omega) (by omega), newC_ne (by omega), upd2_ne (by omega), kLog_ne (by omega) (by omega), newC_ne (by omega), upd2_ne (by omega), kWeek_ne (by omega) (by omega), newC_ne (by omega), upd2_ne (by omega), kPaper_ne (by omega) (by omega), newC_ne (by omega), upd2_nj (by omega), newC_ne (by omega), upd2_self]) ?_
  refine j_iload_n dX8_init_73 rfl rfl ?_
  refine k_new (n2 := n + 29) (q2 := (29, 1378)) dX8_init_74 cls9 kn_8_29 ki_9 kz_9 kd_9 h28 rfl rfl (Nat.le_of_ble_eq_true rfl) (Nat.le_of_ble_eq_true rfl) ?_
  refine j_dup dX8_init_77 (by decide) ?_
  refine k_call (n2 := n + 32) (q2 := (32, 1558)) dX8_init_78 ky_kWeek kl_8_42 kt_kWeek rfl rfl (by omega) ⟨by decide, by decide⟩ (Nat.le_of_ble_eq_true rfl) rfl rfl (Nat.le_of_ble_eq_true rfl) (Nat.le_of_ble_eq_true rfl) (kWeek_ct (ob_at (h28) (by omega)) (by omega) h29 h30 h31) ?_
  refine j_aast (t := 1) dX8_init_81 (ob_at (h3) (by omega)) cls9 (fun _ => rfl) (ob_at (h28) (by omega)) (by unfold r32; omega) (by decide) (by decide) ?_
  refine j_aload_n dX8_init_82 rfl rfl ?_
  refine k_get (z := ((n + 4 : Nat) : Int)) dX8_init_83 kf_8_37 (hb.up (by omega)) (by rw [upd2_ne (by omega), kWeek_ne (by omega) (by omega), newC_ne (by omega), upd2_ne (by omega), kPaper_ne (by omega) (by omega), newC_ne (by omega), upd2_ne (by omega), kLog_ne (by omega) (by omega), newC_ne (by omega), upd2_ne (by omega), kWeek_ne (by omega) (by omega), newC_ne (by omega), upd2_ne (by omega), kPaper_ne (by omega) (by omega), newC_ne (by omega), upd2_self]) ?_
  refine j_iload_n dX8_init_86 rfl rfl ?_
  refine k_new (n2 := n + 33) (q2 := (33, 1561)) dX8_init_87 cls0 kn_8_35 ki_0 kz_0 kd_0 h32 rfl rfl (Nat.le_of_ble_eq_true rfl) (Nat.le_of_ble_eq_true rfl) ?_
  refine j_dup dX8_init_90 (by decide) ?_
  refine k_call (n2 := n + 35) (q2 := (35, 1577)) dX8_init_91 ky_kLog kl_8_43 kt_kLog rfl rfl (by omega) ⟨by decide, by decide⟩ (Nat.le_of_ble_eq_true rfl) rfl rfl (Nat.le_of_ble_eq_true rfl) (Nat.le_of_ble_eq_true rfl) (kLog_ct (ob_at (h32) (by omega)) (by omega) h33 h34) ?_
  refine j_aast (t := 2) dX8_init_94 (ob_at (h4) (by omega)) cls0 (fun _ => rfl) (ob_at (h32) (by omega)) (by unfold r32; omega) (by decide) (by decide) ?_
  refine k_iinc (z2 := 2) dX8_init_95 rfl (by decide +kernel) (Nat.le_of_ble_eq_true rfl) rfl ?_
  refine j_goto (tgt := 51) dX8_init_98 rfl ?_
  refine j_iload_n dX8_init_51 rfl rfl ?_
  refine j_iconst dX8_init_52 kr_2 ?_
  refine k_ge_yes (tgt := 101) dX8_init_53 rfl (by decide) ?_
  exact j_return dX8_init_101 rfl rfl (Nat.le_of_ble_eq_true rfl) (Nat.le_of_ble_eq_true rfl)
def eTold (b : Int) (n : Nat) : List Ev := [(((n : Nat) : Int), 1, 0, 0), (b, 2, 0, ((n : Nat) : Int)), (b, 2, 3, (-1)), (((n + 1 : Nat) : Int), 1, 0, 0), (b, 2, 4, ((n + 1 : Nat) : Int)), (((n + 2 : Nat) : Int), 1, 0, (-1)), (b, 2, 5, ((n + 2 : Nat) : Int)), (((n + 3 : Nat) : Int), 1, 0, (-1)), (b, 2, 6, ((n + 3 : Nat) : Int)), (((n + 4 : Nat) : Int), 1, 0, (-1)), (b, 2, 7, ((n + 4 : Nat) : Int)), (((n + 5 : Nat) : Int), 0, 3, 0)] ++ (ePaper ((n + 5 : Nat) : Int) (n + 6) ++ ([(((n + 2 : Nat) : Int), 2, 0, ((n + 5 : Nat) : Int)), (((n + 13 : Nat) : Int), 0, 9, 0)] ++ (eWeek ((n + 13 : Nat) : Int) (n + 14) ++ ([(((n + 3 : Nat) : Int), 2, 0, ((n + 13 : Nat) : Int)), (((n + 17 : Nat) : Int), 0, 0, 0)] ++ (eLog ((n + 17 : Nat) : Int) (n + 18) ++ ([(((n + 4 : Nat) : Int), 2, 0, ((n + 17 : Nat) : Int)), (((n + 20 : Nat) : Int), 0, 3, 0)] ++ (ePaper ((n + 20 : Nat) : Int) (n + 21) ++ ([(((n + 2 : Nat) : Int), 2, 1, ((n + 20 : Nat) : Int)), (((n + 28 : Nat) : Int), 0, 9, 0)] ++ (eWeek ((n + 28 : Nat) : Int) (n + 29) ++ ([(((n + 3 : Nat) : Int), 2, 1, ((n + 28 : Nat) : Int)), (((n + 32 : Nat) : Int), 0, 0, 0)] ++ (eLog ((n + 32 : Nat) : Int) (n + 33) ++ ([(((n + 4 : Nat) : Int), 2, 1, ((n + 32 : Nat) : Int))]))))))))))))
theorem kTold_run (b : Int) (n : Nat) (C : Hp) : kTold b n C = run (eTold b n) C := by
  unfold kTold eTold
  simp only [run_app, kLog_run, kPaper_run, kWeek_run]
  rfl
theorem kn_6_9 : Cond.classLink RX6 9 RX3 ∈ lw_gt := (gt_in 333 (by decide +kernel) (by decide +kernel))
theorem kl_6_11 : Cond.methodLink RX6 11 M_kPaper.y ∈ lw_gt ∨ ∃ host : String, Cond.methodLinkNest RX6 11 M_kPaper.y host ∈ lw_ns := Or.inr ⟨"ProofLine", (ns_in 334 (by decide +kernel) (by decide +kernel))⟩
theorem kf_6_12 : GF RX6 12 6 0 14 2 0 := ⟨⟨_, _, _, cls6, by decide, Or.inl (gt_in 339 (by decide +kernel) (by decide +kernel))⟩, by decide, rfl, rfl, by decide⟩
theorem kp_6_0 : PutOK M_kScan 12 6 0 := fun C T N h => by cases (Option.some.inj h); exact Or.inr ⟨rfl, rfl, rfl, (gt_in 339 (by decide +kernel) (by decide +kernel))⟩
theorem kn_6_18 : Cond.classLink RX6 18 RX9 ∈ lw_gt := (gt_in 335 (by decide +kernel) (by decide +kernel))
theorem kl_6_20 : Cond.methodLink RX6 20 M_kWeek.y ∈ lw_gt ∨ ∃ host : String, Cond.methodLinkNest RX6 20 M_kWeek.y host ∈ lw_ns := Or.inr ⟨"ProofLine", (ns_in 336 (by decide +kernel) (by decide +kernel))⟩
theorem kf_6_21 : GF RX6 21 6 1 14 2 1 := ⟨⟨_, _, _, cls6, by decide, Or.inl (gt_in 341 (by decide +kernel) (by decide +kernel))⟩, by decide, rfl, rfl, by decide⟩
theorem kp_6_1 : PutOK M_kScan 21 6 1 := fun C T N h => by cases (Option.some.inj h); exact Or.inr ⟨rfl, rfl, rfl, (gt_in 341 (by decide +kernel) (by decide +kernel))⟩
theorem kn_6_25 : Cond.classLink RX6 25 RX0 ∈ lw_gt := (gt_in 337 (by decide +kernel) (by decide +kernel))
theorem kl_6_27 : Cond.methodLink RX6 27 M_kLog.y ∈ lw_gt ∨ ∃ host : String, Cond.methodLinkNest RX6 27 M_kLog.y host ∈ lw_ns := Or.inr ⟨"ProofLine", (ns_in 338 (by decide +kernel) (by decide +kernel))⟩
theorem kf_6_28 : GF RX6 28 6 2 14 2 2 := ⟨⟨_, _, _, cls6, by decide, Or.inl (gt_in 343 (by decide +kernel) (by decide +kernel))⟩, by decide, rfl, rfl, by decide⟩
theorem kp_6_2 : PutOK M_kScan 28 6 2 := fun C T N h => by cases (Option.some.inj h); exact Or.inr ⟨rfl, rfl, rfl, (gt_in 343 (by decide +kernel) (by decide +kernel))⟩
theorem kf_6_32 : GF RX6 32 6 5 14 2 5 := ⟨⟨_, _, _, cls6, by decide, Or.inl (gt_in 349 (by decide +kernel) (by decide +kernel))⟩, by decide, rfl, rfl, by decide⟩
theorem kp_6_5 : PutOK M_kScan 32 6 5 := fun C T N h => by cases (Option.some.inj h); exact Or.inr ⟨rfl, rfl, rfl, (gt_in 349 (by decide +kernel) (by decide +kernel))⟩
theorem kf_6_36 : GF RX6 36 6 11 14 2 11 := ⟨⟨_, _, _, cls6, by decide, Or.inl (gt_in 355 (by decide +kernel) (by decide +kernel))⟩, by decide, rfl, rfl, by decide⟩
theorem kp_6_11 : PutOK M_kScan 36 6 11 := fun C T N h => by cases (Option.some.inj h); exact Or.inr ⟨rfl, rfl, rfl, (gt_in 355 (by decide +kernel) (by decide +kernel))⟩
theorem ky_kScan : YOK M_kScan 0 := ⟨(gt_in 331 (by decide +kernel) (by decide +kernel)), kz_6, by decide +kernel⟩
theorem kt_kScan : Cond.instanceMethod M_kScan.y ∈ lw_gt := (gt_in 330 (by decide +kernel) (by decide +kernel))
def kScan (b : Int) (n : Nat) (C : Hp) : Hp := upd2 (newC (upd2 (newC (upd2 (kLog ((n + 12 : Nat) : Int) (n + 13) (newC (upd2 (kWeek ((n + 8 : Nat) : Int) (n + 9) (newC (upd2 (kPaper ((n : Nat) : Int) (n + 1) (newC (C) ((n : Nat) : Int) (dflt 3))) b 0 ((n : Nat) : Int)) ((n + 8 : Nat) : Int) (dflt 9))) b 1 ((n + 8 : Nat) : Int)) ((n + 12 : Nat) : Int) (dflt 0))) b 2 ((n + 12 : Nat) : Int)) ((n + 15 : Nat) : Int) (fun _ => 0)) b 5 ((n + 15 : Nat) : Int)) ((n + 16 : Nat) : Int) (fun _ => 0)) b 11 ((n + 16 : Nat) : Int)
theorem kScan_ne {b : Int} {n : Nat} {C : Hp} {a : Int} (h1 : a ≠ b) (h2 : a < (n : Int)) : kScan b n C a = C a := by
  unfold kScan
  rw [upd2_ne (by omega), newC_ne (by omega), upd2_ne (by omega), newC_ne (by omega), upd2_ne (by omega), kLog_ne (by omega) (by omega), newC_ne (by omega), upd2_ne (by omega), kWeek_ne (by omega) (by omega), newC_ne (by omega), upd2_ne (by omega), kPaper_ne (by omega) (by omega), newC_ne (by omega)]
set_option maxRecDepth 100000 in
theorem kScan_ct {l : Launch} {b : Int} {n : Nat} {C : Hp} (hb : OB n b 6 14) (hn : n < 1100) (h0 : sh (n) = (3, 7)) (h1 : sh (n + 1) = (2, 4)) (h2 : sh (n + 2) = (20, 10)) (h3 : sh (n + 3) = (20, 100)) (h4 : sh (n + 4) = (20, 100)) (h5 : sh (n + 5) = (20, 6)) (h6 : sh (n + 6) = (20, 6)) (h7 : sh (n + 7) = (20, 48)) (h8 : sh (n + 8) = (9, 4)) (h9 : sh (n + 9) = (20, 60)) (h10 : sh (n + 10) = (20, 60)) (h11 : sh (n + 11) = (20, 60)) (h12 : sh (n + 12) = (0, 3)) (h13 : sh (n + 13) = (20, 8)) (h14 : sh (n + 14) = (20, 8)) (h15 : sh (n + 15) = (21, 600)) (h16 : sh (n + 16) = (20, 3)) : Ct l M_kScan [(2, b)] n C (none, n + 17, kScan b n C) := by
  have hb0 := hb.1
  have hb1 := hb.2.1
  refine ct_of_J (K := fun _ : Unit => (none, n + 17, kScan b n C)) (X := some ()) (L := [(2, b)]) (by decide +kernel) rfl (Nat.le_of_ble_eq_true rfl) ?_ rfl
  unfold kScan
  refine j_aload_n dX6_init_0 rfl rfl ?_
  refine j_objinit dX6_init_1 ko_6 ko_ini ko_cod (by omega) (Nat.le_of_ble_eq_true rfl) ?_
  refine j_aload_n dX6_init_4 rfl rfl ?_
  refine k_new (n2 := n + 1) (q2 := (1, 7)) dX6_init_5 cls3 kn_6_9 ki_3 kz_3 kd_3 h0 rfl rfl (Nat.le_of_ble_eq_true rfl) (Nat.le_of_ble_eq_true rfl) ?_
  refine j_dup dX6_init_8 (by decide) ?_
  refine k_call (n2 := n + 8) (q2 := (8, 281)) dX6_init_9 ky_kPaper kl_6_11 kt_kPaper rfl rfl (by omega) ⟨by decide, by decide⟩ (Nat.le_of_ble_eq_true rfl) rfl rfl (Nat.le_of_ble_eq_true rfl) (Nat.le_of_ble_eq_true rfl) (kPaper_ct (ob_at (h0) (by omega)) (by omega) h1 h2 h3 h4 h5 h6 h7) ?_
  refine k_put dX6_init_12 kf_6_12 kp_6_0 (hb.up (by omega)) (fun _ => nf_obj) (by unfold r32; omega) ?_
  refine j_aload_n dX6_init_15 rfl rfl ?_
  refine k_new (n2 := n + 9) (q2 := (9, 285)) dX6_init_16 cls9 kn_6_18 ki_9 kz_9 kd_9 h8 rfl rfl (Nat.le_of_ble_eq_true rfl) (Nat.le_of_ble_eq_true rfl) ?_
  refine j_dup dX6_init_19 (by decide) ?_
  refine k_call (n2 := n + 12) (q2 := (12, 465)) dX6_init_20 ky_kWeek kl_6_20 kt_kWeek rfl rfl (by omega) ⟨by decide, by decide⟩ (Nat.le_of_ble_eq_true rfl) rfl rfl (Nat.le_of_ble_eq_true rfl) (Nat.le_of_ble_eq_true rfl) (kWeek_ct (ob_at (h8) (by omega)) (by omega) h9 h10 h11) ?_
  refine k_put dX6_init_23 kf_6_21 kp_6_1 (hb.up (by omega)) (fun _ => nf_obj) (by unfold r32; omega) ?_
  refine j_aload_n dX6_init_26 rfl rfl ?_
  refine k_new (n2 := n + 13) (q2 := (13, 468)) dX6_init_27 cls0 kn_6_25 ki_0 kz_0 kd_0 h12 rfl rfl (Nat.le_of_ble_eq_true rfl) (Nat.le_of_ble_eq_true rfl) ?_
  refine j_dup dX6_init_30 (by decide) ?_
  refine k_call (n2 := n + 15) (q2 := (15, 484)) dX6_init_31 ky_kLog kl_6_27 kt_kLog rfl rfl (by omega) ⟨by decide, by decide⟩ (Nat.le_of_ble_eq_true rfl) rfl rfl (Nat.le_of_ble_eq_true rfl) (Nat.le_of_ble_eq_true rfl) (kLog_ct (ob_at (h12) (by omega)) (by omega) h13 h14) ?_
  refine k_put dX6_init_34 kf_6_28 kp_6_2 (hb.up (by omega)) (fun _ => nf_obj) (by unfold r32; omega) ?_
  refine j_aload_n dX6_init_37 rfl rfl ?_
  refine j_sipush dX6_init_38 kr_600 ks_600 ?_
  refine k_arr (atype := .byte) (n2 := n + 16) (q2 := (16, 1084)) (N := 600) (t := 1) dX6_init_41 ka_byte rfl (by decide) (fun _ => rfl) rfl (fun U cA cB h1 h2 => fc_byte h1 h2) (by decide) (Nat.le_of_ble_eq_true rfl) h15 rfl rfl rfl (Nat.le_of_ble_eq_true rfl) (Nat.le_of_ble_eq_true rfl) ?_
  refine k_put dX6_init_43 kf_6_32 kp_6_5 (hb.up (by omega)) (fun _ => nf_arr) (by unfold r32; omega) ?_
  refine j_aload_n dX6_init_46 rfl rfl ?_
  refine j_iconst dX6_init_47 kr_3 ?_
  refine k_arr (atype := .int) (n2 := n + 17) (q2 := (17, 1087)) (N := 3) (t := 0) dX6_init_48 ka_int rfl (by decide) (fun _ => rfl) rfl (fun U cA cB h1 h2 => fc_int h1 h2) (by decide) (Nat.le_of_ble_eq_true rfl) h16 rfl rfl rfl (Nat.le_of_ble_eq_true rfl) (Nat.le_of_ble_eq_true rfl) ?_
  refine k_put dX6_init_50 kf_6_36 kp_6_11 (hb.up (by omega)) (fun _ => nf_arr) (by unfold r32; omega) ?_
  exact j_return dX6_init_53 rfl rfl (Nat.le_of_ble_eq_true rfl) (Nat.le_of_ble_eq_true rfl)
def eScan (b : Int) (n : Nat) : List Ev := [(((n : Nat) : Int), 0, 3, 0)] ++ (ePaper ((n : Nat) : Int) (n + 1) ++ ([(b, 2, 0, ((n : Nat) : Int)), (((n + 8 : Nat) : Int), 0, 9, 0)] ++ (eWeek ((n + 8 : Nat) : Int) (n + 9) ++ ([(b, 2, 1, ((n + 8 : Nat) : Int)), (((n + 12 : Nat) : Int), 0, 0, 0)] ++ (eLog ((n + 12 : Nat) : Int) (n + 13) ++ ([(b, 2, 2, ((n + 12 : Nat) : Int)), (((n + 15 : Nat) : Int), 1, 0, 0), (b, 2, 5, ((n + 15 : Nat) : Int)), (((n + 16 : Nat) : Int), 1, 0, 0), (b, 2, 11, ((n + 16 : Nat) : Int))]))))))
theorem kScan_run (b : Int) (n : Nat) (C : Hp) : kScan b n C = run (eScan b n) C := by
  unfold kScan eScan
  simp only [run_app, kLog_run, kPaper_run, kWeek_run]
  rfl
theorem kn_7_9 : Cond.classLink RX7 9 RX3 ∈ lw_gt := (gt_in 394 (by decide +kernel) (by decide +kernel))
theorem kl_7_11 : Cond.methodLink RX7 11 M_kPaper.y ∈ lw_gt ∨ ∃ host : String, Cond.methodLinkNest RX7 11 M_kPaper.y host ∈ lw_ns := Or.inr ⟨"ProofLine", (ns_in 395 (by decide +kernel) (by decide +kernel))⟩
theorem kf_7_12 : GF RX7 12 7 0 13 2 0 := ⟨⟨_, _, _, cls7, by decide, Or.inl (gt_in 398 (by decide +kernel) (by decide +kernel))⟩, by decide, rfl, rfl, by decide⟩
theorem kp_7_0 : PutOK M_kStand 12 7 0 := fun C T N h => by cases (Option.some.inj h); exact Or.inl rfl
theorem kn_7_18 : Cond.classLink RX7 18 RX2 ∈ lw_gt := (gt_in 396 (by decide +kernel) (by decide +kernel))
theorem kl_7_20 : Cond.methodLink RX7 20 M_kNet.y ∈ lw_gt ∨ ∃ host : String, Cond.methodLinkNest RX7 20 M_kNet.y host ∈ lw_ns := Or.inr ⟨"ProofLine", (ns_in 397 (by decide +kernel) (by decide +kernel))⟩
theorem kf_7_21 : GF RX7 21 7 1 13 2 1 := ⟨⟨_, _, _, cls7, by decide, Or.inl (gt_in 399 (by decide +kernel) (by decide +kernel))⟩, by decide, rfl, rfl, by decide⟩
theorem kp_7_1 : PutOK M_kStand 21 7 1 := fun C T N h => by cases (Option.some.inj h); exact Or.inr ⟨rfl, rfl, rfl, (gt_in 399 (by decide +kernel) (by decide +kernel))⟩
theorem kf_7_25 : GF RX7 25 7 3 13 2 3 := ⟨⟨_, _, _, cls7, by decide, Or.inl (gt_in 401 (by decide +kernel) (by decide +kernel))⟩, by decide, rfl, rfl, by decide⟩
theorem kp_7_3 : PutOK M_kStand 25 7 3 := fun C T N h => by cases (Option.some.inj h); exact Or.inr ⟨rfl, rfl, rfl, (gt_in 401 (by decide +kernel) (by decide +kernel))⟩
theorem kf_7_29 : GF RX7 29 7 4 13 2 4 := ⟨⟨_, _, _, cls7, by decide, Or.inl (gt_in 402 (by decide +kernel) (by decide +kernel))⟩, by decide, rfl, rfl, by decide⟩
theorem kp_7_4 : PutOK M_kStand 29 7 4 := fun C T N h => by cases (Option.some.inj h); exact Or.inr ⟨rfl, rfl, rfl, (gt_in 402 (by decide +kernel) (by decide +kernel))⟩
theorem kf_7_32 : GF RX7 32 7 7 13 2 7 := ⟨⟨_, _, _, cls7, by decide, Or.inl (gt_in 405 (by decide +kernel) (by decide +kernel))⟩, by decide, rfl, rfl, by decide⟩
theorem kp_7_7 : PutOK M_kStand 32 7 7 := fun C T N h => by cases (Option.some.inj h); exact Or.inr ⟨rfl, rfl, rfl, (gt_in 405 (by decide +kernel) (by decide +kernel))⟩
theorem ky_kStand : YOK M_kStand 0 := ⟨(gt_in 392 (by decide +kernel) (by decide +kernel)), kz_7, by decide +kernel⟩
theorem kt_kStand : Cond.instanceMethod M_kStand.y ∈ lw_gt := (gt_in 391 (by decide +kernel) (by decide +kernel))
def kStand (b : Int) (n : Nat) (C : Hp) : Hp := upd2 (newC (upd2 (newC (upd2 (newC (upd2 (kNet ((n + 8 : Nat) : Int) (n + 9) (newC (upd2 (kPaper ((n : Nat) : Int) (n + 1) (newC (C) ((n : Nat) : Int) (dflt 3))) b 0 ((n : Nat) : Int)) ((n + 8 : Nat) : Int) (dflt 2))) b 1 ((n + 8 : Nat) : Int)) ((n + 12 : Nat) : Int) (fun _ => 0)) b 3 ((n + 12 : Nat) : Int)) ((n + 13 : Nat) : Int) (fun _ => 0)) b 4 ((n + 13 : Nat) : Int)) ((n + 14 : Nat) : Int) (fun _ => 0)) b 7 ((n + 14 : Nat) : Int)
theorem kStand_ne {b : Int} {n : Nat} {C : Hp} {a : Int} (h1 : a ≠ b) (h2 : a < (n : Int)) : kStand b n C a = C a := by
  unfold kStand
  rw [upd2_ne (by omega), newC_ne (by omega), upd2_ne (by omega), newC_ne (by omega), upd2_ne (by omega), newC_ne (by omega), upd2_ne (by omega), kNet_ne (by omega) (by omega), newC_ne (by omega), upd2_ne (by omega), kPaper_ne (by omega) (by omega), newC_ne (by omega)]
set_option maxRecDepth 100000 in
theorem kStand_ct {l : Launch} {b : Int} {n : Nat} {C : Hp} (hb : OB n b 7 13) (hn : n < 1100) (h0 : sh (n) = (3, 7)) (h1 : sh (n + 1) = (2, 4)) (h2 : sh (n + 2) = (20, 10)) (h3 : sh (n + 3) = (20, 100)) (h4 : sh (n + 4) = (20, 100)) (h5 : sh (n + 5) = (20, 6)) (h6 : sh (n + 6) = (20, 6)) (h7 : sh (n + 7) = (20, 48)) (h8 : sh (n + 8) = (2, 4)) (h9 : sh (n + 9) = (20, 10)) (h10 : sh (n + 10) = (20, 100)) (h11 : sh (n + 11) = (20, 100)) (h12 : sh (n + 12) = (20, 6)) (h13 : sh (n + 13) = (20, 6)) (h14 : sh (n + 14) = (20, 60)) : Ct l M_kStand [(2, b)] n C (none, n + 15, kStand b n C) := by
  have hb0 := hb.1
  have hb1 := hb.2.1
  refine ct_of_J (K := fun _ : Unit => (none, n + 15, kStand b n C)) (X := some ()) (L := [(2, b)]) (by decide +kernel) rfl (Nat.le_of_ble_eq_true rfl) ?_ rfl
  unfold kStand
  refine j_aload_n dX7_init_0 rfl rfl ?_
  refine j_objinit dX7_init_1 ko_7 ko_ini ko_cod (by omega) (Nat.le_of_ble_eq_true rfl) ?_
  refine j_aload_n dX7_init_4 rfl rfl ?_
  refine k_new (n2 := n + 1) (q2 := (1, 7)) dX7_init_5 cls3 kn_7_9 ki_3 kz_3 kd_3 h0 rfl rfl (Nat.le_of_ble_eq_true rfl) (Nat.le_of_ble_eq_true rfl) ?_
  refine j_dup dX7_init_8 (by decide) ?_
  refine k_call (n2 := n + 8) (q2 := (8, 281)) dX7_init_9 ky_kPaper kl_7_11 kt_kPaper rfl rfl (by omega) ⟨by decide, by decide⟩ (Nat.le_of_ble_eq_true rfl) rfl rfl (Nat.le_of_ble_eq_true rfl) (Nat.le_of_ble_eq_true rfl) (kPaper_ct (ob_at (h0) (by omega)) (by omega) h1 h2 h3 h4 h5 h6 h7) ?_
  refine k_put dX7_init_12 kf_7_12 kp_7_0 (hb.up (by omega)) (fun _ => nf_obj) (by unfold r32; omega) ?_
  refine j_aload_n dX7_init_15 rfl rfl ?_
  refine k_new (n2 := n + 9) (q2 := (9, 285)) dX7_init_16 cls2 kn_7_18 ki_2 kz_2 kd_2 h8 rfl rfl (Nat.le_of_ble_eq_true rfl) (Nat.le_of_ble_eq_true rfl) ?_
  refine j_dup dX7_init_19 (by decide) ?_
  refine k_call (n2 := n + 12) (q2 := (12, 495)) dX7_init_20 ky_kNet kl_7_20 kt_kNet rfl rfl (by omega) ⟨by decide, by decide⟩ (Nat.le_of_ble_eq_true rfl) rfl rfl (Nat.le_of_ble_eq_true rfl) (Nat.le_of_ble_eq_true rfl) (kNet_ct (ob_at (h8) (by omega)) (by omega) h9 h10 h11) ?_
  refine k_put dX7_init_23 kf_7_21 kp_7_1 (hb.up (by omega)) (fun _ => nf_obj) (by unfold r32; omega) ?_
  refine j_aload_n dX7_init_26 rfl rfl ?_
  refine j_bipush dX7_init_27 kr_6 kb_6 ?_
  refine k_arr (atype := .int) (n2 := n + 13) (q2 := (13, 501)) (N := 6) (t := 0) dX7_init_29 ka_int rfl (by decide) (fun _ => rfl) rfl (fun U cA cB h1 h2 => fc_int h1 h2) (by decide) (Nat.le_of_ble_eq_true rfl) h12 rfl rfl rfl (Nat.le_of_ble_eq_true rfl) (Nat.le_of_ble_eq_true rfl) ?_
  refine k_put dX7_init_31 kf_7_25 kp_7_3 (hb.up (by omega)) (fun _ => nf_arr) (by unfold r32; omega) ?_
  refine j_aload_n dX7_init_34 rfl rfl ?_
  refine j_bipush dX7_init_35 kr_6 kb_6 ?_
  refine k_arr (atype := .int) (n2 := n + 14) (q2 := (14, 507)) (N := 6) (t := 0) dX7_init_37 ka_int rfl (by decide) (fun _ => rfl) rfl (fun U cA cB h1 h2 => fc_int h1 h2) (by decide) (Nat.le_of_ble_eq_true rfl) h13 rfl rfl rfl (Nat.le_of_ble_eq_true rfl) (Nat.le_of_ble_eq_true rfl) ?_
  refine k_put dX7_init_39 kf_7_29 kp_7_4 (hb.up (by omega)) (fun _ => nf_arr) (by unfold r32; omega) ?_
  refine j_aload_n dX7_init_42 rfl rfl ?_
  refine j_bipush dX7_init_43 kr_60 kb_60 ?_
  refine k_arr (atype := .int) (n2 := n + 15) (q2 := (15, 567)) (N := 60) (t := 0) dX7_init_45 ka_int rfl (by decide) (fun _ => rfl) rfl (fun U cA cB h1 h2 => fc_int h1 h2) (by decide) (Nat.le_of_ble_eq_true rfl) h14 rfl rfl rfl (Nat.le_of_ble_eq_true rfl) (Nat.le_of_ble_eq_true rfl) ?_
  refine k_put dX7_init_47 kf_7_32 kp_7_7 (hb.up (by omega)) (fun _ => nf_arr) (by unfold r32; omega) ?_
  exact j_return dX7_init_50 rfl rfl (Nat.le_of_ble_eq_true rfl) (Nat.le_of_ble_eq_true rfl)
def eStand (b : Int) (n : Nat) : List Ev := [(((n : Nat) : Int), 0, 3, 0)] ++ (ePaper ((n : Nat) : Int) (n + 1) ++ ([(b, 2, 0, ((n : Nat) : Int)), (((n + 8 : Nat) : Int), 0, 2, 0)] ++ (eNet ((n + 8 : Nat) : Int) (n + 9) ++ ([(b, 2, 1, ((n + 8 : Nat) : Int)), (((n + 12 : Nat) : Int), 1, 0, 0), (b, 2, 3, ((n + 12 : Nat) : Int)), (((n + 13 : Nat) : Int), 1, 0, 0), (b, 2, 4, ((n + 13 : Nat) : Int)), (((n + 14 : Nat) : Int), 1, 0, 0), (b, 2, 7, ((n + 14 : Nat) : Int))]))))
theorem kStand_run (b : Int) (n : Nat) (C : Hp) : kStand b n C = run (eStand b n) C := by
  unfold kStand eStand
  simp only [run_app, kNet_run, kPaper_run]
  rfl
theorem kn_1_9 : Cond.classLink RX1 9 RX9 ∈ lw_gt := (gt_in 448 (by decide +kernel) (by decide +kernel))
theorem kl_1_11 : Cond.methodLink RX1 11 M_kWeek.y ∈ lw_gt ∨ ∃ host : String, Cond.methodLinkNest RX1 11 M_kWeek.y host ∈ lw_ns := Or.inr ⟨"ProofLine", (ns_in 449 (by decide +kernel) (by decide +kernel))⟩
theorem kf_1_12 : GF RX1 12 1 0 2 2 0 := ⟨⟨_, _, _, cls1, by decide, Or.inl (gt_in 450 (by decide +kernel) (by decide +kernel))⟩, by decide, rfl, rfl, by decide⟩
theorem kp_1_0 : PutOK M_kLots 12 1 0 := fun C T N h => by cases (Option.some.inj h); exact Or.inr ⟨rfl, rfl, rfl, (gt_in 450 (by decide +kernel) (by decide +kernel))⟩
theorem ky_kLots : YOK M_kLots 0 := ⟨(gt_in 446 (by decide +kernel) (by decide +kernel)), kz_1, by decide +kernel⟩
theorem kt_kLots : Cond.instanceMethod M_kLots.y ∈ lw_gt := (gt_in 445 (by decide +kernel) (by decide +kernel))
def kLots (b : Int) (n : Nat) (C : Hp) : Hp := upd2 (kWeek ((n : Nat) : Int) (n + 1) (newC (C) ((n : Nat) : Int) (dflt 9))) b 0 ((n : Nat) : Int)
theorem kLots_ne {b : Int} {n : Nat} {C : Hp} {a : Int} (h1 : a ≠ b) (h2 : a < (n : Int)) : kLots b n C a = C a := by
  unfold kLots
  rw [upd2_ne (by omega), kWeek_ne (by omega) (by omega), newC_ne (by omega)]
set_option maxRecDepth 100000 in
theorem kLots_ct {l : Launch} {b : Int} {n : Nat} {C : Hp} (hb : OB n b 1 2) (hn : n < 1400) (h0 : sh (n) = (9, 4)) (h1 : sh (n + 1) = (20, 60)) (h2 : sh (n + 2) = (20, 60)) (h3 : sh (n + 3) = (20, 60)) : Ct l M_kLots [(2, b)] n C (none, n + 4, kLots b n C) := by
  have hb0 := hb.1
  have hb1 := hb.2.1
  refine ct_of_J (K := fun _ : Unit => (none, n + 4, kLots b n C)) (X := some ()) (L := [(2, b)]) (by decide +kernel) rfl (Nat.le_of_ble_eq_true rfl) ?_ rfl
  unfold kLots
  refine j_aload_n dX1_init_0 rfl rfl ?_
  refine j_objinit dX1_init_1 ko_1 ko_ini ko_cod (by omega) (Nat.le_of_ble_eq_true rfl) ?_
  refine j_aload_n dX1_init_4 rfl rfl ?_
  refine k_new (n2 := n + 1) (q2 := (1, 4)) dX1_init_5 cls9 kn_1_9 ki_9 kz_9 kd_9 h0 rfl rfl (Nat.le_of_ble_eq_true rfl) (Nat.le_of_ble_eq_true rfl) ?_
  refine j_dup dX1_init_8 (by decide) ?_
  refine k_call (n2 := n + 4) (q2 := (4, 184)) dX1_init_9 ky_kWeek kl_1_11 kt_kWeek rfl rfl (by omega) ⟨by decide, by decide⟩ (Nat.le_of_ble_eq_true rfl) rfl rfl (Nat.le_of_ble_eq_true rfl) (Nat.le_of_ble_eq_true rfl) (kWeek_ct (ob_at (h0) (by omega)) (by omega) h1 h2 h3) ?_
  refine k_put dX1_init_12 kf_1_12 kp_1_0 (hb.up (by omega)) (fun _ => nf_obj) (by unfold r32; omega) ?_
  exact j_return dX1_init_15 rfl rfl (Nat.le_of_ble_eq_true rfl) (Nat.le_of_ble_eq_true rfl)
def eLots (b : Int) (n : Nat) : List Ev := [(((n : Nat) : Int), 0, 9, 0)] ++ (eWeek ((n : Nat) : Int) (n + 1) ++ ([(b, 2, 0, ((n : Nat) : Int))]))
theorem kLots_run (b : Int) (n : Nat) (C : Hp) : kLots b n C = run (eLots b n) C := by
  unfold kLots eLots
  simp only [run_app, kWeek_run]
  rfl
theorem kb_61 : (Int8.ofInt 61).toInt32 = I32 61 := by decide +kernel
theorem kr_61 : r32 61 := by unfold r32; omega
theorem kf_4_9 : GF RX4 9 4 0 4 2 0 := ⟨⟨_, _, _, cls4, by decide, Or.inl (gt_in 464 (by decide +kernel) (by decide +kernel))⟩, by decide, rfl, rfl, by decide⟩
theorem kp_4_0 : PutOK M_kRounds 9 4 0 := fun C T N h => by cases (Option.some.inj h); exact Or.inr ⟨rfl, rfl, rfl, (gt_in 464 (by decide +kernel) (by decide +kernel))⟩
theorem ky_kRounds : YOK M_kRounds 0 := ⟨(gt_in 462 (by decide +kernel) (by decide +kernel)), kz_4, by decide +kernel⟩
theorem kt_kRounds : Cond.instanceMethod M_kRounds.y ∈ lw_gt := (gt_in 461 (by decide +kernel) (by decide +kernel))
def kRounds (b : Int) (n : Nat) (C : Hp) : Hp := upd2 (newC (C) ((n : Nat) : Int) (fun _ => 0)) b 0 ((n : Nat) : Int)
theorem kRounds_ne {b : Int} {n : Nat} {C : Hp} {a : Int} (h1 : a ≠ b) (h2 : a < (n : Int)) : kRounds b n C a = C a := by
  unfold kRounds
  rw [upd2_ne (by omega), newC_ne (by omega)]
set_option maxRecDepth 100000 in
theorem kRounds_ct {l : Launch} {b : Int} {n : Nat} {C : Hp} (hb : OB n b 4 4) (hn : n < 1700) (h0 : sh (n) = (20, 61)) : Ct l M_kRounds [(2, b)] n C (none, n + 1, kRounds b n C) := by
  have hb0 := hb.1
  have hb1 := hb.2.1
  refine ct_of_J (K := fun _ : Unit => (none, n + 1, kRounds b n C)) (X := some ()) (L := [(2, b)]) (by decide +kernel) rfl (Nat.le_of_ble_eq_true rfl) ?_ rfl
  unfold kRounds
  refine j_aload_n dX4_init_0 rfl rfl ?_
  refine j_objinit dX4_init_1 ko_4 ko_ini ko_cod (by omega) (Nat.le_of_ble_eq_true rfl) ?_
  refine j_aload_n dX4_init_4 rfl rfl ?_
  refine j_bipush dX4_init_5 kr_61 kb_61 ?_
  refine k_arr (atype := .int) (n2 := n + 1) (q2 := (1, 61)) (N := 61) (t := 0) dX4_init_7 ka_int rfl (by decide) (fun _ => rfl) rfl (fun U cA cB h1 h2 => fc_int h1 h2) (by decide) (Nat.le_of_ble_eq_true rfl) h0 rfl rfl rfl (Nat.le_of_ble_eq_true rfl) (Nat.le_of_ble_eq_true rfl) ?_
  refine k_put dX4_init_9 kf_4_9 kp_4_0 (hb.up (by omega)) (fun _ => nf_arr) (by unfold r32; omega) ?_
  exact j_return dX4_init_12 rfl rfl (Nat.le_of_ble_eq_true rfl) (Nat.le_of_ble_eq_true rfl)
def eRounds (b : Int) (n : Nat) : List Ev := [(((n : Nat) : Int), 1, 0, 0), (b, 2, 0, ((n : Nat) : Int))]
theorem kRounds_run (b : Int) (n : Nat) (C : Hp) : kRounds b n C = run (eRounds b n) C := rfl
theorem kf_5_9 : GF RX5 9 5 0 11 0 0 := ⟨⟨_, _, _, cls5, by decide, Or.inl (gt_in 486 (by decide +kernel) (by decide +kernel))⟩, by decide, rfl, rfl, by decide⟩
theorem kp_5_0 : PutOK M_kRows 9 5 0 := fun C T N h => by cases (Option.some.inj h); exact Or.inl rfl
theorem kf_5_15 : GF RX5 15 5 4 11 2 4 := ⟨⟨_, _, _, cls5, by decide, Or.inl (gt_in 490 (by decide +kernel) (by decide +kernel))⟩, by decide, rfl, rfl, by decide⟩
theorem kp_5_4 : PutOK M_kRows 15 5 4 := fun C T N h => by cases (Option.some.inj h); exact Or.inr ⟨rfl, rfl, rfl, (gt_in 490 (by decide +kernel) (by decide +kernel))⟩
theorem kb_7 : (Int8.ofInt 7).toInt32 = I32 7 := by decide +kernel
theorem kr_7 : r32 7 := by unfold r32; omega
theorem kf_5_19 : GF RX5 19 5 5 11 2 5 := ⟨⟨_, _, _, cls5, by decide, Or.inl (gt_in 491 (by decide +kernel) (by decide +kernel))⟩, by decide, rfl, rfl, by decide⟩
theorem kp_5_5 : PutOK M_kRows 19 5 5 := fun C T N h => by cases (Option.some.inj h); exact Or.inr ⟨rfl, rfl, rfl, (gt_in 491 (by decide +kernel) (by decide +kernel))⟩
theorem ks_720 : (Int16.ofInt 720).toInt32 = I32 720 := by decide +kernel
theorem kr_720 : r32 720 := by unfold r32; omega
theorem kf_5_22 : GF RX5 22 5 6 11 2 6 := ⟨⟨_, _, _, cls5, by decide, Or.inl (gt_in 492 (by decide +kernel) (by decide +kernel))⟩, by decide, rfl, rfl, by decide⟩
theorem kp_5_6 : PutOK M_kRows 22 5 6 := fun C T N h => by cases (Option.some.inj h); exact Or.inr ⟨rfl, rfl, rfl, (gt_in 492 (by decide +kernel) (by decide +kernel))⟩
theorem kf_5_25 : GF RX5 25 5 7 11 2 7 := ⟨⟨_, _, _, cls5, by decide, Or.inl (gt_in 494 (by decide +kernel) (by decide +kernel))⟩, by decide, rfl, rfl, by decide⟩
theorem kp_5_7 : PutOK M_kRows 25 5 7 := fun C T N h => by cases (Option.some.inj h); exact Or.inr ⟨rfl, rfl, rfl, (gt_in 494 (by decide +kernel) (by decide +kernel))⟩
theorem kf_5_28 : GF RX5 28 5 8 11 2 8 := ⟨⟨_, _, _, cls5, by decide, Or.inl (gt_in 495 (by decide +kernel) (by decide +kernel))⟩, by decide, rfl, rfl, by decide⟩
theorem kp_5_8 : PutOK M_kRows 28 5 8 := fun C T N h => by cases (Option.some.inj h); exact Or.inr ⟨rfl, rfl, rfl, (gt_in 495 (by decide +kernel) (by decide +kernel))⟩
theorem kf_5_31 : GF RX5 31 5 9 11 2 9 := ⟨⟨_, _, _, cls5, by decide, Or.inl (gt_in 497 (by decide +kernel) (by decide +kernel))⟩, by decide, rfl, rfl, by decide⟩
theorem kp_5_9 : PutOK M_kRows 31 5 9 := fun C T N h => by cases (Option.some.inj h); exact Or.inr ⟨rfl, rfl, rfl, (gt_in 497 (by decide +kernel) (by decide +kernel))⟩
theorem ky_kRows : YOK M_kRows 0 := ⟨(gt_in 484 (by decide +kernel) (by decide +kernel)), kz_5, by decide +kernel⟩
theorem kt_kRows : Cond.instanceMethod M_kRows.y ∈ lw_gt := (gt_in 483 (by decide +kernel) (by decide +kernel))
def kRows (b : Int) (n : Nat) (C : Hp) : Hp := upd2 (newC (upd2 (newC (upd2 (newC (upd2 (newC (upd2 (newC (upd2 (newC (upd2 (C) b 0 (-1)) ((n : Nat) : Int) (fun _ => 0)) b 4 ((n : Nat) : Int)) ((n + 1 : Nat) : Int) (fun _ => 0)) b 5 ((n + 1 : Nat) : Int)) ((n + 2 : Nat) : Int) (fun _ => 0)) b 6 ((n + 2 : Nat) : Int)) ((n + 3 : Nat) : Int) (fun _ => 0)) b 7 ((n + 3 : Nat) : Int)) ((n + 4 : Nat) : Int) (fun _ => 0)) b 8 ((n + 4 : Nat) : Int)) ((n + 5 : Nat) : Int) (fun _ => 0)) b 9 ((n + 5 : Nat) : Int)
theorem kRows_ne {b : Int} {n : Nat} {C : Hp} {a : Int} (h1 : a ≠ b) (h2 : a < (n : Int)) : kRows b n C a = C a := by
  unfold kRows
  rw [upd2_ne (by omega), newC_ne (by omega), upd2_ne (by omega), newC_ne (by omega), upd2_ne (by omega), newC_ne (by omega), upd2_ne (by omega), newC_ne (by omega), upd2_ne (by omega), newC_ne (by omega), upd2_ne (by omega), newC_ne (by omega), upd2_ne (by omega)]
set_option maxRecDepth 100000 in
theorem kRows_ct {l : Launch} {b : Int} {n : Nat} {C : Hp} (hb : OB n b 5 11) (hn : n < 1700) (h0 : sh (n) = (20, 6)) (h1 : sh (n + 1) = (20, 7)) (h2 : sh (n + 2) = (20, 720)) (h3 : sh (n + 3) = (20, 720)) (h4 : sh (n + 4) = (20, 720)) (h5 : sh (n + 5) = (20, 720)) : Ct l M_kRows [(2, b)] n C (none, n + 6, kRows b n C) := by
  have hb0 := hb.1
  have hb1 := hb.2.1
  refine ct_of_J (K := fun _ : Unit => (none, n + 6, kRows b n C)) (X := some ()) (L := [(2, b)]) (by decide +kernel) rfl (Nat.le_of_ble_eq_true rfl) ?_ rfl
  unfold kRows
  refine j_aload_n dX5_init_0 rfl rfl ?_
  refine j_objinit dX5_init_1 ko_5 ko_ini ko_cod (by omega) (Nat.le_of_ble_eq_true rfl) ?_
  refine j_aload_n dX5_init_4 rfl rfl ?_
  refine j_iconst dX5_init_5 kr_m1 ?_
  refine k_put dX5_init_6 kf_5_9 kp_5_0 (hb.up (by omega)) (fun _ => nf_int) (by unfold r32; omega) ?_
  refine j_aload_n dX5_init_9 rfl rfl ?_
  refine j_bipush dX5_init_10 kr_6 kb_6 ?_
  refine k_arr (atype := .int) (n2 := n + 1) (q2 := (1, 6)) (N := 6) (t := 0) dX5_init_12 ka_int rfl (by decide) (fun _ => rfl) rfl (fun U cA cB h1 h2 => fc_int h1 h2) (by decide) (Nat.le_of_ble_eq_true rfl) h0 rfl rfl rfl (Nat.le_of_ble_eq_true rfl) (Nat.le_of_ble_eq_true rfl) ?_
  refine k_put dX5_init_14 kf_5_15 kp_5_4 (hb.up (by omega)) (fun _ => nf_arr) (by unfold r32; omega) ?_
  refine j_aload_n dX5_init_17 rfl rfl ?_
  refine j_bipush dX5_init_18 kr_7 kb_7 ?_
  refine k_arr (atype := .int) (n2 := n + 2) (q2 := (2, 13)) (N := 7) (t := 0) dX5_init_20 ka_int rfl (by decide) (fun _ => rfl) rfl (fun U cA cB h1 h2 => fc_int h1 h2) (by decide) (Nat.le_of_ble_eq_true rfl) h1 rfl rfl rfl (Nat.le_of_ble_eq_true rfl) (Nat.le_of_ble_eq_true rfl) ?_
  refine k_put dX5_init_22 kf_5_19 kp_5_5 (hb.up (by omega)) (fun _ => nf_arr) (by unfold r32; omega) ?_
  refine j_aload_n dX5_init_25 rfl rfl ?_
  refine j_sipush dX5_init_26 kr_720 ks_720 ?_
  refine k_arr (atype := .int) (n2 := n + 3) (q2 := (3, 733)) (N := 720) (t := 0) dX5_init_29 ka_int rfl (by decide) (fun _ => rfl) rfl (fun U cA cB h1 h2 => fc_int h1 h2) (by decide) (Nat.le_of_ble_eq_true rfl) h2 rfl rfl rfl (Nat.le_of_ble_eq_true rfl) (Nat.le_of_ble_eq_true rfl) ?_
  refine k_put dX5_init_31 kf_5_22 kp_5_6 (hb.up (by omega)) (fun _ => nf_arr) (by unfold r32; omega) ?_
  refine j_aload_n dX5_init_34 rfl rfl ?_
  refine j_sipush dX5_init_35 kr_720 ks_720 ?_
  refine k_arr (atype := .int) (n2 := n + 4) (q2 := (4, 1453)) (N := 720) (t := 0) dX5_init_38 ka_int rfl (by decide) (fun _ => rfl) rfl (fun U cA cB h1 h2 => fc_int h1 h2) (by decide) (Nat.le_of_ble_eq_true rfl) h3 rfl rfl rfl (Nat.le_of_ble_eq_true rfl) (Nat.le_of_ble_eq_true rfl) ?_
  refine k_put dX5_init_40 kf_5_25 kp_5_7 (hb.up (by omega)) (fun _ => nf_arr) (by unfold r32; omega) ?_
  refine j_aload_n dX5_init_43 rfl rfl ?_
  refine j_sipush dX5_init_44 kr_720 ks_720 ?_
  refine k_arr (atype := .int) (n2 := n + 5) (q2 := (5, 2173)) (N := 720) (t := 0) dX5_init_47 ka_int rfl (by decide) (fun _ => rfl) rfl (fun U cA cB h1 h2 => fc_int h1 h2) (by decide) (Nat.le_of_ble_eq_true rfl) h4 rfl rfl rfl (Nat.le_of_ble_eq_true rfl) (Nat.le_of_ble_eq_true rfl) ?_
  refine k_put dX5_init_49 kf_5_28 kp_5_8 (hb.up (by omega)) (fun _ => nf_arr) (by unfold r32; omega) ?_
  refine j_aload_n dX5_init_52 rfl rfl ?_
  refine j_sipush dX5_init_53 kr_720 ks_720 ?_
  refine k_arr (atype := .int) (n2 := n + 6) (q2 := (6, 2893)) (N := 720) (t := 0) dX5_init_56 ka_int rfl (by decide) (fun _ => rfl) rfl (fun U cA cB h1 h2 => fc_int h1 h2) (by decide) (Nat.le_of_ble_eq_true rfl) h5 rfl rfl rfl (Nat.le_of_ble_eq_true rfl) (Nat.le_of_ble_eq_true rfl) ?_
  refine k_put dX5_init_58 kf_5_31 kp_5_9 (hb.up (by omega)) (fun _ => nf_arr) (by unfold r32; omega) ?_
  exact j_return dX5_init_61 rfl rfl (Nat.le_of_ble_eq_true rfl) (Nat.le_of_ble_eq_true rfl)
def eRows (b : Int) (n : Nat) : List Ev := [(b, 2, 0, (-1)), (((n : Nat) : Int), 1, 0, 0), (b, 2, 4, ((n : Nat) : Int)), (((n + 1 : Nat) : Int), 1, 0, 0), (b, 2, 5, ((n + 1 : Nat) : Int)), (((n + 2 : Nat) : Int), 1, 0, 0), (b, 2, 6, ((n + 2 : Nat) : Int)), (((n + 3 : Nat) : Int), 1, 0, 0), (b, 2, 7, ((n + 3 : Nat) : Int)), (((n + 4 : Nat) : Int), 1, 0, 0), (b, 2, 8, ((n + 4 : Nat) : Int)), (((n + 5 : Nat) : Int), 1, 0, 0), (b, 2, 9, ((n + 5 : Nat) : Int))]
theorem kRows_run (b : Int) (n : Nat) (C : Hp) : kRows b n C = run (eRows b n) C := rfl
theorem kn_10_7 : Cond.classLink RX10 7 RX8 ∈ lw_gt := (gt_in 165 (by decide +kernel) (by decide +kernel))
theorem kl_10_9 : Cond.methodLink RX10 9 M_kTold.y ∈ lw_gt ∨ ∃ host : String, Cond.methodLinkNest RX10 9 M_kTold.y host ∈ lw_ns := Or.inl (gt_in 167 (by decide +kernel) (by decide +kernel))
theorem kf_10_10 : GF RX10 10 10 0 11 2 0 := ⟨⟨_, _, _, cls10, by decide, Or.inl (gt_in 526 (by decide +kernel) (by decide +kernel))⟩, by decide, rfl, rfl, by decide⟩
theorem kp_10_0 : PutOK M_kLine 10 10 0 := fun C T N h => by cases (Option.some.inj h); exact Or.inr ⟨rfl, rfl, rfl, (gt_in 526 (by decide +kernel) (by decide +kernel))⟩
theorem kf_10_16 : GF RX10 16 10 1 11 2 1 := ⟨⟨_, _, _, cls10, by decide, Or.inl (gt_in 527 (by decide +kernel) (by decide +kernel))⟩, by decide, rfl, rfl, by decide⟩
theorem kp_10_1 : PutOK M_kLine 16 10 1 := fun C T N h => by cases (Option.some.inj h); exact Or.inr ⟨rfl, rfl, rfl, (gt_in 527 (by decide +kernel) (by decide +kernel))⟩
theorem kf_10_20 : GF RX10 20 10 2 11 2 2 := ⟨⟨_, _, _, cls10, by decide, Or.inl (gt_in 528 (by decide +kernel) (by decide +kernel))⟩, by decide, rfl, rfl, by decide⟩
theorem kp_10_2 : PutOK M_kLine 20 10 2 := fun C T N h => by cases (Option.some.inj h); exact Or.inr ⟨rfl, rfl, rfl, (gt_in 528 (by decide +kernel) (by decide +kernel))⟩
theorem kn_10_24 : Cond.classLink RX10 24 RX6 ∈ lw_gt := (gt_in 327 (by decide +kernel) (by decide +kernel))
theorem kl_10_26 : Cond.methodLink RX10 26 M_kScan.y ∈ lw_gt ∨ ∃ host : String, Cond.methodLinkNest RX10 26 M_kScan.y host ∈ lw_ns := Or.inr ⟨"ProofLine", (ns_in 329 (by decide +kernel) (by decide +kernel))⟩
theorem kf_10_27 : GF RX10 27 10 3 11 2 3 := ⟨⟨_, _, _, cls10, by decide, Or.inl (gt_in 529 (by decide +kernel) (by decide +kernel))⟩, by decide, rfl, rfl, by decide⟩
theorem kp_10_3 : PutOK M_kLine 27 10 3 := fun C T N h => by cases (Option.some.inj h); exact Or.inr ⟨rfl, rfl, rfl, (gt_in 529 (by decide +kernel) (by decide +kernel))⟩
theorem kn_10_31 : Cond.classLink RX10 31 RX7 ∈ lw_gt := (gt_in 388 (by decide +kernel) (by decide +kernel))
theorem kl_10_33 : Cond.methodLink RX10 33 M_kStand.y ∈ lw_gt ∨ ∃ host : String, Cond.methodLinkNest RX10 33 M_kStand.y host ∈ lw_ns := Or.inr ⟨"ProofLine", (ns_in 390 (by decide +kernel) (by decide +kernel))⟩
theorem kf_10_34 : GF RX10 34 10 4 11 2 4 := ⟨⟨_, _, _, cls10, by decide, Or.inl (gt_in 530 (by decide +kernel) (by decide +kernel))⟩, by decide, rfl, rfl, by decide⟩
theorem kp_10_4 : PutOK M_kLine 34 10 4 := fun C T N h => by cases (Option.some.inj h); exact Or.inr ⟨rfl, rfl, rfl, (gt_in 530 (by decide +kernel) (by decide +kernel))⟩
theorem kn_10_38 : Cond.classLink RX10 38 RX1 ∈ lw_gt := (gt_in 442 (by decide +kernel) (by decide +kernel))
theorem kl_10_40 : Cond.methodLink RX10 40 M_kLots.y ∈ lw_gt ∨ ∃ host : String, Cond.methodLinkNest RX10 40 M_kLots.y host ∈ lw_ns := Or.inr ⟨"ProofLine", (ns_in 444 (by decide +kernel) (by decide +kernel))⟩
theorem kf_10_41 : GF RX10 41 10 5 11 2 5 := ⟨⟨_, _, _, cls10, by decide, Or.inl (gt_in 531 (by decide +kernel) (by decide +kernel))⟩, by decide, rfl, rfl, by decide⟩
theorem kp_10_5 : PutOK M_kLine 41 10 5 := fun C T N h => by cases (Option.some.inj h); exact Or.inr ⟨rfl, rfl, rfl, (gt_in 531 (by decide +kernel) (by decide +kernel))⟩
theorem kn_10_45 : Cond.classLink RX10 45 RX4 ∈ lw_gt := (gt_in 458 (by decide +kernel) (by decide +kernel))
theorem kl_10_47 : Cond.methodLink RX10 47 M_kRounds.y ∈ lw_gt ∨ ∃ host : String, Cond.methodLinkNest RX10 47 M_kRounds.y host ∈ lw_ns := Or.inr ⟨"ProofLine", (ns_in 460 (by decide +kernel) (by decide +kernel))⟩
theorem kf_10_48 : GF RX10 48 10 6 11 2 6 := ⟨⟨_, _, _, cls10, by decide, Or.inl (gt_in 532 (by decide +kernel) (by decide +kernel))⟩, by decide, rfl, rfl, by decide⟩
theorem kp_10_6 : PutOK M_kLine 48 10 6 := fun C T N h => by cases (Option.some.inj h); exact Or.inr ⟨rfl, rfl, rfl, (gt_in 532 (by decide +kernel) (by decide +kernel))⟩
theorem kn_10_52 : Cond.classLink RX10 52 RX5 ∈ lw_gt := (gt_in 480 (by decide +kernel) (by decide +kernel))
theorem kl_10_54 : Cond.methodLink RX10 54 M_kRows.y ∈ lw_gt ∨ ∃ host : String, Cond.methodLinkNest RX10 54 M_kRows.y host ∈ lw_ns := Or.inr ⟨"ProofLine", (ns_in 482 (by decide +kernel) (by decide +kernel))⟩
theorem kf_10_55 : GF RX10 55 10 7 11 2 7 := ⟨⟨_, _, _, cls10, by decide, Or.inl (gt_in 533 (by decide +kernel) (by decide +kernel))⟩, by decide, rfl, rfl, by decide⟩
theorem kp_10_7 : PutOK M_kLine 55 10 7 := fun C T N h => by cases (Option.some.inj h); exact Or.inr ⟨rfl, rfl, rfl, (gt_in 533 (by decide +kernel) (by decide +kernel))⟩
theorem kn_10_59 : Cond.classLink RX10 59 RX2 ∈ lw_gt := (gt_in 524 (by decide +kernel) (by decide +kernel))
theorem kl_10_61 : Cond.methodLink RX10 61 M_kNet.y ∈ lw_gt ∨ ∃ host : String, Cond.methodLinkNest RX10 61 M_kNet.y host ∈ lw_ns := Or.inr ⟨"ProofLine", (ns_in 525 (by decide +kernel) (by decide +kernel))⟩
theorem kf_10_62 : GF RX10 62 10 8 11 2 8 := ⟨⟨_, _, _, cls10, by decide, Or.inl (gt_in 534 (by decide +kernel) (by decide +kernel))⟩, by decide, rfl, rfl, by decide⟩
theorem kp_10_8 : PutOK M_kLine 62 10 8 := fun C T N h => by cases (Option.some.inj h); exact Or.inr ⟨rfl, rfl, rfl, (gt_in 534 (by decide +kernel) (by decide +kernel))⟩
theorem kf_10_66 : GF RX10 66 10 9 11 2 9 := ⟨⟨_, _, _, cls10, by decide, Or.inl (gt_in 535 (by decide +kernel) (by decide +kernel))⟩, by decide, rfl, rfl, by decide⟩
theorem kp_10_9 : PutOK M_kLine 66 10 9 := fun C T N h => by cases (Option.some.inj h); exact Or.inr ⟨rfl, rfl, rfl, (gt_in 535 (by decide +kernel) (by decide +kernel))⟩
theorem kb_36 : (Int8.ofInt 36).toInt32 = I32 36 := by decide +kernel
theorem kr_36 : r32 36 := by unfold r32; omega
theorem kf_10_70 : GF RX10 70 10 10 11 2 10 := ⟨⟨_, _, _, cls10, by decide, Or.inl (gt_in 536 (by decide +kernel) (by decide +kernel))⟩, by decide, rfl, rfl, by decide⟩
theorem kp_10_10 : PutOK M_kLine 70 10 10 := fun C T N h => by cases (Option.some.inj h); exact Or.inr ⟨rfl, rfl, rfl, (gt_in 536 (by decide +kernel) (by decide +kernel))⟩
theorem ky_kLine : YOK M_kLine 0 := ⟨(gt_in 161 (by decide +kernel) (by decide +kernel)), kz_10, by decide +kernel⟩
theorem kt_kLine : Cond.instanceMethod M_kLine.y ∈ lw_gt := (gt_in 160 (by decide +kernel) (by decide +kernel))
def kLine (b : Int) (n : Nat) (C : Hp) : Hp := upd2 (kTold ((n + 164 : Nat) : Int) (n + 165) (newC (upd2 (kTold ((n + 128 : Nat) : Int) (n + 129) (newC (upd2 (kTold ((n + 92 : Nat) : Int) (n + 93) (newC (upd2 (newC (upd2 (newC (upd2 (kNet ((n + 86 : Nat) : Int) (n + 87) (newC (upd2 (kRows ((n + 79 : Nat) : Int) (n + 80) (newC (upd2 (kRounds ((n + 77 : Nat) : Int) (n + 78) (newC (upd2 (kLots ((n + 72 : Nat) : Int) (n + 73) (newC (upd2 (kStand ((n + 56 : Nat) : Int) (n + 57) (newC (upd2 (kScan ((n + 38 : Nat) : Int) (n + 39) (newC (upd2 (newC (upd2 (newC (upd2 (kTold ((n : Nat) : Int) (n + 1) (newC (C) ((n : Nat) : Int) (dflt 8))) b 0 ((n : Nat) : Int)) ((n + 36 : Nat) : Int) (fun _ => -1)) b 1 ((n + 36 : Nat) : Int)) ((n + 37 : Nat) : Int) (fun _ => 0)) b 2 ((n + 37 : Nat) : Int)) ((n + 38 : Nat) : Int) (dflt 6))) b 3 ((n + 38 : Nat) : Int)) ((n + 56 : Nat) : Int) (dflt 7))) b 4 ((n + 56 : Nat) : Int)) ((n + 72 : Nat) : Int) (dflt 1))) b 5 ((n + 72 : Nat) : Int)) ((n + 77 : Nat) : Int) (dflt 4))) b 6 ((n + 77 : Nat) : Int)) ((n + 79 : Nat) : Int) (dflt 5))) b 7 ((n + 79 : Nat) : Int)) ((n + 86 : Nat) : Int) (dflt 2))) b 8 ((n + 86 : Nat) : Int)) ((n + 90 : Nat) : Int) (fun _ => 0)) b 9 ((n + 90 : Nat) : Int)) ((n + 91 : Nat) : Int) (fun _ => 0)) b 10 ((n + 91 : Nat) : Int)) ((n + 92 : Nat) : Int) (dflt 8))) ((n + 36 : Nat) : Int) 0 ((n + 92 : Nat) : Int)) ((n + 128 : Nat) : Int) (dflt 8))) ((n + 36 : Nat) : Int) 1 ((n + 128 : Nat) : Int)) ((n + 164 : Nat) : Int) (dflt 8))) ((n + 36 : Nat) : Int) 2 ((n + 164 : Nat) : Int)
theorem kLine_ne {b : Int} {n : Nat} {C : Hp} {a : Int} (h1 : a ≠ b) (h2 : a < (n : Int)) : kLine b n C a = C a := by
  unfold kLine
  rw [upd2_ne (by omega), kTold_ne (by omega) (by omega), newC_ne (by omega), upd2_ne (by omega), kTold_ne (by omega) (by omega), newC_ne (by omega), upd2_ne (by omega), kTold_ne (by omega) (by omega), newC_ne (by omega), upd2_ne (by omega), newC_ne (by omega), upd2_ne (by omega), newC_ne (by omega), upd2_ne (by omega), kNet_ne (by omega) (by omega), newC_ne (by omega), upd2_ne (by omega), kRows_ne (by omega) (by omega), newC_ne (by omega), upd2_ne (by omega), kRounds_ne (by omega) (by omega), newC_ne (by omega), upd2_ne (by omega), kLots_ne (by omega) (by omega), newC_ne (by omega), upd2_ne (by omega), kStand_ne (by omega) (by omega), newC_ne (by omega), upd2_ne (by omega), kScan_ne (by omega) (by omega), newC_ne (by omega), upd2_ne (by omega), newC_ne (by omega), upd2_ne (by omega), newC_ne (by omega), upd2_ne (by omega), kTold_ne (by omega) (by omega), newC_ne (by omega)]
set_option maxRecDepth 100000 in
theorem kLine_ct {l : Launch} {b : Int} {n : Nat} {C : Hp} (hb : OB n b 10 11) (hn : n < 800) (h0 : sh (n) = (8, 8)) (h1 : sh (n + 1) = (21, 600)) (h2 : sh (n + 2) = (20, 3)) (h3 : sh (n + 3) = (23, 2)) (h4 : sh (n + 4) = (24, 2)) (h5 : sh (n + 5) = (25, 2)) (h6 : sh (n + 6) = (3, 7)) (h7 : sh (n + 7) = (2, 4)) (h8 : sh (n + 8) = (20, 10)) (h9 : sh (n + 9) = (20, 100)) (h10 : sh (n + 10) = (20, 100)) (h11 : sh (n + 11) = (20, 6)) (h12 : sh (n + 12) = (20, 6)) (h13 : sh (n + 13) = (20, 48)) (h14 : sh (n + 14) = (9, 4)) (h15 : sh (n + 15) = (20, 60)) (h16 : sh (n + 16) = (20, 60)) (h17 : sh (n + 17) = (20, 60)) (h18 : sh (n + 18) = (0, 3)) (h19 : sh (n + 19) = (20, 8)) (h20 : sh (n + 20) = (20, 8)) (h21 : sh (n + 21) = (3, 7)) (h22 : sh (n + 22) = (2, 4)) (h23 : sh (n + 23) = (20, 10)) (h24 : sh (n + 24) = (20, 100)) (h25 : sh (n + 25) = (20, 100)) (h26 : sh (n + 26) = (20, 6)) (h27 : sh (n + 27) = (20, 6)) (h28 : sh (n + 28) = (20, 48)) (h29 : sh (n + 29) = (9, 4)) (h30 : sh (n + 30) = (20, 60)) (h31 : sh (n + 31) = (20, 60)) (h32 : sh (n + 32) = (20, 60)) (h33 : sh (n + 33) = (0, 3)) (h34 : sh (n + 34) = (20, 8)) (h35 : sh (n + 35) = (20, 8)) (h36 : sh (n + 36) = (26, 3)) (h37 : sh (n + 37) = (22, 3)) (h38 : sh (n + 38) = (6, 14)) (h39 : sh (n + 39) = (3, 7)) (h40 : sh (n + 40) = (2, 4)) (h41 : sh (n + 41) = (20, 10)) (h42 : sh (n + 42) = (20, 100)) (h43 : sh (n + 43) = (20, 100)) (h44 : sh (n + 44) = (20, 6)) (h45 : sh (n + 45) = (20, 6)) (h46 : sh (n + 46) = (20, 48)) (h47 : sh (n + 47) = (9, 4)) (h48 : sh (n + 48) = (20, 60)) (h49 : sh (n + 49) = (20, 60)) (h50 : sh (n + 50) = (20, 60)) (h51 : sh (n + 51) = (0, 3)) (h52 : sh (n + 52) = (20, 8)) (h53 : sh (n + 53) = (20, 8)) (h54 : sh (n + 54) = (21, 600)) (h55 : sh (n + 55) = (20, 3)) (h56 : sh (n + 56) = (7, 13)) (h57 : sh (n + 57) = (3, 7)) (h58 : sh (n + 58) = (2, 4)) (h59 : sh (n + 59) = (20, 10)) (h60 : sh (n + 60) = (20, 100)) (h61 : sh (n + 61) = (20, 100)) (h62 : sh (n + 62) = (20, 6)) (h63 : sh (n + 63) = (20, 6)) (h64 : sh (n + 64) = (20, 48)) (h65 : sh (n + 65) = (2, 4)) (h66 : sh (n + 66) = (20, 10)) (h67 : sh (n + 67) = (20, 100)) (h68 : sh (n + 68) = (20, 100)) (h69 : sh (n + 69) = (20, 6)) (h70 : sh (n + 70) = (20, 6)) (h71 : sh (n + 71) = (20, 60)) (h72 : sh (n + 72) = (1, 2)) (h73 : sh (n + 73) = (9, 4)) (h74 : sh (n + 74) = (20, 60)) (h75 : sh (n + 75) = (20, 60)) (h76 : sh (n + 76) = (20, 60)) (h77 : sh (n + 77) = (4, 4)) (h78 : sh (n + 78) = (20, 61)) (h79 : sh (n + 79) = (5, 11)) (h80 : sh (n + 80) = (20, 6)) (h81 : sh (n + 81) = (20, 7)) (h82 : sh (n + 82) = (20, 720)) (h83 : sh (n + 83) = (20, 720)) (h84 : sh (n + 84) = (20, 720)) (h85 : sh (n + 85) = (20, 720)) (h86 : sh (n + 86) = (2, 4)) (h87 : sh (n + 87) = (20, 10)) (h88 : sh (n + 88) = (20, 100)) (h89 : sh (n + 89) = (20, 100)) (h90 : sh (n + 90) = (20, 10)) (h91 : sh (n + 91) = (20, 36)) (h92 : sh (n + 92) = (8, 8)) (h93 : sh (n + 93) = (21, 600)) (h94 : sh (n + 94) = (20, 3)) (h95 : sh (n + 95) = (23, 2)) (h96 : sh (n + 96) = (24, 2)) (h97 : sh (n + 97) = (25, 2)) (h98 : sh (n + 98) = (3, 7)) (h99 : sh (n + 99) = (2, 4)) (h100 : sh (n + 100) = (20, 10)) (h101 : sh (n + 101) = (20, 100)) (h102 : sh (n + 102) = (20, 100)) (h103 : sh (n + 103) = (20, 6)) (h104 : sh (n + 104) = (20, 6)) (h105 : sh (n + 105) = (20, 48)) (h106 : sh (n + 106) = (9, 4)) (h107 : sh (n + 107) = (20, 60)) (h108 : sh (n + 108) = (20, 60)) (h109 : sh (n + 109) = (20, 60)) (h110 : sh (n + 110) = (0, 3)) (h111 : sh (n + 111) = (20, 8)) (h112 : sh (n + 112) = (20, 8)) (h113 : sh (n + 113) = (3, 7)) (h114 : sh (n + 114) = (2, 4)) (h115 : sh (n + 115) = (20, 10)) (h116 : sh (n + 116) = (20, 100)) (h117 : sh (n + 117) = (20, 100)) (h118 : sh (n + 118) = (20, 6)) (h119 : sh (n + 119) = (20, 6)) (h120 : sh (n + 120) = (20, 48)) (h121 : sh (n + 121) = (9, 4)) (h122 : sh (n + 122) = (20, 60)) (h123 : sh (n + 123) = (20, 60)) (h124 : sh (n + 124) = (20, 60)) (h125 : sh (n + 125) = (0, 3)) (h126 : sh (n + 126) = (20, 8)) (h127 : sh (n + 127) = (20, 8)) (h128 : sh (n + 128) = (8, 8)) (h129 : sh (n + 129) = (21, 600)) (h130 : sh (n + 130) = (20, 3)) (h131 : sh (n + 131) = (23, 2)) (h132 : sh (n + 132) = (24, 2)) (h133 : sh (n + 133) = (25, 2)) (h134 : sh (n + 134) = (3, 7)) (h135 : sh (n + 135) = (2, 4)) (h136 : sh (n + 136) = (20, 10)) (h137 : sh (n + 137) = (20, 100)) (h138 : sh (n + 138) = (20, 100)) (h139 : sh (n + 139) = (20, 6)) (h140 : sh (n + 140) = (20, 6)) (h141 : sh (n + 141) = (20, 48)) (h142 : sh (n + 142) = (9, 4)) (h143 : sh (n + 143) = (20, 60)) (h144 : sh (n + 144) = (20, 60)) (h145 : sh (n + 145) = (20, 60)) (h146 : sh (n + 146) = (0, 3)) (h147 : sh (n + 147) = (20, 8)) (h148 : sh (n + 148) = (20, 8)) (h149 : sh (n + 149) = (3, 7)) (h150 : sh (n + 150) = (2, 4)) (h151 : sh (n + 151) = (20, 10)) (h152 : sh (n + 152) = (20, 100)) (h153 : sh (n + 153) = (20, 100)) (h154 : sh (n + 154) = (20, 6)) (h155 : sh (n + 155) = (20, 6)) (h156 : sh (n + 156) = (20, 48)) (h157 : sh (n + 157) = (9, 4)) (h158 : sh (n + 158) = (20, 60)) (h159 : sh (n + 159) = (20, 60)) (h160 : sh (n + 160) = (20, 60)) (h161 : sh (n + 161) = (0, 3)) (h162 : sh (n + 162) = (20, 8)) (h163 : sh (n + 163) = (20, 8)) (h164 : sh (n + 164) = (8, 8)) (h165 : sh (n + 165) = (21, 600)) (h166 : sh (n + 166) = (20, 3)) (h167 : sh (n + 167) = (23, 2)) (h168 : sh (n + 168) = (24, 2)) (h169 : sh (n + 169) = (25, 2)) (h170 : sh (n + 170) = (3, 7)) (h171 : sh (n + 171) = (2, 4)) (h172 : sh (n + 172) = (20, 10)) (h173 : sh (n + 173) = (20, 100)) (h174 : sh (n + 174) = (20, 100)) (h175 : sh (n + 175) = (20, 6)) (h176 : sh (n + 176) = (20, 6)) (h177 : sh (n + 177) = (20, 48)) (h178 : sh (n + 178) = (9, 4)) (h179 : sh (n + 179) = (20, 60)) (h180 : sh (n + 180) = (20, 60)) (h181 : sh (n + 181) = (20, 60)) (h182 : sh (n + 182) = (0, 3)) (h183 : sh (n + 183) = (20, 8)) (h184 : sh (n + 184) = (20, 8)) (h185 : sh (n + 185) = (3, 7)) (h186 : sh (n + 186) = (2, 4)) (h187 : sh (n + 187) = (20, 10)) (h188 : sh (n + 188) = (20, 100)) (h189 : sh (n + 189) = (20, 100)) (h190 : sh (n + 190) = (20, 6)) (h191 : sh (n + 191) = (20, 6)) (h192 : sh (n + 192) = (20, 48)) (h193 : sh (n + 193) = (9, 4)) (h194 : sh (n + 194) = (20, 60)) (h195 : sh (n + 195) = (20, 60)) (h196 : sh (n + 196) = (20, 60)) (h197 : sh (n + 197) = (0, 3)) (h198 : sh (n + 198) = (20, 8)) (h199 : sh (n + 199) = (20, 8)) : Ct l M_kLine [(2, b)] n C (none, n + 200, kLine b n C) := by
  have hb0 := hb.1
  have hb1 := hb.2.1
  refine ct_of_J (K := fun _ : Unit => (none, n + 200, kLine b n C)) (X := some ()) (L := [(2, b), (9, 0)]) (by decide +kernel) rfl (Nat.le_of_ble_eq_true rfl) ?_ rfl
  unfold kLine
  refine j_aload_n dX10_init_0 rfl rfl ?_
  refine j_objinit dX10_init_1 ko_10 ko_ini ko_cod (by omega) (Nat.le_of_ble_eq_true rfl) ?_
  refine j_aload_n dX10_init_4 rfl rfl ?_
  refine k_new (n2 := n + 1) (q2 := (1, 8)) dX10_init_5 cls8 kn_10_7 ki_8 kz_8 kd_8 h0 rfl rfl (Nat.le_of_ble_eq_true rfl) (Nat.le_of_ble_eq_true rfl) ?_
  refine j_dup dX10_init_8 (by decide) ?_
  refine k_call (n2 := n + 36) (q2 := (36, 1585)) dX10_init_9 ky_kTold kl_10_9 kt_kTold rfl rfl (by omega) ⟨by decide, by decide⟩ (Nat.le_of_ble_eq_true rfl) rfl rfl (Nat.le_of_ble_eq_true rfl) (Nat.le_of_ble_eq_true rfl) (kTold_ct (ob_at (h0) (by omega)) (by omega) h1 h2 h3 h4 h5 h6 h7 h8 h9 h10 h11 h12 h13 h14 h15 h16 h17 h18 h19 h20 h21 h22 h23 h24 h25 h26 h27 h28 h29 h30 h31 h32 h33 h34 h35) ?_
  refine k_put dX10_init_12 kf_10_10 kp_10_0 (hb.up (by omega)) (fun _ => nf_obj) (by unfold r32; omega) ?_
  refine j_aload_n dX10_init_15 rfl rfl ?_
  refine j_iconst dX10_init_16 kr_3 ?_
  refine k_anew (n2 := n + 37) (q2 := (37, 1588)) (N := 3) (t := 3) dX10_init_17 kn_10_7 kv_8 (by decide) (fun _ => rfl) (Nat.le_of_ble_eq_true rfl) h36 rfl rfl rfl (Nat.le_of_ble_eq_true rfl) (Nat.le_of_ble_eq_true rfl) ?_
  refine k_put dX10_init_20 kf_10_16 kp_10_1 (hb.up (by omega)) (fun _ => nf_arr) (by unfold r32; omega) ?_
  refine j_aload_n dX10_init_23 rfl rfl ?_
  refine j_iconst dX10_init_24 kr_3 ?_
  refine k_arr (atype := .boolean) (n2 := n + 38) (q2 := (38, 1591)) (N := 3) (t := 2) dX10_init_25 ka_boolean rfl (by decide) (fun _ => rfl) rfl (fun U cA cB h1 h2 => fc_boolean h1 h2) (by decide) (Nat.le_of_ble_eq_true rfl) h37 rfl rfl rfl (Nat.le_of_ble_eq_true rfl) (Nat.le_of_ble_eq_true rfl) ?_
  refine k_put dX10_init_27 kf_10_20 kp_10_2 (hb.up (by omega)) (fun _ => nf_arr) (by unfold r32; omega) ?_
  refine j_aload_n dX10_init_30 rfl rfl ?_
  refine k_new (n2 := n + 39) (q2 := (39, 1605)) dX10_init_31 cls6 kn_10_24 ki_6 kz_6 kd_6 h38 rfl rfl (Nat.le_of_ble_eq_true rfl) (Nat.le_of_ble_eq_true rfl) ?_
  refine j_dup dX10_init_34 (by decide) ?_
  refine k_call (n2 := n + 56) (q2 := (56, 2692)) dX10_init_35 ky_kScan kl_10_26 kt_kScan rfl rfl (by omega) ⟨by decide, by decide⟩ (Nat.le_of_ble_eq_true rfl) rfl rfl (Nat.le_of_ble_eq_true rfl) (Nat.le_of_ble_eq_true rfl) (kScan_ct (ob_at (h38) (by omega)) (by omega) h39 h40 h41 h42 h43 h44 h45 h46 h47 h48 h49 h50 h51 h52 h53 h54 h55) ?_
  refine k_put dX10_init_38 kf_10_27 kp_10_3 (hb.up (by omega)) (fun _ => nf_obj) (by unfold r32; omega) ?_
  refine j_aload_n dX10_init_41 rfl rfl ?_
  refine k_new (n2 := n + 57) (q2 := (57, 2705)) dX10_init_42 cls7 kn_10_31 ki_7 kz_7 kd_7 h56 rfl rfl (Nat.le_of_ble_eq_true rfl) (Nat.le_of_ble_eq_true rfl) ?_
  refine j_dup dX10_init_45 (by decide) ?_
  refine k_call (n2 := n + 72) (q2 := (72, 3272)) dX10_init_46 ky_kStand kl_10_33 kt_kStand rfl rfl (by omega) ⟨by decide, by decide⟩ (Nat.le_of_ble_eq_true rfl) rfl rfl (Nat.le_of_ble_eq_true rfl) (Nat.le_of_ble_eq_true rfl) (kStand_ct (ob_at (h56) (by omega)) (by omega) h57 h58 h59 h60 h61 h62 h63 h64 h65 h66 h67 h68 h69 h70 h71) ?_
  refine k_put dX10_init_49 kf_10_34 kp_10_4 (hb.up (by omega)) (fun _ => nf_obj) (by unfold r32; omega) ?_
  refine j_aload_n dX10_init_52 rfl rfl ?_
  refine k_new (n2 := n + 73) (q2 := (73, 3274)) dX10_init_53 cls1 kn_10_38 ki_1 kz_1 kd_1 h72 rfl rfl (Nat.le_of_ble_eq_true rfl) (Nat.le_of_ble_eq_true rfl) ?_
  refine j_dup dX10_init_56 (by decide) ?_
  refine k_call (n2 := n + 77) (q2 := (77, 3458)) dX10_init_57 ky_kLots kl_10_40 kt_kLots rfl rfl (by omega) ⟨by decide, by decide⟩ (Nat.le_of_ble_eq_true rfl) rfl rfl (Nat.le_of_ble_eq_true rfl) (Nat.le_of_ble_eq_true rfl) (kLots_ct (ob_at (h72) (by omega)) (by omega) h73 h74 h75 h76) ?_
  refine k_put dX10_init_60 kf_10_41 kp_10_5 (hb.up (by omega)) (fun _ => nf_obj) (by unfold r32; omega) ?_
  refine j_aload_n dX10_init_63 rfl rfl ?_
  refine k_new (n2 := n + 78) (q2 := (78, 3462)) dX10_init_64 cls4 kn_10_45 ki_4 kz_4 kd_4 h77 rfl rfl (Nat.le_of_ble_eq_true rfl) (Nat.le_of_ble_eq_true rfl) ?_
  refine j_dup dX10_init_67 (by decide) ?_
  refine k_call (n2 := n + 79) (q2 := (79, 3523)) dX10_init_68 ky_kRounds kl_10_47 kt_kRounds rfl rfl (by omega) ⟨by decide, by decide⟩ (Nat.le_of_ble_eq_true rfl) rfl rfl (Nat.le_of_ble_eq_true rfl) (Nat.le_of_ble_eq_true rfl) (kRounds_ct (ob_at (h77) (by omega)) (by omega) h78) ?_
  refine k_put dX10_init_71 kf_10_48 kp_10_6 (hb.up (by omega)) (fun _ => nf_obj) (by unfold r32; omega) ?_
  refine j_aload_n dX10_init_74 rfl rfl ?_
  refine k_new (n2 := n + 80) (q2 := (80, 3534)) dX10_init_75 cls5 kn_10_52 ki_5 kz_5 kd_5 h79 rfl rfl (Nat.le_of_ble_eq_true rfl) (Nat.le_of_ble_eq_true rfl) ?_
  refine j_dup dX10_init_78 (by decide) ?_
  refine k_call (n2 := n + 86) (q2 := (86, 6427)) dX10_init_79 ky_kRows kl_10_54 kt_kRows rfl rfl (by omega) ⟨by decide, by decide⟩ (Nat.le_of_ble_eq_true rfl) rfl rfl (Nat.le_of_ble_eq_true rfl) (Nat.le_of_ble_eq_true rfl) (kRows_ct (ob_at (h79) (by omega)) (by omega) h80 h81 h82 h83 h84 h85) ?_
  refine k_put dX10_init_82 kf_10_55 kp_10_7 (hb.up (by omega)) (fun _ => nf_obj) (by unfold r32; omega) ?_
  refine j_aload_n dX10_init_85 rfl rfl ?_
  refine k_new (n2 := n + 87) (q2 := (87, 6431)) dX10_init_86 cls2 kn_10_59 ki_2 kz_2 kd_2 h86 rfl rfl (Nat.le_of_ble_eq_true rfl) (Nat.le_of_ble_eq_true rfl) ?_
  refine j_dup dX10_init_89 (by decide) ?_
  refine k_call (n2 := n + 90) (q2 := (90, 6641)) dX10_init_90 ky_kNet kl_10_61 kt_kNet rfl rfl (by omega) ⟨by decide, by decide⟩ (Nat.le_of_ble_eq_true rfl) rfl rfl (Nat.le_of_ble_eq_true rfl) (Nat.le_of_ble_eq_true rfl) (kNet_ct (ob_at (h86) (by omega)) (by omega) h87 h88 h89) ?_
  refine k_put dX10_init_93 kf_10_62 kp_10_8 (hb.up (by omega)) (fun _ => nf_obj) (by unfold r32; omega) ?_
  refine j_aload_n dX10_init_96 rfl rfl ?_
  refine j_bipush dX10_init_97 kr_10 kb_10 ?_
  refine k_arr (atype := .int) (n2 := n + 91) (q2 := (91, 6651)) (N := 10) (t := 0) dX10_init_99 ka_int rfl (by decide) (fun _ => rfl) rfl (fun U cA cB h1 h2 => fc_int h1 h2) (by decide) (Nat.le_of_ble_eq_true rfl) h90 rfl rfl rfl (Nat.le_of_ble_eq_true rfl) (Nat.le_of_ble_eq_true rfl) ?_
  refine k_put dX10_init_101 kf_10_66 kp_10_9 (hb.up (by omega)) (fun _ => nf_arr) (by unfold r32; omega) ?_
  refine j_aload_n dX10_init_104 rfl rfl ?_
  refine j_bipush dX10_init_105 kr_36 kb_36 ?_
  refine k_arr (atype := .int) (n2 := n + 92) (q2 := (92, 6687)) (N := 36) (t := 0) dX10_init_107 ka_int rfl (by decide) (fun _ => rfl) rfl (fun U cA cB h1 h2 => fc_int h1 h2) (by decide) (Nat.le_of_ble_eq_true rfl) h91 rfl rfl rfl (Nat.le_of_ble_eq_true rfl) (Nat.le_of_ble_eq_true rfl) ?_
  refine k_put dX10_init_109 kf_10_70 kp_10_10 (hb.up (by omega)) (fun _ => nf_arr) (by unfold r32; omega) ?_
  refine j_iconst dX10_init_112 kr_0 ?_
  refine j_istore_n dX10_init_113 rfl (Nat.le_of_ble_eq_true rfl) rfl ?_
  refine j_iload_n dX10_init_114 rfl rfl ?_
  refine j_iconst dX10_init_115 kr_3 ?_
  refine k_ge_no (tgt := 138) dX10_init_116 rfl (by decide) ?_
  refine j_aload_n dX10_init_119 rfl rfl ?_
  refine k_get (z := ((n + 36 : Nat) : Int)) dX10_init_120 kf_10_16 (hb.up (by omega)) (by rw [upd2_nj (by omega), newC_ne (by omega), upd2_nj (by omega), newC_ne (by omega), upd2_nj (by omega), kNet_ne (by omega) (by omega), newC_ne (by omega), upd2_nj (by omega), kRows_ne (by omega) (by omega), newC_ne (by omega), upd2_nj (by omega), kRounds_ne (by omega) (by omega), newC_ne (by omega), upd2_nj (by omega), kLots_ne (by omega) (by omega), newC_ne (by omega), upd2_nj (by omega), kStand_ne (by omega) (by omega), newC_ne (by omega), upd2_nj (by omega), kScan_ne (by omega) (by omega), newC_ne (by omega), upd2_nj (by omega), newC_ne (by omega), upd2_self]) ?_
  refine j_iload_n dX10_init_123 rfl rfl ?_
  refine k_new (n2 := n + 93) (q2 := (93, 6695)) dX10_init_124 cls8 kn_10_7 ki_8 kz_8 kd_8 h92 rfl rfl (Nat.le_of_ble_eq_true rfl) (Nat.le_of_ble_eq_true rfl) ?_
  refine j_dup dX10_init_127 (by decide) ?_
  refine k_call (n2 := n + 128) (q2 := (128, 8272)) dX10_init_128 ky_kTold kl_10_9 kt_kTold rfl rfl (by omega) ⟨by decide, by decide⟩ (Nat.le_of_ble_eq_true rfl) rfl rfl (Nat.le_of_ble_eq_true rfl) (Nat.le_of_ble_eq_true rfl) (kTold_ct (ob_at (h92) (by omega)) (by omega) h93 h94 h95 h96 h97 h98 h99 h100 h101 h102 h103 h104 h105 h106 h107 h108 h109 h110 h111 h112 h113 h114 h115 h116 h117 h118 h119 h120 h121 h122 h123 h124 h125 h126 h127) ?_
  refine j_aast (t := 3) dX10_init_131 (ob_at (h36) (by omega)) cls8 (fun _ => rfl) (ob_at (h92) (by omega)) (by unfold r32; omega) (by decide) (by decide) ?_
  refine k_iinc (z2 := 1) dX10_init_132 rfl (by decide +kernel) (Nat.le_of_ble_eq_true rfl) rfl ?_
  refine j_goto (tgt := 114) dX10_init_135 rfl ?_
  refine j_iload_n dX10_init_114 rfl rfl ?_
  refine j_iconst dX10_init_115 kr_3 ?_
  refine k_ge_no (tgt := 138) dX10_init_116 rfl (by decide) ?_
  refine j_aload_n dX10_init_119 rfl rfl ?_
  refine k_get (z := ((n + 36 : Nat) : Int)) dX10_init_120 kf_10_16 (hb.up (by omega)) (by rw [upd2_ne (by omega), kTold_ne (by omega) (by omega), newC_ne (by omega), upd2_nj (by omega), newC_ne (by omega), upd2_nj (by omega), newC_ne (by omega), upd2_nj (by omega), kNet_ne (by omega) (by omega), newC_ne (by omega), upd2_nj (by omega), kRows_ne (by omega) (by omega), newC_ne (by omega), upd2_nj (by omega), kRounds_ne (by omega) (by omega), newC_ne (by omega), upd2_nj (by omega), kLots_ne (by omega) (by omega), newC_ne (by omega), upd2_nj (by omega), kStand_ne (by omega) (by omega), newC_ne (by omega), upd2_nj (by omega), kScan_ne (by omega) (by omega), newC_ne (by omega), upd2_nj (by omega), newC_ne (by omega), upd2_self]) ?_
  refine j_iload_n dX10_init_123 rfl rfl ?_
  refine k_new (n2 := n + 129) (q2 := (129, 8280)) dX10_init_124 cls8 kn_10_7 ki_8 kz_8 kd_8 h128 rfl rfl (Nat.le_of_ble_eq_true rfl) (Nat.le_of_ble_eq_true rfl) ?_
  refine j_dup dX10_init_127 (by decide) ?_
  refine k_call (n2 := n + 164) (q2 := (164, 9857)) dX10_init_128 ky_kTold kl_10_9 kt_kTold rfl rfl (by omega) ⟨by decide, by decide⟩ (Nat.le_of_ble_eq_true rfl) rfl rfl (Nat.le_of_ble_eq_true rfl) (Nat.le_of_ble_eq_true rfl) (kTold_ct (ob_at (h128) (by omega)) (by omega) h129 h130 h131 h132 h133 h134 h135 h136 h137 h138 h139 h140 h141 h142 h143 h144 h145 h146 h147 h148 h149 h150 h151 h152 h153 h154 h155 h156 h157 h158 h159 h160 h161 h162 h163) ?_
  refine j_aast (t := 3) dX10_init_131 (ob_at (h36) (by omega)) cls8 (fun _ => rfl) (ob_at (h128) (by omega)) (by unfold r32; omega) (by decide) (by decide) ?_
  refine k_iinc (z2 := 2) dX10_init_132 rfl (by decide +kernel) (Nat.le_of_ble_eq_true rfl) rfl ?_
  refine j_goto (tgt := 114) dX10_init_135 rfl ?_
  refine j_iload_n dX10_init_114 rfl rfl ?_
  refine j_iconst dX10_init_115 kr_3 ?_
  refine k_ge_no (tgt := 138) dX10_init_116 rfl (by decide) ?_
  refine j_aload_n dX10_init_119 rfl rfl ?_
  refine k_get (z := ((n + 36 : Nat) : Int)) dX10_init_120 kf_10_16 (hb.up (by omega)) (by rw [upd2_ne (by omega), kTold_ne (by omega) (by omega), newC_ne (by omega), upd2_ne (by omega), kTold_ne (by omega) (by omega), newC_ne (by omega), upd2_nj (by omega), newC_ne (by omega), upd2_nj (by omega), newC_ne (by omega), upd2_nj (by omega), kNet_ne (by omega) (by omega), newC_ne (by omega), upd2_nj (by omega), kRows_ne (by omega) (by omega), newC_ne (by omega), upd2_nj (by omega), kRounds_ne (by omega) (by omega), newC_ne (by omega), upd2_nj (by omega), kLots_ne (by omega) (by omega), newC_ne (by omega), upd2_nj (by omega), kStand_ne (by omega) (by omega), newC_ne (by omega), upd2_nj (by omega), kScan_ne (by omega) (by omega), newC_ne (by omega), upd2_nj (by omega), newC_ne (by omega), upd2_self]) ?_
  refine j_iload_n dX10_init_123 rfl rfl ?_
  refine k_new (n2 := n + 165) (q2 := (165, 9865)) dX10_init_124 cls8 kn_10_7 ki_8 kz_8 kd_8 h164 rfl rfl (Nat.le_of_ble_eq_true rfl) (Nat.le_of_ble_eq_true rfl) ?_
  refine j_dup dX10_init_127 (by decide) ?_
  refine k_call (n2 := n + 200) (q2 := (200, 11442)) dX10_init_128 ky_kTold kl_10_9 kt_kTold rfl rfl (by omega) ⟨by decide, by decide⟩ (Nat.le_of_ble_eq_true rfl) rfl rfl (Nat.le_of_ble_eq_true rfl) (Nat.le_of_ble_eq_true rfl) (kTold_ct (ob_at (h164) (by omega)) (by omega) h165 h166 h167 h168 h169 h170 h171 h172 h173 h174 h175 h176 h177 h178 h179 h180 h181 h182 h183 h184 h185 h186 h187 h188 h189 h190 h191 h192 h193 h194 h195 h196 h197 h198 h199) ?_
  refine j_aast (t := 3) dX10_init_131 (ob_at (h36) (by omega)) cls8 (fun _ => rfl) (ob_at (h164) (by omega)) (by unfold r32; omega) (by decide) (by decide) ?_
  refine k_iinc (z2 := 3) dX10_init_132 rfl (by decide +kernel) (Nat.le_of_ble_eq_true rfl) rfl ?_
  refine j_goto (tgt := 114) dX10_init_135 rfl ?_
  refine j_iload_n dX10_init_114 rfl rfl ?_
  refine j_iconst dX10_init_115 kr_3 ?_
  refine k_ge_yes (tgt := 138) dX10_init_116 rfl (by decide) ?_
  exact j_return dX10_init_138 rfl rfl (Nat.le_of_ble_eq_true rfl) (Nat.le_of_ble_eq_true rfl)
def eLine (b : Int) (n : Nat) : List Ev := [(((n : Nat) : Int), 0, 8, 0)] ++ (eTold ((n : Nat) : Int) (n + 1) ++ ([(b, 2, 0, ((n : Nat) : Int)), (((n + 36 : Nat) : Int), 1, 0, (-1)), (b, 2, 1, ((n + 36 : Nat) : Int)), (((n + 37 : Nat) : Int), 1, 0, 0), (b, 2, 2, ((n + 37 : Nat) : Int)), (((n + 38 : Nat) : Int), 0, 6, 0)] ++ (eScan ((n + 38 : Nat) : Int) (n + 39) ++ ([(b, 2, 3, ((n + 38 : Nat) : Int)), (((n + 56 : Nat) : Int), 0, 7, 0)] ++ (eStand ((n + 56 : Nat) : Int) (n + 57) ++ ([(b, 2, 4, ((n + 56 : Nat) : Int)), (((n + 72 : Nat) : Int), 0, 1, 0)] ++ (eLots ((n + 72 : Nat) : Int) (n + 73) ++ ([(b, 2, 5, ((n + 72 : Nat) : Int)), (((n + 77 : Nat) : Int), 0, 4, 0)] ++ (eRounds ((n + 77 : Nat) : Int) (n + 78) ++ ([(b, 2, 6, ((n + 77 : Nat) : Int)), (((n + 79 : Nat) : Int), 0, 5, 0)] ++ (eRows ((n + 79 : Nat) : Int) (n + 80) ++ ([(b, 2, 7, ((n + 79 : Nat) : Int)), (((n + 86 : Nat) : Int), 0, 2, 0)] ++ (eNet ((n + 86 : Nat) : Int) (n + 87) ++ ([(b, 2, 8, ((n + 86 : Nat) : Int)), (((n + 90 : Nat) : Int), 1, 0, 0), (b, 2, 9, ((n + 90 : Nat) : Int)), (((n + 91 : Nat) : Int), 1, 0, 0), (b, 2, 10, ((n + 91 : Nat) : Int)), (((n + 92 : Nat) : Int), 0, 8, 0)] ++ (eTold ((n + 92 : Nat) : Int) (n + 93) ++ ([(((n + 36 : Nat) : Int), 2, 0, ((n + 92 : Nat) : Int)), (((n + 128 : Nat) : Int), 0, 8, 0)] ++ (eTold ((n + 128 : Nat) : Int) (n + 129) ++ ([(((n + 36 : Nat) : Int), 2, 1, ((n + 128 : Nat) : Int)), (((n + 164 : Nat) : Int), 0, 8, 0)] ++ (eTold ((n + 164 : Nat) : Int) (n + 165) ++ ([(((n + 36 : Nat) : Int), 2, 2, ((n + 164 : Nat) : Int))]))))))))))))))))))))
theorem kLine_run (b : Int) (n : Nat) (C : Hp) : kLine b n C = run (eLine b n) C := by
  unfold kLine eLine
  simp only [run_app, kLots_run, kNet_run, kRounds_run, kRows_run, kScan_run, kStand_run, kTold_run]
  rfl
theorem ks_4184 : (Int16.ofInt 4184).toInt32 = I32 4184 := by decide +kernel
theorem kr_4184 : r32 4184 := by unfold r32; omega
theorem kf_11_7 : GF RX11 7 11 0 47 2 0 := ⟨⟨_, _, _, cls11, by decide, Or.inl (gt_in 1293 (by decide +kernel) (by decide +kernel))⟩, by decide, rfl, rfl, by decide⟩
theorem kp_11_0 : PutOK M_kModel 7 11 0 := fun C T N h => by cases (Option.some.inj h); exact Or.inr ⟨rfl, rfl, rfl, (gt_in 1293 (by decide +kernel) (by decide +kernel))⟩
theorem kf_11_13 : GF RX11 13 11 1 47 2 1 := ⟨⟨_, _, _, cls11, by decide, Or.inl (gt_in 1294 (by decide +kernel) (by decide +kernel))⟩, by decide, rfl, rfl, by decide⟩
theorem kp_11_1 : PutOK M_kModel 13 11 1 := fun C T N h => by cases (Option.some.inj h); exact Or.inr ⟨rfl, rfl, rfl, (gt_in 1294 (by decide +kernel) (by decide +kernel))⟩
theorem kb_121 : (Int8.ofInt 121).toInt32 = I32 121 := by decide +kernel
theorem kr_121 : r32 121 := by unfold r32; omega
theorem kf_11_17 : GF RX11 17 11 11 47 2 11 := ⟨⟨_, _, _, cls11, by decide, Or.inl (gt_in 1304 (by decide +kernel) (by decide +kernel))⟩, by decide, rfl, rfl, by decide⟩
theorem kp_11_11 : PutOK M_kModel 17 11 11 := fun C T N h => by cases (Option.some.inj h); exact Or.inr ⟨rfl, rfl, rfl, (gt_in 1304 (by decide +kernel) (by decide +kernel))⟩
theorem kf_11_20 : GF RX11 20 11 15 47 2 15 := ⟨⟨_, _, _, cls11, by decide, Or.inl (gt_in 1308 (by decide +kernel) (by decide +kernel))⟩, by decide, rfl, rfl, by decide⟩
theorem kp_11_15 : PutOK M_kModel 20 11 15 := fun C T N h => by cases (Option.some.inj h); exact Or.inr ⟨rfl, rfl, rfl, (gt_in 1308 (by decide +kernel) (by decide +kernel))⟩
theorem kf_11_23 : GF RX11 23 11 16 47 2 16 := ⟨⟨_, _, _, cls11, by decide, Or.inl (gt_in 1309 (by decide +kernel) (by decide +kernel))⟩, by decide, rfl, rfl, by decide⟩
theorem kp_11_16 : PutOK M_kModel 23 11 16 := fun C T N h => by cases (Option.some.inj h); exact Or.inr ⟨rfl, rfl, rfl, (gt_in 1309 (by decide +kernel) (by decide +kernel))⟩
theorem kf_11_26 : GF RX11 26 11 23 47 2 23 := ⟨⟨_, _, _, cls11, by decide, Or.inl (gt_in 1316 (by decide +kernel) (by decide +kernel))⟩, by decide, rfl, rfl, by decide⟩
theorem kp_11_23 : PutOK M_kModel 26 11 23 := fun C T N h => by cases (Option.some.inj h); exact Or.inr ⟨rfl, rfl, rfl, (gt_in 1316 (by decide +kernel) (by decide +kernel))⟩
theorem kf_11_29 : GF RX11 29 11 24 47 2 24 := ⟨⟨_, _, _, cls11, by decide, Or.inl (gt_in 1317 (by decide +kernel) (by decide +kernel))⟩, by decide, rfl, rfl, by decide⟩
theorem kp_11_24 : PutOK M_kModel 29 11 24 := fun C T N h => by cases (Option.some.inj h); exact Or.inr ⟨rfl, rfl, rfl, (gt_in 1317 (by decide +kernel) (by decide +kernel))⟩
theorem kf_11_32 : GF RX11 32 11 25 47 2 25 := ⟨⟨_, _, _, cls11, by decide, Or.inl (gt_in 1318 (by decide +kernel) (by decide +kernel))⟩, by decide, rfl, rfl, by decide⟩
theorem kp_11_25 : PutOK M_kModel 32 11 25 := fun C T N h => by cases (Option.some.inj h); exact Or.inr ⟨rfl, rfl, rfl, (gt_in 1318 (by decide +kernel) (by decide +kernel))⟩
theorem kf_11_35 : GF RX11 35 11 26 47 2 26 := ⟨⟨_, _, _, cls11, by decide, Or.inl (gt_in 1319 (by decide +kernel) (by decide +kernel))⟩, by decide, rfl, rfl, by decide⟩
theorem kp_11_26 : PutOK M_kModel 35 11 26 := fun C T N h => by cases (Option.some.inj h); exact Or.inr ⟨rfl, rfl, rfl, (gt_in 1319 (by decide +kernel) (by decide +kernel))⟩
theorem kf_11_38 : GF RX11 38 11 27 47 2 27 := ⟨⟨_, _, _, cls11, by decide, Or.inl (gt_in 1320 (by decide +kernel) (by decide +kernel))⟩, by decide, rfl, rfl, by decide⟩
theorem kp_11_27 : PutOK M_kModel 38 11 27 := fun C T N h => by cases (Option.some.inj h); exact Or.inr ⟨rfl, rfl, rfl, (gt_in 1320 (by decide +kernel) (by decide +kernel))⟩
theorem ks_488 : (Int16.ofInt 488).toInt32 = I32 488 := by decide +kernel
theorem kr_488 : r32 488 := by unfold r32; omega
theorem kf_11_41 : GF RX11 41 11 28 47 2 28 := ⟨⟨_, _, _, cls11, by decide, Or.inl (gt_in 1321 (by decide +kernel) (by decide +kernel))⟩, by decide, rfl, rfl, by decide⟩
theorem kp_11_28 : PutOK M_kModel 41 11 28 := fun C T N h => by cases (Option.some.inj h); exact Or.inr ⟨rfl, rfl, rfl, (gt_in 1321 (by decide +kernel) (by decide +kernel))⟩
theorem kf_11_44 : GF RX11 44 11 29 47 2 29 := ⟨⟨_, _, _, cls11, by decide, Or.inl (gt_in 1322 (by decide +kernel) (by decide +kernel))⟩, by decide, rfl, rfl, by decide⟩
theorem kp_11_29 : PutOK M_kModel 44 11 29 := fun C T N h => by cases (Option.some.inj h); exact Or.inr ⟨rfl, rfl, rfl, (gt_in 1322 (by decide +kernel) (by decide +kernel))⟩
theorem kf_11_47 : GF RX11 47 11 30 47 2 30 := ⟨⟨_, _, _, cls11, by decide, Or.inl (gt_in 1323 (by decide +kernel) (by decide +kernel))⟩, by decide, rfl, rfl, by decide⟩
theorem kp_11_30 : PutOK M_kModel 47 11 30 := fun C T N h => by cases (Option.some.inj h); exact Or.inr ⟨rfl, rfl, rfl, (gt_in 1323 (by decide +kernel) (by decide +kernel))⟩
theorem kf_11_50 : GF RX11 50 11 31 47 2 31 := ⟨⟨_, _, _, cls11, by decide, Or.inl (gt_in 1324 (by decide +kernel) (by decide +kernel))⟩, by decide, rfl, rfl, by decide⟩
theorem kp_11_31 : PutOK M_kModel 50 11 31 := fun C T N h => by cases (Option.some.inj h); exact Or.inr ⟨rfl, rfl, rfl, (gt_in 1324 (by decide +kernel) (by decide +kernel))⟩
theorem kr_5 : r32 5 := by unfold r32; omega
theorem kf_11_53 : GF RX11 53 11 32 47 2 32 := ⟨⟨_, _, _, cls11, by decide, Or.inl (gt_in 1325 (by decide +kernel) (by decide +kernel))⟩, by decide, rfl, rfl, by decide⟩
theorem kp_11_32 : PutOK M_kModel 53 11 32 := fun C T N h => by cases (Option.some.inj h); exact Or.inr ⟨rfl, rfl, rfl, (gt_in 1325 (by decide +kernel) (by decide +kernel))⟩
theorem kf_11_56 : GF RX11 56 11 33 47 2 33 := ⟨⟨_, _, _, cls11, by decide, Or.inl (gt_in 1326 (by decide +kernel) (by decide +kernel))⟩, by decide, rfl, rfl, by decide⟩
theorem kp_11_33 : PutOK M_kModel 56 11 33 := fun C T N h => by cases (Option.some.inj h); exact Or.inr ⟨rfl, rfl, rfl, (gt_in 1326 (by decide +kernel) (by decide +kernel))⟩
theorem kf_11_59 : GF RX11 59 11 34 47 2 34 := ⟨⟨_, _, _, cls11, by decide, Or.inl (gt_in 1327 (by decide +kernel) (by decide +kernel))⟩, by decide, rfl, rfl, by decide⟩
theorem kp_11_34 : PutOK M_kModel 59 11 34 := fun C T N h => by cases (Option.some.inj h); exact Or.inr ⟨rfl, rfl, rfl, (gt_in 1327 (by decide +kernel) (by decide +kernel))⟩
theorem kf_11_62 : GF RX11 62 11 36 47 2 36 := ⟨⟨_, _, _, cls11, by decide, Or.inl (gt_in 1329 (by decide +kernel) (by decide +kernel))⟩, by decide, rfl, rfl, by decide⟩
theorem kp_11_36 : PutOK M_kModel 62 11 36 := fun C T N h => by cases (Option.some.inj h); exact Or.inr ⟨rfl, rfl, rfl, (gt_in 1329 (by decide +kernel) (by decide +kernel))⟩
theorem kf_11_65 : GF RX11 65 11 38 47 2 38 := ⟨⟨_, _, _, cls11, by decide, Or.inl (gt_in 1331 (by decide +kernel) (by decide +kernel))⟩, by decide, rfl, rfl, by decide⟩
theorem kp_11_38 : PutOK M_kModel 65 11 38 := fun C T N h => by cases (Option.some.inj h); exact Or.inr ⟨rfl, rfl, rfl, (gt_in 1331 (by decide +kernel) (by decide +kernel))⟩
theorem kf_11_68 : GF RX11 68 11 43 47 2 43 := ⟨⟨_, _, _, cls11, by decide, Or.inl (gt_in 1336 (by decide +kernel) (by decide +kernel))⟩, by decide, rfl, rfl, by decide⟩
theorem kp_11_43 : PutOK M_kModel 68 11 43 := fun C T N h => by cases (Option.some.inj h); exact Or.inr ⟨rfl, rfl, rfl, (gt_in 1336 (by decide +kernel) (by decide +kernel))⟩
theorem kb_80 : (Int8.ofInt 80).toInt32 = I32 80 := by decide +kernel
theorem kr_80 : r32 80 := by unfold r32; omega
theorem kf_11_71 : GF RX11 71 11 44 47 2 44 := ⟨⟨_, _, _, cls11, by decide, Or.inl (gt_in 1337 (by decide +kernel) (by decide +kernel))⟩, by decide, rfl, rfl, by decide⟩
theorem kp_11_44 : PutOK M_kModel 71 11 44 := fun C T N h => by cases (Option.some.inj h); exact Or.inr ⟨rfl, rfl, rfl, (gt_in 1337 (by decide +kernel) (by decide +kernel))⟩
theorem kf_11_74 : GF RX11 74 11 45 47 2 45 := ⟨⟨_, _, _, cls11, by decide, Or.inl (gt_in 1338 (by decide +kernel) (by decide +kernel))⟩, by decide, rfl, rfl, by decide⟩
theorem kp_11_45 : PutOK M_kModel 74 11 45 := fun C T N h => by cases (Option.some.inj h); exact Or.inr ⟨rfl, rfl, rfl, (gt_in 1338 (by decide +kernel) (by decide +kernel))⟩
theorem ky_kModel : YOK M_kModel 0 := ⟨(gt_in 1291 (by decide +kernel) (by decide +kernel)), kz_11, by decide +kernel⟩
theorem kt_kModel : Cond.instanceMethod M_kModel.y ∈ lw_gt := (gt_in 1290 (by decide +kernel) (by decide +kernel))
def kModel (b : Int) (n : Nat) (C : Hp) : Hp := upd2 (upd2 (newC (upd2 (newC (upd2 (newC (upd2 (newC (upd2 (newC (upd2 (newC (upd2 (newC (upd2 (newC (upd2 (newC (upd2 (newC (upd2 (newC (upd2 (newC (upd2 (newC (upd2 (newC (upd2 (newC (upd2 (newC (upd2 (newC (upd2 (newC (upd2 (newC (upd2 (newC (upd2 (newC (upd2 (newC (C) ((n : Nat) : Int) (fun _ => 0)) b 0 ((n : Nat) : Int)) ((n + 1 : Nat) : Int) (fun _ => 0)) b 1 ((n + 1 : Nat) : Int)) ((n + 2 : Nat) : Int) (fun _ => 0)) b 11 ((n + 2 : Nat) : Int)) ((n + 3 : Nat) : Int) (fun _ => 0)) b 15 ((n + 3 : Nat) : Int)) ((n + 4 : Nat) : Int) (fun _ => 0)) b 16 ((n + 4 : Nat) : Int)) ((n + 5 : Nat) : Int) (fun _ => 0)) b 23 ((n + 5 : Nat) : Int)) ((n + 6 : Nat) : Int) (fun _ => 0)) b 24 ((n + 6 : Nat) : Int)) ((n + 7 : Nat) : Int) (fun _ => 0)) b 25 ((n + 7 : Nat) : Int)) ((n + 8 : Nat) : Int) (fun _ => 0)) b 26 ((n + 8 : Nat) : Int)) ((n + 9 : Nat) : Int) (fun _ => 0)) b 27 ((n + 9 : Nat) : Int)) ((n + 10 : Nat) : Int) (fun _ => 0)) b 28 ((n + 10 : Nat) : Int)) ((n + 11 : Nat) : Int) (fun _ => 0)) b 29 ((n + 11 : Nat) : Int)) ((n + 12 : Nat) : Int) (fun _ => 0)) b 30 ((n + 12 : Nat) : Int)) ((n + 13 : Nat) : Int) (fun _ => 0)) b 31 ((n + 13 : Nat) : Int)) ((n + 14 : Nat) : Int) (fun _ => 0)) b 32 ((n + 14 : Nat) : Int)) ((n + 15 : Nat) : Int) (fun _ => 0)) b 33 ((n + 15 : Nat) : Int)) ((n + 16 : Nat) : Int) (fun _ => 0)) b 34 ((n + 16 : Nat) : Int)) ((n + 17 : Nat) : Int) (fun _ => 0)) b 36 ((n + 17 : Nat) : Int)) ((n + 18 : Nat) : Int) (fun _ => 0)) b 38 ((n + 18 : Nat) : Int)) ((n + 19 : Nat) : Int) (fun _ => 0)) b 43 ((n + 19 : Nat) : Int)) ((n + 20 : Nat) : Int) (fun _ => 0)) b 44 ((n + 20 : Nat) : Int)) ((n + 21 : Nat) : Int) (fun _ => 0)) b 45 ((n + 21 : Nat) : Int)) ((n : Nat) : Int) 6 (-1)
theorem kModel_ne {b : Int} {n : Nat} {C : Hp} {a : Int} (h1 : a ≠ b) (h2 : a < (n : Int)) : kModel b n C a = C a := by
  unfold kModel
  rw [upd2_ne (by omega), upd2_ne (by omega), newC_ne (by omega), upd2_ne (by omega), newC_ne (by omega), upd2_ne (by omega), newC_ne (by omega), upd2_ne (by omega), newC_ne (by omega), upd2_ne (by omega), newC_ne (by omega), upd2_ne (by omega), newC_ne (by omega), upd2_ne (by omega), newC_ne (by omega), upd2_ne (by omega), newC_ne (by omega), upd2_ne (by omega), newC_ne (by omega), upd2_ne (by omega), newC_ne (by omega), upd2_ne (by omega), newC_ne (by omega), upd2_ne (by omega), newC_ne (by omega), upd2_ne (by omega), newC_ne (by omega), upd2_ne (by omega), newC_ne (by omega), upd2_ne (by omega), newC_ne (by omega), upd2_ne (by omega), newC_ne (by omega), upd2_ne (by omega), newC_ne (by omega), upd2_ne (by omega), newC_ne (by omega), upd2_ne (by omega), newC_ne (by omega), upd2_ne (by omega), newC_ne (by omega), upd2_ne (by omega), newC_ne (by omega), upd2_ne (by omega), newC_ne (by omega)]
set_option maxRecDepth 100000 in
theorem kModel_ct {l : Launch} {b : Int} {n : Nat} {C : Hp} (hb : OB n b 11 47) (hn : n < 1700) (h0 : sh (n) = (20, 4184)) (h1 : sh (n + 1) = (22, 3)) (h2 : sh (n + 2) = (20, 121)) (h3 : sh (n + 3) = (20, 10)) (h4 : sh (n + 4) = (20, 100)) (h5 : sh (n + 5) = (20, 8)) (h6 : sh (n + 6) = (20, 8)) (h7 : sh (n + 7) = (20, 6)) (h8 : sh (n + 8) = (20, 6)) (h9 : sh (n + 9) = (20, 8)) (h10 : sh (n + 10) = (20, 488)) (h11 : sh (n + 11) = (20, 6)) (h12 : sh (n + 12) = (20, 6)) (h13 : sh (n + 13) = (20, 3)) (h14 : sh (n + 14) = (20, 5)) (h15 : sh (n + 15) = (20, 5)) (h16 : sh (n + 16) = (20, 5)) (h17 : sh (n + 17) = (20, 8)) (h18 : sh (n + 18) = (20, 488)) (h19 : sh (n + 19) = (20, 6)) (h20 : sh (n + 20) = (20, 80)) (h21 : sh (n + 21) = (20, 36)) : Ct l M_kModel [(2, b)] n C (none, n + 22, kModel b n C) := by
  have hb0 := hb.1
  have hb1 := hb.2.1
  refine ct_of_J (K := fun _ : Unit => (none, n + 22, kModel b n C)) (X := some ()) (L := [(2, b)]) (by decide +kernel) rfl (Nat.le_of_ble_eq_true rfl) ?_ rfl
  unfold kModel
  refine j_aload_n dX11_init_0 rfl rfl ?_
  refine j_objinit dX11_init_1 ko_11 ko_ini ko_cod (by omega) (Nat.le_of_ble_eq_true rfl) ?_
  refine j_aload_n dX11_init_4 rfl rfl ?_
  refine j_sipush dX11_init_5 kr_4184 ks_4184 ?_
  refine k_arr (atype := .int) (n2 := n + 1) (q2 := (1, 4184)) (N := 4184) (t := 0) dX11_init_8 ka_int rfl (by decide) (fun _ => rfl) rfl (fun U cA cB h1 h2 => fc_int h1 h2) (by decide) (Nat.le_of_ble_eq_true rfl) h0 rfl rfl rfl (Nat.le_of_ble_eq_true rfl) (Nat.le_of_ble_eq_true rfl) ?_
  refine k_put dX11_init_10 kf_11_7 kp_11_0 (hb.up (by omega)) (fun _ => nf_arr) (by unfold r32; omega) ?_
  refine j_aload_n dX11_init_13 rfl rfl ?_
  refine j_iconst dX11_init_14 kr_3 ?_
  refine k_arr (atype := .boolean) (n2 := n + 2) (q2 := (2, 4187)) (N := 3) (t := 2) dX11_init_15 ka_boolean rfl (by decide) (fun _ => rfl) rfl (fun U cA cB h1 h2 => fc_boolean h1 h2) (by decide) (Nat.le_of_ble_eq_true rfl) h1 rfl rfl rfl (Nat.le_of_ble_eq_true rfl) (Nat.le_of_ble_eq_true rfl) ?_
  refine k_put dX11_init_17 kf_11_13 kp_11_1 (hb.up (by omega)) (fun _ => nf_arr) (by unfold r32; omega) ?_
  refine j_aload_n dX11_init_20 rfl rfl ?_
  refine j_bipush dX11_init_21 kr_121 kb_121 ?_
  refine k_arr (atype := .int) (n2 := n + 3) (q2 := (3, 4308)) (N := 121) (t := 0) dX11_init_23 ka_int rfl (by decide) (fun _ => rfl) rfl (fun U cA cB h1 h2 => fc_int h1 h2) (by decide) (Nat.le_of_ble_eq_true rfl) h2 rfl rfl rfl (Nat.le_of_ble_eq_true rfl) (Nat.le_of_ble_eq_true rfl) ?_
  refine k_put dX11_init_25 kf_11_17 kp_11_11 (hb.up (by omega)) (fun _ => nf_arr) (by unfold r32; omega) ?_
  refine j_aload_n dX11_init_28 rfl rfl ?_
  refine j_bipush dX11_init_29 kr_10 kb_10 ?_
  refine k_arr (atype := .int) (n2 := n + 4) (q2 := (4, 4318)) (N := 10) (t := 0) dX11_init_31 ka_int rfl (by decide) (fun _ => rfl) rfl (fun U cA cB h1 h2 => fc_int h1 h2) (by decide) (Nat.le_of_ble_eq_true rfl) h3 rfl rfl rfl (Nat.le_of_ble_eq_true rfl) (Nat.le_of_ble_eq_true rfl) ?_
  refine k_put dX11_init_33 kf_11_20 kp_11_15 (hb.up (by omega)) (fun _ => nf_arr) (by unfold r32; omega) ?_
  refine j_aload_n dX11_init_36 rfl rfl ?_
  refine j_bipush dX11_init_37 kr_100 kb_100 ?_
  refine k_arr (atype := .int) (n2 := n + 5) (q2 := (5, 4418)) (N := 100) (t := 0) dX11_init_39 ka_int rfl (by decide) (fun _ => rfl) rfl (fun U cA cB h1 h2 => fc_int h1 h2) (by decide) (Nat.le_of_ble_eq_true rfl) h4 rfl rfl rfl (Nat.le_of_ble_eq_true rfl) (Nat.le_of_ble_eq_true rfl) ?_
  refine k_put dX11_init_41 kf_11_23 kp_11_16 (hb.up (by omega)) (fun _ => nf_arr) (by unfold r32; omega) ?_
  refine j_aload_n dX11_init_44 rfl rfl ?_
  refine j_bipush dX11_init_45 kr_8 kb_8 ?_
  refine k_arr (atype := .int) (n2 := n + 6) (q2 := (6, 4426)) (N := 8) (t := 0) dX11_init_47 ka_int rfl (by decide) (fun _ => rfl) rfl (fun U cA cB h1 h2 => fc_int h1 h2) (by decide) (Nat.le_of_ble_eq_true rfl) h5 rfl rfl rfl (Nat.le_of_ble_eq_true rfl) (Nat.le_of_ble_eq_true rfl) ?_
  refine k_put dX11_init_49 kf_11_26 kp_11_23 (hb.up (by omega)) (fun _ => nf_arr) (by unfold r32; omega) ?_
  refine j_aload_n dX11_init_52 rfl rfl ?_
  refine j_bipush dX11_init_53 kr_8 kb_8 ?_
  refine k_arr (atype := .int) (n2 := n + 7) (q2 := (7, 4434)) (N := 8) (t := 0) dX11_init_55 ka_int rfl (by decide) (fun _ => rfl) rfl (fun U cA cB h1 h2 => fc_int h1 h2) (by decide) (Nat.le_of_ble_eq_true rfl) h6 rfl rfl rfl (Nat.le_of_ble_eq_true rfl) (Nat.le_of_ble_eq_true rfl) ?_
  refine k_put dX11_init_57 kf_11_29 kp_11_24 (hb.up (by omega)) (fun _ => nf_arr) (by unfold r32; omega) ?_
  refine j_aload_n dX11_init_60 rfl rfl ?_
  refine j_bipush dX11_init_61 kr_6 kb_6 ?_
  refine k_arr (atype := .int) (n2 := n + 8) (q2 := (8, 4440)) (N := 6) (t := 0) dX11_init_63 ka_int rfl (by decide) (fun _ => rfl) rfl (fun U cA cB h1 h2 => fc_int h1 h2) (by decide) (Nat.le_of_ble_eq_true rfl) h7 rfl rfl rfl (Nat.le_of_ble_eq_true rfl) (Nat.le_of_ble_eq_true rfl) ?_
  refine k_put dX11_init_65 kf_11_32 kp_11_25 (hb.up (by omega)) (fun _ => nf_arr) (by unfold r32; omega) ?_
  refine j_aload_n dX11_init_68 rfl rfl ?_
  refine j_bipush dX11_init_69 kr_6 kb_6 ?_
  refine k_arr (atype := .int) (n2 := n + 9) (q2 := (9, 4446)) (N := 6) (t := 0) dX11_init_71 ka_int rfl (by decide) (fun _ => rfl) rfl (fun U cA cB h1 h2 => fc_int h1 h2) (by decide) (Nat.le_of_ble_eq_true rfl) h8 rfl rfl rfl (Nat.le_of_ble_eq_true rfl) (Nat.le_of_ble_eq_true rfl) ?_
  refine k_put dX11_init_73 kf_11_35 kp_11_26 (hb.up (by omega)) (fun _ => nf_arr) (by unfold r32; omega) ?_
  refine j_aload_n dX11_init_76 rfl rfl ?_
  refine j_bipush dX11_init_77 kr_8 kb_8 ?_
  refine k_arr (atype := .int) (n2 := n + 10) (q2 := (10, 4454)) (N := 8) (t := 0) dX11_init_79 ka_int rfl (by decide) (fun _ => rfl) rfl (fun U cA cB h1 h2 => fc_int h1 h2) (by decide) (Nat.le_of_ble_eq_true rfl) h9 rfl rfl rfl (Nat.le_of_ble_eq_true rfl) (Nat.le_of_ble_eq_true rfl) ?_
  refine k_put dX11_init_81 kf_11_38 kp_11_27 (hb.up (by omega)) (fun _ => nf_arr) (by unfold r32; omega) ?_
  refine j_aload_n dX11_init_84 rfl rfl ?_
  refine j_sipush dX11_init_85 kr_488 ks_488 ?_
  refine k_arr (atype := .int) (n2 := n + 11) (q2 := (11, 4942)) (N := 488) (t := 0) dX11_init_88 ka_int rfl (by decide) (fun _ => rfl) rfl (fun U cA cB h1 h2 => fc_int h1 h2) (by decide) (Nat.le_of_ble_eq_true rfl) h10 rfl rfl rfl (Nat.le_of_ble_eq_true rfl) (Nat.le_of_ble_eq_true rfl) ?_
  refine k_put dX11_init_90 kf_11_41 kp_11_28 (hb.up (by omega)) (fun _ => nf_arr) (by unfold r32; omega) ?_
  refine j_aload_n dX11_init_93 rfl rfl ?_
  refine j_bipush dX11_init_94 kr_6 kb_6 ?_
  refine k_arr (atype := .int) (n2 := n + 12) (q2 := (12, 4948)) (N := 6) (t := 0) dX11_init_96 ka_int rfl (by decide) (fun _ => rfl) rfl (fun U cA cB h1 h2 => fc_int h1 h2) (by decide) (Nat.le_of_ble_eq_true rfl) h11 rfl rfl rfl (Nat.le_of_ble_eq_true rfl) (Nat.le_of_ble_eq_true rfl) ?_
  refine k_put dX11_init_98 kf_11_44 kp_11_29 (hb.up (by omega)) (fun _ => nf_arr) (by unfold r32; omega) ?_
  refine j_aload_n dX11_init_101 rfl rfl ?_
  refine j_bipush dX11_init_102 kr_6 kb_6 ?_
  refine k_arr (atype := .int) (n2 := n + 13) (q2 := (13, 4954)) (N := 6) (t := 0) dX11_init_104 ka_int rfl (by decide) (fun _ => rfl) rfl (fun U cA cB h1 h2 => fc_int h1 h2) (by decide) (Nat.le_of_ble_eq_true rfl) h12 rfl rfl rfl (Nat.le_of_ble_eq_true rfl) (Nat.le_of_ble_eq_true rfl) ?_
  refine k_put dX11_init_106 kf_11_47 kp_11_30 (hb.up (by omega)) (fun _ => nf_arr) (by unfold r32; omega) ?_
  refine j_aload_n dX11_init_109 rfl rfl ?_
  refine j_iconst dX11_init_110 kr_3 ?_
  refine k_arr (atype := .int) (n2 := n + 14) (q2 := (14, 4957)) (N := 3) (t := 0) dX11_init_111 ka_int rfl (by decide) (fun _ => rfl) rfl (fun U cA cB h1 h2 => fc_int h1 h2) (by decide) (Nat.le_of_ble_eq_true rfl) h13 rfl rfl rfl (Nat.le_of_ble_eq_true rfl) (Nat.le_of_ble_eq_true rfl) ?_
  refine k_put dX11_init_113 kf_11_50 kp_11_31 (hb.up (by omega)) (fun _ => nf_arr) (by unfold r32; omega) ?_
  refine j_aload_n dX11_init_116 rfl rfl ?_
  refine j_iconst dX11_init_117 kr_5 ?_
  refine k_arr (atype := .int) (n2 := n + 15) (q2 := (15, 4962)) (N := 5) (t := 0) dX11_init_118 ka_int rfl (by decide) (fun _ => rfl) rfl (fun U cA cB h1 h2 => fc_int h1 h2) (by decide) (Nat.le_of_ble_eq_true rfl) h14 rfl rfl rfl (Nat.le_of_ble_eq_true rfl) (Nat.le_of_ble_eq_true rfl) ?_
  refine k_put dX11_init_120 kf_11_53 kp_11_32 (hb.up (by omega)) (fun _ => nf_arr) (by unfold r32; omega) ?_
  refine j_aload_n dX11_init_123 rfl rfl ?_
  refine j_iconst dX11_init_124 kr_5 ?_
  refine k_arr (atype := .int) (n2 := n + 16) (q2 := (16, 4967)) (N := 5) (t := 0) dX11_init_125 ka_int rfl (by decide) (fun _ => rfl) rfl (fun U cA cB h1 h2 => fc_int h1 h2) (by decide) (Nat.le_of_ble_eq_true rfl) h15 rfl rfl rfl (Nat.le_of_ble_eq_true rfl) (Nat.le_of_ble_eq_true rfl) ?_
  refine k_put dX11_init_127 kf_11_56 kp_11_33 (hb.up (by omega)) (fun _ => nf_arr) (by unfold r32; omega) ?_
  refine j_aload_n dX11_init_130 rfl rfl ?_
  refine j_iconst dX11_init_131 kr_5 ?_
  refine k_arr (atype := .int) (n2 := n + 17) (q2 := (17, 4972)) (N := 5) (t := 0) dX11_init_132 ka_int rfl (by decide) (fun _ => rfl) rfl (fun U cA cB h1 h2 => fc_int h1 h2) (by decide) (Nat.le_of_ble_eq_true rfl) h16 rfl rfl rfl (Nat.le_of_ble_eq_true rfl) (Nat.le_of_ble_eq_true rfl) ?_
  refine k_put dX11_init_134 kf_11_59 kp_11_34 (hb.up (by omega)) (fun _ => nf_arr) (by unfold r32; omega) ?_
  refine j_aload_n dX11_init_137 rfl rfl ?_
  refine j_bipush dX11_init_138 kr_8 kb_8 ?_
  refine k_arr (atype := .int) (n2 := n + 18) (q2 := (18, 4980)) (N := 8) (t := 0) dX11_init_140 ka_int rfl (by decide) (fun _ => rfl) rfl (fun U cA cB h1 h2 => fc_int h1 h2) (by decide) (Nat.le_of_ble_eq_true rfl) h17 rfl rfl rfl (Nat.le_of_ble_eq_true rfl) (Nat.le_of_ble_eq_true rfl) ?_
  refine k_put dX11_init_142 kf_11_62 kp_11_36 (hb.up (by omega)) (fun _ => nf_arr) (by unfold r32; omega) ?_
  refine j_aload_n dX11_init_145 rfl rfl ?_
  refine j_sipush dX11_init_146 kr_488 ks_488 ?_
  refine k_arr (atype := .int) (n2 := n + 19) (q2 := (19, 5468)) (N := 488) (t := 0) dX11_init_149 ka_int rfl (by decide) (fun _ => rfl) rfl (fun U cA cB h1 h2 => fc_int h1 h2) (by decide) (Nat.le_of_ble_eq_true rfl) h18 rfl rfl rfl (Nat.le_of_ble_eq_true rfl) (Nat.le_of_ble_eq_true rfl) ?_
  refine k_put dX11_init_151 kf_11_65 kp_11_38 (hb.up (by omega)) (fun _ => nf_arr) (by unfold r32; omega) ?_
  refine j_aload_n dX11_init_154 rfl rfl ?_
  refine j_bipush dX11_init_155 kr_6 kb_6 ?_
  refine k_arr (atype := .int) (n2 := n + 20) (q2 := (20, 5474)) (N := 6) (t := 0) dX11_init_157 ka_int rfl (by decide) (fun _ => rfl) rfl (fun U cA cB h1 h2 => fc_int h1 h2) (by decide) (Nat.le_of_ble_eq_true rfl) h19 rfl rfl rfl (Nat.le_of_ble_eq_true rfl) (Nat.le_of_ble_eq_true rfl) ?_
  refine k_put dX11_init_159 kf_11_68 kp_11_43 (hb.up (by omega)) (fun _ => nf_arr) (by unfold r32; omega) ?_
  refine j_aload_n dX11_init_162 rfl rfl ?_
  refine j_bipush dX11_init_163 kr_80 kb_80 ?_
  refine k_arr (atype := .int) (n2 := n + 21) (q2 := (21, 5554)) (N := 80) (t := 0) dX11_init_165 ka_int rfl (by decide) (fun _ => rfl) rfl (fun U cA cB h1 h2 => fc_int h1 h2) (by decide) (Nat.le_of_ble_eq_true rfl) h20 rfl rfl rfl (Nat.le_of_ble_eq_true rfl) (Nat.le_of_ble_eq_true rfl) ?_
  refine k_put dX11_init_167 kf_11_71 kp_11_44 (hb.up (by omega)) (fun _ => nf_arr) (by unfold r32; omega) ?_
  refine j_aload_n dX11_init_170 rfl rfl ?_
  refine j_bipush dX11_init_171 kr_36 kb_36 ?_
  refine k_arr (atype := .int) (n2 := n + 22) (q2 := (22, 5590)) (N := 36) (t := 0) dX11_init_173 ka_int rfl (by decide) (fun _ => rfl) rfl (fun U cA cB h1 h2 => fc_int h1 h2) (by decide) (Nat.le_of_ble_eq_true rfl) h21 rfl rfl rfl (Nat.le_of_ble_eq_true rfl) (Nat.le_of_ble_eq_true rfl) ?_
  refine k_put dX11_init_175 kf_11_74 kp_11_45 (hb.up (by omega)) (fun _ => nf_arr) (by unfold r32; omega) ?_
  refine j_aload_n dX11_init_178 rfl rfl ?_
  refine k_get (z := ((n : Nat) : Int)) dX11_init_179 kf_11_7 (hb.up (by omega)) (by rw [upd2_nj (by omega), newC_ne (by omega), upd2_nj (by omega), newC_ne (by omega), upd2_nj (by omega), newC_ne (by omega), upd2_nj (by omega), newC_ne (by omega), upd2_nj (by omega), newC_ne (by omega), upd2_nj (by omega), newC_ne (by omega), upd2_nj (by omega), newC_ne (by omega), upd2_nj (by omega), newC_ne (by omega), upd2_nj (by omega), newC_ne (by omega), upd2_nj (by omega), newC_ne (by omega), upd2_nj (by omega), newC_ne (by omega), upd2_nj (by omega), newC_ne (by omega), upd2_nj (by omega), newC_ne (by omega), upd2_nj (by omega), newC_ne (by omega), upd2_nj (by omega), newC_ne (by omega), upd2_nj (by omega), newC_ne (by omega), upd2_nj (by omega), newC_ne (by omega), upd2_nj (by omega), newC_ne (by omega), upd2_nj (by omega), newC_ne (by omega), upd2_nj (by omega), newC_ne (by omega), upd2_nj (by omega), newC_ne (by omega), upd2_self]) ?_
  refine j_bipush dX11_init_182 kr_6 kb_6 ?_
  refine j_iconst dX11_init_184 kr_m1 ?_
  refine j_iast dX11_init_185 (ob_at (h0) (by omega)) (by decide) (by decide) ?_
  exact j_return dX11_init_186 rfl rfl (Nat.le_of_ble_eq_true rfl) (Nat.le_of_ble_eq_true rfl)
def eModel (b : Int) (n : Nat) : List Ev := [(((n : Nat) : Int), 1, 0, 0), (b, 2, 0, ((n : Nat) : Int)), (((n + 1 : Nat) : Int), 1, 0, 0), (b, 2, 1, ((n + 1 : Nat) : Int)), (((n + 2 : Nat) : Int), 1, 0, 0), (b, 2, 11, ((n + 2 : Nat) : Int)), (((n + 3 : Nat) : Int), 1, 0, 0), (b, 2, 15, ((n + 3 : Nat) : Int)), (((n + 4 : Nat) : Int), 1, 0, 0), (b, 2, 16, ((n + 4 : Nat) : Int)), (((n + 5 : Nat) : Int), 1, 0, 0), (b, 2, 23, ((n + 5 : Nat) : Int)), (((n + 6 : Nat) : Int), 1, 0, 0), (b, 2, 24, ((n + 6 : Nat) : Int)), (((n + 7 : Nat) : Int), 1, 0, 0), (b, 2, 25, ((n + 7 : Nat) : Int)), (((n + 8 : Nat) : Int), 1, 0, 0), (b, 2, 26, ((n + 8 : Nat) : Int)), (((n + 9 : Nat) : Int), 1, 0, 0), (b, 2, 27, ((n + 9 : Nat) : Int)), (((n + 10 : Nat) : Int), 1, 0, 0), (b, 2, 28, ((n + 10 : Nat) : Int)), (((n + 11 : Nat) : Int), 1, 0, 0), (b, 2, 29, ((n + 11 : Nat) : Int)), (((n + 12 : Nat) : Int), 1, 0, 0), (b, 2, 30, ((n + 12 : Nat) : Int)), (((n + 13 : Nat) : Int), 1, 0, 0), (b, 2, 31, ((n + 13 : Nat) : Int)), (((n + 14 : Nat) : Int), 1, 0, 0), (b, 2, 32, ((n + 14 : Nat) : Int)), (((n + 15 : Nat) : Int), 1, 0, 0), (b, 2, 33, ((n + 15 : Nat) : Int)), (((n + 16 : Nat) : Int), 1, 0, 0), (b, 2, 34, ((n + 16 : Nat) : Int)), (((n + 17 : Nat) : Int), 1, 0, 0), (b, 2, 36, ((n + 17 : Nat) : Int)), (((n + 18 : Nat) : Int), 1, 0, 0), (b, 2, 38, ((n + 18 : Nat) : Int)), (((n + 19 : Nat) : Int), 1, 0, 0), (b, 2, 43, ((n + 19 : Nat) : Int)), (((n + 20 : Nat) : Int), 1, 0, 0), (b, 2, 44, ((n + 20 : Nat) : Int)), (((n + 21 : Nat) : Int), 1, 0, 0), (b, 2, 45, ((n + 21 : Nat) : Int)), (((n : Nat) : Int), 2, 6, (-1))]
theorem kModel_run (b : Int) (n : Nat) (C : Hp) : kModel b n C = run (eModel b n) C := rfl
def C0 : Hp := fun _ _ => 0
/-- the cells when both systems are made -/
def C1 : Hp := kModel 201 202 (newC (kLine 0 1 (newC C0 ((0 : Nat) : Int) (dflt 10))) ((201 : Nat) : Int) (dflt 11))
def eAll : List Ev := [(0, 0, 10, 0)] ++ (eLine 0 1 ++ ([(201, 0, 11, 0)] ++ eModel 201 202))
theorem C1_run : C1 = run eAll C0 := by
  unfold C1 eAll
  simp only [run_app, kModel_run, kLine_run]
  rfl
def rowE (r : Int → Int) (e : Ev) : Int → Int := match e.2.1 with
  | 0 => dflt e.2.2.1.toNat
  | 1 => fun _ => e.2.2.2
  | _ => fun j => if j = e.2.2.1 then e.2.2.2 else r j
theorem stepE_ne {C : Hp} {e : Ev} {k : Int} (h : e.1 ≠ k) : stepE C e k = C k := by
  obtain ⟨o, t, a, v⟩ := e
  match t with
  | 0 => exact newC_ne (fun x => h x.symm)
  | 1 => exact newC_ne (fun x => h x.symm)
  | t + 2 => exact upd2_ne (fun x => h x.symm)
theorem stepE_eq {C : Hp} {e : Ev} : stepE C e e.1 = rowE (C e.1) e := by
  obtain ⟨o, t, a, v⟩ := e
  match t with
  | 0 => exact newC_eq
  | 1 => exact newC_eq
  | t + 2 =>
    funext j
    show upd2 C o a v o j = if j = a then v else C o j
    by_cases h : j = a <;> simp [upd2, h]
theorem run_row (es : List Ev) (C : Hp) (k : Int) : run es C k = (es.filter (fun e => e.1 == k)).foldl rowE (C k) := by
  induction es generalizing C with
  | nil => rfl
  | cons e es ih =>
    show run es (stepE C e) k = _
    rw [ih]
    by_cases h : e.1 = k
    · subst h
      rw [List.filter_cons_of_pos (by simp), List.foldl_cons, stepE_eq]
    · rw [List.filter_cons_of_neg (by simpa using h), stepE_ne h]
/-- the numbers at the start -/
def G00 : Hp := fun o j => if o = 57 ∧ j = 0 then 58 else if ((o = 1 ∨ o = 93 ∨ o = 129 ∨ o = 165) ∧ j = 3) ∨ (o = 80 ∧ j = 0) ∨ (o = 202 ∧ j = 6) then -1 else 0
theorem ch_a : ∀ k : Nat, k < 224 → ((sh k).1 < 20 ∨ 23 ≤ (sh k).1) → ∀ j : Nat, j < (sh k).2 → ((eAll.filter (fun e => e.1 == (k : Int))).foldl rowE (fun _ => 0)) (j : Int) = fu G00 G00 (k : Int) (j : Int) := by decide +kernel
def chB (k : Nat) : Bool := (k == 202) || decide ((sh k).1 < 20) || decide (23 ≤ (sh k).1) || ((eAll.filter (fun e => e.1 == (k : Int)) == [((k : Int), 1, 0, 0)]) && !(k == 1) && !(k == 93) && !(k == 129) && !(k == 165) && !(k == 80) && !(k == 57))
theorem ch_b0 : ∀ k : Nat, k < 224 → chB k = true := by decide +kernel
theorem ch_b (k : Nat) (hk : k < 224) (h1 : 20 ≤ (sh k).1) (h2 : (sh k).1 < 23) (h3 : k ≠ 202) : eAll.filter (fun e => e.1 == (k : Int)) = [((k : Int), 1, 0, 0)] ∧ k ≠ 1 ∧ k ≠ 93 ∧ k ≠ 129 ∧ k ≠ 165 ∧ k ≠ 80 ∧ k ≠ 57 := by
  have h := ch_b0 k hk
  unfold chB at h
  simp only [Bool.or_eq_true, Bool.and_eq_true, beq_iff_eq, decide_eq_true_eq, Bool.not_eq_true', beq_eq_false_iff_ne] at h
  rcases h with ((h | h) | h) | h
  · exact absurd h h3
  · omega
  · omega
  · obtain ⟨⟨⟨⟨⟨⟨a1, a2⟩, a3⟩, a4⟩, a5⟩, a6⟩, a7⟩ := h
    exact ⟨a1, a2, a3, a4, a5, a6, a7⟩
theorem ch_c : eAll.filter (fun e => e.1 == 202) = [(202, 1, 0, 0), (202, 2, 6, -1)] := by decide +kernel
theorem sh_arr0 {k : Nat} {j : Int} (h1 : 20 ≤ (sh k).1) (h2 : (sh k).1 < 23) (hk : k ≠ 57) : isRefS (k : Int) j = false := by
  unfold isRefS
  rw [Int.toNat_natCast, if_neg (fun z => hk (by have := z.1; omega)), if_neg (by omega), decide_eq_false_iff_not]
  omega
theorem C1_ok : ∀ k : Nat, k < 224 → ∀ j : Nat, j < (sh k).2 → C1 (k : Int) (j : Int) = fu G00 G00 (k : Int) (j : Int) := by
  intro k hk j hj
  rw [C1_run, run_row]
  by_cases hc : (sh k).1 < 20 ∨ 23 ≤ (sh k).1
  · exact ch_a k hk hc j hj
  · have h1 : 20 ≤ (sh k).1 := by omega
    have h2 : (sh k).1 < 23 := by omega
    have h57 : k ≠ 57 := by
      rintro rfl
      exact absurd h1 (by decide)
    by_cases h202 : k = 202
    · subst h202
      have e := sh_arr0 (j := (j : Int)) h1 h2 h57
      unfold fu
      rw [e, if_neg (by decide), if_neg (by decide)]
      show (List.filter (fun e : Ev => e.1 == 202) eAll).foldl rowE (C0 202) (j : Int) = _
      rw [ch_c]
      show (if (j : Int) = 6 then (-1 : Int) else 0) = G00 202 (j : Int)
      unfold G00
      by_cases h6 : (j : Int) = 6
      · rw [if_pos h6, if_neg (show ¬ ((202 : Int) = 57 ∧ (j : Int) = 0) by omega), if_pos (Or.inr (Or.inr ⟨rfl, h6⟩))]
      · rw [if_neg h6, if_neg (show ¬ ((202 : Int) = 57 ∧ (j : Int) = 0) by omega), if_neg (by omega)]
    · have e := sh_arr0 (j := (j : Int)) h1 h2 h57
      obtain ⟨b1, b2, b3, b4, b5, b6, b7⟩ := ch_b k hk h1 h2 h202
      rw [b1]
      unfold fu
      rw [e, if_neg (by decide)]
      show (0 : Int) = if (k : Int) < 201 then G00 k j else G00 k j
      rw [ite_self]
      unfold G00
      rw [if_neg (by omega), if_neg (by omega)]
theorem arr_congr {c : ClassId} {N : Nat} {f g : Nat → Value} (h : ∀ j, j < N → f j = g j) : arrV c N f = arrV c N g := by
  have e : (fun j : Fin N => f j.val) = (fun j : Fin N => g j.val) := funext fun j => h j.val j.isLt
  unfold arrV
  rw [e]
theorem cellE_at {w : WP} {k a : Nat} {g g' : Int → Int} {H : Heap} (h : ∀ j : Nat, j < (sh k).2 → g (j : Int) = g' (j : Int)) (hv : va_at w.2.1 vwCl (a, cellE w k g) H) : va_at w.2.1 vwCl (a, cellE w k g') H := by
  unfold cellE at hv ⊢
  by_cases h1 : (sh k).1 < 20
  · rw [if_pos h1] at hv ⊢
    have e : (List.range (sh k).2).map (fun (j : Nat) => conc w (ftg (sh k).1 j, g (j : Int))) = (List.range (sh k).2).map (fun (j : Nat) => conc w (ftg (sh k).1 j, g' (j : Int))) := List.map_congr_left (fun j hj => by rw [h j (List.mem_range.mp hj)])
    rw [← e]
    exact hv
  · rw [if_neg h1] at hv ⊢
    by_cases h2 : (sh k).1 < 23
    · rw [if_pos h2] at hv ⊢
      have hv' : H[a]? = some (arrV (w.2.2.1 ((sh k).1 - 20)) (sh k).2 (fun j => .int (I32 (g (j : Int))))) := hv
      show H[a]? = some (arrV (w.2.2.1 ((sh k).1 - 20)) (sh k).2 (fun j => .int (I32 (g' (j : Int)))))
      rw [hv']
      exact congrArg some (arr_congr fun j hj => by rw [h j hj])
    · rw [if_neg h2] at hv ⊢
      have hv' : H[a]? = some (arrV (w.2.2.1 ((sh k).1 - 20)) (sh k).2 (fun j => va_rf (rfo w (g (j : Int))))) := hv
      show H[a]? = some (arrV (w.2.2.1 ((sh k).1 - 20)) (sh k).2 (fun j => va_rf (rfo w (g' (j : Int)))))
      rw [hv']
      exact congrArg some (arr_congr fun j hj => by rw [h j hj])
theorem WRel.congr {w : WP} {n : Nat} {C C' : Hp} {H : Heap} (h : ∀ k : Nat, k < n → ∀ j : Nat, j < (sh k).2 → C (k : Int) (j : Int) = C' (k : Int) (j : Int)) (hr : RgH C') (hw : WRel w n C H) : WRel w n C' H := by
  refine ⟨fun k q hq => ?_, hw.2.1, hw.2.2.1, hr⟩
  obtain ⟨hk, rfl⟩ := wsOf_at hq
  exact cellE_at (h k hk) (hw.1 k _ (wsOf_get hk))
theorem RgH_G00 : RgH (fu G00 G00) := by
  intro o j
  have key : -1 ≤ fu G00 G00 o j ∧ fu G00 G00 o j ≤ 300 ∧ ((sh o.toNat).1 = 21 → fu G00 G00 o j ≤ 100) := by
    have g : ∀ o j, -1 ≤ G00 o j ∧ G00 o j ≤ 58 := fun o j => by
      unfold G00
      split
      · omega
      · split <;> omega
    have hT : ∀ r ∈ RFT, ∀ z ∈ r, -1 ≤ z ∧ z ≤ 300 := by decide +kernel
    have gR : -1 ≤ RF0 o j ∧ RF0 o j ≤ 300 := by
      unfold RF0
      rw [List.getD_eq_getElem?_getD, List.getD_eq_getElem?_getD]
      cases h1 : RFT[o.toNat]? with
      | none => simp
      | some r =>
        show -1 ≤ (r[j.toNat]?).getD (-1) ∧ (r[j.toNat]?).getD (-1) ≤ 300
        cases h2 : r[j.toNat]? with
        | none => simp
        | some z => exact hT r (List.mem_of_getElem? h1) z (List.mem_of_getElem? h2)
    unfold fu
    by_cases e : isRefS o j = true
    · rw [if_pos e]
      refine ⟨gR.1, gR.2, fun h21 => ?_⟩
      exfalso
      unfold isRefS at e
      rw [h21] at e
      by_cases e2 : o = 57 ∧ j = 0
      · rw [if_pos e2] at e; cases e
      · rw [if_neg e2, if_neg (by decide)] at e
        exact absurd e (by decide)
    · rw [if_neg e]
      have g1 := g o j
      split <;> exact ⟨g1.1, by omega, fun _ => by omega⟩
  exact ⟨by unfold r32; omega, fun h => ⟨by omega, by have := key.2.2 h; omega⟩⟩
