-- the law: its own rules (the script is read), its loop, its start
/-- the judgement, where more is known of the start -/
def JL {α : Type} (Φ : WP → State → Prop) (l : Launch) (M : MC) (K : α → Option AV × Nat × Hp) (X : Option α) (pc : Nat) (L S : List AV) (n : Nat) (C : Hp) (a : Nat × Nat) : Prop :=
  ∀ r, X = some r → ∀ (w : WP) (p : Program) (e : Env) (R : Room) (s : State) (m : MethodId) (args : Array Value) (below : List Frame) (meth : Method) (c : Code) (H : Heap) (locs : List Loc) (ls : Array Slot) (Qf : State → Prop),
    Cx M w p s m args meth c → Φ w s → RoomOK M R → Ret w M p l e R s m args below meth c (K r) Qf → WRel w n C H → va_S (aw w) s.heap H locs → LRel w ls M.nL L → RgL S → s.heap.size + a.1 = wb w + n → W p l e R s m args below meth c H locs a.1 a.2 Qf (F0 m pc ls (S.map (conc w)))
section LRULES
variable {α : Type} {Φ : WP → State → Prop} {l : Launch} {M : MC} {K : α → Option AV × Nat × Hp} {X X1 X2 : Option α} {pc n : Nat} {L S : List AV} {C : Hp} {q : Nat × Nat}
theorem jl_aloadS_n {i : Nat} {f : Fin 4} {z : Int} (hd : decode M.cc pc = .ok (.aload_n f, 1)) (hf : (f : Nat) = i) (hi : L[i]? = some (3, z)) (k : JL Φ l M K X (pc + 1) L ((3, z) :: S) n C q) : JL Φ l M K X pc L S n C q := by
  intro r hr w p e R s m args below meth c H locs ls Qf cx hx ro rt wr vs lr rs hsz
  have hg := lr.get hi (show (3 : Nat) ≠ 9 by decide)
  exact lv_aload_n cx.1 cx.2.1 hd hf hg (k r hr w p e R s m args below meth c H locs ls Qf cx hx ro rt wr vs lr (RgL.cons rg3 rs) hsz)
theorem jl_aload_n {i : Nat} {f : Fin 4} {z : Int} (hd : decode M.cc pc = .ok (.aload_n f, 1)) (hf : (f : Nat) = i) (hi : L[i]? = some (2, z)) (k : JL Φ l M K X (pc + 1) L ((2, z) :: S) n C q) : JL Φ l M K X pc L S n C q := by
  intro r hr w p e R s m args below meth c H locs ls Qf cx hx ro rt wr vs lr rs hsz
  have hg := lr.get hi (show (2 : Nat) ≠ 9 by decide)
  have h := k r hr w p e R s m args below meth c H locs ls Qf cx hx ro rt wr vs lr (RgL.cons rg2 rs) hsz
  rw [List.map_cons] at h
  by_cases hz : z < 0
  · rw [conc_null hz] at hg h
    exact lv_aload_nN cx.1 cx.2.1 hd hf hg h
  · rw [conc_ref hz] at hg h
    exact lv_aload_n cx.1 cx.2.1 hd hf hg h
theorem jl_iload_n {i : Nat} {f : Fin 4} {z : Int} (hd : decode M.cc pc = .ok (.iload_n f, 1)) (hf : (f : Nat) = i) (hi : L[i]? = some (0, z)) (k : JL Φ l M K X (pc + 1) L ((0, z) :: S) n C q) : JL Φ l M K X pc L S n C q := by
  intro r hr w p e R s m args below meth c H locs ls Qf cx hx ro rt wr vs lr rs hsz
  refine lv_iload_n cx.1 cx.2.1 (x := I32 z) hd hf (lr.get hi (show (0 : Nat) ≠ 9 by decide)) ?_
  exact k r hr w p e R s m args below meth c H locs ls Qf cx hx ro rt wr vs lr (RgL.cons (lr.rg hi) rs) hsz
theorem jl_iconst {z : Int} (hd : decode M.cc pc = .ok (.iconst z, 1)) (hz : r32 z) (k : JL Φ l M K X (pc + 1) L ((0, z) :: S) n C q) : JL Φ l M K X pc L S n C q := by
  intro r hr w p e R s m args below meth c H locs ls Qf cx hx ro rt wr vs lr rs hsz
  refine lv_iconst cx.1 cx.2.1 (v := I32 z) hd rfl ?_
  exact k r hr w p e R s m args below meth c H locs ls Qf cx hx ro rt wr vs lr (RgL.cons (rg0 hz) rs) hsz
theorem jl_bipush {z : Int} (hd : decode M.cc pc = .ok (.bipush z, 2)) (hz : r32 z) (hv : (Int8.ofInt z).toInt32 = I32 z) (k : JL Φ l M K X (pc + 2) L ((0, z) :: S) n C q) : JL Φ l M K X pc L S n C q := by
  intro r hr w p e R s m args below meth c H locs ls Qf cx hx ro rt wr vs lr rs hsz
  refine lv_bipush cx.1 cx.2.1 (v := I32 z) hd hv ?_
  exact k r hr w p e R s m args below meth c H locs ls Qf cx hx ro rt wr vs lr (RgL.cons (rg0 hz) rs) hsz
theorem jl_iadd {a b : Int} (hd : decode M.cc pc = .ok (.iadd, 1)) (k : JL Φ l M K X (pc + 1) L ((0, w32 (a + b)) :: S) n C q) : JL Φ l M K X pc L ((0, b) :: (0, a) :: S) n C q := by
  intro r hr w p e R s m args below meth c H locs ls Qf cx hx ro rt wr vs lr rs hsz
  refine lv_iadd cx.1 cx.2.1 hd  ?_
  have h := k r hr w p e R s m args below meth c H locs ls Qf cx hx ro rt wr vs lr (RgL.cons (rg0 (w32_r _)) rs.tl.tl) hsz
  have e1 : conc w (0, w32 (a + b)) = .int _ := congrArg Value.int (I32_add a b)
  rw [List.map_cons, e1] at h
  exact h
theorem jl_isub {a b : Int} (hd : decode M.cc pc = .ok (.isub, 1)) (k : JL Φ l M K X (pc + 1) L ((0, w32 (a - b)) :: S) n C q) : JL Φ l M K X pc L ((0, b) :: (0, a) :: S) n C q := by
  intro r hr w p e R s m args below meth c H locs ls Qf cx hx ro rt wr vs lr rs hsz
  refine lv_isub cx.1 cx.2.1 hd  ?_
  have h := k r hr w p e R s m args below meth c H locs ls Qf cx hx ro rt wr vs lr (RgL.cons (rg0 (w32_r _)) rs.tl.tl) hsz
  have e1 : conc w (0, w32 (a - b)) = .int _ := congrArg Value.int (I32_sub a b)
  rw [List.map_cons, e1] at h
  exact h
theorem jl_iand {a b : Int} (hd : decode M.cc pc = .ok (.iand, 1)) (k : JL Φ l M K X (pc + 1) L ((0, iand a b) :: S) n C q) : JL Φ l M K X pc L ((0, b) :: (0, a) :: S) n C q := by
  intro r hr w p e R s m args below meth c H locs ls Qf cx hx ro rt wr vs lr rs hsz
  refine lv_iand cx.1 cx.2.1 hd  ?_
  have h := k r hr w p e R s m args below meth c H locs ls Qf cx hx ro rt wr vs lr (RgL.cons (rg0 (toInt_r32 _)) rs.tl.tl) hsz
  have e1 : conc w (0, iand a b) = .int _ := congrArg Value.int (I32_of _)
  rw [List.map_cons, e1] at h
  exact h
theorem jl_icmp_gt {a b off : Int} {tgt : Nat} (hd : decode M.cc pc = .ok (.if_icmp .gt off, 3)) (ht : (pc : Int) + off = (tgt : Int)) (k1 : a ≤ b → JL Φ l M K X1 (pc + 3) L S n C q) (k2 : ¬ (a ≤ b) → JL Φ l M K X2 tgt L S n C q) : JL Φ l M K (if a ≤ b then X1 else X2) pc L ((0, b) :: (0, a) :: S) n C q := by
  intro r hr w p e R s m args below meth c H locs ls Qf cx hx ro rt wr vs lr rs hsz
  have ra : r32 a := rs.tl.hd.1 rfl
  have rb : r32 b := rs.hd.1 rfl
  refine lv_icmp_gt (x := I32 a) (y := I32 b) cx.1 cx.2.1 hd ht (fun z => ?_) (fun z => ?_)
  · have z' : ¬ (a ≤ b) := (by have := (I32_lt rb ra).mp z; omega)
    rw [if_neg z'] at hr
    exact k2 z' r hr w p e R s m args below meth c H locs ls Qf cx hx ro rt wr vs lr rs.tl.tl hsz
  · have z' : (a ≤ b) := (by have := mt (I32_lt rb ra).mpr z; omega)
    rw [if_pos z'] at hr
    exact k1 z' r hr w p e R s m args below meth c H locs ls Qf cx hx ro rt wr vs lr rs.tl.tl hsz
theorem jl_icmp_eq {a b off : Int} {tgt : Nat} (hd : decode M.cc pc = .ok (.if_icmp .eq off, 3)) (ht : (pc : Int) + off = (tgt : Int)) (k1 : a = b → JL Φ l M K X1 tgt L S n C q) (k2 : ¬ (a = b) → JL Φ l M K X2 (pc + 3) L S n C q) : JL Φ l M K (if a = b then X1 else X2) pc L ((0, b) :: (0, a) :: S) n C q := by
  intro r hr w p e R s m args below meth c H locs ls Qf cx hx ro rt wr vs lr rs hsz
  have ra : r32 a := rs.tl.hd.1 rfl
  have rb : r32 b := rs.hd.1 rfl
  refine lv_icmp_eq (x := I32 a) (y := I32 b) cx.1 cx.2.1 hd ht (fun z => ?_) (fun z => ?_)
  · have z' : (a = b) := (I32_inj ra rb).mp z
    rw [if_pos z'] at hr
    exact k1 z' r hr w p e R s m args below meth c H locs ls Qf cx hx ro rt wr vs lr rs.tl.tl hsz
  · have z' : ¬ (a = b) := mt (I32_inj ra rb).mpr z
    rw [if_neg z'] at hr
    exact k2 z' r hr w p e R s m args below meth c H locs ls Qf cx hx ro rt wr vs lr rs.tl.tl hsz
theorem jl_if_eq {a off : Int} {tgt : Nat} (hd : decode M.cc pc = .ok (.ifCond .eq off, 3)) (ht : (pc : Int) + off = (tgt : Int)) (k1 : a = 0 → JL Φ l M K X1 tgt L S n C q) (k2 : ¬ (a = 0) → JL Φ l M K X2 (pc + 3) L S n C q) : JL Φ l M K (if a = 0 then X1 else X2) pc L ((0, a) :: S) n C q := by
  intro r hr w p e R s m args below meth c H locs ls Qf cx hx ro rt wr vs lr rs hsz
  have ra : r32 a := rs.hd.1 rfl
  have rb : r32 0 := by unfold r32; omega
  refine lv_if_eq (x := I32 a) cx.1 cx.2.1 hd ht (fun z => ?_) (fun z => ?_)
  · have z' : (a = 0) := (I32_0 ra).mp z
    rw [if_pos z'] at hr
    exact k1 z' r hr w p e R s m args below meth c H locs ls Qf cx hx ro rt wr vs lr rs.tl hsz
  · have z' : ¬ (a = 0) := mt (I32_0 ra).mpr z
    rw [if_neg z'] at hr
    exact k2 z' r hr w p e R s m args below meth c H locs ls Qf cx hx ro rt wr vs lr rs.tl hsz
theorem jl_swIn {dflt lo hi a off : Int} {offs : Array Int} {len tgt : Nat} {i : Nat} (hd : decode M.cc pc = .ok (.tableswitch dflt lo hi offs, len)) (h : a = lo + (i : Int)) (hh : lo + (i : Int) ≤ hi) (ho : offs[i]? = some off) (ht : (pc : Int) + off = (tgt : Int)) (k : JL Φ l M K X tgt L S n C q) : JL Φ l M K X pc L ((0, a) :: S) n C q := by
  intro r hr w p e R s m args below meth c H locs ls Qf cx hx ro rt wr vs lr rs hsz
  have ra : r32 a := rs.hd.1 rfl
  exact lv_tableIn (x := I32 a) (off := off) cx.1 cx.2.1 hd (by rw [I32_toInt ra]; omega) (by rw [I32_toInt ra]; omega) (by rw [I32_toInt ra, h, show (lo + (i : Int) - lo).toNat = i by omega]; exact ho) ht (k r hr w p e R s m args below meth c H locs ls Qf cx hx ro rt wr vs lr rs.tl hsz)
theorem jl_swOut {dflt lo hi a : Int} {offs : Array Int} {len tgt : Nat} (hd : decode M.cc pc = .ok (.tableswitch dflt lo hi offs, len)) (h : a < lo ∨ hi < a) (ht : (pc : Int) + dflt = (tgt : Int)) (k : JL Φ l M K X tgt L S n C q) : JL Φ l M K X pc L ((0, a) :: S) n C q := by
  intro r hr w p e R s m args below meth c H locs ls Qf cx hx ro rt wr vs lr rs hsz
  have ra : r32 a := rs.hd.1 rfl
  exact lv_tableOut (x := I32 a) cx.1 cx.2.1 hd (by rw [I32_toInt ra]; exact h) ht (k r hr w p e R s m args below meth c H locs ls Qf cx hx ro rt wr vs lr rs.tl hsz)
theorem jl_goto {off : Int} {tgt : Nat} (hd : decode M.cc pc = .ok (.goto off, 3)) (ht : (pc : Int) + off = (tgt : Int)) (k : JL Φ l M K X tgt L S n C q) : JL Φ l M K X pc L S n C q := by
  intro r hr w p e R s m args below meth c H locs ls Qf cx hx ro rt wr vs lr rs hsz
  exact lv_goto cx.1 cx.2.1 hd ht (k r hr w p e R s m args below meth c H locs ls Qf cx hx ro rt wr vs lr rs hsz)
theorem jl_iinc {i : Nat} {z d : Int} (hd : decode M.cc pc = .ok (.iinc i d, 3)) (hi : L[i]? = some (0, z)) (hn : i < M.nL) (h0 : noL L i = true) (k : JL Φ l M K X (pc + 3) (L.set i (0, w32 (z + d))) S n C q) : JL Φ l M K X pc L S n C q := by
  intro r hr w p e R s m args below meth c H locs ls Qf cx hx ro rt wr vs lr rs hsz
  obtain ⟨k0, hk0⟩ := List.getElem?_of_mem (LAl_mem (w := w) hi (show (0 : Nat) ≠ 9 by decide))
  refine lv_iinc (v := I32 (w32 (z + d))) cx.1 cx.2.1 hd lr.has hk0 (I32_add z d).symm hn rfl (fun ls' hl' => ?_)
  exact k r hr w p e R s m args below meth c H locs ls' Qf cx hx ro rt wr vs (lr.put1 (v := (0, w32 (z + d))) (show (0 : Nat) ≠ 1 by decide) (rg0 (w32_r _)) h0 hl') rs hsz
theorem jl_zreturn {r0 : α} {b : Bool} (hd : decode M.cc pc = .ok (.ireturn, 1)) (hr0 : M.ret = some .boolean) (hK : K r0 = (some (0, b2i b), n, C)) (h1 : q.1 ≤ M.mc) (h2 : q.2 ≤ M.ms) : JL Φ l M K (some r0) pc L [(0, b2i b)] n C q := by
  intro r hr w p e R s m args below meth c H locs ls Qf cx hx ro rt wr vs lr rs hsz
  cases hr
  have h := rt H locs q.1 q.2 pc ls .ireturn (by rw [hK]; exact wr) vs h1 h2 (by rw [hK]; intro v hv; cases hv; exact rs.hd) (by rw [hK, hr0]; exact Or.inr (Or.inl ⟨.boolean, b2i b, rfl, rfl, rfl, by cases b <;> rfl⟩)) hd
  rw [hK] at h
  exact h
theorem jl_lcmp {a b : Int} (hd : decode M.cc pc = .ok (.lcmp, 1)) (k : JL Φ l M K X (pc + 1) L ((0, lcmp a b) :: S) n C q) : JL Φ l M K X pc L ((1, b) :: (1, a) :: S) n C q := by
  intro r hr w p e R s m args below meth c H locs ls Qf cx hx ro rt wr vs lr rs hsz
  have ra : r64 a := rs.tl.hd.2 rfl
  have rb : r64 b := rs.hd.2 rfl
  refine W.lcmp cx.1 cx.2.1 hd ?_
  have h := k r hr w p e R s m args below meth c H locs ls Qf cx hx ro rt wr vs lr (RgL.cons (rg0 (lcmp_r a b)) rs.tl.tl) hsz
  have e1 : conc w (0, lcmp a b) = .int (lg_cmp (I64 a) (I64 b)) := congrArg Value.int (lcmp_I ra rb)
  rw [List.map_cons, e1] at h
  exact h
theorem jl_new {idx ci N : Nat} {Cn : String} {T : u_T} (hd : decode M.cc pc = .ok (.new idx, 3)) (hcl : ClsOK ci Cn T N) (hl : Cond.classLink M.y.cls idx Cn ∈ lw_gt) (hi : Cond.instantiable Cn N ∈ lw_gt) (hini : Cond.initialized Cn ∈ lw_gt) (hdf : ∀ j, j < N → defaultValue (tyX ci j) = if ftg ci j = 2 then .null else .int 0) (hs : sh n = (ci, N)) (hq1 : q.1 + 1 ≤ M.mc) (hq2 : q.2 + N ≤ M.ms)
    (k : JL Φ l M K X (pc + 3) L ((2, (n : Int)) :: S) (n + 1) (newC C (n : Int) (dflt ci)) (q.1 + 1, q.2 + N)) : JL Φ l M K X pc L S n C q := by
  intro r hr w p e R s m args below meth c H locs ls Qf cx hx ro rt wr vs lr rs hsz
  refine va_new (ci := ci) (fs := (List.range N).map (fun (j : Nat) => conc w (ftg ci j, dflt ci (j : Int)))) cx.1 cx.2.1 cx.2.2.2.2.1 hcl.2.2.1 (tyX ci) hcl.2.2.2.1 cx.2.2.2.1 (cx.2.2.2.2.1 _ hl) (cx.2.2.2.2.1 _ hi) (cx.2.2.2.2.1 _ hini) cx.2.2.2.2.2.1.1 wr.1 (wsOf_D w n C) vs (fun a ha => by have := cx.2.2.2.2.2.2.1; show wb w ≤ a; omega) hcl.1 ?_ (Nat.le_trans hq1 ro.2.2.1) (Nat.le_trans hq2 ro.2.2.2) hd fun a H1 hP1 hD1 hS1 => ?_
  · intro j hj
    rw [hdf j hj]
    show _ = ((List.range N).map (fun (j : Nat) => conc w (ftg ci j, dflt ci (j : Int)))).getD j .null
    rw [List.getD_eq_getElem?_getD, List.getElem?_map, List.getElem?_range hj]
    show _ = conc w (ftg ci j, dflt ci (j : Int))
    unfold dflt
    rw [Int.toNat_natCast]
    by_cases h2 : ftg ci j = 2
    · rw [if_pos h2, if_pos h2, h2]
      rfl
    · have h0 : ftg ci j = 0 := by
        unfold ftg at h2 ⊢
        split at h2 <;> simp_all
      rw [if_neg h2, if_neg h2, h0]
      rfl
  · refine W.withT fun hle => ?_
    have ha := new_addr hP1 hD1 (by omega)
    subst ha
    have hpush : wsOf w n C ++ [(wb w + n, .inr (ci, (List.range N).map (fun (j : Nat) => conc w (ftg ci j, dflt ci (j : Int)))))] = wsOf w (n + 1) (newC C (n : Int) (dflt ci)) := by
      refine wsOf_push ?_ (fun o ho => newC_ne ho)
      rw [cell_ob hs hcl.2.1, newC_eq]
    rw [hpush] at hP1
    have h := k r hr w p e R s m args below meth c H1 locs ls Qf cx hx ro rt (WRel.mk' hP1 (by omega) hle (by omega) hS1 cx.2.2.2.2.2.2.2.1 cx.2.2.2.2.2.2.1 (wr.2.2.2.new (dflt_r ci))) hS1 lr (RgL.cons rg2 rs) (by show s.heap.size + (q.1 + 1) = wb w + (n + 1); omega)
    rw [List.map_cons, conc_ref (by omega), Int.toNat_natCast] at h
    exact h
theorem jl_dup {t : Nat} {z : Int} (hd : decode M.cc pc = .ok (.dup, 1)) (ht : t ≠ 1) (k : JL Φ l M K X (pc + 1) L ((t, z) :: (t, z) :: S) n C q) : JL Φ l M K X pc L ((t, z) :: S) n C q := by
  intro r hr w p e R s m args below meth c H locs ls Qf cx hx ro rt wr vs lr rs hsz
  refine lv_dup cx.1 cx.2.1 (va := conc w (t, z)) hd (by rw [conc_cat, if_neg ht]) ?_
  exact k r hr w p e R s m args below meth c H locs ls Qf cx hx ro rt wr vs lr (RgL.cons rs.hd rs) hsz
theorem jl_callI {β : Type} {F : Option β} {Xk : β → Option α} {M' : MC} {Kc : β → Option AV × Nat × Hp} {b : Int} {As : List AV} {idx : Nat} (hd : decode M.cc pc = .ok (.invokespecial idx, 3)) (hY : YOK M' As.length)
    (hl : Cond.methodLink M.y.cls idx M'.y ∈ lw_gt ∨ ∃ host : String, Cond.methodLinkNest M.y.cls idx M'.y host ∈ lw_ns) (hi : Cond.instanceMethod M'.y ∈ lw_gt) (hy1 : M'.y.name = "<init>") (hret : M'.ret = none) (hb0 : 0 ≤ b) (hR : RmOK M M') (hS8 : wt S ≤ 8) (hm1 : q.1 + M'.mc ≤ M.mc) (hm2 : q.2 + M'.ms ≤ M.ms)
    (hc : ∀ r, F = some r → Ct l M' ((2, b) :: As) n C (Kc r)) (hn : ∀ r, (Kc r).2.1 = n + M'.mc)
    (k : ∀ r, F = some r → JL Φ l M K (Xk r) (pc + 3) L ((Kc r).1.toList ++ S) (Kc r).2.1 (Kc r).2.2 (q.1 + M'.mc, q.2 + M'.ms)) : JL Φ l M K (F.bind Xk) pc L (As.reverse ++ (2, b) :: S) n C q := by
  intro r hr w p e R s m args below meth c H locs ls Qf cx hx ro rt wr vs lr rs hsz
  obtain ⟨r1, hF, hr1⟩ := Option.bind_eq_some_iff.mp hr
  have hM := hc r1 hF (rg_args rs) w
  rw [map_args w As b hb0] at hM
  have hws : TsM M' = Cond.code M'.y M'.cc M'.nL none :: lw_gt := by unfold TsM; rw [hret]
  have hp : PreS s H (va_Pc (Value.ref (wb w + b.toNat) :: As.map (conc w)) (fun U => WRel w n C U.heap ∧ KS w U)) (.ref (wb w + b.toNat) :: As.map (conc w)) := by
    refine ⟨?_, fun U hU hW => ⟨rfl, by rw [hU]; exact wr, cx.2.2.2.2.2.1.warm hW⟩⟩
    have := pc_blind (w := w) (As := (2, b) :: As) (n := n) (C := C)
    rw [map_args w As b hb0] at this
    exact this
  have hRm : (rmM M').frames + 1 ≤ R.frames ∧ 8 + (M'.nL + 11) + (rmM M').locals ≤ R.locals := by
    have h1 := ro.1
    have h2 := ro.2.1
    have h3 := hR.1
    have h4 := hR.2
    exact ⟨by show M'.d + 1 ≤ _; omega, by show 8 + (M'.nL + 11) + 100 * M'.d ≤ _; omega⟩
  have hf : q.1 + M'.mc ≤ R.cells ∧ q.2 + M'.ms ≤ R.slots := ⟨Nat.le_trans hm1 ro.2.2.1, Nat.le_trans hm2 ro.2.2.2⟩
  have fin : va_Run p l e R s m args below meth c H locs q.1 q.2 M'.mc M'.ms (F0 m pc ls ((As.reverse ++ (2, b) :: S).map (conc w))) (S.map (conc w)) (QA w (Kc r1) (Value.ref (wb w + b.toNat) :: As.map (conc w)).toArray) (aw w) := by
    rcases hl with hl | ⟨host, hl⟩
    · exact va_runI (As := As.map (conc w)) ⟨cx.1, cx.2.1, cx.2.2.1, cx.2.2.2.1, cx.2.2.2.2.1⟩ hM (cwI As.length cx.2.2.2.2.1 (good_in (ts_in hY)) hws rfl rfl (cx.2.2.2.2.1 _ hY.2.1) (cx.2.2.2.2.1 _ hl) (cx.2.2.2.2.1 _ hi) hy1 hY.2.2 hRm) hp rfl (by simp) (by show ls.size = _; exact lr.1) (map_stk w As b hb0 S) (by show 2 * 0 + _ ≤ 8; rw [wt_conc]; omega) hd hf
    · exact va_runIN (As := As.map (conc w)) ⟨cx.1, cx.2.1, cx.2.2.1, cx.2.2.2.1, cx.2.2.2.2.1⟩ hM ⟨va_cnB (ret := none) As.length cx.2.2.2.2.1 (good_in (ts_in hY)) hws rfl rfl (cx.2.2.2.2.2.1.2.2.2.2.2.2 _ hl) (cx.2.2.2.2.1 _ hY.2.1) hY.2.2 hRm, hy1, cx.2.2.2.2.1 _ hi⟩ hp rfl (by simp) (by show ls.size = _; exact lr.1) (map_stk w As b hb0 S) (by show 2 * 0 + _ ≤ 8; rw [wt_conc]; omega) hd hf
  refine call_end fin vs fun H1 locs1 hrg hw hS1 => ?_
  rw [← map_res]
  exact k r1 hF r hr1 w p e R s m args below meth c H1 locs1 ls Qf cx hx ro rt hw hS1 lr (RgL.app (fun v hv => hrg v (by simpa using hv)) (fun v hv => rs v (List.mem_append_right _ (List.mem_cons_of_mem _ hv)))) (by rw [hn r1]; show s.heap.size + (q.1 + M'.mc) = _; omega)
theorem jl_callV {β : Type} {F : Option β} {Xk : β → Option α} {M' : MC} {Kc : β → Option AV × Nat × Hp} {b : Int} {As : List AV} {idx ci N N2 : Nat} {T : u_T} (hd : decode M.cc pc = .ok (.invokevirtual idx, 3)) (hY : YOK M' As.length)
    (hl : Cond.methodLink M.y.cls idx M'.y ∈ lw_gt ∨ ∃ host : String, Cond.methodLinkNest M.y.cls idx M'.y host ∈ lw_ns) (hi : Cond.instanceMethod M'.y ∈ lw_gt) (hse : Cond.selects M'.y.cls M'.y M'.y ∈ lw_gt) (hcl : ClsOK ci M'.y.cls T N2) (hob : OB n b ci N) (hR : RmOK M M') (hS8 : wt S ≤ 8) (hm1 : q.1 + M'.mc ≤ M.mc) (hm2 : q.2 + M'.ms ≤ M.ms)
    (hc : ∀ r, F = some r → Ct l M' ((2, b) :: As) n C (Kc r)) (hn : ∀ r, (Kc r).2.1 = n + M'.mc)
    (k : ∀ r, F = some r → JL Φ l M K (Xk r) (pc + 3) L ((Kc r).1.toList ++ S) (Kc r).2.1 (Kc r).2.2 (q.1 + M'.mc, q.2 + M'.ms)) : JL Φ l M K (F.bind Xk) pc L (As.reverse ++ (2, b) :: S) n C q := by
  intro r hr w p e R s m args below meth c H locs ls Qf cx hx ro rt wr vs lr rs hsz
  obtain ⟨r1, hF, hr1⟩ := Option.bind_eq_some_iff.mp hr
  have hb0 := hob.1
  have hM := hc r1 hF (rg_args rs) w
  rw [map_args w As b hb0] at hM
  obtain ⟨b', hbe, hbn, hbs⟩ := hob.nat
  have hp : PreV s H M'.y.cls (wb w + b.toNat) (va_Pc (Value.ref (wb w + b.toNat) :: As.map (conc w)) (fun U => WRel w n C U.heap ∧ KS w U)) (As.map (conc w)) := by
    refine ⟨?_, ?_, fun U hU hW => ⟨rfl, by rw [hU]; exact wr, cx.2.2.2.2.2.1.warm hW⟩⟩
    · have := pc_blind (w := w) (As := (2, b) :: As) (n := n) (C := C)
      rw [map_args w As b hb0] at this
      exact this
    · have he : (wsOf w n C)[b']? = some (wb w + b', .inr (ci, (List.range N).map (fun (j : Nat) => conc w (ftg ci j, C (b' : Int) (j : Int))))) := by rw [wsOf_get hbn, cell_ob hbs hcl.2.1]
      have := va_recv cx.2.2.2.2.2.1.1 wr.1 hcl.1 he
      rw [hbe, Int.toNat_natCast]
      exact this
  have hRm : (rmM M').frames + 1 ≤ R.frames ∧ 8 + (M'.nL + 11) + (rmM M').locals ≤ R.locals := by
    have h1 := ro.1
    have h2 := ro.2.1
    have h3 := hR.1
    have h4 := hR.2
    exact ⟨by show M'.d + 1 ≤ _; omega, by show 8 + (M'.nL + 11) + 100 * M'.d ≤ _; omega⟩
  have hf : q.1 + M'.mc ≤ R.cells ∧ q.2 + M'.ms ≤ R.slots := ⟨Nat.le_trans hm1 ro.2.2.1, Nat.le_trans hm2 ro.2.2.2⟩
  have fin : va_Run p l e R s m args below meth c H locs q.1 q.2 M'.mc M'.ms (F0 m pc ls ((As.reverse ++ (2, b) :: S).map (conc w))) (S.map (conc w)) (QA w (Kc r1) (Value.ref (wb w + b.toNat) :: As.map (conc w)).toArray) (aw w) := by
    rcases hl with hl | ⟨host, hl⟩
    · refine va_runV (C := M'.y.cls) (As := As.map (conc w)) ⟨cx.1, cx.2.1, cx.2.2.1, cx.2.2.2.1, cx.2.2.2.2.1⟩ hM (cwV (ws := TsM M') (ws' := lw_gt) As.length cx.2.2.2.2.1 (good_in fun x hx => ?_) rfl rfl rfl ⟨rfl, hY.2.2⟩ hRm) hp rfl (by simp) (by show ls.size = _; exact lr.1) (map_stk w As b hb0 S) (by show 2 * 0 + _ ≤ 8; rw [wt_conc]; omega) hd hf
      rcases List.mem_append.mp hx with h | h
      · simp only [List.mem_cons, List.not_mem_nil, or_false] at h
        rcases h with rfl | rfl | rfl | rfl
        · exact hl
        · exact hi
        · exact hse
        · exact hY.2.1
      · exact ts_in hY x h
    · exact va_runVN (C := M'.y.cls) (As := As.map (conc w)) ⟨cx.1, cx.2.1, cx.2.2.1, cx.2.2.2.1, cx.2.2.2.2.1⟩ hM ⟨va_cnB (ws := TsM M') (ws' := lw_gt) As.length cx.2.2.2.2.1 (good_in (ts_in hY)) rfl rfl rfl (cx.2.2.2.2.2.1.2.2.2.2.2.2 _ hl) (cx.2.2.2.2.1 _ hY.2.1) hY.2.2 hRm, cx.2.2.2.2.1 _ hi, cx.2.2.2.2.1 _ hse⟩ hp rfl (by simp) (by show ls.size = _; exact lr.1) (map_stk w As b hb0 S) (by show 2 * 0 + _ ≤ 8; rw [wt_conc]; omega) hd hf
  refine call_end fin vs fun H1 locs1 hrg hw hS1 => ?_
  rw [← map_res]
  exact k r1 hF r hr1 w p e R s m args below meth c H1 locs1 ls Qf cx hx ro rt hw hS1 lr (RgL.app (fun v hv => hrg v (by simpa using hv)) (fun v hv => rs v (List.mem_append_right _ (List.mem_cons_of_mem _ hv)))) (by rw [hn r1]; show s.heap.size + (q.1 + M'.mc) = _; omega)
theorem jl_astore_n {i : Nat} {f : Fin 4} {z : Int} (hd : decode M.cc pc = .ok (.astore_n f, 1)) (hf : (f : Nat) = i) (hn : i < M.nL) (h0 : noL L i = true) (k : JL Φ l M K X (pc + 1) (L.set i (2, z)) S n C q) : JL Φ l M K X pc L ((2, z) :: S) n C q := by
  intro r hr w p e R s m args below meth c H locs ls Qf cx hx ro rt wr vs lr rs hsz
  have key : ∀ ls', lv_has ls' M.nL ((i, conc w (2, z)) :: (LAl w L).filter (fun q => !(q.1 == i) && !(q.1 + 1 == i && q.2.category == 2))) → W p l e R s m args below meth c H locs q.1 q.2 Qf (F0 m (pc + 1) ls' (S.map (conc w))) := fun ls' hl' => k r hr w p e R s m args below meth c H locs ls' Qf cx hx ro rt wr vs (lr.put1 (v := (2, z)) (show (2 : Nat) ≠ 1 by decide) rs.hd h0 hl') rs.tl hsz
  rw [List.map_cons]
  by_cases hz : z < 0
  · rw [conc_null hz] at key ⊢
    exact lv_astore_nN cx.1 cx.2.1 hd hf lr.has hn rfl key
  · rw [conc_ref hz] at key ⊢
    exact lv_astore_n cx.1 cx.2.1 hd hf lr.has hn rfl key
theorem jl_istore_n {i : Nat} {f : Fin 4} {z : Int} (hd : decode M.cc pc = .ok (.istore_n f, 1)) (hf : (f : Nat) = i) (hn : i < M.nL) (h0 : noL L i = true) (k : JL Φ l M K X (pc + 1) (L.set i (0, z)) S n C q) : JL Φ l M K X pc L ((0, z) :: S) n C q := by
  intro r hr w p e R s m args below meth c H locs ls Qf cx hx ro rt wr vs lr rs hsz
  refine lv_istore_n (x := I32 z) cx.1 cx.2.1 hd hf lr.has hn rfl (fun ls' hl' => ?_)
  exact k r hr w p e R s m args below meth c H locs ls' Qf cx hx ro rt wr vs (lr.put1 (v := (0, z)) (show (0 : Nat) ≠ 1 by decide) rs.hd h0 hl') rs.tl hsz
theorem kl_new {idx ci N n2 : Nat} {q2 : Nat × Nat} {Cn : String} {T : u_T} (hd : decode M.cc pc = .ok (.new idx, 3)) (hcl : ClsOK ci Cn T N) (hl : Cond.classLink M.y.cls idx Cn ∈ lw_gt) (hi : Cond.instantiable Cn N ∈ lw_gt) (hini : Cond.initialized Cn ∈ lw_gt) (hok : ∀ j, j < N → okTy (tyX ci j) = true) (hs : sh n = (ci, N)) (hn : n + 1 = n2) (hq : (q.1 + 1, q.2 + N) = q2) (h1 : q2.1 ≤ M.mc) (h2 : q2.2 ≤ M.ms)
    (k : JL Φ l M K X (pc + 3) L ((2, (n : Int)) :: S) n2 (newC C (n : Int) (dflt ci)) q2) : JL Φ l M K X pc L S n C q := by
  subst hn
  subst hq
  exact jl_new hd hcl hl hi hini (fun j hj => dv_of (hok j hj)) hs h1 h2 k
theorem kl_call {M' : MC} {b : Int} {idx n2 : Nat} {q2 : Nat × Nat} {C2 : Hp} (hd : decode M.cc pc = .ok (.invokespecial idx, 3)) (hY : YOK M' 0) (hl : Cond.methodLink M.y.cls idx M'.y ∈ lw_gt ∨ ∃ host : String, Cond.methodLinkNest M.y.cls idx M'.y host ∈ lw_ns) (hi : Cond.instanceMethod M'.y ∈ lw_gt) (hy1 : M'.y.name = "<init>") (hret : M'.ret = none) (hb0 : 0 ≤ b) (hR : RmOK M M') (hS8 : wt S ≤ 8) (hn : n + M'.mc = n2) (hq : (q.1 + M'.mc, q.2 + M'.ms) = q2) (h1 : q2.1 ≤ M.mc) (h2 : q2.2 ≤ M.ms)
    (hc : Ct l M' [(2, b)] n C (none, n2, C2)) (k : JL Φ l M K X (pc + 3) L S n2 C2 q2) : JL Φ l M K X pc L ((2, b) :: S) n C q := by
  subst hn
  subst hq
  exact jl_callI (F := some ()) (Xk := fun _ => X) (Kc := fun _ => (none, n + M'.mc, C2)) (As := []) (S := S) hd hY hl hi hy1 hret hb0 hR hS8 h1 h2 (fun _ _ => hc) (fun _ => rfl) (fun _ _ => k)
theorem jl_ifeq_yes {a off : Int} {tgt : Nat} (hd : decode M.cc pc = .ok (.ifCond .eq off, 3)) (ht : (pc : Int) + off = (tgt : Int)) (h : a = 0) (k : JL Φ l M K X tgt L S n C q) : JL Φ l M K X pc L ((0, a) :: S) n C q := by
  have := jl_if_eq (X1 := X) (X2 := X) hd ht (fun _ => k) (fun h9 => absurd h h9)
  rwa [if_pos h] at this
theorem jl_ifeq_no {a off : Int} {tgt : Nat} (hd : decode M.cc pc = .ok (.ifCond .eq off, 3)) (ht : (pc : Int) + off = (tgt : Int)) (h : ¬ a = 0) (k : JL Φ l M K X (pc + 3) L S n C q) : JL Φ l M K X pc L ((0, a) :: S) n C q := by
  have := jl_if_eq (X1 := X) (X2 := X) hd ht (fun h9 => absurd h9 h) (fun _ => k)
  rwa [if_neg h] at this
theorem jl_eq_yes {a b off : Int} {tgt : Nat} (hd : decode M.cc pc = .ok (.if_icmp .eq off, 3)) (ht : (pc : Int) + off = (tgt : Int)) (h : a = b) (k : JL Φ l M K X tgt L S n C q) : JL Φ l M K X pc L ((0, b) :: (0, a) :: S) n C q := by
  have := jl_icmp_eq (X1 := X) (X2 := X) hd ht (fun _ => k) (fun h9 => absurd h h9)
  rwa [if_pos h] at this
theorem jl_gt_no {a b off : Int} {tgt : Nat} (hd : decode M.cc pc = .ok (.if_icmp .gt off, 3)) (ht : (pc : Int) + off = (tgt : Int)) (h : a ≤ b) (k : JL Φ l M K X (pc + 3) L S n C q) : JL Φ l M K X pc L ((0, b) :: (0, a) :: S) n C q := by
  have := jl_icmp_gt (X1 := X) (X2 := X) hd ht (fun _ => k) (fun h9 => absurd h h9)
  rwa [if_pos h] at this
theorem jl_gt_yes {a b off : Int} {tgt : Nat} (hd : decode M.cc pc = .ok (.if_icmp .gt off, 3)) (ht : (pc : Int) + off = (tgt : Int)) (h : ¬ a ≤ b) (k : JL Φ l M K X tgt L S n C q) : JL Φ l M K X pc L ((0, b) :: (0, a) :: S) n C q := by
  have := jl_icmp_gt (X1 := X) (X2 := X) hd ht (fun h9 => absurd h9 h) (fun _ => k)
  rwa [if_neg h] at this
theorem jl_call {M' : MC} {v : AV} {C2 : Hp} {b : Int} {ci N k : Nat} {idx : Nat} {As stk : List AV} (hd : decode M.cc pc = .ok (.invokevirtual idx, 3)) (hI : IM M' k ci N) (hl : LK M M' idx) (hk : As.length = k) (hst : As.reverse ++ (2, b) :: S = stk) (hob : OB n b ci N) (hR : RmOK M M') (hS8 : wt S ≤ 8) (h1 : q.1 ≤ M.mc) (h2 : q.2 ≤ M.ms) (hc : Ct l M' ((2, b) :: As) n C (some v, n, C2)) (kk : JL Φ l M K X (pc + 3) L (v :: S) n C2 q) : JL Φ l M K X pc L stk n C q := by
  obtain ⟨hY, hi, hs, ⟨T, N2, hcl⟩, hm1, hm2⟩ := hI
  subst hst
  subst hk
  have h := jl_callV (Φ := Φ) (l := l) (M := M) (K := K) (pc := pc) (L := L) (S := S) (C := C) (n := n) (q := q) (F := some ()) (Xk := fun _ => X) (M' := M') (Kc := fun _ => (some v, n, C2)) (b := b) (As := As) hd hY hl hi hs hcl hob hR hS8 (by rw [hm1]; exact h1) (by rw [hm2]; exact h2) (fun _ _ => hc) (fun _ => by rw [hm1]; rfl) (fun _ _ => by rw [hm1, hm2]; exact kk)
  exact h
/-- what is known of the script -/
def PhiS (Lx : Nat) (xs : Nat → Int32) : WP → State → Prop := fun w s => va_X (w.2.2.2 30) Lx xs s w.1 ∧ w.2.2.2 30 < wb w
def zx (xs : Nat → Int32) (j : Nat) : Int := (xs j).toInt
theorem zx_r {xs : Nat → Int32} {j : Nat} : r32 (zx xs j) := by
  have h1 := Int32.toInt_lt (xs j)
  have h2 := Int32.le_toInt (xs j)
  unfold r32 zx
  omega
theorem lcmp_self (a : Int) : lcmp a a = 0 := by
  unfold lcmp
  rw [if_neg (by omega), if_pos rfl]
theorem jl_slen {Lx : Nat} {xs : Nat → Int32} (hd : decode M.cc pc = .ok (.arraylength, 1)) (hL : Lx ≤ 3072) (k : JL (PhiS Lx xs) l M K X (pc + 1) L ((0, (Lx : Int)) :: S) n C q) : JL (PhiS Lx xs) l M K X pc L ((3, 30) :: S) n C q := by
  intro r hr w p e R s m args below meth c H locs ls Qf cx hx ro rt wr vs lr rs hsz
  have hX : va_X (w.2.2.2 30) Lx xs s s.heap := hx.1.kept (cx.2.2.2.2.2.2.2.1 _ hx.2)
  have h := k r hr w p e R s m args below meth c H locs ls Qf cx hx ro rt wr vs lr (RgL.cons (rg0 (by unfold r32; omega)) rs.tl) hsz
  have e9 : conc w (0, (Lx : Int)) = .int (Int32.ofNat Lx) := congrArg Value.int Int32.ofInt_eq_ofNat
  rw [List.map_cons, e9] at h
  exact va_slen cx.1 cx.2.1 hX (Nat.lt_of_lt_of_le hx.2 cx.2.2.2.2.2.2.1) (Nat.not_le.mpr hx.2) vs hd h
theorem jl_sld {Lx i : Nat} {xs : Nat → Int32} (hd : decode M.cc pc = .ok (.iaload, 1)) (hi : i < Lx) (k : JL (PhiS Lx xs) l M K X (pc + 1) L ((0, zx xs i) :: S) n C q) : JL (PhiS Lx xs) l M K X pc L ((0, (i : Int)) :: (3, 30) :: S) n C q := by
  intro r hr w p e R s m args below meth c H locs ls Qf cx hx ro rt wr vs lr rs hsz
  have hX : va_X (w.2.2.2 30) Lx xs s s.heap := hx.1.kept (cx.2.2.2.2.2.2.2.1 _ hx.2)
  have ri : r32 (i : Int) := rs.hd.1 rfl
  have h := k r hr w p e R s m args below meth c H locs ls Qf cx hx ro rt wr vs lr (RgL.cons (rg0 zx_r) rs.tl.tl) hsz
  have e9 : conc w (0, zx xs i) = .int (xs i) := congrArg Value.int (I32_of (xs i))
  rw [List.map_cons, e9] at h
  refine va_sld (i := I32 (i : Int)) cx.1 cx.2.1 hX (Nat.lt_of_lt_of_le hx.2 cx.2.2.2.2.2.2.1) (Nat.not_le.mpr hx.2) vs (in_I (by omega) (by omega) ri) hd ?_
  rw [clamp_I (by omega) ri, Int.toNat_natCast]
  exact h
theorem jl_congr {C' : Hp} (h : ∀ k : Nat, k < n → ∀ j : Nat, j < (sh k).2 → C (k : Int) (j : Int) = C' (k : Int) (j : Int)) (hr9 : RgH C') (k : JL Φ l M K X pc L S n C' q) : JL Φ l M K X pc L S n C q := by
  intro r hr w p e R s m args below meth c H locs ls Qf cx hx ro rt wr vs lr rs hsz
  exact k r hr w p e R s m args below meth c H locs ls Qf cx hx ro rt (WRel.congr h hr9 wr) vs lr rs hsz
end LRULES
abbrev ML (nm : String) : MC := (⟨RL, nm, "([I)Z"⟩, code, 4, (some .boolean : Option FieldType), 28, 224, 17090)
abbrev KL : Hp × Hp → Option AV × Nat × Hp := fun r => (some (0, 1), 224, fu r.1 r.2)
abbrev LL (i : Nat) : List AV := [(3, 30), (2, 0), (2, 201), (0, (i : Int))]
abbrev JX (l : Launch) (nm : String) (Lx : Nat) (xs : Nat → Int32) (r : Hp × Hp) (pc i : Nat) (S : List AV) (C : Hp) : Prop := JL (PhiS Lx xs) l (ML nm) KL (some r) pc (LL i) S 224 C (224, 17090)
/-- action 0 of the script: both sides answer alike and stay alike -/
def Op0 (Inv : Hp → Hp → Prop) : Prop := ∀ Gc Gm, Inv Gc Gm → ∀ a1 a2 a3 a4 a5 : Int, r32 a1 → r32 a2 → r32 a3 → r32 a4 → r32 a5 → ∃ (rc : Int × Hp) (rm : Int × Hp), cX_feed a1 a2 a3 a4 a5 Gc = some rc ∧ mm_feed a1 a2 a3 a4 a5 Gm = some rm ∧ rc.1 = rm.1 ∧ Inv (rc.2) (rm.2)
/-- action 1 of the script: both sides answer alike and stay alike -/
def Op1 (Inv : Hp → Hp → Prop) : Prop := ∀ Gc Gm, Inv Gc Gm → ∀ a1 : Int, r32 a1 → ∃ (rc : Int × Hp) (rm : Int × Hp), cX_end a1 Gc = some rc ∧ mm_end a1 Gm = some rm ∧ rc.1 = rm.1 ∧ Inv (rc.2) (rm.2)
/-- action 2 of the script: both sides answer alike and stay alike -/
def Op2 (Inv : Hp → Hp → Prop) : Prop := ∀ Gc Gm, Inv Gc Gm → ∀ a1 a2 : Int, r32 a1 → r32 a2 → ∃ (rc : Int × Hp) (rm : Int × Hp), cX_text a1 a2 Gc = some rc ∧ mm_text a1 a2 Gm = some rm ∧ rc.1 = rm.1 ∧ Inv (rc.2) (rm.2)
/-- action 3 of the script: both sides answer alike and stay alike -/
def Op3 (Inv : Hp → Hp → Prop) : Prop := ∀ Gc Gm, Inv Gc Gm → ∀ a1 : Int, r32 a1 → ∃ (rc : Int) (rm : Int), cX_fault a1 Gc = some rc ∧ mm_fault a1 Gm = some rm ∧ rc = rm ∧ Inv (Gc) (Gm)
/-- action 4 of the script: both sides answer alike and stay alike -/
def Op4 (Inv : Hp → Hp → Prop) : Prop := ∀ Gc Gm, Inv Gc Gm → ∀ a1 a2 : Int, r32 a1 → r32 a2 → ∃ (rc : Int) (rm : Int × Hp), cX_paper a1 a2 Gc = some rc ∧ mm_paper a1 a2 Gm = some rm ∧ rc = rm.1 ∧ Inv (Gc) (rm.2)
/-- action 5 of the script: both sides answer alike and stay alike -/
def Op5 (Inv : Hp → Hp → Prop) : Prop := ∀ Gc Gm, Inv Gc Gm → ∀ a1 a2 a3 : Int, r32 a1 → r32 a2 → r32 a3 → ∃ (rc : Int) (rm : Int × Hp), cX_deed a1 a2 a3 Gc = some rc ∧ mm_deed a1 a2 a3 Gm = some rm ∧ rc = rm.1 ∧ Inv (Gc) (rm.2)
/-- action 6 of the script: both sides answer alike and stay alike -/
def Op6 (Inv : Hp → Hp → Prop) : Prop := ∀ Gc Gm, Inv Gc Gm → ∀ a1 a2 : Int, r32 a1 → r32 a2 → ∃ (rc : Int × Hp) (rm : Int × Hp), cX_stop a1 a2 Gc = some rc ∧ mm_stop a1 a2 Gm = some rm ∧ rc.1 = rm.1 ∧ Inv (rc.2) (rm.2)
/-- action 7 of the script: both sides answer alike and stay alike -/
def Op7 (Inv : Hp → Hp → Prop) : Prop := ∀ Gc Gm, Inv Gc Gm → ∀ a1 a2 a3 a4 : Int, r32 a1 → r32 a2 → r32 a3 → r32 a4 → ∃ (rc : Int × Hp) (rm : Int × Hp), cX_state a1 a2 a3 a4 Gc = some rc ∧ mm_state a1 a2 a3 a4 Gm = some rm ∧ rc.1 = rm.1 ∧ Inv (rc.2) (rm.2)
/-- action 8 of the script: both sides answer alike and stay alike -/
def Op8 (Inv : Hp → Hp → Prop) : Prop := ∀ Gc Gm, Inv Gc Gm → ∀ a1 a2 a3 : Int, r32 a1 → r32 a2 → r32 a3 → ∃ (rc : Int × Hp) (rm : Int × Hp), cX_steps a1 a2 a3 Gc = some rc ∧ mm_steps a1 a2 a3 Gm = some rm ∧ rc.1 = rm.1 ∧ Inv (rc.2) (rm.2)
/-- action 9 of the script: both sides answer alike and stay alike -/
def Op9 (Inv : Hp → Hp → Prop) : Prop := ∀ Gc Gm, Inv Gc Gm → ∀ a1 a2 a3 : Int, r32 a1 → r32 a2 → r32 a3 → ∃ (rc : Int × Hp) (rm : Int × Hp), cX_towards a1 a2 a3 Gc = some rc ∧ mm_towards a1 a2 a3 Gm = some rm ∧ rc.1 = rm.1 ∧ Inv (rc.2) (rm.2)
/-- action 10 of the script: both sides answer alike and stay alike -/
def Op10 (Inv : Hp → Hp → Prop) : Prop := ∀ Gc Gm, Inv Gc Gm → ∀ a1 a2 a3 : Int, r32 a1 → r32 a2 → r32 a3 → ∃ (rc : Int × Hp) (rm : Int × Hp), cX_reading a1 a2 a3 Gc = some rc ∧ mm_reading a1 a2 a3 Gm = some rm ∧ rc.1 = rm.1 ∧ Inv (rc.2) (rm.2)
/-- action 11 of the script: both sides answer alike and stay alike -/
def Op11 (Inv : Hp → Hp → Prop) : Prop := ∀ Gc Gm, Inv Gc Gm → ∀ a1 a2 : Int, r32 a1 → r32 a2 → ∃ (rc : Int × Hp) (rm : Int × Hp), cX_rounds a1 a2 Gc = some rc ∧ mm_rounds a1 a2 Gm = some rm ∧ rc.1 = rm.1 ∧ Inv (rc.2) (rm.2)
/-- action 12 of the script: both sides answer alike and stay alike -/
def Op12 (Inv : Hp → Hp → Prop) : Prop := ∀ Gc Gm, Inv Gc Gm → ∀ a1 a2 : Int, r32 a1 → r32 a2 → ∃ (rc : Int × Hp) (rm : Int × Hp), cX_order a1 a2 Gc = some rc ∧ mm_order a1 a2 Gm = some rm ∧ rc.1 = rm.1 ∧ Inv (rc.2) (rm.2)
/-- action 13 of the script: both sides answer alike and stay alike -/
def Op13 (Inv : Hp → Hp → Prop) : Prop := ∀ Gc Gm, Inv Gc Gm → ∀ a1 a2 a3 : Int, r32 a1 → r32 a2 → r32 a3 → ∃ (rc : Int × Hp) (rm : Int × Hp), cX_desks a1 a2 a3 Gc = some rc ∧ mm_desks a1 a2 a3 Gm = some rm ∧ rc.1 = rm.1 ∧ Inv (rc.2) (rm.2)
/-- action 14 of the script: both sides answer alike and stay alike -/
def Op14 (Inv : Hp → Hp → Prop) : Prop := ∀ Gc Gm, Inv Gc Gm → ∀ a1 a2 a3 a4 a5 : Int, r32 a1 → r32 a2 → r32 a3 → r32 a4 → (a5 = 0 ∨ a5 = 1) → ∃ (rc : Int × Hp) (rm : Int × Hp), cX_quarrel a1 a2 a3 a4 a5 Gc = some rc ∧ mm_quarrel a1 a2 a3 a4 a5 Gm = some rm ∧ rc.1 = rm.1 ∧ Inv (rc.2) (rm.2)
/-- action 15 of the script: both sides answer alike and stay alike -/
def Op15 (Inv : Hp → Hp → Prop) : Prop := ∀ Gc Gm, Inv Gc Gm → ∀ a1 a2 : Int, r32 a1 → (a2 = 0 ∨ a2 = 1) → ∃ (rc : Int × Hp) (rm : Int × Hp), cX_signs a1 a2 Gc = some rc ∧ mm_signs a1 a2 Gm = some rm ∧ rc.1 = rm.1 ∧ Inv (rc.2) (rm.2)
/-- action 16 of the script: both sides answer alike and stay alike -/
def Op16 (Inv : Hp → Hp → Prop) : Prop := ∀ Gc Gm, Inv Gc Gm → ∀ a1 a2 : Int, r32 a1 → r32 a2 → ∃ (rc : Int × Hp) (rm : Int × Hp), cX_vote a1 a2 Gc = some rc ∧ mm_vote a1 a2 Gm = some rm ∧ rc.1 = rm.1 ∧ Inv (rc.2) (rm.2)
/-- action 17 of the script: both sides answer alike and stay alike -/
def Op17 (Inv : Hp → Hp → Prop) : Prop := ∀ Gc Gm, Inv Gc Gm → ∀ a1 a2 a3 a4 : Int, r32 a1 → r32 a2 → r32 a3 → (a4 = 0 ∨ a4 = 1) → ∃ (rc : Int) (rm : Int × Hp), cX_come a1 a2 a3 a4 Gc = some rc ∧ mm_come a1 a2 a3 a4 Gm = some rm ∧ rc = rm.1 ∧ Inv (Gc) (rm.2)
/-- action 18 of the script: both sides answer alike and stay alike -/
def Op18 (Inv : Hp → Hp → Prop) : Prop := ∀ Gc Gm, Inv Gc Gm → ∀ a1 a2 a3 : Int, r32 a1 → r32 a2 → r32 a3 → ∃ (rc : Int) (rm : Int × Hp), cX_fact a1 a2 a3 Gc = some rc ∧ mm_fact a1 a2 a3 Gm = some rm ∧ rc = rm.1 ∧ Inv (Gc) (rm.2)
/-- action 19 of the script: both sides answer alike and stay alike -/
def Op19 (Inv : Hp → Hp → Prop) : Prop := ∀ Gc Gm, Inv Gc Gm → ∀ a1 a2 a3 : Int, r32 a1 → r32 a2 → r32 a3 → ∃ (rc : Int × Hp) (rm : Int × Hp), cX_fits a1 a2 a3 Gc = some rc ∧ mm_fits a1 a2 a3 Gm = some rm ∧ rc.1 = rm.1 ∧ Inv (rc.2) (rm.2)
/-- action 20 of the script: both sides answer alike and stay alike -/
def Op20 (Inv : Hp → Hp → Prop) : Prop := ∀ Gc Gm, Inv Gc Gm → ∀ a1 a2 a3 a4 a5 : Int, r32 a1 → r32 a2 → r32 a3 → r32 a4 → (a5 = 0 ∨ a5 = 1) → ∃ (rc : Int × Hp) (rm : Int × Hp), cX_ahead a1 a2 a3 a4 a5 Gc = some rc ∧ mm_ahead a1 a2 a3 a4 a5 Gm = some rm ∧ rc.1 = rm.1 ∧ Inv (rc.2) (rm.2)
/-- action 21 of the script: both sides answer alike and stay alike -/
def Op21 (Inv : Hp → Hp → Prop) : Prop := ∀ Gc Gm, Inv Gc Gm → ∀ a1 a2 a3 a4 : Int, r32 a1 → r32 a2 → r32 a3 → r32 a4 → ∃ (rc : Int × Hp) (rm : Int × Hp), cX_drawn a1 a2 a3 a4 Gc = some rc ∧ mm_drawn a1 a2 a3 a4 Gm = some rm ∧ rc.1 = rm.1 ∧ Inv (rc.2) (rm.2)
/-- action 22 of the script: both sides answer alike and stay alike -/
def Op22 (Inv : Hp → Hp → Prop) : Prop := ∀ Gc Gm, Inv Gc Gm → ∀ a1 a2 : Int, r32 a1 → r32 a2 → ∃ (rc : Int × Hp) (rm : Int × Hp), cX_kin a1 a2 Gc = some rc ∧ mm_kin a1 a2 Gm = some rm ∧ rc.1 = rm.1 ∧ Inv (rc.2) (rm.2)
/-- action 23 of the script: both sides answer alike and stay alike -/
def Op23 (Inv : Hp → Hp → Prop) : Prop := ∀ Gc Gm, Inv Gc Gm → ∀ a1 a2 a3 : Int, r32 a1 → r32 a2 → r32 a3 → ∃ (rc : Int × Hp) (rm : Int × Hp), cX_distance a1 a2 a3 Gc = some rc ∧ mm_distance a1 a2 a3 Gm = some rm ∧ rc.1 = rm.1 ∧ Inv (rc.2) (rm.2)
/-- action 24 of the script: both sides answer alike and stay alike -/
def Op24 (Inv : Hp → Hp → Prop) : Prop := ∀ Gc Gm, Inv Gc Gm → ∀ a1 a2 : Int, r32 a1 → (a2 = 0 ∨ a2 = 1) → ∃ (rc : Int × Hp) (rm : Int × Hp), cX_peace a1 a2 Gc = some rc ∧ mm_peace a1 a2 Gm = some rm ∧ rc.1 = rm.1 ∧ Inv (rc.2) (rm.2)
/-- action 25 of the script: both sides answer alike and stay alike -/
def Op25 (Inv : Hp → Hp → Prop) : Prop := ∀ Gc Gm, Inv Gc Gm → ∀ a1 a2 a3 : Int, r32 a1 → r32 a2 → (a3 = 0 ∨ a3 = 1) → ∃ (rc : Int × Hp) (rm : Int × Hp), cX_median a1 a2 a3 Gc = some rc ∧ mm_median a1 a2 a3 Gm = some rm ∧ rc.1 = rm.1 ∧ Inv (rc.2) (rm.2)
/-- action 26 of the script: both sides answer alike and stay alike -/
def Op26 (Inv : Hp → Hp → Prop) : Prop := ∀ Gc Gm, Inv Gc Gm → ∀ a1 a2 : Int, r32 a1 → r32 a2 → ∃ (rc : Int × Hp) (rm : Int × Hp), cX_rise a1 a2 Gc = some rc ∧ mm_rise a1 a2 Gm = some rm ∧ rc.1 = rm.1 ∧ Inv (rc.2) (rm.2)
/-- action 27 of the script: both sides answer alike and stay alike -/
def Op27 (Inv : Hp → Hp → Prop) : Prop := ∀ Gc Gm, Inv Gc Gm → ∀ a1 a2 : Int, r32 a1 → r32 a2 → ∃ (rc : Int × Hp) (rm : Int × Hp), cX_lastWord a1 a2 Gc = some rc ∧ mm_lastWord a1 a2 Gm = some rm ∧ rc.1 = rm.1 ∧ Inv (rc.2) (rm.2)
/-- action 28 of the script: both sides answer alike and stay alike -/
def Op28 (Inv : Hp → Hp → Prop) : Prop := ∀ Gc Gm, Inv Gc Gm → ∀ a1 a2 a3 : Int, r32 a1 → r32 a2 → r32 a3 → ∃ (rc : Int × Hp) (rm : Int × Hp), cX_after a1 a2 a3 Gc = some rc ∧ mm_after a1 a2 a3 Gm = some rm ∧ rc.1 = rm.1 ∧ Inv (rc.2) (rm.2)
/-- action 29 of the script: both sides answer alike and stay alike -/
def Op29 (Inv : Hp → Hp → Prop) : Prop := ∀ Gc Gm, Inv Gc Gm → ∀ a1 a2 a3 : Int, r32 a1 → r32 a2 → r32 a3 → ∃ (rc : Int × Hp) (rm : Int × Hp), cX_firsts a1 a2 a3 Gc = some rc ∧ mm_firsts a1 a2 a3 Gm = some rm ∧ rc.1 = rm.1 ∧ Inv (rc.2) (rm.2)
/-- action 30 of the script: both sides answer alike and stay alike -/
def Op30 (Inv : Hp → Hp → Prop) : Prop := ∀ Gc Gm, Inv Gc Gm → ∀ a1 : Int, r32 a1 → ∃ (rc : Int) (rm : Int), cX_count a1 Gc = some rc ∧ mm_count a1 Gm = some rm ∧ rc = rm ∧ Inv (Gc) (Gm)
/-- action 31 of the script: both sides answer alike and stay alike -/
def Op31 (Inv : Hp → Hp → Prop) : Prop := ∀ Gc Gm, Inv Gc Gm → ∀ a1 : Int, r32 a1 → ∃ (rc : Bool × Hp) (rm : Bool × Hp), cX_image a1 Gc = some rc ∧ mm_image a1 Gm = some rm ∧ rc.1 = rm.1 ∧ Inv (rc.2) (rm.2)
/-- action 32 of the script: both sides answer alike and stay alike -/
def Op32 (Inv : Hp → Hp → Prop) : Prop := ∀ Gc Gm, Inv Gc Gm → ∀ a1 : Int, r32 a1 → ∃ (rc : Bool × Hp) (rm : Bool × Hp), cX_again a1 Gc = some rc ∧ mm_again a1 Gm = some rm ∧ rc.1 = rm.1 ∧ Inv (rc.2) (rm.2)
theorem ll_mk {nm : String} {M' : MC} {idx : Nat} (h : Cond.methodLink RL idx M'.y ∈ lw_gt) : LK (ML nm) M' idx := Or.inl h
theorem law_c7 : Cond.classLink RL 7 RX10 ∈ lw_gt := (gt_in 157 (by decide +kernel) (by decide +kernel))
theorem law_m9 : Cond.methodLink RL 9 M_kLine.y ∈ lw_gt := (gt_in 159 (by decide +kernel) (by decide +kernel))
theorem law_c10 : Cond.classLink RL 10 RX11 ∈ lw_gt := (gt_in 1287 (by decide +kernel) (by decide +kernel))
theorem law_m12 : Cond.methodLink RL 12 M_kModel.y ∈ lw_gt := (gt_in 1289 (by decide +kernel) (by decide +kernel))
theorem ll_13 {nm : String} : LK (ML nm) M_cX_feed 13 := ll_mk (gt_in 560 (by decide +kernel) (by decide +kernel))
theorem ll_17 {nm : String} : LK (ML nm) M_mm_feed 17 := ll_mk (gt_in 1435 (by decide +kernel) (by decide +kernel))
theorem ll_18 {nm : String} : LK (ML nm) M_cX_end 18 := ll_mk (gt_in 568 (by decide +kernel) (by decide +kernel))
theorem ll_22 {nm : String} : LK (ML nm) M_mm_end 22 := ll_mk (gt_in 1439 (by decide +kernel) (by decide +kernel))
theorem ll_23 {nm : String} : LK (ML nm) M_cX_text 23 := ll_mk (gt_in 572 (by decide +kernel) (by decide +kernel))
theorem ll_27 {nm : String} : LK (ML nm) M_mm_text 27 := ll_mk (gt_in 1443 (by decide +kernel) (by decide +kernel))
theorem ll_28 {nm : String} : LK (ML nm) M_cX_fault 28 := ll_mk (gt_in 773 (by decide +kernel) (by decide +kernel))
theorem ll_31 {nm : String} : LK (ML nm) M_mm_fault 31 := ll_mk (gt_in 1542 (by decide +kernel) (by decide +kernel))
theorem ll_32 {nm : String} : LK (ML nm) M_cX_paper 32 := ll_mk (gt_in 795 (by decide +kernel) (by decide +kernel))
theorem ll_35 {nm : String} : LK (ML nm) M_mm_paper 35 := ll_mk (gt_in 1546 (by decide +kernel) (by decide +kernel))
theorem ll_36 {nm : String} : LK (ML nm) M_cX_deed 36 := ll_mk (gt_in 814 (by decide +kernel) (by decide +kernel))
theorem ll_40 {nm : String} : LK (ML nm) M_mm_deed 40 := ll_mk (gt_in 1844 (by decide +kernel) (by decide +kernel))
theorem ll_41 {nm : String} : LK (ML nm) M_cX_stop 41 := ll_mk (gt_in 830 (by decide +kernel) (by decide +kernel))
theorem ll_44 {nm : String} : LK (ML nm) M_mm_stop 44 := ll_mk (gt_in 1852 (by decide +kernel) (by decide +kernel))
theorem ll_45 {nm : String} : LK (ML nm) M_cX_state 45 := ll_mk (gt_in 893 (by decide +kernel) (by decide +kernel))
theorem ll_49 {nm : String} : LK (ML nm) M_mm_state 49 := ll_mk (gt_in 1884 (by decide +kernel) (by decide +kernel))
theorem ll_50 {nm : String} : LK (ML nm) M_cX_steps 50 := ll_mk (gt_in 935 (by decide +kernel) (by decide +kernel))
theorem ll_53 {nm : String} : LK (ML nm) M_mm_steps 53 := ll_mk (gt_in 1590 (by decide +kernel) (by decide +kernel))
theorem ll_54 {nm : String} : LK (ML nm) M_cX_towards 54 := ll_mk (gt_in 943 (by decide +kernel) (by decide +kernel))
theorem ll_57 {nm : String} : LK (ML nm) M_mm_towards 57 := ll_mk (gt_in 1597 (by decide +kernel) (by decide +kernel))
theorem ll_58 {nm : String} : LK (ML nm) M_cX_reading 58 := ll_mk (gt_in 991 (by decide +kernel) (by decide +kernel))
theorem ll_61 {nm : String} : LK (ML nm) M_mm_reading 61 := ll_mk (gt_in 1609 (by decide +kernel) (by decide +kernel))
theorem ll_62 {nm : String} : LK (ML nm) M_cX_rounds 62 := ll_mk (gt_in 1010 (by decide +kernel) (by decide +kernel))
theorem ll_65 {nm : String} : LK (ML nm) M_mm_rounds 65 := ll_mk (gt_in 1629 (by decide +kernel) (by decide +kernel))
theorem ll_66 {nm : String} : LK (ML nm) M_cX_order 66 := ll_mk (gt_in 1193 (by decide +kernel) (by decide +kernel))
theorem ll_69 {nm : String} : LK (ML nm) M_mm_order 69 := ll_mk (gt_in 1649 (by decide +kernel) (by decide +kernel))
theorem ll_70 {nm : String} : LK (ML nm) M_cX_desks 70 := ll_mk (gt_in 1084 (by decide +kernel) (by decide +kernel))
theorem ll_73 {nm : String} : LK (ML nm) M_mm_desks 73 := ll_mk (gt_in 1669 (by decide +kernel) (by decide +kernel))
theorem ll_74 {nm : String} : LK (ML nm) M_cX_quarrel 74 := ll_mk (gt_in 1100 (by decide +kernel) (by decide +kernel))
theorem ll_78 {nm : String} : LK (ML nm) M_mm_quarrel 78 := ll_mk (gt_in 1681 (by decide +kernel) (by decide +kernel))
theorem ll_79 {nm : String} : LK (ML nm) M_cX_signs 79 := ll_mk (gt_in 1121 (by decide +kernel) (by decide +kernel))
theorem ll_83 {nm : String} : LK (ML nm) M_mm_signs 83 := ll_mk (gt_in 1702 (by decide +kernel) (by decide +kernel))
theorem ll_84 {nm : String} : LK (ML nm) M_cX_vote 84 := ll_mk (gt_in 1133 (by decide +kernel) (by decide +kernel))
theorem ll_87 {nm : String} : LK (ML nm) M_mm_vote 87 := ll_mk (gt_in 1717 (by decide +kernel) (by decide +kernel))
theorem ll_88 {nm : String} : LK (ML nm) M_cX_come 88 := ll_mk (gt_in 1281 (by decide +kernel) (by decide +kernel))
theorem ll_92 {nm : String} : LK (ML nm) M_mm_come 92 := ll_mk (gt_in 1721 (by decide +kernel) (by decide +kernel))
theorem ll_93 {nm : String} : LK (ML nm) M_cX_fact 93 := ll_mk (gt_in 822 (by decide +kernel) (by decide +kernel))
theorem ll_96 {nm : String} : LK (ML nm) M_mm_fact 96 := ll_mk (gt_in 1904 (by decide +kernel) (by decide +kernel))
theorem ll_97 {nm : String} : LK (ML nm) M_cX_fits 97 := ll_mk (gt_in 1226 (by decide +kernel) (by decide +kernel))
theorem ll_100 {nm : String} : LK (ML nm) M_mm_fits 100 := ll_mk (gt_in 1912 (by decide +kernel) (by decide +kernel))
theorem ll_101 {nm : String} : LK (ML nm) M_cX_ahead 101 := ll_mk (gt_in 1254 (by decide +kernel) (by decide +kernel))
theorem ll_104 {nm : String} : LK (ML nm) M_mm_ahead 104 := ll_mk (gt_in 1944 (by decide +kernel) (by decide +kernel))
theorem ll_105 {nm : String} : LK (ML nm) M_cX_drawn 105 := ll_mk (gt_in 913 (by decide +kernel) (by decide +kernel))
theorem ll_108 {nm : String} : LK (ML nm) M_mm_drawn 108 := ll_mk (gt_in 1952 (by decide +kernel) (by decide +kernel))
theorem ll_109 {nm : String} : LK (ML nm) M_cX_kin 109 := ll_mk (gt_in 948 (by decide +kernel) (by decide +kernel))
theorem ll_112 {nm : String} : LK (ML nm) M_mm_kin 112 := ll_mk (gt_in 1736 (by decide +kernel) (by decide +kernel))
theorem ll_113 {nm : String} : LK (ML nm) M_cX_distance 113 := ll_mk (gt_in 1027 (by decide +kernel) (by decide +kernel))
theorem ll_116 {nm : String} : LK (ML nm) M_mm_distance 116 := ll_mk (gt_in 1764 (by decide +kernel) (by decide +kernel))
theorem ll_117 {nm : String} : LK (ML nm) M_cX_peace 117 := ll_mk (gt_in 1141 (by decide +kernel) (by decide +kernel))
theorem ll_120 {nm : String} : LK (ML nm) M_mm_peace 120 := ll_mk (gt_in 1780 (by decide +kernel) (by decide +kernel))
theorem ll_121 {nm : String} : LK (ML nm) M_cX_median 121 := ll_mk (gt_in 1149 (by decide +kernel) (by decide +kernel))
theorem ll_125 {nm : String} : LK (ML nm) M_mm_median 125 := ll_mk (gt_in 1788 (by decide +kernel) (by decide +kernel))
theorem ll_126 {nm : String} : LK (ML nm) M_cX_rise 126 := ll_mk (gt_in 1157 (by decide +kernel) (by decide +kernel))
theorem ll_129 {nm : String} : LK (ML nm) M_mm_rise 129 := ll_mk (gt_in 1796 (by decide +kernel) (by decide +kernel))
theorem ll_130 {nm : String} : LK (ML nm) M_cX_lastWord 130 := ll_mk (gt_in 1050 (by decide +kernel) (by decide +kernel))
theorem ll_133 {nm : String} : LK (ML nm) M_mm_lastWord 133 := ll_mk (gt_in 1824 (by decide +kernel) (by decide +kernel))
theorem ll_134 {nm : String} : LK (ML nm) M_cX_after 134 := ll_mk (gt_in 905 (by decide +kernel) (by decide +kernel))
theorem ll_137 {nm : String} : LK (ML nm) M_mm_after 137 := ll_mk (gt_in 1892 (by decide +kernel) (by decide +kernel))
theorem ll_138 {nm : String} : LK (ML nm) M_cX_firsts 138 := ll_mk (gt_in 1265 (by decide +kernel) (by decide +kernel))
theorem ll_141 {nm : String} : LK (ML nm) M_mm_firsts 141 := ll_mk (gt_in 1948 (by decide +kernel) (by decide +kernel))
theorem ll_142 {nm : String} : LK (ML nm) M_cX_count 142 := ll_mk (gt_in 777 (by decide +kernel) (by decide +kernel))
theorem ll_145 {nm : String} : LK (ML nm) M_mm_count 145 := ll_mk (gt_in 1965 (by decide +kernel) (by decide +kernel))
theorem ll_146 {nm : String} : LK (ML nm) M_cX_image 146 := ll_mk (gt_in 781 (by decide +kernel) (by decide +kernel))
theorem ll_150 {nm : String} : LK (ML nm) M_mm_image 150 := ll_mk (gt_in 1969 (by decide +kernel) (by decide +kernel))
theorem ll_151 {nm : String} : LK (ML nm) M_cX_again 151 := ll_mk (gt_in 791 (by decide +kernel) (by decide +kernel))
theorem ll_154 {nm : String} : LK (ML nm) M_mm_again 154 := ll_mk (gt_in 1973 (by decide +kernel) (by decide +kernel))
section LAW
variable {l : Launch} {nm : String} {Lx i : Nat} {xs : Nat → Int32}
theorem jl_arg {k pc : Nat} {r : Hp × Hp} {S : List AV} {C : Hp} (h0 : decode (ML nm).cc pc = .ok (.aload_n 0, 1)) (h1 : decode (ML nm).cc (pc + 1) = .ok (.iload_n 3, 1)) (h2 : decode (ML nm).cc (pc + 2) = .ok (.iconst (k : Int), 1)) (h3 : decode (ML nm).cc (pc + 3) = .ok (.iadd, 1)) (h4 : decode (ML nm).cc (pc + 4) = .ok (.iaload, 1)) (hk : k ≤ 5) (hi : i + k < Lx) (hL : Lx ≤ 3072) (kk : JX l nm Lx xs r (pc + 5) i ((0, zx xs (i + k)) :: S) C) : JX l nm Lx xs r pc i S C := by
  refine jl_aloadS_n h0 rfl rfl ?_
  refine jl_iload_n h1 rfl rfl ?_
  refine jl_iconst h2 (by unfold r32; omega) ?_
  refine jl_iadd h3 ?_
  have e : w32 ((i : Int) + (k : Int)) = ((i + k : Nat) : Int) := by
    rw [w32_id (by omega) (by omega)]
    omega
  rw [e]
  exact jl_sld h4 hi kk
theorem law_exit {Gc Gm : Hp} (hL : Lx ≤ 3072) (h : ¬ i + 5 < Lx) : JX l nm Lx xs (Gc, Gm) 18 i [] (fu Gc Gm) := by
  refine jl_iload_n dL_law_18 rfl rfl ?_
  refine jl_aloadS_n dL_law_19 rfl rfl ?_
  refine jl_slen dL_law_20 hL ?_
  refine jl_bipush (z := 6) dL_law_21 (by unfold r32; omega) (by decide +kernel) ?_
  refine jl_isub dL_law_23 ?_
  have e : w32 ((Lx : Int) - 6) = (Lx : Int) - 6 := w32_id (by omega) (by omega)
  rw [e]
  refine jl_gt_yes (tgt := 1582) dL_law_24 rfl (by omega) ?_
  refine jl_iconst dL_law_1582 r32_1 ?_
  exact jl_zreturn (b := true) dL_law_1583 rfl rfl (Nat.le_of_ble_eq_true rfl) (Nat.le_of_ble_eq_true rfl)
theorem law_head {C : Hp} (hL : Lx ≤ 3072) (h : i + 5 < Lx) (k : ∃ r, JX l nm Lx xs r 33 i [(0, iand (zx xs i) 63)] C) : ∃ r, JX l nm Lx xs r 18 i [] C := by
  obtain ⟨r, hr⟩ := k
  refine ⟨r, ?_⟩
  refine jl_iload_n dL_law_18 rfl rfl ?_
  refine jl_aloadS_n dL_law_19 rfl rfl ?_
  refine jl_slen dL_law_20 hL ?_
  refine jl_bipush (z := 6) dL_law_21 (by unfold r32; omega) (by decide +kernel) ?_
  refine jl_isub dL_law_23 ?_
  have e : w32 ((Lx : Int) - 6) = (Lx : Int) - 6 := w32_id (by omega) (by omega)
  rw [e]
  refine jl_gt_no (tgt := 1582) dL_law_24 rfl (by omega) ?_
  refine jl_aloadS_n dL_law_27 rfl rfl ?_
  refine jl_iload_n dL_law_28 rfl rfl ?_
  refine jl_sld dL_law_29 (by omega) ?_
  refine jl_bipush (z := 63) dL_law_30 (by unfold r32; omega) (by decide +kernel) ?_
  exact jl_iand dL_law_32 hr
theorem law_next {r : Hp × Hp} {C : Hp} (hL : Lx ≤ 3072) (h : i + 5 < Lx) (hr : JX l nm Lx xs r 18 (i + 6) [] C) : JX l nm Lx xs r 1576 i [] C := by
  refine jl_iinc dL_law_1576 rfl (Nat.le_of_ble_eq_true rfl) rfl ?_
  have e : w32 ((i : Int) + 6) = ((i + 6 : Nat) : Int) := by
    rw [w32_id (by omega) (by omega)]
    omega
  rw [e]
  exact jl_goto (tgt := 18) dL_law_1579 rfl hr
end LAW
theorem law_op0 {l : Launch} {nm : String} {Lx i : Nat} {xs : Nat → Int32} {Inv : Hp → Hp → Prop} (hop : Op0 Inv) (hL : Lx ≤ 3072) (hi : i + 5 < Lx) {Gc Gm : Hp} (hI : Inv Gc Gm) (kk : ∀ Gc Gm, Inv Gc Gm → ∃ r, JX l nm Lx xs r 1576 i [] (fu Gc Gm)) : ∃ r, JX l nm Lx xs r 180 i [] (fu Gc Gm) := by
  obtain ⟨rc, rm, e1, e2, e3, e4⟩ := hop Gc Gm hI (zx xs (i + 1)) (zx xs (i + 2)) (zx xs (i + 3)) (zx xs (i + 4)) (zx xs (i + 5)) zx_r zx_r zx_r zx_r zx_r
  obtain ⟨r, hr⟩ := kk _ _ e4
  refine ⟨r, ?_⟩
  refine jl_aload_n dL_law_180 rfl rfl ?_
  refine jl_arg (k := 1) dL_law_181 dL_law_182 dL_law_183 dL_law_184 dL_law_185 (by decide) (by omega) (by omega) ?_
  refine jl_arg (k := 2) dL_law_186 dL_law_187 dL_law_188 dL_law_189 dL_law_190 (by decide) (by omega) (by omega) ?_
  refine jl_arg (k := 3) dL_law_191 dL_law_192 dL_law_193 dL_law_194 dL_law_195 (by decide) (by omega) (by omega) ?_
  refine jl_arg (k := 4) dL_law_196 dL_law_197 dL_law_198 dL_law_199 dL_law_200 (by decide) (by omega) (by omega) ?_
  refine jl_arg (k := 5) dL_law_201 dL_law_202 dL_law_203 dL_law_204 dL_law_205 (by decide) (by omega) (by omega) ?_
  refine jl_call dL_law_206 im_cX_feed ll_13 rfl (As := [(0, zx xs (i + 1)), (0, zx xs (i + 2)), (0, zx xs (i + 3)), (0, zx xs (i + 4)), (0, zx xs (i + 5))]) (S := []) rfl (oc_0.1) ⟨Nat.le_of_ble_eq_true rfl, Nat.le_of_ble_eq_true rfl⟩ (Nat.le_of_ble_eq_true rfl) (Nat.le_of_ble_eq_true rfl) (Nat.le_of_ble_eq_true rfl) (cX_feed_ct (zx xs (i + 1)) (zx xs (i + 2)) (zx xs (i + 3)) (zx xs (i + 4)) (zx xs (i + 5)) Gc e1) ?_
  refine jl_aload_n dL_law_209 rfl rfl ?_
  refine jl_arg (k := 1) dL_law_210 dL_law_211 dL_law_212 dL_law_213 dL_law_214 (by decide) (by omega) (by omega) ?_
  refine jl_arg (k := 2) dL_law_215 dL_law_216 dL_law_217 dL_law_218 dL_law_219 (by decide) (by omega) (by omega) ?_
  refine jl_arg (k := 3) dL_law_220 dL_law_221 dL_law_222 dL_law_223 dL_law_224 (by decide) (by omega) (by omega) ?_
  refine jl_arg (k := 4) dL_law_225 dL_law_226 dL_law_227 dL_law_228 dL_law_229 (by decide) (by omega) (by omega) ?_
  refine jl_arg (k := 5) dL_law_230 dL_law_231 dL_law_232 dL_law_233 dL_law_234 (by decide) (by omega) (by omega) ?_
  refine jl_call dL_law_235 im_mm_feed ll_17 rfl (As := [(0, zx xs (i + 1)), (0, zx xs (i + 2)), (0, zx xs (i + 3)), (0, zx xs (i + 4)), (0, zx xs (i + 5))]) (S := [(0, rc.1)]) rfl (om_201.1) ⟨Nat.le_of_ble_eq_true rfl, Nat.le_of_ble_eq_true rfl⟩ (Nat.le_of_ble_eq_true rfl) (Nat.le_of_ble_eq_true rfl) (Nat.le_of_ble_eq_true rfl) (mm_feed_ct (zx xs (i + 1)) (zx xs (i + 2)) (zx xs (i + 3)) (zx xs (i + 4)) (zx xs (i + 5)) Gm e2) ?_
  refine jl_eq_yes (tgt := 1576) dL_law_238 rfl e3 ?_
  exact hr
theorem law_op1 {l : Launch} {nm : String} {Lx i : Nat} {xs : Nat → Int32} {Inv : Hp → Hp → Prop} (hop : Op1 Inv) (hL : Lx ≤ 3072) (hi : i + 5 < Lx) {Gc Gm : Hp} (hI : Inv Gc Gm) (kk : ∀ Gc Gm, Inv Gc Gm → ∃ r, JX l nm Lx xs r 1576 i [] (fu Gc Gm)) : ∃ r, JX l nm Lx xs r 243 i [] (fu Gc Gm) := by
  obtain ⟨rc, rm, e1, e2, e3, e4⟩ := hop Gc Gm hI (zx xs (i + 1)) zx_r
  obtain ⟨r, hr⟩ := kk _ _ e4
  refine ⟨r, ?_⟩
  refine jl_aload_n dL_law_243 rfl rfl ?_
  refine jl_arg (k := 1) dL_law_244 dL_law_245 dL_law_246 dL_law_247 dL_law_248 (by decide) (by omega) (by omega) ?_
  refine jl_call dL_law_249 im_cX_end ll_18 rfl (As := [(0, zx xs (i + 1))]) (S := []) rfl (oc_0.1) ⟨Nat.le_of_ble_eq_true rfl, Nat.le_of_ble_eq_true rfl⟩ (Nat.le_of_ble_eq_true rfl) (Nat.le_of_ble_eq_true rfl) (Nat.le_of_ble_eq_true rfl) (cX_end_ct (zx xs (i + 1)) Gc e1) ?_
  refine jl_aload_n dL_law_252 rfl rfl ?_
  refine jl_arg (k := 1) dL_law_253 dL_law_254 dL_law_255 dL_law_256 dL_law_257 (by decide) (by omega) (by omega) ?_
  refine jl_call dL_law_258 im_mm_end ll_22 rfl (As := [(0, zx xs (i + 1))]) (S := [(0, rc.1)]) rfl (om_201.1) ⟨Nat.le_of_ble_eq_true rfl, Nat.le_of_ble_eq_true rfl⟩ (Nat.le_of_ble_eq_true rfl) (Nat.le_of_ble_eq_true rfl) (Nat.le_of_ble_eq_true rfl) (mm_end_ct (zx xs (i + 1)) Gm e2) ?_
  refine jl_eq_yes (tgt := 1576) dL_law_261 rfl e3 ?_
  exact hr
theorem law_op2 {l : Launch} {nm : String} {Lx i : Nat} {xs : Nat → Int32} {Inv : Hp → Hp → Prop} (hop : Op2 Inv) (hL : Lx ≤ 3072) (hi : i + 5 < Lx) {Gc Gm : Hp} (hI : Inv Gc Gm) (kk : ∀ Gc Gm, Inv Gc Gm → ∃ r, JX l nm Lx xs r 1576 i [] (fu Gc Gm)) : ∃ r, JX l nm Lx xs r 266 i [] (fu Gc Gm) := by
  obtain ⟨rc, rm, e1, e2, e3, e4⟩ := hop Gc Gm hI (zx xs (i + 1)) (zx xs (i + 2)) zx_r zx_r
  obtain ⟨r, hr⟩ := kk _ _ e4
  refine ⟨r, ?_⟩
  refine jl_aload_n dL_law_266 rfl rfl ?_
  refine jl_arg (k := 1) dL_law_267 dL_law_268 dL_law_269 dL_law_270 dL_law_271 (by decide) (by omega) (by omega) ?_
  refine jl_arg (k := 2) dL_law_272 dL_law_273 dL_law_274 dL_law_275 dL_law_276 (by decide) (by omega) (by omega) ?_
  refine jl_call dL_law_277 im_cX_text ll_23 rfl (As := [(0, zx xs (i + 1)), (0, zx xs (i + 2))]) (S := []) rfl (oc_0.1) ⟨Nat.le_of_ble_eq_true rfl, Nat.le_of_ble_eq_true rfl⟩ (Nat.le_of_ble_eq_true rfl) (Nat.le_of_ble_eq_true rfl) (Nat.le_of_ble_eq_true rfl) (cX_text_ct (zx xs (i + 1)) (zx xs (i + 2)) Gc e1) ?_
  refine jl_aload_n dL_law_280 rfl rfl ?_
  refine jl_arg (k := 1) dL_law_281 dL_law_282 dL_law_283 dL_law_284 dL_law_285 (by decide) (by omega) (by omega) ?_
  refine jl_arg (k := 2) dL_law_286 dL_law_287 dL_law_288 dL_law_289 dL_law_290 (by decide) (by omega) (by omega) ?_
  refine jl_call dL_law_291 im_mm_text ll_27 rfl (As := [(0, zx xs (i + 1)), (0, zx xs (i + 2))]) (S := [(0, rc.1)]) rfl (om_201.1) ⟨Nat.le_of_ble_eq_true rfl, Nat.le_of_ble_eq_true rfl⟩ (Nat.le_of_ble_eq_true rfl) (Nat.le_of_ble_eq_true rfl) (Nat.le_of_ble_eq_true rfl) (mm_text_ct (zx xs (i + 1)) (zx xs (i + 2)) Gm e2) ?_
  refine jl_eq_yes (tgt := 1576) dL_law_294 rfl e3 ?_
  exact hr
theorem law_op3 {l : Launch} {nm : String} {Lx i : Nat} {xs : Nat → Int32} {Inv : Hp → Hp → Prop} (hop : Op3 Inv) (hL : Lx ≤ 3072) (hi : i + 5 < Lx) {Gc Gm : Hp} (hI : Inv Gc Gm) (kk : ∀ Gc Gm, Inv Gc Gm → ∃ r, JX l nm Lx xs r 1576 i [] (fu Gc Gm)) : ∃ r, JX l nm Lx xs r 299 i [] (fu Gc Gm) := by
  obtain ⟨rc, rm, e1, e2, e3, e4⟩ := hop Gc Gm hI (zx xs (i + 1)) zx_r
  obtain ⟨r, hr⟩ := kk _ _ e4
  refine ⟨r, ?_⟩
  refine jl_aload_n dL_law_299 rfl rfl ?_
  refine jl_arg (k := 1) dL_law_300 dL_law_301 dL_law_302 dL_law_303 dL_law_304 (by decide) (by omega) (by omega) ?_
  refine jl_call dL_law_305 im_cX_fault ll_28 rfl (As := [(0, zx xs (i + 1))]) (S := []) rfl (oc_0.1) ⟨Nat.le_of_ble_eq_true rfl, Nat.le_of_ble_eq_true rfl⟩ (Nat.le_of_ble_eq_true rfl) (Nat.le_of_ble_eq_true rfl) (Nat.le_of_ble_eq_true rfl) (cX_fault_ct (zx xs (i + 1)) Gc e1) ?_
  refine jl_aload_n dL_law_308 rfl rfl ?_
  refine jl_arg (k := 1) dL_law_309 dL_law_310 dL_law_311 dL_law_312 dL_law_313 (by decide) (by omega) (by omega) ?_
  refine jl_call dL_law_314 im_mm_fault ll_31 rfl (As := [(0, zx xs (i + 1))]) (S := [(0, rc)]) rfl (om_201.1) ⟨Nat.le_of_ble_eq_true rfl, Nat.le_of_ble_eq_true rfl⟩ (Nat.le_of_ble_eq_true rfl) (Nat.le_of_ble_eq_true rfl) (Nat.le_of_ble_eq_true rfl) (mm_fault_ct (zx xs (i + 1)) Gm e2) ?_
  refine jl_eq_yes (tgt := 1576) dL_law_317 rfl e3 ?_
  exact hr
theorem law_op4 {l : Launch} {nm : String} {Lx i : Nat} {xs : Nat → Int32} {Inv : Hp → Hp → Prop} (hop : Op4 Inv) (hL : Lx ≤ 3072) (hi : i + 5 < Lx) {Gc Gm : Hp} (hI : Inv Gc Gm) (kk : ∀ Gc Gm, Inv Gc Gm → ∃ r, JX l nm Lx xs r 1576 i [] (fu Gc Gm)) : ∃ r, JX l nm Lx xs r 322 i [] (fu Gc Gm) := by
  obtain ⟨rc, rm, e1, e2, e3, e4⟩ := hop Gc Gm hI (zx xs (i + 1)) (zx xs (i + 2)) zx_r zx_r
  obtain ⟨r, hr⟩ := kk _ _ e4
  refine ⟨r, ?_⟩
  refine jl_aload_n dL_law_322 rfl rfl ?_
  refine jl_arg (k := 1) dL_law_323 dL_law_324 dL_law_325 dL_law_326 dL_law_327 (by decide) (by omega) (by omega) ?_
  refine jl_arg (k := 2) dL_law_328 dL_law_329 dL_law_330 dL_law_331 dL_law_332 (by decide) (by omega) (by omega) ?_
  refine jl_call dL_law_333 im_cX_paper ll_32 rfl (As := [(0, zx xs (i + 1)), (0, zx xs (i + 2))]) (S := []) rfl (oc_0.1) ⟨Nat.le_of_ble_eq_true rfl, Nat.le_of_ble_eq_true rfl⟩ (Nat.le_of_ble_eq_true rfl) (Nat.le_of_ble_eq_true rfl) (Nat.le_of_ble_eq_true rfl) (cX_paper_ct (zx xs (i + 1)) (zx xs (i + 2)) Gc e1) ?_
  refine jl_aload_n dL_law_336 rfl rfl ?_
  refine jl_arg (k := 1) dL_law_337 dL_law_338 dL_law_339 dL_law_340 dL_law_341 (by decide) (by omega) (by omega) ?_
  refine jl_arg (k := 2) dL_law_342 dL_law_343 dL_law_344 dL_law_345 dL_law_346 (by decide) (by omega) (by omega) ?_
  refine jl_call dL_law_347 im_mm_paper ll_35 rfl (As := [(0, zx xs (i + 1)), (0, zx xs (i + 2))]) (S := [(0, rc)]) rfl (om_201.1) ⟨Nat.le_of_ble_eq_true rfl, Nat.le_of_ble_eq_true rfl⟩ (Nat.le_of_ble_eq_true rfl) (Nat.le_of_ble_eq_true rfl) (Nat.le_of_ble_eq_true rfl) (mm_paper_ct (zx xs (i + 1)) (zx xs (i + 2)) Gm e2) ?_
  refine jl_eq_yes (tgt := 1576) dL_law_350 rfl e3 ?_
  exact hr
theorem law_op5 {l : Launch} {nm : String} {Lx i : Nat} {xs : Nat → Int32} {Inv : Hp → Hp → Prop} (hop : Op5 Inv) (hL : Lx ≤ 3072) (hi : i + 5 < Lx) {Gc Gm : Hp} (hI : Inv Gc Gm) (kk : ∀ Gc Gm, Inv Gc Gm → ∃ r, JX l nm Lx xs r 1576 i [] (fu Gc Gm)) : ∃ r, JX l nm Lx xs r 355 i [] (fu Gc Gm) := by
  obtain ⟨rc, rm, e1, e2, e3, e4⟩ := hop Gc Gm hI (zx xs (i + 1)) (zx xs (i + 2)) (zx xs (i + 3)) zx_r zx_r zx_r
  obtain ⟨r, hr⟩ := kk _ _ e4
  refine ⟨r, ?_⟩
  refine jl_aload_n dL_law_355 rfl rfl ?_
  refine jl_arg (k := 1) dL_law_356 dL_law_357 dL_law_358 dL_law_359 dL_law_360 (by decide) (by omega) (by omega) ?_
  refine jl_arg (k := 2) dL_law_361 dL_law_362 dL_law_363 dL_law_364 dL_law_365 (by decide) (by omega) (by omega) ?_
  refine jl_arg (k := 3) dL_law_366 dL_law_367 dL_law_368 dL_law_369 dL_law_370 (by decide) (by omega) (by omega) ?_
  refine jl_call dL_law_371 im_cX_deed ll_36 rfl (As := [(0, zx xs (i + 1)), (0, zx xs (i + 2)), (0, zx xs (i + 3))]) (S := []) rfl (oc_0.1) ⟨Nat.le_of_ble_eq_true rfl, Nat.le_of_ble_eq_true rfl⟩ (Nat.le_of_ble_eq_true rfl) (Nat.le_of_ble_eq_true rfl) (Nat.le_of_ble_eq_true rfl) (cX_deed_ct (zx xs (i + 1)) (zx xs (i + 2)) (zx xs (i + 3)) Gc e1) ?_
  refine jl_aload_n dL_law_374 rfl rfl ?_
  refine jl_arg (k := 1) dL_law_375 dL_law_376 dL_law_377 dL_law_378 dL_law_379 (by decide) (by omega) (by omega) ?_
  refine jl_arg (k := 2) dL_law_380 dL_law_381 dL_law_382 dL_law_383 dL_law_384 (by decide) (by omega) (by omega) ?_
  refine jl_arg (k := 3) dL_law_385 dL_law_386 dL_law_387 dL_law_388 dL_law_389 (by decide) (by omega) (by omega) ?_
  refine jl_call dL_law_390 im_mm_deed ll_40 rfl (As := [(0, zx xs (i + 1)), (0, zx xs (i + 2)), (0, zx xs (i + 3))]) (S := [(0, rc)]) rfl (om_201.1) ⟨Nat.le_of_ble_eq_true rfl, Nat.le_of_ble_eq_true rfl⟩ (Nat.le_of_ble_eq_true rfl) (Nat.le_of_ble_eq_true rfl) (Nat.le_of_ble_eq_true rfl) (mm_deed_ct (zx xs (i + 1)) (zx xs (i + 2)) (zx xs (i + 3)) Gm e2) ?_
  refine jl_eq_yes (tgt := 1576) dL_law_393 rfl e3 ?_
  exact hr
theorem law_op6 {l : Launch} {nm : String} {Lx i : Nat} {xs : Nat → Int32} {Inv : Hp → Hp → Prop} (hop : Op6 Inv) (hL : Lx ≤ 3072) (hi : i + 5 < Lx) {Gc Gm : Hp} (hI : Inv Gc Gm) (kk : ∀ Gc Gm, Inv Gc Gm → ∃ r, JX l nm Lx xs r 1576 i [] (fu Gc Gm)) : ∃ r, JX l nm Lx xs r 398 i [] (fu Gc Gm) := by
  obtain ⟨rc, rm, e1, e2, e3, e4⟩ := hop Gc Gm hI (zx xs (i + 1)) (zx xs (i + 2)) zx_r zx_r
  obtain ⟨r, hr⟩ := kk _ _ e4
  refine ⟨r, ?_⟩
  refine jl_aload_n dL_law_398 rfl rfl ?_
  refine jl_arg (k := 1) dL_law_399 dL_law_400 dL_law_401 dL_law_402 dL_law_403 (by decide) (by omega) (by omega) ?_
  refine jl_arg (k := 2) dL_law_404 dL_law_405 dL_law_406 dL_law_407 dL_law_408 (by decide) (by omega) (by omega) ?_
  refine jl_call dL_law_409 im_cX_stop ll_41 rfl (As := [(0, zx xs (i + 1)), (0, zx xs (i + 2))]) (S := []) rfl (oc_0.1) ⟨Nat.le_of_ble_eq_true rfl, Nat.le_of_ble_eq_true rfl⟩ (Nat.le_of_ble_eq_true rfl) (Nat.le_of_ble_eq_true rfl) (Nat.le_of_ble_eq_true rfl) (cX_stop_ct (zx xs (i + 1)) (zx xs (i + 2)) Gc e1) ?_
  refine jl_aload_n dL_law_412 rfl rfl ?_
  refine jl_arg (k := 1) dL_law_413 dL_law_414 dL_law_415 dL_law_416 dL_law_417 (by decide) (by omega) (by omega) ?_
  refine jl_arg (k := 2) dL_law_418 dL_law_419 dL_law_420 dL_law_421 dL_law_422 (by decide) (by omega) (by omega) ?_
  refine jl_call dL_law_423 im_mm_stop ll_44 rfl (As := [(0, zx xs (i + 1)), (0, zx xs (i + 2))]) (S := [(0, rc.1)]) rfl (om_201.1) ⟨Nat.le_of_ble_eq_true rfl, Nat.le_of_ble_eq_true rfl⟩ (Nat.le_of_ble_eq_true rfl) (Nat.le_of_ble_eq_true rfl) (Nat.le_of_ble_eq_true rfl) (mm_stop_ct (zx xs (i + 1)) (zx xs (i + 2)) Gm e2) ?_
  refine jl_eq_yes (tgt := 1576) dL_law_426 rfl e3 ?_
  exact hr
theorem law_op7 {l : Launch} {nm : String} {Lx i : Nat} {xs : Nat → Int32} {Inv : Hp → Hp → Prop} (hop : Op7 Inv) (hL : Lx ≤ 3072) (hi : i + 5 < Lx) {Gc Gm : Hp} (hI : Inv Gc Gm) (kk : ∀ Gc Gm, Inv Gc Gm → ∃ r, JX l nm Lx xs r 1576 i [] (fu Gc Gm)) : ∃ r, JX l nm Lx xs r 431 i [] (fu Gc Gm) := by
  obtain ⟨rc, rm, e1, e2, e3, e4⟩ := hop Gc Gm hI (zx xs (i + 1)) (zx xs (i + 2)) (zx xs (i + 3)) (zx xs (i + 4)) zx_r zx_r zx_r zx_r
  obtain ⟨r, hr⟩ := kk _ _ e4
  refine ⟨r, ?_⟩
  refine jl_aload_n dL_law_431 rfl rfl ?_
  refine jl_arg (k := 1) dL_law_432 dL_law_433 dL_law_434 dL_law_435 dL_law_436 (by decide) (by omega) (by omega) ?_
  refine jl_arg (k := 2) dL_law_437 dL_law_438 dL_law_439 dL_law_440 dL_law_441 (by decide) (by omega) (by omega) ?_
  refine jl_arg (k := 3) dL_law_442 dL_law_443 dL_law_444 dL_law_445 dL_law_446 (by decide) (by omega) (by omega) ?_
  refine jl_arg (k := 4) dL_law_447 dL_law_448 dL_law_449 dL_law_450 dL_law_451 (by decide) (by omega) (by omega) ?_
  refine jl_call dL_law_452 im_cX_state ll_45 rfl (As := [(0, zx xs (i + 1)), (0, zx xs (i + 2)), (0, zx xs (i + 3)), (0, zx xs (i + 4))]) (S := []) rfl (oc_0.1) ⟨Nat.le_of_ble_eq_true rfl, Nat.le_of_ble_eq_true rfl⟩ (Nat.le_of_ble_eq_true rfl) (Nat.le_of_ble_eq_true rfl) (Nat.le_of_ble_eq_true rfl) (cX_state_ct (zx xs (i + 1)) (zx xs (i + 2)) (zx xs (i + 3)) (zx xs (i + 4)) Gc e1) ?_
  refine jl_aload_n dL_law_455 rfl rfl ?_
  refine jl_arg (k := 1) dL_law_456 dL_law_457 dL_law_458 dL_law_459 dL_law_460 (by decide) (by omega) (by omega) ?_
  refine jl_arg (k := 2) dL_law_461 dL_law_462 dL_law_463 dL_law_464 dL_law_465 (by decide) (by omega) (by omega) ?_
  refine jl_arg (k := 3) dL_law_466 dL_law_467 dL_law_468 dL_law_469 dL_law_470 (by decide) (by omega) (by omega) ?_
  refine jl_arg (k := 4) dL_law_471 dL_law_472 dL_law_473 dL_law_474 dL_law_475 (by decide) (by omega) (by omega) ?_
  refine jl_call dL_law_476 im_mm_state ll_49 rfl (As := [(0, zx xs (i + 1)), (0, zx xs (i + 2)), (0, zx xs (i + 3)), (0, zx xs (i + 4))]) (S := [(0, rc.1)]) rfl (om_201.1) ⟨Nat.le_of_ble_eq_true rfl, Nat.le_of_ble_eq_true rfl⟩ (Nat.le_of_ble_eq_true rfl) (Nat.le_of_ble_eq_true rfl) (Nat.le_of_ble_eq_true rfl) (mm_state_ct (zx xs (i + 1)) (zx xs (i + 2)) (zx xs (i + 3)) (zx xs (i + 4)) Gm e2) ?_
  refine jl_eq_yes (tgt := 1576) dL_law_479 rfl e3 ?_
  exact hr
theorem law_op8 {l : Launch} {nm : String} {Lx i : Nat} {xs : Nat → Int32} {Inv : Hp → Hp → Prop} (hop : Op8 Inv) (hL : Lx ≤ 3072) (hi : i + 5 < Lx) {Gc Gm : Hp} (hI : Inv Gc Gm) (kk : ∀ Gc Gm, Inv Gc Gm → ∃ r, JX l nm Lx xs r 1576 i [] (fu Gc Gm)) : ∃ r, JX l nm Lx xs r 484 i [] (fu Gc Gm) := by
  obtain ⟨rc, rm, e1, e2, e3, e4⟩ := hop Gc Gm hI (zx xs (i + 1)) (zx xs (i + 2)) (zx xs (i + 3)) zx_r zx_r zx_r
  obtain ⟨r, hr⟩ := kk _ _ e4
  refine ⟨r, ?_⟩
  refine jl_aload_n dL_law_484 rfl rfl ?_
  refine jl_arg (k := 1) dL_law_485 dL_law_486 dL_law_487 dL_law_488 dL_law_489 (by decide) (by omega) (by omega) ?_
  refine jl_arg (k := 2) dL_law_490 dL_law_491 dL_law_492 dL_law_493 dL_law_494 (by decide) (by omega) (by omega) ?_
  refine jl_arg (k := 3) dL_law_495 dL_law_496 dL_law_497 dL_law_498 dL_law_499 (by decide) (by omega) (by omega) ?_
  refine jl_call dL_law_500 im_cX_steps ll_50 rfl (As := [(0, zx xs (i + 1)), (0, zx xs (i + 2)), (0, zx xs (i + 3))]) (S := []) rfl (oc_0.1) ⟨Nat.le_of_ble_eq_true rfl, Nat.le_of_ble_eq_true rfl⟩ (Nat.le_of_ble_eq_true rfl) (Nat.le_of_ble_eq_true rfl) (Nat.le_of_ble_eq_true rfl) (cX_steps_ct (zx xs (i + 1)) (zx xs (i + 2)) (zx xs (i + 3)) Gc e1) ?_
  refine jl_aload_n dL_law_503 rfl rfl ?_
  refine jl_arg (k := 1) dL_law_504 dL_law_505 dL_law_506 dL_law_507 dL_law_508 (by decide) (by omega) (by omega) ?_
  refine jl_arg (k := 2) dL_law_509 dL_law_510 dL_law_511 dL_law_512 dL_law_513 (by decide) (by omega) (by omega) ?_
  refine jl_arg (k := 3) dL_law_514 dL_law_515 dL_law_516 dL_law_517 dL_law_518 (by decide) (by omega) (by omega) ?_
  refine jl_call dL_law_519 im_mm_steps ll_53 rfl (As := [(0, zx xs (i + 1)), (0, zx xs (i + 2)), (0, zx xs (i + 3))]) (S := [(0, rc.1)]) rfl (om_201.1) ⟨Nat.le_of_ble_eq_true rfl, Nat.le_of_ble_eq_true rfl⟩ (Nat.le_of_ble_eq_true rfl) (Nat.le_of_ble_eq_true rfl) (Nat.le_of_ble_eq_true rfl) (mm_steps_ct (zx xs (i + 1)) (zx xs (i + 2)) (zx xs (i + 3)) Gm e2) ?_
  refine jl_eq_yes (tgt := 1576) dL_law_522 rfl e3 ?_
  exact hr
theorem law_op9 {l : Launch} {nm : String} {Lx i : Nat} {xs : Nat → Int32} {Inv : Hp → Hp → Prop} (hop : Op9 Inv) (hL : Lx ≤ 3072) (hi : i + 5 < Lx) {Gc Gm : Hp} (hI : Inv Gc Gm) (kk : ∀ Gc Gm, Inv Gc Gm → ∃ r, JX l nm Lx xs r 1576 i [] (fu Gc Gm)) : ∃ r, JX l nm Lx xs r 527 i [] (fu Gc Gm) := by
  obtain ⟨rc, rm, e1, e2, e3, e4⟩ := hop Gc Gm hI (zx xs (i + 1)) (zx xs (i + 2)) (zx xs (i + 3)) zx_r zx_r zx_r
  obtain ⟨r, hr⟩ := kk _ _ e4
  refine ⟨r, ?_⟩
  refine jl_aload_n dL_law_527 rfl rfl ?_
  refine jl_arg (k := 1) dL_law_528 dL_law_529 dL_law_530 dL_law_531 dL_law_532 (by decide) (by omega) (by omega) ?_
  refine jl_arg (k := 2) dL_law_533 dL_law_534 dL_law_535 dL_law_536 dL_law_537 (by decide) (by omega) (by omega) ?_
  refine jl_arg (k := 3) dL_law_538 dL_law_539 dL_law_540 dL_law_541 dL_law_542 (by decide) (by omega) (by omega) ?_
  refine jl_call dL_law_543 im_cX_towards ll_54 rfl (As := [(0, zx xs (i + 1)), (0, zx xs (i + 2)), (0, zx xs (i + 3))]) (S := []) rfl (oc_0.1) ⟨Nat.le_of_ble_eq_true rfl, Nat.le_of_ble_eq_true rfl⟩ (Nat.le_of_ble_eq_true rfl) (Nat.le_of_ble_eq_true rfl) (Nat.le_of_ble_eq_true rfl) (cX_towards_ct (zx xs (i + 1)) (zx xs (i + 2)) (zx xs (i + 3)) Gc e1) ?_
  refine jl_aload_n dL_law_546 rfl rfl ?_
  refine jl_arg (k := 1) dL_law_547 dL_law_548 dL_law_549 dL_law_550 dL_law_551 (by decide) (by omega) (by omega) ?_
  refine jl_arg (k := 2) dL_law_552 dL_law_553 dL_law_554 dL_law_555 dL_law_556 (by decide) (by omega) (by omega) ?_
  refine jl_arg (k := 3) dL_law_557 dL_law_558 dL_law_559 dL_law_560 dL_law_561 (by decide) (by omega) (by omega) ?_
  refine jl_call dL_law_562 im_mm_towards ll_57 rfl (As := [(0, zx xs (i + 1)), (0, zx xs (i + 2)), (0, zx xs (i + 3))]) (S := [(0, rc.1)]) rfl (om_201.1) ⟨Nat.le_of_ble_eq_true rfl, Nat.le_of_ble_eq_true rfl⟩ (Nat.le_of_ble_eq_true rfl) (Nat.le_of_ble_eq_true rfl) (Nat.le_of_ble_eq_true rfl) (mm_towards_ct (zx xs (i + 1)) (zx xs (i + 2)) (zx xs (i + 3)) Gm e2) ?_
  refine jl_eq_yes (tgt := 1576) dL_law_565 rfl e3 ?_
  exact hr
theorem law_op10 {l : Launch} {nm : String} {Lx i : Nat} {xs : Nat → Int32} {Inv : Hp → Hp → Prop} (hop : Op10 Inv) (hL : Lx ≤ 3072) (hi : i + 5 < Lx) {Gc Gm : Hp} (hI : Inv Gc Gm) (kk : ∀ Gc Gm, Inv Gc Gm → ∃ r, JX l nm Lx xs r 1576 i [] (fu Gc Gm)) : ∃ r, JX l nm Lx xs r 570 i [] (fu Gc Gm) := by
  obtain ⟨rc, rm, e1, e2, e3, e4⟩ := hop Gc Gm hI (zx xs (i + 1)) (zx xs (i + 2)) (zx xs (i + 3)) zx_r zx_r zx_r
  obtain ⟨r, hr⟩ := kk _ _ e4
  refine ⟨r, ?_⟩
  refine jl_aload_n dL_law_570 rfl rfl ?_
  refine jl_arg (k := 1) dL_law_571 dL_law_572 dL_law_573 dL_law_574 dL_law_575 (by decide) (by omega) (by omega) ?_
  refine jl_arg (k := 2) dL_law_576 dL_law_577 dL_law_578 dL_law_579 dL_law_580 (by decide) (by omega) (by omega) ?_
  refine jl_arg (k := 3) dL_law_581 dL_law_582 dL_law_583 dL_law_584 dL_law_585 (by decide) (by omega) (by omega) ?_
  refine jl_call dL_law_586 im_cX_reading ll_58 rfl (As := [(0, zx xs (i + 1)), (0, zx xs (i + 2)), (0, zx xs (i + 3))]) (S := []) rfl (oc_0.1) ⟨Nat.le_of_ble_eq_true rfl, Nat.le_of_ble_eq_true rfl⟩ (Nat.le_of_ble_eq_true rfl) (Nat.le_of_ble_eq_true rfl) (Nat.le_of_ble_eq_true rfl) (cX_reading_ct (zx xs (i + 1)) (zx xs (i + 2)) (zx xs (i + 3)) Gc e1) ?_
  refine jl_aload_n dL_law_589 rfl rfl ?_
  refine jl_arg (k := 1) dL_law_590 dL_law_591 dL_law_592 dL_law_593 dL_law_594 (by decide) (by omega) (by omega) ?_
  refine jl_arg (k := 2) dL_law_595 dL_law_596 dL_law_597 dL_law_598 dL_law_599 (by decide) (by omega) (by omega) ?_
  refine jl_arg (k := 3) dL_law_600 dL_law_601 dL_law_602 dL_law_603 dL_law_604 (by decide) (by omega) (by omega) ?_
  refine jl_call dL_law_605 im_mm_reading ll_61 rfl (As := [(0, zx xs (i + 1)), (0, zx xs (i + 2)), (0, zx xs (i + 3))]) (S := [(0, rc.1)]) rfl (om_201.1) ⟨Nat.le_of_ble_eq_true rfl, Nat.le_of_ble_eq_true rfl⟩ (Nat.le_of_ble_eq_true rfl) (Nat.le_of_ble_eq_true rfl) (Nat.le_of_ble_eq_true rfl) (mm_reading_ct (zx xs (i + 1)) (zx xs (i + 2)) (zx xs (i + 3)) Gm e2) ?_
  refine jl_eq_yes (tgt := 1576) dL_law_608 rfl e3 ?_
  exact hr
theorem law_op11 {l : Launch} {nm : String} {Lx i : Nat} {xs : Nat → Int32} {Inv : Hp → Hp → Prop} (hop : Op11 Inv) (hL : Lx ≤ 3072) (hi : i + 5 < Lx) {Gc Gm : Hp} (hI : Inv Gc Gm) (kk : ∀ Gc Gm, Inv Gc Gm → ∃ r, JX l nm Lx xs r 1576 i [] (fu Gc Gm)) : ∃ r, JX l nm Lx xs r 613 i [] (fu Gc Gm) := by
  obtain ⟨rc, rm, e1, e2, e3, e4⟩ := hop Gc Gm hI (zx xs (i + 1)) (zx xs (i + 2)) zx_r zx_r
  obtain ⟨r, hr⟩ := kk _ _ e4
  refine ⟨r, ?_⟩
  refine jl_aload_n dL_law_613 rfl rfl ?_
  refine jl_arg (k := 1) dL_law_614 dL_law_615 dL_law_616 dL_law_617 dL_law_618 (by decide) (by omega) (by omega) ?_
  refine jl_arg (k := 2) dL_law_619 dL_law_620 dL_law_621 dL_law_622 dL_law_623 (by decide) (by omega) (by omega) ?_
  refine jl_call dL_law_624 im_cX_rounds ll_62 rfl (As := [(0, zx xs (i + 1)), (0, zx xs (i + 2))]) (S := []) rfl (oc_0.1) ⟨Nat.le_of_ble_eq_true rfl, Nat.le_of_ble_eq_true rfl⟩ (Nat.le_of_ble_eq_true rfl) (Nat.le_of_ble_eq_true rfl) (Nat.le_of_ble_eq_true rfl) (cX_rounds_ct (zx xs (i + 1)) (zx xs (i + 2)) Gc e1) ?_
  refine jl_aload_n dL_law_627 rfl rfl ?_
  refine jl_arg (k := 1) dL_law_628 dL_law_629 dL_law_630 dL_law_631 dL_law_632 (by decide) (by omega) (by omega) ?_
  refine jl_arg (k := 2) dL_law_633 dL_law_634 dL_law_635 dL_law_636 dL_law_637 (by decide) (by omega) (by omega) ?_
  refine jl_call dL_law_638 im_mm_rounds ll_65 rfl (As := [(0, zx xs (i + 1)), (0, zx xs (i + 2))]) (S := [(0, rc.1)]) rfl (om_201.1) ⟨Nat.le_of_ble_eq_true rfl, Nat.le_of_ble_eq_true rfl⟩ (Nat.le_of_ble_eq_true rfl) (Nat.le_of_ble_eq_true rfl) (Nat.le_of_ble_eq_true rfl) (mm_rounds_ct (zx xs (i + 1)) (zx xs (i + 2)) Gm e2) ?_
  refine jl_eq_yes (tgt := 1576) dL_law_641 rfl e3 ?_
  exact hr
theorem law_op12 {l : Launch} {nm : String} {Lx i : Nat} {xs : Nat → Int32} {Inv : Hp → Hp → Prop} (hop : Op12 Inv) (hL : Lx ≤ 3072) (hi : i + 5 < Lx) {Gc Gm : Hp} (hI : Inv Gc Gm) (kk : ∀ Gc Gm, Inv Gc Gm → ∃ r, JX l nm Lx xs r 1576 i [] (fu Gc Gm)) : ∃ r, JX l nm Lx xs r 646 i [] (fu Gc Gm) := by
  obtain ⟨rc, rm, e1, e2, e3, e4⟩ := hop Gc Gm hI (zx xs (i + 1)) (zx xs (i + 2)) zx_r zx_r
  obtain ⟨r, hr⟩ := kk _ _ e4
  refine ⟨r, ?_⟩
  refine jl_aload_n dL_law_646 rfl rfl ?_
  refine jl_arg (k := 1) dL_law_647 dL_law_648 dL_law_649 dL_law_650 dL_law_651 (by decide) (by omega) (by omega) ?_
  refine jl_arg (k := 2) dL_law_652 dL_law_653 dL_law_654 dL_law_655 dL_law_656 (by decide) (by omega) (by omega) ?_
  refine jl_call dL_law_657 im_cX_order ll_66 rfl (As := [(0, zx xs (i + 1)), (0, zx xs (i + 2))]) (S := []) rfl (oc_0.1) ⟨Nat.le_of_ble_eq_true rfl, Nat.le_of_ble_eq_true rfl⟩ (Nat.le_of_ble_eq_true rfl) (Nat.le_of_ble_eq_true rfl) (Nat.le_of_ble_eq_true rfl) (cX_order_ct (zx xs (i + 1)) (zx xs (i + 2)) Gc e1) ?_
  refine jl_aload_n dL_law_660 rfl rfl ?_
  refine jl_arg (k := 1) dL_law_661 dL_law_662 dL_law_663 dL_law_664 dL_law_665 (by decide) (by omega) (by omega) ?_
  refine jl_arg (k := 2) dL_law_666 dL_law_667 dL_law_668 dL_law_669 dL_law_670 (by decide) (by omega) (by omega) ?_
  refine jl_call dL_law_671 im_mm_order ll_69 rfl (As := [(0, zx xs (i + 1)), (0, zx xs (i + 2))]) (S := [(0, rc.1)]) rfl (om_201.1) ⟨Nat.le_of_ble_eq_true rfl, Nat.le_of_ble_eq_true rfl⟩ (Nat.le_of_ble_eq_true rfl) (Nat.le_of_ble_eq_true rfl) (Nat.le_of_ble_eq_true rfl) (mm_order_ct (zx xs (i + 1)) (zx xs (i + 2)) Gm e2) ?_
  refine jl_eq_yes (tgt := 1576) dL_law_674 rfl e3 ?_
  exact hr
theorem law_op13 {l : Launch} {nm : String} {Lx i : Nat} {xs : Nat → Int32} {Inv : Hp → Hp → Prop} (hop : Op13 Inv) (hL : Lx ≤ 3072) (hi : i + 5 < Lx) {Gc Gm : Hp} (hI : Inv Gc Gm) (kk : ∀ Gc Gm, Inv Gc Gm → ∃ r, JX l nm Lx xs r 1576 i [] (fu Gc Gm)) : ∃ r, JX l nm Lx xs r 679 i [] (fu Gc Gm) := by
  obtain ⟨rc, rm, e1, e2, e3, e4⟩ := hop Gc Gm hI (zx xs (i + 1)) (zx xs (i + 2)) (zx xs (i + 3)) zx_r zx_r zx_r
  obtain ⟨r, hr⟩ := kk _ _ e4
  refine ⟨r, ?_⟩
  refine jl_aload_n dL_law_679 rfl rfl ?_
  refine jl_arg (k := 1) dL_law_680 dL_law_681 dL_law_682 dL_law_683 dL_law_684 (by decide) (by omega) (by omega) ?_
  refine jl_arg (k := 2) dL_law_685 dL_law_686 dL_law_687 dL_law_688 dL_law_689 (by decide) (by omega) (by omega) ?_
  refine jl_arg (k := 3) dL_law_690 dL_law_691 dL_law_692 dL_law_693 dL_law_694 (by decide) (by omega) (by omega) ?_
  refine jl_call dL_law_695 im_cX_desks ll_70 rfl (As := [(0, zx xs (i + 1)), (0, zx xs (i + 2)), (0, zx xs (i + 3))]) (S := []) rfl (oc_0.1) ⟨Nat.le_of_ble_eq_true rfl, Nat.le_of_ble_eq_true rfl⟩ (Nat.le_of_ble_eq_true rfl) (Nat.le_of_ble_eq_true rfl) (Nat.le_of_ble_eq_true rfl) (cX_desks_ct (zx xs (i + 1)) (zx xs (i + 2)) (zx xs (i + 3)) Gc e1) ?_
  refine jl_aload_n dL_law_698 rfl rfl ?_
  refine jl_arg (k := 1) dL_law_699 dL_law_700 dL_law_701 dL_law_702 dL_law_703 (by decide) (by omega) (by omega) ?_
  refine jl_arg (k := 2) dL_law_704 dL_law_705 dL_law_706 dL_law_707 dL_law_708 (by decide) (by omega) (by omega) ?_
  refine jl_arg (k := 3) dL_law_709 dL_law_710 dL_law_711 dL_law_712 dL_law_713 (by decide) (by omega) (by omega) ?_
  refine jl_call dL_law_714 im_mm_desks ll_73 rfl (As := [(0, zx xs (i + 1)), (0, zx xs (i + 2)), (0, zx xs (i + 3))]) (S := [(0, rc.1)]) rfl (om_201.1) ⟨Nat.le_of_ble_eq_true rfl, Nat.le_of_ble_eq_true rfl⟩ (Nat.le_of_ble_eq_true rfl) (Nat.le_of_ble_eq_true rfl) (Nat.le_of_ble_eq_true rfl) (mm_desks_ct (zx xs (i + 1)) (zx xs (i + 2)) (zx xs (i + 3)) Gm e2) ?_
  refine jl_eq_yes (tgt := 1576) dL_law_717 rfl e3 ?_
  exact hr
theorem law_op14 {l : Launch} {nm : String} {Lx i : Nat} {xs : Nat → Int32} {Inv : Hp → Hp → Prop} (hop : Op14 Inv) (hL : Lx ≤ 3072) (hi : i + 5 < Lx) {Gc Gm : Hp} (hI : Inv Gc Gm) (kk : ∀ Gc Gm, Inv Gc Gm → ∃ r, JX l nm Lx xs r 1576 i [] (fu Gc Gm)) : ∃ r, JX l nm Lx xs r 722 i [] (fu Gc Gm) := by
  by_cases hz : zx xs (i + 5) = 0
  · obtain ⟨rc, rm, e1, e2, e3, e4⟩ := hop Gc Gm hI (zx xs (i + 1)) (zx xs (i + 2)) (zx xs (i + 3)) (zx xs (i + 4)) 0 zx_r zx_r zx_r zx_r (Or.inl rfl)
    obtain ⟨r, hr⟩ := kk _ _ e4
    refine ⟨r, ?_⟩
    refine jl_aload_n dL_law_722 rfl rfl ?_
    refine jl_arg (k := 1) dL_law_723 dL_law_724 dL_law_725 dL_law_726 dL_law_727 (by decide) (by omega) (by omega) ?_
    refine jl_arg (k := 2) dL_law_728 dL_law_729 dL_law_730 dL_law_731 dL_law_732 (by decide) (by omega) (by omega) ?_
    refine jl_arg (k := 3) dL_law_733 dL_law_734 dL_law_735 dL_law_736 dL_law_737 (by decide) (by omega) (by omega) ?_
    refine jl_arg (k := 4) dL_law_738 dL_law_739 dL_law_740 dL_law_741 dL_law_742 (by decide) (by omega) (by omega) ?_
    refine jl_arg (k := 5) dL_law_743 dL_law_744 dL_law_745 dL_law_746 dL_law_747 (by decide) (by omega) (by omega) ?_
    refine jl_ifeq_yes (tgt := 755) dL_law_748 rfl hz ?_
    refine jl_iconst dL_law_755 r32_0 ?_
    refine jl_call dL_law_756 im_cX_quarrel ll_74 rfl (As := [(0, zx xs (i + 1)), (0, zx xs (i + 2)), (0, zx xs (i + 3)), (0, zx xs (i + 4)), (0, 0)]) (S := []) rfl (oc_0.1) ⟨Nat.le_of_ble_eq_true rfl, Nat.le_of_ble_eq_true rfl⟩ (Nat.le_of_ble_eq_true rfl) (Nat.le_of_ble_eq_true rfl) (Nat.le_of_ble_eq_true rfl) (cX_quarrel_ct (zx xs (i + 1)) (zx xs (i + 2)) (zx xs (i + 3)) (zx xs (i + 4)) 0 Gc e1) ?_
    refine jl_aload_n dL_law_759 rfl rfl ?_
    refine jl_arg (k := 1) dL_law_760 dL_law_761 dL_law_762 dL_law_763 dL_law_764 (by decide) (by omega) (by omega) ?_
    refine jl_arg (k := 2) dL_law_765 dL_law_766 dL_law_767 dL_law_768 dL_law_769 (by decide) (by omega) (by omega) ?_
    refine jl_arg (k := 3) dL_law_770 dL_law_771 dL_law_772 dL_law_773 dL_law_774 (by decide) (by omega) (by omega) ?_
    refine jl_arg (k := 4) dL_law_775 dL_law_776 dL_law_777 dL_law_778 dL_law_779 (by decide) (by omega) (by omega) ?_
    refine jl_arg (k := 5) dL_law_780 dL_law_781 dL_law_782 dL_law_783 dL_law_784 (by decide) (by omega) (by omega) ?_
    refine jl_ifeq_yes (tgt := 792) dL_law_785 rfl hz ?_
    refine jl_iconst dL_law_792 r32_0 ?_
    refine jl_call dL_law_793 im_mm_quarrel ll_78 rfl (As := [(0, zx xs (i + 1)), (0, zx xs (i + 2)), (0, zx xs (i + 3)), (0, zx xs (i + 4)), (0, 0)]) (S := [(0, rc.1)]) rfl (om_201.1) ⟨Nat.le_of_ble_eq_true rfl, Nat.le_of_ble_eq_true rfl⟩ (Nat.le_of_ble_eq_true rfl) (Nat.le_of_ble_eq_true rfl) (Nat.le_of_ble_eq_true rfl) (mm_quarrel_ct (zx xs (i + 1)) (zx xs (i + 2)) (zx xs (i + 3)) (zx xs (i + 4)) 0 Gm e2) ?_
    refine jl_eq_yes (tgt := 1576) dL_law_796 rfl e3 ?_
    exact hr
  · obtain ⟨rc, rm, e1, e2, e3, e4⟩ := hop Gc Gm hI (zx xs (i + 1)) (zx xs (i + 2)) (zx xs (i + 3)) (zx xs (i + 4)) 1 zx_r zx_r zx_r zx_r (Or.inr rfl)
    obtain ⟨r, hr⟩ := kk _ _ e4
    refine ⟨r, ?_⟩
    refine jl_aload_n dL_law_722 rfl rfl ?_
    refine jl_arg (k := 1) dL_law_723 dL_law_724 dL_law_725 dL_law_726 dL_law_727 (by decide) (by omega) (by omega) ?_
    refine jl_arg (k := 2) dL_law_728 dL_law_729 dL_law_730 dL_law_731 dL_law_732 (by decide) (by omega) (by omega) ?_
    refine jl_arg (k := 3) dL_law_733 dL_law_734 dL_law_735 dL_law_736 dL_law_737 (by decide) (by omega) (by omega) ?_
    refine jl_arg (k := 4) dL_law_738 dL_law_739 dL_law_740 dL_law_741 dL_law_742 (by decide) (by omega) (by omega) ?_
    refine jl_arg (k := 5) dL_law_743 dL_law_744 dL_law_745 dL_law_746 dL_law_747 (by decide) (by omega) (by omega) ?_
    refine jl_ifeq_no (tgt := 755) dL_law_748 rfl hz ?_
    refine jl_iconst dL_law_751 r32_1 ?_
    refine jl_goto (tgt := 756) dL_law_752 rfl ?_
    refine jl_call dL_law_756 im_cX_quarrel ll_74 rfl (As := [(0, zx xs (i + 1)), (0, zx xs (i + 2)), (0, zx xs (i + 3)), (0, zx xs (i + 4)), (0, 1)]) (S := []) rfl (oc_0.1) ⟨Nat.le_of_ble_eq_true rfl, Nat.le_of_ble_eq_true rfl⟩ (Nat.le_of_ble_eq_true rfl) (Nat.le_of_ble_eq_true rfl) (Nat.le_of_ble_eq_true rfl) (cX_quarrel_ct (zx xs (i + 1)) (zx xs (i + 2)) (zx xs (i + 3)) (zx xs (i + 4)) 1 Gc e1) ?_
    refine jl_aload_n dL_law_759 rfl rfl ?_
    refine jl_arg (k := 1) dL_law_760 dL_law_761 dL_law_762 dL_law_763 dL_law_764 (by decide) (by omega) (by omega) ?_
    refine jl_arg (k := 2) dL_law_765 dL_law_766 dL_law_767 dL_law_768 dL_law_769 (by decide) (by omega) (by omega) ?_
    refine jl_arg (k := 3) dL_law_770 dL_law_771 dL_law_772 dL_law_773 dL_law_774 (by decide) (by omega) (by omega) ?_
    refine jl_arg (k := 4) dL_law_775 dL_law_776 dL_law_777 dL_law_778 dL_law_779 (by decide) (by omega) (by omega) ?_
    refine jl_arg (k := 5) dL_law_780 dL_law_781 dL_law_782 dL_law_783 dL_law_784 (by decide) (by omega) (by omega) ?_
    refine jl_ifeq_no (tgt := 792) dL_law_785 rfl hz ?_
    refine jl_iconst dL_law_788 r32_1 ?_
    refine jl_goto (tgt := 793) dL_law_789 rfl ?_
    refine jl_call dL_law_793 im_mm_quarrel ll_78 rfl (As := [(0, zx xs (i + 1)), (0, zx xs (i + 2)), (0, zx xs (i + 3)), (0, zx xs (i + 4)), (0, 1)]) (S := [(0, rc.1)]) rfl (om_201.1) ⟨Nat.le_of_ble_eq_true rfl, Nat.le_of_ble_eq_true rfl⟩ (Nat.le_of_ble_eq_true rfl) (Nat.le_of_ble_eq_true rfl) (Nat.le_of_ble_eq_true rfl) (mm_quarrel_ct (zx xs (i + 1)) (zx xs (i + 2)) (zx xs (i + 3)) (zx xs (i + 4)) 1 Gm e2) ?_
    refine jl_eq_yes (tgt := 1576) dL_law_796 rfl e3 ?_
    exact hr
theorem law_op15 {l : Launch} {nm : String} {Lx i : Nat} {xs : Nat → Int32} {Inv : Hp → Hp → Prop} (hop : Op15 Inv) (hL : Lx ≤ 3072) (hi : i + 5 < Lx) {Gc Gm : Hp} (hI : Inv Gc Gm) (kk : ∀ Gc Gm, Inv Gc Gm → ∃ r, JX l nm Lx xs r 1576 i [] (fu Gc Gm)) : ∃ r, JX l nm Lx xs r 801 i [] (fu Gc Gm) := by
  by_cases hz : zx xs (i + 2) = 0
  · obtain ⟨rc, rm, e1, e2, e3, e4⟩ := hop Gc Gm hI (zx xs (i + 1)) 0 zx_r (Or.inl rfl)
    obtain ⟨r, hr⟩ := kk _ _ e4
    refine ⟨r, ?_⟩
    refine jl_aload_n dL_law_801 rfl rfl ?_
    refine jl_arg (k := 1) dL_law_802 dL_law_803 dL_law_804 dL_law_805 dL_law_806 (by decide) (by omega) (by omega) ?_
    refine jl_arg (k := 2) dL_law_807 dL_law_808 dL_law_809 dL_law_810 dL_law_811 (by decide) (by omega) (by omega) ?_
    refine jl_ifeq_yes (tgt := 819) dL_law_812 rfl hz ?_
    refine jl_iconst dL_law_819 r32_0 ?_
    refine jl_call dL_law_820 im_cX_signs ll_79 rfl (As := [(0, zx xs (i + 1)), (0, 0)]) (S := []) rfl (oc_0.1) ⟨Nat.le_of_ble_eq_true rfl, Nat.le_of_ble_eq_true rfl⟩ (Nat.le_of_ble_eq_true rfl) (Nat.le_of_ble_eq_true rfl) (Nat.le_of_ble_eq_true rfl) (cX_signs_ct (zx xs (i + 1)) 0 Gc e1) ?_
    refine jl_aload_n dL_law_823 rfl rfl ?_
    refine jl_arg (k := 1) dL_law_824 dL_law_825 dL_law_826 dL_law_827 dL_law_828 (by decide) (by omega) (by omega) ?_
    refine jl_arg (k := 2) dL_law_829 dL_law_830 dL_law_831 dL_law_832 dL_law_833 (by decide) (by omega) (by omega) ?_
    refine jl_ifeq_yes (tgt := 841) dL_law_834 rfl hz ?_
    refine jl_iconst dL_law_841 r32_0 ?_
    refine jl_call dL_law_842 im_mm_signs ll_83 rfl (As := [(0, zx xs (i + 1)), (0, 0)]) (S := [(0, rc.1)]) rfl (om_201.1) ⟨Nat.le_of_ble_eq_true rfl, Nat.le_of_ble_eq_true rfl⟩ (Nat.le_of_ble_eq_true rfl) (Nat.le_of_ble_eq_true rfl) (Nat.le_of_ble_eq_true rfl) (mm_signs_ct (zx xs (i + 1)) 0 Gm e2) ?_
    refine jl_eq_yes (tgt := 1576) dL_law_845 rfl e3 ?_
    exact hr
  · obtain ⟨rc, rm, e1, e2, e3, e4⟩ := hop Gc Gm hI (zx xs (i + 1)) 1 zx_r (Or.inr rfl)
    obtain ⟨r, hr⟩ := kk _ _ e4
    refine ⟨r, ?_⟩
    refine jl_aload_n dL_law_801 rfl rfl ?_
    refine jl_arg (k := 1) dL_law_802 dL_law_803 dL_law_804 dL_law_805 dL_law_806 (by decide) (by omega) (by omega) ?_
    refine jl_arg (k := 2) dL_law_807 dL_law_808 dL_law_809 dL_law_810 dL_law_811 (by decide) (by omega) (by omega) ?_
    refine jl_ifeq_no (tgt := 819) dL_law_812 rfl hz ?_
    refine jl_iconst dL_law_815 r32_1 ?_
    refine jl_goto (tgt := 820) dL_law_816 rfl ?_
    refine jl_call dL_law_820 im_cX_signs ll_79 rfl (As := [(0, zx xs (i + 1)), (0, 1)]) (S := []) rfl (oc_0.1) ⟨Nat.le_of_ble_eq_true rfl, Nat.le_of_ble_eq_true rfl⟩ (Nat.le_of_ble_eq_true rfl) (Nat.le_of_ble_eq_true rfl) (Nat.le_of_ble_eq_true rfl) (cX_signs_ct (zx xs (i + 1)) 1 Gc e1) ?_
    refine jl_aload_n dL_law_823 rfl rfl ?_
    refine jl_arg (k := 1) dL_law_824 dL_law_825 dL_law_826 dL_law_827 dL_law_828 (by decide) (by omega) (by omega) ?_
    refine jl_arg (k := 2) dL_law_829 dL_law_830 dL_law_831 dL_law_832 dL_law_833 (by decide) (by omega) (by omega) ?_
    refine jl_ifeq_no (tgt := 841) dL_law_834 rfl hz ?_
    refine jl_iconst dL_law_837 r32_1 ?_
    refine jl_goto (tgt := 842) dL_law_838 rfl ?_
    refine jl_call dL_law_842 im_mm_signs ll_83 rfl (As := [(0, zx xs (i + 1)), (0, 1)]) (S := [(0, rc.1)]) rfl (om_201.1) ⟨Nat.le_of_ble_eq_true rfl, Nat.le_of_ble_eq_true rfl⟩ (Nat.le_of_ble_eq_true rfl) (Nat.le_of_ble_eq_true rfl) (Nat.le_of_ble_eq_true rfl) (mm_signs_ct (zx xs (i + 1)) 1 Gm e2) ?_
    refine jl_eq_yes (tgt := 1576) dL_law_845 rfl e3 ?_
    exact hr
theorem law_op16 {l : Launch} {nm : String} {Lx i : Nat} {xs : Nat → Int32} {Inv : Hp → Hp → Prop} (hop : Op16 Inv) (hL : Lx ≤ 3072) (hi : i + 5 < Lx) {Gc Gm : Hp} (hI : Inv Gc Gm) (kk : ∀ Gc Gm, Inv Gc Gm → ∃ r, JX l nm Lx xs r 1576 i [] (fu Gc Gm)) : ∃ r, JX l nm Lx xs r 850 i [] (fu Gc Gm) := by
  obtain ⟨rc, rm, e1, e2, e3, e4⟩ := hop Gc Gm hI (zx xs (i + 1)) (zx xs (i + 2)) zx_r zx_r
  obtain ⟨r, hr⟩ := kk _ _ e4
  refine ⟨r, ?_⟩
  refine jl_aload_n dL_law_850 rfl rfl ?_
  refine jl_arg (k := 1) dL_law_851 dL_law_852 dL_law_853 dL_law_854 dL_law_855 (by decide) (by omega) (by omega) ?_
  refine jl_arg (k := 2) dL_law_856 dL_law_857 dL_law_858 dL_law_859 dL_law_860 (by decide) (by omega) (by omega) ?_
  refine jl_call dL_law_861 im_cX_vote ll_84 rfl (As := [(0, zx xs (i + 1)), (0, zx xs (i + 2))]) (S := []) rfl (oc_0.1) ⟨Nat.le_of_ble_eq_true rfl, Nat.le_of_ble_eq_true rfl⟩ (Nat.le_of_ble_eq_true rfl) (Nat.le_of_ble_eq_true rfl) (Nat.le_of_ble_eq_true rfl) (cX_vote_ct (zx xs (i + 1)) (zx xs (i + 2)) Gc e1) ?_
  refine jl_aload_n dL_law_864 rfl rfl ?_
  refine jl_arg (k := 1) dL_law_865 dL_law_866 dL_law_867 dL_law_868 dL_law_869 (by decide) (by omega) (by omega) ?_
  refine jl_arg (k := 2) dL_law_870 dL_law_871 dL_law_872 dL_law_873 dL_law_874 (by decide) (by omega) (by omega) ?_
  refine jl_call dL_law_875 im_mm_vote ll_87 rfl (As := [(0, zx xs (i + 1)), (0, zx xs (i + 2))]) (S := [(0, rc.1)]) rfl (om_201.1) ⟨Nat.le_of_ble_eq_true rfl, Nat.le_of_ble_eq_true rfl⟩ (Nat.le_of_ble_eq_true rfl) (Nat.le_of_ble_eq_true rfl) (Nat.le_of_ble_eq_true rfl) (mm_vote_ct (zx xs (i + 1)) (zx xs (i + 2)) Gm e2) ?_
  refine jl_eq_yes (tgt := 1576) dL_law_878 rfl e3 ?_
  exact hr
theorem law_op17 {l : Launch} {nm : String} {Lx i : Nat} {xs : Nat → Int32} {Inv : Hp → Hp → Prop} (hop : Op17 Inv) (hL : Lx ≤ 3072) (hi : i + 5 < Lx) {Gc Gm : Hp} (hI : Inv Gc Gm) (kk : ∀ Gc Gm, Inv Gc Gm → ∃ r, JX l nm Lx xs r 1576 i [] (fu Gc Gm)) : ∃ r, JX l nm Lx xs r 883 i [] (fu Gc Gm) := by
  by_cases hz : zx xs (i + 4) = 0
  · obtain ⟨rc, rm, e1, e2, e3, e4⟩ := hop Gc Gm hI (zx xs (i + 1)) (zx xs (i + 2)) (zx xs (i + 3)) 0 zx_r zx_r zx_r (Or.inl rfl)
    obtain ⟨r, hr⟩ := kk _ _ e4
    refine ⟨r, ?_⟩
    refine jl_aload_n dL_law_883 rfl rfl ?_
    refine jl_arg (k := 1) dL_law_884 dL_law_885 dL_law_886 dL_law_887 dL_law_888 (by decide) (by omega) (by omega) ?_
    refine jl_arg (k := 2) dL_law_889 dL_law_890 dL_law_891 dL_law_892 dL_law_893 (by decide) (by omega) (by omega) ?_
    refine jl_arg (k := 3) dL_law_894 dL_law_895 dL_law_896 dL_law_897 dL_law_898 (by decide) (by omega) (by omega) ?_
    refine jl_arg (k := 4) dL_law_899 dL_law_900 dL_law_901 dL_law_902 dL_law_903 (by decide) (by omega) (by omega) ?_
    refine jl_ifeq_yes (tgt := 911) dL_law_904 rfl hz ?_
    refine jl_iconst dL_law_911 r32_0 ?_
    refine jl_call dL_law_912 im_cX_come ll_88 rfl (As := [(0, zx xs (i + 1)), (0, zx xs (i + 2)), (0, zx xs (i + 3)), (0, 0)]) (S := []) rfl (oc_0.1) ⟨Nat.le_of_ble_eq_true rfl, Nat.le_of_ble_eq_true rfl⟩ (Nat.le_of_ble_eq_true rfl) (Nat.le_of_ble_eq_true rfl) (Nat.le_of_ble_eq_true rfl) (cX_come_ct (zx xs (i + 1)) (zx xs (i + 2)) (zx xs (i + 3)) 0 Gc e1) ?_
    refine jl_aload_n dL_law_915 rfl rfl ?_
    refine jl_arg (k := 1) dL_law_916 dL_law_917 dL_law_918 dL_law_919 dL_law_920 (by decide) (by omega) (by omega) ?_
    refine jl_arg (k := 2) dL_law_921 dL_law_922 dL_law_923 dL_law_924 dL_law_925 (by decide) (by omega) (by omega) ?_
    refine jl_arg (k := 3) dL_law_926 dL_law_927 dL_law_928 dL_law_929 dL_law_930 (by decide) (by omega) (by omega) ?_
    refine jl_arg (k := 4) dL_law_931 dL_law_932 dL_law_933 dL_law_934 dL_law_935 (by decide) (by omega) (by omega) ?_
    refine jl_ifeq_yes (tgt := 943) dL_law_936 rfl hz ?_
    refine jl_iconst dL_law_943 r32_0 ?_
    refine jl_call dL_law_944 im_mm_come ll_92 rfl (As := [(0, zx xs (i + 1)), (0, zx xs (i + 2)), (0, zx xs (i + 3)), (0, 0)]) (S := [(1, rc)]) rfl (om_201.1) ⟨Nat.le_of_ble_eq_true rfl, Nat.le_of_ble_eq_true rfl⟩ (Nat.le_of_ble_eq_true rfl) (Nat.le_of_ble_eq_true rfl) (Nat.le_of_ble_eq_true rfl) (mm_come_ct (zx xs (i + 1)) (zx xs (i + 2)) (zx xs (i + 3)) 0 Gm e2) ?_
    refine jl_lcmp dL_law_947 ?_
    refine jl_ifeq_yes (tgt := 1576) dL_law_948 rfl (by rw [e3]; exact lcmp_self _) ?_
    exact hr
  · obtain ⟨rc, rm, e1, e2, e3, e4⟩ := hop Gc Gm hI (zx xs (i + 1)) (zx xs (i + 2)) (zx xs (i + 3)) 1 zx_r zx_r zx_r (Or.inr rfl)
    obtain ⟨r, hr⟩ := kk _ _ e4
    refine ⟨r, ?_⟩
    refine jl_aload_n dL_law_883 rfl rfl ?_
    refine jl_arg (k := 1) dL_law_884 dL_law_885 dL_law_886 dL_law_887 dL_law_888 (by decide) (by omega) (by omega) ?_
    refine jl_arg (k := 2) dL_law_889 dL_law_890 dL_law_891 dL_law_892 dL_law_893 (by decide) (by omega) (by omega) ?_
    refine jl_arg (k := 3) dL_law_894 dL_law_895 dL_law_896 dL_law_897 dL_law_898 (by decide) (by omega) (by omega) ?_
    refine jl_arg (k := 4) dL_law_899 dL_law_900 dL_law_901 dL_law_902 dL_law_903 (by decide) (by omega) (by omega) ?_
    refine jl_ifeq_no (tgt := 911) dL_law_904 rfl hz ?_
    refine jl_iconst dL_law_907 r32_1 ?_
    refine jl_goto (tgt := 912) dL_law_908 rfl ?_
    refine jl_call dL_law_912 im_cX_come ll_88 rfl (As := [(0, zx xs (i + 1)), (0, zx xs (i + 2)), (0, zx xs (i + 3)), (0, 1)]) (S := []) rfl (oc_0.1) ⟨Nat.le_of_ble_eq_true rfl, Nat.le_of_ble_eq_true rfl⟩ (Nat.le_of_ble_eq_true rfl) (Nat.le_of_ble_eq_true rfl) (Nat.le_of_ble_eq_true rfl) (cX_come_ct (zx xs (i + 1)) (zx xs (i + 2)) (zx xs (i + 3)) 1 Gc e1) ?_
    refine jl_aload_n dL_law_915 rfl rfl ?_
    refine jl_arg (k := 1) dL_law_916 dL_law_917 dL_law_918 dL_law_919 dL_law_920 (by decide) (by omega) (by omega) ?_
    refine jl_arg (k := 2) dL_law_921 dL_law_922 dL_law_923 dL_law_924 dL_law_925 (by decide) (by omega) (by omega) ?_
    refine jl_arg (k := 3) dL_law_926 dL_law_927 dL_law_928 dL_law_929 dL_law_930 (by decide) (by omega) (by omega) ?_
    refine jl_arg (k := 4) dL_law_931 dL_law_932 dL_law_933 dL_law_934 dL_law_935 (by decide) (by omega) (by omega) ?_
    refine jl_ifeq_no (tgt := 943) dL_law_936 rfl hz ?_
    refine jl_iconst dL_law_939 r32_1 ?_
    refine jl_goto (tgt := 944) dL_law_940 rfl ?_
    refine jl_call dL_law_944 im_mm_come ll_92 rfl (As := [(0, zx xs (i + 1)), (0, zx xs (i + 2)), (0, zx xs (i + 3)), (0, 1)]) (S := [(1, rc)]) rfl (om_201.1) ⟨Nat.le_of_ble_eq_true rfl, Nat.le_of_ble_eq_true rfl⟩ (Nat.le_of_ble_eq_true rfl) (Nat.le_of_ble_eq_true rfl) (Nat.le_of_ble_eq_true rfl) (mm_come_ct (zx xs (i + 1)) (zx xs (i + 2)) (zx xs (i + 3)) 1 Gm e2) ?_
    refine jl_lcmp dL_law_947 ?_
    refine jl_ifeq_yes (tgt := 1576) dL_law_948 rfl (by rw [e3]; exact lcmp_self _) ?_
    exact hr
theorem law_op18 {l : Launch} {nm : String} {Lx i : Nat} {xs : Nat → Int32} {Inv : Hp → Hp → Prop} (hop : Op18 Inv) (hL : Lx ≤ 3072) (hi : i + 5 < Lx) {Gc Gm : Hp} (hI : Inv Gc Gm) (kk : ∀ Gc Gm, Inv Gc Gm → ∃ r, JX l nm Lx xs r 1576 i [] (fu Gc Gm)) : ∃ r, JX l nm Lx xs r 953 i [] (fu Gc Gm) := by
  obtain ⟨rc, rm, e1, e2, e3, e4⟩ := hop Gc Gm hI (zx xs (i + 1)) (zx xs (i + 2)) (zx xs (i + 3)) zx_r zx_r zx_r
  obtain ⟨r, hr⟩ := kk _ _ e4
  refine ⟨r, ?_⟩
  refine jl_aload_n dL_law_953 rfl rfl ?_
  refine jl_arg (k := 1) dL_law_954 dL_law_955 dL_law_956 dL_law_957 dL_law_958 (by decide) (by omega) (by omega) ?_
  refine jl_arg (k := 2) dL_law_959 dL_law_960 dL_law_961 dL_law_962 dL_law_963 (by decide) (by omega) (by omega) ?_
  refine jl_arg (k := 3) dL_law_964 dL_law_965 dL_law_966 dL_law_967 dL_law_968 (by decide) (by omega) (by omega) ?_
  refine jl_call dL_law_969 im_cX_fact ll_93 rfl (As := [(0, zx xs (i + 1)), (0, zx xs (i + 2)), (0, zx xs (i + 3))]) (S := []) rfl (oc_0.1) ⟨Nat.le_of_ble_eq_true rfl, Nat.le_of_ble_eq_true rfl⟩ (Nat.le_of_ble_eq_true rfl) (Nat.le_of_ble_eq_true rfl) (Nat.le_of_ble_eq_true rfl) (cX_fact_ct (zx xs (i + 1)) (zx xs (i + 2)) (zx xs (i + 3)) Gc e1) ?_
  refine jl_aload_n dL_law_972 rfl rfl ?_
  refine jl_arg (k := 1) dL_law_973 dL_law_974 dL_law_975 dL_law_976 dL_law_977 (by decide) (by omega) (by omega) ?_
  refine jl_arg (k := 2) dL_law_978 dL_law_979 dL_law_980 dL_law_981 dL_law_982 (by decide) (by omega) (by omega) ?_
  refine jl_arg (k := 3) dL_law_983 dL_law_984 dL_law_985 dL_law_986 dL_law_987 (by decide) (by omega) (by omega) ?_
  refine jl_call dL_law_988 im_mm_fact ll_96 rfl (As := [(0, zx xs (i + 1)), (0, zx xs (i + 2)), (0, zx xs (i + 3))]) (S := [(0, rc)]) rfl (om_201.1) ⟨Nat.le_of_ble_eq_true rfl, Nat.le_of_ble_eq_true rfl⟩ (Nat.le_of_ble_eq_true rfl) (Nat.le_of_ble_eq_true rfl) (Nat.le_of_ble_eq_true rfl) (mm_fact_ct (zx xs (i + 1)) (zx xs (i + 2)) (zx xs (i + 3)) Gm e2) ?_
  refine jl_eq_yes (tgt := 1576) dL_law_991 rfl e3 ?_
  exact hr
theorem law_op19 {l : Launch} {nm : String} {Lx i : Nat} {xs : Nat → Int32} {Inv : Hp → Hp → Prop} (hop : Op19 Inv) (hL : Lx ≤ 3072) (hi : i + 5 < Lx) {Gc Gm : Hp} (hI : Inv Gc Gm) (kk : ∀ Gc Gm, Inv Gc Gm → ∃ r, JX l nm Lx xs r 1576 i [] (fu Gc Gm)) : ∃ r, JX l nm Lx xs r 996 i [] (fu Gc Gm) := by
  obtain ⟨rc, rm, e1, e2, e3, e4⟩ := hop Gc Gm hI (zx xs (i + 1)) (zx xs (i + 2)) (zx xs (i + 3)) zx_r zx_r zx_r
  obtain ⟨r, hr⟩ := kk _ _ e4
  refine ⟨r, ?_⟩
  refine jl_aload_n dL_law_996 rfl rfl ?_
  refine jl_arg (k := 1) dL_law_997 dL_law_998 dL_law_999 dL_law_1000 dL_law_1001 (by decide) (by omega) (by omega) ?_
  refine jl_arg (k := 2) dL_law_1002 dL_law_1003 dL_law_1004 dL_law_1005 dL_law_1006 (by decide) (by omega) (by omega) ?_
  refine jl_arg (k := 3) dL_law_1007 dL_law_1008 dL_law_1009 dL_law_1010 dL_law_1011 (by decide) (by omega) (by omega) ?_
  refine jl_call dL_law_1012 im_cX_fits ll_97 rfl (As := [(0, zx xs (i + 1)), (0, zx xs (i + 2)), (0, zx xs (i + 3))]) (S := []) rfl (oc_0.1) ⟨Nat.le_of_ble_eq_true rfl, Nat.le_of_ble_eq_true rfl⟩ (Nat.le_of_ble_eq_true rfl) (Nat.le_of_ble_eq_true rfl) (Nat.le_of_ble_eq_true rfl) (cX_fits_ct (zx xs (i + 1)) (zx xs (i + 2)) (zx xs (i + 3)) Gc e1) ?_
  refine jl_aload_n dL_law_1015 rfl rfl ?_
  refine jl_arg (k := 1) dL_law_1016 dL_law_1017 dL_law_1018 dL_law_1019 dL_law_1020 (by decide) (by omega) (by omega) ?_
  refine jl_arg (k := 2) dL_law_1021 dL_law_1022 dL_law_1023 dL_law_1024 dL_law_1025 (by decide) (by omega) (by omega) ?_
  refine jl_arg (k := 3) dL_law_1026 dL_law_1027 dL_law_1028 dL_law_1029 dL_law_1030 (by decide) (by omega) (by omega) ?_
  refine jl_call dL_law_1031 im_mm_fits ll_100 rfl (As := [(0, zx xs (i + 1)), (0, zx xs (i + 2)), (0, zx xs (i + 3))]) (S := [(0, rc.1)]) rfl (om_201.1) ⟨Nat.le_of_ble_eq_true rfl, Nat.le_of_ble_eq_true rfl⟩ (Nat.le_of_ble_eq_true rfl) (Nat.le_of_ble_eq_true rfl) (Nat.le_of_ble_eq_true rfl) (mm_fits_ct (zx xs (i + 1)) (zx xs (i + 2)) (zx xs (i + 3)) Gm e2) ?_
  refine jl_eq_yes (tgt := 1576) dL_law_1034 rfl e3 ?_
  exact hr
theorem law_op20 {l : Launch} {nm : String} {Lx i : Nat} {xs : Nat → Int32} {Inv : Hp → Hp → Prop} (hop : Op20 Inv) (hL : Lx ≤ 3072) (hi : i + 5 < Lx) {Gc Gm : Hp} (hI : Inv Gc Gm) (kk : ∀ Gc Gm, Inv Gc Gm → ∃ r, JX l nm Lx xs r 1576 i [] (fu Gc Gm)) : ∃ r, JX l nm Lx xs r 1039 i [] (fu Gc Gm) := by
  by_cases hz : zx xs (i + 5) = 0
  · obtain ⟨rc, rm, e1, e2, e3, e4⟩ := hop Gc Gm hI (zx xs (i + 1)) (zx xs (i + 2)) (zx xs (i + 3)) (zx xs (i + 4)) 0 zx_r zx_r zx_r zx_r (Or.inl rfl)
    obtain ⟨r, hr⟩ := kk _ _ e4
    refine ⟨r, ?_⟩
    refine jl_aload_n dL_law_1039 rfl rfl ?_
    refine jl_arg (k := 1) dL_law_1040 dL_law_1041 dL_law_1042 dL_law_1043 dL_law_1044 (by decide) (by omega) (by omega) ?_
    refine jl_arg (k := 2) dL_law_1045 dL_law_1046 dL_law_1047 dL_law_1048 dL_law_1049 (by decide) (by omega) (by omega) ?_
    refine jl_arg (k := 3) dL_law_1050 dL_law_1051 dL_law_1052 dL_law_1053 dL_law_1054 (by decide) (by omega) (by omega) ?_
    refine jl_arg (k := 4) dL_law_1055 dL_law_1056 dL_law_1057 dL_law_1058 dL_law_1059 (by decide) (by omega) (by omega) ?_
    refine jl_arg (k := 5) dL_law_1060 dL_law_1061 dL_law_1062 dL_law_1063 dL_law_1064 (by decide) (by omega) (by omega) ?_
    refine jl_ifeq_yes (tgt := 1072) dL_law_1065 rfl hz ?_
    refine jl_iconst dL_law_1072 r32_0 ?_
    refine jl_call dL_law_1073 im_cX_ahead ll_101 rfl (As := [(0, zx xs (i + 1)), (0, zx xs (i + 2)), (0, zx xs (i + 3)), (0, zx xs (i + 4)), (0, 0)]) (S := []) rfl (oc_0.1) ⟨Nat.le_of_ble_eq_true rfl, Nat.le_of_ble_eq_true rfl⟩ (Nat.le_of_ble_eq_true rfl) (Nat.le_of_ble_eq_true rfl) (Nat.le_of_ble_eq_true rfl) (cX_ahead_ct (zx xs (i + 1)) (zx xs (i + 2)) (zx xs (i + 3)) (zx xs (i + 4)) 0 Gc e1) ?_
    refine jl_aload_n dL_law_1076 rfl rfl ?_
    refine jl_arg (k := 1) dL_law_1077 dL_law_1078 dL_law_1079 dL_law_1080 dL_law_1081 (by decide) (by omega) (by omega) ?_
    refine jl_arg (k := 2) dL_law_1082 dL_law_1083 dL_law_1084 dL_law_1085 dL_law_1086 (by decide) (by omega) (by omega) ?_
    refine jl_arg (k := 3) dL_law_1087 dL_law_1088 dL_law_1089 dL_law_1090 dL_law_1091 (by decide) (by omega) (by omega) ?_
    refine jl_arg (k := 4) dL_law_1092 dL_law_1093 dL_law_1094 dL_law_1095 dL_law_1096 (by decide) (by omega) (by omega) ?_
    refine jl_arg (k := 5) dL_law_1097 dL_law_1098 dL_law_1099 dL_law_1100 dL_law_1101 (by decide) (by omega) (by omega) ?_
    refine jl_ifeq_yes (tgt := 1109) dL_law_1102 rfl hz ?_
    refine jl_iconst dL_law_1109 r32_0 ?_
    refine jl_call dL_law_1110 im_mm_ahead ll_104 rfl (As := [(0, zx xs (i + 1)), (0, zx xs (i + 2)), (0, zx xs (i + 3)), (0, zx xs (i + 4)), (0, 0)]) (S := [(0, rc.1)]) rfl (om_201.1) ⟨Nat.le_of_ble_eq_true rfl, Nat.le_of_ble_eq_true rfl⟩ (Nat.le_of_ble_eq_true rfl) (Nat.le_of_ble_eq_true rfl) (Nat.le_of_ble_eq_true rfl) (mm_ahead_ct (zx xs (i + 1)) (zx xs (i + 2)) (zx xs (i + 3)) (zx xs (i + 4)) 0 Gm e2) ?_
    refine jl_eq_yes (tgt := 1576) dL_law_1113 rfl e3 ?_
    exact hr
  · obtain ⟨rc, rm, e1, e2, e3, e4⟩ := hop Gc Gm hI (zx xs (i + 1)) (zx xs (i + 2)) (zx xs (i + 3)) (zx xs (i + 4)) 1 zx_r zx_r zx_r zx_r (Or.inr rfl)
    obtain ⟨r, hr⟩ := kk _ _ e4
    refine ⟨r, ?_⟩
    refine jl_aload_n dL_law_1039 rfl rfl ?_
    refine jl_arg (k := 1) dL_law_1040 dL_law_1041 dL_law_1042 dL_law_1043 dL_law_1044 (by decide) (by omega) (by omega) ?_
    refine jl_arg (k := 2) dL_law_1045 dL_law_1046 dL_law_1047 dL_law_1048 dL_law_1049 (by decide) (by omega) (by omega) ?_
    refine jl_arg (k := 3) dL_law_1050 dL_law_1051 dL_law_1052 dL_law_1053 dL_law_1054 (by decide) (by omega) (by omega) ?_
    refine jl_arg (k := 4) dL_law_1055 dL_law_1056 dL_law_1057 dL_law_1058 dL_law_1059 (by decide) (by omega) (by omega) ?_
    refine jl_arg (k := 5) dL_law_1060 dL_law_1061 dL_law_1062 dL_law_1063 dL_law_1064 (by decide) (by omega) (by omega) ?_
    refine jl_ifeq_no (tgt := 1072) dL_law_1065 rfl hz ?_
    refine jl_iconst dL_law_1068 r32_1 ?_
    refine jl_goto (tgt := 1073) dL_law_1069 rfl ?_
    refine jl_call dL_law_1073 im_cX_ahead ll_101 rfl (As := [(0, zx xs (i + 1)), (0, zx xs (i + 2)), (0, zx xs (i + 3)), (0, zx xs (i + 4)), (0, 1)]) (S := []) rfl (oc_0.1) ⟨Nat.le_of_ble_eq_true rfl, Nat.le_of_ble_eq_true rfl⟩ (Nat.le_of_ble_eq_true rfl) (Nat.le_of_ble_eq_true rfl) (Nat.le_of_ble_eq_true rfl) (cX_ahead_ct (zx xs (i + 1)) (zx xs (i + 2)) (zx xs (i + 3)) (zx xs (i + 4)) 1 Gc e1) ?_
    refine jl_aload_n dL_law_1076 rfl rfl ?_
    refine jl_arg (k := 1) dL_law_1077 dL_law_1078 dL_law_1079 dL_law_1080 dL_law_1081 (by decide) (by omega) (by omega) ?_
    refine jl_arg (k := 2) dL_law_1082 dL_law_1083 dL_law_1084 dL_law_1085 dL_law_1086 (by decide) (by omega) (by omega) ?_
    refine jl_arg (k := 3) dL_law_1087 dL_law_1088 dL_law_1089 dL_law_1090 dL_law_1091 (by decide) (by omega) (by omega) ?_
    refine jl_arg (k := 4) dL_law_1092 dL_law_1093 dL_law_1094 dL_law_1095 dL_law_1096 (by decide) (by omega) (by omega) ?_
    refine jl_arg (k := 5) dL_law_1097 dL_law_1098 dL_law_1099 dL_law_1100 dL_law_1101 (by decide) (by omega) (by omega) ?_
    refine jl_ifeq_no (tgt := 1109) dL_law_1102 rfl hz ?_
    refine jl_iconst dL_law_1105 r32_1 ?_
    refine jl_goto (tgt := 1110) dL_law_1106 rfl ?_
    refine jl_call dL_law_1110 im_mm_ahead ll_104 rfl (As := [(0, zx xs (i + 1)), (0, zx xs (i + 2)), (0, zx xs (i + 3)), (0, zx xs (i + 4)), (0, 1)]) (S := [(0, rc.1)]) rfl (om_201.1) ⟨Nat.le_of_ble_eq_true rfl, Nat.le_of_ble_eq_true rfl⟩ (Nat.le_of_ble_eq_true rfl) (Nat.le_of_ble_eq_true rfl) (Nat.le_of_ble_eq_true rfl) (mm_ahead_ct (zx xs (i + 1)) (zx xs (i + 2)) (zx xs (i + 3)) (zx xs (i + 4)) 1 Gm e2) ?_
    refine jl_eq_yes (tgt := 1576) dL_law_1113 rfl e3 ?_
    exact hr
theorem law_op21 {l : Launch} {nm : String} {Lx i : Nat} {xs : Nat → Int32} {Inv : Hp → Hp → Prop} (hop : Op21 Inv) (hL : Lx ≤ 3072) (hi : i + 5 < Lx) {Gc Gm : Hp} (hI : Inv Gc Gm) (kk : ∀ Gc Gm, Inv Gc Gm → ∃ r, JX l nm Lx xs r 1576 i [] (fu Gc Gm)) : ∃ r, JX l nm Lx xs r 1118 i [] (fu Gc Gm) := by
  obtain ⟨rc, rm, e1, e2, e3, e4⟩ := hop Gc Gm hI (zx xs (i + 1)) (zx xs (i + 2)) (zx xs (i + 3)) (zx xs (i + 4)) zx_r zx_r zx_r zx_r
  obtain ⟨r, hr⟩ := kk _ _ e4
  refine ⟨r, ?_⟩
  refine jl_aload_n dL_law_1118 rfl rfl ?_
  refine jl_arg (k := 1) dL_law_1119 dL_law_1120 dL_law_1121 dL_law_1122 dL_law_1123 (by decide) (by omega) (by omega) ?_
  refine jl_arg (k := 2) dL_law_1124 dL_law_1125 dL_law_1126 dL_law_1127 dL_law_1128 (by decide) (by omega) (by omega) ?_
  refine jl_arg (k := 3) dL_law_1129 dL_law_1130 dL_law_1131 dL_law_1132 dL_law_1133 (by decide) (by omega) (by omega) ?_
  refine jl_arg (k := 4) dL_law_1134 dL_law_1135 dL_law_1136 dL_law_1137 dL_law_1138 (by decide) (by omega) (by omega) ?_
  refine jl_call dL_law_1139 im_cX_drawn ll_105 rfl (As := [(0, zx xs (i + 1)), (0, zx xs (i + 2)), (0, zx xs (i + 3)), (0, zx xs (i + 4))]) (S := []) rfl (oc_0.1) ⟨Nat.le_of_ble_eq_true rfl, Nat.le_of_ble_eq_true rfl⟩ (Nat.le_of_ble_eq_true rfl) (Nat.le_of_ble_eq_true rfl) (Nat.le_of_ble_eq_true rfl) (cX_drawn_ct (zx xs (i + 1)) (zx xs (i + 2)) (zx xs (i + 3)) (zx xs (i + 4)) Gc e1) ?_
  refine jl_aload_n dL_law_1142 rfl rfl ?_
  refine jl_arg (k := 1) dL_law_1143 dL_law_1144 dL_law_1145 dL_law_1146 dL_law_1147 (by decide) (by omega) (by omega) ?_
  refine jl_arg (k := 2) dL_law_1148 dL_law_1149 dL_law_1150 dL_law_1151 dL_law_1152 (by decide) (by omega) (by omega) ?_
  refine jl_arg (k := 3) dL_law_1153 dL_law_1154 dL_law_1155 dL_law_1156 dL_law_1157 (by decide) (by omega) (by omega) ?_
  refine jl_arg (k := 4) dL_law_1158 dL_law_1159 dL_law_1160 dL_law_1161 dL_law_1162 (by decide) (by omega) (by omega) ?_
  refine jl_call dL_law_1163 im_mm_drawn ll_108 rfl (As := [(0, zx xs (i + 1)), (0, zx xs (i + 2)), (0, zx xs (i + 3)), (0, zx xs (i + 4))]) (S := [(0, rc.1)]) rfl (om_201.1) ⟨Nat.le_of_ble_eq_true rfl, Nat.le_of_ble_eq_true rfl⟩ (Nat.le_of_ble_eq_true rfl) (Nat.le_of_ble_eq_true rfl) (Nat.le_of_ble_eq_true rfl) (mm_drawn_ct (zx xs (i + 1)) (zx xs (i + 2)) (zx xs (i + 3)) (zx xs (i + 4)) Gm e2) ?_
  refine jl_eq_yes (tgt := 1576) dL_law_1166 rfl e3 ?_
  exact hr
theorem law_op22 {l : Launch} {nm : String} {Lx i : Nat} {xs : Nat → Int32} {Inv : Hp → Hp → Prop} (hop : Op22 Inv) (hL : Lx ≤ 3072) (hi : i + 5 < Lx) {Gc Gm : Hp} (hI : Inv Gc Gm) (kk : ∀ Gc Gm, Inv Gc Gm → ∃ r, JX l nm Lx xs r 1576 i [] (fu Gc Gm)) : ∃ r, JX l nm Lx xs r 1171 i [] (fu Gc Gm) := by
  obtain ⟨rc, rm, e1, e2, e3, e4⟩ := hop Gc Gm hI (zx xs (i + 1)) (zx xs (i + 2)) zx_r zx_r
  obtain ⟨r, hr⟩ := kk _ _ e4
  refine ⟨r, ?_⟩
  refine jl_aload_n dL_law_1171 rfl rfl ?_
  refine jl_arg (k := 1) dL_law_1172 dL_law_1173 dL_law_1174 dL_law_1175 dL_law_1176 (by decide) (by omega) (by omega) ?_
  refine jl_arg (k := 2) dL_law_1177 dL_law_1178 dL_law_1179 dL_law_1180 dL_law_1181 (by decide) (by omega) (by omega) ?_
  refine jl_call dL_law_1182 im_cX_kin ll_109 rfl (As := [(0, zx xs (i + 1)), (0, zx xs (i + 2))]) (S := []) rfl (oc_0.1) ⟨Nat.le_of_ble_eq_true rfl, Nat.le_of_ble_eq_true rfl⟩ (Nat.le_of_ble_eq_true rfl) (Nat.le_of_ble_eq_true rfl) (Nat.le_of_ble_eq_true rfl) (cX_kin_ct (zx xs (i + 1)) (zx xs (i + 2)) Gc e1) ?_
  refine jl_aload_n dL_law_1185 rfl rfl ?_
  refine jl_arg (k := 1) dL_law_1186 dL_law_1187 dL_law_1188 dL_law_1189 dL_law_1190 (by decide) (by omega) (by omega) ?_
  refine jl_arg (k := 2) dL_law_1191 dL_law_1192 dL_law_1193 dL_law_1194 dL_law_1195 (by decide) (by omega) (by omega) ?_
  refine jl_call dL_law_1196 im_mm_kin ll_112 rfl (As := [(0, zx xs (i + 1)), (0, zx xs (i + 2))]) (S := [(0, rc.1)]) rfl (om_201.1) ⟨Nat.le_of_ble_eq_true rfl, Nat.le_of_ble_eq_true rfl⟩ (Nat.le_of_ble_eq_true rfl) (Nat.le_of_ble_eq_true rfl) (Nat.le_of_ble_eq_true rfl) (mm_kin_ct (zx xs (i + 1)) (zx xs (i + 2)) Gm e2) ?_
  refine jl_eq_yes (tgt := 1576) dL_law_1199 rfl e3 ?_
  exact hr
theorem law_op23 {l : Launch} {nm : String} {Lx i : Nat} {xs : Nat → Int32} {Inv : Hp → Hp → Prop} (hop : Op23 Inv) (hL : Lx ≤ 3072) (hi : i + 5 < Lx) {Gc Gm : Hp} (hI : Inv Gc Gm) (kk : ∀ Gc Gm, Inv Gc Gm → ∃ r, JX l nm Lx xs r 1576 i [] (fu Gc Gm)) : ∃ r, JX l nm Lx xs r 1204 i [] (fu Gc Gm) := by
  obtain ⟨rc, rm, e1, e2, e3, e4⟩ := hop Gc Gm hI (zx xs (i + 1)) (zx xs (i + 2)) (zx xs (i + 3)) zx_r zx_r zx_r
  obtain ⟨r, hr⟩ := kk _ _ e4
  refine ⟨r, ?_⟩
  refine jl_aload_n dL_law_1204 rfl rfl ?_
  refine jl_arg (k := 1) dL_law_1205 dL_law_1206 dL_law_1207 dL_law_1208 dL_law_1209 (by decide) (by omega) (by omega) ?_
  refine jl_arg (k := 2) dL_law_1210 dL_law_1211 dL_law_1212 dL_law_1213 dL_law_1214 (by decide) (by omega) (by omega) ?_
  refine jl_arg (k := 3) dL_law_1215 dL_law_1216 dL_law_1217 dL_law_1218 dL_law_1219 (by decide) (by omega) (by omega) ?_
  refine jl_call dL_law_1220 im_cX_distance ll_113 rfl (As := [(0, zx xs (i + 1)), (0, zx xs (i + 2)), (0, zx xs (i + 3))]) (S := []) rfl (oc_0.1) ⟨Nat.le_of_ble_eq_true rfl, Nat.le_of_ble_eq_true rfl⟩ (Nat.le_of_ble_eq_true rfl) (Nat.le_of_ble_eq_true rfl) (Nat.le_of_ble_eq_true rfl) (cX_distance_ct (zx xs (i + 1)) (zx xs (i + 2)) (zx xs (i + 3)) Gc e1) ?_
  refine jl_aload_n dL_law_1223 rfl rfl ?_
  refine jl_arg (k := 1) dL_law_1224 dL_law_1225 dL_law_1226 dL_law_1227 dL_law_1228 (by decide) (by omega) (by omega) ?_
  refine jl_arg (k := 2) dL_law_1229 dL_law_1230 dL_law_1231 dL_law_1232 dL_law_1233 (by decide) (by omega) (by omega) ?_
  refine jl_arg (k := 3) dL_law_1234 dL_law_1235 dL_law_1236 dL_law_1237 dL_law_1238 (by decide) (by omega) (by omega) ?_
  refine jl_call dL_law_1239 im_mm_distance ll_116 rfl (As := [(0, zx xs (i + 1)), (0, zx xs (i + 2)), (0, zx xs (i + 3))]) (S := [(0, rc.1)]) rfl (om_201.1) ⟨Nat.le_of_ble_eq_true rfl, Nat.le_of_ble_eq_true rfl⟩ (Nat.le_of_ble_eq_true rfl) (Nat.le_of_ble_eq_true rfl) (Nat.le_of_ble_eq_true rfl) (mm_distance_ct (zx xs (i + 1)) (zx xs (i + 2)) (zx xs (i + 3)) Gm e2) ?_
  refine jl_eq_yes (tgt := 1576) dL_law_1242 rfl e3 ?_
  exact hr
theorem law_op24 {l : Launch} {nm : String} {Lx i : Nat} {xs : Nat → Int32} {Inv : Hp → Hp → Prop} (hop : Op24 Inv) (hL : Lx ≤ 3072) (hi : i + 5 < Lx) {Gc Gm : Hp} (hI : Inv Gc Gm) (kk : ∀ Gc Gm, Inv Gc Gm → ∃ r, JX l nm Lx xs r 1576 i [] (fu Gc Gm)) : ∃ r, JX l nm Lx xs r 1247 i [] (fu Gc Gm) := by
  by_cases hz : zx xs (i + 2) = 0
  · obtain ⟨rc, rm, e1, e2, e3, e4⟩ := hop Gc Gm hI (zx xs (i + 1)) 0 zx_r (Or.inl rfl)
    obtain ⟨r, hr⟩ := kk _ _ e4
    refine ⟨r, ?_⟩
    refine jl_aload_n dL_law_1247 rfl rfl ?_
    refine jl_arg (k := 1) dL_law_1248 dL_law_1249 dL_law_1250 dL_law_1251 dL_law_1252 (by decide) (by omega) (by omega) ?_
    refine jl_arg (k := 2) dL_law_1253 dL_law_1254 dL_law_1255 dL_law_1256 dL_law_1257 (by decide) (by omega) (by omega) ?_
    refine jl_ifeq_yes (tgt := 1265) dL_law_1258 rfl hz ?_
    refine jl_iconst dL_law_1265 r32_0 ?_
    refine jl_call dL_law_1266 im_cX_peace ll_117 rfl (As := [(0, zx xs (i + 1)), (0, 0)]) (S := []) rfl (oc_0.1) ⟨Nat.le_of_ble_eq_true rfl, Nat.le_of_ble_eq_true rfl⟩ (Nat.le_of_ble_eq_true rfl) (Nat.le_of_ble_eq_true rfl) (Nat.le_of_ble_eq_true rfl) (cX_peace_ct (zx xs (i + 1)) 0 Gc e1) ?_
    refine jl_aload_n dL_law_1269 rfl rfl ?_
    refine jl_arg (k := 1) dL_law_1270 dL_law_1271 dL_law_1272 dL_law_1273 dL_law_1274 (by decide) (by omega) (by omega) ?_
    refine jl_arg (k := 2) dL_law_1275 dL_law_1276 dL_law_1277 dL_law_1278 dL_law_1279 (by decide) (by omega) (by omega) ?_
    refine jl_ifeq_yes (tgt := 1287) dL_law_1280 rfl hz ?_
    refine jl_iconst dL_law_1287 r32_0 ?_
    refine jl_call dL_law_1288 im_mm_peace ll_120 rfl (As := [(0, zx xs (i + 1)), (0, 0)]) (S := [(0, rc.1)]) rfl (om_201.1) ⟨Nat.le_of_ble_eq_true rfl, Nat.le_of_ble_eq_true rfl⟩ (Nat.le_of_ble_eq_true rfl) (Nat.le_of_ble_eq_true rfl) (Nat.le_of_ble_eq_true rfl) (mm_peace_ct (zx xs (i + 1)) 0 Gm e2) ?_
    refine jl_eq_yes (tgt := 1576) dL_law_1291 rfl e3 ?_
    exact hr
  · obtain ⟨rc, rm, e1, e2, e3, e4⟩ := hop Gc Gm hI (zx xs (i + 1)) 1 zx_r (Or.inr rfl)
    obtain ⟨r, hr⟩ := kk _ _ e4
    refine ⟨r, ?_⟩
    refine jl_aload_n dL_law_1247 rfl rfl ?_
    refine jl_arg (k := 1) dL_law_1248 dL_law_1249 dL_law_1250 dL_law_1251 dL_law_1252 (by decide) (by omega) (by omega) ?_
    refine jl_arg (k := 2) dL_law_1253 dL_law_1254 dL_law_1255 dL_law_1256 dL_law_1257 (by decide) (by omega) (by omega) ?_
    refine jl_ifeq_no (tgt := 1265) dL_law_1258 rfl hz ?_
    refine jl_iconst dL_law_1261 r32_1 ?_
    refine jl_goto (tgt := 1266) dL_law_1262 rfl ?_
    refine jl_call dL_law_1266 im_cX_peace ll_117 rfl (As := [(0, zx xs (i + 1)), (0, 1)]) (S := []) rfl (oc_0.1) ⟨Nat.le_of_ble_eq_true rfl, Nat.le_of_ble_eq_true rfl⟩ (Nat.le_of_ble_eq_true rfl) (Nat.le_of_ble_eq_true rfl) (Nat.le_of_ble_eq_true rfl) (cX_peace_ct (zx xs (i + 1)) 1 Gc e1) ?_
    refine jl_aload_n dL_law_1269 rfl rfl ?_
    refine jl_arg (k := 1) dL_law_1270 dL_law_1271 dL_law_1272 dL_law_1273 dL_law_1274 (by decide) (by omega) (by omega) ?_
    refine jl_arg (k := 2) dL_law_1275 dL_law_1276 dL_law_1277 dL_law_1278 dL_law_1279 (by decide) (by omega) (by omega) ?_
    refine jl_ifeq_no (tgt := 1287) dL_law_1280 rfl hz ?_
    refine jl_iconst dL_law_1283 r32_1 ?_
    refine jl_goto (tgt := 1288) dL_law_1284 rfl ?_
    refine jl_call dL_law_1288 im_mm_peace ll_120 rfl (As := [(0, zx xs (i + 1)), (0, 1)]) (S := [(0, rc.1)]) rfl (om_201.1) ⟨Nat.le_of_ble_eq_true rfl, Nat.le_of_ble_eq_true rfl⟩ (Nat.le_of_ble_eq_true rfl) (Nat.le_of_ble_eq_true rfl) (Nat.le_of_ble_eq_true rfl) (mm_peace_ct (zx xs (i + 1)) 1 Gm e2) ?_
    refine jl_eq_yes (tgt := 1576) dL_law_1291 rfl e3 ?_
    exact hr
theorem law_op25 {l : Launch} {nm : String} {Lx i : Nat} {xs : Nat → Int32} {Inv : Hp → Hp → Prop} (hop : Op25 Inv) (hL : Lx ≤ 3072) (hi : i + 5 < Lx) {Gc Gm : Hp} (hI : Inv Gc Gm) (kk : ∀ Gc Gm, Inv Gc Gm → ∃ r, JX l nm Lx xs r 1576 i [] (fu Gc Gm)) : ∃ r, JX l nm Lx xs r 1296 i [] (fu Gc Gm) := by
  by_cases hz : zx xs (i + 3) = 0
  · obtain ⟨rc, rm, e1, e2, e3, e4⟩ := hop Gc Gm hI (zx xs (i + 1)) (zx xs (i + 2)) 0 zx_r zx_r (Or.inl rfl)
    obtain ⟨r, hr⟩ := kk _ _ e4
    refine ⟨r, ?_⟩
    refine jl_aload_n dL_law_1296 rfl rfl ?_
    refine jl_arg (k := 1) dL_law_1297 dL_law_1298 dL_law_1299 dL_law_1300 dL_law_1301 (by decide) (by omega) (by omega) ?_
    refine jl_arg (k := 2) dL_law_1302 dL_law_1303 dL_law_1304 dL_law_1305 dL_law_1306 (by decide) (by omega) (by omega) ?_
    refine jl_arg (k := 3) dL_law_1307 dL_law_1308 dL_law_1309 dL_law_1310 dL_law_1311 (by decide) (by omega) (by omega) ?_
    refine jl_ifeq_yes (tgt := 1319) dL_law_1312 rfl hz ?_
    refine jl_iconst dL_law_1319 r32_0 ?_
    refine jl_call dL_law_1320 im_cX_median ll_121 rfl (As := [(0, zx xs (i + 1)), (0, zx xs (i + 2)), (0, 0)]) (S := []) rfl (oc_0.1) ⟨Nat.le_of_ble_eq_true rfl, Nat.le_of_ble_eq_true rfl⟩ (Nat.le_of_ble_eq_true rfl) (Nat.le_of_ble_eq_true rfl) (Nat.le_of_ble_eq_true rfl) (cX_median_ct (zx xs (i + 1)) (zx xs (i + 2)) 0 Gc e1) ?_
    refine jl_aload_n dL_law_1323 rfl rfl ?_
    refine jl_arg (k := 1) dL_law_1324 dL_law_1325 dL_law_1326 dL_law_1327 dL_law_1328 (by decide) (by omega) (by omega) ?_
    refine jl_arg (k := 2) dL_law_1329 dL_law_1330 dL_law_1331 dL_law_1332 dL_law_1333 (by decide) (by omega) (by omega) ?_
    refine jl_arg (k := 3) dL_law_1334 dL_law_1335 dL_law_1336 dL_law_1337 dL_law_1338 (by decide) (by omega) (by omega) ?_
    refine jl_ifeq_yes (tgt := 1346) dL_law_1339 rfl hz ?_
    refine jl_iconst dL_law_1346 r32_0 ?_
    refine jl_call dL_law_1347 im_mm_median ll_125 rfl (As := [(0, zx xs (i + 1)), (0, zx xs (i + 2)), (0, 0)]) (S := [(0, rc.1)]) rfl (om_201.1) ⟨Nat.le_of_ble_eq_true rfl, Nat.le_of_ble_eq_true rfl⟩ (Nat.le_of_ble_eq_true rfl) (Nat.le_of_ble_eq_true rfl) (Nat.le_of_ble_eq_true rfl) (mm_median_ct (zx xs (i + 1)) (zx xs (i + 2)) 0 Gm e2) ?_
    refine jl_eq_yes (tgt := 1576) dL_law_1350 rfl e3 ?_
    exact hr
  · obtain ⟨rc, rm, e1, e2, e3, e4⟩ := hop Gc Gm hI (zx xs (i + 1)) (zx xs (i + 2)) 1 zx_r zx_r (Or.inr rfl)
    obtain ⟨r, hr⟩ := kk _ _ e4
    refine ⟨r, ?_⟩
    refine jl_aload_n dL_law_1296 rfl rfl ?_
    refine jl_arg (k := 1) dL_law_1297 dL_law_1298 dL_law_1299 dL_law_1300 dL_law_1301 (by decide) (by omega) (by omega) ?_
    refine jl_arg (k := 2) dL_law_1302 dL_law_1303 dL_law_1304 dL_law_1305 dL_law_1306 (by decide) (by omega) (by omega) ?_
    refine jl_arg (k := 3) dL_law_1307 dL_law_1308 dL_law_1309 dL_law_1310 dL_law_1311 (by decide) (by omega) (by omega) ?_
    refine jl_ifeq_no (tgt := 1319) dL_law_1312 rfl hz ?_
    refine jl_iconst dL_law_1315 r32_1 ?_
    refine jl_goto (tgt := 1320) dL_law_1316 rfl ?_
    refine jl_call dL_law_1320 im_cX_median ll_121 rfl (As := [(0, zx xs (i + 1)), (0, zx xs (i + 2)), (0, 1)]) (S := []) rfl (oc_0.1) ⟨Nat.le_of_ble_eq_true rfl, Nat.le_of_ble_eq_true rfl⟩ (Nat.le_of_ble_eq_true rfl) (Nat.le_of_ble_eq_true rfl) (Nat.le_of_ble_eq_true rfl) (cX_median_ct (zx xs (i + 1)) (zx xs (i + 2)) 1 Gc e1) ?_
    refine jl_aload_n dL_law_1323 rfl rfl ?_
    refine jl_arg (k := 1) dL_law_1324 dL_law_1325 dL_law_1326 dL_law_1327 dL_law_1328 (by decide) (by omega) (by omega) ?_
    refine jl_arg (k := 2) dL_law_1329 dL_law_1330 dL_law_1331 dL_law_1332 dL_law_1333 (by decide) (by omega) (by omega) ?_
    refine jl_arg (k := 3) dL_law_1334 dL_law_1335 dL_law_1336 dL_law_1337 dL_law_1338 (by decide) (by omega) (by omega) ?_
    refine jl_ifeq_no (tgt := 1346) dL_law_1339 rfl hz ?_
    refine jl_iconst dL_law_1342 r32_1 ?_
    refine jl_goto (tgt := 1347) dL_law_1343 rfl ?_
    refine jl_call dL_law_1347 im_mm_median ll_125 rfl (As := [(0, zx xs (i + 1)), (0, zx xs (i + 2)), (0, 1)]) (S := [(0, rc.1)]) rfl (om_201.1) ⟨Nat.le_of_ble_eq_true rfl, Nat.le_of_ble_eq_true rfl⟩ (Nat.le_of_ble_eq_true rfl) (Nat.le_of_ble_eq_true rfl) (Nat.le_of_ble_eq_true rfl) (mm_median_ct (zx xs (i + 1)) (zx xs (i + 2)) 1 Gm e2) ?_
    refine jl_eq_yes (tgt := 1576) dL_law_1350 rfl e3 ?_
    exact hr
theorem law_op26 {l : Launch} {nm : String} {Lx i : Nat} {xs : Nat → Int32} {Inv : Hp → Hp → Prop} (hop : Op26 Inv) (hL : Lx ≤ 3072) (hi : i + 5 < Lx) {Gc Gm : Hp} (hI : Inv Gc Gm) (kk : ∀ Gc Gm, Inv Gc Gm → ∃ r, JX l nm Lx xs r 1576 i [] (fu Gc Gm)) : ∃ r, JX l nm Lx xs r 1355 i [] (fu Gc Gm) := by
  obtain ⟨rc, rm, e1, e2, e3, e4⟩ := hop Gc Gm hI (zx xs (i + 1)) (zx xs (i + 2)) zx_r zx_r
  obtain ⟨r, hr⟩ := kk _ _ e4
  refine ⟨r, ?_⟩
  refine jl_aload_n dL_law_1355 rfl rfl ?_
  refine jl_arg (k := 1) dL_law_1356 dL_law_1357 dL_law_1358 dL_law_1359 dL_law_1360 (by decide) (by omega) (by omega) ?_
  refine jl_arg (k := 2) dL_law_1361 dL_law_1362 dL_law_1363 dL_law_1364 dL_law_1365 (by decide) (by omega) (by omega) ?_
  refine jl_call dL_law_1366 im_cX_rise ll_126 rfl (As := [(0, zx xs (i + 1)), (0, zx xs (i + 2))]) (S := []) rfl (oc_0.1) ⟨Nat.le_of_ble_eq_true rfl, Nat.le_of_ble_eq_true rfl⟩ (Nat.le_of_ble_eq_true rfl) (Nat.le_of_ble_eq_true rfl) (Nat.le_of_ble_eq_true rfl) (cX_rise_ct (zx xs (i + 1)) (zx xs (i + 2)) Gc e1) ?_
  refine jl_aload_n dL_law_1369 rfl rfl ?_
  refine jl_arg (k := 1) dL_law_1370 dL_law_1371 dL_law_1372 dL_law_1373 dL_law_1374 (by decide) (by omega) (by omega) ?_
  refine jl_arg (k := 2) dL_law_1375 dL_law_1376 dL_law_1377 dL_law_1378 dL_law_1379 (by decide) (by omega) (by omega) ?_
  refine jl_call dL_law_1380 im_mm_rise ll_129 rfl (As := [(0, zx xs (i + 1)), (0, zx xs (i + 2))]) (S := [(0, rc.1)]) rfl (om_201.1) ⟨Nat.le_of_ble_eq_true rfl, Nat.le_of_ble_eq_true rfl⟩ (Nat.le_of_ble_eq_true rfl) (Nat.le_of_ble_eq_true rfl) (Nat.le_of_ble_eq_true rfl) (mm_rise_ct (zx xs (i + 1)) (zx xs (i + 2)) Gm e2) ?_
  refine jl_eq_yes (tgt := 1576) dL_law_1383 rfl e3 ?_
  exact hr
theorem law_op27 {l : Launch} {nm : String} {Lx i : Nat} {xs : Nat → Int32} {Inv : Hp → Hp → Prop} (hop : Op27 Inv) (hL : Lx ≤ 3072) (hi : i + 5 < Lx) {Gc Gm : Hp} (hI : Inv Gc Gm) (kk : ∀ Gc Gm, Inv Gc Gm → ∃ r, JX l nm Lx xs r 1576 i [] (fu Gc Gm)) : ∃ r, JX l nm Lx xs r 1388 i [] (fu Gc Gm) := by
  obtain ⟨rc, rm, e1, e2, e3, e4⟩ := hop Gc Gm hI (zx xs (i + 1)) (zx xs (i + 2)) zx_r zx_r
  obtain ⟨r, hr⟩ := kk _ _ e4
  refine ⟨r, ?_⟩
  refine jl_aload_n dL_law_1388 rfl rfl ?_
  refine jl_arg (k := 1) dL_law_1389 dL_law_1390 dL_law_1391 dL_law_1392 dL_law_1393 (by decide) (by omega) (by omega) ?_
  refine jl_arg (k := 2) dL_law_1394 dL_law_1395 dL_law_1396 dL_law_1397 dL_law_1398 (by decide) (by omega) (by omega) ?_
  refine jl_call dL_law_1399 im_cX_lastWord ll_130 rfl (As := [(0, zx xs (i + 1)), (0, zx xs (i + 2))]) (S := []) rfl (oc_0.1) ⟨Nat.le_of_ble_eq_true rfl, Nat.le_of_ble_eq_true rfl⟩ (Nat.le_of_ble_eq_true rfl) (Nat.le_of_ble_eq_true rfl) (Nat.le_of_ble_eq_true rfl) (cX_lastWord_ct (zx xs (i + 1)) (zx xs (i + 2)) Gc e1) ?_
  refine jl_aload_n dL_law_1402 rfl rfl ?_
  refine jl_arg (k := 1) dL_law_1403 dL_law_1404 dL_law_1405 dL_law_1406 dL_law_1407 (by decide) (by omega) (by omega) ?_
  refine jl_arg (k := 2) dL_law_1408 dL_law_1409 dL_law_1410 dL_law_1411 dL_law_1412 (by decide) (by omega) (by omega) ?_
  refine jl_call dL_law_1413 im_mm_lastWord ll_133 rfl (As := [(0, zx xs (i + 1)), (0, zx xs (i + 2))]) (S := [(0, rc.1)]) rfl (om_201.1) ⟨Nat.le_of_ble_eq_true rfl, Nat.le_of_ble_eq_true rfl⟩ (Nat.le_of_ble_eq_true rfl) (Nat.le_of_ble_eq_true rfl) (Nat.le_of_ble_eq_true rfl) (mm_lastWord_ct (zx xs (i + 1)) (zx xs (i + 2)) Gm e2) ?_
  refine jl_eq_yes (tgt := 1576) dL_law_1416 rfl e3 ?_
  exact hr
theorem law_op28 {l : Launch} {nm : String} {Lx i : Nat} {xs : Nat → Int32} {Inv : Hp → Hp → Prop} (hop : Op28 Inv) (hL : Lx ≤ 3072) (hi : i + 5 < Lx) {Gc Gm : Hp} (hI : Inv Gc Gm) (kk : ∀ Gc Gm, Inv Gc Gm → ∃ r, JX l nm Lx xs r 1576 i [] (fu Gc Gm)) : ∃ r, JX l nm Lx xs r 1421 i [] (fu Gc Gm) := by
  obtain ⟨rc, rm, e1, e2, e3, e4⟩ := hop Gc Gm hI (zx xs (i + 1)) (zx xs (i + 2)) (zx xs (i + 3)) zx_r zx_r zx_r
  obtain ⟨r, hr⟩ := kk _ _ e4
  refine ⟨r, ?_⟩
  refine jl_aload_n dL_law_1421 rfl rfl ?_
  refine jl_arg (k := 1) dL_law_1422 dL_law_1423 dL_law_1424 dL_law_1425 dL_law_1426 (by decide) (by omega) (by omega) ?_
  refine jl_arg (k := 2) dL_law_1427 dL_law_1428 dL_law_1429 dL_law_1430 dL_law_1431 (by decide) (by omega) (by omega) ?_
  refine jl_arg (k := 3) dL_law_1432 dL_law_1433 dL_law_1434 dL_law_1435 dL_law_1436 (by decide) (by omega) (by omega) ?_
  refine jl_call dL_law_1437 im_cX_after ll_134 rfl (As := [(0, zx xs (i + 1)), (0, zx xs (i + 2)), (0, zx xs (i + 3))]) (S := []) rfl (oc_0.1) ⟨Nat.le_of_ble_eq_true rfl, Nat.le_of_ble_eq_true rfl⟩ (Nat.le_of_ble_eq_true rfl) (Nat.le_of_ble_eq_true rfl) (Nat.le_of_ble_eq_true rfl) (cX_after_ct (zx xs (i + 1)) (zx xs (i + 2)) (zx xs (i + 3)) Gc e1) ?_
  refine jl_aload_n dL_law_1440 rfl rfl ?_
  refine jl_arg (k := 1) dL_law_1441 dL_law_1442 dL_law_1443 dL_law_1444 dL_law_1445 (by decide) (by omega) (by omega) ?_
  refine jl_arg (k := 2) dL_law_1446 dL_law_1447 dL_law_1448 dL_law_1449 dL_law_1450 (by decide) (by omega) (by omega) ?_
  refine jl_arg (k := 3) dL_law_1451 dL_law_1452 dL_law_1453 dL_law_1454 dL_law_1455 (by decide) (by omega) (by omega) ?_
  refine jl_call dL_law_1456 im_mm_after ll_137 rfl (As := [(0, zx xs (i + 1)), (0, zx xs (i + 2)), (0, zx xs (i + 3))]) (S := [(0, rc.1)]) rfl (om_201.1) ⟨Nat.le_of_ble_eq_true rfl, Nat.le_of_ble_eq_true rfl⟩ (Nat.le_of_ble_eq_true rfl) (Nat.le_of_ble_eq_true rfl) (Nat.le_of_ble_eq_true rfl) (mm_after_ct (zx xs (i + 1)) (zx xs (i + 2)) (zx xs (i + 3)) Gm e2) ?_
  refine jl_eq_yes (tgt := 1576) dL_law_1459 rfl e3 ?_
  exact hr
theorem law_op29 {l : Launch} {nm : String} {Lx i : Nat} {xs : Nat → Int32} {Inv : Hp → Hp → Prop} (hop : Op29 Inv) (hL : Lx ≤ 3072) (hi : i + 5 < Lx) {Gc Gm : Hp} (hI : Inv Gc Gm) (kk : ∀ Gc Gm, Inv Gc Gm → ∃ r, JX l nm Lx xs r 1576 i [] (fu Gc Gm)) : ∃ r, JX l nm Lx xs r 1464 i [] (fu Gc Gm) := by
  obtain ⟨rc, rm, e1, e2, e3, e4⟩ := hop Gc Gm hI (zx xs (i + 1)) (zx xs (i + 2)) (zx xs (i + 3)) zx_r zx_r zx_r
  obtain ⟨r, hr⟩ := kk _ _ e4
  refine ⟨r, ?_⟩
  refine jl_aload_n dL_law_1464 rfl rfl ?_
  refine jl_arg (k := 1) dL_law_1465 dL_law_1466 dL_law_1467 dL_law_1468 dL_law_1469 (by decide) (by omega) (by omega) ?_
  refine jl_arg (k := 2) dL_law_1470 dL_law_1471 dL_law_1472 dL_law_1473 dL_law_1474 (by decide) (by omega) (by omega) ?_
  refine jl_arg (k := 3) dL_law_1475 dL_law_1476 dL_law_1477 dL_law_1478 dL_law_1479 (by decide) (by omega) (by omega) ?_
  refine jl_call dL_law_1480 im_cX_firsts ll_138 rfl (As := [(0, zx xs (i + 1)), (0, zx xs (i + 2)), (0, zx xs (i + 3))]) (S := []) rfl (oc_0.1) ⟨Nat.le_of_ble_eq_true rfl, Nat.le_of_ble_eq_true rfl⟩ (Nat.le_of_ble_eq_true rfl) (Nat.le_of_ble_eq_true rfl) (Nat.le_of_ble_eq_true rfl) (cX_firsts_ct (zx xs (i + 1)) (zx xs (i + 2)) (zx xs (i + 3)) Gc e1) ?_
  refine jl_aload_n dL_law_1483 rfl rfl ?_
  refine jl_arg (k := 1) dL_law_1484 dL_law_1485 dL_law_1486 dL_law_1487 dL_law_1488 (by decide) (by omega) (by omega) ?_
  refine jl_arg (k := 2) dL_law_1489 dL_law_1490 dL_law_1491 dL_law_1492 dL_law_1493 (by decide) (by omega) (by omega) ?_
  refine jl_arg (k := 3) dL_law_1494 dL_law_1495 dL_law_1496 dL_law_1497 dL_law_1498 (by decide) (by omega) (by omega) ?_
  refine jl_call dL_law_1499 im_mm_firsts ll_141 rfl (As := [(0, zx xs (i + 1)), (0, zx xs (i + 2)), (0, zx xs (i + 3))]) (S := [(0, rc.1)]) rfl (om_201.1) ⟨Nat.le_of_ble_eq_true rfl, Nat.le_of_ble_eq_true rfl⟩ (Nat.le_of_ble_eq_true rfl) (Nat.le_of_ble_eq_true rfl) (Nat.le_of_ble_eq_true rfl) (mm_firsts_ct (zx xs (i + 1)) (zx xs (i + 2)) (zx xs (i + 3)) Gm e2) ?_
  refine jl_eq_yes (tgt := 1576) dL_law_1502 rfl e3 ?_
  exact hr
theorem law_op30 {l : Launch} {nm : String} {Lx i : Nat} {xs : Nat → Int32} {Inv : Hp → Hp → Prop} (hop : Op30 Inv) (hL : Lx ≤ 3072) (hi : i + 5 < Lx) {Gc Gm : Hp} (hI : Inv Gc Gm) (kk : ∀ Gc Gm, Inv Gc Gm → ∃ r, JX l nm Lx xs r 1576 i [] (fu Gc Gm)) : ∃ r, JX l nm Lx xs r 1507 i [] (fu Gc Gm) := by
  obtain ⟨rc, rm, e1, e2, e3, e4⟩ := hop Gc Gm hI (zx xs (i + 1)) zx_r
  obtain ⟨r, hr⟩ := kk _ _ e4
  refine ⟨r, ?_⟩
  refine jl_aload_n dL_law_1507 rfl rfl ?_
  refine jl_arg (k := 1) dL_law_1508 dL_law_1509 dL_law_1510 dL_law_1511 dL_law_1512 (by decide) (by omega) (by omega) ?_
  refine jl_call dL_law_1513 im_cX_count ll_142 rfl (As := [(0, zx xs (i + 1))]) (S := []) rfl (oc_0.1) ⟨Nat.le_of_ble_eq_true rfl, Nat.le_of_ble_eq_true rfl⟩ (Nat.le_of_ble_eq_true rfl) (Nat.le_of_ble_eq_true rfl) (Nat.le_of_ble_eq_true rfl) (cX_count_ct (zx xs (i + 1)) Gc e1) ?_
  refine jl_aload_n dL_law_1516 rfl rfl ?_
  refine jl_arg (k := 1) dL_law_1517 dL_law_1518 dL_law_1519 dL_law_1520 dL_law_1521 (by decide) (by omega) (by omega) ?_
  refine jl_call dL_law_1522 im_mm_count ll_145 rfl (As := [(0, zx xs (i + 1))]) (S := [(0, rc)]) rfl (om_201.1) ⟨Nat.le_of_ble_eq_true rfl, Nat.le_of_ble_eq_true rfl⟩ (Nat.le_of_ble_eq_true rfl) (Nat.le_of_ble_eq_true rfl) (Nat.le_of_ble_eq_true rfl) (mm_count_ct (zx xs (i + 1)) Gm e2) ?_
  refine jl_eq_yes (tgt := 1576) dL_law_1525 rfl e3 ?_
  exact hr
theorem law_op31 {l : Launch} {nm : String} {Lx i : Nat} {xs : Nat → Int32} {Inv : Hp → Hp → Prop} (hop : Op31 Inv) (hL : Lx ≤ 3072) (hi : i + 5 < Lx) {Gc Gm : Hp} (hI : Inv Gc Gm) (kk : ∀ Gc Gm, Inv Gc Gm → ∃ r, JX l nm Lx xs r 1576 i [] (fu Gc Gm)) : ∃ r, JX l nm Lx xs r 1530 i [] (fu Gc Gm) := by
  obtain ⟨rc, rm, e1, e2, e3, e4⟩ := hop Gc Gm hI (zx xs (i + 1)) zx_r
  obtain ⟨r, hr⟩ := kk _ _ e4
  refine ⟨r, ?_⟩
  refine jl_aload_n dL_law_1530 rfl rfl ?_
  refine jl_arg (k := 1) dL_law_1531 dL_law_1532 dL_law_1533 dL_law_1534 dL_law_1535 (by decide) (by omega) (by omega) ?_
  refine jl_call dL_law_1536 im_cX_image ll_146 rfl (As := [(0, zx xs (i + 1))]) (S := []) rfl (oc_0.1) ⟨Nat.le_of_ble_eq_true rfl, Nat.le_of_ble_eq_true rfl⟩ (Nat.le_of_ble_eq_true rfl) (Nat.le_of_ble_eq_true rfl) (Nat.le_of_ble_eq_true rfl) (cX_image_ct (zx xs (i + 1)) Gc e1) ?_
  refine jl_aload_n dL_law_1539 rfl rfl ?_
  refine jl_arg (k := 1) dL_law_1540 dL_law_1541 dL_law_1542 dL_law_1543 dL_law_1544 (by decide) (by omega) (by omega) ?_
  refine jl_call dL_law_1545 im_mm_image ll_150 rfl (As := [(0, zx xs (i + 1))]) (S := [(0, b2i rc.1)]) rfl (om_201.1) ⟨Nat.le_of_ble_eq_true rfl, Nat.le_of_ble_eq_true rfl⟩ (Nat.le_of_ble_eq_true rfl) (Nat.le_of_ble_eq_true rfl) (Nat.le_of_ble_eq_true rfl) (mm_image_ct (zx xs (i + 1)) Gm e2) ?_
  refine jl_eq_yes (tgt := 1576) dL_law_1548 rfl (by rw [e3]) ?_
  exact hr
theorem law_op32 {l : Launch} {nm : String} {Lx i : Nat} {xs : Nat → Int32} {Inv : Hp → Hp → Prop} (hop : Op32 Inv) (hL : Lx ≤ 3072) (hi : i + 5 < Lx) {Gc Gm : Hp} (hI : Inv Gc Gm) (kk : ∀ Gc Gm, Inv Gc Gm → ∃ r, JX l nm Lx xs r 1576 i [] (fu Gc Gm)) : ∃ r, JX l nm Lx xs r 1553 i [] (fu Gc Gm) := by
  obtain ⟨rc, rm, e1, e2, e3, e4⟩ := hop Gc Gm hI (zx xs (i + 1)) zx_r
  obtain ⟨r, hr⟩ := kk _ _ e4
  refine ⟨r, ?_⟩
  refine jl_aload_n dL_law_1553 rfl rfl ?_
  refine jl_arg (k := 1) dL_law_1554 dL_law_1555 dL_law_1556 dL_law_1557 dL_law_1558 (by decide) (by omega) (by omega) ?_
  refine jl_call dL_law_1559 im_cX_again ll_151 rfl (As := [(0, zx xs (i + 1))]) (S := []) rfl (oc_0.1) ⟨Nat.le_of_ble_eq_true rfl, Nat.le_of_ble_eq_true rfl⟩ (Nat.le_of_ble_eq_true rfl) (Nat.le_of_ble_eq_true rfl) (Nat.le_of_ble_eq_true rfl) (cX_again_ct (zx xs (i + 1)) Gc e1) ?_
  refine jl_aload_n dL_law_1562 rfl rfl ?_
  refine jl_arg (k := 1) dL_law_1563 dL_law_1564 dL_law_1565 dL_law_1566 dL_law_1567 (by decide) (by omega) (by omega) ?_
  refine jl_call dL_law_1568 im_mm_again ll_154 rfl (As := [(0, zx xs (i + 1))]) (S := [(0, b2i rc.1)]) rfl (om_201.1) ⟨Nat.le_of_ble_eq_true rfl, Nat.le_of_ble_eq_true rfl⟩ (Nat.le_of_ble_eq_true rfl) (Nat.le_of_ble_eq_true rfl) (Nat.le_of_ble_eq_true rfl) (mm_again_ct (zx xs (i + 1)) Gm e2) ?_
  refine jl_eq_yes (tgt := 1576) dL_law_1571 rfl (by rw [e3]) ?_
  exact hr
theorem law_loop {l : Launch} {nm : String} {Lx : Nat} {xs : Nat → Int32} {Inv : Hp → Hp → Prop} (hL : Lx ≤ 3072) (h0 : Op0 Inv) (h1 : Op1 Inv) (h2 : Op2 Inv) (h3 : Op3 Inv) (h4 : Op4 Inv) (h5 : Op5 Inv) (h6 : Op6 Inv) (h7 : Op7 Inv) (h8 : Op8 Inv) (h9 : Op9 Inv) (h10 : Op10 Inv) (h11 : Op11 Inv) (h12 : Op12 Inv) (h13 : Op13 Inv) (h14 : Op14 Inv) (h15 : Op15 Inv) (h16 : Op16 Inv) (h17 : Op17 Inv) (h18 : Op18 Inv) (h19 : Op19 Inv) (h20 : Op20 Inv) (h21 : Op21 Inv) (h22 : Op22 Inv) (h23 : Op23 Inv) (h24 : Op24 Inv) (h25 : Op25 Inv) (h26 : Op26 Inv) (h27 : Op27 Inv) (h28 : Op28 Inv) (h29 : Op29 Inv) (h30 : Op30 Inv) (h31 : Op31 Inv) (h32 : Op32 Inv) : ∀ (n i : Nat), Lx < i + n → ∀ Gc Gm, Inv Gc Gm → ∃ r, JX l nm Lx xs r 18 i [] (fu Gc Gm) := by
  intro n
  induction n with
  | zero =>
    intro i hn Gc Gm hI
    refine ⟨(Gc, Gm), ?_⟩
    exact law_exit hL (by omega)
  | succ n ih =>
    intro i hn Gc Gm hI
    by_cases hx : i + 5 < Lx
    · have nxt : ∀ Gc Gm, Inv Gc Gm → ∃ r, JX l nm Lx xs r 1576 i [] (fu Gc Gm) := by
        intro Gc Gm hI
        obtain ⟨r, hr⟩ := ih (i + 6) (by omega) Gc Gm hI
        exact ⟨r, law_next hL hx hr⟩
      refine law_head hL hx ?_
      by_cases c0 : iand (zx xs i) 63 = 0
      · obtain ⟨r, hr⟩ := law_op0 h0 hL hx hI nxt
        exact ⟨r, jl_swIn (i := 0) (tgt := 180) dL_law_33 (c0.trans (by decide)) (by decide) rfl rfl hr⟩
      by_cases c1 : iand (zx xs i) 63 = 1
      · obtain ⟨r, hr⟩ := law_op1 h1 hL hx hI nxt
        exact ⟨r, jl_swIn (i := 1) (tgt := 243) dL_law_33 (c1.trans (by decide)) (by decide) rfl rfl hr⟩
      by_cases c2 : iand (zx xs i) 63 = 2
      · obtain ⟨r, hr⟩ := law_op2 h2 hL hx hI nxt
        exact ⟨r, jl_swIn (i := 2) (tgt := 266) dL_law_33 (c2.trans (by decide)) (by decide) rfl rfl hr⟩
      by_cases c3 : iand (zx xs i) 63 = 3
      · obtain ⟨r, hr⟩ := law_op3 h3 hL hx hI nxt
        exact ⟨r, jl_swIn (i := 3) (tgt := 299) dL_law_33 (c3.trans (by decide)) (by decide) rfl rfl hr⟩
      by_cases c4 : iand (zx xs i) 63 = 4
      · obtain ⟨r, hr⟩ := law_op4 h4 hL hx hI nxt
        exact ⟨r, jl_swIn (i := 4) (tgt := 322) dL_law_33 (c4.trans (by decide)) (by decide) rfl rfl hr⟩
      by_cases c5 : iand (zx xs i) 63 = 5
      · obtain ⟨r, hr⟩ := law_op5 h5 hL hx hI nxt
        exact ⟨r, jl_swIn (i := 5) (tgt := 355) dL_law_33 (c5.trans (by decide)) (by decide) rfl rfl hr⟩
      by_cases c6 : iand (zx xs i) 63 = 6
      · obtain ⟨r, hr⟩ := law_op6 h6 hL hx hI nxt
        exact ⟨r, jl_swIn (i := 6) (tgt := 398) dL_law_33 (c6.trans (by decide)) (by decide) rfl rfl hr⟩
      by_cases c7 : iand (zx xs i) 63 = 7
      · obtain ⟨r, hr⟩ := law_op7 h7 hL hx hI nxt
        exact ⟨r, jl_swIn (i := 7) (tgt := 431) dL_law_33 (c7.trans (by decide)) (by decide) rfl rfl hr⟩
      by_cases c8 : iand (zx xs i) 63 = 8
      · obtain ⟨r, hr⟩ := law_op8 h8 hL hx hI nxt
        exact ⟨r, jl_swIn (i := 8) (tgt := 484) dL_law_33 (c8.trans (by decide)) (by decide) rfl rfl hr⟩
      by_cases c9 : iand (zx xs i) 63 = 9
      · obtain ⟨r, hr⟩ := law_op9 h9 hL hx hI nxt
        exact ⟨r, jl_swIn (i := 9) (tgt := 527) dL_law_33 (c9.trans (by decide)) (by decide) rfl rfl hr⟩
      by_cases c10 : iand (zx xs i) 63 = 10
      · obtain ⟨r, hr⟩ := law_op10 h10 hL hx hI nxt
        exact ⟨r, jl_swIn (i := 10) (tgt := 570) dL_law_33 (c10.trans (by decide)) (by decide) rfl rfl hr⟩
      by_cases c11 : iand (zx xs i) 63 = 11
      · obtain ⟨r, hr⟩ := law_op11 h11 hL hx hI nxt
        exact ⟨r, jl_swIn (i := 11) (tgt := 613) dL_law_33 (c11.trans (by decide)) (by decide) rfl rfl hr⟩
      by_cases c12 : iand (zx xs i) 63 = 12
      · obtain ⟨r, hr⟩ := law_op12 h12 hL hx hI nxt
        exact ⟨r, jl_swIn (i := 12) (tgt := 646) dL_law_33 (c12.trans (by decide)) (by decide) rfl rfl hr⟩
      by_cases c13 : iand (zx xs i) 63 = 13
      · obtain ⟨r, hr⟩ := law_op13 h13 hL hx hI nxt
        exact ⟨r, jl_swIn (i := 13) (tgt := 679) dL_law_33 (c13.trans (by decide)) (by decide) rfl rfl hr⟩
      by_cases c14 : iand (zx xs i) 63 = 14
      · obtain ⟨r, hr⟩ := law_op14 h14 hL hx hI nxt
        exact ⟨r, jl_swIn (i := 14) (tgt := 722) dL_law_33 (c14.trans (by decide)) (by decide) rfl rfl hr⟩
      by_cases c15 : iand (zx xs i) 63 = 15
      · obtain ⟨r, hr⟩ := law_op15 h15 hL hx hI nxt
        exact ⟨r, jl_swIn (i := 15) (tgt := 801) dL_law_33 (c15.trans (by decide)) (by decide) rfl rfl hr⟩
      by_cases c16 : iand (zx xs i) 63 = 16
      · obtain ⟨r, hr⟩ := law_op16 h16 hL hx hI nxt
        exact ⟨r, jl_swIn (i := 16) (tgt := 850) dL_law_33 (c16.trans (by decide)) (by decide) rfl rfl hr⟩
      by_cases c17 : iand (zx xs i) 63 = 17
      · obtain ⟨r, hr⟩ := law_op17 h17 hL hx hI nxt
        exact ⟨r, jl_swIn (i := 17) (tgt := 883) dL_law_33 (c17.trans (by decide)) (by decide) rfl rfl hr⟩
      by_cases c18 : iand (zx xs i) 63 = 18
      · obtain ⟨r, hr⟩ := law_op18 h18 hL hx hI nxt
        exact ⟨r, jl_swIn (i := 18) (tgt := 953) dL_law_33 (c18.trans (by decide)) (by decide) rfl rfl hr⟩
      by_cases c19 : iand (zx xs i) 63 = 19
      · obtain ⟨r, hr⟩ := law_op19 h19 hL hx hI nxt
        exact ⟨r, jl_swIn (i := 19) (tgt := 996) dL_law_33 (c19.trans (by decide)) (by decide) rfl rfl hr⟩
      by_cases c20 : iand (zx xs i) 63 = 20
      · obtain ⟨r, hr⟩ := law_op20 h20 hL hx hI nxt
        exact ⟨r, jl_swIn (i := 20) (tgt := 1039) dL_law_33 (c20.trans (by decide)) (by decide) rfl rfl hr⟩
      by_cases c21 : iand (zx xs i) 63 = 21
      · obtain ⟨r, hr⟩ := law_op21 h21 hL hx hI nxt
        exact ⟨r, jl_swIn (i := 21) (tgt := 1118) dL_law_33 (c21.trans (by decide)) (by decide) rfl rfl hr⟩
      by_cases c22 : iand (zx xs i) 63 = 22
      · obtain ⟨r, hr⟩ := law_op22 h22 hL hx hI nxt
        exact ⟨r, jl_swIn (i := 22) (tgt := 1171) dL_law_33 (c22.trans (by decide)) (by decide) rfl rfl hr⟩
      by_cases c23 : iand (zx xs i) 63 = 23
      · obtain ⟨r, hr⟩ := law_op23 h23 hL hx hI nxt
        exact ⟨r, jl_swIn (i := 23) (tgt := 1204) dL_law_33 (c23.trans (by decide)) (by decide) rfl rfl hr⟩
      by_cases c24 : iand (zx xs i) 63 = 24
      · obtain ⟨r, hr⟩ := law_op24 h24 hL hx hI nxt
        exact ⟨r, jl_swIn (i := 24) (tgt := 1247) dL_law_33 (c24.trans (by decide)) (by decide) rfl rfl hr⟩
      by_cases c25 : iand (zx xs i) 63 = 25
      · obtain ⟨r, hr⟩ := law_op25 h25 hL hx hI nxt
        exact ⟨r, jl_swIn (i := 25) (tgt := 1296) dL_law_33 (c25.trans (by decide)) (by decide) rfl rfl hr⟩
      by_cases c26 : iand (zx xs i) 63 = 26
      · obtain ⟨r, hr⟩ := law_op26 h26 hL hx hI nxt
        exact ⟨r, jl_swIn (i := 26) (tgt := 1355) dL_law_33 (c26.trans (by decide)) (by decide) rfl rfl hr⟩
      by_cases c27 : iand (zx xs i) 63 = 27
      · obtain ⟨r, hr⟩ := law_op27 h27 hL hx hI nxt
        exact ⟨r, jl_swIn (i := 27) (tgt := 1388) dL_law_33 (c27.trans (by decide)) (by decide) rfl rfl hr⟩
      by_cases c28 : iand (zx xs i) 63 = 28
      · obtain ⟨r, hr⟩ := law_op28 h28 hL hx hI nxt
        exact ⟨r, jl_swIn (i := 28) (tgt := 1421) dL_law_33 (c28.trans (by decide)) (by decide) rfl rfl hr⟩
      by_cases c29 : iand (zx xs i) 63 = 29
      · obtain ⟨r, hr⟩ := law_op29 h29 hL hx hI nxt
        exact ⟨r, jl_swIn (i := 29) (tgt := 1464) dL_law_33 (c29.trans (by decide)) (by decide) rfl rfl hr⟩
      by_cases c30 : iand (zx xs i) 63 = 30
      · obtain ⟨r, hr⟩ := law_op30 h30 hL hx hI nxt
        exact ⟨r, jl_swIn (i := 30) (tgt := 1507) dL_law_33 (c30.trans (by decide)) (by decide) rfl rfl hr⟩
      by_cases c31 : iand (zx xs i) 63 = 31
      · obtain ⟨r, hr⟩ := law_op31 h31 hL hx hI nxt
        exact ⟨r, jl_swIn (i := 31) (tgt := 1530) dL_law_33 (c31.trans (by decide)) (by decide) rfl rfl hr⟩
      by_cases c32 : iand (zx xs i) 63 = 32
      · obtain ⟨r, hr⟩ := law_op32 h32 hL hx hI nxt
        exact ⟨r, jl_swIn (i := 32) (tgt := 1553) dL_law_33 (c32.trans (by decide)) (by decide) rfl rfl hr⟩
      obtain ⟨r, hr⟩ := nxt Gc Gm hI
      exact ⟨r, jl_swOut (tgt := 1576) dL_law_33 (by omega) rfl hr⟩
    · refine ⟨(Gc, Gm), ?_⟩
      exact law_exit hL (by omega)
theorem law_begin {l : Launch} {nm : String} {Lx : Nat} {xs : Nat → Int32} {r : Hp × Hp} (hr : JX l nm Lx xs r 18 0 [] (fu G00 G00)) : JL (PhiS Lx xs) l (ML nm) KL (some r) 0 [(3, 30), (9, 0), (9, 0), (9, 0)] [] 0 C0 (0, 0) := by
  refine kl_new (n2 := 1) (q2 := (1, 11)) dL_law_0 cls10 law_c7 ki_10 kz_10 kd_10 rfl rfl rfl (Nat.le_of_ble_eq_true rfl) (Nat.le_of_ble_eq_true rfl) ?_
  refine jl_dup dL_law_3 (by decide) ?_
  refine kl_call (n2 := 201) (q2 := (201, 11453)) dL_law_4 ky_kLine (Or.inl law_m9) kt_kLine rfl rfl (by decide) ⟨Nat.le_of_ble_eq_true rfl, Nat.le_of_ble_eq_true rfl⟩ (Nat.le_of_ble_eq_true rfl) rfl rfl (Nat.le_of_ble_eq_true rfl) (Nat.le_of_ble_eq_true rfl) (kLine_ct (n := 1) (ob_at (q := 0) rfl (by decide)) (by decide) rfl rfl rfl rfl rfl rfl rfl rfl rfl rfl rfl rfl rfl rfl rfl rfl rfl rfl rfl rfl rfl rfl rfl rfl rfl rfl rfl rfl rfl rfl rfl rfl rfl rfl rfl rfl rfl rfl rfl rfl rfl rfl rfl rfl rfl rfl rfl rfl rfl rfl rfl rfl rfl rfl rfl rfl rfl rfl rfl rfl rfl rfl rfl rfl rfl rfl rfl rfl rfl rfl rfl rfl rfl rfl rfl rfl rfl rfl rfl rfl rfl rfl rfl rfl rfl rfl rfl rfl rfl rfl rfl rfl rfl rfl rfl rfl rfl rfl rfl rfl rfl rfl rfl rfl rfl rfl rfl rfl rfl rfl rfl rfl rfl rfl rfl rfl rfl rfl rfl rfl rfl rfl rfl rfl rfl rfl rfl rfl rfl rfl rfl rfl rfl rfl rfl rfl rfl rfl rfl rfl rfl rfl rfl rfl rfl rfl rfl rfl rfl rfl rfl rfl rfl rfl rfl rfl rfl rfl rfl rfl rfl rfl rfl rfl rfl rfl rfl rfl rfl rfl rfl rfl rfl rfl rfl rfl rfl rfl rfl rfl rfl rfl rfl rfl rfl rfl rfl rfl rfl rfl rfl rfl rfl rfl rfl rfl rfl rfl rfl rfl) ?_
  refine jl_astore_n dL_law_7 rfl (Nat.le_of_ble_eq_true rfl) rfl ?_
  refine kl_new (n2 := 202) (q2 := (202, 11500)) dL_law_8 cls11 law_c10 ki_11 kz_11 kd_11 rfl rfl rfl (Nat.le_of_ble_eq_true rfl) (Nat.le_of_ble_eq_true rfl) ?_
  refine jl_dup dL_law_11 (by decide) ?_
  refine kl_call (n2 := 224) (q2 := (224, 17090)) dL_law_12 ky_kModel (Or.inl law_m12) kt_kModel rfl rfl (by decide) ⟨Nat.le_of_ble_eq_true rfl, Nat.le_of_ble_eq_true rfl⟩ (Nat.le_of_ble_eq_true rfl) rfl rfl (Nat.le_of_ble_eq_true rfl) (Nat.le_of_ble_eq_true rfl) (kModel_ct (n := 202) (ob_at (q := 201) rfl (by decide)) (by decide) rfl rfl rfl rfl rfl rfl rfl rfl rfl rfl rfl rfl rfl rfl rfl rfl rfl rfl rfl rfl rfl rfl) ?_
  refine jl_astore_n dL_law_15 rfl (Nat.le_of_ble_eq_true rfl) rfl ?_
  refine jl_iconst dL_law_16 r32_0 ?_
  refine jl_istore_n dL_law_17 rfl (Nat.le_of_ble_eq_true rfl) rfl ?_
  exact jl_congr (C := C1) C1_ok RgH_G00 hr
/-- the world at the start -/
theorem st_mem : ∀ i, i < 3 → Cond.arrayOf (.static "ProofLine" (stn i) "[I") .int ∈ flatC (Jvm.Cond.and given_1 narrow_1) ∧ Cond.eq (.length (.static "ProofLine" (stn i) "[I")) (.int (Int32.ofNat (stv i).length)) ∈ flatC (Jvm.Cond.and given_1 narrow_1) ∧ (stv i).length < 100 ∧ ∀ j, j < (stv i).length → Cond.eq (.elem (.static "ProofLine" (stn i) "[I") (.int (Int32.ofNat j))) (.int (I32 ((stv i).getD j 0))) ∈ flatC (Jvm.Cond.and given_1 narrow_1) := by decide +kernel
theorem st_lay : ∀ i, i < 3 → Cond.laysStatic "ProofLine" (stn i) "[I" ∈ lw_tbl := by
  intro i hi
  match i, hi with
  | 0, _ => exact List.mem_of_getElem? (i := 699) (by decide +kernel)
  | 1, _ => exact List.mem_of_getElem? (i := 705) (by decide +kernel)
  | 2, _ => exact List.mem_of_getElem? (i := 1225) (by decide +kernel)
theorem tx_mem : ∀ i, i < 11 → slen.getD i 0 < 100 ∧ Cond.exactly (.string "ProofLine$Scan" (sidx.getD i 0)) "java/lang/String" ∈ flatC (Jvm.Cond.and given_1 narrow_1) ∧ Cond.eq (.field (.string "ProofLine$Scan" (sidx.getD i 0)) "java/lang/String" "coder" "B") (.int 0) ∈ flatC (Jvm.Cond.and given_1 narrow_1) ∧ Cond.arrayOf (.field (.string "ProofLine$Scan" (sidx.getD i 0)) "java/lang/String" "value" "[B") .byte ∈ flatC (Jvm.Cond.and given_1 narrow_1) ∧ Cond.eq (.length (.field (.string "ProofLine$Scan" (sidx.getD i 0)) "java/lang/String" "value" "[B")) (.int (Int32.ofNat (slen.getD i 0))) ∈ flatC (Jvm.Cond.and given_1 narrow_1) := by decide +kernel
theorem tx_mem2 : ∀ i, i < 11 → ∀ j, j < slen.getD i 0 → Cond.eq (.elem (.field (.string "ProofLine$Scan" (sidx.getD i 0)) "java/lang/String" "value" "[B") (.int (Int32.ofNat j))) (.int ((sbyt.getD i []).getD j 0)) ∈ flatC (Jvm.Cond.and given_1 narrow_1) := by decide +kernel
theorem tx_mem3 : ∀ i, i < 11 → ∀ j, j < 11 → i ≠ j → Cond.not (Cond.eq (.string "ProofLine$Scan" (sidx.getD i 0)) (.string "ProofLine$Scan" (sidx.getD j 0))) ∈ flatC (Jvm.Cond.and given_1 narrow_1) ∨ Cond.not (Cond.eq (.string "ProofLine$Scan" (sidx.getD j 0)) (.string "ProofLine$Scan" (sidx.getD i 0))) ∈ flatC (Jvm.Cond.and given_1 narrow_1) := by decide +kernel
theorem tx_ref : ∀ i, i < 11 → Cond.stringRef "ProofLine$Scan" (sidx.getD i 0) (strs.getD i "") ∈ lw_tbl := by
  intro i hi
  match i, hi with
  | 0, _ => exact List.mem_of_getElem? (i := 623) (by decide +kernel)
  | 1, _ => exact List.mem_of_getElem? (i := 676) (by decide +kernel)
  | 2, _ => exact List.mem_of_getElem? (i := 677) (by decide +kernel)
  | 3, _ => exact List.mem_of_getElem? (i := 678) (by decide +kernel)
  | 4, _ => exact List.mem_of_getElem? (i := 679) (by decide +kernel)
  | 5, _ => exact List.mem_of_getElem? (i := 680) (by decide +kernel)
  | 6, _ => exact List.mem_of_getElem? (i := 681) (by decide +kernel)
  | 7, _ => exact List.mem_of_getElem? (i := 682) (by decide +kernel)
  | 8, _ => exact List.mem_of_getElem? (i := 683) (by decide +kernel)
  | 9, _ => exact List.mem_of_getElem? (i := 684) (by decide +kernel)
  | 10, _ => exact List.mem_of_getElem? (i := 685) (by decide +kernel)
theorem arr_pr {s : State} {args : Array Value} {ty : FieldType} (h : (Cond.arrayClass ty).before args s = true) (hn : ∀ C, ty ≠ .object C) : ∃ c : ClassId, ArrOfT s c ty ∧ va_RA s c ty := by
  obtain ⟨c, k, comp, h1, h2, h3⟩ := Cond.arrayClass_spec h
  refine ⟨c, fun N z => ⟨(fun k h => by cases h), k, h2, comp, h3⟩, ?_⟩
  cases ty with
  | object C => exact absurd rfl (hn C)
  | _ => exact h1
theorem arr_ob {s : State} {args : Array Value} {C : String} (h : (Cond.arrayOver (.object C)).before args s = true) : ∃ c : ClassId, ArrOfT s c (.object C) ∧ va_RA s c (.object C) := by
  obtain ⟨comp, c, k, h1, h2, h3, h4, h5⟩ := Cond.arrayOver_spec h
  exact ⟨c, fun N z => ⟨(fun k h => by cases h), k, h3, comp, h4⟩, k, comp, h3, h4, h1, h5⟩
set_option maxHeartbeats 2000000 in
theorem world_start {s : State} {b : Nat} (hts : ∀ w ∈ lw_tbl, w.before #[Value.ref b] s = true) (hgv : (Jvm.Cond.and given_1 narrow_1).before #[Value.ref b] s = true) : ∃ w : WP, w.1 = s.heap ∧ w.2.2.2 30 = b ∧ KS w s := by
  have hs := flat_of_before _ hgv
  have hA : ∀ a : Nat, a < s.heap.size → ¬ (fun q : Nat => s.heap.size ≤ q) a := fun a ha h => Nat.not_le.mpr ha h
  obtain ⟨d0, j0, kn0⟩ := u_known (C := RX0) (T := TX0) (N := 3) (n := 3) hts inX0 (hts _ (List.mem_of_getElem? (i := 274) (by decide +kernel)))
  obtain ⟨d1, j1, kn1⟩ := u_known (C := RX1) (T := TX1) (N := 2) (n := 2) hts inX1 (hts _ (List.mem_of_getElem? (i := 443) (by decide +kernel)))
  obtain ⟨d2, j2, kn2⟩ := u_known (C := RX2) (T := TX2) (N := 4) (n := 4) hts inX2 (hts _ (List.mem_of_getElem? (i := 183) (by decide +kernel)))
  obtain ⟨d3, j3, kn3⟩ := u_known (C := RX3) (T := TX3) (N := 7) (n := 7) hts inX3 (hts _ (List.mem_of_getElem? (i := 177) (by decide +kernel)))
  obtain ⟨d4, j4, kn4⟩ := u_known (C := RX4) (T := TX4) (N := 4) (n := 4) hts inX4 (hts _ (List.mem_of_getElem? (i := 459) (by decide +kernel)))
  obtain ⟨d5, j5, kn5⟩ := u_known (C := RX5) (T := TX5) (N := 11) (n := 11) hts inX5 (hts _ (List.mem_of_getElem? (i := 481) (by decide +kernel)))
  obtain ⟨d6, j6, kn6⟩ := u_known (C := RX6) (T := TX6) (N := 14) (n := 14) hts inX6 (hts _ (List.mem_of_getElem? (i := 328) (by decide +kernel)))
  obtain ⟨d7, j7, kn7⟩ := u_known (C := RX7) (T := TX7) (N := 13) (n := 13) hts inX7 (hts _ (List.mem_of_getElem? (i := 389) (by decide +kernel)))
  obtain ⟨d8, j8, kn8⟩ := u_known (C := RX8) (T := TX8) (N := 8) (n := 8) hts inX8 (hts _ (List.mem_of_getElem? (i := 166) (by decide +kernel)))
  obtain ⟨d9, j9, kn9⟩ := u_known (C := RX9) (T := TX9) (N := 4) (n := 4) hts inX9 (hts _ (List.mem_of_getElem? (i := 246) (by decide +kernel)))
  obtain ⟨d10, j10, kn10⟩ := u_known (C := RX10) (T := TX10) (N := 11) (n := 11) hts inX10 (hts _ (List.mem_of_getElem? (i := 158) (by decide +kernel)))
  obtain ⟨d11, j11, kn11⟩ := u_known (C := RX11) (T := TX11) (N := 47) (n := 47) hts inX11 (hts _ (List.mem_of_getElem? (i := 1288) (by decide +kernel)))
  obtain ⟨ci, ri1, ri2⟩ := arr_pr (ty := .int) (hts _ (List.mem_of_getElem? (i := 204) (by decide +kernel))) (fun C h => by cases h)
  obtain ⟨cb, rb1, rb2⟩ := arr_pr (ty := .byte) (hts _ (List.mem_of_getElem? (i := 203) (by decide +kernel))) (fun C h => by cases h)
  obtain ⟨cz, rz1, rz2⟩ := arr_pr (ty := .boolean) (hts _ (List.mem_of_getElem? (i := 387) (by decide +kernel))) (fun C h => by cases h)
  obtain ⟨cp, rp1, rp2⟩ := arr_ob (C := "ProofLine$Paper") (hts _ (List.mem_of_getElem? (i := 172) (by decide +kernel)))
  obtain ⟨cw, rw1, rw2⟩ := arr_ob (C := "ProofLine$Week") (hts _ (List.mem_of_getElem? (i := 174) (by decide +kernel)))
  obtain ⟨cg, rg1, rg2⟩ := arr_ob (C := "ProofLine$Log") (hts _ (List.mem_of_getElem? (i := 176) (by decide +kernel)))
  obtain ⟨ct, rt1, rt2⟩ := arr_ob (C := "ProofLine$Told") (hts _ (List.mem_of_getElem? (i := 326) (by decide +kernel)))
  have hst : ∀ i, i < 3 → ∃ t : Nat, va_Z "ProofLine" (stn i) "[I" (.ref t) (fun q : Nat => s.heap.size ≤ q) s s.heap ∧ va_T .int t (stv i).length (fun j => .int (I32 ((stv i).getD j 0))) (fun q : Nat => s.heap.size ≤ q) s s.heap := by
    intro i hi
    obtain ⟨m1, m2, m3, m4⟩ := st_mem i hi
    obtain ⟨t, e1, e2⟩ := va_Tof (N := (stv i).length) (f := fun j => .int (I32 ((stv i).getD j 0))) (A := fun q : Nat => s.heap.size ≤ q) (by omega) (hs _ m1) (va_eqv (hs _ m2) rfl) (fun j hj => va_eqv (hs _ (m4 j hj)) rfl) hA
    exact ⟨t, va_Zof (hts _ (st_lay i hi)) (hts _ (List.mem_of_getElem? (i := 138) (by decide +kernel))) e1 hA, e2⟩
  obtain ⟨t0, z0, y0⟩ := hst 0 (by decide)
  obtain ⟨t1, z1, y1⟩ := hst 1 (by decide)
  obtain ⟨t2, z2, y2⟩ := hst 2 (by decide)
  obtain ⟨adK, adV, s1, s2⟩ := vk_Sof (N := 11) (tm := fun i => .string "ProofLine$Scan" (sidx.getD i 0)) (len := slen) (byt := sbyt) (A := fun q : Nat => s.heap.size ≤ q) (fun i hi => by have := (tx_mem i hi).1; omega) (fun i hi => hs _ (tx_mem i hi).2.1) (fun i hi => hs _ (tx_mem i hi).2.2.1) (fun i hi => hs _ (tx_mem i hi).2.2.2.1) (fun i hi => hs _ (tx_mem i hi).2.2.2.2) (fun i hi j hj => hs _ (tx_mem2 i hi j hj)) (fun i j hi hj hne => (tx_mem3 i hi j hj hne).imp (hs _) (hs _)) hA
  have hco : va_Z "java/lang/String" "COMPACT_STRINGS" "Z" (.int 1) (fun q : Nat => s.heap.size ≤ q) s s.heap := va_Zof (hts _ (List.mem_of_getElem? (i := 637) (by decide +kernel))) (hts _ (List.mem_of_getElem? (i := 152) (by decide +kernel))) (va_eqv (hs (Cond.eq (.static "java/lang/String" "COMPACT_STRINGS" "Z") (.int 1)) (by decide +kernel)) rfl) hA
  have hfo : va_Zq "jdk/internal/util/Preconditions" "SIOOBE_FORMATTER" "Ljava/util/function/BiFunction;" (fun q : Nat => s.heap.size ≤ q) s s.heap := va_Zqof (hts _ (List.mem_of_getElem? (i := 653) (by decide +kernel))) (hts _ (List.mem_of_getElem? (i := 154) (by decide +kernel))) (hs (Cond.isRef (.static "jdk/internal/util/Preconditions" "SIOOBE_FORMATTER" "Ljava/util/function/BiFunction;")) (by decide +kernel)) hA
  have hq : ∃ f : Nat, va_Z "jdk/internal/util/Preconditions" "SIOOBE_FORMATTER" "Ljava/util/function/BiFunction;" .null (fun q : Nat => s.heap.size ≤ q) s s.heap ∨ va_Z "jdk/internal/util/Preconditions" "SIOOBE_FORMATTER" "Ljava/util/function/BiFunction;" (.ref f) (fun q : Nat => s.heap.size ≤ q) s s.heap := by
    rcases hfo with h | ⟨t, h⟩
    · exact ⟨0, Or.inl h⟩
    · exact ⟨t, Or.inr h⟩
  obtain ⟨f0, hf0⟩ := hq
  refine ⟨(s.heap, (fun c => match c with | 0 => d0 | 1 => d1 | 2 => d2 | 3 => d3 | 4 => d4 | 5 => d5 | 6 => d6 | 7 => d7 | 8 => d8 | 9 => d9 | 10 => d10 | _ => d11, fun c => match c with | 0 => j0 | 1 => j1 | 2 => j2 | 3 => j3 | 4 => j4 | 5 => j5 | 6 => j6 | 7 => j7 | 8 => j8 | 9 => j9 | 10 => j10 | _ => j11), (fun t => match t with | 0 => ci | 1 => cb | 2 => cz | 3 => cp | 4 => cw | 5 => cg | _ => ct), fun a => if a < 11 then adK a else if a = 20 then t0 else if a = 21 then t1 else if a = 22 then t2 else if a = 30 then b else if a = 60 then f0 else adV (a - 40)), rfl, rfl, ?_, ?_, hco, hf0, ?_, ?_, ?_⟩
  · refine ⟨fun c q hq => ?_, fun k q hk => ?_⟩
    · match c, hq with
      | 0, hq => cases hq; exact kn0
      | 1, hq => cases hq; exact kn1
      | 2, hq => cases hq; exact kn2
      | 3, hq => cases hq; exact kn3
      | 4, hq => cases hq; exact kn4
      | 5, hq => cases hq; exact kn5
      | 6, hq => cases hq; exact kn6
      | 7, hq => cases hq; exact kn7
      | 8, hq => cases hq; exact kn8
      | 9, hq => cases hq; exact kn9
      | 10, hq => cases hq; exact kn10
      | 11, hq => cases hq; exact kn11
      | c + 12, hq => cases hq
    · match k, hk with
      | 0, hk => cases hk; exact ⟨ri1, ri2⟩
      | 1, hk => cases hk; exact ⟨rb1, rb2⟩
      | 2, hk => cases hk; exact ⟨rz1, rz2⟩
      | 3, hk => cases hk; exact ⟨rp1, rp2⟩
      | 4, hk => cases hk; exact ⟨rw1, rw2⟩
      | 5, hk => cases hk; exact ⟨rg1, rg2⟩
      | 6, hk => cases hk; exact ⟨rt1, rt2⟩
      | k + 7, hk => cases hk
  · intro i hi
    match i, hi with
    | 0, _ => exact ⟨z0, y0⟩
    | 1, _ => exact ⟨z1, y1⟩
    | 2, _ => exact ⟨z2, y2⟩
  · intro i hi
    show vk_R "ProofLine$Scan" (sidx.getD i 0) (strs.getD i "") (if i < 11 then adK i else _) s
    rw [if_pos hi]
    exact vk_R.of (hts _ (tx_ref i hi)) (s2 i hi)
  · refine ⟨fun i hi => ?_, fun i j hi hj h => ?_⟩
    · have e1 : (if i < 11 then adK i else if i = 20 then t0 else if i = 21 then t1 else if i = 22 then t2 else if i = 30 then b else if i = 60 then f0 else adV (i - 40)) = adK i := if_pos hi
      have e2 : (if 40 + i < 11 then adK (40 + i) else if 40 + i = 20 then t0 else if 40 + i = 21 then t1 else if 40 + i = 22 then t2 else if 40 + i = 30 then b else if 40 + i = 60 then f0 else adV (40 + i - 40)) = adV i := by
        rw [if_neg (by omega), if_neg (by omega), if_neg (by omega), if_neg (by omega), if_neg (by omega), if_neg (by omega), Nat.add_sub_cancel_left]
      have := s1.1 i hi
      refine ⟨?_, ?_, ?_, ?_⟩
      · show va_O _ (if i < 11 then adK i else _) _ _ _
        rw [e1]; exact this.1
      · show va_OF _ _ _ _ (if i < 11 then adK i else _) _ _ _
        rw [e1]; exact this.2.1
      · show va_OF _ _ _ (.ref (if 40 + i < 11 then adK (40 + i) else _)) (if i < 11 then adK i else _) _ _ _
        rw [e1, e2]; exact this.2.2.1
      · show va_T _ (if 40 + i < 11 then adK (40 + i) else _) _ _ _ _ _
        rw [e2]; exact this.2.2.2
    · have h' : (if i < 11 then adK i else _) = (if j < 11 then adK j else _) := h
      rw [if_pos hi, if_pos hj] at h'
      exact s1.2 i j hi hj h'
  · intro x hx
    exact ns_of (List.mem_filter.mp hx).2 (hts x (List.mem_filter.mp hx).1)
