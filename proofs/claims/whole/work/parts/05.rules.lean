-- what the machine's tables and the entry heap give, at any point
/-- the words that go on to callees -/
def lw_gt : List Cond := lw_tbl.filter goodWord
theorem gt_in {x : Cond} (i : Nat) (h : lw_tbl[i]? = some x) (hg : goodWord x = true) : x ∈ lw_gt := List.mem_filter.mpr ⟨List.mem_of_getElem? h, hg⟩
theorem gt_sub {ws : List Cond} (h : ∀ w ∈ ws, w ∈ lw_tbl) (hg : ws.all goodWord = true) : ∀ w ∈ ws, w ∈ lw_gt := fun w hw => List.mem_filter.mpr ⟨h w hw, List.all_eq_true.mp hg w hw⟩
/-- the words of nest mates: they go on with the world -/
def isNestW : Cond → Bool
  | .fieldLinkNest .. => true
  | .methodLinkNest .. => true
  | .arrayOver (.object _) => true
  | _ => false
def lw_ns : List Cond := lw_tbl.filter isNestW
theorem ns_in {x : Cond} (i : Nat) (h : lw_tbl[i]? = some x) (hg : isNestW x = true) : x ∈ lw_ns := List.mem_filter.mpr ⟨List.mem_of_getElem? h, hg⟩
theorem ns_ao {ty : FieldType} (hg : isNestW (.arrayOver ty) = true) : ∃ C : String, ty = .object C := by
  cases ty with
  | object C => exact ⟨C, rfl⟩
  | _ => cases hg
theorem ns_warm {x : Cond} {s t : State} (hg : isNestW x = true) (hW : s.WarmedH t.vm) (h : va_Nw x s) : va_Nw x t := by
  cases x with
  | fieldLinkNest a b c d e => exact va_Nw.warmF hW h
  | methodLinkNest a b c d => exact va_Nw.warmM hW h
  | arrayOver ty =>
    obtain ⟨C, rfl⟩ := ns_ao hg
    exact va_AO.moved hW.alike h
  | _ => cases hg
theorem ns_same {x : Cond} {s t : State} (hg : isNestW x = true) (hv : t.vm = s.vm) (h : va_Nw x s) : va_Nw x t := by
  cases x with
  | fieldLinkNest a b c d e => exact va_Nw.same rfl hv.symm h
  | methodLinkNest a b c d => exact va_Nw.same rfl hv.symm h
  | arrayOver ty =>
    obtain ⟨C, rfl⟩ := ns_ao hg
    exact va_AO.moved (u := s) (U := t) (by rw [hv]; exact Vm.Alike.refl _) h
  | _ => cases hg
theorem ns_of {x : Cond} {A : Array Value} {s : State} (hg : isNestW x = true) (h : x.before A s = true) : va_Nw x s := by
  cases x with
  | fieldLinkNest a b c d e => exact va_Nw.of rfl h
  | methodLinkNest a b c d => exact va_Nw.of rfl h
  | arrayOver ty =>
    obtain ⟨C, rfl⟩ := ns_ao hg
    exact va_AO.of h
  | _ => cases hg
def strs : List String := ["word", "near", "reader", "wants", "read", "set", "stet", "join", "part", "print", "was"]
def sidx : List Nat := [130, 136, 138, 140, 142, 144, 146, 148, 150, 152, 154]
def sbyt : List (List Int32) := [[119, 111, 114, 100], [110, 101, 97, 114], [114, 101, 97, 100, 101, 114], [119, 97, 110, 116, 115], [114, 101, 97, 100], [115, 101, 116], [115, 116, 101, 116], [106, 111, 105, 110], [112, 97, 114, 116], [112, 114, 105, 110, 116], [119, 97, 115]]
def slen : List Nat := [4, 4, 6, 5, 4, 3, 4, 4, 4, 5, 3]
def stn : Nat → String := fun i => match i with
  | 0 => "NUMBERS_OF"
  | 1 => "GREATEST"
  | _ => "TENS"
def stv : Nat → List Int := fun i => match i with
  | 0 => [1, 2, 2, 2, 2, 0, 1, 2, 2, 3, 2]
  | 1 => [5, 0, 0, 7, 9, 0, 5, 7, 0, 9, 9, 0, 9, 9, 0, 0, 0, 0, 9, 0, 0, 9, 9, 0, 9, 9, 0, 5, 7, 9, 7, 9, 0]
  | _ => [1, 10, 100, 1000, 10000, 100000, 1000000]
def KX (w : WP) (s : State) : Prop :=
  (∀ i : Nat, i < 3 → va_Z "ProofLine" (stn i) "[I" (.ref (w.2.2.2 (20 + i))) (aw w) s w.1 ∧ va_T .int (w.2.2.2 (20 + i)) (stv i).length (fun j => .int (I32 ((stv i).getD j 0))) (aw w) s w.1) ∧
  va_Z "java/lang/String" "COMPACT_STRINGS" "Z" (.int 1) (aw w) s w.1 ∧
  (va_Z "jdk/internal/util/Preconditions" "SIOOBE_FORMATTER" "Ljava/util/function/BiFunction;" .null (aw w) s w.1 ∨ va_Z "jdk/internal/util/Preconditions" "SIOOBE_FORMATTER" "Ljava/util/function/BiFunction;" (.ref (w.2.2.2 60)) (aw w) s w.1) ∧
  (∀ i : Nat, i < 11 → vk_R "ProofLine$Scan" (sidx.getD i 0) (strs.getD i "") (w.2.2.2 i) s) ∧
  vk_S 11 slen sbyt w.2.2.2 (fun i => w.2.2.2 (40 + i)) (aw w) s w.1 ∧
  (∀ x ∈ lw_ns, va_Nw x s)
theorem KX.warm {w : WP} {s t : State} (hW : s.WarmedH t.vm) (h : KX w s) : KX w t := by
  obtain ⟨h1, h2, h3, h4, h5, h6⟩ := h
  exact ⟨fun i hi => ⟨(h1 i hi).1.moved hW.alike, (h1 i hi).2.moved hW.alike⟩, h2.moved hW.alike, h3.imp (fun h => h.moved hW.alike) (fun h => h.moved hW.alike), fun i hi => (h4 i hi).warm hW, h5.moved hW.alike, fun x hx => ns_warm (List.mem_filter.mp hx).2 hW (h6 x hx)⟩
def KS (w : WP) (s : State) : Prop := va_K w.2.1 vwCl (tysOf w) s ∧ KX w s
theorem KS.warm {w : WP} {s t : State} (hW : s.WarmedH t.vm) (h : KS w s) : KS w t := ⟨h.1.moved hW.alike, h.2.warm hW⟩
theorem KX.same {w : WP} {s t : State} (hv : t.vm = s.vm) (h : KX w s) : KX w t := by
  obtain ⟨h1, h2, h3, h4, h5, h6⟩ := h
  have hA : s.vm.Alike t.vm := by rw [hv]; exact Vm.Alike.refl _
  exact ⟨fun i hi => ⟨(h1 i hi).1.moved hA, (h1 i hi).2.moved hA⟩, h2.moved hA, h3.imp (fun h => h.moved hA) (fun h => h.moved hA), fun i hi => (h4 i hi).same hv, h5.moved hA, fun x hx => ns_same (List.mem_filter.mp hx).2 hv (h6 x hx)⟩
theorem KS.same {w : WP} {s t : State} (hv : t.vm = s.vm) (h : KS w s) : KS w t := ⟨h.1.moved (by rw [hv]; exact Vm.Alike.refl _), h.2.same hv⟩
/-- a method: name, code, locals, kind of answer; depth of calls; cells and slots that it makes -/
abbrev MC : Type := MethodName × ByteArray × Nat × Option FieldType × Nat × Nat × Nat
abbrev MC.y (M : MC) : MethodName := M.1
abbrev MC.cc (M : MC) : ByteArray := M.2.1
abbrev MC.nL (M : MC) : Nat := M.2.2.1
abbrev MC.ret (M : MC) : Option FieldType := M.2.2.2.1
abbrev MC.d (M : MC) : Nat := M.2.2.2.2.1
abbrev MC.mc (M : MC) : Nat := M.2.2.2.2.2.1
abbrev MC.ms (M : MC) : Nat := M.2.2.2.2.2.2
def TsM (M : MC) : List Cond := Cond.code M.y M.cc M.nL M.ret :: lw_gt
def rmM (M : MC) : Room := { frames := M.d, cells := M.mc, slots := M.ms, locals := 100 * M.d }
def RoomOK (M : MC) (R : Room) : Prop := M.d ≤ R.frames ∧ 100 * M.d ≤ R.locals ∧ M.mc ≤ R.cells ∧ M.ms ≤ R.slots
def Cx (M : MC) (w : WP) (p : Program) (s : State) (m : MethodId) (args : Array Value) (meth : Method) (c : Code) : Prop :=
  p.tables.exec = Jvm.exec ∧ c.code = M.cc ∧ c.maxLocals = M.nL ∧ s.vm.findClass M.y.cls = some m.cls ∧ (∀ x ∈ lw_gt, x.before args s = true) ∧ KS w s ∧ wb w ≤ s.heap.size ∧ (∀ q : Nat, q < wb w → s.heap[q]? = w.1[q]?) ∧ meth.name = M.y.name
/-- which instruction gives back what -/
def RK (ret : Option FieldType) (v : Option AV) (ig : Instr) : Prop :=
  (ret = none ∧ v = none ∧ ig = .return_) ∨ (∃ (ty : FieldType) (z : Int), ret = some ty ∧ v = some (0, z) ∧ ig = .ireturn ∧ narrow ty (.int (I32 z)) = .int (I32 z)) ∨ (∃ z : Int, ret = some .long ∧ v = some (1, z) ∧ ig = .lreturn) ∨ (∃ (nm : String) (z : Int), ret = some (.object nm) ∧ v = some (2, z) ∧ ig = .areturn)
def Ret (w : WP) (M : MC) (p : Program) (l : Launch) (e : Env) (R : Room) (s : State) (m : MethodId) (args : Array Value) (below : List Frame) (meth : Method) (c : Code) (rr : Option AV × Nat × Hp) (Qf : State → Prop) : Prop :=
  ∀ (H : Heap) (locs : List Loc) (cells slots pc : Nat) (ls : Array Slot) (ig : Instr), WRel w rr.2.1 rr.2.2 H → va_S (aw w) s.heap H locs → cells ≤ M.mc → slots ≤ M.ms → (∀ v, rr.1 = some v → rgV v) → RK M.ret rr.1 ig → decode M.cc pc = .ok (ig, 1) → W p l e R s m args below meth c H locs cells slots Qf (F0 m pc ls (rr.1.map (conc w)).toList)
/-- THE JUDGEMENT: where X gives an answer, the method comes from here to its end with that answer (K says how it stands there) -/
def J {α : Type} (l : Launch) (M : MC) (K : α → Option AV × Nat × Hp) (X : Option α) (pc : Nat) (L S : List AV) (n : Nat) (C : Hp) (a : Nat × Nat) : Prop :=
  ∀ r, X = some r → ∀ (w : WP) (p : Program) (e : Env) (R : Room) (s : State) (m : MethodId) (args : Array Value) (below : List Frame) (meth : Method) (c : Code) (H : Heap) (locs : List Loc) (ls : Array Slot) (Qf : State → Prop),
    Cx M w p s m args meth c → RoomOK M R → Ret w M p l e R s m args below meth c (K r) Qf → WRel w n C H → va_S (aw w) s.heap H locs → LRel w ls M.nL L → RgL S → s.heap.size + a.1 = wb w + n → W p l e R s m args below meth c H locs a.1 a.2 Qf (F0 m pc ls (S.map (conc w)))
def QA (w : WP) (rr : Option AV × Nat × Hp) : Array Value → State → Outcome → State → Prop := fun _ st o t =>
  o = .returned (rr.1.map (conc w)) ∧ (∀ v, rr.1 = some v → rgV v) ∧ WRel w rr.2.1 rr.2.2 t.heap ∧ KS w t ∧ va_F (aw w) st t
/-- THE CONTRACT of a method at these arguments, in this world -/
def Ct (l : Launch) (M : MC) (As : List AV) (n : Nat) (C : Hp) (rr : Option AV × Nat × Hp) : Prop :=
  RgL As → ∀ w : WP, Met l M.y (TsM M) (rmM M) (va_Pc (As.map (conc w)) (fun U => WRel w n C U.heap ∧ KS w U)) (QA w rr) M.mc M.ms (aw w)
theorem WRel.le {w : WP} {n : Nat} {C : Hp} {H : Heap} (h : WRel w n C H) : wb w ≤ H.size := by rw [h.2.1]; omega
theorem ct_of_J {α : Type} {l : Launch} {M : MC} {K : α → Option AV × Nat × Hp} {X : Option α} {As L : List AV} {n : Nat} {C : Hp} {r : α} (hy : plainName M.y.cls = true) (hL : L0 As ++ List.replicate (M.nL - (L0 As).length) (9, 0) = L) (hle : (L0 As).length ≤ M.nL)
    (h : J l M K X 0 L [] n C (0, 0)) (hX : X = some r) : Ct l M As n C (K r) := by
  intro hr w
  refine Met.ofW (cc := M.cc) (maxL := M.nL) (ret := M.ret) hy rfl ?_
  intro p e s m args below meth c s₁ B hml hv
  obtain ⟨rfl, hw, hk⟩ := hv
  have hts := atoms_spec (ws := TsM M) B.pre
  rw [lg_entry_eq]
  have hl := lv_entry (As.map (conc w)) (n := M.nL) (by rw [L0_size]; exact hle)
  refine h r hX w p e _ s m _ below meth c s.heap [] _ _ ⟨B.exec, B.bytes, hml, findClass_of_methodNamed B.named, fun x hx => hts x (List.mem_cons_of_mem _ hx), hk, hw.le, hw.2.2.1, (name_of_methodNamed B.named B.method).1⟩ ⟨Nat.le_refl _, Nat.le_refl _, Nat.le_refl _, Nat.le_refl _⟩ ?_ hw va_S.rf ?_ (fun v h => by cases h) hw.2.1
  · intro H locs cells slots pc ls ig wr vs h1 h2 hrg hk2 hd
    have key : ∀ t : State, t.heap = H → s.WarmedH t.vm → QA w (K r) (As.map (conc w)).toArray s (.returned ((K r).1.map (conc w))) t := fun t ht hW => ⟨rfl, hrg, by rw [ht]; exact wr, hk.warm hW, vs.F ht⟩
    have hlocks := B.notSynchronized
    have hret := B.returns
    refine W.widen h1 h2 ?_
    rcases hk2 with ⟨e1, e2, e3⟩ | ⟨ty, z, e1, e2, e3, e4⟩ | ⟨z, e1, e2, e3⟩ | ⟨nm, z, e1, e2, e3⟩
    · subst e3
      rw [e2] at key ⊢
      exact W.vret B.exec B.bytes (hret.trans e1) key vs.2.2 hd
    · subst e3
      rw [e2] at key ⊢
      exact W.zret B.exec B.bytes (hret.trans e1) e4 key vs.2.2 hd
    · subst e3
      rw [e2] at key ⊢
      exact W.lret B.exec B.bytes (hret.trans e1) key vs.2.2 hd
    · subst e3
      rw [e2] at key ⊢
      refine W.aret (v := conc w (2, z)) B.exec B.bytes (hret.trans e1) (Or.inl ⟨nm, rfl⟩) ?_ key vs.2.2 hd
      by_cases hz : z < 0
      · exact Or.inl (conc_null hz)
      · exact Or.inr ⟨_, conc_ref hz⟩
  · refine ⟨hl.1, hl.2.1, fun i v hi h9 => ?_, ?_⟩
    · rw [← hL] at hi
      by_cases hlt : i < (L0 As).length
      · rw [List.getElem?_append_left hlt] at hi
        have h1 := L0_at w As 0 i v hi h9
        rw [Nat.zero_add] at h1
        exact hl.2.2 _ h1
      · rw [List.getElem?_append_right (by omega)] at hi
        have h1 := List.eq_of_mem_replicate (List.mem_of_getElem? hi)
        rw [h1] at h9
        exact absurd rfl h9
    · rw [← hL]
      exact RgL.app (L0_rg As hr) (fun v hv => by rw [List.eq_of_mem_replicate hv]; exact rg9)
section RULES
variable {α : Type} {l : Launch} {M : MC} {K : α → Option AV × Nat × Hp} {X X1 X2 : Option α} {pc n : Nat} {L S : List AV} {C : Hp} {q : Nat × Nat}
theorem j_none : J l M K none pc L S n C q := by intro r hr; cases hr
theorem j_mask (bs : List Bool) {L' : List AV} (h : maskL bs L = L') (k : J l M K X pc L' S n C q) : J l M K X pc L S n C q := by
  intro r hr w p e R s m args below meth c H locs ls Qf cx ro rt wr vs lr rs hsz
  subst h
  exact k r hr w p e R s m args below meth c H locs ls Qf cx ro rt wr vs (lr.mask bs) rs hsz
theorem j_ite {P : Prop} (dP : Decidable P) (k1 : P → J l M K X1 pc L S n C q) (k2 : ¬ P → J l M K X2 pc L S n C q) : J l M K (if P then X1 else X2) pc L S n C q := by
  by_cases h : P
  · rw [if_pos h]; exact k1 h
  · rw [if_neg h]; exact k2 h
theorem j_gd {i k : Int} (kk : 0 ≤ i → i < k → J l M K X pc L S n C q) : J l M K (gd i k X) pc L S n C q := by
  unfold gd
  by_cases h : 0 ≤ i ∧ i < k
  · rw [if_pos h]; exact kk h.1 h.2
  · rw [if_neg h]; exact j_none
theorem j_nz {b : Int} (kk : b ≠ 0 → J l M K X pc L S n C q) : J l M K (nz b X) pc L S n C q := by
  unfold nz
  by_cases h : b = 0
  · rw [if_pos h]; exact j_none
  · rw [if_neg h]; exact kk h

theorem j_iadd {a b : Int} (hd : decode M.cc pc = .ok (.iadd, 1)) (k : J l M K X (pc + 1) L ((0, w32 (a + b)) :: S) n C q) : J l M K X pc L ((0, b) :: (0, a) :: S) n C q := by
  intro r hr w p e R s m args below meth c H locs ls Qf cx ro rt wr vs lr rs hsz
  refine lv_iadd cx.1 cx.2.1 hd  ?_
  have h := k r hr w p e R s m args below meth c H locs ls Qf cx ro rt wr vs lr (RgL.cons (rg0 (w32_r _)) rs.tl.tl) hsz
  have e1 : conc w (0, w32 (a + b)) = .int _ := congrArg Value.int (I32_add a b)
  rw [List.map_cons, e1] at h
  exact h
theorem j_isub {a b : Int} (hd : decode M.cc pc = .ok (.isub, 1)) (k : J l M K X (pc + 1) L ((0, w32 (a - b)) :: S) n C q) : J l M K X pc L ((0, b) :: (0, a) :: S) n C q := by
  intro r hr w p e R s m args below meth c H locs ls Qf cx ro rt wr vs lr rs hsz
  refine lv_isub cx.1 cx.2.1 hd  ?_
  have h := k r hr w p e R s m args below meth c H locs ls Qf cx ro rt wr vs lr (RgL.cons (rg0 (w32_r _)) rs.tl.tl) hsz
  have e1 : conc w (0, w32 (a - b)) = .int _ := congrArg Value.int (I32_sub a b)
  rw [List.map_cons, e1] at h
  exact h
theorem j_imul {a b : Int} (hd : decode M.cc pc = .ok (.imul, 1)) (k : J l M K X (pc + 1) L ((0, w32 (a * b)) :: S) n C q) : J l M K X pc L ((0, b) :: (0, a) :: S) n C q := by
  intro r hr w p e R s m args below meth c H locs ls Qf cx ro rt wr vs lr rs hsz
  refine lv_imul cx.1 cx.2.1 hd  ?_
  have h := k r hr w p e R s m args below meth c H locs ls Qf cx ro rt wr vs lr (RgL.cons (rg0 (w32_r _)) rs.tl.tl) hsz
  have e1 : conc w (0, w32 (a * b)) = .int _ := congrArg Value.int (I32_mul a b)
  rw [List.map_cons, e1] at h
  exact h
theorem j_idiv {a b : Int} (hd : decode M.cc pc = .ok (.idiv, 1)) (hb : b ≠ 0) (k : J l M K X (pc + 1) L ((0, idiv a b) :: S) n C q) : J l M K X pc L ((0, b) :: (0, a) :: S) n C q := by
  intro r hr w p e R s m args below meth c H locs ls Qf cx ro rt wr vs lr rs hsz
  have ra : r32 a := rs.tl.hd.1 rfl
  have rb : r32 b := rs.hd.1 rfl
  refine lv_idiv cx.1 cx.2.1 hd (fun z => hb ((I32_0 rb).mp z)) ?_
  have h := k r hr w p e R s m args below meth c H locs ls Qf cx ro rt wr vs lr (RgL.cons (rg0 (w32_r _)) rs.tl.tl) hsz
  have e1 : conc w (0, idiv a b) = .int _ := congrArg Value.int (I32_div ra rb)
  rw [List.map_cons, e1] at h
  exact h
theorem j_irem {a b : Int} (hd : decode M.cc pc = .ok (.irem, 1)) (hb : b ≠ 0) (k : J l M K X (pc + 1) L ((0, irem a b) :: S) n C q) : J l M K X pc L ((0, b) :: (0, a) :: S) n C q := by
  intro r hr w p e R s m args below meth c H locs ls Qf cx ro rt wr vs lr rs hsz
  have ra : r32 a := rs.tl.hd.1 rfl
  have rb : r32 b := rs.hd.1 rfl
  refine lv_irem cx.1 cx.2.1 hd (fun z => hb ((I32_0 rb).mp z)) ?_
  have h := k r hr w p e R s m args below meth c H locs ls Qf cx ro rt wr vs lr (RgL.cons (rg0 (irem_r ra rb)) rs.tl.tl) hsz
  have e1 : conc w (0, irem a b) = .int _ := congrArg Value.int (I32_rem ra rb)
  rw [List.map_cons, e1] at h
  exact h
theorem j_iand {a b : Int} (hd : decode M.cc pc = .ok (.iand, 1)) (k : J l M K X (pc + 1) L ((0, iand a b) :: S) n C q) : J l M K X pc L ((0, b) :: (0, a) :: S) n C q := by
  intro r hr w p e R s m args below meth c H locs ls Qf cx ro rt wr vs lr rs hsz
  refine lv_iand cx.1 cx.2.1 hd  ?_
  have h := k r hr w p e R s m args below meth c H locs ls Qf cx ro rt wr vs lr (RgL.cons (rg0 (toInt_r32 _)) rs.tl.tl) hsz
  have e1 : conc w (0, iand a b) = .int _ := congrArg Value.int (I32_of _)
  rw [List.map_cons, e1] at h
  exact h
theorem j_ior {a b : Int} (hd : decode M.cc pc = .ok (.ior, 1)) (k : J l M K X (pc + 1) L ((0, ior a b) :: S) n C q) : J l M K X pc L ((0, b) :: (0, a) :: S) n C q := by
  intro r hr w p e R s m args below meth c H locs ls Qf cx ro rt wr vs lr rs hsz
  refine lv_ior cx.1 cx.2.1 hd  ?_
  have h := k r hr w p e R s m args below meth c H locs ls Qf cx ro rt wr vs lr (RgL.cons (rg0 (toInt_r32 _)) rs.tl.tl) hsz
  have e1 : conc w (0, ior a b) = .int _ := congrArg Value.int (I32_of _)
  rw [List.map_cons, e1] at h
  exact h
theorem j_ixor {a b : Int} (hd : decode M.cc pc = .ok (.ixor, 1)) (k : J l M K X (pc + 1) L ((0, ixor a b) :: S) n C q) : J l M K X pc L ((0, b) :: (0, a) :: S) n C q := by
  intro r hr w p e R s m args below meth c H locs ls Qf cx ro rt wr vs lr rs hsz
  refine lv_ixor cx.1 cx.2.1 hd  ?_
  have h := k r hr w p e R s m args below meth c H locs ls Qf cx ro rt wr vs lr (RgL.cons (rg0 (toInt_r32 _)) rs.tl.tl) hsz
  have e1 : conc w (0, ixor a b) = .int _ := congrArg Value.int (I32_of _)
  rw [List.map_cons, e1] at h
  exact h
theorem j_ishl {a b : Int} (hd : decode M.cc pc = .ok (.ishl, 1)) (k : J l M K X (pc + 1) L ((0, ishl a b) :: S) n C q) : J l M K X pc L ((0, b) :: (0, a) :: S) n C q := by
  intro r hr w p e R s m args below meth c H locs ls Qf cx ro rt wr vs lr rs hsz
  refine lv_ishl cx.1 cx.2.1 hd  ?_
  have h := k r hr w p e R s m args below meth c H locs ls Qf cx ro rt wr vs lr (RgL.cons (rg0 (toInt_r32 _)) rs.tl.tl) hsz
  have e1 : conc w (0, ishl a b) = .int _ := congrArg Value.int (I32_of _)
  rw [List.map_cons, e1] at h
  exact h
theorem j_ishr {a b : Int} (hd : decode M.cc pc = .ok (.ishr, 1)) (k : J l M K X (pc + 1) L ((0, ishr a b) :: S) n C q) : J l M K X pc L ((0, b) :: (0, a) :: S) n C q := by
  intro r hr w p e R s m args below meth c H locs ls Qf cx ro rt wr vs lr rs hsz
  refine lv_ishr cx.1 cx.2.1 hd  ?_
  have h := k r hr w p e R s m args below meth c H locs ls Qf cx ro rt wr vs lr (RgL.cons (rg0 (toInt_r32 _)) rs.tl.tl) hsz
  have e1 : conc w (0, ishr a b) = .int _ := congrArg Value.int (I32_of _)
  rw [List.map_cons, e1] at h
  exact h
theorem j_iushr {a b : Int} (hd : decode M.cc pc = .ok (.iushr, 1)) (k : J l M K X (pc + 1) L ((0, iushr a b) :: S) n C q) : J l M K X pc L ((0, b) :: (0, a) :: S) n C q := by
  intro r hr w p e R s m args below meth c H locs ls Qf cx ro rt wr vs lr rs hsz
  refine lv_iushr cx.1 cx.2.1 hd rfl ?_
  have h := k r hr w p e R s m args below meth c H locs ls Qf cx ro rt wr vs lr (RgL.cons (rg0 (toInt_r32 _)) rs.tl.tl) hsz
  have e1 : conc w (0, iushr a b) = .int _ := congrArg Value.int (I32_of _)
  rw [List.map_cons, e1] at h
  exact h
theorem j_ladd {a b : Int} (hd : decode M.cc pc = .ok (.ladd, 1)) (k : J l M K X (pc + 1) L ((1, w64 (a + b)) :: S) n C q) : J l M K X pc L ((1, b) :: (1, a) :: S) n C q := by
  intro r hr w p e R s m args below meth c H locs ls Qf cx ro rt wr vs lr rs hsz
  refine lv_ladd cx.1 cx.2.1 hd  ?_
  have h := k r hr w p e R s m args below meth c H locs ls Qf cx ro rt wr vs lr (RgL.cons (rg1 (w64_r _)) rs.tl.tl) hsz
  have e1 : conc w (1, w64 (a + b)) = .long _ := congrArg Value.long (I64_add a b)
  rw [List.map_cons, e1] at h
  exact h
theorem j_lsub {a b : Int} (hd : decode M.cc pc = .ok (.lsub, 1)) (k : J l M K X (pc + 1) L ((1, w64 (a - b)) :: S) n C q) : J l M K X pc L ((1, b) :: (1, a) :: S) n C q := by
  intro r hr w p e R s m args below meth c H locs ls Qf cx ro rt wr vs lr rs hsz
  refine lv_lsub cx.1 cx.2.1 hd  ?_
  have h := k r hr w p e R s m args below meth c H locs ls Qf cx ro rt wr vs lr (RgL.cons (rg1 (w64_r _)) rs.tl.tl) hsz
  have e1 : conc w (1, w64 (a - b)) = .long _ := congrArg Value.long (I64_sub a b)
  rw [List.map_cons, e1] at h
  exact h
theorem j_lmul {a b : Int} (hd : decode M.cc pc = .ok (.lmul, 1)) (k : J l M K X (pc + 1) L ((1, w64 (a * b)) :: S) n C q) : J l M K X pc L ((1, b) :: (1, a) :: S) n C q := by
  intro r hr w p e R s m args below meth c H locs ls Qf cx ro rt wr vs lr rs hsz
  refine lv_lmul cx.1 cx.2.1 hd  ?_
  have h := k r hr w p e R s m args below meth c H locs ls Qf cx ro rt wr vs lr (RgL.cons (rg1 (w64_r _)) rs.tl.tl) hsz
  have e1 : conc w (1, w64 (a * b)) = .long _ := congrArg Value.long (I64_mul a b)
  rw [List.map_cons, e1] at h
  exact h
theorem j_ldiv {a b : Int} (hd : decode M.cc pc = .ok (.ldiv, 1)) (hb : b ≠ 0) (k : J l M K X (pc + 1) L ((1, ldiv a b) :: S) n C q) : J l M K X pc L ((1, b) :: (1, a) :: S) n C q := by
  intro r hr w p e R s m args below meth c H locs ls Qf cx ro rt wr vs lr rs hsz
  have ra : r64 a := rs.tl.hd.2 rfl
  have rb : r64 b := rs.hd.2 rfl
  refine lv_ldiv cx.1 cx.2.1 hd (fun z => hb ((I64_0 rb).mp z)) ?_
  have h := k r hr w p e R s m args below meth c H locs ls Qf cx ro rt wr vs lr (RgL.cons (rg1 (w64_r _)) rs.tl.tl) hsz
  have e1 : conc w (1, ldiv a b) = .long _ := congrArg Value.long (I64_div ra rb)
  rw [List.map_cons, e1] at h
  exact h
theorem j_lrem {a b : Int} (hd : decode M.cc pc = .ok (.lrem, 1)) (hb : b ≠ 0) (k : J l M K X (pc + 1) L ((1, lrem a b) :: S) n C q) : J l M K X pc L ((1, b) :: (1, a) :: S) n C q := by
  intro r hr w p e R s m args below meth c H locs ls Qf cx ro rt wr vs lr rs hsz
  have ra : r64 a := rs.tl.hd.2 rfl
  have rb : r64 b := rs.hd.2 rfl
  refine lv_lrem cx.1 cx.2.1 hd (fun z => hb ((I64_0 rb).mp z)) ?_
  have h := k r hr w p e R s m args below meth c H locs ls Qf cx ro rt wr vs lr (RgL.cons (rg1 (lrem_r ra rb)) rs.tl.tl) hsz
  have e1 : conc w (1, lrem a b) = .long _ := congrArg Value.long (I64_rem ra rb)
  rw [List.map_cons, e1] at h
  exact h
theorem j_lcmp {a b : Int} (hd : decode M.cc pc = .ok (.lcmp, 1)) (k : J l M K X (pc + 1) L ((0, lcmp a b) :: S) n C q) : J l M K X pc L ((1, b) :: (1, a) :: S) n C q := by
  intro r hr w p e R s m args below meth c H locs ls Qf cx ro rt wr vs lr rs hsz
  have ra : r64 a := rs.tl.hd.2 rfl
  have rb : r64 b := rs.hd.2 rfl
  refine W.lcmp cx.1 cx.2.1 hd ?_
  have h := k r hr w p e R s m args below meth c H locs ls Qf cx ro rt wr vs lr (RgL.cons (rg0 (lcmp_r a b)) rs.tl.tl) hsz
  have e1 : conc w (0, lcmp a b) = .int (lg_cmp (I64 a) (I64 b)) := congrArg Value.int (lcmp_I ra rb)
  rw [List.map_cons, e1] at h
  exact h
theorem j_ineg {a : Int} (hd : decode M.cc pc = .ok (.ineg, 1)) (k : J l M K X (pc + 1) L ((0, w32 (-a)) :: S) n C q) : J l M K X pc L ((0, a) :: S) n C q := by
  intro r hr w p e R s m args below meth c H locs ls Qf cx ro rt wr vs lr rs hsz
  refine lv_ineg cx.1 cx.2.1 hd ?_
  have h := k r hr w p e R s m args below meth c H locs ls Qf cx ro rt wr vs lr (RgL.cons (rg0 (w32_r _)) rs.tl) hsz
  have e1 : conc w (0, w32 (-a)) = .int (-I32 a) := congrArg Value.int (I32_neg a)
  rw [List.map_cons, e1] at h
  exact h
theorem j_i2l {a : Int} (hd : decode M.cc pc = .ok (.i2l, 1)) (k : J l M K X (pc + 1) L ((1, a) :: S) n C q) : J l M K X pc L ((0, a) :: S) n C q := by
  intro r hr w p e R s m args below meth c H locs ls Qf cx ro rt wr vs lr rs hsz
  have ra : r32 a := rs.hd.1 rfl
  refine lv_i2l cx.1 cx.2.1 (v := I64 a) hd (i2l_I ra) ?_
  exact k r hr w p e R s m args below meth c H locs ls Qf cx ro rt wr vs lr (RgL.cons (rg1 (r32_64 ra)) rs.tl) hsz
theorem j_l2i {a : Int} (hd : decode M.cc pc = .ok (.l2i, 1)) (k : J l M K X (pc + 1) L ((0, w32 a) :: S) n C q) : J l M K X pc L ((1, a) :: S) n C q := by
  intro r hr w p e R s m args below meth c H locs ls Qf cx ro rt wr vs lr rs hsz
  have ra : r64 a := rs.hd.2 rfl
  refine lv_l2i cx.1 cx.2.1 (v := I32 (w32 a)) hd (l2i_I ra) ?_
  exact k r hr w p e R s m args below meth c H locs ls Qf cx ro rt wr vs lr (RgL.cons (rg0 (w32_r _)) rs.tl) hsz
theorem j_i2b {a : Int} (hd : decode M.cc pc = .ok (.i2b, 1)) (k : J l M K X (pc + 1) L ((0, w8 a) :: S) n C q) : J l M K X pc L ((0, a) :: S) n C q := by
  intro r hr w p e R s m args below meth c H locs ls Qf cx ro rt wr vs lr rs hsz
  have ra : r32 a := rs.hd.1 rfl
  refine lv_i2b cx.1 cx.2.1 (v := I32 (w8 a)) hd (i2b_I ra) ?_
  exact k r hr w p e R s m args below meth c H locs ls Qf cx ro rt wr vs lr (RgL.cons (rg0 (w8_r a)) rs.tl) hsz
theorem j_iconst {z : Int} (hd : decode M.cc pc = .ok (.iconst z, 1)) (hz : r32 z) (k : J l M K X (pc + 1) L ((0, z) :: S) n C q) : J l M K X pc L S n C q := by
  intro r hr w p e R s m args below meth c H locs ls Qf cx ro rt wr vs lr rs hsz
  refine lv_iconst cx.1 cx.2.1 (v := I32 z) hd rfl ?_
  exact k r hr w p e R s m args below meth c H locs ls Qf cx ro rt wr vs lr (RgL.cons (rg0 hz) rs) hsz
theorem j_bipush {z : Int} (hd : decode M.cc pc = .ok (.bipush z, 2)) (hz : r32 z) (hv : (Int8.ofInt z).toInt32 = I32 z) (k : J l M K X (pc + 2) L ((0, z) :: S) n C q) : J l M K X pc L S n C q := by
  intro r hr w p e R s m args below meth c H locs ls Qf cx ro rt wr vs lr rs hsz
  refine lv_bipush cx.1 cx.2.1 (v := I32 z) hd hv ?_
  exact k r hr w p e R s m args below meth c H locs ls Qf cx ro rt wr vs lr (RgL.cons (rg0 hz) rs) hsz
theorem j_sipush {z : Int} (hd : decode M.cc pc = .ok (.sipush z, 3)) (hz : r32 z) (hv : (Int16.ofInt z).toInt32 = I32 z) (k : J l M K X (pc + 3) L ((0, z) :: S) n C q) : J l M K X pc L S n C q := by
  intro r hr w p e R s m args below meth c H locs ls Qf cx ro rt wr vs lr rs hsz
  refine lv_sipush cx.1 cx.2.1 (v := I32 z) hd hv ?_
  exact k r hr w p e R s m args below meth c H locs ls Qf cx ro rt wr vs lr (RgL.cons (rg0 hz) rs) hsz
theorem j_lconst {f : Fin 2} {z : Int} (hd : decode M.cc pc = .ok (.lconst f, 1)) (hz : r64 z) (hv : Int64.ofNat (f : Nat) = I64 z) (k : J l M K X (pc + 1) L ((1, z) :: S) n C q) : J l M K X pc L S n C q := by
  intro r hr w p e R s m args below meth c H locs ls Qf cx ro rt wr vs lr rs hsz
  refine lv_lconst cx.1 cx.2.1 (v := I64 z) hd hv ?_
  exact k r hr w p e R s m args below meth c H locs ls Qf cx ro rt wr vs lr (RgL.cons (rg1 hz) rs) hsz
theorem j_ldc {idx : Nat} {z : Int} (hd : decode M.cc pc = .ok (.ldc idx, 2)) (hc : Cond.constant M.y.cls idx (I32 z) ∈ lw_gt) (hz : r32 z) (k : J l M K X (pc + 2) L ((0, z) :: S) n C q) : J l M K X pc L S n C q := by
  intro r hr w p e R s m args below meth c H locs ls Qf cx ro rt wr vs lr rs hsz
  refine lv_ldc cx.1 cx.2.1 (v := I32 z) cx.2.2.2.1 (cx.2.2.2.2.1 _ hc) hd ?_
  exact k r hr w p e R s m args below meth c H locs ls Qf cx ro rt wr vs lr (RgL.cons (rg0 hz) rs) hsz
theorem j_ldcw {idx : Nat} {z : Int} (hd : decode M.cc pc = .ok (.ldc_w idx, 3)) (hc : Cond.constant M.y.cls idx (I32 z) ∈ lw_gt) (hz : r32 z) (k : J l M K X (pc + 3) L ((0, z) :: S) n C q) : J l M K X pc L S n C q := by
  intro r hr w p e R s m args below meth c H locs ls Qf cx ro rt wr vs lr rs hsz
  refine lv_ldcw cx.1 cx.2.1 (v := I32 z) cx.2.2.2.1 (cx.2.2.2.2.1 _ hc) hd ?_
  exact k r hr w p e R s m args below meth c H locs ls Qf cx ro rt wr vs lr (RgL.cons (rg0 hz) rs) hsz
theorem j_ldc2 {idx : Nat} {z : Int} (hd : decode M.cc pc = .ok (.ldc2_w idx, 3)) (hc : Cond.constantLong M.y.cls idx (I64 z) ∈ lw_gt) (hz : r64 z) (k : J l M K X (pc + 3) L ((1, z) :: S) n C q) : J l M K X pc L S n C q := by
  intro r hr w p e R s m args below meth c H locs ls Qf cx ro rt wr vs lr rs hsz
  refine lv_ldc2 cx.1 cx.2.1 (v := I64 z) cx.2.2.2.1 (cx.2.2.2.2.1 _ hc) hd ?_
  exact k r hr w p e R s m args below meth c H locs ls Qf cx ro rt wr vs lr (RgL.cons (rg1 hz) rs) hsz
theorem j_null (hd : decode M.cc pc = .ok (.aconst_null, 1)) (k : J l M K X (pc + 1) L ((2, -1) :: S) n C q) : J l M K X pc L S n C q := by
  intro r hr w p e R s m args below meth c H locs ls Qf cx ro rt wr vs lr rs hsz
  refine lv_null cx.1 cx.2.1 hd ?_
  exact k r hr w p e R s m args below meth c H locs ls Qf cx ro rt wr vs lr (RgL.cons rg2 rs) hsz
theorem j_ldcS {idx i : Nat} (hd : decode M.cc pc = .ok (.ldc idx, 2)) (hy : M.y.cls = "ProofLine$Scan") (hi : i < 11) (hx : sidx.getD i 0 = idx) (k : J l M K X (pc + 2) L ((3, (i : Int)) :: S) n C q) : J l M K X pc L S n C q := by
  intro r hr w p e R s m args below meth c H locs ls Qf cx ro rt wr vs lr rs hsz
  have h4 := cx.2.2.2.2.2.1.2.2.2.2.1 i hi
  rw [hx] at h4
  have hown := cx.2.2.2.1
  rw [hy] at hown
  refine va_ldcS cx.1 cx.2.1 hown h4 hd ?_
  exact k r hr w p e R s m args below meth c H locs ls Qf cx ro rt wr vs lr (RgL.cons rg3 rs) hsz
theorem j_dup {t : Nat} {z : Int} (hd : decode M.cc pc = .ok (.dup, 1)) (ht : t ≠ 1) (k : J l M K X (pc + 1) L ((t, z) :: (t, z) :: S) n C q) : J l M K X pc L ((t, z) :: S) n C q := by
  intro r hr w p e R s m args below meth c H locs ls Qf cx ro rt wr vs lr rs hsz
  refine lv_dup cx.1 cx.2.1 (va := conc w (t, z)) hd (by rw [conc_cat, if_neg ht]) ?_
  exact k r hr w p e R s m args below meth c H locs ls Qf cx ro rt wr vs lr (RgL.cons rs.hd rs) hsz
theorem j_pop {t : Nat} {z : Int} (hd : decode M.cc pc = .ok (.pop, 1)) (ht : t ≠ 1) (k : J l M K X (pc + 1) L S n C q) : J l M K X pc L ((t, z) :: S) n C q := by
  intro r hr w p e R s m args below meth c H locs ls Qf cx ro rt wr vs lr rs hsz
  refine lv_pop cx.1 cx.2.1 (va := conc w (t, z)) hd (by rw [conc_cat, if_neg ht]) ?_
  exact k r hr w p e R s m args below meth c H locs ls Qf cx ro rt wr vs lr rs.tl hsz
theorem j_dup2 {t u : Nat} {y z : Int} (hd : decode M.cc pc = .ok (.dup2, 1)) (ht : t ≠ 1) (hu : u ≠ 1) (k : J l M K X (pc + 1) L ((t, z) :: (u, y) :: (t, z) :: (u, y) :: S) n C q) : J l M K X pc L ((t, z) :: (u, y) :: S) n C q := by
  intro r hr w p e R s m args below meth c H locs ls Qf cx ro rt wr vs lr rs hsz
  refine lv_dup2_11 cx.1 cx.2.1 (va := conc w (t, z)) (vb := conc w (u, y)) hd (by rw [conc_cat, if_neg ht]) (by rw [conc_cat, if_neg hu]) ?_
  exact k r hr w p e R s m args below meth c H locs ls Qf cx ro rt wr vs lr (RgL.cons rs.hd (RgL.cons rs.tl.hd rs)) hsz
theorem j_iload {i : Nat} {z : Int} (hd : decode M.cc pc = .ok (.iload i, 2)) (hi : L[i]? = some (0, z)) (k : J l M K X (pc + 2) L ((0, z) :: S) n C q) : J l M K X pc L S n C q := by
  intro r hr w p e R s m args below meth c H locs ls Qf cx ro rt wr vs lr rs hsz
  refine lv_iload cx.1 cx.2.1 (x := I32 z) hd (lr.get hi (show (0 : Nat) ≠ 9 by decide)) ?_
  exact k r hr w p e R s m args below meth c H locs ls Qf cx ro rt wr vs lr (RgL.cons (lr.rg hi) rs) hsz
theorem j_iload_n {i : Nat} {f : Fin 4} {z : Int} (hd : decode M.cc pc = .ok (.iload_n f, 1)) (hf : (f : Nat) = i) (hi : L[i]? = some (0, z)) (k : J l M K X (pc + 1) L ((0, z) :: S) n C q) : J l M K X pc L S n C q := by
  intro r hr w p e R s m args below meth c H locs ls Qf cx ro rt wr vs lr rs hsz
  refine lv_iload_n cx.1 cx.2.1 (x := I32 z) hd hf (lr.get hi (show (0 : Nat) ≠ 9 by decide)) ?_
  exact k r hr w p e R s m args below meth c H locs ls Qf cx ro rt wr vs lr (RgL.cons (lr.rg hi) rs) hsz
theorem j_lload {i : Nat} {z : Int} (hd : decode M.cc pc = .ok (.lload i, 2)) (hi : L[i]? = some (1, z)) (k : J l M K X (pc + 2) L ((1, z) :: S) n C q) : J l M K X pc L S n C q := by
  intro r hr w p e R s m args below meth c H locs ls Qf cx ro rt wr vs lr rs hsz
  refine lv_lload cx.1 cx.2.1 (x := I64 z) hd (lr.get hi (show (1 : Nat) ≠ 9 by decide)) ?_
  exact k r hr w p e R s m args below meth c H locs ls Qf cx ro rt wr vs lr (RgL.cons (lr.rg hi) rs) hsz
theorem j_lload_n {i : Nat} {f : Fin 4} {z : Int} (hd : decode M.cc pc = .ok (.lload_n f, 1)) (hf : (f : Nat) = i) (hi : L[i]? = some (1, z)) (k : J l M K X (pc + 1) L ((1, z) :: S) n C q) : J l M K X pc L S n C q := by
  intro r hr w p e R s m args below meth c H locs ls Qf cx ro rt wr vs lr rs hsz
  refine lv_lload_n cx.1 cx.2.1 (x := I64 z) hd hf (lr.get hi (show (1 : Nat) ≠ 9 by decide)) ?_
  exact k r hr w p e R s m args below meth c H locs ls Qf cx ro rt wr vs lr (RgL.cons (lr.rg hi) rs) hsz
theorem j_aload {i : Nat} {z : Int} (hd : decode M.cc pc = .ok (.aload i, 2)) (hi : L[i]? = some (2, z)) (k : J l M K X (pc + 2) L ((2, z) :: S) n C q) : J l M K X pc L S n C q := by
  intro r hr w p e R s m args below meth c H locs ls Qf cx ro rt wr vs lr rs hsz
  have hg := lr.get hi (show (2 : Nat) ≠ 9 by decide)
  have h := k r hr w p e R s m args below meth c H locs ls Qf cx ro rt wr vs lr (RgL.cons rg2 rs) hsz
  rw [List.map_cons] at h
  by_cases hz : z < 0
  · rw [conc_null hz] at hg h
    exact lv_aloadN cx.1 cx.2.1 hd hg h
  · rw [conc_ref hz] at hg h
    exact lv_aload cx.1 cx.2.1 hd hg h
theorem j_aloadS {i : Nat} {z : Int} (hd : decode M.cc pc = .ok (.aload i, 2)) (hi : L[i]? = some (3, z)) (k : J l M K X (pc + 2) L ((3, z) :: S) n C q) : J l M K X pc L S n C q := by
  intro r hr w p e R s m args below meth c H locs ls Qf cx ro rt wr vs lr rs hsz
  have hg := lr.get hi (show (3 : Nat) ≠ 9 by decide)
  exact lv_aload cx.1 cx.2.1 hd hg (k r hr w p e R s m args below meth c H locs ls Qf cx ro rt wr vs lr (RgL.cons rg3 rs) hsz)
theorem j_aload_n {i : Nat} {f : Fin 4} {z : Int} (hd : decode M.cc pc = .ok (.aload_n f, 1)) (hf : (f : Nat) = i) (hi : L[i]? = some (2, z)) (k : J l M K X (pc + 1) L ((2, z) :: S) n C q) : J l M K X pc L S n C q := by
  intro r hr w p e R s m args below meth c H locs ls Qf cx ro rt wr vs lr rs hsz
  have hg := lr.get hi (show (2 : Nat) ≠ 9 by decide)
  have h := k r hr w p e R s m args below meth c H locs ls Qf cx ro rt wr vs lr (RgL.cons rg2 rs) hsz
  rw [List.map_cons] at h
  by_cases hz : z < 0
  · rw [conc_null hz] at hg h
    exact lv_aload_nN cx.1 cx.2.1 hd hf hg h
  · rw [conc_ref hz] at hg h
    exact lv_aload_n cx.1 cx.2.1 hd hf hg h
theorem j_aloadS_n {i : Nat} {f : Fin 4} {z : Int} (hd : decode M.cc pc = .ok (.aload_n f, 1)) (hf : (f : Nat) = i) (hi : L[i]? = some (3, z)) (k : J l M K X (pc + 1) L ((3, z) :: S) n C q) : J l M K X pc L S n C q := by
  intro r hr w p e R s m args below meth c H locs ls Qf cx ro rt wr vs lr rs hsz
  have hg := lr.get hi (show (3 : Nat) ≠ 9 by decide)
  exact lv_aload_n cx.1 cx.2.1 hd hf hg (k r hr w p e R s m args below meth c H locs ls Qf cx ro rt wr vs lr (RgL.cons rg3 rs) hsz)
theorem j_istore {i : Nat} {z : Int} (hd : decode M.cc pc = .ok (.istore i, 2)) (hn : i < M.nL) (h0 : noL L i = true) (k : J l M K X (pc + 2) (L.set i (0, z)) S n C q) : J l M K X pc L ((0, z) :: S) n C q := by
  intro r hr w p e R s m args below meth c H locs ls Qf cx ro rt wr vs lr rs hsz
  refine lv_istore (x := I32 z) cx.1 cx.2.1 hd lr.has hn rfl (fun ls' hl' => ?_)
  exact k r hr w p e R s m args below meth c H locs ls' Qf cx ro rt wr vs (lr.put1 (v := (0, z)) (show (0 : Nat) ≠ 1 by decide) rs.hd h0 hl') rs.tl hsz
theorem j_lstore {i : Nat} {z : Int} (hd : decode M.cc pc = .ok (.lstore i, 2)) (hn : i + 1 < M.nL) (h0 : noL L i = true) (k : J l M K X (pc + 2) ((L.set i (1, z)).set (i + 1) (9, 0)) S n C q) : J l M K X pc L ((1, z) :: S) n C q := by
  intro r hr w p e R s m args below meth c H locs ls Qf cx ro rt wr vs lr rs hsz
  refine lv_lstore (x := I64 z) cx.1 cx.2.1 hd lr.has hn rfl (fun ls' hl' => ?_)
  exact k r hr w p e R s m args below meth c H locs ls' Qf cx ro rt wr vs (lr.put2 (rs.hd.2 rfl) h0 hl') rs.tl hsz
theorem j_astore {i : Nat} {z : Int} (hd : decode M.cc pc = .ok (.astore i, 2)) (hn : i < M.nL) (h0 : noL L i = true) (k : J l M K X (pc + 2) (L.set i (2, z)) S n C q) : J l M K X pc L ((2, z) :: S) n C q := by
  intro r hr w p e R s m args below meth c H locs ls Qf cx ro rt wr vs lr rs hsz
  have key : ∀ ls', lv_has ls' M.nL ((i, conc w (2, z)) :: (LAl w L).filter (fun q => !(q.1 == i) && !(q.1 + 1 == i && q.2.category == 2))) → W p l e R s m args below meth c H locs q.1 q.2 Qf (F0 m (pc + 2) ls' (S.map (conc w))) := fun ls' hl' => k r hr w p e R s m args below meth c H locs ls' Qf cx ro rt wr vs (lr.put1 (v := (2, z)) (show (2 : Nat) ≠ 1 by decide) rs.hd h0 hl') rs.tl hsz
  rw [List.map_cons]
  by_cases hz : z < 0
  · rw [conc_null hz] at key ⊢
    exact lv_astoreN cx.1 cx.2.1 hd lr.has hn rfl key
  · rw [conc_ref hz] at key ⊢
    exact lv_astore cx.1 cx.2.1 hd lr.has hn rfl key
theorem j_istore_n {i : Nat} {f : Fin 4} {z : Int} (hd : decode M.cc pc = .ok (.istore_n f, 1)) (hf : (f : Nat) = i) (hn : i < M.nL) (h0 : noL L i = true) (k : J l M K X (pc + 1) (L.set i (0, z)) S n C q) : J l M K X pc L ((0, z) :: S) n C q := by
  intro r hr w p e R s m args below meth c H locs ls Qf cx ro rt wr vs lr rs hsz
  refine lv_istore_n (x := I32 z) cx.1 cx.2.1 hd hf lr.has hn rfl (fun ls' hl' => ?_)
  exact k r hr w p e R s m args below meth c H locs ls' Qf cx ro rt wr vs (lr.put1 (v := (0, z)) (show (0 : Nat) ≠ 1 by decide) rs.hd h0 hl') rs.tl hsz
theorem j_lstore_n {i : Nat} {f : Fin 4} {z : Int} (hd : decode M.cc pc = .ok (.lstore_n f, 1)) (hf : (f : Nat) = i) (hn : i + 1 < M.nL) (h0 : noL L i = true) (k : J l M K X (pc + 1) ((L.set i (1, z)).set (i + 1) (9, 0)) S n C q) : J l M K X pc L ((1, z) :: S) n C q := by
  intro r hr w p e R s m args below meth c H locs ls Qf cx ro rt wr vs lr rs hsz
  refine lv_lstore_n (x := I64 z) cx.1 cx.2.1 hd hf lr.has hn rfl (fun ls' hl' => ?_)
  exact k r hr w p e R s m args below meth c H locs ls' Qf cx ro rt wr vs (lr.put2 (rs.hd.2 rfl) h0 hl') rs.tl hsz
theorem j_astore_n {i : Nat} {f : Fin 4} {z : Int} (hd : decode M.cc pc = .ok (.astore_n f, 1)) (hf : (f : Nat) = i) (hn : i < M.nL) (h0 : noL L i = true) (k : J l M K X (pc + 1) (L.set i (2, z)) S n C q) : J l M K X pc L ((2, z) :: S) n C q := by
  intro r hr w p e R s m args below meth c H locs ls Qf cx ro rt wr vs lr rs hsz
  have key : ∀ ls', lv_has ls' M.nL ((i, conc w (2, z)) :: (LAl w L).filter (fun q => !(q.1 == i) && !(q.1 + 1 == i && q.2.category == 2))) → W p l e R s m args below meth c H locs q.1 q.2 Qf (F0 m (pc + 1) ls' (S.map (conc w))) := fun ls' hl' => k r hr w p e R s m args below meth c H locs ls' Qf cx ro rt wr vs (lr.put1 (v := (2, z)) (show (2 : Nat) ≠ 1 by decide) rs.hd h0 hl') rs.tl hsz
  rw [List.map_cons]
  by_cases hz : z < 0
  · rw [conc_null hz] at key ⊢
    exact lv_astore_nN cx.1 cx.2.1 hd hf lr.has hn rfl key
  · rw [conc_ref hz] at key ⊢
    exact lv_astore_n cx.1 cx.2.1 hd hf lr.has hn rfl key
theorem j_iinc {i : Nat} {z d : Int} (hd : decode M.cc pc = .ok (.iinc i d, 3)) (hi : L[i]? = some (0, z)) (hn : i < M.nL) (h0 : noL L i = true) (k : J l M K X (pc + 3) (L.set i (0, w32 (z + d))) S n C q) : J l M K X pc L S n C q := by
  intro r hr w p e R s m args below meth c H locs ls Qf cx ro rt wr vs lr rs hsz
  obtain ⟨k0, hk0⟩ := List.getElem?_of_mem (LAl_mem (w := w) hi (show (0 : Nat) ≠ 9 by decide))
  refine lv_iinc (v := I32 (w32 (z + d))) cx.1 cx.2.1 hd lr.has hk0 (I32_add z d).symm hn rfl (fun ls' hl' => ?_)
  exact k r hr w p e R s m args below meth c H locs ls' Qf cx ro rt wr vs (lr.put1 (v := (0, w32 (z + d))) (show (0 : Nat) ≠ 1 by decide) (rg0 (w32_r _)) h0 hl') rs hsz
theorem j_icmp_lt {a b off : Int} {tgt : Nat} (hd : decode M.cc pc = .ok (.if_icmp .lt off, 3)) (ht : (pc : Int) + off = (tgt : Int)) (k1 : b ≤ a → J l M K X1 (pc + 3) L S n C q) (k2 : ¬ (b ≤ a) → J l M K X2 tgt L S n C q) : J l M K (if b ≤ a then X1 else X2) pc L ((0, b) :: (0, a) :: S) n C q := by
  intro r hr w p e R s m args below meth c H locs ls Qf cx ro rt wr vs lr rs hsz
  have ra : r32 a := rs.tl.hd.1 rfl
  have rb : r32 b := rs.hd.1 rfl
  refine lv_icmp_lt (x := I32 a) (y := I32 b) cx.1 cx.2.1 hd ht (fun z => ?_) (fun z => ?_)
  · have z' : ¬ (b ≤ a) := (by have := (I32_lt ra rb).mp z; omega)
    rw [if_neg z'] at hr
    exact k2 z' r hr w p e R s m args below meth c H locs ls Qf cx ro rt wr vs lr rs.tl.tl hsz
  · have z' : (b ≤ a) := (by have := mt (I32_lt ra rb).mpr z; omega)
    rw [if_pos z'] at hr
    exact k1 z' r hr w p e R s m args below meth c H locs ls Qf cx ro rt wr vs lr rs.tl.tl hsz
theorem j_icmp_ge {a b off : Int} {tgt : Nat} (hd : decode M.cc pc = .ok (.if_icmp .ge off, 3)) (ht : (pc : Int) + off = (tgt : Int)) (k1 : a < b → J l M K X1 (pc + 3) L S n C q) (k2 : ¬ (a < b) → J l M K X2 tgt L S n C q) : J l M K (if a < b then X1 else X2) pc L ((0, b) :: (0, a) :: S) n C q := by
  intro r hr w p e R s m args below meth c H locs ls Qf cx ro rt wr vs lr rs hsz
  have ra : r32 a := rs.tl.hd.1 rfl
  have rb : r32 b := rs.hd.1 rfl
  refine lv_icmp_ge (x := I32 a) (y := I32 b) cx.1 cx.2.1 hd ht (fun z => ?_) (fun z => ?_)
  · have z' : ¬ (a < b) := (by have := (I32_le rb ra).mp z; omega)
    rw [if_neg z'] at hr
    exact k2 z' r hr w p e R s m args below meth c H locs ls Qf cx ro rt wr vs lr rs.tl.tl hsz
  · have z' : (a < b) := (by have := mt (I32_le rb ra).mpr z; omega)
    rw [if_pos z'] at hr
    exact k1 z' r hr w p e R s m args below meth c H locs ls Qf cx ro rt wr vs lr rs.tl.tl hsz
theorem j_icmp_gt {a b off : Int} {tgt : Nat} (hd : decode M.cc pc = .ok (.if_icmp .gt off, 3)) (ht : (pc : Int) + off = (tgt : Int)) (k1 : a ≤ b → J l M K X1 (pc + 3) L S n C q) (k2 : ¬ (a ≤ b) → J l M K X2 tgt L S n C q) : J l M K (if a ≤ b then X1 else X2) pc L ((0, b) :: (0, a) :: S) n C q := by
  intro r hr w p e R s m args below meth c H locs ls Qf cx ro rt wr vs lr rs hsz
  have ra : r32 a := rs.tl.hd.1 rfl
  have rb : r32 b := rs.hd.1 rfl
  refine lv_icmp_gt (x := I32 a) (y := I32 b) cx.1 cx.2.1 hd ht (fun z => ?_) (fun z => ?_)
  · have z' : ¬ (a ≤ b) := (by have := (I32_lt rb ra).mp z; omega)
    rw [if_neg z'] at hr
    exact k2 z' r hr w p e R s m args below meth c H locs ls Qf cx ro rt wr vs lr rs.tl.tl hsz
  · have z' : (a ≤ b) := (by have := mt (I32_lt rb ra).mpr z; omega)
    rw [if_pos z'] at hr
    exact k1 z' r hr w p e R s m args below meth c H locs ls Qf cx ro rt wr vs lr rs.tl.tl hsz
theorem j_icmp_le {a b off : Int} {tgt : Nat} (hd : decode M.cc pc = .ok (.if_icmp .le off, 3)) (ht : (pc : Int) + off = (tgt : Int)) (k1 : b < a → J l M K X1 (pc + 3) L S n C q) (k2 : ¬ (b < a) → J l M K X2 tgt L S n C q) : J l M K (if b < a then X1 else X2) pc L ((0, b) :: (0, a) :: S) n C q := by
  intro r hr w p e R s m args below meth c H locs ls Qf cx ro rt wr vs lr rs hsz
  have ra : r32 a := rs.tl.hd.1 rfl
  have rb : r32 b := rs.hd.1 rfl
  refine lv_icmp_le (x := I32 a) (y := I32 b) cx.1 cx.2.1 hd ht (fun z => ?_) (fun z => ?_)
  · have z' : ¬ (b < a) := (by have := (I32_le ra rb).mp z; omega)
    rw [if_neg z'] at hr
    exact k2 z' r hr w p e R s m args below meth c H locs ls Qf cx ro rt wr vs lr rs.tl.tl hsz
  · have z' : (b < a) := (by have := mt (I32_le ra rb).mpr z; omega)
    rw [if_pos z'] at hr
    exact k1 z' r hr w p e R s m args below meth c H locs ls Qf cx ro rt wr vs lr rs.tl.tl hsz
theorem j_icmp_eq {a b off : Int} {tgt : Nat} (hd : decode M.cc pc = .ok (.if_icmp .eq off, 3)) (ht : (pc : Int) + off = (tgt : Int)) (k1 : a = b → J l M K X1 tgt L S n C q) (k2 : ¬ (a = b) → J l M K X2 (pc + 3) L S n C q) : J l M K (if a = b then X1 else X2) pc L ((0, b) :: (0, a) :: S) n C q := by
  intro r hr w p e R s m args below meth c H locs ls Qf cx ro rt wr vs lr rs hsz
  have ra : r32 a := rs.tl.hd.1 rfl
  have rb : r32 b := rs.hd.1 rfl
  refine lv_icmp_eq (x := I32 a) (y := I32 b) cx.1 cx.2.1 hd ht (fun z => ?_) (fun z => ?_)
  · have z' : (a = b) := (I32_inj ra rb).mp z
    rw [if_pos z'] at hr
    exact k1 z' r hr w p e R s m args below meth c H locs ls Qf cx ro rt wr vs lr rs.tl.tl hsz
  · have z' : ¬ (a = b) := mt (I32_inj ra rb).mpr z
    rw [if_neg z'] at hr
    exact k2 z' r hr w p e R s m args below meth c H locs ls Qf cx ro rt wr vs lr rs.tl.tl hsz
theorem j_icmp_ne {a b off : Int} {tgt : Nat} (hd : decode M.cc pc = .ok (.if_icmp .ne off, 3)) (ht : (pc : Int) + off = (tgt : Int)) (k1 : a = b → J l M K X1 (pc + 3) L S n C q) (k2 : ¬ (a = b) → J l M K X2 tgt L S n C q) : J l M K (if a = b then X1 else X2) pc L ((0, b) :: (0, a) :: S) n C q := by
  intro r hr w p e R s m args below meth c H locs ls Qf cx ro rt wr vs lr rs hsz
  have ra : r32 a := rs.tl.hd.1 rfl
  have rb : r32 b := rs.hd.1 rfl
  refine lv_icmp_ne (x := I32 a) (y := I32 b) cx.1 cx.2.1 hd ht (fun z => ?_) (fun z => ?_)
  · have z' : ¬ (a = b) := (fun q => z ((I32_inj ra rb).mpr q))
    rw [if_neg z'] at hr
    exact k2 z' r hr w p e R s m args below meth c H locs ls Qf cx ro rt wr vs lr rs.tl.tl hsz
  · have z' : (a = b) := (I32_inj ra rb).mp z
    rw [if_pos z'] at hr
    exact k1 z' r hr w p e R s m args below meth c H locs ls Qf cx ro rt wr vs lr rs.tl.tl hsz
theorem j_if_eq {a off : Int} {tgt : Nat} (hd : decode M.cc pc = .ok (.ifCond .eq off, 3)) (ht : (pc : Int) + off = (tgt : Int)) (k1 : a = 0 → J l M K X1 tgt L S n C q) (k2 : ¬ (a = 0) → J l M K X2 (pc + 3) L S n C q) : J l M K (if a = 0 then X1 else X2) pc L ((0, a) :: S) n C q := by
  intro r hr w p e R s m args below meth c H locs ls Qf cx ro rt wr vs lr rs hsz
  have ra : r32 a := rs.hd.1 rfl
  have rb : r32 0 := by unfold r32; omega
  refine lv_if_eq (x := I32 a) cx.1 cx.2.1 hd ht (fun z => ?_) (fun z => ?_)
  · have z' : (a = 0) := (I32_0 ra).mp z
    rw [if_pos z'] at hr
    exact k1 z' r hr w p e R s m args below meth c H locs ls Qf cx ro rt wr vs lr rs.tl hsz
  · have z' : ¬ (a = 0) := mt (I32_0 ra).mpr z
    rw [if_neg z'] at hr
    exact k2 z' r hr w p e R s m args below meth c H locs ls Qf cx ro rt wr vs lr rs.tl hsz
theorem j_if_ne {a off : Int} {tgt : Nat} (hd : decode M.cc pc = .ok (.ifCond .ne off, 3)) (ht : (pc : Int) + off = (tgt : Int)) (k1 : a = 0 → J l M K X1 (pc + 3) L S n C q) (k2 : ¬ (a = 0) → J l M K X2 tgt L S n C q) : J l M K (if a = 0 then X1 else X2) pc L ((0, a) :: S) n C q := by
  intro r hr w p e R s m args below meth c H locs ls Qf cx ro rt wr vs lr rs hsz
  have ra : r32 a := rs.hd.1 rfl
  have rb : r32 0 := by unfold r32; omega
  refine lv_if_ne (x := I32 a) cx.1 cx.2.1 hd ht (fun z => ?_) (fun z => ?_)
  · have z' : ¬ (a = 0) := (fun q => z ((I32_0 ra).mpr q))
    rw [if_neg z'] at hr
    exact k2 z' r hr w p e R s m args below meth c H locs ls Qf cx ro rt wr vs lr rs.tl hsz
  · have z' : (a = 0) := (I32_0 ra).mp z
    rw [if_pos z'] at hr
    exact k1 z' r hr w p e R s m args below meth c H locs ls Qf cx ro rt wr vs lr rs.tl hsz
theorem j_if_lt {a off : Int} {tgt : Nat} (hd : decode M.cc pc = .ok (.ifCond .lt off, 3)) (ht : (pc : Int) + off = (tgt : Int)) (k1 : a < 0 → J l M K X1 tgt L S n C q) (k2 : ¬ (a < 0) → J l M K X2 (pc + 3) L S n C q) : J l M K (if a < 0 then X1 else X2) pc L ((0, a) :: S) n C q := by
  intro r hr w p e R s m args below meth c H locs ls Qf cx ro rt wr vs lr rs hsz
  have ra : r32 a := rs.hd.1 rfl
  have rb : r32 0 := by unfold r32; omega
  refine lv_if_lt (x := I32 a) cx.1 cx.2.1 hd ht (fun z => ?_) (fun z => ?_)
  · have z' : (a < 0) := (I32_lt ra rb).mp z
    rw [if_pos z'] at hr
    exact k1 z' r hr w p e R s m args below meth c H locs ls Qf cx ro rt wr vs lr rs.tl hsz
  · have z' : ¬ (a < 0) := mt (I32_lt ra rb).mpr z
    rw [if_neg z'] at hr
    exact k2 z' r hr w p e R s m args below meth c H locs ls Qf cx ro rt wr vs lr rs.tl hsz
theorem j_if_ge {a off : Int} {tgt : Nat} (hd : decode M.cc pc = .ok (.ifCond .ge off, 3)) (ht : (pc : Int) + off = (tgt : Int)) (k1 : a < 0 → J l M K X1 (pc + 3) L S n C q) (k2 : ¬ (a < 0) → J l M K X2 tgt L S n C q) : J l M K (if a < 0 then X1 else X2) pc L ((0, a) :: S) n C q := by
  intro r hr w p e R s m args below meth c H locs ls Qf cx ro rt wr vs lr rs hsz
  have ra : r32 a := rs.hd.1 rfl
  have rb : r32 0 := by unfold r32; omega
  refine lv_if_ge (x := I32 a) cx.1 cx.2.1 hd ht (fun z => ?_) (fun z => ?_)
  · have z' : ¬ (a < 0) := (by have := (I32_le rb ra).mp z; omega)
    rw [if_neg z'] at hr
    exact k2 z' r hr w p e R s m args below meth c H locs ls Qf cx ro rt wr vs lr rs.tl hsz
  · have z' : (a < 0) := (by have := mt (I32_le rb ra).mpr z; omega)
    rw [if_pos z'] at hr
    exact k1 z' r hr w p e R s m args below meth c H locs ls Qf cx ro rt wr vs lr rs.tl hsz
theorem j_if_gt {a off : Int} {tgt : Nat} (hd : decode M.cc pc = .ok (.ifCond .gt off, 3)) (ht : (pc : Int) + off = (tgt : Int)) (k1 : 0 < a → J l M K X1 tgt L S n C q) (k2 : ¬ (0 < a) → J l M K X2 (pc + 3) L S n C q) : J l M K (if 0 < a then X1 else X2) pc L ((0, a) :: S) n C q := by
  intro r hr w p e R s m args below meth c H locs ls Qf cx ro rt wr vs lr rs hsz
  have ra : r32 a := rs.hd.1 rfl
  have rb : r32 0 := by unfold r32; omega
  refine lv_if_gt (x := I32 a) cx.1 cx.2.1 hd ht (fun z => ?_) (fun z => ?_)
  · have z' : (0 < a) := (I32_lt rb ra).mp z
    rw [if_pos z'] at hr
    exact k1 z' r hr w p e R s m args below meth c H locs ls Qf cx ro rt wr vs lr rs.tl hsz
  · have z' : ¬ (0 < a) := mt (I32_lt rb ra).mpr z
    rw [if_neg z'] at hr
    exact k2 z' r hr w p e R s m args below meth c H locs ls Qf cx ro rt wr vs lr rs.tl hsz
theorem j_if_le {a off : Int} {tgt : Nat} (hd : decode M.cc pc = .ok (.ifCond .le off, 3)) (ht : (pc : Int) + off = (tgt : Int)) (k1 : 0 < a → J l M K X1 (pc + 3) L S n C q) (k2 : ¬ (0 < a) → J l M K X2 tgt L S n C q) : J l M K (if 0 < a then X1 else X2) pc L ((0, a) :: S) n C q := by
  intro r hr w p e R s m args below meth c H locs ls Qf cx ro rt wr vs lr rs hsz
  have ra : r32 a := rs.hd.1 rfl
  have rb : r32 0 := by unfold r32; omega
  refine lv_if_le (x := I32 a) cx.1 cx.2.1 hd ht (fun z => ?_) (fun z => ?_)
  · have z' : ¬ (0 < a) := (by have := (I32_le ra rb).mp z; omega)
    rw [if_neg z'] at hr
    exact k2 z' r hr w p e R s m args below meth c H locs ls Qf cx ro rt wr vs lr rs.tl hsz
  · have z' : (0 < a) := (by have := mt (I32_le ra rb).mpr z; omega)
    rw [if_pos z'] at hr
    exact k1 z' r hr w p e R s m args below meth c H locs ls Qf cx ro rt wr vs lr rs.tl hsz
theorem b2i_0 {b : Bool} : b2i b = 0 ↔ ¬ b = true := by cases b <;> simp [b2i]
theorem j_ifb_eq {b : Bool} {off : Int} {tgt : Nat} (hd : decode M.cc pc = .ok (.ifCond .eq off, 3)) (ht : (pc : Int) + off = (tgt : Int)) (k1 : b = true → J l M K X1 (pc + 3) L S n C q) (k2 : ¬ b = true → J l M K X2 tgt L S n C q) : J l M K (if b = true then X1 else X2) pc L ((0, b2i b) :: S) n C q := by
  have h := j_if_eq (X1 := X2) (X2 := X1) (a := b2i b) hd ht (fun z => k2 (b2i_0.mp z)) (fun z => k1 (by cases b with
    | true => rfl
    | false => exact absurd rfl z))
  rw [show (if b2i b = 0 then X2 else X1) = (if b = true then X1 else X2) by cases b <;> rfl] at h
  exact h
theorem j_ifb_ne {b : Bool} {off : Int} {tgt : Nat} (hd : decode M.cc pc = .ok (.ifCond .ne off, 3)) (ht : (pc : Int) + off = (tgt : Int)) (k1 : b = true → J l M K X1 tgt L S n C q) (k2 : ¬ b = true → J l M K X2 (pc + 3) L S n C q) : J l M K (if b = true then X1 else X2) pc L ((0, b2i b) :: S) n C q := by
  have h := j_if_ne (X1 := X2) (X2 := X1) (a := b2i b) hd ht (fun z => k2 (b2i_0.mp z)) (fun z => k1 (by cases b with
    | true => rfl
    | false => exact absurd rfl z))
  rw [show (if b2i b = 0 then X2 else X1) = (if b = true then X1 else X2) by cases b <;> rfl] at h
  exact h
theorem j_ifnull {z off : Int} {tgt : Nat} (hd : decode M.cc pc = .ok (.ifnull off, 3)) (ht : (pc : Int) + off = (tgt : Int)) (k1 : z < 0 → J l M K X1 tgt L S n C q) (k2 : ¬ z < 0 → J l M K X2 (pc + 3) L S n C q) : J l M K (if z < 0 then X1 else X2) pc L ((2, z) :: S) n C q := by
  intro r hr w p e R s m args below meth c H locs ls Qf cx ro rt wr vs lr rs hsz
  rw [List.map_cons]
  by_cases hz : z < 0
  · rw [if_pos hz] at hr
    rw [conc_null hz]
    exact lv_ifnullN cx.1 cx.2.1 hd ht (k1 hz r hr w p e R s m args below meth c H locs ls Qf cx ro rt wr vs lr rs.tl hsz)
  · rw [if_neg hz] at hr
    rw [conc_ref hz]
    exact lv_ifnull cx.1 cx.2.1 hd (k2 hz r hr w p e R s m args below meth c H locs ls Qf cx ro rt wr vs lr rs.tl hsz)
theorem j_ifnonnull {z off : Int} {tgt : Nat} (hd : decode M.cc pc = .ok (.ifnonnull off, 3)) (ht : (pc : Int) + off = (tgt : Int)) (k1 : z < 0 → J l M K X1 (pc + 3) L S n C q) (k2 : ¬ z < 0 → J l M K X2 tgt L S n C q) : J l M K (if z < 0 then X1 else X2) pc L ((2, z) :: S) n C q := by
  intro r hr w p e R s m args below meth c H locs ls Qf cx ro rt wr vs lr rs hsz
  rw [List.map_cons]
  by_cases hz : z < 0
  · rw [if_pos hz] at hr
    rw [conc_null hz]
    exact lv_ifnonnullN cx.1 cx.2.1 hd (k1 hz r hr w p e R s m args below meth c H locs ls Qf cx ro rt wr vs lr rs.tl hsz)
  · rw [if_neg hz] at hr
    rw [conc_ref hz]
    exact lv_ifnonnull cx.1 cx.2.1 hd ht (k2 hz r hr w p e R s m args below meth c H locs ls Qf cx ro rt wr vs lr rs.tl hsz)
theorem j_goto {off : Int} {tgt : Nat} (hd : decode M.cc pc = .ok (.goto off, 3)) (ht : (pc : Int) + off = (tgt : Int)) (k : J l M K X tgt L S n C q) : J l M K X pc L S n C q := by
  intro r hr w p e R s m args below meth c H locs ls Qf cx ro rt wr vs lr rs hsz
  exact lv_goto cx.1 cx.2.1 hd ht (k r hr w p e R s m args below meth c H locs ls Qf cx ro rt wr vs lr rs hsz)
theorem j_swOut {dflt lo hi a : Int} {offs : Array Int} {len tgt : Nat} (hd : decode M.cc pc = .ok (.tableswitch dflt lo hi offs, len)) (h : a < lo ∨ hi < a) (ht : (pc : Int) + dflt = (tgt : Int)) (k : J l M K X tgt L S n C q) : J l M K X pc L ((0, a) :: S) n C q := by
  intro r hr w p e R s m args below meth c H locs ls Qf cx ro rt wr vs lr rs hsz
  have ra : r32 a := rs.hd.1 rfl
  exact lv_tableOut (x := I32 a) cx.1 cx.2.1 hd (by rw [I32_toInt ra]; exact h) ht (k r hr w p e R s m args below meth c H locs ls Qf cx ro rt wr vs lr rs.tl hsz)
theorem j_swIn {dflt lo hi a off : Int} {offs : Array Int} {len tgt : Nat} {i : Nat} (hd : decode M.cc pc = .ok (.tableswitch dflt lo hi offs, len)) (h : a = lo + (i : Int)) (hh : lo + (i : Int) ≤ hi) (ho : offs[i]? = some off) (ht : (pc : Int) + off = (tgt : Int)) (k : J l M K X tgt L S n C q) : J l M K X pc L ((0, a) :: S) n C q := by
  intro r hr w p e R s m args below meth c H locs ls Qf cx ro rt wr vs lr rs hsz
  have ra : r32 a := rs.hd.1 rfl
  exact lv_tableIn (x := I32 a) (off := off) cx.1 cx.2.1 hd (by rw [I32_toInt ra]; omega) (by rw [I32_toInt ra]; omega) (by rw [I32_toInt ra, h, show (lo + (i : Int) - lo).toNat = i by omega]; exact ho) ht (k r hr w p e R s m args below meth c H locs ls Qf cx ro rt wr vs lr rs.tl hsz)
-- ends
theorem j_ireturn {r0 : α} {z : Int} (hd : decode M.cc pc = .ok (.ireturn, 1)) (hr0 : M.ret = some .int) (hK : K r0 = (some (0, z), n, C)) (h1 : q.1 ≤ M.mc) (h2 : q.2 ≤ M.ms) : J l M K (some r0) pc L [(0, z)] n C q := by
  intro r hr w p e R s m args below meth c H locs ls Qf cx ro rt wr vs lr rs hsz
  cases hr
  have h := rt H locs q.1 q.2 pc ls .ireturn (by rw [hK]; exact wr) vs h1 h2 (by rw [hK]; intro v hv; cases hv; exact rs.hd) (by rw [hK, hr0]; exact Or.inr (Or.inl ⟨.int, z, rfl, rfl, rfl, rfl⟩)) hd
  rw [hK] at h
  exact h
theorem j_zreturn {r0 : α} {b : Bool} (hd : decode M.cc pc = .ok (.ireturn, 1)) (hr0 : M.ret = some .boolean) (hK : K r0 = (some (0, b2i b), n, C)) (h1 : q.1 ≤ M.mc) (h2 : q.2 ≤ M.ms) : J l M K (some r0) pc L [(0, b2i b)] n C q := by
  intro r hr w p e R s m args below meth c H locs ls Qf cx ro rt wr vs lr rs hsz
  cases hr
  have h := rt H locs q.1 q.2 pc ls .ireturn (by rw [hK]; exact wr) vs h1 h2 (by rw [hK]; intro v hv; cases hv; exact rs.hd) (by rw [hK, hr0]; exact Or.inr (Or.inl ⟨.boolean, b2i b, rfl, rfl, rfl, by cases b <;> rfl⟩)) hd
  rw [hK] at h
  exact h
theorem j_lreturn {r0 : α} {z : Int} (hd : decode M.cc pc = .ok (.lreturn, 1)) (hr0 : M.ret = some .long) (hK : K r0 = (some (1, z), n, C)) (h1 : q.1 ≤ M.mc) (h2 : q.2 ≤ M.ms) : J l M K (some r0) pc L [(1, z)] n C q := by
  intro r hr w p e R s m args below meth c H locs ls Qf cx ro rt wr vs lr rs hsz
  cases hr
  have h := rt H locs q.1 q.2 pc ls .lreturn (by rw [hK]; exact wr) vs h1 h2 (by rw [hK]; intro v hv; cases hv; exact rs.hd) (by rw [hK, hr0]; exact Or.inr (Or.inr (Or.inl ⟨z, rfl, rfl, rfl⟩))) hd
  rw [hK] at h
  exact h
theorem j_areturn {r0 : α} {z : Int} {nm : String} (hd : decode M.cc pc = .ok (.areturn, 1)) (hr0 : M.ret = some (.object nm)) (hK : K r0 = (some (2, z), n, C)) (h1 : q.1 ≤ M.mc) (h2 : q.2 ≤ M.ms) : J l M K (some r0) pc L [(2, z)] n C q := by
  intro r hr w p e R s m args below meth c H locs ls Qf cx ro rt wr vs lr rs hsz
  cases hr
  have h := rt H locs q.1 q.2 pc ls .areturn (by rw [hK]; exact wr) vs h1 h2 (by rw [hK]; intro v hv; cases hv; exact rs.hd) (by rw [hK, hr0]; exact Or.inr (Or.inr (Or.inr ⟨nm, z, rfl, rfl, rfl⟩))) hd
  rw [hK] at h
  exact h
theorem j_return {r0 : α} (hd : decode M.cc pc = .ok (.return_, 1)) (hr0 : M.ret = none) (hK : K r0 = (none, n, C)) (h1 : q.1 ≤ M.mc) (h2 : q.2 ≤ M.ms) : J l M K (some r0) pc L [] n C q := by
  intro r hr w p e R s m args below meth c H locs ls Qf cx ro rt wr vs lr rs hsz
  cases hr
  have h := rt H locs q.1 q.2 pc ls .return_ (by rw [hK]; exact wr) vs h1 h2 (by rw [hK]; intro v hv; cases hv) (by rw [hK, hr0]; exact Or.inl ⟨rfl, rfl, rfl⟩) hd
  rw [hK] at h
  exact h
end RULES
