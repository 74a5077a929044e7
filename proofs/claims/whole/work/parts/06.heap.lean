-- rules that touch the heap
theorem W.withT {p : Program} {l : Launch} {e : Env} {R : Room} {s : State} {m : MethodId} {args : Array Value} {below : List Frame} {meth : Method} {c : Code} {H : Heap} {locs : List Loc} {cells slots : Nat} {Q : State → Prop} {g : JFrame}
    (k : H.size ≤ s.heap.size + cells → W p l e R s m args below meth c H locs cells slots Q g) : W p l e R s m args below meth c H locs cells slots Q g := by
  intro T hT X
  exact k (by rw [← hT]; exact X.heapSize) T hT X
theorem P_ge {w : WP} {n k : Nat} {C : Hp} {H : Heap} (h : va_P w.2.1 vwCl (wsOf w n C) H) (hk : k < n) : wb w + k < H.size := (h k _ (wsOf_get hk)).lt
theorem P_size {w : WP} {n : Nat} {C : Hp} {H : Heap} (h : va_P w.2.1 vwCl (wsOf w n C) H) (hn : 0 < n) (hs : H.size ≤ wb w + n) : H.size = wb w + n := by
  have := P_ge h (show n - 1 < n by omega)
  omega
theorem S_old {w : WP} {s : State} {H : Heap} {locs : List Loc} (h : va_S (aw w) s.heap H locs) (ho : ∀ q : Nat, q < wb w → s.heap[q]? = w.1[q]?) (hle : wb w ≤ s.heap.size) : ∀ q : Nat, q < wb w → H[q]? = w.1[q]? := by
  intro q hq
  rw [h.2.1 q (by omega) (by show ¬ wb w ≤ q; omega), ho q hq]
theorem WRel.mk' {w : WP} {n cells : Nat} {C : Hp} {H : Heap} {s : State} {locs : List Loc} (hP : va_P w.2.1 vwCl (wsOf w n C) H) (hn : 0 < n) (hs : H.size ≤ s.heap.size + cells) (hsz : s.heap.size + cells = wb w + n) (hS : va_S (aw w) s.heap H locs) (ho : ∀ q : Nat, q < wb w → s.heap[q]? = w.1[q]?) (hle : wb w ≤ s.heap.size) (hr : RgH C) : WRel w n C H :=
  ⟨hP, P_size hP hn (by omega), S_old hS ho hle, hr⟩
/-- a class's fields, as the tables and the kit have them -/
def ClsOK (ci : Nat) (C : String) (T : u_T) (N : Nat) : Prop := vwCl[ci]? = some (C, T, N) ∧ ci < 20 ∧ (∀ w ∈ u_ws C T N, w ∈ lw_gt) ∧ (∀ k, k < N → parseFieldDescriptor (T k).2.2.1 = some (tyX ci k)) ∧ (∀ a, a < N → ∀ b, b < N → a ≠ b → (T a).2.1 ≠ (T b).2.1)
theorem cls0 : ClsOK 0 RX0 TX0 3 := ⟨rfl, by decide, gt_sub inX0 (by decide +kernel), tyX0_ok, nmX0⟩
theorem cls1 : ClsOK 1 RX1 TX1 2 := ⟨rfl, by decide, gt_sub inX1 (by decide +kernel), tyX1_ok, nmX1⟩
theorem cls2 : ClsOK 2 RX2 TX2 4 := ⟨rfl, by decide, gt_sub inX2 (by decide +kernel), tyX2_ok, nmX2⟩
theorem cls3 : ClsOK 3 RX3 TX3 7 := ⟨rfl, by decide, gt_sub inX3 (by decide +kernel), tyX3_ok, nmX3⟩
theorem cls4 : ClsOK 4 RX4 TX4 4 := ⟨rfl, by decide, gt_sub inX4 (by decide +kernel), tyX4_ok, nmX4⟩
theorem cls5 : ClsOK 5 RX5 TX5 11 := ⟨rfl, by decide, gt_sub inX5 (by decide +kernel), tyX5_ok, nmX5⟩
theorem cls6 : ClsOK 6 RX6 TX6 14 := ⟨rfl, by decide, gt_sub inX6 (by decide +kernel), tyX6_ok, nmX6⟩
theorem cls7 : ClsOK 7 RX7 TX7 13 := ⟨rfl, by decide, gt_sub inX7 (by decide +kernel), tyX7_ok, nmX7⟩
theorem cls8 : ClsOK 8 RX8 TX8 8 := ⟨rfl, by decide, gt_sub inX8 (by decide +kernel), tyX8_ok, nmX8⟩
theorem cls9 : ClsOK 9 RX9 TX9 4 := ⟨rfl, by decide, gt_sub inX9 (by decide +kernel), tyX9_ok, nmX9⟩
theorem cls10 : ClsOK 10 RX10 TX10 11 := ⟨rfl, by decide, gt_sub inX10 (by decide +kernel), tyX10_ok, nmX10⟩
theorem cls11 : ClsOK 11 RX11 TX11 47 := ⟨rfl, by decide, gt_sub inX11 (by decide +kernel), tyX11_ok, nmX11⟩
/-- a field as an instruction of a class names it -/
def FOK (own : String) (idx ci fi : Nat) : Prop := ∃ (C : String) (T : u_T) (N : Nat), ClsOK ci C T N ∧ fi < N ∧ (Cond.fieldLink own idx (T fi).1 (T fi).2.1 (T fi).2.2.1 ∈ lw_gt ∨ ∃ host : String, Cond.fieldLinkNest own idx (T fi).1 (T fi).2.1 (T fi).2.2.1 host ∈ lw_ns)
/-- a field may be written: not final, or in the constructor of its class -/
def PutOK (M : MC) (idx ci fi : Nat) : Prop := ∀ (C : String) (T : u_T) (N : Nat), vwCl[ci]? = some (C, T, N) → (T fi).2.2.2 = false ∨ ((T fi).2.2.2 = true ∧ M.y.name = "<init>" ∧ (T fi).1 = M.y.cls ∧ Cond.fieldLink M.y.cls idx (T fi).1 (T fi).2.1 (T fi).2.2.1 ∈ lw_gt)
theorem nf_int {w : WP} {z : Int} : narrow .int (conc w (0, z)) = conc w (0, z) ∧ fits .int (conc w (0, z)) = true := ⟨rfl, rfl⟩
theorem nf_bool {w : WP} {z : Int} (h : z = 0 ∨ z = 1) : narrow .boolean (conc w (0, z)) = conc w (0, z) ∧ fits .boolean (conc w (0, z)) = true := by
  rcases h with rfl | rfl
  · exact ⟨rfl, rfl⟩
  · exact ⟨rfl, rfl⟩
theorem nf_obj {w : WP} {z : Int} {nm : String} : narrow (.object nm) (conc w (2, z)) = conc w (2, z) ∧ fits (.object nm) (conc w (2, z)) = true := by
  by_cases h : z < 0
  · rw [conc_null h]; exact ⟨rfl, rfl⟩
  · rw [conc_ref h]; exact ⟨rfl, rfl⟩
theorem nf_arr {w : WP} {z : Int} {t : FieldType} : narrow (.array t) (conc w (2, z)) = conc w (2, z) ∧ fits (.array t) (conc w (2, z)) = true := by
  by_cases h : z < 0
  · rw [conc_null h]; exact ⟨rfl, rfl⟩
  · rw [conc_ref h]; exact ⟨rfl, rfl⟩
def NF (ci fi t : Nat) (z : Int) : Prop := ∀ w : WP, narrow (tyX ci fi) (conc w (t, z)) = conc w (t, z) ∧ fits (tyX ci fi) (conc w (t, z)) = true
theorem sh_ne {n k len k2 len2 : Nat} {o o2 : Int} (h : OB n o k len) (h2 : OB n o2 k2 len2) (hne : k ≠ k2) : o ≠ o2 := by
  intro e
  subst e
  have := h.2.2.symm.trans h2.2.2
  exact hne (Prod.mk.inj this).1
theorem nar_byte {z : Int} (h : -128 ≤ z ∧ z ≤ 127) : vp_nar .byte (I32 z) = I32 z := by
  have e : (I32 z).toInt8.toInt32 = I32 z := by
    rw [i2b_I (by unfold r32; omega)]
    congr 1
    unfold w8
    omega
  exact e
theorem nar_bool {z : Int} (h : z = 0 ∨ z = 1) : vp_nar .boolean (I32 z) = I32 z := by
  rcases h with rfl | rfl
  · rfl
  · rfl
section HEAP
variable {α : Type} {l : Launch} {M : MC} {K : α → Option AV × Nat × Hp} {X X1 X2 : Option α} {pc n : Nat} {L S : List AV} {C : Hp} {q : Nat × Nat}
theorem j_getf {idx ci fi N t : Nat} {o fz : Int} (hd : decode M.cc pc = .ok (.getfield idx, 3)) (hF : FOK M.y.cls idx ci fi) (hs : OB n o ci N) (hlt : fi < N) (hz : (fi : Int) = fz) (ht : ftg ci fi = t) (k : J l M K X (pc + 3) L ((t, C o fz) :: S) n C q) : J l M K X pc L ((2, o) :: S) n C q := by
  intro r hr w p e R s m args below meth c H locs ls Qf cx ro rt wr vs lr rs hsz
  obtain ⟨o', rfl, hon, hsh⟩ := hs.nat
  obtain ⟨Cn, T, N2, ⟨c1, c2, c3, c4, c5⟩, hfi, hl⟩ := hF
  subst hz
  subst ht
  rw [List.map_cons, conc_ref (by omega), Int.toNat_natCast]
  have he : (wsOf w n C)[o']? = some (wb w + o', .inr (ci, (List.range N).map (fun (j : Nat) => conc w (ftg ci j, C (o' : Int) (j : Int))))) := by rw [wsOf_get hon, cell_ob hsh c2]
  have hv : ((List.range N).map (fun (j : Nat) => conc w (ftg ci j, C (o' : Int) (j : Int))))[fi]? = some (conc w (ftg ci fi, C (o' : Int) (fi : Int))) := by simp [hlt]
  have hrg : rgV (ftg ci fi, C (o' : Int) (fi : Int)) := by
    refine ⟨fun _ => (wr.2.2.2 _ _).1, fun e1 => ?_⟩
    exfalso
    have e2 : ftg ci fi = 1 := e1
    unfold ftg at e2
    split at e2 <;> omega
  have h := k r hr w p e R s m args below meth c H locs ls Qf cx ro rt wr vs lr (RgL.cons hrg rs.tl) hsz
  rcases hl with hl | ⟨host, hl⟩
  · exact va_get cx.1 cx.2.1 cx.2.2.2.2.1 c3 cx.2.2.2.1 cx.2.2.2.2.2.1.1 wr.1 o' he c1 fi hfi (cx.2.2.2.2.1 _ hl) (fun _ h9 => h9) hv hd h
  · exact va_getN cx.1 cx.2.1 cx.2.2.2.2.1 c3 cx.2.2.2.1 cx.2.2.2.2.2.1.1 wr.1 o' he c1 fi hfi (va_Nw.use rfl (cx.2.2.2.2.2.1.2.2.2.2.2.2 _ hl)) (fun _ h9 => h9) hv hd h
theorem j_putf {idx ci fi N t : Nat} {o fz z : Int} (hd : decode M.cc pc = .ok (.putfield idx, 3)) (hF : FOK M.y.cls idx ci fi) (hp : PutOK M idx ci fi) (hs : OB n o ci N) (hlt : fi < N) (hz : (fi : Int) = fz) (ht : ftg ci fi = t) (hnf : NF ci fi t z) (hr32 : t = 2 → r32 z) (k : J l M K X (pc + 3) L S n (upd2 C o fz z) q) : J l M K X pc L ((t, z) :: (2, o) :: S) n C q := by
  intro r hr w p e R s m args below meth c H locs ls Qf cx ro rt wr vs lr rs hsz
  obtain ⟨o', rfl, hon, hsh⟩ := hs.nat
  obtain ⟨Cn, T, N2, ⟨c1, c2, c3, c4, c5⟩, hfi, hl⟩ := hF
  subst hz
  subst ht
  have hv32 : r32 z := by
    by_cases h2 : ftg ci fi = 2
    · exact hr32 h2
    · refine rs.hd.1 ?_
      show ftg ci fi = 0
      unfold ftg at h2 ⊢
      split at h2 <;> simp_all
  rw [List.map_cons, List.map_cons, conc_ref (z := (o' : Int)) (by omega), Int.toNat_natCast]
  have he : (wsOf w n C)[o']? = some (wb w + o', .inr (ci, (List.range N).map (fun (j : Nat) => conc w (ftg ci j, C (o' : Int) (j : Int))))) := by rw [wsOf_get hon, cell_ob hsh c2]
  have hset : (wsOf w n C).set o' (wb w + o', .inr (ci, ((List.range N).map (fun (j : Nat) => conc w (ftg ci j, C (o' : Int) (j : Int)))).set fi (conc w (ftg ci fi, z)))) = wsOf w n (upd2 C (o' : Int) (fi : Int) z) := by
    refine wsOf_set hon ?_ (fun a ha => upd2_ne ha)
    rw [cell_ob hsh c2]
    congr 2
    refine (set_range N fi _ _ _ (fun _ => ?_) (fun j hj => ?_)).symm
    · simp [upd2]
    · have : ¬ ((j : Int) = (fi : Int)) := by omega
      simp [upd2, this]
  have hlen : fi < ((List.range N).map (fun (j : Nat) => conc w (ftg ci j, C (o' : Int) (j : Int)))).length := by simpa using hlt
  have hb21 : (sh (o' : Int).toNat).1 = 21 → -128 ≤ z ∧ z ≤ 127 := by
    intro e1
    rw [Int.toNat_natCast, hsh] at e1
    dsimp only at e1
    omega
  have kk : ∀ (H1 : Heap) (locs1 : List Loc), va_P w.2.1 vwCl ((wsOf w n C).set o' (wb w + o', .inr (ci, ((List.range N).map (fun (j : Nat) => conc w (ftg ci j, C (o' : Int) (j : Int)))).set fi (conc w (ftg ci fi, z))))) H1 → va_D (aw w) ((wsOf w n C).set o' (wb w + o', .inr (ci, ((List.range N).map (fun (j : Nat) => conc w (ftg ci j, C (o' : Int) (j : Int)))).set fi (conc w (ftg ci fi, z))))) → va_S (aw w) s.heap H1 locs1 → W p l e R s m args below meth c H1 locs1 q.1 q.2 Qf (F0 m (pc + 3) ls (S.map (conc w))) := by
    intro H1 locs1 hP1 _ hS1
    rw [hset] at hP1
    refine W.withT fun hle => ?_
    exact k r hr w p e R s m args below meth c H1 locs1 ls Qf cx ro rt (WRel.mk' hP1 (by omega) hle hsz hS1 cx.2.2.2.2.2.2.2.1 cx.2.2.2.2.2.2.1 (wr.2.2.2.upd hv32 hb21)) hS1 lr rs.tl.tl hsz
  rcases hp Cn T N2 c1 with hfin | ⟨hfin, hin, hdec, hl⟩
  · rcases hl with hl | ⟨host, hl⟩
    · exact va_put cx.1 cx.2.1 cx.2.2.2.2.1 c3 (tyX ci) c4 c5 cx.2.2.2.1 cx.2.2.2.2.2.1.1 wr.1 (wsOf_D w n C) vs o' he c1 fi hfi (cx.2.2.2.2.1 _ hl) (fun _ h9 => h9) hfin (c4 fi hfi) (hnf w).1 (hnf w).2 hlen hd kk
    · exact va_putN cx.1 cx.2.1 cx.2.2.2.2.1 c3 (tyX ci) c4 c5 cx.2.2.2.1 cx.2.2.2.2.2.1.1 wr.1 (wsOf_D w n C) vs o' he c1 fi hfi (va_Nw.use rfl (cx.2.2.2.2.2.1.2.2.2.2.2.2 _ hl)) (fun _ h9 => h9) hfin (c4 fi hfi) (hnf w).1 (hnf w).2 hlen hd kk
  · exact va_putF cx.1 cx.2.1 cx.2.2.2.2.1 c3 (tyX ci) c4 c5 cx.2.2.2.1 cx.2.2.2.2.2.1.1 wr.1 (wsOf_D w n C) vs o' he c1 fi hfi (cx.2.2.2.2.1 _ hl) (fun _ h9 => h9) hfin (cx.2.2.2.2.2.2.2.2.trans hin) hdec (c4 fi hfi) (hnf w).1 (hnf w).2 hlen hd kk
theorem j_iald {N : Nat} {o i : Int} (hd : decode M.cc pc = .ok (.iaload, 1)) (hs : OB n o 20 N) (h0 : 0 ≤ i) (h1 : i < (N : Int)) (k : J l M K X (pc + 1) L ((0, C o i) :: S) n C q) : J l M K X pc L ((0, i) :: (2, o) :: S) n C q := by
  intro r hr w p e R s m args below meth c H locs ls Qf cx ro rt wr vs lr rs hsz
  obtain ⟨o', rfl, hon, hsh⟩ := hs.nat
  rw [List.map_cons, List.map_cons, conc_ref (z := (o' : Int)) (by omega), Int.toNat_natCast]
  have he : (wsOf w n C)[o']? = some (wb w + o', .inl (w.2.2.1 0, N, .inl (fun j => I32 (C (o' : Int) (j : Int))))) := by rw [wsOf_get hon, cell_i (t := 0) hsh (by decide)]
  have ri : r32 i := rs.hd.1 rfl
  refine va_iald cx.1 cx.2.1 cx.2.2.2.2.2.1.1 wr.1 o' 0 he rfl (in_I h0 h1 ri) hd ?_
  rw [clamp_I h0 ri, show ((i.toNat : Nat) : Int) = i by omega]
  exact k r hr w p e R s m args below meth c H locs ls Qf cx ro rt wr vs lr (RgL.cons (rg0 (wr.2.2.2 _ _).1) rs.tl.tl) hsz
theorem j_bald {N : Nat} {o i : Int} (hd : decode M.cc pc = .ok (.baload, 1)) (hs : OB n o 21 N) (h0 : 0 ≤ i) (h1 : i < (N : Int)) (k : J l M K X (pc + 1) L ((0, C o i) :: S) n C q) : J l M K X pc L ((0, i) :: (2, o) :: S) n C q := by
  intro r hr w p e R s m args below meth c H locs ls Qf cx ro rt wr vs lr rs hsz
  obtain ⟨o', rfl, hon, hsh⟩ := hs.nat
  rw [List.map_cons, List.map_cons, conc_ref (z := (o' : Int)) (by omega), Int.toNat_natCast]
  have he : (wsOf w n C)[o']? = some (wb w + o', .inl (w.2.2.1 1, N, .inl (fun j => I32 (C (o' : Int) (j : Int))))) := by rw [wsOf_get hon, cell_i (t := 1) hsh (by decide)]
  have ri : r32 i := rs.hd.1 rfl
  refine va_bald cx.1 cx.2.1 cx.2.2.2.2.2.1.1 wr.1 o' 1 he rfl (in_I h0 h1 ri) hd ?_
  rw [clamp_I h0 ri, show ((i.toNat : Nat) : Int) = i by omega]
  exact k r hr w p e R s m args below meth c H locs ls Qf cx ro rt wr vs lr (RgL.cons (rg0 (wr.2.2.2 _ _).1) rs.tl.tl) hsz
theorem j_zald {N : Nat} {o i : Int} (hd : decode M.cc pc = .ok (.baload, 1)) (hs : OB n o 22 N) (h0 : 0 ≤ i) (h1 : i < (N : Int)) (k : J l M K X (pc + 1) L ((0, C o i) :: S) n C q) : J l M K X pc L ((0, i) :: (2, o) :: S) n C q := by
  intro r hr w p e R s m args below meth c H locs ls Qf cx ro rt wr vs lr rs hsz
  obtain ⟨o', rfl, hon, hsh⟩ := hs.nat
  rw [List.map_cons, List.map_cons, conc_ref (z := (o' : Int)) (by omega), Int.toNat_natCast]
  have he : (wsOf w n C)[o']? = some (wb w + o', .inl (w.2.2.1 2, N, .inl (fun j => I32 (C (o' : Int) (j : Int))))) := by rw [wsOf_get hon, cell_i (t := 2) hsh (by decide)]
  have ri : r32 i := rs.hd.1 rfl
  refine va_zald cx.1 cx.2.1 cx.2.2.2.2.2.1.1 wr.1 o' 2 he rfl (in_I h0 h1 ri) hd ?_
  rw [clamp_I h0 ri, show ((i.toNat : Nat) : Int) = i by omega]
  exact k r hr w p e R s m args below meth c H locs ls Qf cx ro rt wr vs lr (RgL.cons (rg0 (wr.2.2.2 _ _).1) rs.tl.tl) hsz
theorem j_iast {N : Nat} {o i z : Int} (hd : decode M.cc pc = .ok (.iastore, 1)) (hs : OB n o 20 N) (h0 : 0 ≤ i) (h1 : i < (N : Int)) (k : J l M K X (pc + 1) L S n (upd2 C o i z) q) : J l M K X pc L ((0, z) :: (0, i) :: (2, o) :: S) n C q := by
  intro r hr w p e R s m args below meth c H locs ls Qf cx ro rt wr vs lr rs hsz
  obtain ⟨o', rfl, hon, hsh⟩ := hs.nat
  rw [List.map_cons, List.map_cons, List.map_cons, conc_ref (z := (o' : Int)) (by omega), Int.toNat_natCast]
  have he : (wsOf w n C)[o']? = some (wb w + o', .inl (w.2.2.1 0, N, .inl (fun j => I32 (C (o' : Int) (j : Int))))) := by rw [wsOf_get hon, cell_i (t := 0) hsh (by decide)]
  have ri : r32 i := rs.tl.hd.1 rfl
  have rz : r32 z := rs.hd.1 rfl
  have hset : (wsOf w n C).set o' (wb w + o', .inl (w.2.2.1 0, N, .inl (upd (fun j => I32 (C (o' : Int) (j : Int))) (I32 i).toNatClampNeg (I32 z)))) = wsOf w n (upd2 C (o' : Int) i z) := by
    refine wsOf_set hon ?_ (fun a ha => upd2_ne ha)
    rw [cell_i (t := 0) hsh (by decide), clamp_I h0 ri]
    congr 4
    funext j
    unfold upd2 upd
    by_cases hj : j = i.toNat
    · subst hj
      rw [if_pos rfl, if_pos ⟨rfl, by omega⟩]
    · rw [if_neg hj, if_neg (by omega)]
  have hb21 : (sh (o' : Int).toNat).1 = 21 → -128 ≤ z ∧ z ≤ 127 := by
    intro e1
    rw [Int.toNat_natCast, hsh] at e1
    exact absurd e1 (show ¬ 20 = 21 by decide)
  refine va_iast (x := I32 z) cx.1 cx.2.1 cx.2.2.2.2.2.1.1 wr.1 (wsOf_D w n C) vs o' 0 he rfl (in_I h0 h1 ri) hd fun H1 locs1 hP1 _ hS1 => ?_
  rw [hset] at hP1
  refine W.withT fun hle => ?_
  exact k r hr w p e R s m args below meth c H1 locs1 ls Qf cx ro rt (WRel.mk' hP1 (by omega) hle hsz hS1 cx.2.2.2.2.2.2.2.1 cx.2.2.2.2.2.2.1 (wr.2.2.2.upd rz hb21)) hS1 lr rs.tl.tl.tl hsz
theorem j_bast {N : Nat} {o i z : Int} (hd : decode M.cc pc = .ok (.bastore, 1)) (hs : OB n o 21 N) (h0 : 0 ≤ i) (h1 : i < (N : Int)) (hz : -128 ≤ z ∧ z ≤ 127) (k : J l M K X (pc + 1) L S n (upd2 C o i z) q) : J l M K X pc L ((0, z) :: (0, i) :: (2, o) :: S) n C q := by
  intro r hr w p e R s m args below meth c H locs ls Qf cx ro rt wr vs lr rs hsz
  obtain ⟨o', rfl, hon, hsh⟩ := hs.nat
  rw [List.map_cons, List.map_cons, List.map_cons, conc_ref (z := (o' : Int)) (by omega), Int.toNat_natCast]
  have he : (wsOf w n C)[o']? = some (wb w + o', .inl (w.2.2.1 1, N, .inl (fun j => I32 (C (o' : Int) (j : Int))))) := by rw [wsOf_get hon, cell_i (t := 1) hsh (by decide)]
  have ri : r32 i := rs.tl.hd.1 rfl
  have rz : r32 z := rs.hd.1 rfl
  have hset : (wsOf w n C).set o' (wb w + o', .inl (w.2.2.1 1, N, .inl (upd (fun j => I32 (C (o' : Int) (j : Int))) (I32 i).toNatClampNeg (vp_nar .byte (I32 z))))) = wsOf w n (upd2 C (o' : Int) i z) := by
    refine wsOf_set hon ?_ (fun a ha => upd2_ne ha)
    rw [cell_i (t := 1) hsh (by decide), clamp_I h0 ri]
    congr 4
    funext j
    unfold upd2 upd
    by_cases hj : j = i.toNat
    · subst hj
      rw [if_pos rfl, if_pos ⟨rfl, by omega⟩, nar_byte hz]
    · rw [if_neg hj, if_neg (by omega)]
  have hb21 : (sh (o' : Int).toNat).1 = 21 → -128 ≤ z ∧ z ≤ 127 := by
    intro e1
    exact hz
  refine va_bast (x := I32 z) cx.1 cx.2.1 cx.2.2.2.2.2.1.1 wr.1 (wsOf_D w n C) vs o' 1 he rfl (in_I h0 h1 ri) hd fun H1 locs1 hP1 _ hS1 => ?_
  rw [hset] at hP1
  refine W.withT fun hle => ?_
  exact k r hr w p e R s m args below meth c H1 locs1 ls Qf cx ro rt (WRel.mk' hP1 (by omega) hle hsz hS1 cx.2.2.2.2.2.2.2.1 cx.2.2.2.2.2.2.1 (wr.2.2.2.upd rz hb21)) hS1 lr rs.tl.tl.tl hsz
theorem j_zast {N : Nat} {o i z : Int} (hd : decode M.cc pc = .ok (.bastore, 1)) (hs : OB n o 22 N) (h0 : 0 ≤ i) (h1 : i < (N : Int)) (hz : z = 0 ∨ z = 1) (k : J l M K X (pc + 1) L S n (upd2 C o i z) q) : J l M K X pc L ((0, z) :: (0, i) :: (2, o) :: S) n C q := by
  intro r hr w p e R s m args below meth c H locs ls Qf cx ro rt wr vs lr rs hsz
  obtain ⟨o', rfl, hon, hsh⟩ := hs.nat
  rw [List.map_cons, List.map_cons, List.map_cons, conc_ref (z := (o' : Int)) (by omega), Int.toNat_natCast]
  have he : (wsOf w n C)[o']? = some (wb w + o', .inl (w.2.2.1 2, N, .inl (fun j => I32 (C (o' : Int) (j : Int))))) := by rw [wsOf_get hon, cell_i (t := 2) hsh (by decide)]
  have ri : r32 i := rs.tl.hd.1 rfl
  have rz : r32 z := rs.hd.1 rfl
  have hset : (wsOf w n C).set o' (wb w + o', .inl (w.2.2.1 2, N, .inl (upd (fun j => I32 (C (o' : Int) (j : Int))) (I32 i).toNatClampNeg (vp_nar .boolean (I32 z))))) = wsOf w n (upd2 C (o' : Int) i z) := by
    refine wsOf_set hon ?_ (fun a ha => upd2_ne ha)
    rw [cell_i (t := 2) hsh (by decide), clamp_I h0 ri]
    congr 4
    funext j
    unfold upd2 upd
    by_cases hj : j = i.toNat
    · subst hj
      rw [if_pos rfl, if_pos ⟨rfl, by omega⟩, nar_bool hz]
    · rw [if_neg hj, if_neg (by omega)]
  have hb21 : (sh (o' : Int).toNat).1 = 21 → -128 ≤ z ∧ z ≤ 127 := by
    intro e1
    rw [Int.toNat_natCast, hsh] at e1
    exact absurd e1 (show ¬ 22 = 21 by decide)
  refine va_zast (x := I32 z) cx.1 cx.2.1 cx.2.2.2.2.2.1.1 wr.1 (wsOf_D w n C) vs o' 2 he rfl (in_I h0 h1 ri) hd fun H1 locs1 hP1 _ hS1 => ?_
  rw [hset] at hP1
  refine W.withT fun hle => ?_
  exact k r hr w p e R s m args below meth c H1 locs1 ls Qf cx ro rt (WRel.mk' hP1 (by omega) hle hsz hS1 cx.2.2.2.2.2.2.2.1 cx.2.2.2.2.2.2.1 (wr.2.2.2.upd rz hb21)) hS1 lr rs.tl.tl.tl hsz
theorem j_aald {t N : Nat} {o i : Int} (hd : decode M.cc pc = .ok (.aaload, 1)) (hs : OB n o (23 + t) N) (ht : t < 4) (h0 : 0 ≤ i) (h1 : i < (N : Int)) (k : J l M K X (pc + 1) L ((2, C o i) :: S) n C q) : J l M K X pc L ((0, i) :: (2, o) :: S) n C q := by
  intro r hr w p e R s m args below meth c H locs ls Qf cx ro rt wr vs lr rs hsz
  obtain ⟨o', rfl, hon, hsh⟩ := hs.nat
  rw [List.map_cons, List.map_cons, conc_ref (z := (o' : Int)) (by omega), Int.toNat_natCast]
  have he : (wsOf w n C)[o']? = some (wb w + o', .inl (w.2.2.1 (3 + t), N, .inr (.inr (.inr (.inr (fun j => rfo w (C (o' : Int) (j : Int)))))))) := by rw [wsOf_get hon, cell_r (t := t) hsh]
  have ri : r32 i := rs.hd.1 rfl
  obtain ⟨Cn, hty⟩ : ∃ Cn : String, (tysOf w)[3 + t]? = some (w.2.2.1 (3 + t), .object Cn) := by
    match t, ht with
    | 0, _ => exact ⟨_, rfl⟩
    | 1, _ => exact ⟨_, rfl⟩
    | 2, _ => exact ⟨_, rfl⟩
    | 3, _ => exact ⟨_, rfl⟩
  refine va_aldq cx.1 cx.2.1 cx.2.2.2.2.2.1.1 wr.1 o' (3 + t) he hty (in_I h0 h1 ri) hd ?_
  rw [clamp_I h0 ri, show ((i.toNat : Nat) : Int) = i by omega, rf_conc]
  exact k r hr w p e R s m args below meth c H locs ls Qf cx ro rt wr vs lr (RgL.cons rg2 rs.tl.tl) hsz
theorem j_aast {t ci N N2 : Nat} {o i z : Int} {Cn : String} {T : u_T} {N3 : Nat} (hd : decode M.cc pc = .ok (.aastore, 1)) (hs : OB n o (23 + t) N) (hcl : ClsOK ci Cn T N3) (hty : ∀ w : WP, (tysOf w)[3 + t]? = some (w.2.2.1 (3 + t), .object Cn)) (hz : OB n z ci N2) (hz32 : r32 z) (h0 : 0 ≤ i) (h1 : i < (N : Int)) (k : J l M K X (pc + 1) L S n (upd2 C o i z) q) : J l M K X pc L ((2, z) :: (0, i) :: (2, o) :: S) n C q := by
  intro r hr w p e R s m args below meth c H locs ls Qf cx ro rt wr vs lr rs hsz
  obtain ⟨o', rfl, hon, hsh⟩ := hs.nat
  obtain ⟨z', rfl, hzn, hzsh⟩ := hz.nat
  rw [List.map_cons, List.map_cons, List.map_cons, conc_ref (z := (o' : Int)) (by omega), conc_ref (z := (z' : Int)) (by omega), Int.toNat_natCast, Int.toNat_natCast]
  have he : (wsOf w n C)[o']? = some (wb w + o', .inl (w.2.2.1 (3 + t), N, .inr (.inr (.inr (.inr (fun j => rfo w (C (o' : Int) (j : Int)))))))) := by rw [wsOf_get hon, cell_r (t := t) hsh]
  have hv : (wsOf w n C)[z']? = some (wb w + z', .inr (ci, (List.range N2).map (fun (j : Nat) => conc w (ftg ci j, C (z' : Int) (j : Int))))) := by rw [wsOf_get hzn, cell_ob hzsh hcl.2.1]
  have ri : r32 i := rs.tl.hd.1 rfl
  have hset : (wsOf w n C).set o' (wb w + o', .inl (w.2.2.1 (3 + t), N, .inr (.inr (.inr (.inr (va_up (fun j => rfo w (C (o' : Int) (j : Int))) (I32 i).toNatClampNeg (some (wb w + z')))))))) = wsOf w n (upd2 C (o' : Int) i (z' : Int)) := by
    refine wsOf_set hon ?_ (fun a ha => upd2_ne ha)
    rw [cell_r (t := t) hsh, clamp_I h0 ri]
    congr 7
    funext j
    unfold upd2 va_up
    by_cases hj : j = i.toNat
    · subst hj
      rw [if_pos rfl, if_pos ⟨rfl, by omega⟩]
      unfold rfo
      rw [if_neg (by omega), Int.toNat_natCast]
    · rw [if_neg hj, if_neg (by omega)]
  have hb21 : (sh (o' : Int).toNat).1 = 21 → -128 ≤ (z' : Int) ∧ (z' : Int) ≤ 127 := by
    intro e1
    rw [Int.toNat_natCast, hsh] at e1
    dsimp only at e1
    omega
  refine va_astq cx.1 cx.2.1 cx.2.2.2.2.2.1.1 wr.1 (wsOf_D w n C) vs o' (3 + t) z' ci he (hty w) hv hcl.1 (in_I h0 h1 ri) hd fun H1 locs1 hP1 _ hS1 => ?_
  rw [hset] at hP1
  refine W.withT fun hle => ?_
  exact k r hr w p e R s m args below meth c H1 locs1 ls Qf cx ro rt (WRel.mk' hP1 (by omega) hle hsz hS1 cx.2.2.2.2.2.2.2.1 cx.2.2.2.2.2.2.1 (wr.2.2.2.upd hz32 hb21)) hS1 lr rs.tl.tl.tl hsz
theorem j_alen {t N : Nat} {o : Int} (hd : decode M.cc pc = .ok (.arraylength, 1)) (hs : OB n o (20 + t) N) (ht : t < 3) (hN : r32 (N : Int)) (k : J l M K X (pc + 1) L ((0, (N : Int)) :: S) n C q) : J l M K X pc L ((2, o) :: S) n C q := by
  intro r hr w p e R s m args below meth c H locs ls Qf cx ro rt wr vs lr rs hsz
  obtain ⟨o', rfl, hon, hsh⟩ := hs.nat
  rw [List.map_cons, conc_ref (z := (o' : Int)) (by omega), Int.toNat_natCast]
  have he : (wsOf w n C)[o']? = some (wb w + o', .inl (w.2.2.1 t, N, .inl (fun j => I32 (C (o' : Int) (j : Int))))) := by rw [wsOf_get hon, cell_i (t := t) hsh ht]
  obtain ⟨ty, hty⟩ : ∃ ty : FieldType, (tysOf w)[t]? = some (w.2.2.1 t, ty) := by
    match t, ht with
    | 0, _ => exact ⟨_, rfl⟩
    | 1, _ => exact ⟨_, rfl⟩
    | 2, _ => exact ⟨_, rfl⟩
  refine va_alen cx.1 cx.2.1 cx.2.2.2.2.2.1.1 wr.1 o' t he hty (v := I32 (N : Int)) (Int32.ofInt_eq_ofNat).symm hd ?_
  exact k r hr w p e R s m args below meth c H locs ls Qf cx ro rt wr vs lr (RgL.cons (rg0 hN) rs.tl) hsz
theorem new_addr {w : WP} {n a : Nat} {x : va_E} {C : Hp} {H1 : Heap} (hP : va_P w.2.1 vwCl (wsOf w n C ++ [(a, x)]) H1) (hD : va_D (aw w) (wsOf w n C ++ [(a, x)])) (hs : H1.size ≤ wb w + n + 1) : a = wb w + n := by
  have g : (wsOf w n C ++ [(a, x)])[n]? = some (a, x) := by
    rw [List.getElem?_append_right (by rw [wsOf_len]; exact Nat.le_refl _), wsOf_len, Nat.sub_self]
    rfl
  have h1 : wb w ≤ a := hD.2 n _ g
  have h2 : a < H1.size := (hP n _ g).lt
  by_cases h : a < wb w + n
  · have g2 : (wsOf w n C ++ [(a, x)])[a - wb w]? = some (wb w + (a - wb w), cellE w (a - wb w) (C ((a - wb w : Nat) : Int))) := by
      rw [List.getElem?_append_left (by rw [wsOf_len]; omega), wsOf_get (by omega)]
    have := hD.1 _ _ _ _ g2 g (by show wb w + (a - wb w) = a; omega)
    omega
  · omega
def newC (C : Hp) (o : Int) (d : Int → Int) : Hp := fun a j => if a = o then d j else C a j
theorem newC_ne {C : Hp} {o a : Int} {d : Int → Int} (h : a ≠ o) : newC C o d a = C a := by
  funext j
  simp [newC, h]
theorem newC_eq {C : Hp} {o : Int} {d : Int → Int} : newC C o d o = d := by
  funext j
  simp [newC]
theorem RgH.new {C : Hp} (h : RgH C) {o : Int} {d : Int → Int} (hd : ∀ j, -1 ≤ d j ∧ d j ≤ 0) : RgH (newC C o d) := by
  intro a b
  unfold newC
  split
  · have := hd b
    exact ⟨by unfold r32; omega, fun _ => by omega⟩
  · exact h a b
def dflt (ci : Nat) : Int → Int := fun j => if ftg ci j.toNat = 2 then -1 else 0
theorem dflt_r (ci : Nat) (j : Int) : -1 ≤ dflt ci j ∧ dflt ci j ≤ 0 := by
  unfold dflt
  split <;> omega
theorem j_new {idx ci N : Nat} {Cn : String} {T : u_T} (hd : decode M.cc pc = .ok (.new idx, 3)) (hcl : ClsOK ci Cn T N) (hl : Cond.classLink M.y.cls idx Cn ∈ lw_gt) (hi : Cond.instantiable Cn N ∈ lw_gt) (hini : Cond.initialized Cn ∈ lw_gt) (hdf : ∀ j, j < N → defaultValue (tyX ci j) = if ftg ci j = 2 then .null else .int 0) (hs : sh n = (ci, N)) (hq1 : q.1 + 1 ≤ M.mc) (hq2 : q.2 + N ≤ M.ms)
    (k : J l M K X (pc + 3) L ((2, (n : Int)) :: S) (n + 1) (newC C (n : Int) (dflt ci)) (q.1 + 1, q.2 + N)) : J l M K X pc L S n C q := by
  intro r hr w p e R s m args below meth c H locs ls Qf cx ro rt wr vs lr rs hsz
  refine va_new (ci := ci) (fs := (List.range N).map (fun (j : Nat) => conc w (ftg ci j, dflt ci (j : Int)))) cx.1 cx.2.1 cx.2.2.2.2.1 hcl.2.2.1 (tyX ci) hcl.2.2.2.1 cx.2.2.2.1 (cx.2.2.2.2.1 _ hl) (cx.2.2.2.2.1 _ hi) (cx.2.2.2.2.1 _ hini) cx.2.2.2.2.2.1.1 wr.1 (wsOf_D w n C) vs (fun a ha => by have := cx.2.2.2.2.2.2.1; show wb w ≤ a; omega) hcl.1 ?_ (Nat.le_trans hq1 ro.2.2.1) (Nat.le_trans hq2 ro.2.2.2) hd fun a H1 hP1 hD1 hS1 => ?_
  · intro j hj
    rw [hdf j hj]
    show _ = ((List.range N).map (fun (j : Nat) => conc w (ftg ci j, dflt ci (j : Int)))).getD j .null
    rw [List.getD_eq_getElem?_getD, List.getElem?_map, List.getElem?_range hj]
    show _ = conc w (ftg ci j, dflt ci (j : Int))
    unfold dflt
    rw [Int.toNat_natCast]
    by_cases h2 : ftg ci j = 2
    · rw [if_pos h2, if_pos h2, h2]
      rfl
    · have h0 : ftg ci j = 0 := by
        unfold ftg at h2 ⊢
        split at h2 <;> simp_all
      rw [if_neg h2, if_neg h2, h0]
      rfl
  · refine W.withT fun hle => ?_
    have ha := new_addr hP1 hD1 (by omega)
    subst ha
    have hpush : wsOf w n C ++ [(wb w + n, .inr (ci, (List.range N).map (fun (j : Nat) => conc w (ftg ci j, dflt ci (j : Int)))))] = wsOf w (n + 1) (newC C (n : Int) (dflt ci)) := by
      refine wsOf_push ?_ (fun o ho => newC_ne ho)
      rw [cell_ob hs hcl.2.1, newC_eq]
    rw [hpush] at hP1
    have h := k r hr w p e R s m args below meth c H1 locs ls Qf cx ro rt (WRel.mk' hP1 (by omega) hle (by omega) hS1 cx.2.2.2.2.2.2.2.1 cx.2.2.2.2.2.2.1 (wr.2.2.2.new (dflt_r ci))) hS1 lr (RgL.cons rg2 rs) (by show s.heap.size + (q.1 + 1) = wb w + (n + 1); omega)
    rw [List.map_cons, conc_ref (by omega), Int.toNat_natCast] at h
    exact h
theorem j_newarr {atype : ArrayType} {ty : FieldType} {t N : Nat} (hd : decode M.cc pc = .ok (.newarray atype, 2)) (harr : Cond.arrayClass (newarray.typeOf atype) ∈ lw_gt) (hty : newarray.typeOf atype = ty) (ht : t < 3) (htw : ∀ w : WP, (tysOf w)[t]? = some (w.2.2.1 t, ty)) (hdv : defaultValue ty = .int 0) (hfc : ∀ (U : State) (cA cB : ClassId), va_RA U cA ty → va_RA U cB ty → cA = cB) (hcb : componentBytes ty ≤ 8) (hN : N < 100000) (hs : sh n = (20 + t, N)) (hq1 : q.1 + 1 ≤ M.mc) (hq2 : q.2 + N ≤ M.ms)
    (k : J l M K X (pc + 2) L ((2, (n : Int)) :: S) (n + 1) (newC C (n : Int) (fun _ => 0)) (q.1 + 1, q.2 + N)) : J l M K X pc L ((0, (N : Int)) :: S) n C q := by
  intro r hr w p e R s m args below meth c H locs ls Qf cx ro rt wr vs lr rs hsz
  have rN : r32 (N : Int) := rs.hd.1 rfl
  rw [List.map_cons]
  refine va_newa (n := I32 (N : Int)) (N' := N) (a0 := (N, .inl (fun _ => I32 0))) cx.1 cx.2.1 (cx.2.2.2.2.1 _ harr) hty cx.2.2.2.2.2.1.1 wr.1 (wsOf_D w n C) vs (fun a ha => by have := cx.2.2.2.2.2.2.1; show wb w ≤ a; omega) ?_ ?_ ?_ ?_ (Nat.le_trans hq1 ro.2.2.1) (Nat.le_trans hq2 ro.2.2.2) hd fun a cA H1 hK1 hP1 hD1 hS1 => ?_
  · intro cA
    rw [hdv]
    rfl
  · rw [show ((I32 (N : Int)) < 0) = (I32 (N : Int) < I32 0) from rfl, I32_lt rN (by unfold r32; omega)]
    omega
  · rw [clamp_I (by omega) rN, Int.toNat_natCast]
  · have h1 : N * componentBytes ty ≤ N * 8 := Nat.mul_le_mul_left N hcb
    omega
  · refine W.withT fun hle => ?_
    have ha := new_addr hP1 hD1 (by omega)
    subst ha
    have hcA : cA = w.2.2.1 t := by
      have g1 := (hK1.2 (tysOf w).length (cA, ty) (by rw [List.getElem?_append_right (Nat.le_refl _), Nat.sub_self]; rfl)).2
      have g2 := (cx.2.2.2.2.2.1.1.2 t _ (htw w)).2
      exact hfc _ _ _ g1 g2
    subst hcA
    have hpush : wsOf w n C ++ [(wb w + n, .inl (w.2.2.1 t, N, .inl (fun _ => I32 0)))] = wsOf w (n + 1) (newC C (n : Int) (fun _ => 0)) := by
      refine wsOf_push ?_ (fun o ho => newC_ne ho)
      rw [cell_i (t := t) hs ht, newC_eq]
    rw [hpush] at hP1
    have h := k r hr w p e R s m args below meth c H1 locs ls Qf cx ro rt (WRel.mk' hP1 (by omega) hle (by omega) hS1 cx.2.2.2.2.2.2.2.1 cx.2.2.2.2.2.2.1 (wr.2.2.2.new (fun _ => by omega))) hS1 lr (RgL.cons rg2 rs.tl) (by show s.heap.size + (q.1 + 1) = wb w + (n + 1); omega)
    rw [List.map_cons, conc_ref (by omega), Int.toNat_natCast] at h
    exact h
theorem j_anewarr {idx t N : Nat} {Cn : String} (hd : decode M.cc pc = .ok (.anewarray idx, 3)) (hl : Cond.classLink M.y.cls idx Cn ∈ lw_gt) (hov : Cond.arrayOver (.object Cn) ∈ lw_ns) (ht : t < 4) (htw : ∀ w : WP, (tysOf w)[3 + t]? = some (w.2.2.1 (3 + t), .object Cn)) (hN : N < 100000) (hs : sh n = (23 + t, N)) (hq1 : q.1 + 1 ≤ M.mc) (hq2 : q.2 + N ≤ M.ms)
    (k : J l M K X (pc + 3) L ((2, (n : Int)) :: S) (n + 1) (newC C (n : Int) (fun _ => -1)) (q.1 + 1, q.2 + N)) : J l M K X pc L ((0, (N : Int)) :: S) n C q := by
  intro r hr w p e R s m args below meth c H locs ls Qf cx ro rt wr vs lr rs hsz
  have rN : r32 (N : Int) := rs.hd.1 rfl
  rw [List.map_cons]
  refine va_newq (n := I32 (N : Int)) (N' := N) cx.1 cx.2.1 cx.2.2.2.1 (cx.2.2.2.2.1 _ hl) ?_ cx.2.2.2.2.2.1.1 wr.1 (wsOf_D w n C) vs (fun a ha => by have := cx.2.2.2.2.2.2.1; show wb w ≤ a; omega) ?_ ?_ ?_ (Nat.le_trans hq1 ro.2.2.1) (Nat.le_trans hq2 ro.2.2.2) hd fun a cA H1 hK1 hP1 hD1 hS1 => ?_
  · have h1 := cx.2.2.2.2.2.1.2.2.2.2.2.2 _ hov
    exact h1
  · rw [show ((I32 (N : Int)) < 0) = (I32 (N : Int) < I32 0) from rfl, I32_lt rN (by unfold r32; omega)]
    omega
  · rw [clamp_I (by omega) rN, Int.toNat_natCast]
  · omega
  · refine W.withT fun hle => ?_
    have ha := new_addr hP1 hD1 (by omega)
    subst ha
    have hcA : cA = w.2.2.1 (3 + t) := by
      obtain ⟨kA, comp, -, -, -, g1⟩ := (hK1.2 (tysOf w).length (cA, .object Cn) (by rw [List.getElem?_append_right (Nat.le_refl _), Nat.sub_self]; rfl)).2
      obtain ⟨kB, comp2, -, -, -, g2⟩ := (cx.2.2.2.2.2.1.1.2 (3 + t) _ (htw w)).2
      exact Option.some.inj (g1.symm.trans g2)
    subst hcA
    have hpush : wsOf w n C ++ [(wb w + n, .inl (w.2.2.1 (3 + t), N, .inr (.inr (.inr (.inr (fun _ => none))))))] = wsOf w (n + 1) (newC C (n : Int) (fun _ => -1)) := by
      refine wsOf_push ?_ (fun o ho => newC_ne ho)
      rw [cell_r (t := t) hs, newC_eq]
      rfl
    rw [hpush] at hP1
    have h := k r hr w p e R s m args below meth c H1 locs ls Qf cx ro rt (WRel.mk' hP1 (by omega) hle (by omega) hS1 cx.2.2.2.2.2.2.2.1 cx.2.2.2.2.2.2.1 (wr.2.2.2.new (fun _ => by omega))) hS1 lr (RgL.cons rg2 rs.tl) (by show s.heap.size + (q.1 + 1) = wb w + (n + 1); omega)
    rw [List.map_cons, conc_ref (by omega), Int.toNat_natCast] at h
    exact h
theorem j_objinit {idx : Nat} {o : Int} (hd : decode M.cc pc = .ok (.invokespecial idx, 3)) (hl : Cond.methodLink M.y.cls idx Lib.objectInit ∈ lw_gt) (hi : Cond.instanceMethod Lib.objectInit ∈ lw_gt) (hc : Cond.code Lib.objectInit ⟨#[0xb1]⟩ 1 none ∈ lw_gt) (ho : 0 ≤ o) (hd1 : 1 ≤ M.d) (k : J l M K X (pc + 3) L [] n C q) : J l M K X pc L [(2, o)] n C q := by
  intro r hr w p e R s m args below meth c H locs ls Qf cx ro rt wr vs lr rs hsz
  rw [List.map_cons, conc_ref (by omega)]
  have h1 := ro.1
  have h2 := ro.2.1
  refine W.objInit cx.1 cx.2.1 cx.2.2.2.1 (cx.2.2.2.2.1 _ hl) (cx.2.2.2.2.1 _ hi) (cx.2.2.2.2.1 _ hc) rfl (by show ls.size = _; rw [lr.1]; exact cx.2.2.1.symm) rfl hd (by omega) (by show 2 * 0 + 0 + 12 ≤ _; omega) ?_
  exact k r hr w p e R s m args below meth c H locs ls Qf cx ro rt wr vs lr rs.tl hsz
end HEAP
