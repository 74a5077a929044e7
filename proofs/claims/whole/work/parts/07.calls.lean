-- calls
theorem good_in {ws : List Cond} (h : ∀ w ∈ ws, w ∈ lw_gt) : GoodIn lw_gt ws := fun w hw => ⟨h w hw, good_of_word (List.mem_filter.mp (h w hw)).2⟩
/-- a callee: its code stands in the tables, its class is ready, it takes k arguments -/
def YOK (M' : MC) (k : Nat) : Prop := Cond.code M'.y M'.cc M'.nL M'.ret ∈ lw_gt ∧ Cond.initialized M'.y.cls ∈ lw_gt ∧ (M'.y.cls ≠ "java/lang/invoke/MethodHandle" ∧ M'.y.cls ≠ "java/lang/invoke/VarHandle" ∧ (parseMethodDescriptor M'.y.desc).map (fun d => d.parameters.length) = some k)
def RmOK (M M' : MC) : Prop := M'.d + 1 ≤ M.d ∧ 8 + (M'.nL + 11) + 100 * M'.d ≤ 100 * M.d
def wt (S : List AV) : Nat := (S.map (fun v => if v.1 = 1 then 2 else 1)).sum
theorem wt_conc (w : WP) : ∀ S : List AV, ((S.map (conc w)).map fun v => v.category).sum = wt S
  | [] => rfl
  | v :: S => by
    have ih := wt_conc w S
    show (conc w v).category + ((S.map (conc w)).map fun v => v.category).sum = (if v.1 = 1 then 2 else 1) + wt S
    rw [conc_cat, ih]
theorem ts_in {M' : MC} {k : Nat} (h : YOK M' k) : ∀ x ∈ TsM M', x ∈ lw_gt := fun x hx => (List.mem_cons.mp hx).elim (fun e => e ▸ h.1) id
theorem pc_blind {w : WP} {As : List AV} {n : Nat} {C : Hp} : FrameBlind (va_Pc (As.map (conc w)) (fun U => WRel w n C U.heap ∧ KS w U)) := by
  intro a U g mk h
  exact ⟨h.1, h.2.1, KS.same (s := U) (t := U.calling g mk a) rfl h.2.2⟩
section CALLS
variable {α : Type} {l : Launch} {M : MC} {K : α → Option AV × Nat × Hp} {X : Option α} {pc n : Nat} {L S : List AV} {C : Hp} {q : Nat × Nat}
theorem call_end {p : Program} {e : Env} {R : Room} {s : State} {m : MethodId} {args : Array Value} {below : List Frame} {meth : Method} {c : Code} {H : Heap} {locs : List Loc} {ls : Array Slot} {Qf : State → Prop} {w : WP} {mc ms cells slots : Nat} {rr : Option AV × Nat × Hp} {st rest : List Value} {av : Array Value}
    (hr : va_Run p l e R s m args below meth c H locs cells slots mc ms (F0 m pc ls st) rest (QA w rr av) (aw w)) (hS : va_S (aw w) s.heap H locs)
    (kk : ∀ (H1 : Heap) (locs1 : List Loc), (∀ v, rr.1 = some v → rgV v) → WRel w rr.2.1 rr.2.2 H1 → va_S (aw w) s.heap H1 locs1 → W p l e R s m args below meth c H1 locs1 (cells + mc) (slots + ms) Qf (F0 m (pc + 3) ls ((rr.1.map (conc w)).toList ++ rest))) : W p l e R s m args below meth c H locs cells slots Qf (F0 m pc ls st) := by
  intro T hT X
  obtain ⟨v, st₀, t, T', L', h0, X', hL, e1, e2, ⟨hv, hrg, hw, hk, hF⟩, st1⟩ := hr T hT X
  cases hv
  rw [← e1] at hw
  obtain ⟨t2, a1, b1⟩ := kk T'.heap (locs ++ L') hrg hw ⟨Nat.le_trans hS.1 (by rw [e1, ← h0]; exact hF.1), fun a g1 g2 => by
      rw [e1, hF.2 a (by rw [h0]; exact Nat.lt_of_lt_of_le g1 hS.1) g2, h0]
      exact hS.2.1 a g1 g2, fun a ha => by
      rcases List.mem_append.mp ha with h | h
      · exact hS.2.2 a h
      · exact hL a h⟩ T' rfl X'
  exact ⟨t2, st1 t2 a1, b1⟩
theorem map_stk (w : WP) (As : List AV) (b : Int) (hb : 0 ≤ b) (S : List AV) : (As.reverse ++ (2, b) :: S).map (conc w) = (As.map (conc w)).reverse ++ .ref (wb w + b.toNat) :: S.map (conc w) := by
  rw [List.map_append, List.map_reverse, List.map_cons, conc_ref (by omega)]
theorem map_args (w : WP) (As : List AV) (b : Int) (hb : 0 ≤ b) : ((2, b) :: As).map (conc w) = Value.ref (wb w + b.toNat) :: As.map (conc w) := by
  rw [List.map_cons, conc_ref (by omega)]
theorem map_res (w : WP) (r : Option AV) (S : List AV) : (r.toList ++ S).map (conc w) = (r.map (conc w)).toList ++ S.map (conc w) := by
  cases r <;> simp
theorem rg_args {As : List AV} {b : Int} {S : List AV} (h : RgL (As.reverse ++ (2, b) :: S)) : RgL ((2, b) :: As) := RgL.cons rg2 (fun v hv => h v (List.mem_append_left _ (List.mem_reverse.mpr hv)))
/-- a call of an object's method -/
theorem j_callV {β : Type} {F : Option β} {Xk : β → Option α} {M' : MC} {Kc : β → Option AV × Nat × Hp} {b : Int} {As : List AV} {idx ci N N2 : Nat} {T : u_T} (hd : decode M.cc pc = .ok (.invokevirtual idx, 3)) (hY : YOK M' As.length)
    (hl : Cond.methodLink M.y.cls idx M'.y ∈ lw_gt ∨ ∃ host : String, Cond.methodLinkNest M.y.cls idx M'.y host ∈ lw_ns) (hi : Cond.instanceMethod M'.y ∈ lw_gt) (hse : Cond.selects M'.y.cls M'.y M'.y ∈ lw_gt) (hcl : ClsOK ci M'.y.cls T N2) (hob : OB n b ci N) (hR : RmOK M M') (hS8 : wt S ≤ 8) (hm1 : q.1 + M'.mc ≤ M.mc) (hm2 : q.2 + M'.ms ≤ M.ms)
    (hc : ∀ r, F = some r → Ct l M' ((2, b) :: As) n C (Kc r)) (hn : ∀ r, (Kc r).2.1 = n + M'.mc)
    (k : ∀ r, F = some r → J l M K (Xk r) (pc + 3) L ((Kc r).1.toList ++ S) (Kc r).2.1 (Kc r).2.2 (q.1 + M'.mc, q.2 + M'.ms)) : J l M K (F.bind Xk) pc L (As.reverse ++ (2, b) :: S) n C q := by
  intro r hr w p e R s m args below meth c H locs ls Qf cx ro rt wr vs lr rs hsz
  obtain ⟨r1, hF, hr1⟩ := Option.bind_eq_some_iff.mp hr
  have hb0 := hob.1
  have hM := hc r1 hF (rg_args rs) w
  rw [map_args w As b hb0] at hM
  obtain ⟨b', hbe, hbn, hbs⟩ := hob.nat
  have hp : PreV s H M'.y.cls (wb w + b.toNat) (va_Pc (Value.ref (wb w + b.toNat) :: As.map (conc w)) (fun U => WRel w n C U.heap ∧ KS w U)) (As.map (conc w)) := by
    refine ⟨?_, ?_, fun U hU hW => ⟨rfl, by rw [hU]; exact wr, cx.2.2.2.2.2.1.warm hW⟩⟩
    · have := pc_blind (w := w) (As := (2, b) :: As) (n := n) (C := C)
      rw [map_args w As b hb0] at this
      exact this
    · have he : (wsOf w n C)[b']? = some (wb w + b', .inr (ci, (List.range N).map (fun (j : Nat) => conc w (ftg ci j, C (b' : Int) (j : Int))))) := by rw [wsOf_get hbn, cell_ob hbs hcl.2.1]
      have := va_recv cx.2.2.2.2.2.1.1 wr.1 hcl.1 he
      rw [hbe, Int.toNat_natCast]
      exact this
  have hRm : (rmM M').frames + 1 ≤ R.frames ∧ 8 + (M'.nL + 11) + (rmM M').locals ≤ R.locals := by
    have h1 := ro.1
    have h2 := ro.2.1
    have h3 := hR.1
    have h4 := hR.2
    exact ⟨by show M'.d + 1 ≤ _; omega, by show 8 + (M'.nL + 11) + 100 * M'.d ≤ _; omega⟩
  have hf : q.1 + M'.mc ≤ R.cells ∧ q.2 + M'.ms ≤ R.slots := ⟨Nat.le_trans hm1 ro.2.2.1, Nat.le_trans hm2 ro.2.2.2⟩
  have fin : va_Run p l e R s m args below meth c H locs q.1 q.2 M'.mc M'.ms (F0 m pc ls ((As.reverse ++ (2, b) :: S).map (conc w))) (S.map (conc w)) (QA w (Kc r1) (Value.ref (wb w + b.toNat) :: As.map (conc w)).toArray) (aw w) := by
    rcases hl with hl | ⟨host, hl⟩
    · refine va_runV (C := M'.y.cls) (As := As.map (conc w)) ⟨cx.1, cx.2.1, cx.2.2.1, cx.2.2.2.1, cx.2.2.2.2.1⟩ hM (cwV (ws := TsM M') (ws' := lw_gt) As.length cx.2.2.2.2.1 (good_in fun x hx => ?_) rfl rfl rfl ⟨rfl, hY.2.2⟩ hRm) hp rfl (by simp) (by show ls.size = _; exact lr.1) (map_stk w As b hb0 S) (by show 2 * 0 + _ ≤ 8; rw [wt_conc]; omega) hd hf
      rcases List.mem_append.mp hx with h | h
      · simp only [List.mem_cons, List.not_mem_nil, or_false] at h
        rcases h with rfl | rfl | rfl | rfl
        · exact hl
        · exact hi
        · exact hse
        · exact hY.2.1
      · exact ts_in hY x h
    · exact va_runVN (C := M'.y.cls) (As := As.map (conc w)) ⟨cx.1, cx.2.1, cx.2.2.1, cx.2.2.2.1, cx.2.2.2.2.1⟩ hM ⟨va_cnB (ws := TsM M') (ws' := lw_gt) As.length cx.2.2.2.2.1 (good_in (ts_in hY)) rfl rfl rfl (cx.2.2.2.2.2.1.2.2.2.2.2.2 _ hl) (cx.2.2.2.2.1 _ hY.2.1) hY.2.2 hRm, cx.2.2.2.2.1 _ hi, cx.2.2.2.2.1 _ hse⟩ hp rfl (by simp) (by show ls.size = _; exact lr.1) (map_stk w As b hb0 S) (by show 2 * 0 + _ ≤ 8; rw [wt_conc]; omega) hd hf
  refine call_end fin vs fun H1 locs1 hrg hw hS1 => ?_
  rw [← map_res]
  exact k r1 hF r hr1 w p e R s m args below meth c H1 locs1 ls Qf cx ro rt hw hS1 lr (RgL.app (fun v hv => hrg v (by simpa using hv)) (fun v hv => rs v (List.mem_append_right _ (List.mem_cons_of_mem _ hv)))) (by rw [hn r1]; show s.heap.size + (q.1 + M'.mc) = _; omega)
/-- a call of a static method -/
theorem j_callS {β : Type} {F : Option β} {Xk : β → Option α} {M' : MC} {Kc : β → Option AV × Nat × Hp} {As : List AV} {idx : Nat} (hd : decode M.cc pc = .ok (.invokestatic idx, 3)) (hY : YOK M' As.length)
    (hl : Cond.methodLink M.y.cls idx M'.y ∈ lw_gt ∨ ∃ host : String, Cond.methodLinkNest M.y.cls idx M'.y host ∈ lw_ns) (hi : Cond.static M'.y ∈ lw_gt) (hR : RmOK M M') (hS8 : wt S ≤ 8) (hm1 : q.1 + M'.mc ≤ M.mc) (hm2 : q.2 + M'.ms ≤ M.ms)
    (hc : ∀ r, F = some r → Ct l M' As n C (Kc r)) (hn : ∀ r, (Kc r).2.1 = n + M'.mc)
    (k : ∀ r, F = some r → J l M K (Xk r) (pc + 3) L ((Kc r).1.toList ++ S) (Kc r).2.1 (Kc r).2.2 (q.1 + M'.mc, q.2 + M'.ms)) : J l M K (F.bind Xk) pc L (As.reverse ++ S) n C q := by
  intro r hr w p e R s m args below meth c H locs ls Qf cx ro rt wr vs lr rs hsz
  obtain ⟨r1, hF, hr1⟩ := Option.bind_eq_some_iff.mp hr
  have hM := hc r1 hF (fun v hv => rs v (List.mem_append_left _ (List.mem_reverse.mpr hv))) w
  have hp : PreS s H (va_Pc (As.map (conc w)) (fun U => WRel w n C U.heap ∧ KS w U)) (As.map (conc w)) :=
    ⟨pc_blind, fun U hU hW => ⟨rfl, by rw [hU]; exact wr, cx.2.2.2.2.2.1.warm hW⟩⟩
  have hRm : (rmM M').frames + 1 ≤ R.frames ∧ 8 + (M'.nL + 11) + (rmM M').locals ≤ R.locals := by
    have h1 := ro.1
    have h2 := ro.2.1
    have h3 := hR.1
    have h4 := hR.2
    exact ⟨by show M'.d + 1 ≤ _; omega, by show 8 + (M'.nL + 11) + 100 * M'.d ≤ _; omega⟩
  have hf : q.1 + M'.mc ≤ R.cells ∧ q.2 + M'.ms ≤ R.slots := ⟨Nat.le_trans hm1 ro.2.2.1, Nat.le_trans hm2 ro.2.2.2⟩
  have fin : va_Run p l e R s m args below meth c H locs q.1 q.2 M'.mc M'.ms (F0 m pc ls ((As.reverse ++ S).map (conc w))) (S.map (conc w)) (QA w (Kc r1) (As.map (conc w)).toArray) (aw w) := by
    rcases hl with hl | ⟨host, hl⟩
    · refine va_runS (As := As.map (conc w)) ⟨cx.1, cx.2.1, cx.2.2.1, cx.2.2.2.1, cx.2.2.2.2.1⟩ hM (va_cwS (ws := TsM M') (ws' := lw_gt) As.length cx.2.2.2.2.1 (good_in fun x hx => ?_) rfl rfl rfl hY.2.2 hRm) hp rfl (by simp) (by show ls.size = _; exact lr.1) (by rw [List.map_append, List.map_reverse]) (by show 2 * 0 + _ ≤ 8; rw [wt_conc]; omega) hd hf
      rcases List.mem_append.mp hx with h | h
      · simp only [List.mem_cons, List.not_mem_nil, or_false] at h
        rcases h with rfl | rfl | rfl
        · exact hl
        · exact hi
        · exact hY.2.1
      · exact ts_in hY x h
    · exact va_runSN (As := As.map (conc w)) ⟨cx.1, cx.2.1, cx.2.2.1, cx.2.2.2.1, cx.2.2.2.2.1⟩ hM ⟨va_cnB (ws := TsM M') (ws' := lw_gt) As.length cx.2.2.2.2.1 (good_in (ts_in hY)) rfl rfl rfl (cx.2.2.2.2.2.1.2.2.2.2.2.2 _ hl) (cx.2.2.2.2.1 _ hY.2.1) hY.2.2 hRm, cx.2.2.2.2.1 _ hi, trivial⟩ hp rfl (by simp) (by show ls.size = _; exact lr.1) (by rw [List.map_append, List.map_reverse]) (by show 2 * 0 + _ ≤ 8; rw [wt_conc]; omega) hd hf
  refine call_end fin vs fun H1 locs1 hrg hw hS1 => ?_
  rw [← map_res]
  exact k r1 hF r hr1 w p e R s m args below meth c H1 locs1 ls Qf cx ro rt hw hS1 lr (RgL.app (fun v hv => hrg v (by simpa using hv)) (fun v hv => rs v (List.mem_append_right _ hv))) (by rw [hn r1]; show s.heap.size + (q.1 + M'.mc) = _; omega)
/-- a call of a constructor -/
theorem j_callI {β : Type} {F : Option β} {Xk : β → Option α} {M' : MC} {Kc : β → Option AV × Nat × Hp} {b : Int} {As : List AV} {idx : Nat} (hd : decode M.cc pc = .ok (.invokespecial idx, 3)) (hY : YOK M' As.length)
    (hl : Cond.methodLink M.y.cls idx M'.y ∈ lw_gt ∨ ∃ host : String, Cond.methodLinkNest M.y.cls idx M'.y host ∈ lw_ns) (hi : Cond.instanceMethod M'.y ∈ lw_gt) (hy1 : M'.y.name = "<init>") (hret : M'.ret = none) (hb0 : 0 ≤ b) (hR : RmOK M M') (hS8 : wt S ≤ 8) (hm1 : q.1 + M'.mc ≤ M.mc) (hm2 : q.2 + M'.ms ≤ M.ms)
    (hc : ∀ r, F = some r → Ct l M' ((2, b) :: As) n C (Kc r)) (hn : ∀ r, (Kc r).2.1 = n + M'.mc)
    (k : ∀ r, F = some r → J l M K (Xk r) (pc + 3) L ((Kc r).1.toList ++ S) (Kc r).2.1 (Kc r).2.2 (q.1 + M'.mc, q.2 + M'.ms)) : J l M K (F.bind Xk) pc L (As.reverse ++ (2, b) :: S) n C q := by
  intro r hr w p e R s m args below meth c H locs ls Qf cx ro rt wr vs lr rs hsz
  obtain ⟨r1, hF, hr1⟩ := Option.bind_eq_some_iff.mp hr
  have hM := hc r1 hF (rg_args rs) w
  rw [map_args w As b hb0] at hM
  have hws : TsM M' = Cond.code M'.y M'.cc M'.nL none :: lw_gt := by unfold TsM; rw [hret]
  have hp : PreS s H (va_Pc (Value.ref (wb w + b.toNat) :: As.map (conc w)) (fun U => WRel w n C U.heap ∧ KS w U)) (.ref (wb w + b.toNat) :: As.map (conc w)) := by
    refine ⟨?_, fun U hU hW => ⟨rfl, by rw [hU]; exact wr, cx.2.2.2.2.2.1.warm hW⟩⟩
    have := pc_blind (w := w) (As := (2, b) :: As) (n := n) (C := C)
    rw [map_args w As b hb0] at this
    exact this
  have hRm : (rmM M').frames + 1 ≤ R.frames ∧ 8 + (M'.nL + 11) + (rmM M').locals ≤ R.locals := by
    have h1 := ro.1
    have h2 := ro.2.1
    have h3 := hR.1
    have h4 := hR.2
    exact ⟨by show M'.d + 1 ≤ _; omega, by show 8 + (M'.nL + 11) + 100 * M'.d ≤ _; omega⟩
  have hf : q.1 + M'.mc ≤ R.cells ∧ q.2 + M'.ms ≤ R.slots := ⟨Nat.le_trans hm1 ro.2.2.1, Nat.le_trans hm2 ro.2.2.2⟩
  have fin : va_Run p l e R s m args below meth c H locs q.1 q.2 M'.mc M'.ms (F0 m pc ls ((As.reverse ++ (2, b) :: S).map (conc w))) (S.map (conc w)) (QA w (Kc r1) (Value.ref (wb w + b.toNat) :: As.map (conc w)).toArray) (aw w) := by
    rcases hl with hl | ⟨host, hl⟩
    · exact va_runI (As := As.map (conc w)) ⟨cx.1, cx.2.1, cx.2.2.1, cx.2.2.2.1, cx.2.2.2.2.1⟩ hM (cwI As.length cx.2.2.2.2.1 (good_in (ts_in hY)) hws rfl rfl (cx.2.2.2.2.1 _ hY.2.1) (cx.2.2.2.2.1 _ hl) (cx.2.2.2.2.1 _ hi) hy1 hY.2.2 hRm) hp rfl (by simp) (by show ls.size = _; exact lr.1) (map_stk w As b hb0 S) (by show 2 * 0 + _ ≤ 8; rw [wt_conc]; omega) hd hf
    · exact va_runIN (As := As.map (conc w)) ⟨cx.1, cx.2.1, cx.2.2.1, cx.2.2.2.1, cx.2.2.2.2.1⟩ hM ⟨va_cnB (ret := none) As.length cx.2.2.2.2.1 (good_in (ts_in hY)) hws rfl rfl (cx.2.2.2.2.2.1.2.2.2.2.2.2 _ hl) (cx.2.2.2.2.1 _ hY.2.1) hY.2.2 hRm, hy1, cx.2.2.2.2.1 _ hi⟩ hp rfl (by simp) (by show ls.size = _; exact lr.1) (map_stk w As b hb0 S) (by show 2 * 0 + _ ≤ 8; rw [wt_conc]; omega) hd hf
  refine call_end fin vs fun H1 locs1 hrg hw hS1 => ?_
  rw [← map_res]
  exact k r1 hF r hr1 w p e R s m args below meth c H1 locs1 ls Qf cx ro rt hw hS1 lr (RgL.app (fun v hv => hrg v (by simpa using hv)) (fun v hv => rs v (List.mem_append_right _ (List.mem_cons_of_mem _ hv)))) (by rw [hn r1]; show s.heap.size + (q.1 + M'.mc) = _; omega)
end CALLS
