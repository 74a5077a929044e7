-- by hand: texts, one row of numbers copied, which papers there are
section STRS
variable {α : Type} {l : Launch} {M : MC} {K : α → Option AV × Nat × Hp} {X : Option α} {pc n : Nat} {L S : List AV} {C : Hp} {q : Nat × Nat}
abbrev M_jcoder : MC := (yJ0_coder_7d493, cJ0_coder_7d493, 1, some .byte, 1, 0, 0)
abbrev M_jlength : MC := (yJ0_length_8abf5, cJ0_length_8abf5, 1, some .int, 2, 0, 0)
abbrev M_jisLatin1 : MC := (yJ0_isLatin1_aae02, cJ0_isLatin1_aae02, 1, some .boolean, 1, 0, 0)
abbrev M_jpcheck : MC := (yJ3_checkIndex_8e157, cJ3_checkIndex_8e157, 3, some .int, 1, 0, 0)
abbrev M_jscheck : MC := (yJ0_checkIndex_df160, cJ0_checkIndex_df160, 2, none, 2, 0, 0)
abbrev M_jlchar : MC := (yJ1_charAt_3b067, cJ1_charAt_3b067, 2, some .char, 3, 0, 0)
abbrev M_jchar : MC := (yJ0_charAt_5068e, cJ0_charAt_5068e, 2, some .char, 4, 0, 0)
theorem old_lt {w : WP} {s : State} (h : ∀ q : Nat, q < wb w → s.heap[q]? = w.1[q]?) : ∀ a : Nat, a < w.1.size → ¬ aw w a → s.heap[a]? = w.1[a]? := fun a ha _ => h a ha
/-- fields of a text, the class's static, the formatter -/
theorem j_scoder {i : Nat} (hi : i < 11) (hd : decode M.cc pc = .ok (.getfield 15, 3)) (hl : Cond.fieldLink M.y.cls 15 "java/lang/String" "coder" "B" ∈ lw_gt) (k : J l M K X (pc + 3) L ((0, 0) :: S) n C q) : J l M K X pc L ((3, (i : Int)) :: S) n C q := by
  intro r hr w p e R s m args below meth c H locs ls Qf cx ro rt wr vs lr rs hsz
  have h5 := (cx.2.2.2.2.2.1.2.2.2.2.2.1.kept (old_lt cx.2.2.2.2.2.2.2.1)).1 i hi
  exact vk_getf cx.1 cx.2.1 h5.2.1 vs cx.2.2.2.1 (cx.2.2.2.2.1 _ hl) (fun _ h9 => h9) hd (k r hr w p e R s m args below meth c H locs ls Qf cx ro rt wr vs lr (RgL.cons (rg0 (by unfold r32; omega)) rs.tl) hsz)
theorem j_svalue {i : Nat} (hi : i < 11) (hd : decode M.cc pc = .ok (.getfield 9, 3)) (hl : Cond.fieldLink M.y.cls 9 "java/lang/String" "value" "[B" ∈ lw_gt) (k : J l M K X (pc + 3) L ((3, ((40 + i : Nat) : Int)) :: S) n C q) : J l M K X pc L ((3, (i : Int)) :: S) n C q := by
  intro r hr w p e R s m args below meth c H locs ls Qf cx ro rt wr vs lr rs hsz
  have h5 := (cx.2.2.2.2.2.1.2.2.2.2.2.1.kept (old_lt cx.2.2.2.2.2.2.2.1)).1 i hi
  exact vk_getf cx.1 cx.2.1 h5.2.2.1 vs cx.2.2.2.1 (cx.2.2.2.2.1 _ hl) (fun _ h9 => h9) hd (k r hr w p e R s m args below meth c H locs ls Qf cx ro rt wr vs lr (RgL.cons rg3 rs.tl) hsz)
theorem slz_r {i : Nat} (hi : i < 11) : 0 ≤ slz i ∧ slz i ≤ 6 := by
  have : ∀ i, i < 11 → slen.getD i 0 ≤ 6 := by decide +kernel
  have h := this i hi
  unfold slz
  omega
theorem j_svlen {i : Nat} (hi : i < 11) (hd : decode M.cc pc = .ok (.arraylength, 1)) (k : J l M K X (pc + 1) L ((0, slz i) :: S) n C q) : J l M K X pc L ((3, ((40 + i : Nat) : Int)) :: S) n C q := by
  intro r hr w p e R s m args below meth c H locs ls Qf cx ro rt wr vs lr rs hsz
  have h5 := (cx.2.2.2.2.2.1.2.2.2.2.2.1.kept (old_lt cx.2.2.2.2.2.2.2.1)).1 i hi
  have hb := slz_r hi
  exact va_tlen cx.1 cx.2.1 h5.2.2.2 vs (v := I32 (slz i)) (Int32.ofInt_eq_ofNat).symm hd (k r hr w p e R s m args below meth c H locs ls Qf cx ro rt wr vs lr (RgL.cons (rg0 (by unfold r32; omega)) rs.tl) hsz)
theorem schz_r {i : Nat} {j : Int} (hi : i < 11) (h0 : 0 ≤ j) (h1 : j < slz i) : 0 ≤ schz i j ∧ schz i j < 128 := (sb_ok i hi j.toNat (by unfold slz at h1; omega)).2
theorem j_svld {i : Nat} {j : Int} (hi : i < 11) (hd : decode M.cc pc = .ok (.baload, 1)) (h0 : 0 ≤ j) (h1 : j < slz i) (k : J l M K X (pc + 1) L ((0, schz i j) :: S) n C q) : J l M K X pc L ((0, j) :: (3, ((40 + i : Nat) : Int)) :: S) n C q := by
  intro r hr w p e R s m args below meth c H locs ls Qf cx ro rt wr vs lr rs hsz
  have h5 := (cx.2.2.2.2.2.1.2.2.2.2.2.1.kept (old_lt cx.2.2.2.2.2.2.2.1)).1 i hi
  have rj : r32 j := rs.hd.1 rfl
  have hb := schz_r hi h0 h1
  have hj : j < ((slen.getD i 0 : Nat) : Int) := h1
  refine va_tb cx.1 cx.2.1 h5.2.2.2 vs (in_I h0 hj rj) (v := conc w (0, schz i j)) ?_ hd (k r hr w p e R s m args below meth c H locs ls Qf cx ro rt wr vs lr (RgL.cons (rg0 (by unfold r32; omega)) rs.tl.tl) hsz)
  rw [clamp_I h0 rj, (sb_ok i hi j.toNat (by omega)).1]
  rfl
theorem j_scompact (hd : decode M.cc pc = .ok (.getstatic 38, 3)) (hl : Cond.fieldLink M.y.cls 38 "java/lang/String" "COMPACT_STRINGS" "Z" ∈ lw_gt) (k : J l M K X (pc + 3) L ((0, 1) :: S) n C q) : J l M K X pc L S n C q := by
  intro r hr w p e R s m args below meth c H locs ls Qf cx ro rt wr vs lr rs hsz
  exact va_gets cx.1 cx.2.1 (cx.2.2.2.2.2.1.2.2.1.kept (old_lt cx.2.2.2.2.2.2.2.1)) vs cx.2.2.2.1 (cx.2.2.2.2.1 _ hl) (fun _ h9 => h9) hd (k r hr w p e R s m args below meth c H locs ls Qf cx ro rt wr vs lr (RgL.cons (rg0 (by unfold r32; omega)) rs) hsz)
theorem j_sform (hd : decode M.cc pc = .ok (.getstatic 1053, 3)) (hl : Cond.fieldLink M.y.cls 1053 "jdk/internal/util/Preconditions" "SIOOBE_FORMATTER" "Ljava/util/function/BiFunction;" ∈ lw_gt) (k : J l M K X (pc + 3) L ((3, ((60 : Nat) : Int)) :: S) n C q) (k2 : J l M K X (pc + 3) L ((2, -1) :: S) n C q) : J l M K X pc L S n C q := by
  intro r hr w p e R s m args below meth c H locs ls Qf cx ro rt wr vs lr rs hsz
  rcases cx.2.2.2.2.2.1.2.2.2.1 with h | h
  · have h9 := k2 r hr w p e R s m args below meth c H locs ls Qf cx ro rt wr vs lr (RgL.cons rg2 rs) hsz
    rw [List.map_cons, conc_null (by decide)] at h9
    exact va_gets cx.1 cx.2.1 (h.kept (old_lt cx.2.2.2.2.2.2.2.1)) vs cx.2.2.2.1 (cx.2.2.2.2.1 _ hl) (fun _ h9 => h9) hd h9
  · exact va_gets cx.1 cx.2.1 (h.kept (old_lt cx.2.2.2.2.2.2.2.1)) vs cx.2.2.2.1 (cx.2.2.2.2.1 _ hl) (fun _ h9 => h9) hd (k r hr w p e R s m args below meth c H locs ls Qf cx ro rt wr vs lr (RgL.cons rg3 rs) hsz)
theorem j_i2c {a : Int} (hd : decode M.cc pc = .ok (.i2c, 1)) (h0 : 0 ≤ a) (h1 : a < 128) (k : J l M K X (pc + 1) L ((0, a) :: S) n C q) : J l M K X pc L ((0, a) :: S) n C q := by
  intro r hr w p e R s m args below meth c H locs ls Qf cx ro rt wr vs lr rs hsz
  exact lv_i2c cx.1 cx.2.1 (v := I32 a) hd (chr_fin h0 h1).2.1 (k r hr w p e R s m args below meth c H locs ls Qf cx ro rt wr vs lr rs hsz)
theorem j_treturn {r0 : α} {z : Int} {ty : FieldType} (hd : decode M.cc pc = .ok (.ireturn, 1)) (hr0 : M.ret = some ty) (hn : narrow ty (.int (I32 z)) = .int (I32 z)) (hK : K r0 = (some (0, z), n, C)) (h1 : q.1 ≤ M.mc) (h2 : q.2 ≤ M.ms) : J l M K (some r0) pc L [(0, z)] n C q := by
  intro r hr w p e R s m args below meth c H locs ls Qf cx ro rt wr vs lr rs hsz
  cases hr
  have h := rt H locs q.1 q.2 pc ls .ireturn (by rw [hK]; exact wr) vs h1 h2 (by rw [hK]; intro v hv; cases hv; exact rs.hd) (by rw [hK, hr0]; exact Or.inr (Or.inl ⟨ty, z, rfl, rfl, rfl, hn⟩)) hd
  rw [hK] at h
  exact h
/-- a text's own methods -/
theorem j_callT {β : Type} {F : Option β} {Xk : β → Option α} {M' : MC} {Kc : β → Option AV × Nat × Hp} {i : Nat} {As : List AV} {idx : Nat} (hi0 : i < 11) (hd : decode M.cc pc = .ok (.invokevirtual idx, 3)) (hY : YOK M' As.length) (hcl : M'.y.cls = "java/lang/String")
    (hl : Cond.methodLink M.y.cls idx M'.y ∈ lw_gt) (hi : Cond.instanceMethod M'.y ∈ lw_gt) (hse : Cond.selects M'.y.cls M'.y M'.y ∈ lw_gt) (hR : RmOK M M') (hS8 : wt S ≤ 8) (hm1 : M'.mc = 0) (hm2 : M'.ms = 0) (hq1 : q.1 ≤ M.mc) (hq2 : q.2 ≤ M.ms)
    (hc : ∀ r, F = some r → Ct l M' ((3, (i : Int)) :: As) n C (Kc r)) (hn : ∀ r, (Kc r).2.1 = n)
    (k : ∀ r, F = some r → J l M K (Xk r) (pc + 3) L ((Kc r).1.toList ++ S) (Kc r).2.1 (Kc r).2.2 q) : J l M K (F.bind Xk) pc L (As.reverse ++ (3, (i : Int)) :: S) n C q := by
  intro r hr w p e R s m args below meth c H locs ls Qf cx ro rt wr vs lr rs hsz
  obtain ⟨r1, hF, hr1⟩ := Option.bind_eq_some_iff.mp hr
  have hM := hc r1 hF (RgL.cons rg3 (fun v hv => rs v (List.mem_append_left _ (List.mem_reverse.mpr hv)))) w
  have h5 := cx.2.2.2.2.2.1.2.2.2.2.2.1.kept (old_lt cx.2.2.2.2.2.2.2.1)
  have hp : PreV s H M'.y.cls (w.2.2.2 i) (va_Pc (((3, (i : Int)) :: As).map (conc w)) (fun U => WRel w n C U.heap ∧ KS w U)) (As.map (conc w)) := by
    refine ⟨pc_blind, ?_, fun U hU hW => ⟨rfl, by rw [hU]; exact wr, cx.2.2.2.2.2.1.warm hW⟩⟩
    rw [hcl]
    exact vk_recv h5 hi0 vs
  have hRm : (rmM M').frames + 1 ≤ R.frames ∧ 8 + (M'.nL + 11) + (rmM M').locals ≤ R.locals := by
    have h1 := ro.1
    have h2 := ro.2.1
    have h3 := hR.1
    have h4 := hR.2
    exact ⟨by show M'.d + 1 ≤ _; omega, by show 8 + (M'.nL + 11) + 100 * M'.d ≤ _; omega⟩
  have hf : q.1 + M'.mc ≤ R.cells ∧ q.2 + M'.ms ≤ R.slots := ⟨by rw [hm1]; exact Nat.le_trans hq1 ro.2.2.1, by rw [hm2]; exact Nat.le_trans hq2 ro.2.2.2⟩
  have e0 : (As.reverse ++ (3, (i : Int)) :: S).map (conc w) = (As.map (conc w)).reverse ++ .ref (w.2.2.2 i) :: S.map (conc w) := by
    rw [List.map_append, List.map_reverse]
    rfl
  have fin : va_Run p l e R s m args below meth c H locs q.1 q.2 M'.mc M'.ms (F0 m pc ls ((As.reverse ++ (3, (i : Int)) :: S).map (conc w))) (S.map (conc w)) (QA w (Kc r1) (Value.ref (w.2.2.2 i) :: As.map (conc w)).toArray) (aw w) := by
    refine va_runV (C := M'.y.cls) (As := As.map (conc w)) ⟨cx.1, cx.2.1, cx.2.2.1, cx.2.2.2.1, cx.2.2.2.2.1⟩ hM (cwV (ws := TsM M') (ws' := lw_gt) As.length cx.2.2.2.2.1 (good_in fun x hx => ?_) rfl rfl rfl ⟨rfl, hY.2.2⟩ hRm) hp rfl (by simp) (by show ls.size = _; exact lr.1) e0 (by show 2 * 0 + _ ≤ 8; rw [wt_conc]; omega) hd hf
    rcases List.mem_append.mp hx with h | h
    · simp only [List.mem_cons, List.not_mem_nil, or_false] at h
      rcases h with rfl | rfl | rfl | rfl
      · exact hl
      · exact hi
      · exact hse
      · exact hY.2.1
    · exact ts_in hY x h
  refine call_end fin vs fun H1 locs1 hrg hw hS1 => ?_
  rw [← map_res, hm1, hm2]
  exact k r1 hF r hr1 w p e R s m args below meth c H1 locs1 ls Qf cx ro rt hw hS1 lr (RgL.app (fun v hv => hrg v (by simpa using hv)) (fun v hv => rs v (List.mem_append_right _ (List.mem_cons_of_mem _ hv)))) (by rw [hn r1]; exact hsz)
end STRS
theorem jy_coder : YOK M_jcoder 0 := ⟨(gt_in 635 (by decide +kernel) (by decide +kernel)), (gt_in 152 (by decide +kernel) (by decide +kernel)), by decide +kernel⟩
theorem ji_coder : Cond.instanceMethod M_jcoder.y ∈ lw_gt := (gt_in 633 (by decide +kernel) (by decide +kernel))
theorem js_coder : Cond.selects M_jcoder.y.cls M_jcoder.y M_jcoder.y ∈ lw_gt := (gt_in 634 (by decide +kernel) (by decide +kernel))
theorem jy_isLatin1 : YOK M_jisLatin1 0 := ⟨(gt_in 645 (by decide +kernel) (by decide +kernel)), (gt_in 152 (by decide +kernel) (by decide +kernel)), by decide +kernel⟩
theorem ji_isLatin1 : Cond.instanceMethod M_jisLatin1.y ∈ lw_gt := (gt_in 643 (by decide +kernel) (by decide +kernel))
theorem js_isLatin1 : Cond.selects M_jisLatin1.y.cls M_jisLatin1.y M_jisLatin1.y ∈ lw_gt := (gt_in 644 (by decide +kernel) (by decide +kernel))
theorem jy_length : YOK M_jlength 0 := ⟨(gt_in 631 (by decide +kernel) (by decide +kernel)), (gt_in 152 (by decide +kernel) (by decide +kernel)), by decide +kernel⟩
theorem ji_length : Cond.instanceMethod M_jlength.y ∈ lw_gt := (gt_in 629 (by decide +kernel) (by decide +kernel))
theorem js_length : Cond.selects M_jlength.y.cls M_jlength.y M_jlength.y ∈ lw_gt := (gt_in 630 (by decide +kernel) (by decide +kernel))
theorem jy_char : YOK M_jchar 1 := ⟨(gt_in 641 (by decide +kernel) (by decide +kernel)), (gt_in 152 (by decide +kernel) (by decide +kernel)), by decide +kernel⟩
theorem ji_char : Cond.instanceMethod M_jchar.y ∈ lw_gt := (gt_in 639 (by decide +kernel) (by decide +kernel))
theorem js_char : Cond.selects M_jchar.y.cls M_jchar.y M_jchar.y ∈ lw_gt := (gt_in 640 (by decide +kernel) (by decide +kernel))
theorem jy_pcheck : YOK M_jpcheck 3 := ⟨(gt_in 656 (by decide +kernel) (by decide +kernel)), (gt_in 154 (by decide +kernel) (by decide +kernel)), by decide +kernel⟩
theorem jst_pcheck : Cond.static M_jpcheck.y ∈ lw_gt := (gt_in 655 (by decide +kernel) (by decide +kernel))
theorem jy_scheck : YOK M_jscheck 2 := ⟨(gt_in 651 (by decide +kernel) (by decide +kernel)), (gt_in 152 (by decide +kernel) (by decide +kernel)), by decide +kernel⟩
theorem jst_scheck : Cond.static M_jscheck.y ∈ lw_gt := (gt_in 650 (by decide +kernel) (by decide +kernel))
theorem jy_lchar : YOK M_jlchar 2 := ⟨(gt_in 648 (by decide +kernel) (by decide +kernel)), (gt_in 153 (by decide +kernel) (by decide +kernel)), by decide +kernel⟩
theorem jst_lchar : Cond.static M_jlchar.y ∈ lw_gt := (gt_in 647 (by decide +kernel) (by decide +kernel))
theorem jl_335 : Cond.methodLink RJ0 335 M_jcoder.y ∈ lw_gt := (gt_in 632 (by decide +kernel) (by decide +kernel))
theorem jl_492 : Cond.methodLink RJ0 492 M_jisLatin1.y ∈ lw_gt := (gt_in 642 (by decide +kernel) (by decide +kernel))
theorem jl_1059 : Cond.methodLink RJ0 1059 M_jpcheck.y ∈ lw_gt := (gt_in 654 (by decide +kernel) (by decide +kernel))
theorem jl_9 : Cond.methodLink RJ1 9 M_jscheck.y ∈ lw_gt := (gt_in 649 (by decide +kernel) (by decide +kernel))
theorem jl_495 : Cond.methodLink RJ0 495 M_jlchar.y ∈ lw_gt := (gt_in 646 (by decide +kernel) (by decide +kernel))
theorem jl_156 : Cond.methodLink RX6 156 M_jlength.y ∈ lw_gt := (gt_in 628 (by decide +kernel) (by decide +kernel))
theorem jl_165 : Cond.methodLink RX6 165 M_jchar.y ∈ lw_gt := (gt_in 638 (by decide +kernel) (by decide +kernel))
theorem jf_38 : Cond.fieldLink RJ0 38 "java/lang/String" "COMPACT_STRINGS" "Z" ∈ lw_gt := (gt_in 636 (by decide +kernel) (by decide +kernel))
theorem jf_15 : Cond.fieldLink RJ0 15 "java/lang/String" "coder" "B" ∈ lw_gt := (gt_in 1978 (by decide +kernel) (by decide +kernel))
theorem jf_9 : Cond.fieldLink RJ0 9 "java/lang/String" "value" "[B" ∈ lw_gt := (gt_in 1977 (by decide +kernel) (by decide +kernel))
theorem jf_1053 : Cond.fieldLink RJ0 1053 "jdk/internal/util/Preconditions" "SIOOBE_FORMATTER" "Ljava/util/function/BiFunction;" ∈ lw_gt := (gt_in 652 (by decide +kernel) (by decide +kernel))
theorem mm_X10_453 : Cond.methodLink RX10 453 Lib.Math.min.name ∈ lw_gt := (gt_in 755 (by decide +kernel) (by decide +kernel))
theorem jcoder_ct {l : Launch} {i : Nat} (hi : i < 11) {C : Hp} : Ct l M_jcoder [(3, (i : Int))] 224 C (KRi C 0) := by
  refine ct_of_J (by decide +kernel) rfl (Nat.le_of_ble_eq_true rfl) (K := KRi C) (X := some 0) ?_ rfl
  refine j_scompact dJ0_coder_7d493_0 jf_38 ?_
  have h : J l M_jcoder (KRi C) (if (1 : Int) = 0 then none else some 0) 3 [(3, (i : Int))] [(0, 1)] 224 C (0, 0) := by
    refine j_if_eq (tgt := 13) dJ0_coder_7d493_3 rfl (fun h => absurd h (by decide)) (fun h => ?_)
    refine j_aloadS_n dJ0_coder_7d493_6 rfl rfl ?_
    refine j_scoder hi dJ0_coder_7d493_7 jf_15 ?_
    refine j_goto (tgt := 14) dJ0_coder_7d493_10 rfl ?_
    exact j_treturn dJ0_coder_7d493_14 rfl rfl rfl (Nat.zero_le _) (Nat.zero_le _)
  rw [if_neg (by decide)] at h
  exact h
theorem jisLatin1_ct {l : Launch} {i : Nat} (hi : i < 11) {C : Hp} : Ct l M_jisLatin1 [(3, (i : Int))] 224 C (KRb C true) := by
  refine ct_of_J (by decide +kernel) rfl (Nat.le_of_ble_eq_true rfl) (K := KRb C) (X := some true) ?_ rfl
  refine j_scompact dJ0_isLatin1_aae02_0 jf_38 ?_
  have h : J l M_jisLatin1 (KRb C) (if (1 : Int) = 0 then none else (if (0 : Int) = 0 then some true else none)) 3 [(3, (i : Int))] [(0, 1)] 224 C (0, 0) := by
    refine j_if_eq (tgt := 17) dJ0_isLatin1_aae02_3 rfl (fun h => absurd h (by decide)) (fun h => ?_)
    refine j_aloadS_n dJ0_isLatin1_aae02_6 rfl rfl ?_
    refine j_scoder hi dJ0_isLatin1_aae02_7 jf_15 ?_
    refine j_if_ne (tgt := 17) dJ0_isLatin1_aae02_10 rfl (fun h => ?_) (fun h => absurd rfl h)
    refine j_iconst dJ0_isLatin1_aae02_13 r32_1 ?_
    refine j_goto (tgt := 18) dJ0_isLatin1_aae02_14 rfl ?_
    exact j_zreturn (b := true) dJ0_isLatin1_aae02_18 rfl rfl (Nat.zero_le _) (Nat.zero_le _)
  rw [if_neg (by decide), if_pos rfl] at h
  exact h
theorem jlength_ct {l : Launch} {i : Nat} (hi : i < 11) {C : Hp} : Ct l M_jlength [(3, (i : Int))] 224 C (KRi C (slz i)) := by
  refine ct_of_J (by decide +kernel) rfl (Nat.le_of_ble_eq_true rfl) (K := KRi C) (X := some (slz i)) ?_ rfl
  refine j_aloadS_n dJ0_length_8abf5_0 rfl rfl ?_
  refine j_svalue hi dJ0_length_8abf5_1 jf_9 ?_
  refine j_svlen hi dJ0_length_8abf5_4 ?_
  refine j_aloadS_n dJ0_length_8abf5_5 rfl rfl ?_
  refine j_callT (F := some ()) (Xk := fun _ => some (slz i)) (M' := M_jcoder) (As := []) (S := [(0, slz i)]) (Kc := fun _ => KRi C 0) hi dJ0_length_8abf5_6 jy_coder rfl jl_335 ji_coder js_coder ⟨by decide, by decide⟩ (Nat.le_of_ble_eq_true rfl) rfl rfl (Nat.zero_le _) (Nat.zero_le _) (fun _ _ => jcoder_ct hi) (fun _ => rfl) (fun _ _ => ?_)
  refine j_ishr (a := slz i) (b := 0) dJ0_length_8abf5_9 ?_
  have e : ishr (slz i) 0 = slz i := by
    have : ∀ i, i < 11 → ishr (slz i) 0 = slz i := by decide +kernel
    exact this i hi
  rw [e]
  exact j_ireturn dJ0_length_8abf5_10 rfl rfl (Nat.zero_le _) (Nat.zero_le _)
theorem jpcheck_ct {l : Launch} {j len : Int} (h0 : 0 ≤ j) (h1 : j < len) {C : Hp} : Ct l M_jpcheck [(0, j), (0, len), (3, ((60 : Nat) : Int))] 224 C (KRi C j) := by
  refine ct_of_J (by decide +kernel) rfl (Nat.le_of_ble_eq_true rfl) (K := KRi C) (X := some j) ?_ rfl
  refine j_iload_n dJ3_checkIndex_8e157_0 rfl rfl ?_
  have h : J l M_jpcheck (KRi C) (if j < 0 then none else (if len ≤ j then none else some j)) 1 [(0, j), (0, len), (3, ((60 : Nat) : Int))] [(0, j)] 224 C (0, 0) := by
    refine j_if_lt (tgt := 9) dJ3_checkIndex_8e157_1 rfl (fun h => absurd h (by omega)) (fun h => ?_)
    refine j_iload_n dJ3_checkIndex_8e157_4 rfl rfl ?_
    refine j_iload_n dJ3_checkIndex_8e157_5 rfl rfl ?_
    refine j_icmp_lt (tgt := 16) dJ3_checkIndex_8e157_6 rfl (fun h => absurd h (by omega)) (fun h => ?_)
    refine j_iload_n dJ3_checkIndex_8e157_16 rfl rfl ?_
    exact j_ireturn dJ3_checkIndex_8e157_17 rfl rfl (Nat.zero_le _) (Nat.zero_le _)
  rw [if_neg (by omega), if_neg (by omega)] at h
  exact h
theorem jpcheck_ct2 {l : Launch} {j len : Int} (h0 : 0 ≤ j) (h1 : j < len) {C : Hp} : Ct l M_jpcheck [(0, j), (0, len), (2, -1)] 224 C (KRi C j) := by
  refine ct_of_J (by decide +kernel) rfl (Nat.le_of_ble_eq_true rfl) (K := KRi C) (X := some j) ?_ rfl
  refine j_iload_n dJ3_checkIndex_8e157_0 rfl rfl ?_
  have h : J l M_jpcheck (KRi C) (if j < 0 then none else (if len ≤ j then none else some j)) 1 [(0, j), (0, len), (2, -1)] [(0, j)] 224 C (0, 0) := by
    refine j_if_lt (tgt := 9) dJ3_checkIndex_8e157_1 rfl (fun h => absurd h (by omega)) (fun h => ?_)
    refine j_iload_n dJ3_checkIndex_8e157_4 rfl rfl ?_
    refine j_iload_n dJ3_checkIndex_8e157_5 rfl rfl ?_
    refine j_icmp_lt (tgt := 16) dJ3_checkIndex_8e157_6 rfl (fun h => absurd h (by omega)) (fun h => ?_)
    refine j_iload_n dJ3_checkIndex_8e157_16 rfl rfl ?_
    exact j_ireturn dJ3_checkIndex_8e157_17 rfl rfl (Nat.zero_le _) (Nat.zero_le _)
  rw [if_neg (by omega), if_neg (by omega)] at h
  exact h
theorem jscheck_ct {l : Launch} {j len : Int} (h0 : 0 ≤ j) (h1 : j < len) {C : Hp} : Ct l M_jscheck [(0, j), (0, len)] 224 C (none, 224, C) := by
  refine ct_of_J (α := Unit) (by decide +kernel) rfl (Nat.le_of_ble_eq_true rfl) (K := fun _ => (none, 224, C)) (X := some ()) ?_ rfl
  refine j_iload_n dJ0_checkIndex_df160_0 rfl rfl ?_
  refine j_iload_n dJ0_checkIndex_df160_1 rfl rfl ?_
  refine j_sform dJ0_checkIndex_df160_2 jf_1053 ?_ ?_
  · refine j_cS (k := 3) (F := some ()) (Xk := fun _ => some ()) (M' := M_jpcheck) (As := [(0, j), (0, len), (3, ((60 : Nat) : Int))]) (S := []) (Kc := fun _ => KRi C j) dJ0_checkIndex_df160_5 ⟨jy_pcheck, jst_pcheck, rfl, rfl⟩ (Or.inl jl_1059) rfl rfl ⟨by decide, by decide⟩ (Nat.le_of_ble_eq_true rfl) (fun _ => rfl) (fun _ _ => jpcheck_ct h0 h1) (fun _ _ => ?_)
    refine j_pop (t := 0) (z := j) dJ0_checkIndex_df160_8 (by decide) ?_
    exact j_return dJ0_checkIndex_df160_9 rfl rfl (Nat.zero_le _) (Nat.zero_le _)
  · refine j_cS (k := 3) (F := some ()) (Xk := fun _ => some ()) (M' := M_jpcheck) (As := [(0, j), (0, len), (2, -1)]) (S := []) (Kc := fun _ => KRi C j) dJ0_checkIndex_df160_5 ⟨jy_pcheck, jst_pcheck, rfl, rfl⟩ (Or.inl jl_1059) rfl rfl ⟨by decide, by decide⟩ (Nat.le_of_ble_eq_true rfl) (fun _ => rfl) (fun _ _ => jpcheck_ct2 h0 h1) (fun _ _ => ?_)
    refine j_pop (t := 0) (z := j) dJ0_checkIndex_df160_8 (by decide) ?_
    exact j_return dJ0_checkIndex_df160_9 rfl rfl (Nat.zero_le _) (Nat.zero_le _)
theorem jlchar_ct {l : Launch} {i : Nat} {j : Int} (hi : i < 11) (h0 : 0 ≤ j) (h1 : j < slz i) {C : Hp} : Ct l M_jlchar [(3, ((40 + i : Nat) : Int)), (0, j)] 224 C (KRi C (schz i j)) := by
  refine ct_of_J (by decide +kernel) rfl (Nat.le_of_ble_eq_true rfl) (K := KRi C) (X := some (schz i j)) ?_ rfl
  have hb := schz_r hi h0 h1
  refine j_iload_n dJ1_charAt_3b067_0 rfl rfl ?_
  refine j_aloadS_n dJ1_charAt_3b067_1 rfl rfl ?_
  refine j_svlen hi dJ1_charAt_3b067_2 ?_
  refine j_cS (k := 2) (F := some ()) (Xk := fun _ => some (schz i j)) (M' := M_jscheck) (As := [(0, j), (0, slz i)]) (S := []) (Kc := fun _ => (none, 224, C)) dJ1_charAt_3b067_3 ⟨jy_scheck, jst_scheck, rfl, rfl⟩ (Or.inl jl_9) rfl rfl ⟨by decide, by decide⟩ (Nat.le_of_ble_eq_true rfl) (fun _ => rfl) (fun _ _ => jscheck_ct h0 h1) (fun _ _ => ?_)
  refine j_aloadS_n dJ1_charAt_3b067_6 rfl rfl ?_
  refine j_iload_n dJ1_charAt_3b067_7 rfl rfl ?_
  refine j_svld hi dJ1_charAt_3b067_8 h0 h1 ?_
  refine j_sipush dJ1_charAt_3b067_9 (z := 255) (by unfold r32; omega) (by decide +kernel) ?_
  refine j_iand dJ1_charAt_3b067_12 ?_
  rw [(chr_fin hb.1 hb.2).1]
  refine j_i2c dJ1_charAt_3b067_13 hb.1 hb.2 ?_
  exact j_treturn dJ1_charAt_3b067_14 rfl (chr_fin hb.1 hb.2).2.2 rfl (Nat.zero_le _) (Nat.zero_le _)
theorem jchar_ct {l : Launch} {i : Nat} {j : Int} (hi : i < 11) (h0 : 0 ≤ j) (h1 : j < slz i) {C : Hp} : Ct l M_jchar [(3, (i : Int)), (0, j)] 224 C (KRi C (schz i j)) := by
  refine ct_of_J (by decide +kernel) rfl (Nat.le_of_ble_eq_true rfl) (K := KRi C) (X := some (schz i j)) ?_ rfl
  have hb := schz_r hi h0 h1
  refine j_aloadS_n dJ0_charAt_5068e_0 rfl rfl ?_
  have h : J l M_jchar (KRi C) ((some true).bind fun b => if b = true then some (schz i j) else none) 1 [(3, (i : Int)), (0, j)] [(3, (i : Int))] 224 C (0, 0) := by
    refine j_callT (M' := M_jisLatin1) (As := []) (S := []) (Kc := KRb C) hi dJ0_charAt_5068e_1 jy_isLatin1 rfl jl_492 ji_isLatin1 js_isLatin1 ⟨by decide, by decide⟩ (Nat.le_of_ble_eq_true rfl) rfl rfl (Nat.zero_le _) (Nat.zero_le _) (fun r hr => by cases hr; exact jisLatin1_ct hi) (fun _ => rfl) (fun b _ => ?_)
    refine j_ifb_eq (tgt := 16) dJ0_charAt_5068e_4 rfl (fun _ => ?_) (fun _ => j_none)
    refine j_aloadS_n dJ0_charAt_5068e_7 rfl rfl ?_
    refine j_svalue hi dJ0_charAt_5068e_8 jf_9 ?_
    refine j_iload_n dJ0_charAt_5068e_11 rfl rfl ?_
    refine j_cS (k := 2) (F := some ()) (Xk := fun _ => some (schz i j)) (M' := M_jlchar) (As := [(3, ((40 + i : Nat) : Int)), (0, j)]) (S := []) (Kc := fun _ => KRi C (schz i j)) dJ0_charAt_5068e_12 ⟨jy_lchar, jst_lchar, rfl, rfl⟩ (Or.inl jl_495) rfl rfl ⟨by decide, by decide⟩ (Nat.le_of_ble_eq_true rfl) (fun _ => rfl) (fun _ _ => jlchar_ct hi h0 h1) (fun _ _ => ?_)
    exact j_treturn dJ0_charAt_5068e_15 rfl (chr_fin hb.1 hb.2).2.2 rfl (Nat.zero_le _) (Nat.zero_le _)
  exact h
section STR2
variable {α : Type} {l : Launch} {M : MC} {K : α → Option AV × Nat × Hp} {X : Option α} {pc : Nat} {L S : List AV} {C : Hp} {i : Nat}
theorem j_slen (hd : decode M.cc pc = .ok (.invokevirtual 156, 3)) (hi : i < 11) (hy : M.y.cls = RX6) (hd3 : 3 ≤ M.d) (hS8 : wt S ≤ 8) (k : J l M K X (pc + 3) L ((0, slz i) :: S) 224 C (0, 0)) : J l M K X pc L ((3, (i : Int)) :: S) 224 C (0, 0) :=
  j_callT (F := some ()) (Xk := fun _ => X) (M' := M_jlength) (As := []) (Kc := fun _ => KRi C (slz i)) hi hd jy_length rfl (by rw [hy]; exact jl_156) ji_length js_length ⟨by show 2 + 1 ≤ _; omega, by show 8 + (1 + 11) + 100 * 2 ≤ _; omega⟩ hS8 rfl rfl (Nat.zero_le _) (Nat.zero_le _) (fun _ _ => jlength_ct hi) (fun _ => rfl) (fun _ _ => k)
theorem j_schr {j : Int} (hd : decode M.cc pc = .ok (.invokevirtual 165, 3)) (hi : i < 11) (hy : M.y.cls = RX6) (hd3 : 5 ≤ M.d) (hS8 : wt S ≤ 8) (h0 : 0 ≤ j) (h1 : j < slz i) (k : J l M K X (pc + 3) L ((0, schz i j) :: S) 224 C (0, 0)) : J l M K X pc L ((0, j) :: (3, (i : Int)) :: S) 224 C (0, 0) :=
  j_callT (F := some ()) (Xk := fun _ => X) (M' := M_jchar) (As := [(0, j)]) (Kc := fun _ => KRi C (schz i j)) hi hd jy_char rfl (by rw [hy]; exact jl_165) ji_char js_char ⟨by show 4 + 1 ≤ _; omega, by show 8 + (2 + 11) + 100 * 4 ≤ _; omega⟩ hS8 rfl rfl (Nat.zero_le _) (Nat.zero_le _) (fun _ _ => jchar_ct hi h0 h1) (fun _ => rfl) (fun _ _ => k)
end STR2
theorem cX_copyRow_ct {l : Launch} {H : Hp} {N : Nat} {Nz a b : Int} {G r : Hp} (hN : (N : Int) = Nz) (hle : N ≤ 100000) (ha : OC a 20 N) (hb : OC b 20 N) (h : cX_copyRow Nz a b G = some r) : Ct l M_cX_copyRow [(2, a), (2, b)] 224 (fu G H) (KWv (fun g => fu g H) r) := by
  refine ct_of_J (by decide +kernel) rfl (Nat.le_of_ble_eq_true rfl) (K := KWv (fun g => fu g H)) ?_ h
  have r1 : r32 Nz := by unfold r32; omega
  unfold cX_copyRow
  refine j_aload_n dX10_copyRow_0 rfl rfl ?_
  refine j_iconst dX10_copyRow_1 r32_0 ?_
  refine j_aload_n dX10_copyRow_2 rfl rfl ?_
  refine j_iconst dX10_copyRow_3 r32_0 ?_
  refine j_aload_n dX10_copyRow_4 rfl rfl ?_
  refine j_len (t := 0) dX10_copyRow_5 ha.1 (by decide) hN r1 ?_
  refine j_aload_n dX10_copyRow_6 rfl rfl ?_
  refine j_len (t := 0) dX10_copyRow_7 hb.1 (by decide) hN r1 ?_
  refine j_min dX10_copyRow_8 mm_X10_453 st_min in_Math co_min (Nat.le_of_ble_eq_true rfl) (Nat.le_of_ble_eq_true rfl) (Nat.zero_le _) (Nat.zero_le _) ?_
  refine j_cpy (t := 0) dX10_copyRow_11 (cy_X10_456 rfl) (by decide) ha hb hN hN (by decide) (Nat.le_of_ble_eq_true rfl) ?_
  exact j_return dX10_copyRow_14 rfl rfl (Nat.zero_le _) (Nat.zero_le _)
theorem cX_paperAt_ok {a v : Int} {G : Hp} (h : cX_paperAt a G = some v) (hv : ¬ v < 0) : isPaper v := by
  unfold cX_paperAt at h
  split at h
  · cases h; exact absurd (by decide : (-1 : Int) < 0) hv
  · split at h
    · cases h; exact absurd (by decide : (-1 : Int) < 0) hv
    · unfold gd at h
      split at h
      · next h2 => cases h; exact pap_told (t := 1) isTold_1 h2.1 h2.2
      · cases h
theorem cX_weekAt_ok {a v : Int} {G : Hp} (h : cX_weekAt a G = some v) (hv : ¬ v < 0) : isWeek v := by
  unfold cX_weekAt at h
  split at h
  · cases h; exact absurd (by decide : (-1 : Int) < 0) hv
  · split at h
    · cases h; exact absurd (by decide : (-1 : Int) < 0) hv
    · unfold gd at h
      split at h
      · next h2 => cases h; exact wee_told (t := 1) isTold_1 h2.1 h2.2
      · cases h
theorem cX_logAt_ok {a v : Int} {G : Hp} (h : cX_logAt a G = some v) (hv : ¬ v < 0) : isLog v := by
  unfold cX_logAt at h
  split at h
  · cases h; exact absurd (by decide : (-1 : Int) < 0) hv
  · split at h
    · cases h; exact absurd (by decide : (-1 : Int) < 0) hv
    · unfold gd at h
      split at h
      · next h2 => cases h; exact log_told (t := 1) isTold_1 h2.1 h2.2
      · cases h
