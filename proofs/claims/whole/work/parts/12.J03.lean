set_option maxRecDepth 100000 in
theorem cNe_kinds_L4_J {l : Launch} {H : Hp} (o : Int) (ho : isNet o) : ∀ (n_4 : Nat) (x1_4 : Int) (x2_4 : Int) (G_4 : Hp), J l M_cNe_kinds (KWi (fun g => fu g H)) (cNe_kinds_L4 o  n_4 x1_4 x2_4 G_4) 4 [(2, o), (0, x1_4), (0, x2_4)] [] 224 (fu G_4 H) (0, 0) := by
  intro n_4
  induction n_4 with
  | zero =>
    intro x1_4 x2_4 G_4
    exact j_none
  | succ n_4 ih =>
    intro x1_4 x2_4 G_4
    rw [cNe_kinds_L4]
    refine j_iload_n dX2_kinds_4 rfl rfl ?_
    refine j_bipush dX2_kinds_5 r32_10 bp_10 ?_
    refine j_icmp_ge (tgt := 38) dX2_kinds_7 rfl (fun h7 => ?_) (fun h7 => ?_)
    · refine j_iload_n dX2_kinds_10 rfl rfl ?_
      refine j_aload_n dX2_kinds_11 rfl rfl ?_
      refine j_iload_n dX2_kinds_12 rfl rfl ?_
      refine j_cVWi dX2_kinds_13 im_cNe_kinOf lk_X2_41 rfl (As := [(0, x2_4)]) (S := [(0, x1_4)]) rfl (oc_net ho).1 ⟨by decide, by decide⟩ (Nat.le_of_ble_eq_true rfl) (fun r hr => cNe_kinOf_ct o ho x2_4 G_4 hr) (fun r13 _ => ?_)
      refine j_iconst dX2_kinds_16 r32_1 ?_
      refine j_iload_n dX2_kinds_17 rfl rfl ?_
      refine j_ishl dX2_kinds_18 ?_
      refine j_iconst dX2_kinds_19 r32_1 ?_
      refine j_isub dX2_kinds_20 ?_
      refine j_iand dX2_kinds_21 ?_
      refine j_if_ne (tgt := 29) dX2_kinds_22 rfl (fun h22 => ?_) (fun h22 => ?_)
      · refine j_iconst dX2_kinds_25 r32_1 ?_
        refine j_goto (tgt := 30) dX2_kinds_26 rfl ?_
        refine j_iadd dX2_kinds_30 ?_
        refine j_istore_n dX2_kinds_31 rfl (Nat.le_of_ble_eq_true rfl) rfl ?_
        refine j_iinc dX2_kinds_32 rfl (Nat.le_of_ble_eq_true rfl) rfl ?_
        refine j_goto (tgt := 4) dX2_kinds_35 rfl ?_
        exact j_mask [true, true, true] rfl (ih (w32 (x1_4 + 1)) (w32 (x2_4 + 1)) r13.2)
      · refine j_iconst dX2_kinds_29 r32_0 ?_
        refine j_iadd dX2_kinds_30 ?_
        refine j_istore_n dX2_kinds_31 rfl (Nat.le_of_ble_eq_true rfl) rfl ?_
        refine j_iinc dX2_kinds_32 rfl (Nat.le_of_ble_eq_true rfl) rfl ?_
        refine j_goto (tgt := 4) dX2_kinds_35 rfl ?_
        exact j_mask [true, true, true] rfl (ih (w32 (x1_4 + 0)) (w32 (x2_4 + 1)) r13.2)
    · refine j_iload_n dX2_kinds_38 rfl rfl ?_
      exact j_ireturn dX2_kinds_39 rfl rfl (Nat.zero_le _) (Nat.zero_le _)

set_option maxRecDepth 100000 in
theorem cNe_kinds_J {l : Launch} {H : Hp} (o : Int) (ho : isNet o) (G : Hp) : J l M_cNe_kinds (KWi (fun g => fu g H)) (cNe_kinds o G) 0 [(2, o), (9, 0), (9, 0)] [] 224 (fu G H) (0, 0) := by
  unfold cNe_kinds
  refine j_iconst dX2_kinds_0 r32_0 ?_
  refine j_istore_n dX2_kinds_1 rfl (Nat.le_of_ble_eq_true rfl) rfl ?_
  refine j_iconst dX2_kinds_2 r32_0 ?_
  refine j_istore_n dX2_kinds_3 rfl (Nat.le_of_ble_eq_true rfl) rfl ?_
  exact j_mask [true, true, true] rfl (cNe_kinds_L4_J o ho FU 0 0 G)

set_option maxRecDepth 100000 in
theorem cNe_kinds_ct {l : Launch} {H : Hp} (o : Int) (ho : isNet o) (G : Hp) {r : Int × Hp} (h : cNe_kinds o G = some r) : Ct l M_cNe_kinds [(2, o)] 224 (fu G H) ((KWi (fun g => fu g H)) r) :=
  ct_of_J (by decide +kernel) rfl (Nat.le_of_ble_eq_true rfl) (cNe_kinds_J o ho G) h
set_option maxRecDepth 100000 in
theorem cNe_largest_L4_J {l : Launch} {H : Hp} (o : Int) (ho : isNet o) : ∀ (n_4 : Nat) (x1_4 : Int) (x2_4 : Int) (G_4 : Hp), J l M_cNe_largest (KWi (fun g => fu g H)) (cNe_largest_L4 o  n_4 x1_4 x2_4 G_4) 4 [(2, o), (0, x1_4), (0, x2_4)] [] 224 (fu G_4 H) (0, 0) := by
  intro n_4
  induction n_4 with
  | zero =>
    intro x1_4 x2_4 G_4
    exact j_none
  | succ n_4 ih =>
    intro x1_4 x2_4 G_4
    rw [cNe_largest_L4]
    refine j_iload_n dX2_largest_4 rfl rfl ?_
    refine j_bipush dX2_largest_5 r32_10 bp_10 ?_
    refine j_icmp_ge (tgt := 29) dX2_largest_7 rfl (fun h7 => ?_) (fun h7 => ?_)
    · refine j_iload_n dX2_largest_10 rfl rfl ?_
      refine j_aload_n dX2_largest_11 rfl rfl ?_
      refine j_iload_n dX2_largest_12 rfl rfl ?_
      refine j_cVWi dX2_largest_13 im_cNe_kinOf lk_X2_41 rfl (As := [(0, x2_4)]) (S := [(0, x1_4)]) rfl (oc_net ho).1 ⟨by decide, by decide⟩ (Nat.le_of_ble_eq_true rfl) (fun r hr => cNe_kinOf_ct o ho x2_4 G_4 hr) (fun r13 _ => ?_)
      refine j_cSRip dX2_largest_16 sm_jI_bitCount lk_X2_45 rfl (As := [(0, r13.1)]) (S := [(0, x1_4)]) rfl ⟨by decide, by decide⟩ (Nat.le_of_ble_eq_true rfl) (jI_bitCount_ct r13.1) ?_
      refine j_max dX2_largest_19 mm_X2_50 st_max in_Math co_max (Nat.le_of_ble_eq_true rfl) (Nat.le_of_ble_eq_true rfl) (Nat.zero_le _) (Nat.zero_le _) ?_
      refine j_istore_n dX2_largest_22 rfl (Nat.le_of_ble_eq_true rfl) rfl ?_
      refine j_iinc dX2_largest_23 rfl (Nat.le_of_ble_eq_true rfl) rfl ?_
      refine j_goto (tgt := 4) dX2_largest_26 rfl ?_
      exact j_mask [true, true, true] rfl (ih (max x1_4 (jI_bitCount r13.1)) (w32 (x2_4 + 1)) r13.2)
    · refine j_iload_n dX2_largest_29 rfl rfl ?_
      exact j_ireturn dX2_largest_30 rfl rfl (Nat.zero_le _) (Nat.zero_le _)

set_option maxRecDepth 100000 in
theorem cNe_largest_J {l : Launch} {H : Hp} (o : Int) (ho : isNet o) (G : Hp) : J l M_cNe_largest (KWi (fun g => fu g H)) (cNe_largest o G) 0 [(2, o), (9, 0), (9, 0)] [] 224 (fu G H) (0, 0) := by
  unfold cNe_largest
  refine j_iconst dX2_largest_0 r32_0 ?_
  refine j_istore_n dX2_largest_1 rfl (Nat.le_of_ble_eq_true rfl) rfl ?_
  refine j_iconst dX2_largest_2 r32_0 ?_
  refine j_istore_n dX2_largest_3 rfl (Nat.le_of_ble_eq_true rfl) rfl ?_
  exact j_mask [true, true, true] rfl (cNe_largest_L4_J o ho FU 0 0 G)

set_option maxRecDepth 100000 in
theorem cNe_largest_ct {l : Launch} {H : Hp} (o : Int) (ho : isNet o) (G : Hp) {r : Int × Hp} (h : cNe_largest o G = some r) : Ct l M_cNe_largest [(2, o)] 224 (fu G H) ((KWi (fun g => fu g H)) r) :=
  ct_of_J (by decide +kernel) rfl (Nat.le_of_ble_eq_true rfl) (cNe_largest_J o ho G) h
set_option maxRecDepth 100000 in
theorem cNe_widest_L12_J {l : Launch} {H : Hp} (o : Int) (ho : isNet o) (x2_12 : Int) (k35 : Int → Hp → Option (Int × Hp)) (hk35 : ∀ (x1_35 : Int) (G_35 : Hp), J l M_cNe_widest (KWi (fun g => fu g H)) (k35 x1_35 G_35) 35 [(2, o), (0, x1_35), (0, x2_12), (9, 0)] [] 224 (fu G_35 H) (0, 0)) : ∀ (n_12 : Nat) (x1_12 : Int) (x3_12 : Int) (G_12 : Hp), J l M_cNe_widest (KWi (fun g => fu g H)) (cNe_widest_L12 o x2_12 k35 n_12 x1_12 x3_12 G_12) 12 [(2, o), (0, x1_12), (0, x2_12), (0, x3_12)] [] 224 (fu G_12 H) (0, 0) := by
  intro n_12
  induction n_12 with
  | zero =>
    intro x1_12 x3_12 G_12
    exact j_none
  | succ n_12 ih =>
    intro x1_12 x3_12 G_12
    rw [cNe_widest_L12]
    refine j_iload_n dX2_widest_12 rfl rfl ?_
    refine j_bipush dX2_widest_13 r32_10 bp_10 ?_
    refine j_icmp_ge (tgt := 35) dX2_widest_15 rfl (fun h15 => ?_) (fun h15 => ?_)
    · refine j_iload_n dX2_widest_18 rfl rfl ?_
      refine j_aload_n dX2_widest_19 rfl rfl ?_
      refine j_iload_n dX2_widest_20 rfl rfl ?_
      refine j_iload_n dX2_widest_21 rfl rfl ?_
      refine j_cVWi dX2_widest_22 im_cNe_between lk_X2_37 rfl (As := [(0, x2_12), (0, x3_12)]) (S := [(0, x1_12)]) rfl (oc_net ho).1 ⟨by decide, by decide⟩ (Nat.le_of_ble_eq_true rfl) (fun r hr => cNe_between_ct o ho x2_12 x3_12 G_12 hr) (fun r22 _ => ?_)
      refine j_max dX2_widest_25 mm_X2_50 st_max in_Math co_max (Nat.le_of_ble_eq_true rfl) (Nat.le_of_ble_eq_true rfl) (Nat.zero_le _) (Nat.zero_le _) ?_
      refine j_istore_n dX2_widest_28 rfl (Nat.le_of_ble_eq_true rfl) rfl ?_
      refine j_iinc dX2_widest_29 rfl (Nat.le_of_ble_eq_true rfl) rfl ?_
      refine j_goto (tgt := 12) dX2_widest_32 rfl ?_
      exact j_mask [true, true, true, true] rfl (ih (max x1_12 r22.1) (w32 (x3_12 + 1)) r22.2)
    · exact j_mask [true, true, true, false] rfl (hk35 x1_12 G_12)

set_option maxRecDepth 100000 in
theorem cNe_widest_L4_J {l : Launch} {H : Hp} (o : Int) (ho : isNet o) : ∀ (n_4 : Nat) (x1_4 : Int) (x2_4 : Int) (G_4 : Hp), J l M_cNe_widest (KWi (fun g => fu g H)) (cNe_widest_L4 o  n_4 x1_4 x2_4 G_4) 4 [(2, o), (0, x1_4), (0, x2_4), (9, 0)] [] 224 (fu G_4 H) (0, 0) := by
  intro n_4
  induction n_4 with
  | zero =>
    intro x1_4 x2_4 G_4
    exact j_none
  | succ n_4 ih =>
    intro x1_4 x2_4 G_4
    rw [cNe_widest_L4]
    refine j_iload_n dX2_widest_4 rfl rfl ?_
    refine j_bipush dX2_widest_5 r32_10 bp_10 ?_
    refine j_icmp_ge (tgt := 41) dX2_widest_7 rfl (fun h7 => ?_) (fun h7 => ?_)
    · refine j_iconst dX2_widest_10 r32_0 ?_
      refine j_istore_n dX2_widest_11 rfl (Nat.le_of_ble_eq_true rfl) rfl ?_
      refine j_mask [true, true, true, true] rfl (cNe_widest_L12_J o ho x2_4 (fun x1_35 G_35 => cNe_widest_L4 o n_4 x1_35 (w32 (x2_4 + 1)) G_35) (fun x1_35 G_35 => ?_) FU x1_4 0 G_4)
      refine j_iinc dX2_widest_35 rfl (Nat.le_of_ble_eq_true rfl) rfl ?_
      refine j_goto (tgt := 4) dX2_widest_38 rfl ?_
      exact j_mask [true, true, true, false] rfl (ih x1_35 (w32 (x2_4 + 1)) G_35)
    · refine j_iload_n dX2_widest_41 rfl rfl ?_
      exact j_ireturn dX2_widest_42 rfl rfl (Nat.zero_le _) (Nat.zero_le _)

set_option maxRecDepth 100000 in
theorem cNe_widest_J {l : Launch} {H : Hp} (o : Int) (ho : isNet o) (G : Hp) : J l M_cNe_widest (KWi (fun g => fu g H)) (cNe_widest o G) 0 [(2, o), (9, 0), (9, 0), (9, 0)] [] 224 (fu G H) (0, 0) := by
  unfold cNe_widest
  refine j_iconst dX2_widest_0 r32_0 ?_
  refine j_istore_n dX2_widest_1 rfl (Nat.le_of_ble_eq_true rfl) rfl ?_
  refine j_iconst dX2_widest_2 r32_0 ?_
  refine j_istore_n dX2_widest_3 rfl (Nat.le_of_ble_eq_true rfl) rfl ?_
  exact j_mask [true, true, true, false] rfl (cNe_widest_L4_J o ho FU 0 0 G)

set_option maxRecDepth 100000 in
theorem cNe_widest_ct {l : Launch} {H : Hp} (o : Int) (ho : isNet o) (G : Hp) {r : Int × Hp} (h : cNe_widest o G = some r) : Ct l M_cNe_widest [(2, o)] 224 (fu G H) ((KWi (fun g => fu g H)) r) :=
  ct_of_J (by decide +kernel) rfl (Nat.le_of_ble_eq_true rfl) (cNe_widest_J o ho G) h
set_option maxRecDepth 100000 in
theorem cNe_lone_L4_J {l : Launch} {H : Hp} (o : Int) (ho : isNet o) (G : Hp) : ∀ (n_4 : Nat) (x1_4 : Int) (x2_4 : Int), J l M_cNe_lone (KRi (fu G H)) (cNe_lone_L4 o G  n_4 x1_4 x2_4) 4 [(2, o), (0, x1_4), (0, x2_4)] [] 224 (fu G H) (0, 0) := by
  intro n_4
  induction n_4 with
  | zero =>
    intro x1_4 x2_4
    exact j_none
  | succ n_4 ih =>
    intro x1_4 x2_4
    rw [cNe_lone_L4]
    refine j_iload_n dX2_lone_4 rfl rfl ?_
    refine j_bipush dX2_lone_5 r32_10 bp_10 ?_
    refine j_icmp_ge (tgt := 35) dX2_lone_7 rfl (fun h7 => ?_) (fun h7 => ?_)
    · refine j_iload_n dX2_lone_10 rfl rfl ?_
      refine j_aload_n dX2_lone_11 rfl rfl ?_
      refine j_grc dX2_lone_12 gf_X2_9 (oc_net ho) (Or.inl (by decide)) (rf_net_0 ho) ?_
      refine j_iload_n dX2_lone_15 rfl rfl ?_
      refine j_gd (fun h16a h16b => ?_)
      refine j_aic dX2_lone_16 (oc_net_1 ho) rfl h16a h16b ?_
      refine j_if_ne (tgt := 26) dX2_lone_17 rfl (fun h17 => ?_) (fun h17 => ?_)
      · refine j_iconst dX2_lone_20 r32_1 ?_
        refine j_iload_n dX2_lone_21 rfl rfl ?_
        refine j_ishl dX2_lone_22 ?_
        refine j_goto (tgt := 27) dX2_lone_23 rfl ?_
        refine j_ior dX2_lone_27 ?_
        refine j_istore_n dX2_lone_28 rfl (Nat.le_of_ble_eq_true rfl) rfl ?_
        refine j_iinc dX2_lone_29 rfl (Nat.le_of_ble_eq_true rfl) rfl ?_
        refine j_goto (tgt := 4) dX2_lone_32 rfl ?_
        exact j_mask [true, true, true] rfl (ih (ior x1_4 (ishl 1 x2_4)) (w32 (x2_4 + 1)))
      · refine j_iconst dX2_lone_26 r32_0 ?_
        refine j_ior dX2_lone_27 ?_
        refine j_istore_n dX2_lone_28 rfl (Nat.le_of_ble_eq_true rfl) rfl ?_
        refine j_iinc dX2_lone_29 rfl (Nat.le_of_ble_eq_true rfl) rfl ?_
        refine j_goto (tgt := 4) dX2_lone_32 rfl ?_
        exact j_mask [true, true, true] rfl (ih (ior x1_4 0) (w32 (x2_4 + 1)))
    · refine j_iload_n dX2_lone_35 rfl rfl ?_
      exact j_ireturn dX2_lone_36 rfl rfl (Nat.zero_le _) (Nat.zero_le _)

set_option maxRecDepth 100000 in
theorem cNe_lone_J {l : Launch} {H : Hp} (o : Int) (ho : isNet o) (G : Hp) : J l M_cNe_lone (KRi (fu G H)) (cNe_lone o G) 0 [(2, o), (9, 0), (9, 0)] [] 224 (fu G H) (0, 0) := by
  unfold cNe_lone
  refine j_iconst dX2_lone_0 r32_0 ?_
  refine j_istore_n dX2_lone_1 rfl (Nat.le_of_ble_eq_true rfl) rfl ?_
  refine j_iconst dX2_lone_2 r32_0 ?_
  refine j_istore_n dX2_lone_3 rfl (Nat.le_of_ble_eq_true rfl) rfl ?_
  exact j_mask [true, true, true] rfl (cNe_lone_L4_J o ho G FU 0 0)

set_option maxRecDepth 100000 in
theorem cNe_lone_ct {l : Launch} {H : Hp} (o : Int) (ho : isNet o) (G : Hp) {r : Int} (h : cNe_lone o G = some r) : Ct l M_cNe_lone [(2, o)] 224 (fu G H) ((KRi (fu G H)) r) :=
  ct_of_J (by decide +kernel) rfl (Nat.le_of_ble_eq_true rfl) (cNe_lone_J o ho G) h
set_option maxRecDepth 100000 in
theorem cX_aroundTo_J {l : Launch} {H : Hp} (a1 : Int) (a2 : Int) (G : Hp) : J l M_cX_aroundTo (KWi (fun g => fu g H)) (cX_aroundTo a1 a2 G) 0 [(2, 0), (0, a1), (0, a2), (9, 0)] [] 224 (fu G H) (0, 0) := by
  unfold cX_aroundTo
  refine j_aload_n dX10_aroundTo_0 rfl rfl ?_
  refine j_grc dX10_aroundTo_1 gf_X10_62 oc_0 (Or.inl (by decide)) rf_0_8 ?_
  refine j_iload_n dX10_aroundTo_4 rfl rfl ?_
  refine j_iload_n dX10_aroundTo_5 rfl rfl ?_
  refine j_cVWv dX10_aroundTo_6 im_cNe_part lk_X10_238 rfl (As := [(0, a1), (0, a2)]) (S := []) rfl oc_87.1 ⟨by decide, by decide⟩ (Nat.le_of_ble_eq_true rfl) (fun r hr => cNe_part_ct 87 isNet_87 a1 a2 G hr) (fun G6 _ => ?_)
  refine j_aload_n dX10_aroundTo_9 rfl rfl ?_
  refine j_grc dX10_aroundTo_10 gf_X10_62 oc_0 (Or.inl (by decide)) rf_0_8 ?_
  refine j_iload_n dX10_aroundTo_13 rfl rfl ?_
  refine j_iload_n dX10_aroundTo_14 rfl rfl ?_
  refine j_cVWi dX10_aroundTo_15 im_cNe_between lk_X10_202 rfl (As := [(0, a1), (0, a2)]) (S := []) rfl oc_87.1 ⟨by decide, by decide⟩ (Nat.le_of_ble_eq_true rfl) (fun r hr => cNe_between_ct 87 isNet_87 a1 a2 G6 hr) (fun r15 _ => ?_)
  refine j_istore_n dX10_aroundTo_18 rfl (Nat.le_of_ble_eq_true rfl) rfl ?_
  refine j_aload_n dX10_aroundTo_19 rfl rfl ?_
  refine j_grc dX10_aroundTo_20 gf_X10_62 oc_0 (Or.inl (by decide)) rf_0_8 ?_
  refine j_iload_n dX10_aroundTo_23 rfl rfl ?_
  refine j_iload_n dX10_aroundTo_24 rfl rfl ?_
  refine j_cVWv dX10_aroundTo_25 im_cNe_join lk_X10_242 rfl (As := [(0, a1), (0, a2)]) (S := []) rfl oc_87.1 ⟨by decide, by decide⟩ (Nat.le_of_ble_eq_true rfl) (fun r hr => cNe_join_ct 87 isNet_87 a1 a2 r15.2 hr) (fun G25 _ => ?_)
  refine j_iload_n dX10_aroundTo_28 rfl rfl ?_
  exact j_ireturn dX10_aroundTo_29 rfl rfl (Nat.zero_le _) (Nat.zero_le _)

set_option maxRecDepth 100000 in
theorem cX_aroundTo_ct {l : Launch} {H : Hp} (a1 : Int) (a2 : Int) (G : Hp) {r : Int × Hp} (h : cX_aroundTo a1 a2 G = some r) : Ct l M_cX_aroundTo [(2, 0), (0, a1), (0, a2)] 224 (fu G H) ((KWi (fun g => fu g H)) r) :=
  ct_of_J (by decide +kernel) rfl (Nat.le_of_ble_eq_true rfl) (cX_aroundTo_J a1 a2 G) h
set_option maxRecDepth 100000 in
theorem cX_bridges_L26_J {l : Launch} {H : Hp} (a1 : Int) (ha1 : isPaper a1) (x3_26 : Int) (k66 : Int → Hp → Option (Int × Hp)) (hk66 : ∀ (x2_66 : Int) (G_66 : Hp), J l M_cX_bridges (KWi (fun g => fu g H)) (k66 x2_66 G_66) 66 [(2, 0), (2, a1), (0, x2_66), (0, x3_26), (9, 0)] [] 224 (fu G_66 H) (0, 0)) : ∀ (n_26 : Nat) (x2_26 : Int) (x4_26 : Int) (G_26 : Hp), J l M_cX_bridges (KWi (fun g => fu g H)) (cX_bridges_L26 a1 x3_26 k66 n_26 x2_26 x4_26 G_26) 26 [(2, 0), (2, a1), (0, x2_26), (0, x3_26), (0, x4_26)] [] 224 (fu G_26 H) (0, 0) := by
  intro n_26
  induction n_26 with
  | zero =>
    intro x2_26 x4_26 G_26
    exact j_none
  | succ n_26 ih =>
    intro x2_26 x4_26 G_26
    rw [cX_bridges_L26]
    refine j_iload dX10_bridges_26 rfl ?_
    refine j_bipush dX10_bridges_28 r32_10 bp_10 ?_
    refine j_icmp_ge (tgt := 66) dX10_bridges_30 rfl (fun h30 => ?_) (fun h30 => ?_)
    · refine j_aload_n dX10_bridges_33 rfl rfl ?_
      refine j_grc dX10_bridges_34 gf_X10_199 (oc_paper ha1) (Or.inl (by decide)) (rf_paper_3 ha1) ?_
      refine j_iload_n dX10_bridges_37 rfl rfl ?_
      refine j_iload dX10_bridges_38 rfl ?_
      refine j_cVRb dX10_bridges_40 im_cNe_near lk_X10_231 rfl (As := [(0, x3_26), (0, x4_26)]) (S := []) rfl (oc_net (net_paper ha1)).1 ⟨by decide, by decide⟩ (Nat.le_of_ble_eq_true rfl) (fun r hr => cNe_near_ct (a1 + 1) (net_paper ha1) x3_26 x4_26 G_26 hr) (fun v40 _ => ?_)
      refine j_ifb_eq (tgt := 60) dX10_bridges_43 rfl (fun h43 => ?_) (fun h43 => ?_)
      · refine j_aload_n dX10_bridges_46 rfl rfl ?_
        refine j_iload_n dX10_bridges_47 rfl rfl ?_
        refine j_iload dX10_bridges_48 rfl ?_
        refine j_cVWi dX10_bridges_50 im_cX_aroundTo lk_X10_235 rfl (As := [(0, x3_26), (0, x4_26)]) (S := []) rfl oc_0.1 ⟨by decide, by decide⟩ (Nat.le_of_ble_eq_true rfl) (fun r hr => cX_aroundTo_ct x3_26 x4_26 G_26 hr) (fun r50 _ => ?_)
        refine j_iconst dX10_bridges_53 r32_m1 ?_
        refine j_icmp_ne (tgt := 60) dX10_bridges_54 rfl (fun h54 => ?_) (fun h54 => ?_)
        · refine j_iinc dX10_bridges_57 rfl (Nat.le_of_ble_eq_true rfl) rfl ?_
          refine j_iinc dX10_bridges_60 rfl (Nat.le_of_ble_eq_true rfl) rfl ?_
          refine j_goto (tgt := 26) dX10_bridges_63 rfl ?_
          exact j_mask [true, true, true, true, true] rfl (ih (w32 (x2_26 + 1)) (w32 (x4_26 + 1)) r50.2)
        · refine j_iinc dX10_bridges_60 rfl (Nat.le_of_ble_eq_true rfl) rfl ?_
          refine j_goto (tgt := 26) dX10_bridges_63 rfl ?_
          exact j_mask [true, true, true, true, true] rfl (ih x2_26 (w32 (x4_26 + 1)) r50.2)
      · refine j_iinc dX10_bridges_60 rfl (Nat.le_of_ble_eq_true rfl) rfl ?_
        refine j_goto (tgt := 26) dX10_bridges_63 rfl ?_
        exact j_mask [true, true, true, true, true] rfl (ih x2_26 (w32 (x4_26 + 1)) G_26)
    · exact j_mask [true, true, true, true, false] rfl (hk66 x2_26 G_26)

set_option maxRecDepth 100000 in
theorem cX_bridges_L15_J {l : Launch} {H : Hp} (a1 : Int) (ha1 : isPaper a1) : ∀ (n_15 : Nat) (x2_15 : Int) (x3_15 : Int) (G_15 : Hp), J l M_cX_bridges (KWi (fun g => fu g H)) (cX_bridges_L15 a1  n_15 x2_15 x3_15 G_15) 15 [(2, 0), (2, a1), (0, x2_15), (0, x3_15), (9, 0)] [] 224 (fu G_15 H) (0, 0) := by
  intro n_15
  induction n_15 with
  | zero =>
    intro x2_15 x3_15 G_15
    exact j_none
  | succ n_15 ih =>
    intro x2_15 x3_15 G_15
    rw [cX_bridges_L15]
    refine j_iload_n dX10_bridges_15 rfl rfl ?_
    refine j_bipush dX10_bridges_16 r32_10 bp_10 ?_
    refine j_icmp_ge (tgt := 72) dX10_bridges_18 rfl (fun h18 => ?_) (fun h18 => ?_)
    · refine j_iload_n dX10_bridges_21 rfl rfl ?_
      refine j_iconst dX10_bridges_22 r32_1 ?_
      refine j_iadd dX10_bridges_23 ?_
      refine j_istore dX10_bridges_24 (Nat.le_of_ble_eq_true rfl) rfl ?_
      refine j_mask [true, true, true, true, true] rfl (cX_bridges_L26_J a1 ha1 x3_15 (fun x2_66 G_66 => cX_bridges_L15 a1 n_15 x2_66 (w32 (x3_15 + 1)) G_66) (fun x2_66 G_66 => ?_) FU x2_15 (w32 (x3_15 + 1)) G_15)
      refine j_iinc dX10_bridges_66 rfl (Nat.le_of_ble_eq_true rfl) rfl ?_
      refine j_goto (tgt := 15) dX10_bridges_69 rfl ?_
      exact j_mask [true, true, true, true, false] rfl (ih x2_66 (w32 (x3_15 + 1)) G_66)
    · refine j_iload_n dX10_bridges_72 rfl rfl ?_
      exact j_ireturn dX10_bridges_73 rfl rfl (Nat.zero_le _) (Nat.zero_le _)

set_option maxRecDepth 100000 in
theorem cX_bridges_J {l : Launch} {H : Hp} (a1 : Int) (ha1 : isPaper a1) (G : Hp) : J l M_cX_bridges (KWi (fun g => fu g H)) (cX_bridges a1 G) 0 [(2, 0), (2, a1), (9, 0), (9, 0), (9, 0)] [] 224 (fu G H) (0, 0) := by
  unfold cX_bridges
  refine j_iconst dX10_bridges_0 r32_0 ?_
  refine j_istore_n dX10_bridges_1 rfl (Nat.le_of_ble_eq_true rfl) rfl ?_
  refine j_aload_n dX10_bridges_2 rfl rfl ?_
  refine j_grc dX10_bridges_3 gf_X10_62 oc_0 (Or.inl (by decide)) rf_0_8 ?_
  refine j_aload_n dX10_bridges_6 rfl rfl ?_
  refine j_grc dX10_bridges_7 gf_X10_199 (oc_paper ha1) (Or.inl (by decide)) (rf_paper_3 ha1) ?_
  refine j_cVWv dX10_bridges_10 im_cNe_copy lk_X10_228 rfl (As := [(2, (a1 + 1))]) (S := []) rfl oc_87.1 ⟨by decide, by decide⟩ (Nat.le_of_ble_eq_true rfl) (fun r hr => cNe_copy_ct 87 isNet_87 (a1 + 1) (net_paper ha1) G hr) (fun G10 _ => ?_)
  refine j_iconst dX10_bridges_13 r32_0 ?_
  refine j_istore_n dX10_bridges_14 rfl (Nat.le_of_ble_eq_true rfl) rfl ?_
  exact j_mask [true, true, true, true, false] rfl (cX_bridges_L15_J a1 ha1 FU 0 0 G10)

set_option maxRecDepth 100000 in
theorem cX_bridges_ct {l : Launch} {H : Hp} (a1 : Int) (ha1 : isPaper a1) (G : Hp) {r : Int × Hp} (h : cX_bridges a1 G = some r) : Ct l M_cX_bridges [(2, 0), (2, a1)] 224 (fu G H) ((KWi (fun g => fu g H)) r) :=
  ct_of_J (by decide +kernel) rfl (Nat.le_of_ble_eq_true rfl) (cX_bridges_J a1 ha1 G) h
set_option maxRecDepth 100000 in
theorem cX_circle_j57_J {l : Launch} {H : Hp} (a1 : Int) (ha1 : isPaper a1) (x3_26 : Int) (k26 : Int → Int → Hp → Option (Int × Hp)) (hk26 : ∀ (x2_26 : Int) (x4_26 : Int) (G_26 : Hp), J l M_cX_circle (KWi (fun g => fu g H)) (k26 x2_26 x4_26 G_26) 26 [(2, 0), (2, a1), (0, x2_26), (0, x3_26), (0, x4_26), (9, 0)] [] 224 (fu G_26 H) (0, 0)) (x2_57 : Int) (x4_57 : Int) (s0_57 : Int) (G_57 : Hp) : J l M_cX_circle (KWi (fun g => fu g H)) (cX_circle_j57 a1 k26 x2_57 x3_26 x4_57 s0_57 G_57) 57 [(2, 0), (2, a1), (0, x2_57), (0, x3_26), (0, x4_57), (9, 0)] [(0, s0_57)] 224 (fu G_57 H) (0, 0) := by
  unfold cX_circle_j57
  refine j_istore dX10_circle_57 (Nat.le_of_ble_eq_true rfl) rfl ?_
  refine j_iload dX10_circle_59 rfl ?_
  refine j_iconst dX10_circle_61 r32_m1 ?_
  refine j_icmp_eq (tgt := 83) dX10_circle_62 rfl (fun h62 => ?_) (fun h62 => ?_)
  · refine j_iinc dX10_circle_83 rfl (Nat.le_of_ble_eq_true rfl) rfl ?_
    refine j_goto (tgt := 26) dX10_circle_86 rfl ?_
    exact j_mask [true, true, true, true, true, false] rfl (hk26 x2_57 (w32 (x4_57 + 1)) G_57)
  · refine j_iload_n dX10_circle_65 rfl rfl ?_
    refine j_iconst dX10_circle_66 r32_m1 ?_
    refine j_icmp_eq (tgt := 78) dX10_circle_67 rfl (fun h67 => ?_) (fun h67 => ?_)
    · refine j_iload dX10_circle_78 rfl ?_
      refine j_iconst dX10_circle_80 r32_1 ?_
      refine j_iadd dX10_circle_81 ?_
      refine j_istore_n dX10_circle_82 rfl (Nat.le_of_ble_eq_true rfl) rfl ?_
      refine j_iinc dX10_circle_83 rfl (Nat.le_of_ble_eq_true rfl) rfl ?_
      refine j_goto (tgt := 26) dX10_circle_86 rfl ?_
      exact j_mask [true, true, true, true, true, false] rfl (hk26 (w32 (s0_57 + 1)) (w32 (x4_57 + 1)) G_57)
    · refine j_iload dX10_circle_70 rfl ?_
      refine j_iconst dX10_circle_72 r32_1 ?_
      refine j_iadd dX10_circle_73 ?_
      refine j_iload_n dX10_circle_74 rfl rfl ?_
      refine j_icmp_ge (tgt := 83) dX10_circle_75 rfl (fun h75 => ?_) (fun h75 => ?_)
      · refine j_iload dX10_circle_78 rfl ?_
        refine j_iconst dX10_circle_80 r32_1 ?_
        refine j_iadd dX10_circle_81 ?_
        refine j_istore_n dX10_circle_82 rfl (Nat.le_of_ble_eq_true rfl) rfl ?_
        refine j_iinc dX10_circle_83 rfl (Nat.le_of_ble_eq_true rfl) rfl ?_
        refine j_goto (tgt := 26) dX10_circle_86 rfl ?_
        exact j_mask [true, true, true, true, true, false] rfl (hk26 (w32 (s0_57 + 1)) (w32 (x4_57 + 1)) G_57)
      · refine j_iinc dX10_circle_83 rfl (Nat.le_of_ble_eq_true rfl) rfl ?_
        refine j_goto (tgt := 26) dX10_circle_86 rfl ?_
        exact j_mask [true, true, true, true, true, false] rfl (hk26 x2_57 (w32 (x4_57 + 1)) G_57)

set_option maxRecDepth 100000 in
theorem cX_circle_L26_J {l : Launch} {H : Hp} (a1 : Int) (ha1 : isPaper a1) (x3_26 : Int) (k89 : Int → Hp → Option (Int × Hp)) (hk89 : ∀ (x2_89 : Int) (G_89 : Hp), J l M_cX_circle (KWi (fun g => fu g H)) (k89 x2_89 G_89) 89 [(2, 0), (2, a1), (0, x2_89), (0, x3_26), (9, 0), (9, 0)] [] 224 (fu G_89 H) (0, 0)) : ∀ (n_26 : Nat) (x2_26 : Int) (x4_26 : Int) (G_26 : Hp), J l M_cX_circle (KWi (fun g => fu g H)) (cX_circle_L26 a1 x3_26 k89 n_26 x2_26 x4_26 G_26) 26 [(2, 0), (2, a1), (0, x2_26), (0, x3_26), (0, x4_26), (9, 0)] [] 224 (fu G_26 H) (0, 0) := by
  intro n_26
  induction n_26 with
  | zero =>
    intro x2_26 x4_26 G_26
    exact j_none
  | succ n_26 ih =>
    intro x2_26 x4_26 G_26
    rw [cX_circle_L26]
    refine j_iload dX10_circle_26 rfl ?_
    refine j_bipush dX10_circle_28 r32_10 bp_10 ?_
    refine j_icmp_ge (tgt := 89) dX10_circle_30 rfl (fun h30 => ?_) (fun h30 => ?_)
    · refine j_aload_n dX10_circle_33 rfl rfl ?_
      refine j_grc dX10_circle_34 gf_X10_199 (oc_paper ha1) (Or.inl (by decide)) (rf_paper_3 ha1) ?_
      refine j_iload_n dX10_circle_37 rfl rfl ?_
      refine j_iload dX10_circle_38 rfl ?_
      refine j_cVRb dX10_circle_40 im_cNe_near lk_X10_231 rfl (As := [(0, x3_26), (0, x4_26)]) (S := []) rfl (oc_net (net_paper ha1)).1 ⟨by decide, by decide⟩ (Nat.le_of_ble_eq_true rfl) (fun r hr => cNe_near_ct (a1 + 1) (net_paper ha1) x3_26 x4_26 G_26 hr) (fun v40 _ => ?_)
      refine j_ifb_eq (tgt := 56) dX10_circle_43 rfl (fun h43 => ?_) (fun h43 => ?_)
      · refine j_aload_n dX10_circle_46 rfl rfl ?_
        refine j_iload_n dX10_circle_47 rfl rfl ?_
        refine j_iload dX10_circle_48 rfl ?_
        refine j_cVWi dX10_circle_50 im_cX_aroundTo lk_X10_235 rfl (As := [(0, x3_26), (0, x4_26)]) (S := []) rfl oc_0.1 ⟨by decide, by decide⟩ (Nat.le_of_ble_eq_true rfl) (fun r hr => cX_aroundTo_ct x3_26 x4_26 G_26 hr) (fun r50 _ => ?_)
        refine j_goto (tgt := 57) dX10_circle_53 rfl ?_
        exact j_mask [true, true, true, true, true, false] rfl (cX_circle_j57_J a1 ha1 x3_26 (cX_circle_L26 a1 x3_26 k89 n_26) ih x2_26 x4_26 r50.1 r50.2)
      · refine j_iconst dX10_circle_56 r32_m1 ?_
        exact j_mask [true, true, true, true, true, false] rfl (cX_circle_j57_J a1 ha1 x3_26 (cX_circle_L26 a1 x3_26 k89 n_26) ih x2_26 x4_26 (-1) G_26)
    · exact j_mask [true, true, true, true, false, false] rfl (hk89 x2_26 G_26)

set_option maxRecDepth 100000 in
theorem cX_circle_L15_J {l : Launch} {H : Hp} (a1 : Int) (ha1 : isPaper a1) : ∀ (n_15 : Nat) (x2_15 : Int) (x3_15 : Int) (G_15 : Hp), J l M_cX_circle (KWi (fun g => fu g H)) (cX_circle_L15 a1  n_15 x2_15 x3_15 G_15) 15 [(2, 0), (2, a1), (0, x2_15), (0, x3_15), (9, 0), (9, 0)] [] 224 (fu G_15 H) (0, 0) := by
  intro n_15
  induction n_15 with
  | zero =>
    intro x2_15 x3_15 G_15
    exact j_none
  | succ n_15 ih =>
    intro x2_15 x3_15 G_15
    rw [cX_circle_L15]
    refine j_iload_n dX10_circle_15 rfl rfl ?_
    refine j_bipush dX10_circle_16 r32_10 bp_10 ?_
    refine j_icmp_ge (tgt := 95) dX10_circle_18 rfl (fun h18 => ?_) (fun h18 => ?_)
    · refine j_iload_n dX10_circle_21 rfl rfl ?_
      refine j_iconst dX10_circle_22 r32_1 ?_
      refine j_iadd dX10_circle_23 ?_
      refine j_istore dX10_circle_24 (Nat.le_of_ble_eq_true rfl) rfl ?_
      refine j_mask [true, true, true, true, true, false] rfl (cX_circle_L26_J a1 ha1 x3_15 (fun x2_89 G_89 => cX_circle_L15 a1 n_15 x2_89 (w32 (x3_15 + 1)) G_89) (fun x2_89 G_89 => ?_) FU x2_15 (w32 (x3_15 + 1)) G_15)
      refine j_iinc dX10_circle_89 rfl (Nat.le_of_ble_eq_true rfl) rfl ?_
      refine j_goto (tgt := 15) dX10_circle_92 rfl ?_
      exact j_mask [true, true, true, true, false, false] rfl (ih x2_89 (w32 (x3_15 + 1)) G_89)
    · refine j_iload_n dX10_circle_95 rfl rfl ?_
      exact j_ireturn dX10_circle_96 rfl rfl (Nat.zero_le _) (Nat.zero_le _)

set_option maxRecDepth 100000 in
theorem cX_circle_J {l : Launch} {H : Hp} (a1 : Int) (ha1 : isPaper a1) (G : Hp) : J l M_cX_circle (KWi (fun g => fu g H)) (cX_circle a1 G) 0 [(2, 0), (2, a1), (9, 0), (9, 0), (9, 0), (9, 0)] [] 224 (fu G H) (0, 0) := by
  unfold cX_circle
  refine j_iconst dX10_circle_0 r32_m1 ?_
  refine j_istore_n dX10_circle_1 rfl (Nat.le_of_ble_eq_true rfl) rfl ?_
  refine j_aload_n dX10_circle_2 rfl rfl ?_
  refine j_grc dX10_circle_3 gf_X10_62 oc_0 (Or.inl (by decide)) rf_0_8 ?_
  refine j_aload_n dX10_circle_6 rfl rfl ?_
  refine j_grc dX10_circle_7 gf_X10_199 (oc_paper ha1) (Or.inl (by decide)) (rf_paper_3 ha1) ?_
  refine j_cVWv dX10_circle_10 im_cNe_copy lk_X10_228 rfl (As := [(2, (a1 + 1))]) (S := []) rfl oc_87.1 ⟨by decide, by decide⟩ (Nat.le_of_ble_eq_true rfl) (fun r hr => cNe_copy_ct 87 isNet_87 (a1 + 1) (net_paper ha1) G hr) (fun G10 _ => ?_)
  refine j_iconst dX10_circle_13 r32_0 ?_
  refine j_istore_n dX10_circle_14 rfl (Nat.le_of_ble_eq_true rfl) rfl ?_
  exact j_mask [true, true, true, true, false, false] rfl (cX_circle_L15_J a1 ha1 FU (-1) 0 G10)

set_option maxRecDepth 100000 in
theorem cX_circle_ct {l : Launch} {H : Hp} (a1 : Int) (ha1 : isPaper a1) (G : Hp) {r : Int × Hp} (h : cX_circle a1 G = some r) : Ct l M_cX_circle [(2, 0), (2, a1)] 224 (fu G H) ((KWi (fun g => fu g H)) r) :=
  ct_of_J (by decide +kernel) rfl (Nat.le_of_ble_eq_true rfl) (cX_circle_J a1 ha1 G) h
set_option maxRecDepth 100000 in
theorem cX_kin_J {l : Launch} {H : Hp} (a1 : Int) (a2 : Int) (G : Hp) : J l M_cX_kin (KWi (fun g => fu g H)) (cX_kin a1 a2 G) 0 [(2, 0), (0, a1), (0, a2), (9, 0)] [] 224 (fu G H) (0, 0) := by
  unfold cX_kin
  refine j_aload_n dX10_kin_0 rfl rfl ?_
  refine j_iload_n dX10_kin_1 rfl rfl ?_
  refine j_cVRr dX10_kin_2 im_cX_paperAt lk_X10_124 rfl (As := [(0, a1)]) (S := []) rfl oc_0.1 ⟨by decide, by decide⟩ (Nat.le_of_ble_eq_true rfl) (fun r hr => cX_paperAt_ct a1 G hr) (fun v2 hv2 => ?_)
  refine j_astore_n dX10_kin_5 rfl (Nat.le_of_ble_eq_true rfl) rfl ?_
  refine j_aload_n dX10_kin_6 rfl rfl ?_
  refine j_ifnonnull (tgt := 13) dX10_kin_7 rfl (fun h7 => ?_) (fun h7 => ?_)
  · refine j_bipush dX10_kin_10 r32_m2 bp_m2 ?_
    exact j_ireturn dX10_kin_12 rfl rfl (Nat.zero_le _) (Nat.zero_le _)
  · refine j_iload_n dX10_kin_13 rfl rfl ?_
    refine j_ite _ (fun hc14_0 => ?_) (fun hc14_0 => ?_)
    · refine j_swIn (i := 0) (tgt := 52) dX10_kin_14 (hc14_0.trans (by decide)) (by decide) rfl rfl ?_
      refine j_aload_n dX10_kin_52 rfl rfl ?_
      refine j_grc dX10_kin_53 gf_X10_199 (oc_paper (cX_paperAt_ok hv2 h7)) (Or.inl (by decide)) (rf_paper_3 (cX_paperAt_ok hv2 h7)) ?_
      refine j_cVWi dX10_kin_56 im_cNe_kinds lk_X10_209 rfl (As := []) (S := []) rfl (oc_net (net_paper (cX_paperAt_ok hv2 h7))).1 ⟨by decide, by decide⟩ (Nat.le_of_ble_eq_true rfl) (fun r hr => cNe_kinds_ct (v2 + 1) (net_paper (cX_paperAt_ok hv2 h7)) G hr) (fun r56 _ => ?_)
      exact j_ireturn dX10_kin_59 rfl rfl (Nat.zero_le _) (Nat.zero_le _)
    · refine j_ite _ (fun hc14_1 => ?_) (fun hc14_1 => ?_)
      · refine j_swIn (i := 1) (tgt := 60) dX10_kin_14 (hc14_1.trans (by decide)) (by decide) rfl rfl ?_
        refine j_aload_n dX10_kin_60 rfl rfl ?_
        refine j_grc dX10_kin_61 gf_X10_199 (oc_paper (cX_paperAt_ok hv2 h7)) (Or.inl (by decide)) (rf_paper_3 (cX_paperAt_ok hv2 h7)) ?_
        refine j_cVWi dX10_kin_64 im_cNe_largest lk_X10_212 rfl (As := []) (S := []) rfl (oc_net (net_paper (cX_paperAt_ok hv2 h7))).1 ⟨by decide, by decide⟩ (Nat.le_of_ble_eq_true rfl) (fun r hr => cNe_largest_ct (v2 + 1) (net_paper (cX_paperAt_ok hv2 h7)) G hr) (fun r64 _ => ?_)
        exact j_ireturn dX10_kin_67 rfl rfl (Nat.zero_le _) (Nat.zero_le _)
      · refine j_ite _ (fun hc14_2 => ?_) (fun hc14_2 => ?_)
        · refine j_swIn (i := 2) (tgt := 68) dX10_kin_14 (hc14_2.trans (by decide)) (by decide) rfl rfl ?_
          refine j_aload_n dX10_kin_68 rfl rfl ?_
          refine j_grc dX10_kin_69 gf_X10_199 (oc_paper (cX_paperAt_ok hv2 h7)) (Or.inl (by decide)) (rf_paper_3 (cX_paperAt_ok hv2 h7)) ?_
          refine j_cVWi dX10_kin_72 im_cNe_widest lk_X10_215 rfl (As := []) (S := []) rfl (oc_net (net_paper (cX_paperAt_ok hv2 h7))).1 ⟨by decide, by decide⟩ (Nat.le_of_ble_eq_true rfl) (fun r hr => cNe_widest_ct (v2 + 1) (net_paper (cX_paperAt_ok hv2 h7)) G hr) (fun r72 _ => ?_)
          exact j_ireturn dX10_kin_75 rfl rfl (Nat.zero_le _) (Nat.zero_le _)
        · refine j_ite _ (fun hc14_3 => ?_) (fun hc14_3 => ?_)
          · refine j_swIn (i := 3) (tgt := 76) dX10_kin_14 (hc14_3.trans (by decide)) (by decide) rfl rfl ?_
            refine j_aload_n dX10_kin_76 rfl rfl ?_
            refine j_grc dX10_kin_77 gf_X10_199 (oc_paper (cX_paperAt_ok hv2 h7)) (Or.inl (by decide)) (rf_paper_3 (cX_paperAt_ok hv2 h7)) ?_
            refine j_cVRi dX10_kin_80 im_cNe_lone lk_X10_218 rfl (As := []) (S := []) rfl (oc_net (net_paper (cX_paperAt_ok hv2 h7))).1 ⟨by decide, by decide⟩ (Nat.le_of_ble_eq_true rfl) (fun r hr => cNe_lone_ct (v2 + 1) (net_paper (cX_paperAt_ok hv2 h7)) G hr) (fun v80 _ => ?_)
            exact j_ireturn dX10_kin_83 rfl rfl (Nat.zero_le _) (Nat.zero_le _)
          · refine j_ite _ (fun hc14_4 => ?_) (fun hc14_4 => ?_)
            · refine j_swIn (i := 4) (tgt := 84) dX10_kin_14 (hc14_4.trans (by decide)) (by decide) rfl rfl ?_
              refine j_aload_n dX10_kin_84 rfl rfl ?_
              refine j_aload_n dX10_kin_85 rfl rfl ?_
              refine j_cVWi dX10_kin_86 im_cX_bridges lk_X10_221 rfl (As := [(2, v2)]) (S := []) rfl oc_0.1 ⟨by decide, by decide⟩ (Nat.le_of_ble_eq_true rfl) (fun r hr => cX_bridges_ct v2 (cX_paperAt_ok hv2 h7) G hr) (fun r86 _ => ?_)
              exact j_ireturn dX10_kin_89 rfl rfl (Nat.zero_le _) (Nat.zero_le _)
            · refine j_ite _ (fun hc14_5 => ?_) (fun hc14_5 => ?_)
              · refine j_swIn (i := 5) (tgt := 90) dX10_kin_14 (hc14_5.trans (by decide)) (by decide) rfl rfl ?_
                refine j_aload_n dX10_kin_90 rfl rfl ?_
                refine j_aload_n dX10_kin_91 rfl rfl ?_
                refine j_cVWi dX10_kin_92 im_cX_circle lk_X10_225 rfl (As := [(2, v2)]) (S := []) rfl oc_0.1 ⟨by decide, by decide⟩ (Nat.le_of_ble_eq_true rfl) (fun r hr => cX_circle_ct v2 (cX_paperAt_ok hv2 h7) G hr) (fun r92 _ => ?_)
                exact j_ireturn dX10_kin_95 rfl rfl (Nat.zero_le _) (Nat.zero_le _)
              · refine j_swOut (tgt := 96) dX10_kin_14 (by omega) rfl ?_
                refine j_bipush dX10_kin_96 r32_m2 bp_m2 ?_
                exact j_ireturn dX10_kin_98 rfl rfl (Nat.zero_le _) (Nat.zero_le _)

set_option maxRecDepth 100000 in
theorem cX_kin_ct {l : Launch} {H : Hp} (a1 : Int) (a2 : Int) (G : Hp) {r : Int × Hp} (h : cX_kin a1 a2 G = some r) : Ct l M_cX_kin [(2, 0), (0, a1), (0, a2)] 224 (fu G H) ((KWi (fun g => fu g H)) r) :=
  ct_of_J (by decide +kernel) rfl (Nat.le_of_ble_eq_true rfl) (cX_kin_J a1 a2 G) h
set_option maxRecDepth 100000 in
theorem cPa_readBy_J {l : Launch} {H : Hp} (o : Int) (ho : isPaper o) (a1 : Int) (a2 : Int) (G : Hp) : J l M_cPa_readBy (KWi (fun g => fu g H)) (cPa_readBy o a1 a2 G) 0 [(2, o), (0, a1), (0, a2)] [] 224 (fu G H) (0, 0) := by
  unfold cPa_readBy
  refine j_aload_n dX3_readBy_0 rfl rfl ?_
  refine j_aload_n dX3_readBy_1 rfl rfl ?_
  refine j_grc dX3_readBy_2 gf_X3_12 (oc_paper ho) (Or.inl (by decide)) (rf_paper_3 ho) ?_
  refine j_iload_n dX3_readBy_5 rfl rfl ?_
  refine j_iload_n dX3_readBy_6 rfl rfl ?_
  refine j_iconst dX3_readBy_7 r32_0 ?_
  refine j_cVWi dX3_readBy_8 im_cPa_readIn lk_X3_70 rfl (As := [(2, (o + 1)), (0, a1), (0, a2), (0, 0)]) (S := []) rfl (oc_paper ho).1 ⟨by decide, by decide⟩ (Nat.le_of_ble_eq_true rfl) (fun r hr => cPa_readIn_ct o ho (o + 1) (net_paper ho) a1 a2 0 G hr) (fun r8 _ => ?_)
  exact j_ireturn dX3_readBy_11 rfl rfl (Nat.zero_le _) (Nat.zero_le _)

set_option maxRecDepth 100000 in
theorem cPa_readBy_ct {l : Launch} {H : Hp} (o : Int) (ho : isPaper o) (a1 : Int) (a2 : Int) (G : Hp) {r : Int × Hp} (h : cPa_readBy o a1 a2 G = some r) : Ct l M_cPa_readBy [(2, o), (0, a1), (0, a2)] 224 (fu G H) ((KWi (fun g => fu g H)) r) :=
  ct_of_J (by decide +kernel) rfl (Nat.le_of_ble_eq_true rfl) (cPa_readBy_J o ho a1 a2 G) h
set_option maxRecDepth 100000 in
theorem cPa_contentOfAll_L4_J {l : Launch} {H : Hp} (o : Int) (ho : isPaper o) (a1 : Int) (G : Hp) : ∀ (n_4 : Nat) (x2_4 : Int) (x3_4 : Int), J l M_cPa_contentOfAll (KRi (fu G H)) (cPa_contentOfAll_L4 o a1 G  n_4 x2_4 x3_4) 4 [(2, o), (0, a1), (0, x2_4), (0, x3_4)] [] 224 (fu G H) (0, 0) := by
  intro n_4
  induction n_4 with
  | zero =>
    intro x2_4 x3_4
    exact j_none
  | succ n_4 ih =>
    intro x2_4 x3_4
    rw [cPa_contentOfAll_L4]
    refine j_iload_n dX3_contentOfAll_4 rfl rfl ?_
    refine j_aload_n dX3_contentOfAll_5 rfl rfl ?_
    refine j_gic dX3_contentOfAll_6 gf_X3_35 (oc_paper ho) ?_
    refine j_icmp_ge (tgt := 27) dX3_contentOfAll_9 rfl (fun h9 => ?_) (fun h9 => ?_)
    · refine j_iload_n dX3_contentOfAll_12 rfl rfl ?_
      refine j_aload_n dX3_contentOfAll_13 rfl rfl ?_
      refine j_iload_n dX3_contentOfAll_14 rfl rfl ?_
      refine j_iload_n dX3_contentOfAll_15 rfl rfl ?_
      refine j_cVRi dX3_contentOfAll_16 im_cPa_content lk_X3_63 rfl (As := [(0, x3_4), (0, a1)]) (S := [(0, x2_4)]) rfl (oc_paper ho).1 ⟨by decide, by decide⟩ (Nat.le_of_ble_eq_true rfl) (fun r hr => cPa_content_ct o ho x3_4 a1 G hr) (fun v16 _ => ?_)
      refine j_iadd dX3_contentOfAll_19 ?_
      refine j_istore_n dX3_contentOfAll_20 rfl (Nat.le_of_ble_eq_true rfl) rfl ?_
      refine j_iinc dX3_contentOfAll_21 rfl (Nat.le_of_ble_eq_true rfl) rfl ?_
      refine j_goto (tgt := 4) dX3_contentOfAll_24 rfl ?_
      exact j_mask [true, true, true, true] rfl (ih (w32 (x2_4 + v16)) (w32 (x3_4 + 1)))
    · refine j_iload_n dX3_contentOfAll_27 rfl rfl ?_
      exact j_ireturn dX3_contentOfAll_28 rfl rfl (Nat.zero_le _) (Nat.zero_le _)

set_option maxRecDepth 100000 in
theorem cPa_contentOfAll_J {l : Launch} {H : Hp} (o : Int) (ho : isPaper o) (a1 : Int) (G : Hp) : J l M_cPa_contentOfAll (KRi (fu G H)) (cPa_contentOfAll o a1 G) 0 [(2, o), (0, a1), (9, 0), (9, 0)] [] 224 (fu G H) (0, 0) := by
  unfold cPa_contentOfAll
  refine j_iconst dX3_contentOfAll_0 r32_0 ?_
  refine j_istore_n dX3_contentOfAll_1 rfl (Nat.le_of_ble_eq_true rfl) rfl ?_
  refine j_iconst dX3_contentOfAll_2 r32_0 ?_
  refine j_istore_n dX3_contentOfAll_3 rfl (Nat.le_of_ble_eq_true rfl) rfl ?_
  exact j_mask [true, true, true, true] rfl (cPa_contentOfAll_L4_J o ho a1 G FU 0 0)

set_option maxRecDepth 100000 in
theorem cPa_contentOfAll_ct {l : Launch} {H : Hp} (o : Int) (ho : isPaper o) (a1 : Int) (G : Hp) {r : Int} (h : cPa_contentOfAll o a1 G = some r) : Ct l M_cPa_contentOfAll [(2, o), (0, a1)] 224 (fu G H) ((KRi (fu G H)) r) :=
  ct_of_J (by decide +kernel) rfl (Nat.le_of_ble_eq_true rfl) (cPa_contentOfAll_J o ho a1 G) h
set_option maxRecDepth 100000 in
theorem cX_standsAt_J {l : Launch} {H : Hp} (a0 : Int) (ha0 : isPaper a0) (a1 : Int) (a2 : Int) (G : Hp) : J l M_cX_standsAt (KRi (fu G H)) (cX_standsAt a0 a1 a2 G) 0 [(2, a0), (0, a1), (0, a2), (9, 0)] [] 224 (fu G H) (0, 0) := by
  unfold cX_standsAt
  refine j_iload_n dX10_standsAt_0 rfl rfl ?_
  refine j_bipush dX10_standsAt_1 r32_10 bp_10 ?_
  refine j_isub dX10_standsAt_3 ?_
  refine j_istore_n dX10_standsAt_4 rfl (Nat.le_of_ble_eq_true rfl) rfl ?_
  refine j_iload_n dX10_standsAt_5 rfl rfl ?_
  refine j_if_lt (tgt := 17) dX10_standsAt_6 rfl (fun h6 => ?_) (fun h6 => ?_)
  · refine j_bipush dX10_standsAt_17 r32_m2 bp_m2 ?_
    refine j_goto (tgt := 27) dX10_standsAt_19 rfl ?_
    exact j_ireturn dX10_standsAt_27 rfl rfl (Nat.zero_le _) (Nat.zero_le _)
  · refine j_iload_n dX10_standsAt_9 rfl rfl ?_
    refine j_aload_n dX10_standsAt_10 rfl rfl ?_
    refine j_gic dX10_standsAt_11 gf_X10_269 (oc_paper ha0) ?_
    refine j_icmp_lt (tgt := 22) dX10_standsAt_14 rfl (fun h14 => ?_) (fun h14 => ?_)
    · refine j_bipush dX10_standsAt_17 r32_m2 bp_m2 ?_
      refine j_goto (tgt := 27) dX10_standsAt_19 rfl ?_
      exact j_ireturn dX10_standsAt_27 rfl rfl (Nat.zero_le _) (Nat.zero_le _)
    · refine j_iload_n dX10_standsAt_22 rfl rfl ?_
      refine j_iload_n dX10_standsAt_23 rfl rfl ?_
      refine j_cSRip dX10_standsAt_24 sm_cX_wordAt lk_X10_272 rfl (As := [(0, a1), (0, w32 (a2 - 10))]) (S := []) rfl ⟨by decide, by decide⟩ (Nat.le_of_ble_eq_true rfl) (cX_wordAt_ct a1 (w32 (a2 - 10))) ?_
      exact j_ireturn dX10_standsAt_27 rfl rfl (Nat.zero_le _) (Nat.zero_le _)

set_option maxRecDepth 100000 in
theorem cX_standsAt_ct {l : Launch} {H : Hp} (a0 : Int) (ha0 : isPaper a0) (a1 : Int) (a2 : Int) (G : Hp) {r : Int} (h : cX_standsAt a0 a1 a2 G = some r) : Ct l M_cX_standsAt [(2, a0), (0, a1), (0, a2)] 224 (fu G H) ((KRi (fu G H)) r) :=
  ct_of_J (by decide +kernel) rfl (Nat.le_of_ble_eq_true rfl) (cX_standsAt_J a0 ha0 a1 a2 G) h
set_option maxRecDepth 100000 in
theorem cX_reading_J {l : Launch} {H : Hp} (a1 : Int) (a2 : Int) (a3 : Int) (G : Hp) : J l M_cX_reading (KWi (fun g => fu g H)) (cX_reading a1 a2 a3 G) 0 [(2, 0), (0, a1), (0, a2), (0, a3), (9, 0), (9, 0)] [] 224 (fu G H) (0, 0) := by
  unfold cX_reading
  refine j_aload_n dX10_reading_0 rfl rfl ?_
  refine j_iload_n dX10_reading_1 rfl rfl ?_
  refine j_cVRr dX10_reading_2 im_cX_paperAt lk_X10_124 rfl (As := [(0, a1)]) (S := []) rfl oc_0.1 ⟨by decide, by decide⟩ (Nat.le_of_ble_eq_true rfl) (fun r hr => cX_paperAt_ct a1 G hr) (fun v2 hv2 => ?_)
  refine j_astore dX10_reading_5 (Nat.le_of_ble_eq_true rfl) rfl ?_
  refine j_aload dX10_reading_7 rfl ?_
  refine j_ifnull (tgt := 25) dX10_reading_9 rfl (fun h9 => ?_) (fun h9 => ?_)
  · refine j_bipush dX10_reading_25 r32_m2 bp_m2 ?_
    exact j_ireturn dX10_reading_27 rfl rfl (Nat.zero_le _) (Nat.zero_le _)
  · refine j_iload_n dX10_reading_12 rfl rfl ?_
    refine j_if_lt (tgt := 25) dX10_reading_13 rfl (fun h13 => ?_) (fun h13 => ?_)
    · refine j_bipush dX10_reading_25 r32_m2 bp_m2 ?_
      exact j_ireturn dX10_reading_27 rfl rfl (Nat.zero_le _) (Nat.zero_le _)
    · refine j_iload_n dX10_reading_16 rfl rfl ?_
      refine j_aload dX10_reading_17 rfl ?_
      refine j_gic dX10_reading_19 gf_X10_245 (oc_paper (cX_paperAt_ok hv2 h9)) ?_
      refine j_icmp_lt (tgt := 28) dX10_reading_22 rfl (fun h22 => ?_) (fun h22 => ?_)
      · refine j_bipush dX10_reading_25 r32_m2 bp_m2 ?_
        exact j_ireturn dX10_reading_27 rfl rfl (Nat.zero_le _) (Nat.zero_le _)
      · refine j_aload dX10_reading_28 rfl ?_
        refine j_iload_n dX10_reading_30 rfl rfl ?_
        refine j_aload dX10_reading_31 rfl ?_
        refine j_gic dX10_reading_33 gf_X10_248 (oc_paper (cX_paperAt_ok hv2 h9)) ?_
        refine j_cVWi dX10_reading_36 im_cPa_readBy lk_X10_251 rfl (As := [(0, a2), (0, G v2 0)]) (S := []) rfl (oc_paper (cX_paperAt_ok hv2 h9)).1 ⟨by decide, by decide⟩ (Nat.le_of_ble_eq_true rfl) (fun r hr => cPa_readBy_ct v2 (cX_paperAt_ok hv2 h9) a2 (G v2 0) G hr) (fun r36 _ => ?_)
        refine j_istore dX10_reading_39 (Nat.le_of_ble_eq_true rfl) rfl ?_
        refine j_iload_n dX10_reading_41 rfl rfl ?_
        refine j_if_ne (tgt := 59) dX10_reading_42 rfl (fun h42 => ?_) (fun h42 => ?_)
        · refine j_aload dX10_reading_45 rfl ?_
          refine j_gic dX10_reading_47 gf_X10_248 (oc_paper (cX_paperAt_ok hv2 h9)) ?_
          refine j_iload dX10_reading_50 rfl ?_
          refine j_cSRi dX10_reading_52 sm_cX_unlikePlaces lk_X10_254 rfl (As := [(0, r36.2 v2 0), (0, r36.1)]) (S := []) rfl ⟨by decide, by decide⟩ (Nat.le_of_ble_eq_true rfl) (fun r hr => cX_unlikePlaces_ct (r36.2 v2 0) r36.1 r36.2 hr) (fun v52 _ => ?_)
          refine j_cSRip dX10_reading_55 sm_jI_bitCount lk_X10_257 rfl (As := [(0, v52)]) (S := []) rfl ⟨by decide, by decide⟩ (Nat.le_of_ble_eq_true rfl) (jI_bitCount_ct v52) ?_
          exact j_ireturn dX10_reading_58 rfl rfl (Nat.zero_le _) (Nat.zero_le _)
        · refine j_iload_n dX10_reading_59 rfl rfl ?_
          refine j_iconst dX10_reading_60 r32_1 ?_
          refine j_icmp_ne (tgt := 74) dX10_reading_61 rfl (fun h61 => ?_) (fun h61 => ?_)
          · refine j_aload dX10_reading_64 rfl ?_
            refine j_iload dX10_reading_66 rfl ?_
            refine j_cVRi dX10_reading_68 im_cPa_contentOfAll lk_X10_262 rfl (As := [(0, r36.1)]) (S := []) rfl (oc_paper (cX_paperAt_ok hv2 h9)).1 ⟨by decide, by decide⟩ (Nat.le_of_ble_eq_true rfl) (fun r hr => cPa_contentOfAll_ct v2 (cX_paperAt_ok hv2 h9) r36.1 r36.2 hr) (fun v68 _ => ?_)
            refine j_goto (tgt := 82) dX10_reading_71 rfl ?_
            exact j_ireturn dX10_reading_82 rfl rfl (Nat.zero_le _) (Nat.zero_le _)
          · refine j_aload dX10_reading_74 rfl ?_
            refine j_iload dX10_reading_76 rfl ?_
            refine j_iload_n dX10_reading_78 rfl rfl ?_
            refine j_cSRi dX10_reading_79 sm_cX_standsAt lk_X10_265 rfl (As := [(2, v2), (0, r36.1), (0, a3)]) (S := []) rfl ⟨by decide, by decide⟩ (Nat.le_of_ble_eq_true rfl) (fun r hr => cX_standsAt_ct v2 (cX_paperAt_ok hv2 h9) r36.1 a3 r36.2 hr) (fun v79 _ => ?_)
            exact j_ireturn dX10_reading_82 rfl rfl (Nat.zero_le _) (Nat.zero_le _)

set_option maxRecDepth 100000 in
theorem cX_reading_ct {l : Launch} {H : Hp} (a1 : Int) (a2 : Int) (a3 : Int) (G : Hp) {r : Int × Hp} (h : cX_reading a1 a2 a3 G = some r) : Ct l M_cX_reading [(2, 0), (0, a1), (0, a2), (0, a3)] 224 (fu G H) ((KWi (fun g => fu g H)) r) :=
  ct_of_J (by decide +kernel) rfl (Nat.le_of_ble_eq_true rfl) (cX_reading_J a1 a2 a3 G) h
set_option maxRecDepth 100000 in
theorem cRo_lap_L4_J {l : Launch} {H : Hp} (a1 : Int) (ha1 : isPaper a1) : ∀ (n_4 : Nat) (x2_4 : Int) (x3_4 : Int) (G_4 : Hp), J l M_cRo_lap (KWb (fun g => fu g H)) (cRo_lap_L4 a1  n_4 x2_4 x3_4 G_4) 4 [(2, 78), (2, a1), (0, x2_4), (0, x3_4), (9, 0)] [] 224 (fu G_4 H) (0, 0) := by
  intro n_4
  induction n_4 with
  | zero =>
    intro x2_4 x3_4 G_4
    exact j_none
  | succ n_4 ih =>
    intro x2_4 x3_4 G_4
    rw [cRo_lap_L4]
    refine j_iload_n dX4_lap_4 rfl rfl ?_
    refine j_aload_n dX4_lap_5 rfl rfl ?_
    refine j_gic dX4_lap_6 gf_X4_38 (oc_paper ha1) ?_
    refine j_icmp_ge (tgt := 54) dX4_lap_9 rfl (fun h9 => ?_) (fun h9 => ?_)
    · refine j_aload_n dX4_lap_12 rfl rfl ?_
      refine j_iload_n dX4_lap_13 rfl rfl ?_
      refine j_aload_n dX4_lap_14 rfl rfl ?_
      refine j_gic dX4_lap_15 gf_X4_27 oc_78 ?_
      refine j_cVWi dX4_lap_18 im_cPa_readBy lk_X4_41 rfl (As := [(0, x3_4), (0, G_4 78 3)]) (S := []) rfl (oc_paper ha1).1 ⟨by decide, by decide⟩ (Nat.le_of_ble_eq_true rfl) (fun r hr => cPa_readBy_ct a1 ha1 x3_4 (G_4 78 3) G_4 hr) (fun r18 _ => ?_)
      refine j_istore dX4_lap_21 (Nat.le_of_ble_eq_true rfl) rfl ?_
      refine j_iload_n dX4_lap_23 rfl rfl ?_
      refine j_if_ne (tgt := 36) dX4_lap_24 rfl (fun h24 => ?_) (fun h24 => ?_)
      · refine j_iload dX4_lap_27 rfl ?_
        refine j_aload_n dX4_lap_29 rfl rfl ?_
        refine j_gic dX4_lap_30 gf_X4_27 oc_78 ?_
        refine j_icmp_eq (tgt := 40) dX4_lap_33 rfl (fun h33 => ?_) (fun h33 => ?_)
        · refine j_iconst dX4_lap_40 r32_0 ?_
          refine j_istore_n dX4_lap_41 rfl (Nat.le_of_ble_eq_true rfl) rfl ?_
          refine j_aload_n dX4_lap_42 rfl rfl ?_
          refine j_iload dX4_lap_43 rfl ?_
          refine j_pic dX4_lap_45 gf_X4_27 po_4_3 oc_78 (nf_4_3 _) ?_
          refine j_iinc dX4_lap_48 rfl (Nat.le_of_ble_eq_true rfl) rfl ?_
          refine j_goto (tgt := 4) dX4_lap_51 rfl ?_
          exact j_mask [true, true, true, true, false] rfl (ih 0 (w32 (x3_4 + 1)) (upd2 r18.2 78 3 r18.1))
        · refine j_iconst dX4_lap_36 r32_1 ?_
          refine j_goto (tgt := 41) dX4_lap_37 rfl ?_
          refine j_istore_n dX4_lap_41 rfl (Nat.le_of_ble_eq_true rfl) rfl ?_
          refine j_aload_n dX4_lap_42 rfl rfl ?_
          refine j_iload dX4_lap_43 rfl ?_
          refine j_pic dX4_lap_45 gf_X4_27 po_4_3 oc_78 (nf_4_3 _) ?_
          refine j_iinc dX4_lap_48 rfl (Nat.le_of_ble_eq_true rfl) rfl ?_
          refine j_goto (tgt := 4) dX4_lap_51 rfl ?_
          exact j_mask [true, true, true, true, false] rfl (ih 1 (w32 (x3_4 + 1)) (upd2 r18.2 78 3 r18.1))
      · refine j_iconst dX4_lap_36 r32_1 ?_
        refine j_goto (tgt := 41) dX4_lap_37 rfl ?_
        refine j_istore_n dX4_lap_41 rfl (Nat.le_of_ble_eq_true rfl) rfl ?_
        refine j_aload_n dX4_lap_42 rfl rfl ?_
        refine j_iload dX4_lap_43 rfl ?_
        refine j_pic dX4_lap_45 gf_X4_27 po_4_3 oc_78 (nf_4_3 _) ?_
        refine j_iinc dX4_lap_48 rfl (Nat.le_of_ble_eq_true rfl) rfl ?_
        refine j_goto (tgt := 4) dX4_lap_51 rfl ?_
        exact j_mask [true, true, true, true, false] rfl (ih 1 (w32 (x3_4 + 1)) (upd2 r18.2 78 3 r18.1))
    · refine j_iload_n dX4_lap_54 rfl rfl ?_
      refine j_zret (fun hb_ => ?_) (fun hb_ => ?_)
      · rw [hb_]
        exact j_zreturn (b := false) dX4_lap_55 rfl rfl (Nat.zero_le _) (Nat.zero_le _)
      · rw [hb_]
        exact j_zreturn (b := true) dX4_lap_55 rfl rfl (Nat.zero_le _) (Nat.zero_le _)

set_option maxRecDepth 100000 in
theorem cRo_lap_J {l : Launch} {H : Hp} (a1 : Int) (ha1 : isPaper a1) (G : Hp) : J l M_cRo_lap (KWb (fun g => fu g H)) (cRo_lap a1 G) 0 [(2, 78), (2, a1), (9, 0), (9, 0), (9, 0)] [] 224 (fu G H) (0, 0) := by
  unfold cRo_lap
  refine j_iconst dX4_lap_0 r32_0 ?_
  refine j_istore_n dX4_lap_1 rfl (Nat.le_of_ble_eq_true rfl) rfl ?_
  refine j_iconst dX4_lap_2 r32_0 ?_
  refine j_istore_n dX4_lap_3 rfl (Nat.le_of_ble_eq_true rfl) rfl ?_
  exact j_mask [true, true, true, true, false] rfl (cRo_lap_L4_J a1 ha1 FU 0 0 G)

set_option maxRecDepth 100000 in
theorem cRo_lap_ct {l : Launch} {H : Hp} (a1 : Int) (ha1 : isPaper a1) (G : Hp) {r : Bool × Hp} (h : cRo_lap a1 G = some r) : Ct l M_cRo_lap [(2, 78), (2, a1)] 224 (fu G H) ((KWb (fun g => fu g H)) r) :=
  ct_of_J (by decide +kernel) rfl (Nat.le_of_ble_eq_true rfl) (cRo_lap_J a1 ha1 G) h
set_option maxRecDepth 100000 in
theorem cRo_seek_L2_J {l : Launch} {H : Hp} (a1 : Int) : ∀ (n_2 : Nat) (x2_2 : Int) (G_2 : Hp), J l M_cRo_seek (KWv (fun g => fu g H)) (cRo_seek_L2 a1  n_2 x2_2 G_2) 2 [(2, 78), (0, a1), (0, x2_2)] [] 224 (fu G_2 H) (0, 0) := by
  intro n_2
  induction n_2 with
  | zero =>
    intro x2_2 G_2
    exact j_none
  | succ n_2 ih =>
    intro x2_2 G_2
    rw [cRo_seek_L2]
    refine j_iload_n dX4_seek_2 rfl rfl ?_
    refine j_iload_n dX4_seek_3 rfl rfl ?_
    refine j_icmp_ge (tgt := 33) dX4_seek_4 rfl (fun h4 => ?_) (fun h4 => ?_)
    · refine j_aload_n dX4_seek_7 rfl rfl ?_
      refine j_grc dX4_seek_8 gf_X4_9 oc_78 (Or.inl (by decide)) rf_78_0 ?_
      refine j_iload_n dX4_seek_11 rfl rfl ?_
      refine j_gd (fun h12a h12b => ?_)
      refine j_aic dX4_seek_12 oc_79 rfl h12a h12b ?_
      refine j_aload_n dX4_seek_13 rfl rfl ?_
      refine j_gic dX4_seek_14 gf_X4_27 oc_78 ?_
      refine j_icmp_ne (tgt := 27) dX4_seek_17 rfl (fun h17 => ?_) (fun h17 => ?_)
      · refine j_aload_n dX4_seek_20 rfl rfl ?_
        refine j_iload_n dX4_seek_21 rfl rfl ?_
        refine j_iload_n dX4_seek_22 rfl rfl ?_
        refine j_isub dX4_seek_23 ?_
        refine j_pic dX4_seek_24 gf_X4_19 po_4_2 oc_78 (nf_4_2 _) ?_
        refine j_iinc dX4_seek_27 rfl (Nat.le_of_ble_eq_true rfl) rfl ?_
        refine j_goto (tgt := 2) dX4_seek_30 rfl ?_
        exact j_mask [true, true, true] rfl (ih (w32 (x2_2 + 1)) (upd2 G_2 78 2 (w32 (a1 - x2_2))))
      · refine j_iinc dX4_seek_27 rfl (Nat.le_of_ble_eq_true rfl) rfl ?_
        refine j_goto (tgt := 2) dX4_seek_30 rfl ?_
        exact j_mask [true, true, true] rfl (ih (w32 (x2_2 + 1)) G_2)
    · exact j_return dX4_seek_33 rfl rfl (Nat.zero_le _) (Nat.zero_le _)

set_option maxRecDepth 100000 in
theorem cRo_seek_J {l : Launch} {H : Hp} (a1 : Int) (G : Hp) : J l M_cRo_seek (KWv (fun g => fu g H)) (cRo_seek a1 G) 0 [(2, 78), (0, a1), (9, 0)] [] 224 (fu G H) (0, 0) := by
  unfold cRo_seek
  refine j_iconst dX4_seek_0 r32_0 ?_
  refine j_istore_n dX4_seek_1 rfl (Nat.le_of_ble_eq_true rfl) rfl ?_
  exact j_mask [true, true, true] rfl (cRo_seek_L2_J a1 FU 0 G)

set_option maxRecDepth 100000 in
theorem cRo_seek_ct {l : Launch} {H : Hp} (a1 : Int) (G : Hp) {r : Hp} (h : cRo_seek a1 G = some r) : Ct l M_cRo_seek [(2, 78), (0, a1)] 224 (fu G H) ((KWv (fun g => fu g H)) r) :=
  ct_of_J (by decide +kernel) rfl (Nat.le_of_ble_eq_true rfl) (cRo_seek_J a1 G) h
set_option maxRecDepth 100000 in
theorem cRo_run_L30_J {l : Launch} {H : Hp} (a1 : Int) (ha1 : isPaper a1) : ∀ (n_30 : Nat) (x2_30 : Int) (G_30 : Hp), J l M_cRo_run (KWv (fun g => fu g H)) (cRo_run_L30 a1  n_30 x2_30 G_30) 30 [(2, 78), (2, a1), (0, x2_30), (9, 0)] [] 224 (fu G_30 H) (0, 0) := by
  intro n_30
  induction n_30 with
  | zero =>
    intro x2_30 G_30
    exact j_none
  | succ n_30 ih =>
    intro x2_30 G_30
    rw [cRo_run_L30]
    refine j_iload_n dX4_run_30 rfl rfl ?_
    refine j_bipush dX4_run_31 r32_60 bp_60 ?_
    refine j_icmp_gt (tgt := 93) dX4_run_33 rfl (fun h33 => ?_) (fun h33 => ?_)
    · refine j_aload_n dX4_run_36 rfl rfl ?_
      refine j_gic dX4_run_37 gf_X4_15 oc_78 ?_
      refine j_iconst dX4_run_40 r32_m1 ?_
      refine j_icmp_ne (tgt := 93) dX4_run_41 rfl (fun h41 => ?_) (fun h41 => ?_)
      · refine j_aload_n dX4_run_44 rfl rfl ?_
        refine j_gic dX4_run_45 gf_X4_19 oc_78 ?_
        refine j_iconst dX4_run_48 r32_m1 ?_
        refine j_icmp_ne (tgt := 93) dX4_run_49 rfl (fun h49 => ?_) (fun h49 => ?_)
        · refine j_aload_n dX4_run_52 rfl rfl ?_
          refine j_aload_n dX4_run_53 rfl rfl ?_
          refine j_cVWb dX4_run_54 im_cRo_lap lk_X4_30 rfl (As := [(2, a1)]) (S := []) rfl oc_78.1 ⟨by decide, by decide⟩ (Nat.le_of_ble_eq_true rfl) (fun r hr => cRo_lap_ct a1 ha1 G_30 hr) (fun r54 _ => ?_)
          refine j_istore_n dX4_run_57 rfl (Nat.le_of_ble_eq_true rfl) rfl ?_
          refine j_aload_n dX4_run_58 rfl rfl ?_
          refine j_grc dX4_run_59 gf_X4_9 oc_78 (Or.inl (by decide)) rf_78_0 ?_
          refine j_iload_n dX4_run_62 rfl rfl ?_
          refine j_aload_n dX4_run_63 rfl rfl ?_
          refine j_gic dX4_run_64 gf_X4_27 oc_78 ?_
          refine j_gd (fun h67a h67b => ?_)
          refine j_sic dX4_run_67 oc_79 rfl h67a h67b ?_
          refine j_iload_n dX4_run_68 rfl rfl ?_
          refine j_ifb_ne (tgt := 82) dX4_run_69 rfl (fun h69 => ?_) (fun h69 => ?_)
          · refine j_aload_n dX4_run_82 rfl rfl ?_
            refine j_iload_n dX4_run_83 rfl rfl ?_
            refine j_cVWv dX4_run_84 im_cRo_seek lk_X4_34 rfl (As := [(0, x2_30)]) (S := []) rfl oc_78.1 ⟨by decide, by decide⟩ (Nat.le_of_ble_eq_true rfl) (fun r hr => cRo_seek_ct x2_30 (upd2 r54.2 79 x2_30 (r54.2 78 3)) hr) (fun G84 _ => ?_)
            refine j_iinc dX4_run_87 rfl (Nat.le_of_ble_eq_true rfl) rfl ?_
            refine j_goto (tgt := 30) dX4_run_90 rfl ?_
            exact j_mask [true, true, true, false] rfl (ih (w32 (x2_30 + 1)) G84)
          · refine j_aload_n dX4_run_72 rfl rfl ?_
            refine j_iload_n dX4_run_73 rfl rfl ?_
            refine j_iconst dX4_run_74 r32_1 ?_
            refine j_isub dX4_run_75 ?_
            refine j_pic dX4_run_76 gf_X4_15 po_4_1 oc_78 (nf_4_1 _) ?_
            refine j_goto (tgt := 87) dX4_run_79 rfl ?_
            refine j_iinc dX4_run_87 rfl (Nat.le_of_ble_eq_true rfl) rfl ?_
            refine j_goto (tgt := 30) dX4_run_90 rfl ?_
            exact j_mask [true, true, true, false] rfl (ih (w32 (x2_30 + 1)) (upd2 (upd2 r54.2 79 x2_30 (r54.2 78 3)) 78 1 (w32 (x2_30 - 1))))
        · exact j_return dX4_run_93 rfl rfl (Nat.zero_le _) (Nat.zero_le _)
      · exact j_return dX4_run_93 rfl rfl (Nat.zero_le _) (Nat.zero_le _)
    · exact j_return dX4_run_93 rfl rfl (Nat.zero_le _) (Nat.zero_le _)

set_option maxRecDepth 100000 in
theorem cRo_run_J {l : Launch} {H : Hp} (a1 : Int) (ha1 : isPaper a1) (G : Hp) : J l M_cRo_run (KWv (fun g => fu g H)) (cRo_run a1 G) 0 [(2, 78), (2, a1), (9, 0), (9, 0)] [] 224 (fu G H) (0, 0) := by
  unfold cRo_run
  refine j_aload_n dX4_run_0 rfl rfl ?_
  refine j_iconst dX4_run_1 r32_m1 ?_
  refine j_pic dX4_run_2 gf_X4_15 po_4_1 oc_78 (nf_4_1 _) ?_
  refine j_aload_n dX4_run_5 rfl rfl ?_
  refine j_iconst dX4_run_6 r32_m1 ?_
  refine j_pic dX4_run_7 gf_X4_19 po_4_2 oc_78 (nf_4_2 _) ?_
  refine j_aload_n dX4_run_10 rfl rfl ?_
  refine j_aload_n dX4_run_11 rfl rfl ?_
  refine j_gic dX4_run_12 gf_X4_22 (oc_paper ha1) ?_
  refine j_pic dX4_run_15 gf_X4_27 po_4_3 oc_78 (nf_4_3 _) ?_
  refine j_aload_n dX4_run_18 rfl rfl ?_
  refine j_grc dX4_run_19 gf_X4_9 oc_78 (Or.inl (by decide)) rf_78_0 ?_
  refine j_iconst dX4_run_22 r32_0 ?_
  refine j_aload_n dX4_run_23 rfl rfl ?_
  refine j_gic dX4_run_24 gf_X4_27 oc_78 ?_
  refine j_sic dX4_run_27 oc_79 rfl (by decide) (by decide) ?_
  refine j_iconst dX4_run_28 r32_1 ?_
  refine j_istore_n dX4_run_29 rfl (Nat.le_of_ble_eq_true rfl) rfl ?_
  exact j_mask [true, true, true, false] rfl (cRo_run_L30_J a1 ha1 FU 1 (upd2 (upd2 (upd2 (upd2 G 78 1 (-1)) 78 2 (-1)) 78 3 ((upd2 (upd2 G 78 1 (-1)) 78 2 (-1)) a1 0)) 79 0 ((upd2 (upd2 (upd2 G 78 1 (-1)) 78 2 (-1)) 78 3 ((upd2 (upd2 G 78 1 (-1)) 78 2 (-1)) a1 0)) 78 3)))

set_option maxRecDepth 100000 in
theorem cRo_run_ct {l : Launch} {H : Hp} (a1 : Int) (ha1 : isPaper a1) (G : Hp) {r : Hp} (h : cRo_run a1 G = some r) : Ct l M_cRo_run [(2, 78), (2, a1)] 224 (fu G H) ((KWv (fun g => fu g H)) r) :=
  ct_of_J (by decide +kernel) rfl (Nat.le_of_ble_eq_true rfl) (cRo_run_J a1 ha1 G) h
set_option maxRecDepth 100000 in
theorem cX_rounds_J {l : Launch} {H : Hp} (a1 : Int) (a2 : Int) (G : Hp) : J l M_cX_rounds (KWi (fun g => fu g H)) (cX_rounds a1 a2 G) 0 [(2, 0), (0, a1), (0, a2), (9, 0)] [] 224 (fu G H) (0, 0) := by
  unfold cX_rounds
  refine j_aload_n dX10_rounds_0 rfl rfl ?_
  refine j_iload_n dX10_rounds_1 rfl rfl ?_
  refine j_cVRr dX10_rounds_2 im_cX_paperAt lk_X10_124 rfl (As := [(0, a1)]) (S := []) rfl oc_0.1 ⟨by decide, by decide⟩ (Nat.le_of_ble_eq_true rfl) (fun r hr => cX_paperAt_ct a1 G hr) (fun v2 hv2 => ?_)
  refine j_astore_n dX10_rounds_5 rfl (Nat.le_of_ble_eq_true rfl) rfl ?_
  refine j_aload_n dX10_rounds_6 rfl rfl ?_
  refine j_ifnonnull (tgt := 13) dX10_rounds_7 rfl (fun h7 => ?_) (fun h7 => ?_)
  · refine j_bipush dX10_rounds_10 r32_m2 bp_m2 ?_
    exact j_ireturn dX10_rounds_12 rfl rfl (Nat.zero_le _) (Nat.zero_le _)
  · refine j_aload_n dX10_rounds_13 rfl rfl ?_
    refine j_grc dX10_rounds_14 gf_X10_48 oc_0 (Or.inl (by decide)) rf_0_6 ?_
    refine j_aload_n dX10_rounds_17 rfl rfl ?_
    refine j_cVWv dX10_rounds_18 im_cRo_run lk_X10_275 rfl (As := [(2, v2)]) (S := []) rfl oc_78.1 ⟨by decide, by decide⟩ (Nat.le_of_ble_eq_true rfl) (fun r hr => cRo_run_ct v2 (cX_paperAt_ok hv2 h7) G hr) (fun G18 _ => ?_)
    refine j_iload_n dX10_rounds_21 rfl rfl ?_
    refine j_if_ne (tgt := 33) dX10_rounds_22 rfl (fun h22 => ?_) (fun h22 => ?_)
    · refine j_aload_n dX10_rounds_25 rfl rfl ?_
      refine j_grc dX10_rounds_26 gf_X10_48 oc_0 (Or.inl (by decide)) rf_0_6 ?_
      refine j_gic dX10_rounds_29 gf_X10_278 oc_78 ?_
      exact j_ireturn dX10_rounds_32 rfl rfl (Nat.zero_le _) (Nat.zero_le _)
    · refine j_iload_n dX10_rounds_33 rfl rfl ?_
      refine j_iconst dX10_rounds_34 r32_1 ?_
      refine j_icmp_ne (tgt := 48) dX10_rounds_35 rfl (fun h35 => ?_) (fun h35 => ?_)
      · refine j_aload_n dX10_rounds_38 rfl rfl ?_
        refine j_grc dX10_rounds_39 gf_X10_48 oc_0 (Or.inl (by decide)) rf_0_6 ?_
        refine j_gic dX10_rounds_42 gf_X10_281 oc_78 ?_
        refine j_goto (tgt := 60) dX10_rounds_45 rfl ?_
        exact j_ireturn dX10_rounds_60 rfl rfl (Nat.zero_le _) (Nat.zero_le _)
      · refine j_aload_n dX10_rounds_48 rfl rfl ?_
        refine j_aload_n dX10_rounds_49 rfl rfl ?_
        refine j_grc dX10_rounds_50 gf_X10_48 oc_0 (Or.inl (by decide)) rf_0_6 ?_
        refine j_gic dX10_rounds_53 gf_X10_284 oc_78 ?_
        refine j_iload_n dX10_rounds_56 rfl rfl ?_
        refine j_cSRi dX10_rounds_57 sm_cX_standsAt lk_X10_265 rfl (As := [(2, v2), (0, G18 78 3), (0, a2)]) (S := []) rfl ⟨by decide, by decide⟩ (Nat.le_of_ble_eq_true rfl) (fun r hr => cX_standsAt_ct v2 (cX_paperAt_ok hv2 h7) (G18 78 3) a2 G18 hr) (fun v57 _ => ?_)
        exact j_ireturn dX10_rounds_60 rfl rfl (Nat.zero_le _) (Nat.zero_le _)

set_option maxRecDepth 100000 in
theorem cX_rounds_ct {l : Launch} {H : Hp} (a1 : Int) (a2 : Int) (G : Hp) {r : Int × Hp} (h : cX_rounds a1 a2 G = some r) : Ct l M_cX_rounds [(2, 0), (0, a1), (0, a2)] 224 (fu G H) ((KWi (fun g => fu g H)) r) :=
  ct_of_J (by decide +kernel) rfl (Nat.le_of_ble_eq_true rfl) (cX_rounds_J a1 a2 G) h
set_option maxRecDepth 100000 in
theorem cPa_farFrom_L4_J {l : Launch} {H : Hp} (o : Int) (ho : isPaper o) (a1 : Int) : ∀ (n_4 : Nat) (x2_4 : Int) (x3_4 : Int) (G_4 : Hp), J l M_cPa_farFrom (KWi (fun g => fu g H)) (cPa_farFrom_L4 o a1  n_4 x2_4 x3_4 G_4) 4 [(2, o), (0, a1), (0, x2_4), (0, x3_4)] [] 224 (fu G_4 H) (0, 0) := by
  intro n_4
  induction n_4 with
  | zero =>
    intro x2_4 x3_4 G_4
    exact j_none
  | succ n_4 ih =>
    intro x2_4 x3_4 G_4
    rw [cPa_farFrom_L4]
    refine j_iload_n dX3_farFrom_4 rfl rfl ?_
    refine j_aload_n dX3_farFrom_5 rfl rfl ?_
    refine j_gic dX3_farFrom_6 gf_X3_32 (oc_paper ho) ?_
    refine j_icmp_ge (tgt := 46) dX3_farFrom_9 rfl (fun h9 => ?_) (fun h9 => ?_)
    · refine j_iload_n dX3_farFrom_12 rfl rfl ?_
      refine j_iconst dX3_farFrom_13 r32_0 ?_
      refine j_aload_n dX3_farFrom_14 rfl rfl ?_
      refine j_grc dX3_farFrom_15 gf_X3_12 (oc_paper ho) (Or.inl (by decide)) (rf_paper_3 ho) ?_
      refine j_aload_n dX3_farFrom_18 rfl rfl ?_
      refine j_gic dX3_farFrom_19 gf_X3_28 (oc_paper ho) ?_
      refine j_iload_n dX3_farFrom_22 rfl rfl ?_
      refine j_cSRip dX3_farFrom_23 sm_cX_wordAt lk_X3_53 rfl (As := [(0, G_4 o 0), (0, x3_4)]) (S := [(2, (o + 1)), (0, 0), (0, x2_4)]) rfl ⟨by decide, by decide⟩ (Nat.le_of_ble_eq_true rfl) (cX_wordAt_ct (G_4 o 0) x3_4) ?_
      refine j_aload_n dX3_farFrom_26 rfl rfl ?_
      refine j_iload_n dX3_farFrom_27 rfl rfl ?_
      refine j_iload_n dX3_farFrom_28 rfl rfl ?_
      refine j_cVRi dX3_farFrom_29 im_cPa_wish lk_X3_60 rfl (As := [(0, a1), (0, x3_4)]) (S := [(0, (cX_wordAt (G_4 o 0) x3_4)), (2, (o + 1)), (0, 0), (0, x2_4)]) rfl (oc_paper ho).1 ⟨by decide, by decide⟩ (Nat.le_of_ble_eq_true rfl) (fun r hr => cPa_wish_ct o ho a1 x3_4 G_4 hr) (fun v29 _ => ?_)
      refine j_cVWi dX3_farFrom_32 im_cNe_between lk_X3_80 rfl (As := [(0, (cX_wordAt (G_4 o 0) x3_4)), (0, v29)]) (S := [(0, 0), (0, x2_4)]) rfl (oc_net (net_paper ho)).1 ⟨by decide, by decide⟩ (Nat.le_of_ble_eq_true rfl) (fun r hr => cNe_between_ct (o + 1) (net_paper ho) (cX_wordAt (G_4 o 0) x3_4) v29 G_4 hr) (fun r32 _ => ?_)
      refine j_max dX3_farFrom_35 mm_X3_83 st_max in_Math co_max (Nat.le_of_ble_eq_true rfl) (Nat.le_of_ble_eq_true rfl) (Nat.zero_le _) (Nat.zero_le _) ?_
      refine j_iadd dX3_farFrom_38 ?_
      refine j_istore_n dX3_farFrom_39 rfl (Nat.le_of_ble_eq_true rfl) rfl ?_
      refine j_iinc dX3_farFrom_40 rfl (Nat.le_of_ble_eq_true rfl) rfl ?_
      refine j_goto (tgt := 4) dX3_farFrom_43 rfl ?_
      exact j_mask [true, true, true, true] rfl (ih (w32 (x2_4 + (max 0 r32.1))) (w32 (x3_4 + 1)) r32.2)
    · refine j_iload_n dX3_farFrom_46 rfl rfl ?_
      exact j_ireturn dX3_farFrom_47 rfl rfl (Nat.zero_le _) (Nat.zero_le _)

set_option maxRecDepth 100000 in
theorem cPa_farFrom_J {l : Launch} {H : Hp} (o : Int) (ho : isPaper o) (a1 : Int) (G : Hp) : J l M_cPa_farFrom (KWi (fun g => fu g H)) (cPa_farFrom o a1 G) 0 [(2, o), (0, a1), (9, 0), (9, 0)] [] 224 (fu G H) (0, 0) := by
  unfold cPa_farFrom
  refine j_iconst dX3_farFrom_0 r32_0 ?_
  refine j_istore_n dX3_farFrom_1 rfl (Nat.le_of_ble_eq_true rfl) rfl ?_
  refine j_iconst dX3_farFrom_2 r32_0 ?_
  refine j_istore_n dX3_farFrom_3 rfl (Nat.le_of_ble_eq_true rfl) rfl ?_
  exact j_mask [true, true, true, true] rfl (cPa_farFrom_L4_J o ho a1 FU 0 0 G)

set_option maxRecDepth 100000 in
theorem cPa_farFrom_ct {l : Launch} {H : Hp} (o : Int) (ho : isPaper o) (a1 : Int) (G : Hp) {r : Int × Hp} (h : cPa_farFrom o a1 G = some r) : Ct l M_cPa_farFrom [(2, o), (0, a1)] 224 (fu G H) ((KWi (fun g => fu g H)) r) :=
  ct_of_J (by decide +kernel) rfl (Nat.le_of_ble_eq_true rfl) (cPa_farFrom_J o ho a1 G) h
set_option maxRecDepth 100000 in
theorem cPa_readingsOf_L7_J {l : Launch} {H : Hp} (o : Int) (ho : isPaper o) (a1 : Int) : ∀ (n_7 : Nat) (x2_7 : Int) (x3_7 : Int) (G_7 : Hp), J l M_cPa_readingsOf (KWi (fun g => fu g H)) (cPa_readingsOf_L7 o a1  n_7 x2_7 x3_7 G_7) 7 [(2, o), (0, a1), (0, x2_7), (0, x3_7), (9, 0)] [] 224 (fu G_7 H) (0, 0) := by
  intro n_7
  induction n_7 with
  | zero =>
    intro x2_7 x3_7 G_7
    exact j_none
  | succ n_7 ih =>
    intro x2_7 x3_7 G_7
    rw [cPa_readingsOf_L7]
    refine j_iload_n dX3_readingsOf_7 rfl rfl ?_
    refine j_bipush dX3_readingsOf_8 r32_80 bp_80 ?_
    refine j_icmp_ge (tgt := 38) dX3_readingsOf_10 rfl (fun h10 => ?_) (fun h10 => ?_)
    · refine j_aload_n dX3_readingsOf_13 rfl rfl ?_
      refine j_iload_n dX3_readingsOf_14 rfl rfl ?_
      refine j_iload_n dX3_readingsOf_15 rfl rfl ?_
      refine j_cVWi dX3_readingsOf_16 im_cPa_readBy lk_X3_77 rfl (As := [(0, a1), (0, x2_7)]) (S := []) rfl (oc_paper ho).1 ⟨by decide, by decide⟩ (Nat.le_of_ble_eq_true rfl) (fun r hr => cPa_readBy_ct o ho a1 x2_7 G_7 hr) (fun r16 _ => ?_)
      refine j_istore dX3_readingsOf_19 (Nat.le_of_ble_eq_true rfl) rfl ?_
      refine j_iload dX3_readingsOf_21 rfl ?_
      refine j_iload_n dX3_readingsOf_23 rfl rfl ?_
      refine j_icmp_ne (tgt := 29) dX3_readingsOf_24 rfl (fun h24 => ?_) (fun h24 => ?_)
      · refine j_iload_n dX3_readingsOf_27 rfl rfl ?_
        exact j_ireturn dX3_readingsOf_28 rfl rfl (Nat.zero_le _) (Nat.zero_le _)
      · refine j_iload dX3_readingsOf_29 rfl ?_
        refine j_istore_n dX3_readingsOf_31 rfl (Nat.le_of_ble_eq_true rfl) rfl ?_
        refine j_iinc dX3_readingsOf_32 rfl (Nat.le_of_ble_eq_true rfl) rfl ?_
        refine j_goto (tgt := 7) dX3_readingsOf_35 rfl ?_
        exact j_mask [true, true, true, true, false] rfl (ih r16.1 (w32 (x3_7 + 1)) r16.2)
    · refine j_bipush dX3_readingsOf_38 r32_80 bp_80 ?_
      exact j_ireturn dX3_readingsOf_40 rfl rfl (Nat.zero_le _) (Nat.zero_le _)

set_option maxRecDepth 100000 in
theorem cPa_readingsOf_J {l : Launch} {H : Hp} (o : Int) (ho : isPaper o) (a1 : Int) (G : Hp) : J l M_cPa_readingsOf (KWi (fun g => fu g H)) (cPa_readingsOf o a1 G) 0 [(2, o), (0, a1), (9, 0), (9, 0), (9, 0)] [] 224 (fu G H) (0, 0) := by
  unfold cPa_readingsOf
  refine j_aload_n dX3_readingsOf_0 rfl rfl ?_
  refine j_gic dX3_readingsOf_1 gf_X3_28 (oc_paper ho) ?_
  refine j_istore_n dX3_readingsOf_4 rfl (Nat.le_of_ble_eq_true rfl) rfl ?_
  refine j_iconst dX3_readingsOf_5 r32_0 ?_
  refine j_istore_n dX3_readingsOf_6 rfl (Nat.le_of_ble_eq_true rfl) rfl ?_
  exact j_mask [true, true, true, true, false] rfl (cPa_readingsOf_L7_J o ho a1 FU (G o 0) 0 G)

set_option maxRecDepth 100000 in
theorem cPa_readingsOf_ct {l : Launch} {H : Hp} (o : Int) (ho : isPaper o) (a1 : Int) (G : Hp) {r : Int × Hp} (h : cPa_readingsOf o a1 G = some r) : Ct l M_cPa_readingsOf [(2, o), (0, a1)] 224 (fu G H) ((KWi (fun g => fu g H)) r) :=
  ct_of_J (by decide +kernel) rfl (Nat.le_of_ble_eq_true rfl) (cPa_readingsOf_J o ho a1 G) h
set_option maxRecDepth 100000 in
theorem cPa_areRivals_L2_J {l : Launch} {H : Hp} (o : Int) (ho : isPaper o) (a1 : Int) (a2 : Int) (G : Hp) : ∀ (n_2 : Nat) (x3_2 : Int), J l M_cPa_areRivals (KRb (fu G H)) (cPa_areRivals_L2 o a1 a2 G  n_2 x3_2) 2 [(2, o), (0, a1), (0, a2), (0, x3_2), (9, 0), (9, 0)] [] 224 (fu G H) (0, 0) := by
  intro n_2
  induction n_2 with
  | zero =>
    intro x3_2
    exact j_none
  | succ n_2 ih =>
    intro x3_2
    rw [cPa_areRivals_L2]
    refine j_iload_n dX3_areRivals_2 rfl rfl ?_
    refine j_aload_n dX3_areRivals_3 rfl rfl ?_
    refine j_gic dX3_areRivals_4 gf_X3_32 (oc_paper ho) ?_
    refine j_icmp_ge (tgt := 55) dX3_areRivals_7 rfl (fun h7 => ?_) (fun h7 => ?_)
    · refine j_aload_n dX3_areRivals_10 rfl rfl ?_
      refine j_iload_n dX3_areRivals_11 rfl rfl ?_
      refine j_iload_n dX3_areRivals_12 rfl rfl ?_
      refine j_cVRi dX3_areRivals_13 im_cPa_wish lk_X3_60 rfl (As := [(0, a1), (0, x3_2)]) (S := []) rfl (oc_paper ho).1 ⟨by decide, by decide⟩ (Nat.le_of_ble_eq_true rfl) (fun r hr => cPa_wish_ct o ho a1 x3_2 G hr) (fun v13 _ => ?_)
      refine j_istore dX3_areRivals_16 (Nat.le_of_ble_eq_true rfl) rfl ?_
      refine j_aload_n dX3_areRivals_18 rfl rfl ?_
      refine j_iload_n dX3_areRivals_19 rfl rfl ?_
      refine j_iload_n dX3_areRivals_20 rfl rfl ?_
      refine j_cVRi dX3_areRivals_21 im_cPa_wish lk_X3_60 rfl (As := [(0, a2), (0, x3_2)]) (S := []) rfl (oc_paper ho).1 ⟨by decide, by decide⟩ (Nat.le_of_ble_eq_true rfl) (fun r hr => cPa_wish_ct o ho a2 x3_2 G hr) (fun v21 _ => ?_)
      refine j_istore dX3_areRivals_24 (Nat.le_of_ble_eq_true rfl) rfl ?_
      refine j_iload dX3_areRivals_26 rfl ?_
      refine j_bipush dX3_areRivals_28 r32_10 bp_10 ?_
      refine j_icmp_eq (tgt := 49) dX3_areRivals_30 rfl (fun h30 => ?_) (fun h30 => ?_)
      · refine j_iinc dX3_areRivals_49 rfl (Nat.le_of_ble_eq_true rfl) rfl ?_
        refine j_goto (tgt := 2) dX3_areRivals_52 rfl ?_
        exact j_mask [true, true, true, true, false, false] rfl (ih (w32 (x3_2 + 1)))
      · refine j_iload dX3_areRivals_33 rfl ?_
        refine j_bipush dX3_areRivals_35 r32_10 bp_10 ?_
        refine j_icmp_eq (tgt := 49) dX3_areRivals_37 rfl (fun h37 => ?_) (fun h37 => ?_)
        · refine j_iinc dX3_areRivals_49 rfl (Nat.le_of_ble_eq_true rfl) rfl ?_
          refine j_goto (tgt := 2) dX3_areRivals_52 rfl ?_
          exact j_mask [true, true, true, true, false, false] rfl (ih (w32 (x3_2 + 1)))
        · refine j_iload dX3_areRivals_40 rfl ?_
          refine j_iload dX3_areRivals_42 rfl ?_
          refine j_icmp_eq (tgt := 49) dX3_areRivals_44 rfl (fun h44 => ?_) (fun h44 => ?_)
          · refine j_iinc dX3_areRivals_49 rfl (Nat.le_of_ble_eq_true rfl) rfl ?_
            refine j_goto (tgt := 2) dX3_areRivals_52 rfl ?_
            exact j_mask [true, true, true, true, false, false] rfl (ih (w32 (x3_2 + 1)))
          · refine j_iconst dX3_areRivals_47 r32_1 ?_
            exact j_zreturn (b := true) dX3_areRivals_48 rfl rfl (Nat.zero_le _) (Nat.zero_le _)
    · refine j_iconst dX3_areRivals_55 r32_0 ?_
      exact j_zreturn (b := false) dX3_areRivals_56 rfl rfl (Nat.zero_le _) (Nat.zero_le _)

set_option maxRecDepth 100000 in
theorem cPa_areRivals_J {l : Launch} {H : Hp} (o : Int) (ho : isPaper o) (a1 : Int) (a2 : Int) (G : Hp) : J l M_cPa_areRivals (KRb (fu G H)) (cPa_areRivals o a1 a2 G) 0 [(2, o), (0, a1), (0, a2), (9, 0), (9, 0), (9, 0)] [] 224 (fu G H) (0, 0) := by
  unfold cPa_areRivals
  refine j_iconst dX3_areRivals_0 r32_0 ?_
  refine j_istore_n dX3_areRivals_1 rfl (Nat.le_of_ble_eq_true rfl) rfl ?_
  exact j_mask [true, true, true, true, false, false] rfl (cPa_areRivals_L2_J o ho a1 a2 G FU 0)

set_option maxRecDepth 100000 in
theorem cPa_areRivals_ct {l : Launch} {H : Hp} (o : Int) (ho : isPaper o) (a1 : Int) (a2 : Int) (G : Hp) {r : Bool} (h : cPa_areRivals o a1 a2 G = some r) : Ct l M_cPa_areRivals [(2, o), (0, a1), (0, a2)] 224 (fu G H) ((KRb (fu G H)) r) :=
  ct_of_J (by decide +kernel) rfl (Nat.le_of_ble_eq_true rfl) (cPa_areRivals_J o ho a1 a2 G) h
set_option maxRecDepth 100000 in
theorem cPa_rivals_L4_J {l : Launch} {H : Hp} (o : Int) (ho : isPaper o) (a1 : Int) (G : Hp) : ∀ (n_4 : Nat) (x2_4 : Int) (x3_4 : Int), J l M_cPa_rivals (KRi (fu G H)) (cPa_rivals_L4 o a1 G  n_4 x2_4 x3_4) 4 [(2, o), (0, a1), (0, x2_4), (0, x3_4)] [] 224 (fu G H) (0, 0) := by
  intro n_4
  induction n_4 with
  | zero =>
    intro x2_4 x3_4
    exact j_none
  | succ n_4 ih =>
    intro x2_4 x3_4
    rw [cPa_rivals_L4]
    refine j_iload_n dX3_rivals_4 rfl rfl ?_
    refine j_aload_n dX3_rivals_5 rfl rfl ?_
    refine j_gic dX3_rivals_6 gf_X3_35 (oc_paper ho) ?_
    refine j_icmp_ge (tgt := 37) dX3_rivals_9 rfl (fun h9 => ?_) (fun h9 => ?_)
    · refine j_iload_n dX3_rivals_12 rfl rfl ?_
      refine j_aload_n dX3_rivals_13 rfl rfl ?_
      refine j_iload_n dX3_rivals_14 rfl rfl ?_
      refine j_iload_n dX3_rivals_15 rfl rfl ?_
      refine j_cVRb dX3_rivals_16 im_cPa_areRivals lk_X3_88 rfl (As := [(0, a1), (0, x3_4)]) (S := [(0, x2_4)]) rfl (oc_paper ho).1 ⟨by decide, by decide⟩ (Nat.le_of_ble_eq_true rfl) (fun r hr => cPa_areRivals_ct o ho a1 x3_4 G hr) (fun v16 _ => ?_)
      refine j_ifb_eq (tgt := 28) dX3_rivals_19 rfl (fun h19 => ?_) (fun h19 => ?_)
      · refine j_iconst dX3_rivals_22 r32_1 ?_
        refine j_iload_n dX3_rivals_23 rfl rfl ?_
        refine j_ishl dX3_rivals_24 ?_
        refine j_goto (tgt := 29) dX3_rivals_25 rfl ?_
        refine j_ior dX3_rivals_29 ?_
        refine j_istore_n dX3_rivals_30 rfl (Nat.le_of_ble_eq_true rfl) rfl ?_
        refine j_iinc dX3_rivals_31 rfl (Nat.le_of_ble_eq_true rfl) rfl ?_
        refine j_goto (tgt := 4) dX3_rivals_34 rfl ?_
        exact j_mask [true, true, true, true] rfl (ih (ior x2_4 (ishl 1 x3_4)) (w32 (x3_4 + 1)))
      · refine j_iconst dX3_rivals_28 r32_0 ?_
        refine j_ior dX3_rivals_29 ?_
        refine j_istore_n dX3_rivals_30 rfl (Nat.le_of_ble_eq_true rfl) rfl ?_
        refine j_iinc dX3_rivals_31 rfl (Nat.le_of_ble_eq_true rfl) rfl ?_
        refine j_goto (tgt := 4) dX3_rivals_34 rfl ?_
        exact j_mask [true, true, true, true] rfl (ih (ior x2_4 0) (w32 (x3_4 + 1)))
    · refine j_iload_n dX3_rivals_37 rfl rfl ?_
      exact j_ireturn dX3_rivals_38 rfl rfl (Nat.zero_le _) (Nat.zero_le _)

set_option maxRecDepth 100000 in
theorem cPa_rivals_J {l : Launch} {H : Hp} (o : Int) (ho : isPaper o) (a1 : Int) (G : Hp) : J l M_cPa_rivals (KRi (fu G H)) (cPa_rivals o a1 G) 0 [(2, o), (0, a1), (9, 0), (9, 0)] [] 224 (fu G H) (0, 0) := by
  unfold cPa_rivals
  refine j_iconst dX3_rivals_0 r32_0 ?_
  refine j_istore_n dX3_rivals_1 rfl (Nat.le_of_ble_eq_true rfl) rfl ?_
  refine j_iconst dX3_rivals_2 r32_0 ?_
  refine j_istore_n dX3_rivals_3 rfl (Nat.le_of_ble_eq_true rfl) rfl ?_
  exact j_mask [true, true, true, true] rfl (cPa_rivals_L4_J o ho a1 G FU 0 0)

set_option maxRecDepth 100000 in
theorem cPa_rivals_ct {l : Launch} {H : Hp} (o : Int) (ho : isPaper o) (a1 : Int) (G : Hp) {r : Int} (h : cPa_rivals o a1 G = some r) : Ct l M_cPa_rivals [(2, o), (0, a1)] 224 (fu G H) ((KRi (fu G H)) r) :=
  ct_of_J (by decide +kernel) rfl (Nat.le_of_ble_eq_true rfl) (cPa_rivals_J o ho a1 G) h
set_option maxRecDepth 100000 in
theorem cX_distance_J {l : Launch} {H : Hp} (a1 : Int) (a2 : Int) (a3 : Int) (G : Hp) : J l M_cX_distance (KWi (fun g => fu g H)) (cX_distance a1 a2 a3 G) 0 [(2, 0), (0, a1), (0, a2), (0, a3), (9, 0)] [] 224 (fu G H) (0, 0) := by
  unfold cX_distance
  refine j_aload_n dX10_distance_0 rfl rfl ?_
  refine j_iload_n dX10_distance_1 rfl rfl ?_
  refine j_cVRr dX10_distance_2 im_cX_paperAt lk_X10_124 rfl (As := [(0, a1)]) (S := []) rfl oc_0.1 ⟨by decide, by decide⟩ (Nat.le_of_ble_eq_true rfl) (fun r hr => cX_paperAt_ct a1 G hr) (fun v2 hv2 => ?_)
  refine j_astore dX10_distance_5 (Nat.le_of_ble_eq_true rfl) rfl ?_
  refine j_aload dX10_distance_7 rfl ?_
  refine j_ifnull (tgt := 25) dX10_distance_9 rfl (fun h9 => ?_) (fun h9 => ?_)
  · refine j_bipush dX10_distance_25 r32_m2 bp_m2 ?_
    exact j_ireturn dX10_distance_27 rfl rfl (Nat.zero_le _) (Nat.zero_le _)
  · refine j_iload_n dX10_distance_12 rfl rfl ?_
    refine j_if_lt (tgt := 25) dX10_distance_13 rfl (fun h13 => ?_) (fun h13 => ?_)
    · refine j_bipush dX10_distance_25 r32_m2 bp_m2 ?_
      exact j_ireturn dX10_distance_27 rfl rfl (Nat.zero_le _) (Nat.zero_le _)
    · refine j_iload_n dX10_distance_16 rfl rfl ?_
      refine j_aload dX10_distance_17 rfl ?_
      refine j_gic dX10_distance_19 gf_X10_245 (oc_paper (cX_paperAt_ok hv2 h9)) ?_
      refine j_icmp_lt (tgt := 28) dX10_distance_22 rfl (fun h22 => ?_) (fun h22 => ?_)
      · refine j_bipush dX10_distance_25 r32_m2 bp_m2 ?_
        exact j_ireturn dX10_distance_27 rfl rfl (Nat.zero_le _) (Nat.zero_le _)
      · refine j_iload_n dX10_distance_28 rfl rfl ?_
        refine j_ite _ (fun hc29_0 => ?_) (fun hc29_0 => ?_)
        · refine j_swIn (i := 0) (tgt := 56) dX10_distance_29 (hc29_0.trans (by decide)) (by decide) rfl rfl ?_
          refine j_aload dX10_distance_56 rfl ?_
          refine j_iload_n dX10_distance_58 rfl rfl ?_
          refine j_cVWi dX10_distance_59 im_cPa_farFrom lk_X10_287 rfl (As := [(0, a2)]) (S := []) rfl (oc_paper (cX_paperAt_ok hv2 h9)).1 ⟨by decide, by decide⟩ (Nat.le_of_ble_eq_true rfl) (fun r hr => cPa_farFrom_ct v2 (cX_paperAt_ok hv2 h9) a2 G hr) (fun r59 _ => ?_)
          exact j_ireturn dX10_distance_62 rfl rfl (Nat.zero_le _) (Nat.zero_le _)
        · refine j_ite _ (fun hc29_1 => ?_) (fun hc29_1 => ?_)
          · refine j_swIn (i := 1) (tgt := 63) dX10_distance_29 (hc29_1.trans (by decide)) (by decide) rfl rfl ?_
            refine j_aload dX10_distance_63 rfl ?_
            refine j_iload_n dX10_distance_65 rfl rfl ?_
            refine j_cVWi dX10_distance_66 im_cPa_readingsOf lk_X10_290 rfl (As := [(0, a2)]) (S := []) rfl (oc_paper (cX_paperAt_ok hv2 h9)).1 ⟨by decide, by decide⟩ (Nat.le_of_ble_eq_true rfl) (fun r hr => cPa_readingsOf_ct v2 (cX_paperAt_ok hv2 h9) a2 G hr) (fun r66 _ => ?_)
            exact j_ireturn dX10_distance_69 rfl rfl (Nat.zero_le _) (Nat.zero_le _)
          · refine j_ite _ (fun hc29_2 => ?_) (fun hc29_2 => ?_)
            · refine j_swIn (i := 2) (tgt := 70) dX10_distance_29 (hc29_2.trans (by decide)) (by decide) rfl rfl ?_
              refine j_aload dX10_distance_70 rfl ?_
              refine j_iload_n dX10_distance_72 rfl rfl ?_
              refine j_cVRi dX10_distance_73 im_cPa_rivals lk_X10_293 rfl (As := [(0, a2)]) (S := []) rfl (oc_paper (cX_paperAt_ok hv2 h9)).1 ⟨by decide, by decide⟩ (Nat.le_of_ble_eq_true rfl) (fun r hr => cPa_rivals_ct v2 (cX_paperAt_ok hv2 h9) a2 G hr) (fun v73 _ => ?_)
              exact j_ireturn dX10_distance_76 rfl rfl (Nat.zero_le _) (Nat.zero_le _)
            · refine j_swOut (tgt := 77) dX10_distance_29 (by omega) rfl ?_
              refine j_bipush dX10_distance_77 r32_m2 bp_m2 ?_
              exact j_ireturn dX10_distance_79 rfl rfl (Nat.zero_le _) (Nat.zero_le _)

set_option maxRecDepth 100000 in
theorem cX_distance_ct {l : Launch} {H : Hp} (a1 : Int) (a2 : Int) (a3 : Int) (G : Hp) {r : Int × Hp} (h : cX_distance a1 a2 a3 G = some r) : Ct l M_cX_distance [(2, 0), (0, a1), (0, a2), (0, a3)] 224 (fu G H) ((KWi (fun g => fu g H)) r) :=
  ct_of_J (by decide +kernel) rfl (Nat.le_of_ble_eq_true rfl) (cX_distance_J a1 a2 a3 G) h
set_option maxRecDepth 100000 in
theorem cPa_idle_L4_J {l : Launch} {H : Hp} (o : Int) (ho : isPaper o) : ∀ (n_4 : Nat) (x1_4 : Int) (x2_4 : Int) (G_4 : Hp), J l M_cPa_idle (KWi (fun g => fu g H)) (cPa_idle_L4 o  n_4 x1_4 x2_4 G_4) 4 [(2, o), (0, x1_4), (0, x2_4)] [] 224 (fu G_4 H) (0, 0) := by
  intro n_4
  induction n_4 with
  | zero =>
    intro x1_4 x2_4 G_4
    exact j_none
  | succ n_4 ih =>
    intro x1_4 x2_4 G_4
    rw [cPa_idle_L4]
    refine j_iload_n dX3_idle_4 rfl rfl ?_
    refine j_aload_n dX3_idle_5 rfl rfl ?_
    refine j_gic dX3_idle_6 gf_X3_35 (oc_paper ho) ?_
    refine j_icmp_ge (tgt := 44) dX3_idle_9 rfl (fun h9 => ?_) (fun h9 => ?_)
    · refine j_iload_n dX3_idle_12 rfl rfl ?_
      refine j_aload_n dX3_idle_13 rfl rfl ?_
      refine j_iload_n dX3_idle_14 rfl rfl ?_
      refine j_aload_n dX3_idle_15 rfl rfl ?_
      refine j_gic dX3_idle_16 gf_X3_28 (oc_paper ho) ?_
      refine j_cVWi dX3_idle_19 im_cPa_readBy lk_X3_77 rfl (As := [(0, x2_4), (0, G_4 o 0)]) (S := [(0, x1_4)]) rfl (oc_paper ho).1 ⟨by decide, by decide⟩ (Nat.le_of_ble_eq_true rfl) (fun r hr => cPa_readBy_ct o ho x2_4 (G_4 o 0) G_4 hr) (fun r19 _ => ?_)
      refine j_aload_n dX3_idle_22 rfl rfl ?_
      refine j_gic dX3_idle_23 gf_X3_28 (oc_paper ho) ?_
      refine j_icmp_ne (tgt := 35) dX3_idle_26 rfl (fun h26 => ?_) (fun h26 => ?_)
      · refine j_iconst dX3_idle_29 r32_1 ?_
        refine j_iload_n dX3_idle_30 rfl rfl ?_
        refine j_ishl dX3_idle_31 ?_
        refine j_goto (tgt := 36) dX3_idle_32 rfl ?_
        refine j_ior dX3_idle_36 ?_
        refine j_istore_n dX3_idle_37 rfl (Nat.le_of_ble_eq_true rfl) rfl ?_
        refine j_iinc dX3_idle_38 rfl (Nat.le_of_ble_eq_true rfl) rfl ?_
        refine j_goto (tgt := 4) dX3_idle_41 rfl ?_
        exact j_mask [true, true, true] rfl (ih (ior x1_4 (ishl 1 x2_4)) (w32 (x2_4 + 1)) r19.2)
      · refine j_iconst dX3_idle_35 r32_0 ?_
        refine j_ior dX3_idle_36 ?_
        refine j_istore_n dX3_idle_37 rfl (Nat.le_of_ble_eq_true rfl) rfl ?_
        refine j_iinc dX3_idle_38 rfl (Nat.le_of_ble_eq_true rfl) rfl ?_
        refine j_goto (tgt := 4) dX3_idle_41 rfl ?_
        exact j_mask [true, true, true] rfl (ih (ior x1_4 0) (w32 (x2_4 + 1)) r19.2)
    · refine j_iload_n dX3_idle_44 rfl rfl ?_
      exact j_ireturn dX3_idle_45 rfl rfl (Nat.zero_le _) (Nat.zero_le _)

set_option maxRecDepth 100000 in
theorem cPa_idle_J {l : Launch} {H : Hp} (o : Int) (ho : isPaper o) (G : Hp) : J l M_cPa_idle (KWi (fun g => fu g H)) (cPa_idle o G) 0 [(2, o), (9, 0), (9, 0)] [] 224 (fu G H) (0, 0) := by
  unfold cPa_idle
  refine j_iconst dX3_idle_0 r32_0 ?_
  refine j_istore_n dX3_idle_1 rfl (Nat.le_of_ble_eq_true rfl) rfl ?_
  refine j_iconst dX3_idle_2 r32_0 ?_
  refine j_istore_n dX3_idle_3 rfl (Nat.le_of_ble_eq_true rfl) rfl ?_
  exact j_mask [true, true, true] rfl (cPa_idle_L4_J o ho FU 0 0 G)

set_option maxRecDepth 100000 in
theorem cPa_idle_ct {l : Launch} {H : Hp} (o : Int) (ho : isPaper o) (G : Hp) {r : Int × Hp} (h : cPa_idle o G = some r) : Ct l M_cPa_idle [(2, o)] 224 (fu G H) ((KWi (fun g => fu g H)) r) :=
  ct_of_J (by decide +kernel) rfl (Nat.le_of_ble_eq_true rfl) (cPa_idle_J o ho G) h
set_option maxRecDepth 100000 in
theorem cX_better_J {l : Launch} {H : Hp} (a0 : Int) (a1 : Int) (a2 : Int) (G : Hp) : J l M_cX_better (KRi (fu G H)) (cX_better a0 a1 a2 G) 0 [(0, a0), (0, a1), (0, a2)] [] 224 (fu G H) (0, 0) := by
  unfold cX_better
  refine j_iload_n dX10_better_0 rfl rfl ?_
  refine j_if_lt (tgt := 12) dX10_better_1 rfl (fun h1 => ?_) (fun h1 => ?_)
  · refine j_bipush dX10_better_12 r32_100 bp_100 ?_
    refine j_iload_n dX10_better_14 rfl rfl ?_
    refine j_imul dX10_better_15 ?_
    refine j_iload_n dX10_better_16 rfl rfl ?_
    refine j_iadd dX10_better_17 ?_
    refine j_goto (tgt := 22) dX10_better_18 rfl ?_
    exact j_ireturn dX10_better_22 rfl rfl (Nat.zero_le _) (Nat.zero_le _)
  · refine j_iload_n dX10_better_4 rfl rfl ?_
    refine j_iload_n dX10_better_5 rfl rfl ?_
    refine j_bipush dX10_better_6 r32_100 bp_100 ?_
    refine j_idiv dX10_better_8 (by decide) ?_
    refine j_icmp_le (tgt := 21) dX10_better_9 rfl (fun h9 => ?_) (fun h9 => ?_)
    · refine j_bipush dX10_better_12 r32_100 bp_100 ?_
      refine j_iload_n dX10_better_14 rfl rfl ?_
      refine j_imul dX10_better_15 ?_
      refine j_iload_n dX10_better_16 rfl rfl ?_
      refine j_iadd dX10_better_17 ?_
      refine j_goto (tgt := 22) dX10_better_18 rfl ?_
      exact j_ireturn dX10_better_22 rfl rfl (Nat.zero_le _) (Nat.zero_le _)
    · refine j_iload_n dX10_better_21 rfl rfl ?_
      exact j_ireturn dX10_better_22 rfl rfl (Nat.zero_le _) (Nat.zero_le _)

set_option maxRecDepth 100000 in
theorem cX_better_ct {l : Launch} {H : Hp} (a0 : Int) (a1 : Int) (a2 : Int) (G : Hp) {r : Int} (h : cX_better a0 a1 a2 G = some r) : Ct l M_cX_better [(0, a0), (0, a1), (0, a2)] 224 (fu G H) ((KRi (fu G H)) r) :=
  ct_of_J (by decide +kernel) rfl (Nat.le_of_ble_eq_true rfl) (cX_better_J a0 a1 a2 G) h
set_option maxRecDepth 100000 in
theorem cX_bestLast_L20_J {l : Launch} {H : Hp} (a0 : Int) (ha0 : isPaper a0) (x1_20 : Int) (x2_20 : Int) (k53 : Int → Hp → Option (Int × Hp)) (hk53 : ∀ (x3_53 : Int) (G_53 : Hp), J l M_cX_bestLast (KWi (fun g => fu g H)) (k53 x3_53 G_53) 53 [(2, a0), (0, x1_20), (0, x2_20), (0, x3_53), (9, 0)] [] 224 (fu G_53 H) (0, 0)) : ∀ (n_20 : Nat) (x3_20 : Int) (x4_20 : Int) (G_20 : Hp), J l M_cX_bestLast (KWi (fun g => fu g H)) (cX_bestLast_L20 a0 x1_20 x2_20 k53 n_20 x3_20 x4_20 G_20) 20 [(2, a0), (0, x1_20), (0, x2_20), (0, x3_20), (0, x4_20)] [] 224 (fu G_20 H) (0, 0) := by
  intro n_20
  induction n_20 with
  | zero =>
    intro x3_20 x4_20 G_20
    exact j_none
  | succ n_20 ih =>
    intro x3_20 x4_20 G_20
    rw [cX_bestLast_L20]
    refine j_iload dX10_bestLast_20 rfl ?_
    refine j_aload_n dX10_bestLast_22 rfl rfl ?_
    refine j_gic dX10_bestLast_23 gf_X10_245 (oc_paper ha0) ?_
    refine j_icmp_ge (tgt := 53) dX10_bestLast_26 rfl (fun h26 => ?_) (fun h26 => ?_)
    · refine j_iload dX10_bestLast_29 rfl ?_
      refine j_iload_n dX10_bestLast_31 rfl rfl ?_
      refine j_icmp_ne (tgt := 39) dX10_bestLast_32 rfl (fun h32 => ?_) (fun h32 => ?_)
      · refine j_iload_n dX10_bestLast_35 rfl rfl ?_
        refine j_goto (tgt := 46) dX10_bestLast_36 rfl ?_
        refine j_istore_n dX10_bestLast_46 rfl (Nat.le_of_ble_eq_true rfl) rfl ?_
        refine j_iinc dX10_bestLast_47 rfl (Nat.le_of_ble_eq_true rfl) rfl ?_
        refine j_goto (tgt := 20) dX10_bestLast_50 rfl ?_
        exact j_mask [true, true, true, true, true] rfl (ih x3_20 (w32 (x4_20 + 1)) G_20)
      · refine j_aload_n dX10_bestLast_39 rfl rfl ?_
        refine j_iload dX10_bestLast_40 rfl ?_
        refine j_iload_n dX10_bestLast_42 rfl rfl ?_
        refine j_cVWi dX10_bestLast_43 im_cPa_readBy lk_X10_251 rfl (As := [(0, x4_20), (0, x3_20)]) (S := []) rfl (oc_paper ha0).1 ⟨by decide, by decide⟩ (Nat.le_of_ble_eq_true rfl) (fun r hr => cPa_readBy_ct a0 ha0 x4_20 x3_20 G_20 hr) (fun r43 _ => ?_)
        refine j_istore_n dX10_bestLast_46 rfl (Nat.le_of_ble_eq_true rfl) rfl ?_
        refine j_iinc dX10_bestLast_47 rfl (Nat.le_of_ble_eq_true rfl) rfl ?_
        refine j_goto (tgt := 20) dX10_bestLast_50 rfl ?_
        exact j_mask [true, true, true, true, true] rfl (ih r43.1 (w32 (x4_20 + 1)) r43.2)
    · exact j_mask [true, true, true, true, false] rfl (hk53 x3_20 G_20)

set_option maxRecDepth 100000 in
theorem cX_bestLast_L4_J {l : Launch} {H : Hp} (a0 : Int) (ha0 : isPaper a0) : ∀ (n_4 : Nat) (x1_4 : Int) (x2_4 : Int) (G_4 : Hp), J l M_cX_bestLast (KWi (fun g => fu g H)) (cX_bestLast_L4 a0  n_4 x1_4 x2_4 G_4) 4 [(2, a0), (0, x1_4), (0, x2_4), (9, 0), (9, 0)] [] 224 (fu G_4 H) (0, 0) := by
  intro n_4
  induction n_4 with
  | zero =>
    intro x1_4 x2_4 G_4
    exact j_none
  | succ n_4 ih =>
    intro x1_4 x2_4 G_4
    rw [cX_bestLast_L4]
    refine j_iload_n dX10_bestLast_4 rfl rfl ?_
    refine j_aload_n dX10_bestLast_5 rfl rfl ?_
    refine j_gic dX10_bestLast_6 gf_X10_245 (oc_paper ha0) ?_
    refine j_icmp_ge (tgt := 75) dX10_bestLast_9 rfl (fun h9 => ?_) (fun h9 => ?_)
    · refine j_aload_n dX10_bestLast_12 rfl rfl ?_
      refine j_gic dX10_bestLast_13 gf_X10_248 (oc_paper ha0) ?_
      refine j_istore_n dX10_bestLast_16 rfl (Nat.le_of_ble_eq_true rfl) rfl ?_
      refine j_iconst dX10_bestLast_17 r32_0 ?_
      refine j_istore dX10_bestLast_18 (Nat.le_of_ble_eq_true rfl) rfl ?_
      refine j_mask [true, true, true, true, true] rfl (cX_bestLast_L20_J a0 ha0 x1_4 x2_4 (fun x3_53 G_53 => (cPa_readBy a0 x2_4 x3_53 G_53).bind fun r58 => (cPa_contentOfAll a0 r58.1 r58.2).bind fun v61 => (cX_better x1_4 v61 x2_4 r58.2).bind fun v65 => cX_bestLast_L4 a0 n_4 v65 (w32 (x2_4 + 1)) r58.2) (fun x3_53 G_53 => ?_) FU (G_4 a0 0) 0 G_4)
      refine j_iload_n dX10_bestLast_53 rfl rfl ?_
      refine j_aload_n dX10_bestLast_54 rfl rfl ?_
      refine j_aload_n dX10_bestLast_55 rfl rfl ?_
      refine j_iload_n dX10_bestLast_56 rfl rfl ?_
      refine j_iload_n dX10_bestLast_57 rfl rfl ?_
      refine j_cVWi dX10_bestLast_58 im_cPa_readBy lk_X10_251 rfl (As := [(0, x2_4), (0, x3_53)]) (S := [(2, a0), (0, x1_4)]) rfl (oc_paper ha0).1 ⟨by decide, by decide⟩ (Nat.le_of_ble_eq_true rfl) (fun r hr => cPa_readBy_ct a0 ha0 x2_4 x3_53 G_53 hr) (fun r58 _ => ?_)
      refine j_cVRi dX10_bestLast_61 im_cPa_contentOfAll lk_X10_262 rfl (As := [(0, r58.1)]) (S := [(0, x1_4)]) rfl (oc_paper ha0).1 ⟨by decide, by decide⟩ (Nat.le_of_ble_eq_true rfl) (fun r hr => cPa_contentOfAll_ct a0 ha0 r58.1 r58.2 hr) (fun v61 _ => ?_)
      refine j_iload_n dX10_bestLast_64 rfl rfl ?_
      refine j_cSRi dX10_bestLast_65 sm_cX_better lk_X10_318 rfl (As := [(0, x1_4), (0, v61), (0, x2_4)]) (S := []) rfl ⟨by decide, by decide⟩ (Nat.le_of_ble_eq_true rfl) (fun r hr => cX_better_ct x1_4 v61 x2_4 r58.2 hr) (fun v65 _ => ?_)
      refine j_istore_n dX10_bestLast_68 rfl (Nat.le_of_ble_eq_true rfl) rfl ?_
      refine j_iinc dX10_bestLast_69 rfl (Nat.le_of_ble_eq_true rfl) rfl ?_
      refine j_goto (tgt := 4) dX10_bestLast_72 rfl ?_
      exact j_mask [true, true, true, false, false] rfl (ih v65 (w32 (x2_4 + 1)) r58.2)
    · refine j_iload_n dX10_bestLast_75 rfl rfl ?_
      exact j_ireturn dX10_bestLast_76 rfl rfl (Nat.zero_le _) (Nat.zero_le _)

set_option maxRecDepth 100000 in
theorem cX_bestLast_J {l : Launch} {H : Hp} (a0 : Int) (ha0 : isPaper a0) (G : Hp) : J l M_cX_bestLast (KWi (fun g => fu g H)) (cX_bestLast a0 G) 0 [(2, a0), (9, 0), (9, 0), (9, 0), (9, 0)] [] 224 (fu G H) (0, 0) := by
  unfold cX_bestLast
  refine j_iconst dX10_bestLast_0 r32_m1 ?_
  refine j_istore_n dX10_bestLast_1 rfl (Nat.le_of_ble_eq_true rfl) rfl ?_
  refine j_iconst dX10_bestLast_2 r32_0 ?_
  refine j_istore_n dX10_bestLast_3 rfl (Nat.le_of_ble_eq_true rfl) rfl ?_
  exact j_mask [true, true, true, false, false] rfl (cX_bestLast_L4_J a0 ha0 FU (-1) 0 G)

set_option maxRecDepth 100000 in
theorem cX_bestLast_ct {l : Launch} {H : Hp} (a0 : Int) (ha0 : isPaper a0) (G : Hp) {r : Int × Hp} (h : cX_bestLast a0 G = some r) : Ct l M_cX_bestLast [(2, a0)] 224 (fu G H) ((KWi (fun g => fu g H)) r) :=
  ct_of_J (by decide +kernel) rfl (Nat.le_of_ble_eq_true rfl) (cX_bestLast_J a0 ha0 G) h
set_option maxRecDepth 100000 in
theorem cX_which_J {l : Launch} {H : Hp} (a0 : Int) (G : Hp) : J l M_cX_which (KRi (fu G H)) (cX_which a0 G) 0 [(0, a0)] [] 224 (fu G H) (0, 0) := by
  unfold cX_which
  refine j_iload_n dX10_which_0 rfl rfl ?_
  refine j_if_ge (tgt := 8) dX10_which_1 rfl (fun h1 => ?_) (fun h1 => ?_)
  · refine j_iconst dX10_which_4 r32_m1 ?_
    refine j_goto (tgt := 12) dX10_which_5 rfl ?_
    exact j_ireturn dX10_which_12 rfl rfl (Nat.zero_le _) (Nat.zero_le _)
  · refine j_iload_n dX10_which_8 rfl rfl ?_
    refine j_bipush dX10_which_9 r32_100 bp_100 ?_
    refine j_irem dX10_which_11 (by decide) ?_
    exact j_ireturn dX10_which_12 rfl rfl (Nat.zero_le _) (Nat.zero_le _)

set_option maxRecDepth 100000 in
theorem cX_which_ct {l : Launch} {H : Hp} (a0 : Int) (G : Hp) {r : Int} (h : cX_which a0 G = some r) : Ct l M_cX_which [(0, a0)] 224 (fu G H) ((KRi (fu G H)) r) :=
  ct_of_J (by decide +kernel) rfl (Nat.le_of_ble_eq_true rfl) (cX_which_J a0 G) h
set_option maxRecDepth 100000 in
theorem cX_howMuch_J {l : Launch} {H : Hp} (a0 : Int) (G : Hp) : J l M_cX_howMuch (KRi (fu G H)) (cX_howMuch a0 G) 0 [(0, a0)] [] 224 (fu G H) (0, 0) := by
  unfold cX_howMuch
  refine j_iload_n dX10_howMuch_0 rfl rfl ?_
  refine j_if_ge (tgt := 8) dX10_howMuch_1 rfl (fun h1 => ?_) (fun h1 => ?_)
  · refine j_iconst dX10_howMuch_4 r32_0 ?_
    refine j_goto (tgt := 12) dX10_howMuch_5 rfl ?_
    exact j_ireturn dX10_howMuch_12 rfl rfl (Nat.zero_le _) (Nat.zero_le _)
  · refine j_iload_n dX10_howMuch_8 rfl rfl ?_
    refine j_bipush dX10_howMuch_9 r32_100 bp_100 ?_
    refine j_idiv dX10_howMuch_11 (by decide) ?_
    exact j_ireturn dX10_howMuch_12 rfl rfl (Nat.zero_le _) (Nat.zero_le _)

set_option maxRecDepth 100000 in
theorem cX_howMuch_ct {l : Launch} {H : Hp} (a0 : Int) (G : Hp) {r : Int} (h : cX_howMuch a0 G = some r) : Ct l M_cX_howMuch [(0, a0)] 224 (fu G H) ((KRi (fu G H)) r) :=
  ct_of_J (by decide +kernel) rfl (Nat.le_of_ble_eq_true rfl) (cX_howMuch_J a0 G) h
set_option maxRecDepth 100000 in
theorem cX_bestSwap_j65_J {l : Launch} {H : Hp} (a0 : Int) (ha0 : isPaper a0) (x1_33 : Int) (x2_33 : Int) (x3_33 : Int) (k33 : Int → Int → Hp → Option (Int × Hp)) (hk33 : ∀ (x4_33 : Int) (x5_33 : Int) (G_33 : Hp), J l M_cX_bestSwap (KWi (fun g => fu g H)) (k33 x4_33 x5_33 G_33) 33 [(2, a0), (0, x1_33), (0, x2_33), (0, x3_33), (0, x4_33), (0, x5_33)] [] 224 (fu G_33 H) (0, 0)) (x4_65 : Int) (x5_65 : Int) (s0_65 : Int) (G_65 : Hp) : J l M_cX_bestSwap (KWi (fun g => fu g H)) (cX_bestSwap_j65 a0 k33 x1_33 x2_33 x3_33 x4_65 x5_65 s0_65 G_65) 65 [(2, a0), (0, x1_33), (0, x2_33), (0, x3_33), (0, x4_65), (0, x5_65)] [(0, s0_65), (2, a0)] 224 (fu G_65 H) (0, 0) := by
  unfold cX_bestSwap_j65
  refine j_iload dX10_bestSwap_65 rfl ?_
  refine j_cVWi dX10_bestSwap_67 im_cPa_readBy lk_X10_251 rfl (As := [(0, s0_65), (0, x4_65)]) (S := []) rfl (oc_paper ha0).1 ⟨by decide, by decide⟩ (Nat.le_of_ble_eq_true rfl) (fun r hr => cPa_readBy_ct a0 ha0 s0_65 x4_65 G_65 hr) (fun r67 _ => ?_)
  refine j_istore dX10_bestSwap_70 (Nat.le_of_ble_eq_true rfl) rfl ?_
  refine j_iinc dX10_bestSwap_72 rfl (Nat.le_of_ble_eq_true rfl) rfl ?_
  refine j_goto (tgt := 33) dX10_bestSwap_75 rfl ?_
  exact j_mask [true, true, true, true, true, true] rfl (hk33 r67.1 (w32 (x5_65 + 1)) r67.2)

set_option maxRecDepth 100000 in
theorem cX_bestSwap_L33_J {l : Launch} {H : Hp} (a0 : Int) (ha0 : isPaper a0) (x1_33 : Int) (x2_33 : Int) (x3_33 : Int) (k78 : Int → Hp → Option (Int × Hp)) (hk78 : ∀ (x4_78 : Int) (G_78 : Hp), J l M_cX_bestSwap (KWi (fun g => fu g H)) (k78 x4_78 G_78) 78 [(2, a0), (0, x1_33), (0, x2_33), (0, x3_33), (0, x4_78), (9, 0)] [] 224 (fu G_78 H) (0, 0)) : ∀ (n_33 : Nat) (x4_33 : Int) (x5_33 : Int) (G_33 : Hp), J l M_cX_bestSwap (KWi (fun g => fu g H)) (cX_bestSwap_L33 a0 x1_33 x2_33 x3_33 k78 n_33 x4_33 x5_33 G_33) 33 [(2, a0), (0, x1_33), (0, x2_33), (0, x3_33), (0, x4_33), (0, x5_33)] [] 224 (fu G_33 H) (0, 0) := by
  intro n_33
  induction n_33 with
  | zero =>
    intro x4_33 x5_33 G_33
    exact j_none
  | succ n_33 ih =>
    intro x4_33 x5_33 G_33
    rw [cX_bestSwap_L33]
    refine j_iload dX10_bestSwap_33 rfl ?_
    refine j_aload_n dX10_bestSwap_35 rfl rfl ?_
    refine j_gic dX10_bestSwap_36 gf_X10_245 (oc_paper ha0) ?_
    refine j_icmp_ge (tgt := 78) dX10_bestSwap_39 rfl (fun h39 => ?_) (fun h39 => ?_)
    · refine j_aload_n dX10_bestSwap_42 rfl rfl ?_
      refine j_iload dX10_bestSwap_43 rfl ?_
      refine j_iload_n dX10_bestSwap_45 rfl rfl ?_
      refine j_icmp_ne (tgt := 53) dX10_bestSwap_46 rfl (fun h46 => ?_) (fun h46 => ?_)
      · refine j_iload_n dX10_bestSwap_49 rfl rfl ?_
        refine j_goto (tgt := 65) dX10_bestSwap_50 rfl ?_
        exact j_mask [true, true, true, true, true, true] rfl (cX_bestSwap_j65_J a0 ha0 x1_33 x2_33 x3_33 (cX_bestSwap_L33 a0 x1_33 x2_33 x3_33 k78 n_33) ih x4_33 x5_33 x3_33 G_33)
      · refine j_iload dX10_bestSwap_53 rfl ?_
        refine j_iload_n dX10_bestSwap_55 rfl rfl ?_
        refine j_icmp_ne (tgt := 63) dX10_bestSwap_56 rfl (fun h56 => ?_) (fun h56 => ?_)
        · refine j_iload_n dX10_bestSwap_59 rfl rfl ?_
          refine j_goto (tgt := 65) dX10_bestSwap_60 rfl ?_
          exact j_mask [true, true, true, true, true, true] rfl (cX_bestSwap_j65_J a0 ha0 x1_33 x2_33 x3_33 (cX_bestSwap_L33 a0 x1_33 x2_33 x3_33 k78 n_33) ih x4_33 x5_33 x2_33 G_33)
        · refine j_iload dX10_bestSwap_63 rfl ?_
          exact j_mask [true, true, true, true, true, true] rfl (cX_bestSwap_j65_J a0 ha0 x1_33 x2_33 x3_33 (cX_bestSwap_L33 a0 x1_33 x2_33 x3_33 k78 n_33) ih x4_33 x5_33 x5_33 G_33)
    · exact j_mask [true, true, true, true, true, false] rfl (hk78 x4_33 G_33)

set_option maxRecDepth 100000 in
theorem cX_bestSwap_L16_J {l : Launch} {H : Hp} (a0 : Int) (ha0 : isPaper a0) (x2_16 : Int) (k101 : Int → Hp → Option (Int × Hp)) (hk101 : ∀ (x1_101 : Int) (G_101 : Hp), J l M_cX_bestSwap (KWi (fun g => fu g H)) (k101 x1_101 G_101) 101 [(2, a0), (0, x1_101), (0, x2_16), (9, 0), (9, 0), (9, 0)] [] 224 (fu G_101 H) (0, 0)) : ∀ (n_16 : Nat) (x1_16 : Int) (x3_16 : Int) (G_16 : Hp), J l M_cX_bestSwap (KWi (fun g => fu g H)) (cX_bestSwap_L16 a0 x2_16 k101 n_16 x1_16 x3_16 G_16) 16 [(2, a0), (0, x1_16), (0, x2_16), (0, x3_16), (9, 0), (9, 0)] [] 224 (fu G_16 H) (0, 0) := by
  intro n_16
  induction n_16 with
  | zero =>
    intro x1_16 x3_16 G_16
    exact j_none
  | succ n_16 ih =>
    intro x1_16 x3_16 G_16
    rw [cX_bestSwap_L16]
    refine j_iload_n dX10_bestSwap_16 rfl rfl ?_
    refine j_aload_n dX10_bestSwap_17 rfl rfl ?_
    refine j_gic dX10_bestSwap_18 gf_X10_245 (oc_paper ha0) ?_
    refine j_icmp_ge (tgt := 101) dX10_bestSwap_21 rfl (fun h21 => ?_) (fun h21 => ?_)
    · refine j_aload_n dX10_bestSwap_24 rfl rfl ?_
      refine j_gic dX10_bestSwap_25 gf_X10_248 (oc_paper ha0) ?_
      refine j_istore dX10_bestSwap_28 (Nat.le_of_ble_eq_true rfl) rfl ?_
      refine j_iconst dX10_bestSwap_30 r32_0 ?_
      refine j_istore dX10_bestSwap_31 (Nat.le_of_ble_eq_true rfl) rfl ?_
      refine j_mask [true, true, true, true, true, true] rfl (cX_bestSwap_L33_J a0 ha0 x1_16 x2_16 x3_16 (fun x4_78 G_78 => (cPa_contentOfAll a0 x4_78 G_78).bind fun v82 => (cX_better x1_16 v82 (w32 ((w32 (10 * x2_16)) + x3_16)) G_78).bind fun v91 => cX_bestSwap_L16 a0 x2_16 k101 n_16 v91 (w32 (x3_16 + 1)) G_78) (fun x4_78 G_78 => ?_) FU (G_16 a0 0) 0 G_16)
      refine j_iload_n dX10_bestSwap_78 rfl rfl ?_
      refine j_aload_n dX10_bestSwap_79 rfl rfl ?_
      refine j_iload dX10_bestSwap_80 rfl ?_
      refine j_cVRi dX10_bestSwap_82 im_cPa_contentOfAll lk_X10_262 rfl (As := [(0, x4_78)]) (S := [(0, x1_16)]) rfl (oc_paper ha0).1 ⟨by decide, by decide⟩ (Nat.le_of_ble_eq_true rfl) (fun r hr => cPa_contentOfAll_ct a0 ha0 x4_78 G_78 hr) (fun v82 _ => ?_)
      refine j_bipush dX10_bestSwap_85 r32_10 bp_10 ?_
      refine j_iload_n dX10_bestSwap_87 rfl rfl ?_
      refine j_imul dX10_bestSwap_88 ?_
      refine j_iload_n dX10_bestSwap_89 rfl rfl ?_
      refine j_iadd dX10_bestSwap_90 ?_
      refine j_cSRi dX10_bestSwap_91 sm_cX_better lk_X10_318 rfl (As := [(0, x1_16), (0, v82), (0, w32 ((w32 (10 * x2_16)) + x3_16))]) (S := []) rfl ⟨by decide, by decide⟩ (Nat.le_of_ble_eq_true rfl) (fun r hr => cX_better_ct x1_16 v82 (w32 ((w32 (10 * x2_16)) + x3_16)) G_78 hr) (fun v91 _ => ?_)
      refine j_istore_n dX10_bestSwap_94 rfl (Nat.le_of_ble_eq_true rfl) rfl ?_
      refine j_iinc dX10_bestSwap_95 rfl (Nat.le_of_ble_eq_true rfl) rfl ?_
      refine j_goto (tgt := 16) dX10_bestSwap_98 rfl ?_
      exact j_mask [true, true, true, true, false, false] rfl (ih v91 (w32 (x3_16 + 1)) G_78)
    · exact j_mask [true, true, true, false, false, false] rfl (hk101 x1_16 G_16)

set_option maxRecDepth 100000 in
theorem cX_bestSwap_L4_J {l : Launch} {H : Hp} (a0 : Int) (ha0 : isPaper a0) : ∀ (n_4 : Nat) (x1_4 : Int) (x2_4 : Int) (G_4 : Hp), J l M_cX_bestSwap (KWi (fun g => fu g H)) (cX_bestSwap_L4 a0  n_4 x1_4 x2_4 G_4) 4 [(2, a0), (0, x1_4), (0, x2_4), (9, 0), (9, 0), (9, 0)] [] 224 (fu G_4 H) (0, 0) := by
  intro n_4
  induction n_4 with
  | zero =>
    intro x1_4 x2_4 G_4
    exact j_none
  | succ n_4 ih =>
    intro x1_4 x2_4 G_4
    rw [cX_bestSwap_L4]
    refine j_iload_n dX10_bestSwap_4 rfl rfl ?_
    refine j_aload_n dX10_bestSwap_5 rfl rfl ?_
    refine j_gic dX10_bestSwap_6 gf_X10_245 (oc_paper ha0) ?_
    refine j_icmp_ge (tgt := 107) dX10_bestSwap_9 rfl (fun h9 => ?_) (fun h9 => ?_)
    · refine j_iload_n dX10_bestSwap_12 rfl rfl ?_
      refine j_iconst dX10_bestSwap_13 r32_1 ?_
      refine j_iadd dX10_bestSwap_14 ?_
      refine j_istore_n dX10_bestSwap_15 rfl (Nat.le_of_ble_eq_true rfl) rfl ?_
      refine j_mask [true, true, true, true, false, false] rfl (cX_bestSwap_L16_J a0 ha0 x2_4 (fun x1_101 G_101 => cX_bestSwap_L4 a0 n_4 x1_101 (w32 (x2_4 + 1)) G_101) (fun x1_101 G_101 => ?_) FU x1_4 (w32 (x2_4 + 1)) G_4)
      refine j_iinc dX10_bestSwap_101 rfl (Nat.le_of_ble_eq_true rfl) rfl ?_
      refine j_goto (tgt := 4) dX10_bestSwap_104 rfl ?_
      exact j_mask [true, true, true, false, false, false] rfl (ih x1_101 (w32 (x2_4 + 1)) G_101)
    · refine j_iload_n dX10_bestSwap_107 rfl rfl ?_
      exact j_ireturn dX10_bestSwap_108 rfl rfl (Nat.zero_le _) (Nat.zero_le _)

set_option maxRecDepth 100000 in
theorem cX_bestSwap_J {l : Launch} {H : Hp} (a0 : Int) (ha0 : isPaper a0) (G : Hp) : J l M_cX_bestSwap (KWi (fun g => fu g H)) (cX_bestSwap a0 G) 0 [(2, a0), (9, 0), (9, 0), (9, 0), (9, 0), (9, 0)] [] 224 (fu G H) (0, 0) := by
  unfold cX_bestSwap
  refine j_iconst dX10_bestSwap_0 r32_m1 ?_
  refine j_istore_n dX10_bestSwap_1 rfl (Nat.le_of_ble_eq_true rfl) rfl ?_
  refine j_iconst dX10_bestSwap_2 r32_0 ?_
  refine j_istore_n dX10_bestSwap_3 rfl (Nat.le_of_ble_eq_true rfl) rfl ?_
  exact j_mask [true, true, true, false, false, false] rfl (cX_bestSwap_L4_J a0 ha0 FU (-1) 0 G)

set_option maxRecDepth 100000 in
theorem cX_bestSwap_ct {l : Launch} {H : Hp} (a0 : Int) (ha0 : isPaper a0) (G : Hp) {r : Int × Hp} (h : cX_bestSwap a0 G = some r) : Ct l M_cX_bestSwap [(2, a0)] 224 (fu G H) ((KWi (fun g => fu g H)) r) :=
  ct_of_J (by decide +kernel) rfl (Nat.le_of_ble_eq_true rfl) (cX_bestSwap_J a0 ha0 G) h
set_option maxRecDepth 100000 in
theorem cPa_round_L5_J {l : Launch} {H : Hp} (o : Int) (ho : isPaper o) (a1 : Int) (ha1 : isNet a1) (a2 : Int) : ∀ (n_5 : Nat) (x3_5 : Int) (x4_5 : Int) (G_5 : Hp), J l M_cPa_round (KWi (fun g => fu g H)) (cPa_round_L5 o a1 a2  n_5 x3_5 x4_5 G_5) 5 [(2, o), (2, a1), (9, 0), (0, x3_5), (0, x4_5)] [] 224 (fu G_5 H) (0, 0) := by
  intro n_5
  induction n_5 with
  | zero =>
    intro x3_5 x4_5 G_5
    exact j_none
  | succ n_5 ih =>
    intro x3_5 x4_5 G_5
    rw [cPa_round_L5]
    refine j_iload dX3_round_5 rfl ?_
    refine j_aload_n dX3_round_7 rfl rfl ?_
    refine j_gic dX3_round_8 gf_X3_35 (oc_paper ho) ?_
    refine j_icmp_ge (tgt := 30) dX3_round_11 rfl (fun h11 => ?_) (fun h11 => ?_)
    · refine j_aload_n dX3_round_14 rfl rfl ?_
      refine j_aload_n dX3_round_15 rfl rfl ?_
      refine j_iload dX3_round_16 rfl ?_
      refine j_iload_n dX3_round_18 rfl rfl ?_
      refine j_iconst dX3_round_19 r32_0 ?_
      refine j_cVWi dX3_round_20 im_cPa_readIn lk_X3_70 rfl (As := [(2, a1), (0, x4_5), (0, x3_5), (0, 0)]) (S := []) rfl (oc_paper ho).1 ⟨by decide, by decide⟩ (Nat.le_of_ble_eq_true rfl) (fun r hr => cPa_readIn_ct o ho a1 ha1 x4_5 x3_5 0 G_5 hr) (fun r20 _ => ?_)
      refine j_istore_n dX3_round_23 rfl (Nat.le_of_ble_eq_true rfl) rfl ?_
      refine j_iinc dX3_round_24 rfl (Nat.le_of_ble_eq_true rfl) rfl ?_
      refine j_goto (tgt := 5) dX3_round_27 rfl ?_
      exact j_mask [true, true, false, true, true] rfl (ih r20.1 (w32 (x4_5 + 1)) r20.2)
    · refine j_iload_n dX3_round_30 rfl rfl ?_
      exact j_ireturn dX3_round_31 rfl rfl (Nat.zero_le _) (Nat.zero_le _)

set_option maxRecDepth 100000 in
theorem cPa_round_J {l : Launch} {H : Hp} (o : Int) (ho : isPaper o) (a1 : Int) (ha1 : isNet a1) (a2 : Int) (G : Hp) : J l M_cPa_round (KWi (fun g => fu g H)) (cPa_round o a1 a2 G) 0 [(2, o), (2, a1), (0, a2), (9, 0), (9, 0)] [] 224 (fu G H) (0, 0) := by
  unfold cPa_round
  refine j_iload_n dX3_round_0 rfl rfl ?_
  refine j_istore_n dX3_round_1 rfl (Nat.le_of_ble_eq_true rfl) rfl ?_
  refine j_iconst dX3_round_2 r32_0 ?_
  refine j_istore dX3_round_3 (Nat.le_of_ble_eq_true rfl) rfl ?_
  exact j_mask [true, true, false, true, true] rfl (cPa_round_L5_J o ho a1 ha1 a2 FU a2 0 G)

set_option maxRecDepth 100000 in
theorem cPa_round_ct {l : Launch} {H : Hp} (o : Int) (ho : isPaper o) (a1 : Int) (ha1 : isNet a1) (a2 : Int) (G : Hp) {r : Int × Hp} (h : cPa_round o a1 a2 G = some r) : Ct l M_cPa_round [(2, o), (2, a1), (0, a2)] 224 (fu G H) ((KWi (fun g => fu g H)) r) :=
  ct_of_J (by decide +kernel) rfl (Nat.le_of_ble_eq_true rfl) (cPa_round_J o ho a1 ha1 a2 G) h
set_option maxRecDepth 100000 in
theorem cX_bestCouple_L26_J {l : Launch} {H : Hp} (a1 : Int) (ha1 : isPaper a1) (x3_26 : Int) (k100 : Int → Hp → Option (Int × Hp)) (hk100 : ∀ (x2_100 : Int) (G_100 : Hp), J l M_cX_bestCouple (KWi (fun g => fu g H)) (k100 x2_100 G_100) 100 [(2, 0), (2, a1), (0, x2_100), (0, x3_26), (9, 0)] [] 224 (fu G_100 H) (0, 0)) : ∀ (n_26 : Nat) (x2_26 : Int) (x4_26 : Int) (G_26 : Hp), J l M_cX_bestCouple (KWi (fun g => fu g H)) (cX_bestCouple_L26 a1 x3_26 k100 n_26 x2_26 x4_26 G_26) 26 [(2, 0), (2, a1), (0, x2_26), (0, x3_26), (0, x4_26)] [] 224 (fu G_26 H) (0, 0) := by
  intro n_26
  induction n_26 with
  | zero =>
    intro x2_26 x4_26 G_26
    exact j_none
  | succ n_26 ih =>
    intro x2_26 x4_26 G_26
    rw [cX_bestCouple_L26]
    refine j_iload dX10_bestCouple_26 rfl ?_
    refine j_bipush dX10_bestCouple_28 r32_10 bp_10 ?_
    refine j_icmp_ge (tgt := 100) dX10_bestCouple_30 rfl (fun h30 => ?_) (fun h30 => ?_)
    · refine j_aload_n dX10_bestCouple_33 rfl rfl ?_
      refine j_grc dX10_bestCouple_34 gf_X10_199 (oc_paper ha1) (Or.inl (by decide)) (rf_paper_3 ha1) ?_
      refine j_iload_n dX10_bestCouple_37 rfl rfl ?_
      refine j_iload dX10_bestCouple_38 rfl ?_
      refine j_cVRb dX10_bestCouple_40 im_cNe_near lk_X10_231 rfl (As := [(0, x3_26), (0, x4_26)]) (S := []) rfl (oc_net (net_paper ha1)).1 ⟨by decide, by decide⟩ (Nat.le_of_ble_eq_true rfl) (fun r hr => cNe_near_ct (a1 + 1) (net_paper ha1) x3_26 x4_26 G_26 hr) (fun v40 _ => ?_)
      refine j_ifb_ne (tgt := 94) dX10_bestCouple_43 rfl (fun h43 => ?_) (fun h43 => ?_)
      · refine j_iinc dX10_bestCouple_94 rfl (Nat.le_of_ble_eq_true rfl) rfl ?_
        refine j_goto (tgt := 26) dX10_bestCouple_97 rfl ?_
        exact j_mask [true, true, true, true, true] rfl (ih x2_26 (w32 (x4_26 + 1)) G_26)
      · refine j_aload_n dX10_bestCouple_46 rfl rfl ?_
        refine j_grc dX10_bestCouple_47 gf_X10_62 oc_0 (Or.inl (by decide)) rf_0_8 ?_
        refine j_iload_n dX10_bestCouple_50 rfl rfl ?_
        refine j_iload dX10_bestCouple_51 rfl ?_
        refine j_cVWv dX10_bestCouple_53 im_cNe_join lk_X10_242 rfl (As := [(0, x3_26), (0, x4_26)]) (S := []) rfl oc_87.1 ⟨by decide, by decide⟩ (Nat.le_of_ble_eq_true rfl) (fun r hr => cNe_join_ct 87 isNet_87 x3_26 x4_26 G_26 hr) (fun G53 _ => ?_)
        refine j_iload_n dX10_bestCouple_56 rfl rfl ?_
        refine j_aload_n dX10_bestCouple_57 rfl rfl ?_
        refine j_aload_n dX10_bestCouple_58 rfl rfl ?_
        refine j_aload_n dX10_bestCouple_59 rfl rfl ?_
        refine j_grc dX10_bestCouple_60 gf_X10_62 oc_0 (Or.inl (by decide)) rf_0_8 ?_
        refine j_aload_n dX10_bestCouple_63 rfl rfl ?_
        refine j_gic dX10_bestCouple_64 gf_X10_248 (oc_paper ha1) ?_
        refine j_cVWi dX10_bestCouple_67 im_cPa_round lk_X10_322 rfl (As := [(2, 87), (0, G53 a1 0)]) (S := [(2, a1), (0, x2_26)]) rfl (oc_paper ha1).1 ⟨by decide, by decide⟩ (Nat.le_of_ble_eq_true rfl) (fun r hr => cPa_round_ct a1 ha1 87 isNet_87 (G53 a1 0) G53 hr) (fun r67 _ => ?_)
        refine j_cVRi dX10_bestCouple_70 im_cPa_contentOfAll lk_X10_262 rfl (As := [(0, r67.1)]) (S := [(0, x2_26)]) rfl (oc_paper ha1).1 ⟨by decide, by decide⟩ (Nat.le_of_ble_eq_true rfl) (fun r hr => cPa_contentOfAll_ct a1 ha1 r67.1 r67.2 hr) (fun v70 _ => ?_)
        refine j_bipush dX10_bestCouple_73 r32_10 bp_10 ?_
        refine j_iload_n dX10_bestCouple_75 rfl rfl ?_
        refine j_imul dX10_bestCouple_76 ?_
        refine j_iload dX10_bestCouple_77 rfl ?_
        refine j_iadd dX10_bestCouple_79 ?_
        refine j_cSRi dX10_bestCouple_80 sm_cX_better lk_X10_318 rfl (As := [(0, x2_26), (0, v70), (0, w32 ((w32 (10 * x3_26)) + x4_26))]) (S := []) rfl ⟨by decide, by decide⟩ (Nat.le_of_ble_eq_true rfl) (fun r hr => cX_better_ct x2_26 v70 (w32 ((w32 (10 * x3_26)) + x4_26)) r67.2 hr) (fun v80 _ => ?_)
        refine j_istore_n dX10_bestCouple_83 rfl (Nat.le_of_ble_eq_true rfl) rfl ?_
        refine j_aload_n dX10_bestCouple_84 rfl rfl ?_
        refine j_grc dX10_bestCouple_85 gf_X10_62 oc_0 (Or.inl (by decide)) rf_0_8 ?_
        refine j_iload_n dX10_bestCouple_88 rfl rfl ?_
        refine j_iload dX10_bestCouple_89 rfl ?_
        refine j_cVWv dX10_bestCouple_91 im_cNe_part lk_X10_238 rfl (As := [(0, x3_26), (0, x4_26)]) (S := []) rfl oc_87.1 ⟨by decide, by decide⟩ (Nat.le_of_ble_eq_true rfl) (fun r hr => cNe_part_ct 87 isNet_87 x3_26 x4_26 r67.2 hr) (fun G91 _ => ?_)
        refine j_iinc dX10_bestCouple_94 rfl (Nat.le_of_ble_eq_true rfl) rfl ?_
        refine j_goto (tgt := 26) dX10_bestCouple_97 rfl ?_
        exact j_mask [true, true, true, true, true] rfl (ih v80 (w32 (x4_26 + 1)) G91)
    · exact j_mask [true, true, true, true, false] rfl (hk100 x2_26 G_26)

set_option maxRecDepth 100000 in
theorem cX_bestCouple_L15_J {l : Launch} {H : Hp} (a1 : Int) (ha1 : isPaper a1) : ∀ (n_15 : Nat) (x2_15 : Int) (x3_15 : Int) (G_15 : Hp), J l M_cX_bestCouple (KWi (fun g => fu g H)) (cX_bestCouple_L15 a1  n_15 x2_15 x3_15 G_15) 15 [(2, 0), (2, a1), (0, x2_15), (0, x3_15), (9, 0)] [] 224 (fu G_15 H) (0, 0) := by
  intro n_15
  induction n_15 with
  | zero =>
    intro x2_15 x3_15 G_15
    exact j_none
  | succ n_15 ih =>
    intro x2_15 x3_15 G_15
    rw [cX_bestCouple_L15]
    refine j_iload_n dX10_bestCouple_15 rfl rfl ?_
    refine j_bipush dX10_bestCouple_16 r32_10 bp_10 ?_
    refine j_icmp_ge (tgt := 106) dX10_bestCouple_18 rfl (fun h18 => ?_) (fun h18 => ?_)
    · refine j_iload_n dX10_bestCouple_21 rfl rfl ?_
      refine j_iconst dX10_bestCouple_22 r32_1 ?_
      refine j_iadd dX10_bestCouple_23 ?_
      refine j_istore dX10_bestCouple_24 (Nat.le_of_ble_eq_true rfl) rfl ?_
      refine j_mask [true, true, true, true, true] rfl (cX_bestCouple_L26_J a1 ha1 x3_15 (fun x2_100 G_100 => cX_bestCouple_L15 a1 n_15 x2_100 (w32 (x3_15 + 1)) G_100) (fun x2_100 G_100 => ?_) FU x2_15 (w32 (x3_15 + 1)) G_15)
      refine j_iinc dX10_bestCouple_100 rfl (Nat.le_of_ble_eq_true rfl) rfl ?_
      refine j_goto (tgt := 15) dX10_bestCouple_103 rfl ?_
      exact j_mask [true, true, true, true, false] rfl (ih x2_100 (w32 (x3_15 + 1)) G_100)
    · refine j_iload_n dX10_bestCouple_106 rfl rfl ?_
      exact j_ireturn dX10_bestCouple_107 rfl rfl (Nat.zero_le _) (Nat.zero_le _)

set_option maxRecDepth 100000 in
theorem cX_bestCouple_J {l : Launch} {H : Hp} (a1 : Int) (ha1 : isPaper a1) (G : Hp) : J l M_cX_bestCouple (KWi (fun g => fu g H)) (cX_bestCouple a1 G) 0 [(2, 0), (2, a1), (9, 0), (9, 0), (9, 0)] [] 224 (fu G H) (0, 0) := by
  unfold cX_bestCouple
  refine j_iconst dX10_bestCouple_0 r32_m1 ?_
  refine j_istore_n dX10_bestCouple_1 rfl (Nat.le_of_ble_eq_true rfl) rfl ?_
  refine j_aload_n dX10_bestCouple_2 rfl rfl ?_
  refine j_grc dX10_bestCouple_3 gf_X10_62 oc_0 (Or.inl (by decide)) rf_0_8 ?_
  refine j_aload_n dX10_bestCouple_6 rfl rfl ?_
  refine j_grc dX10_bestCouple_7 gf_X10_199 (oc_paper ha1) (Or.inl (by decide)) (rf_paper_3 ha1) ?_
  refine j_cVWv dX10_bestCouple_10 im_cNe_copy lk_X10_228 rfl (As := [(2, (a1 + 1))]) (S := []) rfl oc_87.1 ⟨by decide, by decide⟩ (Nat.le_of_ble_eq_true rfl) (fun r hr => cNe_copy_ct 87 isNet_87 (a1 + 1) (net_paper ha1) G hr) (fun G10 _ => ?_)
  refine j_iconst dX10_bestCouple_13 r32_0 ?_
  refine j_istore_n dX10_bestCouple_14 rfl (Nat.le_of_ble_eq_true rfl) rfl ?_
  exact j_mask [true, true, true, true, false] rfl (cX_bestCouple_L15_J a1 ha1 FU (-1) 0 G10)

set_option maxRecDepth 100000 in
theorem cX_bestCouple_ct {l : Launch} {H : Hp} (a1 : Int) (ha1 : isPaper a1) (G : Hp) {r : Int × Hp} (h : cX_bestCouple a1 G = some r) : Ct l M_cX_bestCouple [(2, 0), (2, a1)] 224 (fu G H) ((KWi (fun g => fu g H)) r) :=
  ct_of_J (by decide +kernel) rfl (Nat.le_of_ble_eq_true rfl) (cX_bestCouple_J a1 ha1 G) h
set_option maxRecDepth 100000 in
theorem cX_blame_L25_J {l : Launch} {H : Hp} (a0 : Int) (ha0 : isPaper a0) (a1 : Int) : ∀ (n_25 : Nat) (x2_25 : Int) (x3_25 : Int) (x4_25 : Int) (G_25 : Hp), J l M_cX_blame (KWi (fun g => fu g H)) (cX_blame_L25 a0 a1  n_25 x2_25 x3_25 x4_25 G_25) 25 [(2, a0), (0, a1), (0, x2_25), (0, x3_25), (0, x4_25), (9, 0)] [] 224 (fu G_25 H) (0, 0) := by
  intro n_25
  induction n_25 with
  | zero =>
    intro x2_25 x3_25 x4_25 G_25
    exact j_none
  | succ n_25 ih =>
    intro x2_25 x3_25 x4_25 G_25
    rw [cX_blame_L25]
    refine j_iload dX10_blame_25 rfl ?_
    refine j_aload_n dX10_blame_27 rfl rfl ?_
    refine j_gic dX10_blame_28 gf_X10_245 (oc_paper ha0) ?_
    refine j_icmp_ge (tgt := 69) dX10_blame_31 rfl (fun h31 => ?_) (fun h31 => ?_)
    · refine j_aload_n dX10_blame_34 rfl rfl ?_
      refine j_iload dX10_blame_35 rfl ?_
      refine j_iload_n dX10_blame_37 rfl rfl ?_
      refine j_cVWi dX10_blame_38 im_cPa_readBy lk_X10_251 rfl (As := [(0, x4_25), (0, x3_25)]) (S := []) rfl (oc_paper ha0).1 ⟨by decide, by decide⟩ (Nat.le_of_ble_eq_true rfl) (fun r hr => cPa_readBy_ct a0 ha0 x4_25 x3_25 G_25 hr) (fun r38 _ => ?_)
      refine j_istore dX10_blame_41 (Nat.le_of_ble_eq_true rfl) rfl ?_
      refine j_iload dX10_blame_43 rfl ?_
      refine j_iload_n dX10_blame_45 rfl rfl ?_
      refine j_cSRip dX10_blame_46 sm_cX_wordAt lk_X10_272 rfl (As := [(0, r38.1), (0, a1)]) (S := []) rfl ⟨by decide, by decide⟩ (Nat.le_of_ble_eq_true rfl) (cX_wordAt_ct r38.1 a1) ?_
      refine j_iload_n dX10_blame_49 rfl rfl ?_
      refine j_iload_n dX10_blame_50 rfl rfl ?_
      refine j_cSRip dX10_blame_51 sm_cX_wordAt lk_X10_272 rfl (As := [(0, x3_25), (0, a1)]) (S := [(0, (cX_wordAt r38.1 a1))]) rfl ⟨by decide, by decide⟩ (Nat.le_of_ble_eq_true rfl) (cX_wordAt_ct x3_25 a1) ?_
      refine j_icmp_eq (tgt := 60) dX10_blame_54 rfl (fun h54 => ?_) (fun h54 => ?_)
      · refine j_iload dX10_blame_60 rfl ?_
        refine j_istore_n dX10_blame_62 rfl (Nat.le_of_ble_eq_true rfl) rfl ?_
        refine j_iinc dX10_blame_63 rfl (Nat.le_of_ble_eq_true rfl) rfl ?_
        refine j_goto (tgt := 25) dX10_blame_66 rfl ?_
        exact j_mask [true, true, true, true, true, false] rfl (ih x2_25 r38.1 (w32 (x4_25 + 1)) r38.2)
      · refine j_iload dX10_blame_57 rfl ?_
        refine j_istore_n dX10_blame_59 rfl (Nat.le_of_ble_eq_true rfl) rfl ?_
        refine j_iload dX10_blame_60 rfl ?_
        refine j_istore_n dX10_blame_62 rfl (Nat.le_of_ble_eq_true rfl) rfl ?_
        refine j_iinc dX10_blame_63 rfl (Nat.le_of_ble_eq_true rfl) rfl ?_
        refine j_goto (tgt := 25) dX10_blame_66 rfl ?_
        exact j_mask [true, true, true, true, true, false] rfl (ih x4_25 r38.1 (w32 (x4_25 + 1)) r38.2)
    · refine j_iload_n dX10_blame_69 rfl rfl ?_
      exact j_ireturn dX10_blame_70 rfl rfl (Nat.zero_le _) (Nat.zero_le _)

set_option maxRecDepth 100000 in
theorem cX_blame_J {l : Launch} {H : Hp} (a0 : Int) (ha0 : isPaper a0) (a1 : Int) (G : Hp) : J l M_cX_blame (KWi (fun g => fu g H)) (cX_blame a0 a1 G) 0 [(2, a0), (0, a1), (9, 0), (9, 0), (9, 0), (9, 0)] [] 224 (fu G H) (0, 0) := by
  unfold cX_blame
  refine j_iload_n dX10_blame_0 rfl rfl ?_
  refine j_if_lt (tgt := 12) dX10_blame_1 rfl (fun h1 => ?_) (fun h1 => ?_)
  · refine j_bipush dX10_blame_12 r32_m2 bp_m2 ?_
    exact j_ireturn dX10_blame_14 rfl rfl (Nat.zero_le _) (Nat.zero_le _)
  · refine j_iload_n dX10_blame_4 rfl rfl ?_
    refine j_aload_n dX10_blame_5 rfl rfl ?_
    refine j_gic dX10_blame_6 gf_X10_269 (oc_paper ha0) ?_
    refine j_icmp_lt (tgt := 15) dX10_blame_9 rfl (fun h9 => ?_) (fun h9 => ?_)
    · refine j_bipush dX10_blame_12 r32_m2 bp_m2 ?_
      exact j_ireturn dX10_blame_14 rfl rfl (Nat.zero_le _) (Nat.zero_le _)
    · refine j_iconst dX10_blame_15 r32_m1 ?_
      refine j_istore_n dX10_blame_16 rfl (Nat.le_of_ble_eq_true rfl) rfl ?_
      refine j_aload_n dX10_blame_17 rfl rfl ?_
      refine j_gic dX10_blame_18 gf_X10_248 (oc_paper ha0) ?_
      refine j_istore_n dX10_blame_21 rfl (Nat.le_of_ble_eq_true rfl) rfl ?_
      refine j_iconst dX10_blame_22 r32_0 ?_
      refine j_istore dX10_blame_23 (Nat.le_of_ble_eq_true rfl) rfl ?_
      exact j_mask [true, true, true, true, true, false] rfl (cX_blame_L25_J a0 ha0 a1 FU (-1) (G a0 0) 0 G)

set_option maxRecDepth 100000 in
theorem cX_blame_ct {l : Launch} {H : Hp} (a0 : Int) (ha0 : isPaper a0) (a1 : Int) (G : Hp) {r : Int × Hp} (h : cX_blame a0 a1 G = some r) : Ct l M_cX_blame [(2, a0), (0, a1)] 224 (fu G H) ((KWi (fun g => fu g H)) r) :=
  ct_of_J (by decide +kernel) rfl (Nat.le_of_ble_eq_true rfl) (cX_blame_J a0 ha0 a1 G) h
set_option maxRecDepth 100000 in
theorem cX_lastWord_J {l : Launch} {H : Hp} (a1 : Int) (a2 : Int) (G : Hp) : J l M_cX_lastWord (KWi (fun g => fu g H)) (cX_lastWord a1 a2 G) 0 [(2, 0), (0, a1), (0, a2), (9, 0)] [] 224 (fu G H) (0, 0) := by
  unfold cX_lastWord
  refine j_aload_n dX10_lastWord_0 rfl rfl ?_
  refine j_iload_n dX10_lastWord_1 rfl rfl ?_
  refine j_cVRr dX10_lastWord_2 im_cX_paperAt lk_X10_124 rfl (As := [(0, a1)]) (S := []) rfl oc_0.1 ⟨by decide, by decide⟩ (Nat.le_of_ble_eq_true rfl) (fun r hr => cX_paperAt_ct a1 G hr) (fun v2 hv2 => ?_)
  refine j_astore_n dX10_lastWord_5 rfl (Nat.le_of_ble_eq_true rfl) rfl ?_
  refine j_aload_n dX10_lastWord_6 rfl rfl ?_
  refine j_ifnonnull (tgt := 13) dX10_lastWord_7 rfl (fun h7 => ?_) (fun h7 => ?_)
  · refine j_bipush dX10_lastWord_10 r32_m2 bp_m2 ?_
    exact j_ireturn dX10_lastWord_12 rfl rfl (Nat.zero_le _) (Nat.zero_le _)
  · refine j_iload_n dX10_lastWord_13 rfl rfl ?_
    refine j_ite _ (fun hc14_0 => ?_) (fun hc14_0 => ?_)
    · refine j_swIn (i := 0) (tgt := 56) dX10_lastWord_14 (hc14_0.trans (by decide)) (by decide) rfl rfl ?_
      refine j_aload_n dX10_lastWord_56 rfl rfl ?_
      refine j_cVWi dX10_lastWord_57 im_cPa_idle lk_X10_296 rfl (As := []) (S := []) rfl (oc_paper (cX_paperAt_ok hv2 h7)).1 ⟨by decide, by decide⟩ (Nat.le_of_ble_eq_true rfl) (fun r hr => cPa_idle_ct v2 (cX_paperAt_ok hv2 h7) G hr) (fun r57 _ => ?_)
      exact j_ireturn dX10_lastWord_60 rfl rfl (Nat.zero_le _) (Nat.zero_le _)
    · refine j_ite _ (fun hc14_1 => ?_) (fun hc14_1 => ?_)
      · refine j_swIn (i := 1) (tgt := 61) dX10_lastWord_14 (hc14_1.trans (by decide)) (by decide) rfl rfl ?_
        refine j_aload_n dX10_lastWord_61 rfl rfl ?_
        refine j_cSWi dX10_lastWord_62 sm_cX_bestLast lk_X10_299 rfl (As := [(2, v2)]) (S := []) rfl ⟨by decide, by decide⟩ (Nat.le_of_ble_eq_true rfl) (fun r hr => cX_bestLast_ct v2 (cX_paperAt_ok hv2 h7) G hr) (fun r62 _ => ?_)
        refine j_cSRi dX10_lastWord_65 sm_cX_which lk_X10_302 rfl (As := [(0, r62.1)]) (S := []) rfl ⟨by decide, by decide⟩ (Nat.le_of_ble_eq_true rfl) (fun r hr => cX_which_ct r62.1 r62.2 hr) (fun v65 _ => ?_)
        exact j_ireturn dX10_lastWord_68 rfl rfl (Nat.zero_le _) (Nat.zero_le _)
      · refine j_ite _ (fun hc14_2 => ?_) (fun hc14_2 => ?_)
        · refine j_swIn (i := 2) (tgt := 69) dX10_lastWord_14 (hc14_2.trans (by decide)) (by decide) rfl rfl ?_
          refine j_aload_n dX10_lastWord_69 rfl rfl ?_
          refine j_cSWi dX10_lastWord_70 sm_cX_bestLast lk_X10_299 rfl (As := [(2, v2)]) (S := []) rfl ⟨by decide, by decide⟩ (Nat.le_of_ble_eq_true rfl) (fun r hr => cX_bestLast_ct v2 (cX_paperAt_ok hv2 h7) G hr) (fun r70 _ => ?_)
          refine j_cSRi dX10_lastWord_73 sm_cX_howMuch lk_X10_305 rfl (As := [(0, r70.1)]) (S := []) rfl ⟨by decide, by decide⟩ (Nat.le_of_ble_eq_true rfl) (fun r hr => cX_howMuch_ct r70.1 r70.2 hr) (fun v73 _ => ?_)
          exact j_ireturn dX10_lastWord_76 rfl rfl (Nat.zero_le _) (Nat.zero_le _)
        · refine j_ite _ (fun hc14_3 => ?_) (fun hc14_3 => ?_)
          · refine j_swIn (i := 3) (tgt := 77) dX10_lastWord_14 (hc14_3.trans (by decide)) (by decide) rfl rfl ?_
            refine j_aload_n dX10_lastWord_77 rfl rfl ?_
            refine j_cSWi dX10_lastWord_78 sm_cX_bestSwap lk_X10_308 rfl (As := [(2, v2)]) (S := []) rfl ⟨by decide, by decide⟩ (Nat.le_of_ble_eq_true rfl) (fun r hr => cX_bestSwap_ct v2 (cX_paperAt_ok hv2 h7) G hr) (fun r78 _ => ?_)
            refine j_cSRi dX10_lastWord_81 sm_cX_which lk_X10_302 rfl (As := [(0, r78.1)]) (S := []) rfl ⟨by decide, by decide⟩ (Nat.le_of_ble_eq_true rfl) (fun r hr => cX_which_ct r78.1 r78.2 hr) (fun v81 _ => ?_)
            exact j_ireturn dX10_lastWord_84 rfl rfl (Nat.zero_le _) (Nat.zero_le _)
          · refine j_ite _ (fun hc14_4 => ?_) (fun hc14_4 => ?_)
            · refine j_swIn (i := 4) (tgt := 85) dX10_lastWord_14 (hc14_4.trans (by decide)) (by decide) rfl rfl ?_
              refine j_aload_n dX10_lastWord_85 rfl rfl ?_
              refine j_cSWi dX10_lastWord_86 sm_cX_bestSwap lk_X10_308 rfl (As := [(2, v2)]) (S := []) rfl ⟨by decide, by decide⟩ (Nat.le_of_ble_eq_true rfl) (fun r hr => cX_bestSwap_ct v2 (cX_paperAt_ok hv2 h7) G hr) (fun r86 _ => ?_)
              refine j_cSRi dX10_lastWord_89 sm_cX_howMuch lk_X10_305 rfl (As := [(0, r86.1)]) (S := []) rfl ⟨by decide, by decide⟩ (Nat.le_of_ble_eq_true rfl) (fun r hr => cX_howMuch_ct r86.1 r86.2 hr) (fun v89 _ => ?_)
              exact j_ireturn dX10_lastWord_92 rfl rfl (Nat.zero_le _) (Nat.zero_le _)
            · refine j_ite _ (fun hc14_5 => ?_) (fun hc14_5 => ?_)
              · refine j_swIn (i := 5) (tgt := 93) dX10_lastWord_14 (hc14_5.trans (by decide)) (by decide) rfl rfl ?_
                refine j_aload_n dX10_lastWord_93 rfl rfl ?_
                refine j_aload_n dX10_lastWord_94 rfl rfl ?_
                refine j_cVWi dX10_lastWord_95 im_cX_bestCouple lk_X10_311 rfl (As := [(2, v2)]) (S := []) rfl oc_0.1 ⟨by decide, by decide⟩ (Nat.le_of_ble_eq_true rfl) (fun r hr => cX_bestCouple_ct v2 (cX_paperAt_ok hv2 h7) G hr) (fun r95 _ => ?_)
                refine j_cSRi dX10_lastWord_98 sm_cX_which lk_X10_302 rfl (As := [(0, r95.1)]) (S := []) rfl ⟨by decide, by decide⟩ (Nat.le_of_ble_eq_true rfl) (fun r hr => cX_which_ct r95.1 r95.2 hr) (fun v98 _ => ?_)
                exact j_ireturn dX10_lastWord_101 rfl rfl (Nat.zero_le _) (Nat.zero_le _)
              · refine j_ite _ (fun hc14_6 => ?_) (fun hc14_6 => ?_)
                · refine j_swIn (i := 6) (tgt := 102) dX10_lastWord_14 (hc14_6.trans (by decide)) (by decide) rfl rfl ?_
                  refine j_aload_n dX10_lastWord_102 rfl rfl ?_
                  refine j_aload_n dX10_lastWord_103 rfl rfl ?_
                  refine j_cVWi dX10_lastWord_104 im_cX_bestCouple lk_X10_311 rfl (As := [(2, v2)]) (S := []) rfl oc_0.1 ⟨by decide, by decide⟩ (Nat.le_of_ble_eq_true rfl) (fun r hr => cX_bestCouple_ct v2 (cX_paperAt_ok hv2 h7) G hr) (fun r104 _ => ?_)
                  refine j_cSRi dX10_lastWord_107 sm_cX_howMuch lk_X10_305 rfl (As := [(0, r104.1)]) (S := []) rfl ⟨by decide, by decide⟩ (Nat.le_of_ble_eq_true rfl) (fun r hr => cX_howMuch_ct r104.1 r104.2 hr) (fun v107 _ => ?_)
                  exact j_ireturn dX10_lastWord_110 rfl rfl (Nat.zero_le _) (Nat.zero_le _)
                · refine j_swOut (tgt := 111) dX10_lastWord_14 (by omega) rfl ?_
                  refine j_aload_n dX10_lastWord_111 rfl rfl ?_
                  refine j_iload_n dX10_lastWord_112 rfl rfl ?_
                  refine j_bipush dX10_lastWord_113 r32_10 bp_10 ?_
                  refine j_isub dX10_lastWord_115 ?_
                  refine j_cSWi dX10_lastWord_116 sm_cX_blame lk_X10_314 rfl (As := [(2, v2), (0, w32 (a2 - 10))]) (S := []) rfl ⟨by decide, by decide⟩ (Nat.le_of_ble_eq_true rfl) (fun r hr => cX_blame_ct v2 (cX_paperAt_ok hv2 h7) (w32 (a2 - 10)) G hr) (fun r116 _ => ?_)
                  exact j_ireturn dX10_lastWord_119 rfl rfl (Nat.zero_le _) (Nat.zero_le _)

set_option maxRecDepth 100000 in
theorem cX_lastWord_ct {l : Launch} {H : Hp} (a1 : Int) (a2 : Int) (G : Hp) {r : Int × Hp} (h : cX_lastWord a1 a2 G = some r) : Ct l M_cX_lastWord [(2, 0), (0, a1), (0, a2)] 224 (fu G H) ((KWi (fun g => fu g H)) r) :=
  ct_of_J (by decide +kernel) rfl (Nat.le_of_ble_eq_true rfl) (cX_lastWord_J a1 a2 G) h
