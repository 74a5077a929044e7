set_option maxRecDepth 100000 in
theorem cX_clearRow_L2_J {l : Launch} {H : Hp} : ∀ (n_2 : Nat) (x1_2 : Int) (G_2 : Hp), J l M_cX_clearRow (KWv (fun g => fu g H)) (cX_clearRow_L2  n_2 x1_2 G_2) 2 [(2, 0), (0, x1_2)] [] 224 (fu G_2 H) (0, 0) := by
  intro n_2
  induction n_2 with
  | zero =>
    intro x1_2 G_2
    exact j_none
  | succ n_2 ih =>
    intro x1_2 G_2
    rw [cX_clearRow_L2]
    refine j_iload_n dX10_clearRow_2 rfl rfl ?_
    refine j_bipush dX10_clearRow_3 r32_10 bp_10 ?_
    refine j_icmp_ge (tgt := 21) dX10_clearRow_5 rfl (fun h5 => ?_) (fun h5 => ?_)
    · refine j_aload_n dX10_clearRow_8 rfl rfl ?_
      refine j_grc dX10_clearRow_9 gf_X10_66 oc_0 (Or.inl (by decide)) rf_0_9 ?_
      refine j_iload_n dX10_clearRow_12 rfl rfl ?_
      refine j_iconst dX10_clearRow_13 r32_0 ?_
      refine j_gd (fun h14a h14b => ?_)
      refine j_sic dX10_clearRow_14 oc_91 rfl h14a h14b ?_
      refine j_iinc dX10_clearRow_15 rfl (Nat.le_of_ble_eq_true rfl) rfl ?_
      refine j_goto (tgt := 2) dX10_clearRow_18 rfl ?_
      exact j_mask [true, true] rfl (ih (w32 (x1_2 + 1)) (upd2 G_2 91 x1_2 0))
    · exact j_return dX10_clearRow_21 rfl rfl (Nat.zero_le _) (Nat.zero_le _)

set_option maxRecDepth 100000 in
theorem cX_clearRow_J {l : Launch} {H : Hp} (G : Hp) : J l M_cX_clearRow (KWv (fun g => fu g H)) (cX_clearRow  G) 0 [(2, 0), (9, 0)] [] 224 (fu G H) (0, 0) := by
  unfold cX_clearRow
  refine j_iconst dX10_clearRow_0 r32_0 ?_
  refine j_istore_n dX10_clearRow_1 rfl (Nat.le_of_ble_eq_true rfl) rfl ?_
  exact j_mask [true, true] rfl (cX_clearRow_L2_J FU 0 G)

set_option maxRecDepth 100000 in
theorem cX_clearRow_ct {l : Launch} {H : Hp} (G : Hp) {r : Hp} (h : cX_clearRow  G = some r) : Ct l M_cX_clearRow [(2, 0)] 224 (fu G H) ((KWv (fun g => fu g H)) r) :=
  ct_of_J (by decide +kernel) rfl (Nat.le_of_ble_eq_true rfl) (cX_clearRow_J  G) h
set_option maxRecDepth 100000 in
theorem cX_longestDesk_L18_J {l : Launch} {H : Hp} (a1 : Int) (ha1 : isPaper a1) (a2 : Int) (a3 : Int) : ∀ (n_18 : Nat) (x4_18 : Int) (x5_18 : Int) (x6_18 : Int) (G_18 : Hp), J l M_cX_longestDesk (KWi (fun g => fu g H)) (cX_longestDesk_L18 a1 a2 a3  n_18 x4_18 x5_18 x6_18 G_18) 18 [(2, 0), (2, a1), (0, a2), (9, 0), (0, x4_18), (0, x5_18), (0, x6_18), (9, 0)] [] 224 (fu G_18 H) (0, 0) := by
  intro n_18
  induction n_18 with
  | zero =>
    intro x4_18 x5_18 x6_18 G_18
    exact j_none
  | succ n_18 ih =>
    intro x4_18 x5_18 x6_18 G_18
    rw [cX_longestDesk_L18]
    refine j_iload dX10_longestDesk_18 rfl ?_
    refine j_if_lt (tgt := 82) dX10_longestDesk_20 rfl (fun h20 => ?_) (fun h20 => ?_)
    · refine j_iload dX10_longestDesk_82 rfl ?_
      exact j_ireturn dX10_longestDesk_84 rfl rfl (Nat.zero_le _) (Nat.zero_le _)
    · refine j_iload_n dX10_longestDesk_23 rfl rfl ?_
      refine j_if_le (tgt := 82) dX10_longestDesk_24 rfl (fun h24 => ?_) (fun h24 => ?_)
      · refine j_iload_n dX10_longestDesk_27 rfl rfl ?_
        refine j_bipush dX10_longestDesk_28 r32_10 bp_10 ?_
        refine j_icmp_gt (tgt := 82) dX10_longestDesk_30 rfl (fun h30 => ?_) (fun h30 => ?_)
        · refine j_iload dX10_longestDesk_33 rfl ?_
          refine j_iload_n dX10_longestDesk_35 rfl rfl ?_
          refine j_nz (fun hz36 => ?_)
          refine j_irem dX10_longestDesk_36 hz36 ?_
          refine j_istore dX10_longestDesk_37 (Nat.le_of_ble_eq_true rfl) rfl ?_
          refine j_iload dX10_longestDesk_39 rfl ?_
          refine j_iload_n dX10_longestDesk_41 rfl rfl ?_
          refine j_nz (fun hz42 => ?_)
          refine j_idiv dX10_longestDesk_42 hz42 ?_
          refine j_istore dX10_longestDesk_43 (Nat.le_of_ble_eq_true rfl) rfl ?_
          refine j_aload_n dX10_longestDesk_45 rfl rfl ?_
          refine j_grc dX10_longestDesk_46 gf_X10_66 oc_0 (Or.inl (by decide)) rf_0_9 ?_
          refine j_iload dX10_longestDesk_49 rfl ?_
          refine j_dup2 dX10_longestDesk_51 (by decide) (by decide) ?_
          refine j_gd (fun h52a h52b => ?_)
          refine j_aic dX10_longestDesk_52 oc_91 rfl h52a h52b ?_
          refine j_aload_n dX10_longestDesk_53 rfl rfl ?_
          refine j_grc dX10_longestDesk_54 gf_X10_336 (oc_paper ha1) (Or.inl (by decide)) (rf_paper_5 ha1) ?_
          refine j_iload dX10_longestDesk_57 rfl ?_
          refine j_gd (fun h59a h59b => ?_)
          refine j_aic dX10_longestDesk_59 (oc_paper_6 ha1) rfl h59a h59b ?_
          refine j_iadd dX10_longestDesk_60 ?_
          refine j_gd (fun h61a h61b => ?_)
          refine j_sic dX10_longestDesk_61 oc_91 rfl h61a h61b ?_
          refine j_iload dX10_longestDesk_62 rfl ?_
          refine j_aload_n dX10_longestDesk_64 rfl rfl ?_
          refine j_grc dX10_longestDesk_65 gf_X10_66 oc_0 (Or.inl (by decide)) rf_0_9 ?_
          refine j_iload dX10_longestDesk_68 rfl ?_
          refine j_gd (fun h70a h70b => ?_)
          refine j_aic dX10_longestDesk_70 oc_91 rfl h70a h70b ?_
          refine j_max dX10_longestDesk_71 mm_X10_339 st_max in_Math co_max (Nat.le_of_ble_eq_true rfl) (Nat.le_of_ble_eq_true rfl) (Nat.zero_le _) (Nat.zero_le _) ?_
          refine j_istore dX10_longestDesk_74 (Nat.le_of_ble_eq_true rfl) rfl ?_
          refine j_iinc dX10_longestDesk_76 rfl (Nat.le_of_ble_eq_true rfl) rfl ?_
          refine j_goto (tgt := 18) dX10_longestDesk_79 rfl ?_
          exact j_mask [true, true, true, false, true, true, true, false] rfl (ih (idiv x4_18 a2) (max x5_18 ((upd2 G_18 91 (irem x4_18 a2) (w32 ((G_18 91 (irem x4_18 a2)) + (G_18 (a1 + 6) x6_18)))) 91 (irem x4_18 a2))) (w32 (x6_18 + (-1))) (upd2 G_18 91 (irem x4_18 a2) (w32 ((G_18 91 (irem x4_18 a2)) + (G_18 (a1 + 6) x6_18)))))
        · refine j_iload dX10_longestDesk_82 rfl ?_
          exact j_ireturn dX10_longestDesk_84 rfl rfl (Nat.zero_le _) (Nat.zero_le _)
      · refine j_iload dX10_longestDesk_82 rfl ?_
        exact j_ireturn dX10_longestDesk_84 rfl rfl (Nat.zero_le _) (Nat.zero_le _)

set_option maxRecDepth 100000 in
theorem cX_longestDesk_J {l : Launch} {H : Hp} (a1 : Int) (ha1 : isPaper a1) (a2 : Int) (a3 : Int) (G : Hp) : J l M_cX_longestDesk (KWi (fun g => fu g H)) (cX_longestDesk a1 a2 a3 G) 0 [(2, 0), (2, a1), (0, a2), (0, a3), (9, 0), (9, 0), (9, 0), (9, 0)] [] 224 (fu G H) (0, 0) := by
  unfold cX_longestDesk
  refine j_aload_n dX10_longestDesk_0 rfl rfl ?_
  refine j_cVWv dX10_longestDesk_1 im_cX_clearRow lk_X10_333 rfl (As := []) (S := []) rfl oc_0.1 ⟨by decide, by decide⟩ (Nat.le_of_ble_eq_true rfl) (fun r hr => cX_clearRow_ct  G hr) (fun G1 _ => ?_)
  refine j_iload_n dX10_longestDesk_4 rfl rfl ?_
  refine j_istore dX10_longestDesk_5 (Nat.le_of_ble_eq_true rfl) rfl ?_
  refine j_iconst dX10_longestDesk_7 r32_0 ?_
  refine j_istore dX10_longestDesk_8 (Nat.le_of_ble_eq_true rfl) rfl ?_
  refine j_aload_n dX10_longestDesk_10 rfl rfl ?_
  refine j_gic dX10_longestDesk_11 gf_X10_245 (oc_paper ha1) ?_
  refine j_iconst dX10_longestDesk_14 r32_1 ?_
  refine j_isub dX10_longestDesk_15 ?_
  refine j_istore dX10_longestDesk_16 (Nat.le_of_ble_eq_true rfl) rfl ?_
  exact j_mask [true, true, true, false, true, true, true, false] rfl (cX_longestDesk_L18_J a1 ha1 a2 a3 FU a3 0 (w32 ((G1 a1 2) - 1)) G1)

set_option maxRecDepth 100000 in
theorem cX_longestDesk_ct {l : Launch} {H : Hp} (a1 : Int) (ha1 : isPaper a1) (a2 : Int) (a3 : Int) (G : Hp) {r : Int × Hp} (h : cX_longestDesk a1 a2 a3 G = some r) : Ct l M_cX_longestDesk [(2, 0), (2, a1), (0, a2), (0, a3)] 224 (fu G H) ((KWi (fun g => fu g H)) r) :=
  ct_of_J (by decide +kernel) rfl (Nat.le_of_ble_eq_true rfl) (cX_longestDesk_J a1 ha1 a2 a3 G) h
set_option maxRecDepth 100000 in
theorem cX_deskOf_L11_J {l : Launch} {H : Hp} (a0 : Int) (ha0 : isPaper a0) (a1 : Int) (a2 : Int) (a3 : Int) (G : Hp) (k33 : Int → Option (Int)) (hk33 : ∀ (x4_33 : Int), J l M_cX_deskOf (KRi (fu G H)) (k33 x4_33) 33 [(9, 0), (0, a1), (9, 0), (9, 0), (0, x4_33), (9, 0)] [] 224 (fu G H) (0, 0)) : ∀ (n_11 : Nat) (x4_11 : Int) (x5_11 : Int), J l M_cX_deskOf (KRi (fu G H)) (cX_deskOf_L11 a0 a1 a2 a3 G k33 n_11 x4_11 x5_11) 11 [(9, 0), (0, a1), (9, 0), (0, a3), (0, x4_11), (0, x5_11)] [] 224 (fu G H) (0, 0) := by
  intro n_11
  induction n_11 with
  | zero =>
    intro x4_11 x5_11
    exact j_none
  | succ n_11 ih =>
    intro x4_11 x5_11
    rw [cX_deskOf_L11]
    refine j_iload dX10_deskOf_11 rfl ?_
    refine j_iload_n dX10_deskOf_13 rfl rfl ?_
    refine j_icmp_le (tgt := 33) dX10_deskOf_14 rfl (fun h14 => ?_) (fun h14 => ?_)
    · refine j_iload_n dX10_deskOf_17 rfl rfl ?_
      refine j_if_le (tgt := 33) dX10_deskOf_18 rfl (fun h18 => ?_) (fun h18 => ?_)
      · refine j_iload dX10_deskOf_21 rfl ?_
        refine j_iload_n dX10_deskOf_23 rfl rfl ?_
        refine j_nz (fun hz24 => ?_)
        refine j_idiv dX10_deskOf_24 hz24 ?_
        refine j_istore dX10_deskOf_25 (Nat.le_of_ble_eq_true rfl) rfl ?_
        refine j_iinc dX10_deskOf_27 rfl (Nat.le_of_ble_eq_true rfl) rfl ?_
        refine j_goto (tgt := 11) dX10_deskOf_30 rfl ?_
        exact j_mask [false, true, false, true, true, true] rfl (ih (idiv x4_11 a1) (w32 (x5_11 + (-1))))
      · exact j_mask [false, true, false, false, true, false] rfl (hk33 x4_11)
    · exact j_mask [false, true, false, false, true, false] rfl (hk33 x4_11)

set_option maxRecDepth 100000 in
theorem cX_deskOf_J {l : Launch} {H : Hp} (a0 : Int) (ha0 : isPaper a0) (a1 : Int) (a2 : Int) (a3 : Int) (G : Hp) : J l M_cX_deskOf (KRi (fu G H)) (cX_deskOf a0 a1 a2 a3 G) 0 [(2, a0), (0, a1), (0, a2), (0, a3), (9, 0), (9, 0)] [] 224 (fu G H) (0, 0) := by
  unfold cX_deskOf
  refine j_iload_n dX10_deskOf_0 rfl rfl ?_
  refine j_istore dX10_deskOf_1 (Nat.le_of_ble_eq_true rfl) rfl ?_
  refine j_aload_n dX10_deskOf_3 rfl rfl ?_
  refine j_gic dX10_deskOf_4 gf_X10_245 (oc_paper ha0) ?_
  refine j_iconst dX10_deskOf_7 r32_1 ?_
  refine j_isub dX10_deskOf_8 ?_
  refine j_istore dX10_deskOf_9 (Nat.le_of_ble_eq_true rfl) rfl ?_
  refine j_mask [false, true, false, true, true, true] rfl (cX_deskOf_L11_J a0 ha0 a1 a2 a3 G (fun x4_33 => if 0 < a1 then (nz a1 (some (irem x4_33 a1))) else some 0) (fun x4_33 => ?_) FU a2 (w32 ((G a0 2) - 1)))
  refine j_iload_n dX10_deskOf_33 rfl rfl ?_
  refine j_if_le (tgt := 44) dX10_deskOf_34 rfl (fun h34 => ?_) (fun h34 => ?_)
  · refine j_iload dX10_deskOf_37 rfl ?_
    refine j_iload_n dX10_deskOf_39 rfl rfl ?_
    refine j_nz (fun hz40 => ?_)
    refine j_irem dX10_deskOf_40 hz40 ?_
    refine j_goto (tgt := 45) dX10_deskOf_41 rfl ?_
    exact j_ireturn dX10_deskOf_45 rfl rfl (Nat.zero_le _) (Nat.zero_le _)
  · refine j_iconst dX10_deskOf_44 r32_0 ?_
    exact j_ireturn dX10_deskOf_45 rfl rfl (Nat.zero_le _) (Nat.zero_le _)

set_option maxRecDepth 100000 in
theorem cX_deskOf_ct {l : Launch} {H : Hp} (a0 : Int) (ha0 : isPaper a0) (a1 : Int) (a2 : Int) (a3 : Int) (G : Hp) {r : Int} (h : cX_deskOf a0 a1 a2 a3 G = some r) : Ct l M_cX_deskOf [(2, a0), (0, a1), (0, a2), (0, a3)] 224 (fu G H) ((KRi (fu G H)) r) :=
  ct_of_J (by decide +kernel) rfl (Nat.le_of_ble_eq_true rfl) (cX_deskOf_J a0 ha0 a1 a2 a3 G) h
set_option maxRecDepth 100000 in
theorem cX_desks_L44_J {l : Launch} {H : Hp} (a1 : Int) (a2 : Int) (a3 : Int) (x4_44 : Int) (hx4_44 : isPaper x4_44) (G_44 : Hp) (k66 : Int → Option (Int × Hp)) (hk66 : ∀ (x5_66 : Int), J l M_cX_desks (KWi (fun g => fu g H)) (k66 x5_66) 66 [(2, 0), (9, 0), (0, a2), (0, a3), (2, x4_44), (0, x5_66), (9, 0), (9, 0), (9, 0), (9, 0)] [] 224 (fu G_44 H) (0, 0)) : ∀ (n_44 : Nat) (x5_44 : Int) (x6_44 : Int), J l M_cX_desks (KWi (fun g => fu g H)) (cX_desks_L44 a1 a2 a3 x4_44 G_44 k66 n_44 x5_44 x6_44) 44 [(2, 0), (9, 0), (0, a2), (0, a3), (2, x4_44), (0, x5_44), (0, x6_44), (9, 0), (9, 0), (9, 0)] [] 224 (fu G_44 H) (0, 0) := by
  intro n_44
  induction n_44 with
  | zero =>
    intro x5_44 x6_44
    exact j_none
  | succ n_44 ih =>
    intro x5_44 x6_44
    rw [cX_desks_L44]
    refine j_iload dX10_desks_44 rfl ?_
    refine j_aload dX10_desks_46 rfl ?_
    refine j_gic dX10_desks_48 gf_X10_245 (oc_paper hx4_44) ?_
    refine j_icmp_ge (tgt := 66) dX10_desks_51 rfl (fun h51 => ?_) (fun h51 => ?_)
    · refine j_iload dX10_desks_54 rfl ?_
      refine j_iload_n dX10_desks_56 rfl rfl ?_
      refine j_imul dX10_desks_57 ?_
      refine j_istore dX10_desks_58 (Nat.le_of_ble_eq_true rfl) rfl ?_
      refine j_iinc dX10_desks_60 rfl (Nat.le_of_ble_eq_true rfl) rfl ?_
      refine j_goto (tgt := 44) dX10_desks_63 rfl ?_
      exact j_mask [true, false, true, true, true, true, true, false, false, false] rfl (ih (w32 (x5_44 * a2)) (w32 (x6_44 + 1)))
    · exact j_mask [true, false, true, true, true, true, false, false, false, false] rfl (hk66 x5_44)

set_option maxRecDepth 100000 in
theorem cX_desks_L76_J {l : Launch} {H : Hp} (a1 : Int) (a2 : Int) (a3 : Int) (x4_76 : Int) (hx4_76 : isPaper x4_76) (x5_76 : Int) (k115 : Int → Int → Hp → Option (Int × Hp)) (hk115 : ∀ (x6_115 : Int) (x7_115 : Int) (G_115 : Hp), J l M_cX_desks (KWi (fun g => fu g H)) (k115 x6_115 x7_115 G_115) 115 [(9, 0), (9, 0), (0, a2), (0, a3), (2, x4_76), (9, 0), (0, x6_115), (0, x7_115), (9, 0), (9, 0)] [] 224 (fu G_115 H) (0, 0)) : ∀ (n_76 : Nat) (x6_76 : Int) (x7_76 : Int) (x8_76 : Int) (G_76 : Hp), J l M_cX_desks (KWi (fun g => fu g H)) (cX_desks_L76 a1 a2 a3 x4_76 x5_76 k115 n_76 x6_76 x7_76 x8_76 G_76) 76 [(2, 0), (9, 0), (0, a2), (0, a3), (2, x4_76), (0, x5_76), (0, x6_76), (0, x7_76), (0, x8_76), (9, 0)] [] 224 (fu G_76 H) (0, 0) := by
  intro n_76
  induction n_76 with
  | zero =>
    intro x6_76 x7_76 x8_76 G_76
    exact j_none
  | succ n_76 ih =>
    intro x6_76 x7_76 x8_76 G_76
    rw [cX_desks_L76]
    refine j_iload dX10_desks_76 rfl ?_
    refine j_iload dX10_desks_78 rfl ?_
    refine j_icmp_ge (tgt := 115) dX10_desks_80 rfl (fun h80 => ?_) (fun h80 => ?_)
    · refine j_aload_n dX10_desks_83 rfl rfl ?_
      refine j_aload dX10_desks_84 rfl ?_
      refine j_iload_n dX10_desks_86 rfl rfl ?_
      refine j_iload dX10_desks_87 rfl ?_
      refine j_cVWi dX10_desks_89 im_cX_longestDesk lk_X10_326 rfl (As := [(2, x4_76), (0, a2), (0, x8_76)]) (S := []) rfl oc_0.1 ⟨by decide, by decide⟩ (Nat.le_of_ble_eq_true rfl) (fun r hr => cX_longestDesk_ct x4_76 hx4_76 a2 x8_76 G_76 hr) (fun r89 _ => ?_)
      refine j_istore dX10_desks_92 (Nat.le_of_ble_eq_true rfl) rfl ?_
      refine j_iload dX10_desks_94 rfl ?_
      refine j_iload dX10_desks_96 rfl ?_
      refine j_icmp_ge (tgt := 109) dX10_desks_98 rfl (fun h98 => ?_) (fun h98 => ?_)
      · refine j_iload dX10_desks_101 rfl ?_
        refine j_istore dX10_desks_103 (Nat.le_of_ble_eq_true rfl) rfl ?_
        refine j_iload dX10_desks_105 rfl ?_
        refine j_istore dX10_desks_107 (Nat.le_of_ble_eq_true rfl) rfl ?_
        refine j_iinc dX10_desks_109 rfl (Nat.le_of_ble_eq_true rfl) rfl ?_
        refine j_goto (tgt := 76) dX10_desks_112 rfl ?_
        exact j_mask [true, false, true, true, true, true, true, true, true, false] rfl (ih x8_76 r89.1 (w32 (x8_76 + 1)) r89.2)
      · refine j_iinc dX10_desks_109 rfl (Nat.le_of_ble_eq_true rfl) rfl ?_
        refine j_goto (tgt := 76) dX10_desks_112 rfl ?_
        exact j_mask [true, false, true, true, true, true, true, true, true, false] rfl (ih x6_76 x7_76 (w32 (x8_76 + 1)) r89.2)
    · exact j_mask [false, false, true, true, true, false, true, true, false, false] rfl (hk115 x6_76 x7_76 G_76)

set_option maxRecDepth 100000 in
theorem cX_desks_J {l : Launch} {H : Hp} (a1 : Int) (a2 : Int) (a3 : Int) (G : Hp) : J l M_cX_desks (KWi (fun g => fu g H)) (cX_desks a1 a2 a3 G) 0 [(2, 0), (0, a1), (0, a2), (0, a3), (9, 0), (9, 0), (9, 0), (9, 0), (9, 0), (9, 0)] [] 224 (fu G H) (0, 0) := by
  unfold cX_desks
  refine j_aload_n dX10_desks_0 rfl rfl ?_
  refine j_iload_n dX10_desks_1 rfl rfl ?_
  refine j_cVRr dX10_desks_2 im_cX_paperAt lk_X10_124 rfl (As := [(0, a1)]) (S := []) rfl oc_0.1 ⟨by decide, by decide⟩ (Nat.le_of_ble_eq_true rfl) (fun r hr => cX_paperAt_ct a1 G hr) (fun v2 hv2 => ?_)
  refine j_astore dX10_desks_5 (Nat.le_of_ble_eq_true rfl) rfl ?_
  refine j_aload dX10_desks_7 rfl ?_
  refine j_ifnull (tgt := 36) dX10_desks_9 rfl (fun h9 => ?_) (fun h9 => ?_)
  · refine j_iconst dX10_desks_36 r32_m1 ?_
    exact j_ireturn dX10_desks_37 rfl rfl (Nat.zero_le _) (Nat.zero_le _)
  · refine j_iload_n dX10_desks_12 rfl rfl ?_
    refine j_iconst dX10_desks_13 r32_1 ?_
    refine j_icmp_lt (tgt := 36) dX10_desks_14 rfl (fun h14 => ?_) (fun h14 => ?_)
    · refine j_iload_n dX10_desks_17 rfl rfl ?_
      refine j_iconst dX10_desks_18 r32_3 ?_
      refine j_icmp_gt (tgt := 36) dX10_desks_19 rfl (fun h19 => ?_) (fun h19 => ?_)
      · refine j_iload_n dX10_desks_22 rfl rfl ?_
        refine j_iconst dX10_desks_23 r32_m1 ?_
        refine j_icmp_lt (tgt := 36) dX10_desks_24 rfl (fun h24 => ?_) (fun h24 => ?_)
        · refine j_iload_n dX10_desks_27 rfl rfl ?_
          refine j_aload dX10_desks_28 rfl ?_
          refine j_gic dX10_desks_30 gf_X10_245 (oc_paper (cX_paperAt_ok hv2 h9)) ?_
          refine j_icmp_lt (tgt := 38) dX10_desks_33 rfl (fun h33 => ?_) (fun h33 => ?_)
          · refine j_iconst dX10_desks_36 r32_m1 ?_
            exact j_ireturn dX10_desks_37 rfl rfl (Nat.zero_le _) (Nat.zero_le _)
          · refine j_iconst dX10_desks_38 r32_1 ?_
            refine j_istore dX10_desks_39 (Nat.le_of_ble_eq_true rfl) rfl ?_
            refine j_iconst dX10_desks_41 r32_0 ?_
            refine j_istore dX10_desks_42 (Nat.le_of_ble_eq_true rfl) rfl ?_
            refine j_mask [true, false, true, true, true, true, true, false, false, false] rfl (cX_desks_L44_J a1 a2 a3 v2 (cX_paperAt_ok hv2 h9) G (fun x5_66 => cX_desks_L76 a1 a2 a3 v2 x5_66 (fun x6_115 x7_115 G_115 => if a3 = (-1) then some (x7_115, G_115) else ((cX_deskOf v2 a2 x6_115 a3 G_115).bind fun v131 => some (v131, G_115))) FU 0 55 0 G) (fun x5_66 => ?_) FU 1 0)
            refine j_iconst dX10_desks_66 r32_0 ?_
            refine j_istore dX10_desks_67 (Nat.le_of_ble_eq_true rfl) rfl ?_
            refine j_bipush dX10_desks_69 r32_55 bp_55 ?_
            refine j_istore dX10_desks_71 (Nat.le_of_ble_eq_true rfl) rfl ?_
            refine j_iconst dX10_desks_73 r32_0 ?_
            refine j_istore dX10_desks_74 (Nat.le_of_ble_eq_true rfl) rfl ?_
            refine j_mask [true, false, true, true, true, true, true, true, true, false] rfl (cX_desks_L76_J a1 a2 a3 v2 (cX_paperAt_ok hv2 h9) x5_66 (fun x6_115 x7_115 G_115 => if a3 = (-1) then some (x7_115, G_115) else ((cX_deskOf v2 a2 x6_115 a3 G_115).bind fun v131 => some (v131, G_115))) (fun x6_115 x7_115 G_115 => ?_) FU 0 55 0 G)
            refine j_iload_n dX10_desks_115 rfl rfl ?_
            refine j_iconst dX10_desks_116 r32_m1 ?_
            refine j_icmp_ne (tgt := 125) dX10_desks_117 rfl (fun h117 => ?_) (fun h117 => ?_)
            · refine j_iload dX10_desks_120 rfl ?_
              refine j_goto (tgt := 134) dX10_desks_122 rfl ?_
              exact j_ireturn dX10_desks_134 rfl rfl (Nat.zero_le _) (Nat.zero_le _)
            · refine j_aload dX10_desks_125 rfl ?_
              refine j_iload_n dX10_desks_127 rfl rfl ?_
              refine j_iload dX10_desks_128 rfl ?_
              refine j_iload_n dX10_desks_130 rfl rfl ?_
              refine j_cSRi dX10_desks_131 sm_cX_deskOf lk_X10_329 rfl (As := [(2, v2), (0, a2), (0, x6_115), (0, a3)]) (S := []) rfl ⟨by decide, by decide⟩ (Nat.le_of_ble_eq_true rfl) (fun r hr => cX_deskOf_ct v2 (cX_paperAt_ok hv2 h9) a2 x6_115 a3 G_115 hr) (fun v131 _ => ?_)
              exact j_ireturn dX10_desks_134 rfl rfl (Nat.zero_le _) (Nat.zero_le _)
        · refine j_iconst dX10_desks_36 r32_m1 ?_
          exact j_ireturn dX10_desks_37 rfl rfl (Nat.zero_le _) (Nat.zero_le _)
      · refine j_iconst dX10_desks_36 r32_m1 ?_
        exact j_ireturn dX10_desks_37 rfl rfl (Nat.zero_le _) (Nat.zero_le _)
    · refine j_iconst dX10_desks_36 r32_m1 ?_
      exact j_ireturn dX10_desks_37 rfl rfl (Nat.zero_le _) (Nat.zero_le _)

set_option maxRecDepth 100000 in
theorem cX_desks_ct {l : Launch} {H : Hp} (a1 : Int) (a2 : Int) (a3 : Int) (G : Hp) {r : Int × Hp} (h : cX_desks a1 a2 a3 G = some r) : Ct l M_cX_desks [(2, 0), (0, a1), (0, a2), (0, a3)] 224 (fu G H) ((KWi (fun g => fu g H)) r) :=
  ct_of_J (by decide +kernel) rfl (Nat.le_of_ble_eq_true rfl) (cX_desks_J a1 a2 a3 G) h
set_option maxRecDepth 100000 in
theorem cPa_leadAt_j16_J {l : Launch} {H : Hp} (o : Int) (ho : isPaper o) (a1 : Int) (a2 : Int) (a3 : Int) (a4 : Int) (G : Hp) (s0_16 : Int) : J l M_cPa_leadAt (KRi (fu G H)) (cPa_leadAt_j16 o a1 a2 a3 a4 G  s0_16) 16 [(2, o), (9, 0), (0, a2), (0, a3), (0, a4)] [(0, s0_16)] 224 (fu G H) (0, 0) := by
  unfold cPa_leadAt_j16
  refine j_aload_n dX3_leadAt_16 rfl rfl ?_
  refine j_iload_n dX3_leadAt_17 rfl rfl ?_
  refine j_iload_n dX3_leadAt_18 rfl rfl ?_
  refine j_cVRi dX3_leadAt_19 im_cPa_wish lk_X3_60 rfl (As := [(0, a2), (0, a3)]) (S := [(0, s0_16)]) rfl (oc_paper ho).1 ⟨by decide, by decide⟩ (Nat.le_of_ble_eq_true rfl) (fun r hr => cPa_wish_ct o ho a2 a3 G hr) (fun v19 _ => ?_)
  refine j_iload dX3_leadAt_22 rfl ?_
  refine j_icmp_ne (tgt := 31) dX3_leadAt_24 rfl (fun h24 => ?_) (fun h24 => ?_)
  · refine j_iconst dX3_leadAt_27 r32_1 ?_
    refine j_goto (tgt := 32) dX3_leadAt_28 rfl ?_
    refine j_isub dX3_leadAt_32 ?_
    exact j_ireturn dX3_leadAt_33 rfl rfl (Nat.zero_le _) (Nat.zero_le _)
  · refine j_iconst dX3_leadAt_31 r32_0 ?_
    refine j_isub dX3_leadAt_32 ?_
    exact j_ireturn dX3_leadAt_33 rfl rfl (Nat.zero_le _) (Nat.zero_le _)

set_option maxRecDepth 100000 in
theorem cPa_leadAt_J {l : Launch} {H : Hp} (o : Int) (ho : isPaper o) (a1 : Int) (a2 : Int) (a3 : Int) (a4 : Int) (G : Hp) : J l M_cPa_leadAt (KRi (fu G H)) (cPa_leadAt o a1 a2 a3 a4 G) 0 [(2, o), (0, a1), (0, a2), (0, a3), (0, a4)] [] 224 (fu G H) (0, 0) := by
  unfold cPa_leadAt
  refine j_aload_n dX3_leadAt_0 rfl rfl ?_
  refine j_iload_n dX3_leadAt_1 rfl rfl ?_
  refine j_iload_n dX3_leadAt_2 rfl rfl ?_
  refine j_cVRi dX3_leadAt_3 im_cPa_wish lk_X3_60 rfl (As := [(0, a1), (0, a3)]) (S := []) rfl (oc_paper ho).1 ⟨by decide, by decide⟩ (Nat.le_of_ble_eq_true rfl) (fun r hr => cPa_wish_ct o ho a1 a3 G hr) (fun v3 _ => ?_)
  refine j_iload dX3_leadAt_6 rfl ?_
  refine j_icmp_ne (tgt := 15) dX3_leadAt_8 rfl (fun h8 => ?_) (fun h8 => ?_)
  · refine j_iconst dX3_leadAt_11 r32_1 ?_
    refine j_goto (tgt := 16) dX3_leadAt_12 rfl ?_
    exact j_mask [true, false, true, true, true] rfl (cPa_leadAt_j16_J o ho a1 a2 a3 a4 G 1)
  · refine j_iconst dX3_leadAt_15 r32_0 ?_
    exact j_mask [true, false, true, true, true] rfl (cPa_leadAt_j16_J o ho a1 a2 a3 a4 G 0)

set_option maxRecDepth 100000 in
theorem cPa_leadAt_ct {l : Launch} {H : Hp} (o : Int) (ho : isPaper o) (a1 : Int) (a2 : Int) (a3 : Int) (a4 : Int) (G : Hp) {r : Int} (h : cPa_leadAt o a1 a2 a3 a4 G = some r) : Ct l M_cPa_leadAt [(2, o), (0, a1), (0, a2), (0, a3), (0, a4)] 224 (fu G H) ((KRi (fu G H)) r) :=
  ct_of_J (by decide +kernel) rfl (Nat.le_of_ble_eq_true rfl) (cPa_leadAt_J o ho a1 a2 a3 a4 G) h
set_option maxRecDepth 100000 in
theorem cPa_gain_J {l : Launch} {H : Hp} (o : Int) (ho : isPaper o) (a1 : Int) (a2 : Int) (a3 : Int) (a4 : Int) (a5 : Int) (G : Hp) : J l M_cPa_gain (KRi (fu G H)) (cPa_gain o a1 a2 a3 a4 a5 G) 0 [(2, o), (0, a1), (0, a2), (0, a3), (0, a4), (0, a5)] [] 224 (fu G H) (0, 0) := by
  unfold cPa_gain
  refine j_aload_n dX3_gain_0 rfl rfl ?_
  refine j_iload_n dX3_gain_1 rfl rfl ?_
  refine j_iload_n dX3_gain_2 rfl rfl ?_
  refine j_iload_n dX3_gain_3 rfl rfl ?_
  refine j_iload dX3_gain_4 rfl ?_
  refine j_cVRi dX3_gain_6 im_cPa_leadAt lk_X3_66 rfl (As := [(0, a1), (0, a2), (0, a3), (0, a5)]) (S := []) rfl (oc_paper ho).1 ⟨by decide, by decide⟩ (Nat.le_of_ble_eq_true rfl) (fun r hr => cPa_leadAt_ct o ho a1 a2 a3 a5 G hr) (fun v6 _ => ?_)
  refine j_aload_n dX3_gain_9 rfl rfl ?_
  refine j_iload_n dX3_gain_10 rfl rfl ?_
  refine j_iload_n dX3_gain_11 rfl rfl ?_
  refine j_iload_n dX3_gain_12 rfl rfl ?_
  refine j_iload dX3_gain_13 rfl ?_
  refine j_iload_n dX3_gain_15 rfl rfl ?_
  refine j_cSRip dX3_gain_16 sm_cX_wordAt lk_X3_53 rfl (As := [(0, a4), (0, a3)]) (S := [(0, a3), (0, a2), (0, a1), (2, o), (0, v6)]) rfl ⟨by decide, by decide⟩ (Nat.le_of_ble_eq_true rfl) (cX_wordAt_ct a4 a3) ?_
  refine j_cVRi dX3_gain_19 im_cPa_leadAt lk_X3_66 rfl (As := [(0, a1), (0, a2), (0, a3), (0, (cX_wordAt a4 a3))]) (S := [(0, v6)]) rfl (oc_paper ho).1 ⟨by decide, by decide⟩ (Nat.le_of_ble_eq_true rfl) (fun r hr => cPa_leadAt_ct o ho a1 a2 a3 (cX_wordAt a4 a3) G hr) (fun v19 _ => ?_)
  refine j_isub dX3_gain_22 ?_
  exact j_ireturn dX3_gain_23 rfl rfl (Nat.zero_le _) (Nat.zero_le _)

set_option maxRecDepth 100000 in
theorem cPa_gain_ct {l : Launch} {H : Hp} (o : Int) (ho : isPaper o) (a1 : Int) (a2 : Int) (a3 : Int) (a4 : Int) (a5 : Int) (G : Hp) {r : Int} (h : cPa_gain o a1 a2 a3 a4 a5 G = some r) : Ct l M_cPa_gain [(2, o), (0, a1), (0, a2), (0, a3), (0, a4), (0, a5)] 224 (fu G H) ((KRi (fu G H)) r) :=
  ct_of_J (by decide +kernel) rfl (Nat.le_of_ble_eq_true rfl) (cPa_gain_J o ho a1 a2 a3 a4 a5 G) h
set_option maxRecDepth 100000 in
theorem cX_bestLead_L27_J {l : Launch} {H : Hp} (n : Nat) (rc : Int → Int → Int → Int → Int → Int → Hp → Option (Int × Hp)) (hrc : ∀ (b0 b1 b2 b3 b4 b5 : Int) (G : Hp) (r : Int × Hp), isPaper b0 → rc b0 b1 b2 b3 b4 b5 G = some r → Ct l (M_cX_bestLead n) [(2, b0), (0, b1), (0, b2), (0, b3), (0, b4), (0, b5)] 224 (fu G H) (KWi (fun g => fu g H) r)) (a0 : Int) (ha0 : isPaper a0) (a1 : Int) (a2 : Int) (a3 : Int) (a4 : Int) (a5 : Int) : ∀ (n_27 : Nat) (x6_27 : Int) (x7_27 : Int) (G_27 : Hp), J l (M_cX_bestLead (n + 1)) (KWi (fun g => fu g H)) (cX_bestLead_L27 n rc a0 a1 a2 a3 a4 a5  n_27 x6_27 x7_27 G_27) 27 [(2, a0), (0, a1), (0, a2), (0, a3), (0, a4), (0, a5), (0, x6_27), (0, x7_27), (9, 0), (9, 0)] [] 224 (fu G_27 H) (0, 0) := by
  intro n_27
  induction n_27 with
  | zero =>
    intro x6_27 x7_27 G_27
    exact j_none
  | succ n_27 ih =>
    intro x6_27 x7_27 G_27
    rw [cX_bestLead_L27]
    refine j_iload dX10_bestLead_27 rfl ?_
    refine j_aload_n dX10_bestLead_29 rfl rfl ?_
    refine j_gic dX10_bestLead_30 gf_X10_269 (oc_paper ha0) ?_
    refine j_icmp_ge (tgt := 117) dX10_bestLead_33 rfl (fun h33 => ?_) (fun h33 => ?_)
    · refine j_aload_n dX10_bestLead_36 rfl rfl ?_
      refine j_grc dX10_bestLead_37 gf_X10_199 (oc_paper ha0) (Or.inl (by decide)) (rf_paper_3 ha0) ?_
      refine j_iload dX10_bestLead_40 rfl ?_
      refine j_iload dX10_bestLead_42 rfl ?_
      refine j_cSRip dX10_bestLead_44 sm_cX_wordAt lk_X10_272 rfl (As := [(0, a4), (0, x7_27)]) (S := [(2, (a0 + 1))]) rfl (rm_b (by decide)) (Nat.le_of_ble_eq_true rfl) (cX_wordAt_ct a4 x7_27) ?_
      refine j_aload_n dX10_bestLead_47 rfl rfl ?_
      refine j_iload_n dX10_bestLead_48 rfl rfl ?_
      refine j_iload dX10_bestLead_49 rfl ?_
      refine j_cVRi dX10_bestLead_51 im_cPa_wish lk_X10_355 rfl (As := [(0, a1), (0, x7_27)]) (S := [(0, (cX_wordAt a4 x7_27)), (2, (a0 + 1))]) rfl (oc_paper ha0).1 (rm_b (by decide)) (Nat.le_of_ble_eq_true rfl) (fun r hr => cPa_wish_ct a0 ha0 a1 x7_27 G_27 hr) (fun v51 _ => ?_)
      refine j_cVWi dX10_bestLead_54 im_cNe_next lk_X10_206 rfl (As := [(0, (cX_wordAt a4 x7_27)), (0, v51)]) (S := []) rfl (oc_net (net_paper ha0)).1 (rm_b (by decide)) (Nat.le_of_ble_eq_true rfl) (fun r hr => cNe_next_ct (a0 + 1) (net_paper ha0) (cX_wordAt a4 x7_27) v51 G_27 hr) (fun r54 _ => ?_)
      refine j_istore dX10_bestLead_57 (Nat.le_of_ble_eq_true rfl) rfl ?_
      refine j_iload dX10_bestLead_59 rfl ?_
      refine j_iconst dX10_bestLead_61 r32_m1 ?_
      refine j_icmp_eq (tgt := 111) dX10_bestLead_62 rfl (fun h62 => ?_) (fun h62 => ?_)
      · refine j_iinc dX10_bestLead_111 rfl (Nat.le_of_ble_eq_true rfl) rfl ?_
        refine j_goto (tgt := 27) dX10_bestLead_114 rfl ?_
        exact j_mask [true, true, true, true, true, true, true, true, false, false] rfl (ih x6_27 (w32 (x7_27 + 1)) r54.2)
      · refine j_iload dX10_bestLead_65 rfl ?_
        refine j_aload_n dX10_bestLead_67 rfl rfl ?_
        refine j_iload_n dX10_bestLead_68 rfl rfl ?_
        refine j_iload_n dX10_bestLead_69 rfl rfl ?_
        refine j_iload dX10_bestLead_70 rfl ?_
        refine j_iload dX10_bestLead_72 rfl ?_
        refine j_iload dX10_bestLead_74 rfl ?_
        refine j_cVRi dX10_bestLead_76 im_cPa_gain lk_X10_358 rfl (As := [(0, a1), (0, a2), (0, x7_27), (0, a4), (0, r54.1)]) (S := [(0, a5)]) rfl (oc_paper ha0).1 (rm_b (by decide)) (Nat.le_of_ble_eq_true rfl) (fun r hr => cPa_gain_ct a0 ha0 a1 a2 x7_27 a4 r54.1 r54.2 hr) (fun v76 _ => ?_)
        refine j_iadd dX10_bestLead_79 ?_
        refine j_istore dX10_bestLead_80 (Nat.le_of_ble_eq_true rfl) rfl ?_
        refine j_iload dX10_bestLead_82 rfl ?_
        refine j_aload_n dX10_bestLead_84 rfl rfl ?_
        refine j_iload_n dX10_bestLead_85 rfl rfl ?_
        refine j_iload_n dX10_bestLead_86 rfl rfl ?_
        refine j_iload_n dX10_bestLead_87 rfl rfl ?_
        refine j_iconst dX10_bestLead_88 r32_1 ?_
        refine j_isub dX10_bestLead_89 ?_
        refine j_iload dX10_bestLead_90 rfl ?_
        refine j_iload dX10_bestLead_92 rfl ?_
        refine j_iload dX10_bestLead_94 rfl ?_
        refine j_cSRip dX10_bestLead_96 sm_cX_put lk_X10_362 rfl (As := [(0, a4), (0, x7_27), (0, r54.1)]) (S := [(0, w32 (a3 - 1)), (0, a1), (0, a2), (2, a0), (0, x6_27)]) rfl (rm_b (by decide)) (Nat.le_of_ble_eq_true rfl) (cX_put_ct a4 x7_27 r54.1) ?_
        refine j_iload dX10_bestLead_99 rfl ?_
        refine j_ineg dX10_bestLead_101 ?_
        refine j_cSWi dX10_bestLead_102 (sm_cX_bestLead n) lk_X10_347 rfl (As := [(2, a0), (0, a2), (0, a1), (0, w32 (a3 - 1)), (0, (cX_put a4 x7_27 r54.1)), (0, w32 (-(w32 (a5 + v76))))]) (S := [(0, x6_27)]) rfl rm_bl (Nat.le_of_ble_eq_true rfl) (fun r hr => hrc a0 a2 a1 (w32 (a3 - 1)) (cX_put a4 x7_27 r54.1) (w32 (-(w32 (a5 + v76)))) r54.2 r ha0 hr) (fun r102 _ => ?_)
        refine j_ineg dX10_bestLead_105 ?_
        refine j_max dX10_bestLead_106 mm_X10_339 st_max in_Math co_max (Nat.le_of_ble_eq_true rfl) (Nat.le_of_ble_eq_true rfl) (Nat.zero_le _) (Nat.zero_le _) ?_
        refine j_istore dX10_bestLead_109 (Nat.le_of_ble_eq_true rfl) rfl ?_
        refine j_iinc dX10_bestLead_111 rfl (Nat.le_of_ble_eq_true rfl) rfl ?_
        refine j_goto (tgt := 27) dX10_bestLead_114 rfl ?_
        exact j_mask [true, true, true, true, true, true, true, true, false, false] rfl (ih (max x6_27 (w32 (-r102.1))) (w32 (x7_27 + 1)) r102.2)
    · refine j_iload dX10_bestLead_117 rfl ?_
      exact j_ireturn dX10_bestLead_119 rfl rfl (Nat.zero_le _) (Nat.zero_le _)

set_option maxRecDepth 100000 in
theorem cX_bestLead_J {l : Launch} {H : Hp} (n : Nat) (rc : Int → Int → Int → Int → Int → Int → Hp → Option (Int × Hp)) (hrc : ∀ (b0 b1 b2 b3 b4 b5 : Int) (G : Hp) (r : Int × Hp), isPaper b0 → rc b0 b1 b2 b3 b4 b5 G = some r → Ct l (M_cX_bestLead n) [(2, b0), (0, b1), (0, b2), (0, b3), (0, b4), (0, b5)] 224 (fu G H) (KWi (fun g => fu g H) r)) (a0 : Int) (ha0 : isPaper a0) (a1 : Int) (a2 : Int) (a3 : Int) (a4 : Int) (a5 : Int) (G : Hp) : J l (M_cX_bestLead (n + 1)) (KWi (fun g => fu g H)) (cX_bestLead_b n rc a0 a1 a2 a3 a4 a5 G) 0 [(2, a0), (0, a1), (0, a2), (0, a3), (0, a4), (0, a5), (9, 0), (9, 0), (9, 0), (9, 0)] [] 224 (fu G H) (0, 0) := by
  unfold cX_bestLead_b
  refine j_iload_n dX10_bestLead_0 rfl rfl ?_
  refine j_if_gt (tgt := 7) dX10_bestLead_1 rfl (fun h1 => ?_) (fun h1 => ?_)
  · refine j_aload_n dX10_bestLead_7 rfl rfl ?_
    refine j_iload_n dX10_bestLead_8 rfl rfl ?_
    refine j_iload_n dX10_bestLead_9 rfl rfl ?_
    refine j_iload_n dX10_bestLead_10 rfl rfl ?_
    refine j_iconst dX10_bestLead_11 r32_1 ?_
    refine j_isub dX10_bestLead_12 ?_
    refine j_iload dX10_bestLead_13 rfl ?_
    refine j_iload dX10_bestLead_15 rfl ?_
    refine j_ineg dX10_bestLead_17 ?_
    refine j_cSWi dX10_bestLead_18 (sm_cX_bestLead n) lk_X10_347 rfl (As := [(2, a0), (0, a2), (0, a1), (0, w32 (a3 - 1)), (0, a4), (0, w32 (-a5))]) (S := []) rfl rm_bl (Nat.le_of_ble_eq_true rfl) (fun r hr => hrc a0 a2 a1 (w32 (a3 - 1)) a4 (w32 (-a5)) G r ha0 hr) (fun r18 _ => ?_)
    refine j_ineg dX10_bestLead_21 ?_
    refine j_istore dX10_bestLead_22 (Nat.le_of_ble_eq_true rfl) rfl ?_
    refine j_iconst dX10_bestLead_24 r32_0 ?_
    refine j_istore dX10_bestLead_25 (Nat.le_of_ble_eq_true rfl) rfl ?_
    exact j_mask [true, true, true, true, true, true, true, true, false, false] rfl (cX_bestLead_L27_J n rc hrc a0 ha0 a1 a2 a3 a4 a5 FU (w32 (-r18.1)) 0 r18.2)
  · refine j_iload dX10_bestLead_4 rfl ?_
    exact j_ireturn dX10_bestLead_6 rfl rfl (Nat.zero_le _) (Nat.zero_le _)

set_option maxRecDepth 100000 in
theorem cX_bestLead_ct {l : Launch} {H : Hp} : ∀ (n : Nat) (a0 : Int) (ha0 : isPaper a0) (a1 : Int) (a2 : Int) (a3 : Int) (a4 : Int) (a5 : Int) (G : Hp) {r : Int × Hp}, cX_bestLead n a0 a1 a2 a3 a4 a5 G = some r → Ct l (M_cX_bestLead n) [(2, a0), (0, a1), (0, a2), (0, a3), (0, a4), (0, a5)] 224 (fu G H) (KWi (fun g => fu g H) r) := by
  intro n
  induction n with
  | zero => intro a0 ha0 a1 a2 a3 a4 a5 G r h; cases h
  | succ n ih =>
    intro a0 ha0 a1 a2 a3 a4 a5 G r h
    exact ct_of_J (show plainName (M_cX_bestLead 0).y.cls = true by decide +kernel) rfl (Nat.le_of_ble_eq_true rfl) (cX_bestLead_J n (cX_bestLead n) (fun b0 b1 b2 b3 b4 b5 G r h0 h => ih b0 h0 b1 b2 b3 b4 b5 G h) a0 ha0 a1 a2 a3 a4 a5 G) h
set_option maxRecDepth 100000 in
theorem cX_bestPlace_L31_J {l : Launch} {H : Hp} (a0 : Int) (ha0 : isPaper a0) (a1 : Int) (a2 : Int) (a3 : Int) (a4 : Int) : ∀ (n_31 : Nat) (x5_31 : Int) (x6_31 : Int) (x7_31 : Int) (G_31 : Hp), J l M_cX_bestPlace (KWi (fun g => fu g H)) (cX_bestPlace_L31 a0 a1 a2 a3 a4  n_31 x5_31 x6_31 x7_31 G_31) 31 [(2, a0), (0, a1), (0, a2), (0, a3), (0, a4), (0, x5_31), (0, x6_31), (0, x7_31), (9, 0), (9, 0), (9, 0)] [] 224 (fu G_31 H) (0, 0) := by
  intro n_31
  induction n_31 with
  | zero =>
    intro x5_31 x6_31 x7_31 G_31
    exact j_none
  | succ n_31 ih =>
    intro x5_31 x6_31 x7_31 G_31
    rw [cX_bestPlace_L31]
    refine j_iload dX10_bestPlace_31 rfl ?_
    refine j_if_lt (tgt := 133) dX10_bestPlace_33 rfl (fun h33 => ?_) (fun h33 => ?_)
    · refine j_iload dX10_bestPlace_133 rfl ?_
      exact j_ireturn dX10_bestPlace_135 rfl rfl (Nat.zero_le _) (Nat.zero_le _)
    · refine j_aload_n dX10_bestPlace_36 rfl rfl ?_
      refine j_grc dX10_bestPlace_37 gf_X10_199 (oc_paper ha0) (Or.inl (by decide)) (rf_paper_3 ha0) ?_
      refine j_aload_n dX10_bestPlace_40 rfl rfl ?_
      refine j_gic dX10_bestPlace_41 gf_X10_248 (oc_paper ha0) ?_
      refine j_iload dX10_bestPlace_44 rfl ?_
      refine j_cSRip dX10_bestPlace_46 sm_cX_wordAt lk_X10_272 rfl (As := [(0, G_31 a0 0), (0, x7_31)]) (S := [(2, (a0 + 1))]) rfl ⟨by decide, by decide⟩ (Nat.le_of_ble_eq_true rfl) (cX_wordAt_ct (G_31 a0 0) x7_31) ?_
      refine j_aload_n dX10_bestPlace_49 rfl rfl ?_
      refine j_iload_n dX10_bestPlace_50 rfl rfl ?_
      refine j_iload dX10_bestPlace_51 rfl ?_
      refine j_cVRi dX10_bestPlace_53 im_cPa_wish lk_X10_355 rfl (As := [(0, a1), (0, x7_31)]) (S := [(0, (cX_wordAt (G_31 a0 0) x7_31)), (2, (a0 + 1))]) rfl (oc_paper ha0).1 ⟨by decide, by decide⟩ (Nat.le_of_ble_eq_true rfl) (fun r hr => cPa_wish_ct a0 ha0 a1 x7_31 G_31 hr) (fun v53 _ => ?_)
      refine j_cVWi dX10_bestPlace_56 im_cNe_next lk_X10_206 rfl (As := [(0, (cX_wordAt (G_31 a0 0) x7_31)), (0, v53)]) (S := []) rfl (oc_net (net_paper ha0)).1 ⟨by decide, by decide⟩ (Nat.le_of_ble_eq_true rfl) (fun r hr => cNe_next_ct (a0 + 1) (net_paper ha0) (cX_wordAt (G_31 a0 0) x7_31) v53 G_31 hr) (fun r56 _ => ?_)
      refine j_istore dX10_bestPlace_59 (Nat.le_of_ble_eq_true rfl) rfl ?_
      refine j_iload dX10_bestPlace_61 rfl ?_
      refine j_iconst dX10_bestPlace_63 r32_m1 ?_
      refine j_icmp_eq (tgt := 127) dX10_bestPlace_64 rfl (fun h64 => ?_) (fun h64 => ?_)
      · refine j_iinc dX10_bestPlace_127 rfl (Nat.le_of_ble_eq_true rfl) rfl ?_
        refine j_goto (tgt := 31) dX10_bestPlace_130 rfl ?_
        exact j_mask [true, true, true, true, true, true, true, true, false, false, false] rfl (ih x5_31 x6_31 (w32 (x7_31 + (-1))) r56.2)
      · refine j_iload dX10_bestPlace_67 rfl ?_
        refine j_aload_n dX10_bestPlace_69 rfl rfl ?_
        refine j_iload_n dX10_bestPlace_70 rfl rfl ?_
        refine j_iload_n dX10_bestPlace_71 rfl rfl ?_
        refine j_iload dX10_bestPlace_72 rfl ?_
        refine j_aload_n dX10_bestPlace_74 rfl rfl ?_
        refine j_gic dX10_bestPlace_75 gf_X10_248 (oc_paper ha0) ?_
        refine j_iload dX10_bestPlace_78 rfl ?_
        refine j_cVRi dX10_bestPlace_80 im_cPa_gain lk_X10_358 rfl (As := [(0, a1), (0, a2), (0, x7_31), (0, r56.2 a0 0), (0, r56.1)]) (S := [(0, a4)]) rfl (oc_paper ha0).1 ⟨by decide, by decide⟩ (Nat.le_of_ble_eq_true rfl) (fun r hr => cPa_gain_ct a0 ha0 a1 a2 x7_31 (r56.2 a0 0) r56.1 r56.2 hr) (fun v80 _ => ?_)
        refine j_iadd dX10_bestPlace_83 ?_
        refine j_istore dX10_bestPlace_84 (Nat.le_of_ble_eq_true rfl) rfl ?_
        refine j_aload_n dX10_bestPlace_86 rfl rfl ?_
        refine j_iload_n dX10_bestPlace_87 rfl rfl ?_
        refine j_iload_n dX10_bestPlace_88 rfl rfl ?_
        refine j_iload_n dX10_bestPlace_89 rfl rfl ?_
        refine j_iconst dX10_bestPlace_90 r32_1 ?_
        refine j_isub dX10_bestPlace_91 ?_
        refine j_aload_n dX10_bestPlace_92 rfl rfl ?_
        refine j_gic dX10_bestPlace_93 gf_X10_248 (oc_paper ha0) ?_
        refine j_iload dX10_bestPlace_96 rfl ?_
        refine j_iload dX10_bestPlace_98 rfl ?_
        refine j_cSRip dX10_bestPlace_100 sm_cX_put lk_X10_362 rfl (As := [(0, r56.2 a0 0), (0, x7_31), (0, r56.1)]) (S := [(0, w32 (a3 - 1)), (0, a1), (0, a2), (2, a0)]) rfl ⟨by decide, by decide⟩ (Nat.le_of_ble_eq_true rfl) (cX_put_ct (r56.2 a0 0) x7_31 r56.1) ?_
        refine j_iload dX10_bestPlace_103 rfl ?_
        refine j_ineg dX10_bestPlace_105 ?_
        refine j_cSWi dX10_bestPlace_106 (sm_cX_bestLead 5) lk_X10_347 rfl (As := [(2, a0), (0, a2), (0, a1), (0, w32 (a3 - 1)), (0, (cX_put (r56.2 a0 0) x7_31 r56.1)), (0, w32 (-(w32 (a4 + v80))))]) (S := []) rfl ⟨by decide, by decide⟩ (Nat.le_of_ble_eq_true rfl) (fun r hr => cX_bestLead_ct 5 a0 ha0 a2 a1 (w32 (a3 - 1)) (cX_put (r56.2 a0 0) x7_31 r56.1) (w32 (-(w32 (a4 + v80)))) r56.2 hr) (fun r106 _ => ?_)
        refine j_ineg dX10_bestPlace_109 ?_
        refine j_istore dX10_bestPlace_110 (Nat.le_of_ble_eq_true rfl) rfl ?_
        refine j_iload dX10_bestPlace_112 rfl ?_
        refine j_iload dX10_bestPlace_114 rfl ?_
        refine j_icmp_lt (tgt := 127) dX10_bestPlace_116 rfl (fun h116 => ?_) (fun h116 => ?_)
        · refine j_iload dX10_bestPlace_119 rfl ?_
          refine j_istore dX10_bestPlace_121 (Nat.le_of_ble_eq_true rfl) rfl ?_
          refine j_iload dX10_bestPlace_123 rfl ?_
          refine j_istore dX10_bestPlace_125 (Nat.le_of_ble_eq_true rfl) rfl ?_
          refine j_iinc dX10_bestPlace_127 rfl (Nat.le_of_ble_eq_true rfl) rfl ?_
          refine j_goto (tgt := 31) dX10_bestPlace_130 rfl ?_
          exact j_mask [true, true, true, true, true, true, true, true, false, false, false] rfl (ih x7_31 (w32 (-r106.1)) (w32 (x7_31 + (-1))) r106.2)
        · refine j_iinc dX10_bestPlace_127 rfl (Nat.le_of_ble_eq_true rfl) rfl ?_
          refine j_goto (tgt := 31) dX10_bestPlace_130 rfl ?_
          exact j_mask [true, true, true, true, true, true, true, true, false, false, false] rfl (ih x5_31 x6_31 (w32 (x7_31 + (-1))) r106.2)

set_option maxRecDepth 100000 in
theorem cX_bestPlace_J {l : Launch} {H : Hp} (a0 : Int) (ha0 : isPaper a0) (a1 : Int) (a2 : Int) (a3 : Int) (a4 : Int) (G : Hp) : J l M_cX_bestPlace (KWi (fun g => fu g H)) (cX_bestPlace a0 a1 a2 a3 a4 G) 0 [(2, a0), (0, a1), (0, a2), (0, a3), (0, a4), (9, 0), (9, 0), (9, 0), (9, 0), (9, 0), (9, 0)] [] 224 (fu G H) (0, 0) := by
  unfold cX_bestPlace
  refine j_bipush dX10_bestPlace_0 r32_8 bp_8 ?_
  refine j_istore dX10_bestPlace_2 (Nat.le_of_ble_eq_true rfl) rfl ?_
  refine j_aload_n dX10_bestPlace_4 rfl rfl ?_
  refine j_iload_n dX10_bestPlace_5 rfl rfl ?_
  refine j_iload_n dX10_bestPlace_6 rfl rfl ?_
  refine j_iload_n dX10_bestPlace_7 rfl rfl ?_
  refine j_iconst dX10_bestPlace_8 r32_1 ?_
  refine j_isub dX10_bestPlace_9 ?_
  refine j_aload_n dX10_bestPlace_10 rfl rfl ?_
  refine j_gic dX10_bestPlace_11 gf_X10_248 (oc_paper ha0) ?_
  refine j_iload dX10_bestPlace_14 rfl ?_
  refine j_ineg dX10_bestPlace_16 ?_
  refine j_cSWi dX10_bestPlace_17 (sm_cX_bestLead 5) lk_X10_347 rfl (As := [(2, a0), (0, a2), (0, a1), (0, w32 (a3 - 1)), (0, G a0 0), (0, w32 (-a4))]) (S := []) rfl ⟨by decide, by decide⟩ (Nat.le_of_ble_eq_true rfl) (fun r hr => cX_bestLead_ct 5 a0 ha0 a2 a1 (w32 (a3 - 1)) (G a0 0) (w32 (-a4)) G hr) (fun r17 _ => ?_)
  refine j_ineg dX10_bestPlace_20 ?_
  refine j_istore dX10_bestPlace_21 (Nat.le_of_ble_eq_true rfl) rfl ?_
  refine j_aload_n dX10_bestPlace_23 rfl rfl ?_
  refine j_gic dX10_bestPlace_24 gf_X10_269 (oc_paper ha0) ?_
  refine j_iconst dX10_bestPlace_27 r32_1 ?_
  refine j_isub dX10_bestPlace_28 ?_
  refine j_istore dX10_bestPlace_29 (Nat.le_of_ble_eq_true rfl) rfl ?_
  exact j_mask [true, true, true, true, true, true, true, true, false, false, false] rfl (cX_bestPlace_L31_J a0 ha0 a1 a2 a3 a4 FU 8 (w32 (-r17.1)) (w32 ((r17.2 a0 1) - 1)) r17.2)

set_option maxRecDepth 100000 in
theorem cX_bestPlace_ct {l : Launch} {H : Hp} (a0 : Int) (ha0 : isPaper a0) (a1 : Int) (a2 : Int) (a3 : Int) (a4 : Int) (G : Hp) {r : Int × Hp} (h : cX_bestPlace a0 a1 a2 a3 a4 G = some r) : Ct l M_cX_bestPlace [(2, a0), (0, a1), (0, a2), (0, a3), (0, a4)] 224 (fu G H) ((KWi (fun g => fu g H)) r) :=
  ct_of_J (by decide +kernel) rfl (Nat.le_of_ble_eq_true rfl) (cX_bestPlace_J a0 ha0 a1 a2 a3 a4 G) h
set_option maxRecDepth 100000 in
theorem cX_quarrel_J {l : Launch} {H : Hp} (a1 : Int) (a2 : Int) (a3 : Int) (a4 : Int) (a5 : Int) (G : Hp) : J l M_cX_quarrel (KWi (fun g => fu g H)) (cX_quarrel a1 a2 a3 a4 a5 G) 0 [(2, 0), (0, a1), (0, a2), (0, a3), (0, a4), (0, a5), (9, 0), (9, 0)] [] 224 (fu G H) (0, 0) := by
  unfold cX_quarrel
  refine j_aload_n dX10_quarrel_0 rfl rfl ?_
  refine j_iload_n dX10_quarrel_1 rfl rfl ?_
  refine j_cVRr dX10_quarrel_2 im_cX_paperAt lk_X10_124 rfl (As := [(0, a1)]) (S := []) rfl oc_0.1 ⟨by decide, by decide⟩ (Nat.le_of_ble_eq_true rfl) (fun r hr => cX_paperAt_ct a1 G hr) (fun v2 hv2 => ?_)
  refine j_astore dX10_quarrel_5 (Nat.le_of_ble_eq_true rfl) rfl ?_
  refine j_aload dX10_quarrel_7 rfl ?_
  refine j_ifnull (tgt := 54) dX10_quarrel_9 rfl (fun h9 => ?_) (fun h9 => ?_)
  · refine j_bipush dX10_quarrel_54 r32_m99 bp_m99 ?_
    exact j_ireturn dX10_quarrel_56 rfl rfl (Nat.zero_le _) (Nat.zero_le _)
  · refine j_iload dX10_quarrel_12 rfl ?_
    refine j_if_lt (tgt := 54) dX10_quarrel_14 rfl (fun h14 => ?_) (fun h14 => ?_)
    · refine j_bipush dX10_quarrel_54 r32_m99 bp_m99 ?_
      exact j_ireturn dX10_quarrel_56 rfl rfl (Nat.zero_le _) (Nat.zero_le _)
    · refine j_iload dX10_quarrel_17 rfl ?_
      refine j_iconst dX10_quarrel_19 r32_4 ?_
      refine j_icmp_gt (tgt := 54) dX10_quarrel_20 rfl (fun h20 => ?_) (fun h20 => ?_)
      · refine j_iload_n dX10_quarrel_23 rfl rfl ?_
        refine j_iload_n dX10_quarrel_24 rfl rfl ?_
        refine j_icmp_eq (tgt := 54) dX10_quarrel_25 rfl (fun h25 => ?_) (fun h25 => ?_)
        · refine j_bipush dX10_quarrel_54 r32_m99 bp_m99 ?_
          exact j_ireturn dX10_quarrel_56 rfl rfl (Nat.zero_le _) (Nat.zero_le _)
        · refine j_iload_n dX10_quarrel_28 rfl rfl ?_
          refine j_if_lt (tgt := 54) dX10_quarrel_29 rfl (fun h29 => ?_) (fun h29 => ?_)
          · refine j_bipush dX10_quarrel_54 r32_m99 bp_m99 ?_
            exact j_ireturn dX10_quarrel_56 rfl rfl (Nat.zero_le _) (Nat.zero_le _)
          · refine j_iload_n dX10_quarrel_32 rfl rfl ?_
            refine j_if_lt (tgt := 54) dX10_quarrel_33 rfl (fun h33 => ?_) (fun h33 => ?_)
            · refine j_bipush dX10_quarrel_54 r32_m99 bp_m99 ?_
              exact j_ireturn dX10_quarrel_56 rfl rfl (Nat.zero_le _) (Nat.zero_le _)
            · refine j_iload_n dX10_quarrel_36 rfl rfl ?_
              refine j_aload dX10_quarrel_37 rfl ?_
              refine j_gic dX10_quarrel_39 gf_X10_245 (oc_paper (cX_paperAt_ok hv2 h9)) ?_
              refine j_icmp_ge (tgt := 54) dX10_quarrel_42 rfl (fun h42 => ?_) (fun h42 => ?_)
              · refine j_iload_n dX10_quarrel_45 rfl rfl ?_
                refine j_aload dX10_quarrel_46 rfl ?_
                refine j_gic dX10_quarrel_48 gf_X10_245 (oc_paper (cX_paperAt_ok hv2 h9)) ?_
                refine j_icmp_lt (tgt := 57) dX10_quarrel_51 rfl (fun h51 => ?_) (fun h51 => ?_)
                · refine j_bipush dX10_quarrel_54 r32_m99 bp_m99 ?_
                  exact j_ireturn dX10_quarrel_56 rfl rfl (Nat.zero_le _) (Nat.zero_le _)
                · refine j_aload dX10_quarrel_57 rfl ?_
                  refine j_iload_n dX10_quarrel_59 rfl rfl ?_
                  refine j_aload dX10_quarrel_60 rfl ?_
                  refine j_gic dX10_quarrel_62 gf_X10_248 (oc_paper (cX_paperAt_ok hv2 h9)) ?_
                  refine j_cVRi dX10_quarrel_65 im_cPa_content lk_X10_344 rfl (As := [(0, a2), (0, G v2 0)]) (S := []) rfl (oc_paper (cX_paperAt_ok hv2 h9)).1 ⟨by decide, by decide⟩ (Nat.le_of_ble_eq_true rfl) (fun r hr => cPa_content_ct v2 (cX_paperAt_ok hv2 h9) a2 (G v2 0) G hr) (fun v65 _ => ?_)
                  refine j_aload dX10_quarrel_68 rfl ?_
                  refine j_iload_n dX10_quarrel_70 rfl rfl ?_
                  refine j_aload dX10_quarrel_71 rfl ?_
                  refine j_gic dX10_quarrel_73 gf_X10_248 (oc_paper (cX_paperAt_ok hv2 h9)) ?_
                  refine j_cVRi dX10_quarrel_76 im_cPa_content lk_X10_344 rfl (As := [(0, a3), (0, G v2 0)]) (S := [(0, v65)]) rfl (oc_paper (cX_paperAt_ok hv2 h9)).1 ⟨by decide, by decide⟩ (Nat.le_of_ble_eq_true rfl) (fun r hr => cPa_content_ct v2 (cX_paperAt_ok hv2 h9) a3 (G v2 0) G hr) (fun v76 _ => ?_)
                  refine j_isub dX10_quarrel_79 ?_
                  refine j_istore dX10_quarrel_80 (Nat.le_of_ble_eq_true rfl) rfl ?_
                  refine j_iload dX10_quarrel_82 rfl ?_
                  refine j_if_ne (tgt := 104) dX10_quarrel_84 rfl (fun h84 => ?_) (fun h84 => ?_)
                  · refine j_aload dX10_quarrel_87 rfl ?_
                    refine j_iload_n dX10_quarrel_89 rfl rfl ?_
                    refine j_iload_n dX10_quarrel_90 rfl rfl ?_
                    refine j_iload dX10_quarrel_91 rfl ?_
                    refine j_aload dX10_quarrel_93 rfl ?_
                    refine j_gic dX10_quarrel_95 gf_X10_248 (oc_paper (cX_paperAt_ok hv2 h9)) ?_
                    refine j_iload dX10_quarrel_98 rfl ?_
                    refine j_cSWi dX10_quarrel_100 (sm_cX_bestLead 5) lk_X10_347 rfl (As := [(2, v2), (0, a2), (0, a3), (0, a4), (0, G v2 0), (0, w32 (v65 - v76))]) (S := []) rfl ⟨by decide, by decide⟩ (Nat.le_of_ble_eq_true rfl) (fun r hr => cX_bestLead_ct 5 v2 (cX_paperAt_ok hv2 h9) a2 a3 a4 (G v2 0) (w32 (v65 - v76)) G hr) (fun r100 _ => ?_)
                    exact j_ireturn dX10_quarrel_103 rfl rfl (Nat.zero_le _) (Nat.zero_le _)
                  · refine j_iload dX10_quarrel_104 rfl ?_
                    refine j_if_ne (tgt := 113) dX10_quarrel_106 rfl (fun h106 => ?_) (fun h106 => ?_)
                    · refine j_iconst dX10_quarrel_109 r32_m1 ?_
                      refine j_goto (tgt := 124) dX10_quarrel_110 rfl ?_
                      exact j_ireturn dX10_quarrel_124 rfl rfl (Nat.zero_le _) (Nat.zero_le _)
                    · refine j_aload dX10_quarrel_113 rfl ?_
                      refine j_iload_n dX10_quarrel_115 rfl rfl ?_
                      refine j_iload_n dX10_quarrel_116 rfl rfl ?_
                      refine j_iload dX10_quarrel_117 rfl ?_
                      refine j_iload dX10_quarrel_119 rfl ?_
                      refine j_cSWi dX10_quarrel_121 sm_cX_bestPlace lk_X10_351 rfl (As := [(2, v2), (0, a2), (0, a3), (0, a4), (0, w32 (v65 - v76))]) (S := []) rfl ⟨by decide, by decide⟩ (Nat.le_of_ble_eq_true rfl) (fun r hr => cX_bestPlace_ct v2 (cX_paperAt_ok hv2 h9) a2 a3 a4 (w32 (v65 - v76)) G hr) (fun r121 _ => ?_)
                      exact j_ireturn dX10_quarrel_124 rfl rfl (Nat.zero_le _) (Nat.zero_le _)
              · refine j_bipush dX10_quarrel_54 r32_m99 bp_m99 ?_
                exact j_ireturn dX10_quarrel_56 rfl rfl (Nat.zero_le _) (Nat.zero_le _)
      · refine j_bipush dX10_quarrel_54 r32_m99 bp_m99 ?_
        exact j_ireturn dX10_quarrel_56 rfl rfl (Nat.zero_le _) (Nat.zero_le _)

set_option maxRecDepth 100000 in
theorem cX_quarrel_ct {l : Launch} {H : Hp} (a1 : Int) (a2 : Int) (a3 : Int) (a4 : Int) (a5 : Int) (G : Hp) {r : Int × Hp} (h : cX_quarrel a1 a2 a3 a4 a5 G = some r) : Ct l M_cX_quarrel [(2, 0), (0, a1), (0, a2), (0, a3), (0, a4), (0, a5)] 224 (fu G H) ((KWi (fun g => fu g H)) r) :=
  ct_of_J (by decide +kernel) rfl (Nat.le_of_ble_eq_true rfl) (cX_quarrel_J a1 a2 a3 a4 a5 G) h
set_option maxRecDepth 100000 in
theorem cPa_unlikeWishes_L5_J {l : Launch} {H : Hp} (o : Int) (ho : isPaper o) (a1 : Int) (a2 : Int) (G : Hp) : ∀ (n_5 : Nat) (x3_5 : Int) (x4_5 : Int), J l M_cPa_unlikeWishes (KRi (fu G H)) (cPa_unlikeWishes_L5 o a1 a2 G  n_5 x3_5 x4_5) 5 [(2, o), (0, a1), (0, a2), (0, x3_5), (0, x4_5)] [] 224 (fu G H) (0, 0) := by
  intro n_5
  induction n_5 with
  | zero =>
    intro x3_5 x4_5
    exact j_none
  | succ n_5 ih =>
    intro x3_5 x4_5
    rw [cPa_unlikeWishes_L5]
    refine j_iload dX3_unlikeWishes_5 rfl ?_
    refine j_aload_n dX3_unlikeWishes_7 rfl rfl ?_
    refine j_gic dX3_unlikeWishes_8 gf_X3_32 (oc_paper ho) ?_
    refine j_icmp_ge (tgt := 48) dX3_unlikeWishes_11 rfl (fun h11 => ?_) (fun h11 => ?_)
    · refine j_iload_n dX3_unlikeWishes_14 rfl rfl ?_
      refine j_aload_n dX3_unlikeWishes_15 rfl rfl ?_
      refine j_iload_n dX3_unlikeWishes_16 rfl rfl ?_
      refine j_iload dX3_unlikeWishes_17 rfl ?_
      refine j_cVRi dX3_unlikeWishes_19 im_cPa_wish lk_X3_60 rfl (As := [(0, a1), (0, x4_5)]) (S := [(0, x3_5)]) rfl (oc_paper ho).1 ⟨by decide, by decide⟩ (Nat.le_of_ble_eq_true rfl) (fun r hr => cPa_wish_ct o ho a1 x4_5 G hr) (fun v19 _ => ?_)
      refine j_aload_n dX3_unlikeWishes_22 rfl rfl ?_
      refine j_iload_n dX3_unlikeWishes_23 rfl rfl ?_
      refine j_iload dX3_unlikeWishes_24 rfl ?_
      refine j_cVRi dX3_unlikeWishes_26 im_cPa_wish lk_X3_60 rfl (As := [(0, a2), (0, x4_5)]) (S := [(0, v19), (0, x3_5)]) rfl (oc_paper ho).1 ⟨by decide, by decide⟩ (Nat.le_of_ble_eq_true rfl) (fun r hr => cPa_wish_ct o ho a2 x4_5 G hr) (fun v26 _ => ?_)
      refine j_icmp_eq (tgt := 39) dX3_unlikeWishes_29 rfl (fun h29 => ?_) (fun h29 => ?_)
      · refine j_iconst dX3_unlikeWishes_39 r32_0 ?_
        refine j_ior dX3_unlikeWishes_40 ?_
        refine j_istore_n dX3_unlikeWishes_41 rfl (Nat.le_of_ble_eq_true rfl) rfl ?_
        refine j_iinc dX3_unlikeWishes_42 rfl (Nat.le_of_ble_eq_true rfl) rfl ?_
        refine j_goto (tgt := 5) dX3_unlikeWishes_45 rfl ?_
        exact j_mask [true, true, true, true, true] rfl (ih (ior x3_5 0) (w32 (x4_5 + 1)))
      · refine j_iconst dX3_unlikeWishes_32 r32_1 ?_
        refine j_iload dX3_unlikeWishes_33 rfl ?_
        refine j_ishl dX3_unlikeWishes_35 ?_
        refine j_goto (tgt := 40) dX3_unlikeWishes_36 rfl ?_
        refine j_ior dX3_unlikeWishes_40 ?_
        refine j_istore_n dX3_unlikeWishes_41 rfl (Nat.le_of_ble_eq_true rfl) rfl ?_
        refine j_iinc dX3_unlikeWishes_42 rfl (Nat.le_of_ble_eq_true rfl) rfl ?_
        refine j_goto (tgt := 5) dX3_unlikeWishes_45 rfl ?_
        exact j_mask [true, true, true, true, true] rfl (ih (ior x3_5 (ishl 1 x4_5)) (w32 (x4_5 + 1)))
    · refine j_iload_n dX3_unlikeWishes_48 rfl rfl ?_
      exact j_ireturn dX3_unlikeWishes_49 rfl rfl (Nat.zero_le _) (Nat.zero_le _)

set_option maxRecDepth 100000 in
theorem cPa_unlikeWishes_J {l : Launch} {H : Hp} (o : Int) (ho : isPaper o) (a1 : Int) (a2 : Int) (G : Hp) : J l M_cPa_unlikeWishes (KRi (fu G H)) (cPa_unlikeWishes o a1 a2 G) 0 [(2, o), (0, a1), (0, a2), (9, 0), (9, 0)] [] 224 (fu G H) (0, 0) := by
  unfold cPa_unlikeWishes
  refine j_iconst dX3_unlikeWishes_0 r32_0 ?_
  refine j_istore_n dX3_unlikeWishes_1 rfl (Nat.le_of_ble_eq_true rfl) rfl ?_
  refine j_iconst dX3_unlikeWishes_2 r32_0 ?_
  refine j_istore dX3_unlikeWishes_3 (Nat.le_of_ble_eq_true rfl) rfl ?_
  exact j_mask [true, true, true, true, true] rfl (cPa_unlikeWishes_L5_J o ho a1 a2 G FU 0 0)

set_option maxRecDepth 100000 in
theorem cPa_unlikeWishes_ct {l : Launch} {H : Hp} (o : Int) (ho : isPaper o) (a1 : Int) (a2 : Int) (G : Hp) {r : Int} (h : cPa_unlikeWishes o a1 a2 G = some r) : Ct l M_cPa_unlikeWishes [(2, o), (0, a1), (0, a2)] 224 (fu G H) ((KRi (fu G H)) r) :=
  ct_of_J (by decide +kernel) rfl (Nat.le_of_ble_eq_true rfl) (cPa_unlikeWishes_J o ho a1 a2 G) h
set_option maxRecDepth 100000 in
theorem cX_tellsApart_L2_J {l : Launch} {H : Hp} (a1 : Int) (a2 : Int) (G : Hp) : ∀ (n_2 : Nat) (x3_2 : Int), J l M_cX_tellsApart (KRb (fu G H)) (cX_tellsApart_L2 a1 a2 G  n_2 x3_2) 2 [(2, 0), (0, a1), (0, a2), (0, x3_2)] [] 224 (fu G H) (0, 0) := by
  intro n_2
  induction n_2 with
  | zero =>
    intro x3_2
    exact j_none
  | succ n_2 ih =>
    intro x3_2
    rw [cX_tellsApart_L2]
    refine j_iload_n dX10_tellsApart_2 rfl rfl ?_
    refine j_iload_n dX10_tellsApart_3 rfl rfl ?_
    refine j_icmp_ge (tgt := 26) dX10_tellsApart_4 rfl (fun h4 => ?_) (fun h4 => ?_)
    · refine j_aload_n dX10_tellsApart_7 rfl rfl ?_
      refine j_grc dX10_tellsApart_8 gf_X10_70 oc_0 (Or.inl (by decide)) rf_0_10 ?_
      refine j_iload_n dX10_tellsApart_11 rfl rfl ?_
      refine j_gd (fun h12a h12b => ?_)
      refine j_aic dX10_tellsApart_12 oc_92 rfl h12a h12b ?_
      refine j_iload_n dX10_tellsApart_13 rfl rfl ?_
      refine j_iand dX10_tellsApart_14 ?_
      refine j_if_ne (tgt := 20) dX10_tellsApart_15 rfl (fun h15 => ?_) (fun h15 => ?_)
      · refine j_iconst dX10_tellsApart_18 r32_0 ?_
        exact j_zreturn (b := false) dX10_tellsApart_19 rfl rfl (Nat.zero_le _) (Nat.zero_le _)
      · refine j_iinc dX10_tellsApart_20 rfl (Nat.le_of_ble_eq_true rfl) rfl ?_
        refine j_goto (tgt := 2) dX10_tellsApart_23 rfl ?_
        exact j_mask [true, true, true, true] rfl (ih (w32 (x3_2 + 1)))
    · refine j_iconst dX10_tellsApart_26 r32_1 ?_
      exact j_zreturn (b := true) dX10_tellsApart_27 rfl rfl (Nat.zero_le _) (Nat.zero_le _)

set_option maxRecDepth 100000 in
theorem cX_tellsApart_J {l : Launch} {H : Hp} (a1 : Int) (a2 : Int) (G : Hp) : J l M_cX_tellsApart (KRb (fu G H)) (cX_tellsApart a1 a2 G) 0 [(2, 0), (0, a1), (0, a2), (9, 0)] [] 224 (fu G H) (0, 0) := by
  unfold cX_tellsApart
  refine j_iconst dX10_tellsApart_0 r32_0 ?_
  refine j_istore_n dX10_tellsApart_1 rfl (Nat.le_of_ble_eq_true rfl) rfl ?_
  exact j_mask [true, true, true, true] rfl (cX_tellsApart_L2_J a1 a2 G FU 0)

set_option maxRecDepth 100000 in
theorem cX_tellsApart_ct {l : Launch} {H : Hp} (a1 : Int) (a2 : Int) (G : Hp) {r : Bool} (h : cX_tellsApart a1 a2 G = some r) : Ct l M_cX_tellsApart [(2, 0), (0, a1), (0, a2)] 224 (fu G H) ((KRb (fu G H)) r) :=
  ct_of_J (by decide +kernel) rfl (Nat.le_of_ble_eq_true rfl) (cX_tellsApart_J a1 a2 G) h
set_option maxRecDepth 100000 in
theorem cX_signs_L33_J {l : Launch} {H : Hp} (a1 : Int) (a2 : Int) (x3_33 : Int) (hx3_33 : isPaper x3_33) (x5_33 : Int) (k66 : Int → Hp → Option (Int × Hp)) (hk66 : ∀ (x4_66 : Int) (G_66 : Hp), J l M_cX_signs (KWi (fun g => fu g H)) (k66 x4_66 G_66) 66 [(2, 0), (9, 0), (0, a2), (2, x3_33), (0, x4_66), (0, x5_33), (9, 0)] [] 224 (fu G_66 H) (0, 0)) : ∀ (n_33 : Nat) (x4_33 : Int) (x6_33 : Int) (G_33 : Hp), J l M_cX_signs (KWi (fun g => fu g H)) (cX_signs_L33 a1 a2 x3_33 x5_33 k66 n_33 x4_33 x6_33 G_33) 33 [(2, 0), (9, 0), (0, a2), (2, x3_33), (0, x4_33), (0, x5_33), (0, x6_33)] [] 224 (fu G_33 H) (0, 0) := by
  intro n_33
  induction n_33 with
  | zero =>
    intro x4_33 x6_33 G_33
    exact j_none
  | succ n_33 ih =>
    intro x4_33 x6_33 G_33
    rw [cX_signs_L33]
    refine j_iload dX10_signs_33 rfl ?_
    refine j_aload_n dX10_signs_35 rfl rfl ?_
    refine j_gic dX10_signs_36 gf_X10_245 (oc_paper hx3_33) ?_
    refine j_icmp_ge (tgt := 66) dX10_signs_39 rfl (fun h39 => ?_) (fun h39 => ?_)
    · refine j_aload_n dX10_signs_42 rfl rfl ?_
      refine j_grc dX10_signs_43 gf_X10_70 oc_0 (Or.inl (by decide)) rf_0_10 ?_
      refine j_iload dX10_signs_46 rfl ?_
      refine j_iinc dX10_signs_48 rfl (Nat.le_of_ble_eq_true rfl) rfl ?_
      refine j_aload_n dX10_signs_51 rfl rfl ?_
      refine j_iload dX10_signs_52 rfl ?_
      refine j_iload dX10_signs_54 rfl ?_
      refine j_cVRi dX10_signs_56 im_cPa_unlikeWishes lk_X10_365 rfl (As := [(0, x5_33), (0, x6_33)]) (S := [(0, x4_33), (2, 92)]) rfl (oc_paper hx3_33).1 ⟨by decide, by decide⟩ (Nat.le_of_ble_eq_true rfl) (fun r hr => cPa_unlikeWishes_ct x3_33 hx3_33 x5_33 x6_33 G_33 hr) (fun v56 _ => ?_)
      refine j_gd (fun h59a h59b => ?_)
      refine j_sic dX10_signs_59 oc_92 rfl h59a h59b ?_
      refine j_iinc dX10_signs_60 rfl (Nat.le_of_ble_eq_true rfl) rfl ?_
      refine j_goto (tgt := 33) dX10_signs_63 rfl ?_
      exact j_mask [true, false, true, true, true, true, true] rfl (ih (w32 (x4_33 + 1)) (w32 (x6_33 + 1)) (upd2 G_33 92 x4_33 v56))
    · exact j_mask [true, false, true, true, true, true, false] rfl (hk66 x4_33 G_33)

set_option maxRecDepth 100000 in
theorem cX_signs_L18_J {l : Launch} {H : Hp} (a1 : Int) (a2 : Int) (x3_18 : Int) (hx3_18 : isPaper x3_18) (k72 : Int → Hp → Option (Int × Hp)) (hk72 : ∀ (x4_72 : Int) (G_72 : Hp), J l M_cX_signs (KWi (fun g => fu g H)) (k72 x4_72 G_72) 72 [(2, 0), (9, 0), (0, a2), (2, x3_18), (0, x4_72), (9, 0), (9, 0)] [] 224 (fu G_72 H) (0, 0)) : ∀ (n_18 : Nat) (x4_18 : Int) (x5_18 : Int) (G_18 : Hp), J l M_cX_signs (KWi (fun g => fu g H)) (cX_signs_L18 a1 a2 x3_18 k72 n_18 x4_18 x5_18 G_18) 18 [(2, 0), (9, 0), (0, a2), (2, x3_18), (0, x4_18), (0, x5_18), (9, 0)] [] 224 (fu G_18 H) (0, 0) := by
  intro n_18
  induction n_18 with
  | zero =>
    intro x4_18 x5_18 G_18
    exact j_none
  | succ n_18 ih =>
    intro x4_18 x5_18 G_18
    rw [cX_signs_L18]
    refine j_iload dX10_signs_18 rfl ?_
    refine j_aload_n dX10_signs_20 rfl rfl ?_
    refine j_gic dX10_signs_21 gf_X10_245 (oc_paper hx3_18) ?_
    refine j_icmp_ge (tgt := 72) dX10_signs_24 rfl (fun h24 => ?_) (fun h24 => ?_)
    · refine j_iload dX10_signs_27 rfl ?_
      refine j_iconst dX10_signs_29 r32_1 ?_
      refine j_iadd dX10_signs_30 ?_
      refine j_istore dX10_signs_31 (Nat.le_of_ble_eq_true rfl) rfl ?_
      refine j_mask [true, false, true, true, true, true, true] rfl (cX_signs_L33_J a1 a2 x3_18 hx3_18 x5_18 (fun x4_66 G_66 => cX_signs_L18 a1 a2 x3_18 k72 n_18 x4_66 (w32 (x5_18 + 1)) G_66) (fun x4_66 G_66 => ?_) FU x4_18 (w32 (x5_18 + 1)) G_18)
      refine j_iinc dX10_signs_66 rfl (Nat.le_of_ble_eq_true rfl) rfl ?_
      refine j_goto (tgt := 18) dX10_signs_69 rfl ?_
      exact j_mask [true, false, true, true, true, true, false] rfl (ih x4_66 (w32 (x5_18 + 1)) G_66)
    · exact j_mask [true, false, true, true, true, false, false] rfl (hk72 x4_18 G_18)

set_option maxRecDepth 100000 in
theorem cX_signs_L78_J {l : Launch} {H : Hp} (a1 : Int) (a2 : Int) (x3_78 : Int) (hx3_78 : isPaper x3_78) (x4_78 : Int) (G_78 : Hp) (k129 : Int → Option (Int × Hp)) (hk129 : ∀ (x5_129 : Int), J l M_cX_signs (KWi (fun g => fu g H)) (k129 x5_129) 129 [(9, 0), (9, 0), (0, a2), (9, 0), (9, 0), (0, x5_129), (9, 0)] [] 224 (fu G_78 H) (0, 0)) : ∀ (n_78 : Nat) (x5_78 : Int) (x6_78 : Int), J l M_cX_signs (KWi (fun g => fu g H)) (cX_signs_L78 a1 a2 x3_78 x4_78 G_78 k129 n_78 x5_78 x6_78) 78 [(2, 0), (9, 0), (0, a2), (2, x3_78), (0, x4_78), (0, x5_78), (0, x6_78)] [] 224 (fu G_78 H) (0, 0) := by
  intro n_78
  induction n_78 with
  | zero =>
    intro x5_78 x6_78
    exact j_none
  | succ n_78 ih =>
    intro x5_78 x6_78
    rw [cX_signs_L78]
    refine j_iload dX10_signs_78 rfl ?_
    refine j_iconst dX10_signs_80 r32_1 ?_
    refine j_aload_n dX10_signs_81 rfl rfl ?_
    refine j_gic dX10_signs_82 gf_X10_269 (oc_paper hx3_78) ?_
    refine j_ishl dX10_signs_85 ?_
    refine j_icmp_ge (tgt := 129) dX10_signs_86 rfl (fun h86 => ?_) (fun h86 => ?_)
    · refine j_aload_n dX10_signs_89 rfl rfl ?_
      refine j_iload dX10_signs_90 rfl ?_
      refine j_iload dX10_signs_92 rfl ?_
      refine j_cVRb dX10_signs_94 im_cX_tellsApart lk_X10_368 rfl (As := [(0, x6_78), (0, x4_78)]) (S := []) rfl oc_0.1 ⟨by decide, by decide⟩ (Nat.le_of_ble_eq_true rfl) (fun r hr => cX_tellsApart_ct x6_78 x4_78 G_78 hr) (fun v94 _ => ?_)
      refine j_ifb_eq (tgt := 123) dX10_signs_97 rfl (fun h97 => ?_) (fun h97 => ?_)
      · refine j_iload dX10_signs_100 rfl ?_
        refine j_iconst dX10_signs_102 r32_m1 ?_
        refine j_icmp_eq (tgt := 119) dX10_signs_103 rfl (fun h103 => ?_) (fun h103 => ?_)
        · refine j_iload dX10_signs_119 rfl ?_
          refine j_istore dX10_signs_121 (Nat.le_of_ble_eq_true rfl) rfl ?_
          refine j_iinc dX10_signs_123 rfl (Nat.le_of_ble_eq_true rfl) rfl ?_
          refine j_goto (tgt := 78) dX10_signs_126 rfl ?_
          exact j_mask [true, false, true, true, true, true, true] rfl (ih x6_78 (w32 (x6_78 + 1)))
        · refine j_iload dX10_signs_106 rfl ?_
          refine j_cSRip dX10_signs_108 sm_jI_bitCount lk_X10_257 rfl (As := [(0, x6_78)]) (S := []) rfl ⟨by decide, by decide⟩ (Nat.le_of_ble_eq_true rfl) (jI_bitCount_ct x6_78) ?_
          refine j_iload dX10_signs_111 rfl ?_
          refine j_cSRip dX10_signs_113 sm_jI_bitCount lk_X10_257 rfl (As := [(0, x5_78)]) (S := [(0, (jI_bitCount x6_78))]) rfl ⟨by decide, by decide⟩ (Nat.le_of_ble_eq_true rfl) (jI_bitCount_ct x5_78) ?_
          refine j_icmp_ge (tgt := 123) dX10_signs_116 rfl (fun h116 => ?_) (fun h116 => ?_)
          · refine j_iload dX10_signs_119 rfl ?_
            refine j_istore dX10_signs_121 (Nat.le_of_ble_eq_true rfl) rfl ?_
            refine j_iinc dX10_signs_123 rfl (Nat.le_of_ble_eq_true rfl) rfl ?_
            refine j_goto (tgt := 78) dX10_signs_126 rfl ?_
            exact j_mask [true, false, true, true, true, true, true] rfl (ih x6_78 (w32 (x6_78 + 1)))
          · refine j_iinc dX10_signs_123 rfl (Nat.le_of_ble_eq_true rfl) rfl ?_
            refine j_goto (tgt := 78) dX10_signs_126 rfl ?_
            exact j_mask [true, false, true, true, true, true, true] rfl (ih x5_78 (w32 (x6_78 + 1)))
      · refine j_iinc dX10_signs_123 rfl (Nat.le_of_ble_eq_true rfl) rfl ?_
        refine j_goto (tgt := 78) dX10_signs_126 rfl ?_
        exact j_mask [true, false, true, true, true, true, true] rfl (ih x5_78 (w32 (x6_78 + 1)))
    · exact j_mask [false, false, true, false, false, true, false] rfl (hk129 x5_78)

set_option maxRecDepth 100000 in
theorem cX_signs_J {l : Launch} {H : Hp} (a1 : Int) (a2 : Int) (G : Hp) : J l M_cX_signs (KWi (fun g => fu g H)) (cX_signs a1 a2 G) 0 [(2, 0), (0, a1), (0, a2), (9, 0), (9, 0), (9, 0), (9, 0)] [] 224 (fu G H) (0, 0) := by
  unfold cX_signs
  refine j_aload_n dX10_signs_0 rfl rfl ?_
  refine j_iload_n dX10_signs_1 rfl rfl ?_
  refine j_cVRr dX10_signs_2 im_cX_paperAt lk_X10_124 rfl (As := [(0, a1)]) (S := []) rfl oc_0.1 ⟨by decide, by decide⟩ (Nat.le_of_ble_eq_true rfl) (fun r hr => cX_paperAt_ct a1 G hr) (fun v2 hv2 => ?_)
  refine j_astore_n dX10_signs_5 rfl (Nat.le_of_ble_eq_true rfl) rfl ?_
  refine j_aload_n dX10_signs_6 rfl rfl ?_
  refine j_ifnonnull (tgt := 12) dX10_signs_7 rfl (fun h7 => ?_) (fun h7 => ?_)
  · refine j_iconst dX10_signs_10 r32_m1 ?_
    exact j_ireturn dX10_signs_11 rfl rfl (Nat.zero_le _) (Nat.zero_le _)
  · refine j_iconst dX10_signs_12 r32_0 ?_
    refine j_istore dX10_signs_13 (Nat.le_of_ble_eq_true rfl) rfl ?_
    refine j_iconst dX10_signs_15 r32_0 ?_
    refine j_istore dX10_signs_16 (Nat.le_of_ble_eq_true rfl) rfl ?_
    refine j_mask [true, false, true, true, true, true, false] rfl (cX_signs_L18_J a1 a2 v2 (cX_paperAt_ok hv2 h7) (fun x4_72 G_72 => cX_signs_L78 a1 a2 v2 x4_72 G_72 (fun x5_129 => if x5_129 = (-1) then some (x5_129, G_72) else (if a2 = 0 then some ((jI_bitCount x5_129), G_72) else some (x5_129, G_72))) FU (-1) 0) (fun x4_72 G_72 => ?_) FU 0 0 G)
    refine j_iconst dX10_signs_72 r32_m1 ?_
    refine j_istore dX10_signs_73 (Nat.le_of_ble_eq_true rfl) rfl ?_
    refine j_iconst dX10_signs_75 r32_0 ?_
    refine j_istore dX10_signs_76 (Nat.le_of_ble_eq_true rfl) rfl ?_
    refine j_mask [true, false, true, true, true, true, true] rfl (cX_signs_L78_J a1 a2 v2 (cX_paperAt_ok hv2 h7) x4_72 G_72 (fun x5_129 => if x5_129 = (-1) then some (x5_129, G_72) else (if a2 = 0 then some ((jI_bitCount x5_129), G_72) else some (x5_129, G_72))) (fun x5_129 => ?_) FU (-1) 0)
    refine j_iload dX10_signs_129 rfl ?_
    refine j_iconst dX10_signs_131 r32_m1 ?_
    refine j_icmp_eq (tgt := 139) dX10_signs_132 rfl (fun h132 => ?_) (fun h132 => ?_)
    · refine j_iload dX10_signs_139 rfl ?_
      refine j_goto (tgt := 149) dX10_signs_141 rfl ?_
      exact j_ireturn dX10_signs_149 rfl rfl (Nat.zero_le _) (Nat.zero_le _)
    · refine j_iload_n dX10_signs_135 rfl rfl ?_
      refine j_if_eq (tgt := 144) dX10_signs_136 rfl (fun h136 => ?_) (fun h136 => ?_)
      · refine j_iload dX10_signs_144 rfl ?_
        refine j_cSRip dX10_signs_146 sm_jI_bitCount lk_X10_257 rfl (As := [(0, x5_129)]) (S := []) rfl ⟨by decide, by decide⟩ (Nat.le_of_ble_eq_true rfl) (jI_bitCount_ct x5_129) ?_
        exact j_ireturn dX10_signs_149 rfl rfl (Nat.zero_le _) (Nat.zero_le _)
      · refine j_iload dX10_signs_139 rfl ?_
        refine j_goto (tgt := 149) dX10_signs_141 rfl ?_
        exact j_ireturn dX10_signs_149 rfl rfl (Nat.zero_le _) (Nat.zero_le _)

set_option maxRecDepth 100000 in
theorem cX_signs_ct {l : Launch} {H : Hp} (a1 : Int) (a2 : Int) (G : Hp) {r : Int × Hp} (h : cX_signs a1 a2 G = some r) : Ct l M_cX_signs [(2, 0), (0, a1), (0, a2)] 224 (fu G H) ((KWi (fun g => fu g H)) r) :=
  ct_of_J (by decide +kernel) rfl (Nat.le_of_ble_eq_true rfl) (cX_signs_J a1 a2 G) h
set_option maxRecDepth 100000 in
theorem cX_mostOfRow_L4_J {l : Launch} {H : Hp} (G : Hp) : ∀ (n_4 : Nat) (x1_4 : Int) (x2_4 : Int), J l M_cX_mostOfRow (KRi (fu G H)) (cX_mostOfRow_L4 G  n_4 x1_4 x2_4) 4 [(2, 0), (0, x1_4), (0, x2_4)] [] 224 (fu G H) (0, 0) := by
  intro n_4
  induction n_4 with
  | zero =>
    intro x1_4 x2_4
    exact j_none
  | succ n_4 ih =>
    intro x1_4 x2_4
    rw [cX_mostOfRow_L4]
    refine j_iload_n dX10_mostOfRow_4 rfl rfl ?_
    refine j_bipush dX10_mostOfRow_5 r32_10 bp_10 ?_
    refine j_icmp_ge (tgt := 47) dX10_mostOfRow_7 rfl (fun h7 => ?_) (fun h7 => ?_)
    · refine j_aload_n dX10_mostOfRow_10 rfl rfl ?_
      refine j_grc dX10_mostOfRow_11 gf_X10_66 oc_0 (Or.inl (by decide)) rf_0_9 ?_
      refine j_iload_n dX10_mostOfRow_14 rfl rfl ?_
      refine j_gd (fun h15a h15b => ?_)
      refine j_aic dX10_mostOfRow_15 oc_91 rfl h15a h15b ?_
      refine j_if_le (tgt := 41) dX10_mostOfRow_16 rfl (fun h16 => ?_) (fun h16 => ?_)
      · refine j_iload_n dX10_mostOfRow_19 rfl rfl ?_
        refine j_iconst dX10_mostOfRow_20 r32_m1 ?_
        refine j_icmp_eq (tgt := 39) dX10_mostOfRow_21 rfl (fun h21 => ?_) (fun h21 => ?_)
        · refine j_iload_n dX10_mostOfRow_39 rfl rfl ?_
          refine j_istore_n dX10_mostOfRow_40 rfl (Nat.le_of_ble_eq_true rfl) rfl ?_
          refine j_iinc dX10_mostOfRow_41 rfl (Nat.le_of_ble_eq_true rfl) rfl ?_
          refine j_goto (tgt := 4) dX10_mostOfRow_44 rfl ?_
          exact j_mask [true, true, true] rfl (ih x2_4 (w32 (x2_4 + 1)))
        · refine j_aload_n dX10_mostOfRow_24 rfl rfl ?_
          refine j_grc dX10_mostOfRow_25 gf_X10_66 oc_0 (Or.inl (by decide)) rf_0_9 ?_
          refine j_iload_n dX10_mostOfRow_28 rfl rfl ?_
          refine j_gd (fun h29a h29b => ?_)
          refine j_aic dX10_mostOfRow_29 oc_91 rfl h29a h29b ?_
          refine j_aload_n dX10_mostOfRow_30 rfl rfl ?_
          refine j_grc dX10_mostOfRow_31 gf_X10_66 oc_0 (Or.inl (by decide)) rf_0_9 ?_
          refine j_iload_n dX10_mostOfRow_34 rfl rfl ?_
          refine j_gd (fun h35a h35b => ?_)
          refine j_aic dX10_mostOfRow_35 oc_91 rfl h35a h35b ?_
          refine j_icmp_le (tgt := 41) dX10_mostOfRow_36 rfl (fun h36 => ?_) (fun h36 => ?_)
          · refine j_iload_n dX10_mostOfRow_39 rfl rfl ?_
            refine j_istore_n dX10_mostOfRow_40 rfl (Nat.le_of_ble_eq_true rfl) rfl ?_
            refine j_iinc dX10_mostOfRow_41 rfl (Nat.le_of_ble_eq_true rfl) rfl ?_
            refine j_goto (tgt := 4) dX10_mostOfRow_44 rfl ?_
            exact j_mask [true, true, true] rfl (ih x2_4 (w32 (x2_4 + 1)))
          · refine j_iinc dX10_mostOfRow_41 rfl (Nat.le_of_ble_eq_true rfl) rfl ?_
            refine j_goto (tgt := 4) dX10_mostOfRow_44 rfl ?_
            exact j_mask [true, true, true] rfl (ih x1_4 (w32 (x2_4 + 1)))
      · refine j_iinc dX10_mostOfRow_41 rfl (Nat.le_of_ble_eq_true rfl) rfl ?_
        refine j_goto (tgt := 4) dX10_mostOfRow_44 rfl ?_
        exact j_mask [true, true, true] rfl (ih x1_4 (w32 (x2_4 + 1)))
    · refine j_iload_n dX10_mostOfRow_47 rfl rfl ?_
      exact j_ireturn dX10_mostOfRow_48 rfl rfl (Nat.zero_le _) (Nat.zero_le _)

set_option maxRecDepth 100000 in
theorem cX_mostOfRow_J {l : Launch} {H : Hp} (G : Hp) : J l M_cX_mostOfRow (KRi (fu G H)) (cX_mostOfRow  G) 0 [(2, 0), (9, 0), (9, 0)] [] 224 (fu G H) (0, 0) := by
  unfold cX_mostOfRow
  refine j_iconst dX10_mostOfRow_0 r32_m1 ?_
  refine j_istore_n dX10_mostOfRow_1 rfl (Nat.le_of_ble_eq_true rfl) rfl ?_
  refine j_iconst dX10_mostOfRow_2 r32_0 ?_
  refine j_istore_n dX10_mostOfRow_3 rfl (Nat.le_of_ble_eq_true rfl) rfl ?_
  exact j_mask [true, true, true] rfl (cX_mostOfRow_L4_J G FU (-1) 0)

set_option maxRecDepth 100000 in
theorem cX_mostOfRow_ct {l : Launch} {H : Hp} (G : Hp) {r : Int} (h : cX_mostOfRow  G = some r) : Ct l M_cX_mostOfRow [(2, 0)] 224 (fu G H) ((KRi (fu G H)) r) :=
  ct_of_J (by decide +kernel) rfl (Nat.le_of_ble_eq_true rfl) (cX_mostOfRow_J  G) h
set_option maxRecDepth 100000 in
theorem cX_vote_L31_J {l : Launch} {H : Hp} (a1 : Int) (a2 : Int) (x3_31 : Int) (hx3_31 : isPaper x3_31) (k73 : Hp → Option (Int × Hp)) (hk73 : ∀ (G_73 : Hp), J l M_cX_vote (KWi (fun g => fu g H)) (k73 G_73) 73 [(2, 0), (9, 0), (9, 0), (9, 0), (9, 0), (9, 0)] [] 224 (fu G_73 H) (0, 0)) : ∀ (n_31 : Nat) (x4_31 : Int) (G_31 : Hp), J l M_cX_vote (KWi (fun g => fu g H)) (cX_vote_L31 a1 a2 x3_31 k73 n_31 x4_31 G_31) 31 [(2, 0), (9, 0), (0, a2), (2, x3_31), (0, x4_31), (9, 0)] [] 224 (fu G_31 H) (0, 0) := by
  intro n_31
  induction n_31 with
  | zero =>
    intro x4_31 G_31
    exact j_none
  | succ n_31 ih =>
    intro x4_31 G_31
    rw [cX_vote_L31]
    refine j_iload dX10_vote_31 rfl ?_
    refine j_aload_n dX10_vote_33 rfl rfl ?_
    refine j_gic dX10_vote_34 gf_X10_245 (oc_paper hx3_31) ?_
    refine j_icmp_ge (tgt := 73) dX10_vote_37 rfl (fun h37 => ?_) (fun h37 => ?_)
    · refine j_aload_n dX10_vote_40 rfl rfl ?_
      refine j_iload dX10_vote_41 rfl ?_
      refine j_iload_n dX10_vote_43 rfl rfl ?_
      refine j_cVRi dX10_vote_44 im_cPa_wish lk_X10_355 rfl (As := [(0, x4_31), (0, a2)]) (S := []) rfl (oc_paper hx3_31).1 ⟨by decide, by decide⟩ (Nat.le_of_ble_eq_true rfl) (fun r hr => cPa_wish_ct x3_31 hx3_31 x4_31 a2 G_31 hr) (fun v44 _ => ?_)
      refine j_istore dX10_vote_47 (Nat.le_of_ble_eq_true rfl) rfl ?_
      refine j_iload dX10_vote_49 rfl ?_
      refine j_bipush dX10_vote_51 r32_10 bp_10 ?_
      refine j_icmp_ge (tgt := 67) dX10_vote_53 rfl (fun h53 => ?_) (fun h53 => ?_)
      · refine j_aload_n dX10_vote_56 rfl rfl ?_
        refine j_grc dX10_vote_57 gf_X10_66 oc_0 (Or.inl (by decide)) rf_0_9 ?_
        refine j_iload dX10_vote_60 rfl ?_
        refine j_dup2 dX10_vote_62 (by decide) (by decide) ?_
        refine j_gd (fun h63a h63b => ?_)
        refine j_aic dX10_vote_63 oc_91 rfl h63a h63b ?_
        refine j_iconst dX10_vote_64 r32_1 ?_
        refine j_iadd dX10_vote_65 ?_
        refine j_gd (fun h66a h66b => ?_)
        refine j_sic dX10_vote_66 oc_91 rfl h66a h66b ?_
        refine j_iinc dX10_vote_67 rfl (Nat.le_of_ble_eq_true rfl) rfl ?_
        refine j_goto (tgt := 31) dX10_vote_70 rfl ?_
        exact j_mask [true, false, true, true, true, false] rfl (ih (w32 (x4_31 + 1)) (upd2 G_31 91 v44 (w32 ((G_31 91 v44) + 1))))
      · refine j_iinc dX10_vote_67 rfl (Nat.le_of_ble_eq_true rfl) rfl ?_
        refine j_goto (tgt := 31) dX10_vote_70 rfl ?_
        exact j_mask [true, false, true, true, true, false] rfl (ih (w32 (x4_31 + 1)) G_31)
    · exact j_mask [true, false, false, false, false, false] rfl (hk73 G_31)

set_option maxRecDepth 100000 in
theorem cX_vote_J {l : Launch} {H : Hp} (a1 : Int) (a2 : Int) (G : Hp) : J l M_cX_vote (KWi (fun g => fu g H)) (cX_vote a1 a2 G) 0 [(2, 0), (0, a1), (0, a2), (9, 0), (9, 0), (9, 0)] [] 224 (fu G H) (0, 0) := by
  unfold cX_vote
  refine j_aload_n dX10_vote_0 rfl rfl ?_
  refine j_iload_n dX10_vote_1 rfl rfl ?_
  refine j_cVRr dX10_vote_2 im_cX_paperAt lk_X10_124 rfl (As := [(0, a1)]) (S := []) rfl oc_0.1 ⟨by decide, by decide⟩ (Nat.le_of_ble_eq_true rfl) (fun r hr => cX_paperAt_ct a1 G hr) (fun v2 hv2 => ?_)
  refine j_astore_n dX10_vote_5 rfl (Nat.le_of_ble_eq_true rfl) rfl ?_
  refine j_aload_n dX10_vote_6 rfl rfl ?_
  refine j_ifnull (tgt := 22) dX10_vote_7 rfl (fun h7 => ?_) (fun h7 => ?_)
  · refine j_iconst dX10_vote_22 r32_m1 ?_
    exact j_ireturn dX10_vote_23 rfl rfl (Nat.zero_le _) (Nat.zero_le _)
  · refine j_iload_n dX10_vote_10 rfl rfl ?_
    refine j_if_lt (tgt := 22) dX10_vote_11 rfl (fun h11 => ?_) (fun h11 => ?_)
    · refine j_iconst dX10_vote_22 r32_m1 ?_
      exact j_ireturn dX10_vote_23 rfl rfl (Nat.zero_le _) (Nat.zero_le _)
    · refine j_iload_n dX10_vote_14 rfl rfl ?_
      refine j_aload_n dX10_vote_15 rfl rfl ?_
      refine j_gic dX10_vote_16 gf_X10_269 (oc_paper (cX_paperAt_ok hv2 h7)) ?_
      refine j_icmp_lt (tgt := 24) dX10_vote_19 rfl (fun h19 => ?_) (fun h19 => ?_)
      · refine j_iconst dX10_vote_22 r32_m1 ?_
        exact j_ireturn dX10_vote_23 rfl rfl (Nat.zero_le _) (Nat.zero_le _)
      · refine j_aload_n dX10_vote_24 rfl rfl ?_
        refine j_cVWv dX10_vote_25 im_cX_clearRow lk_X10_333 rfl (As := []) (S := []) rfl oc_0.1 ⟨by decide, by decide⟩ (Nat.le_of_ble_eq_true rfl) (fun r hr => cX_clearRow_ct  G hr) (fun G25 _ => ?_)
        refine j_iconst dX10_vote_28 r32_0 ?_
        refine j_istore dX10_vote_29 (Nat.le_of_ble_eq_true rfl) rfl ?_
        refine j_mask [true, false, true, true, true, false] rfl (cX_vote_L31_J a1 a2 v2 (cX_paperAt_ok hv2 h7) (fun G_73 => (cX_mostOfRow G_73).bind fun v74 => some (v74, G_73)) (fun G_73 => ?_) FU 0 G25)
        refine j_aload_n dX10_vote_73 rfl rfl ?_
        refine j_cVRi dX10_vote_74 im_cX_mostOfRow lk_X10_371 rfl (As := []) (S := []) rfl oc_0.1 ⟨by decide, by decide⟩ (Nat.le_of_ble_eq_true rfl) (fun r hr => cX_mostOfRow_ct  G_73 hr) (fun v74 _ => ?_)
        exact j_ireturn dX10_vote_77 rfl rfl (Nat.zero_le _) (Nat.zero_le _)

set_option maxRecDepth 100000 in
theorem cX_vote_ct {l : Launch} {H : Hp} (a1 : Int) (a2 : Int) (G : Hp) {r : Int × Hp} (h : cX_vote a1 a2 G = some r) : Ct l M_cX_vote [(2, 0), (0, a1), (0, a2)] 224 (fu G H) ((KWi (fun g => fu g H)) r) :=
  ct_of_J (by decide +kernel) rfl (Nat.le_of_ble_eq_true rfl) (cX_vote_J a1 a2 G) h
set_option maxRecDepth 100000 in
theorem cX_atPeace_L2_J {l : Launch} {H : Hp} (a1 : Int) (a2 : Int) (G : Hp) : ∀ (n_2 : Nat) (x3_2 : Int), J l M_cX_atPeace (KRb (fu G H)) (cX_atPeace_L2 a1 a2 G  n_2 x3_2) 2 [(2, 0), (0, a1), (0, a2), (0, x3_2)] [] 224 (fu G H) (0, 0) := by
  intro n_2
  induction n_2 with
  | zero =>
    intro x3_2
    exact j_none
  | succ n_2 ih =>
    intro x3_2
    rw [cX_atPeace_L2]
    refine j_iload_n dX10_atPeace_2 rfl rfl ?_
    refine j_iload_n dX10_atPeace_3 rfl rfl ?_
    refine j_icmp_ge (tgt := 34) dX10_atPeace_4 rfl (fun h4 => ?_) (fun h4 => ?_)
    · refine j_iload_n dX10_atPeace_7 rfl rfl ?_
      refine j_iload_n dX10_atPeace_8 rfl rfl ?_
      refine j_ishr dX10_atPeace_9 ?_
      refine j_iconst dX10_atPeace_10 r32_1 ?_
      refine j_iand dX10_atPeace_11 ?_
      refine j_if_eq (tgt := 28) dX10_atPeace_12 rfl (fun h12 => ?_) (fun h12 => ?_)
      · refine j_iinc dX10_atPeace_28 rfl (Nat.le_of_ble_eq_true rfl) rfl ?_
        refine j_goto (tgt := 2) dX10_atPeace_31 rfl ?_
        exact j_mask [true, true, true, true] rfl (ih (w32 (x3_2 + 1)))
      · refine j_iload_n dX10_atPeace_15 rfl rfl ?_
        refine j_aload_n dX10_atPeace_16 rfl rfl ?_
        refine j_grc dX10_atPeace_17 gf_X10_70 oc_0 (Or.inl (by decide)) rf_0_10 ?_
        refine j_iload_n dX10_atPeace_20 rfl rfl ?_
        refine j_gd (fun h21a h21b => ?_)
        refine j_aic dX10_atPeace_21 oc_92 rfl h21a h21b ?_
        refine j_iand dX10_atPeace_22 ?_
        refine j_if_eq (tgt := 28) dX10_atPeace_23 rfl (fun h23 => ?_) (fun h23 => ?_)
        · refine j_iinc dX10_atPeace_28 rfl (Nat.le_of_ble_eq_true rfl) rfl ?_
          refine j_goto (tgt := 2) dX10_atPeace_31 rfl ?_
          exact j_mask [true, true, true, true] rfl (ih (w32 (x3_2 + 1)))
        · refine j_iconst dX10_atPeace_26 r32_0 ?_
          exact j_zreturn (b := false) dX10_atPeace_27 rfl rfl (Nat.zero_le _) (Nat.zero_le _)
    · refine j_iconst dX10_atPeace_34 r32_1 ?_
      exact j_zreturn (b := true) dX10_atPeace_35 rfl rfl (Nat.zero_le _) (Nat.zero_le _)

set_option maxRecDepth 100000 in
theorem cX_atPeace_J {l : Launch} {H : Hp} (a1 : Int) (a2 : Int) (G : Hp) : J l M_cX_atPeace (KRb (fu G H)) (cX_atPeace a1 a2 G) 0 [(2, 0), (0, a1), (0, a2), (9, 0)] [] 224 (fu G H) (0, 0) := by
  unfold cX_atPeace
  refine j_iconst dX10_atPeace_0 r32_0 ?_
  refine j_istore_n dX10_atPeace_1 rfl (Nat.le_of_ble_eq_true rfl) rfl ?_
  exact j_mask [true, true, true, true] rfl (cX_atPeace_L2_J a1 a2 G FU 0)

set_option maxRecDepth 100000 in
theorem cX_atPeace_ct {l : Launch} {H : Hp} (a1 : Int) (a2 : Int) (G : Hp) {r : Bool} (h : cX_atPeace a1 a2 G = some r) : Ct l M_cX_atPeace [(2, 0), (0, a1), (0, a2)] 224 (fu G H) ((KRb (fu G H)) r) :=
  ct_of_J (by decide +kernel) rfl (Nat.le_of_ble_eq_true rfl) (cX_atPeace_J a1 a2 G) h
set_option maxRecDepth 100000 in
theorem cX_peace_L15_J {l : Launch} {H : Hp} (a1 : Int) (a2 : Int) (x3_15 : Int) (hx3_15 : isPaper x3_15) (k43 : Hp → Option (Int × Hp)) (hk43 : ∀ (G_43 : Hp), J l M_cX_peace (KWi (fun g => fu g H)) (k43 G_43) 43 [(2, 0), (9, 0), (0, a2), (2, x3_15), (9, 0), (9, 0)] [] 224 (fu G_43 H) (0, 0)) : ∀ (n_15 : Nat) (x4_15 : Int) (G_15 : Hp), J l M_cX_peace (KWi (fun g => fu g H)) (cX_peace_L15 a1 a2 x3_15 k43 n_15 x4_15 G_15) 15 [(2, 0), (9, 0), (0, a2), (2, x3_15), (0, x4_15), (9, 0)] [] 224 (fu G_15 H) (0, 0) := by
  intro n_15
  induction n_15 with
  | zero =>
    intro x4_15 G_15
    exact j_none
  | succ n_15 ih =>
    intro x4_15 G_15
    rw [cX_peace_L15]
    refine j_iload dX10_peace_15 rfl ?_
    refine j_aload_n dX10_peace_17 rfl rfl ?_
    refine j_gic dX10_peace_18 gf_X10_245 (oc_paper hx3_15) ?_
    refine j_icmp_ge (tgt := 43) dX10_peace_21 rfl (fun h21 => ?_) (fun h21 => ?_)
    · refine j_aload_n dX10_peace_24 rfl rfl ?_
      refine j_grc dX10_peace_25 gf_X10_70 oc_0 (Or.inl (by decide)) rf_0_10 ?_
      refine j_iload dX10_peace_28 rfl ?_
      refine j_aload_n dX10_peace_30 rfl rfl ?_
      refine j_iload dX10_peace_31 rfl ?_
      refine j_cVRi dX10_peace_33 im_cPa_rivals lk_X10_293 rfl (As := [(0, x4_15)]) (S := [(0, x4_15), (2, 92)]) rfl (oc_paper hx3_15).1 ⟨by decide, by decide⟩ (Nat.le_of_ble_eq_true rfl) (fun r hr => cPa_rivals_ct x3_15 hx3_15 x4_15 G_15 hr) (fun v33 _ => ?_)
      refine j_gd (fun h36a h36b => ?_)
      refine j_sic dX10_peace_36 oc_92 rfl h36a h36b ?_
      refine j_iinc dX10_peace_37 rfl (Nat.le_of_ble_eq_true rfl) rfl ?_
      refine j_goto (tgt := 15) dX10_peace_40 rfl ?_
      exact j_mask [true, false, true, true, true, false] rfl (ih (w32 (x4_15 + 1)) (upd2 G_15 92 x4_15 v33))
    · exact j_mask [true, false, true, true, false, false] rfl (hk43 G_15)

set_option maxRecDepth 100000 in
theorem cX_peace_L49_J {l : Launch} {H : Hp} (a1 : Int) (a2 : Int) (x3_49 : Int) (hx3_49 : isPaper x3_49) (G_49 : Hp) (k96 : Int → Option (Int × Hp)) (hk96 : ∀ (x4_96 : Int), J l M_cX_peace (KWi (fun g => fu g H)) (k96 x4_96) 96 [(9, 0), (9, 0), (0, a2), (9, 0), (0, x4_96), (9, 0)] [] 224 (fu G_49 H) (0, 0)) : ∀ (n_49 : Nat) (x4_49 : Int) (x5_49 : Int), J l M_cX_peace (KWi (fun g => fu g H)) (cX_peace_L49 a1 a2 x3_49 G_49 k96 n_49 x4_49 x5_49) 49 [(2, 0), (9, 0), (0, a2), (2, x3_49), (0, x4_49), (0, x5_49)] [] 224 (fu G_49 H) (0, 0) := by
  intro n_49
  induction n_49 with
  | zero =>
    intro x4_49 x5_49
    exact j_none
  | succ n_49 ih =>
    intro x4_49 x5_49
    rw [cX_peace_L49]
    refine j_iload dX10_peace_49 rfl ?_
    refine j_iconst dX10_peace_51 r32_1 ?_
    refine j_aload_n dX10_peace_52 rfl rfl ?_
    refine j_gic dX10_peace_53 gf_X10_245 (oc_paper hx3_49) ?_
    refine j_ishl dX10_peace_56 ?_
    refine j_icmp_ge (tgt := 96) dX10_peace_57 rfl (fun h57 => ?_) (fun h57 => ?_)
    · refine j_iload dX10_peace_60 rfl ?_
      refine j_cSRip dX10_peace_62 sm_jI_bitCount lk_X10_257 rfl (As := [(0, x5_49)]) (S := []) rfl ⟨by decide, by decide⟩ (Nat.le_of_ble_eq_true rfl) (jI_bitCount_ct x5_49) ?_
      refine j_iload dX10_peace_65 rfl ?_
      refine j_cSRip dX10_peace_67 sm_jI_bitCount lk_X10_257 rfl (As := [(0, x4_49)]) (S := [(0, (jI_bitCount x5_49))]) rfl ⟨by decide, by decide⟩ (Nat.le_of_ble_eq_true rfl) (jI_bitCount_ct x4_49) ?_
      refine j_icmp_le (tgt := 90) dX10_peace_70 rfl (fun h70 => ?_) (fun h70 => ?_)
      · refine j_aload_n dX10_peace_73 rfl rfl ?_
        refine j_iload dX10_peace_74 rfl ?_
        refine j_aload_n dX10_peace_76 rfl rfl ?_
        refine j_gic dX10_peace_77 gf_X10_245 (oc_paper hx3_49) ?_
        refine j_cVRb dX10_peace_80 im_cX_atPeace lk_X10_374 rfl (As := [(0, x5_49), (0, G_49 x3_49 2)]) (S := []) rfl oc_0.1 ⟨by decide, by decide⟩ (Nat.le_of_ble_eq_true rfl) (fun r hr => cX_atPeace_ct x5_49 (G_49 x3_49 2) G_49 hr) (fun v80 _ => ?_)
        refine j_ifb_eq (tgt := 90) dX10_peace_83 rfl (fun h83 => ?_) (fun h83 => ?_)
        · refine j_iload dX10_peace_86 rfl ?_
          refine j_istore dX10_peace_88 (Nat.le_of_ble_eq_true rfl) rfl ?_
          refine j_iinc dX10_peace_90 rfl (Nat.le_of_ble_eq_true rfl) rfl ?_
          refine j_goto (tgt := 49) dX10_peace_93 rfl ?_
          exact j_mask [true, false, true, true, true, true] rfl (ih x5_49 (w32 (x5_49 + 1)))
        · refine j_iinc dX10_peace_90 rfl (Nat.le_of_ble_eq_true rfl) rfl ?_
          refine j_goto (tgt := 49) dX10_peace_93 rfl ?_
          exact j_mask [true, false, true, true, true, true] rfl (ih x4_49 (w32 (x5_49 + 1)))
      · refine j_iinc dX10_peace_90 rfl (Nat.le_of_ble_eq_true rfl) rfl ?_
        refine j_goto (tgt := 49) dX10_peace_93 rfl ?_
        exact j_mask [true, false, true, true, true, true] rfl (ih x4_49 (w32 (x5_49 + 1)))
    · exact j_mask [false, false, true, false, true, false] rfl (hk96 x4_49)

set_option maxRecDepth 100000 in
theorem cX_peace_J {l : Launch} {H : Hp} (a1 : Int) (a2 : Int) (G : Hp) : J l M_cX_peace (KWi (fun g => fu g H)) (cX_peace a1 a2 G) 0 [(2, 0), (0, a1), (0, a2), (9, 0), (9, 0), (9, 0)] [] 224 (fu G H) (0, 0) := by
  unfold cX_peace
  refine j_aload_n dX10_peace_0 rfl rfl ?_
  refine j_iload_n dX10_peace_1 rfl rfl ?_
  refine j_cVRr dX10_peace_2 im_cX_paperAt lk_X10_124 rfl (As := [(0, a1)]) (S := []) rfl oc_0.1 ⟨by decide, by decide⟩ (Nat.le_of_ble_eq_true rfl) (fun r hr => cX_paperAt_ct a1 G hr) (fun v2 hv2 => ?_)
  refine j_astore_n dX10_peace_5 rfl (Nat.le_of_ble_eq_true rfl) rfl ?_
  refine j_aload_n dX10_peace_6 rfl rfl ?_
  refine j_ifnonnull (tgt := 12) dX10_peace_7 rfl (fun h7 => ?_) (fun h7 => ?_)
  · refine j_iconst dX10_peace_10 r32_m1 ?_
    exact j_ireturn dX10_peace_11 rfl rfl (Nat.zero_le _) (Nat.zero_le _)
  · refine j_iconst dX10_peace_12 r32_0 ?_
    refine j_istore dX10_peace_13 (Nat.le_of_ble_eq_true rfl) rfl ?_
    refine j_mask [true, false, true, true, true, false] rfl (cX_peace_L15_J a1 a2 v2 (cX_paperAt_ok hv2 h7) (fun G_43 => cX_peace_L49 a1 a2 v2 G_43 (fun x4_96 => if a2 = 0 then some ((jI_bitCount x4_96), G_43) else some (x4_96, G_43)) FU 0 1) (fun G_43 => ?_) FU 0 G)
    refine j_iconst dX10_peace_43 r32_0 ?_
    refine j_istore dX10_peace_44 (Nat.le_of_ble_eq_true rfl) rfl ?_
    refine j_iconst dX10_peace_46 r32_1 ?_
    refine j_istore dX10_peace_47 (Nat.le_of_ble_eq_true rfl) rfl ?_
    refine j_mask [true, false, true, true, true, true] rfl (cX_peace_L49_J a1 a2 v2 (cX_paperAt_ok hv2 h7) G_43 (fun x4_96 => if a2 = 0 then some ((jI_bitCount x4_96), G_43) else some (x4_96, G_43)) (fun x4_96 => ?_) FU 0 1)
    refine j_iload_n dX10_peace_96 rfl rfl ?_
    refine j_if_eq (tgt := 105) dX10_peace_97 rfl (fun h97 => ?_) (fun h97 => ?_)
    · refine j_iload dX10_peace_105 rfl ?_
      refine j_cSRip dX10_peace_107 sm_jI_bitCount lk_X10_257 rfl (As := [(0, x4_96)]) (S := []) rfl ⟨by decide, by decide⟩ (Nat.le_of_ble_eq_true rfl) (jI_bitCount_ct x4_96) ?_
      exact j_ireturn dX10_peace_110 rfl rfl (Nat.zero_le _) (Nat.zero_le _)
    · refine j_iload dX10_peace_100 rfl ?_
      refine j_goto (tgt := 110) dX10_peace_102 rfl ?_
      exact j_ireturn dX10_peace_110 rfl rfl (Nat.zero_le _) (Nat.zero_le _)

set_option maxRecDepth 100000 in
theorem cX_peace_ct {l : Launch} {H : Hp} (a1 : Int) (a2 : Int) (G : Hp) {r : Int × Hp} (h : cX_peace a1 a2 G = some r) : Ct l M_cX_peace [(2, 0), (0, a1), (0, a2)] 224 (fu G H) ((KWi (fun g => fu g H)) r) :=
  ct_of_J (by decide +kernel) rfl (Nat.le_of_ble_eq_true rfl) (cX_peace_J a1 a2 G) h
set_option maxRecDepth 100000 in
theorem cPa_stepsToAll_L5_J {l : Launch} {H : Hp} (o : Int) (ho : isPaper o) (a1 : Int) (a2 : Int) : ∀ (n_5 : Nat) (x3_5 : Int) (x4_5 : Int) (G_5 : Hp), J l M_cPa_stepsToAll (KWi (fun g => fu g H)) (cPa_stepsToAll_L5 o a1 a2  n_5 x3_5 x4_5 G_5) 5 [(2, o), (0, a1), (0, a2), (0, x3_5), (0, x4_5), (9, 0), (9, 0)] [] 224 (fu G_5 H) (0, 0) := by
  intro n_5
  induction n_5 with
  | zero =>
    intro x3_5 x4_5 G_5
    exact j_none
  | succ n_5 ih =>
    intro x3_5 x4_5 G_5
    rw [cPa_stepsToAll_L5]
    refine j_iload dX3_stepsToAll_5 rfl ?_
    refine j_aload_n dX3_stepsToAll_7 rfl rfl ?_
    refine j_gic dX3_stepsToAll_8 gf_X3_35 (oc_paper ho) ?_
    refine j_icmp_ge (tgt := 64) dX3_stepsToAll_11 rfl (fun h11 => ?_) (fun h11 => ?_)
    · refine j_aload_n dX3_stepsToAll_14 rfl rfl ?_
      refine j_iload dX3_stepsToAll_15 rfl ?_
      refine j_iload_n dX3_stepsToAll_17 rfl rfl ?_
      refine j_cVRi dX3_stepsToAll_18 im_cPa_wish lk_X3_60 rfl (As := [(0, x4_5), (0, a2)]) (S := []) rfl (oc_paper ho).1 ⟨by decide, by decide⟩ (Nat.le_of_ble_eq_true rfl) (fun r hr => cPa_wish_ct o ho x4_5 a2 G_5 hr) (fun v18 _ => ?_)
      refine j_istore dX3_stepsToAll_21 (Nat.le_of_ble_eq_true rfl) rfl ?_
      refine j_iload dX3_stepsToAll_23 rfl ?_
      refine j_bipush dX3_stepsToAll_25 r32_10 bp_10 ?_
      refine j_icmp_eq (tgt := 58) dX3_stepsToAll_27 rfl (fun h27 => ?_) (fun h27 => ?_)
      · refine j_iinc dX3_stepsToAll_58 rfl (Nat.le_of_ble_eq_true rfl) rfl ?_
        refine j_goto (tgt := 5) dX3_stepsToAll_61 rfl ?_
        exact j_mask [true, true, true, true, true, false, false] rfl (ih x3_5 (w32 (x4_5 + 1)) G_5)
      · refine j_aload_n dX3_stepsToAll_30 rfl rfl ?_
        refine j_grc dX3_stepsToAll_31 gf_X3_12 (oc_paper ho) (Or.inl (by decide)) (rf_paper_3 ho) ?_
        refine j_iload_n dX3_stepsToAll_34 rfl rfl ?_
        refine j_iload dX3_stepsToAll_35 rfl ?_
        refine j_cVWi dX3_stepsToAll_37 im_cNe_between lk_X3_80 rfl (As := [(0, a1), (0, v18)]) (S := []) rfl (oc_net (net_paper ho)).1 ⟨by decide, by decide⟩ (Nat.le_of_ble_eq_true rfl) (fun r hr => cNe_between_ct (o + 1) (net_paper ho) a1 v18 G_5 hr) (fun r37 _ => ?_)
        refine j_istore dX3_stepsToAll_40 (Nat.le_of_ble_eq_true rfl) rfl ?_
        refine j_iload_n dX3_stepsToAll_42 rfl rfl ?_
        refine j_iload dX3_stepsToAll_43 rfl ?_
        refine j_iconst dX3_stepsToAll_45 r32_m1 ?_
        refine j_icmp_ne (tgt := 54) dX3_stepsToAll_46 rfl (fun h46 => ?_) (fun h46 => ?_)
        · refine j_bipush dX3_stepsToAll_49 r32_10 bp_10 ?_
          refine j_goto (tgt := 56) dX3_stepsToAll_51 rfl ?_
          refine j_iadd dX3_stepsToAll_56 ?_
          refine j_istore_n dX3_stepsToAll_57 rfl (Nat.le_of_ble_eq_true rfl) rfl ?_
          refine j_iinc dX3_stepsToAll_58 rfl (Nat.le_of_ble_eq_true rfl) rfl ?_
          refine j_goto (tgt := 5) dX3_stepsToAll_61 rfl ?_
          exact j_mask [true, true, true, true, true, false, false] rfl (ih (w32 (x3_5 + 10)) (w32 (x4_5 + 1)) r37.2)
        · refine j_iload dX3_stepsToAll_54 rfl ?_
          refine j_iadd dX3_stepsToAll_56 ?_
          refine j_istore_n dX3_stepsToAll_57 rfl (Nat.le_of_ble_eq_true rfl) rfl ?_
          refine j_iinc dX3_stepsToAll_58 rfl (Nat.le_of_ble_eq_true rfl) rfl ?_
          refine j_goto (tgt := 5) dX3_stepsToAll_61 rfl ?_
          exact j_mask [true, true, true, true, true, false, false] rfl (ih (w32 (x3_5 + r37.1)) (w32 (x4_5 + 1)) r37.2)
    · refine j_iload_n dX3_stepsToAll_64 rfl rfl ?_
      exact j_ireturn dX3_stepsToAll_65 rfl rfl (Nat.zero_le _) (Nat.zero_le _)

set_option maxRecDepth 100000 in
theorem cPa_stepsToAll_J {l : Launch} {H : Hp} (o : Int) (ho : isPaper o) (a1 : Int) (a2 : Int) (G : Hp) : J l M_cPa_stepsToAll (KWi (fun g => fu g H)) (cPa_stepsToAll o a1 a2 G) 0 [(2, o), (0, a1), (0, a2), (9, 0), (9, 0), (9, 0), (9, 0)] [] 224 (fu G H) (0, 0) := by
  unfold cPa_stepsToAll
  refine j_iconst dX3_stepsToAll_0 r32_0 ?_
  refine j_istore_n dX3_stepsToAll_1 rfl (Nat.le_of_ble_eq_true rfl) rfl ?_
  refine j_iconst dX3_stepsToAll_2 r32_0 ?_
  refine j_istore dX3_stepsToAll_3 (Nat.le_of_ble_eq_true rfl) rfl ?_
  exact j_mask [true, true, true, true, true, false, false] rfl (cPa_stepsToAll_L5_J o ho a1 a2 FU 0 0 G)

set_option maxRecDepth 100000 in
theorem cPa_stepsToAll_ct {l : Launch} {H : Hp} (o : Int) (ho : isPaper o) (a1 : Int) (a2 : Int) (G : Hp) {r : Int × Hp} (h : cPa_stepsToAll o a1 a2 G = some r) : Ct l M_cPa_stepsToAll [(2, o), (0, a1), (0, a2)] 224 (fu G H) ((KWi (fun g => fu g H)) r) :=
  ct_of_J (by decide +kernel) rfl (Nat.le_of_ble_eq_true rfl) (cPa_stepsToAll_J o ho a1 a2 G) h
set_option maxRecDepth 100000 in
theorem cX_median_L42_J {l : Launch} {H : Hp} (a1 : Int) (a2 : Int) (a3 : Int) (x4_42 : Int) (hx4_42 : isPaper x4_42) (k80 : Int → Int → Hp → Option (Int × Hp)) (hk80 : ∀ (x5_80 : Int) (x6_80 : Int) (G_80 : Hp), J l M_cX_median (KWi (fun g => fu g H)) (k80 x5_80 x6_80 G_80) 80 [(9, 0), (9, 0), (9, 0), (0, a3), (9, 0), (0, x5_80), (0, x6_80), (9, 0), (9, 0)] [] 224 (fu G_80 H) (0, 0)) : ∀ (n_42 : Nat) (x5_42 : Int) (x6_42 : Int) (x7_42 : Int) (G_42 : Hp), J l M_cX_median (KWi (fun g => fu g H)) (cX_median_L42 a1 a2 a3 x4_42 k80 n_42 x5_42 x6_42 x7_42 G_42) 42 [(9, 0), (9, 0), (0, a2), (0, a3), (2, x4_42), (0, x5_42), (0, x6_42), (0, x7_42), (9, 0)] [] 224 (fu G_42 H) (0, 0) := by
  intro n_42
  induction n_42 with
  | zero =>
    intro x5_42 x6_42 x7_42 G_42
    exact j_none
  | succ n_42 ih =>
    intro x5_42 x6_42 x7_42 G_42
    rw [cX_median_L42]
    refine j_iload dX10_median_42 rfl ?_
    refine j_bipush dX10_median_44 r32_10 bp_10 ?_
    refine j_icmp_ge (tgt := 80) dX10_median_46 rfl (fun h46 => ?_) (fun h46 => ?_)
    · refine j_aload dX10_median_49 rfl ?_
      refine j_iload dX10_median_51 rfl ?_
      refine j_iload_n dX10_median_53 rfl rfl ?_
      refine j_cVWi dX10_median_54 im_cPa_stepsToAll lk_X10_377 rfl (As := [(0, x7_42), (0, a2)]) (S := []) rfl (oc_paper hx4_42).1 ⟨by decide, by decide⟩ (Nat.le_of_ble_eq_true rfl) (fun r hr => cPa_stepsToAll_ct x4_42 hx4_42 x7_42 a2 G_42 hr) (fun r54 _ => ?_)
      refine j_istore dX10_median_57 (Nat.le_of_ble_eq_true rfl) rfl ?_
      refine j_iload dX10_median_59 rfl ?_
      refine j_iload dX10_median_61 rfl ?_
      refine j_icmp_ge (tgt := 74) dX10_median_63 rfl (fun h63 => ?_) (fun h63 => ?_)
      · refine j_iload dX10_median_66 rfl ?_
        refine j_istore dX10_median_68 (Nat.le_of_ble_eq_true rfl) rfl ?_
        refine j_iload dX10_median_70 rfl ?_
        refine j_istore dX10_median_72 (Nat.le_of_ble_eq_true rfl) rfl ?_
        refine j_iinc dX10_median_74 rfl (Nat.le_of_ble_eq_true rfl) rfl ?_
        refine j_goto (tgt := 42) dX10_median_77 rfl ?_
        exact j_mask [false, false, true, true, true, true, true, true, false] rfl (ih x7_42 r54.1 (w32 (x7_42 + 1)) r54.2)
      · refine j_iinc dX10_median_74 rfl (Nat.le_of_ble_eq_true rfl) rfl ?_
        refine j_goto (tgt := 42) dX10_median_77 rfl ?_
        exact j_mask [false, false, true, true, true, true, true, true, false] rfl (ih x5_42 x6_42 (w32 (x7_42 + 1)) r54.2)
    · exact j_mask [false, false, false, true, false, true, true, false, false] rfl (hk80 x5_42 x6_42 G_42)

set_option maxRecDepth 100000 in
theorem cX_median_J {l : Launch} {H : Hp} (a1 : Int) (a2 : Int) (a3 : Int) (G : Hp) : J l M_cX_median (KWi (fun g => fu g H)) (cX_median a1 a2 a3 G) 0 [(2, 0), (0, a1), (0, a2), (0, a3), (9, 0), (9, 0), (9, 0), (9, 0), (9, 0)] [] 224 (fu G H) (0, 0) := by
  unfold cX_median
  refine j_aload_n dX10_median_0 rfl rfl ?_
  refine j_iload_n dX10_median_1 rfl rfl ?_
  refine j_cVRr dX10_median_2 im_cX_paperAt lk_X10_124 rfl (As := [(0, a1)]) (S := []) rfl oc_0.1 ⟨by decide, by decide⟩ (Nat.le_of_ble_eq_true rfl) (fun r hr => cX_paperAt_ct a1 G hr) (fun v2 hv2 => ?_)
  refine j_astore dX10_median_5 (Nat.le_of_ble_eq_true rfl) rfl ?_
  refine j_aload dX10_median_7 rfl ?_
  refine j_ifnull (tgt := 25) dX10_median_9 rfl (fun h9 => ?_) (fun h9 => ?_)
  · refine j_iconst dX10_median_25 r32_m1 ?_
    exact j_ireturn dX10_median_26 rfl rfl (Nat.zero_le _) (Nat.zero_le _)
  · refine j_iload_n dX10_median_12 rfl rfl ?_
    refine j_if_lt (tgt := 25) dX10_median_13 rfl (fun h13 => ?_) (fun h13 => ?_)
    · refine j_iconst dX10_median_25 r32_m1 ?_
      exact j_ireturn dX10_median_26 rfl rfl (Nat.zero_le _) (Nat.zero_le _)
    · refine j_iload_n dX10_median_16 rfl rfl ?_
      refine j_aload dX10_median_17 rfl ?_
      refine j_gic dX10_median_19 gf_X10_269 (oc_paper (cX_paperAt_ok hv2 h9)) ?_
      refine j_icmp_lt (tgt := 27) dX10_median_22 rfl (fun h22 => ?_) (fun h22 => ?_)
      · refine j_iconst dX10_median_25 r32_m1 ?_
        exact j_ireturn dX10_median_26 rfl rfl (Nat.zero_le _) (Nat.zero_le _)
      · refine j_iconst dX10_median_27 r32_0 ?_
        refine j_istore dX10_median_28 (Nat.le_of_ble_eq_true rfl) rfl ?_
        refine j_aload dX10_median_30 rfl ?_
        refine j_iconst dX10_median_32 r32_0 ?_
        refine j_iload_n dX10_median_33 rfl rfl ?_
        refine j_cVWi dX10_median_34 im_cPa_stepsToAll lk_X10_377 rfl (As := [(0, 0), (0, a2)]) (S := []) rfl (oc_paper (cX_paperAt_ok hv2 h9)).1 ⟨by decide, by decide⟩ (Nat.le_of_ble_eq_true rfl) (fun r hr => cPa_stepsToAll_ct v2 (cX_paperAt_ok hv2 h9) 0 a2 G hr) (fun r34 _ => ?_)
        refine j_istore dX10_median_37 (Nat.le_of_ble_eq_true rfl) rfl ?_
        refine j_iconst dX10_median_39 r32_1 ?_
        refine j_istore dX10_median_40 (Nat.le_of_ble_eq_true rfl) rfl ?_
        refine j_mask [false, false, true, true, true, true, true, true, false] rfl (cX_median_L42_J a1 a2 a3 v2 (cX_paperAt_ok hv2 h9) (fun x5_80 x6_80 G_80 => if a3 = 0 then some (x5_80, G_80) else some (x6_80, G_80)) (fun x5_80 x6_80 G_80 => ?_) FU 0 r34.1 1 r34.2)
        refine j_iload_n dX10_median_80 rfl rfl ?_
        refine j_if_eq (tgt := 89) dX10_median_81 rfl (fun h81 => ?_) (fun h81 => ?_)
        · refine j_iload dX10_median_89 rfl ?_
          exact j_ireturn dX10_median_91 rfl rfl (Nat.zero_le _) (Nat.zero_le _)
        · refine j_iload dX10_median_84 rfl ?_
          refine j_goto (tgt := 91) dX10_median_86 rfl ?_
          exact j_ireturn dX10_median_91 rfl rfl (Nat.zero_le _) (Nat.zero_le _)

set_option maxRecDepth 100000 in
theorem cX_median_ct {l : Launch} {H : Hp} (a1 : Int) (a2 : Int) (a3 : Int) (G : Hp) {r : Int × Hp} (h : cX_median a1 a2 a3 G = some r) : Ct l M_cX_median [(2, 0), (0, a1), (0, a2), (0, a3)] 224 (fu G H) ((KWi (fun g => fu g H)) r) :=
  ct_of_J (by decide +kernel) rfl (Nat.le_of_ble_eq_true rfl) (cX_median_J a1 a2 a3 G) h
set_option maxRecDepth 100000 in
theorem cX_longestRise_L25_J {l : Launch} {H : Hp} (a1 : Int) (ha1 : isPaper a1) (x2_25 : Int) (x3_25 : Int) (G_25 : Hp) (k74 : Int → Option (Int × Hp)) (hk74 : ∀ (x4_74 : Int), J l M_cX_longestRise (KWi (fun g => fu g H)) (k74 x4_74) 74 [(2, 0), (2, a1), (0, x2_25), (0, x3_25), (0, x4_74), (9, 0)] [] 224 (fu G_25 H) (0, 0)) : ∀ (n_25 : Nat) (x4_25 : Int) (x5_25 : Int), J l M_cX_longestRise (KWi (fun g => fu g H)) (cX_longestRise_L25 a1 x2_25 x3_25 G_25 k74 n_25 x4_25 x5_25) 25 [(2, 0), (2, a1), (0, x2_25), (0, x3_25), (0, x4_25), (0, x5_25)] [] 224 (fu G_25 H) (0, 0) := by
  intro n_25
  induction n_25 with
  | zero =>
    intro x4_25 x5_25
    exact j_none
  | succ n_25 ih =>
    intro x4_25 x5_25
    rw [cX_longestRise_L25]
    refine j_iload dX10_longestRise_25 rfl ?_
    refine j_aload_n dX10_longestRise_27 rfl rfl ?_
    refine j_gic dX10_longestRise_28 gf_X10_269 (oc_paper ha1) ?_
    refine j_icmp_ge (tgt := 74) dX10_longestRise_31 rfl (fun h31 => ?_) (fun h31 => ?_)
    · refine j_aload_n dX10_longestRise_34 rfl rfl ?_
      refine j_gic dX10_longestRise_35 gf_X10_248 (oc_paper ha1) ?_
      refine j_iload dX10_longestRise_38 rfl ?_
      refine j_cSRip dX10_longestRise_40 sm_cX_wordAt lk_X10_272 rfl (As := [(0, G_25 a1 0), (0, x5_25)]) (S := []) rfl ⟨by decide, by decide⟩ (Nat.le_of_ble_eq_true rfl) (cX_wordAt_ct (G_25 a1 0) x5_25) ?_
      refine j_aload_n dX10_longestRise_43 rfl rfl ?_
      refine j_gic dX10_longestRise_44 gf_X10_248 (oc_paper ha1) ?_
      refine j_iload_n dX10_longestRise_47 rfl rfl ?_
      refine j_cSRip dX10_longestRise_48 sm_cX_wordAt lk_X10_272 rfl (As := [(0, G_25 a1 0), (0, x3_25)]) (S := [(0, (cX_wordAt (G_25 a1 0) x5_25))]) rfl ⟨by decide, by decide⟩ (Nat.le_of_ble_eq_true rfl) (cX_wordAt_ct (G_25 a1 0) x3_25) ?_
      refine j_icmp_le (tgt := 68) dX10_longestRise_51 rfl (fun h51 => ?_) (fun h51 => ?_)
      · refine j_iload dX10_longestRise_54 rfl ?_
        refine j_aload_n dX10_longestRise_56 rfl rfl ?_
        refine j_grc dX10_longestRise_57 gf_X10_66 oc_0 (Or.inl (by decide)) rf_0_9 ?_
        refine j_iload dX10_longestRise_60 rfl ?_
        refine j_gd (fun h62a h62b => ?_)
        refine j_aic dX10_longestRise_62 oc_91 rfl h62a h62b ?_
        refine j_max dX10_longestRise_63 mm_X10_339 st_max in_Math co_max (Nat.le_of_ble_eq_true rfl) (Nat.le_of_ble_eq_true rfl) (Nat.zero_le _) (Nat.zero_le _) ?_
        refine j_istore dX10_longestRise_66 (Nat.le_of_ble_eq_true rfl) rfl ?_
        refine j_iinc dX10_longestRise_68 rfl (Nat.le_of_ble_eq_true rfl) rfl ?_
        refine j_goto (tgt := 25) dX10_longestRise_71 rfl ?_
        exact j_mask [true, true, true, true, true, true] rfl (ih (max x4_25 (G_25 91 x5_25)) (w32 (x5_25 + 1)))
      · refine j_iinc dX10_longestRise_68 rfl (Nat.le_of_ble_eq_true rfl) rfl ?_
        refine j_goto (tgt := 25) dX10_longestRise_71 rfl ?_
        exact j_mask [true, true, true, true, true, true] rfl (ih x4_25 (w32 (x5_25 + 1)))
    · exact j_mask [true, true, true, true, true, false] rfl (hk74 x4_25)

set_option maxRecDepth 100000 in
theorem cX_longestRise_L13_J {l : Launch} {H : Hp} (a1 : Int) (ha1 : isPaper a1) : ∀ (n_13 : Nat) (x2_13 : Int) (x3_13 : Int) (G_13 : Hp), J l M_cX_longestRise (KWi (fun g => fu g H)) (cX_longestRise_L13 a1  n_13 x2_13 x3_13 G_13) 13 [(2, 0), (2, a1), (0, x2_13), (0, x3_13), (9, 0), (9, 0)] [] 224 (fu G_13 H) (0, 0) := by
  intro n_13
  induction n_13 with
  | zero =>
    intro x2_13 x3_13 G_13
    exact j_none
  | succ n_13 ih =>
    intro x2_13 x3_13 G_13
    rw [cX_longestRise_L13]
    refine j_iload_n dX10_longestRise_13 rfl rfl ?_
    refine j_if_lt (tgt := 101) dX10_longestRise_14 rfl (fun h14 => ?_) (fun h14 => ?_)
    · refine j_iload_n dX10_longestRise_101 rfl rfl ?_
      exact j_ireturn dX10_longestRise_102 rfl rfl (Nat.zero_le _) (Nat.zero_le _)
    · refine j_iconst dX10_longestRise_17 r32_0 ?_
      refine j_istore dX10_longestRise_18 (Nat.le_of_ble_eq_true rfl) rfl ?_
      refine j_iload_n dX10_longestRise_20 rfl rfl ?_
      refine j_iconst dX10_longestRise_21 r32_1 ?_
      refine j_iadd dX10_longestRise_22 ?_
      refine j_istore dX10_longestRise_23 (Nat.le_of_ble_eq_true rfl) rfl ?_
      refine j_mask [true, true, true, true, true, true] rfl (cX_longestRise_L25_J a1 ha1 x2_13 x3_13 G_13 (fun x4_74 => gd x3_13 10 (gd x3_13 10 (cX_longestRise_L13 a1 n_13 (max x2_13 ((upd2 G_13 91 x3_13 (w32 (x4_74 + 1))) 91 x3_13)) (w32 (x3_13 + (-1))) (upd2 G_13 91 x3_13 (w32 (x4_74 + 1)))))) (fun x4_74 => ?_) FU 0 (w32 (x3_13 + 1)))
      refine j_aload_n dX10_longestRise_74 rfl rfl ?_
      refine j_grc dX10_longestRise_75 gf_X10_66 oc_0 (Or.inl (by decide)) rf_0_9 ?_
      refine j_iload_n dX10_longestRise_78 rfl rfl ?_
      refine j_iload dX10_longestRise_79 rfl ?_
      refine j_iconst dX10_longestRise_81 r32_1 ?_
      refine j_iadd dX10_longestRise_82 ?_
      refine j_gd (fun h83a h83b => ?_)
      refine j_sic dX10_longestRise_83 oc_91 rfl h83a h83b ?_
      refine j_iload_n dX10_longestRise_84 rfl rfl ?_
      refine j_aload_n dX10_longestRise_85 rfl rfl ?_
      refine j_grc dX10_longestRise_86 gf_X10_66 oc_0 (Or.inl (by decide)) rf_0_9 ?_
      refine j_iload_n dX10_longestRise_89 rfl rfl ?_
      refine j_gd (fun h90a h90b => ?_)
      refine j_aic dX10_longestRise_90 oc_91 rfl h90a h90b ?_
      refine j_max dX10_longestRise_91 mm_X10_339 st_max in_Math co_max (Nat.le_of_ble_eq_true rfl) (Nat.le_of_ble_eq_true rfl) (Nat.zero_le _) (Nat.zero_le _) ?_
      refine j_istore_n dX10_longestRise_94 rfl (Nat.le_of_ble_eq_true rfl) rfl ?_
      refine j_iinc dX10_longestRise_95 rfl (Nat.le_of_ble_eq_true rfl) rfl ?_
      refine j_goto (tgt := 13) dX10_longestRise_98 rfl ?_
      exact j_mask [true, true, true, true, false, false] rfl (ih (max x2_13 ((upd2 G_13 91 x3_13 (w32 (x4_74 + 1))) 91 x3_13)) (w32 (x3_13 + (-1))) (upd2 G_13 91 x3_13 (w32 (x4_74 + 1))))

set_option maxRecDepth 100000 in
theorem cX_longestRise_J {l : Launch} {H : Hp} (a1 : Int) (ha1 : isPaper a1) (G : Hp) : J l M_cX_longestRise (KWi (fun g => fu g H)) (cX_longestRise a1 G) 0 [(2, 0), (2, a1), (9, 0), (9, 0), (9, 0), (9, 0)] [] 224 (fu G H) (0, 0) := by
  unfold cX_longestRise
  refine j_aload_n dX10_longestRise_0 rfl rfl ?_
  refine j_cVWv dX10_longestRise_1 im_cX_clearRow lk_X10_333 rfl (As := []) (S := []) rfl oc_0.1 ⟨by decide, by decide⟩ (Nat.le_of_ble_eq_true rfl) (fun r hr => cX_clearRow_ct  G hr) (fun G1 _ => ?_)
  refine j_iconst dX10_longestRise_4 r32_0 ?_
  refine j_istore_n dX10_longestRise_5 rfl (Nat.le_of_ble_eq_true rfl) rfl ?_
  refine j_aload_n dX10_longestRise_6 rfl rfl ?_
  refine j_gic dX10_longestRise_7 gf_X10_269 (oc_paper ha1) ?_
  refine j_iconst dX10_longestRise_10 r32_1 ?_
  refine j_isub dX10_longestRise_11 ?_
  refine j_istore_n dX10_longestRise_12 rfl (Nat.le_of_ble_eq_true rfl) rfl ?_
  exact j_mask [true, true, true, true, false, false] rfl (cX_longestRise_L13_J a1 ha1 FU 0 (w32 ((G1 a1 1) - 1)) G1)

set_option maxRecDepth 100000 in
theorem cX_longestRise_ct {l : Launch} {H : Hp} (a1 : Int) (ha1 : isPaper a1) (G : Hp) {r : Int × Hp} (h : cX_longestRise a1 G = some r) : Ct l M_cX_longestRise [(2, 0), (2, a1)] 224 (fu G H) ((KWi (fun g => fu g H)) r) :=
  ct_of_J (by decide +kernel) rfl (Nat.le_of_ble_eq_true rfl) (cX_longestRise_J a1 ha1 G) h
set_option maxRecDepth 100000 in
theorem cPa_bend_L4_J {l : Launch} {H : Hp} (o : Int) (ho : isPaper o) (G : Hp) : ∀ (n_4 : Nat) (x1_4 : Int) (x2_4 : Int), J l M_cPa_bend (KRi (fu G H)) (cPa_bend_L4 o G  n_4 x1_4 x2_4) 4 [(2, o), (0, x1_4), (0, x2_4)] [] 224 (fu G H) (0, 0) := by
  intro n_4
  induction n_4 with
  | zero =>
    intro x1_4 x2_4
    exact j_none
  | succ n_4 ih =>
    intro x1_4 x2_4
    rw [cPa_bend_L4]
    refine j_iload_n dX3_bend_4 rfl rfl ?_
    refine j_aload_n dX3_bend_5 rfl rfl ?_
    refine j_gic dX3_bend_6 gf_X3_32 (oc_paper ho) ?_
    refine j_iconst dX3_bend_9 r32_1 ?_
    refine j_isub dX3_bend_10 ?_
    refine j_iload_n dX3_bend_11 rfl rfl ?_
    refine j_isub dX3_bend_12 ?_
    refine j_icmp_ge (tgt := 56) dX3_bend_13 rfl (fun h13 => ?_) (fun h13 => ?_)
    · refine j_iload_n dX3_bend_16 rfl rfl ?_
      refine j_aload_n dX3_bend_17 rfl rfl ?_
      refine j_gic dX3_bend_18 gf_X3_28 (oc_paper ho) ?_
      refine j_iload_n dX3_bend_21 rfl rfl ?_
      refine j_cSRip dX3_bend_22 sm_cX_wordAt lk_X3_53 rfl (As := [(0, G o 0), (0, x2_4)]) (S := [(0, x1_4)]) rfl ⟨by decide, by decide⟩ (Nat.le_of_ble_eq_true rfl) (cX_wordAt_ct (G o 0) x2_4) ?_
      refine j_aload_n dX3_bend_25 rfl rfl ?_
      refine j_gic dX3_bend_26 gf_X3_28 (oc_paper ho) ?_
      refine j_aload_n dX3_bend_29 rfl rfl ?_
      refine j_gic dX3_bend_30 gf_X3_32 (oc_paper ho) ?_
      refine j_iconst dX3_bend_33 r32_1 ?_
      refine j_isub dX3_bend_34 ?_
      refine j_iload_n dX3_bend_35 rfl rfl ?_
      refine j_isub dX3_bend_36 ?_
      refine j_cSRip dX3_bend_37 sm_cX_wordAt lk_X3_53 rfl (As := [(0, G o 0), (0, w32 ((w32 ((G o 1) - 1)) - x2_4))]) (S := [(0, (cX_wordAt (G o 0) x2_4)), (0, x1_4)]) rfl ⟨by decide, by decide⟩ (Nat.le_of_ble_eq_true rfl) (cX_wordAt_ct (G o 0) (w32 ((w32 ((G o 1) - 1)) - x2_4))) ?_
      refine j_icmp_eq (tgt := 47) dX3_bend_40 rfl (fun h40 => ?_) (fun h40 => ?_)
      · refine j_iconst dX3_bend_47 r32_0 ?_
        refine j_iadd dX3_bend_48 ?_
        refine j_istore_n dX3_bend_49 rfl (Nat.le_of_ble_eq_true rfl) rfl ?_
        refine j_iinc dX3_bend_50 rfl (Nat.le_of_ble_eq_true rfl) rfl ?_
        refine j_goto (tgt := 4) dX3_bend_53 rfl ?_
        exact j_mask [true, true, true] rfl (ih (w32 (x1_4 + 0)) (w32 (x2_4 + 1)))
      · refine j_iconst dX3_bend_43 r32_1 ?_
        refine j_goto (tgt := 48) dX3_bend_44 rfl ?_
        refine j_iadd dX3_bend_48 ?_
        refine j_istore_n dX3_bend_49 rfl (Nat.le_of_ble_eq_true rfl) rfl ?_
        refine j_iinc dX3_bend_50 rfl (Nat.le_of_ble_eq_true rfl) rfl ?_
        refine j_goto (tgt := 4) dX3_bend_53 rfl ?_
        exact j_mask [true, true, true] rfl (ih (w32 (x1_4 + 1)) (w32 (x2_4 + 1)))
    · refine j_iload_n dX3_bend_56 rfl rfl ?_
      exact j_ireturn dX3_bend_57 rfl rfl (Nat.zero_le _) (Nat.zero_le _)

set_option maxRecDepth 100000 in
theorem cPa_bend_J {l : Launch} {H : Hp} (o : Int) (ho : isPaper o) (G : Hp) : J l M_cPa_bend (KRi (fu G H)) (cPa_bend o G) 0 [(2, o), (9, 0), (9, 0)] [] 224 (fu G H) (0, 0) := by
  unfold cPa_bend
  refine j_iconst dX3_bend_0 r32_0 ?_
  refine j_istore_n dX3_bend_1 rfl (Nat.le_of_ble_eq_true rfl) rfl ?_
  refine j_iconst dX3_bend_2 r32_0 ?_
  refine j_istore_n dX3_bend_3 rfl (Nat.le_of_ble_eq_true rfl) rfl ?_
  exact j_mask [true, true, true] rfl (cPa_bend_L4_J o ho G FU 0 0)

set_option maxRecDepth 100000 in
theorem cPa_bend_ct {l : Launch} {H : Hp} (o : Int) (ho : isPaper o) (G : Hp) {r : Int} (h : cPa_bend o G = some r) : Ct l M_cPa_bend [(2, o)] 224 (fu G H) ((KRi (fu G H)) r) :=
  ct_of_J (by decide +kernel) rfl (Nat.le_of_ble_eq_true rfl) (cPa_bend_J o ho G) h
set_option maxRecDepth 100000 in
theorem cPa_alikeFrom_L2_J {l : Launch} {H : Hp} (o : Int) (ho : isPaper o) (a1 : Int) (a2 : Int) (G : Hp) : ∀ (n_2 : Nat) (x3_2 : Int), J l M_cPa_alikeFrom (KRi (fu G H)) (cPa_alikeFrom_L2 o a1 a2 G  n_2 x3_2) 2 [(2, o), (0, a1), (0, a2), (0, x3_2)] [] 224 (fu G H) (0, 0) := by
  intro n_2
  induction n_2 with
  | zero =>
    intro x3_2
    exact j_none
  | succ n_2 ih =>
    intro x3_2
    rw [cPa_alikeFrom_L2]
    refine j_iload_n dX3_alikeFrom_2 rfl rfl ?_
    refine j_iload_n dX3_alikeFrom_3 rfl rfl ?_
    refine j_iadd dX3_alikeFrom_4 ?_
    refine j_aload_n dX3_alikeFrom_5 rfl rfl ?_
    refine j_gic dX3_alikeFrom_6 gf_X3_32 (oc_paper ho) ?_
    refine j_icmp_ge (tgt := 41) dX3_alikeFrom_9 rfl (fun h9 => ?_) (fun h9 => ?_)
    · refine j_aload_n dX3_alikeFrom_12 rfl rfl ?_
      refine j_gic dX3_alikeFrom_13 gf_X3_28 (oc_paper ho) ?_
      refine j_iload_n dX3_alikeFrom_16 rfl rfl ?_
      refine j_iload_n dX3_alikeFrom_17 rfl rfl ?_
      refine j_iadd dX3_alikeFrom_18 ?_
      refine j_cSRip dX3_alikeFrom_19 sm_cX_wordAt lk_X3_53 rfl (As := [(0, G o 0), (0, w32 (a1 + x3_2))]) (S := []) rfl ⟨by decide, by decide⟩ (Nat.le_of_ble_eq_true rfl) (cX_wordAt_ct (G o 0) (w32 (a1 + x3_2))) ?_
      refine j_aload_n dX3_alikeFrom_22 rfl rfl ?_
      refine j_gic dX3_alikeFrom_23 gf_X3_28 (oc_paper ho) ?_
      refine j_iload_n dX3_alikeFrom_26 rfl rfl ?_
      refine j_iload_n dX3_alikeFrom_27 rfl rfl ?_
      refine j_iadd dX3_alikeFrom_28 ?_
      refine j_cSRip dX3_alikeFrom_29 sm_cX_wordAt lk_X3_53 rfl (As := [(0, G o 0), (0, w32 (a2 + x3_2))]) (S := [(0, (cX_wordAt (G o 0) (w32 (a1 + x3_2))))]) rfl ⟨by decide, by decide⟩ (Nat.le_of_ble_eq_true rfl) (cX_wordAt_ct (G o 0) (w32 (a2 + x3_2))) ?_
      refine j_icmp_ne (tgt := 41) dX3_alikeFrom_32 rfl (fun h32 => ?_) (fun h32 => ?_)
      · refine j_iinc dX3_alikeFrom_35 rfl (Nat.le_of_ble_eq_true rfl) rfl ?_
        refine j_goto (tgt := 2) dX3_alikeFrom_38 rfl ?_
        exact j_mask [true, true, true, true] rfl (ih (w32 (x3_2 + 1)))
      · refine j_iload_n dX3_alikeFrom_41 rfl rfl ?_
        exact j_ireturn dX3_alikeFrom_42 rfl rfl (Nat.zero_le _) (Nat.zero_le _)
    · refine j_iload_n dX3_alikeFrom_41 rfl rfl ?_
      exact j_ireturn dX3_alikeFrom_42 rfl rfl (Nat.zero_le _) (Nat.zero_le _)

set_option maxRecDepth 100000 in
theorem cPa_alikeFrom_J {l : Launch} {H : Hp} (o : Int) (ho : isPaper o) (a1 : Int) (a2 : Int) (G : Hp) : J l M_cPa_alikeFrom (KRi (fu G H)) (cPa_alikeFrom o a1 a2 G) 0 [(2, o), (0, a1), (0, a2), (9, 0)] [] 224 (fu G H) (0, 0) := by
  unfold cPa_alikeFrom
  refine j_iconst dX3_alikeFrom_0 r32_0 ?_
  refine j_istore_n dX3_alikeFrom_1 rfl (Nat.le_of_ble_eq_true rfl) rfl ?_
  exact j_mask [true, true, true, true] rfl (cPa_alikeFrom_L2_J o ho a1 a2 G FU 0)

set_option maxRecDepth 100000 in
theorem cPa_alikeFrom_ct {l : Launch} {H : Hp} (o : Int) (ho : isPaper o) (a1 : Int) (a2 : Int) (G : Hp) {r : Int} (h : cPa_alikeFrom o a1 a2 G = some r) : Ct l M_cPa_alikeFrom [(2, o), (0, a1), (0, a2)] 224 (fu G H) ((KRi (fu G H)) r) :=
  ct_of_J (by decide +kernel) rfl (Nat.le_of_ble_eq_true rfl) (cPa_alikeFrom_J o ho a1 a2 G) h
set_option maxRecDepth 100000 in
theorem cPa_twice_L16_J {l : Launch} {H : Hp} (o : Int) (ho : isPaper o) (G : Hp) (x2_16 : Int) (k41 : Int → Option (Int)) (hk41 : ∀ (x1_41 : Int), J l M_cPa_twice (KRi (fu G H)) (k41 x1_41) 41 [(2, o), (0, x1_41), (0, x2_16), (9, 0)] [] 224 (fu G H) (0, 0)) : ∀ (n_16 : Nat) (x1_16 : Int) (x3_16 : Int), J l M_cPa_twice (KRi (fu G H)) (cPa_twice_L16 o G x2_16 k41 n_16 x1_16 x3_16) 16 [(2, o), (0, x1_16), (0, x2_16), (0, x3_16)] [] 224 (fu G H) (0, 0) := by
  intro n_16
  induction n_16 with
  | zero =>
    intro x1_16 x3_16
    exact j_none
  | succ n_16 ih =>
    intro x1_16 x3_16
    rw [cPa_twice_L16]
    refine j_iload_n dX3_twice_16 rfl rfl ?_
    refine j_aload_n dX3_twice_17 rfl rfl ?_
    refine j_gic dX3_twice_18 gf_X3_32 (oc_paper ho) ?_
    refine j_icmp_ge (tgt := 41) dX3_twice_21 rfl (fun h21 => ?_) (fun h21 => ?_)
    · refine j_iload_n dX3_twice_24 rfl rfl ?_
      refine j_aload_n dX3_twice_25 rfl rfl ?_
      refine j_iload_n dX3_twice_26 rfl rfl ?_
      refine j_iload_n dX3_twice_27 rfl rfl ?_
      refine j_cVRi dX3_twice_28 im_cPa_alikeFrom lk_X3_92 rfl (As := [(0, x2_16), (0, x3_16)]) (S := [(0, x1_16)]) rfl (oc_paper ho).1 ⟨by decide, by decide⟩ (Nat.le_of_ble_eq_true rfl) (fun r hr => cPa_alikeFrom_ct o ho x2_16 x3_16 G hr) (fun v28 _ => ?_)
      refine j_max dX3_twice_31 mm_X3_83 st_max in_Math co_max (Nat.le_of_ble_eq_true rfl) (Nat.le_of_ble_eq_true rfl) (Nat.zero_le _) (Nat.zero_le _) ?_
      refine j_istore_n dX3_twice_34 rfl (Nat.le_of_ble_eq_true rfl) rfl ?_
      refine j_iinc dX3_twice_35 rfl (Nat.le_of_ble_eq_true rfl) rfl ?_
      refine j_goto (tgt := 16) dX3_twice_38 rfl ?_
      exact j_mask [true, true, true, true] rfl (ih (max x1_16 v28) (w32 (x3_16 + 1)))
    · exact j_mask [true, true, true, false] rfl (hk41 x1_16)

set_option maxRecDepth 100000 in
theorem cPa_twice_L4_J {l : Launch} {H : Hp} (o : Int) (ho : isPaper o) (G : Hp) : ∀ (n_4 : Nat) (x1_4 : Int) (x2_4 : Int), J l M_cPa_twice (KRi (fu G H)) (cPa_twice_L4 o G  n_4 x1_4 x2_4) 4 [(2, o), (0, x1_4), (0, x2_4), (9, 0)] [] 224 (fu G H) (0, 0) := by
  intro n_4
  induction n_4 with
  | zero =>
    intro x1_4 x2_4
    exact j_none
  | succ n_4 ih =>
    intro x1_4 x2_4
    rw [cPa_twice_L4]
    refine j_iload_n dX3_twice_4 rfl rfl ?_
    refine j_aload_n dX3_twice_5 rfl rfl ?_
    refine j_gic dX3_twice_6 gf_X3_32 (oc_paper ho) ?_
    refine j_icmp_ge (tgt := 47) dX3_twice_9 rfl (fun h9 => ?_) (fun h9 => ?_)
    · refine j_iload_n dX3_twice_12 rfl rfl ?_
      refine j_iconst dX3_twice_13 r32_1 ?_
      refine j_iadd dX3_twice_14 ?_
      refine j_istore_n dX3_twice_15 rfl (Nat.le_of_ble_eq_true rfl) rfl ?_
      refine j_mask [true, true, true, true] rfl (cPa_twice_L16_J o ho G x2_4 (fun x1_41 => cPa_twice_L4 o G n_4 x1_41 (w32 (x2_4 + 1))) (fun x1_41 => ?_) FU x1_4 (w32 (x2_4 + 1)))
      refine j_iinc dX3_twice_41 rfl (Nat.le_of_ble_eq_true rfl) rfl ?_
      refine j_goto (tgt := 4) dX3_twice_44 rfl ?_
      exact j_mask [true, true, true, false] rfl (ih x1_41 (w32 (x2_4 + 1)))
    · refine j_iload_n dX3_twice_47 rfl rfl ?_
      exact j_ireturn dX3_twice_48 rfl rfl (Nat.zero_le _) (Nat.zero_le _)

set_option maxRecDepth 100000 in
theorem cPa_twice_J {l : Launch} {H : Hp} (o : Int) (ho : isPaper o) (G : Hp) : J l M_cPa_twice (KRi (fu G H)) (cPa_twice o G) 0 [(2, o), (9, 0), (9, 0), (9, 0)] [] 224 (fu G H) (0, 0) := by
  unfold cPa_twice
  refine j_iconst dX3_twice_0 r32_0 ?_
  refine j_istore_n dX3_twice_1 rfl (Nat.le_of_ble_eq_true rfl) rfl ?_
  refine j_iconst dX3_twice_2 r32_0 ?_
  refine j_istore_n dX3_twice_3 rfl (Nat.le_of_ble_eq_true rfl) rfl ?_
  exact j_mask [true, true, true, false] rfl (cPa_twice_L4_J o ho G FU 0 0)

set_option maxRecDepth 100000 in
theorem cPa_twice_ct {l : Launch} {H : Hp} (o : Int) (ho : isPaper o) (G : Hp) {r : Int} (h : cPa_twice o G = some r) : Ct l M_cPa_twice [(2, o)] 224 (fu G H) ((KRi (fu G H)) r) :=
  ct_of_J (by decide +kernel) rfl (Nat.le_of_ble_eq_true rfl) (cPa_twice_J o ho G) h
set_option maxRecDepth 100000 in
theorem cX_countWords_L6_J {l : Launch} {H : Hp} (a1 : Int) (ha1 : isPaper a1) : ∀ (n_6 : Nat) (x2_6 : Int) (G_6 : Hp), J l M_cX_countWords (KWv (fun g => fu g H)) (cX_countWords_L6 a1  n_6 x2_6 G_6) 6 [(2, 0), (2, a1), (0, x2_6), (9, 0)] [] 224 (fu G_6 H) (0, 0) := by
  intro n_6
  induction n_6 with
  | zero =>
    intro x2_6 G_6
    exact j_none
  | succ n_6 ih =>
    intro x2_6 G_6
    rw [cX_countWords_L6]
    refine j_iload_n dX10_countWords_6 rfl rfl ?_
    refine j_aload_n dX10_countWords_7 rfl rfl ?_
    refine j_gic dX10_countWords_8 gf_X10_269 (oc_paper ha1) ?_
    refine j_icmp_ge (tgt := 45) dX10_countWords_11 rfl (fun h11 => ?_) (fun h11 => ?_)
    · refine j_aload_n dX10_countWords_14 rfl rfl ?_
      refine j_gic dX10_countWords_15 gf_X10_248 (oc_paper ha1) ?_
      refine j_iload_n dX10_countWords_18 rfl rfl ?_
      refine j_cSRip dX10_countWords_19 sm_cX_wordAt lk_X10_272 rfl (As := [(0, G_6 a1 0), (0, x2_6)]) (S := []) rfl ⟨by decide, by decide⟩ (Nat.le_of_ble_eq_true rfl) (cX_wordAt_ct (G_6 a1 0) x2_6) ?_
      refine j_istore_n dX10_countWords_22 rfl (Nat.le_of_ble_eq_true rfl) rfl ?_
      refine j_iload_n dX10_countWords_23 rfl rfl ?_
      refine j_bipush dX10_countWords_24 r32_10 bp_10 ?_
      refine j_icmp_ge (tgt := 39) dX10_countWords_26 rfl (fun h26 => ?_) (fun h26 => ?_)
      · refine j_aload_n dX10_countWords_29 rfl rfl ?_
        refine j_grc dX10_countWords_30 gf_X10_66 oc_0 (Or.inl (by decide)) rf_0_9 ?_
        refine j_iload_n dX10_countWords_33 rfl rfl ?_
        refine j_dup2 dX10_countWords_34 (by decide) (by decide) ?_
        refine j_gd (fun h35a h35b => ?_)
        refine j_aic dX10_countWords_35 oc_91 rfl h35a h35b ?_
        refine j_iconst dX10_countWords_36 r32_1 ?_
        refine j_iadd dX10_countWords_37 ?_
        refine j_gd (fun h38a h38b => ?_)
        refine j_sic dX10_countWords_38 oc_91 rfl h38a h38b ?_
        refine j_iinc dX10_countWords_39 rfl (Nat.le_of_ble_eq_true rfl) rfl ?_
        refine j_goto (tgt := 6) dX10_countWords_42 rfl ?_
        exact j_mask [true, true, true, false] rfl (ih (w32 (x2_6 + 1)) (upd2 G_6 91 (cX_wordAt (G_6 a1 0) x2_6) (w32 ((G_6 91 (cX_wordAt (G_6 a1 0) x2_6)) + 1))))
      · refine j_iinc dX10_countWords_39 rfl (Nat.le_of_ble_eq_true rfl) rfl ?_
        refine j_goto (tgt := 6) dX10_countWords_42 rfl ?_
        exact j_mask [true, true, true, false] rfl (ih (w32 (x2_6 + 1)) G_6)
    · exact j_return dX10_countWords_45 rfl rfl (Nat.zero_le _) (Nat.zero_le _)

set_option maxRecDepth 100000 in
theorem cX_countWords_J {l : Launch} {H : Hp} (a1 : Int) (ha1 : isPaper a1) (G : Hp) : J l M_cX_countWords (KWv (fun g => fu g H)) (cX_countWords a1 G) 0 [(2, 0), (2, a1), (9, 0), (9, 0)] [] 224 (fu G H) (0, 0) := by
  unfold cX_countWords
  refine j_aload_n dX10_countWords_0 rfl rfl ?_
  refine j_cVWv dX10_countWords_1 im_cX_clearRow lk_X10_333 rfl (As := []) (S := []) rfl oc_0.1 ⟨by decide, by decide⟩ (Nat.le_of_ble_eq_true rfl) (fun r hr => cX_clearRow_ct  G hr) (fun G1 _ => ?_)
  refine j_iconst dX10_countWords_4 r32_0 ?_
  refine j_istore_n dX10_countWords_5 rfl (Nat.le_of_ble_eq_true rfl) rfl ?_
  exact j_mask [true, true, true, false] rfl (cX_countWords_L6_J a1 ha1 FU 0 G1)

set_option maxRecDepth 100000 in
theorem cX_countWords_ct {l : Launch} {H : Hp} (a1 : Int) (ha1 : isPaper a1) (G : Hp) {r : Hp} (h : cX_countWords a1 G = some r) : Ct l M_cX_countWords [(2, 0), (2, a1)] 224 (fu G H) ((KWv (fun g => fu g H)) r) :=
  ct_of_J (by decide +kernel) rfl (Nat.le_of_ble_eq_true rfl) (cX_countWords_J a1 ha1 G) h
