set_option maxRecDepth 100000 in
theorem cTo_append_L3_J {l : Launch} {H : Hp} (o : Int) (ho : isTold o) (a1 : Int) : ∀ (n_3 : Nat) (x2_3 : Int) (G_3 : Hp), J l M_cTo_append (KWv (fun g => fu g H)) (cTo_append_L3 o a1  n_3 x2_3 G_3) 3 [(2, o), (0, a1), (0, x2_3)] [] 224 (fu G_3 H) (0, 0) := by
  intro n_3
  induction n_3 with
  | zero =>
    intro x2_3 G_3
    exact j_none
  | succ n_3 ih =>
    intro x2_3 G_3
    rw [cTo_append_L3]
    refine j_iload_n dX8_append_3 rfl rfl ?_
    refine j_if_lt (tgt := 46) dX8_append_4 rfl (fun h4 => ?_) (fun h4 => ?_)
    · exact j_return dX8_append_46 rfl rfl (Nat.zero_le _) (Nat.zero_le _)
    · refine j_aload_n dX8_append_7 rfl rfl ?_
      refine j_gic dX8_append_8 gf_X8_44 (oc_told ho) ?_
      refine j_sipush dX8_append_11 r32_600 sp_600 ?_
      refine j_icmp_ge (tgt := 46) dX8_append_14 rfl (fun h14 => ?_) (fun h14 => ?_)
      · refine j_aload_n dX8_append_17 rfl rfl ?_
        refine j_grc dX8_append_18 gf_X8_9 (oc_told ho) (Or.inl (by decide)) (rf_told_0 ho) ?_
        refine j_aload_n dX8_append_21 rfl rfl ?_
        refine j_gic dX8_append_22 gf_X8_44 (oc_told ho) ?_
        refine j_iload_n dX8_append_25 rfl rfl ?_
        refine j_iload_n dX8_append_26 rfl rfl ?_
        refine j_iushr dX8_append_27 ?_
        refine j_i2b dX8_append_28 ?_
        refine j_gd (fun h29a h29b => ?_)
        refine j_sbc dX8_append_29 (oc_told_1 ho) rfl (w8_b _) h29a h29b ?_
        refine j_aload_n dX8_append_30 rfl rfl ?_
        refine j_dup dX8_append_31 (by decide) ?_
        refine j_gic dX8_append_32 gf_X8_44 (oc_told ho) ?_
        refine j_iconst dX8_append_35 r32_1 ?_
        refine j_iadd dX8_append_36 ?_
        refine j_pic dX8_append_37 gf_X8_44 po_8_1 (oc_told ho) (nf_8_1 _) ?_
        refine j_iinc dX8_append_40 rfl (Nat.le_of_ble_eq_true rfl) rfl ?_
        refine j_goto (tgt := 3) dX8_append_43 rfl ?_
        exact j_mask [true, true, true] rfl (ih (w32 (x2_3 + (-8))) (upd2 (upd2 G_3 (o + 1) (G_3 o 1) (w8 (iushr a1 x2_3))) o 1 (w32 (((upd2 G_3 (o + 1) (G_3 o 1) (w8 (iushr a1 x2_3))) o 1) + 1))))
      · exact j_return dX8_append_46 rfl rfl (Nat.zero_le _) (Nat.zero_le _)

set_option maxRecDepth 100000 in
theorem cTo_append_J {l : Launch} {H : Hp} (o : Int) (ho : isTold o) (a1 : Int) (G : Hp) : J l M_cTo_append (KWv (fun g => fu g H)) (cTo_append o a1 G) 0 [(2, o), (0, a1), (9, 0)] [] 224 (fu G H) (0, 0) := by
  unfold cTo_append
  refine j_bipush dX8_append_0 r32_24 bp_24 ?_
  refine j_istore_n dX8_append_2 rfl (Nat.le_of_ble_eq_true rfl) rfl ?_
  exact j_mask [true, true, true] rfl (cTo_append_L3_J o ho a1 FU 24 G)

set_option maxRecDepth 100000 in
theorem cTo_append_ct {l : Launch} {H : Hp} (o : Int) (ho : isTold o) (a1 : Int) (G : Hp) {r : Hp} (h : cTo_append o a1 G = some r) : Ct l M_cTo_append [(2, o), (0, a1)] 224 (fu G H) ((KWv (fun g => fu g H)) r) :=
  ct_of_J (by decide +kernel) rfl (Nat.le_of_ble_eq_true rfl) (cTo_append_J o ho a1 G) h
set_option maxRecDepth 100000 in
theorem cX_feed_J {l : Launch} {H : Hp} (a1 : Int) (a2 : Int) (a3 : Int) (a4 : Int) (a5 : Int) (G : Hp) : J l M_cX_feed (KWi (fun g => fu g H)) (cX_feed a1 a2 a3 a4 a5 G) 0 [(2, 0), (0, a1), (0, a2), (0, a3), (0, a4), (0, a5)] [] 224 (fu G H) (0, 0) := by
  unfold cX_feed
  refine j_aload_n dX10_feed_0 rfl rfl ?_
  refine j_grc dX10_feed_1 gf_X10_10 oc_0 (Or.inl (by decide)) rf_0_0 ?_
  refine j_gic dX10_feed_4 gf_X10_73 oc_1 ?_
  refine j_bipush dX10_feed_7 r32_20 bp_20 ?_
  refine j_iadd dX10_feed_9 ?_
  refine j_sipush dX10_feed_10 r32_600 sp_600 ?_
  refine j_icmp_le (tgt := 18) dX10_feed_13 rfl (fun h13 => ?_) (fun h13 => ?_)
  · refine j_iconst dX10_feed_16 r32_m1 ?_
    exact j_ireturn dX10_feed_17 rfl rfl (Nat.zero_le _) (Nat.zero_le _)
  · refine j_aload_n dX10_feed_18 rfl rfl ?_
    refine j_grc dX10_feed_19 gf_X10_10 oc_0 (Or.inl (by decide)) rf_0_0 ?_
    refine j_iload_n dX10_feed_22 rfl rfl ?_
    refine j_cVWv dX10_feed_23 im_cTo_append lk_X10_77 rfl (As := [(0, a1)]) (S := []) rfl oc_1.1 ⟨by decide, by decide⟩ (Nat.le_of_ble_eq_true rfl) (fun r hr => cTo_append_ct 1 isTold_1 a1 G hr) (fun G23 _ => ?_)
    refine j_aload_n dX10_feed_26 rfl rfl ?_
    refine j_grc dX10_feed_27 gf_X10_10 oc_0 (Or.inl (by decide)) rf_0_0 ?_
    refine j_iload_n dX10_feed_30 rfl rfl ?_
    refine j_cVWv dX10_feed_31 im_cTo_append lk_X10_77 rfl (As := [(0, a2)]) (S := []) rfl oc_1.1 ⟨by decide, by decide⟩ (Nat.le_of_ble_eq_true rfl) (fun r hr => cTo_append_ct 1 isTold_1 a2 G23 hr) (fun G31 _ => ?_)
    refine j_aload_n dX10_feed_34 rfl rfl ?_
    refine j_grc dX10_feed_35 gf_X10_10 oc_0 (Or.inl (by decide)) rf_0_0 ?_
    refine j_iload_n dX10_feed_38 rfl rfl ?_
    refine j_cVWv dX10_feed_39 im_cTo_append lk_X10_77 rfl (As := [(0, a3)]) (S := []) rfl oc_1.1 ⟨by decide, by decide⟩ (Nat.le_of_ble_eq_true rfl) (fun r hr => cTo_append_ct 1 isTold_1 a3 G31 hr) (fun G39 _ => ?_)
    refine j_aload_n dX10_feed_42 rfl rfl ?_
    refine j_grc dX10_feed_43 gf_X10_10 oc_0 (Or.inl (by decide)) rf_0_0 ?_
    refine j_iload dX10_feed_46 rfl ?_
    refine j_cVWv dX10_feed_48 im_cTo_append lk_X10_77 rfl (As := [(0, a4)]) (S := []) rfl oc_1.1 ⟨by decide, by decide⟩ (Nat.le_of_ble_eq_true rfl) (fun r hr => cTo_append_ct 1 isTold_1 a4 G39 hr) (fun G48 _ => ?_)
    refine j_aload_n dX10_feed_51 rfl rfl ?_
    refine j_grc dX10_feed_52 gf_X10_10 oc_0 (Or.inl (by decide)) rf_0_0 ?_
    refine j_iload dX10_feed_55 rfl ?_
    refine j_cVWv dX10_feed_57 im_cTo_append lk_X10_77 rfl (As := [(0, a5)]) (S := []) rfl oc_1.1 ⟨by decide, by decide⟩ (Nat.le_of_ble_eq_true rfl) (fun r hr => cTo_append_ct 1 isTold_1 a5 G48 hr) (fun G57 _ => ?_)
    refine j_aload_n dX10_feed_60 rfl rfl ?_
    refine j_grc dX10_feed_61 gf_X10_10 oc_0 (Or.inl (by decide)) rf_0_0 ?_
    refine j_gic dX10_feed_64 gf_X10_73 oc_1 ?_
    exact j_ireturn dX10_feed_67 rfl rfl (Nat.zero_le _) (Nat.zero_le _)

set_option maxRecDepth 100000 in
theorem cX_feed_ct {l : Launch} {H : Hp} (a1 : Int) (a2 : Int) (a3 : Int) (a4 : Int) (a5 : Int) (G : Hp) {r : Int × Hp} (h : cX_feed a1 a2 a3 a4 a5 G = some r) : Ct l M_cX_feed [(2, 0), (0, a1), (0, a2), (0, a3), (0, a4), (0, a5)] 224 (fu G H) ((KWi (fun g => fu g H)) r) :=
  ct_of_J (by decide +kernel) rfl (Nat.le_of_ble_eq_true rfl) (cX_feed_J a1 a2 a3 a4 a5 G) h
set_option maxRecDepth 100000 in
theorem cX_end_J {l : Launch} {H : Hp} (a1 : Int) (G : Hp) : J l M_cX_end (KWi (fun g => fu g H)) (cX_end a1 G) 0 [(2, 0), (0, a1)] [] 224 (fu G H) (0, 0) := by
  unfold cX_end
  refine j_iload_n dX10_end_0 rfl rfl ?_
  refine j_if_lt (tgt := 15) dX10_end_1 rfl (fun h1 => ?_) (fun h1 => ?_)
  · refine j_iconst dX10_end_15 r32_m1 ?_
    exact j_ireturn dX10_end_16 rfl rfl (Nat.zero_le _) (Nat.zero_le _)
  · refine j_iload_n dX10_end_4 rfl rfl ?_
    refine j_aload_n dX10_end_5 rfl rfl ?_
    refine j_grc dX10_end_6 gf_X10_10 oc_0 (Or.inl (by decide)) rf_0_0 ?_
    refine j_gic dX10_end_9 gf_X10_73 oc_1 ?_
    refine j_icmp_le (tgt := 17) dX10_end_12 rfl (fun h12 => ?_) (fun h12 => ?_)
    · refine j_iconst dX10_end_15 r32_m1 ?_
      exact j_ireturn dX10_end_16 rfl rfl (Nat.zero_le _) (Nat.zero_le _)
    · refine j_aload_n dX10_end_17 rfl rfl ?_
      refine j_grc dX10_end_18 gf_X10_10 oc_0 (Or.inl (by decide)) rf_0_0 ?_
      refine j_iload_n dX10_end_21 rfl rfl ?_
      refine j_pic dX10_end_22 gf_X10_73 po_8_1 oc_1 (nf_8_1 _) ?_
      refine j_iload_n dX10_end_25 rfl rfl ?_
      exact j_ireturn dX10_end_26 rfl rfl (Nat.zero_le _) (Nat.zero_le _)

set_option maxRecDepth 100000 in
theorem cX_end_ct {l : Launch} {H : Hp} (a1 : Int) (G : Hp) {r : Int × Hp} (h : cX_end a1 G = some r) : Ct l M_cX_end [(2, 0), (0, a1)] 224 (fu G H) ((KWi (fun g => fu g H)) r) :=
  ct_of_J (by decide +kernel) rfl (Nat.le_of_ble_eq_true rfl) (cX_end_J a1 G) h
set_option maxRecDepth 100000 in
theorem cNe_clear_L2_J {l : Launch} {H : Hp} (o : Int) (ho : isNet o) : ∀ (n_2 : Nat) (x1_2 : Int) (G_2 : Hp), J l M_cNe_clear (KWv (fun g => fu g H)) (cNe_clear_L2 o  n_2 x1_2 G_2) 2 [(2, o), (0, x1_2)] [] 224 (fu G_2 H) (0, 0) := by
  intro n_2
  induction n_2 with
  | zero =>
    intro x1_2 G_2
    exact j_none
  | succ n_2 ih =>
    intro x1_2 G_2
    rw [cNe_clear_L2]
    refine j_iload_n dX2_clear_2 rfl rfl ?_
    refine j_bipush dX2_clear_3 r32_10 bp_10 ?_
    refine j_icmp_ge (tgt := 21) dX2_clear_5 rfl (fun h5 => ?_) (fun h5 => ?_)
    · refine j_aload_n dX2_clear_8 rfl rfl ?_
      refine j_grc dX2_clear_9 gf_X2_9 (oc_net ho) (Or.inl (by decide)) (rf_net_0 ho) ?_
      refine j_iload_n dX2_clear_12 rfl rfl ?_
      refine j_iconst dX2_clear_13 r32_0 ?_
      refine j_gd (fun h14a h14b => ?_)
      refine j_sic dX2_clear_14 (oc_net_1 ho) rfl h14a h14b ?_
      refine j_iinc dX2_clear_15 rfl (Nat.le_of_ble_eq_true rfl) rfl ?_
      refine j_goto (tgt := 2) dX2_clear_18 rfl ?_
      exact j_mask [true, true] rfl (ih (w32 (x1_2 + 1)) (upd2 G_2 (o + 1) x1_2 0))
    · refine j_aload_n dX2_clear_21 rfl rfl ?_
      refine j_iconst dX2_clear_22 r32_0 ?_
      refine j_pic dX2_clear_23 gf_X2_21 po_2_3 (oc_net ho) (nf_2_3 _) ?_
      exact j_return dX2_clear_26 rfl rfl (Nat.zero_le _) (Nat.zero_le _)

set_option maxRecDepth 100000 in
theorem cNe_clear_J {l : Launch} {H : Hp} (o : Int) (ho : isNet o) (G : Hp) : J l M_cNe_clear (KWv (fun g => fu g H)) (cNe_clear o G) 0 [(2, o), (9, 0)] [] 224 (fu G H) (0, 0) := by
  unfold cNe_clear
  refine j_iconst dX2_clear_0 r32_0 ?_
  refine j_istore_n dX2_clear_1 rfl (Nat.le_of_ble_eq_true rfl) rfl ?_
  exact j_mask [true, true] rfl (cNe_clear_L2_J o ho FU 0 G)

set_option maxRecDepth 100000 in
theorem cNe_clear_ct {l : Launch} {H : Hp} (o : Int) (ho : isNet o) (G : Hp) {r : Hp} (h : cNe_clear o G = some r) : Ct l M_cNe_clear [(2, o)] 224 (fu G H) ((KWv (fun g => fu g H)) r) :=
  ct_of_J (by decide +kernel) rfl (Nat.le_of_ble_eq_true rfl) (cNe_clear_J o ho G) h
set_option maxRecDepth 100000 in
theorem cPa_clear_L24_J {l : Launch} {H : Hp} (o : Int) (ho : isPaper o) : ∀ (n_24 : Nat) (x1_24 : Int) (G_24 : Hp), J l M_cPa_clear (KWv (fun g => fu g H)) (cPa_clear_L24 o  n_24 x1_24 G_24) 24 [(2, o), (0, x1_24)] [] 224 (fu G_24 H) (0, 0) := by
  intro n_24
  induction n_24 with
  | zero =>
    intro x1_24 G_24
    exact j_none
  | succ n_24 ih =>
    intro x1_24 G_24
    rw [cPa_clear_L24]
    refine j_iload_n dX3_clear_24 rfl rfl ?_
    refine j_aload_n dX3_clear_25 rfl rfl ?_
    refine j_grc dX3_clear_26 gf_X3_25 (oc_paper ho) (Or.inl (by decide)) (rf_paper_6 ho) ?_
    refine j_len (t := 0) dX3_clear_29 (oc_paper_7 ho).1 (by decide) rfl (by unfold r32; omega) ?_
    refine j_icmp_ge (tgt := 47) dX3_clear_30 rfl (fun h30 => ?_) (fun h30 => ?_)
    · refine j_aload_n dX3_clear_33 rfl rfl ?_
      refine j_grc dX3_clear_34 gf_X3_25 (oc_paper ho) (Or.inl (by decide)) (rf_paper_6 ho) ?_
      refine j_iload_n dX3_clear_37 rfl rfl ?_
      refine j_bipush dX3_clear_38 r32_10 bp_10 ?_
      refine j_gd (fun h40a h40b => ?_)
      refine j_sic dX3_clear_40 (oc_paper_7 ho) rfl h40a h40b ?_
      refine j_iinc dX3_clear_41 rfl (Nat.le_of_ble_eq_true rfl) rfl ?_
      refine j_goto (tgt := 24) dX3_clear_44 rfl ?_
      exact j_mask [true, true] rfl (ih (w32 (x1_24 + 1)) (upd2 G_24 (o + 7) x1_24 10))
    · exact j_return dX3_clear_47 rfl rfl (Nat.zero_le _) (Nat.zero_le _)

set_option maxRecDepth 100000 in
theorem cPa_clear_J {l : Launch} {H : Hp} (o : Int) (ho : isPaper o) (G : Hp) : J l M_cPa_clear (KWv (fun g => fu g H)) (cPa_clear o G) 0 [(2, o), (9, 0)] [] 224 (fu G H) (0, 0) := by
  unfold cPa_clear
  refine j_aload_n dX3_clear_0 rfl rfl ?_
  refine j_iconst dX3_clear_1 r32_0 ?_
  refine j_pic dX3_clear_2 gf_X3_28 po_3_0 (oc_paper ho) (nf_3_0 _) ?_
  refine j_aload_n dX3_clear_5 rfl rfl ?_
  refine j_iconst dX3_clear_6 r32_0 ?_
  refine j_pic dX3_clear_7 gf_X3_32 po_3_1 (oc_paper ho) (nf_3_1 _) ?_
  refine j_aload_n dX3_clear_10 rfl rfl ?_
  refine j_iconst dX3_clear_11 r32_0 ?_
  refine j_pic dX3_clear_12 gf_X3_35 po_3_2 (oc_paper ho) (nf_3_2 _) ?_
  refine j_aload_n dX3_clear_15 rfl rfl ?_
  refine j_grc dX3_clear_16 gf_X3_12 (oc_paper ho) (Or.inl (by decide)) (rf_paper_3 ho) ?_
  refine j_cVWv dX3_clear_19 im_cNe_clear lk_X3_38 rfl (As := []) (S := []) rfl (oc_net (net_paper ho)).1 ⟨by decide, by decide⟩ (Nat.le_of_ble_eq_true rfl) (fun r hr => cNe_clear_ct (o + 1) (net_paper ho) (upd2 (upd2 (upd2 G o 0 0) o 1 0) o 2 0) hr) (fun G19 _ => ?_)
  refine j_iconst dX3_clear_22 r32_0 ?_
  refine j_istore_n dX3_clear_23 rfl (Nat.le_of_ble_eq_true rfl) rfl ?_
  exact j_mask [true, true] rfl (cPa_clear_L24_J o ho FU 0 G19)

set_option maxRecDepth 100000 in
theorem cPa_clear_ct {l : Launch} {H : Hp} (o : Int) (ho : isPaper o) (G : Hp) {r : Hp} (h : cPa_clear o G = some r) : Ct l M_cPa_clear [(2, o)] 224 (fu G H) ((KWv (fun g => fu g H)) r) :=
  ct_of_J (by decide +kernel) rfl (Nat.le_of_ble_eq_true rfl) (cPa_clear_J o ho G) h
set_option maxRecDepth 100000 in
theorem cSc_byteAt_J {l : Launch} {H : Hp} (a1 : Int) (G : Hp) : J l M_cSc_byteAt (KRi (fu G H)) (cSc_byteAt a1 G) 0 [(2, 39), (0, a1)] [] 224 (fu G H) (0, 0) := by
  unfold cSc_byteAt
  refine j_iload_n dX6_byteAt_0 rfl rfl ?_
  refine j_if_lt (tgt := 21) dX6_byteAt_1 rfl (fun h1 => ?_) (fun h1 => ?_)
  · refine j_iconst dX6_byteAt_21 r32_m1 ?_
    exact j_ireturn dX6_byteAt_22 rfl rfl (Nat.zero_le _) (Nat.zero_le _)
  · refine j_iload_n dX6_byteAt_4 rfl rfl ?_
    refine j_aload_n dX6_byteAt_5 rfl rfl ?_
    refine j_gic dX6_byteAt_6 gf_X6_49 oc_39 ?_
    refine j_icmp_ge (tgt := 21) dX6_byteAt_9 rfl (fun h9 => ?_) (fun h9 => ?_)
    · refine j_aload_n dX6_byteAt_12 rfl rfl ?_
      refine j_grc dX6_byteAt_13 gf_X6_32 oc_39 (Or.inl (by decide)) rf_39_5 ?_
      refine j_iload_n dX6_byteAt_16 rfl rfl ?_
      refine j_gd (fun h17a h17b => ?_)
      refine j_abc dX6_byteAt_17 oc_55 rfl h17a h17b ?_
      refine j_goto (tgt := 22) dX6_byteAt_18 rfl ?_
      exact j_ireturn dX6_byteAt_22 rfl rfl (Nat.zero_le _) (Nat.zero_le _)
    · refine j_iconst dX6_byteAt_21 r32_m1 ?_
      exact j_ireturn dX6_byteAt_22 rfl rfl (Nat.zero_le _) (Nat.zero_le _)

set_option maxRecDepth 100000 in
theorem cSc_byteAt_ct {l : Launch} {H : Hp} (a1 : Int) (G : Hp) {r : Int} (h : cSc_byteAt a1 G = some r) : Ct l M_cSc_byteAt [(2, 39), (0, a1)] 224 (fu G H) ((KRi (fu G H)) r) :=
  ct_of_J (by decide +kernel) rfl (Nat.le_of_ble_eq_true rfl) (cSc_byteAt_J a1 G) h
set_option maxRecDepth 100000 in
theorem cSc_isLetter_J {l : Launch} {Ch : Hp} (a0 : Int) : J l M_cSc_isLetter (KRb Ch) (some (cSc_isLetter a0)) 0 [(0, a0)] [] 224 Ch (0, 0) := by
  unfold cSc_isLetter
  refine j_iload_n dX6_isLetter_0 rfl rfl ?_
  refine j_bipush dX6_isLetter_1 r32_97 bp_97 ?_
  rw [some_ite]
  refine j_icmp_lt (tgt := 16) dX6_isLetter_3 rfl (fun h3 => ?_) (fun h3 => ?_)
  · refine j_iload_n dX6_isLetter_6 rfl rfl ?_
    refine j_bipush dX6_isLetter_7 r32_122 bp_122 ?_
    rw [some_ite]
    refine j_icmp_gt (tgt := 16) dX6_isLetter_9 rfl (fun h9 => ?_) (fun h9 => ?_)
    · refine j_iconst dX6_isLetter_12 r32_1 ?_
      refine j_goto (tgt := 17) dX6_isLetter_13 rfl ?_
      exact j_zreturn (b := true) dX6_isLetter_17 rfl rfl (Nat.zero_le _) (Nat.zero_le _)
    · refine j_iconst dX6_isLetter_16 r32_0 ?_
      exact j_zreturn (b := false) dX6_isLetter_17 rfl rfl (Nat.zero_le _) (Nat.zero_le _)
  · refine j_iconst dX6_isLetter_16 r32_0 ?_
    exact j_zreturn (b := false) dX6_isLetter_17 rfl rfl (Nat.zero_le _) (Nat.zero_le _)

set_option maxRecDepth 100000 in
theorem cSc_isLetter_ct {l : Launch} {Ch : Hp} (a0 : Int) : Ct l M_cSc_isLetter [(0, a0)] 224 Ch (KRb Ch (cSc_isLetter a0)) :=
  ct_of_J (by decide +kernel) rfl (Nat.le_of_ble_eq_true rfl) (cSc_isLetter_J a0) rfl
set_option maxRecDepth 100000 in
theorem cSc_isDigit_J {l : Launch} {Ch : Hp} (a0 : Int) : J l M_cSc_isDigit (KRb Ch) (some (cSc_isDigit a0)) 0 [(0, a0)] [] 224 Ch (0, 0) := by
  unfold cSc_isDigit
  refine j_iload_n dX6_isDigit_0 rfl rfl ?_
  refine j_bipush dX6_isDigit_1 r32_48 bp_48 ?_
  rw [some_ite]
  refine j_icmp_lt (tgt := 16) dX6_isDigit_3 rfl (fun h3 => ?_) (fun h3 => ?_)
  · refine j_iload_n dX6_isDigit_6 rfl rfl ?_
    refine j_bipush dX6_isDigit_7 r32_57 bp_57 ?_
    rw [some_ite]
    refine j_icmp_gt (tgt := 16) dX6_isDigit_9 rfl (fun h9 => ?_) (fun h9 => ?_)
    · refine j_iconst dX6_isDigit_12 r32_1 ?_
      refine j_goto (tgt := 17) dX6_isDigit_13 rfl ?_
      exact j_zreturn (b := true) dX6_isDigit_17 rfl rfl (Nat.zero_le _) (Nat.zero_le _)
    · refine j_iconst dX6_isDigit_16 r32_0 ?_
      exact j_zreturn (b := false) dX6_isDigit_17 rfl rfl (Nat.zero_le _) (Nat.zero_le _)
  · refine j_iconst dX6_isDigit_16 r32_0 ?_
    exact j_zreturn (b := false) dX6_isDigit_17 rfl rfl (Nat.zero_le _) (Nat.zero_le _)

set_option maxRecDepth 100000 in
theorem cSc_isDigit_ct {l : Launch} {Ch : Hp} (a0 : Int) : Ct l M_cSc_isDigit [(0, a0)] 224 Ch (KRb Ch (cSc_isDigit a0)) :=
  ct_of_J (by decide +kernel) rfl (Nat.le_of_ble_eq_true rfl) (cSc_isDigit_J a0) rfl
set_option maxRecDepth 100000 in
theorem cSc_moveOverDigits_j70_J {l : Launch} {H : Hp} (k5 : Hp → Option (Hp)) (hk5 : ∀ (G_5 : Hp), J l M_cSc_moveOverDigits (KWv (fun g => fu g H)) (k5 G_5) 5 [(2, 39)] [] 224 (fu G_5 H) (0, 0)) (s0_70 : Int) (G_70 : Hp) : J l M_cSc_moveOverDigits (KWv (fun g => fu g H)) (cSc_moveOverDigits_j70  k5 s0_70 G_70) 70 [(2, 39)] [(0, s0_70), (2, 39)] 224 (fu G_70 H) (0, 0) := by
  unfold cSc_moveOverDigits_j70
  refine j_pic dX6_moveOverDigits_70 gf_X6_120 po_6_10 oc_39 (nf_6_10 _) ?_
  refine j_aload_n dX6_moveOverDigits_73 rfl rfl ?_
  refine j_dup dX6_moveOverDigits_74 (by decide) ?_
  refine j_gic dX6_moveOverDigits_75 gf_X6_74 oc_39 ?_
  refine j_iconst dX6_moveOverDigits_78 r32_1 ?_
  refine j_iadd dX6_moveOverDigits_79 ?_
  refine j_pic dX6_moveOverDigits_80 gf_X6_74 po_6_7 oc_39 (nf_6_7 _) ?_
  refine j_goto (tgt := 5) dX6_moveOverDigits_83 rfl ?_
  exact j_mask [true] rfl (hk5 (upd2 (upd2 G_70 39 10 s0_70) 39 7 (w32 (((upd2 G_70 39 10 s0_70) 39 7) + 1))))

set_option maxRecDepth 100000 in
theorem cSc_moveOverDigits_L5_J {l : Launch} {H : Hp} (k86 : Hp → Option (Hp)) (hk86 : ∀ (G_86 : Hp), J l M_cSc_moveOverDigits (KWv (fun g => fu g H)) (k86 G_86) 86 [(2, 39)] [] 224 (fu G_86 H) (0, 0)) : ∀ (n_5 : Nat) (G_5 : Hp), J l M_cSc_moveOverDigits (KWv (fun g => fu g H)) (cSc_moveOverDigits_L5 k86 n_5 G_5) 5 [(2, 39)] [] 224 (fu G_5 H) (0, 0) := by
  intro n_5
  induction n_5 with
  | zero =>
    intro G_5
    exact j_none
  | succ n_5 ih =>
    intro G_5
    rw [cSc_moveOverDigits_L5]
    refine j_aload_n dX6_moveOverDigits_5 rfl rfl ?_
    refine j_gic dX6_moveOverDigits_6 gf_X6_74 oc_39 ?_
    refine j_aload_n dX6_moveOverDigits_9 rfl rfl ?_
    refine j_gic dX6_moveOverDigits_10 gf_X6_49 oc_39 ?_
    refine j_icmp_ge (tgt := 86) dX6_moveOverDigits_13 rfl (fun h13 => ?_) (fun h13 => ?_)
    · refine j_aload_n dX6_moveOverDigits_16 rfl rfl ?_
      refine j_aload_n dX6_moveOverDigits_17 rfl rfl ?_
      refine j_gic dX6_moveOverDigits_18 gf_X6_74 oc_39 ?_
      refine j_cVRi dX6_moveOverDigits_21 im_cSc_byteAt lk_X6_162 rfl (As := [(0, G_5 39 7)]) (S := []) rfl oc_39.1 ⟨by decide, by decide⟩ (Nat.le_of_ble_eq_true rfl) (fun r hr => cSc_byteAt_ct (G_5 39 7) G_5 hr) (fun v21 _ => ?_)
      refine j_cSRbp dX6_moveOverDigits_24 sm_cSc_isDigit lk_X6_198 rfl (As := [(0, v21)]) (S := []) rfl ⟨by decide, by decide⟩ (Nat.le_of_ble_eq_true rfl) (cSc_isDigit_ct v21) ?_
      refine j_ifb_eq (tgt := 86) dX6_moveOverDigits_27 rfl (fun h27 => ?_) (fun h27 => ?_)
      · refine j_aload_n dX6_moveOverDigits_30 rfl rfl ?_
        refine j_aload_n dX6_moveOverDigits_31 rfl rfl ?_
        refine j_gic dX6_moveOverDigits_32 gf_X6_74 oc_39 ?_
        refine j_aload_n dX6_moveOverDigits_35 rfl rfl ?_
        refine j_gic dX6_moveOverDigits_36 gf_X6_114 oc_39 ?_
        refine j_isub dX6_moveOverDigits_39 ?_
        refine j_iconst dX6_moveOverDigits_40 r32_2 ?_
        refine j_icmp_ge (tgt := 66) dX6_moveOverDigits_41 rfl (fun h41 => ?_) (fun h41 => ?_)
        · refine j_bipush dX6_moveOverDigits_44 r32_10 bp_10 ?_
          refine j_aload_n dX6_moveOverDigits_46 rfl rfl ?_
          refine j_gic dX6_moveOverDigits_47 gf_X6_120 oc_39 ?_
          refine j_imul dX6_moveOverDigits_50 ?_
          refine j_aload_n dX6_moveOverDigits_51 rfl rfl ?_
          refine j_aload_n dX6_moveOverDigits_52 rfl rfl ?_
          refine j_gic dX6_moveOverDigits_53 gf_X6_74 oc_39 ?_
          refine j_cVRi dX6_moveOverDigits_56 im_cSc_byteAt lk_X6_162 rfl (As := [(0, G_5 39 7)]) (S := [(0, w32 (10 * (G_5 39 10))), (2, 39)]) rfl oc_39.1 ⟨by decide, by decide⟩ (Nat.le_of_ble_eq_true rfl) (fun r hr => cSc_byteAt_ct (G_5 39 7) G_5 hr) (fun v56 _ => ?_)
          refine j_iadd dX6_moveOverDigits_59 ?_
          refine j_bipush dX6_moveOverDigits_60 r32_48 bp_48 ?_
          refine j_isub dX6_moveOverDigits_62 ?_
          refine j_goto (tgt := 70) dX6_moveOverDigits_63 rfl ?_
          exact j_mask [true] rfl (cSc_moveOverDigits_j70_J   (cSc_moveOverDigits_L5 k86 n_5) ih (w32 ((w32 ((w32 (10 * (G_5 39 10))) + v56)) - 48)) G_5)
        · refine j_aload_n dX6_moveOverDigits_66 rfl rfl ?_
          refine j_gic dX6_moveOverDigits_67 gf_X6_120 oc_39 ?_
          exact j_mask [true] rfl (cSc_moveOverDigits_j70_J   (cSc_moveOverDigits_L5 k86 n_5) ih (G_5 39 10) G_5)
      · exact j_mask [true] rfl (hk86 G_5)
    · exact j_mask [true] rfl (hk86 G_5)

set_option maxRecDepth 100000 in
theorem cSc_moveOverDigits_J {l : Launch} {H : Hp} (G : Hp) : J l M_cSc_moveOverDigits (KWv (fun g => fu g H)) (cSc_moveOverDigits  G) 0 [(2, 39)] [] 224 (fu G H) (0, 0) := by
  unfold cSc_moveOverDigits
  refine j_aload_n dX6_moveOverDigits_0 rfl rfl ?_
  refine j_iconst dX6_moveOverDigits_1 r32_0 ?_
  refine j_pic dX6_moveOverDigits_2 gf_X6_120 po_6_10 oc_39 (nf_6_10 _) ?_
  refine j_mask [true] rfl (cSc_moveOverDigits_L5_J (fun G_86 => if w32 ((G_86 39 7) - (G_86 39 9)) ≤ 2 then some (upd2 G_86 39 8 2) else some (upd2 G_86 39 8 4)) (fun G_86 => ?_) FU (upd2 G 39 10 0))
  refine j_aload_n dX6_moveOverDigits_86 rfl rfl ?_
  refine j_aload_n dX6_moveOverDigits_87 rfl rfl ?_
  refine j_gic dX6_moveOverDigits_88 gf_X6_74 oc_39 ?_
  refine j_aload_n dX6_moveOverDigits_91 rfl rfl ?_
  refine j_gic dX6_moveOverDigits_92 gf_X6_114 oc_39 ?_
  refine j_isub dX6_moveOverDigits_95 ?_
  refine j_iconst dX6_moveOverDigits_96 r32_2 ?_
  refine j_icmp_gt (tgt := 104) dX6_moveOverDigits_97 rfl (fun h97 => ?_) (fun h97 => ?_)
  · refine j_iconst dX6_moveOverDigits_100 r32_2 ?_
    refine j_goto (tgt := 105) dX6_moveOverDigits_101 rfl ?_
    refine j_pic dX6_moveOverDigits_105 gf_X6_86 po_6_8 oc_39 (nf_6_8 _) ?_
    exact j_return dX6_moveOverDigits_108 rfl rfl (Nat.zero_le _) (Nat.zero_le _)
  · refine j_iconst dX6_moveOverDigits_104 r32_4 ?_
    refine j_pic dX6_moveOverDigits_105 gf_X6_86 po_6_8 oc_39 (nf_6_8 _) ?_
    exact j_return dX6_moveOverDigits_108 rfl rfl (Nat.zero_le _) (Nat.zero_le _)

set_option maxRecDepth 100000 in
theorem cSc_moveOverDigits_ct {l : Launch} {H : Hp} (G : Hp) {r : Hp} (h : cSc_moveOverDigits  G = some r) : Ct l M_cSc_moveOverDigits [(2, 39)] 224 (fu G H) ((KWv (fun g => fu g H)) r) :=
  ct_of_J (by decide +kernel) rfl (Nat.le_of_ble_eq_true rfl) (cSc_moveOverDigits_J  G) h
set_option maxRecDepth 100000 in
theorem cSc_move_L0_J {l : Launch} {H : Hp} (k50 : Hp → Option (Hp)) (hk50 : ∀ (G_50 : Hp), J l M_cSc_move (KWv (fun g => fu g H)) (k50 G_50) 50 [(2, 39)] [] 224 (fu G_50 H) (0, 0)) : ∀ (n_0 : Nat) (G_0 : Hp), J l M_cSc_move (KWv (fun g => fu g H)) (cSc_move_L0 k50 n_0 G_0) 0 [(2, 39)] [] 224 (fu G_0 H) (0, 0) := by
  intro n_0
  induction n_0 with
  | zero =>
    intro G_0
    exact j_none
  | succ n_0 ih =>
    intro G_0
    rw [cSc_move_L0]
    refine j_aload_n dX6_move_0 rfl rfl ?_
    refine j_gic dX6_move_1 gf_X6_74 oc_39 ?_
    refine j_aload_n dX6_move_4 rfl rfl ?_
    refine j_gic dX6_move_5 gf_X6_49 oc_39 ?_
    refine j_icmp_ge (tgt := 50) dX6_move_8 rfl (fun h8 => ?_) (fun h8 => ?_)
    · refine j_aload_n dX6_move_11 rfl rfl ?_
      refine j_aload_n dX6_move_12 rfl rfl ?_
      refine j_gic dX6_move_13 gf_X6_74 oc_39 ?_
      refine j_cVRi dX6_move_16 im_cSc_byteAt lk_X6_162 rfl (As := [(0, G_0 39 7)]) (S := []) rfl oc_39.1 ⟨by decide, by decide⟩ (Nat.le_of_ble_eq_true rfl) (fun r hr => cSc_byteAt_ct (G_0 39 7) G_0 hr) (fun v16 _ => ?_)
      refine j_bipush dX6_move_19 r32_10 bp_10 ?_
      refine j_icmp_eq (tgt := 37) dX6_move_21 rfl (fun h21 => ?_) (fun h21 => ?_)
      · refine j_aload_n dX6_move_37 rfl rfl ?_
        refine j_dup dX6_move_38 (by decide) ?_
        refine j_gic dX6_move_39 gf_X6_74 oc_39 ?_
        refine j_iconst dX6_move_42 r32_1 ?_
        refine j_iadd dX6_move_43 ?_
        refine j_pic dX6_move_44 gf_X6_74 po_6_7 oc_39 (nf_6_7 _) ?_
        refine j_goto (tgt := 0) dX6_move_47 rfl ?_
        exact j_mask [true] rfl (ih (upd2 G_0 39 7 (w32 ((G_0 39 7) + 1))))
      · refine j_aload_n dX6_move_24 rfl rfl ?_
        refine j_aload_n dX6_move_25 rfl rfl ?_
        refine j_gic dX6_move_26 gf_X6_74 oc_39 ?_
        refine j_cVRi dX6_move_29 im_cSc_byteAt lk_X6_162 rfl (As := [(0, G_0 39 7)]) (S := []) rfl oc_39.1 ⟨by decide, by decide⟩ (Nat.le_of_ble_eq_true rfl) (fun r hr => cSc_byteAt_ct (G_0 39 7) G_0 hr) (fun v29 _ => ?_)
        refine j_bipush dX6_move_32 r32_32 bp_32 ?_
        refine j_icmp_ne (tgt := 50) dX6_move_34 rfl (fun h34 => ?_) (fun h34 => ?_)
        · refine j_aload_n dX6_move_37 rfl rfl ?_
          refine j_dup dX6_move_38 (by decide) ?_
          refine j_gic dX6_move_39 gf_X6_74 oc_39 ?_
          refine j_iconst dX6_move_42 r32_1 ?_
          refine j_iadd dX6_move_43 ?_
          refine j_pic dX6_move_44 gf_X6_74 po_6_7 oc_39 (nf_6_7 _) ?_
          refine j_goto (tgt := 0) dX6_move_47 rfl ?_
          exact j_mask [true] rfl (ih (upd2 G_0 39 7 (w32 ((G_0 39 7) + 1))))
        · exact j_mask [true] rfl (hk50 G_0)
    · exact j_mask [true] rfl (hk50 G_0)

set_option maxRecDepth 100000 in
theorem cSc_move_L96_J {l : Launch} {H : Hp} : ∀ (n_96 : Nat) (G_96 : Hp), J l M_cSc_move (KWv (fun g => fu g H)) (cSc_move_L96  n_96 G_96) 96 [(2, 39)] [] 224 (fu G_96 H) (0, 0) := by
  intro n_96
  induction n_96 with
  | zero =>
    intro G_96
    exact j_none
  | succ n_96 ih =>
    intro G_96
    rw [cSc_move_L96]
    refine j_aload_n dX6_move_96 rfl rfl ?_
    refine j_gic dX6_move_97 gf_X6_74 oc_39 ?_
    refine j_aload_n dX6_move_100 rfl rfl ?_
    refine j_gic dX6_move_101 gf_X6_49 oc_39 ?_
    refine j_icmp_ge (tgt := 187) dX6_move_104 rfl (fun h104 => ?_) (fun h104 => ?_)
    · refine j_aload_n dX6_move_107 rfl rfl ?_
      refine j_aload_n dX6_move_108 rfl rfl ?_
      refine j_gic dX6_move_109 gf_X6_74 oc_39 ?_
      refine j_cVRi dX6_move_112 im_cSc_byteAt lk_X6_162 rfl (As := [(0, G_96 39 7)]) (S := []) rfl oc_39.1 ⟨by decide, by decide⟩ (Nat.le_of_ble_eq_true rfl) (fun r hr => cSc_byteAt_ct (G_96 39 7) G_96 hr) (fun v112 _ => ?_)
      refine j_cSRbp dX6_move_115 sm_cSc_isLetter lk_X6_195 rfl (As := [(0, v112)]) (S := []) rfl ⟨by decide, by decide⟩ (Nat.le_of_ble_eq_true rfl) (cSc_isLetter_ct v112) ?_
      refine j_ifb_eq (tgt := 187) dX6_move_118 rfl (fun h118 => ?_) (fun h118 => ?_)
      · refine j_aload_n dX6_move_121 rfl rfl ?_
        refine j_dup dX6_move_122 (by decide) ?_
        refine j_gic dX6_move_123 gf_X6_74 oc_39 ?_
        refine j_iconst dX6_move_126 r32_1 ?_
        refine j_iadd dX6_move_127 ?_
        refine j_pic dX6_move_128 gf_X6_74 po_6_7 oc_39 (nf_6_7 _) ?_
        refine j_goto (tgt := 96) dX6_move_131 rfl ?_
        exact j_mask [true] rfl (ih (upd2 G_96 39 7 (w32 ((G_96 39 7) + 1))))
      · exact j_return dX6_move_187 rfl rfl (Nat.zero_le _) (Nat.zero_le _)
    · exact j_return dX6_move_187 rfl rfl (Nat.zero_le _) (Nat.zero_le _)

set_option maxRecDepth 100000 in
theorem cSc_move_J {l : Launch} {H : Hp} (G : Hp) : J l M_cSc_move (KWv (fun g => fu g H)) (cSc_move  G) 0 [(2, 39)] [] 224 (fu G H) (0, 0) := by
  unfold cSc_move
  refine j_mask [true] rfl (cSc_move_L0_J (fun G_50 => if (upd2 G_50 39 9 (G_50 39 7)) 39 6 ≤ (upd2 G_50 39 9 (G_50 39 7)) 39 7 then some (upd2 (upd2 G_50 39 9 (G_50 39 7)) 39 8 0) else ((cSc_byteAt ((upd2 G_50 39 9 (G_50 39 7)) 39 7) (upd2 G_50 39 9 (G_50 39 7))).bind fun v82 => if (cSc_isLetter v82) = true then cSc_move_L96 FU (upd2 (upd2 G_50 39 9 (G_50 39 7)) 39 8 1) else ((cSc_byteAt ((upd2 G_50 39 9 (G_50 39 7)) 39 7) (upd2 G_50 39 9 (G_50 39 7))).bind fun v139 => if (cSc_isDigit v139) = true then ((cSc_moveOverDigits (upd2 G_50 39 9 (G_50 39 7))).bind fun G149 => some G149) else ((cSc_byteAt ((upd2 G_50 39 9 (G_50 39 7)) 39 7) (upd2 G_50 39 9 (G_50 39 7))).bind fun v161 => if v161 = 59 then some (upd2 (upd2 (upd2 G_50 39 9 (G_50 39 7)) 39 8 3) 39 7 (w32 (((upd2 (upd2 G_50 39 9 (G_50 39 7)) 39 8 3) 39 7) + 1))) else some (upd2 (upd2 (upd2 G_50 39 9 (G_50 39 7)) 39 8 4) 39 7 (w32 (((upd2 (upd2 G_50 39 9 (G_50 39 7)) 39 8 4) 39 7) + 1))))))) (fun G_50 => ?_) FU G)
  refine j_aload_n dX6_move_50 rfl rfl ?_
  refine j_aload_n dX6_move_51 rfl rfl ?_
  refine j_gic dX6_move_52 gf_X6_74 oc_39 ?_
  refine j_pic dX6_move_55 gf_X6_114 po_6_9 oc_39 (nf_6_9 _) ?_
  refine j_aload_n dX6_move_58 rfl rfl ?_
  refine j_gic dX6_move_59 gf_X6_74 oc_39 ?_
  refine j_aload_n dX6_move_62 rfl rfl ?_
  refine j_gic dX6_move_63 gf_X6_49 oc_39 ?_
  refine j_icmp_lt (tgt := 77) dX6_move_66 rfl (fun h66 => ?_) (fun h66 => ?_)
  · refine j_aload_n dX6_move_69 rfl rfl ?_
    refine j_iconst dX6_move_70 r32_0 ?_
    refine j_pic dX6_move_71 gf_X6_86 po_6_8 oc_39 (nf_6_8 _) ?_
    refine j_goto (tgt := 187) dX6_move_74 rfl ?_
    exact j_return dX6_move_187 rfl rfl (Nat.zero_le _) (Nat.zero_le _)
  · refine j_aload_n dX6_move_77 rfl rfl ?_
    refine j_aload_n dX6_move_78 rfl rfl ?_
    refine j_gic dX6_move_79 gf_X6_74 oc_39 ?_
    refine j_cVRi dX6_move_82 im_cSc_byteAt lk_X6_162 rfl (As := [(0, (upd2 G_50 39 9 (G_50 39 7)) 39 7)]) (S := []) rfl oc_39.1 ⟨by decide, by decide⟩ (Nat.le_of_ble_eq_true rfl) (fun r hr => cSc_byteAt_ct ((upd2 G_50 39 9 (G_50 39 7)) 39 7) (upd2 G_50 39 9 (G_50 39 7)) hr) (fun v82 _ => ?_)
    refine j_cSRbp dX6_move_85 sm_cSc_isLetter lk_X6_195 rfl (As := [(0, v82)]) (S := []) rfl ⟨by decide, by decide⟩ (Nat.le_of_ble_eq_true rfl) (cSc_isLetter_ct v82) ?_
    refine j_ifb_eq (tgt := 134) dX6_move_88 rfl (fun h88 => ?_) (fun h88 => ?_)
    · refine j_aload_n dX6_move_91 rfl rfl ?_
      refine j_iconst dX6_move_92 r32_1 ?_
      refine j_pic dX6_move_93 gf_X6_86 po_6_8 oc_39 (nf_6_8 _) ?_
      exact j_mask [true] rfl (cSc_move_L96_J FU (upd2 (upd2 G_50 39 9 (G_50 39 7)) 39 8 1))
    · refine j_aload_n dX6_move_134 rfl rfl ?_
      refine j_aload_n dX6_move_135 rfl rfl ?_
      refine j_gic dX6_move_136 gf_X6_74 oc_39 ?_
      refine j_cVRi dX6_move_139 im_cSc_byteAt lk_X6_162 rfl (As := [(0, (upd2 G_50 39 9 (G_50 39 7)) 39 7)]) (S := []) rfl oc_39.1 ⟨by decide, by decide⟩ (Nat.le_of_ble_eq_true rfl) (fun r hr => cSc_byteAt_ct ((upd2 G_50 39 9 (G_50 39 7)) 39 7) (upd2 G_50 39 9 (G_50 39 7)) hr) (fun v139 _ => ?_)
      refine j_cSRbp dX6_move_142 sm_cSc_isDigit lk_X6_198 rfl (As := [(0, v139)]) (S := []) rfl ⟨by decide, by decide⟩ (Nat.le_of_ble_eq_true rfl) (cSc_isDigit_ct v139) ?_
      refine j_ifb_eq (tgt := 155) dX6_move_145 rfl (fun h145 => ?_) (fun h145 => ?_)
      · refine j_aload_n dX6_move_148 rfl rfl ?_
        refine j_cVWv dX6_move_149 im_cSc_moveOverDigits lk_X6_201 rfl (As := []) (S := []) rfl oc_39.1 ⟨by decide, by decide⟩ (Nat.le_of_ble_eq_true rfl) (fun r hr => cSc_moveOverDigits_ct  (upd2 G_50 39 9 (G_50 39 7)) hr) (fun G149 _ => ?_)
        refine j_goto (tgt := 187) dX6_move_152 rfl ?_
        exact j_return dX6_move_187 rfl rfl (Nat.zero_le _) (Nat.zero_le _)
      · refine j_aload_n dX6_move_155 rfl rfl ?_
        refine j_aload_n dX6_move_156 rfl rfl ?_
        refine j_aload_n dX6_move_157 rfl rfl ?_
        refine j_gic dX6_move_158 gf_X6_74 oc_39 ?_
        refine j_cVRi dX6_move_161 im_cSc_byteAt lk_X6_162 rfl (As := [(0, (upd2 G_50 39 9 (G_50 39 7)) 39 7)]) (S := [(2, 39)]) rfl oc_39.1 ⟨by decide, by decide⟩ (Nat.le_of_ble_eq_true rfl) (fun r hr => cSc_byteAt_ct ((upd2 G_50 39 9 (G_50 39 7)) 39 7) (upd2 G_50 39 9 (G_50 39 7)) hr) (fun v161 _ => ?_)
        refine j_bipush dX6_move_164 r32_59 bp_59 ?_
        refine j_icmp_ne (tgt := 173) dX6_move_166 rfl (fun h166 => ?_) (fun h166 => ?_)
        · refine j_iconst dX6_move_169 r32_3 ?_
          refine j_goto (tgt := 174) dX6_move_170 rfl ?_
          refine j_pic dX6_move_174 gf_X6_86 po_6_8 oc_39 (nf_6_8 _) ?_
          refine j_aload_n dX6_move_177 rfl rfl ?_
          refine j_dup dX6_move_178 (by decide) ?_
          refine j_gic dX6_move_179 gf_X6_74 oc_39 ?_
          refine j_iconst dX6_move_182 r32_1 ?_
          refine j_iadd dX6_move_183 ?_
          refine j_pic dX6_move_184 gf_X6_74 po_6_7 oc_39 (nf_6_7 _) ?_
          exact j_return dX6_move_187 rfl rfl (Nat.zero_le _) (Nat.zero_le _)
        · refine j_iconst dX6_move_173 r32_4 ?_
          refine j_pic dX6_move_174 gf_X6_86 po_6_8 oc_39 (nf_6_8 _) ?_
          refine j_aload_n dX6_move_177 rfl rfl ?_
          refine j_dup dX6_move_178 (by decide) ?_
          refine j_gic dX6_move_179 gf_X6_74 oc_39 ?_
          refine j_iconst dX6_move_182 r32_1 ?_
          refine j_iadd dX6_move_183 ?_
          refine j_pic dX6_move_184 gf_X6_74 po_6_7 oc_39 (nf_6_7 _) ?_
          exact j_return dX6_move_187 rfl rfl (Nat.zero_le _) (Nat.zero_le _)

set_option maxRecDepth 100000 in
theorem cSc_move_ct {l : Launch} {H : Hp} (G : Hp) {r : Hp} (h : cSc_move  G = some r) : Ct l M_cSc_move [(2, 39)] 224 (fu G H) ((KWv (fun g => fu g H)) r) :=
  ct_of_J (by decide +kernel) rfl (Nat.le_of_ble_eq_true rfl) (cSc_move_J  G) h
set_option maxRecDepth 100000 in
theorem cSc_spells_L22_J {l : Launch} {H : Hp} (a1 : Nat) (ha1 : a1 < 11) (G : Hp) (x2_22 : Int) : ∀ (n_22 : Nat) (x3_22 : Int), J l M_cSc_spells (KRb (fu G H)) (cSc_spells_L22 a1 G x2_22  n_22 x3_22) 22 [(2, 39), (3, ((a1 : Nat) : Int)), (0, x2_22), (0, x3_22)] [] 224 (fu G H) (0, 0) := by
  intro n_22
  induction n_22 with
  | zero =>
    intro x3_22
    exact j_none
  | succ n_22 ih =>
    intro x3_22
    rw [cSc_spells_L22]
    refine j_iload_n dX6_spells_22 rfl rfl ?_
    refine j_iload_n dX6_spells_23 rfl rfl ?_
    refine j_icmp_ge (tgt := 53) dX6_spells_24 rfl (fun h24 => ?_) (fun h24 => ?_)
    · refine j_aload_n dX6_spells_27 rfl rfl ?_
      refine j_aload_n dX6_spells_28 rfl rfl ?_
      refine j_gic dX6_spells_29 gf_X6_114 oc_39 ?_
      refine j_iload_n dX6_spells_32 rfl rfl ?_
      refine j_iadd dX6_spells_33 ?_
      refine j_cVRi dX6_spells_34 im_cSc_byteAt lk_X6_162 rfl (As := [(0, w32 ((G 39 9) + x3_22))]) (S := []) rfl oc_39.1 ⟨by decide, by decide⟩ (Nat.le_of_ble_eq_true rfl) (fun r hr => cSc_byteAt_ct (w32 ((G 39 9) + x3_22)) G hr) (fun v34 _ => ?_)
      refine j_aloadS_n dX6_spells_37 rfl rfl ?_
      refine j_iload_n dX6_spells_38 rfl rfl ?_
      refine j_gd (fun h39a h39b => ?_)
      refine j_schr dX6_spells_39 ha1 rfl (by decide) (Nat.le_of_ble_eq_true rfl) h39a h39b ?_
      refine j_icmp_eq (tgt := 47) dX6_spells_42 rfl (fun h42 => ?_) (fun h42 => ?_)
      · refine j_iinc dX6_spells_47 rfl (Nat.le_of_ble_eq_true rfl) rfl ?_
        refine j_goto (tgt := 22) dX6_spells_50 rfl ?_
        exact j_mask [true, true, true, true] rfl (ih (w32 (x3_22 + 1)))
      · refine j_iconst dX6_spells_45 r32_0 ?_
        exact j_zreturn (b := false) dX6_spells_46 rfl rfl (Nat.zero_le _) (Nat.zero_le _)
    · refine j_iconst dX6_spells_53 r32_1 ?_
      exact j_zreturn (b := true) dX6_spells_54 rfl rfl (Nat.zero_le _) (Nat.zero_le _)

set_option maxRecDepth 100000 in
theorem cSc_spells_J {l : Launch} {H : Hp} (a1 : Nat) (ha1 : a1 < 11) (G : Hp) : J l M_cSc_spells (KRb (fu G H)) (cSc_spells a1 G) 0 [(2, 39), (3, ((a1 : Nat) : Int)), (9, 0), (9, 0)] [] 224 (fu G H) (0, 0) := by
  unfold cSc_spells
  refine j_aloadS_n dX6_spells_0 rfl rfl ?_
  refine j_slen dX6_spells_1 ha1 rfl (by decide) (Nat.le_of_ble_eq_true rfl) ?_
  refine j_istore_n dX6_spells_4 rfl (Nat.le_of_ble_eq_true rfl) rfl ?_
  refine j_aload_n dX6_spells_5 rfl rfl ?_
  refine j_gic dX6_spells_6 gf_X6_74 oc_39 ?_
  refine j_aload_n dX6_spells_9 rfl rfl ?_
  refine j_gic dX6_spells_10 gf_X6_114 oc_39 ?_
  refine j_isub dX6_spells_13 ?_
  refine j_iload_n dX6_spells_14 rfl rfl ?_
  refine j_icmp_eq (tgt := 20) dX6_spells_15 rfl (fun h15 => ?_) (fun h15 => ?_)
  · refine j_iconst dX6_spells_20 r32_0 ?_
    refine j_istore_n dX6_spells_21 rfl (Nat.le_of_ble_eq_true rfl) rfl ?_
    exact j_mask [true, true, true, true] rfl (cSc_spells_L22_J a1 ha1 G (slz a1) FU 0)
  · refine j_iconst dX6_spells_18 r32_0 ?_
    exact j_zreturn (b := false) dX6_spells_19 rfl rfl (Nat.zero_le _) (Nat.zero_le _)

set_option maxRecDepth 100000 in
theorem cSc_spells_ct {l : Launch} {H : Hp} (a1 : Nat) (ha1 : a1 < 11) (G : Hp) {r : Bool} (h : cSc_spells a1 G = some r) : Ct l M_cSc_spells [(2, 39), (3, ((a1 : Nat) : Int))] 224 (fu G H) ((KRb (fu G H)) r) :=
  ct_of_J (by decide +kernel) rfl (Nat.le_of_ble_eq_true rfl) (cSc_spells_J a1 ha1 G) h
set_option maxRecDepth 100000 in
theorem cSc_lineOf_J {l : Launch} {H : Hp} (a1 : Int) (G : Hp) : J l M_cSc_lineOf (KRi (fu G H)) (cSc_lineOf a1 G) 0 [(2, 39), (0, a1)] [] 224 (fu G H) (0, 0) := by
  unfold cSc_lineOf
  refine j_aload_n dX6_lineOf_0 rfl rfl ?_
  refine j_gic dX6_lineOf_1 gf_X6_86 oc_39 ?_
  refine j_iconst dX6_lineOf_4 r32_1 ?_
  refine j_icmp_eq (tgt := 10) dX6_lineOf_5 rfl (fun h5 => ?_) (fun h5 => ?_)
  · refine j_iload_n dX6_lineOf_10 rfl rfl ?_
    refine j_if_ne (tgt := 72) dX6_lineOf_11 rfl (fun h11 => ?_) (fun h11 => ?_)
    · refine j_aload_n dX6_lineOf_14 rfl rfl ?_
      refine j_ldcS (i := 0) dX6_lineOf_15 rfl (by decide) rfl ?_
      refine j_cVRb dX6_lineOf_17 im_cSc_spells lk_X6_132 rfl (As := [(3, ((0 : Nat) : Int))]) (S := []) rfl oc_39.1 ⟨by decide, by decide⟩ (Nat.le_of_ble_eq_true rfl) (fun r hr => cSc_spells_ct 0 (by decide) G hr) (fun v17 _ => ?_)
      refine j_ifb_eq (tgt := 28) dX6_lineOf_20 rfl (fun h20 => ?_) (fun h20 => ?_)
      · refine j_bipush dX6_lineOf_23 r32_6 bp_6 ?_
        refine j_goto (tgt := 71) dX6_lineOf_25 rfl ?_
        exact j_ireturn dX6_lineOf_71 rfl rfl (Nat.zero_le _) (Nat.zero_le _)
      · refine j_aload_n dX6_lineOf_28 rfl rfl ?_
        refine j_ldcS (i := 1) dX6_lineOf_29 rfl (by decide) rfl ?_
        refine j_cVRb dX6_lineOf_31 im_cSc_spells lk_X6_132 rfl (As := [(3, ((1 : Nat) : Int))]) (S := []) rfl oc_39.1 ⟨by decide, by decide⟩ (Nat.le_of_ble_eq_true rfl) (fun r hr => cSc_spells_ct 1 (by decide) G hr) (fun v31 _ => ?_)
        refine j_ifb_eq (tgt := 42) dX6_lineOf_34 rfl (fun h34 => ?_) (fun h34 => ?_)
        · refine j_bipush dX6_lineOf_37 r32_7 bp_7 ?_
          refine j_goto (tgt := 71) dX6_lineOf_39 rfl ?_
          exact j_ireturn dX6_lineOf_71 rfl rfl (Nat.zero_le _) (Nat.zero_le _)
        · refine j_aload_n dX6_lineOf_42 rfl rfl ?_
          refine j_ldcS (i := 2) dX6_lineOf_43 rfl (by decide) rfl ?_
          refine j_cVRb dX6_lineOf_45 im_cSc_spells lk_X6_132 rfl (As := [(3, ((2 : Nat) : Int))]) (S := []) rfl oc_39.1 ⟨by decide, by decide⟩ (Nat.le_of_ble_eq_true rfl) (fun r hr => cSc_spells_ct 2 (by decide) G hr) (fun v45 _ => ?_)
          refine j_ifb_eq (tgt := 56) dX6_lineOf_48 rfl (fun h48 => ?_) (fun h48 => ?_)
          · refine j_bipush dX6_lineOf_51 r32_8 bp_8 ?_
            refine j_goto (tgt := 71) dX6_lineOf_53 rfl ?_
            exact j_ireturn dX6_lineOf_71 rfl rfl (Nat.zero_le _) (Nat.zero_le _)
          · refine j_aload_n dX6_lineOf_56 rfl rfl ?_
            refine j_ldcS (i := 3) dX6_lineOf_57 rfl (by decide) rfl ?_
            refine j_cVRb dX6_lineOf_59 im_cSc_spells lk_X6_132 rfl (As := [(3, ((3 : Nat) : Int))]) (S := []) rfl oc_39.1 ⟨by decide, by decide⟩ (Nat.le_of_ble_eq_true rfl) (fun r hr => cSc_spells_ct 3 (by decide) G hr) (fun v59 _ => ?_)
            refine j_ifb_eq (tgt := 70) dX6_lineOf_62 rfl (fun h62 => ?_) (fun h62 => ?_)
            · refine j_bipush dX6_lineOf_65 r32_9 bp_9 ?_
              refine j_goto (tgt := 71) dX6_lineOf_67 rfl ?_
              exact j_ireturn dX6_lineOf_71 rfl rfl (Nat.zero_le _) (Nat.zero_le _)
            · refine j_iconst dX6_lineOf_70 r32_m1 ?_
              exact j_ireturn dX6_lineOf_71 rfl rfl (Nat.zero_le _) (Nat.zero_le _)
    · refine j_iload_n dX6_lineOf_72 rfl rfl ?_
      refine j_iconst dX6_lineOf_73 r32_1 ?_
      refine j_icmp_ne (tgt := 157) dX6_lineOf_74 rfl (fun h74 => ?_) (fun h74 => ?_)
      · refine j_aload_n dX6_lineOf_77 rfl rfl ?_
        refine j_ldcS (i := 4) dX6_lineOf_78 rfl (by decide) rfl ?_
        refine j_cVRb dX6_lineOf_80 im_cSc_spells lk_X6_132 rfl (As := [(3, ((4 : Nat) : Int))]) (S := []) rfl oc_39.1 ⟨by decide, by decide⟩ (Nat.le_of_ble_eq_true rfl) (fun r hr => cSc_spells_ct 4 (by decide) G hr) (fun v80 _ => ?_)
        refine j_ifb_eq (tgt := 90) dX6_lineOf_83 rfl (fun h83 => ?_) (fun h83 => ?_)
        · refine j_iconst dX6_lineOf_86 r32_0 ?_
          refine j_goto (tgt := 156) dX6_lineOf_87 rfl ?_
          exact j_ireturn dX6_lineOf_156 rfl rfl (Nat.zero_le _) (Nat.zero_le _)
        · refine j_aload_n dX6_lineOf_90 rfl rfl ?_
          refine j_ldcS (i := 5) dX6_lineOf_91 rfl (by decide) rfl ?_
          refine j_cVRb dX6_lineOf_93 im_cSc_spells lk_X6_132 rfl (As := [(3, ((5 : Nat) : Int))]) (S := []) rfl oc_39.1 ⟨by decide, by decide⟩ (Nat.le_of_ble_eq_true rfl) (fun r hr => cSc_spells_ct 5 (by decide) G hr) (fun v93 _ => ?_)
          refine j_ifb_eq (tgt := 103) dX6_lineOf_96 rfl (fun h96 => ?_) (fun h96 => ?_)
          · refine j_iconst dX6_lineOf_99 r32_1 ?_
            refine j_goto (tgt := 156) dX6_lineOf_100 rfl ?_
            exact j_ireturn dX6_lineOf_156 rfl rfl (Nat.zero_le _) (Nat.zero_le _)
          · refine j_aload_n dX6_lineOf_103 rfl rfl ?_
            refine j_ldcS (i := 6) dX6_lineOf_104 rfl (by decide) rfl ?_
            refine j_cVRb dX6_lineOf_106 im_cSc_spells lk_X6_132 rfl (As := [(3, ((6 : Nat) : Int))]) (S := []) rfl oc_39.1 ⟨by decide, by decide⟩ (Nat.le_of_ble_eq_true rfl) (fun r hr => cSc_spells_ct 6 (by decide) G hr) (fun v106 _ => ?_)
            refine j_ifb_eq (tgt := 116) dX6_lineOf_109 rfl (fun h109 => ?_) (fun h109 => ?_)
            · refine j_iconst dX6_lineOf_112 r32_2 ?_
              refine j_goto (tgt := 156) dX6_lineOf_113 rfl ?_
              exact j_ireturn dX6_lineOf_156 rfl rfl (Nat.zero_le _) (Nat.zero_le _)
            · refine j_aload_n dX6_lineOf_116 rfl rfl ?_
              refine j_ldcS (i := 7) dX6_lineOf_117 rfl (by decide) rfl ?_
              refine j_cVRb dX6_lineOf_119 im_cSc_spells lk_X6_132 rfl (As := [(3, ((7 : Nat) : Int))]) (S := []) rfl oc_39.1 ⟨by decide, by decide⟩ (Nat.le_of_ble_eq_true rfl) (fun r hr => cSc_spells_ct 7 (by decide) G hr) (fun v119 _ => ?_)
              refine j_ifb_eq (tgt := 129) dX6_lineOf_122 rfl (fun h122 => ?_) (fun h122 => ?_)
              · refine j_iconst dX6_lineOf_125 r32_3 ?_
                refine j_goto (tgt := 156) dX6_lineOf_126 rfl ?_
                exact j_ireturn dX6_lineOf_156 rfl rfl (Nat.zero_le _) (Nat.zero_le _)
              · refine j_aload_n dX6_lineOf_129 rfl rfl ?_
                refine j_ldcS (i := 8) dX6_lineOf_130 rfl (by decide) rfl ?_
                refine j_cVRb dX6_lineOf_132 im_cSc_spells lk_X6_132 rfl (As := [(3, ((8 : Nat) : Int))]) (S := []) rfl oc_39.1 ⟨by decide, by decide⟩ (Nat.le_of_ble_eq_true rfl) (fun r hr => cSc_spells_ct 8 (by decide) G hr) (fun v132 _ => ?_)
                refine j_ifb_eq (tgt := 142) dX6_lineOf_135 rfl (fun h135 => ?_) (fun h135 => ?_)
                · refine j_iconst dX6_lineOf_138 r32_4 ?_
                  refine j_goto (tgt := 156) dX6_lineOf_139 rfl ?_
                  exact j_ireturn dX6_lineOf_156 rfl rfl (Nat.zero_le _) (Nat.zero_le _)
                · refine j_aload_n dX6_lineOf_142 rfl rfl ?_
                  refine j_ldcS (i := 9) dX6_lineOf_143 rfl (by decide) rfl ?_
                  refine j_cVRb dX6_lineOf_145 im_cSc_spells lk_X6_132 rfl (As := [(3, ((9 : Nat) : Int))]) (S := []) rfl oc_39.1 ⟨by decide, by decide⟩ (Nat.le_of_ble_eq_true rfl) (fun r hr => cSc_spells_ct 9 (by decide) G hr) (fun v145 _ => ?_)
                  refine j_ifb_eq (tgt := 155) dX6_lineOf_148 rfl (fun h148 => ?_) (fun h148 => ?_)
                  · refine j_iconst dX6_lineOf_151 r32_5 ?_
                    refine j_goto (tgt := 156) dX6_lineOf_152 rfl ?_
                    exact j_ireturn dX6_lineOf_156 rfl rfl (Nat.zero_le _) (Nat.zero_le _)
                  · refine j_iconst dX6_lineOf_155 r32_m1 ?_
                    exact j_ireturn dX6_lineOf_156 rfl rfl (Nat.zero_le _) (Nat.zero_le _)
      · refine j_aload_n dX6_lineOf_157 rfl rfl ?_
        refine j_ldcS (i := 10) dX6_lineOf_158 rfl (by decide) rfl ?_
        refine j_cVRb dX6_lineOf_160 im_cSc_spells lk_X6_132 rfl (As := [(3, ((10 : Nat) : Int))]) (S := []) rfl oc_39.1 ⟨by decide, by decide⟩ (Nat.le_of_ble_eq_true rfl) (fun r hr => cSc_spells_ct 10 (by decide) G hr) (fun v160 _ => ?_)
        refine j_ifb_eq (tgt := 171) dX6_lineOf_163 rfl (fun h163 => ?_) (fun h163 => ?_)
        · refine j_bipush dX6_lineOf_166 r32_10 bp_10 ?_
          refine j_goto (tgt := 172) dX6_lineOf_168 rfl ?_
          exact j_ireturn dX6_lineOf_172 rfl rfl (Nat.zero_le _) (Nat.zero_le _)
        · refine j_iconst dX6_lineOf_171 r32_m1 ?_
          exact j_ireturn dX6_lineOf_172 rfl rfl (Nat.zero_le _) (Nat.zero_le _)
  · refine j_iconst dX6_lineOf_8 r32_m1 ?_
    exact j_ireturn dX6_lineOf_9 rfl rfl (Nat.zero_le _) (Nat.zero_le _)

set_option maxRecDepth 100000 in
theorem cSc_lineOf_ct {l : Launch} {H : Hp} (a1 : Int) (G : Hp) {r : Int} (h : cSc_lineOf a1 G = some r) : Ct l M_cSc_lineOf [(2, 39), (0, a1)] 224 (fu G H) ((KRi (fu G H)) r) :=
  ct_of_J (by decide +kernel) rfl (Nat.le_of_ble_eq_true rfl) (cSc_lineOf_J a1 G) h
set_option maxRecDepth 100000 in
theorem cSc_breakOff_J {l : Launch} {H : Hp} (G : Hp) : J l M_cSc_breakOff (KWv (fun g => fu g H)) (cSc_breakOff  G) 0 [(2, 39)] [] 224 (fu G H) (0, 0) := by
  unfold cSc_breakOff
  refine j_aload_n dX6_breakOff_0 rfl rfl ?_
  refine j_iconst dX6_breakOff_1 r32_1 ?_
  refine j_pic dX6_breakOff_2 gf_X6_68 po_6_3 oc_39 (nf_6_3 _) ?_
  refine j_aload_n dX6_breakOff_5 rfl rfl ?_
  refine j_aload_n dX6_breakOff_6 rfl rfl ?_
  refine j_gic dX6_breakOff_7 gf_X6_114 oc_39 ?_
  refine j_pic dX6_breakOff_10 gf_X6_71 po_6_4 oc_39 (nf_6_4 _) ?_
  exact j_return dX6_breakOff_13 rfl rfl (Nat.zero_le _) (Nat.zero_le _)

set_option maxRecDepth 100000 in
theorem cSc_breakOff_ct {l : Launch} {H : Hp} (G : Hp) {r : Hp} (h : cSc_breakOff  G = some r) : Ct l M_cSc_breakOff [(2, 39)] 224 (fu G H) ((KWv (fun g => fu g H)) r) :=
  ct_of_J (by decide +kernel) rfl (Nat.le_of_ble_eq_true rfl) (cSc_breakOff_J  G) h
set_option maxRecDepth 100000 in
theorem cSc_isFull_J {l : Launch} {H : Hp} (a1 : Int) (G : Hp) : J l M_cSc_isFull (KRb (fu G H)) (cSc_isFull a1 G) 0 [(2, 39), (0, a1)] [] 224 (fu G H) (0, 0) := by
  unfold cSc_isFull
  refine j_iload_n dX6_isFull_0 rfl rfl ?_
  refine j_ite _ (fun hc1_6 => ?_) (fun hc1_6 => ?_)
  · refine j_swIn (i := 0) (tgt := 36) dX6_isFull_1 (hc1_6.trans (by decide)) (by decide) rfl rfl ?_
    refine j_aload_n dX6_isFull_36 rfl rfl ?_
    refine j_grc dX6_isFull_37 gf_X6_12 oc_39 (Or.inl (by decide)) rf_39_0 ?_
    refine j_gic dX6_isFull_40 gf_X6_100 oc_40 ?_
    refine j_bipush dX6_isFull_43 r32_8 bp_8 ?_
    refine j_icmp_lt (tgt := 52) dX6_isFull_45 rfl (fun h45 => ?_) (fun h45 => ?_)
    · refine j_iconst dX6_isFull_48 r32_1 ?_
      refine j_goto (tgt := 53) dX6_isFull_49 rfl ?_
      exact j_zreturn (b := true) dX6_isFull_53 rfl rfl (Nat.zero_le _) (Nat.zero_le _)
    · refine j_iconst dX6_isFull_52 r32_0 ?_
      exact j_zreturn (b := false) dX6_isFull_53 rfl rfl (Nat.zero_le _) (Nat.zero_le _)
  · refine j_ite _ (fun hc1_7 => ?_) (fun hc1_7 => ?_)
    · refine j_swIn (i := 1) (tgt := 72) dX6_isFull_1 (hc1_7.trans (by decide)) (by decide) rfl rfl ?_
      refine j_iconst dX6_isFull_72 r32_0 ?_
      exact j_zreturn (b := false) dX6_isFull_73 rfl rfl (Nat.zero_le _) (Nat.zero_le _)
    · refine j_ite _ (fun hc1_8 => ?_) (fun hc1_8 => ?_)
      · refine j_swIn (i := 2) (tgt := 54) dX6_isFull_1 (hc1_8.trans (by decide)) (by decide) rfl rfl ?_
        refine j_aload_n dX6_isFull_54 rfl rfl ?_
        refine j_grc dX6_isFull_55 gf_X6_12 oc_39 (Or.inl (by decide)) rf_39_0 ?_
        refine j_gic dX6_isFull_58 gf_X6_93 oc_40 ?_
        refine j_bipush dX6_isFull_61 r32_6 bp_6 ?_
        refine j_icmp_lt (tgt := 70) dX6_isFull_63 rfl (fun h63 => ?_) (fun h63 => ?_)
        · refine j_iconst dX6_isFull_66 r32_1 ?_
          refine j_goto (tgt := 71) dX6_isFull_67 rfl ?_
          exact j_zreturn (b := true) dX6_isFull_71 rfl rfl (Nat.zero_le _) (Nat.zero_le _)
        · refine j_iconst dX6_isFull_70 r32_0 ?_
          exact j_zreturn (b := false) dX6_isFull_71 rfl rfl (Nat.zero_le _) (Nat.zero_le _)
      · refine j_ite _ (fun hc1_9 => ?_) (fun hc1_9 => ?_)
        · refine j_swIn (i := 3) (tgt := 72) dX6_isFull_1 (hc1_9.trans (by decide)) (by decide) rfl rfl ?_
          refine j_iconst dX6_isFull_72 r32_0 ?_
          exact j_zreturn (b := false) dX6_isFull_73 rfl rfl (Nat.zero_le _) (Nat.zero_le _)
        · refine j_ite _ (fun hc1_10 => ?_) (fun hc1_10 => ?_)
          · refine j_swIn (i := 4) (tgt := 74) dX6_isFull_1 (hc1_10.trans (by decide)) (by decide) rfl rfl ?_
            refine j_aload_n dX6_isFull_74 rfl rfl ?_
            refine j_grc dX6_isFull_75 gf_X6_28 oc_39 (Or.inl (by decide)) rf_39_2 ?_
            refine j_gic dX6_isFull_78 gf_X6_65 oc_52 ?_
            refine j_bipush dX6_isFull_81 r32_8 bp_8 ?_
            refine j_icmp_lt (tgt := 90) dX6_isFull_83 rfl (fun h83 => ?_) (fun h83 => ?_)
            · refine j_iconst dX6_isFull_86 r32_1 ?_
              refine j_goto (tgt := 91) dX6_isFull_87 rfl ?_
              exact j_zreturn (b := true) dX6_isFull_91 rfl rfl (Nat.zero_le _) (Nat.zero_le _)
            · refine j_iconst dX6_isFull_90 r32_0 ?_
              exact j_zreturn (b := false) dX6_isFull_91 rfl rfl (Nat.zero_le _) (Nat.zero_le _)
          · refine j_swOut (tgt := 92) dX6_isFull_1 (by omega) rfl ?_
            refine j_aload_n dX6_isFull_92 rfl rfl ?_
            refine j_grc dX6_isFull_93 gf_X6_21 oc_39 (Or.inl (by decide)) rf_39_1 ?_
            refine j_gic dX6_isFull_96 gf_X6_62 oc_48 ?_
            refine j_bipush dX6_isFull_99 r32_40 bp_40 ?_
            refine j_icmp_lt (tgt := 108) dX6_isFull_101 rfl (fun h101 => ?_) (fun h101 => ?_)
            · refine j_iconst dX6_isFull_104 r32_1 ?_
              refine j_goto (tgt := 109) dX6_isFull_105 rfl ?_
              exact j_zreturn (b := true) dX6_isFull_109 rfl rfl (Nat.zero_le _) (Nat.zero_le _)
            · refine j_iconst dX6_isFull_108 r32_0 ?_
              exact j_zreturn (b := false) dX6_isFull_109 rfl rfl (Nat.zero_le _) (Nat.zero_le _)

set_option maxRecDepth 100000 in
theorem cSc_isFull_ct {l : Launch} {H : Hp} (a1 : Int) (G : Hp) {r : Bool} (h : cSc_isFull a1 G = some r) : Ct l M_cSc_isFull [(2, 39), (0, a1)] 224 (fu G H) ((KRb (fu G H)) r) :=
  ct_of_J (by decide +kernel) rfl (Nat.le_of_ble_eq_true rfl) (cSc_isFull_J a1 G) h
set_option maxRecDepth 100000 in
theorem cSc_note_J {l : Launch} {H : Hp} (a1 : Int) (a2 : Int) (G : Hp) : J l M_cSc_note (KWv (fun g => fu g H)) (cSc_note a1 a2 G) 0 [(2, 39), (0, a1), (0, a2)] [] 224 (fu G H) (0, 0) := by
  unfold cSc_note
  refine j_aload_n dX6_note_0 rfl rfl ?_
  refine j_gic dX6_note_1 gf_X6_68 oc_39 ?_
  refine j_if_ne (tgt := 17) dX6_note_4 rfl (fun h4 => ?_) (fun h4 => ?_)
  · refine j_aload_n dX6_note_7 rfl rfl ?_
    refine j_iload_n dX6_note_8 rfl rfl ?_
    refine j_pic dX6_note_9 gf_X6_68 po_6_3 oc_39 (nf_6_3 _) ?_
    refine j_aload_n dX6_note_12 rfl rfl ?_
    refine j_iload_n dX6_note_13 rfl rfl ?_
    refine j_pic dX6_note_14 gf_X6_71 po_6_4 oc_39 (nf_6_4 _) ?_
    exact j_return dX6_note_17 rfl rfl (Nat.zero_le _) (Nat.zero_le _)
  · exact j_return dX6_note_17 rfl rfl (Nat.zero_le _) (Nat.zero_le _)

set_option maxRecDepth 100000 in
theorem cSc_note_ct {l : Launch} {H : Hp} (a1 : Int) (a2 : Int) (G : Hp) {r : Hp} (h : cSc_note a1 a2 G = some r) : Ct l M_cSc_note [(2, 39), (0, a1), (0, a2)] 224 (fu G H) ((KWv (fun g => fu g H)) r) :=
  ct_of_J (by decide +kernel) rfl (Nat.le_of_ble_eq_true rfl) (cSc_note_J a1 a2 G) h
set_option maxRecDepth 100000 in
theorem cSc_mayBe_j67_J {l : Launch} {H : Hp} (a1 : Int) (a2 : Int) (G : Hp) (s0_67 : Int) : J l M_cSc_mayBe (KRb (fu G H)) (cSc_mayBe_j67 a1 a2 G  s0_67) 67 [(2, 39), (9, 0), (0, a2), (9, 0)] [(0, s0_67)] 224 (fu G H) (0, 0) := by
  unfold cSc_mayBe_j67
  refine j_istore_n dX6_mayBe_67 rfl (Nat.le_of_ble_eq_true rfl) rfl ?_
  refine j_iload_n dX6_mayBe_68 rfl rfl ?_
  refine j_iconst dX6_mayBe_69 r32_1 ?_
  refine j_icmp_ne (tgt := 92) dX6_mayBe_70 rfl (fun h70 => ?_) (fun h70 => ?_)
  · refine j_iload_n dX6_mayBe_73 rfl rfl ?_
    refine j_if_eq (tgt := 92) dX6_mayBe_74 rfl (fun h74 => ?_) (fun h74 => ?_)
    · refine j_iconst dX6_mayBe_92 r32_1 ?_
      refine j_goto (tgt := 97) dX6_mayBe_93 rfl ?_
      exact j_zreturn (b := true) dX6_mayBe_97 rfl rfl (Nat.zero_le _) (Nat.zero_le _)
    · refine j_aload_n dX6_mayBe_77 rfl rfl ?_
      refine j_grc dX6_mayBe_78 gf_X6_36 oc_39 (Or.inl (by decide)) rf_39_11 ?_
      refine j_iconst dX6_mayBe_81 r32_1 ?_
      refine j_aic dX6_mayBe_82 oc_56 rfl (by decide) (by decide) ?_
      refine j_aload_n dX6_mayBe_83 rfl rfl ?_
      refine j_grc dX6_mayBe_84 gf_X6_36 oc_39 (Or.inl (by decide)) rf_39_11 ?_
      refine j_iconst dX6_mayBe_87 r32_0 ?_
      refine j_aic dX6_mayBe_88 oc_56 rfl (by decide) (by decide) ?_
      refine j_icmp_eq (tgt := 96) dX6_mayBe_89 rfl (fun h89 => ?_) (fun h89 => ?_)
      · refine j_iconst dX6_mayBe_96 r32_0 ?_
        exact j_zreturn (b := false) dX6_mayBe_97 rfl rfl (Nat.zero_le _) (Nat.zero_le _)
      · refine j_iconst dX6_mayBe_92 r32_1 ?_
        refine j_goto (tgt := 97) dX6_mayBe_93 rfl ?_
        exact j_zreturn (b := true) dX6_mayBe_97 rfl rfl (Nat.zero_le _) (Nat.zero_le _)
  · refine j_iconst dX6_mayBe_92 r32_1 ?_
    refine j_goto (tgt := 97) dX6_mayBe_93 rfl ?_
    exact j_zreturn (b := true) dX6_mayBe_97 rfl rfl (Nat.zero_le _) (Nat.zero_le _)

set_option maxRecDepth 100000 in
theorem cSc_mayBe_j46_J {l : Launch} {H : Hp} (a1 : Int) (a2 : Int) (G : Hp)  : J l M_cSc_mayBe (KRb (fu G H)) (cSc_mayBe_j46 a1 a2 G) 46 [(2, 39), (0, a1), (0, a2), (9, 0)] [] 224 (fu G H) (0, 0) := by
  unfold cSc_mayBe_j46
  refine j_iload_n dX6_mayBe_46 rfl rfl ?_
  refine j_bipush dX6_mayBe_47 r32_7 bp_7 ?_
  refine j_icmp_eq (tgt := 62) dX6_mayBe_49 rfl (fun h49 => ?_) (fun h49 => ?_)
  · refine j_iconst dX6_mayBe_62 r32_1 ?_
    refine j_goto (tgt := 67) dX6_mayBe_63 rfl ?_
    exact j_mask [true, false, true, false] rfl (cSc_mayBe_j67_J a1 a2 G 1)
  · refine j_iload_n dX6_mayBe_52 rfl rfl ?_
    refine j_iconst dX6_mayBe_53 r32_3 ?_
    refine j_icmp_eq (tgt := 62) dX6_mayBe_54 rfl (fun h54 => ?_) (fun h54 => ?_)
    · refine j_iconst dX6_mayBe_62 r32_1 ?_
      refine j_goto (tgt := 67) dX6_mayBe_63 rfl ?_
      exact j_mask [true, false, true, false] rfl (cSc_mayBe_j67_J a1 a2 G 1)
    · refine j_iload_n dX6_mayBe_57 rfl rfl ?_
      refine j_iconst dX6_mayBe_58 r32_4 ?_
      refine j_icmp_ne (tgt := 66) dX6_mayBe_59 rfl (fun h59 => ?_) (fun h59 => ?_)
      · refine j_iconst dX6_mayBe_62 r32_1 ?_
        refine j_goto (tgt := 67) dX6_mayBe_63 rfl ?_
        exact j_mask [true, false, true, false] rfl (cSc_mayBe_j67_J a1 a2 G 1)
      · refine j_iconst dX6_mayBe_66 r32_0 ?_
        exact j_mask [true, false, true, false] rfl (cSc_mayBe_j67_J a1 a2 G 0)

set_option maxRecDepth 100000 in
theorem cSc_mayBe_J {l : Launch} {H : Hp} (a1 : Int) (a2 : Int) (G : Hp) : J l M_cSc_mayBe (KRb (fu G H)) (cSc_mayBe a1 a2 G) 0 [(2, 39), (0, a1), (0, a2), (9, 0)] [] 224 (fu G H) (0, 0) := by
  unfold cSc_mayBe
  refine j_aload_n dX6_mayBe_0 rfl rfl ?_
  refine j_grc dX6_mayBe_1 gf_X6_36 oc_39 (Or.inl (by decide)) rf_39_11 ?_
  refine j_iload_n dX6_mayBe_4 rfl rfl ?_
  refine j_gd (fun h5a h5b => ?_)
  refine j_aic dX6_mayBe_5 oc_56 rfl h5a h5b ?_
  refine j_stat (i := 1) dX6_mayBe_6 (by decide) st_X6_169 ?_
  refine j_iconst dX6_mayBe_9 r32_3 ?_
  refine j_iload_n dX6_mayBe_10 rfl rfl ?_
  refine j_imul dX6_mayBe_11 ?_
  refine j_iload_n dX6_mayBe_12 rfl rfl ?_
  refine j_iadd dX6_mayBe_13 ?_
  refine j_gd (fun h14a h14b => ?_)
  refine j_statld (i := 1) dX6_mayBe_14 (by decide) h14a h14b ?_
  refine j_icmp_le (tgt := 20) dX6_mayBe_15 rfl (fun h15 => ?_) (fun h15 => ?_)
  · refine j_iconst dX6_mayBe_18 r32_0 ?_
    exact j_zreturn (b := false) dX6_mayBe_19 rfl rfl (Nat.zero_le _) (Nat.zero_le _)
  · refine j_iload_n dX6_mayBe_20 rfl rfl ?_
    refine j_iconst dX6_mayBe_21 r32_1 ?_
    refine j_icmp_ne (tgt := 46) dX6_mayBe_22 rfl (fun h22 => ?_) (fun h22 => ?_)
    · refine j_iload_n dX6_mayBe_25 rfl rfl ?_
      refine j_bipush dX6_mayBe_26 r32_8 bp_8 ?_
      refine j_icmp_ne (tgt := 46) dX6_mayBe_28 rfl (fun h28 => ?_) (fun h28 => ?_)
      · refine j_aload_n dX6_mayBe_31 rfl rfl ?_
        refine j_grc dX6_mayBe_32 gf_X6_36 oc_39 (Or.inl (by decide)) rf_39_11 ?_
        refine j_iconst dX6_mayBe_35 r32_1 ?_
        refine j_aic dX6_mayBe_36 oc_56 rfl (by decide) (by decide) ?_
        refine j_if_le (tgt := 44) dX6_mayBe_37 rfl (fun h37 => ?_) (fun h37 => ?_)
        · refine j_iconst dX6_mayBe_40 r32_1 ?_
          refine j_goto (tgt := 45) dX6_mayBe_41 rfl ?_
          exact j_zreturn (b := true) dX6_mayBe_45 rfl rfl (Nat.zero_le _) (Nat.zero_le _)
        · refine j_iconst dX6_mayBe_44 r32_0 ?_
          exact j_zreturn (b := false) dX6_mayBe_45 rfl rfl (Nat.zero_le _) (Nat.zero_le _)
      · exact j_mask [true, true, true, false] rfl (cSc_mayBe_j46_J a1 a2 G)
    · exact j_mask [true, true, true, false] rfl (cSc_mayBe_j46_J a1 a2 G)

set_option maxRecDepth 100000 in
theorem cSc_mayBe_ct {l : Launch} {H : Hp} (a1 : Int) (a2 : Int) (G : Hp) {r : Bool} (h : cSc_mayBe a1 a2 G = some r) : Ct l M_cSc_mayBe [(2, 39), (0, a1), (0, a2)] 224 (fu G H) ((KRb (fu G H)) r) :=
  ct_of_J (by decide +kernel) rfl (Nat.le_of_ble_eq_true rfl) (cSc_mayBe_J a1 a2 G) h
set_option maxRecDepth 100000 in
theorem cX_put_J {l : Launch} {Ch : Hp} (a0 : Int) (a1 : Int) (a2 : Int) : J l M_cX_put (KRi Ch) (some (cX_put a0 a1 a2)) 0 [(0, a0), (0, a1), (0, a2)] [] 224 Ch (0, 0) := by
  unfold cX_put
  refine j_iload_n dX10_put_0 rfl rfl ?_
  refine j_bipush dX10_put_1 r32_15 bp_15 ?_
  refine j_iconst dX10_put_3 r32_4 ?_
  refine j_iload_n dX10_put_4 rfl rfl ?_
  refine j_imul dX10_put_5 ?_
  refine j_ishl dX10_put_6 ?_
  refine j_iconst dX10_put_7 r32_m1 ?_
  refine j_ixor dX10_put_8 ?_
  refine j_iand dX10_put_9 ?_
  refine j_iload_n dX10_put_10 rfl rfl ?_
  refine j_bipush dX10_put_11 r32_15 bp_15 ?_
  refine j_iand dX10_put_13 ?_
  refine j_iconst dX10_put_14 r32_4 ?_
  refine j_iload_n dX10_put_15 rfl rfl ?_
  refine j_imul dX10_put_16 ?_
  refine j_ishl dX10_put_17 ?_
  refine j_ior dX10_put_18 ?_
  exact j_ireturn dX10_put_19 rfl rfl (Nat.zero_le _) (Nat.zero_le _)

set_option maxRecDepth 100000 in
theorem cX_put_ct {l : Launch} {Ch : Hp} (a0 : Int) (a1 : Int) (a2 : Int) : Ct l M_cX_put [(0, a0), (0, a1), (0, a2)] 224 Ch (KRi Ch (cX_put a0 a1 a2)) :=
  ct_of_J (by decide +kernel) rfl (Nat.le_of_ble_eq_true rfl) (cX_put_J a0 a1 a2) rfl
set_option maxRecDepth 100000 in
theorem cPa_addPlace_J {l : Launch} {H : Hp} (o : Int) (ho : isPaper o) (a1 : Int) (G : Hp) : J l M_cPa_addPlace (KWv (fun g => fu g H)) (cPa_addPlace o a1 G) 0 [(2, o), (0, a1)] [] 224 (fu G H) (0, 0) := by
  unfold cPa_addPlace
  refine j_aload_n dX3_addPlace_0 rfl rfl ?_
  refine j_gic dX3_addPlace_1 gf_X3_32 (oc_paper ho) ?_
  refine j_bipush dX3_addPlace_4 r32_8 bp_8 ?_
  refine j_icmp_ge (tgt := 35) dX3_addPlace_6 rfl (fun h6 => ?_) (fun h6 => ?_)
  · refine j_aload_n dX3_addPlace_9 rfl rfl ?_
    refine j_aload_n dX3_addPlace_10 rfl rfl ?_
    refine j_gic dX3_addPlace_11 gf_X3_28 (oc_paper ho) ?_
    refine j_aload_n dX3_addPlace_14 rfl rfl ?_
    refine j_gic dX3_addPlace_15 gf_X3_32 (oc_paper ho) ?_
    refine j_iload_n dX3_addPlace_18 rfl rfl ?_
    refine j_cSRip dX3_addPlace_19 sm_cX_put lk_X3_49 rfl (As := [(0, G o 0), (0, G o 1), (0, a1)]) (S := [(2, o)]) rfl ⟨by decide, by decide⟩ (Nat.le_of_ble_eq_true rfl) (cX_put_ct (G o 0) (G o 1) a1) ?_
    refine j_pic dX3_addPlace_22 gf_X3_28 po_3_0 (oc_paper ho) (nf_3_0 _) ?_
    refine j_aload_n dX3_addPlace_25 rfl rfl ?_
    refine j_dup dX3_addPlace_26 (by decide) ?_
    refine j_gic dX3_addPlace_27 gf_X3_32 (oc_paper ho) ?_
    refine j_iconst dX3_addPlace_30 r32_1 ?_
    refine j_iadd dX3_addPlace_31 ?_
    refine j_pic dX3_addPlace_32 gf_X3_32 po_3_1 (oc_paper ho) (nf_3_1 _) ?_
    exact j_return dX3_addPlace_35 rfl rfl (Nat.zero_le _) (Nat.zero_le _)
  · exact j_return dX3_addPlace_35 rfl rfl (Nat.zero_le _) (Nat.zero_le _)

set_option maxRecDepth 100000 in
theorem cPa_addPlace_ct {l : Launch} {H : Hp} (o : Int) (ho : isPaper o) (a1 : Int) (G : Hp) {r : Hp} (h : cPa_addPlace o a1 G = some r) : Ct l M_cPa_addPlace [(2, o), (0, a1)] 224 (fu G H) ((KWv (fun g => fu g H)) r) :=
  ct_of_J (by decide +kernel) rfl (Nat.le_of_ble_eq_true rfl) (cPa_addPlace_J o ho a1 G) h
set_option maxRecDepth 100000 in
theorem cX_isWord_J {l : Launch} {Ch : Hp} (a0 : Int) : J l M_cX_isWord (KRb Ch) (some (cX_isWord a0)) 0 [(0, a0)] [] 224 Ch (0, 0) := by
  unfold cX_isWord
  refine j_iload_n dX10_isWord_0 rfl rfl ?_
  rw [some_ite]
  refine j_if_lt (tgt := 14) dX10_isWord_1 rfl (fun h1 => ?_) (fun h1 => ?_)
  · refine j_iconst dX10_isWord_14 r32_0 ?_
    exact j_zreturn (b := false) dX10_isWord_15 rfl rfl (Nat.zero_le _) (Nat.zero_le _)
  · refine j_iload_n dX10_isWord_4 rfl rfl ?_
    refine j_bipush dX10_isWord_5 r32_10 bp_10 ?_
    rw [some_ite]
    refine j_icmp_ge (tgt := 14) dX10_isWord_7 rfl (fun h7 => ?_) (fun h7 => ?_)
    · refine j_iconst dX10_isWord_10 r32_1 ?_
      refine j_goto (tgt := 15) dX10_isWord_11 rfl ?_
      exact j_zreturn (b := true) dX10_isWord_15 rfl rfl (Nat.zero_le _) (Nat.zero_le _)
    · refine j_iconst dX10_isWord_14 r32_0 ?_
      exact j_zreturn (b := false) dX10_isWord_15 rfl rfl (Nat.zero_le _) (Nat.zero_le _)

set_option maxRecDepth 100000 in
theorem cX_isWord_ct {l : Launch} {Ch : Hp} (a0 : Int) : Ct l M_cX_isWord [(0, a0)] 224 Ch (KRb Ch (cX_isWord a0)) :=
  ct_of_J (by decide +kernel) rfl (Nat.le_of_ble_eq_true rfl) (cX_isWord_J a0) rfl
set_option maxRecDepth 100000 in
theorem cNe_join_J {l : Launch} {H : Hp} (o : Int) (ho : isNet o) (a1 : Int) (a2 : Int) (G : Hp) : J l M_cNe_join (KWv (fun g => fu g H)) (cNe_join o a1 a2 G) 0 [(2, o), (0, a1), (0, a2)] [] 224 (fu G H) (0, 0) := by
  unfold cNe_join
  refine j_iload_n dX2_join_0 rfl rfl ?_
  refine j_cSRbp dX2_join_1 sm_cX_isWord lk_X2_29 rfl (As := [(0, a1)]) (S := []) rfl ⟨by decide, by decide⟩ (Nat.le_of_ble_eq_true rfl) (cX_isWord_ct a1) ?_
  refine j_ifb_eq (tgt := 43) dX2_join_4 rfl (fun h4 => ?_) (fun h4 => ?_)
  · refine j_iload_n dX2_join_7 rfl rfl ?_
    refine j_cSRbp dX2_join_8 sm_cX_isWord lk_X2_29 rfl (As := [(0, a2)]) (S := []) rfl ⟨by decide, by decide⟩ (Nat.le_of_ble_eq_true rfl) (cX_isWord_ct a2) ?_
    refine j_ifb_eq (tgt := 43) dX2_join_11 rfl (fun h11 => ?_) (fun h11 => ?_)
    · refine j_aload_n dX2_join_14 rfl rfl ?_
      refine j_grc dX2_join_15 gf_X2_9 (oc_net ho) (Or.inl (by decide)) (rf_net_0 ho) ?_
      refine j_iload_n dX2_join_18 rfl rfl ?_
      refine j_dup2 dX2_join_19 (by decide) (by decide) ?_
      refine j_gd (fun h20a h20b => ?_)
      refine j_aic dX2_join_20 (oc_net_1 ho) rfl h20a h20b ?_
      refine j_iconst dX2_join_21 r32_1 ?_
      refine j_iload_n dX2_join_22 rfl rfl ?_
      refine j_ishl dX2_join_23 ?_
      refine j_ior dX2_join_24 ?_
      refine j_gd (fun h25a h25b => ?_)
      refine j_sic dX2_join_25 (oc_net_1 ho) rfl h25a h25b ?_
      refine j_aload_n dX2_join_26 rfl rfl ?_
      refine j_grc dX2_join_27 gf_X2_9 (oc_net ho) (Or.inl (by decide)) (rf_net_0 ho) ?_
      refine j_iload_n dX2_join_30 rfl rfl ?_
      refine j_dup2 dX2_join_31 (by decide) (by decide) ?_
      refine j_gd (fun h32a h32b => ?_)
      refine j_aic dX2_join_32 (oc_net_1 ho) rfl h32a h32b ?_
      refine j_iconst dX2_join_33 r32_1 ?_
      refine j_iload_n dX2_join_34 rfl rfl ?_
      refine j_ishl dX2_join_35 ?_
      refine j_ior dX2_join_36 ?_
      refine j_gd (fun h37a h37b => ?_)
      refine j_sic dX2_join_37 (oc_net_1 ho) rfl h37a h37b ?_
      refine j_aload_n dX2_join_38 rfl rfl ?_
      refine j_iconst dX2_join_39 r32_0 ?_
      refine j_pic dX2_join_40 gf_X2_21 po_2_3 (oc_net ho) (nf_2_3 _) ?_
      exact j_return dX2_join_43 rfl rfl (Nat.zero_le _) (Nat.zero_le _)
    · exact j_return dX2_join_43 rfl rfl (Nat.zero_le _) (Nat.zero_le _)
  · exact j_return dX2_join_43 rfl rfl (Nat.zero_le _) (Nat.zero_le _)

set_option maxRecDepth 100000 in
theorem cNe_join_ct {l : Launch} {H : Hp} (o : Int) (ho : isNet o) (a1 : Int) (a2 : Int) (G : Hp) {r : Hp} (h : cNe_join o a1 a2 G = some r) : Ct l M_cNe_join [(2, o), (0, a1), (0, a2)] 224 (fu G H) ((KWv (fun g => fu g H)) r) :=
  ct_of_J (by decide +kernel) rfl (Nat.le_of_ble_eq_true rfl) (cNe_join_J o ho a1 a2 G) h
set_option maxRecDepth 100000 in
theorem cPa_addReader_J {l : Launch} {H : Hp} (o : Int) (ho : isPaper o) (a1 : Int) (a2 : Int) (G : Hp) : J l M_cPa_addReader (KWv (fun g => fu g H)) (cPa_addReader o a1 a2 G) 0 [(2, o), (0, a1), (0, a2)] [] 224 (fu G H) (0, 0) := by
  unfold cPa_addReader
  refine j_aload_n dX3_addReader_0 rfl rfl ?_
  refine j_gic dX3_addReader_1 gf_X3_35 (oc_paper ho) ?_
  refine j_bipush dX3_addReader_4 r32_6 bp_6 ?_
  refine j_icmp_ge (tgt := 39) dX3_addReader_6 rfl (fun h6 => ?_) (fun h6 => ?_)
  · refine j_aload_n dX3_addReader_9 rfl rfl ?_
    refine j_grc dX3_addReader_10 gf_X3_18 (oc_paper ho) (Or.inl (by decide)) (rf_paper_4 ho) ?_
    refine j_aload_n dX3_addReader_13 rfl rfl ?_
    refine j_gic dX3_addReader_14 gf_X3_35 (oc_paper ho) ?_
    refine j_iload_n dX3_addReader_17 rfl rfl ?_
    refine j_gd (fun h18a h18b => ?_)
    refine j_sic dX3_addReader_18 (oc_paper_5 ho) rfl h18a h18b ?_
    refine j_aload_n dX3_addReader_19 rfl rfl ?_
    refine j_grc dX3_addReader_20 gf_X3_22 (oc_paper ho) (Or.inl (by decide)) (rf_paper_5 ho) ?_
    refine j_aload_n dX3_addReader_23 rfl rfl ?_
    refine j_gic dX3_addReader_24 gf_X3_35 (oc_paper ho) ?_
    refine j_iload_n dX3_addReader_27 rfl rfl ?_
    refine j_gd (fun h28a h28b => ?_)
    refine j_sic dX3_addReader_28 (oc_paper_6 ho) rfl h28a h28b ?_
    refine j_aload_n dX3_addReader_29 rfl rfl ?_
    refine j_dup dX3_addReader_30 (by decide) ?_
    refine j_gic dX3_addReader_31 gf_X3_35 (oc_paper ho) ?_
    refine j_iconst dX3_addReader_34 r32_1 ?_
    refine j_iadd dX3_addReader_35 ?_
    refine j_pic dX3_addReader_36 gf_X3_35 po_3_2 (oc_paper ho) (nf_3_2 _) ?_
    exact j_return dX3_addReader_39 rfl rfl (Nat.zero_le _) (Nat.zero_le _)
  · exact j_return dX3_addReader_39 rfl rfl (Nat.zero_le _) (Nat.zero_le _)

set_option maxRecDepth 100000 in
theorem cPa_addReader_ct {l : Launch} {H : Hp} (o : Int) (ho : isPaper o) (a1 : Int) (a2 : Int) (G : Hp) {r : Hp} (h : cPa_addReader o a1 a2 G = some r) : Ct l M_cPa_addReader [(2, o), (0, a1), (0, a2)] 224 (fu G H) ((KWv (fun g => fu g H)) r) :=
  ct_of_J (by decide +kernel) rfl (Nat.le_of_ble_eq_true rfl) (cPa_addReader_J o ho a1 a2 G) h
set_option maxRecDepth 100000 in
theorem cPa_want_J {l : Launch} {H : Hp} (o : Int) (ho : isPaper o) (a1 : Int) (a2 : Int) (a3 : Int) (G : Hp) : J l M_cPa_want (KWv (fun g => fu g H)) (cPa_want o a1 a2 a3 G) 0 [(2, o), (0, a1), (0, a2), (0, a3)] [] 224 (fu G H) (0, 0) := by
  unfold cPa_want
  refine j_iload_n dX3_want_0 rfl rfl ?_
  refine j_if_lt (tgt := 32) dX3_want_1 rfl (fun h1 => ?_) (fun h1 => ?_)
  · exact j_return dX3_want_32 rfl rfl (Nat.zero_le _) (Nat.zero_le _)
  · refine j_iload_n dX3_want_4 rfl rfl ?_
    refine j_bipush dX3_want_5 r32_6 bp_6 ?_
    refine j_icmp_ge (tgt := 32) dX3_want_7 rfl (fun h7 => ?_) (fun h7 => ?_)
    · refine j_iload_n dX3_want_10 rfl rfl ?_
      refine j_if_lt (tgt := 32) dX3_want_11 rfl (fun h11 => ?_) (fun h11 => ?_)
      · exact j_return dX3_want_32 rfl rfl (Nat.zero_le _) (Nat.zero_le _)
      · refine j_iload_n dX3_want_14 rfl rfl ?_
        refine j_bipush dX3_want_15 r32_8 bp_8 ?_
        refine j_icmp_ge (tgt := 32) dX3_want_17 rfl (fun h17 => ?_) (fun h17 => ?_)
        · refine j_aload_n dX3_want_20 rfl rfl ?_
          refine j_grc dX3_want_21 gf_X3_25 (oc_paper ho) (Or.inl (by decide)) (rf_paper_6 ho) ?_
          refine j_bipush dX3_want_24 r32_8 bp_8 ?_
          refine j_iload_n dX3_want_26 rfl rfl ?_
          refine j_imul dX3_want_27 ?_
          refine j_iload_n dX3_want_28 rfl rfl ?_
          refine j_iadd dX3_want_29 ?_
          refine j_iload_n dX3_want_30 rfl rfl ?_
          refine j_gd (fun h31a h31b => ?_)
          refine j_sic dX3_want_31 (oc_paper_7 ho) rfl h31a h31b ?_
          exact j_return dX3_want_32 rfl rfl (Nat.zero_le _) (Nat.zero_le _)
        · exact j_return dX3_want_32 rfl rfl (Nat.zero_le _) (Nat.zero_le _)
    · exact j_return dX3_want_32 rfl rfl (Nat.zero_le _) (Nat.zero_le _)

set_option maxRecDepth 100000 in
theorem cPa_want_ct {l : Launch} {H : Hp} (o : Int) (ho : isPaper o) (a1 : Int) (a2 : Int) (a3 : Int) (G : Hp) {r : Hp} (h : cPa_want o a1 a2 a3 G = some r) : Ct l M_cPa_want [(2, o), (0, a1), (0, a2), (0, a3)] 224 (fu G H) ((KWv (fun g => fu g H)) r) :=
  ct_of_J (by decide +kernel) rfl (Nat.le_of_ble_eq_true rfl) (cPa_want_J o ho a1 a2 a3 G) h
set_option maxRecDepth 100000 in
theorem cLg_add_J {l : Launch} {H : Hp} (o : Int) (ho : isLog o) (a1 : Int) (a2 : Int) (G : Hp) : J l M_cLg_add (KWv (fun g => fu g H)) (cLg_add o a1 a2 G) 0 [(2, o), (0, a1), (0, a2)] [] 224 (fu G H) (0, 0) := by
  unfold cLg_add
  refine j_aload_n dX0_add_0 rfl rfl ?_
  refine j_gic dX0_add_1 gf_X0_18 (oc_log ho) ?_
  refine j_bipush dX0_add_4 r32_8 bp_8 ?_
  refine j_icmp_ge (tgt := 39) dX0_add_6 rfl (fun h6 => ?_) (fun h6 => ?_)
  · refine j_aload_n dX0_add_9 rfl rfl ?_
    refine j_grc dX0_add_10 gf_X0_9 (oc_log ho) (Or.inl (by decide)) (rf_log_1 ho) ?_
    refine j_aload_n dX0_add_13 rfl rfl ?_
    refine j_gic dX0_add_14 gf_X0_18 (oc_log ho) ?_
    refine j_iload_n dX0_add_17 rfl rfl ?_
    refine j_gd (fun h18a h18b => ?_)
    refine j_sic dX0_add_18 (oc_log_1 ho) rfl h18a h18b ?_
    refine j_aload_n dX0_add_19 rfl rfl ?_
    refine j_grc dX0_add_20 gf_X0_15 (oc_log ho) (Or.inl (by decide)) (rf_log_2 ho) ?_
    refine j_aload_n dX0_add_23 rfl rfl ?_
    refine j_gic dX0_add_24 gf_X0_18 (oc_log ho) ?_
    refine j_iload_n dX0_add_27 rfl rfl ?_
    refine j_gd (fun h28a h28b => ?_)
    refine j_sic dX0_add_28 (oc_log_2 ho) rfl h28a h28b ?_
    refine j_aload_n dX0_add_29 rfl rfl ?_
    refine j_dup dX0_add_30 (by decide) ?_
    refine j_gic dX0_add_31 gf_X0_18 (oc_log ho) ?_
    refine j_iconst dX0_add_34 r32_1 ?_
    refine j_iadd dX0_add_35 ?_
    refine j_pic dX0_add_36 gf_X0_18 po_0_0 (oc_log ho) (nf_0_0 _) ?_
    exact j_return dX0_add_39 rfl rfl (Nat.zero_le _) (Nat.zero_le _)
  · exact j_return dX0_add_39 rfl rfl (Nat.zero_le _) (Nat.zero_le _)

set_option maxRecDepth 100000 in
theorem cLg_add_ct {l : Launch} {H : Hp} (o : Int) (ho : isLog o) (a1 : Int) (a2 : Int) (G : Hp) {r : Hp} (h : cLg_add o a1 a2 G = some r) : Ct l M_cLg_add [(2, o), (0, a1), (0, a2)] 224 (fu G H) ((KWv (fun g => fu g H)) r) :=
  ct_of_J (by decide +kernel) rfl (Nat.le_of_ble_eq_true rfl) (cLg_add_J o ho a1 a2 G) h
set_option maxRecDepth 100000 in
theorem cWe_add_J {l : Launch} {H : Hp} (o : Int) (ho : isWeek o) (a1 : Int) (a2 : Int) (a3 : Int) (G : Hp) : J l M_cWe_add (KWv (fun g => fu g H)) (cWe_add o a1 a2 a3 G) 0 [(2, o), (0, a1), (0, a2), (0, a3)] [] 224 (fu G H) (0, 0) := by
  unfold cWe_add
  refine j_aload_n dX9_add_0 rfl rfl ?_
  refine j_gic dX9_add_1 gf_X9_21 (oc_week ho) ?_
  refine j_bipush dX9_add_4 r32_60 bp_60 ?_
  refine j_icmp_ge (tgt := 49) dX9_add_6 rfl (fun h6 => ?_) (fun h6 => ?_)
  · refine j_aload_n dX9_add_9 rfl rfl ?_
    refine j_grc dX9_add_10 gf_X9_9 (oc_week ho) (Or.inl (by decide)) (rf_week_1 ho) ?_
    refine j_aload_n dX9_add_13 rfl rfl ?_
    refine j_gic dX9_add_14 gf_X9_21 (oc_week ho) ?_
    refine j_iload_n dX9_add_17 rfl rfl ?_
    refine j_gd (fun h18a h18b => ?_)
    refine j_sic dX9_add_18 (oc_week_1 ho) rfl h18a h18b ?_
    refine j_aload_n dX9_add_19 rfl rfl ?_
    refine j_grc dX9_add_20 gf_X9_15 (oc_week ho) (Or.inl (by decide)) (rf_week_2 ho) ?_
    refine j_aload_n dX9_add_23 rfl rfl ?_
    refine j_gic dX9_add_24 gf_X9_21 (oc_week ho) ?_
    refine j_iload_n dX9_add_27 rfl rfl ?_
    refine j_gd (fun h28a h28b => ?_)
    refine j_sic dX9_add_28 (oc_week_2 ho) rfl h28a h28b ?_
    refine j_aload_n dX9_add_29 rfl rfl ?_
    refine j_grc dX9_add_30 gf_X9_18 (oc_week ho) (Or.inl (by decide)) (rf_week_3 ho) ?_
    refine j_aload_n dX9_add_33 rfl rfl ?_
    refine j_gic dX9_add_34 gf_X9_21 (oc_week ho) ?_
    refine j_iload_n dX9_add_37 rfl rfl ?_
    refine j_gd (fun h38a h38b => ?_)
    refine j_sic dX9_add_38 (oc_week_3 ho) rfl h38a h38b ?_
    refine j_aload_n dX9_add_39 rfl rfl ?_
    refine j_dup dX9_add_40 (by decide) ?_
    refine j_gic dX9_add_41 gf_X9_21 (oc_week ho) ?_
    refine j_iconst dX9_add_44 r32_1 ?_
    refine j_iadd dX9_add_45 ?_
    refine j_pic dX9_add_46 gf_X9_21 po_9_0 (oc_week ho) (nf_9_0 _) ?_
    exact j_return dX9_add_49 rfl rfl (Nat.zero_le _) (Nat.zero_le _)
  · exact j_return dX9_add_49 rfl rfl (Nat.zero_le _) (Nat.zero_le _)

set_option maxRecDepth 100000 in
theorem cWe_add_ct {l : Launch} {H : Hp} (o : Int) (ho : isWeek o) (a1 : Int) (a2 : Int) (a3 : Int) (G : Hp) {r : Hp} (h : cWe_add o a1 a2 a3 G = some r) : Ct l M_cWe_add [(2, o), (0, a1), (0, a2), (0, a3)] 224 (fu G H) ((KWv (fun g => fu g H)) r) :=
  ct_of_J (by decide +kernel) rfl (Nat.le_of_ble_eq_true rfl) (cWe_add_J o ho a1 a2 a3 G) h
set_option maxRecDepth 100000 in
theorem cSc_keep_j223_J {l : Launch} {H : Hp} (a1 : Int) (s0_223 : Int) (s1_223 : Int) (s2_223 : Int) (G_223 : Hp) : J l M_cSc_keep (KWv (fun g => fu g H)) (cSc_keep_j223 a1  s0_223 s1_223 s2_223 G_223) 223 [(9, 0), (9, 0), (9, 0)] [(0, s0_223), (0, s1_223), (0, s2_223), (2, 48)] 224 (fu G_223 H) (0, 0) := by
  unfold cSc_keep_j223
  refine j_cVWv dX6_keep_223 im_cWe_add lk_X6_193 rfl (As := [(0, s2_223), (0, s1_223), (0, s0_223)]) (S := []) rfl oc_48.1 ⟨by decide, by decide⟩ (Nat.le_of_ble_eq_true rfl) (fun r hr => cWe_add_ct 48 isWeek_48 s2_223 s1_223 s0_223 G_223 hr) (fun G223 _ => ?_)
  exact j_return dX6_keep_226 rfl rfl (Nat.zero_le _) (Nat.zero_le _)

set_option maxRecDepth 100000 in
theorem cSc_keep_j208_J {l : Launch} {H : Hp} (a1 : Int) (x2_208 : Int) (s0_208 : Int) (s1_208 : Int) (G_208 : Hp) : J l M_cSc_keep (KWv (fun g => fu g H)) (cSc_keep_j208 a1  x2_208 s0_208 s1_208 G_208) 208 [(2, 39), (9, 0), (0, x2_208)] [(0, s0_208), (0, s1_208), (2, 48)] 224 (fu G_208 H) (0, 0) := by
  unfold cSc_keep_j208
  refine j_iload_n dX6_keep_208 rfl rfl ?_
  refine j_iconst dX6_keep_209 r32_1 ?_
  refine j_icmp_le (tgt := 222) dX6_keep_210 rfl (fun h210 => ?_) (fun h210 => ?_)
  · refine j_aload_n dX6_keep_213 rfl rfl ?_
    refine j_grc dX6_keep_214 gf_X6_36 oc_39 (Or.inl (by decide)) rf_39_11 ?_
    refine j_iconst dX6_keep_217 r32_1 ?_
    refine j_aic dX6_keep_218 oc_56 rfl (by decide) (by decide) ?_
    refine j_goto (tgt := 223) dX6_keep_219 rfl ?_
    exact j_mask [false, false, false] rfl (cSc_keep_j223_J a1 (G_208 56 1) s0_208 s1_208 G_208)
  · refine j_iconst dX6_keep_222 r32_m1 ?_
    exact j_mask [false, false, false] rfl (cSc_keep_j223_J a1 (-1) s0_208 s1_208 G_208)

set_option maxRecDepth 100000 in
theorem cSc_keep_J {l : Launch} {H : Hp} (a1 : Int) (G : Hp) : J l M_cSc_keep (KWv (fun g => fu g H)) (cSc_keep a1 G) 0 [(2, 39), (0, a1), (9, 0)] [] 224 (fu G H) (0, 0) := by
  unfold cSc_keep
  refine j_iload_n dX6_keep_0 rfl rfl ?_
  refine j_ite _ (fun hc1_6 => ?_) (fun hc1_6 => ?_)
  · refine j_swIn (i := 0) (tgt := 36) dX6_keep_1 (hc1_6.trans (by decide)) (by decide) rfl rfl ?_
    refine j_aload_n dX6_keep_36 rfl rfl ?_
    refine j_grc dX6_keep_37 gf_X6_12 oc_39 (Or.inl (by decide)) rf_39_0 ?_
    refine j_aload_n dX6_keep_40 rfl rfl ?_
    refine j_grc dX6_keep_41 gf_X6_36 oc_39 (Or.inl (by decide)) rf_39_11 ?_
    refine j_iconst dX6_keep_44 r32_0 ?_
    refine j_aic dX6_keep_45 oc_56 rfl (by decide) (by decide) ?_
    refine j_cVWv dX6_keep_46 im_cPa_addPlace lk_X6_172 rfl (As := [(0, G 56 0)]) (S := []) rfl oc_40.1 ⟨by decide, by decide⟩ (Nat.le_of_ble_eq_true rfl) (fun r hr => cPa_addPlace_ct 40 isPaper_40 (G 56 0) G hr) (fun G46 _ => ?_)
    refine j_goto (tgt := 226) dX6_keep_49 rfl ?_
    exact j_return dX6_keep_226 rfl rfl (Nat.zero_le _) (Nat.zero_le _)
  · refine j_ite _ (fun hc1_7 => ?_) (fun hc1_7 => ?_)
    · refine j_swIn (i := 1) (tgt := 52) dX6_keep_1 (hc1_7.trans (by decide)) (by decide) rfl rfl ?_
      refine j_aload_n dX6_keep_52 rfl rfl ?_
      refine j_grc dX6_keep_53 gf_X6_12 oc_39 (Or.inl (by decide)) rf_39_0 ?_
      refine j_grc dX6_keep_56 gf_X6_175 oc_40 (Or.inl (by decide)) rf_40_3 ?_
      refine j_aload_n dX6_keep_59 rfl rfl ?_
      refine j_grc dX6_keep_60 gf_X6_36 oc_39 (Or.inl (by decide)) rf_39_11 ?_
      refine j_iconst dX6_keep_63 r32_0 ?_
      refine j_aic dX6_keep_64 oc_56 rfl (by decide) (by decide) ?_
      refine j_aload_n dX6_keep_65 rfl rfl ?_
      refine j_grc dX6_keep_66 gf_X6_36 oc_39 (Or.inl (by decide)) rf_39_11 ?_
      refine j_iconst dX6_keep_69 r32_1 ?_
      refine j_aic dX6_keep_70 oc_56 rfl (by decide) (by decide) ?_
      refine j_cVWv dX6_keep_71 im_cNe_join lk_X6_179 rfl (As := [(0, G 56 0), (0, G 56 1)]) (S := []) rfl oc_41.1 ⟨by decide, by decide⟩ (Nat.le_of_ble_eq_true rfl) (fun r hr => cNe_join_ct 41 isNet_41 (G 56 0) (G 56 1) G hr) (fun G71 _ => ?_)
      refine j_goto (tgt := 226) dX6_keep_74 rfl ?_
      exact j_return dX6_keep_226 rfl rfl (Nat.zero_le _) (Nat.zero_le _)
    · refine j_ite _ (fun hc1_8 => ?_) (fun hc1_8 => ?_)
      · refine j_swIn (i := 2) (tgt := 77) dX6_keep_1 (hc1_8.trans (by decide)) (by decide) rfl rfl ?_
        refine j_aload_n dX6_keep_77 rfl rfl ?_
        refine j_grc dX6_keep_78 gf_X6_12 oc_39 (Or.inl (by decide)) rf_39_0 ?_
        refine j_aload_n dX6_keep_81 rfl rfl ?_
        refine j_grc dX6_keep_82 gf_X6_36 oc_39 (Or.inl (by decide)) rf_39_11 ?_
        refine j_iconst dX6_keep_85 r32_0 ?_
        refine j_aic dX6_keep_86 oc_56 rfl (by decide) (by decide) ?_
        refine j_aload_n dX6_keep_87 rfl rfl ?_
        refine j_grc dX6_keep_88 gf_X6_36 oc_39 (Or.inl (by decide)) rf_39_11 ?_
        refine j_iconst dX6_keep_91 r32_1 ?_
        refine j_aic dX6_keep_92 oc_56 rfl (by decide) (by decide) ?_
        refine j_cVWv dX6_keep_93 im_cPa_addReader lk_X6_183 rfl (As := [(0, G 56 0), (0, G 56 1)]) (S := []) rfl oc_40.1 ⟨by decide, by decide⟩ (Nat.le_of_ble_eq_true rfl) (fun r hr => cPa_addReader_ct 40 isPaper_40 (G 56 0) (G 56 1) G hr) (fun G93 _ => ?_)
        refine j_goto (tgt := 226) dX6_keep_96 rfl ?_
        exact j_return dX6_keep_226 rfl rfl (Nat.zero_le _) (Nat.zero_le _)
      · refine j_ite _ (fun hc1_9 => ?_) (fun hc1_9 => ?_)
        · refine j_swIn (i := 3) (tgt := 99) dX6_keep_1 (hc1_9.trans (by decide)) (by decide) rfl rfl ?_
          refine j_aload_n dX6_keep_99 rfl rfl ?_
          refine j_grc dX6_keep_100 gf_X6_12 oc_39 (Or.inl (by decide)) rf_39_0 ?_
          refine j_aload_n dX6_keep_103 rfl rfl ?_
          refine j_grc dX6_keep_104 gf_X6_36 oc_39 (Or.inl (by decide)) rf_39_11 ?_
          refine j_iconst dX6_keep_107 r32_0 ?_
          refine j_aic dX6_keep_108 oc_56 rfl (by decide) (by decide) ?_
          refine j_aload_n dX6_keep_109 rfl rfl ?_
          refine j_grc dX6_keep_110 gf_X6_36 oc_39 (Or.inl (by decide)) rf_39_11 ?_
          refine j_iconst dX6_keep_113 r32_1 ?_
          refine j_aic dX6_keep_114 oc_56 rfl (by decide) (by decide) ?_
          refine j_aload_n dX6_keep_115 rfl rfl ?_
          refine j_grc dX6_keep_116 gf_X6_36 oc_39 (Or.inl (by decide)) rf_39_11 ?_
          refine j_iconst dX6_keep_119 r32_2 ?_
          refine j_aic dX6_keep_120 oc_56 rfl (by decide) (by decide) ?_
          refine j_cVWv dX6_keep_121 im_cPa_want lk_X6_186 rfl (As := [(0, G 56 0), (0, G 56 1), (0, G 56 2)]) (S := []) rfl oc_40.1 ⟨by decide, by decide⟩ (Nat.le_of_ble_eq_true rfl) (fun r hr => cPa_want_ct 40 isPaper_40 (G 56 0) (G 56 1) (G 56 2) G hr) (fun G121 _ => ?_)
          refine j_aload_n dX6_keep_124 rfl rfl ?_
          refine j_aload_n dX6_keep_125 rfl rfl ?_
          refine j_gic dX6_keep_126 gf_X6_77 oc_39 ?_
          refine j_aload_n dX6_keep_129 rfl rfl ?_
          refine j_grc dX6_keep_130 gf_X6_36 oc_39 (Or.inl (by decide)) rf_39_11 ?_
          refine j_iconst dX6_keep_133 r32_0 ?_
          refine j_aic dX6_keep_134 oc_56 rfl (by decide) (by decide) ?_
          refine j_max dX6_keep_135 mm_X6_46 st_max in_Math co_max (Nat.le_of_ble_eq_true rfl) (Nat.le_of_ble_eq_true rfl) (Nat.zero_le _) (Nat.zero_le _) ?_
          refine j_pic dX6_keep_138 gf_X6_77 po_6_12 oc_39 (nf_6_12 _) ?_
          refine j_aload_n dX6_keep_141 rfl rfl ?_
          refine j_aload_n dX6_keep_142 rfl rfl ?_
          refine j_gic dX6_keep_143 gf_X6_80 oc_39 ?_
          refine j_aload_n dX6_keep_146 rfl rfl ?_
          refine j_grc dX6_keep_147 gf_X6_36 oc_39 (Or.inl (by decide)) rf_39_11 ?_
          refine j_iconst dX6_keep_150 r32_1 ?_
          refine j_aic dX6_keep_151 oc_56 rfl (by decide) (by decide) ?_
          refine j_max dX6_keep_152 mm_X6_46 st_max in_Math co_max (Nat.le_of_ble_eq_true rfl) (Nat.le_of_ble_eq_true rfl) (Nat.zero_le _) (Nat.zero_le _) ?_
          refine j_pic dX6_keep_155 gf_X6_80 po_6_13 oc_39 (nf_6_13 _) ?_
          refine j_goto (tgt := 226) dX6_keep_158 rfl ?_
          exact j_return dX6_keep_226 rfl rfl (Nat.zero_le _) (Nat.zero_le _)
        · refine j_ite _ (fun hc1_10 => ?_) (fun hc1_10 => ?_)
          · refine j_swIn (i := 4) (tgt := 161) dX6_keep_1 (hc1_10.trans (by decide)) (by decide) rfl rfl ?_
            refine j_aload_n dX6_keep_161 rfl rfl ?_
            refine j_grc dX6_keep_162 gf_X6_28 oc_39 (Or.inl (by decide)) rf_39_2 ?_
            refine j_aload_n dX6_keep_165 rfl rfl ?_
            refine j_grc dX6_keep_166 gf_X6_36 oc_39 (Or.inl (by decide)) rf_39_11 ?_
            refine j_iconst dX6_keep_169 r32_0 ?_
            refine j_aic dX6_keep_170 oc_56 rfl (by decide) (by decide) ?_
            refine j_aload_n dX6_keep_171 rfl rfl ?_
            refine j_grc dX6_keep_172 gf_X6_36 oc_39 (Or.inl (by decide)) rf_39_11 ?_
            refine j_iconst dX6_keep_175 r32_1 ?_
            refine j_aic dX6_keep_176 oc_56 rfl (by decide) (by decide) ?_
            refine j_cVWv dX6_keep_177 im_cLg_add lk_X6_190 rfl (As := [(0, G 56 0), (0, G 56 1)]) (S := []) rfl oc_52.1 ⟨by decide, by decide⟩ (Nat.le_of_ble_eq_true rfl) (fun r hr => cLg_add_ct 52 isLog_52 (G 56 0) (G 56 1) G hr) (fun G177 _ => ?_)
            refine j_goto (tgt := 226) dX6_keep_180 rfl ?_
            exact j_return dX6_keep_226 rfl rfl (Nat.zero_le _) (Nat.zero_le _)
          · refine j_swOut (tgt := 183) dX6_keep_1 (by omega) rfl ?_
            refine j_stat (i := 0) dX6_keep_183 (by decide) st_X6_117 ?_
            refine j_iload_n dX6_keep_186 rfl rfl ?_
            refine j_gd (fun h187a h187b => ?_)
            refine j_statld (i := 0) dX6_keep_187 (by decide) h187a h187b ?_
            refine j_istore_n dX6_keep_188 rfl (Nat.le_of_ble_eq_true rfl) rfl ?_
            refine j_aload_n dX6_keep_189 rfl rfl ?_
            refine j_grc dX6_keep_190 gf_X6_21 oc_39 (Or.inl (by decide)) rf_39_1 ?_
            refine j_iload_n dX6_keep_193 rfl rfl ?_
            refine j_iload_n dX6_keep_194 rfl rfl ?_
            refine j_if_le (tgt := 207) dX6_keep_195 rfl (fun h195 => ?_) (fun h195 => ?_)
            · refine j_aload_n dX6_keep_198 rfl rfl ?_
              refine j_grc dX6_keep_199 gf_X6_36 oc_39 (Or.inl (by decide)) rf_39_11 ?_
              refine j_iconst dX6_keep_202 r32_0 ?_
              refine j_aic dX6_keep_203 oc_56 rfl (by decide) (by decide) ?_
              refine j_goto (tgt := 208) dX6_keep_204 rfl ?_
              exact j_mask [true, false, true] rfl (cSc_keep_j208_J a1 (stg 0 a1) (G 56 0) a1 G)
            · refine j_iconst dX6_keep_207 r32_m1 ?_
              exact j_mask [true, false, true] rfl (cSc_keep_j208_J a1 (stg 0 a1) (-1) a1 G)

set_option maxRecDepth 100000 in
theorem cSc_keep_ct {l : Launch} {H : Hp} (a1 : Int) (G : Hp) {r : Hp} (h : cSc_keep a1 G = some r) : Ct l M_cSc_keep [(2, 39), (0, a1)] 224 (fu G H) ((KWv (fun g => fu g H)) r) :=
  ct_of_J (by decide +kernel) rfl (Nat.le_of_ble_eq_true rfl) (cSc_keep_J a1 G) h
set_option maxRecDepth 100000 in
theorem cSc_line_j95_J {l : Launch} {H : Hp} (a1 : Int) (x2_46 : Int) (x3_46 : Int) (k46 : Int → Hp → Option (Hp)) (hk46 : ∀ (x4_46 : Int) (G_46 : Hp), J l M_cSc_line (KWv (fun g => fu g H)) (k46 x4_46 G_46) 46 [(2, 39), (9, 0), (0, x2_46), (0, x3_46), (0, x4_46)] [] 224 (fu G_46 H) (0, 0)) (x4_95 : Int) (G_95 : Hp) : J l M_cSc_line (KWv (fun g => fu g H)) (cSc_line_j95 a1 k46 x2_46 x3_46 x4_95 G_95) 95 [(2, 39), (9, 0), (0, x2_46), (0, x3_46), (0, x4_95)] [] 224 (fu G_95 H) (0, 0) := by
  unfold cSc_line_j95
  refine j_aload_n dX6_line_95 rfl rfl ?_
  refine j_cVWv dX6_line_96 im_cSc_move lk_X6_83 rfl (As := []) (S := []) rfl oc_39.1 ⟨by decide, by decide⟩ (Nat.le_of_ble_eq_true rfl) (fun r hr => cSc_move_ct  G_95 hr) (fun G96 _ => ?_)
  refine j_iinc dX6_line_99 rfl (Nat.le_of_ble_eq_true rfl) rfl ?_
  refine j_goto (tgt := 46) dX6_line_102 rfl ?_
  exact j_mask [true, false, true, true, true] rfl (hk46 (w32 (x4_95 + 1)) G96)

set_option maxRecDepth 100000 in
theorem cSc_line_L46_J {l : Launch} {H : Hp} (a1 : Int) (x2_46 : Int) (x3_46 : Int) (k60 : Hp → Option (Hp)) (hk60 : ∀ (G_60 : Hp), J l M_cSc_line (KWv (fun g => fu g H)) (k60 G_60) 60 [(2, 39), (9, 0), (9, 0), (9, 0), (9, 0)] [] 224 (fu G_60 H) (0, 0)) (k105 : Hp → Option (Hp)) (hk105 : ∀ (G_105 : Hp), J l M_cSc_line (KWv (fun g => fu g H)) (k105 G_105) 105 [(2, 39), (9, 0), (0, x2_46), (9, 0), (9, 0)] [] 224 (fu G_105 H) (0, 0)) : ∀ (n_46 : Nat) (x4_46 : Int) (G_46 : Hp), J l M_cSc_line (KWv (fun g => fu g H)) (cSc_line_L46 a1 x2_46 x3_46 k60 k105 n_46 x4_46 G_46) 46 [(2, 39), (9, 0), (0, x2_46), (0, x3_46), (0, x4_46)] [] 224 (fu G_46 H) (0, 0) := by
  intro n_46
  induction n_46 with
  | zero =>
    intro x4_46 G_46
    exact j_none
  | succ n_46 ih =>
    intro x4_46 G_46
    rw [cSc_line_L46]
    refine j_iload dX6_line_46 rfl ?_
    refine j_iload_n dX6_line_48 rfl rfl ?_
    refine j_icmp_ge (tgt := 105) dX6_line_49 rfl (fun h49 => ?_) (fun h49 => ?_)
    · refine j_aload_n dX6_line_52 rfl rfl ?_
      refine j_gic dX6_line_53 gf_X6_86 oc_39 ?_
      refine j_iconst dX6_line_56 r32_2 ?_
      refine j_icmp_eq (tgt := 65) dX6_line_57 rfl (fun h57 => ?_) (fun h57 => ?_)
      · refine j_aload_n dX6_line_65 rfl rfl ?_
        refine j_grc dX6_line_66 gf_X6_36 oc_39 (Or.inl (by decide)) rf_39_11 ?_
        refine j_iload dX6_line_69 rfl ?_
        refine j_aload_n dX6_line_71 rfl rfl ?_
        refine j_gic dX6_line_72 gf_X6_120 oc_39 ?_
        refine j_gd (fun h75a h75b => ?_)
        refine j_sic dX6_line_75 oc_56 rfl h75a h75b ?_
        refine j_aload_n dX6_line_76 rfl rfl ?_
        refine j_iload_n dX6_line_77 rfl rfl ?_
        refine j_iload dX6_line_78 rfl ?_
        refine j_cVRb dX6_line_80 im_cSc_mayBe lk_X6_123 rfl (As := [(0, x2_46), (0, x4_46)]) (S := []) rfl oc_39.1 ⟨by decide, by decide⟩ (Nat.le_of_ble_eq_true rfl) (fun r hr => cSc_mayBe_ct x2_46 x4_46 (upd2 G_46 56 x4_46 (G_46 39 10)) hr) (fun v80 _ => ?_)
        refine j_ifb_ne (tgt := 95) dX6_line_83 rfl (fun h83 => ?_) (fun h83 => ?_)
        · exact j_mask [true, false, true, true, true] rfl (cSc_line_j95_J a1 x2_46 x3_46 (cSc_line_L46 a1 x2_46 x3_46 k60 k105 n_46) ih x4_46 (upd2 G_46 56 x4_46 (G_46 39 10)))
        · refine j_aload_n dX6_line_86 rfl rfl ?_
          refine j_iconst dX6_line_87 r32_2 ?_
          refine j_aload_n dX6_line_88 rfl rfl ?_
          refine j_gic dX6_line_89 gf_X6_114 oc_39 ?_
          refine j_cVWv dX6_line_92 im_cSc_note lk_X6_96 rfl (As := [(0, 2), (0, (upd2 G_46 56 x4_46 (G_46 39 10)) 39 9)]) (S := []) rfl oc_39.1 ⟨by decide, by decide⟩ (Nat.le_of_ble_eq_true rfl) (fun r hr => cSc_note_ct 2 ((upd2 G_46 56 x4_46 (G_46 39 10)) 39 9) (upd2 G_46 56 x4_46 (G_46 39 10)) hr) (fun G92 _ => ?_)
          exact j_mask [true, false, true, true, true] rfl (cSc_line_j95_J a1 x2_46 x3_46 (cSc_line_L46 a1 x2_46 x3_46 k60 k105 n_46) ih x4_46 G92)
      · exact j_mask [true, false, false, false, false] rfl (hk60 G_46)
    · exact j_mask [true, false, true, false, false] rfl (hk105 G_46)

set_option maxRecDepth 100000 in
theorem cSc_line_j33_J {l : Launch} {H : Hp} (a1 : Int) (x2_33 : Int) (G_33 : Hp) : J l M_cSc_line (KWv (fun g => fu g H)) (cSc_line_j33 a1  x2_33 G_33) 33 [(2, 39), (9, 0), (0, x2_33), (9, 0), (9, 0)] [] 224 (fu G_33 H) (0, 0) := by
  unfold cSc_line_j33
  refine j_stat (i := 0) dX6_line_33 (by decide) st_X6_117 ?_
  refine j_iload_n dX6_line_36 rfl rfl ?_
  refine j_gd (fun h37a h37b => ?_)
  refine j_statld (i := 0) dX6_line_37 (by decide) h37a h37b ?_
  refine j_istore_n dX6_line_38 rfl (Nat.le_of_ble_eq_true rfl) rfl ?_
  refine j_aload_n dX6_line_39 rfl rfl ?_
  refine j_cVWv dX6_line_40 im_cSc_move lk_X6_83 rfl (As := []) (S := []) rfl oc_39.1 ⟨by decide, by decide⟩ (Nat.le_of_ble_eq_true rfl) (fun r hr => cSc_move_ct  G_33 hr) (fun G40 _ => ?_)
  refine j_iconst dX6_line_43 r32_0 ?_
  refine j_istore dX6_line_44 (Nat.le_of_ble_eq_true rfl) rfl ?_
  refine j_mask [true, false, true, true, true] rfl (cSc_line_L46_J a1 x2_33 (stg 0 x2_33) (fun G_60 => (cSc_breakOff G_60).bind fun G61 => some G61) (fun G_60 => ?_) (fun G_105 => if G_105 39 8 = 3 then ((cSc_move G_105).bind fun G119 => (cSc_keep x2_33 G119).bind fun G124 => some G124) else ((cSc_breakOff G_105).bind fun G114 => some G114)) (fun G_105 => ?_) FU 0 G40)
  · refine j_aload_n dX6_line_60 rfl rfl ?_
    refine j_cVWv dX6_line_61 im_cSc_breakOff lk_X6_107 rfl (As := []) (S := []) rfl oc_39.1 ⟨by decide, by decide⟩ (Nat.le_of_ble_eq_true rfl) (fun r hr => cSc_breakOff_ct  G_60 hr) (fun G61 _ => ?_)
    exact j_return dX6_line_64 rfl rfl (Nat.zero_le _) (Nat.zero_le _)
  · refine j_aload_n dX6_line_105 rfl rfl ?_
    refine j_gic dX6_line_106 gf_X6_86 oc_39 ?_
    refine j_iconst dX6_line_109 r32_3 ?_
    refine j_icmp_eq (tgt := 118) dX6_line_110 rfl (fun h110 => ?_) (fun h110 => ?_)
    · refine j_aload_n dX6_line_118 rfl rfl ?_
      refine j_cVWv dX6_line_119 im_cSc_move lk_X6_83 rfl (As := []) (S := []) rfl oc_39.1 ⟨by decide, by decide⟩ (Nat.le_of_ble_eq_true rfl) (fun r hr => cSc_move_ct  G_105 hr) (fun G119 _ => ?_)
      refine j_aload_n dX6_line_122 rfl rfl ?_
      refine j_iload_n dX6_line_123 rfl rfl ?_
      refine j_cVWv dX6_line_124 im_cSc_keep lk_X6_127 rfl (As := [(0, x2_33)]) (S := []) rfl oc_39.1 ⟨by decide, by decide⟩ (Nat.le_of_ble_eq_true rfl) (fun r hr => cSc_keep_ct x2_33 G119 hr) (fun G124 _ => ?_)
      exact j_return dX6_line_127 rfl rfl (Nat.zero_le _) (Nat.zero_le _)
    · refine j_aload_n dX6_line_113 rfl rfl ?_
      refine j_cVWv dX6_line_114 im_cSc_breakOff lk_X6_107 rfl (As := []) (S := []) rfl oc_39.1 ⟨by decide, by decide⟩ (Nat.le_of_ble_eq_true rfl) (fun r hr => cSc_breakOff_ct  G_105 hr) (fun G114 _ => ?_)
      exact j_return dX6_line_117 rfl rfl (Nat.zero_le _) (Nat.zero_le _)

set_option maxRecDepth 100000 in
theorem cSc_line_J {l : Launch} {H : Hp} (a1 : Int) (G : Hp) : J l M_cSc_line (KWv (fun g => fu g H)) (cSc_line a1 G) 0 [(2, 39), (0, a1), (9, 0), (9, 0), (9, 0)] [] 224 (fu G H) (0, 0) := by
  unfold cSc_line
  refine j_aload_n dX6_line_0 rfl rfl ?_
  refine j_iload_n dX6_line_1 rfl rfl ?_
  refine j_cVRi dX6_line_2 im_cSc_lineOf lk_X6_103 rfl (As := [(0, a1)]) (S := []) rfl oc_39.1 ⟨by decide, by decide⟩ (Nat.le_of_ble_eq_true rfl) (fun r hr => cSc_lineOf_ct a1 G hr) (fun v2 _ => ?_)
  refine j_istore_n dX6_line_5 rfl (Nat.le_of_ble_eq_true rfl) rfl ?_
  refine j_iload_n dX6_line_6 rfl rfl ?_
  refine j_iconst dX6_line_7 r32_m1 ?_
  refine j_icmp_ne (tgt := 16) dX6_line_8 rfl (fun h8 => ?_) (fun h8 => ?_)
  · refine j_aload_n dX6_line_11 rfl rfl ?_
    refine j_cVWv dX6_line_12 im_cSc_breakOff lk_X6_107 rfl (As := []) (S := []) rfl oc_39.1 ⟨by decide, by decide⟩ (Nat.le_of_ble_eq_true rfl) (fun r hr => cSc_breakOff_ct  G hr) (fun G12 _ => ?_)
    exact j_return dX6_line_15 rfl rfl (Nat.zero_le _) (Nat.zero_le _)
  · refine j_aload_n dX6_line_16 rfl rfl ?_
    refine j_iload_n dX6_line_17 rfl rfl ?_
    refine j_cVRb dX6_line_18 im_cSc_isFull lk_X6_110 rfl (As := [(0, v2)]) (S := []) rfl oc_39.1 ⟨by decide, by decide⟩ (Nat.le_of_ble_eq_true rfl) (fun r hr => cSc_isFull_ct v2 G hr) (fun v18 _ => ?_)
    refine j_ifb_eq (tgt := 33) dX6_line_21 rfl (fun h21 => ?_) (fun h21 => ?_)
    · refine j_aload_n dX6_line_24 rfl rfl ?_
      refine j_iconst dX6_line_25 r32_3 ?_
      refine j_aload_n dX6_line_26 rfl rfl ?_
      refine j_gic dX6_line_27 gf_X6_114 oc_39 ?_
      refine j_cVWv dX6_line_30 im_cSc_note lk_X6_96 rfl (As := [(0, 3), (0, G 39 9)]) (S := []) rfl oc_39.1 ⟨by decide, by decide⟩ (Nat.le_of_ble_eq_true rfl) (fun r hr => cSc_note_ct 3 (G 39 9) G hr) (fun G30 _ => ?_)
      exact j_mask [true, false, true, false, false] rfl (cSc_line_j33_J a1 v2 G30)
    · exact j_mask [true, false, true, false, false] rfl (cSc_line_j33_J a1 v2 G)

set_option maxRecDepth 100000 in
theorem cSc_line_ct {l : Launch} {H : Hp} (a1 : Int) (G : Hp) {r : Hp} (h : cSc_line a1 G = some r) : Ct l M_cSc_line [(2, 39), (0, a1)] 224 (fu G H) ((KWv (fun g => fu g H)) r) :=
  ct_of_J (by decide +kernel) rfl (Nat.le_of_ble_eq_true rfl) (cSc_line_J a1 G) h
set_option maxRecDepth 100000 in
theorem cSc_take_L89_J {l : Launch} {H : Hp} (a2 : Int) (a3 : Int) (k123 : Hp → Option (Hp)) (hk123 : ∀ (G_123 : Hp), J l M_cSc_take (KWv (fun g => fu g H)) (k123 G_123) 123 [(2, 39), (9, 0), (9, 0), (9, 0), (9, 0)] [] 224 (fu G_123 H) (0, 0)) : ∀ (n_89 : Nat) (x4_89 : Int) (G_89 : Hp), J l M_cSc_take (KWv (fun g => fu g H)) (cSc_take_L89 a2 a3 k123 n_89 x4_89 G_89) 89 [(2, 39), (9, 0), (9, 0), (0, a3), (0, x4_89)] [] 224 (fu G_89 H) (0, 0) := by
  intro n_89
  induction n_89 with
  | zero =>
    intro x4_89 G_89
    exact j_none
  | succ n_89 ih =>
    intro x4_89 G_89
    rw [cSc_take_L89]
    refine j_iload dX6_take_89 rfl ?_
    refine j_sipush dX6_take_91 r32_600 sp_600 ?_
    refine j_icmp_ge (tgt := 123) dX6_take_94 rfl (fun h94 => ?_) (fun h94 => ?_)
    · refine j_aload_n dX6_take_97 rfl rfl ?_
      refine j_gic dX6_take_98 gf_X6_86 oc_39 ?_
      refine j_if_eq (tgt := 123) dX6_take_101 rfl (fun h101 => ?_) (fun h101 => ?_)
      · exact j_mask [true, false, false, false, false] rfl (hk123 G_89)
      · refine j_aload_n dX6_take_104 rfl rfl ?_
        refine j_gic dX6_take_105 gf_X6_68 oc_39 ?_
        refine j_iconst dX6_take_108 r32_1 ?_
        refine j_icmp_eq (tgt := 123) dX6_take_109 rfl (fun h109 => ?_) (fun h109 => ?_)
        · exact j_mask [true, false, false, false, false] rfl (hk123 G_89)
        · refine j_aload_n dX6_take_112 rfl rfl ?_
          refine j_iload_n dX6_take_113 rfl rfl ?_
          refine j_cVWv dX6_take_114 im_cSc_line lk_X6_89 rfl (As := [(0, a3)]) (S := []) rfl oc_39.1 ⟨by decide, by decide⟩ (Nat.le_of_ble_eq_true rfl) (fun r hr => cSc_line_ct a3 G_89 hr) (fun G114 _ => ?_)
          refine j_iinc dX6_take_117 rfl (Nat.le_of_ble_eq_true rfl) rfl ?_
          refine j_goto (tgt := 89) dX6_take_120 rfl ?_
          exact j_mask [true, false, false, true, true] rfl (ih (w32 (x4_89 + 1)) G114)
    · exact j_mask [true, false, false, false, false] rfl (hk123 G_89)

set_option maxRecDepth 100000 in
theorem cSc_take_j153_J {l : Launch} {H : Hp} (a2 : Int) (a3 : Int) (G_153 : Hp) : J l M_cSc_take (KWv (fun g => fu g H)) (cSc_take_j153 a2 a3  G_153) 153 [(2, 39), (9, 0), (9, 0), (9, 0), (9, 0)] [] 224 (fu G_153 H) (0, 0) := by
  unfold cSc_take_j153
  refine j_aload_n dX6_take_153 rfl rfl ?_
  refine j_gic dX6_take_154 gf_X6_68 oc_39 ?_
  refine j_if_ne (tgt := 183) dX6_take_157 rfl (fun h157 => ?_) (fun h157 => ?_)
  · refine j_aload_n dX6_take_160 rfl rfl ?_
    refine j_gic dX6_take_161 gf_X6_80 oc_39 ?_
    refine j_aload_n dX6_take_164 rfl rfl ?_
    refine j_grc dX6_take_165 gf_X6_12 oc_39 (Or.inl (by decide)) rf_39_0 ?_
    refine j_gic dX6_take_168 gf_X6_100 oc_40 ?_
    refine j_icmp_lt (tgt := 183) dX6_take_171 rfl (fun h171 => ?_) (fun h171 => ?_)
    · refine j_aload_n dX6_take_174 rfl rfl ?_
      refine j_iconst dX6_take_175 r32_5 ?_
      refine j_aload_n dX6_take_176 rfl rfl ?_
      refine j_gic dX6_take_177 gf_X6_49 oc_39 ?_
      refine j_cVWv dX6_take_180 im_cSc_note lk_X6_96 rfl (As := [(0, 5), (0, G_153 39 6)]) (S := []) rfl oc_39.1 ⟨by decide, by decide⟩ (Nat.le_of_ble_eq_true rfl) (fun r hr => cSc_note_ct 5 (G_153 39 6) G_153 hr) (fun G180 _ => ?_)
      exact j_return dX6_take_183 rfl rfl (Nat.zero_le _) (Nat.zero_le _)
    · exact j_return dX6_take_183 rfl rfl (Nat.zero_le _) (Nat.zero_le _)
  · exact j_return dX6_take_183 rfl rfl (Nat.zero_le _) (Nat.zero_le _)

set_option maxRecDepth 100000 in
theorem cSc_take_J {l : Launch} {H : Hp} (a2 : Int) (a3 : Int) (G : Hp) : J l M_cSc_take (KWv (fun g => fu g H)) (cSc_take a2 a3 G) 0 [(2, 39), (2, 2), (0, a2), (0, a3), (9, 0)] [] 224 (fu G H) (0, 0) := by
  unfold cSc_take
  refine j_aload_n dX6_take_0 rfl rfl ?_
  refine j_iconst dX6_take_1 r32_0 ?_
  refine j_iload_n dX6_take_2 rfl rfl ?_
  refine j_aload_n dX6_take_3 rfl rfl ?_
  refine j_len (t := 1) dX6_take_4 oc_2.1 (by decide) rfl (by unfold r32; omega) ?_
  refine j_sipush dX6_take_5 r32_600 sp_600 ?_
  refine j_min dX6_take_8 mm_X6_40 st_min in_Math co_min (Nat.le_of_ble_eq_true rfl) (Nat.le_of_ble_eq_true rfl) (Nat.zero_le _) (Nat.zero_le _) ?_
  refine j_min dX6_take_11 mm_X6_40 st_min in_Math co_min (Nat.le_of_ble_eq_true rfl) (Nat.le_of_ble_eq_true rfl) (Nat.zero_le _) (Nat.zero_le _) ?_
  refine j_max dX6_take_14 mm_X6_46 st_max in_Math co_max (Nat.le_of_ble_eq_true rfl) (Nat.le_of_ble_eq_true rfl) (Nat.zero_le _) (Nat.zero_le _) ?_
  refine j_pic dX6_take_17 gf_X6_49 po_6_6 oc_39 (nf_6_6 _) ?_
  refine j_aload_n dX6_take_20 rfl rfl ?_
  refine j_iconst dX6_take_21 r32_0 ?_
  refine j_aload_n dX6_take_22 rfl rfl ?_
  refine j_grc dX6_take_23 gf_X6_32 oc_39 (Or.inl (by decide)) rf_39_5 ?_
  refine j_iconst dX6_take_26 r32_0 ?_
  refine j_aload_n dX6_take_27 rfl rfl ?_
  refine j_gic dX6_take_28 gf_X6_49 oc_39 ?_
  refine j_cpy (t := 1) dX6_take_31 (cy_X6_53 rfl) (by decide) oc_2 oc_55 rfl rfl (by decide) (Nat.le_of_ble_eq_true rfl) ?_
  refine j_aload_n dX6_take_34 rfl rfl ?_
  refine j_grc dX6_take_35 gf_X6_12 oc_39 (Or.inl (by decide)) rf_39_0 ?_
  refine j_cVWv dX6_take_38 im_cPa_clear lk_X6_59 rfl (As := []) (S := []) rfl oc_40.1 ⟨by decide, by decide⟩ (Nat.le_of_ble_eq_true rfl) (fun r hr => cPa_clear_ct 40 isPaper_40 (cpy2 (upd2 G 39 6 (max 0 (min a2 (min 600 600)))) 2 0 55 0 ((upd2 G 39 6 (max 0 (min a2 (min 600 600)))) 39 6)) hr) (fun G38 _ => ?_)
  refine j_aload_n dX6_take_41 rfl rfl ?_
  refine j_grc dX6_take_42 gf_X6_21 oc_39 (Or.inl (by decide)) rf_39_1 ?_
  refine j_iconst dX6_take_45 r32_0 ?_
  refine j_pic dX6_take_46 gf_X6_62 po_9_0 oc_48 (nf_9_0 _) ?_
  refine j_aload_n dX6_take_49 rfl rfl ?_
  refine j_grc dX6_take_50 gf_X6_28 oc_39 (Or.inl (by decide)) rf_39_2 ?_
  refine j_iconst dX6_take_53 r32_0 ?_
  refine j_pic dX6_take_54 gf_X6_65 po_0_0 oc_52 (nf_0_0 _) ?_
  refine j_aload_n dX6_take_57 rfl rfl ?_
  refine j_iconst dX6_take_58 r32_0 ?_
  refine j_pic dX6_take_59 gf_X6_68 po_6_3 oc_39 (nf_6_3 _) ?_
  refine j_aload_n dX6_take_62 rfl rfl ?_
  refine j_iconst dX6_take_63 r32_m1 ?_
  refine j_pic dX6_take_64 gf_X6_71 po_6_4 oc_39 (nf_6_4 _) ?_
  refine j_aload_n dX6_take_67 rfl rfl ?_
  refine j_iconst dX6_take_68 r32_0 ?_
  refine j_pic dX6_take_69 gf_X6_74 po_6_7 oc_39 (nf_6_7 _) ?_
  refine j_aload_n dX6_take_72 rfl rfl ?_
  refine j_iconst dX6_take_73 r32_m1 ?_
  refine j_pic dX6_take_74 gf_X6_77 po_6_12 oc_39 (nf_6_12 _) ?_
  refine j_aload_n dX6_take_77 rfl rfl ?_
  refine j_iconst dX6_take_78 r32_m1 ?_
  refine j_pic dX6_take_79 gf_X6_80 po_6_13 oc_39 (nf_6_13 _) ?_
  refine j_aload_n dX6_take_82 rfl rfl ?_
  refine j_cVWv dX6_take_83 im_cSc_move lk_X6_83 rfl (As := []) (S := []) rfl oc_39.1 ⟨by decide, by decide⟩ (Nat.le_of_ble_eq_true rfl) (fun r hr => cSc_move_ct  (upd2 (upd2 (upd2 (upd2 (upd2 (upd2 (upd2 G38 48 0 0) 52 0 0) 39 3 0) 39 4 (-1)) 39 7 0) 39 12 (-1)) 39 13 (-1)) hr) (fun G83 _ => ?_)
  refine j_iconst dX6_take_86 r32_0 ?_
  refine j_istore dX6_take_87 (Nat.le_of_ble_eq_true rfl) rfl ?_
  refine j_mask [true, false, false, true, true] rfl (cSc_take_L89_J a2 a3 (fun G_123 => if G_123 39 3 = 0 then (if G_123 40 2 ≤ G_123 39 12 then ((cSc_note 4 (G_123 39 6) G_123).bind fun G150 => cSc_take_j153 a2 a3 G150) else cSc_take_j153 a2 a3 G_123) else cSc_take_j153 a2 a3 G_123) (fun G_123 => ?_) FU 0 G83)
  refine j_aload_n dX6_take_123 rfl rfl ?_
  refine j_gic dX6_take_124 gf_X6_68 oc_39 ?_
  refine j_if_ne (tgt := 153) dX6_take_127 rfl (fun h127 => ?_) (fun h127 => ?_)
  · refine j_aload_n dX6_take_130 rfl rfl ?_
    refine j_gic dX6_take_131 gf_X6_77 oc_39 ?_
    refine j_aload_n dX6_take_134 rfl rfl ?_
    refine j_grc dX6_take_135 gf_X6_12 oc_39 (Or.inl (by decide)) rf_39_0 ?_
    refine j_gic dX6_take_138 gf_X6_93 oc_40 ?_
    refine j_icmp_lt (tgt := 153) dX6_take_141 rfl (fun h141 => ?_) (fun h141 => ?_)
    · refine j_aload_n dX6_take_144 rfl rfl ?_
      refine j_iconst dX6_take_145 r32_4 ?_
      refine j_aload_n dX6_take_146 rfl rfl ?_
      refine j_gic dX6_take_147 gf_X6_49 oc_39 ?_
      refine j_cVWv dX6_take_150 im_cSc_note lk_X6_96 rfl (As := [(0, 4), (0, G_123 39 6)]) (S := []) rfl oc_39.1 ⟨by decide, by decide⟩ (Nat.le_of_ble_eq_true rfl) (fun r hr => cSc_note_ct 4 (G_123 39 6) G_123 hr) (fun G150 _ => ?_)
      exact j_mask [true, false, false, false, false] rfl (cSc_take_j153_J a2 a3 G150)
    · exact j_mask [true, false, false, false, false] rfl (cSc_take_j153_J a2 a3 G_123)
  · exact j_mask [true, false, false, false, false] rfl (cSc_take_j153_J a2 a3 G_123)

set_option maxRecDepth 100000 in
theorem cSc_take_ct {l : Launch} {H : Hp} (a2 : Int) (a3 : Int) (G : Hp) {r : Hp} (h : cSc_take a2 a3 G = some r) : Ct l M_cSc_take [(2, 39), (2, 2), (0, a2), (0, a3)] 224 (fu G H) ((KWv (fun g => fu g H)) r) :=
  ct_of_J (by decide +kernel) rfl (Nat.le_of_ble_eq_true rfl) (cSc_take_J a2 a3 G) h
