set_option maxRecDepth 100000 in
theorem cNe_copy_J {l : Launch} {H : Hp} (o : Int) (ho : isNet o) (a1 : Int) (ha1 : isNet a1) (G : Hp) : J l M_cNe_copy (KWv (fun g => fu g H)) (cNe_copy o a1 G) 0 [(2, o), (2, a1)] [] 224 (fu G H) (0, 0) := by
  unfold cNe_copy
  refine j_aload_n dX2_copy_0 rfl rfl ?_
  refine j_grc dX2_copy_1 gf_X2_9 (oc_net ha1) (Or.inl (by decide)) (rf_net_0 ha1) ?_
  refine j_aload_n dX2_copy_4 rfl rfl ?_
  refine j_grc dX2_copy_5 gf_X2_9 (oc_net ho) (Or.inl (by decide)) (rf_net_0 ho) ?_
  refine j_cSWv dX2_copy_8 sm_cX_copyRow lk_X2_25 rfl (As := [(2, (a1 + 1)), (2, (o + 1))]) (S := []) rfl ⟨by decide, by decide⟩ (Nat.le_of_ble_eq_true rfl) (fun r hr => cX_copyRow_ct (N := 10) rfl (by decide) (oc_net_1 ha1) (oc_net_1 ho) hr) (fun G8 _ => ?_)
  refine j_aload_n dX2_copy_11 rfl rfl ?_
  refine j_grc dX2_copy_12 gf_X2_15 (oc_net ha1) (Or.inl (by decide)) (rf_net_1 ha1) ?_
  refine j_aload_n dX2_copy_15 rfl rfl ?_
  refine j_grc dX2_copy_16 gf_X2_15 (oc_net ho) (Or.inl (by decide)) (rf_net_1 ho) ?_
  refine j_cSWv dX2_copy_19 sm_cX_copyRow lk_X2_25 rfl (As := [(2, (a1 + 2)), (2, (o + 2))]) (S := []) rfl ⟨by decide, by decide⟩ (Nat.le_of_ble_eq_true rfl) (fun r hr => cX_copyRow_ct (N := 100) rfl (by decide) (oc_net_2 ha1) (oc_net_2 ho) hr) (fun G19 _ => ?_)
  refine j_aload_n dX2_copy_22 rfl rfl ?_
  refine j_grc dX2_copy_23 gf_X2_18 (oc_net ha1) (Or.inl (by decide)) (rf_net_2 ha1) ?_
  refine j_aload_n dX2_copy_26 rfl rfl ?_
  refine j_grc dX2_copy_27 gf_X2_18 (oc_net ho) (Or.inl (by decide)) (rf_net_2 ho) ?_
  refine j_cSWv dX2_copy_30 sm_cX_copyRow lk_X2_25 rfl (As := [(2, (a1 + 3)), (2, (o + 3))]) (S := []) rfl ⟨by decide, by decide⟩ (Nat.le_of_ble_eq_true rfl) (fun r hr => cX_copyRow_ct (N := 100) rfl (by decide) (oc_net_3 ha1) (oc_net_3 ho) hr) (fun G30 _ => ?_)
  refine j_aload_n dX2_copy_33 rfl rfl ?_
  refine j_aload_n dX2_copy_34 rfl rfl ?_
  refine j_gic dX2_copy_35 gf_X2_21 (oc_net ha1) ?_
  refine j_pic dX2_copy_38 gf_X2_21 po_2_3 (oc_net ho) (nf_2_3 _) ?_
  exact j_return dX2_copy_41 rfl rfl (Nat.zero_le _) (Nat.zero_le _)

set_option maxRecDepth 100000 in
theorem cNe_copy_ct {l : Launch} {H : Hp} (o : Int) (ho : isNet o) (a1 : Int) (ha1 : isNet a1) (G : Hp) {r : Hp} (h : cNe_copy o a1 G = some r) : Ct l M_cNe_copy [(2, o), (2, a1)] 224 (fu G H) ((KWv (fun g => fu g H)) r) :=
  ct_of_J (by decide +kernel) rfl (Nat.le_of_ble_eq_true rfl) (cNe_copy_J o ho a1 ha1 G) h
set_option maxRecDepth 100000 in
theorem cPa_copy_J {l : Launch} {H : Hp} (o : Int) (ho : isPaper o) (a1 : Int) (ha1 : isPaper a1) (G : Hp) : J l M_cPa_copy (KWv (fun g => fu g H)) (cPa_copy o a1 G) 0 [(2, o), (2, a1)] [] 224 (fu G H) (0, 0) := by
  unfold cPa_copy
  refine j_aload_n dX3_copy_0 rfl rfl ?_
  refine j_aload_n dX3_copy_1 rfl rfl ?_
  refine j_gic dX3_copy_2 gf_X3_28 (oc_paper ha1) ?_
  refine j_pic dX3_copy_5 gf_X3_28 po_3_0 (oc_paper ho) (nf_3_0 _) ?_
  refine j_aload_n dX3_copy_8 rfl rfl ?_
  refine j_aload_n dX3_copy_9 rfl rfl ?_
  refine j_gic dX3_copy_10 gf_X3_32 (oc_paper ha1) ?_
  refine j_pic dX3_copy_13 gf_X3_32 po_3_1 (oc_paper ho) (nf_3_1 _) ?_
  refine j_aload_n dX3_copy_16 rfl rfl ?_
  refine j_aload_n dX3_copy_17 rfl rfl ?_
  refine j_gic dX3_copy_18 gf_X3_35 (oc_paper ha1) ?_
  refine j_pic dX3_copy_21 gf_X3_35 po_3_2 (oc_paper ho) (nf_3_2 _) ?_
  refine j_aload_n dX3_copy_24 rfl rfl ?_
  refine j_grc dX3_copy_25 gf_X3_12 (oc_paper ho) (Or.inl (by decide)) (rf_paper_3 ho) ?_
  refine j_aload_n dX3_copy_28 rfl rfl ?_
  refine j_grc dX3_copy_29 gf_X3_12 (oc_paper ha1) (Or.inl (by decide)) (rf_paper_3 ha1) ?_
  refine j_cVWv dX3_copy_32 im_cNe_copy lk_X3_41 rfl (As := [(2, (a1 + 1))]) (S := []) rfl (oc_net (net_paper ho)).1 ⟨by decide, by decide⟩ (Nat.le_of_ble_eq_true rfl) (fun r hr => cNe_copy_ct (o + 1) (net_paper ho) (a1 + 1) (net_paper ha1) (upd2 (upd2 (upd2 G o 0 (G a1 0)) o 1 ((upd2 G o 0 (G a1 0)) a1 1)) o 2 ((upd2 (upd2 G o 0 (G a1 0)) o 1 ((upd2 G o 0 (G a1 0)) a1 1)) a1 2)) hr) (fun G32 _ => ?_)
  refine j_aload_n dX3_copy_35 rfl rfl ?_
  refine j_grc dX3_copy_36 gf_X3_18 (oc_paper ha1) (Or.inl (by decide)) (rf_paper_4 ha1) ?_
  refine j_aload_n dX3_copy_39 rfl rfl ?_
  refine j_grc dX3_copy_40 gf_X3_18 (oc_paper ho) (Or.inl (by decide)) (rf_paper_4 ho) ?_
  refine j_cSWv dX3_copy_43 sm_cX_copyRow lk_X3_45 rfl (As := [(2, (a1 + 5)), (2, (o + 5))]) (S := []) rfl ⟨by decide, by decide⟩ (Nat.le_of_ble_eq_true rfl) (fun r hr => cX_copyRow_ct (N := 6) rfl (by decide) (oc_paper_5 ha1) (oc_paper_5 ho) hr) (fun G43 _ => ?_)
  refine j_aload_n dX3_copy_46 rfl rfl ?_
  refine j_grc dX3_copy_47 gf_X3_22 (oc_paper ha1) (Or.inl (by decide)) (rf_paper_5 ha1) ?_
  refine j_aload_n dX3_copy_50 rfl rfl ?_
  refine j_grc dX3_copy_51 gf_X3_22 (oc_paper ho) (Or.inl (by decide)) (rf_paper_5 ho) ?_
  refine j_cSWv dX3_copy_54 sm_cX_copyRow lk_X3_45 rfl (As := [(2, (a1 + 6)), (2, (o + 6))]) (S := []) rfl ⟨by decide, by decide⟩ (Nat.le_of_ble_eq_true rfl) (fun r hr => cX_copyRow_ct (N := 6) rfl (by decide) (oc_paper_6 ha1) (oc_paper_6 ho) hr) (fun G54 _ => ?_)
  refine j_aload_n dX3_copy_57 rfl rfl ?_
  refine j_grc dX3_copy_58 gf_X3_25 (oc_paper ha1) (Or.inl (by decide)) (rf_paper_6 ha1) ?_
  refine j_aload_n dX3_copy_61 rfl rfl ?_
  refine j_grc dX3_copy_62 gf_X3_25 (oc_paper ho) (Or.inl (by decide)) (rf_paper_6 ho) ?_
  refine j_cSWv dX3_copy_65 sm_cX_copyRow lk_X3_45 rfl (As := [(2, (a1 + 7)), (2, (o + 7))]) (S := []) rfl ⟨by decide, by decide⟩ (Nat.le_of_ble_eq_true rfl) (fun r hr => cX_copyRow_ct (N := 48) rfl (by decide) (oc_paper_7 ha1) (oc_paper_7 ho) hr) (fun G65 _ => ?_)
  exact j_return dX3_copy_68 rfl rfl (Nat.zero_le _) (Nat.zero_le _)

set_option maxRecDepth 100000 in
theorem cPa_copy_ct {l : Launch} {H : Hp} (o : Int) (ho : isPaper o) (a1 : Int) (ha1 : isPaper a1) (G : Hp) {r : Hp} (h : cPa_copy o a1 G = some r) : Ct l M_cPa_copy [(2, o), (2, a1)] 224 (fu G H) ((KWv (fun g => fu g H)) r) :=
  ct_of_J (by decide +kernel) rfl (Nat.le_of_ble_eq_true rfl) (cPa_copy_J o ho a1 ha1 G) h
set_option maxRecDepth 100000 in
theorem cWe_copy_J {l : Launch} {H : Hp} (o : Int) (ho : isWeek o) (a1 : Int) (ha1 : isWeek a1) (G : Hp) : J l M_cWe_copy (KWv (fun g => fu g H)) (cWe_copy o a1 G) 0 [(2, o), (2, a1)] [] 224 (fu G H) (0, 0) := by
  unfold cWe_copy
  refine j_aload_n dX9_copy_0 rfl rfl ?_
  refine j_aload_n dX9_copy_1 rfl rfl ?_
  refine j_gic dX9_copy_2 gf_X9_21 (oc_week ha1) ?_
  refine j_pic dX9_copy_5 gf_X9_21 po_9_0 (oc_week ho) (nf_9_0 _) ?_
  refine j_aload_n dX9_copy_8 rfl rfl ?_
  refine j_grc dX9_copy_9 gf_X9_9 (oc_week ha1) (Or.inl (by decide)) (rf_week_1 ha1) ?_
  refine j_aload_n dX9_copy_12 rfl rfl ?_
  refine j_grc dX9_copy_13 gf_X9_9 (oc_week ho) (Or.inl (by decide)) (rf_week_1 ho) ?_
  refine j_cSWv dX9_copy_16 sm_cX_copyRow lk_X9_25 rfl (As := [(2, (a1 + 1)), (2, (o + 1))]) (S := []) rfl ⟨by decide, by decide⟩ (Nat.le_of_ble_eq_true rfl) (fun r hr => cX_copyRow_ct (N := 60) rfl (by decide) (oc_week_1 ha1) (oc_week_1 ho) hr) (fun G16 _ => ?_)
  refine j_aload_n dX9_copy_19 rfl rfl ?_
  refine j_grc dX9_copy_20 gf_X9_15 (oc_week ha1) (Or.inl (by decide)) (rf_week_2 ha1) ?_
  refine j_aload_n dX9_copy_23 rfl rfl ?_
  refine j_grc dX9_copy_24 gf_X9_15 (oc_week ho) (Or.inl (by decide)) (rf_week_2 ho) ?_
  refine j_cSWv dX9_copy_27 sm_cX_copyRow lk_X9_25 rfl (As := [(2, (a1 + 2)), (2, (o + 2))]) (S := []) rfl ⟨by decide, by decide⟩ (Nat.le_of_ble_eq_true rfl) (fun r hr => cX_copyRow_ct (N := 60) rfl (by decide) (oc_week_2 ha1) (oc_week_2 ho) hr) (fun G27 _ => ?_)
  refine j_aload_n dX9_copy_30 rfl rfl ?_
  refine j_grc dX9_copy_31 gf_X9_18 (oc_week ha1) (Or.inl (by decide)) (rf_week_3 ha1) ?_
  refine j_aload_n dX9_copy_34 rfl rfl ?_
  refine j_grc dX9_copy_35 gf_X9_18 (oc_week ho) (Or.inl (by decide)) (rf_week_3 ho) ?_
  refine j_cSWv dX9_copy_38 sm_cX_copyRow lk_X9_25 rfl (As := [(2, (a1 + 3)), (2, (o + 3))]) (S := []) rfl ⟨by decide, by decide⟩ (Nat.le_of_ble_eq_true rfl) (fun r hr => cX_copyRow_ct (N := 60) rfl (by decide) (oc_week_3 ha1) (oc_week_3 ho) hr) (fun G38 _ => ?_)
  exact j_return dX9_copy_41 rfl rfl (Nat.zero_le _) (Nat.zero_le _)

set_option maxRecDepth 100000 in
theorem cWe_copy_ct {l : Launch} {H : Hp} (o : Int) (ho : isWeek o) (a1 : Int) (ha1 : isWeek a1) (G : Hp) {r : Hp} (h : cWe_copy o a1 G = some r) : Ct l M_cWe_copy [(2, o), (2, a1)] 224 (fu G H) ((KWv (fun g => fu g H)) r) :=
  ct_of_J (by decide +kernel) rfl (Nat.le_of_ble_eq_true rfl) (cWe_copy_J o ho a1 ha1 G) h
set_option maxRecDepth 100000 in
theorem cLg_copy_J {l : Launch} {H : Hp} (o : Int) (ho : isLog o) (a1 : Int) (ha1 : isLog a1) (G : Hp) : J l M_cLg_copy (KWv (fun g => fu g H)) (cLg_copy o a1 G) 0 [(2, o), (2, a1)] [] 224 (fu G H) (0, 0) := by
  unfold cLg_copy
  refine j_aload_n dX0_copy_0 rfl rfl ?_
  refine j_aload_n dX0_copy_1 rfl rfl ?_
  refine j_gic dX0_copy_2 gf_X0_18 (oc_log ha1) ?_
  refine j_pic dX0_copy_5 gf_X0_18 po_0_0 (oc_log ho) (nf_0_0 _) ?_
  refine j_aload_n dX0_copy_8 rfl rfl ?_
  refine j_grc dX0_copy_9 gf_X0_9 (oc_log ha1) (Or.inl (by decide)) (rf_log_1 ha1) ?_
  refine j_aload_n dX0_copy_12 rfl rfl ?_
  refine j_grc dX0_copy_13 gf_X0_9 (oc_log ho) (Or.inl (by decide)) (rf_log_1 ho) ?_
  refine j_cSWv dX0_copy_16 sm_cX_copyRow lk_X0_22 rfl (As := [(2, (a1 + 1)), (2, (o + 1))]) (S := []) rfl ⟨by decide, by decide⟩ (Nat.le_of_ble_eq_true rfl) (fun r hr => cX_copyRow_ct (N := 8) rfl (by decide) (oc_log_1 ha1) (oc_log_1 ho) hr) (fun G16 _ => ?_)
  refine j_aload_n dX0_copy_19 rfl rfl ?_
  refine j_grc dX0_copy_20 gf_X0_15 (oc_log ha1) (Or.inl (by decide)) (rf_log_2 ha1) ?_
  refine j_aload_n dX0_copy_23 rfl rfl ?_
  refine j_grc dX0_copy_24 gf_X0_15 (oc_log ho) (Or.inl (by decide)) (rf_log_2 ho) ?_
  refine j_cSWv dX0_copy_27 sm_cX_copyRow lk_X0_22 rfl (As := [(2, (a1 + 2)), (2, (o + 2))]) (S := []) rfl ⟨by decide, by decide⟩ (Nat.le_of_ble_eq_true rfl) (fun r hr => cX_copyRow_ct (N := 8) rfl (by decide) (oc_log_2 ha1) (oc_log_2 ho) hr) (fun G27 _ => ?_)
  exact j_return dX0_copy_30 rfl rfl (Nat.zero_le _) (Nat.zero_le _)

set_option maxRecDepth 100000 in
theorem cLg_copy_ct {l : Launch} {H : Hp} (o : Int) (ho : isLog o) (a1 : Int) (ha1 : isLog a1) (G : Hp) {r : Hp} (h : cLg_copy o a1 G = some r) : Ct l M_cLg_copy [(2, o), (2, a1)] 224 (fu G H) ((KWv (fun g => fu g H)) r) :=
  ct_of_J (by decide +kernel) rfl (Nat.le_of_ble_eq_true rfl) (cLg_copy_J o ho a1 ha1 G) h
set_option maxRecDepth 100000 in
theorem cTo_take_j73_J {l : Launch} {H : Hp} (o : Int) (ho : isTold o) (a2 : Int) (a3 : Int) (G_73 : Hp) : J l M_cTo_take (KWv (fun g => fu g H)) (cTo_take_j73 o a2 a3  G_73) 73 [(2, o), (9, 0), (0, a2), (0, a3)] [] 224 (fu G_73 H) (0, 0) := by
  unfold cTo_take_j73
  refine j_aload_n dX8_take_73 rfl rfl ?_
  refine j_grc dX8_take_74 gf_X8_19 (oc_told ho) (Or.inl (by decide)) (rf_told_4 ho) ?_
  refine j_iload_n dX8_take_77 rfl rfl ?_
  refine j_aload_n dX8_take_78 rfl rfl ?_
  refine j_grc dX8_take_79 gf_X8_19 (oc_told ho) (Or.inl (by decide)) (rf_told_4 ho) ?_
  refine j_iload_n dX8_take_82 rfl rfl ?_
  refine j_gd (fun h83a h83b => ?_)
  refine j_aic dX8_take_83 (oc_told_2 ho) rfl h83a h83b ?_
  refine j_iload_n dX8_take_84 rfl rfl ?_
  refine j_iconst dX8_take_85 r32_1 ?_
  refine j_iadd dX8_take_86 ?_
  refine j_max dX8_take_87 mm_X8_71 st_max in_Math co_max (Nat.le_of_ble_eq_true rfl) (Nat.le_of_ble_eq_true rfl) (Nat.zero_le _) (Nat.zero_le _) ?_
  refine j_gd (fun h90a h90b => ?_)
  refine j_sic dX8_take_90 (oc_told_2 ho) rfl h90a h90b ?_
  exact j_return dX8_take_91 rfl rfl (Nat.zero_le _) (Nat.zero_le _)

set_option maxRecDepth 100000 in
theorem cTo_take_J {l : Launch} {H : Hp} (o : Int) (ho : isTold o) (a2 : Int) (a3 : Int) (G : Hp) : J l M_cTo_take (KWv (fun g => fu g H)) (cTo_take o a2 a3 G) 0 [(2, o), (2, 39), (0, a2), (0, a3)] [] 224 (fu G H) (0, 0) := by
  unfold cTo_take
  refine j_iload_n dX8_take_0 rfl rfl ?_
  refine j_if_lt (tgt := 18) dX8_take_1 rfl (fun h1 => ?_) (fun h1 => ?_)
  · exact j_return dX8_take_18 rfl rfl (Nat.zero_le _) (Nat.zero_le _)
  · refine j_iload_n dX8_take_4 rfl rfl ?_
    refine j_iconst dX8_take_5 r32_3 ?_
    refine j_icmp_ge (tgt := 18) dX8_take_6 rfl (fun h6 => ?_) (fun h6 => ?_)
    · refine j_iload_n dX8_take_9 rfl rfl ?_
      refine j_if_lt (tgt := 18) dX8_take_10 rfl (fun h10 => ?_) (fun h10 => ?_)
      · exact j_return dX8_take_18 rfl rfl (Nat.zero_le _) (Nat.zero_le _)
      · refine j_iload_n dX8_take_13 rfl rfl ?_
        refine j_iconst dX8_take_14 r32_2 ?_
        refine j_icmp_lt (tgt := 19) dX8_take_15 rfl (fun h15 => ?_) (fun h15 => ?_)
        · exact j_return dX8_take_18 rfl rfl (Nat.zero_le _) (Nat.zero_le _)
        · refine j_iload_n dX8_take_19 rfl rfl ?_
          refine j_if_ne (tgt := 39) dX8_take_20 rfl (fun h20 => ?_) (fun h20 => ?_)
          · refine j_aload_n dX8_take_23 rfl rfl ?_
            refine j_grc dX8_take_24 gf_X8_25 (oc_told ho) (Or.inl (by decide)) (rf_told_5 ho) ?_
            refine j_iload_n dX8_take_27 rfl rfl ?_
            refine j_gd (fun h28a h28b => ?_)
            refine j_aq (t := 0) dX8_take_28 (oc_told_3 ho) (by decide) rfl h28a h28b ?_
            refine j_aload_n dX8_take_29 rfl rfl ?_
            refine j_grc dX8_take_30 gf_X8_47 oc_39 (Or.inl (by decide)) rf_39_0 ?_
            refine j_cVWv dX8_take_33 im_cPa_copy lk_X8_53 rfl (As := [(2, 40)]) (S := []) rfl (oc_paper (pap_told (t := o) ho h28a h28b)).1 ⟨by decide, by decide⟩ (Nat.le_of_ble_eq_true rfl) (fun r hr => cPa_copy_ct (RF0 (o + 3) a3) (pap_told (t := o) ho h28a h28b) 40 isPaper_40 G hr) (fun G33 _ => ?_)
            refine j_goto (tgt := 73) dX8_take_36 rfl ?_
            exact j_mask [true, false, true, true] rfl (cTo_take_j73_J o ho a2 a3 G33)
          · refine j_iload_n dX8_take_39 rfl rfl ?_
            refine j_iconst dX8_take_40 r32_1 ?_
            refine j_icmp_ne (tgt := 60) dX8_take_41 rfl (fun h41 => ?_) (fun h41 => ?_)
            · refine j_aload_n dX8_take_44 rfl rfl ?_
              refine j_grc dX8_take_45 gf_X8_31 (oc_told ho) (Or.inl (by decide)) (rf_told_6 ho) ?_
              refine j_iload_n dX8_take_48 rfl rfl ?_
              refine j_gd (fun h49a h49b => ?_)
              refine j_aq (t := 1) dX8_take_49 (oc_told_4 ho) (by decide) rfl h49a h49b ?_
              refine j_aload_n dX8_take_50 rfl rfl ?_
              refine j_grc dX8_take_51 gf_X8_57 oc_39 (Or.inl (by decide)) rf_39_1 ?_
              refine j_cVWv dX8_take_54 im_cWe_copy lk_X8_61 rfl (As := [(2, 48)]) (S := []) rfl (oc_week (wee_told (t := o) ho h49a h49b)).1 ⟨by decide, by decide⟩ (Nat.le_of_ble_eq_true rfl) (fun r hr => cWe_copy_ct (RF0 (o + 4) a3) (wee_told (t := o) ho h49a h49b) 48 isWeek_48 G hr) (fun G54 _ => ?_)
              refine j_goto (tgt := 73) dX8_take_57 rfl ?_
              exact j_mask [true, false, true, true] rfl (cTo_take_j73_J o ho a2 a3 G54)
            · refine j_aload_n dX8_take_60 rfl rfl ?_
              refine j_grc dX8_take_61 gf_X8_37 (oc_told ho) (Or.inl (by decide)) (rf_told_7 ho) ?_
              refine j_iload_n dX8_take_64 rfl rfl ?_
              refine j_gd (fun h65a h65b => ?_)
              refine j_aq (t := 2) dX8_take_65 (oc_told_5 ho) (by decide) rfl h65a h65b ?_
              refine j_aload_n dX8_take_66 rfl rfl ?_
              refine j_grc dX8_take_67 gf_X8_64 oc_39 (Or.inl (by decide)) rf_39_2 ?_
              refine j_cVWv dX8_take_70 im_cLg_copy lk_X8_68 rfl (As := [(2, 52)]) (S := []) rfl (oc_log (log_told (t := o) ho h65a h65b)).1 ⟨by decide, by decide⟩ (Nat.le_of_ble_eq_true rfl) (fun r hr => cLg_copy_ct (RF0 (o + 5) a3) (log_told (t := o) ho h65a h65b) 52 isLog_52 G hr) (fun G70 _ => ?_)
              exact j_mask [true, false, true, true] rfl (cTo_take_j73_J o ho a2 a3 G70)
    · exact j_return dX8_take_18 rfl rfl (Nat.zero_le _) (Nat.zero_le _)

set_option maxRecDepth 100000 in
theorem cTo_take_ct {l : Launch} {H : Hp} (o : Int) (ho : isTold o) (a2 : Int) (a3 : Int) (G : Hp) {r : Hp} (h : cTo_take o a2 a3 G = some r) : Ct l M_cTo_take [(2, o), (2, 39), (0, a2), (0, a3)] 224 (fu G H) ((KWv (fun g => fu g H)) r) :=
  ct_of_J (by decide +kernel) rfl (Nat.le_of_ble_eq_true rfl) (cTo_take_J o ho a2 a3 G) h
set_option maxRecDepth 100000 in
theorem cRw_forget_J {l : Launch} {H : Hp} (G : Hp) : J l M_cRw_forget (KWv (fun g => fu g H)) (cRw_forget  G) 0 [(2, 80)] [] 224 (fu G H) (0, 0) := by
  unfold cRw_forget
  refine j_aload_n dX5_forget_0 rfl rfl ?_
  refine j_iconst dX5_forget_1 r32_m1 ?_
  refine j_pic dX5_forget_2 gf_X5_9 po_5_0 oc_80 (nf_5_0 _) ?_
  exact j_return dX5_forget_5 rfl rfl (Nat.zero_le _) (Nat.zero_le _)

set_option maxRecDepth 100000 in
theorem cRw_forget_ct {l : Launch} {H : Hp} (G : Hp) {r : Hp} (h : cRw_forget  G = some r) : Ct l M_cRw_forget [(2, 80)] 224 (fu G H) ((KWv (fun g => fu g H)) r) :=
  ct_of_J (by decide +kernel) rfl (Nat.le_of_ble_eq_true rfl) (cRw_forget_J  G) h
set_option maxRecDepth 100000 in
theorem cX_text_j171_J {l : Launch} {H : Hp} (a1 : Int) (a2 : Int) (s0_171 : Int) (G_171 : Hp) : J l M_cX_text (KWi (fun g => fu g H)) (cX_text_j171 a1 a2  s0_171 G_171) 171 [(2, 0), (0, a1), (9, 0), (9, 0), (9, 0), (9, 0)] [(0, s0_171)] 224 (fu G_171 H) (0, 0) := by
  unfold cX_text_j171
  refine j_istore dX10_text_171 (Nat.le_of_ble_eq_true rfl) rfl ?_
  refine j_aload_n dX10_text_173 rfl rfl ?_
  refine j_grc dX10_text_174 gf_X10_10 oc_0 (Or.inl (by decide)) rf_0_0 ?_
  refine j_aload_n dX10_text_177 rfl rfl ?_
  refine j_grc dX10_text_178 gf_X10_27 oc_0 (Or.inl (by decide)) rf_0_3 ?_
  refine j_iload_n dX10_text_181 rfl rfl ?_
  refine j_iload dX10_text_182 rfl ?_
  refine j_cVWv dX10_text_184 im_cTo_take lk_X10_102 rfl (As := [(2, 39), (0, a1), (0, s0_171)]) (S := []) rfl oc_1.1 ⟨by decide, by decide⟩ (Nat.le_of_ble_eq_true rfl) (fun r hr => cTo_take_ct 1 isTold_1 a1 s0_171 G_171 hr) (fun G184 _ => ?_)
  refine j_aload_n dX10_text_187 rfl rfl ?_
  refine j_grc dX10_text_188 gf_X10_55 oc_0 (Or.inl (by decide)) rf_0_7 ?_
  refine j_cVWv dX10_text_191 im_cRw_forget lk_X10_105 rfl (As := []) (S := []) rfl oc_80.1 ⟨by decide, by decide⟩ (Nat.le_of_ble_eq_true rfl) (fun r hr => cRw_forget_ct  G184 hr) (fun G191 _ => ?_)
  refine j_iload dX10_text_194 rfl ?_
  exact j_ireturn dX10_text_196 rfl rfl (Nat.zero_le _) (Nat.zero_le _)

set_option maxRecDepth 100000 in
theorem cX_text_j97_J {l : Launch} {H : Hp} (a1 : Int) (a2 : Int) (x3_97 : Int) (x4_97 : Int) (G_97 : Hp) : J l M_cX_text (KWi (fun g => fu g H)) (cX_text_j97 a1 a2  x3_97 x4_97 G_97) 97 [(2, 0), (0, a1), (0, a2), (0, x3_97), (0, x4_97), (9, 0)] [] 224 (fu G_97 H) (0, 0) := by
  unfold cX_text_j97
  refine j_aload_n dX10_text_97 rfl rfl ?_
  refine j_grc dX10_text_98 gf_X10_27 oc_0 (Or.inl (by decide)) rf_0_3 ?_
  refine j_aload_n dX10_text_101 rfl rfl ?_
  refine j_grc dX10_text_102 gf_X10_10 oc_0 (Or.inl (by decide)) rf_0_0 ?_
  refine j_grc dX10_text_105 gf_X10_90 oc_1 (Or.inl (by decide)) rf_1_0 ?_
  refine j_iload_n dX10_text_108 rfl rfl ?_
  refine j_iload_n dX10_text_109 rfl rfl ?_
  refine j_cVWv dX10_text_110 im_cSc_take lk_X10_94 rfl (As := [(2, 2), (0, x3_97), (0, a1)]) (S := []) rfl oc_39.1 ⟨by decide, by decide⟩ (Nat.le_of_ble_eq_true rfl) (fun r hr => cSc_take_ct x3_97 a1 G_97 hr) (fun G110 _ => ?_)
  refine j_aload_n dX10_text_113 rfl rfl ?_
  refine j_grc dX10_text_114 gf_X10_10 oc_0 (Or.inl (by decide)) rf_0_0 ?_
  refine j_aload_n dX10_text_117 rfl rfl ?_
  refine j_grc dX10_text_118 gf_X10_27 oc_0 (Or.inl (by decide)) rf_0_3 ?_
  refine j_gic dX10_text_121 gf_X10_98 oc_39 ?_
  refine j_pic dX10_text_124 gf_X10_81 po_8_2 oc_1 (nf_8_2 _) ?_
  refine j_aload_n dX10_text_127 rfl rfl ?_
  refine j_grc dX10_text_128 gf_X10_10 oc_0 (Or.inl (by decide)) rf_0_0 ?_
  refine j_aload_n dX10_text_131 rfl rfl ?_
  refine j_grc dX10_text_132 gf_X10_27 oc_0 (Or.inl (by decide)) rf_0_3 ?_
  refine j_gic dX10_text_135 gf_X10_101 oc_39 ?_
  refine j_pic dX10_text_138 gf_X10_84 po_8_3 oc_1 (nf_8_3 _) ?_
  refine j_aload_n dX10_text_141 rfl rfl ?_
  refine j_grc dX10_text_142 gf_X10_27 oc_0 (Or.inl (by decide)) rf_0_3 ?_
  refine j_gic dX10_text_145 gf_X10_98 oc_39 ?_
  refine j_if_eq (tgt := 153) dX10_text_148 rfl (fun h148 => ?_) (fun h148 => ?_)
  · refine j_iload dX10_text_153 rfl ?_
    refine j_if_eq (tgt := 170) dX10_text_155 rfl (fun h155 => ?_) (fun h155 => ?_)
    · refine j_iload_n dX10_text_170 rfl rfl ?_
      exact j_mask [true, true, false, false, false, false] rfl (cX_text_j171_J a1 a2 a2 (upd2 (upd2 G110 1 2 (G110 39 3)) 1 3 ((upd2 G110 1 2 (G110 39 3)) 39 4)))
    · refine j_aload_n dX10_text_158 rfl rfl ?_
      refine j_grc dX10_text_159 gf_X10_10 oc_0 (Or.inl (by decide)) rf_0_0 ?_
      refine j_grc dX10_text_162 gf_X10_87 oc_1 (Or.inl (by decide)) rf_1_4 ?_
      refine j_iload_n dX10_text_165 rfl rfl ?_
      refine j_gd (fun h166a h166b => ?_)
      refine j_aic dX10_text_166 oc_3 rfl h166a h166b ?_
      refine j_goto (tgt := 171) dX10_text_167 rfl ?_
      exact j_mask [true, true, false, false, false, false] rfl (cX_text_j171_J a1 a2 ((upd2 (upd2 G110 1 2 (G110 39 3)) 1 3 ((upd2 G110 1 2 (G110 39 3)) 39 4)) 3 a1) (upd2 (upd2 G110 1 2 (G110 39 3)) 1 3 ((upd2 G110 1 2 (G110 39 3)) 39 4)))
  · refine j_iconst dX10_text_151 r32_m1 ?_
    exact j_ireturn dX10_text_152 rfl rfl (Nat.zero_le _) (Nat.zero_le _)

set_option maxRecDepth 100000 in
theorem cX_text_j54_J {l : Launch} {H : Hp} (a1 : Int) (a2 : Int) (x3_54 : Int) (s0_54 : Int) (G_54 : Hp) : J l M_cX_text (KWi (fun g => fu g H)) (cX_text_j54 a1 a2  x3_54 s0_54 G_54) 54 [(2, 0), (0, a1), (0, a2), (0, x3_54), (9, 0), (9, 0)] [(0, s0_54)] 224 (fu G_54 H) (0, 0) := by
  unfold cX_text_j54
  refine j_istore dX10_text_54 (Nat.le_of_ble_eq_true rfl) rfl ?_
  refine j_iload dX10_text_56 rfl ?_
  refine j_if_eq (tgt := 77) dX10_text_58 rfl (fun h58 => ?_) (fun h58 => ?_)
  · refine j_iload_n dX10_text_77 rfl rfl ?_
    refine j_if_lt (tgt := 94) dX10_text_78 rfl (fun h78 => ?_) (fun h78 => ?_)
    · refine j_bipush dX10_text_94 r32_m2 bp_m2 ?_
      exact j_ireturn dX10_text_96 rfl rfl (Nat.zero_le _) (Nat.zero_le _)
    · refine j_iload_n dX10_text_81 rfl rfl ?_
      refine j_aload_n dX10_text_82 rfl rfl ?_
      refine j_grc dX10_text_83 gf_X10_10 oc_0 (Or.inl (by decide)) rf_0_0 ?_
      refine j_grc dX10_text_86 gf_X10_87 oc_1 (Or.inl (by decide)) rf_1_4 ?_
      refine j_iload_n dX10_text_89 rfl rfl ?_
      refine j_gd (fun h90a h90b => ?_)
      refine j_aic dX10_text_90 oc_3 rfl h90a h90b ?_
      refine j_icmp_lt (tgt := 97) dX10_text_91 rfl (fun h91 => ?_) (fun h91 => ?_)
      · refine j_bipush dX10_text_94 r32_m2 bp_m2 ?_
        exact j_ireturn dX10_text_96 rfl rfl (Nat.zero_le _) (Nat.zero_le _)
      · exact j_mask [true, true, true, true, true, false] rfl (cX_text_j97_J a1 a2 x3_54 s0_54 G_54)
  · refine j_aload_n dX10_text_61 rfl rfl ?_
    refine j_grc dX10_text_62 gf_X10_10 oc_0 (Or.inl (by decide)) rf_0_0 ?_
    refine j_grc dX10_text_65 gf_X10_87 oc_1 (Or.inl (by decide)) rf_1_4 ?_
    refine j_iload_n dX10_text_68 rfl rfl ?_
    refine j_gd (fun h69a h69b => ?_)
    refine j_aic dX10_text_69 oc_3 rfl h69a h69b ?_
    refine j_iconst dX10_text_70 r32_2 ?_
    refine j_icmp_lt (tgt := 97) dX10_text_71 rfl (fun h71 => ?_) (fun h71 => ?_)
    · refine j_goto (tgt := 94) dX10_text_74 rfl ?_
      refine j_bipush dX10_text_94 r32_m2 bp_m2 ?_
      exact j_ireturn dX10_text_96 rfl rfl (Nat.zero_le _) (Nat.zero_le _)
    · exact j_mask [true, true, true, true, true, false] rfl (cX_text_j97_J a1 a2 x3_54 s0_54 G_54)

set_option maxRecDepth 100000 in
theorem cX_text_J {l : Launch} {H : Hp} (a1 : Int) (a2 : Int) (G : Hp) : J l M_cX_text (KWi (fun g => fu g H)) (cX_text a1 a2 G) 0 [(2, 0), (0, a1), (0, a2), (9, 0), (9, 0), (9, 0)] [] 224 (fu G H) (0, 0) := by
  unfold cX_text
  refine j_aload_n dX10_text_0 rfl rfl ?_
  refine j_grc dX10_text_1 gf_X10_10 oc_0 (Or.inl (by decide)) rf_0_0 ?_
  refine j_gic dX10_text_4 gf_X10_73 oc_1 ?_
  refine j_istore_n dX10_text_7 rfl (Nat.le_of_ble_eq_true rfl) rfl ?_
  refine j_aload_n dX10_text_8 rfl rfl ?_
  refine j_grc dX10_text_9 gf_X10_10 oc_0 (Or.inl (by decide)) rf_0_0 ?_
  refine j_iconst dX10_text_12 r32_0 ?_
  refine j_pic dX10_text_13 gf_X10_73 po_8_1 oc_1 (nf_8_1 _) ?_
  refine j_aload_n dX10_text_16 rfl rfl ?_
  refine j_grc dX10_text_17 gf_X10_10 oc_0 (Or.inl (by decide)) rf_0_0 ?_
  refine j_iconst dX10_text_20 r32_0 ?_
  refine j_pic dX10_text_21 gf_X10_81 po_8_2 oc_1 (nf_8_2 _) ?_
  refine j_aload_n dX10_text_24 rfl rfl ?_
  refine j_grc dX10_text_25 gf_X10_10 oc_0 (Or.inl (by decide)) rf_0_0 ?_
  refine j_iconst dX10_text_28 r32_m1 ?_
  refine j_pic dX10_text_29 gf_X10_84 po_8_3 oc_1 (nf_8_3 _) ?_
  refine j_iload_n dX10_text_32 rfl rfl ?_
  refine j_if_lt (tgt := 41) dX10_text_33 rfl (fun h33 => ?_) (fun h33 => ?_)
  · refine j_bipush dX10_text_41 r32_m2 bp_m2 ?_
    exact j_ireturn dX10_text_43 rfl rfl (Nat.zero_le _) (Nat.zero_le _)
  · refine j_iload_n dX10_text_36 rfl rfl ?_
    refine j_iconst dX10_text_37 r32_3 ?_
    refine j_icmp_lt (tgt := 44) dX10_text_38 rfl (fun h38 => ?_) (fun h38 => ?_)
    · refine j_bipush dX10_text_41 r32_m2 bp_m2 ?_
      exact j_ireturn dX10_text_43 rfl rfl (Nat.zero_le _) (Nat.zero_le _)
    · refine j_iload_n dX10_text_44 rfl rfl ?_
      refine j_iconst dX10_text_45 r32_m1 ?_
      refine j_icmp_ne (tgt := 53) dX10_text_46 rfl (fun h46 => ?_) (fun h46 => ?_)
      · refine j_iconst dX10_text_49 r32_1 ?_
        refine j_goto (tgt := 54) dX10_text_50 rfl ?_
        exact j_mask [true, true, true, true, false, false] rfl (cX_text_j54_J a1 a2 (G 1 1) 1 (upd2 (upd2 (upd2 G 1 1 0) 1 2 0) 1 3 (-1)))
      · refine j_iconst dX10_text_53 r32_0 ?_
        exact j_mask [true, true, true, true, false, false] rfl (cX_text_j54_J a1 a2 (G 1 1) 0 (upd2 (upd2 (upd2 G 1 1 0) 1 2 0) 1 3 (-1)))

set_option maxRecDepth 100000 in
theorem cX_text_ct {l : Launch} {H : Hp} (a1 : Int) (a2 : Int) (G : Hp) {r : Int × Hp} (h : cX_text a1 a2 G = some r) : Ct l M_cX_text [(2, 0), (0, a1), (0, a2)] 224 (fu G H) ((KWi (fun g => fu g H)) r) :=
  ct_of_J (by decide +kernel) rfl (Nat.le_of_ble_eq_true rfl) (cX_text_J a1 a2 G) h
set_option maxRecDepth 100000 in
theorem cX_fault_J {l : Launch} {H : Hp} (a1 : Int) (G : Hp) : J l M_cX_fault (KRi (fu G H)) (cX_fault a1 G) 0 [(2, 0), (0, a1)] [] 224 (fu G H) (0, 0) := by
  unfold cX_fault
  refine j_iload_n dX10_fault_0 rfl rfl ?_
  refine j_if_ne (tgt := 12) dX10_fault_1 rfl (fun h1 => ?_) (fun h1 => ?_)
  · refine j_aload_n dX10_fault_4 rfl rfl ?_
    refine j_grc dX10_fault_5 gf_X10_10 oc_0 (Or.inl (by decide)) rf_0_0 ?_
    refine j_gic dX10_fault_8 gf_X10_81 oc_1 ?_
    exact j_ireturn dX10_fault_11 rfl rfl (Nat.zero_le _) (Nat.zero_le _)
  · refine j_iload_n dX10_fault_12 rfl rfl ?_
    refine j_iconst dX10_fault_13 r32_1 ?_
    refine j_icmp_ne (tgt := 27) dX10_fault_14 rfl (fun h14 => ?_) (fun h14 => ?_)
    · refine j_aload_n dX10_fault_17 rfl rfl ?_
      refine j_grc dX10_fault_18 gf_X10_10 oc_0 (Or.inl (by decide)) rf_0_0 ?_
      refine j_gic dX10_fault_21 gf_X10_84 oc_1 ?_
      refine j_goto (tgt := 28) dX10_fault_24 rfl ?_
      exact j_ireturn dX10_fault_28 rfl rfl (Nat.zero_le _) (Nat.zero_le _)
    · refine j_iconst dX10_fault_27 r32_m1 ?_
      exact j_ireturn dX10_fault_28 rfl rfl (Nat.zero_le _) (Nat.zero_le _)

set_option maxRecDepth 100000 in
theorem cX_fault_ct {l : Launch} {H : Hp} (a1 : Int) (G : Hp) {r : Int} (h : cX_fault a1 G = some r) : Ct l M_cX_fault [(2, 0), (0, a1)] 224 (fu G H) ((KRi (fu G H)) r) :=
  ct_of_J (by decide +kernel) rfl (Nat.le_of_ble_eq_true rfl) (cX_fault_J a1 G) h
set_option maxRecDepth 100000 in
theorem cX_count_J {l : Launch} {H : Hp} (a1 : Int) (G : Hp) : J l M_cX_count (KRi (fu G H)) (cX_count a1 G) 0 [(2, 0), (0, a1)] [] 224 (fu G H) (0, 0) := by
  unfold cX_count
  refine j_iload_n dX10_count_0 rfl rfl ?_
  refine j_if_lt (tgt := 9) dX10_count_1 rfl (fun h1 => ?_) (fun h1 => ?_)
  · refine j_bipush dX10_count_9 r32_m2 bp_m2 ?_
    refine j_goto (tgt := 23) dX10_count_11 rfl ?_
    exact j_ireturn dX10_count_23 rfl rfl (Nat.zero_le _) (Nat.zero_le _)
  · refine j_iload_n dX10_count_4 rfl rfl ?_
    refine j_iconst dX10_count_5 r32_3 ?_
    refine j_icmp_lt (tgt := 14) dX10_count_6 rfl (fun h6 => ?_) (fun h6 => ?_)
    · refine j_bipush dX10_count_9 r32_m2 bp_m2 ?_
      refine j_goto (tgt := 23) dX10_count_11 rfl ?_
      exact j_ireturn dX10_count_23 rfl rfl (Nat.zero_le _) (Nat.zero_le _)
    · refine j_aload_n dX10_count_14 rfl rfl ?_
      refine j_grc dX10_count_15 gf_X10_10 oc_0 (Or.inl (by decide)) rf_0_0 ?_
      refine j_grc dX10_count_18 gf_X10_87 oc_1 (Or.inl (by decide)) rf_1_4 ?_
      refine j_iload_n dX10_count_21 rfl rfl ?_
      refine j_gd (fun h22a h22b => ?_)
      refine j_aic dX10_count_22 oc_3 rfl h22a h22b ?_
      exact j_ireturn dX10_count_23 rfl rfl (Nat.zero_le _) (Nat.zero_le _)

set_option maxRecDepth 100000 in
theorem cX_count_ct {l : Launch} {H : Hp} (a1 : Int) (G : Hp) {r : Int} (h : cX_count a1 G = some r) : Ct l M_cX_count [(2, 0), (0, a1)] 224 (fu G H) ((KRi (fu G H)) r) :=
  ct_of_J (by decide +kernel) rfl (Nat.le_of_ble_eq_true rfl) (cX_count_J a1 G) h
set_option maxRecDepth 100000 in
theorem cTo_copy_L53_J {l : Launch} {H : Hp} (o : Int) (ho : isTold o) (a1 : Int) (ha1 : isTold a1) : ∀ (n_53 : Nat) (x2_53 : Int) (G_53 : Hp), J l M_cTo_copy (KWv (fun g => fu g H)) (cTo_copy_L53 o a1  n_53 x2_53 G_53) 53 [(2, o), (2, a1), (0, x2_53)] [] 224 (fu G_53 H) (0, 0) := by
  intro n_53
  induction n_53 with
  | zero =>
    intro x2_53 G_53
    exact j_none
  | succ n_53 ih =>
    intro x2_53 G_53
    rw [cTo_copy_L53]
    refine j_iload_n dX8_copy_53 rfl rfl ?_
    refine j_iconst dX8_copy_54 r32_2 ?_
    refine j_icmp_ge (tgt := 109) dX8_copy_55 rfl (fun h55 => ?_) (fun h55 => ?_)
    · refine j_aload_n dX8_copy_58 rfl rfl ?_
      refine j_grc dX8_copy_59 gf_X8_25 (oc_told ho) (Or.inl (by decide)) (rf_told_5 ho) ?_
      refine j_iload_n dX8_copy_62 rfl rfl ?_
      refine j_gd (fun h63a h63b => ?_)
      refine j_aq (t := 0) dX8_copy_63 (oc_told_3 ho) (by decide) rfl h63a h63b ?_
      refine j_aload_n dX8_copy_64 rfl rfl ?_
      refine j_grc dX8_copy_65 gf_X8_25 (oc_told ha1) (Or.inl (by decide)) (rf_told_5 ha1) ?_
      refine j_iload_n dX8_copy_68 rfl rfl ?_
      refine j_gd (fun h69a h69b => ?_)
      refine j_aq (t := 0) dX8_copy_69 (oc_told_3 ha1) (by decide) rfl h69a h69b ?_
      refine j_cVWv dX8_copy_70 im_cPa_copy lk_X8_53 rfl (As := [(2, (RF0 (a1 + 3) x2_53))]) (S := []) rfl (oc_paper (pap_told (t := o) ho h63a h63b)).1 ⟨by decide, by decide⟩ (Nat.le_of_ble_eq_true rfl) (fun r hr => cPa_copy_ct (RF0 (o + 3) x2_53) (pap_told (t := o) ho h63a h63b) (RF0 (a1 + 3) x2_53) (pap_told (t := a1) ha1 h69a h69b) G_53 hr) (fun G70 _ => ?_)
      refine j_aload_n dX8_copy_73 rfl rfl ?_
      refine j_grc dX8_copy_74 gf_X8_31 (oc_told ho) (Or.inl (by decide)) (rf_told_6 ho) ?_
      refine j_iload_n dX8_copy_77 rfl rfl ?_
      refine j_gd (fun h78a h78b => ?_)
      refine j_aq (t := 1) dX8_copy_78 (oc_told_4 ho) (by decide) rfl h78a h78b ?_
      refine j_aload_n dX8_copy_79 rfl rfl ?_
      refine j_grc dX8_copy_80 gf_X8_31 (oc_told ha1) (Or.inl (by decide)) (rf_told_6 ha1) ?_
      refine j_iload_n dX8_copy_83 rfl rfl ?_
      refine j_gd (fun h84a h84b => ?_)
      refine j_aq (t := 1) dX8_copy_84 (oc_told_4 ha1) (by decide) rfl h84a h84b ?_
      refine j_cVWv dX8_copy_85 im_cWe_copy lk_X8_61 rfl (As := [(2, (RF0 (a1 + 4) x2_53))]) (S := []) rfl (oc_week (wee_told (t := o) ho h78a h78b)).1 ⟨by decide, by decide⟩ (Nat.le_of_ble_eq_true rfl) (fun r hr => cWe_copy_ct (RF0 (o + 4) x2_53) (wee_told (t := o) ho h78a h78b) (RF0 (a1 + 4) x2_53) (wee_told (t := a1) ha1 h84a h84b) G70 hr) (fun G85 _ => ?_)
      refine j_aload_n dX8_copy_88 rfl rfl ?_
      refine j_grc dX8_copy_89 gf_X8_37 (oc_told ho) (Or.inl (by decide)) (rf_told_7 ho) ?_
      refine j_iload_n dX8_copy_92 rfl rfl ?_
      refine j_gd (fun h93a h93b => ?_)
      refine j_aq (t := 2) dX8_copy_93 (oc_told_5 ho) (by decide) rfl h93a h93b ?_
      refine j_aload_n dX8_copy_94 rfl rfl ?_
      refine j_grc dX8_copy_95 gf_X8_37 (oc_told ha1) (Or.inl (by decide)) (rf_told_7 ha1) ?_
      refine j_iload_n dX8_copy_98 rfl rfl ?_
      refine j_gd (fun h99a h99b => ?_)
      refine j_aq (t := 2) dX8_copy_99 (oc_told_5 ha1) (by decide) rfl h99a h99b ?_
      refine j_cVWv dX8_copy_100 im_cLg_copy lk_X8_68 rfl (As := [(2, (RF0 (a1 + 5) x2_53))]) (S := []) rfl (oc_log (log_told (t := o) ho h93a h93b)).1 ⟨by decide, by decide⟩ (Nat.le_of_ble_eq_true rfl) (fun r hr => cLg_copy_ct (RF0 (o + 5) x2_53) (log_told (t := o) ho h93a h93b) (RF0 (a1 + 5) x2_53) (log_told (t := a1) ha1 h99a h99b) G85 hr) (fun G100 _ => ?_)
      refine j_iinc dX8_copy_103 rfl (Nat.le_of_ble_eq_true rfl) rfl ?_
      refine j_goto (tgt := 53) dX8_copy_106 rfl ?_
      exact j_mask [true, true, true] rfl (ih (w32 (x2_53 + 1)) G100)
    · exact j_return dX8_copy_109 rfl rfl (Nat.zero_le _) (Nat.zero_le _)

set_option maxRecDepth 100000 in
theorem cTo_copy_J {l : Launch} {H : Hp} (o : Int) (ho : isTold o) (a1 : Int) (ha1 : isTold a1) (G : Hp) : J l M_cTo_copy (KWv (fun g => fu g H)) (cTo_copy o a1 G) 0 [(2, o), (2, a1), (9, 0)] [] 224 (fu G H) (0, 0) := by
  unfold cTo_copy
  refine j_aload_n dX8_copy_0 rfl rfl ?_
  refine j_grc dX8_copy_1 gf_X8_9 (oc_told ha1) (Or.inl (by decide)) (rf_told_0 ha1) ?_
  refine j_iconst dX8_copy_4 r32_0 ?_
  refine j_aload_n dX8_copy_5 rfl rfl ?_
  refine j_grc dX8_copy_6 gf_X8_9 (oc_told ho) (Or.inl (by decide)) (rf_told_0 ho) ?_
  refine j_iconst dX8_copy_9 r32_0 ?_
  refine j_sipush dX8_copy_10 r32_600 sp_600 ?_
  refine j_cpy (t := 1) dX8_copy_13 (cy_X8_77 rfl) (by decide) (oc_told_1 ha1) (oc_told_1 ho) rfl rfl (by decide) (Nat.le_of_ble_eq_true rfl) ?_
  refine j_aload_n dX8_copy_16 rfl rfl ?_
  refine j_aload_n dX8_copy_17 rfl rfl ?_
  refine j_gic dX8_copy_18 gf_X8_44 (oc_told ha1) ?_
  refine j_pic dX8_copy_21 gf_X8_44 po_8_1 (oc_told ho) (nf_8_1 _) ?_
  refine j_aload_n dX8_copy_24 rfl rfl ?_
  refine j_aload_n dX8_copy_25 rfl rfl ?_
  refine j_gic dX8_copy_26 gf_X8_83 (oc_told ha1) ?_
  refine j_pic dX8_copy_29 gf_X8_83 po_8_2 (oc_told ho) (nf_8_2 _) ?_
  refine j_aload_n dX8_copy_32 rfl rfl ?_
  refine j_aload_n dX8_copy_33 rfl rfl ?_
  refine j_gic dX8_copy_34 gf_X8_15 (oc_told ha1) ?_
  refine j_pic dX8_copy_37 gf_X8_15 po_8_3 (oc_told ho) (nf_8_3 _) ?_
  refine j_aload_n dX8_copy_40 rfl rfl ?_
  refine j_grc dX8_copy_41 gf_X8_19 (oc_told ha1) (Or.inl (by decide)) (rf_told_4 ha1) ?_
  refine j_aload_n dX8_copy_44 rfl rfl ?_
  refine j_grc dX8_copy_45 gf_X8_19 (oc_told ho) (Or.inl (by decide)) (rf_told_4 ho) ?_
  refine j_cSWv dX8_copy_48 sm_cX_copyRow lk_X8_86 rfl (As := [(2, (a1 + 2)), (2, (o + 2))]) (S := []) rfl ⟨by decide, by decide⟩ (Nat.le_of_ble_eq_true rfl) (fun r hr => cX_copyRow_ct (N := 3) rfl (by decide) (oc_told_2 ha1) (oc_told_2 ho) hr) (fun G48 _ => ?_)
  refine j_iconst dX8_copy_51 r32_0 ?_
  refine j_istore_n dX8_copy_52 rfl (Nat.le_of_ble_eq_true rfl) rfl ?_
  exact j_mask [true, true, true] rfl (cTo_copy_L53_J o ho a1 ha1 FU 0 G48)

set_option maxRecDepth 100000 in
theorem cTo_copy_ct {l : Launch} {H : Hp} (o : Int) (ho : isTold o) (a1 : Int) (ha1 : isTold a1) (G : Hp) {r : Hp} (h : cTo_copy o a1 G = some r) : Ct l M_cTo_copy [(2, o), (2, a1)] 224 (fu G H) ((KWv (fun g => fu g H)) r) :=
  ct_of_J (by decide +kernel) rfl (Nat.le_of_ble_eq_true rfl) (cTo_copy_J o ho a1 ha1 G) h
set_option maxRecDepth 100000 in
theorem cX_image_J {l : Launch} {H : Hp} (a1 : Int) (G : Hp) : J l M_cX_image (KWb (fun g => fu g H)) (cX_image a1 G) 0 [(2, 0), (0, a1)] [] 224 (fu G H) (0, 0) := by
  unfold cX_image
  refine j_iload_n dX10_image_0 rfl rfl ?_
  refine j_if_lt (tgt := 9) dX10_image_1 rfl (fun h1 => ?_) (fun h1 => ?_)
  · refine j_iconst dX10_image_9 r32_0 ?_
    exact j_zreturn (b := false) dX10_image_10 rfl rfl (Nat.zero_le _) (Nat.zero_le _)
  · refine j_iload_n dX10_image_4 rfl rfl ?_
    refine j_iconst dX10_image_5 r32_3 ?_
    refine j_icmp_lt (tgt := 11) dX10_image_6 rfl (fun h6 => ?_) (fun h6 => ?_)
    · refine j_iconst dX10_image_9 r32_0 ?_
      exact j_zreturn (b := false) dX10_image_10 rfl rfl (Nat.zero_le _) (Nat.zero_le _)
    · refine j_aload_n dX10_image_11 rfl rfl ?_
      refine j_grc dX10_image_12 gf_X10_16 oc_0 (Or.inl (by decide)) rf_0_1 ?_
      refine j_iload_n dX10_image_15 rfl rfl ?_
      refine j_gd (fun h16a h16b => ?_)
      refine j_aq (t := 3) dX10_image_16 oc_37 (by decide) rfl h16a h16b ?_
      refine j_aload_n dX10_image_17 rfl rfl ?_
      refine j_grc dX10_image_18 gf_X10_10 oc_0 (Or.inl (by decide)) rf_0_0 ?_
      refine j_cVWv dX10_image_21 im_cTo_copy lk_X10_108 rfl (As := [(2, 1)]) (S := []) rfl (oc_told (told_37 h16a h16b)).1 ⟨by decide, by decide⟩ (Nat.le_of_ble_eq_true rfl) (fun r hr => cTo_copy_ct (RF0 37 a1) (told_37 h16a h16b) 1 isTold_1 G hr) (fun G21 _ => ?_)
      refine j_aload_n dX10_image_24 rfl rfl ?_
      refine j_grc dX10_image_25 gf_X10_20 oc_0 (Or.inl (by decide)) rf_0_2 ?_
      refine j_iload_n dX10_image_28 rfl rfl ?_
      refine j_iconst dX10_image_29 r32_1 ?_
      refine j_gd (fun h30a h30b => ?_)
      refine j_szc dX10_image_30 oc_38 rfl (Or.inr rfl) h30a h30b ?_
      refine j_iconst dX10_image_31 r32_1 ?_
      exact j_zreturn (b := true) dX10_image_32 rfl rfl (Nat.zero_le _) (Nat.zero_le _)

set_option maxRecDepth 100000 in
theorem cX_image_ct {l : Launch} {H : Hp} (a1 : Int) (G : Hp) {r : Bool × Hp} (h : cX_image a1 G = some r) : Ct l M_cX_image [(2, 0), (0, a1)] 224 (fu G H) ((KWb (fun g => fu g H)) r) :=
  ct_of_J (by decide +kernel) rfl (Nat.le_of_ble_eq_true rfl) (cX_image_J a1 G) h
set_option maxRecDepth 100000 in
theorem cX_again_J {l : Launch} {H : Hp} (a1 : Int) (G : Hp) : J l M_cX_again (KWb (fun g => fu g H)) (cX_again a1 G) 0 [(2, 0), (0, a1)] [] 224 (fu G H) (0, 0) := by
  unfold cX_again
  refine j_iload_n dX10_again_0 rfl rfl ?_
  refine j_if_lt (tgt := 18) dX10_again_1 rfl (fun h1 => ?_) (fun h1 => ?_)
  · refine j_iconst dX10_again_18 r32_0 ?_
    exact j_zreturn (b := false) dX10_again_19 rfl rfl (Nat.zero_le _) (Nat.zero_le _)
  · refine j_iload_n dX10_again_4 rfl rfl ?_
    refine j_iconst dX10_again_5 r32_3 ?_
    refine j_icmp_ge (tgt := 18) dX10_again_6 rfl (fun h6 => ?_) (fun h6 => ?_)
    · refine j_aload_n dX10_again_9 rfl rfl ?_
      refine j_grc dX10_again_10 gf_X10_20 oc_0 (Or.inl (by decide)) rf_0_2 ?_
      refine j_iload_n dX10_again_13 rfl rfl ?_
      refine j_gd (fun h14a h14b => ?_)
      refine j_azc dX10_again_14 oc_38 rfl h14a h14b ?_
      refine j_if_ne (tgt := 20) dX10_again_15 rfl (fun h15 => ?_) (fun h15 => ?_)
      · refine j_iconst dX10_again_18 r32_0 ?_
        exact j_zreturn (b := false) dX10_again_19 rfl rfl (Nat.zero_le _) (Nat.zero_le _)
      · refine j_aload_n dX10_again_20 rfl rfl ?_
        refine j_grc dX10_again_21 gf_X10_10 oc_0 (Or.inl (by decide)) rf_0_0 ?_
        refine j_aload_n dX10_again_24 rfl rfl ?_
        refine j_grc dX10_again_25 gf_X10_16 oc_0 (Or.inl (by decide)) rf_0_1 ?_
        refine j_iload_n dX10_again_28 rfl rfl ?_
        refine j_gd (fun h29a h29b => ?_)
        refine j_aq (t := 3) dX10_again_29 oc_37 (by decide) rfl h29a h29b ?_
        refine j_cVWv dX10_again_30 im_cTo_copy lk_X10_108 rfl (As := [(2, (RF0 37 a1))]) (S := []) rfl oc_1.1 ⟨by decide, by decide⟩ (Nat.le_of_ble_eq_true rfl) (fun r hr => cTo_copy_ct 1 isTold_1 (RF0 37 a1) (told_37 h29a h29b) G hr) (fun G30 _ => ?_)
        refine j_aload_n dX10_again_33 rfl rfl ?_
        refine j_grc dX10_again_34 gf_X10_55 oc_0 (Or.inl (by decide)) rf_0_7 ?_
        refine j_cVWv dX10_again_37 im_cRw_forget lk_X10_105 rfl (As := []) (S := []) rfl oc_80.1 ⟨by decide, by decide⟩ (Nat.le_of_ble_eq_true rfl) (fun r hr => cRw_forget_ct  G30 hr) (fun G37 _ => ?_)
        refine j_iconst dX10_again_40 r32_1 ?_
        exact j_zreturn (b := true) dX10_again_41 rfl rfl (Nat.zero_le _) (Nat.zero_le _)
    · refine j_iconst dX10_again_18 r32_0 ?_
      exact j_zreturn (b := false) dX10_again_19 rfl rfl (Nat.zero_le _) (Nat.zero_le _)

set_option maxRecDepth 100000 in
theorem cX_again_ct {l : Launch} {H : Hp} (a1 : Int) (G : Hp) {r : Bool × Hp} (h : cX_again a1 G = some r) : Ct l M_cX_again [(2, 0), (0, a1)] 224 (fu G H) ((KWb (fun g => fu g H)) r) :=
  ct_of_J (by decide +kernel) rfl (Nat.le_of_ble_eq_true rfl) (cX_again_J a1 G) h
set_option maxRecDepth 100000 in
theorem cX_paperAt_J {l : Launch} {H : Hp} (a1 : Int) (G : Hp) : J l M_cX_paperAt (KRr (fu G H)) (cX_paperAt a1 G) 0 [(2, 0), (0, a1)] [] 224 (fu G H) (0, 0) := by
  unfold cX_paperAt
  refine j_iload_n dX10_paperAt_0 rfl rfl ?_
  refine j_if_lt (tgt := 17) dX10_paperAt_1 rfl (fun h1 => ?_) (fun h1 => ?_)
  · refine j_null dX10_paperAt_17 ?_
    refine j_goto (tgt := 30) dX10_paperAt_18 rfl ?_
    exact j_areturn dX10_paperAt_30 rfl rfl (Nat.zero_le _) (Nat.zero_le _)
  · refine j_iload_n dX10_paperAt_4 rfl rfl ?_
    refine j_aload_n dX10_paperAt_5 rfl rfl ?_
    refine j_grc dX10_paperAt_6 gf_X10_10 oc_0 (Or.inl (by decide)) rf_0_0 ?_
    refine j_grc dX10_paperAt_9 gf_X10_87 oc_1 (Or.inl (by decide)) rf_1_4 ?_
    refine j_iconst dX10_paperAt_12 r32_0 ?_
    refine j_aic dX10_paperAt_13 oc_3 rfl (by decide) (by decide) ?_
    refine j_icmp_lt (tgt := 21) dX10_paperAt_14 rfl (fun h14 => ?_) (fun h14 => ?_)
    · refine j_null dX10_paperAt_17 ?_
      refine j_goto (tgt := 30) dX10_paperAt_18 rfl ?_
      exact j_areturn dX10_paperAt_30 rfl rfl (Nat.zero_le _) (Nat.zero_le _)
    · refine j_aload_n dX10_paperAt_21 rfl rfl ?_
      refine j_grc dX10_paperAt_22 gf_X10_10 oc_0 (Or.inl (by decide)) rf_0_0 ?_
      refine j_grc dX10_paperAt_25 gf_X10_112 oc_1 (Or.inl (by decide)) rf_1_5 ?_
      refine j_iload_n dX10_paperAt_28 rfl rfl ?_
      refine j_gd (fun h29a h29b => ?_)
      refine j_aq (t := 0) dX10_paperAt_29 oc_4 (by decide) rfl h29a h29b ?_
      exact j_areturn dX10_paperAt_30 rfl rfl (Nat.zero_le _) (Nat.zero_le _)

set_option maxRecDepth 100000 in
theorem cX_paperAt_ct {l : Launch} {H : Hp} (a1 : Int) (G : Hp) {r : Int} (h : cX_paperAt a1 G = some r) : Ct l M_cX_paperAt [(2, 0), (0, a1)] 224 (fu G H) ((KRr (fu G H)) r) :=
  ct_of_J (by decide +kernel) rfl (Nat.le_of_ble_eq_true rfl) (cX_paperAt_J a1 G) h
set_option maxRecDepth 100000 in
theorem cX_weekAt_J {l : Launch} {H : Hp} (a1 : Int) (G : Hp) : J l M_cX_weekAt (KRr (fu G H)) (cX_weekAt a1 G) 0 [(2, 0), (0, a1)] [] 224 (fu G H) (0, 0) := by
  unfold cX_weekAt
  refine j_iload_n dX10_weekAt_0 rfl rfl ?_
  refine j_if_lt (tgt := 17) dX10_weekAt_1 rfl (fun h1 => ?_) (fun h1 => ?_)
  · refine j_null dX10_weekAt_17 ?_
    refine j_goto (tgt := 30) dX10_weekAt_18 rfl ?_
    exact j_areturn dX10_weekAt_30 rfl rfl (Nat.zero_le _) (Nat.zero_le _)
  · refine j_iload_n dX10_weekAt_4 rfl rfl ?_
    refine j_aload_n dX10_weekAt_5 rfl rfl ?_
    refine j_grc dX10_weekAt_6 gf_X10_10 oc_0 (Or.inl (by decide)) rf_0_0 ?_
    refine j_grc dX10_weekAt_9 gf_X10_87 oc_1 (Or.inl (by decide)) rf_1_4 ?_
    refine j_iconst dX10_weekAt_12 r32_1 ?_
    refine j_aic dX10_weekAt_13 oc_3 rfl (by decide) (by decide) ?_
    refine j_icmp_lt (tgt := 21) dX10_weekAt_14 rfl (fun h14 => ?_) (fun h14 => ?_)
    · refine j_null dX10_weekAt_17 ?_
      refine j_goto (tgt := 30) dX10_weekAt_18 rfl ?_
      exact j_areturn dX10_weekAt_30 rfl rfl (Nat.zero_le _) (Nat.zero_le _)
    · refine j_aload_n dX10_weekAt_21 rfl rfl ?_
      refine j_grc dX10_weekAt_22 gf_X10_10 oc_0 (Or.inl (by decide)) rf_0_0 ?_
      refine j_grc dX10_weekAt_25 gf_X10_116 oc_1 (Or.inl (by decide)) rf_1_6 ?_
      refine j_iload_n dX10_weekAt_28 rfl rfl ?_
      refine j_gd (fun h29a h29b => ?_)
      refine j_aq (t := 1) dX10_weekAt_29 oc_5 (by decide) rfl h29a h29b ?_
      exact j_areturn dX10_weekAt_30 rfl rfl (Nat.zero_le _) (Nat.zero_le _)

set_option maxRecDepth 100000 in
theorem cX_weekAt_ct {l : Launch} {H : Hp} (a1 : Int) (G : Hp) {r : Int} (h : cX_weekAt a1 G = some r) : Ct l M_cX_weekAt [(2, 0), (0, a1)] 224 (fu G H) ((KRr (fu G H)) r) :=
  ct_of_J (by decide +kernel) rfl (Nat.le_of_ble_eq_true rfl) (cX_weekAt_J a1 G) h
set_option maxRecDepth 100000 in
theorem cX_logAt_J {l : Launch} {H : Hp} (a1 : Int) (G : Hp) : J l M_cX_logAt (KRr (fu G H)) (cX_logAt a1 G) 0 [(2, 0), (0, a1)] [] 224 (fu G H) (0, 0) := by
  unfold cX_logAt
  refine j_iload_n dX10_logAt_0 rfl rfl ?_
  refine j_if_lt (tgt := 17) dX10_logAt_1 rfl (fun h1 => ?_) (fun h1 => ?_)
  · refine j_null dX10_logAt_17 ?_
    refine j_goto (tgt := 30) dX10_logAt_18 rfl ?_
    exact j_areturn dX10_logAt_30 rfl rfl (Nat.zero_le _) (Nat.zero_le _)
  · refine j_iload_n dX10_logAt_4 rfl rfl ?_
    refine j_aload_n dX10_logAt_5 rfl rfl ?_
    refine j_grc dX10_logAt_6 gf_X10_10 oc_0 (Or.inl (by decide)) rf_0_0 ?_
    refine j_grc dX10_logAt_9 gf_X10_87 oc_1 (Or.inl (by decide)) rf_1_4 ?_
    refine j_iconst dX10_logAt_12 r32_2 ?_
    refine j_aic dX10_logAt_13 oc_3 rfl (by decide) (by decide) ?_
    refine j_icmp_lt (tgt := 21) dX10_logAt_14 rfl (fun h14 => ?_) (fun h14 => ?_)
    · refine j_null dX10_logAt_17 ?_
      refine j_goto (tgt := 30) dX10_logAt_18 rfl ?_
      exact j_areturn dX10_logAt_30 rfl rfl (Nat.zero_le _) (Nat.zero_le _)
    · refine j_aload_n dX10_logAt_21 rfl rfl ?_
      refine j_grc dX10_logAt_22 gf_X10_10 oc_0 (Or.inl (by decide)) rf_0_0 ?_
      refine j_grc dX10_logAt_25 gf_X10_120 oc_1 (Or.inl (by decide)) rf_1_7 ?_
      refine j_iload_n dX10_logAt_28 rfl rfl ?_
      refine j_gd (fun h29a h29b => ?_)
      refine j_aq (t := 2) dX10_logAt_29 oc_6 (by decide) rfl h29a h29b ?_
      exact j_areturn dX10_logAt_30 rfl rfl (Nat.zero_le _) (Nat.zero_le _)

set_option maxRecDepth 100000 in
theorem cX_logAt_ct {l : Launch} {H : Hp} (a1 : Int) (G : Hp) {r : Int} (h : cX_logAt a1 G = some r) : Ct l M_cX_logAt [(2, 0), (0, a1)] 224 (fu G H) ((KRr (fu G H)) r) :=
  ct_of_J (by decide +kernel) rfl (Nat.le_of_ble_eq_true rfl) (cX_logAt_J a1 G) h
set_option maxRecDepth 100000 in
theorem cX_wordAt_J {l : Launch} {Ch : Hp} (a0 : Int) (a1 : Int) : J l M_cX_wordAt (KRi Ch) (some (cX_wordAt a0 a1)) 0 [(0, a0), (0, a1)] [] 224 Ch (0, 0) := by
  unfold cX_wordAt
  refine j_iload_n dX10_wordAt_0 rfl rfl ?_
  refine j_iconst dX10_wordAt_1 r32_4 ?_
  refine j_iload_n dX10_wordAt_2 rfl rfl ?_
  refine j_imul dX10_wordAt_3 ?_
  refine j_iushr dX10_wordAt_4 ?_
  refine j_bipush dX10_wordAt_5 r32_15 bp_15 ?_
  refine j_iand dX10_wordAt_7 ?_
  exact j_ireturn dX10_wordAt_8 rfl rfl (Nat.zero_le _) (Nat.zero_le _)

set_option maxRecDepth 100000 in
theorem cX_wordAt_ct {l : Launch} {Ch : Hp} (a0 : Int) (a1 : Int) : Ct l M_cX_wordAt [(0, a0), (0, a1)] 224 Ch (KRi Ch (cX_wordAt a0 a1)) :=
  ct_of_J (by decide +kernel) rfl (Nat.le_of_ble_eq_true rfl) (cX_wordAt_J a0 a1) rfl
set_option maxRecDepth 100000 in
theorem cPa_wish_J {l : Launch} {H : Hp} (o : Int) (ho : isPaper o) (a1 : Int) (a2 : Int) (G : Hp) : J l M_cPa_wish (KRi (fu G H)) (cPa_wish o a1 a2 G) 0 [(2, o), (0, a1), (0, a2)] [] 224 (fu G H) (0, 0) := by
  unfold cPa_wish
  refine j_iload_n dX3_wish_0 rfl rfl ?_
  refine j_if_lt (tgt := 20) dX3_wish_1 rfl (fun h1 => ?_) (fun h1 => ?_)
  · refine j_bipush dX3_wish_20 r32_10 bp_10 ?_
    exact j_ireturn dX3_wish_22 rfl rfl (Nat.zero_le _) (Nat.zero_le _)
  · refine j_iload_n dX3_wish_4 rfl rfl ?_
    refine j_bipush dX3_wish_5 r32_6 bp_6 ?_
    refine j_icmp_ge (tgt := 20) dX3_wish_7 rfl (fun h7 => ?_) (fun h7 => ?_)
    · refine j_iload_n dX3_wish_10 rfl rfl ?_
      refine j_if_lt (tgt := 20) dX3_wish_11 rfl (fun h11 => ?_) (fun h11 => ?_)
      · refine j_bipush dX3_wish_20 r32_10 bp_10 ?_
        exact j_ireturn dX3_wish_22 rfl rfl (Nat.zero_le _) (Nat.zero_le _)
      · refine j_iload_n dX3_wish_14 rfl rfl ?_
        refine j_bipush dX3_wish_15 r32_8 bp_8 ?_
        refine j_icmp_lt (tgt := 23) dX3_wish_17 rfl (fun h17 => ?_) (fun h17 => ?_)
        · refine j_bipush dX3_wish_20 r32_10 bp_10 ?_
          exact j_ireturn dX3_wish_22 rfl rfl (Nat.zero_le _) (Nat.zero_le _)
        · refine j_aload_n dX3_wish_23 rfl rfl ?_
          refine j_grc dX3_wish_24 gf_X3_25 (oc_paper ho) (Or.inl (by decide)) (rf_paper_6 ho) ?_
          refine j_bipush dX3_wish_27 r32_8 bp_8 ?_
          refine j_iload_n dX3_wish_29 rfl rfl ?_
          refine j_imul dX3_wish_30 ?_
          refine j_iload_n dX3_wish_31 rfl rfl ?_
          refine j_iadd dX3_wish_32 ?_
          refine j_gd (fun h33a h33b => ?_)
          refine j_aic dX3_wish_33 (oc_paper_7 ho) rfl h33a h33b ?_
          exact j_ireturn dX3_wish_34 rfl rfl (Nat.zero_le _) (Nat.zero_le _)
    · refine j_bipush dX3_wish_20 r32_10 bp_10 ?_
      exact j_ireturn dX3_wish_22 rfl rfl (Nat.zero_le _) (Nat.zero_le _)

set_option maxRecDepth 100000 in
theorem cPa_wish_ct {l : Launch} {H : Hp} (o : Int) (ho : isPaper o) (a1 : Int) (a2 : Int) (G : Hp) {r : Int} (h : cPa_wish o a1 a2 G = some r) : Ct l M_cPa_wish [(2, o), (0, a1), (0, a2)] 224 (fu G H) ((KRi (fu G H)) r) :=
  ct_of_J (by decide +kernel) rfl (Nat.le_of_ble_eq_true rfl) (cPa_wish_J o ho a1 a2 G) h
set_option maxRecDepth 100000 in
theorem cPa_tell_J {l : Launch} {H : Hp} (o : Int) (ho : isPaper o) (a1 : Int) (G : Hp) : J l M_cPa_tell (KRi (fu G H)) (cPa_tell o a1 G) 0 [(2, o), (0, a1), (9, 0), (9, 0)] [] 224 (fu G H) (0, 0) := by
  unfold cPa_tell
  refine j_iload_n dX3_tell_0 rfl rfl ?_
  refine j_if_ge (tgt := 6) dX3_tell_1 rfl (fun h1 => ?_) (fun h1 => ?_)
  · refine j_iconst dX3_tell_4 r32_m1 ?_
    exact j_ireturn dX3_tell_5 rfl rfl (Nat.zero_le _) (Nat.zero_le _)
  · refine j_iload_n dX3_tell_6 rfl rfl ?_
    refine j_bipush dX3_tell_7 r32_10 bp_10 ?_
    refine j_irem dX3_tell_9 (by decide) ?_
    refine j_istore_n dX3_tell_10 rfl (Nat.le_of_ble_eq_true rfl) rfl ?_
    refine j_iload_n dX3_tell_11 rfl rfl ?_
    refine j_bipush dX3_tell_12 r32_10 bp_10 ?_
    refine j_idiv dX3_tell_14 (by decide) ?_
    refine j_ite _ (fun hc15_0 => ?_) (fun hc15_0 => ?_)
    · refine j_swIn (i := 0) (tgt := 48) dX3_tell_15 (hc15_0.trans (by decide)) (by decide) rfl rfl ?_
      refine j_iload_n dX3_tell_48 rfl rfl ?_
      refine j_if_ne (tgt := 59) dX3_tell_49 rfl (fun h49 => ?_) (fun h49 => ?_)
      · refine j_aload_n dX3_tell_52 rfl rfl ?_
        refine j_gic dX3_tell_53 gf_X3_32 (oc_paper ho) ?_
        refine j_goto (tgt := 72) dX3_tell_56 rfl ?_
        exact j_ireturn dX3_tell_72 rfl rfl (Nat.zero_le _) (Nat.zero_le _)
      · refine j_iload_n dX3_tell_59 rfl rfl ?_
        refine j_iconst dX3_tell_60 r32_1 ?_
        refine j_icmp_ne (tgt := 71) dX3_tell_61 rfl (fun h61 => ?_) (fun h61 => ?_)
        · refine j_aload_n dX3_tell_64 rfl rfl ?_
          refine j_gic dX3_tell_65 gf_X3_35 (oc_paper ho) ?_
          refine j_goto (tgt := 72) dX3_tell_68 rfl ?_
          exact j_ireturn dX3_tell_72 rfl rfl (Nat.zero_le _) (Nat.zero_le _)
        · refine j_iconst dX3_tell_71 r32_m1 ?_
          exact j_ireturn dX3_tell_72 rfl rfl (Nat.zero_le _) (Nat.zero_le _)
    · refine j_ite _ (fun hc15_1 => ?_) (fun hc15_1 => ?_)
      · refine j_swIn (i := 1) (tgt := 73) dX3_tell_15 (hc15_1.trans (by decide)) (by decide) rfl rfl ?_
        refine j_iload_n dX3_tell_73 rfl rfl ?_
        refine j_aload_n dX3_tell_74 rfl rfl ?_
        refine j_gic dX3_tell_75 gf_X3_32 (oc_paper ho) ?_
        refine j_icmp_ge (tgt := 92) dX3_tell_78 rfl (fun h78 => ?_) (fun h78 => ?_)
        · refine j_aload_n dX3_tell_81 rfl rfl ?_
          refine j_gic dX3_tell_82 gf_X3_28 (oc_paper ho) ?_
          refine j_iload_n dX3_tell_85 rfl rfl ?_
          refine j_cSRip dX3_tell_86 sm_cX_wordAt lk_X3_53 rfl (As := [(0, G o 0), (0, irem a1 10)]) (S := []) rfl ⟨by decide, by decide⟩ (Nat.le_of_ble_eq_true rfl) (cX_wordAt_ct (G o 0) (irem a1 10)) ?_
          refine j_goto (tgt := 93) dX3_tell_89 rfl ?_
          exact j_ireturn dX3_tell_93 rfl rfl (Nat.zero_le _) (Nat.zero_le _)
        · refine j_iconst dX3_tell_92 r32_m1 ?_
          exact j_ireturn dX3_tell_93 rfl rfl (Nat.zero_le _) (Nat.zero_le _)
      · refine j_ite _ (fun hc15_2 => ?_) (fun hc15_2 => ?_)
        · refine j_swIn (i := 2) (tgt := 94) dX3_tell_15 (hc15_2.trans (by decide)) (by decide) rfl rfl ?_
          refine j_aload_n dX3_tell_94 rfl rfl ?_
          refine j_grc dX3_tell_95 gf_X3_12 (oc_paper ho) (Or.inl (by decide)) (rf_paper_3 ho) ?_
          refine j_grc dX3_tell_98 gf_X3_57 (oc_net (net_paper ho)) (Or.inl (by decide)) (rf_net_0 (net_paper ho)) ?_
          refine j_iload_n dX3_tell_101 rfl rfl ?_
          refine j_gd (fun h102a h102b => ?_)
          refine j_aic dX3_tell_102 (oc_net_1 (net_paper ho)) rfl h102a h102b ?_
          exact j_ireturn dX3_tell_103 rfl rfl (Nat.zero_le _) (Nat.zero_le _)
        · refine j_ite _ (fun hc15_3 => ?_) (fun hc15_3 => ?_)
          · refine j_swIn (i := 3) (tgt := 104) dX3_tell_15 (hc15_3.trans (by decide)) (by decide) rfl rfl ?_
            refine j_iload_n dX3_tell_104 rfl rfl ?_
            refine j_aload_n dX3_tell_105 rfl rfl ?_
            refine j_gic dX3_tell_106 gf_X3_35 (oc_paper ho) ?_
            refine j_icmp_ge (tgt := 121) dX3_tell_109 rfl (fun h109 => ?_) (fun h109 => ?_)
            · refine j_aload_n dX3_tell_112 rfl rfl ?_
              refine j_grc dX3_tell_113 gf_X3_18 (oc_paper ho) (Or.inl (by decide)) (rf_paper_4 ho) ?_
              refine j_iload_n dX3_tell_116 rfl rfl ?_
              refine j_gd (fun h117a h117b => ?_)
              refine j_aic dX3_tell_117 (oc_paper_5 ho) rfl h117a h117b ?_
              refine j_goto (tgt := 122) dX3_tell_118 rfl ?_
              exact j_ireturn dX3_tell_122 rfl rfl (Nat.zero_le _) (Nat.zero_le _)
            · refine j_iconst dX3_tell_121 r32_m1 ?_
              exact j_ireturn dX3_tell_122 rfl rfl (Nat.zero_le _) (Nat.zero_le _)
          · refine j_ite _ (fun hc15_4 => ?_) (fun hc15_4 => ?_)
            · refine j_swIn (i := 4) (tgt := 123) dX3_tell_15 (hc15_4.trans (by decide)) (by decide) rfl rfl ?_
              refine j_iload_n dX3_tell_123 rfl rfl ?_
              refine j_aload_n dX3_tell_124 rfl rfl ?_
              refine j_gic dX3_tell_125 gf_X3_35 (oc_paper ho) ?_
              refine j_icmp_ge (tgt := 140) dX3_tell_128 rfl (fun h128 => ?_) (fun h128 => ?_)
              · refine j_aload_n dX3_tell_131 rfl rfl ?_
                refine j_grc dX3_tell_132 gf_X3_22 (oc_paper ho) (Or.inl (by decide)) (rf_paper_5 ho) ?_
                refine j_iload_n dX3_tell_135 rfl rfl ?_
                refine j_gd (fun h136a h136b => ?_)
                refine j_aic dX3_tell_136 (oc_paper_6 ho) rfl h136a h136b ?_
                refine j_goto (tgt := 141) dX3_tell_137 rfl ?_
                exact j_ireturn dX3_tell_141 rfl rfl (Nat.zero_le _) (Nat.zero_le _)
              · refine j_iconst dX3_tell_140 r32_m1 ?_
                exact j_ireturn dX3_tell_141 rfl rfl (Nat.zero_le _) (Nat.zero_le _)
            · refine j_swOut (tgt := 142) dX3_tell_15 (by omega) rfl ?_
              refine j_iload_n dX3_tell_142 rfl rfl ?_
              refine j_bipush dX3_tell_143 r32_10 bp_10 ?_
              refine j_idiv dX3_tell_145 (by decide) ?_
              refine j_bipush dX3_tell_146 r32_10 bp_10 ?_
              refine j_isub dX3_tell_148 ?_
              refine j_istore_n dX3_tell_149 rfl (Nat.le_of_ble_eq_true rfl) rfl ?_
              refine j_iload_n dX3_tell_150 rfl rfl ?_
              refine j_if_lt (tgt := 170) dX3_tell_151 rfl (fun h151 => ?_) (fun h151 => ?_)
              · refine j_iconst dX3_tell_170 r32_m1 ?_
                refine j_goto (tgt := 180) dX3_tell_171 rfl ?_
                exact j_ireturn dX3_tell_180 rfl rfl (Nat.zero_le _) (Nat.zero_le _)
              · refine j_iload_n dX3_tell_154 rfl rfl ?_
                refine j_aload_n dX3_tell_155 rfl rfl ?_
                refine j_gic dX3_tell_156 gf_X3_35 (oc_paper ho) ?_
                refine j_icmp_ge (tgt := 170) dX3_tell_159 rfl (fun h159 => ?_) (fun h159 => ?_)
                · refine j_iload_n dX3_tell_162 rfl rfl ?_
                  refine j_aload_n dX3_tell_163 rfl rfl ?_
                  refine j_gic dX3_tell_164 gf_X3_32 (oc_paper ho) ?_
                  refine j_icmp_lt (tgt := 174) dX3_tell_167 rfl (fun h167 => ?_) (fun h167 => ?_)
                  · refine j_iconst dX3_tell_170 r32_m1 ?_
                    refine j_goto (tgt := 180) dX3_tell_171 rfl ?_
                    exact j_ireturn dX3_tell_180 rfl rfl (Nat.zero_le _) (Nat.zero_le _)
                  · refine j_aload_n dX3_tell_174 rfl rfl ?_
                    refine j_iload_n dX3_tell_175 rfl rfl ?_
                    refine j_iload_n dX3_tell_176 rfl rfl ?_
                    refine j_cVRi dX3_tell_177 im_cPa_wish lk_X3_60 rfl (As := [(0, w32 ((idiv a1 10) - 10)), (0, irem a1 10)]) (S := []) rfl (oc_paper ho).1 ⟨by decide, by decide⟩ (Nat.le_of_ble_eq_true rfl) (fun r hr => cPa_wish_ct o ho (w32 ((idiv a1 10) - 10)) (irem a1 10) G hr) (fun v177 _ => ?_)
                    exact j_ireturn dX3_tell_180 rfl rfl (Nat.zero_le _) (Nat.zero_le _)
                · refine j_iconst dX3_tell_170 r32_m1 ?_
                  refine j_goto (tgt := 180) dX3_tell_171 rfl ?_
                  exact j_ireturn dX3_tell_180 rfl rfl (Nat.zero_le _) (Nat.zero_le _)

set_option maxRecDepth 100000 in
theorem cPa_tell_ct {l : Launch} {H : Hp} (o : Int) (ho : isPaper o) (a1 : Int) (G : Hp) {r : Int} (h : cPa_tell o a1 G = some r) : Ct l M_cPa_tell [(2, o), (0, a1)] 224 (fu G H) ((KRi (fu G H)) r) :=
  ct_of_J (by decide +kernel) rfl (Nat.le_of_ble_eq_true rfl) (cPa_tell_J o ho a1 G) h
set_option maxRecDepth 100000 in
theorem cX_paper_J {l : Launch} {H : Hp} (a1 : Int) (a2 : Int) (G : Hp) : J l M_cX_paper (KRi (fu G H)) (cX_paper a1 a2 G) 0 [(2, 0), (0, a1), (0, a2), (9, 0)] [] 224 (fu G H) (0, 0) := by
  unfold cX_paper
  refine j_aload_n dX10_paper_0 rfl rfl ?_
  refine j_iload_n dX10_paper_1 rfl rfl ?_
  refine j_cVRr dX10_paper_2 im_cX_paperAt lk_X10_124 rfl (As := [(0, a1)]) (S := []) rfl oc_0.1 ⟨by decide, by decide⟩ (Nat.le_of_ble_eq_true rfl) (fun r hr => cX_paperAt_ct a1 G hr) (fun v2 hv2 => ?_)
  refine j_astore_n dX10_paper_5 rfl (Nat.le_of_ble_eq_true rfl) rfl ?_
  refine j_aload_n dX10_paper_6 rfl rfl ?_
  refine j_ifnonnull (tgt := 14) dX10_paper_7 rfl (fun h7 => ?_) (fun h7 => ?_)
  · refine j_iconst dX10_paper_10 r32_m1 ?_
    refine j_goto (tgt := 19) dX10_paper_11 rfl ?_
    exact j_ireturn dX10_paper_19 rfl rfl (Nat.zero_le _) (Nat.zero_le _)
  · refine j_aload_n dX10_paper_14 rfl rfl ?_
    refine j_iload_n dX10_paper_15 rfl rfl ?_
    refine j_cVRi dX10_paper_16 im_cPa_tell lk_X10_128 rfl (As := [(0, a2)]) (S := []) rfl (oc_paper (cX_paperAt_ok hv2 h7)).1 ⟨by decide, by decide⟩ (Nat.le_of_ble_eq_true rfl) (fun r hr => cPa_tell_ct v2 (cX_paperAt_ok hv2 h7) a2 G hr) (fun v16 _ => ?_)
    exact j_ireturn dX10_paper_19 rfl rfl (Nat.zero_le _) (Nat.zero_le _)

set_option maxRecDepth 100000 in
theorem cX_paper_ct {l : Launch} {H : Hp} (a1 : Int) (a2 : Int) (G : Hp) {r : Int} (h : cX_paper a1 a2 G = some r) : Ct l M_cX_paper [(2, 0), (0, a1), (0, a2)] 224 (fu G H) ((KRi (fu G H)) r) :=
  ct_of_J (by decide +kernel) rfl (Nat.le_of_ble_eq_true rfl) (cX_paper_J a1 a2 G) h
set_option maxRecDepth 100000 in
theorem cX_deed_j30_J {l : Launch} {H : Hp} (a1 : Int) (a2 : Int) (a3 : Int) (G : Hp) (x4_30 : Int) (hx4_30 : isWeek x4_30) : J l M_cX_deed (KRi (fu G H)) (cX_deed_j30 a1 a2 a3 G  x4_30) 30 [(9, 0), (9, 0), (0, a2), (0, a3), (2, x4_30)] [] 224 (fu G H) (0, 0) := by
  unfold cX_deed_j30
  refine j_iload_n dX10_deed_30 rfl rfl ?_
  refine j_if_lt (tgt := 52) dX10_deed_31 rfl (fun h31 => ?_) (fun h31 => ?_)
  · refine j_bipush dX10_deed_52 r32_m2 bp_m2 ?_
    exact j_ireturn dX10_deed_54 rfl rfl (Nat.zero_le _) (Nat.zero_le _)
  · refine j_iload_n dX10_deed_34 rfl rfl ?_
    refine j_aload dX10_deed_35 rfl ?_
    refine j_gic dX10_deed_37 gf_X10_138 (oc_week hx4_30) ?_
    refine j_icmp_ge (tgt := 52) dX10_deed_40 rfl (fun h40 => ?_) (fun h40 => ?_)
    · refine j_iload_n dX10_deed_43 rfl rfl ?_
      refine j_if_lt (tgt := 52) dX10_deed_44 rfl (fun h44 => ?_) (fun h44 => ?_)
      · refine j_bipush dX10_deed_52 r32_m2 bp_m2 ?_
        exact j_ireturn dX10_deed_54 rfl rfl (Nat.zero_le _) (Nat.zero_le _)
      · refine j_iload_n dX10_deed_47 rfl rfl ?_
        refine j_iconst dX10_deed_48 r32_2 ?_
        refine j_icmp_le (tgt := 55) dX10_deed_49 rfl (fun h49 => ?_) (fun h49 => ?_)
        · refine j_bipush dX10_deed_52 r32_m2 bp_m2 ?_
          exact j_ireturn dX10_deed_54 rfl rfl (Nat.zero_le _) (Nat.zero_le _)
        · refine j_iload_n dX10_deed_55 rfl rfl ?_
          refine j_if_ne (tgt := 67) dX10_deed_56 rfl (fun h56 => ?_) (fun h56 => ?_)
          · refine j_aload dX10_deed_59 rfl ?_
            refine j_grc dX10_deed_61 gf_X10_143 (oc_week hx4_30) (Or.inl (by decide)) (rf_week_1 hx4_30) ?_
            refine j_iload_n dX10_deed_64 rfl rfl ?_
            refine j_gd (fun h65a h65b => ?_)
            refine j_aic dX10_deed_65 (oc_week_1 hx4_30) rfl h65a h65b ?_
            exact j_ireturn dX10_deed_66 rfl rfl (Nat.zero_le _) (Nat.zero_le _)
          · refine j_iload_n dX10_deed_67 rfl rfl ?_
            refine j_iconst dX10_deed_68 r32_1 ?_
            refine j_icmp_ne (tgt := 82) dX10_deed_69 rfl (fun h69 => ?_) (fun h69 => ?_)
            · refine j_aload dX10_deed_72 rfl ?_
              refine j_grc dX10_deed_74 gf_X10_146 (oc_week hx4_30) (Or.inl (by decide)) (rf_week_2 hx4_30) ?_
              refine j_iload_n dX10_deed_77 rfl rfl ?_
              refine j_gd (fun h78a h78b => ?_)
              refine j_aic dX10_deed_78 (oc_week_2 hx4_30) rfl h78a h78b ?_
              refine j_goto (tgt := 89) dX10_deed_79 rfl ?_
              exact j_ireturn dX10_deed_89 rfl rfl (Nat.zero_le _) (Nat.zero_le _)
            · refine j_aload dX10_deed_82 rfl ?_
              refine j_grc dX10_deed_84 gf_X10_149 (oc_week hx4_30) (Or.inl (by decide)) (rf_week_3 hx4_30) ?_
              refine j_iload_n dX10_deed_87 rfl rfl ?_
              refine j_gd (fun h88a h88b => ?_)
              refine j_aic dX10_deed_88 (oc_week_3 hx4_30) rfl h88a h88b ?_
              exact j_ireturn dX10_deed_89 rfl rfl (Nat.zero_le _) (Nat.zero_le _)
    · refine j_bipush dX10_deed_52 r32_m2 bp_m2 ?_
      exact j_ireturn dX10_deed_54 rfl rfl (Nat.zero_le _) (Nat.zero_le _)

set_option maxRecDepth 100000 in
theorem cX_deed_J {l : Launch} {H : Hp} (a1 : Int) (a2 : Int) (a3 : Int) (G : Hp) : J l M_cX_deed (KRi (fu G H)) (cX_deed a1 a2 a3 G) 0 [(2, 0), (0, a1), (0, a2), (0, a3), (9, 0)] [] 224 (fu G H) (0, 0) := by
  unfold cX_deed
  refine j_aload_n dX10_deed_0 rfl rfl ?_
  refine j_iload_n dX10_deed_1 rfl rfl ?_
  refine j_cVRr dX10_deed_2 im_cX_weekAt lk_X10_134 rfl (As := [(0, a1)]) (S := []) rfl oc_0.1 ⟨by decide, by decide⟩ (Nat.le_of_ble_eq_true rfl) (fun r hr => cX_weekAt_ct a1 G hr) (fun v2 hv2 => ?_)
  refine j_astore dX10_deed_5 (Nat.le_of_ble_eq_true rfl) rfl ?_
  refine j_aload dX10_deed_7 rfl ?_
  refine j_ifnonnull (tgt := 15) dX10_deed_9 rfl (fun h9 => ?_) (fun h9 => ?_)
  · refine j_bipush dX10_deed_12 r32_m2 bp_m2 ?_
    exact j_ireturn dX10_deed_14 rfl rfl (Nat.zero_le _) (Nat.zero_le _)
  · refine j_iload_n dX10_deed_15 rfl rfl ?_
    refine j_iconst dX10_deed_16 r32_m1 ?_
    refine j_icmp_ne (tgt := 30) dX10_deed_17 rfl (fun h17 => ?_) (fun h17 => ?_)
    · refine j_iload_n dX10_deed_20 rfl rfl ?_
      refine j_if_ne (tgt := 30) dX10_deed_21 rfl (fun h21 => ?_) (fun h21 => ?_)
      · refine j_aload dX10_deed_24 rfl ?_
        refine j_gic dX10_deed_26 gf_X10_138 (oc_week (cX_weekAt_ok hv2 h9)) ?_
        exact j_ireturn dX10_deed_29 rfl rfl (Nat.zero_le _) (Nat.zero_le _)
      · exact j_mask [false, false, true, true, true] rfl (cX_deed_j30_J a1 a2 a3 G v2 (cX_weekAt_ok hv2 h9))
    · exact j_mask [false, false, true, true, true] rfl (cX_deed_j30_J a1 a2 a3 G v2 (cX_weekAt_ok hv2 h9))

set_option maxRecDepth 100000 in
theorem cX_deed_ct {l : Launch} {H : Hp} (a1 : Int) (a2 : Int) (a3 : Int) (G : Hp) {r : Int} (h : cX_deed a1 a2 a3 G = some r) : Ct l M_cX_deed [(2, 0), (0, a1), (0, a2), (0, a3)] 224 (fu G H) ((KRi (fu G H)) r) :=
  ct_of_J (by decide +kernel) rfl (Nat.le_of_ble_eq_true rfl) (cX_deed_J a1 a2 a3 G) h
set_option maxRecDepth 100000 in
theorem cX_fact_j30_J {l : Launch} {H : Hp} (a1 : Int) (a2 : Int) (a3 : Int) (G : Hp) (x4_30 : Int) (hx4_30 : isLog x4_30) : J l M_cX_fact (KRi (fu G H)) (cX_fact_j30 a1 a2 a3 G  x4_30) 30 [(9, 0), (9, 0), (0, a2), (0, a3), (2, x4_30)] [] 224 (fu G H) (0, 0) := by
  unfold cX_fact_j30
  refine j_iload_n dX10_fact_30 rfl rfl ?_
  refine j_if_lt (tgt := 52) dX10_fact_31 rfl (fun h31 => ?_) (fun h31 => ?_)
  · refine j_bipush dX10_fact_52 r32_m2 bp_m2 ?_
    exact j_ireturn dX10_fact_54 rfl rfl (Nat.zero_le _) (Nat.zero_le _)
  · refine j_iload_n dX10_fact_34 rfl rfl ?_
    refine j_aload dX10_fact_35 rfl ?_
    refine j_gic dX10_fact_37 gf_X10_156 (oc_log hx4_30) ?_
    refine j_icmp_ge (tgt := 52) dX10_fact_40 rfl (fun h40 => ?_) (fun h40 => ?_)
    · refine j_iload_n dX10_fact_43 rfl rfl ?_
      refine j_if_lt (tgt := 52) dX10_fact_44 rfl (fun h44 => ?_) (fun h44 => ?_)
      · refine j_bipush dX10_fact_52 r32_m2 bp_m2 ?_
        exact j_ireturn dX10_fact_54 rfl rfl (Nat.zero_le _) (Nat.zero_le _)
      · refine j_iload_n dX10_fact_47 rfl rfl ?_
        refine j_iconst dX10_fact_48 r32_1 ?_
        refine j_icmp_le (tgt := 55) dX10_fact_49 rfl (fun h49 => ?_) (fun h49 => ?_)
        · refine j_bipush dX10_fact_52 r32_m2 bp_m2 ?_
          exact j_ireturn dX10_fact_54 rfl rfl (Nat.zero_le _) (Nat.zero_le _)
        · refine j_iload_n dX10_fact_55 rfl rfl ?_
          refine j_if_ne (tgt := 69) dX10_fact_56 rfl (fun h56 => ?_) (fun h56 => ?_)
          · refine j_aload dX10_fact_59 rfl ?_
            refine j_grc dX10_fact_61 gf_X10_161 (oc_log hx4_30) (Or.inl (by decide)) (rf_log_1 hx4_30) ?_
            refine j_iload_n dX10_fact_64 rfl rfl ?_
            refine j_gd (fun h65a h65b => ?_)
            refine j_aic dX10_fact_65 (oc_log_1 hx4_30) rfl h65a h65b ?_
            refine j_goto (tgt := 76) dX10_fact_66 rfl ?_
            exact j_ireturn dX10_fact_76 rfl rfl (Nat.zero_le _) (Nat.zero_le _)
          · refine j_aload dX10_fact_69 rfl ?_
            refine j_grc dX10_fact_71 gf_X10_163 (oc_log hx4_30) (Or.inl (by decide)) (rf_log_2 hx4_30) ?_
            refine j_iload_n dX10_fact_74 rfl rfl ?_
            refine j_gd (fun h75a h75b => ?_)
            refine j_aic dX10_fact_75 (oc_log_2 hx4_30) rfl h75a h75b ?_
            exact j_ireturn dX10_fact_76 rfl rfl (Nat.zero_le _) (Nat.zero_le _)
    · refine j_bipush dX10_fact_52 r32_m2 bp_m2 ?_
      exact j_ireturn dX10_fact_54 rfl rfl (Nat.zero_le _) (Nat.zero_le _)

set_option maxRecDepth 100000 in
theorem cX_fact_J {l : Launch} {H : Hp} (a1 : Int) (a2 : Int) (a3 : Int) (G : Hp) : J l M_cX_fact (KRi (fu G H)) (cX_fact a1 a2 a3 G) 0 [(2, 0), (0, a1), (0, a2), (0, a3), (9, 0)] [] 224 (fu G H) (0, 0) := by
  unfold cX_fact
  refine j_aload_n dX10_fact_0 rfl rfl ?_
  refine j_iload_n dX10_fact_1 rfl rfl ?_
  refine j_cVRr dX10_fact_2 im_cX_logAt lk_X10_152 rfl (As := [(0, a1)]) (S := []) rfl oc_0.1 ⟨by decide, by decide⟩ (Nat.le_of_ble_eq_true rfl) (fun r hr => cX_logAt_ct a1 G hr) (fun v2 hv2 => ?_)
  refine j_astore dX10_fact_5 (Nat.le_of_ble_eq_true rfl) rfl ?_
  refine j_aload dX10_fact_7 rfl ?_
  refine j_ifnonnull (tgt := 15) dX10_fact_9 rfl (fun h9 => ?_) (fun h9 => ?_)
  · refine j_bipush dX10_fact_12 r32_m2 bp_m2 ?_
    exact j_ireturn dX10_fact_14 rfl rfl (Nat.zero_le _) (Nat.zero_le _)
  · refine j_iload_n dX10_fact_15 rfl rfl ?_
    refine j_iconst dX10_fact_16 r32_m1 ?_
    refine j_icmp_ne (tgt := 30) dX10_fact_17 rfl (fun h17 => ?_) (fun h17 => ?_)
    · refine j_iload_n dX10_fact_20 rfl rfl ?_
      refine j_if_ne (tgt := 30) dX10_fact_21 rfl (fun h21 => ?_) (fun h21 => ?_)
      · refine j_aload dX10_fact_24 rfl ?_
        refine j_gic dX10_fact_26 gf_X10_156 (oc_log (cX_logAt_ok hv2 h9)) ?_
        exact j_ireturn dX10_fact_29 rfl rfl (Nat.zero_le _) (Nat.zero_le _)
      · exact j_mask [false, false, true, true, true] rfl (cX_fact_j30_J a1 a2 a3 G v2 (cX_logAt_ok hv2 h9))
    · exact j_mask [false, false, true, true, true] rfl (cX_fact_j30_J a1 a2 a3 G v2 (cX_logAt_ok hv2 h9))

set_option maxRecDepth 100000 in
theorem cX_fact_ct {l : Launch} {H : Hp} (a1 : Int) (a2 : Int) (a3 : Int) (G : Hp) {r : Int} (h : cX_fact a1 a2 a3 G = some r) : Ct l M_cX_fact [(2, 0), (0, a1), (0, a2), (0, a3)] 224 (fu G H) ((KRi (fu G H)) r) :=
  ct_of_J (by decide +kernel) rfl (Nat.le_of_ble_eq_true rfl) (cX_fact_J a1 a2 a3 G) h
set_option maxRecDepth 100000 in
theorem cSt_begin_L26_J {l : Launch} {H : Hp} (a1 : Int) (ha1 : isPaper a1) (k52 : Hp → Option (Hp)) (hk52 : ∀ (G_52 : Hp), J l M_cSt_begin (KWv (fun g => fu g H)) (k52 G_52) 52 [(2, 57), (9, 0), (9, 0)] [] 224 (fu G_52 H) (0, 0)) : ∀ (n_26 : Nat) (x2_26 : Int) (G_26 : Hp), J l M_cSt_begin (KWv (fun g => fu g H)) (cSt_begin_L26 a1 k52 n_26 x2_26 G_26) 26 [(2, 57), (9, 0), (0, x2_26)] [] 224 (fu G_26 H) (0, 0) := by
  intro n_26
  induction n_26 with
  | zero =>
    intro x2_26 G_26
    exact j_none
  | succ n_26 ih =>
    intro x2_26 G_26
    rw [cSt_begin_L26]
    refine j_iload_n dX7_begin_26 rfl rfl ?_
    refine j_bipush dX7_begin_27 r32_6 bp_6 ?_
    refine j_icmp_ge (tgt := 52) dX7_begin_29 rfl (fun h29 => ?_) (fun h29 => ?_)
    · refine j_aload_n dX7_begin_32 rfl rfl ?_
      refine j_grc dX7_begin_33 gf_X7_25 oc_57 (Or.inr (by decide)) rf_57_3 ?_
      refine j_iload_n dX7_begin_36 rfl rfl ?_
      refine j_iconst dX7_begin_37 r32_0 ?_
      refine j_gd (fun h38a h38b => ?_)
      refine j_sic dX7_begin_38 oc_70 rfl h38a h38b ?_
      refine j_aload_n dX7_begin_39 rfl rfl ?_
      refine j_grc dX7_begin_40 gf_X7_29 oc_57 (Or.inr (by decide)) rf_57_4 ?_
      refine j_iload_n dX7_begin_43 rfl rfl ?_
      refine j_iconst dX7_begin_44 r32_0 ?_
      refine j_gd (fun h45a h45b => ?_)
      refine j_sic dX7_begin_45 oc_71 rfl h45a h45b ?_
      refine j_iinc dX7_begin_46 rfl (Nat.le_of_ble_eq_true rfl) rfl ?_
      refine j_goto (tgt := 26) dX7_begin_49 rfl ?_
      exact j_mask [true, false, true] rfl (ih (w32 (x2_26 + 1)) (upd2 (upd2 G_26 70 x2_26 0) 71 x2_26 0))
    · exact j_mask [true, false, false] rfl (hk52 G_26)

set_option maxRecDepth 100000 in
theorem cSt_begin_J {l : Launch} {H : Hp} (a1 : Int) (ha1 : isPaper a1) (G : Hp) : J l M_cSt_begin (KWv (fun g => fu g H)) (cSt_begin a1 G) 0 [(2, 57), (2, a1), (9, 0)] [] 224 (fu G H) (0, 0) := by
  unfold cSt_begin
  refine j_aload_n dX7_begin_0 rfl rfl ?_
  refine j_aload_n dX7_begin_1 rfl rfl ?_
  refine j_psp dX7_begin_2 gf_X7_12 po_7_0 oc_57 (r32_paper ha1) ?_
  refine j_aload_n dX7_begin_5 rfl rfl ?_
  refine j_grc dX7_begin_6 gf_X7_21 oc_57 (Or.inr (by decide)) rf_57_1 ?_
  refine j_aload_n dX7_begin_9 rfl rfl ?_
  refine j_grc dX7_begin_10 gf_X7_35 (oc_paper ha1) (Or.inl (by decide)) (rf_paper_3 ha1) ?_
  refine j_cVWv dX7_begin_13 im_cNe_copy lk_X7_36 rfl (As := [(2, (a1 + 1))]) (S := []) rfl oc_66.1 ⟨by decide, by decide⟩ (Nat.le_of_ble_eq_true rfl) (fun r hr => cNe_copy_ct 66 isNet_66 (a1 + 1) (net_paper ha1) (upd2 G 57 0 a1) hr) (fun G13 _ => ?_)
  refine j_aload_n dX7_begin_16 rfl rfl ?_
  refine j_aload_n dX7_begin_17 rfl rfl ?_
  refine j_gic dX7_begin_18 gf_X7_40 (oc_paper ha1) ?_
  refine j_pic dX7_begin_21 gf_X7_44 po_7_2 oc_57 (nf_7_2 _) ?_
  refine j_iconst dX7_begin_24 r32_0 ?_
  refine j_istore_n dX7_begin_25 rfl (Nat.le_of_ble_eq_true rfl) rfl ?_
  refine j_mask [true, false, true] rfl (cSt_begin_L26_J a1 ha1 (fun G_52 => some (upd2 (upd2 (upd2 (upd2 (upd2 (upd2 (upd2 G_52 57 5 0) 57 6 0) 57 8 0) 57 9 (-1)) 57 10 0) 57 11 0) 57 12 0)) (fun G_52 => ?_) FU 0 (upd2 G13 57 2 (G13 a1 0)))
  refine j_aload_n dX7_begin_52 rfl rfl ?_
  refine j_iconst dX7_begin_53 r32_0 ?_
  refine j_pic dX7_begin_54 gf_X7_45 po_7_5 oc_57 (nf_7_5 _) ?_
  refine j_aload_n dX7_begin_57 rfl rfl ?_
  refine j_iconst dX7_begin_58 r32_0 ?_
  refine j_pic dX7_begin_59 gf_X7_48 po_7_6 oc_57 (nf_7_6 _) ?_
  refine j_aload_n dX7_begin_62 rfl rfl ?_
  refine j_iconst dX7_begin_63 r32_0 ?_
  refine j_pic dX7_begin_64 gf_X7_51 po_7_8 oc_57 (nf_7_8 _) ?_
  refine j_aload_n dX7_begin_67 rfl rfl ?_
  refine j_iconst dX7_begin_68 r32_m1 ?_
  refine j_pic dX7_begin_69 gf_X7_54 po_7_9 oc_57 (nf_7_9 _) ?_
  refine j_aload_n dX7_begin_72 rfl rfl ?_
  refine j_iconst dX7_begin_73 r32_0 ?_
  refine j_pic dX7_begin_74 gf_X7_57 po_7_10 oc_57 (nf_7_10 _) ?_
  refine j_aload_n dX7_begin_77 rfl rfl ?_
  refine j_iconst dX7_begin_78 r32_0 ?_
  refine j_pic dX7_begin_79 gf_X7_60 po_7_11 oc_57 (nf_7_11 _) ?_
  refine j_aload_n dX7_begin_82 rfl rfl ?_
  refine j_iconst dX7_begin_83 r32_0 ?_
  refine j_pic dX7_begin_84 gf_X7_63 po_7_12 oc_57 (nf_7_12 _) ?_
  exact j_return dX7_begin_87 rfl rfl (Nat.zero_le _) (Nat.zero_le _)

set_option maxRecDepth 100000 in
theorem cSt_begin_ct {l : Launch} {H : Hp} (a1 : Int) (ha1 : isPaper a1) (G : Hp) {r : Hp} (h : cSt_begin a1 G = some r) : Ct l M_cSt_begin [(2, 57), (2, a1)] 224 (fu G H) ((KWv (fun g => fu g H)) r) :=
  ct_of_J (by decide +kernel) rfl (Nat.le_of_ble_eq_true rfl) (cSt_begin_J a1 ha1 G) h
set_option maxRecDepth 100000 in
theorem cNe_near_J {l : Launch} {H : Hp} (o : Int) (ho : isNet o) (a1 : Int) (a2 : Int) (G : Hp) : J l M_cNe_near (KRb (fu G H)) (cNe_near o a1 a2 G) 0 [(2, o), (0, a1), (0, a2)] [] 224 (fu G H) (0, 0) := by
  unfold cNe_near
  refine j_iload_n dX2_near_0 rfl rfl ?_
  refine j_cSRbp dX2_near_1 sm_cX_isWord lk_X2_29 rfl (As := [(0, a1)]) (S := []) rfl ⟨by decide, by decide⟩ (Nat.le_of_ble_eq_true rfl) (cX_isWord_ct a1) ?_
  refine j_ifb_eq (tgt := 31) dX2_near_4 rfl (fun h4 => ?_) (fun h4 => ?_)
  · refine j_iload_n dX2_near_7 rfl rfl ?_
    refine j_cSRbp dX2_near_8 sm_cX_isWord lk_X2_29 rfl (As := [(0, a2)]) (S := []) rfl ⟨by decide, by decide⟩ (Nat.le_of_ble_eq_true rfl) (cX_isWord_ct a2) ?_
    refine j_ifb_eq (tgt := 31) dX2_near_11 rfl (fun h11 => ?_) (fun h11 => ?_)
    · refine j_aload_n dX2_near_14 rfl rfl ?_
      refine j_grc dX2_near_15 gf_X2_9 (oc_net ho) (Or.inl (by decide)) (rf_net_0 ho) ?_
      refine j_iload_n dX2_near_18 rfl rfl ?_
      refine j_gd (fun h19a h19b => ?_)
      refine j_aic dX2_near_19 (oc_net_1 ho) rfl h19a h19b ?_
      refine j_iload_n dX2_near_20 rfl rfl ?_
      refine j_ishr dX2_near_21 ?_
      refine j_iconst dX2_near_22 r32_1 ?_
      refine j_iand dX2_near_23 ?_
      refine j_if_eq (tgt := 31) dX2_near_24 rfl (fun h24 => ?_) (fun h24 => ?_)
      · refine j_iconst dX2_near_31 r32_0 ?_
        exact j_zreturn (b := false) dX2_near_32 rfl rfl (Nat.zero_le _) (Nat.zero_le _)
      · refine j_iconst dX2_near_27 r32_1 ?_
        refine j_goto (tgt := 32) dX2_near_28 rfl ?_
        exact j_zreturn (b := true) dX2_near_32 rfl rfl (Nat.zero_le _) (Nat.zero_le _)
    · refine j_iconst dX2_near_31 r32_0 ?_
      exact j_zreturn (b := false) dX2_near_32 rfl rfl (Nat.zero_le _) (Nat.zero_le _)
  · refine j_iconst dX2_near_31 r32_0 ?_
    exact j_zreturn (b := false) dX2_near_32 rfl rfl (Nat.zero_le _) (Nat.zero_le _)

set_option maxRecDepth 100000 in
theorem cNe_near_ct {l : Launch} {H : Hp} (o : Int) (ho : isNet o) (a1 : Int) (a2 : Int) (G : Hp) {r : Bool} (h : cNe_near o a1 a2 G = some r) : Ct l M_cNe_near [(2, o), (0, a1), (0, a2)] 224 (fu G H) ((KRb (fu G H)) r) :=
  ct_of_J (by decide +kernel) rfl (Nat.le_of_ble_eq_true rfl) (cNe_near_J o ho a1 a2 G) h
set_option maxRecDepth 100000 in
theorem cSt_can_j20_J {l : Launch} {H : Hp} (a1 : Int) (a2 : Int) (a3 : Int) (G : Hp) (s0_20 : Int) : J l M_cSt_can (KRb (fu G H)) (cSt_can_j20 a1 a2 a3 G  s0_20) 20 [(2, 57), (0, a1), (0, a2), (0, a3), (9, 0)] [(0, s0_20)] 224 (fu G H) (0, 0) := by
  unfold cSt_can_j20
  refine j_istore dX7_can_20 (Nat.le_of_ble_eq_true rfl) rfl ?_
  refine j_iload_n dX7_can_22 rfl rfl ?_
  refine j_ite _ (fun hc23_0 => ?_) (fun hc23_0 => ?_)
  · refine j_swIn (i := 0) (tgt := 56) dX7_can_23 (hc23_0.trans (by decide)) (by decide) rfl rfl ?_
    refine j_iload dX7_can_56 rfl ?_
    refine j_zret (fun hb_ => ?_) (fun hb_ => ?_)
    · rw [hb_]
      exact j_zreturn (b := false) dX7_can_58 rfl rfl (Nat.zero_le _) (Nat.zero_le _)
    · rw [hb_]
      exact j_zreturn (b := true) dX7_can_58 rfl rfl (Nat.zero_le _) (Nat.zero_le _)
  · refine j_ite _ (fun hc23_1 => ?_) (fun hc23_1 => ?_)
    · refine j_swIn (i := 1) (tgt := 59) dX7_can_23 (hc23_1.trans (by decide)) (by decide) rfl rfl ?_
      refine j_iload_n dX7_can_59 rfl rfl ?_
      refine j_if_lt (tgt := 90) dX7_can_60 rfl (fun h60 => ?_) (fun h60 => ?_)
      · refine j_iconst dX7_can_90 r32_0 ?_
        exact j_zreturn (b := false) dX7_can_91 rfl rfl (Nat.zero_le _) (Nat.zero_le _)
      · refine j_iload_n dX7_can_63 rfl rfl ?_
        refine j_aload_n dX7_can_64 rfl rfl ?_
        refine j_pg (fun hsp65 => ?_)
        refine j_gsp dX7_can_65 gf_X7_12 oc_57 ?_
        refine j_gic dX7_can_68 gf_X7_97 (oc_paper hsp65) ?_
        refine j_icmp_ge (tgt := 90) dX7_can_71 rfl (fun h71 => ?_) (fun h71 => ?_)
        · refine j_aload_n dX7_can_74 rfl rfl ?_
          refine j_gic dX7_can_75 gf_X7_44 oc_57 ?_
          refine j_iload_n dX7_can_78 rfl rfl ?_
          refine j_cSRip dX7_can_79 sm_cX_wordAt lk_X7_100 rfl (As := [(0, G 57 2), (0, a2)]) (S := []) rfl ⟨by decide, by decide⟩ (Nat.le_of_ble_eq_true rfl) (cX_wordAt_ct (G 57 2) a2) ?_
          refine j_iload_n dX7_can_82 rfl rfl ?_
          refine j_icmp_eq (tgt := 90) dX7_can_83 rfl (fun h83 => ?_) (fun h83 => ?_)
          · refine j_iconst dX7_can_90 r32_0 ?_
            exact j_zreturn (b := false) dX7_can_91 rfl rfl (Nat.zero_le _) (Nat.zero_le _)
          · refine j_iconst dX7_can_86 r32_1 ?_
            refine j_goto (tgt := 91) dX7_can_87 rfl ?_
            exact j_zreturn (b := true) dX7_can_91 rfl rfl (Nat.zero_le _) (Nat.zero_le _)
        · refine j_iconst dX7_can_90 r32_0 ?_
          exact j_zreturn (b := false) dX7_can_91 rfl rfl (Nat.zero_le _) (Nat.zero_le _)
    · refine j_ite _ (fun hc23_2 => ?_) (fun hc23_2 => ?_)
      · refine j_swIn (i := 2) (tgt := 92) dX7_can_23 (hc23_2.trans (by decide)) (by decide) rfl rfl ?_
        refine j_iload dX7_can_92 rfl ?_
        refine j_if_eq (tgt := 129) dX7_can_94 rfl (fun h94 => ?_) (fun h94 => ?_)
        · refine j_iconst dX7_can_129 r32_0 ?_
          exact j_zreturn (b := false) dX7_can_130 rfl rfl (Nat.zero_le _) (Nat.zero_le _)
        · refine j_iload_n dX7_can_97 rfl rfl ?_
          refine j_if_lt (tgt := 129) dX7_can_98 rfl (fun h98 => ?_) (fun h98 => ?_)
          · refine j_iconst dX7_can_129 r32_0 ?_
            exact j_zreturn (b := false) dX7_can_130 rfl rfl (Nat.zero_le _) (Nat.zero_le _)
          · refine j_iload_n dX7_can_101 rfl rfl ?_
            refine j_aload_n dX7_can_102 rfl rfl ?_
            refine j_pg (fun hsp103 => ?_)
            refine j_gsp dX7_can_103 gf_X7_12 oc_57 ?_
            refine j_gic dX7_can_106 gf_X7_97 (oc_paper hsp103) ?_
            refine j_icmp_ge (tgt := 129) dX7_can_109 rfl (fun h109 => ?_) (fun h109 => ?_)
            · refine j_aload_n dX7_can_112 rfl rfl ?_
              refine j_grc dX7_can_113 gf_X7_25 oc_57 (Or.inr (by decide)) rf_57_3 ?_
              refine j_iload_n dX7_can_116 rfl rfl ?_
              refine j_gd (fun h117a h117b => ?_)
              refine j_aic dX7_can_117 oc_70 rfl h117a h117b ?_
              refine j_iload_n dX7_can_118 rfl rfl ?_
              refine j_ishr dX7_can_119 ?_
              refine j_iconst dX7_can_120 r32_1 ?_
              refine j_iand dX7_can_121 ?_
              refine j_if_ne (tgt := 129) dX7_can_122 rfl (fun h122 => ?_) (fun h122 => ?_)
              · refine j_iconst dX7_can_125 r32_1 ?_
                refine j_goto (tgt := 130) dX7_can_126 rfl ?_
                exact j_zreturn (b := true) dX7_can_130 rfl rfl (Nat.zero_le _) (Nat.zero_le _)
              · refine j_iconst dX7_can_129 r32_0 ?_
                exact j_zreturn (b := false) dX7_can_130 rfl rfl (Nat.zero_le _) (Nat.zero_le _)
            · refine j_iconst dX7_can_129 r32_0 ?_
              exact j_zreturn (b := false) dX7_can_130 rfl rfl (Nat.zero_le _) (Nat.zero_le _)
      · refine j_ite _ (fun hc23_3 => ?_) (fun hc23_3 => ?_)
        · refine j_swIn (i := 3) (tgt := 131) dX7_can_23 (hc23_3.trans (by decide)) (by decide) rfl rfl ?_
          refine j_iload_n dX7_can_131 rfl rfl ?_
          refine j_iload_n dX7_can_132 rfl rfl ?_
          refine j_icmp_eq (tgt := 152) dX7_can_133 rfl (fun h133 => ?_) (fun h133 => ?_)
          · refine j_iconst dX7_can_152 r32_0 ?_
            exact j_zreturn (b := false) dX7_can_153 rfl rfl (Nat.zero_le _) (Nat.zero_le _)
          · refine j_aload_n dX7_can_136 rfl rfl ?_
            refine j_grc dX7_can_137 gf_X7_21 oc_57 (Or.inr (by decide)) rf_57_1 ?_
            refine j_iload_n dX7_can_140 rfl rfl ?_
            refine j_iload_n dX7_can_141 rfl rfl ?_
            refine j_cVRb dX7_can_142 im_cNe_near lk_X7_103 rfl (As := [(0, a2), (0, a3)]) (S := []) rfl oc_66.1 ⟨by decide, by decide⟩ (Nat.le_of_ble_eq_true rfl) (fun r hr => cNe_near_ct 66 isNet_66 a2 a3 G hr) (fun v142 _ => ?_)
            refine j_ifb_ne (tgt := 152) dX7_can_145 rfl (fun h145 => ?_) (fun h145 => ?_)
            · refine j_iconst dX7_can_152 r32_0 ?_
              exact j_zreturn (b := false) dX7_can_153 rfl rfl (Nat.zero_le _) (Nat.zero_le _)
            · refine j_iconst dX7_can_148 r32_1 ?_
              refine j_goto (tgt := 153) dX7_can_149 rfl ?_
              exact j_zreturn (b := true) dX7_can_153 rfl rfl (Nat.zero_le _) (Nat.zero_le _)
        · refine j_ite _ (fun hc23_4 => ?_) (fun hc23_4 => ?_)
          · refine j_swIn (i := 4) (tgt := 154) dX7_can_23 (hc23_4.trans (by decide)) (by decide) rfl rfl ?_
            refine j_aload_n dX7_can_154 rfl rfl ?_
            refine j_grc dX7_can_155 gf_X7_21 oc_57 (Or.inr (by decide)) rf_57_1 ?_
            refine j_iload_n dX7_can_158 rfl rfl ?_
            refine j_iload_n dX7_can_159 rfl rfl ?_
            refine j_cVRb dX7_can_160 im_cNe_near lk_X7_103 rfl (As := [(0, a2), (0, a3)]) (S := []) rfl oc_66.1 ⟨by decide, by decide⟩ (Nat.le_of_ble_eq_true rfl) (fun r hr => cNe_near_ct 66 isNet_66 a2 a3 G hr) (fun v160 _ => ?_)
            exact j_zreturn dX7_can_163 rfl rfl (Nat.zero_le _) (Nat.zero_le _)
          · refine j_swOut (tgt := 164) dX7_can_23 (by omega) rfl ?_
            refine j_iconst dX7_can_164 r32_1 ?_
            exact j_zreturn (b := true) dX7_can_165 rfl rfl (Nat.zero_le _) (Nat.zero_le _)

set_option maxRecDepth 100000 in
theorem cSt_can_J {l : Launch} {H : Hp} (a1 : Int) (a2 : Int) (a3 : Int) (G : Hp) : J l M_cSt_can (KRb (fu G H)) (cSt_can a1 a2 a3 G) 0 [(2, 57), (0, a1), (0, a2), (0, a3), (9, 0)] [] 224 (fu G H) (0, 0) := by
  unfold cSt_can
  refine j_iload_n dX7_can_0 rfl rfl ?_
  refine j_if_lt (tgt := 19) dX7_can_1 rfl (fun h1 => ?_) (fun h1 => ?_)
  · refine j_iconst dX7_can_19 r32_0 ?_
    exact j_mask [true, true, true, true, false] rfl (cSt_can_j20_J a1 a2 a3 G 0)
  · refine j_iload_n dX7_can_4 rfl rfl ?_
    refine j_aload_n dX7_can_5 rfl rfl ?_
    refine j_pg (fun hsp6 => ?_)
    refine j_gsp dX7_can_6 gf_X7_12 oc_57 ?_
    refine j_gic dX7_can_9 gf_X7_94 (oc_paper hsp6) ?_
    refine j_icmp_ge (tgt := 19) dX7_can_12 rfl (fun h12 => ?_) (fun h12 => ?_)
    · refine j_iconst dX7_can_15 r32_1 ?_
      refine j_goto (tgt := 20) dX7_can_16 rfl ?_
      exact j_mask [true, true, true, true, false] rfl (cSt_can_j20_J a1 a2 a3 G 1)
    · refine j_iconst dX7_can_19 r32_0 ?_
      exact j_mask [true, true, true, true, false] rfl (cSt_can_j20_J a1 a2 a3 G 0)

set_option maxRecDepth 100000 in
theorem cSt_can_ct {l : Launch} {H : Hp} (a1 : Int) (a2 : Int) (a3 : Int) (G : Hp) {r : Bool} (h : cSt_can a1 a2 a3 G = some r) : Ct l M_cSt_can [(2, 57), (0, a1), (0, a2), (0, a3)] 224 (fu G H) ((KRb (fu G H)) r) :=
  ct_of_J (by decide +kernel) rfl (Nat.le_of_ble_eq_true rfl) (cSt_can_J a1 a2 a3 G) h
set_option maxRecDepth 100000 in
theorem cNe_reach_L7_J {l : Launch} {H : Hp} (o : Int) (ho : isNet o) (a1 : Int) (x2_7 : Int) (k37 : Hp → Option (Hp)) (hk37 : ∀ (G_37 : Hp), J l M_cNe_reach (KWv (fun g => fu g H)) (k37 G_37) 37 [(2, o), (0, a1), (0, x2_7), (9, 0), (9, 0), (9, 0), (9, 0), (9, 0), (9, 0), (9, 0)] [] 224 (fu G_37 H) (0, 0)) : ∀ (n_7 : Nat) (x3_7 : Int) (G_7 : Hp), J l M_cNe_reach (KWv (fun g => fu g H)) (cNe_reach_L7 o a1 x2_7 k37 n_7 x3_7 G_7) 7 [(2, o), (0, a1), (0, x2_7), (0, x3_7), (9, 0), (9, 0), (9, 0), (9, 0), (9, 0), (9, 0)] [] 224 (fu G_7 H) (0, 0) := by
  intro n_7
  induction n_7 with
  | zero =>
    intro x3_7 G_7
    exact j_none
  | succ n_7 ih =>
    intro x3_7 G_7
    rw [cNe_reach_L7]
    refine j_iload_n dX2_reach_7 rfl rfl ?_
    refine j_bipush dX2_reach_8 r32_10 bp_10 ?_
    refine j_icmp_ge (tgt := 37) dX2_reach_10 rfl (fun h10 => ?_) (fun h10 => ?_)
    · refine j_aload_n dX2_reach_13 rfl rfl ?_
      refine j_grc dX2_reach_14 gf_X2_15 (oc_net ho) (Or.inl (by decide)) (rf_net_1 ho) ?_
      refine j_iload_n dX2_reach_17 rfl rfl ?_
      refine j_iload_n dX2_reach_18 rfl rfl ?_
      refine j_iadd dX2_reach_19 ?_
      refine j_iconst dX2_reach_20 r32_m1 ?_
      refine j_gd (fun h21a h21b => ?_)
      refine j_sic dX2_reach_21 (oc_net_2 ho) rfl h21a h21b ?_
      refine j_aload_n dX2_reach_22 rfl rfl ?_
      refine j_grc dX2_reach_23 gf_X2_18 (oc_net ho) (Or.inl (by decide)) (rf_net_2 ho) ?_
      refine j_iload_n dX2_reach_26 rfl rfl ?_
      refine j_iload_n dX2_reach_27 rfl rfl ?_
      refine j_iadd dX2_reach_28 ?_
      refine j_iconst dX2_reach_29 r32_m1 ?_
      refine j_gd (fun h30a h30b => ?_)
      refine j_sic dX2_reach_30 (oc_net_3 ho) rfl h30a h30b ?_
      refine j_iinc dX2_reach_31 rfl (Nat.le_of_ble_eq_true rfl) rfl ?_
      refine j_goto (tgt := 7) dX2_reach_34 rfl ?_
      exact j_mask [true, true, true, true, false, false, false, false, false, false] rfl (ih (w32 (x3_7 + 1)) (upd2 (upd2 G_7 (o + 2) (w32 (x2_7 + x3_7)) (-1)) (o + 3) (w32 (x2_7 + x3_7)) (-1)))
    · exact j_mask [true, true, true, false, false, false, false, false, false, false] rfl (hk37 G_7)

set_option maxRecDepth 100000 in
theorem cNe_reach_L113_J {l : Launch} {H : Hp} (o : Int) (ho : isNet o) (a1 : Int) (x2_113 : Int) (x3_113 : Int) (x4_113 : Int) (x5_113 : Int) (x6_113 : Int) (x7_113 : Int) (x8_113 : Int) (k163 : Hp → Option (Hp)) (hk163 : ∀ (G_163 : Hp), J l M_cNe_reach (KWv (fun g => fu g H)) (k163 G_163) 163 [(2, o), (0, a1), (0, x2_113), (0, x3_113), (0, x4_113), (0, x5_113), (0, x6_113), (0, x7_113), (0, x8_113), (9, 0)] [] 224 (fu G_163 H) (0, 0)) : ∀ (n_113 : Nat) (x9_113 : Int) (G_113 : Hp), J l M_cNe_reach (KWv (fun g => fu g H)) (cNe_reach_L113 o a1 x2_113 x3_113 x4_113 x5_113 x6_113 x7_113 x8_113 k163 n_113 x9_113 G_113) 113 [(2, o), (0, a1), (0, x2_113), (0, x3_113), (0, x4_113), (0, x5_113), (0, x6_113), (0, x7_113), (0, x8_113), (0, x9_113)] [] 224 (fu G_113 H) (0, 0) := by
  intro n_113
  induction n_113 with
  | zero =>
    intro x9_113 G_113
    exact j_none
  | succ n_113 ih =>
    intro x9_113 G_113
    rw [cNe_reach_L113]
    refine j_iload dX2_reach_113 rfl ?_
    refine j_bipush dX2_reach_115 r32_10 bp_10 ?_
    refine j_icmp_ge (tgt := 163) dX2_reach_117 rfl (fun h117 => ?_) (fun h117 => ?_)
    · refine j_iload dX2_reach_120 rfl ?_
      refine j_if_eq (tgt := 163) dX2_reach_122 rfl (fun h122 => ?_) (fun h122 => ?_)
      · exact j_mask [true, true, true, true, true, true, true, true, true, false] rfl (hk163 G_113)
      · refine j_iload dX2_reach_125 rfl ?_
        refine j_iload dX2_reach_127 rfl ?_
        refine j_ishr dX2_reach_129 ?_
        refine j_iconst dX2_reach_130 r32_1 ?_
        refine j_iand dX2_reach_131 ?_
        refine j_if_eq (tgt := 157) dX2_reach_132 rfl (fun h132 => ?_) (fun h132 => ?_)
        · refine j_iinc dX2_reach_157 rfl (Nat.le_of_ble_eq_true rfl) rfl ?_
          refine j_goto (tgt := 113) dX2_reach_160 rfl ?_
          exact j_mask [true, true, true, true, true, true, true, true, true, true] rfl (ih (w32 (x9_113 + 1)) G_113)
        · refine j_aload_n dX2_reach_135 rfl rfl ?_
          refine j_grc dX2_reach_136 gf_X2_15 (oc_net ho) (Or.inl (by decide)) (rf_net_1 ho) ?_
          refine j_iload_n dX2_reach_139 rfl rfl ?_
          refine j_iload dX2_reach_140 rfl ?_
          refine j_iadd dX2_reach_142 ?_
          refine j_iload dX2_reach_143 rfl ?_
          refine j_gd (fun h145a h145b => ?_)
          refine j_sic dX2_reach_145 (oc_net_2 ho) rfl h145a h145b ?_
          refine j_aload_n dX2_reach_146 rfl rfl ?_
          refine j_grc dX2_reach_147 gf_X2_18 (oc_net ho) (Or.inl (by decide)) (rf_net_2 ho) ?_
          refine j_iload_n dX2_reach_150 rfl rfl ?_
          refine j_iload dX2_reach_151 rfl ?_
          refine j_iadd dX2_reach_153 ?_
          refine j_iload dX2_reach_154 rfl ?_
          refine j_gd (fun h156a h156b => ?_)
          refine j_sic dX2_reach_156 (oc_net_3 ho) rfl h156a h156b ?_
          refine j_iinc dX2_reach_157 rfl (Nat.le_of_ble_eq_true rfl) rfl ?_
          refine j_goto (tgt := 113) dX2_reach_160 rfl ?_
          exact j_mask [true, true, true, true, true, true, true, true, true, true] rfl (ih (w32 (x9_113 + 1)) (upd2 (upd2 G_113 (o + 2) (w32 (x2_113 + x9_113)) x5_113) (o + 3) (w32 (x2_113 + x9_113)) x7_113))
    · exact j_mask [true, true, true, true, true, true, true, true, true, false] rfl (hk163 G_113)

set_option maxRecDepth 100000 in
theorem cNe_reach_j108_J {l : Launch} {H : Hp} (o : Int) (ho : isNet o) (a1 : Int) (x2_78 : Int) (x4_78 : Int) (x5_78 : Int) (k78 : Int → Int → Int → Hp → Option (Hp)) (hk78 : ∀ (x3_78 : Int) (x6_78 : Int) (x7_78 : Int) (G_78 : Hp), J l M_cNe_reach (KWv (fun g => fu g H)) (k78 x3_78 x6_78 x7_78 G_78) 78 [(2, o), (0, a1), (0, x2_78), (0, x3_78), (0, x4_78), (0, x5_78), (0, x6_78), (0, x7_78), (9, 0), (9, 0)] [] 224 (fu G_78 H) (0, 0)) (x3_108 : Int) (x6_108 : Int) (x7_108 : Int) (s0_108 : Int) (G_108 : Hp) : J l M_cNe_reach (KWv (fun g => fu g H)) (cNe_reach_j108 o a1 k78 x2_78 x3_108 x4_78 x5_78 x6_108 x7_108 s0_108 G_108) 108 [(2, o), (0, a1), (0, x2_78), (0, x3_108), (0, x4_78), (0, x5_78), (0, x6_108), (0, x7_108), (9, 0), (9, 0)] [(0, s0_108)] 224 (fu G_108 H) (0, 0) := by
  unfold cNe_reach_j108
  refine j_istore dX2_reach_108 (Nat.le_of_ble_eq_true rfl) rfl ?_
  refine j_iconst dX2_reach_110 r32_0 ?_
  refine j_istore dX2_reach_111 (Nat.le_of_ble_eq_true rfl) rfl ?_
  refine j_mask [true, true, true, true, true, true, true, true, true, true] rfl (cNe_reach_L113_J o ho a1 x2_78 x3_108 x4_78 x5_78 x6_108 x7_108 s0_108 (fun G_163 => k78 (iand x3_108 (ixor s0_108 (-1))) (ior x6_108 s0_108) (w32 (x7_108 + 1)) G_163) (fun G_163 => ?_) FU 0 G_108)
  refine j_iload_n dX2_reach_163 rfl rfl ?_
  refine j_iload dX2_reach_164 rfl ?_
  refine j_iconst dX2_reach_166 r32_m1 ?_
  refine j_ixor dX2_reach_167 ?_
  refine j_iand dX2_reach_168 ?_
  refine j_istore_n dX2_reach_169 rfl (Nat.le_of_ble_eq_true rfl) rfl ?_
  refine j_iload dX2_reach_170 rfl ?_
  refine j_iload dX2_reach_172 rfl ?_
  refine j_ior dX2_reach_174 ?_
  refine j_istore dX2_reach_175 (Nat.le_of_ble_eq_true rfl) rfl ?_
  refine j_iinc dX2_reach_177 rfl (Nat.le_of_ble_eq_true rfl) rfl ?_
  refine j_goto (tgt := 78) dX2_reach_180 rfl ?_
  exact j_mask [true, true, true, true, true, true, true, true, false, false] rfl (hk78 (iand x3_108 (ixor s0_108 (-1))) (ior x6_108 s0_108) (w32 (x7_108 + 1)) G_163)

set_option maxRecDepth 100000 in
theorem cNe_reach_L78_J {l : Launch} {H : Hp} (o : Int) (ho : isNet o) (a1 : Int) (x2_78 : Int) (x4_78 : Int) (x5_78 : Int) (k183 : Int → Int → Hp → Option (Hp)) (hk183 : ∀ (x3_183 : Int) (x6_183 : Int) (G_183 : Hp), J l M_cNe_reach (KWv (fun g => fu g H)) (k183 x3_183 x6_183 G_183) 183 [(2, o), (0, a1), (0, x2_78), (0, x3_183), (9, 0), (0, x5_78), (0, x6_183), (9, 0), (9, 0), (9, 0)] [] 224 (fu G_183 H) (0, 0)) : ∀ (n_78 : Nat) (x3_78 : Int) (x6_78 : Int) (x7_78 : Int) (G_78 : Hp), J l M_cNe_reach (KWv (fun g => fu g H)) (cNe_reach_L78 o a1 x2_78 x4_78 x5_78 k183 n_78 x3_78 x6_78 x7_78 G_78) 78 [(2, o), (0, a1), (0, x2_78), (0, x3_78), (0, x4_78), (0, x5_78), (0, x6_78), (0, x7_78), (9, 0), (9, 0)] [] 224 (fu G_78 H) (0, 0) := by
  intro n_78
  induction n_78 with
  | zero =>
    intro x3_78 x6_78 x7_78 G_78
    exact j_none
  | succ n_78 ih =>
    intro x3_78 x6_78 x7_78 G_78
    rw [cNe_reach_L78]
    refine j_iload dX2_reach_78 rfl ?_
    refine j_bipush dX2_reach_80 r32_10 bp_10 ?_
    refine j_icmp_ge (tgt := 183) dX2_reach_82 rfl (fun h82 => ?_) (fun h82 => ?_)
    · refine j_iload dX2_reach_85 rfl ?_
      refine j_iload dX2_reach_87 rfl ?_
      refine j_ishr dX2_reach_89 ?_
      refine j_iconst dX2_reach_90 r32_1 ?_
      refine j_iand dX2_reach_91 ?_
      refine j_if_eq (tgt := 107) dX2_reach_92 rfl (fun h92 => ?_) (fun h92 => ?_)
      · refine j_iconst dX2_reach_107 r32_0 ?_
        exact j_mask [true, true, true, true, true, true, true, true, false, false] rfl (cNe_reach_j108_J o ho a1 x2_78 x4_78 x5_78 (cNe_reach_L78 o a1 x2_78 x4_78 x5_78 k183 n_78) ih x3_78 x6_78 x7_78 0 G_78)
      · refine j_aload_n dX2_reach_95 rfl rfl ?_
        refine j_grc dX2_reach_96 gf_X2_9 (oc_net ho) (Or.inl (by decide)) (rf_net_0 ho) ?_
        refine j_iload dX2_reach_99 rfl ?_
        refine j_gd (fun h101a h101b => ?_)
        refine j_aic dX2_reach_101 (oc_net_1 ho) rfl h101a h101b ?_
        refine j_iload_n dX2_reach_102 rfl rfl ?_
        refine j_iand dX2_reach_103 ?_
        refine j_goto (tgt := 108) dX2_reach_104 rfl ?_
        exact j_mask [true, true, true, true, true, true, true, true, false, false] rfl (cNe_reach_j108_J o ho a1 x2_78 x4_78 x5_78 (cNe_reach_L78 o a1 x2_78 x4_78 x5_78 k183 n_78) ih x3_78 x6_78 x7_78 (iand (G_78 (o + 1) x7_78) x3_78) G_78)
    · exact j_mask [true, true, true, true, false, true, true, false, false, false] rfl (hk183 x3_78 x6_78 G_78)

set_option maxRecDepth 100000 in
theorem cNe_reach_L60_J {l : Launch} {H : Hp} (o : Int) (ho : isNet o) (a1 : Int) (x2_60 : Int) (k193 : Hp → Option (Hp)) (hk193 : ∀ (G_193 : Hp), J l M_cNe_reach (KWv (fun g => fu g H)) (k193 G_193) 193 [(2, o), (0, a1), (9, 0), (9, 0), (9, 0), (9, 0), (9, 0), (9, 0), (9, 0), (9, 0)] [] 224 (fu G_193 H) (0, 0)) : ∀ (n_60 : Nat) (x3_60 : Int) (x4_60 : Int) (x5_60 : Int) (G_60 : Hp), J l M_cNe_reach (KWv (fun g => fu g H)) (cNe_reach_L60 o a1 x2_60 k193 n_60 x3_60 x4_60 x5_60 G_60) 60 [(2, o), (0, a1), (0, x2_60), (0, x3_60), (0, x4_60), (0, x5_60), (9, 0), (9, 0), (9, 0), (9, 0)] [] 224 (fu G_60 H) (0, 0) := by
  intro n_60
  induction n_60 with
  | zero =>
    intro x3_60 x4_60 x5_60 G_60
    exact j_none
  | succ n_60 ih =>
    intro x3_60 x4_60 x5_60 G_60
    rw [cNe_reach_L60]
    refine j_iload dX2_reach_60 rfl ?_
    refine j_bipush dX2_reach_62 r32_10 bp_10 ?_
    refine j_icmp_ge (tgt := 193) dX2_reach_64 rfl (fun h64 => ?_) (fun h64 => ?_)
    · refine j_iload dX2_reach_67 rfl ?_
      refine j_if_eq (tgt := 193) dX2_reach_69 rfl (fun h69 => ?_) (fun h69 => ?_)
      · exact j_mask [true, true, false, false, false, false, false, false, false, false] rfl (hk193 G_60)
      · refine j_iconst dX2_reach_72 r32_0 ?_
        refine j_istore dX2_reach_73 (Nat.le_of_ble_eq_true rfl) rfl ?_
        refine j_iconst dX2_reach_75 r32_0 ?_
        refine j_istore dX2_reach_76 (Nat.le_of_ble_eq_true rfl) rfl ?_
        refine j_mask [true, true, true, true, true, true, true, true, false, false] rfl (cNe_reach_L78_J o ho a1 x2_60 x4_60 x5_60 (fun x3_183 x6_183 G_183 => cNe_reach_L60 o a1 x2_60 k193 n_60 x3_183 x6_183 (w32 (x5_60 + 1)) G_183) (fun x3_183 x6_183 G_183 => ?_) FU x3_60 0 0 G_60)
        refine j_iload dX2_reach_183 rfl ?_
        refine j_istore dX2_reach_185 (Nat.le_of_ble_eq_true rfl) rfl ?_
        refine j_iinc dX2_reach_187 rfl (Nat.le_of_ble_eq_true rfl) rfl ?_
        refine j_goto (tgt := 60) dX2_reach_190 rfl ?_
        exact j_mask [true, true, true, true, true, true, false, false, false, false] rfl (ih x3_183 x6_183 (w32 (x5_60 + 1)) G_183)
    · exact j_mask [true, true, false, false, false, false, false, false, false, false] rfl (hk193 G_60)

set_option maxRecDepth 100000 in
theorem cNe_reach_J {l : Launch} {H : Hp} (o : Int) (ho : isNet o) (a1 : Int) (G : Hp) : J l M_cNe_reach (KWv (fun g => fu g H)) (cNe_reach o a1 G) 0 [(2, o), (0, a1), (9, 0), (9, 0), (9, 0), (9, 0), (9, 0), (9, 0), (9, 0), (9, 0)] [] 224 (fu G H) (0, 0) := by
  unfold cNe_reach
  refine j_bipush dX2_reach_0 r32_10 bp_10 ?_
  refine j_iload_n dX2_reach_2 rfl rfl ?_
  refine j_imul dX2_reach_3 ?_
  refine j_istore_n dX2_reach_4 rfl (Nat.le_of_ble_eq_true rfl) rfl ?_
  refine j_iconst dX2_reach_5 r32_0 ?_
  refine j_istore_n dX2_reach_6 rfl (Nat.le_of_ble_eq_true rfl) rfl ?_
  refine j_mask [true, true, true, true, false, false, false, false, false, false] rfl (cNe_reach_L7_J o ho a1 (w32 (10 * a1)) (fun G_37 => gd (w32 ((w32 (10 * a1)) + a1)) 100 (cNe_reach_L60 o a1 (w32 (10 * a1)) (fun G_193 => some (upd2 G_193 o 3 (ior (G_193 o 3) (ishl 1 a1)))) FU (ixor (ishl 1 a1) (-1)) (ishl 1 a1) 1 (upd2 G_37 (o + 2) (w32 ((w32 (10 * a1)) + a1)) 0))) (fun G_37 => ?_) FU 0 G)
  refine j_aload_n dX2_reach_37 rfl rfl ?_
  refine j_grc dX2_reach_38 gf_X2_15 (oc_net ho) (Or.inl (by decide)) (rf_net_1 ho) ?_
  refine j_iload_n dX2_reach_41 rfl rfl ?_
  refine j_iload_n dX2_reach_42 rfl rfl ?_
  refine j_iadd dX2_reach_43 ?_
  refine j_iconst dX2_reach_44 r32_0 ?_
  refine j_gd (fun h45a h45b => ?_)
  refine j_sic dX2_reach_45 (oc_net_2 ho) rfl h45a h45b ?_
  refine j_iconst dX2_reach_46 r32_1 ?_
  refine j_iload_n dX2_reach_47 rfl rfl ?_
  refine j_ishl dX2_reach_48 ?_
  refine j_iconst dX2_reach_49 r32_m1 ?_
  refine j_ixor dX2_reach_50 ?_
  refine j_istore_n dX2_reach_51 rfl (Nat.le_of_ble_eq_true rfl) rfl ?_
  refine j_iconst dX2_reach_52 r32_1 ?_
  refine j_iload_n dX2_reach_53 rfl rfl ?_
  refine j_ishl dX2_reach_54 ?_
  refine j_istore dX2_reach_55 (Nat.le_of_ble_eq_true rfl) rfl ?_
  refine j_iconst dX2_reach_57 r32_1 ?_
  refine j_istore dX2_reach_58 (Nat.le_of_ble_eq_true rfl) rfl ?_
  refine j_mask [true, true, true, true, true, true, false, false, false, false] rfl (cNe_reach_L60_J o ho a1 (w32 (10 * a1)) (fun G_193 => some (upd2 G_193 o 3 (ior (G_193 o 3) (ishl 1 a1)))) (fun G_193 => ?_) FU (ixor (ishl 1 a1) (-1)) (ishl 1 a1) 1 (upd2 G_37 (o + 2) (w32 ((w32 (10 * a1)) + a1)) 0))
  refine j_aload_n dX2_reach_193 rfl rfl ?_
  refine j_dup dX2_reach_194 (by decide) ?_
  refine j_gic dX2_reach_195 gf_X2_21 (oc_net ho) ?_
  refine j_iconst dX2_reach_198 r32_1 ?_
  refine j_iload_n dX2_reach_199 rfl rfl ?_
  refine j_ishl dX2_reach_200 ?_
  refine j_ior dX2_reach_201 ?_
  refine j_pic dX2_reach_202 gf_X2_21 po_2_3 (oc_net ho) (nf_2_3 _) ?_
  exact j_return dX2_reach_205 rfl rfl (Nat.zero_le _) (Nat.zero_le _)

set_option maxRecDepth 100000 in
theorem cNe_reach_ct {l : Launch} {H : Hp} (o : Int) (ho : isNet o) (a1 : Int) (G : Hp) {r : Hp} (h : cNe_reach o a1 G = some r) : Ct l M_cNe_reach [(2, o), (0, a1)] 224 (fu G H) ((KWv (fun g => fu g H)) r) :=
  ct_of_J (by decide +kernel) rfl (Nat.le_of_ble_eq_true rfl) (cNe_reach_J o ho a1 G) h
