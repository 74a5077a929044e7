set_option maxRecDepth 100000 in
theorem mm_after_J {l : Launch} {H : Hp} (a1 : Int) (a2 : Int) (a3 : Int) (G : Hp) : J l M_mm_after (KWi (fun g => fu H g)) (mm_after a1 a2 a3 G) 0 [(2, 201), (0, a1), (0, a2), (0, a3)] [] 224 (fu H G) (0, 0) := by
  unfold mm_after
  refine j_aload_n dX11_after_0 rfl rfl ?_
  refine j_iload_n dX11_after_1 rfl rfl ?_
  refine j_cVWb dX11_after_2 im_mm_isPaper lk_X11_209 rfl (As := [(0, a1)]) (S := []) rfl om_201.1 ⟨by decide, by decide⟩ (Nat.le_of_ble_eq_true rfl) (fun r hr => mm_isPaper_ct a1 G hr) (fun r2 _ => ?_)
  refine j_ifb_eq (tgt := 16) dX11_after_5 rfl (fun h5 => ?_) (fun h5 => ?_)
  · refine j_aload_n dX11_after_8 rfl rfl ?_
    refine j_iload_n dX11_after_9 rfl rfl ?_
    refine j_cVWb dX11_after_10 im_mm_isWeek lk_X11_420 rfl (As := [(0, a2)]) (S := []) rfl om_201.1 ⟨by decide, by decide⟩ (Nat.le_of_ble_eq_true rfl) (fun r hr => mm_isWeek_ct a2 r2.2 hr) (fun r10 _ => ?_)
    refine j_ifb_ne (tgt := 19) dX11_after_13 rfl (fun h13 => ?_) (fun h13 => ?_)
    · refine j_aload_n dX11_after_19 rfl rfl ?_
      refine j_bipush dX11_after_20 r32_40 bp_40 ?_
      refine j_cVWv dX11_after_22 im_mm_runs lk_X11_442 rfl (As := [(0, 40)]) (S := []) rfl om_201.1 ⟨by decide, by decide⟩ (Nat.le_of_ble_eq_true rfl) (fun r hr => mm_runs_ct 40 r10.2 hr) (fun G22 _ => ?_)
      refine j_iload_n dX11_after_25 rfl rfl ?_
      refine j_ite _ (fun hc26_0 => ?_) (fun hc26_0 => ?_)
      · refine j_swIn (i := 0) (tgt := 60) dX11_after_26 (hc26_0.trans (by decide)) (by decide) rfl rfl ?_
        refine j_aload_n dX11_after_60 rfl rfl ?_
        refine j_gim dX11_after_61 gf_X11_260 om_201 ?_
        exact j_ireturn dX11_after_64 rfl rfl (Nat.zero_le _) (Nat.zero_le _)
      · refine j_ite _ (fun hc26_1 => ?_) (fun hc26_1 => ?_)
        · refine j_swIn (i := 1) (tgt := 65) dX11_after_26 (hc26_1.trans (by decide)) (by decide) rfl rfl ?_
          refine j_aload_n dX11_after_65 rfl rfl ?_
          refine j_cVRi dX11_after_66 im_mm_busiestOf lk_X11_448 rfl (As := []) (S := []) rfl om_201.1 ⟨by decide, by decide⟩ (Nat.le_of_ble_eq_true rfl) (fun r hr => mm_busiestOf_ct  G22 hr) (fun v66 _ => ?_)
          exact j_ireturn dX11_after_69 rfl rfl (Nat.zero_le _) (Nat.zero_le _)
        · refine j_ite _ (fun hc26_2 => ?_) (fun hc26_2 => ?_)
          · refine j_swIn (i := 2) (tgt := 70) dX11_after_26 (hc26_2.trans (by decide)) (by decide) rfl rfl ?_
            refine j_aload_n dX11_after_70 rfl rfl ?_
            refine j_gim dX11_after_71 gf_X11_251 om_201 ?_
            exact j_ireturn dX11_after_74 rfl rfl (Nat.zero_le _) (Nat.zero_le _)
          · refine j_ite _ (fun hc26_3 => ?_) (fun hc26_3 => ?_)
            · refine j_swIn (i := 3) (tgt := 75) dX11_after_26 (hc26_3.trans (by decide)) (by decide) rfl rfl ?_
              refine j_aload_n dX11_after_75 rfl rfl ?_
              refine j_gim dX11_after_76 gf_X11_254 om_201 ?_
              exact j_ireturn dX11_after_79 rfl rfl (Nat.zero_le _) (Nat.zero_le _)
            · refine j_ite _ (fun hc26_4 => ?_) (fun hc26_4 => ?_)
              · refine j_swIn (i := 4) (tgt := 80) dX11_after_26 (hc26_4.trans (by decide)) (by decide) rfl rfl ?_
                refine j_aload_n dX11_after_80 rfl rfl ?_
                refine j_cVRi dX11_after_81 im_mm_editionsOf lk_X11_451 rfl (As := []) (S := []) rfl om_201.1 ⟨by decide, by decide⟩ (Nat.le_of_ble_eq_true rfl) (fun r hr => mm_editionsOf_ct  G22 hr) (fun v81 _ => ?_)
                exact j_ireturn dX11_after_84 rfl rfl (Nat.zero_le _) (Nat.zero_le _)
              · refine j_swOut (tgt := 85) dX11_after_26 (by omega) rfl ?_
                refine j_bipush dX11_after_85 r32_m2 bp_m2 ?_
                exact j_ireturn dX11_after_87 rfl rfl (Nat.zero_le _) (Nat.zero_le _)
    · refine j_bipush dX11_after_16 r32_m2 bp_m2 ?_
      exact j_ireturn dX11_after_18 rfl rfl (Nat.zero_le _) (Nat.zero_le _)
  · refine j_bipush dX11_after_16 r32_m2 bp_m2 ?_
    exact j_ireturn dX11_after_18 rfl rfl (Nat.zero_le _) (Nat.zero_le _)

set_option maxRecDepth 100000 in
theorem mm_after_ct {l : Launch} {H : Hp} (a1 : Int) (a2 : Int) (a3 : Int) (G : Hp) {r : Int × Hp} (h : mm_after a1 a2 a3 G = some r) : Ct l M_mm_after [(2, 201), (0, a1), (0, a2), (0, a3)] 224 (fu H G) ((KWi (fun g => fu H g)) r) :=
  ct_of_J (by decide +kernel) rfl (Nat.le_of_ble_eq_true rfl) (mm_after_J a1 a2 a3 G) h
set_option maxRecDepth 100000 in
theorem mm_isLog_J {l : Launch} {H : Hp} (a1 : Int) (G : Hp) : J l M_mm_isLog (KWb (fun g => fu H g)) (mm_isLog a1 G) 0 [(2, 201), (0, a1)] [] 224 (fu H G) (0, 0) := by
  unfold mm_isLog
  refine j_aload_n dX11_isLog_0 rfl rfl ?_
  refine j_iconst dX11_isLog_1 r32_2 ?_
  refine j_iload_n dX11_isLog_2 rfl rfl ?_
  refine j_cVRb dX11_isLog_3 im_mm_isOf lk_X11_175 rfl (As := [(0, 2), (0, a1)]) (S := []) rfl om_201.1 ⟨by decide, by decide⟩ (Nat.le_of_ble_eq_true rfl) (fun r hr => mm_isOf_ct 2 a1 G hr) (fun v3 _ => ?_)
  refine j_ifb_ne (tgt := 11) dX11_isLog_6 rfl (fun h6 => ?_) (fun h6 => ?_)
  · refine j_aload_n dX11_isLog_11 rfl rfl ?_
    refine j_iconst dX11_isLog_12 r32_2 ?_
    refine j_iload_n dX11_isLog_13 rfl rfl ?_
    refine j_cSRip dX11_isLog_14 sm_mm_placeOf lk_X11_194 rfl (As := [(0, 2), (0, a1)]) (S := [(2, 201)]) rfl ⟨by decide, by decide⟩ (Nat.le_of_ble_eq_true rfl) (mm_placeOf_ct 2 a1) ?_
    refine j_pim dX11_isLog_17 gf_X11_454 po_11_39 om_201 (nf_11_39 _) ?_
    refine j_iconst dX11_isLog_20 r32_1 ?_
    exact j_zreturn (b := true) dX11_isLog_21 rfl rfl (Nat.zero_le _) (Nat.zero_le _)
  · refine j_iconst dX11_isLog_9 r32_0 ?_
    exact j_zreturn (b := false) dX11_isLog_10 rfl rfl (Nat.zero_le _) (Nat.zero_le _)

set_option maxRecDepth 100000 in
theorem mm_isLog_ct {l : Launch} {H : Hp} (a1 : Int) (G : Hp) {r : Bool × Hp} (h : mm_isLog a1 G = some r) : Ct l M_mm_isLog [(2, 201), (0, a1)] 224 (fu H G) ((KWb (fun g => fu H g)) r) :=
  ct_of_J (by decide +kernel) rfl (Nat.le_of_ble_eq_true rfl) (mm_isLog_J a1 G) h
set_option maxRecDepth 100000 in
theorem mm_fact_J {l : Launch} {H : Hp} (a1 : Int) (a2 : Int) (a3 : Int) (G : Hp) : J l M_mm_fact (KWi (fun g => fu H g)) (mm_fact a1 a2 a3 G) 0 [(2, 201), (0, a1), (0, a2), (0, a3)] [] 224 (fu H G) (0, 0) := by
  unfold mm_fact
  refine j_aload_n dX11_fact_0 rfl rfl ?_
  refine j_iload_n dX11_fact_1 rfl rfl ?_
  refine j_cVWb dX11_fact_2 im_mm_isLog lk_X11_457 rfl (As := [(0, a1)]) (S := []) rfl om_201.1 ⟨by decide, by decide⟩ (Nat.le_of_ble_eq_true rfl) (fun r hr => mm_isLog_ct a1 G hr) (fun r2 _ => ?_)
  refine j_ifb_ne (tgt := 11) dX11_fact_5 rfl (fun h5 => ?_) (fun h5 => ?_)
  · refine j_iload_n dX11_fact_11 rfl rfl ?_
    refine j_iconst dX11_fact_12 r32_m1 ?_
    refine j_icmp_ne (tgt := 35) dX11_fact_13 rfl (fun h13 => ?_) (fun h13 => ?_)
    · refine j_iload_n dX11_fact_16 rfl rfl ?_
      refine j_if_ne (tgt := 32) dX11_fact_17 rfl (fun h17 => ?_) (fun h17 => ?_)
      · refine j_aload_n dX11_fact_20 rfl rfl ?_
        refine j_grm dX11_fact_21 gf_X11_7 om_201 (Or.inl (by decide)) rf_201_0 ?_
        refine j_aload_n dX11_fact_24 rfl rfl ?_
        refine j_gim dX11_fact_25 gf_X11_454 om_201 ?_
        refine j_gd (fun h28a h28b => ?_)
        refine j_aim dX11_fact_28 om_202 rfl h28a h28b ?_
        refine j_goto (tgt := 34) dX11_fact_29 rfl ?_
        exact j_ireturn dX11_fact_34 rfl rfl (Nat.zero_le _) (Nat.zero_le _)
      · refine j_bipush dX11_fact_32 r32_m2 bp_m2 ?_
        exact j_ireturn dX11_fact_34 rfl rfl (Nat.zero_le _) (Nat.zero_le _)
    · refine j_iload_n dX11_fact_35 rfl rfl ?_
      refine j_iconst dX11_fact_36 r32_0 ?_
      refine j_aload_n dX11_fact_37 rfl rfl ?_
      refine j_grm dX11_fact_38 gf_X11_7 om_201 (Or.inl (by decide)) rf_201_0 ?_
      refine j_aload_n dX11_fact_41 rfl rfl ?_
      refine j_gim dX11_fact_42 gf_X11_454 om_201 ?_
      refine j_gd (fun h45a h45b => ?_)
      refine j_aim dX11_fact_45 om_202 rfl h45a h45b ?_
      refine j_iconst dX11_fact_46 r32_1 ?_
      refine j_isub dX11_fact_47 ?_
      refine j_cSRbp dX11_fact_48 sm_mm_isIn lk_X11_132 rfl (As := [(0, a2), (0, 0), (0, w32 ((r2.2 202 (r2.2 201 39)) - 1))]) (S := []) rfl ⟨by decide, by decide⟩ (Nat.le_of_ble_eq_true rfl) (mm_isIn_ct a2 0 (w32 ((r2.2 202 (r2.2 201 39)) - 1))) ?_
      refine j_ifb_eq (tgt := 83) dX11_fact_51 rfl (fun h51 => ?_) (fun h51 => ?_)
      · refine j_iload_n dX11_fact_54 rfl rfl ?_
        refine j_iconst dX11_fact_55 r32_0 ?_
        refine j_iconst dX11_fact_56 r32_1 ?_
        refine j_cSRbp dX11_fact_57 sm_mm_isIn lk_X11_132 rfl (As := [(0, a3), (0, 0), (0, 1)]) (S := []) rfl ⟨by decide, by decide⟩ (Nat.le_of_ble_eq_true rfl) (mm_isIn_ct a3 0 1) ?_
        refine j_ifb_eq (tgt := 83) dX11_fact_60 rfl (fun h60 => ?_) (fun h60 => ?_)
        · refine j_aload_n dX11_fact_63 rfl rfl ?_
          refine j_grm dX11_fact_64 gf_X11_7 om_201 (Or.inl (by decide)) rf_201_0 ?_
          refine j_aload_n dX11_fact_67 rfl rfl ?_
          refine j_gim dX11_fact_68 gf_X11_454 om_201 ?_
          refine j_iconst dX11_fact_71 r32_1 ?_
          refine j_iadd dX11_fact_72 ?_
          refine j_iconst dX11_fact_73 r32_2 ?_
          refine j_iload_n dX11_fact_74 rfl rfl ?_
          refine j_imul dX11_fact_75 ?_
          refine j_iadd dX11_fact_76 ?_
          refine j_iload_n dX11_fact_77 rfl rfl ?_
          refine j_iadd dX11_fact_78 ?_
          refine j_gd (fun h79a h79b => ?_)
          refine j_aim dX11_fact_79 om_202 rfl h79a h79b ?_
          refine j_goto (tgt := 85) dX11_fact_80 rfl ?_
          exact j_ireturn dX11_fact_85 rfl rfl (Nat.zero_le _) (Nat.zero_le _)
        · refine j_bipush dX11_fact_83 r32_m2 bp_m2 ?_
          exact j_ireturn dX11_fact_85 rfl rfl (Nat.zero_le _) (Nat.zero_le _)
      · refine j_bipush dX11_fact_83 r32_m2 bp_m2 ?_
        exact j_ireturn dX11_fact_85 rfl rfl (Nat.zero_le _) (Nat.zero_le _)
  · refine j_bipush dX11_fact_8 r32_m2 bp_m2 ?_
    exact j_ireturn dX11_fact_10 rfl rfl (Nat.zero_le _) (Nat.zero_le _)

set_option maxRecDepth 100000 in
theorem mm_fact_ct {l : Launch} {H : Hp} (a1 : Int) (a2 : Int) (a3 : Int) (G : Hp) {r : Int × Hp} (h : mm_fact a1 a2 a3 G = some r) : Ct l M_mm_fact [(2, 201), (0, a1), (0, a2), (0, a3)] 224 (fu H G) ((KWi (fun g => fu H g)) r) :=
  ct_of_J (by decide +kernel) rfl (Nat.le_of_ble_eq_true rfl) (mm_fact_J a1 a2 a3 G) h
set_option maxRecDepth 100000 in
theorem mm_isSo_L4_J {l : Launch} {H : Hp} (G : Hp) : ∀ (n_4 : Nat) (x1_4 : Int) (x2_4 : Int), J l M_mm_isSo (KRb (fu H G)) (mm_isSo_L4 G  n_4 x1_4 x2_4) 4 [(2, 201), (0, x1_4), (0, x2_4)] [] 224 (fu H G) (0, 0) := by
  intro n_4
  induction n_4 with
  | zero =>
    intro x1_4 x2_4
    exact j_none
  | succ n_4 ih =>
    intro x1_4 x2_4
    rw [mm_isSo_L4]
    refine j_iload_n dX11_isSo_4 rfl rfl ?_
    refine j_aload_n dX11_isSo_5 rfl rfl ?_
    refine j_grm dX11_isSo_6 gf_X11_7 om_201 (Or.inl (by decide)) rf_201_0 ?_
    refine j_aload_n dX11_isSo_9 rfl rfl ?_
    refine j_gim dX11_isSo_10 gf_X11_454 om_201 ?_
    refine j_gd (fun h13a h13b => ?_)
    refine j_aim dX11_isSo_13 om_202 rfl h13a h13b ?_
    refine j_icmp_ge (tgt := 93) dX11_isSo_14 rfl (fun h14 => ?_) (fun h14 => ?_)
    · refine j_iload_n dX11_isSo_17 rfl rfl ?_
      refine j_if_eq (tgt := 85) dX11_isSo_18 rfl (fun h18 => ?_) (fun h18 => ?_)
      · refine j_iconst dX11_isSo_85 r32_0 ?_
        refine j_istore_n dX11_isSo_86 rfl (Nat.le_of_ble_eq_true rfl) rfl ?_
        refine j_iinc dX11_isSo_87 rfl (Nat.le_of_ble_eq_true rfl) rfl ?_
        refine j_goto (tgt := 4) dX11_isSo_90 rfl ?_
        exact j_mask [true, true, true] rfl (ih 0 (w32 (x2_4 + 1)))
      · refine j_aload_n dX11_isSo_21 rfl rfl ?_
        refine j_aload_n dX11_isSo_22 rfl rfl ?_
        refine j_grm dX11_isSo_23 gf_X11_7 om_201 (Or.inl (by decide)) rf_201_0 ?_
        refine j_aload_n dX11_isSo_26 rfl rfl ?_
        refine j_gim dX11_isSo_27 gf_X11_454 om_201 ?_
        refine j_iconst dX11_isSo_30 r32_1 ?_
        refine j_iadd dX11_isSo_31 ?_
        refine j_iconst dX11_isSo_32 r32_2 ?_
        refine j_iload_n dX11_isSo_33 rfl rfl ?_
        refine j_imul dX11_isSo_34 ?_
        refine j_iadd dX11_isSo_35 ?_
        refine j_gd (fun h36a h36b => ?_)
        refine j_aim dX11_isSo_36 om_202 rfl h36a h36b ?_
        refine j_cVRb dX11_isSo_37 im_mm_isPlace lk_X11_212 rfl (As := [(0, G 202 (w32 ((w32 ((G 201 39) + 1)) + (w32 (2 * x2_4)))))]) (S := []) rfl om_201.1 ⟨by decide, by decide⟩ (Nat.le_of_ble_eq_true rfl) (fun r hr => mm_isPlace_ct (G 202 (w32 ((w32 ((G 201 39) + 1)) + (w32 (2 * x2_4))))) G hr) (fun v37 _ => ?_)
        refine j_ifb_eq (tgt := 85) dX11_isSo_40 rfl (fun h40 => ?_) (fun h40 => ?_)
        · refine j_aload_n dX11_isSo_43 rfl rfl ?_
          refine j_grm dX11_isSo_44 gf_X11_26 om_201 (Or.inl (by decide)) rf_201_23 ?_
          refine j_aload_n dX11_isSo_47 rfl rfl ?_
          refine j_grm dX11_isSo_48 gf_X11_7 om_201 (Or.inl (by decide)) rf_201_0 ?_
          refine j_aload_n dX11_isSo_51 rfl rfl ?_
          refine j_gim dX11_isSo_52 gf_X11_454 om_201 ?_
          refine j_iconst dX11_isSo_55 r32_1 ?_
          refine j_iadd dX11_isSo_56 ?_
          refine j_iconst dX11_isSo_57 r32_2 ?_
          refine j_iload_n dX11_isSo_58 rfl rfl ?_
          refine j_imul dX11_isSo_59 ?_
          refine j_iadd dX11_isSo_60 ?_
          refine j_gd (fun h61a h61b => ?_)
          refine j_aim dX11_isSo_61 om_202 rfl h61a h61b ?_
          refine j_gd (fun h62a h62b => ?_)
          refine j_aim dX11_isSo_62 om_207 rfl h62a h62b ?_
          refine j_aload_n dX11_isSo_63 rfl rfl ?_
          refine j_grm dX11_isSo_64 gf_X11_7 om_201 (Or.inl (by decide)) rf_201_0 ?_
          refine j_aload_n dX11_isSo_67 rfl rfl ?_
          refine j_gim dX11_isSo_68 gf_X11_454 om_201 ?_
          refine j_iconst dX11_isSo_71 r32_2 ?_
          refine j_iadd dX11_isSo_72 ?_
          refine j_iconst dX11_isSo_73 r32_2 ?_
          refine j_iload_n dX11_isSo_74 rfl rfl ?_
          refine j_imul dX11_isSo_75 ?_
          refine j_iadd dX11_isSo_76 ?_
          refine j_gd (fun h77a h77b => ?_)
          refine j_aim dX11_isSo_77 om_202 rfl h77a h77b ?_
          refine j_icmp_ne (tgt := 85) dX11_isSo_78 rfl (fun h78 => ?_) (fun h78 => ?_)
          · refine j_iconst dX11_isSo_81 r32_1 ?_
            refine j_goto (tgt := 86) dX11_isSo_82 rfl ?_
            refine j_istore_n dX11_isSo_86 rfl (Nat.le_of_ble_eq_true rfl) rfl ?_
            refine j_iinc dX11_isSo_87 rfl (Nat.le_of_ble_eq_true rfl) rfl ?_
            refine j_goto (tgt := 4) dX11_isSo_90 rfl ?_
            exact j_mask [true, true, true] rfl (ih 1 (w32 (x2_4 + 1)))
          · refine j_iconst dX11_isSo_85 r32_0 ?_
            refine j_istore_n dX11_isSo_86 rfl (Nat.le_of_ble_eq_true rfl) rfl ?_
            refine j_iinc dX11_isSo_87 rfl (Nat.le_of_ble_eq_true rfl) rfl ?_
            refine j_goto (tgt := 4) dX11_isSo_90 rfl ?_
            exact j_mask [true, true, true] rfl (ih 0 (w32 (x2_4 + 1)))
        · refine j_iconst dX11_isSo_85 r32_0 ?_
          refine j_istore_n dX11_isSo_86 rfl (Nat.le_of_ble_eq_true rfl) rfl ?_
          refine j_iinc dX11_isSo_87 rfl (Nat.le_of_ble_eq_true rfl) rfl ?_
          refine j_goto (tgt := 4) dX11_isSo_90 rfl ?_
          exact j_mask [true, true, true] rfl (ih 0 (w32 (x2_4 + 1)))
    · refine j_iload_n dX11_isSo_93 rfl rfl ?_
      refine j_zret (fun hb_ => ?_) (fun hb_ => ?_)
      · rw [hb_]
        exact j_zreturn (b := false) dX11_isSo_94 rfl rfl (Nat.zero_le _) (Nat.zero_le _)
      · rw [hb_]
        exact j_zreturn (b := true) dX11_isSo_94 rfl rfl (Nat.zero_le _) (Nat.zero_le _)

set_option maxRecDepth 100000 in
theorem mm_isSo_J {l : Launch} {H : Hp} (G : Hp) : J l M_mm_isSo (KRb (fu H G)) (mm_isSo  G) 0 [(2, 201), (9, 0), (9, 0)] [] 224 (fu H G) (0, 0) := by
  unfold mm_isSo
  refine j_iconst dX11_isSo_0 r32_1 ?_
  refine j_istore_n dX11_isSo_1 rfl (Nat.le_of_ble_eq_true rfl) rfl ?_
  refine j_iconst dX11_isSo_2 r32_0 ?_
  refine j_istore_n dX11_isSo_3 rfl (Nat.le_of_ble_eq_true rfl) rfl ?_
  exact j_mask [true, true, true] rfl (mm_isSo_L4_J G FU 1 0)

set_option maxRecDepth 100000 in
theorem mm_isSo_ct {l : Launch} {H : Hp} (G : Hp) {r : Bool} (h : mm_isSo  G = some r) : Ct l M_mm_isSo [(2, 201)] 224 (fu H G) ((KRb (fu H G)) r) :=
  ct_of_J (by decide +kernel) rfl (Nat.le_of_ble_eq_true rfl) (mm_isSo_J  G) h
set_option maxRecDepth 100000 in
theorem mm_laysNoFits_L17_J {l : Launch} {H : Hp} (k36 : Hp → Option (Hp)) (hk36 : ∀ (G_36 : Hp), J l M_mm_laysNoFits (KWv (fun g => fu H g)) (k36 G_36) 36 [(2, 201), (9, 0)] [] 224 (fu H G_36) (0, 0)) : ∀ (n_17 : Nat) (x1_17 : Int) (G_17 : Hp), J l M_mm_laysNoFits (KWv (fun g => fu H g)) (mm_laysNoFits_L17 k36 n_17 x1_17 G_17) 17 [(2, 201), (0, x1_17)] [] 224 (fu H G_17) (0, 0) := by
  intro n_17
  induction n_17 with
  | zero =>
    intro x1_17 G_17
    exact j_none
  | succ n_17 ih =>
    intro x1_17 G_17
    rw [mm_laysNoFits_L17]
    refine j_iload_n dX11_laysNoFits_17 rfl rfl ?_
    refine j_bipush dX11_laysNoFits_18 r32_6 bp_6 ?_
    refine j_icmp_ge (tgt := 36) dX11_laysNoFits_20 rfl (fun h20 => ?_) (fun h20 => ?_)
    · refine j_aload_n dX11_laysNoFits_23 rfl rfl ?_
      refine j_grm dX11_laysNoFits_24 gf_X11_68 om_201 (Or.inl (by decide)) rf_201_43 ?_
      refine j_iload_n dX11_laysNoFits_27 rfl rfl ?_
      refine j_iconst dX11_laysNoFits_28 r32_0 ?_
      refine j_gd (fun h29a h29b => ?_)
      refine j_sim dX11_laysNoFits_29 om_221 rfl h29a h29b ?_
      refine j_iinc dX11_laysNoFits_30 rfl (Nat.le_of_ble_eq_true rfl) rfl ?_
      refine j_goto (tgt := 17) dX11_laysNoFits_33 rfl ?_
      exact j_mask [true, true] rfl (ih (w32 (x1_17 + 1)) (upd2 G_17 221 x1_17 0))
    · exact j_mask [true, false] rfl (hk36 G_17)

set_option maxRecDepth 100000 in
theorem mm_laysNoFits_L38_J {l : Launch} {H : Hp} (k57 : Hp → Option (Hp)) (hk57 : ∀ (G_57 : Hp), J l M_mm_laysNoFits (KWv (fun g => fu H g)) (k57 G_57) 57 [(2, 201), (9, 0)] [] 224 (fu H G_57) (0, 0)) : ∀ (n_38 : Nat) (x1_38 : Int) (G_38 : Hp), J l M_mm_laysNoFits (KWv (fun g => fu H g)) (mm_laysNoFits_L38 k57 n_38 x1_38 G_38) 38 [(2, 201), (0, x1_38)] [] 224 (fu H G_38) (0, 0) := by
  intro n_38
  induction n_38 with
  | zero =>
    intro x1_38 G_38
    exact j_none
  | succ n_38 ih =>
    intro x1_38 G_38
    rw [mm_laysNoFits_L38]
    refine j_iload_n dX11_laysNoFits_38 rfl rfl ?_
    refine j_bipush dX11_laysNoFits_39 r32_80 bp_80 ?_
    refine j_icmp_ge (tgt := 57) dX11_laysNoFits_41 rfl (fun h41 => ?_) (fun h41 => ?_)
    · refine j_aload_n dX11_laysNoFits_44 rfl rfl ?_
      refine j_grm dX11_laysNoFits_45 gf_X11_71 om_201 (Or.inl (by decide)) rf_201_44 ?_
      refine j_iload_n dX11_laysNoFits_48 rfl rfl ?_
      refine j_iconst dX11_laysNoFits_49 r32_0 ?_
      refine j_gd (fun h50a h50b => ?_)
      refine j_sim dX11_laysNoFits_50 om_222 rfl h50a h50b ?_
      refine j_iinc dX11_laysNoFits_51 rfl (Nat.le_of_ble_eq_true rfl) rfl ?_
      refine j_goto (tgt := 38) dX11_laysNoFits_54 rfl ?_
      exact j_mask [true, true] rfl (ih (w32 (x1_38 + 1)) (upd2 G_38 222 x1_38 0))
    · exact j_mask [true, false] rfl (hk57 G_38)

set_option maxRecDepth 100000 in
theorem mm_laysNoFits_L59_J {l : Launch} {H : Hp} : ∀ (n_59 : Nat) (x1_59 : Int) (G_59 : Hp), J l M_mm_laysNoFits (KWv (fun g => fu H g)) (mm_laysNoFits_L59  n_59 x1_59 G_59) 59 [(2, 201), (0, x1_59)] [] 224 (fu H G_59) (0, 0) := by
  intro n_59
  induction n_59 with
  | zero =>
    intro x1_59 G_59
    exact j_none
  | succ n_59 ih =>
    intro x1_59 G_59
    rw [mm_laysNoFits_L59]
    refine j_iload_n dX11_laysNoFits_59 rfl rfl ?_
    refine j_bipush dX11_laysNoFits_60 r32_36 bp_36 ?_
    refine j_icmp_ge (tgt := 78) dX11_laysNoFits_62 rfl (fun h62 => ?_) (fun h62 => ?_)
    · refine j_aload_n dX11_laysNoFits_65 rfl rfl ?_
      refine j_grm dX11_laysNoFits_66 gf_X11_74 om_201 (Or.inl (by decide)) rf_201_45 ?_
      refine j_iload_n dX11_laysNoFits_69 rfl rfl ?_
      refine j_iconst dX11_laysNoFits_70 r32_0 ?_
      refine j_gd (fun h71a h71b => ?_)
      refine j_sim dX11_laysNoFits_71 om_223 rfl h71a h71b ?_
      refine j_iinc dX11_laysNoFits_72 rfl (Nat.le_of_ble_eq_true rfl) rfl ?_
      refine j_goto (tgt := 59) dX11_laysNoFits_75 rfl ?_
      exact j_mask [true, true] rfl (ih (w32 (x1_59 + 1)) (upd2 G_59 223 x1_59 0))
    · exact j_return dX11_laysNoFits_78 rfl rfl (Nat.zero_le _) (Nat.zero_le _)

set_option maxRecDepth 100000 in
theorem mm_laysNoFits_J {l : Launch} {H : Hp} (G : Hp) : J l M_mm_laysNoFits (KWv (fun g => fu H g)) (mm_laysNoFits  G) 0 [(2, 201), (9, 0)] [] 224 (fu H G) (0, 0) := by
  unfold mm_laysNoFits
  refine j_aload_n dX11_laysNoFits_0 rfl rfl ?_
  refine j_iconst dX11_laysNoFits_1 r32_0 ?_
  refine j_pim dX11_laysNoFits_2 gf_X11_460 po_11_40 om_201 (nf_11_40 _) ?_
  refine j_aload_n dX11_laysNoFits_5 rfl rfl ?_
  refine j_iconst dX11_laysNoFits_6 r32_m1 ?_
  refine j_pim dX11_laysNoFits_7 gf_X11_463 po_11_41 om_201 (nf_11_41 _) ?_
  refine j_aload_n dX11_laysNoFits_10 rfl rfl ?_
  refine j_iconst dX11_laysNoFits_11 r32_m1 ?_
  refine j_pim dX11_laysNoFits_12 gf_X11_466 po_11_42 om_201 (nf_11_42 _) ?_
  refine j_iconst dX11_laysNoFits_15 r32_0 ?_
  refine j_istore_n dX11_laysNoFits_16 rfl (Nat.le_of_ble_eq_true rfl) rfl ?_
  refine j_mask [true, true] rfl (mm_laysNoFits_L17_J (fun G_36 => mm_laysNoFits_L38 (fun G_57 => mm_laysNoFits_L59 FU 0 G_57) FU 0 G_36) (fun G_36 => ?_) FU 0 (upd2 (upd2 (upd2 G 201 40 0) 201 41 (-1)) 201 42 (-1)))
  refine j_iconst dX11_laysNoFits_36 r32_0 ?_
  refine j_istore_n dX11_laysNoFits_37 rfl (Nat.le_of_ble_eq_true rfl) rfl ?_
  refine j_mask [true, true] rfl (mm_laysNoFits_L38_J (fun G_57 => mm_laysNoFits_L59 FU 0 G_57) (fun G_57 => ?_) FU 0 G_36)
  refine j_iconst dX11_laysNoFits_57 r32_0 ?_
  refine j_istore_n dX11_laysNoFits_58 rfl (Nat.le_of_ble_eq_true rfl) rfl ?_
  exact j_mask [true, true] rfl (mm_laysNoFits_L59_J FU 0 G_57)

set_option maxRecDepth 100000 in
theorem mm_laysNoFits_ct {l : Launch} {H : Hp} (G : Hp) {r : Hp} (h : mm_laysNoFits  G = some r) : Ct l M_mm_laysNoFits [(2, 201)] 224 (fu H G) ((KWv (fun g => fu H g)) r) :=
  ct_of_J (by decide +kernel) rfl (Nat.le_of_ble_eq_true rfl) (mm_laysNoFits_J  G) h
set_option maxRecDepth 100000 in
theorem mm_laysFit_L59_J {l : Launch} {H : Hp} (a1 : Int) (k93 : Hp → Option (Hp)) (hk93 : ∀ (G_93 : Hp), J l M_mm_laysFit (KWv (fun g => fu H g)) (k93 G_93) 93 [(2, 201), (9, 0), (9, 0), (9, 0)] [] 224 (fu H G_93) (0, 0)) : ∀ (n_59 : Nat) (x2_59 : Int) (G_59 : Hp), J l M_mm_laysFit (KWv (fun g => fu H g)) (mm_laysFit_L59 a1 k93 n_59 x2_59 G_59) 59 [(2, 201), (9, 0), (0, x2_59), (9, 0)] [] 224 (fu H G_59) (0, 0) := by
  intro n_59
  induction n_59 with
  | zero =>
    intro x2_59 G_59
    exact j_none
  | succ n_59 ih =>
    intro x2_59 G_59
    rw [mm_laysFit_L59]
    refine j_iload_n dX11_laysFit_59 rfl rfl ?_
    refine j_aload_n dX11_laysFit_60 rfl rfl ?_
    refine j_gim dX11_laysFit_61 gf_X11_200 om_201 ?_
    refine j_icmp_ge (tgt := 93) dX11_laysFit_64 rfl (fun h64 => ?_) (fun h64 => ?_)
    · refine j_aload_n dX11_laysFit_67 rfl rfl ?_
      refine j_grm dX11_laysFit_68 gf_X11_71 om_201 (Or.inl (by decide)) rf_201_44 ?_
      refine j_bipush dX11_laysFit_71 r32_10 bp_10 ?_
      refine j_iload_n dX11_laysFit_73 rfl rfl ?_
      refine j_imul dX11_laysFit_74 ?_
      refine j_aload_n dX11_laysFit_75 rfl rfl ?_
      refine j_grm dX11_laysFit_76 gf_X11_26 om_201 (Or.inl (by decide)) rf_201_23 ?_
      refine j_iload_n dX11_laysFit_79 rfl rfl ?_
      refine j_gd (fun h80a h80b => ?_)
      refine j_aim dX11_laysFit_80 om_207 rfl h80a h80b ?_
      refine j_iadd dX11_laysFit_81 ?_
      refine j_dup2 dX11_laysFit_82 (by decide) (by decide) ?_
      refine j_gd (fun h83a h83b => ?_)
      refine j_aim dX11_laysFit_83 om_222 rfl h83a h83b ?_
      refine j_iconst dX11_laysFit_84 r32_1 ?_
      refine j_iadd dX11_laysFit_85 ?_
      refine j_gd (fun h86a h86b => ?_)
      refine j_sim dX11_laysFit_86 om_222 rfl h86a h86b ?_
      refine j_iinc dX11_laysFit_87 rfl (Nat.le_of_ble_eq_true rfl) rfl ?_
      refine j_goto (tgt := 59) dX11_laysFit_90 rfl ?_
      exact j_mask [true, false, true, false] rfl (ih (w32 (x2_59 + 1)) (upd2 G_59 222 (w32 ((w32 (10 * x2_59)) + (G_59 207 x2_59))) (w32 ((G_59 222 (w32 ((w32 (10 * x2_59)) + (G_59 207 x2_59)))) + 1))))
    · exact j_mask [true, false, false, false] rfl (hk93 G_59)

set_option maxRecDepth 100000 in
theorem mm_laysFit_L124_J {l : Launch} {H : Hp} (a1 : Int) (x2_124 : Int) (k163 : Hp → Option (Hp)) (hk163 : ∀ (G_163 : Hp), J l M_mm_laysFit (KWv (fun g => fu H g)) (k163 G_163) 163 [(2, 201), (9, 0), (0, x2_124), (9, 0)] [] 224 (fu H G_163) (0, 0)) : ∀ (n_124 : Nat) (x3_124 : Int) (G_124 : Hp), J l M_mm_laysFit (KWv (fun g => fu H g)) (mm_laysFit_L124 a1 x2_124 k163 n_124 x3_124 G_124) 124 [(2, 201), (9, 0), (0, x2_124), (0, x3_124)] [] 224 (fu H G_124) (0, 0) := by
  intro n_124
  induction n_124 with
  | zero =>
    intro x3_124 G_124
    exact j_none
  | succ n_124 ih =>
    intro x3_124 G_124
    rw [mm_laysFit_L124]
    refine j_iload_n dX11_laysFit_124 rfl rfl ?_
    refine j_aload_n dX11_laysFit_125 rfl rfl ?_
    refine j_gim dX11_laysFit_126 gf_X11_203 om_201 ?_
    refine j_icmp_ge (tgt := 163) dX11_laysFit_129 rfl (fun h129 => ?_) (fun h129 => ?_)
    · refine j_aload_n dX11_laysFit_132 rfl rfl ?_
      refine j_grm dX11_laysFit_133 gf_X11_74 om_201 (Or.inl (by decide)) rf_201_45 ?_
      refine j_bipush dX11_laysFit_136 r32_6 bp_6 ?_
      refine j_aload_n dX11_laysFit_138 rfl rfl ?_
      refine j_grm dX11_laysFit_139 gf_X11_44 om_201 (Or.inl (by decide)) rf_201_29 ?_
      refine j_iload_n dX11_laysFit_142 rfl rfl ?_
      refine j_gd (fun h143a h143b => ?_)
      refine j_aim dX11_laysFit_143 om_213 rfl h143a h143b ?_
      refine j_imul dX11_laysFit_144 ?_
      refine j_aload_n dX11_laysFit_145 rfl rfl ?_
      refine j_grm dX11_laysFit_146 gf_X11_44 om_201 (Or.inl (by decide)) rf_201_29 ?_
      refine j_iload_n dX11_laysFit_149 rfl rfl ?_
      refine j_gd (fun h150a h150b => ?_)
      refine j_aim dX11_laysFit_150 om_213 rfl h150a h150b ?_
      refine j_iadd dX11_laysFit_151 ?_
      refine j_dup2 dX11_laysFit_152 (by decide) (by decide) ?_
      refine j_gd (fun h153a h153b => ?_)
      refine j_aim dX11_laysFit_153 om_223 rfl h153a h153b ?_
      refine j_iconst dX11_laysFit_154 r32_1 ?_
      refine j_iadd dX11_laysFit_155 ?_
      refine j_gd (fun h156a h156b => ?_)
      refine j_sim dX11_laysFit_156 om_223 rfl h156a h156b ?_
      refine j_iinc dX11_laysFit_157 rfl (Nat.le_of_ble_eq_true rfl) rfl ?_
      refine j_goto (tgt := 124) dX11_laysFit_160 rfl ?_
      exact j_mask [true, false, true, true] rfl (ih (w32 (x3_124 + 1)) (upd2 G_124 223 (w32 ((w32 (6 * (G_124 213 x2_124))) + (G_124 213 x3_124))) (w32 ((G_124 223 (w32 ((w32 (6 * (G_124 213 x2_124))) + (G_124 213 x3_124)))) + 1))))
    · exact j_mask [true, false, true, false] rfl (hk163 G_124)

set_option maxRecDepth 100000 in
theorem mm_laysFit_L95_J {l : Launch} {H : Hp} (a1 : Int) : ∀ (n_95 : Nat) (x2_95 : Int) (G_95 : Hp), J l M_mm_laysFit (KWv (fun g => fu H g)) (mm_laysFit_L95 a1  n_95 x2_95 G_95) 95 [(2, 201), (9, 0), (0, x2_95), (9, 0)] [] 224 (fu H G_95) (0, 0) := by
  intro n_95
  induction n_95 with
  | zero =>
    intro x2_95 G_95
    exact j_none
  | succ n_95 ih =>
    intro x2_95 G_95
    rw [mm_laysFit_L95]
    refine j_iload_n dX11_laysFit_95 rfl rfl ?_
    refine j_aload_n dX11_laysFit_96 rfl rfl ?_
    refine j_gim dX11_laysFit_97 gf_X11_203 om_201 ?_
    refine j_icmp_ge (tgt := 169) dX11_laysFit_100 rfl (fun h100 => ?_) (fun h100 => ?_)
    · refine j_aload_n dX11_laysFit_103 rfl rfl ?_
      refine j_grm dX11_laysFit_104 gf_X11_68 om_201 (Or.inl (by decide)) rf_201_43 ?_
      refine j_iload_n dX11_laysFit_107 rfl rfl ?_
      refine j_dup2 dX11_laysFit_108 (by decide) (by decide) ?_
      refine j_gd (fun h109a h109b => ?_)
      refine j_aim dX11_laysFit_109 om_221 rfl h109a h109b ?_
      refine j_iconst dX11_laysFit_110 r32_1 ?_
      refine j_aload_n dX11_laysFit_111 rfl rfl ?_
      refine j_grm dX11_laysFit_112 gf_X11_44 om_201 (Or.inl (by decide)) rf_201_29 ?_
      refine j_iload_n dX11_laysFit_115 rfl rfl ?_
      refine j_gd (fun h116a h116b => ?_)
      refine j_aim dX11_laysFit_116 om_213 rfl h116a h116b ?_
      refine j_ishl dX11_laysFit_117 ?_
      refine j_ior dX11_laysFit_118 ?_
      refine j_gd (fun h119a h119b => ?_)
      refine j_sim dX11_laysFit_119 om_221 rfl h119a h119b ?_
      refine j_iload_n dX11_laysFit_120 rfl rfl ?_
      refine j_iconst dX11_laysFit_121 r32_1 ?_
      refine j_iadd dX11_laysFit_122 ?_
      refine j_istore_n dX11_laysFit_123 rfl (Nat.le_of_ble_eq_true rfl) rfl ?_
      refine j_mask [true, false, true, true] rfl (mm_laysFit_L124_J a1 x2_95 (fun G_163 => mm_laysFit_L95 a1 n_95 (w32 (x2_95 + 1)) G_163) (fun G_163 => ?_) FU (w32 (x2_95 + 1)) (upd2 G_95 221 x2_95 (ior (G_95 221 x2_95) (ishl 1 (G_95 213 x2_95)))))
      refine j_iinc dX11_laysFit_163 rfl (Nat.le_of_ble_eq_true rfl) rfl ?_
      refine j_goto (tgt := 95) dX11_laysFit_166 rfl ?_
      exact j_mask [true, false, true, false] rfl (ih (w32 (x2_95 + 1)) G_163)
    · exact j_return dX11_laysFit_169 rfl rfl (Nat.zero_le _) (Nat.zero_le _)

set_option maxRecDepth 100000 in
theorem mm_laysFit_j44_J {l : Launch} {H : Hp} (a1 : Int) (s0_44 : Int) (G_44 : Hp) : J l M_mm_laysFit (KWv (fun g => fu H g)) (mm_laysFit_j44 a1  s0_44 G_44) 44 [(2, 201), (9, 0), (9, 0), (9, 0)] [(0, s0_44), (2, 201)] 224 (fu H G_44) (0, 0) := by
  unfold mm_laysFit_j44
  refine j_pim dX11_laysFit_44 gf_X11_466 po_11_42 om_201 (nf_11_42 _) ?_
  refine j_aload_n dX11_laysFit_47 rfl rfl ?_
  refine j_dup dX11_laysFit_48 (by decide) ?_
  refine j_gim dX11_laysFit_49 gf_X11_460 om_201 ?_
  refine j_iconst dX11_laysFit_52 r32_1 ?_
  refine j_iadd dX11_laysFit_53 ?_
  refine j_pim dX11_laysFit_54 gf_X11_460 po_11_40 om_201 (nf_11_40 _) ?_
  refine j_iconst dX11_laysFit_57 r32_0 ?_
  refine j_istore_n dX11_laysFit_58 rfl (Nat.le_of_ble_eq_true rfl) rfl ?_
  refine j_mask [true, false, true, false] rfl (mm_laysFit_L59_J a1 (fun G_93 => mm_laysFit_L95 a1 FU 0 G_93) (fun G_93 => ?_) FU 0 (upd2 (upd2 G_44 201 42 s0_44) 201 40 (w32 (((upd2 G_44 201 42 s0_44) 201 40) + 1))))
  refine j_iconst dX11_laysFit_93 r32_0 ?_
  refine j_istore_n dX11_laysFit_94 rfl (Nat.le_of_ble_eq_true rfl) rfl ?_
  exact j_mask [true, false, true, false] rfl (mm_laysFit_L95_J a1 FU 0 G_93)

set_option maxRecDepth 100000 in
theorem mm_laysFit_j17_J {l : Launch} {H : Hp} (a1 : Int) (s0_17 : Int) (G_17 : Hp) : J l M_mm_laysFit (KWv (fun g => fu H g)) (mm_laysFit_j17 a1  s0_17 G_17) 17 [(2, 201), (0, a1), (9, 0), (9, 0)] [(0, s0_17), (2, 201)] 224 (fu H G_17) (0, 0) := by
  unfold mm_laysFit_j17
  refine j_pim dX11_laysFit_17 gf_X11_463 po_11_41 om_201 (nf_11_41 _) ?_
  refine j_aload_n dX11_laysFit_20 rfl rfl ?_
  refine j_aload_n dX11_laysFit_21 rfl rfl ?_
  refine j_gim dX11_laysFit_22 gf_X11_460 om_201 ?_
  refine j_if_eq (tgt := 36) dX11_laysFit_25 rfl (fun h25 => ?_) (fun h25 => ?_)
  · refine j_iload_n dX11_laysFit_36 rfl rfl ?_
    refine j_goto (tgt := 44) dX11_laysFit_37 rfl ?_
    exact j_mask [true, false, false, false] rfl (mm_laysFit_j44_J a1 a1 (upd2 G_17 201 41 s0_17))
  · refine j_iload_n dX11_laysFit_28 rfl rfl ?_
    refine j_aload_n dX11_laysFit_29 rfl rfl ?_
    refine j_gim dX11_laysFit_30 gf_X11_466 om_201 ?_
    refine j_icmp_ge (tgt := 40) dX11_laysFit_33 rfl (fun h33 => ?_) (fun h33 => ?_)
    · refine j_iload_n dX11_laysFit_36 rfl rfl ?_
      refine j_goto (tgt := 44) dX11_laysFit_37 rfl ?_
      exact j_mask [true, false, false, false] rfl (mm_laysFit_j44_J a1 a1 (upd2 G_17 201 41 s0_17))
    · refine j_aload_n dX11_laysFit_40 rfl rfl ?_
      refine j_gim dX11_laysFit_41 gf_X11_466 om_201 ?_
      exact j_mask [true, false, false, false] rfl (mm_laysFit_j44_J a1 ((upd2 G_17 201 41 s0_17) 201 42) (upd2 G_17 201 41 s0_17))

set_option maxRecDepth 100000 in
theorem mm_laysFit_J {l : Launch} {H : Hp} (a1 : Int) (G : Hp) : J l M_mm_laysFit (KWv (fun g => fu H g)) (mm_laysFit a1 G) 0 [(2, 201), (0, a1), (9, 0), (9, 0)] [] 224 (fu H G) (0, 0) := by
  unfold mm_laysFit
  refine j_aload_n dX11_laysFit_0 rfl rfl ?_
  refine j_iload_n dX11_laysFit_1 rfl rfl ?_
  refine j_aload_n dX11_laysFit_2 rfl rfl ?_
  refine j_gim dX11_laysFit_3 gf_X11_463 om_201 ?_
  refine j_icmp_le (tgt := 13) dX11_laysFit_6 rfl (fun h6 => ?_) (fun h6 => ?_)
  · refine j_iload_n dX11_laysFit_9 rfl rfl ?_
    refine j_goto (tgt := 17) dX11_laysFit_10 rfl ?_
    exact j_mask [true, true, false, false] rfl (mm_laysFit_j17_J a1 a1 G)
  · refine j_aload_n dX11_laysFit_13 rfl rfl ?_
    refine j_gim dX11_laysFit_14 gf_X11_463 om_201 ?_
    exact j_mask [true, true, false, false] rfl (mm_laysFit_j17_J a1 (G 201 41) G)

set_option maxRecDepth 100000 in
theorem mm_laysFit_ct {l : Launch} {H : Hp} (a1 : Int) (G : Hp) {r : Hp} (h : mm_laysFit a1 G = some r) : Ct l M_mm_laysFit [(2, 201), (0, a1)] 224 (fu H G) ((KWv (fun g => fu H g)) r) :=
  ct_of_J (by decide +kernel) rfl (Nat.le_of_ble_eq_true rfl) (mm_laysFit_J a1 G) h
set_option maxRecDepth 100000 in
theorem mm_numberOf_L4_J {l : Launch} {H : Hp} (G : Hp) : ∀ (n_4 : Nat) (x1_4 : Int) (x2_4 : Int), J l M_mm_numberOf (KRi (fu H G)) (mm_numberOf_L4 G  n_4 x1_4 x2_4) 4 [(2, 201), (0, x1_4), (0, x2_4)] [] 224 (fu H G) (0, 0) := by
  intro n_4
  induction n_4 with
  | zero =>
    intro x1_4 x2_4
    exact j_none
  | succ n_4 ih =>
    intro x1_4 x2_4
    rw [mm_numberOf_L4]
    refine j_iload_n dX11_numberOf_4 rfl rfl ?_
    refine j_aload_n dX11_numberOf_5 rfl rfl ?_
    refine j_gim dX11_numberOf_6 gf_X11_203 om_201 ?_
    refine j_icmp_ge (tgt := 30) dX11_numberOf_9 rfl (fun h9 => ?_) (fun h9 => ?_)
    · refine j_bipush dX11_numberOf_12 r32_10 bp_10 ?_
      refine j_iload_n dX11_numberOf_14 rfl rfl ?_
      refine j_imul dX11_numberOf_15 ?_
      refine j_aload_n dX11_numberOf_16 rfl rfl ?_
      refine j_grm dX11_numberOf_17 gf_X11_44 om_201 (Or.inl (by decide)) rf_201_29 ?_
      refine j_iload_n dX11_numberOf_20 rfl rfl ?_
      refine j_gd (fun h21a h21b => ?_)
      refine j_aim dX11_numberOf_21 om_213 rfl h21a h21b ?_
      refine j_iadd dX11_numberOf_22 ?_
      refine j_istore_n dX11_numberOf_23 rfl (Nat.le_of_ble_eq_true rfl) rfl ?_
      refine j_iinc dX11_numberOf_24 rfl (Nat.le_of_ble_eq_true rfl) rfl ?_
      refine j_goto (tgt := 4) dX11_numberOf_27 rfl ?_
      exact j_mask [true, true, true] rfl (ih (w32 ((w32 (10 * x1_4)) + (G 213 x2_4))) (w32 (x2_4 + 1)))
    · refine j_iload_n dX11_numberOf_30 rfl rfl ?_
      exact j_ireturn dX11_numberOf_31 rfl rfl (Nat.zero_le _) (Nat.zero_le _)

set_option maxRecDepth 100000 in
theorem mm_numberOf_J {l : Launch} {H : Hp} (G : Hp) : J l M_mm_numberOf (KRi (fu H G)) (mm_numberOf  G) 0 [(2, 201), (9, 0), (9, 0)] [] 224 (fu H G) (0, 0) := by
  unfold mm_numberOf
  refine j_iconst dX11_numberOf_0 r32_1 ?_
  refine j_istore_n dX11_numberOf_1 rfl (Nat.le_of_ble_eq_true rfl) rfl ?_
  refine j_iconst dX11_numberOf_2 r32_0 ?_
  refine j_istore_n dX11_numberOf_3 rfl (Nat.le_of_ble_eq_true rfl) rfl ?_
  exact j_mask [true, true, true] rfl (mm_numberOf_L4_J G FU 1 0)

set_option maxRecDepth 100000 in
theorem mm_numberOf_ct {l : Launch} {H : Hp} (G : Hp) {r : Int} (h : mm_numberOf  G = some r) : Ct l M_mm_numberOf [(2, 201)] 224 (fu H G) ((KRi (fu H G)) r) :=
  ct_of_J (by decide +kernel) rfl (Nat.le_of_ble_eq_true rfl) (mm_numberOf_J  G) h
set_option maxRecDepth 100000 in
theorem mm_laysFits_j49_J {l : Launch} {H : Hp} (a1 : Int) (k13 : Int → Int → Hp → Option (Int × Hp)) (hk13 : ∀ (x2_13 : Int) (x3_13 : Int) (G_13 : Hp), J l M_mm_laysFits (KWi (fun g => fu H g)) (k13 x2_13 x3_13 G_13) 13 [(2, 201), (0, a1), (0, x2_13), (0, x3_13), (9, 0)] [] 224 (fu H G_13) (0, 0)) (x2_49 : Int) (G_49 : Hp) : J l M_mm_laysFits (KWi (fun g => fu H g)) (mm_laysFits_j49 a1 k13 x2_49 G_49) 49 [(2, 201), (0, a1), (0, x2_49), (9, 0), (9, 0)] [] 224 (fu H G_49) (0, 0) := by
  unfold mm_laysFits_j49
  refine j_aload_n dX11_laysFits_49 rfl rfl ?_
  refine j_cVWb dX11_laysFits_50 im_mm_nextRow lk_X11_300 rfl (As := []) (S := []) rfl om_201.1 ⟨by decide, by decide⟩ (Nat.le_of_ble_eq_true rfl) (fun r hr => mm_nextRow_ct  G_49 hr) (fun r50 _ => ?_)
  refine j_istore_n dX11_laysFits_53 rfl (Nat.le_of_ble_eq_true rfl) rfl ?_
  refine j_goto (tgt := 13) dX11_laysFits_54 rfl ?_
  exact j_mask [true, true, true, true, false] rfl (hk13 x2_49 (b2i r50.1) r50.2)

set_option maxRecDepth 100000 in
theorem mm_laysFits_j43_J {l : Launch} {H : Hp} (a1 : Int) (k49 : Int → Hp → Option (Int × Hp)) (hk49 : ∀ (x2_49 : Int) (G_49 : Hp), J l M_mm_laysFits (KWi (fun g => fu H g)) (k49 x2_49 G_49) 49 [(2, 201), (0, a1), (0, x2_49), (9, 0), (9, 0)] [] 224 (fu H G_49) (0, 0)) (x2_43 : Int) (x4_43 : Int) (G_43 : Hp) : J l M_mm_laysFits (KWi (fun g => fu H g)) (mm_laysFits_j43 a1 k49 x2_43 x4_43 G_43) 43 [(2, 201), (0, a1), (0, x2_43), (9, 0), (0, x4_43)] [] 224 (fu H G_43) (0, 0) := by
  unfold mm_laysFits_j43
  refine j_aload_n dX11_laysFits_43 rfl rfl ?_
  refine j_iload dX11_laysFits_44 rfl ?_
  refine j_cVWv dX11_laysFits_46 im_mm_laysFit lk_X11_478 rfl (As := [(0, x4_43)]) (S := []) rfl om_201.1 ⟨by decide, by decide⟩ (Nat.le_of_ble_eq_true rfl) (fun r hr => mm_laysFit_ct x4_43 G_43 hr) (fun G46 _ => ?_)
  exact j_mask [true, true, true, false, false] rfl (hk49 x2_43 G46)

set_option maxRecDepth 100000 in
theorem mm_laysFits_L13_J {l : Launch} {H : Hp} (a1 : Int) : ∀ (n_13 : Nat) (x2_13 : Int) (x3_13 : Int) (G_13 : Hp), J l M_mm_laysFits (KWi (fun g => fu H g)) (mm_laysFits_L13 a1  n_13 x2_13 x3_13 G_13) 13 [(2, 201), (0, a1), (0, x2_13), (0, x3_13), (9, 0)] [] 224 (fu H G_13) (0, 0) := by
  intro n_13
  induction n_13 with
  | zero =>
    intro x2_13 x3_13 G_13
    exact j_none
  | succ n_13 ih =>
    intro x2_13 x3_13 G_13
    rw [mm_laysFits_L13]
    refine j_iload_n dX11_laysFits_13 rfl rfl ?_
    refine j_if_eq (tgt := 57) dX11_laysFits_14 rfl (fun h14 => ?_) (fun h14 => ?_)
    · refine j_iload_n dX11_laysFits_57 rfl rfl ?_
      exact j_ireturn dX11_laysFits_58 rfl rfl (Nat.zero_le _) (Nat.zero_le _)
    · refine j_aload_n dX11_laysFits_17 rfl rfl ?_
      refine j_cVWi dX11_laysFits_18 im_mm_readsRow lk_X11_297 rfl (As := []) (S := []) rfl om_201.1 ⟨by decide, by decide⟩ (Nat.le_of_ble_eq_true rfl) (fun r hr => mm_readsRow_ct  G_13 hr) (fun r18 _ => ?_)
      refine j_istore dX11_laysFits_21 (Nat.le_of_ble_eq_true rfl) rfl ?_
      refine j_aload_n dX11_laysFits_23 rfl rfl ?_
      refine j_cVRb dX11_laysFits_24 im_mm_isSo lk_X11_472 rfl (As := []) (S := []) rfl om_201.1 ⟨by decide, by decide⟩ (Nat.le_of_ble_eq_true rfl) (fun r hr => mm_isSo_ct  r18.2 hr) (fun v24 _ => ?_)
      refine j_ifb_eq (tgt := 49) dX11_laysFits_27 rfl (fun h27 => ?_) (fun h27 => ?_)
      · refine j_aload_n dX11_laysFits_30 rfl rfl ?_
        refine j_gim dX11_laysFits_31 gf_X11_460 om_201 ?_
        refine j_iload_n dX11_laysFits_34 rfl rfl ?_
        refine j_icmp_ne (tgt := 43) dX11_laysFits_35 rfl (fun h35 => ?_) (fun h35 => ?_)
        · refine j_aload_n dX11_laysFits_38 rfl rfl ?_
          refine j_cVRi dX11_laysFits_39 im_mm_numberOf lk_X11_475 rfl (As := []) (S := []) rfl om_201.1 ⟨by decide, by decide⟩ (Nat.le_of_ble_eq_true rfl) (fun r hr => mm_numberOf_ct  r18.2 hr) (fun v39 _ => ?_)
          refine j_istore_n dX11_laysFits_42 rfl (Nat.le_of_ble_eq_true rfl) rfl ?_
          exact j_mask [true, true, true, false, true] rfl (mm_laysFits_j43_J a1  (mm_laysFits_j49 a1 (mm_laysFits_L13 a1 n_13)) (mm_laysFits_j49_J a1  (mm_laysFits_L13 a1 n_13) ih) v39 r18.1 r18.2)
        · exact j_mask [true, true, true, false, true] rfl (mm_laysFits_j43_J a1  (mm_laysFits_j49 a1 (mm_laysFits_L13 a1 n_13)) (mm_laysFits_j49_J a1  (mm_laysFits_L13 a1 n_13) ih) x2_13 r18.1 r18.2)
      · exact j_mask [true, true, true, false, false] rfl (mm_laysFits_j49_J a1  (mm_laysFits_L13 a1 n_13) ih x2_13 r18.2)

set_option maxRecDepth 100000 in
theorem mm_laysFits_J {l : Launch} {H : Hp} (a1 : Int) (G : Hp) : J l M_mm_laysFits (KWi (fun g => fu H g)) (mm_laysFits a1 G) 0 [(2, 201), (0, a1), (9, 0), (9, 0), (9, 0)] [] 224 (fu H G) (0, 0) := by
  unfold mm_laysFits
  refine j_aload_n dX11_laysFits_0 rfl rfl ?_
  refine j_cVWv dX11_laysFits_1 im_mm_laysNoFits lk_X11_469 rfl (As := []) (S := []) rfl om_201.1 ⟨by decide, by decide⟩ (Nat.le_of_ble_eq_true rfl) (fun r hr => mm_laysNoFits_ct  G hr) (fun G1 _ => ?_)
  refine j_aload_n dX11_laysFits_4 rfl rfl ?_
  refine j_cVWv dX11_laysFits_5 im_mm_firstRow lk_X11_294 rfl (As := []) (S := []) rfl om_201.1 ⟨by decide, by decide⟩ (Nat.le_of_ble_eq_true rfl) (fun r hr => mm_firstRow_ct  G1 hr) (fun G5 _ => ?_)
  refine j_bipush dX11_laysFits_8 r32_m2 bp_m2 ?_
  refine j_istore_n dX11_laysFits_10 rfl (Nat.le_of_ble_eq_true rfl) rfl ?_
  refine j_iconst dX11_laysFits_11 r32_1 ?_
  refine j_istore_n dX11_laysFits_12 rfl (Nat.le_of_ble_eq_true rfl) rfl ?_
  exact j_mask [true, true, true, true, false] rfl (mm_laysFits_L13_J a1 FU (-2) 1 G5)

set_option maxRecDepth 100000 in
theorem mm_laysFits_ct {l : Launch} {H : Hp} (a1 : Int) (G : Hp) {r : Int × Hp} (h : mm_laysFits a1 G = some r) : Ct l M_mm_laysFits [(2, 201), (0, a1)] 224 (fu H G) ((KWi (fun g => fu H g)) r) :=
  ct_of_J (by decide +kernel) rfl (Nat.le_of_ble_eq_true rfl) (mm_laysFits_J a1 G) h
set_option maxRecDepth 100000 in
theorem mm_askOf_L29_J {l : Launch} {H : Hp} (G : Hp) (x1_29 : Int) (x2_29 : Int) (x3_29 : Int) (k78 : Int → Option (Int)) (hk78 : ∀ (x4_78 : Int), J l M_mm_askOf (KRi (fu H G)) (k78 x4_78) 78 [(2, 201), (0, x1_29), (0, x2_29), (0, x3_29), (0, x4_78), (9, 0)] [] 224 (fu H G) (0, 0)) : ∀ (n_29 : Nat) (x4_29 : Int) (x5_29 : Int), J l M_mm_askOf (KRi (fu H G)) (mm_askOf_L29 G x1_29 x2_29 x3_29 k78 n_29 x4_29 x5_29) 29 [(2, 201), (0, x1_29), (0, x2_29), (0, x3_29), (0, x4_29), (0, x5_29)] [] 224 (fu H G) (0, 0) := by
  intro n_29
  induction n_29 with
  | zero =>
    intro x4_29 x5_29
    exact j_none
  | succ n_29 ih =>
    intro x4_29 x5_29
    rw [mm_askOf_L29]
    refine j_iload dX11_askOf_29 rfl ?_
    refine j_bipush dX11_askOf_31 r32_10 bp_10 ?_
    refine j_icmp_ge (tgt := 78) dX11_askOf_33 rfl (fun h33 => ?_) (fun h33 => ?_)
    · refine j_aload_n dX11_askOf_36 rfl rfl ?_
      refine j_grm dX11_askOf_37 gf_X11_71 om_201 (Or.inl (by decide)) rf_201_44 ?_
      refine j_bipush dX11_askOf_40 r32_10 bp_10 ?_
      refine j_iload_n dX11_askOf_42 rfl rfl ?_
      refine j_imul dX11_askOf_43 ?_
      refine j_iload dX11_askOf_44 rfl ?_
      refine j_iadd dX11_askOf_46 ?_
      refine j_gd (fun h47a h47b => ?_)
      refine j_aim dX11_askOf_47 om_222 rfl h47a h47b ?_
      refine j_iload dX11_askOf_48 rfl ?_
      refine j_icmp_le (tgt := 68) dX11_askOf_50 rfl (fun h50 => ?_) (fun h50 => ?_)
      · refine j_aload_n dX11_askOf_53 rfl rfl ?_
        refine j_grm dX11_askOf_54 gf_X11_71 om_201 (Or.inl (by decide)) rf_201_44 ?_
        refine j_bipush dX11_askOf_57 r32_10 bp_10 ?_
        refine j_iload_n dX11_askOf_59 rfl rfl ?_
        refine j_imul dX11_askOf_60 ?_
        refine j_iload dX11_askOf_61 rfl ?_
        refine j_iadd dX11_askOf_63 ?_
        refine j_gd (fun h64a h64b => ?_)
        refine j_aim dX11_askOf_64 om_222 rfl h64a h64b ?_
        refine j_goto (tgt := 70) dX11_askOf_65 rfl ?_
        refine j_istore dX11_askOf_70 (Nat.le_of_ble_eq_true rfl) rfl ?_
        refine j_iinc dX11_askOf_72 rfl (Nat.le_of_ble_eq_true rfl) rfl ?_
        refine j_goto (tgt := 29) dX11_askOf_75 rfl ?_
        exact j_mask [true, true, true, true, true, true] rfl (ih (G 222 (w32 ((w32 (10 * x3_29)) + x5_29))) (w32 (x5_29 + 1)))
      · refine j_iload dX11_askOf_68 rfl ?_
        refine j_istore dX11_askOf_70 (Nat.le_of_ble_eq_true rfl) rfl ?_
        refine j_iinc dX11_askOf_72 rfl (Nat.le_of_ble_eq_true rfl) rfl ?_
        refine j_goto (tgt := 29) dX11_askOf_75 rfl ?_
        exact j_mask [true, true, true, true, true, true] rfl (ih x4_29 (w32 (x5_29 + 1)))
    · exact j_mask [true, true, true, true, true, false] rfl (hk78 x4_29)

set_option maxRecDepth 100000 in
theorem mm_askOf_L8_J {l : Launch} {H : Hp} (G : Hp) : ∀ (n_8 : Nat) (x1_8 : Int) (x2_8 : Int) (x3_8 : Int), J l M_mm_askOf (KRi (fu H G)) (mm_askOf_L8 G  n_8 x1_8 x2_8 x3_8) 8 [(2, 201), (0, x1_8), (0, x2_8), (0, x3_8), (9, 0), (9, 0)] [] 224 (fu H G) (0, 0) := by
  intro n_8
  induction n_8 with
  | zero =>
    intro x1_8 x2_8 x3_8
    exact j_none
  | succ n_8 ih =>
    intro x1_8 x2_8 x3_8
    rw [mm_askOf_L8]
    refine j_iload_n dX11_askOf_8 rfl rfl ?_
    refine j_aload_n dX11_askOf_9 rfl rfl ?_
    refine j_gim dX11_askOf_10 gf_X11_200 om_201 ?_
    refine j_icmp_ge (tgt := 98) dX11_askOf_13 rfl (fun h13 => ?_) (fun h13 => ?_)
    · refine j_aload_n dX11_askOf_16 rfl rfl ?_
      refine j_gim dX11_askOf_17 gf_X11_460 om_201 ?_
      refine j_if_le (tgt := 98) dX11_askOf_20 rfl (fun h20 => ?_) (fun h20 => ?_)
      · refine j_iconst dX11_askOf_23 r32_0 ?_
        refine j_istore dX11_askOf_24 (Nat.le_of_ble_eq_true rfl) rfl ?_
        refine j_iconst dX11_askOf_26 r32_0 ?_
        refine j_istore dX11_askOf_27 (Nat.le_of_ble_eq_true rfl) rfl ?_
        refine j_mask [true, true, true, true, true, true] rfl (mm_askOf_L29_J G x1_8 x2_8 x3_8 (fun x4_78 => if x2_8 ≤ x4_78 then mm_askOf_L8 G n_8 x1_8 x2_8 (w32 (x3_8 + 1)) else mm_askOf_L8 G n_8 x3_8 x4_78 (w32 (x3_8 + 1))) (fun x4_78 => ?_) FU 0 0)
        refine j_iload dX11_askOf_78 rfl ?_
        refine j_iload_n dX11_askOf_80 rfl rfl ?_
        refine j_icmp_lt (tgt := 87) dX11_askOf_81 rfl (fun h81 => ?_) (fun h81 => ?_)
        · refine j_goto (tgt := 92) dX11_askOf_84 rfl ?_
          refine j_iinc dX11_askOf_92 rfl (Nat.le_of_ble_eq_true rfl) rfl ?_
          refine j_goto (tgt := 8) dX11_askOf_95 rfl ?_
          exact j_mask [true, true, true, true, false, false] rfl (ih x1_8 x2_8 (w32 (x3_8 + 1)))
        · refine j_iload_n dX11_askOf_87 rfl rfl ?_
          refine j_istore_n dX11_askOf_88 rfl (Nat.le_of_ble_eq_true rfl) rfl ?_
          refine j_iload dX11_askOf_89 rfl ?_
          refine j_istore_n dX11_askOf_91 rfl (Nat.le_of_ble_eq_true rfl) rfl ?_
          refine j_iinc dX11_askOf_92 rfl (Nat.le_of_ble_eq_true rfl) rfl ?_
          refine j_goto (tgt := 8) dX11_askOf_95 rfl ?_
          exact j_mask [true, true, true, true, false, false] rfl (ih x3_8 x4_78 (w32 (x3_8 + 1)))
      · refine j_iload_n dX11_askOf_98 rfl rfl ?_
        exact j_ireturn dX11_askOf_99 rfl rfl (Nat.zero_le _) (Nat.zero_le _)
    · refine j_iload_n dX11_askOf_98 rfl rfl ?_
      exact j_ireturn dX11_askOf_99 rfl rfl (Nat.zero_le _) (Nat.zero_le _)

set_option maxRecDepth 100000 in
theorem mm_askOf_J {l : Launch} {H : Hp} (G : Hp) : J l M_mm_askOf (KRi (fu H G)) (mm_askOf  G) 0 [(2, 201), (9, 0), (9, 0), (9, 0), (9, 0), (9, 0)] [] 224 (fu H G) (0, 0) := by
  unfold mm_askOf
  refine j_iconst dX11_askOf_0 r32_m1 ?_
  refine j_istore_n dX11_askOf_1 rfl (Nat.le_of_ble_eq_true rfl) rfl ?_
  refine j_ldcw dX11_askOf_2 cs_X11_311 r32_99999999 ?_
  refine j_istore_n dX11_askOf_5 rfl (Nat.le_of_ble_eq_true rfl) rfl ?_
  refine j_iconst dX11_askOf_6 r32_0 ?_
  refine j_istore_n dX11_askOf_7 rfl (Nat.le_of_ble_eq_true rfl) rfl ?_
  exact j_mask [true, true, true, true, false, false] rfl (mm_askOf_L8_J G FU (-1) 99999999 0)

set_option maxRecDepth 100000 in
theorem mm_askOf_ct {l : Launch} {H : Hp} (G : Hp) {r : Int} (h : mm_askOf  G = some r) : Ct l M_mm_askOf [(2, 201)] 224 (fu H G) ((KRi (fu H G)) r) :=
  ct_of_J (by decide +kernel) rfl (Nat.le_of_ble_eq_true rfl) (mm_askOf_J  G) h
set_option maxRecDepth 100000 in
theorem mm_sureOf_L32_J {l : Launch} {H : Hp} (a1 : Int) (G : Hp) : ∀ (n_32 : Nat) (x2_32 : Int), J l M_mm_sureOf (KRi (fu H G)) (mm_sureOf_L32 a1 G  n_32 x2_32) 32 [(2, 201), (0, a1), (0, x2_32)] [] 224 (fu H G) (0, 0) := by
  intro n_32
  induction n_32 with
  | zero =>
    intro x2_32
    exact j_none
  | succ n_32 ih =>
    intro x2_32
    rw [mm_sureOf_L32]
    refine j_aload_n dX11_sureOf_32 rfl rfl ?_
    refine j_grm dX11_sureOf_33 gf_X11_68 om_201 (Or.inl (by decide)) rf_201_43 ?_
    refine j_iload_n dX11_sureOf_36 rfl rfl ?_
    refine j_gd (fun h37a h37b => ?_)
    refine j_aim dX11_sureOf_37 om_221 rfl h37a h37b ?_
    refine j_iload_n dX11_sureOf_38 rfl rfl ?_
    refine j_ishr dX11_sureOf_39 ?_
    refine j_iconst dX11_sureOf_40 r32_1 ?_
    refine j_icmp_eq (tgt := 50) dX11_sureOf_41 rfl (fun h41 => ?_) (fun h41 => ?_)
    · refine j_iload_n dX11_sureOf_50 rfl rfl ?_
      exact j_ireturn dX11_sureOf_51 rfl rfl (Nat.zero_le _) (Nat.zero_le _)
    · refine j_iinc dX11_sureOf_44 rfl (Nat.le_of_ble_eq_true rfl) rfl ?_
      refine j_goto (tgt := 32) dX11_sureOf_47 rfl ?_
      exact j_mask [true, true, true] rfl (ih (w32 (x2_32 + 1)))

set_option maxRecDepth 100000 in
theorem mm_sureOf_J {l : Launch} {H : Hp} (a1 : Int) (G : Hp) : J l M_mm_sureOf (KRi (fu H G)) (mm_sureOf a1 G) 0 [(2, 201), (0, a1), (9, 0)] [] 224 (fu H G) (0, 0) := by
  unfold mm_sureOf
  refine j_iload_n dX11_sureOf_0 rfl rfl ?_
  refine j_aload_n dX11_sureOf_1 rfl rfl ?_
  refine j_gim dX11_sureOf_2 gf_X11_203 om_201 ?_
  refine j_icmp_ge (tgt := 28) dX11_sureOf_5 rfl (fun h5 => ?_) (fun h5 => ?_)
  · refine j_aload_n dX11_sureOf_8 rfl rfl ?_
    refine j_gim dX11_sureOf_9 gf_X11_460 om_201 ?_
    refine j_if_eq (tgt := 28) dX11_sureOf_12 rfl (fun h12 => ?_) (fun h12 => ?_)
    · refine j_iconst dX11_sureOf_28 r32_m1 ?_
      exact j_ireturn dX11_sureOf_29 rfl rfl (Nat.zero_le _) (Nat.zero_le _)
    · refine j_aload_n dX11_sureOf_15 rfl rfl ?_
      refine j_grm dX11_sureOf_16 gf_X11_68 om_201 (Or.inl (by decide)) rf_201_43 ?_
      refine j_iload_n dX11_sureOf_19 rfl rfl ?_
      refine j_gd (fun h20a h20b => ?_)
      refine j_aim dX11_sureOf_20 om_221 rfl h20a h20b ?_
      refine j_cSRi dX11_sureOf_21 sm_mm_bitsOf lk_X11_334 rfl (As := [(0, G 221 a1)]) (S := []) rfl ⟨by decide, by decide⟩ (Nat.le_of_ble_eq_true rfl) (fun r hr => mm_bitsOf_ct (G 221 a1) G hr) (fun v21 _ => ?_)
      refine j_iconst dX11_sureOf_24 r32_1 ?_
      refine j_icmp_eq (tgt := 30) dX11_sureOf_25 rfl (fun h25 => ?_) (fun h25 => ?_)
      · refine j_iconst dX11_sureOf_30 r32_0 ?_
        refine j_istore_n dX11_sureOf_31 rfl (Nat.le_of_ble_eq_true rfl) rfl ?_
        exact j_mask [true, true, true] rfl (mm_sureOf_L32_J a1 G FU 0)
      · refine j_iconst dX11_sureOf_28 r32_m1 ?_
        exact j_ireturn dX11_sureOf_29 rfl rfl (Nat.zero_le _) (Nat.zero_le _)
  · refine j_iconst dX11_sureOf_28 r32_m1 ?_
    exact j_ireturn dX11_sureOf_29 rfl rfl (Nat.zero_le _) (Nat.zero_le _)

set_option maxRecDepth 100000 in
theorem mm_sureOf_ct {l : Launch} {H : Hp} (a1 : Int) (G : Hp) {r : Int} (h : mm_sureOf a1 G = some r) : Ct l M_mm_sureOf [(2, 201), (0, a1)] 224 (fu H G) ((KRi (fu H G)) r) :=
  ct_of_J (by decide +kernel) rfl (Nat.le_of_ble_eq_true rfl) (mm_sureOf_J a1 G) h
set_option maxRecDepth 100000 in
theorem mm_fits_J {l : Launch} {H : Hp} (a1 : Int) (a2 : Int) (a3 : Int) (G : Hp) : J l M_mm_fits (KWi (fun g => fu H g)) (mm_fits a1 a2 a3 G) 0 [(2, 201), (0, a1), (0, a2), (0, a3), (9, 0)] [] 224 (fu H G) (0, 0) := by
  unfold mm_fits
  refine j_aload_n dX11_fits_0 rfl rfl ?_
  refine j_iload_n dX11_fits_1 rfl rfl ?_
  refine j_cVWb dX11_fits_2 im_mm_isPaper lk_X11_209 rfl (As := [(0, a1)]) (S := []) rfl om_201.1 ⟨by decide, by decide⟩ (Nat.le_of_ble_eq_true rfl) (fun r hr => mm_isPaper_ct a1 G hr) (fun r2 _ => ?_)
  refine j_ifb_eq (tgt := 31) dX11_fits_5 rfl (fun h5 => ?_) (fun h5 => ?_)
  · refine j_aload_n dX11_fits_8 rfl rfl ?_
    refine j_iload_n dX11_fits_9 rfl rfl ?_
    refine j_cVWb dX11_fits_10 im_mm_isLog lk_X11_457 rfl (As := [(0, a2)]) (S := []) rfl om_201.1 ⟨by decide, by decide⟩ (Nat.le_of_ble_eq_true rfl) (fun r hr => mm_isLog_ct a2 r2.2 hr) (fun r10 _ => ?_)
    refine j_ifb_eq (tgt := 31) dX11_fits_13 rfl (fun h13 => ?_) (fun h13 => ?_)
    · refine j_iload_n dX11_fits_16 rfl rfl ?_
      refine j_if_lt (tgt := 31) dX11_fits_17 rfl (fun h17 => ?_) (fun h17 => ?_)
      · refine j_bipush dX11_fits_31 r32_m2 bp_m2 ?_
        exact j_ireturn dX11_fits_33 rfl rfl (Nat.zero_le _) (Nat.zero_le _)
      · refine j_iload_n dX11_fits_20 rfl rfl ?_
        refine j_bipush dX11_fits_21 r32_8 bp_8 ?_
        refine j_bipush dX11_fits_23 r32_9 bp_9 ?_
        refine j_cSRbp dX11_fits_25 sm_mm_isIn lk_X11_132 rfl (As := [(0, a3), (0, 8), (0, 9)]) (S := []) rfl ⟨by decide, by decide⟩ (Nat.le_of_ble_eq_true rfl) (mm_isIn_ct a3 8 9) ?_
        refine j_ifb_eq (tgt := 34) dX11_fits_28 rfl (fun h28 => ?_) (fun h28 => ?_)
        · refine j_bipush dX11_fits_31 r32_m2 bp_m2 ?_
          exact j_ireturn dX11_fits_33 rfl rfl (Nat.zero_le _) (Nat.zero_le _)
        · refine j_aload_n dX11_fits_34 rfl rfl ?_
          refine j_iload_n dX11_fits_35 rfl rfl ?_
          refine j_bipush dX11_fits_36 r32_10 bp_10 ?_
          refine j_isub dX11_fits_38 ?_
          refine j_cVWi dX11_fits_39 im_mm_laysFits lk_X11_481 rfl (As := [(0, w32 (a3 - 10))]) (S := []) rfl om_201.1 ⟨by decide, by decide⟩ (Nat.le_of_ble_eq_true rfl) (fun r hr => mm_laysFits_ct (w32 (a3 - 10)) r10.2 hr) (fun r39 _ => ?_)
          refine j_istore dX11_fits_42 (Nat.le_of_ble_eq_true rfl) rfl ?_
          refine j_iload_n dX11_fits_44 rfl rfl ?_
          refine j_if_ne (tgt := 53) dX11_fits_45 rfl (fun h45 => ?_) (fun h45 => ?_)
          · refine j_aload_n dX11_fits_48 rfl rfl ?_
            refine j_gim dX11_fits_49 gf_X11_460 om_201 ?_
            exact j_ireturn dX11_fits_52 rfl rfl (Nat.zero_le _) (Nat.zero_le _)
          · refine j_iload_n dX11_fits_53 rfl rfl ?_
            refine j_iconst dX11_fits_54 r32_1 ?_
            refine j_icmp_ne (tgt := 63) dX11_fits_55 rfl (fun h55 => ?_) (fun h55 => ?_)
            · refine j_aload_n dX11_fits_58 rfl rfl ?_
              refine j_cVRi dX11_fits_59 im_mm_askOf lk_X11_484 rfl (As := []) (S := []) rfl om_201.1 ⟨by decide, by decide⟩ (Nat.le_of_ble_eq_true rfl) (fun r hr => mm_askOf_ct  r39.2 hr) (fun v59 _ => ?_)
              exact j_ireturn dX11_fits_62 rfl rfl (Nat.zero_le _) (Nat.zero_le _)
            · refine j_iload_n dX11_fits_63 rfl rfl ?_
              refine j_bipush dX11_fits_64 r32_8 bp_8 ?_
              refine j_icmp_ge (tgt := 79) dX11_fits_66 rfl (fun h66 => ?_) (fun h66 => ?_)
              · refine j_aload_n dX11_fits_69 rfl rfl ?_
                refine j_iload_n dX11_fits_70 rfl rfl ?_
                refine j_iconst dX11_fits_71 r32_2 ?_
                refine j_isub dX11_fits_72 ?_
                refine j_cVRi dX11_fits_73 im_mm_sureOf lk_X11_487 rfl (As := [(0, w32 (a3 - 2))]) (S := []) rfl om_201.1 ⟨by decide, by decide⟩ (Nat.le_of_ble_eq_true rfl) (fun r hr => mm_sureOf_ct (w32 (a3 - 2)) r39.2 hr) (fun v73 _ => ?_)
                refine j_goto (tgt := 81) dX11_fits_76 rfl ?_
                exact j_ireturn dX11_fits_81 rfl rfl (Nat.zero_le _) (Nat.zero_le _)
              · refine j_iload dX11_fits_79 rfl ?_
                exact j_ireturn dX11_fits_81 rfl rfl (Nat.zero_le _) (Nat.zero_le _)
    · refine j_bipush dX11_fits_31 r32_m2 bp_m2 ?_
      exact j_ireturn dX11_fits_33 rfl rfl (Nat.zero_le _) (Nat.zero_le _)
  · refine j_bipush dX11_fits_31 r32_m2 bp_m2 ?_
    exact j_ireturn dX11_fits_33 rfl rfl (Nat.zero_le _) (Nat.zero_le _)

set_option maxRecDepth 100000 in
theorem mm_fits_ct {l : Launch} {H : Hp} (a1 : Int) (a2 : Int) (a3 : Int) (G : Hp) {r : Int × Hp} (h : mm_fits a1 a2 a3 G = some r) : Ct l M_mm_fits [(2, 201), (0, a1), (0, a2), (0, a3)] 224 (fu H G) ((KWi (fun g => fu H g)) r) :=
  ct_of_J (by decide +kernel) rfl (Nat.le_of_ble_eq_true rfl) (mm_fits_J a1 a2 a3 G) h
set_option maxRecDepth 100000 in
theorem mm_ahead_J {l : Launch} {H : Hp} (a1 : Int) (a2 : Int) (a3 : Int) (a4 : Int) (a5 : Int) (G : Hp) : J l M_mm_ahead (KWi (fun g => fu H g)) (mm_ahead a1 a2 a3 a4 a5 G) 0 [(2, 201), (0, a1), (0, a2), (0, a3), (0, a4), (0, a5)] [] 224 (fu H G) (0, 0) := by
  unfold mm_ahead
  refine j_aload_n dX11_ahead_0 rfl rfl ?_
  refine j_iload_n dX11_ahead_1 rfl rfl ?_
  refine j_cVWb dX11_ahead_2 im_mm_isPaper lk_X11_209 rfl (As := [(0, a1)]) (S := []) rfl om_201.1 ⟨by decide, by decide⟩ (Nat.le_of_ble_eq_true rfl) (fun r hr => mm_isPaper_ct a1 G hr) (fun r2 _ => ?_)
  refine j_ifb_eq (tgt := 39) dX11_ahead_5 rfl (fun h5 => ?_) (fun h5 => ?_)
  · refine j_aload_n dX11_ahead_8 rfl rfl ?_
    refine j_iload_n dX11_ahead_9 rfl rfl ?_
    refine j_cVWb dX11_ahead_10 im_mm_isLog lk_X11_457 rfl (As := [(0, a2)]) (S := []) rfl om_201.1 ⟨by decide, by decide⟩ (Nat.le_of_ble_eq_true rfl) (fun r hr => mm_isLog_ct a2 r2.2 hr) (fun r10 _ => ?_)
    refine j_ifb_eq (tgt := 39) dX11_ahead_13 rfl (fun h13 => ?_) (fun h13 => ?_)
    · refine j_aload_n dX11_ahead_16 rfl rfl ?_
      refine j_iload_n dX11_ahead_17 rfl rfl ?_
      refine j_cVRb dX11_ahead_18 im_mm_isReader lk_X11_218 rfl (As := [(0, a3)]) (S := []) rfl om_201.1 ⟨by decide, by decide⟩ (Nat.le_of_ble_eq_true rfl) (fun r hr => mm_isReader_ct a3 r10.2 hr) (fun v18 _ => ?_)
      refine j_ifb_eq (tgt := 39) dX11_ahead_21 rfl (fun h21 => ?_) (fun h21 => ?_)
      · refine j_aload_n dX11_ahead_24 rfl rfl ?_
        refine j_iload dX11_ahead_25 rfl ?_
        refine j_cVRb dX11_ahead_27 im_mm_isReader lk_X11_218 rfl (As := [(0, a4)]) (S := []) rfl om_201.1 ⟨by decide, by decide⟩ (Nat.le_of_ble_eq_true rfl) (fun r hr => mm_isReader_ct a4 r10.2 hr) (fun v27 _ => ?_)
        refine j_ifb_eq (tgt := 39) dX11_ahead_30 rfl (fun h30 => ?_) (fun h30 => ?_)
        · refine j_iload_n dX11_ahead_33 rfl rfl ?_
          refine j_iload dX11_ahead_34 rfl ?_
          refine j_icmp_ne (tgt := 41) dX11_ahead_36 rfl (fun h36 => ?_) (fun h36 => ?_)
          · refine j_iconst dX11_ahead_39 r32_m1 ?_
            exact j_ireturn dX11_ahead_40 rfl rfl (Nat.zero_le _) (Nat.zero_le _)
          · refine j_aload_n dX11_ahead_41 rfl rfl ?_
            refine j_iconst dX11_ahead_42 r32_m1 ?_
            refine j_cVWi dX11_ahead_43 im_mm_laysFits lk_X11_481 rfl (As := [(0, (-1))]) (S := []) rfl om_201.1 ⟨by decide, by decide⟩ (Nat.le_of_ble_eq_true rfl) (fun r hr => mm_laysFits_ct (-1) r10.2 hr) (fun r43 _ => ?_)
            refine j_pop dX11_ahead_46 (by decide) ?_
            refine j_aload_n dX11_ahead_47 rfl rfl ?_
            refine j_gim dX11_ahead_48 gf_X11_460 om_201 ?_
            refine j_if_ne (tgt := 58) dX11_ahead_51 rfl (fun h51 => ?_) (fun h51 => ?_)
            · refine j_iconst dX11_ahead_54 r32_m1 ?_
              refine j_goto (tgt := 82) dX11_ahead_55 rfl ?_
              exact j_ireturn dX11_ahead_82 rfl rfl (Nat.zero_le _) (Nat.zero_le _)
            · refine j_aload_n dX11_ahead_58 rfl rfl ?_
              refine j_grm dX11_ahead_59 gf_X11_74 om_201 (Or.inl (by decide)) rf_201_45 ?_
              refine j_bipush dX11_ahead_62 r32_6 bp_6 ?_
              refine j_iload_n dX11_ahead_64 rfl rfl ?_
              refine j_imul dX11_ahead_65 ?_
              refine j_iload dX11_ahead_66 rfl ?_
              refine j_iadd dX11_ahead_68 ?_
              refine j_gd (fun h69a h69b => ?_)
              refine j_aim dX11_ahead_69 om_223 rfl h69a h69b ?_
              refine j_i2l dX11_ahead_70 ?_
              refine j_aload_n dX11_ahead_71 rfl rfl ?_
              refine j_gim dX11_ahead_72 gf_X11_460 om_201 ?_
              refine j_i2l dX11_ahead_75 ?_
              refine j_iload dX11_ahead_76 rfl ?_
              refine j_cSRl dX11_ahead_78 sm_mm_parted lk_X11_349 rfl (As := [(1, r43.2 223 (w32 ((w32 (6 * a3)) + a4))), (1, r43.2 201 40), (0, a5)]) (S := []) rfl ⟨by decide, by decide⟩ (Nat.le_of_ble_eq_true rfl) (fun r hr => mm_parted_ct (r43.2 223 (w32 ((w32 (6 * a3)) + a4))) (r43.2 201 40) a5 r43.2 hr) (fun v78 _ => ?_)
              refine j_l2i dX11_ahead_81 ?_
              exact j_ireturn dX11_ahead_82 rfl rfl (Nat.zero_le _) (Nat.zero_le _)
        · refine j_iconst dX11_ahead_39 r32_m1 ?_
          exact j_ireturn dX11_ahead_40 rfl rfl (Nat.zero_le _) (Nat.zero_le _)
      · refine j_iconst dX11_ahead_39 r32_m1 ?_
        exact j_ireturn dX11_ahead_40 rfl rfl (Nat.zero_le _) (Nat.zero_le _)
    · refine j_iconst dX11_ahead_39 r32_m1 ?_
      exact j_ireturn dX11_ahead_40 rfl rfl (Nat.zero_le _) (Nat.zero_le _)
  · refine j_iconst dX11_ahead_39 r32_m1 ?_
    exact j_ireturn dX11_ahead_40 rfl rfl (Nat.zero_le _) (Nat.zero_le _)

set_option maxRecDepth 100000 in
theorem mm_ahead_ct {l : Launch} {H : Hp} (a1 : Int) (a2 : Int) (a3 : Int) (a4 : Int) (a5 : Int) (G : Hp) {r : Int × Hp} (h : mm_ahead a1 a2 a3 a4 a5 G = some r) : Ct l M_mm_ahead [(2, 201), (0, a1), (0, a2), (0, a3), (0, a4), (0, a5)] 224 (fu H G) ((KWi (fun g => fu H g)) r) :=
  ct_of_J (by decide +kernel) rfl (Nat.le_of_ble_eq_true rfl) (mm_ahead_J a1 a2 a3 a4 a5 G) h
set_option maxRecDepth 100000 in
theorem mm_firsts_J {l : Launch} {H : Hp} (a1 : Int) (a2 : Int) (a3 : Int) (G : Hp) : J l M_mm_firsts (KWi (fun g => fu H g)) (mm_firsts a1 a2 a3 G) 0 [(2, 201), (0, a1), (0, a2), (0, a3)] [] 224 (fu H G) (0, 0) := by
  unfold mm_firsts
  refine j_aload_n dX11_firsts_0 rfl rfl ?_
  refine j_iload_n dX11_firsts_1 rfl rfl ?_
  refine j_cVWb dX11_firsts_2 im_mm_isPaper lk_X11_209 rfl (As := [(0, a1)]) (S := []) rfl om_201.1 ⟨by decide, by decide⟩ (Nat.le_of_ble_eq_true rfl) (fun r hr => mm_isPaper_ct a1 G hr) (fun r2 _ => ?_)
  refine j_ifb_eq (tgt := 16) dX11_firsts_5 rfl (fun h5 => ?_) (fun h5 => ?_)
  · refine j_aload_n dX11_firsts_8 rfl rfl ?_
    refine j_iload_n dX11_firsts_9 rfl rfl ?_
    refine j_cVWb dX11_firsts_10 im_mm_isLog lk_X11_457 rfl (As := [(0, a2)]) (S := []) rfl om_201.1 ⟨by decide, by decide⟩ (Nat.le_of_ble_eq_true rfl) (fun r hr => mm_isLog_ct a2 r2.2 hr) (fun r10 _ => ?_)
    refine j_ifb_ne (tgt := 19) dX11_firsts_13 rfl (fun h13 => ?_) (fun h13 => ?_)
    · refine j_aload_n dX11_firsts_19 rfl rfl ?_
      refine j_iconst dX11_firsts_20 r32_m1 ?_
      refine j_cVWi dX11_firsts_21 im_mm_laysFits lk_X11_481 rfl (As := [(0, (-1))]) (S := []) rfl om_201.1 ⟨by decide, by decide⟩ (Nat.le_of_ble_eq_true rfl) (fun r hr => mm_laysFits_ct (-1) r10.2 hr) (fun r21 _ => ?_)
      refine j_pop dX11_firsts_24 (by decide) ?_
      refine j_iload_n dX11_firsts_25 rfl rfl ?_
      refine j_ite _ (fun hc26_0 => ?_) (fun hc26_0 => ?_)
      · refine j_swIn (i := 0) (tgt := 56) dX11_firsts_26 (hc26_0.trans (by decide)) (by decide) rfl rfl ?_
        refine j_aload_n dX11_firsts_56 rfl rfl ?_
        refine j_grm dX11_firsts_57 gf_X11_68 om_201 (Or.inl (by decide)) rf_201_43 ?_
        refine j_iconst dX11_firsts_60 r32_0 ?_
        refine j_aim dX11_firsts_61 om_221 rfl (by decide) (by decide) ?_
        exact j_ireturn dX11_firsts_62 rfl rfl (Nat.zero_le _) (Nat.zero_le _)
      · refine j_ite _ (fun hc26_1 => ?_) (fun hc26_1 => ?_)
        · refine j_swIn (i := 1) (tgt := 63) dX11_firsts_26 (hc26_1.trans (by decide)) (by decide) rfl rfl ?_
          refine j_aload_n dX11_firsts_63 rfl rfl ?_
          refine j_gim dX11_firsts_64 gf_X11_203 om_201 ?_
          refine j_if_ne (tgt := 74) dX11_firsts_67 rfl (fun h67 => ?_) (fun h67 => ?_)
          · refine j_iconst dX11_firsts_70 r32_0 ?_
            refine j_goto (tgt := 85) dX11_firsts_71 rfl ?_
            exact j_ireturn dX11_firsts_85 rfl rfl (Nat.zero_le _) (Nat.zero_le _)
          · refine j_aload_n dX11_firsts_74 rfl rfl ?_
            refine j_grm dX11_firsts_75 gf_X11_68 om_201 (Or.inl (by decide)) rf_201_43 ?_
            refine j_aload_n dX11_firsts_78 rfl rfl ?_
            refine j_gim dX11_firsts_79 gf_X11_203 om_201 ?_
            refine j_iconst dX11_firsts_82 r32_1 ?_
            refine j_isub dX11_firsts_83 ?_
            refine j_gd (fun h84a h84b => ?_)
            refine j_aim dX11_firsts_84 om_221 rfl h84a h84b ?_
            exact j_ireturn dX11_firsts_85 rfl rfl (Nat.zero_le _) (Nat.zero_le _)
        · refine j_ite _ (fun hc26_2 => ?_) (fun hc26_2 => ?_)
          · refine j_swIn (i := 2) (tgt := 86) dX11_firsts_26 (hc26_2.trans (by decide)) (by decide) rfl rfl ?_
            refine j_aload_n dX11_firsts_86 rfl rfl ?_
            refine j_gim dX11_firsts_87 gf_X11_463 om_201 ?_
            exact j_ireturn dX11_firsts_90 rfl rfl (Nat.zero_le _) (Nat.zero_le _)
          · refine j_ite _ (fun hc26_3 => ?_) (fun hc26_3 => ?_)
            · refine j_swIn (i := 3) (tgt := 91) dX11_firsts_26 (hc26_3.trans (by decide)) (by decide) rfl rfl ?_
              refine j_aload_n dX11_firsts_91 rfl rfl ?_
              refine j_gim dX11_firsts_92 gf_X11_466 om_201 ?_
              exact j_ireturn dX11_firsts_95 rfl rfl (Nat.zero_le _) (Nat.zero_le _)
            · refine j_swOut (tgt := 96) dX11_firsts_26 (by omega) rfl ?_
              refine j_bipush dX11_firsts_96 r32_m2 bp_m2 ?_
              exact j_ireturn dX11_firsts_98 rfl rfl (Nat.zero_le _) (Nat.zero_le _)
    · refine j_bipush dX11_firsts_16 r32_m2 bp_m2 ?_
      exact j_ireturn dX11_firsts_18 rfl rfl (Nat.zero_le _) (Nat.zero_le _)
  · refine j_bipush dX11_firsts_16 r32_m2 bp_m2 ?_
    exact j_ireturn dX11_firsts_18 rfl rfl (Nat.zero_le _) (Nat.zero_le _)

set_option maxRecDepth 100000 in
theorem mm_firsts_ct {l : Launch} {H : Hp} (a1 : Int) (a2 : Int) (a3 : Int) (G : Hp) {r : Int × Hp} (h : mm_firsts a1 a2 a3 G = some r) : Ct l M_mm_firsts [(2, 201), (0, a1), (0, a2), (0, a3)] 224 (fu H G) ((KWi (fun g => fu H g)) r) :=
  ct_of_J (by decide +kernel) rfl (Nat.le_of_ble_eq_true rfl) (mm_firsts_J a1 a2 a3 G) h
set_option maxRecDepth 100000 in
theorem mm_below_J {l : Launch} {H : Hp} (a1 : Int) (G : Hp) : J l M_mm_below (KWi (fun g => fu H g)) (mm_below a1 G) 0 [(2, 201), (0, a1)] [] 224 (fu H G) (0, 0) := by
  unfold mm_below
  refine j_aload_n dX11_below_0 rfl rfl ?_
  refine j_aload_n dX11_below_1 rfl rfl ?_
  refine j_gim dX11_below_2 gf_X11_490 om_201 ?_
  refine j_ldcw dX11_below_5 cs_X11_493 r32_1103515245 ?_
  refine j_imul dX11_below_8 ?_
  refine j_sipush dX11_below_9 r32_12345 sp_12345 ?_
  refine j_iadd dX11_below_12 ?_
  refine j_pim dX11_below_13 gf_X11_490 po_11_46 om_201 (nf_11_46 _) ?_
  refine j_aload_n dX11_below_16 rfl rfl ?_
  refine j_gim dX11_below_17 gf_X11_490 om_201 ?_
  refine j_bipush dX11_below_20 r32_16 bp_16 ?_
  refine j_iushr dX11_below_22 ?_
  refine j_iload_n dX11_below_23 rfl rfl ?_
  refine j_nz (fun hz24 => ?_)
  refine j_irem dX11_below_24 hz24 ?_
  exact j_ireturn dX11_below_25 rfl rfl (Nat.zero_le _) (Nat.zero_le _)

set_option maxRecDepth 100000 in
theorem mm_below_ct {l : Launch} {H : Hp} (a1 : Int) (G : Hp) {r : Int × Hp} (h : mm_below a1 G = some r) : Ct l M_mm_below [(2, 201), (0, a1)] 224 (fu H G) ((KWi (fun g => fu H g)) r) :=
  ct_of_J (by decide +kernel) rfl (Nat.le_of_ble_eq_true rfl) (mm_below_J a1 G) h
set_option maxRecDepth 100000 in
theorem mm_draws_j182_J {l : Launch} {H : Hp} (x2_182 : Int) (x3_182 : Int) (x4_182 : Int) (G_182 : Hp) : J l M_mm_draws (KWv (fun g => fu H g)) (mm_draws_j182   x2_182 x3_182 x4_182 G_182) 182 [(2, 201), (9, 0), (0, x2_182), (0, x3_182), (0, x4_182)] [] 224 (fu H G_182) (0, 0) := by
  unfold mm_draws_j182
  refine j_aload_n dX11_draws_182 rfl rfl ?_
  refine j_iload_n dX11_draws_183 rfl rfl ?_
  refine j_iload_n dX11_draws_184 rfl rfl ?_
  refine j_iload dX11_draws_185 rfl ?_
  refine j_cVWb dX11_draws_187 im_mm_does lk_X11_439 rfl (As := [(0, x2_182), (0, x3_182), (0, x4_182)]) (S := []) rfl om_201.1 ⟨by decide, by decide⟩ (Nat.le_of_ble_eq_true rfl) (fun r hr => mm_does_ct x2_182 x3_182 x4_182 G_182 hr) (fun r187 _ => ?_)
  refine j_pop dX11_draws_190 (by decide) ?_
  exact j_return dX11_draws_191 rfl rfl (Nat.zero_le _) (Nat.zero_le _)

set_option maxRecDepth 100000 in
theorem mm_draws_j164_J {l : Launch} {H : Hp} (k182 : Int → Int → Int → Hp → Option (Hp)) (hk182 : ∀ (x2_182 : Int) (x3_182 : Int) (x4_182 : Int) (G_182 : Hp), J l M_mm_draws (KWv (fun g => fu H g)) (k182 x2_182 x3_182 x4_182 G_182) 182 [(2, 201), (9, 0), (0, x2_182), (0, x3_182), (0, x4_182)] [] 224 (fu H G_182) (0, 0)) (x2_164 : Int) (x3_164 : Int) (G_164 : Hp) : J l M_mm_draws (KWv (fun g => fu H g)) (mm_draws_j164  k182 x2_164 x3_164 G_164) 164 [(2, 201), (9, 0), (0, x2_164), (0, x3_164), (9, 0)] [] 224 (fu H G_164) (0, 0) := by
  unfold mm_draws_j164
  refine j_iload_n dX11_draws_164 rfl rfl ?_
  refine j_iconst dX11_draws_165 r32_1 ?_
  refine j_iadd dX11_draws_166 ?_
  refine j_aload_n dX11_draws_167 rfl rfl ?_
  refine j_bipush dX11_draws_168 r32_9 bp_9 ?_
  refine j_cVWi dX11_draws_170 im_mm_below lk_X11_494 rfl (As := [(0, 9)]) (S := [(0, w32 (x3_164 + 1))]) rfl om_201.1 ⟨by decide, by decide⟩ (Nat.le_of_ble_eq_true rfl) (fun r hr => mm_below_ct 9 G_164 hr) (fun r170 _ => ?_)
  refine j_iadd dX11_draws_173 ?_
  refine j_bipush dX11_draws_174 r32_10 bp_10 ?_
  refine j_irem dX11_draws_176 (by decide) ?_
  refine j_istore dX11_draws_177 (Nat.le_of_ble_eq_true rfl) rfl ?_
  refine j_goto (tgt := 182) dX11_draws_179 rfl ?_
  exact j_mask [true, false, true, true, true] rfl (hk182 x2_164 x3_164 (irem (w32 ((w32 (x3_164 + 1)) + r170.1)) 10) r170.2)

set_option maxRecDepth 100000 in
theorem mm_draws_j103_J {l : Launch} {H : Hp} (x2_103 : Int) (s0_103 : Int) (G_103 : Hp) : J l M_mm_draws (KWv (fun g => fu H g)) (mm_draws_j103   x2_103 s0_103 G_103) 103 [(2, 201), (9, 0), (0, x2_103), (9, 0), (9, 0)] [(0, s0_103)] 224 (fu H G_103) (0, 0) := by
  unfold mm_draws_j103
  refine j_istore_n dX11_draws_103 rfl (Nat.le_of_ble_eq_true rfl) rfl ?_
  refine j_iconst dX11_draws_104 r32_m1 ?_
  refine j_istore dX11_draws_105 (Nat.le_of_ble_eq_true rfl) rfl ?_
  refine j_iload_n dX11_draws_107 rfl rfl ?_
  refine j_ite _ (fun hc108_1 => ?_) (fun hc108_1 => ?_)
  · refine j_swIn (i := 0) (tgt := 140) dX11_draws_108 (hc108_1.trans (by decide)) (by decide) rfl rfl ?_
    refine j_aload_n dX11_draws_140 rfl rfl ?_
    refine j_bipush dX11_draws_141 r32_10 bp_10 ?_
    refine j_cVWi dX11_draws_143 im_mm_below lk_X11_494 rfl (As := [(0, 10)]) (S := []) rfl om_201.1 ⟨by decide, by decide⟩ (Nat.le_of_ble_eq_true rfl) (fun r hr => mm_below_ct 10 G_103 hr) (fun r143 _ => ?_)
    refine j_istore dX11_draws_146 (Nat.le_of_ble_eq_true rfl) rfl ?_
    refine j_goto (tgt := 182) dX11_draws_148 rfl ?_
    exact j_mask [true, false, true, true, true] rfl (mm_draws_j182_J x2_103 s0_103 r143.1 r143.2)
  · refine j_ite _ (fun hc108_2 => ?_) (fun hc108_2 => ?_)
    · refine j_swIn (i := 1) (tgt := 151) dX11_draws_108 (hc108_2.trans (by decide)) (by decide) rfl rfl ?_
      refine j_aload_n dX11_draws_151 rfl rfl ?_
      refine j_aload_n dX11_draws_152 rfl rfl ?_
      refine j_gim dX11_draws_153 gf_X11_200 om_201 ?_
      refine j_cVWi dX11_draws_156 im_mm_below lk_X11_494 rfl (As := [(0, G_103 201 13)]) (S := []) rfl om_201.1 ⟨by decide, by decide⟩ (Nat.le_of_ble_eq_true rfl) (fun r hr => mm_below_ct (G_103 201 13) G_103 hr) (fun r156 _ => ?_)
      refine j_istore dX11_draws_159 (Nat.le_of_ble_eq_true rfl) rfl ?_
      refine j_goto (tgt := 182) dX11_draws_161 rfl ?_
      exact j_mask [true, false, true, true, true] rfl (mm_draws_j182_J x2_103 s0_103 r156.1 r156.2)
    · refine j_ite _ (fun hc108_3 => ?_) (fun hc108_3 => ?_)
      · refine j_swIn (i := 2) (tgt := 164) dX11_draws_108 (hc108_3.trans (by decide)) (by decide) rfl rfl ?_
        exact j_mask [true, false, true, true, false] rfl (mm_draws_j164_J   mm_draws_j182 mm_draws_j182_J x2_103 s0_103 G_103)
      · refine j_ite _ (fun hc108_4 => ?_) (fun hc108_4 => ?_)
        · refine j_swIn (i := 3) (tgt := 164) dX11_draws_108 (hc108_4.trans (by decide)) (by decide) rfl rfl ?_
          exact j_mask [true, false, true, true, false] rfl (mm_draws_j164_J   mm_draws_j182 mm_draws_j182_J x2_103 s0_103 G_103)
        · refine j_swOut (tgt := 182) dX11_draws_108 (by omega) rfl ?_
          exact j_mask [true, false, true, true, true] rfl (mm_draws_j182_J x2_103 s0_103 (-1) G_103)

set_option maxRecDepth 100000 in
theorem mm_draws_j100_J {l : Launch} {H : Hp} (k103 : Int → Int → Hp → Option (Hp)) (hk103 : ∀ (x2_103 : Int) (s0_103 : Int) (G_103 : Hp), J l M_mm_draws (KWv (fun g => fu H g)) (k103 x2_103 s0_103 G_103) 103 [(2, 201), (9, 0), (0, x2_103), (9, 0), (9, 0)] [(0, s0_103)] 224 (fu H G_103) (0, 0)) (x2_100 : Int) (s0_100 : Int) (G_100 : Hp) : J l M_mm_draws (KWv (fun g => fu H g)) (mm_draws_j100  k103 x2_100 s0_100 G_100) 100 [(2, 201), (9, 0), (0, x2_100), (9, 0), (9, 0)] [(0, s0_100), (2, 201)] 224 (fu H G_100) (0, 0) := by
  unfold mm_draws_j100
  refine j_cVWi dX11_draws_100 im_mm_below lk_X11_494 rfl (As := [(0, s0_100)]) (S := []) rfl om_201.1 ⟨by decide, by decide⟩ (Nat.le_of_ble_eq_true rfl) (fun r hr => mm_below_ct s0_100 G_100 hr) (fun r100 _ => ?_)
  exact j_mask [true, false, true, false, false] rfl (hk103 x2_100 r100.1 r100.2)

set_option maxRecDepth 100000 in
theorem mm_draws_j64_J {l : Launch} {H : Hp} (x2_64 : Int) (G_64 : Hp) : J l M_mm_draws (KWv (fun g => fu H g)) (mm_draws_j64   x2_64 G_64) 64 [(2, 201), (9, 0), (0, x2_64), (9, 0), (9, 0)] [] 224 (fu H G_64) (0, 0) := by
  unfold mm_draws_j64
  refine j_iload_n dX11_draws_64 rfl rfl ?_
  refine j_iconst dX11_draws_65 r32_5 ?_
  refine j_icmp_ne (tgt := 73) dX11_draws_66 rfl (fun h66 => ?_) (fun h66 => ?_)
  · refine j_iconst dX11_draws_69 r32_m1 ?_
    refine j_goto (tgt := 103) dX11_draws_70 rfl ?_
    exact j_mask [true, false, true, false, false] rfl (mm_draws_j103_J x2_64 (-1) G_64)
  · refine j_aload_n dX11_draws_73 rfl rfl ?_
    refine j_iload_n dX11_draws_74 rfl rfl ?_
    refine j_iconst dX11_draws_75 r32_1 ?_
    refine j_icmp_ne (tgt := 86) dX11_draws_76 rfl (fun h76 => ?_) (fun h76 => ?_)
    · refine j_aload_n dX11_draws_79 rfl rfl ?_
      refine j_gim dX11_draws_80 gf_X11_200 om_201 ?_
      refine j_goto (tgt := 100) dX11_draws_83 rfl ?_
      exact j_mask [true, false, true, false, false] rfl (mm_draws_j100_J   mm_draws_j103 mm_draws_j103_J x2_64 (G_64 201 13) G_64)
    · refine j_iload_n dX11_draws_86 rfl rfl ?_
      refine j_iconst dX11_draws_87 r32_3 ?_
      refine j_icmp_ge (tgt := 98) dX11_draws_88 rfl (fun h88 => ?_) (fun h88 => ?_)
      · refine j_aload_n dX11_draws_91 rfl rfl ?_
        refine j_gim dX11_draws_92 gf_X11_203 om_201 ?_
        refine j_goto (tgt := 100) dX11_draws_95 rfl ?_
        exact j_mask [true, false, true, false, false] rfl (mm_draws_j100_J   mm_draws_j103 mm_draws_j103_J x2_64 (G_64 201 14) G_64)
      · refine j_bipush dX11_draws_98 r32_10 bp_10 ?_
        exact j_mask [true, false, true, false, false] rfl (mm_draws_j100_J   mm_draws_j103 mm_draws_j103_J x2_64 10 G_64)

set_option maxRecDepth 100000 in
theorem mm_draws_j56_J {l : Launch} {H : Hp} (k64 : Int → Hp → Option (Hp)) (hk64 : ∀ (x2_64 : Int) (G_64 : Hp), J l M_mm_draws (KWv (fun g => fu H g)) (k64 x2_64 G_64) 64 [(2, 201), (9, 0), (0, x2_64), (9, 0), (9, 0)] [] 224 (fu H G_64) (0, 0)) (x2_56 : Int) (G_56 : Hp) : J l M_mm_draws (KWv (fun g => fu H g)) (mm_draws_j56  k64 x2_56 G_56) 56 [(2, 201), (9, 0), (0, x2_56), (9, 0), (9, 0)] [] 224 (fu H G_56) (0, 0) := by
  unfold mm_draws_j56
  refine j_aload_n dX11_draws_56 rfl rfl ?_
  refine j_gim dX11_draws_57 gf_X11_200 om_201 ?_
  refine j_if_ne (tgt := 64) dX11_draws_60 rfl (fun h60 => ?_) (fun h60 => ?_)
  · exact j_return dX11_draws_63 rfl rfl (Nat.zero_le _) (Nat.zero_le _)
  · exact j_mask [true, false, true, false, false] rfl (hk64 x2_56 G_56)

set_option maxRecDepth 100000 in
theorem mm_draws_j46_J {l : Launch} {H : Hp} (x2_46 : Int) (G_46 : Hp) : J l M_mm_draws (KWv (fun g => fu H g)) (mm_draws_j46   x2_46 G_46) 46 [(2, 201), (9, 0), (0, x2_46), (9, 0), (9, 0)] [] 224 (fu H G_46) (0, 0) := by
  unfold mm_draws_j46
  refine j_iload_n dX11_draws_46 rfl rfl ?_
  refine j_iconst dX11_draws_47 r32_1 ?_
  refine j_icmp_eq (tgt := 56) dX11_draws_48 rfl (fun h48 => ?_) (fun h48 => ?_)
  · exact j_mask [true, false, true, false, false] rfl (mm_draws_j56_J   mm_draws_j64 mm_draws_j64_J x2_46 G_46)
  · refine j_iload_n dX11_draws_51 rfl rfl ?_
    refine j_iconst dX11_draws_52 r32_2 ?_
    refine j_icmp_ne (tgt := 64) dX11_draws_53 rfl (fun h53 => ?_) (fun h53 => ?_)
    · exact j_mask [true, false, true, false, false] rfl (mm_draws_j56_J   mm_draws_j64 mm_draws_j64_J x2_46 G_46)
    · exact j_mask [true, false, true, false, false] rfl (mm_draws_j64_J x2_46 G_46)

set_option maxRecDepth 100000 in
theorem mm_draws_j39_J {l : Launch} {H : Hp} (k46 : Int → Hp → Option (Hp)) (hk46 : ∀ (x2_46 : Int) (G_46 : Hp), J l M_mm_draws (KWv (fun g => fu H g)) (k46 x2_46 G_46) 46 [(2, 201), (9, 0), (0, x2_46), (9, 0), (9, 0)] [] 224 (fu H G_46) (0, 0)) (x2_39 : Int) (G_39 : Hp) : J l M_mm_draws (KWv (fun g => fu H g)) (mm_draws_j39  k46 x2_39 G_39) 39 [(2, 201), (9, 0), (0, x2_39), (9, 0), (9, 0)] [] 224 (fu H G_39) (0, 0) := by
  unfold mm_draws_j39
  refine j_aload_n dX11_draws_39 rfl rfl ?_
  refine j_gim dX11_draws_40 gf_X11_203 om_201 ?_
  refine j_if_eq (tgt := 63) dX11_draws_43 rfl (fun h43 => ?_) (fun h43 => ?_)
  · exact j_return dX11_draws_63 rfl rfl (Nat.zero_le _) (Nat.zero_le _)
  · exact j_mask [true, false, true, false, false] rfl (hk46 x2_39 G_39)

set_option maxRecDepth 100000 in
theorem mm_draws_j29_J {l : Launch} {H : Hp} (s0_29 : Int) (G_29 : Hp) : J l M_mm_draws (KWv (fun g => fu H g)) (mm_draws_j29   s0_29 G_29) 29 [(2, 201), (9, 0), (9, 0), (9, 0), (9, 0)] [(0, s0_29)] 224 (fu H G_29) (0, 0) := by
  unfold mm_draws_j29
  refine j_istore_n dX11_draws_29 rfl (Nat.le_of_ble_eq_true rfl) rfl ?_
  refine j_iload_n dX11_draws_30 rfl rfl ?_
  refine j_if_eq (tgt := 39) dX11_draws_31 rfl (fun h31 => ?_) (fun h31 => ?_)
  · exact j_mask [true, false, true, false, false] rfl (mm_draws_j39_J   mm_draws_j46 mm_draws_j46_J s0_29 G_29)
  · refine j_iload_n dX11_draws_34 rfl rfl ?_
    refine j_iconst dX11_draws_35 r32_2 ?_
    refine j_icmp_ne (tgt := 46) dX11_draws_36 rfl (fun h36 => ?_) (fun h36 => ?_)
    · exact j_mask [true, false, true, false, false] rfl (mm_draws_j39_J   mm_draws_j46 mm_draws_j46_J s0_29 G_29)
    · exact j_mask [true, false, true, false, false] rfl (mm_draws_j46_J s0_29 G_29)

set_option maxRecDepth 100000 in
theorem mm_draws_J {l : Launch} {H : Hp} (G : Hp) : J l M_mm_draws (KWv (fun g => fu H g)) (mm_draws  G) 0 [(2, 201), (9, 0), (9, 0), (9, 0), (9, 0)] [] 224 (fu H G) (0, 0) := by
  unfold mm_draws
  refine j_aload_n dX11_draws_0 rfl rfl ?_
  refine j_bipush dX11_draws_1 r32_10 bp_10 ?_
  refine j_cVWi dX11_draws_3 im_mm_below lk_X11_494 rfl (As := [(0, 10)]) (S := []) rfl om_201.1 ⟨by decide, by decide⟩ (Nat.le_of_ble_eq_true rfl) (fun r hr => mm_below_ct 10 G hr) (fun r3 _ => ?_)
  refine j_istore_n dX11_draws_6 rfl (Nat.le_of_ble_eq_true rfl) rfl ?_
  refine j_iload_n dX11_draws_7 rfl rfl ?_
  refine j_iconst dX11_draws_8 r32_4 ?_
  refine j_icmp_ge (tgt := 16) dX11_draws_9 rfl (fun h9 => ?_) (fun h9 => ?_)
  · refine j_iconst dX11_draws_12 r32_0 ?_
    refine j_goto (tgt := 29) dX11_draws_13 rfl ?_
    exact j_mask [true, false, false, false, false] rfl (mm_draws_j29_J 0 r3.2)
  · refine j_iload_n dX11_draws_16 rfl rfl ?_
    refine j_bipush dX11_draws_17 r32_6 bp_6 ?_
    refine j_icmp_ge (tgt := 26) dX11_draws_19 rfl (fun h19 => ?_) (fun h19 => ?_)
    · refine j_iconst dX11_draws_22 r32_1 ?_
      refine j_goto (tgt := 29) dX11_draws_23 rfl ?_
      exact j_mask [true, false, false, false, false] rfl (mm_draws_j29_J 1 r3.2)
    · refine j_iload_n dX11_draws_26 rfl rfl ?_
      refine j_iconst dX11_draws_27 r32_4 ?_
      refine j_isub dX11_draws_28 ?_
      exact j_mask [true, false, false, false, false] rfl (mm_draws_j29_J (w32 (r3.1 - 4)) r3.2)

set_option maxRecDepth 100000 in
theorem mm_draws_ct {l : Launch} {H : Hp} (G : Hp) {r : Hp} (h : mm_draws  G = some r) : Ct l M_mm_draws [(2, 201)] 224 (fu H G) ((KWv (fun g => fu H g)) r) :=
  ct_of_J (by decide +kernel) rfl (Nat.le_of_ble_eq_true rfl) (mm_draws_J  G) h
set_option maxRecDepth 100000 in
theorem mm_drawn_L29_J {l : Launch} {H : Hp} (a1 : Int) (a2 : Int) (a3 : Int) (a4 : Int) (k45 : Hp → Option (Int × Hp)) (hk45 : ∀ (G_45 : Hp), J l M_mm_drawn (KWi (fun g => fu H g)) (k45 G_45) 45 [(2, 201), (9, 0), (9, 0), (9, 0), (0, a4), (9, 0)] [] 224 (fu H G_45) (0, 0)) : ∀ (n_29 : Nat) (x5_29 : Int) (G_29 : Hp), J l M_mm_drawn (KWi (fun g => fu H g)) (mm_drawn_L29 a1 a2 a3 a4 k45 n_29 x5_29 G_29) 29 [(2, 201), (9, 0), (9, 0), (0, a3), (0, a4), (0, x5_29)] [] 224 (fu H G_29) (0, 0) := by
  intro n_29
  induction n_29 with
  | zero =>
    intro x5_29 G_29
    exact j_none
  | succ n_29 ih =>
    intro x5_29 G_29
    rw [mm_drawn_L29]
    refine j_iload dX11_drawn_29 rfl ?_
    refine j_iload_n dX11_drawn_31 rfl rfl ?_
    refine j_icmp_ge (tgt := 45) dX11_drawn_32 rfl (fun h32 => ?_) (fun h32 => ?_)
    · refine j_aload_n dX11_drawn_35 rfl rfl ?_
      refine j_cVWv dX11_drawn_36 im_mm_draws lk_X11_497 rfl (As := []) (S := []) rfl om_201.1 ⟨by decide, by decide⟩ (Nat.le_of_ble_eq_true rfl) (fun r hr => mm_draws_ct  G_29 hr) (fun G36 _ => ?_)
      refine j_iinc dX11_drawn_39 rfl (Nat.le_of_ble_eq_true rfl) rfl ?_
      refine j_goto (tgt := 29) dX11_drawn_42 rfl ?_
      exact j_mask [true, false, false, true, true, true] rfl (ih (w32 (x5_29 + 1)) G36)
    · exact j_mask [true, false, false, false, true, false] rfl (hk45 G_29)

set_option maxRecDepth 100000 in
theorem mm_drawn_J {l : Launch} {H : Hp} (a1 : Int) (a2 : Int) (a3 : Int) (a4 : Int) (G : Hp) : J l M_mm_drawn (KWi (fun g => fu H g)) (mm_drawn a1 a2 a3 a4 G) 0 [(2, 201), (0, a1), (0, a2), (0, a3), (0, a4), (9, 0)] [] 224 (fu H G) (0, 0) := by
  unfold mm_drawn
  refine j_aload_n dX11_drawn_0 rfl rfl ?_
  refine j_iload_n dX11_drawn_1 rfl rfl ?_
  refine j_cVWb dX11_drawn_2 im_mm_isPaper lk_X11_209 rfl (As := [(0, a1)]) (S := []) rfl om_201.1 ⟨by decide, by decide⟩ (Nat.le_of_ble_eq_true rfl) (fun r hr => mm_isPaper_ct a1 G hr) (fun r2 _ => ?_)
  refine j_ifb_eq (tgt := 18) dX11_drawn_5 rfl (fun h5 => ?_) (fun h5 => ?_)
  · refine j_iload_n dX11_drawn_8 rfl rfl ?_
    refine j_iconst dX11_drawn_9 r32_0 ?_
    refine j_bipush dX11_drawn_10 r32_60 bp_60 ?_
    refine j_cSRbp dX11_drawn_12 sm_mm_isIn lk_X11_132 rfl (As := [(0, a3), (0, 0), (0, 60)]) (S := []) rfl ⟨by decide, by decide⟩ (Nat.le_of_ble_eq_true rfl) (mm_isIn_ct a3 0 60) ?_
    refine j_ifb_ne (tgt := 21) dX11_drawn_15 rfl (fun h15 => ?_) (fun h15 => ?_)
    · refine j_aload_n dX11_drawn_21 rfl rfl ?_
      refine j_iload_n dX11_drawn_22 rfl rfl ?_
      refine j_pim dX11_drawn_23 gf_X11_490 po_11_46 om_201 (nf_11_46 _) ?_
      refine j_iconst dX11_drawn_26 r32_0 ?_
      refine j_istore dX11_drawn_27 (Nat.le_of_ble_eq_true rfl) rfl ?_
      refine j_mask [true, false, false, true, true, true] rfl (mm_drawn_L29_J a1 a2 a3 a4 (fun G_45 => (mm_nowOf a4 G_45).bind fun v48 => some (v48, G_45)) (fun G_45 => ?_) FU 0 (upd2 r2.2 201 46 a2))
      refine j_aload_n dX11_drawn_45 rfl rfl ?_
      refine j_iload dX11_drawn_46 rfl ?_
      refine j_cVRi dX11_drawn_48 im_mm_nowOf lk_X11_445 rfl (As := [(0, a4)]) (S := []) rfl om_201.1 ⟨by decide, by decide⟩ (Nat.le_of_ble_eq_true rfl) (fun r hr => mm_nowOf_ct a4 G_45 hr) (fun v48 _ => ?_)
      exact j_ireturn dX11_drawn_51 rfl rfl (Nat.zero_le _) (Nat.zero_le _)
    · refine j_bipush dX11_drawn_18 r32_m2 bp_m2 ?_
      exact j_ireturn dX11_drawn_20 rfl rfl (Nat.zero_le _) (Nat.zero_le _)
  · refine j_bipush dX11_drawn_18 r32_m2 bp_m2 ?_
    exact j_ireturn dX11_drawn_20 rfl rfl (Nat.zero_le _) (Nat.zero_le _)

set_option maxRecDepth 100000 in
theorem mm_drawn_ct {l : Launch} {H : Hp} (a1 : Int) (a2 : Int) (a3 : Int) (a4 : Int) (G : Hp) {r : Int × Hp} (h : mm_drawn a1 a2 a3 a4 G = some r) : Ct l M_mm_drawn [(2, 201), (0, a1), (0, a2), (0, a3), (0, a4)] 224 (fu H G) ((KWi (fun g => fu H g)) r) :=
  ct_of_J (by decide +kernel) rfl (Nat.le_of_ble_eq_true rfl) (mm_drawn_J a1 a2 a3 a4 G) h
set_option maxRecDepth 100000 in
theorem mm_count_J {l : Launch} {H : Hp} (a1 : Int) (G : Hp) : J l M_mm_count (KRi (fu H G)) (mm_count a1 G) 0 [(2, 201), (0, a1)] [] 224 (fu H G) (0, 0) := by
  unfold mm_count
  refine j_iload_n dX11_count_0 rfl rfl ?_
  refine j_iconst dX11_count_1 r32_0 ?_
  refine j_iconst dX11_count_2 r32_2 ?_
  refine j_cSRbp dX11_count_3 sm_mm_isIn lk_X11_132 rfl (As := [(0, a1), (0, 0), (0, 2)]) (S := []) rfl ⟨by decide, by decide⟩ (Nat.le_of_ble_eq_true rfl) (mm_isIn_ct a1 0 2) ?_
  refine j_ifb_eq (tgt := 18) dX11_count_6 rfl (fun h6 => ?_) (fun h6 => ?_)
  · refine j_aload_n dX11_count_9 rfl rfl ?_
    refine j_grm dX11_count_10 gf_X11_7 om_201 (Or.inl (by decide)) rf_201_0 ?_
    refine j_iload_n dX11_count_13 rfl rfl ?_
    refine j_gd (fun h14a h14b => ?_)
    refine j_aim dX11_count_14 om_202 rfl h14a h14b ?_
    refine j_goto (tgt := 20) dX11_count_15 rfl ?_
    exact j_ireturn dX11_count_20 rfl rfl (Nat.zero_le _) (Nat.zero_le _)
  · refine j_bipush dX11_count_18 r32_m2 bp_m2 ?_
    exact j_ireturn dX11_count_20 rfl rfl (Nat.zero_le _) (Nat.zero_le _)

set_option maxRecDepth 100000 in
theorem mm_count_ct {l : Launch} {H : Hp} (a1 : Int) (G : Hp) {r : Int} (h : mm_count a1 G = some r) : Ct l M_mm_count [(2, 201), (0, a1)] 224 (fu H G) ((KRi (fu H G)) r) :=
  ct_of_J (by decide +kernel) rfl (Nat.le_of_ble_eq_true rfl) (mm_count_J a1 G) h
set_option maxRecDepth 100000 in
theorem mm_image_L20_J {l : Launch} {H : Hp} (a1 : Int) : ∀ (n_20 : Nat) (x2_20 : Int) (G_20 : Hp), J l M_mm_image (KWb (fun g => fu H g)) (mm_image_L20 a1  n_20 x2_20 G_20) 20 [(2, 201), (0, a1), (0, x2_20)] [] 224 (fu H G_20) (0, 0) := by
  intro n_20
  induction n_20 with
  | zero =>
    intro x2_20 G_20
    exact j_none
  | succ n_20 ih =>
    intro x2_20 G_20
    rw [mm_image_L20]
    refine j_iload_n dX11_image_20 rfl rfl ?_
    refine j_sipush dX11_image_21 r32_1046 sp_1046 ?_
    refine j_icmp_ge (tgt := 53) dX11_image_24 rfl (fun h24 => ?_) (fun h24 => ?_)
    · refine j_aload_n dX11_image_27 rfl rfl ?_
      refine j_grm dX11_image_28 gf_X11_7 om_201 (Or.inl (by decide)) rf_201_0 ?_
      refine j_sipush dX11_image_31 r32_1046 sp_1046 ?_
      refine j_iload_n dX11_image_34 rfl rfl ?_
      refine j_iconst dX11_image_35 r32_1 ?_
      refine j_iadd dX11_image_36 ?_
      refine j_imul dX11_image_37 ?_
      refine j_iload_n dX11_image_38 rfl rfl ?_
      refine j_iadd dX11_image_39 ?_
      refine j_aload_n dX11_image_40 rfl rfl ?_
      refine j_grm dX11_image_41 gf_X11_7 om_201 (Or.inl (by decide)) rf_201_0 ?_
      refine j_iload_n dX11_image_44 rfl rfl ?_
      refine j_gd (fun h45a h45b => ?_)
      refine j_aim dX11_image_45 om_202 rfl h45a h45b ?_
      refine j_gd (fun h46a h46b => ?_)
      refine j_sim dX11_image_46 om_202 rfl h46a h46b ?_
      refine j_iinc dX11_image_47 rfl (Nat.le_of_ble_eq_true rfl) rfl ?_
      refine j_goto (tgt := 20) dX11_image_50 rfl ?_
      exact j_mask [true, true, true] rfl (ih (w32 (x2_20 + 1)) (upd2 G_20 202 (w32 ((w32 (1046 * (w32 (a1 + 1)))) + x2_20)) (G_20 202 x2_20)))
    · refine j_iconst dX11_image_53 r32_1 ?_
      exact j_zreturn (b := true) dX11_image_54 rfl rfl (Nat.zero_le _) (Nat.zero_le _)

set_option maxRecDepth 100000 in
theorem mm_image_J {l : Launch} {H : Hp} (a1 : Int) (G : Hp) : J l M_mm_image (KWb (fun g => fu H g)) (mm_image a1 G) 0 [(2, 201), (0, a1), (9, 0)] [] 224 (fu H G) (0, 0) := by
  unfold mm_image
  refine j_iload_n dX11_image_0 rfl rfl ?_
  refine j_iconst dX11_image_1 r32_0 ?_
  refine j_iconst dX11_image_2 r32_2 ?_
  refine j_cSRbp dX11_image_3 sm_mm_isIn lk_X11_132 rfl (As := [(0, a1), (0, 0), (0, 2)]) (S := []) rfl ⟨by decide, by decide⟩ (Nat.le_of_ble_eq_true rfl) (mm_isIn_ct a1 0 2) ?_
  refine j_ifb_ne (tgt := 11) dX11_image_6 rfl (fun h6 => ?_) (fun h6 => ?_)
  · refine j_aload_n dX11_image_11 rfl rfl ?_
    refine j_grm dX11_image_12 gf_X11_13 om_201 (Or.inl (by decide)) rf_201_1 ?_
    refine j_iload_n dX11_image_15 rfl rfl ?_
    refine j_iconst dX11_image_16 r32_1 ?_
    refine j_gd (fun h17a h17b => ?_)
    refine j_szm dX11_image_17 om_203 rfl (Or.inr rfl) h17a h17b ?_
    refine j_iconst dX11_image_18 r32_0 ?_
    refine j_istore_n dX11_image_19 rfl (Nat.le_of_ble_eq_true rfl) rfl ?_
    exact j_mask [true, true, true] rfl (mm_image_L20_J a1 FU 0 (upd2 G 203 a1 1))
  · refine j_iconst dX11_image_9 r32_0 ?_
    exact j_zreturn (b := false) dX11_image_10 rfl rfl (Nat.zero_le _) (Nat.zero_le _)

set_option maxRecDepth 100000 in
theorem mm_image_ct {l : Launch} {H : Hp} (a1 : Int) (G : Hp) {r : Bool × Hp} (h : mm_image a1 G = some r) : Ct l M_mm_image [(2, 201), (0, a1)] 224 (fu H G) ((KWb (fun g => fu H g)) r) :=
  ct_of_J (by decide +kernel) rfl (Nat.le_of_ble_eq_true rfl) (mm_image_J a1 G) h
set_option maxRecDepth 100000 in
theorem mm_again_L22_J {l : Launch} {H : Hp} (a1 : Int) : ∀ (n_22 : Nat) (x2_22 : Int) (G_22 : Hp), J l M_mm_again (KWb (fun g => fu H g)) (mm_again_L22 a1  n_22 x2_22 G_22) 22 [(2, 201), (0, a1), (0, x2_22)] [] 224 (fu H G_22) (0, 0) := by
  intro n_22
  induction n_22 with
  | zero =>
    intro x2_22 G_22
    exact j_none
  | succ n_22 ih =>
    intro x2_22 G_22
    rw [mm_again_L22]
    refine j_iload_n dX11_again_22 rfl rfl ?_
    refine j_sipush dX11_again_23 r32_1046 sp_1046 ?_
    refine j_icmp_ge (tgt := 55) dX11_again_26 rfl (fun h26 => ?_) (fun h26 => ?_)
    · refine j_aload_n dX11_again_29 rfl rfl ?_
      refine j_grm dX11_again_30 gf_X11_7 om_201 (Or.inl (by decide)) rf_201_0 ?_
      refine j_iload_n dX11_again_33 rfl rfl ?_
      refine j_aload_n dX11_again_34 rfl rfl ?_
      refine j_grm dX11_again_35 gf_X11_7 om_201 (Or.inl (by decide)) rf_201_0 ?_
      refine j_sipush dX11_again_38 r32_1046 sp_1046 ?_
      refine j_iload_n dX11_again_41 rfl rfl ?_
      refine j_iconst dX11_again_42 r32_1 ?_
      refine j_iadd dX11_again_43 ?_
      refine j_imul dX11_again_44 ?_
      refine j_iload_n dX11_again_45 rfl rfl ?_
      refine j_iadd dX11_again_46 ?_
      refine j_gd (fun h47a h47b => ?_)
      refine j_aim dX11_again_47 om_202 rfl h47a h47b ?_
      refine j_gd (fun h48a h48b => ?_)
      refine j_sim dX11_again_48 om_202 rfl h48a h48b ?_
      refine j_iinc dX11_again_49 rfl (Nat.le_of_ble_eq_true rfl) rfl ?_
      refine j_goto (tgt := 22) dX11_again_52 rfl ?_
      exact j_mask [true, true, true] rfl (ih (w32 (x2_22 + 1)) (upd2 G_22 202 x2_22 (G_22 202 (w32 ((w32 (1046 * (w32 (a1 + 1)))) + x2_22)))))
    · refine j_iconst dX11_again_55 r32_1 ?_
      exact j_zreturn (b := true) dX11_again_56 rfl rfl (Nat.zero_le _) (Nat.zero_le _)

set_option maxRecDepth 100000 in
theorem mm_again_J {l : Launch} {H : Hp} (a1 : Int) (G : Hp) : J l M_mm_again (KWb (fun g => fu H g)) (mm_again a1 G) 0 [(2, 201), (0, a1), (9, 0)] [] 224 (fu H G) (0, 0) := by
  unfold mm_again
  refine j_iload_n dX11_again_0 rfl rfl ?_
  refine j_iconst dX11_again_1 r32_0 ?_
  refine j_iconst dX11_again_2 r32_2 ?_
  refine j_cSRbp dX11_again_3 sm_mm_isIn lk_X11_132 rfl (As := [(0, a1), (0, 0), (0, 2)]) (S := []) rfl ⟨by decide, by decide⟩ (Nat.le_of_ble_eq_true rfl) (mm_isIn_ct a1 0 2) ?_
  refine j_ifb_eq (tgt := 18) dX11_again_6 rfl (fun h6 => ?_) (fun h6 => ?_)
  · refine j_aload_n dX11_again_9 rfl rfl ?_
    refine j_grm dX11_again_10 gf_X11_13 om_201 (Or.inl (by decide)) rf_201_1 ?_
    refine j_iload_n dX11_again_13 rfl rfl ?_
    refine j_gd (fun h14a h14b => ?_)
    refine j_azm dX11_again_14 om_203 rfl h14a h14b ?_
    refine j_if_ne (tgt := 20) dX11_again_15 rfl (fun h15 => ?_) (fun h15 => ?_)
    · refine j_iconst dX11_again_18 r32_0 ?_
      exact j_zreturn (b := false) dX11_again_19 rfl rfl (Nat.zero_le _) (Nat.zero_le _)
    · refine j_iconst dX11_again_20 r32_0 ?_
      refine j_istore_n dX11_again_21 rfl (Nat.le_of_ble_eq_true rfl) rfl ?_
      exact j_mask [true, true, true] rfl (mm_again_L22_J a1 FU 0 G)
  · refine j_iconst dX11_again_18 r32_0 ?_
    exact j_zreturn (b := false) dX11_again_19 rfl rfl (Nat.zero_le _) (Nat.zero_le _)

set_option maxRecDepth 100000 in
theorem mm_again_ct {l : Launch} {H : Hp} (a1 : Int) (G : Hp) {r : Bool × Hp} (h : mm_again a1 G = some r) : Ct l M_mm_again [(2, 201), (0, a1)] 224 (fu H G) ((KWb (fun g => fu H g)) r) :=
  ct_of_J (by decide +kernel) rfl (Nat.le_of_ble_eq_true rfl) (mm_again_J a1 G) h
