set_option maxRecDepth 100000 in
theorem cX_firsts_J {l : Launch} {H : Hp} (a1 : Int) (a2 : Int) (a3 : Int) (G : Hp) : J l M_cX_firsts (KWi (fun g => fu g H)) (cX_firsts a1 a2 a3 G) 0 [(2, 0), (0, a1), (0, a2), (0, a3), (9, 0), (9, 0)] [] 224 (fu G H) (0, 0) := by
  unfold cX_firsts
  refine j_aload_n dX10_firsts_0 rfl rfl ?_
  refine j_iload_n dX10_firsts_1 rfl rfl ?_
  refine j_cVRr dX10_firsts_2 im_cX_paperAt lk_X10_124 rfl (As := [(0, a1)]) (S := []) rfl oc_0.1 ⟨by decide, by decide⟩ (Nat.le_of_ble_eq_true rfl) (fun r hr => cX_paperAt_ct a1 G hr) (fun v2 hv2 => ?_)
  refine j_astore dX10_firsts_5 (Nat.le_of_ble_eq_true rfl) rfl ?_
  refine j_aload_n dX10_firsts_7 rfl rfl ?_
  refine j_iload_n dX10_firsts_8 rfl rfl ?_
  refine j_cVRr dX10_firsts_9 im_cX_logAt lk_X10_152 rfl (As := [(0, a2)]) (S := []) rfl oc_0.1 ⟨by decide, by decide⟩ (Nat.le_of_ble_eq_true rfl) (fun r hr => cX_logAt_ct a2 G hr) (fun v9 hv9 => ?_)
  refine j_astore dX10_firsts_12 (Nat.le_of_ble_eq_true rfl) rfl ?_
  refine j_aload dX10_firsts_14 rfl ?_
  refine j_ifnull (tgt := 24) dX10_firsts_16 rfl (fun h16 => ?_) (fun h16 => ?_)
  · refine j_bipush dX10_firsts_24 r32_m2 bp_m2 ?_
    exact j_ireturn dX10_firsts_26 rfl rfl (Nat.zero_le _) (Nat.zero_le _)
  · refine j_aload dX10_firsts_19 rfl ?_
    refine j_ifnonnull (tgt := 27) dX10_firsts_21 rfl (fun h21 => ?_) (fun h21 => ?_)
    · refine j_bipush dX10_firsts_24 r32_m2 bp_m2 ?_
      exact j_ireturn dX10_firsts_26 rfl rfl (Nat.zero_le _) (Nat.zero_le _)
    · refine j_aload_n dX10_firsts_27 rfl rfl ?_
      refine j_grc dX10_firsts_28 gf_X10_55 oc_0 (Or.inl (by decide)) rf_0_7 ?_
      refine j_iload_n dX10_firsts_31 rfl rfl ?_
      refine j_aload dX10_firsts_32 rfl ?_
      refine j_cVWv dX10_firsts_34 im_cRw_make lk_X10_401 rfl (As := [(0, a1), (2, v2)]) (S := []) rfl oc_80.1 ⟨by decide, by decide⟩ (Nat.le_of_ble_eq_true rfl) (fun r hr => cRw_make_ct a1 v2 (cX_paperAt_ok hv2 h16) G hr) (fun G34 _ => ?_)
      refine j_aload_n dX10_firsts_37 rfl rfl ?_
      refine j_grc dX10_firsts_38 gf_X10_55 oc_0 (Or.inl (by decide)) rf_0_7 ?_
      refine j_aload dX10_firsts_41 rfl ?_
      refine j_cVWv dX10_firsts_43 im_cRw_choose lk_X10_413 rfl (As := [(2, v9)]) (S := []) rfl oc_80.1 ⟨by decide, by decide⟩ (Nat.le_of_ble_eq_true rfl) (fun r hr => cRw_choose_ct v9 (cX_logAt_ok hv9 h21) G34 hr) (fun G43 _ => ?_)
      refine j_iload_n dX10_firsts_46 rfl rfl ?_
      refine j_ite _ (fun hc47_0 => ?_) (fun hc47_0 => ?_)
      · refine j_swIn (i := 0) (tgt := 76) dX10_firsts_47 (hc47_0.trans (by decide)) (by decide) rfl rfl ?_
        refine j_aload_n dX10_firsts_76 rfl rfl ?_
        refine j_grc dX10_firsts_77 gf_X10_55 oc_0 (Or.inl (by decide)) rf_0_7 ?_
        refine j_iconst dX10_firsts_80 r32_0 ?_
        refine j_cVRi dX10_firsts_81 im_cRw_readersAt lk_X10_440 rfl (As := [(0, 0)]) (S := []) rfl oc_80.1 ⟨by decide, by decide⟩ (Nat.le_of_ble_eq_true rfl) (fun r hr => cRw_readersAt_ct 0 G43 hr) (fun v81 _ => ?_)
        exact j_ireturn dX10_firsts_84 rfl rfl (Nat.zero_le _) (Nat.zero_le _)
      · refine j_ite _ (fun hc47_1 => ?_) (fun hc47_1 => ?_)
        · refine j_swIn (i := 1) (tgt := 85) dX10_firsts_47 (hc47_1.trans (by decide)) (by decide) rfl rfl ?_
          refine j_aload_n dX10_firsts_85 rfl rfl ?_
          refine j_grc dX10_firsts_86 gf_X10_55 oc_0 (Or.inl (by decide)) rf_0_7 ?_
          refine j_aload dX10_firsts_89 rfl ?_
          refine j_gic dX10_firsts_91 gf_X10_245 (oc_paper (cX_paperAt_ok hv2 h16)) ?_
          refine j_iconst dX10_firsts_94 r32_1 ?_
          refine j_isub dX10_firsts_95 ?_
          refine j_cVRi dX10_firsts_96 im_cRw_readersAt lk_X10_440 rfl (As := [(0, w32 ((G43 v2 2) - 1))]) (S := []) rfl oc_80.1 ⟨by decide, by decide⟩ (Nat.le_of_ble_eq_true rfl) (fun r hr => cRw_readersAt_ct (w32 ((G43 v2 2) - 1)) G43 hr) (fun v96 _ => ?_)
          exact j_ireturn dX10_firsts_99 rfl rfl (Nat.zero_le _) (Nat.zero_le _)
        · refine j_ite _ (fun hc47_2 => ?_) (fun hc47_2 => ?_)
          · refine j_swIn (i := 2) (tgt := 100) dX10_firsts_47 (hc47_2.trans (by decide)) (by decide) rfl rfl ?_
            refine j_aload_n dX10_firsts_100 rfl rfl ?_
            refine j_grc dX10_firsts_101 gf_X10_55 oc_0 (Or.inl (by decide)) rf_0_7 ?_
            refine j_cVRi dX10_firsts_104 im_cRw_mostFitting lk_X10_443 rfl (As := []) (S := []) rfl oc_80.1 ⟨by decide, by decide⟩ (Nat.le_of_ble_eq_true rfl) (fun r hr => cRw_mostFitting_ct  G43 hr) (fun v104 _ => ?_)
            exact j_ireturn dX10_firsts_107 rfl rfl (Nat.zero_le _) (Nat.zero_le _)
          · refine j_ite _ (fun hc47_3 => ?_) (fun hc47_3 => ?_)
            · refine j_swIn (i := 3) (tgt := 108) dX10_firsts_47 (hc47_3.trans (by decide)) (by decide) rfl rfl ?_
              refine j_aload_n dX10_firsts_108 rfl rfl ?_
              refine j_grc dX10_firsts_109 gf_X10_55 oc_0 (Or.inl (by decide)) rf_0_7 ?_
              refine j_cVRi dX10_firsts_112 im_cRw_leastFitting lk_X10_446 rfl (As := []) (S := []) rfl oc_80.1 ⟨by decide, by decide⟩ (Nat.le_of_ble_eq_true rfl) (fun r hr => cRw_leastFitting_ct  G43 hr) (fun v112 _ => ?_)
              exact j_ireturn dX10_firsts_115 rfl rfl (Nat.zero_le _) (Nat.zero_le _)
            · refine j_swOut (tgt := 116) dX10_firsts_47 (by omega) rfl ?_
              refine j_bipush dX10_firsts_116 r32_m2 bp_m2 ?_
              exact j_ireturn dX10_firsts_118 rfl rfl (Nat.zero_le _) (Nat.zero_le _)

set_option maxRecDepth 100000 in
theorem cX_firsts_ct {l : Launch} {H : Hp} (a1 : Int) (a2 : Int) (a3 : Int) (G : Hp) {r : Int × Hp} (h : cX_firsts a1 a2 a3 G = some r) : Ct l M_cX_firsts [(2, 0), (0, a1), (0, a2), (0, a3)] 224 (fu G H) ((KWi (fun g => fu g H)) r) :=
  ct_of_J (by decide +kernel) rfl (Nat.le_of_ble_eq_true rfl) (cX_firsts_J a1 a2 a3 G) h
set_option maxRecDepth 100000 in
theorem cX_come_L44_J {l : Launch} {H : Hp} (a1 : Int) (a2 : Int) (a3 : Int) (a4 : Int) (G : Hp) (x5_44 : Int) (hx5_44 : isPaper x5_44) (k74 : Int → Int → Option (Int)) (hk74 : ∀ (x6_74 : Int) (x8_74 : Int), J l M_cX_come (KRl (fu G H)) (k74 x6_74 x8_74) 74 [(9, 0), (9, 0), (9, 0), (9, 0), (0, a4), (2, x5_44), (1, x6_74), (9, 0), (1, x8_74), (9, 0), (9, 0), (9, 0), (9, 0), (9, 0), (9, 0)] [] 224 (fu G H) (0, 0)) : ∀ (n_44 : Nat) (x6_44 : Int) (x8_44 : Int) (x10_44 : Int), J l M_cX_come (KRl (fu G H)) (cX_come_L44 a1 a2 a3 a4 G x5_44 k74 n_44 x6_44 x8_44 x10_44) 44 [(9, 0), (9, 0), (0, a2), (0, a3), (0, a4), (2, x5_44), (1, x6_44), (9, 0), (1, x8_44), (9, 0), (0, x10_44), (9, 0), (9, 0), (9, 0), (9, 0)] [] 224 (fu G H) (0, 0) := by
  intro n_44
  induction n_44 with
  | zero =>
    intro x6_44 x8_44 x10_44
    exact j_none
  | succ n_44 ih =>
    intro x6_44 x8_44 x10_44
    rw [cX_come_L44]
    refine j_iload dX10_come_44 rfl ?_
    refine j_iload_n dX10_come_46 rfl rfl ?_
    refine j_icmp_ge (tgt := 74) dX10_come_47 rfl (fun h47 => ?_) (fun h47 => ?_)
    · refine j_lload dX10_come_50 rfl ?_
      refine j_ldc2 dX10_come_52 cs_X10_451 (by unfold r64; omega) ?_
      refine j_lmul dX10_come_55 ?_
      refine j_lstore dX10_come_56 (Nat.le_of_ble_eq_true rfl) rfl ?_
      refine j_lload dX10_come_58 rfl ?_
      refine j_bipush dX10_come_60 r32_10 bp_10 ?_
      refine j_iload_n dX10_come_62 rfl rfl ?_
      refine j_isub dX10_come_63 ?_
      refine j_i2l dX10_come_64 ?_
      refine j_lmul dX10_come_65 ?_
      refine j_lstore dX10_come_66 (Nat.le_of_ble_eq_true rfl) rfl ?_
      refine j_iinc dX10_come_68 rfl (Nat.le_of_ble_eq_true rfl) rfl ?_
      refine j_goto (tgt := 44) dX10_come_71 rfl ?_
      exact j_mask [false, false, true, true, true, true, true, false, true, false, true, false, false, false, false] rfl (ih (w64 (x6_44 * 10)) (w64 (x8_44 * (w32 (10 - a2)))) (w32 (x10_44 + 1)))
    · exact j_mask [false, false, false, false, true, true, true, false, true, false, false, false, false, false, false] rfl (hk74 x6_44 x8_44)

set_option maxRecDepth 100000 in
theorem cX_come_L94_J {l : Launch} {H : Hp} (a1 : Int) (a2 : Int) (a3 : Int) (a4 : Int) (G : Hp) (x5_94 : Int) (hx5_94 : isPaper x5_94) (x10_94 : Int) : ∀ (n_94 : Nat) (x12_94 : Int) (x14_94 : Int), J l M_cX_come (KRl (fu G H)) (cX_come_L94 a1 a2 a3 a4 G x5_94 x10_94  n_94 x12_94 x14_94) 94 [(9, 0), (9, 0), (9, 0), (9, 0), (9, 0), (2, x5_94), (9, 0), (9, 0), (9, 0), (9, 0), (1, x10_94), (9, 0), (1, x12_94), (9, 0), (0, x14_94)] [] 224 (fu G H) (0, 0) := by
  intro n_94
  induction n_94 with
  | zero =>
    intro x12_94 x14_94
    exact j_none
  | succ n_94 ih =>
    intro x12_94 x14_94
    rw [cX_come_L94]
    refine j_iload dX10_come_94 rfl ?_
    refine j_aload dX10_come_96 rfl ?_
    refine j_gic dX10_come_98 gf_X10_245 (oc_paper hx5_94) ?_
    refine j_icmp_ge (tgt := 117) dX10_come_101 rfl (fun h101 => ?_) (fun h101 => ?_)
    · refine j_lload dX10_come_104 rfl ?_
      refine j_lload dX10_come_106 rfl ?_
      refine j_lmul dX10_come_108 ?_
      refine j_lstore dX10_come_109 (Nat.le_of_ble_eq_true rfl) rfl ?_
      refine j_iinc dX10_come_111 rfl (Nat.le_of_ble_eq_true rfl) rfl ?_
      refine j_goto (tgt := 94) dX10_come_114 rfl ?_
      exact j_mask [false, false, false, false, false, true, false, false, false, false, true, false, true, false, true] rfl (ih (w64 (x12_94 * x10_94)) (w32 (x14_94 + 1)))
    · refine j_lload dX10_come_117 rfl ?_
      exact j_lreturn dX10_come_119 rfl rfl (Nat.zero_le _) (Nat.zero_le _)

set_option maxRecDepth 100000 in
theorem cX_come_J {l : Launch} {H : Hp} (a1 : Int) (a2 : Int) (a3 : Int) (a4 : Int) (G : Hp) : J l M_cX_come (KRl (fu G H)) (cX_come a1 a2 a3 a4 G) 0 [(2, 0), (0, a1), (0, a2), (0, a3), (0, a4), (9, 0), (9, 0), (9, 0), (9, 0), (9, 0), (9, 0), (9, 0), (9, 0), (9, 0), (9, 0)] [] 224 (fu G H) (0, 0) := by
  unfold cX_come
  refine j_aload_n dX10_come_0 rfl rfl ?_
  refine j_iload_n dX10_come_1 rfl rfl ?_
  refine j_cVRr dX10_come_2 im_cX_paperAt lk_X10_124 rfl (As := [(0, a1)]) (S := []) rfl oc_0.1 ⟨by decide, by decide⟩ (Nat.le_of_ble_eq_true rfl) (fun r hr => cX_paperAt_ct a1 G hr) (fun v2 hv2 => ?_)
  refine j_astore dX10_come_5 (Nat.le_of_ble_eq_true rfl) rfl ?_
  refine j_aload dX10_come_7 rfl ?_
  refine j_ifnull (tgt := 31) dX10_come_9 rfl (fun h9 => ?_) (fun h9 => ?_)
  · refine j_ldc2 dX10_come_31 cs_X10_449 (by unfold r64; omega) ?_
    exact j_lreturn dX10_come_34 rfl rfl (Nat.zero_le _) (Nat.zero_le _)
  · refine j_iload_n dX10_come_12 rfl rfl ?_
    refine j_if_lt (tgt := 31) dX10_come_13 rfl (fun h13 => ?_) (fun h13 => ?_)
    · refine j_ldc2 dX10_come_31 cs_X10_449 (by unfold r64; omega) ?_
      exact j_lreturn dX10_come_34 rfl rfl (Nat.zero_le _) (Nat.zero_le _)
    · refine j_iload_n dX10_come_16 rfl rfl ?_
      refine j_bipush dX10_come_17 r32_10 bp_10 ?_
      refine j_icmp_gt (tgt := 31) dX10_come_19 rfl (fun h19 => ?_) (fun h19 => ?_)
      · refine j_iload_n dX10_come_22 rfl rfl ?_
        refine j_if_lt (tgt := 31) dX10_come_23 rfl (fun h23 => ?_) (fun h23 => ?_)
        · refine j_ldc2 dX10_come_31 cs_X10_449 (by unfold r64; omega) ?_
          exact j_lreturn dX10_come_34 rfl rfl (Nat.zero_le _) (Nat.zero_le _)
        · refine j_iload_n dX10_come_26 rfl rfl ?_
          refine j_iconst dX10_come_27 r32_3 ?_
          refine j_icmp_le (tgt := 35) dX10_come_28 rfl (fun h28 => ?_) (fun h28 => ?_)
          · refine j_ldc2 dX10_come_31 cs_X10_449 (by unfold r64; omega) ?_
            exact j_lreturn dX10_come_34 rfl rfl (Nat.zero_le _) (Nat.zero_le _)
          · refine j_lconst (z := 1) dX10_come_35 (by unfold r64; omega) (by decide +kernel) ?_
            refine j_lstore dX10_come_36 (Nat.le_of_ble_eq_true rfl) rfl ?_
            refine j_lconst (z := 1) dX10_come_38 (by unfold r64; omega) (by decide +kernel) ?_
            refine j_lstore dX10_come_39 (Nat.le_of_ble_eq_true rfl) rfl ?_
            refine j_iconst dX10_come_41 r32_0 ?_
            refine j_istore dX10_come_42 (Nat.le_of_ble_eq_true rfl) rfl ?_
            refine j_mask [false, false, true, true, true, true, true, false, true, false, true, false, false, false, false] rfl (cX_come_L44_J a1 a2 a3 a4 G v2 (cX_paperAt_ok hv2 h9) (fun x6_74 x8_74 => (cX_inLeast (w64 (x6_74 - x8_74)) x6_74 a4 G).bind fun v83 => cX_come_L94 a1 a2 a3 a4 G v2 v83 FU 1 0) (fun x6_74 x8_74 => ?_) FU 1 1 0)
            refine j_lload dX10_come_74 rfl ?_
            refine j_lload dX10_come_76 rfl ?_
            refine j_lsub dX10_come_78 ?_
            refine j_lload dX10_come_79 rfl ?_
            refine j_iload dX10_come_81 rfl ?_
            refine j_cSRl dX10_come_83 sm_cX_inLeast lk_X10_436 rfl (As := [(1, w64 (x6_74 - x8_74)), (1, x6_74), (0, a4)]) (S := []) rfl ⟨by decide, by decide⟩ (Nat.le_of_ble_eq_true rfl) (fun r hr => cX_inLeast_ct (w64 (x6_74 - x8_74)) x6_74 a4 G hr) (fun v83 _ => ?_)
            refine j_lstore dX10_come_86 (Nat.le_of_ble_eq_true rfl) rfl ?_
            refine j_lconst (z := 1) dX10_come_88 (by unfold r64; omega) (by decide +kernel) ?_
            refine j_lstore dX10_come_89 (Nat.le_of_ble_eq_true rfl) rfl ?_
            refine j_iconst dX10_come_91 r32_0 ?_
            refine j_istore dX10_come_92 (Nat.le_of_ble_eq_true rfl) rfl ?_
            exact j_mask [false, false, false, false, false, true, false, false, false, false, true, false, true, false, true] rfl (cX_come_L94_J a1 a2 a3 a4 G v2 (cX_paperAt_ok hv2 h9) v83 FU 1 0)
      · refine j_ldc2 dX10_come_31 cs_X10_449 (by unfold r64; omega) ?_
        exact j_lreturn dX10_come_34 rfl rfl (Nat.zero_le _) (Nat.zero_le _)

set_option maxRecDepth 100000 in
theorem cX_come_ct {l : Launch} {H : Hp} (a1 : Int) (a2 : Int) (a3 : Int) (a4 : Int) (G : Hp) {r : Int} (h : cX_come a1 a2 a3 a4 G = some r) : Ct l M_cX_come [(2, 0), (0, a1), (0, a2), (0, a3), (0, a4)] 224 (fu G H) ((KRl (fu G H)) r) :=
  ct_of_J (by decide +kernel) rfl (Nat.le_of_ble_eq_true rfl) (cX_come_J a1 a2 a3 a4 G) h
set_option maxRecDepth 100000 in
theorem mm_isIn_J {l : Launch} {Ch : Hp} (a0 : Int) (a1 : Int) (a2 : Int) : J l M_mm_isIn (KRb Ch) (some (mm_isIn a0 a1 a2)) 0 [(0, a0), (0, a1), (0, a2)] [] 224 Ch (0, 0) := by
  unfold mm_isIn
  refine j_iload_n dX11_isIn_0 rfl rfl ?_
  refine j_iload_n dX11_isIn_1 rfl rfl ?_
  rw [some_ite]
  refine j_icmp_lt (tgt := 14) dX11_isIn_2 rfl (fun h2 => ?_) (fun h2 => ?_)
  · refine j_iload_n dX11_isIn_5 rfl rfl ?_
    refine j_iload_n dX11_isIn_6 rfl rfl ?_
    rw [some_ite]
    refine j_icmp_gt (tgt := 14) dX11_isIn_7 rfl (fun h7 => ?_) (fun h7 => ?_)
    · refine j_iconst dX11_isIn_10 r32_1 ?_
      refine j_goto (tgt := 15) dX11_isIn_11 rfl ?_
      exact j_zreturn (b := true) dX11_isIn_15 rfl rfl (Nat.zero_le _) (Nat.zero_le _)
    · refine j_iconst dX11_isIn_14 r32_0 ?_
      exact j_zreturn (b := false) dX11_isIn_15 rfl rfl (Nat.zero_le _) (Nat.zero_le _)
  · refine j_iconst dX11_isIn_14 r32_0 ?_
    exact j_zreturn (b := false) dX11_isIn_15 rfl rfl (Nat.zero_le _) (Nat.zero_le _)

set_option maxRecDepth 100000 in
theorem mm_isIn_ct {l : Launch} {Ch : Hp} (a0 : Int) (a1 : Int) (a2 : Int) : Ct l M_mm_isIn [(0, a0), (0, a1), (0, a2)] 224 Ch (KRb Ch (mm_isIn a0 a1 a2)) :=
  ct_of_J (by decide +kernel) rfl (Nat.le_of_ble_eq_true rfl) (mm_isIn_J a0 a1 a2) rfl
set_option maxRecDepth 100000 in
theorem mm_feed_j73_J {l : Launch} {H : Hp} (a1 : Int) (a2 : Int) (a3 : Int) (a4 : Int) (a5 : Int) (k20 : Int → Hp → Option (Int × Hp)) (hk20 : ∀ (x6_20 : Int) (G_20 : Hp), J l M_mm_feed (KWi (fun g => fu H g)) (k20 x6_20 G_20) 20 [(2, 201), (0, a1), (0, a2), (0, a3), (0, a4), (0, a5), (0, x6_20), (9, 0)] [] 224 (fu H G_20) (0, 0)) (x6_73 : Int) (s0_73 : Int) (G_73 : Hp) : J l M_mm_feed (KWi (fun g => fu H g)) (mm_feed_j73 a1 a2 a3 a4 a5 k20 x6_73 s0_73 G_73) 73 [(2, 201), (0, a1), (0, a2), (0, a3), (0, a4), (0, a5), (0, x6_73), (9, 0)] [(0, s0_73)] 224 (fu H G_73) (0, 0) := by
  unfold mm_feed_j73
  refine j_istore dX11_feed_73 (Nat.le_of_ble_eq_true rfl) rfl ?_
  refine j_aload_n dX11_feed_75 rfl rfl ?_
  refine j_grm dX11_feed_76 gf_X11_7 om_201 (Or.inl (by decide)) rf_201_0 ?_
  refine j_bipush dX11_feed_79 r32_10 bp_10 ?_
  refine j_aload_n dX11_feed_81 rfl rfl ?_
  refine j_grm dX11_feed_82 gf_X11_7 om_201 (Or.inl (by decide)) rf_201_0 ?_
  refine j_iconst dX11_feed_85 r32_4 ?_
  refine j_aim dX11_feed_86 om_202 rfl (by decide) (by decide) ?_
  refine j_iadd dX11_feed_87 ?_
  refine j_iload dX11_feed_88 rfl ?_
  refine j_bipush dX11_feed_90 r32_24 bp_24 ?_
  refine j_bipush dX11_feed_92 r32_8 bp_8 ?_
  refine j_iload dX11_feed_94 rfl ?_
  refine j_iconst dX11_feed_96 r32_4 ?_
  refine j_irem dX11_feed_97 (by decide) ?_
  refine j_imul dX11_feed_98 ?_
  refine j_isub dX11_feed_99 ?_
  refine j_ishr dX11_feed_100 ?_
  refine j_sipush dX11_feed_101 r32_255 sp_255 ?_
  refine j_iand dX11_feed_104 ?_
  refine j_gd (fun h105a h105b => ?_)
  refine j_sim dX11_feed_105 om_202 rfl h105a h105b ?_
  refine j_aload_n dX11_feed_106 rfl rfl ?_
  refine j_grm dX11_feed_107 gf_X11_7 om_201 (Or.inl (by decide)) rf_201_0 ?_
  refine j_iconst dX11_feed_110 r32_4 ?_
  refine j_dup2 dX11_feed_111 (by decide) (by decide) ?_
  refine j_aim dX11_feed_112 om_202 rfl (by decide) (by decide) ?_
  refine j_iconst dX11_feed_113 r32_1 ?_
  refine j_iadd dX11_feed_114 ?_
  refine j_sim dX11_feed_115 om_202 rfl (by decide) (by decide) ?_
  refine j_iinc dX11_feed_116 rfl (Nat.le_of_ble_eq_true rfl) rfl ?_
  refine j_goto (tgt := 20) dX11_feed_119 rfl ?_
  exact j_mask [true, true, true, true, true, true, true, false] rfl (hk20 (w32 (x6_73 + 1)) (upd2 (upd2 G_73 202 (w32 (10 + (G_73 202 4))) (iand (ishr s0_73 (w32 (24 - (w32 (8 * (irem x6_73 4)))))) 255)) 202 4 (w32 (((upd2 G_73 202 (w32 (10 + (G_73 202 4))) (iand (ishr s0_73 (w32 (24 - (w32 (8 * (irem x6_73 4)))))) 255)) 202 4) + 1))))

set_option maxRecDepth 100000 in
theorem mm_feed_L20_J {l : Launch} {H : Hp} (a1 : Int) (a2 : Int) (a3 : Int) (a4 : Int) (a5 : Int) : ∀ (n_20 : Nat) (x6_20 : Int) (G_20 : Hp), J l M_mm_feed (KWi (fun g => fu H g)) (mm_feed_L20 a1 a2 a3 a4 a5  n_20 x6_20 G_20) 20 [(2, 201), (0, a1), (0, a2), (0, a3), (0, a4), (0, a5), (0, x6_20), (9, 0)] [] 224 (fu H G_20) (0, 0) := by
  intro n_20
  induction n_20 with
  | zero =>
    intro x6_20 G_20
    exact j_none
  | succ n_20 ih =>
    intro x6_20 G_20
    rw [mm_feed_L20]
    refine j_iload dX11_feed_20 rfl ?_
    refine j_bipush dX11_feed_22 r32_20 bp_20 ?_
    refine j_icmp_ge (tgt := 122) dX11_feed_24 rfl (fun h24 => ?_) (fun h24 => ?_)
    · refine j_iload dX11_feed_27 rfl ?_
      refine j_iconst dX11_feed_29 r32_4 ?_
      refine j_icmp_ge (tgt := 37) dX11_feed_30 rfl (fun h30 => ?_) (fun h30 => ?_)
      · refine j_iload_n dX11_feed_33 rfl rfl ?_
        refine j_goto (tgt := 73) dX11_feed_34 rfl ?_
        exact j_mask [true, true, true, true, true, true, true, false] rfl (mm_feed_j73_J a1 a2 a3 a4 a5  (mm_feed_L20 a1 a2 a3 a4 a5 n_20) ih x6_20 a1 G_20)
      · refine j_iload dX11_feed_37 rfl ?_
        refine j_bipush dX11_feed_39 r32_8 bp_8 ?_
        refine j_icmp_ge (tgt := 48) dX11_feed_41 rfl (fun h41 => ?_) (fun h41 => ?_)
        · refine j_iload_n dX11_feed_44 rfl rfl ?_
          refine j_goto (tgt := 73) dX11_feed_45 rfl ?_
          exact j_mask [true, true, true, true, true, true, true, false] rfl (mm_feed_j73_J a1 a2 a3 a4 a5  (mm_feed_L20 a1 a2 a3 a4 a5 n_20) ih x6_20 a2 G_20)
        · refine j_iload dX11_feed_48 rfl ?_
          refine j_bipush dX11_feed_50 r32_12 bp_12 ?_
          refine j_icmp_ge (tgt := 59) dX11_feed_52 rfl (fun h52 => ?_) (fun h52 => ?_)
          · refine j_iload_n dX11_feed_55 rfl rfl ?_
            refine j_goto (tgt := 73) dX11_feed_56 rfl ?_
            exact j_mask [true, true, true, true, true, true, true, false] rfl (mm_feed_j73_J a1 a2 a3 a4 a5  (mm_feed_L20 a1 a2 a3 a4 a5 n_20) ih x6_20 a3 G_20)
          · refine j_iload dX11_feed_59 rfl ?_
            refine j_bipush dX11_feed_61 r32_16 bp_16 ?_
            refine j_icmp_ge (tgt := 71) dX11_feed_63 rfl (fun h63 => ?_) (fun h63 => ?_)
            · refine j_iload dX11_feed_66 rfl ?_
              refine j_goto (tgt := 73) dX11_feed_68 rfl ?_
              exact j_mask [true, true, true, true, true, true, true, false] rfl (mm_feed_j73_J a1 a2 a3 a4 a5  (mm_feed_L20 a1 a2 a3 a4 a5 n_20) ih x6_20 a4 G_20)
            · refine j_iload dX11_feed_71 rfl ?_
              exact j_mask [true, true, true, true, true, true, true, false] rfl (mm_feed_j73_J a1 a2 a3 a4 a5  (mm_feed_L20 a1 a2 a3 a4 a5 n_20) ih x6_20 a5 G_20)
    · refine j_aload_n dX11_feed_122 rfl rfl ?_
      refine j_grm dX11_feed_123 gf_X11_7 om_201 (Or.inl (by decide)) rf_201_0 ?_
      refine j_iconst dX11_feed_126 r32_4 ?_
      refine j_aim dX11_feed_127 om_202 rfl (by decide) (by decide) ?_
      exact j_ireturn dX11_feed_128 rfl rfl (Nat.zero_le _) (Nat.zero_le _)

set_option maxRecDepth 100000 in
theorem mm_feed_J {l : Launch} {H : Hp} (a1 : Int) (a2 : Int) (a3 : Int) (a4 : Int) (a5 : Int) (G : Hp) : J l M_mm_feed (KWi (fun g => fu H g)) (mm_feed a1 a2 a3 a4 a5 G) 0 [(2, 201), (0, a1), (0, a2), (0, a3), (0, a4), (0, a5), (9, 0), (9, 0)] [] 224 (fu H G) (0, 0) := by
  unfold mm_feed
  refine j_aload_n dX11_feed_0 rfl rfl ?_
  refine j_grm dX11_feed_1 gf_X11_7 om_201 (Or.inl (by decide)) rf_201_0 ?_
  refine j_iconst dX11_feed_4 r32_4 ?_
  refine j_aim dX11_feed_5 om_202 rfl (by decide) (by decide) ?_
  refine j_bipush dX11_feed_6 r32_20 bp_20 ?_
  refine j_iadd dX11_feed_8 ?_
  refine j_sipush dX11_feed_9 r32_600 sp_600 ?_
  refine j_icmp_le (tgt := 17) dX11_feed_12 rfl (fun h12 => ?_) (fun h12 => ?_)
  · refine j_iconst dX11_feed_15 r32_m1 ?_
    exact j_ireturn dX11_feed_16 rfl rfl (Nat.zero_le _) (Nat.zero_le _)
  · refine j_iconst dX11_feed_17 r32_0 ?_
    refine j_istore dX11_feed_18 (Nat.le_of_ble_eq_true rfl) rfl ?_
    exact j_mask [true, true, true, true, true, true, true, false] rfl (mm_feed_L20_J a1 a2 a3 a4 a5 FU 0 G)

set_option maxRecDepth 100000 in
theorem mm_feed_ct {l : Launch} {H : Hp} (a1 : Int) (a2 : Int) (a3 : Int) (a4 : Int) (a5 : Int) (G : Hp) {r : Int × Hp} (h : mm_feed a1 a2 a3 a4 a5 G = some r) : Ct l M_mm_feed [(2, 201), (0, a1), (0, a2), (0, a3), (0, a4), (0, a5)] 224 (fu H G) ((KWi (fun g => fu H g)) r) :=
  ct_of_J (by decide +kernel) rfl (Nat.le_of_ble_eq_true rfl) (mm_feed_J a1 a2 a3 a4 a5 G) h
set_option maxRecDepth 100000 in
theorem mm_end_J {l : Launch} {H : Hp} (a1 : Int) (G : Hp) : J l M_mm_end (KWi (fun g => fu H g)) (mm_end a1 G) 0 [(2, 201), (0, a1)] [] 224 (fu H G) (0, 0) := by
  unfold mm_end
  refine j_iload_n dX11_end_0 rfl rfl ?_
  refine j_if_lt (tgt := 14) dX11_end_1 rfl (fun h1 => ?_) (fun h1 => ?_)
  · refine j_iconst dX11_end_14 r32_m1 ?_
    exact j_ireturn dX11_end_15 rfl rfl (Nat.zero_le _) (Nat.zero_le _)
  · refine j_iload_n dX11_end_4 rfl rfl ?_
    refine j_aload_n dX11_end_5 rfl rfl ?_
    refine j_grm dX11_end_6 gf_X11_7 om_201 (Or.inl (by decide)) rf_201_0 ?_
    refine j_iconst dX11_end_9 r32_4 ?_
    refine j_aim dX11_end_10 om_202 rfl (by decide) (by decide) ?_
    refine j_icmp_le (tgt := 16) dX11_end_11 rfl (fun h11 => ?_) (fun h11 => ?_)
    · refine j_iconst dX11_end_14 r32_m1 ?_
      exact j_ireturn dX11_end_15 rfl rfl (Nat.zero_le _) (Nat.zero_le _)
    · refine j_aload_n dX11_end_16 rfl rfl ?_
      refine j_grm dX11_end_17 gf_X11_7 om_201 (Or.inl (by decide)) rf_201_0 ?_
      refine j_iconst dX11_end_20 r32_4 ?_
      refine j_iload_n dX11_end_21 rfl rfl ?_
      refine j_sim dX11_end_22 om_202 rfl (by decide) (by decide) ?_
      refine j_iload_n dX11_end_23 rfl rfl ?_
      exact j_ireturn dX11_end_24 rfl rfl (Nat.zero_le _) (Nat.zero_le _)

set_option maxRecDepth 100000 in
theorem mm_end_ct {l : Launch} {H : Hp} (a1 : Int) (G : Hp) {r : Int × Hp} (h : mm_end a1 G = some r) : Ct l M_mm_end [(2, 201), (0, a1)] 224 (fu H G) ((KWi (fun g => fu H g)) r) :=
  ct_of_J (by decide +kernel) rfl (Nat.le_of_ble_eq_true rfl) (mm_end_J a1 G) h
set_option maxRecDepth 100000 in
theorem mm_byteAt_J {l : Launch} {H : Hp} (a1 : Int) (G : Hp) : J l M_mm_byteAt (KRi (fu H G)) (mm_byteAt a1 G) 0 [(2, 201), (0, a1)] [] 224 (fu H G) (0, 0) := by
  unfold mm_byteAt
  refine j_iload_n dX11_byteAt_0 rfl rfl ?_
  refine j_aload_n dX11_byteAt_1 rfl rfl ?_
  refine j_gim dX11_byteAt_2 gf_X11_77 om_201 ?_
  refine j_icmp_ge (tgt := 20) dX11_byteAt_5 rfl (fun h5 => ?_) (fun h5 => ?_)
  · refine j_aload_n dX11_byteAt_8 rfl rfl ?_
    refine j_grm dX11_byteAt_9 gf_X11_7 om_201 (Or.inl (by decide)) rf_201_0 ?_
    refine j_bipush dX11_byteAt_12 r32_10 bp_10 ?_
    refine j_iload_n dX11_byteAt_14 rfl rfl ?_
    refine j_iadd dX11_byteAt_15 ?_
    refine j_gd (fun h16a h16b => ?_)
    refine j_aim dX11_byteAt_16 om_202 rfl h16a h16b ?_
    refine j_goto (tgt := 21) dX11_byteAt_17 rfl ?_
    exact j_ireturn dX11_byteAt_21 rfl rfl (Nat.zero_le _) (Nat.zero_le _)
  · refine j_iconst dX11_byteAt_20 r32_m1 ?_
    exact j_ireturn dX11_byteAt_21 rfl rfl (Nat.zero_le _) (Nat.zero_le _)

set_option maxRecDepth 100000 in
theorem mm_byteAt_ct {l : Launch} {H : Hp} (a1 : Int) (G : Hp) {r : Int} (h : mm_byteAt a1 G = some r) : Ct l M_mm_byteAt [(2, 201), (0, a1)] 224 (fu H G) ((KRi (fu H G)) r) :=
  ct_of_J (by decide +kernel) rfl (Nat.le_of_ble_eq_true rfl) (mm_byteAt_J a1 G) h
set_option maxRecDepth 100000 in
theorem mm_isLetter_J {l : Launch} {Ch : Hp} (a0 : Int) : J l M_mm_isLetter (KRb Ch) (some (mm_isLetter a0)) 0 [(0, a0)] [] 224 Ch (0, 0) := by
  unfold mm_isLetter
  refine j_iload_n dX11_isLetter_0 rfl rfl ?_
  refine j_bipush dX11_isLetter_1 r32_97 bp_97 ?_
  rw [some_ite]
  refine j_icmp_lt (tgt := 16) dX11_isLetter_3 rfl (fun h3 => ?_) (fun h3 => ?_)
  · refine j_iload_n dX11_isLetter_6 rfl rfl ?_
    refine j_bipush dX11_isLetter_7 r32_122 bp_122 ?_
    rw [some_ite]
    refine j_icmp_gt (tgt := 16) dX11_isLetter_9 rfl (fun h9 => ?_) (fun h9 => ?_)
    · refine j_iconst dX11_isLetter_12 r32_1 ?_
      refine j_goto (tgt := 17) dX11_isLetter_13 rfl ?_
      exact j_zreturn (b := true) dX11_isLetter_17 rfl rfl (Nat.zero_le _) (Nat.zero_le _)
    · refine j_iconst dX11_isLetter_16 r32_0 ?_
      exact j_zreturn (b := false) dX11_isLetter_17 rfl rfl (Nat.zero_le _) (Nat.zero_le _)
  · refine j_iconst dX11_isLetter_16 r32_0 ?_
    exact j_zreturn (b := false) dX11_isLetter_17 rfl rfl (Nat.zero_le _) (Nat.zero_le _)

set_option maxRecDepth 100000 in
theorem mm_isLetter_ct {l : Launch} {Ch : Hp} (a0 : Int) : Ct l M_mm_isLetter [(0, a0)] 224 Ch (KRb Ch (mm_isLetter a0)) :=
  ct_of_J (by decide +kernel) rfl (Nat.le_of_ble_eq_true rfl) (mm_isLetter_J a0) rfl
set_option maxRecDepth 100000 in
theorem mm_isDigit_J {l : Launch} {Ch : Hp} (a0 : Int) : J l M_mm_isDigit (KRb Ch) (some (mm_isDigit a0)) 0 [(0, a0)] [] 224 Ch (0, 0) := by
  unfold mm_isDigit
  refine j_iload_n dX11_isDigit_0 rfl rfl ?_
  refine j_bipush dX11_isDigit_1 r32_48 bp_48 ?_
  rw [some_ite]
  refine j_icmp_lt (tgt := 16) dX11_isDigit_3 rfl (fun h3 => ?_) (fun h3 => ?_)
  · refine j_iload_n dX11_isDigit_6 rfl rfl ?_
    refine j_bipush dX11_isDigit_7 r32_57 bp_57 ?_
    rw [some_ite]
    refine j_icmp_gt (tgt := 16) dX11_isDigit_9 rfl (fun h9 => ?_) (fun h9 => ?_)
    · refine j_iconst dX11_isDigit_12 r32_1 ?_
      refine j_goto (tgt := 17) dX11_isDigit_13 rfl ?_
      exact j_zreturn (b := true) dX11_isDigit_17 rfl rfl (Nat.zero_le _) (Nat.zero_le _)
    · refine j_iconst dX11_isDigit_16 r32_0 ?_
      exact j_zreturn (b := false) dX11_isDigit_17 rfl rfl (Nat.zero_le _) (Nat.zero_le _)
  · refine j_iconst dX11_isDigit_16 r32_0 ?_
    exact j_zreturn (b := false) dX11_isDigit_17 rfl rfl (Nat.zero_le _) (Nat.zero_le _)

set_option maxRecDepth 100000 in
theorem mm_isDigit_ct {l : Launch} {Ch : Hp} (a0 : Int) : Ct l M_mm_isDigit [(0, a0)] 224 Ch (KRb Ch (mm_isDigit a0)) :=
  ct_of_J (by decide +kernel) rfl (Nat.le_of_ble_eq_true rfl) (mm_isDigit_J a0) rfl
set_option maxRecDepth 100000 in
theorem mm_four_J {l : Launch} {Ch : Hp} (a0 : Int) (a1 : Int) (a2 : Int) (a3 : Int) : J l M_mm_four (KRl Ch) (some (mm_four a0 a1 a2 a3)) 0 [(0, a0), (0, a1), (0, a2), (0, a3)] [] 224 Ch (0, 0) := by
  unfold mm_four
  refine j_iload_n dX11_four_0 rfl rfl ?_
  refine j_bipush dX11_four_1 r32_32 bp_32 ?_
  refine j_imul dX11_four_3 ?_
  refine j_iload_n dX11_four_4 rfl rfl ?_
  refine j_iadd dX11_four_5 ?_
  refine j_bipush dX11_four_6 r32_32 bp_32 ?_
  refine j_imul dX11_four_8 ?_
  refine j_iload_n dX11_four_9 rfl rfl ?_
  refine j_iadd dX11_four_10 ?_
  refine j_bipush dX11_four_11 r32_32 bp_32 ?_
  refine j_imul dX11_four_13 ?_
  refine j_iload_n dX11_four_14 rfl rfl ?_
  refine j_iadd dX11_four_15 ?_
  refine j_i2l dX11_four_16 ?_
  exact j_lreturn dX11_four_17 rfl rfl (Nat.zero_le _) (Nat.zero_le _)

set_option maxRecDepth 100000 in
theorem mm_four_ct {l : Launch} {Ch : Hp} (a0 : Int) (a1 : Int) (a2 : Int) (a3 : Int) : Ct l M_mm_four [(0, a0), (0, a1), (0, a2), (0, a3)] 224 Ch (KRl Ch (mm_four a0 a1 a2 a3)) :=
  ct_of_J (by decide +kernel) rfl (Nat.le_of_ble_eq_true rfl) (mm_four_J a0 a1 a2 a3) rfl
set_option maxRecDepth 100000 in
theorem mm_eight_J {l : Launch} {Ch : Hp} (a0 : Int) (a1 : Int) (a2 : Int) (a3 : Int) (a4 : Int) (a5 : Int) (a6 : Int) (a7 : Int) : J l M_mm_eight (KRl Ch) (some (mm_eight a0 a1 a2 a3 a4 a5 a6 a7)) 0 [(0, a0), (0, a1), (0, a2), (0, a3), (0, a4), (0, a5), (0, a6), (0, a7)] [] 224 Ch (0, 0) := by
  unfold mm_eight
  refine j_iload_n dX11_eight_0 rfl rfl ?_
  refine j_iload_n dX11_eight_1 rfl rfl ?_
  refine j_iload_n dX11_eight_2 rfl rfl ?_
  refine j_iload_n dX11_eight_3 rfl rfl ?_
  refine j_cSRlp dX11_eight_4 sm_mm_four lk_X11_81 rfl (As := [(0, a0), (0, a1), (0, a2), (0, a3)]) (S := []) rfl ⟨by decide, by decide⟩ (Nat.le_of_ble_eq_true rfl) (mm_four_ct a0 a1 a2 a3) ?_
  refine j_ldc2 dX11_eight_7 cs_X11_85 (by unfold r64; omega) ?_
  refine j_lmul dX11_eight_10 ?_
  refine j_iload dX11_eight_11 rfl ?_
  refine j_iload dX11_eight_13 rfl ?_
  refine j_iload dX11_eight_15 rfl ?_
  refine j_iload dX11_eight_17 rfl ?_
  refine j_cSRlp dX11_eight_19 sm_mm_four lk_X11_81 rfl (As := [(0, a4), (0, a5), (0, a6), (0, a7)]) (S := [(1, w64 ((mm_four a0 a1 a2 a3) * 1048576))]) rfl ⟨by decide, by decide⟩ (Nat.le_of_ble_eq_true rfl) (mm_four_ct a4 a5 a6 a7) ?_
  refine j_ladd dX11_eight_22 ?_
  exact j_lreturn dX11_eight_23 rfl rfl (Nat.zero_le _) (Nat.zero_le _)

set_option maxRecDepth 100000 in
theorem mm_eight_ct {l : Launch} {Ch : Hp} (a0 : Int) (a1 : Int) (a2 : Int) (a3 : Int) (a4 : Int) (a5 : Int) (a6 : Int) (a7 : Int) : Ct l M_mm_eight [(0, a0), (0, a1), (0, a2), (0, a3), (0, a4), (0, a5), (0, a6), (0, a7)] 224 Ch (KRl Ch (mm_eight a0 a1 a2 a3 a4 a5 a6 a7)) :=
  ct_of_J (by decide +kernel) rfl (Nat.le_of_ble_eq_true rfl) (mm_eight_J a0 a1 a2 a3 a4 a5 a6 a7) rfl
set_option maxRecDepth 100000 in
theorem mm_wordOf_J {l : Launch} {Ch : Hp} (a0 : Int) : J l M_mm_wordOf (KRi Ch) (some (mm_wordOf a0)) 0 [(1, a0), (9, 0)] [] 224 Ch (0, 0) := by
  unfold mm_wordOf
  refine j_lload_n dX11_wordOf_0 rfl rfl ?_
  refine j_bipush dX11_wordOf_1 r32_23 bp_23 ?_
  refine j_bipush dX11_wordOf_3 r32_15 bp_15 ?_
  refine j_bipush dX11_wordOf_5 r32_18 bp_18 ?_
  refine j_iconst dX11_wordOf_7 r32_4 ?_
  refine j_cSRlp dX11_wordOf_8 sm_mm_four lk_X11_81 rfl (As := [(0, 23), (0, 15), (0, 18), (0, 4)]) (S := [(1, a0)]) rfl ⟨by decide, by decide⟩ (Nat.le_of_ble_eq_true rfl) (mm_four_ct 23 15 18 4) ?_
  refine j_lcmp dX11_wordOf_11 ?_
  rw [some_ite]
  refine j_if_ne (tgt := 17) dX11_wordOf_12 rfl (fun h12 => ?_) (fun h12 => ?_)
  · refine j_iconst dX11_wordOf_15 r32_1 ?_
    exact j_ireturn dX11_wordOf_16 rfl rfl (Nat.zero_le _) (Nat.zero_le _)
  · refine j_lload_n dX11_wordOf_17 rfl rfl ?_
    refine j_bipush dX11_wordOf_18 r32_14 bp_14 ?_
    refine j_iconst dX11_wordOf_20 r32_5 ?_
    refine j_iconst dX11_wordOf_21 r32_1 ?_
    refine j_bipush dX11_wordOf_22 r32_18 bp_18 ?_
    refine j_cSRlp dX11_wordOf_24 sm_mm_four lk_X11_81 rfl (As := [(0, 14), (0, 5), (0, 1), (0, 18)]) (S := [(1, a0)]) rfl ⟨by decide, by decide⟩ (Nat.le_of_ble_eq_true rfl) (mm_four_ct 14 5 1 18) ?_
    refine j_lcmp dX11_wordOf_27 ?_
    rw [some_ite]
    refine j_if_ne (tgt := 33) dX11_wordOf_28 rfl (fun h28 => ?_) (fun h28 => ?_)
    · refine j_iconst dX11_wordOf_31 r32_2 ?_
      exact j_ireturn dX11_wordOf_32 rfl rfl (Nat.zero_le _) (Nat.zero_le _)
    · refine j_lload_n dX11_wordOf_33 rfl rfl ?_
      refine j_iconst dX11_wordOf_34 r32_0 ?_
      refine j_iconst dX11_wordOf_35 r32_0 ?_
      refine j_bipush dX11_wordOf_36 r32_18 bp_18 ?_
      refine j_iconst dX11_wordOf_38 r32_5 ?_
      refine j_iconst dX11_wordOf_39 r32_1 ?_
      refine j_iconst dX11_wordOf_40 r32_4 ?_
      refine j_iconst dX11_wordOf_41 r32_5 ?_
      refine j_bipush dX11_wordOf_42 r32_18 bp_18 ?_
      refine j_cSRlp dX11_wordOf_44 sm_mm_eight lk_X11_87 rfl (As := [(0, 0), (0, 0), (0, 18), (0, 5), (0, 1), (0, 4), (0, 5), (0, 18)]) (S := [(1, a0)]) rfl ⟨by decide, by decide⟩ (Nat.le_of_ble_eq_true rfl) (mm_eight_ct 0 0 18 5 1 4 5 18) ?_
      refine j_lcmp dX11_wordOf_47 ?_
      rw [some_ite]
      refine j_if_ne (tgt := 53) dX11_wordOf_48 rfl (fun h48 => ?_) (fun h48 => ?_)
      · refine j_iconst dX11_wordOf_51 r32_3 ?_
        exact j_ireturn dX11_wordOf_52 rfl rfl (Nat.zero_le _) (Nat.zero_le _)
      · refine j_lload_n dX11_wordOf_53 rfl rfl ?_
        refine j_iconst dX11_wordOf_54 r32_0 ?_
        refine j_iconst dX11_wordOf_55 r32_0 ?_
        refine j_iconst dX11_wordOf_56 r32_0 ?_
        refine j_bipush dX11_wordOf_57 r32_23 bp_23 ?_
        refine j_iconst dX11_wordOf_59 r32_1 ?_
        refine j_bipush dX11_wordOf_60 r32_14 bp_14 ?_
        refine j_bipush dX11_wordOf_62 r32_20 bp_20 ?_
        refine j_bipush dX11_wordOf_64 r32_19 bp_19 ?_
        refine j_cSRlp dX11_wordOf_66 sm_mm_eight lk_X11_87 rfl (As := [(0, 0), (0, 0), (0, 0), (0, 23), (0, 1), (0, 14), (0, 20), (0, 19)]) (S := [(1, a0)]) rfl ⟨by decide, by decide⟩ (Nat.le_of_ble_eq_true rfl) (mm_eight_ct 0 0 0 23 1 14 20 19) ?_
        refine j_lcmp dX11_wordOf_69 ?_
        rw [some_ite]
        refine j_if_ne (tgt := 75) dX11_wordOf_70 rfl (fun h70 => ?_) (fun h70 => ?_)
        · refine j_iconst dX11_wordOf_73 r32_4 ?_
          exact j_ireturn dX11_wordOf_74 rfl rfl (Nat.zero_le _) (Nat.zero_le _)
        · refine j_lload_n dX11_wordOf_75 rfl rfl ?_
          refine j_bipush dX11_wordOf_76 r32_18 bp_18 ?_
          refine j_iconst dX11_wordOf_78 r32_5 ?_
          refine j_iconst dX11_wordOf_79 r32_1 ?_
          refine j_iconst dX11_wordOf_80 r32_4 ?_
          refine j_cSRlp dX11_wordOf_81 sm_mm_four lk_X11_81 rfl (As := [(0, 18), (0, 5), (0, 1), (0, 4)]) (S := [(1, a0)]) rfl ⟨by decide, by decide⟩ (Nat.le_of_ble_eq_true rfl) (mm_four_ct 18 5 1 4) ?_
          refine j_lcmp dX11_wordOf_84 ?_
          rw [some_ite]
          refine j_if_ne (tgt := 90) dX11_wordOf_85 rfl (fun h85 => ?_) (fun h85 => ?_)
          · refine j_iconst dX11_wordOf_88 r32_5 ?_
            exact j_ireturn dX11_wordOf_89 rfl rfl (Nat.zero_le _) (Nat.zero_le _)
          · refine j_lload_n dX11_wordOf_90 rfl rfl ?_
            refine j_iconst dX11_wordOf_91 r32_0 ?_
            refine j_bipush dX11_wordOf_92 r32_19 bp_19 ?_
            refine j_iconst dX11_wordOf_94 r32_5 ?_
            refine j_bipush dX11_wordOf_95 r32_20 bp_20 ?_
            refine j_cSRlp dX11_wordOf_97 sm_mm_four lk_X11_81 rfl (As := [(0, 0), (0, 19), (0, 5), (0, 20)]) (S := [(1, a0)]) rfl ⟨by decide, by decide⟩ (Nat.le_of_ble_eq_true rfl) (mm_four_ct 0 19 5 20) ?_
            refine j_lcmp dX11_wordOf_100 ?_
            rw [some_ite]
            refine j_if_ne (tgt := 107) dX11_wordOf_101 rfl (fun h101 => ?_) (fun h101 => ?_)
            · refine j_bipush dX11_wordOf_104 r32_6 bp_6 ?_
              exact j_ireturn dX11_wordOf_106 rfl rfl (Nat.zero_le _) (Nat.zero_le _)
            · refine j_lload_n dX11_wordOf_107 rfl rfl ?_
              refine j_bipush dX11_wordOf_108 r32_19 bp_19 ?_
              refine j_bipush dX11_wordOf_110 r32_20 bp_20 ?_
              refine j_iconst dX11_wordOf_112 r32_5 ?_
              refine j_bipush dX11_wordOf_113 r32_20 bp_20 ?_
              refine j_cSRlp dX11_wordOf_115 sm_mm_four lk_X11_81 rfl (As := [(0, 19), (0, 20), (0, 5), (0, 20)]) (S := [(1, a0)]) rfl ⟨by decide, by decide⟩ (Nat.le_of_ble_eq_true rfl) (mm_four_ct 19 20 5 20) ?_
              refine j_lcmp dX11_wordOf_118 ?_
              rw [some_ite]
              refine j_if_ne (tgt := 125) dX11_wordOf_119 rfl (fun h119 => ?_) (fun h119 => ?_)
              · refine j_bipush dX11_wordOf_122 r32_7 bp_7 ?_
                exact j_ireturn dX11_wordOf_124 rfl rfl (Nat.zero_le _) (Nat.zero_le _)
              · refine j_lload_n dX11_wordOf_125 rfl rfl ?_
                refine j_bipush dX11_wordOf_126 r32_10 bp_10 ?_
                refine j_bipush dX11_wordOf_128 r32_15 bp_15 ?_
                refine j_bipush dX11_wordOf_130 r32_9 bp_9 ?_
                refine j_bipush dX11_wordOf_132 r32_14 bp_14 ?_
                refine j_cSRlp dX11_wordOf_134 sm_mm_four lk_X11_81 rfl (As := [(0, 10), (0, 15), (0, 9), (0, 14)]) (S := [(1, a0)]) rfl ⟨by decide, by decide⟩ (Nat.le_of_ble_eq_true rfl) (mm_four_ct 10 15 9 14) ?_
                refine j_lcmp dX11_wordOf_137 ?_
                rw [some_ite]
                refine j_if_ne (tgt := 144) dX11_wordOf_138 rfl (fun h138 => ?_) (fun h138 => ?_)
                · refine j_bipush dX11_wordOf_141 r32_8 bp_8 ?_
                  exact j_ireturn dX11_wordOf_143 rfl rfl (Nat.zero_le _) (Nat.zero_le _)
                · refine j_lload_n dX11_wordOf_144 rfl rfl ?_
                  refine j_bipush dX11_wordOf_145 r32_16 bp_16 ?_
                  refine j_iconst dX11_wordOf_147 r32_1 ?_
                  refine j_bipush dX11_wordOf_148 r32_18 bp_18 ?_
                  refine j_bipush dX11_wordOf_150 r32_20 bp_20 ?_
                  refine j_cSRlp dX11_wordOf_152 sm_mm_four lk_X11_81 rfl (As := [(0, 16), (0, 1), (0, 18), (0, 20)]) (S := [(1, a0)]) rfl ⟨by decide, by decide⟩ (Nat.le_of_ble_eq_true rfl) (mm_four_ct 16 1 18 20) ?_
                  refine j_lcmp dX11_wordOf_155 ?_
                  rw [some_ite]
                  refine j_if_ne (tgt := 162) dX11_wordOf_156 rfl (fun h156 => ?_) (fun h156 => ?_)
                  · refine j_bipush dX11_wordOf_159 r32_9 bp_9 ?_
                    exact j_ireturn dX11_wordOf_161 rfl rfl (Nat.zero_le _) (Nat.zero_le _)
                  · refine j_lload_n dX11_wordOf_162 rfl rfl ?_
                    refine j_iconst dX11_wordOf_163 r32_0 ?_
                    refine j_iconst dX11_wordOf_164 r32_0 ?_
                    refine j_iconst dX11_wordOf_165 r32_0 ?_
                    refine j_bipush dX11_wordOf_166 r32_16 bp_16 ?_
                    refine j_bipush dX11_wordOf_168 r32_18 bp_18 ?_
                    refine j_bipush dX11_wordOf_170 r32_9 bp_9 ?_
                    refine j_bipush dX11_wordOf_172 r32_14 bp_14 ?_
                    refine j_bipush dX11_wordOf_174 r32_20 bp_20 ?_
                    refine j_cSRlp dX11_wordOf_176 sm_mm_eight lk_X11_87 rfl (As := [(0, 0), (0, 0), (0, 0), (0, 16), (0, 18), (0, 9), (0, 14), (0, 20)]) (S := [(1, a0)]) rfl ⟨by decide, by decide⟩ (Nat.le_of_ble_eq_true rfl) (mm_eight_ct 0 0 0 16 18 9 14 20) ?_
                    refine j_lcmp dX11_wordOf_179 ?_
                    rw [some_ite]
                    refine j_if_ne (tgt := 186) dX11_wordOf_180 rfl (fun h180 => ?_) (fun h180 => ?_)
                    · refine j_bipush dX11_wordOf_183 r32_10 bp_10 ?_
                      exact j_ireturn dX11_wordOf_185 rfl rfl (Nat.zero_le _) (Nat.zero_le _)
                    · refine j_lload_n dX11_wordOf_186 rfl rfl ?_
                      refine j_iconst dX11_wordOf_187 r32_0 ?_
                      refine j_bipush dX11_wordOf_188 r32_23 bp_23 ?_
                      refine j_iconst dX11_wordOf_190 r32_1 ?_
                      refine j_bipush dX11_wordOf_191 r32_19 bp_19 ?_
                      refine j_cSRlp dX11_wordOf_193 sm_mm_four lk_X11_81 rfl (As := [(0, 0), (0, 23), (0, 1), (0, 19)]) (S := [(1, a0)]) rfl ⟨by decide, by decide⟩ (Nat.le_of_ble_eq_true rfl) (mm_four_ct 0 23 1 19) ?_
                      refine j_lcmp dX11_wordOf_196 ?_
                      rw [some_ite]
                      refine j_if_ne (tgt := 205) dX11_wordOf_197 rfl (fun h197 => ?_) (fun h197 => ?_)
                      · refine j_bipush dX11_wordOf_200 r32_11 bp_11 ?_
                        refine j_goto (tgt := 207) dX11_wordOf_202 rfl ?_
                        exact j_ireturn dX11_wordOf_207 rfl rfl (Nat.zero_le _) (Nat.zero_le _)
                      · refine j_bipush dX11_wordOf_205 r32_99 bp_99 ?_
                        exact j_ireturn dX11_wordOf_207 rfl rfl (Nat.zero_le _) (Nat.zero_le _)

set_option maxRecDepth 100000 in
theorem mm_wordOf_ct {l : Launch} {Ch : Hp} (a0 : Int) : Ct l M_mm_wordOf [(1, a0)] 224 Ch (KRi Ch (mm_wordOf a0)) :=
  ct_of_J (by decide +kernel) rfl (Nat.le_of_ble_eq_true rfl) (mm_wordOf_J a0) rfl
set_option maxRecDepth 100000 in
theorem mm_advance_L0_J {l : Launch} {H : Hp} (k39 : Hp → Option (Hp)) (hk39 : ∀ (G_39 : Hp), J l M_mm_advance (KWv (fun g => fu H g)) (k39 G_39) 39 [(2, 201), (9, 0), (9, 0), (9, 0)] [] 224 (fu H G_39) (0, 0)) : ∀ (n_0 : Nat) (G_0 : Hp), J l M_mm_advance (KWv (fun g => fu H g)) (mm_advance_L0 k39 n_0 G_0) 0 [(2, 201), (9, 0), (9, 0), (9, 0)] [] 224 (fu H G_0) (0, 0) := by
  intro n_0
  induction n_0 with
  | zero =>
    intro G_0
    exact j_none
  | succ n_0 ih =>
    intro G_0
    rw [mm_advance_L0]
    refine j_aload_n dX11_advance_0 rfl rfl ?_
    refine j_aload_n dX11_advance_1 rfl rfl ?_
    refine j_gim dX11_advance_2 gf_X11_91 om_201 ?_
    refine j_cVRi dX11_advance_5 im_mm_byteAt lk_X11_94 rfl (As := [(0, G_0 201 3)]) (S := []) rfl om_201.1 ⟨by decide, by decide⟩ (Nat.le_of_ble_eq_true rfl) (fun r hr => mm_byteAt_ct (G_0 201 3) G_0 hr) (fun v5 _ => ?_)
    refine j_bipush dX11_advance_8 r32_10 bp_10 ?_
    refine j_icmp_eq (tgt := 26) dX11_advance_10 rfl (fun h10 => ?_) (fun h10 => ?_)
    · refine j_aload_n dX11_advance_26 rfl rfl ?_
      refine j_dup dX11_advance_27 (by decide) ?_
      refine j_gim dX11_advance_28 gf_X11_91 om_201 ?_
      refine j_iconst dX11_advance_31 r32_1 ?_
      refine j_iadd dX11_advance_32 ?_
      refine j_pim dX11_advance_33 gf_X11_91 po_11_3 om_201 (nf_11_3 _) ?_
      refine j_goto (tgt := 0) dX11_advance_36 rfl ?_
      exact j_mask [true, false, false, false] rfl (ih (upd2 G_0 201 3 (w32 ((G_0 201 3) + 1))))
    · refine j_aload_n dX11_advance_13 rfl rfl ?_
      refine j_aload_n dX11_advance_14 rfl rfl ?_
      refine j_gim dX11_advance_15 gf_X11_91 om_201 ?_
      refine j_cVRi dX11_advance_18 im_mm_byteAt lk_X11_94 rfl (As := [(0, G_0 201 3)]) (S := []) rfl om_201.1 ⟨by decide, by decide⟩ (Nat.le_of_ble_eq_true rfl) (fun r hr => mm_byteAt_ct (G_0 201 3) G_0 hr) (fun v18 _ => ?_)
      refine j_bipush dX11_advance_21 r32_32 bp_32 ?_
      refine j_icmp_ne (tgt := 39) dX11_advance_23 rfl (fun h23 => ?_) (fun h23 => ?_)
      · refine j_aload_n dX11_advance_26 rfl rfl ?_
        refine j_dup dX11_advance_27 (by decide) ?_
        refine j_gim dX11_advance_28 gf_X11_91 om_201 ?_
        refine j_iconst dX11_advance_31 r32_1 ?_
        refine j_iadd dX11_advance_32 ?_
        refine j_pim dX11_advance_33 gf_X11_91 po_11_3 om_201 (nf_11_3 _) ?_
        refine j_goto (tgt := 0) dX11_advance_36 rfl ?_
        exact j_mask [true, false, false, false] rfl (ih (upd2 G_0 201 3 (w32 ((G_0 201 3) + 1))))
      · exact j_mask [true, false, false, false] rfl (hk39 G_0)

set_option maxRecDepth 100000 in
theorem mm_advance_L77_J {l : Launch} {H : Hp} (k138 : Int → Hp → Option (Hp)) (hk138 : ∀ (x2_138 : Int) (G_138 : Hp), J l M_mm_advance (KWv (fun g => fu H g)) (k138 x2_138 G_138) 138 [(2, 201), (9, 0), (1, x2_138), (9, 0)] [] 224 (fu H G_138) (0, 0)) : ∀ (n_77 : Nat) (x2_77 : Int) (G_77 : Hp), J l M_mm_advance (KWv (fun g => fu H g)) (mm_advance_L77 k138 n_77 x2_77 G_77) 77 [(2, 201), (9, 0), (1, x2_77), (9, 0)] [] 224 (fu H G_77) (0, 0) := by
  intro n_77
  induction n_77 with
  | zero =>
    intro x2_77 G_77
    exact j_none
  | succ n_77 ih =>
    intro x2_77 G_77
    rw [mm_advance_L77]
    refine j_aload_n dX11_advance_77 rfl rfl ?_
    refine j_aload_n dX11_advance_78 rfl rfl ?_
    refine j_gim dX11_advance_79 gf_X11_91 om_201 ?_
    refine j_cVRi dX11_advance_82 im_mm_byteAt lk_X11_94 rfl (As := [(0, G_77 201 3)]) (S := []) rfl om_201.1 ⟨by decide, by decide⟩ (Nat.le_of_ble_eq_true rfl) (fun r hr => mm_byteAt_ct (G_77 201 3) G_77 hr) (fun v82 _ => ?_)
    refine j_cSRbp dX11_advance_85 sm_mm_isLetter lk_X11_104 rfl (As := [(0, v82)]) (S := []) rfl ⟨by decide, by decide⟩ (Nat.le_of_ble_eq_true rfl) (mm_isLetter_ct v82) ?_
    refine j_ifb_eq (tgt := 138) dX11_advance_88 rfl (fun h88 => ?_) (fun h88 => ?_)
    · refine j_aload_n dX11_advance_91 rfl rfl ?_
      refine j_gim dX11_advance_92 gf_X11_91 om_201 ?_
      refine j_aload_n dX11_advance_95 rfl rfl ?_
      refine j_gim dX11_advance_96 gf_X11_98 om_201 ?_
      refine j_isub dX11_advance_99 ?_
      refine j_bipush dX11_advance_100 r32_8 bp_8 ?_
      refine j_icmp_ge (tgt := 125) dX11_advance_102 rfl (fun h102 => ?_) (fun h102 => ?_)
      · refine j_ldc2 dX11_advance_105 cs_X11_108 (by unfold r64; omega) ?_
        refine j_lload_n dX11_advance_108 rfl rfl ?_
        refine j_lmul dX11_advance_109 ?_
        refine j_aload_n dX11_advance_110 rfl rfl ?_
        refine j_aload_n dX11_advance_111 rfl rfl ?_
        refine j_gim dX11_advance_112 gf_X11_91 om_201 ?_
        refine j_cVRi dX11_advance_115 im_mm_byteAt lk_X11_94 rfl (As := [(0, G_77 201 3)]) (S := [(1, w64 (32 * x2_77))]) rfl om_201.1 ⟨by decide, by decide⟩ (Nat.le_of_ble_eq_true rfl) (fun r hr => mm_byteAt_ct (G_77 201 3) G_77 hr) (fun v115 _ => ?_)
        refine j_i2l dX11_advance_118 ?_
        refine j_ladd dX11_advance_119 ?_
        refine j_ldc2 dX11_advance_120 cs_X11_110 (by unfold r64; omega) ?_
        refine j_lsub dX11_advance_123 ?_
        refine j_lstore_n dX11_advance_124 rfl (Nat.le_of_ble_eq_true rfl) rfl ?_
        refine j_aload_n dX11_advance_125 rfl rfl ?_
        refine j_dup dX11_advance_126 (by decide) ?_
        refine j_gim dX11_advance_127 gf_X11_91 om_201 ?_
        refine j_iconst dX11_advance_130 r32_1 ?_
        refine j_iadd dX11_advance_131 ?_
        refine j_pim dX11_advance_132 gf_X11_91 po_11_3 om_201 (nf_11_3 _) ?_
        refine j_goto (tgt := 77) dX11_advance_135 rfl ?_
        exact j_mask [true, false, true, false] rfl (ih (w64 ((w64 ((w64 (32 * x2_77)) + v115)) - 96)) (upd2 G_77 201 3 (w32 ((G_77 201 3) + 1))))
      · refine j_aload_n dX11_advance_125 rfl rfl ?_
        refine j_dup dX11_advance_126 (by decide) ?_
        refine j_gim dX11_advance_127 gf_X11_91 om_201 ?_
        refine j_iconst dX11_advance_130 r32_1 ?_
        refine j_iadd dX11_advance_131 ?_
        refine j_pim dX11_advance_132 gf_X11_91 po_11_3 om_201 (nf_11_3 _) ?_
        refine j_goto (tgt := 77) dX11_advance_135 rfl ?_
        exact j_mask [true, false, true, false] rfl (ih x2_77 (upd2 G_77 201 3 (w32 ((G_77 201 3) + 1))))
    · exact j_mask [true, false, true, false] rfl (hk138 x2_77 G_77)

set_option maxRecDepth 100000 in
theorem mm_advance_j162_J {l : Launch} {H : Hp} (s0_162 : Int) (G_162 : Hp) : J l M_mm_advance (KWv (fun g => fu H g)) (mm_advance_j162   s0_162 G_162) 162 [(2, 201), (9, 0), (9, 0), (9, 0)] [(0, s0_162), (2, 201)] 224 (fu H G_162) (0, 0) := by
  unfold mm_advance_j162
  refine j_pim dX11_advance_162 gf_X11_116 po_11_7 om_201 (nf_11_7 _) ?_
  refine j_aload_n dX11_advance_165 rfl rfl ?_
  refine j_aload_n dX11_advance_166 rfl rfl ?_
  refine j_gim dX11_advance_167 gf_X11_116 om_201 ?_
  refine j_bipush dX11_advance_170 r32_99 bp_99 ?_
  refine j_icmp_ne (tgt := 179) dX11_advance_172 rfl (fun h172 => ?_) (fun h172 => ?_)
  · refine j_iconst dX11_advance_175 r32_4 ?_
    refine j_goto (tgt := 180) dX11_advance_176 rfl ?_
    refine j_pim dX11_advance_180 gf_X11_101 po_11_5 om_201 (nf_11_5 _) ?_
    refine j_goto (tgt := 311) dX11_advance_183 rfl ?_
    exact j_return dX11_advance_311 rfl rfl (Nat.zero_le _) (Nat.zero_le _)
  · refine j_iconst dX11_advance_179 r32_3 ?_
    refine j_pim dX11_advance_180 gf_X11_101 po_11_5 om_201 (nf_11_5 _) ?_
    refine j_goto (tgt := 311) dX11_advance_183 rfl ?_
    exact j_return dX11_advance_311 rfl rfl (Nat.zero_le _) (Nat.zero_le _)

set_option maxRecDepth 100000 in
theorem mm_advance_L198_J {l : Launch} {H : Hp} (k261 : Hp → Option (Hp)) (hk261 : ∀ (G_261 : Hp), J l M_mm_advance (KWv (fun g => fu H g)) (k261 G_261) 261 [(2, 201), (9, 0), (9, 0), (9, 0)] [] 224 (fu H G_261) (0, 0)) : ∀ (n_198 : Nat) (G_198 : Hp), J l M_mm_advance (KWv (fun g => fu H g)) (mm_advance_L198 k261 n_198 G_198) 198 [(2, 201), (9, 0), (9, 0), (9, 0)] [] 224 (fu H G_198) (0, 0) := by
  intro n_198
  induction n_198 with
  | zero =>
    intro G_198
    exact j_none
  | succ n_198 ih =>
    intro G_198
    rw [mm_advance_L198]
    refine j_aload_n dX11_advance_198 rfl rfl ?_
    refine j_aload_n dX11_advance_199 rfl rfl ?_
    refine j_gim dX11_advance_200 gf_X11_91 om_201 ?_
    refine j_cVRi dX11_advance_203 im_mm_byteAt lk_X11_94 rfl (As := [(0, G_198 201 3)]) (S := []) rfl om_201.1 ⟨by decide, by decide⟩ (Nat.le_of_ble_eq_true rfl) (fun r hr => mm_byteAt_ct (G_198 201 3) G_198 hr) (fun v203 _ => ?_)
    refine j_cSRbp dX11_advance_206 sm_mm_isDigit lk_X11_119 rfl (As := [(0, v203)]) (S := []) rfl ⟨by decide, by decide⟩ (Nat.le_of_ble_eq_true rfl) (mm_isDigit_ct v203) ?_
    refine j_ifb_eq (tgt := 261) dX11_advance_209 rfl (fun h209 => ?_) (fun h209 => ?_)
    · refine j_aload_n dX11_advance_212 rfl rfl ?_
      refine j_gim dX11_advance_213 gf_X11_91 om_201 ?_
      refine j_aload_n dX11_advance_216 rfl rfl ?_
      refine j_gim dX11_advance_217 gf_X11_98 om_201 ?_
      refine j_isub dX11_advance_220 ?_
      refine j_iconst dX11_advance_221 r32_2 ?_
      refine j_icmp_ge (tgt := 248) dX11_advance_222 rfl (fun h222 => ?_) (fun h222 => ?_)
      · refine j_aload_n dX11_advance_225 rfl rfl ?_
        refine j_bipush dX11_advance_226 r32_10 bp_10 ?_
        refine j_aload_n dX11_advance_228 rfl rfl ?_
        refine j_gim dX11_advance_229 gf_X11_122 om_201 ?_
        refine j_imul dX11_advance_232 ?_
        refine j_aload_n dX11_advance_233 rfl rfl ?_
        refine j_aload_n dX11_advance_234 rfl rfl ?_
        refine j_gim dX11_advance_235 gf_X11_91 om_201 ?_
        refine j_cVRi dX11_advance_238 im_mm_byteAt lk_X11_94 rfl (As := [(0, G_198 201 3)]) (S := [(0, w32 (10 * (G_198 201 6))), (2, 201)]) rfl om_201.1 ⟨by decide, by decide⟩ (Nat.le_of_ble_eq_true rfl) (fun r hr => mm_byteAt_ct (G_198 201 3) G_198 hr) (fun v238 _ => ?_)
        refine j_iadd dX11_advance_241 ?_
        refine j_bipush dX11_advance_242 r32_48 bp_48 ?_
        refine j_isub dX11_advance_244 ?_
        refine j_pim dX11_advance_245 gf_X11_122 po_11_6 om_201 (nf_11_6 _) ?_
        refine j_aload_n dX11_advance_248 rfl rfl ?_
        refine j_dup dX11_advance_249 (by decide) ?_
        refine j_gim dX11_advance_250 gf_X11_91 om_201 ?_
        refine j_iconst dX11_advance_253 r32_1 ?_
        refine j_iadd dX11_advance_254 ?_
        refine j_pim dX11_advance_255 gf_X11_91 po_11_3 om_201 (nf_11_3 _) ?_
        refine j_goto (tgt := 198) dX11_advance_258 rfl ?_
        exact j_mask [true, false, false, false] rfl (ih (upd2 (upd2 G_198 201 6 (w32 ((w32 ((w32 (10 * (G_198 201 6))) + v238)) - 48))) 201 3 (w32 (((upd2 G_198 201 6 (w32 ((w32 ((w32 (10 * (G_198 201 6))) + v238)) - 48))) 201 3) + 1))))
      · refine j_aload_n dX11_advance_248 rfl rfl ?_
        refine j_dup dX11_advance_249 (by decide) ?_
        refine j_gim dX11_advance_250 gf_X11_91 om_201 ?_
        refine j_iconst dX11_advance_253 r32_1 ?_
        refine j_iadd dX11_advance_254 ?_
        refine j_pim dX11_advance_255 gf_X11_91 po_11_3 om_201 (nf_11_3 _) ?_
        refine j_goto (tgt := 198) dX11_advance_258 rfl ?_
        exact j_mask [true, false, false, false] rfl (ih (upd2 G_198 201 3 (w32 ((G_198 201 3) + 1))))
    · exact j_mask [true, false, false, false] rfl (hk261 G_198)

set_option maxRecDepth 100000 in
theorem mm_advance_J {l : Launch} {H : Hp} (G : Hp) : J l M_mm_advance (KWv (fun g => fu H g)) (mm_advance  G) 0 [(2, 201), (9, 0), (9, 0), (9, 0)] [] 224 (fu H G) (0, 0) := by
  unfold mm_advance
  refine j_mask [true, false, false, false] rfl (mm_advance_L0_J (fun G_39 => (mm_byteAt ((upd2 G_39 201 4 (G_39 201 3)) 201 3) (upd2 G_39 201 4 (G_39 201 3))).bind fun v52 => if v52 < 0 then some (upd2 (upd2 G_39 201 4 (G_39 201 3)) 201 5 0) else (if (mm_isLetter v52) = true then mm_advance_L77 (fun x2_138 G_138 => if 8 < w32 ((G_138 201 3) - (G_138 201 4)) then mm_advance_j162 99 G_138 else mm_advance_j162 (mm_wordOf x2_138) G_138) FU 0 (upd2 G_39 201 4 (G_39 201 3)) else (if (mm_isDigit v52) = true then mm_advance_L198 (fun G_261 => if 2 < w32 ((G_261 201 3) - (G_261 201 4)) then some (upd2 G_261 201 5 4) else some (upd2 G_261 201 5 1)) FU (upd2 (upd2 G_39 201 4 (G_39 201 3)) 201 6 0) else (if v52 = 59 then some (upd2 (upd2 (upd2 G_39 201 4 (G_39 201 3)) 201 3 (w32 (((upd2 G_39 201 4 (G_39 201 3)) 201 3) + 1))) 201 5 2) else some (upd2 (upd2 (upd2 G_39 201 4 (G_39 201 3)) 201 3 (w32 (((upd2 G_39 201 4 (G_39 201 3)) 201 3) + 1))) 201 5 4))))) (fun G_39 => ?_) FU G)
  refine j_aload_n dX11_advance_39 rfl rfl ?_
  refine j_aload_n dX11_advance_40 rfl rfl ?_
  refine j_gim dX11_advance_41 gf_X11_91 om_201 ?_
  refine j_pim dX11_advance_44 gf_X11_98 po_11_4 om_201 (nf_11_4 _) ?_
  refine j_aload_n dX11_advance_47 rfl rfl ?_
  refine j_aload_n dX11_advance_48 rfl rfl ?_
  refine j_gim dX11_advance_49 gf_X11_91 om_201 ?_
  refine j_cVRi dX11_advance_52 im_mm_byteAt lk_X11_94 rfl (As := [(0, (upd2 G_39 201 4 (G_39 201 3)) 201 3)]) (S := []) rfl om_201.1 ⟨by decide, by decide⟩ (Nat.le_of_ble_eq_true rfl) (fun r hr => mm_byteAt_ct ((upd2 G_39 201 4 (G_39 201 3)) 201 3) (upd2 G_39 201 4 (G_39 201 3)) hr) (fun v52 _ => ?_)
  refine j_istore_n dX11_advance_55 rfl (Nat.le_of_ble_eq_true rfl) rfl ?_
  refine j_iload_n dX11_advance_56 rfl rfl ?_
  refine j_if_ge (tgt := 68) dX11_advance_57 rfl (fun h57 => ?_) (fun h57 => ?_)
  · refine j_aload_n dX11_advance_60 rfl rfl ?_
    refine j_iconst dX11_advance_61 r32_0 ?_
    refine j_pim dX11_advance_62 gf_X11_101 po_11_5 om_201 (nf_11_5 _) ?_
    refine j_goto (tgt := 311) dX11_advance_65 rfl ?_
    exact j_return dX11_advance_311 rfl rfl (Nat.zero_le _) (Nat.zero_le _)
  · refine j_iload_n dX11_advance_68 rfl rfl ?_
    refine j_cSRbp dX11_advance_69 sm_mm_isLetter lk_X11_104 rfl (As := [(0, v52)]) (S := []) rfl ⟨by decide, by decide⟩ (Nat.le_of_ble_eq_true rfl) (mm_isLetter_ct v52) ?_
    refine j_ifb_eq (tgt := 186) dX11_advance_72 rfl (fun h72 => ?_) (fun h72 => ?_)
    · refine j_lconst (z := 0) dX11_advance_75 (by unfold r64; omega) (by decide +kernel) ?_
      refine j_lstore_n dX11_advance_76 rfl (Nat.le_of_ble_eq_true rfl) rfl ?_
      refine j_mask [true, false, true, false] rfl (mm_advance_L77_J (fun x2_138 G_138 => if 8 < w32 ((G_138 201 3) - (G_138 201 4)) then mm_advance_j162 99 G_138 else mm_advance_j162 (mm_wordOf x2_138) G_138) (fun x2_138 G_138 => ?_) FU 0 (upd2 G_39 201 4 (G_39 201 3)))
      refine j_aload_n dX11_advance_138 rfl rfl ?_
      refine j_aload_n dX11_advance_139 rfl rfl ?_
      refine j_gim dX11_advance_140 gf_X11_91 om_201 ?_
      refine j_aload_n dX11_advance_143 rfl rfl ?_
      refine j_gim dX11_advance_144 gf_X11_98 om_201 ?_
      refine j_isub dX11_advance_147 ?_
      refine j_bipush dX11_advance_148 r32_8 bp_8 ?_
      refine j_icmp_le (tgt := 158) dX11_advance_150 rfl (fun h150 => ?_) (fun h150 => ?_)
      · refine j_bipush dX11_advance_153 r32_99 bp_99 ?_
        refine j_goto (tgt := 162) dX11_advance_155 rfl ?_
        exact j_mask [true, false, false, false] rfl (mm_advance_j162_J 99 G_138)
      · refine j_lload_n dX11_advance_158 rfl rfl ?_
        refine j_cSRip dX11_advance_159 sm_mm_wordOf lk_X11_112 rfl (As := [(1, x2_138)]) (S := [(2, 201)]) rfl ⟨by decide, by decide⟩ (Nat.le_of_ble_eq_true rfl) (mm_wordOf_ct x2_138) ?_
        exact j_mask [true, false, false, false] rfl (mm_advance_j162_J (mm_wordOf x2_138) G_138)
    · refine j_iload_n dX11_advance_186 rfl rfl ?_
      refine j_cSRbp dX11_advance_187 sm_mm_isDigit lk_X11_119 rfl (As := [(0, v52)]) (S := []) rfl ⟨by decide, by decide⟩ (Nat.le_of_ble_eq_true rfl) (mm_isDigit_ct v52) ?_
      refine j_ifb_eq (tgt := 286) dX11_advance_190 rfl (fun h190 => ?_) (fun h190 => ?_)
      · refine j_aload_n dX11_advance_193 rfl rfl ?_
        refine j_iconst dX11_advance_194 r32_0 ?_
        refine j_pim dX11_advance_195 gf_X11_122 po_11_6 om_201 (nf_11_6 _) ?_
        refine j_mask [true, false, false, false] rfl (mm_advance_L198_J (fun G_261 => if 2 < w32 ((G_261 201 3) - (G_261 201 4)) then some (upd2 G_261 201 5 4) else some (upd2 G_261 201 5 1)) (fun G_261 => ?_) FU (upd2 (upd2 G_39 201 4 (G_39 201 3)) 201 6 0))
        refine j_aload_n dX11_advance_261 rfl rfl ?_
        refine j_aload_n dX11_advance_262 rfl rfl ?_
        refine j_gim dX11_advance_263 gf_X11_91 om_201 ?_
        refine j_aload_n dX11_advance_266 rfl rfl ?_
        refine j_gim dX11_advance_267 gf_X11_98 om_201 ?_
        refine j_isub dX11_advance_270 ?_
        refine j_iconst dX11_advance_271 r32_2 ?_
        refine j_icmp_le (tgt := 279) dX11_advance_272 rfl (fun h272 => ?_) (fun h272 => ?_)
        · refine j_iconst dX11_advance_275 r32_4 ?_
          refine j_goto (tgt := 280) dX11_advance_276 rfl ?_
          refine j_pim dX11_advance_280 gf_X11_101 po_11_5 om_201 (nf_11_5 _) ?_
          refine j_goto (tgt := 311) dX11_advance_283 rfl ?_
          exact j_return dX11_advance_311 rfl rfl (Nat.zero_le _) (Nat.zero_le _)
        · refine j_iconst dX11_advance_279 r32_1 ?_
          refine j_pim dX11_advance_280 gf_X11_101 po_11_5 om_201 (nf_11_5 _) ?_
          refine j_goto (tgt := 311) dX11_advance_283 rfl ?_
          exact j_return dX11_advance_311 rfl rfl (Nat.zero_le _) (Nat.zero_le _)
      · refine j_aload_n dX11_advance_286 rfl rfl ?_
        refine j_dup dX11_advance_287 (by decide) ?_
        refine j_gim dX11_advance_288 gf_X11_91 om_201 ?_
        refine j_iconst dX11_advance_291 r32_1 ?_
        refine j_iadd dX11_advance_292 ?_
        refine j_pim dX11_advance_293 gf_X11_91 po_11_3 om_201 (nf_11_3 _) ?_
        refine j_aload_n dX11_advance_296 rfl rfl ?_
        refine j_iload_n dX11_advance_297 rfl rfl ?_
        refine j_bipush dX11_advance_298 r32_59 bp_59 ?_
        refine j_icmp_ne (tgt := 307) dX11_advance_300 rfl (fun h300 => ?_) (fun h300 => ?_)
        · refine j_iconst dX11_advance_303 r32_2 ?_
          refine j_goto (tgt := 308) dX11_advance_304 rfl ?_
          refine j_pim dX11_advance_308 gf_X11_101 po_11_5 om_201 (nf_11_5 _) ?_
          exact j_return dX11_advance_311 rfl rfl (Nat.zero_le _) (Nat.zero_le _)
        · refine j_iconst dX11_advance_307 r32_4 ?_
          refine j_pim dX11_advance_308 gf_X11_101 po_11_5 om_201 (nf_11_5 _) ?_
          exact j_return dX11_advance_311 rfl rfl (Nat.zero_le _) (Nat.zero_le _)

set_option maxRecDepth 100000 in
theorem mm_advance_ct {l : Launch} {H : Hp} (G : Hp) {r : Hp} (h : mm_advance  G = some r) : Ct l M_mm_advance [(2, 201)] 224 (fu H G) ((KWv (fun g => fu H g)) r) :=
  ct_of_J (by decide +kernel) rfl (Nat.le_of_ble_eq_true rfl) (mm_advance_J  G) h
set_option maxRecDepth 100000 in
theorem mm_ends_J {l : Launch} {H : Hp} (G : Hp) : J l M_mm_ends (KWv (fun g => fu H g)) (mm_ends  G) 0 [(2, 201)] [] 224 (fu H G) (0, 0) := by
  unfold mm_ends
  refine j_aload_n dX11_ends_0 rfl rfl ?_
  refine j_gim dX11_ends_1 gf_X11_125 om_201 ?_
  refine j_if_eq (tgt := 8) dX11_ends_4 rfl (fun h4 => ?_) (fun h4 => ?_)
  · refine j_aload_n dX11_ends_8 rfl rfl ?_
    refine j_iconst dX11_ends_9 r32_1 ?_
    refine j_pim dX11_ends_10 gf_X11_125 po_11_8 om_201 (fun w => nf_bool (Or.inr rfl)) ?_
    refine j_aload_n dX11_ends_13 rfl rfl ?_
    refine j_grm dX11_ends_14 gf_X11_7 om_201 (Or.inl (by decide)) rf_201_0 ?_
    refine j_iconst dX11_ends_17 r32_5 ?_
    refine j_iconst dX11_ends_18 r32_1 ?_
    refine j_sim dX11_ends_19 om_202 rfl (by decide) (by decide) ?_
    refine j_aload_n dX11_ends_20 rfl rfl ?_
    refine j_grm dX11_ends_21 gf_X11_7 om_201 (Or.inl (by decide)) rf_201_0 ?_
    refine j_bipush dX11_ends_24 r32_6 bp_6 ?_
    refine j_aload_n dX11_ends_26 rfl rfl ?_
    refine j_gim dX11_ends_27 gf_X11_98 om_201 ?_
    refine j_sim dX11_ends_30 om_202 rfl (by decide) (by decide) ?_
    exact j_return dX11_ends_31 rfl rfl (Nat.zero_le _) (Nat.zero_le _)
  · exact j_return dX11_ends_7 rfl rfl (Nat.zero_le _) (Nat.zero_le _)

set_option maxRecDepth 100000 in
theorem mm_ends_ct {l : Launch} {H : Hp} (G : Hp) {r : Hp} (h : mm_ends  G = some r) : Ct l M_mm_ends [(2, 201)] 224 (fu H G) ((KWv (fun g => fu H g)) r) :=
  ct_of_J (by decide +kernel) rfl (Nat.le_of_ble_eq_true rfl) (mm_ends_J  G) h
set_option maxRecDepth 100000 in
theorem mm_also_j49_J {l : Launch} {H : Hp} (a1 : Int) (a2 : Int) (G_49 : Hp) : J l M_mm_also (KWv (fun g => fu H g)) (mm_also_j49 a1 a2  G_49) 49 [(2, 201), (0, a1), (0, a2)] [] 224 (fu H G_49) (0, 0) := by
  unfold mm_also_j49
  refine j_aload_n dX11_also_49 rfl rfl ?_
  refine j_grm dX11_also_50 gf_X11_7 om_201 (Or.inl (by decide)) rf_201_0 ?_
  refine j_iconst dX11_also_53 r32_5 ?_
  refine j_iload_n dX11_also_54 rfl rfl ?_
  refine j_sim dX11_also_55 om_202 rfl (by decide) (by decide) ?_
  refine j_aload_n dX11_also_56 rfl rfl ?_
  refine j_grm dX11_also_57 gf_X11_7 om_201 (Or.inl (by decide)) rf_201_0 ?_
  refine j_bipush dX11_also_60 r32_6 bp_6 ?_
  refine j_iload_n dX11_also_62 rfl rfl ?_
  refine j_sim dX11_also_63 om_202 rfl (by decide) (by decide) ?_
  exact j_return dX11_also_64 rfl rfl (Nat.zero_le _) (Nat.zero_le _)

set_option maxRecDepth 100000 in
theorem mm_also_J {l : Launch} {H : Hp} (a1 : Int) (a2 : Int) (G : Hp) : J l M_mm_also (KWv (fun g => fu H g)) (mm_also a1 a2 G) 0 [(2, 201), (0, a1), (0, a2)] [] 224 (fu H G) (0, 0) := by
  unfold mm_also
  refine j_aload_n dX11_also_0 rfl rfl ?_
  refine j_gim dX11_also_1 gf_X11_125 om_201 ?_
  refine j_if_ne (tgt := 48) dX11_also_4 rfl (fun h4 => ?_) (fun h4 => ?_)
  · refine j_aload_n dX11_also_7 rfl rfl ?_
    refine j_grm dX11_also_8 gf_X11_7 om_201 (Or.inl (by decide)) rf_201_0 ?_
    refine j_iconst dX11_also_11 r32_5 ?_
    refine j_aim dX11_also_12 om_202 rfl (by decide) (by decide) ?_
    refine j_if_eq (tgt := 49) dX11_also_13 rfl (fun h13 => ?_) (fun h13 => ?_)
    · exact j_mask [true, true, true] rfl (mm_also_j49_J a1 a2 G)
    · refine j_aload_n dX11_also_16 rfl rfl ?_
      refine j_grm dX11_also_17 gf_X11_7 om_201 (Or.inl (by decide)) rf_201_0 ?_
      refine j_bipush dX11_also_20 r32_6 bp_6 ?_
      refine j_aim dX11_also_22 om_202 rfl (by decide) (by decide) ?_
      refine j_iload_n dX11_also_23 rfl rfl ?_
      refine j_icmp_lt (tgt := 48) dX11_also_24 rfl (fun h24 => ?_) (fun h24 => ?_)
      · refine j_aload_n dX11_also_27 rfl rfl ?_
        refine j_grm dX11_also_28 gf_X11_7 om_201 (Or.inl (by decide)) rf_201_0 ?_
        refine j_bipush dX11_also_31 r32_6 bp_6 ?_
        refine j_aim dX11_also_33 om_202 rfl (by decide) (by decide) ?_
        refine j_iload_n dX11_also_34 rfl rfl ?_
        refine j_icmp_ne (tgt := 49) dX11_also_35 rfl (fun h35 => ?_) (fun h35 => ?_)
        · refine j_aload_n dX11_also_38 rfl rfl ?_
          refine j_grm dX11_also_39 gf_X11_7 om_201 (Or.inl (by decide)) rf_201_0 ?_
          refine j_iconst dX11_also_42 r32_5 ?_
          refine j_aim dX11_also_43 om_202 rfl (by decide) (by decide) ?_
          refine j_iload_n dX11_also_44 rfl rfl ?_
          refine j_icmp_gt (tgt := 49) dX11_also_45 rfl (fun h45 => ?_) (fun h45 => ?_)
          · exact j_return dX11_also_48 rfl rfl (Nat.zero_le _) (Nat.zero_le _)
          · exact j_mask [true, true, true] rfl (mm_also_j49_J a1 a2 G)
        · exact j_mask [true, true, true] rfl (mm_also_j49_J a1 a2 G)
      · exact j_return dX11_also_48 rfl rfl (Nat.zero_le _) (Nat.zero_le _)
  · exact j_return dX11_also_48 rfl rfl (Nat.zero_le _) (Nat.zero_le _)

set_option maxRecDepth 100000 in
theorem mm_also_ct {l : Launch} {H : Hp} (a1 : Int) (a2 : Int) (G : Hp) {r : Hp} (h : mm_also a1 a2 G = some r) : Ct l M_mm_also [(2, 201), (0, a1), (0, a2)] 224 (fu H G) ((KWv (fun g => fu H g)) r) :=
  ct_of_J (by decide +kernel) rfl (Nat.le_of_ble_eq_true rfl) (mm_also_J a1 a2 G) h
set_option maxRecDepth 100000 in
theorem mm_numbered_j44_J {l : Launch} {H : Hp} (a1 : Int) (a2 : Int) (x3_44 : Int) (G_44 : Hp) : J l M_mm_numbered (KWi (fun g => fu H g)) (mm_numbered_j44 a1 a2  x3_44 G_44) 44 [(2, 201), (0, a1), (0, a2), (0, x3_44)] [] 224 (fu H G_44) (0, 0) := by
  unfold mm_numbered_j44
  refine j_aload_n dX11_numbered_44 rfl rfl ?_
  refine j_cVWv dX11_numbered_45 im_mm_advance lk_X11_140 rfl (As := []) (S := []) rfl om_201.1 ⟨by decide, by decide⟩ (Nat.le_of_ble_eq_true rfl) (fun r hr => mm_advance_ct  G_44 hr) (fun G45 _ => ?_)
  refine j_iload_n dX11_numbered_48 rfl rfl ?_
  refine j_iload_n dX11_numbered_49 rfl rfl ?_
  refine j_iload_n dX11_numbered_50 rfl rfl ?_
  refine j_cSRbp dX11_numbered_51 sm_mm_isIn lk_X11_132 rfl (As := [(0, x3_44), (0, a1), (0, a2)]) (S := []) rfl ⟨by decide, by decide⟩ (Nat.le_of_ble_eq_true rfl) (mm_isIn_ct x3_44 a1 a2) ?_
  refine j_ifb_eq (tgt := 61) dX11_numbered_54 rfl (fun h54 => ?_) (fun h54 => ?_)
  · refine j_iload_n dX11_numbered_57 rfl rfl ?_
    refine j_goto (tgt := 62) dX11_numbered_58 rfl ?_
    exact j_ireturn dX11_numbered_62 rfl rfl (Nat.zero_le _) (Nat.zero_le _)
  · refine j_iload_n dX11_numbered_61 rfl rfl ?_
    exact j_ireturn dX11_numbered_62 rfl rfl (Nat.zero_le _) (Nat.zero_le _)

set_option maxRecDepth 100000 in
theorem mm_numbered_j15_J {l : Launch} {H : Hp} (a1 : Int) (a2 : Int) (G_15 : Hp) : J l M_mm_numbered (KWi (fun g => fu H g)) (mm_numbered_j15 a1 a2  G_15) 15 [(2, 201), (0, a1), (9, 0), (9, 0)] [] 224 (fu H G_15) (0, 0) := by
  unfold mm_numbered_j15
  refine j_aload_n dX11_numbered_15 rfl rfl ?_
  refine j_cVWv dX11_numbered_16 im_mm_ends lk_X11_129 rfl (As := []) (S := []) rfl om_201.1 ⟨by decide, by decide⟩ (Nat.le_of_ble_eq_true rfl) (fun r hr => mm_ends_ct  G_15 hr) (fun G16 _ => ?_)
  refine j_iload_n dX11_numbered_19 rfl rfl ?_
  exact j_ireturn dX11_numbered_20 rfl rfl (Nat.zero_le _) (Nat.zero_le _)

set_option maxRecDepth 100000 in
theorem mm_numbered_J {l : Launch} {H : Hp} (a1 : Int) (a2 : Int) (G : Hp) : J l M_mm_numbered (KWi (fun g => fu H g)) (mm_numbered a1 a2 G) 0 [(2, 201), (0, a1), (0, a2), (9, 0)] [] 224 (fu H G) (0, 0) := by
  unfold mm_numbered
  refine j_aload_n dX11_numbered_0 rfl rfl ?_
  refine j_gim dX11_numbered_1 gf_X11_125 om_201 ?_
  refine j_if_ne (tgt := 15) dX11_numbered_4 rfl (fun h4 => ?_) (fun h4 => ?_)
  · refine j_aload_n dX11_numbered_7 rfl rfl ?_
    refine j_gim dX11_numbered_8 gf_X11_101 om_201 ?_
    refine j_iconst dX11_numbered_11 r32_1 ?_
    refine j_icmp_eq (tgt := 21) dX11_numbered_12 rfl (fun h12 => ?_) (fun h12 => ?_)
    · refine j_aload_n dX11_numbered_21 rfl rfl ?_
      refine j_gim dX11_numbered_22 gf_X11_122 om_201 ?_
      refine j_istore_n dX11_numbered_25 rfl (Nat.le_of_ble_eq_true rfl) rfl ?_
      refine j_iload_n dX11_numbered_26 rfl rfl ?_
      refine j_iload_n dX11_numbered_27 rfl rfl ?_
      refine j_iload_n dX11_numbered_28 rfl rfl ?_
      refine j_cSRbp dX11_numbered_29 sm_mm_isIn lk_X11_132 rfl (As := [(0, G 201 6), (0, a1), (0, a2)]) (S := []) rfl ⟨by decide, by decide⟩ (Nat.le_of_ble_eq_true rfl) (mm_isIn_ct (G 201 6) a1 a2) ?_
      refine j_ifb_ne (tgt := 44) dX11_numbered_32 rfl (fun h32 => ?_) (fun h32 => ?_)
      · exact j_mask [true, true, true, true] rfl (mm_numbered_j44_J a1 a2 (G 201 6) G)
      · refine j_aload_n dX11_numbered_35 rfl rfl ?_
        refine j_iconst dX11_numbered_36 r32_2 ?_
        refine j_aload_n dX11_numbered_37 rfl rfl ?_
        refine j_gim dX11_numbered_38 gf_X11_98 om_201 ?_
        refine j_cVWv dX11_numbered_41 im_mm_also lk_X11_136 rfl (As := [(0, 2), (0, G 201 4)]) (S := []) rfl om_201.1 ⟨by decide, by decide⟩ (Nat.le_of_ble_eq_true rfl) (fun r hr => mm_also_ct 2 (G 201 4) G hr) (fun G41 _ => ?_)
        exact j_mask [true, true, true, true] rfl (mm_numbered_j44_J a1 a2 (G 201 6) G41)
    · exact j_mask [true, true, false, false] rfl (mm_numbered_j15_J a1 a2 G)
  · exact j_mask [true, true, false, false] rfl (mm_numbered_j15_J a1 a2 G)

set_option maxRecDepth 100000 in
theorem mm_numbered_ct {l : Launch} {H : Hp} (a1 : Int) (a2 : Int) (G : Hp) {r : Int × Hp} (h : mm_numbered a1 a2 G = some r) : Ct l M_mm_numbered [(2, 201), (0, a1), (0, a2)] 224 (fu H G) ((KWi (fun g => fu H g)) r) :=
  ct_of_J (by decide +kernel) rfl (Nat.le_of_ble_eq_true rfl) (mm_numbered_J a1 a2 G) h
set_option maxRecDepth 100000 in
theorem mm_wordIn_j27_J {l : Launch} {H : Hp} (a1 : Int) (a2 : Int) (G_27 : Hp) : J l M_mm_wordIn (KWi (fun g => fu H g)) (mm_wordIn_j27 a1 a2  G_27) 27 [(2, 201), (9, 0), (9, 0), (9, 0)] [] 224 (fu H G_27) (0, 0) := by
  unfold mm_wordIn_j27
  refine j_aload_n dX11_wordIn_27 rfl rfl ?_
  refine j_cVWv dX11_wordIn_28 im_mm_ends lk_X11_129 rfl (As := []) (S := []) rfl om_201.1 ⟨by decide, by decide⟩ (Nat.le_of_ble_eq_true rfl) (fun r hr => mm_ends_ct  G_27 hr) (fun G28 _ => ?_)
  refine j_iconst dX11_wordIn_31 r32_0 ?_
  exact j_ireturn dX11_wordIn_32 rfl rfl (Nat.zero_le _) (Nat.zero_le _)

set_option maxRecDepth 100000 in
theorem mm_wordIn_J {l : Launch} {H : Hp} (a1 : Int) (a2 : Int) (G : Hp) : J l M_mm_wordIn (KWi (fun g => fu H g)) (mm_wordIn a1 a2 G) 0 [(2, 201), (0, a1), (0, a2), (9, 0)] [] 224 (fu H G) (0, 0) := by
  unfold mm_wordIn
  refine j_aload_n dX11_wordIn_0 rfl rfl ?_
  refine j_gim dX11_wordIn_1 gf_X11_125 om_201 ?_
  refine j_if_ne (tgt := 27) dX11_wordIn_4 rfl (fun h4 => ?_) (fun h4 => ?_)
  · refine j_aload_n dX11_wordIn_7 rfl rfl ?_
    refine j_gim dX11_wordIn_8 gf_X11_101 om_201 ?_
    refine j_iconst dX11_wordIn_11 r32_3 ?_
    refine j_icmp_ne (tgt := 27) dX11_wordIn_12 rfl (fun h12 => ?_) (fun h12 => ?_)
    · refine j_aload_n dX11_wordIn_15 rfl rfl ?_
      refine j_gim dX11_wordIn_16 gf_X11_116 om_201 ?_
      refine j_iload_n dX11_wordIn_19 rfl rfl ?_
      refine j_iload_n dX11_wordIn_20 rfl rfl ?_
      refine j_cSRbp dX11_wordIn_21 sm_mm_isIn lk_X11_132 rfl (As := [(0, G 201 7), (0, a1), (0, a2)]) (S := []) rfl ⟨by decide, by decide⟩ (Nat.le_of_ble_eq_true rfl) (mm_isIn_ct (G 201 7) a1 a2) ?_
      refine j_ifb_ne (tgt := 33) dX11_wordIn_24 rfl (fun h24 => ?_) (fun h24 => ?_)
      · refine j_aload_n dX11_wordIn_33 rfl rfl ?_
        refine j_gim dX11_wordIn_34 gf_X11_116 om_201 ?_
        refine j_istore_n dX11_wordIn_37 rfl (Nat.le_of_ble_eq_true rfl) rfl ?_
        refine j_aload_n dX11_wordIn_38 rfl rfl ?_
        refine j_cVWv dX11_wordIn_39 im_mm_advance lk_X11_140 rfl (As := []) (S := []) rfl om_201.1 ⟨by decide, by decide⟩ (Nat.le_of_ble_eq_true rfl) (fun r hr => mm_advance_ct  G hr) (fun G39 _ => ?_)
        refine j_iload_n dX11_wordIn_42 rfl rfl ?_
        exact j_ireturn dX11_wordIn_43 rfl rfl (Nat.zero_le _) (Nat.zero_le _)
      · exact j_mask [true, false, false, false] rfl (mm_wordIn_j27_J a1 a2 G)
    · exact j_mask [true, false, false, false] rfl (mm_wordIn_j27_J a1 a2 G)
  · exact j_mask [true, false, false, false] rfl (mm_wordIn_j27_J a1 a2 G)

set_option maxRecDepth 100000 in
theorem mm_wordIn_ct {l : Launch} {H : Hp} (a1 : Int) (a2 : Int) (G : Hp) {r : Int × Hp} (h : mm_wordIn a1 a2 G = some r) : Ct l M_mm_wordIn [(2, 201), (0, a1), (0, a2)] 224 (fu H G) ((KWi (fun g => fu H g)) r) :=
  ct_of_J (by decide +kernel) rfl (Nat.le_of_ble_eq_true rfl) (mm_wordIn_J a1 a2 G) h
set_option maxRecDepth 100000 in
theorem mm_endsLine_j22_J {l : Launch} {H : Hp} (G_22 : Hp) : J l M_mm_endsLine (KWv (fun g => fu H g)) (mm_endsLine_j22   G_22) 22 [(2, 201)] [] 224 (fu H G_22) (0, 0) := by
  unfold mm_endsLine_j22
  refine j_aload_n dX11_endsLine_22 rfl rfl ?_
  refine j_cVWv dX11_endsLine_23 im_mm_ends lk_X11_129 rfl (As := []) (S := []) rfl om_201.1 ⟨by decide, by decide⟩ (Nat.le_of_ble_eq_true rfl) (fun r hr => mm_ends_ct  G_22 hr) (fun G23 _ => ?_)
  exact j_return dX11_endsLine_26 rfl rfl (Nat.zero_le _) (Nat.zero_le _)

set_option maxRecDepth 100000 in
theorem mm_endsLine_J {l : Launch} {H : Hp} (G : Hp) : J l M_mm_endsLine (KWv (fun g => fu H g)) (mm_endsLine  G) 0 [(2, 201)] [] 224 (fu H G) (0, 0) := by
  unfold mm_endsLine
  refine j_aload_n dX11_endsLine_0 rfl rfl ?_
  refine j_gim dX11_endsLine_1 gf_X11_125 om_201 ?_
  refine j_if_ne (tgt := 22) dX11_endsLine_4 rfl (fun h4 => ?_) (fun h4 => ?_)
  · refine j_aload_n dX11_endsLine_7 rfl rfl ?_
    refine j_gim dX11_endsLine_8 gf_X11_101 om_201 ?_
    refine j_iconst dX11_endsLine_11 r32_2 ?_
    refine j_icmp_ne (tgt := 22) dX11_endsLine_12 rfl (fun h12 => ?_) (fun h12 => ?_)
    · refine j_aload_n dX11_endsLine_15 rfl rfl ?_
      refine j_cVWv dX11_endsLine_16 im_mm_advance lk_X11_140 rfl (As := []) (S := []) rfl om_201.1 ⟨by decide, by decide⟩ (Nat.le_of_ble_eq_true rfl) (fun r hr => mm_advance_ct  G hr) (fun G16 _ => ?_)
      refine j_goto (tgt := 26) dX11_endsLine_19 rfl ?_
      exact j_return dX11_endsLine_26 rfl rfl (Nat.zero_le _) (Nat.zero_le _)
    · exact j_mask [true] rfl (mm_endsLine_j22_J G)
  · exact j_mask [true] rfl (mm_endsLine_j22_J G)

set_option maxRecDepth 100000 in
theorem mm_endsLine_ct {l : Launch} {H : Hp} (G : Hp) {r : Hp} (h : mm_endsLine  G = some r) : Ct l M_mm_endsLine [(2, 201)] 224 (fu H G) ((KWv (fun g => fu H g)) r) :=
  ct_of_J (by decide +kernel) rfl (Nat.le_of_ble_eq_true rfl) (mm_endsLine_J  G) h
set_option maxRecDepth 100000 in
theorem mm_otherWord_j32_J {l : Launch} {H : Hp} (a1 : Int) (G_32 : Hp) : J l M_mm_otherWord (KWi (fun g => fu H g)) (mm_otherWord_j32 a1  G_32) 32 [(2, 201), (9, 0)] [] 224 (fu H G_32) (0, 0) := by
  unfold mm_otherWord_j32
  refine j_aload_n dX11_otherWord_32 rfl rfl ?_
  refine j_iconst dX11_otherWord_33 r32_0 ?_
  refine j_bipush dX11_otherWord_34 r32_9 bp_9 ?_
  refine j_cVWi dX11_otherWord_36 im_mm_numbered lk_X11_143 rfl (As := [(0, 0), (0, 9)]) (S := []) rfl om_201.1 ⟨by decide, by decide⟩ (Nat.le_of_ble_eq_true rfl) (fun r hr => mm_numbered_ct 0 9 G_32 hr) (fun r36 _ => ?_)
  exact j_ireturn dX11_otherWord_39 rfl rfl (Nat.zero_le _) (Nat.zero_le _)

set_option maxRecDepth 100000 in
theorem mm_otherWord_J {l : Launch} {H : Hp} (a1 : Int) (G : Hp) : J l M_mm_otherWord (KWi (fun g => fu H g)) (mm_otherWord a1 G) 0 [(2, 201), (0, a1)] [] 224 (fu H G) (0, 0) := by
  unfold mm_otherWord
  refine j_aload_n dX11_otherWord_0 rfl rfl ?_
  refine j_gim dX11_otherWord_1 gf_X11_125 om_201 ?_
  refine j_if_ne (tgt := 32) dX11_otherWord_4 rfl (fun h4 => ?_) (fun h4 => ?_)
  · refine j_aload_n dX11_otherWord_7 rfl rfl ?_
    refine j_gim dX11_otherWord_8 gf_X11_101 om_201 ?_
    refine j_iconst dX11_otherWord_11 r32_1 ?_
    refine j_icmp_ne (tgt := 32) dX11_otherWord_12 rfl (fun h12 => ?_) (fun h12 => ?_)
    · refine j_aload_n dX11_otherWord_15 rfl rfl ?_
      refine j_gim dX11_otherWord_16 gf_X11_122 om_201 ?_
      refine j_iload_n dX11_otherWord_19 rfl rfl ?_
      refine j_icmp_ne (tgt := 32) dX11_otherWord_20 rfl (fun h20 => ?_) (fun h20 => ?_)
      · refine j_aload_n dX11_otherWord_23 rfl rfl ?_
        refine j_iconst dX11_otherWord_24 r32_2 ?_
        refine j_aload_n dX11_otherWord_25 rfl rfl ?_
        refine j_gim dX11_otherWord_26 gf_X11_98 om_201 ?_
        refine j_cVWv dX11_otherWord_29 im_mm_also lk_X11_136 rfl (As := [(0, 2), (0, G 201 4)]) (S := []) rfl om_201.1 ⟨by decide, by decide⟩ (Nat.le_of_ble_eq_true rfl) (fun r hr => mm_also_ct 2 (G 201 4) G hr) (fun G29 _ => ?_)
        exact j_mask [true, false] rfl (mm_otherWord_j32_J a1 G29)
      · exact j_mask [true, false] rfl (mm_otherWord_j32_J a1 G)
    · exact j_mask [true, false] rfl (mm_otherWord_j32_J a1 G)
  · exact j_mask [true, false] rfl (mm_otherWord_j32_J a1 G)

set_option maxRecDepth 100000 in
theorem mm_otherWord_ct {l : Launch} {H : Hp} (a1 : Int) (G : Hp) {r : Int × Hp} (h : mm_otherWord a1 G = some r) : Ct l M_mm_otherWord [(2, 201), (0, a1)] 224 (fu H G) ((KWi (fun g => fu H g)) r) :=
  ct_of_J (by decide +kernel) rfl (Nat.le_of_ble_eq_true rfl) (mm_otherWord_J a1 G) h
set_option maxRecDepth 100000 in
theorem mm_wordTold_j17_J {l : Launch} {H : Hp} (a1 : Int) (G_17 : Hp) : J l M_mm_wordTold (KWv (fun g => fu H g)) (mm_wordTold_j17 a1  G_17) 17 [(2, 201), (9, 0), (9, 0)] [] 224 (fu H G_17) (0, 0) := by
  unfold mm_wordTold_j17
  refine j_aload_n dX11_wordTold_17 rfl rfl ?_
  refine j_iconst dX11_wordTold_18 r32_0 ?_
  refine j_bipush dX11_wordTold_19 r32_9 bp_9 ?_
  refine j_cVWi dX11_wordTold_21 im_mm_numbered lk_X11_143 rfl (As := [(0, 0), (0, 9)]) (S := []) rfl om_201.1 ⟨by decide, by decide⟩ (Nat.le_of_ble_eq_true rfl) (fun r hr => mm_numbered_ct 0 9 G_17 hr) (fun r21 _ => ?_)
  refine j_istore_n dX11_wordTold_24 rfl (Nat.le_of_ble_eq_true rfl) rfl ?_
  refine j_aload_n dX11_wordTold_25 rfl rfl ?_
  refine j_grm dX11_wordTold_26 gf_X11_17 om_201 (Or.inl (by decide)) rf_201_11 ?_
  refine j_iconst dX11_wordTold_29 r32_0 ?_
  refine j_aim dX11_wordTold_30 om_204 rfl (by decide) (by decide) ?_
  refine j_bipush dX11_wordTold_31 r32_8 bp_8 ?_
  refine j_icmp_lt (tgt := 37) dX11_wordTold_33 rfl (fun h33 => ?_) (fun h33 => ?_)
  · exact j_return dX11_wordTold_36 rfl rfl (Nat.zero_le _) (Nat.zero_le _)
  · refine j_aload_n dX11_wordTold_37 rfl rfl ?_
    refine j_grm dX11_wordTold_38 gf_X11_17 om_201 (Or.inl (by decide)) rf_201_11 ?_
    refine j_iconst dX11_wordTold_41 r32_2 ?_
    refine j_aload_n dX11_wordTold_42 rfl rfl ?_
    refine j_grm dX11_wordTold_43 gf_X11_17 om_201 (Or.inl (by decide)) rf_201_11 ?_
    refine j_iconst dX11_wordTold_46 r32_0 ?_
    refine j_aim dX11_wordTold_47 om_204 rfl (by decide) (by decide) ?_
    refine j_iadd dX11_wordTold_48 ?_
    refine j_iload_n dX11_wordTold_49 rfl rfl ?_
    refine j_gd (fun h50a h50b => ?_)
    refine j_sim dX11_wordTold_50 om_204 rfl h50a h50b ?_
    refine j_aload_n dX11_wordTold_51 rfl rfl ?_
    refine j_grm dX11_wordTold_52 gf_X11_17 om_201 (Or.inl (by decide)) rf_201_11 ?_
    refine j_iconst dX11_wordTold_55 r32_0 ?_
    refine j_dup2 dX11_wordTold_56 (by decide) (by decide) ?_
    refine j_aim dX11_wordTold_57 om_204 rfl (by decide) (by decide) ?_
    refine j_iconst dX11_wordTold_58 r32_1 ?_
    refine j_iadd dX11_wordTold_59 ?_
    refine j_sim dX11_wordTold_60 om_204 rfl (by decide) (by decide) ?_
    exact j_return dX11_wordTold_61 rfl rfl (Nat.zero_le _) (Nat.zero_le _)

set_option maxRecDepth 100000 in
theorem mm_wordTold_J {l : Launch} {H : Hp} (a1 : Int) (G : Hp) : J l M_mm_wordTold (KWv (fun g => fu H g)) (mm_wordTold a1 G) 0 [(2, 201), (0, a1), (9, 0)] [] 224 (fu H G) (0, 0) := by
  unfold mm_wordTold
  refine j_aload_n dX11_wordTold_0 rfl rfl ?_
  refine j_grm dX11_wordTold_1 gf_X11_17 om_201 (Or.inl (by decide)) rf_201_11 ?_
  refine j_iconst dX11_wordTold_4 r32_0 ?_
  refine j_aim dX11_wordTold_5 om_204 rfl (by decide) (by decide) ?_
  refine j_bipush dX11_wordTold_6 r32_8 bp_8 ?_
  refine j_icmp_lt (tgt := 17) dX11_wordTold_8 rfl (fun h8 => ?_) (fun h8 => ?_)
  · refine j_aload_n dX11_wordTold_11 rfl rfl ?_
    refine j_iconst dX11_wordTold_12 r32_3 ?_
    refine j_iload_n dX11_wordTold_13 rfl rfl ?_
    refine j_cVWv dX11_wordTold_14 im_mm_also lk_X11_136 rfl (As := [(0, 3), (0, a1)]) (S := []) rfl om_201.1 ⟨by decide, by decide⟩ (Nat.le_of_ble_eq_true rfl) (fun r hr => mm_also_ct 3 a1 G hr) (fun G14 _ => ?_)
    exact j_mask [true, false, false] rfl (mm_wordTold_j17_J a1 G14)
  · exact j_mask [true, false, false] rfl (mm_wordTold_j17_J a1 G)

set_option maxRecDepth 100000 in
theorem mm_wordTold_ct {l : Launch} {H : Hp} (a1 : Int) (G : Hp) {r : Hp} (h : mm_wordTold a1 G = some r) : Ct l M_mm_wordTold [(2, 201), (0, a1)] 224 (fu H G) ((KWv (fun g => fu H g)) r) :=
  ct_of_J (by decide +kernel) rfl (Nat.le_of_ble_eq_true rfl) (mm_wordTold_J a1 G) h
set_option maxRecDepth 100000 in
theorem mm_nearTold_J {l : Launch} {H : Hp} (G : Hp) : J l M_mm_nearTold (KWv (fun g => fu H g)) (mm_nearTold  G) 0 [(2, 201), (9, 0), (9, 0)] [] 224 (fu H G) (0, 0) := by
  unfold mm_nearTold
  refine j_aload_n dX11_nearTold_0 rfl rfl ?_
  refine j_iconst dX11_nearTold_1 r32_0 ?_
  refine j_bipush dX11_nearTold_2 r32_9 bp_9 ?_
  refine j_cVWi dX11_nearTold_4 im_mm_numbered lk_X11_143 rfl (As := [(0, 0), (0, 9)]) (S := []) rfl om_201.1 ⟨by decide, by decide⟩ (Nat.le_of_ble_eq_true rfl) (fun r hr => mm_numbered_ct 0 9 G hr) (fun r4 _ => ?_)
  refine j_istore_n dX11_nearTold_7 rfl (Nat.le_of_ble_eq_true rfl) rfl ?_
  refine j_aload_n dX11_nearTold_8 rfl rfl ?_
  refine j_iload_n dX11_nearTold_9 rfl rfl ?_
  refine j_cVWi dX11_nearTold_10 im_mm_otherWord lk_X11_147 rfl (As := [(0, r4.1)]) (S := []) rfl om_201.1 ⟨by decide, by decide⟩ (Nat.le_of_ble_eq_true rfl) (fun r hr => mm_otherWord_ct r4.1 r4.2 hr) (fun r10 _ => ?_)
  refine j_istore_n dX11_nearTold_13 rfl (Nat.le_of_ble_eq_true rfl) rfl ?_
  refine j_aload_n dX11_nearTold_14 rfl rfl ?_
  refine j_grm dX11_nearTold_15 gf_X11_17 om_201 (Or.inl (by decide)) rf_201_11 ?_
  refine j_bipush dX11_nearTold_18 r32_10 bp_10 ?_
  refine j_iload_n dX11_nearTold_20 rfl rfl ?_
  refine j_iadd dX11_nearTold_21 ?_
  refine j_dup2 dX11_nearTold_22 (by decide) (by decide) ?_
  refine j_gd (fun h23a h23b => ?_)
  refine j_aim dX11_nearTold_23 om_204 rfl h23a h23b ?_
  refine j_iconst dX11_nearTold_24 r32_1 ?_
  refine j_iload_n dX11_nearTold_25 rfl rfl ?_
  refine j_ishl dX11_nearTold_26 ?_
  refine j_ior dX11_nearTold_27 ?_
  refine j_gd (fun h28a h28b => ?_)
  refine j_sim dX11_nearTold_28 om_204 rfl h28a h28b ?_
  refine j_aload_n dX11_nearTold_29 rfl rfl ?_
  refine j_grm dX11_nearTold_30 gf_X11_17 om_201 (Or.inl (by decide)) rf_201_11 ?_
  refine j_bipush dX11_nearTold_33 r32_10 bp_10 ?_
  refine j_iload_n dX11_nearTold_35 rfl rfl ?_
  refine j_iadd dX11_nearTold_36 ?_
  refine j_dup2 dX11_nearTold_37 (by decide) (by decide) ?_
  refine j_gd (fun h38a h38b => ?_)
  refine j_aim dX11_nearTold_38 om_204 rfl h38a h38b ?_
  refine j_iconst dX11_nearTold_39 r32_1 ?_
  refine j_iload_n dX11_nearTold_40 rfl rfl ?_
  refine j_ishl dX11_nearTold_41 ?_
  refine j_ior dX11_nearTold_42 ?_
  refine j_gd (fun h43a h43b => ?_)
  refine j_sim dX11_nearTold_43 om_204 rfl h43a h43b ?_
  exact j_return dX11_nearTold_44 rfl rfl (Nat.zero_le _) (Nat.zero_le _)

set_option maxRecDepth 100000 in
theorem mm_nearTold_ct {l : Launch} {H : Hp} (G : Hp) {r : Hp} (h : mm_nearTold  G = some r) : Ct l M_mm_nearTold [(2, 201)] 224 (fu H G) ((KWv (fun g => fu H g)) r) :=
  ct_of_J (by decide +kernel) rfl (Nat.le_of_ble_eq_true rfl) (mm_nearTold_J  G) h
set_option maxRecDepth 100000 in
theorem mm_readerTold_j17_J {l : Launch} {H : Hp} (a1 : Int) (G_17 : Hp) : J l M_mm_readerTold (KWv (fun g => fu H g)) (mm_readerTold_j17 a1  G_17) 17 [(2, 201), (9, 0), (9, 0), (9, 0)] [] 224 (fu H G_17) (0, 0) := by
  unfold mm_readerTold_j17
  refine j_aload_n dX11_readerTold_17 rfl rfl ?_
  refine j_iconst dX11_readerTold_18 r32_0 ?_
  refine j_bipush dX11_readerTold_19 r32_9 bp_9 ?_
  refine j_cVWi dX11_readerTold_21 im_mm_numbered lk_X11_143 rfl (As := [(0, 0), (0, 9)]) (S := []) rfl om_201.1 ⟨by decide, by decide⟩ (Nat.le_of_ble_eq_true rfl) (fun r hr => mm_numbered_ct 0 9 G_17 hr) (fun r21 _ => ?_)
  refine j_istore_n dX11_readerTold_24 rfl (Nat.le_of_ble_eq_true rfl) rfl ?_
  refine j_aload_n dX11_readerTold_25 rfl rfl ?_
  refine j_iconst dX11_readerTold_26 r32_1 ?_
  refine j_bipush dX11_readerTold_27 r32_9 bp_9 ?_
  refine j_cVWi dX11_readerTold_29 im_mm_numbered lk_X11_143 rfl (As := [(0, 1), (0, 9)]) (S := []) rfl om_201.1 ⟨by decide, by decide⟩ (Nat.le_of_ble_eq_true rfl) (fun r hr => mm_numbered_ct 1 9 r21.2 hr) (fun r29 _ => ?_)
  refine j_istore_n dX11_readerTold_32 rfl (Nat.le_of_ble_eq_true rfl) rfl ?_
  refine j_aload_n dX11_readerTold_33 rfl rfl ?_
  refine j_grm dX11_readerTold_34 gf_X11_17 om_201 (Or.inl (by decide)) rf_201_11 ?_
  refine j_iconst dX11_readerTold_37 r32_1 ?_
  refine j_aim dX11_readerTold_38 om_204 rfl (by decide) (by decide) ?_
  refine j_bipush dX11_readerTold_39 r32_6 bp_6 ?_
  refine j_icmp_lt (tgt := 45) dX11_readerTold_41 rfl (fun h41 => ?_) (fun h41 => ?_)
  · exact j_return dX11_readerTold_44 rfl rfl (Nat.zero_le _) (Nat.zero_le _)
  · refine j_aload_n dX11_readerTold_45 rfl rfl ?_
    refine j_grm dX11_readerTold_46 gf_X11_17 om_201 (Or.inl (by decide)) rf_201_11 ?_
    refine j_bipush dX11_readerTold_49 r32_20 bp_20 ?_
    refine j_iconst dX11_readerTold_51 r32_2 ?_
    refine j_aload_n dX11_readerTold_52 rfl rfl ?_
    refine j_grm dX11_readerTold_53 gf_X11_17 om_201 (Or.inl (by decide)) rf_201_11 ?_
    refine j_iconst dX11_readerTold_56 r32_1 ?_
    refine j_aim dX11_readerTold_57 om_204 rfl (by decide) (by decide) ?_
    refine j_imul dX11_readerTold_58 ?_
    refine j_iadd dX11_readerTold_59 ?_
    refine j_iload_n dX11_readerTold_60 rfl rfl ?_
    refine j_gd (fun h61a h61b => ?_)
    refine j_sim dX11_readerTold_61 om_204 rfl h61a h61b ?_
    refine j_aload_n dX11_readerTold_62 rfl rfl ?_
    refine j_grm dX11_readerTold_63 gf_X11_17 om_201 (Or.inl (by decide)) rf_201_11 ?_
    refine j_bipush dX11_readerTold_66 r32_21 bp_21 ?_
    refine j_iconst dX11_readerTold_68 r32_2 ?_
    refine j_aload_n dX11_readerTold_69 rfl rfl ?_
    refine j_grm dX11_readerTold_70 gf_X11_17 om_201 (Or.inl (by decide)) rf_201_11 ?_
    refine j_iconst dX11_readerTold_73 r32_1 ?_
    refine j_aim dX11_readerTold_74 om_204 rfl (by decide) (by decide) ?_
    refine j_imul dX11_readerTold_75 ?_
    refine j_iadd dX11_readerTold_76 ?_
    refine j_iload_n dX11_readerTold_77 rfl rfl ?_
    refine j_gd (fun h78a h78b => ?_)
    refine j_sim dX11_readerTold_78 om_204 rfl h78a h78b ?_
    refine j_aload_n dX11_readerTold_79 rfl rfl ?_
    refine j_grm dX11_readerTold_80 gf_X11_17 om_201 (Or.inl (by decide)) rf_201_11 ?_
    refine j_iconst dX11_readerTold_83 r32_1 ?_
    refine j_dup2 dX11_readerTold_84 (by decide) (by decide) ?_
    refine j_aim dX11_readerTold_85 om_204 rfl (by decide) (by decide) ?_
    refine j_iconst dX11_readerTold_86 r32_1 ?_
    refine j_iadd dX11_readerTold_87 ?_
    refine j_sim dX11_readerTold_88 om_204 rfl (by decide) (by decide) ?_
    exact j_return dX11_readerTold_89 rfl rfl (Nat.zero_le _) (Nat.zero_le _)

set_option maxRecDepth 100000 in
theorem mm_readerTold_J {l : Launch} {H : Hp} (a1 : Int) (G : Hp) : J l M_mm_readerTold (KWv (fun g => fu H g)) (mm_readerTold a1 G) 0 [(2, 201), (0, a1), (9, 0), (9, 0)] [] 224 (fu H G) (0, 0) := by
  unfold mm_readerTold
  refine j_aload_n dX11_readerTold_0 rfl rfl ?_
  refine j_grm dX11_readerTold_1 gf_X11_17 om_201 (Or.inl (by decide)) rf_201_11 ?_
  refine j_iconst dX11_readerTold_4 r32_1 ?_
  refine j_aim dX11_readerTold_5 om_204 rfl (by decide) (by decide) ?_
  refine j_bipush dX11_readerTold_6 r32_6 bp_6 ?_
  refine j_icmp_lt (tgt := 17) dX11_readerTold_8 rfl (fun h8 => ?_) (fun h8 => ?_)
  · refine j_aload_n dX11_readerTold_11 rfl rfl ?_
    refine j_iconst dX11_readerTold_12 r32_3 ?_
    refine j_iload_n dX11_readerTold_13 rfl rfl ?_
    refine j_cVWv dX11_readerTold_14 im_mm_also lk_X11_136 rfl (As := [(0, 3), (0, a1)]) (S := []) rfl om_201.1 ⟨by decide, by decide⟩ (Nat.le_of_ble_eq_true rfl) (fun r hr => mm_also_ct 3 a1 G hr) (fun G14 _ => ?_)
    exact j_mask [true, false, false, false] rfl (mm_readerTold_j17_J a1 G14)
  · exact j_mask [true, false, false, false] rfl (mm_readerTold_j17_J a1 G)

set_option maxRecDepth 100000 in
theorem mm_readerTold_ct {l : Launch} {H : Hp} (a1 : Int) (G : Hp) {r : Hp} (h : mm_readerTold a1 G = some r) : Ct l M_mm_readerTold [(2, 201), (0, a1)] 224 (fu H G) ((KWv (fun g => fu H g)) r) :=
  ct_of_J (by decide +kernel) rfl (Nat.le_of_ble_eq_true rfl) (mm_readerTold_J a1 G) h
set_option maxRecDepth 100000 in
theorem mm_wantTold_j52_J {l : Launch} {H : Hp} (x1_52 : Int) (x2_52 : Int) (s0_52 : Int) (G_52 : Hp) : J l M_mm_wantTold (KWv (fun g => fu H g)) (mm_wantTold_j52   x1_52 x2_52 s0_52 G_52) 52 [(2, 201), (0, x1_52), (0, x2_52)] [(0, s0_52), (2, 201)] 224 (fu H G_52) (0, 0) := by
  unfold mm_wantTold_j52
  refine j_pim dX11_wantTold_52 gf_X11_153 po_11_10 om_201 (nf_11_10 _) ?_
  refine j_aload_n dX11_wantTold_55 rfl rfl ?_
  refine j_grm dX11_wantTold_56 gf_X11_17 om_201 (Or.inl (by decide)) rf_201_11 ?_
  refine j_bipush dX11_wantTold_59 r32_32 bp_32 ?_
  refine j_bipush dX11_wantTold_61 r32_8 bp_8 ?_
  refine j_iload_n dX11_wantTold_63 rfl rfl ?_
  refine j_imul dX11_wantTold_64 ?_
  refine j_iadd dX11_wantTold_65 ?_
  refine j_iload_n dX11_wantTold_66 rfl rfl ?_
  refine j_iadd dX11_wantTold_67 ?_
  refine j_aload_n dX11_wantTold_68 rfl rfl ?_
  refine j_iconst dX11_wantTold_69 r32_0 ?_
  refine j_bipush dX11_wantTold_70 r32_9 bp_9 ?_
  refine j_cVWi dX11_wantTold_72 im_mm_numbered lk_X11_143 rfl (As := [(0, 0), (0, 9)]) (S := [(0, w32 ((w32 (32 + (w32 (8 * x1_52)))) + x2_52)), (2, 204)]) rfl om_201.1 ⟨by decide, by decide⟩ (Nat.le_of_ble_eq_true rfl) (fun r hr => mm_numbered_ct 0 9 (upd2 G_52 201 10 s0_52) hr) (fun r72 _ => ?_)
  refine j_gd (fun h75a h75b => ?_)
  refine j_sim dX11_wantTold_75 om_204 rfl h75a h75b ?_
  exact j_return dX11_wantTold_76 rfl rfl (Nat.zero_le _) (Nat.zero_le _)

set_option maxRecDepth 100000 in
theorem mm_wantTold_j32_J {l : Launch} {H : Hp} (x1_32 : Int) (x2_32 : Int) (s0_32 : Int) (G_32 : Hp) : J l M_mm_wantTold (KWv (fun g => fu H g)) (mm_wantTold_j32   x1_32 x2_32 s0_32 G_32) 32 [(2, 201), (0, x1_32), (0, x2_32)] [(0, s0_32), (2, 201)] 224 (fu H G_32) (0, 0) := by
  unfold mm_wantTold_j32
  refine j_pim dX11_wantTold_32 gf_X11_150 po_11_9 om_201 (nf_11_9 _) ?_
  refine j_aload_n dX11_wantTold_35 rfl rfl ?_
  refine j_iload_n dX11_wantTold_36 rfl rfl ?_
  refine j_aload_n dX11_wantTold_37 rfl rfl ?_
  refine j_gim dX11_wantTold_38 gf_X11_153 om_201 ?_
  refine j_icmp_le (tgt := 48) dX11_wantTold_41 rfl (fun h41 => ?_) (fun h41 => ?_)
  · refine j_iload_n dX11_wantTold_44 rfl rfl ?_
    refine j_goto (tgt := 52) dX11_wantTold_45 rfl ?_
    exact j_mask [true, true, true] rfl (mm_wantTold_j52_J x1_32 x2_32 x2_32 (upd2 G_32 201 9 s0_32))
  · refine j_aload_n dX11_wantTold_48 rfl rfl ?_
    refine j_gim dX11_wantTold_49 gf_X11_153 om_201 ?_
    exact j_mask [true, true, true] rfl (mm_wantTold_j52_J x1_32 x2_32 ((upd2 G_32 201 9 s0_32) 201 10) (upd2 G_32 201 9 s0_32))

set_option maxRecDepth 100000 in
theorem mm_wantTold_J {l : Launch} {H : Hp} (G : Hp) : J l M_mm_wantTold (KWv (fun g => fu H g)) (mm_wantTold  G) 0 [(2, 201), (9, 0), (9, 0)] [] 224 (fu H G) (0, 0) := by
  unfold mm_wantTold
  refine j_aload_n dX11_wantTold_0 rfl rfl ?_
  refine j_iconst dX11_wantTold_1 r32_0 ?_
  refine j_iconst dX11_wantTold_2 r32_5 ?_
  refine j_cVWi dX11_wantTold_3 im_mm_numbered lk_X11_143 rfl (As := [(0, 0), (0, 5)]) (S := []) rfl om_201.1 ⟨by decide, by decide⟩ (Nat.le_of_ble_eq_true rfl) (fun r hr => mm_numbered_ct 0 5 G hr) (fun r3 _ => ?_)
  refine j_istore_n dX11_wantTold_6 rfl (Nat.le_of_ble_eq_true rfl) rfl ?_
  refine j_aload_n dX11_wantTold_7 rfl rfl ?_
  refine j_iconst dX11_wantTold_8 r32_0 ?_
  refine j_bipush dX11_wantTold_9 r32_7 bp_7 ?_
  refine j_cVWi dX11_wantTold_11 im_mm_numbered lk_X11_143 rfl (As := [(0, 0), (0, 7)]) (S := []) rfl om_201.1 ⟨by decide, by decide⟩ (Nat.le_of_ble_eq_true rfl) (fun r hr => mm_numbered_ct 0 7 r3.2 hr) (fun r11 _ => ?_)
  refine j_istore_n dX11_wantTold_14 rfl (Nat.le_of_ble_eq_true rfl) rfl ?_
  refine j_aload_n dX11_wantTold_15 rfl rfl ?_
  refine j_iload_n dX11_wantTold_16 rfl rfl ?_
  refine j_aload_n dX11_wantTold_17 rfl rfl ?_
  refine j_gim dX11_wantTold_18 gf_X11_150 om_201 ?_
  refine j_icmp_le (tgt := 28) dX11_wantTold_21 rfl (fun h21 => ?_) (fun h21 => ?_)
  · refine j_iload_n dX11_wantTold_24 rfl rfl ?_
    refine j_goto (tgt := 32) dX11_wantTold_25 rfl ?_
    exact j_mask [true, true, true] rfl (mm_wantTold_j32_J r3.1 r11.1 r3.1 r11.2)
  · refine j_aload_n dX11_wantTold_28 rfl rfl ?_
    refine j_gim dX11_wantTold_29 gf_X11_150 om_201 ?_
    exact j_mask [true, true, true] rfl (mm_wantTold_j32_J r3.1 r11.1 (r11.2 201 9) r11.2)

set_option maxRecDepth 100000 in
theorem mm_wantTold_ct {l : Launch} {H : Hp} (G : Hp) {r : Hp} (h : mm_wantTold  G = some r) : Ct l M_mm_wantTold [(2, 201)] 224 (fu H G) ((KWv (fun g => fu H g)) r) :=
  ct_of_J (by decide +kernel) rfl (Nat.le_of_ble_eq_true rfl) (mm_wantTold_J  G) h
set_option maxRecDepth 100000 in
theorem mm_paperLine_j86_J {l : Launch} {H : Hp} (G_86 : Hp) : J l M_mm_paperLine (KWv (fun g => fu H g)) (mm_paperLine_j86   G_86) 86 [(2, 201), (9, 0), (9, 0)] [] 224 (fu H G_86) (0, 0) := by
  unfold mm_paperLine_j86
  refine j_aload_n dX11_paperLine_86 rfl rfl ?_
  refine j_cVWv dX11_paperLine_87 im_mm_endsLine lk_X11_172 rfl (As := []) (S := []) rfl om_201.1 ⟨by decide, by decide⟩ (Nat.le_of_ble_eq_true rfl) (fun r hr => mm_endsLine_ct  G_86 hr) (fun G87 _ => ?_)
  exact j_return dX11_paperLine_90 rfl rfl (Nat.zero_le _) (Nat.zero_le _)

set_option maxRecDepth 100000 in
theorem mm_paperLine_j24_J {l : Launch} {H : Hp} (x1_24 : Int) (s0_24 : Int) (G_24 : Hp) : J l M_mm_paperLine (KWv (fun g => fu H g)) (mm_paperLine_j24   x1_24 s0_24 G_24) 24 [(2, 201), (0, x1_24), (9, 0)] [(0, s0_24)] 224 (fu H G_24) (0, 0) := by
  unfold mm_paperLine_j24
  refine j_ite _ (fun hc24_1 => ?_) (fun hc24_1 => ?_)
  · refine j_swIn (i := 0) (tgt := 56) dX11_paperLine_24 (hc24_1.trans (by decide)) (by decide) rfl rfl ?_
    refine j_aload_n dX11_paperLine_56 rfl rfl ?_
    refine j_iload_n dX11_paperLine_57 rfl rfl ?_
    refine j_cVWv dX11_paperLine_58 im_mm_wordTold lk_X11_159 rfl (As := [(0, x1_24)]) (S := []) rfl om_201.1 ⟨by decide, by decide⟩ (Nat.le_of_ble_eq_true rfl) (fun r hr => mm_wordTold_ct x1_24 G_24 hr) (fun G58 _ => ?_)
    refine j_goto (tgt := 86) dX11_paperLine_61 rfl ?_
    exact j_mask [true, false, false] rfl (mm_paperLine_j86_J G58)
  · refine j_ite _ (fun hc24_2 => ?_) (fun hc24_2 => ?_)
    · refine j_swIn (i := 1) (tgt := 64) dX11_paperLine_24 (hc24_2.trans (by decide)) (by decide) rfl rfl ?_
      refine j_aload_n dX11_paperLine_64 rfl rfl ?_
      refine j_cVWv dX11_paperLine_65 im_mm_nearTold lk_X11_163 rfl (As := []) (S := []) rfl om_201.1 ⟨by decide, by decide⟩ (Nat.le_of_ble_eq_true rfl) (fun r hr => mm_nearTold_ct  G_24 hr) (fun G65 _ => ?_)
      refine j_goto (tgt := 86) dX11_paperLine_68 rfl ?_
      exact j_mask [true, false, false] rfl (mm_paperLine_j86_J G65)
    · refine j_ite _ (fun hc24_3 => ?_) (fun hc24_3 => ?_)
      · refine j_swIn (i := 2) (tgt := 71) dX11_paperLine_24 (hc24_3.trans (by decide)) (by decide) rfl rfl ?_
        refine j_aload_n dX11_paperLine_71 rfl rfl ?_
        refine j_iload_n dX11_paperLine_72 rfl rfl ?_
        refine j_cVWv dX11_paperLine_73 im_mm_readerTold lk_X11_166 rfl (As := [(0, x1_24)]) (S := []) rfl om_201.1 ⟨by decide, by decide⟩ (Nat.le_of_ble_eq_true rfl) (fun r hr => mm_readerTold_ct x1_24 G_24 hr) (fun G73 _ => ?_)
        refine j_goto (tgt := 86) dX11_paperLine_76 rfl ?_
        exact j_mask [true, false, false] rfl (mm_paperLine_j86_J G73)
      · refine j_ite _ (fun hc24_4 => ?_) (fun hc24_4 => ?_)
        · refine j_swIn (i := 3) (tgt := 79) dX11_paperLine_24 (hc24_4.trans (by decide)) (by decide) rfl rfl ?_
          refine j_aload_n dX11_paperLine_79 rfl rfl ?_
          refine j_cVWv dX11_paperLine_80 im_mm_wantTold lk_X11_169 rfl (As := []) (S := []) rfl om_201.1 ⟨by decide, by decide⟩ (Nat.le_of_ble_eq_true rfl) (fun r hr => mm_wantTold_ct  G_24 hr) (fun G80 _ => ?_)
          refine j_goto (tgt := 86) dX11_paperLine_83 rfl ?_
          exact j_mask [true, false, false] rfl (mm_paperLine_j86_J G80)
        · refine j_swOut (tgt := 86) dX11_paperLine_24 (by omega) rfl ?_
          exact j_mask [true, false, false] rfl (mm_paperLine_j86_J G_24)

set_option maxRecDepth 100000 in
theorem mm_paperLine_J {l : Launch} {H : Hp} (G : Hp) : J l M_mm_paperLine (KWv (fun g => fu H g)) (mm_paperLine  G) 0 [(2, 201), (9, 0), (9, 0)] [] 224 (fu H G) (0, 0) := by
  unfold mm_paperLine
  refine j_aload_n dX11_paperLine_0 rfl rfl ?_
  refine j_gim dX11_paperLine_1 gf_X11_98 om_201 ?_
  refine j_istore_n dX11_paperLine_4 rfl (Nat.le_of_ble_eq_true rfl) rfl ?_
  refine j_aload_n dX11_paperLine_5 rfl rfl ?_
  refine j_iconst dX11_paperLine_6 r32_1 ?_
  refine j_iconst dX11_paperLine_7 r32_4 ?_
  refine j_cVWi dX11_paperLine_8 im_mm_wordIn lk_X11_156 rfl (As := [(0, 1), (0, 4)]) (S := []) rfl om_201.1 ⟨by decide, by decide⟩ (Nat.le_of_ble_eq_true rfl) (fun r hr => mm_wordIn_ct 1 4 G hr) (fun r8 _ => ?_)
  refine j_istore_n dX11_paperLine_11 rfl (Nat.le_of_ble_eq_true rfl) rfl ?_
  refine j_aload_n dX11_paperLine_12 rfl rfl ?_
  refine j_gim dX11_paperLine_13 gf_X11_125 om_201 ?_
  refine j_if_eq (tgt := 23) dX11_paperLine_16 rfl (fun h16 => ?_) (fun h16 => ?_)
  · refine j_iload_n dX11_paperLine_23 rfl rfl ?_
    exact j_mask [true, true, false] rfl (mm_paperLine_j24_J (G 201 4) r8.1 r8.2)
  · refine j_iconst dX11_paperLine_19 r32_0 ?_
    refine j_goto (tgt := 24) dX11_paperLine_20 rfl ?_
    exact j_mask [true, true, false] rfl (mm_paperLine_j24_J (G 201 4) 0 r8.2)

set_option maxRecDepth 100000 in
theorem mm_paperLine_ct {l : Launch} {H : Hp} (G : Hp) {r : Hp} (h : mm_paperLine  G = some r) : Ct l M_mm_paperLine [(2, 201)] 224 (fu H G) ((KWv (fun g => fu H g)) r) :=
  ct_of_J (by decide +kernel) rfl (Nat.le_of_ble_eq_true rfl) (mm_paperLine_J  G) h
