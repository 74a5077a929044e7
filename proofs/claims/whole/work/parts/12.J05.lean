set_option maxRecDepth 100000 in
theorem cX_unlikeWords_L9_J {l : Launch} {H : Hp} (a1 : Int) (ha1 : isPaper a1) (G_9 : Hp) : ∀ (n_9 : Nat) (x2_9 : Int) (x3_9 : Int), J l M_cX_unlikeWords (KWi (fun g => fu g H)) (cX_unlikeWords_L9 a1 G_9  n_9 x2_9 x3_9) 9 [(2, 0), (9, 0), (0, x2_9), (0, x3_9)] [] 224 (fu G_9 H) (0, 0) := by
  intro n_9
  induction n_9 with
  | zero =>
    intro x2_9 x3_9
    exact j_none
  | succ n_9 ih =>
    intro x2_9 x3_9
    rw [cX_unlikeWords_L9]
    refine j_iload_n dX10_unlikeWords_9 rfl rfl ?_
    refine j_bipush dX10_unlikeWords_10 r32_10 bp_10 ?_
    refine j_icmp_ge (tgt := 38) dX10_unlikeWords_12 rfl (fun h12 => ?_) (fun h12 => ?_)
    · refine j_iload_n dX10_unlikeWords_15 rfl rfl ?_
      refine j_aload_n dX10_unlikeWords_16 rfl rfl ?_
      refine j_grc dX10_unlikeWords_17 gf_X10_66 oc_0 (Or.inl (by decide)) rf_0_9 ?_
      refine j_iload_n dX10_unlikeWords_20 rfl rfl ?_
      refine j_gd (fun h21a h21b => ?_)
      refine j_aic dX10_unlikeWords_21 oc_91 rfl h21a h21b ?_
      refine j_if_le (tgt := 29) dX10_unlikeWords_22 rfl (fun h22 => ?_) (fun h22 => ?_)
      · refine j_iconst dX10_unlikeWords_25 r32_1 ?_
        refine j_goto (tgt := 30) dX10_unlikeWords_26 rfl ?_
        refine j_iadd dX10_unlikeWords_30 ?_
        refine j_istore_n dX10_unlikeWords_31 rfl (Nat.le_of_ble_eq_true rfl) rfl ?_
        refine j_iinc dX10_unlikeWords_32 rfl (Nat.le_of_ble_eq_true rfl) rfl ?_
        refine j_goto (tgt := 9) dX10_unlikeWords_35 rfl ?_
        exact j_mask [true, false, true, true] rfl (ih (w32 (x2_9 + 1)) (w32 (x3_9 + 1)))
      · refine j_iconst dX10_unlikeWords_29 r32_0 ?_
        refine j_iadd dX10_unlikeWords_30 ?_
        refine j_istore_n dX10_unlikeWords_31 rfl (Nat.le_of_ble_eq_true rfl) rfl ?_
        refine j_iinc dX10_unlikeWords_32 rfl (Nat.le_of_ble_eq_true rfl) rfl ?_
        refine j_goto (tgt := 9) dX10_unlikeWords_35 rfl ?_
        exact j_mask [true, false, true, true] rfl (ih (w32 (x2_9 + 0)) (w32 (x3_9 + 1)))
    · refine j_iload_n dX10_unlikeWords_38 rfl rfl ?_
      exact j_ireturn dX10_unlikeWords_39 rfl rfl (Nat.zero_le _) (Nat.zero_le _)

set_option maxRecDepth 100000 in
theorem cX_unlikeWords_J {l : Launch} {H : Hp} (a1 : Int) (ha1 : isPaper a1) (G : Hp) : J l M_cX_unlikeWords (KWi (fun g => fu g H)) (cX_unlikeWords a1 G) 0 [(2, 0), (2, a1), (9, 0), (9, 0)] [] 224 (fu G H) (0, 0) := by
  unfold cX_unlikeWords
  refine j_aload_n dX10_unlikeWords_0 rfl rfl ?_
  refine j_aload_n dX10_unlikeWords_1 rfl rfl ?_
  refine j_cVWv dX10_unlikeWords_2 im_cX_countWords lk_X10_398 rfl (As := [(2, a1)]) (S := []) rfl oc_0.1 ⟨by decide, by decide⟩ (Nat.le_of_ble_eq_true rfl) (fun r hr => cX_countWords_ct a1 ha1 G hr) (fun G2 _ => ?_)
  refine j_iconst dX10_unlikeWords_5 r32_0 ?_
  refine j_istore_n dX10_unlikeWords_6 rfl (Nat.le_of_ble_eq_true rfl) rfl ?_
  refine j_iconst dX10_unlikeWords_7 r32_0 ?_
  refine j_istore_n dX10_unlikeWords_8 rfl (Nat.le_of_ble_eq_true rfl) rfl ?_
  exact j_mask [true, false, true, true] rfl (cX_unlikeWords_L9_J a1 ha1 G2 FU 0 0)

set_option maxRecDepth 100000 in
theorem cX_unlikeWords_ct {l : Launch} {H : Hp} (a1 : Int) (ha1 : isPaper a1) (G : Hp) {r : Int × Hp} (h : cX_unlikeWords a1 G = some r) : Ct l M_cX_unlikeWords [(2, 0), (2, a1)] 224 (fu G H) ((KWi (fun g => fu g H)) r) :=
  ct_of_J (by decide +kernel) rfl (Nat.le_of_ble_eq_true rfl) (cX_unlikeWords_J a1 ha1 G) h
set_option maxRecDepth 100000 in
theorem cX_commonWord_J {l : Launch} {H : Hp} (a1 : Int) (ha1 : isPaper a1) (G : Hp) : J l M_cX_commonWord (KWi (fun g => fu g H)) (cX_commonWord a1 G) 0 [(2, 0), (2, a1)] [] 224 (fu G H) (0, 0) := by
  unfold cX_commonWord
  refine j_aload_n dX10_commonWord_0 rfl rfl ?_
  refine j_aload_n dX10_commonWord_1 rfl rfl ?_
  refine j_cVWv dX10_commonWord_2 im_cX_countWords lk_X10_398 rfl (As := [(2, a1)]) (S := []) rfl oc_0.1 ⟨by decide, by decide⟩ (Nat.le_of_ble_eq_true rfl) (fun r hr => cX_countWords_ct a1 ha1 G hr) (fun G2 _ => ?_)
  refine j_aload_n dX10_commonWord_5 rfl rfl ?_
  refine j_cVRi dX10_commonWord_6 im_cX_mostOfRow lk_X10_371 rfl (As := []) (S := []) rfl oc_0.1 ⟨by decide, by decide⟩ (Nat.le_of_ble_eq_true rfl) (fun r hr => cX_mostOfRow_ct  G2 hr) (fun v6 _ => ?_)
  exact j_ireturn dX10_commonWord_9 rfl rfl (Nat.zero_le _) (Nat.zero_le _)

set_option maxRecDepth 100000 in
theorem cX_commonWord_ct {l : Launch} {H : Hp} (a1 : Int) (ha1 : isPaper a1) (G : Hp) {r : Int × Hp} (h : cX_commonWord a1 G = some r) : Ct l M_cX_commonWord [(2, 0), (2, a1)] 224 (fu G H) ((KWi (fun g => fu g H)) r) :=
  ct_of_J (by decide +kernel) rfl (Nat.le_of_ble_eq_true rfl) (cX_commonWord_J a1 ha1 G) h
set_option maxRecDepth 100000 in
theorem cX_riseAt_L30_J {l : Launch} {H : Hp} (a1 : Int) (ha1 : isPaper a1) (a2 : Int) (x3_30 : Int) (G_30 : Hp) : ∀ (n_30 : Nat) (x4_30 : Int) (x5_30 : Int) (x6_30 : Int) (x7_30 : Int), J l M_cX_riseAt (KWi (fun g => fu g H)) (cX_riseAt_L30 a1 a2 x3_30 G_30  n_30 x4_30 x5_30 x6_30 x7_30) 30 [(2, 0), (2, a1), (0, a2), (0, x3_30), (0, x4_30), (0, x5_30), (0, x6_30), (0, x7_30), (9, 0)] [] 224 (fu G_30 H) (0, 0) := by
  intro n_30
  induction n_30 with
  | zero =>
    intro x4_30 x5_30 x6_30 x7_30
    exact j_none
  | succ n_30 ih =>
    intro x4_30 x5_30 x6_30 x7_30
    rw [cX_riseAt_L30]
    refine j_iload dX10_riseAt_30 rfl ?_
    refine j_aload_n dX10_riseAt_32 rfl rfl ?_
    refine j_gic dX10_riseAt_33 gf_X10_269 (oc_paper ha1) ?_
    refine j_icmp_ge (tgt := 94) dX10_riseAt_36 rfl (fun h36 => ?_) (fun h36 => ?_)
    · refine j_aload_n dX10_riseAt_39 rfl rfl ?_
      refine j_gic dX10_riseAt_40 gf_X10_248 (oc_paper ha1) ?_
      refine j_iload dX10_riseAt_43 rfl ?_
      refine j_cSRip dX10_riseAt_45 sm_cX_wordAt lk_X10_272 rfl (As := [(0, G_30 a1 0), (0, x7_30)]) (S := []) rfl ⟨by decide, by decide⟩ (Nat.le_of_ble_eq_true rfl) (cX_wordAt_ct (G_30 a1 0) x7_30) ?_
      refine j_istore dX10_riseAt_48 (Nat.le_of_ble_eq_true rfl) rfl ?_
      refine j_iload dX10_riseAt_50 rfl ?_
      refine j_iload_n dX10_riseAt_52 rfl rfl ?_
      refine j_icmp_gt (tgt := 88) dX10_riseAt_53 rfl (fun h53 => ?_) (fun h53 => ?_)
      · refine j_iload dX10_riseAt_56 rfl ?_
        refine j_iload dX10_riseAt_58 rfl ?_
        refine j_icmp_le (tgt := 88) dX10_riseAt_60 rfl (fun h60 => ?_) (fun h60 => ?_)
        · refine j_aload_n dX10_riseAt_63 rfl rfl ?_
          refine j_grc dX10_riseAt_64 gf_X10_66 oc_0 (Or.inl (by decide)) rf_0_9 ?_
          refine j_iload dX10_riseAt_67 rfl ?_
          refine j_gd (fun h69a h69b => ?_)
          refine j_aic dX10_riseAt_69 oc_91 rfl h69a h69b ?_
          refine j_iload_n dX10_riseAt_70 rfl rfl ?_
          refine j_iload dX10_riseAt_71 rfl ?_
          refine j_isub dX10_riseAt_73 ?_
          refine j_icmp_ne (tgt := 88) dX10_riseAt_74 rfl (fun h74 => ?_) (fun h74 => ?_)
          · refine j_iload dX10_riseAt_77 rfl ?_
            refine j_istore dX10_riseAt_79 (Nat.le_of_ble_eq_true rfl) rfl ?_
            refine j_iload dX10_riseAt_81 rfl ?_
            refine j_istore dX10_riseAt_83 (Nat.le_of_ble_eq_true rfl) rfl ?_
            refine j_iinc dX10_riseAt_85 rfl (Nat.le_of_ble_eq_true rfl) rfl ?_
            refine j_iinc dX10_riseAt_88 rfl (Nat.le_of_ble_eq_true rfl) rfl ?_
            refine j_goto (tgt := 30) dX10_riseAt_91 rfl ?_
            exact j_mask [true, true, true, true, true, true, true, true, false] rfl (ih (w32 (x4_30 + 1)) (cX_wordAt (G_30 a1 0) x7_30) x7_30 (w32 (x7_30 + 1)))
          · refine j_iinc dX10_riseAt_88 rfl (Nat.le_of_ble_eq_true rfl) rfl ?_
            refine j_goto (tgt := 30) dX10_riseAt_91 rfl ?_
            exact j_mask [true, true, true, true, true, true, true, true, false] rfl (ih x4_30 x5_30 x6_30 (w32 (x7_30 + 1)))
        · refine j_iinc dX10_riseAt_88 rfl (Nat.le_of_ble_eq_true rfl) rfl ?_
          refine j_goto (tgt := 30) dX10_riseAt_91 rfl ?_
          exact j_mask [true, true, true, true, true, true, true, true, false] rfl (ih x4_30 x5_30 x6_30 (w32 (x7_30 + 1)))
      · refine j_iinc dX10_riseAt_88 rfl (Nat.le_of_ble_eq_true rfl) rfl ?_
        refine j_goto (tgt := 30) dX10_riseAt_91 rfl ?_
        exact j_mask [true, true, true, true, true, true, true, true, false] rfl (ih x4_30 x5_30 x6_30 (w32 (x7_30 + 1)))
    · refine j_iload dX10_riseAt_94 rfl ?_
      exact j_ireturn dX10_riseAt_96 rfl rfl (Nat.zero_le _) (Nat.zero_le _)

set_option maxRecDepth 100000 in
theorem cX_riseAt_J {l : Launch} {H : Hp} (a1 : Int) (ha1 : isPaper a1) (a2 : Int) (G : Hp) : J l M_cX_riseAt (KWi (fun g => fu g H)) (cX_riseAt a1 a2 G) 0 [(2, 0), (2, a1), (0, a2), (9, 0), (9, 0), (9, 0), (9, 0), (9, 0), (9, 0)] [] 224 (fu G H) (0, 0) := by
  unfold cX_riseAt
  refine j_aload_n dX10_riseAt_0 rfl rfl ?_
  refine j_aload_n dX10_riseAt_1 rfl rfl ?_
  refine j_cVWi dX10_riseAt_2 im_cX_longestRise lk_X10_380 rfl (As := [(2, a1)]) (S := []) rfl oc_0.1 ⟨by decide, by decide⟩ (Nat.le_of_ble_eq_true rfl) (fun r hr => cX_longestRise_ct a1 ha1 G hr) (fun r2 _ => ?_)
  refine j_istore_n dX10_riseAt_5 rfl (Nat.le_of_ble_eq_true rfl) rfl ?_
  refine j_iload_n dX10_riseAt_6 rfl rfl ?_
  refine j_if_lt (tgt := 15) dX10_riseAt_7 rfl (fun h7 => ?_) (fun h7 => ?_)
  · refine j_bipush dX10_riseAt_15 r32_m2 bp_m2 ?_
    exact j_ireturn dX10_riseAt_17 rfl rfl (Nat.zero_le _) (Nat.zero_le _)
  · refine j_iload_n dX10_riseAt_10 rfl rfl ?_
    refine j_iload_n dX10_riseAt_11 rfl rfl ?_
    refine j_icmp_lt (tgt := 18) dX10_riseAt_12 rfl (fun h12 => ?_) (fun h12 => ?_)
    · refine j_bipush dX10_riseAt_15 r32_m2 bp_m2 ?_
      exact j_ireturn dX10_riseAt_17 rfl rfl (Nat.zero_le _) (Nat.zero_le _)
    · refine j_iconst dX10_riseAt_18 r32_0 ?_
      refine j_istore dX10_riseAt_19 (Nat.le_of_ble_eq_true rfl) rfl ?_
      refine j_iconst dX10_riseAt_21 r32_m1 ?_
      refine j_istore dX10_riseAt_22 (Nat.le_of_ble_eq_true rfl) rfl ?_
      refine j_iconst dX10_riseAt_24 r32_m1 ?_
      refine j_istore dX10_riseAt_25 (Nat.le_of_ble_eq_true rfl) rfl ?_
      refine j_iconst dX10_riseAt_27 r32_0 ?_
      refine j_istore dX10_riseAt_28 (Nat.le_of_ble_eq_true rfl) rfl ?_
      exact j_mask [true, true, true, true, true, true, true, true, false] rfl (cX_riseAt_L30_J a1 ha1 a2 r2.1 r2.2 FU 0 (-1) (-1) 0)

set_option maxRecDepth 100000 in
theorem cX_riseAt_ct {l : Launch} {H : Hp} (a1 : Int) (ha1 : isPaper a1) (a2 : Int) (G : Hp) {r : Int × Hp} (h : cX_riseAt a1 a2 G = some r) : Ct l M_cX_riseAt [(2, 0), (2, a1), (0, a2)] 224 (fu G H) ((KWi (fun g => fu g H)) r) :=
  ct_of_J (by decide +kernel) rfl (Nat.le_of_ble_eq_true rfl) (cX_riseAt_J a1 ha1 a2 G) h
set_option maxRecDepth 100000 in
theorem cX_rise_J {l : Launch} {H : Hp} (a1 : Int) (a2 : Int) (G : Hp) : J l M_cX_rise (KWi (fun g => fu g H)) (cX_rise a1 a2 G) 0 [(2, 0), (0, a1), (0, a2), (9, 0)] [] 224 (fu G H) (0, 0) := by
  unfold cX_rise
  refine j_aload_n dX10_rise_0 rfl rfl ?_
  refine j_iload_n dX10_rise_1 rfl rfl ?_
  refine j_cVRr dX10_rise_2 im_cX_paperAt lk_X10_124 rfl (As := [(0, a1)]) (S := []) rfl oc_0.1 ⟨by decide, by decide⟩ (Nat.le_of_ble_eq_true rfl) (fun r hr => cX_paperAt_ct a1 G hr) (fun v2 hv2 => ?_)
  refine j_astore_n dX10_rise_5 rfl (Nat.le_of_ble_eq_true rfl) rfl ?_
  refine j_aload_n dX10_rise_6 rfl rfl ?_
  refine j_ifnonnull (tgt := 13) dX10_rise_7 rfl (fun h7 => ?_) (fun h7 => ?_)
  · refine j_bipush dX10_rise_10 r32_m2 bp_m2 ?_
    exact j_ireturn dX10_rise_12 rfl rfl (Nat.zero_le _) (Nat.zero_le _)
  · refine j_iload_n dX10_rise_13 rfl rfl ?_
    refine j_ite _ (fun hc14_0 => ?_) (fun hc14_0 => ?_)
    · refine j_swIn (i := 0) (tgt := 48) dX10_rise_14 (hc14_0.trans (by decide)) (by decide) rfl rfl ?_
      refine j_aload_n dX10_rise_48 rfl rfl ?_
      refine j_aload_n dX10_rise_49 rfl rfl ?_
      refine j_cVWi dX10_rise_50 im_cX_longestRise lk_X10_380 rfl (As := [(2, v2)]) (S := []) rfl oc_0.1 ⟨by decide, by decide⟩ (Nat.le_of_ble_eq_true rfl) (fun r hr => cX_longestRise_ct v2 (cX_paperAt_ok hv2 h7) G hr) (fun r50 _ => ?_)
      exact j_ireturn dX10_rise_53 rfl rfl (Nat.zero_le _) (Nat.zero_le _)
    · refine j_ite _ (fun hc14_1 => ?_) (fun hc14_1 => ?_)
      · refine j_swIn (i := 1) (tgt := 54) dX10_rise_14 (hc14_1.trans (by decide)) (by decide) rfl rfl ?_
        refine j_aload_n dX10_rise_54 rfl rfl ?_
        refine j_cVRi dX10_rise_55 im_cPa_bend lk_X10_383 rfl (As := []) (S := []) rfl (oc_paper (cX_paperAt_ok hv2 h7)).1 ⟨by decide, by decide⟩ (Nat.le_of_ble_eq_true rfl) (fun r hr => cPa_bend_ct v2 (cX_paperAt_ok hv2 h7) G hr) (fun v55 _ => ?_)
        exact j_ireturn dX10_rise_58 rfl rfl (Nat.zero_le _) (Nat.zero_le _)
      · refine j_ite _ (fun hc14_2 => ?_) (fun hc14_2 => ?_)
        · refine j_swIn (i := 2) (tgt := 59) dX10_rise_14 (hc14_2.trans (by decide)) (by decide) rfl rfl ?_
          refine j_aload_n dX10_rise_59 rfl rfl ?_
          refine j_cVRi dX10_rise_60 im_cPa_twice lk_X10_386 rfl (As := []) (S := []) rfl (oc_paper (cX_paperAt_ok hv2 h7)).1 ⟨by decide, by decide⟩ (Nat.le_of_ble_eq_true rfl) (fun r hr => cPa_twice_ct v2 (cX_paperAt_ok hv2 h7) G hr) (fun v60 _ => ?_)
          exact j_ireturn dX10_rise_63 rfl rfl (Nat.zero_le _) (Nat.zero_le _)
        · refine j_ite _ (fun hc14_3 => ?_) (fun hc14_3 => ?_)
          · refine j_swIn (i := 3) (tgt := 64) dX10_rise_14 (hc14_3.trans (by decide)) (by decide) rfl rfl ?_
            refine j_aload_n dX10_rise_64 rfl rfl ?_
            refine j_aload_n dX10_rise_65 rfl rfl ?_
            refine j_cVWi dX10_rise_66 im_cX_unlikeWords lk_X10_389 rfl (As := [(2, v2)]) (S := []) rfl oc_0.1 ⟨by decide, by decide⟩ (Nat.le_of_ble_eq_true rfl) (fun r hr => cX_unlikeWords_ct v2 (cX_paperAt_ok hv2 h7) G hr) (fun r66 _ => ?_)
            exact j_ireturn dX10_rise_69 rfl rfl (Nat.zero_le _) (Nat.zero_le _)
          · refine j_ite _ (fun hc14_4 => ?_) (fun hc14_4 => ?_)
            · refine j_swIn (i := 4) (tgt := 70) dX10_rise_14 (hc14_4.trans (by decide)) (by decide) rfl rfl ?_
              refine j_aload_n dX10_rise_70 rfl rfl ?_
              refine j_aload_n dX10_rise_71 rfl rfl ?_
              refine j_cVWi dX10_rise_72 im_cX_commonWord lk_X10_392 rfl (As := [(2, v2)]) (S := []) rfl oc_0.1 ⟨by decide, by decide⟩ (Nat.le_of_ble_eq_true rfl) (fun r hr => cX_commonWord_ct v2 (cX_paperAt_ok hv2 h7) G hr) (fun r72 _ => ?_)
              exact j_ireturn dX10_rise_75 rfl rfl (Nat.zero_le _) (Nat.zero_le _)
            · refine j_swOut (tgt := 76) dX10_rise_14 (by omega) rfl ?_
              refine j_aload_n dX10_rise_76 rfl rfl ?_
              refine j_aload_n dX10_rise_77 rfl rfl ?_
              refine j_iload_n dX10_rise_78 rfl rfl ?_
              refine j_bipush dX10_rise_79 r32_10 bp_10 ?_
              refine j_isub dX10_rise_81 ?_
              refine j_cVWi dX10_rise_82 im_cX_riseAt lk_X10_395 rfl (As := [(2, v2), (0, w32 (a2 - 10))]) (S := []) rfl oc_0.1 ⟨by decide, by decide⟩ (Nat.le_of_ble_eq_true rfl) (fun r hr => cX_riseAt_ct v2 (cX_paperAt_ok hv2 h7) (w32 (a2 - 10)) G hr) (fun r82 _ => ?_)
              exact j_ireturn dX10_rise_85 rfl rfl (Nat.zero_le _) (Nat.zero_le _)

set_option maxRecDepth 100000 in
theorem cX_rise_ct {l : Launch} {H : Hp} (a1 : Int) (a2 : Int) (G : Hp) {r : Int × Hp} (h : cX_rise a1 a2 G = some r) : Ct l M_cX_rise [(2, 0), (0, a1), (0, a2)] 224 (fu G H) ((KWi (fun g => fu g H)) r) :=
  ct_of_J (by decide +kernel) rfl (Nat.le_of_ble_eq_true rfl) (cX_rise_J a1 a2 G) h
set_option maxRecDepth 100000 in
theorem cRw_keep_L4_J {l : Launch} {H : Hp} (a1 : Int) (ha1 : isPaper a1) (G_4 : Hp) (k30 : Int → Option (Hp)) (hk30 : ∀ (x2_30 : Int), J l M_cRw_keep (KWv (fun g => fu g H)) (k30 x2_30) 30 [(2, 80), (2, a1), (0, x2_30), (9, 0)] [] 224 (fu G_4 H) (0, 0)) : ∀ (n_4 : Nat) (x2_4 : Int) (x3_4 : Int), J l M_cRw_keep (KWv (fun g => fu g H)) (cRw_keep_L4 a1 G_4 k30 n_4 x2_4 x3_4) 4 [(2, 80), (2, a1), (0, x2_4), (0, x3_4)] [] 224 (fu G_4 H) (0, 0) := by
  intro n_4
  induction n_4 with
  | zero =>
    intro x2_4 x3_4
    exact j_none
  | succ n_4 ih =>
    intro x2_4 x3_4
    rw [cRw_keep_L4]
    refine j_iload_n dX5_keep_4 rfl rfl ?_
    refine j_aload_n dX5_keep_5 rfl rfl ?_
    refine j_gic dX5_keep_6 gf_X5_48 oc_80 ?_
    refine j_icmp_ge (tgt := 30) dX5_keep_9 rfl (fun h9 => ?_) (fun h9 => ?_)
    · refine j_bipush dX5_keep_12 r32_10 bp_10 ?_
      refine j_iload_n dX5_keep_14 rfl rfl ?_
      refine j_imul dX5_keep_15 ?_
      refine j_aload_n dX5_keep_16 rfl rfl ?_
      refine j_grc dX5_keep_17 gf_X5_15 oc_80 (Or.inl (by decide)) rf_80_4 ?_
      refine j_iload_n dX5_keep_20 rfl rfl ?_
      refine j_gd (fun h21a h21b => ?_)
      refine j_aic dX5_keep_21 oc_81 rfl h21a h21b ?_
      refine j_iadd dX5_keep_22 ?_
      refine j_istore_n dX5_keep_23 rfl (Nat.le_of_ble_eq_true rfl) rfl ?_
      refine j_iinc dX5_keep_24 rfl (Nat.le_of_ble_eq_true rfl) rfl ?_
      refine j_goto (tgt := 4) dX5_keep_27 rfl ?_
      exact j_mask [true, true, true, true] rfl (ih (w32 ((w32 (10 * x2_4)) + (G_4 81 x3_4))) (w32 (x3_4 + 1)))
    · exact j_mask [true, true, true, false] rfl (hk30 x2_4)

set_option maxRecDepth 100000 in
theorem cRw_keep_J {l : Launch} {H : Hp} (a1 : Int) (ha1 : isPaper a1) (G : Hp) : J l M_cRw_keep (KWv (fun g => fu g H)) (cRw_keep a1 G) 0 [(2, 80), (2, a1), (9, 0), (9, 0)] [] 224 (fu G H) (0, 0) := by
  unfold cRw_keep
  refine j_iconst dX5_keep_0 r32_1 ?_
  refine j_istore_n dX5_keep_1 rfl (Nat.le_of_ble_eq_true rfl) rfl ?_
  refine j_iconst dX5_keep_2 r32_0 ?_
  refine j_istore_n dX5_keep_3 rfl (Nat.le_of_ble_eq_true rfl) rfl ?_
  refine j_mask [true, true, true, true] rfl (cRw_keep_L4_J a1 ha1 G (fun x2_30 => gd (G 80 1) 720 (gd ((upd2 G 83 (G 80 1) x2_30) 80 2) 7 (gd ((upd2 G 83 (G 80 1) x2_30) 80 1) 720 (gd ((upd2 (upd2 G 83 (G 80 1) x2_30) 84 ((upd2 G 83 (G 80 1) x2_30) 80 1) ((upd2 G 83 (G 80 1) x2_30) 82 ((upd2 G 83 (G 80 1) x2_30) 80 2))) 80 2) 7 ((cPa_contentOfAll a1 ((upd2 (upd2 G 83 (G 80 1) x2_30) 84 ((upd2 G 83 (G 80 1) x2_30) 80 1) ((upd2 G 83 (G 80 1) x2_30) 82 ((upd2 G 83 (G 80 1) x2_30) 80 2))) 82 ((upd2 (upd2 G 83 (G 80 1) x2_30) 84 ((upd2 G 83 (G 80 1) x2_30) 80 1) ((upd2 G 83 (G 80 1) x2_30) 82 ((upd2 G 83 (G 80 1) x2_30) 80 2))) 80 2)) (upd2 (upd2 G 83 (G 80 1) x2_30) 84 ((upd2 G 83 (G 80 1) x2_30) 80 1) ((upd2 G 83 (G 80 1) x2_30) 82 ((upd2 G 83 (G 80 1) x2_30) 80 2)))).bind fun v76 => gd ((upd2 (upd2 G 83 (G 80 1) x2_30) 84 ((upd2 G 83 (G 80 1) x2_30) 80 1) ((upd2 G 83 (G 80 1) x2_30) 82 ((upd2 G 83 (G 80 1) x2_30) 80 2))) 80 1) 720 (some (upd2 (upd2 (upd2 (upd2 G 83 (G 80 1) x2_30) 84 ((upd2 G 83 (G 80 1) x2_30) 80 1) ((upd2 G 83 (G 80 1) x2_30) 82 ((upd2 G 83 (G 80 1) x2_30) 80 2))) 85 ((upd2 (upd2 G 83 (G 80 1) x2_30) 84 ((upd2 G 83 (G 80 1) x2_30) 80 1) ((upd2 G 83 (G 80 1) x2_30) 82 ((upd2 G 83 (G 80 1) x2_30) 80 2))) 80 1) v76) 80 1 (w32 (((upd2 (upd2 (upd2 G 83 (G 80 1) x2_30) 84 ((upd2 G 83 (G 80 1) x2_30) 80 1) ((upd2 G 83 (G 80 1) x2_30) 82 ((upd2 G 83 (G 80 1) x2_30) 80 2))) 85 ((upd2 (upd2 G 83 (G 80 1) x2_30) 84 ((upd2 G 83 (G 80 1) x2_30) 80 1) ((upd2 G 83 (G 80 1) x2_30) 82 ((upd2 G 83 (G 80 1) x2_30) 80 2))) 80 1) v76) 80 1) + 1))))))))) (fun x2_30 => ?_) FU 1 0)
  refine j_aload_n dX5_keep_30 rfl rfl ?_
  refine j_grc dX5_keep_31 gf_X5_22 oc_80 (Or.inl (by decide)) rf_80_6 ?_
  refine j_aload_n dX5_keep_34 rfl rfl ?_
  refine j_gic dX5_keep_35 gf_X5_34 oc_80 ?_
  refine j_iload_n dX5_keep_38 rfl rfl ?_
  refine j_gd (fun h39a h39b => ?_)
  refine j_sic dX5_keep_39 oc_83 rfl h39a h39b ?_
  refine j_aload_n dX5_keep_40 rfl rfl ?_
  refine j_grc dX5_keep_41 gf_X5_25 oc_80 (Or.inl (by decide)) rf_80_7 ?_
  refine j_aload_n dX5_keep_44 rfl rfl ?_
  refine j_gic dX5_keep_45 gf_X5_34 oc_80 ?_
  refine j_aload_n dX5_keep_48 rfl rfl ?_
  refine j_grc dX5_keep_49 gf_X5_19 oc_80 (Or.inl (by decide)) rf_80_5 ?_
  refine j_aload_n dX5_keep_52 rfl rfl ?_
  refine j_gic dX5_keep_53 gf_X5_48 oc_80 ?_
  refine j_gd (fun h56a h56b => ?_)
  refine j_aic dX5_keep_56 oc_82 rfl h56a h56b ?_
  refine j_gd (fun h57a h57b => ?_)
  refine j_sic dX5_keep_57 oc_84 rfl h57a h57b ?_
  refine j_aload_n dX5_keep_58 rfl rfl ?_
  refine j_grc dX5_keep_59 gf_X5_28 oc_80 (Or.inl (by decide)) rf_80_8 ?_
  refine j_aload_n dX5_keep_62 rfl rfl ?_
  refine j_gic dX5_keep_63 gf_X5_34 oc_80 ?_
  refine j_aload_n dX5_keep_66 rfl rfl ?_
  refine j_aload_n dX5_keep_67 rfl rfl ?_
  refine j_grc dX5_keep_68 gf_X5_19 oc_80 (Or.inl (by decide)) rf_80_5 ?_
  refine j_aload_n dX5_keep_71 rfl rfl ?_
  refine j_gic dX5_keep_72 gf_X5_48 oc_80 ?_
  refine j_gd (fun h75a h75b => ?_)
  refine j_aic dX5_keep_75 oc_82 rfl h75a h75b ?_
  refine j_cVRi dX5_keep_76 im_cPa_contentOfAll lk_X5_66 rfl (As := [(0, (upd2 (upd2 G 83 (G 80 1) x2_30) 84 ((upd2 G 83 (G 80 1) x2_30) 80 1) ((upd2 G 83 (G 80 1) x2_30) 82 ((upd2 G 83 (G 80 1) x2_30) 80 2))) 82 ((upd2 (upd2 G 83 (G 80 1) x2_30) 84 ((upd2 G 83 (G 80 1) x2_30) 80 1) ((upd2 G 83 (G 80 1) x2_30) 82 ((upd2 G 83 (G 80 1) x2_30) 80 2))) 80 2))]) (S := [(0, (upd2 (upd2 G 83 (G 80 1) x2_30) 84 ((upd2 G 83 (G 80 1) x2_30) 80 1) ((upd2 G 83 (G 80 1) x2_30) 82 ((upd2 G 83 (G 80 1) x2_30) 80 2))) 80 1), (2, 85)]) rfl (oc_paper ha1).1 ⟨by decide, by decide⟩ (Nat.le_of_ble_eq_true rfl) (fun r hr => cPa_contentOfAll_ct a1 ha1 ((upd2 (upd2 G 83 (G 80 1) x2_30) 84 ((upd2 G 83 (G 80 1) x2_30) 80 1) ((upd2 G 83 (G 80 1) x2_30) 82 ((upd2 G 83 (G 80 1) x2_30) 80 2))) 82 ((upd2 (upd2 G 83 (G 80 1) x2_30) 84 ((upd2 G 83 (G 80 1) x2_30) 80 1) ((upd2 G 83 (G 80 1) x2_30) 82 ((upd2 G 83 (G 80 1) x2_30) 80 2))) 80 2)) (upd2 (upd2 G 83 (G 80 1) x2_30) 84 ((upd2 G 83 (G 80 1) x2_30) 80 1) ((upd2 G 83 (G 80 1) x2_30) 82 ((upd2 G 83 (G 80 1) x2_30) 80 2))) hr) (fun v76 _ => ?_)
  refine j_gd (fun h79a h79b => ?_)
  refine j_sic dX5_keep_79 oc_85 rfl h79a h79b ?_
  refine j_aload_n dX5_keep_80 rfl rfl ?_
  refine j_dup dX5_keep_81 (by decide) ?_
  refine j_gic dX5_keep_82 gf_X5_34 oc_80 ?_
  refine j_iconst dX5_keep_85 r32_1 ?_
  refine j_iadd dX5_keep_86 ?_
  refine j_pic dX5_keep_87 gf_X5_34 po_5_1 oc_80 (nf_5_1 _) ?_
  exact j_return dX5_keep_90 rfl rfl (Nat.zero_le _) (Nat.zero_le _)

set_option maxRecDepth 100000 in
theorem cRw_keep_ct {l : Launch} {H : Hp} (a1 : Int) (ha1 : isPaper a1) (G : Hp) {r : Hp} (h : cRw_keep a1 G = some r) : Ct l M_cRw_keep [(2, 80), (2, a1)] 224 (fu G H) ((KWv (fun g => fu g H)) r) :=
  ct_of_J (by decide +kernel) rfl (Nat.le_of_ble_eq_true rfl) (cRw_keep_J a1 ha1 G) h
set_option maxRecDepth 100000 in
theorem cRw_swap_J {l : Launch} {H : Hp} (a1 : Int) (a2 : Int) (G : Hp) : J l M_cRw_swap (KWv (fun g => fu g H)) (cRw_swap a1 a2 G) 0 [(2, 80), (0, a1), (0, a2), (9, 0)] [] 224 (fu G H) (0, 0) := by
  unfold cRw_swap
  refine j_aload_n dX5_swap_0 rfl rfl ?_
  refine j_grc dX5_swap_1 gf_X5_15 oc_80 (Or.inl (by decide)) rf_80_4 ?_
  refine j_iload_n dX5_swap_4 rfl rfl ?_
  refine j_gd (fun h5a h5b => ?_)
  refine j_aic dX5_swap_5 oc_81 rfl h5a h5b ?_
  refine j_istore_n dX5_swap_6 rfl (Nat.le_of_ble_eq_true rfl) rfl ?_
  refine j_aload_n dX5_swap_7 rfl rfl ?_
  refine j_grc dX5_swap_8 gf_X5_15 oc_80 (Or.inl (by decide)) rf_80_4 ?_
  refine j_iload_n dX5_swap_11 rfl rfl ?_
  refine j_aload_n dX5_swap_12 rfl rfl ?_
  refine j_grc dX5_swap_13 gf_X5_15 oc_80 (Or.inl (by decide)) rf_80_4 ?_
  refine j_iload_n dX5_swap_16 rfl rfl ?_
  refine j_gd (fun h17a h17b => ?_)
  refine j_aic dX5_swap_17 oc_81 rfl h17a h17b ?_
  refine j_gd (fun h18a h18b => ?_)
  refine j_sic dX5_swap_18 oc_81 rfl h18a h18b ?_
  refine j_aload_n dX5_swap_19 rfl rfl ?_
  refine j_grc dX5_swap_20 gf_X5_15 oc_80 (Or.inl (by decide)) rf_80_4 ?_
  refine j_iload_n dX5_swap_23 rfl rfl ?_
  refine j_iload_n dX5_swap_24 rfl rfl ?_
  refine j_gd (fun h25a h25b => ?_)
  refine j_sic dX5_swap_25 oc_81 rfl h25a h25b ?_
  exact j_return dX5_swap_26 rfl rfl (Nat.zero_le _) (Nat.zero_le _)

set_option maxRecDepth 100000 in
theorem cRw_swap_ct {l : Launch} {H : Hp} (a1 : Int) (a2 : Int) (G : Hp) {r : Hp} (h : cRw_swap a1 a2 G = some r) : Ct l M_cRw_swap [(2, 80), (0, a1), (0, a2)] 224 (fu G H) ((KWv (fun g => fu g H)) r) :=
  ct_of_J (by decide +kernel) rfl (Nat.le_of_ble_eq_true rfl) (cRw_swap_J a1 a2 G) h
set_option maxRecDepth 100000 in
theorem cRw_turn_L7_J {l : Launch} {H : Hp} (G_7 : Hp) (k34 : Int → Option (Int × Hp)) (hk34 : ∀ (x1_34 : Int), J l M_cRw_turn (KWi (fun g => fu g H)) (k34 x1_34) 34 [(2, 80), (0, x1_34), (9, 0), (9, 0), (9, 0)] [] 224 (fu G_7 H) (0, 0)) : ∀ (n_7 : Nat) (x1_7 : Int), J l M_cRw_turn (KWi (fun g => fu g H)) (cRw_turn_L7 G_7 k34 n_7 x1_7) 7 [(2, 80), (0, x1_7), (9, 0), (9, 0), (9, 0)] [] 224 (fu G_7 H) (0, 0) := by
  intro n_7
  induction n_7 with
  | zero =>
    intro x1_7
    exact j_none
  | succ n_7 ih =>
    intro x1_7
    rw [cRw_turn_L7]
    refine j_iload_n dX5_turn_7 rfl rfl ?_
    refine j_if_lt (tgt := 34) dX5_turn_8 rfl (fun h8 => ?_) (fun h8 => ?_)
    · exact j_mask [true, true, false, false, false] rfl (hk34 x1_7)
    · refine j_aload_n dX5_turn_11 rfl rfl ?_
      refine j_grc dX5_turn_12 gf_X5_15 oc_80 (Or.inl (by decide)) rf_80_4 ?_
      refine j_iload_n dX5_turn_15 rfl rfl ?_
      refine j_gd (fun h16a h16b => ?_)
      refine j_aic dX5_turn_16 oc_81 rfl h16a h16b ?_
      refine j_aload_n dX5_turn_17 rfl rfl ?_
      refine j_grc dX5_turn_18 gf_X5_15 oc_80 (Or.inl (by decide)) rf_80_4 ?_
      refine j_iload_n dX5_turn_21 rfl rfl ?_
      refine j_iconst dX5_turn_22 r32_1 ?_
      refine j_iadd dX5_turn_23 ?_
      refine j_gd (fun h24a h24b => ?_)
      refine j_aic dX5_turn_24 oc_81 rfl h24a h24b ?_
      refine j_icmp_le (tgt := 34) dX5_turn_25 rfl (fun h25 => ?_) (fun h25 => ?_)
      · refine j_iinc dX5_turn_28 rfl (Nat.le_of_ble_eq_true rfl) rfl ?_
        refine j_goto (tgt := 7) dX5_turn_31 rfl ?_
        exact j_mask [true, true, false, false, false] rfl (ih (w32 (x1_7 + (-1))))
      · exact j_mask [true, true, false, false, false] rfl (hk34 x1_7)

set_option maxRecDepth 100000 in
theorem cRw_turn_L47_J {l : Launch} {H : Hp} (x1_47 : Int) (G_47 : Hp) (k73 : Int → Option (Int × Hp)) (hk73 : ∀ (x2_73 : Int), J l M_cRw_turn (KWi (fun g => fu g H)) (k73 x2_73) 73 [(2, 80), (0, x1_47), (0, x2_73), (9, 0), (9, 0)] [] 224 (fu G_47 H) (0, 0)) : ∀ (n_47 : Nat) (x2_47 : Int), J l M_cRw_turn (KWi (fun g => fu g H)) (cRw_turn_L47 x1_47 G_47 k73 n_47 x2_47) 47 [(2, 80), (0, x1_47), (0, x2_47), (9, 0), (9, 0)] [] 224 (fu G_47 H) (0, 0) := by
  intro n_47
  induction n_47 with
  | zero =>
    intro x2_47
    exact j_none
  | succ n_47 ih =>
    intro x2_47
    rw [cRw_turn_L47]
    refine j_iload_n dX5_turn_47 rfl rfl ?_
    refine j_iload_n dX5_turn_48 rfl rfl ?_
    refine j_icmp_le (tgt := 73) dX5_turn_49 rfl (fun h49 => ?_) (fun h49 => ?_)
    · refine j_aload_n dX5_turn_52 rfl rfl ?_
      refine j_grc dX5_turn_53 gf_X5_15 oc_80 (Or.inl (by decide)) rf_80_4 ?_
      refine j_iload_n dX5_turn_56 rfl rfl ?_
      refine j_gd (fun h57a h57b => ?_)
      refine j_aic dX5_turn_57 oc_81 rfl h57a h57b ?_
      refine j_aload_n dX5_turn_58 rfl rfl ?_
      refine j_grc dX5_turn_59 gf_X5_15 oc_80 (Or.inl (by decide)) rf_80_4 ?_
      refine j_iload_n dX5_turn_62 rfl rfl ?_
      refine j_gd (fun h63a h63b => ?_)
      refine j_aic dX5_turn_63 oc_81 rfl h63a h63b ?_
      refine j_icmp_ge (tgt := 73) dX5_turn_64 rfl (fun h64 => ?_) (fun h64 => ?_)
      · refine j_iinc dX5_turn_67 rfl (Nat.le_of_ble_eq_true rfl) rfl ?_
        refine j_goto (tgt := 47) dX5_turn_70 rfl ?_
        exact j_mask [true, true, true, false, false] rfl (ih (w32 (x2_47 + (-1))))
      · exact j_mask [true, true, true, false, false] rfl (hk73 x2_47)
    · exact j_mask [true, true, true, false, false] rfl (hk73 x2_47)

set_option maxRecDepth 100000 in
theorem cRw_turn_L91_J {l : Launch} {H : Hp} (x1_91 : Int) : ∀ (n_91 : Nat) (x3_91 : Int) (x4_91 : Int) (G_91 : Hp), J l M_cRw_turn (KWi (fun g => fu g H)) (cRw_turn_L91 x1_91  n_91 x3_91 x4_91 G_91) 91 [(2, 80), (0, x1_91), (9, 0), (0, x3_91), (0, x4_91)] [] 224 (fu G_91 H) (0, 0) := by
  intro n_91
  induction n_91 with
  | zero =>
    intro x3_91 x4_91 G_91
    exact j_none
  | succ n_91 ih =>
    intro x3_91 x4_91 G_91
    rw [cRw_turn_L91]
    refine j_iload_n dX5_turn_91 rfl rfl ?_
    refine j_iload dX5_turn_92 rfl ?_
    refine j_icmp_ge (tgt := 113) dX5_turn_94 rfl (fun h94 => ?_) (fun h94 => ?_)
    · refine j_aload_n dX5_turn_97 rfl rfl ?_
      refine j_iload_n dX5_turn_98 rfl rfl ?_
      refine j_iload dX5_turn_99 rfl ?_
      refine j_cVWv dX5_turn_101 im_cRw_swap lk_X5_70 rfl (As := [(0, x3_91), (0, x4_91)]) (S := []) rfl oc_80.1 ⟨by decide, by decide⟩ (Nat.le_of_ble_eq_true rfl) (fun r hr => cRw_swap_ct x3_91 x4_91 G_91 hr) (fun G101 _ => ?_)
      refine j_iinc dX5_turn_104 rfl (Nat.le_of_ble_eq_true rfl) rfl ?_
      refine j_iinc dX5_turn_107 rfl (Nat.le_of_ble_eq_true rfl) rfl ?_
      refine j_goto (tgt := 91) dX5_turn_110 rfl ?_
      exact j_mask [true, true, false, true, true] rfl (ih (w32 (x3_91 + 1)) (w32 (x4_91 + (-1))) G101)
    · refine j_iload_n dX5_turn_113 rfl rfl ?_
      exact j_ireturn dX5_turn_114 rfl rfl (Nat.zero_le _) (Nat.zero_le _)

set_option maxRecDepth 100000 in
theorem cRw_turn_J {l : Launch} {H : Hp} (G : Hp) : J l M_cRw_turn (KWi (fun g => fu g H)) (cRw_turn  G) 0 [(2, 80), (9, 0), (9, 0), (9, 0), (9, 0)] [] 224 (fu G H) (0, 0) := by
  unfold cRw_turn
  refine j_aload_n dX5_turn_0 rfl rfl ?_
  refine j_gic dX5_turn_1 gf_X5_48 oc_80 ?_
  refine j_iconst dX5_turn_4 r32_2 ?_
  refine j_isub dX5_turn_5 ?_
  refine j_istore_n dX5_turn_6 rfl (Nat.le_of_ble_eq_true rfl) rfl ?_
  refine j_mask [true, true, false, false, false] rfl (cRw_turn_L7_J G (fun x1_34 => if x1_34 < 0 then some ((-1), G) else (cRw_turn_L47 x1_34 G (fun x2_73 => (cRw_swap x1_34 x2_73 G).bind fun G76 => cRw_turn_L91 x1_34 FU (w32 (x1_34 + 1)) (w32 ((G76 80 2) - 1)) G76) FU (w32 ((G 80 2) - 1)))) (fun x1_34 => ?_) FU (w32 ((G 80 2) - 2)))
  refine j_iload_n dX5_turn_34 rfl rfl ?_
  refine j_if_ge (tgt := 40) dX5_turn_35 rfl (fun h35 => ?_) (fun h35 => ?_)
  · refine j_iconst dX5_turn_38 r32_m1 ?_
    exact j_ireturn dX5_turn_39 rfl rfl (Nat.zero_le _) (Nat.zero_le _)
  · refine j_aload_n dX5_turn_40 rfl rfl ?_
    refine j_gic dX5_turn_41 gf_X5_48 oc_80 ?_
    refine j_iconst dX5_turn_44 r32_1 ?_
    refine j_isub dX5_turn_45 ?_
    refine j_istore_n dX5_turn_46 rfl (Nat.le_of_ble_eq_true rfl) rfl ?_
    refine j_mask [true, true, true, false, false] rfl (cRw_turn_L47_J x1_34 G (fun x2_73 => (cRw_swap x1_34 x2_73 G).bind fun G76 => cRw_turn_L91 x1_34 FU (w32 (x1_34 + 1)) (w32 ((G76 80 2) - 1)) G76) (fun x2_73 => ?_) FU (w32 ((G 80 2) - 1)))
    refine j_aload_n dX5_turn_73 rfl rfl ?_
    refine j_iload_n dX5_turn_74 rfl rfl ?_
    refine j_iload_n dX5_turn_75 rfl rfl ?_
    refine j_cVWv dX5_turn_76 im_cRw_swap lk_X5_70 rfl (As := [(0, x1_34), (0, x2_73)]) (S := []) rfl oc_80.1 ⟨by decide, by decide⟩ (Nat.le_of_ble_eq_true rfl) (fun r hr => cRw_swap_ct x1_34 x2_73 G hr) (fun G76 _ => ?_)
    refine j_iload_n dX5_turn_79 rfl rfl ?_
    refine j_iconst dX5_turn_80 r32_1 ?_
    refine j_iadd dX5_turn_81 ?_
    refine j_istore_n dX5_turn_82 rfl (Nat.le_of_ble_eq_true rfl) rfl ?_
    refine j_aload_n dX5_turn_83 rfl rfl ?_
    refine j_gic dX5_turn_84 gf_X5_48 oc_80 ?_
    refine j_iconst dX5_turn_87 r32_1 ?_
    refine j_isub dX5_turn_88 ?_
    refine j_istore dX5_turn_89 (Nat.le_of_ble_eq_true rfl) rfl ?_
    exact j_mask [true, true, false, true, true] rfl (cRw_turn_L91_J x1_34 FU (w32 (x1_34 + 1)) (w32 ((G76 80 2) - 1)) G76)

set_option maxRecDepth 100000 in
theorem cRw_turn_ct {l : Launch} {H : Hp} (G : Hp) {r : Int × Hp} (h : cRw_turn  G = some r) : Ct l M_cRw_turn [(2, 80)] 224 (fu G H) ((KWi (fun g => fu g H)) r) :=
  ct_of_J (by decide +kernel) rfl (Nat.le_of_ble_eq_true rfl) (cRw_turn_J  G) h
set_option maxRecDepth 100000 in
theorem cRw_make_L42_J {l : Launch} {H : Hp} (a1 : Int) (a2 : Int) (ha2 : isPaper a2) (k63 : Hp → Option (Hp)) (hk63 : ∀ (G_63 : Hp), J l M_cRw_make (KWv (fun g => fu g H)) (k63 G_63) 63 [(2, 80), (9, 0), (2, a2), (9, 0), (9, 0), (9, 0)] [] 224 (fu G_63 H) (0, 0)) : ∀ (n_42 : Nat) (x3_42 : Int) (G_42 : Hp), J l M_cRw_make (KWv (fun g => fu g H)) (cRw_make_L42 a1 a2 k63 n_42 x3_42 G_42) 42 [(2, 80), (9, 0), (2, a2), (0, x3_42), (9, 0), (9, 0)] [] 224 (fu G_42 H) (0, 0) := by
  intro n_42
  induction n_42 with
  | zero =>
    intro x3_42 G_42
    exact j_none
  | succ n_42 ih =>
    intro x3_42 G_42
    rw [cRw_make_L42]
    refine j_iload_n dX5_make_42 rfl rfl ?_
    refine j_aload_n dX5_make_43 rfl rfl ?_
    refine j_gic dX5_make_44 gf_X5_48 oc_80 ?_
    refine j_icmp_ge (tgt := 63) dX5_make_47 rfl (fun h47 => ?_) (fun h47 => ?_)
    · refine j_aload_n dX5_make_50 rfl rfl ?_
      refine j_grc dX5_make_51 gf_X5_15 oc_80 (Or.inl (by decide)) rf_80_4 ?_
      refine j_iload_n dX5_make_54 rfl rfl ?_
      refine j_iload_n dX5_make_55 rfl rfl ?_
      refine j_gd (fun h56a h56b => ?_)
      refine j_sic dX5_make_56 oc_81 rfl h56a h56b ?_
      refine j_iinc dX5_make_57 rfl (Nat.le_of_ble_eq_true rfl) rfl ?_
      refine j_goto (tgt := 42) dX5_make_60 rfl ?_
      exact j_mask [true, false, true, true, false, false] rfl (ih (w32 (x3_42 + 1)) (upd2 G_42 81 x3_42 x3_42))
    · exact j_mask [true, false, true, false, false, false] rfl (hk63 G_42)

set_option maxRecDepth 100000 in
theorem cRw_make_L94_J {l : Launch} {H : Hp} (a1 : Int) (a2 : Int) (ha2 : isPaper a2) (x4_94 : Int) (k136 : Hp → Option (Hp)) (hk136 : ∀ (G_136 : Hp), J l M_cRw_make (KWv (fun g => fu g H)) (k136 G_136) 136 [(2, 80), (9, 0), (2, a2), (9, 0), (0, x4_94), (9, 0)] [] 224 (fu G_136 H) (0, 0)) : ∀ (n_94 : Nat) (x5_94 : Int) (G_94 : Hp), J l M_cRw_make (KWv (fun g => fu g H)) (cRw_make_L94 a1 a2 x4_94 k136 n_94 x5_94 G_94) 94 [(2, 80), (9, 0), (2, a2), (9, 0), (0, x4_94), (0, x5_94)] [] 224 (fu G_94 H) (0, 0) := by
  intro n_94
  induction n_94 with
  | zero =>
    intro x5_94 G_94
    exact j_none
  | succ n_94 ih =>
    intro x5_94 G_94
    rw [cRw_make_L94]
    refine j_iload dX5_make_94 rfl ?_
    refine j_aload_n dX5_make_96 rfl rfl ?_
    refine j_gic dX5_make_97 gf_X5_48 oc_80 ?_
    refine j_icmp_ge (tgt := 136) dX5_make_100 rfl (fun h100 => ?_) (fun h100 => ?_)
    · refine j_aload_n dX5_make_103 rfl rfl ?_
      refine j_grc dX5_make_104 gf_X5_19 oc_80 (Or.inl (by decide)) rf_80_5 ?_
      refine j_iload dX5_make_107 rfl ?_
      refine j_iconst dX5_make_109 r32_1 ?_
      refine j_iadd dX5_make_110 ?_
      refine j_aload_n dX5_make_111 rfl rfl ?_
      refine j_aload_n dX5_make_112 rfl rfl ?_
      refine j_grc dX5_make_113 gf_X5_15 oc_80 (Or.inl (by decide)) rf_80_4 ?_
      refine j_iload dX5_make_116 rfl ?_
      refine j_gd (fun h118a h118b => ?_)
      refine j_aic dX5_make_118 oc_81 rfl h118a h118b ?_
      refine j_aload_n dX5_make_119 rfl rfl ?_
      refine j_grc dX5_make_120 gf_X5_19 oc_80 (Or.inl (by decide)) rf_80_5 ?_
      refine j_iload dX5_make_123 rfl ?_
      refine j_gd (fun h125a h125b => ?_)
      refine j_aic dX5_make_125 oc_82 rfl h125a h125b ?_
      refine j_cVWi dX5_make_126 im_cPa_readBy lk_X5_55 rfl (As := [(0, G_94 81 x5_94), (0, G_94 82 x5_94)]) (S := [(0, w32 (x5_94 + 1)), (2, 82)]) rfl (oc_paper ha2).1 ⟨by decide, by decide⟩ (Nat.le_of_ble_eq_true rfl) (fun r hr => cPa_readBy_ct a2 ha2 (G_94 81 x5_94) (G_94 82 x5_94) G_94 hr) (fun r126 _ => ?_)
      refine j_gd (fun h129a h129b => ?_)
      refine j_sic dX5_make_129 oc_82 rfl h129a h129b ?_
      refine j_iinc dX5_make_130 rfl (Nat.le_of_ble_eq_true rfl) rfl ?_
      refine j_goto (tgt := 94) dX5_make_133 rfl ?_
      exact j_mask [true, false, true, false, true, true] rfl (ih (w32 (x5_94 + 1)) (upd2 r126.2 82 (w32 (x5_94 + 1)) r126.1))
    · exact j_mask [true, false, true, false, true, false] rfl (hk136 G_94)

set_option maxRecDepth 100000 in
theorem cRw_make_L78_J {l : Launch} {H : Hp} (a1 : Int) (a2 : Int) (ha2 : isPaper a2) : ∀ (n_78 : Nat) (x3_78 : Int) (x4_78 : Int) (G_78 : Hp), J l M_cRw_make (KWv (fun g => fu g H)) (cRw_make_L78 a1 a2  n_78 x3_78 x4_78 G_78) 78 [(2, 80), (9, 0), (2, a2), (0, x3_78), (0, x4_78), (9, 0)] [] 224 (fu G_78 H) (0, 0) := by
  intro n_78
  induction n_78 with
  | zero =>
    intro x3_78 x4_78 G_78
    exact j_none
  | succ n_78 ih =>
    intro x3_78 x4_78 G_78
    rw [cRw_make_L78]
    refine j_iload dX5_make_78 rfl ?_
    refine j_sipush dX5_make_80 r32_720 sp_720 ?_
    refine j_icmp_ge (tgt := 152) dX5_make_83 rfl (fun h83 => ?_) (fun h83 => ?_)
    · refine j_iload_n dX5_make_86 rfl rfl ?_
      refine j_iconst dX5_make_87 r32_m1 ?_
      refine j_icmp_eq (tgt := 152) dX5_make_88 rfl (fun h88 => ?_) (fun h88 => ?_)
      · exact j_return dX5_make_152 rfl rfl (Nat.zero_le _) (Nat.zero_le _)
      · refine j_iload_n dX5_make_91 rfl rfl ?_
        refine j_istore dX5_make_92 (Nat.le_of_ble_eq_true rfl) rfl ?_
        refine j_mask [true, false, true, false, true, true] rfl (cRw_make_L94_J a1 a2 ha2 x4_78 (fun G_136 => (cRw_keep a2 G_136).bind fun G138 => (cRw_turn G138).bind fun r142 => cRw_make_L78 a1 a2 n_78 r142.1 (w32 (x4_78 + 1)) r142.2) (fun G_136 => ?_) FU x3_78 G_78)
        refine j_aload_n dX5_make_136 rfl rfl ?_
        refine j_aload_n dX5_make_137 rfl rfl ?_
        refine j_cVWv dX5_make_138 im_cRw_keep lk_X5_58 rfl (As := [(2, a2)]) (S := []) rfl oc_80.1 ⟨by decide, by decide⟩ (Nat.le_of_ble_eq_true rfl) (fun r hr => cRw_keep_ct a2 ha2 G_136 hr) (fun G138 _ => ?_)
        refine j_aload_n dX5_make_141 rfl rfl ?_
        refine j_cVWi dX5_make_142 im_cRw_turn lk_X5_62 rfl (As := []) (S := []) rfl oc_80.1 ⟨by decide, by decide⟩ (Nat.le_of_ble_eq_true rfl) (fun r hr => cRw_turn_ct  G138 hr) (fun r142 _ => ?_)
        refine j_istore_n dX5_make_145 rfl (Nat.le_of_ble_eq_true rfl) rfl ?_
        refine j_iinc dX5_make_146 rfl (Nat.le_of_ble_eq_true rfl) rfl ?_
        refine j_goto (tgt := 78) dX5_make_149 rfl ?_
        exact j_mask [true, false, true, true, true, false] rfl (ih r142.1 (w32 (x4_78 + 1)) r142.2)
    · exact j_return dX5_make_152 rfl rfl (Nat.zero_le _) (Nat.zero_le _)

set_option maxRecDepth 100000 in
theorem cRw_make_J {l : Launch} {H : Hp} (a1 : Int) (a2 : Int) (ha2 : isPaper a2) (G : Hp) : J l M_cRw_make (KWv (fun g => fu g H)) (cRw_make a1 a2 G) 0 [(2, 80), (0, a1), (2, a2), (9, 0), (9, 0), (9, 0)] [] 224 (fu G H) (0, 0) := by
  unfold cRw_make
  refine j_aload_n dX5_make_0 rfl rfl ?_
  refine j_gic dX5_make_1 gf_X5_9 oc_80 ?_
  refine j_iload_n dX5_make_4 rfl rfl ?_
  refine j_icmp_ne (tgt := 9) dX5_make_5 rfl (fun h5 => ?_) (fun h5 => ?_)
  · exact j_return dX5_make_8 rfl rfl (Nat.zero_le _) (Nat.zero_le _)
  · refine j_aload_n dX5_make_9 rfl rfl ?_
    refine j_iload_n dX5_make_10 rfl rfl ?_
    refine j_pic dX5_make_11 gf_X5_9 po_5_0 oc_80 (nf_5_0 _) ?_
    refine j_aload_n dX5_make_14 rfl rfl ?_
    refine j_iconst dX5_make_15 r32_0 ?_
    refine j_pic dX5_make_16 gf_X5_34 po_5_1 oc_80 (nf_5_1 _) ?_
    refine j_aload_n dX5_make_19 rfl rfl ?_
    refine j_aload_n dX5_make_20 rfl rfl ?_
    refine j_gic dX5_make_21 gf_X5_37 (oc_paper ha2) ?_
    refine j_bipush dX5_make_24 r32_6 bp_6 ?_
    refine j_min dX5_make_26 mm_X5_42 st_min in_Math co_min (Nat.le_of_ble_eq_true rfl) (Nat.le_of_ble_eq_true rfl) (Nat.zero_le _) (Nat.zero_le _) ?_
    refine j_pic dX5_make_29 gf_X5_48 po_5_2 oc_80 (nf_5_2 _) ?_
    refine j_aload_n dX5_make_32 rfl rfl ?_
    refine j_aload_n dX5_make_33 rfl rfl ?_
    refine j_gic dX5_make_34 gf_X5_49 (oc_paper ha2) ?_
    refine j_pic dX5_make_37 gf_X5_52 po_5_3 oc_80 (nf_5_3 _) ?_
    refine j_iconst dX5_make_40 r32_0 ?_
    refine j_istore_n dX5_make_41 rfl (Nat.le_of_ble_eq_true rfl) rfl ?_
    refine j_mask [true, false, true, true, false, false] rfl (cRw_make_L42_J a1 a2 ha2 (fun G_63 => cRw_make_L78 a1 a2 FU 0 0 (upd2 G_63 82 0 (G_63 a2 0))) (fun G_63 => ?_) FU 0 (upd2 (upd2 (upd2 (upd2 G 80 0 a1) 80 1 0) 80 2 (min ((upd2 (upd2 G 80 0 a1) 80 1 0) a2 2) 6)) 80 3 ((upd2 (upd2 (upd2 G 80 0 a1) 80 1 0) 80 2 (min ((upd2 (upd2 G 80 0 a1) 80 1 0) a2 2) 6)) a2 1)))
    refine j_aload_n dX5_make_63 rfl rfl ?_
    refine j_grc dX5_make_64 gf_X5_19 oc_80 (Or.inl (by decide)) rf_80_5 ?_
    refine j_iconst dX5_make_67 r32_0 ?_
    refine j_aload_n dX5_make_68 rfl rfl ?_
    refine j_gic dX5_make_69 gf_X5_53 (oc_paper ha2) ?_
    refine j_sic dX5_make_72 oc_82 rfl (by decide) (by decide) ?_
    refine j_iconst dX5_make_73 r32_0 ?_
    refine j_istore_n dX5_make_74 rfl (Nat.le_of_ble_eq_true rfl) rfl ?_
    refine j_iconst dX5_make_75 r32_0 ?_
    refine j_istore dX5_make_76 (Nat.le_of_ble_eq_true rfl) rfl ?_
    exact j_mask [true, false, true, true, true, false] rfl (cRw_make_L78_J a1 a2 ha2 FU 0 0 (upd2 G_63 82 0 (G_63 a2 0)))

set_option maxRecDepth 100000 in
theorem cRw_make_ct {l : Launch} {H : Hp} (a1 : Int) (a2 : Int) (ha2 : isPaper a2) (G : Hp) {r : Hp} (h : cRw_make a1 a2 G = some r) : Ct l M_cRw_make [(2, 80), (0, a1), (2, a2)] 224 (fu G H) ((KWv (fun g => fu g H)) r) :=
  ct_of_J (by decide +kernel) rfl (Nat.le_of_ble_eq_true rfl) (cRw_make_J a1 a2 ha2 G) h
set_option maxRecDepth 100000 in
theorem cRw_mostContent_L4_J {l : Launch} {H : Hp} (G : Hp) : ∀ (n_4 : Nat) (x1_4 : Int) (x2_4 : Int), J l M_cRw_mostContent (KRi (fu G H)) (cRw_mostContent_L4 G  n_4 x1_4 x2_4) 4 [(2, 80), (0, x1_4), (0, x2_4)] [] 224 (fu G H) (0, 0) := by
  intro n_4
  induction n_4 with
  | zero =>
    intro x1_4 x2_4
    exact j_none
  | succ n_4 ih =>
    intro x1_4 x2_4
    rw [cRw_mostContent_L4]
    refine j_iload_n dX5_mostContent_4 rfl rfl ?_
    refine j_aload_n dX5_mostContent_5 rfl rfl ?_
    refine j_gic dX5_mostContent_6 gf_X5_34 oc_80 ?_
    refine j_icmp_ge (tgt := 39) dX5_mostContent_9 rfl (fun h9 => ?_) (fun h9 => ?_)
    · refine j_aload_n dX5_mostContent_12 rfl rfl ?_
      refine j_grc dX5_mostContent_13 gf_X5_28 oc_80 (Or.inl (by decide)) rf_80_8 ?_
      refine j_iload_n dX5_mostContent_16 rfl rfl ?_
      refine j_gd (fun h17a h17b => ?_)
      refine j_aic dX5_mostContent_17 oc_85 rfl h17a h17b ?_
      refine j_aload_n dX5_mostContent_18 rfl rfl ?_
      refine j_grc dX5_mostContent_19 gf_X5_28 oc_80 (Or.inl (by decide)) rf_80_8 ?_
      refine j_iload_n dX5_mostContent_22 rfl rfl ?_
      refine j_gd (fun h23a h23b => ?_)
      refine j_aic dX5_mostContent_23 oc_85 rfl h23a h23b ?_
      refine j_icmp_le (tgt := 31) dX5_mostContent_24 rfl (fun h24 => ?_) (fun h24 => ?_)
      · refine j_iload_n dX5_mostContent_27 rfl rfl ?_
        refine j_goto (tgt := 32) dX5_mostContent_28 rfl ?_
        refine j_istore_n dX5_mostContent_32 rfl (Nat.le_of_ble_eq_true rfl) rfl ?_
        refine j_iinc dX5_mostContent_33 rfl (Nat.le_of_ble_eq_true rfl) rfl ?_
        refine j_goto (tgt := 4) dX5_mostContent_36 rfl ?_
        exact j_mask [true, true, true] rfl (ih x2_4 (w32 (x2_4 + 1)))
      · refine j_iload_n dX5_mostContent_31 rfl rfl ?_
        refine j_istore_n dX5_mostContent_32 rfl (Nat.le_of_ble_eq_true rfl) rfl ?_
        refine j_iinc dX5_mostContent_33 rfl (Nat.le_of_ble_eq_true rfl) rfl ?_
        refine j_goto (tgt := 4) dX5_mostContent_36 rfl ?_
        exact j_mask [true, true, true] rfl (ih x1_4 (w32 (x2_4 + 1)))
    · refine j_iload_n dX5_mostContent_39 rfl rfl ?_
      exact j_ireturn dX5_mostContent_40 rfl rfl (Nat.zero_le _) (Nat.zero_le _)

set_option maxRecDepth 100000 in
theorem cRw_mostContent_J {l : Launch} {H : Hp} (G : Hp) : J l M_cRw_mostContent (KRi (fu G H)) (cRw_mostContent  G) 0 [(2, 80), (9, 0), (9, 0)] [] 224 (fu G H) (0, 0) := by
  unfold cRw_mostContent
  refine j_iconst dX5_mostContent_0 r32_0 ?_
  refine j_istore_n dX5_mostContent_1 rfl (Nat.le_of_ble_eq_true rfl) rfl ?_
  refine j_iconst dX5_mostContent_2 r32_1 ?_
  refine j_istore_n dX5_mostContent_3 rfl (Nat.le_of_ble_eq_true rfl) rfl ?_
  exact j_mask [true, true, true] rfl (cRw_mostContent_L4_J G FU 0 1)

set_option maxRecDepth 100000 in
theorem cRw_mostContent_ct {l : Launch} {H : Hp} (G : Hp) {r : Int} (h : cRw_mostContent  G = some r) : Ct l M_cRw_mostContent [(2, 80)] 224 (fu G H) ((KRi (fu G H)) r) :=
  ct_of_J (by decide +kernel) rfl (Nat.le_of_ble_eq_true rfl) (cRw_mostContent_J  G) h
set_option maxRecDepth 100000 in
theorem cRw_readerAt_J {l : Launch} {H : Hp} (a1 : Int) (a2 : Int) (G : Hp) : J l M_cRw_readerAt (KRi (fu G H)) (cRw_readerAt a1 a2 G) 0 [(2, 80), (0, a1), (0, a2)] [] 224 (fu G H) (0, 0) := by
  unfold cRw_readerAt
  refine j_iload_n dX5_readerAt_0 rfl rfl ?_
  refine j_if_lt (tgt := 24) dX5_readerAt_1 rfl (fun h1 => ?_) (fun h1 => ?_)
  · refine j_iconst dX5_readerAt_24 r32_m1 ?_
    exact j_ireturn dX5_readerAt_25 rfl rfl (Nat.zero_le _) (Nat.zero_le _)
  · refine j_iload_n dX5_readerAt_4 rfl rfl ?_
    refine j_aload_n dX5_readerAt_5 rfl rfl ?_
    refine j_gic dX5_readerAt_6 gf_X5_34 oc_80 ?_
    refine j_icmp_ge (tgt := 24) dX5_readerAt_9 rfl (fun h9 => ?_) (fun h9 => ?_)
    · refine j_iload_n dX5_readerAt_12 rfl rfl ?_
      refine j_if_lt (tgt := 24) dX5_readerAt_13 rfl (fun h13 => ?_) (fun h13 => ?_)
      · refine j_iconst dX5_readerAt_24 r32_m1 ?_
        exact j_ireturn dX5_readerAt_25 rfl rfl (Nat.zero_le _) (Nat.zero_le _)
      · refine j_iload_n dX5_readerAt_16 rfl rfl ?_
        refine j_aload_n dX5_readerAt_17 rfl rfl ?_
        refine j_gic dX5_readerAt_18 gf_X5_48 oc_80 ?_
        refine j_icmp_lt (tgt := 26) dX5_readerAt_21 rfl (fun h21 => ?_) (fun h21 => ?_)
        · refine j_iconst dX5_readerAt_24 r32_m1 ?_
          exact j_ireturn dX5_readerAt_25 rfl rfl (Nat.zero_le _) (Nat.zero_le _)
        · refine j_aload_n dX5_readerAt_26 rfl rfl ?_
          refine j_grc dX5_readerAt_27 gf_X5_22 oc_80 (Or.inl (by decide)) rf_80_6 ?_
          refine j_iload_n dX5_readerAt_30 rfl rfl ?_
          refine j_gd (fun h31a h31b => ?_)
          refine j_aic dX5_readerAt_31 oc_83 rfl h31a h31b ?_
          refine j_stat (i := 2) dX5_readerAt_32 (by decide) st_X5_74 ?_
          refine j_aload_n dX5_readerAt_35 rfl rfl ?_
          refine j_gic dX5_readerAt_36 gf_X5_48 oc_80 ?_
          refine j_iconst dX5_readerAt_39 r32_1 ?_
          refine j_isub dX5_readerAt_40 ?_
          refine j_iload_n dX5_readerAt_41 rfl rfl ?_
          refine j_isub dX5_readerAt_42 ?_
          refine j_gd (fun h43a h43b => ?_)
          refine j_statld (i := 2) dX5_readerAt_43 (by decide) h43a h43b ?_
          refine j_nz (fun hz44 => ?_)
          refine j_idiv dX5_readerAt_44 hz44 ?_
          refine j_bipush dX5_readerAt_45 r32_10 bp_10 ?_
          refine j_irem dX5_readerAt_47 (by decide) ?_
          exact j_ireturn dX5_readerAt_48 rfl rfl (Nat.zero_le _) (Nat.zero_le _)
    · refine j_iconst dX5_readerAt_24 r32_m1 ?_
      exact j_ireturn dX5_readerAt_25 rfl rfl (Nat.zero_le _) (Nat.zero_le _)

set_option maxRecDepth 100000 in
theorem cRw_readerAt_ct {l : Launch} {H : Hp} (a1 : Int) (a2 : Int) (G : Hp) {r : Int} (h : cRw_readerAt a1 a2 G = some r) : Ct l M_cRw_readerAt [(2, 80), (0, a1), (0, a2)] 224 (fu G H) ((KRi (fu G H)) r) :=
  ct_of_J (by decide +kernel) rfl (Nat.le_of_ble_eq_true rfl) (cRw_readerAt_J a1 a2 G) h
set_option maxRecDepth 100000 in
theorem cX_order_J {l : Launch} {H : Hp} (a1 : Int) (a2 : Int) (G : Hp) : J l M_cX_order (KWi (fun g => fu g H)) (cX_order a1 a2 G) 0 [(2, 0), (0, a1), (0, a2), (9, 0), (9, 0)] [] 224 (fu G H) (0, 0) := by
  unfold cX_order
  refine j_aload_n dX10_order_0 rfl rfl ?_
  refine j_iload_n dX10_order_1 rfl rfl ?_
  refine j_cVRr dX10_order_2 im_cX_paperAt lk_X10_124 rfl (As := [(0, a1)]) (S := []) rfl oc_0.1 ⟨by decide, by decide⟩ (Nat.le_of_ble_eq_true rfl) (fun r hr => cX_paperAt_ct a1 G hr) (fun v2 hv2 => ?_)
  refine j_astore_n dX10_order_5 rfl (Nat.le_of_ble_eq_true rfl) rfl ?_
  refine j_aload_n dX10_order_6 rfl rfl ?_
  refine j_ifnull (tgt := 23) dX10_order_7 rfl (fun h7 => ?_) (fun h7 => ?_)
  · refine j_iconst dX10_order_23 r32_m1 ?_
    exact j_ireturn dX10_order_24 rfl rfl (Nat.zero_le _) (Nat.zero_le _)
  · refine j_iload_n dX10_order_10 rfl rfl ?_
    refine j_iconst dX10_order_11 r32_m1 ?_
    refine j_icmp_lt (tgt := 23) dX10_order_12 rfl (fun h12 => ?_) (fun h12 => ?_)
    · refine j_iload_n dX10_order_15 rfl rfl ?_
      refine j_aload_n dX10_order_16 rfl rfl ?_
      refine j_gic dX10_order_17 gf_X10_245 (oc_paper (cX_paperAt_ok hv2 h7)) ?_
      refine j_icmp_lt (tgt := 25) dX10_order_20 rfl (fun h20 => ?_) (fun h20 => ?_)
      · refine j_iconst dX10_order_23 r32_m1 ?_
        exact j_ireturn dX10_order_24 rfl rfl (Nat.zero_le _) (Nat.zero_le _)
      · refine j_aload_n dX10_order_25 rfl rfl ?_
        refine j_grc dX10_order_26 gf_X10_55 oc_0 (Or.inl (by decide)) rf_0_7 ?_
        refine j_iload_n dX10_order_29 rfl rfl ?_
        refine j_aload_n dX10_order_30 rfl rfl ?_
        refine j_cVWv dX10_order_31 im_cRw_make lk_X10_401 rfl (As := [(0, a1), (2, v2)]) (S := []) rfl oc_80.1 ⟨by decide, by decide⟩ (Nat.le_of_ble_eq_true rfl) (fun r hr => cRw_make_ct a1 v2 (cX_paperAt_ok hv2 h7) G hr) (fun G31 _ => ?_)
        refine j_aload_n dX10_order_34 rfl rfl ?_
        refine j_grc dX10_order_35 gf_X10_55 oc_0 (Or.inl (by decide)) rf_0_7 ?_
        refine j_cVRi dX10_order_38 im_cRw_mostContent lk_X10_405 rfl (As := []) (S := []) rfl oc_80.1 ⟨by decide, by decide⟩ (Nat.le_of_ble_eq_true rfl) (fun r hr => cRw_mostContent_ct  G31 hr) (fun v38 _ => ?_)
        refine j_istore dX10_order_41 (Nat.le_of_ble_eq_true rfl) rfl ?_
        refine j_iload_n dX10_order_43 rfl rfl ?_
        refine j_iconst dX10_order_44 r32_m1 ?_
        refine j_icmp_ne (tgt := 61) dX10_order_45 rfl (fun h45 => ?_) (fun h45 => ?_)
        · refine j_aload_n dX10_order_48 rfl rfl ?_
          refine j_grc dX10_order_49 gf_X10_55 oc_0 (Or.inl (by decide)) rf_0_7 ?_
          refine j_grc dX10_order_52 gf_X10_408 oc_80 (Or.inl (by decide)) rf_80_8 ?_
          refine j_iload dX10_order_55 rfl ?_
          refine j_gd (fun h57a h57b => ?_)
          refine j_aic dX10_order_57 oc_85 rfl h57a h57b ?_
          refine j_goto (tgt := 71) dX10_order_58 rfl ?_
          exact j_ireturn dX10_order_71 rfl rfl (Nat.zero_le _) (Nat.zero_le _)
        · refine j_aload_n dX10_order_61 rfl rfl ?_
          refine j_grc dX10_order_62 gf_X10_55 oc_0 (Or.inl (by decide)) rf_0_7 ?_
          refine j_iload dX10_order_65 rfl ?_
          refine j_iload_n dX10_order_67 rfl rfl ?_
          refine j_cVRi dX10_order_68 im_cRw_readerAt lk_X10_410 rfl (As := [(0, v38), (0, a2)]) (S := []) rfl oc_80.1 ⟨by decide, by decide⟩ (Nat.le_of_ble_eq_true rfl) (fun r hr => cRw_readerAt_ct v38 a2 G31 hr) (fun v68 _ => ?_)
          exact j_ireturn dX10_order_71 rfl rfl (Nat.zero_le _) (Nat.zero_le _)
    · refine j_iconst dX10_order_23 r32_m1 ?_
      exact j_ireturn dX10_order_24 rfl rfl (Nat.zero_le _) (Nat.zero_le _)

set_option maxRecDepth 100000 in
theorem cX_order_ct {l : Launch} {H : Hp} (a1 : Int) (a2 : Int) (G : Hp) {r : Int × Hp} (h : cX_order a1 a2 G = some r) : Ct l M_cX_order [(2, 0), (0, a1), (0, a2)] 224 (fu G H) ((KWi (fun g => fu g H)) r) :=
  ct_of_J (by decide +kernel) rfl (Nat.le_of_ble_eq_true rfl) (cX_order_J a1 a2 G) h
set_option maxRecDepth 100000 in
theorem cLg_agrees_L2_J {l : Launch} {H : Hp} (o : Int) (ho : isLog o) (a1 : Int) (a2 : Int) (G : Hp) : ∀ (n_2 : Nat) (x3_2 : Int), J l M_cLg_agrees (KRb (fu G H)) (cLg_agrees_L2 o a1 a2 G  n_2 x3_2) 2 [(2, o), (0, a1), (0, a2), (0, x3_2)] [] 224 (fu G H) (0, 0) := by
  intro n_2
  induction n_2 with
  | zero =>
    intro x3_2
    exact j_none
  | succ n_2 ih =>
    intro x3_2
    rw [cLg_agrees_L2]
    refine j_iload_n dX0_agrees_2 rfl rfl ?_
    refine j_aload_n dX0_agrees_3 rfl rfl ?_
    refine j_gic dX0_agrees_4 gf_X0_18 (oc_log ho) ?_
    refine j_icmp_ge (tgt := 47) dX0_agrees_7 rfl (fun h7 => ?_) (fun h7 => ?_)
    · refine j_aload_n dX0_agrees_10 rfl rfl ?_
      refine j_grc dX0_agrees_11 gf_X0_9 (oc_log ho) (Or.inl (by decide)) (rf_log_1 ho) ?_
      refine j_iload_n dX0_agrees_14 rfl rfl ?_
      refine j_gd (fun h15a h15b => ?_)
      refine j_aic dX0_agrees_15 (oc_log_1 ho) rfl h15a h15b ?_
      refine j_iload_n dX0_agrees_16 rfl rfl ?_
      refine j_icmp_ge (tgt := 39) dX0_agrees_17 rfl (fun h17 => ?_) (fun h17 => ?_)
      · refine j_iload_n dX0_agrees_20 rfl rfl ?_
        refine j_aload_n dX0_agrees_21 rfl rfl ?_
        refine j_grc dX0_agrees_22 gf_X0_9 (oc_log ho) (Or.inl (by decide)) (rf_log_1 ho) ?_
        refine j_iload_n dX0_agrees_25 rfl rfl ?_
        refine j_gd (fun h26a h26b => ?_)
        refine j_aic dX0_agrees_26 (oc_log_1 ho) rfl h26a h26b ?_
        refine j_cSRip dX0_agrees_27 sm_cX_wordAt lk_X0_26 rfl (As := [(0, a2), (0, G (o + 1) x3_2)]) (S := []) rfl ⟨by decide, by decide⟩ (Nat.le_of_ble_eq_true rfl) (cX_wordAt_ct a2 (G (o + 1) x3_2)) ?_
        refine j_aload_n dX0_agrees_30 rfl rfl ?_
        refine j_grc dX0_agrees_31 gf_X0_15 (oc_log ho) (Or.inl (by decide)) (rf_log_2 ho) ?_
        refine j_iload_n dX0_agrees_34 rfl rfl ?_
        refine j_gd (fun h35a h35b => ?_)
        refine j_aic dX0_agrees_35 (oc_log_2 ho) rfl h35a h35b ?_
        refine j_icmp_eq (tgt := 41) dX0_agrees_36 rfl (fun h36 => ?_) (fun h36 => ?_)
        · refine j_iinc dX0_agrees_41 rfl (Nat.le_of_ble_eq_true rfl) rfl ?_
          refine j_goto (tgt := 2) dX0_agrees_44 rfl ?_
          exact j_mask [true, true, true, true] rfl (ih (w32 (x3_2 + 1)))
        · refine j_iconst dX0_agrees_39 r32_0 ?_
          exact j_zreturn (b := false) dX0_agrees_40 rfl rfl (Nat.zero_le _) (Nat.zero_le _)
      · refine j_iconst dX0_agrees_39 r32_0 ?_
        exact j_zreturn (b := false) dX0_agrees_40 rfl rfl (Nat.zero_le _) (Nat.zero_le _)
    · refine j_iconst dX0_agrees_47 r32_1 ?_
      exact j_zreturn (b := true) dX0_agrees_48 rfl rfl (Nat.zero_le _) (Nat.zero_le _)

set_option maxRecDepth 100000 in
theorem cLg_agrees_J {l : Launch} {H : Hp} (o : Int) (ho : isLog o) (a1 : Int) (a2 : Int) (G : Hp) : J l M_cLg_agrees (KRb (fu G H)) (cLg_agrees o a1 a2 G) 0 [(2, o), (0, a1), (0, a2), (9, 0)] [] 224 (fu G H) (0, 0) := by
  unfold cLg_agrees
  refine j_iconst dX0_agrees_0 r32_0 ?_
  refine j_istore_n dX0_agrees_1 rfl (Nat.le_of_ble_eq_true rfl) rfl ?_
  exact j_mask [true, true, true, true] rfl (cLg_agrees_L2_J o ho a1 a2 G FU 0)

set_option maxRecDepth 100000 in
theorem cLg_agrees_ct {l : Launch} {H : Hp} (o : Int) (ho : isLog o) (a1 : Int) (a2 : Int) (G : Hp) {r : Bool} (h : cLg_agrees o a1 a2 G = some r) : Ct l M_cLg_agrees [(2, o), (0, a1), (0, a2)] 224 (fu G H) ((KRb (fu G H)) r) :=
  ct_of_J (by decide +kernel) rfl (Nat.le_of_ble_eq_true rfl) (cLg_agrees_J o ho a1 a2 G) h
set_option maxRecDepth 100000 in
theorem cRw_choose_L7_J {l : Launch} {H : Hp} (a1 : Int) (ha1 : isLog a1) : ∀ (n_7 : Nat) (x2_7 : Int) (G_7 : Hp), J l M_cRw_choose (KWv (fun g => fu g H)) (cRw_choose_L7 a1  n_7 x2_7 G_7) 7 [(2, 80), (2, a1), (0, x2_7)] [] 224 (fu G_7 H) (0, 0) := by
  intro n_7
  induction n_7 with
  | zero =>
    intro x2_7 G_7
    exact j_none
  | succ n_7 ih =>
    intro x2_7 G_7
    rw [cRw_choose_L7]
    refine j_iload_n dX5_choose_7 rfl rfl ?_
    refine j_aload_n dX5_choose_8 rfl rfl ?_
    refine j_gic dX5_choose_9 gf_X5_34 oc_80 ?_
    refine j_icmp_ge (tgt := 58) dX5_choose_12 rfl (fun h12 => ?_) (fun h12 => ?_)
    · refine j_aload_n dX5_choose_15 rfl rfl ?_
      refine j_aload_n dX5_choose_16 rfl rfl ?_
      refine j_gic dX5_choose_17 gf_X5_52 oc_80 ?_
      refine j_aload_n dX5_choose_20 rfl rfl ?_
      refine j_grc dX5_choose_21 gf_X5_25 oc_80 (Or.inl (by decide)) rf_80_7 ?_
      refine j_iload_n dX5_choose_24 rfl rfl ?_
      refine j_gd (fun h25a h25b => ?_)
      refine j_aic dX5_choose_25 oc_84 rfl h25a h25b ?_
      refine j_cVRb dX5_choose_26 im_cLg_agrees lk_X5_80 rfl (As := [(0, G_7 80 3), (0, G_7 84 x2_7)]) (S := []) rfl (oc_log ha1).1 ⟨by decide, by decide⟩ (Nat.le_of_ble_eq_true rfl) (fun r hr => cLg_agrees_ct a1 ha1 (G_7 80 3) (G_7 84 x2_7) G_7 hr) (fun v26 _ => ?_)
      refine j_ifb_eq (tgt := 52) dX5_choose_29 rfl (fun h29 => ?_) (fun h29 => ?_)
      · refine j_aload_n dX5_choose_32 rfl rfl ?_
        refine j_grc dX5_choose_33 gf_X5_31 oc_80 (Or.inl (by decide)) rf_80_9 ?_
        refine j_aload_n dX5_choose_36 rfl rfl ?_
        refine j_gic dX5_choose_37 gf_X5_77 oc_80 ?_
        refine j_iload_n dX5_choose_40 rfl rfl ?_
        refine j_gd (fun h41a h41b => ?_)
        refine j_sic dX5_choose_41 oc_86 rfl h41a h41b ?_
        refine j_aload_n dX5_choose_42 rfl rfl ?_
        refine j_dup dX5_choose_43 (by decide) ?_
        refine j_gic dX5_choose_44 gf_X5_77 oc_80 ?_
        refine j_iconst dX5_choose_47 r32_1 ?_
        refine j_iadd dX5_choose_48 ?_
        refine j_pic dX5_choose_49 gf_X5_77 po_5_10 oc_80 (nf_5_10 _) ?_
        refine j_iinc dX5_choose_52 rfl (Nat.le_of_ble_eq_true rfl) rfl ?_
        refine j_goto (tgt := 7) dX5_choose_55 rfl ?_
        exact j_mask [true, true, true] rfl (ih (w32 (x2_7 + 1)) (upd2 (upd2 G_7 86 (G_7 80 10) x2_7) 80 10 (w32 (((upd2 G_7 86 (G_7 80 10) x2_7) 80 10) + 1))))
      · refine j_iinc dX5_choose_52 rfl (Nat.le_of_ble_eq_true rfl) rfl ?_
        refine j_goto (tgt := 7) dX5_choose_55 rfl ?_
        exact j_mask [true, true, true] rfl (ih (w32 (x2_7 + 1)) G_7)
    · exact j_return dX5_choose_58 rfl rfl (Nat.zero_le _) (Nat.zero_le _)

set_option maxRecDepth 100000 in
theorem cRw_choose_J {l : Launch} {H : Hp} (a1 : Int) (ha1 : isLog a1) (G : Hp) : J l M_cRw_choose (KWv (fun g => fu g H)) (cRw_choose a1 G) 0 [(2, 80), (2, a1), (9, 0)] [] 224 (fu G H) (0, 0) := by
  unfold cRw_choose
  refine j_aload_n dX5_choose_0 rfl rfl ?_
  refine j_iconst dX5_choose_1 r32_0 ?_
  refine j_pic dX5_choose_2 gf_X5_77 po_5_10 oc_80 (nf_5_10 _) ?_
  refine j_iconst dX5_choose_5 r32_0 ?_
  refine j_istore_n dX5_choose_6 rfl (Nat.le_of_ble_eq_true rfl) rfl ?_
  exact j_mask [true, true, true] rfl (cRw_choose_L7_J a1 ha1 FU 0 (upd2 G 80 10 0))

set_option maxRecDepth 100000 in
theorem cRw_choose_ct {l : Launch} {H : Hp} (a1 : Int) (ha1 : isLog a1) (G : Hp) {r : Hp} (h : cRw_choose a1 G = some r) : Ct l M_cRw_choose [(2, 80), (2, a1)] 224 (fu G H) ((KWv (fun g => fu g H)) r) :=
  ct_of_J (by decide +kernel) rfl (Nat.le_of_ble_eq_true rfl) (cRw_choose_J a1 ha1 G) h
set_option maxRecDepth 100000 in
theorem cRw_mostAlike_L2_J {l : Launch} {H : Hp} (a1 : Int) (k18 : Hp → Option (Int × Hp)) (hk18 : ∀ (G_18 : Hp), J l M_cRw_mostAlike (KWi (fun g => fu g H)) (k18 G_18) 18 [(2, 80), (0, a1), (2, 91), (9, 0), (9, 0), (9, 0)] [] 224 (fu G_18 H) (0, 0)) : ∀ (n_2 : Nat) (x3_2 : Int) (G_2 : Hp), J l M_cRw_mostAlike (KWi (fun g => fu g H)) (cRw_mostAlike_L2 a1 k18 n_2 x3_2 G_2) 2 [(2, 80), (0, a1), (2, 91), (0, x3_2), (9, 0), (9, 0)] [] 224 (fu G_2 H) (0, 0) := by
  intro n_2
  induction n_2 with
  | zero =>
    intro x3_2 G_2
    exact j_none
  | succ n_2 ih =>
    intro x3_2 G_2
    rw [cRw_mostAlike_L2]
    refine j_iload_n dX5_mostAlike_2 rfl rfl ?_
    refine j_aload_n dX5_mostAlike_3 rfl rfl ?_
    refine j_len (t := 0) dX5_mostAlike_4 oc_91.1 (by decide) rfl (by unfold r32; omega) ?_
    refine j_icmp_ge (tgt := 18) dX5_mostAlike_5 rfl (fun h5 => ?_) (fun h5 => ?_)
    · refine j_aload_n dX5_mostAlike_8 rfl rfl ?_
      refine j_iload_n dX5_mostAlike_9 rfl rfl ?_
      refine j_iconst dX5_mostAlike_10 r32_0 ?_
      refine j_gd (fun h11a h11b => ?_)
      refine j_sic dX5_mostAlike_11 oc_91 rfl h11a h11b ?_
      refine j_iinc dX5_mostAlike_12 rfl (Nat.le_of_ble_eq_true rfl) rfl ?_
      refine j_goto (tgt := 2) dX5_mostAlike_15 rfl ?_
      exact j_mask [true, true, true, true, false, false] rfl (ih (w32 (x3_2 + 1)) (upd2 G_2 91 x3_2 0))
    · exact j_mask [true, true, true, false, false, false] rfl (hk18 G_2)

set_option maxRecDepth 100000 in
theorem cRw_mostAlike_L23_J {l : Launch} {H : Hp} (a1 : Int) : ∀ (n_23 : Nat) (x3_23 : Int) (x4_23 : Int) (G_23 : Hp), J l M_cRw_mostAlike (KWi (fun g => fu g H)) (cRw_mostAlike_L23 a1  n_23 x3_23 x4_23 G_23) 23 [(2, 80), (0, a1), (2, 91), (0, x3_23), (0, x4_23), (9, 0)] [] 224 (fu G_23 H) (0, 0) := by
  intro n_23
  induction n_23 with
  | zero =>
    intro x3_23 x4_23 G_23
    exact j_none
  | succ n_23 ih =>
    intro x3_23 x4_23 G_23
    rw [cRw_mostAlike_L23]
    refine j_iload dX5_mostAlike_23 rfl ?_
    refine j_aload_n dX5_mostAlike_25 rfl rfl ?_
    refine j_gic dX5_mostAlike_26 gf_X5_77 oc_80 ?_
    refine j_icmp_ge (tgt := 80) dX5_mostAlike_29 rfl (fun h29 => ?_) (fun h29 => ?_)
    · refine j_aload_n dX5_mostAlike_32 rfl rfl ?_
      refine j_grc dX5_mostAlike_33 gf_X5_25 oc_80 (Or.inl (by decide)) rf_80_7 ?_
      refine j_aload_n dX5_mostAlike_36 rfl rfl ?_
      refine j_grc dX5_mostAlike_37 gf_X5_31 oc_80 (Or.inl (by decide)) rf_80_9 ?_
      refine j_iload dX5_mostAlike_40 rfl ?_
      refine j_gd (fun h42a h42b => ?_)
      refine j_aic dX5_mostAlike_42 oc_86 rfl h42a h42b ?_
      refine j_gd (fun h43a h43b => ?_)
      refine j_aic dX5_mostAlike_43 oc_84 rfl h43a h43b ?_
      refine j_iload_n dX5_mostAlike_44 rfl rfl ?_
      refine j_cSRip dX5_mostAlike_45 sm_cX_wordAt lk_X5_90 rfl (As := [(0, G_23 84 (G_23 86 x4_23)), (0, a1)]) (S := []) rfl ⟨by decide, by decide⟩ (Nat.le_of_ble_eq_true rfl) (cX_wordAt_ct (G_23 84 (G_23 86 x4_23)) a1) ?_
      refine j_istore dX5_mostAlike_48 (Nat.le_of_ble_eq_true rfl) rfl ?_
      refine j_iload dX5_mostAlike_50 rfl ?_
      refine j_aload_n dX5_mostAlike_52 rfl rfl ?_
      refine j_len (t := 0) dX5_mostAlike_53 oc_91.1 (by decide) rfl (by unfold r32; omega) ?_
      refine j_icmp_ge (tgt := 74) dX5_mostAlike_54 rfl (fun h54 => ?_) (fun h54 => ?_)
      · refine j_aload_n dX5_mostAlike_57 rfl rfl ?_
        refine j_iload dX5_mostAlike_58 rfl ?_
        refine j_dup2 dX5_mostAlike_60 (by decide) (by decide) ?_
        refine j_gd (fun h61a h61b => ?_)
        refine j_aic dX5_mostAlike_61 oc_91 rfl h61a h61b ?_
        refine j_iconst dX5_mostAlike_62 r32_1 ?_
        refine j_iadd dX5_mostAlike_63 ?_
        refine j_gd (fun h64a h64b => ?_)
        refine j_sic dX5_mostAlike_64 oc_91 rfl h64a h64b ?_
        refine j_iload_n dX5_mostAlike_65 rfl rfl ?_
        refine j_aload_n dX5_mostAlike_66 rfl rfl ?_
        refine j_iload dX5_mostAlike_67 rfl ?_
        refine j_gd (fun h69a h69b => ?_)
        refine j_aic dX5_mostAlike_69 oc_91 rfl h69a h69b ?_
        refine j_max dX5_mostAlike_70 mm_X5_93 st_max in_Math co_max (Nat.le_of_ble_eq_true rfl) (Nat.le_of_ble_eq_true rfl) (Nat.zero_le _) (Nat.zero_le _) ?_
        refine j_istore_n dX5_mostAlike_73 rfl (Nat.le_of_ble_eq_true rfl) rfl ?_
        refine j_iinc dX5_mostAlike_74 rfl (Nat.le_of_ble_eq_true rfl) rfl ?_
        refine j_goto (tgt := 23) dX5_mostAlike_77 rfl ?_
        exact j_mask [true, true, true, true, true, false] rfl (ih (max x3_23 ((upd2 G_23 91 (cX_wordAt (G_23 84 (G_23 86 x4_23)) a1) (w32 ((G_23 91 (cX_wordAt (G_23 84 (G_23 86 x4_23)) a1)) + 1))) 91 (cX_wordAt (G_23 84 (G_23 86 x4_23)) a1))) (w32 (x4_23 + 1)) (upd2 G_23 91 (cX_wordAt (G_23 84 (G_23 86 x4_23)) a1) (w32 ((G_23 91 (cX_wordAt (G_23 84 (G_23 86 x4_23)) a1)) + 1))))
      · refine j_iinc dX5_mostAlike_74 rfl (Nat.le_of_ble_eq_true rfl) rfl ?_
        refine j_goto (tgt := 23) dX5_mostAlike_77 rfl ?_
        exact j_mask [true, true, true, true, true, false] rfl (ih x3_23 (w32 (x4_23 + 1)) G_23)
    · refine j_iload_n dX5_mostAlike_80 rfl rfl ?_
      exact j_ireturn dX5_mostAlike_81 rfl rfl (Nat.zero_le _) (Nat.zero_le _)

set_option maxRecDepth 100000 in
theorem cRw_mostAlike_J {l : Launch} {H : Hp} (a1 : Int) (G : Hp) : J l M_cRw_mostAlike (KWi (fun g => fu g H)) (cRw_mostAlike a1 G) 0 [(2, 80), (0, a1), (2, 91), (9, 0), (9, 0), (9, 0)] [] 224 (fu G H) (0, 0) := by
  unfold cRw_mostAlike
  refine j_iconst dX5_mostAlike_0 r32_0 ?_
  refine j_istore_n dX5_mostAlike_1 rfl (Nat.le_of_ble_eq_true rfl) rfl ?_
  refine j_mask [true, true, true, true, false, false] rfl (cRw_mostAlike_L2_J a1 (fun G_18 => cRw_mostAlike_L23 a1 FU 0 0 G_18) (fun G_18 => ?_) FU 0 G)
  refine j_iconst dX5_mostAlike_18 r32_0 ?_
  refine j_istore_n dX5_mostAlike_19 rfl (Nat.le_of_ble_eq_true rfl) rfl ?_
  refine j_iconst dX5_mostAlike_20 r32_0 ?_
  refine j_istore dX5_mostAlike_21 (Nat.le_of_ble_eq_true rfl) rfl ?_
  exact j_mask [true, true, true, true, true, false] rfl (cRw_mostAlike_L23_J a1 FU 0 0 G_18)

set_option maxRecDepth 100000 in
theorem cRw_mostAlike_ct {l : Launch} {H : Hp} (a1 : Int) (G : Hp) {r : Int × Hp} (h : cRw_mostAlike a1 G = some r) : Ct l M_cRw_mostAlike [(2, 80), (0, a1), (2, 91)] 224 (fu G H) ((KWi (fun g => fu g H)) r) :=
  ct_of_J (by decide +kernel) rfl (Nat.le_of_ble_eq_true rfl) (cRw_mostAlike_J a1 G) h
set_option maxRecDepth 100000 in
theorem cRw_ask_L9_J {l : Launch} {H : Hp} : ∀ (n_9 : Nat) (x2_9 : Int) (x3_9 : Int) (x4_9 : Int) (G_9 : Hp), J l M_cRw_ask (KWi (fun g => fu g H)) (cRw_ask_L9  n_9 x2_9 x3_9 x4_9 G_9) 9 [(2, 80), (2, 91), (0, x2_9), (0, x3_9), (0, x4_9), (9, 0)] [] 224 (fu G_9 H) (0, 0) := by
  intro n_9
  induction n_9 with
  | zero =>
    intro x2_9 x3_9 x4_9 G_9
    exact j_none
  | succ n_9 ih =>
    intro x2_9 x3_9 x4_9 G_9
    rw [cRw_ask_L9]
    refine j_iload dX5_ask_9 rfl ?_
    refine j_aload_n dX5_ask_11 rfl rfl ?_
    refine j_gic dX5_ask_12 gf_X5_52 oc_80 ?_
    refine j_icmp_ge (tgt := 52) dX5_ask_15 rfl (fun h15 => ?_) (fun h15 => ?_)
    · refine j_aload_n dX5_ask_18 rfl rfl ?_
      refine j_gic dX5_ask_19 gf_X5_77 oc_80 ?_
      refine j_if_le (tgt := 52) dX5_ask_22 rfl (fun h22 => ?_) (fun h22 => ?_)
      · refine j_aload_n dX5_ask_25 rfl rfl ?_
        refine j_iload dX5_ask_26 rfl ?_
        refine j_aload_n dX5_ask_28 rfl rfl ?_
        refine j_cVWi dX5_ask_29 im_cRw_mostAlike lk_X5_86 rfl (As := [(0, x4_9), (2, 91)]) (S := []) rfl oc_80.1 ⟨by decide, by decide⟩ (Nat.le_of_ble_eq_true rfl) (fun r hr => cRw_mostAlike_ct x4_9 G_9 hr) (fun r29 _ => ?_)
        refine j_istore dX5_ask_32 (Nat.le_of_ble_eq_true rfl) rfl ?_
        refine j_iload dX5_ask_34 rfl ?_
        refine j_iload_n dX5_ask_36 rfl rfl ?_
        refine j_icmp_ge (tgt := 46) dX5_ask_37 rfl (fun h37 => ?_) (fun h37 => ?_)
        · refine j_iload dX5_ask_40 rfl ?_
          refine j_istore_n dX5_ask_42 rfl (Nat.le_of_ble_eq_true rfl) rfl ?_
          refine j_iload dX5_ask_43 rfl ?_
          refine j_istore_n dX5_ask_45 rfl (Nat.le_of_ble_eq_true rfl) rfl ?_
          refine j_iinc dX5_ask_46 rfl (Nat.le_of_ble_eq_true rfl) rfl ?_
          refine j_goto (tgt := 9) dX5_ask_49 rfl ?_
          exact j_mask [true, true, true, true, true, false] rfl (ih x4_9 r29.1 (w32 (x4_9 + 1)) r29.2)
        · refine j_iinc dX5_ask_46 rfl (Nat.le_of_ble_eq_true rfl) rfl ?_
          refine j_goto (tgt := 9) dX5_ask_49 rfl ?_
          exact j_mask [true, true, true, true, true, false] rfl (ih x2_9 x3_9 (w32 (x4_9 + 1)) r29.2)
      · refine j_iload_n dX5_ask_52 rfl rfl ?_
        exact j_ireturn dX5_ask_53 rfl rfl (Nat.zero_le _) (Nat.zero_le _)
    · refine j_iload_n dX5_ask_52 rfl rfl ?_
      exact j_ireturn dX5_ask_53 rfl rfl (Nat.zero_le _) (Nat.zero_le _)

set_option maxRecDepth 100000 in
theorem cRw_ask_J {l : Launch} {H : Hp} (G : Hp) : J l M_cRw_ask (KWi (fun g => fu g H)) (cRw_ask  G) 0 [(2, 80), (2, 91), (9, 0), (9, 0), (9, 0), (9, 0)] [] 224 (fu G H) (0, 0) := by
  unfold cRw_ask
  refine j_iconst dX5_ask_0 r32_m1 ?_
  refine j_istore_n dX5_ask_1 rfl (Nat.le_of_ble_eq_true rfl) rfl ?_
  refine j_sipush dX5_ask_2 r32_721 sp_721 ?_
  refine j_istore_n dX5_ask_5 rfl (Nat.le_of_ble_eq_true rfl) rfl ?_
  refine j_iconst dX5_ask_6 r32_0 ?_
  refine j_istore dX5_ask_7 (Nat.le_of_ble_eq_true rfl) rfl ?_
  exact j_mask [true, true, true, true, true, false] rfl (cRw_ask_L9_J FU (-1) 721 0 G)

set_option maxRecDepth 100000 in
theorem cRw_ask_ct {l : Launch} {H : Hp} (G : Hp) {r : Int × Hp} (h : cRw_ask  G = some r) : Ct l M_cRw_ask [(2, 80), (2, 91)] 224 (fu G H) ((KWi (fun g => fu g H)) r) :=
  ct_of_J (by decide +kernel) rfl (Nat.le_of_ble_eq_true rfl) (cRw_ask_J  G) h
set_option maxRecDepth 100000 in
theorem cRw_sure_L25_J {l : Launch} {H : Hp} (a1 : Int) (G : Hp) (x2_25 : Int) : ∀ (n_25 : Nat) (x3_25 : Int), J l M_cRw_sure (KRi (fu G H)) (cRw_sure_L25 a1 G x2_25  n_25 x3_25) 25 [(2, 80), (0, a1), (0, x2_25), (0, x3_25)] [] 224 (fu G H) (0, 0) := by
  intro n_25
  induction n_25 with
  | zero =>
    intro x3_25
    exact j_none
  | succ n_25 ih =>
    intro x3_25
    rw [cRw_sure_L25]
    refine j_iload_n dX5_sure_25 rfl rfl ?_
    refine j_aload_n dX5_sure_26 rfl rfl ?_
    refine j_gic dX5_sure_27 gf_X5_77 oc_80 ?_
    refine j_icmp_ge (tgt := 56) dX5_sure_30 rfl (fun h30 => ?_) (fun h30 => ?_)
    · refine j_aload_n dX5_sure_33 rfl rfl ?_
      refine j_aload_n dX5_sure_34 rfl rfl ?_
      refine j_grc dX5_sure_35 gf_X5_31 oc_80 (Or.inl (by decide)) rf_80_9 ?_
      refine j_iload_n dX5_sure_38 rfl rfl ?_
      refine j_gd (fun h39a h39b => ?_)
      refine j_aic dX5_sure_39 oc_86 rfl h39a h39b ?_
      refine j_iload_n dX5_sure_40 rfl rfl ?_
      refine j_cVRi dX5_sure_41 im_cRw_readerAt lk_X5_96 rfl (As := [(0, G 86 x3_25), (0, a1)]) (S := []) rfl oc_80.1 ⟨by decide, by decide⟩ (Nat.le_of_ble_eq_true rfl) (fun r hr => cRw_readerAt_ct (G 86 x3_25) a1 G hr) (fun v41 _ => ?_)
      refine j_iload_n dX5_sure_44 rfl rfl ?_
      refine j_icmp_eq (tgt := 50) dX5_sure_45 rfl (fun h45 => ?_) (fun h45 => ?_)
      · refine j_iinc dX5_sure_50 rfl (Nat.le_of_ble_eq_true rfl) rfl ?_
        refine j_goto (tgt := 25) dX5_sure_53 rfl ?_
        exact j_mask [true, true, true, true] rfl (ih (w32 (x3_25 + 1)))
      · refine j_iconst dX5_sure_48 r32_m1 ?_
        exact j_ireturn dX5_sure_49 rfl rfl (Nat.zero_le _) (Nat.zero_le _)
    · refine j_iload_n dX5_sure_56 rfl rfl ?_
      exact j_ireturn dX5_sure_57 rfl rfl (Nat.zero_le _) (Nat.zero_le _)

set_option maxRecDepth 100000 in
theorem cRw_sure_j22_J {l : Launch} {H : Hp} (a1 : Int) (G : Hp) (s0_22 : Int) : J l M_cRw_sure (KRi (fu G H)) (cRw_sure_j22 a1 G  s0_22) 22 [(2, 80), (0, a1), (9, 0), (9, 0)] [(0, s0_22)] 224 (fu G H) (0, 0) := by
  unfold cRw_sure_j22
  refine j_istore_n dX5_sure_22 rfl (Nat.le_of_ble_eq_true rfl) rfl ?_
  refine j_iconst dX5_sure_23 r32_1 ?_
  refine j_istore_n dX5_sure_24 rfl (Nat.le_of_ble_eq_true rfl) rfl ?_
  exact j_mask [true, true, true, true] rfl (cRw_sure_L25_J a1 G s0_22 FU 1)

set_option maxRecDepth 100000 in
theorem cRw_sure_J {l : Launch} {H : Hp} (a1 : Int) (G : Hp) : J l M_cRw_sure (KRi (fu G H)) (cRw_sure a1 G) 0 [(2, 80), (0, a1), (9, 0), (9, 0)] [] 224 (fu G H) (0, 0) := by
  unfold cRw_sure
  refine j_aload_n dX5_sure_0 rfl rfl ?_
  refine j_gic dX5_sure_1 gf_X5_77 oc_80 ?_
  refine j_if_le (tgt := 21) dX5_sure_4 rfl (fun h4 => ?_) (fun h4 => ?_)
  · refine j_aload_n dX5_sure_7 rfl rfl ?_
    refine j_aload_n dX5_sure_8 rfl rfl ?_
    refine j_grc dX5_sure_9 gf_X5_31 oc_80 (Or.inl (by decide)) rf_80_9 ?_
    refine j_iconst dX5_sure_12 r32_0 ?_
    refine j_aic dX5_sure_13 oc_86 rfl (by decide) (by decide) ?_
    refine j_iload_n dX5_sure_14 rfl rfl ?_
    refine j_cVRi dX5_sure_15 im_cRw_readerAt lk_X5_96 rfl (As := [(0, G 86 0), (0, a1)]) (S := []) rfl oc_80.1 ⟨by decide, by decide⟩ (Nat.le_of_ble_eq_true rfl) (fun r hr => cRw_readerAt_ct (G 86 0) a1 G hr) (fun v15 _ => ?_)
    refine j_goto (tgt := 22) dX5_sure_18 rfl ?_
    exact j_mask [true, true, false, false] rfl (cRw_sure_j22_J a1 G v15)
  · refine j_iconst dX5_sure_21 r32_m1 ?_
    exact j_mask [true, true, false, false] rfl (cRw_sure_j22_J a1 G (-1))

set_option maxRecDepth 100000 in
theorem cRw_sure_ct {l : Launch} {H : Hp} (a1 : Int) (G : Hp) {r : Int} (h : cRw_sure a1 G = some r) : Ct l M_cRw_sure [(2, 80), (0, a1)] 224 (fu G H) ((KRi (fu G H)) r) :=
  ct_of_J (by decide +kernel) rfl (Nat.le_of_ble_eq_true rfl) (cRw_sure_J a1 G) h
set_option maxRecDepth 100000 in
theorem cX_fits_j97_J {l : Launch} {H : Hp} (a1 : Int) (a2 : Int) (a3 : Int) (G_97 : Hp) : J l M_cX_fits (KWi (fun g => fu g H)) (cX_fits_j97 a1 a2 a3  G_97) 97 [(2, 0), (9, 0), (9, 0), (0, a3), (9, 0), (9, 0), (9, 0)] [] 224 (fu G_97 H) (0, 0) := by
  unfold cX_fits_j97
  refine j_iload_n dX10_fits_97 rfl rfl ?_
  refine j_bipush dX10_fits_98 r32_10 bp_10 ?_
  refine j_isub dX10_fits_100 ?_
  refine j_istore dX10_fits_101 (Nat.le_of_ble_eq_true rfl) rfl ?_
  refine j_iload dX10_fits_103 rfl ?_
  refine j_if_lt (tgt := 120) dX10_fits_105 rfl (fun h105 => ?_) (fun h105 => ?_)
  · refine j_bipush dX10_fits_120 r32_m2 bp_m2 ?_
    refine j_goto (tgt := 143) dX10_fits_122 rfl ?_
    exact j_ireturn dX10_fits_143 rfl rfl (Nat.zero_le _) (Nat.zero_le _)
  · refine j_iload dX10_fits_108 rfl ?_
    refine j_aload_n dX10_fits_110 rfl rfl ?_
    refine j_grc dX10_fits_111 gf_X10_55 oc_0 (Or.inl (by decide)) rf_0_7 ?_
    refine j_gic dX10_fits_114 gf_X10_417 oc_80 ?_
    refine j_icmp_lt (tgt := 125) dX10_fits_117 rfl (fun h117 => ?_) (fun h117 => ?_)
    · refine j_bipush dX10_fits_120 r32_m2 bp_m2 ?_
      refine j_goto (tgt := 143) dX10_fits_122 rfl ?_
      exact j_ireturn dX10_fits_143 rfl rfl (Nat.zero_le _) (Nat.zero_le _)
    · refine j_aload_n dX10_fits_125 rfl rfl ?_
      refine j_grc dX10_fits_126 gf_X10_55 oc_0 (Or.inl (by decide)) rf_0_7 ?_
      refine j_grc dX10_fits_129 gf_X10_427 oc_80 (Or.inl (by decide)) rf_80_6 ?_
      refine j_aload_n dX10_fits_132 rfl rfl ?_
      refine j_grc dX10_fits_133 gf_X10_55 oc_0 (Or.inl (by decide)) rf_0_7 ?_
      refine j_grc dX10_fits_136 gf_X10_430 oc_80 (Or.inl (by decide)) rf_80_9 ?_
      refine j_iload dX10_fits_139 rfl ?_
      refine j_gd (fun h141a h141b => ?_)
      refine j_aic dX10_fits_141 oc_86 rfl h141a h141b ?_
      refine j_gd (fun h142a h142b => ?_)
      refine j_aic dX10_fits_142 oc_83 rfl h142a h142b ?_
      exact j_ireturn dX10_fits_143 rfl rfl (Nat.zero_le _) (Nat.zero_le _)

set_option maxRecDepth 100000 in
theorem cX_fits_J {l : Launch} {H : Hp} (a1 : Int) (a2 : Int) (a3 : Int) (G : Hp) : J l M_cX_fits (KWi (fun g => fu g H)) (cX_fits a1 a2 a3 G) 0 [(2, 0), (0, a1), (0, a2), (0, a3), (9, 0), (9, 0), (9, 0)] [] 224 (fu G H) (0, 0) := by
  unfold cX_fits
  refine j_aload_n dX10_fits_0 rfl rfl ?_
  refine j_iload_n dX10_fits_1 rfl rfl ?_
  refine j_cVRr dX10_fits_2 im_cX_paperAt lk_X10_124 rfl (As := [(0, a1)]) (S := []) rfl oc_0.1 ⟨by decide, by decide⟩ (Nat.le_of_ble_eq_true rfl) (fun r hr => cX_paperAt_ct a1 G hr) (fun v2 hv2 => ?_)
  refine j_astore dX10_fits_5 (Nat.le_of_ble_eq_true rfl) rfl ?_
  refine j_aload_n dX10_fits_7 rfl rfl ?_
  refine j_iload_n dX10_fits_8 rfl rfl ?_
  refine j_cVRr dX10_fits_9 im_cX_logAt lk_X10_152 rfl (As := [(0, a2)]) (S := []) rfl oc_0.1 ⟨by decide, by decide⟩ (Nat.le_of_ble_eq_true rfl) (fun r hr => cX_logAt_ct a2 G hr) (fun v9 hv9 => ?_)
  refine j_astore dX10_fits_12 (Nat.le_of_ble_eq_true rfl) rfl ?_
  refine j_aload dX10_fits_14 rfl ?_
  refine j_ifnull (tgt := 24) dX10_fits_16 rfl (fun h16 => ?_) (fun h16 => ?_)
  · refine j_bipush dX10_fits_24 r32_m2 bp_m2 ?_
    exact j_ireturn dX10_fits_26 rfl rfl (Nat.zero_le _) (Nat.zero_le _)
  · refine j_aload dX10_fits_19 rfl ?_
    refine j_ifnonnull (tgt := 27) dX10_fits_21 rfl (fun h21 => ?_) (fun h21 => ?_)
    · refine j_bipush dX10_fits_24 r32_m2 bp_m2 ?_
      exact j_ireturn dX10_fits_26 rfl rfl (Nat.zero_le _) (Nat.zero_le _)
    · refine j_aload_n dX10_fits_27 rfl rfl ?_
      refine j_grc dX10_fits_28 gf_X10_55 oc_0 (Or.inl (by decide)) rf_0_7 ?_
      refine j_iload_n dX10_fits_31 rfl rfl ?_
      refine j_aload dX10_fits_32 rfl ?_
      refine j_cVWv dX10_fits_34 im_cRw_make lk_X10_401 rfl (As := [(0, a1), (2, v2)]) (S := []) rfl oc_80.1 ⟨by decide, by decide⟩ (Nat.le_of_ble_eq_true rfl) (fun r hr => cRw_make_ct a1 v2 (cX_paperAt_ok hv2 h16) G hr) (fun G34 _ => ?_)
      refine j_aload_n dX10_fits_37 rfl rfl ?_
      refine j_grc dX10_fits_38 gf_X10_55 oc_0 (Or.inl (by decide)) rf_0_7 ?_
      refine j_aload dX10_fits_41 rfl ?_
      refine j_cVWv dX10_fits_43 im_cRw_choose lk_X10_413 rfl (As := [(2, v9)]) (S := []) rfl oc_80.1 ⟨by decide, by decide⟩ (Nat.le_of_ble_eq_true rfl) (fun r hr => cRw_choose_ct v9 (cX_logAt_ok hv9 h21) G34 hr) (fun G43 _ => ?_)
      refine j_iload_n dX10_fits_46 rfl rfl ?_
      refine j_if_ne (tgt := 58) dX10_fits_47 rfl (fun h47 => ?_) (fun h47 => ?_)
      · refine j_aload_n dX10_fits_50 rfl rfl ?_
        refine j_grc dX10_fits_51 gf_X10_55 oc_0 (Or.inl (by decide)) rf_0_7 ?_
        refine j_gic dX10_fits_54 gf_X10_417 oc_80 ?_
        exact j_ireturn dX10_fits_57 rfl rfl (Nat.zero_le _) (Nat.zero_le _)
      · refine j_iload_n dX10_fits_58 rfl rfl ?_
        refine j_iconst dX10_fits_59 r32_1 ?_
        refine j_icmp_ne (tgt := 75) dX10_fits_60 rfl (fun h60 => ?_) (fun h60 => ?_)
        · refine j_aload_n dX10_fits_63 rfl rfl ?_
          refine j_grc dX10_fits_64 gf_X10_55 oc_0 (Or.inl (by decide)) rf_0_7 ?_
          refine j_aload_n dX10_fits_67 rfl rfl ?_
          refine j_grc dX10_fits_68 gf_X10_66 oc_0 (Or.inl (by decide)) rf_0_9 ?_
          refine j_cVWi dX10_fits_71 im_cRw_ask lk_X10_420 rfl (As := [(2, 91)]) (S := []) rfl oc_80.1 ⟨by decide, by decide⟩ (Nat.le_of_ble_eq_true rfl) (fun r hr => cRw_ask_ct  G43 hr) (fun r71 _ => ?_)
          exact j_ireturn dX10_fits_74 rfl rfl (Nat.zero_le _) (Nat.zero_le _)
        · refine j_iload_n dX10_fits_75 rfl rfl ?_
          refine j_iconst dX10_fits_76 r32_2 ?_
          refine j_icmp_lt (tgt := 97) dX10_fits_77 rfl (fun h77 => ?_) (fun h77 => ?_)
          · refine j_iload_n dX10_fits_80 rfl rfl ?_
            refine j_bipush dX10_fits_81 r32_8 bp_8 ?_
            refine j_icmp_ge (tgt := 97) dX10_fits_83 rfl (fun h83 => ?_) (fun h83 => ?_)
            · refine j_aload_n dX10_fits_86 rfl rfl ?_
              refine j_grc dX10_fits_87 gf_X10_55 oc_0 (Or.inl (by decide)) rf_0_7 ?_
              refine j_iload_n dX10_fits_90 rfl rfl ?_
              refine j_iconst dX10_fits_91 r32_2 ?_
              refine j_isub dX10_fits_92 ?_
              refine j_cVRi dX10_fits_93 im_cRw_sure lk_X10_424 rfl (As := [(0, w32 (a3 - 2))]) (S := []) rfl oc_80.1 ⟨by decide, by decide⟩ (Nat.le_of_ble_eq_true rfl) (fun r hr => cRw_sure_ct (w32 (a3 - 2)) G43 hr) (fun v93 _ => ?_)
              exact j_ireturn dX10_fits_96 rfl rfl (Nat.zero_le _) (Nat.zero_le _)
            · exact j_mask [true, false, false, true, false, false, false] rfl (cX_fits_j97_J a1 a2 a3 G43)
          · exact j_mask [true, false, false, true, false, false, false] rfl (cX_fits_j97_J a1 a2 a3 G43)

set_option maxRecDepth 100000 in
theorem cX_fits_ct {l : Launch} {H : Hp} (a1 : Int) (a2 : Int) (a3 : Int) (G : Hp) {r : Int × Hp} (h : cX_fits a1 a2 a3 G = some r) : Ct l M_cX_fits [(2, 0), (0, a1), (0, a2), (0, a3)] 224 (fu G H) ((KWi (fun g => fu g H)) r) :=
  ct_of_J (by decide +kernel) rfl (Nat.le_of_ble_eq_true rfl) (cX_fits_J a1 a2 a3 G) h
set_option maxRecDepth 100000 in
theorem cRw_manyAhead_L17_J {l : Launch} {H : Hp} (a1 : Int) (a2 : Int) (G : Hp) (x3_17 : Int) (x4_17 : Int) (k53 : Int → Option (Int)) (hk53 : ∀ (x6_53 : Int), J l M_cRw_manyAhead (KRi (fu G H)) (k53 x6_53) 53 [(2, 80), (0, a1), (0, a2), (0, x3_17), (0, x4_17), (9, 0), (0, x6_53)] [] 224 (fu G H) (0, 0)) (k76 : Option (Int)) (hk76 : J l M_cRw_manyAhead (KRi (fu G H)) (k76) 76 [(2, 80), (0, a1), (0, a2), (0, x3_17), (0, x4_17), (9, 0), (9, 0)] [] 224 (fu G H) (0, 0)) : ∀ (n_17 : Nat) (x5_17 : Int), J l M_cRw_manyAhead (KRi (fu G H)) (cRw_manyAhead_L17 a1 a2 G x3_17 x4_17 k53 k76 n_17 x5_17) 17 [(2, 80), (0, a1), (0, a2), (0, x3_17), (0, x4_17), (0, x5_17), (9, 0)] [] 224 (fu G H) (0, 0) := by
  intro n_17
  induction n_17 with
  | zero =>
    intro x5_17
    exact j_none
  | succ n_17 ih =>
    intro x5_17
    rw [cRw_manyAhead_L17]
    refine j_iload dX5_manyAhead_17 rfl ?_
    refine j_aload_n dX5_manyAhead_19 rfl rfl ?_
    refine j_gic dX5_manyAhead_20 gf_X5_48 oc_80 ?_
    refine j_icmp_ge (tgt := 76) dX5_manyAhead_23 rfl (fun h23 => ?_) (fun h23 => ?_)
    · refine j_aload_n dX5_manyAhead_26 rfl rfl ?_
      refine j_aload_n dX5_manyAhead_27 rfl rfl ?_
      refine j_grc dX5_manyAhead_28 gf_X5_31 oc_80 (Or.inl (by decide)) rf_80_9 ?_
      refine j_iload dX5_manyAhead_31 rfl ?_
      refine j_gd (fun h33a h33b => ?_)
      refine j_aic dX5_manyAhead_33 oc_86 rfl h33a h33b ?_
      refine j_iload dX5_manyAhead_34 rfl ?_
      refine j_cVRi dX5_manyAhead_36 im_cRw_readerAt lk_X5_96 rfl (As := [(0, G 86 x4_17), (0, x5_17)]) (S := []) rfl oc_80.1 ⟨by decide, by decide⟩ (Nat.le_of_ble_eq_true rfl) (fun r hr => cRw_readerAt_ct (G 86 x4_17) x5_17 G hr) (fun v36 _ => ?_)
      refine j_istore dX5_manyAhead_39 (Nat.le_of_ble_eq_true rfl) rfl ?_
      refine j_iload dX5_manyAhead_41 rfl ?_
      refine j_iload_n dX5_manyAhead_43 rfl rfl ?_
      refine j_icmp_eq (tgt := 53) dX5_manyAhead_44 rfl (fun h44 => ?_) (fun h44 => ?_)
      · exact j_mask [true, true, true, true, true, false, true] rfl (hk53 v36)
      · refine j_iload dX5_manyAhead_47 rfl ?_
        refine j_iload_n dX5_manyAhead_49 rfl rfl ?_
        refine j_icmp_ne (tgt := 70) dX5_manyAhead_50 rfl (fun h50 => ?_) (fun h50 => ?_)
        · exact j_mask [true, true, true, true, true, false, true] rfl (hk53 v36)
        · refine j_iinc dX5_manyAhead_70 rfl (Nat.le_of_ble_eq_true rfl) rfl ?_
          refine j_goto (tgt := 17) dX5_manyAhead_73 rfl ?_
          exact j_mask [true, true, true, true, true, true, false] rfl (ih (w32 (x5_17 + 1)))
    · exact j_mask [true, true, true, true, true, false, false] rfl (hk76)

set_option maxRecDepth 100000 in
theorem cRw_manyAhead_L5_J {l : Launch} {H : Hp} (a1 : Int) (a2 : Int) (G : Hp) : ∀ (n_5 : Nat) (x3_5 : Int) (x4_5 : Int), J l M_cRw_manyAhead (KRi (fu G H)) (cRw_manyAhead_L5 a1 a2 G  n_5 x3_5 x4_5) 5 [(2, 80), (0, a1), (0, a2), (0, x3_5), (0, x4_5), (9, 0), (9, 0)] [] 224 (fu G H) (0, 0) := by
  intro n_5
  induction n_5 with
  | zero =>
    intro x3_5 x4_5
    exact j_none
  | succ n_5 ih =>
    intro x3_5 x4_5
    rw [cRw_manyAhead_L5]
    refine j_iload dX5_manyAhead_5 rfl ?_
    refine j_aload_n dX5_manyAhead_7 rfl rfl ?_
    refine j_gic dX5_manyAhead_8 gf_X5_77 oc_80 ?_
    refine j_icmp_ge (tgt := 82) dX5_manyAhead_11 rfl (fun h11 => ?_) (fun h11 => ?_)
    · refine j_iconst dX5_manyAhead_14 r32_0 ?_
      refine j_istore dX5_manyAhead_15 (Nat.le_of_ble_eq_true rfl) rfl ?_
      refine j_mask [true, true, true, true, true, true, false] rfl (cRw_manyAhead_L17_J a1 a2 G x3_5 x4_5 (fun x6_53 => if x6_53 = a1 then cRw_manyAhead_L5 a1 a2 G n_5 (w32 (x3_5 + 1)) (w32 (x4_5 + 1)) else cRw_manyAhead_L5 a1 a2 G n_5 (w32 (x3_5 + 0)) (w32 (x4_5 + 1))) (fun x6_53 => ?_) (cRw_manyAhead_L5 a1 a2 G n_5 x3_5 (w32 (x4_5 + 1))) ?_ FU 0)
      · refine j_iload_n dX5_manyAhead_53 rfl rfl ?_
        refine j_iload dX5_manyAhead_54 rfl ?_
        refine j_iload_n dX5_manyAhead_56 rfl rfl ?_
        refine j_icmp_ne (tgt := 64) dX5_manyAhead_57 rfl (fun h57 => ?_) (fun h57 => ?_)
        · refine j_iconst dX5_manyAhead_60 r32_1 ?_
          refine j_goto (tgt := 65) dX5_manyAhead_61 rfl ?_
          refine j_iadd dX5_manyAhead_65 ?_
          refine j_istore_n dX5_manyAhead_66 rfl (Nat.le_of_ble_eq_true rfl) rfl ?_
          refine j_goto (tgt := 76) dX5_manyAhead_67 rfl ?_
          refine j_iinc dX5_manyAhead_76 rfl (Nat.le_of_ble_eq_true rfl) rfl ?_
          refine j_goto (tgt := 5) dX5_manyAhead_79 rfl ?_
          exact j_mask [true, true, true, true, true, false, false] rfl (ih (w32 (x3_5 + 1)) (w32 (x4_5 + 1)))
        · refine j_iconst dX5_manyAhead_64 r32_0 ?_
          refine j_iadd dX5_manyAhead_65 ?_
          refine j_istore_n dX5_manyAhead_66 rfl (Nat.le_of_ble_eq_true rfl) rfl ?_
          refine j_goto (tgt := 76) dX5_manyAhead_67 rfl ?_
          refine j_iinc dX5_manyAhead_76 rfl (Nat.le_of_ble_eq_true rfl) rfl ?_
          refine j_goto (tgt := 5) dX5_manyAhead_79 rfl ?_
          exact j_mask [true, true, true, true, true, false, false] rfl (ih (w32 (x3_5 + 0)) (w32 (x4_5 + 1)))
      · refine j_iinc dX5_manyAhead_76 rfl (Nat.le_of_ble_eq_true rfl) rfl ?_
        refine j_goto (tgt := 5) dX5_manyAhead_79 rfl ?_
        exact j_mask [true, true, true, true, true, false, false] rfl (ih x3_5 (w32 (x4_5 + 1)))
    · refine j_iload_n dX5_manyAhead_82 rfl rfl ?_
      exact j_ireturn dX5_manyAhead_83 rfl rfl (Nat.zero_le _) (Nat.zero_le _)

set_option maxRecDepth 100000 in
theorem cRw_manyAhead_J {l : Launch} {H : Hp} (a1 : Int) (a2 : Int) (G : Hp) : J l M_cRw_manyAhead (KRi (fu G H)) (cRw_manyAhead a1 a2 G) 0 [(2, 80), (0, a1), (0, a2), (9, 0), (9, 0), (9, 0), (9, 0)] [] 224 (fu G H) (0, 0) := by
  unfold cRw_manyAhead
  refine j_iconst dX5_manyAhead_0 r32_0 ?_
  refine j_istore_n dX5_manyAhead_1 rfl (Nat.le_of_ble_eq_true rfl) rfl ?_
  refine j_iconst dX5_manyAhead_2 r32_0 ?_
  refine j_istore dX5_manyAhead_3 (Nat.le_of_ble_eq_true rfl) rfl ?_
  exact j_mask [true, true, true, true, true, false, false] rfl (cRw_manyAhead_L5_J a1 a2 G FU 0 0)

set_option maxRecDepth 100000 in
theorem cRw_manyAhead_ct {l : Launch} {H : Hp} (a1 : Int) (a2 : Int) (G : Hp) {r : Int} (h : cRw_manyAhead a1 a2 G = some r) : Ct l M_cRw_manyAhead [(2, 80), (0, a1), (0, a2)] 224 (fu G H) ((KRi (fu G H)) r) :=
  ct_of_J (by decide +kernel) rfl (Nat.le_of_ble_eq_true rfl) (cRw_manyAhead_J a1 a2 G) h
set_option maxRecDepth 100000 in
theorem cX_inLeast_L9_J {l : Launch} {H : Hp} (a0 : Int) (a2 : Int) (a4 : Int) (G : Hp) (k44 : Int → Option (Int)) (hk44 : ∀ (x5_44 : Int), J l M_cX_inLeast (KRl (fu G H)) (k44 x5_44) 44 [(1, a0), (9, 0), (1, a2), (9, 0), (0, a4), (1, x5_44), (9, 0), (9, 0), (9, 0), (9, 0), (9, 0), (9, 0)] [] 224 (fu G H) (0, 0)) : ∀ (n_9 : Nat) (x5_9 : Int) (x7_9 : Int) (x9_9 : Int), J l M_cX_inLeast (KRl (fu G H)) (cX_inLeast_L9 a0 a2 a4 G k44 n_9 x5_9 x7_9 x9_9) 9 [(1, a0), (9, 0), (1, a2), (9, 0), (0, a4), (1, x5_9), (9, 0), (1, x7_9), (9, 0), (0, x9_9), (9, 0), (9, 0)] [] 224 (fu G H) (0, 0) := by
  intro n_9
  induction n_9 with
  | zero =>
    intro x5_9 x7_9 x9_9
    exact j_none
  | succ n_9 ih =>
    intro x5_9 x7_9 x9_9
    rw [cX_inLeast_L9]
    refine j_iload dX10_inLeast_9 rfl ?_
    refine j_bipush dX10_inLeast_11 r32_100 bp_100 ?_
    refine j_icmp_ge (tgt := 44) dX10_inLeast_13 rfl (fun h13 => ?_) (fun h13 => ?_)
    · refine j_lload dX10_inLeast_16 rfl ?_
      refine j_lconst (z := 0) dX10_inLeast_18 (by unfold r64; omega) (by decide +kernel) ?_
      refine j_lcmp dX10_inLeast_19 ?_
      refine j_if_eq (tgt := 44) dX10_inLeast_20 rfl (fun h20 => ?_) (fun h20 => ?_)
      · exact j_mask [true, false, true, false, true, true, false, false, false, false, false, false] rfl (hk44 x5_9)
      · refine j_lload dX10_inLeast_23 rfl ?_
        refine j_lload dX10_inLeast_25 rfl ?_
        refine j_nz (fun hz27 => ?_)
        refine j_lrem dX10_inLeast_27 hz27 ?_
        refine j_lstore dX10_inLeast_28 (Nat.le_of_ble_eq_true rfl) rfl ?_
        refine j_lload dX10_inLeast_30 rfl ?_
        refine j_lstore dX10_inLeast_32 (Nat.le_of_ble_eq_true rfl) rfl ?_
        refine j_lload dX10_inLeast_34 rfl ?_
        refine j_lstore dX10_inLeast_36 (Nat.le_of_ble_eq_true rfl) rfl ?_
        refine j_iinc dX10_inLeast_38 rfl (Nat.le_of_ble_eq_true rfl) rfl ?_
        refine j_goto (tgt := 9) dX10_inLeast_41 rfl ?_
        exact j_mask [true, false, true, false, true, true, false, true, false, true, false, false] rfl (ih x7_9 (lrem x5_9 x7_9) (w32 (x9_9 + 1)))
    · exact j_mask [true, false, true, false, true, true, false, false, false, false, false, false] rfl (hk44 x5_9)

set_option maxRecDepth 100000 in
theorem cX_inLeast_j54_J {l : Launch} {H : Hp} (a0 : Int) (a2 : Int) (a4 : Int) (G : Hp) (x5_54 : Int) (s0_54 : Int) : J l M_cX_inLeast (KRl (fu G H)) (cX_inLeast_j54 a0 a2 a4 G  x5_54 s0_54) 54 [(9, 0), (9, 0), (9, 0), (9, 0), (9, 0), (1, x5_54), (9, 0), (9, 0), (9, 0), (9, 0), (9, 0), (9, 0)] [(1, s0_54)] 224 (fu G H) (0, 0) := by
  unfold cX_inLeast_j54
  refine j_lstore dX10_inLeast_54 (Nat.le_of_ble_eq_true rfl) rfl ?_
  refine j_lload dX10_inLeast_56 rfl ?_
  refine j_lconst (z := 0) dX10_inLeast_58 (by unfold r64; omega) (by decide +kernel) ?_
  refine j_lcmp dX10_inLeast_59 ?_
  refine j_if_le (tgt := 71) dX10_inLeast_60 rfl (fun h60 => ?_) (fun h60 => ?_)
  · refine j_lload dX10_inLeast_63 rfl ?_
    refine j_lload dX10_inLeast_65 rfl ?_
    refine j_nz (fun hz67 => ?_)
    refine j_ldiv dX10_inLeast_67 hz67 ?_
    refine j_goto (tgt := 73) dX10_inLeast_68 rfl ?_
    exact j_lreturn dX10_inLeast_73 rfl rfl (Nat.zero_le _) (Nat.zero_le _)
  · refine j_lload dX10_inLeast_71 rfl ?_
    exact j_lreturn dX10_inLeast_73 rfl rfl (Nat.zero_le _) (Nat.zero_le _)

set_option maxRecDepth 100000 in
theorem cX_inLeast_J {l : Launch} {H : Hp} (a0 : Int) (a2 : Int) (a4 : Int) (G : Hp) : J l M_cX_inLeast (KRl (fu G H)) (cX_inLeast a0 a2 a4 G) 0 [(1, a0), (9, 0), (1, a2), (9, 0), (0, a4), (9, 0), (9, 0), (9, 0), (9, 0), (9, 0), (9, 0), (9, 0)] [] 224 (fu G H) (0, 0) := by
  unfold cX_inLeast
  refine j_lload_n dX10_inLeast_0 rfl rfl ?_
  refine j_lstore dX10_inLeast_1 (Nat.le_of_ble_eq_true rfl) rfl ?_
  refine j_lload_n dX10_inLeast_3 rfl rfl ?_
  refine j_lstore dX10_inLeast_4 (Nat.le_of_ble_eq_true rfl) rfl ?_
  refine j_iconst dX10_inLeast_6 r32_0 ?_
  refine j_istore dX10_inLeast_7 (Nat.le_of_ble_eq_true rfl) rfl ?_
  refine j_mask [true, false, true, false, true, true, false, true, false, true, false, false] rfl (cX_inLeast_L9_J a0 a2 a4 G (fun x5_44 => if a4 = 0 then cX_inLeast_j54 a0 a2 a4 G x5_44 a0 else cX_inLeast_j54 a0 a2 a4 G x5_44 a2) (fun x5_44 => ?_) FU a2 a0 0)
  refine j_iload dX10_inLeast_44 rfl ?_
  refine j_if_eq (tgt := 53) dX10_inLeast_46 rfl (fun h46 => ?_) (fun h46 => ?_)
  · refine j_lload_n dX10_inLeast_53 rfl rfl ?_
    exact j_mask [false, false, false, false, false, true, false, false, false, false, false, false] rfl (cX_inLeast_j54_J a0 a2 a4 G x5_44 a0)
  · refine j_lload_n dX10_inLeast_49 rfl rfl ?_
    refine j_goto (tgt := 54) dX10_inLeast_50 rfl ?_
    exact j_mask [false, false, false, false, false, true, false, false, false, false, false, false] rfl (cX_inLeast_j54_J a0 a2 a4 G x5_44 a2)

set_option maxRecDepth 100000 in
theorem cX_inLeast_ct {l : Launch} {H : Hp} (a0 : Int) (a2 : Int) (a4 : Int) (G : Hp) {r : Int} (h : cX_inLeast a0 a2 a4 G = some r) : Ct l M_cX_inLeast [(1, a0), (1, a2), (0, a4)] 224 (fu G H) ((KRl (fu G H)) r) :=
  ct_of_J (by decide +kernel) rfl (Nat.le_of_ble_eq_true rfl) (cX_inLeast_J a0 a2 a4 G) h
set_option maxRecDepth 100000 in
theorem cX_ahead_J {l : Launch} {H : Hp} (a1 : Int) (a2 : Int) (a3 : Int) (a4 : Int) (a5 : Int) (G : Hp) : J l M_cX_ahead (KWi (fun g => fu g H)) (cX_ahead a1 a2 a3 a4 a5 G) 0 [(2, 0), (0, a1), (0, a2), (0, a3), (0, a4), (0, a5), (9, 0), (9, 0)] [] 224 (fu G H) (0, 0) := by
  unfold cX_ahead
  refine j_aload_n dX10_ahead_0 rfl rfl ?_
  refine j_iload_n dX10_ahead_1 rfl rfl ?_
  refine j_cVRr dX10_ahead_2 im_cX_paperAt lk_X10_124 rfl (As := [(0, a1)]) (S := []) rfl oc_0.1 ⟨by decide, by decide⟩ (Nat.le_of_ble_eq_true rfl) (fun r hr => cX_paperAt_ct a1 G hr) (fun v2 hv2 => ?_)
  refine j_astore dX10_ahead_5 (Nat.le_of_ble_eq_true rfl) rfl ?_
  refine j_aload_n dX10_ahead_7 rfl rfl ?_
  refine j_iload_n dX10_ahead_8 rfl rfl ?_
  refine j_cVRr dX10_ahead_9 im_cX_logAt lk_X10_152 rfl (As := [(0, a2)]) (S := []) rfl oc_0.1 ⟨by decide, by decide⟩ (Nat.le_of_ble_eq_true rfl) (fun r hr => cX_logAt_ct a2 G hr) (fun v9 hv9 => ?_)
  refine j_astore dX10_ahead_12 (Nat.le_of_ble_eq_true rfl) rfl ?_
  refine j_aload dX10_ahead_14 rfl ?_
  refine j_ifnull (tgt := 58) dX10_ahead_16 rfl (fun h16 => ?_) (fun h16 => ?_)
  · refine j_iconst dX10_ahead_58 r32_m1 ?_
    exact j_ireturn dX10_ahead_59 rfl rfl (Nat.zero_le _) (Nat.zero_le _)
  · refine j_aload dX10_ahead_19 rfl ?_
    refine j_ifnull (tgt := 58) dX10_ahead_21 rfl (fun h21 => ?_) (fun h21 => ?_)
    · refine j_iconst dX10_ahead_58 r32_m1 ?_
      exact j_ireturn dX10_ahead_59 rfl rfl (Nat.zero_le _) (Nat.zero_le _)
    · refine j_iload_n dX10_ahead_24 rfl rfl ?_
      refine j_iload dX10_ahead_25 rfl ?_
      refine j_icmp_eq (tgt := 58) dX10_ahead_27 rfl (fun h27 => ?_) (fun h27 => ?_)
      · refine j_iconst dX10_ahead_58 r32_m1 ?_
        exact j_ireturn dX10_ahead_59 rfl rfl (Nat.zero_le _) (Nat.zero_le _)
      · refine j_iload_n dX10_ahead_30 rfl rfl ?_
        refine j_if_lt (tgt := 58) dX10_ahead_31 rfl (fun h31 => ?_) (fun h31 => ?_)
        · refine j_iconst dX10_ahead_58 r32_m1 ?_
          exact j_ireturn dX10_ahead_59 rfl rfl (Nat.zero_le _) (Nat.zero_le _)
        · refine j_iload dX10_ahead_34 rfl ?_
          refine j_if_lt (tgt := 58) dX10_ahead_36 rfl (fun h36 => ?_) (fun h36 => ?_)
          · refine j_iconst dX10_ahead_58 r32_m1 ?_
            exact j_ireturn dX10_ahead_59 rfl rfl (Nat.zero_le _) (Nat.zero_le _)
          · refine j_iload_n dX10_ahead_39 rfl rfl ?_
            refine j_aload dX10_ahead_40 rfl ?_
            refine j_gic dX10_ahead_42 gf_X10_245 (oc_paper (cX_paperAt_ok hv2 h16)) ?_
            refine j_icmp_ge (tgt := 58) dX10_ahead_45 rfl (fun h45 => ?_) (fun h45 => ?_)
            · refine j_iload dX10_ahead_48 rfl ?_
              refine j_aload dX10_ahead_50 rfl ?_
              refine j_gic dX10_ahead_52 gf_X10_245 (oc_paper (cX_paperAt_ok hv2 h16)) ?_
              refine j_icmp_lt (tgt := 60) dX10_ahead_55 rfl (fun h55 => ?_) (fun h55 => ?_)
              · refine j_iconst dX10_ahead_58 r32_m1 ?_
                exact j_ireturn dX10_ahead_59 rfl rfl (Nat.zero_le _) (Nat.zero_le _)
              · refine j_aload_n dX10_ahead_60 rfl rfl ?_
                refine j_grc dX10_ahead_61 gf_X10_55 oc_0 (Or.inl (by decide)) rf_0_7 ?_
                refine j_iload_n dX10_ahead_64 rfl rfl ?_
                refine j_aload dX10_ahead_65 rfl ?_
                refine j_cVWv dX10_ahead_67 im_cRw_make lk_X10_401 rfl (As := [(0, a1), (2, v2)]) (S := []) rfl oc_80.1 ⟨by decide, by decide⟩ (Nat.le_of_ble_eq_true rfl) (fun r hr => cRw_make_ct a1 v2 (cX_paperAt_ok hv2 h16) G hr) (fun G67 _ => ?_)
                refine j_aload_n dX10_ahead_70 rfl rfl ?_
                refine j_grc dX10_ahead_71 gf_X10_55 oc_0 (Or.inl (by decide)) rf_0_7 ?_
                refine j_aload dX10_ahead_74 rfl ?_
                refine j_cVWv dX10_ahead_76 im_cRw_choose lk_X10_413 rfl (As := [(2, v9)]) (S := []) rfl oc_80.1 ⟨by decide, by decide⟩ (Nat.le_of_ble_eq_true rfl) (fun r hr => cRw_choose_ct v9 (cX_logAt_ok hv9 h21) G67 hr) (fun G76 _ => ?_)
                refine j_aload_n dX10_ahead_79 rfl rfl ?_
                refine j_grc dX10_ahead_80 gf_X10_55 oc_0 (Or.inl (by decide)) rf_0_7 ?_
                refine j_gic dX10_ahead_83 gf_X10_417 oc_80 ?_
                refine j_if_ne (tgt := 91) dX10_ahead_86 rfl (fun h86 => ?_) (fun h86 => ?_)
                · refine j_iconst dX10_ahead_89 r32_m1 ?_
                  exact j_ireturn dX10_ahead_90 rfl rfl (Nat.zero_le _) (Nat.zero_le _)
                · refine j_aload_n dX10_ahead_91 rfl rfl ?_
                  refine j_grc dX10_ahead_92 gf_X10_55 oc_0 (Or.inl (by decide)) rf_0_7 ?_
                  refine j_iload_n dX10_ahead_95 rfl rfl ?_
                  refine j_iload dX10_ahead_96 rfl ?_
                  refine j_cVRi dX10_ahead_98 im_cRw_manyAhead lk_X10_433 rfl (As := [(0, a3), (0, a4)]) (S := []) rfl oc_80.1 ⟨by decide, by decide⟩ (Nat.le_of_ble_eq_true rfl) (fun r hr => cRw_manyAhead_ct a3 a4 G76 hr) (fun v98 _ => ?_)
                  refine j_i2l dX10_ahead_101 ?_
                  refine j_aload_n dX10_ahead_102 rfl rfl ?_
                  refine j_grc dX10_ahead_103 gf_X10_55 oc_0 (Or.inl (by decide)) rf_0_7 ?_
                  refine j_gic dX10_ahead_106 gf_X10_417 oc_80 ?_
                  refine j_i2l dX10_ahead_109 ?_
                  refine j_iload dX10_ahead_110 rfl ?_
                  refine j_cSRl dX10_ahead_112 sm_cX_inLeast lk_X10_436 rfl (As := [(1, v98), (1, G76 80 10), (0, a5)]) (S := []) rfl ⟨by decide, by decide⟩ (Nat.le_of_ble_eq_true rfl) (fun r hr => cX_inLeast_ct v98 (G76 80 10) a5 G76 hr) (fun v112 _ => ?_)
                  refine j_l2i dX10_ahead_115 ?_
                  exact j_ireturn dX10_ahead_116 rfl rfl (Nat.zero_le _) (Nat.zero_le _)
            · refine j_iconst dX10_ahead_58 r32_m1 ?_
              exact j_ireturn dX10_ahead_59 rfl rfl (Nat.zero_le _) (Nat.zero_le _)

set_option maxRecDepth 100000 in
theorem cX_ahead_ct {l : Launch} {H : Hp} (a1 : Int) (a2 : Int) (a3 : Int) (a4 : Int) (a5 : Int) (G : Hp) {r : Int × Hp} (h : cX_ahead a1 a2 a3 a4 a5 G = some r) : Ct l M_cX_ahead [(2, 0), (0, a1), (0, a2), (0, a3), (0, a4), (0, a5)] 224 (fu G H) ((KWi (fun g => fu g H)) r) :=
  ct_of_J (by decide +kernel) rfl (Nat.le_of_ble_eq_true rfl) (cX_ahead_J a1 a2 a3 a4 a5 G) h
set_option maxRecDepth 100000 in
theorem cRw_readersAt_L4_J {l : Launch} {H : Hp} (a1 : Int) (G : Hp) : ∀ (n_4 : Nat) (x2_4 : Int) (x3_4 : Int), J l M_cRw_readersAt (KRi (fu G H)) (cRw_readersAt_L4 a1 G  n_4 x2_4 x3_4) 4 [(2, 80), (0, a1), (0, x2_4), (0, x3_4), (9, 0)] [] 224 (fu G H) (0, 0) := by
  intro n_4
  induction n_4 with
  | zero =>
    intro x2_4 x3_4
    exact j_none
  | succ n_4 ih =>
    intro x2_4 x3_4
    rw [cRw_readersAt_L4]
    refine j_iload_n dX5_readersAt_4 rfl rfl ?_
    refine j_aload_n dX5_readersAt_5 rfl rfl ?_
    refine j_gic dX5_readersAt_6 gf_X5_77 oc_80 ?_
    refine j_icmp_ge (tgt := 48) dX5_readersAt_9 rfl (fun h9 => ?_) (fun h9 => ?_)
    · refine j_aload_n dX5_readersAt_12 rfl rfl ?_
      refine j_aload_n dX5_readersAt_13 rfl rfl ?_
      refine j_grc dX5_readersAt_14 gf_X5_31 oc_80 (Or.inl (by decide)) rf_80_9 ?_
      refine j_iload_n dX5_readersAt_17 rfl rfl ?_
      refine j_gd (fun h18a h18b => ?_)
      refine j_aic dX5_readersAt_18 oc_86 rfl h18a h18b ?_
      refine j_iload_n dX5_readersAt_19 rfl rfl ?_
      refine j_cVRi dX5_readersAt_20 im_cRw_readerAt lk_X5_96 rfl (As := [(0, G 86 x3_4), (0, a1)]) (S := []) rfl oc_80.1 ⟨by decide, by decide⟩ (Nat.le_of_ble_eq_true rfl) (fun r hr => cRw_readerAt_ct (G 86 x3_4) a1 G hr) (fun v20 _ => ?_)
      refine j_istore dX5_readersAt_23 (Nat.le_of_ble_eq_true rfl) rfl ?_
      refine j_iload_n dX5_readersAt_25 rfl rfl ?_
      refine j_iload dX5_readersAt_26 rfl ?_
      refine j_iconst dX5_readersAt_28 r32_m1 ?_
      refine j_icmp_ne (tgt := 36) dX5_readersAt_29 rfl (fun h29 => ?_) (fun h29 => ?_)
      · refine j_iconst dX5_readersAt_32 r32_0 ?_
        refine j_goto (tgt := 40) dX5_readersAt_33 rfl ?_
        refine j_ior dX5_readersAt_40 ?_
        refine j_istore_n dX5_readersAt_41 rfl (Nat.le_of_ble_eq_true rfl) rfl ?_
        refine j_iinc dX5_readersAt_42 rfl (Nat.le_of_ble_eq_true rfl) rfl ?_
        refine j_goto (tgt := 4) dX5_readersAt_45 rfl ?_
        exact j_mask [true, true, true, true, false] rfl (ih (ior x2_4 0) (w32 (x3_4 + 1)))
      · refine j_iconst dX5_readersAt_36 r32_1 ?_
        refine j_iload dX5_readersAt_37 rfl ?_
        refine j_ishl dX5_readersAt_39 ?_
        refine j_ior dX5_readersAt_40 ?_
        refine j_istore_n dX5_readersAt_41 rfl (Nat.le_of_ble_eq_true rfl) rfl ?_
        refine j_iinc dX5_readersAt_42 rfl (Nat.le_of_ble_eq_true rfl) rfl ?_
        refine j_goto (tgt := 4) dX5_readersAt_45 rfl ?_
        exact j_mask [true, true, true, true, false] rfl (ih (ior x2_4 (ishl 1 v20)) (w32 (x3_4 + 1)))
    · refine j_iload_n dX5_readersAt_48 rfl rfl ?_
      exact j_ireturn dX5_readersAt_49 rfl rfl (Nat.zero_le _) (Nat.zero_le _)

set_option maxRecDepth 100000 in
theorem cRw_readersAt_J {l : Launch} {H : Hp} (a1 : Int) (G : Hp) : J l M_cRw_readersAt (KRi (fu G H)) (cRw_readersAt a1 G) 0 [(2, 80), (0, a1), (9, 0), (9, 0), (9, 0)] [] 224 (fu G H) (0, 0) := by
  unfold cRw_readersAt
  refine j_iconst dX5_readersAt_0 r32_0 ?_
  refine j_istore_n dX5_readersAt_1 rfl (Nat.le_of_ble_eq_true rfl) rfl ?_
  refine j_iconst dX5_readersAt_2 r32_0 ?_
  refine j_istore_n dX5_readersAt_3 rfl (Nat.le_of_ble_eq_true rfl) rfl ?_
  exact j_mask [true, true, true, true, false] rfl (cRw_readersAt_L4_J a1 G FU 0 0)

set_option maxRecDepth 100000 in
theorem cRw_readersAt_ct {l : Launch} {H : Hp} (a1 : Int) (G : Hp) {r : Int} (h : cRw_readersAt a1 G = some r) : Ct l M_cRw_readersAt [(2, 80), (0, a1)] 224 (fu G H) ((KRi (fu G H)) r) :=
  ct_of_J (by decide +kernel) rfl (Nat.le_of_ble_eq_true rfl) (cRw_readersAt_J a1 G) h
set_option maxRecDepth 100000 in
theorem cRw_mostFitting_L4_J {l : Launch} {H : Hp} (G : Hp) : ∀ (n_4 : Nat) (x1_4 : Int) (x2_4 : Int), J l M_cRw_mostFitting (KRi (fu G H)) (cRw_mostFitting_L4 G  n_4 x1_4 x2_4) 4 [(2, 80), (0, x1_4), (0, x2_4)] [] 224 (fu G H) (0, 0) := by
  intro n_4
  induction n_4 with
  | zero =>
    intro x1_4 x2_4
    exact j_none
  | succ n_4 ih =>
    intro x1_4 x2_4
    rw [cRw_mostFitting_L4]
    refine j_iload_n dX5_mostFitting_4 rfl rfl ?_
    refine j_aload_n dX5_mostFitting_5 rfl rfl ?_
    refine j_gic dX5_mostFitting_6 gf_X5_77 oc_80 ?_
    refine j_icmp_ge (tgt := 34) dX5_mostFitting_9 rfl (fun h9 => ?_) (fun h9 => ?_)
    · refine j_iload_n dX5_mostFitting_12 rfl rfl ?_
      refine j_aload_n dX5_mostFitting_13 rfl rfl ?_
      refine j_grc dX5_mostFitting_14 gf_X5_28 oc_80 (Or.inl (by decide)) rf_80_8 ?_
      refine j_aload_n dX5_mostFitting_17 rfl rfl ?_
      refine j_grc dX5_mostFitting_18 gf_X5_31 oc_80 (Or.inl (by decide)) rf_80_9 ?_
      refine j_iload_n dX5_mostFitting_21 rfl rfl ?_
      refine j_gd (fun h22a h22b => ?_)
      refine j_aic dX5_mostFitting_22 oc_86 rfl h22a h22b ?_
      refine j_gd (fun h23a h23b => ?_)
      refine j_aic dX5_mostFitting_23 oc_85 rfl h23a h23b ?_
      refine j_max dX5_mostFitting_24 mm_X5_93 st_max in_Math co_max (Nat.le_of_ble_eq_true rfl) (Nat.le_of_ble_eq_true rfl) (Nat.zero_le _) (Nat.zero_le _) ?_
      refine j_istore_n dX5_mostFitting_27 rfl (Nat.le_of_ble_eq_true rfl) rfl ?_
      refine j_iinc dX5_mostFitting_28 rfl (Nat.le_of_ble_eq_true rfl) rfl ?_
      refine j_goto (tgt := 4) dX5_mostFitting_31 rfl ?_
      exact j_mask [true, true, true] rfl (ih (max x1_4 (G 85 (G 86 x2_4))) (w32 (x2_4 + 1)))
    · refine j_iload_n dX5_mostFitting_34 rfl rfl ?_
      exact j_ireturn dX5_mostFitting_35 rfl rfl (Nat.zero_le _) (Nat.zero_le _)

set_option maxRecDepth 100000 in
theorem cRw_mostFitting_J {l : Launch} {H : Hp} (G : Hp) : J l M_cRw_mostFitting (KRi (fu G H)) (cRw_mostFitting  G) 0 [(2, 80), (9, 0), (9, 0)] [] 224 (fu G H) (0, 0) := by
  unfold cRw_mostFitting
  refine j_iconst dX5_mostFitting_0 r32_m1 ?_
  refine j_istore_n dX5_mostFitting_1 rfl (Nat.le_of_ble_eq_true rfl) rfl ?_
  refine j_iconst dX5_mostFitting_2 r32_0 ?_
  refine j_istore_n dX5_mostFitting_3 rfl (Nat.le_of_ble_eq_true rfl) rfl ?_
  exact j_mask [true, true, true] rfl (cRw_mostFitting_L4_J G FU (-1) 0)

set_option maxRecDepth 100000 in
theorem cRw_mostFitting_ct {l : Launch} {H : Hp} (G : Hp) {r : Int} (h : cRw_mostFitting  G = some r) : Ct l M_cRw_mostFitting [(2, 80)] 224 (fu G H) ((KRi (fu G H)) r) :=
  ct_of_J (by decide +kernel) rfl (Nat.le_of_ble_eq_true rfl) (cRw_mostFitting_J  G) h
set_option maxRecDepth 100000 in
theorem cRw_leastFitting_L4_J {l : Launch} {H : Hp} (G : Hp) : ∀ (n_4 : Nat) (x1_4 : Int) (x2_4 : Int), J l M_cRw_leastFitting (KRi (fu G H)) (cRw_leastFitting_L4 G  n_4 x1_4 x2_4) 4 [(2, 80), (0, x1_4), (0, x2_4), (9, 0)] [] 224 (fu G H) (0, 0) := by
  intro n_4
  induction n_4 with
  | zero =>
    intro x1_4 x2_4
    exact j_none
  | succ n_4 ih =>
    intro x1_4 x2_4
    rw [cRw_leastFitting_L4]
    refine j_iload_n dX5_leastFitting_4 rfl rfl ?_
    refine j_aload_n dX5_leastFitting_5 rfl rfl ?_
    refine j_gic dX5_leastFitting_6 gf_X5_77 oc_80 ?_
    refine j_icmp_ge (tgt := 45) dX5_leastFitting_9 rfl (fun h9 => ?_) (fun h9 => ?_)
    · refine j_aload_n dX5_leastFitting_12 rfl rfl ?_
      refine j_grc dX5_leastFitting_13 gf_X5_28 oc_80 (Or.inl (by decide)) rf_80_8 ?_
      refine j_aload_n dX5_leastFitting_16 rfl rfl ?_
      refine j_grc dX5_leastFitting_17 gf_X5_31 oc_80 (Or.inl (by decide)) rf_80_9 ?_
      refine j_iload_n dX5_leastFitting_20 rfl rfl ?_
      refine j_gd (fun h21a h21b => ?_)
      refine j_aic dX5_leastFitting_21 oc_86 rfl h21a h21b ?_
      refine j_gd (fun h22a h22b => ?_)
      refine j_aic dX5_leastFitting_22 oc_85 rfl h22a h22b ?_
      refine j_istore_n dX5_leastFitting_23 rfl (Nat.le_of_ble_eq_true rfl) rfl ?_
      refine j_iload_n dX5_leastFitting_24 rfl rfl ?_
      refine j_iconst dX5_leastFitting_25 r32_m1 ?_
      refine j_icmp_ne (tgt := 33) dX5_leastFitting_26 rfl (fun h26 => ?_) (fun h26 => ?_)
      · refine j_iload_n dX5_leastFitting_29 rfl rfl ?_
        refine j_goto (tgt := 38) dX5_leastFitting_30 rfl ?_
        refine j_istore_n dX5_leastFitting_38 rfl (Nat.le_of_ble_eq_true rfl) rfl ?_
        refine j_iinc dX5_leastFitting_39 rfl (Nat.le_of_ble_eq_true rfl) rfl ?_
        refine j_goto (tgt := 4) dX5_leastFitting_42 rfl ?_
        exact j_mask [true, true, true, false] rfl (ih (G 85 (G 86 x2_4)) (w32 (x2_4 + 1)))
      · refine j_iload_n dX5_leastFitting_33 rfl rfl ?_
        refine j_iload_n dX5_leastFitting_34 rfl rfl ?_
        refine j_min dX5_leastFitting_35 mm_X5_42 st_min in_Math co_min (Nat.le_of_ble_eq_true rfl) (Nat.le_of_ble_eq_true rfl) (Nat.zero_le _) (Nat.zero_le _) ?_
        refine j_istore_n dX5_leastFitting_38 rfl (Nat.le_of_ble_eq_true rfl) rfl ?_
        refine j_iinc dX5_leastFitting_39 rfl (Nat.le_of_ble_eq_true rfl) rfl ?_
        refine j_goto (tgt := 4) dX5_leastFitting_42 rfl ?_
        exact j_mask [true, true, true, false] rfl (ih (min x1_4 (G 85 (G 86 x2_4))) (w32 (x2_4 + 1)))
    · refine j_iload_n dX5_leastFitting_45 rfl rfl ?_
      exact j_ireturn dX5_leastFitting_46 rfl rfl (Nat.zero_le _) (Nat.zero_le _)

set_option maxRecDepth 100000 in
theorem cRw_leastFitting_J {l : Launch} {H : Hp} (G : Hp) : J l M_cRw_leastFitting (KRi (fu G H)) (cRw_leastFitting  G) 0 [(2, 80), (9, 0), (9, 0), (9, 0)] [] 224 (fu G H) (0, 0) := by
  unfold cRw_leastFitting
  refine j_iconst dX5_leastFitting_0 r32_m1 ?_
  refine j_istore_n dX5_leastFitting_1 rfl (Nat.le_of_ble_eq_true rfl) rfl ?_
  refine j_iconst dX5_leastFitting_2 r32_0 ?_
  refine j_istore_n dX5_leastFitting_3 rfl (Nat.le_of_ble_eq_true rfl) rfl ?_
  exact j_mask [true, true, true, false] rfl (cRw_leastFitting_L4_J G FU (-1) 0)

set_option maxRecDepth 100000 in
theorem cRw_leastFitting_ct {l : Launch} {H : Hp} (G : Hp) {r : Int} (h : cRw_leastFitting  G = some r) : Ct l M_cRw_leastFitting [(2, 80)] 224 (fu G H) ((KRi (fu G H)) r) :=
  ct_of_J (by decide +kernel) rfl (Nat.le_of_ble_eq_true rfl) (cRw_leastFitting_J  G) h
