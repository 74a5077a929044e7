set_option maxRecDepth 100000 in
theorem cNe_next_j38_J {l : Launch} {H : Hp} (o : Int) (ho : isNet o) (a1 : Int) (a2 : Int) (G_38 : Hp) : J l M_cNe_next (KWi (fun g => fu g H)) (cNe_next_j38 o a1 a2  G_38) 38 [(2, o), (0, a1), (0, a2)] [] 224 (fu G_38 H) (0, 0) := by
  unfold cNe_next_j38
  refine j_aload_n dX2_next_38 rfl rfl ?_
  refine j_grc dX2_next_39 gf_X2_18 (oc_net ho) (Or.inl (by decide)) (rf_net_2 ho) ?_
  refine j_bipush dX2_next_42 r32_10 bp_10 ?_
  refine j_iload_n dX2_next_44 rfl rfl ?_
  refine j_imul dX2_next_45 ?_
  refine j_iload_n dX2_next_46 rfl rfl ?_
  refine j_iadd dX2_next_47 ?_
  refine j_gd (fun h48a h48b => ?_)
  refine j_aic dX2_next_48 (oc_net_3 ho) rfl h48a h48b ?_
  exact j_ireturn dX2_next_49 rfl rfl (Nat.zero_le _) (Nat.zero_le _)

set_option maxRecDepth 100000 in
theorem cNe_next_J {l : Launch} {H : Hp} (o : Int) (ho : isNet o) (a1 : Int) (a2 : Int) (G : Hp) : J l M_cNe_next (KWi (fun g => fu g H)) (cNe_next o a1 a2 G) 0 [(2, o), (0, a1), (0, a2)] [] 224 (fu G H) (0, 0) := by
  unfold cNe_next
  refine j_iload_n dX2_next_0 rfl rfl ?_
  refine j_if_lt (tgt := 20) dX2_next_1 rfl (fun h1 => ?_) (fun h1 => ?_)
  · refine j_iconst dX2_next_20 r32_m1 ?_
    exact j_ireturn dX2_next_21 rfl rfl (Nat.zero_le _) (Nat.zero_le _)
  · refine j_iload_n dX2_next_4 rfl rfl ?_
    refine j_bipush dX2_next_5 r32_10 bp_10 ?_
    refine j_icmp_ge (tgt := 20) dX2_next_7 rfl (fun h7 => ?_) (fun h7 => ?_)
    · refine j_iload_n dX2_next_10 rfl rfl ?_
      refine j_if_lt (tgt := 20) dX2_next_11 rfl (fun h11 => ?_) (fun h11 => ?_)
      · refine j_iconst dX2_next_20 r32_m1 ?_
        exact j_ireturn dX2_next_21 rfl rfl (Nat.zero_le _) (Nat.zero_le _)
      · refine j_iload_n dX2_next_14 rfl rfl ?_
        refine j_bipush dX2_next_15 r32_10 bp_10 ?_
        refine j_icmp_lt (tgt := 22) dX2_next_17 rfl (fun h17 => ?_) (fun h17 => ?_)
        · refine j_iconst dX2_next_20 r32_m1 ?_
          exact j_ireturn dX2_next_21 rfl rfl (Nat.zero_le _) (Nat.zero_le _)
        · refine j_aload_n dX2_next_22 rfl rfl ?_
          refine j_gic dX2_next_23 gf_X2_21 (oc_net ho) ?_
          refine j_iload_n dX2_next_26 rfl rfl ?_
          refine j_ishr dX2_next_27 ?_
          refine j_iconst dX2_next_28 r32_1 ?_
          refine j_iand dX2_next_29 ?_
          refine j_if_ne (tgt := 38) dX2_next_30 rfl (fun h30 => ?_) (fun h30 => ?_)
          · refine j_aload_n dX2_next_33 rfl rfl ?_
            refine j_iload_n dX2_next_34 rfl rfl ?_
            refine j_cVWv dX2_next_35 im_cNe_reach lk_X2_33 rfl (As := [(0, a2)]) (S := []) rfl (oc_net ho).1 ⟨by decide, by decide⟩ (Nat.le_of_ble_eq_true rfl) (fun r hr => cNe_reach_ct o ho a2 G hr) (fun G35 _ => ?_)
            exact j_mask [true, true, true] rfl (cNe_next_j38_J o ho a1 a2 G35)
          · exact j_mask [true, true, true] rfl (cNe_next_j38_J o ho a1 a2 G)
    · refine j_iconst dX2_next_20 r32_m1 ?_
      exact j_ireturn dX2_next_21 rfl rfl (Nat.zero_le _) (Nat.zero_le _)

set_option maxRecDepth 100000 in
theorem cNe_next_ct {l : Launch} {H : Hp} (o : Int) (ho : isNet o) (a1 : Int) (a2 : Int) (G : Hp) {r : Int × Hp} (h : cNe_next o a1 a2 G = some r) : Ct l M_cNe_next [(2, o), (0, a1), (0, a2)] 224 (fu G H) ((KWi (fun g => fu g H)) r) :=
  ct_of_J (by decide +kernel) rfl (Nat.le_of_ble_eq_true rfl) (cNe_next_J o ho a1 a2 G) h
set_option maxRecDepth 100000 in
theorem cPa_readIn_j90_J {l : Launch} {H : Hp} (o : Int) (ho : isPaper o) (a1 : Int) (ha1 : isNet a1) (a2 : Int) (a3 : Int) (a4 : Int) (k28 : Int → Int → Int → Hp → Option (Int × Hp)) (hk28 : ∀ (x5_28 : Int) (x6_28 : Int) (x7_28 : Int) (G_28 : Hp), J l M_cPa_readIn (KWi (fun g => fu g H)) (k28 x5_28 x6_28 x7_28 G_28) 28 [(2, o), (2, a1), (0, a2), (9, 0), (0, a4), (0, x5_28), (0, x6_28), (0, x7_28), (9, 0), (9, 0)] [] 224 (fu G_28 H) (0, 0)) (x5_90 : Int) (x6_90 : Int) (x7_90 : Int) (s0_90 : Int) (G_90 : Hp) : J l M_cPa_readIn (KWi (fun g => fu g H)) (cPa_readIn_j90 o a1 a2 a3 a4 k28 x5_90 x6_90 x7_90 s0_90 G_90) 90 [(2, o), (2, a1), (0, a2), (9, 0), (0, a4), (0, x5_90), (0, x6_90), (0, x7_90), (9, 0), (9, 0)] [(0, s0_90)] 224 (fu G_90 H) (0, 0) := by
  unfold cPa_readIn_j90
  refine j_istore dX3_readIn_90 (Nat.le_of_ble_eq_true rfl) rfl ?_
  refine j_iload dX3_readIn_92 rfl ?_
  refine j_iconst dX3_readIn_94 r32_m1 ?_
  refine j_icmp_eq (tgt := 112) dX3_readIn_95 rfl (fun h95 => ?_) (fun h95 => ?_)
  · refine j_iinc dX3_readIn_112 rfl (Nat.le_of_ble_eq_true rfl) rfl ?_
    refine j_goto (tgt := 28) dX3_readIn_115 rfl ?_
    exact j_mask [true, true, true, false, true, true, true, true, false, false] rfl (hk28 x5_90 x6_90 (w32 (x7_90 + 1)) G_90)
  · refine j_iload dX3_readIn_98 rfl ?_
    refine j_iload dX3_readIn_100 rfl ?_
    refine j_iload dX3_readIn_102 rfl ?_
    refine j_cSRip dX3_readIn_104 sm_cX_put lk_X3_49 rfl (As := [(0, x5_90), (0, x7_90), (0, s0_90)]) (S := []) rfl ⟨by decide, by decide⟩ (Nat.le_of_ble_eq_true rfl) (cX_put_ct x5_90 x7_90 s0_90) ?_
    refine j_istore dX3_readIn_107 (Nat.le_of_ble_eq_true rfl) rfl ?_
    refine j_iinc dX3_readIn_109 rfl (Nat.le_of_ble_eq_true rfl) rfl ?_
    refine j_iinc dX3_readIn_112 rfl (Nat.le_of_ble_eq_true rfl) rfl ?_
    refine j_goto (tgt := 28) dX3_readIn_115 rfl ?_
    exact j_mask [true, true, true, false, true, true, true, true, false, false] rfl (hk28 (cX_put x5_90 x7_90 s0_90) (w32 (x6_90 + (-1))) (w32 (x7_90 + 1)) G_90)

set_option maxRecDepth 100000 in
theorem cPa_readIn_j64_J {l : Launch} {H : Hp} (o : Int) (ho : isPaper o) (a1 : Int) (ha1 : isNet a1) (a2 : Int) (a3 : Int) (a4 : Int) (k28 : Int → Int → Int → Hp → Option (Int × Hp)) (hk28 : ∀ (x5_28 : Int) (x6_28 : Int) (x7_28 : Int) (G_28 : Hp), J l M_cPa_readIn (KWi (fun g => fu g H)) (k28 x5_28 x6_28 x7_28 G_28) 28 [(2, o), (2, a1), (0, a2), (9, 0), (0, a4), (0, x5_28), (0, x6_28), (0, x7_28), (9, 0), (9, 0)] [] 224 (fu G_28 H) (0, 0)) (x5_64 : Int) (x6_64 : Int) (x7_64 : Int) (s0_64 : Int) (G_64 : Hp) : J l M_cPa_readIn (KWi (fun g => fu g H)) (cPa_readIn_j64 o a1 a2 a3 a4 k28 x5_64 x6_64 x7_64 s0_64 G_64) 64 [(2, o), (2, a1), (0, a2), (9, 0), (0, a4), (0, x5_64), (0, x6_64), (0, x7_64), (9, 0), (9, 0)] [(0, s0_64)] 224 (fu G_64 H) (0, 0) := by
  unfold cPa_readIn_j64
  refine j_istore dX3_readIn_64 (Nat.le_of_ble_eq_true rfl) rfl ?_
  refine j_iload dX3_readIn_66 rfl ?_
  refine j_bipush dX3_readIn_68 r32_10 bp_10 ?_
  refine j_icmp_ne (tgt := 77) dX3_readIn_70 rfl (fun h70 => ?_) (fun h70 => ?_)
  · refine j_iconst dX3_readIn_73 r32_m1 ?_
    refine j_goto (tgt := 90) dX3_readIn_74 rfl ?_
    exact j_mask [true, true, true, false, true, true, true, true, false, false] rfl (cPa_readIn_j90_J o ho a1 ha1 a2 a3 a4  k28 hk28 x5_64 x6_64 x7_64 (-1) G_64)
  · refine j_aload_n dX3_readIn_77 rfl rfl ?_
    refine j_iload dX3_readIn_78 rfl ?_
    refine j_iload dX3_readIn_80 rfl ?_
    refine j_cSRip dX3_readIn_82 sm_cX_wordAt lk_X3_53 rfl (As := [(0, x5_64), (0, x7_64)]) (S := [(2, a1)]) rfl ⟨by decide, by decide⟩ (Nat.le_of_ble_eq_true rfl) (cX_wordAt_ct x5_64 x7_64) ?_
    refine j_iload dX3_readIn_85 rfl ?_
    refine j_cVWi dX3_readIn_87 im_cNe_next lk_X3_74 rfl (As := [(0, (cX_wordAt x5_64 x7_64)), (0, s0_64)]) (S := []) rfl (oc_net ha1).1 ⟨by decide, by decide⟩ (Nat.le_of_ble_eq_true rfl) (fun r hr => cNe_next_ct a1 ha1 (cX_wordAt x5_64 x7_64) s0_64 G_64 hr) (fun r87 _ => ?_)
    exact j_mask [true, true, true, false, true, true, true, true, false, false] rfl (cPa_readIn_j90_J o ho a1 ha1 a2 a3 a4  k28 hk28 x5_64 x6_64 x7_64 r87.1 r87.2)

set_option maxRecDepth 100000 in
theorem cPa_readIn_L28_J {l : Launch} {H : Hp} (o : Int) (ho : isPaper o) (a1 : Int) (ha1 : isNet a1) (a2 : Int) (a3 : Int) (a4 : Int) : ∀ (n_28 : Nat) (x5_28 : Int) (x6_28 : Int) (x7_28 : Int) (G_28 : Hp), J l M_cPa_readIn (KWi (fun g => fu g H)) (cPa_readIn_L28 o a1 a2 a3 a4  n_28 x5_28 x6_28 x7_28 G_28) 28 [(2, o), (2, a1), (0, a2), (9, 0), (0, a4), (0, x5_28), (0, x6_28), (0, x7_28), (9, 0), (9, 0)] [] 224 (fu G_28 H) (0, 0) := by
  intro n_28
  induction n_28 with
  | zero =>
    intro x5_28 x6_28 x7_28 G_28
    exact j_none
  | succ n_28 ih =>
    intro x5_28 x6_28 x7_28 G_28
    rw [cPa_readIn_L28]
    refine j_iload dX3_readIn_28 rfl ?_
    refine j_aload_n dX3_readIn_30 rfl rfl ?_
    refine j_gic dX3_readIn_31 gf_X3_32 (oc_paper ho) ?_
    refine j_icmp_ge (tgt := 118) dX3_readIn_34 rfl (fun h34 => ?_) (fun h34 => ?_)
    · refine j_iload dX3_readIn_37 rfl ?_
      refine j_if_le (tgt := 118) dX3_readIn_39 rfl (fun h39 => ?_) (fun h39 => ?_)
      · refine j_iload dX3_readIn_42 rfl ?_
        refine j_iload dX3_readIn_44 rfl ?_
        refine j_ishr dX3_readIn_46 ?_
        refine j_iconst dX3_readIn_47 r32_1 ?_
        refine j_iand dX3_readIn_48 ?_
        refine j_if_eq (tgt := 57) dX3_readIn_49 rfl (fun h49 => ?_) (fun h49 => ?_)
        · refine j_aload_n dX3_readIn_57 rfl rfl ?_
          refine j_iload_n dX3_readIn_58 rfl rfl ?_
          refine j_iload dX3_readIn_59 rfl ?_
          refine j_cVRi dX3_readIn_61 im_cPa_wish lk_X3_60 rfl (As := [(0, a2), (0, x7_28)]) (S := []) rfl (oc_paper ho).1 ⟨by decide, by decide⟩ (Nat.le_of_ble_eq_true rfl) (fun r hr => cPa_wish_ct o ho a2 x7_28 G_28 hr) (fun v61 _ => ?_)
          exact j_mask [true, true, true, false, true, true, true, true, false, false] rfl (cPa_readIn_j64_J o ho a1 ha1 a2 a3 a4  (cPa_readIn_L28 o a1 a2 a3 a4 n_28) ih x5_28 x6_28 x7_28 v61 G_28)
        · refine j_bipush dX3_readIn_52 r32_10 bp_10 ?_
          refine j_goto (tgt := 64) dX3_readIn_54 rfl ?_
          exact j_mask [true, true, true, false, true, true, true, true, false, false] rfl (cPa_readIn_j64_J o ho a1 ha1 a2 a3 a4  (cPa_readIn_L28 o a1 a2 a3 a4 n_28) ih x5_28 x6_28 x7_28 10 G_28)
      · refine j_iload dX3_readIn_118 rfl ?_
        exact j_ireturn dX3_readIn_120 rfl rfl (Nat.zero_le _) (Nat.zero_le _)
    · refine j_iload dX3_readIn_118 rfl ?_
      exact j_ireturn dX3_readIn_120 rfl rfl (Nat.zero_le _) (Nat.zero_le _)

set_option maxRecDepth 100000 in
theorem cPa_readIn_J {l : Launch} {H : Hp} (o : Int) (ho : isPaper o) (a1 : Int) (ha1 : isNet a1) (a2 : Int) (a3 : Int) (a4 : Int) (G : Hp) : J l M_cPa_readIn (KWi (fun g => fu g H)) (cPa_readIn o a1 a2 a3 a4 G) 0 [(2, o), (2, a1), (0, a2), (0, a3), (0, a4), (9, 0), (9, 0), (9, 0), (9, 0), (9, 0)] [] 224 (fu G H) (0, 0) := by
  unfold cPa_readIn
  refine j_iload_n dX3_readIn_0 rfl rfl ?_
  refine j_if_lt (tgt := 12) dX3_readIn_1 rfl (fun h1 => ?_) (fun h1 => ?_)
  · refine j_iload_n dX3_readIn_12 rfl rfl ?_
    exact j_ireturn dX3_readIn_13 rfl rfl (Nat.zero_le _) (Nat.zero_le _)
  · refine j_iload_n dX3_readIn_4 rfl rfl ?_
    refine j_aload_n dX3_readIn_5 rfl rfl ?_
    refine j_gic dX3_readIn_6 gf_X3_35 (oc_paper ho) ?_
    refine j_icmp_lt (tgt := 14) dX3_readIn_9 rfl (fun h9 => ?_) (fun h9 => ?_)
    · refine j_iload_n dX3_readIn_12 rfl rfl ?_
      exact j_ireturn dX3_readIn_13 rfl rfl (Nat.zero_le _) (Nat.zero_le _)
    · refine j_iload_n dX3_readIn_14 rfl rfl ?_
      refine j_istore dX3_readIn_15 (Nat.le_of_ble_eq_true rfl) rfl ?_
      refine j_aload_n dX3_readIn_17 rfl rfl ?_
      refine j_grc dX3_readIn_18 gf_X3_18 (oc_paper ho) (Or.inl (by decide)) (rf_paper_4 ho) ?_
      refine j_iload_n dX3_readIn_21 rfl rfl ?_
      refine j_gd (fun h22a h22b => ?_)
      refine j_aic dX3_readIn_22 (oc_paper_5 ho) rfl h22a h22b ?_
      refine j_istore dX3_readIn_23 (Nat.le_of_ble_eq_true rfl) rfl ?_
      refine j_iconst dX3_readIn_25 r32_0 ?_
      refine j_istore dX3_readIn_26 (Nat.le_of_ble_eq_true rfl) rfl ?_
      exact j_mask [true, true, true, false, true, true, true, true, false, false] rfl (cPa_readIn_L28_J o ho a1 ha1 a2 a3 a4 FU a3 (G (o + 5) a2) 0 G)

set_option maxRecDepth 100000 in
theorem cPa_readIn_ct {l : Launch} {H : Hp} (o : Int) (ho : isPaper o) (a1 : Int) (ha1 : isNet a1) (a2 : Int) (a3 : Int) (a4 : Int) (G : Hp) {r : Int × Hp} (h : cPa_readIn o a1 a2 a3 a4 G = some r) : Ct l M_cPa_readIn [(2, o), (2, a1), (0, a2), (0, a3), (0, a4)] 224 (fu G H) ((KWi (fun g => fu g H)) r) :=
  ct_of_J (by decide +kernel) rfl (Nat.le_of_ble_eq_true rfl) (cPa_readIn_J o ho a1 ha1 a2 a3 a4 G) h
set_option maxRecDepth 100000 in
theorem cX_unlikePlaces_L4_J {l : Launch} {H : Hp} (a0 : Int) (a1 : Int) (G : Hp) : ∀ (n_4 : Nat) (x2_4 : Int) (x3_4 : Int), J l M_cX_unlikePlaces (KRi (fu G H)) (cX_unlikePlaces_L4 a0 a1 G  n_4 x2_4 x3_4) 4 [(0, a0), (0, a1), (0, x2_4), (0, x3_4)] [] 224 (fu G H) (0, 0) := by
  intro n_4
  induction n_4 with
  | zero =>
    intro x2_4 x3_4
    exact j_none
  | succ n_4 ih =>
    intro x2_4 x3_4
    rw [cX_unlikePlaces_L4]
    refine j_iload_n dX10_unlikePlaces_4 rfl rfl ?_
    refine j_bipush dX10_unlikePlaces_5 r32_8 bp_8 ?_
    refine j_icmp_ge (tgt := 35) dX10_unlikePlaces_7 rfl (fun h7 => ?_) (fun h7 => ?_)
    · refine j_iload_n dX10_unlikePlaces_10 rfl rfl ?_
      refine j_iload_n dX10_unlikePlaces_11 rfl rfl ?_
      refine j_cSRip dX10_unlikePlaces_12 sm_cX_wordAt lk_X10_272 rfl (As := [(0, a0), (0, x3_4)]) (S := []) rfl ⟨by decide, by decide⟩ (Nat.le_of_ble_eq_true rfl) (cX_wordAt_ct a0 x3_4) ?_
      refine j_iload_n dX10_unlikePlaces_15 rfl rfl ?_
      refine j_iload_n dX10_unlikePlaces_16 rfl rfl ?_
      refine j_cSRip dX10_unlikePlaces_17 sm_cX_wordAt lk_X10_272 rfl (As := [(0, a1), (0, x3_4)]) (S := [(0, (cX_wordAt a0 x3_4))]) rfl ⟨by decide, by decide⟩ (Nat.le_of_ble_eq_true rfl) (cX_wordAt_ct a1 x3_4) ?_
      refine j_icmp_eq (tgt := 29) dX10_unlikePlaces_20 rfl (fun h20 => ?_) (fun h20 => ?_)
      · refine j_iinc dX10_unlikePlaces_29 rfl (Nat.le_of_ble_eq_true rfl) rfl ?_
        refine j_goto (tgt := 4) dX10_unlikePlaces_32 rfl ?_
        exact j_mask [true, true, true, true] rfl (ih x2_4 (w32 (x3_4 + 1)))
      · refine j_iload_n dX10_unlikePlaces_23 rfl rfl ?_
        refine j_iconst dX10_unlikePlaces_24 r32_1 ?_
        refine j_iload_n dX10_unlikePlaces_25 rfl rfl ?_
        refine j_ishl dX10_unlikePlaces_26 ?_
        refine j_ior dX10_unlikePlaces_27 ?_
        refine j_istore_n dX10_unlikePlaces_28 rfl (Nat.le_of_ble_eq_true rfl) rfl ?_
        refine j_iinc dX10_unlikePlaces_29 rfl (Nat.le_of_ble_eq_true rfl) rfl ?_
        refine j_goto (tgt := 4) dX10_unlikePlaces_32 rfl ?_
        exact j_mask [true, true, true, true] rfl (ih (ior x2_4 (ishl 1 x3_4)) (w32 (x3_4 + 1)))
    · refine j_iload_n dX10_unlikePlaces_35 rfl rfl ?_
      exact j_ireturn dX10_unlikePlaces_36 rfl rfl (Nat.zero_le _) (Nat.zero_le _)

set_option maxRecDepth 100000 in
theorem cX_unlikePlaces_J {l : Launch} {H : Hp} (a0 : Int) (a1 : Int) (G : Hp) : J l M_cX_unlikePlaces (KRi (fu G H)) (cX_unlikePlaces a0 a1 G) 0 [(0, a0), (0, a1), (9, 0), (9, 0)] [] 224 (fu G H) (0, 0) := by
  unfold cX_unlikePlaces
  refine j_iconst dX10_unlikePlaces_0 r32_0 ?_
  refine j_istore_n dX10_unlikePlaces_1 rfl (Nat.le_of_ble_eq_true rfl) rfl ?_
  refine j_iconst dX10_unlikePlaces_2 r32_0 ?_
  refine j_istore_n dX10_unlikePlaces_3 rfl (Nat.le_of_ble_eq_true rfl) rfl ?_
  exact j_mask [true, true, true, true] rfl (cX_unlikePlaces_L4_J a0 a1 G FU 0 0)

set_option maxRecDepth 100000 in
theorem cX_unlikePlaces_ct {l : Launch} {H : Hp} (a0 : Int) (a1 : Int) (G : Hp) {r : Int} (h : cX_unlikePlaces a0 a1 G = some r) : Ct l M_cX_unlikePlaces [(0, a0), (0, a1)] 224 (fu G H) ((KRi (fu G H)) r) :=
  ct_of_J (by decide +kernel) rfl (Nat.le_of_ble_eq_true rfl) (cX_unlikePlaces_J a0 a1 G) h
set_option maxRecDepth 100000 in
theorem jI_bitCount_J {l : Launch} {Ch : Hp} (a0 : Int) : J l M_jI_bitCount (KRi Ch) (some (jI_bitCount a0)) 0 [(0, a0)] [] 224 Ch (0, 0) := by
  unfold jI_bitCount
  refine j_iload_n dJ6_bitCount_0f7a4_0 rfl rfl ?_
  refine j_iload_n dJ6_bitCount_0f7a4_1 rfl rfl ?_
  refine j_iconst dJ6_bitCount_0f7a4_2 r32_1 ?_
  refine j_iushr dJ6_bitCount_0f7a4_3 ?_
  refine j_ldcw dJ6_bitCount_0f7a4_4 cs_J6_265 r32_1431655765 ?_
  refine j_iand dJ6_bitCount_0f7a4_7 ?_
  refine j_isub dJ6_bitCount_0f7a4_8 ?_
  refine j_istore_n dJ6_bitCount_0f7a4_9 rfl (Nat.le_of_ble_eq_true rfl) rfl ?_
  refine j_iload_n dJ6_bitCount_0f7a4_10 rfl rfl ?_
  refine j_ldcw dJ6_bitCount_0f7a4_11 cs_J6_266 r32_858993459 ?_
  refine j_iand dJ6_bitCount_0f7a4_14 ?_
  refine j_iload_n dJ6_bitCount_0f7a4_15 rfl rfl ?_
  refine j_iconst dJ6_bitCount_0f7a4_16 r32_2 ?_
  refine j_iushr dJ6_bitCount_0f7a4_17 ?_
  refine j_ldcw dJ6_bitCount_0f7a4_18 cs_J6_266 r32_858993459 ?_
  refine j_iand dJ6_bitCount_0f7a4_21 ?_
  refine j_iadd dJ6_bitCount_0f7a4_22 ?_
  refine j_istore_n dJ6_bitCount_0f7a4_23 rfl (Nat.le_of_ble_eq_true rfl) rfl ?_
  refine j_iload_n dJ6_bitCount_0f7a4_24 rfl rfl ?_
  refine j_iload_n dJ6_bitCount_0f7a4_25 rfl rfl ?_
  refine j_iconst dJ6_bitCount_0f7a4_26 r32_4 ?_
  refine j_iushr dJ6_bitCount_0f7a4_27 ?_
  refine j_iadd dJ6_bitCount_0f7a4_28 ?_
  refine j_ldcw dJ6_bitCount_0f7a4_29 cs_J6_267 r32_252645135 ?_
  refine j_iand dJ6_bitCount_0f7a4_32 ?_
  refine j_istore_n dJ6_bitCount_0f7a4_33 rfl (Nat.le_of_ble_eq_true rfl) rfl ?_
  refine j_iload_n dJ6_bitCount_0f7a4_34 rfl rfl ?_
  refine j_iload_n dJ6_bitCount_0f7a4_35 rfl rfl ?_
  refine j_bipush dJ6_bitCount_0f7a4_36 r32_8 bp_8 ?_
  refine j_iushr dJ6_bitCount_0f7a4_38 ?_
  refine j_iadd dJ6_bitCount_0f7a4_39 ?_
  refine j_istore_n dJ6_bitCount_0f7a4_40 rfl (Nat.le_of_ble_eq_true rfl) rfl ?_
  refine j_iload_n dJ6_bitCount_0f7a4_41 rfl rfl ?_
  refine j_iload_n dJ6_bitCount_0f7a4_42 rfl rfl ?_
  refine j_bipush dJ6_bitCount_0f7a4_43 r32_16 bp_16 ?_
  refine j_iushr dJ6_bitCount_0f7a4_45 ?_
  refine j_iadd dJ6_bitCount_0f7a4_46 ?_
  refine j_istore_n dJ6_bitCount_0f7a4_47 rfl (Nat.le_of_ble_eq_true rfl) rfl ?_
  refine j_iload_n dJ6_bitCount_0f7a4_48 rfl rfl ?_
  refine j_bipush dJ6_bitCount_0f7a4_49 r32_63 bp_63 ?_
  refine j_iand dJ6_bitCount_0f7a4_51 ?_
  exact j_ireturn dJ6_bitCount_0f7a4_52 rfl rfl (Nat.zero_le _) (Nat.zero_le _)

set_option maxRecDepth 100000 in
theorem jI_bitCount_ct {l : Launch} {Ch : Hp} (a0 : Int) : Ct l M_jI_bitCount [(0, a0)] 224 Ch (KRi Ch (jI_bitCount a0)) :=
  ct_of_J (by decide +kernel) rfl (Nat.le_of_ble_eq_true rfl) (jI_bitCount_J a0) rfl
set_option maxRecDepth 100000 in
theorem cSt_read_J {l : Launch} {H : Hp} (a1 : Int) (G : Hp) : J l M_cSt_read (KWv (fun g => fu g H)) (cSt_read a1 G) 0 [(2, 57), (0, a1), (9, 0), (9, 0), (9, 0)] [] 224 (fu G H) (0, 0) := by
  unfold cSt_read
  refine j_aload_n dX7_read_0 rfl rfl ?_
  refine j_pg (fun hsp1 => ?_)
  refine j_gsp dX7_read_1 gf_X7_12 oc_57 ?_
  refine j_aload_n dX7_read_4 rfl rfl ?_
  refine j_grc dX7_read_5 gf_X7_21 oc_57 (Or.inr (by decide)) rf_57_1 ?_
  refine j_iload_n dX7_read_8 rfl rfl ?_
  refine j_aload_n dX7_read_9 rfl rfl ?_
  refine j_gic dX7_read_10 gf_X7_44 oc_57 ?_
  refine j_aload_n dX7_read_13 rfl rfl ?_
  refine j_grc dX7_read_14 gf_X7_25 oc_57 (Or.inr (by decide)) rf_57_3 ?_
  refine j_iload_n dX7_read_17 rfl rfl ?_
  refine j_gd (fun h18a h18b => ?_)
  refine j_aic dX7_read_18 oc_70 rfl h18a h18b ?_
  refine j_cVWi dX7_read_19 im_cPa_readIn lk_X7_128 rfl (As := [(2, 66), (0, a1), (0, G 57 2), (0, G 70 a1)]) (S := []) rfl (oc_paper hsp1).1 ⟨by decide, by decide⟩ (Nat.le_of_ble_eq_true rfl) (fun r hr => cPa_readIn_ct (G 57 0) hsp1 66 isNet_66 a1 (G 57 2) (G 70 a1) G hr) (fun r19 _ => ?_)
  refine j_istore_n dX7_read_22 rfl (Nat.le_of_ble_eq_true rfl) rfl ?_
  refine j_aload_n dX7_read_23 rfl rfl ?_
  refine j_gic dX7_read_24 gf_X7_44 oc_57 ?_
  refine j_iload_n dX7_read_27 rfl rfl ?_
  refine j_cSRi dX7_read_28 sm_cX_unlikePlaces lk_X7_132 rfl (As := [(0, r19.2 57 2), (0, r19.1)]) (S := []) rfl ⟨by decide, by decide⟩ (Nat.le_of_ble_eq_true rfl) (fun r hr => cX_unlikePlaces_ct (r19.2 57 2) r19.1 r19.2 hr) (fun v28 _ => ?_)
  refine j_istore_n dX7_read_31 rfl (Nat.le_of_ble_eq_true rfl) rfl ?_
  refine j_iload_n dX7_read_32 rfl rfl ?_
  refine j_cSRip dX7_read_33 sm_jI_bitCount lk_X7_135 rfl (As := [(0, v28)]) (S := []) rfl ⟨by decide, by decide⟩ (Nat.le_of_ble_eq_true rfl) (jI_bitCount_ct v28) ?_
  refine j_istore dX7_read_36 (Nat.le_of_ble_eq_true rfl) rfl ?_
  refine j_aload_n dX7_read_38 rfl rfl ?_
  refine j_iload_n dX7_read_39 rfl rfl ?_
  refine j_pic dX7_read_40 gf_X7_44 po_7_2 oc_57 (nf_7_2 _) ?_
  refine j_aload_n dX7_read_43 rfl rfl ?_
  refine j_dup dX7_read_44 (by decide) ?_
  refine j_gic dX7_read_45 gf_X7_45 oc_57 ?_
  refine j_iload dX7_read_48 rfl ?_
  refine j_iadd dX7_read_50 ?_
  refine j_pic dX7_read_51 gf_X7_45 po_7_5 oc_57 (nf_7_5 _) ?_
  refine j_aload_n dX7_read_54 rfl rfl ?_
  refine j_grc dX7_read_55 gf_X7_29 oc_57 (Or.inr (by decide)) rf_57_4 ?_
  refine j_iload_n dX7_read_58 rfl rfl ?_
  refine j_dup2 dX7_read_59 (by decide) (by decide) ?_
  refine j_gd (fun h60a h60b => ?_)
  refine j_aic dX7_read_60 oc_71 rfl h60a h60b ?_
  refine j_iload dX7_read_61 rfl ?_
  refine j_iadd dX7_read_63 ?_
  refine j_gd (fun h64a h64b => ?_)
  refine j_sic dX7_read_64 oc_71 rfl h64a h64b ?_
  refine j_aload_n dX7_read_65 rfl rfl ?_
  refine j_dup dX7_read_66 (by decide) ?_
  refine j_gic dX7_read_67 gf_X7_60 oc_57 ?_
  refine j_iload_n dX7_read_70 rfl rfl ?_
  refine j_ior dX7_read_71 ?_
  refine j_pic dX7_read_72 gf_X7_60 po_7_11 oc_57 (nf_7_11 _) ?_
  exact j_return dX7_read_75 rfl rfl (Nat.zero_le _) (Nat.zero_le _)

set_option maxRecDepth 100000 in
theorem cSt_read_ct {l : Launch} {H : Hp} (a1 : Int) (G : Hp) {r : Hp} (h : cSt_read a1 G = some r) : Ct l M_cSt_read [(2, 57), (0, a1)] 224 (fu G H) ((KWv (fun g => fu g H)) r) :=
  ct_of_J (by decide +kernel) rfl (Nat.le_of_ble_eq_true rfl) (cSt_read_J a1 G) h
set_option maxRecDepth 100000 in
theorem cNe_part_J {l : Launch} {H : Hp} (o : Int) (ho : isNet o) (a1 : Int) (a2 : Int) (G : Hp) : J l M_cNe_part (KWv (fun g => fu g H)) (cNe_part o a1 a2 G) 0 [(2, o), (0, a1), (0, a2)] [] 224 (fu G H) (0, 0) := by
  unfold cNe_part
  refine j_iload_n dX2_part_0 rfl rfl ?_
  refine j_cSRbp dX2_part_1 sm_cX_isWord lk_X2_29 rfl (As := [(0, a1)]) (S := []) rfl ⟨by decide, by decide⟩ (Nat.le_of_ble_eq_true rfl) (cX_isWord_ct a1) ?_
  refine j_ifb_eq (tgt := 47) dX2_part_4 rfl (fun h4 => ?_) (fun h4 => ?_)
  · refine j_iload_n dX2_part_7 rfl rfl ?_
    refine j_cSRbp dX2_part_8 sm_cX_isWord lk_X2_29 rfl (As := [(0, a2)]) (S := []) rfl ⟨by decide, by decide⟩ (Nat.le_of_ble_eq_true rfl) (cX_isWord_ct a2) ?_
    refine j_ifb_eq (tgt := 47) dX2_part_11 rfl (fun h11 => ?_) (fun h11 => ?_)
    · refine j_aload_n dX2_part_14 rfl rfl ?_
      refine j_grc dX2_part_15 gf_X2_9 (oc_net ho) (Or.inl (by decide)) (rf_net_0 ho) ?_
      refine j_iload_n dX2_part_18 rfl rfl ?_
      refine j_dup2 dX2_part_19 (by decide) (by decide) ?_
      refine j_gd (fun h20a h20b => ?_)
      refine j_aic dX2_part_20 (oc_net_1 ho) rfl h20a h20b ?_
      refine j_iconst dX2_part_21 r32_1 ?_
      refine j_iload_n dX2_part_22 rfl rfl ?_
      refine j_ishl dX2_part_23 ?_
      refine j_iconst dX2_part_24 r32_m1 ?_
      refine j_ixor dX2_part_25 ?_
      refine j_iand dX2_part_26 ?_
      refine j_gd (fun h27a h27b => ?_)
      refine j_sic dX2_part_27 (oc_net_1 ho) rfl h27a h27b ?_
      refine j_aload_n dX2_part_28 rfl rfl ?_
      refine j_grc dX2_part_29 gf_X2_9 (oc_net ho) (Or.inl (by decide)) (rf_net_0 ho) ?_
      refine j_iload_n dX2_part_32 rfl rfl ?_
      refine j_dup2 dX2_part_33 (by decide) (by decide) ?_
      refine j_gd (fun h34a h34b => ?_)
      refine j_aic dX2_part_34 (oc_net_1 ho) rfl h34a h34b ?_
      refine j_iconst dX2_part_35 r32_1 ?_
      refine j_iload_n dX2_part_36 rfl rfl ?_
      refine j_ishl dX2_part_37 ?_
      refine j_iconst dX2_part_38 r32_m1 ?_
      refine j_ixor dX2_part_39 ?_
      refine j_iand dX2_part_40 ?_
      refine j_gd (fun h41a h41b => ?_)
      refine j_sic dX2_part_41 (oc_net_1 ho) rfl h41a h41b ?_
      refine j_aload_n dX2_part_42 rfl rfl ?_
      refine j_iconst dX2_part_43 r32_0 ?_
      refine j_pic dX2_part_44 gf_X2_21 po_2_3 (oc_net ho) (nf_2_3 _) ?_
      exact j_return dX2_part_47 rfl rfl (Nat.zero_le _) (Nat.zero_le _)
    · exact j_return dX2_part_47 rfl rfl (Nat.zero_le _) (Nat.zero_le _)
  · exact j_return dX2_part_47 rfl rfl (Nat.zero_le _) (Nat.zero_le _)

set_option maxRecDepth 100000 in
theorem cNe_part_ct {l : Launch} {H : Hp} (o : Int) (ho : isNet o) (a1 : Int) (a2 : Int) (G : Hp) {r : Hp} (h : cNe_part o a1 a2 G = some r) : Ct l M_cNe_part [(2, o), (0, a1), (0, a2)] 224 (fu G H) ((KWv (fun g => fu g H)) r) :=
  ct_of_J (by decide +kernel) rfl (Nat.le_of_ble_eq_true rfl) (cNe_part_J o ho a1 a2 G) h
set_option maxRecDepth 100000 in
theorem cSt_print_L20_J {l : Launch} {H : Hp} (G_20 : Hp) (k48 : Option (Hp)) (hk48 : J l M_cSt_print (KWv (fun g => fu g H)) (k48) 48 [(2, 57), (9, 0)] [] 224 (fu G_20 H) (0, 0)) : ∀ (n_20 : Nat) (x1_20 : Int), J l M_cSt_print (KWv (fun g => fu g H)) (cSt_print_L20 G_20 k48 n_20 x1_20) 20 [(2, 57), (0, x1_20)] [] 224 (fu G_20 H) (0, 0) := by
  intro n_20
  induction n_20 with
  | zero =>
    intro x1_20
    exact j_none
  | succ n_20 ih =>
    intro x1_20
    rw [cSt_print_L20]
    refine j_iload_n dX7_print_20 rfl rfl ?_
    refine j_aload_n dX7_print_21 rfl rfl ?_
    refine j_gic dX7_print_22 gf_X7_63 oc_57 ?_
    refine j_icmp_ge (tgt := 48) dX7_print_25 rfl (fun h25 => ?_) (fun h25 => ?_)
    · refine j_aload_n dX7_print_28 rfl rfl ?_
      refine j_grc dX7_print_29 gf_X7_32 oc_57 (Or.inr (by decide)) rf_57_7 ?_
      refine j_iload_n dX7_print_32 rfl rfl ?_
      refine j_gd (fun h33a h33b => ?_)
      refine j_aic dX7_print_33 oc_72 rfl h33a h33b ?_
      refine j_aload_n dX7_print_34 rfl rfl ?_
      refine j_gic dX7_print_35 gf_X7_44 oc_57 ?_
      refine j_icmp_ne (tgt := 42) dX7_print_38 rfl (fun h38 => ?_) (fun h38 => ?_)
      · exact j_return dX7_print_41 rfl rfl (Nat.zero_le _) (Nat.zero_le _)
      · refine j_iinc dX7_print_42 rfl (Nat.le_of_ble_eq_true rfl) rfl ?_
        refine j_goto (tgt := 20) dX7_print_45 rfl ?_
        exact j_mask [true, true] rfl (ih (w32 (x1_20 + 1)))
    · exact j_mask [true, false] rfl (hk48)

set_option maxRecDepth 100000 in
theorem cSt_print_J {l : Launch} {H : Hp} (G : Hp) : J l M_cSt_print (KWv (fun g => fu g H)) (cSt_print  G) 0 [(2, 57), (9, 0)] [] 224 (fu G H) (0, 0) := by
  unfold cSt_print
  refine j_aload_n dX7_print_0 rfl rfl ?_
  refine j_dup dX7_print_1 (by decide) ?_
  refine j_gic dX7_print_2 gf_X7_48 oc_57 ?_
  refine j_iconst dX7_print_5 r32_1 ?_
  refine j_iadd dX7_print_6 ?_
  refine j_pic dX7_print_7 gf_X7_48 po_7_6 oc_57 (nf_7_6 _) ?_
  refine j_aload_n dX7_print_10 rfl rfl ?_
  refine j_aload_n dX7_print_11 rfl rfl ?_
  refine j_gic dX7_print_12 gf_X7_44 oc_57 ?_
  refine j_pic dX7_print_15 gf_X7_51 po_7_8 oc_57 (nf_7_8 _) ?_
  refine j_iconst dX7_print_18 r32_0 ?_
  refine j_istore_n dX7_print_19 rfl (Nat.le_of_ble_eq_true rfl) rfl ?_
  refine j_mask [true, true] rfl (cSt_print_L20_J (upd2 (upd2 G 57 6 (w32 ((G 57 6) + 1))) 57 8 ((upd2 G 57 6 (w32 ((G 57 6) + 1))) 57 2)) (if (upd2 (upd2 G 57 6 (w32 ((G 57 6) + 1))) 57 8 ((upd2 G 57 6 (w32 ((G 57 6) + 1))) 57 2)) 57 12 < 60 then (gd ((upd2 (upd2 G 57 6 (w32 ((G 57 6) + 1))) 57 8 ((upd2 G 57 6 (w32 ((G 57 6) + 1))) 57 2)) 57 12) 60 (some (upd2 (upd2 (upd2 (upd2 G 57 6 (w32 ((G 57 6) + 1))) 57 8 ((upd2 G 57 6 (w32 ((G 57 6) + 1))) 57 2)) 72 ((upd2 (upd2 G 57 6 (w32 ((G 57 6) + 1))) 57 8 ((upd2 G 57 6 (w32 ((G 57 6) + 1))) 57 2)) 57 12) ((upd2 (upd2 G 57 6 (w32 ((G 57 6) + 1))) 57 8 ((upd2 G 57 6 (w32 ((G 57 6) + 1))) 57 2)) 57 2)) 57 12 (w32 (((upd2 (upd2 (upd2 G 57 6 (w32 ((G 57 6) + 1))) 57 8 ((upd2 G 57 6 (w32 ((G 57 6) + 1))) 57 2)) 72 ((upd2 (upd2 G 57 6 (w32 ((G 57 6) + 1))) 57 8 ((upd2 G 57 6 (w32 ((G 57 6) + 1))) 57 2)) 57 12) ((upd2 (upd2 G 57 6 (w32 ((G 57 6) + 1))) 57 8 ((upd2 G 57 6 (w32 ((G 57 6) + 1))) 57 2)) 57 2)) 57 12) + 1))))) else some (upd2 (upd2 G 57 6 (w32 ((G 57 6) + 1))) 57 8 ((upd2 G 57 6 (w32 ((G 57 6) + 1))) 57 2))) ?_ FU 0)
  refine j_aload_n dX7_print_48 rfl rfl ?_
  refine j_gic dX7_print_49 gf_X7_63 oc_57 ?_
  refine j_aload_n dX7_print_52 rfl rfl ?_
  refine j_grc dX7_print_53 gf_X7_32 oc_57 (Or.inr (by decide)) rf_57_7 ?_
  refine j_len (t := 0) dX7_print_56 oc_72.1 (by decide) rfl (by unfold r32; omega) ?_
  refine j_icmp_ge (tgt := 83) dX7_print_57 rfl (fun h57 => ?_) (fun h57 => ?_)
  · refine j_aload_n dX7_print_60 rfl rfl ?_
    refine j_grc dX7_print_61 gf_X7_32 oc_57 (Or.inr (by decide)) rf_57_7 ?_
    refine j_aload_n dX7_print_64 rfl rfl ?_
    refine j_gic dX7_print_65 gf_X7_63 oc_57 ?_
    refine j_aload_n dX7_print_68 rfl rfl ?_
    refine j_gic dX7_print_69 gf_X7_44 oc_57 ?_
    refine j_gd (fun h72a h72b => ?_)
    refine j_sic dX7_print_72 oc_72 rfl h72a h72b ?_
    refine j_aload_n dX7_print_73 rfl rfl ?_
    refine j_dup dX7_print_74 (by decide) ?_
    refine j_gic dX7_print_75 gf_X7_63 oc_57 ?_
    refine j_iconst dX7_print_78 r32_1 ?_
    refine j_iadd dX7_print_79 ?_
    refine j_pic dX7_print_80 gf_X7_63 po_7_12 oc_57 (nf_7_12 _) ?_
    exact j_return dX7_print_83 rfl rfl (Nat.zero_le _) (Nat.zero_le _)
  · exact j_return dX7_print_83 rfl rfl (Nat.zero_le _) (Nat.zero_le _)

set_option maxRecDepth 100000 in
theorem cSt_print_ct {l : Launch} {H : Hp} (G : Hp) {r : Hp} (h : cSt_print  G = some r) : Ct l M_cSt_print [(2, 57)] 224 (fu G H) ((KWv (fun g => fu g H)) r) :=
  ct_of_J (by decide +kernel) rfl (Nat.le_of_ble_eq_true rfl) (cSt_print_J  G) h
set_option maxRecDepth 100000 in
theorem cSt_does_J {l : Launch} {H : Hp} (a1 : Int) (a2 : Int) (a3 : Int) (G : Hp) : J l M_cSt_does (KWb (fun g => fu g H)) (cSt_does a1 a2 a3 G) 0 [(2, 57), (0, a1), (0, a2), (0, a3)] [] 224 (fu G H) (0, 0) := by
  unfold cSt_does
  refine j_aload_n dX7_does_0 rfl rfl ?_
  refine j_iload_n dX7_does_1 rfl rfl ?_
  refine j_iload_n dX7_does_2 rfl rfl ?_
  refine j_iload_n dX7_does_3 rfl rfl ?_
  refine j_cVRb dX7_does_4 im_cSt_can lk_X7_107 rfl (As := [(0, a1), (0, a2), (0, a3)]) (S := []) rfl oc_57.1 ⟨by decide, by decide⟩ (Nat.le_of_ble_eq_true rfl) (fun r hr => cSt_can_ct a1 a2 a3 G hr) (fun v4 _ => ?_)
  refine j_ifb_ne (tgt := 12) dX7_does_7 rfl (fun h7 => ?_) (fun h7 => ?_)
  · refine j_iload_n dX7_does_12 rfl rfl ?_
    refine j_ite _ (fun hc13_0 => ?_) (fun hc13_0 => ?_)
    · refine j_swIn (i := 0) (tgt := 48) dX7_does_13 (hc13_0.trans (by decide)) (by decide) rfl rfl ?_
      refine j_aload_n dX7_does_48 rfl rfl ?_
      refine j_iload_n dX7_does_49 rfl rfl ?_
      refine j_cVWv dX7_does_50 im_cSt_read lk_X7_110 rfl (As := [(0, a2)]) (S := []) rfl oc_57.1 ⟨by decide, by decide⟩ (Nat.le_of_ble_eq_true rfl) (fun r hr => cSt_read_ct a2 G hr) (fun G50 _ => ?_)
      refine j_goto (tgt := 137) dX7_does_53 rfl ?_
      refine j_iconst dX7_does_137 r32_1 ?_
      exact j_zreturn (b := true) dX7_does_138 rfl rfl (Nat.zero_le _) (Nat.zero_le _)
    · refine j_ite _ (fun hc13_1 => ?_) (fun hc13_1 => ?_)
      · refine j_swIn (i := 1) (tgt := 56) dX7_does_13 (hc13_1.trans (by decide)) (by decide) rfl rfl ?_
        refine j_aload_n dX7_does_56 rfl rfl ?_
        refine j_aload_n dX7_does_57 rfl rfl ?_
        refine j_gic dX7_does_58 gf_X7_44 oc_57 ?_
        refine j_iload_n dX7_does_61 rfl rfl ?_
        refine j_iload_n dX7_does_62 rfl rfl ?_
        refine j_cSRip dX7_does_63 sm_cX_put lk_X7_114 rfl (As := [(0, G 57 2), (0, a2), (0, a3)]) (S := [(2, 57)]) rfl ⟨by decide, by decide⟩ (Nat.le_of_ble_eq_true rfl) (cX_put_ct (G 57 2) a2 a3) ?_
        refine j_pic dX7_does_66 gf_X7_44 po_7_2 oc_57 (nf_7_2 _) ?_
        refine j_aload_n dX7_does_69 rfl rfl ?_
        refine j_dup dX7_does_70 (by decide) ?_
        refine j_gic dX7_does_71 gf_X7_57 oc_57 ?_
        refine j_iconst dX7_does_74 r32_1 ?_
        refine j_iadd dX7_does_75 ?_
        refine j_pic dX7_does_76 gf_X7_57 po_7_10 oc_57 (nf_7_10 _) ?_
        refine j_aload_n dX7_does_79 rfl rfl ?_
        refine j_dup dX7_does_80 (by decide) ?_
        refine j_gic dX7_does_81 gf_X7_60 oc_57 ?_
        refine j_iconst dX7_does_84 r32_1 ?_
        refine j_iload_n dX7_does_85 rfl rfl ?_
        refine j_ishl dX7_does_86 ?_
        refine j_ior dX7_does_87 ?_
        refine j_pic dX7_does_88 gf_X7_60 po_7_11 oc_57 (nf_7_11 _) ?_
        refine j_goto (tgt := 137) dX7_does_91 rfl ?_
        refine j_iconst dX7_does_137 r32_1 ?_
        exact j_zreturn (b := true) dX7_does_138 rfl rfl (Nat.zero_le _) (Nat.zero_le _)
      · refine j_ite _ (fun hc13_2 => ?_) (fun hc13_2 => ?_)
        · refine j_swIn (i := 2) (tgt := 94) dX7_does_13 (hc13_2.trans (by decide)) (by decide) rfl rfl ?_
          refine j_aload_n dX7_does_94 rfl rfl ?_
          refine j_grc dX7_does_95 gf_X7_25 oc_57 (Or.inr (by decide)) rf_57_3 ?_
          refine j_iload_n dX7_does_98 rfl rfl ?_
          refine j_dup2 dX7_does_99 (by decide) (by decide) ?_
          refine j_gd (fun h100a h100b => ?_)
          refine j_aic dX7_does_100 oc_70 rfl h100a h100b ?_
          refine j_iconst dX7_does_101 r32_1 ?_
          refine j_iload_n dX7_does_102 rfl rfl ?_
          refine j_ishl dX7_does_103 ?_
          refine j_ior dX7_does_104 ?_
          refine j_gd (fun h105a h105b => ?_)
          refine j_sic dX7_does_105 oc_70 rfl h105a h105b ?_
          refine j_goto (tgt := 137) dX7_does_106 rfl ?_
          refine j_iconst dX7_does_137 r32_1 ?_
          exact j_zreturn (b := true) dX7_does_138 rfl rfl (Nat.zero_le _) (Nat.zero_le _)
        · refine j_ite _ (fun hc13_3 => ?_) (fun hc13_3 => ?_)
          · refine j_swIn (i := 3) (tgt := 109) dX7_does_13 (hc13_3.trans (by decide)) (by decide) rfl rfl ?_
            refine j_aload_n dX7_does_109 rfl rfl ?_
            refine j_grc dX7_does_110 gf_X7_21 oc_57 (Or.inr (by decide)) rf_57_1 ?_
            refine j_iload_n dX7_does_113 rfl rfl ?_
            refine j_iload_n dX7_does_114 rfl rfl ?_
            refine j_cVWv dX7_does_115 im_cNe_join lk_X7_118 rfl (As := [(0, a2), (0, a3)]) (S := []) rfl oc_66.1 ⟨by decide, by decide⟩ (Nat.le_of_ble_eq_true rfl) (fun r hr => cNe_join_ct 66 isNet_66 a2 a3 G hr) (fun G115 _ => ?_)
            refine j_goto (tgt := 137) dX7_does_118 rfl ?_
            refine j_iconst dX7_does_137 r32_1 ?_
            exact j_zreturn (b := true) dX7_does_138 rfl rfl (Nat.zero_le _) (Nat.zero_le _)
          · refine j_ite _ (fun hc13_4 => ?_) (fun hc13_4 => ?_)
            · refine j_swIn (i := 4) (tgt := 121) dX7_does_13 (hc13_4.trans (by decide)) (by decide) rfl rfl ?_
              refine j_aload_n dX7_does_121 rfl rfl ?_
              refine j_grc dX7_does_122 gf_X7_21 oc_57 (Or.inr (by decide)) rf_57_1 ?_
              refine j_iload_n dX7_does_125 rfl rfl ?_
              refine j_iload_n dX7_does_126 rfl rfl ?_
              refine j_cVWv dX7_does_127 im_cNe_part lk_X7_122 rfl (As := [(0, a2), (0, a3)]) (S := []) rfl oc_66.1 ⟨by decide, by decide⟩ (Nat.le_of_ble_eq_true rfl) (fun r hr => cNe_part_ct 66 isNet_66 a2 a3 G hr) (fun G127 _ => ?_)
              refine j_goto (tgt := 137) dX7_does_130 rfl ?_
              refine j_iconst dX7_does_137 r32_1 ?_
              exact j_zreturn (b := true) dX7_does_138 rfl rfl (Nat.zero_le _) (Nat.zero_le _)
            · refine j_swOut (tgt := 133) dX7_does_13 (by omega) rfl ?_
              refine j_aload_n dX7_does_133 rfl rfl ?_
              refine j_cVWv dX7_does_134 im_cSt_print lk_X7_125 rfl (As := []) (S := []) rfl oc_57.1 ⟨by decide, by decide⟩ (Nat.le_of_ble_eq_true rfl) (fun r hr => cSt_print_ct  G hr) (fun G134 _ => ?_)
              refine j_iconst dX7_does_137 r32_1 ?_
              exact j_zreturn (b := true) dX7_does_138 rfl rfl (Nat.zero_le _) (Nat.zero_le _)
  · refine j_iconst dX7_does_10 r32_0 ?_
    exact j_zreturn (b := false) dX7_does_11 rfl rfl (Nat.zero_le _) (Nat.zero_le _)

set_option maxRecDepth 100000 in
theorem cSt_does_ct {l : Launch} {H : Hp} (a1 : Int) (a2 : Int) (a3 : Int) (G : Hp) {r : Bool × Hp} (h : cSt_does a1 a2 a3 G = some r) : Ct l M_cSt_does [(2, 57), (0, a1), (0, a2), (0, a3)] 224 (fu G H) ((KWb (fun g => fu g H)) r) :=
  ct_of_J (by decide +kernel) rfl (Nat.le_of_ble_eq_true rfl) (cSt_does_J a1 a2 a3 G) h
set_option maxRecDepth 100000 in
theorem cSt_run_L8_J {l : Launch} {H : Hp} (a1 : Int) (ha1 : isPaper a1) (a2 : Int) (ha2 : isWeek a2) (a3 : Int) (k81 : Hp → Option (Int × Hp)) (hk81 : ∀ (G_81 : Hp), J l M_cSt_run (KWi (fun g => fu g H)) (k81 G_81) 81 [(9, 0), (9, 0), (2, a2), (0, a3), (9, 0)] [] 224 (fu G_81 H) (0, 0)) : ∀ (n_8 : Nat) (x4_8 : Int) (G_8 : Hp), J l M_cSt_run (KWi (fun g => fu g H)) (cSt_run_L8 a1 a2 a3 k81 n_8 x4_8 G_8) 8 [(2, 57), (9, 0), (2, a2), (0, a3), (0, x4_8)] [] 224 (fu G_8 H) (0, 0) := by
  intro n_8
  induction n_8 with
  | zero =>
    intro x4_8 G_8
    exact j_none
  | succ n_8 ih =>
    intro x4_8 G_8
    rw [cSt_run_L8]
    refine j_iload dX7_run_8 rfl ?_
    refine j_iload_n dX7_run_10 rfl rfl ?_
    refine j_icmp_ge (tgt := 81) dX7_run_11 rfl (fun h11 => ?_) (fun h11 => ?_)
    · refine j_iload dX7_run_14 rfl ?_
      refine j_aload_n dX7_run_16 rfl rfl ?_
      refine j_gic dX7_run_17 gf_X7_70 (oc_week ha2) ?_
      refine j_icmp_ge (tgt := 81) dX7_run_20 rfl (fun h20 => ?_) (fun h20 => ?_)
      · refine j_aload_n dX7_run_23 rfl rfl ?_
        refine j_aload_n dX7_run_24 rfl rfl ?_
        refine j_grc dX7_run_25 gf_X7_75 (oc_week ha2) (Or.inl (by decide)) (rf_week_1 ha2) ?_
        refine j_iload dX7_run_28 rfl ?_
        refine j_gd (fun h30a h30b => ?_)
        refine j_aic dX7_run_30 (oc_week_1 ha2) rfl h30a h30b ?_
        refine j_aload_n dX7_run_31 rfl rfl ?_
        refine j_grc dX7_run_32 gf_X7_78 (oc_week ha2) (Or.inl (by decide)) (rf_week_2 ha2) ?_
        refine j_iload dX7_run_35 rfl ?_
        refine j_gd (fun h37a h37b => ?_)
        refine j_aic dX7_run_37 (oc_week_2 ha2) rfl h37a h37b ?_
        refine j_aload_n dX7_run_38 rfl rfl ?_
        refine j_grc dX7_run_39 gf_X7_81 (oc_week ha2) (Or.inl (by decide)) (rf_week_3 ha2) ?_
        refine j_iload dX7_run_42 rfl ?_
        refine j_gd (fun h44a h44b => ?_)
        refine j_aic dX7_run_44 (oc_week_3 ha2) rfl h44a h44b ?_
        refine j_cVWb dX7_run_45 im_cSt_does lk_X7_84 rfl (As := [(0, G_8 (a2 + 1) x4_8), (0, G_8 (a2 + 2) x4_8), (0, G_8 (a2 + 3) x4_8)]) (S := []) rfl oc_57.1 ⟨by decide, by decide⟩ (Nat.le_of_ble_eq_true rfl) (fun r hr => cSt_does_ct (G_8 (a2 + 1) x4_8) (G_8 (a2 + 2) x4_8) (G_8 (a2 + 3) x4_8) G_8 hr) (fun r45 _ => ?_)
        refine j_ifb_ne (tgt := 54) dX7_run_48 rfl (fun h48 => ?_) (fun h48 => ?_)
        · refine j_aload_n dX7_run_54 rfl rfl ?_
          refine j_gic dX7_run_55 gf_X7_45 oc_57 ?_
          refine j_if_le (tgt := 75) dX7_run_58 rfl (fun h58 => ?_) (fun h58 => ?_)
          · refine j_aload_n dX7_run_61 rfl rfl ?_
            refine j_gic dX7_run_62 gf_X7_54 oc_57 ?_
            refine j_iconst dX7_run_65 r32_m1 ?_
            refine j_icmp_ne (tgt := 75) dX7_run_66 rfl (fun h66 => ?_) (fun h66 => ?_)
            · refine j_aload_n dX7_run_69 rfl rfl ?_
              refine j_iload dX7_run_70 rfl ?_
              refine j_pic dX7_run_72 gf_X7_54 po_7_9 oc_57 (nf_7_9 _) ?_
              refine j_iinc dX7_run_75 rfl (Nat.le_of_ble_eq_true rfl) rfl ?_
              refine j_goto (tgt := 8) dX7_run_78 rfl ?_
              exact j_mask [true, false, true, true, true] rfl (ih (w32 (x4_8 + 1)) (upd2 r45.2 57 9 x4_8))
            · refine j_iinc dX7_run_75 rfl (Nat.le_of_ble_eq_true rfl) rfl ?_
              refine j_goto (tgt := 8) dX7_run_78 rfl ?_
              exact j_mask [true, false, true, true, true] rfl (ih (w32 (x4_8 + 1)) r45.2)
          · refine j_iinc dX7_run_75 rfl (Nat.le_of_ble_eq_true rfl) rfl ?_
            refine j_goto (tgt := 8) dX7_run_78 rfl ?_
            exact j_mask [true, false, true, true, true] rfl (ih (w32 (x4_8 + 1)) r45.2)
        · refine j_iload dX7_run_51 rfl ?_
          exact j_ireturn dX7_run_53 rfl rfl (Nat.zero_le _) (Nat.zero_le _)
      · exact j_mask [false, false, true, true, false] rfl (hk81 G_8)
    · exact j_mask [false, false, true, true, false] rfl (hk81 G_8)

set_option maxRecDepth 100000 in
theorem cSt_run_J {l : Launch} {H : Hp} (a1 : Int) (ha1 : isPaper a1) (a2 : Int) (ha2 : isWeek a2) (a3 : Int) (G : Hp) : J l M_cSt_run (KWi (fun g => fu g H)) (cSt_run a1 a2 a3 G) 0 [(2, 57), (2, a1), (2, a2), (0, a3), (9, 0)] [] 224 (fu G H) (0, 0) := by
  unfold cSt_run
  refine j_aload_n dX7_run_0 rfl rfl ?_
  refine j_aload_n dX7_run_1 rfl rfl ?_
  refine j_cVWv dX7_run_2 im_cSt_begin lk_X7_66 rfl (As := [(2, a1)]) (S := []) rfl oc_57.1 ⟨by decide, by decide⟩ (Nat.le_of_ble_eq_true rfl) (fun r hr => cSt_begin_ct a1 ha1 G hr) (fun G2 _ => ?_)
  refine j_iconst dX7_run_5 r32_0 ?_
  refine j_istore dX7_run_6 (Nat.le_of_ble_eq_true rfl) rfl ?_
  refine j_mask [true, false, true, true, true] rfl (cSt_run_L8_J a1 ha1 a2 ha2 a3 (fun G_81 => some (min a3 (G_81 a2 0), G_81)) (fun G_81 => ?_) FU 0 G2)
  refine j_iload_n dX7_run_81 rfl rfl ?_
  refine j_aload_n dX7_run_82 rfl rfl ?_
  refine j_gic dX7_run_83 gf_X7_70 (oc_week ha2) ?_
  refine j_min dX7_run_86 mm_X7_88 st_min in_Math co_min (Nat.le_of_ble_eq_true rfl) (Nat.le_of_ble_eq_true rfl) (Nat.zero_le _) (Nat.zero_le _) ?_
  exact j_ireturn dX7_run_89 rfl rfl (Nat.zero_le _) (Nat.zero_le _)

set_option maxRecDepth 100000 in
theorem cSt_run_ct {l : Launch} {H : Hp} (a1 : Int) (ha1 : isPaper a1) (a2 : Int) (ha2 : isWeek a2) (a3 : Int) (G : Hp) {r : Int × Hp} (h : cSt_run a1 a2 a3 G = some r) : Ct l M_cSt_run [(2, 57), (2, a1), (2, a2), (0, a3)] 224 (fu G H) ((KWi (fun g => fu g H)) r) :=
  ct_of_J (by decide +kernel) rfl (Nat.le_of_ble_eq_true rfl) (cSt_run_J a1 ha1 a2 ha2 a3 G) h
set_option maxRecDepth 100000 in
theorem cX_stop_J {l : Launch} {H : Hp} (a1 : Int) (a2 : Int) (G : Hp) : J l M_cX_stop (KWi (fun g => fu g H)) (cX_stop a1 a2 G) 0 [(2, 0), (0, a1), (0, a2), (9, 0), (9, 0)] [] 224 (fu G H) (0, 0) := by
  unfold cX_stop
  refine j_aload_n dX10_stop_0 rfl rfl ?_
  refine j_iload_n dX10_stop_1 rfl rfl ?_
  refine j_cVRr dX10_stop_2 im_cX_paperAt lk_X10_124 rfl (As := [(0, a1)]) (S := []) rfl oc_0.1 ⟨by decide, by decide⟩ (Nat.le_of_ble_eq_true rfl) (fun r hr => cX_paperAt_ct a1 G hr) (fun v2 hv2 => ?_)
  refine j_astore_n dX10_stop_5 rfl (Nat.le_of_ble_eq_true rfl) rfl ?_
  refine j_aload_n dX10_stop_6 rfl rfl ?_
  refine j_iload_n dX10_stop_7 rfl rfl ?_
  refine j_cVRr dX10_stop_8 im_cX_weekAt lk_X10_134 rfl (As := [(0, a2)]) (S := []) rfl oc_0.1 ⟨by decide, by decide⟩ (Nat.le_of_ble_eq_true rfl) (fun r hr => cX_weekAt_ct a2 G hr) (fun v8 hv8 => ?_)
  refine j_astore dX10_stop_11 (Nat.le_of_ble_eq_true rfl) rfl ?_
  refine j_aload_n dX10_stop_13 rfl rfl ?_
  refine j_ifnull (tgt := 22) dX10_stop_14 rfl (fun h14 => ?_) (fun h14 => ?_)
  · refine j_iconst dX10_stop_22 r32_m1 ?_
    refine j_goto (tgt := 41) dX10_stop_23 rfl ?_
    exact j_ireturn dX10_stop_41 rfl rfl (Nat.zero_le _) (Nat.zero_le _)
  · refine j_aload dX10_stop_17 rfl ?_
    refine j_ifnonnull (tgt := 26) dX10_stop_19 rfl (fun h19 => ?_) (fun h19 => ?_)
    · refine j_iconst dX10_stop_22 r32_m1 ?_
      refine j_goto (tgt := 41) dX10_stop_23 rfl ?_
      exact j_ireturn dX10_stop_41 rfl rfl (Nat.zero_le _) (Nat.zero_le _)
    · refine j_aload_n dX10_stop_26 rfl rfl ?_
      refine j_grc dX10_stop_27 gf_X10_34 oc_0 (Or.inl (by decide)) rf_0_4 ?_
      refine j_aload_n dX10_stop_30 rfl rfl ?_
      refine j_aload dX10_stop_31 rfl ?_
      refine j_aload dX10_stop_33 rfl ?_
      refine j_gic dX10_stop_35 gf_X10_138 (oc_week (cX_weekAt_ok hv8 h19)) ?_
      refine j_cVWi dX10_stop_38 im_cSt_run lk_X10_166 rfl (As := [(2, v2), (2, v8), (0, G v8 0)]) (S := []) rfl oc_57.1 ⟨by decide, by decide⟩ (Nat.le_of_ble_eq_true rfl) (fun r hr => cSt_run_ct v2 (cX_paperAt_ok hv2 h14) v8 (cX_weekAt_ok hv8 h19) (G v8 0) G hr) (fun r38 _ => ?_)
      exact j_ireturn dX10_stop_41 rfl rfl (Nat.zero_le _) (Nat.zero_le _)

set_option maxRecDepth 100000 in
theorem cX_stop_ct {l : Launch} {H : Hp} (a1 : Int) (a2 : Int) (G : Hp) {r : Int × Hp} (h : cX_stop a1 a2 G = some r) : Ct l M_cX_stop [(2, 0), (0, a1), (0, a2)] 224 (fu G H) ((KWi (fun g => fu g H)) r) :=
  ct_of_J (by decide +kernel) rfl (Nat.le_of_ble_eq_true rfl) (cX_stop_J a1 a2 G) h
set_option maxRecDepth 100000 in
theorem cPa_content_L5_J {l : Launch} {H : Hp} (o : Int) (ho : isPaper o) (a1 : Int) (a2 : Int) (G : Hp) : ∀ (n_5 : Nat) (x3_5 : Int) (x4_5 : Int), J l M_cPa_content (KRi (fu G H)) (cPa_content_L5 o a1 a2 G  n_5 x3_5 x4_5) 5 [(2, o), (0, a1), (0, a2), (0, x3_5), (0, x4_5)] [] 224 (fu G H) (0, 0) := by
  intro n_5
  induction n_5 with
  | zero =>
    intro x3_5 x4_5
    exact j_none
  | succ n_5 ih =>
    intro x3_5 x4_5
    rw [cPa_content_L5]
    refine j_iload dX3_content_5 rfl ?_
    refine j_aload_n dX3_content_7 rfl rfl ?_
    refine j_gic dX3_content_8 gf_X3_32 (oc_paper ho) ?_
    refine j_icmp_ge (tgt := 44) dX3_content_11 rfl (fun h11 => ?_) (fun h11 => ?_)
    · refine j_iload_n dX3_content_14 rfl rfl ?_
      refine j_aload_n dX3_content_15 rfl rfl ?_
      refine j_iload_n dX3_content_16 rfl rfl ?_
      refine j_iload dX3_content_17 rfl ?_
      refine j_cVRi dX3_content_19 im_cPa_wish lk_X3_60 rfl (As := [(0, a1), (0, x4_5)]) (S := [(0, x3_5)]) rfl (oc_paper ho).1 ⟨by decide, by decide⟩ (Nat.le_of_ble_eq_true rfl) (fun r hr => cPa_wish_ct o ho a1 x4_5 G hr) (fun v19 _ => ?_)
      refine j_iload_n dX3_content_22 rfl rfl ?_
      refine j_iload dX3_content_23 rfl ?_
      refine j_cSRip dX3_content_25 sm_cX_wordAt lk_X3_53 rfl (As := [(0, a2), (0, x4_5)]) (S := [(0, v19), (0, x3_5)]) rfl ⟨by decide, by decide⟩ (Nat.le_of_ble_eq_true rfl) (cX_wordAt_ct a2 x4_5) ?_
      refine j_icmp_ne (tgt := 35) dX3_content_28 rfl (fun h28 => ?_) (fun h28 => ?_)
      · refine j_iconst dX3_content_31 r32_1 ?_
        refine j_goto (tgt := 36) dX3_content_32 rfl ?_
        refine j_iadd dX3_content_36 ?_
        refine j_istore_n dX3_content_37 rfl (Nat.le_of_ble_eq_true rfl) rfl ?_
        refine j_iinc dX3_content_38 rfl (Nat.le_of_ble_eq_true rfl) rfl ?_
        refine j_goto (tgt := 5) dX3_content_41 rfl ?_
        exact j_mask [true, true, true, true, true] rfl (ih (w32 (x3_5 + 1)) (w32 (x4_5 + 1)))
      · refine j_iconst dX3_content_35 r32_0 ?_
        refine j_iadd dX3_content_36 ?_
        refine j_istore_n dX3_content_37 rfl (Nat.le_of_ble_eq_true rfl) rfl ?_
        refine j_iinc dX3_content_38 rfl (Nat.le_of_ble_eq_true rfl) rfl ?_
        refine j_goto (tgt := 5) dX3_content_41 rfl ?_
        exact j_mask [true, true, true, true, true] rfl (ih (w32 (x3_5 + 0)) (w32 (x4_5 + 1)))
    · refine j_iload_n dX3_content_44 rfl rfl ?_
      exact j_ireturn dX3_content_45 rfl rfl (Nat.zero_le _) (Nat.zero_le _)

set_option maxRecDepth 100000 in
theorem cPa_content_J {l : Launch} {H : Hp} (o : Int) (ho : isPaper o) (a1 : Int) (a2 : Int) (G : Hp) : J l M_cPa_content (KRi (fu G H)) (cPa_content o a1 a2 G) 0 [(2, o), (0, a1), (0, a2), (9, 0), (9, 0)] [] 224 (fu G H) (0, 0) := by
  unfold cPa_content
  refine j_iconst dX3_content_0 r32_0 ?_
  refine j_istore_n dX3_content_1 rfl (Nat.le_of_ble_eq_true rfl) rfl ?_
  refine j_iconst dX3_content_2 r32_0 ?_
  refine j_istore dX3_content_3 (Nat.le_of_ble_eq_true rfl) rfl ?_
  exact j_mask [true, true, true, true, true] rfl (cPa_content_L5_J o ho a1 a2 G FU 0 0)

set_option maxRecDepth 100000 in
theorem cPa_content_ct {l : Launch} {H : Hp} (o : Int) (ho : isPaper o) (a1 : Int) (a2 : Int) (G : Hp) {r : Int} (h : cPa_content o a1 a2 G = some r) : Ct l M_cPa_content [(2, o), (0, a1), (0, a2)] 224 (fu G H) ((KRi (fu G H)) r) :=
  ct_of_J (by decide +kernel) rfl (Nat.le_of_ble_eq_true rfl) (cPa_content_J o ho a1 a2 G) h
set_option maxRecDepth 100000 in
theorem cSt_tell_J {l : Launch} {H : Hp} (a1 : Int) (G : Hp) : J l M_cSt_tell (KRi (fu G H)) (cSt_tell a1 G) 0 [(2, 57), (0, a1), (9, 0)] [] 224 (fu G H) (0, 0) := by
  unfold cSt_tell
  refine j_iload_n dX7_tell_0 rfl rfl ?_
  refine j_if_ge (tgt := 7) dX7_tell_1 rfl (fun h1 => ?_) (fun h1 => ?_)
  · refine j_bipush dX7_tell_4 r32_m2 bp_m2 ?_
    exact j_ireturn dX7_tell_6 rfl rfl (Nat.zero_le _) (Nat.zero_le _)
  · refine j_iload_n dX7_tell_7 rfl rfl ?_
    refine j_bipush dX7_tell_8 r32_10 bp_10 ?_
    refine j_irem dX7_tell_10 (by decide) ?_
    refine j_istore_n dX7_tell_11 rfl (Nat.le_of_ble_eq_true rfl) rfl ?_
    refine j_iload_n dX7_tell_12 rfl rfl ?_
    refine j_bipush dX7_tell_13 r32_10 bp_10 ?_
    refine j_idiv dX7_tell_15 (by decide) ?_
    refine j_ite _ (fun hc16_0 => ?_) (fun hc16_0 => ?_)
    · refine j_swIn (i := 0) (tgt := 56) dX7_tell_16 (hc16_0.trans (by decide)) (by decide) rfl rfl ?_
      refine j_iload_n dX7_tell_56 rfl rfl ?_
      refine j_if_ne (tgt := 67) dX7_tell_57 rfl (fun h57 => ?_) (fun h57 => ?_)
      · refine j_aload_n dX7_tell_60 rfl rfl ?_
        refine j_gic dX7_tell_61 gf_X7_45 oc_57 ?_
        refine j_goto (tgt := 81) dX7_tell_64 rfl ?_
        exact j_ireturn dX7_tell_81 rfl rfl (Nat.zero_le _) (Nat.zero_le _)
      · refine j_iload_n dX7_tell_67 rfl rfl ?_
        refine j_iconst dX7_tell_68 r32_1 ?_
        refine j_icmp_ne (tgt := 79) dX7_tell_69 rfl (fun h69 => ?_) (fun h69 => ?_)
        · refine j_aload_n dX7_tell_72 rfl rfl ?_
          refine j_gic dX7_tell_73 gf_X7_48 oc_57 ?_
          refine j_goto (tgt := 81) dX7_tell_76 rfl ?_
          exact j_ireturn dX7_tell_81 rfl rfl (Nat.zero_le _) (Nat.zero_le _)
        · refine j_bipush dX7_tell_79 r32_m2 bp_m2 ?_
          exact j_ireturn dX7_tell_81 rfl rfl (Nat.zero_le _) (Nat.zero_le _)
    · refine j_ite _ (fun hc16_1 => ?_) (fun hc16_1 => ?_)
      · refine j_swIn (i := 1) (tgt := 82) dX7_tell_16 (hc16_1.trans (by decide)) (by decide) rfl rfl ?_
        refine j_iload_n dX7_tell_82 rfl rfl ?_
        refine j_aload_n dX7_tell_83 rfl rfl ?_
        refine j_pg (fun hsp84 => ?_)
        refine j_gsp dX7_tell_84 gf_X7_12 oc_57 ?_
        refine j_gic dX7_tell_87 gf_X7_97 (oc_paper hsp84) ?_
        refine j_icmp_ge (tgt := 104) dX7_tell_90 rfl (fun h90 => ?_) (fun h90 => ?_)
        · refine j_aload_n dX7_tell_93 rfl rfl ?_
          refine j_gic dX7_tell_94 gf_X7_44 oc_57 ?_
          refine j_iload_n dX7_tell_97 rfl rfl ?_
          refine j_cSRip dX7_tell_98 sm_cX_wordAt lk_X7_100 rfl (As := [(0, G 57 2), (0, irem a1 10)]) (S := []) rfl ⟨by decide, by decide⟩ (Nat.le_of_ble_eq_true rfl) (cX_wordAt_ct (G 57 2) (irem a1 10)) ?_
          refine j_goto (tgt := 106) dX7_tell_101 rfl ?_
          exact j_ireturn dX7_tell_106 rfl rfl (Nat.zero_le _) (Nat.zero_le _)
        · refine j_bipush dX7_tell_104 r32_m2 bp_m2 ?_
          exact j_ireturn dX7_tell_106 rfl rfl (Nat.zero_le _) (Nat.zero_le _)
      · refine j_ite _ (fun hc16_2 => ?_) (fun hc16_2 => ?_)
        · refine j_swIn (i := 2) (tgt := 107) dX7_tell_16 (hc16_2.trans (by decide)) (by decide) rfl rfl ?_
          refine j_iload_n dX7_tell_107 rfl rfl ?_
          refine j_aload_n dX7_tell_108 rfl rfl ?_
          refine j_pg (fun hsp109 => ?_)
          refine j_gsp dX7_tell_109 gf_X7_12 oc_57 ?_
          refine j_gic dX7_tell_112 gf_X7_97 (oc_paper hsp109) ?_
          refine j_icmp_lt (tgt := 123) dX7_tell_115 rfl (fun h115 => ?_) (fun h115 => ?_)
          · refine j_bipush dX7_tell_118 r32_m2 bp_m2 ?_
            refine j_goto (tgt := 143) dX7_tell_120 rfl ?_
            exact j_ireturn dX7_tell_143 rfl rfl (Nat.zero_le _) (Nat.zero_le _)
          · refine j_aload_n dX7_tell_123 rfl rfl ?_
            refine j_gic dX7_tell_124 gf_X7_48 oc_57 ?_
            refine j_if_ne (tgt := 135) dX7_tell_127 rfl (fun h127 => ?_) (fun h127 => ?_)
            · refine j_bipush dX7_tell_130 r32_10 bp_10 ?_
              refine j_goto (tgt := 143) dX7_tell_132 rfl ?_
              exact j_ireturn dX7_tell_143 rfl rfl (Nat.zero_le _) (Nat.zero_le _)
            · refine j_aload_n dX7_tell_135 rfl rfl ?_
              refine j_gic dX7_tell_136 gf_X7_51 oc_57 ?_
              refine j_iload_n dX7_tell_139 rfl rfl ?_
              refine j_cSRip dX7_tell_140 sm_cX_wordAt lk_X7_100 rfl (As := [(0, G 57 8), (0, irem a1 10)]) (S := []) rfl ⟨by decide, by decide⟩ (Nat.le_of_ble_eq_true rfl) (cX_wordAt_ct (G 57 8) (irem a1 10)) ?_
              exact j_ireturn dX7_tell_143 rfl rfl (Nat.zero_le _) (Nat.zero_le _)
        · refine j_ite _ (fun hc16_3 => ?_) (fun hc16_3 => ?_)
          · refine j_swIn (i := 3) (tgt := 144) dX7_tell_16 (hc16_3.trans (by decide)) (by decide) rfl rfl ?_
            refine j_iload_n dX7_tell_144 rfl rfl ?_
            refine j_aload_n dX7_tell_145 rfl rfl ?_
            refine j_pg (fun hsp146 => ?_)
            refine j_gsp dX7_tell_146 gf_X7_12 oc_57 ?_
            refine j_gic dX7_tell_149 gf_X7_94 (oc_paper hsp146) ?_
            refine j_icmp_ge (tgt := 170) dX7_tell_152 rfl (fun h152 => ?_) (fun h152 => ?_)
            · refine j_aload_n dX7_tell_155 rfl rfl ?_
              refine j_pg (fun hsp156 => ?_)
              refine j_gsp dX7_tell_156 gf_X7_12 oc_57 ?_
              refine j_iload_n dX7_tell_159 rfl rfl ?_
              refine j_aload_n dX7_tell_160 rfl rfl ?_
              refine j_gic dX7_tell_161 gf_X7_44 oc_57 ?_
              refine j_cVRi dX7_tell_164 im_cPa_content lk_X7_141 rfl (As := [(0, irem a1 10), (0, G 57 2)]) (S := []) rfl (oc_paper hsp156).1 ⟨by decide, by decide⟩ (Nat.le_of_ble_eq_true rfl) (fun r hr => cPa_content_ct (G 57 0) hsp156 (irem a1 10) (G 57 2) G hr) (fun v164 _ => ?_)
              refine j_goto (tgt := 172) dX7_tell_167 rfl ?_
              exact j_ireturn dX7_tell_172 rfl rfl (Nat.zero_le _) (Nat.zero_le _)
            · refine j_bipush dX7_tell_170 r32_m2 bp_m2 ?_
              exact j_ireturn dX7_tell_172 rfl rfl (Nat.zero_le _) (Nat.zero_le _)
          · refine j_ite _ (fun hc16_4 => ?_) (fun hc16_4 => ?_)
            · refine j_swIn (i := 4) (tgt := 173) dX7_tell_16 (hc16_4.trans (by decide)) (by decide) rfl rfl ?_
              refine j_iload_n dX7_tell_173 rfl rfl ?_
              refine j_aload_n dX7_tell_174 rfl rfl ?_
              refine j_pg (fun hsp175 => ?_)
              refine j_gsp dX7_tell_175 gf_X7_12 oc_57 ?_
              refine j_gic dX7_tell_178 gf_X7_94 (oc_paper hsp175) ?_
              refine j_icmp_ge (tgt := 193) dX7_tell_181 rfl (fun h181 => ?_) (fun h181 => ?_)
              · refine j_aload_n dX7_tell_184 rfl rfl ?_
                refine j_grc dX7_tell_185 gf_X7_25 oc_57 (Or.inr (by decide)) rf_57_3 ?_
                refine j_iload_n dX7_tell_188 rfl rfl ?_
                refine j_gd (fun h189a h189b => ?_)
                refine j_aic dX7_tell_189 oc_70 rfl h189a h189b ?_
                refine j_goto (tgt := 195) dX7_tell_190 rfl ?_
                exact j_ireturn dX7_tell_195 rfl rfl (Nat.zero_le _) (Nat.zero_le _)
              · refine j_bipush dX7_tell_193 r32_m2 bp_m2 ?_
                exact j_ireturn dX7_tell_195 rfl rfl (Nat.zero_le _) (Nat.zero_le _)
            · refine j_ite _ (fun hc16_5 => ?_) (fun hc16_5 => ?_)
              · refine j_swIn (i := 5) (tgt := 196) dX7_tell_16 (hc16_5.trans (by decide)) (by decide) rfl rfl ?_
                refine j_aload_n dX7_tell_196 rfl rfl ?_
                refine j_grc dX7_tell_197 gf_X7_21 oc_57 (Or.inr (by decide)) rf_57_1 ?_
                refine j_grc dX7_tell_200 gf_X7_144 oc_66 (Or.inl (by decide)) rf_66_0 ?_
                refine j_iload_n dX7_tell_203 rfl rfl ?_
                refine j_gd (fun h204a h204b => ?_)
                refine j_aic dX7_tell_204 oc_67 rfl h204a h204b ?_
                exact j_ireturn dX7_tell_205 rfl rfl (Nat.zero_le _) (Nat.zero_le _)
              · refine j_swOut (tgt := 206) dX7_tell_16 (by omega) rfl ?_
                refine j_bipush dX7_tell_206 r32_m2 bp_m2 ?_
                exact j_ireturn dX7_tell_208 rfl rfl (Nat.zero_le _) (Nat.zero_le _)

set_option maxRecDepth 100000 in
theorem cSt_tell_ct {l : Launch} {H : Hp} (a1 : Int) (G : Hp) {r : Int} (h : cSt_tell a1 G = some r) : Ct l M_cSt_tell [(2, 57), (0, a1)] 224 (fu G H) ((KRi (fu G H)) r) :=
  ct_of_J (by decide +kernel) rfl (Nat.le_of_ble_eq_true rfl) (cSt_tell_J a1 G) h
set_option maxRecDepth 100000 in
theorem cX_state_J {l : Launch} {H : Hp} (a1 : Int) (a2 : Int) (a3 : Int) (a4 : Int) (G : Hp) : J l M_cX_state (KWi (fun g => fu g H)) (cX_state a1 a2 a3 a4 G) 0 [(2, 0), (0, a1), (0, a2), (0, a3), (0, a4), (9, 0), (9, 0)] [] 224 (fu G H) (0, 0) := by
  unfold cX_state
  refine j_aload_n dX10_state_0 rfl rfl ?_
  refine j_iload_n dX10_state_1 rfl rfl ?_
  refine j_cVRr dX10_state_2 im_cX_paperAt lk_X10_124 rfl (As := [(0, a1)]) (S := []) rfl oc_0.1 ⟨by decide, by decide⟩ (Nat.le_of_ble_eq_true rfl) (fun r hr => cX_paperAt_ct a1 G hr) (fun v2 hv2 => ?_)
  refine j_astore dX10_state_5 (Nat.le_of_ble_eq_true rfl) rfl ?_
  refine j_aload_n dX10_state_7 rfl rfl ?_
  refine j_iload_n dX10_state_8 rfl rfl ?_
  refine j_cVRr dX10_state_9 im_cX_weekAt lk_X10_134 rfl (As := [(0, a2)]) (S := []) rfl oc_0.1 ⟨by decide, by decide⟩ (Nat.le_of_ble_eq_true rfl) (fun r hr => cX_weekAt_ct a2 G hr) (fun v9 hv9 => ?_)
  refine j_astore dX10_state_12 (Nat.le_of_ble_eq_true rfl) rfl ?_
  refine j_aload dX10_state_14 rfl ?_
  refine j_ifnull (tgt := 37) dX10_state_16 rfl (fun h16 => ?_) (fun h16 => ?_)
  · refine j_bipush dX10_state_37 r32_m2 bp_m2 ?_
    exact j_ireturn dX10_state_39 rfl rfl (Nat.zero_le _) (Nat.zero_le _)
  · refine j_aload dX10_state_19 rfl ?_
    refine j_ifnull (tgt := 37) dX10_state_21 rfl (fun h21 => ?_) (fun h21 => ?_)
    · refine j_bipush dX10_state_37 r32_m2 bp_m2 ?_
      exact j_ireturn dX10_state_39 rfl rfl (Nat.zero_le _) (Nat.zero_le _)
    · refine j_iload_n dX10_state_24 rfl rfl ?_
      refine j_if_lt (tgt := 37) dX10_state_25 rfl (fun h25 => ?_) (fun h25 => ?_)
      · refine j_bipush dX10_state_37 r32_m2 bp_m2 ?_
        exact j_ireturn dX10_state_39 rfl rfl (Nat.zero_le _) (Nat.zero_le _)
      · refine j_iload_n dX10_state_28 rfl rfl ?_
        refine j_aload dX10_state_29 rfl ?_
        refine j_gic dX10_state_31 gf_X10_138 (oc_week (cX_weekAt_ok hv9 h21)) ?_
        refine j_icmp_le (tgt := 40) dX10_state_34 rfl (fun h34 => ?_) (fun h34 => ?_)
        · refine j_bipush dX10_state_37 r32_m2 bp_m2 ?_
          exact j_ireturn dX10_state_39 rfl rfl (Nat.zero_le _) (Nat.zero_le _)
        · refine j_aload_n dX10_state_40 rfl rfl ?_
          refine j_grc dX10_state_41 gf_X10_34 oc_0 (Or.inl (by decide)) rf_0_4 ?_
          refine j_aload dX10_state_44 rfl ?_
          refine j_aload dX10_state_46 rfl ?_
          refine j_iload_n dX10_state_48 rfl rfl ?_
          refine j_cVWi dX10_state_49 im_cSt_run lk_X10_166 rfl (As := [(2, v2), (2, v9), (0, a3)]) (S := []) rfl oc_57.1 ⟨by decide, by decide⟩ (Nat.le_of_ble_eq_true rfl) (fun r hr => cSt_run_ct v2 (cX_paperAt_ok hv2 h16) v9 (cX_weekAt_ok hv9 h21) a3 G hr) (fun r49 _ => ?_)
          refine j_iload_n dX10_state_52 rfl rfl ?_
          refine j_icmp_ge (tgt := 61) dX10_state_53 rfl (fun h53 => ?_) (fun h53 => ?_)
          · refine j_bipush dX10_state_56 r32_m2 bp_m2 ?_
            refine j_goto (tgt := 70) dX10_state_58 rfl ?_
            exact j_ireturn dX10_state_70 rfl rfl (Nat.zero_le _) (Nat.zero_le _)
          · refine j_aload_n dX10_state_61 rfl rfl ?_
            refine j_grc dX10_state_62 gf_X10_34 oc_0 (Or.inl (by decide)) rf_0_4 ?_
            refine j_iload dX10_state_65 rfl ?_
            refine j_cVRi dX10_state_67 im_cSt_tell lk_X10_170 rfl (As := [(0, a4)]) (S := []) rfl oc_57.1 ⟨by decide, by decide⟩ (Nat.le_of_ble_eq_true rfl) (fun r hr => cSt_tell_ct a4 r49.2 hr) (fun v67 _ => ?_)
            exact j_ireturn dX10_state_70 rfl rfl (Nat.zero_le _) (Nat.zero_le _)

set_option maxRecDepth 100000 in
theorem cX_state_ct {l : Launch} {H : Hp} (a1 : Int) (a2 : Int) (a3 : Int) (a4 : Int) (G : Hp) {r : Int × Hp} (h : cX_state a1 a2 a3 a4 G = some r) : Ct l M_cX_state [(2, 0), (0, a1), (0, a2), (0, a3), (0, a4)] 224 (fu G H) ((KWi (fun g => fu g H)) r) :=
  ct_of_J (by decide +kernel) rfl (Nat.le_of_ble_eq_true rfl) (cX_state_J a1 a2 a3 a4 G) h
set_option maxRecDepth 100000 in
theorem cSt_busiest_L4_J {l : Launch} {H : Hp} (G : Hp) : ∀ (n_4 : Nat) (x1_4 : Int) (x2_4 : Int), J l M_cSt_busiest (KRi (fu G H)) (cSt_busiest_L4 G  n_4 x1_4 x2_4) 4 [(2, 57), (0, x1_4), (0, x2_4)] [] 224 (fu G H) (0, 0) := by
  intro n_4
  induction n_4 with
  | zero =>
    intro x1_4 x2_4
    exact j_none
  | succ n_4 ih =>
    intro x1_4 x2_4
    rw [cSt_busiest_L4]
    refine j_iload_n dX7_busiest_4 rfl rfl ?_
    refine j_aload_n dX7_busiest_5 rfl rfl ?_
    refine j_pg (fun hsp6 => ?_)
    refine j_gsp dX7_busiest_6 gf_X7_12 oc_57 ?_
    refine j_gic dX7_busiest_9 gf_X7_94 (oc_paper hsp6) ?_
    refine j_icmp_ge (tgt := 52) dX7_busiest_12 rfl (fun h12 => ?_) (fun h12 => ?_)
    · refine j_aload_n dX7_busiest_15 rfl rfl ?_
      refine j_grc dX7_busiest_16 gf_X7_29 oc_57 (Or.inr (by decide)) rf_57_4 ?_
      refine j_iload_n dX7_busiest_19 rfl rfl ?_
      refine j_gd (fun h20a h20b => ?_)
      refine j_aic dX7_busiest_20 oc_71 rfl h20a h20b ?_
      refine j_if_le (tgt := 46) dX7_busiest_21 rfl (fun h21 => ?_) (fun h21 => ?_)
      · refine j_iload_n dX7_busiest_24 rfl rfl ?_
        refine j_iconst dX7_busiest_25 r32_m1 ?_
        refine j_icmp_eq (tgt := 44) dX7_busiest_26 rfl (fun h26 => ?_) (fun h26 => ?_)
        · refine j_iload_n dX7_busiest_44 rfl rfl ?_
          refine j_istore_n dX7_busiest_45 rfl (Nat.le_of_ble_eq_true rfl) rfl ?_
          refine j_iinc dX7_busiest_46 rfl (Nat.le_of_ble_eq_true rfl) rfl ?_
          refine j_goto (tgt := 4) dX7_busiest_49 rfl ?_
          exact j_mask [true, true, true] rfl (ih x2_4 (w32 (x2_4 + 1)))
        · refine j_aload_n dX7_busiest_29 rfl rfl ?_
          refine j_grc dX7_busiest_30 gf_X7_29 oc_57 (Or.inr (by decide)) rf_57_4 ?_
          refine j_iload_n dX7_busiest_33 rfl rfl ?_
          refine j_gd (fun h34a h34b => ?_)
          refine j_aic dX7_busiest_34 oc_71 rfl h34a h34b ?_
          refine j_aload_n dX7_busiest_35 rfl rfl ?_
          refine j_grc dX7_busiest_36 gf_X7_29 oc_57 (Or.inr (by decide)) rf_57_4 ?_
          refine j_iload_n dX7_busiest_39 rfl rfl ?_
          refine j_gd (fun h40a h40b => ?_)
          refine j_aic dX7_busiest_40 oc_71 rfl h40a h40b ?_
          refine j_icmp_le (tgt := 46) dX7_busiest_41 rfl (fun h41 => ?_) (fun h41 => ?_)
          · refine j_iload_n dX7_busiest_44 rfl rfl ?_
            refine j_istore_n dX7_busiest_45 rfl (Nat.le_of_ble_eq_true rfl) rfl ?_
            refine j_iinc dX7_busiest_46 rfl (Nat.le_of_ble_eq_true rfl) rfl ?_
            refine j_goto (tgt := 4) dX7_busiest_49 rfl ?_
            exact j_mask [true, true, true] rfl (ih x2_4 (w32 (x2_4 + 1)))
          · refine j_iinc dX7_busiest_46 rfl (Nat.le_of_ble_eq_true rfl) rfl ?_
            refine j_goto (tgt := 4) dX7_busiest_49 rfl ?_
            exact j_mask [true, true, true] rfl (ih x1_4 (w32 (x2_4 + 1)))
      · refine j_iinc dX7_busiest_46 rfl (Nat.le_of_ble_eq_true rfl) rfl ?_
        refine j_goto (tgt := 4) dX7_busiest_49 rfl ?_
        exact j_mask [true, true, true] rfl (ih x1_4 (w32 (x2_4 + 1)))
    · refine j_iload_n dX7_busiest_52 rfl rfl ?_
      exact j_ireturn dX7_busiest_53 rfl rfl (Nat.zero_le _) (Nat.zero_le _)

set_option maxRecDepth 100000 in
theorem cSt_busiest_J {l : Launch} {H : Hp} (G : Hp) : J l M_cSt_busiest (KRi (fu G H)) (cSt_busiest  G) 0 [(2, 57), (9, 0), (9, 0)] [] 224 (fu G H) (0, 0) := by
  unfold cSt_busiest
  refine j_iconst dX7_busiest_0 r32_m1 ?_
  refine j_istore_n dX7_busiest_1 rfl (Nat.le_of_ble_eq_true rfl) rfl ?_
  refine j_iconst dX7_busiest_2 r32_0 ?_
  refine j_istore_n dX7_busiest_3 rfl (Nat.le_of_ble_eq_true rfl) rfl ?_
  exact j_mask [true, true, true] rfl (cSt_busiest_L4_J G FU (-1) 0)

set_option maxRecDepth 100000 in
theorem cSt_busiest_ct {l : Launch} {H : Hp} (G : Hp) {r : Int} (h : cSt_busiest  G = some r) : Ct l M_cSt_busiest [(2, 57)] 224 (fu G H) ((KRi (fu G H)) r) :=
  ct_of_J (by decide +kernel) rfl (Nat.le_of_ble_eq_true rfl) (cSt_busiest_J  G) h
set_option maxRecDepth 100000 in
theorem cX_after_J {l : Launch} {H : Hp} (a1 : Int) (a2 : Int) (a3 : Int) (G : Hp) : J l M_cX_after (KWi (fun g => fu g H)) (cX_after a1 a2 a3 G) 0 [(2, 0), (0, a1), (0, a2), (0, a3), (9, 0), (9, 0)] [] 224 (fu G H) (0, 0) := by
  unfold cX_after
  refine j_aload_n dX10_after_0 rfl rfl ?_
  refine j_iload_n dX10_after_1 rfl rfl ?_
  refine j_cVRr dX10_after_2 im_cX_paperAt lk_X10_124 rfl (As := [(0, a1)]) (S := []) rfl oc_0.1 ⟨by decide, by decide⟩ (Nat.le_of_ble_eq_true rfl) (fun r hr => cX_paperAt_ct a1 G hr) (fun v2 hv2 => ?_)
  refine j_astore dX10_after_5 (Nat.le_of_ble_eq_true rfl) rfl ?_
  refine j_aload_n dX10_after_7 rfl rfl ?_
  refine j_iload_n dX10_after_8 rfl rfl ?_
  refine j_cVRr dX10_after_9 im_cX_weekAt lk_X10_134 rfl (As := [(0, a2)]) (S := []) rfl oc_0.1 ⟨by decide, by decide⟩ (Nat.le_of_ble_eq_true rfl) (fun r hr => cX_weekAt_ct a2 G hr) (fun v9 hv9 => ?_)
  refine j_astore dX10_after_12 (Nat.le_of_ble_eq_true rfl) rfl ?_
  refine j_aload dX10_after_14 rfl ?_
  refine j_ifnull (tgt := 24) dX10_after_16 rfl (fun h16 => ?_) (fun h16 => ?_)
  · refine j_bipush dX10_after_24 r32_m2 bp_m2 ?_
    exact j_ireturn dX10_after_26 rfl rfl (Nat.zero_le _) (Nat.zero_le _)
  · refine j_aload dX10_after_19 rfl ?_
    refine j_ifnonnull (tgt := 27) dX10_after_21 rfl (fun h21 => ?_) (fun h21 => ?_)
    · refine j_bipush dX10_after_24 r32_m2 bp_m2 ?_
      exact j_ireturn dX10_after_26 rfl rfl (Nat.zero_le _) (Nat.zero_le _)
    · refine j_aload_n dX10_after_27 rfl rfl ?_
      refine j_grc dX10_after_28 gf_X10_34 oc_0 (Or.inl (by decide)) rf_0_4 ?_
      refine j_aload dX10_after_31 rfl ?_
      refine j_aload dX10_after_33 rfl ?_
      refine j_aload dX10_after_35 rfl ?_
      refine j_gic dX10_after_37 gf_X10_138 (oc_week (cX_weekAt_ok hv9 h21)) ?_
      refine j_cVWi dX10_after_40 im_cSt_run lk_X10_166 rfl (As := [(2, v2), (2, v9), (0, G v9 0)]) (S := []) rfl oc_57.1 ⟨by decide, by decide⟩ (Nat.le_of_ble_eq_true rfl) (fun r hr => cSt_run_ct v2 (cX_paperAt_ok hv2 h16) v9 (cX_weekAt_ok hv9 h21) (G v9 0) G hr) (fun r40 _ => ?_)
      refine j_pop dX10_after_43 (by decide) ?_
      refine j_iload_n dX10_after_44 rfl rfl ?_
      refine j_ite _ (fun hc45_0 => ?_) (fun hc45_0 => ?_)
      · refine j_swIn (i := 0) (tgt := 80) dX10_after_45 (hc45_0.trans (by decide)) (by decide) rfl rfl ?_
        refine j_aload_n dX10_after_80 rfl rfl ?_
        refine j_grc dX10_after_81 gf_X10_34 oc_0 (Or.inl (by decide)) rf_0_4 ?_
        refine j_gic dX10_after_84 gf_X10_171 oc_57 ?_
        exact j_ireturn dX10_after_87 rfl rfl (Nat.zero_le _) (Nat.zero_le _)
      · refine j_ite _ (fun hc45_1 => ?_) (fun hc45_1 => ?_)
        · refine j_swIn (i := 1) (tgt := 88) dX10_after_45 (hc45_1.trans (by decide)) (by decide) rfl rfl ?_
          refine j_aload_n dX10_after_88 rfl rfl ?_
          refine j_grc dX10_after_89 gf_X10_34 oc_0 (Or.inl (by decide)) rf_0_4 ?_
          refine j_cVRi dX10_after_92 im_cSt_busiest lk_X10_174 rfl (As := []) (S := []) rfl oc_57.1 ⟨by decide, by decide⟩ (Nat.le_of_ble_eq_true rfl) (fun r hr => cSt_busiest_ct  r40.2 hr) (fun v92 _ => ?_)
          exact j_ireturn dX10_after_95 rfl rfl (Nat.zero_le _) (Nat.zero_le _)
        · refine j_ite _ (fun hc45_2 => ?_) (fun hc45_2 => ?_)
          · refine j_swIn (i := 2) (tgt := 96) dX10_after_45 (hc45_2.trans (by decide)) (by decide) rfl rfl ?_
            refine j_aload_n dX10_after_96 rfl rfl ?_
            refine j_grc dX10_after_97 gf_X10_34 oc_0 (Or.inl (by decide)) rf_0_4 ?_
            refine j_gic dX10_after_100 gf_X10_178 oc_57 ?_
            exact j_ireturn dX10_after_103 rfl rfl (Nat.zero_le _) (Nat.zero_le _)
          · refine j_ite _ (fun hc45_3 => ?_) (fun hc45_3 => ?_)
            · refine j_swIn (i := 3) (tgt := 104) dX10_after_45 (hc45_3.trans (by decide)) (by decide) rfl rfl ?_
              refine j_aload_n dX10_after_104 rfl rfl ?_
              refine j_grc dX10_after_105 gf_X10_34 oc_0 (Or.inl (by decide)) rf_0_4 ?_
              refine j_gic dX10_after_108 gf_X10_181 oc_57 ?_
              exact j_ireturn dX10_after_111 rfl rfl (Nat.zero_le _) (Nat.zero_le _)
            · refine j_ite _ (fun hc45_4 => ?_) (fun hc45_4 => ?_)
              · refine j_swIn (i := 4) (tgt := 112) dX10_after_45 (hc45_4.trans (by decide)) (by decide) rfl rfl ?_
                refine j_aload_n dX10_after_112 rfl rfl ?_
                refine j_grc dX10_after_113 gf_X10_34 oc_0 (Or.inl (by decide)) rf_0_4 ?_
                refine j_gic dX10_after_116 gf_X10_184 oc_57 ?_
                exact j_ireturn dX10_after_119 rfl rfl (Nat.zero_le _) (Nat.zero_le _)
              · refine j_swOut (tgt := 120) dX10_after_45 (by omega) rfl ?_
                refine j_bipush dX10_after_120 r32_m2 bp_m2 ?_
                exact j_ireturn dX10_after_122 rfl rfl (Nat.zero_le _) (Nat.zero_le _)

set_option maxRecDepth 100000 in
theorem cX_after_ct {l : Launch} {H : Hp} (a1 : Int) (a2 : Int) (a3 : Int) (G : Hp) {r : Int × Hp} (h : cX_after a1 a2 a3 G = some r) : Ct l M_cX_after [(2, 0), (0, a1), (0, a2), (0, a3)] 224 (fu G H) ((KWi (fun g => fu g H)) r) :=
  ct_of_J (by decide +kernel) rfl (Nat.le_of_ble_eq_true rfl) (cX_after_J a1 a2 a3 G) h
set_option maxRecDepth 100000 in
theorem cLo_below_J {l : Launch} {H : Hp} (a1 : Int) (G : Hp) : J l M_cLo_below (KWi (fun g => fu g H)) (cLo_below a1 G) 0 [(2, 73), (0, a1)] [] 224 (fu G H) (0, 0) := by
  unfold cLo_below
  refine j_aload_n dX1_below_0 rfl rfl ?_
  refine j_aload_n dX1_below_1 rfl rfl ?_
  refine j_gic dX1_below_2 gf_X1_22 oc_73 ?_
  refine j_ldc dX1_below_5 cs_X1_41 r32_1103515245 ?_
  refine j_imul dX1_below_7 ?_
  refine j_sipush dX1_below_8 r32_12345 sp_12345 ?_
  refine j_iadd dX1_below_11 ?_
  refine j_pic dX1_below_12 gf_X1_22 po_1_1 oc_73 (nf_1_1 _) ?_
  refine j_iload_n dX1_below_15 rfl rfl ?_
  refine j_if_le (tgt := 31) dX1_below_16 rfl (fun h16 => ?_) (fun h16 => ?_)
  · refine j_aload_n dX1_below_19 rfl rfl ?_
    refine j_gic dX1_below_20 gf_X1_22 oc_73 ?_
    refine j_bipush dX1_below_23 r32_16 bp_16 ?_
    refine j_iushr dX1_below_25 ?_
    refine j_iload_n dX1_below_26 rfl rfl ?_
    refine j_nz (fun hz27 => ?_)
    refine j_irem dX1_below_27 hz27 ?_
    refine j_goto (tgt := 32) dX1_below_28 rfl ?_
    exact j_ireturn dX1_below_32 rfl rfl (Nat.zero_le _) (Nat.zero_le _)
  · refine j_iconst dX1_below_31 r32_0 ?_
    exact j_ireturn dX1_below_32 rfl rfl (Nat.zero_le _) (Nat.zero_le _)

set_option maxRecDepth 100000 in
theorem cLo_below_ct {l : Launch} {H : Hp} (a1 : Int) (G : Hp) {r : Int × Hp} (h : cLo_below a1 G = some r) : Ct l M_cLo_below [(2, 73), (0, a1)] 224 (fu G H) ((KWi (fun g => fu g H)) r) :=
  ct_of_J (by decide +kernel) rfl (Nat.le_of_ble_eq_true rfl) (cLo_below_J a1 G) h
set_option maxRecDepth 100000 in
theorem cLo_drawDeed_j129_J {l : Launch} {H : Hp} (a1 : Int) (a2 : Int) (a3 : Int) (x4_129 : Int) (s0_129 : Int) (G_129 : Hp) : J l M_cLo_drawDeed (KWv (fun g => fu g H)) (cLo_drawDeed_j129 a1 a2 a3  x4_129 s0_129 G_129) 129 [(2, 73), (9, 0), (9, 0), (9, 0), (0, x4_129)] [(0, s0_129), (2, 74)] 224 (fu G_129 H) (0, 0) := by
  unfold cLo_drawDeed_j129
  refine j_iload dX1_drawDeed_129 rfl ?_
  refine j_iload dX1_drawDeed_131 rfl ?_
  refine j_iconst dX1_drawDeed_133 r32_1 ?_
  refine j_iadd dX1_drawDeed_134 ?_
  refine j_aload_n dX1_drawDeed_135 rfl rfl ?_
  refine j_bipush dX1_drawDeed_136 r32_9 bp_9 ?_
  refine j_cVWi dX1_drawDeed_138 im_cLo_below lk_X1_33 rfl (As := [(0, 9)]) (S := [(0, w32 (x4_129 + 1)), (0, x4_129), (0, s0_129), (2, 74)]) rfl oc_73.1 ⟨by decide, by decide⟩ (Nat.le_of_ble_eq_true rfl) (fun r hr => cLo_below_ct 9 G_129 hr) (fun r138 _ => ?_)
  refine j_iadd dX1_drawDeed_141 ?_
  refine j_bipush dX1_drawDeed_142 r32_10 bp_10 ?_
  refine j_irem dX1_drawDeed_144 (by decide) ?_
  refine j_cVWv dX1_drawDeed_145 im_cWe_add lk_X1_42 rfl (As := [(0, s0_129), (0, x4_129), (0, irem (w32 ((w32 (x4_129 + 1)) + r138.1)) 10)]) (S := []) rfl oc_74.1 ⟨by decide, by decide⟩ (Nat.le_of_ble_eq_true rfl) (fun r hr => cWe_add_ct 74 isWeek_74 s0_129 x4_129 (irem (w32 ((w32 (x4_129 + 1)) + r138.1)) 10) r138.2 hr) (fun G145 _ => ?_)
  refine j_goto (tgt := 161) dX1_drawDeed_148 rfl ?_
  exact j_return dX1_drawDeed_161 rfl rfl (Nat.zero_le _) (Nat.zero_le _)

set_option maxRecDepth 100000 in
theorem cLo_drawDeed_J {l : Launch} {H : Hp} (a1 : Int) (a2 : Int) (a3 : Int) (G : Hp) : J l M_cLo_drawDeed (KWv (fun g => fu g H)) (cLo_drawDeed a1 a2 a3 G) 0 [(2, 73), (0, a1), (0, a2), (0, a3), (9, 0)] [] 224 (fu G H) (0, 0) := by
  unfold cLo_drawDeed
  refine j_iload_n dX1_drawDeed_0 rfl rfl ?_
  refine j_iconst dX1_drawDeed_1 r32_3 ?_
  refine j_icmp_gt (tgt := 26) dX1_drawDeed_2 rfl (fun h2 => ?_) (fun h2 => ?_)
  · refine j_iload_n dX1_drawDeed_5 rfl rfl ?_
    refine j_if_le (tgt := 161) dX1_drawDeed_6 rfl (fun h6 => ?_) (fun h6 => ?_)
    · refine j_aload_n dX1_drawDeed_9 rfl rfl ?_
      refine j_grc dX1_drawDeed_10 gf_X1_12 oc_73 (Or.inl (by decide)) rf_73_0 ?_
      refine j_iconst dX1_drawDeed_13 r32_0 ?_
      refine j_aload_n dX1_drawDeed_14 rfl rfl ?_
      refine j_iload_n dX1_drawDeed_15 rfl rfl ?_
      refine j_cVWi dX1_drawDeed_16 im_cLo_below lk_X1_33 rfl (As := [(0, a1)]) (S := [(0, 0), (2, 74)]) rfl oc_73.1 ⟨by decide, by decide⟩ (Nat.le_of_ble_eq_true rfl) (fun r hr => cLo_below_ct a1 G hr) (fun r16 _ => ?_)
      refine j_iconst dX1_drawDeed_19 r32_m1 ?_
      refine j_cVWv dX1_drawDeed_20 im_cWe_add lk_X1_42 rfl (As := [(0, 0), (0, r16.1), (0, (-1))]) (S := []) rfl oc_74.1 ⟨by decide, by decide⟩ (Nat.le_of_ble_eq_true rfl) (fun r hr => cWe_add_ct 74 isWeek_74 0 r16.1 (-1) r16.2 hr) (fun G20 _ => ?_)
      refine j_goto (tgt := 161) dX1_drawDeed_23 rfl ?_
      exact j_return dX1_drawDeed_161 rfl rfl (Nat.zero_le _) (Nat.zero_le _)
    · exact j_return dX1_drawDeed_161 rfl rfl (Nat.zero_le _) (Nat.zero_le _)
  · refine j_iload_n dX1_drawDeed_26 rfl rfl ?_
    refine j_iconst dX1_drawDeed_27 r32_5 ?_
    refine j_icmp_gt (tgt := 61) dX1_drawDeed_28 rfl (fun h28 => ?_) (fun h28 => ?_)
    · refine j_iload_n dX1_drawDeed_31 rfl rfl ?_
      refine j_if_le (tgt := 161) dX1_drawDeed_32 rfl (fun h32 => ?_) (fun h32 => ?_)
      · refine j_aload_n dX1_drawDeed_35 rfl rfl ?_
        refine j_iload_n dX1_drawDeed_36 rfl rfl ?_
        refine j_cVWi dX1_drawDeed_37 im_cLo_below lk_X1_33 rfl (As := [(0, a2)]) (S := []) rfl oc_73.1 ⟨by decide, by decide⟩ (Nat.le_of_ble_eq_true rfl) (fun r hr => cLo_below_ct a2 G hr) (fun r37 _ => ?_)
        refine j_istore dX1_drawDeed_40 (Nat.le_of_ble_eq_true rfl) rfl ?_
        refine j_aload_n dX1_drawDeed_42 rfl rfl ?_
        refine j_grc dX1_drawDeed_43 gf_X1_12 oc_73 (Or.inl (by decide)) rf_73_0 ?_
        refine j_iconst dX1_drawDeed_46 r32_1 ?_
        refine j_iload dX1_drawDeed_47 rfl ?_
        refine j_aload_n dX1_drawDeed_49 rfl rfl ?_
        refine j_bipush dX1_drawDeed_50 r32_10 bp_10 ?_
        refine j_cVWi dX1_drawDeed_52 im_cLo_below lk_X1_33 rfl (As := [(0, 10)]) (S := [(0, r37.1), (0, 1), (2, 74)]) rfl oc_73.1 ⟨by decide, by decide⟩ (Nat.le_of_ble_eq_true rfl) (fun r hr => cLo_below_ct 10 r37.2 hr) (fun r52 _ => ?_)
        refine j_cVWv dX1_drawDeed_55 im_cWe_add lk_X1_42 rfl (As := [(0, 1), (0, r37.1), (0, r52.1)]) (S := []) rfl oc_74.1 ⟨by decide, by decide⟩ (Nat.le_of_ble_eq_true rfl) (fun r hr => cWe_add_ct 74 isWeek_74 1 r37.1 r52.1 r52.2 hr) (fun G55 _ => ?_)
        refine j_goto (tgt := 161) dX1_drawDeed_58 rfl ?_
        exact j_return dX1_drawDeed_161 rfl rfl (Nat.zero_le _) (Nat.zero_le _)
      · exact j_return dX1_drawDeed_161 rfl rfl (Nat.zero_le _) (Nat.zero_le _)
    · refine j_iload_n dX1_drawDeed_61 rfl rfl ?_
      refine j_bipush dX1_drawDeed_62 r32_6 bp_6 ?_
      refine j_icmp_ne (tgt := 100) dX1_drawDeed_64 rfl (fun h64 => ?_) (fun h64 => ?_)
      · refine j_iload_n dX1_drawDeed_67 rfl rfl ?_
        refine j_if_le (tgt := 161) dX1_drawDeed_68 rfl (fun h68 => ?_) (fun h68 => ?_)
        · refine j_iload_n dX1_drawDeed_71 rfl rfl ?_
          refine j_if_le (tgt := 161) dX1_drawDeed_72 rfl (fun h72 => ?_) (fun h72 => ?_)
          · refine j_aload_n dX1_drawDeed_75 rfl rfl ?_
            refine j_iload_n dX1_drawDeed_76 rfl rfl ?_
            refine j_cVWi dX1_drawDeed_77 im_cLo_below lk_X1_33 rfl (As := [(0, a1)]) (S := []) rfl oc_73.1 ⟨by decide, by decide⟩ (Nat.le_of_ble_eq_true rfl) (fun r hr => cLo_below_ct a1 G hr) (fun r77 _ => ?_)
            refine j_istore dX1_drawDeed_80 (Nat.le_of_ble_eq_true rfl) rfl ?_
            refine j_aload_n dX1_drawDeed_82 rfl rfl ?_
            refine j_grc dX1_drawDeed_83 gf_X1_12 oc_73 (Or.inl (by decide)) rf_73_0 ?_
            refine j_iconst dX1_drawDeed_86 r32_2 ?_
            refine j_iload dX1_drawDeed_87 rfl ?_
            refine j_aload_n dX1_drawDeed_89 rfl rfl ?_
            refine j_iload_n dX1_drawDeed_90 rfl rfl ?_
            refine j_cVWi dX1_drawDeed_91 im_cLo_below lk_X1_33 rfl (As := [(0, a2)]) (S := [(0, r77.1), (0, 2), (2, 74)]) rfl oc_73.1 ⟨by decide, by decide⟩ (Nat.le_of_ble_eq_true rfl) (fun r hr => cLo_below_ct a2 r77.2 hr) (fun r91 _ => ?_)
            refine j_cVWv dX1_drawDeed_94 im_cWe_add lk_X1_42 rfl (As := [(0, 2), (0, r77.1), (0, r91.1)]) (S := []) rfl oc_74.1 ⟨by decide, by decide⟩ (Nat.le_of_ble_eq_true rfl) (fun r hr => cWe_add_ct 74 isWeek_74 2 r77.1 r91.1 r91.2 hr) (fun G94 _ => ?_)
            refine j_goto (tgt := 161) dX1_drawDeed_97 rfl ?_
            exact j_return dX1_drawDeed_161 rfl rfl (Nat.zero_le _) (Nat.zero_le _)
          · exact j_return dX1_drawDeed_161 rfl rfl (Nat.zero_le _) (Nat.zero_le _)
        · exact j_return dX1_drawDeed_161 rfl rfl (Nat.zero_le _) (Nat.zero_le _)
      · refine j_iload_n dX1_drawDeed_100 rfl rfl ?_
        refine j_bipush dX1_drawDeed_101 r32_8 bp_8 ?_
        refine j_icmp_gt (tgt := 151) dX1_drawDeed_103 rfl (fun h103 => ?_) (fun h103 => ?_)
        · refine j_aload_n dX1_drawDeed_106 rfl rfl ?_
          refine j_bipush dX1_drawDeed_107 r32_10 bp_10 ?_
          refine j_cVWi dX1_drawDeed_109 im_cLo_below lk_X1_33 rfl (As := [(0, 10)]) (S := []) rfl oc_73.1 ⟨by decide, by decide⟩ (Nat.le_of_ble_eq_true rfl) (fun r hr => cLo_below_ct 10 G hr) (fun r109 _ => ?_)
          refine j_istore dX1_drawDeed_112 (Nat.le_of_ble_eq_true rfl) rfl ?_
          refine j_aload_n dX1_drawDeed_114 rfl rfl ?_
          refine j_grc dX1_drawDeed_115 gf_X1_12 oc_73 (Or.inl (by decide)) rf_73_0 ?_
          refine j_iload_n dX1_drawDeed_118 rfl rfl ?_
          refine j_bipush dX1_drawDeed_119 r32_7 bp_7 ?_
          refine j_icmp_ne (tgt := 128) dX1_drawDeed_121 rfl (fun h121 => ?_) (fun h121 => ?_)
          · refine j_iconst dX1_drawDeed_124 r32_3 ?_
            refine j_goto (tgt := 129) dX1_drawDeed_125 rfl ?_
            exact j_mask [true, false, false, false, true] rfl (cLo_drawDeed_j129_J a1 a2 a3 r109.1 3 r109.2)
          · refine j_iconst dX1_drawDeed_128 r32_4 ?_
            exact j_mask [true, false, false, false, true] rfl (cLo_drawDeed_j129_J a1 a2 a3 r109.1 4 r109.2)
        · refine j_aload_n dX1_drawDeed_151 rfl rfl ?_
          refine j_grc dX1_drawDeed_152 gf_X1_12 oc_73 (Or.inl (by decide)) rf_73_0 ?_
          refine j_iconst dX1_drawDeed_155 r32_5 ?_
          refine j_iconst dX1_drawDeed_156 r32_m1 ?_
          refine j_iconst dX1_drawDeed_157 r32_m1 ?_
          refine j_cVWv dX1_drawDeed_158 im_cWe_add lk_X1_42 rfl (As := [(0, 5), (0, (-1)), (0, (-1))]) (S := []) rfl oc_74.1 ⟨by decide, by decide⟩ (Nat.le_of_ble_eq_true rfl) (fun r hr => cWe_add_ct 74 isWeek_74 5 (-1) (-1) G hr) (fun G158 _ => ?_)
          exact j_return dX1_drawDeed_161 rfl rfl (Nat.zero_le _) (Nat.zero_le _)

set_option maxRecDepth 100000 in
theorem cLo_drawDeed_ct {l : Launch} {H : Hp} (a1 : Int) (a2 : Int) (a3 : Int) (G : Hp) {r : Hp} (h : cLo_drawDeed a1 a2 a3 G = some r) : Ct l M_cLo_drawDeed [(2, 73), (0, a1), (0, a2), (0, a3)] 224 (fu G H) ((KWv (fun g => fu g H)) r) :=
  ct_of_J (by decide +kernel) rfl (Nat.le_of_ble_eq_true rfl) (cLo_drawDeed_J a1 a2 a3 G) h
set_option maxRecDepth 100000 in
theorem cLo_draw_L16_J {l : Launch} {H : Hp} (a1 : Int) (ha1 : isPaper a1) (a2 : Int) (a3 : Int) : ∀ (n_16 : Nat) (x4_16 : Int) (G_16 : Hp), J l M_cLo_draw (KWv (fun g => fu g H)) (cLo_draw_L16 a1 a2 a3  n_16 x4_16 G_16) 16 [(2, 73), (2, a1), (9, 0), (0, a3), (0, x4_16)] [] 224 (fu G_16 H) (0, 0) := by
  intro n_16
  induction n_16 with
  | zero =>
    intro x4_16 G_16
    exact j_none
  | succ n_16 ih =>
    intro x4_16 G_16
    rw [cLo_draw_L16]
    refine j_iload dX1_draw_16 rfl ?_
    refine j_iload_n dX1_draw_18 rfl rfl ?_
    refine j_icmp_ge (tgt := 46) dX1_draw_19 rfl (fun h19 => ?_) (fun h19 => ?_)
    · refine j_aload_n dX1_draw_22 rfl rfl ?_
      refine j_aload_n dX1_draw_23 rfl rfl ?_
      refine j_gic dX1_draw_24 gf_X1_25 (oc_paper ha1) ?_
      refine j_aload_n dX1_draw_27 rfl rfl ?_
      refine j_gic dX1_draw_28 gf_X1_30 (oc_paper ha1) ?_
      refine j_aload_n dX1_draw_31 rfl rfl ?_
      refine j_bipush dX1_draw_32 r32_10 bp_10 ?_
      refine j_cVWi dX1_draw_34 im_cLo_below lk_X1_33 rfl (As := [(0, 10)]) (S := [(0, G_16 a1 1), (0, G_16 a1 2), (2, 73)]) rfl oc_73.1 ⟨by decide, by decide⟩ (Nat.le_of_ble_eq_true rfl) (fun r hr => cLo_below_ct 10 G_16 hr) (fun r34 _ => ?_)
      refine j_cVWv dX1_draw_37 im_cLo_drawDeed lk_X1_37 rfl (As := [(0, G_16 a1 2), (0, G_16 a1 1), (0, r34.1)]) (S := []) rfl oc_73.1 ⟨by decide, by decide⟩ (Nat.le_of_ble_eq_true rfl) (fun r hr => cLo_drawDeed_ct (G_16 a1 2) (G_16 a1 1) r34.1 r34.2 hr) (fun G37 _ => ?_)
      refine j_iinc dX1_draw_40 rfl (Nat.le_of_ble_eq_true rfl) rfl ?_
      refine j_goto (tgt := 16) dX1_draw_43 rfl ?_
      exact j_mask [true, true, false, true, true] rfl (ih (w32 (x4_16 + 1)) G37)
    · exact j_return dX1_draw_46 rfl rfl (Nat.zero_le _) (Nat.zero_le _)

set_option maxRecDepth 100000 in
theorem cLo_draw_J {l : Launch} {H : Hp} (a1 : Int) (ha1 : isPaper a1) (a2 : Int) (a3 : Int) (G : Hp) : J l M_cLo_draw (KWv (fun g => fu g H)) (cLo_draw a1 a2 a3 G) 0 [(2, 73), (2, a1), (0, a2), (0, a3), (9, 0)] [] 224 (fu G H) (0, 0) := by
  unfold cLo_draw
  refine j_aload_n dX1_draw_0 rfl rfl ?_
  refine j_grc dX1_draw_1 gf_X1_12 oc_73 (Or.inl (by decide)) rf_73_0 ?_
  refine j_iconst dX1_draw_4 r32_0 ?_
  refine j_pic dX1_draw_5 gf_X1_18 po_9_0 oc_74 (nf_9_0 _) ?_
  refine j_aload_n dX1_draw_8 rfl rfl ?_
  refine j_iload_n dX1_draw_9 rfl rfl ?_
  refine j_pic dX1_draw_10 gf_X1_22 po_1_1 oc_73 (nf_1_1 _) ?_
  refine j_iconst dX1_draw_13 r32_0 ?_
  refine j_istore dX1_draw_14 (Nat.le_of_ble_eq_true rfl) rfl ?_
  exact j_mask [true, true, false, true, true] rfl (cLo_draw_L16_J a1 ha1 a2 a3 FU 0 (upd2 (upd2 G 74 0 0) 73 1 a2))

set_option maxRecDepth 100000 in
theorem cLo_draw_ct {l : Launch} {H : Hp} (a1 : Int) (ha1 : isPaper a1) (a2 : Int) (a3 : Int) (G : Hp) {r : Hp} (h : cLo_draw a1 a2 a3 G = some r) : Ct l M_cLo_draw [(2, 73), (2, a1), (0, a2), (0, a3)] 224 (fu G H) ((KWv (fun g => fu g H)) r) :=
  ct_of_J (by decide +kernel) rfl (Nat.le_of_ble_eq_true rfl) (cLo_draw_J a1 ha1 a2 a3 G) h
set_option maxRecDepth 100000 in
theorem cSt_runWhatMay_L7_J {l : Launch} {H : Hp} (a1 : Int) (ha1 : isPaper a1) (a2 : Int) (ha2 : isWeek a2) : ∀ (n_7 : Nat) (x3_7 : Int) (G_7 : Hp), J l M_cSt_runWhatMay (KWv (fun g => fu g H)) (cSt_runWhatMay_L7 a1 a2  n_7 x3_7 G_7) 7 [(2, 57), (9, 0), (2, a2), (0, x3_7)] [] 224 (fu G_7 H) (0, 0) := by
  intro n_7
  induction n_7 with
  | zero =>
    intro x3_7 G_7
    exact j_none
  | succ n_7 ih =>
    intro x3_7 G_7
    rw [cSt_runWhatMay_L7]
    refine j_iload_n dX7_runWhatMay_7 rfl rfl ?_
    refine j_aload_n dX7_runWhatMay_8 rfl rfl ?_
    refine j_gic dX7_runWhatMay_9 gf_X7_70 (oc_week ha2) ?_
    refine j_icmp_ge (tgt := 44) dX7_runWhatMay_12 rfl (fun h12 => ?_) (fun h12 => ?_)
    · refine j_aload_n dX7_runWhatMay_15 rfl rfl ?_
      refine j_aload_n dX7_runWhatMay_16 rfl rfl ?_
      refine j_grc dX7_runWhatMay_17 gf_X7_75 (oc_week ha2) (Or.inl (by decide)) (rf_week_1 ha2) ?_
      refine j_iload_n dX7_runWhatMay_20 rfl rfl ?_
      refine j_gd (fun h21a h21b => ?_)
      refine j_aic dX7_runWhatMay_21 (oc_week_1 ha2) rfl h21a h21b ?_
      refine j_aload_n dX7_runWhatMay_22 rfl rfl ?_
      refine j_grc dX7_runWhatMay_23 gf_X7_78 (oc_week ha2) (Or.inl (by decide)) (rf_week_2 ha2) ?_
      refine j_iload_n dX7_runWhatMay_26 rfl rfl ?_
      refine j_gd (fun h27a h27b => ?_)
      refine j_aic dX7_runWhatMay_27 (oc_week_2 ha2) rfl h27a h27b ?_
      refine j_aload_n dX7_runWhatMay_28 rfl rfl ?_
      refine j_grc dX7_runWhatMay_29 gf_X7_81 (oc_week ha2) (Or.inl (by decide)) (rf_week_3 ha2) ?_
      refine j_iload_n dX7_runWhatMay_32 rfl rfl ?_
      refine j_gd (fun h33a h33b => ?_)
      refine j_aic dX7_runWhatMay_33 (oc_week_3 ha2) rfl h33a h33b ?_
      refine j_cVWb dX7_runWhatMay_34 im_cSt_does lk_X7_84 rfl (As := [(0, G_7 (a2 + 1) x3_7), (0, G_7 (a2 + 2) x3_7), (0, G_7 (a2 + 3) x3_7)]) (S := []) rfl oc_57.1 ⟨by decide, by decide⟩ (Nat.le_of_ble_eq_true rfl) (fun r hr => cSt_does_ct (G_7 (a2 + 1) x3_7) (G_7 (a2 + 2) x3_7) (G_7 (a2 + 3) x3_7) G_7 hr) (fun r34 _ => ?_)
      refine j_pop dX7_runWhatMay_37 (by decide) ?_
      refine j_iinc dX7_runWhatMay_38 rfl (Nat.le_of_ble_eq_true rfl) rfl ?_
      refine j_goto (tgt := 7) dX7_runWhatMay_41 rfl ?_
      exact j_mask [true, false, true, true] rfl (ih (w32 (x3_7 + 1)) r34.2)
    · exact j_return dX7_runWhatMay_44 rfl rfl (Nat.zero_le _) (Nat.zero_le _)

set_option maxRecDepth 100000 in
theorem cSt_runWhatMay_J {l : Launch} {H : Hp} (a1 : Int) (ha1 : isPaper a1) (a2 : Int) (ha2 : isWeek a2) (G : Hp) : J l M_cSt_runWhatMay (KWv (fun g => fu g H)) (cSt_runWhatMay a1 a2 G) 0 [(2, 57), (2, a1), (2, a2), (9, 0)] [] 224 (fu G H) (0, 0) := by
  unfold cSt_runWhatMay
  refine j_aload_n dX7_runWhatMay_0 rfl rfl ?_
  refine j_aload_n dX7_runWhatMay_1 rfl rfl ?_
  refine j_cVWv dX7_runWhatMay_2 im_cSt_begin lk_X7_66 rfl (As := [(2, a1)]) (S := []) rfl oc_57.1 ⟨by decide, by decide⟩ (Nat.le_of_ble_eq_true rfl) (fun r hr => cSt_begin_ct a1 ha1 G hr) (fun G2 _ => ?_)
  refine j_iconst dX7_runWhatMay_5 r32_0 ?_
  refine j_istore_n dX7_runWhatMay_6 rfl (Nat.le_of_ble_eq_true rfl) rfl ?_
  exact j_mask [true, false, true, true] rfl (cSt_runWhatMay_L7_J a1 ha1 a2 ha2 FU 0 G2)

set_option maxRecDepth 100000 in
theorem cSt_runWhatMay_ct {l : Launch} {H : Hp} (a1 : Int) (ha1 : isPaper a1) (a2 : Int) (ha2 : isWeek a2) (G : Hp) {r : Hp} (h : cSt_runWhatMay a1 a2 G = some r) : Ct l M_cSt_runWhatMay [(2, 57), (2, a1), (2, a2)] 224 (fu G H) ((KWv (fun g => fu g H)) r) :=
  ct_of_J (by decide +kernel) rfl (Nat.le_of_ble_eq_true rfl) (cSt_runWhatMay_J a1 ha1 a2 ha2 G) h
set_option maxRecDepth 100000 in
theorem cX_drawn_J {l : Launch} {H : Hp} (a1 : Int) (a2 : Int) (a3 : Int) (a4 : Int) (G : Hp) : J l M_cX_drawn (KWi (fun g => fu g H)) (cX_drawn a1 a2 a3 a4 G) 0 [(2, 0), (0, a1), (0, a2), (0, a3), (0, a4), (9, 0)] [] 224 (fu G H) (0, 0) := by
  unfold cX_drawn
  refine j_aload_n dX10_drawn_0 rfl rfl ?_
  refine j_iload_n dX10_drawn_1 rfl rfl ?_
  refine j_cVRr dX10_drawn_2 im_cX_paperAt lk_X10_124 rfl (As := [(0, a1)]) (S := []) rfl oc_0.1 ⟨by decide, by decide⟩ (Nat.le_of_ble_eq_true rfl) (fun r hr => cX_paperAt_ct a1 G hr) (fun v2 hv2 => ?_)
  refine j_astore dX10_drawn_5 (Nat.le_of_ble_eq_true rfl) rfl ?_
  refine j_aload dX10_drawn_7 rfl ?_
  refine j_ifnull (tgt := 22) dX10_drawn_9 rfl (fun h9 => ?_) (fun h9 => ?_)
  · refine j_bipush dX10_drawn_22 r32_m2 bp_m2 ?_
    exact j_ireturn dX10_drawn_24 rfl rfl (Nat.zero_le _) (Nat.zero_le _)
  · refine j_iload_n dX10_drawn_12 rfl rfl ?_
    refine j_if_lt (tgt := 22) dX10_drawn_13 rfl (fun h13 => ?_) (fun h13 => ?_)
    · refine j_bipush dX10_drawn_22 r32_m2 bp_m2 ?_
      exact j_ireturn dX10_drawn_24 rfl rfl (Nat.zero_le _) (Nat.zero_le _)
    · refine j_iload_n dX10_drawn_16 rfl rfl ?_
      refine j_bipush dX10_drawn_17 r32_60 bp_60 ?_
      refine j_icmp_le (tgt := 25) dX10_drawn_19 rfl (fun h19 => ?_) (fun h19 => ?_)
      · refine j_bipush dX10_drawn_22 r32_m2 bp_m2 ?_
        exact j_ireturn dX10_drawn_24 rfl rfl (Nat.zero_le _) (Nat.zero_le _)
      · refine j_aload_n dX10_drawn_25 rfl rfl ?_
        refine j_grc dX10_drawn_26 gf_X10_41 oc_0 (Or.inl (by decide)) rf_0_5 ?_
        refine j_aload dX10_drawn_29 rfl ?_
        refine j_iload_n dX10_drawn_31 rfl rfl ?_
        refine j_iload_n dX10_drawn_32 rfl rfl ?_
        refine j_cVWv dX10_drawn_33 im_cLo_draw lk_X10_187 rfl (As := [(2, v2), (0, a2), (0, a3)]) (S := []) rfl oc_73.1 ⟨by decide, by decide⟩ (Nat.le_of_ble_eq_true rfl) (fun r hr => cLo_draw_ct v2 (cX_paperAt_ok hv2 h9) a2 a3 G hr) (fun G33 _ => ?_)
        refine j_aload_n dX10_drawn_36 rfl rfl ?_
        refine j_grc dX10_drawn_37 gf_X10_34 oc_0 (Or.inl (by decide)) rf_0_4 ?_
        refine j_aload dX10_drawn_40 rfl ?_
        refine j_aload_n dX10_drawn_42 rfl rfl ?_
        refine j_grc dX10_drawn_43 gf_X10_41 oc_0 (Or.inl (by decide)) rf_0_5 ?_
        refine j_grc dX10_drawn_46 gf_X10_191 oc_73 (Or.inl (by decide)) rf_73_0 ?_
        refine j_cVWv dX10_drawn_49 im_cSt_runWhatMay lk_X10_195 rfl (As := [(2, v2), (2, 74)]) (S := []) rfl oc_57.1 ⟨by decide, by decide⟩ (Nat.le_of_ble_eq_true rfl) (fun r hr => cSt_runWhatMay_ct v2 (cX_paperAt_ok hv2 h9) 74 isWeek_74 G33 hr) (fun G49 _ => ?_)
        refine j_aload_n dX10_drawn_52 rfl rfl ?_
        refine j_grc dX10_drawn_53 gf_X10_34 oc_0 (Or.inl (by decide)) rf_0_4 ?_
        refine j_iload dX10_drawn_56 rfl ?_
        refine j_cVRi dX10_drawn_58 im_cSt_tell lk_X10_170 rfl (As := [(0, a4)]) (S := []) rfl oc_57.1 ⟨by decide, by decide⟩ (Nat.le_of_ble_eq_true rfl) (fun r hr => cSt_tell_ct a4 G49 hr) (fun v58 _ => ?_)
        exact j_ireturn dX10_drawn_61 rfl rfl (Nat.zero_le _) (Nat.zero_le _)

set_option maxRecDepth 100000 in
theorem cX_drawn_ct {l : Launch} {H : Hp} (a1 : Int) (a2 : Int) (a3 : Int) (a4 : Int) (G : Hp) {r : Int × Hp} (h : cX_drawn a1 a2 a3 a4 G = some r) : Ct l M_cX_drawn [(2, 0), (0, a1), (0, a2), (0, a3), (0, a4)] 224 (fu G H) ((KWi (fun g => fu g H)) r) :=
  ct_of_J (by decide +kernel) rfl (Nat.le_of_ble_eq_true rfl) (cX_drawn_J a1 a2 a3 a4 G) h
set_option maxRecDepth 100000 in
theorem cNe_between_j38_J {l : Launch} {H : Hp} (o : Int) (ho : isNet o) (a1 : Int) (a2 : Int) (G_38 : Hp) : J l M_cNe_between (KWi (fun g => fu g H)) (cNe_between_j38 o a1 a2  G_38) 38 [(2, o), (0, a1), (0, a2)] [] 224 (fu G_38 H) (0, 0) := by
  unfold cNe_between_j38
  refine j_aload_n dX2_between_38 rfl rfl ?_
  refine j_grc dX2_between_39 gf_X2_15 (oc_net ho) (Or.inl (by decide)) (rf_net_1 ho) ?_
  refine j_bipush dX2_between_42 r32_10 bp_10 ?_
  refine j_iload_n dX2_between_44 rfl rfl ?_
  refine j_imul dX2_between_45 ?_
  refine j_iload_n dX2_between_46 rfl rfl ?_
  refine j_iadd dX2_between_47 ?_
  refine j_gd (fun h48a h48b => ?_)
  refine j_aic dX2_between_48 (oc_net_2 ho) rfl h48a h48b ?_
  exact j_ireturn dX2_between_49 rfl rfl (Nat.zero_le _) (Nat.zero_le _)

set_option maxRecDepth 100000 in
theorem cNe_between_J {l : Launch} {H : Hp} (o : Int) (ho : isNet o) (a1 : Int) (a2 : Int) (G : Hp) : J l M_cNe_between (KWi (fun g => fu g H)) (cNe_between o a1 a2 G) 0 [(2, o), (0, a1), (0, a2)] [] 224 (fu G H) (0, 0) := by
  unfold cNe_between
  refine j_iload_n dX2_between_0 rfl rfl ?_
  refine j_if_lt (tgt := 20) dX2_between_1 rfl (fun h1 => ?_) (fun h1 => ?_)
  · refine j_iconst dX2_between_20 r32_m1 ?_
    exact j_ireturn dX2_between_21 rfl rfl (Nat.zero_le _) (Nat.zero_le _)
  · refine j_iload_n dX2_between_4 rfl rfl ?_
    refine j_bipush dX2_between_5 r32_10 bp_10 ?_
    refine j_icmp_ge (tgt := 20) dX2_between_7 rfl (fun h7 => ?_) (fun h7 => ?_)
    · refine j_iload_n dX2_between_10 rfl rfl ?_
      refine j_if_lt (tgt := 20) dX2_between_11 rfl (fun h11 => ?_) (fun h11 => ?_)
      · refine j_iconst dX2_between_20 r32_m1 ?_
        exact j_ireturn dX2_between_21 rfl rfl (Nat.zero_le _) (Nat.zero_le _)
      · refine j_iload_n dX2_between_14 rfl rfl ?_
        refine j_bipush dX2_between_15 r32_10 bp_10 ?_
        refine j_icmp_lt (tgt := 22) dX2_between_17 rfl (fun h17 => ?_) (fun h17 => ?_)
        · refine j_iconst dX2_between_20 r32_m1 ?_
          exact j_ireturn dX2_between_21 rfl rfl (Nat.zero_le _) (Nat.zero_le _)
        · refine j_aload_n dX2_between_22 rfl rfl ?_
          refine j_gic dX2_between_23 gf_X2_21 (oc_net ho) ?_
          refine j_iload_n dX2_between_26 rfl rfl ?_
          refine j_ishr dX2_between_27 ?_
          refine j_iconst dX2_between_28 r32_1 ?_
          refine j_iand dX2_between_29 ?_
          refine j_if_ne (tgt := 38) dX2_between_30 rfl (fun h30 => ?_) (fun h30 => ?_)
          · refine j_aload_n dX2_between_33 rfl rfl ?_
            refine j_iload_n dX2_between_34 rfl rfl ?_
            refine j_cVWv dX2_between_35 im_cNe_reach lk_X2_33 rfl (As := [(0, a2)]) (S := []) rfl (oc_net ho).1 ⟨by decide, by decide⟩ (Nat.le_of_ble_eq_true rfl) (fun r hr => cNe_reach_ct o ho a2 G hr) (fun G35 _ => ?_)
            exact j_mask [true, true, true] rfl (cNe_between_j38_J o ho a1 a2 G35)
          · exact j_mask [true, true, true] rfl (cNe_between_j38_J o ho a1 a2 G)
    · refine j_iconst dX2_between_20 r32_m1 ?_
      exact j_ireturn dX2_between_21 rfl rfl (Nat.zero_le _) (Nat.zero_le _)

set_option maxRecDepth 100000 in
theorem cNe_between_ct {l : Launch} {H : Hp} (o : Int) (ho : isNet o) (a1 : Int) (a2 : Int) (G : Hp) {r : Int × Hp} (h : cNe_between o a1 a2 G = some r) : Ct l M_cNe_between [(2, o), (0, a1), (0, a2)] 224 (fu G H) ((KWi (fun g => fu g H)) r) :=
  ct_of_J (by decide +kernel) rfl (Nat.le_of_ble_eq_true rfl) (cNe_between_J o ho a1 a2 G) h
set_option maxRecDepth 100000 in
theorem cX_steps_J {l : Launch} {H : Hp} (a1 : Int) (a2 : Int) (a3 : Int) (G : Hp) : J l M_cX_steps (KWi (fun g => fu g H)) (cX_steps a1 a2 a3 G) 0 [(2, 0), (0, a1), (0, a2), (0, a3), (9, 0)] [] 224 (fu G H) (0, 0) := by
  unfold cX_steps
  refine j_aload_n dX10_steps_0 rfl rfl ?_
  refine j_iload_n dX10_steps_1 rfl rfl ?_
  refine j_cVRr dX10_steps_2 im_cX_paperAt lk_X10_124 rfl (As := [(0, a1)]) (S := []) rfl oc_0.1 ⟨by decide, by decide⟩ (Nat.le_of_ble_eq_true rfl) (fun r hr => cX_paperAt_ct a1 G hr) (fun v2 hv2 => ?_)
  refine j_astore dX10_steps_5 (Nat.le_of_ble_eq_true rfl) rfl ?_
  refine j_aload dX10_steps_7 rfl ?_
  refine j_ifnonnull (tgt := 16) dX10_steps_9 rfl (fun h9 => ?_) (fun h9 => ?_)
  · refine j_iconst dX10_steps_12 r32_m1 ?_
    refine j_goto (tgt := 26) dX10_steps_13 rfl ?_
    exact j_ireturn dX10_steps_26 rfl rfl (Nat.zero_le _) (Nat.zero_le _)
  · refine j_aload dX10_steps_16 rfl ?_
    refine j_grc dX10_steps_18 gf_X10_199 (oc_paper (cX_paperAt_ok hv2 h9)) (Or.inl (by decide)) (rf_paper_3 (cX_paperAt_ok hv2 h9)) ?_
    refine j_iload_n dX10_steps_21 rfl rfl ?_
    refine j_iload_n dX10_steps_22 rfl rfl ?_
    refine j_cVWi dX10_steps_23 im_cNe_between lk_X10_202 rfl (As := [(0, a2), (0, a3)]) (S := []) rfl (oc_net (net_paper (cX_paperAt_ok hv2 h9))).1 ⟨by decide, by decide⟩ (Nat.le_of_ble_eq_true rfl) (fun r hr => cNe_between_ct (v2 + 1) (net_paper (cX_paperAt_ok hv2 h9)) a2 a3 G hr) (fun r23 _ => ?_)
    exact j_ireturn dX10_steps_26 rfl rfl (Nat.zero_le _) (Nat.zero_le _)

set_option maxRecDepth 100000 in
theorem cX_steps_ct {l : Launch} {H : Hp} (a1 : Int) (a2 : Int) (a3 : Int) (G : Hp) {r : Int × Hp} (h : cX_steps a1 a2 a3 G = some r) : Ct l M_cX_steps [(2, 0), (0, a1), (0, a2), (0, a3)] 224 (fu G H) ((KWi (fun g => fu g H)) r) :=
  ct_of_J (by decide +kernel) rfl (Nat.le_of_ble_eq_true rfl) (cX_steps_J a1 a2 a3 G) h
set_option maxRecDepth 100000 in
theorem cX_towards_J {l : Launch} {H : Hp} (a1 : Int) (a2 : Int) (a3 : Int) (G : Hp) : J l M_cX_towards (KWi (fun g => fu g H)) (cX_towards a1 a2 a3 G) 0 [(2, 0), (0, a1), (0, a2), (0, a3), (9, 0)] [] 224 (fu G H) (0, 0) := by
  unfold cX_towards
  refine j_aload_n dX10_towards_0 rfl rfl ?_
  refine j_iload_n dX10_towards_1 rfl rfl ?_
  refine j_cVRr dX10_towards_2 im_cX_paperAt lk_X10_124 rfl (As := [(0, a1)]) (S := []) rfl oc_0.1 ⟨by decide, by decide⟩ (Nat.le_of_ble_eq_true rfl) (fun r hr => cX_paperAt_ct a1 G hr) (fun v2 hv2 => ?_)
  refine j_astore dX10_towards_5 (Nat.le_of_ble_eq_true rfl) rfl ?_
  refine j_aload dX10_towards_7 rfl ?_
  refine j_ifnonnull (tgt := 16) dX10_towards_9 rfl (fun h9 => ?_) (fun h9 => ?_)
  · refine j_iconst dX10_towards_12 r32_m1 ?_
    refine j_goto (tgt := 26) dX10_towards_13 rfl ?_
    exact j_ireturn dX10_towards_26 rfl rfl (Nat.zero_le _) (Nat.zero_le _)
  · refine j_aload dX10_towards_16 rfl ?_
    refine j_grc dX10_towards_18 gf_X10_199 (oc_paper (cX_paperAt_ok hv2 h9)) (Or.inl (by decide)) (rf_paper_3 (cX_paperAt_ok hv2 h9)) ?_
    refine j_iload_n dX10_towards_21 rfl rfl ?_
    refine j_iload_n dX10_towards_22 rfl rfl ?_
    refine j_cVWi dX10_towards_23 im_cNe_next lk_X10_206 rfl (As := [(0, a2), (0, a3)]) (S := []) rfl (oc_net (net_paper (cX_paperAt_ok hv2 h9))).1 ⟨by decide, by decide⟩ (Nat.le_of_ble_eq_true rfl) (fun r hr => cNe_next_ct (v2 + 1) (net_paper (cX_paperAt_ok hv2 h9)) a2 a3 G hr) (fun r23 _ => ?_)
    exact j_ireturn dX10_towards_26 rfl rfl (Nat.zero_le _) (Nat.zero_le _)

set_option maxRecDepth 100000 in
theorem cX_towards_ct {l : Launch} {H : Hp} (a1 : Int) (a2 : Int) (a3 : Int) (G : Hp) {r : Int × Hp} (h : cX_towards a1 a2 a3 G = some r) : Ct l M_cX_towards [(2, 0), (0, a1), (0, a2), (0, a3)] 224 (fu G H) ((KWi (fun g => fu g H)) r) :=
  ct_of_J (by decide +kernel) rfl (Nat.le_of_ble_eq_true rfl) (cX_towards_J a1 a2 a3 G) h
set_option maxRecDepth 100000 in
theorem cNe_kinOf_L4_J {l : Launch} {H : Hp} (o : Int) (ho : isNet o) (a1 : Int) : ∀ (n_4 : Nat) (x2_4 : Int) (x3_4 : Int) (G_4 : Hp), J l M_cNe_kinOf (KWi (fun g => fu g H)) (cNe_kinOf_L4 o a1  n_4 x2_4 x3_4 G_4) 4 [(2, o), (0, a1), (0, x2_4), (0, x3_4)] [] 224 (fu G_4 H) (0, 0) := by
  intro n_4
  induction n_4 with
  | zero =>
    intro x2_4 x3_4 G_4
    exact j_none
  | succ n_4 ih =>
    intro x2_4 x3_4 G_4
    rw [cNe_kinOf_L4]
    refine j_iload_n dX2_kinOf_4 rfl rfl ?_
    refine j_bipush dX2_kinOf_5 r32_10 bp_10 ?_
    refine j_icmp_ge (tgt := 32) dX2_kinOf_7 rfl (fun h7 => ?_) (fun h7 => ?_)
    · refine j_aload_n dX2_kinOf_10 rfl rfl ?_
      refine j_iload_n dX2_kinOf_11 rfl rfl ?_
      refine j_iload_n dX2_kinOf_12 rfl rfl ?_
      refine j_cVWi dX2_kinOf_13 im_cNe_between lk_X2_37 rfl (As := [(0, x3_4), (0, a1)]) (S := []) rfl (oc_net ho).1 ⟨by decide, by decide⟩ (Nat.le_of_ble_eq_true rfl) (fun r hr => cNe_between_ct o ho x3_4 a1 G_4 hr) (fun r13 _ => ?_)
      refine j_iconst dX2_kinOf_16 r32_m1 ?_
      refine j_icmp_eq (tgt := 26) dX2_kinOf_17 rfl (fun h17 => ?_) (fun h17 => ?_)
      · refine j_iinc dX2_kinOf_26 rfl (Nat.le_of_ble_eq_true rfl) rfl ?_
        refine j_goto (tgt := 4) dX2_kinOf_29 rfl ?_
        exact j_mask [true, true, true, true] rfl (ih x2_4 (w32 (x3_4 + 1)) r13.2)
      · refine j_iload_n dX2_kinOf_20 rfl rfl ?_
        refine j_iconst dX2_kinOf_21 r32_1 ?_
        refine j_iload_n dX2_kinOf_22 rfl rfl ?_
        refine j_ishl dX2_kinOf_23 ?_
        refine j_ior dX2_kinOf_24 ?_
        refine j_istore_n dX2_kinOf_25 rfl (Nat.le_of_ble_eq_true rfl) rfl ?_
        refine j_iinc dX2_kinOf_26 rfl (Nat.le_of_ble_eq_true rfl) rfl ?_
        refine j_goto (tgt := 4) dX2_kinOf_29 rfl ?_
        exact j_mask [true, true, true, true] rfl (ih (ior x2_4 (ishl 1 x3_4)) (w32 (x3_4 + 1)) r13.2)
    · refine j_iload_n dX2_kinOf_32 rfl rfl ?_
      exact j_ireturn dX2_kinOf_33 rfl rfl (Nat.zero_le _) (Nat.zero_le _)

set_option maxRecDepth 100000 in
theorem cNe_kinOf_J {l : Launch} {H : Hp} (o : Int) (ho : isNet o) (a1 : Int) (G : Hp) : J l M_cNe_kinOf (KWi (fun g => fu g H)) (cNe_kinOf o a1 G) 0 [(2, o), (0, a1), (9, 0), (9, 0)] [] 224 (fu G H) (0, 0) := by
  unfold cNe_kinOf
  refine j_iconst dX2_kinOf_0 r32_0 ?_
  refine j_istore_n dX2_kinOf_1 rfl (Nat.le_of_ble_eq_true rfl) rfl ?_
  refine j_iconst dX2_kinOf_2 r32_0 ?_
  refine j_istore_n dX2_kinOf_3 rfl (Nat.le_of_ble_eq_true rfl) rfl ?_
  exact j_mask [true, true, true, true] rfl (cNe_kinOf_L4_J o ho a1 FU 0 0 G)

set_option maxRecDepth 100000 in
theorem cNe_kinOf_ct {l : Launch} {H : Hp} (o : Int) (ho : isNet o) (a1 : Int) (G : Hp) {r : Int × Hp} (h : cNe_kinOf o a1 G = some r) : Ct l M_cNe_kinOf [(2, o), (0, a1)] 224 (fu G H) ((KWi (fun g => fu g H)) r) :=
  ct_of_J (by decide +kernel) rfl (Nat.le_of_ble_eq_true rfl) (cNe_kinOf_J o ho a1 G) h
