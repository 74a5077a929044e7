set_option maxRecDepth 100000 in
theorem mm_twiceOf_L27_J {l : Launch} {H : Hp} (G : Hp) (x1_27 : Int) (x2_27 : Int) (x3_27 : Int) (k65 : Int → Option (Int)) (hk65 : ∀ (x4_65 : Int), J l M_mm_twiceOf (KRi (fu H G)) (k65 x4_65) 65 [(2, 201), (0, x1_27), (0, x2_27), (0, x3_27), (0, x4_65)] [] 224 (fu H G) (0, 0)) : ∀ (n_27 : Nat) (x4_27 : Int), J l M_mm_twiceOf (KRi (fu H G)) (mm_twiceOf_L27 G x1_27 x2_27 x3_27 k65 n_27 x4_27) 27 [(2, 201), (0, x1_27), (0, x2_27), (0, x3_27), (0, x4_27)] [] 224 (fu H G) (0, 0) := by
  intro n_27
  induction n_27 with
  | zero =>
    intro x4_27
    exact j_none
  | succ n_27 ih =>
    intro x4_27
    rw [mm_twiceOf_L27]
    refine j_iload_n dX11_twiceOf_27 rfl rfl ?_
    refine j_iload dX11_twiceOf_28 rfl ?_
    refine j_iadd dX11_twiceOf_30 ?_
    refine j_aload_n dX11_twiceOf_31 rfl rfl ?_
    refine j_gim dX11_twiceOf_32 gf_X11_200 om_201 ?_
    refine j_icmp_ge (tgt := 65) dX11_twiceOf_35 rfl (fun h35 => ?_) (fun h35 => ?_)
    · refine j_aload_n dX11_twiceOf_38 rfl rfl ?_
      refine j_grm dX11_twiceOf_39 gf_X11_26 om_201 (Or.inl (by decide)) rf_201_23 ?_
      refine j_iload_n dX11_twiceOf_42 rfl rfl ?_
      refine j_iload dX11_twiceOf_43 rfl ?_
      refine j_iadd dX11_twiceOf_45 ?_
      refine j_gd (fun h46a h46b => ?_)
      refine j_aim dX11_twiceOf_46 om_207 rfl h46a h46b ?_
      refine j_aload_n dX11_twiceOf_47 rfl rfl ?_
      refine j_grm dX11_twiceOf_48 gf_X11_26 om_201 (Or.inl (by decide)) rf_201_23 ?_
      refine j_iload_n dX11_twiceOf_51 rfl rfl ?_
      refine j_iload dX11_twiceOf_52 rfl ?_
      refine j_iadd dX11_twiceOf_54 ?_
      refine j_gd (fun h55a h55b => ?_)
      refine j_aim dX11_twiceOf_55 om_207 rfl h55a h55b ?_
      refine j_icmp_ne (tgt := 65) dX11_twiceOf_56 rfl (fun h56 => ?_) (fun h56 => ?_)
      · refine j_iinc dX11_twiceOf_59 rfl (Nat.le_of_ble_eq_true rfl) rfl ?_
        refine j_goto (tgt := 27) dX11_twiceOf_62 rfl ?_
        exact j_mask [true, true, true, true, true] rfl (ih (w32 (x4_27 + 1)))
      · exact j_mask [true, true, true, true, true] rfl (hk65 x4_27)
    · exact j_mask [true, true, true, true, true] rfl (hk65 x4_27)

set_option maxRecDepth 100000 in
theorem mm_twiceOf_L16_J {l : Launch} {H : Hp} (G : Hp) (x2_16 : Int) (k84 : Int → Option (Int)) (hk84 : ∀ (x1_84 : Int), J l M_mm_twiceOf (KRi (fu H G)) (k84 x1_84) 84 [(2, 201), (0, x1_84), (0, x2_16), (9, 0), (9, 0)] [] 224 (fu H G) (0, 0)) : ∀ (n_16 : Nat) (x1_16 : Int) (x3_16 : Int), J l M_mm_twiceOf (KRi (fu H G)) (mm_twiceOf_L16 G x2_16 k84 n_16 x1_16 x3_16) 16 [(2, 201), (0, x1_16), (0, x2_16), (0, x3_16), (9, 0)] [] 224 (fu H G) (0, 0) := by
  intro n_16
  induction n_16 with
  | zero =>
    intro x1_16 x3_16
    exact j_none
  | succ n_16 ih =>
    intro x1_16 x3_16
    rw [mm_twiceOf_L16]
    refine j_iload_n dX11_twiceOf_16 rfl rfl ?_
    refine j_aload_n dX11_twiceOf_17 rfl rfl ?_
    refine j_gim dX11_twiceOf_18 gf_X11_200 om_201 ?_
    refine j_icmp_ge (tgt := 84) dX11_twiceOf_21 rfl (fun h21 => ?_) (fun h21 => ?_)
    · refine j_iconst dX11_twiceOf_24 r32_0 ?_
      refine j_istore dX11_twiceOf_25 (Nat.le_of_ble_eq_true rfl) rfl ?_
      refine j_mask [true, true, true, true, true] rfl (mm_twiceOf_L27_J G x1_16 x2_16 x3_16 (fun x4_65 => if x1_16 < x4_65 then mm_twiceOf_L16 G x2_16 k84 n_16 x4_65 (w32 (x3_16 + 1)) else mm_twiceOf_L16 G x2_16 k84 n_16 x1_16 (w32 (x3_16 + 1))) (fun x4_65 => ?_) FU 0)
      refine j_iload dX11_twiceOf_65 rfl ?_
      refine j_iload_n dX11_twiceOf_67 rfl rfl ?_
      refine j_icmp_le (tgt := 76) dX11_twiceOf_68 rfl (fun h68 => ?_) (fun h68 => ?_)
      · refine j_iload dX11_twiceOf_71 rfl ?_
        refine j_goto (tgt := 77) dX11_twiceOf_73 rfl ?_
        refine j_istore_n dX11_twiceOf_77 rfl (Nat.le_of_ble_eq_true rfl) rfl ?_
        refine j_iinc dX11_twiceOf_78 rfl (Nat.le_of_ble_eq_true rfl) rfl ?_
        refine j_goto (tgt := 16) dX11_twiceOf_81 rfl ?_
        exact j_mask [true, true, true, true, false] rfl (ih x4_65 (w32 (x3_16 + 1)))
      · refine j_iload_n dX11_twiceOf_76 rfl rfl ?_
        refine j_istore_n dX11_twiceOf_77 rfl (Nat.le_of_ble_eq_true rfl) rfl ?_
        refine j_iinc dX11_twiceOf_78 rfl (Nat.le_of_ble_eq_true rfl) rfl ?_
        refine j_goto (tgt := 16) dX11_twiceOf_81 rfl ?_
        exact j_mask [true, true, true, true, false] rfl (ih x1_16 (w32 (x3_16 + 1)))
    · exact j_mask [true, true, true, false, false] rfl (hk84 x1_16)

set_option maxRecDepth 100000 in
theorem mm_twiceOf_L4_J {l : Launch} {H : Hp} (G : Hp) : ∀ (n_4 : Nat) (x1_4 : Int) (x2_4 : Int), J l M_mm_twiceOf (KRi (fu H G)) (mm_twiceOf_L4 G  n_4 x1_4 x2_4) 4 [(2, 201), (0, x1_4), (0, x2_4), (9, 0), (9, 0)] [] 224 (fu H G) (0, 0) := by
  intro n_4
  induction n_4 with
  | zero =>
    intro x1_4 x2_4
    exact j_none
  | succ n_4 ih =>
    intro x1_4 x2_4
    rw [mm_twiceOf_L4]
    refine j_iload_n dX11_twiceOf_4 rfl rfl ?_
    refine j_aload_n dX11_twiceOf_5 rfl rfl ?_
    refine j_gim dX11_twiceOf_6 gf_X11_200 om_201 ?_
    refine j_icmp_ge (tgt := 90) dX11_twiceOf_9 rfl (fun h9 => ?_) (fun h9 => ?_)
    · refine j_iload_n dX11_twiceOf_12 rfl rfl ?_
      refine j_iconst dX11_twiceOf_13 r32_1 ?_
      refine j_iadd dX11_twiceOf_14 ?_
      refine j_istore_n dX11_twiceOf_15 rfl (Nat.le_of_ble_eq_true rfl) rfl ?_
      refine j_mask [true, true, true, true, false] rfl (mm_twiceOf_L16_J G x2_4 (fun x1_84 => mm_twiceOf_L4 G n_4 x1_84 (w32 (x2_4 + 1))) (fun x1_84 => ?_) FU x1_4 (w32 (x2_4 + 1)))
      refine j_iinc dX11_twiceOf_84 rfl (Nat.le_of_ble_eq_true rfl) rfl ?_
      refine j_goto (tgt := 4) dX11_twiceOf_87 rfl ?_
      exact j_mask [true, true, true, false, false] rfl (ih x1_84 (w32 (x2_4 + 1)))
    · refine j_iload_n dX11_twiceOf_90 rfl rfl ?_
      exact j_ireturn dX11_twiceOf_91 rfl rfl (Nat.zero_le _) (Nat.zero_le _)

set_option maxRecDepth 100000 in
theorem mm_twiceOf_J {l : Launch} {H : Hp} (G : Hp) : J l M_mm_twiceOf (KRi (fu H G)) (mm_twiceOf  G) 0 [(2, 201), (9, 0), (9, 0), (9, 0), (9, 0)] [] 224 (fu H G) (0, 0) := by
  unfold mm_twiceOf
  refine j_iconst dX11_twiceOf_0 r32_0 ?_
  refine j_istore_n dX11_twiceOf_1 rfl (Nat.le_of_ble_eq_true rfl) rfl ?_
  refine j_iconst dX11_twiceOf_2 r32_0 ?_
  refine j_istore_n dX11_twiceOf_3 rfl (Nat.le_of_ble_eq_true rfl) rfl ?_
  exact j_mask [true, true, true, false, false] rfl (mm_twiceOf_L4_J G FU 0 0)

set_option maxRecDepth 100000 in
theorem mm_twiceOf_ct {l : Launch} {H : Hp} (G : Hp) {r : Int} (h : mm_twiceOf  G = some r) : Ct l M_mm_twiceOf [(2, 201)] 224 (fu H G) ((KRi (fu H G)) r) :=
  ct_of_J (by decide +kernel) rfl (Nat.le_of_ble_eq_true rfl) (mm_twiceOf_J  G) h
set_option maxRecDepth 100000 in
theorem mm_standsAt_L4_J {l : Launch} {H : Hp} (a1 : Int) (G : Hp) : ∀ (n_4 : Nat) (x2_4 : Int) (x3_4 : Int), J l M_mm_standsAt (KRi (fu H G)) (mm_standsAt_L4 a1 G  n_4 x2_4 x3_4) 4 [(2, 201), (0, a1), (0, x2_4), (0, x3_4)] [] 224 (fu H G) (0, 0) := by
  intro n_4
  induction n_4 with
  | zero =>
    intro x2_4 x3_4
    exact j_none
  | succ n_4 ih =>
    intro x2_4 x3_4
    rw [mm_standsAt_L4]
    refine j_iload_n dX11_standsAt_4 rfl rfl ?_
    refine j_aload_n dX11_standsAt_5 rfl rfl ?_
    refine j_gim dX11_standsAt_6 gf_X11_200 om_201 ?_
    refine j_icmp_ge (tgt := 36) dX11_standsAt_9 rfl (fun h9 => ?_) (fun h9 => ?_)
    · refine j_iload_n dX11_standsAt_12 rfl rfl ?_
      refine j_aload_n dX11_standsAt_13 rfl rfl ?_
      refine j_grm dX11_standsAt_14 gf_X11_26 om_201 (Or.inl (by decide)) rf_201_23 ?_
      refine j_iload_n dX11_standsAt_17 rfl rfl ?_
      refine j_gd (fun h18a h18b => ?_)
      refine j_aim dX11_standsAt_18 om_207 rfl h18a h18b ?_
      refine j_iload_n dX11_standsAt_19 rfl rfl ?_
      refine j_icmp_ne (tgt := 27) dX11_standsAt_20 rfl (fun h20 => ?_) (fun h20 => ?_)
      · refine j_iconst dX11_standsAt_23 r32_1 ?_
        refine j_goto (tgt := 28) dX11_standsAt_24 rfl ?_
        refine j_iadd dX11_standsAt_28 ?_
        refine j_istore_n dX11_standsAt_29 rfl (Nat.le_of_ble_eq_true rfl) rfl ?_
        refine j_iinc dX11_standsAt_30 rfl (Nat.le_of_ble_eq_true rfl) rfl ?_
        refine j_goto (tgt := 4) dX11_standsAt_33 rfl ?_
        exact j_mask [true, true, true, true] rfl (ih (w32 (x2_4 + 1)) (w32 (x3_4 + 1)))
      · refine j_iconst dX11_standsAt_27 r32_0 ?_
        refine j_iadd dX11_standsAt_28 ?_
        refine j_istore_n dX11_standsAt_29 rfl (Nat.le_of_ble_eq_true rfl) rfl ?_
        refine j_iinc dX11_standsAt_30 rfl (Nat.le_of_ble_eq_true rfl) rfl ?_
        refine j_goto (tgt := 4) dX11_standsAt_33 rfl ?_
        exact j_mask [true, true, true, true] rfl (ih (w32 (x2_4 + 0)) (w32 (x3_4 + 1)))
    · refine j_iload_n dX11_standsAt_36 rfl rfl ?_
      exact j_ireturn dX11_standsAt_37 rfl rfl (Nat.zero_le _) (Nat.zero_le _)

set_option maxRecDepth 100000 in
theorem mm_standsAt_J {l : Launch} {H : Hp} (a1 : Int) (G : Hp) : J l M_mm_standsAt (KRi (fu H G)) (mm_standsAt a1 G) 0 [(2, 201), (0, a1), (9, 0), (9, 0)] [] 224 (fu H G) (0, 0) := by
  unfold mm_standsAt
  refine j_iconst dX11_standsAt_0 r32_0 ?_
  refine j_istore_n dX11_standsAt_1 rfl (Nat.le_of_ble_eq_true rfl) rfl ?_
  refine j_iconst dX11_standsAt_2 r32_0 ?_
  refine j_istore_n dX11_standsAt_3 rfl (Nat.le_of_ble_eq_true rfl) rfl ?_
  exact j_mask [true, true, true, true] rfl (mm_standsAt_L4_J a1 G FU 0 0)

set_option maxRecDepth 100000 in
theorem mm_standsAt_ct {l : Launch} {H : Hp} (a1 : Int) (G : Hp) {r : Int} (h : mm_standsAt a1 G = some r) : Ct l M_mm_standsAt [(2, 201), (0, a1)] 224 (fu H G) ((KRi (fu H G)) r) :=
  ct_of_J (by decide +kernel) rfl (Nat.le_of_ble_eq_true rfl) (mm_standsAt_J a1 G) h
set_option maxRecDepth 100000 in
theorem mm_wordsOf_j51_J {l : Launch} {H : Hp} (a1 : Int) (G : Hp) (k7 : Int → Int → Int → Option (Int)) (hk7 : ∀ (x2_7 : Int) (x3_7 : Int) (x4_7 : Int), J l M_mm_wordsOf (KRi (fu H G)) (k7 x2_7 x3_7 x4_7) 7 [(2, 201), (0, a1), (0, x2_7), (0, x3_7), (0, x4_7)] [] 224 (fu H G) (0, 0)) (x2_51 : Int) (x3_51 : Int) (x4_51 : Int) (s0_51 : Int) (s1_51 : Int) : J l M_mm_wordsOf (KRi (fu H G)) (mm_wordsOf_j51 a1 G k7 x2_51 x3_51 x4_51 s0_51 s1_51) 51 [(2, 201), (0, a1), (0, x2_51), (0, x3_51), (0, x4_51)] [(0, s0_51), (0, s1_51)] 224 (fu H G) (0, 0) := by
  unfold mm_wordsOf_j51
  refine j_icmp_le (tgt := 57) dX11_wordsOf_51 rfl (fun h51 => ?_) (fun h51 => ?_)
  · refine j_iload dX11_wordsOf_54 rfl ?_
    refine j_istore_n dX11_wordsOf_56 rfl (Nat.le_of_ble_eq_true rfl) rfl ?_
    refine j_iinc dX11_wordsOf_57 rfl (Nat.le_of_ble_eq_true rfl) rfl ?_
    refine j_goto (tgt := 7) dX11_wordsOf_60 rfl ?_
    exact j_mask [true, true, true, true, true] rfl (hk7 x2_51 x4_51 (w32 (x4_51 + 1)))
  · refine j_iinc dX11_wordsOf_57 rfl (Nat.le_of_ble_eq_true rfl) rfl ?_
    refine j_goto (tgt := 7) dX11_wordsOf_60 rfl ?_
    exact j_mask [true, true, true, true, true] rfl (hk7 x2_51 x3_51 (w32 (x4_51 + 1)))

set_option maxRecDepth 100000 in
theorem mm_wordsOf_j29_J {l : Launch} {H : Hp} (a1 : Int) (G : Hp) (k7 : Int → Int → Int → Option (Int)) (hk7 : ∀ (x2_7 : Int) (x3_7 : Int) (x4_7 : Int), J l M_mm_wordsOf (KRi (fu H G)) (k7 x2_7 x3_7 x4_7) 7 [(2, 201), (0, a1), (0, x2_7), (0, x3_7), (0, x4_7)] [] 224 (fu H G) (0, 0)) (x3_29 : Int) (x4_29 : Int) (s0_29 : Int) (s1_29 : Int) : J l M_mm_wordsOf (KRi (fu H G)) (mm_wordsOf_j29 a1 G k7 x3_29 x4_29 s0_29 s1_29) 29 [(2, 201), (0, a1), (9, 0), (0, x3_29), (0, x4_29)] [(0, s0_29), (0, s1_29)] 224 (fu H G) (0, 0) := by
  unfold mm_wordsOf_j29
  refine j_iadd dX11_wordsOf_29 ?_
  refine j_istore_n dX11_wordsOf_30 rfl (Nat.le_of_ble_eq_true rfl) rfl ?_
  refine j_aload_n dX11_wordsOf_31 rfl rfl ?_
  refine j_iload dX11_wordsOf_32 rfl ?_
  refine j_cVRi dX11_wordsOf_34 im_mm_standsAt lk_X11_390 rfl (As := [(0, x4_29)]) (S := []) rfl om_201.1 ⟨by decide, by decide⟩ (Nat.le_of_ble_eq_true rfl) (fun r hr => mm_standsAt_ct x4_29 G hr) (fun v34 _ => ?_)
  refine j_iload_n dX11_wordsOf_37 rfl rfl ?_
  refine j_iconst dX11_wordsOf_38 r32_m1 ?_
  refine j_icmp_ne (tgt := 46) dX11_wordsOf_39 rfl (fun h39 => ?_) (fun h39 => ?_)
  · refine j_iconst dX11_wordsOf_42 r32_0 ?_
    refine j_goto (tgt := 51) dX11_wordsOf_43 rfl ?_
    exact j_mask [true, true, true, true, true] rfl (mm_wordsOf_j51_J a1 G  k7 hk7 (w32 (s1_29 + s0_29)) x3_29 x4_29 0 v34)
  · refine j_aload_n dX11_wordsOf_46 rfl rfl ?_
    refine j_iload_n dX11_wordsOf_47 rfl rfl ?_
    refine j_cVRi dX11_wordsOf_48 im_mm_standsAt lk_X11_390 rfl (As := [(0, x3_29)]) (S := [(0, v34)]) rfl om_201.1 ⟨by decide, by decide⟩ (Nat.le_of_ble_eq_true rfl) (fun r hr => mm_standsAt_ct x3_29 G hr) (fun v48 _ => ?_)
    exact j_mask [true, true, true, true, true] rfl (mm_wordsOf_j51_J a1 G  k7 hk7 (w32 (s1_29 + s0_29)) x3_29 x4_29 v48 v34)

set_option maxRecDepth 100000 in
theorem mm_wordsOf_L7_J {l : Launch} {H : Hp} (a1 : Int) (G : Hp) (k63 : Int → Int → Option (Int)) (hk63 : ∀ (x2_63 : Int) (x3_63 : Int), J l M_mm_wordsOf (KRi (fu H G)) (k63 x2_63 x3_63) 63 [(9, 0), (0, a1), (0, x2_63), (0, x3_63), (9, 0)] [] 224 (fu H G) (0, 0)) : ∀ (n_7 : Nat) (x2_7 : Int) (x3_7 : Int) (x4_7 : Int), J l M_mm_wordsOf (KRi (fu H G)) (mm_wordsOf_L7 a1 G k63 n_7 x2_7 x3_7 x4_7) 7 [(2, 201), (0, a1), (0, x2_7), (0, x3_7), (0, x4_7)] [] 224 (fu H G) (0, 0) := by
  intro n_7
  induction n_7 with
  | zero =>
    intro x2_7 x3_7 x4_7
    exact j_none
  | succ n_7 ih =>
    intro x2_7 x3_7 x4_7
    rw [mm_wordsOf_L7]
    refine j_iload dX11_wordsOf_7 rfl ?_
    refine j_bipush dX11_wordsOf_9 r32_10 bp_10 ?_
    refine j_icmp_ge (tgt := 63) dX11_wordsOf_11 rfl (fun h11 => ?_) (fun h11 => ?_)
    · refine j_iload_n dX11_wordsOf_14 rfl rfl ?_
      refine j_aload_n dX11_wordsOf_15 rfl rfl ?_
      refine j_iload dX11_wordsOf_16 rfl ?_
      refine j_cVRi dX11_wordsOf_18 im_mm_standsAt lk_X11_390 rfl (As := [(0, x4_7)]) (S := [(0, x2_7)]) rfl om_201.1 ⟨by decide, by decide⟩ (Nat.le_of_ble_eq_true rfl) (fun r hr => mm_standsAt_ct x4_7 G hr) (fun v18 _ => ?_)
      refine j_if_le (tgt := 28) dX11_wordsOf_21 rfl (fun h21 => ?_) (fun h21 => ?_)
      · refine j_iconst dX11_wordsOf_24 r32_1 ?_
        refine j_goto (tgt := 29) dX11_wordsOf_25 rfl ?_
        exact j_mask [true, true, false, true, true] rfl (mm_wordsOf_j29_J a1 G  (mm_wordsOf_L7 a1 G k63 n_7) ih x3_7 x4_7 1 x2_7)
      · refine j_iconst dX11_wordsOf_28 r32_0 ?_
        exact j_mask [true, true, false, true, true] rfl (mm_wordsOf_j29_J a1 G  (mm_wordsOf_L7 a1 G k63 n_7) ih x3_7 x4_7 0 x2_7)
    · exact j_mask [false, true, true, true, false] rfl (hk63 x2_7 x3_7)

set_option maxRecDepth 100000 in
theorem mm_wordsOf_J {l : Launch} {H : Hp} (a1 : Int) (G : Hp) : J l M_mm_wordsOf (KRi (fu H G)) (mm_wordsOf a1 G) 0 [(2, 201), (0, a1), (9, 0), (9, 0), (9, 0)] [] 224 (fu H G) (0, 0) := by
  unfold mm_wordsOf
  refine j_iconst dX11_wordsOf_0 r32_0 ?_
  refine j_istore_n dX11_wordsOf_1 rfl (Nat.le_of_ble_eq_true rfl) rfl ?_
  refine j_iconst dX11_wordsOf_2 r32_m1 ?_
  refine j_istore_n dX11_wordsOf_3 rfl (Nat.le_of_ble_eq_true rfl) rfl ?_
  refine j_iconst dX11_wordsOf_4 r32_0 ?_
  refine j_istore dX11_wordsOf_5 (Nat.le_of_ble_eq_true rfl) rfl ?_
  refine j_mask [true, true, true, true, true] rfl (mm_wordsOf_L7_J a1 G (fun x2_63 x3_63 => if a1 = 0 then some x2_63 else some x3_63) (fun x2_63 x3_63 => ?_) FU 0 (-1) 0)
  refine j_iload_n dX11_wordsOf_63 rfl rfl ?_
  refine j_if_eq (tgt := 71) dX11_wordsOf_64 rfl (fun h64 => ?_) (fun h64 => ?_)
  · refine j_iload_n dX11_wordsOf_71 rfl rfl ?_
    exact j_ireturn dX11_wordsOf_72 rfl rfl (Nat.zero_le _) (Nat.zero_le _)
  · refine j_iload_n dX11_wordsOf_67 rfl rfl ?_
    refine j_goto (tgt := 72) dX11_wordsOf_68 rfl ?_
    exact j_ireturn dX11_wordsOf_72 rfl rfl (Nat.zero_le _) (Nat.zero_le _)

set_option maxRecDepth 100000 in
theorem mm_wordsOf_ct {l : Launch} {H : Hp} (a1 : Int) (G : Hp) {r : Int} (h : mm_wordsOf a1 G = some r) : Ct l M_mm_wordsOf [(2, 201), (0, a1)] 224 (fu H G) ((KRi (fu H G)) r) :=
  ct_of_J (by decide +kernel) rfl (Nat.le_of_ble_eq_true rfl) (mm_wordsOf_J a1 G) h
set_option maxRecDepth 100000 in
theorem mm_rise_j74_J {l : Launch} {H : Hp} (a1 : Int) (a2 : Int) (s0_74 : Int) (G_74 : Hp) : J l M_mm_rise (KWi (fun g => fu H g)) (mm_rise_j74 a1 a2  s0_74 G_74) 74 [(9, 0), (9, 0), (9, 0)] [(0, s0_74), (2, 201)] 224 (fu H G_74) (0, 0) := by
  unfold mm_rise_j74
  refine j_cVRi dX11_rise_74 im_mm_wordsOf lk_X11_399 rfl (As := [(0, s0_74)]) (S := []) rfl om_201.1 ⟨by decide, by decide⟩ (Nat.le_of_ble_eq_true rfl) (fun r hr => mm_wordsOf_ct s0_74 G_74 hr) (fun v74 _ => ?_)
  exact j_ireturn dX11_rise_77 rfl rfl (Nat.zero_le _) (Nat.zero_le _)

set_option maxRecDepth 100000 in
theorem mm_rise_j63_J {l : Launch} {H : Hp} (a1 : Int) (a2 : Int) (G_63 : Hp) : J l M_mm_rise (KWi (fun g => fu H g)) (mm_rise_j63 a1 a2  G_63) 63 [(2, 201), (9, 0), (0, a2)] [] 224 (fu H G_63) (0, 0) := by
  unfold mm_rise_j63
  refine j_aload_n dX11_rise_63 rfl rfl ?_
  refine j_iload_n dX11_rise_64 rfl rfl ?_
  refine j_iconst dX11_rise_65 r32_4 ?_
  refine j_icmp_ne (tgt := 73) dX11_rise_66 rfl (fun h66 => ?_) (fun h66 => ?_)
  · refine j_iconst dX11_rise_69 r32_1 ?_
    refine j_goto (tgt := 74) dX11_rise_70 rfl ?_
    exact j_mask [false, false, false] rfl (mm_rise_j74_J a1 a2 1 G_63)
  · refine j_iconst dX11_rise_73 r32_0 ?_
    exact j_mask [false, false, false] rfl (mm_rise_j74_J a1 a2 0 G_63)

set_option maxRecDepth 100000 in
theorem mm_rise_J {l : Launch} {H : Hp} (a1 : Int) (a2 : Int) (G : Hp) : J l M_mm_rise (KWi (fun g => fu H g)) (mm_rise a1 a2 G) 0 [(2, 201), (0, a1), (0, a2)] [] 224 (fu H G) (0, 0) := by
  unfold mm_rise
  refine j_aload_n dX11_rise_0 rfl rfl ?_
  refine j_iload_n dX11_rise_1 rfl rfl ?_
  refine j_cVWb dX11_rise_2 im_mm_isPaper lk_X11_209 rfl (As := [(0, a1)]) (S := []) rfl om_201.1 ⟨by decide, by decide⟩ (Nat.le_of_ble_eq_true rfl) (fun r hr => mm_isPaper_ct a1 G hr) (fun r2 _ => ?_)
  refine j_ifb_ne (tgt := 11) dX11_rise_5 rfl (fun h5 => ?_) (fun h5 => ?_)
  · refine j_iload_n dX11_rise_11 rfl rfl ?_
    refine j_ite _ (fun hc12_0 => ?_) (fun hc12_0 => ?_)
    · refine j_swIn (i := 0) (tgt := 48) dX11_rise_12 (hc12_0.trans (by decide)) (by decide) rfl rfl ?_
      refine j_aload_n dX11_rise_48 rfl rfl ?_
      refine j_cVWi dX11_rise_49 im_mm_laysRise lk_X11_387 rfl (As := []) (S := []) rfl om_201.1 ⟨by decide, by decide⟩ (Nat.le_of_ble_eq_true rfl) (fun r hr => mm_laysRise_ct  r2.2 hr) (fun r49 _ => ?_)
      exact j_ireturn dX11_rise_52 rfl rfl (Nat.zero_le _) (Nat.zero_le _)
    · refine j_ite _ (fun hc12_1 => ?_) (fun hc12_1 => ?_)
      · refine j_swIn (i := 1) (tgt := 53) dX11_rise_12 (hc12_1.trans (by decide)) (by decide) rfl rfl ?_
        refine j_aload_n dX11_rise_53 rfl rfl ?_
        refine j_cVRi dX11_rise_54 im_mm_bendOf lk_X11_393 rfl (As := []) (S := []) rfl om_201.1 ⟨by decide, by decide⟩ (Nat.le_of_ble_eq_true rfl) (fun r hr => mm_bendOf_ct  r2.2 hr) (fun v54 _ => ?_)
        exact j_ireturn dX11_rise_57 rfl rfl (Nat.zero_le _) (Nat.zero_le _)
      · refine j_ite _ (fun hc12_2 => ?_) (fun hc12_2 => ?_)
        · refine j_swIn (i := 2) (tgt := 58) dX11_rise_12 (hc12_2.trans (by decide)) (by decide) rfl rfl ?_
          refine j_aload_n dX11_rise_58 rfl rfl ?_
          refine j_cVRi dX11_rise_59 im_mm_twiceOf lk_X11_396 rfl (As := []) (S := []) rfl om_201.1 ⟨by decide, by decide⟩ (Nat.le_of_ble_eq_true rfl) (fun r hr => mm_twiceOf_ct  r2.2 hr) (fun v59 _ => ?_)
          exact j_ireturn dX11_rise_62 rfl rfl (Nat.zero_le _) (Nat.zero_le _)
        · refine j_ite _ (fun hc12_3 => ?_) (fun hc12_3 => ?_)
          · refine j_swIn (i := 3) (tgt := 63) dX11_rise_12 (hc12_3.trans (by decide)) (by decide) rfl rfl ?_
            exact j_mask [true, false, true] rfl (mm_rise_j63_J a1 a2 r2.2)
          · refine j_ite _ (fun hc12_4 => ?_) (fun hc12_4 => ?_)
            · refine j_swIn (i := 4) (tgt := 63) dX11_rise_12 (hc12_4.trans (by decide)) (by decide) rfl rfl ?_
              exact j_mask [true, false, true] rfl (mm_rise_j63_J a1 a2 r2.2)
            · refine j_swOut (tgt := 78) dX11_rise_12 (by omega) rfl ?_
              refine j_iload_n dX11_rise_78 rfl rfl ?_
              refine j_bipush dX11_rise_79 r32_10 bp_10 ?_
              refine j_icmp_ge (tgt := 89) dX11_rise_81 rfl (fun h81 => ?_) (fun h81 => ?_)
              · refine j_bipush dX11_rise_84 r32_m2 bp_m2 ?_
                refine j_goto (tgt := 97) dX11_rise_86 rfl ?_
                exact j_ireturn dX11_rise_97 rfl rfl (Nat.zero_le _) (Nat.zero_le _)
              · refine j_aload_n dX11_rise_89 rfl rfl ?_
                refine j_iload_n dX11_rise_90 rfl rfl ?_
                refine j_bipush dX11_rise_91 r32_10 bp_10 ?_
                refine j_isub dX11_rise_93 ?_
                refine j_cVWi dX11_rise_94 im_mm_riseAt lk_X11_402 rfl (As := [(0, w32 (a2 - 10))]) (S := []) rfl om_201.1 ⟨by decide, by decide⟩ (Nat.le_of_ble_eq_true rfl) (fun r hr => mm_riseAt_ct (w32 (a2 - 10)) r2.2 hr) (fun r94 _ => ?_)
                exact j_ireturn dX11_rise_97 rfl rfl (Nat.zero_le _) (Nat.zero_le _)
  · refine j_bipush dX11_rise_8 r32_m2 bp_m2 ?_
    exact j_ireturn dX11_rise_10 rfl rfl (Nat.zero_le _) (Nat.zero_le _)

set_option maxRecDepth 100000 in
theorem mm_rise_ct {l : Launch} {H : Hp} (a1 : Int) (a2 : Int) (G : Hp) {r : Int × Hp} (h : mm_rise a1 a2 G = some r) : Ct l M_mm_rise [(2, 201), (0, a1), (0, a2)] 224 (fu H G) ((KWi (fun g => fu H g)) r) :=
  ct_of_J (by decide +kernel) rfl (Nat.le_of_ble_eq_true rfl) (mm_rise_J a1 a2 G) h
set_option maxRecDepth 100000 in
theorem mm_idleOf_L4_J {l : Launch} {H : Hp} : ∀ (n_4 : Nat) (x1_4 : Int) (x2_4 : Int) (G_4 : Hp), J l M_mm_idleOf (KWi (fun g => fu H g)) (mm_idleOf_L4  n_4 x1_4 x2_4 G_4) 4 [(2, 201), (0, x1_4), (0, x2_4)] [] 224 (fu H G_4) (0, 0) := by
  intro n_4
  induction n_4 with
  | zero =>
    intro x1_4 x2_4 G_4
    exact j_none
  | succ n_4 ih =>
    intro x1_4 x2_4 G_4
    rw [mm_idleOf_L4]
    refine j_iload_n dX11_idleOf_4 rfl rfl ?_
    refine j_aload_n dX11_idleOf_5 rfl rfl ?_
    refine j_gim dX11_idleOf_6 gf_X11_203 om_201 ?_
    refine j_icmp_ge (tgt := 40) dX11_idleOf_9 rfl (fun h9 => ?_) (fun h9 => ?_)
    · refine j_aload_n dX11_idleOf_12 rfl rfl ?_
      refine j_cVWv dX11_idleOf_13 im_mm_beginsProof lk_X11_245 rfl (As := []) (S := []) rfl om_201.1 ⟨by decide, by decide⟩ (Nat.le_of_ble_eq_true rfl) (fun r hr => mm_beginsProof_ct  G_4 hr) (fun G13 _ => ?_)
      refine j_iload_n dX11_idleOf_16 rfl rfl ?_
      refine j_aload_n dX11_idleOf_17 rfl rfl ?_
      refine j_iload_n dX11_idleOf_18 rfl rfl ?_
      refine j_cVWi dX11_idleOf_19 im_mm_reads lk_X11_269 rfl (As := [(0, x2_4)]) (S := [(0, x1_4)]) rfl om_201.1 ⟨by decide, by decide⟩ (Nat.le_of_ble_eq_true rfl) (fun r hr => mm_reads_ct x2_4 G13 hr) (fun r19 _ => ?_)
      refine j_if_ne (tgt := 31) dX11_idleOf_22 rfl (fun h22 => ?_) (fun h22 => ?_)
      · refine j_iconst dX11_idleOf_25 r32_1 ?_
        refine j_iload_n dX11_idleOf_26 rfl rfl ?_
        refine j_ishl dX11_idleOf_27 ?_
        refine j_goto (tgt := 32) dX11_idleOf_28 rfl ?_
        refine j_ior dX11_idleOf_32 ?_
        refine j_istore_n dX11_idleOf_33 rfl (Nat.le_of_ble_eq_true rfl) rfl ?_
        refine j_iinc dX11_idleOf_34 rfl (Nat.le_of_ble_eq_true rfl) rfl ?_
        refine j_goto (tgt := 4) dX11_idleOf_37 rfl ?_
        exact j_mask [true, true, true] rfl (ih (ior x1_4 (ishl 1 x2_4)) (w32 (x2_4 + 1)) r19.2)
      · refine j_iconst dX11_idleOf_31 r32_0 ?_
        refine j_ior dX11_idleOf_32 ?_
        refine j_istore_n dX11_idleOf_33 rfl (Nat.le_of_ble_eq_true rfl) rfl ?_
        refine j_iinc dX11_idleOf_34 rfl (Nat.le_of_ble_eq_true rfl) rfl ?_
        refine j_goto (tgt := 4) dX11_idleOf_37 rfl ?_
        exact j_mask [true, true, true] rfl (ih (ior x1_4 0) (w32 (x2_4 + 1)) r19.2)
    · refine j_iload_n dX11_idleOf_40 rfl rfl ?_
      exact j_ireturn dX11_idleOf_41 rfl rfl (Nat.zero_le _) (Nat.zero_le _)

set_option maxRecDepth 100000 in
theorem mm_idleOf_J {l : Launch} {H : Hp} (G : Hp) : J l M_mm_idleOf (KWi (fun g => fu H g)) (mm_idleOf  G) 0 [(2, 201), (9, 0), (9, 0)] [] 224 (fu H G) (0, 0) := by
  unfold mm_idleOf
  refine j_iconst dX11_idleOf_0 r32_0 ?_
  refine j_istore_n dX11_idleOf_1 rfl (Nat.le_of_ble_eq_true rfl) rfl ?_
  refine j_iconst dX11_idleOf_2 r32_0 ?_
  refine j_istore_n dX11_idleOf_3 rfl (Nat.le_of_ble_eq_true rfl) rfl ?_
  exact j_mask [true, true, true] rfl (mm_idleOf_L4_J FU 0 0 G)

set_option maxRecDepth 100000 in
theorem mm_idleOf_ct {l : Launch} {H : Hp} (G : Hp) {r : Int × Hp} (h : mm_idleOf  G = some r) : Ct l M_mm_idleOf [(2, 201)] 224 (fu H G) ((KWi (fun g => fu H g)) r) :=
  ct_of_J (by decide +kernel) rfl (Nat.le_of_ble_eq_true rfl) (mm_idleOf_J  G) h
set_option maxRecDepth 100000 in
theorem mm_lastWordOf_L22_J {l : Launch} {H : Hp} (a1 : Int) (x2_22 : Int) (x3_22 : Int) (x4_22 : Int) (k56 : Hp → Option (Int × Hp)) (hk56 : ∀ (G_56 : Hp), J l M_mm_lastWordOf (KWi (fun g => fu H g)) (k56 G_56) 56 [(2, 201), (0, a1), (0, x2_22), (0, x3_22), (0, x4_22), (9, 0), (9, 0)] [] 224 (fu H G_56) (0, 0)) : ∀ (n_22 : Nat) (x5_22 : Int) (x6_22 : Int) (G_22 : Hp), J l M_mm_lastWordOf (KWi (fun g => fu H g)) (mm_lastWordOf_L22 a1 x2_22 x3_22 x4_22 k56 n_22 x5_22 x6_22 G_22) 22 [(2, 201), (0, a1), (0, x2_22), (0, x3_22), (0, x4_22), (0, x5_22), (0, x6_22)] [] 224 (fu H G_22) (0, 0) := by
  intro n_22
  induction n_22 with
  | zero =>
    intro x5_22 x6_22 G_22
    exact j_none
  | succ n_22 ih =>
    intro x5_22 x6_22 G_22
    rw [mm_lastWordOf_L22]
    refine j_iload dX11_lastWordOf_22 rfl ?_
    refine j_aload_n dX11_lastWordOf_24 rfl rfl ?_
    refine j_gim dX11_lastWordOf_25 gf_X11_203 om_201 ?_
    refine j_icmp_ge (tgt := 56) dX11_lastWordOf_28 rfl (fun h28 => ?_) (fun h28 => ?_)
    · refine j_iload dX11_lastWordOf_31 rfl ?_
      refine j_iload dX11_lastWordOf_33 rfl ?_
      refine j_icmp_eq (tgt := 50) dX11_lastWordOf_35 rfl (fun h35 => ?_) (fun h35 => ?_)
      · refine j_iinc dX11_lastWordOf_50 rfl (Nat.le_of_ble_eq_true rfl) rfl ?_
        refine j_goto (tgt := 22) dX11_lastWordOf_53 rfl ?_
        exact j_mask [true, true, true, true, true, true, true] rfl (ih x5_22 (w32 (x6_22 + 1)) G_22)
      · refine j_aload_n dX11_lastWordOf_38 rfl rfl ?_
        refine j_grm dX11_lastWordOf_39 gf_X11_44 om_201 (Or.inl (by decide)) rf_201_29 ?_
        refine j_iload dX11_lastWordOf_42 rfl ?_
        refine j_iinc dX11_lastWordOf_44 rfl (Nat.le_of_ble_eq_true rfl) rfl ?_
        refine j_iload dX11_lastWordOf_47 rfl ?_
        refine j_gd (fun h49a h49b => ?_)
        refine j_sim dX11_lastWordOf_49 om_213 rfl h49a h49b ?_
        refine j_iinc dX11_lastWordOf_50 rfl (Nat.le_of_ble_eq_true rfl) rfl ?_
        refine j_goto (tgt := 22) dX11_lastWordOf_53 rfl ?_
        exact j_mask [true, true, true, true, true, true, true] rfl (ih (w32 (x5_22 + 1)) (w32 (x6_22 + 1)) (upd2 G_22 213 x5_22 x6_22))
    · exact j_mask [true, true, true, true, true, false, false] rfl (hk56 G_22)

set_option maxRecDepth 100000 in
theorem mm_lastWordOf_L7_J {l : Launch} {H : Hp} (a1 : Int) (k101 : Int → Int → Hp → Option (Int × Hp)) (hk101 : ∀ (x2_101 : Int) (x3_101 : Int) (G_101 : Hp), J l M_mm_lastWordOf (KWi (fun g => fu H g)) (k101 x2_101 x3_101 G_101) 101 [(9, 0), (0, a1), (0, x2_101), (0, x3_101), (9, 0), (9, 0), (9, 0)] [] 224 (fu H G_101) (0, 0)) : ∀ (n_7 : Nat) (x2_7 : Int) (x3_7 : Int) (x4_7 : Int) (G_7 : Hp), J l M_mm_lastWordOf (KWi (fun g => fu H g)) (mm_lastWordOf_L7 a1 k101 n_7 x2_7 x3_7 x4_7 G_7) 7 [(2, 201), (0, a1), (0, x2_7), (0, x3_7), (0, x4_7), (9, 0), (9, 0)] [] 224 (fu H G_7) (0, 0) := by
  intro n_7
  induction n_7 with
  | zero =>
    intro x2_7 x3_7 x4_7 G_7
    exact j_none
  | succ n_7 ih =>
    intro x2_7 x3_7 x4_7 G_7
    rw [mm_lastWordOf_L7]
    refine j_iload dX11_lastWordOf_7 rfl ?_
    refine j_aload_n dX11_lastWordOf_9 rfl rfl ?_
    refine j_gim dX11_lastWordOf_10 gf_X11_203 om_201 ?_
    refine j_icmp_ge (tgt := 101) dX11_lastWordOf_13 rfl (fun h13 => ?_) (fun h13 => ?_)
    · refine j_iconst dX11_lastWordOf_16 r32_0 ?_
      refine j_istore dX11_lastWordOf_17 (Nat.le_of_ble_eq_true rfl) rfl ?_
      refine j_iconst dX11_lastWordOf_19 r32_0 ?_
      refine j_istore dX11_lastWordOf_20 (Nat.le_of_ble_eq_true rfl) rfl ?_
      refine j_mask [true, true, true, true, true, true, true] rfl (mm_lastWordOf_L22_J a1 x2_7 x3_7 x4_7 (fun G_56 => gd (w32 ((G_56 201 14) - 1)) 6 ((mm_readsRow (upd2 G_56 213 (w32 ((G_56 201 14) - 1)) x4_7)).bind fun r70 => if x2_7 = (-1) then mm_lastWordOf_L7 a1 k101 n_7 x4_7 r70.1 (w32 (x4_7 + 1)) r70.2 else (if r70.1 ≤ x3_7 then mm_lastWordOf_L7 a1 k101 n_7 x2_7 x3_7 (w32 (x4_7 + 1)) r70.2 else mm_lastWordOf_L7 a1 k101 n_7 x4_7 r70.1 (w32 (x4_7 + 1)) r70.2))) (fun G_56 => ?_) FU 0 0 G_7)
      refine j_aload_n dX11_lastWordOf_56 rfl rfl ?_
      refine j_grm dX11_lastWordOf_57 gf_X11_44 om_201 (Or.inl (by decide)) rf_201_29 ?_
      refine j_aload_n dX11_lastWordOf_60 rfl rfl ?_
      refine j_gim dX11_lastWordOf_61 gf_X11_203 om_201 ?_
      refine j_iconst dX11_lastWordOf_64 r32_1 ?_
      refine j_isub dX11_lastWordOf_65 ?_
      refine j_iload dX11_lastWordOf_66 rfl ?_
      refine j_gd (fun h68a h68b => ?_)
      refine j_sim dX11_lastWordOf_68 om_213 rfl h68a h68b ?_
      refine j_aload_n dX11_lastWordOf_69 rfl rfl ?_
      refine j_cVWi dX11_lastWordOf_70 im_mm_readsRow lk_X11_297 rfl (As := []) (S := []) rfl om_201.1 ⟨by decide, by decide⟩ (Nat.le_of_ble_eq_true rfl) (fun r hr => mm_readsRow_ct  (upd2 G_56 213 (w32 ((G_56 201 14) - 1)) x4_7) hr) (fun r70 _ => ?_)
      refine j_istore dX11_lastWordOf_73 (Nat.le_of_ble_eq_true rfl) rfl ?_
      refine j_iload_n dX11_lastWordOf_75 rfl rfl ?_
      refine j_iconst dX11_lastWordOf_76 r32_m1 ?_
      refine j_icmp_eq (tgt := 89) dX11_lastWordOf_77 rfl (fun h77 => ?_) (fun h77 => ?_)
      · refine j_iload dX11_lastWordOf_89 rfl ?_
        refine j_istore_n dX11_lastWordOf_91 rfl (Nat.le_of_ble_eq_true rfl) rfl ?_
        refine j_iload dX11_lastWordOf_92 rfl ?_
        refine j_istore_n dX11_lastWordOf_94 rfl (Nat.le_of_ble_eq_true rfl) rfl ?_
        refine j_iinc dX11_lastWordOf_95 rfl (Nat.le_of_ble_eq_true rfl) rfl ?_
        refine j_goto (tgt := 7) dX11_lastWordOf_98 rfl ?_
        exact j_mask [true, true, true, true, true, false, false] rfl (ih x4_7 r70.1 (w32 (x4_7 + 1)) r70.2)
      · refine j_iload dX11_lastWordOf_80 rfl ?_
        refine j_iload_n dX11_lastWordOf_82 rfl rfl ?_
        refine j_icmp_gt (tgt := 89) dX11_lastWordOf_83 rfl (fun h83 => ?_) (fun h83 => ?_)
        · refine j_goto (tgt := 95) dX11_lastWordOf_86 rfl ?_
          refine j_iinc dX11_lastWordOf_95 rfl (Nat.le_of_ble_eq_true rfl) rfl ?_
          refine j_goto (tgt := 7) dX11_lastWordOf_98 rfl ?_
          exact j_mask [true, true, true, true, true, false, false] rfl (ih x2_7 x3_7 (w32 (x4_7 + 1)) r70.2)
        · refine j_iload dX11_lastWordOf_89 rfl ?_
          refine j_istore_n dX11_lastWordOf_91 rfl (Nat.le_of_ble_eq_true rfl) rfl ?_
          refine j_iload dX11_lastWordOf_92 rfl ?_
          refine j_istore_n dX11_lastWordOf_94 rfl (Nat.le_of_ble_eq_true rfl) rfl ?_
          refine j_iinc dX11_lastWordOf_95 rfl (Nat.le_of_ble_eq_true rfl) rfl ?_
          refine j_goto (tgt := 7) dX11_lastWordOf_98 rfl ?_
          exact j_mask [true, true, true, true, true, false, false] rfl (ih x4_7 r70.1 (w32 (x4_7 + 1)) r70.2)
    · exact j_mask [false, true, true, true, false, false, false] rfl (hk101 x2_7 x3_7 G_7)

set_option maxRecDepth 100000 in
theorem mm_lastWordOf_J {l : Launch} {H : Hp} (a1 : Int) (G : Hp) : J l M_mm_lastWordOf (KWi (fun g => fu H g)) (mm_lastWordOf a1 G) 0 [(2, 201), (0, a1), (9, 0), (9, 0), (9, 0), (9, 0), (9, 0)] [] 224 (fu H G) (0, 0) := by
  unfold mm_lastWordOf
  refine j_iconst dX11_lastWordOf_0 r32_m1 ?_
  refine j_istore_n dX11_lastWordOf_1 rfl (Nat.le_of_ble_eq_true rfl) rfl ?_
  refine j_iconst dX11_lastWordOf_2 r32_0 ?_
  refine j_istore_n dX11_lastWordOf_3 rfl (Nat.le_of_ble_eq_true rfl) rfl ?_
  refine j_iconst dX11_lastWordOf_4 r32_0 ?_
  refine j_istore dX11_lastWordOf_5 (Nat.le_of_ble_eq_true rfl) rfl ?_
  refine j_mask [true, true, true, true, true, false, false] rfl (mm_lastWordOf_L7_J a1 (fun x2_101 x3_101 G_101 => if a1 = 0 then some (x2_101, G_101) else some (x3_101, G_101)) (fun x2_101 x3_101 G_101 => ?_) FU (-1) 0 0 G)
  refine j_iload_n dX11_lastWordOf_101 rfl rfl ?_
  refine j_if_eq (tgt := 109) dX11_lastWordOf_102 rfl (fun h102 => ?_) (fun h102 => ?_)
  · refine j_iload_n dX11_lastWordOf_109 rfl rfl ?_
    exact j_ireturn dX11_lastWordOf_110 rfl rfl (Nat.zero_le _) (Nat.zero_le _)
  · refine j_iload_n dX11_lastWordOf_105 rfl rfl ?_
    refine j_goto (tgt := 110) dX11_lastWordOf_106 rfl ?_
    exact j_ireturn dX11_lastWordOf_110 rfl rfl (Nat.zero_le _) (Nat.zero_le _)

set_option maxRecDepth 100000 in
theorem mm_lastWordOf_ct {l : Launch} {H : Hp} (a1 : Int) (G : Hp) {r : Int × Hp} (h : mm_lastWordOf a1 G = some r) : Ct l M_mm_lastWordOf [(2, 201), (0, a1)] 224 (fu H G) ((KWi (fun g => fu H g)) r) :=
  ct_of_J (by decide +kernel) rfl (Nat.le_of_ble_eq_true rfl) (mm_lastWordOf_J a1 G) h
set_option maxRecDepth 100000 in
theorem mm_swapOf_j63_J {l : Launch} {H : Hp} (a1 : Int) (x4_22 : Int) (k22 : Int → Int → Int → Hp → Option (Int × Hp)) (hk22 : ∀ (x2_22 : Int) (x3_22 : Int) (x5_22 : Int) (G_22 : Hp), J l M_mm_swapOf (KWi (fun g => fu H g)) (k22 x2_22 x3_22 x5_22 G_22) 22 [(2, 201), (0, a1), (0, x2_22), (0, x3_22), (0, x4_22), (0, x5_22), (9, 0)] [] 224 (fu H G_22) (0, 0)) (x5_63 : Int) (x6_63 : Int) (G_63 : Hp) : J l M_mm_swapOf (KWi (fun g => fu H g)) (mm_swapOf_j63 a1 k22 x4_22 x5_63 x6_63 G_63) 63 [(2, 201), (0, a1), (9, 0), (9, 0), (0, x4_22), (0, x5_63), (0, x6_63)] [] 224 (fu H G_63) (0, 0) := by
  unfold mm_swapOf_j63
  refine j_bipush dX11_swapOf_63 r32_10 bp_10 ?_
  refine j_iload dX11_swapOf_65 rfl ?_
  refine j_imul dX11_swapOf_67 ?_
  refine j_iload dX11_swapOf_68 rfl ?_
  refine j_iadd dX11_swapOf_70 ?_
  refine j_istore_n dX11_swapOf_71 rfl (Nat.le_of_ble_eq_true rfl) rfl ?_
  refine j_iload dX11_swapOf_72 rfl ?_
  refine j_istore_n dX11_swapOf_74 rfl (Nat.le_of_ble_eq_true rfl) rfl ?_
  refine j_iinc dX11_swapOf_75 rfl (Nat.le_of_ble_eq_true rfl) rfl ?_
  refine j_goto (tgt := 22) dX11_swapOf_78 rfl ?_
  exact j_mask [true, true, true, true, true, true, false] rfl (hk22 (w32 ((w32 (10 * x4_22)) + x5_63)) x6_63 (w32 (x5_63 + 1)) G_63)

set_option maxRecDepth 100000 in
theorem mm_swapOf_L22_J {l : Launch} {H : Hp} (a1 : Int) (x4_22 : Int) (k81 : Int → Int → Hp → Option (Int × Hp)) (hk81 : ∀ (x2_81 : Int) (x3_81 : Int) (G_81 : Hp), J l M_mm_swapOf (KWi (fun g => fu H g)) (k81 x2_81 x3_81 G_81) 81 [(2, 201), (0, a1), (0, x2_81), (0, x3_81), (0, x4_22), (9, 0), (9, 0)] [] 224 (fu H G_81) (0, 0)) : ∀ (n_22 : Nat) (x2_22 : Int) (x3_22 : Int) (x5_22 : Int) (G_22 : Hp), J l M_mm_swapOf (KWi (fun g => fu H g)) (mm_swapOf_L22 a1 x4_22 k81 n_22 x2_22 x3_22 x5_22 G_22) 22 [(2, 201), (0, a1), (0, x2_22), (0, x3_22), (0, x4_22), (0, x5_22), (9, 0)] [] 224 (fu H G_22) (0, 0) := by
  intro n_22
  induction n_22 with
  | zero =>
    intro x2_22 x3_22 x5_22 G_22
    exact j_none
  | succ n_22 ih =>
    intro x2_22 x3_22 x5_22 G_22
    rw [mm_swapOf_L22]
    refine j_iload dX11_swapOf_22 rfl ?_
    refine j_aload_n dX11_swapOf_24 rfl rfl ?_
    refine j_gim dX11_swapOf_25 gf_X11_203 om_201 ?_
    refine j_icmp_ge (tgt := 81) dX11_swapOf_28 rfl (fun h28 => ?_) (fun h28 => ?_)
    · refine j_aload_n dX11_swapOf_31 rfl rfl ?_
      refine j_cVWv dX11_swapOf_32 im_mm_firstRow lk_X11_294 rfl (As := []) (S := []) rfl om_201.1 ⟨by decide, by decide⟩ (Nat.le_of_ble_eq_true rfl) (fun r hr => mm_firstRow_ct  G_22 hr) (fun G32 _ => ?_)
      refine j_aload_n dX11_swapOf_35 rfl rfl ?_
      refine j_iload dX11_swapOf_36 rfl ?_
      refine j_iload dX11_swapOf_38 rfl ?_
      refine j_cVWv dX11_swapOf_40 im_mm_changesPlaces lk_X11_291 rfl (As := [(0, x4_22), (0, x5_22)]) (S := []) rfl om_201.1 ⟨by decide, by decide⟩ (Nat.le_of_ble_eq_true rfl) (fun r hr => mm_changesPlaces_ct x4_22 x5_22 G32 hr) (fun G40 _ => ?_)
      refine j_aload_n dX11_swapOf_43 rfl rfl ?_
      refine j_cVWi dX11_swapOf_44 im_mm_readsRow lk_X11_297 rfl (As := []) (S := []) rfl om_201.1 ⟨by decide, by decide⟩ (Nat.le_of_ble_eq_true rfl) (fun r hr => mm_readsRow_ct  G40 hr) (fun r44 _ => ?_)
      refine j_istore dX11_swapOf_47 (Nat.le_of_ble_eq_true rfl) rfl ?_
      refine j_iload_n dX11_swapOf_49 rfl rfl ?_
      refine j_iconst dX11_swapOf_50 r32_m1 ?_
      refine j_icmp_eq (tgt := 63) dX11_swapOf_51 rfl (fun h51 => ?_) (fun h51 => ?_)
      · exact j_mask [true, true, false, false, true, true, true] rfl (mm_swapOf_j63_J a1 x4_22 (mm_swapOf_L22 a1 x4_22 k81 n_22) ih x5_22 r44.1 r44.2)
      · refine j_iload dX11_swapOf_54 rfl ?_
        refine j_iload_n dX11_swapOf_56 rfl rfl ?_
        refine j_icmp_gt (tgt := 63) dX11_swapOf_57 rfl (fun h57 => ?_) (fun h57 => ?_)
        · refine j_goto (tgt := 75) dX11_swapOf_60 rfl ?_
          refine j_iinc dX11_swapOf_75 rfl (Nat.le_of_ble_eq_true rfl) rfl ?_
          refine j_goto (tgt := 22) dX11_swapOf_78 rfl ?_
          exact j_mask [true, true, true, true, true, true, false] rfl (ih x2_22 x3_22 (w32 (x5_22 + 1)) r44.2)
        · exact j_mask [true, true, false, false, true, true, true] rfl (mm_swapOf_j63_J a1 x4_22 (mm_swapOf_L22 a1 x4_22 k81 n_22) ih x5_22 r44.1 r44.2)
    · exact j_mask [true, true, true, true, true, false, false] rfl (hk81 x2_22 x3_22 G_22)

set_option maxRecDepth 100000 in
theorem mm_swapOf_L7_J {l : Launch} {H : Hp} (a1 : Int) (k87 : Int → Int → Hp → Option (Int × Hp)) (hk87 : ∀ (x2_87 : Int) (x3_87 : Int) (G_87 : Hp), J l M_mm_swapOf (KWi (fun g => fu H g)) (k87 x2_87 x3_87 G_87) 87 [(9, 0), (0, a1), (0, x2_87), (0, x3_87), (9, 0), (9, 0), (9, 0)] [] 224 (fu H G_87) (0, 0)) : ∀ (n_7 : Nat) (x2_7 : Int) (x3_7 : Int) (x4_7 : Int) (G_7 : Hp), J l M_mm_swapOf (KWi (fun g => fu H g)) (mm_swapOf_L7 a1 k87 n_7 x2_7 x3_7 x4_7 G_7) 7 [(2, 201), (0, a1), (0, x2_7), (0, x3_7), (0, x4_7), (9, 0), (9, 0)] [] 224 (fu H G_7) (0, 0) := by
  intro n_7
  induction n_7 with
  | zero =>
    intro x2_7 x3_7 x4_7 G_7
    exact j_none
  | succ n_7 ih =>
    intro x2_7 x3_7 x4_7 G_7
    rw [mm_swapOf_L7]
    refine j_iload dX11_swapOf_7 rfl ?_
    refine j_aload_n dX11_swapOf_9 rfl rfl ?_
    refine j_gim dX11_swapOf_10 gf_X11_203 om_201 ?_
    refine j_icmp_ge (tgt := 87) dX11_swapOf_13 rfl (fun h13 => ?_) (fun h13 => ?_)
    · refine j_iload dX11_swapOf_16 rfl ?_
      refine j_iconst dX11_swapOf_18 r32_1 ?_
      refine j_iadd dX11_swapOf_19 ?_
      refine j_istore dX11_swapOf_20 (Nat.le_of_ble_eq_true rfl) rfl ?_
      refine j_mask [true, true, true, true, true, true, false] rfl (mm_swapOf_L22_J a1 x4_7 (fun x2_81 x3_81 G_81 => mm_swapOf_L7 a1 k87 n_7 x2_81 x3_81 (w32 (x4_7 + 1)) G_81) (fun x2_81 x3_81 G_81 => ?_) FU x2_7 x3_7 (w32 (x4_7 + 1)) G_7)
      refine j_iinc dX11_swapOf_81 rfl (Nat.le_of_ble_eq_true rfl) rfl ?_
      refine j_goto (tgt := 7) dX11_swapOf_84 rfl ?_
      exact j_mask [true, true, true, true, true, false, false] rfl (ih x2_81 x3_81 (w32 (x4_7 + 1)) G_81)
    · exact j_mask [false, true, true, true, false, false, false] rfl (hk87 x2_7 x3_7 G_7)

set_option maxRecDepth 100000 in
theorem mm_swapOf_J {l : Launch} {H : Hp} (a1 : Int) (G : Hp) : J l M_mm_swapOf (KWi (fun g => fu H g)) (mm_swapOf a1 G) 0 [(2, 201), (0, a1), (9, 0), (9, 0), (9, 0), (9, 0), (9, 0)] [] 224 (fu H G) (0, 0) := by
  unfold mm_swapOf
  refine j_iconst dX11_swapOf_0 r32_m1 ?_
  refine j_istore_n dX11_swapOf_1 rfl (Nat.le_of_ble_eq_true rfl) rfl ?_
  refine j_iconst dX11_swapOf_2 r32_0 ?_
  refine j_istore_n dX11_swapOf_3 rfl (Nat.le_of_ble_eq_true rfl) rfl ?_
  refine j_iconst dX11_swapOf_4 r32_0 ?_
  refine j_istore dX11_swapOf_5 (Nat.le_of_ble_eq_true rfl) rfl ?_
  refine j_mask [true, true, true, true, true, false, false] rfl (mm_swapOf_L7_J a1 (fun x2_87 x3_87 G_87 => if a1 = 0 then some (x2_87, G_87) else some (x3_87, G_87)) (fun x2_87 x3_87 G_87 => ?_) FU (-1) 0 0 G)
  refine j_iload_n dX11_swapOf_87 rfl rfl ?_
  refine j_if_eq (tgt := 95) dX11_swapOf_88 rfl (fun h88 => ?_) (fun h88 => ?_)
  · refine j_iload_n dX11_swapOf_95 rfl rfl ?_
    exact j_ireturn dX11_swapOf_96 rfl rfl (Nat.zero_le _) (Nat.zero_le _)
  · refine j_iload_n dX11_swapOf_91 rfl rfl ?_
    refine j_goto (tgt := 96) dX11_swapOf_92 rfl ?_
    exact j_ireturn dX11_swapOf_96 rfl rfl (Nat.zero_le _) (Nat.zero_le _)

set_option maxRecDepth 100000 in
theorem mm_swapOf_ct {l : Launch} {H : Hp} (a1 : Int) (G : Hp) {r : Int × Hp} (h : mm_swapOf a1 G = some r) : Ct l M_mm_swapOf [(2, 201), (0, a1)] 224 (fu H G) ((KWi (fun g => fu H g)) r) :=
  ct_of_J (by decide +kernel) rfl (Nat.le_of_ble_eq_true rfl) (mm_swapOf_J a1 G) h
set_option maxRecDepth 100000 in
theorem mm_teachOf_j83_J {l : Launch} {H : Hp} (a1 : Int) (x4_24 : Int) (k24 : Int → Int → Int → Hp → Option (Int × Hp)) (hk24 : ∀ (x2_24 : Int) (x3_24 : Int) (x5_24 : Int) (G_24 : Hp), J l M_mm_teachOf (KWi (fun g => fu H g)) (k24 x2_24 x3_24 x5_24 G_24) 24 [(2, 201), (0, a1), (0, x2_24), (0, x3_24), (0, x4_24), (0, x5_24), (9, 0)] [] 224 (fu H G_24) (0, 0)) (x5_83 : Int) (x6_83 : Int) (G_83 : Hp) : J l M_mm_teachOf (KWi (fun g => fu H g)) (mm_teachOf_j83 a1 k24 x4_24 x5_83 x6_83 G_83) 83 [(2, 201), (0, a1), (9, 0), (9, 0), (0, x4_24), (0, x5_83), (0, x6_83)] [] 224 (fu H G_83) (0, 0) := by
  unfold mm_teachOf_j83
  refine j_bipush dX11_teachOf_83 r32_10 bp_10 ?_
  refine j_iload dX11_teachOf_85 rfl ?_
  refine j_imul dX11_teachOf_87 ?_
  refine j_iload dX11_teachOf_88 rfl ?_
  refine j_iadd dX11_teachOf_90 ?_
  refine j_istore_n dX11_teachOf_91 rfl (Nat.le_of_ble_eq_true rfl) rfl ?_
  refine j_iload dX11_teachOf_92 rfl ?_
  refine j_istore_n dX11_teachOf_94 rfl (Nat.le_of_ble_eq_true rfl) rfl ?_
  refine j_iinc dX11_teachOf_95 rfl (Nat.le_of_ble_eq_true rfl) rfl ?_
  refine j_goto (tgt := 24) dX11_teachOf_98 rfl ?_
  exact j_mask [true, true, true, true, true, true, false] rfl (hk24 (w32 ((w32 (10 * x4_24)) + x5_83)) x6_83 (w32 (x5_83 + 1)) G_83)

set_option maxRecDepth 100000 in
theorem mm_teachOf_L24_J {l : Launch} {H : Hp} (a1 : Int) (x4_24 : Int) (k101 : Int → Int → Hp → Option (Int × Hp)) (hk101 : ∀ (x2_101 : Int) (x3_101 : Int) (G_101 : Hp), J l M_mm_teachOf (KWi (fun g => fu H g)) (k101 x2_101 x3_101 G_101) 101 [(2, 201), (0, a1), (0, x2_101), (0, x3_101), (0, x4_24), (9, 0), (9, 0)] [] 224 (fu H G_101) (0, 0)) : ∀ (n_24 : Nat) (x2_24 : Int) (x3_24 : Int) (x5_24 : Int) (G_24 : Hp), J l M_mm_teachOf (KWi (fun g => fu H g)) (mm_teachOf_L24 a1 x4_24 k101 n_24 x2_24 x3_24 x5_24 G_24) 24 [(2, 201), (0, a1), (0, x2_24), (0, x3_24), (0, x4_24), (0, x5_24), (9, 0)] [] 224 (fu H G_24) (0, 0) := by
  intro n_24
  induction n_24 with
  | zero =>
    intro x2_24 x3_24 x5_24 G_24
    exact j_none
  | succ n_24 ih =>
    intro x2_24 x3_24 x5_24 G_24
    rw [mm_teachOf_L24]
    refine j_iload dX11_teachOf_24 rfl ?_
    refine j_bipush dX11_teachOf_26 r32_10 bp_10 ?_
    refine j_icmp_ge (tgt := 101) dX11_teachOf_28 rfl (fun h28 => ?_) (fun h28 => ?_)
    · refine j_aload_n dX11_teachOf_31 rfl rfl ?_
      refine j_iload dX11_teachOf_32 rfl ?_
      refine j_iload dX11_teachOf_34 rfl ?_
      refine j_cVRb dX11_teachOf_36 im_mm_areNear lk_X11_233 rfl (As := [(0, x4_24), (0, x5_24)]) (S := []) rfl om_201.1 ⟨by decide, by decide⟩ (Nat.le_of_ble_eq_true rfl) (fun r hr => mm_areNear_ct x4_24 x5_24 G_24 hr) (fun v36 _ => ?_)
      refine j_ifb_eq (tgt := 45) dX11_teachOf_39 rfl (fun h39 => ?_) (fun h39 => ?_)
      · refine j_goto (tgt := 95) dX11_teachOf_42 rfl ?_
        refine j_iinc dX11_teachOf_95 rfl (Nat.le_of_ble_eq_true rfl) rfl ?_
        refine j_goto (tgt := 24) dX11_teachOf_98 rfl ?_
        exact j_mask [true, true, true, true, true, true, false] rfl (ih x2_24 x3_24 (w32 (x5_24 + 1)) G_24)
      · refine j_aload_n dX11_teachOf_45 rfl rfl ?_
        refine j_iload dX11_teachOf_46 rfl ?_
        refine j_iload dX11_teachOf_48 rfl ?_
        refine j_iconst dX11_teachOf_50 r32_1 ?_
        refine j_cVWv dX11_teachOf_51 im_mm_joins lk_X11_356 rfl (As := [(0, x4_24), (0, x5_24), (0, 1)]) (S := []) rfl om_201.1 ⟨by decide, by decide⟩ (Nat.le_of_ble_eq_true rfl) (fun r hr => mm_joins_ct x4_24 x5_24 1 G_24 hr) (fun G51 _ => ?_)
        refine j_aload_n dX11_teachOf_54 rfl rfl ?_
        refine j_cVWi dX11_teachOf_55 im_mm_readsRow lk_X11_297 rfl (As := []) (S := []) rfl om_201.1 ⟨by decide, by decide⟩ (Nat.le_of_ble_eq_true rfl) (fun r hr => mm_readsRow_ct  G51 hr) (fun r55 _ => ?_)
        refine j_istore dX11_teachOf_58 (Nat.le_of_ble_eq_true rfl) rfl ?_
        refine j_aload_n dX11_teachOf_60 rfl rfl ?_
        refine j_iload dX11_teachOf_61 rfl ?_
        refine j_iload dX11_teachOf_63 rfl ?_
        refine j_iconst dX11_teachOf_65 r32_0 ?_
        refine j_cVWv dX11_teachOf_66 im_mm_joins lk_X11_356 rfl (As := [(0, x4_24), (0, x5_24), (0, 0)]) (S := []) rfl om_201.1 ⟨by decide, by decide⟩ (Nat.le_of_ble_eq_true rfl) (fun r hr => mm_joins_ct x4_24 x5_24 0 r55.2 hr) (fun G66 _ => ?_)
        refine j_iload_n dX11_teachOf_69 rfl rfl ?_
        refine j_iconst dX11_teachOf_70 r32_m1 ?_
        refine j_icmp_eq (tgt := 83) dX11_teachOf_71 rfl (fun h71 => ?_) (fun h71 => ?_)
        · exact j_mask [true, true, false, false, true, true, true] rfl (mm_teachOf_j83_J a1 x4_24 (mm_teachOf_L24 a1 x4_24 k101 n_24) ih x5_24 r55.1 G66)
        · refine j_iload dX11_teachOf_74 rfl ?_
          refine j_iload_n dX11_teachOf_76 rfl rfl ?_
          refine j_icmp_gt (tgt := 83) dX11_teachOf_77 rfl (fun h77 => ?_) (fun h77 => ?_)
          · refine j_goto (tgt := 95) dX11_teachOf_80 rfl ?_
            refine j_iinc dX11_teachOf_95 rfl (Nat.le_of_ble_eq_true rfl) rfl ?_
            refine j_goto (tgt := 24) dX11_teachOf_98 rfl ?_
            exact j_mask [true, true, true, true, true, true, false] rfl (ih x2_24 x3_24 (w32 (x5_24 + 1)) G66)
          · exact j_mask [true, true, false, false, true, true, true] rfl (mm_teachOf_j83_J a1 x4_24 (mm_teachOf_L24 a1 x4_24 k101 n_24) ih x5_24 r55.1 G66)
    · exact j_mask [true, true, true, true, true, false, false] rfl (hk101 x2_24 x3_24 G_24)

set_option maxRecDepth 100000 in
theorem mm_teachOf_L11_J {l : Launch} {H : Hp} (a1 : Int) (k107 : Int → Int → Hp → Option (Int × Hp)) (hk107 : ∀ (x2_107 : Int) (x3_107 : Int) (G_107 : Hp), J l M_mm_teachOf (KWi (fun g => fu H g)) (k107 x2_107 x3_107 G_107) 107 [(9, 0), (0, a1), (0, x2_107), (0, x3_107), (9, 0), (9, 0), (9, 0)] [] 224 (fu H G_107) (0, 0)) : ∀ (n_11 : Nat) (x2_11 : Int) (x3_11 : Int) (x4_11 : Int) (G_11 : Hp), J l M_mm_teachOf (KWi (fun g => fu H g)) (mm_teachOf_L11 a1 k107 n_11 x2_11 x3_11 x4_11 G_11) 11 [(2, 201), (0, a1), (0, x2_11), (0, x3_11), (0, x4_11), (9, 0), (9, 0)] [] 224 (fu H G_11) (0, 0) := by
  intro n_11
  induction n_11 with
  | zero =>
    intro x2_11 x3_11 x4_11 G_11
    exact j_none
  | succ n_11 ih =>
    intro x2_11 x3_11 x4_11 G_11
    rw [mm_teachOf_L11]
    refine j_iload dX11_teachOf_11 rfl ?_
    refine j_bipush dX11_teachOf_13 r32_10 bp_10 ?_
    refine j_icmp_ge (tgt := 107) dX11_teachOf_15 rfl (fun h15 => ?_) (fun h15 => ?_)
    · refine j_iload dX11_teachOf_18 rfl ?_
      refine j_iconst dX11_teachOf_20 r32_1 ?_
      refine j_iadd dX11_teachOf_21 ?_
      refine j_istore dX11_teachOf_22 (Nat.le_of_ble_eq_true rfl) rfl ?_
      refine j_mask [true, true, true, true, true, true, false] rfl (mm_teachOf_L24_J a1 x4_11 (fun x2_101 x3_101 G_101 => mm_teachOf_L11 a1 k107 n_11 x2_101 x3_101 (w32 (x4_11 + 1)) G_101) (fun x2_101 x3_101 G_101 => ?_) FU x2_11 x3_11 (w32 (x4_11 + 1)) G_11)
      refine j_iinc dX11_teachOf_101 rfl (Nat.le_of_ble_eq_true rfl) rfl ?_
      refine j_goto (tgt := 11) dX11_teachOf_104 rfl ?_
      exact j_mask [true, true, true, true, true, false, false] rfl (ih x2_101 x3_101 (w32 (x4_11 + 1)) G_101)
    · exact j_mask [false, true, true, true, false, false, false] rfl (hk107 x2_11 x3_11 G_11)

set_option maxRecDepth 100000 in
theorem mm_teachOf_J {l : Launch} {H : Hp} (a1 : Int) (G : Hp) : J l M_mm_teachOf (KWi (fun g => fu H g)) (mm_teachOf a1 G) 0 [(2, 201), (0, a1), (9, 0), (9, 0), (9, 0), (9, 0), (9, 0)] [] 224 (fu H G) (0, 0) := by
  unfold mm_teachOf
  refine j_iconst dX11_teachOf_0 r32_m1 ?_
  refine j_istore_n dX11_teachOf_1 rfl (Nat.le_of_ble_eq_true rfl) rfl ?_
  refine j_iconst dX11_teachOf_2 r32_0 ?_
  refine j_istore_n dX11_teachOf_3 rfl (Nat.le_of_ble_eq_true rfl) rfl ?_
  refine j_aload_n dX11_teachOf_4 rfl rfl ?_
  refine j_cVWv dX11_teachOf_5 im_mm_firstRow lk_X11_294 rfl (As := []) (S := []) rfl om_201.1 ⟨by decide, by decide⟩ (Nat.le_of_ble_eq_true rfl) (fun r hr => mm_firstRow_ct  G hr) (fun G5 _ => ?_)
  refine j_iconst dX11_teachOf_8 r32_0 ?_
  refine j_istore dX11_teachOf_9 (Nat.le_of_ble_eq_true rfl) rfl ?_
  refine j_mask [true, true, true, true, true, false, false] rfl (mm_teachOf_L11_J a1 (fun x2_107 x3_107 G_107 => if a1 = 0 then some (x2_107, G_107) else some (x3_107, G_107)) (fun x2_107 x3_107 G_107 => ?_) FU (-1) 0 0 G5)
  refine j_iload_n dX11_teachOf_107 rfl rfl ?_
  refine j_if_eq (tgt := 115) dX11_teachOf_108 rfl (fun h108 => ?_) (fun h108 => ?_)
  · refine j_iload_n dX11_teachOf_115 rfl rfl ?_
    exact j_ireturn dX11_teachOf_116 rfl rfl (Nat.zero_le _) (Nat.zero_le _)
  · refine j_iload_n dX11_teachOf_111 rfl rfl ?_
    refine j_goto (tgt := 116) dX11_teachOf_112 rfl ?_
    exact j_ireturn dX11_teachOf_116 rfl rfl (Nat.zero_le _) (Nat.zero_le _)

set_option maxRecDepth 100000 in
theorem mm_teachOf_ct {l : Launch} {H : Hp} (a1 : Int) (G : Hp) {r : Int × Hp} (h : mm_teachOf a1 G = some r) : Ct l M_mm_teachOf [(2, 201), (0, a1)] 224 (fu H G) ((KWi (fun g => fu H g)) r) :=
  ct_of_J (by decide +kernel) rfl (Nat.le_of_ble_eq_true rfl) (mm_teachOf_J a1 G) h
set_option maxRecDepth 100000 in
theorem mm_lastWord_j72_J {l : Launch} {H : Hp} (a1 : Int) (a2 : Int) (s0_72 : Int) (G_72 : Hp) : J l M_mm_lastWord (KWi (fun g => fu H g)) (mm_lastWord_j72 a1 a2  s0_72 G_72) 72 [(9, 0), (9, 0), (9, 0)] [(0, s0_72), (2, 201)] 224 (fu H G_72) (0, 0) := by
  unfold mm_lastWord_j72
  refine j_cVWi dX11_lastWord_72 im_mm_lastWordOf lk_X11_408 rfl (As := [(0, s0_72)]) (S := []) rfl om_201.1 ⟨by decide, by decide⟩ (Nat.le_of_ble_eq_true rfl) (fun r hr => mm_lastWordOf_ct s0_72 G_72 hr) (fun r72 _ => ?_)
  exact j_ireturn dX11_lastWord_75 rfl rfl (Nat.zero_le _) (Nat.zero_le _)

set_option maxRecDepth 100000 in
theorem mm_lastWord_j61_J {l : Launch} {H : Hp} (a1 : Int) (a2 : Int) (G_61 : Hp) : J l M_mm_lastWord (KWi (fun g => fu H g)) (mm_lastWord_j61 a1 a2  G_61) 61 [(2, 201), (9, 0), (0, a2)] [] 224 (fu H G_61) (0, 0) := by
  unfold mm_lastWord_j61
  refine j_aload_n dX11_lastWord_61 rfl rfl ?_
  refine j_iload_n dX11_lastWord_62 rfl rfl ?_
  refine j_iconst dX11_lastWord_63 r32_2 ?_
  refine j_icmp_ne (tgt := 71) dX11_lastWord_64 rfl (fun h64 => ?_) (fun h64 => ?_)
  · refine j_iconst dX11_lastWord_67 r32_1 ?_
    refine j_goto (tgt := 72) dX11_lastWord_68 rfl ?_
    exact j_mask [false, false, false] rfl (mm_lastWord_j72_J a1 a2 1 G_61)
  · refine j_iconst dX11_lastWord_71 r32_0 ?_
    exact j_mask [false, false, false] rfl (mm_lastWord_j72_J a1 a2 0 G_61)

set_option maxRecDepth 100000 in
theorem mm_lastWord_j87_J {l : Launch} {H : Hp} (a1 : Int) (a2 : Int) (s0_87 : Int) (G_87 : Hp) : J l M_mm_lastWord (KWi (fun g => fu H g)) (mm_lastWord_j87 a1 a2  s0_87 G_87) 87 [(9, 0), (9, 0), (9, 0)] [(0, s0_87), (2, 201)] 224 (fu H G_87) (0, 0) := by
  unfold mm_lastWord_j87
  refine j_cVWi dX11_lastWord_87 im_mm_swapOf lk_X11_411 rfl (As := [(0, s0_87)]) (S := []) rfl om_201.1 ⟨by decide, by decide⟩ (Nat.le_of_ble_eq_true rfl) (fun r hr => mm_swapOf_ct s0_87 G_87 hr) (fun r87 _ => ?_)
  exact j_ireturn dX11_lastWord_90 rfl rfl (Nat.zero_le _) (Nat.zero_le _)

set_option maxRecDepth 100000 in
theorem mm_lastWord_j76_J {l : Launch} {H : Hp} (a1 : Int) (a2 : Int) (G_76 : Hp) : J l M_mm_lastWord (KWi (fun g => fu H g)) (mm_lastWord_j76 a1 a2  G_76) 76 [(2, 201), (9, 0), (0, a2)] [] 224 (fu H G_76) (0, 0) := by
  unfold mm_lastWord_j76
  refine j_aload_n dX11_lastWord_76 rfl rfl ?_
  refine j_iload_n dX11_lastWord_77 rfl rfl ?_
  refine j_iconst dX11_lastWord_78 r32_4 ?_
  refine j_icmp_ne (tgt := 86) dX11_lastWord_79 rfl (fun h79 => ?_) (fun h79 => ?_)
  · refine j_iconst dX11_lastWord_82 r32_1 ?_
    refine j_goto (tgt := 87) dX11_lastWord_83 rfl ?_
    exact j_mask [false, false, false] rfl (mm_lastWord_j87_J a1 a2 1 G_76)
  · refine j_iconst dX11_lastWord_86 r32_0 ?_
    exact j_mask [false, false, false] rfl (mm_lastWord_j87_J a1 a2 0 G_76)

set_option maxRecDepth 100000 in
theorem mm_lastWord_j103_J {l : Launch} {H : Hp} (a1 : Int) (a2 : Int) (s0_103 : Int) (G_103 : Hp) : J l M_mm_lastWord (KWi (fun g => fu H g)) (mm_lastWord_j103 a1 a2  s0_103 G_103) 103 [(9, 0), (9, 0), (9, 0)] [(0, s0_103), (2, 201)] 224 (fu H G_103) (0, 0) := by
  unfold mm_lastWord_j103
  refine j_cVWi dX11_lastWord_103 im_mm_teachOf lk_X11_414 rfl (As := [(0, s0_103)]) (S := []) rfl om_201.1 ⟨by decide, by decide⟩ (Nat.le_of_ble_eq_true rfl) (fun r hr => mm_teachOf_ct s0_103 G_103 hr) (fun r103 _ => ?_)
  exact j_ireturn dX11_lastWord_106 rfl rfl (Nat.zero_le _) (Nat.zero_le _)

set_option maxRecDepth 100000 in
theorem mm_lastWord_j91_J {l : Launch} {H : Hp} (a1 : Int) (a2 : Int) (G_91 : Hp) : J l M_mm_lastWord (KWi (fun g => fu H g)) (mm_lastWord_j91 a1 a2  G_91) 91 [(2, 201), (9, 0), (0, a2)] [] 224 (fu H G_91) (0, 0) := by
  unfold mm_lastWord_j91
  refine j_aload_n dX11_lastWord_91 rfl rfl ?_
  refine j_iload_n dX11_lastWord_92 rfl rfl ?_
  refine j_bipush dX11_lastWord_93 r32_6 bp_6 ?_
  refine j_icmp_ne (tgt := 102) dX11_lastWord_95 rfl (fun h95 => ?_) (fun h95 => ?_)
  · refine j_iconst dX11_lastWord_98 r32_1 ?_
    refine j_goto (tgt := 103) dX11_lastWord_99 rfl ?_
    exact j_mask [false, false, false] rfl (mm_lastWord_j103_J a1 a2 1 G_91)
  · refine j_iconst dX11_lastWord_102 r32_0 ?_
    exact j_mask [false, false, false] rfl (mm_lastWord_j103_J a1 a2 0 G_91)

set_option maxRecDepth 100000 in
theorem mm_lastWord_J {l : Launch} {H : Hp} (a1 : Int) (a2 : Int) (G : Hp) : J l M_mm_lastWord (KWi (fun g => fu H g)) (mm_lastWord a1 a2 G) 0 [(2, 201), (0, a1), (0, a2)] [] 224 (fu H G) (0, 0) := by
  unfold mm_lastWord
  refine j_aload_n dX11_lastWord_0 rfl rfl ?_
  refine j_iload_n dX11_lastWord_1 rfl rfl ?_
  refine j_cVWb dX11_lastWord_2 im_mm_isPaper lk_X11_209 rfl (As := [(0, a1)]) (S := []) rfl om_201.1 ⟨by decide, by decide⟩ (Nat.le_of_ble_eq_true rfl) (fun r hr => mm_isPaper_ct a1 G hr) (fun r2 _ => ?_)
  refine j_ifb_ne (tgt := 11) dX11_lastWord_5 rfl (fun h5 => ?_) (fun h5 => ?_)
  · refine j_iload_n dX11_lastWord_11 rfl rfl ?_
    refine j_ite _ (fun hc12_0 => ?_) (fun hc12_0 => ?_)
    · refine j_swIn (i := 0) (tgt := 56) dX11_lastWord_12 (hc12_0.trans (by decide)) (by decide) rfl rfl ?_
      refine j_aload_n dX11_lastWord_56 rfl rfl ?_
      refine j_cVWi dX11_lastWord_57 im_mm_idleOf lk_X11_405 rfl (As := []) (S := []) rfl om_201.1 ⟨by decide, by decide⟩ (Nat.le_of_ble_eq_true rfl) (fun r hr => mm_idleOf_ct  r2.2 hr) (fun r57 _ => ?_)
      exact j_ireturn dX11_lastWord_60 rfl rfl (Nat.zero_le _) (Nat.zero_le _)
    · refine j_ite _ (fun hc12_1 => ?_) (fun hc12_1 => ?_)
      · refine j_swIn (i := 1) (tgt := 61) dX11_lastWord_12 (hc12_1.trans (by decide)) (by decide) rfl rfl ?_
        exact j_mask [true, false, true] rfl (mm_lastWord_j61_J a1 a2 r2.2)
      · refine j_ite _ (fun hc12_2 => ?_) (fun hc12_2 => ?_)
        · refine j_swIn (i := 2) (tgt := 61) dX11_lastWord_12 (hc12_2.trans (by decide)) (by decide) rfl rfl ?_
          exact j_mask [true, false, true] rfl (mm_lastWord_j61_J a1 a2 r2.2)
        · refine j_ite _ (fun hc12_3 => ?_) (fun hc12_3 => ?_)
          · refine j_swIn (i := 3) (tgt := 76) dX11_lastWord_12 (hc12_3.trans (by decide)) (by decide) rfl rfl ?_
            exact j_mask [true, false, true] rfl (mm_lastWord_j76_J a1 a2 r2.2)
          · refine j_ite _ (fun hc12_4 => ?_) (fun hc12_4 => ?_)
            · refine j_swIn (i := 4) (tgt := 76) dX11_lastWord_12 (hc12_4.trans (by decide)) (by decide) rfl rfl ?_
              exact j_mask [true, false, true] rfl (mm_lastWord_j76_J a1 a2 r2.2)
            · refine j_ite _ (fun hc12_5 => ?_) (fun hc12_5 => ?_)
              · refine j_swIn (i := 5) (tgt := 91) dX11_lastWord_12 (hc12_5.trans (by decide)) (by decide) rfl rfl ?_
                exact j_mask [true, false, true] rfl (mm_lastWord_j91_J a1 a2 r2.2)
              · refine j_ite _ (fun hc12_6 => ?_) (fun hc12_6 => ?_)
                · refine j_swIn (i := 6) (tgt := 91) dX11_lastWord_12 (hc12_6.trans (by decide)) (by decide) rfl rfl ?_
                  exact j_mask [true, false, true] rfl (mm_lastWord_j91_J a1 a2 r2.2)
                · refine j_swOut (tgt := 107) dX11_lastWord_12 (by omega) rfl ?_
                  refine j_iload_n dX11_lastWord_107 rfl rfl ?_
                  refine j_bipush dX11_lastWord_108 r32_10 bp_10 ?_
                  refine j_bipush dX11_lastWord_110 r32_17 bp_17 ?_
                  refine j_cSRbp dX11_lastWord_112 sm_mm_isIn lk_X11_132 rfl (As := [(0, a2), (0, 10), (0, 17)]) (S := []) rfl ⟨by decide, by decide⟩ (Nat.le_of_ble_eq_true rfl) (mm_isIn_ct a2 10 17) ?_
                  refine j_ifb_eq (tgt := 129) dX11_lastWord_115 rfl (fun h115 => ?_) (fun h115 => ?_)
                  · refine j_aload_n dX11_lastWord_118 rfl rfl ?_
                    refine j_iload_n dX11_lastWord_119 rfl rfl ?_
                    refine j_bipush dX11_lastWord_120 r32_10 bp_10 ?_
                    refine j_isub dX11_lastWord_122 ?_
                    refine j_cVRb dX11_lastWord_123 im_mm_isPlace lk_X11_212 rfl (As := [(0, w32 (a2 - 10))]) (S := []) rfl om_201.1 ⟨by decide, by decide⟩ (Nat.le_of_ble_eq_true rfl) (fun r hr => mm_isPlace_ct (w32 (a2 - 10)) r2.2 hr) (fun v123 _ => ?_)
                    refine j_ifb_ne (tgt := 132) dX11_lastWord_126 rfl (fun h126 => ?_) (fun h126 => ?_)
                    · refine j_aload_n dX11_lastWord_132 rfl rfl ?_
                      refine j_cVWi dX11_lastWord_133 im_mm_round lk_X11_280 rfl (As := []) (S := []) rfl om_201.1 ⟨by decide, by decide⟩ (Nat.le_of_ble_eq_true rfl) (fun r hr => mm_round_ct  r2.2 hr) (fun r133 _ => ?_)
                      refine j_pop dX11_lastWord_136 (by decide) ?_
                      refine j_aload_n dX11_lastWord_137 rfl rfl ?_
                      refine j_grm dX11_lastWord_138 gf_X11_38 om_201 (Or.inl (by decide)) rf_201_27 ?_
                      refine j_iload_n dX11_lastWord_141 rfl rfl ?_
                      refine j_bipush dX11_lastWord_142 r32_10 bp_10 ?_
                      refine j_isub dX11_lastWord_144 ?_
                      refine j_gd (fun h145a h145b => ?_)
                      refine j_aim dX11_lastWord_145 om_211 rfl h145a h145b ?_
                      exact j_ireturn dX11_lastWord_146 rfl rfl (Nat.zero_le _) (Nat.zero_le _)
                    · refine j_bipush dX11_lastWord_129 r32_m2 bp_m2 ?_
                      exact j_ireturn dX11_lastWord_131 rfl rfl (Nat.zero_le _) (Nat.zero_le _)
                  · refine j_bipush dX11_lastWord_129 r32_m2 bp_m2 ?_
                    exact j_ireturn dX11_lastWord_131 rfl rfl (Nat.zero_le _) (Nat.zero_le _)
  · refine j_bipush dX11_lastWord_8 r32_m2 bp_m2 ?_
    exact j_ireturn dX11_lastWord_10 rfl rfl (Nat.zero_le _) (Nat.zero_le _)

set_option maxRecDepth 100000 in
theorem mm_lastWord_ct {l : Launch} {H : Hp} (a1 : Int) (a2 : Int) (G : Hp) {r : Int × Hp} (h : mm_lastWord a1 a2 G = some r) : Ct l M_mm_lastWord [(2, 201), (0, a1), (0, a2)] 224 (fu H G) ((KWi (fun g => fu H g)) r) :=
  ct_of_J (by decide +kernel) rfl (Nat.le_of_ble_eq_true rfl) (mm_lastWord_J a1 a2 G) h
set_option maxRecDepth 100000 in
theorem mm_isWeek_J {l : Launch} {H : Hp} (a1 : Int) (G : Hp) : J l M_mm_isWeek (KWb (fun g => fu H g)) (mm_isWeek a1 G) 0 [(2, 201), (0, a1)] [] 224 (fu H G) (0, 0) := by
  unfold mm_isWeek
  refine j_aload_n dX11_isWeek_0 rfl rfl ?_
  refine j_iconst dX11_isWeek_1 r32_1 ?_
  refine j_iload_n dX11_isWeek_2 rfl rfl ?_
  refine j_cVRb dX11_isWeek_3 im_mm_isOf lk_X11_175 rfl (As := [(0, 1), (0, a1)]) (S := []) rfl om_201.1 ⟨by decide, by decide⟩ (Nat.le_of_ble_eq_true rfl) (fun r hr => mm_isOf_ct 1 a1 G hr) (fun v3 _ => ?_)
  refine j_ifb_ne (tgt := 11) dX11_isWeek_6 rfl (fun h6 => ?_) (fun h6 => ?_)
  · refine j_aload_n dX11_isWeek_11 rfl rfl ?_
    refine j_iconst dX11_isWeek_12 r32_1 ?_
    refine j_iload_n dX11_isWeek_13 rfl rfl ?_
    refine j_cSRip dX11_isWeek_14 sm_mm_placeOf lk_X11_194 rfl (As := [(0, 1), (0, a1)]) (S := [(2, 201)]) rfl ⟨by decide, by decide⟩ (Nat.le_of_ble_eq_true rfl) (mm_placeOf_ct 1 a1) ?_
    refine j_pim dX11_isWeek_17 gf_X11_417 po_11_37 om_201 (nf_11_37 _) ?_
    refine j_iconst dX11_isWeek_20 r32_1 ?_
    exact j_zreturn (b := true) dX11_isWeek_21 rfl rfl (Nat.zero_le _) (Nat.zero_le _)
  · refine j_iconst dX11_isWeek_9 r32_0 ?_
    exact j_zreturn (b := false) dX11_isWeek_10 rfl rfl (Nat.zero_le _) (Nat.zero_le _)

set_option maxRecDepth 100000 in
theorem mm_isWeek_ct {l : Launch} {H : Hp} (a1 : Int) (G : Hp) {r : Bool × Hp} (h : mm_isWeek a1 G = some r) : Ct l M_mm_isWeek [(2, 201), (0, a1)] 224 (fu H G) ((KWb (fun g => fu H g)) r) :=
  ct_of_J (by decide +kernel) rfl (Nat.le_of_ble_eq_true rfl) (mm_isWeek_J a1 G) h
set_option maxRecDepth 100000 in
theorem mm_deed_J {l : Launch} {H : Hp} (a1 : Int) (a2 : Int) (a3 : Int) (G : Hp) : J l M_mm_deed (KWi (fun g => fu H g)) (mm_deed a1 a2 a3 G) 0 [(2, 201), (0, a1), (0, a2), (0, a3)] [] 224 (fu H G) (0, 0) := by
  unfold mm_deed
  refine j_aload_n dX11_deed_0 rfl rfl ?_
  refine j_iload_n dX11_deed_1 rfl rfl ?_
  refine j_cVWb dX11_deed_2 im_mm_isWeek lk_X11_420 rfl (As := [(0, a1)]) (S := []) rfl om_201.1 ⟨by decide, by decide⟩ (Nat.le_of_ble_eq_true rfl) (fun r hr => mm_isWeek_ct a1 G hr) (fun r2 _ => ?_)
  refine j_ifb_ne (tgt := 11) dX11_deed_5 rfl (fun h5 => ?_) (fun h5 => ?_)
  · refine j_iload_n dX11_deed_11 rfl rfl ?_
    refine j_iconst dX11_deed_12 r32_m1 ?_
    refine j_icmp_ne (tgt := 35) dX11_deed_13 rfl (fun h13 => ?_) (fun h13 => ?_)
    · refine j_iload_n dX11_deed_16 rfl rfl ?_
      refine j_if_ne (tgt := 32) dX11_deed_17 rfl (fun h17 => ?_) (fun h17 => ?_)
      · refine j_aload_n dX11_deed_20 rfl rfl ?_
        refine j_grm dX11_deed_21 gf_X11_7 om_201 (Or.inl (by decide)) rf_201_0 ?_
        refine j_aload_n dX11_deed_24 rfl rfl ?_
        refine j_gim dX11_deed_25 gf_X11_417 om_201 ?_
        refine j_gd (fun h28a h28b => ?_)
        refine j_aim dX11_deed_28 om_202 rfl h28a h28b ?_
        refine j_goto (tgt := 34) dX11_deed_29 rfl ?_
        exact j_ireturn dX11_deed_34 rfl rfl (Nat.zero_le _) (Nat.zero_le _)
      · refine j_bipush dX11_deed_32 r32_m2 bp_m2 ?_
        exact j_ireturn dX11_deed_34 rfl rfl (Nat.zero_le _) (Nat.zero_le _)
    · refine j_iload_n dX11_deed_35 rfl rfl ?_
      refine j_iconst dX11_deed_36 r32_0 ?_
      refine j_aload_n dX11_deed_37 rfl rfl ?_
      refine j_grm dX11_deed_38 gf_X11_7 om_201 (Or.inl (by decide)) rf_201_0 ?_
      refine j_aload_n dX11_deed_41 rfl rfl ?_
      refine j_gim dX11_deed_42 gf_X11_417 om_201 ?_
      refine j_gd (fun h45a h45b => ?_)
      refine j_aim dX11_deed_45 om_202 rfl h45a h45b ?_
      refine j_iconst dX11_deed_46 r32_1 ?_
      refine j_isub dX11_deed_47 ?_
      refine j_cSRbp dX11_deed_48 sm_mm_isIn lk_X11_132 rfl (As := [(0, a2), (0, 0), (0, w32 ((r2.2 202 (r2.2 201 37)) - 1))]) (S := []) rfl ⟨by decide, by decide⟩ (Nat.le_of_ble_eq_true rfl) (mm_isIn_ct a2 0 (w32 ((r2.2 202 (r2.2 201 37)) - 1))) ?_
      refine j_ifb_eq (tgt := 83) dX11_deed_51 rfl (fun h51 => ?_) (fun h51 => ?_)
      · refine j_iload_n dX11_deed_54 rfl rfl ?_
        refine j_iconst dX11_deed_55 r32_0 ?_
        refine j_iconst dX11_deed_56 r32_2 ?_
        refine j_cSRbp dX11_deed_57 sm_mm_isIn lk_X11_132 rfl (As := [(0, a3), (0, 0), (0, 2)]) (S := []) rfl ⟨by decide, by decide⟩ (Nat.le_of_ble_eq_true rfl) (mm_isIn_ct a3 0 2) ?_
        refine j_ifb_eq (tgt := 83) dX11_deed_60 rfl (fun h60 => ?_) (fun h60 => ?_)
        · refine j_aload_n dX11_deed_63 rfl rfl ?_
          refine j_grm dX11_deed_64 gf_X11_7 om_201 (Or.inl (by decide)) rf_201_0 ?_
          refine j_aload_n dX11_deed_67 rfl rfl ?_
          refine j_gim dX11_deed_68 gf_X11_417 om_201 ?_
          refine j_iconst dX11_deed_71 r32_1 ?_
          refine j_iadd dX11_deed_72 ?_
          refine j_iconst dX11_deed_73 r32_3 ?_
          refine j_iload_n dX11_deed_74 rfl rfl ?_
          refine j_imul dX11_deed_75 ?_
          refine j_iadd dX11_deed_76 ?_
          refine j_iload_n dX11_deed_77 rfl rfl ?_
          refine j_iadd dX11_deed_78 ?_
          refine j_gd (fun h79a h79b => ?_)
          refine j_aim dX11_deed_79 om_202 rfl h79a h79b ?_
          refine j_goto (tgt := 85) dX11_deed_80 rfl ?_
          exact j_ireturn dX11_deed_85 rfl rfl (Nat.zero_le _) (Nat.zero_le _)
        · refine j_bipush dX11_deed_83 r32_m2 bp_m2 ?_
          exact j_ireturn dX11_deed_85 rfl rfl (Nat.zero_le _) (Nat.zero_le _)
      · refine j_bipush dX11_deed_83 r32_m2 bp_m2 ?_
        exact j_ireturn dX11_deed_85 rfl rfl (Nat.zero_le _) (Nat.zero_le _)
  · refine j_bipush dX11_deed_8 r32_m2 bp_m2 ?_
    exact j_ireturn dX11_deed_10 rfl rfl (Nat.zero_le _) (Nat.zero_le _)

set_option maxRecDepth 100000 in
theorem mm_deed_ct {l : Launch} {H : Hp} (a1 : Int) (a2 : Int) (a3 : Int) (G : Hp) {r : Int × Hp} (h : mm_deed a1 a2 a3 G = some r) : Ct l M_mm_deed [(2, 201), (0, a1), (0, a2), (0, a3)] 224 (fu H G) ((KWi (fun g => fu H g)) r) :=
  ct_of_J (by decide +kernel) rfl (Nat.le_of_ble_eq_true rfl) (mm_deed_J a1 a2 a3 G) h
set_option maxRecDepth 100000 in
theorem mm_readsDeed_J {l : Launch} {H : Hp} (a1 : Int) (G : Hp) : J l M_mm_readsDeed (KWb (fun g => fu H g)) (mm_readsDeed a1 G) 0 [(2, 201), (0, a1), (9, 0)] [] 224 (fu H G) (0, 0) := by
  unfold mm_readsDeed
  refine j_aload_n dX11_readsDeed_0 rfl rfl ?_
  refine j_iload_n dX11_readsDeed_1 rfl rfl ?_
  refine j_cVRb dX11_readsDeed_2 im_mm_isReader lk_X11_218 rfl (As := [(0, a1)]) (S := []) rfl om_201.1 ⟨by decide, by decide⟩ (Nat.le_of_ble_eq_true rfl) (fun r hr => mm_isReader_ct a1 G hr) (fun v2 _ => ?_)
  refine j_ifb_ne (tgt := 10) dX11_readsDeed_5 rfl (fun h5 => ?_) (fun h5 => ?_)
  · refine j_aload_n dX11_readsDeed_10 rfl rfl ?_
    refine j_iload_n dX11_readsDeed_11 rfl rfl ?_
    refine j_cVWi dX11_readsDeed_12 im_mm_reads lk_X11_269 rfl (As := [(0, a1)]) (S := []) rfl om_201.1 ⟨by decide, by decide⟩ (Nat.le_of_ble_eq_true rfl) (fun r hr => mm_reads_ct a1 G hr) (fun r12 _ => ?_)
    refine j_istore_n dX11_readsDeed_15 rfl (Nat.le_of_ble_eq_true rfl) rfl ?_
    refine j_iload_n dX11_readsDeed_16 rfl rfl ?_
    refine j_if_le (tgt := 36) dX11_readsDeed_17 rfl (fun h17 => ?_) (fun h17 => ?_)
    · refine j_aload_n dX11_readsDeed_20 rfl rfl ?_
      refine j_gim dX11_readsDeed_21 gf_X11_260 om_201 ?_
      refine j_iconst dX11_readsDeed_24 r32_m1 ?_
      refine j_icmp_ne (tgt := 36) dX11_readsDeed_25 rfl (fun h25 => ?_) (fun h25 => ?_)
      · refine j_aload_n dX11_readsDeed_28 rfl rfl ?_
        refine j_aload_n dX11_readsDeed_29 rfl rfl ?_
        refine j_gim dX11_readsDeed_30 gf_X11_257 om_201 ?_
        refine j_pim dX11_readsDeed_33 gf_X11_260 po_11_22 om_201 (nf_11_22 _) ?_
        refine j_iconst dX11_readsDeed_36 r32_1 ?_
        exact j_zreturn (b := true) dX11_readsDeed_37 rfl rfl (Nat.zero_le _) (Nat.zero_le _)
      · refine j_iconst dX11_readsDeed_36 r32_1 ?_
        exact j_zreturn (b := true) dX11_readsDeed_37 rfl rfl (Nat.zero_le _) (Nat.zero_le _)
    · refine j_iconst dX11_readsDeed_36 r32_1 ?_
      exact j_zreturn (b := true) dX11_readsDeed_37 rfl rfl (Nat.zero_le _) (Nat.zero_le _)
  · refine j_iconst dX11_readsDeed_8 r32_0 ?_
    exact j_zreturn (b := false) dX11_readsDeed_9 rfl rfl (Nat.zero_le _) (Nat.zero_le _)

set_option maxRecDepth 100000 in
theorem mm_readsDeed_ct {l : Launch} {H : Hp} (a1 : Int) (G : Hp) {r : Bool × Hp} (h : mm_readsDeed a1 G = some r) : Ct l M_mm_readsDeed [(2, 201), (0, a1)] 224 (fu H G) ((KWb (fun g => fu H g)) r) :=
  ct_of_J (by decide +kernel) rfl (Nat.le_of_ble_eq_true rfl) (mm_readsDeed_J a1 G) h
set_option maxRecDepth 100000 in
theorem mm_setsWord_J {l : Launch} {H : Hp} (a1 : Int) (a2 : Int) (G : Hp) : J l M_mm_setsWord (KWb (fun g => fu H g)) (mm_setsWord a1 a2 G) 0 [(2, 201), (0, a1), (0, a2)] [] 224 (fu H G) (0, 0) := by
  unfold mm_setsWord
  refine j_aload_n dX11_setsWord_0 rfl rfl ?_
  refine j_iload_n dX11_setsWord_1 rfl rfl ?_
  refine j_cVRb dX11_setsWord_2 im_mm_isPlace lk_X11_212 rfl (As := [(0, a1)]) (S := []) rfl om_201.1 ⟨by decide, by decide⟩ (Nat.le_of_ble_eq_true rfl) (fun r hr => mm_isPlace_ct a1 G hr) (fun v2 _ => ?_)
  refine j_ifb_eq (tgt := 18) dX11_setsWord_5 rfl (fun h5 => ?_) (fun h5 => ?_)
  · refine j_aload_n dX11_setsWord_8 rfl rfl ?_
    refine j_grm dX11_setsWord_9 gf_X11_26 om_201 (Or.inl (by decide)) rf_201_23 ?_
    refine j_iload_n dX11_setsWord_12 rfl rfl ?_
    refine j_gd (fun h13a h13b => ?_)
    refine j_aim dX11_setsWord_13 om_207 rfl h13a h13b ?_
    refine j_iload_n dX11_setsWord_14 rfl rfl ?_
    refine j_icmp_ne (tgt := 20) dX11_setsWord_15 rfl (fun h15 => ?_) (fun h15 => ?_)
    · refine j_iconst dX11_setsWord_18 r32_0 ?_
      exact j_zreturn (b := false) dX11_setsWord_19 rfl rfl (Nat.zero_le _) (Nat.zero_le _)
    · refine j_aload_n dX11_setsWord_20 rfl rfl ?_
      refine j_grm dX11_setsWord_21 gf_X11_26 om_201 (Or.inl (by decide)) rf_201_23 ?_
      refine j_iload_n dX11_setsWord_24 rfl rfl ?_
      refine j_iload_n dX11_setsWord_25 rfl rfl ?_
      refine j_gd (fun h26a h26b => ?_)
      refine j_sim dX11_setsWord_26 om_207 rfl h26a h26b ?_
      refine j_aload_n dX11_setsWord_27 rfl rfl ?_
      refine j_dup dX11_setsWord_28 (by decide) ?_
      refine j_gim dX11_setsWord_29 gf_X11_254 om_201 ?_
      refine j_iconst dX11_setsWord_32 r32_1 ?_
      refine j_iload_n dX11_setsWord_33 rfl rfl ?_
      refine j_ishl dX11_setsWord_34 ?_
      refine j_ior dX11_setsWord_35 ?_
      refine j_pim dX11_setsWord_36 gf_X11_254 po_11_20 om_201 (nf_11_20 _) ?_
      refine j_aload_n dX11_setsWord_39 rfl rfl ?_
      refine j_dup dX11_setsWord_40 (by decide) ?_
      refine j_gim dX11_setsWord_41 gf_X11_251 om_201 ?_
      refine j_iconst dX11_setsWord_44 r32_1 ?_
      refine j_iadd dX11_setsWord_45 ?_
      refine j_pim dX11_setsWord_46 gf_X11_251 po_11_19 om_201 (nf_11_19 _) ?_
      refine j_iconst dX11_setsWord_49 r32_1 ?_
      exact j_zreturn (b := true) dX11_setsWord_50 rfl rfl (Nat.zero_le _) (Nat.zero_le _)
  · refine j_iconst dX11_setsWord_18 r32_0 ?_
    exact j_zreturn (b := false) dX11_setsWord_19 rfl rfl (Nat.zero_le _) (Nat.zero_le _)

set_option maxRecDepth 100000 in
theorem mm_setsWord_ct {l : Launch} {H : Hp} (a1 : Int) (a2 : Int) (G : Hp) {r : Bool × Hp} (h : mm_setsWord a1 a2 G = some r) : Ct l M_mm_setsWord [(2, 201), (0, a1), (0, a2)] 224 (fu H G) ((KWb (fun g => fu H g)) r) :=
  ct_of_J (by decide +kernel) rfl (Nat.le_of_ble_eq_true rfl) (mm_setsWord_J a1 a2 G) h
set_option maxRecDepth 100000 in
theorem mm_stets_J {l : Launch} {H : Hp} (a1 : Int) (a2 : Int) (G : Hp) : J l M_mm_stets (KWb (fun g => fu H g)) (mm_stets a1 a2 G) 0 [(2, 201), (0, a1), (0, a2)] [] 224 (fu H G) (0, 0) := by
  unfold mm_stets
  refine j_aload_n dX11_stets_0 rfl rfl ?_
  refine j_iload_n dX11_stets_1 rfl rfl ?_
  refine j_cVRb dX11_stets_2 im_mm_isReader lk_X11_218 rfl (As := [(0, a1)]) (S := []) rfl om_201.1 ⟨by decide, by decide⟩ (Nat.le_of_ble_eq_true rfl) (fun r hr => mm_isReader_ct a1 G hr) (fun v2 _ => ?_)
  refine j_ifb_eq (tgt := 30) dX11_stets_5 rfl (fun h5 => ?_) (fun h5 => ?_)
  · refine j_aload_n dX11_stets_8 rfl rfl ?_
    refine j_iload_n dX11_stets_9 rfl rfl ?_
    refine j_cVRb dX11_stets_10 im_mm_isPlace lk_X11_212 rfl (As := [(0, a2)]) (S := []) rfl om_201.1 ⟨by decide, by decide⟩ (Nat.le_of_ble_eq_true rfl) (fun r hr => mm_isPlace_ct a2 G hr) (fun v10 _ => ?_)
    refine j_ifb_eq (tgt := 30) dX11_stets_13 rfl (fun h13 => ?_) (fun h13 => ?_)
    · refine j_aload_n dX11_stets_16 rfl rfl ?_
      refine j_grm dX11_stets_17 gf_X11_32 om_201 (Or.inl (by decide)) rf_201_25 ?_
      refine j_iload_n dX11_stets_20 rfl rfl ?_
      refine j_gd (fun h21a h21b => ?_)
      refine j_aim dX11_stets_21 om_209 rfl h21a h21b ?_
      refine j_iload_n dX11_stets_22 rfl rfl ?_
      refine j_ishr dX11_stets_23 ?_
      refine j_iconst dX11_stets_24 r32_1 ?_
      refine j_iand dX11_stets_25 ?_
      refine j_iconst dX11_stets_26 r32_1 ?_
      refine j_icmp_ne (tgt := 32) dX11_stets_27 rfl (fun h27 => ?_) (fun h27 => ?_)
      · refine j_iconst dX11_stets_30 r32_0 ?_
        exact j_zreturn (b := false) dX11_stets_31 rfl rfl (Nat.zero_le _) (Nat.zero_le _)
      · refine j_aload_n dX11_stets_32 rfl rfl ?_
        refine j_grm dX11_stets_33 gf_X11_32 om_201 (Or.inl (by decide)) rf_201_25 ?_
        refine j_iload_n dX11_stets_36 rfl rfl ?_
        refine j_dup2 dX11_stets_37 (by decide) (by decide) ?_
        refine j_gd (fun h38a h38b => ?_)
        refine j_aim dX11_stets_38 om_209 rfl h38a h38b ?_
        refine j_iconst dX11_stets_39 r32_1 ?_
        refine j_iload_n dX11_stets_40 rfl rfl ?_
        refine j_ishl dX11_stets_41 ?_
        refine j_ior dX11_stets_42 ?_
        refine j_gd (fun h43a h43b => ?_)
        refine j_sim dX11_stets_43 om_209 rfl h43a h43b ?_
        refine j_iconst dX11_stets_44 r32_1 ?_
        exact j_zreturn (b := true) dX11_stets_45 rfl rfl (Nat.zero_le _) (Nat.zero_le _)
    · refine j_iconst dX11_stets_30 r32_0 ?_
      exact j_zreturn (b := false) dX11_stets_31 rfl rfl (Nat.zero_le _) (Nat.zero_le _)
  · refine j_iconst dX11_stets_30 r32_0 ?_
    exact j_zreturn (b := false) dX11_stets_31 rfl rfl (Nat.zero_le _) (Nat.zero_le _)

set_option maxRecDepth 100000 in
theorem mm_stets_ct {l : Launch} {H : Hp} (a1 : Int) (a2 : Int) (G : Hp) {r : Bool × Hp} (h : mm_stets a1 a2 G = some r) : Ct l M_mm_stets [(2, 201), (0, a1), (0, a2)] 224 (fu H G) ((KWb (fun g => fu H g)) r) :=
  ct_of_J (by decide +kernel) rfl (Nat.le_of_ble_eq_true rfl) (mm_stets_J a1 a2 G) h
set_option maxRecDepth 100000 in
theorem mm_joinsWords_J {l : Launch} {H : Hp} (a1 : Int) (a2 : Int) (a3 : Int) (G : Hp) : J l M_mm_joinsWords (KWb (fun g => fu H g)) (mm_joinsWords a1 a2 a3 G) 0 [(2, 201), (0, a1), (0, a2), (0, a3)] [] 224 (fu H G) (0, 0) := by
  unfold mm_joinsWords
  refine j_aload_n dX11_joinsWords_0 rfl rfl ?_
  refine j_iload_n dX11_joinsWords_1 rfl rfl ?_
  refine j_iload_n dX11_joinsWords_2 rfl rfl ?_
  refine j_cVRb dX11_joinsWords_3 im_mm_areNear lk_X11_233 rfl (As := [(0, a1), (0, a2)]) (S := []) rfl om_201.1 ⟨by decide, by decide⟩ (Nat.le_of_ble_eq_true rfl) (fun r hr => mm_areNear_ct a1 a2 G hr) (fun v3 _ => ?_)
  refine j_iload_n dX11_joinsWords_6 rfl rfl ?_
  refine j_icmp_ne (tgt := 12) dX11_joinsWords_7 rfl (fun h7 => ?_) (fun h7 => ?_)
  · refine j_iconst dX11_joinsWords_10 r32_0 ?_
    exact j_zreturn (b := false) dX11_joinsWords_11 rfl rfl (Nat.zero_le _) (Nat.zero_le _)
  · refine j_aload_n dX11_joinsWords_12 rfl rfl ?_
    refine j_iload_n dX11_joinsWords_13 rfl rfl ?_
    refine j_iload_n dX11_joinsWords_14 rfl rfl ?_
    refine j_iload_n dX11_joinsWords_15 rfl rfl ?_
    refine j_cVWv dX11_joinsWords_16 im_mm_joins lk_X11_356 rfl (As := [(0, a1), (0, a2), (0, a3)]) (S := []) rfl om_201.1 ⟨by decide, by decide⟩ (Nat.le_of_ble_eq_true rfl) (fun r hr => mm_joins_ct a1 a2 a3 G hr) (fun G16 _ => ?_)
    refine j_iconst dX11_joinsWords_19 r32_1 ?_
    exact j_zreturn (b := true) dX11_joinsWords_20 rfl rfl (Nat.zero_le _) (Nat.zero_le _)

set_option maxRecDepth 100000 in
theorem mm_joinsWords_ct {l : Launch} {H : Hp} (a1 : Int) (a2 : Int) (a3 : Int) (G : Hp) {r : Bool × Hp} (h : mm_joinsWords a1 a2 a3 G = some r) : Ct l M_mm_joinsWords [(2, 201), (0, a1), (0, a2), (0, a3)] 224 (fu H G) ((KWb (fun g => fu H g)) r) :=
  ct_of_J (by decide +kernel) rfl (Nat.le_of_ble_eq_true rfl) (mm_joinsWords_J a1 a2 a3 G) h
set_option maxRecDepth 100000 in
theorem mm_printsAll_L24_J {l : Launch} {H : Hp} : ∀ (n_24 : Nat) (x1_24 : Int) (G_24 : Hp), J l M_mm_printsAll (KWb (fun g => fu H g)) (mm_printsAll_L24  n_24 x1_24 G_24) 24 [(2, 201), (0, x1_24)] [] 224 (fu H G_24) (0, 0) := by
  intro n_24
  induction n_24 with
  | zero =>
    intro x1_24 G_24
    exact j_none
  | succ n_24 ih =>
    intro x1_24 G_24
    rw [mm_printsAll_L24]
    refine j_iload_n dX11_printsAll_24 rfl rfl ?_
    refine j_aload_n dX11_printsAll_25 rfl rfl ?_
    refine j_gim dX11_printsAll_26 gf_X11_200 om_201 ?_
    refine j_icmp_ge (tgt := 50) dX11_printsAll_29 rfl (fun h29 => ?_) (fun h29 => ?_)
    · refine j_aload_n dX11_printsAll_32 rfl rfl ?_
      refine j_grm dX11_printsAll_33 gf_X11_29 om_201 (Or.inl (by decide)) rf_201_24 ?_
      refine j_iload_n dX11_printsAll_36 rfl rfl ?_
      refine j_aload_n dX11_printsAll_37 rfl rfl ?_
      refine j_grm dX11_printsAll_38 gf_X11_26 om_201 (Or.inl (by decide)) rf_201_23 ?_
      refine j_iload_n dX11_printsAll_41 rfl rfl ?_
      refine j_gd (fun h42a h42b => ?_)
      refine j_aim dX11_printsAll_42 om_207 rfl h42a h42b ?_
      refine j_gd (fun h43a h43b => ?_)
      refine j_sim dX11_printsAll_43 om_208 rfl h43a h43b ?_
      refine j_iinc dX11_printsAll_44 rfl (Nat.le_of_ble_eq_true rfl) rfl ?_
      refine j_goto (tgt := 24) dX11_printsAll_47 rfl ?_
      exact j_mask [true, true] rfl (ih (w32 (x1_24 + 1)) (upd2 G_24 208 x1_24 (G_24 207 x1_24)))
    · refine j_iconst dX11_printsAll_50 r32_1 ?_
      exact j_zreturn (b := true) dX11_printsAll_51 rfl rfl (Nat.zero_le _) (Nat.zero_le _)

set_option maxRecDepth 100000 in
theorem mm_printsAll_J {l : Launch} {H : Hp} (G : Hp) : J l M_mm_printsAll (KWb (fun g => fu H g)) (mm_printsAll  G) 0 [(2, 201), (9, 0)] [] 224 (fu H G) (0, 0) := by
  unfold mm_printsAll
  refine j_aload_n dX11_printsAll_0 rfl rfl ?_
  refine j_aload_n dX11_printsAll_1 rfl rfl ?_
  refine j_gim dX11_printsAll_2 gf_X11_248 om_201 ?_
  refine j_aload_n dX11_printsAll_5 rfl rfl ?_
  refine j_grm dX11_printsAll_6 gf_X11_65 om_201 (Or.inl (by decide)) rf_201_38 ?_
  refine j_cVWv dX11_printsAll_9 im_mm_keeps lk_X11_276 rfl (As := [(0, G 201 18), (2, 220)]) (S := []) rfl om_201.1 ⟨by decide, by decide⟩ (Nat.le_of_ble_eq_true rfl) (fun r hr => mm_keeps_ct (G 201 18) 220 om_220 G hr) (fun G9 _ => ?_)
  refine j_aload_n dX11_printsAll_12 rfl rfl ?_
  refine j_dup dX11_printsAll_13 (by decide) ?_
  refine j_gim dX11_printsAll_14 gf_X11_248 om_201 ?_
  refine j_iconst dX11_printsAll_17 r32_1 ?_
  refine j_iadd dX11_printsAll_18 ?_
  refine j_pim dX11_printsAll_19 gf_X11_248 po_11_18 om_201 (nf_11_18 _) ?_
  refine j_iconst dX11_printsAll_22 r32_0 ?_
  refine j_istore_n dX11_printsAll_23 rfl (Nat.le_of_ble_eq_true rfl) rfl ?_
  exact j_mask [true, true] rfl (mm_printsAll_L24_J FU 0 (upd2 G9 201 18 (w32 ((G9 201 18) + 1))))

set_option maxRecDepth 100000 in
theorem mm_printsAll_ct {l : Launch} {H : Hp} (G : Hp) {r : Bool × Hp} (h : mm_printsAll  G = some r) : Ct l M_mm_printsAll [(2, 201)] 224 (fu H G) ((KWb (fun g => fu H g)) r) :=
  ct_of_J (by decide +kernel) rfl (Nat.le_of_ble_eq_true rfl) (mm_printsAll_J  G) h
set_option maxRecDepth 100000 in
theorem mm_does_j69_J {l : Launch} {H : Hp} (a1 : Int) (a2 : Int) (a3 : Int) (s0_69 : Int) (s1_69 : Int) (s2_69 : Int) (G_69 : Hp) : J l M_mm_does (KWb (fun g => fu H g)) (mm_does_j69 a1 a2 a3  s0_69 s1_69 s2_69 G_69) 69 [(9, 0), (9, 0), (9, 0), (9, 0)] [(0, s0_69), (0, s1_69), (0, s2_69), (2, 201)] 224 (fu H G_69) (0, 0) := by
  unfold mm_does_j69
  refine j_cVWb dX11_does_69 im_mm_joinsWords lk_X11_432 rfl (As := [(0, s2_69), (0, s1_69), (0, s0_69)]) (S := []) rfl om_201.1 ⟨by decide, by decide⟩ (Nat.le_of_ble_eq_true rfl) (fun r hr => mm_joinsWords_ct s2_69 s1_69 s0_69 G_69 hr) (fun r69 _ => ?_)
  exact j_zreturn dX11_does_72 rfl rfl (Nat.zero_le _) (Nat.zero_le _)

set_option maxRecDepth 100000 in
theorem mm_does_j56_J {l : Launch} {H : Hp} (a1 : Int) (a2 : Int) (a3 : Int) (G_56 : Hp) : J l M_mm_does (KWb (fun g => fu H g)) (mm_does_j56 a1 a2 a3  G_56) 56 [(2, 201), (0, a1), (0, a2), (0, a3)] [] 224 (fu H G_56) (0, 0) := by
  unfold mm_does_j56
  refine j_aload_n dX11_does_56 rfl rfl ?_
  refine j_iload_n dX11_does_57 rfl rfl ?_
  refine j_iload_n dX11_does_58 rfl rfl ?_
  refine j_iload_n dX11_does_59 rfl rfl ?_
  refine j_iconst dX11_does_60 r32_3 ?_
  refine j_icmp_ne (tgt := 68) dX11_does_61 rfl (fun h61 => ?_) (fun h61 => ?_)
  · refine j_iconst dX11_does_64 r32_1 ?_
    refine j_goto (tgt := 69) dX11_does_65 rfl ?_
    exact j_mask [false, false, false, false] rfl (mm_does_j69_J a1 a2 a3 1 a3 a2 G_56)
  · refine j_iconst dX11_does_68 r32_0 ?_
    exact j_mask [false, false, false, false] rfl (mm_does_j69_J a1 a2 a3 0 a3 a2 G_56)

set_option maxRecDepth 100000 in
theorem mm_does_J {l : Launch} {H : Hp} (a1 : Int) (a2 : Int) (a3 : Int) (G : Hp) : J l M_mm_does (KWb (fun g => fu H g)) (mm_does a1 a2 a3 G) 0 [(2, 201), (0, a1), (0, a2), (0, a3)] [] 224 (fu H G) (0, 0) := by
  unfold mm_does
  refine j_iload_n dX11_does_0 rfl rfl ?_
  refine j_ite _ (fun hc1_0 => ?_) (fun hc1_0 => ?_)
  · refine j_swIn (i := 0) (tgt := 36) dX11_does_1 (hc1_0.trans (by decide)) (by decide) rfl rfl ?_
    refine j_aload_n dX11_does_36 rfl rfl ?_
    refine j_iload_n dX11_does_37 rfl rfl ?_
    refine j_cVWb dX11_does_38 im_mm_readsDeed lk_X11_423 rfl (As := [(0, a2)]) (S := []) rfl om_201.1 ⟨by decide, by decide⟩ (Nat.le_of_ble_eq_true rfl) (fun r hr => mm_readsDeed_ct a2 G hr) (fun r38 _ => ?_)
    exact j_zreturn dX11_does_41 rfl rfl (Nat.zero_le _) (Nat.zero_le _)
  · refine j_ite _ (fun hc1_1 => ?_) (fun hc1_1 => ?_)
    · refine j_swIn (i := 1) (tgt := 42) dX11_does_1 (hc1_1.trans (by decide)) (by decide) rfl rfl ?_
      refine j_aload_n dX11_does_42 rfl rfl ?_
      refine j_iload_n dX11_does_43 rfl rfl ?_
      refine j_iload_n dX11_does_44 rfl rfl ?_
      refine j_cVWb dX11_does_45 im_mm_setsWord lk_X11_426 rfl (As := [(0, a2), (0, a3)]) (S := []) rfl om_201.1 ⟨by decide, by decide⟩ (Nat.le_of_ble_eq_true rfl) (fun r hr => mm_setsWord_ct a2 a3 G hr) (fun r45 _ => ?_)
      exact j_zreturn dX11_does_48 rfl rfl (Nat.zero_le _) (Nat.zero_le _)
    · refine j_ite _ (fun hc1_2 => ?_) (fun hc1_2 => ?_)
      · refine j_swIn (i := 2) (tgt := 49) dX11_does_1 (hc1_2.trans (by decide)) (by decide) rfl rfl ?_
        refine j_aload_n dX11_does_49 rfl rfl ?_
        refine j_iload_n dX11_does_50 rfl rfl ?_
        refine j_iload_n dX11_does_51 rfl rfl ?_
        refine j_cVWb dX11_does_52 im_mm_stets lk_X11_429 rfl (As := [(0, a2), (0, a3)]) (S := []) rfl om_201.1 ⟨by decide, by decide⟩ (Nat.le_of_ble_eq_true rfl) (fun r hr => mm_stets_ct a2 a3 G hr) (fun r52 _ => ?_)
        exact j_zreturn dX11_does_55 rfl rfl (Nat.zero_le _) (Nat.zero_le _)
      · refine j_ite _ (fun hc1_3 => ?_) (fun hc1_3 => ?_)
        · refine j_swIn (i := 3) (tgt := 56) dX11_does_1 (hc1_3.trans (by decide)) (by decide) rfl rfl ?_
          exact j_mask [true, true, true, true] rfl (mm_does_j56_J a1 a2 a3 G)
        · refine j_ite _ (fun hc1_4 => ?_) (fun hc1_4 => ?_)
          · refine j_swIn (i := 4) (tgt := 56) dX11_does_1 (hc1_4.trans (by decide)) (by decide) rfl rfl ?_
            exact j_mask [true, true, true, true] rfl (mm_does_j56_J a1 a2 a3 G)
          · refine j_swOut (tgt := 73) dX11_does_1 (by omega) rfl ?_
            refine j_aload_n dX11_does_73 rfl rfl ?_
            refine j_cVWb dX11_does_74 im_mm_printsAll lk_X11_436 rfl (As := []) (S := []) rfl om_201.1 ⟨by decide, by decide⟩ (Nat.le_of_ble_eq_true rfl) (fun r hr => mm_printsAll_ct  G hr) (fun r74 _ => ?_)
            exact j_zreturn dX11_does_77 rfl rfl (Nat.zero_le _) (Nat.zero_le _)

set_option maxRecDepth 100000 in
theorem mm_does_ct {l : Launch} {H : Hp} (a1 : Int) (a2 : Int) (a3 : Int) (G : Hp) {r : Bool × Hp} (h : mm_does a1 a2 a3 G = some r) : Ct l M_mm_does [(2, 201), (0, a1), (0, a2), (0, a3)] 224 (fu H G) ((KWb (fun g => fu H g)) r) :=
  ct_of_J (by decide +kernel) rfl (Nat.le_of_ble_eq_true rfl) (mm_does_J a1 a2 a3 G) h
set_option maxRecDepth 100000 in
theorem mm_runs_L0_J {l : Launch} {H : Hp} (a1 : Int) : ∀ (n_0 : Nat) (G_0 : Hp), J l M_mm_runs (KWv (fun g => fu H g)) (mm_runs_L0 a1  n_0 G_0) 0 [(2, 201), (0, a1)] [] 224 (fu H G_0) (0, 0) := by
  intro n_0
  induction n_0 with
  | zero =>
    intro G_0
    exact j_none
  | succ n_0 ih =>
    intro G_0
    rw [mm_runs_L0]
    refine j_aload_n dX11_runs_0 rfl rfl ?_
    refine j_gim dX11_runs_1 gf_X11_257 om_201 ?_
    refine j_iload_n dX11_runs_4 rfl rfl ?_
    refine j_icmp_ge (tgt := 98) dX11_runs_5 rfl (fun h5 => ?_) (fun h5 => ?_)
    · refine j_aload_n dX11_runs_8 rfl rfl ?_
      refine j_gim dX11_runs_9 gf_X11_257 om_201 ?_
      refine j_aload_n dX11_runs_12 rfl rfl ?_
      refine j_grm dX11_runs_13 gf_X11_7 om_201 (Or.inl (by decide)) rf_201_0 ?_
      refine j_aload_n dX11_runs_16 rfl rfl ?_
      refine j_gim dX11_runs_17 gf_X11_417 om_201 ?_
      refine j_gd (fun h20a h20b => ?_)
      refine j_aim dX11_runs_20 om_202 rfl h20a h20b ?_
      refine j_icmp_ge (tgt := 98) dX11_runs_21 rfl (fun h21 => ?_) (fun h21 => ?_)
      · refine j_aload_n dX11_runs_24 rfl rfl ?_
        refine j_aload_n dX11_runs_25 rfl rfl ?_
        refine j_grm dX11_runs_26 gf_X11_7 om_201 (Or.inl (by decide)) rf_201_0 ?_
        refine j_aload_n dX11_runs_29 rfl rfl ?_
        refine j_gim dX11_runs_30 gf_X11_417 om_201 ?_
        refine j_iconst dX11_runs_33 r32_1 ?_
        refine j_iadd dX11_runs_34 ?_
        refine j_iconst dX11_runs_35 r32_3 ?_
        refine j_aload_n dX11_runs_36 rfl rfl ?_
        refine j_gim dX11_runs_37 gf_X11_257 om_201 ?_
        refine j_imul dX11_runs_40 ?_
        refine j_iadd dX11_runs_41 ?_
        refine j_gd (fun h42a h42b => ?_)
        refine j_aim dX11_runs_42 om_202 rfl h42a h42b ?_
        refine j_aload_n dX11_runs_43 rfl rfl ?_
        refine j_grm dX11_runs_44 gf_X11_7 om_201 (Or.inl (by decide)) rf_201_0 ?_
        refine j_aload_n dX11_runs_47 rfl rfl ?_
        refine j_gim dX11_runs_48 gf_X11_417 om_201 ?_
        refine j_iconst dX11_runs_51 r32_2 ?_
        refine j_iadd dX11_runs_52 ?_
        refine j_iconst dX11_runs_53 r32_3 ?_
        refine j_aload_n dX11_runs_54 rfl rfl ?_
        refine j_gim dX11_runs_55 gf_X11_257 om_201 ?_
        refine j_imul dX11_runs_58 ?_
        refine j_iadd dX11_runs_59 ?_
        refine j_gd (fun h60a h60b => ?_)
        refine j_aim dX11_runs_60 om_202 rfl h60a h60b ?_
        refine j_aload_n dX11_runs_61 rfl rfl ?_
        refine j_grm dX11_runs_62 gf_X11_7 om_201 (Or.inl (by decide)) rf_201_0 ?_
        refine j_aload_n dX11_runs_65 rfl rfl ?_
        refine j_gim dX11_runs_66 gf_X11_417 om_201 ?_
        refine j_iconst dX11_runs_69 r32_3 ?_
        refine j_iadd dX11_runs_70 ?_
        refine j_iconst dX11_runs_71 r32_3 ?_
        refine j_aload_n dX11_runs_72 rfl rfl ?_
        refine j_gim dX11_runs_73 gf_X11_257 om_201 ?_
        refine j_imul dX11_runs_76 ?_
        refine j_iadd dX11_runs_77 ?_
        refine j_gd (fun h78a h78b => ?_)
        refine j_aim dX11_runs_78 om_202 rfl h78a h78b ?_
        refine j_cVWb dX11_runs_79 im_mm_does lk_X11_439 rfl (As := [(0, G_0 202 (w32 ((w32 ((G_0 201 37) + 1)) + (w32 (3 * (G_0 201 21)))))), (0, G_0 202 (w32 ((w32 ((G_0 201 37) + 2)) + (w32 (3 * (G_0 201 21)))))), (0, G_0 202 (w32 ((w32 ((G_0 201 37) + 3)) + (w32 (3 * (G_0 201 21))))))]) (S := []) rfl om_201.1 ⟨by decide, by decide⟩ (Nat.le_of_ble_eq_true rfl) (fun r hr => mm_does_ct (G_0 202 (w32 ((w32 ((G_0 201 37) + 1)) + (w32 (3 * (G_0 201 21)))))) (G_0 202 (w32 ((w32 ((G_0 201 37) + 2)) + (w32 (3 * (G_0 201 21)))))) (G_0 202 (w32 ((w32 ((G_0 201 37) + 3)) + (w32 (3 * (G_0 201 21)))))) G_0 hr) (fun r79 _ => ?_)
        refine j_ifb_eq (tgt := 98) dX11_runs_82 rfl (fun h82 => ?_) (fun h82 => ?_)
        · refine j_aload_n dX11_runs_85 rfl rfl ?_
          refine j_dup dX11_runs_86 (by decide) ?_
          refine j_gim dX11_runs_87 gf_X11_257 om_201 ?_
          refine j_iconst dX11_runs_90 r32_1 ?_
          refine j_iadd dX11_runs_91 ?_
          refine j_pim dX11_runs_92 gf_X11_257 po_11_21 om_201 (nf_11_21 _) ?_
          refine j_goto (tgt := 0) dX11_runs_95 rfl ?_
          exact j_mask [true, true] rfl (ih (upd2 r79.2 201 21 (w32 ((r79.2 201 21) + 1))))
        · exact j_return dX11_runs_98 rfl rfl (Nat.zero_le _) (Nat.zero_le _)
      · exact j_return dX11_runs_98 rfl rfl (Nat.zero_le _) (Nat.zero_le _)
    · exact j_return dX11_runs_98 rfl rfl (Nat.zero_le _) (Nat.zero_le _)

set_option maxRecDepth 100000 in
theorem mm_runs_J {l : Launch} {H : Hp} (a1 : Int) (G : Hp) : J l M_mm_runs (KWv (fun g => fu H g)) (mm_runs a1 G) 0 [(2, 201), (0, a1)] [] 224 (fu H G) (0, 0) := by
  unfold mm_runs
  exact j_mask [true, true] rfl (mm_runs_L0_J a1 FU G)

set_option maxRecDepth 100000 in
theorem mm_runs_ct {l : Launch} {H : Hp} (a1 : Int) (G : Hp) {r : Hp} (h : mm_runs a1 G = some r) : Ct l M_mm_runs [(2, 201), (0, a1)] 224 (fu H G) ((KWv (fun g => fu H g)) r) :=
  ct_of_J (by decide +kernel) rfl (Nat.le_of_ble_eq_true rfl) (mm_runs_J a1 G) h
set_option maxRecDepth 100000 in
theorem mm_stop_J {l : Launch} {H : Hp} (a1 : Int) (a2 : Int) (G : Hp) : J l M_mm_stop (KWi (fun g => fu H g)) (mm_stop a1 a2 G) 0 [(2, 201), (0, a1), (0, a2)] [] 224 (fu H G) (0, 0) := by
  unfold mm_stop
  refine j_aload_n dX11_stop_0 rfl rfl ?_
  refine j_iload_n dX11_stop_1 rfl rfl ?_
  refine j_cVWb dX11_stop_2 im_mm_isPaper lk_X11_209 rfl (As := [(0, a1)]) (S := []) rfl om_201.1 ⟨by decide, by decide⟩ (Nat.le_of_ble_eq_true rfl) (fun r hr => mm_isPaper_ct a1 G hr) (fun r2 _ => ?_)
  refine j_ifb_eq (tgt := 16) dX11_stop_5 rfl (fun h5 => ?_) (fun h5 => ?_)
  · refine j_aload_n dX11_stop_8 rfl rfl ?_
    refine j_iload_n dX11_stop_9 rfl rfl ?_
    refine j_cVWb dX11_stop_10 im_mm_isWeek lk_X11_420 rfl (As := [(0, a2)]) (S := []) rfl om_201.1 ⟨by decide, by decide⟩ (Nat.le_of_ble_eq_true rfl) (fun r hr => mm_isWeek_ct a2 r2.2 hr) (fun r10 _ => ?_)
    refine j_ifb_ne (tgt := 18) dX11_stop_13 rfl (fun h13 => ?_) (fun h13 => ?_)
    · refine j_aload_n dX11_stop_18 rfl rfl ?_
      refine j_bipush dX11_stop_19 r32_40 bp_40 ?_
      refine j_cVWv dX11_stop_21 im_mm_runs lk_X11_442 rfl (As := [(0, 40)]) (S := []) rfl om_201.1 ⟨by decide, by decide⟩ (Nat.le_of_ble_eq_true rfl) (fun r hr => mm_runs_ct 40 r10.2 hr) (fun G21 _ => ?_)
      refine j_aload_n dX11_stop_24 rfl rfl ?_
      refine j_gim dX11_stop_25 gf_X11_257 om_201 ?_
      exact j_ireturn dX11_stop_28 rfl rfl (Nat.zero_le _) (Nat.zero_le _)
    · refine j_iconst dX11_stop_16 r32_m1 ?_
      exact j_ireturn dX11_stop_17 rfl rfl (Nat.zero_le _) (Nat.zero_le _)
  · refine j_iconst dX11_stop_16 r32_m1 ?_
    exact j_ireturn dX11_stop_17 rfl rfl (Nat.zero_le _) (Nat.zero_le _)

set_option maxRecDepth 100000 in
theorem mm_stop_ct {l : Launch} {H : Hp} (a1 : Int) (a2 : Int) (G : Hp) {r : Int × Hp} (h : mm_stop a1 a2 G = some r) : Ct l M_mm_stop [(2, 201), (0, a1), (0, a2)] 224 (fu H G) ((KWi (fun g => fu H g)) r) :=
  ct_of_J (by decide +kernel) rfl (Nat.le_of_ble_eq_true rfl) (mm_stop_J a1 a2 G) h
set_option maxRecDepth 100000 in
theorem mm_nowOf_J {l : Launch} {H : Hp} (a1 : Int) (G : Hp) : J l M_mm_nowOf (KRi (fu H G)) (mm_nowOf a1 G) 0 [(2, 201), (0, a1), (9, 0)] [] 224 (fu H G) (0, 0) := by
  unfold mm_nowOf
  refine j_iload_n dX11_nowOf_0 rfl rfl ?_
  refine j_if_ge (tgt := 7) dX11_nowOf_1 rfl (fun h1 => ?_) (fun h1 => ?_)
  · refine j_bipush dX11_nowOf_4 r32_m2 bp_m2 ?_
    exact j_ireturn dX11_nowOf_6 rfl rfl (Nat.zero_le _) (Nat.zero_le _)
  · refine j_iload_n dX11_nowOf_7 rfl rfl ?_
    refine j_iconst dX11_nowOf_8 r32_2 ?_
    refine j_icmp_ge (tgt := 28) dX11_nowOf_9 rfl (fun h9 => ?_) (fun h9 => ?_)
    · refine j_iload_n dX11_nowOf_12 rfl rfl ?_
      refine j_if_ne (tgt := 23) dX11_nowOf_13 rfl (fun h13 => ?_) (fun h13 => ?_)
      · refine j_aload_n dX11_nowOf_16 rfl rfl ?_
        refine j_gim dX11_nowOf_17 gf_X11_242 om_201 ?_
        refine j_goto (tgt := 27) dX11_nowOf_20 rfl ?_
        exact j_ireturn dX11_nowOf_27 rfl rfl (Nat.zero_le _) (Nat.zero_le _)
      · refine j_aload_n dX11_nowOf_23 rfl rfl ?_
        refine j_gim dX11_nowOf_24 gf_X11_248 om_201 ?_
        exact j_ireturn dX11_nowOf_27 rfl rfl (Nat.zero_le _) (Nat.zero_le _)
    · refine j_iload_n dX11_nowOf_28 rfl rfl ?_
      refine j_bipush dX11_nowOf_29 r32_10 bp_10 ?_
      refine j_irem dX11_nowOf_31 (by decide) ?_
      refine j_istore_n dX11_nowOf_32 rfl (Nat.le_of_ble_eq_true rfl) rfl ?_
      refine j_iload_n dX11_nowOf_33 rfl rfl ?_
      refine j_bipush dX11_nowOf_34 r32_10 bp_10 ?_
      refine j_idiv dX11_nowOf_36 (by decide) ?_
      refine j_ite _ (fun hc37_1 => ?_) (fun hc37_1 => ?_)
      · refine j_swIn (i := 0) (tgt := 72) dX11_nowOf_37 (hc37_1.trans (by decide)) (by decide) rfl rfl ?_
        refine j_aload_n dX11_nowOf_72 rfl rfl ?_
        refine j_iload_n dX11_nowOf_73 rfl rfl ?_
        refine j_cVRb dX11_nowOf_74 im_mm_isPlace lk_X11_212 rfl (As := [(0, irem a1 10)]) (S := []) rfl om_201.1 ⟨by decide, by decide⟩ (Nat.le_of_ble_eq_true rfl) (fun r hr => mm_isPlace_ct (irem a1 10) G hr) (fun v74 _ => ?_)
        refine j_ifb_eq (tgt := 89) dX11_nowOf_77 rfl (fun h77 => ?_) (fun h77 => ?_)
        · refine j_aload_n dX11_nowOf_80 rfl rfl ?_
          refine j_grm dX11_nowOf_81 gf_X11_26 om_201 (Or.inl (by decide)) rf_201_23 ?_
          refine j_iload_n dX11_nowOf_84 rfl rfl ?_
          refine j_gd (fun h85a h85b => ?_)
          refine j_aim dX11_nowOf_85 om_207 rfl h85a h85b ?_
          refine j_goto (tgt := 91) dX11_nowOf_86 rfl ?_
          exact j_ireturn dX11_nowOf_91 rfl rfl (Nat.zero_le _) (Nat.zero_le _)
        · refine j_bipush dX11_nowOf_89 r32_m2 bp_m2 ?_
          exact j_ireturn dX11_nowOf_91 rfl rfl (Nat.zero_le _) (Nat.zero_le _)
      · refine j_ite _ (fun hc37_2 => ?_) (fun hc37_2 => ?_)
        · refine j_swIn (i := 1) (tgt := 92) dX11_nowOf_37 (hc37_2.trans (by decide)) (by decide) rfl rfl ?_
          refine j_aload_n dX11_nowOf_92 rfl rfl ?_
          refine j_iload_n dX11_nowOf_93 rfl rfl ?_
          refine j_cVRb dX11_nowOf_94 im_mm_isPlace lk_X11_212 rfl (As := [(0, irem a1 10)]) (S := []) rfl om_201.1 ⟨by decide, by decide⟩ (Nat.le_of_ble_eq_true rfl) (fun r hr => mm_isPlace_ct (irem a1 10) G hr) (fun v94 _ => ?_)
          refine j_ifb_eq (tgt := 109) dX11_nowOf_97 rfl (fun h97 => ?_) (fun h97 => ?_)
          · refine j_aload_n dX11_nowOf_100 rfl rfl ?_
            refine j_grm dX11_nowOf_101 gf_X11_29 om_201 (Or.inl (by decide)) rf_201_24 ?_
            refine j_iload_n dX11_nowOf_104 rfl rfl ?_
            refine j_gd (fun h105a h105b => ?_)
            refine j_aim dX11_nowOf_105 om_208 rfl h105a h105b ?_
            refine j_goto (tgt := 111) dX11_nowOf_106 rfl ?_
            exact j_ireturn dX11_nowOf_111 rfl rfl (Nat.zero_le _) (Nat.zero_le _)
          · refine j_bipush dX11_nowOf_109 r32_m2 bp_m2 ?_
            exact j_ireturn dX11_nowOf_111 rfl rfl (Nat.zero_le _) (Nat.zero_le _)
        · refine j_ite _ (fun hc37_3 => ?_) (fun hc37_3 => ?_)
          · refine j_swIn (i := 2) (tgt := 112) dX11_nowOf_37 (hc37_3.trans (by decide)) (by decide) rfl rfl ?_
            refine j_aload_n dX11_nowOf_112 rfl rfl ?_
            refine j_iload_n dX11_nowOf_113 rfl rfl ?_
            refine j_cVRb dX11_nowOf_114 im_mm_isReader lk_X11_218 rfl (As := [(0, irem a1 10)]) (S := []) rfl om_201.1 ⟨by decide, by decide⟩ (Nat.le_of_ble_eq_true rfl) (fun r hr => mm_isReader_ct (irem a1 10) G hr) (fun v114 _ => ?_)
            refine j_ifb_eq (tgt := 128) dX11_nowOf_117 rfl (fun h117 => ?_) (fun h117 => ?_)
            · refine j_aload_n dX11_nowOf_120 rfl rfl ?_
              refine j_iload_n dX11_nowOf_121 rfl rfl ?_
              refine j_cVRi dX11_nowOf_122 im_mm_contentOf lk_X11_266 rfl (As := [(0, irem a1 10)]) (S := []) rfl om_201.1 ⟨by decide, by decide⟩ (Nat.le_of_ble_eq_true rfl) (fun r hr => mm_contentOf_ct (irem a1 10) G hr) (fun v122 _ => ?_)
              refine j_goto (tgt := 130) dX11_nowOf_125 rfl ?_
              exact j_ireturn dX11_nowOf_130 rfl rfl (Nat.zero_le _) (Nat.zero_le _)
            · refine j_bipush dX11_nowOf_128 r32_m2 bp_m2 ?_
              exact j_ireturn dX11_nowOf_130 rfl rfl (Nat.zero_le _) (Nat.zero_le _)
          · refine j_ite _ (fun hc37_4 => ?_) (fun hc37_4 => ?_)
            · refine j_swIn (i := 3) (tgt := 131) dX11_nowOf_37 (hc37_4.trans (by decide)) (by decide) rfl rfl ?_
              refine j_aload_n dX11_nowOf_131 rfl rfl ?_
              refine j_iload_n dX11_nowOf_132 rfl rfl ?_
              refine j_cVRb dX11_nowOf_133 im_mm_isReader lk_X11_218 rfl (As := [(0, irem a1 10)]) (S := []) rfl om_201.1 ⟨by decide, by decide⟩ (Nat.le_of_ble_eq_true rfl) (fun r hr => mm_isReader_ct (irem a1 10) G hr) (fun v133 _ => ?_)
              refine j_ifb_eq (tgt := 148) dX11_nowOf_136 rfl (fun h136 => ?_) (fun h136 => ?_)
              · refine j_aload_n dX11_nowOf_139 rfl rfl ?_
                refine j_grm dX11_nowOf_140 gf_X11_32 om_201 (Or.inl (by decide)) rf_201_25 ?_
                refine j_iload_n dX11_nowOf_143 rfl rfl ?_
                refine j_gd (fun h144a h144b => ?_)
                refine j_aim dX11_nowOf_144 om_209 rfl h144a h144b ?_
                refine j_goto (tgt := 150) dX11_nowOf_145 rfl ?_
                exact j_ireturn dX11_nowOf_150 rfl rfl (Nat.zero_le _) (Nat.zero_le _)
              · refine j_bipush dX11_nowOf_148 r32_m2 bp_m2 ?_
                exact j_ireturn dX11_nowOf_150 rfl rfl (Nat.zero_le _) (Nat.zero_le _)
            · refine j_ite _ (fun hc37_5 => ?_) (fun hc37_5 => ?_)
              · refine j_swIn (i := 4) (tgt := 151) dX11_nowOf_37 (hc37_5.trans (by decide)) (by decide) rfl rfl ?_
                refine j_aload_n dX11_nowOf_151 rfl rfl ?_
                refine j_grm dX11_nowOf_152 gf_X11_20 om_201 (Or.inl (by decide)) rf_201_15 ?_
                refine j_iload_n dX11_nowOf_155 rfl rfl ?_
                refine j_gd (fun h156a h156b => ?_)
                refine j_aim dX11_nowOf_156 om_205 rfl h156a h156b ?_
                exact j_ireturn dX11_nowOf_157 rfl rfl (Nat.zero_le _) (Nat.zero_le _)
              · refine j_swOut (tgt := 158) dX11_nowOf_37 (by omega) rfl ?_
                refine j_bipush dX11_nowOf_158 r32_m2 bp_m2 ?_
                exact j_ireturn dX11_nowOf_160 rfl rfl (Nat.zero_le _) (Nat.zero_le _)

set_option maxRecDepth 100000 in
theorem mm_nowOf_ct {l : Launch} {H : Hp} (a1 : Int) (G : Hp) {r : Int} (h : mm_nowOf a1 G = some r) : Ct l M_mm_nowOf [(2, 201), (0, a1)] 224 (fu H G) ((KRi (fu H G)) r) :=
  ct_of_J (by decide +kernel) rfl (Nat.le_of_ble_eq_true rfl) (mm_nowOf_J a1 G) h
set_option maxRecDepth 100000 in
theorem mm_state_J {l : Launch} {H : Hp} (a1 : Int) (a2 : Int) (a3 : Int) (a4 : Int) (G : Hp) : J l M_mm_state (KWi (fun g => fu H g)) (mm_state a1 a2 a3 a4 G) 0 [(2, 201), (0, a1), (0, a2), (0, a3), (0, a4)] [] 224 (fu H G) (0, 0) := by
  unfold mm_state
  refine j_aload_n dX11_state_0 rfl rfl ?_
  refine j_iload_n dX11_state_1 rfl rfl ?_
  refine j_cVWb dX11_state_2 im_mm_isPaper lk_X11_209 rfl (As := [(0, a1)]) (S := []) rfl om_201.1 ⟨by decide, by decide⟩ (Nat.le_of_ble_eq_true rfl) (fun r hr => mm_isPaper_ct a1 G hr) (fun r2 _ => ?_)
  refine j_ifb_eq (tgt := 20) dX11_state_5 rfl (fun h5 => ?_) (fun h5 => ?_)
  · refine j_aload_n dX11_state_8 rfl rfl ?_
    refine j_iload_n dX11_state_9 rfl rfl ?_
    refine j_cVWb dX11_state_10 im_mm_isWeek lk_X11_420 rfl (As := [(0, a2)]) (S := []) rfl om_201.1 ⟨by decide, by decide⟩ (Nat.le_of_ble_eq_true rfl) (fun r hr => mm_isWeek_ct a2 r2.2 hr) (fun r10 _ => ?_)
    refine j_ifb_eq (tgt := 20) dX11_state_13 rfl (fun h13 => ?_) (fun h13 => ?_)
    · refine j_iload_n dX11_state_16 rfl rfl ?_
      refine j_if_ge (tgt := 23) dX11_state_17 rfl (fun h17 => ?_) (fun h17 => ?_)
      · refine j_bipush dX11_state_20 r32_m2 bp_m2 ?_
        exact j_ireturn dX11_state_22 rfl rfl (Nat.zero_le _) (Nat.zero_le _)
      · refine j_aload_n dX11_state_23 rfl rfl ?_
        refine j_iload_n dX11_state_24 rfl rfl ?_
        refine j_cVWv dX11_state_25 im_mm_runs lk_X11_442 rfl (As := [(0, a3)]) (S := []) rfl om_201.1 ⟨by decide, by decide⟩ (Nat.le_of_ble_eq_true rfl) (fun r hr => mm_runs_ct a3 r10.2 hr) (fun G25 _ => ?_)
        refine j_aload_n dX11_state_28 rfl rfl ?_
        refine j_gim dX11_state_29 gf_X11_257 om_201 ?_
        refine j_iload_n dX11_state_32 rfl rfl ?_
        refine j_icmp_ne (tgt := 45) dX11_state_33 rfl (fun h33 => ?_) (fun h33 => ?_)
        · refine j_aload_n dX11_state_36 rfl rfl ?_
          refine j_iload dX11_state_37 rfl ?_
          refine j_cVRi dX11_state_39 im_mm_nowOf lk_X11_445 rfl (As := [(0, a4)]) (S := []) rfl om_201.1 ⟨by decide, by decide⟩ (Nat.le_of_ble_eq_true rfl) (fun r hr => mm_nowOf_ct a4 G25 hr) (fun v39 _ => ?_)
          refine j_goto (tgt := 47) dX11_state_42 rfl ?_
          exact j_ireturn dX11_state_47 rfl rfl (Nat.zero_le _) (Nat.zero_le _)
        · refine j_bipush dX11_state_45 r32_m2 bp_m2 ?_
          exact j_ireturn dX11_state_47 rfl rfl (Nat.zero_le _) (Nat.zero_le _)
    · refine j_bipush dX11_state_20 r32_m2 bp_m2 ?_
      exact j_ireturn dX11_state_22 rfl rfl (Nat.zero_le _) (Nat.zero_le _)
  · refine j_bipush dX11_state_20 r32_m2 bp_m2 ?_
    exact j_ireturn dX11_state_22 rfl rfl (Nat.zero_le _) (Nat.zero_le _)

set_option maxRecDepth 100000 in
theorem mm_state_ct {l : Launch} {H : Hp} (a1 : Int) (a2 : Int) (a3 : Int) (a4 : Int) (G : Hp) {r : Int × Hp} (h : mm_state a1 a2 a3 a4 G = some r) : Ct l M_mm_state [(2, 201), (0, a1), (0, a2), (0, a3), (0, a4)] 224 (fu H G) ((KWi (fun g => fu H g)) r) :=
  ct_of_J (by decide +kernel) rfl (Nat.le_of_ble_eq_true rfl) (mm_state_J a1 a2 a3 a4 G) h
set_option maxRecDepth 100000 in
theorem mm_editionsOf_L29_J {l : Launch} {H : Hp} (G : Hp) (x1_29 : Int) (x2_29 : Int) (x3_29 : Int) (x4_29 : Int) (k84 : Int → Option (Int)) (hk84 : ∀ (x5_84 : Int), J l M_mm_editionsOf (KRi (fu H G)) (k84 x5_84) 84 [(2, 201), (0, x1_29), (0, x2_29), (0, x3_29), (0, x4_29), (0, x5_84), (9, 0)] [] 224 (fu H G) (0, 0)) : ∀ (n_29 : Nat) (x5_29 : Int) (x6_29 : Int), J l M_mm_editionsOf (KRi (fu H G)) (mm_editionsOf_L29 G x1_29 x2_29 x3_29 x4_29 k84 n_29 x5_29 x6_29) 29 [(2, 201), (0, x1_29), (0, x2_29), (0, x3_29), (0, x4_29), (0, x5_29), (0, x6_29)] [] 224 (fu H G) (0, 0) := by
  intro n_29
  induction n_29 with
  | zero =>
    intro x5_29 x6_29
    exact j_none
  | succ n_29 ih =>
    intro x5_29 x6_29
    rw [mm_editionsOf_L29]
    refine j_iload dX11_editionsOf_29 rfl ?_
    refine j_aload_n dX11_editionsOf_31 rfl rfl ?_
    refine j_gim dX11_editionsOf_32 gf_X11_200 om_201 ?_
    refine j_icmp_ge (tgt := 84) dX11_editionsOf_35 rfl (fun h35 => ?_) (fun h35 => ?_)
    · refine j_iload dX11_editionsOf_38 rfl ?_
      refine j_if_eq (tgt := 75) dX11_editionsOf_40 rfl (fun h40 => ?_) (fun h40 => ?_)
      · refine j_iconst dX11_editionsOf_75 r32_0 ?_
        refine j_istore dX11_editionsOf_76 (Nat.le_of_ble_eq_true rfl) rfl ?_
        refine j_iinc dX11_editionsOf_78 rfl (Nat.le_of_ble_eq_true rfl) rfl ?_
        refine j_goto (tgt := 29) dX11_editionsOf_81 rfl ?_
        exact j_mask [true, true, true, true, true, true, true] rfl (ih 0 (w32 (x6_29 + 1)))
      · refine j_aload_n dX11_editionsOf_43 rfl rfl ?_
        refine j_grm dX11_editionsOf_44 gf_X11_65 om_201 (Or.inl (by decide)) rf_201_38 ?_
        refine j_bipush dX11_editionsOf_47 r32_8 bp_8 ?_
        refine j_iload_n dX11_editionsOf_49 rfl rfl ?_
        refine j_imul dX11_editionsOf_50 ?_
        refine j_iload dX11_editionsOf_51 rfl ?_
        refine j_iadd dX11_editionsOf_53 ?_
        refine j_gd (fun h54a h54b => ?_)
        refine j_aim dX11_editionsOf_54 om_220 rfl h54a h54b ?_
        refine j_aload_n dX11_editionsOf_55 rfl rfl ?_
        refine j_grm dX11_editionsOf_56 gf_X11_65 om_201 (Or.inl (by decide)) rf_201_38 ?_
        refine j_bipush dX11_editionsOf_59 r32_8 bp_8 ?_
        refine j_iload dX11_editionsOf_61 rfl ?_
        refine j_imul dX11_editionsOf_63 ?_
        refine j_iload dX11_editionsOf_64 rfl ?_
        refine j_iadd dX11_editionsOf_66 ?_
        refine j_gd (fun h67a h67b => ?_)
        refine j_aim dX11_editionsOf_67 om_220 rfl h67a h67b ?_
        refine j_icmp_ne (tgt := 75) dX11_editionsOf_68 rfl (fun h68 => ?_) (fun h68 => ?_)
        · refine j_iconst dX11_editionsOf_71 r32_1 ?_
          refine j_goto (tgt := 76) dX11_editionsOf_72 rfl ?_
          refine j_istore dX11_editionsOf_76 (Nat.le_of_ble_eq_true rfl) rfl ?_
          refine j_iinc dX11_editionsOf_78 rfl (Nat.le_of_ble_eq_true rfl) rfl ?_
          refine j_goto (tgt := 29) dX11_editionsOf_81 rfl ?_
          exact j_mask [true, true, true, true, true, true, true] rfl (ih 1 (w32 (x6_29 + 1)))
        · refine j_iconst dX11_editionsOf_75 r32_0 ?_
          refine j_istore dX11_editionsOf_76 (Nat.le_of_ble_eq_true rfl) rfl ?_
          refine j_iinc dX11_editionsOf_78 rfl (Nat.le_of_ble_eq_true rfl) rfl ?_
          refine j_goto (tgt := 29) dX11_editionsOf_81 rfl ?_
          exact j_mask [true, true, true, true, true, true, true] rfl (ih 0 (w32 (x6_29 + 1)))
    · exact j_mask [true, true, true, true, true, true, false] rfl (hk84 x5_29)

set_option maxRecDepth 100000 in
theorem mm_editionsOf_L17_J {l : Launch} {H : Hp} (G : Hp) (x1_17 : Int) (x2_17 : Int) (k105 : Int → Option (Int)) (hk105 : ∀ (x3_105 : Int), J l M_mm_editionsOf (KRi (fu H G)) (k105 x3_105) 105 [(2, 201), (0, x1_17), (0, x2_17), (0, x3_105), (9, 0), (9, 0), (9, 0)] [] 224 (fu H G) (0, 0)) : ∀ (n_17 : Nat) (x3_17 : Int) (x4_17 : Int), J l M_mm_editionsOf (KRi (fu H G)) (mm_editionsOf_L17 G x1_17 x2_17 k105 n_17 x3_17 x4_17) 17 [(2, 201), (0, x1_17), (0, x2_17), (0, x3_17), (0, x4_17), (9, 0), (9, 0)] [] 224 (fu H G) (0, 0) := by
  intro n_17
  induction n_17 with
  | zero =>
    intro x3_17 x4_17
    exact j_none
  | succ n_17 ih =>
    intro x3_17 x4_17
    rw [mm_editionsOf_L17]
    refine j_iload dX11_editionsOf_17 rfl ?_
    refine j_iload_n dX11_editionsOf_19 rfl rfl ?_
    refine j_icmp_ge (tgt := 105) dX11_editionsOf_20 rfl (fun h20 => ?_) (fun h20 => ?_)
    · refine j_iconst dX11_editionsOf_23 r32_1 ?_
      refine j_istore dX11_editionsOf_24 (Nat.le_of_ble_eq_true rfl) rfl ?_
      refine j_iconst dX11_editionsOf_26 r32_0 ?_
      refine j_istore dX11_editionsOf_27 (Nat.le_of_ble_eq_true rfl) rfl ?_
      refine j_mask [true, true, true, true, true, true, true] rfl (mm_editionsOf_L29_J G x1_17 x2_17 x3_17 x4_17 (fun x5_84 => if x3_17 = 0 then (if x5_84 = 0 then mm_editionsOf_L17 G x1_17 x2_17 k105 n_17 0 (w32 (x4_17 + 1)) else mm_editionsOf_L17 G x1_17 x2_17 k105 n_17 1 (w32 (x4_17 + 1))) else mm_editionsOf_L17 G x1_17 x2_17 k105 n_17 1 (w32 (x4_17 + 1))) (fun x5_84 => ?_) FU 1 0)
      refine j_iload_n dX11_editionsOf_84 rfl rfl ?_
      refine j_if_ne (tgt := 93) dX11_editionsOf_85 rfl (fun h85 => ?_) (fun h85 => ?_)
      · refine j_iload dX11_editionsOf_88 rfl ?_
        refine j_if_eq (tgt := 97) dX11_editionsOf_90 rfl (fun h90 => ?_) (fun h90 => ?_)
        · refine j_iconst dX11_editionsOf_97 r32_0 ?_
          refine j_istore_n dX11_editionsOf_98 rfl (Nat.le_of_ble_eq_true rfl) rfl ?_
          refine j_iinc dX11_editionsOf_99 rfl (Nat.le_of_ble_eq_true rfl) rfl ?_
          refine j_goto (tgt := 17) dX11_editionsOf_102 rfl ?_
          exact j_mask [true, true, true, true, true, false, false] rfl (ih 0 (w32 (x4_17 + 1)))
        · refine j_iconst dX11_editionsOf_93 r32_1 ?_
          refine j_goto (tgt := 98) dX11_editionsOf_94 rfl ?_
          refine j_istore_n dX11_editionsOf_98 rfl (Nat.le_of_ble_eq_true rfl) rfl ?_
          refine j_iinc dX11_editionsOf_99 rfl (Nat.le_of_ble_eq_true rfl) rfl ?_
          refine j_goto (tgt := 17) dX11_editionsOf_102 rfl ?_
          exact j_mask [true, true, true, true, true, false, false] rfl (ih 1 (w32 (x4_17 + 1)))
      · refine j_iconst dX11_editionsOf_93 r32_1 ?_
        refine j_goto (tgt := 98) dX11_editionsOf_94 rfl ?_
        refine j_istore_n dX11_editionsOf_98 rfl (Nat.le_of_ble_eq_true rfl) rfl ?_
        refine j_iinc dX11_editionsOf_99 rfl (Nat.le_of_ble_eq_true rfl) rfl ?_
        refine j_goto (tgt := 17) dX11_editionsOf_102 rfl ?_
        exact j_mask [true, true, true, true, true, false, false] rfl (ih 1 (w32 (x4_17 + 1)))
    · exact j_mask [true, true, true, true, false, false, false] rfl (hk105 x3_17)

set_option maxRecDepth 100000 in
theorem mm_editionsOf_L4_J {l : Launch} {H : Hp} (G : Hp) : ∀ (n_4 : Nat) (x1_4 : Int) (x2_4 : Int), J l M_mm_editionsOf (KRi (fu H G)) (mm_editionsOf_L4 G  n_4 x1_4 x2_4) 4 [(2, 201), (0, x1_4), (0, x2_4), (9, 0), (9, 0), (9, 0), (9, 0)] [] 224 (fu H G) (0, 0) := by
  intro n_4
  induction n_4 with
  | zero =>
    intro x1_4 x2_4
    exact j_none
  | succ n_4 ih =>
    intro x1_4 x2_4
    rw [mm_editionsOf_L4]
    refine j_iload_n dX11_editionsOf_4 rfl rfl ?_
    refine j_aload_n dX11_editionsOf_5 rfl rfl ?_
    refine j_gim dX11_editionsOf_6 gf_X11_248 om_201 ?_
    refine j_icmp_ge (tgt := 123) dX11_editionsOf_9 rfl (fun h9 => ?_) (fun h9 => ?_)
    · refine j_iconst dX11_editionsOf_12 r32_0 ?_
      refine j_istore_n dX11_editionsOf_13 rfl (Nat.le_of_ble_eq_true rfl) rfl ?_
      refine j_iconst dX11_editionsOf_14 r32_0 ?_
      refine j_istore dX11_editionsOf_15 (Nat.le_of_ble_eq_true rfl) rfl ?_
      refine j_mask [true, true, true, true, true, false, false] rfl (mm_editionsOf_L17_J G x1_4 x2_4 (fun x3_105 => if x3_105 = 0 then mm_editionsOf_L4 G n_4 (w32 (x1_4 + 1)) (w32 (x2_4 + 1)) else mm_editionsOf_L4 G n_4 (w32 (x1_4 + 0)) (w32 (x2_4 + 1))) (fun x3_105 => ?_) FU 0 0)
      refine j_iload_n dX11_editionsOf_105 rfl rfl ?_
      refine j_iload_n dX11_editionsOf_106 rfl rfl ?_
      refine j_if_eq (tgt := 114) dX11_editionsOf_107 rfl (fun h107 => ?_) (fun h107 => ?_)
      · refine j_iconst dX11_editionsOf_114 r32_1 ?_
        refine j_iadd dX11_editionsOf_115 ?_
        refine j_istore_n dX11_editionsOf_116 rfl (Nat.le_of_ble_eq_true rfl) rfl ?_
        refine j_iinc dX11_editionsOf_117 rfl (Nat.le_of_ble_eq_true rfl) rfl ?_
        refine j_goto (tgt := 4) dX11_editionsOf_120 rfl ?_
        exact j_mask [true, true, true, false, false, false, false] rfl (ih (w32 (x1_4 + 1)) (w32 (x2_4 + 1)))
      · refine j_iconst dX11_editionsOf_110 r32_0 ?_
        refine j_goto (tgt := 115) dX11_editionsOf_111 rfl ?_
        refine j_iadd dX11_editionsOf_115 ?_
        refine j_istore_n dX11_editionsOf_116 rfl (Nat.le_of_ble_eq_true rfl) rfl ?_
        refine j_iinc dX11_editionsOf_117 rfl (Nat.le_of_ble_eq_true rfl) rfl ?_
        refine j_goto (tgt := 4) dX11_editionsOf_120 rfl ?_
        exact j_mask [true, true, true, false, false, false, false] rfl (ih (w32 (x1_4 + 0)) (w32 (x2_4 + 1)))
    · refine j_iload_n dX11_editionsOf_123 rfl rfl ?_
      exact j_ireturn dX11_editionsOf_124 rfl rfl (Nat.zero_le _) (Nat.zero_le _)

set_option maxRecDepth 100000 in
theorem mm_editionsOf_J {l : Launch} {H : Hp} (G : Hp) : J l M_mm_editionsOf (KRi (fu H G)) (mm_editionsOf  G) 0 [(2, 201), (9, 0), (9, 0), (9, 0), (9, 0), (9, 0), (9, 0)] [] 224 (fu H G) (0, 0) := by
  unfold mm_editionsOf
  refine j_iconst dX11_editionsOf_0 r32_0 ?_
  refine j_istore_n dX11_editionsOf_1 rfl (Nat.le_of_ble_eq_true rfl) rfl ?_
  refine j_iconst dX11_editionsOf_2 r32_0 ?_
  refine j_istore_n dX11_editionsOf_3 rfl (Nat.le_of_ble_eq_true rfl) rfl ?_
  exact j_mask [true, true, true, false, false, false, false] rfl (mm_editionsOf_L4_J G FU 0 0)

set_option maxRecDepth 100000 in
theorem mm_editionsOf_ct {l : Launch} {H : Hp} (G : Hp) {r : Int} (h : mm_editionsOf  G = some r) : Ct l M_mm_editionsOf [(2, 201)] 224 (fu H G) ((KRi (fu H G)) r) :=
  ct_of_J (by decide +kernel) rfl (Nat.le_of_ble_eq_true rfl) (mm_editionsOf_J  G) h
set_option maxRecDepth 100000 in
theorem mm_busiestOf_j33_J {l : Launch} {H : Hp} (G : Hp) (k4 : Int → Int → Option (Int)) (hk4 : ∀ (x1_4 : Int) (x2_4 : Int), J l M_mm_busiestOf (KRi (fu H G)) (k4 x1_4 x2_4) 4 [(2, 201), (0, x1_4), (0, x2_4)] [] 224 (fu H G) (0, 0)) (x1_33 : Int) (x2_33 : Int) (s0_33 : Int) (s1_33 : Int) : J l M_mm_busiestOf (KRi (fu H G)) (mm_busiestOf_j33  G k4 x1_33 x2_33 s0_33 s1_33) 33 [(2, 201), (0, x1_33), (0, x2_33)] [(0, s0_33), (0, s1_33)] 224 (fu H G) (0, 0) := by
  unfold mm_busiestOf_j33
  refine j_icmp_le (tgt := 38) dX11_busiestOf_33 rfl (fun h33 => ?_) (fun h33 => ?_)
  · refine j_iload_n dX11_busiestOf_36 rfl rfl ?_
    refine j_istore_n dX11_busiestOf_37 rfl (Nat.le_of_ble_eq_true rfl) rfl ?_
    refine j_iinc dX11_busiestOf_38 rfl (Nat.le_of_ble_eq_true rfl) rfl ?_
    refine j_goto (tgt := 4) dX11_busiestOf_41 rfl ?_
    exact j_mask [true, true, true] rfl (hk4 x2_33 (w32 (x2_33 + 1)))
  · refine j_iinc dX11_busiestOf_38 rfl (Nat.le_of_ble_eq_true rfl) rfl ?_
    refine j_goto (tgt := 4) dX11_busiestOf_41 rfl ?_
    exact j_mask [true, true, true] rfl (hk4 x1_33 (w32 (x2_33 + 1)))

set_option maxRecDepth 100000 in
theorem mm_busiestOf_L4_J {l : Launch} {H : Hp} (G : Hp) : ∀ (n_4 : Nat) (x1_4 : Int) (x2_4 : Int), J l M_mm_busiestOf (KRi (fu H G)) (mm_busiestOf_L4 G  n_4 x1_4 x2_4) 4 [(2, 201), (0, x1_4), (0, x2_4)] [] 224 (fu H G) (0, 0) := by
  intro n_4
  induction n_4 with
  | zero =>
    intro x1_4 x2_4
    exact j_none
  | succ n_4 ih =>
    intro x1_4 x2_4
    rw [mm_busiestOf_L4]
    refine j_iload_n dX11_busiestOf_4 rfl rfl ?_
    refine j_aload_n dX11_busiestOf_5 rfl rfl ?_
    refine j_gim dX11_busiestOf_6 gf_X11_203 om_201 ?_
    refine j_icmp_ge (tgt := 44) dX11_busiestOf_9 rfl (fun h9 => ?_) (fun h9 => ?_)
    · refine j_aload_n dX11_busiestOf_12 rfl rfl ?_
      refine j_grm dX11_busiestOf_13 gf_X11_35 om_201 (Or.inl (by decide)) rf_201_26 ?_
      refine j_iload_n dX11_busiestOf_16 rfl rfl ?_
      refine j_gd (fun h17a h17b => ?_)
      refine j_aim dX11_busiestOf_17 om_210 rfl h17a h17b ?_
      refine j_iload_n dX11_busiestOf_18 rfl rfl ?_
      refine j_iconst dX11_busiestOf_19 r32_m1 ?_
      refine j_icmp_ne (tgt := 27) dX11_busiestOf_20 rfl (fun h20 => ?_) (fun h20 => ?_)
      · refine j_iconst dX11_busiestOf_23 r32_0 ?_
        refine j_goto (tgt := 33) dX11_busiestOf_24 rfl ?_
        exact j_mask [true, true, true] rfl (mm_busiestOf_j33_J G  (mm_busiestOf_L4 G n_4) ih x1_4 x2_4 0 (G 210 x2_4))
      · refine j_aload_n dX11_busiestOf_27 rfl rfl ?_
        refine j_grm dX11_busiestOf_28 gf_X11_35 om_201 (Or.inl (by decide)) rf_201_26 ?_
        refine j_iload_n dX11_busiestOf_31 rfl rfl ?_
        refine j_gd (fun h32a h32b => ?_)
        refine j_aim dX11_busiestOf_32 om_210 rfl h32a h32b ?_
        exact j_mask [true, true, true] rfl (mm_busiestOf_j33_J G  (mm_busiestOf_L4 G n_4) ih x1_4 x2_4 (G 210 x1_4) (G 210 x2_4))
    · refine j_iload_n dX11_busiestOf_44 rfl rfl ?_
      exact j_ireturn dX11_busiestOf_45 rfl rfl (Nat.zero_le _) (Nat.zero_le _)

set_option maxRecDepth 100000 in
theorem mm_busiestOf_J {l : Launch} {H : Hp} (G : Hp) : J l M_mm_busiestOf (KRi (fu H G)) (mm_busiestOf  G) 0 [(2, 201), (9, 0), (9, 0)] [] 224 (fu H G) (0, 0) := by
  unfold mm_busiestOf
  refine j_iconst dX11_busiestOf_0 r32_m1 ?_
  refine j_istore_n dX11_busiestOf_1 rfl (Nat.le_of_ble_eq_true rfl) rfl ?_
  refine j_iconst dX11_busiestOf_2 r32_0 ?_
  refine j_istore_n dX11_busiestOf_3 rfl (Nat.le_of_ble_eq_true rfl) rfl ?_
  exact j_mask [true, true, true] rfl (mm_busiestOf_L4_J G FU (-1) 0)

set_option maxRecDepth 100000 in
theorem mm_busiestOf_ct {l : Launch} {H : Hp} (G : Hp) {r : Int} (h : mm_busiestOf  G = some r) : Ct l M_mm_busiestOf [(2, 201)] 224 (fu H G) ((KRi (fu H G)) r) :=
  ct_of_J (by decide +kernel) rfl (Nat.le_of_ble_eq_true rfl) (mm_busiestOf_J  G) h
