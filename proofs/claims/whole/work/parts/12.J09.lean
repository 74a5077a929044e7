set_option maxRecDepth 100000 in
theorem mm_bitsOf_L4_J {l : Launch} {H : Hp} (a0 : Int) (G : Hp) : ∀ (n_4 : Nat) (x1_4 : Int) (x2_4 : Int), J l M_mm_bitsOf (KRi (fu H G)) (mm_bitsOf_L4 a0 G  n_4 x1_4 x2_4) 4 [(0, a0), (0, x1_4), (0, x2_4)] [] 224 (fu H G) (0, 0) := by
  intro n_4
  induction n_4 with
  | zero =>
    intro x1_4 x2_4
    exact j_none
  | succ n_4 ih =>
    intro x1_4 x2_4
    rw [mm_bitsOf_L4]
    refine j_iload_n dX11_bitsOf_4 rfl rfl ?_
    refine j_bipush dX11_bitsOf_5 r32_12 bp_12 ?_
    refine j_icmp_ge (tgt := 24) dX11_bitsOf_7 rfl (fun h7 => ?_) (fun h7 => ?_)
    · refine j_iload_n dX11_bitsOf_10 rfl rfl ?_
      refine j_iload_n dX11_bitsOf_11 rfl rfl ?_
      refine j_iload_n dX11_bitsOf_12 rfl rfl ?_
      refine j_ishr dX11_bitsOf_13 ?_
      refine j_iconst dX11_bitsOf_14 r32_1 ?_
      refine j_iand dX11_bitsOf_15 ?_
      refine j_iadd dX11_bitsOf_16 ?_
      refine j_istore_n dX11_bitsOf_17 rfl (Nat.le_of_ble_eq_true rfl) rfl ?_
      refine j_iinc dX11_bitsOf_18 rfl (Nat.le_of_ble_eq_true rfl) rfl ?_
      refine j_goto (tgt := 4) dX11_bitsOf_21 rfl ?_
      exact j_mask [true, true, true] rfl (ih (w32 (x1_4 + (iand (ishr a0 x2_4) 1))) (w32 (x2_4 + 1)))
    · refine j_iload_n dX11_bitsOf_24 rfl rfl ?_
      exact j_ireturn dX11_bitsOf_25 rfl rfl (Nat.zero_le _) (Nat.zero_le _)

set_option maxRecDepth 100000 in
theorem mm_bitsOf_J {l : Launch} {H : Hp} (a0 : Int) (G : Hp) : J l M_mm_bitsOf (KRi (fu H G)) (mm_bitsOf a0 G) 0 [(0, a0), (9, 0), (9, 0)] [] 224 (fu H G) (0, 0) := by
  unfold mm_bitsOf
  refine j_iconst dX11_bitsOf_0 r32_0 ?_
  refine j_istore_n dX11_bitsOf_1 rfl (Nat.le_of_ble_eq_true rfl) rfl ?_
  refine j_iconst dX11_bitsOf_2 r32_0 ?_
  refine j_istore_n dX11_bitsOf_3 rfl (Nat.le_of_ble_eq_true rfl) rfl ?_
  exact j_mask [true, true, true] rfl (mm_bitsOf_L4_J a0 G FU 0 0)

set_option maxRecDepth 100000 in
theorem mm_bitsOf_ct {l : Launch} {H : Hp} (a0 : Int) (G : Hp) {r : Int} (h : mm_bitsOf a0 G = some r) : Ct l M_mm_bitsOf [(0, a0)] 224 (fu H G) ((KRi (fu H G)) r) :=
  ct_of_J (by decide +kernel) rfl (Nat.le_of_ble_eq_true rfl) (mm_bitsOf_J a0 G) h
set_option maxRecDepth 100000 in
theorem mm_unlikeAt_L5_J {l : Launch} {H : Hp} (a1 : Int) (a2 : Int) (G : Hp) : ∀ (n_5 : Nat) (x3_5 : Int) (x4_5 : Int), J l M_mm_unlikeAt (KRi (fu H G)) (mm_unlikeAt_L5 a1 a2 G  n_5 x3_5 x4_5) 5 [(2, 201), (0, a1), (0, a2), (0, x3_5), (0, x4_5)] [] 224 (fu H G) (0, 0) := by
  intro n_5
  induction n_5 with
  | zero =>
    intro x3_5 x4_5
    exact j_none
  | succ n_5 ih =>
    intro x3_5 x4_5
    rw [mm_unlikeAt_L5]
    refine j_iload dX11_unlikeAt_5 rfl ?_
    refine j_aload_n dX11_unlikeAt_7 rfl rfl ?_
    refine j_gim dX11_unlikeAt_8 gf_X11_200 om_201 ?_
    refine j_icmp_ge (tgt := 48) dX11_unlikeAt_11 rfl (fun h11 => ?_) (fun h11 => ?_)
    · refine j_iload_n dX11_unlikeAt_14 rfl rfl ?_
      refine j_aload_n dX11_unlikeAt_15 rfl rfl ?_
      refine j_iload_n dX11_unlikeAt_16 rfl rfl ?_
      refine j_iload dX11_unlikeAt_17 rfl ?_
      refine j_cVRi dX11_unlikeAt_19 im_mm_wantOf lk_X11_227 rfl (As := [(0, a1), (0, x4_5)]) (S := [(0, x3_5)]) rfl om_201.1 ⟨by decide, by decide⟩ (Nat.le_of_ble_eq_true rfl) (fun r hr => mm_wantOf_ct a1 x4_5 G hr) (fun v19 _ => ?_)
      refine j_aload_n dX11_unlikeAt_22 rfl rfl ?_
      refine j_iload_n dX11_unlikeAt_23 rfl rfl ?_
      refine j_iload dX11_unlikeAt_24 rfl ?_
      refine j_cVRi dX11_unlikeAt_26 im_mm_wantOf lk_X11_227 rfl (As := [(0, a2), (0, x4_5)]) (S := [(0, v19), (0, x3_5)]) rfl om_201.1 ⟨by decide, by decide⟩ (Nat.le_of_ble_eq_true rfl) (fun r hr => mm_wantOf_ct a2 x4_5 G hr) (fun v26 _ => ?_)
      refine j_icmp_ne (tgt := 36) dX11_unlikeAt_29 rfl (fun h29 => ?_) (fun h29 => ?_)
      · refine j_iconst dX11_unlikeAt_32 r32_0 ?_
        refine j_goto (tgt := 40) dX11_unlikeAt_33 rfl ?_
        refine j_ior dX11_unlikeAt_40 ?_
        refine j_istore_n dX11_unlikeAt_41 rfl (Nat.le_of_ble_eq_true rfl) rfl ?_
        refine j_iinc dX11_unlikeAt_42 rfl (Nat.le_of_ble_eq_true rfl) rfl ?_
        refine j_goto (tgt := 5) dX11_unlikeAt_45 rfl ?_
        exact j_mask [true, true, true, true, true] rfl (ih (ior x3_5 0) (w32 (x4_5 + 1)))
      · refine j_iconst dX11_unlikeAt_36 r32_1 ?_
        refine j_iload dX11_unlikeAt_37 rfl ?_
        refine j_ishl dX11_unlikeAt_39 ?_
        refine j_ior dX11_unlikeAt_40 ?_
        refine j_istore_n dX11_unlikeAt_41 rfl (Nat.le_of_ble_eq_true rfl) rfl ?_
        refine j_iinc dX11_unlikeAt_42 rfl (Nat.le_of_ble_eq_true rfl) rfl ?_
        refine j_goto (tgt := 5) dX11_unlikeAt_45 rfl ?_
        exact j_mask [true, true, true, true, true] rfl (ih (ior x3_5 (ishl 1 x4_5)) (w32 (x4_5 + 1)))
    · refine j_iload_n dX11_unlikeAt_48 rfl rfl ?_
      exact j_ireturn dX11_unlikeAt_49 rfl rfl (Nat.zero_le _) (Nat.zero_le _)

set_option maxRecDepth 100000 in
theorem mm_unlikeAt_J {l : Launch} {H : Hp} (a1 : Int) (a2 : Int) (G : Hp) : J l M_mm_unlikeAt (KRi (fu H G)) (mm_unlikeAt a1 a2 G) 0 [(2, 201), (0, a1), (0, a2), (9, 0), (9, 0)] [] 224 (fu H G) (0, 0) := by
  unfold mm_unlikeAt
  refine j_iconst dX11_unlikeAt_0 r32_0 ?_
  refine j_istore_n dX11_unlikeAt_1 rfl (Nat.le_of_ble_eq_true rfl) rfl ?_
  refine j_iconst dX11_unlikeAt_2 r32_0 ?_
  refine j_istore dX11_unlikeAt_3 (Nat.le_of_ble_eq_true rfl) rfl ?_
  exact j_mask [true, true, true, true, true] rfl (mm_unlikeAt_L5_J a1 a2 G FU 0 0)

set_option maxRecDepth 100000 in
theorem mm_unlikeAt_ct {l : Launch} {H : Hp} (a1 : Int) (a2 : Int) (G : Hp) {r : Int} (h : mm_unlikeAt a1 a2 G = some r) : Ct l M_mm_unlikeAt [(2, 201), (0, a1), (0, a2)] 224 (fu H G) ((KRi (fu H G)) r) :=
  ct_of_J (by decide +kernel) rfl (Nat.le_of_ble_eq_true rfl) (mm_unlikeAt_J a1 a2 G) h
set_option maxRecDepth 100000 in
theorem mm_areSigns_L15_J {l : Launch} {H : Hp} (a1 : Int) (G : Hp) (x3_15 : Int) (k49 : Int → Option (Bool)) (hk49 : ∀ (x2_49 : Int), J l M_mm_areSigns (KRb (fu H G)) (k49 x2_49) 49 [(2, 201), (0, a1), (0, x2_49), (0, x3_15), (9, 0)] [] 224 (fu H G) (0, 0)) : ∀ (n_15 : Nat) (x2_15 : Int) (x4_15 : Int), J l M_mm_areSigns (KRb (fu H G)) (mm_areSigns_L15 a1 G x3_15 k49 n_15 x2_15 x4_15) 15 [(2, 201), (0, a1), (0, x2_15), (0, x3_15), (0, x4_15)] [] 224 (fu H G) (0, 0) := by
  intro n_15
  induction n_15 with
  | zero =>
    intro x2_15 x4_15
    exact j_none
  | succ n_15 ih =>
    intro x2_15 x4_15
    rw [mm_areSigns_L15]
    refine j_iload dX11_areSigns_15 rfl ?_
    refine j_iload_n dX11_areSigns_17 rfl rfl ?_
    refine j_icmp_ge (tgt := 49) dX11_areSigns_18 rfl (fun h18 => ?_) (fun h18 => ?_)
    · refine j_iload_n dX11_areSigns_21 rfl rfl ?_
      refine j_if_eq (tgt := 41) dX11_areSigns_22 rfl (fun h22 => ?_) (fun h22 => ?_)
      · refine j_iconst dX11_areSigns_41 r32_0 ?_
        refine j_istore_n dX11_areSigns_42 rfl (Nat.le_of_ble_eq_true rfl) rfl ?_
        refine j_iinc dX11_areSigns_43 rfl (Nat.le_of_ble_eq_true rfl) rfl ?_
        refine j_goto (tgt := 15) dX11_areSigns_46 rfl ?_
        exact j_mask [true, true, true, true, true] rfl (ih 0 (w32 (x4_15 + 1)))
      · refine j_aload_n dX11_areSigns_25 rfl rfl ?_
        refine j_iload_n dX11_areSigns_26 rfl rfl ?_
        refine j_iload dX11_areSigns_27 rfl ?_
        refine j_cVRi dX11_areSigns_29 im_mm_unlikeAt lk_X11_328 rfl (As := [(0, x3_15), (0, x4_15)]) (S := []) rfl om_201.1 ⟨by decide, by decide⟩ (Nat.le_of_ble_eq_true rfl) (fun r hr => mm_unlikeAt_ct x3_15 x4_15 G hr) (fun v29 _ => ?_)
        refine j_iload_n dX11_areSigns_32 rfl rfl ?_
        refine j_iand dX11_areSigns_33 ?_
        refine j_if_eq (tgt := 41) dX11_areSigns_34 rfl (fun h34 => ?_) (fun h34 => ?_)
        · refine j_iconst dX11_areSigns_41 r32_0 ?_
          refine j_istore_n dX11_areSigns_42 rfl (Nat.le_of_ble_eq_true rfl) rfl ?_
          refine j_iinc dX11_areSigns_43 rfl (Nat.le_of_ble_eq_true rfl) rfl ?_
          refine j_goto (tgt := 15) dX11_areSigns_46 rfl ?_
          exact j_mask [true, true, true, true, true] rfl (ih 0 (w32 (x4_15 + 1)))
        · refine j_iconst dX11_areSigns_37 r32_1 ?_
          refine j_goto (tgt := 42) dX11_areSigns_38 rfl ?_
          refine j_istore_n dX11_areSigns_42 rfl (Nat.le_of_ble_eq_true rfl) rfl ?_
          refine j_iinc dX11_areSigns_43 rfl (Nat.le_of_ble_eq_true rfl) rfl ?_
          refine j_goto (tgt := 15) dX11_areSigns_46 rfl ?_
          exact j_mask [true, true, true, true, true] rfl (ih 1 (w32 (x4_15 + 1)))
    · exact j_mask [true, true, true, true, false] rfl (hk49 x2_15)

set_option maxRecDepth 100000 in
theorem mm_areSigns_L4_J {l : Launch} {H : Hp} (a1 : Int) (G : Hp) : ∀ (n_4 : Nat) (x2_4 : Int) (x3_4 : Int), J l M_mm_areSigns (KRb (fu H G)) (mm_areSigns_L4 a1 G  n_4 x2_4 x3_4) 4 [(2, 201), (0, a1), (0, x2_4), (0, x3_4), (9, 0)] [] 224 (fu H G) (0, 0) := by
  intro n_4
  induction n_4 with
  | zero =>
    intro x2_4 x3_4
    exact j_none
  | succ n_4 ih =>
    intro x2_4 x3_4
    rw [mm_areSigns_L4]
    refine j_iload_n dX11_areSigns_4 rfl rfl ?_
    refine j_aload_n dX11_areSigns_5 rfl rfl ?_
    refine j_gim dX11_areSigns_6 gf_X11_203 om_201 ?_
    refine j_icmp_ge (tgt := 55) dX11_areSigns_9 rfl (fun h9 => ?_) (fun h9 => ?_)
    · refine j_iconst dX11_areSigns_12 r32_0 ?_
      refine j_istore dX11_areSigns_13 (Nat.le_of_ble_eq_true rfl) rfl ?_
      refine j_mask [true, true, true, true, true] rfl (mm_areSigns_L15_J a1 G x3_4 (fun x2_49 => mm_areSigns_L4 a1 G n_4 x2_49 (w32 (x3_4 + 1))) (fun x2_49 => ?_) FU x2_4 0)
      refine j_iinc dX11_areSigns_49 rfl (Nat.le_of_ble_eq_true rfl) rfl ?_
      refine j_goto (tgt := 4) dX11_areSigns_52 rfl ?_
      exact j_mask [true, true, true, true, false] rfl (ih x2_49 (w32 (x3_4 + 1)))
    · refine j_iload_n dX11_areSigns_55 rfl rfl ?_
      refine j_zret (fun hb_ => ?_) (fun hb_ => ?_)
      · rw [hb_]
        exact j_zreturn (b := false) dX11_areSigns_56 rfl rfl (Nat.zero_le _) (Nat.zero_le _)
      · rw [hb_]
        exact j_zreturn (b := true) dX11_areSigns_56 rfl rfl (Nat.zero_le _) (Nat.zero_le _)

set_option maxRecDepth 100000 in
theorem mm_areSigns_J {l : Launch} {H : Hp} (a1 : Int) (G : Hp) : J l M_mm_areSigns (KRb (fu H G)) (mm_areSigns a1 G) 0 [(2, 201), (0, a1), (9, 0), (9, 0), (9, 0)] [] 224 (fu H G) (0, 0) := by
  unfold mm_areSigns
  refine j_iconst dX11_areSigns_0 r32_1 ?_
  refine j_istore_n dX11_areSigns_1 rfl (Nat.le_of_ble_eq_true rfl) rfl ?_
  refine j_iconst dX11_areSigns_2 r32_0 ?_
  refine j_istore_n dX11_areSigns_3 rfl (Nat.le_of_ble_eq_true rfl) rfl ?_
  exact j_mask [true, true, true, true, false] rfl (mm_areSigns_L4_J a1 G FU 1 0)

set_option maxRecDepth 100000 in
theorem mm_areSigns_ct {l : Launch} {H : Hp} (a1 : Int) (G : Hp) {r : Bool} (h : mm_areSigns a1 G = some r) : Ct l M_mm_areSigns [(2, 201), (0, a1)] 224 (fu H G) ((KRb (fu H G)) r) :=
  ct_of_J (by decide +kernel) rfl (Nat.le_of_ble_eq_true rfl) (mm_areSigns_J a1 G) h
set_option maxRecDepth 100000 in
theorem mm_signs_L22_J {l : Launch} {H : Hp} (a1 : Int) (a2 : Int) (G_22 : Hp) (k62 : Int → Option (Int × Hp)) (hk62 : ∀ (x3_62 : Int), J l M_mm_signs (KWi (fun g => fu H g)) (k62 x3_62) 62 [(9, 0), (9, 0), (0, a2), (0, x3_62), (9, 0)] [] 224 (fu H G_22) (0, 0)) : ∀ (n_22 : Nat) (x3_22 : Int) (x4_22 : Int), J l M_mm_signs (KWi (fun g => fu H g)) (mm_signs_L22 a1 a2 G_22 k62 n_22 x3_22 x4_22) 22 [(2, 201), (9, 0), (0, a2), (0, x3_22), (0, x4_22)] [] 224 (fu H G_22) (0, 0) := by
  intro n_22
  induction n_22 with
  | zero =>
    intro x3_22 x4_22
    exact j_none
  | succ n_22 ih =>
    intro x3_22 x4_22
    rw [mm_signs_L22]
    refine j_iload dX11_signs_22 rfl ?_
    refine j_if_lt (tgt := 62) dX11_signs_24 rfl (fun h24 => ?_) (fun h24 => ?_)
    · exact j_mask [false, false, true, true, false] rfl (hk62 x3_22)
    · refine j_aload_n dX11_signs_27 rfl rfl ?_
      refine j_iload dX11_signs_28 rfl ?_
      refine j_cVRb dX11_signs_30 im_mm_areSigns lk_X11_331 rfl (As := [(0, x4_22)]) (S := []) rfl om_201.1 ⟨by decide, by decide⟩ (Nat.le_of_ble_eq_true rfl) (fun r hr => mm_areSigns_ct x4_22 G_22 hr) (fun v30 _ => ?_)
      refine j_ifb_eq (tgt := 56) dX11_signs_33 rfl (fun h33 => ?_) (fun h33 => ?_)
      · refine j_iload_n dX11_signs_36 rfl rfl ?_
        refine j_iconst dX11_signs_37 r32_m1 ?_
        refine j_icmp_eq (tgt := 53) dX11_signs_38 rfl (fun h38 => ?_) (fun h38 => ?_)
        · refine j_iload dX11_signs_53 rfl ?_
          refine j_istore_n dX11_signs_55 rfl (Nat.le_of_ble_eq_true rfl) rfl ?_
          refine j_iinc dX11_signs_56 rfl (Nat.le_of_ble_eq_true rfl) rfl ?_
          refine j_goto (tgt := 22) dX11_signs_59 rfl ?_
          exact j_mask [true, false, true, true, true] rfl (ih x4_22 (w32 (x4_22 + (-1))))
        · refine j_iload dX11_signs_41 rfl ?_
          refine j_cSRi dX11_signs_43 sm_mm_bitsOf lk_X11_334 rfl (As := [(0, x4_22)]) (S := []) rfl ⟨by decide, by decide⟩ (Nat.le_of_ble_eq_true rfl) (fun r hr => mm_bitsOf_ct x4_22 G_22 hr) (fun v43 _ => ?_)
          refine j_iload_n dX11_signs_46 rfl rfl ?_
          refine j_cSRi dX11_signs_47 sm_mm_bitsOf lk_X11_334 rfl (As := [(0, x3_22)]) (S := [(0, v43)]) rfl ⟨by decide, by decide⟩ (Nat.le_of_ble_eq_true rfl) (fun r hr => mm_bitsOf_ct x3_22 G_22 hr) (fun v47 _ => ?_)
          refine j_icmp_gt (tgt := 56) dX11_signs_50 rfl (fun h50 => ?_) (fun h50 => ?_)
          · refine j_iload dX11_signs_53 rfl ?_
            refine j_istore_n dX11_signs_55 rfl (Nat.le_of_ble_eq_true rfl) rfl ?_
            refine j_iinc dX11_signs_56 rfl (Nat.le_of_ble_eq_true rfl) rfl ?_
            refine j_goto (tgt := 22) dX11_signs_59 rfl ?_
            exact j_mask [true, false, true, true, true] rfl (ih x4_22 (w32 (x4_22 + (-1))))
          · refine j_iinc dX11_signs_56 rfl (Nat.le_of_ble_eq_true rfl) rfl ?_
            refine j_goto (tgt := 22) dX11_signs_59 rfl ?_
            exact j_mask [true, false, true, true, true] rfl (ih x3_22 (w32 (x4_22 + (-1))))
      · refine j_iinc dX11_signs_56 rfl (Nat.le_of_ble_eq_true rfl) rfl ?_
        refine j_goto (tgt := 22) dX11_signs_59 rfl ?_
        exact j_mask [true, false, true, true, true] rfl (ih x3_22 (w32 (x4_22 + (-1))))

set_option maxRecDepth 100000 in
theorem mm_signs_J {l : Launch} {H : Hp} (a1 : Int) (a2 : Int) (G : Hp) : J l M_mm_signs (KWi (fun g => fu H g)) (mm_signs a1 a2 G) 0 [(2, 201), (0, a1), (0, a2), (9, 0), (9, 0)] [] 224 (fu H G) (0, 0) := by
  unfold mm_signs
  refine j_aload_n dX11_signs_0 rfl rfl ?_
  refine j_iload_n dX11_signs_1 rfl rfl ?_
  refine j_cVWb dX11_signs_2 im_mm_isPaper lk_X11_209 rfl (As := [(0, a1)]) (S := []) rfl om_201.1 ⟨by decide, by decide⟩ (Nat.le_of_ble_eq_true rfl) (fun r hr => mm_isPaper_ct a1 G hr) (fun r2 _ => ?_)
  refine j_ifb_ne (tgt := 10) dX11_signs_5 rfl (fun h5 => ?_) (fun h5 => ?_)
  · refine j_iconst dX11_signs_10 r32_m1 ?_
    refine j_istore_n dX11_signs_11 rfl (Nat.le_of_ble_eq_true rfl) rfl ?_
    refine j_iconst dX11_signs_12 r32_1 ?_
    refine j_aload_n dX11_signs_13 rfl rfl ?_
    refine j_gim dX11_signs_14 gf_X11_200 om_201 ?_
    refine j_ishl dX11_signs_17 ?_
    refine j_iconst dX11_signs_18 r32_1 ?_
    refine j_isub dX11_signs_19 ?_
    refine j_istore dX11_signs_20 (Nat.le_of_ble_eq_true rfl) rfl ?_
    refine j_mask [true, false, true, true, true] rfl (mm_signs_L22_J a1 a2 r2.2 (fun x3_62 => if x3_62 = (-1) then some (x3_62, r2.2) else (if a2 = 0 then ((mm_bitsOf x3_62 r2.2).bind fun v76 => some (v76, r2.2)) else some (x3_62, r2.2))) (fun x3_62 => ?_) FU (-1) (w32 ((ishl 1 (r2.2 201 13)) - 1)))
    refine j_iload_n dX11_signs_62 rfl rfl ?_
    refine j_iconst dX11_signs_63 r32_m1 ?_
    refine j_icmp_eq (tgt := 71) dX11_signs_64 rfl (fun h64 => ?_) (fun h64 => ?_)
    · refine j_iload_n dX11_signs_71 rfl rfl ?_
      refine j_goto (tgt := 79) dX11_signs_72 rfl ?_
      exact j_ireturn dX11_signs_79 rfl rfl (Nat.zero_le _) (Nat.zero_le _)
    · refine j_iload_n dX11_signs_67 rfl rfl ?_
      refine j_if_eq (tgt := 75) dX11_signs_68 rfl (fun h68 => ?_) (fun h68 => ?_)
      · refine j_iload_n dX11_signs_75 rfl rfl ?_
        refine j_cSRi dX11_signs_76 sm_mm_bitsOf lk_X11_334 rfl (As := [(0, x3_62)]) (S := []) rfl ⟨by decide, by decide⟩ (Nat.le_of_ble_eq_true rfl) (fun r hr => mm_bitsOf_ct x3_62 r2.2 hr) (fun v76 _ => ?_)
        exact j_ireturn dX11_signs_79 rfl rfl (Nat.zero_le _) (Nat.zero_le _)
      · refine j_iload_n dX11_signs_71 rfl rfl ?_
        refine j_goto (tgt := 79) dX11_signs_72 rfl ?_
        exact j_ireturn dX11_signs_79 rfl rfl (Nat.zero_le _) (Nat.zero_le _)
  · refine j_iconst dX11_signs_8 r32_m1 ?_
    exact j_ireturn dX11_signs_9 rfl rfl (Nat.zero_le _) (Nat.zero_le _)

set_option maxRecDepth 100000 in
theorem mm_signs_ct {l : Launch} {H : Hp} (a1 : Int) (a2 : Int) (G : Hp) {r : Int × Hp} (h : mm_signs a1 a2 G = some r) : Ct l M_mm_signs [(2, 201), (0, a1), (0, a2)] 224 (fu H G) ((KWi (fun g => fu H g)) r) :=
  ct_of_J (by decide +kernel) rfl (Nat.le_of_ble_eq_true rfl) (mm_signs_J a1 a2 G) h
set_option maxRecDepth 100000 in
theorem mm_vote_L39_J {l : Launch} {H : Hp} (a1 : Int) (a2 : Int) (x3_39 : Int) (x4_39 : Int) (x5_39 : Int) (G_39 : Hp) (k76 : Int → Option (Int × Hp)) (hk76 : ∀ (x6_76 : Int), J l M_mm_vote (KWi (fun g => fu H g)) (k76 x6_76) 76 [(2, 201), (9, 0), (0, a2), (0, x3_39), (0, x4_39), (0, x5_39), (0, x6_76), (9, 0)] [] 224 (fu H G_39) (0, 0)) : ∀ (n_39 : Nat) (x6_39 : Int) (x7_39 : Int), J l M_mm_vote (KWi (fun g => fu H g)) (mm_vote_L39 a1 a2 x3_39 x4_39 x5_39 G_39 k76 n_39 x6_39 x7_39) 39 [(2, 201), (9, 0), (0, a2), (0, x3_39), (0, x4_39), (0, x5_39), (0, x6_39), (0, x7_39)] [] 224 (fu H G_39) (0, 0) := by
  intro n_39
  induction n_39 with
  | zero =>
    intro x6_39 x7_39
    exact j_none
  | succ n_39 ih =>
    intro x6_39 x7_39
    rw [mm_vote_L39]
    refine j_iload dX11_vote_39 rfl ?_
    refine j_aload_n dX11_vote_41 rfl rfl ?_
    refine j_gim dX11_vote_42 gf_X11_203 om_201 ?_
    refine j_icmp_ge (tgt := 76) dX11_vote_45 rfl (fun h45 => ?_) (fun h45 => ?_)
    · refine j_iload dX11_vote_48 rfl ?_
      refine j_aload_n dX11_vote_50 rfl rfl ?_
      refine j_iload dX11_vote_51 rfl ?_
      refine j_iload_n dX11_vote_53 rfl rfl ?_
      refine j_cVRi dX11_vote_54 im_mm_wantOf lk_X11_227 rfl (As := [(0, x7_39), (0, a2)]) (S := [(0, x6_39)]) rfl om_201.1 ⟨by decide, by decide⟩ (Nat.le_of_ble_eq_true rfl) (fun r hr => mm_wantOf_ct x7_39 a2 G_39 hr) (fun v54 _ => ?_)
      refine j_iload dX11_vote_57 rfl ?_
      refine j_icmp_ne (tgt := 66) dX11_vote_59 rfl (fun h59 => ?_) (fun h59 => ?_)
      · refine j_iconst dX11_vote_62 r32_1 ?_
        refine j_goto (tgt := 67) dX11_vote_63 rfl ?_
        refine j_iadd dX11_vote_67 ?_
        refine j_istore dX11_vote_68 (Nat.le_of_ble_eq_true rfl) rfl ?_
        refine j_iinc dX11_vote_70 rfl (Nat.le_of_ble_eq_true rfl) rfl ?_
        refine j_goto (tgt := 39) dX11_vote_73 rfl ?_
        exact j_mask [true, false, true, true, true, true, true, true] rfl (ih (w32 (x6_39 + 1)) (w32 (x7_39 + 1)))
      · refine j_iconst dX11_vote_66 r32_0 ?_
        refine j_iadd dX11_vote_67 ?_
        refine j_istore dX11_vote_68 (Nat.le_of_ble_eq_true rfl) rfl ?_
        refine j_iinc dX11_vote_70 rfl (Nat.le_of_ble_eq_true rfl) rfl ?_
        refine j_goto (tgt := 39) dX11_vote_73 rfl ?_
        exact j_mask [true, false, true, true, true, true, true, true] rfl (ih (w32 (x6_39 + 0)) (w32 (x7_39 + 1)))
    · exact j_mask [true, false, true, true, true, true, true, false] rfl (hk76 x6_39)

set_option maxRecDepth 100000 in
theorem mm_vote_L26_J {l : Launch} {H : Hp} (a1 : Int) (a2 : Int) (G_26 : Hp) : ∀ (n_26 : Nat) (x3_26 : Int) (x4_26 : Int) (x5_26 : Int), J l M_mm_vote (KWi (fun g => fu H g)) (mm_vote_L26 a1 a2 G_26  n_26 x3_26 x4_26 x5_26) 26 [(2, 201), (9, 0), (0, a2), (0, x3_26), (0, x4_26), (0, x5_26), (9, 0), (9, 0)] [] 224 (fu H G_26) (0, 0) := by
  intro n_26
  induction n_26 with
  | zero =>
    intro x3_26 x4_26 x5_26
    exact j_none
  | succ n_26 ih =>
    intro x3_26 x4_26 x5_26
    rw [mm_vote_L26]
    refine j_iload dX11_vote_26 rfl ?_
    refine j_bipush dX11_vote_28 r32_10 bp_10 ?_
    refine j_icmp_ge (tgt := 99) dX11_vote_30 rfl (fun h30 => ?_) (fun h30 => ?_)
    · refine j_iconst dX11_vote_33 r32_0 ?_
      refine j_istore dX11_vote_34 (Nat.le_of_ble_eq_true rfl) rfl ?_
      refine j_iconst dX11_vote_36 r32_0 ?_
      refine j_istore dX11_vote_37 (Nat.le_of_ble_eq_true rfl) rfl ?_
      refine j_mask [true, false, true, true, true, true, true, true] rfl (mm_vote_L39_J a1 a2 x3_26 x4_26 x5_26 G_26 (fun x6_76 => if x6_76 ≤ x4_26 then mm_vote_L26 a1 a2 G_26 n_26 x3_26 x4_26 (w32 (x5_26 + 1)) else mm_vote_L26 a1 a2 G_26 n_26 x5_26 x6_76 (w32 (x5_26 + 1))) (fun x6_76 => ?_) FU 0 0)
      refine j_iload dX11_vote_76 rfl ?_
      refine j_iload dX11_vote_78 rfl ?_
      refine j_icmp_gt (tgt := 86) dX11_vote_80 rfl (fun h80 => ?_) (fun h80 => ?_)
      · refine j_goto (tgt := 93) dX11_vote_83 rfl ?_
        refine j_iinc dX11_vote_93 rfl (Nat.le_of_ble_eq_true rfl) rfl ?_
        refine j_goto (tgt := 26) dX11_vote_96 rfl ?_
        exact j_mask [true, false, true, true, true, true, false, false] rfl (ih x3_26 x4_26 (w32 (x5_26 + 1)))
      · refine j_iload dX11_vote_86 rfl ?_
        refine j_istore_n dX11_vote_88 rfl (Nat.le_of_ble_eq_true rfl) rfl ?_
        refine j_iload dX11_vote_89 rfl ?_
        refine j_istore dX11_vote_91 (Nat.le_of_ble_eq_true rfl) rfl ?_
        refine j_iinc dX11_vote_93 rfl (Nat.le_of_ble_eq_true rfl) rfl ?_
        refine j_goto (tgt := 26) dX11_vote_96 rfl ?_
        exact j_mask [true, false, true, true, true, true, false, false] rfl (ih x5_26 x6_76 (w32 (x5_26 + 1)))
    · refine j_iload_n dX11_vote_99 rfl rfl ?_
      exact j_ireturn dX11_vote_100 rfl rfl (Nat.zero_le _) (Nat.zero_le _)

set_option maxRecDepth 100000 in
theorem mm_vote_J {l : Launch} {H : Hp} (a1 : Int) (a2 : Int) (G : Hp) : J l M_mm_vote (KWi (fun g => fu H g)) (mm_vote a1 a2 G) 0 [(2, 201), (0, a1), (0, a2), (9, 0), (9, 0), (9, 0), (9, 0), (9, 0)] [] 224 (fu H G) (0, 0) := by
  unfold mm_vote
  refine j_aload_n dX11_vote_0 rfl rfl ?_
  refine j_iload_n dX11_vote_1 rfl rfl ?_
  refine j_cVWb dX11_vote_2 im_mm_isPaper lk_X11_209 rfl (As := [(0, a1)]) (S := []) rfl om_201.1 ⟨by decide, by decide⟩ (Nat.le_of_ble_eq_true rfl) (fun r hr => mm_isPaper_ct a1 G hr) (fun r2 _ => ?_)
  refine j_ifb_eq (tgt := 16) dX11_vote_5 rfl (fun h5 => ?_) (fun h5 => ?_)
  · refine j_aload_n dX11_vote_8 rfl rfl ?_
    refine j_iload_n dX11_vote_9 rfl rfl ?_
    refine j_cVRb dX11_vote_10 im_mm_isPlace lk_X11_212 rfl (As := [(0, a2)]) (S := []) rfl om_201.1 ⟨by decide, by decide⟩ (Nat.le_of_ble_eq_true rfl) (fun r hr => mm_isPlace_ct a2 r2.2 hr) (fun v10 _ => ?_)
    refine j_ifb_ne (tgt := 18) dX11_vote_13 rfl (fun h13 => ?_) (fun h13 => ?_)
    · refine j_iconst dX11_vote_18 r32_m1 ?_
      refine j_istore_n dX11_vote_19 rfl (Nat.le_of_ble_eq_true rfl) rfl ?_
      refine j_iconst dX11_vote_20 r32_0 ?_
      refine j_istore dX11_vote_21 (Nat.le_of_ble_eq_true rfl) rfl ?_
      refine j_iconst dX11_vote_23 r32_0 ?_
      refine j_istore dX11_vote_24 (Nat.le_of_ble_eq_true rfl) rfl ?_
      exact j_mask [true, false, true, true, true, true, false, false] rfl (mm_vote_L26_J a1 a2 r2.2 FU (-1) 0 0)
    · refine j_iconst dX11_vote_16 r32_m1 ?_
      exact j_ireturn dX11_vote_17 rfl rfl (Nat.zero_le _) (Nat.zero_le _)
  · refine j_iconst dX11_vote_16 r32_m1 ?_
    exact j_ireturn dX11_vote_17 rfl rfl (Nat.zero_le _) (Nat.zero_le _)

set_option maxRecDepth 100000 in
theorem mm_vote_ct {l : Launch} {H : Hp} (a1 : Int) (a2 : Int) (G : Hp) {r : Int × Hp} (h : mm_vote a1 a2 G = some r) : Ct l M_mm_vote [(2, 201), (0, a1), (0, a2)] 224 (fu H G) ((KWi (fun g => fu H g)) r) :=
  ct_of_J (by decide +kernel) rfl (Nat.le_of_ble_eq_true rfl) (mm_vote_J a1 a2 G) h
set_option maxRecDepth 100000 in
theorem mm_common_L6_J {l : Launch} {H : Hp} (a0 : Int) (a2 : Int) (G : Hp) : ∀ (n_6 : Nat) (x4_6 : Int) (x6_6 : Int), J l M_mm_common (KRl (fu H G)) (mm_common_L6 a0 a2 G  n_6 x4_6 x6_6) 6 [(9, 0), (9, 0), (9, 0), (9, 0), (1, x4_6), (9, 0), (1, x6_6), (9, 0), (9, 0), (9, 0)] [] 224 (fu H G) (0, 0) := by
  intro n_6
  induction n_6 with
  | zero =>
    intro x4_6 x6_6
    exact j_none
  | succ n_6 ih =>
    intro x4_6 x6_6
    rw [mm_common_L6]
    refine j_lload dX11_common_6 rfl ?_
    refine j_lconst (z := 0) dX11_common_8 (by unfold r64; omega) (by decide +kernel) ?_
    refine j_lcmp dX11_common_9 ?_
    refine j_if_eq (tgt := 31) dX11_common_10 rfl (fun h10 => ?_) (fun h10 => ?_)
    · refine j_lload dX11_common_31 rfl ?_
      exact j_lreturn dX11_common_33 rfl rfl (Nat.zero_le _) (Nat.zero_le _)
    · refine j_lload dX11_common_13 rfl ?_
      refine j_lload dX11_common_15 rfl ?_
      refine j_nz (fun hz17 => ?_)
      refine j_lrem dX11_common_17 hz17 ?_
      refine j_lstore dX11_common_18 (Nat.le_of_ble_eq_true rfl) rfl ?_
      refine j_lload dX11_common_20 rfl ?_
      refine j_lstore dX11_common_22 (Nat.le_of_ble_eq_true rfl) rfl ?_
      refine j_lload dX11_common_24 rfl ?_
      refine j_lstore dX11_common_26 (Nat.le_of_ble_eq_true rfl) rfl ?_
      refine j_goto (tgt := 6) dX11_common_28 rfl ?_
      exact j_mask [false, false, false, false, true, false, true, false, false, false] rfl (ih x6_6 (lrem x4_6 x6_6))

set_option maxRecDepth 100000 in
theorem mm_common_J {l : Launch} {H : Hp} (a0 : Int) (a2 : Int) (G : Hp) : J l M_mm_common (KRl (fu H G)) (mm_common a0 a2 G) 0 [(1, a0), (9, 0), (1, a2), (9, 0), (9, 0), (9, 0), (9, 0), (9, 0), (9, 0), (9, 0)] [] 224 (fu H G) (0, 0) := by
  unfold mm_common
  refine j_lload_n dX11_common_0 rfl rfl ?_
  refine j_lstore dX11_common_1 (Nat.le_of_ble_eq_true rfl) rfl ?_
  refine j_lload_n dX11_common_3 rfl rfl ?_
  refine j_lstore dX11_common_4 (Nat.le_of_ble_eq_true rfl) rfl ?_
  exact j_mask [false, false, false, false, true, false, true, false, false, false] rfl (mm_common_L6_J a0 a2 G FU a0 a2)

set_option maxRecDepth 100000 in
theorem mm_common_ct {l : Launch} {H : Hp} (a0 : Int) (a2 : Int) (G : Hp) {r : Int} (h : mm_common a0 a2 G = some r) : Ct l M_mm_common [(1, a0), (1, a2)] 224 (fu H G) ((KRl (fu H G)) r) :=
  ct_of_J (by decide +kernel) rfl (Nat.le_of_ble_eq_true rfl) (mm_common_J a0 a2 G) h
set_option maxRecDepth 100000 in
theorem mm_parted_j10_J {l : Launch} {H : Hp} (a0 : Int) (a2 : Int) (a4 : Int) (G : Hp) (s0_10 : Int) : J l M_mm_parted (KRl (fu H G)) (mm_parted_j10 a0 a2 a4 G  s0_10) 10 [(1, a0), (9, 0), (1, a2), (9, 0), (9, 0)] [(1, s0_10)] 224 (fu H G) (0, 0) := by
  unfold mm_parted_j10
  refine j_lload_n dX11_parted_10 rfl rfl ?_
  refine j_lload_n dX11_parted_11 rfl rfl ?_
  refine j_cSRl dX11_parted_12 sm_mm_common lk_X11_337 rfl (As := [(1, a0), (1, a2)]) (S := [(1, s0_10)]) rfl ⟨by decide, by decide⟩ (Nat.le_of_ble_eq_true rfl) (fun r hr => mm_common_ct a0 a2 G hr) (fun v12 _ => ?_)
  refine j_nz (fun hz15 => ?_)
  refine j_ldiv dX11_parted_15 hz15 ?_
  exact j_lreturn dX11_parted_16 rfl rfl (Nat.zero_le _) (Nat.zero_le _)

set_option maxRecDepth 100000 in
theorem mm_parted_J {l : Launch} {H : Hp} (a0 : Int) (a2 : Int) (a4 : Int) (G : Hp) : J l M_mm_parted (KRl (fu H G)) (mm_parted a0 a2 a4 G) 0 [(1, a0), (9, 0), (1, a2), (9, 0), (0, a4)] [] 224 (fu H G) (0, 0) := by
  unfold mm_parted
  refine j_iload dX11_parted_0 rfl ?_
  refine j_if_eq (tgt := 9) dX11_parted_2 rfl (fun h2 => ?_) (fun h2 => ?_)
  · refine j_lload_n dX11_parted_9 rfl rfl ?_
    exact j_mask [true, false, true, false, false] rfl (mm_parted_j10_J a0 a2 a4 G a0)
  · refine j_lload_n dX11_parted_5 rfl rfl ?_
    refine j_goto (tgt := 10) dX11_parted_6 rfl ?_
    exact j_mask [true, false, true, false, false] rfl (mm_parted_j10_J a0 a2 a4 G a2)

set_option maxRecDepth 100000 in
theorem mm_parted_ct {l : Launch} {H : Hp} (a0 : Int) (a2 : Int) (a4 : Int) (G : Hp) {r : Int} (h : mm_parted a0 a2 a4 G = some r) : Ct l M_mm_parted [(1, a0), (1, a2), (0, a4)] 224 (fu H G) ((KRl (fu H G)) r) :=
  ct_of_J (by decide +kernel) rfl (Nat.le_of_ble_eq_true rfl) (mm_parted_J a0 a2 a4 G) h
set_option maxRecDepth 100000 in
theorem mm_powerOf_L5_J {l : Launch} {H : Hp} (a0 : Int) (a2 : Int) (G : Hp) : ∀ (n_5 : Nat) (x3_5 : Int) (x5_5 : Int), J l M_mm_powerOf (KRl (fu H G)) (mm_powerOf_L5 a0 a2 G  n_5 x3_5 x5_5) 5 [(1, a0), (9, 0), (0, a2), (1, x3_5), (9, 0), (0, x5_5)] [] 224 (fu H G) (0, 0) := by
  intro n_5
  induction n_5 with
  | zero =>
    intro x3_5 x5_5
    exact j_none
  | succ n_5 ih =>
    intro x3_5 x5_5
    rw [mm_powerOf_L5]
    refine j_iload dX11_powerOf_5 rfl ?_
    refine j_iload_n dX11_powerOf_7 rfl rfl ?_
    refine j_icmp_ge (tgt := 21) dX11_powerOf_8 rfl (fun h8 => ?_) (fun h8 => ?_)
    · refine j_lload_n dX11_powerOf_11 rfl rfl ?_
      refine j_lload_n dX11_powerOf_12 rfl rfl ?_
      refine j_lmul dX11_powerOf_13 ?_
      refine j_lstore_n dX11_powerOf_14 rfl (Nat.le_of_ble_eq_true rfl) rfl ?_
      refine j_iinc dX11_powerOf_15 rfl (Nat.le_of_ble_eq_true rfl) rfl ?_
      refine j_goto (tgt := 5) dX11_powerOf_18 rfl ?_
      exact j_mask [true, false, true, true, false, true] rfl (ih (w64 (x3_5 * a0)) (w32 (x5_5 + 1)))
    · refine j_lload_n dX11_powerOf_21 rfl rfl ?_
      exact j_lreturn dX11_powerOf_22 rfl rfl (Nat.zero_le _) (Nat.zero_le _)

set_option maxRecDepth 100000 in
theorem mm_powerOf_J {l : Launch} {H : Hp} (a0 : Int) (a2 : Int) (G : Hp) : J l M_mm_powerOf (KRl (fu H G)) (mm_powerOf a0 a2 G) 0 [(1, a0), (9, 0), (0, a2), (9, 0), (9, 0), (9, 0)] [] 224 (fu H G) (0, 0) := by
  unfold mm_powerOf
  refine j_lconst (z := 1) dX11_powerOf_0 (by unfold r64; omega) (by decide +kernel) ?_
  refine j_lstore_n dX11_powerOf_1 rfl (Nat.le_of_ble_eq_true rfl) rfl ?_
  refine j_iconst dX11_powerOf_2 r32_0 ?_
  refine j_istore dX11_powerOf_3 (Nat.le_of_ble_eq_true rfl) rfl ?_
  exact j_mask [true, false, true, true, false, true] rfl (mm_powerOf_L5_J a0 a2 G FU 1 0)

set_option maxRecDepth 100000 in
theorem mm_powerOf_ct {l : Launch} {H : Hp} (a0 : Int) (a2 : Int) (G : Hp) {r : Int} (h : mm_powerOf a0 a2 G = some r) : Ct l M_mm_powerOf [(1, a0), (0, a2)] 224 (fu H G) ((KRl (fu H G)) r) :=
  ct_of_J (by decide +kernel) rfl (Nat.le_of_ble_eq_true rfl) (mm_powerOf_J a0 a2 G) h
set_option maxRecDepth 100000 in
theorem mm_come_J {l : Launch} {H : Hp} (a1 : Int) (a2 : Int) (a3 : Int) (a4 : Int) (G : Hp) : J l M_mm_come (KWl (fun g => fu H g)) (mm_come a1 a2 a3 a4 G) 0 [(2, 201), (0, a1), (0, a2), (0, a3), (0, a4), (9, 0), (9, 0)] [] 224 (fu H G) (0, 0) := by
  unfold mm_come
  refine j_aload_n dX11_come_0 rfl rfl ?_
  refine j_iload_n dX11_come_1 rfl rfl ?_
  refine j_cVWb dX11_come_2 im_mm_isPaper lk_X11_209 rfl (As := [(0, a1)]) (S := []) rfl om_201.1 ⟨by decide, by decide⟩ (Nat.le_of_ble_eq_true rfl) (fun r hr => mm_isPaper_ct a1 G hr) (fun r2 _ => ?_)
  refine j_ifb_eq (tgt := 27) dX11_come_5 rfl (fun h5 => ?_) (fun h5 => ?_)
  · refine j_iload_n dX11_come_8 rfl rfl ?_
    refine j_iconst dX11_come_9 r32_0 ?_
    refine j_bipush dX11_come_10 r32_10 bp_10 ?_
    refine j_cSRbp dX11_come_12 sm_mm_isIn lk_X11_132 rfl (As := [(0, a2), (0, 0), (0, 10)]) (S := []) rfl ⟨by decide, by decide⟩ (Nat.le_of_ble_eq_true rfl) (mm_isIn_ct a2 0 10) ?_
    refine j_ifb_eq (tgt := 27) dX11_come_15 rfl (fun h15 => ?_) (fun h15 => ?_)
    · refine j_iload_n dX11_come_18 rfl rfl ?_
      refine j_iconst dX11_come_19 r32_0 ?_
      refine j_iconst dX11_come_20 r32_3 ?_
      refine j_cSRbp dX11_come_21 sm_mm_isIn lk_X11_132 rfl (As := [(0, a3), (0, 0), (0, 3)]) (S := []) rfl ⟨by decide, by decide⟩ (Nat.le_of_ble_eq_true rfl) (mm_isIn_ct a3 0 3) ?_
      refine j_ifb_ne (tgt := 31) dX11_come_24 rfl (fun h24 => ?_) (fun h24 => ?_)
      · refine j_ldc2 dX11_come_31 cs_X11_343 (by unfold r64; omega) ?_
        refine j_iload_n dX11_come_34 rfl rfl ?_
        refine j_cSRl dX11_come_35 sm_mm_powerOf lk_X11_345 rfl (As := [(1, 10), (0, a3)]) (S := []) rfl ⟨by decide, by decide⟩ (Nat.le_of_ble_eq_true rfl) (fun r hr => mm_powerOf_ct 10 a3 r2.2 hr) (fun v35 _ => ?_)
        refine j_ldc2 dX11_come_38 cs_X11_343 (by unfold r64; omega) ?_
        refine j_iload_n dX11_come_41 rfl rfl ?_
        refine j_i2l dX11_come_42 ?_
        refine j_lsub dX11_come_43 ?_
        refine j_iload_n dX11_come_44 rfl rfl ?_
        refine j_cSRl dX11_come_45 sm_mm_powerOf lk_X11_345 rfl (As := [(1, w64 (10 - a2)), (0, a3)]) (S := [(1, v35)]) rfl ⟨by decide, by decide⟩ (Nat.le_of_ble_eq_true rfl) (fun r hr => mm_powerOf_ct (w64 (10 - a2)) a3 r2.2 hr) (fun v45 _ => ?_)
        refine j_lsub dX11_come_48 ?_
        refine j_lstore dX11_come_49 (Nat.le_of_ble_eq_true rfl) rfl ?_
        refine j_lload dX11_come_51 rfl ?_
        refine j_aload_n dX11_come_53 rfl rfl ?_
        refine j_gim dX11_come_54 gf_X11_203 om_201 ?_
        refine j_cSRl dX11_come_57 sm_mm_powerOf lk_X11_345 rfl (As := [(1, w64 (v35 - v45)), (0, r2.2 201 14)]) (S := []) rfl ⟨by decide, by decide⟩ (Nat.le_of_ble_eq_true rfl) (fun r hr => mm_powerOf_ct (w64 (v35 - v45)) (r2.2 201 14) r2.2 hr) (fun v57 _ => ?_)
        refine j_ldc2 dX11_come_60 cs_X11_343 (by unfold r64; omega) ?_
        refine j_iload_n dX11_come_63 rfl rfl ?_
        refine j_aload_n dX11_come_64 rfl rfl ?_
        refine j_gim dX11_come_65 gf_X11_203 om_201 ?_
        refine j_imul dX11_come_68 ?_
        refine j_cSRl dX11_come_69 sm_mm_powerOf lk_X11_345 rfl (As := [(1, 10), (0, w32 (a3 * (r2.2 201 14)))]) (S := [(1, v57)]) rfl ⟨by decide, by decide⟩ (Nat.le_of_ble_eq_true rfl) (fun r hr => mm_powerOf_ct 10 (w32 (a3 * (r2.2 201 14))) r2.2 hr) (fun v69 _ => ?_)
        refine j_iload dX11_come_72 rfl ?_
        refine j_cSRl dX11_come_74 sm_mm_parted lk_X11_349 rfl (As := [(1, v57), (1, v69), (0, a4)]) (S := []) rfl ⟨by decide, by decide⟩ (Nat.le_of_ble_eq_true rfl) (fun r hr => mm_parted_ct v57 v69 a4 r2.2 hr) (fun v74 _ => ?_)
        exact j_lreturn dX11_come_77 rfl rfl (Nat.zero_le _) (Nat.zero_le _)
      · refine j_ldc2 dX11_come_27 cs_X11_341 (by unfold r64; omega) ?_
        exact j_lreturn dX11_come_30 rfl rfl (Nat.zero_le _) (Nat.zero_le _)
    · refine j_ldc2 dX11_come_27 cs_X11_341 (by unfold r64; omega) ?_
      exact j_lreturn dX11_come_30 rfl rfl (Nat.zero_le _) (Nat.zero_le _)
  · refine j_ldc2 dX11_come_27 cs_X11_341 (by unfold r64; omega) ?_
    exact j_lreturn dX11_come_30 rfl rfl (Nat.zero_le _) (Nat.zero_le _)

set_option maxRecDepth 100000 in
theorem mm_come_ct {l : Launch} {H : Hp} (a1 : Int) (a2 : Int) (a3 : Int) (a4 : Int) (G : Hp) {r : Int × Hp} (h : mm_come a1 a2 a3 a4 G = some r) : Ct l M_mm_come [(2, 201), (0, a1), (0, a2), (0, a3), (0, a4)] 224 (fu H G) ((KWl (fun g => fu H g)) r) :=
  ct_of_J (by decide +kernel) rfl (Nat.le_of_ble_eq_true rfl) (mm_come_J a1 a2 a3 a4 G) h
set_option maxRecDepth 100000 in
theorem mm_kinOf_L4_J {l : Launch} {H : Hp} (a1 : Int) (G : Hp) : ∀ (n_4 : Nat) (x2_4 : Int) (x3_4 : Int), J l M_mm_kinOf (KRi (fu H G)) (mm_kinOf_L4 a1 G  n_4 x2_4 x3_4) 4 [(2, 201), (0, a1), (0, x2_4), (0, x3_4)] [] 224 (fu H G) (0, 0) := by
  intro n_4
  induction n_4 with
  | zero =>
    intro x2_4 x3_4
    exact j_none
  | succ n_4 ih =>
    intro x2_4 x3_4
    rw [mm_kinOf_L4]
    refine j_iload_n dX11_kinOf_4 rfl rfl ?_
    refine j_bipush dX11_kinOf_5 r32_10 bp_10 ?_
    refine j_icmp_ge (tgt := 41) dX11_kinOf_7 rfl (fun h7 => ?_) (fun h7 => ?_)
    · refine j_iload_n dX11_kinOf_10 rfl rfl ?_
      refine j_aload_n dX11_kinOf_11 rfl rfl ?_
      refine j_grm dX11_kinOf_12 gf_X11_23 om_201 (Or.inl (by decide)) rf_201_16 ?_
      refine j_bipush dX11_kinOf_15 r32_10 bp_10 ?_
      refine j_iload_n dX11_kinOf_17 rfl rfl ?_
      refine j_imul dX11_kinOf_18 ?_
      refine j_iload_n dX11_kinOf_19 rfl rfl ?_
      refine j_iadd dX11_kinOf_20 ?_
      refine j_gd (fun h21a h21b => ?_)
      refine j_aim dX11_kinOf_21 om_206 rfl h21a h21b ?_
      refine j_iconst dX11_kinOf_22 r32_m1 ?_
      refine j_icmp_ne (tgt := 30) dX11_kinOf_23 rfl (fun h23 => ?_) (fun h23 => ?_)
      · refine j_iconst dX11_kinOf_26 r32_0 ?_
        refine j_goto (tgt := 33) dX11_kinOf_27 rfl ?_
        refine j_ior dX11_kinOf_33 ?_
        refine j_istore_n dX11_kinOf_34 rfl (Nat.le_of_ble_eq_true rfl) rfl ?_
        refine j_iinc dX11_kinOf_35 rfl (Nat.le_of_ble_eq_true rfl) rfl ?_
        refine j_goto (tgt := 4) dX11_kinOf_38 rfl ?_
        exact j_mask [true, true, true, true] rfl (ih (ior x2_4 0) (w32 (x3_4 + 1)))
      · refine j_iconst dX11_kinOf_30 r32_1 ?_
        refine j_iload_n dX11_kinOf_31 rfl rfl ?_
        refine j_ishl dX11_kinOf_32 ?_
        refine j_ior dX11_kinOf_33 ?_
        refine j_istore_n dX11_kinOf_34 rfl (Nat.le_of_ble_eq_true rfl) rfl ?_
        refine j_iinc dX11_kinOf_35 rfl (Nat.le_of_ble_eq_true rfl) rfl ?_
        refine j_goto (tgt := 4) dX11_kinOf_38 rfl ?_
        exact j_mask [true, true, true, true] rfl (ih (ior x2_4 (ishl 1 x3_4)) (w32 (x3_4 + 1)))
    · refine j_iload_n dX11_kinOf_41 rfl rfl ?_
      exact j_ireturn dX11_kinOf_42 rfl rfl (Nat.zero_le _) (Nat.zero_le _)

set_option maxRecDepth 100000 in
theorem mm_kinOf_J {l : Launch} {H : Hp} (a1 : Int) (G : Hp) : J l M_mm_kinOf (KRi (fu H G)) (mm_kinOf a1 G) 0 [(2, 201), (0, a1), (9, 0), (9, 0)] [] 224 (fu H G) (0, 0) := by
  unfold mm_kinOf
  refine j_iconst dX11_kinOf_0 r32_0 ?_
  refine j_istore_n dX11_kinOf_1 rfl (Nat.le_of_ble_eq_true rfl) rfl ?_
  refine j_iconst dX11_kinOf_2 r32_0 ?_
  refine j_istore_n dX11_kinOf_3 rfl (Nat.le_of_ble_eq_true rfl) rfl ?_
  exact j_mask [true, true, true, true] rfl (mm_kinOf_L4_J a1 G FU 0 0)

set_option maxRecDepth 100000 in
theorem mm_kinOf_ct {l : Launch} {H : Hp} (a1 : Int) (G : Hp) {r : Int} (h : mm_kinOf a1 G = some r) : Ct l M_mm_kinOf [(2, 201), (0, a1)] 224 (fu H G) ((KRi (fu H G)) r) :=
  ct_of_J (by decide +kernel) rfl (Nat.le_of_ble_eq_true rfl) (mm_kinOf_J a1 G) h
set_option maxRecDepth 100000 in
theorem mm_kinAll_j36_J {l : Launch} {H : Hp} (a1 : Int) (G : Hp) (k7 : Int → Int → Int → Option (Int)) (hk7 : ∀ (x2_7 : Int) (x3_7 : Int) (x4_7 : Int), J l M_mm_kinAll (KRi (fu H G)) (k7 x2_7 x3_7 x4_7) 7 [(2, 201), (0, a1), (0, x2_7), (0, x3_7), (0, x4_7)] [] 224 (fu H G) (0, 0)) (x3_36 : Int) (x4_36 : Int) (s0_36 : Int) (s1_36 : Int) : J l M_mm_kinAll (KRi (fu H G)) (mm_kinAll_j36 a1 G k7 x3_36 x4_36 s0_36 s1_36) 36 [(2, 201), (0, a1), (9, 0), (0, x3_36), (0, x4_36)] [(0, s0_36), (0, s1_36)] 224 (fu H G) (0, 0) := by
  unfold mm_kinAll_j36
  refine j_iadd dX11_kinAll_36 ?_
  refine j_istore_n dX11_kinAll_37 rfl (Nat.le_of_ble_eq_true rfl) rfl ?_
  refine j_aload_n dX11_kinAll_38 rfl rfl ?_
  refine j_iload dX11_kinAll_39 rfl ?_
  refine j_cVRi dX11_kinAll_41 im_mm_kinOf lk_X11_353 rfl (As := [(0, x4_36)]) (S := []) rfl om_201.1 ⟨by decide, by decide⟩ (Nat.le_of_ble_eq_true rfl) (fun r hr => mm_kinOf_ct x4_36 G hr) (fun v41 _ => ?_)
  refine j_cSRi dX11_kinAll_44 sm_mm_bitsOf lk_X11_334 rfl (As := [(0, v41)]) (S := []) rfl ⟨by decide, by decide⟩ (Nat.le_of_ble_eq_true rfl) (fun r hr => mm_bitsOf_ct v41 G hr) (fun v44 _ => ?_)
  refine j_iload_n dX11_kinAll_47 rfl rfl ?_
  refine j_icmp_le (tgt := 63) dX11_kinAll_48 rfl (fun h48 => ?_) (fun h48 => ?_)
  · refine j_aload_n dX11_kinAll_51 rfl rfl ?_
    refine j_iload dX11_kinAll_52 rfl ?_
    refine j_cVRi dX11_kinAll_54 im_mm_kinOf lk_X11_353 rfl (As := [(0, x4_36)]) (S := []) rfl om_201.1 ⟨by decide, by decide⟩ (Nat.le_of_ble_eq_true rfl) (fun r hr => mm_kinOf_ct x4_36 G hr) (fun v54 _ => ?_)
    refine j_cSRi dX11_kinAll_57 sm_mm_bitsOf lk_X11_334 rfl (As := [(0, v54)]) (S := []) rfl ⟨by decide, by decide⟩ (Nat.le_of_ble_eq_true rfl) (fun r hr => mm_bitsOf_ct v54 G hr) (fun v57 _ => ?_)
    refine j_goto (tgt := 64) dX11_kinAll_60 rfl ?_
    refine j_istore_n dX11_kinAll_64 rfl (Nat.le_of_ble_eq_true rfl) rfl ?_
    refine j_iinc dX11_kinAll_65 rfl (Nat.le_of_ble_eq_true rfl) rfl ?_
    refine j_goto (tgt := 7) dX11_kinAll_68 rfl ?_
    exact j_mask [true, true, true, true, true] rfl (hk7 (w32 (s1_36 + s0_36)) v57 (w32 (x4_36 + 1)))
  · refine j_iload_n dX11_kinAll_63 rfl rfl ?_
    refine j_istore_n dX11_kinAll_64 rfl (Nat.le_of_ble_eq_true rfl) rfl ?_
    refine j_iinc dX11_kinAll_65 rfl (Nat.le_of_ble_eq_true rfl) rfl ?_
    refine j_goto (tgt := 7) dX11_kinAll_68 rfl ?_
    exact j_mask [true, true, true, true, true] rfl (hk7 (w32 (s1_36 + s0_36)) x3_36 (w32 (x4_36 + 1)))

set_option maxRecDepth 100000 in
theorem mm_kinAll_L7_J {l : Launch} {H : Hp} (a1 : Int) (G : Hp) (k71 : Int → Int → Option (Int)) (hk71 : ∀ (x2_71 : Int) (x3_71 : Int), J l M_mm_kinAll (KRi (fu H G)) (k71 x2_71 x3_71) 71 [(9, 0), (0, a1), (0, x2_71), (0, x3_71), (9, 0)] [] 224 (fu H G) (0, 0)) : ∀ (n_7 : Nat) (x2_7 : Int) (x3_7 : Int) (x4_7 : Int), J l M_mm_kinAll (KRi (fu H G)) (mm_kinAll_L7 a1 G k71 n_7 x2_7 x3_7 x4_7) 7 [(2, 201), (0, a1), (0, x2_7), (0, x3_7), (0, x4_7)] [] 224 (fu H G) (0, 0) := by
  intro n_7
  induction n_7 with
  | zero =>
    intro x2_7 x3_7 x4_7
    exact j_none
  | succ n_7 ih =>
    intro x2_7 x3_7 x4_7
    rw [mm_kinAll_L7]
    refine j_iload dX11_kinAll_7 rfl ?_
    refine j_bipush dX11_kinAll_9 r32_10 bp_10 ?_
    refine j_icmp_ge (tgt := 71) dX11_kinAll_11 rfl (fun h11 => ?_) (fun h11 => ?_)
    · refine j_iload_n dX11_kinAll_14 rfl rfl ?_
      refine j_aload_n dX11_kinAll_15 rfl rfl ?_
      refine j_iload dX11_kinAll_16 rfl ?_
      refine j_cVRi dX11_kinAll_18 im_mm_kinOf lk_X11_353 rfl (As := [(0, x4_7)]) (S := [(0, x2_7)]) rfl om_201.1 ⟨by decide, by decide⟩ (Nat.le_of_ble_eq_true rfl) (fun r hr => mm_kinOf_ct x4_7 G hr) (fun v18 _ => ?_)
      refine j_iconst dX11_kinAll_21 r32_1 ?_
      refine j_iload dX11_kinAll_22 rfl ?_
      refine j_ishl dX11_kinAll_24 ?_
      refine j_iconst dX11_kinAll_25 r32_1 ?_
      refine j_isub dX11_kinAll_26 ?_
      refine j_iand dX11_kinAll_27 ?_
      refine j_if_ne (tgt := 35) dX11_kinAll_28 rfl (fun h28 => ?_) (fun h28 => ?_)
      · refine j_iconst dX11_kinAll_31 r32_1 ?_
        refine j_goto (tgt := 36) dX11_kinAll_32 rfl ?_
        exact j_mask [true, true, false, true, true] rfl (mm_kinAll_j36_J a1 G  (mm_kinAll_L7 a1 G k71 n_7) ih x3_7 x4_7 1 x2_7)
      · refine j_iconst dX11_kinAll_35 r32_0 ?_
        exact j_mask [true, true, false, true, true] rfl (mm_kinAll_j36_J a1 G  (mm_kinAll_L7 a1 G k71 n_7) ih x3_7 x4_7 0 x2_7)
    · exact j_mask [false, true, true, true, false] rfl (hk71 x2_7 x3_7)

set_option maxRecDepth 100000 in
theorem mm_kinAll_J {l : Launch} {H : Hp} (a1 : Int) (G : Hp) : J l M_mm_kinAll (KRi (fu H G)) (mm_kinAll a1 G) 0 [(2, 201), (0, a1), (9, 0), (9, 0), (9, 0)] [] 224 (fu H G) (0, 0) := by
  unfold mm_kinAll
  refine j_iconst dX11_kinAll_0 r32_0 ?_
  refine j_istore_n dX11_kinAll_1 rfl (Nat.le_of_ble_eq_true rfl) rfl ?_
  refine j_iconst dX11_kinAll_2 r32_0 ?_
  refine j_istore_n dX11_kinAll_3 rfl (Nat.le_of_ble_eq_true rfl) rfl ?_
  refine j_iconst dX11_kinAll_4 r32_0 ?_
  refine j_istore dX11_kinAll_5 (Nat.le_of_ble_eq_true rfl) rfl ?_
  refine j_mask [true, true, true, true, true] rfl (mm_kinAll_L7_J a1 G (fun x2_71 x3_71 => if a1 = 0 then some x2_71 else some x3_71) (fun x2_71 x3_71 => ?_) FU 0 0 0)
  refine j_iload_n dX11_kinAll_71 rfl rfl ?_
  refine j_if_eq (tgt := 79) dX11_kinAll_72 rfl (fun h72 => ?_) (fun h72 => ?_)
  · refine j_iload_n dX11_kinAll_79 rfl rfl ?_
    exact j_ireturn dX11_kinAll_80 rfl rfl (Nat.zero_le _) (Nat.zero_le _)
  · refine j_iload_n dX11_kinAll_75 rfl rfl ?_
    refine j_goto (tgt := 80) dX11_kinAll_76 rfl ?_
    exact j_ireturn dX11_kinAll_80 rfl rfl (Nat.zero_le _) (Nat.zero_le _)

set_option maxRecDepth 100000 in
theorem mm_kinAll_ct {l : Launch} {H : Hp} (a1 : Int) (G : Hp) {r : Int} (h : mm_kinAll a1 G = some r) : Ct l M_mm_kinAll [(2, 201), (0, a1)] 224 (fu H G) ((KRi (fu H G)) r) :=
  ct_of_J (by decide +kernel) rfl (Nat.le_of_ble_eq_true rfl) (mm_kinAll_J a1 G) h
set_option maxRecDepth 100000 in
theorem mm_widest_L4_J {l : Launch} {H : Hp} (G : Hp) : ∀ (n_4 : Nat) (x1_4 : Int) (x2_4 : Int), J l M_mm_widest (KRi (fu H G)) (mm_widest_L4 G  n_4 x1_4 x2_4) 4 [(2, 201), (0, x1_4), (0, x2_4)] [] 224 (fu H G) (0, 0) := by
  intro n_4
  induction n_4 with
  | zero =>
    intro x1_4 x2_4
    exact j_none
  | succ n_4 ih =>
    intro x1_4 x2_4
    rw [mm_widest_L4]
    refine j_iload_n dX11_widest_4 rfl rfl ?_
    refine j_bipush dX11_widest_5 r32_100 bp_100 ?_
    refine j_icmp_ge (tgt := 37) dX11_widest_7 rfl (fun h7 => ?_) (fun h7 => ?_)
    · refine j_aload_n dX11_widest_10 rfl rfl ?_
      refine j_grm dX11_widest_11 gf_X11_23 om_201 (Or.inl (by decide)) rf_201_16 ?_
      refine j_iload_n dX11_widest_14 rfl rfl ?_
      refine j_gd (fun h15a h15b => ?_)
      refine j_aim dX11_widest_15 om_206 rfl h15a h15b ?_
      refine j_iload_n dX11_widest_16 rfl rfl ?_
      refine j_icmp_le (tgt := 29) dX11_widest_17 rfl (fun h17 => ?_) (fun h17 => ?_)
      · refine j_aload_n dX11_widest_20 rfl rfl ?_
        refine j_grm dX11_widest_21 gf_X11_23 om_201 (Or.inl (by decide)) rf_201_16 ?_
        refine j_iload_n dX11_widest_24 rfl rfl ?_
        refine j_gd (fun h25a h25b => ?_)
        refine j_aim dX11_widest_25 om_206 rfl h25a h25b ?_
        refine j_goto (tgt := 30) dX11_widest_26 rfl ?_
        refine j_istore_n dX11_widest_30 rfl (Nat.le_of_ble_eq_true rfl) rfl ?_
        refine j_iinc dX11_widest_31 rfl (Nat.le_of_ble_eq_true rfl) rfl ?_
        refine j_goto (tgt := 4) dX11_widest_34 rfl ?_
        exact j_mask [true, true, true] rfl (ih (G 206 x2_4) (w32 (x2_4 + 1)))
      · refine j_iload_n dX11_widest_29 rfl rfl ?_
        refine j_istore_n dX11_widest_30 rfl (Nat.le_of_ble_eq_true rfl) rfl ?_
        refine j_iinc dX11_widest_31 rfl (Nat.le_of_ble_eq_true rfl) rfl ?_
        refine j_goto (tgt := 4) dX11_widest_34 rfl ?_
        exact j_mask [true, true, true] rfl (ih x1_4 (w32 (x2_4 + 1)))
    · refine j_iload_n dX11_widest_37 rfl rfl ?_
      exact j_ireturn dX11_widest_38 rfl rfl (Nat.zero_le _) (Nat.zero_le _)

set_option maxRecDepth 100000 in
theorem mm_widest_J {l : Launch} {H : Hp} (G : Hp) : J l M_mm_widest (KRi (fu H G)) (mm_widest  G) 0 [(2, 201), (9, 0), (9, 0)] [] 224 (fu H G) (0, 0) := by
  unfold mm_widest
  refine j_iconst dX11_widest_0 r32_0 ?_
  refine j_istore_n dX11_widest_1 rfl (Nat.le_of_ble_eq_true rfl) rfl ?_
  refine j_iconst dX11_widest_2 r32_0 ?_
  refine j_istore_n dX11_widest_3 rfl (Nat.le_of_ble_eq_true rfl) rfl ?_
  exact j_mask [true, true, true] rfl (mm_widest_L4_J G FU 0 0)

set_option maxRecDepth 100000 in
theorem mm_widest_ct {l : Launch} {H : Hp} (G : Hp) {r : Int} (h : mm_widest  G = some r) : Ct l M_mm_widest [(2, 201)] 224 (fu H G) ((KRi (fu H G)) r) :=
  ct_of_J (by decide +kernel) rfl (Nat.le_of_ble_eq_true rfl) (mm_widest_J  G) h
set_option maxRecDepth 100000 in
theorem mm_lone_L4_J {l : Launch} {H : Hp} (G : Hp) : ∀ (n_4 : Nat) (x1_4 : Int) (x2_4 : Int), J l M_mm_lone (KRi (fu H G)) (mm_lone_L4 G  n_4 x1_4 x2_4) 4 [(2, 201), (0, x1_4), (0, x2_4)] [] 224 (fu H G) (0, 0) := by
  intro n_4
  induction n_4 with
  | zero =>
    intro x1_4 x2_4
    exact j_none
  | succ n_4 ih =>
    intro x1_4 x2_4
    rw [mm_lone_L4]
    refine j_iload_n dX11_lone_4 rfl rfl ?_
    refine j_bipush dX11_lone_5 r32_10 bp_10 ?_
    refine j_icmp_ge (tgt := 35) dX11_lone_7 rfl (fun h7 => ?_) (fun h7 => ?_)
    · refine j_iload_n dX11_lone_10 rfl rfl ?_
      refine j_aload_n dX11_lone_11 rfl rfl ?_
      refine j_grm dX11_lone_12 gf_X11_20 om_201 (Or.inl (by decide)) rf_201_15 ?_
      refine j_iload_n dX11_lone_15 rfl rfl ?_
      refine j_gd (fun h16a h16b => ?_)
      refine j_aim dX11_lone_16 om_205 rfl h16a h16b ?_
      refine j_if_ne (tgt := 26) dX11_lone_17 rfl (fun h17 => ?_) (fun h17 => ?_)
      · refine j_iconst dX11_lone_20 r32_1 ?_
        refine j_iload_n dX11_lone_21 rfl rfl ?_
        refine j_ishl dX11_lone_22 ?_
        refine j_goto (tgt := 27) dX11_lone_23 rfl ?_
        refine j_ior dX11_lone_27 ?_
        refine j_istore_n dX11_lone_28 rfl (Nat.le_of_ble_eq_true rfl) rfl ?_
        refine j_iinc dX11_lone_29 rfl (Nat.le_of_ble_eq_true rfl) rfl ?_
        refine j_goto (tgt := 4) dX11_lone_32 rfl ?_
        exact j_mask [true, true, true] rfl (ih (ior x1_4 (ishl 1 x2_4)) (w32 (x2_4 + 1)))
      · refine j_iconst dX11_lone_26 r32_0 ?_
        refine j_ior dX11_lone_27 ?_
        refine j_istore_n dX11_lone_28 rfl (Nat.le_of_ble_eq_true rfl) rfl ?_
        refine j_iinc dX11_lone_29 rfl (Nat.le_of_ble_eq_true rfl) rfl ?_
        refine j_goto (tgt := 4) dX11_lone_32 rfl ?_
        exact j_mask [true, true, true] rfl (ih (ior x1_4 0) (w32 (x2_4 + 1)))
    · refine j_iload_n dX11_lone_35 rfl rfl ?_
      exact j_ireturn dX11_lone_36 rfl rfl (Nat.zero_le _) (Nat.zero_le _)

set_option maxRecDepth 100000 in
theorem mm_lone_J {l : Launch} {H : Hp} (G : Hp) : J l M_mm_lone (KRi (fu H G)) (mm_lone  G) 0 [(2, 201), (9, 0), (9, 0)] [] 224 (fu H G) (0, 0) := by
  unfold mm_lone
  refine j_iconst dX11_lone_0 r32_0 ?_
  refine j_istore_n dX11_lone_1 rfl (Nat.le_of_ble_eq_true rfl) rfl ?_
  refine j_iconst dX11_lone_2 r32_0 ?_
  refine j_istore_n dX11_lone_3 rfl (Nat.le_of_ble_eq_true rfl) rfl ?_
  exact j_mask [true, true, true] rfl (mm_lone_L4_J G FU 0 0)

set_option maxRecDepth 100000 in
theorem mm_lone_ct {l : Launch} {H : Hp} (G : Hp) {r : Int} (h : mm_lone  G = some r) : Ct l M_mm_lone [(2, 201)] 224 (fu H G) ((KRi (fu H G)) r) :=
  ct_of_J (by decide +kernel) rfl (Nat.le_of_ble_eq_true rfl) (mm_lone_J  G) h
set_option maxRecDepth 100000 in
theorem mm_parting_j100_J {l : Launch} {H : Hp} (a1 : Int) (x4_19 : Int) (k19 : Int → Int → Int → Hp → Option (Int × Hp)) (hk19 : ∀ (x2_19 : Int) (x3_19 : Int) (x5_19 : Int) (G_19 : Hp), J l M_mm_parting (KWi (fun g => fu H g)) (k19 x2_19 x3_19 x5_19 G_19) 19 [(2, 201), (0, a1), (0, x2_19), (0, x3_19), (0, x4_19), (0, x5_19), (9, 0)] [] 224 (fu H G_19) (0, 0)) (x2_100 : Int) (x5_100 : Int) (s0_100 : Int) (G_100 : Hp) : J l M_mm_parting (KWi (fun g => fu H g)) (mm_parting_j100 a1 k19 x2_100 x4_19 x5_100 s0_100 G_100) 100 [(2, 201), (0, a1), (0, x2_100), (9, 0), (0, x4_19), (0, x5_100), (9, 0)] [(0, s0_100)] 224 (fu H G_100) (0, 0) := by
  unfold mm_parting_j100
  refine j_istore_n dX11_parting_100 rfl (Nat.le_of_ble_eq_true rfl) rfl ?_
  refine j_aload_n dX11_parting_101 rfl rfl ?_
  refine j_iload dX11_parting_102 rfl ?_
  refine j_iload dX11_parting_104 rfl ?_
  refine j_iconst dX11_parting_106 r32_1 ?_
  refine j_cVWv dX11_parting_107 im_mm_joins lk_X11_356 rfl (As := [(0, x4_19), (0, x5_100), (0, 1)]) (S := []) rfl om_201.1 ⟨by decide, by decide⟩ (Nat.le_of_ble_eq_true rfl) (fun r hr => mm_joins_ct x4_19 x5_100 1 G_100 hr) (fun G107 _ => ?_)
  refine j_iinc dX11_parting_110 rfl (Nat.le_of_ble_eq_true rfl) rfl ?_
  refine j_goto (tgt := 19) dX11_parting_113 rfl ?_
  exact j_mask [true, true, true, true, true, true, false] rfl (hk19 x2_100 s0_100 (w32 (x5_100 + 1)) G107)

set_option maxRecDepth 100000 in
theorem mm_parting_j76_J {l : Launch} {H : Hp} (a1 : Int) (x4_19 : Int) (k19 : Int → Int → Int → Hp → Option (Int × Hp)) (hk19 : ∀ (x2_19 : Int) (x3_19 : Int) (x5_19 : Int) (G_19 : Hp), J l M_mm_parting (KWi (fun g => fu H g)) (k19 x2_19 x3_19 x5_19 G_19) 19 [(2, 201), (0, a1), (0, x2_19), (0, x3_19), (0, x4_19), (0, x5_19), (9, 0)] [] 224 (fu H G_19) (0, 0)) (x3_76 : Int) (x5_76 : Int) (x6_76 : Int) (s0_76 : Int) (s1_76 : Int) (G_76 : Hp) : J l M_mm_parting (KWi (fun g => fu H g)) (mm_parting_j76 a1 k19 x3_76 x4_19 x5_76 x6_76 s0_76 s1_76 G_76) 76 [(2, 201), (0, a1), (9, 0), (0, x3_76), (0, x4_19), (0, x5_76), (0, x6_76)] [(0, s0_76), (0, s1_76)] 224 (fu H G_76) (0, 0) := by
  unfold mm_parting_j76
  refine j_iadd dX11_parting_76 ?_
  refine j_istore_n dX11_parting_77 rfl (Nat.le_of_ble_eq_true rfl) rfl ?_
  refine j_iload dX11_parting_78 rfl ?_
  refine j_iconst dX11_parting_80 r32_m1 ?_
  refine j_icmp_eq (tgt := 99) dX11_parting_81 rfl (fun h81 => ?_) (fun h81 => ?_)
  · refine j_iload_n dX11_parting_99 rfl rfl ?_
    exact j_mask [true, true, true, false, true, true, false] rfl (mm_parting_j100_J a1 x4_19 k19 hk19 (w32 (s1_76 + s0_76)) x5_76 x3_76 G_76)
  · refine j_iload dX11_parting_84 rfl ?_
    refine j_iconst dX11_parting_86 r32_1 ?_
    refine j_iadd dX11_parting_87 ?_
    refine j_iload_n dX11_parting_88 rfl rfl ?_
    refine j_icmp_ge (tgt := 99) dX11_parting_89 rfl (fun h89 => ?_) (fun h89 => ?_)
    · refine j_iload dX11_parting_92 rfl ?_
      refine j_iconst dX11_parting_94 r32_1 ?_
      refine j_iadd dX11_parting_95 ?_
      refine j_goto (tgt := 100) dX11_parting_96 rfl ?_
      exact j_mask [true, true, true, false, true, true, false] rfl (mm_parting_j100_J a1 x4_19 k19 hk19 (w32 (s1_76 + s0_76)) x5_76 (w32 (x6_76 + 1)) G_76)
    · refine j_iload_n dX11_parting_99 rfl rfl ?_
      exact j_mask [true, true, true, false, true, true, false] rfl (mm_parting_j100_J a1 x4_19 k19 hk19 (w32 (s1_76 + s0_76)) x5_76 x3_76 G_76)

set_option maxRecDepth 100000 in
theorem mm_parting_L19_J {l : Launch} {H : Hp} (a1 : Int) (x4_19 : Int) (k116 : Int → Int → Hp → Option (Int × Hp)) (hk116 : ∀ (x2_116 : Int) (x3_116 : Int) (G_116 : Hp), J l M_mm_parting (KWi (fun g => fu H g)) (k116 x2_116 x3_116 G_116) 116 [(2, 201), (0, a1), (0, x2_116), (0, x3_116), (0, x4_19), (9, 0), (9, 0)] [] 224 (fu H G_116) (0, 0)) : ∀ (n_19 : Nat) (x2_19 : Int) (x3_19 : Int) (x5_19 : Int) (G_19 : Hp), J l M_mm_parting (KWi (fun g => fu H g)) (mm_parting_L19 a1 x4_19 k116 n_19 x2_19 x3_19 x5_19 G_19) 19 [(2, 201), (0, a1), (0, x2_19), (0, x3_19), (0, x4_19), (0, x5_19), (9, 0)] [] 224 (fu H G_19) (0, 0) := by
  intro n_19
  induction n_19 with
  | zero =>
    intro x2_19 x3_19 x5_19 G_19
    exact j_none
  | succ n_19 ih =>
    intro x2_19 x3_19 x5_19 G_19
    rw [mm_parting_L19]
    refine j_iload dX11_parting_19 rfl ?_
    refine j_iload dX11_parting_21 rfl ?_
    refine j_icmp_ge (tgt := 116) dX11_parting_23 rfl (fun h23 => ?_) (fun h23 => ?_)
    · refine j_aload_n dX11_parting_26 rfl rfl ?_
      refine j_iload dX11_parting_27 rfl ?_
      refine j_iload dX11_parting_29 rfl ?_
      refine j_cVRb dX11_parting_31 im_mm_areNear lk_X11_233 rfl (As := [(0, x4_19), (0, x5_19)]) (S := []) rfl om_201.1 ⟨by decide, by decide⟩ (Nat.le_of_ble_eq_true rfl) (fun r hr => mm_areNear_ct x4_19 x5_19 G_19 hr) (fun v31 _ => ?_)
      refine j_ifb_ne (tgt := 40) dX11_parting_34 rfl (fun h34 => ?_) (fun h34 => ?_)
      · refine j_aload_n dX11_parting_40 rfl rfl ?_
        refine j_iload dX11_parting_41 rfl ?_
        refine j_iload dX11_parting_43 rfl ?_
        refine j_iconst dX11_parting_45 r32_0 ?_
        refine j_cVWv dX11_parting_46 im_mm_joins lk_X11_356 rfl (As := [(0, x4_19), (0, x5_19), (0, 0)]) (S := []) rfl om_201.1 ⟨by decide, by decide⟩ (Nat.le_of_ble_eq_true rfl) (fun r hr => mm_joins_ct x4_19 x5_19 0 G_19 hr) (fun G46 _ => ?_)
        refine j_aload_n dX11_parting_49 rfl rfl ?_
        refine j_grm dX11_parting_50 gf_X11_23 om_201 (Or.inl (by decide)) rf_201_16 ?_
        refine j_bipush dX11_parting_53 r32_10 bp_10 ?_
        refine j_iload dX11_parting_55 rfl ?_
        refine j_imul dX11_parting_57 ?_
        refine j_iload dX11_parting_58 rfl ?_
        refine j_iadd dX11_parting_60 ?_
        refine j_gd (fun h61a h61b => ?_)
        refine j_aim dX11_parting_61 om_206 rfl h61a h61b ?_
        refine j_istore dX11_parting_62 (Nat.le_of_ble_eq_true rfl) rfl ?_
        refine j_iload_n dX11_parting_64 rfl rfl ?_
        refine j_iload dX11_parting_65 rfl ?_
        refine j_iconst dX11_parting_67 r32_m1 ?_
        refine j_icmp_ne (tgt := 75) dX11_parting_68 rfl (fun h68 => ?_) (fun h68 => ?_)
        · refine j_iconst dX11_parting_71 r32_1 ?_
          refine j_goto (tgt := 76) dX11_parting_72 rfl ?_
          exact j_mask [true, true, false, true, true, true, true] rfl (mm_parting_j76_J a1 x4_19 (mm_parting_L19 a1 x4_19 k116 n_19) ih x3_19 x5_19 (G46 206 (w32 ((w32 (10 * x4_19)) + x5_19))) 1 x2_19 G46)
        · refine j_iconst dX11_parting_75 r32_0 ?_
          exact j_mask [true, true, false, true, true, true, true] rfl (mm_parting_j76_J a1 x4_19 (mm_parting_L19 a1 x4_19 k116 n_19) ih x3_19 x5_19 (G46 206 (w32 ((w32 (10 * x4_19)) + x5_19))) 0 x2_19 G46)
      · refine j_goto (tgt := 110) dX11_parting_37 rfl ?_
        refine j_iinc dX11_parting_110 rfl (Nat.le_of_ble_eq_true rfl) rfl ?_
        refine j_goto (tgt := 19) dX11_parting_113 rfl ?_
        exact j_mask [true, true, true, true, true, true, false] rfl (ih x2_19 x3_19 (w32 (x5_19 + 1)) G_19)
    · exact j_mask [true, true, true, true, true, false, false] rfl (hk116 x2_19 x3_19 G_19)

set_option maxRecDepth 100000 in
theorem mm_parting_L9_J {l : Launch} {H : Hp} (a1 : Int) (k122 : Int → Int → Hp → Option (Int × Hp)) (hk122 : ∀ (x2_122 : Int) (x3_122 : Int) (G_122 : Hp), J l M_mm_parting (KWi (fun g => fu H g)) (k122 x2_122 x3_122 G_122) 122 [(9, 0), (0, a1), (0, x2_122), (0, x3_122), (9, 0), (9, 0), (9, 0)] [] 224 (fu H G_122) (0, 0)) : ∀ (n_9 : Nat) (x2_9 : Int) (x3_9 : Int) (x4_9 : Int) (G_9 : Hp), J l M_mm_parting (KWi (fun g => fu H g)) (mm_parting_L9 a1 k122 n_9 x2_9 x3_9 x4_9 G_9) 9 [(2, 201), (0, a1), (0, x2_9), (0, x3_9), (0, x4_9), (9, 0), (9, 0)] [] 224 (fu H G_9) (0, 0) := by
  intro n_9
  induction n_9 with
  | zero =>
    intro x2_9 x3_9 x4_9 G_9
    exact j_none
  | succ n_9 ih =>
    intro x2_9 x3_9 x4_9 G_9
    rw [mm_parting_L9]
    refine j_iload dX11_parting_9 rfl ?_
    refine j_bipush dX11_parting_11 r32_10 bp_10 ?_
    refine j_icmp_ge (tgt := 122) dX11_parting_13 rfl (fun h13 => ?_) (fun h13 => ?_)
    · refine j_iconst dX11_parting_16 r32_0 ?_
      refine j_istore dX11_parting_17 (Nat.le_of_ble_eq_true rfl) rfl ?_
      refine j_mask [true, true, true, true, true, true, false] rfl (mm_parting_L19_J a1 x4_9 (fun x2_116 x3_116 G_116 => mm_parting_L9 a1 k122 n_9 x2_116 x3_116 (w32 (x4_9 + 1)) G_116) (fun x2_116 x3_116 G_116 => ?_) FU x2_9 x3_9 0 G_9)
      refine j_iinc dX11_parting_116 rfl (Nat.le_of_ble_eq_true rfl) rfl ?_
      refine j_goto (tgt := 9) dX11_parting_119 rfl ?_
      exact j_mask [true, true, true, true, true, false, false] rfl (ih x2_116 x3_116 (w32 (x4_9 + 1)) G_116)
    · exact j_mask [false, true, true, true, false, false, false] rfl (hk122 x2_9 x3_9 G_9)

set_option maxRecDepth 100000 in
theorem mm_parting_J {l : Launch} {H : Hp} (a1 : Int) (G : Hp) : J l M_mm_parting (KWi (fun g => fu H g)) (mm_parting a1 G) 0 [(2, 201), (0, a1), (9, 0), (9, 0), (9, 0), (9, 0), (9, 0)] [] 224 (fu H G) (0, 0) := by
  unfold mm_parting
  refine j_iconst dX11_parting_0 r32_0 ?_
  refine j_istore_n dX11_parting_1 rfl (Nat.le_of_ble_eq_true rfl) rfl ?_
  refine j_ldcw dX11_parting_2 cs_X11_311 r32_99999999 ?_
  refine j_istore_n dX11_parting_5 rfl (Nat.le_of_ble_eq_true rfl) rfl ?_
  refine j_iconst dX11_parting_6 r32_0 ?_
  refine j_istore dX11_parting_7 (Nat.le_of_ble_eq_true rfl) rfl ?_
  refine j_mask [true, true, true, true, true, false, false] rfl (mm_parting_L9_J a1 (fun x2_122 x3_122 G_122 => if a1 = 0 then some (x2_122, G_122) else (if x3_122 = 99999999 then some ((-1), G_122) else some (x3_122, G_122))) (fun x2_122 x3_122 G_122 => ?_) FU 0 99999999 0 G)
  refine j_iload_n dX11_parting_122 rfl rfl ?_
  refine j_if_ne (tgt := 130) dX11_parting_123 rfl (fun h123 => ?_) (fun h123 => ?_)
  · refine j_iload_n dX11_parting_126 rfl rfl ?_
    refine j_goto (tgt := 142) dX11_parting_127 rfl ?_
    exact j_ireturn dX11_parting_142 rfl rfl (Nat.zero_le _) (Nat.zero_le _)
  · refine j_iload_n dX11_parting_130 rfl rfl ?_
    refine j_ldcw dX11_parting_131 cs_X11_311 r32_99999999 ?_
    refine j_icmp_ne (tgt := 141) dX11_parting_134 rfl (fun h134 => ?_) (fun h134 => ?_)
    · refine j_iconst dX11_parting_137 r32_m1 ?_
      refine j_goto (tgt := 142) dX11_parting_138 rfl ?_
      exact j_ireturn dX11_parting_142 rfl rfl (Nat.zero_le _) (Nat.zero_le _)
    · refine j_iload_n dX11_parting_141 rfl rfl ?_
      exact j_ireturn dX11_parting_142 rfl rfl (Nat.zero_le _) (Nat.zero_le _)

set_option maxRecDepth 100000 in
theorem mm_parting_ct {l : Launch} {H : Hp} (a1 : Int) (G : Hp) {r : Int × Hp} (h : mm_parting a1 G = some r) : Ct l M_mm_parting [(2, 201), (0, a1)] 224 (fu H G) ((KWi (fun g => fu H g)) r) :=
  ct_of_J (by decide +kernel) rfl (Nat.le_of_ble_eq_true rfl) (mm_parting_J a1 G) h
set_option maxRecDepth 100000 in
theorem mm_kin_j63_J {l : Launch} {H : Hp} (a1 : Int) (a2 : Int) (s0_63 : Int) (G_63 : Hp) : J l M_mm_kin (KWi (fun g => fu H g)) (mm_kin_j63 a1 a2  s0_63 G_63) 63 [(9, 0), (9, 0), (9, 0)] [(0, s0_63), (2, 201)] 224 (fu H G_63) (0, 0) := by
  unfold mm_kin_j63
  refine j_cVRi dX11_kin_63 im_mm_kinAll lk_X11_360 rfl (As := [(0, s0_63)]) (S := []) rfl om_201.1 ⟨by decide, by decide⟩ (Nat.le_of_ble_eq_true rfl) (fun r hr => mm_kinAll_ct s0_63 G_63 hr) (fun v63 _ => ?_)
  exact j_ireturn dX11_kin_66 rfl rfl (Nat.zero_le _) (Nat.zero_le _)

set_option maxRecDepth 100000 in
theorem mm_kin_j52_J {l : Launch} {H : Hp} (a1 : Int) (a2 : Int) (G_52 : Hp) : J l M_mm_kin (KWi (fun g => fu H g)) (mm_kin_j52 a1 a2  G_52) 52 [(2, 201), (9, 0), (0, a2)] [] 224 (fu H G_52) (0, 0) := by
  unfold mm_kin_j52
  refine j_aload_n dX11_kin_52 rfl rfl ?_
  refine j_iload_n dX11_kin_53 rfl rfl ?_
  refine j_iconst dX11_kin_54 r32_1 ?_
  refine j_icmp_ne (tgt := 62) dX11_kin_55 rfl (fun h55 => ?_) (fun h55 => ?_)
  · refine j_iconst dX11_kin_58 r32_1 ?_
    refine j_goto (tgt := 63) dX11_kin_59 rfl ?_
    exact j_mask [false, false, false] rfl (mm_kin_j63_J a1 a2 1 G_52)
  · refine j_iconst dX11_kin_62 r32_0 ?_
    exact j_mask [false, false, false] rfl (mm_kin_j63_J a1 a2 0 G_52)

set_option maxRecDepth 100000 in
theorem mm_kin_j88_J {l : Launch} {H : Hp} (a1 : Int) (a2 : Int) (s0_88 : Int) (G_88 : Hp) : J l M_mm_kin (KWi (fun g => fu H g)) (mm_kin_j88 a1 a2  s0_88 G_88) 88 [(9, 0), (9, 0), (9, 0)] [(0, s0_88), (2, 201)] 224 (fu H G_88) (0, 0) := by
  unfold mm_kin_j88
  refine j_cVWi dX11_kin_88 im_mm_parting lk_X11_369 rfl (As := [(0, s0_88)]) (S := []) rfl om_201.1 ⟨by decide, by decide⟩ (Nat.le_of_ble_eq_true rfl) (fun r hr => mm_parting_ct s0_88 G_88 hr) (fun r88 _ => ?_)
  exact j_ireturn dX11_kin_91 rfl rfl (Nat.zero_le _) (Nat.zero_le _)

set_option maxRecDepth 100000 in
theorem mm_kin_j77_J {l : Launch} {H : Hp} (a1 : Int) (a2 : Int) (G_77 : Hp) : J l M_mm_kin (KWi (fun g => fu H g)) (mm_kin_j77 a1 a2  G_77) 77 [(2, 201), (9, 0), (0, a2)] [] 224 (fu H G_77) (0, 0) := by
  unfold mm_kin_j77
  refine j_aload_n dX11_kin_77 rfl rfl ?_
  refine j_iload_n dX11_kin_78 rfl rfl ?_
  refine j_iconst dX11_kin_79 r32_5 ?_
  refine j_icmp_ne (tgt := 87) dX11_kin_80 rfl (fun h80 => ?_) (fun h80 => ?_)
  · refine j_iconst dX11_kin_83 r32_1 ?_
    refine j_goto (tgt := 88) dX11_kin_84 rfl ?_
    exact j_mask [false, false, false] rfl (mm_kin_j88_J a1 a2 1 G_77)
  · refine j_iconst dX11_kin_87 r32_0 ?_
    exact j_mask [false, false, false] rfl (mm_kin_j88_J a1 a2 0 G_77)

set_option maxRecDepth 100000 in
theorem mm_kin_J {l : Launch} {H : Hp} (a1 : Int) (a2 : Int) (G : Hp) : J l M_mm_kin (KWi (fun g => fu H g)) (mm_kin a1 a2 G) 0 [(2, 201), (0, a1), (0, a2)] [] 224 (fu H G) (0, 0) := by
  unfold mm_kin
  refine j_aload_n dX11_kin_0 rfl rfl ?_
  refine j_iload_n dX11_kin_1 rfl rfl ?_
  refine j_cVWb dX11_kin_2 im_mm_isPaper lk_X11_209 rfl (As := [(0, a1)]) (S := []) rfl om_201.1 ⟨by decide, by decide⟩ (Nat.le_of_ble_eq_true rfl) (fun r hr => mm_isPaper_ct a1 G hr) (fun r2 _ => ?_)
  refine j_ifb_ne (tgt := 11) dX11_kin_5 rfl (fun h5 => ?_) (fun h5 => ?_)
  · refine j_iload_n dX11_kin_11 rfl rfl ?_
    refine j_ite _ (fun hc12_0 => ?_) (fun hc12_0 => ?_)
    · refine j_swIn (i := 0) (tgt := 52) dX11_kin_12 (hc12_0.trans (by decide)) (by decide) rfl rfl ?_
      exact j_mask [true, false, true] rfl (mm_kin_j52_J a1 a2 r2.2)
    · refine j_ite _ (fun hc12_1 => ?_) (fun hc12_1 => ?_)
      · refine j_swIn (i := 1) (tgt := 52) dX11_kin_12 (hc12_1.trans (by decide)) (by decide) rfl rfl ?_
        exact j_mask [true, false, true] rfl (mm_kin_j52_J a1 a2 r2.2)
      · refine j_ite _ (fun hc12_2 => ?_) (fun hc12_2 => ?_)
        · refine j_swIn (i := 2) (tgt := 67) dX11_kin_12 (hc12_2.trans (by decide)) (by decide) rfl rfl ?_
          refine j_aload_n dX11_kin_67 rfl rfl ?_
          refine j_cVRi dX11_kin_68 im_mm_widest lk_X11_363 rfl (As := []) (S := []) rfl om_201.1 ⟨by decide, by decide⟩ (Nat.le_of_ble_eq_true rfl) (fun r hr => mm_widest_ct  r2.2 hr) (fun v68 _ => ?_)
          exact j_ireturn dX11_kin_71 rfl rfl (Nat.zero_le _) (Nat.zero_le _)
        · refine j_ite _ (fun hc12_3 => ?_) (fun hc12_3 => ?_)
          · refine j_swIn (i := 3) (tgt := 72) dX11_kin_12 (hc12_3.trans (by decide)) (by decide) rfl rfl ?_
            refine j_aload_n dX11_kin_72 rfl rfl ?_
            refine j_cVRi dX11_kin_73 im_mm_lone lk_X11_366 rfl (As := []) (S := []) rfl om_201.1 ⟨by decide, by decide⟩ (Nat.le_of_ble_eq_true rfl) (fun r hr => mm_lone_ct  r2.2 hr) (fun v73 _ => ?_)
            exact j_ireturn dX11_kin_76 rfl rfl (Nat.zero_le _) (Nat.zero_le _)
          · refine j_ite _ (fun hc12_4 => ?_) (fun hc12_4 => ?_)
            · refine j_swIn (i := 4) (tgt := 77) dX11_kin_12 (hc12_4.trans (by decide)) (by decide) rfl rfl ?_
              exact j_mask [true, false, true] rfl (mm_kin_j77_J a1 a2 r2.2)
            · refine j_ite _ (fun hc12_5 => ?_) (fun hc12_5 => ?_)
              · refine j_swIn (i := 5) (tgt := 77) dX11_kin_12 (hc12_5.trans (by decide)) (by decide) rfl rfl ?_
                exact j_mask [true, false, true] rfl (mm_kin_j77_J a1 a2 r2.2)
              · refine j_swOut (tgt := 92) dX11_kin_12 (by omega) rfl ?_
                refine j_bipush dX11_kin_92 r32_m2 bp_m2 ?_
                exact j_ireturn dX11_kin_94 rfl rfl (Nat.zero_le _) (Nat.zero_le _)
  · refine j_bipush dX11_kin_8 r32_m2 bp_m2 ?_
    exact j_ireturn dX11_kin_10 rfl rfl (Nat.zero_le _) (Nat.zero_le _)

set_option maxRecDepth 100000 in
theorem mm_kin_ct {l : Launch} {H : Hp} (a1 : Int) (a2 : Int) (G : Hp) {r : Int × Hp} (h : mm_kin a1 a2 G = some r) : Ct l M_mm_kin [(2, 201), (0, a1), (0, a2)] 224 (fu H G) ((KWi (fun g => fu H g)) r) :=
  ct_of_J (by decide +kernel) rfl (Nat.le_of_ble_eq_true rfl) (mm_kin_J a1 a2 G) h
set_option maxRecDepth 100000 in
theorem mm_distanceOf_j48_J {l : Launch} {H : Hp} (a1 : Int) (G : Hp) (k4 : Int → Int → Option (Int)) (hk4 : ∀ (x2_4 : Int) (x3_4 : Int), J l M_mm_distanceOf (KRi (fu H G)) (k4 x2_4 x3_4) 4 [(2, 201), (0, a1), (0, x2_4), (0, x3_4), (9, 0)] [] 224 (fu H G) (0, 0)) (x2_48 : Int) (x3_48 : Int) (s0_48 : Int) : J l M_mm_distanceOf (KRi (fu H G)) (mm_distanceOf_j48 a1 G k4 x2_48 x3_48 s0_48) 48 [(2, 201), (0, a1), (0, x2_48), (0, x3_48), (9, 0)] [(0, s0_48)] 224 (fu H G) (0, 0) := by
  unfold mm_distanceOf_j48
  refine j_istore dX11_distanceOf_48 (Nat.le_of_ble_eq_true rfl) rfl ?_
  refine j_iload_n dX11_distanceOf_50 rfl rfl ?_
  refine j_iload dX11_distanceOf_51 rfl ?_
  refine j_if_le (tgt := 61) dX11_distanceOf_53 rfl (fun h53 => ?_) (fun h53 => ?_)
  · refine j_iload dX11_distanceOf_56 rfl ?_
    refine j_goto (tgt := 62) dX11_distanceOf_58 rfl ?_
    refine j_iadd dX11_distanceOf_62 ?_
    refine j_istore_n dX11_distanceOf_63 rfl (Nat.le_of_ble_eq_true rfl) rfl ?_
    refine j_iinc dX11_distanceOf_64 rfl (Nat.le_of_ble_eq_true rfl) rfl ?_
    refine j_goto (tgt := 4) dX11_distanceOf_67 rfl ?_
    exact j_mask [true, true, true, true, false] rfl (hk4 (w32 (x2_48 + s0_48)) (w32 (x3_48 + 1)))
  · refine j_iconst dX11_distanceOf_61 r32_0 ?_
    refine j_iadd dX11_distanceOf_62 ?_
    refine j_istore_n dX11_distanceOf_63 rfl (Nat.le_of_ble_eq_true rfl) rfl ?_
    refine j_iinc dX11_distanceOf_64 rfl (Nat.le_of_ble_eq_true rfl) rfl ?_
    refine j_goto (tgt := 4) dX11_distanceOf_67 rfl ?_
    exact j_mask [true, true, true, true, false] rfl (hk4 (w32 (x2_48 + 0)) (w32 (x3_48 + 1)))

set_option maxRecDepth 100000 in
theorem mm_distanceOf_L4_J {l : Launch} {H : Hp} (a1 : Int) (G : Hp) : ∀ (n_4 : Nat) (x2_4 : Int) (x3_4 : Int), J l M_mm_distanceOf (KRi (fu H G)) (mm_distanceOf_L4 a1 G  n_4 x2_4 x3_4) 4 [(2, 201), (0, a1), (0, x2_4), (0, x3_4), (9, 0)] [] 224 (fu H G) (0, 0) := by
  intro n_4
  induction n_4 with
  | zero =>
    intro x2_4 x3_4
    exact j_none
  | succ n_4 ih =>
    intro x2_4 x3_4
    rw [mm_distanceOf_L4]
    refine j_iload_n dX11_distanceOf_4 rfl rfl ?_
    refine j_aload_n dX11_distanceOf_5 rfl rfl ?_
    refine j_gim dX11_distanceOf_6 gf_X11_200 om_201 ?_
    refine j_icmp_ge (tgt := 70) dX11_distanceOf_9 rfl (fun h9 => ?_) (fun h9 => ?_)
    · refine j_aload_n dX11_distanceOf_12 rfl rfl ?_
      refine j_iload_n dX11_distanceOf_13 rfl rfl ?_
      refine j_iload_n dX11_distanceOf_14 rfl rfl ?_
      refine j_cVRi dX11_distanceOf_15 im_mm_wantOf lk_X11_227 rfl (As := [(0, a1), (0, x3_4)]) (S := []) rfl om_201.1 ⟨by decide, by decide⟩ (Nat.le_of_ble_eq_true rfl) (fun r hr => mm_wantOf_ct a1 x3_4 G hr) (fun v15 _ => ?_)
      refine j_bipush dX11_distanceOf_18 r32_10 bp_10 ?_
      refine j_icmp_ne (tgt := 27) dX11_distanceOf_20 rfl (fun h20 => ?_) (fun h20 => ?_)
      · refine j_iconst dX11_distanceOf_23 r32_0 ?_
        refine j_goto (tgt := 48) dX11_distanceOf_24 rfl ?_
        exact j_mask [true, true, true, true, false] rfl (mm_distanceOf_j48_J a1 G  (mm_distanceOf_L4 a1 G n_4) ih x2_4 x3_4 0)
      · refine j_aload_n dX11_distanceOf_27 rfl rfl ?_
        refine j_grm dX11_distanceOf_28 gf_X11_23 om_201 (Or.inl (by decide)) rf_201_16 ?_
        refine j_bipush dX11_distanceOf_31 r32_10 bp_10 ?_
        refine j_aload_n dX11_distanceOf_33 rfl rfl ?_
        refine j_grm dX11_distanceOf_34 gf_X11_26 om_201 (Or.inl (by decide)) rf_201_23 ?_
        refine j_iload_n dX11_distanceOf_37 rfl rfl ?_
        refine j_gd (fun h38a h38b => ?_)
        refine j_aim dX11_distanceOf_38 om_207 rfl h38a h38b ?_
        refine j_imul dX11_distanceOf_39 ?_
        refine j_aload_n dX11_distanceOf_40 rfl rfl ?_
        refine j_iload_n dX11_distanceOf_41 rfl rfl ?_
        refine j_iload_n dX11_distanceOf_42 rfl rfl ?_
        refine j_cVRi dX11_distanceOf_43 im_mm_wantOf lk_X11_227 rfl (As := [(0, a1), (0, x3_4)]) (S := [(0, w32 (10 * (G 207 x3_4))), (2, 206)]) rfl om_201.1 ⟨by decide, by decide⟩ (Nat.le_of_ble_eq_true rfl) (fun r hr => mm_wantOf_ct a1 x3_4 G hr) (fun v43 _ => ?_)
        refine j_iadd dX11_distanceOf_46 ?_
        refine j_gd (fun h47a h47b => ?_)
        refine j_aim dX11_distanceOf_47 om_206 rfl h47a h47b ?_
        exact j_mask [true, true, true, true, false] rfl (mm_distanceOf_j48_J a1 G  (mm_distanceOf_L4 a1 G n_4) ih x2_4 x3_4 (G 206 (w32 ((w32 (10 * (G 207 x3_4))) + v43))))
    · refine j_iload_n dX11_distanceOf_70 rfl rfl ?_
      exact j_ireturn dX11_distanceOf_71 rfl rfl (Nat.zero_le _) (Nat.zero_le _)

set_option maxRecDepth 100000 in
theorem mm_distanceOf_J {l : Launch} {H : Hp} (a1 : Int) (G : Hp) : J l M_mm_distanceOf (KRi (fu H G)) (mm_distanceOf a1 G) 0 [(2, 201), (0, a1), (9, 0), (9, 0), (9, 0)] [] 224 (fu H G) (0, 0) := by
  unfold mm_distanceOf
  refine j_iconst dX11_distanceOf_0 r32_0 ?_
  refine j_istore_n dX11_distanceOf_1 rfl (Nat.le_of_ble_eq_true rfl) rfl ?_
  refine j_iconst dX11_distanceOf_2 r32_0 ?_
  refine j_istore_n dX11_distanceOf_3 rfl (Nat.le_of_ble_eq_true rfl) rfl ?_
  exact j_mask [true, true, true, true, false] rfl (mm_distanceOf_L4_J a1 G FU 0 0)

set_option maxRecDepth 100000 in
theorem mm_distanceOf_ct {l : Launch} {H : Hp} (a1 : Int) (G : Hp) {r : Int} (h : mm_distanceOf a1 G = some r) : Ct l M_mm_distanceOf [(2, 201), (0, a1)] 224 (fu H G) ((KRi (fu H G)) r) :=
  ct_of_J (by decide +kernel) rfl (Nat.le_of_ble_eq_true rfl) (mm_distanceOf_J a1 G) h
set_option maxRecDepth 100000 in
theorem mm_aloneOf_L2_J {l : Launch} {H : Hp} (a1 : Int) : ∀ (n_2 : Nat) (x2_2 : Int) (G_2 : Hp), J l M_mm_aloneOf (KWi (fun g => fu H g)) (mm_aloneOf_L2 a1  n_2 x2_2 G_2) 2 [(2, 201), (0, a1), (0, x2_2)] [] 224 (fu H G_2) (0, 0) := by
  intro n_2
  induction n_2 with
  | zero =>
    intro x2_2 G_2
    exact j_none
  | succ n_2 ih =>
    intro x2_2 G_2
    rw [mm_aloneOf_L2]
    refine j_aload_n dX11_aloneOf_2 rfl rfl ?_
    refine j_iload_n dX11_aloneOf_3 rfl rfl ?_
    refine j_cVWi dX11_aloneOf_4 im_mm_reads lk_X11_269 rfl (As := [(0, a1)]) (S := []) rfl om_201.1 ⟨by decide, by decide⟩ (Nat.le_of_ble_eq_true rfl) (fun r hr => mm_reads_ct a1 G_2 hr) (fun r4 _ => ?_)
    refine j_if_le (tgt := 16) dX11_aloneOf_7 rfl (fun h7 => ?_) (fun h7 => ?_)
    · refine j_iinc dX11_aloneOf_10 rfl (Nat.le_of_ble_eq_true rfl) rfl ?_
      refine j_goto (tgt := 2) dX11_aloneOf_13 rfl ?_
      exact j_mask [true, true, true] rfl (ih (w32 (x2_2 + 1)) r4.2)
    · refine j_iload_n dX11_aloneOf_16 rfl rfl ?_
      exact j_ireturn dX11_aloneOf_17 rfl rfl (Nat.zero_le _) (Nat.zero_le _)

set_option maxRecDepth 100000 in
theorem mm_aloneOf_J {l : Launch} {H : Hp} (a1 : Int) (G : Hp) : J l M_mm_aloneOf (KWi (fun g => fu H g)) (mm_aloneOf a1 G) 0 [(2, 201), (0, a1), (9, 0)] [] 224 (fu H G) (0, 0) := by
  unfold mm_aloneOf
  refine j_iconst dX11_aloneOf_0 r32_0 ?_
  refine j_istore_n dX11_aloneOf_1 rfl (Nat.le_of_ble_eq_true rfl) rfl ?_
  exact j_mask [true, true, true] rfl (mm_aloneOf_L2_J a1 FU 0 G)

set_option maxRecDepth 100000 in
theorem mm_aloneOf_ct {l : Launch} {H : Hp} (a1 : Int) (G : Hp) {r : Int × Hp} (h : mm_aloneOf a1 G = some r) : Ct l M_mm_aloneOf [(2, 201), (0, a1)] 224 (fu H G) ((KWi (fun g => fu H g)) r) :=
  ct_of_J (by decide +kernel) rfl (Nat.le_of_ble_eq_true rfl) (mm_aloneOf_J a1 G) h
set_option maxRecDepth 100000 in
theorem mm_rivalsOf_L15_J {l : Launch} {H : Hp} (a1 : Int) (G : Hp) (x3_15 : Int) (k77 : Int → Option (Int)) (hk77 : ∀ (x2_77 : Int), J l M_mm_rivalsOf (KRi (fu H G)) (k77 x2_77) 77 [(2, 201), (0, a1), (0, x2_77), (0, x3_15), (9, 0)] [] 224 (fu H G) (0, 0)) : ∀ (n_15 : Nat) (x2_15 : Int) (x4_15 : Int), J l M_mm_rivalsOf (KRi (fu H G)) (mm_rivalsOf_L15 a1 G x3_15 k77 n_15 x2_15 x4_15) 15 [(2, 201), (0, a1), (0, x2_15), (0, x3_15), (0, x4_15)] [] 224 (fu H G) (0, 0) := by
  intro n_15
  induction n_15 with
  | zero =>
    intro x2_15 x4_15
    exact j_none
  | succ n_15 ih =>
    intro x2_15 x4_15
    rw [mm_rivalsOf_L15]
    refine j_iload dX11_rivalsOf_15 rfl ?_
    refine j_aload_n dX11_rivalsOf_17 rfl rfl ?_
    refine j_gim dX11_rivalsOf_18 gf_X11_200 om_201 ?_
    refine j_icmp_ge (tgt := 77) dX11_rivalsOf_21 rfl (fun h21 => ?_) (fun h21 => ?_)
    · refine j_aload_n dX11_rivalsOf_24 rfl rfl ?_
      refine j_iload_n dX11_rivalsOf_25 rfl rfl ?_
      refine j_iload dX11_rivalsOf_26 rfl ?_
      refine j_cVRi dX11_rivalsOf_28 im_mm_wantOf lk_X11_227 rfl (As := [(0, a1), (0, x4_15)]) (S := []) rfl om_201.1 ⟨by decide, by decide⟩ (Nat.le_of_ble_eq_true rfl) (fun r hr => mm_wantOf_ct a1 x4_15 G hr) (fun v28 _ => ?_)
      refine j_bipush dX11_rivalsOf_31 r32_10 bp_10 ?_
      refine j_icmp_eq (tgt := 71) dX11_rivalsOf_33 rfl (fun h33 => ?_) (fun h33 => ?_)
      · refine j_iinc dX11_rivalsOf_71 rfl (Nat.le_of_ble_eq_true rfl) rfl ?_
        refine j_goto (tgt := 15) dX11_rivalsOf_74 rfl ?_
        exact j_mask [true, true, true, true, true] rfl (ih x2_15 (w32 (x4_15 + 1)))
      · refine j_aload_n dX11_rivalsOf_36 rfl rfl ?_
        refine j_iload_n dX11_rivalsOf_37 rfl rfl ?_
        refine j_iload dX11_rivalsOf_38 rfl ?_
        refine j_cVRi dX11_rivalsOf_40 im_mm_wantOf lk_X11_227 rfl (As := [(0, x3_15), (0, x4_15)]) (S := []) rfl om_201.1 ⟨by decide, by decide⟩ (Nat.le_of_ble_eq_true rfl) (fun r hr => mm_wantOf_ct x3_15 x4_15 G hr) (fun v40 _ => ?_)
        refine j_bipush dX11_rivalsOf_43 r32_10 bp_10 ?_
        refine j_icmp_eq (tgt := 71) dX11_rivalsOf_45 rfl (fun h45 => ?_) (fun h45 => ?_)
        · refine j_iinc dX11_rivalsOf_71 rfl (Nat.le_of_ble_eq_true rfl) rfl ?_
          refine j_goto (tgt := 15) dX11_rivalsOf_74 rfl ?_
          exact j_mask [true, true, true, true, true] rfl (ih x2_15 (w32 (x4_15 + 1)))
        · refine j_aload_n dX11_rivalsOf_48 rfl rfl ?_
          refine j_iload_n dX11_rivalsOf_49 rfl rfl ?_
          refine j_iload dX11_rivalsOf_50 rfl ?_
          refine j_cVRi dX11_rivalsOf_52 im_mm_wantOf lk_X11_227 rfl (As := [(0, a1), (0, x4_15)]) (S := []) rfl om_201.1 ⟨by decide, by decide⟩ (Nat.le_of_ble_eq_true rfl) (fun r hr => mm_wantOf_ct a1 x4_15 G hr) (fun v52 _ => ?_)
          refine j_aload_n dX11_rivalsOf_55 rfl rfl ?_
          refine j_iload_n dX11_rivalsOf_56 rfl rfl ?_
          refine j_iload dX11_rivalsOf_57 rfl ?_
          refine j_cVRi dX11_rivalsOf_59 im_mm_wantOf lk_X11_227 rfl (As := [(0, x3_15), (0, x4_15)]) (S := [(0, v52)]) rfl om_201.1 ⟨by decide, by decide⟩ (Nat.le_of_ble_eq_true rfl) (fun r hr => mm_wantOf_ct x3_15 x4_15 G hr) (fun v59 _ => ?_)
          refine j_icmp_eq (tgt := 71) dX11_rivalsOf_62 rfl (fun h62 => ?_) (fun h62 => ?_)
          · refine j_iinc dX11_rivalsOf_71 rfl (Nat.le_of_ble_eq_true rfl) rfl ?_
            refine j_goto (tgt := 15) dX11_rivalsOf_74 rfl ?_
            exact j_mask [true, true, true, true, true] rfl (ih x2_15 (w32 (x4_15 + 1)))
          · refine j_iload_n dX11_rivalsOf_65 rfl rfl ?_
            refine j_iconst dX11_rivalsOf_66 r32_1 ?_
            refine j_iload_n dX11_rivalsOf_67 rfl rfl ?_
            refine j_ishl dX11_rivalsOf_68 ?_
            refine j_ior dX11_rivalsOf_69 ?_
            refine j_istore_n dX11_rivalsOf_70 rfl (Nat.le_of_ble_eq_true rfl) rfl ?_
            refine j_iinc dX11_rivalsOf_71 rfl (Nat.le_of_ble_eq_true rfl) rfl ?_
            refine j_goto (tgt := 15) dX11_rivalsOf_74 rfl ?_
            exact j_mask [true, true, true, true, true] rfl (ih (ior x2_15 (ishl 1 x3_15)) (w32 (x4_15 + 1)))
    · exact j_mask [true, true, true, true, false] rfl (hk77 x2_15)

set_option maxRecDepth 100000 in
theorem mm_rivalsOf_L4_J {l : Launch} {H : Hp} (a1 : Int) (G : Hp) : ∀ (n_4 : Nat) (x2_4 : Int) (x3_4 : Int), J l M_mm_rivalsOf (KRi (fu H G)) (mm_rivalsOf_L4 a1 G  n_4 x2_4 x3_4) 4 [(2, 201), (0, a1), (0, x2_4), (0, x3_4), (9, 0)] [] 224 (fu H G) (0, 0) := by
  intro n_4
  induction n_4 with
  | zero =>
    intro x2_4 x3_4
    exact j_none
  | succ n_4 ih =>
    intro x2_4 x3_4
    rw [mm_rivalsOf_L4]
    refine j_iload_n dX11_rivalsOf_4 rfl rfl ?_
    refine j_aload_n dX11_rivalsOf_5 rfl rfl ?_
    refine j_gim dX11_rivalsOf_6 gf_X11_203 om_201 ?_
    refine j_icmp_ge (tgt := 83) dX11_rivalsOf_9 rfl (fun h9 => ?_) (fun h9 => ?_)
    · refine j_iconst dX11_rivalsOf_12 r32_0 ?_
      refine j_istore dX11_rivalsOf_13 (Nat.le_of_ble_eq_true rfl) rfl ?_
      refine j_mask [true, true, true, true, true] rfl (mm_rivalsOf_L15_J a1 G x3_4 (fun x2_77 => mm_rivalsOf_L4 a1 G n_4 x2_77 (w32 (x3_4 + 1))) (fun x2_77 => ?_) FU x2_4 0)
      refine j_iinc dX11_rivalsOf_77 rfl (Nat.le_of_ble_eq_true rfl) rfl ?_
      refine j_goto (tgt := 4) dX11_rivalsOf_80 rfl ?_
      exact j_mask [true, true, true, true, false] rfl (ih x2_77 (w32 (x3_4 + 1)))
    · refine j_iload_n dX11_rivalsOf_83 rfl rfl ?_
      exact j_ireturn dX11_rivalsOf_84 rfl rfl (Nat.zero_le _) (Nat.zero_le _)

set_option maxRecDepth 100000 in
theorem mm_rivalsOf_J {l : Launch} {H : Hp} (a1 : Int) (G : Hp) : J l M_mm_rivalsOf (KRi (fu H G)) (mm_rivalsOf a1 G) 0 [(2, 201), (0, a1), (9, 0), (9, 0), (9, 0)] [] 224 (fu H G) (0, 0) := by
  unfold mm_rivalsOf
  refine j_iconst dX11_rivalsOf_0 r32_0 ?_
  refine j_istore_n dX11_rivalsOf_1 rfl (Nat.le_of_ble_eq_true rfl) rfl ?_
  refine j_iconst dX11_rivalsOf_2 r32_0 ?_
  refine j_istore_n dX11_rivalsOf_3 rfl (Nat.le_of_ble_eq_true rfl) rfl ?_
  exact j_mask [true, true, true, true, false] rfl (mm_rivalsOf_L4_J a1 G FU 0 0)

set_option maxRecDepth 100000 in
theorem mm_rivalsOf_ct {l : Launch} {H : Hp} (a1 : Int) (G : Hp) {r : Int} (h : mm_rivalsOf a1 G = some r) : Ct l M_mm_rivalsOf [(2, 201), (0, a1)] 224 (fu H G) ((KRi (fu H G)) r) :=
  ct_of_J (by decide +kernel) rfl (Nat.le_of_ble_eq_true rfl) (mm_rivalsOf_J a1 G) h
set_option maxRecDepth 100000 in
theorem mm_distance_J {l : Launch} {H : Hp} (a1 : Int) (a2 : Int) (a3 : Int) (G : Hp) : J l M_mm_distance (KWi (fun g => fu H g)) (mm_distance a1 a2 a3 G) 0 [(2, 201), (0, a1), (0, a2), (0, a3)] [] 224 (fu H G) (0, 0) := by
  unfold mm_distance
  refine j_aload_n dX11_distance_0 rfl rfl ?_
  refine j_iload_n dX11_distance_1 rfl rfl ?_
  refine j_cVWb dX11_distance_2 im_mm_isPaper lk_X11_209 rfl (As := [(0, a1)]) (S := []) rfl om_201.1 ⟨by decide, by decide⟩ (Nat.le_of_ble_eq_true rfl) (fun r hr => mm_isPaper_ct a1 G hr) (fun r2 _ => ?_)
  refine j_ifb_eq (tgt := 16) dX11_distance_5 rfl (fun h5 => ?_) (fun h5 => ?_)
  · refine j_aload_n dX11_distance_8 rfl rfl ?_
    refine j_iload_n dX11_distance_9 rfl rfl ?_
    refine j_cVRb dX11_distance_10 im_mm_isReader lk_X11_218 rfl (As := [(0, a2)]) (S := []) rfl om_201.1 ⟨by decide, by decide⟩ (Nat.le_of_ble_eq_true rfl) (fun r hr => mm_isReader_ct a2 r2.2 hr) (fun v10 _ => ?_)
    refine j_ifb_ne (tgt := 19) dX11_distance_13 rfl (fun h13 => ?_) (fun h13 => ?_)
    · refine j_iload_n dX11_distance_19 rfl rfl ?_
      refine j_ite _ (fun hc20_0 => ?_) (fun hc20_0 => ?_)
      · refine j_swIn (i := 0) (tgt := 48) dX11_distance_20 (hc20_0.trans (by decide)) (by decide) rfl rfl ?_
        refine j_aload_n dX11_distance_48 rfl rfl ?_
        refine j_iload_n dX11_distance_49 rfl rfl ?_
        refine j_cVRi dX11_distance_50 im_mm_distanceOf lk_X11_372 rfl (As := [(0, a2)]) (S := []) rfl om_201.1 ⟨by decide, by decide⟩ (Nat.le_of_ble_eq_true rfl) (fun r hr => mm_distanceOf_ct a2 r2.2 hr) (fun v50 _ => ?_)
        exact j_ireturn dX11_distance_53 rfl rfl (Nat.zero_le _) (Nat.zero_le _)
      · refine j_ite _ (fun hc20_1 => ?_) (fun hc20_1 => ?_)
        · refine j_swIn (i := 1) (tgt := 54) dX11_distance_20 (hc20_1.trans (by decide)) (by decide) rfl rfl ?_
          refine j_aload_n dX11_distance_54 rfl rfl ?_
          refine j_iload_n dX11_distance_55 rfl rfl ?_
          refine j_cVWi dX11_distance_56 im_mm_aloneOf lk_X11_375 rfl (As := [(0, a2)]) (S := []) rfl om_201.1 ⟨by decide, by decide⟩ (Nat.le_of_ble_eq_true rfl) (fun r hr => mm_aloneOf_ct a2 r2.2 hr) (fun r56 _ => ?_)
          exact j_ireturn dX11_distance_59 rfl rfl (Nat.zero_le _) (Nat.zero_le _)
        · refine j_ite _ (fun hc20_2 => ?_) (fun hc20_2 => ?_)
          · refine j_swIn (i := 2) (tgt := 60) dX11_distance_20 (hc20_2.trans (by decide)) (by decide) rfl rfl ?_
            refine j_aload_n dX11_distance_60 rfl rfl ?_
            refine j_iload_n dX11_distance_61 rfl rfl ?_
            refine j_cVRi dX11_distance_62 im_mm_rivalsOf lk_X11_378 rfl (As := [(0, a2)]) (S := []) rfl om_201.1 ⟨by decide, by decide⟩ (Nat.le_of_ble_eq_true rfl) (fun r hr => mm_rivalsOf_ct a2 r2.2 hr) (fun v62 _ => ?_)
            exact j_ireturn dX11_distance_65 rfl rfl (Nat.zero_le _) (Nat.zero_le _)
          · refine j_swOut (tgt := 66) dX11_distance_20 (by omega) rfl ?_
            refine j_bipush dX11_distance_66 r32_m2 bp_m2 ?_
            exact j_ireturn dX11_distance_68 rfl rfl (Nat.zero_le _) (Nat.zero_le _)
    · refine j_bipush dX11_distance_16 r32_m2 bp_m2 ?_
      exact j_ireturn dX11_distance_18 rfl rfl (Nat.zero_le _) (Nat.zero_le _)
  · refine j_bipush dX11_distance_16 r32_m2 bp_m2 ?_
    exact j_ireturn dX11_distance_18 rfl rfl (Nat.zero_le _) (Nat.zero_le _)

set_option maxRecDepth 100000 in
theorem mm_distance_ct {l : Launch} {H : Hp} (a1 : Int) (a2 : Int) (a3 : Int) (G : Hp) {r : Int × Hp} (h : mm_distance a1 a2 a3 G = some r) : Ct l M_mm_distance [(2, 201), (0, a1), (0, a2), (0, a3)] 224 (fu H G) ((KWi (fun g => fu H g)) r) :=
  ct_of_J (by decide +kernel) rfl (Nat.le_of_ble_eq_true rfl) (mm_distance_J a1 a2 a3 G) h
set_option maxRecDepth 100000 in
theorem mm_isPeace_L4_J {l : Launch} {H : Hp} (a1 : Int) (G : Hp) : ∀ (n_4 : Nat) (x2_4 : Int) (x3_4 : Int), J l M_mm_isPeace (KRb (fu H G)) (mm_isPeace_L4 a1 G  n_4 x2_4 x3_4) 4 [(2, 201), (0, a1), (0, x2_4), (0, x3_4)] [] 224 (fu H G) (0, 0) := by
  intro n_4
  induction n_4 with
  | zero =>
    intro x2_4 x3_4
    exact j_none
  | succ n_4 ih =>
    intro x2_4 x3_4
    rw [mm_isPeace_L4]
    refine j_iload_n dX11_isPeace_4 rfl rfl ?_
    refine j_aload_n dX11_isPeace_5 rfl rfl ?_
    refine j_gim dX11_isPeace_6 gf_X11_203 om_201 ?_
    refine j_icmp_ge (tgt := 46) dX11_isPeace_9 rfl (fun h9 => ?_) (fun h9 => ?_)
    · refine j_iload_n dX11_isPeace_12 rfl rfl ?_
      refine j_if_eq (tgt := 38) dX11_isPeace_13 rfl (fun h13 => ?_) (fun h13 => ?_)
      · refine j_iconst dX11_isPeace_38 r32_0 ?_
        refine j_istore_n dX11_isPeace_39 rfl (Nat.le_of_ble_eq_true rfl) rfl ?_
        refine j_iinc dX11_isPeace_40 rfl (Nat.le_of_ble_eq_true rfl) rfl ?_
        refine j_goto (tgt := 4) dX11_isPeace_43 rfl ?_
        exact j_mask [true, true, true, true] rfl (ih 0 (w32 (x3_4 + 1)))
      · refine j_iload_n dX11_isPeace_16 rfl rfl ?_
        refine j_iload_n dX11_isPeace_17 rfl rfl ?_
        refine j_ishr dX11_isPeace_18 ?_
        refine j_iconst dX11_isPeace_19 r32_1 ?_
        refine j_iand dX11_isPeace_20 ?_
        refine j_if_eq (tgt := 34) dX11_isPeace_21 rfl (fun h21 => ?_) (fun h21 => ?_)
        · refine j_iconst dX11_isPeace_34 r32_1 ?_
          refine j_goto (tgt := 39) dX11_isPeace_35 rfl ?_
          refine j_istore_n dX11_isPeace_39 rfl (Nat.le_of_ble_eq_true rfl) rfl ?_
          refine j_iinc dX11_isPeace_40 rfl (Nat.le_of_ble_eq_true rfl) rfl ?_
          refine j_goto (tgt := 4) dX11_isPeace_43 rfl ?_
          exact j_mask [true, true, true, true] rfl (ih 1 (w32 (x3_4 + 1)))
        · refine j_aload_n dX11_isPeace_24 rfl rfl ?_
          refine j_iload_n dX11_isPeace_25 rfl rfl ?_
          refine j_cVRi dX11_isPeace_26 im_mm_rivalsOf lk_X11_378 rfl (As := [(0, x3_4)]) (S := []) rfl om_201.1 ⟨by decide, by decide⟩ (Nat.le_of_ble_eq_true rfl) (fun r hr => mm_rivalsOf_ct x3_4 G hr) (fun v26 _ => ?_)
          refine j_iload_n dX11_isPeace_29 rfl rfl ?_
          refine j_iand dX11_isPeace_30 ?_
          refine j_if_ne (tgt := 38) dX11_isPeace_31 rfl (fun h31 => ?_) (fun h31 => ?_)
          · refine j_iconst dX11_isPeace_34 r32_1 ?_
            refine j_goto (tgt := 39) dX11_isPeace_35 rfl ?_
            refine j_istore_n dX11_isPeace_39 rfl (Nat.le_of_ble_eq_true rfl) rfl ?_
            refine j_iinc dX11_isPeace_40 rfl (Nat.le_of_ble_eq_true rfl) rfl ?_
            refine j_goto (tgt := 4) dX11_isPeace_43 rfl ?_
            exact j_mask [true, true, true, true] rfl (ih 1 (w32 (x3_4 + 1)))
          · refine j_iconst dX11_isPeace_38 r32_0 ?_
            refine j_istore_n dX11_isPeace_39 rfl (Nat.le_of_ble_eq_true rfl) rfl ?_
            refine j_iinc dX11_isPeace_40 rfl (Nat.le_of_ble_eq_true rfl) rfl ?_
            refine j_goto (tgt := 4) dX11_isPeace_43 rfl ?_
            exact j_mask [true, true, true, true] rfl (ih 0 (w32 (x3_4 + 1)))
    · refine j_iload_n dX11_isPeace_46 rfl rfl ?_
      refine j_zret (fun hb_ => ?_) (fun hb_ => ?_)
      · rw [hb_]
        exact j_zreturn (b := false) dX11_isPeace_47 rfl rfl (Nat.zero_le _) (Nat.zero_le _)
      · rw [hb_]
        exact j_zreturn (b := true) dX11_isPeace_47 rfl rfl (Nat.zero_le _) (Nat.zero_le _)

set_option maxRecDepth 100000 in
theorem mm_isPeace_J {l : Launch} {H : Hp} (a1 : Int) (G : Hp) : J l M_mm_isPeace (KRb (fu H G)) (mm_isPeace a1 G) 0 [(2, 201), (0, a1), (9, 0), (9, 0)] [] 224 (fu H G) (0, 0) := by
  unfold mm_isPeace
  refine j_iconst dX11_isPeace_0 r32_1 ?_
  refine j_istore_n dX11_isPeace_1 rfl (Nat.le_of_ble_eq_true rfl) rfl ?_
  refine j_iconst dX11_isPeace_2 r32_0 ?_
  refine j_istore_n dX11_isPeace_3 rfl (Nat.le_of_ble_eq_true rfl) rfl ?_
  exact j_mask [true, true, true, true] rfl (mm_isPeace_L4_J a1 G FU 1 0)

set_option maxRecDepth 100000 in
theorem mm_isPeace_ct {l : Launch} {H : Hp} (a1 : Int) (G : Hp) {r : Bool} (h : mm_isPeace a1 G = some r) : Ct l M_mm_isPeace [(2, 201), (0, a1)] 224 (fu H G) ((KRb (fu H G)) r) :=
  ct_of_J (by decide +kernel) rfl (Nat.le_of_ble_eq_true rfl) (mm_isPeace_J a1 G) h
set_option maxRecDepth 100000 in
theorem mm_peace_L15_J {l : Launch} {H : Hp} (a1 : Int) (a2 : Int) (G_15 : Hp) (k56 : Int → Option (Int × Hp)) (hk56 : ∀ (x3_56 : Int), J l M_mm_peace (KWi (fun g => fu H g)) (k56 x3_56) 56 [(9, 0), (9, 0), (0, a2), (0, x3_56), (9, 0)] [] 224 (fu H G_15) (0, 0)) : ∀ (n_15 : Nat) (x3_15 : Int) (x4_15 : Int), J l M_mm_peace (KWi (fun g => fu H g)) (mm_peace_L15 a1 a2 G_15 k56 n_15 x3_15 x4_15) 15 [(2, 201), (9, 0), (0, a2), (0, x3_15), (0, x4_15)] [] 224 (fu H G_15) (0, 0) := by
  intro n_15
  induction n_15 with
  | zero =>
    intro x3_15 x4_15
    exact j_none
  | succ n_15 ih =>
    intro x3_15 x4_15
    rw [mm_peace_L15]
    refine j_iload dX11_peace_15 rfl ?_
    refine j_iconst dX11_peace_17 r32_1 ?_
    refine j_aload_n dX11_peace_18 rfl rfl ?_
    refine j_gim dX11_peace_19 gf_X11_203 om_201 ?_
    refine j_ishl dX11_peace_22 ?_
    refine j_icmp_ge (tgt := 56) dX11_peace_23 rfl (fun h23 => ?_) (fun h23 => ?_)
    · refine j_iload dX11_peace_26 rfl ?_
      refine j_cSRi dX11_peace_28 sm_mm_bitsOf lk_X11_334 rfl (As := [(0, x4_15)]) (S := []) rfl ⟨by decide, by decide⟩ (Nat.le_of_ble_eq_true rfl) (fun r hr => mm_bitsOf_ct x4_15 G_15 hr) (fun v28 _ => ?_)
      refine j_iload_n dX11_peace_31 rfl rfl ?_
      refine j_cSRi dX11_peace_32 sm_mm_bitsOf lk_X11_334 rfl (As := [(0, x3_15)]) (S := [(0, v28)]) rfl ⟨by decide, by decide⟩ (Nat.le_of_ble_eq_true rfl) (fun r hr => mm_bitsOf_ct x3_15 G_15 hr) (fun v32 _ => ?_)
      refine j_icmp_le (tgt := 50) dX11_peace_35 rfl (fun h35 => ?_) (fun h35 => ?_)
      · refine j_aload_n dX11_peace_38 rfl rfl ?_
        refine j_iload dX11_peace_39 rfl ?_
        refine j_cVRb dX11_peace_41 im_mm_isPeace lk_X11_381 rfl (As := [(0, x4_15)]) (S := []) rfl om_201.1 ⟨by decide, by decide⟩ (Nat.le_of_ble_eq_true rfl) (fun r hr => mm_isPeace_ct x4_15 G_15 hr) (fun v41 _ => ?_)
        refine j_ifb_eq (tgt := 50) dX11_peace_44 rfl (fun h44 => ?_) (fun h44 => ?_)
        · refine j_iload dX11_peace_47 rfl ?_
          refine j_istore_n dX11_peace_49 rfl (Nat.le_of_ble_eq_true rfl) rfl ?_
          refine j_iinc dX11_peace_50 rfl (Nat.le_of_ble_eq_true rfl) rfl ?_
          refine j_goto (tgt := 15) dX11_peace_53 rfl ?_
          exact j_mask [true, false, true, true, true] rfl (ih x4_15 (w32 (x4_15 + 1)))
        · refine j_iinc dX11_peace_50 rfl (Nat.le_of_ble_eq_true rfl) rfl ?_
          refine j_goto (tgt := 15) dX11_peace_53 rfl ?_
          exact j_mask [true, false, true, true, true] rfl (ih x3_15 (w32 (x4_15 + 1)))
      · refine j_iinc dX11_peace_50 rfl (Nat.le_of_ble_eq_true rfl) rfl ?_
        refine j_goto (tgt := 15) dX11_peace_53 rfl ?_
        exact j_mask [true, false, true, true, true] rfl (ih x3_15 (w32 (x4_15 + 1)))
    · exact j_mask [false, false, true, true, false] rfl (hk56 x3_15)

set_option maxRecDepth 100000 in
theorem mm_peace_J {l : Launch} {H : Hp} (a1 : Int) (a2 : Int) (G : Hp) : J l M_mm_peace (KWi (fun g => fu H g)) (mm_peace a1 a2 G) 0 [(2, 201), (0, a1), (0, a2), (9, 0), (9, 0)] [] 224 (fu H G) (0, 0) := by
  unfold mm_peace
  refine j_aload_n dX11_peace_0 rfl rfl ?_
  refine j_iload_n dX11_peace_1 rfl rfl ?_
  refine j_cVWb dX11_peace_2 im_mm_isPaper lk_X11_209 rfl (As := [(0, a1)]) (S := []) rfl om_201.1 ⟨by decide, by decide⟩ (Nat.le_of_ble_eq_true rfl) (fun r hr => mm_isPaper_ct a1 G hr) (fun r2 _ => ?_)
  refine j_ifb_ne (tgt := 10) dX11_peace_5 rfl (fun h5 => ?_) (fun h5 => ?_)
  · refine j_iconst dX11_peace_10 r32_0 ?_
    refine j_istore_n dX11_peace_11 rfl (Nat.le_of_ble_eq_true rfl) rfl ?_
    refine j_iconst dX11_peace_12 r32_1 ?_
    refine j_istore dX11_peace_13 (Nat.le_of_ble_eq_true rfl) rfl ?_
    refine j_mask [true, false, true, true, true] rfl (mm_peace_L15_J a1 a2 r2.2 (fun x3_56 => if a2 = 0 then ((mm_bitsOf x3_56 r2.2).bind fun v65 => some (v65, r2.2)) else some (x3_56, r2.2)) (fun x3_56 => ?_) FU 0 1)
    refine j_iload_n dX11_peace_56 rfl rfl ?_
    refine j_if_eq (tgt := 64) dX11_peace_57 rfl (fun h57 => ?_) (fun h57 => ?_)
    · refine j_iload_n dX11_peace_64 rfl rfl ?_
      refine j_cSRi dX11_peace_65 sm_mm_bitsOf lk_X11_334 rfl (As := [(0, x3_56)]) (S := []) rfl ⟨by decide, by decide⟩ (Nat.le_of_ble_eq_true rfl) (fun r hr => mm_bitsOf_ct x3_56 r2.2 hr) (fun v65 _ => ?_)
      exact j_ireturn dX11_peace_68 rfl rfl (Nat.zero_le _) (Nat.zero_le _)
    · refine j_iload_n dX11_peace_60 rfl rfl ?_
      refine j_goto (tgt := 68) dX11_peace_61 rfl ?_
      exact j_ireturn dX11_peace_68 rfl rfl (Nat.zero_le _) (Nat.zero_le _)
  · refine j_iconst dX11_peace_8 r32_m1 ?_
    exact j_ireturn dX11_peace_9 rfl rfl (Nat.zero_le _) (Nat.zero_le _)

set_option maxRecDepth 100000 in
theorem mm_peace_ct {l : Launch} {H : Hp} (a1 : Int) (a2 : Int) (G : Hp) {r : Int × Hp} (h : mm_peace a1 a2 G = some r) : Ct l M_mm_peace [(2, 201), (0, a1), (0, a2)] 224 (fu H G) ((KWi (fun g => fu H g)) r) :=
  ct_of_J (by decide +kernel) rfl (Nat.le_of_ble_eq_true rfl) (mm_peace_J a1 a2 G) h
set_option maxRecDepth 100000 in
theorem mm_togetherFrom_L5_J {l : Launch} {H : Hp} (a1 : Int) (a2 : Int) (G : Hp) : ∀ (n_5 : Nat) (x3_5 : Int) (x4_5 : Int), J l M_mm_togetherFrom (KRi (fu H G)) (mm_togetherFrom_L5 a1 a2 G  n_5 x3_5 x4_5) 5 [(2, 201), (0, a1), (0, a2), (0, x3_5), (0, x4_5), (9, 0)] [] 224 (fu H G) (0, 0) := by
  intro n_5
  induction n_5 with
  | zero =>
    intro x3_5 x4_5
    exact j_none
  | succ n_5 ih =>
    intro x3_5 x4_5
    rw [mm_togetherFrom_L5]
    refine j_iload dX11_togetherFrom_5 rfl ?_
    refine j_aload_n dX11_togetherFrom_7 rfl rfl ?_
    refine j_gim dX11_togetherFrom_8 gf_X11_203 om_201 ?_
    refine j_icmp_ge (tgt := 70) dX11_togetherFrom_11 rfl (fun h11 => ?_) (fun h11 => ?_)
    · refine j_aload_n dX11_togetherFrom_14 rfl rfl ?_
      refine j_iload dX11_togetherFrom_15 rfl ?_
      refine j_iload_n dX11_togetherFrom_17 rfl rfl ?_
      refine j_cVRi dX11_togetherFrom_18 im_mm_wantOf lk_X11_227 rfl (As := [(0, x4_5), (0, a2)]) (S := []) rfl om_201.1 ⟨by decide, by decide⟩ (Nat.le_of_ble_eq_true rfl) (fun r hr => mm_wantOf_ct x4_5 a2 G hr) (fun v18 _ => ?_)
      refine j_bipush dX11_togetherFrom_21 r32_10 bp_10 ?_
      refine j_icmp_ne (tgt := 29) dX11_togetherFrom_23 rfl (fun h23 => ?_) (fun h23 => ?_)
      · refine j_goto (tgt := 64) dX11_togetherFrom_26 rfl ?_
        refine j_iinc dX11_togetherFrom_64 rfl (Nat.le_of_ble_eq_true rfl) rfl ?_
        refine j_goto (tgt := 5) dX11_togetherFrom_67 rfl ?_
        exact j_mask [true, true, true, true, true, false] rfl (ih x3_5 (w32 (x4_5 + 1)))
      · refine j_aload_n dX11_togetherFrom_29 rfl rfl ?_
        refine j_grm dX11_togetherFrom_30 gf_X11_23 om_201 (Or.inl (by decide)) rf_201_16 ?_
        refine j_bipush dX11_togetherFrom_33 r32_10 bp_10 ?_
        refine j_iload_n dX11_togetherFrom_35 rfl rfl ?_
        refine j_imul dX11_togetherFrom_36 ?_
        refine j_aload_n dX11_togetherFrom_37 rfl rfl ?_
        refine j_iload dX11_togetherFrom_38 rfl ?_
        refine j_iload_n dX11_togetherFrom_40 rfl rfl ?_
        refine j_cVRi dX11_togetherFrom_41 im_mm_wantOf lk_X11_227 rfl (As := [(0, x4_5), (0, a2)]) (S := [(0, w32 (10 * a1)), (2, 206)]) rfl om_201.1 ⟨by decide, by decide⟩ (Nat.le_of_ble_eq_true rfl) (fun r hr => mm_wantOf_ct x4_5 a2 G hr) (fun v41 _ => ?_)
        refine j_iadd dX11_togetherFrom_44 ?_
        refine j_gd (fun h45a h45b => ?_)
        refine j_aim dX11_togetherFrom_45 om_206 rfl h45a h45b ?_
        refine j_istore dX11_togetherFrom_46 (Nat.le_of_ble_eq_true rfl) rfl ?_
        refine j_iload_n dX11_togetherFrom_48 rfl rfl ?_
        refine j_iload dX11_togetherFrom_49 rfl ?_
        refine j_iconst dX11_togetherFrom_51 r32_m1 ?_
        refine j_icmp_ne (tgt := 60) dX11_togetherFrom_52 rfl (fun h52 => ?_) (fun h52 => ?_)
        · refine j_bipush dX11_togetherFrom_55 r32_10 bp_10 ?_
          refine j_goto (tgt := 62) dX11_togetherFrom_57 rfl ?_
          refine j_iadd dX11_togetherFrom_62 ?_
          refine j_istore_n dX11_togetherFrom_63 rfl (Nat.le_of_ble_eq_true rfl) rfl ?_
          refine j_iinc dX11_togetherFrom_64 rfl (Nat.le_of_ble_eq_true rfl) rfl ?_
          refine j_goto (tgt := 5) dX11_togetherFrom_67 rfl ?_
          exact j_mask [true, true, true, true, true, false] rfl (ih (w32 (x3_5 + 10)) (w32 (x4_5 + 1)))
        · refine j_iload dX11_togetherFrom_60 rfl ?_
          refine j_iadd dX11_togetherFrom_62 ?_
          refine j_istore_n dX11_togetherFrom_63 rfl (Nat.le_of_ble_eq_true rfl) rfl ?_
          refine j_iinc dX11_togetherFrom_64 rfl (Nat.le_of_ble_eq_true rfl) rfl ?_
          refine j_goto (tgt := 5) dX11_togetherFrom_67 rfl ?_
          exact j_mask [true, true, true, true, true, false] rfl (ih (w32 (x3_5 + (G 206 (w32 ((w32 (10 * a1)) + v41))))) (w32 (x4_5 + 1)))
    · refine j_iload_n dX11_togetherFrom_70 rfl rfl ?_
      exact j_ireturn dX11_togetherFrom_71 rfl rfl (Nat.zero_le _) (Nat.zero_le _)

set_option maxRecDepth 100000 in
theorem mm_togetherFrom_J {l : Launch} {H : Hp} (a1 : Int) (a2 : Int) (G : Hp) : J l M_mm_togetherFrom (KRi (fu H G)) (mm_togetherFrom a1 a2 G) 0 [(2, 201), (0, a1), (0, a2), (9, 0), (9, 0), (9, 0)] [] 224 (fu H G) (0, 0) := by
  unfold mm_togetherFrom
  refine j_iconst dX11_togetherFrom_0 r32_0 ?_
  refine j_istore_n dX11_togetherFrom_1 rfl (Nat.le_of_ble_eq_true rfl) rfl ?_
  refine j_iconst dX11_togetherFrom_2 r32_0 ?_
  refine j_istore dX11_togetherFrom_3 (Nat.le_of_ble_eq_true rfl) rfl ?_
  exact j_mask [true, true, true, true, true, false] rfl (mm_togetherFrom_L5_J a1 a2 G FU 0 0)

set_option maxRecDepth 100000 in
theorem mm_togetherFrom_ct {l : Launch} {H : Hp} (a1 : Int) (a2 : Int) (G : Hp) {r : Int} (h : mm_togetherFrom a1 a2 G = some r) : Ct l M_mm_togetherFrom [(2, 201), (0, a1), (0, a2)] 224 (fu H G) ((KRi (fu H G)) r) :=
  ct_of_J (by decide +kernel) rfl (Nat.le_of_ble_eq_true rfl) (mm_togetherFrom_J a1 a2 G) h
set_option maxRecDepth 100000 in
theorem mm_median_L24_J {l : Launch} {H : Hp} (a1 : Int) (a2 : Int) (a3 : Int) (G_24 : Hp) (k63 : Int → Option (Int × Hp)) (hk63 : ∀ (x4_63 : Int), J l M_mm_median (KWi (fun g => fu H g)) (k63 x4_63) 63 [(2, 201), (9, 0), (0, a2), (0, a3), (0, x4_63), (9, 0)] [] 224 (fu H G_24) (0, 0)) : ∀ (n_24 : Nat) (x4_24 : Int) (x5_24 : Int), J l M_mm_median (KWi (fun g => fu H g)) (mm_median_L24 a1 a2 a3 G_24 k63 n_24 x4_24 x5_24) 24 [(2, 201), (9, 0), (0, a2), (0, a3), (0, x4_24), (0, x5_24)] [] 224 (fu H G_24) (0, 0) := by
  intro n_24
  induction n_24 with
  | zero =>
    intro x4_24 x5_24
    exact j_none
  | succ n_24 ih =>
    intro x4_24 x5_24
    rw [mm_median_L24]
    refine j_iload dX11_median_24 rfl ?_
    refine j_bipush dX11_median_26 r32_10 bp_10 ?_
    refine j_icmp_ge (tgt := 63) dX11_median_28 rfl (fun h28 => ?_) (fun h28 => ?_)
    · refine j_aload_n dX11_median_31 rfl rfl ?_
      refine j_iload dX11_median_32 rfl ?_
      refine j_iload_n dX11_median_34 rfl rfl ?_
      refine j_cVRi dX11_median_35 im_mm_togetherFrom lk_X11_384 rfl (As := [(0, x5_24), (0, a2)]) (S := []) rfl om_201.1 ⟨by decide, by decide⟩ (Nat.le_of_ble_eq_true rfl) (fun r hr => mm_togetherFrom_ct x5_24 a2 G_24 hr) (fun v35 _ => ?_)
      refine j_aload_n dX11_median_38 rfl rfl ?_
      refine j_iload dX11_median_39 rfl ?_
      refine j_iload_n dX11_median_41 rfl rfl ?_
      refine j_cVRi dX11_median_42 im_mm_togetherFrom lk_X11_384 rfl (As := [(0, x4_24), (0, a2)]) (S := [(0, v35)]) rfl om_201.1 ⟨by decide, by decide⟩ (Nat.le_of_ble_eq_true rfl) (fun r hr => mm_togetherFrom_ct x4_24 a2 G_24 hr) (fun v42 _ => ?_)
      refine j_icmp_ge (tgt := 53) dX11_median_45 rfl (fun h45 => ?_) (fun h45 => ?_)
      · refine j_iload dX11_median_48 rfl ?_
        refine j_goto (tgt := 55) dX11_median_50 rfl ?_
        refine j_istore dX11_median_55 (Nat.le_of_ble_eq_true rfl) rfl ?_
        refine j_iinc dX11_median_57 rfl (Nat.le_of_ble_eq_true rfl) rfl ?_
        refine j_goto (tgt := 24) dX11_median_60 rfl ?_
        exact j_mask [true, false, true, true, true, true] rfl (ih x5_24 (w32 (x5_24 + 1)))
      · refine j_iload dX11_median_53 rfl ?_
        refine j_istore dX11_median_55 (Nat.le_of_ble_eq_true rfl) rfl ?_
        refine j_iinc dX11_median_57 rfl (Nat.le_of_ble_eq_true rfl) rfl ?_
        refine j_goto (tgt := 24) dX11_median_60 rfl ?_
        exact j_mask [true, false, true, true, true, true] rfl (ih x4_24 (w32 (x5_24 + 1)))
    · exact j_mask [true, false, true, true, true, false] rfl (hk63 x4_24)

set_option maxRecDepth 100000 in
theorem mm_median_J {l : Launch} {H : Hp} (a1 : Int) (a2 : Int) (a3 : Int) (G : Hp) : J l M_mm_median (KWi (fun g => fu H g)) (mm_median a1 a2 a3 G) 0 [(2, 201), (0, a1), (0, a2), (0, a3), (9, 0), (9, 0)] [] 224 (fu H G) (0, 0) := by
  unfold mm_median
  refine j_aload_n dX11_median_0 rfl rfl ?_
  refine j_iload_n dX11_median_1 rfl rfl ?_
  refine j_cVWb dX11_median_2 im_mm_isPaper lk_X11_209 rfl (As := [(0, a1)]) (S := []) rfl om_201.1 ⟨by decide, by decide⟩ (Nat.le_of_ble_eq_true rfl) (fun r hr => mm_isPaper_ct a1 G hr) (fun r2 _ => ?_)
  refine j_ifb_eq (tgt := 16) dX11_median_5 rfl (fun h5 => ?_) (fun h5 => ?_)
  · refine j_aload_n dX11_median_8 rfl rfl ?_
    refine j_iload_n dX11_median_9 rfl rfl ?_
    refine j_cVRb dX11_median_10 im_mm_isPlace lk_X11_212 rfl (As := [(0, a2)]) (S := []) rfl om_201.1 ⟨by decide, by decide⟩ (Nat.le_of_ble_eq_true rfl) (fun r hr => mm_isPlace_ct a2 r2.2 hr) (fun v10 _ => ?_)
    refine j_ifb_ne (tgt := 18) dX11_median_13 rfl (fun h13 => ?_) (fun h13 => ?_)
    · refine j_iconst dX11_median_18 r32_0 ?_
      refine j_istore dX11_median_19 (Nat.le_of_ble_eq_true rfl) rfl ?_
      refine j_iconst dX11_median_21 r32_1 ?_
      refine j_istore dX11_median_22 (Nat.le_of_ble_eq_true rfl) rfl ?_
      refine j_mask [true, false, true, true, true, true] rfl (mm_median_L24_J a1 a2 a3 r2.2 (fun x4_63 => if a3 = 0 then some (x4_63, r2.2) else ((mm_togetherFrom x4_63 a2 r2.2).bind fun v71 => some (v71, r2.2))) (fun x4_63 => ?_) FU 0 1)
      refine j_iload_n dX11_median_63 rfl rfl ?_
      refine j_if_eq (tgt := 77) dX11_median_64 rfl (fun h64 => ?_) (fun h64 => ?_)
      · refine j_iload dX11_median_77 rfl ?_
        exact j_ireturn dX11_median_79 rfl rfl (Nat.zero_le _) (Nat.zero_le _)
      · refine j_aload_n dX11_median_67 rfl rfl ?_
        refine j_iload dX11_median_68 rfl ?_
        refine j_iload_n dX11_median_70 rfl rfl ?_
        refine j_cVRi dX11_median_71 im_mm_togetherFrom lk_X11_384 rfl (As := [(0, x4_63), (0, a2)]) (S := []) rfl om_201.1 ⟨by decide, by decide⟩ (Nat.le_of_ble_eq_true rfl) (fun r hr => mm_togetherFrom_ct x4_63 a2 r2.2 hr) (fun v71 _ => ?_)
        refine j_goto (tgt := 79) dX11_median_74 rfl ?_
        exact j_ireturn dX11_median_79 rfl rfl (Nat.zero_le _) (Nat.zero_le _)
    · refine j_iconst dX11_median_16 r32_m1 ?_
      exact j_ireturn dX11_median_17 rfl rfl (Nat.zero_le _) (Nat.zero_le _)
  · refine j_iconst dX11_median_16 r32_m1 ?_
    exact j_ireturn dX11_median_17 rfl rfl (Nat.zero_le _) (Nat.zero_le _)

set_option maxRecDepth 100000 in
theorem mm_median_ct {l : Launch} {H : Hp} (a1 : Int) (a2 : Int) (a3 : Int) (G : Hp) {r : Int × Hp} (h : mm_median a1 a2 a3 G = some r) : Ct l M_mm_median [(2, 201), (0, a1), (0, a2), (0, a3)] 224 (fu H G) ((KWi (fun g => fu H g)) r) :=
  ct_of_J (by decide +kernel) rfl (Nat.le_of_ble_eq_true rfl) (mm_median_J a1 a2 a3 G) h
set_option maxRecDepth 100000 in
theorem mm_laysRise_L24_J {l : Launch} {H : Hp} (x1_24 : Int) (x2_24 : Int) (k82 : Hp → Option (Int × Hp)) (hk82 : ∀ (G_82 : Hp), J l M_mm_laysRise (KWi (fun g => fu H g)) (k82 G_82) 82 [(2, 201), (0, x1_24), (0, x2_24), (9, 0)] [] 224 (fu H G_82) (0, 0)) : ∀ (n_24 : Nat) (x3_24 : Int) (G_24 : Hp), J l M_mm_laysRise (KWi (fun g => fu H g)) (mm_laysRise_L24 x1_24 x2_24 k82 n_24 x3_24 G_24) 24 [(2, 201), (0, x1_24), (0, x2_24), (0, x3_24)] [] 224 (fu H G_24) (0, 0) := by
  intro n_24
  induction n_24 with
  | zero =>
    intro x3_24 G_24
    exact j_none
  | succ n_24 ih =>
    intro x3_24 G_24
    rw [mm_laysRise_L24]
    refine j_iload_n dX11_laysRise_24 rfl rfl ?_
    refine j_aload_n dX11_laysRise_25 rfl rfl ?_
    refine j_gim dX11_laysRise_26 gf_X11_200 om_201 ?_
    refine j_icmp_ge (tgt := 82) dX11_laysRise_29 rfl (fun h29 => ?_) (fun h29 => ?_)
    · refine j_aload_n dX11_laysRise_32 rfl rfl ?_
      refine j_grm dX11_laysRise_33 gf_X11_26 om_201 (Or.inl (by decide)) rf_201_23 ?_
      refine j_iload_n dX11_laysRise_36 rfl rfl ?_
      refine j_gd (fun h37a h37b => ?_)
      refine j_aim dX11_laysRise_37 om_207 rfl h37a h37b ?_
      refine j_aload_n dX11_laysRise_38 rfl rfl ?_
      refine j_grm dX11_laysRise_39 gf_X11_26 om_201 (Or.inl (by decide)) rf_201_23 ?_
      refine j_iload_n dX11_laysRise_42 rfl rfl ?_
      refine j_gd (fun h43a h43b => ?_)
      refine j_aim dX11_laysRise_43 om_207 rfl h43a h43b ?_
      refine j_icmp_le (tgt := 76) dX11_laysRise_44 rfl (fun h44 => ?_) (fun h44 => ?_)
      · refine j_aload_n dX11_laysRise_47 rfl rfl ?_
        refine j_grm dX11_laysRise_48 gf_X11_62 om_201 (Or.inl (by decide)) rf_201_36 ?_
        refine j_iload_n dX11_laysRise_51 rfl rfl ?_
        refine j_gd (fun h52a h52b => ?_)
        refine j_aim dX11_laysRise_52 om_219 rfl h52a h52b ?_
        refine j_aload_n dX11_laysRise_53 rfl rfl ?_
        refine j_grm dX11_laysRise_54 gf_X11_62 om_201 (Or.inl (by decide)) rf_201_36 ?_
        refine j_iload_n dX11_laysRise_57 rfl rfl ?_
        refine j_gd (fun h58a h58b => ?_)
        refine j_aim dX11_laysRise_58 om_219 rfl h58a h58b ?_
        refine j_icmp_lt (tgt := 76) dX11_laysRise_59 rfl (fun h59 => ?_) (fun h59 => ?_)
        · refine j_aload_n dX11_laysRise_62 rfl rfl ?_
          refine j_grm dX11_laysRise_63 gf_X11_62 om_201 (Or.inl (by decide)) rf_201_36 ?_
          refine j_iload_n dX11_laysRise_66 rfl rfl ?_
          refine j_aload_n dX11_laysRise_67 rfl rfl ?_
          refine j_grm dX11_laysRise_68 gf_X11_62 om_201 (Or.inl (by decide)) rf_201_36 ?_
          refine j_iload_n dX11_laysRise_71 rfl rfl ?_
          refine j_gd (fun h72a h72b => ?_)
          refine j_aim dX11_laysRise_72 om_219 rfl h72a h72b ?_
          refine j_iconst dX11_laysRise_73 r32_1 ?_
          refine j_iadd dX11_laysRise_74 ?_
          refine j_gd (fun h75a h75b => ?_)
          refine j_sim dX11_laysRise_75 om_219 rfl h75a h75b ?_
          refine j_iinc dX11_laysRise_76 rfl (Nat.le_of_ble_eq_true rfl) rfl ?_
          refine j_goto (tgt := 24) dX11_laysRise_79 rfl ?_
          exact j_mask [true, true, true, true] rfl (ih (w32 (x3_24 + 1)) (upd2 G_24 219 x2_24 (w32 ((G_24 219 x3_24) + 1))))
        · refine j_iinc dX11_laysRise_76 rfl (Nat.le_of_ble_eq_true rfl) rfl ?_
          refine j_goto (tgt := 24) dX11_laysRise_79 rfl ?_
          exact j_mask [true, true, true, true] rfl (ih (w32 (x3_24 + 1)) G_24)
      · refine j_iinc dX11_laysRise_76 rfl (Nat.le_of_ble_eq_true rfl) rfl ?_
        refine j_goto (tgt := 24) dX11_laysRise_79 rfl ?_
        exact j_mask [true, true, true, true] rfl (ih (w32 (x3_24 + 1)) G_24)
    · exact j_mask [true, true, true, false] rfl (hk82 G_24)

set_option maxRecDepth 100000 in
theorem mm_laysRise_L9_J {l : Launch} {H : Hp} : ∀ (n_9 : Nat) (x1_9 : Int) (x2_9 : Int) (G_9 : Hp), J l M_mm_laysRise (KWi (fun g => fu H g)) (mm_laysRise_L9  n_9 x1_9 x2_9 G_9) 9 [(2, 201), (0, x1_9), (0, x2_9), (9, 0)] [] 224 (fu H G_9) (0, 0) := by
  intro n_9
  induction n_9 with
  | zero =>
    intro x1_9 x2_9 G_9
    exact j_none
  | succ n_9 ih =>
    intro x1_9 x2_9 G_9
    rw [mm_laysRise_L9]
    refine j_iload_n dX11_laysRise_9 rfl rfl ?_
    refine j_if_lt (tgt := 109) dX11_laysRise_10 rfl (fun h10 => ?_) (fun h10 => ?_)
    · refine j_iload_n dX11_laysRise_109 rfl rfl ?_
      exact j_ireturn dX11_laysRise_110 rfl rfl (Nat.zero_le _) (Nat.zero_le _)
    · refine j_aload_n dX11_laysRise_13 rfl rfl ?_
      refine j_grm dX11_laysRise_14 gf_X11_62 om_201 (Or.inl (by decide)) rf_201_36 ?_
      refine j_iload_n dX11_laysRise_17 rfl rfl ?_
      refine j_iconst dX11_laysRise_18 r32_1 ?_
      refine j_gd (fun h19a h19b => ?_)
      refine j_sim dX11_laysRise_19 om_219 rfl h19a h19b ?_
      refine j_iload_n dX11_laysRise_20 rfl rfl ?_
      refine j_iconst dX11_laysRise_21 r32_1 ?_
      refine j_iadd dX11_laysRise_22 ?_
      refine j_istore_n dX11_laysRise_23 rfl (Nat.le_of_ble_eq_true rfl) rfl ?_
      refine j_mask [true, true, true, true] rfl (mm_laysRise_L24_J x1_9 x2_9 (fun G_82 => gd x2_9 8 (if x1_9 < G_82 219 x2_9 then (gd x2_9 8 (mm_laysRise_L9 n_9 (G_82 219 x2_9) (w32 (x2_9 + (-1))) G_82)) else mm_laysRise_L9 n_9 x1_9 (w32 (x2_9 + (-1))) G_82)) (fun G_82 => ?_) FU (w32 (x2_9 + 1)) (upd2 G_9 219 x2_9 1))
      refine j_aload_n dX11_laysRise_82 rfl rfl ?_
      refine j_grm dX11_laysRise_83 gf_X11_62 om_201 (Or.inl (by decide)) rf_201_36 ?_
      refine j_iload_n dX11_laysRise_86 rfl rfl ?_
      refine j_gd (fun h87a h87b => ?_)
      refine j_aim dX11_laysRise_87 om_219 rfl h87a h87b ?_
      refine j_iload_n dX11_laysRise_88 rfl rfl ?_
      refine j_icmp_le (tgt := 101) dX11_laysRise_89 rfl (fun h89 => ?_) (fun h89 => ?_)
      · refine j_aload_n dX11_laysRise_92 rfl rfl ?_
        refine j_grm dX11_laysRise_93 gf_X11_62 om_201 (Or.inl (by decide)) rf_201_36 ?_
        refine j_iload_n dX11_laysRise_96 rfl rfl ?_
        refine j_gd (fun h97a h97b => ?_)
        refine j_aim dX11_laysRise_97 om_219 rfl h97a h97b ?_
        refine j_goto (tgt := 102) dX11_laysRise_98 rfl ?_
        refine j_istore_n dX11_laysRise_102 rfl (Nat.le_of_ble_eq_true rfl) rfl ?_
        refine j_iinc dX11_laysRise_103 rfl (Nat.le_of_ble_eq_true rfl) rfl ?_
        refine j_goto (tgt := 9) dX11_laysRise_106 rfl ?_
        exact j_mask [true, true, true, false] rfl (ih (G_82 219 x2_9) (w32 (x2_9 + (-1))) G_82)
      · refine j_iload_n dX11_laysRise_101 rfl rfl ?_
        refine j_istore_n dX11_laysRise_102 rfl (Nat.le_of_ble_eq_true rfl) rfl ?_
        refine j_iinc dX11_laysRise_103 rfl (Nat.le_of_ble_eq_true rfl) rfl ?_
        refine j_goto (tgt := 9) dX11_laysRise_106 rfl ?_
        exact j_mask [true, true, true, false] rfl (ih x1_9 (w32 (x2_9 + (-1))) G_82)

set_option maxRecDepth 100000 in
theorem mm_laysRise_J {l : Launch} {H : Hp} (G : Hp) : J l M_mm_laysRise (KWi (fun g => fu H g)) (mm_laysRise  G) 0 [(2, 201), (9, 0), (9, 0), (9, 0)] [] 224 (fu H G) (0, 0) := by
  unfold mm_laysRise
  refine j_iconst dX11_laysRise_0 r32_0 ?_
  refine j_istore_n dX11_laysRise_1 rfl (Nat.le_of_ble_eq_true rfl) rfl ?_
  refine j_aload_n dX11_laysRise_2 rfl rfl ?_
  refine j_gim dX11_laysRise_3 gf_X11_200 om_201 ?_
  refine j_iconst dX11_laysRise_6 r32_1 ?_
  refine j_isub dX11_laysRise_7 ?_
  refine j_istore_n dX11_laysRise_8 rfl (Nat.le_of_ble_eq_true rfl) rfl ?_
  exact j_mask [true, true, true, false] rfl (mm_laysRise_L9_J FU 0 (w32 ((G 201 13) - 1)) G)

set_option maxRecDepth 100000 in
theorem mm_laysRise_ct {l : Launch} {H : Hp} (G : Hp) {r : Int × Hp} (h : mm_laysRise  G = some r) : Ct l M_mm_laysRise [(2, 201)] 224 (fu H G) ((KWi (fun g => fu H g)) r) :=
  ct_of_J (by decide +kernel) rfl (Nat.le_of_ble_eq_true rfl) (mm_laysRise_J  G) h
set_option maxRecDepth 100000 in
theorem mm_riseAt_L29_J {l : Launch} {H : Hp} (a1 : Int) (x2_29 : Int) (x3_29 : Int) (x4_29 : Int) (G_29 : Hp) (k70 : Int → Option (Int × Hp)) (hk70 : ∀ (x5_70 : Int), J l M_mm_riseAt (KWi (fun g => fu H g)) (k70 x5_70) 70 [(2, 201), (0, a1), (0, x2_29), (9, 0), (0, x4_29), (0, x5_70)] [] 224 (fu H G_29) (0, 0)) : ∀ (n_29 : Nat) (x5_29 : Int), J l M_mm_riseAt (KWi (fun g => fu H g)) (mm_riseAt_L29 a1 x2_29 x3_29 x4_29 G_29 k70 n_29 x5_29) 29 [(2, 201), (0, a1), (0, x2_29), (0, x3_29), (0, x4_29), (0, x5_29)] [] 224 (fu H G_29) (0, 0) := by
  intro n_29
  induction n_29 with
  | zero =>
    intro x5_29
    exact j_none
  | succ n_29 ih =>
    intro x5_29
    rw [mm_riseAt_L29]
    refine j_aload_n dX11_riseAt_29 rfl rfl ?_
    refine j_grm dX11_riseAt_30 gf_X11_62 om_201 (Or.inl (by decide)) rf_201_36 ?_
    refine j_iload dX11_riseAt_33 rfl ?_
    refine j_gd (fun h35a h35b => ?_)
    refine j_aim dX11_riseAt_35 om_219 rfl h35a h35b ?_
    refine j_iload_n dX11_riseAt_36 rfl rfl ?_
    refine j_iload dX11_riseAt_37 rfl ?_
    refine j_isub dX11_riseAt_39 ?_
    refine j_icmp_ne (tgt := 64) dX11_riseAt_40 rfl (fun h40 => ?_) (fun h40 => ?_)
    · refine j_iload_n dX11_riseAt_43 rfl rfl ?_
      refine j_iconst dX11_riseAt_44 r32_m1 ?_
      refine j_icmp_eq (tgt := 70) dX11_riseAt_45 rfl (fun h45 => ?_) (fun h45 => ?_)
      · exact j_mask [true, true, true, false, true, true] rfl (hk70 x5_29)
      · refine j_aload_n dX11_riseAt_48 rfl rfl ?_
        refine j_grm dX11_riseAt_49 gf_X11_26 om_201 (Or.inl (by decide)) rf_201_23 ?_
        refine j_iload dX11_riseAt_52 rfl ?_
        refine j_gd (fun h54a h54b => ?_)
        refine j_aim dX11_riseAt_54 om_207 rfl h54a h54b ?_
        refine j_aload_n dX11_riseAt_55 rfl rfl ?_
        refine j_grm dX11_riseAt_56 gf_X11_26 om_201 (Or.inl (by decide)) rf_201_23 ?_
        refine j_iload_n dX11_riseAt_59 rfl rfl ?_
        refine j_gd (fun h60a h60b => ?_)
        refine j_aim dX11_riseAt_60 om_207 rfl h60a h60b ?_
        refine j_icmp_gt (tgt := 70) dX11_riseAt_61 rfl (fun h61 => ?_) (fun h61 => ?_)
        · refine j_iinc dX11_riseAt_64 rfl (Nat.le_of_ble_eq_true rfl) rfl ?_
          refine j_goto (tgt := 29) dX11_riseAt_67 rfl ?_
          exact j_mask [true, true, true, true, true, true] rfl (ih (w32 (x5_29 + 1)))
        · exact j_mask [true, true, true, false, true, true] rfl (hk70 x5_29)
    · refine j_iinc dX11_riseAt_64 rfl (Nat.le_of_ble_eq_true rfl) rfl ?_
      refine j_goto (tgt := 29) dX11_riseAt_67 rfl ?_
      exact j_mask [true, true, true, true, true, true] rfl (ih (w32 (x5_29 + 1)))

set_option maxRecDepth 100000 in
theorem mm_riseAt_L18_J {l : Launch} {H : Hp} (a1 : Int) (x2_18 : Int) (G_18 : Hp) : ∀ (n_18 : Nat) (x3_18 : Int) (x4_18 : Int), J l M_mm_riseAt (KWi (fun g => fu H g)) (mm_riseAt_L18 a1 x2_18 G_18  n_18 x3_18 x4_18) 18 [(2, 201), (0, a1), (0, x2_18), (0, x3_18), (0, x4_18), (9, 0)] [] 224 (fu H G_18) (0, 0) := by
  intro n_18
  induction n_18 with
  | zero =>
    intro x3_18 x4_18
    exact j_none
  | succ n_18 ih =>
    intro x3_18 x4_18
    rw [mm_riseAt_L18]
    refine j_iload dX11_riseAt_18 rfl ?_
    refine j_iload_n dX11_riseAt_20 rfl rfl ?_
    refine j_icmp_gt (tgt := 79) dX11_riseAt_21 rfl (fun h21 => ?_) (fun h21 => ?_)
    · refine j_iload_n dX11_riseAt_24 rfl rfl ?_
      refine j_iconst dX11_riseAt_25 r32_1 ?_
      refine j_iadd dX11_riseAt_26 ?_
      refine j_istore dX11_riseAt_27 (Nat.le_of_ble_eq_true rfl) rfl ?_
      refine j_mask [true, true, true, true, true, true] rfl (mm_riseAt_L29_J a1 x2_18 x3_18 x4_18 G_18 (fun x5_70 => mm_riseAt_L18 a1 x2_18 G_18 n_18 x5_70 (w32 (x4_18 + 1))) (fun x5_70 => ?_) FU (w32 (x3_18 + 1)))
      refine j_iload dX11_riseAt_70 rfl ?_
      refine j_istore_n dX11_riseAt_72 rfl (Nat.le_of_ble_eq_true rfl) rfl ?_
      refine j_iinc dX11_riseAt_73 rfl (Nat.le_of_ble_eq_true rfl) rfl ?_
      refine j_goto (tgt := 18) dX11_riseAt_76 rfl ?_
      exact j_mask [true, true, true, true, true, false] rfl (ih x5_70 (w32 (x4_18 + 1)))
    · refine j_iload_n dX11_riseAt_79 rfl rfl ?_
      exact j_ireturn dX11_riseAt_80 rfl rfl (Nat.zero_le _) (Nat.zero_le _)

set_option maxRecDepth 100000 in
theorem mm_riseAt_J {l : Launch} {H : Hp} (a1 : Int) (G : Hp) : J l M_mm_riseAt (KWi (fun g => fu H g)) (mm_riseAt a1 G) 0 [(2, 201), (0, a1), (9, 0), (9, 0), (9, 0), (9, 0)] [] 224 (fu H G) (0, 0) := by
  unfold mm_riseAt
  refine j_aload_n dX11_riseAt_0 rfl rfl ?_
  refine j_cVWi dX11_riseAt_1 im_mm_laysRise lk_X11_387 rfl (As := []) (S := []) rfl om_201.1 ⟨by decide, by decide⟩ (Nat.le_of_ble_eq_true rfl) (fun r hr => mm_laysRise_ct  G hr) (fun r1 _ => ?_)
  refine j_istore_n dX11_riseAt_4 rfl (Nat.le_of_ble_eq_true rfl) rfl ?_
  refine j_iload_n dX11_riseAt_5 rfl rfl ?_
  refine j_iload_n dX11_riseAt_6 rfl rfl ?_
  refine j_icmp_lt (tgt := 13) dX11_riseAt_7 rfl (fun h7 => ?_) (fun h7 => ?_)
  · refine j_bipush dX11_riseAt_10 r32_m2 bp_m2 ?_
    exact j_ireturn dX11_riseAt_12 rfl rfl (Nat.zero_le _) (Nat.zero_le _)
  · refine j_iconst dX11_riseAt_13 r32_m1 ?_
    refine j_istore_n dX11_riseAt_14 rfl (Nat.le_of_ble_eq_true rfl) rfl ?_
    refine j_iconst dX11_riseAt_15 r32_0 ?_
    refine j_istore dX11_riseAt_16 (Nat.le_of_ble_eq_true rfl) rfl ?_
    exact j_mask [true, true, true, true, true, false] rfl (mm_riseAt_L18_J a1 r1.1 r1.2 FU (-1) 0)

set_option maxRecDepth 100000 in
theorem mm_riseAt_ct {l : Launch} {H : Hp} (a1 : Int) (G : Hp) {r : Int × Hp} (h : mm_riseAt a1 G = some r) : Ct l M_mm_riseAt [(2, 201), (0, a1)] 224 (fu H G) ((KWi (fun g => fu H g)) r) :=
  ct_of_J (by decide +kernel) rfl (Nat.le_of_ble_eq_true rfl) (mm_riseAt_J a1 G) h
set_option maxRecDepth 100000 in
theorem mm_bendOf_L4_J {l : Launch} {H : Hp} (G : Hp) : ∀ (n_4 : Nat) (x1_4 : Int) (x2_4 : Int), J l M_mm_bendOf (KRi (fu H G)) (mm_bendOf_L4 G  n_4 x1_4 x2_4) 4 [(2, 201), (0, x1_4), (0, x2_4)] [] 224 (fu H G) (0, 0) := by
  intro n_4
  induction n_4 with
  | zero =>
    intro x1_4 x2_4
    exact j_none
  | succ n_4 ih =>
    intro x1_4 x2_4
    rw [mm_bendOf_L4]
    refine j_iload_n dX11_bendOf_4 rfl rfl ?_
    refine j_aload_n dX11_bendOf_5 rfl rfl ?_
    refine j_gim dX11_bendOf_6 gf_X11_200 om_201 ?_
    refine j_iconst dX11_bendOf_9 r32_2 ?_
    refine j_idiv dX11_bendOf_10 (by decide) ?_
    refine j_icmp_ge (tgt := 50) dX11_bendOf_11 rfl (fun h11 => ?_) (fun h11 => ?_)
    · refine j_iload_n dX11_bendOf_14 rfl rfl ?_
      refine j_aload_n dX11_bendOf_15 rfl rfl ?_
      refine j_grm dX11_bendOf_16 gf_X11_26 om_201 (Or.inl (by decide)) rf_201_23 ?_
      refine j_iload_n dX11_bendOf_19 rfl rfl ?_
      refine j_gd (fun h20a h20b => ?_)
      refine j_aim dX11_bendOf_20 om_207 rfl h20a h20b ?_
      refine j_aload_n dX11_bendOf_21 rfl rfl ?_
      refine j_grm dX11_bendOf_22 gf_X11_26 om_201 (Or.inl (by decide)) rf_201_23 ?_
      refine j_aload_n dX11_bendOf_25 rfl rfl ?_
      refine j_gim dX11_bendOf_26 gf_X11_200 om_201 ?_
      refine j_iconst dX11_bendOf_29 r32_1 ?_
      refine j_isub dX11_bendOf_30 ?_
      refine j_iload_n dX11_bendOf_31 rfl rfl ?_
      refine j_isub dX11_bendOf_32 ?_
      refine j_gd (fun h33a h33b => ?_)
      refine j_aim dX11_bendOf_33 om_207 rfl h33a h33b ?_
      refine j_icmp_ne (tgt := 41) dX11_bendOf_34 rfl (fun h34 => ?_) (fun h34 => ?_)
      · refine j_iconst dX11_bendOf_37 r32_0 ?_
        refine j_goto (tgt := 42) dX11_bendOf_38 rfl ?_
        refine j_iadd dX11_bendOf_42 ?_
        refine j_istore_n dX11_bendOf_43 rfl (Nat.le_of_ble_eq_true rfl) rfl ?_
        refine j_iinc dX11_bendOf_44 rfl (Nat.le_of_ble_eq_true rfl) rfl ?_
        refine j_goto (tgt := 4) dX11_bendOf_47 rfl ?_
        exact j_mask [true, true, true] rfl (ih (w32 (x1_4 + 0)) (w32 (x2_4 + 1)))
      · refine j_iconst dX11_bendOf_41 r32_1 ?_
        refine j_iadd dX11_bendOf_42 ?_
        refine j_istore_n dX11_bendOf_43 rfl (Nat.le_of_ble_eq_true rfl) rfl ?_
        refine j_iinc dX11_bendOf_44 rfl (Nat.le_of_ble_eq_true rfl) rfl ?_
        refine j_goto (tgt := 4) dX11_bendOf_47 rfl ?_
        exact j_mask [true, true, true] rfl (ih (w32 (x1_4 + 1)) (w32 (x2_4 + 1)))
    · refine j_iload_n dX11_bendOf_50 rfl rfl ?_
      exact j_ireturn dX11_bendOf_51 rfl rfl (Nat.zero_le _) (Nat.zero_le _)

set_option maxRecDepth 100000 in
theorem mm_bendOf_J {l : Launch} {H : Hp} (G : Hp) : J l M_mm_bendOf (KRi (fu H G)) (mm_bendOf  G) 0 [(2, 201), (9, 0), (9, 0)] [] 224 (fu H G) (0, 0) := by
  unfold mm_bendOf
  refine j_iconst dX11_bendOf_0 r32_0 ?_
  refine j_istore_n dX11_bendOf_1 rfl (Nat.le_of_ble_eq_true rfl) rfl ?_
  refine j_iconst dX11_bendOf_2 r32_0 ?_
  refine j_istore_n dX11_bendOf_3 rfl (Nat.le_of_ble_eq_true rfl) rfl ?_
  exact j_mask [true, true, true] rfl (mm_bendOf_L4_J G FU 0 0)

set_option maxRecDepth 100000 in
theorem mm_bendOf_ct {l : Launch} {H : Hp} (G : Hp) {r : Int} (h : mm_bendOf  G = some r) : Ct l M_mm_bendOf [(2, 201)] 224 (fu H G) ((KRi (fu H G)) r) :=
  ct_of_J (by decide +kernel) rfl (Nat.le_of_ble_eq_true rfl) (mm_bendOf_J  G) h
