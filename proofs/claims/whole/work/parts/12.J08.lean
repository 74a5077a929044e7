set_option maxRecDepth 100000 in
theorem mm_isWord_J {l : Launch} {Ch : Hp} (a0 : Int) : J l M_mm_isWord (KRb Ch) (some (mm_isWord a0)) 0 [(0, a0)] [] 224 Ch (0, 0) := by
  unfold mm_isWord
  refine j_iload_n dX11_isWord_0 rfl rfl ?_
  refine j_iconst dX11_isWord_1 r32_0 ?_
  refine j_bipush dX11_isWord_2 r32_9 bp_9 ?_
  refine j_cSRbp dX11_isWord_4 sm_mm_isIn lk_X11_132 rfl (As := [(0, a0), (0, 0), (0, 9)]) (S := []) rfl ⟨by decide, by decide⟩ (Nat.le_of_ble_eq_true rfl) (mm_isIn_ct a0 0 9) ?_
  exact j_zreturn dX11_isWord_7 rfl rfl (Nat.zero_le _) (Nat.zero_le _)

set_option maxRecDepth 100000 in
theorem mm_isWord_ct {l : Launch} {Ch : Hp} (a0 : Int) : Ct l M_mm_isWord [(0, a0)] 224 Ch (KRb Ch (mm_isWord a0)) :=
  ct_of_J (by decide +kernel) rfl (Nat.le_of_ble_eq_true rfl) (mm_isWord_J a0) rfl
set_option maxRecDepth 100000 in
theorem mm_steps_J {l : Launch} {H : Hp} (a1 : Int) (a2 : Int) (a3 : Int) (G : Hp) : J l M_mm_steps (KWi (fun g => fu H g)) (mm_steps a1 a2 a3 G) 0 [(2, 201), (0, a1), (0, a2), (0, a3)] [] 224 (fu H G) (0, 0) := by
  unfold mm_steps
  refine j_aload_n dX11_steps_0 rfl rfl ?_
  refine j_iload_n dX11_steps_1 rfl rfl ?_
  refine j_cVWb dX11_steps_2 im_mm_isPaper lk_X11_209 rfl (As := [(0, a1)]) (S := []) rfl om_201.1 ⟨by decide, by decide⟩ (Nat.le_of_ble_eq_true rfl) (fun r hr => mm_isPaper_ct a1 G hr) (fun r2 _ => ?_)
  refine j_ifb_eq (tgt := 36) dX11_steps_5 rfl (fun h5 => ?_) (fun h5 => ?_)
  · refine j_iload_n dX11_steps_8 rfl rfl ?_
    refine j_cSRbp dX11_steps_9 sm_mm_isWord lk_X11_236 rfl (As := [(0, a2)]) (S := []) rfl ⟨by decide, by decide⟩ (Nat.le_of_ble_eq_true rfl) (mm_isWord_ct a2) ?_
    refine j_ifb_eq (tgt := 36) dX11_steps_12 rfl (fun h12 => ?_) (fun h12 => ?_)
    · refine j_iload_n dX11_steps_15 rfl rfl ?_
      refine j_cSRbp dX11_steps_16 sm_mm_isWord lk_X11_236 rfl (As := [(0, a3)]) (S := []) rfl ⟨by decide, by decide⟩ (Nat.le_of_ble_eq_true rfl) (mm_isWord_ct a3) ?_
      refine j_ifb_eq (tgt := 36) dX11_steps_19 rfl (fun h19 => ?_) (fun h19 => ?_)
      · refine j_aload_n dX11_steps_22 rfl rfl ?_
        refine j_grm dX11_steps_23 gf_X11_23 om_201 (Or.inl (by decide)) rf_201_16 ?_
        refine j_bipush dX11_steps_26 r32_10 bp_10 ?_
        refine j_iload_n dX11_steps_28 rfl rfl ?_
        refine j_imul dX11_steps_29 ?_
        refine j_iload_n dX11_steps_30 rfl rfl ?_
        refine j_iadd dX11_steps_31 ?_
        refine j_gd (fun h32a h32b => ?_)
        refine j_aim dX11_steps_32 om_206 rfl h32a h32b ?_
        refine j_goto (tgt := 37) dX11_steps_33 rfl ?_
        exact j_ireturn dX11_steps_37 rfl rfl (Nat.zero_le _) (Nat.zero_le _)
      · refine j_iconst dX11_steps_36 r32_m1 ?_
        exact j_ireturn dX11_steps_37 rfl rfl (Nat.zero_le _) (Nat.zero_le _)
    · refine j_iconst dX11_steps_36 r32_m1 ?_
      exact j_ireturn dX11_steps_37 rfl rfl (Nat.zero_le _) (Nat.zero_le _)
  · refine j_iconst dX11_steps_36 r32_m1 ?_
    exact j_ireturn dX11_steps_37 rfl rfl (Nat.zero_le _) (Nat.zero_le _)

set_option maxRecDepth 100000 in
theorem mm_steps_ct {l : Launch} {H : Hp} (a1 : Int) (a2 : Int) (a3 : Int) (G : Hp) {r : Int × Hp} (h : mm_steps a1 a2 a3 G = some r) : Ct l M_mm_steps [(2, 201), (0, a1), (0, a2), (0, a3)] 224 (fu H G) ((KWi (fun g => fu H g)) r) :=
  ct_of_J (by decide +kernel) rfl (Nat.le_of_ble_eq_true rfl) (mm_steps_J a1 a2 a3 G) h
set_option maxRecDepth 100000 in
theorem mm_towards_J {l : Launch} {H : Hp} (a1 : Int) (a2 : Int) (a3 : Int) (G : Hp) : J l M_mm_towards (KWi (fun g => fu H g)) (mm_towards a1 a2 a3 G) 0 [(2, 201), (0, a1), (0, a2), (0, a3)] [] 224 (fu H G) (0, 0) := by
  unfold mm_towards
  refine j_aload_n dX11_towards_0 rfl rfl ?_
  refine j_iload_n dX11_towards_1 rfl rfl ?_
  refine j_cVWb dX11_towards_2 im_mm_isPaper lk_X11_209 rfl (As := [(0, a1)]) (S := []) rfl om_201.1 ⟨by decide, by decide⟩ (Nat.le_of_ble_eq_true rfl) (fun r hr => mm_isPaper_ct a1 G hr) (fun r2 _ => ?_)
  refine j_ifb_eq (tgt := 31) dX11_towards_5 rfl (fun h5 => ?_) (fun h5 => ?_)
  · refine j_iload_n dX11_towards_8 rfl rfl ?_
    refine j_cSRbp dX11_towards_9 sm_mm_isWord lk_X11_236 rfl (As := [(0, a2)]) (S := []) rfl ⟨by decide, by decide⟩ (Nat.le_of_ble_eq_true rfl) (mm_isWord_ct a2) ?_
    refine j_ifb_eq (tgt := 31) dX11_towards_12 rfl (fun h12 => ?_) (fun h12 => ?_)
    · refine j_iload_n dX11_towards_15 rfl rfl ?_
      refine j_cSRbp dX11_towards_16 sm_mm_isWord lk_X11_236 rfl (As := [(0, a3)]) (S := []) rfl ⟨by decide, by decide⟩ (Nat.le_of_ble_eq_true rfl) (mm_isWord_ct a3) ?_
      refine j_ifb_eq (tgt := 31) dX11_towards_19 rfl (fun h19 => ?_) (fun h19 => ?_)
      · refine j_aload_n dX11_towards_22 rfl rfl ?_
        refine j_iload_n dX11_towards_23 rfl rfl ?_
        refine j_iload_n dX11_towards_24 rfl rfl ?_
        refine j_cVRi dX11_towards_25 im_mm_towardsOf lk_X11_239 rfl (As := [(0, a2), (0, a3)]) (S := []) rfl om_201.1 ⟨by decide, by decide⟩ (Nat.le_of_ble_eq_true rfl) (fun r hr => mm_towardsOf_ct a2 a3 r2.2 hr) (fun v25 _ => ?_)
        refine j_goto (tgt := 32) dX11_towards_28 rfl ?_
        exact j_ireturn dX11_towards_32 rfl rfl (Nat.zero_le _) (Nat.zero_le _)
      · refine j_iconst dX11_towards_31 r32_m1 ?_
        exact j_ireturn dX11_towards_32 rfl rfl (Nat.zero_le _) (Nat.zero_le _)
    · refine j_iconst dX11_towards_31 r32_m1 ?_
      exact j_ireturn dX11_towards_32 rfl rfl (Nat.zero_le _) (Nat.zero_le _)
  · refine j_iconst dX11_towards_31 r32_m1 ?_
    exact j_ireturn dX11_towards_32 rfl rfl (Nat.zero_le _) (Nat.zero_le _)

set_option maxRecDepth 100000 in
theorem mm_towards_ct {l : Launch} {H : Hp} (a1 : Int) (a2 : Int) (a3 : Int) (G : Hp) {r : Int × Hp} (h : mm_towards a1 a2 a3 G = some r) : Ct l M_mm_towards [(2, 201), (0, a1), (0, a2), (0, a3)] 224 (fu H G) ((KWi (fun g => fu H g)) r) :=
  ct_of_J (by decide +kernel) rfl (Nat.le_of_ble_eq_true rfl) (mm_towards_J a1 a2 a3 G) h
set_option maxRecDepth 100000 in
theorem mm_putOf_J {l : Launch} {H : Hp} (a1 : Int) (a2 : Int) (G : Hp) : J l M_mm_putOf (KRi (fu H G)) (mm_putOf a1 a2 G) 0 [(2, 201), (0, a1), (0, a2)] [] 224 (fu H G) (0, 0) := by
  unfold mm_putOf
  refine j_aload_n dX11_putOf_0 rfl rfl ?_
  refine j_iload_n dX11_putOf_1 rfl rfl ?_
  refine j_iload_n dX11_putOf_2 rfl rfl ?_
  refine j_cVRi dX11_putOf_3 im_mm_wantOf lk_X11_227 rfl (As := [(0, a1), (0, a2)]) (S := []) rfl om_201.1 ⟨by decide, by decide⟩ (Nat.le_of_ble_eq_true rfl) (fun r hr => mm_wantOf_ct a1 a2 G hr) (fun v3 _ => ?_)
  refine j_bipush dX11_putOf_6 r32_10 bp_10 ?_
  refine j_icmp_ne (tgt := 15) dX11_putOf_8 rfl (fun h8 => ?_) (fun h8 => ?_)
  · refine j_iconst dX11_putOf_11 r32_m1 ?_
    refine j_goto (tgt := 31) dX11_putOf_12 rfl ?_
    exact j_ireturn dX11_putOf_31 rfl rfl (Nat.zero_le _) (Nat.zero_le _)
  · refine j_aload_n dX11_putOf_15 rfl rfl ?_
    refine j_aload_n dX11_putOf_16 rfl rfl ?_
    refine j_grm dX11_putOf_17 gf_X11_26 om_201 (Or.inl (by decide)) rf_201_23 ?_
    refine j_iload_n dX11_putOf_20 rfl rfl ?_
    refine j_gd (fun h21a h21b => ?_)
    refine j_aim dX11_putOf_21 om_207 rfl h21a h21b ?_
    refine j_aload_n dX11_putOf_22 rfl rfl ?_
    refine j_iload_n dX11_putOf_23 rfl rfl ?_
    refine j_iload_n dX11_putOf_24 rfl rfl ?_
    refine j_cVRi dX11_putOf_25 im_mm_wantOf lk_X11_227 rfl (As := [(0, a1), (0, a2)]) (S := [(0, G 207 a2), (2, 201)]) rfl om_201.1 ⟨by decide, by decide⟩ (Nat.le_of_ble_eq_true rfl) (fun r hr => mm_wantOf_ct a1 a2 G hr) (fun v25 _ => ?_)
    refine j_cVRi dX11_putOf_28 im_mm_towardsOf lk_X11_239 rfl (As := [(0, G 207 a2), (0, v25)]) (S := []) rfl om_201.1 ⟨by decide, by decide⟩ (Nat.le_of_ble_eq_true rfl) (fun r hr => mm_towardsOf_ct (G 207 a2) v25 G hr) (fun v28 _ => ?_)
    exact j_ireturn dX11_putOf_31 rfl rfl (Nat.zero_le _) (Nat.zero_le _)

set_option maxRecDepth 100000 in
theorem mm_putOf_ct {l : Launch} {H : Hp} (a1 : Int) (a2 : Int) (G : Hp) {r : Int} (h : mm_putOf a1 a2 G = some r) : Ct l M_mm_putOf [(2, 201), (0, a1), (0, a2)] 224 (fu H G) ((KRi (fu H G)) r) :=
  ct_of_J (by decide +kernel) rfl (Nat.le_of_ble_eq_true rfl) (mm_putOf_J a1 a2 G) h
set_option maxRecDepth 100000 in
theorem mm_reads_j45_J {l : Launch} {H : Hp} (a1 : Int) (k4 : Int → Int → Hp → Option (Int × Hp)) (hk4 : ∀ (x2_4 : Int) (x3_4 : Int) (G_4 : Hp), J l M_mm_reads (KWi (fun g => fu H g)) (k4 x2_4 x3_4 G_4) 4 [(2, 201), (0, a1), (0, x2_4), (0, x3_4), (9, 0)] [] 224 (fu H G_4) (0, 0)) (x2_45 : Int) (x3_45 : Int) (s0_45 : Int) (G_45 : Hp) : J l M_mm_reads (KWi (fun g => fu H g)) (mm_reads_j45 a1 k4 x2_45 x3_45 s0_45 G_45) 45 [(2, 201), (0, a1), (0, x2_45), (0, x3_45), (9, 0)] [(0, s0_45)] 224 (fu H G_45) (0, 0) := by
  unfold mm_reads_j45
  refine j_istore dX11_reads_45 (Nat.le_of_ble_eq_true rfl) rfl ?_
  refine j_iload dX11_reads_47 rfl ?_
  refine j_iconst dX11_reads_49 r32_m1 ?_
  refine j_icmp_ne (tgt := 56) dX11_reads_50 rfl (fun h50 => ?_) (fun h50 => ?_)
  · refine j_goto (tgt := 86) dX11_reads_53 rfl ?_
    refine j_iinc dX11_reads_86 rfl (Nat.le_of_ble_eq_true rfl) rfl ?_
    refine j_goto (tgt := 4) dX11_reads_89 rfl ?_
    exact j_mask [true, true, true, true, false] rfl (hk4 x2_45 (w32 (x3_45 + 1)) G_45)
  · refine j_aload_n dX11_reads_56 rfl rfl ?_
    refine j_grm dX11_reads_57 gf_X11_26 om_201 (Or.inl (by decide)) rf_201_23 ?_
    refine j_iload_n dX11_reads_60 rfl rfl ?_
    refine j_iload dX11_reads_61 rfl ?_
    refine j_gd (fun h63a h63b => ?_)
    refine j_sim dX11_reads_63 om_207 rfl h63a h63b ?_
    refine j_aload_n dX11_reads_64 rfl rfl ?_
    refine j_grm dX11_reads_65 gf_X11_38 om_201 (Or.inl (by decide)) rf_201_27 ?_
    refine j_iload_n dX11_reads_68 rfl rfl ?_
    refine j_iload_n dX11_reads_69 rfl rfl ?_
    refine j_gd (fun h70a h70b => ?_)
    refine j_sim dX11_reads_70 om_211 rfl h70a h70b ?_
    refine j_aload_n dX11_reads_71 rfl rfl ?_
    refine j_dup dX11_reads_72 (by decide) ?_
    refine j_gim dX11_reads_73 gf_X11_254 om_201 ?_
    refine j_iconst dX11_reads_76 r32_1 ?_
    refine j_iload_n dX11_reads_77 rfl rfl ?_
    refine j_ishl dX11_reads_78 ?_
    refine j_ior dX11_reads_79 ?_
    refine j_pim dX11_reads_80 gf_X11_254 po_11_20 om_201 (nf_11_20 _) ?_
    refine j_iinc dX11_reads_83 rfl (Nat.le_of_ble_eq_true rfl) rfl ?_
    refine j_iinc dX11_reads_86 rfl (Nat.le_of_ble_eq_true rfl) rfl ?_
    refine j_goto (tgt := 4) dX11_reads_89 rfl ?_
    exact j_mask [true, true, true, true, false] rfl (hk4 (w32 (x2_45 + 1)) (w32 (x3_45 + 1)) (upd2 (upd2 (upd2 G_45 207 x3_45 s0_45) 211 x3_45 a1) 201 20 (ior ((upd2 (upd2 G_45 207 x3_45 s0_45) 211 x3_45 a1) 201 20) (ishl 1 x3_45))))

set_option maxRecDepth 100000 in
theorem mm_reads_L4_J {l : Launch} {H : Hp} (a1 : Int) (k92 : Int → Hp → Option (Int × Hp)) (hk92 : ∀ (x2_92 : Int) (G_92 : Hp), J l M_mm_reads (KWi (fun g => fu H g)) (k92 x2_92 G_92) 92 [(2, 201), (0, a1), (0, x2_92), (9, 0), (9, 0)] [] 224 (fu H G_92) (0, 0)) : ∀ (n_4 : Nat) (x2_4 : Int) (x3_4 : Int) (G_4 : Hp), J l M_mm_reads (KWi (fun g => fu H g)) (mm_reads_L4 a1 k92 n_4 x2_4 x3_4 G_4) 4 [(2, 201), (0, a1), (0, x2_4), (0, x3_4), (9, 0)] [] 224 (fu H G_4) (0, 0) := by
  intro n_4
  induction n_4 with
  | zero =>
    intro x2_4 x3_4 G_4
    exact j_none
  | succ n_4 ih =>
    intro x2_4 x3_4 G_4
    rw [mm_reads_L4]
    refine j_iload_n dX11_reads_4 rfl rfl ?_
    refine j_aload_n dX11_reads_5 rfl rfl ?_
    refine j_gim dX11_reads_6 gf_X11_200 om_201 ?_
    refine j_icmp_ge (tgt := 92) dX11_reads_9 rfl (fun h9 => ?_) (fun h9 => ?_)
    · refine j_iload_n dX11_reads_12 rfl rfl ?_
      refine j_aload_n dX11_reads_13 rfl rfl ?_
      refine j_iload_n dX11_reads_14 rfl rfl ?_
      refine j_cVRi dX11_reads_15 im_mm_patienceOf lk_X11_221 rfl (As := [(0, a1)]) (S := [(0, x2_4)]) rfl om_201.1 ⟨by decide, by decide⟩ (Nat.le_of_ble_eq_true rfl) (fun r hr => mm_patienceOf_ct a1 G_4 hr) (fun v15 _ => ?_)
      refine j_icmp_ge (tgt := 92) dX11_reads_18 rfl (fun h18 => ?_) (fun h18 => ?_)
      · refine j_aload_n dX11_reads_21 rfl rfl ?_
        refine j_grm dX11_reads_22 gf_X11_32 om_201 (Or.inl (by decide)) rf_201_25 ?_
        refine j_iload_n dX11_reads_25 rfl rfl ?_
        refine j_gd (fun h26a h26b => ?_)
        refine j_aim dX11_reads_26 om_209 rfl h26a h26b ?_
        refine j_iload_n dX11_reads_27 rfl rfl ?_
        refine j_ishr dX11_reads_28 ?_
        refine j_iconst dX11_reads_29 r32_1 ?_
        refine j_iand dX11_reads_30 ?_
        refine j_iconst dX11_reads_31 r32_1 ?_
        refine j_icmp_ne (tgt := 39) dX11_reads_32 rfl (fun h32 => ?_) (fun h32 => ?_)
        · refine j_iconst dX11_reads_35 r32_m1 ?_
          refine j_goto (tgt := 45) dX11_reads_36 rfl ?_
          exact j_mask [true, true, true, true, false] rfl (mm_reads_j45_J a1  (mm_reads_L4 a1 k92 n_4) ih x2_4 x3_4 (-1) G_4)
        · refine j_aload_n dX11_reads_39 rfl rfl ?_
          refine j_iload_n dX11_reads_40 rfl rfl ?_
          refine j_iload_n dX11_reads_41 rfl rfl ?_
          refine j_cVRi dX11_reads_42 im_mm_putOf lk_X11_263 rfl (As := [(0, a1), (0, x3_4)]) (S := []) rfl om_201.1 ⟨by decide, by decide⟩ (Nat.le_of_ble_eq_true rfl) (fun r hr => mm_putOf_ct a1 x3_4 G_4 hr) (fun v42 _ => ?_)
          exact j_mask [true, true, true, true, false] rfl (mm_reads_j45_J a1  (mm_reads_L4 a1 k92 n_4) ih x2_4 x3_4 v42 G_4)
      · exact j_mask [true, true, true, false, false] rfl (hk92 x2_4 G_4)
    · exact j_mask [true, true, true, false, false] rfl (hk92 x2_4 G_4)

set_option maxRecDepth 100000 in
theorem mm_reads_J {l : Launch} {H : Hp} (a1 : Int) (G : Hp) : J l M_mm_reads (KWi (fun g => fu H g)) (mm_reads a1 G) 0 [(2, 201), (0, a1), (9, 0), (9, 0), (9, 0)] [] 224 (fu H G) (0, 0) := by
  unfold mm_reads
  refine j_iconst dX11_reads_0 r32_0 ?_
  refine j_istore_n dX11_reads_1 rfl (Nat.le_of_ble_eq_true rfl) rfl ?_
  refine j_iconst dX11_reads_2 r32_0 ?_
  refine j_istore_n dX11_reads_3 rfl (Nat.le_of_ble_eq_true rfl) rfl ?_
  refine j_mask [true, true, true, true, false] rfl (mm_reads_L4_J a1 (fun x2_92 G_92 => gd a1 6 (gd a1 6 (some (x2_92, upd2 (upd2 G_92 201 17 (w32 ((G_92 201 17) + x2_92))) 210 a1 (w32 (((upd2 G_92 201 17 (w32 ((G_92 201 17) + x2_92))) 210 a1) + x2_92)))))) (fun x2_92 G_92 => ?_) FU 0 0 G)
  refine j_aload_n dX11_reads_92 rfl rfl ?_
  refine j_dup dX11_reads_93 (by decide) ?_
  refine j_gim dX11_reads_94 gf_X11_242 om_201 ?_
  refine j_iload_n dX11_reads_97 rfl rfl ?_
  refine j_iadd dX11_reads_98 ?_
  refine j_pim dX11_reads_99 gf_X11_242 po_11_17 om_201 (nf_11_17 _) ?_
  refine j_aload_n dX11_reads_102 rfl rfl ?_
  refine j_grm dX11_reads_103 gf_X11_35 om_201 (Or.inl (by decide)) rf_201_26 ?_
  refine j_iload_n dX11_reads_106 rfl rfl ?_
  refine j_dup2 dX11_reads_107 (by decide) (by decide) ?_
  refine j_gd (fun h108a h108b => ?_)
  refine j_aim dX11_reads_108 om_210 rfl h108a h108b ?_
  refine j_iload_n dX11_reads_109 rfl rfl ?_
  refine j_iadd dX11_reads_110 ?_
  refine j_gd (fun h111a h111b => ?_)
  refine j_sim dX11_reads_111 om_210 rfl h111a h111b ?_
  refine j_iload_n dX11_reads_112 rfl rfl ?_
  exact j_ireturn dX11_reads_113 rfl rfl (Nat.zero_le _) (Nat.zero_le _)

set_option maxRecDepth 100000 in
theorem mm_reads_ct {l : Launch} {H : Hp} (a1 : Int) (G : Hp) {r : Int × Hp} (h : mm_reads a1 G = some r) : Ct l M_mm_reads [(2, 201), (0, a1)] 224 (fu H G) ((KWi (fun g => fu H g)) r) :=
  ct_of_J (by decide +kernel) rfl (Nat.le_of_ble_eq_true rfl) (mm_reads_J a1 G) h
set_option maxRecDepth 100000 in
theorem mm_contentOf_L4_J {l : Launch} {H : Hp} (a1 : Int) (G : Hp) : ∀ (n_4 : Nat) (x2_4 : Int) (x3_4 : Int), J l M_mm_contentOf (KRi (fu H G)) (mm_contentOf_L4 a1 G  n_4 x2_4 x3_4) 4 [(2, 201), (0, a1), (0, x2_4), (0, x3_4)] [] 224 (fu H G) (0, 0) := by
  intro n_4
  induction n_4 with
  | zero =>
    intro x2_4 x3_4
    exact j_none
  | succ n_4 ih =>
    intro x2_4 x3_4
    rw [mm_contentOf_L4]
    refine j_iload_n dX11_contentOf_4 rfl rfl ?_
    refine j_aload_n dX11_contentOf_5 rfl rfl ?_
    refine j_gim dX11_contentOf_6 gf_X11_200 om_201 ?_
    refine j_icmp_ge (tgt := 41) dX11_contentOf_9 rfl (fun h9 => ?_) (fun h9 => ?_)
    · refine j_iload_n dX11_contentOf_12 rfl rfl ?_
      refine j_aload_n dX11_contentOf_13 rfl rfl ?_
      refine j_grm dX11_contentOf_14 gf_X11_26 om_201 (Or.inl (by decide)) rf_201_23 ?_
      refine j_iload_n dX11_contentOf_17 rfl rfl ?_
      refine j_gd (fun h18a h18b => ?_)
      refine j_aim dX11_contentOf_18 om_207 rfl h18a h18b ?_
      refine j_aload_n dX11_contentOf_19 rfl rfl ?_
      refine j_iload_n dX11_contentOf_20 rfl rfl ?_
      refine j_iload_n dX11_contentOf_21 rfl rfl ?_
      refine j_cVRi dX11_contentOf_22 im_mm_wantOf lk_X11_227 rfl (As := [(0, a1), (0, x3_4)]) (S := [(0, G 207 x3_4), (0, x2_4)]) rfl om_201.1 ⟨by decide, by decide⟩ (Nat.le_of_ble_eq_true rfl) (fun r hr => mm_wantOf_ct a1 x3_4 G hr) (fun v22 _ => ?_)
      refine j_icmp_ne (tgt := 32) dX11_contentOf_25 rfl (fun h25 => ?_) (fun h25 => ?_)
      · refine j_iconst dX11_contentOf_28 r32_1 ?_
        refine j_goto (tgt := 33) dX11_contentOf_29 rfl ?_
        refine j_iadd dX11_contentOf_33 ?_
        refine j_istore_n dX11_contentOf_34 rfl (Nat.le_of_ble_eq_true rfl) rfl ?_
        refine j_iinc dX11_contentOf_35 rfl (Nat.le_of_ble_eq_true rfl) rfl ?_
        refine j_goto (tgt := 4) dX11_contentOf_38 rfl ?_
        exact j_mask [true, true, true, true] rfl (ih (w32 (x2_4 + 1)) (w32 (x3_4 + 1)))
      · refine j_iconst dX11_contentOf_32 r32_0 ?_
        refine j_iadd dX11_contentOf_33 ?_
        refine j_istore_n dX11_contentOf_34 rfl (Nat.le_of_ble_eq_true rfl) rfl ?_
        refine j_iinc dX11_contentOf_35 rfl (Nat.le_of_ble_eq_true rfl) rfl ?_
        refine j_goto (tgt := 4) dX11_contentOf_38 rfl ?_
        exact j_mask [true, true, true, true] rfl (ih (w32 (x2_4 + 0)) (w32 (x3_4 + 1)))
    · refine j_iload_n dX11_contentOf_41 rfl rfl ?_
      exact j_ireturn dX11_contentOf_42 rfl rfl (Nat.zero_le _) (Nat.zero_le _)

set_option maxRecDepth 100000 in
theorem mm_contentOf_J {l : Launch} {H : Hp} (a1 : Int) (G : Hp) : J l M_mm_contentOf (KRi (fu H G)) (mm_contentOf a1 G) 0 [(2, 201), (0, a1), (9, 0), (9, 0)] [] 224 (fu H G) (0, 0) := by
  unfold mm_contentOf
  refine j_iconst dX11_contentOf_0 r32_0 ?_
  refine j_istore_n dX11_contentOf_1 rfl (Nat.le_of_ble_eq_true rfl) rfl ?_
  refine j_iconst dX11_contentOf_2 r32_0 ?_
  refine j_istore_n dX11_contentOf_3 rfl (Nat.le_of_ble_eq_true rfl) rfl ?_
  exact j_mask [true, true, true, true] rfl (mm_contentOf_L4_J a1 G FU 0 0)

set_option maxRecDepth 100000 in
theorem mm_contentOf_ct {l : Launch} {H : Hp} (a1 : Int) (G : Hp) {r : Int} (h : mm_contentOf a1 G = some r) : Ct l M_mm_contentOf [(2, 201), (0, a1)] 224 (fu H G) ((KRi (fu H G)) r) :=
  ct_of_J (by decide +kernel) rfl (Nat.le_of_ble_eq_true rfl) (mm_contentOf_J a1 G) h
set_option maxRecDepth 100000 in
theorem mm_contentAll_L4_J {l : Launch} {H : Hp} (G : Hp) : ∀ (n_4 : Nat) (x1_4 : Int) (x2_4 : Int), J l M_mm_contentAll (KRi (fu H G)) (mm_contentAll_L4 G  n_4 x1_4 x2_4) 4 [(2, 201), (0, x1_4), (0, x2_4)] [] 224 (fu H G) (0, 0) := by
  intro n_4
  induction n_4 with
  | zero =>
    intro x1_4 x2_4
    exact j_none
  | succ n_4 ih =>
    intro x1_4 x2_4
    rw [mm_contentAll_L4]
    refine j_iload_n dX11_contentAll_4 rfl rfl ?_
    refine j_aload_n dX11_contentAll_5 rfl rfl ?_
    refine j_gim dX11_contentAll_6 gf_X11_203 om_201 ?_
    refine j_icmp_ge (tgt := 26) dX11_contentAll_9 rfl (fun h9 => ?_) (fun h9 => ?_)
    · refine j_iload_n dX11_contentAll_12 rfl rfl ?_
      refine j_aload_n dX11_contentAll_13 rfl rfl ?_
      refine j_iload_n dX11_contentAll_14 rfl rfl ?_
      refine j_cVRi dX11_contentAll_15 im_mm_contentOf lk_X11_266 rfl (As := [(0, x2_4)]) (S := [(0, x1_4)]) rfl om_201.1 ⟨by decide, by decide⟩ (Nat.le_of_ble_eq_true rfl) (fun r hr => mm_contentOf_ct x2_4 G hr) (fun v15 _ => ?_)
      refine j_iadd dX11_contentAll_18 ?_
      refine j_istore_n dX11_contentAll_19 rfl (Nat.le_of_ble_eq_true rfl) rfl ?_
      refine j_iinc dX11_contentAll_20 rfl (Nat.le_of_ble_eq_true rfl) rfl ?_
      refine j_goto (tgt := 4) dX11_contentAll_23 rfl ?_
      exact j_mask [true, true, true] rfl (ih (w32 (x1_4 + v15)) (w32 (x2_4 + 1)))
    · refine j_iload_n dX11_contentAll_26 rfl rfl ?_
      exact j_ireturn dX11_contentAll_27 rfl rfl (Nat.zero_le _) (Nat.zero_le _)

set_option maxRecDepth 100000 in
theorem mm_contentAll_J {l : Launch} {H : Hp} (G : Hp) : J l M_mm_contentAll (KRi (fu H G)) (mm_contentAll  G) 0 [(2, 201), (9, 0), (9, 0)] [] 224 (fu H G) (0, 0) := by
  unfold mm_contentAll
  refine j_iconst dX11_contentAll_0 r32_0 ?_
  refine j_istore_n dX11_contentAll_1 rfl (Nat.le_of_ble_eq_true rfl) rfl ?_
  refine j_iconst dX11_contentAll_2 r32_0 ?_
  refine j_istore_n dX11_contentAll_3 rfl (Nat.le_of_ble_eq_true rfl) rfl ?_
  exact j_mask [true, true, true] rfl (mm_contentAll_L4_J G FU 0 0)

set_option maxRecDepth 100000 in
theorem mm_contentAll_ct {l : Launch} {H : Hp} (G : Hp) {r : Int} (h : mm_contentAll  G = some r) : Ct l M_mm_contentAll [(2, 201)] 224 (fu H G) ((KRi (fu H G)) r) :=
  ct_of_J (by decide +kernel) rfl (Nat.le_of_ble_eq_true rfl) (mm_contentAll_J  G) h
set_option maxRecDepth 100000 in
theorem mm_reading_J {l : Launch} {H : Hp} (a1 : Int) (a2 : Int) (a3 : Int) (G : Hp) : J l M_mm_reading (KWi (fun g => fu H g)) (mm_reading a1 a2 a3 G) 0 [(2, 201), (0, a1), (0, a2), (0, a3), (9, 0)] [] 224 (fu H G) (0, 0) := by
  unfold mm_reading
  refine j_aload_n dX11_reading_0 rfl rfl ?_
  refine j_iload_n dX11_reading_1 rfl rfl ?_
  refine j_cVWb dX11_reading_2 im_mm_isPaper lk_X11_209 rfl (As := [(0, a1)]) (S := []) rfl om_201.1 ⟨by decide, by decide⟩ (Nat.le_of_ble_eq_true rfl) (fun r hr => mm_isPaper_ct a1 G hr) (fun r2 _ => ?_)
  refine j_ifb_eq (tgt := 16) dX11_reading_5 rfl (fun h5 => ?_) (fun h5 => ?_)
  · refine j_aload_n dX11_reading_8 rfl rfl ?_
    refine j_iload_n dX11_reading_9 rfl rfl ?_
    refine j_cVRb dX11_reading_10 im_mm_isReader lk_X11_218 rfl (As := [(0, a2)]) (S := []) rfl om_201.1 ⟨by decide, by decide⟩ (Nat.le_of_ble_eq_true rfl) (fun r hr => mm_isReader_ct a2 r2.2 hr) (fun v10 _ => ?_)
    refine j_ifb_ne (tgt := 19) dX11_reading_13 rfl (fun h13 => ?_) (fun h13 => ?_)
    · refine j_aload_n dX11_reading_19 rfl rfl ?_
      refine j_iload_n dX11_reading_20 rfl rfl ?_
      refine j_cVWi dX11_reading_21 im_mm_reads lk_X11_269 rfl (As := [(0, a2)]) (S := []) rfl om_201.1 ⟨by decide, by decide⟩ (Nat.le_of_ble_eq_true rfl) (fun r hr => mm_reads_ct a2 r2.2 hr) (fun r21 _ => ?_)
      refine j_istore dX11_reading_24 (Nat.le_of_ble_eq_true rfl) rfl ?_
      refine j_iload_n dX11_reading_26 rfl rfl ?_
      refine j_if_ne (tgt := 33) dX11_reading_27 rfl (fun h27 => ?_) (fun h27 => ?_)
      · refine j_iload dX11_reading_30 rfl ?_
        exact j_ireturn dX11_reading_32 rfl rfl (Nat.zero_le _) (Nat.zero_le _)
      · refine j_iload_n dX11_reading_33 rfl rfl ?_
        refine j_iconst dX11_reading_34 r32_1 ?_
        refine j_icmp_ne (tgt := 43) dX11_reading_35 rfl (fun h35 => ?_) (fun h35 => ?_)
        · refine j_aload_n dX11_reading_38 rfl rfl ?_
          refine j_cVRi dX11_reading_39 im_mm_contentAll lk_X11_272 rfl (As := []) (S := []) rfl om_201.1 ⟨by decide, by decide⟩ (Nat.le_of_ble_eq_true rfl) (fun r hr => mm_contentAll_ct  r21.2 hr) (fun v39 _ => ?_)
          exact j_ireturn dX11_reading_42 rfl rfl (Nat.zero_le _) (Nat.zero_le _)
        · refine j_iload_n dX11_reading_43 rfl rfl ?_
          refine j_bipush dX11_reading_44 r32_10 bp_10 ?_
          refine j_bipush dX11_reading_46 r32_17 bp_17 ?_
          refine j_cSRbp dX11_reading_48 sm_mm_isIn lk_X11_132 rfl (As := [(0, a3), (0, 10), (0, 17)]) (S := []) rfl ⟨by decide, by decide⟩ (Nat.le_of_ble_eq_true rfl) (mm_isIn_ct a3 10 17) ?_
          refine j_ifb_eq (tgt := 77) dX11_reading_51 rfl (fun h51 => ?_) (fun h51 => ?_)
          · refine j_aload_n dX11_reading_54 rfl rfl ?_
            refine j_iload_n dX11_reading_55 rfl rfl ?_
            refine j_bipush dX11_reading_56 r32_10 bp_10 ?_
            refine j_isub dX11_reading_58 ?_
            refine j_cVRb dX11_reading_59 im_mm_isPlace lk_X11_212 rfl (As := [(0, w32 (a3 - 10))]) (S := []) rfl om_201.1 ⟨by decide, by decide⟩ (Nat.le_of_ble_eq_true rfl) (fun r hr => mm_isPlace_ct (w32 (a3 - 10)) r21.2 hr) (fun v59 _ => ?_)
            refine j_ifb_eq (tgt := 77) dX11_reading_62 rfl (fun h62 => ?_) (fun h62 => ?_)
            · refine j_aload_n dX11_reading_65 rfl rfl ?_
              refine j_grm dX11_reading_66 gf_X11_26 om_201 (Or.inl (by decide)) rf_201_23 ?_
              refine j_iload_n dX11_reading_69 rfl rfl ?_
              refine j_bipush dX11_reading_70 r32_10 bp_10 ?_
              refine j_isub dX11_reading_72 ?_
              refine j_gd (fun h73a h73b => ?_)
              refine j_aim dX11_reading_73 om_207 rfl h73a h73b ?_
              refine j_goto (tgt := 79) dX11_reading_74 rfl ?_
              exact j_ireturn dX11_reading_79 rfl rfl (Nat.zero_le _) (Nat.zero_le _)
            · refine j_bipush dX11_reading_77 r32_m2 bp_m2 ?_
              exact j_ireturn dX11_reading_79 rfl rfl (Nat.zero_le _) (Nat.zero_le _)
          · refine j_bipush dX11_reading_77 r32_m2 bp_m2 ?_
            exact j_ireturn dX11_reading_79 rfl rfl (Nat.zero_le _) (Nat.zero_le _)
    · refine j_bipush dX11_reading_16 r32_m2 bp_m2 ?_
      exact j_ireturn dX11_reading_18 rfl rfl (Nat.zero_le _) (Nat.zero_le _)
  · refine j_bipush dX11_reading_16 r32_m2 bp_m2 ?_
    exact j_ireturn dX11_reading_18 rfl rfl (Nat.zero_le _) (Nat.zero_le _)

set_option maxRecDepth 100000 in
theorem mm_reading_ct {l : Launch} {H : Hp} (a1 : Int) (a2 : Int) (a3 : Int) (G : Hp) {r : Int × Hp} (h : mm_reading a1 a2 a3 G = some r) : Ct l M_mm_reading [(2, 201), (0, a1), (0, a2), (0, a3)] 224 (fu H G) ((KWi (fun g => fu H g)) r) :=
  ct_of_J (by decide +kernel) rfl (Nat.le_of_ble_eq_true rfl) (mm_reading_J a1 a2 a3 G) h
set_option maxRecDepth 100000 in
theorem mm_round_L4_J {l : Launch} {H : Hp} : ∀ (n_4 : Nat) (x1_4 : Int) (x2_4 : Int) (G_4 : Hp), J l M_mm_round (KWi (fun g => fu H g)) (mm_round_L4  n_4 x1_4 x2_4 G_4) 4 [(2, 201), (0, x1_4), (0, x2_4)] [] 224 (fu H G_4) (0, 0) := by
  intro n_4
  induction n_4 with
  | zero =>
    intro x1_4 x2_4 G_4
    exact j_none
  | succ n_4 ih =>
    intro x1_4 x2_4 G_4
    rw [mm_round_L4]
    refine j_iload_n dX11_round_4 rfl rfl ?_
    refine j_aload_n dX11_round_5 rfl rfl ?_
    refine j_gim dX11_round_6 gf_X11_203 om_201 ?_
    refine j_icmp_ge (tgt := 26) dX11_round_9 rfl (fun h9 => ?_) (fun h9 => ?_)
    · refine j_iload_n dX11_round_12 rfl rfl ?_
      refine j_aload_n dX11_round_13 rfl rfl ?_
      refine j_iload_n dX11_round_14 rfl rfl ?_
      refine j_cVWi dX11_round_15 im_mm_reads lk_X11_269 rfl (As := [(0, x2_4)]) (S := [(0, x1_4)]) rfl om_201.1 ⟨by decide, by decide⟩ (Nat.le_of_ble_eq_true rfl) (fun r hr => mm_reads_ct x2_4 G_4 hr) (fun r15 _ => ?_)
      refine j_iadd dX11_round_18 ?_
      refine j_istore_n dX11_round_19 rfl (Nat.le_of_ble_eq_true rfl) rfl ?_
      refine j_iinc dX11_round_20 rfl (Nat.le_of_ble_eq_true rfl) rfl ?_
      refine j_goto (tgt := 4) dX11_round_23 rfl ?_
      exact j_mask [true, true, true] rfl (ih (w32 (x1_4 + r15.1)) (w32 (x2_4 + 1)) r15.2)
    · refine j_iload_n dX11_round_26 rfl rfl ?_
      exact j_ireturn dX11_round_27 rfl rfl (Nat.zero_le _) (Nat.zero_le _)

set_option maxRecDepth 100000 in
theorem mm_round_J {l : Launch} {H : Hp} (G : Hp) : J l M_mm_round (KWi (fun g => fu H g)) (mm_round  G) 0 [(2, 201), (9, 0), (9, 0)] [] 224 (fu H G) (0, 0) := by
  unfold mm_round
  refine j_iconst dX11_round_0 r32_0 ?_
  refine j_istore_n dX11_round_1 rfl (Nat.le_of_ble_eq_true rfl) rfl ?_
  refine j_iconst dX11_round_2 r32_0 ?_
  refine j_istore_n dX11_round_3 rfl (Nat.le_of_ble_eq_true rfl) rfl ?_
  exact j_mask [true, true, true] rfl (mm_round_L4_J FU 0 0 G)

set_option maxRecDepth 100000 in
theorem mm_round_ct {l : Launch} {H : Hp} (G : Hp) {r : Int × Hp} (h : mm_round  G = some r) : Ct l M_mm_round [(2, 201)] 224 (fu H G) ((KWi (fun g => fu H g)) r) :=
  ct_of_J (by decide +kernel) rfl (Nat.le_of_ble_eq_true rfl) (mm_round_J  G) h
set_option maxRecDepth 100000 in
theorem mm_isAsAt_L5_J {l : Launch} {H : Hp} (a1 : Int) (G : Hp) : ∀ (n_5 : Nat) (x3_5 : Int) (x4_5 : Int), J l M_mm_isAsAt (KRb (fu H G)) (mm_isAsAt_L5 a1 G  n_5 x3_5 x4_5) 5 [(2, 201), (0, a1), (2, 212), (0, x3_5), (0, x4_5)] [] 224 (fu H G) (0, 0) := by
  intro n_5
  induction n_5 with
  | zero =>
    intro x3_5 x4_5
    exact j_none
  | succ n_5 ih =>
    intro x3_5 x4_5
    rw [mm_isAsAt_L5]
    refine j_iload dX11_isAsAt_5 rfl ?_
    refine j_aload_n dX11_isAsAt_7 rfl rfl ?_
    refine j_gim dX11_isAsAt_8 gf_X11_200 om_201 ?_
    refine j_icmp_ge (tgt := 49) dX11_isAsAt_11 rfl (fun h11 => ?_) (fun h11 => ?_)
    · refine j_iload_n dX11_isAsAt_14 rfl rfl ?_
      refine j_if_eq (tgt := 41) dX11_isAsAt_15 rfl (fun h15 => ?_) (fun h15 => ?_)
      · refine j_iconst dX11_isAsAt_41 r32_0 ?_
        refine j_istore_n dX11_isAsAt_42 rfl (Nat.le_of_ble_eq_true rfl) rfl ?_
        refine j_iinc dX11_isAsAt_43 rfl (Nat.le_of_ble_eq_true rfl) rfl ?_
        refine j_goto (tgt := 5) dX11_isAsAt_46 rfl ?_
        exact j_mask [true, true, true, true, true] rfl (ih 0 (w32 (x4_5 + 1)))
      · refine j_aload_n dX11_isAsAt_18 rfl rfl ?_
        refine j_bipush dX11_isAsAt_19 r32_8 bp_8 ?_
        refine j_iload_n dX11_isAsAt_21 rfl rfl ?_
        refine j_imul dX11_isAsAt_22 ?_
        refine j_iload dX11_isAsAt_23 rfl ?_
        refine j_iadd dX11_isAsAt_25 ?_
        refine j_gd (fun h26a h26b => ?_)
        refine j_aim dX11_isAsAt_26 om_212 rfl h26a h26b ?_
        refine j_aload_n dX11_isAsAt_27 rfl rfl ?_
        refine j_grm dX11_isAsAt_28 gf_X11_26 om_201 (Or.inl (by decide)) rf_201_23 ?_
        refine j_iload dX11_isAsAt_31 rfl ?_
        refine j_gd (fun h33a h33b => ?_)
        refine j_aim dX11_isAsAt_33 om_207 rfl h33a h33b ?_
        refine j_icmp_ne (tgt := 41) dX11_isAsAt_34 rfl (fun h34 => ?_) (fun h34 => ?_)
        · refine j_iconst dX11_isAsAt_37 r32_1 ?_
          refine j_goto (tgt := 42) dX11_isAsAt_38 rfl ?_
          refine j_istore_n dX11_isAsAt_42 rfl (Nat.le_of_ble_eq_true rfl) rfl ?_
          refine j_iinc dX11_isAsAt_43 rfl (Nat.le_of_ble_eq_true rfl) rfl ?_
          refine j_goto (tgt := 5) dX11_isAsAt_46 rfl ?_
          exact j_mask [true, true, true, true, true] rfl (ih 1 (w32 (x4_5 + 1)))
        · refine j_iconst dX11_isAsAt_41 r32_0 ?_
          refine j_istore_n dX11_isAsAt_42 rfl (Nat.le_of_ble_eq_true rfl) rfl ?_
          refine j_iinc dX11_isAsAt_43 rfl (Nat.le_of_ble_eq_true rfl) rfl ?_
          refine j_goto (tgt := 5) dX11_isAsAt_46 rfl ?_
          exact j_mask [true, true, true, true, true] rfl (ih 0 (w32 (x4_5 + 1)))
    · refine j_iload_n dX11_isAsAt_49 rfl rfl ?_
      refine j_zret (fun hb_ => ?_) (fun hb_ => ?_)
      · rw [hb_]
        exact j_zreturn (b := false) dX11_isAsAt_50 rfl rfl (Nat.zero_le _) (Nat.zero_le _)
      · rw [hb_]
        exact j_zreturn (b := true) dX11_isAsAt_50 rfl rfl (Nat.zero_le _) (Nat.zero_le _)

set_option maxRecDepth 100000 in
theorem mm_isAsAt_J {l : Launch} {H : Hp} (a1 : Int) (G : Hp) : J l M_mm_isAsAt (KRb (fu H G)) (mm_isAsAt a1 G) 0 [(2, 201), (0, a1), (2, 212), (9, 0), (9, 0)] [] 224 (fu H G) (0, 0) := by
  unfold mm_isAsAt
  refine j_iconst dX11_isAsAt_0 r32_1 ?_
  refine j_istore_n dX11_isAsAt_1 rfl (Nat.le_of_ble_eq_true rfl) rfl ?_
  refine j_iconst dX11_isAsAt_2 r32_0 ?_
  refine j_istore dX11_isAsAt_3 (Nat.le_of_ble_eq_true rfl) rfl ?_
  exact j_mask [true, true, true, true, true] rfl (mm_isAsAt_L5_J a1 G FU 1 0)

set_option maxRecDepth 100000 in
theorem mm_isAsAt_ct {l : Launch} {H : Hp} (a1 : Int) (G : Hp) {r : Bool} (h : mm_isAsAt a1 G = some r) : Ct l M_mm_isAsAt [(2, 201), (0, a1), (2, 212)] 224 (fu H G) ((KRb (fu H G)) r) :=
  ct_of_J (by decide +kernel) rfl (Nat.le_of_ble_eq_true rfl) (mm_isAsAt_J a1 G) h
set_option maxRecDepth 100000 in
theorem mm_keeps_L2_J {l : Launch} {H : Hp} (a1 : Int) (a2 : Int) (ha2 : OM a2 20 488) : ∀ (n_2 : Nat) (x3_2 : Int) (G_2 : Hp), J l M_mm_keeps (KWv (fun g => fu H g)) (mm_keeps_L2 a1 a2  n_2 x3_2 G_2) 2 [(2, 201), (0, a1), (2, a2), (0, x3_2)] [] 224 (fu H G_2) (0, 0) := by
  intro n_2
  induction n_2 with
  | zero =>
    intro x3_2 G_2
    exact j_none
  | succ n_2 ih =>
    intro x3_2 G_2
    rw [mm_keeps_L2]
    refine j_iload_n dX11_keeps_2 rfl rfl ?_
    refine j_bipush dX11_keeps_3 r32_8 bp_8 ?_
    refine j_icmp_ge (tgt := 28) dX11_keeps_5 rfl (fun h5 => ?_) (fun h5 => ?_)
    · refine j_aload_n dX11_keeps_8 rfl rfl ?_
      refine j_bipush dX11_keeps_9 r32_8 bp_8 ?_
      refine j_iload_n dX11_keeps_11 rfl rfl ?_
      refine j_imul dX11_keeps_12 ?_
      refine j_iload_n dX11_keeps_13 rfl rfl ?_
      refine j_iadd dX11_keeps_14 ?_
      refine j_aload_n dX11_keeps_15 rfl rfl ?_
      refine j_grm dX11_keeps_16 gf_X11_26 om_201 (Or.inl (by decide)) rf_201_23 ?_
      refine j_iload_n dX11_keeps_19 rfl rfl ?_
      refine j_gd (fun h20a h20b => ?_)
      refine j_aim dX11_keeps_20 om_207 rfl h20a h20b ?_
      refine j_gd (fun h21a h21b => ?_)
      refine j_sim dX11_keeps_21 ha2 rfl h21a h21b ?_
      refine j_iinc dX11_keeps_22 rfl (Nat.le_of_ble_eq_true rfl) rfl ?_
      refine j_goto (tgt := 2) dX11_keeps_25 rfl ?_
      exact j_mask [true, true, true, true] rfl (ih (w32 (x3_2 + 1)) (upd2 G_2 a2 (w32 ((w32 (8 * a1)) + x3_2)) (G_2 207 x3_2)))
    · exact j_return dX11_keeps_28 rfl rfl (Nat.zero_le _) (Nat.zero_le _)

set_option maxRecDepth 100000 in
theorem mm_keeps_J {l : Launch} {H : Hp} (a1 : Int) (a2 : Int) (ha2 : OM a2 20 488) (G : Hp) : J l M_mm_keeps (KWv (fun g => fu H g)) (mm_keeps a1 a2 G) 0 [(2, 201), (0, a1), (2, a2), (9, 0)] [] 224 (fu H G) (0, 0) := by
  unfold mm_keeps
  refine j_iconst dX11_keeps_0 r32_0 ?_
  refine j_istore_n dX11_keeps_1 rfl (Nat.le_of_ble_eq_true rfl) rfl ?_
  exact j_mask [true, true, true, true] rfl (mm_keeps_L2_J a1 a2 ha2 FU 0 G)

set_option maxRecDepth 100000 in
theorem mm_keeps_ct {l : Launch} {H : Hp} (a1 : Int) (a2 : Int) (ha2 : OM a2 20 488) (G : Hp) {r : Hp} (h : mm_keeps a1 a2 G = some r) : Ct l M_mm_keeps [(2, 201), (0, a1), (2, a2)] 224 (fu H G) ((KWv (fun g => fu H g)) r) :=
  ct_of_J (by decide +kernel) rfl (Nat.le_of_ble_eq_true rfl) (mm_keeps_J a1 a2 ha2 G) h
set_option maxRecDepth 100000 in
theorem mm_roundsOf_L36_J {l : Launch} {H : Hp} (a1 : Int) (x2_36 : Int) (G_36 : Hp) (k52 : Int → Int → Hp → Option (Int × Hp)) (hk52 : ∀ (x2_52 : Int) (x3_52 : Int) (G_52 : Hp), J l M_mm_roundsOf (KWi (fun g => fu H g)) (k52 x2_52 x3_52 G_52) 52 [(9, 0), (0, a1), (0, x2_52), (0, x3_52)] [] 224 (fu H G_52) (0, 0)) (k72 : Option (Int × Hp)) (hk72 : J l M_mm_roundsOf (KWi (fun g => fu H g)) (k72) 72 [(2, 201), (0, a1), (0, x2_36), (9, 0)] [] 224 (fu H G_36) (0, 0)) : ∀ (n_36 : Nat) (x3_36 : Int), J l M_mm_roundsOf (KWi (fun g => fu H g)) (mm_roundsOf_L36 a1 x2_36 G_36 k52 k72 n_36 x3_36) 36 [(2, 201), (0, a1), (0, x2_36), (0, x3_36)] [] 224 (fu H G_36) (0, 0) := by
  intro n_36
  induction n_36 with
  | zero =>
    intro x3_36
    exact j_none
  | succ n_36 ih =>
    intro x3_36
    rw [mm_roundsOf_L36]
    refine j_iload_n dX11_roundsOf_36 rfl rfl ?_
    refine j_if_lt (tgt := 72) dX11_roundsOf_37 rfl (fun h37 => ?_) (fun h37 => ?_)
    · exact j_mask [true, true, true, false] rfl (hk72)
    · refine j_aload_n dX11_roundsOf_40 rfl rfl ?_
      refine j_iload_n dX11_roundsOf_41 rfl rfl ?_
      refine j_aload_n dX11_roundsOf_42 rfl rfl ?_
      refine j_grm dX11_roundsOf_43 gf_X11_41 om_201 (Or.inl (by decide)) rf_201_28 ?_
      refine j_cVRb dX11_roundsOf_46 im_mm_isAsAt lk_X11_283 rfl (As := [(0, x3_36), (2, 212)]) (S := []) rfl om_201.1 ⟨by decide, by decide⟩ (Nat.le_of_ble_eq_true rfl) (fun r hr => mm_isAsAt_ct x3_36 G_36 hr) (fun v46 _ => ?_)
      refine j_ifb_eq (tgt := 66) dX11_roundsOf_49 rfl (fun h49 => ?_) (fun h49 => ?_)
      · exact j_mask [false, true, true, true] rfl (hk52 x2_36 x3_36 G_36)
      · refine j_iinc dX11_roundsOf_66 rfl (Nat.le_of_ble_eq_true rfl) rfl ?_
        refine j_goto (tgt := 36) dX11_roundsOf_69 rfl ?_
        exact j_mask [true, true, true, true] rfl (ih (w32 (x3_36 + (-1))))

set_option maxRecDepth 100000 in
theorem mm_roundsOf_L11_J {l : Launch} {H : Hp} (a1 : Int) (k24 : Int → Hp → Option (Int × Hp)) (hk24 : ∀ (x2_24 : Int) (G_24 : Hp), J l M_mm_roundsOf (KWi (fun g => fu H g)) (k24 x2_24 G_24) 24 [(9, 0), (0, a1), (0, x2_24), (9, 0)] [] 224 (fu H G_24) (0, 0)) (k52 : Int → Int → Hp → Option (Int × Hp)) (hk52 : ∀ (x2_52 : Int) (x3_52 : Int) (G_52 : Hp), J l M_mm_roundsOf (KWi (fun g => fu H g)) (k52 x2_52 x3_52 G_52) 52 [(9, 0), (0, a1), (0, x2_52), (0, x3_52)] [] 224 (fu H G_52) (0, 0)) : ∀ (n_11 : Nat) (x2_11 : Int) (G_11 : Hp), J l M_mm_roundsOf (KWi (fun g => fu H g)) (mm_roundsOf_L11 a1 k24 k52 n_11 x2_11 G_11) 11 [(2, 201), (0, a1), (0, x2_11), (9, 0)] [] 224 (fu H G_11) (0, 0) := by
  intro n_11
  induction n_11 with
  | zero =>
    intro x2_11 G_11
    exact j_none
  | succ n_11 ih =>
    intro x2_11 G_11
    rw [mm_roundsOf_L11]
    refine j_iload_n dX11_roundsOf_11 rfl rfl ?_
    refine j_bipush dX11_roundsOf_12 r32_60 bp_60 ?_
    refine j_icmp_ge (tgt := 89) dX11_roundsOf_14 rfl (fun h14 => ?_) (fun h14 => ?_)
    · refine j_aload_n dX11_roundsOf_17 rfl rfl ?_
      refine j_cVWi dX11_roundsOf_18 im_mm_round lk_X11_280 rfl (As := []) (S := []) rfl om_201.1 ⟨by decide, by decide⟩ (Nat.le_of_ble_eq_true rfl) (fun r hr => mm_round_ct  G_11 hr) (fun r18 _ => ?_)
      refine j_if_ne (tgt := 34) dX11_roundsOf_21 rfl (fun h21 => ?_) (fun h21 => ?_)
      · exact j_mask [false, true, true, false] rfl (hk24 x2_11 r18.2)
      · refine j_iload_n dX11_roundsOf_34 rfl rfl ?_
        refine j_istore_n dX11_roundsOf_35 rfl (Nat.le_of_ble_eq_true rfl) rfl ?_
        refine j_mask [true, true, true, true] rfl (mm_roundsOf_L36_J a1 x2_11 r18.2 k52 hk52 ((mm_keeps (w32 (x2_11 + 1)) 212 r18.2).bind fun G80 => mm_roundsOf_L11 a1 k24 k52 n_11 (w32 (x2_11 + 1)) G80) ?_ FU x2_11)
        refine j_aload_n dX11_roundsOf_72 rfl rfl ?_
        refine j_iload_n dX11_roundsOf_73 rfl rfl ?_
        refine j_iconst dX11_roundsOf_74 r32_1 ?_
        refine j_iadd dX11_roundsOf_75 ?_
        refine j_aload_n dX11_roundsOf_76 rfl rfl ?_
        refine j_grm dX11_roundsOf_77 gf_X11_41 om_201 (Or.inl (by decide)) rf_201_28 ?_
        refine j_cVWv dX11_roundsOf_80 im_mm_keeps lk_X11_276 rfl (As := [(0, w32 (x2_11 + 1)), (2, 212)]) (S := []) rfl om_201.1 ⟨by decide, by decide⟩ (Nat.le_of_ble_eq_true rfl) (fun r hr => mm_keeps_ct (w32 (x2_11 + 1)) 212 om_212 r18.2 hr) (fun G80 _ => ?_)
        refine j_iinc dX11_roundsOf_83 rfl (Nat.le_of_ble_eq_true rfl) rfl ?_
        refine j_goto (tgt := 11) dX11_roundsOf_86 rfl ?_
        exact j_mask [true, true, true, false] rfl (ih (w32 (x2_11 + 1)) G80)
    · refine j_iconst dX11_roundsOf_89 r32_m1 ?_
      exact j_ireturn dX11_roundsOf_90 rfl rfl (Nat.zero_le _) (Nat.zero_le _)

set_option maxRecDepth 100000 in
theorem mm_roundsOf_J {l : Launch} {H : Hp} (a1 : Int) (G : Hp) : J l M_mm_roundsOf (KWi (fun g => fu H g)) (mm_roundsOf a1 G) 0 [(2, 201), (0, a1), (9, 0), (9, 0)] [] 224 (fu H G) (0, 0) := by
  unfold mm_roundsOf
  refine j_aload_n dX11_roundsOf_0 rfl rfl ?_
  refine j_iconst dX11_roundsOf_1 r32_0 ?_
  refine j_aload_n dX11_roundsOf_2 rfl rfl ?_
  refine j_grm dX11_roundsOf_3 gf_X11_41 om_201 (Or.inl (by decide)) rf_201_28 ?_
  refine j_cVWv dX11_roundsOf_6 im_mm_keeps lk_X11_276 rfl (As := [(0, 0), (2, 212)]) (S := []) rfl om_201.1 ⟨by decide, by decide⟩ (Nat.le_of_ble_eq_true rfl) (fun r hr => mm_keeps_ct 0 212 om_212 G hr) (fun G6 _ => ?_)
  refine j_iconst dX11_roundsOf_9 r32_0 ?_
  refine j_istore_n dX11_roundsOf_10 rfl (Nat.le_of_ble_eq_true rfl) rfl ?_
  refine j_mask [true, true, true, false] rfl (mm_roundsOf_L11_J a1 (fun x2_24 G_24 => if a1 = 0 then some (x2_24, G_24) else some ((-1), G_24)) (fun x2_24 G_24 => ?_) (fun x2_52 x3_52 G_52 => if a1 = 0 then some ((-1), G_52) else some (w32 ((w32 (x2_52 + 1)) - x3_52), G_52)) (fun x2_52 x3_52 G_52 => ?_) FU 0 G6)
  · refine j_iload_n dX11_roundsOf_24 rfl rfl ?_
    refine j_if_eq (tgt := 32) dX11_roundsOf_25 rfl (fun h25 => ?_) (fun h25 => ?_)
    · refine j_iload_n dX11_roundsOf_32 rfl rfl ?_
      exact j_ireturn dX11_roundsOf_33 rfl rfl (Nat.zero_le _) (Nat.zero_le _)
    · refine j_iconst dX11_roundsOf_28 r32_m1 ?_
      refine j_goto (tgt := 33) dX11_roundsOf_29 rfl ?_
      exact j_ireturn dX11_roundsOf_33 rfl rfl (Nat.zero_le _) (Nat.zero_le _)
  · refine j_iload_n dX11_roundsOf_52 rfl rfl ?_
    refine j_if_eq (tgt := 64) dX11_roundsOf_53 rfl (fun h53 => ?_) (fun h53 => ?_)
    · refine j_iconst dX11_roundsOf_64 r32_m1 ?_
      exact j_ireturn dX11_roundsOf_65 rfl rfl (Nat.zero_le _) (Nat.zero_le _)
    · refine j_iload_n dX11_roundsOf_56 rfl rfl ?_
      refine j_iconst dX11_roundsOf_57 r32_1 ?_
      refine j_iadd dX11_roundsOf_58 ?_
      refine j_iload_n dX11_roundsOf_59 rfl rfl ?_
      refine j_isub dX11_roundsOf_60 ?_
      refine j_goto (tgt := 65) dX11_roundsOf_61 rfl ?_
      exact j_ireturn dX11_roundsOf_65 rfl rfl (Nat.zero_le _) (Nat.zero_le _)

set_option maxRecDepth 100000 in
theorem mm_roundsOf_ct {l : Launch} {H : Hp} (a1 : Int) (G : Hp) {r : Int × Hp} (h : mm_roundsOf a1 G = some r) : Ct l M_mm_roundsOf [(2, 201), (0, a1)] 224 (fu H G) ((KWi (fun g => fu H g)) r) :=
  ct_of_J (by decide +kernel) rfl (Nat.le_of_ble_eq_true rfl) (mm_roundsOf_J a1 G) h
set_option maxRecDepth 100000 in
theorem mm_rounds_j31_J {l : Launch} {H : Hp} (a1 : Int) (a2 : Int) (s0_31 : Int) (G_31 : Hp) : J l M_mm_rounds (KWi (fun g => fu H g)) (mm_rounds_j31 a1 a2  s0_31 G_31) 31 [(9, 0), (9, 0), (9, 0)] [(0, s0_31), (2, 201)] 224 (fu H G_31) (0, 0) := by
  unfold mm_rounds_j31
  refine j_cVWi dX11_rounds_31 im_mm_roundsOf lk_X11_287 rfl (As := [(0, s0_31)]) (S := []) rfl om_201.1 ⟨by decide, by decide⟩ (Nat.le_of_ble_eq_true rfl) (fun r hr => mm_roundsOf_ct s0_31 G_31 hr) (fun r31 _ => ?_)
  exact j_ireturn dX11_rounds_34 rfl rfl (Nat.zero_le _) (Nat.zero_le _)

set_option maxRecDepth 100000 in
theorem mm_rounds_j20_J {l : Launch} {H : Hp} (a1 : Int) (a2 : Int) (G_20 : Hp) : J l M_mm_rounds (KWi (fun g => fu H g)) (mm_rounds_j20 a1 a2  G_20) 20 [(2, 201), (9, 0), (0, a2)] [] 224 (fu H G_20) (0, 0) := by
  unfold mm_rounds_j20
  refine j_aload_n dX11_rounds_20 rfl rfl ?_
  refine j_iload_n dX11_rounds_21 rfl rfl ?_
  refine j_iconst dX11_rounds_22 r32_1 ?_
  refine j_icmp_ne (tgt := 30) dX11_rounds_23 rfl (fun h23 => ?_) (fun h23 => ?_)
  · refine j_iconst dX11_rounds_26 r32_1 ?_
    refine j_goto (tgt := 31) dX11_rounds_27 rfl ?_
    exact j_mask [false, false, false] rfl (mm_rounds_j31_J a1 a2 1 G_20)
  · refine j_iconst dX11_rounds_30 r32_0 ?_
    exact j_mask [false, false, false] rfl (mm_rounds_j31_J a1 a2 0 G_20)

set_option maxRecDepth 100000 in
theorem mm_rounds_J {l : Launch} {H : Hp} (a1 : Int) (a2 : Int) (G : Hp) : J l M_mm_rounds (KWi (fun g => fu H g)) (mm_rounds a1 a2 G) 0 [(2, 201), (0, a1), (0, a2)] [] 224 (fu H G) (0, 0) := by
  unfold mm_rounds
  refine j_aload_n dX11_rounds_0 rfl rfl ?_
  refine j_iload_n dX11_rounds_1 rfl rfl ?_
  refine j_cVWb dX11_rounds_2 im_mm_isPaper lk_X11_209 rfl (As := [(0, a1)]) (S := []) rfl om_201.1 ⟨by decide, by decide⟩ (Nat.le_of_ble_eq_true rfl) (fun r hr => mm_isPaper_ct a1 G hr) (fun r2 _ => ?_)
  refine j_ifb_ne (tgt := 11) dX11_rounds_5 rfl (fun h5 => ?_) (fun h5 => ?_)
  · refine j_iload_n dX11_rounds_11 rfl rfl ?_
    refine j_if_eq (tgt := 20) dX11_rounds_12 rfl (fun h12 => ?_) (fun h12 => ?_)
    · exact j_mask [true, false, true] rfl (mm_rounds_j20_J a1 a2 r2.2)
    · refine j_iload_n dX11_rounds_15 rfl rfl ?_
      refine j_iconst dX11_rounds_16 r32_1 ?_
      refine j_icmp_ne (tgt := 35) dX11_rounds_17 rfl (fun h17 => ?_) (fun h17 => ?_)
      · exact j_mask [true, false, true] rfl (mm_rounds_j20_J a1 a2 r2.2)
      · refine j_iload_n dX11_rounds_35 rfl rfl ?_
        refine j_bipush dX11_rounds_36 r32_10 bp_10 ?_
        refine j_bipush dX11_rounds_38 r32_17 bp_17 ?_
        refine j_cSRbp dX11_rounds_40 sm_mm_isIn lk_X11_132 rfl (As := [(0, a2), (0, 10), (0, 17)]) (S := []) rfl ⟨by decide, by decide⟩ (Nat.le_of_ble_eq_true rfl) (mm_isIn_ct a2 10 17) ?_
        refine j_ifb_eq (tgt := 57) dX11_rounds_43 rfl (fun h43 => ?_) (fun h43 => ?_)
        · refine j_aload_n dX11_rounds_46 rfl rfl ?_
          refine j_iload_n dX11_rounds_47 rfl rfl ?_
          refine j_bipush dX11_rounds_48 r32_10 bp_10 ?_
          refine j_isub dX11_rounds_50 ?_
          refine j_cVRb dX11_rounds_51 im_mm_isPlace lk_X11_212 rfl (As := [(0, w32 (a2 - 10))]) (S := []) rfl om_201.1 ⟨by decide, by decide⟩ (Nat.le_of_ble_eq_true rfl) (fun r hr => mm_isPlace_ct (w32 (a2 - 10)) r2.2 hr) (fun v51 _ => ?_)
          refine j_ifb_ne (tgt := 60) dX11_rounds_54 rfl (fun h54 => ?_) (fun h54 => ?_)
          · refine j_aload_n dX11_rounds_60 rfl rfl ?_
            refine j_iconst dX11_rounds_61 r32_1 ?_
            refine j_cVWi dX11_rounds_62 im_mm_roundsOf lk_X11_287 rfl (As := [(0, 1)]) (S := []) rfl om_201.1 ⟨by decide, by decide⟩ (Nat.le_of_ble_eq_true rfl) (fun r hr => mm_roundsOf_ct 1 r2.2 hr) (fun r62 _ => ?_)
            refine j_pop dX11_rounds_65 (by decide) ?_
            refine j_aload_n dX11_rounds_66 rfl rfl ?_
            refine j_grm dX11_rounds_67 gf_X11_26 om_201 (Or.inl (by decide)) rf_201_23 ?_
            refine j_iload_n dX11_rounds_70 rfl rfl ?_
            refine j_bipush dX11_rounds_71 r32_10 bp_10 ?_
            refine j_isub dX11_rounds_73 ?_
            refine j_gd (fun h74a h74b => ?_)
            refine j_aim dX11_rounds_74 om_207 rfl h74a h74b ?_
            exact j_ireturn dX11_rounds_75 rfl rfl (Nat.zero_le _) (Nat.zero_le _)
          · refine j_bipush dX11_rounds_57 r32_m2 bp_m2 ?_
            exact j_ireturn dX11_rounds_59 rfl rfl (Nat.zero_le _) (Nat.zero_le _)
        · refine j_bipush dX11_rounds_57 r32_m2 bp_m2 ?_
          exact j_ireturn dX11_rounds_59 rfl rfl (Nat.zero_le _) (Nat.zero_le _)
  · refine j_bipush dX11_rounds_8 r32_m2 bp_m2 ?_
    exact j_ireturn dX11_rounds_10 rfl rfl (Nat.zero_le _) (Nat.zero_le _)

set_option maxRecDepth 100000 in
theorem mm_rounds_ct {l : Launch} {H : Hp} (a1 : Int) (a2 : Int) (G : Hp) {r : Int × Hp} (h : mm_rounds a1 a2 G = some r) : Ct l M_mm_rounds [(2, 201), (0, a1), (0, a2)] 224 (fu H G) ((KWi (fun g => fu H g)) r) :=
  ct_of_J (by decide +kernel) rfl (Nat.le_of_ble_eq_true rfl) (mm_rounds_J a1 a2 G) h
set_option maxRecDepth 100000 in
theorem mm_firstRow_L2_J {l : Launch} {H : Hp} : ∀ (n_2 : Nat) (x1_2 : Int) (G_2 : Hp), J l M_mm_firstRow (KWv (fun g => fu H g)) (mm_firstRow_L2  n_2 x1_2 G_2) 2 [(2, 201), (0, x1_2)] [] 224 (fu H G_2) (0, 0) := by
  intro n_2
  induction n_2 with
  | zero =>
    intro x1_2 G_2
    exact j_none
  | succ n_2 ih =>
    intro x1_2 G_2
    rw [mm_firstRow_L2]
    refine j_iload_n dX11_firstRow_2 rfl rfl ?_
    refine j_bipush dX11_firstRow_3 r32_6 bp_6 ?_
    refine j_icmp_ge (tgt := 21) dX11_firstRow_5 rfl (fun h5 => ?_) (fun h5 => ?_)
    · refine j_aload_n dX11_firstRow_8 rfl rfl ?_
      refine j_grm dX11_firstRow_9 gf_X11_44 om_201 (Or.inl (by decide)) rf_201_29 ?_
      refine j_iload_n dX11_firstRow_12 rfl rfl ?_
      refine j_iload_n dX11_firstRow_13 rfl rfl ?_
      refine j_gd (fun h14a h14b => ?_)
      refine j_sim dX11_firstRow_14 om_213 rfl h14a h14b ?_
      refine j_iinc dX11_firstRow_15 rfl (Nat.le_of_ble_eq_true rfl) rfl ?_
      refine j_goto (tgt := 2) dX11_firstRow_18 rfl ?_
      exact j_mask [true, true] rfl (ih (w32 (x1_2 + 1)) (upd2 G_2 213 x1_2 x1_2))
    · exact j_return dX11_firstRow_21 rfl rfl (Nat.zero_le _) (Nat.zero_le _)

set_option maxRecDepth 100000 in
theorem mm_firstRow_J {l : Launch} {H : Hp} (G : Hp) : J l M_mm_firstRow (KWv (fun g => fu H g)) (mm_firstRow  G) 0 [(2, 201), (9, 0)] [] 224 (fu H G) (0, 0) := by
  unfold mm_firstRow
  refine j_iconst dX11_firstRow_0 r32_0 ?_
  refine j_istore_n dX11_firstRow_1 rfl (Nat.le_of_ble_eq_true rfl) rfl ?_
  exact j_mask [true, true] rfl (mm_firstRow_L2_J FU 0 G)

set_option maxRecDepth 100000 in
theorem mm_firstRow_ct {l : Launch} {H : Hp} (G : Hp) {r : Hp} (h : mm_firstRow  G = some r) : Ct l M_mm_firstRow [(2, 201)] 224 (fu H G) ((KWv (fun g => fu H g)) r) :=
  ct_of_J (by decide +kernel) rfl (Nat.le_of_ble_eq_true rfl) (mm_firstRow_J  G) h
set_option maxRecDepth 100000 in
theorem mm_changesPlaces_J {l : Launch} {H : Hp} (a1 : Int) (a2 : Int) (G : Hp) : J l M_mm_changesPlaces (KWv (fun g => fu H g)) (mm_changesPlaces a1 a2 G) 0 [(2, 201), (0, a1), (0, a2), (9, 0)] [] 224 (fu H G) (0, 0) := by
  unfold mm_changesPlaces
  refine j_aload_n dX11_changesPlaces_0 rfl rfl ?_
  refine j_grm dX11_changesPlaces_1 gf_X11_44 om_201 (Or.inl (by decide)) rf_201_29 ?_
  refine j_iload_n dX11_changesPlaces_4 rfl rfl ?_
  refine j_gd (fun h5a h5b => ?_)
  refine j_aim dX11_changesPlaces_5 om_213 rfl h5a h5b ?_
  refine j_istore_n dX11_changesPlaces_6 rfl (Nat.le_of_ble_eq_true rfl) rfl ?_
  refine j_aload_n dX11_changesPlaces_7 rfl rfl ?_
  refine j_grm dX11_changesPlaces_8 gf_X11_44 om_201 (Or.inl (by decide)) rf_201_29 ?_
  refine j_iload_n dX11_changesPlaces_11 rfl rfl ?_
  refine j_aload_n dX11_changesPlaces_12 rfl rfl ?_
  refine j_grm dX11_changesPlaces_13 gf_X11_44 om_201 (Or.inl (by decide)) rf_201_29 ?_
  refine j_iload_n dX11_changesPlaces_16 rfl rfl ?_
  refine j_gd (fun h17a h17b => ?_)
  refine j_aim dX11_changesPlaces_17 om_213 rfl h17a h17b ?_
  refine j_gd (fun h18a h18b => ?_)
  refine j_sim dX11_changesPlaces_18 om_213 rfl h18a h18b ?_
  refine j_aload_n dX11_changesPlaces_19 rfl rfl ?_
  refine j_grm dX11_changesPlaces_20 gf_X11_44 om_201 (Or.inl (by decide)) rf_201_29 ?_
  refine j_iload_n dX11_changesPlaces_23 rfl rfl ?_
  refine j_iload_n dX11_changesPlaces_24 rfl rfl ?_
  refine j_gd (fun h25a h25b => ?_)
  refine j_sim dX11_changesPlaces_25 om_213 rfl h25a h25b ?_
  exact j_return dX11_changesPlaces_26 rfl rfl (Nat.zero_le _) (Nat.zero_le _)

set_option maxRecDepth 100000 in
theorem mm_changesPlaces_ct {l : Launch} {H : Hp} (a1 : Int) (a2 : Int) (G : Hp) {r : Hp} (h : mm_changesPlaces a1 a2 G = some r) : Ct l M_mm_changesPlaces [(2, 201), (0, a1), (0, a2)] 224 (fu H G) ((KWv (fun g => fu H g)) r) :=
  ct_of_J (by decide +kernel) rfl (Nat.le_of_ble_eq_true rfl) (mm_changesPlaces_J a1 a2 G) h
set_option maxRecDepth 100000 in
theorem mm_nextRow_L7_J {l : Launch} {H : Hp} (G_7 : Hp) (k34 : Int → Option (Bool × Hp)) (hk34 : ∀ (x1_34 : Int), J l M_mm_nextRow (KWb (fun g => fu H g)) (k34 x1_34) 34 [(2, 201), (0, x1_34), (9, 0), (9, 0), (9, 0)] [] 224 (fu H G_7) (0, 0)) : ∀ (n_7 : Nat) (x1_7 : Int), J l M_mm_nextRow (KWb (fun g => fu H g)) (mm_nextRow_L7 G_7 k34 n_7 x1_7) 7 [(2, 201), (0, x1_7), (9, 0), (9, 0), (9, 0)] [] 224 (fu H G_7) (0, 0) := by
  intro n_7
  induction n_7 with
  | zero =>
    intro x1_7
    exact j_none
  | succ n_7 ih =>
    intro x1_7
    rw [mm_nextRow_L7]
    refine j_iload_n dX11_nextRow_7 rfl rfl ?_
    refine j_if_lt (tgt := 34) dX11_nextRow_8 rfl (fun h8 => ?_) (fun h8 => ?_)
    · exact j_mask [true, true, false, false, false] rfl (hk34 x1_7)
    · refine j_aload_n dX11_nextRow_11 rfl rfl ?_
      refine j_grm dX11_nextRow_12 gf_X11_44 om_201 (Or.inl (by decide)) rf_201_29 ?_
      refine j_iload_n dX11_nextRow_15 rfl rfl ?_
      refine j_gd (fun h16a h16b => ?_)
      refine j_aim dX11_nextRow_16 om_213 rfl h16a h16b ?_
      refine j_aload_n dX11_nextRow_17 rfl rfl ?_
      refine j_grm dX11_nextRow_18 gf_X11_44 om_201 (Or.inl (by decide)) rf_201_29 ?_
      refine j_iload_n dX11_nextRow_21 rfl rfl ?_
      refine j_iconst dX11_nextRow_22 r32_1 ?_
      refine j_iadd dX11_nextRow_23 ?_
      refine j_gd (fun h24a h24b => ?_)
      refine j_aim dX11_nextRow_24 om_213 rfl h24a h24b ?_
      refine j_icmp_le (tgt := 34) dX11_nextRow_25 rfl (fun h25 => ?_) (fun h25 => ?_)
      · refine j_iinc dX11_nextRow_28 rfl (Nat.le_of_ble_eq_true rfl) rfl ?_
        refine j_goto (tgt := 7) dX11_nextRow_31 rfl ?_
        exact j_mask [true, true, false, false, false] rfl (ih (w32 (x1_7 + (-1))))
      · exact j_mask [true, true, false, false, false] rfl (hk34 x1_7)

set_option maxRecDepth 100000 in
theorem mm_nextRow_L47_J {l : Launch} {H : Hp} (x1_47 : Int) (G_47 : Hp) (k68 : Int → Option (Bool × Hp)) (hk68 : ∀ (x2_68 : Int), J l M_mm_nextRow (KWb (fun g => fu H g)) (k68 x2_68) 68 [(2, 201), (0, x1_47), (0, x2_68), (9, 0), (9, 0)] [] 224 (fu H G_47) (0, 0)) : ∀ (n_47 : Nat) (x2_47 : Int), J l M_mm_nextRow (KWb (fun g => fu H g)) (mm_nextRow_L47 x1_47 G_47 k68 n_47 x2_47) 47 [(2, 201), (0, x1_47), (0, x2_47), (9, 0), (9, 0)] [] 224 (fu H G_47) (0, 0) := by
  intro n_47
  induction n_47 with
  | zero =>
    intro x2_47
    exact j_none
  | succ n_47 ih =>
    intro x2_47
    rw [mm_nextRow_L47]
    refine j_aload_n dX11_nextRow_47 rfl rfl ?_
    refine j_grm dX11_nextRow_48 gf_X11_44 om_201 (Or.inl (by decide)) rf_201_29 ?_
    refine j_iload_n dX11_nextRow_51 rfl rfl ?_
    refine j_gd (fun h52a h52b => ?_)
    refine j_aim dX11_nextRow_52 om_213 rfl h52a h52b ?_
    refine j_aload_n dX11_nextRow_53 rfl rfl ?_
    refine j_grm dX11_nextRow_54 gf_X11_44 om_201 (Or.inl (by decide)) rf_201_29 ?_
    refine j_iload_n dX11_nextRow_57 rfl rfl ?_
    refine j_gd (fun h58a h58b => ?_)
    refine j_aim dX11_nextRow_58 om_213 rfl h58a h58b ?_
    refine j_icmp_ge (tgt := 68) dX11_nextRow_59 rfl (fun h59 => ?_) (fun h59 => ?_)
    · refine j_iinc dX11_nextRow_62 rfl (Nat.le_of_ble_eq_true rfl) rfl ?_
      refine j_goto (tgt := 47) dX11_nextRow_65 rfl ?_
      exact j_mask [true, true, true, false, false] rfl (ih (w32 (x2_47 + (-1))))
    · exact j_mask [true, true, true, false, false] rfl (hk68 x2_47)

set_option maxRecDepth 100000 in
theorem mm_nextRow_L86_J {l : Launch} {H : Hp} : ∀ (n_86 : Nat) (x3_86 : Int) (x4_86 : Int) (G_86 : Hp), J l M_mm_nextRow (KWb (fun g => fu H g)) (mm_nextRow_L86  n_86 x3_86 x4_86 G_86) 86 [(2, 201), (9, 0), (9, 0), (0, x3_86), (0, x4_86)] [] 224 (fu H G_86) (0, 0) := by
  intro n_86
  induction n_86 with
  | zero =>
    intro x3_86 x4_86 G_86
    exact j_none
  | succ n_86 ih =>
    intro x3_86 x4_86 G_86
    rw [mm_nextRow_L86]
    refine j_iload_n dX11_nextRow_86 rfl rfl ?_
    refine j_iload dX11_nextRow_87 rfl ?_
    refine j_icmp_ge (tgt := 108) dX11_nextRow_89 rfl (fun h89 => ?_) (fun h89 => ?_)
    · refine j_aload_n dX11_nextRow_92 rfl rfl ?_
      refine j_iload_n dX11_nextRow_93 rfl rfl ?_
      refine j_iload dX11_nextRow_94 rfl ?_
      refine j_cVWv dX11_nextRow_96 im_mm_changesPlaces lk_X11_291 rfl (As := [(0, x3_86), (0, x4_86)]) (S := []) rfl om_201.1 ⟨by decide, by decide⟩ (Nat.le_of_ble_eq_true rfl) (fun r hr => mm_changesPlaces_ct x3_86 x4_86 G_86 hr) (fun G96 _ => ?_)
      refine j_iinc dX11_nextRow_99 rfl (Nat.le_of_ble_eq_true rfl) rfl ?_
      refine j_iinc dX11_nextRow_102 rfl (Nat.le_of_ble_eq_true rfl) rfl ?_
      refine j_goto (tgt := 86) dX11_nextRow_105 rfl ?_
      exact j_mask [true, false, false, true, true] rfl (ih (w32 (x3_86 + 1)) (w32 (x4_86 + (-1))) G96)
    · refine j_iconst dX11_nextRow_108 r32_1 ?_
      exact j_zreturn (b := true) dX11_nextRow_109 rfl rfl (Nat.zero_le _) (Nat.zero_le _)

set_option maxRecDepth 100000 in
theorem mm_nextRow_J {l : Launch} {H : Hp} (G : Hp) : J l M_mm_nextRow (KWb (fun g => fu H g)) (mm_nextRow  G) 0 [(2, 201), (9, 0), (9, 0), (9, 0), (9, 0)] [] 224 (fu H G) (0, 0) := by
  unfold mm_nextRow
  refine j_aload_n dX11_nextRow_0 rfl rfl ?_
  refine j_gim dX11_nextRow_1 gf_X11_203 om_201 ?_
  refine j_iconst dX11_nextRow_4 r32_2 ?_
  refine j_isub dX11_nextRow_5 ?_
  refine j_istore_n dX11_nextRow_6 rfl (Nat.le_of_ble_eq_true rfl) rfl ?_
  refine j_mask [true, true, false, false, false] rfl (mm_nextRow_L7_J G (fun x1_34 => if x1_34 < 0 then some (false, G) else (mm_nextRow_L47 x1_34 G (fun x2_68 => (mm_changesPlaces x1_34 x2_68 G).bind fun G71 => mm_nextRow_L86 FU (w32 (x1_34 + 1)) (w32 ((G71 201 14) - 1)) G71) FU (w32 ((G 201 14) - 1)))) (fun x1_34 => ?_) FU (w32 ((G 201 14) - 2)))
  refine j_iload_n dX11_nextRow_34 rfl rfl ?_
  refine j_if_ge (tgt := 40) dX11_nextRow_35 rfl (fun h35 => ?_) (fun h35 => ?_)
  · refine j_iconst dX11_nextRow_38 r32_0 ?_
    exact j_zreturn (b := false) dX11_nextRow_39 rfl rfl (Nat.zero_le _) (Nat.zero_le _)
  · refine j_aload_n dX11_nextRow_40 rfl rfl ?_
    refine j_gim dX11_nextRow_41 gf_X11_203 om_201 ?_
    refine j_iconst dX11_nextRow_44 r32_1 ?_
    refine j_isub dX11_nextRow_45 ?_
    refine j_istore_n dX11_nextRow_46 rfl (Nat.le_of_ble_eq_true rfl) rfl ?_
    refine j_mask [true, true, true, false, false] rfl (mm_nextRow_L47_J x1_34 G (fun x2_68 => (mm_changesPlaces x1_34 x2_68 G).bind fun G71 => mm_nextRow_L86 FU (w32 (x1_34 + 1)) (w32 ((G71 201 14) - 1)) G71) (fun x2_68 => ?_) FU (w32 ((G 201 14) - 1)))
    refine j_aload_n dX11_nextRow_68 rfl rfl ?_
    refine j_iload_n dX11_nextRow_69 rfl rfl ?_
    refine j_iload_n dX11_nextRow_70 rfl rfl ?_
    refine j_cVWv dX11_nextRow_71 im_mm_changesPlaces lk_X11_291 rfl (As := [(0, x1_34), (0, x2_68)]) (S := []) rfl om_201.1 ⟨by decide, by decide⟩ (Nat.le_of_ble_eq_true rfl) (fun r hr => mm_changesPlaces_ct x1_34 x2_68 G hr) (fun G71 _ => ?_)
    refine j_iload_n dX11_nextRow_74 rfl rfl ?_
    refine j_iconst dX11_nextRow_75 r32_1 ?_
    refine j_iadd dX11_nextRow_76 ?_
    refine j_istore_n dX11_nextRow_77 rfl (Nat.le_of_ble_eq_true rfl) rfl ?_
    refine j_aload_n dX11_nextRow_78 rfl rfl ?_
    refine j_gim dX11_nextRow_79 gf_X11_203 om_201 ?_
    refine j_iconst dX11_nextRow_82 r32_1 ?_
    refine j_isub dX11_nextRow_83 ?_
    refine j_istore dX11_nextRow_84 (Nat.le_of_ble_eq_true rfl) rfl ?_
    exact j_mask [true, false, false, true, true] rfl (mm_nextRow_L86_J FU (w32 (x1_34 + 1)) (w32 ((G71 201 14) - 1)) G71)

set_option maxRecDepth 100000 in
theorem mm_nextRow_ct {l : Launch} {H : Hp} (G : Hp) {r : Bool × Hp} (h : mm_nextRow  G = some r) : Ct l M_mm_nextRow [(2, 201)] 224 (fu H G) ((KWb (fun g => fu H g)) r) :=
  ct_of_J (by decide +kernel) rfl (Nat.le_of_ble_eq_true rfl) (mm_nextRow_J  G) h
set_option maxRecDepth 100000 in
theorem mm_readsRow_L6_J {l : Launch} {H : Hp} (k31 : Hp → Option (Int × Hp)) (hk31 : ∀ (G_31 : Hp), J l M_mm_readsRow (KWi (fun g => fu H g)) (k31 G_31) 31 [(2, 201), (9, 0)] [] 224 (fu H G_31) (0, 0)) : ∀ (n_6 : Nat) (x1_6 : Int) (G_6 : Hp), J l M_mm_readsRow (KWi (fun g => fu H g)) (mm_readsRow_L6 k31 n_6 x1_6 G_6) 6 [(2, 201), (0, x1_6)] [] 224 (fu H G_6) (0, 0) := by
  intro n_6
  induction n_6 with
  | zero =>
    intro x1_6 G_6
    exact j_none
  | succ n_6 ih =>
    intro x1_6 G_6
    rw [mm_readsRow_L6]
    refine j_iload_n dX11_readsRow_6 rfl rfl ?_
    refine j_aload_n dX11_readsRow_7 rfl rfl ?_
    refine j_gim dX11_readsRow_8 gf_X11_203 om_201 ?_
    refine j_icmp_ge (tgt := 31) dX11_readsRow_11 rfl (fun h11 => ?_) (fun h11 => ?_)
    · refine j_aload_n dX11_readsRow_14 rfl rfl ?_
      refine j_aload_n dX11_readsRow_15 rfl rfl ?_
      refine j_grm dX11_readsRow_16 gf_X11_44 om_201 (Or.inl (by decide)) rf_201_29 ?_
      refine j_iload_n dX11_readsRow_19 rfl rfl ?_
      refine j_gd (fun h20a h20b => ?_)
      refine j_aim dX11_readsRow_20 om_213 rfl h20a h20b ?_
      refine j_cVWi dX11_readsRow_21 im_mm_reads lk_X11_269 rfl (As := [(0, G_6 213 x1_6)]) (S := []) rfl om_201.1 ⟨by decide, by decide⟩ (Nat.le_of_ble_eq_true rfl) (fun r hr => mm_reads_ct (G_6 213 x1_6) G_6 hr) (fun r21 _ => ?_)
      refine j_pop dX11_readsRow_24 (by decide) ?_
      refine j_iinc dX11_readsRow_25 rfl (Nat.le_of_ble_eq_true rfl) rfl ?_
      refine j_goto (tgt := 6) dX11_readsRow_28 rfl ?_
      exact j_mask [true, true] rfl (ih (w32 (x1_6 + 1)) r21.2)
    · exact j_mask [true, false] rfl (hk31 G_6)

set_option maxRecDepth 100000 in
theorem mm_readsRow_J {l : Launch} {H : Hp} (G : Hp) : J l M_mm_readsRow (KWi (fun g => fu H g)) (mm_readsRow  G) 0 [(2, 201), (9, 0)] [] 224 (fu H G) (0, 0) := by
  unfold mm_readsRow
  refine j_aload_n dX11_readsRow_0 rfl rfl ?_
  refine j_cVWv dX11_readsRow_1 im_mm_beginsProof lk_X11_245 rfl (As := []) (S := []) rfl om_201.1 ⟨by decide, by decide⟩ (Nat.le_of_ble_eq_true rfl) (fun r hr => mm_beginsProof_ct  G hr) (fun G1 _ => ?_)
  refine j_iconst dX11_readsRow_4 r32_0 ?_
  refine j_istore_n dX11_readsRow_5 rfl (Nat.le_of_ble_eq_true rfl) rfl ?_
  refine j_mask [true, true] rfl (mm_readsRow_L6_J (fun G_31 => (mm_contentAll G_31).bind fun v32 => some (v32, G_31)) (fun G_31 => ?_) FU 0 G1)
  refine j_aload_n dX11_readsRow_31 rfl rfl ?_
  refine j_cVRi dX11_readsRow_32 im_mm_contentAll lk_X11_272 rfl (As := []) (S := []) rfl om_201.1 ⟨by decide, by decide⟩ (Nat.le_of_ble_eq_true rfl) (fun r hr => mm_contentAll_ct  G_31 hr) (fun v32 _ => ?_)
  exact j_ireturn dX11_readsRow_35 rfl rfl (Nat.zero_le _) (Nat.zero_le _)

set_option maxRecDepth 100000 in
theorem mm_readsRow_ct {l : Launch} {H : Hp} (G : Hp) {r : Int × Hp} (h : mm_readsRow  G = some r) : Ct l M_mm_readsRow [(2, 201)] 224 (fu H G) ((KWi (fun g => fu H g)) r) :=
  ct_of_J (by decide +kernel) rfl (Nat.le_of_ble_eq_true rfl) (mm_readsRow_J  G) h
set_option maxRecDepth 100000 in
theorem mm_order_j82_J {l : Launch} {H : Hp} (a1 : Int) (a2 : Int) (k32 : Int → Int → Hp → Option (Int × Hp)) (hk32 : ∀ (x3_32 : Int) (x4_32 : Int) (G_32 : Hp), J l M_mm_order (KWi (fun g => fu H g)) (k32 x3_32 x4_32 G_32) 32 [(2, 201), (9, 0), (0, a2), (0, x3_32), (0, x4_32), (9, 0), (9, 0)] [] 224 (fu H G_32) (0, 0)) (x3_82 : Int) (G_82 : Hp) : J l M_mm_order (KWi (fun g => fu H g)) (mm_order_j82 a1 a2 k32 x3_82 G_82) 82 [(2, 201), (9, 0), (0, a2), (0, x3_82), (9, 0), (9, 0), (9, 0)] [] 224 (fu H G_82) (0, 0) := by
  unfold mm_order_j82
  refine j_aload_n dX11_order_82 rfl rfl ?_
  refine j_cVWb dX11_order_83 im_mm_nextRow lk_X11_300 rfl (As := []) (S := []) rfl om_201.1 ⟨by decide, by decide⟩ (Nat.le_of_ble_eq_true rfl) (fun r hr => mm_nextRow_ct  G_82 hr) (fun r83 _ => ?_)
  refine j_istore dX11_order_86 (Nat.le_of_ble_eq_true rfl) rfl ?_
  refine j_goto (tgt := 32) dX11_order_88 rfl ?_
  exact j_mask [true, false, true, true, true, false, false] rfl (hk32 x3_82 (b2i r83.1) r83.2)

set_option maxRecDepth 100000 in
theorem mm_order_L55_J {l : Launch} {H : Hp} (a1 : Int) (a2 : Int) (x3_55 : Int) (k82 : Int → Hp → Option (Int × Hp)) (hk82 : ∀ (x3_82 : Int) (G_82 : Hp), J l M_mm_order (KWi (fun g => fu H g)) (k82 x3_82 G_82) 82 [(2, 201), (9, 0), (0, a2), (0, x3_82), (9, 0), (9, 0), (9, 0)] [] 224 (fu H G_82) (0, 0)) : ∀ (n_55 : Nat) (x6_55 : Int) (G_55 : Hp), J l M_mm_order (KWi (fun g => fu H g)) (mm_order_L55 a1 a2 x3_55 k82 n_55 x6_55 G_55) 55 [(2, 201), (9, 0), (0, a2), (0, x3_55), (9, 0), (9, 0), (0, x6_55)] [] 224 (fu H G_55) (0, 0) := by
  intro n_55
  induction n_55 with
  | zero =>
    intro x6_55 G_55
    exact j_none
  | succ n_55 ih =>
    intro x6_55 G_55
    rw [mm_order_L55]
    refine j_iload dX11_order_55 rfl ?_
    refine j_bipush dX11_order_57 r32_6 bp_6 ?_
    refine j_icmp_ge (tgt := 82) dX11_order_59 rfl (fun h59 => ?_) (fun h59 => ?_)
    · refine j_aload_n dX11_order_62 rfl rfl ?_
      refine j_grm dX11_order_63 gf_X11_47 om_201 (Or.inl (by decide)) rf_201_30 ?_
      refine j_iload dX11_order_66 rfl ?_
      refine j_aload_n dX11_order_68 rfl rfl ?_
      refine j_grm dX11_order_69 gf_X11_44 om_201 (Or.inl (by decide)) rf_201_29 ?_
      refine j_iload dX11_order_72 rfl ?_
      refine j_gd (fun h74a h74b => ?_)
      refine j_aim dX11_order_74 om_213 rfl h74a h74b ?_
      refine j_gd (fun h75a h75b => ?_)
      refine j_sim dX11_order_75 om_214 rfl h75a h75b ?_
      refine j_iinc dX11_order_76 rfl (Nat.le_of_ble_eq_true rfl) rfl ?_
      refine j_goto (tgt := 55) dX11_order_79 rfl ?_
      exact j_mask [true, false, true, true, false, false, true] rfl (ih (w32 (x6_55 + 1)) (upd2 G_55 214 x6_55 (G_55 213 x6_55)))
    · exact j_mask [true, false, true, true, false, false, false] rfl (hk82 x3_55 G_55)

set_option maxRecDepth 100000 in
theorem mm_order_L32_J {l : Launch} {H : Hp} (a1 : Int) (a2 : Int) (k91 : Int → Hp → Option (Int × Hp)) (hk91 : ∀ (x3_91 : Int) (G_91 : Hp), J l M_mm_order (KWi (fun g => fu H g)) (k91 x3_91 G_91) 91 [(2, 201), (9, 0), (0, a2), (0, x3_91), (9, 0), (9, 0), (9, 0)] [] 224 (fu H G_91) (0, 0)) : ∀ (n_32 : Nat) (x3_32 : Int) (x4_32 : Int) (G_32 : Hp), J l M_mm_order (KWi (fun g => fu H g)) (mm_order_L32 a1 a2 k91 n_32 x3_32 x4_32 G_32) 32 [(2, 201), (9, 0), (0, a2), (0, x3_32), (0, x4_32), (9, 0), (9, 0)] [] 224 (fu H G_32) (0, 0) := by
  intro n_32
  induction n_32 with
  | zero =>
    intro x3_32 x4_32 G_32
    exact j_none
  | succ n_32 ih =>
    intro x3_32 x4_32 G_32
    rw [mm_order_L32]
    refine j_iload dX11_order_32 rfl ?_
    refine j_if_eq (tgt := 91) dX11_order_34 rfl (fun h34 => ?_) (fun h34 => ?_)
    · exact j_mask [true, false, true, true, false, false, false] rfl (hk91 x3_32 G_32)
    · refine j_aload_n dX11_order_37 rfl rfl ?_
      refine j_cVWi dX11_order_38 im_mm_readsRow lk_X11_297 rfl (As := []) (S := []) rfl om_201.1 ⟨by decide, by decide⟩ (Nat.le_of_ble_eq_true rfl) (fun r hr => mm_readsRow_ct  G_32 hr) (fun r38 _ => ?_)
      refine j_istore dX11_order_41 (Nat.le_of_ble_eq_true rfl) rfl ?_
      refine j_iload dX11_order_43 rfl ?_
      refine j_iload_n dX11_order_45 rfl rfl ?_
      refine j_icmp_le (tgt := 82) dX11_order_46 rfl (fun h46 => ?_) (fun h46 => ?_)
      · refine j_iload dX11_order_49 rfl ?_
        refine j_istore_n dX11_order_51 rfl (Nat.le_of_ble_eq_true rfl) rfl ?_
        refine j_iconst dX11_order_52 r32_0 ?_
        refine j_istore dX11_order_53 (Nat.le_of_ble_eq_true rfl) rfl ?_
        exact j_mask [true, false, true, true, false, false, true] rfl (mm_order_L55_J a1 a2 r38.1 (mm_order_j82 a1 a2 (mm_order_L32 a1 a2 k91 n_32)) (mm_order_j82_J a1 a2 (mm_order_L32 a1 a2 k91 n_32) ih) FU 0 r38.2)
      · exact j_mask [true, false, true, true, false, false, false] rfl (mm_order_j82_J a1 a2  (mm_order_L32 a1 a2 k91 n_32) ih x3_32 r38.2)

set_option maxRecDepth 100000 in
theorem mm_order_j23_J {l : Launch} {H : Hp} (a1 : Int) (a2 : Int) (G_23 : Hp) : J l M_mm_order (KWi (fun g => fu H g)) (mm_order_j23 a1 a2  G_23) 23 [(2, 201), (9, 0), (0, a2), (9, 0), (9, 0), (9, 0), (9, 0)] [] 224 (fu H G_23) (0, 0) := by
  unfold mm_order_j23
  refine j_iconst dX11_order_23 r32_m1 ?_
  refine j_istore_n dX11_order_24 rfl (Nat.le_of_ble_eq_true rfl) rfl ?_
  refine j_aload_n dX11_order_25 rfl rfl ?_
  refine j_cVWv dX11_order_26 im_mm_firstRow lk_X11_294 rfl (As := []) (S := []) rfl om_201.1 ⟨by decide, by decide⟩ (Nat.le_of_ble_eq_true rfl) (fun r hr => mm_firstRow_ct  G_23 hr) (fun G26 _ => ?_)
  refine j_iconst dX11_order_29 r32_1 ?_
  refine j_istore dX11_order_30 (Nat.le_of_ble_eq_true rfl) rfl ?_
  refine j_mask [true, false, true, true, true, false, false] rfl (mm_order_L32_J a1 a2 (fun x3_91 G_91 => if a2 = (-1) then some (x3_91, G_91) else (gd a2 6 (some (G_91 214 a2, G_91)))) (fun x3_91 G_91 => ?_) FU (-1) 1 G26)
  refine j_iload_n dX11_order_91 rfl rfl ?_
  refine j_iconst dX11_order_92 r32_m1 ?_
  refine j_icmp_ne (tgt := 100) dX11_order_93 rfl (fun h93 => ?_) (fun h93 => ?_)
  · refine j_iload_n dX11_order_96 rfl rfl ?_
    refine j_goto (tgt := 106) dX11_order_97 rfl ?_
    exact j_ireturn dX11_order_106 rfl rfl (Nat.zero_le _) (Nat.zero_le _)
  · refine j_aload_n dX11_order_100 rfl rfl ?_
    refine j_grm dX11_order_101 gf_X11_47 om_201 (Or.inl (by decide)) rf_201_30 ?_
    refine j_iload_n dX11_order_104 rfl rfl ?_
    refine j_gd (fun h105a h105b => ?_)
    refine j_aim dX11_order_105 om_214 rfl h105a h105b ?_
    exact j_ireturn dX11_order_106 rfl rfl (Nat.zero_le _) (Nat.zero_le _)

set_option maxRecDepth 100000 in
theorem mm_order_J {l : Launch} {H : Hp} (a1 : Int) (a2 : Int) (G : Hp) : J l M_mm_order (KWi (fun g => fu H g)) (mm_order a1 a2 G) 0 [(2, 201), (0, a1), (0, a2), (9, 0), (9, 0), (9, 0), (9, 0)] [] 224 (fu H G) (0, 0) := by
  unfold mm_order
  refine j_aload_n dX11_order_0 rfl rfl ?_
  refine j_iload_n dX11_order_1 rfl rfl ?_
  refine j_cVWb dX11_order_2 im_mm_isPaper lk_X11_209 rfl (As := [(0, a1)]) (S := []) rfl om_201.1 ⟨by decide, by decide⟩ (Nat.le_of_ble_eq_true rfl) (fun r hr => mm_isPaper_ct a1 G hr) (fun r2 _ => ?_)
  refine j_ifb_eq (tgt := 21) dX11_order_5 rfl (fun h5 => ?_) (fun h5 => ?_)
  · refine j_iload_n dX11_order_8 rfl rfl ?_
    refine j_iconst dX11_order_9 r32_m1 ?_
    refine j_icmp_eq (tgt := 23) dX11_order_10 rfl (fun h10 => ?_) (fun h10 => ?_)
    · exact j_mask [true, false, true, false, false, false, false] rfl (mm_order_j23_J a1 a2 r2.2)
    · refine j_aload_n dX11_order_13 rfl rfl ?_
      refine j_iload_n dX11_order_14 rfl rfl ?_
      refine j_cVRb dX11_order_15 im_mm_isReader lk_X11_218 rfl (As := [(0, a2)]) (S := []) rfl om_201.1 ⟨by decide, by decide⟩ (Nat.le_of_ble_eq_true rfl) (fun r hr => mm_isReader_ct a2 r2.2 hr) (fun v15 _ => ?_)
      refine j_ifb_ne (tgt := 23) dX11_order_18 rfl (fun h18 => ?_) (fun h18 => ?_)
      · exact j_mask [true, false, true, false, false, false, false] rfl (mm_order_j23_J a1 a2 r2.2)
      · refine j_iconst dX11_order_21 r32_m1 ?_
        exact j_ireturn dX11_order_22 rfl rfl (Nat.zero_le _) (Nat.zero_le _)
  · refine j_iconst dX11_order_21 r32_m1 ?_
    exact j_ireturn dX11_order_22 rfl rfl (Nat.zero_le _) (Nat.zero_le _)

set_option maxRecDepth 100000 in
theorem mm_order_ct {l : Launch} {H : Hp} (a1 : Int) (a2 : Int) (G : Hp) {r : Int × Hp} (h : mm_order a1 a2 G = some r) : Ct l M_mm_order [(2, 201), (0, a1), (0, a2)] 224 (fu H G) ((KWi (fun g => fu H g)) r) :=
  ct_of_J (by decide +kernel) rfl (Nat.le_of_ble_eq_true rfl) (mm_order_J a1 a2 G) h
set_option maxRecDepth 100000 in
theorem mm_deskOf_L11_J {l : Launch} {H : Hp} (a1 : Int) (a2 : Int) (a3 : Int) (G : Hp) : ∀ (n_11 : Nat) (x4_11 : Int) (x5_11 : Int), J l M_mm_deskOf (KRi (fu H G)) (mm_deskOf_L11 a1 a2 a3 G  n_11 x4_11 x5_11) 11 [(9, 0), (9, 0), (0, a2), (0, a3), (0, x4_11), (0, x5_11)] [] 224 (fu H G) (0, 0) := by
  intro n_11
  induction n_11 with
  | zero =>
    intro x4_11 x5_11
    exact j_none
  | succ n_11 ih =>
    intro x4_11 x5_11
    rw [mm_deskOf_L11]
    refine j_iload dX11_deskOf_11 rfl ?_
    refine j_iload_n dX11_deskOf_13 rfl rfl ?_
    refine j_icmp_le (tgt := 29) dX11_deskOf_14 rfl (fun h14 => ?_) (fun h14 => ?_)
    · refine j_iload dX11_deskOf_17 rfl ?_
      refine j_iload_n dX11_deskOf_19 rfl rfl ?_
      refine j_nz (fun hz20 => ?_)
      refine j_idiv dX11_deskOf_20 hz20 ?_
      refine j_istore dX11_deskOf_21 (Nat.le_of_ble_eq_true rfl) rfl ?_
      refine j_iinc dX11_deskOf_23 rfl (Nat.le_of_ble_eq_true rfl) rfl ?_
      refine j_goto (tgt := 11) dX11_deskOf_26 rfl ?_
      exact j_mask [false, false, true, true, true, true] rfl (ih (idiv x4_11 a2) (w32 (x5_11 + (-1))))
    · refine j_iload dX11_deskOf_29 rfl ?_
      refine j_iload_n dX11_deskOf_31 rfl rfl ?_
      refine j_nz (fun hz32 => ?_)
      refine j_irem dX11_deskOf_32 hz32 ?_
      exact j_ireturn dX11_deskOf_33 rfl rfl (Nat.zero_le _) (Nat.zero_le _)

set_option maxRecDepth 100000 in
theorem mm_deskOf_J {l : Launch} {H : Hp} (a1 : Int) (a2 : Int) (a3 : Int) (G : Hp) : J l M_mm_deskOf (KRi (fu H G)) (mm_deskOf a1 a2 a3 G) 0 [(2, 201), (0, a1), (0, a2), (0, a3), (9, 0), (9, 0)] [] 224 (fu H G) (0, 0) := by
  unfold mm_deskOf
  refine j_iload_n dX11_deskOf_0 rfl rfl ?_
  refine j_istore dX11_deskOf_1 (Nat.le_of_ble_eq_true rfl) rfl ?_
  refine j_aload_n dX11_deskOf_3 rfl rfl ?_
  refine j_gim dX11_deskOf_4 gf_X11_203 om_201 ?_
  refine j_iconst dX11_deskOf_7 r32_1 ?_
  refine j_isub dX11_deskOf_8 ?_
  refine j_istore dX11_deskOf_9 (Nat.le_of_ble_eq_true rfl) rfl ?_
  exact j_mask [false, false, true, true, true, true] rfl (mm_deskOf_L11_J a1 a2 a3 G FU a1 (w32 ((G 201 14) - 1)))

set_option maxRecDepth 100000 in
theorem mm_deskOf_ct {l : Launch} {H : Hp} (a1 : Int) (a2 : Int) (a3 : Int) (G : Hp) {r : Int} (h : mm_deskOf a1 a2 a3 G = some r) : Ct l M_mm_deskOf [(2, 201), (0, a1), (0, a2), (0, a3)] 224 (fu H G) ((KRi (fu H G)) r) :=
  ct_of_J (by decide +kernel) rfl (Nat.le_of_ble_eq_true rfl) (mm_deskOf_J a1 a2 a3 G) h
set_option maxRecDepth 100000 in
theorem mm_longest_L2_J {l : Launch} {H : Hp} (a1 : Int) (a2 : Int) (k20 : Hp → Option (Int × Hp)) (hk20 : ∀ (G_20 : Hp), J l M_mm_longest (KWi (fun g => fu H g)) (k20 G_20) 20 [(2, 201), (0, a1), (0, a2), (9, 0), (9, 0), (9, 0)] [] 224 (fu H G_20) (0, 0)) : ∀ (n_2 : Nat) (x3_2 : Int) (G_2 : Hp), J l M_mm_longest (KWi (fun g => fu H g)) (mm_longest_L2 a1 a2 k20 n_2 x3_2 G_2) 2 [(2, 201), (0, a1), (0, a2), (0, x3_2), (9, 0), (9, 0)] [] 224 (fu H G_2) (0, 0) := by
  intro n_2
  induction n_2 with
  | zero =>
    intro x3_2 G_2
    exact j_none
  | succ n_2 ih =>
    intro x3_2 G_2
    rw [mm_longest_L2]
    refine j_iload_n dX11_longest_2 rfl rfl ?_
    refine j_iconst dX11_longest_3 r32_3 ?_
    refine j_icmp_ge (tgt := 20) dX11_longest_4 rfl (fun h4 => ?_) (fun h4 => ?_)
    · refine j_aload_n dX11_longest_7 rfl rfl ?_
      refine j_grm dX11_longest_8 gf_X11_50 om_201 (Or.inl (by decide)) rf_201_31 ?_
      refine j_iload_n dX11_longest_11 rfl rfl ?_
      refine j_iconst dX11_longest_12 r32_0 ?_
      refine j_gd (fun h13a h13b => ?_)
      refine j_sim dX11_longest_13 om_215 rfl h13a h13b ?_
      refine j_iinc dX11_longest_14 rfl (Nat.le_of_ble_eq_true rfl) rfl ?_
      refine j_goto (tgt := 2) dX11_longest_17 rfl ?_
      exact j_mask [true, true, true, true, false, false] rfl (ih (w32 (x3_2 + 1)) (upd2 G_2 215 x3_2 0))
    · exact j_mask [true, true, true, false, false, false] rfl (hk20 G_2)

set_option maxRecDepth 100000 in
theorem mm_longest_L25_J {l : Launch} {H : Hp} (a1 : Int) (a2 : Int) : ∀ (n_25 : Nat) (x3_25 : Int) (x4_25 : Int) (G_25 : Hp), J l M_mm_longest (KWi (fun g => fu H g)) (mm_longest_L25 a1 a2  n_25 x3_25 x4_25 G_25) 25 [(2, 201), (0, a1), (0, a2), (0, x3_25), (0, x4_25), (9, 0)] [] 224 (fu H G_25) (0, 0) := by
  intro n_25
  induction n_25 with
  | zero =>
    intro x3_25 x4_25 G_25
    exact j_none
  | succ n_25 ih =>
    intro x3_25 x4_25 G_25
    rw [mm_longest_L25]
    refine j_iload dX11_longest_25 rfl ?_
    refine j_aload_n dX11_longest_27 rfl rfl ?_
    refine j_gim dX11_longest_28 gf_X11_203 om_201 ?_
    refine j_icmp_ge (tgt := 89) dX11_longest_31 rfl (fun h31 => ?_) (fun h31 => ?_)
    · refine j_aload_n dX11_longest_34 rfl rfl ?_
      refine j_iload_n dX11_longest_35 rfl rfl ?_
      refine j_iload_n dX11_longest_36 rfl rfl ?_
      refine j_iload dX11_longest_37 rfl ?_
      refine j_cVRi dX11_longest_39 im_mm_deskOf lk_X11_304 rfl (As := [(0, a1), (0, a2), (0, x4_25)]) (S := []) rfl om_201.1 ⟨by decide, by decide⟩ (Nat.le_of_ble_eq_true rfl) (fun r hr => mm_deskOf_ct a1 a2 x4_25 G_25 hr) (fun v39 _ => ?_)
      refine j_istore dX11_longest_42 (Nat.le_of_ble_eq_true rfl) rfl ?_
      refine j_aload_n dX11_longest_44 rfl rfl ?_
      refine j_grm dX11_longest_45 gf_X11_50 om_201 (Or.inl (by decide)) rf_201_31 ?_
      refine j_iload dX11_longest_48 rfl ?_
      refine j_dup2 dX11_longest_50 (by decide) (by decide) ?_
      refine j_gd (fun h51a h51b => ?_)
      refine j_aim dX11_longest_51 om_215 rfl h51a h51b ?_
      refine j_aload_n dX11_longest_52 rfl rfl ?_
      refine j_iload dX11_longest_53 rfl ?_
      refine j_cVRi dX11_longest_55 im_mm_daysOf lk_X11_224 rfl (As := [(0, x4_25)]) (S := [(0, G_25 215 v39), (0, v39), (2, 215)]) rfl om_201.1 ⟨by decide, by decide⟩ (Nat.le_of_ble_eq_true rfl) (fun r hr => mm_daysOf_ct x4_25 G_25 hr) (fun v55 _ => ?_)
      refine j_iadd dX11_longest_58 ?_
      refine j_gd (fun h59a h59b => ?_)
      refine j_sim dX11_longest_59 om_215 rfl h59a h59b ?_
      refine j_aload_n dX11_longest_60 rfl rfl ?_
      refine j_grm dX11_longest_61 gf_X11_50 om_201 (Or.inl (by decide)) rf_201_31 ?_
      refine j_iload dX11_longest_64 rfl ?_
      refine j_gd (fun h66a h66b => ?_)
      refine j_aim dX11_longest_66 om_215 rfl h66a h66b ?_
      refine j_iload_n dX11_longest_67 rfl rfl ?_
      refine j_icmp_le (tgt := 81) dX11_longest_68 rfl (fun h68 => ?_) (fun h68 => ?_)
      · refine j_aload_n dX11_longest_71 rfl rfl ?_
        refine j_grm dX11_longest_72 gf_X11_50 om_201 (Or.inl (by decide)) rf_201_31 ?_
        refine j_iload dX11_longest_75 rfl ?_
        refine j_gd (fun h77a h77b => ?_)
        refine j_aim dX11_longest_77 om_215 rfl h77a h77b ?_
        refine j_goto (tgt := 82) dX11_longest_78 rfl ?_
        refine j_istore_n dX11_longest_82 rfl (Nat.le_of_ble_eq_true rfl) rfl ?_
        refine j_iinc dX11_longest_83 rfl (Nat.le_of_ble_eq_true rfl) rfl ?_
        refine j_goto (tgt := 25) dX11_longest_86 rfl ?_
        exact j_mask [true, true, true, true, true, false] rfl (ih ((upd2 G_25 215 v39 (w32 ((G_25 215 v39) + v55))) 215 v39) (w32 (x4_25 + 1)) (upd2 G_25 215 v39 (w32 ((G_25 215 v39) + v55))))
      · refine j_iload_n dX11_longest_81 rfl rfl ?_
        refine j_istore_n dX11_longest_82 rfl (Nat.le_of_ble_eq_true rfl) rfl ?_
        refine j_iinc dX11_longest_83 rfl (Nat.le_of_ble_eq_true rfl) rfl ?_
        refine j_goto (tgt := 25) dX11_longest_86 rfl ?_
        exact j_mask [true, true, true, true, true, false] rfl (ih x3_25 (w32 (x4_25 + 1)) (upd2 G_25 215 v39 (w32 ((G_25 215 v39) + v55))))
    · refine j_iload_n dX11_longest_89 rfl rfl ?_
      exact j_ireturn dX11_longest_90 rfl rfl (Nat.zero_le _) (Nat.zero_le _)

set_option maxRecDepth 100000 in
theorem mm_longest_J {l : Launch} {H : Hp} (a1 : Int) (a2 : Int) (G : Hp) : J l M_mm_longest (KWi (fun g => fu H g)) (mm_longest a1 a2 G) 0 [(2, 201), (0, a1), (0, a2), (9, 0), (9, 0), (9, 0)] [] 224 (fu H G) (0, 0) := by
  unfold mm_longest
  refine j_iconst dX11_longest_0 r32_0 ?_
  refine j_istore_n dX11_longest_1 rfl (Nat.le_of_ble_eq_true rfl) rfl ?_
  refine j_mask [true, true, true, true, false, false] rfl (mm_longest_L2_J a1 a2 (fun G_20 => mm_longest_L25 a1 a2 FU 0 0 G_20) (fun G_20 => ?_) FU 0 G)
  refine j_iconst dX11_longest_20 r32_0 ?_
  refine j_istore_n dX11_longest_21 rfl (Nat.le_of_ble_eq_true rfl) rfl ?_
  refine j_iconst dX11_longest_22 r32_0 ?_
  refine j_istore dX11_longest_23 (Nat.le_of_ble_eq_true rfl) rfl ?_
  exact j_mask [true, true, true, true, true, false] rfl (mm_longest_L25_J a1 a2 FU 0 0 G_20)

set_option maxRecDepth 100000 in
theorem mm_longest_ct {l : Launch} {H : Hp} (a1 : Int) (a2 : Int) (G : Hp) {r : Int × Hp} (h : mm_longest a1 a2 G = some r) : Ct l M_mm_longest [(2, 201), (0, a1), (0, a2)] 224 (fu H G) ((KWi (fun g => fu H g)) r) :=
  ct_of_J (by decide +kernel) rfl (Nat.le_of_ble_eq_true rfl) (mm_longest_J a1 a2 G) h
set_option maxRecDepth 100000 in
theorem mm_desks_L38_J {l : Launch} {H : Hp} (a1 : Int) (a2 : Int) (a3 : Int) (G_38 : Hp) (k59 : Int → Option (Int × Hp)) (hk59 : ∀ (x4_59 : Int), J l M_mm_desks (KWi (fun g => fu H g)) (k59 x4_59) 59 [(2, 201), (9, 0), (0, a2), (0, a3), (0, x4_59), (9, 0), (9, 0)] [] 224 (fu H G_38) (0, 0)) : ∀ (n_38 : Nat) (x4_38 : Int) (x5_38 : Int), J l M_mm_desks (KWi (fun g => fu H g)) (mm_desks_L38 a1 a2 a3 G_38 k59 n_38 x4_38 x5_38) 38 [(2, 201), (9, 0), (0, a2), (0, a3), (0, x4_38), (0, x5_38), (9, 0)] [] 224 (fu H G_38) (0, 0) := by
  intro n_38
  induction n_38 with
  | zero =>
    intro x4_38 x5_38
    exact j_none
  | succ n_38 ih =>
    intro x4_38 x5_38
    rw [mm_desks_L38]
    refine j_iload dX11_desks_38 rfl ?_
    refine j_aload_n dX11_desks_40 rfl rfl ?_
    refine j_gim dX11_desks_41 gf_X11_203 om_201 ?_
    refine j_icmp_ge (tgt := 59) dX11_desks_44 rfl (fun h44 => ?_) (fun h44 => ?_)
    · refine j_iload dX11_desks_47 rfl ?_
      refine j_iload_n dX11_desks_49 rfl rfl ?_
      refine j_imul dX11_desks_50 ?_
      refine j_istore dX11_desks_51 (Nat.le_of_ble_eq_true rfl) rfl ?_
      refine j_iinc dX11_desks_53 rfl (Nat.le_of_ble_eq_true rfl) rfl ?_
      refine j_goto (tgt := 38) dX11_desks_56 rfl ?_
      exact j_mask [true, false, true, true, true, true, false] rfl (ih (w32 (x4_38 * a2)) (w32 (x5_38 + 1)))
    · exact j_mask [true, false, true, true, true, false, false] rfl (hk59 x4_38)

set_option maxRecDepth 100000 in
theorem mm_desks_L65_J {l : Launch} {H : Hp} (a1 : Int) (a2 : Int) (a3 : Int) (x4_65 : Int) (k99 : Int → Hp → Option (Int × Hp)) (hk99 : ∀ (x5_99 : Int) (G_99 : Hp), J l M_mm_desks (KWi (fun g => fu H g)) (k99 x5_99 G_99) 99 [(2, 201), (9, 0), (0, a2), (0, a3), (9, 0), (0, x5_99), (9, 0)] [] 224 (fu H G_99) (0, 0)) : ∀ (n_65 : Nat) (x5_65 : Int) (x6_65 : Int) (G_65 : Hp), J l M_mm_desks (KWi (fun g => fu H g)) (mm_desks_L65 a1 a2 a3 x4_65 k99 n_65 x5_65 x6_65 G_65) 65 [(2, 201), (9, 0), (0, a2), (0, a3), (0, x4_65), (0, x5_65), (0, x6_65)] [] 224 (fu H G_65) (0, 0) := by
  intro n_65
  induction n_65 with
  | zero =>
    intro x5_65 x6_65 G_65
    exact j_none
  | succ n_65 ih =>
    intro x5_65 x6_65 G_65
    rw [mm_desks_L65]
    refine j_iload dX11_desks_65 rfl ?_
    refine j_iload dX11_desks_67 rfl ?_
    refine j_icmp_ge (tgt := 99) dX11_desks_69 rfl (fun h69 => ?_) (fun h69 => ?_)
    · refine j_aload_n dX11_desks_72 rfl rfl ?_
      refine j_iload dX11_desks_73 rfl ?_
      refine j_iload_n dX11_desks_75 rfl rfl ?_
      refine j_cVWi dX11_desks_76 im_mm_longest lk_X11_308 rfl (As := [(0, x6_65), (0, a2)]) (S := []) rfl om_201.1 ⟨by decide, by decide⟩ (Nat.le_of_ble_eq_true rfl) (fun r hr => mm_longest_ct x6_65 a2 G_65 hr) (fun r76 _ => ?_)
      refine j_aload_n dX11_desks_79 rfl rfl ?_
      refine j_iload dX11_desks_80 rfl ?_
      refine j_iload_n dX11_desks_82 rfl rfl ?_
      refine j_cVWi dX11_desks_83 im_mm_longest lk_X11_308 rfl (As := [(0, x5_65), (0, a2)]) (S := [(0, r76.1)]) rfl om_201.1 ⟨by decide, by decide⟩ (Nat.le_of_ble_eq_true rfl) (fun r hr => mm_longest_ct x5_65 a2 r76.2 hr) (fun r83 _ => ?_)
      refine j_icmp_ge (tgt := 93) dX11_desks_86 rfl (fun h86 => ?_) (fun h86 => ?_)
      · refine j_iload dX11_desks_89 rfl ?_
        refine j_istore dX11_desks_91 (Nat.le_of_ble_eq_true rfl) rfl ?_
        refine j_iinc dX11_desks_93 rfl (Nat.le_of_ble_eq_true rfl) rfl ?_
        refine j_goto (tgt := 65) dX11_desks_96 rfl ?_
        exact j_mask [true, false, true, true, true, true, true] rfl (ih x6_65 (w32 (x6_65 + 1)) r83.2)
      · refine j_iinc dX11_desks_93 rfl (Nat.le_of_ble_eq_true rfl) rfl ?_
        refine j_goto (tgt := 65) dX11_desks_96 rfl ?_
        exact j_mask [true, false, true, true, true, true, true] rfl (ih x5_65 (w32 (x6_65 + 1)) r83.2)
    · exact j_mask [true, false, true, true, false, true, false] rfl (hk99 x5_65 G_65)

set_option maxRecDepth 100000 in
theorem mm_desks_j32_J {l : Launch} {H : Hp} (a1 : Int) (a2 : Int) (a3 : Int) (G_32 : Hp) : J l M_mm_desks (KWi (fun g => fu H g)) (mm_desks_j32 a1 a2 a3  G_32) 32 [(2, 201), (9, 0), (0, a2), (0, a3), (9, 0), (9, 0), (9, 0)] [] 224 (fu H G_32) (0, 0) := by
  unfold mm_desks_j32
  refine j_iconst dX11_desks_32 r32_1 ?_
  refine j_istore dX11_desks_33 (Nat.le_of_ble_eq_true rfl) rfl ?_
  refine j_iconst dX11_desks_35 r32_0 ?_
  refine j_istore dX11_desks_36 (Nat.le_of_ble_eq_true rfl) rfl ?_
  refine j_mask [true, false, true, true, true, true, false] rfl (mm_desks_L38_J a1 a2 a3 G_32 (fun x4_59 => mm_desks_L65 a1 a2 a3 x4_59 (fun x5_99 G_99 => if a3 = (-1) then ((mm_longest x5_99 a2 G_99).bind fun r108 => some (r108.1, r108.2)) else ((mm_deskOf x5_99 a2 a3 G_99).bind fun v119 => some (v119, G_99))) FU 0 1 G_32) (fun x4_59 => ?_) FU 1 0)
  refine j_iconst dX11_desks_59 r32_0 ?_
  refine j_istore dX11_desks_60 (Nat.le_of_ble_eq_true rfl) rfl ?_
  refine j_iconst dX11_desks_62 r32_1 ?_
  refine j_istore dX11_desks_63 (Nat.le_of_ble_eq_true rfl) rfl ?_
  refine j_mask [true, false, true, true, true, true, true] rfl (mm_desks_L65_J a1 a2 a3 x4_59 (fun x5_99 G_99 => if a3 = (-1) then ((mm_longest x5_99 a2 G_99).bind fun r108 => some (r108.1, r108.2)) else ((mm_deskOf x5_99 a2 a3 G_99).bind fun v119 => some (v119, G_99))) (fun x5_99 G_99 => ?_) FU 0 1 G_32)
  refine j_iload_n dX11_desks_99 rfl rfl ?_
  refine j_iconst dX11_desks_100 r32_m1 ?_
  refine j_icmp_ne (tgt := 114) dX11_desks_101 rfl (fun h101 => ?_) (fun h101 => ?_)
  · refine j_aload_n dX11_desks_104 rfl rfl ?_
    refine j_iload dX11_desks_105 rfl ?_
    refine j_iload_n dX11_desks_107 rfl rfl ?_
    refine j_cVWi dX11_desks_108 im_mm_longest lk_X11_308 rfl (As := [(0, x5_99), (0, a2)]) (S := []) rfl om_201.1 ⟨by decide, by decide⟩ (Nat.le_of_ble_eq_true rfl) (fun r hr => mm_longest_ct x5_99 a2 G_99 hr) (fun r108 _ => ?_)
    refine j_goto (tgt := 122) dX11_desks_111 rfl ?_
    exact j_ireturn dX11_desks_122 rfl rfl (Nat.zero_le _) (Nat.zero_le _)
  · refine j_aload_n dX11_desks_114 rfl rfl ?_
    refine j_iload dX11_desks_115 rfl ?_
    refine j_iload_n dX11_desks_117 rfl rfl ?_
    refine j_iload_n dX11_desks_118 rfl rfl ?_
    refine j_cVRi dX11_desks_119 im_mm_deskOf lk_X11_304 rfl (As := [(0, x5_99), (0, a2), (0, a3)]) (S := []) rfl om_201.1 ⟨by decide, by decide⟩ (Nat.le_of_ble_eq_true rfl) (fun r hr => mm_deskOf_ct x5_99 a2 a3 G_99 hr) (fun v119 _ => ?_)
    exact j_ireturn dX11_desks_122 rfl rfl (Nat.zero_le _) (Nat.zero_le _)

set_option maxRecDepth 100000 in
theorem mm_desks_J {l : Launch} {H : Hp} (a1 : Int) (a2 : Int) (a3 : Int) (G : Hp) : J l M_mm_desks (KWi (fun g => fu H g)) (mm_desks a1 a2 a3 G) 0 [(2, 201), (0, a1), (0, a2), (0, a3), (9, 0), (9, 0), (9, 0)] [] 224 (fu H G) (0, 0) := by
  unfold mm_desks
  refine j_aload_n dX11_desks_0 rfl rfl ?_
  refine j_iload_n dX11_desks_1 rfl rfl ?_
  refine j_cVWb dX11_desks_2 im_mm_isPaper lk_X11_209 rfl (As := [(0, a1)]) (S := []) rfl om_201.1 ⟨by decide, by decide⟩ (Nat.le_of_ble_eq_true rfl) (fun r hr => mm_isPaper_ct a1 G hr) (fun r2 _ => ?_)
  refine j_ifb_eq (tgt := 30) dX11_desks_5 rfl (fun h5 => ?_) (fun h5 => ?_)
  · refine j_iload_n dX11_desks_8 rfl rfl ?_
    refine j_iconst dX11_desks_9 r32_1 ?_
    refine j_iconst dX11_desks_10 r32_3 ?_
    refine j_cSRbp dX11_desks_11 sm_mm_isIn lk_X11_132 rfl (As := [(0, a2), (0, 1), (0, 3)]) (S := []) rfl ⟨by decide, by decide⟩ (Nat.le_of_ble_eq_true rfl) (mm_isIn_ct a2 1 3) ?_
    refine j_ifb_eq (tgt := 30) dX11_desks_14 rfl (fun h14 => ?_) (fun h14 => ?_)
    · refine j_iload_n dX11_desks_17 rfl rfl ?_
      refine j_iconst dX11_desks_18 r32_m1 ?_
      refine j_icmp_eq (tgt := 32) dX11_desks_19 rfl (fun h19 => ?_) (fun h19 => ?_)
      · exact j_mask [true, false, true, true, false, false, false] rfl (mm_desks_j32_J a1 a2 a3 r2.2)
      · refine j_aload_n dX11_desks_22 rfl rfl ?_
        refine j_iload_n dX11_desks_23 rfl rfl ?_
        refine j_cVRb dX11_desks_24 im_mm_isReader lk_X11_218 rfl (As := [(0, a3)]) (S := []) rfl om_201.1 ⟨by decide, by decide⟩ (Nat.le_of_ble_eq_true rfl) (fun r hr => mm_isReader_ct a3 r2.2 hr) (fun v24 _ => ?_)
        refine j_ifb_ne (tgt := 32) dX11_desks_27 rfl (fun h27 => ?_) (fun h27 => ?_)
        · exact j_mask [true, false, true, true, false, false, false] rfl (mm_desks_j32_J a1 a2 a3 r2.2)
        · refine j_iconst dX11_desks_30 r32_m1 ?_
          exact j_ireturn dX11_desks_31 rfl rfl (Nat.zero_le _) (Nat.zero_le _)
    · refine j_iconst dX11_desks_30 r32_m1 ?_
      exact j_ireturn dX11_desks_31 rfl rfl (Nat.zero_le _) (Nat.zero_le _)
  · refine j_iconst dX11_desks_30 r32_m1 ?_
    exact j_ireturn dX11_desks_31 rfl rfl (Nat.zero_le _) (Nat.zero_le _)

set_option maxRecDepth 100000 in
theorem mm_desks_ct {l : Launch} {H : Hp} (a1 : Int) (a2 : Int) (a3 : Int) (G : Hp) {r : Int × Hp} (h : mm_desks a1 a2 a3 G = some r) : Ct l M_mm_desks [(2, 201), (0, a1), (0, a2), (0, a3)] 224 (fu H G) ((KWi (fun g => fu H g)) r) :=
  ct_of_J (by decide +kernel) rfl (Nat.le_of_ble_eq_true rfl) (mm_desks_J a1 a2 a3 G) h
set_option maxRecDepth 100000 in
theorem mm_laysTurn_J {l : Launch} {H : Hp} (a1 : Int) (G : Hp) : J l M_mm_laysTurn (KWv (fun g => fu H g)) (mm_laysTurn a1 G) 0 [(2, 201), (0, a1)] [] 224 (fu H G) (0, 0) := by
  unfold mm_laysTurn
  refine j_aload_n dX11_laysTurn_0 rfl rfl ?_
  refine j_grm dX11_laysTurn_1 gf_X11_53 om_201 (Or.inl (by decide)) rf_201_32 ?_
  refine j_iload_n dX11_laysTurn_4 rfl rfl ?_
  refine j_iconst dX11_laysTurn_5 r32_m1 ?_
  refine j_gd (fun h6a h6b => ?_)
  refine j_sim dX11_laysTurn_6 om_216 rfl h6a h6b ?_
  refine j_aload_n dX11_laysTurn_7 rfl rfl ?_
  refine j_grm dX11_laysTurn_8 gf_X11_59 om_201 (Or.inl (by decide)) rf_201_34 ?_
  refine j_iload_n dX11_laysTurn_11 rfl rfl ?_
  refine j_ldcw dX11_laysTurn_12 cs_X11_311 r32_99999999 ?_
  refine j_gd (fun h15a h15b => ?_)
  refine j_sim dX11_laysTurn_15 om_218 rfl h15a h15b ?_
  exact j_return dX11_laysTurn_16 rfl rfl (Nat.zero_le _) (Nat.zero_le _)

set_option maxRecDepth 100000 in
theorem mm_laysTurn_ct {l : Launch} {H : Hp} (a1 : Int) (G : Hp) {r : Hp} (h : mm_laysTurn a1 G = some r) : Ct l M_mm_laysTurn [(2, 201), (0, a1)] 224 (fu H G) ((KWv (fun g => fu H g)) r) :=
  ct_of_J (by decide +kernel) rfl (Nat.le_of_ble_eq_true rfl) (mm_laysTurn_J a1 G) h
set_option maxRecDepth 100000 in
theorem mm_puts_J {l : Launch} {H : Hp} (a1 : Int) (a2 : Int) (a3 : Int) (G : Hp) : J l M_mm_puts (KWv (fun g => fu H g)) (mm_puts a1 a2 a3 G) 0 [(2, 201), (0, a1), (0, a2), (0, a3)] [] 224 (fu H G) (0, 0) := by
  unfold mm_puts
  refine j_aload_n dX11_puts_0 rfl rfl ?_
  refine j_grm dX11_puts_1 gf_X11_53 om_201 (Or.inl (by decide)) rf_201_32 ?_
  refine j_iload_n dX11_puts_4 rfl rfl ?_
  refine j_iload_n dX11_puts_5 rfl rfl ?_
  refine j_gd (fun h6a h6b => ?_)
  refine j_sim dX11_puts_6 om_216 rfl h6a h6b ?_
  refine j_iload_n dX11_puts_7 rfl rfl ?_
  refine j_bipush dX11_puts_8 r32_8 bp_8 ?_
  refine j_icmp_ne (tgt := 14) dX11_puts_10 rfl (fun h10 => ?_) (fun h10 => ?_)
  · exact j_return dX11_puts_13 rfl rfl (Nat.zero_le _) (Nat.zero_le _)
  · refine j_aload_n dX11_puts_14 rfl rfl ?_
    refine j_grm dX11_puts_15 gf_X11_56 om_201 (Or.inl (by decide)) rf_201_33 ?_
    refine j_iload_n dX11_puts_18 rfl rfl ?_
    refine j_aload_n dX11_puts_19 rfl rfl ?_
    refine j_grm dX11_puts_20 gf_X11_26 om_201 (Or.inl (by decide)) rf_201_23 ?_
    refine j_iload_n dX11_puts_23 rfl rfl ?_
    refine j_gd (fun h24a h24b => ?_)
    refine j_aim dX11_puts_24 om_207 rfl h24a h24b ?_
    refine j_gd (fun h25a h25b => ?_)
    refine j_sim dX11_puts_25 om_217 rfl h25a h25b ?_
    refine j_aload_n dX11_puts_26 rfl rfl ?_
    refine j_grm dX11_puts_27 gf_X11_26 om_201 (Or.inl (by decide)) rf_201_23 ?_
    refine j_iload_n dX11_puts_30 rfl rfl ?_
    refine j_aload_n dX11_puts_31 rfl rfl ?_
    refine j_iload_n dX11_puts_32 rfl rfl ?_
    refine j_iload_n dX11_puts_33 rfl rfl ?_
    refine j_cVRi dX11_puts_34 im_mm_putOf lk_X11_263 rfl (As := [(0, a3), (0, a2)]) (S := [(0, a2), (2, 207)]) rfl om_201.1 ⟨by decide, by decide⟩ (Nat.le_of_ble_eq_true rfl) (fun r hr => mm_putOf_ct a3 a2 (upd2 (upd2 G 216 a1 a2) 217 a1 ((upd2 G 216 a1 a2) 207 a2)) hr) (fun v34 _ => ?_)
    refine j_gd (fun h37a h37b => ?_)
    refine j_sim dX11_puts_37 om_207 rfl h37a h37b ?_
    exact j_return dX11_puts_38 rfl rfl (Nat.zero_le _) (Nat.zero_le _)

set_option maxRecDepth 100000 in
theorem mm_puts_ct {l : Launch} {H : Hp} (a1 : Int) (a2 : Int) (a3 : Int) (G : Hp) {r : Hp} (h : mm_puts a1 a2 a3 G = some r) : Ct l M_mm_puts [(2, 201), (0, a1), (0, a2), (0, a3)] 224 (fu H G) ((KWv (fun g => fu H g)) r) :=
  ct_of_J (by decide +kernel) rfl (Nat.le_of_ble_eq_true rfl) (mm_puts_J a1 a2 a3 G) h
set_option maxRecDepth 100000 in
theorem mm_comesBack_j70_J {l : Launch} {H : Hp} (a1 : Int) (a2 : Int) (G_70 : Hp) : J l M_mm_comesBack (KWv (fun g => fu H g)) (mm_comesBack_j70 a1 a2  G_70) 70 [(2, 201), (0, a1), (0, a2)] [] 224 (fu H G_70) (0, 0) := by
  unfold mm_comesBack_j70
  refine j_aload_n dX11_comesBack_70 rfl rfl ?_
  refine j_grm dX11_comesBack_71 gf_X11_59 om_201 (Or.inl (by decide)) rf_201_34 ?_
  refine j_iload_n dX11_comesBack_74 rfl rfl ?_
  refine j_iload_n dX11_comesBack_75 rfl rfl ?_
  refine j_gd (fun h76a h76b => ?_)
  refine j_sim dX11_comesBack_76 om_218 rfl h76a h76b ?_
  refine j_iload_n dX11_comesBack_77 rfl rfl ?_
  refine j_if_ne (tgt := 91) dX11_comesBack_78 rfl (fun h78 => ?_) (fun h78 => ?_)
  · refine j_aload_n dX11_comesBack_81 rfl rfl ?_
    refine j_aload_n dX11_comesBack_82 rfl rfl ?_
    refine j_grm dX11_comesBack_83 gf_X11_53 om_201 (Or.inl (by decide)) rf_201_32 ?_
    refine j_iconst dX11_comesBack_86 r32_0 ?_
    refine j_aim dX11_comesBack_87 om_216 rfl (by decide) (by decide) ?_
    refine j_pim dX11_comesBack_88 gf_X11_312 po_11_35 om_201 (nf_11_35 _) ?_
    exact j_return dX11_comesBack_91 rfl rfl (Nat.zero_le _) (Nat.zero_le _)
  · exact j_return dX11_comesBack_91 rfl rfl (Nat.zero_le _) (Nat.zero_le _)

set_option maxRecDepth 100000 in
theorem mm_comesBack_j28_J {l : Launch} {H : Hp} (a1 : Int) (a2 : Int) (G_28 : Hp) : J l M_mm_comesBack (KWv (fun g => fu H g)) (mm_comesBack_j28 a1 a2  G_28) 28 [(2, 201), (0, a1), (0, a2)] [] 224 (fu H G_28) (0, 0) := by
  unfold mm_comesBack_j28
  refine j_aload_n dX11_comesBack_28 rfl rfl ?_
  refine j_grm dX11_comesBack_29 gf_X11_59 om_201 (Or.inl (by decide)) rf_201_34 ?_
  refine j_iload_n dX11_comesBack_32 rfl rfl ?_
  refine j_gd (fun h33a h33b => ?_)
  refine j_aim dX11_comesBack_33 om_218 rfl h33a h33b ?_
  refine j_ldcw dX11_comesBack_34 cs_X11_311 r32_99999999 ?_
  refine j_icmp_eq (tgt := 70) dX11_comesBack_37 rfl (fun h37 => ?_) (fun h37 => ?_)
  · exact j_mask [true, true, true] rfl (mm_comesBack_j70_J a1 a2 G_28)
  · refine j_iload_n dX11_comesBack_40 rfl rfl ?_
    refine j_iconst dX11_comesBack_41 r32_2 ?_
    refine j_irem dX11_comesBack_42 (by decide) ?_
    refine j_if_ne (tgt := 59) dX11_comesBack_43 rfl (fun h43 => ?_) (fun h43 => ?_)
    · refine j_iload_n dX11_comesBack_46 rfl rfl ?_
      refine j_aload_n dX11_comesBack_47 rfl rfl ?_
      refine j_grm dX11_comesBack_48 gf_X11_59 om_201 (Or.inl (by decide)) rf_201_34 ?_
      refine j_iload_n dX11_comesBack_51 rfl rfl ?_
      refine j_gd (fun h52a h52b => ?_)
      refine j_aim dX11_comesBack_52 om_218 rfl h52a h52b ?_
      refine j_icmp_gt (tgt := 70) dX11_comesBack_53 rfl (fun h53 => ?_) (fun h53 => ?_)
      · refine j_goto (tgt := 69) dX11_comesBack_56 rfl ?_
        exact j_return dX11_comesBack_69 rfl rfl (Nat.zero_le _) (Nat.zero_le _)
      · exact j_mask [true, true, true] rfl (mm_comesBack_j70_J a1 a2 G_28)
    · refine j_iload_n dX11_comesBack_59 rfl rfl ?_
      refine j_aload_n dX11_comesBack_60 rfl rfl ?_
      refine j_grm dX11_comesBack_61 gf_X11_59 om_201 (Or.inl (by decide)) rf_201_34 ?_
      refine j_iload_n dX11_comesBack_64 rfl rfl ?_
      refine j_gd (fun h65a h65b => ?_)
      refine j_aim dX11_comesBack_65 om_218 rfl h65a h65b ?_
      refine j_icmp_lt (tgt := 70) dX11_comesBack_66 rfl (fun h66 => ?_) (fun h66 => ?_)
      · exact j_return dX11_comesBack_69 rfl rfl (Nat.zero_le _) (Nat.zero_le _)
      · exact j_mask [true, true, true] rfl (mm_comesBack_j70_J a1 a2 G_28)

set_option maxRecDepth 100000 in
theorem mm_comesBack_J {l : Launch} {H : Hp} (a1 : Int) (a2 : Int) (G : Hp) : J l M_mm_comesBack (KWv (fun g => fu H g)) (mm_comesBack a1 a2 G) 0 [(2, 201), (0, a1), (0, a2)] [] 224 (fu H G) (0, 0) := by
  unfold mm_comesBack
  refine j_aload_n dX11_comesBack_0 rfl rfl ?_
  refine j_grm dX11_comesBack_1 gf_X11_53 om_201 (Or.inl (by decide)) rf_201_32 ?_
  refine j_iload_n dX11_comesBack_4 rfl rfl ?_
  refine j_gd (fun h5a h5b => ?_)
  refine j_aim dX11_comesBack_5 om_216 rfl h5a h5b ?_
  refine j_bipush dX11_comesBack_6 r32_8 bp_8 ?_
  refine j_icmp_ge (tgt := 28) dX11_comesBack_8 rfl (fun h8 => ?_) (fun h8 => ?_)
  · refine j_aload_n dX11_comesBack_11 rfl rfl ?_
    refine j_grm dX11_comesBack_12 gf_X11_26 om_201 (Or.inl (by decide)) rf_201_23 ?_
    refine j_aload_n dX11_comesBack_15 rfl rfl ?_
    refine j_grm dX11_comesBack_16 gf_X11_53 om_201 (Or.inl (by decide)) rf_201_32 ?_
    refine j_iload_n dX11_comesBack_19 rfl rfl ?_
    refine j_gd (fun h20a h20b => ?_)
    refine j_aim dX11_comesBack_20 om_216 rfl h20a h20b ?_
    refine j_aload_n dX11_comesBack_21 rfl rfl ?_
    refine j_grm dX11_comesBack_22 gf_X11_56 om_201 (Or.inl (by decide)) rf_201_33 ?_
    refine j_iload_n dX11_comesBack_25 rfl rfl ?_
    refine j_gd (fun h26a h26b => ?_)
    refine j_aim dX11_comesBack_26 om_217 rfl h26a h26b ?_
    refine j_gd (fun h27a h27b => ?_)
    refine j_sim dX11_comesBack_27 om_207 rfl h27a h27b ?_
    exact j_mask [true, true, true] rfl (mm_comesBack_j28_J a1 a2 (upd2 G 207 (G 216 a1) (G 217 a1)))
  · exact j_mask [true, true, true] rfl (mm_comesBack_j28_J a1 a2 G)

set_option maxRecDepth 100000 in
theorem mm_comesBack_ct {l : Launch} {H : Hp} (a1 : Int) (a2 : Int) (G : Hp) {r : Hp} (h : mm_comesBack a1 a2 G = some r) : Ct l M_mm_comesBack [(2, 201), (0, a1), (0, a2)] 224 (fu H G) ((KWv (fun g => fu H g)) r) :=
  ct_of_J (by decide +kernel) rfl (Nat.le_of_ble_eq_true rfl) (mm_comesBack_J a1 a2 G) h
set_option maxRecDepth 100000 in
theorem mm_quarrelOf_L49_J {l : Launch} {H : Hp} (a1 : Int) (a2 : Int) (a3 : Int) (x4_49 : Int) (x5_49 : Int) (G_49 : Hp) (k83 : Int → Option (Int × Hp)) (hk83 : ∀ (x6_83 : Int), J l M_mm_quarrelOf (KWi (fun g => fu H g)) (k83 x6_83) 83 [(2, 201), (0, a1), (0, a2), (0, a3), (0, x4_49), (0, x5_49), (0, x6_83)] [] 224 (fu H G_49) (0, 0)) : ∀ (n_49 : Nat) (x6_49 : Int), J l M_mm_quarrelOf (KWi (fun g => fu H g)) (mm_quarrelOf_L49 a1 a2 a3 x4_49 x5_49 G_49 k83 n_49 x6_49) 49 [(2, 201), (0, a1), (0, a2), (0, a3), (0, x4_49), (0, x5_49), (0, x6_49)] [] 224 (fu H G_49) (0, 0) := by
  intro n_49
  induction n_49 with
  | zero =>
    intro x6_49
    exact j_none
  | succ n_49 ih =>
    intro x6_49
    rw [mm_quarrelOf_L49]
    refine j_iload dX11_quarrelOf_49 rfl ?_
    refine j_bipush dX11_quarrelOf_51 r32_8 bp_8 ?_
    refine j_icmp_ge (tgt := 83) dX11_quarrelOf_53 rfl (fun h53 => ?_) (fun h53 => ?_)
    · refine j_aload_n dX11_quarrelOf_56 rfl rfl ?_
      refine j_iload dX11_quarrelOf_57 rfl ?_
      refine j_cVRb dX11_quarrelOf_59 im_mm_isPlace lk_X11_212 rfl (As := [(0, x6_49)]) (S := []) rfl om_201.1 ⟨by decide, by decide⟩ (Nat.le_of_ble_eq_true rfl) (fun r hr => mm_isPlace_ct x6_49 G_49 hr) (fun v59 _ => ?_)
      refine j_ifb_eq (tgt := 77) dX11_quarrelOf_62 rfl (fun h62 => ?_) (fun h62 => ?_)
      · refine j_aload_n dX11_quarrelOf_65 rfl rfl ?_
        refine j_iload dX11_quarrelOf_66 rfl ?_
        refine j_iload dX11_quarrelOf_68 rfl ?_
        refine j_cVRi dX11_quarrelOf_70 im_mm_putOf lk_X11_263 rfl (As := [(0, x5_49), (0, x6_49)]) (S := []) rfl om_201.1 ⟨by decide, by decide⟩ (Nat.le_of_ble_eq_true rfl) (fun r hr => mm_putOf_ct x5_49 x6_49 G_49 hr) (fun v70 _ => ?_)
        refine j_iconst dX11_quarrelOf_73 r32_m1 ?_
        refine j_icmp_ne (tgt := 83) dX11_quarrelOf_74 rfl (fun h74 => ?_) (fun h74 => ?_)
        · refine j_iinc dX11_quarrelOf_77 rfl (Nat.le_of_ble_eq_true rfl) rfl ?_
          refine j_goto (tgt := 49) dX11_quarrelOf_80 rfl ?_
          exact j_mask [true, true, true, true, true, true, true] rfl (ih (w32 (x6_49 + 1)))
        · exact j_mask [true, true, true, true, true, true, true] rfl (hk83 x6_49)
      · refine j_iinc dX11_quarrelOf_77 rfl (Nat.le_of_ble_eq_true rfl) rfl ?_
        refine j_goto (tgt := 49) dX11_quarrelOf_80 rfl ?_
        exact j_mask [true, true, true, true, true, true, true] rfl (ih (w32 (x6_49 + 1)))
    · exact j_mask [true, true, true, true, true, true, true] rfl (hk83 x6_49)

set_option maxRecDepth 100000 in
theorem mm_quarrelOf_j114_J {l : Launch} {H : Hp} (a1 : Int) (a2 : Int) (a3 : Int) (k8 : Int → Hp → Option (Int × Hp)) (hk8 : ∀ (x4_8 : Int) (G_8 : Hp), J l M_mm_quarrelOf (KWi (fun g => fu H g)) (k8 x4_8 G_8) 8 [(2, 201), (0, a1), (0, a2), (0, a3), (0, x4_8), (9, 0), (9, 0)] [] 224 (fu H G_8) (0, 0)) (x4_114 : Int) (G_114 : Hp) : J l M_mm_quarrelOf (KWi (fun g => fu H g)) (mm_quarrelOf_j114 a1 a2 a3 k8 x4_114 G_114) 114 [(2, 201), (0, a1), (0, a2), (0, a3), (0, x4_114), (9, 0), (9, 0)] [] 224 (fu H G_114) (0, 0) := by
  unfold mm_quarrelOf_j114
  refine j_iinc dX11_quarrelOf_114 rfl (Nat.le_of_ble_eq_true rfl) rfl ?_
  refine j_iload dX11_quarrelOf_117 rfl ?_
  refine j_if_lt (tgt := 8) dX11_quarrelOf_119 rfl (fun h119 => ?_) (fun h119 => ?_)
  · exact j_mask [true, true, true, true, true, false, false] rfl (hk8 (w32 (x4_114 + (-1))) G_114)
  · refine j_aload_n dX11_quarrelOf_122 rfl rfl ?_
    refine j_iload dX11_quarrelOf_123 rfl ?_
    refine j_aload_n dX11_quarrelOf_125 rfl rfl ?_
    refine j_grm dX11_quarrelOf_126 gf_X11_59 om_201 (Or.inl (by decide)) rf_201_34 ?_
    refine j_iload dX11_quarrelOf_129 rfl ?_
    refine j_iconst dX11_quarrelOf_131 r32_1 ?_
    refine j_iadd dX11_quarrelOf_132 ?_
    refine j_gd (fun h133a h133b => ?_)
    refine j_aim dX11_quarrelOf_133 om_218 rfl h133a h133b ?_
    refine j_cVWv dX11_quarrelOf_134 im_mm_comesBack lk_X11_318 rfl (As := [(0, w32 (x4_114 + (-1))), (0, G_114 218 (w32 ((w32 (x4_114 + (-1))) + 1)))]) (S := []) rfl om_201.1 ⟨by decide, by decide⟩ (Nat.le_of_ble_eq_true rfl) (fun r hr => mm_comesBack_ct (w32 (x4_114 + (-1))) (G_114 218 (w32 ((w32 (x4_114 + (-1))) + 1))) G_114 hr) (fun G134 _ => ?_)
    refine j_goto (tgt := 8) dX11_quarrelOf_137 rfl ?_
    exact j_mask [true, true, true, true, true, false, false] rfl (hk8 (w32 (x4_114 + (-1))) G134)

set_option maxRecDepth 100000 in
theorem mm_quarrelOf_j47_J {l : Launch} {H : Hp} (a1 : Int) (a2 : Int) (a3 : Int) (k8 : Int → Hp → Option (Int × Hp)) (hk8 : ∀ (x4_8 : Int) (G_8 : Hp), J l M_mm_quarrelOf (KWi (fun g => fu H g)) (k8 x4_8 G_8) 8 [(2, 201), (0, a1), (0, a2), (0, a3), (0, x4_8), (9, 0), (9, 0)] [] 224 (fu H G_8) (0, 0)) (x4_47 : Int) (x5_47 : Int) (s0_47 : Int) (G_47 : Hp) : J l M_mm_quarrelOf (KWi (fun g => fu H g)) (mm_quarrelOf_j47 a1 a2 a3 k8 x4_47 x5_47 s0_47 G_47) 47 [(2, 201), (0, a1), (0, a2), (0, a3), (0, x4_47), (0, x5_47), (9, 0)] [(0, s0_47)] 224 (fu H G_47) (0, 0) := by
  unfold mm_quarrelOf_j47
  refine j_istore dX11_quarrelOf_47 (Nat.le_of_ble_eq_true rfl) rfl ?_
  refine j_mask [true, true, true, true, true, true, true] rfl (mm_quarrelOf_L49_J a1 a2 a3 x4_47 x5_47 G_47 (fun x6_83 => if 8 < x6_83 then (if x4_47 = a3 then ((mm_contentOf a1 G_47).bind fun v104 => (mm_contentOf a2 G_47).bind fun v109 => gd x4_47 5 (mm_quarrelOf_j114 a1 a2 a3 k8 x4_47 (upd2 G_47 218 x4_47 (w32 (v104 - v109))))) else mm_quarrelOf_j114 a1 a2 a3 k8 x4_47 G_47) else ((mm_puts x4_47 x6_83 x5_47 G_47).bind fun G147 => (mm_laysTurn (w32 (x4_47 + 1)) G147).bind fun G156 => k8 (w32 (x4_47 + 1)) G156)) (fun x6_83 => ?_) FU s0_47)
  refine j_iload dX11_quarrelOf_83 rfl ?_
  refine j_bipush dX11_quarrelOf_85 r32_8 bp_8 ?_
  refine j_icmp_le (tgt := 140) dX11_quarrelOf_87 rfl (fun h87 => ?_) (fun h87 => ?_)
  · refine j_iload dX11_quarrelOf_90 rfl ?_
    refine j_iload_n dX11_quarrelOf_92 rfl rfl ?_
    refine j_icmp_ne (tgt := 114) dX11_quarrelOf_93 rfl (fun h93 => ?_) (fun h93 => ?_)
    · refine j_aload_n dX11_quarrelOf_96 rfl rfl ?_
      refine j_grm dX11_quarrelOf_97 gf_X11_59 om_201 (Or.inl (by decide)) rf_201_34 ?_
      refine j_iload dX11_quarrelOf_100 rfl ?_
      refine j_aload_n dX11_quarrelOf_102 rfl rfl ?_
      refine j_iload_n dX11_quarrelOf_103 rfl rfl ?_
      refine j_cVRi dX11_quarrelOf_104 im_mm_contentOf lk_X11_266 rfl (As := [(0, a1)]) (S := [(0, x4_47), (2, 218)]) rfl om_201.1 ⟨by decide, by decide⟩ (Nat.le_of_ble_eq_true rfl) (fun r hr => mm_contentOf_ct a1 G_47 hr) (fun v104 _ => ?_)
      refine j_aload_n dX11_quarrelOf_107 rfl rfl ?_
      refine j_iload_n dX11_quarrelOf_108 rfl rfl ?_
      refine j_cVRi dX11_quarrelOf_109 im_mm_contentOf lk_X11_266 rfl (As := [(0, a2)]) (S := [(0, v104), (0, x4_47), (2, 218)]) rfl om_201.1 ⟨by decide, by decide⟩ (Nat.le_of_ble_eq_true rfl) (fun r hr => mm_contentOf_ct a2 G_47 hr) (fun v109 _ => ?_)
      refine j_isub dX11_quarrelOf_112 ?_
      refine j_gd (fun h113a h113b => ?_)
      refine j_sim dX11_quarrelOf_113 om_218 rfl h113a h113b ?_
      exact j_mask [true, true, true, true, true, false, false] rfl (mm_quarrelOf_j114_J a1 a2 a3  k8 hk8 x4_47 (upd2 G_47 218 x4_47 (w32 (v104 - v109))))
    · exact j_mask [true, true, true, true, true, false, false] rfl (mm_quarrelOf_j114_J a1 a2 a3  k8 hk8 x4_47 G_47)
  · refine j_aload_n dX11_quarrelOf_140 rfl rfl ?_
    refine j_iload dX11_quarrelOf_141 rfl ?_
    refine j_iload dX11_quarrelOf_143 rfl ?_
    refine j_iload dX11_quarrelOf_145 rfl ?_
    refine j_cVWv dX11_quarrelOf_147 im_mm_puts lk_X11_321 rfl (As := [(0, x4_47), (0, x6_83), (0, x5_47)]) (S := []) rfl om_201.1 ⟨by decide, by decide⟩ (Nat.le_of_ble_eq_true rfl) (fun r hr => mm_puts_ct x4_47 x6_83 x5_47 G_47 hr) (fun G147 _ => ?_)
    refine j_iinc dX11_quarrelOf_150 rfl (Nat.le_of_ble_eq_true rfl) rfl ?_
    refine j_aload_n dX11_quarrelOf_153 rfl rfl ?_
    refine j_iload dX11_quarrelOf_154 rfl ?_
    refine j_cVWv dX11_quarrelOf_156 im_mm_laysTurn lk_X11_315 rfl (As := [(0, w32 (x4_47 + 1))]) (S := []) rfl om_201.1 ⟨by decide, by decide⟩ (Nat.le_of_ble_eq_true rfl) (fun r hr => mm_laysTurn_ct (w32 (x4_47 + 1)) G147 hr) (fun G156 _ => ?_)
    refine j_goto (tgt := 8) dX11_quarrelOf_159 rfl ?_
    exact j_mask [true, true, true, true, true, false, false] rfl (hk8 (w32 (x4_47 + 1)) G156)

set_option maxRecDepth 100000 in
theorem mm_quarrelOf_j25_J {l : Launch} {H : Hp} (a1 : Int) (a2 : Int) (a3 : Int) (k8 : Int → Hp → Option (Int × Hp)) (hk8 : ∀ (x4_8 : Int) (G_8 : Hp), J l M_mm_quarrelOf (KWi (fun g => fu H g)) (k8 x4_8 G_8) 8 [(2, 201), (0, a1), (0, a2), (0, a3), (0, x4_8), (9, 0), (9, 0)] [] 224 (fu H G_8) (0, 0)) (x4_25 : Int) (s0_25 : Int) (G_25 : Hp) : J l M_mm_quarrelOf (KWi (fun g => fu H g)) (mm_quarrelOf_j25 a1 a2 a3 k8 x4_25 s0_25 G_25) 25 [(2, 201), (0, a1), (0, a2), (0, a3), (0, x4_25), (9, 0), (9, 0)] [(0, s0_25)] 224 (fu H G_25) (0, 0) := by
  unfold mm_quarrelOf_j25
  refine j_istore dX11_quarrelOf_25 (Nat.le_of_ble_eq_true rfl) rfl ?_
  refine j_iload dX11_quarrelOf_27 rfl ?_
  refine j_iload_n dX11_quarrelOf_29 rfl rfl ?_
  refine j_icmp_ne (tgt := 38) dX11_quarrelOf_30 rfl (fun h30 => ?_) (fun h30 => ?_)
  · refine j_bipush dX11_quarrelOf_33 r32_9 bp_9 ?_
    refine j_goto (tgt := 47) dX11_quarrelOf_35 rfl ?_
    exact j_mask [true, true, true, true, true, true, false] rfl (mm_quarrelOf_j47_J a1 a2 a3  k8 hk8 x4_25 s0_25 9 G_25)
  · refine j_aload_n dX11_quarrelOf_38 rfl rfl ?_
    refine j_grm dX11_quarrelOf_39 gf_X11_53 om_201 (Or.inl (by decide)) rf_201_32 ?_
    refine j_iload dX11_quarrelOf_42 rfl ?_
    refine j_gd (fun h44a h44b => ?_)
    refine j_aim dX11_quarrelOf_44 om_216 rfl h44a h44b ?_
    refine j_iconst dX11_quarrelOf_45 r32_1 ?_
    refine j_iadd dX11_quarrelOf_46 ?_
    exact j_mask [true, true, true, true, true, true, false] rfl (mm_quarrelOf_j47_J a1 a2 a3  k8 hk8 x4_25 s0_25 (w32 ((G_25 216 x4_25) + 1)) G_25)

set_option maxRecDepth 100000 in
theorem mm_quarrelOf_L8_J {l : Launch} {H : Hp} (a1 : Int) (a2 : Int) (a3 : Int) : ∀ (n_8 : Nat) (x4_8 : Int) (G_8 : Hp), J l M_mm_quarrelOf (KWi (fun g => fu H g)) (mm_quarrelOf_L8 a1 a2 a3  n_8 x4_8 G_8) 8 [(2, 201), (0, a1), (0, a2), (0, a3), (0, x4_8), (9, 0), (9, 0)] [] 224 (fu H G_8) (0, 0) := by
  intro n_8
  induction n_8 with
  | zero =>
    intro x4_8 G_8
    exact j_none
  | succ n_8 ih =>
    intro x4_8 G_8
    rw [mm_quarrelOf_L8]
    refine j_iload dX11_quarrelOf_8 rfl ?_
    refine j_if_lt (tgt := 162) dX11_quarrelOf_10 rfl (fun h10 => ?_) (fun h10 => ?_)
    · refine j_aload_n dX11_quarrelOf_162 rfl rfl ?_
      refine j_grm dX11_quarrelOf_163 gf_X11_59 om_201 (Or.inl (by decide)) rf_201_34 ?_
      refine j_iconst dX11_quarrelOf_166 r32_0 ?_
      refine j_aim dX11_quarrelOf_167 om_218 rfl (by decide) (by decide) ?_
      exact j_ireturn dX11_quarrelOf_168 rfl rfl (Nat.zero_le _) (Nat.zero_le _)
    · refine j_iload dX11_quarrelOf_13 rfl ?_
      refine j_iconst dX11_quarrelOf_15 r32_2 ?_
      refine j_irem dX11_quarrelOf_16 (by decide) ?_
      refine j_if_ne (tgt := 24) dX11_quarrelOf_17 rfl (fun h17 => ?_) (fun h17 => ?_)
      · refine j_iload_n dX11_quarrelOf_20 rfl rfl ?_
        refine j_goto (tgt := 25) dX11_quarrelOf_21 rfl ?_
        exact j_mask [true, true, true, true, true, false, false] rfl (mm_quarrelOf_j25_J a1 a2 a3  (mm_quarrelOf_L8 a1 a2 a3 n_8) ih x4_8 a1 G_8)
      · refine j_iload_n dX11_quarrelOf_24 rfl rfl ?_
        exact j_mask [true, true, true, true, true, false, false] rfl (mm_quarrelOf_j25_J a1 a2 a3  (mm_quarrelOf_L8 a1 a2 a3 n_8) ih x4_8 a2 G_8)

set_option maxRecDepth 100000 in
theorem mm_quarrelOf_J {l : Launch} {H : Hp} (a1 : Int) (a2 : Int) (a3 : Int) (G : Hp) : J l M_mm_quarrelOf (KWi (fun g => fu H g)) (mm_quarrelOf a1 a2 a3 G) 0 [(2, 201), (0, a1), (0, a2), (0, a3), (9, 0), (9, 0), (9, 0)] [] 224 (fu H G) (0, 0) := by
  unfold mm_quarrelOf
  refine j_iconst dX11_quarrelOf_0 r32_0 ?_
  refine j_istore dX11_quarrelOf_1 (Nat.le_of_ble_eq_true rfl) rfl ?_
  refine j_aload_n dX11_quarrelOf_3 rfl rfl ?_
  refine j_iconst dX11_quarrelOf_4 r32_0 ?_
  refine j_cVWv dX11_quarrelOf_5 im_mm_laysTurn lk_X11_315 rfl (As := [(0, 0)]) (S := []) rfl om_201.1 ⟨by decide, by decide⟩ (Nat.le_of_ble_eq_true rfl) (fun r hr => mm_laysTurn_ct 0 G hr) (fun G5 _ => ?_)
  exact j_mask [true, true, true, true, true, false, false] rfl (mm_quarrelOf_L8_J a1 a2 a3 FU 0 G5)

set_option maxRecDepth 100000 in
theorem mm_quarrelOf_ct {l : Launch} {H : Hp} (a1 : Int) (a2 : Int) (a3 : Int) (G : Hp) {r : Int × Hp} (h : mm_quarrelOf a1 a2 a3 G = some r) : Ct l M_mm_quarrelOf [(2, 201), (0, a1), (0, a2), (0, a3)] 224 (fu H G) ((KWi (fun g => fu H g)) r) :=
  ct_of_J (by decide +kernel) rfl (Nat.le_of_ble_eq_true rfl) (mm_quarrelOf_J a1 a2 a3 G) h
set_option maxRecDepth 100000 in
theorem mm_quarrel_J {l : Launch} {H : Hp} (a1 : Int) (a2 : Int) (a3 : Int) (a4 : Int) (a5 : Int) (G : Hp) : J l M_mm_quarrel (KWi (fun g => fu H g)) (mm_quarrel a1 a2 a3 a4 a5 G) 0 [(2, 201), (0, a1), (0, a2), (0, a3), (0, a4), (0, a5), (9, 0)] [] 224 (fu H G) (0, 0) := by
  unfold mm_quarrel
  refine j_aload_n dX11_quarrel_0 rfl rfl ?_
  refine j_iload_n dX11_quarrel_1 rfl rfl ?_
  refine j_cVWb dX11_quarrel_2 im_mm_isPaper lk_X11_209 rfl (As := [(0, a1)]) (S := []) rfl om_201.1 ⟨by decide, by decide⟩ (Nat.le_of_ble_eq_true rfl) (fun r hr => mm_isPaper_ct a1 G hr) (fun r2 _ => ?_)
  refine j_ifb_eq (tgt := 39) dX11_quarrel_5 rfl (fun h5 => ?_) (fun h5 => ?_)
  · refine j_aload_n dX11_quarrel_8 rfl rfl ?_
    refine j_iload_n dX11_quarrel_9 rfl rfl ?_
    refine j_cVRb dX11_quarrel_10 im_mm_isReader lk_X11_218 rfl (As := [(0, a2)]) (S := []) rfl om_201.1 ⟨by decide, by decide⟩ (Nat.le_of_ble_eq_true rfl) (fun r hr => mm_isReader_ct a2 r2.2 hr) (fun v10 _ => ?_)
    refine j_ifb_eq (tgt := 39) dX11_quarrel_13 rfl (fun h13 => ?_) (fun h13 => ?_)
    · refine j_aload_n dX11_quarrel_16 rfl rfl ?_
      refine j_iload_n dX11_quarrel_17 rfl rfl ?_
      refine j_cVRb dX11_quarrel_18 im_mm_isReader lk_X11_218 rfl (As := [(0, a3)]) (S := []) rfl om_201.1 ⟨by decide, by decide⟩ (Nat.le_of_ble_eq_true rfl) (fun r hr => mm_isReader_ct a3 r2.2 hr) (fun v18 _ => ?_)
      refine j_ifb_eq (tgt := 39) dX11_quarrel_21 rfl (fun h21 => ?_) (fun h21 => ?_)
      · refine j_iload_n dX11_quarrel_24 rfl rfl ?_
        refine j_iload_n dX11_quarrel_25 rfl rfl ?_
        refine j_icmp_eq (tgt := 39) dX11_quarrel_26 rfl (fun h26 => ?_) (fun h26 => ?_)
        · refine j_bipush dX11_quarrel_39 r32_m99 bp_m99 ?_
          exact j_ireturn dX11_quarrel_41 rfl rfl (Nat.zero_le _) (Nat.zero_le _)
        · refine j_iload dX11_quarrel_29 rfl ?_
          refine j_iconst dX11_quarrel_31 r32_0 ?_
          refine j_iconst dX11_quarrel_32 r32_4 ?_
          refine j_cSRbp dX11_quarrel_33 sm_mm_isIn lk_X11_132 rfl (As := [(0, a4), (0, 0), (0, 4)]) (S := []) rfl ⟨by decide, by decide⟩ (Nat.le_of_ble_eq_true rfl) (mm_isIn_ct a4 0 4) ?_
          refine j_ifb_ne (tgt := 42) dX11_quarrel_36 rfl (fun h36 => ?_) (fun h36 => ?_)
          · refine j_aload_n dX11_quarrel_42 rfl rfl ?_
            refine j_iconst dX11_quarrel_43 r32_m1 ?_
            refine j_pim dX11_quarrel_44 gf_X11_312 po_11_35 om_201 (nf_11_35 _) ?_
            refine j_aload_n dX11_quarrel_47 rfl rfl ?_
            refine j_iload_n dX11_quarrel_48 rfl rfl ?_
            refine j_iload_n dX11_quarrel_49 rfl rfl ?_
            refine j_iload dX11_quarrel_50 rfl ?_
            refine j_cVWi dX11_quarrel_52 im_mm_quarrelOf lk_X11_325 rfl (As := [(0, a2), (0, a3), (0, a4)]) (S := []) rfl om_201.1 ⟨by decide, by decide⟩ (Nat.le_of_ble_eq_true rfl) (fun r hr => mm_quarrelOf_ct a2 a3 a4 (upd2 r2.2 201 35 (-1)) hr) (fun r52 _ => ?_)
            refine j_istore dX11_quarrel_55 (Nat.le_of_ble_eq_true rfl) rfl ?_
            refine j_iload dX11_quarrel_57 rfl ?_
            refine j_if_eq (tgt := 69) dX11_quarrel_59 rfl (fun h59 => ?_) (fun h59 => ?_)
            · refine j_iload dX11_quarrel_69 rfl ?_
              exact j_ireturn dX11_quarrel_71 rfl rfl (Nat.zero_le _) (Nat.zero_le _)
            · refine j_aload_n dX11_quarrel_62 rfl rfl ?_
              refine j_gim dX11_quarrel_63 gf_X11_312 om_201 ?_
              refine j_goto (tgt := 71) dX11_quarrel_66 rfl ?_
              exact j_ireturn dX11_quarrel_71 rfl rfl (Nat.zero_le _) (Nat.zero_le _)
          · refine j_bipush dX11_quarrel_39 r32_m99 bp_m99 ?_
            exact j_ireturn dX11_quarrel_41 rfl rfl (Nat.zero_le _) (Nat.zero_le _)
      · refine j_bipush dX11_quarrel_39 r32_m99 bp_m99 ?_
        exact j_ireturn dX11_quarrel_41 rfl rfl (Nat.zero_le _) (Nat.zero_le _)
    · refine j_bipush dX11_quarrel_39 r32_m99 bp_m99 ?_
      exact j_ireturn dX11_quarrel_41 rfl rfl (Nat.zero_le _) (Nat.zero_le _)
  · refine j_bipush dX11_quarrel_39 r32_m99 bp_m99 ?_
    exact j_ireturn dX11_quarrel_41 rfl rfl (Nat.zero_le _) (Nat.zero_le _)

set_option maxRecDepth 100000 in
theorem mm_quarrel_ct {l : Launch} {H : Hp} (a1 : Int) (a2 : Int) (a3 : Int) (a4 : Int) (a5 : Int) (G : Hp) {r : Int × Hp} (h : mm_quarrel a1 a2 a3 a4 a5 G = some r) : Ct l M_mm_quarrel [(2, 201), (0, a1), (0, a2), (0, a3), (0, a4), (0, a5)] 224 (fu H G) ((KWi (fun g => fu H g)) r) :=
  ct_of_J (by decide +kernel) rfl (Nat.le_of_ble_eq_true rfl) (mm_quarrel_J a1 a2 a3 a4 a5 G) h
