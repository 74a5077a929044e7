set_option maxRecDepth 100000 in
theorem mm_weekLine_j221_J {l : Launch} {H : Hp} (G_221 : Hp) : J l M_mm_weekLine (KWv (fun g => fu H g)) (mm_weekLine_j221   G_221) 221 [(2, 201), (9, 0), (9, 0), (9, 0), (9, 0), (9, 0)] [] 224 (fu H G_221) (0, 0) := by
  unfold mm_weekLine_j221
  refine j_aload_n dX11_weekLine_221 rfl rfl ?_
  refine j_cVWv dX11_weekLine_222 im_mm_endsLine lk_X11_172 rfl (As := []) (S := []) rfl om_201.1 ⟨by decide, by decide⟩ (Nat.le_of_ble_eq_true rfl) (fun r hr => mm_endsLine_ct  G_221 hr) (fun G222 _ => ?_)
  exact j_return dX11_weekLine_225 rfl rfl (Nat.zero_le _) (Nat.zero_le _)

set_option maxRecDepth 100000 in
theorem mm_weekLine_j159_J {l : Launch} {H : Hp} (x2_159 : Int) (x3_159 : Int) (x4_159 : Int) (G_159 : Hp) : J l M_mm_weekLine (KWv (fun g => fu H g)) (mm_weekLine_j159   x2_159 x3_159 x4_159 G_159) 159 [(2, 201), (9, 0), (0, x2_159), (0, x3_159), (0, x4_159), (9, 0)] [] 224 (fu H G_159) (0, 0) := by
  unfold mm_weekLine_j159
  refine j_aload_n dX11_weekLine_159 rfl rfl ?_
  refine j_grm dX11_weekLine_160 gf_X11_17 om_201 (Or.inl (by decide)) rf_201_11 ?_
  refine j_iconst dX11_weekLine_163 r32_0 ?_
  refine j_aim dX11_weekLine_164 om_204 rfl (by decide) (by decide) ?_
  refine j_bipush dX11_weekLine_165 r32_40 bp_40 ?_
  refine j_icmp_ge (tgt := 221) dX11_weekLine_167 rfl (fun h167 => ?_) (fun h167 => ?_)
  · refine j_iconst dX11_weekLine_170 r32_1 ?_
    refine j_iconst dX11_weekLine_171 r32_3 ?_
    refine j_aload_n dX11_weekLine_172 rfl rfl ?_
    refine j_grm dX11_weekLine_173 gf_X11_17 om_201 (Or.inl (by decide)) rf_201_11 ?_
    refine j_iconst dX11_weekLine_176 r32_0 ?_
    refine j_aim dX11_weekLine_177 om_204 rfl (by decide) (by decide) ?_
    refine j_imul dX11_weekLine_178 ?_
    refine j_iadd dX11_weekLine_179 ?_
    refine j_istore dX11_weekLine_180 (Nat.le_of_ble_eq_true rfl) rfl ?_
    refine j_aload_n dX11_weekLine_182 rfl rfl ?_
    refine j_grm dX11_weekLine_183 gf_X11_17 om_201 (Or.inl (by decide)) rf_201_11 ?_
    refine j_iload dX11_weekLine_186 rfl ?_
    refine j_iload_n dX11_weekLine_188 rfl rfl ?_
    refine j_gd (fun h189a h189b => ?_)
    refine j_sim dX11_weekLine_189 om_204 rfl h189a h189b ?_
    refine j_aload_n dX11_weekLine_190 rfl rfl ?_
    refine j_grm dX11_weekLine_191 gf_X11_17 om_201 (Or.inl (by decide)) rf_201_11 ?_
    refine j_iload dX11_weekLine_194 rfl ?_
    refine j_iconst dX11_weekLine_196 r32_1 ?_
    refine j_iadd dX11_weekLine_197 ?_
    refine j_iload_n dX11_weekLine_198 rfl rfl ?_
    refine j_gd (fun h199a h199b => ?_)
    refine j_sim dX11_weekLine_199 om_204 rfl h199a h199b ?_
    refine j_aload_n dX11_weekLine_200 rfl rfl ?_
    refine j_grm dX11_weekLine_201 gf_X11_17 om_201 (Or.inl (by decide)) rf_201_11 ?_
    refine j_iload dX11_weekLine_204 rfl ?_
    refine j_iconst dX11_weekLine_206 r32_2 ?_
    refine j_iadd dX11_weekLine_207 ?_
    refine j_iload dX11_weekLine_208 rfl ?_
    refine j_gd (fun h210a h210b => ?_)
    refine j_sim dX11_weekLine_210 om_204 rfl h210a h210b ?_
    refine j_aload_n dX11_weekLine_211 rfl rfl ?_
    refine j_grm dX11_weekLine_212 gf_X11_17 om_201 (Or.inl (by decide)) rf_201_11 ?_
    refine j_iconst dX11_weekLine_215 r32_0 ?_
    refine j_dup2 dX11_weekLine_216 (by decide) (by decide) ?_
    refine j_aim dX11_weekLine_217 om_204 rfl (by decide) (by decide) ?_
    refine j_iconst dX11_weekLine_218 r32_1 ?_
    refine j_iadd dX11_weekLine_219 ?_
    refine j_sim dX11_weekLine_220 om_204 rfl (by decide) (by decide) ?_
    exact j_mask [true, false, false, false, false, false] rfl (mm_weekLine_j221_J (upd2 (upd2 (upd2 (upd2 G_159 204 (w32 (1 + (w32 (3 * (G_159 204 0))))) x2_159) 204 (w32 ((w32 (1 + (w32 (3 * (G_159 204 0))))) + 1)) x3_159) 204 (w32 ((w32 (1 + (w32 (3 * (G_159 204 0))))) + 2)) x4_159) 204 0 (w32 (((upd2 (upd2 (upd2 G_159 204 (w32 (1 + (w32 (3 * (G_159 204 0))))) x2_159) 204 (w32 ((w32 (1 + (w32 (3 * (G_159 204 0))))) + 1)) x3_159) 204 (w32 ((w32 (1 + (w32 (3 * (G_159 204 0))))) + 2)) x4_159) 204 0) + 1))))
  · exact j_mask [true, false, false, false, false, false] rfl (mm_weekLine_j221_J G_159)

set_option maxRecDepth 100000 in
theorem mm_weekLine_j141_J {l : Launch} {H : Hp} (k159 : Int → Int → Int → Hp → Option (Hp)) (hk159 : ∀ (x2_159 : Int) (x3_159 : Int) (x4_159 : Int) (G_159 : Hp), J l M_mm_weekLine (KWv (fun g => fu H g)) (k159 x2_159 x3_159 x4_159 G_159) 159 [(2, 201), (9, 0), (0, x2_159), (0, x3_159), (0, x4_159), (9, 0)] [] 224 (fu H G_159) (0, 0)) (x2_141 : Int) (G_141 : Hp) : J l M_mm_weekLine (KWv (fun g => fu H g)) (mm_weekLine_j141  k159 x2_141 G_141) 141 [(2, 201), (9, 0), (0, x2_141), (9, 0), (9, 0), (9, 0)] [] 224 (fu H G_141) (0, 0) := by
  unfold mm_weekLine_j141
  refine j_aload_n dX11_weekLine_141 rfl rfl ?_
  refine j_iconst dX11_weekLine_142 r32_0 ?_
  refine j_bipush dX11_weekLine_143 r32_9 bp_9 ?_
  refine j_cVWi dX11_weekLine_145 im_mm_numbered lk_X11_143 rfl (As := [(0, 0), (0, 9)]) (S := []) rfl om_201.1 ⟨by decide, by decide⟩ (Nat.le_of_ble_eq_true rfl) (fun r hr => mm_numbered_ct 0 9 G_141 hr) (fun r145 _ => ?_)
  refine j_istore_n dX11_weekLine_148 rfl (Nat.le_of_ble_eq_true rfl) rfl ?_
  refine j_aload_n dX11_weekLine_149 rfl rfl ?_
  refine j_iload_n dX11_weekLine_150 rfl rfl ?_
  refine j_cVWi dX11_weekLine_151 im_mm_otherWord lk_X11_147 rfl (As := [(0, r145.1)]) (S := []) rfl om_201.1 ⟨by decide, by decide⟩ (Nat.le_of_ble_eq_true rfl) (fun r hr => mm_otherWord_ct r145.1 r145.2 hr) (fun r151 _ => ?_)
  refine j_istore dX11_weekLine_154 (Nat.le_of_ble_eq_true rfl) rfl ?_
  refine j_goto (tgt := 159) dX11_weekLine_156 rfl ?_
  exact j_mask [true, false, true, true, true, false] rfl (hk159 x2_141 r145.1 r151.1 r151.2)

set_option maxRecDepth 100000 in
theorem mm_weekLine_j56_J {l : Launch} {H : Hp} (x2_56 : Int) (x3_56 : Int) (x4_56 : Int) (s0_56 : Int) (G_56 : Hp) : J l M_mm_weekLine (KWv (fun g => fu H g)) (mm_weekLine_j56   x2_56 x3_56 x4_56 s0_56 G_56) 56 [(2, 201), (9, 0), (0, x2_56), (0, x3_56), (0, x4_56), (9, 0)] [(0, s0_56)] 224 (fu H G_56) (0, 0) := by
  unfold mm_weekLine_j56
  refine j_ite _ (fun hc56_0 => ?_) (fun hc56_0 => ?_)
  · refine j_swIn (i := 0) (tgt := 92) dX11_weekLine_56 (hc56_0.trans (by decide)) (by decide) rfl rfl ?_
    refine j_aload_n dX11_weekLine_92 rfl rfl ?_
    refine j_iconst dX11_weekLine_93 r32_0 ?_
    refine j_iconst dX11_weekLine_94 r32_5 ?_
    refine j_cVWi dX11_weekLine_95 im_mm_numbered lk_X11_143 rfl (As := [(0, 0), (0, 5)]) (S := []) rfl om_201.1 ⟨by decide, by decide⟩ (Nat.le_of_ble_eq_true rfl) (fun r hr => mm_numbered_ct 0 5 G_56 hr) (fun r95 _ => ?_)
    refine j_istore_n dX11_weekLine_98 rfl (Nat.le_of_ble_eq_true rfl) rfl ?_
    refine j_goto (tgt := 159) dX11_weekLine_99 rfl ?_
    exact j_mask [true, false, true, true, true, false] rfl (mm_weekLine_j159_J x2_56 r95.1 x4_56 r95.2)
  · refine j_ite _ (fun hc56_1 => ?_) (fun hc56_1 => ?_)
    · refine j_swIn (i := 1) (tgt := 102) dX11_weekLine_56 (hc56_1.trans (by decide)) (by decide) rfl rfl ?_
      refine j_aload_n dX11_weekLine_102 rfl rfl ?_
      refine j_iconst dX11_weekLine_103 r32_0 ?_
      refine j_bipush dX11_weekLine_104 r32_7 bp_7 ?_
      refine j_cVWi dX11_weekLine_106 im_mm_numbered lk_X11_143 rfl (As := [(0, 0), (0, 7)]) (S := []) rfl om_201.1 ⟨by decide, by decide⟩ (Nat.le_of_ble_eq_true rfl) (fun r hr => mm_numbered_ct 0 7 G_56 hr) (fun r106 _ => ?_)
      refine j_istore_n dX11_weekLine_109 rfl (Nat.le_of_ble_eq_true rfl) rfl ?_
      refine j_aload_n dX11_weekLine_110 rfl rfl ?_
      refine j_iconst dX11_weekLine_111 r32_0 ?_
      refine j_bipush dX11_weekLine_112 r32_9 bp_9 ?_
      refine j_cVWi dX11_weekLine_114 im_mm_numbered lk_X11_143 rfl (As := [(0, 0), (0, 9)]) (S := []) rfl om_201.1 ⟨by decide, by decide⟩ (Nat.le_of_ble_eq_true rfl) (fun r hr => mm_numbered_ct 0 9 r106.2 hr) (fun r114 _ => ?_)
      refine j_istore dX11_weekLine_117 (Nat.le_of_ble_eq_true rfl) rfl ?_
      refine j_goto (tgt := 159) dX11_weekLine_119 rfl ?_
      exact j_mask [true, false, true, true, true, false] rfl (mm_weekLine_j159_J x2_56 r106.1 r114.1 r114.2)
    · refine j_ite _ (fun hc56_2 => ?_) (fun hc56_2 => ?_)
      · refine j_swIn (i := 2) (tgt := 122) dX11_weekLine_56 (hc56_2.trans (by decide)) (by decide) rfl rfl ?_
        refine j_aload_n dX11_weekLine_122 rfl rfl ?_
        refine j_iconst dX11_weekLine_123 r32_0 ?_
        refine j_iconst dX11_weekLine_124 r32_5 ?_
        refine j_cVWi dX11_weekLine_125 im_mm_numbered lk_X11_143 rfl (As := [(0, 0), (0, 5)]) (S := []) rfl om_201.1 ⟨by decide, by decide⟩ (Nat.le_of_ble_eq_true rfl) (fun r hr => mm_numbered_ct 0 5 G_56 hr) (fun r125 _ => ?_)
        refine j_istore_n dX11_weekLine_128 rfl (Nat.le_of_ble_eq_true rfl) rfl ?_
        refine j_aload_n dX11_weekLine_129 rfl rfl ?_
        refine j_iconst dX11_weekLine_130 r32_0 ?_
        refine j_bipush dX11_weekLine_131 r32_7 bp_7 ?_
        refine j_cVWi dX11_weekLine_133 im_mm_numbered lk_X11_143 rfl (As := [(0, 0), (0, 7)]) (S := []) rfl om_201.1 ⟨by decide, by decide⟩ (Nat.le_of_ble_eq_true rfl) (fun r hr => mm_numbered_ct 0 7 r125.2 hr) (fun r133 _ => ?_)
        refine j_istore dX11_weekLine_136 (Nat.le_of_ble_eq_true rfl) rfl ?_
        refine j_goto (tgt := 159) dX11_weekLine_138 rfl ?_
        exact j_mask [true, false, true, true, true, false] rfl (mm_weekLine_j159_J x2_56 r125.1 r133.1 r133.2)
      · refine j_ite _ (fun hc56_3 => ?_) (fun hc56_3 => ?_)
        · refine j_swIn (i := 3) (tgt := 141) dX11_weekLine_56 (hc56_3.trans (by decide)) (by decide) rfl rfl ?_
          exact j_mask [true, false, true, false, false, false] rfl (mm_weekLine_j141_J   mm_weekLine_j159 mm_weekLine_j159_J x2_56 G_56)
        · refine j_ite _ (fun hc56_4 => ?_) (fun hc56_4 => ?_)
          · refine j_swIn (i := 4) (tgt := 141) dX11_weekLine_56 (hc56_4.trans (by decide)) (by decide) rfl rfl ?_
            exact j_mask [true, false, true, false, false, false] rfl (mm_weekLine_j141_J   mm_weekLine_j159 mm_weekLine_j159_J x2_56 G_56)
          · refine j_swOut (tgt := 159) dX11_weekLine_56 (by omega) rfl ?_
            exact j_mask [true, false, true, true, true, false] rfl (mm_weekLine_j159_J x2_56 x3_56 x4_56 G_56)

set_option maxRecDepth 100000 in
theorem mm_weekLine_j39_J {l : Launch} {H : Hp} (x2_39 : Int) (G_39 : Hp) : J l M_mm_weekLine (KWv (fun g => fu H g)) (mm_weekLine_j39   x2_39 G_39) 39 [(2, 201), (9, 0), (0, x2_39), (9, 0), (9, 0), (9, 0)] [] 224 (fu H G_39) (0, 0) := by
  unfold mm_weekLine_j39
  refine j_iconst dX11_weekLine_39 r32_m1 ?_
  refine j_istore_n dX11_weekLine_40 rfl (Nat.le_of_ble_eq_true rfl) rfl ?_
  refine j_iconst dX11_weekLine_41 r32_m1 ?_
  refine j_istore dX11_weekLine_42 (Nat.le_of_ble_eq_true rfl) rfl ?_
  refine j_aload_n dX11_weekLine_44 rfl rfl ?_
  refine j_gim dX11_weekLine_45 gf_X11_125 om_201 ?_
  refine j_if_eq (tgt := 55) dX11_weekLine_48 rfl (fun h48 => ?_) (fun h48 => ?_)
  · refine j_iload_n dX11_weekLine_55 rfl rfl ?_
    exact j_mask [true, false, true, true, true, false] rfl (mm_weekLine_j56_J x2_39 (-1) (-1) x2_39 G_39)
  · refine j_iconst dX11_weekLine_51 r32_5 ?_
    refine j_goto (tgt := 56) dX11_weekLine_52 rfl ?_
    exact j_mask [true, false, true, true, true, false] rfl (mm_weekLine_j56_J x2_39 (-1) (-1) 5 G_39)

set_option maxRecDepth 100000 in
theorem mm_weekLine_J {l : Launch} {H : Hp} (G : Hp) : J l M_mm_weekLine (KWv (fun g => fu H g)) (mm_weekLine  G) 0 [(2, 201), (9, 0), (9, 0), (9, 0), (9, 0), (9, 0)] [] 224 (fu H G) (0, 0) := by
  unfold mm_weekLine
  refine j_aload_n dX11_weekLine_0 rfl rfl ?_
  refine j_gim dX11_weekLine_1 gf_X11_98 om_201 ?_
  refine j_istore_n dX11_weekLine_4 rfl (Nat.le_of_ble_eq_true rfl) rfl ?_
  refine j_aload_n dX11_weekLine_5 rfl rfl ?_
  refine j_iconst dX11_weekLine_6 r32_5 ?_
  refine j_bipush dX11_weekLine_7 r32_10 bp_10 ?_
  refine j_cVWi dX11_weekLine_9 im_mm_wordIn lk_X11_156 rfl (As := [(0, 5), (0, 10)]) (S := []) rfl om_201.1 ⟨by decide, by decide⟩ (Nat.le_of_ble_eq_true rfl) (fun r hr => mm_wordIn_ct 5 10 G hr) (fun r9 _ => ?_)
  refine j_iconst dX11_weekLine_12 r32_5 ?_
  refine j_isub dX11_weekLine_13 ?_
  refine j_istore_n dX11_weekLine_14 rfl (Nat.le_of_ble_eq_true rfl) rfl ?_
  refine j_aload_n dX11_weekLine_15 rfl rfl ?_
  refine j_gim dX11_weekLine_16 gf_X11_125 om_201 ?_
  refine j_if_ne (tgt := 39) dX11_weekLine_19 rfl (fun h19 => ?_) (fun h19 => ?_)
  · refine j_aload_n dX11_weekLine_22 rfl rfl ?_
    refine j_grm dX11_weekLine_23 gf_X11_17 om_201 (Or.inl (by decide)) rf_201_11 ?_
    refine j_iconst dX11_weekLine_26 r32_0 ?_
    refine j_aim dX11_weekLine_27 om_204 rfl (by decide) (by decide) ?_
    refine j_bipush dX11_weekLine_28 r32_40 bp_40 ?_
    refine j_icmp_lt (tgt := 39) dX11_weekLine_30 rfl (fun h30 => ?_) (fun h30 => ?_)
    · refine j_aload_n dX11_weekLine_33 rfl rfl ?_
      refine j_iconst dX11_weekLine_34 r32_3 ?_
      refine j_iload_n dX11_weekLine_35 rfl rfl ?_
      refine j_cVWv dX11_weekLine_36 im_mm_also lk_X11_136 rfl (As := [(0, 3), (0, G 201 4)]) (S := []) rfl om_201.1 ⟨by decide, by decide⟩ (Nat.le_of_ble_eq_true rfl) (fun r hr => mm_also_ct 3 (G 201 4) r9.2 hr) (fun G36 _ => ?_)
      exact j_mask [true, false, true, false, false, false] rfl (mm_weekLine_j39_J (w32 (r9.1 - 5)) G36)
    · exact j_mask [true, false, true, false, false, false] rfl (mm_weekLine_j39_J (w32 (r9.1 - 5)) r9.2)
  · exact j_mask [true, false, true, false, false, false] rfl (mm_weekLine_j39_J (w32 (r9.1 - 5)) r9.2)

set_option maxRecDepth 100000 in
theorem mm_weekLine_ct {l : Launch} {H : Hp} (G : Hp) {r : Hp} (h : mm_weekLine  G = some r) : Ct l M_mm_weekLine [(2, 201)] 224 (fu H G) ((KWv (fun g => fu H g)) r) :=
  ct_of_J (by decide +kernel) rfl (Nat.le_of_ble_eq_true rfl) (mm_weekLine_J  G) h
set_option maxRecDepth 100000 in
theorem mm_logLine_j107_J {l : Launch} {H : Hp} (G_107 : Hp) : J l M_mm_logLine (KWv (fun g => fu H g)) (mm_logLine_j107   G_107) 107 [(2, 201), (9, 0), (9, 0), (9, 0)] [] 224 (fu H G_107) (0, 0) := by
  unfold mm_logLine_j107
  refine j_aload_n dX11_logLine_107 rfl rfl ?_
  refine j_cVWv dX11_logLine_108 im_mm_endsLine lk_X11_172 rfl (As := []) (S := []) rfl om_201.1 ⟨by decide, by decide⟩ (Nat.le_of_ble_eq_true rfl) (fun r hr => mm_endsLine_ct  G_107 hr) (fun G108 _ => ?_)
  exact j_return dX11_logLine_111 rfl rfl (Nat.zero_le _) (Nat.zero_le _)

set_option maxRecDepth 100000 in
theorem mm_logLine_j38_J {l : Launch} {H : Hp} (G_38 : Hp) : J l M_mm_logLine (KWv (fun g => fu H g)) (mm_logLine_j38   G_38) 38 [(2, 201), (9, 0), (9, 0), (9, 0)] [] 224 (fu H G_38) (0, 0) := by
  unfold mm_logLine_j38
  refine j_aload_n dX11_logLine_38 rfl rfl ?_
  refine j_iconst dX11_logLine_39 r32_0 ?_
  refine j_bipush dX11_logLine_40 r32_7 bp_7 ?_
  refine j_cVWi dX11_logLine_42 im_mm_numbered lk_X11_143 rfl (As := [(0, 0), (0, 7)]) (S := []) rfl om_201.1 ⟨by decide, by decide⟩ (Nat.le_of_ble_eq_true rfl) (fun r hr => mm_numbered_ct 0 7 G_38 hr) (fun r42 _ => ?_)
  refine j_istore_n dX11_logLine_45 rfl (Nat.le_of_ble_eq_true rfl) rfl ?_
  refine j_aload_n dX11_logLine_46 rfl rfl ?_
  refine j_iconst dX11_logLine_47 r32_0 ?_
  refine j_bipush dX11_logLine_48 r32_9 bp_9 ?_
  refine j_cVWi dX11_logLine_50 im_mm_numbered lk_X11_143 rfl (As := [(0, 0), (0, 9)]) (S := []) rfl om_201.1 ⟨by decide, by decide⟩ (Nat.le_of_ble_eq_true rfl) (fun r hr => mm_numbered_ct 0 9 r42.2 hr) (fun r50 _ => ?_)
  refine j_istore_n dX11_logLine_53 rfl (Nat.le_of_ble_eq_true rfl) rfl ?_
  refine j_aload_n dX11_logLine_54 rfl rfl ?_
  refine j_grm dX11_logLine_55 gf_X11_17 om_201 (Or.inl (by decide)) rf_201_11 ?_
  refine j_iconst dX11_logLine_58 r32_0 ?_
  refine j_aim dX11_logLine_59 om_204 rfl (by decide) (by decide) ?_
  refine j_bipush dX11_logLine_60 r32_8 bp_8 ?_
  refine j_icmp_ge (tgt := 107) dX11_logLine_62 rfl (fun h62 => ?_) (fun h62 => ?_)
  · refine j_aload_n dX11_logLine_65 rfl rfl ?_
    refine j_grm dX11_logLine_66 gf_X11_17 om_201 (Or.inl (by decide)) rf_201_11 ?_
    refine j_iconst dX11_logLine_69 r32_1 ?_
    refine j_iconst dX11_logLine_70 r32_2 ?_
    refine j_aload_n dX11_logLine_71 rfl rfl ?_
    refine j_grm dX11_logLine_72 gf_X11_17 om_201 (Or.inl (by decide)) rf_201_11 ?_
    refine j_iconst dX11_logLine_75 r32_0 ?_
    refine j_aim dX11_logLine_76 om_204 rfl (by decide) (by decide) ?_
    refine j_imul dX11_logLine_77 ?_
    refine j_iadd dX11_logLine_78 ?_
    refine j_iload_n dX11_logLine_79 rfl rfl ?_
    refine j_gd (fun h80a h80b => ?_)
    refine j_sim dX11_logLine_80 om_204 rfl h80a h80b ?_
    refine j_aload_n dX11_logLine_81 rfl rfl ?_
    refine j_grm dX11_logLine_82 gf_X11_17 om_201 (Or.inl (by decide)) rf_201_11 ?_
    refine j_iconst dX11_logLine_85 r32_2 ?_
    refine j_iconst dX11_logLine_86 r32_2 ?_
    refine j_aload_n dX11_logLine_87 rfl rfl ?_
    refine j_grm dX11_logLine_88 gf_X11_17 om_201 (Or.inl (by decide)) rf_201_11 ?_
    refine j_iconst dX11_logLine_91 r32_0 ?_
    refine j_aim dX11_logLine_92 om_204 rfl (by decide) (by decide) ?_
    refine j_imul dX11_logLine_93 ?_
    refine j_iadd dX11_logLine_94 ?_
    refine j_iload_n dX11_logLine_95 rfl rfl ?_
    refine j_gd (fun h96a h96b => ?_)
    refine j_sim dX11_logLine_96 om_204 rfl h96a h96b ?_
    refine j_aload_n dX11_logLine_97 rfl rfl ?_
    refine j_grm dX11_logLine_98 gf_X11_17 om_201 (Or.inl (by decide)) rf_201_11 ?_
    refine j_iconst dX11_logLine_101 r32_0 ?_
    refine j_dup2 dX11_logLine_102 (by decide) (by decide) ?_
    refine j_aim dX11_logLine_103 om_204 rfl (by decide) (by decide) ?_
    refine j_iconst dX11_logLine_104 r32_1 ?_
    refine j_iadd dX11_logLine_105 ?_
    refine j_sim dX11_logLine_106 om_204 rfl (by decide) (by decide) ?_
    exact j_mask [true, false, false, false] rfl (mm_logLine_j107_J (upd2 (upd2 (upd2 r50.2 204 (w32 (1 + (w32 (2 * (r50.2 204 0))))) r42.1) 204 (w32 (2 + (w32 (2 * ((upd2 r50.2 204 (w32 (1 + (w32 (2 * (r50.2 204 0))))) r42.1) 204 0))))) r50.1) 204 0 (w32 (((upd2 (upd2 r50.2 204 (w32 (1 + (w32 (2 * (r50.2 204 0))))) r42.1) 204 (w32 (2 + (w32 (2 * ((upd2 r50.2 204 (w32 (1 + (w32 (2 * (r50.2 204 0))))) r42.1) 204 0))))) r50.1) 204 0) + 1))))
  · exact j_mask [true, false, false, false] rfl (mm_logLine_j107_J r50.2)

set_option maxRecDepth 100000 in
theorem mm_logLine_J {l : Launch} {H : Hp} (G : Hp) : J l M_mm_logLine (KWv (fun g => fu H g)) (mm_logLine  G) 0 [(2, 201), (9, 0), (9, 0), (9, 0)] [] 224 (fu H G) (0, 0) := by
  unfold mm_logLine
  refine j_aload_n dX11_logLine_0 rfl rfl ?_
  refine j_gim dX11_logLine_1 gf_X11_98 om_201 ?_
  refine j_istore_n dX11_logLine_4 rfl (Nat.le_of_ble_eq_true rfl) rfl ?_
  refine j_aload_n dX11_logLine_5 rfl rfl ?_
  refine j_bipush dX11_logLine_6 r32_11 bp_11 ?_
  refine j_bipush dX11_logLine_8 r32_11 bp_11 ?_
  refine j_cVWi dX11_logLine_10 im_mm_wordIn lk_X11_156 rfl (As := [(0, 11), (0, 11)]) (S := []) rfl om_201.1 ⟨by decide, by decide⟩ (Nat.le_of_ble_eq_true rfl) (fun r hr => mm_wordIn_ct 11 11 G hr) (fun r10 _ => ?_)
  refine j_pop dX11_logLine_13 (by decide) ?_
  refine j_aload_n dX11_logLine_14 rfl rfl ?_
  refine j_gim dX11_logLine_15 gf_X11_125 om_201 ?_
  refine j_if_ne (tgt := 38) dX11_logLine_18 rfl (fun h18 => ?_) (fun h18 => ?_)
  · refine j_aload_n dX11_logLine_21 rfl rfl ?_
    refine j_grm dX11_logLine_22 gf_X11_17 om_201 (Or.inl (by decide)) rf_201_11 ?_
    refine j_iconst dX11_logLine_25 r32_0 ?_
    refine j_aim dX11_logLine_26 om_204 rfl (by decide) (by decide) ?_
    refine j_bipush dX11_logLine_27 r32_8 bp_8 ?_
    refine j_icmp_lt (tgt := 38) dX11_logLine_29 rfl (fun h29 => ?_) (fun h29 => ?_)
    · refine j_aload_n dX11_logLine_32 rfl rfl ?_
      refine j_iconst dX11_logLine_33 r32_3 ?_
      refine j_iload_n dX11_logLine_34 rfl rfl ?_
      refine j_cVWv dX11_logLine_35 im_mm_also lk_X11_136 rfl (As := [(0, 3), (0, G 201 4)]) (S := []) rfl om_201.1 ⟨by decide, by decide⟩ (Nat.le_of_ble_eq_true rfl) (fun r hr => mm_also_ct 3 (G 201 4) r10.2 hr) (fun G35 _ => ?_)
      exact j_mask [true, false, false, false] rfl (mm_logLine_j38_J G35)
    · exact j_mask [true, false, false, false] rfl (mm_logLine_j38_J r10.2)
  · exact j_mask [true, false, false, false] rfl (mm_logLine_j38_J r10.2)

set_option maxRecDepth 100000 in
theorem mm_logLine_ct {l : Launch} {H : Hp} (G : Hp) {r : Hp} (h : mm_logLine  G = some r) : Ct l M_mm_logLine [(2, 201)] 224 (fu H G) ((KWv (fun g => fu H g)) r) :=
  ct_of_J (by decide +kernel) rfl (Nat.le_of_ble_eq_true rfl) (mm_logLine_J  G) h
set_option maxRecDepth 100000 in
theorem mm_placeOf_J {l : Launch} {Ch : Hp} (a0 : Int) (a1 : Int) : J l M_mm_placeOf (KRi Ch) (some (mm_placeOf a0 a1)) 0 [(0, a0), (0, a1)] [] 224 Ch (0, 0) := by
  unfold mm_placeOf
  refine j_iload_n dX11_placeOf_0 rfl rfl ?_
  rw [some_ite]
  refine j_if_ne (tgt := 15) dX11_placeOf_1 rfl (fun h1 => ?_) (fun h1 => ?_)
  · refine j_sipush dX11_placeOf_4 r32_610 sp_610 ?_
    refine j_bipush dX11_placeOf_7 r32_80 bp_80 ?_
    refine j_iload_n dX11_placeOf_9 rfl rfl ?_
    refine j_imul dX11_placeOf_10 ?_
    refine j_iadd dX11_placeOf_11 ?_
    refine j_goto (tgt := 39) dX11_placeOf_12 rfl ?_
    exact j_ireturn dX11_placeOf_39 rfl rfl (Nat.zero_le _) (Nat.zero_le _)
  · refine j_iload_n dX11_placeOf_15 rfl rfl ?_
    refine j_iconst dX11_placeOf_16 r32_1 ?_
    rw [some_ite]
    refine j_icmp_ne (tgt := 31) dX11_placeOf_17 rfl (fun h17 => ?_) (fun h17 => ?_)
    · refine j_sipush dX11_placeOf_20 r32_770 sp_770 ?_
      refine j_bipush dX11_placeOf_23 r32_121 bp_121 ?_
      refine j_iload_n dX11_placeOf_25 rfl rfl ?_
      refine j_imul dX11_placeOf_26 ?_
      refine j_iadd dX11_placeOf_27 ?_
      refine j_goto (tgt := 39) dX11_placeOf_28 rfl ?_
      exact j_ireturn dX11_placeOf_39 rfl rfl (Nat.zero_le _) (Nat.zero_le _)
    · refine j_sipush dX11_placeOf_31 r32_1012 sp_1012 ?_
      refine j_bipush dX11_placeOf_34 r32_17 bp_17 ?_
      refine j_iload_n dX11_placeOf_36 rfl rfl ?_
      refine j_imul dX11_placeOf_37 ?_
      refine j_iadd dX11_placeOf_38 ?_
      exact j_ireturn dX11_placeOf_39 rfl rfl (Nat.zero_le _) (Nat.zero_le _)

set_option maxRecDepth 100000 in
theorem mm_placeOf_ct {l : Launch} {Ch : Hp} (a0 : Int) (a1 : Int) : Ct l M_mm_placeOf [(0, a0), (0, a1)] 224 Ch (KRi Ch (mm_placeOf a0 a1)) :=
  ct_of_J (by decide +kernel) rfl (Nat.le_of_ble_eq_true rfl) (mm_placeOf_J a0 a1) rfl
set_option maxRecDepth 100000 in
theorem mm_sizeOf_J {l : Launch} {Ch : Hp} (a0 : Int) : J l M_mm_sizeOf (KRi Ch) (some (mm_sizeOf a0)) 0 [(0, a0)] [] 224 Ch (0, 0) := by
  unfold mm_sizeOf
  refine j_iload_n dX11_sizeOf_0 rfl rfl ?_
  rw [some_ite]
  refine j_if_ne (tgt := 9) dX11_sizeOf_1 rfl (fun h1 => ?_) (fun h1 => ?_)
  · refine j_bipush dX11_sizeOf_4 r32_80 bp_80 ?_
    refine j_goto (tgt := 21) dX11_sizeOf_6 rfl ?_
    exact j_ireturn dX11_sizeOf_21 rfl rfl (Nat.zero_le _) (Nat.zero_le _)
  · refine j_iload_n dX11_sizeOf_9 rfl rfl ?_
    refine j_iconst dX11_sizeOf_10 r32_1 ?_
    rw [some_ite]
    refine j_icmp_ne (tgt := 19) dX11_sizeOf_11 rfl (fun h11 => ?_) (fun h11 => ?_)
    · refine j_bipush dX11_sizeOf_14 r32_121 bp_121 ?_
      refine j_goto (tgt := 21) dX11_sizeOf_16 rfl ?_
      exact j_ireturn dX11_sizeOf_21 rfl rfl (Nat.zero_le _) (Nat.zero_le _)
    · refine j_bipush dX11_sizeOf_19 r32_17 bp_17 ?_
      exact j_ireturn dX11_sizeOf_21 rfl rfl (Nat.zero_le _) (Nat.zero_le _)

set_option maxRecDepth 100000 in
theorem mm_sizeOf_ct {l : Launch} {Ch : Hp} (a0 : Int) : Ct l M_mm_sizeOf [(0, a0)] 224 Ch (KRi Ch (mm_sizeOf a0)) :=
  ct_of_J (by decide +kernel) rfl (Nat.le_of_ble_eq_true rfl) (mm_sizeOf_J a0) rfl
set_option maxRecDepth 100000 in
theorem mm_isOf_J {l : Launch} {H : Hp} (a1 : Int) (a2 : Int) (G : Hp) : J l M_mm_isOf (KRb (fu H G)) (mm_isOf a1 a2 G) 0 [(2, 201), (0, a1), (0, a2)] [] 224 (fu H G) (0, 0) := by
  unfold mm_isOf
  refine j_iload_n dX11_isOf_0 rfl rfl ?_
  refine j_iconst dX11_isOf_1 r32_0 ?_
  refine j_aload_n dX11_isOf_2 rfl rfl ?_
  refine j_grm dX11_isOf_3 gf_X11_7 om_201 (Or.inl (by decide)) rf_201_0 ?_
  refine j_iload_n dX11_isOf_6 rfl rfl ?_
  refine j_gd (fun h7a h7b => ?_)
  refine j_aim dX11_isOf_7 om_202 rfl h7a h7b ?_
  refine j_iconst dX11_isOf_8 r32_1 ?_
  refine j_isub dX11_isOf_9 ?_
  refine j_cSRbp dX11_isOf_10 sm_mm_isIn lk_X11_132 rfl (As := [(0, a2), (0, 0), (0, w32 ((G 202 a1) - 1))]) (S := []) rfl ⟨by decide, by decide⟩ (Nat.le_of_ble_eq_true rfl) (mm_isIn_ct a2 0 (w32 ((G 202 a1) - 1))) ?_
  exact j_zreturn dX11_isOf_13 rfl rfl (Nat.zero_le _) (Nat.zero_le _)

set_option maxRecDepth 100000 in
theorem mm_isOf_ct {l : Launch} {H : Hp} (a1 : Int) (a2 : Int) (G : Hp) {r : Bool} (h : mm_isOf a1 a2 G = some r) : Ct l M_mm_isOf [(2, 201), (0, a1), (0, a2)] 224 (fu H G) ((KRb (fu H G)) r) :=
  ct_of_J (by decide +kernel) rfl (Nat.le_of_ble_eq_true rfl) (mm_isOf_J a1 a2 G) h
set_option maxRecDepth 100000 in
theorem mm_beginsText_L22_J {l : Launch} {H : Hp} (a1 : Int) : ∀ (n_22 : Nat) (x2_22 : Int) (G_22 : Hp), J l M_mm_beginsText (KWv (fun g => fu H g)) (mm_beginsText_L22 a1  n_22 x2_22 G_22) 22 [(2, 201), (0, a1), (0, x2_22)] [] 224 (fu H G_22) (0, 0) := by
  intro n_22
  induction n_22 with
  | zero =>
    intro x2_22 G_22
    exact j_none
  | succ n_22 ih =>
    intro x2_22 G_22
    rw [mm_beginsText_L22]
    refine j_iload_n dX11_beginsText_22 rfl rfl ?_
    refine j_bipush dX11_beginsText_23 r32_121 bp_121 ?_
    refine j_icmp_ge (tgt := 61) dX11_beginsText_25 rfl (fun h25 => ?_) (fun h25 => ?_)
    · refine j_aload_n dX11_beginsText_28 rfl rfl ?_
      refine j_grm dX11_beginsText_29 gf_X11_17 om_201 (Or.inl (by decide)) rf_201_11 ?_
      refine j_iload_n dX11_beginsText_32 rfl rfl ?_
      refine j_iload_n dX11_beginsText_33 rfl rfl ?_
      refine j_if_ne (tgt := 53) dX11_beginsText_34 rfl (fun h34 => ?_) (fun h34 => ?_)
      · refine j_iload_n dX11_beginsText_37 rfl rfl ?_
        refine j_bipush dX11_beginsText_38 r32_32 bp_32 ?_
        refine j_bipush dX11_beginsText_40 r32_79 bp_79 ?_
        refine j_cSRbp dX11_beginsText_42 sm_mm_isIn lk_X11_132 rfl (As := [(0, x2_22), (0, 32), (0, 79)]) (S := [(0, x2_22), (2, 204)]) rfl ⟨by decide, by decide⟩ (Nat.le_of_ble_eq_true rfl) (mm_isIn_ct x2_22 32 79) ?_
        refine j_ifb_eq (tgt := 53) dX11_beginsText_45 rfl (fun h45 => ?_) (fun h45 => ?_)
        · refine j_bipush dX11_beginsText_48 r32_10 bp_10 ?_
          refine j_goto (tgt := 54) dX11_beginsText_50 rfl ?_
          refine j_gd (fun h54a h54b => ?_)
          refine j_sim dX11_beginsText_54 om_204 rfl h54a h54b ?_
          refine j_iinc dX11_beginsText_55 rfl (Nat.le_of_ble_eq_true rfl) rfl ?_
          refine j_goto (tgt := 22) dX11_beginsText_58 rfl ?_
          exact j_mask [true, true, true] rfl (ih (w32 (x2_22 + 1)) (upd2 G_22 204 x2_22 10))
        · refine j_iconst dX11_beginsText_53 r32_0 ?_
          refine j_gd (fun h54a h54b => ?_)
          refine j_sim dX11_beginsText_54 om_204 rfl h54a h54b ?_
          refine j_iinc dX11_beginsText_55 rfl (Nat.le_of_ble_eq_true rfl) rfl ?_
          refine j_goto (tgt := 22) dX11_beginsText_58 rfl ?_
          exact j_mask [true, true, true] rfl (ih (w32 (x2_22 + 1)) (upd2 G_22 204 x2_22 0))
      · refine j_iconst dX11_beginsText_53 r32_0 ?_
        refine j_gd (fun h54a h54b => ?_)
        refine j_sim dX11_beginsText_54 om_204 rfl h54a h54b ?_
        refine j_iinc dX11_beginsText_55 rfl (Nat.le_of_ble_eq_true rfl) rfl ?_
        refine j_goto (tgt := 22) dX11_beginsText_58 rfl ?_
        exact j_mask [true, true, true] rfl (ih (w32 (x2_22 + 1)) (upd2 G_22 204 x2_22 0))
    · exact j_return dX11_beginsText_61 rfl rfl (Nat.zero_le _) (Nat.zero_le _)

set_option maxRecDepth 100000 in
theorem mm_beginsText_J {l : Launch} {H : Hp} (a1 : Int) (G : Hp) : J l M_mm_beginsText (KWv (fun g => fu H g)) (mm_beginsText a1 G) 0 [(2, 201), (0, a1), (9, 0)] [] 224 (fu H G) (0, 0) := by
  unfold mm_beginsText
  refine j_aload_n dX11_beginsText_0 rfl rfl ?_
  refine j_iconst dX11_beginsText_1 r32_0 ?_
  refine j_pim dX11_beginsText_2 gf_X11_91 po_11_3 om_201 (nf_11_3 _) ?_
  refine j_aload_n dX11_beginsText_5 rfl rfl ?_
  refine j_iconst dX11_beginsText_6 r32_0 ?_
  refine j_pim dX11_beginsText_7 gf_X11_125 po_11_8 om_201 (fun w => nf_bool (Or.inl rfl)) ?_
  refine j_aload_n dX11_beginsText_10 rfl rfl ?_
  refine j_iconst dX11_beginsText_11 r32_m1 ?_
  refine j_pim dX11_beginsText_12 gf_X11_150 po_11_9 om_201 (nf_11_9 _) ?_
  refine j_aload_n dX11_beginsText_15 rfl rfl ?_
  refine j_iconst dX11_beginsText_16 r32_m1 ?_
  refine j_pim dX11_beginsText_17 gf_X11_153 po_11_10 om_201 (nf_11_10 _) ?_
  refine j_iconst dX11_beginsText_20 r32_0 ?_
  refine j_istore_n dX11_beginsText_21 rfl (Nat.le_of_ble_eq_true rfl) rfl ?_
  exact j_mask [true, true, true] rfl (mm_beginsText_L22_J a1 FU 0 (upd2 (upd2 (upd2 (upd2 G 201 3 0) 201 8 0) 201 9 (-1)) 201 10 (-1)))

set_option maxRecDepth 100000 in
theorem mm_beginsText_ct {l : Launch} {H : Hp} (a1 : Int) (G : Hp) {r : Hp} (h : mm_beginsText a1 G = some r) : Ct l M_mm_beginsText [(2, 201), (0, a1)] 224 (fu H G) ((KWv (fun g => fu H g)) r) :=
  ct_of_J (by decide +kernel) rfl (Nat.le_of_ble_eq_true rfl) (mm_beginsText_J a1 G) h
set_option maxRecDepth 100000 in
theorem mm_text_L80_J {l : Launch} {H : Hp} (a1 : Int) (a2 : Int) (k141 : Hp → Option (Int × Hp)) (hk141 : ∀ (G_141 : Hp), J l M_mm_text (KWi (fun g => fu H g)) (k141 G_141) 141 [(2, 201), (0, a1), (0, a2), (9, 0), (9, 0)] [] 224 (fu H G_141) (0, 0)) : ∀ (n_80 : Nat) (G_80 : Hp), J l M_mm_text (KWi (fun g => fu H g)) (mm_text_L80 a1 a2 k141 n_80 G_80) 80 [(2, 201), (0, a1), (0, a2), (9, 0), (9, 0)] [] 224 (fu H G_80) (0, 0) := by
  intro n_80
  induction n_80 with
  | zero =>
    intro G_80
    exact j_none
  | succ n_80 ih =>
    intro G_80
    rw [mm_text_L80]
    refine j_aload_n dX11_text_80 rfl rfl ?_
    refine j_gim dX11_text_81 gf_X11_125 om_201 ?_
    refine j_if_ne (tgt := 141) dX11_text_84 rfl (fun h84 => ?_) (fun h84 => ?_)
    · refine j_aload_n dX11_text_87 rfl rfl ?_
      refine j_gim dX11_text_88 gf_X11_101 om_201 ?_
      refine j_if_eq (tgt := 141) dX11_text_91 rfl (fun h91 => ?_) (fun h91 => ?_)
      · exact j_mask [true, true, true, false, false] rfl (hk141 G_80)
      · refine j_iload_n dX11_text_94 rfl rfl ?_
        refine j_ite _ (fun hc95_0 => ?_) (fun hc95_0 => ?_)
        · refine j_lsw (tgt := 120) (off := 25) dX11_text_95 rfl (by rw [hc95_0] <;> rfl) rfl ?_
          refine j_aload_n dX11_text_120 rfl rfl ?_
          refine j_cVWv dX11_text_121 im_mm_paperLine lk_X11_182 rfl (As := []) (S := []) rfl om_201.1 ⟨by decide, by decide⟩ (Nat.le_of_ble_eq_true rfl) (fun r hr => mm_paperLine_ct  G_80 hr) (fun G121 _ => ?_)
          refine j_goto (tgt := 80) dX11_text_124 rfl ?_
          exact j_mask [true, true, true, false, false] rfl (ih G121)
        · refine j_ite _ (fun hc95_1 => ?_) (fun hc95_1 => ?_)
          · refine j_lsw (tgt := 127) (off := 32) dX11_text_95 rfl (by rw [hc95_1] <;> rfl) rfl ?_
            refine j_aload_n dX11_text_127 rfl rfl ?_
            refine j_cVWv dX11_text_128 im_mm_weekLine lk_X11_185 rfl (As := []) (S := []) rfl om_201.1 ⟨by decide, by decide⟩ (Nat.le_of_ble_eq_true rfl) (fun r hr => mm_weekLine_ct  G_80 hr) (fun G128 _ => ?_)
            refine j_goto (tgt := 80) dX11_text_131 rfl ?_
            exact j_mask [true, true, true, false, false] rfl (ih G128)
          · refine j_lsw (tgt := 134) (off := 39) dX11_text_95 rfl (by simp [Op.lookupswitch.offset, hc95_0, hc95_1, Ne.symm hc95_0, Ne.symm hc95_1]) rfl ?_
            refine j_aload_n dX11_text_134 rfl rfl ?_
            refine j_cVWv dX11_text_135 im_mm_logLine lk_X11_188 rfl (As := []) (S := []) rfl om_201.1 ⟨by decide, by decide⟩ (Nat.le_of_ble_eq_true rfl) (fun r hr => mm_logLine_ct  G_80 hr) (fun G135 _ => ?_)
            refine j_goto (tgt := 80) dX11_text_138 rfl ?_
            exact j_mask [true, true, true, false, false] rfl (ih G135)
    · exact j_mask [true, true, true, false, false] rfl (hk141 G_80)

set_option maxRecDepth 100000 in
theorem mm_text_L256_J {l : Launch} {H : Hp} (a1 : Int) (a2 : Int) (x3_256 : Int) : ∀ (n_256 : Nat) (x4_256 : Int) (G_256 : Hp), J l M_mm_text (KWi (fun g => fu H g)) (mm_text_L256 a1 a2 x3_256  n_256 x4_256 G_256) 256 [(2, 201), (0, a1), (9, 0), (0, x3_256), (0, x4_256)] [] 224 (fu H G_256) (0, 0) := by
  intro n_256
  induction n_256 with
  | zero =>
    intro x4_256 G_256
    exact j_none
  | succ n_256 ih =>
    intro x4_256 G_256
    rw [mm_text_L256]
    refine j_iload dX11_text_256 rfl ?_
    refine j_iload_n dX11_text_258 rfl rfl ?_
    refine j_cSRip dX11_text_259 sm_mm_sizeOf lk_X11_191 rfl (As := [(0, a1)]) (S := [(0, x4_256)]) rfl ⟨by decide, by decide⟩ (Nat.le_of_ble_eq_true rfl) (mm_sizeOf_ct a1) ?_
    refine j_icmp_ge (tgt := 291) dX11_text_262 rfl (fun h262 => ?_) (fun h262 => ?_)
    · refine j_aload_n dX11_text_265 rfl rfl ?_
      refine j_grm dX11_text_266 gf_X11_7 om_201 (Or.inl (by decide)) rf_201_0 ?_
      refine j_iload_n dX11_text_269 rfl rfl ?_
      refine j_iload_n dX11_text_270 rfl rfl ?_
      refine j_cSRip dX11_text_271 sm_mm_placeOf lk_X11_194 rfl (As := [(0, a1), (0, x3_256)]) (S := [(2, 202)]) rfl ⟨by decide, by decide⟩ (Nat.le_of_ble_eq_true rfl) (mm_placeOf_ct a1 x3_256) ?_
      refine j_iload dX11_text_274 rfl ?_
      refine j_iadd dX11_text_276 ?_
      refine j_aload_n dX11_text_277 rfl rfl ?_
      refine j_grm dX11_text_278 gf_X11_17 om_201 (Or.inl (by decide)) rf_201_11 ?_
      refine j_iload dX11_text_281 rfl ?_
      refine j_gd (fun h283a h283b => ?_)
      refine j_aim dX11_text_283 om_204 rfl h283a h283b ?_
      refine j_gd (fun h284a h284b => ?_)
      refine j_sim dX11_text_284 om_202 rfl h284a h284b ?_
      refine j_iinc dX11_text_285 rfl (Nat.le_of_ble_eq_true rfl) rfl ?_
      refine j_goto (tgt := 256) dX11_text_288 rfl ?_
      exact j_mask [true, true, false, true, true] rfl (ih (w32 (x4_256 + 1)) (upd2 G_256 202 (w32 ((mm_placeOf a1 x3_256) + x4_256)) (G_256 204 x4_256)))
    · refine j_iload_n dX11_text_291 rfl rfl ?_
      exact j_ireturn dX11_text_292 rfl rfl (Nat.zero_le _) (Nat.zero_le _)

set_option maxRecDepth 100000 in
theorem mm_text_j253_J {l : Launch} {H : Hp} (a1 : Int) (a2 : Int) (x3_253 : Int) (G_253 : Hp) : J l M_mm_text (KWi (fun g => fu H g)) (mm_text_j253 a1 a2  x3_253 G_253) 253 [(2, 201), (0, a1), (9, 0), (0, x3_253), (9, 0)] [] 224 (fu H G_253) (0, 0) := by
  unfold mm_text_j253
  refine j_iconst dX11_text_253 r32_0 ?_
  refine j_istore dX11_text_254 (Nat.le_of_ble_eq_true rfl) rfl ?_
  exact j_mask [true, true, false, true, true] rfl (mm_text_L256_J a1 a2 x3_253 FU 0 G_253)

set_option maxRecDepth 100000 in
theorem mm_text_j237_J {l : Launch} {H : Hp} (a1 : Int) (a2 : Int) (s0_237 : Int) (G_237 : Hp) : J l M_mm_text (KWi (fun g => fu H g)) (mm_text_j237 a1 a2  s0_237 G_237) 237 [(2, 201), (0, a1), (0, a2), (9, 0), (9, 0)] [(0, s0_237)] 224 (fu H G_237) (0, 0) := by
  unfold mm_text_j237
  refine j_istore_n dX11_text_237 rfl (Nat.le_of_ble_eq_true rfl) rfl ?_
  refine j_iload_n dX11_text_238 rfl rfl ?_
  refine j_iconst dX11_text_239 r32_m1 ?_
  refine j_icmp_ne (tgt := 253) dX11_text_240 rfl (fun h240 => ?_) (fun h240 => ?_)
  · refine j_aload_n dX11_text_243 rfl rfl ?_
    refine j_grm dX11_text_244 gf_X11_7 om_201 (Or.inl (by decide)) rf_201_0 ?_
    refine j_iload_n dX11_text_247 rfl rfl ?_
    refine j_dup2 dX11_text_248 (by decide) (by decide) ?_
    refine j_gd (fun h249a h249b => ?_)
    refine j_aim dX11_text_249 om_202 rfl h249a h249b ?_
    refine j_iconst dX11_text_250 r32_1 ?_
    refine j_iadd dX11_text_251 ?_
    refine j_gd (fun h252a h252b => ?_)
    refine j_sim dX11_text_252 om_202 rfl h252a h252b ?_
    exact j_mask [true, true, false, true, false] rfl (mm_text_j253_J a1 a2 s0_237 (upd2 G_237 202 a1 (w32 ((G_237 202 a1) + 1))))
  · exact j_mask [true, true, false, true, false] rfl (mm_text_j253_J a1 a2 s0_237 G_237)

set_option maxRecDepth 100000 in
theorem mm_text_j211_J {l : Launch} {H : Hp} (a1 : Int) (a2 : Int) (G_211 : Hp) : J l M_mm_text (KWi (fun g => fu H g)) (mm_text_j211 a1 a2  G_211) 211 [(2, 201), (0, a1), (0, a2), (9, 0), (9, 0)] [] 224 (fu H G_211) (0, 0) := by
  unfold mm_text_j211
  refine j_aload_n dX11_text_211 rfl rfl ?_
  refine j_grm dX11_text_212 gf_X11_7 om_201 (Or.inl (by decide)) rf_201_0 ?_
  refine j_iconst dX11_text_215 r32_5 ?_
  refine j_aim dX11_text_216 om_202 rfl (by decide) (by decide) ?_
  refine j_if_eq (tgt := 222) dX11_text_217 rfl (fun h217 => ?_) (fun h217 => ?_)
  · refine j_iload_n dX11_text_222 rfl rfl ?_
    refine j_iconst dX11_text_223 r32_m1 ?_
    refine j_icmp_ne (tgt := 236) dX11_text_224 rfl (fun h224 => ?_) (fun h224 => ?_)
    · refine j_aload_n dX11_text_227 rfl rfl ?_
      refine j_grm dX11_text_228 gf_X11_7 om_201 (Or.inl (by decide)) rf_201_0 ?_
      refine j_iload_n dX11_text_231 rfl rfl ?_
      refine j_gd (fun h232a h232b => ?_)
      refine j_aim dX11_text_232 om_202 rfl h232a h232b ?_
      refine j_goto (tgt := 237) dX11_text_233 rfl ?_
      exact j_mask [true, true, true, false, false] rfl (mm_text_j237_J a1 a2 (G_211 202 a1) G_211)
    · refine j_iload_n dX11_text_236 rfl rfl ?_
      exact j_mask [true, true, true, false, false] rfl (mm_text_j237_J a1 a2 a2 G_211)
  · refine j_iconst dX11_text_220 r32_m1 ?_
    exact j_ireturn dX11_text_221 rfl rfl (Nat.zero_le _) (Nat.zero_le _)

set_option maxRecDepth 100000 in
theorem mm_text_j176_J {l : Launch} {H : Hp} (a1 : Int) (a2 : Int) (G_176 : Hp) : J l M_mm_text (KWi (fun g => fu H g)) (mm_text_j176 a1 a2  G_176) 176 [(2, 201), (0, a1), (0, a2), (9, 0), (9, 0)] [] 224 (fu H G_176) (0, 0) := by
  unfold mm_text_j176
  refine j_iload_n dX11_text_176 rfl rfl ?_
  refine j_if_ne (tgt := 211) dX11_text_177 rfl (fun h177 => ?_) (fun h177 => ?_)
  · refine j_aload_n dX11_text_180 rfl rfl ?_
    refine j_grm dX11_text_181 gf_X11_7 om_201 (Or.inl (by decide)) rf_201_0 ?_
    refine j_iconst dX11_text_184 r32_5 ?_
    refine j_aim dX11_text_185 om_202 rfl (by decide) (by decide) ?_
    refine j_if_ne (tgt := 211) dX11_text_186 rfl (fun h186 => ?_) (fun h186 => ?_)
    · refine j_aload_n dX11_text_189 rfl rfl ?_
      refine j_gim dX11_text_190 gf_X11_153 om_201 ?_
      refine j_aload_n dX11_text_193 rfl rfl ?_
      refine j_grm dX11_text_194 gf_X11_17 om_201 (Or.inl (by decide)) rf_201_11 ?_
      refine j_iconst dX11_text_197 r32_0 ?_
      refine j_aim dX11_text_198 om_204 rfl (by decide) (by decide) ?_
      refine j_icmp_lt (tgt := 211) dX11_text_199 rfl (fun h199 => ?_) (fun h199 => ?_)
      · refine j_aload_n dX11_text_202 rfl rfl ?_
        refine j_iconst dX11_text_203 r32_5 ?_
        refine j_aload_n dX11_text_204 rfl rfl ?_
        refine j_gim dX11_text_205 gf_X11_98 om_201 ?_
        refine j_cVWv dX11_text_208 im_mm_also lk_X11_136 rfl (As := [(0, 5), (0, G_176 201 4)]) (S := []) rfl om_201.1 ⟨by decide, by decide⟩ (Nat.le_of_ble_eq_true rfl) (fun r hr => mm_also_ct 5 (G_176 201 4) G_176 hr) (fun G208 _ => ?_)
        exact j_mask [true, true, true, false, false] rfl (mm_text_j211_J a1 a2 G208)
      · exact j_mask [true, true, true, false, false] rfl (mm_text_j211_J a1 a2 G_176)
    · exact j_mask [true, true, true, false, false] rfl (mm_text_j211_J a1 a2 G_176)
  · exact j_mask [true, true, true, false, false] rfl (mm_text_j211_J a1 a2 G_176)

set_option maxRecDepth 100000 in
theorem mm_text_j71_J {l : Launch} {H : Hp} (a1 : Int) (a2 : Int) (G_71 : Hp) : J l M_mm_text (KWi (fun g => fu H g)) (mm_text_j71 a1 a2  G_71) 71 [(2, 201), (0, a1), (0, a2), (9, 0), (9, 0)] [] 224 (fu H G_71) (0, 0) := by
  unfold mm_text_j71
  refine j_aload_n dX11_text_71 rfl rfl ?_
  refine j_iload_n dX11_text_72 rfl rfl ?_
  refine j_cVWv dX11_text_73 im_mm_beginsText lk_X11_179 rfl (As := [(0, a1)]) (S := []) rfl om_201.1 ⟨by decide, by decide⟩ (Nat.le_of_ble_eq_true rfl) (fun r hr => mm_beginsText_ct a1 G_71 hr) (fun G73 _ => ?_)
  refine j_aload_n dX11_text_76 rfl rfl ?_
  refine j_cVWv dX11_text_77 im_mm_advance lk_X11_140 rfl (As := []) (S := []) rfl om_201.1 ⟨by decide, by decide⟩ (Nat.le_of_ble_eq_true rfl) (fun r hr => mm_advance_ct  G73 hr) (fun G77 _ => ?_)
  refine j_mask [true, true, true, false, false] rfl (mm_text_L80_J a1 a2 (fun G_141 => if a1 = 0 then (if G_141 202 5 = 0 then (if G_141 204 1 ≤ G_141 201 9 then ((mm_also 4 (G_141 201 4) G_141).bind fun G173 => mm_text_j176 a1 a2 G173) else mm_text_j176 a1 a2 G_141) else mm_text_j176 a1 a2 G_141) else mm_text_j176 a1 a2 G_141) (fun G_141 => ?_) FU G77)
  refine j_iload_n dX11_text_141 rfl rfl ?_
  refine j_if_ne (tgt := 176) dX11_text_142 rfl (fun h142 => ?_) (fun h142 => ?_)
  · refine j_aload_n dX11_text_145 rfl rfl ?_
    refine j_grm dX11_text_146 gf_X11_7 om_201 (Or.inl (by decide)) rf_201_0 ?_
    refine j_iconst dX11_text_149 r32_5 ?_
    refine j_aim dX11_text_150 om_202 rfl (by decide) (by decide) ?_
    refine j_if_ne (tgt := 176) dX11_text_151 rfl (fun h151 => ?_) (fun h151 => ?_)
    · refine j_aload_n dX11_text_154 rfl rfl ?_
      refine j_gim dX11_text_155 gf_X11_150 om_201 ?_
      refine j_aload_n dX11_text_158 rfl rfl ?_
      refine j_grm dX11_text_159 gf_X11_17 om_201 (Or.inl (by decide)) rf_201_11 ?_
      refine j_iconst dX11_text_162 r32_1 ?_
      refine j_aim dX11_text_163 om_204 rfl (by decide) (by decide) ?_
      refine j_icmp_lt (tgt := 176) dX11_text_164 rfl (fun h164 => ?_) (fun h164 => ?_)
      · refine j_aload_n dX11_text_167 rfl rfl ?_
        refine j_iconst dX11_text_168 r32_4 ?_
        refine j_aload_n dX11_text_169 rfl rfl ?_
        refine j_gim dX11_text_170 gf_X11_98 om_201 ?_
        refine j_cVWv dX11_text_173 im_mm_also lk_X11_136 rfl (As := [(0, 4), (0, G_141 201 4)]) (S := []) rfl om_201.1 ⟨by decide, by decide⟩ (Nat.le_of_ble_eq_true rfl) (fun r hr => mm_also_ct 4 (G_141 201 4) G_141 hr) (fun G173 _ => ?_)
        exact j_mask [true, true, true, false, false] rfl (mm_text_j176_J a1 a2 G173)
      · exact j_mask [true, true, true, false, false] rfl (mm_text_j176_J a1 a2 G_141)
    · exact j_mask [true, true, true, false, false] rfl (mm_text_j176_J a1 a2 G_141)
  · exact j_mask [true, true, true, false, false] rfl (mm_text_j176_J a1 a2 G_141)

set_option maxRecDepth 100000 in
theorem mm_text_J {l : Launch} {H : Hp} (a1 : Int) (a2 : Int) (G : Hp) : J l M_mm_text (KWi (fun g => fu H g)) (mm_text a1 a2 G) 0 [(2, 201), (0, a1), (0, a2), (9, 0), (9, 0)] [] 224 (fu H G) (0, 0) := by
  unfold mm_text
  refine j_aload_n dX11_text_0 rfl rfl ?_
  refine j_aload_n dX11_text_1 rfl rfl ?_
  refine j_grm dX11_text_2 gf_X11_7 om_201 (Or.inl (by decide)) rf_201_0 ?_
  refine j_iconst dX11_text_5 r32_4 ?_
  refine j_aim dX11_text_6 om_202 rfl (by decide) (by decide) ?_
  refine j_pim dX11_text_7 gf_X11_77 po_11_2 om_201 (nf_11_2 _) ?_
  refine j_aload_n dX11_text_10 rfl rfl ?_
  refine j_grm dX11_text_11 gf_X11_7 om_201 (Or.inl (by decide)) rf_201_0 ?_
  refine j_iconst dX11_text_14 r32_4 ?_
  refine j_iconst dX11_text_15 r32_0 ?_
  refine j_sim dX11_text_16 om_202 rfl (by decide) (by decide) ?_
  refine j_aload_n dX11_text_17 rfl rfl ?_
  refine j_grm dX11_text_18 gf_X11_7 om_201 (Or.inl (by decide)) rf_201_0 ?_
  refine j_iconst dX11_text_21 r32_5 ?_
  refine j_iconst dX11_text_22 r32_0 ?_
  refine j_sim dX11_text_23 om_202 rfl (by decide) (by decide) ?_
  refine j_aload_n dX11_text_24 rfl rfl ?_
  refine j_grm dX11_text_25 gf_X11_7 om_201 (Or.inl (by decide)) rf_201_0 ?_
  refine j_bipush dX11_text_28 r32_6 bp_6 ?_
  refine j_iconst dX11_text_30 r32_m1 ?_
  refine j_sim dX11_text_31 om_202 rfl (by decide) (by decide) ?_
  refine j_iload_n dX11_text_32 rfl rfl ?_
  refine j_iconst dX11_text_33 r32_0 ?_
  refine j_iconst dX11_text_34 r32_2 ?_
  refine j_cSRbp dX11_text_35 sm_mm_isIn lk_X11_132 rfl (As := [(0, a1), (0, 0), (0, 2)]) (S := []) rfl ⟨by decide, by decide⟩ (Nat.le_of_ble_eq_true rfl) (mm_isIn_ct a1 0 2) ?_
  refine j_ifb_eq (tgt := 68) dX11_text_38 rfl (fun h38 => ?_) (fun h38 => ?_)
  · refine j_iload_n dX11_text_41 rfl rfl ?_
    refine j_iconst dX11_text_42 r32_m1 ?_
    refine j_icmp_ne (tgt := 59) dX11_text_43 rfl (fun h43 => ?_) (fun h43 => ?_)
    · refine j_aload_n dX11_text_46 rfl rfl ?_
      refine j_grm dX11_text_47 gf_X11_7 om_201 (Or.inl (by decide)) rf_201_0 ?_
      refine j_iload_n dX11_text_50 rfl rfl ?_
      refine j_gd (fun h51a h51b => ?_)
      refine j_aim dX11_text_51 om_202 rfl h51a h51b ?_
      refine j_iconst dX11_text_52 r32_2 ?_
      refine j_icmp_lt (tgt := 71) dX11_text_53 rfl (fun h53 => ?_) (fun h53 => ?_)
      · refine j_goto (tgt := 68) dX11_text_56 rfl ?_
        refine j_bipush dX11_text_68 r32_m2 bp_m2 ?_
        exact j_ireturn dX11_text_70 rfl rfl (Nat.zero_le _) (Nat.zero_le _)
      · exact j_mask [true, true, true, false, false] rfl (mm_text_j71_J a1 a2 (upd2 (upd2 (upd2 (upd2 G 201 2 (G 202 4)) 202 4 0) 202 5 0) 202 6 (-1)))
    · refine j_aload_n dX11_text_59 rfl rfl ?_
      refine j_iload_n dX11_text_60 rfl rfl ?_
      refine j_iload_n dX11_text_61 rfl rfl ?_
      refine j_cVRb dX11_text_62 im_mm_isOf lk_X11_175 rfl (As := [(0, a1), (0, a2)]) (S := []) rfl om_201.1 ⟨by decide, by decide⟩ (Nat.le_of_ble_eq_true rfl) (fun r hr => mm_isOf_ct a1 a2 (upd2 (upd2 (upd2 (upd2 G 201 2 (G 202 4)) 202 4 0) 202 5 0) 202 6 (-1)) hr) (fun v62 _ => ?_)
      refine j_ifb_ne (tgt := 71) dX11_text_65 rfl (fun h65 => ?_) (fun h65 => ?_)
      · exact j_mask [true, true, true, false, false] rfl (mm_text_j71_J a1 a2 (upd2 (upd2 (upd2 (upd2 G 201 2 (G 202 4)) 202 4 0) 202 5 0) 202 6 (-1)))
      · refine j_bipush dX11_text_68 r32_m2 bp_m2 ?_
        exact j_ireturn dX11_text_70 rfl rfl (Nat.zero_le _) (Nat.zero_le _)
  · refine j_bipush dX11_text_68 r32_m2 bp_m2 ?_
    exact j_ireturn dX11_text_70 rfl rfl (Nat.zero_le _) (Nat.zero_le _)

set_option maxRecDepth 100000 in
theorem mm_text_ct {l : Launch} {H : Hp} (a1 : Int) (a2 : Int) (G : Hp) {r : Int × Hp} (h : mm_text a1 a2 G = some r) : Ct l M_mm_text [(2, 201), (0, a1), (0, a2)] 224 (fu H G) ((KWi (fun g => fu H g)) r) :=
  ct_of_J (by decide +kernel) rfl (Nat.le_of_ble_eq_true rfl) (mm_text_J a1 a2 G) h
set_option maxRecDepth 100000 in
theorem mm_fault_J {l : Launch} {H : Hp} (a1 : Int) (G : Hp) : J l M_mm_fault (KRi (fu H G)) (mm_fault a1 G) 0 [(2, 201), (0, a1)] [] 224 (fu H G) (0, 0) := by
  unfold mm_fault
  refine j_iload_n dX11_fault_0 rfl rfl ?_
  refine j_if_ne (tgt := 13) dX11_fault_1 rfl (fun h1 => ?_) (fun h1 => ?_)
  · refine j_aload_n dX11_fault_4 rfl rfl ?_
    refine j_grm dX11_fault_5 gf_X11_7 om_201 (Or.inl (by decide)) rf_201_0 ?_
    refine j_iconst dX11_fault_8 r32_5 ?_
    refine j_aim dX11_fault_9 om_202 rfl (by decide) (by decide) ?_
    refine j_goto (tgt := 29) dX11_fault_10 rfl ?_
    exact j_ireturn dX11_fault_29 rfl rfl (Nat.zero_le _) (Nat.zero_le _)
  · refine j_iload_n dX11_fault_13 rfl rfl ?_
    refine j_iconst dX11_fault_14 r32_1 ?_
    refine j_icmp_ne (tgt := 28) dX11_fault_15 rfl (fun h15 => ?_) (fun h15 => ?_)
    · refine j_aload_n dX11_fault_18 rfl rfl ?_
      refine j_grm dX11_fault_19 gf_X11_7 om_201 (Or.inl (by decide)) rf_201_0 ?_
      refine j_bipush dX11_fault_22 r32_6 bp_6 ?_
      refine j_aim dX11_fault_24 om_202 rfl (by decide) (by decide) ?_
      refine j_goto (tgt := 29) dX11_fault_25 rfl ?_
      exact j_ireturn dX11_fault_29 rfl rfl (Nat.zero_le _) (Nat.zero_le _)
    · refine j_iconst dX11_fault_28 r32_m1 ?_
      exact j_ireturn dX11_fault_29 rfl rfl (Nat.zero_le _) (Nat.zero_le _)

set_option maxRecDepth 100000 in
theorem mm_fault_ct {l : Launch} {H : Hp} (a1 : Int) (G : Hp) {r : Int} (h : mm_fault a1 G = some r) : Ct l M_mm_fault [(2, 201), (0, a1)] 224 (fu H G) ((KRi (fu H G)) r) :=
  ct_of_J (by decide +kernel) rfl (Nat.le_of_ble_eq_true rfl) (mm_fault_J a1 G) h
set_option maxRecDepth 100000 in
theorem mm_wordTold0_J {l : Launch} {H : Hp} (a1 : Int) (G : Hp) : J l M_mm_wordTold0 (KRi (fu H G)) (mm_wordTold0 a1 G) 0 [(2, 201), (0, a1)] [] 224 (fu H G) (0, 0) := by
  unfold mm_wordTold0
  refine j_aload_n dX11_wordTold0_0 rfl rfl ?_
  refine j_grm dX11_wordTold0_1 gf_X11_7 om_201 (Or.inl (by decide)) rf_201_0 ?_
  refine j_aload_n dX11_wordTold0_4 rfl rfl ?_
  refine j_gim dX11_wordTold0_5 gf_X11_197 om_201 ?_
  refine j_iconst dX11_wordTold0_8 r32_2 ?_
  refine j_iadd dX11_wordTold0_9 ?_
  refine j_iload_n dX11_wordTold0_10 rfl rfl ?_
  refine j_iadd dX11_wordTold0_11 ?_
  refine j_gd (fun h12a h12b => ?_)
  refine j_aim dX11_wordTold0_12 om_202 rfl h12a h12b ?_
  exact j_ireturn dX11_wordTold0_13 rfl rfl (Nat.zero_le _) (Nat.zero_le _)

set_option maxRecDepth 100000 in
theorem mm_wordTold0_ct {l : Launch} {H : Hp} (a1 : Int) (G : Hp) {r : Int} (h : mm_wordTold0 a1 G = some r) : Ct l M_mm_wordTold0 [(2, 201), (0, a1)] 224 (fu H G) ((KRi (fu H G)) r) :=
  ct_of_J (by decide +kernel) rfl (Nat.le_of_ble_eq_true rfl) (mm_wordTold0_J a1 G) h
set_option maxRecDepth 100000 in
theorem mm_beginsProof_L7_J {l : Launch} {H : Hp} (k37 : Hp → Option (Hp)) (hk37 : ∀ (G_37 : Hp), J l M_mm_beginsProof (KWv (fun g => fu H g)) (k37 G_37) 37 [(2, 201), (9, 0)] [] 224 (fu H G_37) (0, 0)) : ∀ (n_7 : Nat) (x1_7 : Int) (G_7 : Hp), J l M_mm_beginsProof (KWv (fun g => fu H g)) (mm_beginsProof_L7 k37 n_7 x1_7 G_7) 7 [(2, 201), (0, x1_7)] [] 224 (fu H G_7) (0, 0) := by
  intro n_7
  induction n_7 with
  | zero =>
    intro x1_7 G_7
    exact j_none
  | succ n_7 ih =>
    intro x1_7 G_7
    rw [mm_beginsProof_L7]
    refine j_iload_n dX11_beginsProof_7 rfl rfl ?_
    refine j_bipush dX11_beginsProof_8 r32_8 bp_8 ?_
    refine j_icmp_ge (tgt := 37) dX11_beginsProof_10 rfl (fun h10 => ?_) (fun h10 => ?_)
    · refine j_aload_n dX11_beginsProof_13 rfl rfl ?_
      refine j_grm dX11_beginsProof_14 gf_X11_26 om_201 (Or.inl (by decide)) rf_201_23 ?_
      refine j_iload_n dX11_beginsProof_17 rfl rfl ?_
      refine j_aload_n dX11_beginsProof_18 rfl rfl ?_
      refine j_iload_n dX11_beginsProof_19 rfl rfl ?_
      refine j_cVRi dX11_beginsProof_20 im_mm_wordTold0 lk_X11_215 rfl (As := [(0, x1_7)]) (S := [(0, x1_7), (2, 207)]) rfl om_201.1 ⟨by decide, by decide⟩ (Nat.le_of_ble_eq_true rfl) (fun r hr => mm_wordTold0_ct x1_7 G_7 hr) (fun v20 _ => ?_)
      refine j_gd (fun h23a h23b => ?_)
      refine j_sim dX11_beginsProof_23 om_207 rfl h23a h23b ?_
      refine j_aload_n dX11_beginsProof_24 rfl rfl ?_
      refine j_grm dX11_beginsProof_25 gf_X11_38 om_201 (Or.inl (by decide)) rf_201_27 ?_
      refine j_iload_n dX11_beginsProof_28 rfl rfl ?_
      refine j_iconst dX11_beginsProof_29 r32_m1 ?_
      refine j_gd (fun h30a h30b => ?_)
      refine j_sim dX11_beginsProof_30 om_211 rfl h30a h30b ?_
      refine j_iinc dX11_beginsProof_31 rfl (Nat.le_of_ble_eq_true rfl) rfl ?_
      refine j_goto (tgt := 7) dX11_beginsProof_34 rfl ?_
      exact j_mask [true, true] rfl (ih (w32 (x1_7 + 1)) (upd2 (upd2 G_7 207 x1_7 v20) 211 x1_7 (-1)))
    · exact j_mask [true, false] rfl (hk37 G_7)

set_option maxRecDepth 100000 in
theorem mm_beginsProof_L39_J {l : Launch} {H : Hp} : ∀ (n_39 : Nat) (x1_39 : Int) (G_39 : Hp), J l M_mm_beginsProof (KWv (fun g => fu H g)) (mm_beginsProof_L39  n_39 x1_39 G_39) 39 [(2, 201), (0, x1_39)] [] 224 (fu H G_39) (0, 0) := by
  intro n_39
  induction n_39 with
  | zero =>
    intro x1_39 G_39
    exact j_none
  | succ n_39 ih =>
    intro x1_39 G_39
    rw [mm_beginsProof_L39]
    refine j_iload_n dX11_beginsProof_39 rfl rfl ?_
    refine j_bipush dX11_beginsProof_40 r32_6 bp_6 ?_
    refine j_icmp_ge (tgt := 65) dX11_beginsProof_42 rfl (fun h42 => ?_) (fun h42 => ?_)
    · refine j_aload_n dX11_beginsProof_45 rfl rfl ?_
      refine j_grm dX11_beginsProof_46 gf_X11_32 om_201 (Or.inl (by decide)) rf_201_25 ?_
      refine j_iload_n dX11_beginsProof_49 rfl rfl ?_
      refine j_iconst dX11_beginsProof_50 r32_0 ?_
      refine j_gd (fun h51a h51b => ?_)
      refine j_sim dX11_beginsProof_51 om_209 rfl h51a h51b ?_
      refine j_aload_n dX11_beginsProof_52 rfl rfl ?_
      refine j_grm dX11_beginsProof_53 gf_X11_35 om_201 (Or.inl (by decide)) rf_201_26 ?_
      refine j_iload_n dX11_beginsProof_56 rfl rfl ?_
      refine j_iconst dX11_beginsProof_57 r32_0 ?_
      refine j_gd (fun h58a h58b => ?_)
      refine j_sim dX11_beginsProof_58 om_210 rfl h58a h58b ?_
      refine j_iinc dX11_beginsProof_59 rfl (Nat.le_of_ble_eq_true rfl) rfl ?_
      refine j_goto (tgt := 39) dX11_beginsProof_62 rfl ?_
      exact j_mask [true, true] rfl (ih (w32 (x1_39 + 1)) (upd2 (upd2 G_39 209 x1_39 0) 210 x1_39 0))
    · exact j_return dX11_beginsProof_65 rfl rfl (Nat.zero_le _) (Nat.zero_le _)

set_option maxRecDepth 100000 in
theorem mm_beginsProof_J {l : Launch} {H : Hp} (G : Hp) : J l M_mm_beginsProof (KWv (fun g => fu H g)) (mm_beginsProof  G) 0 [(2, 201), (9, 0)] [] 224 (fu H G) (0, 0) := by
  unfold mm_beginsProof
  refine j_aload_n dX11_beginsProof_0 rfl rfl ?_
  refine j_iconst dX11_beginsProof_1 r32_0 ?_
  refine j_pim dX11_beginsProof_2 gf_X11_242 po_11_17 om_201 (nf_11_17 _) ?_
  refine j_iconst dX11_beginsProof_5 r32_0 ?_
  refine j_istore_n dX11_beginsProof_6 rfl (Nat.le_of_ble_eq_true rfl) rfl ?_
  refine j_mask [true, true] rfl (mm_beginsProof_L7_J (fun G_37 => mm_beginsProof_L39 FU 0 G_37) (fun G_37 => ?_) FU 0 (upd2 G 201 17 0))
  refine j_iconst dX11_beginsProof_37 r32_0 ?_
  refine j_istore_n dX11_beginsProof_38 rfl (Nat.le_of_ble_eq_true rfl) rfl ?_
  exact j_mask [true, true] rfl (mm_beginsProof_L39_J FU 0 G_37)

set_option maxRecDepth 100000 in
theorem mm_beginsProof_ct {l : Launch} {H : Hp} (G : Hp) {r : Hp} (h : mm_beginsProof  G = some r) : Ct l M_mm_beginsProof [(2, 201)] 224 (fu H G) ((KWv (fun g => fu H g)) r) :=
  ct_of_J (by decide +kernel) rfl (Nat.le_of_ble_eq_true rfl) (mm_beginsProof_J  G) h
set_option maxRecDepth 100000 in
theorem mm_laysSteps_L14_J {l : Launch} {H : Hp} (x1_14 : Int) (x2_14 : Int) (k47 : Hp → Option (Hp)) (hk47 : ∀ (G_47 : Hp), J l M_mm_laysSteps (KWv (fun g => fu H g)) (k47 G_47) 47 [(2, 201), (0, x1_14), (0, x2_14), (9, 0), (9, 0), (9, 0)] [] 224 (fu H G_47) (0, 0)) : ∀ (n_14 : Nat) (x3_14 : Int) (G_14 : Hp), J l M_mm_laysSteps (KWv (fun g => fu H g)) (mm_laysSteps_L14 x1_14 x2_14 k47 n_14 x3_14 G_14) 14 [(2, 201), (0, x1_14), (0, x2_14), (0, x3_14), (9, 0), (9, 0)] [] 224 (fu H G_14) (0, 0) := by
  intro n_14
  induction n_14 with
  | zero =>
    intro x3_14 G_14
    exact j_none
  | succ n_14 ih =>
    intro x3_14 G_14
    rw [mm_laysSteps_L14]
    refine j_iload_n dX11_laysSteps_14 rfl rfl ?_
    refine j_bipush dX11_laysSteps_15 r32_10 bp_10 ?_
    refine j_icmp_ge (tgt := 47) dX11_laysSteps_17 rfl (fun h17 => ?_) (fun h17 => ?_)
    · refine j_aload_n dX11_laysSteps_20 rfl rfl ?_
      refine j_grm dX11_laysSteps_21 gf_X11_23 om_201 (Or.inl (by decide)) rf_201_16 ?_
      refine j_bipush dX11_laysSteps_24 r32_10 bp_10 ?_
      refine j_iload_n dX11_laysSteps_26 rfl rfl ?_
      refine j_imul dX11_laysSteps_27 ?_
      refine j_iload_n dX11_laysSteps_28 rfl rfl ?_
      refine j_iadd dX11_laysSteps_29 ?_
      refine j_iload_n dX11_laysSteps_30 rfl rfl ?_
      refine j_iload_n dX11_laysSteps_31 rfl rfl ?_
      refine j_icmp_ne (tgt := 39) dX11_laysSteps_32 rfl (fun h32 => ?_) (fun h32 => ?_)
      · refine j_iconst dX11_laysSteps_35 r32_0 ?_
        refine j_goto (tgt := 40) dX11_laysSteps_36 rfl ?_
        refine j_gd (fun h40a h40b => ?_)
        refine j_sim dX11_laysSteps_40 om_206 rfl h40a h40b ?_
        refine j_iinc dX11_laysSteps_41 rfl (Nat.le_of_ble_eq_true rfl) rfl ?_
        refine j_goto (tgt := 14) dX11_laysSteps_44 rfl ?_
        exact j_mask [true, true, true, true, false, false] rfl (ih (w32 (x3_14 + 1)) (upd2 G_14 206 (w32 ((w32 (10 * x1_14)) + x3_14)) 0))
      · refine j_iconst dX11_laysSteps_39 r32_m1 ?_
        refine j_gd (fun h40a h40b => ?_)
        refine j_sim dX11_laysSteps_40 om_206 rfl h40a h40b ?_
        refine j_iinc dX11_laysSteps_41 rfl (Nat.le_of_ble_eq_true rfl) rfl ?_
        refine j_goto (tgt := 14) dX11_laysSteps_44 rfl ?_
        exact j_mask [true, true, true, true, false, false] rfl (ih (w32 (x3_14 + 1)) (upd2 G_14 206 (w32 ((w32 (10 * x1_14)) + x3_14)) (-1)))
    · exact j_mask [true, true, true, false, false, false] rfl (hk47 G_14)

set_option maxRecDepth 100000 in
theorem mm_laysSteps_L61_J {l : Launch} {H : Hp} (x1_61 : Int) (x2_61 : Int) (x3_61 : Int) (G_61 : Hp) (k100 : Int → Option (Hp)) (hk100 : ∀ (x4_100 : Int), J l M_mm_laysSteps (KWv (fun g => fu H g)) (k100 x4_100) 100 [(2, 201), (0, x1_61), (0, x2_61), (0, x3_61), (0, x4_100), (9, 0)] [] 224 (fu H G_61) (0, 0)) : ∀ (n_61 : Nat) (x4_61 : Int) (x5_61 : Int), J l M_mm_laysSteps (KWv (fun g => fu H g)) (mm_laysSteps_L61 x1_61 x2_61 x3_61 G_61 k100 n_61 x4_61 x5_61) 61 [(2, 201), (0, x1_61), (0, x2_61), (0, x3_61), (0, x4_61), (0, x5_61)] [] 224 (fu H G_61) (0, 0) := by
  intro n_61
  induction n_61 with
  | zero =>
    intro x4_61 x5_61
    exact j_none
  | succ n_61 ih =>
    intro x4_61 x5_61
    rw [mm_laysSteps_L61]
    refine j_iload dX11_laysSteps_61 rfl ?_
    refine j_bipush dX11_laysSteps_63 r32_10 bp_10 ?_
    refine j_icmp_ge (tgt := 100) dX11_laysSteps_65 rfl (fun h65 => ?_) (fun h65 => ?_)
    · refine j_iload dX11_laysSteps_68 rfl ?_
      refine j_iload_n dX11_laysSteps_70 rfl rfl ?_
      refine j_iload dX11_laysSteps_71 rfl ?_
      refine j_ishr dX11_laysSteps_73 ?_
      refine j_iconst dX11_laysSteps_74 r32_1 ?_
      refine j_iand dX11_laysSteps_75 ?_
      refine j_iconst dX11_laysSteps_76 r32_1 ?_
      refine j_icmp_ne (tgt := 90) dX11_laysSteps_77 rfl (fun h77 => ?_) (fun h77 => ?_)
      · refine j_aload_n dX11_laysSteps_80 rfl rfl ?_
        refine j_grm dX11_laysSteps_81 gf_X11_20 om_201 (Or.inl (by decide)) rf_201_15 ?_
        refine j_iload dX11_laysSteps_84 rfl ?_
        refine j_gd (fun h86a h86b => ?_)
        refine j_aim dX11_laysSteps_86 om_205 rfl h86a h86b ?_
        refine j_goto (tgt := 91) dX11_laysSteps_87 rfl ?_
        refine j_ior dX11_laysSteps_91 ?_
        refine j_istore dX11_laysSteps_92 (Nat.le_of_ble_eq_true rfl) rfl ?_
        refine j_iinc dX11_laysSteps_94 rfl (Nat.le_of_ble_eq_true rfl) rfl ?_
        refine j_goto (tgt := 61) dX11_laysSteps_97 rfl ?_
        exact j_mask [true, true, true, true, true, true] rfl (ih (ior x4_61 (G_61 205 x5_61)) (w32 (x5_61 + 1)))
      · refine j_iconst dX11_laysSteps_90 r32_0 ?_
        refine j_ior dX11_laysSteps_91 ?_
        refine j_istore dX11_laysSteps_92 (Nat.le_of_ble_eq_true rfl) rfl ?_
        refine j_iinc dX11_laysSteps_94 rfl (Nat.le_of_ble_eq_true rfl) rfl ?_
        refine j_goto (tgt := 61) dX11_laysSteps_97 rfl ?_
        exact j_mask [true, true, true, true, true, true] rfl (ih (ior x4_61 0) (w32 (x5_61 + 1)))
    · exact j_mask [true, true, true, true, true, false] rfl (hk100 x4_61)

set_option maxRecDepth 100000 in
theorem mm_laysSteps_L103_J {l : Launch} {H : Hp} (x1_103 : Int) (x2_103 : Int) (x3_103 : Int) (x4_103 : Int) (k144 : Hp → Option (Hp)) (hk144 : ∀ (G_144 : Hp), J l M_mm_laysSteps (KWv (fun g => fu H g)) (k144 G_144) 144 [(2, 201), (0, x1_103), (9, 0), (0, x3_103), (0, x4_103), (9, 0)] [] 224 (fu H G_144) (0, 0)) : ∀ (n_103 : Nat) (x5_103 : Int) (G_103 : Hp), J l M_mm_laysSteps (KWv (fun g => fu H g)) (mm_laysSteps_L103 x1_103 x2_103 x3_103 x4_103 k144 n_103 x5_103 G_103) 103 [(2, 201), (0, x1_103), (0, x2_103), (0, x3_103), (0, x4_103), (0, x5_103)] [] 224 (fu H G_103) (0, 0) := by
  intro n_103
  induction n_103 with
  | zero =>
    intro x5_103 G_103
    exact j_none
  | succ n_103 ih =>
    intro x5_103 G_103
    rw [mm_laysSteps_L103]
    refine j_iload dX11_laysSteps_103 rfl ?_
    refine j_bipush dX11_laysSteps_105 r32_10 bp_10 ?_
    refine j_icmp_ge (tgt := 144) dX11_laysSteps_107 rfl (fun h107 => ?_) (fun h107 => ?_)
    · refine j_iload dX11_laysSteps_110 rfl ?_
      refine j_iload_n dX11_laysSteps_112 rfl rfl ?_
      refine j_iconst dX11_laysSteps_113 r32_m1 ?_
      refine j_ixor dX11_laysSteps_114 ?_
      refine j_iand dX11_laysSteps_115 ?_
      refine j_iload dX11_laysSteps_116 rfl ?_
      refine j_ishr dX11_laysSteps_118 ?_
      refine j_iconst dX11_laysSteps_119 r32_1 ?_
      refine j_iand dX11_laysSteps_120 ?_
      refine j_iconst dX11_laysSteps_121 r32_1 ?_
      refine j_icmp_ne (tgt := 138) dX11_laysSteps_122 rfl (fun h122 => ?_) (fun h122 => ?_)
      · refine j_aload_n dX11_laysSteps_125 rfl rfl ?_
        refine j_grm dX11_laysSteps_126 gf_X11_23 om_201 (Or.inl (by decide)) rf_201_16 ?_
        refine j_bipush dX11_laysSteps_129 r32_10 bp_10 ?_
        refine j_iload_n dX11_laysSteps_131 rfl rfl ?_
        refine j_imul dX11_laysSteps_132 ?_
        refine j_iload dX11_laysSteps_133 rfl ?_
        refine j_iadd dX11_laysSteps_135 ?_
        refine j_iload_n dX11_laysSteps_136 rfl rfl ?_
        refine j_gd (fun h137a h137b => ?_)
        refine j_sim dX11_laysSteps_137 om_206 rfl h137a h137b ?_
        refine j_iinc dX11_laysSteps_138 rfl (Nat.le_of_ble_eq_true rfl) rfl ?_
        refine j_goto (tgt := 103) dX11_laysSteps_141 rfl ?_
        exact j_mask [true, true, true, true, true, true] rfl (ih (w32 (x5_103 + 1)) (upd2 G_103 206 (w32 ((w32 (10 * x1_103)) + x5_103)) x3_103))
      · refine j_iinc dX11_laysSteps_138 rfl (Nat.le_of_ble_eq_true rfl) rfl ?_
        refine j_goto (tgt := 103) dX11_laysSteps_141 rfl ?_
        exact j_mask [true, true, true, true, true, true] rfl (ih (w32 (x5_103 + 1)) G_103)
    · exact j_mask [true, true, false, true, true, false] rfl (hk144 G_103)

set_option maxRecDepth 100000 in
theorem mm_laysSteps_L49_J {l : Launch} {H : Hp} (x1_49 : Int) (k153 : Hp → Option (Hp)) (hk153 : ∀ (G_153 : Hp), J l M_mm_laysSteps (KWv (fun g => fu H g)) (k153 G_153) 153 [(2, 201), (0, x1_49), (9, 0), (9, 0), (9, 0), (9, 0)] [] 224 (fu H G_153) (0, 0)) : ∀ (n_49 : Nat) (x2_49 : Int) (x3_49 : Int) (G_49 : Hp), J l M_mm_laysSteps (KWv (fun g => fu H g)) (mm_laysSteps_L49 x1_49 k153 n_49 x2_49 x3_49 G_49) 49 [(2, 201), (0, x1_49), (0, x2_49), (0, x3_49), (9, 0), (9, 0)] [] 224 (fu H G_49) (0, 0) := by
  intro n_49
  induction n_49 with
  | zero =>
    intro x2_49 x3_49 G_49
    exact j_none
  | succ n_49 ih =>
    intro x2_49 x3_49 G_49
    rw [mm_laysSteps_L49]
    refine j_iload_n dX11_laysSteps_49 rfl rfl ?_
    refine j_bipush dX11_laysSteps_50 r32_10 bp_10 ?_
    refine j_icmp_ge (tgt := 153) dX11_laysSteps_52 rfl (fun h52 => ?_) (fun h52 => ?_)
    · refine j_iload_n dX11_laysSteps_55 rfl rfl ?_
      refine j_istore dX11_laysSteps_56 (Nat.le_of_ble_eq_true rfl) rfl ?_
      refine j_iconst dX11_laysSteps_58 r32_0 ?_
      refine j_istore dX11_laysSteps_59 (Nat.le_of_ble_eq_true rfl) rfl ?_
      refine j_mask [true, true, true, true, true, true] rfl (mm_laysSteps_L61_J x1_49 x2_49 x3_49 G_49 (fun x4_100 => mm_laysSteps_L103 x1_49 x2_49 x3_49 x4_100 (fun G_144 => mm_laysSteps_L49 x1_49 k153 n_49 x4_100 (w32 (x3_49 + 1)) G_144) FU 0 G_49) (fun x4_100 => ?_) FU x2_49 0)
      refine j_iconst dX11_laysSteps_100 r32_0 ?_
      refine j_istore dX11_laysSteps_101 (Nat.le_of_ble_eq_true rfl) rfl ?_
      refine j_mask [true, true, true, true, true, true] rfl (mm_laysSteps_L103_J x1_49 x2_49 x3_49 x4_100 (fun G_144 => mm_laysSteps_L49 x1_49 k153 n_49 x4_100 (w32 (x3_49 + 1)) G_144) (fun G_144 => ?_) FU 0 G_49)
      refine j_iload dX11_laysSteps_144 rfl ?_
      refine j_istore_n dX11_laysSteps_146 rfl (Nat.le_of_ble_eq_true rfl) rfl ?_
      refine j_iinc dX11_laysSteps_147 rfl (Nat.le_of_ble_eq_true rfl) rfl ?_
      refine j_goto (tgt := 49) dX11_laysSteps_150 rfl ?_
      exact j_mask [true, true, true, true, false, false] rfl (ih x4_100 (w32 (x3_49 + 1)) G_144)
    · exact j_mask [true, true, false, false, false, false] rfl (hk153 G_49)

set_option maxRecDepth 100000 in
theorem mm_laysSteps_L2_J {l : Launch} {H : Hp} : ∀ (n_2 : Nat) (x1_2 : Int) (G_2 : Hp), J l M_mm_laysSteps (KWv (fun g => fu H g)) (mm_laysSteps_L2  n_2 x1_2 G_2) 2 [(2, 201), (0, x1_2), (9, 0), (9, 0), (9, 0), (9, 0)] [] 224 (fu H G_2) (0, 0) := by
  intro n_2
  induction n_2 with
  | zero =>
    intro x1_2 G_2
    exact j_none
  | succ n_2 ih =>
    intro x1_2 G_2
    rw [mm_laysSteps_L2]
    refine j_iload_n dX11_laysSteps_2 rfl rfl ?_
    refine j_bipush dX11_laysSteps_3 r32_10 bp_10 ?_
    refine j_icmp_ge (tgt := 159) dX11_laysSteps_5 rfl (fun h5 => ?_) (fun h5 => ?_)
    · refine j_iconst dX11_laysSteps_8 r32_1 ?_
      refine j_iload_n dX11_laysSteps_9 rfl rfl ?_
      refine j_ishl dX11_laysSteps_10 ?_
      refine j_istore_n dX11_laysSteps_11 rfl (Nat.le_of_ble_eq_true rfl) rfl ?_
      refine j_iconst dX11_laysSteps_12 r32_0 ?_
      refine j_istore_n dX11_laysSteps_13 rfl (Nat.le_of_ble_eq_true rfl) rfl ?_
      refine j_mask [true, true, true, true, false, false] rfl (mm_laysSteps_L14_J x1_2 (ishl 1 x1_2) (fun G_47 => mm_laysSteps_L49 x1_2 (fun G_153 => mm_laysSteps_L2 n_2 (w32 (x1_2 + 1)) G_153) FU (ishl 1 x1_2) 1 G_47) (fun G_47 => ?_) FU 0 G_2)
      refine j_iconst dX11_laysSteps_47 r32_1 ?_
      refine j_istore_n dX11_laysSteps_48 rfl (Nat.le_of_ble_eq_true rfl) rfl ?_
      refine j_mask [true, true, true, true, false, false] rfl (mm_laysSteps_L49_J x1_2 (fun G_153 => mm_laysSteps_L2 n_2 (w32 (x1_2 + 1)) G_153) (fun G_153 => ?_) FU (ishl 1 x1_2) 1 G_47)
      refine j_iinc dX11_laysSteps_153 rfl (Nat.le_of_ble_eq_true rfl) rfl ?_
      refine j_goto (tgt := 2) dX11_laysSteps_156 rfl ?_
      exact j_mask [true, true, false, false, false, false] rfl (ih (w32 (x1_2 + 1)) G_153)
    · exact j_return dX11_laysSteps_159 rfl rfl (Nat.zero_le _) (Nat.zero_le _)

set_option maxRecDepth 100000 in
theorem mm_laysSteps_J {l : Launch} {H : Hp} (G : Hp) : J l M_mm_laysSteps (KWv (fun g => fu H g)) (mm_laysSteps  G) 0 [(2, 201), (9, 0), (9, 0), (9, 0), (9, 0), (9, 0)] [] 224 (fu H G) (0, 0) := by
  unfold mm_laysSteps
  refine j_iconst dX11_laysSteps_0 r32_0 ?_
  refine j_istore_n dX11_laysSteps_1 rfl (Nat.le_of_ble_eq_true rfl) rfl ?_
  exact j_mask [true, true, false, false, false, false] rfl (mm_laysSteps_L2_J FU 0 G)

set_option maxRecDepth 100000 in
theorem mm_laysSteps_ct {l : Launch} {H : Hp} (G : Hp) {r : Hp} (h : mm_laysSteps  G = some r) : Ct l M_mm_laysSteps [(2, 201)] 224 (fu H G) ((KWv (fun g => fu H g)) r) :=
  ct_of_J (by decide +kernel) rfl (Nat.le_of_ble_eq_true rfl) (mm_laysSteps_J  G) h
set_option maxRecDepth 100000 in
theorem mm_begins_L31_J {l : Launch} {H : Hp} (k51 : Hp → Option (Hp)) (hk51 : ∀ (G_51 : Hp), J l M_mm_begins (KWv (fun g => fu H g)) (k51 G_51) 51 [(2, 201), (9, 0)] [] 224 (fu H G_51) (0, 0)) : ∀ (n_31 : Nat) (x1_31 : Int) (G_31 : Hp), J l M_mm_begins (KWv (fun g => fu H g)) (mm_begins_L31 k51 n_31 x1_31 G_31) 31 [(2, 201), (0, x1_31)] [] 224 (fu H G_31) (0, 0) := by
  intro n_31
  induction n_31 with
  | zero =>
    intro x1_31 G_31
    exact j_none
  | succ n_31 ih =>
    intro x1_31 G_31
    rw [mm_begins_L31]
    refine j_iload_n dX11_begins_31 rfl rfl ?_
    refine j_bipush dX11_begins_32 r32_8 bp_8 ?_
    refine j_icmp_ge (tgt := 51) dX11_begins_34 rfl (fun h34 => ?_) (fun h34 => ?_)
    · refine j_aload_n dX11_begins_37 rfl rfl ?_
      refine j_grm dX11_begins_38 gf_X11_29 om_201 (Or.inl (by decide)) rf_201_24 ?_
      refine j_iload_n dX11_begins_41 rfl rfl ?_
      refine j_bipush dX11_begins_42 r32_10 bp_10 ?_
      refine j_gd (fun h44a h44b => ?_)
      refine j_sim dX11_begins_44 om_208 rfl h44a h44b ?_
      refine j_iinc dX11_begins_45 rfl (Nat.le_of_ble_eq_true rfl) rfl ?_
      refine j_goto (tgt := 31) dX11_begins_48 rfl ?_
      exact j_mask [true, true] rfl (ih (w32 (x1_31 + 1)) (upd2 G_31 208 x1_31 10))
    · exact j_mask [true, false] rfl (hk51 G_31)

set_option maxRecDepth 100000 in
theorem mm_begins_L53_J {l : Launch} {H : Hp} (k85 : Hp → Option (Hp)) (hk85 : ∀ (G_85 : Hp), J l M_mm_begins (KWv (fun g => fu H g)) (k85 G_85) 85 [(2, 201), (9, 0)] [] 224 (fu H G_85) (0, 0)) : ∀ (n_53 : Nat) (x1_53 : Int) (G_53 : Hp), J l M_mm_begins (KWv (fun g => fu H g)) (mm_begins_L53 k85 n_53 x1_53 G_53) 53 [(2, 201), (0, x1_53)] [] 224 (fu H G_53) (0, 0) := by
  intro n_53
  induction n_53 with
  | zero =>
    intro x1_53 G_53
    exact j_none
  | succ n_53 ih =>
    intro x1_53 G_53
    rw [mm_begins_L53]
    refine j_iload_n dX11_begins_53 rfl rfl ?_
    refine j_bipush dX11_begins_54 r32_10 bp_10 ?_
    refine j_icmp_ge (tgt := 85) dX11_begins_56 rfl (fun h56 => ?_) (fun h56 => ?_)
    · refine j_aload_n dX11_begins_59 rfl rfl ?_
      refine j_grm dX11_begins_60 gf_X11_20 om_201 (Or.inl (by decide)) rf_201_15 ?_
      refine j_iload_n dX11_begins_63 rfl rfl ?_
      refine j_aload_n dX11_begins_64 rfl rfl ?_
      refine j_grm dX11_begins_65 gf_X11_7 om_201 (Or.inl (by decide)) rf_201_0 ?_
      refine j_aload_n dX11_begins_68 rfl rfl ?_
      refine j_gim dX11_begins_69 gf_X11_197 om_201 ?_
      refine j_bipush dX11_begins_72 r32_10 bp_10 ?_
      refine j_iadd dX11_begins_74 ?_
      refine j_iload_n dX11_begins_75 rfl rfl ?_
      refine j_iadd dX11_begins_76 ?_
      refine j_gd (fun h77a h77b => ?_)
      refine j_aim dX11_begins_77 om_202 rfl h77a h77b ?_
      refine j_gd (fun h78a h78b => ?_)
      refine j_sim dX11_begins_78 om_205 rfl h78a h78b ?_
      refine j_iinc dX11_begins_79 rfl (Nat.le_of_ble_eq_true rfl) rfl ?_
      refine j_goto (tgt := 53) dX11_begins_82 rfl ?_
      exact j_mask [true, true] rfl (ih (w32 (x1_53 + 1)) (upd2 G_53 205 x1_53 (G_53 202 (w32 ((w32 ((G_53 201 12) + 10)) + x1_53)))))
    · exact j_mask [true, false] rfl (hk85 G_53)

set_option maxRecDepth 100000 in
theorem mm_begins_J {l : Launch} {H : Hp} (G : Hp) : J l M_mm_begins (KWv (fun g => fu H g)) (mm_begins  G) 0 [(2, 201), (9, 0)] [] 224 (fu H G) (0, 0) := by
  unfold mm_begins
  refine j_aload_n dX11_begins_0 rfl rfl ?_
  refine j_cVWv dX11_begins_1 im_mm_beginsProof lk_X11_245 rfl (As := []) (S := []) rfl om_201.1 ⟨by decide, by decide⟩ (Nat.le_of_ble_eq_true rfl) (fun r hr => mm_beginsProof_ct  G hr) (fun G1 _ => ?_)
  refine j_aload_n dX11_begins_4 rfl rfl ?_
  refine j_iconst dX11_begins_5 r32_0 ?_
  refine j_pim dX11_begins_6 gf_X11_248 po_11_18 om_201 (nf_11_18 _) ?_
  refine j_aload_n dX11_begins_9 rfl rfl ?_
  refine j_iconst dX11_begins_10 r32_0 ?_
  refine j_pim dX11_begins_11 gf_X11_251 po_11_19 om_201 (nf_11_19 _) ?_
  refine j_aload_n dX11_begins_14 rfl rfl ?_
  refine j_iconst dX11_begins_15 r32_0 ?_
  refine j_pim dX11_begins_16 gf_X11_254 po_11_20 om_201 (nf_11_20 _) ?_
  refine j_aload_n dX11_begins_19 rfl rfl ?_
  refine j_iconst dX11_begins_20 r32_0 ?_
  refine j_pim dX11_begins_21 gf_X11_257 po_11_21 om_201 (nf_11_21 _) ?_
  refine j_aload_n dX11_begins_24 rfl rfl ?_
  refine j_iconst dX11_begins_25 r32_m1 ?_
  refine j_pim dX11_begins_26 gf_X11_260 po_11_22 om_201 (nf_11_22 _) ?_
  refine j_iconst dX11_begins_29 r32_0 ?_
  refine j_istore_n dX11_begins_30 rfl (Nat.le_of_ble_eq_true rfl) rfl ?_
  refine j_mask [true, true] rfl (mm_begins_L31_J (fun G_51 => mm_begins_L53 (fun G_85 => (mm_laysSteps G_85).bind fun G86 => some G86) FU 0 G_51) (fun G_51 => ?_) FU 0 (upd2 (upd2 (upd2 (upd2 (upd2 G1 201 18 0) 201 19 0) 201 20 0) 201 21 0) 201 22 (-1)))
  refine j_iconst dX11_begins_51 r32_0 ?_
  refine j_istore_n dX11_begins_52 rfl (Nat.le_of_ble_eq_true rfl) rfl ?_
  refine j_mask [true, true] rfl (mm_begins_L53_J (fun G_85 => (mm_laysSteps G_85).bind fun G86 => some G86) (fun G_85 => ?_) FU 0 G_51)
  refine j_aload_n dX11_begins_85 rfl rfl ?_
  refine j_cVWv dX11_begins_86 im_mm_laysSteps lk_X11_230 rfl (As := []) (S := []) rfl om_201.1 ⟨by decide, by decide⟩ (Nat.le_of_ble_eq_true rfl) (fun r hr => mm_laysSteps_ct  G_85 hr) (fun G86 _ => ?_)
  exact j_return dX11_begins_89 rfl rfl (Nat.zero_le _) (Nat.zero_le _)

set_option maxRecDepth 100000 in
theorem mm_begins_ct {l : Launch} {H : Hp} (G : Hp) {r : Hp} (h : mm_begins  G = some r) : Ct l M_mm_begins [(2, 201)] 224 (fu H G) ((KWv (fun g => fu H g)) r) :=
  ct_of_J (by decide +kernel) rfl (Nat.le_of_ble_eq_true rfl) (mm_begins_J  G) h
set_option maxRecDepth 100000 in
theorem mm_isPaper_J {l : Launch} {H : Hp} (a1 : Int) (G : Hp) : J l M_mm_isPaper (KWb (fun g => fu H g)) (mm_isPaper a1 G) 0 [(2, 201), (0, a1)] [] 224 (fu H G) (0, 0) := by
  unfold mm_isPaper
  refine j_aload_n dX11_isPaper_0 rfl rfl ?_
  refine j_iconst dX11_isPaper_1 r32_0 ?_
  refine j_iload_n dX11_isPaper_2 rfl rfl ?_
  refine j_cVRb dX11_isPaper_3 im_mm_isOf lk_X11_175 rfl (As := [(0, 0), (0, a1)]) (S := []) rfl om_201.1 ⟨by decide, by decide⟩ (Nat.le_of_ble_eq_true rfl) (fun r hr => mm_isOf_ct 0 a1 G hr) (fun v3 _ => ?_)
  refine j_ifb_ne (tgt := 11) dX11_isPaper_6 rfl (fun h6 => ?_) (fun h6 => ?_)
  · refine j_aload_n dX11_isPaper_11 rfl rfl ?_
    refine j_iconst dX11_isPaper_12 r32_0 ?_
    refine j_iload_n dX11_isPaper_13 rfl rfl ?_
    refine j_cSRip dX11_isPaper_14 sm_mm_placeOf lk_X11_194 rfl (As := [(0, 0), (0, a1)]) (S := [(2, 201)]) rfl ⟨by decide, by decide⟩ (Nat.le_of_ble_eq_true rfl) (mm_placeOf_ct 0 a1) ?_
    refine j_pim dX11_isPaper_17 gf_X11_197 po_11_12 om_201 (nf_11_12 _) ?_
    refine j_aload_n dX11_isPaper_20 rfl rfl ?_
    refine j_aload_n dX11_isPaper_21 rfl rfl ?_
    refine j_grm dX11_isPaper_22 gf_X11_7 om_201 (Or.inl (by decide)) rf_201_0 ?_
    refine j_aload_n dX11_isPaper_25 rfl rfl ?_
    refine j_gim dX11_isPaper_26 gf_X11_197 om_201 ?_
    refine j_gd (fun h29a h29b => ?_)
    refine j_aim dX11_isPaper_29 om_202 rfl h29a h29b ?_
    refine j_pim dX11_isPaper_30 gf_X11_200 po_11_13 om_201 (nf_11_13 _) ?_
    refine j_aload_n dX11_isPaper_33 rfl rfl ?_
    refine j_aload_n dX11_isPaper_34 rfl rfl ?_
    refine j_grm dX11_isPaper_35 gf_X11_7 om_201 (Or.inl (by decide)) rf_201_0 ?_
    refine j_aload_n dX11_isPaper_38 rfl rfl ?_
    refine j_gim dX11_isPaper_39 gf_X11_197 om_201 ?_
    refine j_iconst dX11_isPaper_42 r32_1 ?_
    refine j_iadd dX11_isPaper_43 ?_
    refine j_gd (fun h44a h44b => ?_)
    refine j_aim dX11_isPaper_44 om_202 rfl h44a h44b ?_
    refine j_pim dX11_isPaper_45 gf_X11_203 po_11_14 om_201 (nf_11_14 _) ?_
    refine j_aload_n dX11_isPaper_48 rfl rfl ?_
    refine j_cVWv dX11_isPaper_49 im_mm_begins lk_X11_206 rfl (As := []) (S := []) rfl om_201.1 ⟨by decide, by decide⟩ (Nat.le_of_ble_eq_true rfl) (fun r hr => mm_begins_ct  (upd2 (upd2 (upd2 G 201 12 (mm_placeOf 0 a1)) 201 13 ((upd2 G 201 12 (mm_placeOf 0 a1)) 202 ((upd2 G 201 12 (mm_placeOf 0 a1)) 201 12))) 201 14 ((upd2 (upd2 G 201 12 (mm_placeOf 0 a1)) 201 13 ((upd2 G 201 12 (mm_placeOf 0 a1)) 202 ((upd2 G 201 12 (mm_placeOf 0 a1)) 201 12))) 202 (w32 (((upd2 (upd2 G 201 12 (mm_placeOf 0 a1)) 201 13 ((upd2 G 201 12 (mm_placeOf 0 a1)) 202 ((upd2 G 201 12 (mm_placeOf 0 a1)) 201 12))) 201 12) + 1)))) hr) (fun G49 _ => ?_)
    refine j_iconst dX11_isPaper_52 r32_1 ?_
    exact j_zreturn (b := true) dX11_isPaper_53 rfl rfl (Nat.zero_le _) (Nat.zero_le _)
  · refine j_iconst dX11_isPaper_9 r32_0 ?_
    exact j_zreturn (b := false) dX11_isPaper_10 rfl rfl (Nat.zero_le _) (Nat.zero_le _)

set_option maxRecDepth 100000 in
theorem mm_isPaper_ct {l : Launch} {H : Hp} (a1 : Int) (G : Hp) {r : Bool × Hp} (h : mm_isPaper a1 G = some r) : Ct l M_mm_isPaper [(2, 201), (0, a1)] 224 (fu H G) ((KWb (fun g => fu H g)) r) :=
  ct_of_J (by decide +kernel) rfl (Nat.le_of_ble_eq_true rfl) (mm_isPaper_J a1 G) h
set_option maxRecDepth 100000 in
theorem mm_isPlace_J {l : Launch} {H : Hp} (a1 : Int) (G : Hp) : J l M_mm_isPlace (KRb (fu H G)) (mm_isPlace a1 G) 0 [(2, 201), (0, a1)] [] 224 (fu H G) (0, 0) := by
  unfold mm_isPlace
  refine j_iload_n dX11_isPlace_0 rfl rfl ?_
  refine j_iconst dX11_isPlace_1 r32_0 ?_
  refine j_aload_n dX11_isPlace_2 rfl rfl ?_
  refine j_gim dX11_isPlace_3 gf_X11_200 om_201 ?_
  refine j_iconst dX11_isPlace_6 r32_1 ?_
  refine j_isub dX11_isPlace_7 ?_
  refine j_cSRbp dX11_isPlace_8 sm_mm_isIn lk_X11_132 rfl (As := [(0, a1), (0, 0), (0, w32 ((G 201 13) - 1))]) (S := []) rfl ⟨by decide, by decide⟩ (Nat.le_of_ble_eq_true rfl) (mm_isIn_ct a1 0 (w32 ((G 201 13) - 1))) ?_
  exact j_zreturn dX11_isPlace_11 rfl rfl (Nat.zero_le _) (Nat.zero_le _)

set_option maxRecDepth 100000 in
theorem mm_isPlace_ct {l : Launch} {H : Hp} (a1 : Int) (G : Hp) {r : Bool} (h : mm_isPlace a1 G = some r) : Ct l M_mm_isPlace [(2, 201), (0, a1)] 224 (fu H G) ((KRb (fu H G)) r) :=
  ct_of_J (by decide +kernel) rfl (Nat.le_of_ble_eq_true rfl) (mm_isPlace_J a1 G) h
set_option maxRecDepth 100000 in
theorem mm_isReader_J {l : Launch} {H : Hp} (a1 : Int) (G : Hp) : J l M_mm_isReader (KRb (fu H G)) (mm_isReader a1 G) 0 [(2, 201), (0, a1)] [] 224 (fu H G) (0, 0) := by
  unfold mm_isReader
  refine j_iload_n dX11_isReader_0 rfl rfl ?_
  refine j_iconst dX11_isReader_1 r32_0 ?_
  refine j_aload_n dX11_isReader_2 rfl rfl ?_
  refine j_gim dX11_isReader_3 gf_X11_203 om_201 ?_
  refine j_iconst dX11_isReader_6 r32_1 ?_
  refine j_isub dX11_isReader_7 ?_
  refine j_cSRbp dX11_isReader_8 sm_mm_isIn lk_X11_132 rfl (As := [(0, a1), (0, 0), (0, w32 ((G 201 14) - 1))]) (S := []) rfl ⟨by decide, by decide⟩ (Nat.le_of_ble_eq_true rfl) (mm_isIn_ct a1 0 (w32 ((G 201 14) - 1))) ?_
  exact j_zreturn dX11_isReader_11 rfl rfl (Nat.zero_le _) (Nat.zero_le _)

set_option maxRecDepth 100000 in
theorem mm_isReader_ct {l : Launch} {H : Hp} (a1 : Int) (G : Hp) {r : Bool} (h : mm_isReader a1 G = some r) : Ct l M_mm_isReader [(2, 201), (0, a1)] 224 (fu H G) ((KRb (fu H G)) r) :=
  ct_of_J (by decide +kernel) rfl (Nat.le_of_ble_eq_true rfl) (mm_isReader_J a1 G) h
set_option maxRecDepth 100000 in
theorem mm_patienceOf_J {l : Launch} {H : Hp} (a1 : Int) (G : Hp) : J l M_mm_patienceOf (KRi (fu H G)) (mm_patienceOf a1 G) 0 [(2, 201), (0, a1)] [] 224 (fu H G) (0, 0) := by
  unfold mm_patienceOf
  refine j_aload_n dX11_patienceOf_0 rfl rfl ?_
  refine j_grm dX11_patienceOf_1 gf_X11_7 om_201 (Or.inl (by decide)) rf_201_0 ?_
  refine j_aload_n dX11_patienceOf_4 rfl rfl ?_
  refine j_gim dX11_patienceOf_5 gf_X11_197 om_201 ?_
  refine j_bipush dX11_patienceOf_8 r32_20 bp_20 ?_
  refine j_iadd dX11_patienceOf_10 ?_
  refine j_iconst dX11_patienceOf_11 r32_2 ?_
  refine j_iload_n dX11_patienceOf_12 rfl rfl ?_
  refine j_imul dX11_patienceOf_13 ?_
  refine j_iadd dX11_patienceOf_14 ?_
  refine j_gd (fun h15a h15b => ?_)
  refine j_aim dX11_patienceOf_15 om_202 rfl h15a h15b ?_
  exact j_ireturn dX11_patienceOf_16 rfl rfl (Nat.zero_le _) (Nat.zero_le _)

set_option maxRecDepth 100000 in
theorem mm_patienceOf_ct {l : Launch} {H : Hp} (a1 : Int) (G : Hp) {r : Int} (h : mm_patienceOf a1 G = some r) : Ct l M_mm_patienceOf [(2, 201), (0, a1)] 224 (fu H G) ((KRi (fu H G)) r) :=
  ct_of_J (by decide +kernel) rfl (Nat.le_of_ble_eq_true rfl) (mm_patienceOf_J a1 G) h
set_option maxRecDepth 100000 in
theorem mm_daysOf_J {l : Launch} {H : Hp} (a1 : Int) (G : Hp) : J l M_mm_daysOf (KRi (fu H G)) (mm_daysOf a1 G) 0 [(2, 201), (0, a1)] [] 224 (fu H G) (0, 0) := by
  unfold mm_daysOf
  refine j_aload_n dX11_daysOf_0 rfl rfl ?_
  refine j_grm dX11_daysOf_1 gf_X11_7 om_201 (Or.inl (by decide)) rf_201_0 ?_
  refine j_aload_n dX11_daysOf_4 rfl rfl ?_
  refine j_gim dX11_daysOf_5 gf_X11_197 om_201 ?_
  refine j_bipush dX11_daysOf_8 r32_20 bp_20 ?_
  refine j_iadd dX11_daysOf_10 ?_
  refine j_iconst dX11_daysOf_11 r32_1 ?_
  refine j_iadd dX11_daysOf_12 ?_
  refine j_iconst dX11_daysOf_13 r32_2 ?_
  refine j_iload_n dX11_daysOf_14 rfl rfl ?_
  refine j_imul dX11_daysOf_15 ?_
  refine j_iadd dX11_daysOf_16 ?_
  refine j_gd (fun h17a h17b => ?_)
  refine j_aim dX11_daysOf_17 om_202 rfl h17a h17b ?_
  exact j_ireturn dX11_daysOf_18 rfl rfl (Nat.zero_le _) (Nat.zero_le _)

set_option maxRecDepth 100000 in
theorem mm_daysOf_ct {l : Launch} {H : Hp} (a1 : Int) (G : Hp) {r : Int} (h : mm_daysOf a1 G = some r) : Ct l M_mm_daysOf [(2, 201), (0, a1)] 224 (fu H G) ((KRi (fu H G)) r) :=
  ct_of_J (by decide +kernel) rfl (Nat.le_of_ble_eq_true rfl) (mm_daysOf_J a1 G) h
set_option maxRecDepth 100000 in
theorem mm_wantOf_J {l : Launch} {H : Hp} (a1 : Int) (a2 : Int) (G : Hp) : J l M_mm_wantOf (KRi (fu H G)) (mm_wantOf a1 a2 G) 0 [(2, 201), (0, a1), (0, a2)] [] 224 (fu H G) (0, 0) := by
  unfold mm_wantOf
  refine j_aload_n dX11_wantOf_0 rfl rfl ?_
  refine j_grm dX11_wantOf_1 gf_X11_7 om_201 (Or.inl (by decide)) rf_201_0 ?_
  refine j_aload_n dX11_wantOf_4 rfl rfl ?_
  refine j_gim dX11_wantOf_5 gf_X11_197 om_201 ?_
  refine j_bipush dX11_wantOf_8 r32_32 bp_32 ?_
  refine j_iadd dX11_wantOf_10 ?_
  refine j_bipush dX11_wantOf_11 r32_8 bp_8 ?_
  refine j_iload_n dX11_wantOf_13 rfl rfl ?_
  refine j_imul dX11_wantOf_14 ?_
  refine j_iadd dX11_wantOf_15 ?_
  refine j_iload_n dX11_wantOf_16 rfl rfl ?_
  refine j_iadd dX11_wantOf_17 ?_
  refine j_gd (fun h18a h18b => ?_)
  refine j_aim dX11_wantOf_18 om_202 rfl h18a h18b ?_
  exact j_ireturn dX11_wantOf_19 rfl rfl (Nat.zero_le _) (Nat.zero_le _)

set_option maxRecDepth 100000 in
theorem mm_wantOf_ct {l : Launch} {H : Hp} (a1 : Int) (a2 : Int) (G : Hp) {r : Int} (h : mm_wantOf a1 a2 G = some r) : Ct l M_mm_wantOf [(2, 201), (0, a1), (0, a2)] 224 (fu H G) ((KRi (fu H G)) r) :=
  ct_of_J (by decide +kernel) rfl (Nat.le_of_ble_eq_true rfl) (mm_wantOf_J a1 a2 G) h
set_option maxRecDepth 100000 in
theorem mm_paper_J {l : Launch} {H : Hp} (a1 : Int) (a2 : Int) (G : Hp) : J l M_mm_paper (KWi (fun g => fu H g)) (mm_paper a1 a2 G) 0 [(2, 201), (0, a1), (0, a2), (9, 0)] [] 224 (fu H G) (0, 0) := by
  unfold mm_paper
  refine j_aload_n dX11_paper_0 rfl rfl ?_
  refine j_iload_n dX11_paper_1 rfl rfl ?_
  refine j_cVWb dX11_paper_2 im_mm_isPaper lk_X11_209 rfl (As := [(0, a1)]) (S := []) rfl om_201.1 ⟨by decide, by decide⟩ (Nat.le_of_ble_eq_true rfl) (fun r hr => mm_isPaper_ct a1 G hr) (fun r2 _ => ?_)
  refine j_ifb_eq (tgt := 12) dX11_paper_5 rfl (fun h5 => ?_) (fun h5 => ?_)
  · refine j_iload_n dX11_paper_8 rfl rfl ?_
    refine j_if_ge (tgt := 14) dX11_paper_9 rfl (fun h9 => ?_) (fun h9 => ?_)
    · refine j_iconst dX11_paper_12 r32_m1 ?_
      exact j_ireturn dX11_paper_13 rfl rfl (Nat.zero_le _) (Nat.zero_le _)
    · refine j_iload_n dX11_paper_14 rfl rfl ?_
      refine j_bipush dX11_paper_15 r32_10 bp_10 ?_
      refine j_irem dX11_paper_17 (by decide) ?_
      refine j_istore_n dX11_paper_18 rfl (Nat.le_of_ble_eq_true rfl) rfl ?_
      refine j_iload_n dX11_paper_19 rfl rfl ?_
      refine j_bipush dX11_paper_20 r32_10 bp_10 ?_
      refine j_idiv dX11_paper_22 (by decide) ?_
      refine j_ite _ (fun hc23_0 => ?_) (fun hc23_0 => ?_)
      · refine j_swIn (i := 0) (tgt := 56) dX11_paper_23 (hc23_0.trans (by decide)) (by decide) rfl rfl ?_
        refine j_iload_n dX11_paper_56 rfl rfl ?_
        refine j_iconst dX11_paper_57 r32_2 ?_
        refine j_icmp_ge (tgt := 75) dX11_paper_58 rfl (fun h58 => ?_) (fun h58 => ?_)
        · refine j_aload_n dX11_paper_61 rfl rfl ?_
          refine j_grm dX11_paper_62 gf_X11_7 om_201 (Or.inl (by decide)) rf_201_0 ?_
          refine j_aload_n dX11_paper_65 rfl rfl ?_
          refine j_gim dX11_paper_66 gf_X11_197 om_201 ?_
          refine j_iload_n dX11_paper_69 rfl rfl ?_
          refine j_iadd dX11_paper_70 ?_
          refine j_gd (fun h71a h71b => ?_)
          refine j_aim dX11_paper_71 om_202 rfl h71a h71b ?_
          refine j_goto (tgt := 76) dX11_paper_72 rfl ?_
          exact j_ireturn dX11_paper_76 rfl rfl (Nat.zero_le _) (Nat.zero_le _)
        · refine j_iconst dX11_paper_75 r32_m1 ?_
          exact j_ireturn dX11_paper_76 rfl rfl (Nat.zero_le _) (Nat.zero_le _)
      · refine j_ite _ (fun hc23_1 => ?_) (fun hc23_1 => ?_)
        · refine j_swIn (i := 1) (tgt := 77) dX11_paper_23 (hc23_1.trans (by decide)) (by decide) rfl rfl ?_
          refine j_aload_n dX11_paper_77 rfl rfl ?_
          refine j_iload_n dX11_paper_78 rfl rfl ?_
          refine j_cVRb dX11_paper_79 im_mm_isPlace lk_X11_212 rfl (As := [(0, irem a2 10)]) (S := []) rfl om_201.1 ⟨by decide, by decide⟩ (Nat.le_of_ble_eq_true rfl) (fun r hr => mm_isPlace_ct (irem a2 10) r2.2 hr) (fun v79 _ => ?_)
          refine j_ifb_eq (tgt := 93) dX11_paper_82 rfl (fun h82 => ?_) (fun h82 => ?_)
          · refine j_aload_n dX11_paper_85 rfl rfl ?_
            refine j_iload_n dX11_paper_86 rfl rfl ?_
            refine j_cVRi dX11_paper_87 im_mm_wordTold0 lk_X11_215 rfl (As := [(0, irem a2 10)]) (S := []) rfl om_201.1 ⟨by decide, by decide⟩ (Nat.le_of_ble_eq_true rfl) (fun r hr => mm_wordTold0_ct (irem a2 10) r2.2 hr) (fun v87 _ => ?_)
            refine j_goto (tgt := 94) dX11_paper_90 rfl ?_
            exact j_ireturn dX11_paper_94 rfl rfl (Nat.zero_le _) (Nat.zero_le _)
          · refine j_iconst dX11_paper_93 r32_m1 ?_
            exact j_ireturn dX11_paper_94 rfl rfl (Nat.zero_le _) (Nat.zero_le _)
        · refine j_ite _ (fun hc23_2 => ?_) (fun hc23_2 => ?_)
          · refine j_swIn (i := 2) (tgt := 95) dX11_paper_23 (hc23_2.trans (by decide)) (by decide) rfl rfl ?_
            refine j_aload_n dX11_paper_95 rfl rfl ?_
            refine j_grm dX11_paper_96 gf_X11_7 om_201 (Or.inl (by decide)) rf_201_0 ?_
            refine j_aload_n dX11_paper_99 rfl rfl ?_
            refine j_gim dX11_paper_100 gf_X11_197 om_201 ?_
            refine j_bipush dX11_paper_103 r32_10 bp_10 ?_
            refine j_iadd dX11_paper_105 ?_
            refine j_iload_n dX11_paper_106 rfl rfl ?_
            refine j_iadd dX11_paper_107 ?_
            refine j_gd (fun h108a h108b => ?_)
            refine j_aim dX11_paper_108 om_202 rfl h108a h108b ?_
            exact j_ireturn dX11_paper_109 rfl rfl (Nat.zero_le _) (Nat.zero_le _)
          · refine j_ite _ (fun hc23_3 => ?_) (fun hc23_3 => ?_)
            · refine j_swIn (i := 3) (tgt := 110) dX11_paper_23 (hc23_3.trans (by decide)) (by decide) rfl rfl ?_
              refine j_aload_n dX11_paper_110 rfl rfl ?_
              refine j_iload_n dX11_paper_111 rfl rfl ?_
              refine j_cVRb dX11_paper_112 im_mm_isReader lk_X11_218 rfl (As := [(0, irem a2 10)]) (S := []) rfl om_201.1 ⟨by decide, by decide⟩ (Nat.le_of_ble_eq_true rfl) (fun r hr => mm_isReader_ct (irem a2 10) r2.2 hr) (fun v112 _ => ?_)
              refine j_ifb_eq (tgt := 126) dX11_paper_115 rfl (fun h115 => ?_) (fun h115 => ?_)
              · refine j_aload_n dX11_paper_118 rfl rfl ?_
                refine j_iload_n dX11_paper_119 rfl rfl ?_
                refine j_cVRi dX11_paper_120 im_mm_patienceOf lk_X11_221 rfl (As := [(0, irem a2 10)]) (S := []) rfl om_201.1 ⟨by decide, by decide⟩ (Nat.le_of_ble_eq_true rfl) (fun r hr => mm_patienceOf_ct (irem a2 10) r2.2 hr) (fun v120 _ => ?_)
                refine j_goto (tgt := 127) dX11_paper_123 rfl ?_
                exact j_ireturn dX11_paper_127 rfl rfl (Nat.zero_le _) (Nat.zero_le _)
              · refine j_iconst dX11_paper_126 r32_m1 ?_
                exact j_ireturn dX11_paper_127 rfl rfl (Nat.zero_le _) (Nat.zero_le _)
            · refine j_ite _ (fun hc23_4 => ?_) (fun hc23_4 => ?_)
              · refine j_swIn (i := 4) (tgt := 128) dX11_paper_23 (hc23_4.trans (by decide)) (by decide) rfl rfl ?_
                refine j_aload_n dX11_paper_128 rfl rfl ?_
                refine j_iload_n dX11_paper_129 rfl rfl ?_
                refine j_cVRb dX11_paper_130 im_mm_isReader lk_X11_218 rfl (As := [(0, irem a2 10)]) (S := []) rfl om_201.1 ⟨by decide, by decide⟩ (Nat.le_of_ble_eq_true rfl) (fun r hr => mm_isReader_ct (irem a2 10) r2.2 hr) (fun v130 _ => ?_)
                refine j_ifb_eq (tgt := 144) dX11_paper_133 rfl (fun h133 => ?_) (fun h133 => ?_)
                · refine j_aload_n dX11_paper_136 rfl rfl ?_
                  refine j_iload_n dX11_paper_137 rfl rfl ?_
                  refine j_cVRi dX11_paper_138 im_mm_daysOf lk_X11_224 rfl (As := [(0, irem a2 10)]) (S := []) rfl om_201.1 ⟨by decide, by decide⟩ (Nat.le_of_ble_eq_true rfl) (fun r hr => mm_daysOf_ct (irem a2 10) r2.2 hr) (fun v138 _ => ?_)
                  refine j_goto (tgt := 145) dX11_paper_141 rfl ?_
                  exact j_ireturn dX11_paper_145 rfl rfl (Nat.zero_le _) (Nat.zero_le _)
                · refine j_iconst dX11_paper_144 r32_m1 ?_
                  exact j_ireturn dX11_paper_145 rfl rfl (Nat.zero_le _) (Nat.zero_le _)
              · refine j_swOut (tgt := 146) dX11_paper_23 (by omega) rfl ?_
                refine j_iload_n dX11_paper_146 rfl rfl ?_
                refine j_bipush dX11_paper_147 r32_100 bp_100 ?_
                refine j_icmp_lt (tgt := 189) dX11_paper_149 rfl (fun h149 => ?_) (fun h149 => ?_)
                · refine j_aload_n dX11_paper_152 rfl rfl ?_
                  refine j_iload_n dX11_paper_153 rfl rfl ?_
                  refine j_bipush dX11_paper_154 r32_10 bp_10 ?_
                  refine j_idiv dX11_paper_156 (by decide) ?_
                  refine j_bipush dX11_paper_157 r32_10 bp_10 ?_
                  refine j_isub dX11_paper_159 ?_
                  refine j_cVRb dX11_paper_160 im_mm_isReader lk_X11_218 rfl (As := [(0, w32 ((idiv a2 10) - 10))]) (S := []) rfl om_201.1 ⟨by decide, by decide⟩ (Nat.le_of_ble_eq_true rfl) (fun r hr => mm_isReader_ct (w32 ((idiv a2 10) - 10)) r2.2 hr) (fun v160 _ => ?_)
                  refine j_ifb_eq (tgt := 189) dX11_paper_163 rfl (fun h163 => ?_) (fun h163 => ?_)
                  · refine j_aload_n dX11_paper_166 rfl rfl ?_
                    refine j_iload_n dX11_paper_167 rfl rfl ?_
                    refine j_cVRb dX11_paper_168 im_mm_isPlace lk_X11_212 rfl (As := [(0, irem a2 10)]) (S := []) rfl om_201.1 ⟨by decide, by decide⟩ (Nat.le_of_ble_eq_true rfl) (fun r hr => mm_isPlace_ct (irem a2 10) r2.2 hr) (fun v168 _ => ?_)
                    refine j_ifb_eq (tgt := 189) dX11_paper_171 rfl (fun h171 => ?_) (fun h171 => ?_)
                    · refine j_aload_n dX11_paper_174 rfl rfl ?_
                      refine j_iload_n dX11_paper_175 rfl rfl ?_
                      refine j_bipush dX11_paper_176 r32_10 bp_10 ?_
                      refine j_idiv dX11_paper_178 (by decide) ?_
                      refine j_bipush dX11_paper_179 r32_10 bp_10 ?_
                      refine j_isub dX11_paper_181 ?_
                      refine j_iload_n dX11_paper_182 rfl rfl ?_
                      refine j_cVRi dX11_paper_183 im_mm_wantOf lk_X11_227 rfl (As := [(0, w32 ((idiv a2 10) - 10)), (0, irem a2 10)]) (S := []) rfl om_201.1 ⟨by decide, by decide⟩ (Nat.le_of_ble_eq_true rfl) (fun r hr => mm_wantOf_ct (w32 ((idiv a2 10) - 10)) (irem a2 10) r2.2 hr) (fun v183 _ => ?_)
                      refine j_goto (tgt := 190) dX11_paper_186 rfl ?_
                      exact j_ireturn dX11_paper_190 rfl rfl (Nat.zero_le _) (Nat.zero_le _)
                    · refine j_iconst dX11_paper_189 r32_m1 ?_
                      exact j_ireturn dX11_paper_190 rfl rfl (Nat.zero_le _) (Nat.zero_le _)
                  · refine j_iconst dX11_paper_189 r32_m1 ?_
                    exact j_ireturn dX11_paper_190 rfl rfl (Nat.zero_le _) (Nat.zero_le _)
                · refine j_iconst dX11_paper_189 r32_m1 ?_
                  exact j_ireturn dX11_paper_190 rfl rfl (Nat.zero_le _) (Nat.zero_le _)
  · refine j_iconst dX11_paper_12 r32_m1 ?_
    exact j_ireturn dX11_paper_13 rfl rfl (Nat.zero_le _) (Nat.zero_le _)

set_option maxRecDepth 100000 in
theorem mm_paper_ct {l : Launch} {H : Hp} (a1 : Int) (a2 : Int) (G : Hp) {r : Int × Hp} (h : mm_paper a1 a2 G = some r) : Ct l M_mm_paper [(2, 201), (0, a1), (0, a2)] 224 (fu H G) ((KWi (fun g => fu H g)) r) :=
  ct_of_J (by decide +kernel) rfl (Nat.le_of_ble_eq_true rfl) (mm_paper_J a1 a2 G) h
set_option maxRecDepth 100000 in
theorem mm_areNear_J {l : Launch} {H : Hp} (a1 : Int) (a2 : Int) (G : Hp) : J l M_mm_areNear (KRb (fu H G)) (mm_areNear a1 a2 G) 0 [(2, 201), (0, a1), (0, a2)] [] 224 (fu H G) (0, 0) := by
  unfold mm_areNear
  refine j_aload_n dX11_areNear_0 rfl rfl ?_
  refine j_grm dX11_areNear_1 gf_X11_20 om_201 (Or.inl (by decide)) rf_201_15 ?_
  refine j_iload_n dX11_areNear_4 rfl rfl ?_
  refine j_gd (fun h5a h5b => ?_)
  refine j_aim dX11_areNear_5 om_205 rfl h5a h5b ?_
  refine j_iload_n dX11_areNear_6 rfl rfl ?_
  refine j_ishr dX11_areNear_7 ?_
  refine j_iconst dX11_areNear_8 r32_1 ?_
  refine j_iand dX11_areNear_9 ?_
  refine j_iconst dX11_areNear_10 r32_1 ?_
  refine j_icmp_ne (tgt := 18) dX11_areNear_11 rfl (fun h11 => ?_) (fun h11 => ?_)
  · refine j_iconst dX11_areNear_14 r32_1 ?_
    refine j_goto (tgt := 19) dX11_areNear_15 rfl ?_
    exact j_zreturn (b := true) dX11_areNear_19 rfl rfl (Nat.zero_le _) (Nat.zero_le _)
  · refine j_iconst dX11_areNear_18 r32_0 ?_
    exact j_zreturn (b := false) dX11_areNear_19 rfl rfl (Nat.zero_le _) (Nat.zero_le _)

set_option maxRecDepth 100000 in
theorem mm_areNear_ct {l : Launch} {H : Hp} (a1 : Int) (a2 : Int) (G : Hp) {r : Bool} (h : mm_areNear a1 a2 G = some r) : Ct l M_mm_areNear [(2, 201), (0, a1), (0, a2)] 224 (fu H G) ((KRb (fu H G)) r) :=
  ct_of_J (by decide +kernel) rfl (Nat.le_of_ble_eq_true rfl) (mm_areNear_J a1 a2 G) h
set_option maxRecDepth 100000 in
theorem mm_joins_j69_J {l : Launch} {H : Hp} (a1 : Int) (a2 : Int) (a3 : Int) (s0_69 : Int) (s1_69 : Int) (G_69 : Hp) : J l M_mm_joins (KWv (fun g => fu H g)) (mm_joins_j69 a1 a2 a3  s0_69 s1_69 G_69) 69 [(2, 201), (9, 0), (9, 0), (9, 0)] [(0, s0_69), (0, s1_69), (2, 205)] 224 (fu H G_69) (0, 0) := by
  unfold mm_joins_j69
  refine j_gd (fun h69a h69b => ?_)
  refine j_sim dX11_joins_69 om_205 rfl h69a h69b ?_
  refine j_aload_n dX11_joins_70 rfl rfl ?_
  refine j_cVWv dX11_joins_71 im_mm_laysSteps lk_X11_230 rfl (As := []) (S := []) rfl om_201.1 ⟨by decide, by decide⟩ (Nat.le_of_ble_eq_true rfl) (fun r hr => mm_laysSteps_ct  (upd2 G_69 205 s1_69 s0_69) hr) (fun G71 _ => ?_)
  exact j_return dX11_joins_74 rfl rfl (Nat.zero_le _) (Nat.zero_le _)

set_option maxRecDepth 100000 in
theorem mm_joins_j34_J {l : Launch} {H : Hp} (a1 : Int) (a2 : Int) (a3 : Int) (s0_34 : Int) (s1_34 : Int) (G_34 : Hp) : J l M_mm_joins (KWv (fun g => fu H g)) (mm_joins_j34 a1 a2 a3  s0_34 s1_34 G_34) 34 [(2, 201), (0, a1), (0, a2), (0, a3)] [(0, s0_34), (0, s1_34), (2, 205)] 224 (fu H G_34) (0, 0) := by
  unfold mm_joins_j34
  refine j_gd (fun h34a h34b => ?_)
  refine j_sim dX11_joins_34 om_205 rfl h34a h34b ?_
  refine j_aload_n dX11_joins_35 rfl rfl ?_
  refine j_grm dX11_joins_36 gf_X11_20 om_201 (Or.inl (by decide)) rf_201_15 ?_
  refine j_iload_n dX11_joins_39 rfl rfl ?_
  refine j_iload_n dX11_joins_40 rfl rfl ?_
  refine j_if_eq (tgt := 57) dX11_joins_41 rfl (fun h41 => ?_) (fun h41 => ?_)
  · refine j_aload_n dX11_joins_57 rfl rfl ?_
    refine j_grm dX11_joins_58 gf_X11_20 om_201 (Or.inl (by decide)) rf_201_15 ?_
    refine j_iload_n dX11_joins_61 rfl rfl ?_
    refine j_gd (fun h62a h62b => ?_)
    refine j_aim dX11_joins_62 om_205 rfl h62a h62b ?_
    refine j_iconst dX11_joins_63 r32_1 ?_
    refine j_iload_n dX11_joins_64 rfl rfl ?_
    refine j_ishl dX11_joins_65 ?_
    refine j_iconst dX11_joins_66 r32_m1 ?_
    refine j_ixor dX11_joins_67 ?_
    refine j_iand dX11_joins_68 ?_
    exact j_mask [true, false, false, false] rfl (mm_joins_j69_J a1 a2 a3 (iand ((upd2 G_34 205 s1_34 s0_34) 205 a2) (ixor (ishl 1 a1) (-1))) a2 (upd2 G_34 205 s1_34 s0_34))
  · refine j_aload_n dX11_joins_44 rfl rfl ?_
    refine j_grm dX11_joins_45 gf_X11_20 om_201 (Or.inl (by decide)) rf_201_15 ?_
    refine j_iload_n dX11_joins_48 rfl rfl ?_
    refine j_gd (fun h49a h49b => ?_)
    refine j_aim dX11_joins_49 om_205 rfl h49a h49b ?_
    refine j_iconst dX11_joins_50 r32_1 ?_
    refine j_iload_n dX11_joins_51 rfl rfl ?_
    refine j_ishl dX11_joins_52 ?_
    refine j_ior dX11_joins_53 ?_
    refine j_goto (tgt := 69) dX11_joins_54 rfl ?_
    exact j_mask [true, false, false, false] rfl (mm_joins_j69_J a1 a2 a3 (ior ((upd2 G_34 205 s1_34 s0_34) 205 a2) (ishl 1 a1)) a2 (upd2 G_34 205 s1_34 s0_34))

set_option maxRecDepth 100000 in
theorem mm_joins_J {l : Launch} {H : Hp} (a1 : Int) (a2 : Int) (a3 : Int) (G : Hp) : J l M_mm_joins (KWv (fun g => fu H g)) (mm_joins a1 a2 a3 G) 0 [(2, 201), (0, a1), (0, a2), (0, a3)] [] 224 (fu H G) (0, 0) := by
  unfold mm_joins
  refine j_aload_n dX11_joins_0 rfl rfl ?_
  refine j_grm dX11_joins_1 gf_X11_20 om_201 (Or.inl (by decide)) rf_201_15 ?_
  refine j_iload_n dX11_joins_4 rfl rfl ?_
  refine j_iload_n dX11_joins_5 rfl rfl ?_
  refine j_if_eq (tgt := 22) dX11_joins_6 rfl (fun h6 => ?_) (fun h6 => ?_)
  · refine j_aload_n dX11_joins_22 rfl rfl ?_
    refine j_grm dX11_joins_23 gf_X11_20 om_201 (Or.inl (by decide)) rf_201_15 ?_
    refine j_iload_n dX11_joins_26 rfl rfl ?_
    refine j_gd (fun h27a h27b => ?_)
    refine j_aim dX11_joins_27 om_205 rfl h27a h27b ?_
    refine j_iconst dX11_joins_28 r32_1 ?_
    refine j_iload_n dX11_joins_29 rfl rfl ?_
    refine j_ishl dX11_joins_30 ?_
    refine j_iconst dX11_joins_31 r32_m1 ?_
    refine j_ixor dX11_joins_32 ?_
    refine j_iand dX11_joins_33 ?_
    exact j_mask [true, true, true, true] rfl (mm_joins_j34_J a1 a2 a3 (iand (G 205 a1) (ixor (ishl 1 a2) (-1))) a1 G)
  · refine j_aload_n dX11_joins_9 rfl rfl ?_
    refine j_grm dX11_joins_10 gf_X11_20 om_201 (Or.inl (by decide)) rf_201_15 ?_
    refine j_iload_n dX11_joins_13 rfl rfl ?_
    refine j_gd (fun h14a h14b => ?_)
    refine j_aim dX11_joins_14 om_205 rfl h14a h14b ?_
    refine j_iconst dX11_joins_15 r32_1 ?_
    refine j_iload_n dX11_joins_16 rfl rfl ?_
    refine j_ishl dX11_joins_17 ?_
    refine j_ior dX11_joins_18 ?_
    refine j_goto (tgt := 34) dX11_joins_19 rfl ?_
    exact j_mask [true, true, true, true] rfl (mm_joins_j34_J a1 a2 a3 (ior (G 205 a1) (ishl 1 a2)) a1 G)

set_option maxRecDepth 100000 in
theorem mm_joins_ct {l : Launch} {H : Hp} (a1 : Int) (a2 : Int) (a3 : Int) (G : Hp) {r : Hp} (h : mm_joins a1 a2 a3 G = some r) : Ct l M_mm_joins [(2, 201), (0, a1), (0, a2), (0, a3)] 224 (fu H G) ((KWv (fun g => fu H g)) r) :=
  ct_of_J (by decide +kernel) rfl (Nat.le_of_ble_eq_true rfl) (mm_joins_J a1 a2 a3 G) h
set_option maxRecDepth 100000 in
theorem mm_towardsOf_L22_J {l : Launch} {H : Hp} (a1 : Int) (a2 : Int) (G : Hp) (x3_22 : Int) : ∀ (n_22 : Nat) (x4_22 : Int), J l M_mm_towardsOf (KRi (fu H G)) (mm_towardsOf_L22 a1 a2 G x3_22  n_22 x4_22) 22 [(2, 201), (0, a1), (0, a2), (0, x3_22), (0, x4_22)] [] 224 (fu H G) (0, 0) := by
  intro n_22
  induction n_22 with
  | zero =>
    intro x4_22
    exact j_none
  | succ n_22 ih =>
    intro x4_22
    rw [mm_towardsOf_L22]
    refine j_iload dX11_towardsOf_22 rfl ?_
    refine j_bipush dX11_towardsOf_24 r32_10 bp_10 ?_
    refine j_icmp_ge (tgt := 66) dX11_towardsOf_26 rfl (fun h26 => ?_) (fun h26 => ?_)
    · refine j_aload_n dX11_towardsOf_29 rfl rfl ?_
      refine j_iload_n dX11_towardsOf_30 rfl rfl ?_
      refine j_iload dX11_towardsOf_31 rfl ?_
      refine j_cVRb dX11_towardsOf_33 im_mm_areNear lk_X11_233 rfl (As := [(0, a1), (0, x4_22)]) (S := []) rfl om_201.1 ⟨by decide, by decide⟩ (Nat.le_of_ble_eq_true rfl) (fun r hr => mm_areNear_ct a1 x4_22 G hr) (fun v33 _ => ?_)
      refine j_ifb_eq (tgt := 60) dX11_towardsOf_36 rfl (fun h36 => ?_) (fun h36 => ?_)
      · refine j_aload_n dX11_towardsOf_39 rfl rfl ?_
        refine j_grm dX11_towardsOf_40 gf_X11_23 om_201 (Or.inl (by decide)) rf_201_16 ?_
        refine j_bipush dX11_towardsOf_43 r32_10 bp_10 ?_
        refine j_iload dX11_towardsOf_45 rfl ?_
        refine j_imul dX11_towardsOf_47 ?_
        refine j_iload_n dX11_towardsOf_48 rfl rfl ?_
        refine j_iadd dX11_towardsOf_49 ?_
        refine j_gd (fun h50a h50b => ?_)
        refine j_aim dX11_towardsOf_50 om_206 rfl h50a h50b ?_
        refine j_iload_n dX11_towardsOf_51 rfl rfl ?_
        refine j_iconst dX11_towardsOf_52 r32_1 ?_
        refine j_isub dX11_towardsOf_53 ?_
        refine j_icmp_ne (tgt := 60) dX11_towardsOf_54 rfl (fun h54 => ?_) (fun h54 => ?_)
        · refine j_iload dX11_towardsOf_57 rfl ?_
          exact j_ireturn dX11_towardsOf_59 rfl rfl (Nat.zero_le _) (Nat.zero_le _)
        · refine j_iinc dX11_towardsOf_60 rfl (Nat.le_of_ble_eq_true rfl) rfl ?_
          refine j_goto (tgt := 22) dX11_towardsOf_63 rfl ?_
          exact j_mask [true, true, true, true, true] rfl (ih (w32 (x4_22 + 1)))
      · refine j_iinc dX11_towardsOf_60 rfl (Nat.le_of_ble_eq_true rfl) rfl ?_
        refine j_goto (tgt := 22) dX11_towardsOf_63 rfl ?_
        exact j_mask [true, true, true, true, true] rfl (ih (w32 (x4_22 + 1)))
    · refine j_iconst dX11_towardsOf_66 r32_m1 ?_
      exact j_ireturn dX11_towardsOf_67 rfl rfl (Nat.zero_le _) (Nat.zero_le _)

set_option maxRecDepth 100000 in
theorem mm_towardsOf_J {l : Launch} {H : Hp} (a1 : Int) (a2 : Int) (G : Hp) : J l M_mm_towardsOf (KRi (fu H G)) (mm_towardsOf a1 a2 G) 0 [(2, 201), (0, a1), (0, a2), (9, 0), (9, 0)] [] 224 (fu H G) (0, 0) := by
  unfold mm_towardsOf
  refine j_aload_n dX11_towardsOf_0 rfl rfl ?_
  refine j_grm dX11_towardsOf_1 gf_X11_23 om_201 (Or.inl (by decide)) rf_201_16 ?_
  refine j_bipush dX11_towardsOf_4 r32_10 bp_10 ?_
  refine j_iload_n dX11_towardsOf_6 rfl rfl ?_
  refine j_imul dX11_towardsOf_7 ?_
  refine j_iload_n dX11_towardsOf_8 rfl rfl ?_
  refine j_iadd dX11_towardsOf_9 ?_
  refine j_gd (fun h10a h10b => ?_)
  refine j_aim dX11_towardsOf_10 om_206 rfl h10a h10b ?_
  refine j_istore_n dX11_towardsOf_11 rfl (Nat.le_of_ble_eq_true rfl) rfl ?_
  refine j_iload_n dX11_towardsOf_12 rfl rfl ?_
  refine j_iconst dX11_towardsOf_13 r32_1 ?_
  refine j_icmp_ge (tgt := 19) dX11_towardsOf_14 rfl (fun h14 => ?_) (fun h14 => ?_)
  · refine j_iconst dX11_towardsOf_17 r32_m1 ?_
    exact j_ireturn dX11_towardsOf_18 rfl rfl (Nat.zero_le _) (Nat.zero_le _)
  · refine j_iconst dX11_towardsOf_19 r32_0 ?_
    refine j_istore dX11_towardsOf_20 (Nat.le_of_ble_eq_true rfl) rfl ?_
    exact j_mask [true, true, true, true, true] rfl (mm_towardsOf_L22_J a1 a2 G (G 206 (w32 ((w32 (10 * a1)) + a2))) FU 0)

set_option maxRecDepth 100000 in
theorem mm_towardsOf_ct {l : Launch} {H : Hp} (a1 : Int) (a2 : Int) (G : Hp) {r : Int} (h : mm_towardsOf a1 a2 G = some r) : Ct l M_mm_towardsOf [(2, 201), (0, a1), (0, a2)] 224 (fu H G) ((KRi (fu H G)) r) :=
  ct_of_J (by decide +kernel) rfl (Nat.le_of_ble_eq_true rfl) (mm_towardsOf_J a1 a2 G) h
