section RowsOK
theorem zr_0_2858 : zOK zPre 0 2858 (s_ld_0 (nat_lit 1136) (nat_lit 2859)) := zokE (zld_0 _ _) (ok_ld0 (t := 4) (i := 0) (zrow_aload_n (k := 0) (md := zmd_0) zh_0 (by decide +kernel) rfl rfl))
theorem zr_0_2859 : zOK zPre 0 2859 (s_ld_5 (nat_lit 12299) (nat_lit 2861)) := zokE (zld_5 _ _) (ok_ld0 (t := 0) (i := 5) (zrow_iload (md := zmd_0) zh_0 (by decide +kernel) rfl))
theorem zr_0_2861 : zOK zPre 0 2861 (s_k (nat_lit 32) (nat_lit 2862)) := ok_iconst (n := 2) (md := zmd_0) zh_0 (by decide +kernel) rfl (by decide +kernel)
theorem zr_0_2862 : zOK zPre 0 2862 (s_iadd (nat_lit 2863)) := ok_iadd (md := zmd_0) zh_0 (by decide +kernel) rfl
theorem zr_0_2863 : zOK zPre 0 2863 (s_sld (nat_lit 2864)) := ok_sld (md := zmd_0) zh_0 (by decide +kernel) rfl
theorem zr_0_2864 : zOK zPre 0 2864 (s_ld_0 (nat_lit 1136) (nat_lit 2865)) := zokE (zld_0 _ _) (ok_ld0 (t := 4) (i := 0) (zrow_aload_n (k := 0) (md := zmd_0) zh_0 (by decide +kernel) rfl rfl))
theorem zr_0_2865 : zOK zPre 0 2865 (s_ld_5 (nat_lit 12299) (nat_lit 2867)) := zokE (zld_5 _ _) (ok_ld0 (t := 0) (i := 5) (zrow_iload (md := zmd_0) zh_0 (by decide +kernel) rfl))
theorem zr_0_2867 : zOK zPre 0 2867 (s_k (nat_lit 48) (nat_lit 2868)) := ok_iconst (n := 3) (md := zmd_0) zh_0 (by decide +kernel) rfl (by decide +kernel)
theorem zr_0_2868 : zOK zPre 0 2868 (s_iadd (nat_lit 2869)) := ok_iadd (md := zmd_0) zh_0 (by decide +kernel) rfl
theorem zr_0_2869 : zOK zPre 0 2869 (s_sld (nat_lit 2870)) := ok_sld (md := zmd_0) zh_0 (by decide +kernel) rfl
theorem zr_0_2870 : zOK zPre 0 2870 (s_call (nat_lit 10) (nat_lit 265) (nat_lit 4) (nat_lit 4) (nat_lit 1) [] (nat_lit 2873)) := ok_call (md := zmd_0) zh_0 zh_265 rfl (by decide) (by decide) (Or.inr (by decide)) (by decide +kernel) (zrow_callV (mdc := zmd_265) (index := 295) (md := zmd_0) zh_0 (by decide +kernel) rfl rfl zc_265 rfl (by decide) zw_11_35 zw_11_36 zw_11_37 zw_1_10 zd_265) trivial
theorem zr_0_2873 : zOK zPre 0 2873 (s_s1 (nat_lit 12299) (nat_lit 7) (nat_lit 2875)) := ok_s10 (t := 0) (i := 7) (zrow_istore (md := zmd_0) zh_0 (by decide +kernel) rfl)
theorem zr_0_2875 : zOK zPre 0 2875 (s_ld_2 (nat_lit 1136) (nat_lit 2876)) := zokE (zld_2 _ _) (ok_ld0 (t := 4) (i := 2) (zrow_aload_n (k := 2) (md := zmd_0) zh_0 (by decide +kernel) rfl rfl))
theorem zr_0_2876 : zOK zPre 0 2876 (s_call (nat_lit 10) (nat_lit 39) (nat_lit 1) (nat_lit 1) (nat_lit 1) [] (nat_lit 2879)) := ok_call (md := zmd_0) zh_0 zh_39 rfl (by decide) (by decide) (Or.inr (by decide)) (by decide +kernel) (zrow_callV (mdc := zmd_39) (index := 155) (md := zmd_0) zh_0 (by decide +kernel) rfl rfl zc_39 rfl (by decide) zw_7_66 zw_7_67 zw_7_68 zw_1_10 zd_39) trivial
theorem zr_0_2879 : zOK zPre 0 2879 (s_ld (nat_lit 12299) (nat_lit 6) (nat_lit 2881)) := ok_ld0 (t := 0) (i := 6) (zrow_iload (md := zmd_0) zh_0 (by decide +kernel) rfl)
theorem zr_0_2881 : zOK zPre 0 2881 (s_ic (nat_lit 0) zu_eq (nat_lit 2886) (nat_lit 2884)) := ok_ic_eq (off := 5) (md := zmd_0) zh_0 (by decide +kernel) (by decide +kernel) rfl
theorem zr_0_2886 : zOK zPre 0 2886 (s_ld (nat_lit 12299) (nat_lit 6) (nat_lit 2888)) := ok_ld0 (t := 0) (i := 6) (zrow_iload (md := zmd_0) zh_0 (by decide +kernel) rfl)
theorem zr_0_2888 : zOK zPre 0 2888 (s_if (nat_lit 1) zi_ne (nat_lit 2910) (nat_lit 2891)) := ok_if_ne (off := 22) (md := zmd_0) zh_0 (by decide +kernel) (by decide +kernel) rfl
theorem zr_0_2891 : zOK zPre 0 2891 (s_ld_3 (nat_lit 1136) (nat_lit 2892)) := zokE (zld_3 _ _) (ok_ld0 (t := 4) (i := 3) (zrow_aload_n (k := 3) (md := zmd_0) zh_0 (by decide +kernel) rfl rfl))
theorem zr_0_2892 : zOK zPre 0 2892 (s_k (nat_lit 0) (nat_lit 2893)) := ok_iconst (n := 0) (md := zmd_0) zh_0 (by decide +kernel) rfl (by decide +kernel)
theorem zr_0_2893 : zOK zPre 0 2893 (s_ald (nat_lit 21) (nat_lit 21) (nat_lit 2894)) := ok_ald0 (by decide) (by decide) (by decide) (zrow_laload (md := zmd_0) zh_0 (by decide +kernel) rfl)
theorem zr_0_2894 : zOK zPre 0 2894 (s_ld (nat_lit 12299) (nat_lit 7) (nat_lit 2896)) := ok_ld0 (t := 0) (i := 7) (zrow_iload (md := zmd_0) zh_0 (by decide +kernel) rfl)
theorem zr_0_2896 : zOK zPre 0 2896 (s_if (nat_lit 0) zi_eq (nat_lit 2903) (nat_lit 2899)) := ok_if_eq (off := 7) (md := zmd_0) zh_0 (by decide +kernel) (by decide +kernel) rfl
theorem zr_0_2899 : zOK zPre 0 2899 (s_k (nat_lit 18) (nat_lit 2900)) := ok_lconst (n := 1) (md := zmd_0) zh_0 (by decide +kernel) rfl (by decide +kernel)
theorem zr_0_2900 : zOK zPre 0 2900 (s_go (nat_lit 2904)) := ok_go (off := 4) (md := zmd_0) zh_0 (by decide +kernel) (by decide +kernel)
theorem zr_0_2904 : zOK zPre 0 2904 (s_lcmp (nat_lit 2905)) := ok_lcmp (md := zmd_0) zh_0 (by decide +kernel) rfl
theorem zr_0_2905 : zOK zPre 0 2905 (s_if (nat_lit 0) zi_eq (nat_lit 2910) (nat_lit 2908)) := ok_if_eq (off := 5) (md := zmd_0) zh_0 (by decide +kernel) (by decide +kernel) rfl
theorem zr_0_2910 : zOK zPre 0 2910 (s_go (nat_lit 2913)) := ok_go (off := 3) (md := zmd_0) zh_0 (by decide +kernel) (by decide +kernel)
theorem zr_0_2913 : zOK zPre 0 2913 (s_inc (nat_lit 5) (nat_lit 80) (nat_lit 2916)) := ok_inc (n := 5) (md := zmd_0) zh_0 (by decide +kernel) rfl (by decide +kernel)
theorem zr_0_2916 : zOK zPre 0 2916 (s_go (nat_lit 28)) := ok_go (off := -2888) (md := zmd_0) zh_0 (by decide +kernel) (by decide +kernel)
theorem zr_0_2919 : zOK zPre 0 2919 (s_k (nat_lit 16) (nat_lit 2920)) := ok_iconst (n := 1) (md := zmd_0) zh_0 (by decide +kernel) rfl (by decide +kernel)
theorem zr_0_2920 : zOK zPre 0 2920 (s_rz (nat_lit 1)) := ok_rz (ft := 1) (Or.inl rfl) (md := zmd_0) zh_0 rfl (by decide +kernel)
theorem zr_10_0 : zOK zPre 10 0 (s_ld_0 (nat_lit 1136) (nat_lit 1)) := zokE (zld_0 _ _) (ok_ld0 (t := 4) (i := 0) (zrow_aload_n (k := 0) (md := zmd_10) zh_10 (by decide +kernel) rfl rfl))
theorem zr_10_1 : zOK zPre 10 1 (s_ld_1 (nat_lit 2052) (nat_lit 2)) := zokE (zld_1 _ _) (ok_ld0 (t := 1) (i := 1) (zrow_lload_n (k := 1) (md := zmd_10) zh_10 (by decide +kernel) rfl rfl))
theorem zr_10_2 : zOK zPre 10 2 (s_k (nat_lit 2) (nat_lit 3)) := ok_lconst (n := 0) (md := zmd_10) zh_10 (by decide +kernel) rfl (by decide +kernel)
theorem zr_10_3 : zOK zPre 10 3 (s_lcmp (nat_lit 4)) := ok_lcmp (md := zmd_10) zh_10 (by decide +kernel) rfl
theorem zr_10_4 : zOK zPre 10 4 (s_if (nat_lit 3) zi_ge (nat_lit 12) (nat_lit 7)) := ok_if_ge (off := 8) (md := zmd_10) zh_10 (by decide +kernel) (by decide +kernel) rfl
theorem zr_10_7 : zOK zPre 10 7 (s_ld_1 (nat_lit 2052) (nat_lit 8)) := zokE (zld_1 _ _) (ok_ld0 (t := 1) (i := 1) (zrow_lload_n (k := 1) (md := zmd_10) zh_10 (by decide +kernel) rfl rfl))
theorem zr_10_8 : zOK zPre 10 8 (s_lneg (nat_lit 9)) := ok_lneg (md := zmd_10) zh_10 (by decide +kernel) rfl
theorem zr_10_9 : zOK zPre 10 9 (s_go (nat_lit 13)) := ok_go (off := 4) (md := zmd_10) zh_10 (by decide +kernel) (by decide +kernel)
theorem zr_10_12 : zOK zPre 10 12 (s_ld_1 (nat_lit 2052) (nat_lit 13)) := zokE (zld_1 _ _) (ok_ld0 (t := 1) (i := 1) (zrow_lload_n (k := 1) (md := zmd_10) zh_10 (by decide +kernel) rfl rfl))
theorem zr_10_13 : zOK zPre 10 13 (s_call (nat_lit 7) (nat_lit 11) (nat_lit 3) (nat_lit 2) (nat_lit 0) [] (nat_lit 16)) := ok_call (md := zmd_10) zh_10 zh_11 rfl (by decide) (by decide) (Or.inr (by decide)) (by decide +kernel) (zrow_callV (mdc := zmd_11) (index := 30) (md := zmd_10) zh_10 (by decide +kernel) rfl rfl zc_11 rfl (by decide) zw_2_64 zw_2_65 zw_2_66 zw_1_3 zd_11) trivial
theorem zr_10_16 : zOK zPre 10 16 (s_ld_1 (nat_lit 2052) (nat_lit 17)) := zokE (zld_1 _ _) (ok_ld0 (t := 1) (i := 1) (zrow_lload_n (k := 1) (md := zmd_10) zh_10 (by decide +kernel) rfl rfl))
theorem zr_10_17 : zOK zPre 10 17 (s_k (nat_lit 2) (nat_lit 18)) := ok_lconst (n := 0) (md := zmd_10) zh_10 (by decide +kernel) rfl (by decide +kernel)
theorem zr_10_18 : zOK zPre 10 18 (s_lcmp (nat_lit 19)) := ok_lcmp (md := zmd_10) zh_10 (by decide +kernel) rfl
theorem zr_10_19 : zOK zPre 10 19 (s_if (nat_lit 3) zi_ge (nat_lit 27) (nat_lit 22)) := ok_if_ge (off := 8) (md := zmd_10) zh_10 (by decide +kernel) (by decide +kernel) rfl
theorem zr_10_22 : zOK zPre 10 22 (s_ld_0 (nat_lit 1136) (nat_lit 23)) := zokE (zld_0 _ _) (ok_ld0 (t := 4) (i := 0) (zrow_aload_n (k := 0) (md := zmd_10) zh_10 (by decide +kernel) rfl rfl))
theorem zr_10_23 : zOK zPre 10 23 (s_k (nat_lit 68719476720) (nat_lit 24)) := ok_iconst (n := -1) (md := zmd_10) zh_10 (by decide +kernel) rfl (by decide +kernel)
theorem zr_10_24 : zOK zPre 10 24 (s_pf (nat_lit 7) (nat_lit 2) (nat_lit 0) (nat_lit 27)) := ok_pf0 (by decide) (zrow_pf (ty := .int) (index := 17) (ref := "Residueworks$Whole") (C := RX8) (T := TX8) (N := 3) (ty0 := tyX8) (md := zmd_10) zh_10 (by decide +kernel) rfl rfl (by decide) zu_X8 tyX8_ok nmX8 zw_1_69 rfl rfl (by decide +kernel) zfty0)
theorem zr_10_27 : zOK zPre 10 27 (s_rv) := ok_rv (md := zmd_10) zh_10 rfl (by decide +kernel)
theorem zr_11_0 : zOK zPre 11 0 (s_ld_0 (nat_lit 1136) (nat_lit 1)) := zokE (zld_0 _ _) (ok_ld0 (t := 4) (i := 0) (zrow_aload_n (k := 0) (md := zmd_11) zh_11 (by decide +kernel) rfl rfl))
theorem zr_11_1 : zOK zPre 11 1 (s_k (nat_lit 0) (nat_lit 2)) := ok_iconst (n := 0) (md := zmd_11) zh_11 (by decide +kernel) rfl (by decide +kernel)
theorem zr_11_2 : zOK zPre 11 2 (s_ld_1 (nat_lit 2052) (nat_lit 3)) := zokE (zld_1 _ _) (ok_ld0 (t := 1) (i := 1) (zrow_lload_n (k := 1) (md := zmd_11) zh_11 (by decide +kernel) rfl rfl))
theorem zr_11_3 : zOK zPre 11 3 (s_k (nat_lit 17179869170) (nat_lit 6)) := ok_ldc2 (i := 34) (n := (1073741823 : Int64)) (md := zmd_11) zh_11 (by decide +kernel) rfl zw_2_68 (by decide +kernel)
theorem zr_11_6 : zOK zPre 11 6 (s_land (nat_lit 7)) := ok_land (md := zmd_11) zh_11 (by decide +kernel) rfl
theorem zr_11_7 : zOK zPre 11 7 (s_l2i (nat_lit 8)) := ok_l2i (md := zmd_11) zh_11 (by decide +kernel) rfl
theorem zr_11_8 : zOK zPre 11 8 (s_call (nat_lit 7) (nat_lit 12) (nat_lit 3) (nat_lit 3) (nat_lit 0) [] (nat_lit 11)) := ok_call (md := zmd_11) zh_11 zh_12 rfl (by decide) (by decide) (Or.inr (by decide)) (by decide +kernel) (zrow_callV (mdc := zmd_12) (index := 36) (md := zmd_11) zh_11 (by decide +kernel) rfl rfl zc_12 rfl (by decide) zw_2_69 zw_2_70 zw_2_71 zw_1_3 zd_12) trivial
theorem zr_11_11 : zOK zPre 11 11 (s_ld_0 (nat_lit 1136) (nat_lit 12)) := zokE (zld_0 _ _) (ok_ld0 (t := 4) (i := 0) (zrow_aload_n (k := 0) (md := zmd_11) zh_11 (by decide +kernel) rfl rfl))
theorem zr_11_12 : zOK zPre 11 12 (s_k (nat_lit 16) (nat_lit 13)) := ok_iconst (n := 1) (md := zmd_11) zh_11 (by decide +kernel) rfl (by decide +kernel)
theorem zr_11_13 : zOK zPre 11 13 (s_ld_1 (nat_lit 2052) (nat_lit 14)) := zokE (zld_1 _ _) (ok_ld0 (t := 1) (i := 1) (zrow_lload_n (k := 1) (md := zmd_11) zh_11 (by decide +kernel) rfl rfl))
theorem zr_11_14 : zOK zPre 11 14 (s_k (nat_lit 480) (nat_lit 16)) := ok_bipush (n := 30) (md := zmd_11) zh_11 (by decide +kernel) rfl (by decide +kernel)
theorem zr_11_16 : zOK zPre 11 16 (s_lushr (nat_lit 17)) := ok_lushr (md := zmd_11) zh_11 (by decide +kernel) rfl
theorem zr_11_17 : zOK zPre 11 17 (s_k (nat_lit 17179869170) (nat_lit 20)) := ok_ldc2 (i := 34) (n := (1073741823 : Int64)) (md := zmd_11) zh_11 (by decide +kernel) rfl zw_2_68 (by decide +kernel)
theorem zr_11_20 : zOK zPre 11 20 (s_land (nat_lit 21)) := ok_land (md := zmd_11) zh_11 (by decide +kernel) rfl
theorem zr_11_21 : zOK zPre 11 21 (s_l2i (nat_lit 22)) := ok_l2i (md := zmd_11) zh_11 (by decide +kernel) rfl
theorem zr_11_22 : zOK zPre 11 22 (s_call (nat_lit 7) (nat_lit 12) (nat_lit 3) (nat_lit 3) (nat_lit 0) [] (nat_lit 25)) := ok_call (md := zmd_11) zh_11 zh_12 rfl (by decide) (by decide) (Or.inr (by decide)) (by decide +kernel) (zrow_callV (mdc := zmd_12) (index := 36) (md := zmd_11) zh_11 (by decide +kernel) rfl rfl zc_12 rfl (by decide) zw_2_69 zw_2_70 zw_2_71 zw_1_3 zd_12) trivial
theorem zr_11_25 : zOK zPre 11 25 (s_ld_0 (nat_lit 1136) (nat_lit 26)) := zokE (zld_0 _ _) (ok_ld0 (t := 4) (i := 0) (zrow_aload_n (k := 0) (md := zmd_11) zh_11 (by decide +kernel) rfl rfl))
theorem zr_11_26 : zOK zPre 11 26 (s_k (nat_lit 32) (nat_lit 27)) := ok_iconst (n := 2) (md := zmd_11) zh_11 (by decide +kernel) rfl (by decide +kernel)
theorem zr_11_27 : zOK zPre 11 27 (s_ld_1 (nat_lit 2052) (nat_lit 28)) := zokE (zld_1 _ _) (ok_ld0 (t := 1) (i := 1) (zrow_lload_n (k := 1) (md := zmd_11) zh_11 (by decide +kernel) rfl rfl))
theorem zr_11_28 : zOK zPre 11 28 (s_k (nat_lit 960) (nat_lit 30)) := ok_bipush (n := 60) (md := zmd_11) zh_11 (by decide +kernel) rfl (by decide +kernel)
theorem zr_11_30 : zOK zPre 11 30 (s_lushr (nat_lit 31)) := ok_lushr (md := zmd_11) zh_11 (by decide +kernel) rfl
theorem zr_11_31 : zOK zPre 11 31 (s_l2i (nat_lit 32)) := ok_l2i (md := zmd_11) zh_11 (by decide +kernel) rfl
theorem zr_11_32 : zOK zPre 11 32 (s_call (nat_lit 7) (nat_lit 12) (nat_lit 3) (nat_lit 3) (nat_lit 0) [] (nat_lit 35)) := ok_call (md := zmd_11) zh_11 zh_12 rfl (by decide) (by decide) (Or.inr (by decide)) (by decide +kernel) (zrow_callV (mdc := zmd_12) (index := 36) (md := zmd_11) zh_11 (by decide +kernel) rfl rfl zc_12 rfl (by decide) zw_2_69 zw_2_70 zw_2_71 zw_1_3 zd_12) trivial
theorem zr_11_35 : zOK zPre 11 35 (s_ld_0 (nat_lit 1136) (nat_lit 36)) := zokE (zld_0 _ _) (ok_ld0 (t := 4) (i := 0) (zrow_aload_n (k := 0) (md := zmd_11) zh_11 (by decide +kernel) rfl rfl))
theorem zr_11_36 : zOK zPre 11 36 (s_k (nat_lit 48) (nat_lit 37)) := ok_iconst (n := 3) (md := zmd_11) zh_11 (by decide +kernel) rfl (by decide +kernel)
theorem zr_11_37 : zOK zPre 11 37 (s_k (nat_lit 16) (nat_lit 38)) := ok_iconst (n := 1) (md := zmd_11) zh_11 (by decide +kernel) rfl (by decide +kernel)
theorem zr_11_38 : zOK zPre 11 38 (s_call (nat_lit 7) (nat_lit 13) (nat_lit 4) (nat_lit 3) (nat_lit 0) [] (nat_lit 41)) := ok_call (md := zmd_11) zh_11 zh_13 rfl (by decide) (by decide) (Or.inr (by decide)) (by decide +kernel) (zrow_callV (mdc := zmd_13) (index := 40) (md := zmd_11) zh_11 (by decide +kernel) rfl rfl zc_13 rfl (by decide) zw_2_73 zw_2_74 zw_2_75 zw_1_3 zd_13) trivial
theorem zr_11_41 : zOK zPre 11 41 (s_rv) := ok_rv (md := zmd_11) zh_11 rfl (by decide +kernel)
theorem zr_12_0 : zOK zPre 12 0 (s_ld_1 (nat_lit 12299) (nat_lit 1)) := zokE (zld_1 _ _) (ok_ld0 (t := 0) (i := 1) (zrow_iload_n (k := 1) (md := zmd_12) zh_12 (by decide +kernel) rfl rfl))
theorem zr_12_1 : zOK zPre 12 1 (s_if (nat_lit 2) zi_lt (nat_lit 20) (nat_lit 4)) := ok_if_lt (off := 19) (md := zmd_12) zh_12 (by decide +kernel) (by decide +kernel) rfl
theorem zr_12_4 : zOK zPre 12 4 (s_ld_1 (nat_lit 12299) (nat_lit 5)) := zokE (zld_1 _ _) (ok_ld0 (t := 0) (i := 1) (zrow_iload_n (k := 1) (md := zmd_12) zh_12 (by decide +kernel) rfl rfl))
theorem zr_12_5 : zOK zPre 12 5 (s_ld_0 (nat_lit 1136) (nat_lit 6)) := zokE (zld_0 _ _) (ok_ld0 (t := 4) (i := 0) (zrow_aload_n (k := 0) (md := zmd_12) zh_12 (by decide +kernel) rfl rfl))
theorem zr_12_6 : zOK zPre 12 6 (s_gf (nat_lit 7) (nat_lit 0) (nat_lit 9)) := ok_gf0 (by decide) (zrow_gf (index := 9) (ref := "Residueworks$Whole") (C := RX8) (T := TX8) (N := 3) (md := zmd_12) zh_12 (by decide +kernel) rfl rfl (by decide) zu_X8 zw_1_64 rfl)
theorem zr_12_9 : zOK zPre 12 9 (s_al (nat_lit 10)) := ok_al (md := zmd_12) zh_12 (by decide +kernel) rfl
theorem zr_12_10 : zOK zPre 12 10 (s_ic (nat_lit 3) zu_ge (nat_lit 20) (nat_lit 13)) := ok_ic_ge (off := 10) (md := zmd_12) zh_12 (by decide +kernel) (by decide +kernel) rfl
theorem zr_12_13 : zOK zPre 12 13 (s_ld_0 (nat_lit 1136) (nat_lit 14)) := zokE (zld_0 _ _) (ok_ld0 (t := 4) (i := 0) (zrow_aload_n (k := 0) (md := zmd_12) zh_12 (by decide +kernel) rfl rfl))
theorem zr_12_14 : zOK zPre 12 14 (s_gf (nat_lit 7) (nat_lit 0) (nat_lit 17)) := ok_gf0 (by decide) (zrow_gf (index := 9) (ref := "Residueworks$Whole") (C := RX8) (T := TX8) (N := 3) (md := zmd_12) zh_12 (by decide +kernel) rfl rfl (by decide) zu_X8 zw_1_64 rfl)
theorem zr_12_17 : zOK zPre 12 17 (s_ld_1 (nat_lit 12299) (nat_lit 18)) := zokE (zld_1 _ _) (ok_ld0 (t := 0) (i := 1) (zrow_iload_n (k := 1) (md := zmd_12) zh_12 (by decide +kernel) rfl rfl))
theorem zr_12_18 : zOK zPre 12 18 (s_ld_2 (nat_lit 12299) (nat_lit 19)) := zokE (zld_2 _ _) (ok_ld0 (t := 0) (i := 2) (zrow_iload_n (k := 2) (md := zmd_12) zh_12 (by decide +kernel) rfl rfl))
theorem zr_12_19 : zOK zPre 12 19 (s_ast (nat_lit 20) (nat_lit 0) (nat_lit 20)) := ok_astI (Or.inl rfl) (Or.inl rfl) (zrow_iastore (md := zmd_12) zh_12 (by decide +kernel) rfl)
theorem zr_12_20 : zOK zPre 12 20 (s_rv) := ok_rv (md := zmd_12) zh_12 rfl (by decide +kernel)
theorem zr_13_0 : zOK zPre 13 0 (s_ld_1 (nat_lit 12299) (nat_lit 1)) := zokE (zld_1 _ _) (ok_ld0 (t := 0) (i := 1) (zrow_iload_n (k := 1) (md := zmd_13) zh_13 (by decide +kernel) rfl rfl))
theorem zr_13_1 : zOK zPre 13 1 (s_ld_0 (nat_lit 1136) (nat_lit 2)) := zokE (zld_0 _ _) (ok_ld0 (t := 4) (i := 0) (zrow_aload_n (k := 0) (md := zmd_13) zh_13 (by decide +kernel) rfl rfl))
theorem zr_13_2 : zOK zPre 13 2 (s_gf (nat_lit 7) (nat_lit 0) (nat_lit 5)) := ok_gf0 (by decide) (zrow_gf (index := 9) (ref := "Residueworks$Whole") (C := RX8) (T := TX8) (N := 3) (md := zmd_13) zh_13 (by decide +kernel) rfl rfl (by decide) zu_X8 zw_1_64 rfl)
theorem zr_13_5 : zOK zPre 13 5 (s_al (nat_lit 6)) := ok_al (md := zmd_13) zh_13 (by decide +kernel) rfl
theorem zr_13_6 : zOK zPre 13 6 (s_ic (nat_lit 3) zu_ge (nat_lit 13) (nat_lit 9)) := ok_ic_ge (off := 7) (md := zmd_13) zh_13 (by decide +kernel) (by decide +kernel) rfl
theorem zr_13_9 : zOK zPre 13 9 (s_ld_1 (nat_lit 12299) (nat_lit 10)) := zokE (zld_1 _ _) (ok_ld0 (t := 0) (i := 1) (zrow_iload_n (k := 1) (md := zmd_13) zh_13 (by decide +kernel) rfl rfl))
theorem zr_13_10 : zOK zPre 13 10 (s_go (nat_lit 18)) := ok_go (off := 8) (md := zmd_13) zh_13 (by decide +kernel) (by decide +kernel)
theorem zr_13_18 : zOK zPre 13 18 (s_s1_3 (nat_lit 12299) (nat_lit 19)) := zokE (zs1_3 _ _) (ok_s10 (t := 0) (i := 3) (zrow_istore_n (k := 3) (md := zmd_13) zh_13 (by decide +kernel) rfl rfl))
theorem zr_13_19 : zOK zPre 13 19 (s_ld_3 (nat_lit 12299) (nat_lit 20)) := zokE (zld_3 _ _) (ok_ld0 (t := 0) (i := 3) (zrow_iload_n (k := 3) (md := zmd_13) zh_13 (by decide +kernel) rfl rfl))
theorem zr_13_20 : zOK zPre 13 20 (s_if (nat_lit 5) zi_le (nat_lit 40) (nat_lit 23)) := ok_if_le (off := 20) (md := zmd_13) zh_13 (by decide +kernel) (by decide +kernel) rfl
theorem zr_13_23 : zOK zPre 13 23 (s_ld_0 (nat_lit 1136) (nat_lit 24)) := zokE (zld_0 _ _) (ok_ld0 (t := 4) (i := 0) (zrow_aload_n (k := 0) (md := zmd_13) zh_13 (by decide +kernel) rfl rfl))
theorem zr_13_24 : zOK zPre 13 24 (s_gf (nat_lit 7) (nat_lit 0) (nat_lit 27)) := ok_gf0 (by decide) (zrow_gf (index := 9) (ref := "Residueworks$Whole") (C := RX8) (T := TX8) (N := 3) (md := zmd_13) zh_13 (by decide +kernel) rfl rfl (by decide) zu_X8 zw_1_64 rfl)
theorem zr_13_27 : zOK zPre 13 27 (s_ld_3 (nat_lit 12299) (nat_lit 28)) := zokE (zld_3 _ _) (ok_ld0 (t := 0) (i := 3) (zrow_iload_n (k := 3) (md := zmd_13) zh_13 (by decide +kernel) rfl rfl))
theorem zr_13_28 : zOK zPre 13 28 (s_k (nat_lit 16) (nat_lit 29)) := ok_iconst (n := 1) (md := zmd_13) zh_13 (by decide +kernel) rfl (by decide +kernel)
theorem zr_13_29 : zOK zPre 13 29 (s_isub (nat_lit 30)) := ok_isub (md := zmd_13) zh_13 (by decide +kernel) rfl
theorem zr_13_30 : zOK zPre 13 30 (s_ald (nat_lit 20) (nat_lit 20) (nat_lit 31)) := ok_ald0 (by decide) (by decide) (by decide) (zrow_iaload (md := zmd_13) zh_13 (by decide +kernel) rfl)
theorem zr_13_31 : zOK zPre 13 31 (s_if (nat_lit 1) zi_ne (nat_lit 40) (nat_lit 34)) := ok_if_ne (off := 9) (md := zmd_13) zh_13 (by decide +kernel) (by decide +kernel) rfl
theorem zr_13_34 : zOK zPre 13 34 (s_inc (nat_lit 3) (nat_lit 68719476720) (nat_lit 37)) := ok_inc (n := -1) (md := zmd_13) zh_13 (by decide +kernel) rfl (by decide +kernel)
theorem zr_13_37 : zOK zPre 13 37 (s_go (nat_lit 19)) := ok_go (off := -18) (md := zmd_13) zh_13 (by decide +kernel) (by decide +kernel)
theorem zr_13_40 : zOK zPre 13 40 (s_ld_0 (nat_lit 1136) (nat_lit 41)) := zokE (zld_0 _ _) (ok_ld0 (t := 4) (i := 0) (zrow_aload_n (k := 0) (md := zmd_13) zh_13 (by decide +kernel) rfl rfl))
theorem zr_13_41 : zOK zPre 13 41 (s_ld_3 (nat_lit 12299) (nat_lit 42)) := zokE (zld_3 _ _) (ok_ld0 (t := 0) (i := 3) (zrow_iload_n (k := 3) (md := zmd_13) zh_13 (by decide +kernel) rfl rfl))
theorem zr_13_42 : zOK zPre 13 42 (s_if (nat_lit 5) zi_le (nat_lit 49) (nat_lit 45)) := ok_if_le (off := 7) (md := zmd_13) zh_13 (by decide +kernel) (by decide +kernel) rfl
theorem zr_13_45 : zOK zPre 13 45 (s_ld_3 (nat_lit 12299) (nat_lit 46)) := zokE (zld_3 _ _) (ok_ld0 (t := 0) (i := 3) (zrow_iload_n (k := 3) (md := zmd_13) zh_13 (by decide +kernel) rfl rfl))
theorem zr_13_46 : zOK zPre 13 46 (s_go (nat_lit 50)) := ok_go (off := 4) (md := zmd_13) zh_13 (by decide +kernel) (by decide +kernel)
theorem zr_13_49 : zOK zPre 13 49 (s_k (nat_lit 0) (nat_lit 50)) := ok_iconst (n := 0) (md := zmd_13) zh_13 (by decide +kernel) rfl (by decide +kernel)
theorem zr_13_50 : zOK zPre 13 50 (s_pf (nat_lit 7) (nat_lit 1) (nat_lit 0) (nat_lit 53)) := ok_pf0 (by decide) (zrow_pf (ty := .int) (index := 13) (ref := "Residueworks$Whole") (C := RX8) (T := TX8) (N := 3) (ty0 := tyX8) (md := zmd_13) zh_13 (by decide +kernel) rfl rfl (by decide) zu_X8 tyX8_ok nmX8 zw_1_66 rfl rfl (by decide +kernel) zfty0)
theorem zr_13_53 : zOK zPre 13 53 (s_ld_0 (nat_lit 1136) (nat_lit 54)) := zokE (zld_0 _ _) (ok_ld0 (t := 4) (i := 0) (zrow_aload_n (k := 0) (md := zmd_13) zh_13 (by decide +kernel) rfl rfl))
theorem zr_13_54 : zOK zPre 13 54 (s_ld_0 (nat_lit 1136) (nat_lit 55)) := zokE (zld_0 _ _) (ok_ld0 (t := 4) (i := 0) (zrow_aload_n (k := 0) (md := zmd_13) zh_13 (by decide +kernel) rfl rfl))
theorem zr_13_55 : zOK zPre 13 55 (s_gf (nat_lit 7) (nat_lit 1) (nat_lit 58)) := ok_gf0 (by decide) (zrow_gf (index := 13) (ref := "Residueworks$Whole") (C := RX8) (T := TX8) (N := 3) (md := zmd_13) zh_13 (by decide +kernel) rfl rfl (by decide) zu_X8 zw_1_66 rfl)
theorem zr_13_58 : zOK zPre 13 58 (s_if (nat_lit 1) zi_ne (nat_lit 65) (nat_lit 61)) := ok_if_ne (off := 7) (md := zmd_13) zh_13 (by decide +kernel) (by decide +kernel) rfl
theorem zr_13_61 : zOK zPre 13 61 (s_k (nat_lit 0) (nat_lit 62)) := ok_iconst (n := 0) (md := zmd_13) zh_13 (by decide +kernel) rfl (by decide +kernel)
theorem zr_13_62 : zOK zPre 13 62 (s_go (nat_lit 66)) := ok_go (off := 4) (md := zmd_13) zh_13 (by decide +kernel) (by decide +kernel)
theorem zr_13_65 : zOK zPre 13 65 (s_ld_2 (nat_lit 12299) (nat_lit 66)) := zokE (zld_2 _ _) (ok_ld0 (t := 0) (i := 2) (zrow_iload_n (k := 2) (md := zmd_13) zh_13 (by decide +kernel) rfl rfl))
theorem zr_13_66 : zOK zPre 13 66 (s_pf (nat_lit 7) (nat_lit 2) (nat_lit 0) (nat_lit 69)) := ok_pf0 (by decide) (zrow_pf (ty := .int) (index := 17) (ref := "Residueworks$Whole") (C := RX8) (T := TX8) (N := 3) (ty0 := tyX8) (md := zmd_13) zh_13 (by decide +kernel) rfl rfl (by decide) zu_X8 tyX8_ok nmX8 zw_1_69 rfl rfl (by decide +kernel) zfty0)
theorem zr_13_69 : zOK zPre 13 69 (s_rv) := ok_rv (md := zmd_13) zh_13 rfl (by decide +kernel)
theorem zr_22_0 : zOK zPre 22 0 (s_ld_0 (nat_lit 1136) (nat_lit 1)) := zokE (zld_0 _ _) (ok_ld0 (t := 4) (i := 0) (zrow_aload_n (k := 0) (md := zmd_22) zh_22 (by decide +kernel) rfl rfl))
theorem zr_22_1 : zOK zPre 22 1 (s_al (nat_lit 2)) := ok_al (md := zmd_22) zh_22 (by decide +kernel) rfl
theorem zr_22_2 : zOK zPre 22 2 (s_s1_1 (nat_lit 12299) (nat_lit 3)) := zokE (zs1_1 _ _) (ok_s10 (t := 0) (i := 1) (zrow_istore_n (k := 1) (md := zmd_22) zh_22 (by decide +kernel) rfl rfl))
theorem zr_22_3 : zOK zPre 22 3 (s_ld_1 (nat_lit 12299) (nat_lit 4)) := zokE (zld_1 _ _) (ok_ld0 (t := 0) (i := 1) (zrow_iload_n (k := 1) (md := zmd_22) zh_22 (by decide +kernel) rfl rfl))
theorem zr_22_4 : zOK zPre 22 4 (s_if (nat_lit 5) zi_le (nat_lit 21) (nat_lit 7)) := ok_if_le (off := 17) (md := zmd_22) zh_22 (by decide +kernel) (by decide +kernel) rfl
theorem zr_22_7 : zOK zPre 22 7 (s_ld_0 (nat_lit 1136) (nat_lit 8)) := zokE (zld_0 _ _) (ok_ld0 (t := 4) (i := 0) (zrow_aload_n (k := 0) (md := zmd_22) zh_22 (by decide +kernel) rfl rfl))
theorem zr_22_8 : zOK zPre 22 8 (s_ld_1 (nat_lit 12299) (nat_lit 9)) := zokE (zld_1 _ _) (ok_ld0 (t := 0) (i := 1) (zrow_iload_n (k := 1) (md := zmd_22) zh_22 (by decide +kernel) rfl rfl))
theorem zr_22_9 : zOK zPre 22 9 (s_k (nat_lit 16) (nat_lit 10)) := ok_iconst (n := 1) (md := zmd_22) zh_22 (by decide +kernel) rfl (by decide +kernel)
theorem zr_22_10 : zOK zPre 22 10 (s_isub (nat_lit 11)) := ok_isub (md := zmd_22) zh_22 (by decide +kernel) rfl
theorem zr_22_11 : zOK zPre 22 11 (s_ald (nat_lit 20) (nat_lit 20) (nat_lit 12)) := ok_ald0 (by decide) (by decide) (by decide) (zrow_iaload (md := zmd_22) zh_22 (by decide +kernel) rfl)
theorem zr_22_12 : zOK zPre 22 12 (s_if (nat_lit 1) zi_ne (nat_lit 21) (nat_lit 15)) := ok_if_ne (off := 9) (md := zmd_22) zh_22 (by decide +kernel) (by decide +kernel) rfl
theorem zr_22_15 : zOK zPre 22 15 (s_inc (nat_lit 1) (nat_lit 68719476720) (nat_lit 18)) := ok_inc (n := -1) (md := zmd_22) zh_22 (by decide +kernel) rfl (by decide +kernel)
theorem zr_22_18 : zOK zPre 22 18 (s_go (nat_lit 3)) := ok_go (off := -15) (md := zmd_22) zh_22 (by decide +kernel) (by decide +kernel)
theorem zr_22_21 : zOK zPre 22 21 (s_ld_1 (nat_lit 12299) (nat_lit 22)) := zokE (zld_1 _ _) (ok_ld0 (t := 0) (i := 1) (zrow_iload_n (k := 1) (md := zmd_22) zh_22 (by decide +kernel) rfl rfl))
theorem zr_22_22 : zOK zPre 22 22 (s_ld_0 (nat_lit 1136) (nat_lit 23)) := zokE (zld_0 _ _) (ok_ld0 (t := 4) (i := 0) (zrow_aload_n (k := 0) (md := zmd_22) zh_22 (by decide +kernel) rfl rfl))
theorem zr_22_23 : zOK zPre 22 23 (s_al (nat_lit 24)) := ok_al (md := zmd_22) zh_22 (by decide +kernel) rfl
theorem zr_22_24 : zOK zPre 22 24 (s_ic (nat_lit 1) zu_ne (nat_lit 29) (nat_lit 27)) := ok_ic_ne (off := 5) (md := zmd_22) zh_22 (by decide +kernel) (by decide +kernel) rfl
theorem zr_22_27 : zOK zPre 22 27 (s_ld_0 (nat_lit 1136) (nat_lit 28)) := zokE (zld_0 _ _) (ok_ld0 (t := 4) (i := 0) (zrow_aload_n (k := 0) (md := zmd_22) zh_22 (by decide +kernel) rfl rfl))
theorem zr_22_28 : zOK zPre 22 28 (s_ret (nat_lit 1136)) := ok_ret0 (t := 4) (i := .areturn) (md := zmd_22) zh_22 rfl (by decide +kernel) ⟨Or.inr ⟨_, rfl⟩, rfl⟩
theorem zr_22_29 : zOK zPre 22 29 (s_ld_1 (nat_lit 12299) (nat_lit 30)) := zokE (zld_1 _ _) (ok_ld0 (t := 0) (i := 1) (zrow_iload_n (k := 1) (md := zmd_22) zh_22 (by decide +kernel) rfl rfl))
theorem zr_22_30 : zOK zPre 22 30 (s_na (nat_lit 20) (nat_lit 0) (nat_lit 32)) := ok_na0 (by decide) rfl (zrow_na20 (md := zmd_22) zh_22 (by decide +kernel) rfl zw_1_83)
theorem zr_22_32 : zOK zPre 22 32 (s_s1_2 (nat_lit 1136) (nat_lit 33)) := zokE (zs1_2 _ _) (ok_s10 (t := 4) (i := 2) (zrow_astore_n (k := 2) (md := zmd_22) zh_22 (by decide +kernel) rfl rfl))
theorem zr_22_33 : zOK zPre 22 33 (s_ld_0 (nat_lit 1136) (nat_lit 34)) := zokE (zld_0 _ _) (ok_ld0 (t := 4) (i := 0) (zrow_aload_n (k := 0) (md := zmd_22) zh_22 (by decide +kernel) rfl rfl))
theorem zr_22_34 : zOK zPre 22 34 (s_k (nat_lit 0) (nat_lit 35)) := ok_iconst (n := 0) (md := zmd_22) zh_22 (by decide +kernel) rfl (by decide +kernel)
theorem zr_22_35 : zOK zPre 22 35 (s_ld_2 (nat_lit 1136) (nat_lit 36)) := zokE (zld_2 _ _) (ok_ld0 (t := 4) (i := 2) (zrow_aload_n (k := 2) (md := zmd_22) zh_22 (by decide +kernel) rfl rfl))
theorem zr_22_36 : zOK zPre 22 36 (s_k (nat_lit 0) (nat_lit 37)) := ok_iconst (n := 0) (md := zmd_22) zh_22 (by decide +kernel) rfl (by decide +kernel)
theorem zr_22_37 : zOK zPre 22 37 (s_ld_1 (nat_lit 12299) (nat_lit 38)) := zokE (zld_1 _ _) (ok_ld0 (t := 0) (i := 1) (zrow_iload_n (k := 1) (md := zmd_22) zh_22 (by decide +kernel) rfl rfl))
theorem zr_22_38 : zOK zPre 22 38 (s_cp (nat_lit 41)) := ok_cp (index := 1) (md := zmd_22) zh_22 (by decide +kernel) rfl zw_7_33 zw_3_138 zw_3_137 zw_1_20
theorem zr_22_41 : zOK zPre 22 41 (s_ld_2 (nat_lit 1136) (nat_lit 42)) := zokE (zld_2 _ _) (ok_ld0 (t := 4) (i := 2) (zrow_aload_n (k := 2) (md := zmd_22) zh_22 (by decide +kernel) rfl rfl))
theorem zr_22_42 : zOK zPre 22 42 (s_ret (nat_lit 1136)) := ok_ret0 (t := 4) (i := .areturn) (md := zmd_22) zh_22 rfl (by decide +kernel) ⟨Or.inr ⟨_, rfl⟩, rfl⟩
theorem zr_23_0 : zOK zPre 23 0 (s_ld_0 (nat_lit 1136) (nat_lit 1)) := zokE (zld_0 _ _) (ok_ld0 (t := 4) (i := 0) (zrow_aload_n (k := 0) (md := zmd_23) zh_23 (by decide +kernel) rfl rfl))
theorem zr_23_1 : zOK zPre 23 1 (s_oi (nat_lit 4)) := ok_oi (index := 1) (md := zmd_23) zh_23 (by decide +kernel) rfl zw_7_37 zw_1_48 zw_oi
theorem zr_23_4 : zOK zPre 23 4 (s_ld_0 (nat_lit 1136) (nat_lit 5)) := zokE (zld_0 _ _) (ok_ld0 (t := 4) (i := 0) (zrow_aload_n (k := 0) (md := zmd_23) zh_23 (by decide +kernel) rfl rfl))
theorem zr_23_5 : zOK zPre 23 5 (s_ld_2 (nat_lit 1136) (nat_lit 6)) := zokE (zld_2 _ _) (ok_ld0 (t := 4) (i := 2) (zrow_aload_n (k := 2) (md := zmd_23) zh_23 (by decide +kernel) rfl rfl))
theorem zr_23_6 : zOK zPre 23 6 (s_al (nat_lit 7)) := ok_al (md := zmd_23) zh_23 (by decide +kernel) rfl
theorem zr_23_7 : zOK zPre 23 7 (s_if (nat_lit 1) zi_ne (nat_lit 14) (nat_lit 10)) := ok_if_ne (off := 7) (md := zmd_23) zh_23 (by decide +kernel) (by decide +kernel) rfl
theorem zr_23_10 : zOK zPre 23 10 (s_k (nat_lit 0) (nat_lit 11)) := ok_iconst (n := 0) (md := zmd_23) zh_23 (by decide +kernel) rfl (by decide +kernel)
theorem zr_23_11 : zOK zPre 23 11 (s_go (nat_lit 15)) := ok_go (off := 4) (md := zmd_23) zh_23 (by decide +kernel) (by decide +kernel)
theorem zr_23_14 : zOK zPre 23 14 (s_ld_1 (nat_lit 12299) (nat_lit 15)) := zokE (zld_1 _ _) (ok_ld0 (t := 0) (i := 1) (zrow_iload_n (k := 1) (md := zmd_23) zh_23 (by decide +kernel) rfl rfl))
theorem zr_23_15 : zOK zPre 23 15 (s_pf (nat_lit 9) (nat_lit 0) (nat_lit 0) (nat_lit 18)) := ok_pf0 (by decide) (zrow_pfF (ty := .int) (index := 7) (ref := "ResidueworksModel$Whole") (C := RX10) (T := TX10) (N := 2) (ty0 := tyX10) (md := zmd_23) zh_23 (by decide +kernel) rfl rfl (by decide) zu_X10 tyX10_ok nmX10 zw_7_38 rfl rfl rfl rfl (by decide +kernel) zfty0)
theorem zr_23_18 : zOK zPre 23 18 (s_ld_0 (nat_lit 1136) (nat_lit 19)) := zokE (zld_0 _ _) (ok_ld0 (t := 4) (i := 0) (zrow_aload_n (k := 0) (md := zmd_23) zh_23 (by decide +kernel) rfl rfl))
theorem zr_23_19 : zOK zPre 23 19 (s_ld_2 (nat_lit 1136) (nat_lit 20)) := zokE (zld_2 _ _) (ok_ld0 (t := 4) (i := 2) (zrow_aload_n (k := 2) (md := zmd_23) zh_23 (by decide +kernel) rfl rfl))
theorem zr_23_20 : zOK zPre 23 20 (s_pf (nat_lit 9) (nat_lit 1) (nat_lit 5) (nat_lit 23)) := ok_pf0 (by decide) (zrow_pfF (ty := tyX10 1) (index := 13) (ref := "ResidueworksModel$Whole") (C := RX10) (T := TX10) (N := 2) (ty0 := tyX10) (md := zmd_23) zh_23 (by decide +kernel) rfl rfl (by decide) zu_X10 tyX10_ok nmX10 zw_7_40 rfl rfl rfl rfl (by decide +kernel) zfty5a)
theorem zr_23_23 : zOK zPre 23 23 (s_rv) := ok_rv (md := zmd_23) zh_23 rfl (by decide +kernel)
theorem zr_24_0 : zOK zPre 24 0 (s_ld_4 (nat_lit 1136) (nat_lit 2)) := zokE (zld_4 _ _) (ok_ld0 (t := 4) (i := 4) (zrow_aload (md := zmd_24) zh_24 (by decide +kernel) rfl))
theorem zr_24_2 : zOK zPre 24 2 (s_k (nat_lit 0) (nat_lit 3)) := ok_iconst (n := 0) (md := zmd_24) zh_24 (by decide +kernel) rfl (by decide +kernel)
theorem zr_24_3 : zOK zPre 24 3 (s_ld_0 (nat_lit 1136) (nat_lit 4)) := zokE (zld_0 _ _) (ok_ld0 (t := 4) (i := 0) (zrow_aload_n (k := 0) (md := zmd_24) zh_24 (by decide +kernel) rfl rfl))
theorem zr_24_4 : zOK zPre 24 4 (s_ld_1 (nat_lit 12299) (nat_lit 5)) := zokE (zld_1 _ _) (ok_ld0 (t := 0) (i := 1) (zrow_iload_n (k := 1) (md := zmd_24) zh_24 (by decide +kernel) rfl rfl))
theorem zr_24_5 : zOK zPre 24 5 (s_ld_2 (nat_lit 2052) (nat_lit 6)) := zokE (zld_2 _ _) (ok_ld0 (t := 1) (i := 2) (zrow_lload_n (k := 2) (md := zmd_24) zh_24 (by decide +kernel) rfl rfl))
theorem zr_24_6 : zOK zPre 24 6 (s_call (nat_lit 8) (nat_lit 25) (nat_lit 5) (nat_lit 3) (nat_lit 1) [((nat_lit 0), (nat_lit 5), (nat_lit 16))] (nat_lit 9)) := ok_call (md := zmd_24) zh_24 zh_25 rfl (by decide) (by decide) (Or.inr (by decide)) (by decide +kernel) (zrow_callV (mdc := zmd_25) (index := 7) (md := zmd_24) zh_24 (by decide +kernel) rfl rfl zc_25 rfl (by decide) zw_3_65 zw_3_66 zw_3_67 zw_1_1 zd_25) ⟨⟨by decide, by decide, by decide, by decide, zw_2_226, zw_3_75, zrow_astore (md := zmd_24) zh_24 (by decide +kernel) rfl⟩, trivial⟩
theorem zr_24_9 : zOK zPre 24 9 (s_i2l (nat_lit 10)) := ok_i2l (md := zmd_24) zh_24 (by decide +kernel) rfl
theorem zr_24_10 : zOK zPre 24 10 (s_ast (nat_lit 21) (nat_lit 4) (nat_lit 11)) := ok_astL rfl rfl (zrow_lastore (md := zmd_24) zh_24 (by decide +kernel) rfl)
theorem zr_24_11 : zOK zPre 24 11 (s_go (nat_lit 18)) := ok_go (off := 7) (md := zmd_24) zh_24 (by decide +kernel) (by decide +kernel)
theorem zr_24_16 : zOK zPre 24 16 (s_k (nat_lit 16) (nat_lit 17)) := ok_iconst (n := 1) (md := zmd_24) zh_24 (by decide +kernel) rfl (by decide +kernel)
theorem zr_24_17 : zOK zPre 24 17 (s_ret (nat_lit 12299)) := ok_ret0 (t := 0) (i := .ireturn) (ty := .int) (md := zmd_24) zh_24 rfl (by decide +kernel) ⟨rfl, rfl⟩
theorem zr_24_18 : zOK zPre 24 18 (s_k (nat_lit 0) (nat_lit 19)) := ok_iconst (n := 0) (md := zmd_24) zh_24 (by decide +kernel) rfl (by decide +kernel)
theorem zr_24_19 : zOK zPre 24 19 (s_ret (nat_lit 12299)) := ok_ret0 (t := 0) (i := .ireturn) (ty := .int) (md := zmd_24) zh_24 rfl (by decide +kernel) ⟨rfl, rfl⟩
theorem zr_25_0 : zOK zPre 25 0 (s_ld_0 (nat_lit 1136) (nat_lit 1)) := zokE (zld_0 _ _) (ok_ld0 (t := 4) (i := 0) (zrow_aload_n (k := 0) (md := zmd_25) zh_25 (by decide +kernel) rfl rfl))
theorem zr_25_1 : zOK zPre 25 1 (s_ld_1 (nat_lit 12299) (nat_lit 2)) := zokE (zld_1 _ _) (ok_ld0 (t := 0) (i := 1) (zrow_iload_n (k := 1) (md := zmd_25) zh_25 (by decide +kernel) rfl rfl))
theorem zr_25_2 : zOK zPre 25 2 (s_call (nat_lit 8) (nat_lit 26) (nat_lit 2) (nat_lit 2) (nat_lit 1) [] (nat_lit 5)) := ok_call (md := zmd_25) zh_25 zh_26 rfl (by decide) (by decide) (Or.inr (by decide)) (by decide +kernel) (zrow_callV (mdc := zmd_26) (index := 72) (md := zmd_25) zh_25 (by decide +kernel) rfl rfl zc_26 rfl (by decide) zw_3_69 zw_3_71 zws_1 zw_1_1 zd_26) trivial
theorem zr_25_5 : zOK zPre 25 5 (s_s1_4 (nat_lit 1136) (nat_lit 7)) := zokE (zs1_4 _ _) (ok_s10 (t := 4) (i := 4) (zrow_astore (md := zmd_25) zh_25 (by decide +kernel) rfl))
theorem zr_25_7 : zOK zPre 25 7 (s_ld_4 (nat_lit 1136) (nat_lit 9)) := zokE (zld_4 _ _) (ok_ld0 (t := 4) (i := 4) (zrow_aload (md := zmd_25) zh_25 (by decide +kernel) rfl))
theorem zr_25_9 : zOK zPre 25 9 (s_ld_2 (nat_lit 2052) (nat_lit 10)) := zokE (zld_2 _ _) (ok_ld0 (t := 1) (i := 2) (zrow_lload_n (k := 2) (md := zmd_25) zh_25 (by decide +kernel) rfl rfl))
theorem zr_25_10 : zOK zPre 25 10 (s_call (nat_lit 7) (nat_lit 10) (nat_lit 3) (nat_lit 2) (nat_lit 0) [] (nat_lit 13)) := ok_call (md := zmd_25) zh_25 zh_10 rfl (by decide) (by decide) (Or.inr (by decide)) (by decide +kernel) (zrow_callV (mdc := zmd_10) (index := 76) (md := zmd_25) zh_25 (by decide +kernel) rfl rfl zc_10 rfl (by decide) zw_3_86 zw_2_61 zw_2_62 zw_1_3 zd_10) trivial
theorem zr_25_13 : zOK zPre 25 13 (s_ld_4 (nat_lit 1136) (nat_lit 15)) := zokE (zld_4 _ _) (ok_ld0 (t := 4) (i := 4) (zrow_aload (md := zmd_25) zh_25 (by decide +kernel) rfl))
theorem zr_25_15 : zOK zPre 25 15 (s_call (nat_lit 7) (nat_lit 27) (nat_lit 2) (nat_lit 1) (nat_lit 1) [] (nat_lit 18)) := ok_call (md := zmd_25) zh_25 zh_27 rfl (by decide) (by decide) (Or.inr (by decide)) (by decide +kernel) (zrow_callV (mdc := zmd_27) (index := 80) (md := zmd_25) zh_25 (by decide +kernel) rfl rfl zc_27 rfl (by decide) zw_2_172 zw_2_173 zw_2_174 zw_1_3 zd_27) trivial
theorem zr_25_18 : zOK zPre 25 18 (s_ret (nat_lit 12299)) := ok_ret0 (t := 0) (i := .ireturn) (ty := .int) (md := zmd_25) zh_25 rfl (by decide +kernel) ⟨rfl, rfl⟩
theorem zr_26_0 : zOK zPre 26 0 (s_ld_1 (nat_lit 12299) (nat_lit 1)) := zokE (zld_1 _ _) (ok_ld0 (t := 0) (i := 1) (zrow_iload_n (k := 1) (md := zmd_26) zh_26 (by decide +kernel) rfl rfl))
theorem zr_26_1 : zOK zPre 26 1 (s_if (nat_lit 2) zi_lt (nat_lit 13) (nat_lit 4)) := ok_if_lt (off := 12) (md := zmd_26) zh_26 (by decide +kernel) (by decide +kernel) rfl
theorem zr_26_4 : zOK zPre 26 4 (s_ld_1 (nat_lit 12299) (nat_lit 5)) := zokE (zld_1 _ _) (ok_ld0 (t := 0) (i := 1) (zrow_iload_n (k := 1) (md := zmd_26) zh_26 (by decide +kernel) rfl rfl))
theorem zr_26_5 : zOK zPre 26 5 (s_ld_0 (nat_lit 1136) (nat_lit 6)) := zokE (zld_0 _ _) (ok_ld0 (t := 4) (i := 0) (zrow_aload_n (k := 0) (md := zmd_26) zh_26 (by decide +kernel) rfl rfl))
theorem zr_26_6 : zOK zPre 26 6 (s_gf (nat_lit 8) (nat_lit 0) (nat_lit 9)) := ok_gf0 (by decide) (zrow_gf (index := 11) (ref := "Residueworks") (C := RX9) (T := TX9) (N := 10) (md := zmd_26) zh_26 (by decide +kernel) rfl rfl (by decide) zu_X9 zw_2_125 rfl)
theorem zr_26_9 : zOK zPre 26 9 (s_al (nat_lit 10)) := ok_al (md := zmd_26) zh_26 (by decide +kernel) rfl
theorem zr_26_10 : zOK zPre 26 10 (s_ic (nat_lit 2) zu_lt (nat_lit 24) (nat_lit 13)) := ok_ic_lt (off := 14) (md := zmd_26) zh_26 (by decide +kernel) (by decide +kernel) rfl
theorem zr_26_13 : zOK zPre 26 13 (s_thr (nat_lit 0)) := ok_thrSW (ik := 201) (is := 375) (ic := 205) (tx := "no such register") (md := zmd_26) zh_26 rfl rfl zth_201_205_0 (List.mem_of_getElem? (i := 22) rfl) (by decide +kernel) (by decide +kernel) (by decide +kernel) (by decide +kernel) (by decide +kernel)
theorem zr_26_24 : zOK zPre 26 24 (s_ld_0 (nat_lit 1136) (nat_lit 25)) := zokE (zld_0 _ _) (ok_ld0 (t := 4) (i := 0) (zrow_aload_n (k := 0) (md := zmd_26) zh_26 (by decide +kernel) rfl rfl))
theorem zr_26_25 : zOK zPre 26 25 (s_gf (nat_lit 8) (nat_lit 0) (nat_lit 28)) := ok_gf0 (by decide) (zrow_gf (index := 11) (ref := "Residueworks") (C := RX9) (T := TX9) (N := 10) (md := zmd_26) zh_26 (by decide +kernel) rfl rfl (by decide) zu_X9 zw_2_125 rfl)
theorem zr_26_28 : zOK zPre 26 28 (s_ld_1 (nat_lit 12299) (nat_lit 29)) := zokE (zld_1 _ _) (ok_ld0 (t := 0) (i := 1) (zrow_iload_n (k := 1) (md := zmd_26) zh_26 (by decide +kernel) rfl rfl))
theorem zr_26_29 : zOK zPre 26 29 (s_ald (nat_lit 25) (nat_lit 29) (nat_lit 30)) := ok_ald0 (by decide) (by decide) (by decide) (zrow_aaload (md := zmd_26) zh_26 (by decide +kernel) rfl)
theorem zr_26_30 : zOK zPre 26 30 (s_ret (nat_lit 1136)) := ok_ret0 (t := 4) (i := .areturn) (md := zmd_26) zh_26 rfl (by decide +kernel) ⟨Or.inl ⟨_, rfl⟩, rfl⟩
theorem zr_27_0 : zOK zPre 27 0 (s_ld_0 (nat_lit 1136) (nat_lit 1)) := zokE (zld_0 _ _) (ok_ld0 (t := 4) (i := 0) (zrow_aload_n (k := 0) (md := zmd_27) zh_27 (by decide +kernel) rfl rfl))
theorem zr_27_1 : zOK zPre 27 1 (s_call (nat_lit 7) (nat_lit 28) (nat_lit 1) (nat_lit 1) (nat_lit 1) [] (nat_lit 4)) := ok_call (md := zmd_27) zh_27 zh_28 rfl (by decide) (by decide) (Or.inr (by decide)) (by decide +kernel) (zrow_callV (mdc := zmd_28) (index := 62) (md := zmd_27) zh_27 (by decide +kernel) rfl rfl zc_28 rfl (by decide) zw_2_176 zw_2_177 zw_2_178 zw_1_3 zd_28) trivial
theorem zr_27_4 : zOK zPre 27 4 (s_s1_1 (nat_lit 12299) (nat_lit 5)) := zokE (zs1_1 _ _) (ok_s10 (t := 0) (i := 1) (zrow_istore_n (k := 1) (md := zmd_27) zh_27 (by decide +kernel) rfl rfl))
theorem zr_27_5 : zOK zPre 27 5 (s_ld_0 (nat_lit 1136) (nat_lit 6)) := zokE (zld_0 _ _) (ok_ld0 (t := 4) (i := 0) (zrow_aload_n (k := 0) (md := zmd_27) zh_27 (by decide +kernel) rfl rfl))
theorem zr_27_6 : zOK zPre 27 6 (s_gf (nat_lit 7) (nat_lit 2) (nat_lit 9)) := ok_gf0 (by decide) (zrow_gf (index := 17) (ref := "Residueworks$Whole") (C := RX8) (T := TX8) (N := 3) (md := zmd_27) zh_27 (by decide +kernel) rfl rfl (by decide) zu_X8 zw_1_69 rfl)
theorem zr_27_9 : zOK zPre 27 9 (s_if (nat_lit 3) zi_ge (nat_lit 28) (nat_lit 12)) := ok_if_ge (off := 19) (md := zmd_27) zh_27 (by decide +kernel) (by decide +kernel) rfl
theorem zr_27_12 : zOK zPre 27 12 (s_ld_0 (nat_lit 1136) (nat_lit 13)) := zokE (zld_0 _ _) (ok_ld0 (t := 4) (i := 0) (zrow_aload_n (k := 0) (md := zmd_27) zh_27 (by decide +kernel) rfl rfl))
theorem zr_27_13 : zOK zPre 27 13 (s_call (nat_lit 7) (nat_lit 40) (nat_lit 2) (nat_lit 1) (nat_lit 1) [] (nat_lit 16)) := ok_call (md := zmd_27) zh_27 zh_40 rfl (by decide) (by decide) (Or.inr (by decide)) (by decide +kernel) (zrow_callV (mdc := zmd_40) (index := 66) (md := zmd_27) zh_27 (by decide +kernel) rfl rfl zc_40 rfl (by decide) zw_2_188 zw_2_189 zw_2_190 zw_1_3 zd_40) trivial
theorem zr_27_16 : zOK zPre 27 16 (s_ld_1 (nat_lit 12299) (nat_lit 17)) := zokE (zld_1 _ _) (ok_ld0 (t := 0) (i := 1) (zrow_iload_n (k := 1) (md := zmd_27) zh_27 (by decide +kernel) rfl rfl))
theorem zr_27_17 : zOK zPre 27 17 (s_k (nat_lit 16) (nat_lit 18)) := ok_iconst (n := 1) (md := zmd_27) zh_27 (by decide +kernel) rfl (by decide +kernel)
theorem zr_27_18 : zOK zPre 27 18 (s_isub (nat_lit 19)) := ok_isub (md := zmd_27) zh_27 (by decide +kernel) rfl
theorem zr_27_19 : zOK zPre 27 19 (s_ic (nat_lit 1) zu_ne (nat_lit 28) (nat_lit 22)) := ok_ic_ne (off := 9) (md := zmd_27) zh_27 (by decide +kernel) (by decide +kernel) rfl
theorem zr_27_22 : zOK zPre 27 22 (s_ld_1 (nat_lit 12299) (nat_lit 23)) := zokE (zld_1 _ _) (ok_ld0 (t := 0) (i := 1) (zrow_iload_n (k := 1) (md := zmd_27) zh_27 (by decide +kernel) rfl rfl))
theorem zr_27_23 : zOK zPre 27 23 (s_k (nat_lit 16) (nat_lit 24)) := ok_iconst (n := 1) (md := zmd_27) zh_27 (by decide +kernel) rfl (by decide +kernel)
theorem zr_27_24 : zOK zPre 27 24 (s_isub (nat_lit 25)) := ok_isub (md := zmd_27) zh_27 (by decide +kernel) rfl
theorem zr_27_25 : zOK zPre 27 25 (s_go (nat_lit 29)) := ok_go (off := 4) (md := zmd_27) zh_27 (by decide +kernel) (by decide +kernel)
theorem zr_27_28 : zOK zPre 27 28 (s_ld_1 (nat_lit 12299) (nat_lit 29)) := zokE (zld_1 _ _) (ok_ld0 (t := 0) (i := 1) (zrow_iload_n (k := 1) (md := zmd_27) zh_27 (by decide +kernel) rfl rfl))
theorem zr_27_29 : zOK zPre 27 29 (s_ret (nat_lit 12299)) := ok_ret0 (t := 0) (i := .ireturn) (ty := .int) (md := zmd_27) zh_27 rfl (by decide +kernel) ⟨rfl, rfl⟩
theorem zr_28_0 : zOK zPre 28 0 (s_ld_0 (nat_lit 1136) (nat_lit 1)) := zokE (zld_0 _ _) (ok_ld0 (t := 4) (i := 0) (zrow_aload_n (k := 0) (md := zmd_28) zh_28 (by decide +kernel) rfl rfl))
theorem zr_28_1 : zOK zPre 28 1 (s_gf (nat_lit 7) (nat_lit 1) (nat_lit 4)) := ok_gf0 (by decide) (zrow_gf (index := 13) (ref := "Residueworks$Whole") (C := RX8) (T := TX8) (N := 3) (md := zmd_28) zh_28 (by decide +kernel) rfl rfl (by decide) zu_X8 zw_1_66 rfl)
theorem zr_28_4 : zOK zPre 28 4 (s_if (nat_lit 1) zi_ne (nat_lit 11) (nat_lit 7)) := ok_if_ne (off := 7) (md := zmd_28) zh_28 (by decide +kernel) (by decide +kernel) rfl
theorem zr_28_7 : zOK zPre 28 7 (s_k (nat_lit 0) (nat_lit 8)) := ok_iconst (n := 0) (md := zmd_28) zh_28 (by decide +kernel) rfl (by decide +kernel)
theorem zr_28_8 : zOK zPre 28 8 (s_go (nat_lit 34)) := ok_go (off := 26) (md := zmd_28) zh_28 (by decide +kernel) (by decide +kernel)
theorem zr_28_11 : zOK zPre 28 11 (s_ld_0 (nat_lit 1136) (nat_lit 12)) := zokE (zld_0 _ _) (ok_ld0 (t := 4) (i := 0) (zrow_aload_n (k := 0) (md := zmd_28) zh_28 (by decide +kernel) rfl rfl))
theorem zr_28_12 : zOK zPre 28 12 (s_gf (nat_lit 7) (nat_lit 1) (nat_lit 15)) := ok_gf0 (by decide) (zrow_gf (index := 13) (ref := "Residueworks$Whole") (C := RX8) (T := TX8) (N := 3) (md := zmd_28) zh_28 (by decide +kernel) rfl rfl (by decide) zu_X8 zw_1_66 rfl)
theorem zr_28_15 : zOK zPre 28 15 (s_k (nat_lit 480) (nat_lit 17)) := ok_bipush (n := 30) (md := zmd_28) zh_28 (by decide +kernel) rfl (by decide +kernel)
theorem zr_28_17 : zOK zPre 28 17 (s_imul (nat_lit 18)) := ok_imul (md := zmd_28) zh_28 (by decide +kernel) rfl
theorem zr_28_18 : zOK zPre 28 18 (s_ld_0 (nat_lit 1136) (nat_lit 19)) := zokE (zld_0 _ _) (ok_ld0 (t := 4) (i := 0) (zrow_aload_n (k := 0) (md := zmd_28) zh_28 (by decide +kernel) rfl rfl))
theorem zr_28_19 : zOK zPre 28 19 (s_ld_0 (nat_lit 1136) (nat_lit 20)) := zokE (zld_0 _ _) (ok_ld0 (t := 4) (i := 0) (zrow_aload_n (k := 0) (md := zmd_28) zh_28 (by decide +kernel) rfl rfl))
theorem zr_28_20 : zOK zPre 28 20 (s_gf (nat_lit 7) (nat_lit 1) (nat_lit 23)) := ok_gf0 (by decide) (zrow_gf (index := 13) (ref := "Residueworks$Whole") (C := RX8) (T := TX8) (N := 3) (md := zmd_28) zh_28 (by decide +kernel) rfl rfl (by decide) zu_X8 zw_1_66 rfl)
theorem zr_28_23 : zOK zPre 28 23 (s_k (nat_lit 16) (nat_lit 24)) := ok_iconst (n := 1) (md := zmd_28) zh_28 (by decide +kernel) rfl (by decide +kernel)
theorem zr_28_24 : zOK zPre 28 24 (s_isub (nat_lit 25)) := ok_isub (md := zmd_28) zh_28 (by decide +kernel) rfl
theorem zr_28_25 : zOK zPre 28 25 (s_call (nat_lit 7) (nat_lit 29) (nat_lit 2) (nat_lit 2) (nat_lit 1) [] (nat_lit 28)) := ok_call (md := zmd_28) zh_28 zh_29 rfl (by decide) (by decide) (Or.inr (by decide)) (by decide +kernel) (zrow_callV (mdc := zmd_29) (index := 49) (md := zmd_28) zh_28 (by decide +kernel) rfl rfl zc_29 rfl (by decide) zw_2_180 zw_2_181 zw_2_182 zw_1_3 zd_29) trivial
theorem zr_28_28 : zOK zPre 28 28 (s_call (nat_lit 99) (nat_lit 30) (nat_lit 2) (nat_lit 1) (nat_lit 1) [] (nat_lit 31)) := ok_call (md := zmd_28) zh_28 zh_30 rfl (by decide) (by decide) (Or.inl rfl) (by decide +kernel) (zrow_callS (mdc := zmd_30) (index := 57) (md := zmd_28) zh_28 (by decide +kernel) rfl rfl zc_30 zw_2_184 zw_2_185 zw_1_27 zd_30) trivial
theorem zr_28_31 : zOK zPre 28 31 (s_k (nat_lit 32) (nat_lit 32)) := ok_iconst (n := 2) (md := zmd_28) zh_28 (by decide +kernel) rfl (by decide +kernel)
theorem zr_28_32 : zOK zPre 28 32 (s_isub (nat_lit 33)) := ok_isub (md := zmd_28) zh_28 (by decide +kernel) rfl
theorem zr_28_33 : zOK zPre 28 33 (s_isub (nat_lit 34)) := ok_isub (md := zmd_28) zh_28 (by decide +kernel) rfl
theorem zr_28_34 : zOK zPre 28 34 (s_ret (nat_lit 12299)) := ok_ret0 (t := 0) (i := .ireturn) (ty := .int) (md := zmd_28) zh_28 rfl (by decide +kernel) ⟨rfl, rfl⟩
theorem zr_29_0 : zOK zPre 29 0 (s_ld_1 (nat_lit 12299) (nat_lit 1)) := zokE (zld_1 _ _) (ok_ld0 (t := 0) (i := 1) (zrow_iload_n (k := 1) (md := zmd_29) zh_29 (by decide +kernel) rfl rfl))
theorem zr_29_1 : zOK zPre 29 1 (s_if (nat_lit 2) zi_lt (nat_lit 30) (nat_lit 4)) := ok_if_lt (off := 29) (md := zmd_29) zh_29 (by decide +kernel) (by decide +kernel) rfl
theorem zr_29_4 : zOK zPre 29 4 (s_ld_1 (nat_lit 12299) (nat_lit 5)) := zokE (zld_1 _ _) (ok_ld0 (t := 0) (i := 1) (zrow_iload_n (k := 1) (md := zmd_29) zh_29 (by decide +kernel) rfl rfl))
theorem zr_29_5 : zOK zPre 29 5 (s_ld_0 (nat_lit 1136) (nat_lit 6)) := zokE (zld_0 _ _) (ok_ld0 (t := 4) (i := 0) (zrow_aload_n (k := 0) (md := zmd_29) zh_29 (by decide +kernel) rfl rfl))
theorem zr_29_6 : zOK zPre 29 6 (s_gf (nat_lit 7) (nat_lit 1) (nat_lit 9)) := ok_gf0 (by decide) (zrow_gf (index := 13) (ref := "Residueworks$Whole") (C := RX8) (T := TX8) (N := 3) (md := zmd_29) zh_29 (by decide +kernel) rfl rfl (by decide) zu_X8 zw_1_66 rfl)
theorem zr_29_9 : zOK zPre 29 9 (s_ic (nat_lit 3) zu_ge (nat_lit 30) (nat_lit 12)) := ok_ic_ge (off := 21) (md := zmd_29) zh_29 (by decide +kernel) (by decide +kernel) rfl
theorem zr_29_12 : zOK zPre 29 12 (s_ld_1 (nat_lit 12299) (nat_lit 13)) := zokE (zld_1 _ _) (ok_ld0 (t := 0) (i := 1) (zrow_iload_n (k := 1) (md := zmd_29) zh_29 (by decide +kernel) rfl rfl))
theorem zr_29_13 : zOK zPre 29 13 (s_ld_0 (nat_lit 1136) (nat_lit 14)) := zokE (zld_0 _ _) (ok_ld0 (t := 4) (i := 0) (zrow_aload_n (k := 0) (md := zmd_29) zh_29 (by decide +kernel) rfl rfl))
theorem zr_29_14 : zOK zPre 29 14 (s_gf (nat_lit 7) (nat_lit 0) (nat_lit 17)) := ok_gf0 (by decide) (zrow_gf (index := 9) (ref := "Residueworks$Whole") (C := RX8) (T := TX8) (N := 3) (md := zmd_29) zh_29 (by decide +kernel) rfl rfl (by decide) zu_X8 zw_1_64 rfl)
theorem zr_29_17 : zOK zPre 29 17 (s_al (nat_lit 18)) := ok_al (md := zmd_29) zh_29 (by decide +kernel) rfl
theorem zr_29_18 : zOK zPre 29 18 (s_ic (nat_lit 3) zu_ge (nat_lit 30) (nat_lit 21)) := ok_ic_ge (off := 12) (md := zmd_29) zh_29 (by decide +kernel) (by decide +kernel) rfl
theorem zr_29_21 : zOK zPre 29 21 (s_ld_0 (nat_lit 1136) (nat_lit 22)) := zokE (zld_0 _ _) (ok_ld0 (t := 4) (i := 0) (zrow_aload_n (k := 0) (md := zmd_29) zh_29 (by decide +kernel) rfl rfl))
theorem zr_29_22 : zOK zPre 29 22 (s_gf (nat_lit 7) (nat_lit 0) (nat_lit 25)) := ok_gf0 (by decide) (zrow_gf (index := 9) (ref := "Residueworks$Whole") (C := RX8) (T := TX8) (N := 3) (md := zmd_29) zh_29 (by decide +kernel) rfl rfl (by decide) zu_X8 zw_1_64 rfl)
theorem zr_29_25 : zOK zPre 29 25 (s_ld_1 (nat_lit 12299) (nat_lit 26)) := zokE (zld_1 _ _) (ok_ld0 (t := 0) (i := 1) (zrow_iload_n (k := 1) (md := zmd_29) zh_29 (by decide +kernel) rfl rfl))
theorem zr_29_26 : zOK zPre 29 26 (s_ald (nat_lit 20) (nat_lit 20) (nat_lit 27)) := ok_ald0 (by decide) (by decide) (by decide) (zrow_iaload (md := zmd_29) zh_29 (by decide +kernel) rfl)
theorem zr_29_27 : zOK zPre 29 27 (s_go (nat_lit 31)) := ok_go (off := 4) (md := zmd_29) zh_29 (by decide +kernel) (by decide +kernel)
theorem zr_29_30 : zOK zPre 29 30 (s_k (nat_lit 0) (nat_lit 31)) := ok_iconst (n := 0) (md := zmd_29) zh_29 (by decide +kernel) rfl (by decide +kernel)
theorem zr_29_31 : zOK zPre 29 31 (s_ret (nat_lit 12299)) := ok_ret0 (t := 0) (i := .ireturn) (ty := .int) (md := zmd_29) zh_29 rfl (by decide +kernel) ⟨rfl, rfl⟩
theorem zr_30_0 : zOK zPre 30 0 (s_ld_0 (nat_lit 12299) (nat_lit 1)) := zokE (zld_0 _ _) (ok_ld0 (t := 0) (i := 0) (zrow_iload_n (k := 0) (md := zmd_30) zh_30 (by decide +kernel) rfl rfl))
theorem zr_30_1 : zOK zPre 30 1 (s_if (nat_lit 4) zi_gt (nat_lit 15) (nat_lit 4)) := ok_if_gt (off := 14) (md := zmd_30) zh_30 (by decide +kernel) (by decide +kernel) rfl
theorem zr_30_4 : zOK zPre 30 4 (s_ld_0 (nat_lit 12299) (nat_lit 5)) := zokE (zld_0 _ _) (ok_ld0 (t := 0) (i := 0) (zrow_iload_n (k := 0) (md := zmd_30) zh_30 (by decide +kernel) rfl rfl))
theorem zr_30_5 : zOK zPre 30 5 (s_if (nat_lit 1) zi_ne (nat_lit 13) (nat_lit 8)) := ok_if_ne (off := 8) (md := zmd_30) zh_30 (by decide +kernel) (by decide +kernel) rfl
theorem zr_30_8 : zOK zPre 30 8 (s_k (nat_lit 512) (nat_lit 10)) := ok_bipush (n := 32) (md := zmd_30) zh_30 (by decide +kernel) rfl (by decide +kernel)
theorem zr_30_10 : zOK zPre 30 10 (s_go (nat_lit 14)) := ok_go (off := 4) (md := zmd_30) zh_30 (by decide +kernel) (by decide +kernel)
theorem zr_30_14 : zOK zPre 30 14 (s_ret (nat_lit 12299)) := ok_ret0 (t := 0) (i := .ireturn) (ty := .int) (md := zmd_30) zh_30 rfl (by decide +kernel) ⟨rfl, rfl⟩
theorem zr_30_15 : zOK zPre 30 15 (s_k (nat_lit 496) (nat_lit 17)) := ok_bipush (n := 31) (md := zmd_30) zh_30 (by decide +kernel) rfl (by decide +kernel)
theorem zr_30_17 : zOK zPre 30 17 (s_s1_1 (nat_lit 12299) (nat_lit 18)) := zokE (zs1_1 _ _) (ok_s10 (t := 0) (i := 1) (zrow_istore_n (k := 1) (md := zmd_30) zh_30 (by decide +kernel) rfl rfl))
theorem zr_30_18 : zOK zPre 30 18 (s_ld_0 (nat_lit 12299) (nat_lit 19)) := zokE (zld_0 _ _) (ok_ld0 (t := 0) (i := 0) (zrow_iload_n (k := 0) (md := zmd_30) zh_30 (by decide +kernel) rfl rfl))
theorem zr_30_19 : zOK zPre 30 19 (s_k (nat_lit 1048576) (nat_lit 22)) := ok_ldcw (i := 264) (n := (65536 : Int32)) (md := zmd_30) zh_30 (by decide +kernel) rfl zw_2_187 (by decide +kernel)
theorem zr_30_22 : zOK zPre 30 22 (s_ic (nat_lit 2) zu_lt (nat_lit 33) (nat_lit 25)) := ok_ic_lt (off := 11) (md := zmd_30) zh_30 (by decide +kernel) (by decide +kernel) rfl
theorem zr_30_25 : zOK zPre 30 25 (s_inc (nat_lit 1) (nat_lit 68719476480) (nat_lit 28)) := ok_inc (n := -16) (md := zmd_30) zh_30 (by decide +kernel) rfl (by decide +kernel)
theorem zr_30_28 : zOK zPre 30 28 (s_ld_0 (nat_lit 12299) (nat_lit 29)) := zokE (zld_0 _ _) (ok_ld0 (t := 0) (i := 0) (zrow_iload_n (k := 0) (md := zmd_30) zh_30 (by decide +kernel) rfl rfl))
theorem zr_30_29 : zOK zPre 30 29 (s_k (nat_lit 256) (nat_lit 31)) := ok_bipush (n := 16) (md := zmd_30) zh_30 (by decide +kernel) rfl (by decide +kernel)
theorem zr_30_31 : zOK zPre 30 31 (s_iushr (nat_lit 32)) := ok_iushr (md := zmd_30) zh_30 (by decide +kernel) rfl
theorem zr_30_32 : zOK zPre 30 32 (s_s1_0 (nat_lit 12299) (nat_lit 33)) := zokE (zs1_0 _ _) (ok_s10 (t := 0) (i := 0) (zrow_istore_n (k := 0) (md := zmd_30) zh_30 (by decide +kernel) rfl rfl))
theorem zr_30_33 : zOK zPre 30 33 (s_ld_0 (nat_lit 12299) (nat_lit 34)) := zokE (zld_0 _ _) (ok_ld0 (t := 0) (i := 0) (zrow_iload_n (k := 0) (md := zmd_30) zh_30 (by decide +kernel) rfl rfl))
theorem zr_30_34 : zOK zPre 30 34 (s_k (nat_lit 4096) (nat_lit 37)) := ok_sipush (n := 256) (md := zmd_30) zh_30 (by decide +kernel) rfl (by decide +kernel)
theorem zr_30_37 : zOK zPre 30 37 (s_ic (nat_lit 2) zu_lt (nat_lit 48) (nat_lit 40)) := ok_ic_lt (off := 11) (md := zmd_30) zh_30 (by decide +kernel) (by decide +kernel) rfl
theorem zr_30_40 : zOK zPre 30 40 (s_inc (nat_lit 1) (nat_lit 68719476608) (nat_lit 43)) := ok_inc (n := -8) (md := zmd_30) zh_30 (by decide +kernel) rfl (by decide +kernel)
theorem zr_30_43 : zOK zPre 30 43 (s_ld_0 (nat_lit 12299) (nat_lit 44)) := zokE (zld_0 _ _) (ok_ld0 (t := 0) (i := 0) (zrow_iload_n (k := 0) (md := zmd_30) zh_30 (by decide +kernel) rfl rfl))
theorem zr_30_44 : zOK zPre 30 44 (s_k (nat_lit 128) (nat_lit 46)) := ok_bipush (n := 8) (md := zmd_30) zh_30 (by decide +kernel) rfl (by decide +kernel)
theorem zr_30_46 : zOK zPre 30 46 (s_iushr (nat_lit 47)) := ok_iushr (md := zmd_30) zh_30 (by decide +kernel) rfl
theorem zr_30_47 : zOK zPre 30 47 (s_s1_0 (nat_lit 12299) (nat_lit 48)) := zokE (zs1_0 _ _) (ok_s10 (t := 0) (i := 0) (zrow_istore_n (k := 0) (md := zmd_30) zh_30 (by decide +kernel) rfl rfl))
theorem zr_30_48 : zOK zPre 30 48 (s_ld_0 (nat_lit 12299) (nat_lit 49)) := zokE (zld_0 _ _) (ok_ld0 (t := 0) (i := 0) (zrow_iload_n (k := 0) (md := zmd_30) zh_30 (by decide +kernel) rfl rfl))
theorem zr_30_49 : zOK zPre 30 49 (s_k (nat_lit 256) (nat_lit 51)) := ok_bipush (n := 16) (md := zmd_30) zh_30 (by decide +kernel) rfl (by decide +kernel)
theorem zr_30_51 : zOK zPre 30 51 (s_ic (nat_lit 2) zu_lt (nat_lit 61) (nat_lit 54)) := ok_ic_lt (off := 10) (md := zmd_30) zh_30 (by decide +kernel) (by decide +kernel) rfl
theorem zr_30_54 : zOK zPre 30 54 (s_inc (nat_lit 1) (nat_lit 68719476672) (nat_lit 57)) := ok_inc (n := -4) (md := zmd_30) zh_30 (by decide +kernel) rfl (by decide +kernel)
theorem zr_30_57 : zOK zPre 30 57 (s_ld_0 (nat_lit 12299) (nat_lit 58)) := zokE (zld_0 _ _) (ok_ld0 (t := 0) (i := 0) (zrow_iload_n (k := 0) (md := zmd_30) zh_30 (by decide +kernel) rfl rfl))
theorem zr_30_58 : zOK zPre 30 58 (s_k (nat_lit 64) (nat_lit 59)) := ok_iconst (n := 4) (md := zmd_30) zh_30 (by decide +kernel) rfl (by decide +kernel)
theorem zr_30_59 : zOK zPre 30 59 (s_iushr (nat_lit 60)) := ok_iushr (md := zmd_30) zh_30 (by decide +kernel) rfl
theorem zr_30_60 : zOK zPre 30 60 (s_s1_0 (nat_lit 12299) (nat_lit 61)) := zokE (zs1_0 _ _) (ok_s10 (t := 0) (i := 0) (zrow_istore_n (k := 0) (md := zmd_30) zh_30 (by decide +kernel) rfl rfl))
theorem zr_30_61 : zOK zPre 30 61 (s_ld_0 (nat_lit 12299) (nat_lit 62)) := zokE (zld_0 _ _) (ok_ld0 (t := 0) (i := 0) (zrow_iload_n (k := 0) (md := zmd_30) zh_30 (by decide +kernel) rfl rfl))
theorem zr_30_62 : zOK zPre 30 62 (s_k (nat_lit 64) (nat_lit 63)) := ok_iconst (n := 4) (md := zmd_30) zh_30 (by decide +kernel) rfl (by decide +kernel)
theorem zr_30_63 : zOK zPre 30 63 (s_ic (nat_lit 2) zu_lt (nat_lit 73) (nat_lit 66)) := ok_ic_lt (off := 10) (md := zmd_30) zh_30 (by decide +kernel) (by decide +kernel) rfl
theorem zr_30_66 : zOK zPre 30 66 (s_inc (nat_lit 1) (nat_lit 68719476704) (nat_lit 69)) := ok_inc (n := -2) (md := zmd_30) zh_30 (by decide +kernel) rfl (by decide +kernel)
theorem zr_30_69 : zOK zPre 30 69 (s_ld_0 (nat_lit 12299) (nat_lit 70)) := zokE (zld_0 _ _) (ok_ld0 (t := 0) (i := 0) (zrow_iload_n (k := 0) (md := zmd_30) zh_30 (by decide +kernel) rfl rfl))
theorem zr_30_70 : zOK zPre 30 70 (s_k (nat_lit 32) (nat_lit 71)) := ok_iconst (n := 2) (md := zmd_30) zh_30 (by decide +kernel) rfl (by decide +kernel)
theorem zr_30_71 : zOK zPre 30 71 (s_iushr (nat_lit 72)) := ok_iushr (md := zmd_30) zh_30 (by decide +kernel) rfl
theorem zr_30_72 : zOK zPre 30 72 (s_s1_0 (nat_lit 12299) (nat_lit 73)) := zokE (zs1_0 _ _) (ok_s10 (t := 0) (i := 0) (zrow_istore_n (k := 0) (md := zmd_30) zh_30 (by decide +kernel) rfl rfl))
theorem zr_30_73 : zOK zPre 30 73 (s_ld_1 (nat_lit 12299) (nat_lit 74)) := zokE (zld_1 _ _) (ok_ld0 (t := 0) (i := 1) (zrow_iload_n (k := 1) (md := zmd_30) zh_30 (by decide +kernel) rfl rfl))
theorem zr_30_74 : zOK zPre 30 74 (s_ld_0 (nat_lit 12299) (nat_lit 75)) := zokE (zld_0 _ _) (ok_ld0 (t := 0) (i := 0) (zrow_iload_n (k := 0) (md := zmd_30) zh_30 (by decide +kernel) rfl rfl))
theorem zr_30_75 : zOK zPre 30 75 (s_k (nat_lit 16) (nat_lit 76)) := ok_iconst (n := 1) (md := zmd_30) zh_30 (by decide +kernel) rfl (by decide +kernel)
theorem zr_30_76 : zOK zPre 30 76 (s_iushr (nat_lit 77)) := ok_iushr (md := zmd_30) zh_30 (by decide +kernel) rfl
theorem zr_30_77 : zOK zPre 30 77 (s_isub (nat_lit 78)) := ok_isub (md := zmd_30) zh_30 (by decide +kernel) rfl
theorem zr_30_78 : zOK zPre 30 78 (s_ret (nat_lit 12299)) := ok_ret0 (t := 0) (i := .ireturn) (ty := .int) (md := zmd_30) zh_30 rfl (by decide +kernel) ⟨rfl, rfl⟩
theorem zr_31_0 : zOK zPre 31 0 (s_ld_0 (nat_lit 1136) (nat_lit 1)) := zokE (zld_0 _ _) (ok_ld0 (t := 4) (i := 0) (zrow_aload_n (k := 0) (md := zmd_31) zh_31 (by decide +kernel) rfl rfl))
theorem zr_31_1 : zOK zPre 31 1 (s_k (nat_lit 16) (nat_lit 2)) := ok_iconst (n := 1) (md := zmd_31) zh_31 (by decide +kernel) rfl (by decide +kernel)
theorem zr_31_2 : zOK zPre 31 2 (s_na (nat_lit 20) (nat_lit 0) (nat_lit 4)) := ok_na0 (by decide) rfl (zrow_na20 (md := zmd_31) zh_31 (by decide +kernel) rfl zw_1_83)
theorem zr_31_4 : zOK zPre 31 4 (s_dup (nat_lit 5)) := ok_dup (md := zmd_31) zh_31 (by decide +kernel) rfl
theorem zr_31_5 : zOK zPre 31 5 (s_k (nat_lit 0) (nat_lit 6)) := ok_iconst (n := 0) (md := zmd_31) zh_31 (by decide +kernel) rfl (by decide +kernel)
theorem zr_31_6 : zOK zPre 31 6 (s_ld_1 (nat_lit 12299) (nat_lit 7)) := zokE (zld_1 _ _) (ok_ld0 (t := 0) (i := 1) (zrow_iload_n (k := 1) (md := zmd_31) zh_31 (by decide +kernel) rfl rfl))
theorem zr_31_7 : zOK zPre 31 7 (s_ast (nat_lit 20) (nat_lit 0) (nat_lit 8)) := ok_astI (Or.inl rfl) (Or.inl rfl) (zrow_iastore (md := zmd_31) zh_31 (by decide +kernel) rfl)
theorem zr_31_8 : zOK zPre 31 8 (s_call (nat_lit 99) (nat_lit 32) (nat_lit 6) (nat_lit 1) (nat_lit 1) [] (nat_lit 11)) := ok_call (md := zmd_31) zh_31 zh_32 rfl (by decide) (by decide) (Or.inl rfl) (by decide +kernel) (zrow_callS (mdc := zmd_32) (index := 176) (md := zmd_31) zh_31 (by decide +kernel) rfl rfl zc_32 zw_7_74 zw_7_75 zw_1_10 zd_32) trivial
theorem zr_31_11 : zOK zPre 31 11 (s_k (nat_lit 16) (nat_lit 12)) := ok_iconst (n := 1) (md := zmd_31) zh_31 (by decide +kernel) rfl (by decide +kernel)
theorem zr_31_12 : zOK zPre 31 12 (s_call (nat_lit 10) (nat_lit 34) (nat_lit 3) (nat_lit 3) (nat_lit 1) [] (nat_lit 15)) := ok_call (md := zmd_31) zh_31 zh_34 rfl (by decide) (by decide) (Or.inr (by decide)) (by decide +kernel) (zrow_callV (mdc := zmd_34) (index := 180) (md := zmd_31) zh_31 (by decide +kernel) rfl rfl zc_34 rfl (by decide) zw_7_81 zw_7_83 zws_33 zw_1_10 zd_34) trivial
theorem zr_31_15 : zOK zPre 31 15 (s_if (nat_lit 0) zi_eq (nat_lit 22) (nat_lit 18)) := ok_if_eq (off := 7) (md := zmd_31) zh_31 (by decide +kernel) (by decide +kernel) rfl
theorem zr_31_18 : zOK zPre 31 18 (s_k (nat_lit 0) (nat_lit 19)) := ok_iconst (n := 0) (md := zmd_31) zh_31 (by decide +kernel) rfl (by decide +kernel)
theorem zr_31_19 : zOK zPre 31 19 (s_go (nat_lit 31)) := ok_go (off := 12) (md := zmd_31) zh_31 (by decide +kernel) (by decide +kernel)
theorem zr_31_22 : zOK zPre 31 22 (s_ld_0 (nat_lit 1136) (nat_lit 23)) := zokE (zld_0 _ _) (ok_ld0 (t := 4) (i := 0) (zrow_aload_n (k := 0) (md := zmd_31) zh_31 (by decide +kernel) rfl rfl))
theorem zr_31_23 : zOK zPre 31 23 (s_ld_1 (nat_lit 12299) (nat_lit 24)) := zokE (zld_1 _ _) (ok_ld0 (t := 0) (i := 1) (zrow_iload_n (k := 1) (md := zmd_31) zh_31 (by decide +kernel) rfl rfl))
theorem zr_31_24 : zOK zPre 31 24 (s_ld_2 (nat_lit 2052) (nat_lit 25)) := zokE (zld_2 _ _) (ok_ld0 (t := 1) (i := 2) (zrow_lload_n (k := 2) (md := zmd_31) zh_31 (by decide +kernel) rfl rfl))
theorem zr_31_25 : zOK zPre 31 25 (s_call (nat_lit 99) (nat_lit 20) (nat_lit 6) (nat_lit 1) (nat_lit 1) [] (nat_lit 28)) := ok_call (md := zmd_31) zh_31 zh_20 rfl (by decide) (by decide) (Or.inl rfl) (by decide +kernel) (zrow_callS (mdc := zmd_20) (index := 68) (md := zmd_31) zh_31 (by decide +kernel) rfl rfl zc_20 zw_7_22 zw_7_23 zw_1_10 zd_20) trivial
theorem zr_31_28 : zOK zPre 31 28 (s_call (nat_lit 10) (nat_lit 35) (nat_lit 3) (nat_lit 3) (nat_lit 1) [] (nat_lit 31)) := ok_call (md := zmd_31) zh_31 zh_35 rfl (by decide) (by decide) (Or.inr (by decide)) (by decide +kernel) (zrow_callV (mdc := zmd_35) (index := 184) (md := zmd_31) zh_31 (by decide +kernel) rfl rfl zc_35 rfl (by decide) zw_7_85 zw_7_87 zws_34 zw_1_10 zd_35) trivial
theorem zr_31_31 : zOK zPre 31 31 (s_ret (nat_lit 12299)) := ok_ret0 (t := 0) (i := .ireturn) (ty := .int) (md := zmd_31) zh_31 rfl (by decide +kernel) ⟨rfl, rfl⟩
end RowsOK
