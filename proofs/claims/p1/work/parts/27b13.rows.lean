section RowsOK
theorem zr_285_124 : zOK zPre 285 124 (s_ld_3 (nat_lit 45067) (nat_lit 125)) := zokE (zld_3 _ _) (ok_ld0 (t := 0) (i := 3) (zrow_iload_n (k := 3) (md := zmd_285) zh_285 (by decide +kernel) rfl rfl))
theorem zr_285_125 : zOK zPre 285 125 (s_if (nat_lit 0) zi_eq (nat_lit 137) (nat_lit 128)) := ok_if_eq (off := 12) (md := zmd_285) zh_285 (by decide +kernel) (by decide +kernel) rfl
theorem zr_285_128 : zOK zPre 285 128 (s_ld_4 (nat_lit 45067) (nat_lit 130)) := zokE (zld_4 _ _) (ok_ld0 (t := 0) (i := 4) (zrow_iload (md := zmd_285) zh_285 (by decide +kernel) rfl))
theorem zr_285_130 : zOK zPre 285 130 (s_if (nat_lit 0) zi_eq (nat_lit 137) (nat_lit 133)) := ok_if_eq (off := 7) (md := zmd_285) zh_285 (by decide +kernel) (by decide +kernel) rfl
theorem zr_285_133 : zOK zPre 285 133 (s_k (nat_lit 16) (nat_lit 134)) := ok_iconst (n := 1) (md := zmd_285) zh_285 (by decide +kernel) rfl (by decide +kernel)
theorem zr_285_134 : zOK zPre 285 134 (s_go (nat_lit 138)) := ok_go (off := 4) (md := zmd_285) zh_285 (by decide +kernel) (by decide +kernel)
theorem zr_285_138 : zOK zPre 285 138 (s_rz (nat_lit 1)) := ok_rz (ft := 1) (Or.inl rfl) (md := zmd_285) zh_285 rfl (by decide +kernel)
theorem zr_286_0 : zOK zPre 286 0 (s_ld_1 (nat_lit 1136) (nat_lit 1)) := zokE (zld_1 _ _) (ok_ld0 (t := 4) (i := 1) (zrow_aload_n (k := 1) (md := zmd_286) zh_286 (by decide +kernel) rfl rfl))
theorem zr_286_1 : zOK zPre 286 1 (s_gf (nat_lit 7) (nat_lit 0) (nat_lit 4)) := ok_gf0 (by decide) (zrow_gf (index := 9) (ref := "Residueworks$Whole") (C := RX8) (T := TX8) (N := 3) (md := zmd_286) zh_286 (by decide +kernel) rfl rfl (by decide) zu_X8 zw_1_64 rfl)
theorem zr_286_4 : zOK zPre 286 4 (s_s1_5 (nat_lit 1136) (nat_lit 6)) := zokE (zs1_5 _ _) (ok_s10 (t := 4) (i := 5) (zrow_astore (md := zmd_286) zh_286 (by decide +kernel) rfl))
theorem zr_286_6 : zOK zPre 286 6 (s_ld_1 (nat_lit 1136) (nat_lit 7)) := zokE (zld_1 _ _) (ok_ld0 (t := 4) (i := 1) (zrow_aload_n (k := 1) (md := zmd_286) zh_286 (by decide +kernel) rfl rfl))
theorem zr_286_7 : zOK zPre 286 7 (s_gf (nat_lit 7) (nat_lit 1) (nat_lit 10)) := ok_gf0 (by decide) (zrow_gf (index := 13) (ref := "Residueworks$Whole") (C := RX8) (T := TX8) (N := 3) (md := zmd_286) zh_286 (by decide +kernel) rfl rfl (by decide) zu_X8 zw_1_66 rfl)
theorem zr_286_10 : zOK zPre 286 10 (s_s1 (nat_lit 45067) (nat_lit 6) (nat_lit 12)) := ok_s10 (t := 0) (i := 6) (zrow_istore (md := zmd_286) zh_286 (by decide +kernel) rfl)
theorem zr_286_12 : zOK zPre 286 12 (s_ld_4 (nat_lit 45067) (nat_lit 14)) := zokE (zld_4 _ _) (ok_ld0 (t := 0) (i := 4) (zrow_iload (md := zmd_286) zh_286 (by decide +kernel) rfl))
theorem zr_286_14 : zOK zPre 286 14 (s_if (nat_lit 2) zi_lt (nat_lit 38) (nat_lit 17)) := ok_if_lt (off := 24) (md := zmd_286) zh_286 (by decide +kernel) (by decide +kernel) rfl
theorem zr_286_17 : zOK zPre 286 17 (s_ld_4 (nat_lit 45067) (nat_lit 19)) := zokE (zld_4 _ _) (ok_ld0 (t := 0) (i := 4) (zrow_iload (md := zmd_286) zh_286 (by decide +kernel) rfl))
theorem zr_286_19 : zOK zPre 286 19 (s_ld (nat_lit 45067) (nat_lit 6) (nat_lit 21)) := ok_ld0 (t := 0) (i := 6) (zrow_iload (md := zmd_286) zh_286 (by decide +kernel) rfl)
theorem zr_286_21 : zOK zPre 286 21 (s_iadd (nat_lit 22)) := ok_iadd (md := zmd_286) zh_286 (by decide +kernel) rfl
theorem zr_286_22 : zOK zPre 286 22 (s_ld_0 (nat_lit 1136) (nat_lit 23)) := zokE (zld_0 _ _) (ok_ld0 (t := 4) (i := 0) (zrow_aload_n (k := 0) (md := zmd_286) zh_286 (by decide +kernel) rfl rfl))
theorem zr_286_23 : zOK zPre 286 23 (s_gf (nat_lit 7) (nat_lit 0) (nat_lit 26)) := ok_gf0 (by decide) (zrow_gf (index := 9) (ref := "Residueworks$Whole") (C := RX8) (T := TX8) (N := 3) (md := zmd_286) zh_286 (by decide +kernel) rfl rfl (by decide) zu_X8 zw_1_64 rfl)
theorem zr_286_26 : zOK zPre 286 26 (s_al (nat_lit 27)) := ok_al (md := zmd_286) zh_286 (by decide +kernel) rfl
theorem zr_286_27 : zOK zPre 286 27 (s_ic (nat_lit 3) zu_ge (nat_lit 38) (nat_lit 30)) := ok_ic_ge (off := 11) (md := zmd_286) zh_286 (by decide +kernel) (by decide +kernel) rfl
theorem zr_286_30 : zOK zPre 286 30 (s_ld (nat_lit 45067) (nat_lit 6) (nat_lit 32)) := ok_ld0 (t := 0) (i := 6) (zrow_iload (md := zmd_286) zh_286 (by decide +kernel) rfl)
theorem zr_286_32 : zOK zPre 286 32 (s_ld_5 (nat_lit 1136) (nat_lit 34)) := zokE (zld_5 _ _) (ok_ld0 (t := 4) (i := 5) (zrow_aload (md := zmd_286) zh_286 (by decide +kernel) rfl))
theorem zr_286_34 : zOK zPre 286 34 (s_al (nat_lit 35)) := ok_al (md := zmd_286) zh_286 (by decide +kernel) rfl
theorem zr_286_35 : zOK zPre 286 35 (s_ic (nat_lit 5) zu_le (nat_lit 39) (nat_lit 38)) := ok_ic_le (off := 4) (md := zmd_286) zh_286 (by decide +kernel) (by decide +kernel) rfl
theorem zr_286_39 : zOK zPre 286 39 (s_k (nat_lit 2) (nat_lit 40)) := ok_lconst (n := 0) (md := zmd_286) zh_286 (by decide +kernel) rfl (by decide +kernel)
theorem zr_286_40 : zOK zPre 286 40 (s_s2 (nat_lit 18436) (nat_lit 7) (nat_lit 42)) := ok_s20 (t := 1) (i := 7) (zrow_lstore (md := zmd_286) zh_286 (by decide +kernel) rfl)
theorem zr_286_42 : zOK zPre 286 42 (s_k (nat_lit 0) (nat_lit 43)) := ok_iconst (n := 0) (md := zmd_286) zh_286 (by decide +kernel) rfl (by decide +kernel)
theorem zr_286_43 : zOK zPre 286 43 (s_s1 (nat_lit 45067) (nat_lit 9) (nat_lit 45)) := ok_s10 (t := 0) (i := 9) (zrow_istore (md := zmd_286) zh_286 (by decide +kernel) rfl)
theorem zr_286_45 : zOK zPre 286 45 (s_ld (nat_lit 45067) (nat_lit 9) (nat_lit 47)) := ok_ld0 (t := 0) (i := 9) (zrow_iload (md := zmd_286) zh_286 (by decide +kernel) rfl)
theorem zr_286_47 : zOK zPre 286 47 (s_ld (nat_lit 45067) (nat_lit 6) (nat_lit 49)) := ok_ld0 (t := 0) (i := 6) (zrow_iload (md := zmd_286) zh_286 (by decide +kernel) rfl)
theorem zr_286_49 : zOK zPre 286 49 (s_ic (nat_lit 3) zu_ge (nat_lit 107) (nat_lit 52)) := ok_ic_ge (off := 58) (md := zmd_286) zh_286 (by decide +kernel) (by decide +kernel) rfl
theorem zr_286_52 : zOK zPre 286 52 (s_ld_0 (nat_lit 1136) (nat_lit 53)) := zokE (zld_0 _ _) (ok_ld0 (t := 4) (i := 0) (zrow_aload_n (k := 0) (md := zmd_286) zh_286 (by decide +kernel) rfl rfl))
theorem zr_286_53 : zOK zPre 286 53 (s_gf (nat_lit 7) (nat_lit 0) (nat_lit 56)) := ok_gf0 (by decide) (zrow_gf (index := 9) (ref := "Residueworks$Whole") (C := RX8) (T := TX8) (N := 3) (md := zmd_286) zh_286 (by decide +kernel) rfl rfl (by decide) zu_X8 zw_1_64 rfl)
theorem zr_286_56 : zOK zPre 286 56 (s_ld_4 (nat_lit 45067) (nat_lit 58)) := zokE (zld_4 _ _) (ok_ld0 (t := 0) (i := 4) (zrow_iload (md := zmd_286) zh_286 (by decide +kernel) rfl))
theorem zr_286_58 : zOK zPre 286 58 (s_ld (nat_lit 45067) (nat_lit 9) (nat_lit 60)) := ok_ld0 (t := 0) (i := 9) (zrow_iload (md := zmd_286) zh_286 (by decide +kernel) rfl)
theorem zr_286_60 : zOK zPre 286 60 (s_iadd (nat_lit 61)) := ok_iadd (md := zmd_286) zh_286 (by decide +kernel) rfl
theorem zr_286_61 : zOK zPre 286 61 (s_ald (nat_lit 20) (nat_lit 20) (nat_lit 62)) := ok_ald0 (by decide) (by decide) (by decide) (zrow_iaload (md := zmd_286) zh_286 (by decide +kernel) rfl)
theorem zr_286_62 : zOK zPre 286 62 (s_i2l (nat_lit 63)) := ok_i2l (md := zmd_286) zh_286 (by decide +kernel) rfl
theorem zr_286_63 : zOK zPre 286 63 (s_ld_2 (nat_lit 18436) (nat_lit 64)) := zokE (zld_2 _ _) (ok_ld0 (t := 1) (i := 2) (zrow_lload_n (k := 2) (md := zmd_286) zh_286 (by decide +kernel) rfl rfl))
theorem zr_286_64 : zOK zPre 286 64 (s_ld_5 (nat_lit 1136) (nat_lit 66)) := zokE (zld_5 _ _) (ok_ld0 (t := 4) (i := 5) (zrow_aload (md := zmd_286) zh_286 (by decide +kernel) rfl))
theorem zr_286_66 : zOK zPre 286 66 (s_ld (nat_lit 45067) (nat_lit 9) (nat_lit 68)) := ok_ld0 (t := 0) (i := 9) (zrow_iload (md := zmd_286) zh_286 (by decide +kernel) rfl)
theorem zr_286_68 : zOK zPre 286 68 (s_ald (nat_lit 20) (nat_lit 20) (nat_lit 69)) := ok_ald0 (by decide) (by decide) (by decide) (zrow_iaload (md := zmd_286) zh_286 (by decide +kernel) rfl)
theorem zr_286_69 : zOK zPre 286 69 (s_i2l (nat_lit 70)) := ok_i2l (md := zmd_286) zh_286 (by decide +kernel) rfl
theorem zr_286_70 : zOK zPre 286 70 (s_lmul (nat_lit 71)) := ok_lmul (md := zmd_286) zh_286 (by decide +kernel) rfl
theorem zr_286_71 : zOK zPre 286 71 (s_ladd (nat_lit 72)) := ok_ladd (md := zmd_286) zh_286 (by decide +kernel) rfl
theorem zr_286_72 : zOK zPre 286 72 (s_ld (nat_lit 18436) (nat_lit 7) (nat_lit 74)) := ok_ld0 (t := 1) (i := 7) (zrow_lload (md := zmd_286) zh_286 (by decide +kernel) rfl)
theorem zr_286_74 : zOK zPre 286 74 (s_ladd (nat_lit 75)) := ok_ladd (md := zmd_286) zh_286 (by decide +kernel) rfl
theorem zr_286_75 : zOK zPre 286 75 (s_s2 (nat_lit 18436) (nat_lit 10) (nat_lit 77)) := ok_s20 (t := 1) (i := 10) (zrow_lstore (md := zmd_286) zh_286 (by decide +kernel) rfl)
theorem zr_286_77 : zOK zPre 286 77 (s_ld_0 (nat_lit 1136) (nat_lit 78)) := zokE (zld_0 _ _) (ok_ld0 (t := 4) (i := 0) (zrow_aload_n (k := 0) (md := zmd_286) zh_286 (by decide +kernel) rfl rfl))
theorem zr_286_78 : zOK zPre 286 78 (s_gf (nat_lit 7) (nat_lit 0) (nat_lit 81)) := ok_gf0 (by decide) (zrow_gf (index := 9) (ref := "Residueworks$Whole") (C := RX8) (T := TX8) (N := 3) (md := zmd_286) zh_286 (by decide +kernel) rfl rfl (by decide) zu_X8 zw_1_64 rfl)
theorem zr_286_81 : zOK zPre 286 81 (s_ld_4 (nat_lit 45067) (nat_lit 83)) := zokE (zld_4 _ _) (ok_ld0 (t := 0) (i := 4) (zrow_iload (md := zmd_286) zh_286 (by decide +kernel) rfl))
theorem zr_286_83 : zOK zPre 286 83 (s_ld (nat_lit 45067) (nat_lit 9) (nat_lit 85)) := ok_ld0 (t := 0) (i := 9) (zrow_iload (md := zmd_286) zh_286 (by decide +kernel) rfl)
theorem zr_286_85 : zOK zPre 286 85 (s_iadd (nat_lit 86)) := ok_iadd (md := zmd_286) zh_286 (by decide +kernel) rfl
theorem zr_286_86 : zOK zPre 286 86 (s_ld (nat_lit 18436) (nat_lit 10) (nat_lit 88)) := ok_ld0 (t := 1) (i := 10) (zrow_lload (md := zmd_286) zh_286 (by decide +kernel) rfl)
theorem zr_286_88 : zOK zPre 286 88 (s_k (nat_lit 17179869170) (nat_lit 91)) := ok_ldc2 (i := 34) (n := (1073741823 : Int64)) (md := zmd_286) zh_286 (by decide +kernel) rfl zw_2_68 (by decide +kernel)
theorem zr_286_91 : zOK zPre 286 91 (s_land (nat_lit 92)) := ok_land (md := zmd_286) zh_286 (by decide +kernel) rfl
theorem zr_286_92 : zOK zPre 286 92 (s_l2i (nat_lit 93)) := ok_l2i (md := zmd_286) zh_286 (by decide +kernel) rfl
theorem zr_286_93 : zOK zPre 286 93 (s_ast (nat_lit 20) (nat_lit 0) (nat_lit 94)) := ok_astI (Or.inl rfl) (Or.inl rfl) (zrow_iastore (md := zmd_286) zh_286 (by decide +kernel) rfl)
theorem zr_286_94 : zOK zPre 286 94 (s_ld (nat_lit 18436) (nat_lit 10) (nat_lit 96)) := ok_ld0 (t := 1) (i := 10) (zrow_lload (md := zmd_286) zh_286 (by decide +kernel) rfl)
theorem zr_286_96 : zOK zPre 286 96 (s_k (nat_lit 480) (nat_lit 98)) := ok_bipush (n := 30) (md := zmd_286) zh_286 (by decide +kernel) rfl (by decide +kernel)
theorem zr_286_98 : zOK zPre 286 98 (s_lushr (nat_lit 99)) := ok_lushr (md := zmd_286) zh_286 (by decide +kernel) rfl
theorem zr_286_99 : zOK zPre 286 99 (s_s2 (nat_lit 18436) (nat_lit 7) (nat_lit 101)) := ok_s20 (t := 1) (i := 7) (zrow_lstore (md := zmd_286) zh_286 (by decide +kernel) rfl)
theorem zr_286_101 : zOK zPre 286 101 (s_inc (nat_lit 9) (nat_lit 16) (nat_lit 104)) := ok_inc (n := 1) (md := zmd_286) zh_286 (by decide +kernel) rfl (by decide +kernel)
theorem zr_286_104 : zOK zPre 286 104 (s_go (nat_lit 45)) := ok_go (off := -59) (md := zmd_286) zh_286 (by decide +kernel) (by decide +kernel)
theorem zr_286_107 : zOK zPre 286 107 (s_ld_0 (nat_lit 1136) (nat_lit 108)) := zokE (zld_0 _ _) (ok_ld0 (t := 4) (i := 0) (zrow_aload_n (k := 0) (md := zmd_286) zh_286 (by decide +kernel) rfl rfl))
theorem zr_286_108 : zOK zPre 286 108 (s_gf (nat_lit 7) (nat_lit 0) (nat_lit 111)) := ok_gf0 (by decide) (zrow_gf (index := 9) (ref := "Residueworks$Whole") (C := RX8) (T := TX8) (N := 3) (md := zmd_286) zh_286 (by decide +kernel) rfl rfl (by decide) zu_X8 zw_1_64 rfl)
theorem zr_286_111 : zOK zPre 286 111 (s_ld_4 (nat_lit 45067) (nat_lit 113)) := zokE (zld_4 _ _) (ok_ld0 (t := 0) (i := 4) (zrow_iload (md := zmd_286) zh_286 (by decide +kernel) rfl))
theorem zr_286_113 : zOK zPre 286 113 (s_ld (nat_lit 45067) (nat_lit 6) (nat_lit 115)) := ok_ld0 (t := 0) (i := 6) (zrow_iload (md := zmd_286) zh_286 (by decide +kernel) rfl)
theorem zr_286_115 : zOK zPre 286 115 (s_iadd (nat_lit 116)) := ok_iadd (md := zmd_286) zh_286 (by decide +kernel) rfl
theorem zr_286_116 : zOK zPre 286 116 (s_ld (nat_lit 18436) (nat_lit 7) (nat_lit 118)) := ok_ld0 (t := 1) (i := 7) (zrow_lload (md := zmd_286) zh_286 (by decide +kernel) rfl)
theorem zr_286_118 : zOK zPre 286 118 (s_l2i (nat_lit 119)) := ok_l2i (md := zmd_286) zh_286 (by decide +kernel) rfl
theorem zr_286_119 : zOK zPre 286 119 (s_ast (nat_lit 20) (nat_lit 0) (nat_lit 120)) := ok_astI (Or.inl rfl) (Or.inl rfl) (zrow_iastore (md := zmd_286) zh_286 (by decide +kernel) rfl)
theorem zr_286_120 : zOK zPre 286 120 (s_rv) := ok_rv (md := zmd_286) zh_286 rfl (by decide +kernel)
theorem zr_287_0 : zOK zPre 287 0 (s_ld_0 (nat_lit 1136) (nat_lit 1)) := zokE (zld_0 _ _) (ok_ld0 (t := 4) (i := 0) (zrow_aload_n (k := 0) (md := zmd_287) zh_287 (by decide +kernel) rfl rfl))
theorem zr_287_1 : zOK zPre 287 1 (s_ld_0 (nat_lit 1136) (nat_lit 2)) := zokE (zld_0 _ _) (ok_ld0 (t := 4) (i := 0) (zrow_aload_n (k := 0) (md := zmd_287) zh_287 (by decide +kernel) rfl rfl))
theorem zr_287_2 : zOK zPre 287 2 (s_gf (nat_lit 6) (nat_lit 8) (nat_lit 5)) := ok_gf0 (by decide) (zrow_gf (index := 63) (ref := "Residueworks$Theorem") (C := RX7) (T := TX7) (N := 15) (md := zmd_287) zh_287 (by decide +kernel) rfl rfl (by decide) zu_X7 zw_2_86 rfl)
theorem zr_287_5 : zOK zPre 287 5 (s_ld_1 (nat_lit 1136) (nat_lit 6)) := zokE (zld_1 _ _) (ok_ld0 (t := 4) (i := 1) (zrow_aload_n (k := 1) (md := zmd_287) zh_287 (by decide +kernel) rfl rfl))
theorem zr_287_6 : zOK zPre 287 6 (s_call (nat_lit 6) (nat_lit 288) (nat_lit 3) (nat_lit 3) (nat_lit 0) [] (nat_lit 9)) := ok_call (md := zmd_287) zh_287 zh_288 rfl (by decide) (by decide) (Or.inr (by decide)) zp_288 (zrow_callV (mdc := zmd_288) (index := 203) (md := zmd_287) zh_287 (by decide +kernel) rfl rfl zc_288 rfl (by decide) zw_6_122 zw_6_124 zws_25 zw_1_9 zd_288) trivial
theorem zr_287_9 : zOK zPre 287 9 (s_ld_0 (nat_lit 1136) (nat_lit 10)) := zokE (zld_0 _ _) (ok_ld0 (t := 4) (i := 0) (zrow_aload_n (k := 0) (md := zmd_287) zh_287 (by decide +kernel) rfl rfl))
theorem zr_287_10 : zOK zPre 287 10 (s_ld_0 (nat_lit 1136) (nat_lit 11)) := zokE (zld_0 _ _) (ok_ld0 (t := 4) (i := 0) (zrow_aload_n (k := 0) (md := zmd_287) zh_287 (by decide +kernel) rfl rfl))
theorem zr_287_11 : zOK zPre 287 11 (s_gf (nat_lit 6) (nat_lit 9) (nat_lit 14)) := ok_gf0 (by decide) (zrow_gf (index := 66) (ref := "Residueworks$Theorem") (C := RX7) (T := TX7) (N := 15) (md := zmd_287) zh_287 (by decide +kernel) rfl rfl (by decide) zu_X7 zw_2_87 rfl)
theorem zr_287_14 : zOK zPre 287 14 (s_ld_2 (nat_lit 1136) (nat_lit 15)) := zokE (zld_2 _ _) (ok_ld0 (t := 4) (i := 2) (zrow_aload_n (k := 2) (md := zmd_287) zh_287 (by decide +kernel) rfl rfl))
theorem zr_287_15 : zOK zPre 287 15 (s_call (nat_lit 6) (nat_lit 288) (nat_lit 3) (nat_lit 3) (nat_lit 0) [] (nat_lit 18)) := ok_call (md := zmd_287) zh_287 zh_288 rfl (by decide) (by decide) (Or.inr (by decide)) zp_288 (zrow_callV (mdc := zmd_288) (index := 203) (md := zmd_287) zh_287 (by decide +kernel) rfl rfl zc_288 rfl (by decide) zw_6_122 zw_6_124 zws_25 zw_1_9 zd_288) trivial
theorem zr_287_18 : zOK zPre 287 18 (s_ld_0 (nat_lit 1136) (nat_lit 19)) := zokE (zld_0 _ _) (ok_ld0 (t := 4) (i := 0) (zrow_aload_n (k := 0) (md := zmd_287) zh_287 (by decide +kernel) rfl rfl))
theorem zr_287_19 : zOK zPre 287 19 (s_gf (nat_lit 6) (nat_lit 1) (nat_lit 22)) := ok_gf0 (by decide) (zrow_gf (index := 21) (ref := "Residueworks$Theorem") (C := RX7) (T := TX7) (N := 15) (md := zmd_287) zh_287 (by decide +kernel) rfl rfl (by decide) zu_X7 zw_2_79 rfl)
theorem zr_287_22 : zOK zPre 287 22 (s_ld_0 (nat_lit 1136) (nat_lit 23)) := zokE (zld_0 _ _) (ok_ld0 (t := 4) (i := 0) (zrow_aload_n (k := 0) (md := zmd_287) zh_287 (by decide +kernel) rfl rfl))
theorem zr_287_23 : zOK zPre 287 23 (s_gf (nat_lit 6) (nat_lit 8) (nat_lit 26)) := ok_gf0 (by decide) (zrow_gf (index := 63) (ref := "Residueworks$Theorem") (C := RX7) (T := TX7) (N := 15) (md := zmd_287) zh_287 (by decide +kernel) rfl rfl (by decide) zu_X7 zw_2_86 rfl)
theorem zr_287_26 : zOK zPre 287 26 (s_ld_0 (nat_lit 1136) (nat_lit 27)) := zokE (zld_0 _ _) (ok_ld0 (t := 4) (i := 0) (zrow_aload_n (k := 0) (md := zmd_287) zh_287 (by decide +kernel) rfl rfl))
theorem zr_287_27 : zOK zPre 287 27 (s_gf (nat_lit 6) (nat_lit 9) (nat_lit 30)) := ok_gf0 (by decide) (zrow_gf (index := 66) (ref := "Residueworks$Theorem") (C := RX7) (T := TX7) (N := 15) (md := zmd_287) zh_287 (by decide +kernel) rfl rfl (by decide) zu_X7 zw_2_87 rfl)
theorem zr_287_30 : zOK zPre 287 30 (s_call (nat_lit 2) (nat_lit 103) (nat_lit 7) (nat_lit 3) (nat_lit 0) [] (nat_lit 33)) := ok_call (md := zmd_287) zh_287 zh_103 rfl (by decide) (by decide) (Or.inr (by decide)) zp_103 (zrow_callV (mdc := zmd_103) (index := 206) (md := zmd_287) zh_287 (by decide +kernel) rfl rfl zc_103 rfl (by decide) zw_6_126 zw_4_60 zw_4_61 zw_1_6 zd_103) trivial
theorem zr_287_33 : zOK zPre 287 33 (s_ld_0 (nat_lit 1136) (nat_lit 34)) := zokE (zld_0 _ _) (ok_ld0 (t := 4) (i := 0) (zrow_aload_n (k := 0) (md := zmd_287) zh_287 (by decide +kernel) rfl rfl))
theorem zr_287_34 : zOK zPre 287 34 (s_gf (nat_lit 6) (nat_lit 1) (nat_lit 37)) := ok_gf0 (by decide) (zrow_gf (index := 21) (ref := "Residueworks$Theorem") (C := RX7) (T := TX7) (N := 15) (md := zmd_287) zh_287 (by decide +kernel) rfl rfl (by decide) zu_X7 zw_2_79 rfl)
theorem zr_287_37 : zOK zPre 287 37 (s_gf (nat_lit 2) (nat_lit 2) (nat_lit 40)) := ok_gf0 (by decide) (zrow_gf (index := 209) (ref := "Residueworks$Residues") (C := RX2) (T := TX2) (N := 11) (md := zmd_287) zh_287 (by decide +kernel) rfl rfl (by decide) zu_X2 zw_1_160 rfl)
theorem zr_287_40 : zOK zPre 287 40 (s_call (nat_lit 7) (nat_lit 291) (nat_lit 1) (nat_lit 1) (nat_lit 1) [] (nat_lit 43)) := ok_call (md := zmd_287) zh_287 zh_291 rfl (by decide) (by decide) (Or.inr (by decide)) zp_291 (zrow_callV (mdc := zmd_291) (index := 212) (md := zmd_287) zh_287 (by decide +kernel) rfl rfl zc_291 rfl (by decide) zw_6_127 zw_5_60 zw_5_61 zw_1_3 zd_291) trivial
theorem zr_287_43 : zOK zPre 287 43 (s_if (nat_lit 1) zi_ne (nat_lit 48) (nat_lit 46)) := ok_if_ne (off := 5) (md := zmd_287) zh_287 (by decide +kernel) (by decide +kernel) rfl
theorem zr_287_48 : zOK zPre 287 48 (s_ld_0 (nat_lit 1136) (nat_lit 49)) := zokE (zld_0 _ _) (ok_ld0 (t := 4) (i := 0) (zrow_aload_n (k := 0) (md := zmd_287) zh_287 (by decide +kernel) rfl rfl))
theorem zr_287_49 : zOK zPre 287 49 (s_gf (nat_lit 6) (nat_lit 1) (nat_lit 52)) := ok_gf0 (by decide) (zrow_gf (index := 21) (ref := "Residueworks$Theorem") (C := RX7) (T := TX7) (N := 15) (md := zmd_287) zh_287 (by decide +kernel) rfl rfl (by decide) zu_X7 zw_2_79 rfl)
theorem zr_287_52 : zOK zPre 287 52 (s_ld_0 (nat_lit 1136) (nat_lit 53)) := zokE (zld_0 _ _) (ok_ld0 (t := 4) (i := 0) (zrow_aload_n (k := 0) (md := zmd_287) zh_287 (by decide +kernel) rfl rfl))
theorem zr_287_53 : zOK zPre 287 53 (s_gf (nat_lit 6) (nat_lit 8) (nat_lit 56)) := ok_gf0 (by decide) (zrow_gf (index := 63) (ref := "Residueworks$Theorem") (C := RX7) (T := TX7) (N := 15) (md := zmd_287) zh_287 (by decide +kernel) rfl rfl (by decide) zu_X7 zw_2_86 rfl)
theorem zr_287_56 : zOK zPre 287 56 (s_ld_0 (nat_lit 1136) (nat_lit 57)) := zokE (zld_0 _ _) (ok_ld0 (t := 4) (i := 0) (zrow_aload_n (k := 0) (md := zmd_287) zh_287 (by decide +kernel) rfl rfl))
theorem zr_287_57 : zOK zPre 287 57 (s_gf (nat_lit 6) (nat_lit 9) (nat_lit 60)) := ok_gf0 (by decide) (zrow_gf (index := 66) (ref := "Residueworks$Theorem") (C := RX7) (T := TX7) (N := 15) (md := zmd_287) zh_287 (by decide +kernel) rfl rfl (by decide) zu_X7 zw_2_87 rfl)
theorem zr_287_60 : zOK zPre 287 60 (s_call (nat_lit 2) (nat_lit 292) (nat_lit 10) (nat_lit 3) (nat_lit 1) [] (nat_lit 63)) := ok_call (md := zmd_287) zh_287 zh_292 rfl (by decide) (by decide) (Or.inr (by decide)) zp_292 (zrow_callV (mdc := zmd_292) (index := 216) (md := zmd_287) zh_287 (by decide +kernel) rfl rfl zc_292 rfl (by decide) zw_6_128 zw_5_93 zw_5_94 zw_1_6 zd_292) trivial
theorem zr_287_63 : zOK zPre 287 63 (s_s1_3 (nat_lit 45067) (nat_lit 64)) := zokE (zs1_3 _ _) (ok_s10 (t := 0) (i := 3) (zrow_istore_n (k := 3) (md := zmd_287) zh_287 (by decide +kernel) rfl rfl))
theorem zr_287_64 : zOK zPre 287 64 (s_ld_0 (nat_lit 1136) (nat_lit 65)) := zokE (zld_0 _ _) (ok_ld0 (t := 4) (i := 0) (zrow_aload_n (k := 0) (md := zmd_287) zh_287 (by decide +kernel) rfl rfl))
theorem zr_287_65 : zOK zPre 287 65 (s_gf (nat_lit 6) (nat_lit 1) (nat_lit 68)) := ok_gf0 (by decide) (zrow_gf (index := 21) (ref := "Residueworks$Theorem") (C := RX7) (T := TX7) (N := 15) (md := zmd_287) zh_287 (by decide +kernel) rfl rfl (by decide) zu_X7 zw_2_79 rfl)
theorem zr_287_68 : zOK zPre 287 68 (s_ld_0 (nat_lit 1136) (nat_lit 69)) := zokE (zld_0 _ _) (ok_ld0 (t := 4) (i := 0) (zrow_aload_n (k := 0) (md := zmd_287) zh_287 (by decide +kernel) rfl rfl))
theorem zr_287_69 : zOK zPre 287 69 (s_gf (nat_lit 6) (nat_lit 9) (nat_lit 72)) := ok_gf0 (by decide) (zrow_gf (index := 66) (ref := "Residueworks$Theorem") (C := RX7) (T := TX7) (N := 15) (md := zmd_287) zh_287 (by decide +kernel) rfl rfl (by decide) zu_X7 zw_2_87 rfl)
theorem zr_287_72 : zOK zPre 287 72 (s_ld_0 (nat_lit 1136) (nat_lit 73)) := zokE (zld_0 _ _) (ok_ld0 (t := 4) (i := 0) (zrow_aload_n (k := 0) (md := zmd_287) zh_287 (by decide +kernel) rfl rfl))
theorem zr_287_73 : zOK zPre 287 73 (s_gf (nat_lit 6) (nat_lit 8) (nat_lit 76)) := ok_gf0 (by decide) (zrow_gf (index := 63) (ref := "Residueworks$Theorem") (C := RX7) (T := TX7) (N := 15) (md := zmd_287) zh_287 (by decide +kernel) rfl rfl (by decide) zu_X7 zw_2_86 rfl)
theorem zr_287_76 : zOK zPre 287 76 (s_call (nat_lit 2) (nat_lit 292) (nat_lit 10) (nat_lit 3) (nat_lit 1) [] (nat_lit 79)) := ok_call (md := zmd_287) zh_287 zh_292 rfl (by decide) (by decide) (Or.inr (by decide)) zp_292 (zrow_callV (mdc := zmd_292) (index := 216) (md := zmd_287) zh_287 (by decide +kernel) rfl rfl zc_292 rfl (by decide) zw_6_128 zw_5_93 zw_5_94 zw_1_6 zd_292) trivial
theorem zr_287_79 : zOK zPre 287 79 (s_s1_4 (nat_lit 45067) (nat_lit 81)) := zokE (zs1_4 _ _) (ok_s10 (t := 0) (i := 4) (zrow_istore (md := zmd_287) zh_287 (by decide +kernel) rfl))
theorem zr_287_81 : zOK zPre 287 81 (s_ld_0 (nat_lit 1136) (nat_lit 82)) := zokE (zld_0 _ _) (ok_ld0 (t := 4) (i := 0) (zrow_aload_n (k := 0) (md := zmd_287) zh_287 (by decide +kernel) rfl rfl))
theorem zr_287_82 : zOK zPre 287 82 (s_gf (nat_lit 6) (nat_lit 8) (nat_lit 85)) := ok_gf0 (by decide) (zrow_gf (index := 63) (ref := "Residueworks$Theorem") (C := RX7) (T := TX7) (N := 15) (md := zmd_287) zh_287 (by decide +kernel) rfl rfl (by decide) zu_X7 zw_2_86 rfl)
theorem zr_287_85 : zOK zPre 287 85 (s_k (nat_lit 0) (nat_lit 86)) := ok_iconst (n := 0) (md := zmd_287) zh_287 (by decide +kernel) rfl (by decide +kernel)
theorem zr_287_86 : zOK zPre 287 86 (s_call (nat_lit 7) (nat_lit 29) (nat_lit 2) (nat_lit 2) (nat_lit 1) [] (nat_lit 89)) := ok_call (md := zmd_287) zh_287 zh_29 rfl (by decide) (by decide) (Or.inr (by decide)) zp_29 (zrow_callV (mdc := zmd_29) (index := 220) (md := zmd_287) zh_287 (by decide +kernel) rfl rfl zc_29 rfl (by decide) zw_6_129 zw_2_181 zw_2_182 zw_1_3 zd_29) trivial
theorem zr_287_89 : zOK zPre 287 89 (s_ld_0 (nat_lit 1136) (nat_lit 90)) := zokE (zld_0 _ _) (ok_ld0 (t := 4) (i := 0) (zrow_aload_n (k := 0) (md := zmd_287) zh_287 (by decide +kernel) rfl rfl))
theorem zr_287_90 : zOK zPre 287 90 (s_gf (nat_lit 6) (nat_lit 9) (nat_lit 93)) := ok_gf0 (by decide) (zrow_gf (index := 66) (ref := "Residueworks$Theorem") (C := RX7) (T := TX7) (N := 15) (md := zmd_287) zh_287 (by decide +kernel) rfl rfl (by decide) zu_X7 zw_2_87 rfl)
theorem zr_287_93 : zOK zPre 287 93 (s_k (nat_lit 0) (nat_lit 94)) := ok_iconst (n := 0) (md := zmd_287) zh_287 (by decide +kernel) rfl (by decide +kernel)
theorem zr_287_94 : zOK zPre 287 94 (s_call (nat_lit 7) (nat_lit 29) (nat_lit 2) (nat_lit 2) (nat_lit 1) [] (nat_lit 97)) := ok_call (md := zmd_287) zh_287 zh_29 rfl (by decide) (by decide) (Or.inr (by decide)) zp_29 (zrow_callV (mdc := zmd_29) (index := 220) (md := zmd_287) zh_287 (by decide +kernel) rfl rfl zc_29 rfl (by decide) zw_6_129 zw_2_181 zw_2_182 zw_1_3 zd_29) trivial
theorem zr_287_97 : zOK zPre 287 97 (s_iand (nat_lit 98)) := ok_iand (md := zmd_287) zh_287 (by decide +kernel) rfl
theorem zr_287_98 : zOK zPre 287 98 (s_k (nat_lit 48) (nat_lit 99)) := ok_iconst (n := 3) (md := zmd_287) zh_287 (by decide +kernel) rfl (by decide +kernel)
theorem zr_287_99 : zOK zPre 287 99 (s_iand (nat_lit 100)) := ok_iand (md := zmd_287) zh_287 (by decide +kernel) rfl
theorem zr_287_100 : zOK zPre 287 100 (s_k (nat_lit 48) (nat_lit 101)) := ok_iconst (n := 3) (md := zmd_287) zh_287 (by decide +kernel) rfl (by decide +kernel)
theorem zr_287_101 : zOK zPre 287 101 (s_ic (nat_lit 1) zu_ne (nat_lit 108) (nat_lit 104)) := ok_ic_ne (off := 7) (md := zmd_287) zh_287 (by decide +kernel) (by decide +kernel) rfl
theorem zr_287_108 : zOK zPre 287 108 (s_k (nat_lit 0) (nat_lit 109)) := ok_iconst (n := 0) (md := zmd_287) zh_287 (by decide +kernel) rfl (by decide +kernel)
theorem zr_287_109 : zOK zPre 287 109 (s_s1_5 (nat_lit 45067) (nat_lit 111)) := zokE (zs1_5 _ _) (ok_s10 (t := 0) (i := 5) (zrow_istore (md := zmd_287) zh_287 (by decide +kernel) rfl))
theorem zr_287_111 : zOK zPre 287 111 (s_ld_3 (nat_lit 45067) (nat_lit 112)) := zokE (zld_3 _ _) (ok_ld0 (t := 0) (i := 3) (zrow_iload_n (k := 3) (md := zmd_287) zh_287 (by decide +kernel) rfl rfl))
theorem zr_287_112 : zOK zPre 287 112 (s_ld_4 (nat_lit 45067) (nat_lit 114)) := zokE (zld_4 _ _) (ok_ld0 (t := 0) (i := 4) (zrow_iload (md := zmd_287) zh_287 (by decide +kernel) rfl))
theorem zr_287_114 : zOK zPre 287 114 (s_imul (nat_lit 115)) := ok_imul (md := zmd_287) zh_287 (by decide +kernel) rfl
theorem zr_287_115 : zOK zPre 287 115 (s_ld_5 (nat_lit 45067) (nat_lit 117)) := zokE (zld_5 _ _) (ok_ld0 (t := 0) (i := 5) (zrow_iload (md := zmd_287) zh_287 (by decide +kernel) rfl))
theorem zr_287_117 : zOK zPre 287 117 (s_if (nat_lit 0) zi_eq (nat_lit 124) (nat_lit 120)) := ok_if_eq (off := 7) (md := zmd_287) zh_287 (by decide +kernel) (by decide +kernel) rfl
theorem zr_287_124 : zOK zPre 287 124 (s_k (nat_lit 16) (nat_lit 125)) := ok_iconst (n := 1) (md := zmd_287) zh_287 (by decide +kernel) rfl (by decide +kernel)
theorem zr_287_125 : zOK zPre 287 125 (s_ic (nat_lit 0) zu_eq (nat_lit 130) (nat_lit 128)) := ok_ic_eq (off := 5) (md := zmd_287) zh_287 (by decide +kernel) (by decide +kernel) rfl
theorem zr_287_130 : zOK zPre 287 130 (s_ld_0 (nat_lit 1136) (nat_lit 131)) := zokE (zld_0 _ _) (ok_ld0 (t := 4) (i := 0) (zrow_aload_n (k := 0) (md := zmd_287) zh_287 (by decide +kernel) rfl rfl))
theorem zr_287_131 : zOK zPre 287 131 (s_gf (nat_lit 6) (nat_lit 10) (nat_lit 134)) := ok_gf0 (by decide) (zrow_gf (index := 69) (ref := "Residueworks$Theorem") (C := RX7) (T := TX7) (N := 15) (md := zmd_287) zh_287 (by decide +kernel) rfl rfl (by decide) zu_X7 zw_2_88 rfl)
theorem zr_287_134 : zOK zPre 287 134 (s_ld_1 (nat_lit 1136) (nat_lit 135)) := zokE (zld_1 _ _) (ok_ld0 (t := 4) (i := 1) (zrow_aload_n (k := 1) (md := zmd_287) zh_287 (by decide +kernel) rfl rfl))
theorem zr_287_135 : zOK zPre 287 135 (s_ld_0 (nat_lit 1136) (nat_lit 136)) := zokE (zld_0 _ _) (ok_ld0 (t := 4) (i := 0) (zrow_aload_n (k := 0) (md := zmd_287) zh_287 (by decide +kernel) rfl rfl))
theorem zr_287_136 : zOK zPre 287 136 (s_gf (nat_lit 6) (nat_lit 8) (nat_lit 139)) := ok_gf0 (by decide) (zrow_gf (index := 63) (ref := "Residueworks$Theorem") (C := RX7) (T := TX7) (N := 15) (md := zmd_287) zh_287 (by decide +kernel) rfl rfl (by decide) zu_X7 zw_2_86 rfl)
theorem zr_287_139 : zOK zPre 287 139 (s_call (nat_lit 7) (nat_lit 98) (nat_lit 4) (nat_lit 3) (nat_lit 0) [] (nat_lit 142)) := ok_call (md := zmd_287) zh_287 zh_98 rfl (by decide) (by decide) (Or.inr (by decide)) zp_98 (zrow_callV (mdc := zmd_98) (index := 135) (md := zmd_287) zh_287 (by decide +kernel) rfl rfl zc_98 rfl (by decide) zw_6_69 zw_4_10 zw_4_11 zw_1_3 zd_98) trivial
theorem zr_287_142 : zOK zPre 287 142 (s_ld_0 (nat_lit 1136) (nat_lit 143)) := zokE (zld_0 _ _) (ok_ld0 (t := 4) (i := 0) (zrow_aload_n (k := 0) (md := zmd_287) zh_287 (by decide +kernel) rfl rfl))
theorem zr_287_143 : zOK zPre 287 143 (s_gf (nat_lit 6) (nat_lit 1) (nat_lit 146)) := ok_gf0 (by decide) (zrow_gf (index := 21) (ref := "Residueworks$Theorem") (C := RX7) (T := TX7) (N := 15) (md := zmd_287) zh_287 (by decide +kernel) rfl rfl (by decide) zu_X7 zw_2_79 rfl)
theorem zr_287_146 : zOK zPre 287 146 (s_ld_0 (nat_lit 1136) (nat_lit 147)) := zokE (zld_0 _ _) (ok_ld0 (t := 4) (i := 0) (zrow_aload_n (k := 0) (md := zmd_287) zh_287 (by decide +kernel) rfl rfl))
theorem zr_287_147 : zOK zPre 287 147 (s_gf (nat_lit 6) (nat_lit 10) (nat_lit 150)) := ok_gf0 (by decide) (zrow_gf (index := 69) (ref := "Residueworks$Theorem") (C := RX7) (T := TX7) (N := 15) (md := zmd_287) zh_287 (by decide +kernel) rfl rfl (by decide) zu_X7 zw_2_88 rfl)
theorem zr_287_150 : zOK zPre 287 150 (s_ld_0 (nat_lit 1136) (nat_lit 151)) := zokE (zld_0 _ _) (ok_ld0 (t := 4) (i := 0) (zrow_aload_n (k := 0) (md := zmd_287) zh_287 (by decide +kernel) rfl rfl))
theorem zr_287_151 : zOK zPre 287 151 (s_gf (nat_lit 6) (nat_lit 9) (nat_lit 154)) := ok_gf0 (by decide) (zrow_gf (index := 66) (ref := "Residueworks$Theorem") (C := RX7) (T := TX7) (N := 15) (md := zmd_287) zh_287 (by decide +kernel) rfl rfl (by decide) zu_X7 zw_2_87 rfl)
theorem zr_287_154 : zOK zPre 287 154 (s_call (nat_lit 2) (nat_lit 292) (nat_lit 10) (nat_lit 3) (nat_lit 1) [] (nat_lit 157)) := ok_call (md := zmd_287) zh_287 zh_292 rfl (by decide) (by decide) (Or.inr (by decide)) zp_292 (zrow_callV (mdc := zmd_292) (index := 216) (md := zmd_287) zh_287 (by decide +kernel) rfl rfl zc_292 rfl (by decide) zw_6_128 zw_5_93 zw_5_94 zw_1_6 zd_292) trivial
theorem zr_287_157 : zOK zPre 287 157 (s_ld_0 (nat_lit 1136) (nat_lit 158)) := zokE (zld_0 _ _) (ok_ld0 (t := 4) (i := 0) (zrow_aload_n (k := 0) (md := zmd_287) zh_287 (by decide +kernel) rfl rfl))
theorem zr_287_158 : zOK zPre 287 158 (s_gf (nat_lit 6) (nat_lit 1) (nat_lit 161)) := ok_gf0 (by decide) (zrow_gf (index := 21) (ref := "Residueworks$Theorem") (C := RX7) (T := TX7) (N := 15) (md := zmd_287) zh_287 (by decide +kernel) rfl rfl (by decide) zu_X7 zw_2_79 rfl)
theorem zr_287_161 : zOK zPre 287 161 (s_ld_1 (nat_lit 1136) (nat_lit 162)) := zokE (zld_1 _ _) (ok_ld0 (t := 4) (i := 1) (zrow_aload_n (k := 1) (md := zmd_287) zh_287 (by decide +kernel) rfl rfl))
theorem zr_287_162 : zOK zPre 287 162 (s_ld_0 (nat_lit 1136) (nat_lit 163)) := zokE (zld_0 _ _) (ok_ld0 (t := 4) (i := 0) (zrow_aload_n (k := 0) (md := zmd_287) zh_287 (by decide +kernel) rfl rfl))
theorem zr_287_163 : zOK zPre 287 163 (s_gf (nat_lit 6) (nat_lit 9) (nat_lit 166)) := ok_gf0 (by decide) (zrow_gf (index := 66) (ref := "Residueworks$Theorem") (C := RX7) (T := TX7) (N := 15) (md := zmd_287) zh_287 (by decide +kernel) rfl rfl (by decide) zu_X7 zw_2_87 rfl)
theorem zr_287_166 : zOK zPre 287 166 (s_call (nat_lit 2) (nat_lit 292) (nat_lit 10) (nat_lit 3) (nat_lit 1) [] (nat_lit 169)) := ok_call (md := zmd_287) zh_287 zh_292 rfl (by decide) (by decide) (Or.inr (by decide)) zp_292 (zrow_callV (mdc := zmd_292) (index := 216) (md := zmd_287) zh_287 (by decide +kernel) rfl rfl zc_292 rfl (by decide) zw_6_128 zw_5_93 zw_5_94 zw_1_6 zd_292) trivial
theorem zr_287_169 : zOK zPre 287 169 (s_ld_3 (nat_lit 45067) (nat_lit 170)) := zokE (zld_3 _ _) (ok_ld0 (t := 0) (i := 3) (zrow_iload_n (k := 3) (md := zmd_287) zh_287 (by decide +kernel) rfl rfl))
theorem zr_287_170 : zOK zPre 287 170 (s_imul (nat_lit 171)) := ok_imul (md := zmd_287) zh_287 (by decide +kernel) rfl
theorem zr_287_171 : zOK zPre 287 171 (s_ic (nat_lit 1) zu_ne (nat_lit 194) (nat_lit 174)) := ok_ic_ne (off := 23) (md := zmd_287) zh_287 (by decide +kernel) (by decide +kernel) rfl
theorem zr_287_174 : zOK zPre 287 174 (s_ld_0 (nat_lit 1136) (nat_lit 175)) := zokE (zld_0 _ _) (ok_ld0 (t := 4) (i := 0) (zrow_aload_n (k := 0) (md := zmd_287) zh_287 (by decide +kernel) rfl rfl))
theorem zr_287_175 : zOK zPre 287 175 (s_ld_0 (nat_lit 1136) (nat_lit 176)) := zokE (zld_0 _ _) (ok_ld0 (t := 4) (i := 0) (zrow_aload_n (k := 0) (md := zmd_287) zh_287 (by decide +kernel) rfl rfl))
theorem zr_287_176 : zOK zPre 287 176 (s_gf (nat_lit 6) (nat_lit 8) (nat_lit 179)) := ok_gf0 (by decide) (zrow_gf (index := 63) (ref := "Residueworks$Theorem") (C := RX7) (T := TX7) (N := 15) (md := zmd_287) zh_287 (by decide +kernel) rfl rfl (by decide) zu_X7 zw_2_86 rfl)
theorem zr_287_179 : zOK zPre 287 179 (s_ld_0 (nat_lit 1136) (nat_lit 180)) := zokE (zld_0 _ _) (ok_ld0 (t := 4) (i := 0) (zrow_aload_n (k := 0) (md := zmd_287) zh_287 (by decide +kernel) rfl rfl))
theorem zr_287_180 : zOK zPre 287 180 (s_gf (nat_lit 6) (nat_lit 9) (nat_lit 183)) := ok_gf0 (by decide) (zrow_gf (index := 66) (ref := "Residueworks$Theorem") (C := RX7) (T := TX7) (N := 15) (md := zmd_287) zh_287 (by decide +kernel) rfl rfl (by decide) zu_X7 zw_2_87 rfl)
theorem zr_287_183 : zOK zPre 287 183 (s_ld_3 (nat_lit 45067) (nat_lit 184)) := zokE (zld_3 _ _) (ok_ld0 (t := 0) (i := 3) (zrow_iload_n (k := 3) (md := zmd_287) zh_287 (by decide +kernel) rfl rfl))
theorem zr_287_184 : zOK zPre 287 184 (s_call (nat_lit 6) (nat_lit 293) (nat_lit 8) (nat_lit 4) (nat_lit 1) [] (nat_lit 187)) := ok_call (md := zmd_287) zh_287 zh_293 rfl (by decide) (by decide) (Or.inr (by decide)) zp_293 (zrow_callV (mdc := zmd_293) (index := 223) (md := zmd_287) zh_287 (by decide +kernel) rfl rfl zc_293 rfl (by decide) zw_6_130 zw_6_132 zws_26 zw_1_9 zd_293) trivial
theorem zr_287_187 : zOK zPre 287 187 (s_if (nat_lit 0) zi_eq (nat_lit 194) (nat_lit 190)) := ok_if_eq (off := 7) (md := zmd_287) zh_287 (by decide +kernel) (by decide +kernel) rfl
theorem zr_287_190 : zOK zPre 287 190 (s_k (nat_lit 16) (nat_lit 191)) := ok_iconst (n := 1) (md := zmd_287) zh_287 (by decide +kernel) rfl (by decide +kernel)
theorem zr_287_191 : zOK zPre 287 191 (s_go (nat_lit 195)) := ok_go (off := 4) (md := zmd_287) zh_287 (by decide +kernel) (by decide +kernel)
theorem zr_287_195 : zOK zPre 287 195 (s_rz (nat_lit 1)) := ok_rz (ft := 1) (Or.inl rfl) (md := zmd_287) zh_287 rfl (by decide +kernel)
theorem zr_288_0 : zOK zPre 288 0 (s_ld_0 (nat_lit 1136) (nat_lit 1)) := zokE (zld_0 _ _) (ok_ld0 (t := 4) (i := 0) (zrow_aload_n (k := 0) (md := zmd_288) zh_288 (by decide +kernel) rfl rfl))
theorem zr_288_1 : zOK zPre 288 1 (s_gf (nat_lit 6) (nat_lit 10) (nat_lit 4)) := ok_gf0 (by decide) (zrow_gf (index := 69) (ref := "Residueworks$Theorem") (C := RX7) (T := TX7) (N := 15) (md := zmd_288) zh_288 (by decide +kernel) rfl rfl (by decide) zu_X7 zw_2_88 rfl)
theorem zr_288_4 : zOK zPre 288 4 (s_ld_2 (nat_lit 1136) (nat_lit 5)) := zokE (zld_2 _ _) (ok_ld0 (t := 4) (i := 2) (zrow_aload_n (k := 2) (md := zmd_288) zh_288 (by decide +kernel) rfl rfl))
theorem zr_288_5 : zOK zPre 288 5 (s_call (nat_lit 7) (nat_lit 104) (nat_lit 2) (nat_lit 2) (nat_lit 0) [] (nat_lit 8)) := ok_call (md := zmd_288) zh_288 zh_104 rfl (by decide) (by decide) (Or.inr (by decide)) zp_104 (zrow_callV (mdc := zmd_104) (index := 187) (md := zmd_288) zh_288 (by decide +kernel) rfl rfl zc_104 rfl (by decide) zw_6_115 zw_4_64 zw_4_65 zw_1_3 zd_104) trivial
theorem zr_288_8 : zOK zPre 288 8 (s_ld_1 (nat_lit 1136) (nat_lit 9)) := zokE (zld_1 _ _) (ok_ld0 (t := 4) (i := 1) (zrow_aload_n (k := 1) (md := zmd_288) zh_288 (by decide +kernel) rfl rfl))
theorem zr_288_9 : zOK zPre 288 9 (s_k (nat_lit 1984) (nat_lit 11)) := ok_bipush (n := 124) (md := zmd_288) zh_288 (by decide +kernel) rfl (by decide +kernel)
theorem zr_288_11 : zOK zPre 288 11 (s_ld_0 (nat_lit 1136) (nat_lit 12)) := zokE (zld_0 _ _) (ok_ld0 (t := 4) (i := 0) (zrow_aload_n (k := 0) (md := zmd_288) zh_288 (by decide +kernel) rfl rfl))
theorem zr_288_12 : zOK zPre 288 12 (s_gf (nat_lit 6) (nat_lit 10) (nat_lit 15)) := ok_gf0 (by decide) (zrow_gf (index := 69) (ref := "Residueworks$Theorem") (C := RX7) (T := TX7) (N := 15) (md := zmd_288) zh_288 (by decide +kernel) rfl rfl (by decide) zu_X7 zw_2_88 rfl)
theorem zr_288_15 : zOK zPre 288 15 (s_ld_0 (nat_lit 1136) (nat_lit 16)) := zokE (zld_0 _ _) (ok_ld0 (t := 4) (i := 0) (zrow_aload_n (k := 0) (md := zmd_288) zh_288 (by decide +kernel) rfl rfl))
theorem zr_288_16 : zOK zPre 288 16 (s_gf (nat_lit 6) (nat_lit 6) (nat_lit 19)) := ok_gf0 (by decide) (zrow_gf (index := 56) (ref := "Residueworks$Theorem") (C := RX7) (T := TX7) (N := 15) (md := zmd_288) zh_288 (by decide +kernel) rfl rfl (by decide) zu_X7 zw_2_84 rfl)
theorem zr_288_19 : zOK zPre 288 19 (s_call (nat_lit 7) (nat_lit 109) (nat_lit 6) (nat_lit 4) (nat_lit 0) [] (nat_lit 22)) := ok_call (md := zmd_288) zh_288 zh_109 rfl (by decide) (by decide) (Or.inr (by decide)) zp_109 (zrow_callV (mdc := zmd_109) (index := 106) (md := zmd_288) zh_288 (by decide +kernel) rfl rfl zc_109 rfl (by decide) zw_6_58 zw_4_78 zw_4_79 zw_1_3 zd_109) trivial
theorem zr_288_22 : zOK zPre 288 22 (s_rv) := ok_rv (md := zmd_288) zh_288 rfl (by decide +kernel)
theorem zr_289_0 : zOK zPre 289 0 (s_ld_0 (nat_lit 1136) (nat_lit 1)) := zokE (zld_0 _ _) (ok_ld0 (t := 4) (i := 0) (zrow_aload_n (k := 0) (md := zmd_289) zh_289 (by decide +kernel) rfl rfl))
theorem zr_289_1 : zOK zPre 289 1 (s_gf (nat_lit 1) (nat_lit 2) (nat_lit 4)) := ok_gf0 (by decide) (zrow_gf (index := 19) (ref := "Residueworks$Division") (C := RX1) (T := TX1) (N := 3) (md := zmd_289) zh_289 (by decide +kernel) rfl rfl (by decide) zu_X1 zw_1_133 rfl)
theorem zr_289_4 : zOK zPre 289 4 (s_ld_0 (nat_lit 1136) (nat_lit 5)) := zokE (zld_0 _ _) (ok_ld0 (t := 4) (i := 0) (zrow_aload_n (k := 0) (md := zmd_289) zh_289 (by decide +kernel) rfl rfl))
theorem zr_289_5 : zOK zPre 289 5 (s_gf (nat_lit 1) (nat_lit 2) (nat_lit 8)) := ok_gf0 (by decide) (zrow_gf (index := 19) (ref := "Residueworks$Division") (C := RX1) (T := TX1) (N := 3) (md := zmd_289) zh_289 (by decide +kernel) rfl rfl (by decide) zu_X1 zw_1_133 rfl)
theorem zr_289_8 : zOK zPre 289 8 (s_gf (nat_lit 7) (nat_lit 1) (nat_lit 11)) := ok_gf0 (by decide) (zrow_gf (index := 26) (ref := "Residueworks$Whole") (C := RX8) (T := TX8) (N := 3) (md := zmd_289) zh_289 (by decide +kernel) rfl rfl (by decide) zu_X8 zw_1_67 rfl)
theorem zr_289_11 : zOK zPre 289 11 (s_k (nat_lit 16) (nat_lit 12)) := ok_iconst (n := 1) (md := zmd_289) zh_289 (by decide +kernel) rfl (by decide +kernel)
theorem zr_289_12 : zOK zPre 289 12 (s_isub (nat_lit 13)) := ok_isub (md := zmd_289) zh_289 (by decide +kernel) rfl
theorem zr_289_13 : zOK zPre 289 13 (s_call (nat_lit 7) (nat_lit 29) (nat_lit 2) (nat_lit 2) (nat_lit 1) [] (nat_lit 16)) := ok_call (md := zmd_289) zh_289 zh_29 rfl (by decide) (by decide) (Or.inr (by decide)) zp_29 (zrow_callV (mdc := zmd_29) (index := 41) (md := zmd_289) zh_289 (by decide +kernel) rfl rfl zc_29 rfl (by decide) zw_4_31 zw_2_181 zw_2_182 zw_1_3 zd_29) trivial
theorem zr_289_16 : zOK zPre 289 16 (s_i2l (nat_lit 17)) := ok_i2l (md := zmd_289) zh_289 (by decide +kernel) rfl
theorem zr_289_17 : zOK zPre 289 17 (s_s2 (nat_lit 18436) (nat_lit 2) (nat_lit 18)) := ok_s20 (t := 1) (i := 2) (zrow_lstore_n (k := 2) (md := zmd_289) zh_289 (by decide +kernel) rfl rfl)
theorem zr_289_18 : zOK zPre 289 18 (s_ld_2 (nat_lit 18436) (nat_lit 19)) := zokE (zld_2 _ _) (ok_ld0 (t := 1) (i := 2) (zrow_lload_n (k := 2) (md := zmd_289) zh_289 (by decide +kernel) rfl rfl))
theorem zr_289_19 : zOK zPre 289 19 (s_k (nat_lit 2) (nat_lit 20)) := ok_lconst (n := 0) (md := zmd_289) zh_289 (by decide +kernel) rfl (by decide +kernel)
theorem zr_289_20 : zOK zPre 289 20 (s_lcmp (nat_lit 21)) := ok_lcmp (md := zmd_289) zh_289 (by decide +kernel) rfl
theorem zr_289_21 : zOK zPre 289 21 (s_if (nat_lit 1) zi_ne (nat_lit 26) (nat_lit 24)) := ok_if_ne (off := 5) (md := zmd_289) zh_289 (by decide +kernel) (by decide +kernel) rfl
theorem zr_289_26 : zOK zPre 289 26 (s_ld_0 (nat_lit 1136) (nat_lit 27)) := zokE (zld_0 _ _) (ok_ld0 (t := 4) (i := 0) (zrow_aload_n (k := 0) (md := zmd_289) zh_289 (by decide +kernel) rfl rfl))
theorem zr_289_27 : zOK zPre 289 27 (s_gf (nat_lit 1) (nat_lit 2) (nat_lit 30)) := ok_gf0 (by decide) (zrow_gf (index := 19) (ref := "Residueworks$Division") (C := RX1) (T := TX1) (N := 3) (md := zmd_289) zh_289 (by decide +kernel) rfl rfl (by decide) zu_X1 zw_1_133 rfl)
theorem zr_289_30 : zOK zPre 289 30 (s_ld_0 (nat_lit 1136) (nat_lit 31)) := zokE (zld_0 _ _) (ok_ld0 (t := 4) (i := 0) (zrow_aload_n (k := 0) (md := zmd_289) zh_289 (by decide +kernel) rfl rfl))
theorem zr_289_31 : zOK zPre 289 31 (s_gf (nat_lit 1) (nat_lit 2) (nat_lit 34)) := ok_gf0 (by decide) (zrow_gf (index := 19) (ref := "Residueworks$Division") (C := RX1) (T := TX1) (N := 3) (md := zmd_289) zh_289 (by decide +kernel) rfl rfl (by decide) zu_X1 zw_1_133 rfl)
theorem zr_289_34 : zOK zPre 289 34 (s_gf (nat_lit 7) (nat_lit 1) (nat_lit 37)) := ok_gf0 (by decide) (zrow_gf (index := 26) (ref := "Residueworks$Whole") (C := RX8) (T := TX8) (N := 3) (md := zmd_289) zh_289 (by decide +kernel) rfl rfl (by decide) zu_X8 zw_1_67 rfl)
theorem zr_289_37 : zOK zPre 289 37 (s_k (nat_lit 32) (nat_lit 38)) := ok_iconst (n := 2) (md := zmd_289) zh_289 (by decide +kernel) rfl (by decide +kernel)
theorem zr_289_38 : zOK zPre 289 38 (s_isub (nat_lit 39)) := ok_isub (md := zmd_289) zh_289 (by decide +kernel) rfl
theorem zr_289_39 : zOK zPre 289 39 (s_call (nat_lit 7) (nat_lit 29) (nat_lit 2) (nat_lit 2) (nat_lit 1) [] (nat_lit 42)) := ok_call (md := zmd_289) zh_289 zh_29 rfl (by decide) (by decide) (Or.inr (by decide)) zp_29 (zrow_callV (mdc := zmd_29) (index := 41) (md := zmd_289) zh_289 (by decide +kernel) rfl rfl zc_29 rfl (by decide) zw_4_31 zw_2_181 zw_2_182 zw_1_3 zd_29) trivial
theorem zr_289_42 : zOK zPre 289 42 (s_i2l (nat_lit 43)) := ok_i2l (md := zmd_289) zh_289 (by decide +kernel) rfl
theorem zr_289_43 : zOK zPre 289 43 (s_s2 (nat_lit 18436) (nat_lit 4) (nat_lit 45)) := ok_s20 (t := 1) (i := 4) (zrow_lstore (md := zmd_289) zh_289 (by decide +kernel) rfl)
theorem zr_289_45 : zOK zPre 289 45 (s_ld_0 (nat_lit 1136) (nat_lit 46)) := zokE (zld_0 _ _) (ok_ld0 (t := 4) (i := 0) (zrow_aload_n (k := 0) (md := zmd_289) zh_289 (by decide +kernel) rfl rfl))
theorem zr_289_46 : zOK zPre 289 46 (s_gf (nat_lit 1) (nat_lit 1) (nat_lit 49)) := ok_gf0 (by decide) (zrow_gf (index := 16) (ref := "Residueworks$Division") (C := RX1) (T := TX1) (N := 3) (md := zmd_289) zh_289 (by decide +kernel) rfl rfl (by decide) zu_X1 zw_1_128 rfl)
theorem zr_289_49 : zOK zPre 289 49 (s_ld_1 (nat_lit 45067) (nat_lit 50)) := zokE (zld_1 _ _) (ok_ld0 (t := 0) (i := 1) (zrow_iload_n (k := 1) (md := zmd_289) zh_289 (by decide +kernel) rfl rfl))
theorem zr_289_50 : zOK zPre 289 50 (s_call (nat_lit 7) (nat_lit 29) (nat_lit 2) (nat_lit 2) (nat_lit 1) [] (nat_lit 53)) := ok_call (md := zmd_289) zh_289 zh_29 rfl (by decide) (by decide) (Or.inr (by decide)) zp_29 (zrow_callV (mdc := zmd_29) (index := 41) (md := zmd_289) zh_289 (by decide +kernel) rfl rfl zc_29 rfl (by decide) zw_4_31 zw_2_181 zw_2_182 zw_1_3 zd_29) trivial
theorem zr_289_53 : zOK zPre 289 53 (s_i2l (nat_lit 54)) := ok_i2l (md := zmd_289) zh_289 (by decide +kernel) rfl
theorem zr_289_54 : zOK zPre 289 54 (s_k (nat_lit 480) (nat_lit 56)) := ok_bipush (n := 30) (md := zmd_289) zh_289 (by decide +kernel) rfl (by decide +kernel)
theorem zr_289_56 : zOK zPre 289 56 (s_lshl (nat_lit 57)) := ok_lshl (md := zmd_289) zh_289 (by decide +kernel) rfl
theorem zr_289_57 : zOK zPre 289 57 (s_ld_0 (nat_lit 1136) (nat_lit 58)) := zokE (zld_0 _ _) (ok_ld0 (t := 4) (i := 0) (zrow_aload_n (k := 0) (md := zmd_289) zh_289 (by decide +kernel) rfl rfl))
theorem zr_289_58 : zOK zPre 289 58 (s_gf (nat_lit 1) (nat_lit 1) (nat_lit 61)) := ok_gf0 (by decide) (zrow_gf (index := 16) (ref := "Residueworks$Division") (C := RX1) (T := TX1) (N := 3) (md := zmd_289) zh_289 (by decide +kernel) rfl rfl (by decide) zu_X1 zw_1_128 rfl)
theorem zr_289_61 : zOK zPre 289 61 (s_ld_1 (nat_lit 45067) (nat_lit 62)) := zokE (zld_1 _ _) (ok_ld0 (t := 0) (i := 1) (zrow_iload_n (k := 1) (md := zmd_289) zh_289 (by decide +kernel) rfl rfl))
theorem zr_289_62 : zOK zPre 289 62 (s_k (nat_lit 16) (nat_lit 63)) := ok_iconst (n := 1) (md := zmd_289) zh_289 (by decide +kernel) rfl (by decide +kernel)
theorem zr_289_63 : zOK zPre 289 63 (s_isub (nat_lit 64)) := ok_isub (md := zmd_289) zh_289 (by decide +kernel) rfl
theorem zr_289_64 : zOK zPre 289 64 (s_call (nat_lit 7) (nat_lit 29) (nat_lit 2) (nat_lit 2) (nat_lit 1) [] (nat_lit 67)) := ok_call (md := zmd_289) zh_289 zh_29 rfl (by decide) (by decide) (Or.inr (by decide)) zp_29 (zrow_callV (mdc := zmd_29) (index := 41) (md := zmd_289) zh_289 (by decide +kernel) rfl rfl zc_29 rfl (by decide) zw_4_31 zw_2_181 zw_2_182 zw_1_3 zd_29) trivial
theorem zr_289_67 : zOK zPre 289 67 (s_i2l (nat_lit 68)) := ok_i2l (md := zmd_289) zh_289 (by decide +kernel) rfl
theorem zr_289_68 : zOK zPre 289 68 (s_lor (nat_lit 69)) := ok_lor (md := zmd_289) zh_289 (by decide +kernel) rfl
theorem zr_289_69 : zOK zPre 289 69 (s_s2 (nat_lit 18436) (nat_lit 6) (nat_lit 71)) := ok_s20 (t := 1) (i := 6) (zrow_lstore (md := zmd_289) zh_289 (by decide +kernel) rfl)
theorem zr_289_71 : zOK zPre 289 71 (s_ld (nat_lit 18436) (nat_lit 6) (nat_lit 73)) := ok_ld0 (t := 1) (i := 6) (zrow_lload (md := zmd_289) zh_289 (by decide +kernel) rfl)
theorem zr_289_73 : zOK zPre 289 73 (s_ld_2 (nat_lit 18436) (nat_lit 74)) := zokE (zld_2 _ _) (ok_ld0 (t := 1) (i := 2) (zrow_lload_n (k := 2) (md := zmd_289) zh_289 (by decide +kernel) rfl rfl))
theorem zr_289_74 : zOK zPre 289 74 (s_ldiv (nat_lit 75)) := ok_ldiv (md := zmd_289) zh_289 (by decide +kernel) rfl
theorem zr_289_75 : zOK zPre 289 75 (s_s2 (nat_lit 18436) (nat_lit 8) (nat_lit 77)) := ok_s20 (t := 1) (i := 8) (zrow_lstore (md := zmd_289) zh_289 (by decide +kernel) rfl)
theorem zr_289_77 : zOK zPre 289 77 (s_ld (nat_lit 18436) (nat_lit 6) (nat_lit 79)) := ok_ld0 (t := 1) (i := 6) (zrow_lload (md := zmd_289) zh_289 (by decide +kernel) rfl)
theorem zr_289_79 : zOK zPre 289 79 (s_ld_2 (nat_lit 18436) (nat_lit 80)) := zokE (zld_2 _ _) (ok_ld0 (t := 1) (i := 2) (zrow_lload_n (k := 2) (md := zmd_289) zh_289 (by decide +kernel) rfl rfl))
theorem zr_289_80 : zOK zPre 289 80 (s_lrem (nat_lit 81)) := ok_lrem (md := zmd_289) zh_289 (by decide +kernel) rfl
theorem zr_289_81 : zOK zPre 289 81 (s_s2 (nat_lit 18436) (nat_lit 10) (nat_lit 83)) := ok_s20 (t := 1) (i := 10) (zrow_lstore (md := zmd_289) zh_289 (by decide +kernel) rfl)
theorem zr_289_83 : zOK zPre 289 83 (s_k (nat_lit 0) (nat_lit 84)) := ok_iconst (n := 0) (md := zmd_289) zh_289 (by decide +kernel) rfl (by decide +kernel)
theorem zr_289_84 : zOK zPre 289 84 (s_s1 (nat_lit 45067) (nat_lit 12) (nat_lit 86)) := ok_s10 (t := 0) (i := 12) (zrow_istore (md := zmd_289) zh_289 (by decide +kernel) rfl)
theorem zr_289_86 : zOK zPre 289 86 (s_ld (nat_lit 45067) (nat_lit 12) (nat_lit 88)) := ok_ld0 (t := 0) (i := 12) (zrow_iload (md := zmd_289) zh_289 (by decide +kernel) rfl)
theorem zr_289_88 : zOK zPre 289 88 (s_k (nat_lit 64) (nat_lit 89)) := ok_iconst (n := 4) (md := zmd_289) zh_289 (by decide +kernel) rfl (by decide +kernel)
theorem zr_289_89 : zOK zPre 289 89 (s_ic (nat_lit 3) zu_ge (nat_lit 161) (nat_lit 92)) := ok_ic_ge (off := 72) (md := zmd_289) zh_289 (by decide +kernel) (by decide +kernel) rfl
theorem zr_289_92 : zOK zPre 289 92 (s_ld (nat_lit 18436) (nat_lit 10) (nat_lit 94)) := ok_ld0 (t := 1) (i := 10) (zrow_lload (md := zmd_289) zh_289 (by decide +kernel) rfl)
theorem zr_289_94 : zOK zPre 289 94 (s_k (nat_lit 17179869170) (nat_lit 97)) := ok_ldc2 (i := 79) (n := (1073741823 : Int64)) (md := zmd_289) zh_289 (by decide +kernel) rfl zw_4_39 (by decide +kernel)
theorem zr_289_97 : zOK zPre 289 97 (s_lcmp (nat_lit 98)) := ok_lcmp (md := zmd_289) zh_289 (by decide +kernel) rfl
theorem zr_289_98 : zOK zPre 289 98 (s_if (nat_lit 4) zi_gt (nat_lit 161) (nat_lit 101)) := ok_if_gt (off := 63) (md := zmd_289) zh_289 (by decide +kernel) (by decide +kernel) rfl
theorem zr_289_101 : zOK zPre 289 101 (s_ld (nat_lit 18436) (nat_lit 10) (nat_lit 103)) := ok_ld0 (t := 1) (i := 10) (zrow_lload (md := zmd_289) zh_289 (by decide +kernel) rfl)
theorem zr_289_103 : zOK zPre 289 103 (s_k (nat_lit 480) (nat_lit 105)) := ok_bipush (n := 30) (md := zmd_289) zh_289 (by decide +kernel) rfl (by decide +kernel)
theorem zr_289_105 : zOK zPre 289 105 (s_lshl (nat_lit 106)) := ok_lshl (md := zmd_289) zh_289 (by decide +kernel) rfl
theorem zr_289_106 : zOK zPre 289 106 (s_ld_0 (nat_lit 1136) (nat_lit 107)) := zokE (zld_0 _ _) (ok_ld0 (t := 4) (i := 0) (zrow_aload_n (k := 0) (md := zmd_289) zh_289 (by decide +kernel) rfl rfl))
theorem zr_289_107 : zOK zPre 289 107 (s_gf (nat_lit 1) (nat_lit 1) (nat_lit 110)) := ok_gf0 (by decide) (zrow_gf (index := 16) (ref := "Residueworks$Division") (C := RX1) (T := TX1) (N := 3) (md := zmd_289) zh_289 (by decide +kernel) rfl rfl (by decide) zu_X1 zw_1_128 rfl)
theorem zr_289_110 : zOK zPre 289 110 (s_ld_1 (nat_lit 45067) (nat_lit 111)) := zokE (zld_1 _ _) (ok_ld0 (t := 0) (i := 1) (zrow_iload_n (k := 1) (md := zmd_289) zh_289 (by decide +kernel) rfl rfl))
theorem zr_289_111 : zOK zPre 289 111 (s_k (nat_lit 32) (nat_lit 112)) := ok_iconst (n := 2) (md := zmd_289) zh_289 (by decide +kernel) rfl (by decide +kernel)
theorem zr_289_112 : zOK zPre 289 112 (s_isub (nat_lit 113)) := ok_isub (md := zmd_289) zh_289 (by decide +kernel) rfl
theorem zr_289_113 : zOK zPre 289 113 (s_call (nat_lit 7) (nat_lit 29) (nat_lit 2) (nat_lit 2) (nat_lit 1) [] (nat_lit 116)) := ok_call (md := zmd_289) zh_289 zh_29 rfl (by decide) (by decide) (Or.inr (by decide)) zp_29 (zrow_callV (mdc := zmd_29) (index := 41) (md := zmd_289) zh_289 (by decide +kernel) rfl rfl zc_29 rfl (by decide) zw_4_31 zw_2_181 zw_2_182 zw_1_3 zd_29) trivial
theorem zr_289_116 : zOK zPre 289 116 (s_i2l (nat_lit 117)) := ok_i2l (md := zmd_289) zh_289 (by decide +kernel) rfl
theorem zr_289_117 : zOK zPre 289 117 (s_lor (nat_lit 118)) := ok_lor (md := zmd_289) zh_289 (by decide +kernel) rfl
theorem zr_289_118 : zOK zPre 289 118 (s_s2 (nat_lit 18436) (nat_lit 13) (nat_lit 120)) := ok_s20 (t := 1) (i := 13) (zrow_lstore (md := zmd_289) zh_289 (by decide +kernel) rfl)
theorem zr_289_120 : zOK zPre 289 120 (s_ld (nat_lit 18436) (nat_lit 8) (nat_lit 122)) := ok_ld0 (t := 1) (i := 8) (zrow_lload (md := zmd_289) zh_289 (by decide +kernel) rfl)
theorem zr_289_122 : zOK zPre 289 122 (s_k (nat_lit 17179869170) (nat_lit 125)) := ok_ldc2 (i := 79) (n := (1073741823 : Int64)) (md := zmd_289) zh_289 (by decide +kernel) rfl zw_4_39 (by decide +kernel)
theorem zr_289_125 : zOK zPre 289 125 (s_lcmp (nat_lit 126)) := ok_lcmp (md := zmd_289) zh_289 (by decide +kernel) rfl
theorem zr_289_126 : zOK zPre 289 126 (s_if (nat_lit 4) zi_gt (nat_lit 143) (nat_lit 129)) := ok_if_gt (off := 17) (md := zmd_289) zh_289 (by decide +kernel) (by decide +kernel) rfl
theorem zr_289_129 : zOK zPre 289 129 (s_ld (nat_lit 18436) (nat_lit 8) (nat_lit 131)) := ok_ld0 (t := 1) (i := 8) (zrow_lload (md := zmd_289) zh_289 (by decide +kernel) rfl)
theorem zr_289_131 : zOK zPre 289 131 (s_ld_4 (nat_lit 18436) (nat_lit 133)) := zokE (zld_4 _ _) (ok_ld0 (t := 1) (i := 4) (zrow_lload (md := zmd_289) zh_289 (by decide +kernel) rfl))
theorem zr_289_133 : zOK zPre 289 133 (s_lmul (nat_lit 134)) := ok_lmul (md := zmd_289) zh_289 (by decide +kernel) rfl
theorem zr_289_134 : zOK zPre 289 134 (s_ld (nat_lit 18436) (nat_lit 13) (nat_lit 136)) := ok_ld0 (t := 1) (i := 13) (zrow_lload (md := zmd_289) zh_289 (by decide +kernel) rfl)
theorem zr_289_136 : zOK zPre 289 136 (s_lcmp (nat_lit 137)) := ok_lcmp (md := zmd_289) zh_289 (by decide +kernel) rfl
theorem zr_289_137 : zOK zPre 289 137 (s_if (nat_lit 4) zi_gt (nat_lit 143) (nat_lit 140)) := ok_if_gt (off := 6) (md := zmd_289) zh_289 (by decide +kernel) (by decide +kernel) rfl
theorem zr_289_140 : zOK zPre 289 140 (s_go (nat_lit 161)) := ok_go (off := 21) (md := zmd_289) zh_289 (by decide +kernel) (by decide +kernel)
theorem zr_289_161 : zOK zPre 289 161 (s_ld (nat_lit 18436) (nat_lit 8) (nat_lit 163)) := ok_ld0 (t := 1) (i := 8) (zrow_lload (md := zmd_289) zh_289 (by decide +kernel) rfl)
theorem zr_289_163 : zOK zPre 289 163 (s_ret (nat_lit 18436)) := ok_ret0 (t := 1) (i := .lreturn) (ty := .long) (md := zmd_289) zh_289 rfl (by decide +kernel) ⟨rfl, rfl⟩
theorem zr_290_0 : zOK zPre 290 0 (s_ld_0 (nat_lit 1136) (nat_lit 1)) := zokE (zld_0 _ _) (ok_ld0 (t := 4) (i := 0) (zrow_aload_n (k := 0) (md := zmd_290) zh_290 (by decide +kernel) rfl rfl))
theorem zr_290_1 : zOK zPre 290 1 (s_gf (nat_lit 1) (nat_lit 1) (nat_lit 4)) := ok_gf0 (by decide) (zrow_gf (index := 16) (ref := "Residueworks$Division") (C := RX1) (T := TX1) (N := 3) (md := zmd_290) zh_290 (by decide +kernel) rfl rfl (by decide) zu_X1 zw_1_128 rfl)
theorem zr_290_4 : zOK zPre 290 4 (s_gf (nat_lit 7) (nat_lit 0) (nat_lit 7)) := ok_gf0 (by decide) (zrow_gf (index := 81) (ref := "Residueworks$Whole") (C := RX8) (T := TX8) (N := 3) (md := zmd_290) zh_290 (by decide +kernel) rfl rfl (by decide) zu_X8 zw_1_65 rfl)
theorem zr_290_7 : zOK zPre 290 7 (s_s1_4 (nat_lit 1136) (nat_lit 9)) := zokE (zs1_4 _ _) (ok_s10 (t := 4) (i := 4) (zrow_astore (md := zmd_290) zh_290 (by decide +kernel) rfl))
theorem zr_290_9 : zOK zPre 290 9 (s_ld_0 (nat_lit 1136) (nat_lit 10)) := zokE (zld_0 _ _) (ok_ld0 (t := 4) (i := 0) (zrow_aload_n (k := 0) (md := zmd_290) zh_290 (by decide +kernel) rfl rfl))
theorem zr_290_10 : zOK zPre 290 10 (s_gf (nat_lit 1) (nat_lit 2) (nat_lit 13)) := ok_gf0 (by decide) (zrow_gf (index := 19) (ref := "Residueworks$Division") (C := RX1) (T := TX1) (N := 3) (md := zmd_290) zh_290 (by decide +kernel) rfl rfl (by decide) zu_X1 zw_1_133 rfl)
theorem zr_290_13 : zOK zPre 290 13 (s_gf (nat_lit 7) (nat_lit 0) (nat_lit 16)) := ok_gf0 (by decide) (zrow_gf (index := 81) (ref := "Residueworks$Whole") (C := RX8) (T := TX8) (N := 3) (md := zmd_290) zh_290 (by decide +kernel) rfl rfl (by decide) zu_X8 zw_1_65 rfl)
theorem zr_290_16 : zOK zPre 290 16 (s_s1_5 (nat_lit 1136) (nat_lit 18)) := zokE (zs1_5 _ _) (ok_s10 (t := 4) (i := 5) (zrow_astore (md := zmd_290) zh_290 (by decide +kernel) rfl))
theorem zr_290_18 : zOK zPre 290 18 (s_ld_0 (nat_lit 1136) (nat_lit 19)) := zokE (zld_0 _ _) (ok_ld0 (t := 4) (i := 0) (zrow_aload_n (k := 0) (md := zmd_290) zh_290 (by decide +kernel) rfl rfl))
theorem zr_290_19 : zOK zPre 290 19 (s_gf (nat_lit 1) (nat_lit 2) (nat_lit 22)) := ok_gf0 (by decide) (zrow_gf (index := 19) (ref := "Residueworks$Division") (C := RX1) (T := TX1) (N := 3) (md := zmd_290) zh_290 (by decide +kernel) rfl rfl (by decide) zu_X1 zw_1_133 rfl)
theorem zr_290_22 : zOK zPre 290 22 (s_gf (nat_lit 7) (nat_lit 1) (nat_lit 25)) := ok_gf0 (by decide) (zrow_gf (index := 26) (ref := "Residueworks$Whole") (C := RX8) (T := TX8) (N := 3) (md := zmd_290) zh_290 (by decide +kernel) rfl rfl (by decide) zu_X8 zw_1_67 rfl)
theorem zr_290_25 : zOK zPre 290 25 (s_s1 (nat_lit 45067) (nat_lit 6) (nat_lit 27)) := ok_s10 (t := 0) (i := 6) (zrow_istore (md := zmd_290) zh_290 (by decide +kernel) rfl)
theorem zr_290_27 : zOK zPre 290 27 (s_ld_3 (nat_lit 45067) (nat_lit 28)) := zokE (zld_3 _ _) (ok_ld0 (t := 0) (i := 3) (zrow_iload_n (k := 3) (md := zmd_290) zh_290 (by decide +kernel) rfl rfl))
theorem zr_290_28 : zOK zPre 290 28 (s_if (nat_lit 2) zi_lt (nat_lit 49) (nat_lit 31)) := ok_if_lt (off := 21) (md := zmd_290) zh_290 (by decide +kernel) (by decide +kernel) rfl
theorem zr_290_31 : zOK zPre 290 31 (s_ld_3 (nat_lit 45067) (nat_lit 32)) := zokE (zld_3 _ _) (ok_ld0 (t := 0) (i := 3) (zrow_iload_n (k := 3) (md := zmd_290) zh_290 (by decide +kernel) rfl rfl))
theorem zr_290_32 : zOK zPre 290 32 (s_ld (nat_lit 45067) (nat_lit 6) (nat_lit 34)) := ok_ld0 (t := 0) (i := 6) (zrow_iload (md := zmd_290) zh_290 (by decide +kernel) rfl)
theorem zr_290_34 : zOK zPre 290 34 (s_iadd (nat_lit 35)) := ok_iadd (md := zmd_290) zh_290 (by decide +kernel) rfl
theorem zr_290_35 : zOK zPre 290 35 (s_ld_4 (nat_lit 1136) (nat_lit 37)) := zokE (zld_4 _ _) (ok_ld0 (t := 4) (i := 4) (zrow_aload (md := zmd_290) zh_290 (by decide +kernel) rfl))
theorem zr_290_37 : zOK zPre 290 37 (s_al (nat_lit 38)) := ok_al (md := zmd_290) zh_290 (by decide +kernel) rfl
theorem zr_290_38 : zOK zPre 290 38 (s_ic (nat_lit 3) zu_ge (nat_lit 49) (nat_lit 41)) := ok_ic_ge (off := 11) (md := zmd_290) zh_290 (by decide +kernel) (by decide +kernel) rfl
theorem zr_290_41 : zOK zPre 290 41 (s_ld (nat_lit 45067) (nat_lit 6) (nat_lit 43)) := ok_ld0 (t := 0) (i := 6) (zrow_iload (md := zmd_290) zh_290 (by decide +kernel) rfl)
theorem zr_290_43 : zOK zPre 290 43 (s_ld_5 (nat_lit 1136) (nat_lit 45)) := zokE (zld_5 _ _) (ok_ld0 (t := 4) (i := 5) (zrow_aload (md := zmd_290) zh_290 (by decide +kernel) rfl))
theorem zr_290_45 : zOK zPre 290 45 (s_al (nat_lit 46)) := ok_al (md := zmd_290) zh_290 (by decide +kernel) rfl
theorem zr_290_46 : zOK zPre 290 46 (s_ic (nat_lit 5) zu_le (nat_lit 51) (nat_lit 49)) := ok_ic_le (off := 5) (md := zmd_290) zh_290 (by decide +kernel) (by decide +kernel) rfl
theorem zr_290_51 : zOK zPre 290 51 (s_k (nat_lit 2) (nat_lit 52)) := ok_lconst (n := 0) (md := zmd_290) zh_290 (by decide +kernel) rfl (by decide +kernel)
theorem zr_290_52 : zOK zPre 290 52 (s_s2 (nat_lit 18436) (nat_lit 7) (nat_lit 54)) := ok_s20 (t := 1) (i := 7) (zrow_lstore (md := zmd_290) zh_290 (by decide +kernel) rfl)
theorem zr_290_54 : zOK zPre 290 54 (s_k (nat_lit 0) (nat_lit 55)) := ok_iconst (n := 0) (md := zmd_290) zh_290 (by decide +kernel) rfl (by decide +kernel)
theorem zr_290_55 : zOK zPre 290 55 (s_s1 (nat_lit 45067) (nat_lit 9) (nat_lit 57)) := ok_s10 (t := 0) (i := 9) (zrow_istore (md := zmd_290) zh_290 (by decide +kernel) rfl)
theorem zr_290_57 : zOK zPre 290 57 (s_ld (nat_lit 45067) (nat_lit 9) (nat_lit 59)) := ok_ld0 (t := 0) (i := 9) (zrow_iload (md := zmd_290) zh_290 (by decide +kernel) rfl)
theorem zr_290_59 : zOK zPre 290 59 (s_ld (nat_lit 45067) (nat_lit 6) (nat_lit 61)) := ok_ld0 (t := 0) (i := 6) (zrow_iload (md := zmd_290) zh_290 (by decide +kernel) rfl)
theorem zr_290_61 : zOK zPre 290 61 (s_ic (nat_lit 3) zu_ge (nat_lit 113) (nat_lit 64)) := ok_ic_ge (off := 52) (md := zmd_290) zh_290 (by decide +kernel) (by decide +kernel) rfl
theorem zr_290_64 : zOK zPre 290 64 (s_ld_4 (nat_lit 1136) (nat_lit 66)) := zokE (zld_4 _ _) (ok_ld0 (t := 4) (i := 4) (zrow_aload (md := zmd_290) zh_290 (by decide +kernel) rfl))
theorem zr_290_66 : zOK zPre 290 66 (s_ld_3 (nat_lit 45067) (nat_lit 67)) := zokE (zld_3 _ _) (ok_ld0 (t := 0) (i := 3) (zrow_iload_n (k := 3) (md := zmd_290) zh_290 (by decide +kernel) rfl rfl))
theorem zr_290_67 : zOK zPre 290 67 (s_ld (nat_lit 45067) (nat_lit 9) (nat_lit 69)) := ok_ld0 (t := 0) (i := 9) (zrow_iload (md := zmd_290) zh_290 (by decide +kernel) rfl)
theorem zr_290_69 : zOK zPre 290 69 (s_iadd (nat_lit 70)) := ok_iadd (md := zmd_290) zh_290 (by decide +kernel) rfl
theorem zr_290_70 : zOK zPre 290 70 (s_ald (nat_lit 20) (nat_lit 20) (nat_lit 71)) := ok_ald0 (by decide) (by decide) (by decide) (zrow_iaload (md := zmd_290) zh_290 (by decide +kernel) rfl)
theorem zr_290_71 : zOK zPre 290 71 (s_i2l (nat_lit 72)) := ok_i2l (md := zmd_290) zh_290 (by decide +kernel) rfl
theorem zr_290_72 : zOK zPre 290 72 (s_ld_1 (nat_lit 18436) (nat_lit 73)) := zokE (zld_1 _ _) (ok_ld0 (t := 1) (i := 1) (zrow_lload_n (k := 1) (md := zmd_290) zh_290 (by decide +kernel) rfl rfl))
theorem zr_290_73 : zOK zPre 290 73 (s_ld_5 (nat_lit 1136) (nat_lit 75)) := zokE (zld_5 _ _) (ok_ld0 (t := 4) (i := 5) (zrow_aload (md := zmd_290) zh_290 (by decide +kernel) rfl))
theorem zr_290_75 : zOK zPre 290 75 (s_ld (nat_lit 45067) (nat_lit 9) (nat_lit 77)) := ok_ld0 (t := 0) (i := 9) (zrow_iload (md := zmd_290) zh_290 (by decide +kernel) rfl)
theorem zr_290_77 : zOK zPre 290 77 (s_ald (nat_lit 20) (nat_lit 20) (nat_lit 78)) := ok_ald0 (by decide) (by decide) (by decide) (zrow_iaload (md := zmd_290) zh_290 (by decide +kernel) rfl)
theorem zr_290_78 : zOK zPre 290 78 (s_i2l (nat_lit 79)) := ok_i2l (md := zmd_290) zh_290 (by decide +kernel) rfl
theorem zr_290_79 : zOK zPre 290 79 (s_lmul (nat_lit 80)) := ok_lmul (md := zmd_290) zh_290 (by decide +kernel) rfl
theorem zr_290_80 : zOK zPre 290 80 (s_lsub (nat_lit 81)) := ok_lsub (md := zmd_290) zh_290 (by decide +kernel) rfl
theorem zr_290_81 : zOK zPre 290 81 (s_ld (nat_lit 18436) (nat_lit 7) (nat_lit 83)) := ok_ld0 (t := 1) (i := 7) (zrow_lload (md := zmd_290) zh_290 (by decide +kernel) rfl)
theorem zr_290_83 : zOK zPre 290 83 (s_ladd (nat_lit 84)) := ok_ladd (md := zmd_290) zh_290 (by decide +kernel) rfl
theorem zr_290_84 : zOK zPre 290 84 (s_s2 (nat_lit 18436) (nat_lit 10) (nat_lit 86)) := ok_s20 (t := 1) (i := 10) (zrow_lstore (md := zmd_290) zh_290 (by decide +kernel) rfl)
theorem zr_290_86 : zOK zPre 290 86 (s_ld_4 (nat_lit 1136) (nat_lit 88)) := zokE (zld_4 _ _) (ok_ld0 (t := 4) (i := 4) (zrow_aload (md := zmd_290) zh_290 (by decide +kernel) rfl))
theorem zr_290_88 : zOK zPre 290 88 (s_ld_3 (nat_lit 45067) (nat_lit 89)) := zokE (zld_3 _ _) (ok_ld0 (t := 0) (i := 3) (zrow_iload_n (k := 3) (md := zmd_290) zh_290 (by decide +kernel) rfl rfl))
theorem zr_290_89 : zOK zPre 290 89 (s_ld (nat_lit 45067) (nat_lit 9) (nat_lit 91)) := ok_ld0 (t := 0) (i := 9) (zrow_iload (md := zmd_290) zh_290 (by decide +kernel) rfl)
theorem zr_290_91 : zOK zPre 290 91 (s_iadd (nat_lit 92)) := ok_iadd (md := zmd_290) zh_290 (by decide +kernel) rfl
theorem zr_290_92 : zOK zPre 290 92 (s_ld (nat_lit 18436) (nat_lit 10) (nat_lit 94)) := ok_ld0 (t := 1) (i := 10) (zrow_lload (md := zmd_290) zh_290 (by decide +kernel) rfl)
theorem zr_290_94 : zOK zPre 290 94 (s_k (nat_lit 17179869170) (nat_lit 97)) := ok_ldc2 (i := 79) (n := (1073741823 : Int64)) (md := zmd_290) zh_290 (by decide +kernel) rfl zw_4_39 (by decide +kernel)
theorem zr_290_97 : zOK zPre 290 97 (s_land (nat_lit 98)) := ok_land (md := zmd_290) zh_290 (by decide +kernel) rfl
theorem zr_290_98 : zOK zPre 290 98 (s_l2i (nat_lit 99)) := ok_l2i (md := zmd_290) zh_290 (by decide +kernel) rfl
theorem zr_290_99 : zOK zPre 290 99 (s_ast (nat_lit 20) (nat_lit 0) (nat_lit 100)) := ok_astI (Or.inl rfl) (Or.inl rfl) (zrow_iastore (md := zmd_290) zh_290 (by decide +kernel) rfl)
theorem zr_290_100 : zOK zPre 290 100 (s_ld (nat_lit 18436) (nat_lit 10) (nat_lit 102)) := ok_ld0 (t := 1) (i := 10) (zrow_lload (md := zmd_290) zh_290 (by decide +kernel) rfl)
theorem zr_290_102 : zOK zPre 290 102 (s_k (nat_lit 480) (nat_lit 104)) := ok_bipush (n := 30) (md := zmd_290) zh_290 (by decide +kernel) rfl (by decide +kernel)
theorem zr_290_104 : zOK zPre 290 104 (s_lshr (nat_lit 105)) := ok_lshr (md := zmd_290) zh_290 (by decide +kernel) rfl
theorem zr_290_105 : zOK zPre 290 105 (s_s2 (nat_lit 18436) (nat_lit 7) (nat_lit 107)) := ok_s20 (t := 1) (i := 7) (zrow_lstore (md := zmd_290) zh_290 (by decide +kernel) rfl)
theorem zr_290_107 : zOK zPre 290 107 (s_inc (nat_lit 9) (nat_lit 16) (nat_lit 110)) := ok_inc (n := 1) (md := zmd_290) zh_290 (by decide +kernel) rfl (by decide +kernel)
theorem zr_290_110 : zOK zPre 290 110 (s_go (nat_lit 57)) := ok_go (off := -53) (md := zmd_290) zh_290 (by decide +kernel) (by decide +kernel)
theorem zr_290_113 : zOK zPre 290 113 (s_ld_4 (nat_lit 1136) (nat_lit 115)) := zokE (zld_4 _ _) (ok_ld0 (t := 4) (i := 4) (zrow_aload (md := zmd_290) zh_290 (by decide +kernel) rfl))
theorem zr_290_115 : zOK zPre 290 115 (s_ld_3 (nat_lit 45067) (nat_lit 116)) := zokE (zld_3 _ _) (ok_ld0 (t := 0) (i := 3) (zrow_iload_n (k := 3) (md := zmd_290) zh_290 (by decide +kernel) rfl rfl))
theorem zr_290_116 : zOK zPre 290 116 (s_ld (nat_lit 45067) (nat_lit 6) (nat_lit 118)) := ok_ld0 (t := 0) (i := 6) (zrow_iload (md := zmd_290) zh_290 (by decide +kernel) rfl)
theorem zr_290_118 : zOK zPre 290 118 (s_iadd (nat_lit 119)) := ok_iadd (md := zmd_290) zh_290 (by decide +kernel) rfl
theorem zr_290_119 : zOK zPre 290 119 (s_ald (nat_lit 20) (nat_lit 20) (nat_lit 120)) := ok_ald0 (by decide) (by decide) (by decide) (zrow_iaload (md := zmd_290) zh_290 (by decide +kernel) rfl)
theorem zr_290_120 : zOK zPre 290 120 (s_i2l (nat_lit 121)) := ok_i2l (md := zmd_290) zh_290 (by decide +kernel) rfl
theorem zr_290_121 : zOK zPre 290 121 (s_ld (nat_lit 18436) (nat_lit 7) (nat_lit 123)) := ok_ld0 (t := 1) (i := 7) (zrow_lload (md := zmd_290) zh_290 (by decide +kernel) rfl)
theorem zr_290_123 : zOK zPre 290 123 (s_ladd (nat_lit 124)) := ok_ladd (md := zmd_290) zh_290 (by decide +kernel) rfl
theorem zr_290_124 : zOK zPre 290 124 (s_s2 (nat_lit 18436) (nat_lit 9) (nat_lit 126)) := ok_s20 (t := 1) (i := 9) (zrow_lstore (md := zmd_290) zh_290 (by decide +kernel) rfl)
theorem zr_290_126 : zOK zPre 290 126 (s_ld_4 (nat_lit 1136) (nat_lit 128)) := zokE (zld_4 _ _) (ok_ld0 (t := 4) (i := 4) (zrow_aload (md := zmd_290) zh_290 (by decide +kernel) rfl))
theorem zr_290_128 : zOK zPre 290 128 (s_ld_3 (nat_lit 45067) (nat_lit 129)) := zokE (zld_3 _ _) (ok_ld0 (t := 0) (i := 3) (zrow_iload_n (k := 3) (md := zmd_290) zh_290 (by decide +kernel) rfl rfl))
theorem zr_290_129 : zOK zPre 290 129 (s_ld (nat_lit 45067) (nat_lit 6) (nat_lit 131)) := ok_ld0 (t := 0) (i := 6) (zrow_iload (md := zmd_290) zh_290 (by decide +kernel) rfl)
theorem zr_290_131 : zOK zPre 290 131 (s_iadd (nat_lit 132)) := ok_iadd (md := zmd_290) zh_290 (by decide +kernel) rfl
theorem zr_290_132 : zOK zPre 290 132 (s_ld (nat_lit 18436) (nat_lit 9) (nat_lit 134)) := ok_ld0 (t := 1) (i := 9) (zrow_lload (md := zmd_290) zh_290 (by decide +kernel) rfl)
theorem zr_290_134 : zOK zPre 290 134 (s_k (nat_lit 17179869170) (nat_lit 137)) := ok_ldc2 (i := 79) (n := (1073741823 : Int64)) (md := zmd_290) zh_290 (by decide +kernel) rfl zw_4_39 (by decide +kernel)
theorem zr_290_137 : zOK zPre 290 137 (s_land (nat_lit 138)) := ok_land (md := zmd_290) zh_290 (by decide +kernel) rfl
theorem zr_290_138 : zOK zPre 290 138 (s_l2i (nat_lit 139)) := ok_l2i (md := zmd_290) zh_290 (by decide +kernel) rfl
theorem zr_290_139 : zOK zPre 290 139 (s_ast (nat_lit 20) (nat_lit 0) (nat_lit 140)) := ok_astI (Or.inl rfl) (Or.inl rfl) (zrow_iastore (md := zmd_290) zh_290 (by decide +kernel) rfl)
theorem zr_290_140 : zOK zPre 290 140 (s_ld (nat_lit 18436) (nat_lit 9) (nat_lit 142)) := ok_ld0 (t := 1) (i := 9) (zrow_lload (md := zmd_290) zh_290 (by decide +kernel) rfl)
theorem zr_290_142 : zOK zPre 290 142 (s_k (nat_lit 2) (nat_lit 143)) := ok_lconst (n := 0) (md := zmd_290) zh_290 (by decide +kernel) rfl (by decide +kernel)
theorem zr_290_143 : zOK zPre 290 143 (s_lcmp (nat_lit 144)) := ok_lcmp (md := zmd_290) zh_290 (by decide +kernel) rfl
theorem zr_290_144 : zOK zPre 290 144 (s_if (nat_lit 3) zi_ge (nat_lit 151) (nat_lit 147)) := ok_if_ge (off := 7) (md := zmd_290) zh_290 (by decide +kernel) (by decide +kernel) rfl
theorem zr_290_151 : zOK zPre 290 151 (s_k (nat_lit 0) (nat_lit 152)) := ok_iconst (n := 0) (md := zmd_290) zh_290 (by decide +kernel) rfl (by decide +kernel)
theorem zr_290_152 : zOK zPre 290 152 (s_rz (nat_lit 1)) := ok_rz (ft := 1) (Or.inl rfl) (md := zmd_290) zh_290 rfl (by decide +kernel)
theorem zr_291_0 : zOK zPre 291 0 (s_ld_0 (nat_lit 1136) (nat_lit 1)) := zokE (zld_0 _ _) (ok_ld0 (t := 4) (i := 0) (zrow_aload_n (k := 0) (md := zmd_291) zh_291 (by decide +kernel) rfl rfl))
theorem zr_291_1 : zOK zPre 291 1 (s_gf (nat_lit 7) (nat_lit 2) (nat_lit 4)) := ok_gf0 (by decide) (zrow_gf (index := 17) (ref := "Residueworks$Whole") (C := RX8) (T := TX8) (N := 3) (md := zmd_291) zh_291 (by decide +kernel) rfl rfl (by decide) zu_X8 zw_1_69 rfl)
theorem zr_291_4 : zOK zPre 291 4 (s_k (nat_lit 16) (nat_lit 5)) := ok_iconst (n := 1) (md := zmd_291) zh_291 (by decide +kernel) rfl (by decide +kernel)
theorem zr_291_5 : zOK zPre 291 5 (s_ic (nat_lit 1) zu_ne (nat_lit 29) (nat_lit 8)) := ok_ic_ne (off := 24) (md := zmd_291) zh_291 (by decide +kernel) (by decide +kernel) rfl
theorem zr_291_8 : zOK zPre 291 8 (s_ld_0 (nat_lit 1136) (nat_lit 9)) := zokE (zld_0 _ _) (ok_ld0 (t := 4) (i := 0) (zrow_aload_n (k := 0) (md := zmd_291) zh_291 (by decide +kernel) rfl rfl))
theorem zr_291_9 : zOK zPre 291 9 (s_gf (nat_lit 7) (nat_lit 1) (nat_lit 12)) := ok_gf0 (by decide) (zrow_gf (index := 13) (ref := "Residueworks$Whole") (C := RX8) (T := TX8) (N := 3) (md := zmd_291) zh_291 (by decide +kernel) rfl rfl (by decide) zu_X8 zw_1_66 rfl)
theorem zr_291_12 : zOK zPre 291 12 (s_k (nat_lit 16) (nat_lit 13)) := ok_iconst (n := 1) (md := zmd_291) zh_291 (by decide +kernel) rfl (by decide +kernel)
theorem zr_291_13 : zOK zPre 291 13 (s_ic (nat_lit 1) zu_ne (nat_lit 29) (nat_lit 16)) := ok_ic_ne (off := 16) (md := zmd_291) zh_291 (by decide +kernel) (by decide +kernel) rfl
theorem zr_291_16 : zOK zPre 291 16 (s_ld_0 (nat_lit 1136) (nat_lit 17)) := zokE (zld_0 _ _) (ok_ld0 (t := 4) (i := 0) (zrow_aload_n (k := 0) (md := zmd_291) zh_291 (by decide +kernel) rfl rfl))
theorem zr_291_17 : zOK zPre 291 17 (s_k (nat_lit 0) (nat_lit 18)) := ok_iconst (n := 0) (md := zmd_291) zh_291 (by decide +kernel) rfl (by decide +kernel)
theorem zr_291_18 : zOK zPre 291 18 (s_call (nat_lit 7) (nat_lit 29) (nat_lit 2) (nat_lit 2) (nat_lit 1) [] (nat_lit 21)) := ok_call (md := zmd_291) zh_291 zh_29 rfl (by decide) (by decide) (Or.inr (by decide)) zp_29 (zrow_callV (mdc := zmd_29) (index := 49) (md := zmd_291) zh_291 (by decide +kernel) rfl rfl zc_29 rfl (by decide) zw_2_180 zw_2_181 zw_2_182 zw_1_3 zd_29) trivial
theorem zr_291_21 : zOK zPre 291 21 (s_k (nat_lit 16) (nat_lit 22)) := ok_iconst (n := 1) (md := zmd_291) zh_291 (by decide +kernel) rfl (by decide +kernel)
theorem zr_291_22 : zOK zPre 291 22 (s_ic (nat_lit 1) zu_ne (nat_lit 29) (nat_lit 25)) := ok_ic_ne (off := 7) (md := zmd_291) zh_291 (by decide +kernel) (by decide +kernel) rfl
theorem zr_291_25 : zOK zPre 291 25 (s_k (nat_lit 16) (nat_lit 26)) := ok_iconst (n := 1) (md := zmd_291) zh_291 (by decide +kernel) rfl (by decide +kernel)
theorem zr_291_26 : zOK zPre 291 26 (s_go (nat_lit 30)) := ok_go (off := 4) (md := zmd_291) zh_291 (by decide +kernel) (by decide +kernel)
theorem zr_291_30 : zOK zPre 291 30 (s_rz (nat_lit 1)) := ok_rz (ft := 1) (Or.inl rfl) (md := zmd_291) zh_291 rfl (by decide +kernel)
theorem zr_292_0 : zOK zPre 292 0 (s_ld_0 (nat_lit 1136) (nat_lit 1)) := zokE (zld_0 _ _) (ok_ld0 (t := 4) (i := 0) (zrow_aload_n (k := 0) (md := zmd_292) zh_292 (by decide +kernel) rfl rfl))
theorem zr_292_1 : zOK zPre 292 1 (s_gf (nat_lit 2) (nat_lit 7) (nat_lit 4)) := ok_gf0 (by decide) (zrow_gf (index := 38) (ref := "Residueworks$Residues") (C := RX2) (T := TX2) (N := 11) (md := zmd_292) zh_292 (by decide +kernel) rfl rfl (by decide) zu_X2 zw_1_167 rfl)
theorem zr_292_4 : zOK zPre 292 4 (s_s1_3 (nat_lit 1136) (nat_lit 5)) := zokE (zs1_3 _ _) (ok_s10 (t := 4) (i := 3) (zrow_astore_n (k := 3) (md := zmd_292) zh_292 (by decide +kernel) rfl rfl))
theorem zr_292_5 : zOK zPre 292 5 (s_ld_0 (nat_lit 1136) (nat_lit 6)) := zokE (zld_0 _ _) (ok_ld0 (t := 4) (i := 0) (zrow_aload_n (k := 0) (md := zmd_292) zh_292 (by decide +kernel) rfl rfl))
theorem zr_292_6 : zOK zPre 292 6 (s_gf (nat_lit 2) (nat_lit 8) (nat_lit 9)) := ok_gf0 (by decide) (zrow_gf (index := 41) (ref := "Residueworks$Residues") (C := RX2) (T := TX2) (N := 11) (md := zmd_292) zh_292 (by decide +kernel) rfl rfl (by decide) zu_X2 zw_1_168 rfl)
theorem zr_292_9 : zOK zPre 292 9 (s_s1_4 (nat_lit 1136) (nat_lit 11)) := zokE (zs1_4 _ _) (ok_s10 (t := 4) (i := 4) (zrow_astore (md := zmd_292) zh_292 (by decide +kernel) rfl))
theorem zr_292_11 : zOK zPre 292 11 (s_ld_0 (nat_lit 1136) (nat_lit 12)) := zokE (zld_0 _ _) (ok_ld0 (t := 4) (i := 0) (zrow_aload_n (k := 0) (md := zmd_292) zh_292 (by decide +kernel) rfl rfl))
theorem zr_292_12 : zOK zPre 292 12 (s_gf (nat_lit 2) (nat_lit 4) (nat_lit 15)) := ok_gf0 (by decide) (zrow_gf (index := 28) (ref := "Residueworks$Residues") (C := RX2) (T := TX2) (N := 11) (md := zmd_292) zh_292 (by decide +kernel) rfl rfl (by decide) zu_X2 zw_1_164 rfl)
theorem zr_292_15 : zOK zPre 292 15 (s_ld_1 (nat_lit 1136) (nat_lit 16)) := zokE (zld_1 _ _) (ok_ld0 (t := 4) (i := 1) (zrow_aload_n (k := 1) (md := zmd_292) zh_292 (by decide +kernel) rfl rfl))
theorem zr_292_16 : zOK zPre 292 16 (s_ld_2 (nat_lit 1136) (nat_lit 17)) := zokE (zld_2 _ _) (ok_ld0 (t := 4) (i := 2) (zrow_aload_n (k := 2) (md := zmd_292) zh_292 (by decide +kernel) rfl rfl))
theorem zr_292_17 : zOK zPre 292 17 (s_call (nat_lit 1) (nat_lit 274) (nat_lit 3) (nat_lit 3) (nat_lit 0) [] (nat_lit 20)) := ok_call (md := zmd_292) zh_292 zh_274 rfl (by decide) (by decide) (Or.inr (by decide)) zp_274 (zrow_callV (mdc := zmd_274) (index := 50) (md := zmd_292) zh_292 (by decide +kernel) rfl rfl zc_274 rfl (by decide) zw_5_57 zw_4_54 zw_4_55 zw_1_5 zd_274) trivial
theorem zr_292_20 : zOK zPre 292 20 (s_ld_3 (nat_lit 1136) (nat_lit 21)) := zokE (zld_3 _ _) (ok_ld0 (t := 4) (i := 3) (zrow_aload_n (k := 3) (md := zmd_292) zh_292 (by decide +kernel) rfl rfl))
theorem zr_292_21 : zOK zPre 292 21 (s_ld_0 (nat_lit 1136) (nat_lit 22)) := zokE (zld_0 _ _) (ok_ld0 (t := 4) (i := 0) (zrow_aload_n (k := 0) (md := zmd_292) zh_292 (by decide +kernel) rfl rfl))
theorem zr_292_22 : zOK zPre 292 22 (s_gf (nat_lit 2) (nat_lit 4) (nat_lit 25)) := ok_gf0 (by decide) (zrow_gf (index := 28) (ref := "Residueworks$Residues") (C := RX2) (T := TX2) (N := 11) (md := zmd_292) zh_292 (by decide +kernel) rfl rfl (by decide) zu_X2 zw_1_164 rfl)
theorem zr_292_25 : zOK zPre 292 25 (s_gf (nat_lit 1) (nat_lit 1) (nat_lit 28)) := ok_gf0 (by decide) (zrow_gf (index := 54) (ref := "Residueworks$Division") (C := RX1) (T := TX1) (N := 3) (md := zmd_292) zh_292 (by decide +kernel) rfl rfl (by decide) zu_X1 zw_1_129 rfl)
theorem zr_292_28 : zOK zPre 292 28 (s_call (nat_lit 7) (nat_lit 49) (nat_lit 2) (nat_lit 2) (nat_lit 0) [] (nat_lit 31)) := ok_call (md := zmd_292) zh_292 zh_49 rfl (by decide) (by decide) (Or.inr (by decide)) zp_49 (zrow_callV (mdc := zmd_49) (index := 57) (md := zmd_292) zh_292 (by decide +kernel) rfl rfl zc_49 rfl (by decide) zw_4_69 zw_3_133 zw_3_134 zw_1_3 zd_49) trivial
theorem zr_292_31 : zOK zPre 292 31 (s_ld_4 (nat_lit 1136) (nat_lit 33)) := zokE (zld_4 _ _) (ok_ld0 (t := 4) (i := 4) (zrow_aload (md := zmd_292) zh_292 (by decide +kernel) rfl))
theorem zr_292_33 : zOK zPre 292 33 (s_ld_2 (nat_lit 1136) (nat_lit 34)) := zokE (zld_2 _ _) (ok_ld0 (t := 4) (i := 2) (zrow_aload_n (k := 2) (md := zmd_292) zh_292 (by decide +kernel) rfl rfl))
theorem zr_292_34 : zOK zPre 292 34 (s_call (nat_lit 7) (nat_lit 49) (nat_lit 2) (nat_lit 2) (nat_lit 0) [] (nat_lit 37)) := ok_call (md := zmd_292) zh_292 zh_49 rfl (by decide) (by decide) (Or.inr (by decide)) zp_49 (zrow_callV (mdc := zmd_49) (index := 57) (md := zmd_292) zh_292 (by decide +kernel) rfl rfl zc_49 rfl (by decide) zw_4_69 zw_3_133 zw_3_134 zw_1_3 zd_49) trivial
theorem zr_292_37 : zOK zPre 292 37 (s_k (nat_lit 16) (nat_lit 38)) := ok_iconst (n := 1) (md := zmd_292) zh_292 (by decide +kernel) rfl (by decide +kernel)
theorem zr_292_38 : zOK zPre 292 38 (s_s1_5 (nat_lit 45067) (nat_lit 40)) := zokE (zs1_5 _ _) (ok_s10 (t := 0) (i := 5) (zrow_istore (md := zmd_292) zh_292 (by decide +kernel) rfl))
theorem zr_292_40 : zOK zPre 292 40 (s_k (nat_lit 0) (nat_lit 41)) := ok_iconst (n := 0) (md := zmd_292) zh_292 (by decide +kernel) rfl (by decide +kernel)
theorem zr_292_41 : zOK zPre 292 41 (s_s1 (nat_lit 45067) (nat_lit 6) (nat_lit 43)) := ok_s10 (t := 0) (i := 6) (zrow_istore (md := zmd_292) zh_292 (by decide +kernel) rfl)
theorem zr_292_43 : zOK zPre 292 43 (s_ld (nat_lit 45067) (nat_lit 6) (nat_lit 45)) := ok_ld0 (t := 0) (i := 6) (zrow_iload (md := zmd_292) zh_292 (by decide +kernel) rfl)
theorem zr_292_45 : zOK zPre 292 45 (s_k (nat_lit 32000) (nat_lit 48)) := ok_sipush (n := 2000) (md := zmd_292) zh_292 (by decide +kernel) rfl (by decide +kernel)
theorem zr_292_48 : zOK zPre 292 48 (s_ic (nat_lit 3) zu_ge (nat_lit 168) (nat_lit 51)) := ok_ic_ge (off := 120) (md := zmd_292) zh_292 (by decide +kernel) (by decide +kernel) rfl
theorem zr_292_51 : zOK zPre 292 51 (s_ld_3 (nat_lit 1136) (nat_lit 52)) := zokE (zld_3 _ _) (ok_ld0 (t := 4) (i := 3) (zrow_aload_n (k := 3) (md := zmd_292) zh_292 (by decide +kernel) rfl rfl))
theorem zr_292_52 : zOK zPre 292 52 (s_gf (nat_lit 7) (nat_lit 2) (nat_lit 55)) := ok_gf0 (by decide) (zrow_gf (index := 82) (ref := "Residueworks$Whole") (C := RX8) (T := TX8) (N := 3) (md := zmd_292) zh_292 (by decide +kernel) rfl rfl (by decide) zu_X8 zw_1_70 rfl)
theorem zr_292_55 : zOK zPre 292 55 (s_if (nat_lit 0) zi_eq (nat_lit 168) (nat_lit 58)) := ok_if_eq (off := 113) (md := zmd_292) zh_292 (by decide +kernel) (by decide +kernel) rfl
theorem zr_292_168 : zOK zPre 292 168 (s_ld_4 (nat_lit 1136) (nat_lit 170)) := zokE (zld_4 _ _) (ok_ld0 (t := 4) (i := 4) (zrow_aload (md := zmd_292) zh_292 (by decide +kernel) rfl))
theorem zr_292_170 : zOK zPre 292 170 (s_call (nat_lit 7) (nat_lit 291) (nat_lit 1) (nat_lit 1) (nat_lit 1) [] (nat_lit 173)) := ok_call (md := zmd_292) zh_292 zh_291 rfl (by decide) (by decide) (Or.inr (by decide)) zp_291 (zrow_callV (mdc := zmd_291) (index := 92) (md := zmd_292) zh_292 (by decide +kernel) rfl rfl zc_291 rfl (by decide) zw_5_59 zw_5_60 zw_5_61 zw_1_3 zd_291) trivial
theorem zr_292_173 : zOK zPre 292 173 (s_if (nat_lit 0) zi_eq (nat_lit 181) (nat_lit 176)) := ok_if_eq (off := 8) (md := zmd_292) zh_292 (by decide +kernel) (by decide +kernel) rfl
theorem zr_292_176 : zOK zPre 292 176 (s_ld_5 (nat_lit 45067) (nat_lit 178)) := zokE (zld_5 _ _) (ok_ld0 (t := 0) (i := 5) (zrow_iload (md := zmd_292) zh_292 (by decide +kernel) rfl))
theorem zr_292_178 : zOK zPre 292 178 (s_go (nat_lit 182)) := ok_go (off := 4) (md := zmd_292) zh_292 (by decide +kernel) (by decide +kernel)
theorem zr_292_182 : zOK zPre 292 182 (s_ret (nat_lit 45067)) := ok_ret0 (t := 0) (i := .ireturn) (ty := .int) (md := zmd_292) zh_292 rfl (by decide +kernel) ⟨rfl, rfl⟩
theorem zr_293_0 : zOK zPre 293 0 (s_ld_2 (nat_lit 1136) (nat_lit 1)) := zokE (zld_2 _ _) (ok_ld0 (t := 4) (i := 2) (zrow_aload_n (k := 2) (md := zmd_293) zh_293 (by decide +kernel) rfl rfl))
theorem zr_293_1 : zOK zPre 293 1 (s_k (nat_lit 48) (nat_lit 2)) := ok_iconst (n := 3) (md := zmd_293) zh_293 (by decide +kernel) rfl (by decide +kernel)
theorem zr_293_2 : zOK zPre 293 2 (s_k (nat_lit 16777200) (nat_lit 4)) := ok_ldc (i := 227) (n := (1048575 : Int32)) (md := zmd_293) zh_293 (by decide +kernel) rfl zw_6_134 (by decide +kernel)
theorem zr_293_4 : zOK zPre 293 4 (s_call (nat_lit 7) (nat_lit 219) (nat_lit 3) (nat_lit 3) (nat_lit 1) [] (nat_lit 7)) := ok_call (md := zmd_293) zh_293 zh_219 rfl (by decide) (by decide) (Or.inr (by decide)) zp_219 (zrow_callV (mdc := zmd_219) (index := 228) (md := zmd_293) zh_293 (by decide +kernel) rfl rfl zc_219 rfl (by decide) zw_6_135 zw_5_111 zw_5_112 zw_1_3 zd_219) trivial
theorem zr_293_7 : zOK zPre 293 7 (s_s1_4 (nat_lit 45067) (nat_lit 9)) := zokE (zs1_4 _ _) (ok_s10 (t := 0) (i := 4) (zrow_istore (md := zmd_293) zh_293 (by decide +kernel) rfl))
theorem zr_293_9 : zOK zPre 293 9 (s_ld_4 (nat_lit 45067) (nat_lit 11)) := zokE (zld_4 _ _) (ok_ld0 (t := 0) (i := 4) (zrow_iload (md := zmd_293) zh_293 (by decide +kernel) rfl))
theorem zr_293_11 : zOK zPre 293 11 (s_if (nat_lit 2) zi_lt (nat_lit 22) (nat_lit 14)) := ok_if_lt (off := 11) (md := zmd_293) zh_293 (by decide +kernel) (by decide +kernel) rfl
theorem zr_293_22 : zOK zPre 293 22 (s_k (nat_lit 16) (nat_lit 23)) := ok_iconst (n := 1) (md := zmd_293) zh_293 (by decide +kernel) rfl (by decide +kernel)
theorem zr_293_23 : zOK zPre 293 23 (s_rz (nat_lit 1)) := ok_rz (ft := 1) (Or.inl rfl) (md := zmd_293) zh_293 rfl (by decide +kernel)
theorem zr_294_0 : zOK zPre 294 0 (s_ld_0 (nat_lit 1136) (nat_lit 1)) := zokE (zld_0 _ _) (ok_ld0 (t := 4) (i := 0) (zrow_aload_n (k := 0) (md := zmd_294) zh_294 (by decide +kernel) rfl rfl))
theorem zr_294_1 : zOK zPre 294 1 (s_gf (nat_lit 7) (nat_lit 2) (nat_lit 4)) := ok_gf0 (by decide) (zrow_gf (index := 17) (ref := "Residueworks$Whole") (C := RX8) (T := TX8) (N := 3) (md := zmd_294) zh_294 (by decide +kernel) rfl rfl (by decide) zu_X8 zw_1_69 rfl)
theorem zr_294_4 : zOK zPre 294 4 (s_k (nat_lit 16) (nat_lit 5)) := ok_iconst (n := 1) (md := zmd_294) zh_294 (by decide +kernel) rfl (by decide +kernel)
theorem zr_294_5 : zOK zPre 294 5 (s_ic (nat_lit 1) zu_ne (nat_lit 19) (nat_lit 8)) := ok_ic_ne (off := 14) (md := zmd_294) zh_294 (by decide +kernel) (by decide +kernel) rfl
theorem zr_294_19 : zOK zPre 294 19 (s_k (nat_lit 0) (nat_lit 20)) := ok_iconst (n := 0) (md := zmd_294) zh_294 (by decide +kernel) rfl (by decide +kernel)
theorem zr_294_20 : zOK zPre 294 20 (s_rz (nat_lit 1)) := ok_rz (ft := 1) (Or.inl rfl) (md := zmd_294) zh_294 rfl (by decide +kernel)
theorem zr_295_0 : zOK zPre 295 0 (s_ld_0 (nat_lit 1136) (nat_lit 1)) := zokE (zld_0 _ _) (ok_ld0 (t := 4) (i := 0) (zrow_aload_n (k := 0) (md := zmd_295) zh_295 (by decide +kernel) rfl rfl))
theorem zr_295_1 : zOK zPre 295 1 (s_gf (nat_lit 7) (nat_lit 2) (nat_lit 4)) := ok_gf0 (by decide) (zrow_gf (index := 17) (ref := "Residueworks$Whole") (C := RX8) (T := TX8) (N := 3) (md := zmd_295) zh_295 (by decide +kernel) rfl rfl (by decide) zu_X8 zw_1_69 rfl)
theorem zr_295_4 : zOK zPre 295 4 (s_if (nat_lit 3) zi_ge (nat_lit 16) (nat_lit 7)) := ok_if_ge (off := 12) (md := zmd_295) zh_295 (by decide +kernel) (by decide +kernel) rfl
theorem zr_295_16 : zOK zPre 295 16 (s_k (nat_lit 0) (nat_lit 17)) := ok_iconst (n := 0) (md := zmd_295) zh_295 (by decide +kernel) rfl (by decide +kernel)
theorem zr_295_17 : zOK zPre 295 17 (s_s1_1 (nat_lit 45067) (nat_lit 18)) := zokE (zs1_1 _ _) (ok_s10 (t := 0) (i := 1) (zrow_istore_n (k := 1) (md := zmd_295) zh_295 (by decide +kernel) rfl rfl))
theorem zr_295_18 : zOK zPre 295 18 (s_k (nat_lit 0) (nat_lit 19)) := ok_iconst (n := 0) (md := zmd_295) zh_295 (by decide +kernel) rfl (by decide +kernel)
theorem zr_295_19 : zOK zPre 295 19 (s_s1_2 (nat_lit 45067) (nat_lit 20)) := zokE (zs1_2 _ _) (ok_s10 (t := 0) (i := 2) (zrow_istore_n (k := 2) (md := zmd_295) zh_295 (by decide +kernel) rfl rfl))
theorem zr_295_20 : zOK zPre 295 20 (s_ld_2 (nat_lit 45067) (nat_lit 21)) := zokE (zld_2 _ _) (ok_ld0 (t := 0) (i := 2) (zrow_iload_n (k := 2) (md := zmd_295) zh_295 (by decide +kernel) rfl rfl))
theorem zr_295_21 : zOK zPre 295 21 (s_ld_0 (nat_lit 1136) (nat_lit 22)) := zokE (zld_0 _ _) (ok_ld0 (t := 4) (i := 0) (zrow_aload_n (k := 0) (md := zmd_295) zh_295 (by decide +kernel) rfl rfl))
theorem zr_295_22 : zOK zPre 295 22 (s_gf (nat_lit 7) (nat_lit 1) (nat_lit 25)) := ok_gf0 (by decide) (zrow_gf (index := 13) (ref := "Residueworks$Whole") (C := RX8) (T := TX8) (N := 3) (md := zmd_295) zh_295 (by decide +kernel) rfl rfl (by decide) zu_X8 zw_1_66 rfl)
theorem zr_295_25 : zOK zPre 295 25 (s_ic (nat_lit 3) zu_ge (nat_lit 45) (nat_lit 28)) := ok_ic_ge (off := 20) (md := zmd_295) zh_295 (by decide +kernel) (by decide +kernel) rfl
theorem zr_295_45 : zOK zPre 295 45 (s_ld_1 (nat_lit 45067) (nat_lit 46)) := zokE (zld_1 _ _) (ok_ld0 (t := 0) (i := 1) (zrow_iload_n (k := 1) (md := zmd_295) zh_295 (by decide +kernel) rfl rfl))
theorem zr_295_46 : zOK zPre 295 46 (s_ret (nat_lit 45067)) := ok_ret0 (t := 0) (i := .ireturn) (ty := .int) (md := zmd_295) zh_295 rfl (by decide +kernel) ⟨rfl, rfl⟩
theorem zr_296_0 : zOK zPre 296 0 (s_k (nat_lit 0) (nat_lit 1)) := ok_iconst (n := 0) (md := zmd_296) zh_296 (by decide +kernel) rfl (by decide +kernel)
theorem zr_296_1 : zOK zPre 296 1 (s_s1_1 (nat_lit 45067) (nat_lit 2)) := zokE (zs1_1 _ _) (ok_s10 (t := 0) (i := 1) (zrow_istore_n (k := 1) (md := zmd_296) zh_296 (by decide +kernel) rfl rfl))
theorem zr_296_2 : zOK zPre 296 2 (s_ld_0 (nat_lit 1136) (nat_lit 3)) := zokE (zld_0 _ _) (ok_ld0 (t := 4) (i := 0) (zrow_aload_n (k := 0) (md := zmd_296) zh_296 (by decide +kernel) rfl rfl))
theorem zr_296_3 : zOK zPre 296 3 (s_call (nat_lit 9) (nat_lit 37) (nat_lit 1) (nat_lit 1) (nat_lit 1) [] (nat_lit 6)) := ok_call (md := zmd_296) zh_296 zh_37 rfl (by decide) (by decide) (Or.inr (by decide)) zp_37 (zrow_callVN (mdc := zmd_37) (index := 205) (md := zmd_296) zh_296 (by decide +kernel) rfl rfl zc_37 rfl (by decide) zw_8_27 zw_7_95 zws_36 zw_1_19 zd_37) trivial
theorem zr_296_6 : zOK zPre 296 6 (s_s1_2 (nat_lit 1136) (nat_lit 7)) := zokE (zs1_2 _ _) (ok_s10 (t := 4) (i := 2) (zrow_astore_n (k := 2) (md := zmd_296) zh_296 (by decide +kernel) rfl rfl))
theorem zr_296_7 : zOK zPre 296 7 (s_ld_2 (nat_lit 1136) (nat_lit 8)) := zokE (zld_2 _ _) (ok_ld0 (t := 4) (i := 2) (zrow_aload_n (k := 2) (md := zmd_296) zh_296 (by decide +kernel) rfl rfl))
theorem zr_296_8 : zOK zPre 296 8 (s_al (nat_lit 9)) := ok_al (md := zmd_296) zh_296 (by decide +kernel) rfl
theorem zr_296_9 : zOK zPre 296 9 (s_s1_3 (nat_lit 45067) (nat_lit 10)) := zokE (zs1_3 _ _) (ok_s10 (t := 0) (i := 3) (zrow_istore_n (k := 3) (md := zmd_296) zh_296 (by decide +kernel) rfl rfl))
theorem zr_296_10 : zOK zPre 296 10 (s_k (nat_lit 0) (nat_lit 11)) := ok_iconst (n := 0) (md := zmd_296) zh_296 (by decide +kernel) rfl (by decide +kernel)
theorem zr_296_11 : zOK zPre 296 11 (s_s1_4 (nat_lit 45067) (nat_lit 13)) := zokE (zs1_4 _ _) (ok_s10 (t := 0) (i := 4) (zrow_istore (md := zmd_296) zh_296 (by decide +kernel) rfl))
theorem zr_296_13 : zOK zPre 296 13 (s_ld_4 (nat_lit 45067) (nat_lit 15)) := zokE (zld_4 _ _) (ok_ld0 (t := 0) (i := 4) (zrow_iload (md := zmd_296) zh_296 (by decide +kernel) rfl))
theorem zr_296_15 : zOK zPre 296 15 (s_ld_3 (nat_lit 45067) (nat_lit 16)) := zokE (zld_3 _ _) (ok_ld0 (t := 0) (i := 3) (zrow_iload_n (k := 3) (md := zmd_296) zh_296 (by decide +kernel) rfl rfl))
theorem zr_296_16 : zOK zPre 296 16 (s_ic (nat_lit 3) zu_ge (nat_lit 39) (nat_lit 19)) := ok_ic_ge (off := 23) (md := zmd_296) zh_296 (by decide +kernel) (by decide +kernel) rfl
theorem zr_296_39 : zOK zPre 296 39 (s_ld_1 (nat_lit 45067) (nat_lit 40)) := zokE (zld_1 _ _) (ok_ld0 (t := 0) (i := 1) (zrow_iload_n (k := 1) (md := zmd_296) zh_296 (by decide +kernel) rfl rfl))
theorem zr_296_40 : zOK zPre 296 40 (s_ret (nat_lit 45067)) := ok_ret0 (t := 0) (i := .ireturn) (ty := .int) (md := zmd_296) zh_296 rfl (by decide +kernel) ⟨rfl, rfl⟩
theorem zr_0_0 : zOK zPre 0 0 (s_new (nat_lit 8) (nat_lit 10) [(nat_lit 5), (nat_lit 5), (nat_lit 5), (nat_lit 5), (nat_lit 5), (nat_lit 5), (nat_lit 5), (nat_lit 5), (nat_lit 5), (nat_lit 5)] (nat_lit 3)) := ok_new0 (fsV := zfv_X9) (by decide) zfs_X9 (zrow_new (index := 8) (C := RX9) (T := TX9) (N := 10) (ty0 := tyX9) (md := zmd_0) zh_0 (by decide +kernel) rfl rfl zu_X9 tyX9_ok zw_1_42 zw_1_43 zw_1_1 zdf_X9)
theorem zr_0_3 : zOK zPre 0 3 (s_dup (nat_lit 4)) := ok_dup (md := zmd_0) zh_0 (by decide +kernel) rfl
theorem zr_0_4 : zOK zPre 0 4 (s_call (nat_lit 8) (nat_lit 1) (nat_lit 2) (nat_lit 1) (nat_lit 0) [] (nat_lit 7)) := ok_call (md := zmd_0) zh_0 zh_1 rfl (by decide) (by decide) (Or.inr (by decide)) zp_1 (zrow_callI (mdc := zmd_1) (index := 143) (md := zmd_0) zh_0 (by decide +kernel) rfl rfl rfl rfl zc_1 (by decide) zw_1_44 zw_1_45 zw_1_1 zd_1) trivial
theorem zr_0_7 : zOK zPre 0 7 (s_s1_1 (nat_lit 1136) (nat_lit 8)) := zokE (zs1_1 _ _) (ok_s10 (t := 4) (i := 1) (zrow_astore_n (k := 1) (md := zmd_0) zh_0 (by decide +kernel) rfl rfl))
theorem zr_0_8 : zOK zPre 0 8 (s_new (nat_lit 10) (nat_lit 6) [(nat_lit 5), (nat_lit 5), (nat_lit 5), (nat_lit 5), (nat_lit 5), (nat_lit 0)] (nat_lit 11)) := ok_new0 (fsV := zfv_X11) (by decide) zfs_X11 (zrow_new (index := 144) (C := RX11) (T := TX11) (N := 6) (ty0 := tyX11) (md := zmd_0) zh_0 (by decide +kernel) rfl rfl zu_X11 tyX11_ok zw_6_193 zw_6_194 zw_1_10 zdf_X11)
theorem zr_0_11 : zOK zPre 0 11 (s_dup (nat_lit 12)) := ok_dup (md := zmd_0) zh_0 (by decide +kernel) rfl
theorem zr_0_12 : zOK zPre 0 12 (s_call (nat_lit 10) (nat_lit 14) (nat_lit 2) (nat_lit 1) (nat_lit 0) [] (nat_lit 15)) := ok_call (md := zmd_0) zh_0 zh_14 rfl (by decide) (by decide) (Or.inr (by decide)) zp_14 (zrow_callI (mdc := zmd_14) (index := 146) (md := zmd_0) zh_0 (by decide +kernel) rfl rfl rfl rfl zc_14 (by decide) zw_6_195 zw_6_196 zw_1_10 zd_14) trivial
theorem zr_0_15 : zOK zPre 0 15 (s_s1_2 (nat_lit 1136) (nat_lit 16)) := zokE (zs1_2 _ _) (ok_s10 (t := 4) (i := 2) (zrow_astore_n (k := 2) (md := zmd_0) zh_0 (by decide +kernel) rfl rfl))
theorem zr_0_16 : zOK zPre 0 16 (s_k (nat_lit 16) (nat_lit 17)) := ok_iconst (n := 1) (md := zmd_0) zh_0 (by decide +kernel) rfl (by decide +kernel)
theorem zr_0_17 : zOK zPre 0 17 (s_na (nat_lit 21) (nat_lit 2) (nat_lit 19)) := ok_na0 (by decide) rfl (zrow_na21 (md := zmd_0) zh_0 (by decide +kernel) rfl zw_11_40)
theorem zr_0_19 : zOK zPre 0 19 (s_s1_3 (nat_lit 1136) (nat_lit 20)) := zokE (zs1_3 _ _) (ok_s10 (t := 4) (i := 3) (zrow_astore_n (k := 3) (md := zmd_0) zh_0 (by decide +kernel) rfl rfl))
theorem zr_0_20 : zOK zPre 0 20 (s_k (nat_lit 16) (nat_lit 21)) := ok_iconst (n := 1) (md := zmd_0) zh_0 (by decide +kernel) rfl (by decide +kernel)
theorem zr_0_21 : zOK zPre 0 21 (s_na (nat_lit 24) (nat_lit 7) (nat_lit 23)) := ok_na0 (by decide) rfl (zrow_na24 (md := zmd_0) zh_0 (by decide +kernel) rfl zw_11_41)
theorem zr_0_23 : zOK zPre 0 23 (s_s1_4 (nat_lit 1136) (nat_lit 25)) := zokE (zs1_4 _ _) (ok_s10 (t := 4) (i := 4) (zrow_astore (md := zmd_0) zh_0 (by decide +kernel) rfl))
theorem zr_0_25 : zOK zPre 0 25 (s_k (nat_lit 0) (nat_lit 26)) := ok_iconst (n := 0) (md := zmd_0) zh_0 (by decide +kernel) rfl (by decide +kernel)
theorem zr_0_26 : zOK zPre 0 26 (s_s1_5 (nat_lit 45067) (nat_lit 28)) := zokE (zs1_5 _ _) (ok_s10 (t := 0) (i := 5) (zrow_istore (md := zmd_0) zh_0 (by decide +kernel) rfl))
theorem zr_0_28 : zOK zPre 0 28 (s_ld_5 (nat_lit 45067) (nat_lit 30)) := zokE (zld_5 _ _) (ok_ld0 (t := 0) (i := 5) (zrow_iload (md := zmd_0) zh_0 (by decide +kernel) rfl))
theorem zr_0_30 : zOK zPre 0 30 (s_ld_0 (nat_lit 1136) (nat_lit 31)) := zokE (zld_0 _ _) (ok_ld0 (t := 4) (i := 0) (zrow_aload_n (k := 0) (md := zmd_0) zh_0 (by decide +kernel) rfl rfl))
theorem zr_0_31 : zOK zPre 0 31 (s_al (nat_lit 32)) := ok_al (md := zmd_0) zh_0 (by decide +kernel) rfl
theorem zr_0_32 : zOK zPre 0 32 (s_k (nat_lit 80) (nat_lit 33)) := ok_iconst (n := 5) (md := zmd_0) zh_0 (by decide +kernel) rfl (by decide +kernel)
theorem zr_0_33 : zOK zPre 0 33 (s_isub (nat_lit 34)) := ok_isub (md := zmd_0) zh_0 (by decide +kernel) rfl
theorem zr_0_34 : zOK zPre 0 34 (s_ic (nat_lit 4) zu_gt (nat_lit 2919) (nat_lit 37)) := ok_ic_gt (off := 2885) (md := zmd_0) zh_0 (by decide +kernel) (by decide +kernel) rfl
theorem zr_0_37 : zOK zPre 0 37 (s_ld_0 (nat_lit 1136) (nat_lit 38)) := zokE (zld_0 _ _) (ok_ld0 (t := 4) (i := 0) (zrow_aload_n (k := 0) (md := zmd_0) zh_0 (by decide +kernel) rfl rfl))
theorem zr_0_38 : zOK zPre 0 38 (s_ld_5 (nat_lit 45067) (nat_lit 40)) := zokE (zld_5 _ _) (ok_ld0 (t := 0) (i := 5) (zrow_iload (md := zmd_0) zh_0 (by decide +kernel) rfl))
theorem zr_0_40 : zOK zPre 0 40 (s_sld (nat_lit 41)) := ok_sld (md := zmd_0) zh_0 (by decide +kernel) rfl
theorem zr_0_41 : zOK zPre 0 41 (s_k (nat_lit 1008) (nat_lit 43)) := ok_bipush (n := 63) (md := zmd_0) zh_0 (by decide +kernel) rfl (by decide +kernel)
theorem zr_0_43 : zOK zPre 0 43 (s_iand (nat_lit 44)) := ok_iand (md := zmd_0) zh_0 (by decide +kernel) rfl
theorem zr_0_44 : zOK zPre 0 44 (s_sw [((nat_lit 0), (nat_lit 224)), ((nat_lit 16), (nat_lit 324)), ((nat_lit 32), (nat_lit 424)), ((nat_lit 48), (nat_lit 492)), ((nat_lit 64), (nat_lit 559)), ((nat_lit 80), (nat_lit 629)), ((nat_lit 96), (nat_lit 685)), ((nat_lit 112), (nat_lit 753)), ((nat_lit 128), (nat_lit 847)), ((nat_lit 144), (nat_lit 929)), ((nat_lit 160), (nat_lit 1009)), ((nat_lit 176), (nat_lit 1084)), ((nat_lit 192), (nat_lit 1166)), ((nat_lit 208), (nat_lit 1246)), ((nat_lit 224), (nat_lit 1338)), ((nat_lit 240), (nat_lit 1396)), ((nat_lit 256), (nat_lit 1409)), ((nat_lit 272), (nat_lit 1465)), ((nat_lit 288), (nat_lit 1533)), ((nat_lit 304), (nat_lit 1601)), ((nat_lit 320), (nat_lit 1657)), ((nat_lit 336), (nat_lit 1670)), ((nat_lit 352), (nat_lit 1726)), ((nat_lit 368), (nat_lit 1782)), ((nat_lit 384), (nat_lit 1838)), ((nat_lit 400), (nat_lit 1930)), ((nat_lit 416), (nat_lit 2010)), ((nat_lit 432), (nat_lit 2078)), ((nat_lit 448), (nat_lit 2134)), ((nat_lit 464), (nat_lit 2202)), ((nat_lit 480), (nat_lit 2258)), ((nat_lit 496), (nat_lit 2321)), ((nat_lit 512), (nat_lit 2401)), ((nat_lit 528), (nat_lit 2469)), ((nat_lit 544), (nat_lit 2544)), ((nat_lit 560), (nat_lit 2557)), ((nat_lit 576), (nat_lit 2637)), ((nat_lit 592), (nat_lit 2693)), ((nat_lit 608), (nat_lit 2771)), ((nat_lit 624), (nat_lit 2812)), ((nat_lit 640), (nat_lit 2826))] (nat_lit 2913)) := ok_table (dflt := 2869) (lo := 0) (hi := 40) (offs := #[180, 280, 380, 448, 515, 585, 641, 709, 803, 885, 965, 1040, 1122, 1202, 1294, 1352, 1365, 1421, 1489, 1557, 1613, 1626, 1682, 1738, 1794, 1886, 1966, 2034, 2090, 2158, 2214, 2277, 2357, 2425, 2500, 2513, 2593, 2649, 2727, 2768, 2782]) (len := 180) (md := zmd_0) zh_0 (by decide +kernel) (by decide +kernel) (by decide +kernel) (by decide +kernel)
theorem zr_0_224 : zOK zPre 0 224 (s_ld_1 (nat_lit 1136) (nat_lit 225)) := zokE (zld_1 _ _) (ok_ld0 (t := 4) (i := 1) (zrow_aload_n (k := 1) (md := zmd_0) zh_0 (by decide +kernel) rfl rfl))
theorem zr_0_225 : zOK zPre 0 225 (s_ld_0 (nat_lit 1136) (nat_lit 226)) := zokE (zld_0 _ _) (ok_ld0 (t := 4) (i := 0) (zrow_aload_n (k := 0) (md := zmd_0) zh_0 (by decide +kernel) rfl rfl))
theorem zr_0_226 : zOK zPre 0 226 (s_ld_5 (nat_lit 45067) (nat_lit 228)) := zokE (zld_5 _ _) (ok_ld0 (t := 0) (i := 5) (zrow_iload (md := zmd_0) zh_0 (by decide +kernel) rfl))
theorem zr_0_228 : zOK zPre 0 228 (s_k (nat_lit 16) (nat_lit 229)) := ok_iconst (n := 1) (md := zmd_0) zh_0 (by decide +kernel) rfl (by decide +kernel)
theorem zr_0_229 : zOK zPre 0 229 (s_iadd (nat_lit 230)) := ok_iadd (md := zmd_0) zh_0 (by decide +kernel) rfl
theorem zr_0_230 : zOK zPre 0 230 (s_sld (nat_lit 231)) := ok_sld (md := zmd_0) zh_0 (by decide +kernel) rfl
theorem zr_0_231 : zOK zPre 0 231 (s_ld_0 (nat_lit 1136) (nat_lit 232)) := zokE (zld_0 _ _) (ok_ld0 (t := 4) (i := 0) (zrow_aload_n (k := 0) (md := zmd_0) zh_0 (by decide +kernel) rfl rfl))
theorem zr_0_232 : zOK zPre 0 232 (s_ld_5 (nat_lit 45067) (nat_lit 234)) := zokE (zld_5 _ _) (ok_ld0 (t := 0) (i := 5) (zrow_iload (md := zmd_0) zh_0 (by decide +kernel) rfl))
theorem zr_0_234 : zOK zPre 0 234 (s_k (nat_lit 32) (nat_lit 235)) := ok_iconst (n := 2) (md := zmd_0) zh_0 (by decide +kernel) rfl (by decide +kernel)
theorem zr_0_235 : zOK zPre 0 235 (s_iadd (nat_lit 236)) := ok_iadd (md := zmd_0) zh_0 (by decide +kernel) rfl
theorem zr_0_236 : zOK zPre 0 236 (s_sld (nat_lit 237)) := ok_sld (md := zmd_0) zh_0 (by decide +kernel) rfl
theorem zr_0_237 : zOK zPre 0 237 (s_i2l (nat_lit 238)) := ok_i2l (md := zmd_0) zh_0 (by decide +kernel) rfl
theorem zr_0_238 : zOK zPre 0 238 (s_k (nat_lit 512) (nat_lit 240)) := ok_bipush (n := 32) (md := zmd_0) zh_0 (by decide +kernel) rfl (by decide +kernel)
theorem zr_0_240 : zOK zPre 0 240 (s_lshl (nat_lit 241)) := ok_lshl (md := zmd_0) zh_0 (by decide +kernel) rfl
theorem zr_0_241 : zOK zPre 0 241 (s_ld_0 (nat_lit 1136) (nat_lit 242)) := zokE (zld_0 _ _) (ok_ld0 (t := 4) (i := 0) (zrow_aload_n (k := 0) (md := zmd_0) zh_0 (by decide +kernel) rfl rfl))
theorem zr_0_242 : zOK zPre 0 242 (s_ld_5 (nat_lit 45067) (nat_lit 244)) := zokE (zld_5 _ _) (ok_ld0 (t := 0) (i := 5) (zrow_iload (md := zmd_0) zh_0 (by decide +kernel) rfl))
theorem zr_0_244 : zOK zPre 0 244 (s_k (nat_lit 48) (nat_lit 245)) := ok_iconst (n := 3) (md := zmd_0) zh_0 (by decide +kernel) rfl (by decide +kernel)
theorem zr_0_245 : zOK zPre 0 245 (s_iadd (nat_lit 246)) := ok_iadd (md := zmd_0) zh_0 (by decide +kernel) rfl
theorem zr_0_246 : zOK zPre 0 246 (s_sld (nat_lit 247)) := ok_sld (md := zmd_0) zh_0 (by decide +kernel) rfl
theorem zr_0_247 : zOK zPre 0 247 (s_i2l (nat_lit 248)) := ok_i2l (md := zmd_0) zh_0 (by decide +kernel) rfl
theorem zr_0_248 : zOK zPre 0 248 (s_k (nat_lit 68719476722) (nat_lit 251)) := ok_ldc2 (i := 147) (n := (4294967295 : Int64)) (md := zmd_0) zh_0 (by decide +kernel) rfl zw_11_39 (by decide +kernel)
theorem zr_0_251 : zOK zPre 0 251 (s_land (nat_lit 252)) := ok_land (md := zmd_0) zh_0 (by decide +kernel) rfl
theorem zr_0_252 : zOK zPre 0 252 (s_lor (nat_lit 253)) := ok_lor (md := zmd_0) zh_0 (by decide +kernel) rfl
theorem zr_0_253 : zOK zPre 0 253 (s_ld_3 (nat_lit 1136) (nat_lit 254)) := zokE (zld_3 _ _) (ok_ld0 (t := 4) (i := 3) (zrow_aload_n (k := 3) (md := zmd_0) zh_0 (by decide +kernel) rfl rfl))
theorem zr_0_254 : zOK zPre 0 254 (s_call (nat_lit 99) (nat_lit 24) (nat_lit 6) (nat_lit 4) (nat_lit 1) [] (nat_lit 257)) := ok_call (md := zmd_0) zh_0 zh_24 rfl (by decide) (by decide) (Or.inl rfl) zp_24 (zrow_callSX (mdc := zmd_24) (index := 149) (md := zmd_0) zh_0 (by decide +kernel) rfl rfl zc_24 zw_2_223 zw_2_224 zw_1_0 zd_24) trivial
theorem zr_0_257 : zOK zPre 0 257 (s_s1 (nat_lit 45067) (nat_lit 6) (nat_lit 259)) := ok_s10 (t := 0) (i := 6) (zrow_istore (md := zmd_0) zh_0 (by decide +kernel) rfl)
theorem zr_0_259 : zOK zPre 0 259 (s_ld_2 (nat_lit 1136) (nat_lit 260)) := zokE (zld_2 _ _) (ok_ld0 (t := 4) (i := 2) (zrow_aload_n (k := 2) (md := zmd_0) zh_0 (by decide +kernel) rfl rfl))
theorem zr_0_260 : zOK zPre 0 260 (s_ld_0 (nat_lit 1136) (nat_lit 261)) := zokE (zld_0 _ _) (ok_ld0 (t := 4) (i := 0) (zrow_aload_n (k := 0) (md := zmd_0) zh_0 (by decide +kernel) rfl rfl))
theorem zr_0_261 : zOK zPre 0 261 (s_ld_5 (nat_lit 45067) (nat_lit 263)) := zokE (zld_5 _ _) (ok_ld0 (t := 0) (i := 5) (zrow_iload (md := zmd_0) zh_0 (by decide +kernel) rfl))
theorem zr_0_263 : zOK zPre 0 263 (s_k (nat_lit 16) (nat_lit 264)) := ok_iconst (n := 1) (md := zmd_0) zh_0 (by decide +kernel) rfl (by decide +kernel)
end RowsOK
