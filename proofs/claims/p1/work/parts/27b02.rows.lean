section RowsOK
theorem zr_42_50 : zOK zPre 42 50 (s_k (nat_lit 0) (nat_lit 51)) := ok_iconst (n := 0) (md := zmd_42) zh_42 (by decide +kernel) rfl (by decide +kernel)
theorem zr_42_51 : zOK zPre 42 51 (s_s1_3 (nat_lit 45067) (nat_lit 52)) := zokE (zs1_3 _ _) (ok_s10 (t := 0) (i := 3) (zrow_istore_n (k := 3) (md := zmd_42) zh_42 (by decide +kernel) rfl rfl))
theorem zr_42_52 : zOK zPre 42 52 (s_ld_2 (nat_lit 1136) (nat_lit 53)) := zokE (zld_2 _ _) (ok_ld0 (t := 4) (i := 2) (zrow_aload_n (k := 2) (md := zmd_42) zh_42 (by decide +kernel) rfl rfl))
theorem zr_42_53 : zOK zPre 42 53 (s_ld_4 (nat_lit 45067) (nat_lit 55)) := zokE (zld_4 _ _) (ok_ld0 (t := 0) (i := 4) (zrow_iload (md := zmd_42) zh_42 (by decide +kernel) rfl))
theorem zr_42_55 : zOK zPre 42 55 (s_ld_5 (nat_lit 45067) (nat_lit 57)) := zokE (zld_5 _ _) (ok_ld0 (t := 0) (i := 5) (zrow_iload (md := zmd_42) zh_42 (by decide +kernel) rfl))
theorem zr_42_57 : zOK zPre 42 57 (s_k (nat_lit 1048560) (nat_lit 59)) := ok_ldc (i := 13) (n := (65535 : Int32)) (md := zmd_42) zh_42 (by decide +kernel) rfl zw_7_100 (by decide +kernel)
theorem zr_42_59 : zOK zPre 42 59 (s_iand (nat_lit 60)) := ok_iand (md := zmd_42) zh_42 (by decide +kernel) rfl
theorem zr_42_60 : zOK zPre 42 60 (s_ast (nat_lit 20) (nat_lit 0) (nat_lit 61)) := ok_astI (Or.inl rfl) (Or.inl rfl) (zrow_iastore (md := zmd_42) zh_42 (by decide +kernel) rfl)
theorem zr_42_61 : zOK zPre 42 61 (s_inc (nat_lit 4) (nat_lit 16) (nat_lit 64)) := ok_inc (n := 1) (md := zmd_42) zh_42 (by decide +kernel) rfl (by decide +kernel)
theorem zr_42_64 : zOK zPre 42 64 (s_go (nat_lit 10)) := ok_go (off := -54) (md := zmd_42) zh_42 (by decide +kernel) (by decide +kernel)
theorem zr_42_67 : zOK zPre 42 67 (s_ld_2 (nat_lit 1136) (nat_lit 68)) := zokE (zld_2 _ _) (ok_ld0 (t := 4) (i := 2) (zrow_aload_n (k := 2) (md := zmd_42) zh_42 (by decide +kernel) rfl rfl))
theorem zr_42_68 : zOK zPre 42 68 (s_call (nat_lit 99) (nat_lit 22) (nat_lit 3) (nat_lit 1) (nat_lit 1) [] (nat_lit 71)) := ok_call (md := zmd_42) zh_42 zh_22 rfl (by decide) (by decide) (Or.inl rfl) zp_22 (zrow_callS (mdc := zmd_22) (index := 14) (md := zmd_42) zh_42 (by decide +kernel) rfl rfl zc_22 zw_7_30 zw_7_31 zw_1_10 zd_22) trivial
theorem zr_42_71 : zOK zPre 42 71 (s_ret (nat_lit 1136)) := ok_ret0 (t := 4) (i := .areturn) (md := zmd_42) zh_42 rfl (by decide +kernel) ⟨Or.inr ⟨_, rfl⟩, rfl⟩
theorem zr_43_0 : zOK zPre 43 0 (s_ld_4 (nat_lit 1136) (nat_lit 2)) := zokE (zld_4 _ _) (ok_ld0 (t := 4) (i := 4) (zrow_aload (md := zmd_43) zh_43 (by decide +kernel) rfl))
theorem zr_43_2 : zOK zPre 43 2 (s_k (nat_lit 0) (nat_lit 3)) := ok_iconst (n := 0) (md := zmd_43) zh_43 (by decide +kernel) rfl (by decide +kernel)
theorem zr_43_3 : zOK zPre 43 3 (s_ld_0 (nat_lit 1136) (nat_lit 4)) := zokE (zld_0 _ _) (ok_ld0 (t := 4) (i := 0) (zrow_aload_n (k := 0) (md := zmd_43) zh_43 (by decide +kernel) rfl rfl))
theorem zr_43_4 : zOK zPre 43 4 (s_ld_1 (nat_lit 45067) (nat_lit 5)) := zokE (zld_1 _ _) (ok_ld0 (t := 0) (i := 1) (zrow_iload_n (k := 1) (md := zmd_43) zh_43 (by decide +kernel) rfl rfl))
theorem zr_43_5 : zOK zPre 43 5 (s_ld_2 (nat_lit 18436) (nat_lit 6)) := zokE (zld_2 _ _) (ok_ld0 (t := 1) (i := 2) (zrow_lload_n (k := 2) (md := zmd_43) zh_43 (by decide +kernel) rfl rfl))
theorem zr_43_6 : zOK zPre 43 6 (s_call (nat_lit 8) (nat_lit 44) (nat_lit 5) (nat_lit 3) (nat_lit 1) [((nat_lit 0), (nat_lit 5), (nat_lit 16)), ((nat_lit 3), (nat_lit 5), (nat_lit 20))] (nat_lit 9)) := ok_call (md := zmd_43) zh_43 zh_44 rfl (by decide) (by decide) (Or.inr (by decide)) zp_44 (zrow_callV (mdc := zmd_44) (index := 15) (md := zmd_43) zh_43 (by decide +kernel) rfl rfl zc_44 rfl (by decide) zw_3_91 zw_3_92 zw_3_93 zw_1_1 zd_44) ⟨⟨by decide, by decide, by decide, by decide, zw_2_226, zw_3_75, zrow_astore (md := zmd_43) zh_43 (by decide +kernel) rfl⟩, ⟨⟨by decide, by decide, by decide, by decide, zw_3_90, zw_3_118, zrow_astore (md := zmd_43) zh_43 (by decide +kernel) rfl⟩, trivial⟩⟩
theorem zr_43_9 : zOK zPre 43 9 (s_i2l (nat_lit 10)) := ok_i2l (md := zmd_43) zh_43 (by decide +kernel) rfl
theorem zr_43_10 : zOK zPre 43 10 (s_ast (nat_lit 21) (nat_lit 4) (nat_lit 11)) := ok_astL rfl rfl (zrow_lastore (md := zmd_43) zh_43 (by decide +kernel) rfl)
theorem zr_43_11 : zOK zPre 43 11 (s_go (nat_lit 22)) := ok_go (off := 11) (md := zmd_43) zh_43 (by decide +kernel) (by decide +kernel)
theorem zr_43_16 : zOK zPre 43 16 (s_k (nat_lit 16) (nat_lit 17)) := ok_iconst (n := 1) (md := zmd_43) zh_43 (by decide +kernel) rfl (by decide +kernel)
theorem zr_43_17 : zOK zPre 43 17 (s_ret (nat_lit 45067)) := ok_ret0 (t := 0) (i := .ireturn) (ty := .int) (md := zmd_43) zh_43 rfl (by decide +kernel) ⟨rfl, rfl⟩
theorem zr_43_22 : zOK zPre 43 22 (s_k (nat_lit 0) (nat_lit 23)) := ok_iconst (n := 0) (md := zmd_43) zh_43 (by decide +kernel) rfl (by decide +kernel)
theorem zr_43_23 : zOK zPre 43 23 (s_ret (nat_lit 45067)) := ok_ret0 (t := 0) (i := .ireturn) (ty := .int) (md := zmd_43) zh_43 rfl (by decide +kernel) ⟨rfl, rfl⟩
theorem zr_44_0 : zOK zPre 44 0 (s_ld_0 (nat_lit 1136) (nat_lit 1)) := zokE (zld_0 _ _) (ok_ld0 (t := 4) (i := 0) (zrow_aload_n (k := 0) (md := zmd_44) zh_44 (by decide +kernel) rfl rfl))
theorem zr_44_1 : zOK zPre 44 1 (s_ld_1 (nat_lit 45067) (nat_lit 2)) := zokE (zld_1 _ _) (ok_ld0 (t := 0) (i := 1) (zrow_iload_n (k := 1) (md := zmd_44) zh_44 (by decide +kernel) rfl rfl))
theorem zr_44_2 : zOK zPre 44 2 (s_call (nat_lit 8) (nat_lit 26) (nat_lit 2) (nat_lit 2) (nat_lit 1) [] (nat_lit 5)) := ok_call (md := zmd_44) zh_44 zh_26 rfl (by decide) (by decide) (Or.inr (by decide)) zp_26 (zrow_callV (mdc := zmd_26) (index := 72) (md := zmd_44) zh_44 (by decide +kernel) rfl rfl zc_26 rfl (by decide) zw_3_69 zw_3_71 zws_1 zw_1_1 zd_26) trivial
theorem zr_44_5 : zOK zPre 44 5 (s_s1_4 (nat_lit 1136) (nat_lit 7)) := zokE (zs1_4 _ _) (ok_s10 (t := 4) (i := 4) (zrow_astore (md := zmd_44) zh_44 (by decide +kernel) rfl))
theorem zr_44_7 : zOK zPre 44 7 (s_ld_0 (nat_lit 1136) (nat_lit 8)) := zokE (zld_0 _ _) (ok_ld0 (t := 4) (i := 0) (zrow_aload_n (k := 0) (md := zmd_44) zh_44 (by decide +kernel) rfl rfl))
theorem zr_44_8 : zOK zPre 44 8 (s_gf (nat_lit 8) (nat_lit 9) (nat_lit 11)) := ok_gf0 (by decide) (zrow_gf (index := 69) (ref := "Residueworks") (C := RX9) (T := TX9) (N := 10) (md := zmd_44) zh_44 (by decide +kernel) rfl rfl (by decide) zu_X9 zw_2_134 rfl)
theorem zr_44_11 : zOK zPre 44 11 (s_ld_2 (nat_lit 18436) (nat_lit 12)) := zokE (zld_2 _ _) (ok_ld0 (t := 1) (i := 2) (zrow_lload_n (k := 2) (md := zmd_44) zh_44 (by decide +kernel) rfl rfl))
theorem zr_44_12 : zOK zPre 44 12 (s_call (nat_lit 7) (nat_lit 11) (nat_lit 3) (nat_lit 2) (nat_lit 0) [] (nat_lit 15)) := ok_call (md := zmd_44) zh_44 zh_11 rfl (by decide) (by decide) (Or.inr (by decide)) zp_11 (zrow_callV (mdc := zmd_11) (index := 84) (md := zmd_44) zh_44 (by decide +kernel) rfl rfl zc_11 rfl (by decide) zw_3_95 zw_2_65 zw_2_66 zw_1_3 zd_11) trivial
theorem zr_44_15 : zOK zPre 44 15 (s_ld_0 (nat_lit 1136) (nat_lit 16)) := zokE (zld_0 _ _) (ok_ld0 (t := 4) (i := 0) (zrow_aload_n (k := 0) (md := zmd_44) zh_44 (by decide +kernel) rfl rfl))
theorem zr_44_16 : zOK zPre 44 16 (s_gf (nat_lit 8) (nat_lit 8) (nat_lit 19)) := ok_gf0 (by decide) (zrow_gf (index := 65) (ref := "Residueworks") (C := RX9) (T := TX9) (N := 10) (md := zmd_44) zh_44 (by decide +kernel) rfl rfl (by decide) zu_X9 zw_2_133 rfl)
theorem zr_44_19 : zOK zPre 44 19 (s_ld_4 (nat_lit 1136) (nat_lit 21)) := zokE (zld_4 _ _) (ok_ld0 (t := 4) (i := 4) (zrow_aload (md := zmd_44) zh_44 (by decide +kernel) rfl))
theorem zr_44_21 : zOK zPre 44 21 (s_k (nat_lit 1024) (nat_lit 23)) := ok_bipush (n := 64) (md := zmd_44) zh_44 (by decide +kernel) rfl (by decide +kernel)
theorem zr_44_23 : zOK zPre 44 23 (s_call (nat_lit 7) (nat_lit 45) (nat_lit 8) (nat_lit 3) (nat_lit 0) [] (nat_lit 26)) := ok_call (md := zmd_44) zh_44 zh_45 rfl (by decide) (by decide) (Or.inr (by decide)) zp_45 (zrow_callV (mdc := zmd_45) (index := 87) (md := zmd_44) zh_44 (by decide +kernel) rfl rfl zc_45 rfl (by decide) zw_3_96 zw_3_97 zw_3_98 zw_1_3 zd_45) trivial
theorem zr_44_26 : zOK zPre 44 26 (s_ld_0 (nat_lit 1136) (nat_lit 27)) := zokE (zld_0 _ _) (ok_ld0 (t := 4) (i := 0) (zrow_aload_n (k := 0) (md := zmd_44) zh_44 (by decide +kernel) rfl rfl))
theorem zr_44_27 : zOK zPre 44 27 (s_gf (nat_lit 8) (nat_lit 8) (nat_lit 30)) := ok_gf0 (by decide) (zrow_gf (index := 65) (ref := "Residueworks") (C := RX9) (T := TX9) (N := 10) (md := zmd_44) zh_44 (by decide +kernel) rfl rfl (by decide) zu_X9 zw_2_133 rfl)
theorem zr_44_30 : zOK zPre 44 30 (s_ld_0 (nat_lit 1136) (nat_lit 31)) := zokE (zld_0 _ _) (ok_ld0 (t := 4) (i := 0) (zrow_aload_n (k := 0) (md := zmd_44) zh_44 (by decide +kernel) rfl rfl))
theorem zr_44_31 : zOK zPre 44 31 (s_gf (nat_lit 8) (nat_lit 8) (nat_lit 34)) := ok_gf0 (by decide) (zrow_gf (index := 65) (ref := "Residueworks") (C := RX9) (T := TX9) (N := 10) (md := zmd_44) zh_44 (by decide +kernel) rfl rfl (by decide) zu_X9 zw_2_133 rfl)
theorem zr_44_34 : zOK zPre 44 34 (s_ld_0 (nat_lit 1136) (nat_lit 35)) := zokE (zld_0 _ _) (ok_ld0 (t := 4) (i := 0) (zrow_aload_n (k := 0) (md := zmd_44) zh_44 (by decide +kernel) rfl rfl))
theorem zr_44_35 : zOK zPre 44 35 (s_gf (nat_lit 8) (nat_lit 9) (nat_lit 38)) := ok_gf0 (by decide) (zrow_gf (index := 69) (ref := "Residueworks") (C := RX9) (T := TX9) (N := 10) (md := zmd_44) zh_44 (by decide +kernel) rfl rfl (by decide) zu_X9 zw_2_134 rfl)
theorem zr_44_38 : zOK zPre 44 38 (s_call (nat_lit 7) (nat_lit 46) (nat_lit 3) (nat_lit 3) (nat_lit 0) [] (nat_lit 41)) := ok_call (md := zmd_44) zh_44 zh_46 rfl (by decide) (by decide) (Or.inr (by decide)) zp_46 (zrow_callV (mdc := zmd_46) (index := 91) (md := zmd_44) zh_44 (by decide +kernel) rfl rfl zc_46 rfl (by decide) zw_3_100 zw_3_101 zw_3_102 zw_1_3 zd_46) trivial
theorem zr_44_41 : zOK zPre 44 41 (s_ld_0 (nat_lit 1136) (nat_lit 42)) := zokE (zld_0 _ _) (ok_ld0 (t := 4) (i := 0) (zrow_aload_n (k := 0) (md := zmd_44) zh_44 (by decide +kernel) rfl rfl))
theorem zr_44_42 : zOK zPre 44 42 (s_ld_4 (nat_lit 1136) (nat_lit 44)) := zokE (zld_4 _ _) (ok_ld0 (t := 4) (i := 4) (zrow_aload (md := zmd_44) zh_44 (by decide +kernel) rfl))
theorem zr_44_44 : zOK zPre 44 44 (s_call (nat_lit 8) (nat_lit 48) (nat_lit 3) (nat_lit 2) (nat_lit 1) [] (nat_lit 47)) := ok_call (md := zmd_44) zh_44 zh_48 rfl (by decide) (by decide) (Or.inr (by decide)) zp_48 (zrow_callV (mdc := zmd_48) (index := 95) (md := zmd_44) zh_44 (by decide +kernel) rfl rfl zc_48 rfl (by decide) zw_3_112 zw_3_114 zws_4 zw_1_1 zd_48) trivial
theorem zr_44_47 : zOK zPre 44 47 (s_ret (nat_lit 45067)) := ok_ret0 (t := 0) (i := .ireturn) (ty := .int) (md := zmd_44) zh_44 rfl (by decide +kernel) ⟨rfl, rfl⟩
theorem zr_45_0 : zOK zPre 45 0 (s_ld_2 (nat_lit 45067) (nat_lit 1)) := zokE (zld_2 _ _) (ok_ld0 (t := 0) (i := 2) (zrow_iload_n (k := 2) (md := zmd_45) zh_45 (by decide +kernel) rfl rfl))
theorem zr_45_1 : zOK zPre 45 1 (s_k (nat_lit 480) (nat_lit 3)) := ok_bipush (n := 30) (md := zmd_45) zh_45 (by decide +kernel) rfl (by decide +kernel)
theorem zr_45_3 : zOK zPre 45 3 (s_idiv (nat_lit 4)) := ok_idiv (md := zmd_45) zh_45 (by decide +kernel) rfl
theorem zr_45_4 : zOK zPre 45 4 (s_s1_3 (nat_lit 45067) (nat_lit 5)) := zokE (zs1_3 _ _) (ok_s10 (t := 0) (i := 3) (zrow_istore_n (k := 3) (md := zmd_45) zh_45 (by decide +kernel) rfl rfl))
theorem zr_45_5 : zOK zPre 45 5 (s_ld_2 (nat_lit 45067) (nat_lit 6)) := zokE (zld_2 _ _) (ok_ld0 (t := 0) (i := 2) (zrow_iload_n (k := 2) (md := zmd_45) zh_45 (by decide +kernel) rfl rfl))
theorem zr_45_6 : zOK zPre 45 6 (s_k (nat_lit 480) (nat_lit 8)) := ok_bipush (n := 30) (md := zmd_45) zh_45 (by decide +kernel) rfl (by decide +kernel)
theorem zr_45_8 : zOK zPre 45 8 (s_irem (nat_lit 9)) := ok_irem (md := zmd_45) zh_45 (by decide +kernel) rfl
theorem zr_45_9 : zOK zPre 45 9 (s_s1_4 (nat_lit 45067) (nat_lit 11)) := zokE (zs1_4 _ _) (ok_s10 (t := 0) (i := 4) (zrow_istore (md := zmd_45) zh_45 (by decide +kernel) rfl))
theorem zr_45_11 : zOK zPre 45 11 (s_ld_1 (nat_lit 1136) (nat_lit 12)) := zokE (zld_1 _ _) (ok_ld0 (t := 4) (i := 1) (zrow_aload_n (k := 1) (md := zmd_45) zh_45 (by decide +kernel) rfl rfl))
theorem zr_45_12 : zOK zPre 45 12 (s_gf (nat_lit 7) (nat_lit 1) (nat_lit 15)) := ok_gf0 (by decide) (zrow_gf (index := 13) (ref := "Residueworks$Whole") (C := RX8) (T := TX8) (N := 3) (md := zmd_45) zh_45 (by decide +kernel) rfl rfl (by decide) zu_X8 zw_1_66 rfl)
theorem zr_45_15 : zOK zPre 45 15 (s_ld_3 (nat_lit 45067) (nat_lit 16)) := zokE (zld_3 _ _) (ok_ld0 (t := 0) (i := 3) (zrow_iload_n (k := 3) (md := zmd_45) zh_45 (by decide +kernel) rfl rfl))
theorem zr_45_16 : zOK zPre 45 16 (s_iadd (nat_lit 17)) := ok_iadd (md := zmd_45) zh_45 (by decide +kernel) rfl
theorem zr_45_17 : zOK zPre 45 17 (s_k (nat_lit 16) (nat_lit 18)) := ok_iconst (n := 1) (md := zmd_45) zh_45 (by decide +kernel) rfl (by decide +kernel)
theorem zr_45_18 : zOK zPre 45 18 (s_iadd (nat_lit 19)) := ok_iadd (md := zmd_45) zh_45 (by decide +kernel) rfl
theorem zr_45_19 : zOK zPre 45 19 (s_s1_5 (nat_lit 45067) (nat_lit 21)) := zokE (zs1_5 _ _) (ok_s10 (t := 0) (i := 5) (zrow_istore (md := zmd_45) zh_45 (by decide +kernel) rfl))
theorem zr_45_21 : zOK zPre 45 21 (s_ld_5 (nat_lit 45067) (nat_lit 23)) := zokE (zld_5 _ _) (ok_ld0 (t := 0) (i := 5) (zrow_iload (md := zmd_45) zh_45 (by decide +kernel) rfl))
theorem zr_45_23 : zOK zPre 45 23 (s_k (nat_lit 16) (nat_lit 24)) := ok_iconst (n := 1) (md := zmd_45) zh_45 (by decide +kernel) rfl (by decide +kernel)
theorem zr_45_24 : zOK zPre 45 24 (s_isub (nat_lit 25)) := ok_isub (md := zmd_45) zh_45 (by decide +kernel) rfl
theorem zr_45_25 : zOK zPre 45 25 (s_s1 (nat_lit 45067) (nat_lit 6) (nat_lit 27)) := ok_s10 (t := 0) (i := 6) (zrow_istore (md := zmd_45) zh_45 (by decide +kernel) rfl)
theorem zr_45_27 : zOK zPre 45 27 (s_ld (nat_lit 45067) (nat_lit 6) (nat_lit 29)) := ok_ld0 (t := 0) (i := 6) (zrow_iload (md := zmd_45) zh_45 (by decide +kernel) rfl)
theorem zr_45_29 : zOK zPre 45 29 (s_if (nat_lit 2) zi_lt (nat_lit 79) (nat_lit 32)) := ok_if_lt (off := 50) (md := zmd_45) zh_45 (by decide +kernel) (by decide +kernel) rfl
theorem zr_45_32 : zOK zPre 45 32 (s_ld_1 (nat_lit 1136) (nat_lit 33)) := zokE (zld_1 _ _) (ok_ld0 (t := 4) (i := 1) (zrow_aload_n (k := 1) (md := zmd_45) zh_45 (by decide +kernel) rfl rfl))
theorem zr_45_33 : zOK zPre 45 33 (s_ld (nat_lit 45067) (nat_lit 6) (nat_lit 35)) := ok_ld0 (t := 0) (i := 6) (zrow_iload (md := zmd_45) zh_45 (by decide +kernel) rfl)
theorem zr_45_35 : zOK zPre 45 35 (s_ld_3 (nat_lit 45067) (nat_lit 36)) := zokE (zld_3 _ _) (ok_ld0 (t := 0) (i := 3) (zrow_iload_n (k := 3) (md := zmd_45) zh_45 (by decide +kernel) rfl rfl))
theorem zr_45_36 : zOK zPre 45 36 (s_isub (nat_lit 37)) := ok_isub (md := zmd_45) zh_45 (by decide +kernel) rfl
theorem zr_45_37 : zOK zPre 45 37 (s_k (nat_lit 16) (nat_lit 38)) := ok_iconst (n := 1) (md := zmd_45) zh_45 (by decide +kernel) rfl (by decide +kernel)
theorem zr_45_38 : zOK zPre 45 38 (s_isub (nat_lit 39)) := ok_isub (md := zmd_45) zh_45 (by decide +kernel) rfl
theorem zr_45_39 : zOK zPre 45 39 (s_call (nat_lit 7) (nat_lit 29) (nat_lit 2) (nat_lit 2) (nat_lit 1) [] (nat_lit 42)) := ok_call (md := zmd_45) zh_45 zh_29 rfl (by decide) (by decide) (Or.inr (by decide)) zp_29 (zrow_callV (mdc := zmd_29) (index := 49) (md := zmd_45) zh_45 (by decide +kernel) rfl rfl zc_29 rfl (by decide) zw_2_180 zw_2_181 zw_2_182 zw_1_3 zd_29) trivial
theorem zr_45_42 : zOK zPre 45 42 (s_k (nat_lit 480) (nat_lit 44)) := ok_bipush (n := 30) (md := zmd_45) zh_45 (by decide +kernel) rfl (by decide +kernel)
theorem zr_45_44 : zOK zPre 45 44 (s_ld_4 (nat_lit 45067) (nat_lit 46)) := zokE (zld_4 _ _) (ok_ld0 (t := 0) (i := 4) (zrow_iload (md := zmd_45) zh_45 (by decide +kernel) rfl))
theorem zr_45_46 : zOK zPre 45 46 (s_isub (nat_lit 47)) := ok_isub (md := zmd_45) zh_45 (by decide +kernel) rfl
theorem zr_45_47 : zOK zPre 45 47 (s_iushr (nat_lit 48)) := ok_iushr (md := zmd_45) zh_45 (by decide +kernel) rfl
theorem zr_45_48 : zOK zPre 45 48 (s_s1 (nat_lit 45067) (nat_lit 7) (nat_lit 50)) := ok_s10 (t := 0) (i := 7) (zrow_istore (md := zmd_45) zh_45 (by decide +kernel) rfl)
theorem zr_45_50 : zOK zPre 45 50 (s_ld_0 (nat_lit 1136) (nat_lit 51)) := zokE (zld_0 _ _) (ok_ld0 (t := 4) (i := 0) (zrow_aload_n (k := 0) (md := zmd_45) zh_45 (by decide +kernel) rfl rfl))
theorem zr_45_51 : zOK zPre 45 51 (s_ld (nat_lit 45067) (nat_lit 6) (nat_lit 53)) := ok_ld0 (t := 0) (i := 6) (zrow_iload (md := zmd_45) zh_45 (by decide +kernel) rfl)
theorem zr_45_53 : zOK zPre 45 53 (s_ld_1 (nat_lit 1136) (nat_lit 54)) := zokE (zld_1 _ _) (ok_ld0 (t := 4) (i := 1) (zrow_aload_n (k := 1) (md := zmd_45) zh_45 (by decide +kernel) rfl rfl))
theorem zr_45_54 : zOK zPre 45 54 (s_ld (nat_lit 45067) (nat_lit 6) (nat_lit 56)) := ok_ld0 (t := 0) (i := 6) (zrow_iload (md := zmd_45) zh_45 (by decide +kernel) rfl)
theorem zr_45_56 : zOK zPre 45 56 (s_ld_3 (nat_lit 45067) (nat_lit 57)) := zokE (zld_3 _ _) (ok_ld0 (t := 0) (i := 3) (zrow_iload_n (k := 3) (md := zmd_45) zh_45 (by decide +kernel) rfl rfl))
theorem zr_45_57 : zOK zPre 45 57 (s_isub (nat_lit 58)) := ok_isub (md := zmd_45) zh_45 (by decide +kernel) rfl
theorem zr_45_58 : zOK zPre 45 58 (s_call (nat_lit 7) (nat_lit 29) (nat_lit 2) (nat_lit 2) (nat_lit 1) [] (nat_lit 61)) := ok_call (md := zmd_45) zh_45 zh_29 rfl (by decide) (by decide) (Or.inr (by decide)) zp_29 (zrow_callV (mdc := zmd_29) (index := 49) (md := zmd_45) zh_45 (by decide +kernel) rfl rfl zc_29 rfl (by decide) zw_2_180 zw_2_181 zw_2_182 zw_1_3 zd_29) trivial
theorem zr_45_61 : zOK zPre 45 61 (s_ld_4 (nat_lit 45067) (nat_lit 63)) := zokE (zld_4 _ _) (ok_ld0 (t := 0) (i := 4) (zrow_iload (md := zmd_45) zh_45 (by decide +kernel) rfl))
theorem zr_45_63 : zOK zPre 45 63 (s_ishl (nat_lit 64)) := ok_ishl (md := zmd_45) zh_45 (by decide +kernel) rfl
theorem zr_45_64 : zOK zPre 45 64 (s_ld (nat_lit 45067) (nat_lit 7) (nat_lit 66)) := ok_ld0 (t := 0) (i := 7) (zrow_iload (md := zmd_45) zh_45 (by decide +kernel) rfl)
theorem zr_45_66 : zOK zPre 45 66 (s_ior (nat_lit 67)) := ok_ior (md := zmd_45) zh_45 (by decide +kernel) rfl
theorem zr_45_67 : zOK zPre 45 67 (s_k (nat_lit 17179869168) (nat_lit 69)) := ok_ldc (i := 76) (n := (1073741823 : Int32)) (md := zmd_45) zh_45 (by decide +kernel) rfl zw_2_214 (by decide +kernel)
theorem zr_45_69 : zOK zPre 45 69 (s_iand (nat_lit 70)) := ok_iand (md := zmd_45) zh_45 (by decide +kernel) rfl
theorem zr_45_70 : zOK zPre 45 70 (s_call (nat_lit 7) (nat_lit 12) (nat_lit 3) (nat_lit 3) (nat_lit 0) [] (nat_lit 73)) := ok_call (md := zmd_45) zh_45 zh_12 rfl (by decide) (by decide) (Or.inr (by decide)) zp_12 (zrow_callV (mdc := zmd_12) (index := 36) (md := zmd_45) zh_45 (by decide +kernel) rfl rfl zc_12 rfl (by decide) zw_2_69 zw_2_70 zw_2_71 zw_1_3 zd_12) trivial
theorem zr_45_73 : zOK zPre 45 73 (s_inc (nat_lit 6) (nat_lit 68719476720) (nat_lit 76)) := ok_inc (n := -1) (md := zmd_45) zh_45 (by decide +kernel) rfl (by decide +kernel)
theorem zr_45_76 : zOK zPre 45 76 (s_go (nat_lit 27)) := ok_go (off := -49) (md := zmd_45) zh_45 (by decide +kernel) (by decide +kernel)
theorem zr_45_79 : zOK zPre 45 79 (s_ld_0 (nat_lit 1136) (nat_lit 80)) := zokE (zld_0 _ _) (ok_ld0 (t := 4) (i := 0) (zrow_aload_n (k := 0) (md := zmd_45) zh_45 (by decide +kernel) rfl rfl))
theorem zr_45_80 : zOK zPre 45 80 (s_ld_5 (nat_lit 45067) (nat_lit 82)) := zokE (zld_5 _ _) (ok_ld0 (t := 0) (i := 5) (zrow_iload (md := zmd_45) zh_45 (by decide +kernel) rfl))
theorem zr_45_82 : zOK zPre 45 82 (s_ld_1 (nat_lit 1136) (nat_lit 83)) := zokE (zld_1 _ _) (ok_ld0 (t := 4) (i := 1) (zrow_aload_n (k := 1) (md := zmd_45) zh_45 (by decide +kernel) rfl rfl))
theorem zr_45_83 : zOK zPre 45 83 (s_gf (nat_lit 7) (nat_lit 2) (nat_lit 86)) := ok_gf0 (by decide) (zrow_gf (index := 17) (ref := "Residueworks$Whole") (C := RX8) (T := TX8) (N := 3) (md := zmd_45) zh_45 (by decide +kernel) rfl rfl (by decide) zu_X8 zw_1_69 rfl)
theorem zr_45_86 : zOK zPre 45 86 (s_call (nat_lit 7) (nat_lit 13) (nat_lit 4) (nat_lit 3) (nat_lit 0) [] (nat_lit 89)) := ok_call (md := zmd_45) zh_45 zh_13 rfl (by decide) (by decide) (Or.inr (by decide)) zp_13 (zrow_callV (mdc := zmd_13) (index := 40) (md := zmd_45) zh_45 (by decide +kernel) rfl rfl zc_13 rfl (by decide) zw_2_73 zw_2_74 zw_2_75 zw_1_3 zd_13) trivial
theorem zr_45_89 : zOK zPre 45 89 (s_rv) := ok_rv (md := zmd_45) zh_45 rfl (by decide +kernel)
theorem zr_46_0 : zOK zPre 46 0 (s_ld_0 (nat_lit 1136) (nat_lit 1)) := zokE (zld_0 _ _) (ok_ld0 (t := 4) (i := 0) (zrow_aload_n (k := 0) (md := zmd_46) zh_46 (by decide +kernel) rfl rfl))
theorem zr_46_1 : zOK zPre 46 1 (s_ld_1 (nat_lit 1136) (nat_lit 2)) := zokE (zld_1 _ _) (ok_ld0 (t := 4) (i := 1) (zrow_aload_n (k := 1) (md := zmd_46) zh_46 (by decide +kernel) rfl rfl))
theorem zr_46_2 : zOK zPre 46 2 (s_ld_2 (nat_lit 1136) (nat_lit 3)) := zokE (zld_2 _ _) (ok_ld0 (t := 4) (i := 2) (zrow_aload_n (k := 2) (md := zmd_46) zh_46 (by decide +kernel) rfl rfl))
theorem zr_46_3 : zOK zPre 46 3 (s_ld_2 (nat_lit 1136) (nat_lit 4)) := zokE (zld_2 _ _) (ok_ld0 (t := 4) (i := 2) (zrow_aload_n (k := 2) (md := zmd_46) zh_46 (by decide +kernel) rfl rfl))
theorem zr_46_4 : zOK zPre 46 4 (s_gf (nat_lit 7) (nat_lit 2) (nat_lit 7)) := ok_gf0 (by decide) (zrow_gf (index := 17) (ref := "Residueworks$Whole") (C := RX8) (T := TX8) (N := 3) (md := zmd_46) zh_46 (by decide +kernel) rfl rfl (by decide) zu_X8 zw_1_69 rfl)
theorem zr_46_7 : zOK zPre 46 7 (s_call (nat_lit 7) (nat_lit 47) (nat_lit 11) (nat_lit 4) (nat_lit 0) [] (nat_lit 10)) := ok_call (md := zmd_46) zh_46 zh_47 rfl (by decide) (by decide) (Or.inr (by decide)) zp_47 (zrow_callV (mdc := zmd_47) (index := 84) (md := zmd_46) zh_46 (by decide +kernel) rfl rfl zc_47 rfl (by decide) zw_3_104 zw_3_106 zws_2 zw_1_3 zd_47) trivial
theorem zr_46_10 : zOK zPre 46 10 (s_rv) := ok_rv (md := zmd_46) zh_46 rfl (by decide +kernel)
theorem zr_47_0 : zOK zPre 47 0 (s_ld_1 (nat_lit 1136) (nat_lit 1)) := zokE (zld_1 _ _) (ok_ld0 (t := 4) (i := 1) (zrow_aload_n (k := 1) (md := zmd_47) zh_47 (by decide +kernel) rfl rfl))
theorem zr_47_1 : zOK zPre 47 1 (s_gf (nat_lit 7) (nat_lit 2) (nat_lit 4)) := ok_gf0 (by decide) (zrow_gf (index := 17) (ref := "Residueworks$Whole") (C := RX8) (T := TX8) (N := 3) (md := zmd_47) zh_47 (by decide +kernel) rfl rfl (by decide) zu_X8 zw_1_69 rfl)
theorem zr_47_4 : zOK zPre 47 4 (s_s1_4 (nat_lit 45067) (nat_lit 6)) := zokE (zs1_4 _ _) (ok_s10 (t := 0) (i := 4) (zrow_istore (md := zmd_47) zh_47 (by decide +kernel) rfl))
theorem zr_47_6 : zOK zPre 47 6 (s_ld_4 (nat_lit 45067) (nat_lit 8)) := zokE (zld_4 _ _) (ok_ld0 (t := 0) (i := 4) (zrow_iload (md := zmd_47) zh_47 (by decide +kernel) rfl))
theorem zr_47_8 : zOK zPre 47 8 (s_ld_3 (nat_lit 45067) (nat_lit 9)) := zokE (zld_3 _ _) (ok_ld0 (t := 0) (i := 3) (zrow_iload_n (k := 3) (md := zmd_47) zh_47 (by decide +kernel) rfl rfl))
theorem zr_47_9 : zOK zPre 47 9 (s_imul (nat_lit 10)) := ok_imul (md := zmd_47) zh_47 (by decide +kernel) rfl
theorem zr_47_10 : zOK zPre 47 10 (s_if (nat_lit 3) zi_ge (nat_lit 17) (nat_lit 13)) := ok_if_ge (off := 7) (md := zmd_47) zh_47 (by decide +kernel) (by decide +kernel) rfl
theorem zr_47_17 : zOK zPre 47 17 (s_k (nat_lit 16) (nat_lit 18)) := ok_iconst (n := 1) (md := zmd_47) zh_47 (by decide +kernel) rfl (by decide +kernel)
theorem zr_47_18 : zOK zPre 47 18 (s_s1_5 (nat_lit 45067) (nat_lit 20)) := zokE (zs1_5 _ _) (ok_s10 (t := 0) (i := 5) (zrow_istore (md := zmd_47) zh_47 (by decide +kernel) rfl))
theorem zr_47_20 : zOK zPre 47 20 (s_ld_4 (nat_lit 45067) (nat_lit 22)) := zokE (zld_4 _ _) (ok_ld0 (t := 0) (i := 4) (zrow_iload (md := zmd_47) zh_47 (by decide +kernel) rfl))
theorem zr_47_22 : zOK zPre 47 22 (s_if (nat_lit 0) zi_eq (nat_lit 30) (nat_lit 25)) := ok_if_eq (off := 8) (md := zmd_47) zh_47 (by decide +kernel) (by decide +kernel) rfl
theorem zr_47_25 : zOK zPre 47 25 (s_ld_4 (nat_lit 45067) (nat_lit 27)) := zokE (zld_4 _ _) (ok_ld0 (t := 0) (i := 4) (zrow_iload (md := zmd_47) zh_47 (by decide +kernel) rfl))
theorem zr_47_27 : zOK zPre 47 27 (s_go (nat_lit 31)) := ok_go (off := 4) (md := zmd_47) zh_47 (by decide +kernel) (by decide +kernel)
theorem zr_47_30 : zOK zPre 47 30 (s_ld_3 (nat_lit 45067) (nat_lit 31)) := zokE (zld_3 _ _) (ok_ld0 (t := 0) (i := 3) (zrow_iload_n (k := 3) (md := zmd_47) zh_47 (by decide +kernel) rfl rfl))
theorem zr_47_31 : zOK zPre 47 31 (s_s1 (nat_lit 45067) (nat_lit 6) (nat_lit 33)) := ok_s10 (t := 0) (i := 6) (zrow_istore (md := zmd_47) zh_47 (by decide +kernel) rfl)
theorem zr_47_33 : zOK zPre 47 33 (s_ld_1 (nat_lit 1136) (nat_lit 34)) := zokE (zld_1 _ _) (ok_ld0 (t := 4) (i := 1) (zrow_aload_n (k := 1) (md := zmd_47) zh_47 (by decide +kernel) rfl rfl))
theorem zr_47_34 : zOK zPre 47 34 (s_gf (nat_lit 7) (nat_lit 1) (nat_lit 37)) := ok_gf0 (by decide) (zrow_gf (index := 13) (ref := "Residueworks$Whole") (C := RX8) (T := TX8) (N := 3) (md := zmd_47) zh_47 (by decide +kernel) rfl rfl (by decide) zu_X8 zw_1_66 rfl)
theorem zr_47_37 : zOK zPre 47 37 (s_ld_2 (nat_lit 1136) (nat_lit 38)) := zokE (zld_2 _ _) (ok_ld0 (t := 4) (i := 2) (zrow_aload_n (k := 2) (md := zmd_47) zh_47 (by decide +kernel) rfl rfl))
theorem zr_47_38 : zOK zPre 47 38 (s_gf (nat_lit 7) (nat_lit 1) (nat_lit 41)) := ok_gf0 (by decide) (zrow_gf (index := 13) (ref := "Residueworks$Whole") (C := RX8) (T := TX8) (N := 3) (md := zmd_47) zh_47 (by decide +kernel) rfl rfl (by decide) zu_X8 zw_1_66 rfl)
theorem zr_47_41 : zOK zPre 47 41 (s_ic (nat_lit 5) zu_le (nat_lit 51) (nat_lit 44)) := ok_ic_le (off := 10) (md := zmd_47) zh_47 (by decide +kernel) (by decide +kernel) rfl
theorem zr_47_44 : zOK zPre 47 44 (s_ld_1 (nat_lit 1136) (nat_lit 45)) := zokE (zld_1 _ _) (ok_ld0 (t := 4) (i := 1) (zrow_aload_n (k := 1) (md := zmd_47) zh_47 (by decide +kernel) rfl rfl))
theorem zr_47_45 : zOK zPre 47 45 (s_gf (nat_lit 7) (nat_lit 1) (nat_lit 48)) := ok_gf0 (by decide) (zrow_gf (index := 13) (ref := "Residueworks$Whole") (C := RX8) (T := TX8) (N := 3) (md := zmd_47) zh_47 (by decide +kernel) rfl rfl (by decide) zu_X8 zw_1_66 rfl)
theorem zr_47_48 : zOK zPre 47 48 (s_go (nat_lit 55)) := ok_go (off := 7) (md := zmd_47) zh_47 (by decide +kernel) (by decide +kernel)
theorem zr_47_51 : zOK zPre 47 51 (s_ld_2 (nat_lit 1136) (nat_lit 52)) := zokE (zld_2 _ _) (ok_ld0 (t := 4) (i := 2) (zrow_aload_n (k := 2) (md := zmd_47) zh_47 (by decide +kernel) rfl rfl))
theorem zr_47_52 : zOK zPre 47 52 (s_gf (nat_lit 7) (nat_lit 1) (nat_lit 55)) := ok_gf0 (by decide) (zrow_gf (index := 13) (ref := "Residueworks$Whole") (C := RX8) (T := TX8) (N := 3) (md := zmd_47) zh_47 (by decide +kernel) rfl rfl (by decide) zu_X8 zw_1_66 rfl)
theorem zr_47_55 : zOK zPre 47 55 (s_k (nat_lit 16) (nat_lit 56)) := ok_iconst (n := 1) (md := zmd_47) zh_47 (by decide +kernel) rfl (by decide +kernel)
theorem zr_47_56 : zOK zPre 47 56 (s_iadd (nat_lit 57)) := ok_iadd (md := zmd_47) zh_47 (by decide +kernel) rfl
theorem zr_47_57 : zOK zPre 47 57 (s_s1 (nat_lit 45067) (nat_lit 7) (nat_lit 59)) := ok_s10 (t := 0) (i := 7) (zrow_istore (md := zmd_47) zh_47 (by decide +kernel) rfl)
theorem zr_47_59 : zOK zPre 47 59 (s_k (nat_lit 0) (nat_lit 60)) := ok_iconst (n := 0) (md := zmd_47) zh_47 (by decide +kernel) rfl (by decide +kernel)
theorem zr_47_60 : zOK zPre 47 60 (s_s1 (nat_lit 45067) (nat_lit 8) (nat_lit 62)) := ok_s10 (t := 0) (i := 8) (zrow_istore (md := zmd_47) zh_47 (by decide +kernel) rfl)
theorem zr_47_62 : zOK zPre 47 62 (s_k (nat_lit 0) (nat_lit 63)) := ok_iconst (n := 0) (md := zmd_47) zh_47 (by decide +kernel) rfl (by decide +kernel)
theorem zr_47_63 : zOK zPre 47 63 (s_s1 (nat_lit 45067) (nat_lit 9) (nat_lit 65)) := ok_s10 (t := 0) (i := 9) (zrow_istore (md := zmd_47) zh_47 (by decide +kernel) rfl)
theorem zr_47_65 : zOK zPre 47 65 (s_ld (nat_lit 45067) (nat_lit 9) (nat_lit 67)) := ok_ld0 (t := 0) (i := 9) (zrow_iload (md := zmd_47) zh_47 (by decide +kernel) rfl)
theorem zr_47_67 : zOK zPre 47 67 (s_ld (nat_lit 45067) (nat_lit 7) (nat_lit 69)) := ok_ld0 (t := 0) (i := 7) (zrow_iload (md := zmd_47) zh_47 (by decide +kernel) rfl)
theorem zr_47_69 : zOK zPre 47 69 (s_ic (nat_lit 3) zu_ge (nat_lit 117) (nat_lit 72)) := ok_ic_ge (off := 48) (md := zmd_47) zh_47 (by decide +kernel) (by decide +kernel) rfl
theorem zr_47_72 : zOK zPre 47 72 (s_ld_1 (nat_lit 1136) (nat_lit 73)) := zokE (zld_1 _ _) (ok_ld0 (t := 4) (i := 1) (zrow_aload_n (k := 1) (md := zmd_47) zh_47 (by decide +kernel) rfl rfl))
theorem zr_47_73 : zOK zPre 47 73 (s_ld (nat_lit 45067) (nat_lit 9) (nat_lit 75)) := ok_ld0 (t := 0) (i := 9) (zrow_iload (md := zmd_47) zh_47 (by decide +kernel) rfl)
theorem zr_47_75 : zOK zPre 47 75 (s_call (nat_lit 7) (nat_lit 29) (nat_lit 2) (nat_lit 2) (nat_lit 1) [] (nat_lit 78)) := ok_call (md := zmd_47) zh_47 zh_29 rfl (by decide) (by decide) (Or.inr (by decide)) zp_29 (zrow_callV (mdc := zmd_29) (index := 49) (md := zmd_47) zh_47 (by decide +kernel) rfl rfl zc_29 rfl (by decide) zw_2_180 zw_2_181 zw_2_182 zw_1_3 zd_29) trivial
theorem zr_47_78 : zOK zPre 47 78 (s_ld_5 (nat_lit 45067) (nat_lit 80)) := zokE (zld_5 _ _) (ok_ld0 (t := 0) (i := 5) (zrow_iload (md := zmd_47) zh_47 (by decide +kernel) rfl))
theorem zr_47_80 : zOK zPre 47 80 (s_ld_2 (nat_lit 1136) (nat_lit 81)) := zokE (zld_2 _ _) (ok_ld0 (t := 4) (i := 2) (zrow_aload_n (k := 2) (md := zmd_47) zh_47 (by decide +kernel) rfl rfl))
theorem zr_47_81 : zOK zPre 47 81 (s_ld (nat_lit 45067) (nat_lit 9) (nat_lit 83)) := ok_ld0 (t := 0) (i := 9) (zrow_iload (md := zmd_47) zh_47 (by decide +kernel) rfl)
theorem zr_47_83 : zOK zPre 47 83 (s_call (nat_lit 7) (nat_lit 29) (nat_lit 2) (nat_lit 2) (nat_lit 1) [] (nat_lit 86)) := ok_call (md := zmd_47) zh_47 zh_29 rfl (by decide) (by decide) (Or.inr (by decide)) zp_29 (zrow_callV (mdc := zmd_29) (index := 49) (md := zmd_47) zh_47 (by decide +kernel) rfl rfl zc_29 rfl (by decide) zw_2_180 zw_2_181 zw_2_182 zw_1_3 zd_29) trivial
theorem zr_47_86 : zOK zPre 47 86 (s_imul (nat_lit 87)) := ok_imul (md := zmd_47) zh_47 (by decide +kernel) rfl
theorem zr_47_87 : zOK zPre 47 87 (s_iadd (nat_lit 88)) := ok_iadd (md := zmd_47) zh_47 (by decide +kernel) rfl
theorem zr_47_88 : zOK zPre 47 88 (s_ld (nat_lit 45067) (nat_lit 8) (nat_lit 90)) := ok_ld0 (t := 0) (i := 8) (zrow_iload (md := zmd_47) zh_47 (by decide +kernel) rfl)
theorem zr_47_90 : zOK zPre 47 90 (s_iadd (nat_lit 91)) := ok_iadd (md := zmd_47) zh_47 (by decide +kernel) rfl
theorem zr_47_91 : zOK zPre 47 91 (s_s1 (nat_lit 45067) (nat_lit 10) (nat_lit 93)) := ok_s10 (t := 0) (i := 10) (zrow_istore (md := zmd_47) zh_47 (by decide +kernel) rfl)
theorem zr_47_93 : zOK zPre 47 93 (s_ld_0 (nat_lit 1136) (nat_lit 94)) := zokE (zld_0 _ _) (ok_ld0 (t := 4) (i := 0) (zrow_aload_n (k := 0) (md := zmd_47) zh_47 (by decide +kernel) rfl rfl))
theorem zr_47_94 : zOK zPre 47 94 (s_ld (nat_lit 45067) (nat_lit 9) (nat_lit 96)) := ok_ld0 (t := 0) (i := 9) (zrow_iload (md := zmd_47) zh_47 (by decide +kernel) rfl)
theorem zr_47_96 : zOK zPre 47 96 (s_ld (nat_lit 45067) (nat_lit 10) (nat_lit 98)) := ok_ld0 (t := 0) (i := 10) (zrow_iload (md := zmd_47) zh_47 (by decide +kernel) rfl)
theorem zr_47_98 : zOK zPre 47 98 (s_k (nat_lit 17179869168) (nat_lit 100)) := ok_ldc (i := 76) (n := (1073741823 : Int32)) (md := zmd_47) zh_47 (by decide +kernel) rfl zw_2_214 (by decide +kernel)
theorem zr_47_100 : zOK zPre 47 100 (s_iand (nat_lit 101)) := ok_iand (md := zmd_47) zh_47 (by decide +kernel) rfl
theorem zr_47_101 : zOK zPre 47 101 (s_call (nat_lit 7) (nat_lit 12) (nat_lit 3) (nat_lit 3) (nat_lit 0) [] (nat_lit 104)) := ok_call (md := zmd_47) zh_47 zh_12 rfl (by decide) (by decide) (Or.inr (by decide)) zp_12 (zrow_callV (mdc := zmd_12) (index := 36) (md := zmd_47) zh_47 (by decide +kernel) rfl rfl zc_12 rfl (by decide) zw_2_69 zw_2_70 zw_2_71 zw_1_3 zd_12) trivial
theorem zr_47_104 : zOK zPre 47 104 (s_ld (nat_lit 45067) (nat_lit 10) (nat_lit 106)) := ok_ld0 (t := 0) (i := 10) (zrow_iload (md := zmd_47) zh_47 (by decide +kernel) rfl)
theorem zr_47_106 : zOK zPre 47 106 (s_k (nat_lit 480) (nat_lit 108)) := ok_bipush (n := 30) (md := zmd_47) zh_47 (by decide +kernel) rfl (by decide +kernel)
theorem zr_47_108 : zOK zPre 47 108 (s_ishr (nat_lit 109)) := ok_ishr (md := zmd_47) zh_47 (by decide +kernel) rfl
theorem zr_47_109 : zOK zPre 47 109 (s_s1 (nat_lit 45067) (nat_lit 8) (nat_lit 111)) := ok_s10 (t := 0) (i := 8) (zrow_istore (md := zmd_47) zh_47 (by decide +kernel) rfl)
theorem zr_47_111 : zOK zPre 47 111 (s_inc (nat_lit 9) (nat_lit 16) (nat_lit 114)) := ok_inc (n := 1) (md := zmd_47) zh_47 (by decide +kernel) rfl (by decide +kernel)
theorem zr_47_114 : zOK zPre 47 114 (s_go (nat_lit 65)) := ok_go (off := -49) (md := zmd_47) zh_47 (by decide +kernel) (by decide +kernel)
theorem zr_47_117 : zOK zPre 47 117 (s_ld (nat_lit 45067) (nat_lit 8) (nat_lit 119)) := ok_ld0 (t := 0) (i := 8) (zrow_iload (md := zmd_47) zh_47 (by decide +kernel) rfl)
theorem zr_47_119 : zOK zPre 47 119 (s_if (nat_lit 3) zi_ge (nat_lit 131) (nat_lit 122)) := ok_if_ge (off := 12) (md := zmd_47) zh_47 (by decide +kernel) (by decide +kernel) rfl
theorem zr_47_131 : zOK zPre 47 131 (s_ld_0 (nat_lit 1136) (nat_lit 132)) := zokE (zld_0 _ _) (ok_ld0 (t := 4) (i := 0) (zrow_aload_n (k := 0) (md := zmd_47) zh_47 (by decide +kernel) rfl rfl))
theorem zr_47_132 : zOK zPre 47 132 (s_ld (nat_lit 45067) (nat_lit 7) (nat_lit 134)) := ok_ld0 (t := 0) (i := 7) (zrow_iload (md := zmd_47) zh_47 (by decide +kernel) rfl)
theorem zr_47_134 : zOK zPre 47 134 (s_ld (nat_lit 45067) (nat_lit 6) (nat_lit 136)) := ok_ld0 (t := 0) (i := 6) (zrow_iload (md := zmd_47) zh_47 (by decide +kernel) rfl)
theorem zr_47_136 : zOK zPre 47 136 (s_call (nat_lit 7) (nat_lit 13) (nat_lit 4) (nat_lit 3) (nat_lit 0) [] (nat_lit 139)) := ok_call (md := zmd_47) zh_47 zh_13 rfl (by decide) (by decide) (Or.inr (by decide)) zp_13 (zrow_callV (mdc := zmd_13) (index := 40) (md := zmd_47) zh_47 (by decide +kernel) rfl rfl zc_13 rfl (by decide) zw_2_73 zw_2_74 zw_2_75 zw_1_3 zd_13) trivial
theorem zr_47_139 : zOK zPre 47 139 (s_rv) := ok_rv (md := zmd_47) zh_47 rfl (by decide +kernel)
theorem zr_48_0 : zOK zPre 48 0 (s_ld_0 (nat_lit 1136) (nat_lit 1)) := zokE (zld_0 _ _) (ok_ld0 (t := 4) (i := 0) (zrow_aload_n (k := 0) (md := zmd_48) zh_48 (by decide +kernel) rfl rfl))
theorem zr_48_1 : zOK zPre 48 1 (s_gf (nat_lit 8) (nat_lit 8) (nat_lit 4)) := ok_gf0 (by decide) (zrow_gf (index := 65) (ref := "Residueworks") (C := RX9) (T := TX9) (N := 10) (md := zmd_48) zh_48 (by decide +kernel) rfl rfl (by decide) zu_X9 zw_2_133 rfl)
theorem zr_48_4 : zOK zPre 48 4 (s_call (nat_lit 7) (nat_lit 27) (nat_lit 2) (nat_lit 1) (nat_lit 1) [] (nat_lit 7)) := ok_call (md := zmd_48) zh_48 zh_27 rfl (by decide) (by decide) (Or.inr (by decide)) zp_27 (zrow_callV (mdc := zmd_27) (index := 80) (md := zmd_48) zh_48 (by decide +kernel) rfl rfl zc_27 rfl (by decide) zw_2_172 zw_2_173 zw_2_174 zw_1_3 zd_27) trivial
theorem zr_48_7 : zOK zPre 48 7 (s_s1_2 (nat_lit 45067) (nat_lit 8)) := zokE (zs1_2 _ _) (ok_s10 (t := 0) (i := 2) (zrow_istore_n (k := 2) (md := zmd_48) zh_48 (by decide +kernel) rfl rfl))
theorem zr_48_8 : zOK zPre 48 8 (s_ld_2 (nat_lit 45067) (nat_lit 9)) := zokE (zld_2 _ _) (ok_ld0 (t := 0) (i := 2) (zrow_iload_n (k := 2) (md := zmd_48) zh_48 (by decide +kernel) rfl rfl))
theorem zr_48_9 : zOK zPre 48 9 (s_k (nat_lit 9600) (nat_lit 12)) := ok_sipush (n := 600) (md := zmd_48) zh_48 (by decide +kernel) rfl (by decide +kernel)
theorem zr_48_12 : zOK zPre 48 12 (s_ic (nat_lit 5) zu_le (nat_lit 25) (nat_lit 15)) := ok_ic_le (off := 13) (md := zmd_48) zh_48 (by decide +kernel) (by decide +kernel) rfl
theorem zr_48_25 : zOK zPre 48 25 (s_ld_1 (nat_lit 1136) (nat_lit 26)) := zokE (zld_1 _ _) (ok_ld0 (t := 4) (i := 1) (zrow_aload_n (k := 1) (md := zmd_48) zh_48 (by decide +kernel) rfl rfl))
theorem zr_48_26 : zOK zPre 48 26 (s_ld_0 (nat_lit 1136) (nat_lit 27)) := zokE (zld_0 _ _) (ok_ld0 (t := 4) (i := 0) (zrow_aload_n (k := 0) (md := zmd_48) zh_48 (by decide +kernel) rfl rfl))
theorem zr_48_27 : zOK zPre 48 27 (s_gf (nat_lit 8) (nat_lit 8) (nat_lit 30)) := ok_gf0 (by decide) (zrow_gf (index := 65) (ref := "Residueworks") (C := RX9) (T := TX9) (N := 10) (md := zmd_48) zh_48 (by decide +kernel) rfl rfl (by decide) zu_X9 zw_2_133 rfl)
theorem zr_48_30 : zOK zPre 48 30 (s_call (nat_lit 7) (nat_lit 49) (nat_lit 2) (nat_lit 2) (nat_lit 0) [] (nat_lit 33)) := ok_call (md := zmd_48) zh_48 zh_49 rfl (by decide) (by decide) (Or.inr (by decide)) zp_49 (zrow_callV (mdc := zmd_49) (index := 99) (md := zmd_48) zh_48 (by decide +kernel) rfl rfl zc_49 rfl (by decide) zw_3_132 zw_3_133 zw_3_134 zw_1_3 zd_49) trivial
theorem zr_48_33 : zOK zPre 48 33 (s_ld_2 (nat_lit 45067) (nat_lit 34)) := zokE (zld_2 _ _) (ok_ld0 (t := 0) (i := 2) (zrow_iload_n (k := 2) (md := zmd_48) zh_48 (by decide +kernel) rfl rfl))
theorem zr_48_34 : zOK zPre 48 34 (s_ret (nat_lit 45067)) := ok_ret0 (t := 0) (i := .ireturn) (ty := .int) (md := zmd_48) zh_48 rfl (by decide +kernel) ⟨rfl, rfl⟩
theorem zr_49_0 : zOK zPre 49 0 (s_ld_1 (nat_lit 1136) (nat_lit 1)) := zokE (zld_1 _ _) (ok_ld0 (t := 4) (i := 1) (zrow_aload_n (k := 1) (md := zmd_49) zh_49 (by decide +kernel) rfl rfl))
theorem zr_49_1 : zOK zPre 49 1 (s_gf (nat_lit 7) (nat_lit 0) (nat_lit 4)) := ok_gf0 (by decide) (zrow_gf (index := 9) (ref := "Residueworks$Whole") (C := RX8) (T := TX8) (N := 3) (md := zmd_49) zh_49 (by decide +kernel) rfl rfl (by decide) zu_X8 zw_1_64 rfl)
theorem zr_49_4 : zOK zPre 49 4 (s_k (nat_lit 0) (nat_lit 5)) := ok_iconst (n := 0) (md := zmd_49) zh_49 (by decide +kernel) rfl (by decide +kernel)
theorem zr_49_5 : zOK zPre 49 5 (s_ld_0 (nat_lit 1136) (nat_lit 6)) := zokE (zld_0 _ _) (ok_ld0 (t := 4) (i := 0) (zrow_aload_n (k := 0) (md := zmd_49) zh_49 (by decide +kernel) rfl rfl))
theorem zr_49_6 : zOK zPre 49 6 (s_gf (nat_lit 7) (nat_lit 0) (nat_lit 9)) := ok_gf0 (by decide) (zrow_gf (index := 9) (ref := "Residueworks$Whole") (C := RX8) (T := TX8) (N := 3) (md := zmd_49) zh_49 (by decide +kernel) rfl rfl (by decide) zu_X8 zw_1_64 rfl)
theorem zr_49_9 : zOK zPre 49 9 (s_k (nat_lit 0) (nat_lit 10)) := ok_iconst (n := 0) (md := zmd_49) zh_49 (by decide +kernel) rfl (by decide +kernel)
theorem zr_49_10 : zOK zPre 49 10 (s_k (nat_lit 672) (nat_lit 12)) := ok_bipush (n := 42) (md := zmd_49) zh_49 (by decide +kernel) rfl (by decide +kernel)
theorem zr_49_12 : zOK zPre 49 12 (s_cp (nat_lit 15)) := ok_cp (index := 20) (md := zmd_49) zh_49 (by decide +kernel) rfl zw_3_136 zw_3_138 zw_3_137 zw_1_20
theorem zr_49_15 : zOK zPre 49 15 (s_ld_0 (nat_lit 1136) (nat_lit 16)) := zokE (zld_0 _ _) (ok_ld0 (t := 4) (i := 0) (zrow_aload_n (k := 0) (md := zmd_49) zh_49 (by decide +kernel) rfl rfl))
theorem zr_49_16 : zOK zPre 49 16 (s_ld_1 (nat_lit 1136) (nat_lit 17)) := zokE (zld_1 _ _) (ok_ld0 (t := 4) (i := 1) (zrow_aload_n (k := 1) (md := zmd_49) zh_49 (by decide +kernel) rfl rfl))
theorem zr_49_17 : zOK zPre 49 17 (s_gf (nat_lit 7) (nat_lit 1) (nat_lit 20)) := ok_gf0 (by decide) (zrow_gf (index := 13) (ref := "Residueworks$Whole") (C := RX8) (T := TX8) (N := 3) (md := zmd_49) zh_49 (by decide +kernel) rfl rfl (by decide) zu_X8 zw_1_66 rfl)
theorem zr_49_20 : zOK zPre 49 20 (s_pf (nat_lit 7) (nat_lit 1) (nat_lit 0) (nat_lit 23)) := ok_pf0 (by decide) (zrow_pf (ty := .int) (index := 13) (ref := "Residueworks$Whole") (C := RX8) (T := TX8) (N := 3) (ty0 := tyX8) (md := zmd_49) zh_49 (by decide +kernel) rfl rfl (by decide) zu_X8 tyX8_ok nmX8 zw_1_66 rfl rfl (by decide +kernel) zfty0)
theorem zr_49_23 : zOK zPre 49 23 (s_ld_0 (nat_lit 1136) (nat_lit 24)) := zokE (zld_0 _ _) (ok_ld0 (t := 4) (i := 0) (zrow_aload_n (k := 0) (md := zmd_49) zh_49 (by decide +kernel) rfl rfl))
theorem zr_49_24 : zOK zPre 49 24 (s_ld_1 (nat_lit 1136) (nat_lit 25)) := zokE (zld_1 _ _) (ok_ld0 (t := 4) (i := 1) (zrow_aload_n (k := 1) (md := zmd_49) zh_49 (by decide +kernel) rfl rfl))
theorem zr_49_25 : zOK zPre 49 25 (s_gf (nat_lit 7) (nat_lit 2) (nat_lit 28)) := ok_gf0 (by decide) (zrow_gf (index := 17) (ref := "Residueworks$Whole") (C := RX8) (T := TX8) (N := 3) (md := zmd_49) zh_49 (by decide +kernel) rfl rfl (by decide) zu_X8 zw_1_69 rfl)
theorem zr_49_28 : zOK zPre 49 28 (s_pf (nat_lit 7) (nat_lit 2) (nat_lit 0) (nat_lit 31)) := ok_pf0 (by decide) (zrow_pf (ty := .int) (index := 17) (ref := "Residueworks$Whole") (C := RX8) (T := TX8) (N := 3) (ty0 := tyX8) (md := zmd_49) zh_49 (by decide +kernel) rfl rfl (by decide) zu_X8 tyX8_ok nmX8 zw_1_69 rfl rfl (by decide +kernel) zfty0)
theorem zr_49_31 : zOK zPre 49 31 (s_rv) := ok_rv (md := zmd_49) zh_49 rfl (by decide +kernel)
theorem zr_50_0 : zOK zPre 50 0 (s_ld_0 (nat_lit 1136) (nat_lit 1)) := zokE (zld_0 _ _) (ok_ld0 (t := 4) (i := 0) (zrow_aload_n (k := 0) (md := zmd_50) zh_50 (by decide +kernel) rfl rfl))
theorem zr_50_1 : zOK zPre 50 1 (s_k (nat_lit 16) (nat_lit 2)) := ok_iconst (n := 1) (md := zmd_50) zh_50 (by decide +kernel) rfl (by decide +kernel)
theorem zr_50_2 : zOK zPre 50 2 (s_na (nat_lit 20) (nat_lit 0) (nat_lit 4)) := ok_na0 (by decide) rfl (zrow_na20 (md := zmd_50) zh_50 (by decide +kernel) rfl zw_1_83)
theorem zr_50_4 : zOK zPre 50 4 (s_dup (nat_lit 5)) := ok_dup (md := zmd_50) zh_50 (by decide +kernel) rfl
theorem zr_50_5 : zOK zPre 50 5 (s_k (nat_lit 0) (nat_lit 6)) := ok_iconst (n := 0) (md := zmd_50) zh_50 (by decide +kernel) rfl (by decide +kernel)
theorem zr_50_6 : zOK zPre 50 6 (s_ld_1 (nat_lit 45067) (nat_lit 7)) := zokE (zld_1 _ _) (ok_ld0 (t := 0) (i := 1) (zrow_iload_n (k := 1) (md := zmd_50) zh_50 (by decide +kernel) rfl rfl))
theorem zr_50_7 : zOK zPre 50 7 (s_ast (nat_lit 20) (nat_lit 0) (nat_lit 8)) := ok_astI (Or.inl rfl) (Or.inl rfl) (zrow_iastore (md := zmd_50) zh_50 (by decide +kernel) rfl)
theorem zr_50_8 : zOK zPre 50 8 (s_call (nat_lit 99) (nat_lit 32) (nat_lit 6) (nat_lit 1) (nat_lit 1) [] (nat_lit 11)) := ok_call (md := zmd_50) zh_50 zh_32 rfl (by decide) (by decide) (Or.inl rfl) zp_32 (zrow_callS (mdc := zmd_32) (index := 176) (md := zmd_50) zh_50 (by decide +kernel) rfl rfl zc_32 zw_7_74 zw_7_75 zw_1_10 zd_32) trivial
theorem zr_50_11 : zOK zPre 50 11 (s_k (nat_lit 16) (nat_lit 12)) := ok_iconst (n := 1) (md := zmd_50) zh_50 (by decide +kernel) rfl (by decide +kernel)
theorem zr_50_12 : zOK zPre 50 12 (s_call (nat_lit 10) (nat_lit 34) (nat_lit 3) (nat_lit 3) (nat_lit 1) [] (nat_lit 15)) := ok_call (md := zmd_50) zh_50 zh_34 rfl (by decide) (by decide) (Or.inr (by decide)) zp_34 (zrow_callV (mdc := zmd_34) (index := 180) (md := zmd_50) zh_50 (by decide +kernel) rfl rfl zc_34 rfl (by decide) zw_7_81 zw_7_83 zws_33 zw_1_10 zd_34) trivial
theorem zr_50_15 : zOK zPre 50 15 (s_if (nat_lit 0) zi_eq (nat_lit 20) (nat_lit 18)) := ok_if_eq (off := 5) (md := zmd_50) zh_50 (by decide +kernel) (by decide +kernel) rfl
theorem zr_50_18 : zOK zPre 50 18 (s_k (nat_lit 0) (nat_lit 19)) := ok_iconst (n := 0) (md := zmd_50) zh_50 (by decide +kernel) rfl (by decide +kernel)
theorem zr_50_19 : zOK zPre 50 19 (s_ret (nat_lit 45067)) := ok_ret0 (t := 0) (i := .ireturn) (ty := .int) (md := zmd_50) zh_50 rfl (by decide +kernel) ⟨rfl, rfl⟩
theorem zr_50_20 : zOK zPre 50 20 (s_ld_0 (nat_lit 1136) (nat_lit 21)) := zokE (zld_0 _ _) (ok_ld0 (t := 4) (i := 0) (zrow_aload_n (k := 0) (md := zmd_50) zh_50 (by decide +kernel) rfl rfl))
theorem zr_50_21 : zOK zPre 50 21 (s_gf (nat_lit 10) (nat_lit 0) (nat_lit 24)) := ok_gf0 (by decide) (zrow_gf (index := 144) (ref := "ResidueworksModel") (C := RX11) (T := TX11) (N := 6) (md := zmd_50) zh_50 (by decide +kernel) rfl rfl (by decide) zu_X11 zw_7_47 rfl)
theorem zr_50_24 : zOK zPre 50 24 (s_ld_1 (nat_lit 45067) (nat_lit 25)) := zokE (zld_1 _ _) (ok_ld0 (t := 0) (i := 1) (zrow_iload_n (k := 1) (md := zmd_50) zh_50 (by decide +kernel) rfl rfl))
theorem zr_50_25 : zOK zPre 50 25 (s_ald (nat_lit 25) (nat_lit 29) (nat_lit 26)) := ok_ald0 (by decide) (by decide) (by decide) (zrow_aaload (md := zmd_50) zh_50 (by decide +kernel) rfl)
theorem zr_50_26 : zOK zPre 50 26 (s_k (nat_lit 1024) (nat_lit 28)) := ok_bipush (n := 64) (md := zmd_50) zh_50 (by decide +kernel) rfl (by decide +kernel)
theorem zr_50_28 : zOK zPre 50 28 (s_call (nat_lit 9) (nat_lit 51) (nat_lit 2) (nat_lit 2) (nat_lit 1) [] (nat_lit 31)) := ok_call (md := zmd_50) zh_50 zh_51 rfl (by decide) (by decide) (Or.inr (by decide)) zp_51 (zrow_callVN (mdc := zmd_51) (index := 188) (md := zmd_50) zh_50 (by decide +kernel) rfl rfl zc_51 rfl (by decide) zw_7_109 zw_7_111 zws_37 zw_1_19 zd_51) trivial
theorem zr_50_31 : zOK zPre 50 31 (s_ld_2 (nat_lit 18436) (nat_lit 32)) := zokE (zld_2 _ _) (ok_ld0 (t := 1) (i := 2) (zrow_lload_n (k := 2) (md := zmd_50) zh_50 (by decide +kernel) rfl rfl))
theorem zr_50_32 : zOK zPre 50 32 (s_call (nat_lit 99) (nat_lit 53) (nat_lit 4) (nat_lit 1) (nat_lit 1) [] (nat_lit 35)) := ok_call (md := zmd_50) zh_50 zh_53 rfl (by decide) (by decide) (Or.inl rfl) zp_53 (zrow_callS (mdc := zmd_53) (index := 192) (md := zmd_50) zh_50 (by decide +kernel) rfl rfl zc_53 zw_7_150 zw_7_151 zw_1_10 zd_53) trivial
theorem zr_50_35 : zOK zPre 50 35 (s_call (nat_lit 9) (nat_lit 54) (nat_lit 3) (nat_lit 2) (nat_lit 1) [] (nat_lit 38)) := ok_call (md := zmd_50) zh_50 zh_54 rfl (by decide) (by decide) (Or.inr (by decide)) zp_54 (zrow_callVN (mdc := zmd_54) (index := 113) (md := zmd_50) zh_50 (by decide +kernel) rfl rfl zc_54 rfl (by decide) zw_7_153 zw_7_139 zws_41 zw_1_19 zd_54) trivial
theorem zr_50_38 : zOK zPre 50 38 (s_s1_4 (nat_lit 1136) (nat_lit 40)) := zokE (zs1_4 _ _) (ok_s10 (t := 4) (i := 4) (zrow_astore (md := zmd_50) zh_50 (by decide +kernel) rfl))
theorem zr_50_40 : zOK zPre 50 40 (s_ld_0 (nat_lit 1136) (nat_lit 41)) := zokE (zld_0 _ _) (ok_ld0 (t := 4) (i := 0) (zrow_aload_n (k := 0) (md := zmd_50) zh_50 (by decide +kernel) rfl rfl))
theorem zr_50_41 : zOK zPre 50 41 (s_ld_4 (nat_lit 1136) (nat_lit 43)) := zokE (zld_4 _ _) (ok_ld0 (t := 4) (i := 4) (zrow_aload (md := zmd_50) zh_50 (by decide +kernel) rfl))
theorem zr_50_43 : zOK zPre 50 43 (s_call (nat_lit 99) (nat_lit 55) (nat_lit 1) (nat_lit 1) (nat_lit 1) [] (nat_lit 46)) := ok_call (md := zmd_50) zh_50 zh_55 rfl (by decide) (by decide) (Or.inl rfl) zp_55 (zrow_callS (mdc := zmd_55) (index := 195) (md := zmd_50) zh_50 (by decide +kernel) rfl rfl zc_55 zw_7_154 zw_7_155 zw_1_10 zd_55) trivial
theorem zr_50_46 : zOK zPre 50 46 (s_k (nat_lit 32) (nat_lit 47)) := ok_iconst (n := 2) (md := zmd_50) zh_50 (by decide +kernel) rfl (by decide +kernel)
theorem zr_50_47 : zOK zPre 50 47 (s_call (nat_lit 10) (nat_lit 34) (nat_lit 3) (nat_lit 3) (nat_lit 1) [] (nat_lit 50)) := ok_call (md := zmd_50) zh_50 zh_34 rfl (by decide) (by decide) (Or.inr (by decide)) zp_34 (zrow_callV (mdc := zmd_34) (index := 180) (md := zmd_50) zh_50 (by decide +kernel) rfl rfl zc_34 rfl (by decide) zw_7_81 zw_7_83 zws_33 zw_1_10 zd_34) trivial
theorem zr_50_50 : zOK zPre 50 50 (s_if (nat_lit 0) zi_eq (nat_lit 57) (nat_lit 53)) := ok_if_eq (off := 7) (md := zmd_50) zh_50 (by decide +kernel) (by decide +kernel) rfl
theorem zr_50_57 : zOK zPre 50 57 (s_ld_0 (nat_lit 1136) (nat_lit 58)) := zokE (zld_0 _ _) (ok_ld0 (t := 4) (i := 0) (zrow_aload_n (k := 0) (md := zmd_50) zh_50 (by decide +kernel) rfl rfl))
theorem zr_50_58 : zOK zPre 50 58 (s_ld_1 (nat_lit 45067) (nat_lit 59)) := zokE (zld_1 _ _) (ok_ld0 (t := 0) (i := 1) (zrow_iload_n (k := 1) (md := zmd_50) zh_50 (by decide +kernel) rfl rfl))
theorem zr_50_59 : zOK zPre 50 59 (s_ld_4 (nat_lit 1136) (nat_lit 61)) := zokE (zld_4 _ _) (ok_ld0 (t := 4) (i := 4) (zrow_aload (md := zmd_50) zh_50 (by decide +kernel) rfl))
theorem zr_50_61 : zOK zPre 50 61 (s_call (nat_lit 10) (nat_lit 35) (nat_lit 3) (nat_lit 3) (nat_lit 1) [] (nat_lit 64)) := ok_call (md := zmd_50) zh_50 zh_35 rfl (by decide) (by decide) (Or.inr (by decide)) zp_35 (zrow_callV (mdc := zmd_35) (index := 184) (md := zmd_50) zh_50 (by decide +kernel) rfl rfl zc_35 rfl (by decide) zw_7_85 zw_7_87 zws_34 zw_1_10 zd_35) trivial
theorem zr_50_64 : zOK zPre 50 64 (s_ret (nat_lit 45067)) := ok_ret0 (t := 0) (i := .ireturn) (ty := .int) (md := zmd_50) zh_50 rfl (by decide +kernel) ⟨rfl, rfl⟩
theorem zr_51_0 : zOK zPre 51 0 (s_ld_1 (nat_lit 45067) (nat_lit 1)) := zokE (zld_1 _ _) (ok_ld0 (t := 0) (i := 1) (zrow_iload_n (k := 1) (md := zmd_51) zh_51 (by decide +kernel) rfl rfl))
theorem zr_51_1 : zOK zPre 51 1 (s_if (nat_lit 2) zi_lt (nat_lit 24) (nat_lit 4)) := ok_if_lt (off := 23) (md := zmd_51) zh_51 (by decide +kernel) (by decide +kernel) rfl
theorem zr_51_4 : zOK zPre 51 4 (s_new (nat_lit 9) (nat_lit 2) [(nat_lit 0), (nat_lit 5)] (nat_lit 7)) := ok_new0 (fsV := zfv_X10) (by decide) zfs_X10 (zrow_new (index := 8) (C := RX10) (T := TX10) (N := 2) (ty0 := tyX10) (md := zmd_51) zh_51 (by decide +kernel) rfl rfl zu_X10 tyX10_ok zw_7_113 zw_7_29 zw_1_19 zdf_X10)
theorem zr_51_7 : zOK zPre 51 7 (s_dup (nat_lit 8)) := ok_dup (md := zmd_51) zh_51 (by decide +kernel) rfl
theorem zr_51_8 : zOK zPre 51 8 (s_ld_0 (nat_lit 1136) (nat_lit 9)) := zokE (zld_0 _ _) (ok_ld0 (t := 4) (i := 0) (zrow_aload_n (k := 0) (md := zmd_51) zh_51 (by decide +kernel) rfl rfl))
theorem zr_51_9 : zOK zPre 51 9 (s_gf (nat_lit 9) (nat_lit 0) (nat_lit 12)) := ok_gf0 (by decide) (zrow_gf (index := 7) (ref := "ResidueworksModel$Whole") (C := RX10) (T := TX10) (N := 2) (md := zmd_51) zh_51 (by decide +kernel) rfl rfl (by decide) zu_X10 zw_7_38 rfl)
theorem zr_51_12 : zOK zPre 51 12 (s_ld_0 (nat_lit 1136) (nat_lit 13)) := zokE (zld_0 _ _) (ok_ld0 (t := 4) (i := 0) (zrow_aload_n (k := 0) (md := zmd_51) zh_51 (by decide +kernel) rfl rfl))
theorem zr_51_13 : zOK zPre 51 13 (s_gf (nat_lit 9) (nat_lit 1) (nat_lit 16)) := ok_gf0 (by decide) (zrow_gf (index := 13) (ref := "ResidueworksModel$Whole") (C := RX10) (T := TX10) (N := 2) (md := zmd_51) zh_51 (by decide +kernel) rfl rfl (by decide) zu_X10 zw_7_40 rfl)
theorem zr_51_16 : zOK zPre 51 16 (s_ld_1 (nat_lit 45067) (nat_lit 17)) := zokE (zld_1 _ _) (ok_ld0 (t := 0) (i := 1) (zrow_iload_n (k := 1) (md := zmd_51) zh_51 (by decide +kernel) rfl rfl))
theorem zr_51_17 : zOK zPre 51 17 (s_call (nat_lit 99) (nat_lit 52) (nat_lit 5) (nat_lit 2) (nat_lit 1) [] (nat_lit 20)) := ok_call (md := zmd_51) zh_51 zh_52 rfl (by decide) (by decide) (Or.inl rfl) zp_52 (zrow_callSN (mdc := zmd_52) (index := 74) (md := zmd_51) zh_51 (by decide +kernel) rfl rfl zc_52 zw_7_114 zw_7_115 zw_1_10 zd_52) trivial
theorem zr_51_20 : zOK zPre 51 20 (s_call (nat_lit 9) (nat_lit 23) (nat_lit 3) (nat_lit 3) (nat_lit 0) [] (nat_lit 23)) := ok_call (md := zmd_51) zh_51 zh_23 rfl (by decide) (by decide) (Or.inr (by decide)) zp_23 (zrow_callI (mdc := zmd_23) (index := 17) (md := zmd_51) zh_51 (by decide +kernel) rfl rfl rfl rfl zc_23 (by decide) zw_7_117 zw_7_35 zw_1_19 zd_23) trivial
theorem zr_51_23 : zOK zPre 51 23 (s_ret (nat_lit 1136)) := ok_ret0 (t := 4) (i := .areturn) (md := zmd_51) zh_51 rfl (by decide +kernel) ⟨Or.inl ⟨_, rfl⟩, rfl⟩
theorem zr_51_24 : zOK zPre 51 24 (s_ld_0 (nat_lit 1136) (nat_lit 25)) := zokE (zld_0 _ _) (ok_ld0 (t := 4) (i := 0) (zrow_aload_n (k := 0) (md := zmd_51) zh_51 (by decide +kernel) rfl rfl))
theorem zr_51_25 : zOK zPre 51 25 (s_call (nat_lit 9) (nat_lit 68) (nat_lit 1) (nat_lit 1) (nat_lit 1) [] (nat_lit 28)) := ok_call (md := zmd_51) zh_51 zh_68 rfl (by decide) (by decide) (Or.inr (by decide)) zp_68 (zrow_callV (mdc := zmd_68) (index := 52) (md := zmd_51) zh_51 (by decide +kernel) rfl rfl zc_68 rfl (by decide) zw_7_118 zw_7_120 zws_38 zw_1_19 zd_68) trivial
theorem zr_51_28 : zOK zPre 51 28 (s_if (nat_lit 0) zi_eq (nat_lit 54) (nat_lit 31)) := ok_if_eq (off := 26) (md := zmd_51) zh_51 (by decide +kernel) (by decide +kernel) rfl
theorem zr_51_54 : zOK zPre 51 54 (s_new (nat_lit 9) (nat_lit 2) [(nat_lit 0), (nat_lit 5)] (nat_lit 57)) := ok_new0 (fsV := zfv_X10) (by decide) zfs_X10 (zrow_new (index := 8) (C := RX10) (T := TX10) (N := 2) (ty0 := tyX10) (md := zmd_51) zh_51 (by decide +kernel) rfl rfl zu_X10 tyX10_ok zw_7_113 zw_7_29 zw_1_19 zdf_X10)
theorem zr_51_57 : zOK zPre 51 57 (s_dup (nat_lit 58)) := ok_dup (md := zmd_51) zh_51 (by decide +kernel) rfl
theorem zr_51_58 : zOK zPre 51 58 (s_k (nat_lit 16) (nat_lit 59)) := ok_iconst (n := 1) (md := zmd_51) zh_51 (by decide +kernel) rfl (by decide +kernel)
theorem zr_51_59 : zOK zPre 51 59 (s_ld_0 (nat_lit 1136) (nat_lit 60)) := zokE (zld_0 _ _) (ok_ld0 (t := 4) (i := 0) (zrow_aload_n (k := 0) (md := zmd_51) zh_51 (by decide +kernel) rfl rfl))
theorem zr_51_60 : zOK zPre 51 60 (s_gf (nat_lit 9) (nat_lit 1) (nat_lit 63)) := ok_gf0 (by decide) (zrow_gf (index := 13) (ref := "ResidueworksModel$Whole") (C := RX10) (T := TX10) (N := 2) (md := zmd_51) zh_51 (by decide +kernel) rfl rfl (by decide) zu_X10 zw_7_40 rfl)
theorem zr_51_63 : zOK zPre 51 63 (s_ld_1 (nat_lit 45067) (nat_lit 64)) := zokE (zld_1 _ _) (ok_ld0 (t := 0) (i := 1) (zrow_iload_n (k := 1) (md := zmd_51) zh_51 (by decide +kernel) rfl rfl))
theorem zr_51_64 : zOK zPre 51 64 (s_ineg (nat_lit 65)) := ok_ineg (md := zmd_51) zh_51 (by decide +kernel) rfl
theorem zr_51_65 : zOK zPre 51 65 (s_call (nat_lit 99) (nat_lit 130) (nat_lit 6) (nat_lit 2) (nat_lit 1) [] (nat_lit 68)) := ok_call (md := zmd_51) zh_51 zh_130 rfl (by decide) (by decide) (Or.inl rfl) zp_130 (zrow_callSN (mdc := zmd_130) (index := 78) (md := zmd_51) zh_51 (by decide +kernel) rfl rfl zc_130 zw_7_122 zw_7_123 zw_1_10 zd_130) trivial
theorem zr_51_68 : zOK zPre 51 68 (s_call (nat_lit 9) (nat_lit 23) (nat_lit 3) (nat_lit 3) (nat_lit 0) [] (nat_lit 71)) := ok_call (md := zmd_51) zh_51 zh_23 rfl (by decide) (by decide) (Or.inr (by decide)) zp_23 (zrow_callI (mdc := zmd_23) (index := 17) (md := zmd_51) zh_51 (by decide +kernel) rfl rfl rfl rfl zc_23 (by decide) zw_7_117 zw_7_35 zw_1_19 zd_23) trivial
theorem zr_51_71 : zOK zPre 51 71 (s_ret (nat_lit 1136)) := ok_ret0 (t := 4) (i := .areturn) (md := zmd_51) zh_51 rfl (by decide +kernel) ⟨Or.inl ⟨_, rfl⟩, rfl⟩
theorem zr_52_0 : zOK zPre 52 0 (s_ld_0 (nat_lit 1136) (nat_lit 1)) := zokE (zld_0 _ _) (ok_ld0 (t := 4) (i := 0) (zrow_aload_n (k := 0) (md := zmd_52) zh_52 (by decide +kernel) rfl rfl))
theorem zr_52_1 : zOK zPre 52 1 (s_al (nat_lit 2)) := ok_al (md := zmd_52) zh_52 (by decide +kernel) rfl
theorem zr_52_2 : zOK zPre 52 2 (s_ld_1 (nat_lit 45067) (nat_lit 3)) := zokE (zld_1 _ _) (ok_ld0 (t := 0) (i := 1) (zrow_iload_n (k := 1) (md := zmd_52) zh_52 (by decide +kernel) rfl rfl))
theorem zr_52_3 : zOK zPre 52 3 (s_k (nat_lit 256) (nat_lit 5)) := ok_bipush (n := 16) (md := zmd_52) zh_52 (by decide +kernel) rfl (by decide +kernel)
theorem zr_52_5 : zOK zPre 52 5 (s_idiv (nat_lit 6)) := ok_idiv (md := zmd_52) zh_52 (by decide +kernel) rfl
theorem zr_52_6 : zOK zPre 52 6 (s_iadd (nat_lit 7)) := ok_iadd (md := zmd_52) zh_52 (by decide +kernel) rfl
theorem zr_52_7 : zOK zPre 52 7 (s_k (nat_lit 16) (nat_lit 8)) := ok_iconst (n := 1) (md := zmd_52) zh_52 (by decide +kernel) rfl (by decide +kernel)
theorem zr_52_8 : zOK zPre 52 8 (s_iadd (nat_lit 9)) := ok_iadd (md := zmd_52) zh_52 (by decide +kernel) rfl
theorem zr_52_9 : zOK zPre 52 9 (s_na (nat_lit 20) (nat_lit 0) (nat_lit 11)) := ok_na0 (by decide) rfl (zrow_na20 (md := zmd_52) zh_52 (by decide +kernel) rfl zw_1_83)
theorem zr_52_11 : zOK zPre 52 11 (s_s1_2 (nat_lit 1136) (nat_lit 12)) := zokE (zs1_2 _ _) (ok_s10 (t := 4) (i := 2) (zrow_astore_n (k := 2) (md := zmd_52) zh_52 (by decide +kernel) rfl rfl))
theorem zr_52_12 : zOK zPre 52 12 (s_k (nat_lit 0) (nat_lit 13)) := ok_iconst (n := 0) (md := zmd_52) zh_52 (by decide +kernel) rfl (by decide +kernel)
theorem zr_52_13 : zOK zPre 52 13 (s_s1_3 (nat_lit 45067) (nat_lit 14)) := zokE (zs1_3 _ _) (ok_s10 (t := 0) (i := 3) (zrow_istore_n (k := 3) (md := zmd_52) zh_52 (by decide +kernel) rfl rfl))
theorem zr_52_14 : zOK zPre 52 14 (s_ld_3 (nat_lit 45067) (nat_lit 15)) := zokE (zld_3 _ _) (ok_ld0 (t := 0) (i := 3) (zrow_iload_n (k := 3) (md := zmd_52) zh_52 (by decide +kernel) rfl rfl))
theorem zr_52_15 : zOK zPre 52 15 (s_ld_0 (nat_lit 1136) (nat_lit 16)) := zokE (zld_0 _ _) (ok_ld0 (t := 4) (i := 0) (zrow_aload_n (k := 0) (md := zmd_52) zh_52 (by decide +kernel) rfl rfl))
theorem zr_52_16 : zOK zPre 52 16 (s_al (nat_lit 17)) := ok_al (md := zmd_52) zh_52 (by decide +kernel) rfl
theorem zr_52_17 : zOK zPre 52 17 (s_ic (nat_lit 3) zu_ge (nat_lit 70) (nat_lit 20)) := ok_ic_ge (off := 53) (md := zmd_52) zh_52 (by decide +kernel) (by decide +kernel) rfl
theorem zr_52_20 : zOK zPre 52 20 (s_ld_0 (nat_lit 1136) (nat_lit 21)) := zokE (zld_0 _ _) (ok_ld0 (t := 4) (i := 0) (zrow_aload_n (k := 0) (md := zmd_52) zh_52 (by decide +kernel) rfl rfl))
theorem zr_52_21 : zOK zPre 52 21 (s_ld_3 (nat_lit 45067) (nat_lit 22)) := zokE (zld_3 _ _) (ok_ld0 (t := 0) (i := 3) (zrow_iload_n (k := 3) (md := zmd_52) zh_52 (by decide +kernel) rfl rfl))
theorem zr_52_22 : zOK zPre 52 22 (s_ald (nat_lit 20) (nat_lit 20) (nat_lit 23)) := ok_ald0 (by decide) (by decide) (by decide) (zrow_iaload (md := zmd_52) zh_52 (by decide +kernel) rfl)
theorem zr_52_23 : zOK zPre 52 23 (s_ld_1 (nat_lit 45067) (nat_lit 24)) := zokE (zld_1 _ _) (ok_ld0 (t := 0) (i := 1) (zrow_iload_n (k := 1) (md := zmd_52) zh_52 (by decide +kernel) rfl rfl))
theorem zr_52_24 : zOK zPre 52 24 (s_k (nat_lit 256) (nat_lit 26)) := ok_bipush (n := 16) (md := zmd_52) zh_52 (by decide +kernel) rfl (by decide +kernel)
theorem zr_52_26 : zOK zPre 52 26 (s_irem (nat_lit 27)) := ok_irem (md := zmd_52) zh_52 (by decide +kernel) rfl
theorem zr_52_27 : zOK zPre 52 27 (s_ishl (nat_lit 28)) := ok_ishl (md := zmd_52) zh_52 (by decide +kernel) rfl
theorem zr_52_28 : zOK zPre 52 28 (s_s1_4 (nat_lit 45067) (nat_lit 30)) := zokE (zs1_4 _ _) (ok_s10 (t := 0) (i := 4) (zrow_istore (md := zmd_52) zh_52 (by decide +kernel) rfl))
theorem zr_52_30 : zOK zPre 52 30 (s_ld_2 (nat_lit 1136) (nat_lit 31)) := zokE (zld_2 _ _) (ok_ld0 (t := 4) (i := 2) (zrow_aload_n (k := 2) (md := zmd_52) zh_52 (by decide +kernel) rfl rfl))
theorem zr_52_31 : zOK zPre 52 31 (s_ld_3 (nat_lit 45067) (nat_lit 32)) := zokE (zld_3 _ _) (ok_ld0 (t := 0) (i := 3) (zrow_iload_n (k := 3) (md := zmd_52) zh_52 (by decide +kernel) rfl rfl))
theorem zr_52_32 : zOK zPre 52 32 (s_ld_1 (nat_lit 45067) (nat_lit 33)) := zokE (zld_1 _ _) (ok_ld0 (t := 0) (i := 1) (zrow_iload_n (k := 1) (md := zmd_52) zh_52 (by decide +kernel) rfl rfl))
theorem zr_52_33 : zOK zPre 52 33 (s_k (nat_lit 256) (nat_lit 35)) := ok_bipush (n := 16) (md := zmd_52) zh_52 (by decide +kernel) rfl (by decide +kernel)
theorem zr_52_35 : zOK zPre 52 35 (s_idiv (nat_lit 36)) := ok_idiv (md := zmd_52) zh_52 (by decide +kernel) rfl
theorem zr_52_36 : zOK zPre 52 36 (s_iadd (nat_lit 37)) := ok_iadd (md := zmd_52) zh_52 (by decide +kernel) rfl
theorem zr_52_37 : zOK zPre 52 37 (s_dup2 (nat_lit 38)) := ok_dup2 (md := zmd_52) zh_52 (by decide +kernel) rfl
theorem zr_52_38 : zOK zPre 52 38 (s_ald (nat_lit 20) (nat_lit 20) (nat_lit 39)) := ok_ald0 (by decide) (by decide) (by decide) (zrow_iaload (md := zmd_52) zh_52 (by decide +kernel) rfl)
theorem zr_52_39 : zOK zPre 52 39 (s_ld_4 (nat_lit 45067) (nat_lit 41)) := zokE (zld_4 _ _) (ok_ld0 (t := 0) (i := 4) (zrow_iload (md := zmd_52) zh_52 (by decide +kernel) rfl))
theorem zr_52_41 : zOK zPre 52 41 (s_k (nat_lit 1048560) (nat_lit 43)) := ok_ldc (i := 13) (n := (65535 : Int32)) (md := zmd_52) zh_52 (by decide +kernel) rfl zw_7_100 (by decide +kernel)
theorem zr_52_43 : zOK zPre 52 43 (s_iand (nat_lit 44)) := ok_iand (md := zmd_52) zh_52 (by decide +kernel) rfl
theorem zr_52_44 : zOK zPre 52 44 (s_ior (nat_lit 45)) := ok_ior (md := zmd_52) zh_52 (by decide +kernel) rfl
theorem zr_52_45 : zOK zPre 52 45 (s_ast (nat_lit 20) (nat_lit 0) (nat_lit 46)) := ok_astI (Or.inl rfl) (Or.inl rfl) (zrow_iastore (md := zmd_52) zh_52 (by decide +kernel) rfl)
theorem zr_52_46 : zOK zPre 52 46 (s_ld_2 (nat_lit 1136) (nat_lit 47)) := zokE (zld_2 _ _) (ok_ld0 (t := 4) (i := 2) (zrow_aload_n (k := 2) (md := zmd_52) zh_52 (by decide +kernel) rfl rfl))
theorem zr_52_47 : zOK zPre 52 47 (s_ld_3 (nat_lit 45067) (nat_lit 48)) := zokE (zld_3 _ _) (ok_ld0 (t := 0) (i := 3) (zrow_iload_n (k := 3) (md := zmd_52) zh_52 (by decide +kernel) rfl rfl))
theorem zr_52_48 : zOK zPre 52 48 (s_ld_1 (nat_lit 45067) (nat_lit 49)) := zokE (zld_1 _ _) (ok_ld0 (t := 0) (i := 1) (zrow_iload_n (k := 1) (md := zmd_52) zh_52 (by decide +kernel) rfl rfl))
theorem zr_52_49 : zOK zPre 52 49 (s_k (nat_lit 256) (nat_lit 51)) := ok_bipush (n := 16) (md := zmd_52) zh_52 (by decide +kernel) rfl (by decide +kernel)
theorem zr_52_51 : zOK zPre 52 51 (s_idiv (nat_lit 52)) := ok_idiv (md := zmd_52) zh_52 (by decide +kernel) rfl
theorem zr_52_52 : zOK zPre 52 52 (s_iadd (nat_lit 53)) := ok_iadd (md := zmd_52) zh_52 (by decide +kernel) rfl
theorem zr_52_53 : zOK zPre 52 53 (s_k (nat_lit 16) (nat_lit 54)) := ok_iconst (n := 1) (md := zmd_52) zh_52 (by decide +kernel) rfl (by decide +kernel)
theorem zr_52_54 : zOK zPre 52 54 (s_iadd (nat_lit 55)) := ok_iadd (md := zmd_52) zh_52 (by decide +kernel) rfl
theorem zr_52_55 : zOK zPre 52 55 (s_dup2 (nat_lit 56)) := ok_dup2 (md := zmd_52) zh_52 (by decide +kernel) rfl
theorem zr_52_56 : zOK zPre 52 56 (s_ald (nat_lit 20) (nat_lit 20) (nat_lit 57)) := ok_ald0 (by decide) (by decide) (by decide) (zrow_iaload (md := zmd_52) zh_52 (by decide +kernel) rfl)
theorem zr_52_57 : zOK zPre 52 57 (s_ld_4 (nat_lit 45067) (nat_lit 59)) := zokE (zld_4 _ _) (ok_ld0 (t := 0) (i := 4) (zrow_iload (md := zmd_52) zh_52 (by decide +kernel) rfl))
theorem zr_52_59 : zOK zPre 52 59 (s_k (nat_lit 256) (nat_lit 61)) := ok_bipush (n := 16) (md := zmd_52) zh_52 (by decide +kernel) rfl (by decide +kernel)
theorem zr_52_61 : zOK zPre 52 61 (s_iushr (nat_lit 62)) := ok_iushr (md := zmd_52) zh_52 (by decide +kernel) rfl
theorem zr_52_62 : zOK zPre 52 62 (s_ior (nat_lit 63)) := ok_ior (md := zmd_52) zh_52 (by decide +kernel) rfl
theorem zr_52_63 : zOK zPre 52 63 (s_ast (nat_lit 20) (nat_lit 0) (nat_lit 64)) := ok_astI (Or.inl rfl) (Or.inl rfl) (zrow_iastore (md := zmd_52) zh_52 (by decide +kernel) rfl)
theorem zr_52_64 : zOK zPre 52 64 (s_inc (nat_lit 3) (nat_lit 16) (nat_lit 67)) := ok_inc (n := 1) (md := zmd_52) zh_52 (by decide +kernel) rfl (by decide +kernel)
theorem zr_52_67 : zOK zPre 52 67 (s_go (nat_lit 14)) := ok_go (off := -53) (md := zmd_52) zh_52 (by decide +kernel) (by decide +kernel)
theorem zr_52_70 : zOK zPre 52 70 (s_ld_2 (nat_lit 1136) (nat_lit 71)) := zokE (zld_2 _ _) (ok_ld0 (t := 4) (i := 2) (zrow_aload_n (k := 2) (md := zmd_52) zh_52 (by decide +kernel) rfl rfl))
theorem zr_52_71 : zOK zPre 52 71 (s_call (nat_lit 99) (nat_lit 22) (nat_lit 3) (nat_lit 1) (nat_lit 1) [] (nat_lit 74)) := ok_call (md := zmd_52) zh_52 zh_22 rfl (by decide) (by decide) (Or.inl rfl) zp_22 (zrow_callS (mdc := zmd_22) (index := 14) (md := zmd_52) zh_52 (by decide +kernel) rfl rfl zc_22 zw_7_30 zw_7_31 zw_1_10 zd_22) trivial
theorem zr_52_74 : zOK zPre 52 74 (s_ret (nat_lit 1136)) := ok_ret0 (t := 4) (i := .areturn) (md := zmd_52) zh_52 rfl (by decide +kernel) ⟨Or.inr ⟨_, rfl⟩, rfl⟩
theorem zr_53_0 : zOK zPre 53 0 (s_k (nat_lit 64) (nat_lit 1)) := ok_iconst (n := 4) (md := zmd_53) zh_53 (by decide +kernel) rfl (by decide +kernel)
theorem zr_53_1 : zOK zPre 53 1 (s_na (nat_lit 20) (nat_lit 0) (nat_lit 3)) := ok_na0 (by decide) rfl (zrow_na20 (md := zmd_53) zh_53 (by decide +kernel) rfl zw_1_83)
theorem zr_53_3 : zOK zPre 53 3 (s_s1_2 (nat_lit 1136) (nat_lit 4)) := zokE (zs1_2 _ _) (ok_s10 (t := 4) (i := 2) (zrow_astore_n (k := 2) (md := zmd_53) zh_53 (by decide +kernel) rfl rfl))
theorem zr_53_4 : zOK zPre 53 4 (s_k (nat_lit 0) (nat_lit 5)) := ok_iconst (n := 0) (md := zmd_53) zh_53 (by decide +kernel) rfl (by decide +kernel)
theorem zr_53_5 : zOK zPre 53 5 (s_s1_3 (nat_lit 45067) (nat_lit 6)) := zokE (zs1_3 _ _) (ok_s10 (t := 0) (i := 3) (zrow_istore_n (k := 3) (md := zmd_53) zh_53 (by decide +kernel) rfl rfl))
theorem zr_53_6 : zOK zPre 53 6 (s_ld_3 (nat_lit 45067) (nat_lit 7)) := zokE (zld_3 _ _) (ok_ld0 (t := 0) (i := 3) (zrow_iload_n (k := 3) (md := zmd_53) zh_53 (by decide +kernel) rfl rfl))
theorem zr_53_7 : zOK zPre 53 7 (s_k (nat_lit 64) (nat_lit 8)) := ok_iconst (n := 4) (md := zmd_53) zh_53 (by decide +kernel) rfl (by decide +kernel)
theorem zr_53_8 : zOK zPre 53 8 (s_ic (nat_lit 3) zu_ge (nat_lit 31) (nat_lit 11)) := ok_ic_ge (off := 23) (md := zmd_53) zh_53 (by decide +kernel) (by decide +kernel) rfl
theorem zr_53_11 : zOK zPre 53 11 (s_ld_2 (nat_lit 1136) (nat_lit 12)) := zokE (zld_2 _ _) (ok_ld0 (t := 4) (i := 2) (zrow_aload_n (k := 2) (md := zmd_53) zh_53 (by decide +kernel) rfl rfl))
theorem zr_53_12 : zOK zPre 53 12 (s_ld_3 (nat_lit 45067) (nat_lit 13)) := zokE (zld_3 _ _) (ok_ld0 (t := 0) (i := 3) (zrow_iload_n (k := 3) (md := zmd_53) zh_53 (by decide +kernel) rfl rfl))
theorem zr_53_13 : zOK zPre 53 13 (s_ld_0 (nat_lit 18436) (nat_lit 14)) := zokE (zld_0 _ _) (ok_ld0 (t := 1) (i := 0) (zrow_lload_n (k := 0) (md := zmd_53) zh_53 (by decide +kernel) rfl rfl))
theorem zr_53_14 : zOK zPre 53 14 (s_k (nat_lit 256) (nat_lit 16)) := ok_bipush (n := 16) (md := zmd_53) zh_53 (by decide +kernel) rfl (by decide +kernel)
theorem zr_53_16 : zOK zPre 53 16 (s_ld_3 (nat_lit 45067) (nat_lit 17)) := zokE (zld_3 _ _) (ok_ld0 (t := 0) (i := 3) (zrow_iload_n (k := 3) (md := zmd_53) zh_53 (by decide +kernel) rfl rfl))
theorem zr_53_17 : zOK zPre 53 17 (s_imul (nat_lit 18)) := ok_imul (md := zmd_53) zh_53 (by decide +kernel) rfl
theorem zr_53_18 : zOK zPre 53 18 (s_lushr (nat_lit 19)) := ok_lushr (md := zmd_53) zh_53 (by decide +kernel) rfl
theorem zr_53_19 : zOK zPre 53 19 (s_k (nat_lit 1048562) (nat_lit 22)) := ok_ldc2 (i := 20) (n := (65535 : Int64)) (md := zmd_53) zh_53 (by decide +kernel) rfl zw_7_28 (by decide +kernel)
theorem zr_53_22 : zOK zPre 53 22 (s_land (nat_lit 23)) := ok_land (md := zmd_53) zh_53 (by decide +kernel) rfl
theorem zr_53_23 : zOK zPre 53 23 (s_l2i (nat_lit 24)) := ok_l2i (md := zmd_53) zh_53 (by decide +kernel) rfl
theorem zr_53_24 : zOK zPre 53 24 (s_ast (nat_lit 20) (nat_lit 0) (nat_lit 25)) := ok_astI (Or.inl rfl) (Or.inl rfl) (zrow_iastore (md := zmd_53) zh_53 (by decide +kernel) rfl)
theorem zr_53_25 : zOK zPre 53 25 (s_inc (nat_lit 3) (nat_lit 16) (nat_lit 28)) := ok_inc (n := 1) (md := zmd_53) zh_53 (by decide +kernel) rfl (by decide +kernel)
theorem zr_53_28 : zOK zPre 53 28 (s_go (nat_lit 6)) := ok_go (off := -22) (md := zmd_53) zh_53 (by decide +kernel) (by decide +kernel)
theorem zr_53_31 : zOK zPre 53 31 (s_new (nat_lit 9) (nat_lit 2) [(nat_lit 0), (nat_lit 5)] (nat_lit 34)) := ok_new0 (fsV := zfv_X10) (by decide) zfs_X10 (zrow_new (index := 62) (C := RX10) (T := TX10) (N := 2) (ty0 := tyX10) (md := zmd_53) zh_53 (by decide +kernel) rfl rfl zu_X10 tyX10_ok zw_6_199 zw_7_29 zw_1_19 zdf_X10)
theorem zr_53_34 : zOK zPre 53 34 (s_dup (nat_lit 35)) := ok_dup (md := zmd_53) zh_53 (by decide +kernel) rfl
theorem zr_53_35 : zOK zPre 53 35 (s_k (nat_lit 16) (nat_lit 36)) := ok_iconst (n := 1) (md := zmd_53) zh_53 (by decide +kernel) rfl (by decide +kernel)
theorem zr_53_36 : zOK zPre 53 36 (s_ld_2 (nat_lit 1136) (nat_lit 37)) := zokE (zld_2 _ _) (ok_ld0 (t := 4) (i := 2) (zrow_aload_n (k := 2) (md := zmd_53) zh_53 (by decide +kernel) rfl rfl))
theorem zr_53_37 : zOK zPre 53 37 (s_call (nat_lit 99) (nat_lit 22) (nat_lit 3) (nat_lit 1) (nat_lit 1) [] (nat_lit 40)) := ok_call (md := zmd_53) zh_53 zh_22 rfl (by decide) (by decide) (Or.inl rfl) zp_22 (zrow_callS (mdc := zmd_22) (index := 14) (md := zmd_53) zh_53 (by decide +kernel) rfl rfl zc_22 zw_7_30 zw_7_31 zw_1_10 zd_22) trivial
theorem zr_53_40 : zOK zPre 53 40 (s_call (nat_lit 9) (nat_lit 23) (nat_lit 3) (nat_lit 3) (nat_lit 0) [] (nat_lit 43)) := ok_call (md := zmd_53) zh_53 zh_23 rfl (by decide) (by decide) (Or.inr (by decide)) zp_23 (zrow_callI (mdc := zmd_23) (index := 64) (md := zmd_53) zh_53 (by decide +kernel) rfl rfl rfl rfl zc_23 (by decide) zw_7_34 zw_7_35 zw_1_19 zd_23) trivial
theorem zr_53_43 : zOK zPre 53 43 (s_ret (nat_lit 1136)) := ok_ret0 (t := 4) (i := .areturn) (md := zmd_53) zh_53 rfl (by decide +kernel) ⟨Or.inl ⟨_, rfl⟩, rfl⟩
theorem zr_54_0 : zOK zPre 54 0 (s_ld_0 (nat_lit 1136) (nat_lit 1)) := zokE (zld_0 _ _) (ok_ld0 (t := 4) (i := 0) (zrow_aload_n (k := 0) (md := zmd_54) zh_54 (by decide +kernel) rfl rfl))
theorem zr_54_1 : zOK zPre 54 1 (s_gf (nat_lit 9) (nat_lit 0) (nat_lit 4)) := ok_gf0 (by decide) (zrow_gf (index := 7) (ref := "ResidueworksModel$Whole") (C := RX10) (T := TX10) (N := 2) (md := zmd_54) zh_54 (by decide +kernel) rfl rfl (by decide) zu_X10 zw_7_38 rfl)
theorem zr_54_4 : zOK zPre 54 4 (s_if (nat_lit 1) zi_ne (nat_lit 9) (nat_lit 7)) := ok_if_ne (off := 5) (md := zmd_54) zh_54 (by decide +kernel) (by decide +kernel) rfl
theorem zr_54_7 : zOK zPre 54 7 (s_ld_1 (nat_lit 1136) (nat_lit 8)) := zokE (zld_1 _ _) (ok_ld0 (t := 4) (i := 1) (zrow_aload_n (k := 1) (md := zmd_54) zh_54 (by decide +kernel) rfl rfl))
theorem zr_54_8 : zOK zPre 54 8 (s_ret (nat_lit 1136)) := ok_ret0 (t := 4) (i := .areturn) (md := zmd_54) zh_54 rfl (by decide +kernel) ⟨Or.inl ⟨_, rfl⟩, rfl⟩
theorem zr_55_0 : zOK zPre 55 0 (s_ld_0 (nat_lit 1136) (nat_lit 1)) := zokE (zld_0 _ _) (ok_ld0 (t := 4) (i := 0) (zrow_aload_n (k := 0) (md := zmd_55) zh_55 (by decide +kernel) rfl rfl))
theorem zr_55_1 : zOK zPre 55 1 (s_call (nat_lit 9) (nat_lit 36) (nat_lit 1) (nat_lit 1) (nat_lit 1) [] (nat_lit 4)) := ok_call (md := zmd_55) zh_55 zh_36 rfl (by decide) (by decide) (Or.inr (by decide)) zp_36 (zrow_callVN (mdc := zmd_36) (index := 124) (md := zmd_55) zh_55 (by decide +kernel) rfl rfl zc_36 rfl (by decide) zw_7_89 zw_7_91 zws_35 zw_1_19 zd_36) trivial
theorem zr_55_4 : zOK zPre 55 4 (s_k (nat_lit 9600) (nat_lit 7)) := ok_sipush (n := 600) (md := zmd_55) zh_55 (by decide +kernel) rfl (by decide +kernel)
theorem zr_55_7 : zOK zPre 55 7 (s_ic (nat_lit 4) zu_gt (nat_lit 14) (nat_lit 10)) := ok_ic_gt (off := 7) (md := zmd_55) zh_55 (by decide +kernel) (by decide +kernel) rfl
theorem zr_55_10 : zOK zPre 55 10 (s_k (nat_lit 16) (nat_lit 11)) := ok_iconst (n := 1) (md := zmd_55) zh_55 (by decide +kernel) rfl (by decide +kernel)
theorem zr_55_11 : zOK zPre 55 11 (s_go (nat_lit 15)) := ok_go (off := 4) (md := zmd_55) zh_55 (by decide +kernel) (by decide +kernel)
theorem zr_55_15 : zOK zPre 55 15 (s_rz (nat_lit 1)) := ok_rz (ft := 1) (Or.inl rfl) (md := zmd_55) zh_55 rfl (by decide +kernel)
theorem zr_56_0 : zOK zPre 56 0 (s_ld_3 (nat_lit 1136) (nat_lit 1)) := zokE (zld_3 _ _) (ok_ld0 (t := 4) (i := 3) (zrow_aload_n (k := 3) (md := zmd_56) zh_56 (by decide +kernel) rfl rfl))
theorem zr_56_1 : zOK zPre 56 1 (s_k (nat_lit 0) (nat_lit 2)) := ok_iconst (n := 0) (md := zmd_56) zh_56 (by decide +kernel) rfl (by decide +kernel)
theorem zr_56_2 : zOK zPre 56 2 (s_ld_0 (nat_lit 1136) (nat_lit 3)) := zokE (zld_0 _ _) (ok_ld0 (t := 4) (i := 0) (zrow_aload_n (k := 0) (md := zmd_56) zh_56 (by decide +kernel) rfl rfl))
theorem zr_56_3 : zOK zPre 56 3 (s_ld_1 (nat_lit 45067) (nat_lit 4)) := zokE (zld_1 _ _) (ok_ld0 (t := 0) (i := 1) (zrow_iload_n (k := 1) (md := zmd_56) zh_56 (by decide +kernel) rfl rfl))
theorem zr_56_4 : zOK zPre 56 4 (s_ld_2 (nat_lit 45067) (nat_lit 5)) := zokE (zld_2 _ _) (ok_ld0 (t := 0) (i := 2) (zrow_iload_n (k := 2) (md := zmd_56) zh_56 (by decide +kernel) rfl rfl))
theorem zr_56_5 : zOK zPre 56 5 (s_call (nat_lit 8) (nat_lit 57) (nat_lit 4) (nat_lit 3) (nat_lit 1) [((nat_lit 0), (nat_lit 4), (nat_lit 15))] (nat_lit 8)) := ok_call (md := zmd_56) zh_56 zh_57 rfl (by decide) (by decide) (Or.inr (by decide)) zp_57 (zrow_callV (mdc := zmd_57) (index := 20) (md := zmd_56) zh_56 (by decide +kernel) rfl rfl zc_57 rfl (by decide) zw_3_142 zw_3_143 zw_3_144 zw_1_1 zd_57) ⟨⟨by decide, by decide, by decide, by decide, zw_2_226, zw_3_75, zrow_astore (md := zmd_56) zh_56 (by decide +kernel) rfl⟩, trivial⟩
theorem zr_56_8 : zOK zPre 56 8 (s_i2l (nat_lit 9)) := ok_i2l (md := zmd_56) zh_56 (by decide +kernel) rfl
theorem zr_56_9 : zOK zPre 56 9 (s_ast (nat_lit 21) (nat_lit 4) (nat_lit 10)) := ok_astL rfl rfl (zrow_lastore (md := zmd_56) zh_56 (by decide +kernel) rfl)
theorem zr_56_10 : zOK zPre 56 10 (s_go (nat_lit 17)) := ok_go (off := 7) (md := zmd_56) zh_56 (by decide +kernel) (by decide +kernel)
theorem zr_56_15 : zOK zPre 56 15 (s_k (nat_lit 16) (nat_lit 16)) := ok_iconst (n := 1) (md := zmd_56) zh_56 (by decide +kernel) rfl (by decide +kernel)
theorem zr_56_16 : zOK zPre 56 16 (s_ret (nat_lit 45067)) := ok_ret0 (t := 0) (i := .ireturn) (ty := .int) (md := zmd_56) zh_56 rfl (by decide +kernel) ⟨rfl, rfl⟩
theorem zr_56_17 : zOK zPre 56 17 (s_k (nat_lit 0) (nat_lit 18)) := ok_iconst (n := 0) (md := zmd_56) zh_56 (by decide +kernel) rfl (by decide +kernel)
theorem zr_56_18 : zOK zPre 56 18 (s_ret (nat_lit 45067)) := ok_ret0 (t := 0) (i := .ireturn) (ty := .int) (md := zmd_56) zh_56 rfl (by decide +kernel) ⟨rfl, rfl⟩
theorem zr_57_0 : zOK zPre 57 0 (s_ld_0 (nat_lit 1136) (nat_lit 1)) := zokE (zld_0 _ _) (ok_ld0 (t := 4) (i := 0) (zrow_aload_n (k := 0) (md := zmd_57) zh_57 (by decide +kernel) rfl rfl))
theorem zr_57_1 : zOK zPre 57 1 (s_ld_1 (nat_lit 45067) (nat_lit 2)) := zokE (zld_1 _ _) (ok_ld0 (t := 0) (i := 1) (zrow_iload_n (k := 1) (md := zmd_57) zh_57 (by decide +kernel) rfl rfl))
theorem zr_57_2 : zOK zPre 57 2 (s_call (nat_lit 8) (nat_lit 26) (nat_lit 2) (nat_lit 2) (nat_lit 1) [] (nat_lit 5)) := ok_call (md := zmd_57) zh_57 zh_26 rfl (by decide) (by decide) (Or.inr (by decide)) zp_26 (zrow_callV (mdc := zmd_26) (index := 72) (md := zmd_57) zh_57 (by decide +kernel) rfl rfl zc_26 rfl (by decide) zw_3_69 zw_3_71 zws_1 zw_1_1 zd_26) trivial
theorem zr_57_5 : zOK zPre 57 5 (s_s1_3 (nat_lit 1136) (nat_lit 6)) := zokE (zs1_3 _ _) (ok_s10 (t := 4) (i := 3) (zrow_astore_n (k := 3) (md := zmd_57) zh_57 (by decide +kernel) rfl rfl))
theorem zr_57_6 : zOK zPre 57 6 (s_ld_3 (nat_lit 1136) (nat_lit 7)) := zokE (zld_3 _ _) (ok_ld0 (t := 4) (i := 3) (zrow_aload_n (k := 3) (md := zmd_57) zh_57 (by decide +kernel) rfl rfl))
theorem zr_57_7 : zOK zPre 57 7 (s_ld_0 (nat_lit 1136) (nat_lit 8)) := zokE (zld_0 _ _) (ok_ld0 (t := 4) (i := 0) (zrow_aload_n (k := 0) (md := zmd_57) zh_57 (by decide +kernel) rfl rfl))
theorem zr_57_8 : zOK zPre 57 8 (s_ld_2 (nat_lit 45067) (nat_lit 9)) := zokE (zld_2 _ _) (ok_ld0 (t := 0) (i := 2) (zrow_iload_n (k := 2) (md := zmd_57) zh_57 (by decide +kernel) rfl rfl))
theorem zr_57_9 : zOK zPre 57 9 (s_call (nat_lit 8) (nat_lit 26) (nat_lit 2) (nat_lit 2) (nat_lit 1) [] (nat_lit 12)) := ok_call (md := zmd_57) zh_57 zh_26 rfl (by decide) (by decide) (Or.inr (by decide)) zp_26 (zrow_callV (mdc := zmd_26) (index := 72) (md := zmd_57) zh_57 (by decide +kernel) rfl rfl zc_26 rfl (by decide) zw_3_69 zw_3_71 zws_1 zw_1_1 zd_26) trivial
theorem zr_57_12 : zOK zPre 57 12 (s_call (nat_lit 7) (nat_lit 49) (nat_lit 2) (nat_lit 2) (nat_lit 0) [] (nat_lit 15)) := ok_call (md := zmd_57) zh_57 zh_49 rfl (by decide) (by decide) (Or.inr (by decide)) zp_49 (zrow_callV (mdc := zmd_49) (index := 99) (md := zmd_57) zh_57 (by decide +kernel) rfl rfl zc_49 rfl (by decide) zw_3_132 zw_3_133 zw_3_134 zw_1_3 zd_49) trivial
theorem zr_57_15 : zOK zPre 57 15 (s_ld_3 (nat_lit 1136) (nat_lit 16)) := zokE (zld_3 _ _) (ok_ld0 (t := 4) (i := 3) (zrow_aload_n (k := 3) (md := zmd_57) zh_57 (by decide +kernel) rfl rfl))
theorem zr_57_16 : zOK zPre 57 16 (s_call (nat_lit 7) (nat_lit 27) (nat_lit 2) (nat_lit 1) (nat_lit 1) [] (nat_lit 19)) := ok_call (md := zmd_57) zh_57 zh_27 rfl (by decide) (by decide) (Or.inr (by decide)) zp_27 (zrow_callV (mdc := zmd_27) (index := 80) (md := zmd_57) zh_57 (by decide +kernel) rfl rfl zc_27 rfl (by decide) zw_2_172 zw_2_173 zw_2_174 zw_1_3 zd_27) trivial
theorem zr_57_19 : zOK zPre 57 19 (s_ret (nat_lit 45067)) := ok_ret0 (t := 0) (i := .ireturn) (ty := .int) (md := zmd_57) zh_57 rfl (by decide +kernel) ⟨rfl, rfl⟩
theorem zr_58_0 : zOK zPre 58 0 (s_ld_0 (nat_lit 1136) (nat_lit 1)) := zokE (zld_0 _ _) (ok_ld0 (t := 4) (i := 0) (zrow_aload_n (k := 0) (md := zmd_58) zh_58 (by decide +kernel) rfl rfl))
theorem zr_58_1 : zOK zPre 58 1 (s_k (nat_lit 32) (nat_lit 2)) := ok_iconst (n := 2) (md := zmd_58) zh_58 (by decide +kernel) rfl (by decide +kernel)
theorem zr_58_2 : zOK zPre 58 2 (s_na (nat_lit 20) (nat_lit 0) (nat_lit 4)) := ok_na0 (by decide) rfl (zrow_na20 (md := zmd_58) zh_58 (by decide +kernel) rfl zw_1_83)
theorem zr_58_4 : zOK zPre 58 4 (s_dup (nat_lit 5)) := ok_dup (md := zmd_58) zh_58 (by decide +kernel) rfl
theorem zr_58_5 : zOK zPre 58 5 (s_k (nat_lit 0) (nat_lit 6)) := ok_iconst (n := 0) (md := zmd_58) zh_58 (by decide +kernel) rfl (by decide +kernel)
theorem zr_58_6 : zOK zPre 58 6 (s_ld_1 (nat_lit 45067) (nat_lit 7)) := zokE (zld_1 _ _) (ok_ld0 (t := 0) (i := 1) (zrow_iload_n (k := 1) (md := zmd_58) zh_58 (by decide +kernel) rfl rfl))
theorem zr_58_7 : zOK zPre 58 7 (s_ast (nat_lit 20) (nat_lit 0) (nat_lit 8)) := ok_astI (Or.inl rfl) (Or.inl rfl) (zrow_iastore (md := zmd_58) zh_58 (by decide +kernel) rfl)
theorem zr_58_8 : zOK zPre 58 8 (s_dup (nat_lit 9)) := ok_dup (md := zmd_58) zh_58 (by decide +kernel) rfl
theorem zr_58_9 : zOK zPre 58 9 (s_k (nat_lit 16) (nat_lit 10)) := ok_iconst (n := 1) (md := zmd_58) zh_58 (by decide +kernel) rfl (by decide +kernel)
theorem zr_58_10 : zOK zPre 58 10 (s_ld_2 (nat_lit 45067) (nat_lit 11)) := zokE (zld_2 _ _) (ok_ld0 (t := 0) (i := 2) (zrow_iload_n (k := 2) (md := zmd_58) zh_58 (by decide +kernel) rfl rfl))
theorem zr_58_11 : zOK zPre 58 11 (s_ast (nat_lit 20) (nat_lit 0) (nat_lit 12)) := ok_astI (Or.inl rfl) (Or.inl rfl) (zrow_iastore (md := zmd_58) zh_58 (by decide +kernel) rfl)
theorem zr_58_12 : zOK zPre 58 12 (s_call (nat_lit 99) (nat_lit 32) (nat_lit 6) (nat_lit 1) (nat_lit 1) [] (nat_lit 15)) := ok_call (md := zmd_58) zh_58 zh_32 rfl (by decide) (by decide) (Or.inl rfl) zp_32 (zrow_callS (mdc := zmd_32) (index := 176) (md := zmd_58) zh_58 (by decide +kernel) rfl rfl zc_32 zw_7_74 zw_7_75 zw_1_10 zd_32) trivial
theorem zr_58_15 : zOK zPre 58 15 (s_k (nat_lit 16) (nat_lit 16)) := ok_iconst (n := 1) (md := zmd_58) zh_58 (by decide +kernel) rfl (by decide +kernel)
theorem zr_58_16 : zOK zPre 58 16 (s_call (nat_lit 10) (nat_lit 34) (nat_lit 3) (nat_lit 3) (nat_lit 1) [] (nat_lit 19)) := ok_call (md := zmd_58) zh_58 zh_34 rfl (by decide) (by decide) (Or.inr (by decide)) zp_34 (zrow_callV (mdc := zmd_34) (index := 180) (md := zmd_58) zh_58 (by decide +kernel) rfl rfl zc_34 rfl (by decide) zw_7_81 zw_7_83 zws_33 zw_1_10 zd_34) trivial
theorem zr_58_19 : zOK zPre 58 19 (s_if (nat_lit 0) zi_eq (nat_lit 26) (nat_lit 22)) := ok_if_eq (off := 7) (md := zmd_58) zh_58 (by decide +kernel) (by decide +kernel) rfl
theorem zr_58_22 : zOK zPre 58 22 (s_k (nat_lit 0) (nat_lit 23)) := ok_iconst (n := 0) (md := zmd_58) zh_58 (by decide +kernel) rfl (by decide +kernel)
theorem zr_58_23 : zOK zPre 58 23 (s_go (nat_lit 37)) := ok_go (off := 14) (md := zmd_58) zh_58 (by decide +kernel) (by decide +kernel)
theorem zr_58_26 : zOK zPre 58 26 (s_ld_0 (nat_lit 1136) (nat_lit 27)) := zokE (zld_0 _ _) (ok_ld0 (t := 4) (i := 0) (zrow_aload_n (k := 0) (md := zmd_58) zh_58 (by decide +kernel) rfl rfl))
theorem zr_58_27 : zOK zPre 58 27 (s_ld_1 (nat_lit 45067) (nat_lit 28)) := zokE (zld_1 _ _) (ok_ld0 (t := 0) (i := 1) (zrow_iload_n (k := 1) (md := zmd_58) zh_58 (by decide +kernel) rfl rfl))
theorem zr_58_28 : zOK zPre 58 28 (s_ld_0 (nat_lit 1136) (nat_lit 29)) := zokE (zld_0 _ _) (ok_ld0 (t := 4) (i := 0) (zrow_aload_n (k := 0) (md := zmd_58) zh_58 (by decide +kernel) rfl rfl))
theorem zr_58_29 : zOK zPre 58 29 (s_gf (nat_lit 10) (nat_lit 0) (nat_lit 32)) := ok_gf0 (by decide) (zrow_gf (index := 144) (ref := "ResidueworksModel") (C := RX11) (T := TX11) (N := 6) (md := zmd_58) zh_58 (by decide +kernel) rfl rfl (by decide) zu_X11 zw_7_47 rfl)
theorem zr_58_32 : zOK zPre 58 32 (s_ld_2 (nat_lit 45067) (nat_lit 33)) := zokE (zld_2 _ _) (ok_ld0 (t := 0) (i := 2) (zrow_iload_n (k := 2) (md := zmd_58) zh_58 (by decide +kernel) rfl rfl))
theorem zr_58_33 : zOK zPre 58 33 (s_ald (nat_lit 25) (nat_lit 29) (nat_lit 34)) := ok_ald0 (by decide) (by decide) (by decide) (zrow_aaload (md := zmd_58) zh_58 (by decide +kernel) rfl)
theorem zr_58_34 : zOK zPre 58 34 (s_call (nat_lit 10) (nat_lit 35) (nat_lit 3) (nat_lit 3) (nat_lit 1) [] (nat_lit 37)) := ok_call (md := zmd_58) zh_58 zh_35 rfl (by decide) (by decide) (Or.inr (by decide)) zp_35 (zrow_callV (mdc := zmd_35) (index := 184) (md := zmd_58) zh_58 (by decide +kernel) rfl rfl zc_35 rfl (by decide) zw_7_85 zw_7_87 zws_34 zw_1_10 zd_35) trivial
theorem zr_58_37 : zOK zPre 58 37 (s_ret (nat_lit 45067)) := ok_ret0 (t := 0) (i := .ireturn) (ty := .int) (md := zmd_58) zh_58 rfl (by decide +kernel) ⟨rfl, rfl⟩
theorem zr_59_0 : zOK zPre 59 0 (s_ld_3 (nat_lit 1136) (nat_lit 1)) := zokE (zld_3 _ _) (ok_ld0 (t := 4) (i := 3) (zrow_aload_n (k := 3) (md := zmd_59) zh_59 (by decide +kernel) rfl rfl))
theorem zr_59_1 : zOK zPre 59 1 (s_k (nat_lit 0) (nat_lit 2)) := ok_iconst (n := 0) (md := zmd_59) zh_59 (by decide +kernel) rfl (by decide +kernel)
theorem zr_59_2 : zOK zPre 59 2 (s_ld_0 (nat_lit 1136) (nat_lit 3)) := zokE (zld_0 _ _) (ok_ld0 (t := 4) (i := 0) (zrow_aload_n (k := 0) (md := zmd_59) zh_59 (by decide +kernel) rfl rfl))
theorem zr_59_3 : zOK zPre 59 3 (s_ld_1 (nat_lit 45067) (nat_lit 4)) := zokE (zld_1 _ _) (ok_ld0 (t := 0) (i := 1) (zrow_iload_n (k := 1) (md := zmd_59) zh_59 (by decide +kernel) rfl rfl))
theorem zr_59_4 : zOK zPre 59 4 (s_ld_2 (nat_lit 45067) (nat_lit 5)) := zokE (zld_2 _ _) (ok_ld0 (t := 0) (i := 2) (zrow_iload_n (k := 2) (md := zmd_59) zh_59 (by decide +kernel) rfl rfl))
theorem zr_59_5 : zOK zPre 59 5 (s_call (nat_lit 8) (nat_lit 60) (nat_lit 4) (nat_lit 3) (nat_lit 1) [((nat_lit 0), (nat_lit 4), (nat_lit 14)), ((nat_lit 1), (nat_lit 4), (nat_lit 18))] (nat_lit 8)) := ok_call (md := zmd_59) zh_59 zh_60 rfl (by decide) (by decide) (Or.inr (by decide)) zp_60 (zrow_callV (mdc := zmd_60) (index := 24) (md := zmd_59) zh_59 (by decide +kernel) rfl rfl zc_60 rfl (by decide) zw_3_150 zw_3_151 zw_3_152 zw_1_1 zd_60) ⟨⟨by decide, by decide, by decide, by decide, zw_2_226, zw_3_75, zrow_astore (md := zmd_59) zh_59 (by decide +kernel) rfl⟩, ⟨⟨by decide, by decide, by decide, by decide, zw_3_149, zw_3_160, zrow_astore (md := zmd_59) zh_59 (by decide +kernel) rfl⟩, trivial⟩⟩
theorem zr_59_8 : zOK zPre 59 8 (s_ast (nat_lit 21) (nat_lit 4) (nat_lit 9)) := ok_astL rfl rfl (zrow_lastore (md := zmd_59) zh_59 (by decide +kernel) rfl)
theorem zr_59_9 : zOK zPre 59 9 (s_go (nat_lit 20)) := ok_go (off := 11) (md := zmd_59) zh_59 (by decide +kernel) (by decide +kernel)
theorem zr_59_14 : zOK zPre 59 14 (s_k (nat_lit 16) (nat_lit 15)) := ok_iconst (n := 1) (md := zmd_59) zh_59 (by decide +kernel) rfl (by decide +kernel)
theorem zr_59_15 : zOK zPre 59 15 (s_ret (nat_lit 45067)) := ok_ret0 (t := 0) (i := .ireturn) (ty := .int) (md := zmd_59) zh_59 rfl (by decide +kernel) ⟨rfl, rfl⟩
theorem zr_59_18 : zOK zPre 59 18 (s_k (nat_lit 32) (nat_lit 19)) := ok_iconst (n := 2) (md := zmd_59) zh_59 (by decide +kernel) rfl (by decide +kernel)
theorem zr_59_19 : zOK zPre 59 19 (s_ret (nat_lit 45067)) := ok_ret0 (t := 0) (i := .ireturn) (ty := .int) (md := zmd_59) zh_59 rfl (by decide +kernel) ⟨rfl, rfl⟩
theorem zr_59_20 : zOK zPre 59 20 (s_k (nat_lit 0) (nat_lit 21)) := ok_iconst (n := 0) (md := zmd_59) zh_59 (by decide +kernel) rfl (by decide +kernel)
theorem zr_59_21 : zOK zPre 59 21 (s_ret (nat_lit 45067)) := ok_ret0 (t := 0) (i := .ireturn) (ty := .int) (md := zmd_59) zh_59 rfl (by decide +kernel) ⟨rfl, rfl⟩
theorem zr_60_0 : zOK zPre 60 0 (s_ld_0 (nat_lit 1136) (nat_lit 1)) := zokE (zld_0 _ _) (ok_ld0 (t := 4) (i := 0) (zrow_aload_n (k := 0) (md := zmd_60) zh_60 (by decide +kernel) rfl rfl))
theorem zr_60_1 : zOK zPre 60 1 (s_ld_1 (nat_lit 45067) (nat_lit 2)) := zokE (zld_1 _ _) (ok_ld0 (t := 0) (i := 1) (zrow_iload_n (k := 1) (md := zmd_60) zh_60 (by decide +kernel) rfl rfl))
theorem zr_60_2 : zOK zPre 60 2 (s_call (nat_lit 8) (nat_lit 26) (nat_lit 2) (nat_lit 2) (nat_lit 1) [] (nat_lit 5)) := ok_call (md := zmd_60) zh_60 zh_26 rfl (by decide) (by decide) (Or.inr (by decide)) zp_26 (zrow_callV (mdc := zmd_26) (index := 72) (md := zmd_60) zh_60 (by decide +kernel) rfl rfl zc_26 rfl (by decide) zw_3_69 zw_3_71 zws_1 zw_1_1 zd_26) trivial
theorem zr_60_5 : zOK zPre 60 5 (s_s1_3 (nat_lit 1136) (nat_lit 6)) := zokE (zs1_3 _ _) (ok_s10 (t := 4) (i := 3) (zrow_astore_n (k := 3) (md := zmd_60) zh_60 (by decide +kernel) rfl rfl))
theorem zr_60_6 : zOK zPre 60 6 (s_ld_0 (nat_lit 1136) (nat_lit 7)) := zokE (zld_0 _ _) (ok_ld0 (t := 4) (i := 0) (zrow_aload_n (k := 0) (md := zmd_60) zh_60 (by decide +kernel) rfl rfl))
theorem zr_60_7 : zOK zPre 60 7 (s_ld_2 (nat_lit 45067) (nat_lit 8)) := zokE (zld_2 _ _) (ok_ld0 (t := 0) (i := 2) (zrow_iload_n (k := 2) (md := zmd_60) zh_60 (by decide +kernel) rfl rfl))
theorem zr_60_8 : zOK zPre 60 8 (s_k (nat_lit 0) (nat_lit 9)) := ok_iconst (n := 0) (md := zmd_60) zh_60 (by decide +kernel) rfl (by decide +kernel)
theorem zr_60_9 : zOK zPre 60 9 (s_k (nat_lit 11200) (nat_lit 12)) := ok_sipush (n := 700) (md := zmd_60) zh_60 (by decide +kernel) rfl (by decide +kernel)
theorem zr_60_12 : zOK zPre 60 12 (s_call (nat_lit 8) (nat_lit 61) (nat_lit 4) (nat_lit 4) (nat_lit 0) [] (nat_lit 15)) := ok_call (md := zmd_60) zh_60 zh_61 rfl (by decide) (by decide) (Or.inr (by decide)) zp_61 (zrow_callV (mdc := zmd_61) (index := 103) (md := zmd_60) zh_60 (by decide +kernel) rfl rfl zc_61 rfl (by decide) zw_3_154 zw_3_156 zws_5 zw_1_1 zd_61) trivial
theorem zr_60_15 : zOK zPre 60 15 (s_ld_3 (nat_lit 1136) (nat_lit 16)) := zokE (zld_3 _ _) (ok_ld0 (t := 4) (i := 3) (zrow_aload_n (k := 3) (md := zmd_60) zh_60 (by decide +kernel) rfl rfl))
theorem zr_60_16 : zOK zPre 60 16 (s_ld_2 (nat_lit 45067) (nat_lit 17)) := zokE (zld_2 _ _) (ok_ld0 (t := 0) (i := 2) (zrow_iload_n (k := 2) (md := zmd_60) zh_60 (by decide +kernel) rfl rfl))
theorem zr_60_17 : zOK zPre 60 17 (s_call (nat_lit 7) (nat_lit 62) (nat_lit 9) (nat_lit 2) (nat_lit 1) [] (nat_lit 20)) := ok_call (md := zmd_60) zh_60 zh_62 rfl (by decide) (by decide) (Or.inr (by decide)) zp_62 (zrow_callV (mdc := zmd_62) (index := 107) (md := zmd_60) zh_60 (by decide +kernel) rfl rfl zc_62 rfl (by decide) zw_2_205 zw_2_206 zw_2_207 zw_1_3 zd_62) trivial
theorem zr_60_20 : zOK zPre 60 20 (s_ret (nat_lit 18436)) := ok_ret0 (t := 1) (i := .lreturn) (ty := .long) (md := zmd_60) zh_60 rfl (by decide +kernel) ⟨rfl, rfl⟩
theorem zr_61_0 : zOK zPre 61 0 (s_ld_1 (nat_lit 45067) (nat_lit 1)) := zokE (zld_1 _ _) (ok_ld0 (t := 0) (i := 1) (zrow_iload_n (k := 1) (md := zmd_61) zh_61 (by decide +kernel) rfl rfl))
theorem zr_61_1 : zOK zPre 61 1 (s_ld_2 (nat_lit 45067) (nat_lit 2)) := zokE (zld_2 _ _) (ok_ld0 (t := 0) (i := 2) (zrow_iload_n (k := 2) (md := zmd_61) zh_61 (by decide +kernel) rfl rfl))
theorem zr_61_2 : zOK zPre 61 2 (s_ic (nat_lit 2) zu_lt (nat_lit 10) (nat_lit 5)) := ok_ic_lt (off := 8) (md := zmd_61) zh_61 (by decide +kernel) (by decide +kernel) rfl
theorem zr_61_5 : zOK zPre 61 5 (s_ld_1 (nat_lit 45067) (nat_lit 6)) := zokE (zld_1 _ _) (ok_ld0 (t := 0) (i := 1) (zrow_iload_n (k := 1) (md := zmd_61) zh_61 (by decide +kernel) rfl rfl))
theorem zr_61_6 : zOK zPre 61 6 (s_ld_3 (nat_lit 45067) (nat_lit 7)) := zokE (zld_3 _ _) (ok_ld0 (t := 0) (i := 3) (zrow_iload_n (k := 3) (md := zmd_61) zh_61 (by decide +kernel) rfl rfl))
theorem zr_61_7 : zOK zPre 61 7 (s_ic (nat_lit 5) zu_le (nat_lit 21) (nat_lit 10)) := ok_ic_le (off := 14) (md := zmd_61) zh_61 (by decide +kernel) (by decide +kernel) rfl
theorem zr_61_10 : zOK zPre 61 10 (s_thr (nat_lit 1)) := ok_thrSW (ik := 121) (is := 377) (ic := 125) (tx := "a number is out of range") (md := zmd_61) zh_61 rfl rfl zth_121_125_1 (List.mem_of_getElem? (i := 23) rfl) (by decide +kernel) (by decide +kernel) (by decide +kernel) (by decide +kernel) (by decide +kernel)
theorem zr_61_21 : zOK zPre 61 21 (s_rv) := ok_rv (md := zmd_61) zh_61 rfl (by decide +kernel)
theorem zr_62_0 : zOK zPre 62 0 (s_k (nat_lit 2) (nat_lit 1)) := ok_lconst (n := 0) (md := zmd_62) zh_62 (by decide +kernel) rfl (by decide +kernel)
theorem zr_62_1 : zOK zPre 62 1 (s_s2 (nat_lit 18436) (nat_lit 2) (nat_lit 2)) := ok_s20 (t := 1) (i := 2) (zrow_lstore_n (k := 2) (md := zmd_62) zh_62 (by decide +kernel) rfl rfl)
theorem zr_62_2 : zOK zPre 62 2 (s_ld_1 (nat_lit 45067) (nat_lit 3)) := zokE (zld_1 _ _) (ok_ld0 (t := 0) (i := 1) (zrow_iload_n (k := 1) (md := zmd_62) zh_62 (by decide +kernel) rfl rfl))
theorem zr_62_3 : zOK zPre 62 3 (s_k (nat_lit 1008) (nat_lit 5)) := ok_bipush (n := 63) (md := zmd_62) zh_62 (by decide +kernel) rfl (by decide +kernel)
theorem zr_62_5 : zOK zPre 62 5 (s_iadd (nat_lit 6)) := ok_iadd (md := zmd_62) zh_62 (by decide +kernel) rfl
theorem zr_62_6 : zOK zPre 62 6 (s_k (nat_lit 480) (nat_lit 8)) := ok_bipush (n := 30) (md := zmd_62) zh_62 (by decide +kernel) rfl (by decide +kernel)
theorem zr_62_8 : zOK zPre 62 8 (s_idiv (nat_lit 9)) := ok_idiv (md := zmd_62) zh_62 (by decide +kernel) rfl
theorem zr_62_9 : zOK zPre 62 9 (s_s1_4 (nat_lit 45067) (nat_lit 11)) := zokE (zs1_4 _ _) (ok_s10 (t := 0) (i := 4) (zrow_istore (md := zmd_62) zh_62 (by decide +kernel) rfl))
theorem zr_62_11 : zOK zPre 62 11 (s_ld_1 (nat_lit 45067) (nat_lit 12)) := zokE (zld_1 _ _) (ok_ld0 (t := 0) (i := 1) (zrow_iload_n (k := 1) (md := zmd_62) zh_62 (by decide +kernel) rfl rfl))
theorem zr_62_12 : zOK zPre 62 12 (s_k (nat_lit 480) (nat_lit 14)) := ok_bipush (n := 30) (md := zmd_62) zh_62 (by decide +kernel) rfl (by decide +kernel)
theorem zr_62_14 : zOK zPre 62 14 (s_idiv (nat_lit 15)) := ok_idiv (md := zmd_62) zh_62 (by decide +kernel) rfl
theorem zr_62_15 : zOK zPre 62 15 (s_s1_5 (nat_lit 45067) (nat_lit 17)) := zokE (zs1_5 _ _) (ok_s10 (t := 0) (i := 5) (zrow_istore (md := zmd_62) zh_62 (by decide +kernel) rfl))
theorem zr_62_17 : zOK zPre 62 17 (s_ld_5 (nat_lit 45067) (nat_lit 19)) := zokE (zld_5 _ _) (ok_ld0 (t := 0) (i := 5) (zrow_iload (md := zmd_62) zh_62 (by decide +kernel) rfl))
theorem zr_62_19 : zOK zPre 62 19 (s_ld_4 (nat_lit 45067) (nat_lit 21)) := zokE (zld_4 _ _) (ok_ld0 (t := 0) (i := 4) (zrow_iload (md := zmd_62) zh_62 (by decide +kernel) rfl))
theorem zr_62_21 : zOK zPre 62 21 (s_ic (nat_lit 4) zu_gt (nat_lit 70) (nat_lit 24)) := ok_ic_gt (off := 49) (md := zmd_62) zh_62 (by decide +kernel) (by decide +kernel) rfl
theorem zr_62_24 : zOK zPre 62 24 (s_ld_0 (nat_lit 1136) (nat_lit 25)) := zokE (zld_0 _ _) (ok_ld0 (t := 4) (i := 0) (zrow_aload_n (k := 0) (md := zmd_62) zh_62 (by decide +kernel) rfl rfl))
theorem zr_62_25 : zOK zPre 62 25 (s_ld_5 (nat_lit 45067) (nat_lit 27)) := zokE (zld_5 _ _) (ok_ld0 (t := 0) (i := 5) (zrow_iload (md := zmd_62) zh_62 (by decide +kernel) rfl))
theorem zr_62_27 : zOK zPre 62 27 (s_call (nat_lit 7) (nat_lit 63) (nat_lit 3) (nat_lit 2) (nat_lit 1) [] (nat_lit 30)) := ok_call (md := zmd_62) zh_62 zh_63 rfl (by decide) (by decide) (Or.inr (by decide)) zp_63 (zrow_callV (mdc := zmd_63) (index := 77) (md := zmd_62) zh_62 (by decide +kernel) rfl rfl zc_63 rfl (by decide) zw_2_209 zw_2_210 zw_2_211 zw_1_3 zd_63) trivial
theorem zr_62_30 : zOK zPre 62 30 (s_i2l (nat_lit 31)) := ok_i2l (md := zmd_62) zh_62 (by decide +kernel) rfl
theorem zr_62_31 : zOK zPre 62 31 (s_s2 (nat_lit 18436) (nat_lit 6) (nat_lit 33)) := ok_s20 (t := 1) (i := 6) (zrow_lstore (md := zmd_62) zh_62 (by decide +kernel) rfl)
theorem zr_62_33 : zOK zPre 62 33 (s_ld_5 (nat_lit 45067) (nat_lit 35)) := zokE (zld_5 _ _) (ok_ld0 (t := 0) (i := 5) (zrow_iload (md := zmd_62) zh_62 (by decide +kernel) rfl))
theorem zr_62_35 : zOK zPre 62 35 (s_k (nat_lit 480) (nat_lit 37)) := ok_bipush (n := 30) (md := zmd_62) zh_62 (by decide +kernel) rfl (by decide +kernel)
theorem zr_62_37 : zOK zPre 62 37 (s_imul (nat_lit 38)) := ok_imul (md := zmd_62) zh_62 (by decide +kernel) rfl
theorem zr_62_38 : zOK zPre 62 38 (s_ld_1 (nat_lit 45067) (nat_lit 39)) := zokE (zld_1 _ _) (ok_ld0 (t := 0) (i := 1) (zrow_iload_n (k := 1) (md := zmd_62) zh_62 (by decide +kernel) rfl rfl))
theorem zr_62_39 : zOK zPre 62 39 (s_isub (nat_lit 40)) := ok_isub (md := zmd_62) zh_62 (by decide +kernel) rfl
theorem zr_62_40 : zOK zPre 62 40 (s_s1 (nat_lit 45067) (nat_lit 8) (nat_lit 42)) := ok_s10 (t := 0) (i := 8) (zrow_istore (md := zmd_62) zh_62 (by decide +kernel) rfl)
theorem zr_62_42 : zOK zPre 62 42 (s_ld_2 (nat_lit 18436) (nat_lit 43)) := zokE (zld_2 _ _) (ok_ld0 (t := 1) (i := 2) (zrow_lload_n (k := 2) (md := zmd_62) zh_62 (by decide +kernel) rfl rfl))
theorem zr_62_43 : zOK zPre 62 43 (s_ld (nat_lit 45067) (nat_lit 8) (nat_lit 45)) := ok_ld0 (t := 0) (i := 8) (zrow_iload (md := zmd_62) zh_62 (by decide +kernel) rfl)
theorem zr_62_45 : zOK zPre 62 45 (s_if (nat_lit 3) zi_ge (nat_lit 57) (nat_lit 48)) := ok_if_ge (off := 12) (md := zmd_62) zh_62 (by decide +kernel) (by decide +kernel) rfl
theorem zr_62_48 : zOK zPre 62 48 (s_ld (nat_lit 18436) (nat_lit 6) (nat_lit 50)) := ok_ld0 (t := 1) (i := 6) (zrow_lload (md := zmd_62) zh_62 (by decide +kernel) rfl)
theorem zr_62_50 : zOK zPre 62 50 (s_ld (nat_lit 45067) (nat_lit 8) (nat_lit 52)) := ok_ld0 (t := 0) (i := 8) (zrow_iload (md := zmd_62) zh_62 (by decide +kernel) rfl)
theorem zr_62_52 : zOK zPre 62 52 (s_ineg (nat_lit 53)) := ok_ineg (md := zmd_62) zh_62 (by decide +kernel) rfl
theorem zr_62_53 : zOK zPre 62 53 (s_lushr (nat_lit 54)) := ok_lushr (md := zmd_62) zh_62 (by decide +kernel) rfl
theorem zr_62_54 : zOK zPre 62 54 (s_go (nat_lit 62)) := ok_go (off := 8) (md := zmd_62) zh_62 (by decide +kernel) (by decide +kernel)
theorem zr_62_57 : zOK zPre 62 57 (s_ld (nat_lit 18436) (nat_lit 6) (nat_lit 59)) := ok_ld0 (t := 1) (i := 6) (zrow_lload (md := zmd_62) zh_62 (by decide +kernel) rfl)
theorem zr_62_59 : zOK zPre 62 59 (s_ld (nat_lit 45067) (nat_lit 8) (nat_lit 61)) := ok_ld0 (t := 0) (i := 8) (zrow_iload (md := zmd_62) zh_62 (by decide +kernel) rfl)
theorem zr_62_61 : zOK zPre 62 61 (s_lshl (nat_lit 62)) := ok_lshl (md := zmd_62) zh_62 (by decide +kernel) rfl
theorem zr_62_62 : zOK zPre 62 62 (s_lor (nat_lit 63)) := ok_lor (md := zmd_62) zh_62 (by decide +kernel) rfl
theorem zr_62_63 : zOK zPre 62 63 (s_s2 (nat_lit 18436) (nat_lit 2) (nat_lit 64)) := ok_s20 (t := 1) (i := 2) (zrow_lstore_n (k := 2) (md := zmd_62) zh_62 (by decide +kernel) rfl rfl)
theorem zr_62_64 : zOK zPre 62 64 (s_inc (nat_lit 5) (nat_lit 16) (nat_lit 67)) := ok_inc (n := 1) (md := zmd_62) zh_62 (by decide +kernel) rfl (by decide +kernel)
theorem zr_62_67 : zOK zPre 62 67 (s_go (nat_lit 17)) := ok_go (off := -50) (md := zmd_62) zh_62 (by decide +kernel) (by decide +kernel)
theorem zr_62_70 : zOK zPre 62 70 (s_ld_2 (nat_lit 18436) (nat_lit 71)) := zokE (zld_2 _ _) (ok_ld0 (t := 1) (i := 2) (zrow_lload_n (k := 2) (md := zmd_62) zh_62 (by decide +kernel) rfl rfl))
theorem zr_62_71 : zOK zPre 62 71 (s_ret (nat_lit 18436)) := ok_ret0 (t := 1) (i := .lreturn) (ty := .long) (md := zmd_62) zh_62 rfl (by decide +kernel) ⟨rfl, rfl⟩
theorem zr_63_0 : zOK zPre 63 0 (s_ld_0 (nat_lit 1136) (nat_lit 1)) := zokE (zld_0 _ _) (ok_ld0 (t := 4) (i := 0) (zrow_aload_n (k := 0) (md := zmd_63) zh_63 (by decide +kernel) rfl rfl))
theorem zr_63_1 : zOK zPre 63 1 (s_gf (nat_lit 7) (nat_lit 2) (nat_lit 4)) := ok_gf0 (by decide) (zrow_gf (index := 17) (ref := "Residueworks$Whole") (C := RX8) (T := TX8) (N := 3) (md := zmd_63) zh_63 (by decide +kernel) rfl rfl (by decide) zu_X8 zw_1_69 rfl)
theorem zr_63_4 : zOK zPre 63 4 (s_if (nat_lit 2) zi_lt (nat_lit 13) (nat_lit 7)) := ok_if_lt (off := 9) (md := zmd_63) zh_63 (by decide +kernel) (by decide +kernel) rfl
theorem zr_63_7 : zOK zPre 63 7 (s_ld_0 (nat_lit 1136) (nat_lit 8)) := zokE (zld_0 _ _) (ok_ld0 (t := 4) (i := 0) (zrow_aload_n (k := 0) (md := zmd_63) zh_63 (by decide +kernel) rfl rfl))
theorem zr_63_8 : zOK zPre 63 8 (s_ld_1 (nat_lit 45067) (nat_lit 9)) := zokE (zld_1 _ _) (ok_ld0 (t := 0) (i := 1) (zrow_iload_n (k := 1) (md := zmd_63) zh_63 (by decide +kernel) rfl rfl))
theorem zr_63_9 : zOK zPre 63 9 (s_call (nat_lit 7) (nat_lit 29) (nat_lit 2) (nat_lit 2) (nat_lit 1) [] (nat_lit 12)) := ok_call (md := zmd_63) zh_63 zh_29 rfl (by decide) (by decide) (Or.inr (by decide)) zp_29 (zrow_callV (mdc := zmd_29) (index := 49) (md := zmd_63) zh_63 (by decide +kernel) rfl rfl zc_29 rfl (by decide) zw_2_180 zw_2_181 zw_2_182 zw_1_3 zd_29) trivial
theorem zr_63_12 : zOK zPre 63 12 (s_ret (nat_lit 45067)) := ok_ret0 (t := 0) (i := .ireturn) (ty := .int) (md := zmd_63) zh_63 rfl (by decide +kernel) ⟨rfl, rfl⟩
theorem zr_63_13 : zOK zPre 63 13 (s_ld_0 (nat_lit 1136) (nat_lit 14)) := zokE (zld_0 _ _) (ok_ld0 (t := 4) (i := 0) (zrow_aload_n (k := 0) (md := zmd_63) zh_63 (by decide +kernel) rfl rfl))
end RowsOK
