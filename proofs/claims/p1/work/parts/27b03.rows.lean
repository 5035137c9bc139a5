section RowsOK
theorem zr_63_14 : zOK zPre 63 14 (s_call (nat_lit 7) (nat_lit 40) (nat_lit 2) (nat_lit 1) (nat_lit 1) [] (nat_lit 17)) := ok_call (md := zmd_63) zh_63 zh_40 rfl (by decide) (by decide) (Or.inr (by decide)) zp_40 (zrow_callV (mdc := zmd_40) (index := 66) (md := zmd_63) zh_63 (by decide +kernel) rfl rfl zc_40 rfl (by decide) zw_2_188 zw_2_189 zw_2_190 zw_1_3 zd_40) trivial
theorem zr_63_17 : zOK zPre 63 17 (s_k (nat_lit 480) (nat_lit 19)) := ok_bipush (n := 30) (md := zmd_63) zh_63 (by decide +kernel) rfl (by decide +kernel)
theorem zr_63_19 : zOK zPre 63 19 (s_idiv (nat_lit 20)) := ok_idiv (md := zmd_63) zh_63 (by decide +kernel) rfl
theorem zr_63_20 : zOK zPre 63 20 (s_s1_2 (nat_lit 45067) (nat_lit 21)) := zokE (zs1_2 _ _) (ok_s10 (t := 0) (i := 2) (zrow_istore_n (k := 2) (md := zmd_63) zh_63 (by decide +kernel) rfl rfl))
theorem zr_63_21 : zOK zPre 63 21 (s_ld_1 (nat_lit 45067) (nat_lit 22)) := zokE (zld_1 _ _) (ok_ld0 (t := 0) (i := 1) (zrow_iload_n (k := 1) (md := zmd_63) zh_63 (by decide +kernel) rfl rfl))
theorem zr_63_22 : zOK zPre 63 22 (s_ld_2 (nat_lit 45067) (nat_lit 23)) := zokE (zld_2 _ _) (ok_ld0 (t := 0) (i := 2) (zrow_iload_n (k := 2) (md := zmd_63) zh_63 (by decide +kernel) rfl rfl))
theorem zr_63_23 : zOK zPre 63 23 (s_ic (nat_lit 3) zu_ge (nat_lit 28) (nat_lit 26)) := ok_ic_ge (off := 5) (md := zmd_63) zh_63 (by decide +kernel) (by decide +kernel) rfl
theorem zr_63_28 : zOK zPre 63 28 (s_ld_1 (nat_lit 45067) (nat_lit 29)) := zokE (zld_1 _ _) (ok_ld0 (t := 0) (i := 1) (zrow_iload_n (k := 1) (md := zmd_63) zh_63 (by decide +kernel) rfl rfl))
theorem zr_63_29 : zOK zPre 63 29 (s_ld_2 (nat_lit 45067) (nat_lit 30)) := zokE (zld_2 _ _) (ok_ld0 (t := 0) (i := 2) (zrow_iload_n (k := 2) (md := zmd_63) zh_63 (by decide +kernel) rfl rfl))
theorem zr_63_30 : zOK zPre 63 30 (s_ic (nat_lit 1) zu_ne (nat_lit 44) (nat_lit 33)) := ok_ic_ne (off := 14) (md := zmd_63) zh_63 (by decide +kernel) (by decide +kernel) rfl
theorem zr_63_33 : zOK zPre 63 33 (s_k (nat_lit 17179869184) (nat_lit 35)) := ok_ldc (i := 75) (n := (1073741824 : Int32)) (md := zmd_63) zh_63 (by decide +kernel) rfl zw_2_213 (by decide +kernel)
theorem zr_63_35 : zOK zPre 63 35 (s_ld_0 (nat_lit 1136) (nat_lit 36)) := zokE (zld_0 _ _) (ok_ld0 (t := 4) (i := 0) (zrow_aload_n (k := 0) (md := zmd_63) zh_63 (by decide +kernel) rfl rfl))
theorem zr_63_36 : zOK zPre 63 36 (s_ld_1 (nat_lit 45067) (nat_lit 37)) := zokE (zld_1 _ _) (ok_ld0 (t := 0) (i := 1) (zrow_iload_n (k := 1) (md := zmd_63) zh_63 (by decide +kernel) rfl rfl))
theorem zr_63_37 : zOK zPre 63 37 (s_call (nat_lit 7) (nat_lit 29) (nat_lit 2) (nat_lit 2) (nat_lit 1) [] (nat_lit 40)) := ok_call (md := zmd_63) zh_63 zh_29 rfl (by decide) (by decide) (Or.inr (by decide)) zp_29 (zrow_callV (mdc := zmd_29) (index := 49) (md := zmd_63) zh_63 (by decide +kernel) rfl rfl zc_29 rfl (by decide) zw_2_180 zw_2_181 zw_2_182 zw_1_3 zd_29) trivial
theorem zr_63_40 : zOK zPre 63 40 (s_isub (nat_lit 41)) := ok_isub (md := zmd_63) zh_63 (by decide +kernel) rfl
theorem zr_63_41 : zOK zPre 63 41 (s_go (nat_lit 52)) := ok_go (off := 11) (md := zmd_63) zh_63 (by decide +kernel) (by decide +kernel)
theorem zr_63_44 : zOK zPre 63 44 (s_k (nat_lit 17179869168) (nat_lit 46)) := ok_ldc (i := 76) (n := (1073741823 : Int32)) (md := zmd_63) zh_63 (by decide +kernel) rfl zw_2_214 (by decide +kernel)
theorem zr_63_46 : zOK zPre 63 46 (s_ld_0 (nat_lit 1136) (nat_lit 47)) := zokE (zld_0 _ _) (ok_ld0 (t := 4) (i := 0) (zrow_aload_n (k := 0) (md := zmd_63) zh_63 (by decide +kernel) rfl rfl))
theorem zr_63_47 : zOK zPre 63 47 (s_ld_1 (nat_lit 45067) (nat_lit 48)) := zokE (zld_1 _ _) (ok_ld0 (t := 0) (i := 1) (zrow_iload_n (k := 1) (md := zmd_63) zh_63 (by decide +kernel) rfl rfl))
theorem zr_63_48 : zOK zPre 63 48 (s_call (nat_lit 7) (nat_lit 29) (nat_lit 2) (nat_lit 2) (nat_lit 1) [] (nat_lit 51)) := ok_call (md := zmd_63) zh_63 zh_29 rfl (by decide) (by decide) (Or.inr (by decide)) zp_29 (zrow_callV (mdc := zmd_29) (index := 49) (md := zmd_63) zh_63 (by decide +kernel) rfl rfl zc_29 rfl (by decide) zw_2_180 zw_2_181 zw_2_182 zw_1_3 zd_29) trivial
theorem zr_63_51 : zOK zPre 63 51 (s_ixor (nat_lit 52)) := ok_ixor (md := zmd_63) zh_63 (by decide +kernel) rfl
theorem zr_63_52 : zOK zPre 63 52 (s_ret (nat_lit 45067)) := ok_ret0 (t := 0) (i := .ireturn) (ty := .int) (md := zmd_63) zh_63 rfl (by decide +kernel) ⟨rfl, rfl⟩
theorem zr_64_0 : zOK zPre 64 0 (s_ld_0 (nat_lit 1136) (nat_lit 1)) := zokE (zld_0 _ _) (ok_ld0 (t := 4) (i := 0) (zrow_aload_n (k := 0) (md := zmd_64) zh_64 (by decide +kernel) rfl rfl))
theorem zr_64_1 : zOK zPre 64 1 (s_k (nat_lit 16) (nat_lit 2)) := ok_iconst (n := 1) (md := zmd_64) zh_64 (by decide +kernel) rfl (by decide +kernel)
theorem zr_64_2 : zOK zPre 64 2 (s_na (nat_lit 20) (nat_lit 0) (nat_lit 4)) := ok_na0 (by decide) rfl (zrow_na20 (md := zmd_64) zh_64 (by decide +kernel) rfl zw_1_83)
theorem zr_64_4 : zOK zPre 64 4 (s_dup (nat_lit 5)) := ok_dup (md := zmd_64) zh_64 (by decide +kernel) rfl
theorem zr_64_5 : zOK zPre 64 5 (s_k (nat_lit 0) (nat_lit 6)) := ok_iconst (n := 0) (md := zmd_64) zh_64 (by decide +kernel) rfl (by decide +kernel)
theorem zr_64_6 : zOK zPre 64 6 (s_ld_1 (nat_lit 45067) (nat_lit 7)) := zokE (zld_1 _ _) (ok_ld0 (t := 0) (i := 1) (zrow_iload_n (k := 1) (md := zmd_64) zh_64 (by decide +kernel) rfl rfl))
theorem zr_64_7 : zOK zPre 64 7 (s_ast (nat_lit 20) (nat_lit 0) (nat_lit 8)) := ok_astI (Or.inl rfl) (Or.inl rfl) (zrow_iastore (md := zmd_64) zh_64 (by decide +kernel) rfl)
theorem zr_64_8 : zOK zPre 64 8 (s_call (nat_lit 99) (nat_lit 32) (nat_lit 6) (nat_lit 1) (nat_lit 1) [] (nat_lit 11)) := ok_call (md := zmd_64) zh_64 zh_32 rfl (by decide) (by decide) (Or.inl rfl) zp_32 (zrow_callS (mdc := zmd_32) (index := 176) (md := zmd_64) zh_64 (by decide +kernel) rfl rfl zc_32 zw_7_74 zw_7_75 zw_1_10 zd_32) trivial
theorem zr_64_11 : zOK zPre 64 11 (s_k (nat_lit 16) (nat_lit 12)) := ok_iconst (n := 1) (md := zmd_64) zh_64 (by decide +kernel) rfl (by decide +kernel)
theorem zr_64_12 : zOK zPre 64 12 (s_call (nat_lit 10) (nat_lit 34) (nat_lit 3) (nat_lit 3) (nat_lit 1) [] (nat_lit 15)) := ok_call (md := zmd_64) zh_64 zh_34 rfl (by decide) (by decide) (Or.inr (by decide)) zp_34 (zrow_callV (mdc := zmd_34) (index := 180) (md := zmd_64) zh_64 (by decide +kernel) rfl rfl zc_34 rfl (by decide) zw_7_81 zw_7_83 zws_33 zw_1_10 zd_34) trivial
theorem zr_64_15 : zOK zPre 64 15 (s_if (nat_lit 1) zi_ne (nat_lit 35) (nat_lit 18)) := ok_if_ne (off := 20) (md := zmd_64) zh_64 (by decide +kernel) (by decide +kernel) rfl
theorem zr_64_18 : zOK zPre 64 18 (s_ld_0 (nat_lit 1136) (nat_lit 19)) := zokE (zld_0 _ _) (ok_ld0 (t := 4) (i := 0) (zrow_aload_n (k := 0) (md := zmd_64) zh_64 (by decide +kernel) rfl rfl))
theorem zr_64_19 : zOK zPre 64 19 (s_ld_2 (nat_lit 45067) (nat_lit 20)) := zokE (zld_2 _ _) (ok_ld0 (t := 0) (i := 2) (zrow_iload_n (k := 2) (md := zmd_64) zh_64 (by decide +kernel) rfl rfl))
theorem zr_64_20 : zOK zPre 64 20 (s_i2l (nat_lit 21)) := ok_i2l (md := zmd_64) zh_64 (by decide +kernel) rfl
theorem zr_64_21 : zOK zPre 64 21 (s_k (nat_lit 2) (nat_lit 22)) := ok_lconst (n := 0) (md := zmd_64) zh_64 (by decide +kernel) rfl (by decide +kernel)
theorem zr_64_22 : zOK zPre 64 22 (s_k (nat_lit 11202) (nat_lit 25)) := ok_ldc2 (i := 199) (n := (700 : Int64)) (md := zmd_64) zh_64 (by decide +kernel) rfl zw_7_165 (by decide +kernel)
theorem zr_64_25 : zOK zPre 64 25 (s_call (nat_lit 99) (nat_lit 33) (nat_lit 6) (nat_lit 3) (nat_lit 1) [] (nat_lit 28)) := ok_call (md := zmd_64) zh_64 zh_33 rfl (by decide) (by decide) (Or.inl rfl) zp_33 (zrow_callS (mdc := zmd_33) (index := 172) (md := zmd_64) zh_64 (by decide +kernel) rfl rfl zc_33 zw_7_78 zw_7_79 zw_1_10 zd_33) trivial
theorem zr_64_28 : zOK zPre 64 28 (s_k (nat_lit 32) (nat_lit 29)) := ok_iconst (n := 2) (md := zmd_64) zh_64 (by decide +kernel) rfl (by decide +kernel)
theorem zr_64_29 : zOK zPre 64 29 (s_call (nat_lit 10) (nat_lit 34) (nat_lit 3) (nat_lit 3) (nat_lit 1) [] (nat_lit 32)) := ok_call (md := zmd_64) zh_64 zh_34 rfl (by decide) (by decide) (Or.inr (by decide)) zp_34 (zrow_callV (mdc := zmd_34) (index := 180) (md := zmd_64) zh_64 (by decide +kernel) rfl rfl zc_34 rfl (by decide) zw_7_81 zw_7_83 zws_33 zw_1_10 zd_34) trivial
theorem zr_64_32 : zOK zPre 64 32 (s_if (nat_lit 0) zi_eq (nat_lit 39) (nat_lit 35)) := ok_if_eq (off := 7) (md := zmd_64) zh_64 (by decide +kernel) (by decide +kernel) rfl
theorem zr_64_35 : zOK zPre 64 35 (s_k (nat_lit 2) (nat_lit 36)) := ok_lconst (n := 0) (md := zmd_64) zh_64 (by decide +kernel) rfl (by decide +kernel)
theorem zr_64_36 : zOK zPre 64 36 (s_go (nat_lit 49)) := ok_go (off := 13) (md := zmd_64) zh_64 (by decide +kernel) (by decide +kernel)
theorem zr_64_39 : zOK zPre 64 39 (s_ld_0 (nat_lit 1136) (nat_lit 40)) := zokE (zld_0 _ _) (ok_ld0 (t := 4) (i := 0) (zrow_aload_n (k := 0) (md := zmd_64) zh_64 (by decide +kernel) rfl rfl))
theorem zr_64_40 : zOK zPre 64 40 (s_gf (nat_lit 10) (nat_lit 0) (nat_lit 43)) := ok_gf0 (by decide) (zrow_gf (index := 144) (ref := "ResidueworksModel") (C := RX11) (T := TX11) (N := 6) (md := zmd_64) zh_64 (by decide +kernel) rfl rfl (by decide) zu_X11 zw_7_47 rfl)
theorem zr_64_43 : zOK zPre 64 43 (s_ld_1 (nat_lit 45067) (nat_lit 44)) := zokE (zld_1 _ _) (ok_ld0 (t := 0) (i := 1) (zrow_iload_n (k := 1) (md := zmd_64) zh_64 (by decide +kernel) rfl rfl))
theorem zr_64_44 : zOK zPre 64 44 (s_ald (nat_lit 25) (nat_lit 29) (nat_lit 45)) := ok_ald0 (by decide) (by decide) (by decide) (zrow_aaload (md := zmd_64) zh_64 (by decide +kernel) rfl)
theorem zr_64_45 : zOK zPre 64 45 (s_ld_2 (nat_lit 45067) (nat_lit 46)) := zokE (zld_2 _ _) (ok_ld0 (t := 0) (i := 2) (zrow_iload_n (k := 2) (md := zmd_64) zh_64 (by decide +kernel) rfl rfl))
theorem zr_64_46 : zOK zPre 64 46 (s_call (nat_lit 99) (nat_lit 65) (nat_lit 5) (nat_lit 2) (nat_lit 1) [] (nat_lit 49)) := ok_call (md := zmd_64) zh_64 zh_65 rfl (by decide) (by decide) (Or.inl rfl) zp_65 (zrow_callS (mdc := zmd_65) (index := 201) (md := zmd_64) zh_64 (by decide +kernel) rfl rfl zc_65 zw_7_166 zw_7_167 zw_1_10 zd_65) trivial
theorem zr_64_49 : zOK zPre 64 49 (s_ret (nat_lit 18436)) := ok_ret0 (t := 1) (i := .lreturn) (ty := .long) (md := zmd_64) zh_64 rfl (by decide +kernel) ⟨rfl, rfl⟩
theorem zr_65_0 : zOK zPre 65 0 (s_k (nat_lit 2) (nat_lit 1)) := ok_lconst (n := 0) (md := zmd_65) zh_65 (by decide +kernel) rfl (by decide +kernel)
theorem zr_65_1 : zOK zPre 65 1 (s_s2 (nat_lit 18436) (nat_lit 2) (nat_lit 2)) := ok_s20 (t := 1) (i := 2) (zrow_lstore_n (k := 2) (md := zmd_65) zh_65 (by decide +kernel) rfl rfl)
theorem zr_65_2 : zOK zPre 65 2 (s_k (nat_lit 1008) (nat_lit 4)) := ok_bipush (n := 63) (md := zmd_65) zh_65 (by decide +kernel) rfl (by decide +kernel)
theorem zr_65_4 : zOK zPre 65 4 (s_s1_4 (nat_lit 45067) (nat_lit 6)) := zokE (zs1_4 _ _) (ok_s10 (t := 0) (i := 4) (zrow_istore (md := zmd_65) zh_65 (by decide +kernel) rfl))
theorem zr_65_6 : zOK zPre 65 6 (s_ld_4 (nat_lit 45067) (nat_lit 8)) := zokE (zld_4 _ _) (ok_ld0 (t := 0) (i := 4) (zrow_iload (md := zmd_65) zh_65 (by decide +kernel) rfl))
theorem zr_65_8 : zOK zPre 65 8 (s_if (nat_lit 2) zi_lt (nat_lit 38) (nat_lit 11)) := ok_if_lt (off := 30) (md := zmd_65) zh_65 (by decide +kernel) (by decide +kernel) rfl
theorem zr_65_11 : zOK zPre 65 11 (s_ld_2 (nat_lit 18436) (nat_lit 12)) := zokE (zld_2 _ _) (ok_ld0 (t := 1) (i := 2) (zrow_lload_n (k := 2) (md := zmd_65) zh_65 (by decide +kernel) rfl rfl))
theorem zr_65_12 : zOK zPre 65 12 (s_k (nat_lit 16) (nat_lit 13)) := ok_iconst (n := 1) (md := zmd_65) zh_65 (by decide +kernel) rfl (by decide +kernel)
theorem zr_65_13 : zOK zPre 65 13 (s_lshl (nat_lit 14)) := ok_lshl (md := zmd_65) zh_65 (by decide +kernel) rfl
theorem zr_65_14 : zOK zPre 65 14 (s_ld_0 (nat_lit 1136) (nat_lit 15)) := zokE (zld_0 _ _) (ok_ld0 (t := 4) (i := 0) (zrow_aload_n (k := 0) (md := zmd_65) zh_65 (by decide +kernel) rfl rfl))
theorem zr_65_15 : zOK zPre 65 15 (s_ld_1 (nat_lit 45067) (nat_lit 16)) := zokE (zld_1 _ _) (ok_ld0 (t := 0) (i := 1) (zrow_iload_n (k := 1) (md := zmd_65) zh_65 (by decide +kernel) rfl rfl))
theorem zr_65_16 : zOK zPre 65 16 (s_ld_4 (nat_lit 45067) (nat_lit 18)) := zokE (zld_4 _ _) (ok_ld0 (t := 0) (i := 4) (zrow_iload (md := zmd_65) zh_65 (by decide +kernel) rfl))
theorem zr_65_18 : zOK zPre 65 18 (s_iadd (nat_lit 19)) := ok_iadd (md := zmd_65) zh_65 (by decide +kernel) rfl
theorem zr_65_19 : zOK zPre 65 19 (s_call (nat_lit 9) (nat_lit 66) (nat_lit 2) (nat_lit 2) (nat_lit 1) [] (nat_lit 22)) := ok_call (md := zmd_65) zh_65 zh_66 rfl (by decide) (by decide) (Or.inr (by decide)) zp_66 (zrow_callVN (mdc := zmd_66) (index := 132) (md := zmd_65) zh_65 (by decide +kernel) rfl rfl zc_66 rfl (by decide) zw_7_169 zw_7_171 zws_42 zw_1_19 zd_66) trivial
theorem zr_65_22 : zOK zPre 65 22 (s_if (nat_lit 0) zi_eq (nat_lit 29) (nat_lit 25)) := ok_if_eq (off := 7) (md := zmd_65) zh_65 (by decide +kernel) (by decide +kernel) rfl
theorem zr_65_29 : zOK zPre 65 29 (s_k (nat_lit 2) (nat_lit 30)) := ok_lconst (n := 0) (md := zmd_65) zh_65 (by decide +kernel) rfl (by decide +kernel)
theorem zr_65_30 : zOK zPre 65 30 (s_lor (nat_lit 31)) := ok_lor (md := zmd_65) zh_65 (by decide +kernel) rfl
theorem zr_65_31 : zOK zPre 65 31 (s_s2 (nat_lit 18436) (nat_lit 2) (nat_lit 32)) := ok_s20 (t := 1) (i := 2) (zrow_lstore_n (k := 2) (md := zmd_65) zh_65 (by decide +kernel) rfl rfl)
theorem zr_65_32 : zOK zPre 65 32 (s_inc (nat_lit 4) (nat_lit 68719476720) (nat_lit 35)) := ok_inc (n := -1) (md := zmd_65) zh_65 (by decide +kernel) rfl (by decide +kernel)
theorem zr_65_35 : zOK zPre 65 35 (s_go (nat_lit 6)) := ok_go (off := -29) (md := zmd_65) zh_65 (by decide +kernel) (by decide +kernel)
theorem zr_65_38 : zOK zPre 65 38 (s_ld_2 (nat_lit 18436) (nat_lit 39)) := zokE (zld_2 _ _) (ok_ld0 (t := 1) (i := 2) (zrow_lload_n (k := 2) (md := zmd_65) zh_65 (by decide +kernel) rfl rfl))
theorem zr_65_39 : zOK zPre 65 39 (s_ret (nat_lit 18436)) := ok_ret0 (t := 1) (i := .lreturn) (ty := .long) (md := zmd_65) zh_65 rfl (by decide +kernel) ⟨rfl, rfl⟩
theorem zr_66_0 : zOK zPre 66 0 (s_ld_0 (nat_lit 1136) (nat_lit 1)) := zokE (zld_0 _ _) (ok_ld0 (t := 4) (i := 0) (zrow_aload_n (k := 0) (md := zmd_66) zh_66 (by decide +kernel) rfl rfl))
theorem zr_66_1 : zOK zPre 66 1 (s_call (nat_lit 9) (nat_lit 37) (nat_lit 1) (nat_lit 1) (nat_lit 1) [] (nat_lit 4)) := ok_call (md := zmd_66) zh_66 zh_37 rfl (by decide) (by decide) (Or.inr (by decide)) zp_37 (zrow_callV (mdc := zmd_37) (index := 56) (md := zmd_66) zh_66 (by decide +kernel) rfl rfl zc_37 rfl (by decide) zw_7_93 zw_7_95 zws_36 zw_1_19 zd_37) trivial
theorem zr_66_4 : zOK zPre 66 4 (s_ld_1 (nat_lit 45067) (nat_lit 5)) := zokE (zld_1 _ _) (ok_ld0 (t := 0) (i := 1) (zrow_iload_n (k := 1) (md := zmd_66) zh_66 (by decide +kernel) rfl rfl))
theorem zr_66_5 : zOK zPre 66 5 (s_call (nat_lit 99) (nat_lit 67) (nat_lit 2) (nat_lit 2) (nat_lit 1) [] (nat_lit 8)) := ok_call (md := zmd_66) zh_66 zh_67 rfl (by decide) (by decide) (Or.inl rfl) zp_67 (zrow_callSN (mdc := zmd_67) (index := 64) (md := zmd_66) zh_66 (by decide +kernel) rfl rfl zc_67 zw_7_173 zw_7_174 zw_1_10 zd_67) trivial
theorem zr_66_8 : zOK zPre 66 8 (s_ld_0 (nat_lit 1136) (nat_lit 9)) := zokE (zld_0 _ _) (ok_ld0 (t := 4) (i := 0) (zrow_aload_n (k := 0) (md := zmd_66) zh_66 (by decide +kernel) rfl rfl))
theorem zr_66_9 : zOK zPre 66 9 (s_call (nat_lit 9) (nat_lit 68) (nat_lit 1) (nat_lit 1) (nat_lit 1) [] (nat_lit 12)) := ok_call (md := zmd_66) zh_66 zh_68 rfl (by decide) (by decide) (Or.inr (by decide)) zp_68 (zrow_callV (mdc := zmd_68) (index := 52) (md := zmd_66) zh_66 (by decide +kernel) rfl rfl zc_68 rfl (by decide) zw_7_118 zw_7_120 zws_38 zw_1_19 zd_68) trivial
theorem zr_66_12 : zOK zPre 66 12 (s_ic (nat_lit 0) zu_eq (nat_lit 19) (nat_lit 15)) := ok_ic_eq (off := 7) (md := zmd_66) zh_66 (by decide +kernel) (by decide +kernel) rfl
theorem zr_66_19 : zOK zPre 66 19 (s_k (nat_lit 0) (nat_lit 20)) := ok_iconst (n := 0) (md := zmd_66) zh_66 (by decide +kernel) rfl (by decide +kernel)
theorem zr_66_20 : zOK zPre 66 20 (s_rz (nat_lit 1)) := ok_rz (ft := 1) (Or.inl rfl) (md := zmd_66) zh_66 rfl (by decide +kernel)
theorem zr_67_0 : zOK zPre 67 0 (s_ld_1 (nat_lit 45067) (nat_lit 1)) := zokE (zld_1 _ _) (ok_ld0 (t := 0) (i := 1) (zrow_iload_n (k := 1) (md := zmd_67) zh_67 (by decide +kernel) rfl rfl))
theorem zr_67_1 : zOK zPre 67 1 (s_k (nat_lit 64) (nat_lit 2)) := ok_iconst (n := 4) (md := zmd_67) zh_67 (by decide +kernel) rfl (by decide +kernel)
theorem zr_67_2 : zOK zPre 67 2 (s_ishr (nat_lit 3)) := ok_ishr (md := zmd_67) zh_67 (by decide +kernel) rfl
theorem zr_67_3 : zOK zPre 67 3 (s_ld_0 (nat_lit 1136) (nat_lit 4)) := zokE (zld_0 _ _) (ok_ld0 (t := 4) (i := 0) (zrow_aload_n (k := 0) (md := zmd_67) zh_67 (by decide +kernel) rfl rfl))
theorem zr_67_4 : zOK zPre 67 4 (s_al (nat_lit 5)) := ok_al (md := zmd_67) zh_67 (by decide +kernel) rfl
theorem zr_67_5 : zOK zPre 67 5 (s_ic (nat_lit 3) zu_ge (nat_lit 28) (nat_lit 8)) := ok_ic_ge (off := 23) (md := zmd_67) zh_67 (by decide +kernel) (by decide +kernel) rfl
theorem zr_67_28 : zOK zPre 67 28 (s_k (nat_lit 0) (nat_lit 29)) := ok_iconst (n := 0) (md := zmd_67) zh_67 (by decide +kernel) rfl (by decide +kernel)
theorem zr_67_29 : zOK zPre 67 29 (s_rz (nat_lit 1)) := ok_rz (ft := 1) (Or.inl rfl) (md := zmd_67) zh_67 rfl (by decide +kernel)
theorem zr_68_0 : zOK zPre 68 0 (s_ld_0 (nat_lit 1136) (nat_lit 1)) := zokE (zld_0 _ _) (ok_ld0 (t := 4) (i := 0) (zrow_aload_n (k := 0) (md := zmd_68) zh_68 (by decide +kernel) rfl rfl))
theorem zr_68_1 : zOK zPre 68 1 (s_gf (nat_lit 9) (nat_lit 0) (nat_lit 4)) := ok_gf0 (by decide) (zrow_gf (index := 7) (ref := "ResidueworksModel$Whole") (C := RX10) (T := TX10) (N := 2) (md := zmd_68) zh_68 (by decide +kernel) rfl rfl (by decide) zu_X10 zw_7_38 rfl)
theorem zr_68_4 : zOK zPre 68 4 (s_if (nat_lit 3) zi_ge (nat_lit 11) (nat_lit 7)) := ok_if_ge (off := 7) (md := zmd_68) zh_68 (by decide +kernel) (by decide +kernel) rfl
theorem zr_68_11 : zOK zPre 68 11 (s_k (nat_lit 0) (nat_lit 12)) := ok_iconst (n := 0) (md := zmd_68) zh_68 (by decide +kernel) rfl (by decide +kernel)
theorem zr_68_12 : zOK zPre 68 12 (s_rz (nat_lit 1)) := ok_rz (ft := 1) (Or.inl rfl) (md := zmd_68) zh_68 rfl (by decide +kernel)
theorem zr_69_0 : zOK zPre 69 0 (s_ld_3 (nat_lit 1136) (nat_lit 1)) := zokE (zld_3 _ _) (ok_ld0 (t := 4) (i := 3) (zrow_aload_n (k := 3) (md := zmd_69) zh_69 (by decide +kernel) rfl rfl))
theorem zr_69_1 : zOK zPre 69 1 (s_k (nat_lit 0) (nat_lit 2)) := ok_iconst (n := 0) (md := zmd_69) zh_69 (by decide +kernel) rfl (by decide +kernel)
theorem zr_69_2 : zOK zPre 69 2 (s_ld_0 (nat_lit 1136) (nat_lit 3)) := zokE (zld_0 _ _) (ok_ld0 (t := 4) (i := 0) (zrow_aload_n (k := 0) (md := zmd_69) zh_69 (by decide +kernel) rfl rfl))
theorem zr_69_3 : zOK zPre 69 3 (s_ld_1 (nat_lit 45067) (nat_lit 4)) := zokE (zld_1 _ _) (ok_ld0 (t := 0) (i := 1) (zrow_iload_n (k := 1) (md := zmd_69) zh_69 (by decide +kernel) rfl rfl))
theorem zr_69_4 : zOK zPre 69 4 (s_ld_2 (nat_lit 45067) (nat_lit 5)) := zokE (zld_2 _ _) (ok_ld0 (t := 0) (i := 2) (zrow_iload_n (k := 2) (md := zmd_69) zh_69 (by decide +kernel) rfl rfl))
theorem zr_69_5 : zOK zPre 69 5 (s_call (nat_lit 8) (nat_lit 70) (nat_lit 4) (nat_lit 3) (nat_lit 1) [((nat_lit 0), (nat_lit 4), (nat_lit 15)), ((nat_lit 1), (nat_lit 4), (nat_lit 19))] (nat_lit 8)) := ok_call (md := zmd_69) zh_69 zh_70 rfl (by decide) (by decide) (Or.inr (by decide)) zp_70 (zrow_callV (mdc := zmd_70) (index := 30) (md := zmd_69) zh_69 (by decide +kernel) rfl rfl zc_70 rfl (by decide) zw_3_177 zw_3_178 zw_3_179 zw_1_1 zd_70) ⟨⟨by decide, by decide, by decide, by decide, zw_2_226, zw_3_75, zrow_astore (md := zmd_69) zh_69 (by decide +kernel) rfl⟩, ⟨⟨by decide, by decide, by decide, by decide, zw_3_149, zw_3_160, zrow_astore (md := zmd_69) zh_69 (by decide +kernel) rfl⟩, trivial⟩⟩
theorem zr_69_8 : zOK zPre 69 8 (s_i2l (nat_lit 9)) := ok_i2l (md := zmd_69) zh_69 (by decide +kernel) rfl
theorem zr_69_9 : zOK zPre 69 9 (s_ast (nat_lit 21) (nat_lit 4) (nat_lit 10)) := ok_astL rfl rfl (zrow_lastore (md := zmd_69) zh_69 (by decide +kernel) rfl)
theorem zr_69_10 : zOK zPre 69 10 (s_go (nat_lit 21)) := ok_go (off := 11) (md := zmd_69) zh_69 (by decide +kernel) (by decide +kernel)
theorem zr_69_15 : zOK zPre 69 15 (s_k (nat_lit 16) (nat_lit 16)) := ok_iconst (n := 1) (md := zmd_69) zh_69 (by decide +kernel) rfl (by decide +kernel)
theorem zr_69_16 : zOK zPre 69 16 (s_ret (nat_lit 45067)) := ok_ret0 (t := 0) (i := .ireturn) (ty := .int) (md := zmd_69) zh_69 rfl (by decide +kernel) ⟨rfl, rfl⟩
theorem zr_69_19 : zOK zPre 69 19 (s_k (nat_lit 32) (nat_lit 20)) := ok_iconst (n := 2) (md := zmd_69) zh_69 (by decide +kernel) rfl (by decide +kernel)
theorem zr_69_20 : zOK zPre 69 20 (s_ret (nat_lit 45067)) := ok_ret0 (t := 0) (i := .ireturn) (ty := .int) (md := zmd_69) zh_69 rfl (by decide +kernel) ⟨rfl, rfl⟩
theorem zr_69_21 : zOK zPre 69 21 (s_k (nat_lit 0) (nat_lit 22)) := ok_iconst (n := 0) (md := zmd_69) zh_69 (by decide +kernel) rfl (by decide +kernel)
theorem zr_69_22 : zOK zPre 69 22 (s_ret (nat_lit 45067)) := ok_ret0 (t := 0) (i := .ireturn) (ty := .int) (md := zmd_69) zh_69 rfl (by decide +kernel) ⟨rfl, rfl⟩
theorem zr_70_0 : zOK zPre 70 0 (s_ld_0 (nat_lit 1136) (nat_lit 1)) := zokE (zld_0 _ _) (ok_ld0 (t := 4) (i := 0) (zrow_aload_n (k := 0) (md := zmd_70) zh_70 (by decide +kernel) rfl rfl))
theorem zr_70_1 : zOK zPre 70 1 (s_ld_1 (nat_lit 45067) (nat_lit 2)) := zokE (zld_1 _ _) (ok_ld0 (t := 0) (i := 1) (zrow_iload_n (k := 1) (md := zmd_70) zh_70 (by decide +kernel) rfl rfl))
theorem zr_70_2 : zOK zPre 70 2 (s_call (nat_lit 8) (nat_lit 26) (nat_lit 2) (nat_lit 2) (nat_lit 1) [] (nat_lit 5)) := ok_call (md := zmd_70) zh_70 zh_26 rfl (by decide) (by decide) (Or.inr (by decide)) zp_26 (zrow_callV (mdc := zmd_26) (index := 72) (md := zmd_70) zh_70 (by decide +kernel) rfl rfl zc_26 rfl (by decide) zw_3_69 zw_3_71 zws_1 zw_1_1 zd_26) trivial
theorem zr_70_5 : zOK zPre 70 5 (s_s1_3 (nat_lit 1136) (nat_lit 6)) := zokE (zs1_3 _ _) (ok_s10 (t := 4) (i := 3) (zrow_astore_n (k := 3) (md := zmd_70) zh_70 (by decide +kernel) rfl rfl))
theorem zr_70_6 : zOK zPre 70 6 (s_ld_2 (nat_lit 45067) (nat_lit 7)) := zokE (zld_2 _ _) (ok_ld0 (t := 0) (i := 2) (zrow_iload_n (k := 2) (md := zmd_70) zh_70 (by decide +kernel) rfl rfl))
theorem zr_70_7 : zOK zPre 70 7 (s_sw [((nat_lit 1584), (nat_lit 58)), ((nat_lit 1728), (nat_lit 53)), ((nat_lit 1840), (nat_lit 48)), ((nat_lit 1856), (nat_lit 63))] (nat_lit 68)) := ok_lookup (dflt := 61) (os := #[(99, 51), (108, 46), (115, 41), (116, 56)]) (len := 41) (md := zmd_70) zh_70 (by decide +kernel) (by decide +kernel) (by decide +kernel) (by decide +kernel)
theorem zr_70_48 : zOK zPre 70 48 (s_ld_3 (nat_lit 1136) (nat_lit 49)) := zokE (zld_3 _ _) (ok_ld0 (t := 4) (i := 3) (zrow_aload_n (k := 3) (md := zmd_70) zh_70 (by decide +kernel) rfl rfl))
theorem zr_70_49 : zOK zPre 70 49 (s_gf (nat_lit 7) (nat_lit 2) (nat_lit 52)) := ok_gf0 (by decide) (zrow_gf (index := 111) (ref := "Residueworks$Whole") (C := RX8) (T := TX8) (N := 3) (md := zmd_70) zh_70 (by decide +kernel) rfl rfl (by decide) zu_X8 zw_1_74 rfl)
theorem zr_70_52 : zOK zPre 70 52 (s_ret (nat_lit 45067)) := ok_ret0 (t := 0) (i := .ireturn) (ty := .int) (md := zmd_70) zh_70 rfl (by decide +kernel) ⟨rfl, rfl⟩
theorem zr_70_53 : zOK zPre 70 53 (s_ld_3 (nat_lit 1136) (nat_lit 54)) := zokE (zld_3 _ _) (ok_ld0 (t := 4) (i := 3) (zrow_aload_n (k := 3) (md := zmd_70) zh_70 (by decide +kernel) rfl rfl))
theorem zr_70_54 : zOK zPre 70 54 (s_call (nat_lit 7) (nat_lit 27) (nat_lit 2) (nat_lit 1) (nat_lit 1) [] (nat_lit 57)) := ok_call (md := zmd_70) zh_70 zh_27 rfl (by decide) (by decide) (Or.inr (by decide)) zp_27 (zrow_callV (mdc := zmd_27) (index := 80) (md := zmd_70) zh_70 (by decide +kernel) rfl rfl zc_27 rfl (by decide) zw_2_172 zw_2_173 zw_2_174 zw_1_3 zd_27) trivial
theorem zr_70_57 : zOK zPre 70 57 (s_ret (nat_lit 45067)) := ok_ret0 (t := 0) (i := .ireturn) (ty := .int) (md := zmd_70) zh_70 rfl (by decide +kernel) ⟨rfl, rfl⟩
theorem zr_70_58 : zOK zPre 70 58 (s_ld_3 (nat_lit 1136) (nat_lit 59)) := zokE (zld_3 _ _) (ok_ld0 (t := 4) (i := 3) (zrow_aload_n (k := 3) (md := zmd_70) zh_70 (by decide +kernel) rfl rfl))
theorem zr_70_59 : zOK zPre 70 59 (s_call (nat_lit 7) (nat_lit 295) (nat_lit 3) (nat_lit 1) (nat_lit 1) [] (nat_lit 62)) := ok_call (md := zmd_70) zh_70 zh_295 rfl (by decide) (by decide) (Or.inr (by decide)) zp_295 (zrow_callV (mdc := zmd_295) (index := 115) (md := zmd_70) zh_70 (by decide +kernel) rfl rfl zc_295 rfl (by decide) zw_3_181 zw_3_182 zw_3_183 zw_1_3 zd_295) trivial
theorem zr_70_62 : zOK zPre 70 62 (s_ret (nat_lit 45067)) := ok_ret0 (t := 0) (i := .ireturn) (ty := .int) (md := zmd_70) zh_70 rfl (by decide +kernel) ⟨rfl, rfl⟩
theorem zr_70_63 : zOK zPre 70 63 (s_ld_3 (nat_lit 1136) (nat_lit 64)) := zokE (zld_3 _ _) (ok_ld0 (t := 4) (i := 3) (zrow_aload_n (k := 3) (md := zmd_70) zh_70 (by decide +kernel) rfl rfl))
theorem zr_70_64 : zOK zPre 70 64 (s_call (nat_lit 7) (nat_lit 40) (nat_lit 2) (nat_lit 1) (nat_lit 1) [] (nat_lit 67)) := ok_call (md := zmd_70) zh_70 zh_40 rfl (by decide) (by decide) (Or.inr (by decide)) zp_40 (zrow_callV (mdc := zmd_40) (index := 118) (md := zmd_70) zh_70 (by decide +kernel) rfl rfl zc_40 rfl (by decide) zw_3_191 zw_2_189 zw_2_190 zw_1_3 zd_40) trivial
theorem zr_70_67 : zOK zPre 70 67 (s_ret (nat_lit 45067)) := ok_ret0 (t := 0) (i := .ireturn) (ty := .int) (md := zmd_70) zh_70 rfl (by decide +kernel) ⟨rfl, rfl⟩
theorem zr_70_68 : zOK zPre 70 68 (s_thr (nat_lit 1)) := ok_thrS (ik := 121) (is := 123) (ic := 125) (tx := "nothing such is told") (md := zmd_70) zh_70 rfl rfl zth_121_125_1 (List.mem_of_getElem? (i := 0) rfl) (by decide +kernel) (by decide +kernel) (by decide +kernel) (by decide +kernel) (by decide +kernel)
theorem zr_71_0 : zOK zPre 71 0 (s_ld_0 (nat_lit 1136) (nat_lit 1)) := zokE (zld_0 _ _) (ok_ld0 (t := 4) (i := 0) (zrow_aload_n (k := 0) (md := zmd_71) zh_71 (by decide +kernel) rfl rfl))
theorem zr_71_1 : zOK zPre 71 1 (s_k (nat_lit 16) (nat_lit 2)) := ok_iconst (n := 1) (md := zmd_71) zh_71 (by decide +kernel) rfl (by decide +kernel)
theorem zr_71_2 : zOK zPre 71 2 (s_na (nat_lit 20) (nat_lit 0) (nat_lit 4)) := ok_na0 (by decide) rfl (zrow_na20 (md := zmd_71) zh_71 (by decide +kernel) rfl zw_1_83)
theorem zr_71_4 : zOK zPre 71 4 (s_dup (nat_lit 5)) := ok_dup (md := zmd_71) zh_71 (by decide +kernel) rfl
theorem zr_71_5 : zOK zPre 71 5 (s_k (nat_lit 0) (nat_lit 6)) := ok_iconst (n := 0) (md := zmd_71) zh_71 (by decide +kernel) rfl (by decide +kernel)
theorem zr_71_6 : zOK zPre 71 6 (s_ld_1 (nat_lit 45067) (nat_lit 7)) := zokE (zld_1 _ _) (ok_ld0 (t := 0) (i := 1) (zrow_iload_n (k := 1) (md := zmd_71) zh_71 (by decide +kernel) rfl rfl))
theorem zr_71_7 : zOK zPre 71 7 (s_ast (nat_lit 20) (nat_lit 0) (nat_lit 8)) := ok_astI (Or.inl rfl) (Or.inl rfl) (zrow_iastore (md := zmd_71) zh_71 (by decide +kernel) rfl)
theorem zr_71_8 : zOK zPre 71 8 (s_call (nat_lit 99) (nat_lit 32) (nat_lit 6) (nat_lit 1) (nat_lit 1) [] (nat_lit 11)) := ok_call (md := zmd_71) zh_71 zh_32 rfl (by decide) (by decide) (Or.inl rfl) zp_32 (zrow_callS (mdc := zmd_32) (index := 176) (md := zmd_71) zh_71 (by decide +kernel) rfl rfl zc_32 zw_7_74 zw_7_75 zw_1_10 zd_32) trivial
theorem zr_71_11 : zOK zPre 71 11 (s_k (nat_lit 16) (nat_lit 12)) := ok_iconst (n := 1) (md := zmd_71) zh_71 (by decide +kernel) rfl (by decide +kernel)
theorem zr_71_12 : zOK zPre 71 12 (s_call (nat_lit 10) (nat_lit 34) (nat_lit 3) (nat_lit 3) (nat_lit 1) [] (nat_lit 15)) := ok_call (md := zmd_71) zh_71 zh_34 rfl (by decide) (by decide) (Or.inr (by decide)) zp_34 (zrow_callV (mdc := zmd_34) (index := 180) (md := zmd_71) zh_71 (by decide +kernel) rfl rfl zc_34 rfl (by decide) zw_7_81 zw_7_83 zws_33 zw_1_10 zd_34) trivial
theorem zr_71_15 : zOK zPre 71 15 (s_if (nat_lit 1) zi_ne (nat_lit 40) (nat_lit 18)) := ok_if_ne (off := 25) (md := zmd_71) zh_71 (by decide +kernel) (by decide +kernel) rfl
theorem zr_71_18 : zOK zPre 71 18 (s_ld_0 (nat_lit 1136) (nat_lit 19)) := zokE (zld_0 _ _) (ok_ld0 (t := 4) (i := 0) (zrow_aload_n (k := 0) (md := zmd_71) zh_71 (by decide +kernel) rfl rfl))
theorem zr_71_19 : zOK zPre 71 19 (s_k (nat_lit 70) (nat_lit 21)) := ok_ldcT (index := 212) (tx := "slct") (md := zmd_71) zh_71 (by decide +kernel) rfl rfl (List.mem_of_getElem? (i := 0) rfl)
theorem zr_71_21 : zOK zPre 71 21 (s_ld_2 (nat_lit 45067) (nat_lit 22)) := zokE (zld_2 _ _) (ok_ld0 (t := 0) (i := 2) (zrow_iload_n (k := 2) (md := zmd_71) zh_71 (by decide +kernel) rfl rfl))
theorem zr_71_22 : zOK zPre 71 22 (s_call (nat_lit 14) (nat_lit 72) (nat_lit 2) (nat_lit 2) (nat_lit 1) [] (nat_lit 25)) := ok_call (md := zmd_71) zh_71 zh_72 rfl (by decide) (by decide) (Or.inr (by decide)) zp_72 (zrow_callV (mdc := zmd_72) (index := 214) (md := zmd_71) zh_71 (by decide +kernel) rfl rfl zc_72 rfl (by decide) zw_7_181 zw_7_182 zw_7_183 zw_1_13 zd_72) trivial
theorem zr_71_25 : zOK zPre 71 25 (s_if (nat_lit 2) zi_lt (nat_lit 32) (nat_lit 28)) := ok_if_lt (off := 7) (md := zmd_71) zh_71 (by decide +kernel) (by decide +kernel) rfl
theorem zr_71_28 : zOK zPre 71 28 (s_k (nat_lit 16) (nat_lit 29)) := ok_iconst (n := 1) (md := zmd_71) zh_71 (by decide +kernel) rfl (by decide +kernel)
theorem zr_71_29 : zOK zPre 71 29 (s_go (nat_lit 33)) := ok_go (off := 4) (md := zmd_71) zh_71 (by decide +kernel) (by decide +kernel)
theorem zr_71_32 : zOK zPre 71 32 (s_k (nat_lit 0) (nat_lit 33)) := ok_iconst (n := 0) (md := zmd_71) zh_71 (by decide +kernel) rfl (by decide +kernel)
theorem zr_71_33 : zOK zPre 71 33 (s_k (nat_lit 32) (nat_lit 34)) := ok_iconst (n := 2) (md := zmd_71) zh_71 (by decide +kernel) rfl (by decide +kernel)
theorem zr_71_34 : zOK zPre 71 34 (s_call (nat_lit 10) (nat_lit 34) (nat_lit 3) (nat_lit 3) (nat_lit 1) [] (nat_lit 37)) := ok_call (md := zmd_71) zh_71 zh_34 rfl (by decide) (by decide) (Or.inr (by decide)) zp_34 (zrow_callV (mdc := zmd_34) (index := 180) (md := zmd_71) zh_71 (by decide +kernel) rfl rfl zc_34 rfl (by decide) zw_7_81 zw_7_83 zws_33 zw_1_10 zd_34) trivial
theorem zr_71_37 : zOK zPre 71 37 (s_if (nat_lit 0) zi_eq (nat_lit 42) (nat_lit 40)) := ok_if_eq (off := 5) (md := zmd_71) zh_71 (by decide +kernel) (by decide +kernel) rfl
theorem zr_71_40 : zOK zPre 71 40 (s_k (nat_lit 0) (nat_lit 41)) := ok_iconst (n := 0) (md := zmd_71) zh_71 (by decide +kernel) rfl (by decide +kernel)
theorem zr_71_41 : zOK zPre 71 41 (s_ret (nat_lit 45067)) := ok_ret0 (t := 0) (i := .ireturn) (ty := .int) (md := zmd_71) zh_71 rfl (by decide +kernel) ⟨rfl, rfl⟩
theorem zr_71_42 : zOK zPre 71 42 (s_ld_0 (nat_lit 1136) (nat_lit 43)) := zokE (zld_0 _ _) (ok_ld0 (t := 4) (i := 0) (zrow_aload_n (k := 0) (md := zmd_71) zh_71 (by decide +kernel) rfl rfl))
theorem zr_71_43 : zOK zPre 71 43 (s_gf (nat_lit 10) (nat_lit 0) (nat_lit 46)) := ok_gf0 (by decide) (zrow_gf (index := 144) (ref := "ResidueworksModel") (C := RX11) (T := TX11) (N := 6) (md := zmd_71) zh_71 (by decide +kernel) rfl rfl (by decide) zu_X11 zw_7_47 rfl)
theorem zr_71_46 : zOK zPre 71 46 (s_ld_1 (nat_lit 45067) (nat_lit 47)) := zokE (zld_1 _ _) (ok_ld0 (t := 0) (i := 1) (zrow_iload_n (k := 1) (md := zmd_71) zh_71 (by decide +kernel) rfl rfl))
theorem zr_71_47 : zOK zPre 71 47 (s_ald (nat_lit 25) (nat_lit 29) (nat_lit 48)) := ok_ald0 (by decide) (by decide) (by decide) (zrow_aaload (md := zmd_71) zh_71 (by decide +kernel) rfl)
theorem zr_71_48 : zOK zPre 71 48 (s_s1_3 (nat_lit 1136) (nat_lit 49)) := zokE (zs1_3 _ _) (ok_s10 (t := 4) (i := 3) (zrow_astore_n (k := 3) (md := zmd_71) zh_71 (by decide +kernel) rfl rfl))
theorem zr_71_49 : zOK zPre 71 49 (s_ld_2 (nat_lit 45067) (nat_lit 50)) := zokE (zld_2 _ _) (ok_ld0 (t := 0) (i := 2) (zrow_iload_n (k := 2) (md := zmd_71) zh_71 (by decide +kernel) rfl rfl))
theorem zr_71_50 : zOK zPre 71 50 (s_k (nat_lit 1840) (nat_lit 52)) := ok_bipush (n := 115) (md := zmd_71) zh_71 (by decide +kernel) rfl (by decide +kernel)
theorem zr_71_52 : zOK zPre 71 52 (s_ic (nat_lit 1) zu_ne (nat_lit 62) (nat_lit 55)) := ok_ic_ne (off := 10) (md := zmd_71) zh_71 (by decide +kernel) (by decide +kernel) rfl
theorem zr_71_55 : zOK zPre 71 55 (s_ld_3 (nat_lit 1136) (nat_lit 56)) := zokE (zld_3 _ _) (ok_ld0 (t := 4) (i := 3) (zrow_aload_n (k := 3) (md := zmd_71) zh_71 (by decide +kernel) rfl rfl))
theorem zr_71_56 : zOK zPre 71 56 (s_gf (nat_lit 9) (nat_lit 0) (nat_lit 59)) := ok_gf0 (by decide) (zrow_gfN (index := 80) (ref := "ResidueworksModel$Whole") (C := RX10) (T := TX10) (N := 2) (md := zmd_71) zh_71 (by decide +kernel) rfl rfl (by decide) zu_X10 zw_7_39 rfl)
theorem zr_71_59 : zOK zPre 71 59 (s_go (nat_lit 92)) := ok_go (off := 33) (md := zmd_71) zh_71 (by decide +kernel) (by decide +kernel)
theorem zr_71_62 : zOK zPre 71 62 (s_ld_2 (nat_lit 45067) (nat_lit 63)) := zokE (zld_2 _ _) (ok_ld0 (t := 0) (i := 2) (zrow_iload_n (k := 2) (md := zmd_71) zh_71 (by decide +kernel) rfl rfl))
theorem zr_71_63 : zOK zPre 71 63 (s_k (nat_lit 1728) (nat_lit 65)) := ok_bipush (n := 108) (md := zmd_71) zh_71 (by decide +kernel) rfl (by decide +kernel)
theorem zr_71_65 : zOK zPre 71 65 (s_ic (nat_lit 1) zu_ne (nat_lit 75) (nat_lit 68)) := ok_ic_ne (off := 10) (md := zmd_71) zh_71 (by decide +kernel) (by decide +kernel) rfl
theorem zr_71_68 : zOK zPre 71 68 (s_ld_3 (nat_lit 1136) (nat_lit 69)) := zokE (zld_3 _ _) (ok_ld0 (t := 4) (i := 3) (zrow_aload_n (k := 3) (md := zmd_71) zh_71 (by decide +kernel) rfl rfl))
theorem zr_71_69 : zOK zPre 71 69 (s_call (nat_lit 9) (nat_lit 36) (nat_lit 1) (nat_lit 1) (nat_lit 1) [] (nat_lit 72)) := ok_call (md := zmd_71) zh_71 zh_36 rfl (by decide) (by decide) (Or.inr (by decide)) zp_36 (zrow_callVN (mdc := zmd_36) (index := 124) (md := zmd_71) zh_71 (by decide +kernel) rfl rfl zc_36 rfl (by decide) zw_7_89 zw_7_91 zws_35 zw_1_19 zd_36) trivial
theorem zr_71_72 : zOK zPre 71 72 (s_go (nat_lit 92)) := ok_go (off := 20) (md := zmd_71) zh_71 (by decide +kernel) (by decide +kernel)
theorem zr_71_75 : zOK zPre 71 75 (s_ld_2 (nat_lit 45067) (nat_lit 76)) := zokE (zld_2 _ _) (ok_ld0 (t := 0) (i := 2) (zrow_iload_n (k := 2) (md := zmd_71) zh_71 (by decide +kernel) rfl rfl))
theorem zr_71_76 : zOK zPre 71 76 (s_k (nat_lit 1584) (nat_lit 78)) := ok_bipush (n := 99) (md := zmd_71) zh_71 (by decide +kernel) rfl (by decide +kernel)
theorem zr_71_78 : zOK zPre 71 78 (s_ic (nat_lit 1) zu_ne (nat_lit 88) (nat_lit 81)) := ok_ic_ne (off := 10) (md := zmd_71) zh_71 (by decide +kernel) (by decide +kernel) rfl
theorem zr_71_81 : zOK zPre 71 81 (s_ld_3 (nat_lit 1136) (nat_lit 82)) := zokE (zld_3 _ _) (ok_ld0 (t := 4) (i := 3) (zrow_aload_n (k := 3) (md := zmd_71) zh_71 (by decide +kernel) rfl rfl))
theorem zr_71_82 : zOK zPre 71 82 (s_call (nat_lit 99) (nat_lit 296) (nat_lit 6) (nat_lit 1) (nat_lit 1) [] (nat_lit 85)) := ok_call (md := zmd_71) zh_71 zh_296 rfl (by decide) (by decide) (Or.inl rfl) zp_296 (zrow_callS (mdc := zmd_296) (index := 219) (md := zmd_71) zh_71 (by decide +kernel) rfl rfl zc_296 zw_8_24 zw_8_25 zw_1_10 zd_296) trivial
theorem zr_71_85 : zOK zPre 71 85 (s_go (nat_lit 92)) := ok_go (off := 7) (md := zmd_71) zh_71 (by decide +kernel) (by decide +kernel)
theorem zr_71_88 : zOK zPre 71 88 (s_ld_3 (nat_lit 1136) (nat_lit 89)) := zokE (zld_3 _ _) (ok_ld0 (t := 4) (i := 3) (zrow_aload_n (k := 3) (md := zmd_71) zh_71 (by decide +kernel) rfl rfl))
theorem zr_71_89 : zOK zPre 71 89 (s_call (nat_lit 99) (nat_lit 82) (nat_lit 2) (nat_lit 1) (nat_lit 1) [] (nat_lit 92)) := ok_call (md := zmd_71) zh_71 zh_82 rfl (by decide) (by decide) (Or.inl rfl) zp_82 (zrow_callS (mdc := zmd_82) (index := 222) (md := zmd_71) zh_71 (by decide +kernel) rfl rfl zc_82 zw_8_29 zw_8_30 zw_1_10 zd_82) trivial
theorem zr_71_92 : zOK zPre 71 92 (s_ret (nat_lit 45067)) := ok_ret0 (t := 0) (i := .ireturn) (ty := .int) (md := zmd_71) zh_71 rfl (by decide +kernel) ⟨rfl, rfl⟩
theorem zr_72_0 : zOK zPre 72 0 (s_ld_0 (nat_lit 1136) (nat_lit 1)) := zokE (zld_0 _ _) (ok_ld0 (t := 4) (i := 0) (zrow_aload_n (k := 0) (md := zmd_72) zh_72 (by decide +kernel) rfl rfl))
theorem zr_72_1 : zOK zPre 72 1 (s_ld_1 (nat_lit 45067) (nat_lit 2)) := zokE (zld_1 _ _) (ok_ld0 (t := 0) (i := 1) (zrow_iload_n (k := 1) (md := zmd_72) zh_72 (by decide +kernel) rfl rfl))
theorem zr_72_2 : zOK zPre 72 2 (s_k (nat_lit 0) (nat_lit 3)) := ok_iconst (n := 0) (md := zmd_72) zh_72 (by decide +kernel) rfl (by decide +kernel)
theorem zr_72_3 : zOK zPre 72 3 (s_call (nat_lit 14) (nat_lit 73) (nat_lit 3) (nat_lit 3) (nat_lit 1) [] (nat_lit 6)) := ok_call (md := zmd_72) zh_72 zh_73 rfl (by decide) (by decide) (Or.inr (by decide)) zp_73 (zrow_callV (mdc := zmd_73) (index := 633) (md := zmd_72) zh_72 (by decide +kernel) rfl rfl zc_73 rfl (by decide) zw_7_185 zw_7_186 zw_7_187 zw_1_13 zd_73) trivial
theorem zr_72_6 : zOK zPre 72 6 (s_ret (nat_lit 45067)) := ok_ret0 (t := 0) (i := .ireturn) (ty := .int) (md := zmd_72) zh_72 rfl (by decide +kernel) ⟨rfl, rfl⟩
theorem zr_73_0 : zOK zPre 73 0 (s_ld_0 (nat_lit 1136) (nat_lit 1)) := zokE (zld_0 _ _) (ok_ld0 (t := 4) (i := 0) (zrow_aload_n (k := 0) (md := zmd_73) zh_73 (by decide +kernel) rfl rfl))
theorem zr_73_1 : zOK zPre 73 1 (s_call (nat_lit 14) (nat_lit 74) (nat_lit 1) (nat_lit 1) (nat_lit 1) [] (nat_lit 4)) := ok_call (md := zmd_73) zh_73 zh_74 rfl (by decide) (by decide) (Or.inr (by decide)) zp_74 (zrow_callV (mdc := zmd_74) (index := 492) (md := zmd_73) zh_73 (by decide +kernel) rfl rfl zc_74 rfl (by decide) zw_7_189 zw_7_190 zw_7_191 zw_1_13 zd_74) trivial
theorem zr_73_4 : zOK zPre 73 4 (s_if (nat_lit 0) zi_eq (nat_lit 23) (nat_lit 7)) := ok_if_eq (off := 19) (md := zmd_73) zh_73 (by decide +kernel) (by decide +kernel) rfl
theorem zr_73_7 : zOK zPre 73 7 (s_ld_0 (nat_lit 1136) (nat_lit 8)) := zokE (zld_0 _ _) (ok_ld0 (t := 4) (i := 0) (zrow_aload_n (k := 0) (md := zmd_73) zh_73 (by decide +kernel) rfl rfl))
theorem zr_73_8 : zOK zPre 73 8 (s_gf (nat_lit 14) (nat_lit 0) (nat_lit 11)) := ok_gf0 (by decide) (zrow_gf (index := 9) (ref := "java/lang/String") (C := RJ0) (T := TJ0) (N := 2) (md := zmd_73) zh_73 (by decide +kernel) rfl rfl (by decide) zu_J0 zw_9_117 rfl)
theorem zr_73_11 : zOK zPre 73 11 (s_ld_1 (nat_lit 45067) (nat_lit 12)) := zokE (zld_1 _ _) (ok_ld0 (t := 0) (i := 1) (zrow_iload_n (k := 1) (md := zmd_73) zh_73 (by decide +kernel) rfl rfl))
theorem zr_73_12 : zOK zPre 73 12 (s_ld_2 (nat_lit 45067) (nat_lit 13)) := zokE (zld_2 _ _) (ok_ld0 (t := 0) (i := 2) (zrow_iload_n (k := 2) (md := zmd_73) zh_73 (by decide +kernel) rfl rfl))
theorem zr_73_13 : zOK zPre 73 13 (s_ld_0 (nat_lit 1136) (nat_lit 14)) := zokE (zld_0 _ _) (ok_ld0 (t := 4) (i := 0) (zrow_aload_n (k := 0) (md := zmd_73) zh_73 (by decide +kernel) rfl rfl))
theorem zr_73_14 : zOK zPre 73 14 (s_call (nat_lit 14) (nat_lit 75) (nat_lit 1) (nat_lit 1) (nat_lit 1) [] (nat_lit 17)) := ok_call (md := zmd_73) zh_73 zh_75 rfl (by decide) (by decide) (Or.inr (by decide)) zp_75 (zrow_callV (mdc := zmd_75) (index := 505) (md := zmd_73) zh_73 (by decide +kernel) rfl rfl zc_75 rfl (by decide) zw_7_194 zw_7_195 zw_7_196 zw_1_13 zd_75) trivial
theorem zr_73_17 : zOK zPre 73 17 (s_call (nat_lit 99) (nat_lit 77) (nat_lit 4) (nat_lit 4) (nat_lit 1) [] (nat_lit 20)) := ok_call (md := zmd_73) zh_73 zh_77 rfl (by decide) (by decide) (Or.inl rfl) zp_77 (zrow_callS (mdc := zmd_77) (index := 637) (md := zmd_73) zh_73 (by decide +kernel) rfl rfl zc_77 zw_7_202 zw_7_203 zw_1_30 zd_77) trivial
theorem zr_73_20 : zOK zPre 73 20 (s_go (nat_lit 36)) := ok_go (off := 16) (md := zmd_73) zh_73 (by decide +kernel) (by decide +kernel)
theorem zr_73_36 : zOK zPre 73 36 (s_ret (nat_lit 45067)) := ok_ret0 (t := 0) (i := .ireturn) (ty := .int) (md := zmd_73) zh_73 rfl (by decide +kernel) ⟨rfl, rfl⟩
theorem zr_74_0 : zOK zPre 74 0 (s_k (nat_lit 16) (nat_lit 3)) := ok_gets (index := 38) (C := "java/lang/String") (n := "COMPACT_STRINGS") (d := "Z") (md := zmd_74) zh_74 (by decide +kernel) rfl (List.mem_of_getElem? (i := 3) rfl) zw_7_193
theorem zr_74_3 : zOK zPre 74 3 (s_if (nat_lit 0) zi_eq (nat_lit 17) (nat_lit 6)) := ok_if_eq (off := 14) (md := zmd_74) zh_74 (by decide +kernel) (by decide +kernel) rfl
theorem zr_74_6 : zOK zPre 74 6 (s_ld_0 (nat_lit 1136) (nat_lit 7)) := zokE (zld_0 _ _) (ok_ld0 (t := 4) (i := 0) (zrow_aload_n (k := 0) (md := zmd_74) zh_74 (by decide +kernel) rfl rfl))
theorem zr_74_7 : zOK zPre 74 7 (s_gf (nat_lit 14) (nat_lit 1) (nat_lit 10)) := ok_gf0 (by decide) (zrow_gf (index := 15) (ref := "java/lang/String") (C := RJ0) (T := TJ0) (N := 2) (md := zmd_74) zh_74 (by decide +kernel) rfl rfl (by decide) zu_J0 zw_9_118 rfl)
theorem zr_74_10 : zOK zPre 74 10 (s_if (nat_lit 1) zi_ne (nat_lit 17) (nat_lit 13)) := ok_if_ne (off := 7) (md := zmd_74) zh_74 (by decide +kernel) (by decide +kernel) rfl
theorem zr_74_13 : zOK zPre 74 13 (s_k (nat_lit 16) (nat_lit 14)) := ok_iconst (n := 1) (md := zmd_74) zh_74 (by decide +kernel) rfl (by decide +kernel)
theorem zr_74_14 : zOK zPre 74 14 (s_go (nat_lit 18)) := ok_go (off := 4) (md := zmd_74) zh_74 (by decide +kernel) (by decide +kernel)
theorem zr_74_18 : zOK zPre 74 18 (s_rz (nat_lit 1)) := ok_rz (ft := 1) (Or.inl rfl) (md := zmd_74) zh_74 rfl (by decide +kernel)
theorem zr_75_0 : zOK zPre 75 0 (s_ld_0 (nat_lit 1136) (nat_lit 1)) := zokE (zld_0 _ _) (ok_ld0 (t := 4) (i := 0) (zrow_aload_n (k := 0) (md := zmd_75) zh_75 (by decide +kernel) rfl rfl))
theorem zr_75_1 : zOK zPre 75 1 (s_gf (nat_lit 14) (nat_lit 0) (nat_lit 4)) := ok_gf0 (by decide) (zrow_gf (index := 9) (ref := "java/lang/String") (C := RJ0) (T := TJ0) (N := 2) (md := zmd_75) zh_75 (by decide +kernel) rfl rfl (by decide) zu_J0 zw_9_117 rfl)
theorem zr_75_4 : zOK zPre 75 4 (s_al (nat_lit 5)) := ok_al (md := zmd_75) zh_75 (by decide +kernel) rfl
theorem zr_75_5 : zOK zPre 75 5 (s_ld_0 (nat_lit 1136) (nat_lit 6)) := zokE (zld_0 _ _) (ok_ld0 (t := 4) (i := 0) (zrow_aload_n (k := 0) (md := zmd_75) zh_75 (by decide +kernel) rfl rfl))
theorem zr_75_6 : zOK zPre 75 6 (s_call (nat_lit 14) (nat_lit 76) (nat_lit 1) (nat_lit 1) (nat_lit 1) [] (nat_lit 9)) := ok_call (md := zmd_75) zh_75 zh_76 rfl (by decide) (by decide) (Or.inr (by decide)) zp_76 (zrow_callV (mdc := zmd_76) (index := 335) (md := zmd_75) zh_75 (by decide +kernel) rfl rfl zc_76 rfl (by decide) zw_7_198 zw_7_199 zw_7_200 zw_1_13 zd_76) trivial
theorem zr_75_9 : zOK zPre 75 9 (s_ishr (nat_lit 10)) := ok_ishr (md := zmd_75) zh_75 (by decide +kernel) rfl
theorem zr_75_10 : zOK zPre 75 10 (s_ret (nat_lit 45067)) := ok_ret0 (t := 0) (i := .ireturn) (ty := .int) (md := zmd_75) zh_75 rfl (by decide +kernel) ⟨rfl, rfl⟩
theorem zr_76_0 : zOK zPre 76 0 (s_k (nat_lit 16) (nat_lit 3)) := ok_gets (index := 38) (C := "java/lang/String") (n := "COMPACT_STRINGS") (d := "Z") (md := zmd_76) zh_76 (by decide +kernel) rfl (List.mem_of_getElem? (i := 3) rfl) zw_7_193
theorem zr_76_3 : zOK zPre 76 3 (s_if (nat_lit 0) zi_eq (nat_lit 13) (nat_lit 6)) := ok_if_eq (off := 10) (md := zmd_76) zh_76 (by decide +kernel) (by decide +kernel) rfl
theorem zr_76_6 : zOK zPre 76 6 (s_ld_0 (nat_lit 1136) (nat_lit 7)) := zokE (zld_0 _ _) (ok_ld0 (t := 4) (i := 0) (zrow_aload_n (k := 0) (md := zmd_76) zh_76 (by decide +kernel) rfl rfl))
theorem zr_76_7 : zOK zPre 76 7 (s_gf (nat_lit 14) (nat_lit 1) (nat_lit 10)) := ok_gf0 (by decide) (zrow_gf (index := 15) (ref := "java/lang/String") (C := RJ0) (T := TJ0) (N := 2) (md := zmd_76) zh_76 (by decide +kernel) rfl rfl (by decide) zu_J0 zw_9_118 rfl)
theorem zr_76_10 : zOK zPre 76 10 (s_go (nat_lit 14)) := ok_go (off := 4) (md := zmd_76) zh_76 (by decide +kernel) (by decide +kernel)
theorem zr_76_14 : zOK zPre 76 14 (s_rz (nat_lit 2)) := ok_rz (ft := 2) (Or.inr (Or.inl rfl)) (md := zmd_76) zh_76 rfl (by decide +kernel)
theorem zr_77_0 : zOK zPre 77 0 (s_ld_1 (nat_lit 45067) (nat_lit 1)) := zokE (zld_1 _ _) (ok_ld0 (t := 0) (i := 1) (zrow_iload_n (k := 1) (md := zmd_77) zh_77 (by decide +kernel) rfl rfl))
theorem zr_77_1 : zOK zPre 77 1 (s_call (nat_lit 99) (nat_lit 78) (nat_lit 1) (nat_lit 1) (nat_lit 1) [] (nat_lit 4)) := ok_call (md := zmd_77) zh_77 zh_78 rfl (by decide) (by decide) (Or.inl rfl) zp_78 (zrow_callS (mdc := zmd_78) (index := 88) (md := zmd_77) zh_77 (by decide +kernel) rfl rfl zc_78 zw_7_205 zw_7_206 zw_1_30 zd_78) trivial
theorem zr_77_4 : zOK zPre 77 4 (s_if (nat_lit 1) zi_ne (nat_lit 9) (nat_lit 7)) := ok_if_ne (off := 5) (md := zmd_77) zh_77 (by decide +kernel) (by decide +kernel) rfl
theorem zr_77_7 : zOK zPre 77 7 (s_k (nat_lit 68719476720) (nat_lit 8)) := ok_iconst (n := -1) (md := zmd_77) zh_77 (by decide +kernel) rfl (by decide +kernel)
theorem zr_77_8 : zOK zPre 77 8 (s_ret (nat_lit 45067)) := ok_ret0 (t := 0) (i := .ireturn) (ty := .int) (md := zmd_77) zh_77 rfl (by decide +kernel) ⟨rfl, rfl⟩
theorem zr_77_9 : zOK zPre 77 9 (s_ld_2 (nat_lit 45067) (nat_lit 10)) := zokE (zld_2 _ _) (ok_ld0 (t := 0) (i := 2) (zrow_iload_n (k := 2) (md := zmd_77) zh_77 (by decide +kernel) rfl rfl))
theorem zr_77_10 : zOK zPre 77 10 (s_k (nat_lit 0) (nat_lit 11)) := ok_iconst (n := 0) (md := zmd_77) zh_77 (by decide +kernel) rfl (by decide +kernel)
theorem zr_77_11 : zOK zPre 77 11 (s_call (nat_lit 99) (nat_lit 79) (nat_lit 2) (nat_lit 2) (nat_lit 1) [] (nat_lit 14)) := ok_call (md := zmd_77) zh_77 zh_79 rfl (by decide) (by decide) (Or.inl rfl) zp_79 (zrow_callS (mdc := zmd_79) (index := 92) (md := zmd_77) zh_77 (by decide +kernel) rfl rfl zc_79 zw_7_208 zw_7_145 zw_1_18 zd_79) trivial
theorem zr_77_14 : zOK zPre 77 14 (s_s1_2 (nat_lit 45067) (nat_lit 15)) := zokE (zs1_2 _ _) (ok_s10 (t := 0) (i := 2) (zrow_istore_n (k := 2) (md := zmd_77) zh_77 (by decide +kernel) rfl rfl))
theorem zr_77_15 : zOK zPre 77 15 (s_ld_3 (nat_lit 45067) (nat_lit 16)) := zokE (zld_3 _ _) (ok_ld0 (t := 0) (i := 3) (zrow_iload_n (k := 3) (md := zmd_77) zh_77 (by decide +kernel) rfl rfl))
theorem zr_77_16 : zOK zPre 77 16 (s_ld_0 (nat_lit 1136) (nat_lit 17)) := zokE (zld_0 _ _) (ok_ld0 (t := 4) (i := 0) (zrow_aload_n (k := 0) (md := zmd_77) zh_77 (by decide +kernel) rfl rfl))
theorem zr_77_17 : zOK zPre 77 17 (s_al (nat_lit 18)) := ok_al (md := zmd_77) zh_77 (by decide +kernel) rfl
theorem zr_77_18 : zOK zPre 77 18 (s_call (nat_lit 99) (nat_lit 80) (nat_lit 2) (nat_lit 2) (nat_lit 1) [] (nat_lit 21)) := ok_call (md := zmd_77) zh_77 zh_80 rfl (by decide) (by decide) (Or.inl rfl) zp_80 (zrow_callS (mdc := zmd_80) (index := 38) (md := zmd_77) zh_77 (by decide +kernel) rfl rfl zc_80 zw_7_209 zw_7_210 zw_1_18 zd_80) trivial
theorem zr_77_21 : zOK zPre 77 21 (s_s1_3 (nat_lit 45067) (nat_lit 22)) := zokE (zs1_3 _ _) (ok_s10 (t := 0) (i := 3) (zrow_istore_n (k := 3) (md := zmd_77) zh_77 (by decide +kernel) rfl rfl))
theorem zr_77_22 : zOK zPre 77 22 (s_ld_2 (nat_lit 45067) (nat_lit 23)) := zokE (zld_2 _ _) (ok_ld0 (t := 0) (i := 2) (zrow_iload_n (k := 2) (md := zmd_77) zh_77 (by decide +kernel) rfl rfl))
theorem zr_77_23 : zOK zPre 77 23 (s_ld_3 (nat_lit 45067) (nat_lit 24)) := zokE (zld_3 _ _) (ok_ld0 (t := 0) (i := 3) (zrow_iload_n (k := 3) (md := zmd_77) zh_77 (by decide +kernel) rfl rfl))
theorem zr_77_24 : zOK zPre 77 24 (s_ic (nat_lit 2) zu_lt (nat_lit 29) (nat_lit 27)) := ok_ic_lt (off := 5) (md := zmd_77) zh_77 (by decide +kernel) (by decide +kernel) rfl
theorem zr_77_29 : zOK zPre 77 29 (s_ld_0 (nat_lit 1136) (nat_lit 30)) := zokE (zld_0 _ _) (ok_ld0 (t := 4) (i := 0) (zrow_aload_n (k := 0) (md := zmd_77) zh_77 (by decide +kernel) rfl rfl))
theorem zr_77_30 : zOK zPre 77 30 (s_ld_1 (nat_lit 45067) (nat_lit 31)) := zokE (zld_1 _ _) (ok_ld0 (t := 0) (i := 1) (zrow_iload_n (k := 1) (md := zmd_77) zh_77 (by decide +kernel) rfl rfl))
theorem zr_77_31 : zOK zPre 77 31 (s_ld_2 (nat_lit 45067) (nat_lit 32)) := zokE (zld_2 _ _) (ok_ld0 (t := 0) (i := 2) (zrow_iload_n (k := 2) (md := zmd_77) zh_77 (by decide +kernel) rfl rfl))
theorem zr_77_32 : zOK zPre 77 32 (s_ld_3 (nat_lit 45067) (nat_lit 33)) := zokE (zld_3 _ _) (ok_ld0 (t := 0) (i := 3) (zrow_iload_n (k := 3) (md := zmd_77) zh_77 (by decide +kernel) rfl rfl))
theorem zr_77_33 : zOK zPre 77 33 (s_call (nat_lit 99) (nat_lit 81) (nat_lit 6) (nat_lit 4) (nat_lit 1) [] (nat_lit 36)) := ok_call (md := zmd_77) zh_77 zh_81 rfl (by decide) (by decide) (Or.inl rfl) zp_81 (zrow_callS (mdc := zmd_81) (index := 95) (md := zmd_77) zh_77 (by decide +kernel) rfl rfl zc_81 zw_7_212 zw_7_213 zw_1_30 zd_81) trivial
theorem zr_77_36 : zOK zPre 77 36 (s_ret (nat_lit 45067)) := ok_ret0 (t := 0) (i := .ireturn) (ty := .int) (md := zmd_77) zh_77 rfl (by decide +kernel) ⟨rfl, rfl⟩
theorem zr_78_0 : zOK zPre 78 0 (s_ld_0 (nat_lit 45067) (nat_lit 1)) := zokE (zld_0 _ _) (ok_ld0 (t := 0) (i := 0) (zrow_iload_n (k := 0) (md := zmd_78) zh_78 (by decide +kernel) rfl rfl))
theorem zr_78_1 : zOK zPre 78 1 (s_if (nat_lit 2) zi_lt (nat_lit 15) (nat_lit 4)) := ok_if_lt (off := 14) (md := zmd_78) zh_78 (by decide +kernel) (by decide +kernel) rfl
theorem zr_78_4 : zOK zPre 78 4 (s_ld_0 (nat_lit 45067) (nat_lit 5)) := zokE (zld_0 _ _) (ok_ld0 (t := 0) (i := 0) (zrow_iload_n (k := 0) (md := zmd_78) zh_78 (by decide +kernel) rfl rfl))
theorem zr_78_5 : zOK zPre 78 5 (s_k (nat_lit 4080) (nat_lit 8)) := ok_sipush (n := 255) (md := zmd_78) zh_78 (by decide +kernel) rfl (by decide +kernel)
theorem zr_78_8 : zOK zPre 78 8 (s_ic (nat_lit 4) zu_gt (nat_lit 15) (nat_lit 11)) := ok_ic_gt (off := 7) (md := zmd_78) zh_78 (by decide +kernel) (by decide +kernel) rfl
theorem zr_78_11 : zOK zPre 78 11 (s_k (nat_lit 16) (nat_lit 12)) := ok_iconst (n := 1) (md := zmd_78) zh_78 (by decide +kernel) rfl (by decide +kernel)
theorem zr_78_12 : zOK zPre 78 12 (s_go (nat_lit 16)) := ok_go (off := 4) (md := zmd_78) zh_78 (by decide +kernel) (by decide +kernel)
theorem zr_78_15 : zOK zPre 78 15 (s_k (nat_lit 0) (nat_lit 16)) := ok_iconst (n := 0) (md := zmd_78) zh_78 (by decide +kernel) rfl (by decide +kernel)
theorem zr_78_16 : zOK zPre 78 16 (s_rz (nat_lit 1)) := ok_rz (ft := 1) (Or.inl rfl) (md := zmd_78) zh_78 rfl (by decide +kernel)
theorem zr_79_0 : zOK zPre 79 0 (s_ld_0 (nat_lit 45067) (nat_lit 1)) := zokE (zld_0 _ _) (ok_ld0 (t := 0) (i := 0) (zrow_iload_n (k := 0) (md := zmd_79) zh_79 (by decide +kernel) rfl rfl))
theorem zr_79_1 : zOK zPre 79 1 (s_ld_1 (nat_lit 45067) (nat_lit 2)) := zokE (zld_1 _ _) (ok_ld0 (t := 0) (i := 1) (zrow_iload_n (k := 1) (md := zmd_79) zh_79 (by decide +kernel) rfl rfl))
theorem zr_79_2 : zOK zPre 79 2 (s_ic (nat_lit 2) zu_lt (nat_lit 9) (nat_lit 5)) := ok_ic_lt (off := 7) (md := zmd_79) zh_79 (by decide +kernel) (by decide +kernel) rfl
theorem zr_79_5 : zOK zPre 79 5 (s_ld_0 (nat_lit 45067) (nat_lit 6)) := zokE (zld_0 _ _) (ok_ld0 (t := 0) (i := 0) (zrow_iload_n (k := 0) (md := zmd_79) zh_79 (by decide +kernel) rfl rfl))
theorem zr_79_6 : zOK zPre 79 6 (s_go (nat_lit 10)) := ok_go (off := 4) (md := zmd_79) zh_79 (by decide +kernel) (by decide +kernel)
theorem zr_79_10 : zOK zPre 79 10 (s_ret (nat_lit 45067)) := ok_ret0 (t := 0) (i := .ireturn) (ty := .int) (md := zmd_79) zh_79 rfl (by decide +kernel) ⟨rfl, rfl⟩
theorem zr_80_0 : zOK zPre 80 0 (s_ld_0 (nat_lit 45067) (nat_lit 1)) := zokE (zld_0 _ _) (ok_ld0 (t := 0) (i := 0) (zrow_iload_n (k := 0) (md := zmd_80) zh_80 (by decide +kernel) rfl rfl))
theorem zr_80_1 : zOK zPre 80 1 (s_ld_1 (nat_lit 45067) (nat_lit 2)) := zokE (zld_1 _ _) (ok_ld0 (t := 0) (i := 1) (zrow_iload_n (k := 1) (md := zmd_80) zh_80 (by decide +kernel) rfl rfl))
theorem zr_80_2 : zOK zPre 80 2 (s_ic (nat_lit 4) zu_gt (nat_lit 9) (nat_lit 5)) := ok_ic_gt (off := 7) (md := zmd_80) zh_80 (by decide +kernel) (by decide +kernel) rfl
theorem zr_80_5 : zOK zPre 80 5 (s_ld_0 (nat_lit 45067) (nat_lit 6)) := zokE (zld_0 _ _) (ok_ld0 (t := 0) (i := 0) (zrow_iload_n (k := 0) (md := zmd_80) zh_80 (by decide +kernel) rfl rfl))
theorem zr_80_6 : zOK zPre 80 6 (s_go (nat_lit 10)) := ok_go (off := 4) (md := zmd_80) zh_80 (by decide +kernel) (by decide +kernel)
theorem zr_80_10 : zOK zPre 80 10 (s_ret (nat_lit 45067)) := ok_ret0 (t := 0) (i := .ireturn) (ty := .int) (md := zmd_80) zh_80 rfl (by decide +kernel) ⟨rfl, rfl⟩
theorem zr_81_0 : zOK zPre 81 0 (s_ld_1 (nat_lit 45067) (nat_lit 1)) := zokE (zld_1 _ _) (ok_ld0 (t := 0) (i := 1) (zrow_iload_n (k := 1) (md := zmd_81) zh_81 (by decide +kernel) rfl rfl))
theorem zr_81_1 : zOK zPre 81 1 (s_i2b (nat_lit 2)) := ok_i2b (md := zmd_81) zh_81 (by decide +kernel) rfl
theorem zr_81_2 : zOK zPre 81 2 (s_s1_4 (nat_lit 45067) (nat_lit 4)) := zokE (zs1_4 _ _) (ok_s10 (t := 0) (i := 4) (zrow_istore (md := zmd_81) zh_81 (by decide +kernel) rfl))
theorem zr_81_4 : zOK zPre 81 4 (s_ld_2 (nat_lit 45067) (nat_lit 5)) := zokE (zld_2 _ _) (ok_ld0 (t := 0) (i := 2) (zrow_iload_n (k := 2) (md := zmd_81) zh_81 (by decide +kernel) rfl rfl))
theorem zr_81_5 : zOK zPre 81 5 (s_s1_5 (nat_lit 45067) (nat_lit 7)) := zokE (zs1_5 _ _) (ok_s10 (t := 0) (i := 5) (zrow_istore (md := zmd_81) zh_81 (by decide +kernel) rfl))
theorem zr_81_7 : zOK zPre 81 7 (s_ld_5 (nat_lit 45067) (nat_lit 9)) := zokE (zld_5 _ _) (ok_ld0 (t := 0) (i := 5) (zrow_iload (md := zmd_81) zh_81 (by decide +kernel) rfl))
theorem zr_81_9 : zOK zPre 81 9 (s_ld_3 (nat_lit 45067) (nat_lit 10)) := zokE (zld_3 _ _) (ok_ld0 (t := 0) (i := 3) (zrow_iload_n (k := 3) (md := zmd_81) zh_81 (by decide +kernel) rfl rfl))
theorem zr_81_10 : zOK zPre 81 10 (s_ic (nat_lit 3) zu_ge (nat_lit 31) (nat_lit 13)) := ok_ic_ge (off := 21) (md := zmd_81) zh_81 (by decide +kernel) (by decide +kernel) rfl
theorem zr_81_13 : zOK zPre 81 13 (s_ld_0 (nat_lit 1136) (nat_lit 14)) := zokE (zld_0 _ _) (ok_ld0 (t := 4) (i := 0) (zrow_aload_n (k := 0) (md := zmd_81) zh_81 (by decide +kernel) rfl rfl))
theorem zr_81_14 : zOK zPre 81 14 (s_ld_5 (nat_lit 45067) (nat_lit 16)) := zokE (zld_5 _ _) (ok_ld0 (t := 0) (i := 5) (zrow_iload (md := zmd_81) zh_81 (by decide +kernel) rfl))
theorem zr_81_16 : zOK zPre 81 16 (s_ald (nat_lit 22) (nat_lit 22) (nat_lit 17)) := ok_ald0 (by decide) (by decide) (by decide) (zrow_baload (md := zmd_81) zh_81 (by decide +kernel) rfl)
theorem zr_81_17 : zOK zPre 81 17 (s_ld_4 (nat_lit 45067) (nat_lit 19)) := zokE (zld_4 _ _) (ok_ld0 (t := 0) (i := 4) (zrow_iload (md := zmd_81) zh_81 (by decide +kernel) rfl))
theorem zr_81_19 : zOK zPre 81 19 (s_ic (nat_lit 1) zu_ne (nat_lit 25) (nat_lit 22)) := ok_ic_ne (off := 6) (md := zmd_81) zh_81 (by decide +kernel) (by decide +kernel) rfl
theorem zr_81_22 : zOK zPre 81 22 (s_ld_5 (nat_lit 45067) (nat_lit 24)) := zokE (zld_5 _ _) (ok_ld0 (t := 0) (i := 5) (zrow_iload (md := zmd_81) zh_81 (by decide +kernel) rfl))
theorem zr_81_24 : zOK zPre 81 24 (s_ret (nat_lit 45067)) := ok_ret0 (t := 0) (i := .ireturn) (ty := .int) (md := zmd_81) zh_81 rfl (by decide +kernel) ⟨rfl, rfl⟩
theorem zr_81_25 : zOK zPre 81 25 (s_inc (nat_lit 5) (nat_lit 16) (nat_lit 28)) := ok_inc (n := 1) (md := zmd_81) zh_81 (by decide +kernel) rfl (by decide +kernel)
theorem zr_81_28 : zOK zPre 81 28 (s_go (nat_lit 7)) := ok_go (off := -21) (md := zmd_81) zh_81 (by decide +kernel) (by decide +kernel)
theorem zr_81_31 : zOK zPre 81 31 (s_k (nat_lit 68719476720) (nat_lit 32)) := ok_iconst (n := -1) (md := zmd_81) zh_81 (by decide +kernel) rfl (by decide +kernel)
theorem zr_81_32 : zOK zPre 81 32 (s_ret (nat_lit 45067)) := ok_ret0 (t := 0) (i := .ireturn) (ty := .int) (md := zmd_81) zh_81 rfl (by decide +kernel) ⟨rfl, rfl⟩
theorem zr_82_0 : zOK zPre 82 0 (s_k (nat_lit 0) (nat_lit 1)) := ok_iconst (n := 0) (md := zmd_82) zh_82 (by decide +kernel) rfl (by decide +kernel)
theorem zr_82_1 : zOK zPre 82 1 (s_s1_1 (nat_lit 45067) (nat_lit 2)) := zokE (zs1_1 _ _) (ok_s10 (t := 0) (i := 1) (zrow_istore_n (k := 1) (md := zmd_82) zh_82 (by decide +kernel) rfl rfl))
theorem zr_82_2 : zOK zPre 82 2 (s_ld_0 (nat_lit 1136) (nat_lit 3)) := zokE (zld_0 _ _) (ok_ld0 (t := 4) (i := 0) (zrow_aload_n (k := 0) (md := zmd_82) zh_82 (by decide +kernel) rfl rfl))
theorem zr_82_3 : zOK zPre 82 3 (s_gf (nat_lit 9) (nat_lit 0) (nat_lit 6)) := ok_gf0 (by decide) (zrow_gfN (index := 80) (ref := "ResidueworksModel$Whole") (C := RX10) (T := TX10) (N := 2) (md := zmd_82) zh_82 (by decide +kernel) rfl rfl (by decide) zu_X10 zw_7_39 rfl)
theorem zr_82_6 : zOK zPre 82 6 (s_if (nat_lit 0) zi_eq (nat_lit 26) (nat_lit 9)) := ok_if_eq (off := 20) (md := zmd_82) zh_82 (by decide +kernel) (by decide +kernel) rfl
theorem zr_82_26 : zOK zPre 82 26 (s_ld_0 (nat_lit 1136) (nat_lit 27)) := zokE (zld_0 _ _) (ok_ld0 (t := 4) (i := 0) (zrow_aload_n (k := 0) (md := zmd_82) zh_82 (by decide +kernel) rfl rfl))
theorem zr_82_27 : zOK zPre 82 27 (s_gf (nat_lit 9) (nat_lit 0) (nat_lit 30)) := ok_gf0 (by decide) (zrow_gfN (index := 80) (ref := "ResidueworksModel$Whole") (C := RX10) (T := TX10) (N := 2) (md := zmd_82) zh_82 (by decide +kernel) rfl rfl (by decide) zu_X10 zw_7_39 rfl)
theorem zr_82_30 : zOK zPre 82 30 (s_if (nat_lit 1) zi_ne (nat_lit 37) (nat_lit 33)) := ok_if_ne (off := 7) (md := zmd_82) zh_82 (by decide +kernel) (by decide +kernel) rfl
theorem zr_82_33 : zOK zPre 82 33 (s_k (nat_lit 68719476720) (nat_lit 34)) := ok_iconst (n := -1) (md := zmd_82) zh_82 (by decide +kernel) rfl (by decide +kernel)
theorem zr_82_34 : zOK zPre 82 34 (s_go (nat_lit 38)) := ok_go (off := 4) (md := zmd_82) zh_82 (by decide +kernel) (by decide +kernel)
theorem zr_82_38 : zOK zPre 82 38 (s_ret (nat_lit 45067)) := ok_ret0 (t := 0) (i := .ireturn) (ty := .int) (md := zmd_82) zh_82 rfl (by decide +kernel) ⟨rfl, rfl⟩
theorem zr_83_0 : zOK zPre 83 0 (s_ld_2 (nat_lit 1136) (nat_lit 1)) := zokE (zld_2 _ _) (ok_ld0 (t := 4) (i := 2) (zrow_aload_n (k := 2) (md := zmd_83) zh_83 (by decide +kernel) rfl rfl))
theorem zr_83_1 : zOK zPre 83 1 (s_k (nat_lit 0) (nat_lit 2)) := ok_iconst (n := 0) (md := zmd_83) zh_83 (by decide +kernel) rfl (by decide +kernel)
theorem zr_83_2 : zOK zPre 83 2 (s_ld_0 (nat_lit 1136) (nat_lit 3)) := zokE (zld_0 _ _) (ok_ld0 (t := 4) (i := 0) (zrow_aload_n (k := 0) (md := zmd_83) zh_83 (by decide +kernel) rfl rfl))
theorem zr_83_3 : zOK zPre 83 3 (s_ld_1 (nat_lit 45067) (nat_lit 4)) := zokE (zld_1 _ _) (ok_ld0 (t := 0) (i := 1) (zrow_iload_n (k := 1) (md := zmd_83) zh_83 (by decide +kernel) rfl rfl))
theorem zr_83_4 : zOK zPre 83 4 (s_call (nat_lit 8) (nat_lit 84) (nat_lit 3) (nat_lit 2) (nat_lit 1) [((nat_lit 0), (nat_lit 3), (nat_lit 13)), ((nat_lit 2), (nat_lit 3), (nat_lit 16))] (nat_lit 7)) := ok_call (md := zmd_83) zh_83 zh_84 rfl (by decide) (by decide) (Or.inr (by decide)) zp_84 (zrow_callV (mdc := zmd_84) (index := 34) (md := zmd_83) zh_83 (by decide +kernel) rfl rfl zc_84 rfl (by decide) zw_3_210 zw_3_211 zw_3_212 zw_1_1 zd_84) ⟨⟨by decide, by decide, by decide, by decide, zw_2_226, zw_3_75, zrow_astore_n (k := 3) (md := zmd_83) zh_83 (by decide +kernel) rfl rfl⟩, ⟨⟨by decide, by decide, by decide, by decide, zw_3_196, zw_3_208, zrow_astore_n (k := 3) (md := zmd_83) zh_83 (by decide +kernel) rfl rfl⟩, trivial⟩⟩
theorem zr_83_7 : zOK zPre 83 7 (s_i2l (nat_lit 8)) := ok_i2l (md := zmd_83) zh_83 (by decide +kernel) rfl
theorem zr_83_8 : zOK zPre 83 8 (s_ast (nat_lit 21) (nat_lit 4) (nat_lit 9)) := ok_astL rfl rfl (zrow_lastore (md := zmd_83) zh_83 (by decide +kernel) rfl)
theorem zr_83_9 : zOK zPre 83 9 (s_go (nat_lit 18)) := ok_go (off := 9) (md := zmd_83) zh_83 (by decide +kernel) (by decide +kernel)
theorem zr_83_13 : zOK zPre 83 13 (s_k (nat_lit 16) (nat_lit 14)) := ok_iconst (n := 1) (md := zmd_83) zh_83 (by decide +kernel) rfl (by decide +kernel)
theorem zr_83_14 : zOK zPre 83 14 (s_ret (nat_lit 45067)) := ok_ret0 (t := 0) (i := .ireturn) (ty := .int) (md := zmd_83) zh_83 rfl (by decide +kernel) ⟨rfl, rfl⟩
theorem zr_83_18 : zOK zPre 83 18 (s_k (nat_lit 0) (nat_lit 19)) := ok_iconst (n := 0) (md := zmd_83) zh_83 (by decide +kernel) rfl (by decide +kernel)
theorem zr_83_19 : zOK zPre 83 19 (s_ret (nat_lit 45067)) := ok_ret0 (t := 0) (i := .ireturn) (ty := .int) (md := zmd_83) zh_83 rfl (by decide +kernel) ⟨rfl, rfl⟩
theorem zr_84_0 : zOK zPre 84 0 (s_ld_0 (nat_lit 1136) (nat_lit 1)) := zokE (zld_0 _ _) (ok_ld0 (t := 4) (i := 0) (zrow_aload_n (k := 0) (md := zmd_84) zh_84 (by decide +kernel) rfl rfl))
theorem zr_84_1 : zOK zPre 84 1 (s_ld_1 (nat_lit 45067) (nat_lit 2)) := zokE (zld_1 _ _) (ok_ld0 (t := 0) (i := 1) (zrow_iload_n (k := 1) (md := zmd_84) zh_84 (by decide +kernel) rfl rfl))
theorem zr_84_2 : zOK zPre 84 2 (s_call (nat_lit 8) (nat_lit 26) (nat_lit 2) (nat_lit 2) (nat_lit 1) [] (nat_lit 5)) := ok_call (md := zmd_84) zh_84 zh_26 rfl (by decide) (by decide) (Or.inr (by decide)) zp_26 (zrow_callV (mdc := zmd_26) (index := 72) (md := zmd_84) zh_84 (by decide +kernel) rfl rfl zc_26 rfl (by decide) zw_3_69 zw_3_71 zws_1 zw_1_1 zd_26) trivial
theorem zr_84_5 : zOK zPre 84 5 (s_s1_2 (nat_lit 1136) (nat_lit 6)) := zokE (zs1_2 _ _) (ok_s10 (t := 4) (i := 2) (zrow_astore_n (k := 2) (md := zmd_84) zh_84 (by decide +kernel) rfl rfl))
theorem zr_84_6 : zOK zPre 84 6 (s_ld_2 (nat_lit 1136) (nat_lit 7)) := zokE (zld_2 _ _) (ok_ld0 (t := 4) (i := 2) (zrow_aload_n (k := 2) (md := zmd_84) zh_84 (by decide +kernel) rfl rfl))
theorem zr_84_7 : zOK zPre 84 7 (s_call (nat_lit 7) (nat_lit 27) (nat_lit 2) (nat_lit 1) (nat_lit 1) [] (nat_lit 10)) := ok_call (md := zmd_84) zh_84 zh_27 rfl (by decide) (by decide) (Or.inr (by decide)) zp_27 (zrow_callV (mdc := zmd_27) (index := 80) (md := zmd_84) zh_84 (by decide +kernel) rfl rfl zc_27 rfl (by decide) zw_2_172 zw_2_173 zw_2_174 zw_1_3 zd_27) trivial
theorem zr_84_10 : zOK zPre 84 10 (s_k (nat_lit 496) (nat_lit 12)) := ok_bipush (n := 31) (md := zmd_84) zh_84 (by decide +kernel) rfl (by decide +kernel)
theorem zr_84_12 : zOK zPre 84 12 (s_ic (nat_lit 5) zu_le (nat_lit 25) (nat_lit 15)) := ok_ic_le (off := 13) (md := zmd_84) zh_84 (by decide +kernel) (by decide +kernel) rfl
theorem zr_84_25 : zOK zPre 84 25 (s_ld_2 (nat_lit 1136) (nat_lit 26)) := zokE (zld_2 _ _) (ok_ld0 (t := 4) (i := 2) (zrow_aload_n (k := 2) (md := zmd_84) zh_84 (by decide +kernel) rfl rfl))
theorem zr_84_26 : zOK zPre 84 26 (s_k (nat_lit 0) (nat_lit 27)) := ok_iconst (n := 0) (md := zmd_84) zh_84 (by decide +kernel) rfl (by decide +kernel)
theorem zr_84_27 : zOK zPre 84 27 (s_call (nat_lit 7) (nat_lit 62) (nat_lit 9) (nat_lit 2) (nat_lit 1) [] (nat_lit 30)) := ok_call (md := zmd_84) zh_84 zh_62 rfl (by decide) (by decide) (Or.inr (by decide)) zp_62 (zrow_callV (mdc := zmd_62) (index := 107) (md := zmd_84) zh_84 (by decide +kernel) rfl rfl zc_62 rfl (by decide) zw_2_205 zw_2_206 zw_2_207 zw_1_3 zd_62) trivial
theorem zr_84_30 : zOK zPre 84 30 (s_l2i (nat_lit 31)) := ok_l2i (md := zmd_84) zh_84 (by decide +kernel) rfl
theorem zr_84_31 : zOK zPre 84 31 (s_ret (nat_lit 45067)) := ok_ret0 (t := 0) (i := .ireturn) (ty := .int) (md := zmd_84) zh_84 rfl (by decide +kernel) ⟨rfl, rfl⟩
theorem zr_85_0 : zOK zPre 85 0 (s_ld_0 (nat_lit 1136) (nat_lit 1)) := zokE (zld_0 _ _) (ok_ld0 (t := 4) (i := 0) (zrow_aload_n (k := 0) (md := zmd_85) zh_85 (by decide +kernel) rfl rfl))
theorem zr_85_1 : zOK zPre 85 1 (s_k (nat_lit 16) (nat_lit 2)) := ok_iconst (n := 1) (md := zmd_85) zh_85 (by decide +kernel) rfl (by decide +kernel)
theorem zr_85_2 : zOK zPre 85 2 (s_na (nat_lit 20) (nat_lit 0) (nat_lit 4)) := ok_na0 (by decide) rfl (zrow_na20 (md := zmd_85) zh_85 (by decide +kernel) rfl zw_1_83)
theorem zr_85_4 : zOK zPre 85 4 (s_dup (nat_lit 5)) := ok_dup (md := zmd_85) zh_85 (by decide +kernel) rfl
theorem zr_85_5 : zOK zPre 85 5 (s_k (nat_lit 0) (nat_lit 6)) := ok_iconst (n := 0) (md := zmd_85) zh_85 (by decide +kernel) rfl (by decide +kernel)
theorem zr_85_6 : zOK zPre 85 6 (s_ld_1 (nat_lit 45067) (nat_lit 7)) := zokE (zld_1 _ _) (ok_ld0 (t := 0) (i := 1) (zrow_iload_n (k := 1) (md := zmd_85) zh_85 (by decide +kernel) rfl rfl))
theorem zr_85_7 : zOK zPre 85 7 (s_ast (nat_lit 20) (nat_lit 0) (nat_lit 8)) := ok_astI (Or.inl rfl) (Or.inl rfl) (zrow_iastore (md := zmd_85) zh_85 (by decide +kernel) rfl)
theorem zr_85_8 : zOK zPre 85 8 (s_call (nat_lit 99) (nat_lit 32) (nat_lit 6) (nat_lit 1) (nat_lit 1) [] (nat_lit 11)) := ok_call (md := zmd_85) zh_85 zh_32 rfl (by decide) (by decide) (Or.inl rfl) zp_32 (zrow_callS (mdc := zmd_32) (index := 176) (md := zmd_85) zh_85 (by decide +kernel) rfl rfl zc_32 zw_7_74 zw_7_75 zw_1_10 zd_32) trivial
theorem zr_85_11 : zOK zPre 85 11 (s_k (nat_lit 16) (nat_lit 12)) := ok_iconst (n := 1) (md := zmd_85) zh_85 (by decide +kernel) rfl (by decide +kernel)
theorem zr_85_12 : zOK zPre 85 12 (s_call (nat_lit 10) (nat_lit 34) (nat_lit 3) (nat_lit 3) (nat_lit 1) [] (nat_lit 15)) := ok_call (md := zmd_85) zh_85 zh_34 rfl (by decide) (by decide) (Or.inr (by decide)) zp_34 (zrow_callV (mdc := zmd_34) (index := 180) (md := zmd_85) zh_85 (by decide +kernel) rfl rfl zc_34 rfl (by decide) zw_7_81 zw_7_83 zws_33 zw_1_10 zd_34) trivial
theorem zr_85_15 : zOK zPre 85 15 (s_if (nat_lit 1) zi_ne (nat_lit 45) (nat_lit 18)) := ok_if_ne (off := 30) (md := zmd_85) zh_85 (by decide +kernel) (by decide +kernel) rfl
theorem zr_85_18 : zOK zPre 85 18 (s_ld_0 (nat_lit 1136) (nat_lit 19)) := zokE (zld_0 _ _) (ok_ld0 (t := 4) (i := 0) (zrow_aload_n (k := 0) (md := zmd_85) zh_85 (by decide +kernel) rfl rfl))
theorem zr_85_19 : zOK zPre 85 19 (s_ld_0 (nat_lit 1136) (nat_lit 20)) := zokE (zld_0 _ _) (ok_ld0 (t := 4) (i := 0) (zrow_aload_n (k := 0) (md := zmd_85) zh_85 (by decide +kernel) rfl rfl))
theorem zr_85_20 : zOK zPre 85 20 (s_gf (nat_lit 10) (nat_lit 0) (nat_lit 23)) := ok_gf0 (by decide) (zrow_gf (index := 144) (ref := "ResidueworksModel") (C := RX11) (T := TX11) (N := 6) (md := zmd_85) zh_85 (by decide +kernel) rfl rfl (by decide) zu_X11 zw_7_47 rfl)
theorem zr_85_23 : zOK zPre 85 23 (s_ld_1 (nat_lit 45067) (nat_lit 24)) := zokE (zld_1 _ _) (ok_ld0 (t := 0) (i := 1) (zrow_iload_n (k := 1) (md := zmd_85) zh_85 (by decide +kernel) rfl rfl))
theorem zr_85_24 : zOK zPre 85 24 (s_ald (nat_lit 25) (nat_lit 29) (nat_lit 25)) := ok_ald0 (by decide) (by decide) (by decide) (zrow_aaload (md := zmd_85) zh_85 (by decide +kernel) rfl)
theorem zr_85_25 : zOK zPre 85 25 (s_call (nat_lit 9) (nat_lit 36) (nat_lit 1) (nat_lit 1) (nat_lit 1) [] (nat_lit 28)) := ok_call (md := zmd_85) zh_85 zh_36 rfl (by decide) (by decide) (Or.inr (by decide)) zp_36 (zrow_callVN (mdc := zmd_36) (index := 124) (md := zmd_85) zh_85 (by decide +kernel) rfl rfl zc_36 rfl (by decide) zw_7_89 zw_7_91 zws_35 zw_1_19 zd_36) trivial
theorem zr_85_28 : zOK zPre 85 28 (s_k (nat_lit 496) (nat_lit 30)) := ok_bipush (n := 31) (md := zmd_85) zh_85 (by decide +kernel) rfl (by decide +kernel)
theorem zr_85_30 : zOK zPre 85 30 (s_ic (nat_lit 4) zu_gt (nat_lit 37) (nat_lit 33)) := ok_ic_gt (off := 7) (md := zmd_85) zh_85 (by decide +kernel) (by decide +kernel) rfl
theorem zr_85_33 : zOK zPre 85 33 (s_k (nat_lit 16) (nat_lit 34)) := ok_iconst (n := 1) (md := zmd_85) zh_85 (by decide +kernel) rfl (by decide +kernel)
theorem zr_85_34 : zOK zPre 85 34 (s_go (nat_lit 38)) := ok_go (off := 4) (md := zmd_85) zh_85 (by decide +kernel) (by decide +kernel)
theorem zr_85_38 : zOK zPre 85 38 (s_k (nat_lit 32) (nat_lit 39)) := ok_iconst (n := 2) (md := zmd_85) zh_85 (by decide +kernel) rfl (by decide +kernel)
theorem zr_85_39 : zOK zPre 85 39 (s_call (nat_lit 10) (nat_lit 34) (nat_lit 3) (nat_lit 3) (nat_lit 1) [] (nat_lit 42)) := ok_call (md := zmd_85) zh_85 zh_34 rfl (by decide) (by decide) (Or.inr (by decide)) zp_34 (zrow_callV (mdc := zmd_34) (index := 180) (md := zmd_85) zh_85 (by decide +kernel) rfl rfl zc_34 rfl (by decide) zw_7_81 zw_7_83 zws_33 zw_1_10 zd_34) trivial
theorem zr_85_42 : zOK zPre 85 42 (s_if (nat_lit 0) zi_eq (nat_lit 47) (nat_lit 45)) := ok_if_eq (off := 5) (md := zmd_85) zh_85 (by decide +kernel) (by decide +kernel) rfl
theorem zr_85_45 : zOK zPre 85 45 (s_k (nat_lit 0) (nat_lit 46)) := ok_iconst (n := 0) (md := zmd_85) zh_85 (by decide +kernel) rfl (by decide +kernel)
theorem zr_85_46 : zOK zPre 85 46 (s_ret (nat_lit 45067)) := ok_ret0 (t := 0) (i := .ireturn) (ty := .int) (md := zmd_85) zh_85 rfl (by decide +kernel) ⟨rfl, rfl⟩
theorem zr_85_47 : zOK zPre 85 47 (s_ld_0 (nat_lit 1136) (nat_lit 48)) := zokE (zld_0 _ _) (ok_ld0 (t := 4) (i := 0) (zrow_aload_n (k := 0) (md := zmd_85) zh_85 (by decide +kernel) rfl rfl))
theorem zr_85_48 : zOK zPre 85 48 (s_gf (nat_lit 10) (nat_lit 0) (nat_lit 51)) := ok_gf0 (by decide) (zrow_gf (index := 144) (ref := "ResidueworksModel") (C := RX11) (T := TX11) (N := 6) (md := zmd_85) zh_85 (by decide +kernel) rfl rfl (by decide) zu_X11 zw_7_47 rfl)
theorem zr_85_51 : zOK zPre 85 51 (s_ld_1 (nat_lit 45067) (nat_lit 52)) := zokE (zld_1 _ _) (ok_ld0 (t := 0) (i := 1) (zrow_iload_n (k := 1) (md := zmd_85) zh_85 (by decide +kernel) rfl rfl))
theorem zr_85_52 : zOK zPre 85 52 (s_ald (nat_lit 25) (nat_lit 29) (nat_lit 53)) := ok_ald0 (by decide) (by decide) (by decide) (zrow_aaload (md := zmd_85) zh_85 (by decide +kernel) rfl)
theorem zr_85_53 : zOK zPre 85 53 (s_k (nat_lit 0) (nat_lit 54)) := ok_iconst (n := 0) (md := zmd_85) zh_85 (by decide +kernel) rfl (by decide +kernel)
theorem zr_85_54 : zOK zPre 85 54 (s_call (nat_lit 99) (nat_lit 65) (nat_lit 5) (nat_lit 2) (nat_lit 1) [] (nat_lit 57)) := ok_call (md := zmd_85) zh_85 zh_65 rfl (by decide) (by decide) (Or.inl rfl) zp_65 (zrow_callS (mdc := zmd_65) (index := 201) (md := zmd_85) zh_85 (by decide +kernel) rfl rfl zc_65 zw_7_166 zw_7_167 zw_1_10 zd_65) trivial
theorem zr_85_57 : zOK zPre 85 57 (s_l2i (nat_lit 58)) := ok_l2i (md := zmd_85) zh_85 (by decide +kernel) rfl
theorem zr_85_58 : zOK zPre 85 58 (s_ret (nat_lit 45067)) := ok_ret0 (t := 0) (i := .ireturn) (ty := .int) (md := zmd_85) zh_85 rfl (by decide +kernel) ⟨rfl, rfl⟩
theorem zr_86_0 : zOK zPre 86 0 (s_ld_3 (nat_lit 1136) (nat_lit 1)) := zokE (zld_3 _ _) (ok_ld0 (t := 4) (i := 3) (zrow_aload_n (k := 3) (md := zmd_86) zh_86 (by decide +kernel) rfl rfl))
theorem zr_86_1 : zOK zPre 86 1 (s_k (nat_lit 0) (nat_lit 2)) := ok_iconst (n := 0) (md := zmd_86) zh_86 (by decide +kernel) rfl (by decide +kernel)
theorem zr_86_2 : zOK zPre 86 2 (s_ld_0 (nat_lit 1136) (nat_lit 3)) := zokE (zld_0 _ _) (ok_ld0 (t := 4) (i := 0) (zrow_aload_n (k := 0) (md := zmd_86) zh_86 (by decide +kernel) rfl rfl))
theorem zr_86_3 : zOK zPre 86 3 (s_ld_1 (nat_lit 45067) (nat_lit 4)) := zokE (zld_1 _ _) (ok_ld0 (t := 0) (i := 1) (zrow_iload_n (k := 1) (md := zmd_86) zh_86 (by decide +kernel) rfl rfl))
theorem zr_86_4 : zOK zPre 86 4 (s_ld_2 (nat_lit 45067) (nat_lit 5)) := zokE (zld_2 _ _) (ok_ld0 (t := 0) (i := 2) (zrow_iload_n (k := 2) (md := zmd_86) zh_86 (by decide +kernel) rfl rfl))
theorem zr_86_5 : zOK zPre 86 5 (s_call (nat_lit 8) (nat_lit 87) (nat_lit 4) (nat_lit 3) (nat_lit 1) [((nat_lit 0), (nat_lit 4), (nat_lit 15))] (nat_lit 8)) := ok_call (md := zmd_86) zh_86 zh_87 rfl (by decide) (by decide) (Or.inr (by decide)) zp_87 (zrow_callV (mdc := zmd_87) (index := 40) (md := zmd_86) zh_86 (by decide +kernel) rfl rfl zc_87 rfl (by decide) zw_3_220 zw_3_221 zw_3_222 zw_1_1 zd_87) ⟨⟨by decide, by decide, by decide, by decide, zw_2_226, zw_3_75, zrow_astore (md := zmd_86) zh_86 (by decide +kernel) rfl⟩, trivial⟩
theorem zr_86_8 : zOK zPre 86 8 (s_i2l (nat_lit 9)) := ok_i2l (md := zmd_86) zh_86 (by decide +kernel) rfl
theorem zr_86_9 : zOK zPre 86 9 (s_ast (nat_lit 21) (nat_lit 4) (nat_lit 10)) := ok_astL rfl rfl (zrow_lastore (md := zmd_86) zh_86 (by decide +kernel) rfl)
theorem zr_86_10 : zOK zPre 86 10 (s_go (nat_lit 17)) := ok_go (off := 7) (md := zmd_86) zh_86 (by decide +kernel) (by decide +kernel)
theorem zr_86_15 : zOK zPre 86 15 (s_k (nat_lit 16) (nat_lit 16)) := ok_iconst (n := 1) (md := zmd_86) zh_86 (by decide +kernel) rfl (by decide +kernel)
theorem zr_86_16 : zOK zPre 86 16 (s_ret (nat_lit 45067)) := ok_ret0 (t := 0) (i := .ireturn) (ty := .int) (md := zmd_86) zh_86 rfl (by decide +kernel) ⟨rfl, rfl⟩
theorem zr_86_17 : zOK zPre 86 17 (s_k (nat_lit 0) (nat_lit 18)) := ok_iconst (n := 0) (md := zmd_86) zh_86 (by decide +kernel) rfl (by decide +kernel)
theorem zr_86_18 : zOK zPre 86 18 (s_ret (nat_lit 45067)) := ok_ret0 (t := 0) (i := .ireturn) (ty := .int) (md := zmd_86) zh_86 rfl (by decide +kernel) ⟨rfl, rfl⟩
theorem zr_87_0 : zOK zPre 87 0 (s_ld_0 (nat_lit 1136) (nat_lit 1)) := zokE (zld_0 _ _) (ok_ld0 (t := 4) (i := 0) (zrow_aload_n (k := 0) (md := zmd_87) zh_87 (by decide +kernel) rfl rfl))
theorem zr_87_1 : zOK zPre 87 1 (s_ld_1 (nat_lit 45067) (nat_lit 2)) := zokE (zld_1 _ _) (ok_ld0 (t := 0) (i := 1) (zrow_iload_n (k := 1) (md := zmd_87) zh_87 (by decide +kernel) rfl rfl))
theorem zr_87_2 : zOK zPre 87 2 (s_call (nat_lit 8) (nat_lit 26) (nat_lit 2) (nat_lit 2) (nat_lit 1) [] (nat_lit 5)) := ok_call (md := zmd_87) zh_87 zh_26 rfl (by decide) (by decide) (Or.inr (by decide)) zp_26 (zrow_callV (mdc := zmd_26) (index := 72) (md := zmd_87) zh_87 (by decide +kernel) rfl rfl zc_26 rfl (by decide) zw_3_69 zw_3_71 zws_1 zw_1_1 zd_26) trivial
theorem zr_87_5 : zOK zPre 87 5 (s_s1_3 (nat_lit 1136) (nat_lit 6)) := zokE (zs1_3 _ _) (ok_s10 (t := 4) (i := 3) (zrow_astore_n (k := 3) (md := zmd_87) zh_87 (by decide +kernel) rfl rfl))
theorem zr_87_6 : zOK zPre 87 6 (s_ld_3 (nat_lit 1136) (nat_lit 7)) := zokE (zld_3 _ _) (ok_ld0 (t := 4) (i := 3) (zrow_aload_n (k := 3) (md := zmd_87) zh_87 (by decide +kernel) rfl rfl))
theorem zr_87_7 : zOK zPre 87 7 (s_ld_0 (nat_lit 1136) (nat_lit 8)) := zokE (zld_0 _ _) (ok_ld0 (t := 4) (i := 0) (zrow_aload_n (k := 0) (md := zmd_87) zh_87 (by decide +kernel) rfl rfl))
theorem zr_87_8 : zOK zPre 87 8 (s_ld_2 (nat_lit 45067) (nat_lit 9)) := zokE (zld_2 _ _) (ok_ld0 (t := 0) (i := 2) (zrow_iload_n (k := 2) (md := zmd_87) zh_87 (by decide +kernel) rfl rfl))
theorem zr_87_9 : zOK zPre 87 9 (s_call (nat_lit 8) (nat_lit 26) (nat_lit 2) (nat_lit 2) (nat_lit 1) [] (nat_lit 12)) := ok_call (md := zmd_87) zh_87 zh_26 rfl (by decide) (by decide) (Or.inr (by decide)) zp_26 (zrow_callV (mdc := zmd_26) (index := 72) (md := zmd_87) zh_87 (by decide +kernel) rfl rfl zc_26 rfl (by decide) zw_3_69 zw_3_71 zws_1 zw_1_1 zd_26) trivial
theorem zr_87_12 : zOK zPre 87 12 (s_call (nat_lit 7) (nat_lit 89) (nat_lit 2) (nat_lit 2) (nat_lit 1) [] (nat_lit 15)) := ok_call (md := zmd_87) zh_87 zh_89 rfl (by decide) (by decide) (Or.inr (by decide)) zp_89 (zrow_callV (mdc := zmd_89) (index := 133) (md := zmd_87) zh_87 (by decide +kernel) rfl rfl zc_89 rfl (by decide) zw_3_224 zw_3_225 zw_3_226 zw_1_3 zd_89) trivial
theorem zr_87_15 : zOK zPre 87 15 (s_ret (nat_lit 45067)) := ok_ret0 (t := 0) (i := .ireturn) (ty := .int) (md := zmd_87) zh_87 rfl (by decide +kernel) ⟨rfl, rfl⟩
theorem zr_88_0 : zOK zPre 88 0 (s_ld_0 (nat_lit 1136) (nat_lit 1)) := zokE (zld_0 _ _) (ok_ld0 (t := 4) (i := 0) (zrow_aload_n (k := 0) (md := zmd_88) zh_88 (by decide +kernel) rfl rfl))
theorem zr_88_1 : zOK zPre 88 1 (s_k (nat_lit 32) (nat_lit 2)) := ok_iconst (n := 2) (md := zmd_88) zh_88 (by decide +kernel) rfl (by decide +kernel)
theorem zr_88_2 : zOK zPre 88 2 (s_na (nat_lit 20) (nat_lit 0) (nat_lit 4)) := ok_na0 (by decide) rfl (zrow_na20 (md := zmd_88) zh_88 (by decide +kernel) rfl zw_1_83)
theorem zr_88_4 : zOK zPre 88 4 (s_dup (nat_lit 5)) := ok_dup (md := zmd_88) zh_88 (by decide +kernel) rfl
theorem zr_88_5 : zOK zPre 88 5 (s_k (nat_lit 0) (nat_lit 6)) := ok_iconst (n := 0) (md := zmd_88) zh_88 (by decide +kernel) rfl (by decide +kernel)
theorem zr_88_6 : zOK zPre 88 6 (s_ld_1 (nat_lit 45067) (nat_lit 7)) := zokE (zld_1 _ _) (ok_ld0 (t := 0) (i := 1) (zrow_iload_n (k := 1) (md := zmd_88) zh_88 (by decide +kernel) rfl rfl))
theorem zr_88_7 : zOK zPre 88 7 (s_ast (nat_lit 20) (nat_lit 0) (nat_lit 8)) := ok_astI (Or.inl rfl) (Or.inl rfl) (zrow_iastore (md := zmd_88) zh_88 (by decide +kernel) rfl)
theorem zr_88_8 : zOK zPre 88 8 (s_dup (nat_lit 9)) := ok_dup (md := zmd_88) zh_88 (by decide +kernel) rfl
theorem zr_88_9 : zOK zPre 88 9 (s_k (nat_lit 16) (nat_lit 10)) := ok_iconst (n := 1) (md := zmd_88) zh_88 (by decide +kernel) rfl (by decide +kernel)
theorem zr_88_10 : zOK zPre 88 10 (s_ld_2 (nat_lit 45067) (nat_lit 11)) := zokE (zld_2 _ _) (ok_ld0 (t := 0) (i := 2) (zrow_iload_n (k := 2) (md := zmd_88) zh_88 (by decide +kernel) rfl rfl))
theorem zr_88_11 : zOK zPre 88 11 (s_ast (nat_lit 20) (nat_lit 0) (nat_lit 12)) := ok_astI (Or.inl rfl) (Or.inl rfl) (zrow_iastore (md := zmd_88) zh_88 (by decide +kernel) rfl)
theorem zr_88_12 : zOK zPre 88 12 (s_call (nat_lit 99) (nat_lit 32) (nat_lit 6) (nat_lit 1) (nat_lit 1) [] (nat_lit 15)) := ok_call (md := zmd_88) zh_88 zh_32 rfl (by decide) (by decide) (Or.inl rfl) zp_32 (zrow_callS (mdc := zmd_32) (index := 176) (md := zmd_88) zh_88 (by decide +kernel) rfl rfl zc_32 zw_7_74 zw_7_75 zw_1_10 zd_32) trivial
theorem zr_88_15 : zOK zPre 88 15 (s_k (nat_lit 16) (nat_lit 16)) := ok_iconst (n := 1) (md := zmd_88) zh_88 (by decide +kernel) rfl (by decide +kernel)
theorem zr_88_16 : zOK zPre 88 16 (s_call (nat_lit 10) (nat_lit 34) (nat_lit 3) (nat_lit 3) (nat_lit 1) [] (nat_lit 19)) := ok_call (md := zmd_88) zh_88 zh_34 rfl (by decide) (by decide) (Or.inr (by decide)) zp_34 (zrow_callV (mdc := zmd_34) (index := 180) (md := zmd_88) zh_88 (by decide +kernel) rfl rfl zc_34 rfl (by decide) zw_7_81 zw_7_83 zws_33 zw_1_10 zd_34) trivial
theorem zr_88_19 : zOK zPre 88 19 (s_if (nat_lit 0) zi_eq (nat_lit 26) (nat_lit 22)) := ok_if_eq (off := 7) (md := zmd_88) zh_88 (by decide +kernel) (by decide +kernel) rfl
theorem zr_88_22 : zOK zPre 88 22 (s_k (nat_lit 0) (nat_lit 23)) := ok_iconst (n := 0) (md := zmd_88) zh_88 (by decide +kernel) rfl (by decide +kernel)
theorem zr_88_23 : zOK zPre 88 23 (s_go (nat_lit 41)) := ok_go (off := 18) (md := zmd_88) zh_88 (by decide +kernel) (by decide +kernel)
theorem zr_88_26 : zOK zPre 88 26 (s_ld_0 (nat_lit 1136) (nat_lit 27)) := zokE (zld_0 _ _) (ok_ld0 (t := 4) (i := 0) (zrow_aload_n (k := 0) (md := zmd_88) zh_88 (by decide +kernel) rfl rfl))
theorem zr_88_27 : zOK zPre 88 27 (s_gf (nat_lit 10) (nat_lit 0) (nat_lit 30)) := ok_gf0 (by decide) (zrow_gf (index := 144) (ref := "ResidueworksModel") (C := RX11) (T := TX11) (N := 6) (md := zmd_88) zh_88 (by decide +kernel) rfl rfl (by decide) zu_X11 zw_7_47 rfl)
theorem zr_88_30 : zOK zPre 88 30 (s_ld_1 (nat_lit 45067) (nat_lit 31)) := zokE (zld_1 _ _) (ok_ld0 (t := 0) (i := 1) (zrow_iload_n (k := 1) (md := zmd_88) zh_88 (by decide +kernel) rfl rfl))
theorem zr_88_31 : zOK zPre 88 31 (s_ald (nat_lit 25) (nat_lit 29) (nat_lit 32)) := ok_ald0 (by decide) (by decide) (by decide) (zrow_aaload (md := zmd_88) zh_88 (by decide +kernel) rfl)
theorem zr_88_32 : zOK zPre 88 32 (s_ld_0 (nat_lit 1136) (nat_lit 33)) := zokE (zld_0 _ _) (ok_ld0 (t := 4) (i := 0) (zrow_aload_n (k := 0) (md := zmd_88) zh_88 (by decide +kernel) rfl rfl))
theorem zr_88_33 : zOK zPre 88 33 (s_gf (nat_lit 10) (nat_lit 0) (nat_lit 36)) := ok_gf0 (by decide) (zrow_gf (index := 144) (ref := "ResidueworksModel") (C := RX11) (T := TX11) (N := 6) (md := zmd_88) zh_88 (by decide +kernel) rfl rfl (by decide) zu_X11 zw_7_47 rfl)
theorem zr_88_36 : zOK zPre 88 36 (s_ld_2 (nat_lit 45067) (nat_lit 37)) := zokE (zld_2 _ _) (ok_ld0 (t := 0) (i := 2) (zrow_iload_n (k := 2) (md := zmd_88) zh_88 (by decide +kernel) rfl rfl))
theorem zr_88_37 : zOK zPre 88 37 (s_ald (nat_lit 25) (nat_lit 29) (nat_lit 38)) := ok_ald0 (by decide) (by decide) (by decide) (zrow_aaload (md := zmd_88) zh_88 (by decide +kernel) rfl)
theorem zr_88_38 : zOK zPre 88 38 (s_call (nat_lit 9) (nat_lit 91) (nat_lit 2) (nat_lit 2) (nat_lit 1) [] (nat_lit 41)) := ok_call (md := zmd_88) zh_88 zh_91 rfl (by decide) (by decide) (Or.inr (by decide)) zp_91 (zrow_callVN (mdc := zmd_91) (index := 120) (md := zmd_88) zh_88 (by decide +kernel) rfl rfl zc_91 rfl (by decide) zw_8_41 zw_8_43 zws_43 zw_1_19 zd_91) trivial
theorem zr_88_41 : zOK zPre 88 41 (s_ret (nat_lit 45067)) := ok_ret0 (t := 0) (i := .ireturn) (ty := .int) (md := zmd_88) zh_88 rfl (by decide +kernel) ⟨rfl, rfl⟩
theorem zr_89_0 : zOK zPre 89 0 (s_ld_0 (nat_lit 1136) (nat_lit 1)) := zokE (zld_0 _ _) (ok_ld0 (t := 4) (i := 0) (zrow_aload_n (k := 0) (md := zmd_89) zh_89 (by decide +kernel) rfl rfl))
theorem zr_89_1 : zOK zPre 89 1 (s_gf (nat_lit 7) (nat_lit 2) (nat_lit 4)) := ok_gf0 (by decide) (zrow_gf (index := 17) (ref := "Residueworks$Whole") (C := RX8) (T := TX8) (N := 3) (md := zmd_89) zh_89 (by decide +kernel) rfl rfl (by decide) zu_X8 zw_1_69 rfl)
theorem zr_89_4 : zOK zPre 89 4 (s_ld_1 (nat_lit 1136) (nat_lit 5)) := zokE (zld_1 _ _) (ok_ld0 (t := 4) (i := 1) (zrow_aload_n (k := 1) (md := zmd_89) zh_89 (by decide +kernel) rfl rfl))
theorem zr_89_5 : zOK zPre 89 5 (s_gf (nat_lit 7) (nat_lit 2) (nat_lit 8)) := ok_gf0 (by decide) (zrow_gf (index := 17) (ref := "Residueworks$Whole") (C := RX8) (T := TX8) (N := 3) (md := zmd_89) zh_89 (by decide +kernel) rfl rfl (by decide) zu_X8 zw_1_69 rfl)
theorem zr_89_8 : zOK zPre 89 8 (s_ic (nat_lit 0) zu_eq (nat_lit 28) (nat_lit 11)) := ok_ic_eq (off := 20) (md := zmd_89) zh_89 (by decide +kernel) (by decide +kernel) rfl
theorem zr_89_11 : zOK zPre 89 11 (s_ld_0 (nat_lit 1136) (nat_lit 12)) := zokE (zld_0 _ _) (ok_ld0 (t := 4) (i := 0) (zrow_aload_n (k := 0) (md := zmd_89) zh_89 (by decide +kernel) rfl rfl))
theorem zr_89_12 : zOK zPre 89 12 (s_gf (nat_lit 7) (nat_lit 2) (nat_lit 15)) := ok_gf0 (by decide) (zrow_gf (index := 17) (ref := "Residueworks$Whole") (C := RX8) (T := TX8) (N := 3) (md := zmd_89) zh_89 (by decide +kernel) rfl rfl (by decide) zu_X8 zw_1_69 rfl)
theorem zr_89_15 : zOK zPre 89 15 (s_ld_1 (nat_lit 1136) (nat_lit 16)) := zokE (zld_1 _ _) (ok_ld0 (t := 4) (i := 1) (zrow_aload_n (k := 1) (md := zmd_89) zh_89 (by decide +kernel) rfl rfl))
theorem zr_89_16 : zOK zPre 89 16 (s_gf (nat_lit 7) (nat_lit 2) (nat_lit 19)) := ok_gf0 (by decide) (zrow_gf (index := 17) (ref := "Residueworks$Whole") (C := RX8) (T := TX8) (N := 3) (md := zmd_89) zh_89 (by decide +kernel) rfl rfl (by decide) zu_X8 zw_1_69 rfl)
theorem zr_89_19 : zOK zPre 89 19 (s_ic (nat_lit 3) zu_ge (nat_lit 26) (nat_lit 22)) := ok_ic_ge (off := 7) (md := zmd_89) zh_89 (by decide +kernel) (by decide +kernel) rfl
theorem zr_89_22 : zOK zPre 89 22 (s_k (nat_lit 68719476720) (nat_lit 23)) := ok_iconst (n := -1) (md := zmd_89) zh_89 (by decide +kernel) rfl (by decide +kernel)
theorem zr_89_23 : zOK zPre 89 23 (s_go (nat_lit 27)) := ok_go (off := 4) (md := zmd_89) zh_89 (by decide +kernel) (by decide +kernel)
theorem zr_89_26 : zOK zPre 89 26 (s_k (nat_lit 16) (nat_lit 27)) := ok_iconst (n := 1) (md := zmd_89) zh_89 (by decide +kernel) rfl (by decide +kernel)
theorem zr_89_27 : zOK zPre 89 27 (s_ret (nat_lit 45067)) := ok_ret0 (t := 0) (i := .ireturn) (ty := .int) (md := zmd_89) zh_89 rfl (by decide +kernel) ⟨rfl, rfl⟩
theorem zr_89_28 : zOK zPre 89 28 (s_ld_0 (nat_lit 1136) (nat_lit 29)) := zokE (zld_0 _ _) (ok_ld0 (t := 4) (i := 0) (zrow_aload_n (k := 0) (md := zmd_89) zh_89 (by decide +kernel) rfl rfl))
theorem zr_89_29 : zOK zPre 89 29 (s_gf (nat_lit 7) (nat_lit 2) (nat_lit 32)) := ok_gf0 (by decide) (zrow_gf (index := 17) (ref := "Residueworks$Whole") (C := RX8) (T := TX8) (N := 3) (md := zmd_89) zh_89 (by decide +kernel) rfl rfl (by decide) zu_X8 zw_1_69 rfl)
theorem zr_89_32 : zOK zPre 89 32 (s_if (nat_lit 3) zi_ge (nat_lit 43) (nat_lit 35)) := ok_if_ge (off := 11) (md := zmd_89) zh_89 (by decide +kernel) (by decide +kernel) rfl
theorem zr_89_43 : zOK zPre 89 43 (s_ld_0 (nat_lit 1136) (nat_lit 44)) := zokE (zld_0 _ _) (ok_ld0 (t := 4) (i := 0) (zrow_aload_n (k := 0) (md := zmd_89) zh_89 (by decide +kernel) rfl rfl))
theorem zr_89_44 : zOK zPre 89 44 (s_ld_1 (nat_lit 1136) (nat_lit 45)) := zokE (zld_1 _ _) (ok_ld0 (t := 4) (i := 1) (zrow_aload_n (k := 1) (md := zmd_89) zh_89 (by decide +kernel) rfl rfl))
theorem zr_89_45 : zOK zPre 89 45 (s_call (nat_lit 7) (nat_lit 90) (nat_lit 3) (nat_lit 2) (nat_lit 1) [] (nat_lit 48)) := ok_call (md := zmd_89) zh_89 zh_90 rfl (by decide) (by decide) (Or.inr (by decide)) zp_90 (zrow_callV (mdc := zmd_90) (index := 80) (md := zmd_89) zh_89 (by decide +kernel) rfl rfl zc_90 rfl (by decide) zw_3_228 zw_3_229 zw_3_230 zw_1_3 zd_90) trivial
theorem zr_89_48 : zOK zPre 89 48 (s_ret (nat_lit 45067)) := ok_ret0 (t := 0) (i := .ireturn) (ty := .int) (md := zmd_89) zh_89 rfl (by decide +kernel) ⟨rfl, rfl⟩
theorem zr_90_0 : zOK zPre 90 0 (s_ld_0 (nat_lit 1136) (nat_lit 1)) := zokE (zld_0 _ _) (ok_ld0 (t := 4) (i := 0) (zrow_aload_n (k := 0) (md := zmd_90) zh_90 (by decide +kernel) rfl rfl))
theorem zr_90_1 : zOK zPre 90 1 (s_gf (nat_lit 7) (nat_lit 1) (nat_lit 4)) := ok_gf0 (by decide) (zrow_gf (index := 13) (ref := "Residueworks$Whole") (C := RX8) (T := TX8) (N := 3) (md := zmd_90) zh_90 (by decide +kernel) rfl rfl (by decide) zu_X8 zw_1_66 rfl)
theorem zr_90_4 : zOK zPre 90 4 (s_ld_1 (nat_lit 1136) (nat_lit 5)) := zokE (zld_1 _ _) (ok_ld0 (t := 4) (i := 1) (zrow_aload_n (k := 1) (md := zmd_90) zh_90 (by decide +kernel) rfl rfl))
theorem zr_90_5 : zOK zPre 90 5 (s_gf (nat_lit 7) (nat_lit 1) (nat_lit 8)) := ok_gf0 (by decide) (zrow_gf (index := 13) (ref := "Residueworks$Whole") (C := RX8) (T := TX8) (N := 3) (md := zmd_90) zh_90 (by decide +kernel) rfl rfl (by decide) zu_X8 zw_1_66 rfl)
theorem zr_90_8 : zOK zPre 90 8 (s_ic (nat_lit 0) zu_eq (nat_lit 28) (nat_lit 11)) := ok_ic_eq (off := 20) (md := zmd_90) zh_90 (by decide +kernel) (by decide +kernel) rfl
theorem zr_90_11 : zOK zPre 90 11 (s_ld_0 (nat_lit 1136) (nat_lit 12)) := zokE (zld_0 _ _) (ok_ld0 (t := 4) (i := 0) (zrow_aload_n (k := 0) (md := zmd_90) zh_90 (by decide +kernel) rfl rfl))
theorem zr_90_12 : zOK zPre 90 12 (s_gf (nat_lit 7) (nat_lit 1) (nat_lit 15)) := ok_gf0 (by decide) (zrow_gf (index := 13) (ref := "Residueworks$Whole") (C := RX8) (T := TX8) (N := 3) (md := zmd_90) zh_90 (by decide +kernel) rfl rfl (by decide) zu_X8 zw_1_66 rfl)
theorem zr_90_15 : zOK zPre 90 15 (s_ld_1 (nat_lit 1136) (nat_lit 16)) := zokE (zld_1 _ _) (ok_ld0 (t := 4) (i := 1) (zrow_aload_n (k := 1) (md := zmd_90) zh_90 (by decide +kernel) rfl rfl))
theorem zr_90_16 : zOK zPre 90 16 (s_gf (nat_lit 7) (nat_lit 1) (nat_lit 19)) := ok_gf0 (by decide) (zrow_gf (index := 13) (ref := "Residueworks$Whole") (C := RX8) (T := TX8) (N := 3) (md := zmd_90) zh_90 (by decide +kernel) rfl rfl (by decide) zu_X8 zw_1_66 rfl)
theorem zr_90_19 : zOK zPre 90 19 (s_ic (nat_lit 3) zu_ge (nat_lit 26) (nat_lit 22)) := ok_ic_ge (off := 7) (md := zmd_90) zh_90 (by decide +kernel) (by decide +kernel) rfl
theorem zr_90_22 : zOK zPre 90 22 (s_k (nat_lit 68719476720) (nat_lit 23)) := ok_iconst (n := -1) (md := zmd_90) zh_90 (by decide +kernel) rfl (by decide +kernel)
theorem zr_90_23 : zOK zPre 90 23 (s_go (nat_lit 27)) := ok_go (off := 4) (md := zmd_90) zh_90 (by decide +kernel) (by decide +kernel)
theorem zr_90_27 : zOK zPre 90 27 (s_ret (nat_lit 45067)) := ok_ret0 (t := 0) (i := .ireturn) (ty := .int) (md := zmd_90) zh_90 rfl (by decide +kernel) ⟨rfl, rfl⟩
theorem zr_90_28 : zOK zPre 90 28 (s_ld_0 (nat_lit 1136) (nat_lit 29)) := zokE (zld_0 _ _) (ok_ld0 (t := 4) (i := 0) (zrow_aload_n (k := 0) (md := zmd_90) zh_90 (by decide +kernel) rfl rfl))
theorem zr_90_29 : zOK zPre 90 29 (s_gf (nat_lit 7) (nat_lit 1) (nat_lit 32)) := ok_gf0 (by decide) (zrow_gf (index := 13) (ref := "Residueworks$Whole") (C := RX8) (T := TX8) (N := 3) (md := zmd_90) zh_90 (by decide +kernel) rfl rfl (by decide) zu_X8 zw_1_66 rfl)
theorem zr_90_32 : zOK zPre 90 32 (s_k (nat_lit 16) (nat_lit 33)) := ok_iconst (n := 1) (md := zmd_90) zh_90 (by decide +kernel) rfl (by decide +kernel)
theorem zr_90_33 : zOK zPre 90 33 (s_isub (nat_lit 34)) := ok_isub (md := zmd_90) zh_90 (by decide +kernel) rfl
theorem zr_90_34 : zOK zPre 90 34 (s_s1_2 (nat_lit 45067) (nat_lit 35)) := zokE (zs1_2 _ _) (ok_s10 (t := 0) (i := 2) (zrow_istore_n (k := 2) (md := zmd_90) zh_90 (by decide +kernel) rfl rfl))
theorem zr_90_35 : zOK zPre 90 35 (s_ld_2 (nat_lit 45067) (nat_lit 36)) := zokE (zld_2 _ _) (ok_ld0 (t := 0) (i := 2) (zrow_iload_n (k := 2) (md := zmd_90) zh_90 (by decide +kernel) rfl rfl))
theorem zr_90_36 : zOK zPre 90 36 (s_if (nat_lit 2) zi_lt (nat_lit 77) (nat_lit 39)) := ok_if_lt (off := 41) (md := zmd_90) zh_90 (by decide +kernel) (by decide +kernel) rfl
theorem zr_90_39 : zOK zPre 90 39 (s_ld_0 (nat_lit 1136) (nat_lit 40)) := zokE (zld_0 _ _) (ok_ld0 (t := 4) (i := 0) (zrow_aload_n (k := 0) (md := zmd_90) zh_90 (by decide +kernel) rfl rfl))
theorem zr_90_40 : zOK zPre 90 40 (s_ld_2 (nat_lit 45067) (nat_lit 41)) := zokE (zld_2 _ _) (ok_ld0 (t := 0) (i := 2) (zrow_iload_n (k := 2) (md := zmd_90) zh_90 (by decide +kernel) rfl rfl))
theorem zr_90_41 : zOK zPre 90 41 (s_call (nat_lit 7) (nat_lit 29) (nat_lit 2) (nat_lit 2) (nat_lit 1) [] (nat_lit 44)) := ok_call (md := zmd_90) zh_90 zh_29 rfl (by decide) (by decide) (Or.inr (by decide)) zp_29 (zrow_callV (mdc := zmd_29) (index := 49) (md := zmd_90) zh_90 (by decide +kernel) rfl rfl zc_29 rfl (by decide) zw_2_180 zw_2_181 zw_2_182 zw_1_3 zd_29) trivial
theorem zr_90_44 : zOK zPre 90 44 (s_ld_1 (nat_lit 1136) (nat_lit 45)) := zokE (zld_1 _ _) (ok_ld0 (t := 4) (i := 1) (zrow_aload_n (k := 1) (md := zmd_90) zh_90 (by decide +kernel) rfl rfl))
theorem zr_90_45 : zOK zPre 90 45 (s_ld_2 (nat_lit 45067) (nat_lit 46)) := zokE (zld_2 _ _) (ok_ld0 (t := 0) (i := 2) (zrow_iload_n (k := 2) (md := zmd_90) zh_90 (by decide +kernel) rfl rfl))
theorem zr_90_46 : zOK zPre 90 46 (s_call (nat_lit 7) (nat_lit 29) (nat_lit 2) (nat_lit 2) (nat_lit 1) [] (nat_lit 49)) := ok_call (md := zmd_90) zh_90 zh_29 rfl (by decide) (by decide) (Or.inr (by decide)) zp_29 (zrow_callV (mdc := zmd_29) (index := 49) (md := zmd_90) zh_90 (by decide +kernel) rfl rfl zc_29 rfl (by decide) zw_2_180 zw_2_181 zw_2_182 zw_1_3 zd_29) trivial
theorem zr_90_49 : zOK zPre 90 49 (s_ic (nat_lit 0) zu_eq (nat_lit 71) (nat_lit 52)) := ok_ic_eq (off := 22) (md := zmd_90) zh_90 (by decide +kernel) (by decide +kernel) rfl
theorem zr_90_71 : zOK zPre 90 71 (s_inc (nat_lit 2) (nat_lit 68719476720) (nat_lit 74)) := ok_inc (n := -1) (md := zmd_90) zh_90 (by decide +kernel) rfl (by decide +kernel)
theorem zr_90_74 : zOK zPre 90 74 (s_go (nat_lit 35)) := ok_go (off := -39) (md := zmd_90) zh_90 (by decide +kernel) (by decide +kernel)
theorem zr_90_77 : zOK zPre 90 77 (s_k (nat_lit 0) (nat_lit 78)) := ok_iconst (n := 0) (md := zmd_90) zh_90 (by decide +kernel) rfl (by decide +kernel)
theorem zr_90_78 : zOK zPre 90 78 (s_ret (nat_lit 45067)) := ok_ret0 (t := 0) (i := .ireturn) (ty := .int) (md := zmd_90) zh_90 rfl (by decide +kernel) ⟨rfl, rfl⟩
theorem zr_91_0 : zOK zPre 91 0 (s_ld_0 (nat_lit 1136) (nat_lit 1)) := zokE (zld_0 _ _) (ok_ld0 (t := 4) (i := 0) (zrow_aload_n (k := 0) (md := zmd_91) zh_91 (by decide +kernel) rfl rfl))
theorem zr_91_1 : zOK zPre 91 1 (s_gf (nat_lit 9) (nat_lit 0) (nat_lit 4)) := ok_gf0 (by decide) (zrow_gf (index := 7) (ref := "ResidueworksModel$Whole") (C := RX10) (T := TX10) (N := 2) (md := zmd_91) zh_91 (by decide +kernel) rfl rfl (by decide) zu_X10 zw_7_38 rfl)
theorem zr_91_4 : zOK zPre 91 4 (s_ld_1 (nat_lit 1136) (nat_lit 5)) := zokE (zld_1 _ _) (ok_ld0 (t := 4) (i := 1) (zrow_aload_n (k := 1) (md := zmd_91) zh_91 (by decide +kernel) rfl rfl))
theorem zr_91_5 : zOK zPre 91 5 (s_gf (nat_lit 9) (nat_lit 0) (nat_lit 8)) := ok_gf0 (by decide) (zrow_gf (index := 7) (ref := "ResidueworksModel$Whole") (C := RX10) (T := TX10) (N := 2) (md := zmd_91) zh_91 (by decide +kernel) rfl rfl (by decide) zu_X10 zw_7_38 rfl)
theorem zr_91_8 : zOK zPre 91 8 (s_ic (nat_lit 0) zu_eq (nat_lit 30) (nat_lit 11)) := ok_ic_eq (off := 22) (md := zmd_91) zh_91 (by decide +kernel) (by decide +kernel) rfl
theorem zr_91_11 : zOK zPre 91 11 (s_ld_0 (nat_lit 1136) (nat_lit 12)) := zokE (zld_0 _ _) (ok_ld0 (t := 4) (i := 0) (zrow_aload_n (k := 0) (md := zmd_91) zh_91 (by decide +kernel) rfl rfl))
theorem zr_91_12 : zOK zPre 91 12 (s_gf (nat_lit 9) (nat_lit 0) (nat_lit 15)) := ok_gf0 (by decide) (zrow_gf (index := 7) (ref := "ResidueworksModel$Whole") (C := RX10) (T := TX10) (N := 2) (md := zmd_91) zh_91 (by decide +kernel) rfl rfl (by decide) zu_X10 zw_7_38 rfl)
theorem zr_91_15 : zOK zPre 91 15 (s_ld_1 (nat_lit 1136) (nat_lit 16)) := zokE (zld_1 _ _) (ok_ld0 (t := 4) (i := 1) (zrow_aload_n (k := 1) (md := zmd_91) zh_91 (by decide +kernel) rfl rfl))
theorem zr_91_16 : zOK zPre 91 16 (s_gf (nat_lit 9) (nat_lit 0) (nat_lit 19)) := ok_gf0 (by decide) (zrow_gf (index := 7) (ref := "ResidueworksModel$Whole") (C := RX10) (T := TX10) (N := 2) (md := zmd_91) zh_91 (by decide +kernel) rfl rfl (by decide) zu_X10 zw_7_38 rfl)
theorem zr_91_19 : zOK zPre 91 19 (s_ic (nat_lit 3) zu_ge (nat_lit 26) (nat_lit 22)) := ok_ic_ge (off := 7) (md := zmd_91) zh_91 (by decide +kernel) (by decide +kernel) rfl
theorem zr_91_22 : zOK zPre 91 22 (s_k (nat_lit 68719476720) (nat_lit 23)) := ok_iconst (n := -1) (md := zmd_91) zh_91 (by decide +kernel) rfl (by decide +kernel)
theorem zr_91_23 : zOK zPre 91 23 (s_go (nat_lit 46)) := ok_go (off := 23) (md := zmd_91) zh_91 (by decide +kernel) (by decide +kernel)
theorem zr_91_26 : zOK zPre 91 26 (s_k (nat_lit 16) (nat_lit 27)) := ok_iconst (n := 1) (md := zmd_91) zh_91 (by decide +kernel) rfl (by decide +kernel)
theorem zr_91_27 : zOK zPre 91 27 (s_go (nat_lit 46)) := ok_go (off := 19) (md := zmd_91) zh_91 (by decide +kernel) (by decide +kernel)
theorem zr_91_30 : zOK zPre 91 30 (s_ld_0 (nat_lit 1136) (nat_lit 31)) := zokE (zld_0 _ _) (ok_ld0 (t := 4) (i := 0) (zrow_aload_n (k := 0) (md := zmd_91) zh_91 (by decide +kernel) rfl rfl))
theorem zr_91_31 : zOK zPre 91 31 (s_gf (nat_lit 9) (nat_lit 0) (nat_lit 34)) := ok_gf0 (by decide) (zrow_gf (index := 7) (ref := "ResidueworksModel$Whole") (C := RX10) (T := TX10) (N := 2) (md := zmd_91) zh_91 (by decide +kernel) rfl rfl (by decide) zu_X10 zw_7_38 rfl)
theorem zr_91_34 : zOK zPre 91 34 (s_ld_0 (nat_lit 1136) (nat_lit 35)) := zokE (zld_0 _ _) (ok_ld0 (t := 4) (i := 0) (zrow_aload_n (k := 0) (md := zmd_91) zh_91 (by decide +kernel) rfl rfl))
theorem zr_91_35 : zOK zPre 91 35 (s_gf (nat_lit 9) (nat_lit 1) (nat_lit 38)) := ok_gf0 (by decide) (zrow_gf (index := 13) (ref := "ResidueworksModel$Whole") (C := RX10) (T := TX10) (N := 2) (md := zmd_91) zh_91 (by decide +kernel) rfl rfl (by decide) zu_X10 zw_7_40 rfl)
theorem zr_91_38 : zOK zPre 91 38 (s_ld_1 (nat_lit 1136) (nat_lit 39)) := zokE (zld_1 _ _) (ok_ld0 (t := 4) (i := 1) (zrow_aload_n (k := 1) (md := zmd_91) zh_91 (by decide +kernel) rfl rfl))
theorem zr_91_39 : zOK zPre 91 39 (s_gf (nat_lit 9) (nat_lit 1) (nat_lit 42)) := ok_gf0 (by decide) (zrow_gf (index := 13) (ref := "ResidueworksModel$Whole") (C := RX10) (T := TX10) (N := 2) (md := zmd_91) zh_91 (by decide +kernel) rfl rfl (by decide) zu_X10 zw_7_40 rfl)
theorem zr_91_42 : zOK zPre 91 42 (s_call (nat_lit 99) (nat_lit 92) (nat_lit 3) (nat_lit 2) (nat_lit 1) [] (nat_lit 45)) := ok_call (md := zmd_91) zh_91 zh_92 rfl (by decide) (by decide) (Or.inl rfl) zp_92 (zrow_callSN (mdc := zmd_92) (index := 26) (md := zmd_91) zh_91 (by decide +kernel) rfl rfl zc_92 zw_7_147 zw_7_148 zw_1_10 zd_92) trivial
theorem zr_91_45 : zOK zPre 91 45 (s_imul (nat_lit 46)) := ok_imul (md := zmd_91) zh_91 (by decide +kernel) rfl
theorem zr_91_46 : zOK zPre 91 46 (s_ret (nat_lit 45067)) := ok_ret0 (t := 0) (i := .ireturn) (ty := .int) (md := zmd_91) zh_91 rfl (by decide +kernel) ⟨rfl, rfl⟩
theorem zr_92_0 : zOK zPre 92 0 (s_ld_0 (nat_lit 1136) (nat_lit 1)) := zokE (zld_0 _ _) (ok_ld0 (t := 4) (i := 0) (zrow_aload_n (k := 0) (md := zmd_92) zh_92 (by decide +kernel) rfl rfl))
theorem zr_92_1 : zOK zPre 92 1 (s_al (nat_lit 2)) := ok_al (md := zmd_92) zh_92 (by decide +kernel) rfl
theorem zr_92_2 : zOK zPre 92 2 (s_ld_1 (nat_lit 1136) (nat_lit 3)) := zokE (zld_1 _ _) (ok_ld0 (t := 4) (i := 1) (zrow_aload_n (k := 1) (md := zmd_92) zh_92 (by decide +kernel) rfl rfl))
theorem zr_92_3 : zOK zPre 92 3 (s_al (nat_lit 4)) := ok_al (md := zmd_92) zh_92 (by decide +kernel) rfl
theorem zr_92_4 : zOK zPre 92 4 (s_ic (nat_lit 0) zu_eq (nat_lit 20) (nat_lit 7)) := ok_ic_eq (off := 16) (md := zmd_92) zh_92 (by decide +kernel) (by decide +kernel) rfl
theorem zr_92_20 : zOK zPre 92 20 (s_ld_0 (nat_lit 1136) (nat_lit 21)) := zokE (zld_0 _ _) (ok_ld0 (t := 4) (i := 0) (zrow_aload_n (k := 0) (md := zmd_92) zh_92 (by decide +kernel) rfl rfl))
theorem zr_92_21 : zOK zPre 92 21 (s_al (nat_lit 22)) := ok_al (md := zmd_92) zh_92 (by decide +kernel) rfl
theorem zr_92_22 : zOK zPre 92 22 (s_k (nat_lit 16) (nat_lit 23)) := ok_iconst (n := 1) (md := zmd_92) zh_92 (by decide +kernel) rfl (by decide +kernel)
theorem zr_92_23 : zOK zPre 92 23 (s_isub (nat_lit 24)) := ok_isub (md := zmd_92) zh_92 (by decide +kernel) rfl
theorem zr_92_24 : zOK zPre 92 24 (s_s1_2 (nat_lit 45067) (nat_lit 25)) := zokE (zs1_2 _ _) (ok_s10 (t := 0) (i := 2) (zrow_istore_n (k := 2) (md := zmd_92) zh_92 (by decide +kernel) rfl rfl))
theorem zr_92_25 : zOK zPre 92 25 (s_ld_2 (nat_lit 45067) (nat_lit 26)) := zokE (zld_2 _ _) (ok_ld0 (t := 0) (i := 2) (zrow_iload_n (k := 2) (md := zmd_92) zh_92 (by decide +kernel) rfl rfl))
theorem zr_92_26 : zOK zPre 92 26 (s_if (nat_lit 2) zi_lt (nat_lit 59) (nat_lit 29)) := ok_if_lt (off := 33) (md := zmd_92) zh_92 (by decide +kernel) (by decide +kernel) rfl
theorem zr_92_59 : zOK zPre 92 59 (s_k (nat_lit 0) (nat_lit 60)) := ok_iconst (n := 0) (md := zmd_92) zh_92 (by decide +kernel) rfl (by decide +kernel)
theorem zr_92_60 : zOK zPre 92 60 (s_ret (nat_lit 45067)) := ok_ret0 (t := 0) (i := .ireturn) (ty := .int) (md := zmd_92) zh_92 rfl (by decide +kernel) ⟨rfl, rfl⟩
theorem zr_93_0 : zOK zPre 93 0 (s_ld_5 (nat_lit 1136) (nat_lit 2)) := zokE (zld_5 _ _) (ok_ld0 (t := 4) (i := 5) (zrow_aload (md := zmd_93) zh_93 (by decide +kernel) rfl))
theorem zr_93_2 : zOK zPre 93 2 (s_k (nat_lit 0) (nat_lit 3)) := ok_iconst (n := 0) (md := zmd_93) zh_93 (by decide +kernel) rfl (by decide +kernel)
theorem zr_93_3 : zOK zPre 93 3 (s_ld_0 (nat_lit 1136) (nat_lit 4)) := zokE (zld_0 _ _) (ok_ld0 (t := 4) (i := 0) (zrow_aload_n (k := 0) (md := zmd_93) zh_93 (by decide +kernel) rfl rfl))
theorem zr_93_4 : zOK zPre 93 4 (s_ld_1 (nat_lit 45067) (nat_lit 5)) := zokE (zld_1 _ _) (ok_ld0 (t := 0) (i := 1) (zrow_iload_n (k := 1) (md := zmd_93) zh_93 (by decide +kernel) rfl rfl))
theorem zr_93_5 : zOK zPre 93 5 (s_ld_2 (nat_lit 45067) (nat_lit 6)) := zokE (zld_2 _ _) (ok_ld0 (t := 0) (i := 2) (zrow_iload_n (k := 2) (md := zmd_93) zh_93 (by decide +kernel) rfl rfl))
theorem zr_93_6 : zOK zPre 93 6 (s_ld_3 (nat_lit 45067) (nat_lit 7)) := zokE (zld_3 _ _) (ok_ld0 (t := 0) (i := 3) (zrow_iload_n (k := 3) (md := zmd_93) zh_93 (by decide +kernel) rfl rfl))
theorem zr_93_7 : zOK zPre 93 7 (s_ld_4 (nat_lit 45067) (nat_lit 9)) := zokE (zld_4 _ _) (ok_ld0 (t := 0) (i := 4) (zrow_iload (md := zmd_93) zh_93 (by decide +kernel) rfl))
theorem zr_93_9 : zOK zPre 93 9 (s_call (nat_lit 8) (nat_lit 94) (nat_lit 8) (nat_lit 5) (nat_lit 1) [((nat_lit 0), (nat_lit 6), (nat_lit 19)), ((nat_lit 1), (nat_lit 6), (nat_lit 23)), ((nat_lit 2), (nat_lit 6), (nat_lit 27)), ((nat_lit 3), (nat_lit 6), (nat_lit 31))] (nat_lit 12)) := ok_call (md := zmd_93) zh_93 zh_94 rfl (by decide) (by decide) (Or.inr (by decide)) zp_94 (zrow_callV (mdc := zmd_94) (index := 43) (md := zmd_93) zh_93 (by decide +kernel) rfl rfl zc_94 rfl (by decide) zw_3_235 zw_3_236 zw_3_237 zw_1_1 zd_94) ⟨⟨by decide, by decide, by decide, by decide, zw_2_226, zw_3_75, zrow_astore (md := zmd_93) zh_93 (by decide +kernel) rfl⟩, ⟨⟨by decide, by decide, by decide, by decide, zw_3_149, zw_3_160, zrow_astore (md := zmd_93) zh_93 (by decide +kernel) rfl⟩, ⟨⟨by decide, by decide, by decide, by decide, zw_3_196, zw_3_208, zrow_astore (md := zmd_93) zh_93 (by decide +kernel) rfl⟩, ⟨⟨by decide, by decide, by decide, by decide, zw_3_90, zw_3_118, zrow_astore (md := zmd_93) zh_93 (by decide +kernel) rfl⟩, trivial⟩⟩⟩⟩
theorem zr_93_12 : zOK zPre 93 12 (s_i2l (nat_lit 13)) := ok_i2l (md := zmd_93) zh_93 (by decide +kernel) rfl
theorem zr_93_13 : zOK zPre 93 13 (s_ast (nat_lit 21) (nat_lit 4) (nat_lit 14)) := ok_astL rfl rfl (zrow_lastore (md := zmd_93) zh_93 (by decide +kernel) rfl)
theorem zr_93_14 : zOK zPre 93 14 (s_go (nat_lit 33)) := ok_go (off := 19) (md := zmd_93) zh_93 (by decide +kernel) (by decide +kernel)
end RowsOK
